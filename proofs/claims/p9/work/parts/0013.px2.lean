theorem px_isr_m1 : fx_c_X9_isRight (-1) = 1 := if_pos rfl
theorem px_isr_no {w : Int32} (h : ¬ w = -1) : fx_c_X9_isRight w = 0 := if_neg h
theorem px_skip (q : Nat) : fx_c_X9_skip (nI q) = nI (q + 1) := nI_1 q
theorem px_ix : ∀ j, j < 256 → (fx_c_J0_indexOf_0f7a4_4 (((nI j).toUInt32 % 65536).toInt32) = -1 ∧ tq_lt (nI j) = false) ∨ (¬ fx_c_J0_indexOf_0f7a4_4 (((nI j).toUInt32 % 65536).toInt32) = -1 ∧ ¬ fx_c_J0_indexOf_0f7a4_4 (((nI j).toUInt32 % 65536).toInt32) < 0 ∧ tq_lt (nI j) = true) := by decide +kernel
theorem px_c_X4_readAtom_6 {c : Nat → Int32} {n : Nat} (hT : TB c n) {p : Nat} (hp : p ≤ n) (L : Int32) (C : Nat → Int32) : CS n (-1) (tq_atom c n (tq_S c n 0) p) (fx_c_X4_readAtom_6 (nI n) (nI p) (-1) c L C).1 (fx_c_X4_readAtom_6 (nI n) (nI p) (-1) c L C).2.1 := by
  have hn := hT.2
  have g3 := tq_pk_ge (c := c) hp
  have g5 := tq_pk_le (c := c) hp
  have hpk := px_c_X9_peek hT hp
  obtain ⟨m1, m2, m3⟩ := px_c_X9_number_1 hT g5
  have m5 := (tq_nm_bd (c := c) (n := n) (k := 3) g5).2.1
  by_cases h1 : tq_ch c n (tq_pk c n p) = -1
  · have es : tq_atom c n (tq_S c n 0) p = tq_nm c n 3 (tq_pk c n p) := by unfold tq_atom; rw [if_neg (by rw [h1]; decide), if_neg (by rw [h1]; decide)]
    have e : fx_c_X4_readAtom_6 (nI n) (nI p) (-1) c L C = fx_c_X4_readAtom_6_p20 (nI n) (-1) c L C (nI (tq_pk c n p)) := by simp only [fx_c_X4_readAtom_6, exc2, hpk]; rw [if_pos h1]
    rw [e, es]
    simp only [fx_c_X4_readAtom_6_p20, exc2, exc1]
    cases hb : (tq_nm c n 3 (tq_pk c n p)).1 with
    | true =>
      have r1 := RG_m1 (m2 hb)
      rw [if_neg r1, if_neg r1]
      show CS n (-1) _ (fx_c_X9_number_1 (nI n) (nI (tq_pk c n p)) c).2 (-1)
      rw [m1]
      exact CS_okp hb m5
    | false =>
      rw [if_pos (m3 hb)]
      show CS n (-1) _ (fx_c_X9_number_1 (nI n) (nI (tq_pk c n p)) c).2 (if (-1 : Int32) = -1 then (fx_c_X9_number_1 (nI n) (nI (tq_pk c n p)) c).2 else -1)
      rw [if_pos rfl, m1]
      exact CS_nop hb m5
  · have hr := tq_ch_RG0 hT h1
    obtain ⟨j, hj, ej⟩ := RG_nI hr (by decide)
    have h0 : (0 : Int32) ≤ tq_ch c n (tq_pk c n p) := by rw [Int32.le_iff_toInt_le, Int32.toInt_zero]; exact hr.1
    have hix := px_ix j hj
    rw [← ej] at hix
    rcases hix with ⟨i1, i2⟩ | ⟨i1, i2, i3⟩
    · have e : fx_c_X4_readAtom_6 (nI n) (nI p) (-1) c L C = fx_c_X4_readAtom_6_p20b (nI n) (-1) c L C (tq_ch c n (tq_pk c n p)) (nI (tq_pk c n p)) := by simp only [fx_c_X4_readAtom_6, exc1, exc2, exl, hpk]; rw [if_neg h1, if_pos h0, if_pos i1]
      rw [e]
      by_cases h91 : tq_ch c n (tq_pk c n p) = 91
      · have es : tq_atom c n (tq_S c n 0) p = (false, tq_pk c n p) := by unfold tq_atom; rw [if_neg (by rw [i2]; decide), if_pos h91]; rfl
        rw [es]
        simp only [fx_c_X4_readAtom_6_p20b, exc1]
        rw [if_pos h91]
        exact CS_no g5
      · have es : tq_atom c n (tq_S c n 0) p = tq_nm c n 3 (tq_pk c n p) := by unfold tq_atom; rw [if_neg (by rw [i2]; decide), if_neg h91]
        rw [es]
        simp only [fx_c_X4_readAtom_6_p20b, exc2, exc1]
        rw [if_neg h91]
        cases hb : (tq_nm c n 3 (tq_pk c n p)).1 with
        | true =>
          have r1 := RG_m1 (m2 hb)
          rw [if_neg r1, if_neg r1]
          show CS n (-1) _ (fx_c_X9_number_1 (nI n) (nI (tq_pk c n p)) c).2 (-1)
          rw [m1]
          exact CS_okp hb m5
        | false =>
          rw [if_pos (m3 hb)]
          show CS n (-1) _ (fx_c_X9_number_1 (nI n) (nI (tq_pk c n p)) c).2 (if (-1 : Int32) = -1 then (fx_c_X9_number_1 (nI n) (nI (tq_pk c n p)) c).2 else -1)
          rw [if_pos rfl, m1]
          exact CS_nop hb m5
    · have g4 := tq_A_lt tq_lt_m1 i3
      have es : tq_atom c n (tq_S c n 0) p = (true, tq_pk c n p + 1) := by unfold tq_atom; rw [if_pos i3]
      have e : fx_c_X4_readAtom_6 (nI n) (nI p) (-1) c L C = fx_c_X4_readAtom_6_p20c (-1) L C (fx_c_J0_indexOf_0f7a4_4 (((tq_ch c n (tq_pk c n p)).toUInt32 % 65536).toInt32)) (nI (tq_pk c n p)) := by simp only [fx_c_X4_readAtom_6, exc1, exc2, exl, hpk]; rw [if_neg h1, if_pos h0, if_neg i1]
      rw [e, es]
      simp only [fx_c_X4_readAtom_6_p20c, exc1, exc2, exl]
      rw [if_neg i2, px_skip]
      exact CS_ok (by omega)
theorem fs_c_X4_readSum_6_p8 (h1_f1 : Int32) (h1_0c : Nat → Int32) (F : Nat) (j8_l5 : Int32) (j8_l4 : Int32) (j8_l3 : Int32) (j8_h1_f2 : Int32) (j8_h1_f3 : Int32) (j8_h0_f1 : Int32) (j8_h0_0c : (Nat → Int32)) : fx_c_X4_readSum_6_p8 h1_f1 h1_0c (F + 1) j8_l5 j8_l4 j8_l3 j8_h1_f2 j8_h1_f3 j8_h0_f1 j8_h0_0c = ((if j8_l5 = j8_l5 then (if 240 ≤ j8_l5 then (j8_h1_f2, j8_h1_f3, j8_h0_f1, j8_h0_0c) else (exc1 (fx_c_X9_isRight j8_h1_f3) fun (r_35 : Int32) => (if r_35 = 0 then (j8_h1_f2, j8_h1_f3, j8_h0_f1, j8_h0_0c) else (exc4 (fx_c_X4_readAtom_6 h1_f1 j8_h1_f2 j8_h1_f3 h1_0c j8_h0_f1 j8_h0_0c) fun (x_45 : Int32) (x_46 : Int32) (x_47 : Int32) (w_48 : Nat → Int32) => (if j8_l3 = 0 then (fx_c_X4_readSum_6_p39 h1_f1 h1_0c j8_l5 j8_l4 (fx_c_X4_readSum_6_p8 h1_f1 h1_0c F) x_45 x_46 x_47 w_48) else (exl (-j8_l3) fun (x_56 : Int32) => (exc2 (fx_c_X4_emit x_56 x_47 w_48) fun (x_59 : Int32) (w_60 : Nat → Int32) => (fx_c_X4_readSum_6_p39 h1_f1 h1_0c j8_l5 j8_l4 (fx_c_X4_readSum_6_p8 h1_f1 h1_0c F) x_45 x_46 x_59 w_60)))))))) else default) : Int32 × Int32 × Int32 × (Nat → Int32)) := rfl
theorem px_c_X4_readSum_6_64 {c : Nat → Int32} {n : Nat} (hT : TB c n) (hn : n ≤ 240) (k : Int32 → Int32 → Int32 → Int32 → Int32 → Int32 → (Nat → Int32) → Int32 × Int32 × Int32 × (Nat → Int32)) (i q : Nat) (hq : q ≤ n) (w l3 L : Int32) (C : Nat → Int32)
    (hk : w = -1 → ∀ (l4 l3 L : Int32) (C : Nat → Int32), tq_pk c n q + 1 ≤ n → CS n (-1) (tq_SM c n 0 (tq_pk c n q + 1)) (k (nI (i + 1)) l4 l3 (nI (tq_pk c n q + 1)) (-1) L C).1 (k (nI (i + 1)) l4 l3 (nI (tq_pk c n q + 1)) (-1) L C).2.1) :
    CS n w (tq_lp c n tq_as (tq_SM c n 0) q) (fx_c_X4_readSum_6_p64 (nI n) c (nI i) k l3 (nI q) w L C).1 (fx_c_X4_readSum_6_p64 (nI n) c (nI i) k l3 (nI q) w L C).2.1 := by
  have g5 := tq_pk_le (c := c) hq
  have ht := px_c_X9_takeEither hT hq (x := 43) (y := 45) (w := w) (by decide) (by decide)
  simp only [fx_c_X4_readSum_6_p64, exc2]
  by_cases hw : w = -1
  · subst hw
    by_cases hm : tq_ch c n (tq_pk c n q) = 43 ∨ tq_ch c n (tq_pk c n q) = 45
    · have hA : tq_as (tq_ch c n (tq_pk c n q)) = true := by rcases hm with z | z <;> rw [z] <;> decide
      have h0 : ¬ tq_ch c n (tq_pk c n q) = 0 := by rcases hm with z | z <;> rw [z] <;> decide
      have g4 : tq_pk c n q < n := tq_A_lt (A := tq_as) (by decide) hA
      rw [if_pos ⟨rfl, hm⟩] at ht
      rw [ht, tq_lp_t hA]
      simp only []
      rw [if_neg h0]
      simp only [fx_c_X4_readSum_6_p80, exl, nI_1]
      exact hk rfl _ _ _ _ (by omega)
    · have hA : tq_as (tq_ch c n (tq_pk c n q)) = false := tq_bf (fun z => hm (by simpa [tq_as, Bool.or_eq_true] using z))
      rw [if_neg (fun z => hm z.2)] at ht
      rw [ht, if_pos rfl, tq_lp_f hA]
      exact CS_ok g5
  · rw [if_neg (fun z => hw z.1)] at ht
    rw [ht, if_pos rfl]
    exact CS_dead hw g5 rfl
theorem px_c_X4_readSum_6_39 {c : Nat → Int32} {n : Nat} (hT : TB c n) (hn : n ≤ 240) (k : Int32 → Int32 → Int32 → Int32 → Int32 → Int32 → (Nat → Int32) → Int32 × Int32 × Int32 × (Nat → Int32)) (i q : Nat) (hq : q ≤ n) (w l4 L : Int32) (C : Nat → Int32)
    (hk : w = -1 → ∀ (l4 l3 L : Int32) (C : Nat → Int32), tq_pk c n q + 1 ≤ n → CS n (-1) (tq_SM c n 0 (tq_pk c n q + 1)) (k (nI (i + 1)) l4 l3 (nI (tq_pk c n q + 1)) (-1) L C).1 (k (nI (i + 1)) l4 l3 (nI (tq_pk c n q + 1)) (-1) L C).2.1) :
    CS n w (tq_lp c n tq_mas (tq_SM c n 0) q) (fx_c_X4_readSum_6_p39 (nI n) c (nI i) l4 k (nI q) w L C).1 (fx_c_X4_readSum_6_p39 (nI n) c (nI i) l4 k (nI q) w L C).2.1 := by
  have g5 := tq_pk_le (c := c) hq
  have ht := px_c_X9_takeEither hT hq (x := 42) (y := 47) (w := w) (by decide) (by decide)
  simp only [fx_c_X4_readSum_6_p39, exc2, exl]
  have hpp := tq_pk_pk (c := c) hq
  by_cases hm : w = -1 ∧ (tq_ch c n (tq_pk c n q) = 42 ∨ tq_ch c n (tq_pk c n q) = 47)
  · obtain ⟨hw, hm⟩ := hm
    subst hw
    have hA : tq_mas (tq_ch c n (tq_pk c n q)) = true := by rcases hm with z | z <;> rw [z] <;> decide
    have h0 : ¬ tq_ch c n (tq_pk c n q) = 0 := by rcases hm with z | z <;> rw [z] <;> decide
    have g4 : tq_pk c n q < n := tq_A_lt tq_mas_m1 hA
    rw [if_pos ⟨rfl, hm⟩] at ht
    rw [ht, tq_lp_t hA]
    simp only []
    rw [if_neg h0]
    simp only [fx_c_X4_readSum_6_p80, exl, nI_1]
    exact hk rfl _ _ _ _ (by omega)
  · rw [if_neg hm] at ht
    rw [ht, if_pos rfl]
    have hs : ∀ (L : Int32) (C : Nat → Int32), CS n w (tq_lp c n tq_mas (tq_SM c n 0) q) (fx_c_X4_readSum_6_p64 (nI n) c (nI i) k 0 (nI (tq_pk c n q)) w L C).1 (fx_c_X4_readSum_6_p64 (nI n) c (nI i) k 0 (nI (tq_pk c n q)) w L C).2.1 := fun L C => by
      have h9 := px_c_X4_readSum_6_64 hT hn k i (tq_pk c n q) g5 w 0 L C (by rw [hpp]; exact hk)
      by_cases hw : w = -1
      · refine CS_e h9 ?_
        have hf : tq_md (tq_ch c n (tq_pk c n q)) = false := tq_bf (fun z => hm ⟨hw, by simpa [tq_md, Bool.or_eq_true] using z⟩)
        unfold tq_lp
        rw [hpp]
        unfold tq_mas
        rw [hf, Bool.false_or]
      · exact CS_any hw h9
    by_cases hl : l4 = 0
    · rw [if_pos hl]
      exact hs _ _
    · rw [if_neg hl]
      exact hs _ _
theorem px_c_X4_readSum_6_8 {c : Nat → Int32} {n : Nat} (hT : TB c n) : ∀ (F i : Nat) (l4 l3 : Int32) (p : Nat) (w L : Int32) (C : Nat → Int32), p ≤ n → 2 * i ≤ p → n < p + F → CS n w (tq_SM c n 0 p) (fx_c_X4_readSum_6_p8 (nI n) c F (nI i) l4 l3 (nI p) w L C).1 (fx_c_X4_readSum_6_p8 (nI n) c F (nI i) l4 l3 (nI p) w L C).2.1 := by
  have hn := hT.2
  intro F
  induction F with
  | zero => intro i l4 l3 p w L C h1 h2 h3; omega
  | succ F ih =>
    intro i l4 l3 p w L C h1 h2 h3
    have hi : ¬ (240 : Int32) ≤ nI i := nI_ge (a := i) (b := 240) (by omega) (by omega)
    rw [fs_c_X4_readSum_6_p8, if_pos rfl, if_neg hi]
    by_cases hw : w = -1
    · subst hw
      simp only [exc1, exc4, exc2, exl]
      rw [px_isr_m1, if_neg (by decide)]
      have ha := px_c_X4_readAtom_6 hT h1 L C
      have hg := tq_atom_PG (c := c) (tq_S_PG (c := c) (n := n) 0) p h1
      have hs : ∀ (L2 : Int32) (C2 : Nat → Int32), CS n (-1) (tq_SM c n 0 p) (fx_c_X4_readSum_6_p39 (nI n) c (nI i) l4 (fx_c_X4_readSum_6_p8 (nI n) c F) (fx_c_X4_readAtom_6 (nI n) (nI p) (-1) c L C).1 (fx_c_X4_readAtom_6 (nI n) (nI p) (-1) c L C).2.1 L2 C2).1 (fx_c_X4_readSum_6_p39 (nI n) c (nI i) l4 (fx_c_X4_readSum_6_p8 (nI n) c F) (fx_c_X4_readAtom_6 (nI n) (nI p) (-1) c L C).1 (fx_c_X4_readAtom_6 (nI n) (nI p) (-1) c L C).2.1 L2 C2).2.1 := fun L2 C2 => by
        rw [tq_SM_eq h1]
        refine CS_bind hn ha hg.1 (fun q hq eq hpr => ?_)
        rw [eq]
        have g3 := tq_pk_ge (c := c) hq
        refine px_c_X4_readSum_6_39 hT hn _ i q hq _ l4 L2 C2 (fun z l4 l3 L C h9 => ?_)
        obtain ⟨_, z2, z3⟩ := hpr z
        have z4 := hg.2 z2
        exact ih (i + 1) l4 l3 (tq_pk c n q + 1) (-1) L C h9 (by omega) (by omega)
      by_cases hl : l3 = 0
      · rw [if_pos hl]
        exact hs _ _
      · rw [if_neg hl]
        exact hs _ _
    · simp only [exc1]
      rw [px_isr_no hw, if_pos rfl]
      exact CS_dead hw h1 rfl
theorem px_c_X4_readSum_6 {c : Nat → Int32} {n : Nat} (hT : TB c n) {p : Nat} (hp : p ≤ n) (w L : Int32) (C : Nat → Int32) : CS n w (tq_SM c n 0 p) (fx_c_X4_readSum_6 (nI n) (nI p) w c L C).1 (fx_c_X4_readSum_6 (nI n) (nI p) w c L C).2.1 := px_c_X4_readSum_6_8 hT exF 0 0 0 p w L C hp (by omega) (by have := hT.2; unfold exF; omega)
theorem px_c_X4_readAtom_5 {c : Nat → Int32} {n : Nat} (hT : TB c n) {p : Nat} (hp : p ≤ n) (L : Int32) (C : Nat → Int32) : CS n (-1) (tq_atom c n (tq_S c n 1) p) (fx_c_X4_readAtom_5 (nI n) (nI p) (-1) c L C).1 (fx_c_X4_readAtom_5 (nI n) (nI p) (-1) c L C).2.1 := by
  have hn := hT.2
  have g3 := tq_pk_ge (c := c) hp
  have g5 := tq_pk_le (c := c) hp
  have hpk := px_c_X9_peek hT hp
  obtain ⟨m1, m2, m3⟩ := px_c_X9_number_1 hT g5
  have m5 := (tq_nm_bd (c := c) (n := n) (k := 3) g5).2.1
  by_cases h1 : tq_ch c n (tq_pk c n p) = -1
  · have es : tq_atom c n (tq_S c n 1) p = tq_nm c n 3 (tq_pk c n p) := by unfold tq_atom; rw [if_neg (by rw [h1]; decide), if_neg (by rw [h1]; decide)]
    have e : fx_c_X4_readAtom_5 (nI n) (nI p) (-1) c L C = fx_c_X4_readAtom_5_p20 (nI n) (-1) c L C (nI (tq_pk c n p)) := by simp only [fx_c_X4_readAtom_5, exc2, hpk]; rw [if_pos h1]
    rw [e, es]
    simp only [fx_c_X4_readAtom_5_p20, exc2, exc1]
    cases hb : (tq_nm c n 3 (tq_pk c n p)).1 with
    | true =>
      have r1 := RG_m1 (m2 hb)
      rw [if_neg r1, if_neg r1]
      show CS n (-1) _ (fx_c_X9_number_1 (nI n) (nI (tq_pk c n p)) c).2 (-1)
      rw [m1]
      exact CS_okp hb m5
    | false =>
      rw [if_pos (m3 hb)]
      show CS n (-1) _ (fx_c_X9_number_1 (nI n) (nI (tq_pk c n p)) c).2 (if (-1 : Int32) = -1 then (fx_c_X9_number_1 (nI n) (nI (tq_pk c n p)) c).2 else -1)
      rw [if_pos rfl, m1]
      exact CS_nop hb m5
  · have hr := tq_ch_RG0 hT h1
    obtain ⟨j, hj, ej⟩ := RG_nI hr (by decide)
    have h0 : (0 : Int32) ≤ tq_ch c n (tq_pk c n p) := by rw [Int32.le_iff_toInt_le, Int32.toInt_zero]; exact hr.1
    have hix := px_ix j hj
    rw [← ej] at hix
    rcases hix with ⟨i1, i2⟩ | ⟨i1, i2, i3⟩
    · have e : fx_c_X4_readAtom_5 (nI n) (nI p) (-1) c L C = fx_c_X4_readAtom_5_p20b (nI n) (-1) c L C (tq_ch c n (tq_pk c n p)) (nI (tq_pk c n p)) := by simp only [fx_c_X4_readAtom_5, exc1, exc2, exl, hpk]; rw [if_neg h1, if_pos h0, if_pos i1]
      rw [e]
      by_cases h91 : tq_ch c n (tq_pk c n p) = 91
      · have g4 := tq_ch_ne h91 (by decide)
        have es : tq_atom c n (tq_S c n 1) p = tq_bind (tq_SM c n 0 (tq_pk c n p + 1)) (tq_ex c n 93) := by unfold tq_atom; rw [if_neg (by rw [i2]; decide), if_pos h91]; rfl
        rw [es]
        simp only [fx_c_X4_readAtom_5_p20b, exc1, exc2, exc4]
        rw [if_pos h91, px_skip]
        refine CS_bind hn (px_c_X4_readSum_6 hT (p := tq_pk c n p + 1) (by omega) (-1) L C) (tq_SM_PG _ (by omega)).1 (fun q hq eq _ => ?_)
        rw [eq]
        have h9 := px_c_X9_expect_2 hT hq (x := 93) (w := (fx_c_X4_readSum_6 (nI n) (nI (tq_pk c n p + 1)) (-1) c L C).2.1) (by decide)
        simp only []
        exact h9
      · have es : tq_atom c n (tq_S c n 1) p = tq_nm c n 3 (tq_pk c n p) := by unfold tq_atom; rw [if_neg (by rw [i2]; decide), if_neg h91]
        rw [es]
        simp only [fx_c_X4_readAtom_5_p20b, exc2, exc1]
        rw [if_neg h91]
        cases hb : (tq_nm c n 3 (tq_pk c n p)).1 with
        | true =>
          have r1 := RG_m1 (m2 hb)
          rw [if_neg r1, if_neg r1]
          show CS n (-1) _ (fx_c_X9_number_1 (nI n) (nI (tq_pk c n p)) c).2 (-1)
          rw [m1]
          exact CS_okp hb m5
        | false =>
          rw [if_pos (m3 hb)]
          show CS n (-1) _ (fx_c_X9_number_1 (nI n) (nI (tq_pk c n p)) c).2 (if (-1 : Int32) = -1 then (fx_c_X9_number_1 (nI n) (nI (tq_pk c n p)) c).2 else -1)
          rw [if_pos rfl, m1]
          exact CS_nop hb m5
    · have g4 := tq_A_lt tq_lt_m1 i3
      have es : tq_atom c n (tq_S c n 1) p = (true, tq_pk c n p + 1) := by unfold tq_atom; rw [if_pos i3]
      have e : fx_c_X4_readAtom_5 (nI n) (nI p) (-1) c L C = fx_c_X4_readAtom_5_p20c (-1) L C (fx_c_J0_indexOf_0f7a4_4 (((tq_ch c n (tq_pk c n p)).toUInt32 % 65536).toInt32)) (nI (tq_pk c n p)) := by simp only [fx_c_X4_readAtom_5, exc1, exc2, exl, hpk]; rw [if_neg h1, if_pos h0, if_neg i1]
      rw [e, es]
      simp only [fx_c_X4_readAtom_5_p20c, exc1, exc2, exl]
      rw [if_neg i2, px_skip]
      exact CS_ok (by omega)
theorem fs_c_X4_readSum_5_p8 (h1_f1 : Int32) (h1_0c : Nat → Int32) (F : Nat) (j8_l5 : Int32) (j8_l4 : Int32) (j8_l3 : Int32) (j8_h1_f2 : Int32) (j8_h1_f3 : Int32) (j8_h0_f1 : Int32) (j8_h0_0c : (Nat → Int32)) : fx_c_X4_readSum_5_p8 h1_f1 h1_0c (F + 1) j8_l5 j8_l4 j8_l3 j8_h1_f2 j8_h1_f3 j8_h0_f1 j8_h0_0c = ((if j8_l5 = j8_l5 then (if 240 ≤ j8_l5 then (j8_h1_f2, j8_h1_f3, j8_h0_f1, j8_h0_0c) else (exc1 (fx_c_X9_isRight j8_h1_f3) fun (r_35 : Int32) => (if r_35 = 0 then (j8_h1_f2, j8_h1_f3, j8_h0_f1, j8_h0_0c) else (exc4 (fx_c_X4_readAtom_5 h1_f1 j8_h1_f2 j8_h1_f3 h1_0c j8_h0_f1 j8_h0_0c) fun (x_45 : Int32) (x_46 : Int32) (x_47 : Int32) (w_48 : Nat → Int32) => (if j8_l3 = 0 then (fx_c_X4_readSum_5_p39 h1_f1 h1_0c j8_l5 j8_l4 (fx_c_X4_readSum_5_p8 h1_f1 h1_0c F) x_45 x_46 x_47 w_48) else (exl (-j8_l3) fun (x_56 : Int32) => (exc2 (fx_c_X4_emit x_56 x_47 w_48) fun (x_59 : Int32) (w_60 : Nat → Int32) => (fx_c_X4_readSum_5_p39 h1_f1 h1_0c j8_l5 j8_l4 (fx_c_X4_readSum_5_p8 h1_f1 h1_0c F) x_45 x_46 x_59 w_60)))))))) else default) : Int32 × Int32 × Int32 × (Nat → Int32)) := rfl
theorem px_c_X4_readSum_5_64 {c : Nat → Int32} {n : Nat} (hT : TB c n) (hn : n ≤ 240) (k : Int32 → Int32 → Int32 → Int32 → Int32 → Int32 → (Nat → Int32) → Int32 × Int32 × Int32 × (Nat → Int32)) (i q : Nat) (hq : q ≤ n) (w l3 L : Int32) (C : Nat → Int32)
    (hk : w = -1 → ∀ (l4 l3 L : Int32) (C : Nat → Int32), tq_pk c n q + 1 ≤ n → CS n (-1) (tq_SM c n 1 (tq_pk c n q + 1)) (k (nI (i + 1)) l4 l3 (nI (tq_pk c n q + 1)) (-1) L C).1 (k (nI (i + 1)) l4 l3 (nI (tq_pk c n q + 1)) (-1) L C).2.1) :
    CS n w (tq_lp c n tq_as (tq_SM c n 1) q) (fx_c_X4_readSum_5_p64 (nI n) c (nI i) k l3 (nI q) w L C).1 (fx_c_X4_readSum_5_p64 (nI n) c (nI i) k l3 (nI q) w L C).2.1 := by
  have g5 := tq_pk_le (c := c) hq
  have ht := px_c_X9_takeEither hT hq (x := 43) (y := 45) (w := w) (by decide) (by decide)
  simp only [fx_c_X4_readSum_5_p64, exc2]
  by_cases hw : w = -1
  · subst hw
    by_cases hm : tq_ch c n (tq_pk c n q) = 43 ∨ tq_ch c n (tq_pk c n q) = 45
    · have hA : tq_as (tq_ch c n (tq_pk c n q)) = true := by rcases hm with z | z <;> rw [z] <;> decide
      have h0 : ¬ tq_ch c n (tq_pk c n q) = 0 := by rcases hm with z | z <;> rw [z] <;> decide
      have g4 : tq_pk c n q < n := tq_A_lt (A := tq_as) (by decide) hA
      rw [if_pos ⟨rfl, hm⟩] at ht
      rw [ht, tq_lp_t hA]
      simp only []
      rw [if_neg h0]
      simp only [fx_c_X4_readSum_5_p80, exl, nI_1]
      exact hk rfl _ _ _ _ (by omega)
    · have hA : tq_as (tq_ch c n (tq_pk c n q)) = false := tq_bf (fun z => hm (by simpa [tq_as, Bool.or_eq_true] using z))
      rw [if_neg (fun z => hm z.2)] at ht
      rw [ht, if_pos rfl, tq_lp_f hA]
      exact CS_ok g5
  · rw [if_neg (fun z => hw z.1)] at ht
    rw [ht, if_pos rfl]
    exact CS_dead hw g5 rfl
theorem px_c_X4_readSum_5_39 {c : Nat → Int32} {n : Nat} (hT : TB c n) (hn : n ≤ 240) (k : Int32 → Int32 → Int32 → Int32 → Int32 → Int32 → (Nat → Int32) → Int32 × Int32 × Int32 × (Nat → Int32)) (i q : Nat) (hq : q ≤ n) (w l4 L : Int32) (C : Nat → Int32)
    (hk : w = -1 → ∀ (l4 l3 L : Int32) (C : Nat → Int32), tq_pk c n q + 1 ≤ n → CS n (-1) (tq_SM c n 1 (tq_pk c n q + 1)) (k (nI (i + 1)) l4 l3 (nI (tq_pk c n q + 1)) (-1) L C).1 (k (nI (i + 1)) l4 l3 (nI (tq_pk c n q + 1)) (-1) L C).2.1) :
    CS n w (tq_lp c n tq_mas (tq_SM c n 1) q) (fx_c_X4_readSum_5_p39 (nI n) c (nI i) l4 k (nI q) w L C).1 (fx_c_X4_readSum_5_p39 (nI n) c (nI i) l4 k (nI q) w L C).2.1 := by
  have g5 := tq_pk_le (c := c) hq
  have ht := px_c_X9_takeEither hT hq (x := 42) (y := 47) (w := w) (by decide) (by decide)
  simp only [fx_c_X4_readSum_5_p39, exc2, exl]
  have hpp := tq_pk_pk (c := c) hq
  by_cases hm : w = -1 ∧ (tq_ch c n (tq_pk c n q) = 42 ∨ tq_ch c n (tq_pk c n q) = 47)
  · obtain ⟨hw, hm⟩ := hm
    subst hw
    have hA : tq_mas (tq_ch c n (tq_pk c n q)) = true := by rcases hm with z | z <;> rw [z] <;> decide
    have h0 : ¬ tq_ch c n (tq_pk c n q) = 0 := by rcases hm with z | z <;> rw [z] <;> decide
    have g4 : tq_pk c n q < n := tq_A_lt tq_mas_m1 hA
    rw [if_pos ⟨rfl, hm⟩] at ht
    rw [ht, tq_lp_t hA]
    simp only []
    rw [if_neg h0]
    simp only [fx_c_X4_readSum_5_p80, exl, nI_1]
    exact hk rfl _ _ _ _ (by omega)
  · rw [if_neg hm] at ht
    rw [ht, if_pos rfl]
    have hs : ∀ (L : Int32) (C : Nat → Int32), CS n w (tq_lp c n tq_mas (tq_SM c n 1) q) (fx_c_X4_readSum_5_p64 (nI n) c (nI i) k 0 (nI (tq_pk c n q)) w L C).1 (fx_c_X4_readSum_5_p64 (nI n) c (nI i) k 0 (nI (tq_pk c n q)) w L C).2.1 := fun L C => by
      have h9 := px_c_X4_readSum_5_64 hT hn k i (tq_pk c n q) g5 w 0 L C (by rw [hpp]; exact hk)
      by_cases hw : w = -1
      · refine CS_e h9 ?_
        have hf : tq_md (tq_ch c n (tq_pk c n q)) = false := tq_bf (fun z => hm ⟨hw, by simpa [tq_md, Bool.or_eq_true] using z⟩)
        unfold tq_lp
        rw [hpp]
        unfold tq_mas
        rw [hf, Bool.false_or]
      · exact CS_any hw h9
    by_cases hl : l4 = 0
    · rw [if_pos hl]
      exact hs _ _
    · rw [if_neg hl]
      exact hs _ _
theorem px_c_X4_readSum_5_8 {c : Nat → Int32} {n : Nat} (hT : TB c n) : ∀ (F i : Nat) (l4 l3 : Int32) (p : Nat) (w L : Int32) (C : Nat → Int32), p ≤ n → 2 * i ≤ p → n < p + F → CS n w (tq_SM c n 1 p) (fx_c_X4_readSum_5_p8 (nI n) c F (nI i) l4 l3 (nI p) w L C).1 (fx_c_X4_readSum_5_p8 (nI n) c F (nI i) l4 l3 (nI p) w L C).2.1 := by
  have hn := hT.2
  intro F
  induction F with
  | zero => intro i l4 l3 p w L C h1 h2 h3; omega
  | succ F ih =>
    intro i l4 l3 p w L C h1 h2 h3
    have hi : ¬ (240 : Int32) ≤ nI i := nI_ge (a := i) (b := 240) (by omega) (by omega)
    rw [fs_c_X4_readSum_5_p8, if_pos rfl, if_neg hi]
    by_cases hw : w = -1
    · subst hw
      simp only [exc1, exc4, exc2, exl]
      rw [px_isr_m1, if_neg (by decide)]
      have ha := px_c_X4_readAtom_5 hT h1 L C
      have hg := tq_atom_PG (c := c) (tq_S_PG (c := c) (n := n) 1) p h1
      have hs : ∀ (L2 : Int32) (C2 : Nat → Int32), CS n (-1) (tq_SM c n 1 p) (fx_c_X4_readSum_5_p39 (nI n) c (nI i) l4 (fx_c_X4_readSum_5_p8 (nI n) c F) (fx_c_X4_readAtom_5 (nI n) (nI p) (-1) c L C).1 (fx_c_X4_readAtom_5 (nI n) (nI p) (-1) c L C).2.1 L2 C2).1 (fx_c_X4_readSum_5_p39 (nI n) c (nI i) l4 (fx_c_X4_readSum_5_p8 (nI n) c F) (fx_c_X4_readAtom_5 (nI n) (nI p) (-1) c L C).1 (fx_c_X4_readAtom_5 (nI n) (nI p) (-1) c L C).2.1 L2 C2).2.1 := fun L2 C2 => by
        rw [tq_SM_eq h1]
        refine CS_bind hn ha hg.1 (fun q hq eq hpr => ?_)
        rw [eq]
        have g3 := tq_pk_ge (c := c) hq
        refine px_c_X4_readSum_5_39 hT hn _ i q hq _ l4 L2 C2 (fun z l4 l3 L C h9 => ?_)
        obtain ⟨_, z2, z3⟩ := hpr z
        have z4 := hg.2 z2
        exact ih (i + 1) l4 l3 (tq_pk c n q + 1) (-1) L C h9 (by omega) (by omega)
      by_cases hl : l3 = 0
      · rw [if_pos hl]
        exact hs _ _
      · rw [if_neg hl]
        exact hs _ _
    · simp only [exc1]
      rw [px_isr_no hw, if_pos rfl]
      exact CS_dead hw h1 rfl
theorem px_c_X4_readSum_5 {c : Nat → Int32} {n : Nat} (hT : TB c n) {p : Nat} (hp : p ≤ n) (w L : Int32) (C : Nat → Int32) : CS n w (tq_SM c n 1 p) (fx_c_X4_readSum_5 (nI n) (nI p) w c L C).1 (fx_c_X4_readSum_5 (nI n) (nI p) w c L C).2.1 := px_c_X4_readSum_5_8 hT exF 0 0 0 p w L C hp (by omega) (by have := hT.2; unfold exF; omega)
theorem px_c_X4_readAtom_4 {c : Nat → Int32} {n : Nat} (hT : TB c n) {p : Nat} (hp : p ≤ n) (L : Int32) (C : Nat → Int32) : CS n (-1) (tq_atom c n (tq_S c n 2) p) (fx_c_X4_readAtom_4 (nI n) (nI p) (-1) c L C).1 (fx_c_X4_readAtom_4 (nI n) (nI p) (-1) c L C).2.1 := by
  have hn := hT.2
  have g3 := tq_pk_ge (c := c) hp
  have g5 := tq_pk_le (c := c) hp
  have hpk := px_c_X9_peek hT hp
  obtain ⟨m1, m2, m3⟩ := px_c_X9_number_1 hT g5
  have m5 := (tq_nm_bd (c := c) (n := n) (k := 3) g5).2.1
  by_cases h1 : tq_ch c n (tq_pk c n p) = -1
  · have es : tq_atom c n (tq_S c n 2) p = tq_nm c n 3 (tq_pk c n p) := by unfold tq_atom; rw [if_neg (by rw [h1]; decide), if_neg (by rw [h1]; decide)]
    have e : fx_c_X4_readAtom_4 (nI n) (nI p) (-1) c L C = fx_c_X4_readAtom_4_p20 (nI n) (-1) c L C (nI (tq_pk c n p)) := by simp only [fx_c_X4_readAtom_4, exc2, hpk]; rw [if_pos h1]
    rw [e, es]
    simp only [fx_c_X4_readAtom_4_p20, exc2, exc1]
    cases hb : (tq_nm c n 3 (tq_pk c n p)).1 with
    | true =>
      have r1 := RG_m1 (m2 hb)
      rw [if_neg r1, if_neg r1]
      show CS n (-1) _ (fx_c_X9_number_1 (nI n) (nI (tq_pk c n p)) c).2 (-1)
      rw [m1]
      exact CS_okp hb m5
    | false =>
      rw [if_pos (m3 hb)]
      show CS n (-1) _ (fx_c_X9_number_1 (nI n) (nI (tq_pk c n p)) c).2 (if (-1 : Int32) = -1 then (fx_c_X9_number_1 (nI n) (nI (tq_pk c n p)) c).2 else -1)
      rw [if_pos rfl, m1]
      exact CS_nop hb m5
  · have hr := tq_ch_RG0 hT h1
    obtain ⟨j, hj, ej⟩ := RG_nI hr (by decide)
    have h0 : (0 : Int32) ≤ tq_ch c n (tq_pk c n p) := by rw [Int32.le_iff_toInt_le, Int32.toInt_zero]; exact hr.1
    have hix := px_ix j hj
    rw [← ej] at hix
    rcases hix with ⟨i1, i2⟩ | ⟨i1, i2, i3⟩
    · have e : fx_c_X4_readAtom_4 (nI n) (nI p) (-1) c L C = fx_c_X4_readAtom_4_p20b (nI n) (-1) c L C (tq_ch c n (tq_pk c n p)) (nI (tq_pk c n p)) := by simp only [fx_c_X4_readAtom_4, exc1, exc2, exl, hpk]; rw [if_neg h1, if_pos h0, if_pos i1]
      rw [e]
      by_cases h91 : tq_ch c n (tq_pk c n p) = 91
      · have g4 := tq_ch_ne h91 (by decide)
        have es : tq_atom c n (tq_S c n 2) p = tq_bind (tq_SM c n 1 (tq_pk c n p + 1)) (tq_ex c n 93) := by unfold tq_atom; rw [if_neg (by rw [i2]; decide), if_pos h91]; rfl
        rw [es]
        simp only [fx_c_X4_readAtom_4_p20b, exc1, exc2, exc4]
        rw [if_pos h91, px_skip]
        refine CS_bind hn (px_c_X4_readSum_5 hT (p := tq_pk c n p + 1) (by omega) (-1) L C) (tq_SM_PG _ (by omega)).1 (fun q hq eq _ => ?_)
        rw [eq]
        have h9 := px_c_X9_expect_2 hT hq (x := 93) (w := (fx_c_X4_readSum_5 (nI n) (nI (tq_pk c n p + 1)) (-1) c L C).2.1) (by decide)
        simp only []
        exact h9
      · have es : tq_atom c n (tq_S c n 2) p = tq_nm c n 3 (tq_pk c n p) := by unfold tq_atom; rw [if_neg (by rw [i2]; decide), if_neg h91]
        rw [es]
        simp only [fx_c_X4_readAtom_4_p20b, exc2, exc1]
        rw [if_neg h91]
        cases hb : (tq_nm c n 3 (tq_pk c n p)).1 with
        | true =>
          have r1 := RG_m1 (m2 hb)
          rw [if_neg r1, if_neg r1]
          show CS n (-1) _ (fx_c_X9_number_1 (nI n) (nI (tq_pk c n p)) c).2 (-1)
          rw [m1]
          exact CS_okp hb m5
        | false =>
          rw [if_pos (m3 hb)]
          show CS n (-1) _ (fx_c_X9_number_1 (nI n) (nI (tq_pk c n p)) c).2 (if (-1 : Int32) = -1 then (fx_c_X9_number_1 (nI n) (nI (tq_pk c n p)) c).2 else -1)
          rw [if_pos rfl, m1]
          exact CS_nop hb m5
    · have g4 := tq_A_lt tq_lt_m1 i3
      have es : tq_atom c n (tq_S c n 2) p = (true, tq_pk c n p + 1) := by unfold tq_atom; rw [if_pos i3]
      have e : fx_c_X4_readAtom_4 (nI n) (nI p) (-1) c L C = fx_c_X4_readAtom_4_p20c (-1) L C (fx_c_J0_indexOf_0f7a4_4 (((tq_ch c n (tq_pk c n p)).toUInt32 % 65536).toInt32)) (nI (tq_pk c n p)) := by simp only [fx_c_X4_readAtom_4, exc1, exc2, exl, hpk]; rw [if_neg h1, if_pos h0, if_neg i1]
      rw [e, es]
      simp only [fx_c_X4_readAtom_4_p20c, exc1, exc2, exl]
      rw [if_neg i2, px_skip]
      exact CS_ok (by omega)
theorem fs_c_X4_readSum_4_p8 (h1_f1 : Int32) (h1_0c : Nat → Int32) (F : Nat) (j8_l5 : Int32) (j8_l4 : Int32) (j8_l3 : Int32) (j8_h1_f2 : Int32) (j8_h1_f3 : Int32) (j8_h0_f1 : Int32) (j8_h0_0c : (Nat → Int32)) : fx_c_X4_readSum_4_p8 h1_f1 h1_0c (F + 1) j8_l5 j8_l4 j8_l3 j8_h1_f2 j8_h1_f3 j8_h0_f1 j8_h0_0c = ((if j8_l5 = j8_l5 then (if 240 ≤ j8_l5 then (j8_h1_f2, j8_h1_f3, j8_h0_f1, j8_h0_0c) else (exc1 (fx_c_X9_isRight j8_h1_f3) fun (r_35 : Int32) => (if r_35 = 0 then (j8_h1_f2, j8_h1_f3, j8_h0_f1, j8_h0_0c) else (exc4 (fx_c_X4_readAtom_4 h1_f1 j8_h1_f2 j8_h1_f3 h1_0c j8_h0_f1 j8_h0_0c) fun (x_45 : Int32) (x_46 : Int32) (x_47 : Int32) (w_48 : Nat → Int32) => (if j8_l3 = 0 then (fx_c_X4_readSum_4_p39 h1_f1 h1_0c j8_l5 j8_l4 (fx_c_X4_readSum_4_p8 h1_f1 h1_0c F) x_45 x_46 x_47 w_48) else (exl (-j8_l3) fun (x_56 : Int32) => (exc2 (fx_c_X4_emit x_56 x_47 w_48) fun (x_59 : Int32) (w_60 : Nat → Int32) => (fx_c_X4_readSum_4_p39 h1_f1 h1_0c j8_l5 j8_l4 (fx_c_X4_readSum_4_p8 h1_f1 h1_0c F) x_45 x_46 x_59 w_60)))))))) else default) : Int32 × Int32 × Int32 × (Nat → Int32)) := rfl
theorem px_c_X4_readSum_4_64 {c : Nat → Int32} {n : Nat} (hT : TB c n) (hn : n ≤ 240) (k : Int32 → Int32 → Int32 → Int32 → Int32 → Int32 → (Nat → Int32) → Int32 × Int32 × Int32 × (Nat → Int32)) (i q : Nat) (hq : q ≤ n) (w l3 L : Int32) (C : Nat → Int32)
    (hk : w = -1 → ∀ (l4 l3 L : Int32) (C : Nat → Int32), tq_pk c n q + 1 ≤ n → CS n (-1) (tq_SM c n 2 (tq_pk c n q + 1)) (k (nI (i + 1)) l4 l3 (nI (tq_pk c n q + 1)) (-1) L C).1 (k (nI (i + 1)) l4 l3 (nI (tq_pk c n q + 1)) (-1) L C).2.1) :
    CS n w (tq_lp c n tq_as (tq_SM c n 2) q) (fx_c_X4_readSum_4_p64 (nI n) c (nI i) k l3 (nI q) w L C).1 (fx_c_X4_readSum_4_p64 (nI n) c (nI i) k l3 (nI q) w L C).2.1 := by
  have g5 := tq_pk_le (c := c) hq
  have ht := px_c_X9_takeEither hT hq (x := 43) (y := 45) (w := w) (by decide) (by decide)
  simp only [fx_c_X4_readSum_4_p64, exc2]
  by_cases hw : w = -1
  · subst hw
    by_cases hm : tq_ch c n (tq_pk c n q) = 43 ∨ tq_ch c n (tq_pk c n q) = 45
    · have hA : tq_as (tq_ch c n (tq_pk c n q)) = true := by rcases hm with z | z <;> rw [z] <;> decide
      have h0 : ¬ tq_ch c n (tq_pk c n q) = 0 := by rcases hm with z | z <;> rw [z] <;> decide
      have g4 : tq_pk c n q < n := tq_A_lt (A := tq_as) (by decide) hA
      rw [if_pos ⟨rfl, hm⟩] at ht
      rw [ht, tq_lp_t hA]
      simp only []
      rw [if_neg h0]
      simp only [fx_c_X4_readSum_4_p80, exl, nI_1]
      exact hk rfl _ _ _ _ (by omega)
    · have hA : tq_as (tq_ch c n (tq_pk c n q)) = false := tq_bf (fun z => hm (by simpa [tq_as, Bool.or_eq_true] using z))
      rw [if_neg (fun z => hm z.2)] at ht
      rw [ht, if_pos rfl, tq_lp_f hA]
      exact CS_ok g5
  · rw [if_neg (fun z => hw z.1)] at ht
    rw [ht, if_pos rfl]
    exact CS_dead hw g5 rfl
theorem px_c_X4_readSum_4_39 {c : Nat → Int32} {n : Nat} (hT : TB c n) (hn : n ≤ 240) (k : Int32 → Int32 → Int32 → Int32 → Int32 → Int32 → (Nat → Int32) → Int32 × Int32 × Int32 × (Nat → Int32)) (i q : Nat) (hq : q ≤ n) (w l4 L : Int32) (C : Nat → Int32)
    (hk : w = -1 → ∀ (l4 l3 L : Int32) (C : Nat → Int32), tq_pk c n q + 1 ≤ n → CS n (-1) (tq_SM c n 2 (tq_pk c n q + 1)) (k (nI (i + 1)) l4 l3 (nI (tq_pk c n q + 1)) (-1) L C).1 (k (nI (i + 1)) l4 l3 (nI (tq_pk c n q + 1)) (-1) L C).2.1) :
    CS n w (tq_lp c n tq_mas (tq_SM c n 2) q) (fx_c_X4_readSum_4_p39 (nI n) c (nI i) l4 k (nI q) w L C).1 (fx_c_X4_readSum_4_p39 (nI n) c (nI i) l4 k (nI q) w L C).2.1 := by
  have g5 := tq_pk_le (c := c) hq
  have ht := px_c_X9_takeEither hT hq (x := 42) (y := 47) (w := w) (by decide) (by decide)
  simp only [fx_c_X4_readSum_4_p39, exc2, exl]
  have hpp := tq_pk_pk (c := c) hq
  by_cases hm : w = -1 ∧ (tq_ch c n (tq_pk c n q) = 42 ∨ tq_ch c n (tq_pk c n q) = 47)
  · obtain ⟨hw, hm⟩ := hm
    subst hw
    have hA : tq_mas (tq_ch c n (tq_pk c n q)) = true := by rcases hm with z | z <;> rw [z] <;> decide
    have h0 : ¬ tq_ch c n (tq_pk c n q) = 0 := by rcases hm with z | z <;> rw [z] <;> decide
    have g4 : tq_pk c n q < n := tq_A_lt tq_mas_m1 hA
    rw [if_pos ⟨rfl, hm⟩] at ht
    rw [ht, tq_lp_t hA]
    simp only []
    rw [if_neg h0]
    simp only [fx_c_X4_readSum_4_p80, exl, nI_1]
    exact hk rfl _ _ _ _ (by omega)
  · rw [if_neg hm] at ht
    rw [ht, if_pos rfl]
    have hs : ∀ (L : Int32) (C : Nat → Int32), CS n w (tq_lp c n tq_mas (tq_SM c n 2) q) (fx_c_X4_readSum_4_p64 (nI n) c (nI i) k 0 (nI (tq_pk c n q)) w L C).1 (fx_c_X4_readSum_4_p64 (nI n) c (nI i) k 0 (nI (tq_pk c n q)) w L C).2.1 := fun L C => by
      have h9 := px_c_X4_readSum_4_64 hT hn k i (tq_pk c n q) g5 w 0 L C (by rw [hpp]; exact hk)
      by_cases hw : w = -1
      · refine CS_e h9 ?_
        have hf : tq_md (tq_ch c n (tq_pk c n q)) = false := tq_bf (fun z => hm ⟨hw, by simpa [tq_md, Bool.or_eq_true] using z⟩)
        unfold tq_lp
        rw [hpp]
        unfold tq_mas
        rw [hf, Bool.false_or]
      · exact CS_any hw h9
    by_cases hl : l4 = 0
    · rw [if_pos hl]
      exact hs _ _
    · rw [if_neg hl]
      exact hs _ _
theorem px_c_X4_readSum_4_8 {c : Nat → Int32} {n : Nat} (hT : TB c n) : ∀ (F i : Nat) (l4 l3 : Int32) (p : Nat) (w L : Int32) (C : Nat → Int32), p ≤ n → 2 * i ≤ p → n < p + F → CS n w (tq_SM c n 2 p) (fx_c_X4_readSum_4_p8 (nI n) c F (nI i) l4 l3 (nI p) w L C).1 (fx_c_X4_readSum_4_p8 (nI n) c F (nI i) l4 l3 (nI p) w L C).2.1 := by
  have hn := hT.2
  intro F
  induction F with
  | zero => intro i l4 l3 p w L C h1 h2 h3; omega
  | succ F ih =>
    intro i l4 l3 p w L C h1 h2 h3
    have hi : ¬ (240 : Int32) ≤ nI i := nI_ge (a := i) (b := 240) (by omega) (by omega)
    rw [fs_c_X4_readSum_4_p8, if_pos rfl, if_neg hi]
    by_cases hw : w = -1
    · subst hw
      simp only [exc1, exc4, exc2, exl]
      rw [px_isr_m1, if_neg (by decide)]
      have ha := px_c_X4_readAtom_4 hT h1 L C
      have hg := tq_atom_PG (c := c) (tq_S_PG (c := c) (n := n) 2) p h1
      have hs : ∀ (L2 : Int32) (C2 : Nat → Int32), CS n (-1) (tq_SM c n 2 p) (fx_c_X4_readSum_4_p39 (nI n) c (nI i) l4 (fx_c_X4_readSum_4_p8 (nI n) c F) (fx_c_X4_readAtom_4 (nI n) (nI p) (-1) c L C).1 (fx_c_X4_readAtom_4 (nI n) (nI p) (-1) c L C).2.1 L2 C2).1 (fx_c_X4_readSum_4_p39 (nI n) c (nI i) l4 (fx_c_X4_readSum_4_p8 (nI n) c F) (fx_c_X4_readAtom_4 (nI n) (nI p) (-1) c L C).1 (fx_c_X4_readAtom_4 (nI n) (nI p) (-1) c L C).2.1 L2 C2).2.1 := fun L2 C2 => by
        rw [tq_SM_eq h1]
        refine CS_bind hn ha hg.1 (fun q hq eq hpr => ?_)
        rw [eq]
        have g3 := tq_pk_ge (c := c) hq
        refine px_c_X4_readSum_4_39 hT hn _ i q hq _ l4 L2 C2 (fun z l4 l3 L C h9 => ?_)
        obtain ⟨_, z2, z3⟩ := hpr z
        have z4 := hg.2 z2
        exact ih (i + 1) l4 l3 (tq_pk c n q + 1) (-1) L C h9 (by omega) (by omega)
      by_cases hl : l3 = 0
      · rw [if_pos hl]
        exact hs _ _
      · rw [if_neg hl]
        exact hs _ _
    · simp only [exc1]
      rw [px_isr_no hw, if_pos rfl]
      exact CS_dead hw h1 rfl
theorem px_c_X4_readSum_4 {c : Nat → Int32} {n : Nat} (hT : TB c n) {p : Nat} (hp : p ≤ n) (w L : Int32) (C : Nat → Int32) : CS n w (tq_SM c n 2 p) (fx_c_X4_readSum_4 (nI n) (nI p) w c L C).1 (fx_c_X4_readSum_4 (nI n) (nI p) w c L C).2.1 := px_c_X4_readSum_4_8 hT exF 0 0 0 p w L C hp (by omega) (by have := hT.2; unfold exF; omega)
theorem px_c_X4_readAtom_3 {c : Nat → Int32} {n : Nat} (hT : TB c n) {p : Nat} (hp : p ≤ n) (L : Int32) (C : Nat → Int32) : CS n (-1) (tq_atom c n (tq_S c n 3) p) (fx_c_X4_readAtom_3 (nI n) (nI p) (-1) c L C).1 (fx_c_X4_readAtom_3 (nI n) (nI p) (-1) c L C).2.1 := by
  have hn := hT.2
  have g3 := tq_pk_ge (c := c) hp
  have g5 := tq_pk_le (c := c) hp
  have hpk := px_c_X9_peek hT hp
  obtain ⟨m1, m2, m3⟩ := px_c_X9_number_1 hT g5
  have m5 := (tq_nm_bd (c := c) (n := n) (k := 3) g5).2.1
  by_cases h1 : tq_ch c n (tq_pk c n p) = -1
  · have es : tq_atom c n (tq_S c n 3) p = tq_nm c n 3 (tq_pk c n p) := by unfold tq_atom; rw [if_neg (by rw [h1]; decide), if_neg (by rw [h1]; decide)]
    have e : fx_c_X4_readAtom_3 (nI n) (nI p) (-1) c L C = fx_c_X4_readAtom_3_p20 (nI n) (-1) c L C (nI (tq_pk c n p)) := by simp only [fx_c_X4_readAtom_3, exc2, hpk]; rw [if_pos h1]
    rw [e, es]
    simp only [fx_c_X4_readAtom_3_p20, exc2, exc1]
    cases hb : (tq_nm c n 3 (tq_pk c n p)).1 with
    | true =>
      have r1 := RG_m1 (m2 hb)
      rw [if_neg r1, if_neg r1]
      show CS n (-1) _ (fx_c_X9_number_1 (nI n) (nI (tq_pk c n p)) c).2 (-1)
      rw [m1]
      exact CS_okp hb m5
    | false =>
      rw [if_pos (m3 hb)]
      show CS n (-1) _ (fx_c_X9_number_1 (nI n) (nI (tq_pk c n p)) c).2 (if (-1 : Int32) = -1 then (fx_c_X9_number_1 (nI n) (nI (tq_pk c n p)) c).2 else -1)
      rw [if_pos rfl, m1]
      exact CS_nop hb m5
  · have hr := tq_ch_RG0 hT h1
    obtain ⟨j, hj, ej⟩ := RG_nI hr (by decide)
    have h0 : (0 : Int32) ≤ tq_ch c n (tq_pk c n p) := by rw [Int32.le_iff_toInt_le, Int32.toInt_zero]; exact hr.1
    have hix := px_ix j hj
    rw [← ej] at hix
    rcases hix with ⟨i1, i2⟩ | ⟨i1, i2, i3⟩
    · have e : fx_c_X4_readAtom_3 (nI n) (nI p) (-1) c L C = fx_c_X4_readAtom_3_p20b (nI n) (-1) c L C (tq_ch c n (tq_pk c n p)) (nI (tq_pk c n p)) := by simp only [fx_c_X4_readAtom_3, exc1, exc2, exl, hpk]; rw [if_neg h1, if_pos h0, if_pos i1]
      rw [e]
      by_cases h91 : tq_ch c n (tq_pk c n p) = 91
      · have g4 := tq_ch_ne h91 (by decide)
        have es : tq_atom c n (tq_S c n 3) p = tq_bind (tq_SM c n 2 (tq_pk c n p + 1)) (tq_ex c n 93) := by unfold tq_atom; rw [if_neg (by rw [i2]; decide), if_pos h91]; rfl
        rw [es]
        simp only [fx_c_X4_readAtom_3_p20b, exc1, exc2, exc4]
        rw [if_pos h91, px_skip]
        refine CS_bind hn (px_c_X4_readSum_4 hT (p := tq_pk c n p + 1) (by omega) (-1) L C) (tq_SM_PG _ (by omega)).1 (fun q hq eq _ => ?_)
        rw [eq]
        have h9 := px_c_X9_expect_2 hT hq (x := 93) (w := (fx_c_X4_readSum_4 (nI n) (nI (tq_pk c n p + 1)) (-1) c L C).2.1) (by decide)
        simp only []
        exact h9
      · have es : tq_atom c n (tq_S c n 3) p = tq_nm c n 3 (tq_pk c n p) := by unfold tq_atom; rw [if_neg (by rw [i2]; decide), if_neg h91]
        rw [es]
        simp only [fx_c_X4_readAtom_3_p20b, exc2, exc1]
        rw [if_neg h91]
        cases hb : (tq_nm c n 3 (tq_pk c n p)).1 with
        | true =>
          have r1 := RG_m1 (m2 hb)
          rw [if_neg r1, if_neg r1]
          show CS n (-1) _ (fx_c_X9_number_1 (nI n) (nI (tq_pk c n p)) c).2 (-1)
          rw [m1]
          exact CS_okp hb m5
        | false =>
          rw [if_pos (m3 hb)]
          show CS n (-1) _ (fx_c_X9_number_1 (nI n) (nI (tq_pk c n p)) c).2 (if (-1 : Int32) = -1 then (fx_c_X9_number_1 (nI n) (nI (tq_pk c n p)) c).2 else -1)
          rw [if_pos rfl, m1]
          exact CS_nop hb m5
    · have g4 := tq_A_lt tq_lt_m1 i3
      have es : tq_atom c n (tq_S c n 3) p = (true, tq_pk c n p + 1) := by unfold tq_atom; rw [if_pos i3]
      have e : fx_c_X4_readAtom_3 (nI n) (nI p) (-1) c L C = fx_c_X4_readAtom_3_p20c (-1) L C (fx_c_J0_indexOf_0f7a4_4 (((tq_ch c n (tq_pk c n p)).toUInt32 % 65536).toInt32)) (nI (tq_pk c n p)) := by simp only [fx_c_X4_readAtom_3, exc1, exc2, exl, hpk]; rw [if_neg h1, if_pos h0, if_neg i1]
      rw [e, es]
      simp only [fx_c_X4_readAtom_3_p20c, exc1, exc2, exl]
      rw [if_neg i2, px_skip]
      exact CS_ok (by omega)
theorem fs_c_X4_readSum_3_p8 (h1_f1 : Int32) (h1_0c : Nat → Int32) (F : Nat) (j8_l5 : Int32) (j8_l4 : Int32) (j8_l3 : Int32) (j8_h1_f2 : Int32) (j8_h1_f3 : Int32) (j8_h0_f1 : Int32) (j8_h0_0c : (Nat → Int32)) : fx_c_X4_readSum_3_p8 h1_f1 h1_0c (F + 1) j8_l5 j8_l4 j8_l3 j8_h1_f2 j8_h1_f3 j8_h0_f1 j8_h0_0c = ((if j8_l5 = j8_l5 then (if 240 ≤ j8_l5 then (j8_h1_f2, j8_h1_f3, j8_h0_f1, j8_h0_0c) else (exc1 (fx_c_X9_isRight j8_h1_f3) fun (r_35 : Int32) => (if r_35 = 0 then (j8_h1_f2, j8_h1_f3, j8_h0_f1, j8_h0_0c) else (exc4 (fx_c_X4_readAtom_3 h1_f1 j8_h1_f2 j8_h1_f3 h1_0c j8_h0_f1 j8_h0_0c) fun (x_45 : Int32) (x_46 : Int32) (x_47 : Int32) (w_48 : Nat → Int32) => (if j8_l3 = 0 then (fx_c_X4_readSum_3_p39 h1_f1 h1_0c j8_l5 j8_l4 (fx_c_X4_readSum_3_p8 h1_f1 h1_0c F) x_45 x_46 x_47 w_48) else (exl (-j8_l3) fun (x_56 : Int32) => (exc2 (fx_c_X4_emit x_56 x_47 w_48) fun (x_59 : Int32) (w_60 : Nat → Int32) => (fx_c_X4_readSum_3_p39 h1_f1 h1_0c j8_l5 j8_l4 (fx_c_X4_readSum_3_p8 h1_f1 h1_0c F) x_45 x_46 x_59 w_60)))))))) else default) : Int32 × Int32 × Int32 × (Nat → Int32)) := rfl
theorem px_c_X4_readSum_3_64 {c : Nat → Int32} {n : Nat} (hT : TB c n) (hn : n ≤ 240) (k : Int32 → Int32 → Int32 → Int32 → Int32 → Int32 → (Nat → Int32) → Int32 × Int32 × Int32 × (Nat → Int32)) (i q : Nat) (hq : q ≤ n) (w l3 L : Int32) (C : Nat → Int32)
    (hk : w = -1 → ∀ (l4 l3 L : Int32) (C : Nat → Int32), tq_pk c n q + 1 ≤ n → CS n (-1) (tq_SM c n 3 (tq_pk c n q + 1)) (k (nI (i + 1)) l4 l3 (nI (tq_pk c n q + 1)) (-1) L C).1 (k (nI (i + 1)) l4 l3 (nI (tq_pk c n q + 1)) (-1) L C).2.1) :
    CS n w (tq_lp c n tq_as (tq_SM c n 3) q) (fx_c_X4_readSum_3_p64 (nI n) c (nI i) k l3 (nI q) w L C).1 (fx_c_X4_readSum_3_p64 (nI n) c (nI i) k l3 (nI q) w L C).2.1 := by
  have g5 := tq_pk_le (c := c) hq
  have ht := px_c_X9_takeEither hT hq (x := 43) (y := 45) (w := w) (by decide) (by decide)
  simp only [fx_c_X4_readSum_3_p64, exc2]
  by_cases hw : w = -1
  · subst hw
    by_cases hm : tq_ch c n (tq_pk c n q) = 43 ∨ tq_ch c n (tq_pk c n q) = 45
    · have hA : tq_as (tq_ch c n (tq_pk c n q)) = true := by rcases hm with z | z <;> rw [z] <;> decide
      have h0 : ¬ tq_ch c n (tq_pk c n q) = 0 := by rcases hm with z | z <;> rw [z] <;> decide
      have g4 : tq_pk c n q < n := tq_A_lt (A := tq_as) (by decide) hA
      rw [if_pos ⟨rfl, hm⟩] at ht
      rw [ht, tq_lp_t hA]
      simp only []
      rw [if_neg h0]
      simp only [fx_c_X4_readSum_3_p80, exl, nI_1]
      exact hk rfl _ _ _ _ (by omega)
    · have hA : tq_as (tq_ch c n (tq_pk c n q)) = false := tq_bf (fun z => hm (by simpa [tq_as, Bool.or_eq_true] using z))
      rw [if_neg (fun z => hm z.2)] at ht
      rw [ht, if_pos rfl, tq_lp_f hA]
      exact CS_ok g5
  · rw [if_neg (fun z => hw z.1)] at ht
    rw [ht, if_pos rfl]
    exact CS_dead hw g5 rfl
theorem px_c_X4_readSum_3_39 {c : Nat → Int32} {n : Nat} (hT : TB c n) (hn : n ≤ 240) (k : Int32 → Int32 → Int32 → Int32 → Int32 → Int32 → (Nat → Int32) → Int32 × Int32 × Int32 × (Nat → Int32)) (i q : Nat) (hq : q ≤ n) (w l4 L : Int32) (C : Nat → Int32)
    (hk : w = -1 → ∀ (l4 l3 L : Int32) (C : Nat → Int32), tq_pk c n q + 1 ≤ n → CS n (-1) (tq_SM c n 3 (tq_pk c n q + 1)) (k (nI (i + 1)) l4 l3 (nI (tq_pk c n q + 1)) (-1) L C).1 (k (nI (i + 1)) l4 l3 (nI (tq_pk c n q + 1)) (-1) L C).2.1) :
    CS n w (tq_lp c n tq_mas (tq_SM c n 3) q) (fx_c_X4_readSum_3_p39 (nI n) c (nI i) l4 k (nI q) w L C).1 (fx_c_X4_readSum_3_p39 (nI n) c (nI i) l4 k (nI q) w L C).2.1 := by
  have g5 := tq_pk_le (c := c) hq
  have ht := px_c_X9_takeEither hT hq (x := 42) (y := 47) (w := w) (by decide) (by decide)
  simp only [fx_c_X4_readSum_3_p39, exc2, exl]
  have hpp := tq_pk_pk (c := c) hq
  by_cases hm : w = -1 ∧ (tq_ch c n (tq_pk c n q) = 42 ∨ tq_ch c n (tq_pk c n q) = 47)
  · obtain ⟨hw, hm⟩ := hm
    subst hw
    have hA : tq_mas (tq_ch c n (tq_pk c n q)) = true := by rcases hm with z | z <;> rw [z] <;> decide
    have h0 : ¬ tq_ch c n (tq_pk c n q) = 0 := by rcases hm with z | z <;> rw [z] <;> decide
    have g4 : tq_pk c n q < n := tq_A_lt tq_mas_m1 hA
    rw [if_pos ⟨rfl, hm⟩] at ht
    rw [ht, tq_lp_t hA]
    simp only []
    rw [if_neg h0]
    simp only [fx_c_X4_readSum_3_p80, exl, nI_1]
    exact hk rfl _ _ _ _ (by omega)
  · rw [if_neg hm] at ht
    rw [ht, if_pos rfl]
    have hs : ∀ (L : Int32) (C : Nat → Int32), CS n w (tq_lp c n tq_mas (tq_SM c n 3) q) (fx_c_X4_readSum_3_p64 (nI n) c (nI i) k 0 (nI (tq_pk c n q)) w L C).1 (fx_c_X4_readSum_3_p64 (nI n) c (nI i) k 0 (nI (tq_pk c n q)) w L C).2.1 := fun L C => by
      have h9 := px_c_X4_readSum_3_64 hT hn k i (tq_pk c n q) g5 w 0 L C (by rw [hpp]; exact hk)
      by_cases hw : w = -1
      · refine CS_e h9 ?_
        have hf : tq_md (tq_ch c n (tq_pk c n q)) = false := tq_bf (fun z => hm ⟨hw, by simpa [tq_md, Bool.or_eq_true] using z⟩)
        unfold tq_lp
        rw [hpp]
        unfold tq_mas
        rw [hf, Bool.false_or]
      · exact CS_any hw h9
    by_cases hl : l4 = 0
    · rw [if_pos hl]
      exact hs _ _
    · rw [if_neg hl]
      exact hs _ _
theorem px_c_X4_readSum_3_8 {c : Nat → Int32} {n : Nat} (hT : TB c n) : ∀ (F i : Nat) (l4 l3 : Int32) (p : Nat) (w L : Int32) (C : Nat → Int32), p ≤ n → 2 * i ≤ p → n < p + F → CS n w (tq_SM c n 3 p) (fx_c_X4_readSum_3_p8 (nI n) c F (nI i) l4 l3 (nI p) w L C).1 (fx_c_X4_readSum_3_p8 (nI n) c F (nI i) l4 l3 (nI p) w L C).2.1 := by
  have hn := hT.2
  intro F
  induction F with
  | zero => intro i l4 l3 p w L C h1 h2 h3; omega
  | succ F ih =>
    intro i l4 l3 p w L C h1 h2 h3
    have hi : ¬ (240 : Int32) ≤ nI i := nI_ge (a := i) (b := 240) (by omega) (by omega)
    rw [fs_c_X4_readSum_3_p8, if_pos rfl, if_neg hi]
    by_cases hw : w = -1
    · subst hw
      simp only [exc1, exc4, exc2, exl]
      rw [px_isr_m1, if_neg (by decide)]
      have ha := px_c_X4_readAtom_3 hT h1 L C
      have hg := tq_atom_PG (c := c) (tq_S_PG (c := c) (n := n) 3) p h1
      have hs : ∀ (L2 : Int32) (C2 : Nat → Int32), CS n (-1) (tq_SM c n 3 p) (fx_c_X4_readSum_3_p39 (nI n) c (nI i) l4 (fx_c_X4_readSum_3_p8 (nI n) c F) (fx_c_X4_readAtom_3 (nI n) (nI p) (-1) c L C).1 (fx_c_X4_readAtom_3 (nI n) (nI p) (-1) c L C).2.1 L2 C2).1 (fx_c_X4_readSum_3_p39 (nI n) c (nI i) l4 (fx_c_X4_readSum_3_p8 (nI n) c F) (fx_c_X4_readAtom_3 (nI n) (nI p) (-1) c L C).1 (fx_c_X4_readAtom_3 (nI n) (nI p) (-1) c L C).2.1 L2 C2).2.1 := fun L2 C2 => by
        rw [tq_SM_eq h1]
        refine CS_bind hn ha hg.1 (fun q hq eq hpr => ?_)
        rw [eq]
        have g3 := tq_pk_ge (c := c) hq
        refine px_c_X4_readSum_3_39 hT hn _ i q hq _ l4 L2 C2 (fun z l4 l3 L C h9 => ?_)
        obtain ⟨_, z2, z3⟩ := hpr z
        have z4 := hg.2 z2
        exact ih (i + 1) l4 l3 (tq_pk c n q + 1) (-1) L C h9 (by omega) (by omega)
      by_cases hl : l3 = 0
      · rw [if_pos hl]
        exact hs _ _
      · rw [if_neg hl]
        exact hs _ _
    · simp only [exc1]
      rw [px_isr_no hw, if_pos rfl]
      exact CS_dead hw h1 rfl
theorem px_c_X4_readSum_3 {c : Nat → Int32} {n : Nat} (hT : TB c n) {p : Nat} (hp : p ≤ n) (w L : Int32) (C : Nat → Int32) : CS n w (tq_SM c n 3 p) (fx_c_X4_readSum_3 (nI n) (nI p) w c L C).1 (fx_c_X4_readSum_3 (nI n) (nI p) w c L C).2.1 := px_c_X4_readSum_3_8 hT exF 0 0 0 p w L C hp (by omega) (by have := hT.2; unfold exF; omega)
theorem px_c_X4_readAtom_2 {c : Nat → Int32} {n : Nat} (hT : TB c n) {p : Nat} (hp : p ≤ n) (L : Int32) (C : Nat → Int32) : CS n (-1) (tq_atom c n (tq_S c n 4) p) (fx_c_X4_readAtom_2 (nI n) (nI p) (-1) c L C).1 (fx_c_X4_readAtom_2 (nI n) (nI p) (-1) c L C).2.1 := by
  have hn := hT.2
  have g3 := tq_pk_ge (c := c) hp
  have g5 := tq_pk_le (c := c) hp
  have hpk := px_c_X9_peek hT hp
  obtain ⟨m1, m2, m3⟩ := px_c_X9_number_1 hT g5
  have m5 := (tq_nm_bd (c := c) (n := n) (k := 3) g5).2.1
  by_cases h1 : tq_ch c n (tq_pk c n p) = -1
  · have es : tq_atom c n (tq_S c n 4) p = tq_nm c n 3 (tq_pk c n p) := by unfold tq_atom; rw [if_neg (by rw [h1]; decide), if_neg (by rw [h1]; decide)]
    have e : fx_c_X4_readAtom_2 (nI n) (nI p) (-1) c L C = fx_c_X4_readAtom_2_p20 (nI n) (-1) c L C (nI (tq_pk c n p)) := by simp only [fx_c_X4_readAtom_2, exc2, hpk]; rw [if_pos h1]
    rw [e, es]
    simp only [fx_c_X4_readAtom_2_p20, exc2, exc1]
    cases hb : (tq_nm c n 3 (tq_pk c n p)).1 with
    | true =>
      have r1 := RG_m1 (m2 hb)
      rw [if_neg r1, if_neg r1]
      show CS n (-1) _ (fx_c_X9_number_1 (nI n) (nI (tq_pk c n p)) c).2 (-1)
      rw [m1]
      exact CS_okp hb m5
    | false =>
      rw [if_pos (m3 hb)]
      show CS n (-1) _ (fx_c_X9_number_1 (nI n) (nI (tq_pk c n p)) c).2 (if (-1 : Int32) = -1 then (fx_c_X9_number_1 (nI n) (nI (tq_pk c n p)) c).2 else -1)
      rw [if_pos rfl, m1]
      exact CS_nop hb m5
  · have hr := tq_ch_RG0 hT h1
    obtain ⟨j, hj, ej⟩ := RG_nI hr (by decide)
    have h0 : (0 : Int32) ≤ tq_ch c n (tq_pk c n p) := by rw [Int32.le_iff_toInt_le, Int32.toInt_zero]; exact hr.1
    have hix := px_ix j hj
    rw [← ej] at hix
    rcases hix with ⟨i1, i2⟩ | ⟨i1, i2, i3⟩
    · have e : fx_c_X4_readAtom_2 (nI n) (nI p) (-1) c L C = fx_c_X4_readAtom_2_p20b (nI n) (-1) c L C (tq_ch c n (tq_pk c n p)) (nI (tq_pk c n p)) := by simp only [fx_c_X4_readAtom_2, exc1, exc2, exl, hpk]; rw [if_neg h1, if_pos h0, if_pos i1]
      rw [e]
      by_cases h91 : tq_ch c n (tq_pk c n p) = 91
      · have g4 := tq_ch_ne h91 (by decide)
        have es : tq_atom c n (tq_S c n 4) p = tq_bind (tq_SM c n 3 (tq_pk c n p + 1)) (tq_ex c n 93) := by unfold tq_atom; rw [if_neg (by rw [i2]; decide), if_pos h91]; rfl
        rw [es]
        simp only [fx_c_X4_readAtom_2_p20b, exc1, exc2, exc4]
        rw [if_pos h91, px_skip]
        refine CS_bind hn (px_c_X4_readSum_3 hT (p := tq_pk c n p + 1) (by omega) (-1) L C) (tq_SM_PG _ (by omega)).1 (fun q hq eq _ => ?_)
        rw [eq]
        have h9 := px_c_X9_expect_2 hT hq (x := 93) (w := (fx_c_X4_readSum_3 (nI n) (nI (tq_pk c n p + 1)) (-1) c L C).2.1) (by decide)
        simp only []
        exact h9
      · have es : tq_atom c n (tq_S c n 4) p = tq_nm c n 3 (tq_pk c n p) := by unfold tq_atom; rw [if_neg (by rw [i2]; decide), if_neg h91]
        rw [es]
        simp only [fx_c_X4_readAtom_2_p20b, exc2, exc1]
        rw [if_neg h91]
        cases hb : (tq_nm c n 3 (tq_pk c n p)).1 with
        | true =>
          have r1 := RG_m1 (m2 hb)
          rw [if_neg r1, if_neg r1]
          show CS n (-1) _ (fx_c_X9_number_1 (nI n) (nI (tq_pk c n p)) c).2 (-1)
          rw [m1]
          exact CS_okp hb m5
        | false =>
          rw [if_pos (m3 hb)]
          show CS n (-1) _ (fx_c_X9_number_1 (nI n) (nI (tq_pk c n p)) c).2 (if (-1 : Int32) = -1 then (fx_c_X9_number_1 (nI n) (nI (tq_pk c n p)) c).2 else -1)
          rw [if_pos rfl, m1]
          exact CS_nop hb m5
    · have g4 := tq_A_lt tq_lt_m1 i3
      have es : tq_atom c n (tq_S c n 4) p = (true, tq_pk c n p + 1) := by unfold tq_atom; rw [if_pos i3]
      have e : fx_c_X4_readAtom_2 (nI n) (nI p) (-1) c L C = fx_c_X4_readAtom_2_p20c (-1) L C (fx_c_J0_indexOf_0f7a4_4 (((tq_ch c n (tq_pk c n p)).toUInt32 % 65536).toInt32)) (nI (tq_pk c n p)) := by simp only [fx_c_X4_readAtom_2, exc1, exc2, exl, hpk]; rw [if_neg h1, if_pos h0, if_neg i1]
      rw [e, es]
      simp only [fx_c_X4_readAtom_2_p20c, exc1, exc2, exl]
      rw [if_neg i2, px_skip]
      exact CS_ok (by omega)
theorem fs_c_X4_readSum_2_p8 (h1_f1 : Int32) (h1_0c : Nat → Int32) (F : Nat) (j8_l5 : Int32) (j8_l4 : Int32) (j8_l3 : Int32) (j8_h1_f2 : Int32) (j8_h1_f3 : Int32) (j8_h0_f1 : Int32) (j8_h0_0c : (Nat → Int32)) : fx_c_X4_readSum_2_p8 h1_f1 h1_0c (F + 1) j8_l5 j8_l4 j8_l3 j8_h1_f2 j8_h1_f3 j8_h0_f1 j8_h0_0c = ((if j8_l5 = j8_l5 then (if 240 ≤ j8_l5 then (j8_h1_f2, j8_h1_f3, j8_h0_f1, j8_h0_0c) else (exc1 (fx_c_X9_isRight j8_h1_f3) fun (r_35 : Int32) => (if r_35 = 0 then (j8_h1_f2, j8_h1_f3, j8_h0_f1, j8_h0_0c) else (exc4 (fx_c_X4_readAtom_2 h1_f1 j8_h1_f2 j8_h1_f3 h1_0c j8_h0_f1 j8_h0_0c) fun (x_45 : Int32) (x_46 : Int32) (x_47 : Int32) (w_48 : Nat → Int32) => (if j8_l3 = 0 then (fx_c_X4_readSum_2_p39 h1_f1 h1_0c j8_l5 j8_l4 (fx_c_X4_readSum_2_p8 h1_f1 h1_0c F) x_45 x_46 x_47 w_48) else (exl (-j8_l3) fun (x_56 : Int32) => (exc2 (fx_c_X4_emit x_56 x_47 w_48) fun (x_59 : Int32) (w_60 : Nat → Int32) => (fx_c_X4_readSum_2_p39 h1_f1 h1_0c j8_l5 j8_l4 (fx_c_X4_readSum_2_p8 h1_f1 h1_0c F) x_45 x_46 x_59 w_60)))))))) else default) : Int32 × Int32 × Int32 × (Nat → Int32)) := rfl
theorem px_c_X4_readSum_2_64 {c : Nat → Int32} {n : Nat} (hT : TB c n) (hn : n ≤ 240) (k : Int32 → Int32 → Int32 → Int32 → Int32 → Int32 → (Nat → Int32) → Int32 × Int32 × Int32 × (Nat → Int32)) (i q : Nat) (hq : q ≤ n) (w l3 L : Int32) (C : Nat → Int32)
    (hk : w = -1 → ∀ (l4 l3 L : Int32) (C : Nat → Int32), tq_pk c n q + 1 ≤ n → CS n (-1) (tq_SM c n 4 (tq_pk c n q + 1)) (k (nI (i + 1)) l4 l3 (nI (tq_pk c n q + 1)) (-1) L C).1 (k (nI (i + 1)) l4 l3 (nI (tq_pk c n q + 1)) (-1) L C).2.1) :
    CS n w (tq_lp c n tq_as (tq_SM c n 4) q) (fx_c_X4_readSum_2_p64 (nI n) c (nI i) k l3 (nI q) w L C).1 (fx_c_X4_readSum_2_p64 (nI n) c (nI i) k l3 (nI q) w L C).2.1 := by
  have g5 := tq_pk_le (c := c) hq
  have ht := px_c_X9_takeEither hT hq (x := 43) (y := 45) (w := w) (by decide) (by decide)
  simp only [fx_c_X4_readSum_2_p64, exc2]
  by_cases hw : w = -1
  · subst hw
    by_cases hm : tq_ch c n (tq_pk c n q) = 43 ∨ tq_ch c n (tq_pk c n q) = 45
    · have hA : tq_as (tq_ch c n (tq_pk c n q)) = true := by rcases hm with z | z <;> rw [z] <;> decide
      have h0 : ¬ tq_ch c n (tq_pk c n q) = 0 := by rcases hm with z | z <;> rw [z] <;> decide
      have g4 : tq_pk c n q < n := tq_A_lt (A := tq_as) (by decide) hA
      rw [if_pos ⟨rfl, hm⟩] at ht
      rw [ht, tq_lp_t hA]
      simp only []
      rw [if_neg h0]
      simp only [fx_c_X4_readSum_2_p80, exl, nI_1]
      exact hk rfl _ _ _ _ (by omega)
    · have hA : tq_as (tq_ch c n (tq_pk c n q)) = false := tq_bf (fun z => hm (by simpa [tq_as, Bool.or_eq_true] using z))
      rw [if_neg (fun z => hm z.2)] at ht
      rw [ht, if_pos rfl, tq_lp_f hA]
      exact CS_ok g5
  · rw [if_neg (fun z => hw z.1)] at ht
    rw [ht, if_pos rfl]
    exact CS_dead hw g5 rfl
theorem px_c_X4_readSum_2_39 {c : Nat → Int32} {n : Nat} (hT : TB c n) (hn : n ≤ 240) (k : Int32 → Int32 → Int32 → Int32 → Int32 → Int32 → (Nat → Int32) → Int32 × Int32 × Int32 × (Nat → Int32)) (i q : Nat) (hq : q ≤ n) (w l4 L : Int32) (C : Nat → Int32)
    (hk : w = -1 → ∀ (l4 l3 L : Int32) (C : Nat → Int32), tq_pk c n q + 1 ≤ n → CS n (-1) (tq_SM c n 4 (tq_pk c n q + 1)) (k (nI (i + 1)) l4 l3 (nI (tq_pk c n q + 1)) (-1) L C).1 (k (nI (i + 1)) l4 l3 (nI (tq_pk c n q + 1)) (-1) L C).2.1) :
    CS n w (tq_lp c n tq_mas (tq_SM c n 4) q) (fx_c_X4_readSum_2_p39 (nI n) c (nI i) l4 k (nI q) w L C).1 (fx_c_X4_readSum_2_p39 (nI n) c (nI i) l4 k (nI q) w L C).2.1 := by
  have g5 := tq_pk_le (c := c) hq
  have ht := px_c_X9_takeEither hT hq (x := 42) (y := 47) (w := w) (by decide) (by decide)
  simp only [fx_c_X4_readSum_2_p39, exc2, exl]
  have hpp := tq_pk_pk (c := c) hq
  by_cases hm : w = -1 ∧ (tq_ch c n (tq_pk c n q) = 42 ∨ tq_ch c n (tq_pk c n q) = 47)
  · obtain ⟨hw, hm⟩ := hm
    subst hw
    have hA : tq_mas (tq_ch c n (tq_pk c n q)) = true := by rcases hm with z | z <;> rw [z] <;> decide
    have h0 : ¬ tq_ch c n (tq_pk c n q) = 0 := by rcases hm with z | z <;> rw [z] <;> decide
    have g4 : tq_pk c n q < n := tq_A_lt tq_mas_m1 hA
    rw [if_pos ⟨rfl, hm⟩] at ht
    rw [ht, tq_lp_t hA]
    simp only []
    rw [if_neg h0]
    simp only [fx_c_X4_readSum_2_p80, exl, nI_1]
    exact hk rfl _ _ _ _ (by omega)
  · rw [if_neg hm] at ht
    rw [ht, if_pos rfl]
    have hs : ∀ (L : Int32) (C : Nat → Int32), CS n w (tq_lp c n tq_mas (tq_SM c n 4) q) (fx_c_X4_readSum_2_p64 (nI n) c (nI i) k 0 (nI (tq_pk c n q)) w L C).1 (fx_c_X4_readSum_2_p64 (nI n) c (nI i) k 0 (nI (tq_pk c n q)) w L C).2.1 := fun L C => by
      have h9 := px_c_X4_readSum_2_64 hT hn k i (tq_pk c n q) g5 w 0 L C (by rw [hpp]; exact hk)
      by_cases hw : w = -1
      · refine CS_e h9 ?_
        have hf : tq_md (tq_ch c n (tq_pk c n q)) = false := tq_bf (fun z => hm ⟨hw, by simpa [tq_md, Bool.or_eq_true] using z⟩)
        unfold tq_lp
        rw [hpp]
        unfold tq_mas
        rw [hf, Bool.false_or]
      · exact CS_any hw h9
    by_cases hl : l4 = 0
    · rw [if_pos hl]
      exact hs _ _
    · rw [if_neg hl]
      exact hs _ _
theorem px_c_X4_readSum_2_8 {c : Nat → Int32} {n : Nat} (hT : TB c n) : ∀ (F i : Nat) (l4 l3 : Int32) (p : Nat) (w L : Int32) (C : Nat → Int32), p ≤ n → 2 * i ≤ p → n < p + F → CS n w (tq_SM c n 4 p) (fx_c_X4_readSum_2_p8 (nI n) c F (nI i) l4 l3 (nI p) w L C).1 (fx_c_X4_readSum_2_p8 (nI n) c F (nI i) l4 l3 (nI p) w L C).2.1 := by
  have hn := hT.2
  intro F
  induction F with
  | zero => intro i l4 l3 p w L C h1 h2 h3; omega
  | succ F ih =>
    intro i l4 l3 p w L C h1 h2 h3
    have hi : ¬ (240 : Int32) ≤ nI i := nI_ge (a := i) (b := 240) (by omega) (by omega)
    rw [fs_c_X4_readSum_2_p8, if_pos rfl, if_neg hi]
    by_cases hw : w = -1
    · subst hw
      simp only [exc1, exc4, exc2, exl]
      rw [px_isr_m1, if_neg (by decide)]
      have ha := px_c_X4_readAtom_2 hT h1 L C
      have hg := tq_atom_PG (c := c) (tq_S_PG (c := c) (n := n) 4) p h1
      have hs : ∀ (L2 : Int32) (C2 : Nat → Int32), CS n (-1) (tq_SM c n 4 p) (fx_c_X4_readSum_2_p39 (nI n) c (nI i) l4 (fx_c_X4_readSum_2_p8 (nI n) c F) (fx_c_X4_readAtom_2 (nI n) (nI p) (-1) c L C).1 (fx_c_X4_readAtom_2 (nI n) (nI p) (-1) c L C).2.1 L2 C2).1 (fx_c_X4_readSum_2_p39 (nI n) c (nI i) l4 (fx_c_X4_readSum_2_p8 (nI n) c F) (fx_c_X4_readAtom_2 (nI n) (nI p) (-1) c L C).1 (fx_c_X4_readAtom_2 (nI n) (nI p) (-1) c L C).2.1 L2 C2).2.1 := fun L2 C2 => by
        rw [tq_SM_eq h1]
        refine CS_bind hn ha hg.1 (fun q hq eq hpr => ?_)
        rw [eq]
        have g3 := tq_pk_ge (c := c) hq
        refine px_c_X4_readSum_2_39 hT hn _ i q hq _ l4 L2 C2 (fun z l4 l3 L C h9 => ?_)
        obtain ⟨_, z2, z3⟩ := hpr z
        have z4 := hg.2 z2
        exact ih (i + 1) l4 l3 (tq_pk c n q + 1) (-1) L C h9 (by omega) (by omega)
      by_cases hl : l3 = 0
      · rw [if_pos hl]
        exact hs _ _
      · rw [if_neg hl]
        exact hs _ _
    · simp only [exc1]
      rw [px_isr_no hw, if_pos rfl]
      exact CS_dead hw h1 rfl
theorem px_c_X4_readSum_2 {c : Nat → Int32} {n : Nat} (hT : TB c n) {p : Nat} (hp : p ≤ n) (w L : Int32) (C : Nat → Int32) : CS n w (tq_SM c n 4 p) (fx_c_X4_readSum_2 (nI n) (nI p) w c L C).1 (fx_c_X4_readSum_2 (nI n) (nI p) w c L C).2.1 := px_c_X4_readSum_2_8 hT exF 0 0 0 p w L C hp (by omega) (by have := hT.2; unfold exF; omega)
theorem px_c_X4_readAtom_1 {c : Nat → Int32} {n : Nat} (hT : TB c n) {p : Nat} (hp : p ≤ n) (L : Int32) (C : Nat → Int32) : CS n (-1) (tq_atom c n (tq_S c n 5) p) (fx_c_X4_readAtom_1 (nI n) (nI p) (-1) c L C).1 (fx_c_X4_readAtom_1 (nI n) (nI p) (-1) c L C).2.1 := by
  have hn := hT.2
  have g3 := tq_pk_ge (c := c) hp
  have g5 := tq_pk_le (c := c) hp
  have hpk := px_c_X9_peek hT hp
  obtain ⟨m1, m2, m3⟩ := px_c_X9_number_1 hT g5
  have m5 := (tq_nm_bd (c := c) (n := n) (k := 3) g5).2.1
  by_cases h1 : tq_ch c n (tq_pk c n p) = -1
  · have es : tq_atom c n (tq_S c n 5) p = tq_nm c n 3 (tq_pk c n p) := by unfold tq_atom; rw [if_neg (by rw [h1]; decide), if_neg (by rw [h1]; decide)]
    have e : fx_c_X4_readAtom_1 (nI n) (nI p) (-1) c L C = fx_c_X4_readAtom_1_p20 (nI n) (-1) c L C (nI (tq_pk c n p)) := by simp only [fx_c_X4_readAtom_1, exc2, hpk]; rw [if_pos h1]
    rw [e, es]
    simp only [fx_c_X4_readAtom_1_p20, exc2, exc1]
    cases hb : (tq_nm c n 3 (tq_pk c n p)).1 with
    | true =>
      have r1 := RG_m1 (m2 hb)
      rw [if_neg r1, if_neg r1]
      show CS n (-1) _ (fx_c_X9_number_1 (nI n) (nI (tq_pk c n p)) c).2 (-1)
      rw [m1]
      exact CS_okp hb m5
    | false =>
      rw [if_pos (m3 hb)]
      show CS n (-1) _ (fx_c_X9_number_1 (nI n) (nI (tq_pk c n p)) c).2 (if (-1 : Int32) = -1 then (fx_c_X9_number_1 (nI n) (nI (tq_pk c n p)) c).2 else -1)
      rw [if_pos rfl, m1]
      exact CS_nop hb m5
  · have hr := tq_ch_RG0 hT h1
    obtain ⟨j, hj, ej⟩ := RG_nI hr (by decide)
    have h0 : (0 : Int32) ≤ tq_ch c n (tq_pk c n p) := by rw [Int32.le_iff_toInt_le, Int32.toInt_zero]; exact hr.1
    have hix := px_ix j hj
    rw [← ej] at hix
    rcases hix with ⟨i1, i2⟩ | ⟨i1, i2, i3⟩
    · have e : fx_c_X4_readAtom_1 (nI n) (nI p) (-1) c L C = fx_c_X4_readAtom_1_p20b (nI n) (-1) c L C (tq_ch c n (tq_pk c n p)) (nI (tq_pk c n p)) := by simp only [fx_c_X4_readAtom_1, exc1, exc2, exl, hpk]; rw [if_neg h1, if_pos h0, if_pos i1]
      rw [e]
      by_cases h91 : tq_ch c n (tq_pk c n p) = 91
      · have g4 := tq_ch_ne h91 (by decide)
        have es : tq_atom c n (tq_S c n 5) p = tq_bind (tq_SM c n 4 (tq_pk c n p + 1)) (tq_ex c n 93) := by unfold tq_atom; rw [if_neg (by rw [i2]; decide), if_pos h91]; rfl
        rw [es]
        simp only [fx_c_X4_readAtom_1_p20b, exc1, exc2, exc4]
        rw [if_pos h91, px_skip]
        refine CS_bind hn (px_c_X4_readSum_2 hT (p := tq_pk c n p + 1) (by omega) (-1) L C) (tq_SM_PG _ (by omega)).1 (fun q hq eq _ => ?_)
        rw [eq]
        have h9 := px_c_X9_expect_2 hT hq (x := 93) (w := (fx_c_X4_readSum_2 (nI n) (nI (tq_pk c n p + 1)) (-1) c L C).2.1) (by decide)
        simp only []
        exact h9
      · have es : tq_atom c n (tq_S c n 5) p = tq_nm c n 3 (tq_pk c n p) := by unfold tq_atom; rw [if_neg (by rw [i2]; decide), if_neg h91]
        rw [es]
        simp only [fx_c_X4_readAtom_1_p20b, exc2, exc1]
        rw [if_neg h91]
        cases hb : (tq_nm c n 3 (tq_pk c n p)).1 with
        | true =>
          have r1 := RG_m1 (m2 hb)
          rw [if_neg r1, if_neg r1]
          show CS n (-1) _ (fx_c_X9_number_1 (nI n) (nI (tq_pk c n p)) c).2 (-1)
          rw [m1]
          exact CS_okp hb m5
        | false =>
          rw [if_pos (m3 hb)]
          show CS n (-1) _ (fx_c_X9_number_1 (nI n) (nI (tq_pk c n p)) c).2 (if (-1 : Int32) = -1 then (fx_c_X9_number_1 (nI n) (nI (tq_pk c n p)) c).2 else -1)
          rw [if_pos rfl, m1]
          exact CS_nop hb m5
    · have g4 := tq_A_lt tq_lt_m1 i3
      have es : tq_atom c n (tq_S c n 5) p = (true, tq_pk c n p + 1) := by unfold tq_atom; rw [if_pos i3]
      have e : fx_c_X4_readAtom_1 (nI n) (nI p) (-1) c L C = fx_c_X4_readAtom_1_p20c (-1) L C (fx_c_J0_indexOf_0f7a4_4 (((tq_ch c n (tq_pk c n p)).toUInt32 % 65536).toInt32)) (nI (tq_pk c n p)) := by simp only [fx_c_X4_readAtom_1, exc1, exc2, exl, hpk]; rw [if_neg h1, if_pos h0, if_neg i1]
      rw [e, es]
      simp only [fx_c_X4_readAtom_1_p20c, exc1, exc2, exl]
      rw [if_neg i2, px_skip]
      exact CS_ok (by omega)
theorem fs_c_X4_readSum_1_p8 (h1_f1 : Int32) (h1_0c : Nat → Int32) (F : Nat) (j8_l5 : Int32) (j8_l4 : Int32) (j8_l3 : Int32) (j8_h1_f2 : Int32) (j8_h1_f3 : Int32) (j8_h0_f1 : Int32) (j8_h0_0c : (Nat → Int32)) : fx_c_X4_readSum_1_p8 h1_f1 h1_0c (F + 1) j8_l5 j8_l4 j8_l3 j8_h1_f2 j8_h1_f3 j8_h0_f1 j8_h0_0c = ((if j8_l5 = j8_l5 then (if 240 ≤ j8_l5 then (j8_h1_f2, j8_h1_f3, j8_h0_f1, j8_h0_0c) else (exc1 (fx_c_X9_isRight j8_h1_f3) fun (r_35 : Int32) => (if r_35 = 0 then (j8_h1_f2, j8_h1_f3, j8_h0_f1, j8_h0_0c) else (exc4 (fx_c_X4_readAtom_1 h1_f1 j8_h1_f2 j8_h1_f3 h1_0c j8_h0_f1 j8_h0_0c) fun (x_45 : Int32) (x_46 : Int32) (x_47 : Int32) (w_48 : Nat → Int32) => (if j8_l3 = 0 then (fx_c_X4_readSum_1_p39 h1_f1 h1_0c j8_l5 j8_l4 (fx_c_X4_readSum_1_p8 h1_f1 h1_0c F) x_45 x_46 x_47 w_48) else (exl (-j8_l3) fun (x_56 : Int32) => (exc2 (fx_c_X4_emit x_56 x_47 w_48) fun (x_59 : Int32) (w_60 : Nat → Int32) => (fx_c_X4_readSum_1_p39 h1_f1 h1_0c j8_l5 j8_l4 (fx_c_X4_readSum_1_p8 h1_f1 h1_0c F) x_45 x_46 x_59 w_60)))))))) else default) : Int32 × Int32 × Int32 × (Nat → Int32)) := rfl
theorem px_c_X4_readSum_1_64 {c : Nat → Int32} {n : Nat} (hT : TB c n) (hn : n ≤ 240) (k : Int32 → Int32 → Int32 → Int32 → Int32 → Int32 → (Nat → Int32) → Int32 × Int32 × Int32 × (Nat → Int32)) (i q : Nat) (hq : q ≤ n) (w l3 L : Int32) (C : Nat → Int32)
    (hk : w = -1 → ∀ (l4 l3 L : Int32) (C : Nat → Int32), tq_pk c n q + 1 ≤ n → CS n (-1) (tq_SM c n 5 (tq_pk c n q + 1)) (k (nI (i + 1)) l4 l3 (nI (tq_pk c n q + 1)) (-1) L C).1 (k (nI (i + 1)) l4 l3 (nI (tq_pk c n q + 1)) (-1) L C).2.1) :
    CS n w (tq_lp c n tq_as (tq_SM c n 5) q) (fx_c_X4_readSum_1_p64 (nI n) c (nI i) k l3 (nI q) w L C).1 (fx_c_X4_readSum_1_p64 (nI n) c (nI i) k l3 (nI q) w L C).2.1 := by
  have g5 := tq_pk_le (c := c) hq
  have ht := px_c_X9_takeEither hT hq (x := 43) (y := 45) (w := w) (by decide) (by decide)
  simp only [fx_c_X4_readSum_1_p64, exc2]
  by_cases hw : w = -1
  · subst hw
    by_cases hm : tq_ch c n (tq_pk c n q) = 43 ∨ tq_ch c n (tq_pk c n q) = 45
    · have hA : tq_as (tq_ch c n (tq_pk c n q)) = true := by rcases hm with z | z <;> rw [z] <;> decide
      have h0 : ¬ tq_ch c n (tq_pk c n q) = 0 := by rcases hm with z | z <;> rw [z] <;> decide
      have g4 : tq_pk c n q < n := tq_A_lt (A := tq_as) (by decide) hA
      rw [if_pos ⟨rfl, hm⟩] at ht
      rw [ht, tq_lp_t hA]
      simp only []
      rw [if_neg h0]
      simp only [fx_c_X4_readSum_1_p80, exl, nI_1]
      exact hk rfl _ _ _ _ (by omega)
    · have hA : tq_as (tq_ch c n (tq_pk c n q)) = false := tq_bf (fun z => hm (by simpa [tq_as, Bool.or_eq_true] using z))
      rw [if_neg (fun z => hm z.2)] at ht
      rw [ht, if_pos rfl, tq_lp_f hA]
      exact CS_ok g5
  · rw [if_neg (fun z => hw z.1)] at ht
    rw [ht, if_pos rfl]
    exact CS_dead hw g5 rfl
theorem px_c_X4_readSum_1_39 {c : Nat → Int32} {n : Nat} (hT : TB c n) (hn : n ≤ 240) (k : Int32 → Int32 → Int32 → Int32 → Int32 → Int32 → (Nat → Int32) → Int32 × Int32 × Int32 × (Nat → Int32)) (i q : Nat) (hq : q ≤ n) (w l4 L : Int32) (C : Nat → Int32)
    (hk : w = -1 → ∀ (l4 l3 L : Int32) (C : Nat → Int32), tq_pk c n q + 1 ≤ n → CS n (-1) (tq_SM c n 5 (tq_pk c n q + 1)) (k (nI (i + 1)) l4 l3 (nI (tq_pk c n q + 1)) (-1) L C).1 (k (nI (i + 1)) l4 l3 (nI (tq_pk c n q + 1)) (-1) L C).2.1) :
    CS n w (tq_lp c n tq_mas (tq_SM c n 5) q) (fx_c_X4_readSum_1_p39 (nI n) c (nI i) l4 k (nI q) w L C).1 (fx_c_X4_readSum_1_p39 (nI n) c (nI i) l4 k (nI q) w L C).2.1 := by
  have g5 := tq_pk_le (c := c) hq
  have ht := px_c_X9_takeEither hT hq (x := 42) (y := 47) (w := w) (by decide) (by decide)
  simp only [fx_c_X4_readSum_1_p39, exc2, exl]
  have hpp := tq_pk_pk (c := c) hq
  by_cases hm : w = -1 ∧ (tq_ch c n (tq_pk c n q) = 42 ∨ tq_ch c n (tq_pk c n q) = 47)
  · obtain ⟨hw, hm⟩ := hm
    subst hw
    have hA : tq_mas (tq_ch c n (tq_pk c n q)) = true := by rcases hm with z | z <;> rw [z] <;> decide
    have h0 : ¬ tq_ch c n (tq_pk c n q) = 0 := by rcases hm with z | z <;> rw [z] <;> decide
    have g4 : tq_pk c n q < n := tq_A_lt tq_mas_m1 hA
    rw [if_pos ⟨rfl, hm⟩] at ht
    rw [ht, tq_lp_t hA]
    simp only []
    rw [if_neg h0]
    simp only [fx_c_X4_readSum_1_p80, exl, nI_1]
    exact hk rfl _ _ _ _ (by omega)
  · rw [if_neg hm] at ht
    rw [ht, if_pos rfl]
    have hs : ∀ (L : Int32) (C : Nat → Int32), CS n w (tq_lp c n tq_mas (tq_SM c n 5) q) (fx_c_X4_readSum_1_p64 (nI n) c (nI i) k 0 (nI (tq_pk c n q)) w L C).1 (fx_c_X4_readSum_1_p64 (nI n) c (nI i) k 0 (nI (tq_pk c n q)) w L C).2.1 := fun L C => by
      have h9 := px_c_X4_readSum_1_64 hT hn k i (tq_pk c n q) g5 w 0 L C (by rw [hpp]; exact hk)
      by_cases hw : w = -1
      · refine CS_e h9 ?_
        have hf : tq_md (tq_ch c n (tq_pk c n q)) = false := tq_bf (fun z => hm ⟨hw, by simpa [tq_md, Bool.or_eq_true] using z⟩)
        unfold tq_lp
        rw [hpp]
        unfold tq_mas
        rw [hf, Bool.false_or]
      · exact CS_any hw h9
    by_cases hl : l4 = 0
    · rw [if_pos hl]
      exact hs _ _
    · rw [if_neg hl]
      exact hs _ _
theorem px_c_X4_readSum_1_8 {c : Nat → Int32} {n : Nat} (hT : TB c n) : ∀ (F i : Nat) (l4 l3 : Int32) (p : Nat) (w L : Int32) (C : Nat → Int32), p ≤ n → 2 * i ≤ p → n < p + F → CS n w (tq_SM c n 5 p) (fx_c_X4_readSum_1_p8 (nI n) c F (nI i) l4 l3 (nI p) w L C).1 (fx_c_X4_readSum_1_p8 (nI n) c F (nI i) l4 l3 (nI p) w L C).2.1 := by
  have hn := hT.2
  intro F
  induction F with
  | zero => intro i l4 l3 p w L C h1 h2 h3; omega
  | succ F ih =>
    intro i l4 l3 p w L C h1 h2 h3
    have hi : ¬ (240 : Int32) ≤ nI i := nI_ge (a := i) (b := 240) (by omega) (by omega)
    rw [fs_c_X4_readSum_1_p8, if_pos rfl, if_neg hi]
    by_cases hw : w = -1
    · subst hw
      simp only [exc1, exc4, exc2, exl]
      rw [px_isr_m1, if_neg (by decide)]
      have ha := px_c_X4_readAtom_1 hT h1 L C
      have hg := tq_atom_PG (c := c) (tq_S_PG (c := c) (n := n) 5) p h1
      have hs : ∀ (L2 : Int32) (C2 : Nat → Int32), CS n (-1) (tq_SM c n 5 p) (fx_c_X4_readSum_1_p39 (nI n) c (nI i) l4 (fx_c_X4_readSum_1_p8 (nI n) c F) (fx_c_X4_readAtom_1 (nI n) (nI p) (-1) c L C).1 (fx_c_X4_readAtom_1 (nI n) (nI p) (-1) c L C).2.1 L2 C2).1 (fx_c_X4_readSum_1_p39 (nI n) c (nI i) l4 (fx_c_X4_readSum_1_p8 (nI n) c F) (fx_c_X4_readAtom_1 (nI n) (nI p) (-1) c L C).1 (fx_c_X4_readAtom_1 (nI n) (nI p) (-1) c L C).2.1 L2 C2).2.1 := fun L2 C2 => by
        rw [tq_SM_eq h1]
        refine CS_bind hn ha hg.1 (fun q hq eq hpr => ?_)
        rw [eq]
        have g3 := tq_pk_ge (c := c) hq
        refine px_c_X4_readSum_1_39 hT hn _ i q hq _ l4 L2 C2 (fun z l4 l3 L C h9 => ?_)
        obtain ⟨_, z2, z3⟩ := hpr z
        have z4 := hg.2 z2
        exact ih (i + 1) l4 l3 (tq_pk c n q + 1) (-1) L C h9 (by omega) (by omega)
      by_cases hl : l3 = 0
      · rw [if_pos hl]
        exact hs _ _
      · rw [if_neg hl]
        exact hs _ _
    · simp only [exc1]
      rw [px_isr_no hw, if_pos rfl]
      exact CS_dead hw h1 rfl
theorem px_c_X4_readSum_1 {c : Nat → Int32} {n : Nat} (hT : TB c n) {p : Nat} (hp : p ≤ n) (w L : Int32) (C : Nat → Int32) : CS n w (tq_SM c n 5 p) (fx_c_X4_readSum_1 (nI n) (nI p) w c L C).1 (fx_c_X4_readSum_1 (nI n) (nI p) w c L C).2.1 := px_c_X4_readSum_1_8 hT exF 0 0 0 p w L C hp (by omega) (by have := hT.2; unfold exF; omega)
theorem px_c_X4_readAtom {c : Nat → Int32} {n : Nat} (hT : TB c n) {p : Nat} (hp : p ≤ n) (L : Int32) (C : Nat → Int32) : CS n (-1) (tq_atom c n (tq_S c n 6) p) (fx_c_X4_readAtom (nI n) (nI p) (-1) c L C).1 (fx_c_X4_readAtom (nI n) (nI p) (-1) c L C).2.1 := by
  have hn := hT.2
  have g3 := tq_pk_ge (c := c) hp
  have g5 := tq_pk_le (c := c) hp
  have hpk := px_c_X9_peek hT hp
  obtain ⟨m1, m2, m3⟩ := px_c_X9_number_1 hT g5
  have m5 := (tq_nm_bd (c := c) (n := n) (k := 3) g5).2.1
  by_cases h1 : tq_ch c n (tq_pk c n p) = -1
  · have es : tq_atom c n (tq_S c n 6) p = tq_nm c n 3 (tq_pk c n p) := by unfold tq_atom; rw [if_neg (by rw [h1]; decide), if_neg (by rw [h1]; decide)]
    have e : fx_c_X4_readAtom (nI n) (nI p) (-1) c L C = fx_c_X4_readAtom_p20 (nI n) (-1) c L C (nI (tq_pk c n p)) := by simp only [fx_c_X4_readAtom, exc2, hpk]; rw [if_pos h1]
    rw [e, es]
    simp only [fx_c_X4_readAtom_p20, exc2, exc1]
    cases hb : (tq_nm c n 3 (tq_pk c n p)).1 with
    | true =>
      have r1 := RG_m1 (m2 hb)
      rw [if_neg r1, if_neg r1]
      show CS n (-1) _ (fx_c_X9_number_1 (nI n) (nI (tq_pk c n p)) c).2 (-1)
      rw [m1]
      exact CS_okp hb m5
    | false =>
      rw [if_pos (m3 hb)]
      show CS n (-1) _ (fx_c_X9_number_1 (nI n) (nI (tq_pk c n p)) c).2 (if (-1 : Int32) = -1 then (fx_c_X9_number_1 (nI n) (nI (tq_pk c n p)) c).2 else -1)
      rw [if_pos rfl, m1]
      exact CS_nop hb m5
  · have hr := tq_ch_RG0 hT h1
    obtain ⟨j, hj, ej⟩ := RG_nI hr (by decide)
    have h0 : (0 : Int32) ≤ tq_ch c n (tq_pk c n p) := by rw [Int32.le_iff_toInt_le, Int32.toInt_zero]; exact hr.1
    have hix := px_ix j hj
    rw [← ej] at hix
    rcases hix with ⟨i1, i2⟩ | ⟨i1, i2, i3⟩
    · have e : fx_c_X4_readAtom (nI n) (nI p) (-1) c L C = fx_c_X4_readAtom_p20b (nI n) (-1) c L C (tq_ch c n (tq_pk c n p)) (nI (tq_pk c n p)) := by simp only [fx_c_X4_readAtom, exc1, exc2, exl, hpk]; rw [if_neg h1, if_pos h0, if_pos i1]
      rw [e]
      by_cases h91 : tq_ch c n (tq_pk c n p) = 91
      · have g4 := tq_ch_ne h91 (by decide)
        have es : tq_atom c n (tq_S c n 6) p = tq_bind (tq_SM c n 5 (tq_pk c n p + 1)) (tq_ex c n 93) := by unfold tq_atom; rw [if_neg (by rw [i2]; decide), if_pos h91]; rfl
        rw [es]
        simp only [fx_c_X4_readAtom_p20b, exc1, exc2, exc4]
        rw [if_pos h91, px_skip]
        refine CS_bind hn (px_c_X4_readSum_1 hT (p := tq_pk c n p + 1) (by omega) (-1) L C) (tq_SM_PG _ (by omega)).1 (fun q hq eq _ => ?_)
        rw [eq]
        have h9 := px_c_X9_expect_2 hT hq (x := 93) (w := (fx_c_X4_readSum_1 (nI n) (nI (tq_pk c n p + 1)) (-1) c L C).2.1) (by decide)
        simp only []
        exact h9
      · have es : tq_atom c n (tq_S c n 6) p = tq_nm c n 3 (tq_pk c n p) := by unfold tq_atom; rw [if_neg (by rw [i2]; decide), if_neg h91]
        rw [es]
        simp only [fx_c_X4_readAtom_p20b, exc2, exc1]
        rw [if_neg h91]
        cases hb : (tq_nm c n 3 (tq_pk c n p)).1 with
        | true =>
          have r1 := RG_m1 (m2 hb)
          rw [if_neg r1, if_neg r1]
          show CS n (-1) _ (fx_c_X9_number_1 (nI n) (nI (tq_pk c n p)) c).2 (-1)
          rw [m1]
          exact CS_okp hb m5
        | false =>
          rw [if_pos (m3 hb)]
          show CS n (-1) _ (fx_c_X9_number_1 (nI n) (nI (tq_pk c n p)) c).2 (if (-1 : Int32) = -1 then (fx_c_X9_number_1 (nI n) (nI (tq_pk c n p)) c).2 else -1)
          rw [if_pos rfl, m1]
          exact CS_nop hb m5
    · have g4 := tq_A_lt tq_lt_m1 i3
      have es : tq_atom c n (tq_S c n 6) p = (true, tq_pk c n p + 1) := by unfold tq_atom; rw [if_pos i3]
      have e : fx_c_X4_readAtom (nI n) (nI p) (-1) c L C = fx_c_X4_readAtom_p20c (-1) L C (fx_c_J0_indexOf_0f7a4_4 (((tq_ch c n (tq_pk c n p)).toUInt32 % 65536).toInt32)) (nI (tq_pk c n p)) := by simp only [fx_c_X4_readAtom, exc1, exc2, exl, hpk]; rw [if_neg h1, if_pos h0, if_neg i1]
      rw [e, es]
      simp only [fx_c_X4_readAtom_p20c, exc1, exc2, exl]
      rw [if_neg i2, px_skip]
      exact CS_ok (by omega)
theorem fs_c_X4_readSum_p8 (h1_f1 : Int32) (h1_0c : Nat → Int32) (F : Nat) (j8_l5 : Int32) (j8_l4 : Int32) (j8_l3 : Int32) (j8_h1_f2 : Int32) (j8_h1_f3 : Int32) (j8_h0_f1 : Int32) (j8_h0_0c : (Nat → Int32)) : fx_c_X4_readSum_p8 h1_f1 h1_0c (F + 1) j8_l5 j8_l4 j8_l3 j8_h1_f2 j8_h1_f3 j8_h0_f1 j8_h0_0c = ((if j8_l5 = j8_l5 then (if 240 ≤ j8_l5 then (j8_h1_f2, j8_h1_f3, j8_h0_f1, j8_h0_0c) else (exc1 (fx_c_X9_isRight j8_h1_f3) fun (r_35 : Int32) => (if r_35 = 0 then (j8_h1_f2, j8_h1_f3, j8_h0_f1, j8_h0_0c) else (exc4 (fx_c_X4_readAtom h1_f1 j8_h1_f2 j8_h1_f3 h1_0c j8_h0_f1 j8_h0_0c) fun (x_45 : Int32) (x_46 : Int32) (x_47 : Int32) (w_48 : Nat → Int32) => (if j8_l3 = 0 then (fx_c_X4_readSum_p39 h1_f1 h1_0c j8_l5 j8_l4 (fx_c_X4_readSum_p8 h1_f1 h1_0c F) x_45 x_46 x_47 w_48) else (exl (-j8_l3) fun (x_56 : Int32) => (exc2 (fx_c_X4_emit x_56 x_47 w_48) fun (x_59 : Int32) (w_60 : Nat → Int32) => (fx_c_X4_readSum_p39 h1_f1 h1_0c j8_l5 j8_l4 (fx_c_X4_readSum_p8 h1_f1 h1_0c F) x_45 x_46 x_59 w_60)))))))) else default) : Int32 × Int32 × Int32 × (Nat → Int32)) := rfl
theorem px_c_X4_readSum_64 {c : Nat → Int32} {n : Nat} (hT : TB c n) (hn : n ≤ 240) (k : Int32 → Int32 → Int32 → Int32 → Int32 → Int32 → (Nat → Int32) → Int32 × Int32 × Int32 × (Nat → Int32)) (i q : Nat) (hq : q ≤ n) (w l3 L : Int32) (C : Nat → Int32)
    (hk : w = -1 → ∀ (l4 l3 L : Int32) (C : Nat → Int32), tq_pk c n q + 1 ≤ n → CS n (-1) (tq_SM c n 6 (tq_pk c n q + 1)) (k (nI (i + 1)) l4 l3 (nI (tq_pk c n q + 1)) (-1) L C).1 (k (nI (i + 1)) l4 l3 (nI (tq_pk c n q + 1)) (-1) L C).2.1) :
    CS n w (tq_lp c n tq_as (tq_SM c n 6) q) (fx_c_X4_readSum_p64 (nI n) c (nI i) k l3 (nI q) w L C).1 (fx_c_X4_readSum_p64 (nI n) c (nI i) k l3 (nI q) w L C).2.1 := by
  have g5 := tq_pk_le (c := c) hq
  have ht := px_c_X9_takeEither hT hq (x := 43) (y := 45) (w := w) (by decide) (by decide)
  simp only [fx_c_X4_readSum_p64, exc2]
  by_cases hw : w = -1
  · subst hw
    by_cases hm : tq_ch c n (tq_pk c n q) = 43 ∨ tq_ch c n (tq_pk c n q) = 45
    · have hA : tq_as (tq_ch c n (tq_pk c n q)) = true := by rcases hm with z | z <;> rw [z] <;> decide
      have h0 : ¬ tq_ch c n (tq_pk c n q) = 0 := by rcases hm with z | z <;> rw [z] <;> decide
      have g4 : tq_pk c n q < n := tq_A_lt (A := tq_as) (by decide) hA
      rw [if_pos ⟨rfl, hm⟩] at ht
      rw [ht, tq_lp_t hA]
      simp only []
      rw [if_neg h0]
      simp only [fx_c_X4_readSum_p80, exl, nI_1]
      exact hk rfl _ _ _ _ (by omega)
    · have hA : tq_as (tq_ch c n (tq_pk c n q)) = false := tq_bf (fun z => hm (by simpa [tq_as, Bool.or_eq_true] using z))
      rw [if_neg (fun z => hm z.2)] at ht
      rw [ht, if_pos rfl, tq_lp_f hA]
      exact CS_ok g5
  · rw [if_neg (fun z => hw z.1)] at ht
    rw [ht, if_pos rfl]
    exact CS_dead hw g5 rfl
theorem px_c_X4_readSum_39 {c : Nat → Int32} {n : Nat} (hT : TB c n) (hn : n ≤ 240) (k : Int32 → Int32 → Int32 → Int32 → Int32 → Int32 → (Nat → Int32) → Int32 × Int32 × Int32 × (Nat → Int32)) (i q : Nat) (hq : q ≤ n) (w l4 L : Int32) (C : Nat → Int32)
    (hk : w = -1 → ∀ (l4 l3 L : Int32) (C : Nat → Int32), tq_pk c n q + 1 ≤ n → CS n (-1) (tq_SM c n 6 (tq_pk c n q + 1)) (k (nI (i + 1)) l4 l3 (nI (tq_pk c n q + 1)) (-1) L C).1 (k (nI (i + 1)) l4 l3 (nI (tq_pk c n q + 1)) (-1) L C).2.1) :
    CS n w (tq_lp c n tq_mas (tq_SM c n 6) q) (fx_c_X4_readSum_p39 (nI n) c (nI i) l4 k (nI q) w L C).1 (fx_c_X4_readSum_p39 (nI n) c (nI i) l4 k (nI q) w L C).2.1 := by
  have g5 := tq_pk_le (c := c) hq
  have ht := px_c_X9_takeEither hT hq (x := 42) (y := 47) (w := w) (by decide) (by decide)
  simp only [fx_c_X4_readSum_p39, exc2, exl]
  have hpp := tq_pk_pk (c := c) hq
  by_cases hm : w = -1 ∧ (tq_ch c n (tq_pk c n q) = 42 ∨ tq_ch c n (tq_pk c n q) = 47)
  · obtain ⟨hw, hm⟩ := hm
    subst hw
    have hA : tq_mas (tq_ch c n (tq_pk c n q)) = true := by rcases hm with z | z <;> rw [z] <;> decide
    have h0 : ¬ tq_ch c n (tq_pk c n q) = 0 := by rcases hm with z | z <;> rw [z] <;> decide
    have g4 : tq_pk c n q < n := tq_A_lt tq_mas_m1 hA
    rw [if_pos ⟨rfl, hm⟩] at ht
    rw [ht, tq_lp_t hA]
    simp only []
    rw [if_neg h0]
    simp only [fx_c_X4_readSum_p80, exl, nI_1]
    exact hk rfl _ _ _ _ (by omega)
  · rw [if_neg hm] at ht
    rw [ht, if_pos rfl]
    have hs : ∀ (L : Int32) (C : Nat → Int32), CS n w (tq_lp c n tq_mas (tq_SM c n 6) q) (fx_c_X4_readSum_p64 (nI n) c (nI i) k 0 (nI (tq_pk c n q)) w L C).1 (fx_c_X4_readSum_p64 (nI n) c (nI i) k 0 (nI (tq_pk c n q)) w L C).2.1 := fun L C => by
      have h9 := px_c_X4_readSum_64 hT hn k i (tq_pk c n q) g5 w 0 L C (by rw [hpp]; exact hk)
      by_cases hw : w = -1
      · refine CS_e h9 ?_
        have hf : tq_md (tq_ch c n (tq_pk c n q)) = false := tq_bf (fun z => hm ⟨hw, by simpa [tq_md, Bool.or_eq_true] using z⟩)
        unfold tq_lp
        rw [hpp]
        unfold tq_mas
        rw [hf, Bool.false_or]
      · exact CS_any hw h9
    by_cases hl : l4 = 0
    · rw [if_pos hl]
      exact hs _ _
    · rw [if_neg hl]
      exact hs _ _
theorem px_c_X4_readSum_8 {c : Nat → Int32} {n : Nat} (hT : TB c n) : ∀ (F i : Nat) (l4 l3 : Int32) (p : Nat) (w L : Int32) (C : Nat → Int32), p ≤ n → 2 * i ≤ p → n < p + F → CS n w (tq_SM c n 6 p) (fx_c_X4_readSum_p8 (nI n) c F (nI i) l4 l3 (nI p) w L C).1 (fx_c_X4_readSum_p8 (nI n) c F (nI i) l4 l3 (nI p) w L C).2.1 := by
  have hn := hT.2
  intro F
  induction F with
  | zero => intro i l4 l3 p w L C h1 h2 h3; omega
  | succ F ih =>
    intro i l4 l3 p w L C h1 h2 h3
    have hi : ¬ (240 : Int32) ≤ nI i := nI_ge (a := i) (b := 240) (by omega) (by omega)
    rw [fs_c_X4_readSum_p8, if_pos rfl, if_neg hi]
    by_cases hw : w = -1
    · subst hw
      simp only [exc1, exc4, exc2, exl]
      rw [px_isr_m1, if_neg (by decide)]
      have ha := px_c_X4_readAtom hT h1 L C
      have hg := tq_atom_PG (c := c) (tq_S_PG (c := c) (n := n) 6) p h1
      have hs : ∀ (L2 : Int32) (C2 : Nat → Int32), CS n (-1) (tq_SM c n 6 p) (fx_c_X4_readSum_p39 (nI n) c (nI i) l4 (fx_c_X4_readSum_p8 (nI n) c F) (fx_c_X4_readAtom (nI n) (nI p) (-1) c L C).1 (fx_c_X4_readAtom (nI n) (nI p) (-1) c L C).2.1 L2 C2).1 (fx_c_X4_readSum_p39 (nI n) c (nI i) l4 (fx_c_X4_readSum_p8 (nI n) c F) (fx_c_X4_readAtom (nI n) (nI p) (-1) c L C).1 (fx_c_X4_readAtom (nI n) (nI p) (-1) c L C).2.1 L2 C2).2.1 := fun L2 C2 => by
        rw [tq_SM_eq h1]
        refine CS_bind hn ha hg.1 (fun q hq eq hpr => ?_)
        rw [eq]
        have g3 := tq_pk_ge (c := c) hq
        refine px_c_X4_readSum_39 hT hn _ i q hq _ l4 L2 C2 (fun z l4 l3 L C h9 => ?_)
        obtain ⟨_, z2, z3⟩ := hpr z
        have z4 := hg.2 z2
        exact ih (i + 1) l4 l3 (tq_pk c n q + 1) (-1) L C h9 (by omega) (by omega)
      by_cases hl : l3 = 0
      · rw [if_pos hl]
        exact hs _ _
      · rw [if_neg hl]
        exact hs _ _
    · simp only [exc1]
      rw [px_isr_no hw, if_pos rfl]
      exact CS_dead hw h1 rfl
theorem px_c_X4_readSum {c : Nat → Int32} {n : Nat} (hT : TB c n) {p : Nat} (hp : p ≤ n) (w L : Int32) (C : Nat → Int32) : CS n w (tq_SM c n 6 p) (fx_c_X4_readSum (nI n) (nI p) w c L C).1 (fx_c_X4_readSum (nI n) (nI p) w c L C).2.1 := px_c_X4_readSum_8 hT exF 0 0 0 p w L C hp (by omega) (by have := hT.2; unfold exF; omega)
