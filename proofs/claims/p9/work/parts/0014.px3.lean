theorem px_ic {x : Int32} : fx_c_X4_isComparison_1 x = if tq_cmp x = true then 1 else 0 := by
  by_cases h1 : x = 61
  · rw [h1]; rfl
  · by_cases h2 : x = 60
    · rw [h2]; rfl
    · by_cases h3 : x = 62
      · rw [h3]; rfl
      · have k : ¬ tq_cmp x = true := fun z => by rcases tq_cmp3 z with z | z | z <;> contradiction
        have e : fx_c_X4_isComparison_1 x = if x = 61 then 1 else if x = 60 then 1 else if x = 62 then 1 else 0 := rfl
        rw [e, if_neg h1, if_neg h2, if_neg h3, if_neg k]
theorem px_su {x : Int32} : fx_c_X4_startsUnit_1 x = if x = 33 ∨ x = 40 then 1 else 0 := by
  have e : fx_c_X4_startsUnit_1 x = if x = 33 then 1 else if x = 40 then 1 else 0 := rfl
  by_cases h1 : x = 33
  · rw [e, if_pos h1, if_pos (Or.inl h1)]
  · by_cases h2 : x = 40
    · rw [e, if_neg h1, if_pos h2, if_pos (Or.inr h2)]
    · rw [e, if_neg h1, if_neg h2, if_neg (fun z => by rcases z with z | z <;> contradiction)]
theorem px_c_X4_readUnit_7_24 {c : Nat → Int32} {n : Nat} (hT : TB c n) {q : Nat} (hq : q ≤ n) (w L : Int32) (C : Nat → Int32) : CS n w (tq_tail c n (tq_SM c n 0) q) (fx_c_X4_readUnit_7_p24 (nI n) c (nI q) w L C).1 (fx_c_X4_readUnit_7_p24 (nI n) c (nI q) w L C).2.1 := by
  have hn := hT.2
  have g5 := tq_pk_le (c := c) hq
  simp only [fx_c_X4_readUnit_7_p24, exc1, exc2, exc4, exl]
  rw [px_c_X9_peek hT hq]
  by_cases h1 : tq_ch c n (tq_pk c n q) = -1
  · rw [if_pos h1]
    refine CS_e (CS_no g5) ?_
    unfold tq_tail
    rw [if_neg (by rw [h1]; decide)]
  · rw [if_neg h1, px_ic]
    by_cases h2 : tq_cmp (tq_ch c n (tq_pk c n q)) = true
    · have g4 := tq_A_lt tq_cmp_m1 h2
      rw [if_pos h2, if_neg (by decide), px_skip]
      refine CS_e (px_c_X4_readSum_6 hT (p := tq_pk c n q + 1) (by omega) w L C) ?_
      unfold tq_tail
      rw [if_pos h2]
    · rw [if_neg h2, if_pos rfl]
      refine CS_e (CS_no g5) ?_
      unfold tq_tail
      rw [if_neg h2]
theorem px_c_X4_readUnit_7_14 {c : Nat → Int32} {n : Nat} (hT : TB c n) {q : Nat} (hq : q ≤ n) (L : Int32) (C : Nat → Int32) : CS n (-1) (tq_bind (tq_SM c n 0 q) (tq_tail c n (tq_SM c n 0))) (fx_c_X4_readUnit_7_p14 (nI n) (-1) c L C (nI q)).1 (fx_c_X4_readUnit_7_p14 (nI n) (-1) c L C (nI q)).2.1 := by
  have hn := hT.2
  simp only [fx_c_X4_readUnit_7_p14, exc4]
  refine CS_bind hn (px_c_X4_readSum_6 hT hq (-1) L C) (tq_SM_PG _ hq).1 (fun r hr eq _ => ?_)
  rw [eq]
  exact px_c_X4_readUnit_7_24 hT hr _ _ _
theorem px_c_X4_readUnit_7 {c : Nat → Int32} {n : Nat} (hT : TB c n) {p : Nat} (hp : p ≤ n) (L : Int32) (C : Nat → Int32) : CS n (-1) (tq_U c n 0 p) (fx_c_X4_readUnit_7 (nI n) (nI p) (-1) c L C).1 (fx_c_X4_readUnit_7 (nI n) (nI p) (-1) c L C).2.1 := by
  have hn := hT.2
  have g3 := tq_pk_ge (c := c) hp
  have g5 := tq_pk_le (c := c) hp
  have hpk := px_c_X9_peek hT hp
  simp only [fx_c_X4_readUnit_7, exc1, exc2, exc4]
  rw [hpk]
  simp only []
  by_cases h1 : tq_ch c n (tq_pk c n p) = -1
  · rw [if_pos h1]
    refine CS_e (px_c_X4_readUnit_7_14 hT g5 L C) ?_
    show tq_unit c n _ _ _ p = _
    unfold tq_unit
    rw [if_neg (by rw [h1]; decide), if_neg (by rw [h1]; decide)]
  · rw [if_neg h1, px_su]
    by_cases h2 : tq_ch c n (tq_pk c n p) = 33 ∨ tq_ch c n (tq_pk c n p) = 40
    · rw [if_pos h2, if_neg (by decide)]
      refine CS_e (CS_no g5) ?_
      show tq_unit c n _ none none p = _
      unfold tq_unit
      by_cases h3 : tq_ch c n (tq_pk c n p) = 33
      · rw [if_pos h3]
      · rw [if_neg h3, if_pos (h2.resolve_left h3)]
    · rw [if_neg h2, if_pos rfl]
      refine CS_e (px_c_X4_readUnit_7_14 hT g5 L C) ?_
      show tq_unit c n _ _ _ p = _
      unfold tq_unit
      rw [if_neg (fun z => h2 (Or.inl z)), if_neg (fun z => h2 (Or.inr z))]
theorem fs_c_X4_readCondition_6_p9 (h1_f1 : Int32) (h1_0c : Nat → Int32) (F : Nat) (j9_l6 : Int32) (j9_l5 : Int32) (j9_l4 : Int32) (j9_h1_f2 : Int32) (j9_h1_f3 : Int32) (j9_h0_f1 : Int32) (j9_h0_0c : (Nat → Int32)) : fx_c_X4_readCondition_6_p9 h1_f1 h1_0c (F + 1) j9_l6 j9_l5 j9_l4 j9_h1_f2 j9_h1_f3 j9_h0_f1 j9_h0_0c = ((if j9_l6 = j9_l6 then (if 240 ≤ j9_l6 then (j9_h1_f2, j9_h1_f3, j9_h0_f1, j9_h0_0c) else (exc1 (fx_c_X9_isRight j9_h1_f3) fun (r_60 : Int32) => (if r_60 = 0 then (j9_h1_f2, j9_h1_f3, j9_h0_f1, j9_h0_0c) else (fx_c_X4_readCondition_6_p40 h1_f1 h1_0c j9_l6 j9_l5 j9_l4 j9_h1_f2 j9_h1_f3 j9_h0_f1 j9_h0_0c (fx_c_X4_readCondition_6_p9 h1_f1 h1_0c F))))) else default) : Int32 × Int32 × Int32 × (Nat → Int32)) := rfl
theorem px_c_X4_readCondition_6_79 {c : Nat → Int32} {n : Nat} (hT : TB c n) (hn : n ≤ 240) (k : Int32 → Int32 → Int32 → Int32 → Int32 → Int32 → (Nat → Int32) → Int32 × Int32 × Int32 × (Nat → Int32)) (i q : Nat) (hq : q ≤ n) (w L : Int32) (C : Nat → Int32)
    (hk : w = -1 → ∀ (l5 l4 L : Int32) (C : Nat → Int32), tq_pk c n q + 1 ≤ n → CS n (-1) (tq_C c n 0 (tq_pk c n q + 1)) (k (nI (i + 1)) l5 l4 (nI (tq_pk c n q + 1)) (-1) L C).1 (k (nI (i + 1)) l5 l4 (nI (tq_pk c n q + 1)) (-1) L C).2.1) :
    CS n w (tq_lp c n tq_or (tq_C c n 0) q) (fx_c_X4_readCondition_6_p79 (nI n) c (nI i) k (nI q) w L C).1 (fx_c_X4_readCondition_6_p79 (nI n) c (nI i) k (nI q) w L C).2.1 := by
  have g5 := tq_pk_le (c := c) hq
  simp only [fx_c_X4_readCondition_6_p79, exc2]
  rw [px_c_X9_take_1 hT hq (by decide)]
  by_cases hw : w = -1
  · subst hw
    rw [if_pos rfl]
    by_cases hm : tq_ch c n (tq_pk c n q) = 124
    · have hA : tq_or (tq_ch c n (tq_pk c n q)) = true := by rw [hm]; decide
      have g4 : tq_pk c n q < n := tq_ch_ne hm (by decide)
      rw [if_pos hm, if_neg (show ¬ (1 : Int32) = 0 by decide), tq_lp_t hA]
      simp only [fx_c_X4_readCondition_6_p93, exl, nI_1]
      exact hk rfl _ _ _ _ (by omega)
    · have hA : tq_or (tq_ch c n (tq_pk c n q)) = false := tq_bf (fun z => hm (of_decide_eq_true z))
      rw [if_neg hm, if_pos rfl, tq_lp_f hA]
      exact CS_ok g5
  · rw [if_neg hw, if_pos rfl]
    exact CS_dead hw hq rfl
theorem px_c_X4_readCondition_6_55 {c : Nat → Int32} {n : Nat} (hT : TB c n) (hn : n ≤ 240) (k : Int32 → Int32 → Int32 → Int32 → Int32 → Int32 → (Nat → Int32) → Int32 × Int32 × Int32 × (Nat → Int32)) (i q : Nat) (hq : q ≤ n) (w l5 L : Int32) (C : Nat → Int32)
    (hk : w = -1 → ∀ (l5 l4 L : Int32) (C : Nat → Int32), tq_pk c n q + 1 ≤ n → CS n (-1) (tq_C c n 0 (tq_pk c n q + 1)) (k (nI (i + 1)) l5 l4 (nI (tq_pk c n q + 1)) (-1) L C).1 (k (nI (i + 1)) l5 l4 (nI (tq_pk c n q + 1)) (-1) L C).2.1) :
    CS n w (tq_lp c n tq_ao (tq_C c n 0) q) (fx_c_X4_readCondition_6_p55 (nI n) c (nI i) l5 k (nI q) w L C).1 (fx_c_X4_readCondition_6_p55 (nI n) c (nI i) l5 k (nI q) w L C).2.1 := by
  have g5 := tq_pk_le (c := c) hq
  have hpp := tq_pk_pk (c := c) hq
  simp only [fx_c_X4_readCondition_6_p55, exc2]
  rw [px_c_X9_take hT hq (by decide)]
  by_cases hw : w = -1
  · subst hw
    rw [if_pos rfl]
    by_cases hm : tq_ch c n (tq_pk c n q) = 38
    · have hA : tq_ao (tq_ch c n (tq_pk c n q)) = true := by rw [hm]; decide
      have g4 : tq_pk c n q < n := tq_ch_ne hm (by decide)
      rw [if_pos hm, if_neg (show ¬ (1 : Int32) = 0 by decide), tq_lp_t hA]
      simp only [fx_c_X4_readCondition_6_p93, exl, nI_1]
      exact hk rfl _ _ _ _ (by omega)
    · rw [if_neg hm, if_pos rfl]
      have hs : ∀ (L : Int32) (C : Nat → Int32), CS n (-1) (tq_lp c n tq_ao (tq_C c n 0) q) (fx_c_X4_readCondition_6_p79 (nI n) c (nI i) k (nI (tq_pk c n q)) (-1) L C).1 (fx_c_X4_readCondition_6_p79 (nI n) c (nI i) k (nI (tq_pk c n q)) (-1) L C).2.1 := fun L C => by
        refine CS_e (px_c_X4_readCondition_6_79 hT hn k i (tq_pk c n q) g5 (-1) L C (by rw [hpp]; exact hk)) ?_
        have hf : tq_am (tq_ch c n (tq_pk c n q)) = false := tq_bf (fun z => hm (of_decide_eq_true z))
        unfold tq_lp
        rw [hpp]
        unfold tq_ao
        rw [hf, Bool.false_or]
      by_cases hl : l5 = 0
      · rw [if_pos hl]
        exact hs _ _
      · rw [if_neg hl]
        exact hs _ _
  · rw [if_neg hw, if_pos rfl]
    have hs : ∀ (L : Int32) (C : Nat → Int32), CS n w (tq_lp c n tq_ao (tq_C c n 0) q) (fx_c_X4_readCondition_6_p79 (nI n) c (nI i) k (nI q) w L C).1 (fx_c_X4_readCondition_6_p79 (nI n) c (nI i) k (nI q) w L C).2.1 := fun L C => CS_any hw (px_c_X4_readCondition_6_79 hT hn k i q hq w L C hk)
    by_cases hl : l5 = 0
    · rw [if_pos hl]
      exact hs _ _
    · rw [if_neg hl]
      exact hs _ _
theorem px_c_X4_readCondition_6_9 {c : Nat → Int32} {n : Nat} (hT : TB c n) : ∀ (F i : Nat) (l5 l4 : Int32) (p : Nat) (w L : Int32) (C : Nat → Int32), p ≤ n → 2 * i ≤ p → n < p + F → CS n w (tq_C c n 0 p) (fx_c_X4_readCondition_6_p9 (nI n) c F (nI i) l5 l4 (nI p) w L C).1 (fx_c_X4_readCondition_6_p9 (nI n) c F (nI i) l5 l4 (nI p) w L C).2.1 := by
  have hn := hT.2
  intro F
  induction F with
  | zero => intro i l5 l4 p w L C h1 h2 h3; omega
  | succ F ih =>
    intro i l5 l4 p w L C h1 h2 h3
    have hi : ¬ (240 : Int32) ≤ nI i := nI_ge (a := i) (b := 240) (by omega) (by omega)
    rw [fs_c_X4_readCondition_6_p9, if_pos rfl, if_neg hi]
    by_cases hw : w = -1
    · subst hw
      have ha := px_c_X4_readUnit_7 hT h1 L C
      have hg := tq_U_PG (c := c) (n := n) 0 p h1
      have hs : ∀ (L2 : Int32) (C2 : Nat → Int32), CS n (-1) (tq_C c n 0 p) (fx_c_X4_readCondition_6_p55 (nI n) c (nI i) l5 (fx_c_X4_readCondition_6_p9 (nI n) c F) (fx_c_X4_readUnit_7 (nI n) (nI p) (-1) c L C).1 (fx_c_X4_readUnit_7 (nI n) (nI p) (-1) c L C).2.1 L2 C2).1 (fx_c_X4_readCondition_6_p55 (nI n) c (nI i) l5 (fx_c_X4_readCondition_6_p9 (nI n) c F) (fx_c_X4_readUnit_7 (nI n) (nI p) (-1) c L C).1 (fx_c_X4_readUnit_7 (nI n) (nI p) (-1) c L C).2.1 L2 C2).2.1 := fun L2 C2 => by
        rw [tq_C_eq h1]
        refine CS_bind hn ha hg.1 (fun q hq eq hpr => ?_)
        rw [eq]
        have g3 := tq_pk_ge (c := c) hq
        refine px_c_X4_readCondition_6_55 hT hn _ i q hq _ l5 L2 C2 (fun z l5 l4 L C h9 => ?_)
        obtain ⟨_, z2, z3⟩ := hpr z
        have z4 := hg.2 z2
        exact ih (i + 1) l5 l4 (tq_pk c n q + 1) (-1) L C h9 (by omega) (by omega)
      have hs2 : CS n (-1) (tq_C c n 0 p) (fx_c_X4_readCondition_6_p40 (nI n) c (nI i) l5 l4 (nI p) (-1) L C (fx_c_X4_readCondition_6_p9 (nI n) c F)).1 (fx_c_X4_readCondition_6_p40 (nI n) c (nI i) l5 l4 (nI p) (-1) L C (fx_c_X4_readCondition_6_p9 (nI n) c F)).2.1 := by
        simp only [fx_c_X4_readCondition_6_p40, fx_c_X4_readCondition_6_p41, exc4, exc2]
        by_cases hl : l4 = 0
        · rw [if_pos hl]
          exact hs _ _
        · rw [if_neg hl]
          exact hs _ _
      simp only [exc1]
      rw [px_isr_m1, if_neg (by decide)]
      exact hs2
    · simp only [exc1]
      rw [px_isr_no hw, if_pos rfl]
      exact CS_dead hw h1 rfl
theorem px_c_X4_readCondition_6 {c : Nat → Int32} {n : Nat} (hT : TB c n) {p : Nat} (hp : p ≤ n) (w L : Int32) (C : Nat → Int32) : CS n w (tq_C c n 0 p) (fx_c_X4_readCondition_6 (nI n) (nI p) w c L C).1 (fx_c_X4_readCondition_6 (nI n) (nI p) w c L C).2.1 := px_c_X4_readCondition_6_9 hT exF 0 0 0 p w L C hp (by omega) (by have := hT.2; unfold exF; omega)
theorem px_c_X4_readUnit_6_24 {c : Nat → Int32} {n : Nat} (hT : TB c n) {q : Nat} (hq : q ≤ n) (w L : Int32) (C : Nat → Int32) : CS n w (tq_tail c n (tq_SM c n 1) q) (fx_c_X4_readUnit_6_p24 (nI n) c (nI q) w L C).1 (fx_c_X4_readUnit_6_p24 (nI n) c (nI q) w L C).2.1 := by
  have hn := hT.2
  have g5 := tq_pk_le (c := c) hq
  simp only [fx_c_X4_readUnit_6_p24, exc1, exc2, exc4, exl]
  rw [px_c_X9_peek hT hq]
  by_cases h1 : tq_ch c n (tq_pk c n q) = -1
  · rw [if_pos h1]
    refine CS_e (CS_no g5) ?_
    unfold tq_tail
    rw [if_neg (by rw [h1]; decide)]
  · rw [if_neg h1, px_ic]
    by_cases h2 : tq_cmp (tq_ch c n (tq_pk c n q)) = true
    · have g4 := tq_A_lt tq_cmp_m1 h2
      rw [if_pos h2, if_neg (by decide), px_skip]
      refine CS_e (px_c_X4_readSum_5 hT (p := tq_pk c n q + 1) (by omega) w L C) ?_
      unfold tq_tail
      rw [if_pos h2]
    · rw [if_neg h2, if_pos rfl]
      refine CS_e (CS_no g5) ?_
      unfold tq_tail
      rw [if_neg h2]
theorem px_c_X4_readUnit_6_14 {c : Nat → Int32} {n : Nat} (hT : TB c n) {q : Nat} (hq : q ≤ n) (L : Int32) (C : Nat → Int32) : CS n (-1) (tq_bind (tq_SM c n 1 q) (tq_tail c n (tq_SM c n 1))) (fx_c_X4_readUnit_6_p14 (nI n) (-1) c L C (nI q)).1 (fx_c_X4_readUnit_6_p14 (nI n) (-1) c L C (nI q)).2.1 := by
  have hn := hT.2
  simp only [fx_c_X4_readUnit_6_p14, exc4]
  refine CS_bind hn (px_c_X4_readSum_5 hT hq (-1) L C) (tq_SM_PG _ hq).1 (fun r hr eq _ => ?_)
  rw [eq]
  exact px_c_X4_readUnit_6_24 hT hr _ _ _
theorem px_c_X4_readUnit_6 {c : Nat → Int32} {n : Nat} (hT : TB c n) {p : Nat} (hp : p ≤ n) (L : Int32) (C : Nat → Int32) : CS n (-1) (tq_U c n 1 p) (fx_c_X4_readUnit_6 (nI n) (nI p) (-1) c L C).1 (fx_c_X4_readUnit_6 (nI n) (nI p) (-1) c L C).2.1 := by
  have hn := hT.2
  have g3 := tq_pk_ge (c := c) hp
  have g5 := tq_pk_le (c := c) hp
  have hpk := px_c_X9_peek hT hp
  simp only [fx_c_X4_readUnit_6, exc1, exc2, exc4]
  rw [hpk]
  simp only []
  by_cases h1 : tq_ch c n (tq_pk c n p) = -1
  · rw [if_pos h1]
    refine CS_e (px_c_X4_readUnit_6_14 hT g5 L C) ?_
    show tq_unit c n _ _ _ p = _
    unfold tq_unit
    rw [if_neg (by rw [h1]; decide), if_neg (by rw [h1]; decide)]
  · rw [if_neg h1, px_su]
    by_cases h2 : tq_ch c n (tq_pk c n p) = 33 ∨ tq_ch c n (tq_pk c n p) = 40
    · rw [if_pos h2, if_neg (by decide)]
      have hpp := tq_pk_pk (c := c) hp
      have g4 : tq_pk c n p < n := tq_ch_lt h1
      rw [px_c_X9_take hT g5 (by decide), if_pos rfl, hpp]
      by_cases h3 : tq_ch c n (tq_pk c n p) = 33
      · rw [if_pos h3, if_neg (show ¬ (1 : Int32) = 0 by decide)]
        simp only []
        refine CS_e (px_c_X4_readUnit_7 hT (p := tq_pk c n p + 1) (by omega) L C) ?_
        show tq_unit c n _ _ _ p = _
        unfold tq_unit
        rw [if_pos h3]
      · have h4 := h2.resolve_left h3
        rw [if_neg h3, if_pos rfl]
        simp only []
        have hs : tq_U c n 1 p = tq_bind (tq_ex c n 40 (tq_pk c n p)) (fun r => tq_bind (tq_C c n 0 r) (tq_ex c n 41)) := by
          have hx : tq_ex c n 40 (tq_pk c n p) = (true, tq_pk c n p + 1) := by unfold tq_ex; rw [hpp, if_pos h4]
          rw [hx]
          show tq_unit c n _ _ _ p = _
          unfold tq_unit
          rw [if_neg h3, if_pos h4]
          rfl
        rw [hs]
        refine CS_bind hn (px_c_X9_expect_1 hT g5 (x := 40) (w := -1) (by decide)) (tq_ex_PG (by decide) _ g5).1 (fun r hr eq _ => ?_)
        rw [eq]
        refine CS_bind hn (px_c_X4_readCondition_6 hT hr _ L C) (tq_C_PG _ hr).1 (fun r2 hr2 eq2 _ => ?_)
        rw [eq2]
        have h9 := px_c_X9_expect_1 hT hr2 (x := 41) (w := (fx_c_X4_readCondition_6 (nI n) (nI r) (fx_c_X9_expect_1 40 (nI n) (nI (tq_pk c n p)) (-1) c).2 c L C).2.1) (by decide)
        exact h9
    · rw [if_neg h2, if_pos rfl]
      refine CS_e (px_c_X4_readUnit_6_14 hT g5 L C) ?_
      show tq_unit c n _ _ _ p = _
      unfold tq_unit
      rw [if_neg (fun z => h2 (Or.inl z)), if_neg (fun z => h2 (Or.inr z))]
theorem fs_c_X4_readCondition_5_p9 (h1_f1 : Int32) (h1_0c : Nat → Int32) (F : Nat) (j9_l6 : Int32) (j9_l5 : Int32) (j9_l4 : Int32) (j9_h1_f2 : Int32) (j9_h1_f3 : Int32) (j9_h0_f1 : Int32) (j9_h0_0c : (Nat → Int32)) : fx_c_X4_readCondition_5_p9 h1_f1 h1_0c (F + 1) j9_l6 j9_l5 j9_l4 j9_h1_f2 j9_h1_f3 j9_h0_f1 j9_h0_0c = ((if j9_l6 = j9_l6 then (if 240 ≤ j9_l6 then (j9_h1_f2, j9_h1_f3, j9_h0_f1, j9_h0_0c) else (exc1 (fx_c_X9_isRight j9_h1_f3) fun (r_60 : Int32) => (if r_60 = 0 then (j9_h1_f2, j9_h1_f3, j9_h0_f1, j9_h0_0c) else (fx_c_X4_readCondition_5_p40 h1_f1 h1_0c j9_l6 j9_l5 j9_l4 j9_h1_f2 j9_h1_f3 j9_h0_f1 j9_h0_0c (fx_c_X4_readCondition_5_p9 h1_f1 h1_0c F))))) else default) : Int32 × Int32 × Int32 × (Nat → Int32)) := rfl
theorem px_c_X4_readCondition_5_79 {c : Nat → Int32} {n : Nat} (hT : TB c n) (hn : n ≤ 240) (k : Int32 → Int32 → Int32 → Int32 → Int32 → Int32 → (Nat → Int32) → Int32 × Int32 × Int32 × (Nat → Int32)) (i q : Nat) (hq : q ≤ n) (w L : Int32) (C : Nat → Int32)
    (hk : w = -1 → ∀ (l5 l4 L : Int32) (C : Nat → Int32), tq_pk c n q + 1 ≤ n → CS n (-1) (tq_C c n 1 (tq_pk c n q + 1)) (k (nI (i + 1)) l5 l4 (nI (tq_pk c n q + 1)) (-1) L C).1 (k (nI (i + 1)) l5 l4 (nI (tq_pk c n q + 1)) (-1) L C).2.1) :
    CS n w (tq_lp c n tq_or (tq_C c n 1) q) (fx_c_X4_readCondition_5_p79 (nI n) c (nI i) k (nI q) w L C).1 (fx_c_X4_readCondition_5_p79 (nI n) c (nI i) k (nI q) w L C).2.1 := by
  have g5 := tq_pk_le (c := c) hq
  simp only [fx_c_X4_readCondition_5_p79, exc2]
  rw [px_c_X9_take_1 hT hq (by decide)]
  by_cases hw : w = -1
  · subst hw
    rw [if_pos rfl]
    by_cases hm : tq_ch c n (tq_pk c n q) = 124
    · have hA : tq_or (tq_ch c n (tq_pk c n q)) = true := by rw [hm]; decide
      have g4 : tq_pk c n q < n := tq_ch_ne hm (by decide)
      rw [if_pos hm, if_neg (show ¬ (1 : Int32) = 0 by decide), tq_lp_t hA]
      simp only [fx_c_X4_readCondition_5_p93, exl, nI_1]
      exact hk rfl _ _ _ _ (by omega)
    · have hA : tq_or (tq_ch c n (tq_pk c n q)) = false := tq_bf (fun z => hm (of_decide_eq_true z))
      rw [if_neg hm, if_pos rfl, tq_lp_f hA]
      exact CS_ok g5
  · rw [if_neg hw, if_pos rfl]
    exact CS_dead hw hq rfl
theorem px_c_X4_readCondition_5_55 {c : Nat → Int32} {n : Nat} (hT : TB c n) (hn : n ≤ 240) (k : Int32 → Int32 → Int32 → Int32 → Int32 → Int32 → (Nat → Int32) → Int32 × Int32 × Int32 × (Nat → Int32)) (i q : Nat) (hq : q ≤ n) (w l5 L : Int32) (C : Nat → Int32)
    (hk : w = -1 → ∀ (l5 l4 L : Int32) (C : Nat → Int32), tq_pk c n q + 1 ≤ n → CS n (-1) (tq_C c n 1 (tq_pk c n q + 1)) (k (nI (i + 1)) l5 l4 (nI (tq_pk c n q + 1)) (-1) L C).1 (k (nI (i + 1)) l5 l4 (nI (tq_pk c n q + 1)) (-1) L C).2.1) :
    CS n w (tq_lp c n tq_ao (tq_C c n 1) q) (fx_c_X4_readCondition_5_p55 (nI n) c (nI i) l5 k (nI q) w L C).1 (fx_c_X4_readCondition_5_p55 (nI n) c (nI i) l5 k (nI q) w L C).2.1 := by
  have g5 := tq_pk_le (c := c) hq
  have hpp := tq_pk_pk (c := c) hq
  simp only [fx_c_X4_readCondition_5_p55, exc2]
  rw [px_c_X9_take hT hq (by decide)]
  by_cases hw : w = -1
  · subst hw
    rw [if_pos rfl]
    by_cases hm : tq_ch c n (tq_pk c n q) = 38
    · have hA : tq_ao (tq_ch c n (tq_pk c n q)) = true := by rw [hm]; decide
      have g4 : tq_pk c n q < n := tq_ch_ne hm (by decide)
      rw [if_pos hm, if_neg (show ¬ (1 : Int32) = 0 by decide), tq_lp_t hA]
      simp only [fx_c_X4_readCondition_5_p93, exl, nI_1]
      exact hk rfl _ _ _ _ (by omega)
    · rw [if_neg hm, if_pos rfl]
      have hs : ∀ (L : Int32) (C : Nat → Int32), CS n (-1) (tq_lp c n tq_ao (tq_C c n 1) q) (fx_c_X4_readCondition_5_p79 (nI n) c (nI i) k (nI (tq_pk c n q)) (-1) L C).1 (fx_c_X4_readCondition_5_p79 (nI n) c (nI i) k (nI (tq_pk c n q)) (-1) L C).2.1 := fun L C => by
        refine CS_e (px_c_X4_readCondition_5_79 hT hn k i (tq_pk c n q) g5 (-1) L C (by rw [hpp]; exact hk)) ?_
        have hf : tq_am (tq_ch c n (tq_pk c n q)) = false := tq_bf (fun z => hm (of_decide_eq_true z))
        unfold tq_lp
        rw [hpp]
        unfold tq_ao
        rw [hf, Bool.false_or]
      by_cases hl : l5 = 0
      · rw [if_pos hl]
        exact hs _ _
      · rw [if_neg hl]
        exact hs _ _
  · rw [if_neg hw, if_pos rfl]
    have hs : ∀ (L : Int32) (C : Nat → Int32), CS n w (tq_lp c n tq_ao (tq_C c n 1) q) (fx_c_X4_readCondition_5_p79 (nI n) c (nI i) k (nI q) w L C).1 (fx_c_X4_readCondition_5_p79 (nI n) c (nI i) k (nI q) w L C).2.1 := fun L C => CS_any hw (px_c_X4_readCondition_5_79 hT hn k i q hq w L C hk)
    by_cases hl : l5 = 0
    · rw [if_pos hl]
      exact hs _ _
    · rw [if_neg hl]
      exact hs _ _
theorem px_c_X4_readCondition_5_9 {c : Nat → Int32} {n : Nat} (hT : TB c n) : ∀ (F i : Nat) (l5 l4 : Int32) (p : Nat) (w L : Int32) (C : Nat → Int32), p ≤ n → 2 * i ≤ p → n < p + F → CS n w (tq_C c n 1 p) (fx_c_X4_readCondition_5_p9 (nI n) c F (nI i) l5 l4 (nI p) w L C).1 (fx_c_X4_readCondition_5_p9 (nI n) c F (nI i) l5 l4 (nI p) w L C).2.1 := by
  have hn := hT.2
  intro F
  induction F with
  | zero => intro i l5 l4 p w L C h1 h2 h3; omega
  | succ F ih =>
    intro i l5 l4 p w L C h1 h2 h3
    have hi : ¬ (240 : Int32) ≤ nI i := nI_ge (a := i) (b := 240) (by omega) (by omega)
    rw [fs_c_X4_readCondition_5_p9, if_pos rfl, if_neg hi]
    by_cases hw : w = -1
    · subst hw
      have ha := px_c_X4_readUnit_6 hT h1 L C
      have hg := tq_U_PG (c := c) (n := n) 1 p h1
      have hs : ∀ (L2 : Int32) (C2 : Nat → Int32), CS n (-1) (tq_C c n 1 p) (fx_c_X4_readCondition_5_p55 (nI n) c (nI i) l5 (fx_c_X4_readCondition_5_p9 (nI n) c F) (fx_c_X4_readUnit_6 (nI n) (nI p) (-1) c L C).1 (fx_c_X4_readUnit_6 (nI n) (nI p) (-1) c L C).2.1 L2 C2).1 (fx_c_X4_readCondition_5_p55 (nI n) c (nI i) l5 (fx_c_X4_readCondition_5_p9 (nI n) c F) (fx_c_X4_readUnit_6 (nI n) (nI p) (-1) c L C).1 (fx_c_X4_readUnit_6 (nI n) (nI p) (-1) c L C).2.1 L2 C2).2.1 := fun L2 C2 => by
        rw [tq_C_eq h1]
        refine CS_bind hn ha hg.1 (fun q hq eq hpr => ?_)
        rw [eq]
        have g3 := tq_pk_ge (c := c) hq
        refine px_c_X4_readCondition_5_55 hT hn _ i q hq _ l5 L2 C2 (fun z l5 l4 L C h9 => ?_)
        obtain ⟨_, z2, z3⟩ := hpr z
        have z4 := hg.2 z2
        exact ih (i + 1) l5 l4 (tq_pk c n q + 1) (-1) L C h9 (by omega) (by omega)
      have hs2 : CS n (-1) (tq_C c n 1 p) (fx_c_X4_readCondition_5_p40 (nI n) c (nI i) l5 l4 (nI p) (-1) L C (fx_c_X4_readCondition_5_p9 (nI n) c F)).1 (fx_c_X4_readCondition_5_p40 (nI n) c (nI i) l5 l4 (nI p) (-1) L C (fx_c_X4_readCondition_5_p9 (nI n) c F)).2.1 := by
        simp only [fx_c_X4_readCondition_5_p40, fx_c_X4_readCondition_5_p41, exc4, exc2]
        by_cases hl : l4 = 0
        · rw [if_pos hl]
          exact hs _ _
        · rw [if_neg hl]
          exact hs _ _
      simp only [exc1]
      rw [px_isr_m1, if_neg (by decide)]
      exact hs2
    · simp only [exc1]
      rw [px_isr_no hw, if_pos rfl]
      exact CS_dead hw h1 rfl
theorem px_c_X4_readCondition_5 {c : Nat → Int32} {n : Nat} (hT : TB c n) {p : Nat} (hp : p ≤ n) (w L : Int32) (C : Nat → Int32) : CS n w (tq_C c n 1 p) (fx_c_X4_readCondition_5 (nI n) (nI p) w c L C).1 (fx_c_X4_readCondition_5 (nI n) (nI p) w c L C).2.1 := px_c_X4_readCondition_5_9 hT exF 0 0 0 p w L C hp (by omega) (by have := hT.2; unfold exF; omega)
theorem px_c_X4_readUnit_5_24 {c : Nat → Int32} {n : Nat} (hT : TB c n) {q : Nat} (hq : q ≤ n) (w L : Int32) (C : Nat → Int32) : CS n w (tq_tail c n (tq_SM c n 2) q) (fx_c_X4_readUnit_5_p24 (nI n) c (nI q) w L C).1 (fx_c_X4_readUnit_5_p24 (nI n) c (nI q) w L C).2.1 := by
  have hn := hT.2
  have g5 := tq_pk_le (c := c) hq
  simp only [fx_c_X4_readUnit_5_p24, exc1, exc2, exc4, exl]
  rw [px_c_X9_peek hT hq]
  by_cases h1 : tq_ch c n (tq_pk c n q) = -1
  · rw [if_pos h1]
    refine CS_e (CS_no g5) ?_
    unfold tq_tail
    rw [if_neg (by rw [h1]; decide)]
  · rw [if_neg h1, px_ic]
    by_cases h2 : tq_cmp (tq_ch c n (tq_pk c n q)) = true
    · have g4 := tq_A_lt tq_cmp_m1 h2
      rw [if_pos h2, if_neg (by decide), px_skip]
      refine CS_e (px_c_X4_readSum_4 hT (p := tq_pk c n q + 1) (by omega) w L C) ?_
      unfold tq_tail
      rw [if_pos h2]
    · rw [if_neg h2, if_pos rfl]
      refine CS_e (CS_no g5) ?_
      unfold tq_tail
      rw [if_neg h2]
theorem px_c_X4_readUnit_5_14 {c : Nat → Int32} {n : Nat} (hT : TB c n) {q : Nat} (hq : q ≤ n) (L : Int32) (C : Nat → Int32) : CS n (-1) (tq_bind (tq_SM c n 2 q) (tq_tail c n (tq_SM c n 2))) (fx_c_X4_readUnit_5_p14 (nI n) (-1) c L C (nI q)).1 (fx_c_X4_readUnit_5_p14 (nI n) (-1) c L C (nI q)).2.1 := by
  have hn := hT.2
  simp only [fx_c_X4_readUnit_5_p14, exc4]
  refine CS_bind hn (px_c_X4_readSum_4 hT hq (-1) L C) (tq_SM_PG _ hq).1 (fun r hr eq _ => ?_)
  rw [eq]
  exact px_c_X4_readUnit_5_24 hT hr _ _ _
theorem px_c_X4_readUnit_5 {c : Nat → Int32} {n : Nat} (hT : TB c n) {p : Nat} (hp : p ≤ n) (L : Int32) (C : Nat → Int32) : CS n (-1) (tq_U c n 2 p) (fx_c_X4_readUnit_5 (nI n) (nI p) (-1) c L C).1 (fx_c_X4_readUnit_5 (nI n) (nI p) (-1) c L C).2.1 := by
  have hn := hT.2
  have g3 := tq_pk_ge (c := c) hp
  have g5 := tq_pk_le (c := c) hp
  have hpk := px_c_X9_peek hT hp
  simp only [fx_c_X4_readUnit_5, exc1, exc2, exc4]
  rw [hpk]
  simp only []
  by_cases h1 : tq_ch c n (tq_pk c n p) = -1
  · rw [if_pos h1]
    refine CS_e (px_c_X4_readUnit_5_14 hT g5 L C) ?_
    show tq_unit c n _ _ _ p = _
    unfold tq_unit
    rw [if_neg (by rw [h1]; decide), if_neg (by rw [h1]; decide)]
  · rw [if_neg h1, px_su]
    by_cases h2 : tq_ch c n (tq_pk c n p) = 33 ∨ tq_ch c n (tq_pk c n p) = 40
    · rw [if_pos h2, if_neg (by decide)]
      have hpp := tq_pk_pk (c := c) hp
      have g4 : tq_pk c n p < n := tq_ch_lt h1
      rw [px_c_X9_take hT g5 (by decide), if_pos rfl, hpp]
      by_cases h3 : tq_ch c n (tq_pk c n p) = 33
      · rw [if_pos h3, if_neg (show ¬ (1 : Int32) = 0 by decide)]
        simp only []
        refine CS_e (px_c_X4_readUnit_6 hT (p := tq_pk c n p + 1) (by omega) L C) ?_
        show tq_unit c n _ _ _ p = _
        unfold tq_unit
        rw [if_pos h3]
      · have h4 := h2.resolve_left h3
        rw [if_neg h3, if_pos rfl]
        simp only []
        have hs : tq_U c n 2 p = tq_bind (tq_ex c n 40 (tq_pk c n p)) (fun r => tq_bind (tq_C c n 1 r) (tq_ex c n 41)) := by
          have hx : tq_ex c n 40 (tq_pk c n p) = (true, tq_pk c n p + 1) := by unfold tq_ex; rw [hpp, if_pos h4]
          rw [hx]
          show tq_unit c n _ _ _ p = _
          unfold tq_unit
          rw [if_neg h3, if_pos h4]
          rfl
        rw [hs]
        refine CS_bind hn (px_c_X9_expect_1 hT g5 (x := 40) (w := -1) (by decide)) (tq_ex_PG (by decide) _ g5).1 (fun r hr eq _ => ?_)
        rw [eq]
        refine CS_bind hn (px_c_X4_readCondition_5 hT hr _ L C) (tq_C_PG _ hr).1 (fun r2 hr2 eq2 _ => ?_)
        rw [eq2]
        have h9 := px_c_X9_expect_1 hT hr2 (x := 41) (w := (fx_c_X4_readCondition_5 (nI n) (nI r) (fx_c_X9_expect_1 40 (nI n) (nI (tq_pk c n p)) (-1) c).2 c L C).2.1) (by decide)
        exact h9
    · rw [if_neg h2, if_pos rfl]
      refine CS_e (px_c_X4_readUnit_5_14 hT g5 L C) ?_
      show tq_unit c n _ _ _ p = _
      unfold tq_unit
      rw [if_neg (fun z => h2 (Or.inl z)), if_neg (fun z => h2 (Or.inr z))]
theorem fs_c_X4_readCondition_4_p9 (h1_f1 : Int32) (h1_0c : Nat → Int32) (F : Nat) (j9_l6 : Int32) (j9_l5 : Int32) (j9_l4 : Int32) (j9_h1_f2 : Int32) (j9_h1_f3 : Int32) (j9_h0_f1 : Int32) (j9_h0_0c : (Nat → Int32)) : fx_c_X4_readCondition_4_p9 h1_f1 h1_0c (F + 1) j9_l6 j9_l5 j9_l4 j9_h1_f2 j9_h1_f3 j9_h0_f1 j9_h0_0c = ((if j9_l6 = j9_l6 then (if 240 ≤ j9_l6 then (j9_h1_f2, j9_h1_f3, j9_h0_f1, j9_h0_0c) else (exc1 (fx_c_X9_isRight j9_h1_f3) fun (r_60 : Int32) => (if r_60 = 0 then (j9_h1_f2, j9_h1_f3, j9_h0_f1, j9_h0_0c) else (fx_c_X4_readCondition_4_p40 h1_f1 h1_0c j9_l6 j9_l5 j9_l4 j9_h1_f2 j9_h1_f3 j9_h0_f1 j9_h0_0c (fx_c_X4_readCondition_4_p9 h1_f1 h1_0c F))))) else default) : Int32 × Int32 × Int32 × (Nat → Int32)) := rfl
theorem px_c_X4_readCondition_4_79 {c : Nat → Int32} {n : Nat} (hT : TB c n) (hn : n ≤ 240) (k : Int32 → Int32 → Int32 → Int32 → Int32 → Int32 → (Nat → Int32) → Int32 × Int32 × Int32 × (Nat → Int32)) (i q : Nat) (hq : q ≤ n) (w L : Int32) (C : Nat → Int32)
    (hk : w = -1 → ∀ (l5 l4 L : Int32) (C : Nat → Int32), tq_pk c n q + 1 ≤ n → CS n (-1) (tq_C c n 2 (tq_pk c n q + 1)) (k (nI (i + 1)) l5 l4 (nI (tq_pk c n q + 1)) (-1) L C).1 (k (nI (i + 1)) l5 l4 (nI (tq_pk c n q + 1)) (-1) L C).2.1) :
    CS n w (tq_lp c n tq_or (tq_C c n 2) q) (fx_c_X4_readCondition_4_p79 (nI n) c (nI i) k (nI q) w L C).1 (fx_c_X4_readCondition_4_p79 (nI n) c (nI i) k (nI q) w L C).2.1 := by
  have g5 := tq_pk_le (c := c) hq
  simp only [fx_c_X4_readCondition_4_p79, exc2]
  rw [px_c_X9_take_1 hT hq (by decide)]
  by_cases hw : w = -1
  · subst hw
    rw [if_pos rfl]
    by_cases hm : tq_ch c n (tq_pk c n q) = 124
    · have hA : tq_or (tq_ch c n (tq_pk c n q)) = true := by rw [hm]; decide
      have g4 : tq_pk c n q < n := tq_ch_ne hm (by decide)
      rw [if_pos hm, if_neg (show ¬ (1 : Int32) = 0 by decide), tq_lp_t hA]
      simp only [fx_c_X4_readCondition_4_p93, exl, nI_1]
      exact hk rfl _ _ _ _ (by omega)
    · have hA : tq_or (tq_ch c n (tq_pk c n q)) = false := tq_bf (fun z => hm (of_decide_eq_true z))
      rw [if_neg hm, if_pos rfl, tq_lp_f hA]
      exact CS_ok g5
  · rw [if_neg hw, if_pos rfl]
    exact CS_dead hw hq rfl
theorem px_c_X4_readCondition_4_55 {c : Nat → Int32} {n : Nat} (hT : TB c n) (hn : n ≤ 240) (k : Int32 → Int32 → Int32 → Int32 → Int32 → Int32 → (Nat → Int32) → Int32 × Int32 × Int32 × (Nat → Int32)) (i q : Nat) (hq : q ≤ n) (w l5 L : Int32) (C : Nat → Int32)
    (hk : w = -1 → ∀ (l5 l4 L : Int32) (C : Nat → Int32), tq_pk c n q + 1 ≤ n → CS n (-1) (tq_C c n 2 (tq_pk c n q + 1)) (k (nI (i + 1)) l5 l4 (nI (tq_pk c n q + 1)) (-1) L C).1 (k (nI (i + 1)) l5 l4 (nI (tq_pk c n q + 1)) (-1) L C).2.1) :
    CS n w (tq_lp c n tq_ao (tq_C c n 2) q) (fx_c_X4_readCondition_4_p55 (nI n) c (nI i) l5 k (nI q) w L C).1 (fx_c_X4_readCondition_4_p55 (nI n) c (nI i) l5 k (nI q) w L C).2.1 := by
  have g5 := tq_pk_le (c := c) hq
  have hpp := tq_pk_pk (c := c) hq
  simp only [fx_c_X4_readCondition_4_p55, exc2]
  rw [px_c_X9_take hT hq (by decide)]
  by_cases hw : w = -1
  · subst hw
    rw [if_pos rfl]
    by_cases hm : tq_ch c n (tq_pk c n q) = 38
    · have hA : tq_ao (tq_ch c n (tq_pk c n q)) = true := by rw [hm]; decide
      have g4 : tq_pk c n q < n := tq_ch_ne hm (by decide)
      rw [if_pos hm, if_neg (show ¬ (1 : Int32) = 0 by decide), tq_lp_t hA]
      simp only [fx_c_X4_readCondition_4_p93, exl, nI_1]
      exact hk rfl _ _ _ _ (by omega)
    · rw [if_neg hm, if_pos rfl]
      have hs : ∀ (L : Int32) (C : Nat → Int32), CS n (-1) (tq_lp c n tq_ao (tq_C c n 2) q) (fx_c_X4_readCondition_4_p79 (nI n) c (nI i) k (nI (tq_pk c n q)) (-1) L C).1 (fx_c_X4_readCondition_4_p79 (nI n) c (nI i) k (nI (tq_pk c n q)) (-1) L C).2.1 := fun L C => by
        refine CS_e (px_c_X4_readCondition_4_79 hT hn k i (tq_pk c n q) g5 (-1) L C (by rw [hpp]; exact hk)) ?_
        have hf : tq_am (tq_ch c n (tq_pk c n q)) = false := tq_bf (fun z => hm (of_decide_eq_true z))
        unfold tq_lp
        rw [hpp]
        unfold tq_ao
        rw [hf, Bool.false_or]
      by_cases hl : l5 = 0
      · rw [if_pos hl]
        exact hs _ _
      · rw [if_neg hl]
        exact hs _ _
  · rw [if_neg hw, if_pos rfl]
    have hs : ∀ (L : Int32) (C : Nat → Int32), CS n w (tq_lp c n tq_ao (tq_C c n 2) q) (fx_c_X4_readCondition_4_p79 (nI n) c (nI i) k (nI q) w L C).1 (fx_c_X4_readCondition_4_p79 (nI n) c (nI i) k (nI q) w L C).2.1 := fun L C => CS_any hw (px_c_X4_readCondition_4_79 hT hn k i q hq w L C hk)
    by_cases hl : l5 = 0
    · rw [if_pos hl]
      exact hs _ _
    · rw [if_neg hl]
      exact hs _ _
theorem px_c_X4_readCondition_4_9 {c : Nat → Int32} {n : Nat} (hT : TB c n) : ∀ (F i : Nat) (l5 l4 : Int32) (p : Nat) (w L : Int32) (C : Nat → Int32), p ≤ n → 2 * i ≤ p → n < p + F → CS n w (tq_C c n 2 p) (fx_c_X4_readCondition_4_p9 (nI n) c F (nI i) l5 l4 (nI p) w L C).1 (fx_c_X4_readCondition_4_p9 (nI n) c F (nI i) l5 l4 (nI p) w L C).2.1 := by
  have hn := hT.2
  intro F
  induction F with
  | zero => intro i l5 l4 p w L C h1 h2 h3; omega
  | succ F ih =>
    intro i l5 l4 p w L C h1 h2 h3
    have hi : ¬ (240 : Int32) ≤ nI i := nI_ge (a := i) (b := 240) (by omega) (by omega)
    rw [fs_c_X4_readCondition_4_p9, if_pos rfl, if_neg hi]
    by_cases hw : w = -1
    · subst hw
      have ha := px_c_X4_readUnit_5 hT h1 L C
      have hg := tq_U_PG (c := c) (n := n) 2 p h1
      have hs : ∀ (L2 : Int32) (C2 : Nat → Int32), CS n (-1) (tq_C c n 2 p) (fx_c_X4_readCondition_4_p55 (nI n) c (nI i) l5 (fx_c_X4_readCondition_4_p9 (nI n) c F) (fx_c_X4_readUnit_5 (nI n) (nI p) (-1) c L C).1 (fx_c_X4_readUnit_5 (nI n) (nI p) (-1) c L C).2.1 L2 C2).1 (fx_c_X4_readCondition_4_p55 (nI n) c (nI i) l5 (fx_c_X4_readCondition_4_p9 (nI n) c F) (fx_c_X4_readUnit_5 (nI n) (nI p) (-1) c L C).1 (fx_c_X4_readUnit_5 (nI n) (nI p) (-1) c L C).2.1 L2 C2).2.1 := fun L2 C2 => by
        rw [tq_C_eq h1]
        refine CS_bind hn ha hg.1 (fun q hq eq hpr => ?_)
        rw [eq]
        have g3 := tq_pk_ge (c := c) hq
        refine px_c_X4_readCondition_4_55 hT hn _ i q hq _ l5 L2 C2 (fun z l5 l4 L C h9 => ?_)
        obtain ⟨_, z2, z3⟩ := hpr z
        have z4 := hg.2 z2
        exact ih (i + 1) l5 l4 (tq_pk c n q + 1) (-1) L C h9 (by omega) (by omega)
      have hs2 : CS n (-1) (tq_C c n 2 p) (fx_c_X4_readCondition_4_p40 (nI n) c (nI i) l5 l4 (nI p) (-1) L C (fx_c_X4_readCondition_4_p9 (nI n) c F)).1 (fx_c_X4_readCondition_4_p40 (nI n) c (nI i) l5 l4 (nI p) (-1) L C (fx_c_X4_readCondition_4_p9 (nI n) c F)).2.1 := by
        simp only [fx_c_X4_readCondition_4_p40, fx_c_X4_readCondition_4_p41, exc4, exc2]
        by_cases hl : l4 = 0
        · rw [if_pos hl]
          exact hs _ _
        · rw [if_neg hl]
          exact hs _ _
      simp only [exc1]
      rw [px_isr_m1, if_neg (by decide)]
      exact hs2
    · simp only [exc1]
      rw [px_isr_no hw, if_pos rfl]
      exact CS_dead hw h1 rfl
theorem px_c_X4_readCondition_4 {c : Nat → Int32} {n : Nat} (hT : TB c n) {p : Nat} (hp : p ≤ n) (w L : Int32) (C : Nat → Int32) : CS n w (tq_C c n 2 p) (fx_c_X4_readCondition_4 (nI n) (nI p) w c L C).1 (fx_c_X4_readCondition_4 (nI n) (nI p) w c L C).2.1 := px_c_X4_readCondition_4_9 hT exF 0 0 0 p w L C hp (by omega) (by have := hT.2; unfold exF; omega)
theorem px_c_X4_readUnit_4_24 {c : Nat → Int32} {n : Nat} (hT : TB c n) {q : Nat} (hq : q ≤ n) (w L : Int32) (C : Nat → Int32) : CS n w (tq_tail c n (tq_SM c n 3) q) (fx_c_X4_readUnit_4_p24 (nI n) c (nI q) w L C).1 (fx_c_X4_readUnit_4_p24 (nI n) c (nI q) w L C).2.1 := by
  have hn := hT.2
  have g5 := tq_pk_le (c := c) hq
  simp only [fx_c_X4_readUnit_4_p24, exc1, exc2, exc4, exl]
  rw [px_c_X9_peek hT hq]
  by_cases h1 : tq_ch c n (tq_pk c n q) = -1
  · rw [if_pos h1]
    refine CS_e (CS_no g5) ?_
    unfold tq_tail
    rw [if_neg (by rw [h1]; decide)]
  · rw [if_neg h1, px_ic]
    by_cases h2 : tq_cmp (tq_ch c n (tq_pk c n q)) = true
    · have g4 := tq_A_lt tq_cmp_m1 h2
      rw [if_pos h2, if_neg (by decide), px_skip]
      refine CS_e (px_c_X4_readSum_3 hT (p := tq_pk c n q + 1) (by omega) w L C) ?_
      unfold tq_tail
      rw [if_pos h2]
    · rw [if_neg h2, if_pos rfl]
      refine CS_e (CS_no g5) ?_
      unfold tq_tail
      rw [if_neg h2]
theorem px_c_X4_readUnit_4_14 {c : Nat → Int32} {n : Nat} (hT : TB c n) {q : Nat} (hq : q ≤ n) (L : Int32) (C : Nat → Int32) : CS n (-1) (tq_bind (tq_SM c n 3 q) (tq_tail c n (tq_SM c n 3))) (fx_c_X4_readUnit_4_p14 (nI n) (-1) c L C (nI q)).1 (fx_c_X4_readUnit_4_p14 (nI n) (-1) c L C (nI q)).2.1 := by
  have hn := hT.2
  simp only [fx_c_X4_readUnit_4_p14, exc4]
  refine CS_bind hn (px_c_X4_readSum_3 hT hq (-1) L C) (tq_SM_PG _ hq).1 (fun r hr eq _ => ?_)
  rw [eq]
  exact px_c_X4_readUnit_4_24 hT hr _ _ _
theorem px_c_X4_readUnit_4 {c : Nat → Int32} {n : Nat} (hT : TB c n) {p : Nat} (hp : p ≤ n) (L : Int32) (C : Nat → Int32) : CS n (-1) (tq_U c n 3 p) (fx_c_X4_readUnit_4 (nI n) (nI p) (-1) c L C).1 (fx_c_X4_readUnit_4 (nI n) (nI p) (-1) c L C).2.1 := by
  have hn := hT.2
  have g3 := tq_pk_ge (c := c) hp
  have g5 := tq_pk_le (c := c) hp
  have hpk := px_c_X9_peek hT hp
  simp only [fx_c_X4_readUnit_4, exc1, exc2, exc4]
  rw [hpk]
  simp only []
  by_cases h1 : tq_ch c n (tq_pk c n p) = -1
  · rw [if_pos h1]
    refine CS_e (px_c_X4_readUnit_4_14 hT g5 L C) ?_
    show tq_unit c n _ _ _ p = _
    unfold tq_unit
    rw [if_neg (by rw [h1]; decide), if_neg (by rw [h1]; decide)]
  · rw [if_neg h1, px_su]
    by_cases h2 : tq_ch c n (tq_pk c n p) = 33 ∨ tq_ch c n (tq_pk c n p) = 40
    · rw [if_pos h2, if_neg (by decide)]
      have hpp := tq_pk_pk (c := c) hp
      have g4 : tq_pk c n p < n := tq_ch_lt h1
      rw [px_c_X9_take hT g5 (by decide), if_pos rfl, hpp]
      by_cases h3 : tq_ch c n (tq_pk c n p) = 33
      · rw [if_pos h3, if_neg (show ¬ (1 : Int32) = 0 by decide)]
        simp only []
        refine CS_e (px_c_X4_readUnit_5 hT (p := tq_pk c n p + 1) (by omega) L C) ?_
        show tq_unit c n _ _ _ p = _
        unfold tq_unit
        rw [if_pos h3]
      · have h4 := h2.resolve_left h3
        rw [if_neg h3, if_pos rfl]
        simp only []
        have hs : tq_U c n 3 p = tq_bind (tq_ex c n 40 (tq_pk c n p)) (fun r => tq_bind (tq_C c n 2 r) (tq_ex c n 41)) := by
          have hx : tq_ex c n 40 (tq_pk c n p) = (true, tq_pk c n p + 1) := by unfold tq_ex; rw [hpp, if_pos h4]
          rw [hx]
          show tq_unit c n _ _ _ p = _
          unfold tq_unit
          rw [if_neg h3, if_pos h4]
          rfl
        rw [hs]
        refine CS_bind hn (px_c_X9_expect_1 hT g5 (x := 40) (w := -1) (by decide)) (tq_ex_PG (by decide) _ g5).1 (fun r hr eq _ => ?_)
        rw [eq]
        refine CS_bind hn (px_c_X4_readCondition_4 hT hr _ L C) (tq_C_PG _ hr).1 (fun r2 hr2 eq2 _ => ?_)
        rw [eq2]
        have h9 := px_c_X9_expect_1 hT hr2 (x := 41) (w := (fx_c_X4_readCondition_4 (nI n) (nI r) (fx_c_X9_expect_1 40 (nI n) (nI (tq_pk c n p)) (-1) c).2 c L C).2.1) (by decide)
        exact h9
    · rw [if_neg h2, if_pos rfl]
      refine CS_e (px_c_X4_readUnit_4_14 hT g5 L C) ?_
      show tq_unit c n _ _ _ p = _
      unfold tq_unit
      rw [if_neg (fun z => h2 (Or.inl z)), if_neg (fun z => h2 (Or.inr z))]
theorem fs_c_X4_readCondition_3_p9 (h1_f1 : Int32) (h1_0c : Nat → Int32) (F : Nat) (j9_l6 : Int32) (j9_l5 : Int32) (j9_l4 : Int32) (j9_h1_f2 : Int32) (j9_h1_f3 : Int32) (j9_h0_f1 : Int32) (j9_h0_0c : (Nat → Int32)) : fx_c_X4_readCondition_3_p9 h1_f1 h1_0c (F + 1) j9_l6 j9_l5 j9_l4 j9_h1_f2 j9_h1_f3 j9_h0_f1 j9_h0_0c = ((if j9_l6 = j9_l6 then (if 240 ≤ j9_l6 then (j9_h1_f2, j9_h1_f3, j9_h0_f1, j9_h0_0c) else (exc1 (fx_c_X9_isRight j9_h1_f3) fun (r_60 : Int32) => (if r_60 = 0 then (j9_h1_f2, j9_h1_f3, j9_h0_f1, j9_h0_0c) else (fx_c_X4_readCondition_3_p40 h1_f1 h1_0c j9_l6 j9_l5 j9_l4 j9_h1_f2 j9_h1_f3 j9_h0_f1 j9_h0_0c (fx_c_X4_readCondition_3_p9 h1_f1 h1_0c F))))) else default) : Int32 × Int32 × Int32 × (Nat → Int32)) := rfl
theorem px_c_X4_readCondition_3_79 {c : Nat → Int32} {n : Nat} (hT : TB c n) (hn : n ≤ 240) (k : Int32 → Int32 → Int32 → Int32 → Int32 → Int32 → (Nat → Int32) → Int32 × Int32 × Int32 × (Nat → Int32)) (i q : Nat) (hq : q ≤ n) (w L : Int32) (C : Nat → Int32)
    (hk : w = -1 → ∀ (l5 l4 L : Int32) (C : Nat → Int32), tq_pk c n q + 1 ≤ n → CS n (-1) (tq_C c n 3 (tq_pk c n q + 1)) (k (nI (i + 1)) l5 l4 (nI (tq_pk c n q + 1)) (-1) L C).1 (k (nI (i + 1)) l5 l4 (nI (tq_pk c n q + 1)) (-1) L C).2.1) :
    CS n w (tq_lp c n tq_or (tq_C c n 3) q) (fx_c_X4_readCondition_3_p79 (nI n) c (nI i) k (nI q) w L C).1 (fx_c_X4_readCondition_3_p79 (nI n) c (nI i) k (nI q) w L C).2.1 := by
  have g5 := tq_pk_le (c := c) hq
  simp only [fx_c_X4_readCondition_3_p79, exc2]
  rw [px_c_X9_take_1 hT hq (by decide)]
  by_cases hw : w = -1
  · subst hw
    rw [if_pos rfl]
    by_cases hm : tq_ch c n (tq_pk c n q) = 124
    · have hA : tq_or (tq_ch c n (tq_pk c n q)) = true := by rw [hm]; decide
      have g4 : tq_pk c n q < n := tq_ch_ne hm (by decide)
      rw [if_pos hm, if_neg (show ¬ (1 : Int32) = 0 by decide), tq_lp_t hA]
      simp only [fx_c_X4_readCondition_3_p93, exl, nI_1]
      exact hk rfl _ _ _ _ (by omega)
    · have hA : tq_or (tq_ch c n (tq_pk c n q)) = false := tq_bf (fun z => hm (of_decide_eq_true z))
      rw [if_neg hm, if_pos rfl, tq_lp_f hA]
      exact CS_ok g5
  · rw [if_neg hw, if_pos rfl]
    exact CS_dead hw hq rfl
theorem px_c_X4_readCondition_3_55 {c : Nat → Int32} {n : Nat} (hT : TB c n) (hn : n ≤ 240) (k : Int32 → Int32 → Int32 → Int32 → Int32 → Int32 → (Nat → Int32) → Int32 × Int32 × Int32 × (Nat → Int32)) (i q : Nat) (hq : q ≤ n) (w l5 L : Int32) (C : Nat → Int32)
    (hk : w = -1 → ∀ (l5 l4 L : Int32) (C : Nat → Int32), tq_pk c n q + 1 ≤ n → CS n (-1) (tq_C c n 3 (tq_pk c n q + 1)) (k (nI (i + 1)) l5 l4 (nI (tq_pk c n q + 1)) (-1) L C).1 (k (nI (i + 1)) l5 l4 (nI (tq_pk c n q + 1)) (-1) L C).2.1) :
    CS n w (tq_lp c n tq_ao (tq_C c n 3) q) (fx_c_X4_readCondition_3_p55 (nI n) c (nI i) l5 k (nI q) w L C).1 (fx_c_X4_readCondition_3_p55 (nI n) c (nI i) l5 k (nI q) w L C).2.1 := by
  have g5 := tq_pk_le (c := c) hq
  have hpp := tq_pk_pk (c := c) hq
  simp only [fx_c_X4_readCondition_3_p55, exc2]
  rw [px_c_X9_take hT hq (by decide)]
  by_cases hw : w = -1
  · subst hw
    rw [if_pos rfl]
    by_cases hm : tq_ch c n (tq_pk c n q) = 38
    · have hA : tq_ao (tq_ch c n (tq_pk c n q)) = true := by rw [hm]; decide
      have g4 : tq_pk c n q < n := tq_ch_ne hm (by decide)
      rw [if_pos hm, if_neg (show ¬ (1 : Int32) = 0 by decide), tq_lp_t hA]
      simp only [fx_c_X4_readCondition_3_p93, exl, nI_1]
      exact hk rfl _ _ _ _ (by omega)
    · rw [if_neg hm, if_pos rfl]
      have hs : ∀ (L : Int32) (C : Nat → Int32), CS n (-1) (tq_lp c n tq_ao (tq_C c n 3) q) (fx_c_X4_readCondition_3_p79 (nI n) c (nI i) k (nI (tq_pk c n q)) (-1) L C).1 (fx_c_X4_readCondition_3_p79 (nI n) c (nI i) k (nI (tq_pk c n q)) (-1) L C).2.1 := fun L C => by
        refine CS_e (px_c_X4_readCondition_3_79 hT hn k i (tq_pk c n q) g5 (-1) L C (by rw [hpp]; exact hk)) ?_
        have hf : tq_am (tq_ch c n (tq_pk c n q)) = false := tq_bf (fun z => hm (of_decide_eq_true z))
        unfold tq_lp
        rw [hpp]
        unfold tq_ao
        rw [hf, Bool.false_or]
      by_cases hl : l5 = 0
      · rw [if_pos hl]
        exact hs _ _
      · rw [if_neg hl]
        exact hs _ _
  · rw [if_neg hw, if_pos rfl]
    have hs : ∀ (L : Int32) (C : Nat → Int32), CS n w (tq_lp c n tq_ao (tq_C c n 3) q) (fx_c_X4_readCondition_3_p79 (nI n) c (nI i) k (nI q) w L C).1 (fx_c_X4_readCondition_3_p79 (nI n) c (nI i) k (nI q) w L C).2.1 := fun L C => CS_any hw (px_c_X4_readCondition_3_79 hT hn k i q hq w L C hk)
    by_cases hl : l5 = 0
    · rw [if_pos hl]
      exact hs _ _
    · rw [if_neg hl]
      exact hs _ _
theorem px_c_X4_readCondition_3_9 {c : Nat → Int32} {n : Nat} (hT : TB c n) : ∀ (F i : Nat) (l5 l4 : Int32) (p : Nat) (w L : Int32) (C : Nat → Int32), p ≤ n → 2 * i ≤ p → n < p + F → CS n w (tq_C c n 3 p) (fx_c_X4_readCondition_3_p9 (nI n) c F (nI i) l5 l4 (nI p) w L C).1 (fx_c_X4_readCondition_3_p9 (nI n) c F (nI i) l5 l4 (nI p) w L C).2.1 := by
  have hn := hT.2
  intro F
  induction F with
  | zero => intro i l5 l4 p w L C h1 h2 h3; omega
  | succ F ih =>
    intro i l5 l4 p w L C h1 h2 h3
    have hi : ¬ (240 : Int32) ≤ nI i := nI_ge (a := i) (b := 240) (by omega) (by omega)
    rw [fs_c_X4_readCondition_3_p9, if_pos rfl, if_neg hi]
    by_cases hw : w = -1
    · subst hw
      have ha := px_c_X4_readUnit_4 hT h1 L C
      have hg := tq_U_PG (c := c) (n := n) 3 p h1
      have hs : ∀ (L2 : Int32) (C2 : Nat → Int32), CS n (-1) (tq_C c n 3 p) (fx_c_X4_readCondition_3_p55 (nI n) c (nI i) l5 (fx_c_X4_readCondition_3_p9 (nI n) c F) (fx_c_X4_readUnit_4 (nI n) (nI p) (-1) c L C).1 (fx_c_X4_readUnit_4 (nI n) (nI p) (-1) c L C).2.1 L2 C2).1 (fx_c_X4_readCondition_3_p55 (nI n) c (nI i) l5 (fx_c_X4_readCondition_3_p9 (nI n) c F) (fx_c_X4_readUnit_4 (nI n) (nI p) (-1) c L C).1 (fx_c_X4_readUnit_4 (nI n) (nI p) (-1) c L C).2.1 L2 C2).2.1 := fun L2 C2 => by
        rw [tq_C_eq h1]
        refine CS_bind hn ha hg.1 (fun q hq eq hpr => ?_)
        rw [eq]
        have g3 := tq_pk_ge (c := c) hq
        refine px_c_X4_readCondition_3_55 hT hn _ i q hq _ l5 L2 C2 (fun z l5 l4 L C h9 => ?_)
        obtain ⟨_, z2, z3⟩ := hpr z
        have z4 := hg.2 z2
        exact ih (i + 1) l5 l4 (tq_pk c n q + 1) (-1) L C h9 (by omega) (by omega)
      have hs2 : CS n (-1) (tq_C c n 3 p) (fx_c_X4_readCondition_3_p40 (nI n) c (nI i) l5 l4 (nI p) (-1) L C (fx_c_X4_readCondition_3_p9 (nI n) c F)).1 (fx_c_X4_readCondition_3_p40 (nI n) c (nI i) l5 l4 (nI p) (-1) L C (fx_c_X4_readCondition_3_p9 (nI n) c F)).2.1 := by
        simp only [fx_c_X4_readCondition_3_p40, fx_c_X4_readCondition_3_p41, exc4, exc2]
        by_cases hl : l4 = 0
        · rw [if_pos hl]
          exact hs _ _
        · rw [if_neg hl]
          exact hs _ _
      simp only [exc1]
      rw [px_isr_m1, if_neg (by decide)]
      exact hs2
    · simp only [exc1]
      rw [px_isr_no hw, if_pos rfl]
      exact CS_dead hw h1 rfl
theorem px_c_X4_readCondition_3 {c : Nat → Int32} {n : Nat} (hT : TB c n) {p : Nat} (hp : p ≤ n) (w L : Int32) (C : Nat → Int32) : CS n w (tq_C c n 3 p) (fx_c_X4_readCondition_3 (nI n) (nI p) w c L C).1 (fx_c_X4_readCondition_3 (nI n) (nI p) w c L C).2.1 := px_c_X4_readCondition_3_9 hT exF 0 0 0 p w L C hp (by omega) (by have := hT.2; unfold exF; omega)
theorem px_c_X4_readUnit_3_24 {c : Nat → Int32} {n : Nat} (hT : TB c n) {q : Nat} (hq : q ≤ n) (w L : Int32) (C : Nat → Int32) : CS n w (tq_tail c n (tq_SM c n 4) q) (fx_c_X4_readUnit_3_p24 (nI n) c (nI q) w L C).1 (fx_c_X4_readUnit_3_p24 (nI n) c (nI q) w L C).2.1 := by
  have hn := hT.2
  have g5 := tq_pk_le (c := c) hq
  simp only [fx_c_X4_readUnit_3_p24, exc1, exc2, exc4, exl]
  rw [px_c_X9_peek hT hq]
  by_cases h1 : tq_ch c n (tq_pk c n q) = -1
  · rw [if_pos h1]
    refine CS_e (CS_no g5) ?_
    unfold tq_tail
    rw [if_neg (by rw [h1]; decide)]
  · rw [if_neg h1, px_ic]
    by_cases h2 : tq_cmp (tq_ch c n (tq_pk c n q)) = true
    · have g4 := tq_A_lt tq_cmp_m1 h2
      rw [if_pos h2, if_neg (by decide), px_skip]
      refine CS_e (px_c_X4_readSum_2 hT (p := tq_pk c n q + 1) (by omega) w L C) ?_
      unfold tq_tail
      rw [if_pos h2]
    · rw [if_neg h2, if_pos rfl]
      refine CS_e (CS_no g5) ?_
      unfold tq_tail
      rw [if_neg h2]
theorem px_c_X4_readUnit_3_14 {c : Nat → Int32} {n : Nat} (hT : TB c n) {q : Nat} (hq : q ≤ n) (L : Int32) (C : Nat → Int32) : CS n (-1) (tq_bind (tq_SM c n 4 q) (tq_tail c n (tq_SM c n 4))) (fx_c_X4_readUnit_3_p14 (nI n) (-1) c L C (nI q)).1 (fx_c_X4_readUnit_3_p14 (nI n) (-1) c L C (nI q)).2.1 := by
  have hn := hT.2
  simp only [fx_c_X4_readUnit_3_p14, exc4]
  refine CS_bind hn (px_c_X4_readSum_2 hT hq (-1) L C) (tq_SM_PG _ hq).1 (fun r hr eq _ => ?_)
  rw [eq]
  exact px_c_X4_readUnit_3_24 hT hr _ _ _
theorem px_c_X4_readUnit_3 {c : Nat → Int32} {n : Nat} (hT : TB c n) {p : Nat} (hp : p ≤ n) (L : Int32) (C : Nat → Int32) : CS n (-1) (tq_U c n 4 p) (fx_c_X4_readUnit_3 (nI n) (nI p) (-1) c L C).1 (fx_c_X4_readUnit_3 (nI n) (nI p) (-1) c L C).2.1 := by
  have hn := hT.2
  have g3 := tq_pk_ge (c := c) hp
  have g5 := tq_pk_le (c := c) hp
  have hpk := px_c_X9_peek hT hp
  simp only [fx_c_X4_readUnit_3, exc1, exc2, exc4]
  rw [hpk]
  simp only []
  by_cases h1 : tq_ch c n (tq_pk c n p) = -1
  · rw [if_pos h1]
    refine CS_e (px_c_X4_readUnit_3_14 hT g5 L C) ?_
    show tq_unit c n _ _ _ p = _
    unfold tq_unit
    rw [if_neg (by rw [h1]; decide), if_neg (by rw [h1]; decide)]
  · rw [if_neg h1, px_su]
    by_cases h2 : tq_ch c n (tq_pk c n p) = 33 ∨ tq_ch c n (tq_pk c n p) = 40
    · rw [if_pos h2, if_neg (by decide)]
      have hpp := tq_pk_pk (c := c) hp
      have g4 : tq_pk c n p < n := tq_ch_lt h1
      rw [px_c_X9_take hT g5 (by decide), if_pos rfl, hpp]
      by_cases h3 : tq_ch c n (tq_pk c n p) = 33
      · rw [if_pos h3, if_neg (show ¬ (1 : Int32) = 0 by decide)]
        simp only []
        refine CS_e (px_c_X4_readUnit_4 hT (p := tq_pk c n p + 1) (by omega) L C) ?_
        show tq_unit c n _ _ _ p = _
        unfold tq_unit
        rw [if_pos h3]
      · have h4 := h2.resolve_left h3
        rw [if_neg h3, if_pos rfl]
        simp only []
        have hs : tq_U c n 4 p = tq_bind (tq_ex c n 40 (tq_pk c n p)) (fun r => tq_bind (tq_C c n 3 r) (tq_ex c n 41)) := by
          have hx : tq_ex c n 40 (tq_pk c n p) = (true, tq_pk c n p + 1) := by unfold tq_ex; rw [hpp, if_pos h4]
          rw [hx]
          show tq_unit c n _ _ _ p = _
          unfold tq_unit
          rw [if_neg h3, if_pos h4]
          rfl
        rw [hs]
        refine CS_bind hn (px_c_X9_expect_1 hT g5 (x := 40) (w := -1) (by decide)) (tq_ex_PG (by decide) _ g5).1 (fun r hr eq _ => ?_)
        rw [eq]
        refine CS_bind hn (px_c_X4_readCondition_3 hT hr _ L C) (tq_C_PG _ hr).1 (fun r2 hr2 eq2 _ => ?_)
        rw [eq2]
        have h9 := px_c_X9_expect_1 hT hr2 (x := 41) (w := (fx_c_X4_readCondition_3 (nI n) (nI r) (fx_c_X9_expect_1 40 (nI n) (nI (tq_pk c n p)) (-1) c).2 c L C).2.1) (by decide)
        exact h9
    · rw [if_neg h2, if_pos rfl]
      refine CS_e (px_c_X4_readUnit_3_14 hT g5 L C) ?_
      show tq_unit c n _ _ _ p = _
      unfold tq_unit
      rw [if_neg (fun z => h2 (Or.inl z)), if_neg (fun z => h2 (Or.inr z))]
theorem fs_c_X4_readCondition_2_p9 (h1_f1 : Int32) (h1_0c : Nat → Int32) (F : Nat) (j9_l6 : Int32) (j9_l5 : Int32) (j9_l4 : Int32) (j9_h1_f2 : Int32) (j9_h1_f3 : Int32) (j9_h0_f1 : Int32) (j9_h0_0c : (Nat → Int32)) : fx_c_X4_readCondition_2_p9 h1_f1 h1_0c (F + 1) j9_l6 j9_l5 j9_l4 j9_h1_f2 j9_h1_f3 j9_h0_f1 j9_h0_0c = ((if j9_l6 = j9_l6 then (if 240 ≤ j9_l6 then (j9_h1_f2, j9_h1_f3, j9_h0_f1, j9_h0_0c) else (exc1 (fx_c_X9_isRight j9_h1_f3) fun (r_60 : Int32) => (if r_60 = 0 then (j9_h1_f2, j9_h1_f3, j9_h0_f1, j9_h0_0c) else (fx_c_X4_readCondition_2_p40 h1_f1 h1_0c j9_l6 j9_l5 j9_l4 j9_h1_f2 j9_h1_f3 j9_h0_f1 j9_h0_0c (fx_c_X4_readCondition_2_p9 h1_f1 h1_0c F))))) else default) : Int32 × Int32 × Int32 × (Nat → Int32)) := rfl
theorem px_c_X4_readCondition_2_79 {c : Nat → Int32} {n : Nat} (hT : TB c n) (hn : n ≤ 240) (k : Int32 → Int32 → Int32 → Int32 → Int32 → Int32 → (Nat → Int32) → Int32 × Int32 × Int32 × (Nat → Int32)) (i q : Nat) (hq : q ≤ n) (w L : Int32) (C : Nat → Int32)
    (hk : w = -1 → ∀ (l5 l4 L : Int32) (C : Nat → Int32), tq_pk c n q + 1 ≤ n → CS n (-1) (tq_C c n 4 (tq_pk c n q + 1)) (k (nI (i + 1)) l5 l4 (nI (tq_pk c n q + 1)) (-1) L C).1 (k (nI (i + 1)) l5 l4 (nI (tq_pk c n q + 1)) (-1) L C).2.1) :
    CS n w (tq_lp c n tq_or (tq_C c n 4) q) (fx_c_X4_readCondition_2_p79 (nI n) c (nI i) k (nI q) w L C).1 (fx_c_X4_readCondition_2_p79 (nI n) c (nI i) k (nI q) w L C).2.1 := by
  have g5 := tq_pk_le (c := c) hq
  simp only [fx_c_X4_readCondition_2_p79, exc2]
  rw [px_c_X9_take_1 hT hq (by decide)]
  by_cases hw : w = -1
  · subst hw
    rw [if_pos rfl]
    by_cases hm : tq_ch c n (tq_pk c n q) = 124
    · have hA : tq_or (tq_ch c n (tq_pk c n q)) = true := by rw [hm]; decide
      have g4 : tq_pk c n q < n := tq_ch_ne hm (by decide)
      rw [if_pos hm, if_neg (show ¬ (1 : Int32) = 0 by decide), tq_lp_t hA]
      simp only [fx_c_X4_readCondition_2_p93, exl, nI_1]
      exact hk rfl _ _ _ _ (by omega)
    · have hA : tq_or (tq_ch c n (tq_pk c n q)) = false := tq_bf (fun z => hm (of_decide_eq_true z))
      rw [if_neg hm, if_pos rfl, tq_lp_f hA]
      exact CS_ok g5
  · rw [if_neg hw, if_pos rfl]
    exact CS_dead hw hq rfl
theorem px_c_X4_readCondition_2_55 {c : Nat → Int32} {n : Nat} (hT : TB c n) (hn : n ≤ 240) (k : Int32 → Int32 → Int32 → Int32 → Int32 → Int32 → (Nat → Int32) → Int32 × Int32 × Int32 × (Nat → Int32)) (i q : Nat) (hq : q ≤ n) (w l5 L : Int32) (C : Nat → Int32)
    (hk : w = -1 → ∀ (l5 l4 L : Int32) (C : Nat → Int32), tq_pk c n q + 1 ≤ n → CS n (-1) (tq_C c n 4 (tq_pk c n q + 1)) (k (nI (i + 1)) l5 l4 (nI (tq_pk c n q + 1)) (-1) L C).1 (k (nI (i + 1)) l5 l4 (nI (tq_pk c n q + 1)) (-1) L C).2.1) :
    CS n w (tq_lp c n tq_ao (tq_C c n 4) q) (fx_c_X4_readCondition_2_p55 (nI n) c (nI i) l5 k (nI q) w L C).1 (fx_c_X4_readCondition_2_p55 (nI n) c (nI i) l5 k (nI q) w L C).2.1 := by
  have g5 := tq_pk_le (c := c) hq
  have hpp := tq_pk_pk (c := c) hq
  simp only [fx_c_X4_readCondition_2_p55, exc2]
  rw [px_c_X9_take hT hq (by decide)]
  by_cases hw : w = -1
  · subst hw
    rw [if_pos rfl]
    by_cases hm : tq_ch c n (tq_pk c n q) = 38
    · have hA : tq_ao (tq_ch c n (tq_pk c n q)) = true := by rw [hm]; decide
      have g4 : tq_pk c n q < n := tq_ch_ne hm (by decide)
      rw [if_pos hm, if_neg (show ¬ (1 : Int32) = 0 by decide), tq_lp_t hA]
      simp only [fx_c_X4_readCondition_2_p93, exl, nI_1]
      exact hk rfl _ _ _ _ (by omega)
    · rw [if_neg hm, if_pos rfl]
      have hs : ∀ (L : Int32) (C : Nat → Int32), CS n (-1) (tq_lp c n tq_ao (tq_C c n 4) q) (fx_c_X4_readCondition_2_p79 (nI n) c (nI i) k (nI (tq_pk c n q)) (-1) L C).1 (fx_c_X4_readCondition_2_p79 (nI n) c (nI i) k (nI (tq_pk c n q)) (-1) L C).2.1 := fun L C => by
        refine CS_e (px_c_X4_readCondition_2_79 hT hn k i (tq_pk c n q) g5 (-1) L C (by rw [hpp]; exact hk)) ?_
        have hf : tq_am (tq_ch c n (tq_pk c n q)) = false := tq_bf (fun z => hm (of_decide_eq_true z))
        unfold tq_lp
        rw [hpp]
        unfold tq_ao
        rw [hf, Bool.false_or]
      by_cases hl : l5 = 0
      · rw [if_pos hl]
        exact hs _ _
      · rw [if_neg hl]
        exact hs _ _
  · rw [if_neg hw, if_pos rfl]
    have hs : ∀ (L : Int32) (C : Nat → Int32), CS n w (tq_lp c n tq_ao (tq_C c n 4) q) (fx_c_X4_readCondition_2_p79 (nI n) c (nI i) k (nI q) w L C).1 (fx_c_X4_readCondition_2_p79 (nI n) c (nI i) k (nI q) w L C).2.1 := fun L C => CS_any hw (px_c_X4_readCondition_2_79 hT hn k i q hq w L C hk)
    by_cases hl : l5 = 0
    · rw [if_pos hl]
      exact hs _ _
    · rw [if_neg hl]
      exact hs _ _
theorem px_c_X4_readCondition_2_9 {c : Nat → Int32} {n : Nat} (hT : TB c n) : ∀ (F i : Nat) (l5 l4 : Int32) (p : Nat) (w L : Int32) (C : Nat → Int32), p ≤ n → 2 * i ≤ p → n < p + F → CS n w (tq_C c n 4 p) (fx_c_X4_readCondition_2_p9 (nI n) c F (nI i) l5 l4 (nI p) w L C).1 (fx_c_X4_readCondition_2_p9 (nI n) c F (nI i) l5 l4 (nI p) w L C).2.1 := by
  have hn := hT.2
  intro F
  induction F with
  | zero => intro i l5 l4 p w L C h1 h2 h3; omega
  | succ F ih =>
    intro i l5 l4 p w L C h1 h2 h3
    have hi : ¬ (240 : Int32) ≤ nI i := nI_ge (a := i) (b := 240) (by omega) (by omega)
    rw [fs_c_X4_readCondition_2_p9, if_pos rfl, if_neg hi]
    by_cases hw : w = -1
    · subst hw
      have ha := px_c_X4_readUnit_3 hT h1 L C
      have hg := tq_U_PG (c := c) (n := n) 4 p h1
      have hs : ∀ (L2 : Int32) (C2 : Nat → Int32), CS n (-1) (tq_C c n 4 p) (fx_c_X4_readCondition_2_p55 (nI n) c (nI i) l5 (fx_c_X4_readCondition_2_p9 (nI n) c F) (fx_c_X4_readUnit_3 (nI n) (nI p) (-1) c L C).1 (fx_c_X4_readUnit_3 (nI n) (nI p) (-1) c L C).2.1 L2 C2).1 (fx_c_X4_readCondition_2_p55 (nI n) c (nI i) l5 (fx_c_X4_readCondition_2_p9 (nI n) c F) (fx_c_X4_readUnit_3 (nI n) (nI p) (-1) c L C).1 (fx_c_X4_readUnit_3 (nI n) (nI p) (-1) c L C).2.1 L2 C2).2.1 := fun L2 C2 => by
        rw [tq_C_eq h1]
        refine CS_bind hn ha hg.1 (fun q hq eq hpr => ?_)
        rw [eq]
        have g3 := tq_pk_ge (c := c) hq
        refine px_c_X4_readCondition_2_55 hT hn _ i q hq _ l5 L2 C2 (fun z l5 l4 L C h9 => ?_)
        obtain ⟨_, z2, z3⟩ := hpr z
        have z4 := hg.2 z2
        exact ih (i + 1) l5 l4 (tq_pk c n q + 1) (-1) L C h9 (by omega) (by omega)
      have hs2 : CS n (-1) (tq_C c n 4 p) (fx_c_X4_readCondition_2_p40 (nI n) c (nI i) l5 l4 (nI p) (-1) L C (fx_c_X4_readCondition_2_p9 (nI n) c F)).1 (fx_c_X4_readCondition_2_p40 (nI n) c (nI i) l5 l4 (nI p) (-1) L C (fx_c_X4_readCondition_2_p9 (nI n) c F)).2.1 := by
        simp only [fx_c_X4_readCondition_2_p40, fx_c_X4_readCondition_2_p41, exc4, exc2]
        by_cases hl : l4 = 0
        · rw [if_pos hl]
          exact hs _ _
        · rw [if_neg hl]
          exact hs _ _
      simp only [exc1]
      rw [px_isr_m1, if_neg (by decide)]
      exact hs2
    · simp only [exc1]
      rw [px_isr_no hw, if_pos rfl]
      exact CS_dead hw h1 rfl
theorem px_c_X4_readCondition_2 {c : Nat → Int32} {n : Nat} (hT : TB c n) {p : Nat} (hp : p ≤ n) (w L : Int32) (C : Nat → Int32) : CS n w (tq_C c n 4 p) (fx_c_X4_readCondition_2 (nI n) (nI p) w c L C).1 (fx_c_X4_readCondition_2 (nI n) (nI p) w c L C).2.1 := px_c_X4_readCondition_2_9 hT exF 0 0 0 p w L C hp (by omega) (by have := hT.2; unfold exF; omega)
theorem px_c_X4_readUnit_2_24 {c : Nat → Int32} {n : Nat} (hT : TB c n) {q : Nat} (hq : q ≤ n) (w L : Int32) (C : Nat → Int32) : CS n w (tq_tail c n (tq_SM c n 5) q) (fx_c_X4_readUnit_2_p24 (nI n) c (nI q) w L C).1 (fx_c_X4_readUnit_2_p24 (nI n) c (nI q) w L C).2.1 := by
  have hn := hT.2
  have g5 := tq_pk_le (c := c) hq
  simp only [fx_c_X4_readUnit_2_p24, exc1, exc2, exc4, exl]
  rw [px_c_X9_peek hT hq]
  by_cases h1 : tq_ch c n (tq_pk c n q) = -1
  · rw [if_pos h1]
    refine CS_e (CS_no g5) ?_
    unfold tq_tail
    rw [if_neg (by rw [h1]; decide)]
  · rw [if_neg h1, px_ic]
    by_cases h2 : tq_cmp (tq_ch c n (tq_pk c n q)) = true
    · have g4 := tq_A_lt tq_cmp_m1 h2
      rw [if_pos h2, if_neg (by decide), px_skip]
      refine CS_e (px_c_X4_readSum_1 hT (p := tq_pk c n q + 1) (by omega) w L C) ?_
      unfold tq_tail
      rw [if_pos h2]
    · rw [if_neg h2, if_pos rfl]
      refine CS_e (CS_no g5) ?_
      unfold tq_tail
      rw [if_neg h2]
theorem px_c_X4_readUnit_2_14 {c : Nat → Int32} {n : Nat} (hT : TB c n) {q : Nat} (hq : q ≤ n) (L : Int32) (C : Nat → Int32) : CS n (-1) (tq_bind (tq_SM c n 5 q) (tq_tail c n (tq_SM c n 5))) (fx_c_X4_readUnit_2_p14 (nI n) (-1) c L C (nI q)).1 (fx_c_X4_readUnit_2_p14 (nI n) (-1) c L C (nI q)).2.1 := by
  have hn := hT.2
  simp only [fx_c_X4_readUnit_2_p14, exc4]
  refine CS_bind hn (px_c_X4_readSum_1 hT hq (-1) L C) (tq_SM_PG _ hq).1 (fun r hr eq _ => ?_)
  rw [eq]
  exact px_c_X4_readUnit_2_24 hT hr _ _ _
theorem px_c_X4_readUnit_2 {c : Nat → Int32} {n : Nat} (hT : TB c n) {p : Nat} (hp : p ≤ n) (L : Int32) (C : Nat → Int32) : CS n (-1) (tq_U c n 5 p) (fx_c_X4_readUnit_2 (nI n) (nI p) (-1) c L C).1 (fx_c_X4_readUnit_2 (nI n) (nI p) (-1) c L C).2.1 := by
  have hn := hT.2
  have g3 := tq_pk_ge (c := c) hp
  have g5 := tq_pk_le (c := c) hp
  have hpk := px_c_X9_peek hT hp
  simp only [fx_c_X4_readUnit_2, exc1, exc2, exc4]
  rw [hpk]
  simp only []
  by_cases h1 : tq_ch c n (tq_pk c n p) = -1
  · rw [if_pos h1]
    refine CS_e (px_c_X4_readUnit_2_14 hT g5 L C) ?_
    show tq_unit c n _ _ _ p = _
    unfold tq_unit
    rw [if_neg (by rw [h1]; decide), if_neg (by rw [h1]; decide)]
  · rw [if_neg h1, px_su]
    by_cases h2 : tq_ch c n (tq_pk c n p) = 33 ∨ tq_ch c n (tq_pk c n p) = 40
    · rw [if_pos h2, if_neg (by decide)]
      have hpp := tq_pk_pk (c := c) hp
      have g4 : tq_pk c n p < n := tq_ch_lt h1
      rw [px_c_X9_take hT g5 (by decide), if_pos rfl, hpp]
      by_cases h3 : tq_ch c n (tq_pk c n p) = 33
      · rw [if_pos h3, if_neg (show ¬ (1 : Int32) = 0 by decide)]
        simp only []
        refine CS_e (px_c_X4_readUnit_3 hT (p := tq_pk c n p + 1) (by omega) L C) ?_
        show tq_unit c n _ _ _ p = _
        unfold tq_unit
        rw [if_pos h3]
      · have h4 := h2.resolve_left h3
        rw [if_neg h3, if_pos rfl]
        simp only []
        have hs : tq_U c n 5 p = tq_bind (tq_ex c n 40 (tq_pk c n p)) (fun r => tq_bind (tq_C c n 4 r) (tq_ex c n 41)) := by
          have hx : tq_ex c n 40 (tq_pk c n p) = (true, tq_pk c n p + 1) := by unfold tq_ex; rw [hpp, if_pos h4]
          rw [hx]
          show tq_unit c n _ _ _ p = _
          unfold tq_unit
          rw [if_neg h3, if_pos h4]
          rfl
        rw [hs]
        refine CS_bind hn (px_c_X9_expect_1 hT g5 (x := 40) (w := -1) (by decide)) (tq_ex_PG (by decide) _ g5).1 (fun r hr eq _ => ?_)
        rw [eq]
        refine CS_bind hn (px_c_X4_readCondition_2 hT hr _ L C) (tq_C_PG _ hr).1 (fun r2 hr2 eq2 _ => ?_)
        rw [eq2]
        have h9 := px_c_X9_expect_1 hT hr2 (x := 41) (w := (fx_c_X4_readCondition_2 (nI n) (nI r) (fx_c_X9_expect_1 40 (nI n) (nI (tq_pk c n p)) (-1) c).2 c L C).2.1) (by decide)
        exact h9
    · rw [if_neg h2, if_pos rfl]
      refine CS_e (px_c_X4_readUnit_2_14 hT g5 L C) ?_
      show tq_unit c n _ _ _ p = _
      unfold tq_unit
      rw [if_neg (fun z => h2 (Or.inl z)), if_neg (fun z => h2 (Or.inr z))]
theorem fs_c_X4_readCondition_1_p9 (h1_f1 : Int32) (h1_0c : Nat → Int32) (F : Nat) (j9_l6 : Int32) (j9_l5 : Int32) (j9_l4 : Int32) (j9_h1_f2 : Int32) (j9_h1_f3 : Int32) (j9_h0_f1 : Int32) (j9_h0_0c : (Nat → Int32)) : fx_c_X4_readCondition_1_p9 h1_f1 h1_0c (F + 1) j9_l6 j9_l5 j9_l4 j9_h1_f2 j9_h1_f3 j9_h0_f1 j9_h0_0c = ((if j9_l6 = j9_l6 then (if 240 ≤ j9_l6 then (j9_h1_f2, j9_h1_f3, j9_h0_f1, j9_h0_0c) else (exc1 (fx_c_X9_isRight j9_h1_f3) fun (r_60 : Int32) => (if r_60 = 0 then (j9_h1_f2, j9_h1_f3, j9_h0_f1, j9_h0_0c) else (fx_c_X4_readCondition_1_p40 h1_f1 h1_0c j9_l6 j9_l5 j9_l4 j9_h1_f2 j9_h1_f3 j9_h0_f1 j9_h0_0c (fx_c_X4_readCondition_1_p9 h1_f1 h1_0c F))))) else default) : Int32 × Int32 × Int32 × (Nat → Int32)) := rfl
theorem px_c_X4_readCondition_1_79 {c : Nat → Int32} {n : Nat} (hT : TB c n) (hn : n ≤ 240) (k : Int32 → Int32 → Int32 → Int32 → Int32 → Int32 → (Nat → Int32) → Int32 × Int32 × Int32 × (Nat → Int32)) (i q : Nat) (hq : q ≤ n) (w L : Int32) (C : Nat → Int32)
    (hk : w = -1 → ∀ (l5 l4 L : Int32) (C : Nat → Int32), tq_pk c n q + 1 ≤ n → CS n (-1) (tq_C c n 5 (tq_pk c n q + 1)) (k (nI (i + 1)) l5 l4 (nI (tq_pk c n q + 1)) (-1) L C).1 (k (nI (i + 1)) l5 l4 (nI (tq_pk c n q + 1)) (-1) L C).2.1) :
    CS n w (tq_lp c n tq_or (tq_C c n 5) q) (fx_c_X4_readCondition_1_p79 (nI n) c (nI i) k (nI q) w L C).1 (fx_c_X4_readCondition_1_p79 (nI n) c (nI i) k (nI q) w L C).2.1 := by
  have g5 := tq_pk_le (c := c) hq
  simp only [fx_c_X4_readCondition_1_p79, exc2]
  rw [px_c_X9_take_1 hT hq (by decide)]
  by_cases hw : w = -1
  · subst hw
    rw [if_pos rfl]
    by_cases hm : tq_ch c n (tq_pk c n q) = 124
    · have hA : tq_or (tq_ch c n (tq_pk c n q)) = true := by rw [hm]; decide
      have g4 : tq_pk c n q < n := tq_ch_ne hm (by decide)
      rw [if_pos hm, if_neg (show ¬ (1 : Int32) = 0 by decide), tq_lp_t hA]
      simp only [fx_c_X4_readCondition_1_p93, exl, nI_1]
      exact hk rfl _ _ _ _ (by omega)
    · have hA : tq_or (tq_ch c n (tq_pk c n q)) = false := tq_bf (fun z => hm (of_decide_eq_true z))
      rw [if_neg hm, if_pos rfl, tq_lp_f hA]
      exact CS_ok g5
  · rw [if_neg hw, if_pos rfl]
    exact CS_dead hw hq rfl
theorem px_c_X4_readCondition_1_55 {c : Nat → Int32} {n : Nat} (hT : TB c n) (hn : n ≤ 240) (k : Int32 → Int32 → Int32 → Int32 → Int32 → Int32 → (Nat → Int32) → Int32 × Int32 × Int32 × (Nat → Int32)) (i q : Nat) (hq : q ≤ n) (w l5 L : Int32) (C : Nat → Int32)
    (hk : w = -1 → ∀ (l5 l4 L : Int32) (C : Nat → Int32), tq_pk c n q + 1 ≤ n → CS n (-1) (tq_C c n 5 (tq_pk c n q + 1)) (k (nI (i + 1)) l5 l4 (nI (tq_pk c n q + 1)) (-1) L C).1 (k (nI (i + 1)) l5 l4 (nI (tq_pk c n q + 1)) (-1) L C).2.1) :
    CS n w (tq_lp c n tq_ao (tq_C c n 5) q) (fx_c_X4_readCondition_1_p55 (nI n) c (nI i) l5 k (nI q) w L C).1 (fx_c_X4_readCondition_1_p55 (nI n) c (nI i) l5 k (nI q) w L C).2.1 := by
  have g5 := tq_pk_le (c := c) hq
  have hpp := tq_pk_pk (c := c) hq
  simp only [fx_c_X4_readCondition_1_p55, exc2]
  rw [px_c_X9_take hT hq (by decide)]
  by_cases hw : w = -1
  · subst hw
    rw [if_pos rfl]
    by_cases hm : tq_ch c n (tq_pk c n q) = 38
    · have hA : tq_ao (tq_ch c n (tq_pk c n q)) = true := by rw [hm]; decide
      have g4 : tq_pk c n q < n := tq_ch_ne hm (by decide)
      rw [if_pos hm, if_neg (show ¬ (1 : Int32) = 0 by decide), tq_lp_t hA]
      simp only [fx_c_X4_readCondition_1_p93, exl, nI_1]
      exact hk rfl _ _ _ _ (by omega)
    · rw [if_neg hm, if_pos rfl]
      have hs : ∀ (L : Int32) (C : Nat → Int32), CS n (-1) (tq_lp c n tq_ao (tq_C c n 5) q) (fx_c_X4_readCondition_1_p79 (nI n) c (nI i) k (nI (tq_pk c n q)) (-1) L C).1 (fx_c_X4_readCondition_1_p79 (nI n) c (nI i) k (nI (tq_pk c n q)) (-1) L C).2.1 := fun L C => by
        refine CS_e (px_c_X4_readCondition_1_79 hT hn k i (tq_pk c n q) g5 (-1) L C (by rw [hpp]; exact hk)) ?_
        have hf : tq_am (tq_ch c n (tq_pk c n q)) = false := tq_bf (fun z => hm (of_decide_eq_true z))
        unfold tq_lp
        rw [hpp]
        unfold tq_ao
        rw [hf, Bool.false_or]
      by_cases hl : l5 = 0
      · rw [if_pos hl]
        exact hs _ _
      · rw [if_neg hl]
        exact hs _ _
  · rw [if_neg hw, if_pos rfl]
    have hs : ∀ (L : Int32) (C : Nat → Int32), CS n w (tq_lp c n tq_ao (tq_C c n 5) q) (fx_c_X4_readCondition_1_p79 (nI n) c (nI i) k (nI q) w L C).1 (fx_c_X4_readCondition_1_p79 (nI n) c (nI i) k (nI q) w L C).2.1 := fun L C => CS_any hw (px_c_X4_readCondition_1_79 hT hn k i q hq w L C hk)
    by_cases hl : l5 = 0
    · rw [if_pos hl]
      exact hs _ _
    · rw [if_neg hl]
      exact hs _ _
theorem px_c_X4_readCondition_1_9 {c : Nat → Int32} {n : Nat} (hT : TB c n) : ∀ (F i : Nat) (l5 l4 : Int32) (p : Nat) (w L : Int32) (C : Nat → Int32), p ≤ n → 2 * i ≤ p → n < p + F → CS n w (tq_C c n 5 p) (fx_c_X4_readCondition_1_p9 (nI n) c F (nI i) l5 l4 (nI p) w L C).1 (fx_c_X4_readCondition_1_p9 (nI n) c F (nI i) l5 l4 (nI p) w L C).2.1 := by
  have hn := hT.2
  intro F
  induction F with
  | zero => intro i l5 l4 p w L C h1 h2 h3; omega
  | succ F ih =>
    intro i l5 l4 p w L C h1 h2 h3
    have hi : ¬ (240 : Int32) ≤ nI i := nI_ge (a := i) (b := 240) (by omega) (by omega)
    rw [fs_c_X4_readCondition_1_p9, if_pos rfl, if_neg hi]
    by_cases hw : w = -1
    · subst hw
      have ha := px_c_X4_readUnit_2 hT h1 L C
      have hg := tq_U_PG (c := c) (n := n) 5 p h1
      have hs : ∀ (L2 : Int32) (C2 : Nat → Int32), CS n (-1) (tq_C c n 5 p) (fx_c_X4_readCondition_1_p55 (nI n) c (nI i) l5 (fx_c_X4_readCondition_1_p9 (nI n) c F) (fx_c_X4_readUnit_2 (nI n) (nI p) (-1) c L C).1 (fx_c_X4_readUnit_2 (nI n) (nI p) (-1) c L C).2.1 L2 C2).1 (fx_c_X4_readCondition_1_p55 (nI n) c (nI i) l5 (fx_c_X4_readCondition_1_p9 (nI n) c F) (fx_c_X4_readUnit_2 (nI n) (nI p) (-1) c L C).1 (fx_c_X4_readUnit_2 (nI n) (nI p) (-1) c L C).2.1 L2 C2).2.1 := fun L2 C2 => by
        rw [tq_C_eq h1]
        refine CS_bind hn ha hg.1 (fun q hq eq hpr => ?_)
        rw [eq]
        have g3 := tq_pk_ge (c := c) hq
        refine px_c_X4_readCondition_1_55 hT hn _ i q hq _ l5 L2 C2 (fun z l5 l4 L C h9 => ?_)
        obtain ⟨_, z2, z3⟩ := hpr z
        have z4 := hg.2 z2
        exact ih (i + 1) l5 l4 (tq_pk c n q + 1) (-1) L C h9 (by omega) (by omega)
      have hs2 : CS n (-1) (tq_C c n 5 p) (fx_c_X4_readCondition_1_p40 (nI n) c (nI i) l5 l4 (nI p) (-1) L C (fx_c_X4_readCondition_1_p9 (nI n) c F)).1 (fx_c_X4_readCondition_1_p40 (nI n) c (nI i) l5 l4 (nI p) (-1) L C (fx_c_X4_readCondition_1_p9 (nI n) c F)).2.1 := by
        simp only [fx_c_X4_readCondition_1_p40, fx_c_X4_readCondition_1_p41, exc4, exc2]
        by_cases hl : l4 = 0
        · rw [if_pos hl]
          exact hs _ _
        · rw [if_neg hl]
          exact hs _ _
      simp only [exc1]
      rw [px_isr_m1, if_neg (by decide)]
      exact hs2
    · simp only [exc1]
      rw [px_isr_no hw, if_pos rfl]
      exact CS_dead hw h1 rfl
theorem px_c_X4_readCondition_1 {c : Nat → Int32} {n : Nat} (hT : TB c n) {p : Nat} (hp : p ≤ n) (w L : Int32) (C : Nat → Int32) : CS n w (tq_C c n 5 p) (fx_c_X4_readCondition_1 (nI n) (nI p) w c L C).1 (fx_c_X4_readCondition_1 (nI n) (nI p) w c L C).2.1 := px_c_X4_readCondition_1_9 hT exF 0 0 0 p w L C hp (by omega) (by have := hT.2; unfold exF; omega)
theorem px_c_X4_readUnit_1_24 {c : Nat → Int32} {n : Nat} (hT : TB c n) {q : Nat} (hq : q ≤ n) (w L : Int32) (C : Nat → Int32) : CS n w (tq_tail c n (tq_SM c n 6) q) (fx_c_X4_readUnit_1_p24 (nI n) c (nI q) w L C).1 (fx_c_X4_readUnit_1_p24 (nI n) c (nI q) w L C).2.1 := by
  have hn := hT.2
  have g5 := tq_pk_le (c := c) hq
  simp only [fx_c_X4_readUnit_1_p24, exc1, exc2, exc4, exl]
  rw [px_c_X9_peek hT hq]
  by_cases h1 : tq_ch c n (tq_pk c n q) = -1
  · rw [if_pos h1]
    refine CS_e (CS_no g5) ?_
    unfold tq_tail
    rw [if_neg (by rw [h1]; decide)]
  · rw [if_neg h1, px_ic]
    by_cases h2 : tq_cmp (tq_ch c n (tq_pk c n q)) = true
    · have g4 := tq_A_lt tq_cmp_m1 h2
      rw [if_pos h2, if_neg (by decide), px_skip]
      refine CS_e (px_c_X4_readSum hT (p := tq_pk c n q + 1) (by omega) w L C) ?_
      unfold tq_tail
      rw [if_pos h2]
    · rw [if_neg h2, if_pos rfl]
      refine CS_e (CS_no g5) ?_
      unfold tq_tail
      rw [if_neg h2]
theorem px_c_X4_readUnit_1_14 {c : Nat → Int32} {n : Nat} (hT : TB c n) {q : Nat} (hq : q ≤ n) (L : Int32) (C : Nat → Int32) : CS n (-1) (tq_bind (tq_SM c n 6 q) (tq_tail c n (tq_SM c n 6))) (fx_c_X4_readUnit_1_p14 (nI n) (-1) c L C (nI q)).1 (fx_c_X4_readUnit_1_p14 (nI n) (-1) c L C (nI q)).2.1 := by
  have hn := hT.2
  simp only [fx_c_X4_readUnit_1_p14, exc4]
  refine CS_bind hn (px_c_X4_readSum hT hq (-1) L C) (tq_SM_PG _ hq).1 (fun r hr eq _ => ?_)
  rw [eq]
  exact px_c_X4_readUnit_1_24 hT hr _ _ _
theorem px_c_X4_readUnit_1 {c : Nat → Int32} {n : Nat} (hT : TB c n) {p : Nat} (hp : p ≤ n) (L : Int32) (C : Nat → Int32) : CS n (-1) (tq_U c n 6 p) (fx_c_X4_readUnit_1 (nI n) (nI p) (-1) c L C).1 (fx_c_X4_readUnit_1 (nI n) (nI p) (-1) c L C).2.1 := by
  have hn := hT.2
  have g3 := tq_pk_ge (c := c) hp
  have g5 := tq_pk_le (c := c) hp
  have hpk := px_c_X9_peek hT hp
  simp only [fx_c_X4_readUnit_1, exc1, exc2, exc4]
  rw [hpk]
  simp only []
  by_cases h1 : tq_ch c n (tq_pk c n p) = -1
  · rw [if_pos h1]
    refine CS_e (px_c_X4_readUnit_1_14 hT g5 L C) ?_
    show tq_unit c n _ _ _ p = _
    unfold tq_unit
    rw [if_neg (by rw [h1]; decide), if_neg (by rw [h1]; decide)]
  · rw [if_neg h1, px_su]
    by_cases h2 : tq_ch c n (tq_pk c n p) = 33 ∨ tq_ch c n (tq_pk c n p) = 40
    · rw [if_pos h2, if_neg (by decide)]
      have hpp := tq_pk_pk (c := c) hp
      have g4 : tq_pk c n p < n := tq_ch_lt h1
      rw [px_c_X9_take hT g5 (by decide), if_pos rfl, hpp]
      by_cases h3 : tq_ch c n (tq_pk c n p) = 33
      · rw [if_pos h3, if_neg (show ¬ (1 : Int32) = 0 by decide)]
        simp only []
        refine CS_e (px_c_X4_readUnit_2 hT (p := tq_pk c n p + 1) (by omega) L C) ?_
        show tq_unit c n _ _ _ p = _
        unfold tq_unit
        rw [if_pos h3]
      · have h4 := h2.resolve_left h3
        rw [if_neg h3, if_pos rfl]
        simp only []
        have hs : tq_U c n 6 p = tq_bind (tq_ex c n 40 (tq_pk c n p)) (fun r => tq_bind (tq_C c n 5 r) (tq_ex c n 41)) := by
          have hx : tq_ex c n 40 (tq_pk c n p) = (true, tq_pk c n p + 1) := by unfold tq_ex; rw [hpp, if_pos h4]
          rw [hx]
          show tq_unit c n _ _ _ p = _
          unfold tq_unit
          rw [if_neg h3, if_pos h4]
          rfl
        rw [hs]
        refine CS_bind hn (px_c_X9_expect_1 hT g5 (x := 40) (w := -1) (by decide)) (tq_ex_PG (by decide) _ g5).1 (fun r hr eq _ => ?_)
        rw [eq]
        refine CS_bind hn (px_c_X4_readCondition_1 hT hr _ L C) (tq_C_PG _ hr).1 (fun r2 hr2 eq2 _ => ?_)
        rw [eq2]
        have h9 := px_c_X9_expect_1 hT hr2 (x := 41) (w := (fx_c_X4_readCondition_1 (nI n) (nI r) (fx_c_X9_expect_1 40 (nI n) (nI (tq_pk c n p)) (-1) c).2 c L C).2.1) (by decide)
        exact h9
    · rw [if_neg h2, if_pos rfl]
      refine CS_e (px_c_X4_readUnit_1_14 hT g5 L C) ?_
      show tq_unit c n _ _ _ p = _
      unfold tq_unit
      rw [if_neg (fun z => h2 (Or.inl z)), if_neg (fun z => h2 (Or.inr z))]
theorem fs_c_X4_readCondition_p9 (p3 : Int32) (h1_f1 : Int32) (h1_0c : Nat → Int32) (F : Nat) (j9_l6 : Int32) (j9_l5 : Int32) (j9_l4 : Int32) (j9_h1_f2 : Int32) (j9_h1_f3 : Int32) (j9_h0_f1 : Int32) (j9_h0_0c : (Nat → Int32)) : fx_c_X4_readCondition_p9 p3 h1_f1 h1_0c (F + 1) j9_l6 j9_l5 j9_l4 j9_h1_f2 j9_h1_f3 j9_h0_f1 j9_h0_0c = ((if j9_l6 = j9_l6 then (if 240 ≤ j9_l6 then (j9_h1_f2, j9_h1_f3, j9_h0_f1, j9_h0_0c) else (exc1 (fx_c_X9_isRight j9_h1_f3) fun (r_77 : Int32) => (if r_77 = 0 then (j9_h1_f2, j9_h1_f3, j9_h0_f1, j9_h0_0c) else (if p3 = 0 then (fx_c_X4_readCondition_p40 h1_f1 h1_0c j9_l6 j9_l5 j9_l4 j9_h1_f2 j9_h1_f3 j9_h0_f1 j9_h0_0c (fx_c_X4_readCondition_p9 p3 h1_f1 h1_0c F)) else (if j9_l6 = 0 then (fx_c_X4_readCondition_p41 h1_f1 h1_0c j9_l6 j9_l5 j9_l4 j9_h1_f2 j9_h1_f3 j9_h0_f1 j9_h0_0c (fx_c_X4_readCondition_p9 p3 h1_f1 h1_0c F)) else (fx_c_X4_readCondition_p40 h1_f1 h1_0c j9_l6 j9_l5 j9_l4 j9_h1_f2 j9_h1_f3 j9_h0_f1 j9_h0_0c (fx_c_X4_readCondition_p9 p3 h1_f1 h1_0c F))))))) else default) : Int32 × Int32 × Int32 × (Nat → Int32)) := rfl
theorem px_c_X4_readCondition_79 {c : Nat → Int32} {n : Nat} (hT : TB c n) (hn : n ≤ 240) (k : Int32 → Int32 → Int32 → Int32 → Int32 → Int32 → (Nat → Int32) → Int32 × Int32 × Int32 × (Nat → Int32)) (i q : Nat) (hq : q ≤ n) (w L : Int32) (C : Nat → Int32)
    (hk : w = -1 → ∀ (l5 l4 L : Int32) (C : Nat → Int32), tq_pk c n q + 1 ≤ n → CS n (-1) (tq_C c n 6 (tq_pk c n q + 1)) (k (nI (i + 1)) l5 l4 (nI (tq_pk c n q + 1)) (-1) L C).1 (k (nI (i + 1)) l5 l4 (nI (tq_pk c n q + 1)) (-1) L C).2.1) :
    CS n w (tq_lp c n tq_or (tq_C c n 6) q) (fx_c_X4_readCondition_p79 (nI n) c (nI i) k (nI q) w L C).1 (fx_c_X4_readCondition_p79 (nI n) c (nI i) k (nI q) w L C).2.1 := by
  have g5 := tq_pk_le (c := c) hq
  simp only [fx_c_X4_readCondition_p79, exc2]
  rw [px_c_X9_take_1 hT hq (by decide)]
  by_cases hw : w = -1
  · subst hw
    rw [if_pos rfl]
    by_cases hm : tq_ch c n (tq_pk c n q) = 124
    · have hA : tq_or (tq_ch c n (tq_pk c n q)) = true := by rw [hm]; decide
      have g4 : tq_pk c n q < n := tq_ch_ne hm (by decide)
      rw [if_pos hm, if_neg (show ¬ (1 : Int32) = 0 by decide), tq_lp_t hA]
      simp only [fx_c_X4_readCondition_p93, exl, nI_1]
      exact hk rfl _ _ _ _ (by omega)
    · have hA : tq_or (tq_ch c n (tq_pk c n q)) = false := tq_bf (fun z => hm (of_decide_eq_true z))
      rw [if_neg hm, if_pos rfl, tq_lp_f hA]
      exact CS_ok g5
  · rw [if_neg hw, if_pos rfl]
    exact CS_dead hw hq rfl
theorem px_c_X4_readCondition_55 {c : Nat → Int32} {n : Nat} (hT : TB c n) (hn : n ≤ 240) (k : Int32 → Int32 → Int32 → Int32 → Int32 → Int32 → (Nat → Int32) → Int32 × Int32 × Int32 × (Nat → Int32)) (i q : Nat) (hq : q ≤ n) (w l5 L : Int32) (C : Nat → Int32)
    (hk : w = -1 → ∀ (l5 l4 L : Int32) (C : Nat → Int32), tq_pk c n q + 1 ≤ n → CS n (-1) (tq_C c n 6 (tq_pk c n q + 1)) (k (nI (i + 1)) l5 l4 (nI (tq_pk c n q + 1)) (-1) L C).1 (k (nI (i + 1)) l5 l4 (nI (tq_pk c n q + 1)) (-1) L C).2.1) :
    CS n w (tq_lp c n tq_ao (tq_C c n 6) q) (fx_c_X4_readCondition_p55 (nI n) c (nI i) l5 k (nI q) w L C).1 (fx_c_X4_readCondition_p55 (nI n) c (nI i) l5 k (nI q) w L C).2.1 := by
  have g5 := tq_pk_le (c := c) hq
  have hpp := tq_pk_pk (c := c) hq
  simp only [fx_c_X4_readCondition_p55, exc2]
  rw [px_c_X9_take hT hq (by decide)]
  by_cases hw : w = -1
  · subst hw
    rw [if_pos rfl]
    by_cases hm : tq_ch c n (tq_pk c n q) = 38
    · have hA : tq_ao (tq_ch c n (tq_pk c n q)) = true := by rw [hm]; decide
      have g4 : tq_pk c n q < n := tq_ch_ne hm (by decide)
      rw [if_pos hm, if_neg (show ¬ (1 : Int32) = 0 by decide), tq_lp_t hA]
      simp only [fx_c_X4_readCondition_p93, exl, nI_1]
      exact hk rfl _ _ _ _ (by omega)
    · rw [if_neg hm, if_pos rfl]
      have hs : ∀ (L : Int32) (C : Nat → Int32), CS n (-1) (tq_lp c n tq_ao (tq_C c n 6) q) (fx_c_X4_readCondition_p79 (nI n) c (nI i) k (nI (tq_pk c n q)) (-1) L C).1 (fx_c_X4_readCondition_p79 (nI n) c (nI i) k (nI (tq_pk c n q)) (-1) L C).2.1 := fun L C => by
        refine CS_e (px_c_X4_readCondition_79 hT hn k i (tq_pk c n q) g5 (-1) L C (by rw [hpp]; exact hk)) ?_
        have hf : tq_am (tq_ch c n (tq_pk c n q)) = false := tq_bf (fun z => hm (of_decide_eq_true z))
        unfold tq_lp
        rw [hpp]
        unfold tq_ao
        rw [hf, Bool.false_or]
      by_cases hl : l5 = 0
      · rw [if_pos hl]
        exact hs _ _
      · rw [if_neg hl]
        exact hs _ _
  · rw [if_neg hw, if_pos rfl]
    have hs : ∀ (L : Int32) (C : Nat → Int32), CS n w (tq_lp c n tq_ao (tq_C c n 6) q) (fx_c_X4_readCondition_p79 (nI n) c (nI i) k (nI q) w L C).1 (fx_c_X4_readCondition_p79 (nI n) c (nI i) k (nI q) w L C).2.1 := fun L C => CS_any hw (px_c_X4_readCondition_79 hT hn k i q hq w L C hk)
    by_cases hl : l5 = 0
    · rw [if_pos hl]
      exact hs _ _
    · rw [if_neg hl]
      exact hs _ _
theorem px_c_X4_readCondition_9 {c : Nat → Int32} {n : Nat} (hT : TB c n) (p3 : Int32) : ∀ (F i : Nat) (l5 l4 : Int32) (p : Nat) (w L : Int32) (C : Nat → Int32), p ≤ n → 2 * i ≤ p → n < p + F → (p3 = 0 ∨ 1 ≤ i) → CS n w (tq_C c n 6 p) (fx_c_X4_readCondition_p9 p3 (nI n) c F (nI i) l5 l4 (nI p) w L C).1 (fx_c_X4_readCondition_p9 p3 (nI n) c F (nI i) l5 l4 (nI p) w L C).2.1 := by
  have hn := hT.2
  intro F
  induction F with
  | zero => intro i l5 l4 p w L C h1 h2 h3; omega
  | succ F ih =>
    intro i l5 l4 p w L C h1 h2 h3 hz
    have hi : ¬ (240 : Int32) ≤ nI i := nI_ge (a := i) (b := 240) (by omega) (by omega)
    rw [fs_c_X4_readCondition_p9, if_pos rfl, if_neg hi]
    by_cases hw : w = -1
    · subst hw
      have ha := px_c_X4_readUnit_1 hT h1 L C
      have hg := tq_U_PG (c := c) (n := n) 6 p h1
      have hs : ∀ (L2 : Int32) (C2 : Nat → Int32), CS n (-1) (tq_C c n 6 p) (fx_c_X4_readCondition_p55 (nI n) c (nI i) l5 (fx_c_X4_readCondition_p9 p3 (nI n) c F) (fx_c_X4_readUnit_1 (nI n) (nI p) (-1) c L C).1 (fx_c_X4_readUnit_1 (nI n) (nI p) (-1) c L C).2.1 L2 C2).1 (fx_c_X4_readCondition_p55 (nI n) c (nI i) l5 (fx_c_X4_readCondition_p9 p3 (nI n) c F) (fx_c_X4_readUnit_1 (nI n) (nI p) (-1) c L C).1 (fx_c_X4_readUnit_1 (nI n) (nI p) (-1) c L C).2.1 L2 C2).2.1 := fun L2 C2 => by
        rw [tq_C_eq h1]
        refine CS_bind hn ha hg.1 (fun q hq eq hpr => ?_)
        rw [eq]
        have g3 := tq_pk_ge (c := c) hq
        refine px_c_X4_readCondition_55 hT hn _ i q hq _ l5 L2 C2 (fun z l5 l4 L C h9 => ?_)
        obtain ⟨_, z2, z3⟩ := hpr z
        have z4 := hg.2 z2
        exact ih (i + 1) l5 l4 (tq_pk c n q + 1) (-1) L C h9 (by omega) (by omega) (Or.inr (by omega))
      have hs2 : CS n (-1) (tq_C c n 6 p) (fx_c_X4_readCondition_p40 (nI n) c (nI i) l5 l4 (nI p) (-1) L C (fx_c_X4_readCondition_p9 p3 (nI n) c F)).1 (fx_c_X4_readCondition_p40 (nI n) c (nI i) l5 l4 (nI p) (-1) L C (fx_c_X4_readCondition_p9 p3 (nI n) c F)).2.1 := by
        simp only [fx_c_X4_readCondition_p40, fx_c_X4_readCondition_p41b, exc4, exc2]
        by_cases hl : l4 = 0
        · rw [if_pos hl]
          exact hs _ _
        · rw [if_neg hl]
          exact hs _ _
      simp only [exc1]
      rw [px_isr_m1, if_neg (by decide)]
      by_cases hp3 : p3 = 0
      · rw [if_pos hp3]
        exact hs2
      · have hi0 : ¬ nI i = 0 := nI_ne0 (by rcases hz with z | z; exact absurd z hp3; omega) (by omega)
        rw [if_neg hp3, if_neg hi0]
        exact hs2
    · simp only [exc1]
      rw [px_isr_no hw, if_pos rfl]
      exact CS_dead hw h1 rfl
theorem px_c_X4_readCondition_b0 {c : Nat → Int32} {n : Nat} (hT : TB c n) {p : Nat} (hp : p ≤ n) (w L : Int32) (C : Nat → Int32) : CS n w (tq_C c n 6 p) (fx_c_X4_readCondition 0 (nI n) (nI p) w c L C).1 (fx_c_X4_readCondition 0 (nI n) (nI p) w c L C).2.1 := px_c_X4_readCondition_9 hT 0 exF 0 0 0 p w L C hp (by omega) (by have := hT.2; unfold exF; omega) (Or.inl rfl)
theorem px_c_X4_readUnit_24 {c : Nat → Int32} {n : Nat} (hT : TB c n) {q : Nat} (hq : q ≤ n) (w L : Int32) (C : Nat → Int32) : CS n w (tq_tail c n (tq_SM c n 6) q) (fx_c_X4_readUnit_p24 (nI n) (nI q) w c L C).1 (fx_c_X4_readUnit_p24 (nI n) (nI q) w c L C).2.1 := by
  have hn := hT.2
  have g5 := tq_pk_le (c := c) hq
  simp only [fx_c_X4_readUnit_p24, exc1, exc2, exc4, exl]
  rw [px_c_X9_peek hT hq]
  by_cases h1 : tq_ch c n (tq_pk c n q) = -1
  · rw [if_pos h1]
    refine CS_e (CS_no g5) ?_
    unfold tq_tail
    rw [if_neg (by rw [h1]; decide)]
  · rw [if_neg h1, px_ic]
    by_cases h2 : tq_cmp (tq_ch c n (tq_pk c n q)) = true
    · have g4 := tq_A_lt tq_cmp_m1 h2
      rw [if_pos h2, if_neg (by decide), px_skip]
      refine CS_e (px_c_X4_readSum hT (p := tq_pk c n q + 1) (by omega) w L C) ?_
      unfold tq_tail
      rw [if_pos h2]
    · rw [if_neg h2, if_pos rfl]
      refine CS_e (CS_no g5) ?_
      unfold tq_tail
      rw [if_neg h2]
theorem px_c_X4_readCondition_b1 {c : Nat → Int32} {n : Nat} (hT : TB c n) {p : Nat} (hp : p ≤ n) (w L : Int32) (C : Nat → Int32) : CS n w (tq_condB c n p) (fx_c_X4_readCondition 1 (nI n) (nI p) w c L C).1 (fx_c_X4_readCondition 1 (nI n) (nI p) w c L C).2.1 := by
  have hn := hT.2
  have e0 : fx_c_X4_readCondition 1 (nI n) (nI p) w c L C = fx_c_X4_readCondition_p9 1 (nI n) c exF 0 0 0 (nI p) w L C := rfl
  obtain ⟨F, hF, hF2⟩ : ∃ F, exF = F + 1 ∧ 300 < F := ⟨exF - 1, by unfold exF; omega, by unfold exF; omega⟩
  rw [e0, hF, fs_c_X4_readCondition_p9, if_pos rfl, if_neg (by decide)]
  by_cases hw : w = -1
  · subst hw
    simp only [exc1]
    rw [px_isr_m1, if_neg (by decide), if_neg (by decide), if_pos trivial]
    simp only [fx_c_X4_readCondition_p41, exc4, exc2]
    rw [if_pos trivial]
    have ha : CS n (-1) (tq_tail c n (tq_SM c n 6) p) (fx_c_X4_readUnit (nI n) (nI p) (-1) c L C).1 (fx_c_X4_readUnit (nI n) (nI p) (-1) c L C).2.1 := px_c_X4_readUnit_24 hT hp (-1) L C
    have hg := tq_tail_bd (c := c) (n := n) (sm := tq_SM c n 6) tq_SM_PG hp
    refine CS_bind hn ha hg.1 (fun q hq eq hpr => ?_)
    rw [eq]
    have g3 := tq_pk_ge (c := c) hq
    refine px_c_X4_readCondition_55 hT hn _ 0 q hq _ 0 _ _ (fun z l5 l4 L C h9 => ?_)
    obtain ⟨_, z2, z3⟩ := hpr z
    have z4 := tq_tail_lt (c := c) (n := n) (sm := tq_SM c n 6) tq_SM_PG hp z2
    exact px_c_X4_readCondition_9 hT 1 F 1 l5 l4 (tq_pk c n q + 1) (-1) L C h9 (by omega) (by omega) (Or.inr (Nat.le_refl _))
  · simp only [exc1]
    rw [px_isr_no hw, if_pos rfl]
    exact CS_dead hw hp rfl
theorem fs_c_X4_faultOf_p11 (h1_f1 : Int32) (h1_0c : Nat → Int32) (F : Nat) (j11_l2 : Int32) (j11_h0_f1 : Int32) (j11_h1_f2 : Int32) (j11_h1_f3 : Int32) (j11_h0_0c : (Nat → Int32)) : fx_c_X4_faultOf_p11 h1_f1 h1_0c (F + 1) j11_l2 j11_h0_f1 j11_h1_f2 j11_h1_f3 j11_h0_0c = ((if j11_l2 = j11_l2 then (if 240 ≤ j11_l2 then (fx_c_X4_faultOf_p119 h1_f1 h1_0c j11_h0_f1 j11_h1_f2 j11_h1_f3 j11_h0_0c) else (exc2 (fx_c_X9_expect 121 h1_f1 j11_h1_f2 j11_h1_f3 h1_0c) fun (x_104 : Int32) (x_105 : Int32) => (exc2 (fx_c_X9_expect_1 58 h1_f1 x_104 x_105 h1_0c) fun (x_111 : Int32) (x_112 : Int32) => (exc2 (fx_c_X9_peek h1_f1 x_111 h1_0c) fun (r_117 : Int32) (x_118 : Int32) => (if r_117 = (-1) then (exc1 (fx_c_X4_startsUnit (-1)) fun (r_128 : Int32) => (fx_c_X4_faultOf_p45 h1_f1 h1_0c j11_l2 j11_h0_f1 j11_h0_0c (fx_c_X4_faultOf_p11 h1_f1 h1_0c F) x_118 x_112)) else (exc1 (fx_c_X4_startsUnit_1 r_117) fun (r_132 : Int32) => (if r_132 = 0 then (fx_c_X4_faultOf_p45 h1_f1 h1_0c j11_l2 j11_h0_f1 j11_h0_0c (fx_c_X4_faultOf_p11 h1_f1 h1_0c F) x_118 x_112) else (fx_c_X4_faultOf_p45b h1_f1 h1_0c j11_l2 j11_h0_f1 j11_h0_0c (fx_c_X4_faultOf_p11 h1_f1 h1_0c F) x_118 x_112)))))))) else default) : Int32 × Int32 × Int32 × Int32 × (Nat → Int32)) := rfl
/-- what is answered in the end: -1, or the place that is wrong -/
def tq_fin (s : Bool × Nat) : Int32 := if s.1 = true then -1 else nI s.2
def CR (w : Int32) (s : Bool × Nat) (r : Int32) : Prop := (w = -1 → r = tq_fin s) ∧ (¬ w = -1 → r = w)
theorem CR_e {w : Int32} {s1 s2 : Bool × Nat} {r : Int32} (h : CR w s1 r) (e : s2 = s1) : CR w s2 r := by rw [e]; exact h
theorem CR_any {w : Int32} {s1 s2 : Bool × Nat} {r : Int32} (hw : ¬ w = -1) (h : CR w s1 r) : CR w s2 r := ⟨fun k => absurd k hw, h.2⟩
theorem CR_bind {n : Nat} {w : Int32} {s1 : Bool × Nat} {f : Nat → Bool × Nat} {a1 w1 r : Int32} (hn : n ≤ 240) (h1 : CS n w s1 a1 w1) (hs : s1.2 ≤ n) (h2 : ∀ q, q ≤ n → a1 = nI q → (w1 = -1 → w = -1 ∧ s1.1 = true ∧ q = s1.2) → CR w1 (f q) r) : CR w (tq_bind s1 f) r := by
  obtain ⟨⟨q1, hq1, e1⟩, b1, c1, d1⟩ := h1
  have hk : w1 = -1 → w = -1 ∧ s1.1 = true ∧ q1 = s1.2 := fun z => by
    by_cases hw : w = -1
    · cases hb : s1.1 with
      | false =>
        have h4 := d1 hw hb
        rw [z] at h4
        exact absurd h4.symm (nI_m1 (by omega))
      | true =>
        have h4 := (c1 hw hb).1
        rw [e1] at h4
        exact ⟨hw, rfl, (nI_eq (by omega) (by omega)).mp h4⟩
    · rw [b1 hw] at z
      exact absurd z hw
  have h3 := h2 q1 hq1 e1 hk
  by_cases hw : w = -1
  · refine ⟨fun _ => ?_, fun k => absurd hw k⟩
    cases hb : s1.1 with
    | false =>
      have h4 := d1 hw hb
      have h5 : ¬ w1 = -1 := by rw [h4]; exact nI_m1 (by omega)
      rw [h3.2 h5, h4, tq_bind_f hb]
      rfl
    | true =>
      obtain ⟨e2, e3⟩ := c1 hw hb
      rw [h3.1 e3, tq_bind_t hb, (hk e3).2.2]
  · refine ⟨fun k => absurd k hw, fun _ => ?_⟩
    have h4 := b1 hw
    rw [h3.2 (by rw [h4]; exact hw), h4]
theorem px_c_X9_expectEnd {c : Nat → Int32} {n : Nat} (hT : TB c n) {q : Nat} (hq : q ≤ n) (w : Int32) : CR w (tq_end c n q) (fx_c_X9_expectEnd (nI n) (nI q) w c).2 := by
  have g5 := tq_pk_le (c := c) hq
  simp only [fx_c_X9_expectEnd, exc1, exc2]
  rw [px_c_X9_peek hT hq]
  by_cases h1 : tq_ch c n (tq_pk c n q) = -1
  · rw [if_pos h1]
    exact ⟨fun k => by unfold tq_end; rw [if_pos h1]; exact k, fun _ => rfl⟩
  · rw [if_neg h1, if_neg h1]
    refine ⟨fun k => ?_, fun k => ?_⟩
    · unfold tq_end
      rw [if_neg h1]
      exact if_pos k
    · exact if_neg k
theorem px_c_X4_faultOf_95 {c : Nat → Int32} {n : Nat} (hT : TB c n) (k : Int32 → Int32 → Int32 → Int32 → (Nat → Int32) → Int32 × Int32 × Int32 × Int32 × (Nat → Int32)) (i p : Nat) (hk : ∀ (q : Nat) (L : Int32) (C : Nat → Int32), p < q → q ≤ n → CR (-1) (tq_bind (tq_laws c n q) (tq_end c n)) (k (nI (i + 1)) L (nI q) (-1) C).1) {q : Nat} (hq : q ≤ n) {w : Int32} (hpq : w = -1 → p ≤ q) (L : Int32) (C : Nat → Int32) :
    CR w ((fun t => tq_bind (tq_lp c n tq_sc (tq_laws c n) t) (tq_end c n)) q) (fx_c_X4_faultOf_p95 (nI n) c (nI i) k L (nI q) w C).1 := by
  have g3 := tq_pk_ge (c := c) hq
  have g5 := tq_pk_le (c := c) hq
  have hpp := tq_pk_pk (c := c) hq
  simp only [fx_c_X4_faultOf_p95, exc2, exl]
  rw [px_c_X9_take hT hq (by decide)]
  by_cases hw : w = -1
  · have hpq := hpq hw
    subst hw
    rw [if_pos rfl]
    by_cases hm : tq_ch c n (tq_pk c n q) = 59
    · have hA : tq_sc (tq_ch c n (tq_pk c n q)) = true := by rw [hm]; decide
      have g4 : tq_pk c n q < n := tq_ch_ne hm (by decide)
      rw [if_pos hm, if_neg (show ¬ (1 : Int32) = 0 by decide), tq_lp_t hA, nI_1]
      exact hk _ _ _ (by omega) (by omega)
    · have hA : tq_sc (tq_ch c n (tq_pk c n q)) = false := tq_bf (fun z => hm (of_decide_eq_true z))
      rw [if_neg hm, if_pos rfl, tq_lp_f hA]
      show CR (-1) (tq_end c n (tq_pk c n q)) (fx_c_X9_expectEnd (nI n) (nI (tq_pk c n q)) (-1) c).2
      exact px_c_X9_expectEnd hT g5 (-1)
  · rw [if_neg hw, if_pos rfl]
    show CR w _ (fx_c_X9_expectEnd (nI n) (nI q) w c).2
    exact CR_any hw (px_c_X9_expectEnd hT hq w)
theorem px_c_X4_faultOf_70 {c : Nat → Int32} {n : Nat} (hT : TB c n) (k : Int32 → Int32 → Int32 → Int32 → (Nat → Int32) → Int32 × Int32 × Int32 × Int32 × (Nat → Int32)) (i p : Nat) (hk : ∀ (q : Nat) (L : Int32) (C : Nat → Int32), p < q → q ≤ n → CR (-1) (tq_bind (tq_laws c n q) (tq_end c n)) (k (nI (i + 1)) L (nI q) (-1) C).1) {q : Nat} (hq : q ≤ n) {w : Int32} (hpq : w = -1 → p ≤ q) (l3 L : Int32) (C : Nat → Int32) (cnd : Nat → Bool × Nat) (hcb : (cnd q).2 ≤ n ∧ ((cnd q).1 = true → q ≤ (cnd q).2))
    (hc : ∀ (L : Int32) (C : Nat → Int32), CS n w (cnd q) (fx_c_X4_readCondition l3 (nI n) (nI q) w c L C).1 (fx_c_X4_readCondition l3 (nI n) (nI q) w c L C).2.1) :
    CR w (tq_bind (tq_bind (cnd q) (tq_then c n)) (fun t => tq_bind (tq_lp c n tq_sc (tq_laws c n) t) (tq_end c n))) (fx_c_X4_faultOf_p70 (nI n) c (nI i) k l3 L (nI q) w C).1 := by
  have hn := hT.2
  rw [tq_bind_bind]
  simp only [fx_c_X4_faultOf_p70, exc2, exc4]
  refine CR_bind hn (hc L C) hcb.1 (fun r hr eq hpr => ?_)
  rw [eq]
  show CR _ (tq_bind (tq_bind (tq_ex c n 63 r) (tq_SM c n 6)) _) _
  rw [tq_bind_bind]
  have hx := tq_ex_PG (c := c) (n := n) (x := 63) (by decide) r hr
  refine CR_bind hn (px_c_X9_expect_3 hT hr (by decide)) hx.1 (fun r2 hr2 eq2 hpr2 => ?_)
  rw [eq2]
  have hx2 := tq_SM_PG (c := c) (n := n) (k := 6) r2 hr2
  suffices h9 : ∀ (L' : Int32) (C' : Nat → Int32), CR (fx_c_X9_expect_3 63 (nI n) (nI r) (fx_c_X4_readCondition l3 (nI n) (nI q) w c L C).2.1 c).2 (tq_bind (tq_SM c n 6 r2) (fun t => tq_bind (tq_lp c n tq_sc (tq_laws c n) t) (tq_end c n))) (fx_c_X4_faultOf_p95 (nI n) c (nI i) k (fx_c_X4_readSum (nI n) (nI r2) (fx_c_X9_expect_3 63 (nI n) (nI r) (fx_c_X4_readCondition l3 (nI n) (nI q) w c L C).2.1 c).2 c L' C').2.2.1 (fx_c_X4_readSum (nI n) (nI r2) (fx_c_X9_expect_3 63 (nI n) (nI r) (fx_c_X4_readCondition l3 (nI n) (nI q) w c L C).2.1 c).2 c L' C').1 (fx_c_X4_readSum (nI n) (nI r2) (fx_c_X9_expect_3 63 (nI n) (nI r) (fx_c_X4_readCondition l3 (nI n) (nI q) w c L C).2.1 c).2 c L' C').2.1 (fx_c_X4_readSum (nI n) (nI r2) (fx_c_X9_expect_3 63 (nI n) (nI r) (fx_c_X4_readCondition l3 (nI n) (nI q) w c L C).2.1 c).2 c L' C').2.2.2).1 from h9 _ _
  intro L' C'
  refine CR_bind hn (px_c_X4_readSum hT hr2 _ L' C') hx2.1 (fun r3 hr3 eq3 hpr3 => ?_)
  rw [eq3]
  refine px_c_X4_faultOf_95 hT k i p hk hr3 (fun z => ?_) _ _
  obtain ⟨z1, z2, z3⟩ := hpr3 z
  obtain ⟨y1, y2, y3⟩ := hpr2 z1
  obtain ⟨x1, x2, x3⟩ := hpr y1
  have h1 := hpq x1
  have h2 := hcb.2 x2
  have h3 := hx.2 y2
  have h4 := hx2.2 z2
  omega
theorem px_c_X4_faultOf_56 {c : Nat → Int32} {n : Nat} (hT : TB c n) (k : Int32 → Int32 → Int32 → Int32 → (Nat → Int32) → Int32 × Int32 × Int32 × Int32 × (Nat → Int32)) (i p : Nat) (hk : ∀ (q : Nat) (L : Int32) (C : Nat → Int32), p < q → q ≤ n → CR (-1) (tq_bind (tq_laws c n q) (tq_end c n)) (k (nI (i + 1)) L (nI q) (-1) C).1) {q : Nat} (hq : q ≤ n) {w : Int32} (hpq : w = -1 → p ≤ q) (L : Int32) (C : Nat → Int32) :
    CR w (tq_bind (if tq_cmp (tq_ch c n (tq_pk c n q)) then tq_bind (tq_condB c n (tq_pk c n q)) (tq_then c n) else (true, tq_pk c n q)) (fun t => tq_bind (tq_lp c n tq_sc (tq_laws c n) t) (tq_end c n))) (fx_c_X4_faultOf_p56 (nI n) c (nI i) k 1 L (nI q) w C).1 := by
  have hn := hT.2
  have g3 := tq_pk_ge (c := c) hq
  have g5 := tq_pk_le (c := c) hq
  simp only [fx_c_X4_faultOf_p56, exc1, exc2]
  rw [if_neg (show ¬ (1 : Int32) = 0 by decide), px_c_X9_peek hT hq]
  by_cases h1 : tq_ch c n (tq_pk c n q) = -1
  · rw [if_pos h1, if_neg (by rw [h1]; decide)]
    exact px_c_X4_faultOf_95 hT k i p hk g5 (fun z => by have := hpq z; omega) _ _
  · rw [if_neg h1, px_ic]
    by_cases h2 : tq_cmp (tq_ch c n (tq_pk c n q)) = true
    · rw [if_pos h2, if_pos h2, if_neg (by decide)]
      exact px_c_X4_faultOf_70 hT k i p hk g5 (fun z => by have := hpq z; omega) 1 _ _ (tq_condB c n) (tq_condB_bd g5) (fun L C => px_c_X4_readCondition_b1 hT g5 w L C)
    · rw [if_neg h2, if_neg h2, if_pos rfl]
      exact px_c_X4_faultOf_95 hT k i p hk g5 (fun z => by have := hpq z; omega) _ _
theorem px_c_X4_faultOf_11 {c : Nat → Int32} {n : Nat} (hT : TB c n) : ∀ (F i p : Nat) (L : Int32) (C : Nat → Int32), p ≤ n → 2 * i ≤ p → n < p + F → CR (-1) (tq_bind (tq_laws c n p) (tq_end c n)) (fx_c_X4_faultOf_p11 (nI n) c F (nI i) L (nI p) (-1) C).1 := by
  have hn := hT.2
  intro F
  induction F with
  | zero => intro i p L C h1 h2 h3; omega
  | succ F ih =>
    intro i p L C h1 h2 h3
    have hi : ¬ (240 : Int32) ≤ nI i := nI_ge (a := i) (b := 240) (by omega) (by omega)
    have hk : ∀ (q : Nat) (L : Int32) (C : Nat → Int32), p + 1 < q → q ≤ n → CR (-1) (tq_bind (tq_laws c n q) (tq_end c n)) (fx_c_X4_faultOf_p11 (nI n) c F (nI (i + 1)) L (nI q) (-1) C).1 := fun q L C k1 k2 => ih (i + 1) q L C k2 (by omega) (by omega)
    rw [fs_c_X4_faultOf_p11, if_pos rfl, if_neg hi, tq_laws_eq h1, tq_bind_bind]
    simp only [exc1, exc2]
    show CR (-1) (tq_bind (tq_bind (tq_ex c n 121 p) (fun q => tq_bind (tq_ex c n 58 q) (tq_body c n))) _) _
    rw [tq_bind_bind]
    have hx := tq_ex_PG (c := c) (n := n) (x := 121) (by decide) p h1
    refine CR_bind hn (px_c_X9_expect hT h1 (by decide)) hx.1 (fun q hq eq hpr => ?_)
    rw [eq, tq_bind_bind]
    have hx2 := tq_ex_PG (c := c) (n := n) (x := 58) (by decide) q hq
    refine CR_bind hn (px_c_X9_expect_1 hT hq (by decide)) hx2.1 (fun r hr eq2 hpr2 => ?_)
    rw [eq2, px_c_X9_peek hT hr]
    have g3 := tq_pk_ge (c := c) hr
    have g5 := tq_pk_le (c := c) hr
    have hpp := tq_pk_pk (c := c) hr
    have hlt : (fx_c_X9_expect_1 58 (nI n) (nI q) (fx_c_X9_expect 121 (nI n) (nI p) (-1) c).2 c).2 = -1 → p + 1 ≤ tq_pk c n r := fun z => by
      obtain ⟨z1, z2, z3⟩ := hpr2 z
      obtain ⟨y1, y2, y3⟩ := hpr z1
      have k1 := hx.2 y2
      have k2 := hx2.2 z2
      omega
    have hsum : CR (fx_c_X9_expect_1 58 (nI n) (nI q) (fx_c_X9_expect 121 (nI n) (nI p) (-1) c).2 c).2 (tq_bind (tq_bind (tq_SM c n 6 (tq_pk c n r)) (fun t => if tq_cmp (tq_ch c n (tq_pk c n t)) then tq_bind (tq_condB c n (tq_pk c n t)) (tq_then c n) else (true, tq_pk c n t))) (fun t => tq_bind (tq_lp c n tq_sc (tq_laws c n) t) (tq_end c n))) (fx_c_X4_faultOf_p45 (nI n) c (nI i) L C (fx_c_X4_faultOf_p11 (nI n) c F) (nI (tq_pk c n r)) (fx_c_X9_expect_1 58 (nI n) (nI q) (fx_c_X9_expect 121 (nI n) (nI p) (-1) c).2 c).2).1 := by
      rw [tq_bind_bind]
      simp only [fx_c_X4_faultOf_p45, exc4]
      have hx3 := tq_SM_PG (c := c) (n := n) (k := 6) (tq_pk c n r) g5
      refine CR_bind hn (px_c_X4_readSum hT g5 _ L C) hx3.1 (fun t ht eq3 hpr3 => ?_)
      rw [eq3]
      refine px_c_X4_faultOf_56 hT _ i (p + 1) hk ht (fun z => ?_) _ _
      obtain ⟨z1, z2, z3⟩ := hpr3 z
      have k1 := hlt z1
      have k2 := hx3.2 z2
      omega
    by_cases h5 : tq_ch c n (tq_pk c n r) = -1
    · rw [if_pos h5]
      refine CR_e hsum ?_
      unfold tq_body
      rw [if_neg (by rw [h5]; decide)]
    · rw [if_neg h5, px_su]
      by_cases h6 : tq_ch c n (tq_pk c n r) = 33 ∨ tq_ch c n (tq_pk c n r) = 40
      · rw [if_pos h6, if_neg (by decide)]
        have eb : tq_body c n r = tq_bind (tq_C c n 6 (tq_pk c n r)) (tq_then c n) := by unfold tq_body; rw [if_pos h6]
        rw [eb]
        have e45 : fx_c_X4_faultOf_p45b (nI n) c (nI i) L C (fx_c_X4_faultOf_p11 (nI n) c F) (nI (tq_pk c n r)) (fx_c_X9_expect_1 58 (nI n) (nI q) (fx_c_X9_expect 121 (nI n) (nI p) (-1) c).2 c).2 = fx_c_X4_faultOf_p70 (nI n) c (nI i) (fx_c_X4_faultOf_p11 (nI n) c F) 0 L (nI (tq_pk c n r)) (fx_c_X9_expect_1 58 (nI n) (nI q) (fx_c_X9_expect 121 (nI n) (nI p) (-1) c).2 c).2 C := by unfold fx_c_X4_faultOf_p45b fx_c_X4_faultOf_p56; exact if_pos rfl
        rw [e45]
        exact px_c_X4_faultOf_70 hT _ i (p + 1) hk g5 hlt 0 _ _ (tq_C c n 6) ⟨(tq_C_PG _ g5).1, fun z => Nat.le_of_lt ((tq_C_PG _ g5).2 z)⟩ (fun L C => px_c_X4_readCondition_b0 hT g5 _ L C)
      · rw [if_neg h6, if_pos rfl]
        refine CR_e hsum ?_
        unfold tq_body
        rw [if_neg h6]
/-- what the LAW's reader answers -/
theorem px_c_X4_faultOf {c : Nat → Int32} {n : Nat} (hT : TB c n) (C : Nat → Int32) : (fx_c_X4_faultOf (nI n) c C).1 = tq_fin (tq_law c n) := (px_c_X4_faultOf_11 hT exF 0 0 0 C (by omega) (by omega) (by have := hT.2; unfold exF; omega)).1 rfl
