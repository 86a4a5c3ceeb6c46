theorem fs_c_X6_readStep_p49 (p2 : Int32) (h1_f1 : Int32) (h1_0c : Nat → Int32) (F : Nat) (j49_l5 : Int32) (j49_l4 : Int32) (j49_h1_f2 : Int32) (j49_h1_f3 : Int32) (j49_h0_0c : (Nat → Int32)) : fx_c_X6_readStep_p49 p2 h1_f1 h1_0c (F + 1) j49_l5 j49_l4 j49_h1_f2 j49_h1_f3 j49_h0_0c = ((if j49_l5 = j49_l5 then (if 4 ≤ j49_l5 then (exl (p2 + 1) fun (x_23 : Int32) => (j49_h1_f2, j49_h1_f3, x_23, j49_h0_0c)) else (exl (p2 * 4) fun (x_27 : Int32) => (exl (x_27 + j49_l5) fun (x_29 : Int32) => (exl (([3, 2, 2, 1] : List Int32).getD (j49_l4 : Int32).toNatClampNeg 0) fun (x_31 : Int32) => (if x_31 < j49_l5 then (fx_c_X6_readStep_p90 j49_l5 j49_l4 j49_h1_f2 j49_h1_f3 j49_h0_0c (fx_c_X6_readStep_p49 p2 h1_f1 h1_0c F) x_29) else (exc1 (fx_c_X9_isRight j49_h1_f3) fun (r_37 : Int32) => (if r_37 = 0 then (fx_c_X6_readStep_p90 j49_l5 j49_l4 j49_h1_f2 j49_h1_f3 j49_h0_0c (fx_c_X6_readStep_p49 p2 h1_f1 h1_0c F) x_29) else (exc3 (fx_c_X9_digit h1_f1 j49_h1_f2 j49_h1_f3 h1_0c) fun (r_46 : Int32) (x_47 : Int32) (x_48 : Int32) => (fx_c_X6_readStep_p91 j49_l5 j49_l4 j49_h0_0c (fx_c_X6_readStep_p49 p2 h1_f1 h1_0c F) x_29 r_46 x_47 x_48))))))))) else default) : Int32 × Int32 × Int32 × (Nat → Int32)) := rfl
theorem fs_c_X6_faultOf_p11 (h1_f1 : Int32) (h1_0c : Nat → Int32) (F : Nat) (j11_l2 : Int32) (j11_h0_f1 : Int32) (j11_h1_f2 : Int32) (j11_h1_f3 : Int32) (j11_h0_0c : (Nat → Int32)) : fx_c_X6_faultOf_p11 h1_f1 h1_0c (F + 1) j11_l2 j11_h0_f1 j11_h1_f2 j11_h1_f3 j11_h0_0c = ((if j11_l2 = j11_l2 then (if 16 ≤ j11_l2 then (default) else (exc4 (fx_c_X6_readStep j11_l2 h1_f1 j11_h1_f2 j11_h1_f3 h1_0c j11_h0_f1 j11_h0_0c) fun (x_14 : Int32) (x_15 : Int32) (x_16 : Int32) (w_17 : Nat → Int32) => (if j11_l2 = 15 then (fx_c_X6_faultOf_p47 h1_f1 h1_0c x_16 x_14 x_15 w_17) else (exc2 (fx_c_X9_take 59 h1_f1 x_14 x_15 h1_0c) fun (r_26 : Int32) (x_27 : Int32) => (if r_26 = 0 then (fx_c_X6_faultOf_p47 h1_f1 h1_0c x_16 x_27 x_15 w_17) else (exl (j11_l2 + 1) fun (x_40 : Int32) => ((fx_c_X6_faultOf_p11 h1_f1 h1_0c F) x_40 x_16 x_27 x_15 w_17))))))) else default) : Int32 × Int32 × Int32 × Int32 × (Nat → Int32)) := rfl
theorem fs_c_X12_readPlan_p17 (h0_f6 : Int32) (h0_1c : Nat → Int32) (h0_25c : Nat → Int32) (F : Nat) (j17_l1 : Int32) (j17_h0_f10 : Int32) (j17_h0_24c : (Nat → Int32)) : fx_c_X12_readPlan_p17 h0_f6 h0_1c h0_25c (F + 1) j17_l1 j17_h0_f10 j17_h0_24c = ((if j17_l1 = j17_l1 then (exl (64 + j17_l1) fun (x_40 : Int32) => (exl (4 * x_40) fun (x_42 : Int32) => (exc3 (fx_c_X12_readStep_7 x_42 0 h0_f6 j17_h0_f10 h0_1c j17_h0_24c) fun (x_45 : Int32) (x_46 : Int32) (w_47 : Nat → Int32) => (if x_46 = (-1) then (exl (j17_l1 + 1) fun (x_60 : Int32) => (exc2 (fx_c_X12_look 0 h0_f6 x_45 h0_1c) fun (r_62 : Int32) (x_63 : Int32) => (if r_62 = (-1) then (fx_c_X12_readPlan_p57 h0_f6 h0_1c h0_25c x_60 x_63 w_47) else (if r_62 = 59 then (fx_c_X12_readPlan_p57b h0_25c (fx_c_X12_readPlan_p17 h0_f6 h0_1c h0_25c F) x_60 x_63 w_47) else (fx_c_X12_readPlan_p57 h0_f6 h0_1c h0_25c x_60 x_63 w_47))))) else (if x_46 = (-1) then (default) else (x_45, x_46, w_47, h0_25c)))))) else default) : Int32 × Int32 × (Nat → Int32) × (Nat → Int32)) := rfl
/-- STEPS: a digit, some digits, a STEP, a PLAN of k more STEPS at the most -/
def tq_di (c : Nat → Int32) (n p : Nat) : Bool × Nat := if tq_dg (tq_ch c n (tq_pk c n p)) then (true, tq_pk c n p + 1) else (false, tq_pk c n p)
def tq_dn (c : Nat → Int32) (n : Nat) : Nat → Nat → Bool × Nat
  | 0, p => (true, p)
  | k + 1, p => tq_bind (tq_di c n p) (tq_dn c n k)
def tq_kd (x : Int32) : Nat := if x = 103 then 3 else if x = 115 then 2 else if x = 99 then 2 else if x = 104 then 1 else 0
def tq_st (c : Nat → Int32) (n p : Nat) : Bool × Nat := if tq_kd (tq_ch c n (tq_pk c n p)) = 0 then (false, tq_pk c n p) else tq_dn c n (tq_kd (tq_ch c n (tq_pk c n p))) (tq_pk c n p + 1)
def tq_pl (c : Nat → Int32) (n : Nat) : Nat → Nat → Bool × Nat
  | 0, p => (false, p)
  | k + 1, p => tq_bind (tq_st c n p) (fun q => if k = 0 then tq_end c n q else if tq_ch c n (tq_pk c n q) = 59 then tq_pl c n k (tq_pk c n q + 1) else tq_end c n q)
theorem tq_di_PG {c : Nat → Int32} {n : Nat} : tq_PG n (tq_di c n) := fun p hp => by
  have g3 := tq_pk_ge (c := c) hp
  have g5 := tq_pk_le (c := c) hp
  unfold tq_di
  by_cases h : tq_dg (tq_ch c n (tq_pk c n p)) = true
  · have g4 := tq_dg_lt h
    rw [if_pos h]
    exact ⟨by show tq_pk c n p + 1 ≤ n; omega, fun _ => by show p < tq_pk c n p + 1; omega⟩
  · rw [if_neg h]
    exact ⟨g5, fun z => by cases z⟩
theorem tq_dn_bd {c : Nat → Int32} {n : Nat} : ∀ k p, p ≤ n → (tq_dn c n k p).2 ≤ n ∧ ((tq_dn c n k p).1 = true → p ≤ (tq_dn c n k p).2) := by
  intro k
  induction k with
  | zero => intro p hp; exact ⟨hp, fun _ => Nat.le_refl _⟩
  | succ k ih =>
    intro p hp
    have h1 := tq_di_PG (c := c) p hp
    exact tq_bind_le h1.1 (fun z => Nat.le_of_lt (h1.2 z)) (fun q hq _ => ih q hq)
theorem tq_st_PG {c : Nat → Int32} {n : Nat} : tq_PG n (tq_st c n) := fun p hp => by
  have g3 := tq_pk_ge (c := c) hp
  have g5 := tq_pk_le (c := c) hp
  unfold tq_st
  by_cases h : tq_kd (tq_ch c n (tq_pk c n p)) = 0
  · rw [if_pos h]
    exact ⟨g5, fun z => by cases z⟩
  · have g4 : tq_pk c n p < n := tq_ch_lt (fun e => h (by rw [e]; decide))
    rw [if_neg h]
    obtain ⟨k1, k2⟩ := tq_dn_bd (c := c) (n := n) (tq_kd (tq_ch c n (tq_pk c n p))) (tq_pk c n p + 1) (by omega)
    exact ⟨k1, fun z => by have := k2 z; omega⟩
theorem tq_end_pk {c : Nat → Int32} {n q : Nat} (hq : q ≤ n) : tq_end c n (tq_pk c n q) = tq_end c n q := by unfold tq_end; rw [tq_pk_pk hq]
theorem exF_big {k m : Nat} (h : m ≤ 300) : m < k + exF := by unfold exF; omega
theorem px_c_X9_digit {c : Nat → Int32} {n : Nat} (hT : TB c n) {p : Nat} (hp : p ≤ n) (w : Int32) : CS n w (tq_di c n p) (fx_c_X9_digit (nI n) (nI p) w c).2.1 (fx_c_X9_digit (nI n) (nI p) w c).2.2 := by
  have g5 := tq_pk_le (c := c) hp
  simp only [fx_c_X9_digit, fx_c_X9_digit_p17, exc1, exc2, exl]
  rw [px_c_X9_peek hT hp]
  simp only []
  by_cases h1 : tq_ch c n (tq_pk c n p) = -1
  · rw [if_pos h1]
    refine CS_e (CS_no g5) ?_
    unfold tq_di
    rw [if_neg (by rw [h1]; decide)]
  · rw [if_neg h1]
    by_cases h2 : tq_ch c n (tq_pk c n p) < 48
    · have k : ¬ tq_dg (tq_ch c n (tq_pk c n p)) = true := fun z => by
        have z := (Bool.and_eq_true _ _).mp z
        exact absurd (of_decide_eq_true z.1) (Int32.not_le.mpr h2)
      rw [if_pos h2]
      refine CS_e (CS_no g5) ?_
      unfold tq_di
      rw [if_neg k]
    · rw [if_neg h2]
      by_cases h3 : tq_ch c n (tq_pk c n p) ≤ 57
      · have k : tq_dg (tq_ch c n (tq_pk c n p)) = true := (Bool.and_eq_true _ _).mpr ⟨decide_eq_true (Int32.not_lt.mp h2), decide_eq_true h3⟩
        have g4 := tq_dg_lt k
        rw [if_pos h3, nI_1]
        refine CS_e (CS_ok (by omega)) ?_
        unfold tq_di
        rw [if_pos k]
      · have k : ¬ tq_dg (tq_ch c n (tq_pk c n p)) = true := fun z => by
          have z := (Bool.and_eq_true _ _).mp z
          exact h3 (of_decide_eq_true z.2)
        rw [if_neg h3]
        refine CS_e (CS_no g5) ?_
        unfold tq_di
        rw [if_neg k]
theorem px_kd : ∀ j, j < 256 → (fx_c_J0_indexOf_0f7a4_5 (((nI j).toUInt32 % 65536).toInt32) = -1 ∧ tq_kd (nI j) = 0) ∨ (¬ fx_c_J0_indexOf_0f7a4_5 (((nI j).toUInt32 % 65536).toInt32) = -1 ∧ 0 ≤ fx_c_J0_indexOf_0f7a4_5 (((nI j).toUInt32 % 65536).toInt32) ∧ ¬ tq_kd (nI j) = 0 ∧ tq_kd (nI j) ≤ 3 ∧ (([3, 2, 2, 1] : List Int32).getD (fx_c_J0_indexOf_0f7a4_5 (((nI j).toUInt32 % 65536).toInt32)).toNatClampNeg 0) = nI (tq_kd (nI j))) := by decide +kernel
theorem px_c_X6_readStep_p49 {c : Nat → Int32} {n : Nat} (hT : TB c n) (s : Int32) (D : Nat) (hD : D ≤ 3) (l4 : Int32) (h4 : (([3, 2, 2, 1] : List Int32).getD l4.toNatClampNeg 0) = nI D) : ∀ (F j p : Nat) (w : Int32) (C : Nat → Int32), p ≤ n → 1 ≤ j → j ≤ 4 → 4 < j + F → CS n w (tq_dn c n (D + 1 - j) p) (fx_c_X6_readStep_p49 s (nI n) c F (nI j) l4 (nI p) w C).1 (fx_c_X6_readStep_p49 s (nI n) c F (nI j) l4 (nI p) w C).2.1 := by
  have hn := hT.2
  intro F
  induction F with
  | zero => intro j p w C h1 h2 h3 h5; omega
  | succ F ih =>
    intro j p w C h1 h2 h3 h5
    rw [fs_c_X6_readStep_p49, if_pos rfl]
    simp only [exl, exc1, exc3, fx_c_X6_readStep_p90, fx_c_X6_readStep_p91b, fx_c_X6_readStep_p91]
    by_cases hj : j = 4
    · subst hj
      rw [if_pos (by decide)]
      have e : D + 1 - 4 = 0 := by omega
      rw [e]
      exact CS_ok h1
    · rw [if_neg (show ¬ (4 : Int32) ≤ nI j from nI_ge (a := j) (b := 4) (by omega) (by omega)), h4]
      by_cases hDj : D < j
      · have e1 : D + 1 - j = D + 1 - (j + 1) := by omega
        rw [if_pos (nI_lt hDj (by omega)), nI_1, e1]
        exact ih (j + 1) p w _ h1 (by omega) (by omega) (by omega)
      · obtain ⟨k, hk⟩ : ∃ k, D + 1 - j = k + 1 := ⟨D - j, by omega⟩
        have hk2 : D + 1 - (j + 1) = k := by omega
        rw [if_neg (nI_nlt (by omega) (by omega))]
        by_cases hw : w = -1
        · subst hw
          rw [px_isr_m1, if_neg (by decide), hk, nI_1]
          have hg := tq_di_PG (c := c) p h1
          refine CS_bind hn (px_c_X9_digit hT h1 (-1)) hg.1 (fun q hq eq hpr => ?_)
          rw [eq, ← hk2]
          exact ih (j + 1) q _ _ hq (by omega) (by omega) (by omega)
        · rw [px_isr_no hw, if_pos rfl, nI_1]
          exact CS_any hw (ih (j + 1) p w _ h1 (by omega) (by omega) (by omega))
theorem px_c_X6_readStep_c (s a w q l4 : Int32) (c C : Nat → Int32) (h : 0 ≤ l4) : fx_c_X6_readStep_p20c s a w c C l4 q = fx_c_X6_readStep_p49 s a c exF 1 l4 (fx_c_X9_skip q) w (upd C (s * 4).toNatClampNeg l4) := by
  unfold fx_c_X6_readStep_p20c
  rw [if_pos h, exc1_eq rfl, exl_eq rfl, exl_eq rfl]
theorem px_c_X6_readStep_d {c : Nat → Int32} {n : Nat} (hT : TB c n) (s : Int32) (D : Nat) (hD : D ≤ 3) (l4 : Int32) (h4 : (([3, 2, 2, 1] : List Int32).getD l4.toNatClampNeg 0) = nI D) {q : Nat} (hq : q ≤ n) (w : Int32) (C : Nat → Int32) : CS n w (tq_dn c n D q) (fx_c_X6_readStep_p49 s (nI n) c exF 1 l4 (nI q) w C).1 (fx_c_X6_readStep_p49 s (nI n) c exF 1 l4 (nI q) w C).2.1 := by
  obtain ⟨F, hF⟩ : ∃ F, exF = F := ⟨exF, rfl⟩
  have hF4 : 4 < 1 + F := by rw [← hF]; exact exF_big (by omega)
  rw [hF]
  have e1 : nI 1 = (1 : Int32) := by decide
  have hh := px_c_X6_readStep_p49 hT s D hD l4 h4 F 1 q w C hq (by omega) (by omega) hF4
  rw [e1, Nat.add_sub_cancel] at hh
  exact hh
theorem px_c_X6_readStep {c : Nat → Int32} {n : Nat} (hT : TB c n) {p : Nat} (hp : p ≤ n) (s w L : Int32) (C : Nat → Int32) : CS n w (tq_st c n p) (fx_c_X6_readStep s (nI n) (nI p) w c L C).1 (fx_c_X6_readStep s (nI n) (nI p) w c L C).2.1 := by
  have hn := hT.2
  have g5 := tq_pk_le (c := c) hp
  simp only [fx_c_X6_readStep, fx_c_X6_readStep_p20, fx_c_X6_readStep_p20b, exc1, exc2, exl]
  rw [px_c_X9_peek hT hp]
  simp only []
  by_cases h1 : tq_ch c n (tq_pk c n p) = -1
  · rw [if_pos h1]
    refine CS_e (CS_no g5) ?_
    unfold tq_st
    rw [if_pos (by rw [h1]; decide)]
  · obtain ⟨j, hj, ej⟩ := RG_nI (tq_ch_RG0 hT h1) (by decide)
    have h0 : (0 : Int32) ≤ tq_ch c n (tq_pk c n p) := by rw [Int32.le_iff_toInt_le, Int32.toInt_zero]; exact (tq_ch_RG0 hT h1).1
    have hk := px_kd j hj
    rw [← ej] at hk
    rw [if_neg h1, if_pos h0]
    rcases hk with ⟨i1, i2⟩ | ⟨i1, i2, i3, i4, i5⟩
    · rw [if_pos i1]
      refine CS_e (CS_no g5) ?_
      unfold tq_st
      rw [if_pos i2]
    · have g4 := tq_ch_lt h1
      rw [if_neg i1, px_c_X6_readStep_c s _ w _ _ c C i2, px_skip]
      refine CS_e (px_c_X6_readStep_d hT s _ i4 _ i5 (q := tq_pk c n p + 1) (by omega) w _) ?_
      unfold tq_st
      rw [if_neg i3]
theorem px_c_X6_faultOf_p47 {c : Nat → Int32} {n : Nat} (hT : TB c n) {q : Nat} (hq : q ≤ n) (w L : Int32) (C : Nat → Int32) : CR w (tq_end c n q) (fx_c_X6_faultOf_p47 (nI n) c L (nI q) w C).1 := px_c_X9_expectEnd hT hq w
theorem px_c_X6_faultOf_p11 {c : Nat → Int32} {n : Nat} (hT : TB c n) : ∀ (F i p : Nat) (w L : Int32) (C : Nat → Int32), p ≤ n → i ≤ 15 → 15 < i + F → CR w (tq_pl c n (16 - i) p) (fx_c_X6_faultOf_p11 (nI n) c F (nI i) L (nI p) w C).1 := by
  have hn := hT.2
  intro F
  induction F with
  | zero => intro i p w L C h1 h2 h3; omega
  | succ F ih =>
    intro i p w L C h1 h2 h3
    obtain ⟨k, hk⟩ : ∃ k, 16 - i = k + 1 := ⟨15 - i, by omega⟩
    rw [fs_c_X6_faultOf_p11, if_pos rfl, if_neg (show ¬ (16 : Int32) ≤ nI i from nI_ge (a := i) (b := 16) (by omega) (by omega)), hk]
    simp only [exc2, exc4, exl]
    have hg := tq_st_PG (c := c) p h1
    show CR w (tq_bind (tq_st c n p) _) _
    refine CR_bind hn (px_c_X6_readStep hT h1 (nI i) w L C) hg.1 (fun q hq eq hpr => ?_)
    rw [eq]
    have g5 := tq_pk_le (c := c) hq
    by_cases hi : i = 15
    · subst hi
      have hk0 : k = 0 := by omega
      rw [if_pos hk0, if_pos (show nI 15 = 15 by decide)]
      exact px_c_X6_faultOf_p47 hT hq _ _ _
    · have hk0 : ¬ k = 0 := by omega
      have hi2 : ¬ nI i = 15 := fun z => hi ((nI_eq (a := i) (b := 15) (by omega) (by omega)).mp z)
      rw [if_neg hi2, if_neg hk0, px_c_X9_take hT hq (by decide)]
      by_cases hw : (fx_c_X6_readStep (nI i) (nI n) (nI p) w c L C).2.1 = -1
      · rw [hw, if_pos rfl]
        by_cases h5 : tq_ch c n (tq_pk c n q) = 59
        · have g4 := tq_ch_ne h5 (by decide)
          rw [if_pos h5, if_pos h5, if_neg (show ¬ (1 : Int32) = 0 by decide), nI_1]
          have e : k = 16 - (i + 1) := by omega
          rw [e]
          exact ih (i + 1) (tq_pk c n q + 1) (-1) _ _ (by omega) (by omega) (by omega)
        · rw [if_neg h5, if_neg h5, if_pos rfl, ← tq_end_pk hq]
          exact px_c_X6_faultOf_p47 hT g5 _ _ _
      · rw [if_neg hw, if_pos rfl]
        exact CR_any hw (px_c_X6_faultOf_p47 hT hq _ _ _)
theorem px_c_X6_faultOf {c : Nat → Int32} {n : Nat} (hT : TB c n) (C : Nat → Int32) : (fx_c_X6_faultOf (nI n) c C).1 = tq_fin (tq_pl c n 16 0) := (px_c_X6_faultOf_p11 hT exF 0 0 (-1) 0 C (by omega) (by omega) (exF_big (by omega))).1 rfl
theorem rx_c_X12_digit {c g : Nat → Int32} {n : Nat} (hT : TB c n) (hG : TG c g n) {p : Nat} (hp : p ≤ n) : CS n (-1) (tq_di c n p) (fx_c_X12_digit 0 (nI n) (nI p) g).2.1 (fx_c_X12_digit 0 (nI n) (nI p) g).2.2 := by
  have hn := hT.2
  have g5 := tq_pk_le (c := c) hp
  simp only [fx_c_X12_digit, exc1, exc2, exl]
  rw [rx_c_X12_look hT hG hp]
  simp only []
  rw [rx_c_X12_isDigit hT hG g5]
  cases hb : tq_dg (tq_ch c n (tq_pk c n p)) with
  | false =>
    have es : tq_di c n p = (false, tq_pk c n p) := by unfold tq_di; rw [if_neg (by rw [hb]; decide)]
    rw [px_i0, if_pos rfl, es]
    by_cases h1 : tq_ch c n (tq_pk c n p) = -1
    · rw [if_pos h1]
      exact CS_f g5
    · rw [if_neg h1]
      exact CS_f g5
  | true =>
    have g4 := tq_dg_lt hb
    have es : tq_di c n p = (true, tq_pk c n p + 1) := by unfold tq_di; rw [if_pos hb]
    have h1 : ¬ tq_ch c n (tq_pk c n p) = -1 := fun e => by
      rw [e] at hb
      exact absurd hb (by decide)
    rw [px_i1, if_neg (show ¬ (1 : Int32) = 0 by decide), if_neg h1, es, nI_1]
    exact CS_t (by omega)
theorem rx_kd : ∀ j, j < 256 → fx_c_X12_spotOf_7 (nI j) = if nI j = 103 then 0 else if nI j = 115 then 1 else if nI j = 99 then 2 else if nI j = 104 then 3 else -1 := by decide +kernel
theorem rx_c_X12_readStep_7_p94 {c g : Nat → Int32} {n : Nat} (hT : TB c n) (hG : TG c g n) {p : Nat} (hp : p ≤ n) (s : Int32) (C : Nat → Int32) : (∀ l : Int32, ¬ l = 0 → CS n (-1) (tq_dn c n 0 p) (fx_c_X12_readStep_7_p94 s 0 (nI n) g l (nI p) C).1 (fx_c_X12_readStep_7_p94 s 0 (nI n) g l (nI p) C).2.1) ∧ CS n (-1) (tq_dn c n 1 p) (fx_c_X12_readStep_7_p94 s 0 (nI n) g 0 (nI p) C).1 (fx_c_X12_readStep_7_p94 s 0 (nI n) g 0 (nI p) C).2.1 := by
  have hn := hT.2
  refine ⟨fun l hl => ?_, ?_⟩
  · simp only [fx_c_X12_readStep_7_p94]
    rw [if_neg hl]
    exact CS_t hp
  · simp only [fx_c_X12_readStep_7_p94, exl, exc3]
    rw [if_pos trivial]
    show CS n (-1) (tq_bind (tq_di c n p) (tq_dn c n 0)) _ _
    refine CS_seq hn (rx_c_X12_digit hT hG hp) (tq_di_PG p hp).1 (fun q hq eq1 eq2 _ _ => ?_) (fun z => ?_)
    · rw [if_pos eq2, eq1]
      exact CS_t hq
    · rw [if_neg z]
      exact ⟨rfl, rfl⟩
theorem rx_c_X12_readStep_7 {c g : Nat → Int32} {n : Nat} (hT : TB c n) (hG : TG c g n) {p : Nat} (hp : p ≤ n) (s : Int32) (C : Nat → Int32) : CS n (-1) (tq_st c n p) (fx_c_X12_readStep_7 s 0 (nI n) (nI p) g C).1 (fx_c_X12_readStep_7 s 0 (nI n) (nI p) g C).2.1 := by
  have hn := hT.2
  have g5 := tq_pk_le (c := c) hp
  simp only [fx_c_X12_readStep_7, fx_c_X12_readStep_7_p94b, exc1, exc2, exc3, exl]
  rw [rx_c_X12_look hT hG hp]
  simp only []
  by_cases h1 : tq_ch c n (tq_pk c n p) = -1
  · have es : tq_st c n p = (false, tq_pk c n p) := by unfold tq_st; rw [if_pos (by rw [h1]; decide)]
    rw [if_pos h1, es]
    exact CS_f g5
  · obtain ⟨j, hj, ej⟩ := RG_nI (tq_ch_RG0 hT h1) (by decide)
    have hk := rx_kd j hj
    rw [← ej] at hk
    have g4 := tq_ch_lt h1
    rw [if_neg h1, hk]
    by_cases c0 : tq_ch c n (tq_pk c n p) = 103
    · have es : tq_st c n p = tq_bind (tq_di c n (tq_pk c n p + 1)) (tq_dn c n 2) := by unfold tq_st; rw [c0]; rfl
      rw [if_pos c0, if_neg (by decide), if_neg (by decide), if_neg (by decide), if_neg (by decide), es, nI_1]
      refine CS_seq hn (rx_c_X12_digit hT hG (p := tq_pk c n p + 1) (by omega)) (tq_di_PG _ (by omega)).1 (fun q hq eq1 eq2 _ _ => ?_) (fun z => ?_)
      · rw [if_pos eq2, eq1]
        show CS n (-1) (tq_bind (tq_di c n q) (tq_dn c n 1)) _ _
        refine CS_seq hn (rx_c_X12_digit hT hG hq) (tq_di_PG _ hq).1 (fun r hr eq3 eq4 _ _ => ?_) (fun z => ?_)
        · rw [if_pos eq4, eq3]
          exact (rx_c_X12_readStep_7_p94 hT hG hr s _).2
        · rw [if_neg z, if_neg z]
          exact ⟨rfl, rfl⟩
      · rw [if_neg z, if_neg z, if_neg z]
        exact ⟨rfl, rfl⟩
    · rw [if_neg c0]
      by_cases c1 : tq_ch c n (tq_pk c n p) = 115
      · have es : tq_st c n p = tq_bind (tq_di c n (tq_pk c n p + 1)) (tq_dn c n 1) := by unfold tq_st; rw [c1]; rfl
        rw [if_pos c1, if_neg (by decide), if_neg (by decide), if_neg (by decide), if_pos rfl, es, nI_1]
        refine CS_seq hn (rx_c_X12_digit hT hG (p := tq_pk c n p + 1) (by omega)) (tq_di_PG _ (by omega)).1 (fun q hq eq1 eq2 _ _ => ?_) (fun z => ?_)
        · rw [if_pos eq2, eq1]
          show CS n (-1) (tq_bind (tq_di c n q) (tq_dn c n 0)) _ _
          refine CS_seq hn (rx_c_X12_digit hT hG hq) (tq_di_PG _ hq).1 (fun r hr eq3 eq4 _ _ => ?_) (fun z => ?_)
          · rw [if_pos eq4, eq3]
            exact (rx_c_X12_readStep_7_p94 hT hG hr s _).1 1 (by decide)
          · rw [if_neg z, if_neg z]
            exact ⟨rfl, rfl⟩
        · rw [if_neg z, if_neg z, if_neg z]
          exact ⟨rfl, rfl⟩
      · rw [if_neg c1]
        by_cases c2 : tq_ch c n (tq_pk c n p) = 99
        · have es : tq_st c n p = tq_bind (tq_di c n (tq_pk c n p + 1)) (tq_dn c n 1) := by unfold tq_st; rw [c2]; rfl
          rw [if_pos c2, if_neg (by decide), if_neg (by decide), if_pos rfl, es, nI_1]
          refine CS_seq hn (rx_c_X12_digit hT hG (p := tq_pk c n p + 1) (by omega)) (tq_di_PG _ (by omega)).1 (fun q hq eq1 eq2 _ _ => ?_) (fun z => ?_)
          · rw [if_pos eq2, eq1]
            show CS n (-1) (tq_bind (tq_di c n q) (tq_dn c n 0)) _ _
            refine CS_seq hn (rx_c_X12_digit hT hG hq) (tq_di_PG _ hq).1 (fun r hr eq3 eq4 _ _ => ?_) (fun z => ?_)
            · rw [if_pos eq4, eq3]
              exact (rx_c_X12_readStep_7_p94 hT hG hr s _).1 2 (by decide)
            · rw [if_neg z, if_neg z]
              exact ⟨rfl, rfl⟩
          · rw [if_neg z, if_neg z, if_neg z]
            exact ⟨rfl, rfl⟩
        · rw [if_neg c2]
          by_cases c3 : tq_ch c n (tq_pk c n p) = 104
          · have es : tq_st c n p = tq_bind (tq_di c n (tq_pk c n p + 1)) (tq_dn c n 0) := by unfold tq_st; rw [c3]; rfl
            rw [if_pos c3, if_neg (by decide), if_pos rfl, es, nI_1]
            refine CS_seq hn (rx_c_X12_digit hT hG (p := tq_pk c n p + 1) (by omega)) (tq_di_PG _ (by omega)).1 (fun q hq eq1 eq2 _ _ => ?_) (fun z => ?_)
            · rw [if_pos eq2, eq1]
              exact (rx_c_X12_readStep_7_p94 hT hG hq s _).1 3 (by decide)
            · rw [if_neg z, if_neg z, if_neg z]
              exact ⟨rfl, rfl⟩
          · have es : tq_st c n p = (false, tq_pk c n p) := by
              have hk0 : tq_kd (tq_ch c n (tq_pk c n p)) = 0 := by unfold tq_kd; rw [if_neg c0, if_neg c1, if_neg c2, if_neg c3]
              unfold tq_st
              rw [if_pos hk0]
            rw [if_neg c3, if_pos rfl, es]
            exact CS_f g5
theorem rx_c_X12_readPlan_p17 {c g : Nat → Int32} {n : Nat} (hT : TB c n) (hG : TG c g n) (P : Nat → Int32) : ∀ (F i p : Nat) (C : Nat → Int32), p ≤ n → i ≤ 15 → 15 < i + F → (fx_c_X12_readPlan_p17 (nI n) g P F (nI i) (nI p) C).2.1 = tq_fin (tq_pl c n (16 - i) p) := by
  have hn := hT.2
  intro F
  induction F with
  | zero => intro i p C h1 h2 h3; omega
  | succ F ih =>
    intro i p C h1 h2 h3
    obtain ⟨k, hk⟩ : ∃ k, 16 - i = k + 1 := ⟨15 - i, by omega⟩
    rw [fs_c_X12_readPlan_p17, if_pos rfl, hk]
    simp only [exc1, exc2, exc3, exl, fx_c_X12_readPlan_p57, fx_c_X12_readPlan_p57b, fx_c_X12_readPlan_p74, fx_c_X12_readPlan_p74b, fx_c_X12_readPlan_p17b]
    have hg := tq_st_PG (c := c) p h1
    have hs := rx_c_X12_readStep_7 hT hG h1 (4 * (64 + nI i)) C
    have hb := fin_bind (f := fun q => if k = 0 then tq_end c n q else if tq_ch c n (tq_pk c n q) = 59 then tq_pl c n k (tq_pk c n q + 1) else tq_end c n q) hn hs hg.1
    show _ = tq_fin (tq_bind (tq_st c n p) _)
    by_cases h5 : (fx_c_X12_readStep_7 (4 * (64 + nI i)) 0 (nI n) (nI p) g C).2.1 = -1
    · obtain ⟨k1, k2, k3⟩ := hb.1 h5
      have hq := hg.1
      obtain ⟨q, eq⟩ : ∃ q, q = (tq_st c n p).2 := ⟨_, rfl⟩
      rw [← eq] at k2 k3 hq
      have g5 := tq_pk_le (c := c) hq
      have hpp := tq_pk_pk (c := c) hq
      have hend : (if tq_ch c n (tq_pk c n q) = -1 then (nI (tq_pk c n q), (-1 : Int32)) else (nI (tq_pk c n q), nI (tq_pk c n q))).2 = tq_fin (tq_end c n q) := by
        unfold tq_end
        by_cases h6 : tq_ch c n (tq_pk c n q) = -1
        · rw [if_pos h6, if_pos h6]
          rfl
        · rw [if_neg h6, if_neg h6]
          rfl
      rw [if_pos h5, k2, k3, rx_c_X12_look hT hG hq]
      simp only []
      rw [rx_c_X12_look hT hG g5, hpp]
      simp only []
      by_cases h6 : tq_ch c n (tq_pk c n q) = -1
      · have e : (if k = 0 then tq_end c n q else if tq_ch c n (tq_pk c n q) = 59 then tq_pl c n k (tq_pk c n q + 1) else tq_end c n q) = tq_end c n q := by
          by_cases hk0 : k = 0
          · rw [if_pos hk0]
          · rw [if_neg hk0, if_neg (by rw [h6]; decide)]
        rw [if_pos h6, if_pos h6, e]
        unfold tq_end
        rw [if_pos h6]
        rfl
      · rw [if_neg h6]
        by_cases h7 : tq_ch c n (tq_pk c n q) = 59
        · have g4 := tq_ch_ne h7 (by decide)
          rw [if_pos h7, nI_1]
          by_cases hi : i = 15
          · have hk0 : k = 0 := by omega
            subst hi
            rw [if_pos (by decide), if_pos hk0]
            unfold tq_end
            rw [if_neg h6]
            rfl
          · have hk0 : ¬ k = 0 := by omega
            have hi2 : ¬ nI (i + 1) = 16 := fun z => hi (by have := (nI_eq (a := i + 1) (b := 16) (by omega) (by omega)).mp z; omega)
            have e : k = 16 - (i + 1) := by omega
            rw [if_neg hi2, if_neg hk0, if_pos h7, nI_1, e]
            exact ih (i + 1) (tq_pk c n q + 1) _ (by omega) (by omega) (by omega)
        · have e : (if k = 0 then tq_end c n q else if tq_ch c n (tq_pk c n q) = 59 then tq_pl c n k (tq_pk c n q + 1) else tq_end c n q) = tq_end c n q := by
            by_cases hk0 : k = 0
            · rw [if_pos hk0]
            · rw [if_neg hk0, if_neg h7]
          rw [if_neg h7, if_neg h6, if_neg h6, e]
          unfold tq_end
          rw [if_neg h6]
          rfl
    · rw [if_neg h5, if_neg h5]
      exact (hb.2 h5).symm
theorem rx_c_X12_readPlan {c g : Nat → Int32} {n : Nat} (hT : TB c n) (hG : TG c g n) (C P : Nat → Int32) : (fx_c_X12_readPlan (nI n) g C P).2.1 = tq_fin (tq_pl c n 16 0) := rx_c_X12_readPlan_p17 hT hG P exF 0 0 C (by omega) (by omega) (exF_big (by omega))
/-- the two readers answer alike of a PLAN -/
theorem px_plan_alike {c g : Nat → Int32} {n : Nat} (hT : TB c n) (hG : TG c g n) (C D P : Nat → Int32) : (fx_c_X6_faultOf (nI n) c C).1 = (fx_c_X12_readPlan (nI n) g D P).2.1 := by rw [px_c_X6_faultOf hT C, rx_c_X12_readPlan hT hG D P]
