/-- the law's relation: both tapes alike -/
def TRL (c g : Nat → Int32) (l l2 : Int32) : Prop := l = l2 ∧ ∃ n, l = nI n ∧ TR c g n
theorem TRL_0 : TRL (fun _ => 0) (fun _ => 0) 0 0 := ⟨rfl, 0, nI_0.symm, fun _ => show RG (0 : Int32) 0 255 from ⟨by decide, by decide⟩, by omega, fun i hi => absurd hi (Nat.not_lt_zero _)⟩
theorem rl_sc {s : Int32} (h : RG s 0 4) : s = 0 ∨ s = 1 ∨ s = 2 ∨ s = 3 ∨ s = 4 := by
  obtain ⟨j, hj, e⟩ := nI_of (x := s) (fun q => by have := Int32.lt_iff_toInt_lt.mp q; rw [Int32.toInt_zero] at this; have := h.1; omega)
  have h2 := h.2
  rw [e, nI_toInt hj] at h2
  have h5 : j = 0 ∨ j = 1 ∨ j = 2 ∨ j = 3 ∨ j = 4 := by omega
  rw [e]
  rcases h5 with z | z | z | z | z <;> subst z
  · exact Or.inl rfl
  · exact Or.inr (Or.inl rfl)
  · exact Or.inr (Or.inr (Or.inl rfl))
  · exact Or.inr (Or.inr (Or.inr (Or.inl rfl)))
  · exact Or.inr (Or.inr (Or.inr (Or.inr rfl)))
theorem rl_feed {v1 v2 v3 v4 v5 : Int32} {ah0_0_f1 bh0_f6 r1 l1 r2 l2 : Int32} {ah0_0_0c bh0_1c c1 g2 : Nat → Int32} (h : TRL ah0_0_0c bh0_1c ah0_0_f1 bh0_f6) (e1 : (r1, l1, c1) = fx_c_X11_feed v1 v2 v3 v4 v5 ah0_0_f1 ah0_0_0c) (e2 : (r2, l2, g2) = fx_c_X12_feed v1 v2 v3 v4 v5 bh0_f6 bh0_1c) : r1 = r2 ∧ TRL c1 g2 l1 l2 := by
  obtain ⟨rfl, n, rfl, hr⟩ := h
  obtain ⟨m, c2, g3, r, k1, k2, k3⟩ := px_feed v1 v2 v3 v4 v5 hr
  rw [k1] at e1
  rw [k2] at e2
  cases e1
  cases e2
  exact ⟨rfl, rfl, m, rfl, k3⟩
theorem rl_end {v1 : Int32} {ah0_0_f1 bh0_f6 r1 l1 r2 l2 : Int32} {c g : Nat → Int32} (h : TRL c g ah0_0_f1 bh0_f6) (e1 : (r1, l1) = fx_c_X11_end v1 ah0_0_f1) (e2 : (r2, l2) = fx_c_X12_end v1 bh0_f6) : r1 = r2 ∧ TRL c g l1 l2 := by
  obtain ⟨rfl, n, rfl, hr⟩ := h
  obtain ⟨m, r, k1, k2, k3⟩ := px_end v1 hr
  rw [k1] at e1
  rw [k2] at e2
  cases e1
  cases e2
  exact ⟨rfl, rfl, m, rfl, k3⟩
theorem fs_c_X12_text_p274 (h0_f7 : Int32) (h0_f30 : Int32) (F : Nat) (j274_l3 : Int32) (j274_h0_f26 : Int32) (j274_h0_22c : (Nat → Int32)) (j274_h0_23c : (Nat → Int32)) : fx_c_X12_text_p274 h0_f7 h0_f30 (F + 1) j274_l3 j274_h0_f26 j274_h0_22c j274_h0_23c = ((if j274_l3 = j274_l3 then (if 12 ≤ j274_l3 then (j274_h0_f26, 0, h0_f7, h0_f30) else (exl (j274_h0_23c (j274_l3 : Int32).toNatClampNeg) fun (x_11 : Int32) => (exl (upd j274_h0_22c (j274_l3 : Int32).toNatClampNeg x_11) fun (w_13 : Nat → Int32) => (exl (j274_l3 + 1) fun (x_17 : Int32) => ((fx_c_X12_text_p274 h0_f7 h0_f30 F) x_17 j274_h0_f26 w_13 j274_h0_23c))))) else default) : Int32 × Int32 × Int32 × Int32) := rfl
theorem fs_c_X12_text_p248 (h0_f7 : Int32) (h0_f30 : Int32) (h0_22c : Nat → Int32) (F : Nat) (j248_l3 : Int32) (j248_h0_f26 : Int32) (j248_h0_23c : (Nat → Int32)) (j248_h0_21c : (Nat → Int32)) (j248_h0_20c : (Nat → Int32)) : fx_c_X12_text_p248 h0_f7 h0_f30 h0_22c (F + 1) j248_l3 j248_h0_f26 j248_h0_23c j248_h0_21c j248_h0_20c = ((if j248_l3 = j248_l3 then (if 64 ≤ j248_l3 then (fx_c_X12_text_p274 h0_f7 h0_f30 exF 0 j248_h0_f26 h0_22c j248_h0_23c) else (exl (j248_h0_21c (j248_l3 : Int32).toNatClampNeg) fun (x_23 : Int32) => (exl (upd j248_h0_20c (j248_l3 : Int32).toNatClampNeg x_23) fun (w_25 : Nat → Int32) => (exl (j248_l3 + 1) fun (x_28 : Int32) => ((fx_c_X12_text_p248 h0_f7 h0_f30 h0_22c F) x_28 j248_h0_f26 j248_h0_23c j248_h0_21c w_25))))) else default) : Int32 × Int32 × Int32 × Int32) := rfl
theorem fs_c_X12_text_p223b (h0_f7 : Int32) (h0_f30 : Int32) (h0_22c : Nat → Int32) (h0_20c : Nat → Int32) (F : Nat) (j223b_l3 : Int32) (j223b_h0_f26 : Int32) (j223b_h0_18c : (Nat → Int32)) (j223b_h0_19c : (Nat → Int32)) (j223b_h0_23c : (Nat → Int32)) (j223b_h0_21c : (Nat → Int32)) : fx_c_X12_text_p223b h0_f7 h0_f30 h0_22c h0_20c (F + 1) j223b_l3 j223b_h0_f26 j223b_h0_18c j223b_h0_19c j223b_h0_23c j223b_h0_21c = ((if j223b_l3 = j223b_l3 then (if 4 ≤ j223b_l3 then (fx_c_X12_text_p248 h0_f7 h0_f30 h0_22c exF 0 j223b_h0_f26 j223b_h0_23c j223b_h0_21c h0_20c) else (exl (j223b_h0_19c (j223b_l3 : Int32).toNatClampNeg) fun (x_35 : Int32) => (exl (upd j223b_h0_18c (j223b_l3 : Int32).toNatClampNeg x_35) fun (w_37 : Nat → Int32) => (exl (j223b_l3 + 1) fun (x_41 : Int32) => ((fx_c_X12_text_p223b h0_f7 h0_f30 h0_22c h0_20c F) x_41 j223b_h0_f26 w_37 j223b_h0_19c j223b_h0_23c j223b_h0_21c))))) else default) : Int32 × Int32 × Int32 × Int32) := rfl
theorem fs_c_X12_text_p71b (h0_f6 : Int32) (h0_f7 : Int32) (h0_f30 : Int32) (h0_1c : Nat → Int32) (h0_3c : Nat → Int32) (F : Nat) (j71b_l3 : Int32) (j71b_h0_2c : (Nat → Int32)) : fx_c_X12_text_p71b h0_f6 h0_f7 h0_f30 h0_1c h0_3c (F + 1) j71b_l3 j71b_h0_2c = ((if j71b_l3 = j71b_l3 then (if h0_f6 ≤ j71b_l3 then (exl (upd h0_3c (h0_f7 : Int32).toNatClampNeg h0_f6) fun (w_88 : Nat → Int32) => (exl (h0_f7 + 1) fun (x_91 : Int32) => (exl (x_91 - 1) fun (x_93 : Int32) => (x_93, 0, x_91, h0_f30)))) else (exl (240 * h0_f7) fun (x_98 : Int32) => (exl (x_98 + j71b_l3) fun (x_100 : Int32) => (exl (h0_1c (j71b_l3 : Int32).toNatClampNeg) fun (x_102 : Int32) => (exl (upd j71b_h0_2c (x_100 : Int32).toNatClampNeg (vp_nar .byte x_102)) fun (w_103 : Nat → Int32) => (exl (j71b_l3 + 1) fun (x_104 : Int32) => ((fx_c_X12_text_p71b h0_f6 h0_f7 h0_f30 h0_1c h0_3c F) x_104 w_103))))))) else default) : Int32 × Int32 × Int32 × Int32) := rfl
theorem fs_c_X12_text_p137b (h0_f7 : Int32) (h0_f30 : Int32) (F : Nat) (j137b_l3 : Int32) (j137b_h0_24c : (Nat → Int32)) (j137b_h0_25c : (Nat → Int32)) : fx_c_X12_text_p137b h0_f7 h0_f30 (F + 1) j137b_l3 j137b_h0_24c j137b_h0_25c = ((if j137b_l3 = j137b_l3 then (if 64 ≤ j137b_l3 then (exl (j137b_h0_25c (4 : Int32).toNatClampNeg) fun (x_140 : Int32) => (exl (upd j137b_h0_25c (h0_f30 : Int32).toNatClampNeg x_140) fun (w_142 : Nat → Int32) => (exl (h0_f30 + 1) fun (x_145 : Int32) => (exl (x_145 - 1) fun (x_147 : Int32) => (x_147, 0, h0_f7, x_145))))) else (exl (64 * h0_f30) fun (x_151 : Int32) => (exl (x_151 + j137b_l3) fun (x_153 : Int32) => (exl (256 + j137b_l3) fun (x_155 : Int32) => (exl (j137b_h0_24c (x_155 : Int32).toNatClampNeg) fun (x_157 : Int32) => (exl (upd j137b_h0_24c (x_153 : Int32).toNatClampNeg x_157) fun (w_159 : Nat → Int32) => (exl (j137b_l3 + 1) fun (x_162 : Int32) => ((fx_c_X12_text_p137b h0_f7 h0_f30 F) x_162 w_159 j137b_h0_25c)))))))) else default) : Int32 × Int32 × Int32 × Int32) := rfl
theorem ze4 {α β γ δ ρ : Type} (q : α × β × γ × δ) (f : α → β → γ → δ → ρ) : exc4 q f = f q.1 q.2.1 q.2.2.1 q.2.2.2 := exc4_eq (a := q.1) (b := q.2.1) (c := q.2.2.1) (d := q.2.2.2) rfl
theorem ze5 {α β γ δ ε ρ : Type} (q : α × β × γ × δ × ε) (f : α → β → γ → δ → ε → ρ) : exc5 q f = f q.1 q.2.1 q.2.2.1 q.2.2.2.1 q.2.2.2.2 := exc5_eq (a := q.1) (b := q.2.1) (c := q.2.2.1) (d := q.2.2.2.1) (e := q.2.2.2.2) rfl
theorem ze6 {α β γ δ ε ζ ρ : Type} (q : α × β × γ × δ × ε × ζ) (f : α → β → γ → δ → ε → ζ → ρ) : exc6 q f = f q.1 q.2.1 q.2.2.1 q.2.2.2.1 q.2.2.2.2.1 q.2.2.2.2.2 := exc6_eq (a := q.1) (b := q.2.1) (c := q.2.2.1) (d := q.2.2.2.1) (e := q.2.2.2.2.1) (z := q.2.2.2.2.2) rfl
theorem ze7 {α β γ δ ε ζ η ρ : Type} (q : α × β × γ × δ × ε × ζ × η) (f : α → β → γ → δ → ε → ζ → η → ρ) : exc7 q f = f q.1 q.2.1 q.2.2.1 q.2.2.2.1 q.2.2.2.2.1 q.2.2.2.2.2.1 q.2.2.2.2.2.2 := exc7_eq (a := q.1) (b := q.2.1) (c := q.2.2.1) (d := q.2.2.2.1) (e := q.2.2.2.2.1) (z := q.2.2.2.2.2.1) (y := q.2.2.2.2.2.2) rfl
theorem ze8 {α β γ δ ε ζ η θ ρ : Type} (q : α × β × γ × δ × ε × ζ × η × θ) (f : α → β → γ → δ → ε → ζ → η → θ → ρ) : exc8 q f = f q.1 q.2.1 q.2.2.1 q.2.2.2.1 q.2.2.2.2.1 q.2.2.2.2.2.1 q.2.2.2.2.2.2.1 q.2.2.2.2.2.2.2 := exc8_eq (a := q.1) (b := q.2.1) (c := q.2.2.1) (d := q.2.2.2.1) (e := q.2.2.2.2.1) (z := q.2.2.2.2.2.1) (y := q.2.2.2.2.2.2.1) (w := q.2.2.2.2.2.2.2) rfl
theorem rl_274 (a b x : Int32) : ∀ (F i : Nat) (v w : Nat → Int32), i ≤ 12 → 12 < i + F → fx_c_X12_text_p274 a b F (nI i) x v w = (x, 0, a, b) := by
  intro F
  induction F with
  | zero => intro i v w h1 h2; omega
  | succ F ih =>
    intro i v w h1 h2
    rw [fs_c_X12_text_p274, if_pos rfl]
    by_cases hi : i = 12
    · subst hi
      rw [if_pos (show (12 : Int32) ≤ nI 12 by decide)]
    · rw [if_neg (show ¬ (12 : Int32) ≤ nI i from nI_ge (a := i) (b := 12) (by omega) (by omega))]
      simp only [exl]
      rw [nI_1, ih (i + 1) _ _ (by omega) (by omega)]
theorem rl_274_0 (a b x : Int32) (v w : Nat → Int32) : fx_c_X12_text_p274 a b exF 0 x v w = (x, 0, a, b) := by
  have h := rl_274 a b x exF 0 v w (by omega) (by unfold exF; omega)
  rw [nI_0] at h
  exact h
theorem rl_248 (a b x : Int32) (u : Nat → Int32) : ∀ (F i : Nat) (v w z : Nat → Int32), i ≤ 64 → 64 < i + F → fx_c_X12_text_p248 a b u F (nI i) x v w z = (x, 0, a, b) := by
  intro F
  induction F with
  | zero => intro i v w z h1 h2; omega
  | succ F ih =>
    intro i v w z h1 h2
    rw [fs_c_X12_text_p248, if_pos rfl]
    by_cases hi : i = 64
    · subst hi
      rw [if_pos (show (64 : Int32) ≤ nI 64 by decide), rl_274_0]
    · rw [if_neg (show ¬ (64 : Int32) ≤ nI i from nI_ge (a := i) (b := 64) (by omega) (by omega))]
      simp only [exl]
      rw [nI_1, ih (i + 1) _ _ _ (by omega) (by omega)]
theorem rl_248_0 (a b x : Int32) (u v w z : Nat → Int32) : fx_c_X12_text_p248 a b u exF 0 x v w z = (x, 0, a, b) := by
  have h := rl_248 a b x u exF 0 v w z (by omega) (by unfold exF; omega)
  rw [nI_0] at h
  exact h
theorem rl_223 (a b x : Int32) (u t : Nat → Int32) : ∀ (F i : Nat) (v w z y : Nat → Int32), i ≤ 4 → 4 < i + F → fx_c_X12_text_p223b a b u t F (nI i) x v w z y = (x, 0, a, b) := by
  intro F
  induction F with
  | zero => intro i v w z y h1 h2; omega
  | succ F ih =>
    intro i v w z y h1 h2
    rw [fs_c_X12_text_p223b, if_pos rfl]
    by_cases hi : i = 4
    · subst hi
      rw [if_pos (show (4 : Int32) ≤ nI 4 by decide), rl_248_0]
    · rw [if_neg (show ¬ (4 : Int32) ≤ nI i from nI_ge (a := i) (b := 4) (by omega) (by omega))]
      simp only [exl]
      rw [nI_1, ih (i + 1) _ _ _ _ (by omega) (by omega)]
theorem rl_223_1 (a b x : Int32) (u t v w z y : Nat → Int32) : fx_c_X12_text_p223b a b u t exF 1 x v w z y = (x, 0, a, b) := by
  have h := rl_223 a b x u t exF 1 v w z y (by omega) (by unfold exF; omega)
  rw [show nI 1 = (1 : Int32) from rfl] at h
  exact h
theorem rl_71 (n : Nat) (hn : n ≤ 240) (a b : Int32) (u t : Nat → Int32) : ∀ (F i : Nat) (v : Nat → Int32), i ≤ n → n < i + F → fx_c_X12_text_p71b (nI n) a b u t F (nI i) v = (a + 1 - 1, 0, a + 1, b) := by
  intro F
  induction F with
  | zero => intro i v h1 h2; omega
  | succ F ih =>
    intro i v h1 h2
    rw [fs_c_X12_text_p71b, if_pos rfl]
    by_cases hi : i = n
    · subst hi
      rw [if_pos (Int32.le_refl _)]
      simp only [exl]
    · rw [if_neg (show ¬ nI n ≤ nI i from nI_ge (a := i) (b := n) (by omega) (by omega))]
      simp only [exl]
      rw [nI_1, ih (i + 1) _ (by omega) (by omega)]
theorem rl_71_1 (n : Nat) (hn : n ≤ 240) (h1 : 1 ≤ n) (a b : Int32) (u t v : Nat → Int32) : fx_c_X12_text_p71b (nI n) a b u t exF 1 v = (a + 1 - 1, 0, a + 1, b) := by
  have h := rl_71 n hn a b u t exF 1 v h1 (by unfold exF; omega)
  rw [show nI 1 = (1 : Int32) from rfl] at h
  exact h
theorem rl_137 (a b : Int32) : ∀ (F i : Nat) (v w : Nat → Int32), i ≤ 64 → 64 < i + F → fx_c_X12_text_p137b a b F (nI i) v w = (b + 1 - 1, 0, a, b + 1) := by
  intro F
  induction F with
  | zero => intro i v w h1 h2; omega
  | succ F ih =>
    intro i v w h1 h2
    rw [fs_c_X12_text_p137b, if_pos rfl]
    by_cases hi : i = 64
    · subst hi
      rw [if_pos (show (64 : Int32) ≤ nI 64 by decide)]
      simp only [exl]
    · rw [if_neg (show ¬ (64 : Int32) ≤ nI i from nI_ge (a := i) (b := 64) (by omega) (by omega))]
      simp only [exl]
      rw [nI_1, ih (i + 1) _ _ (by omega) (by omega)]
theorem rl_137_1 (a b : Int32) (v w : Nat → Int32) : fx_c_X12_text_p137b a b exF 1 v w = (b + 1 - 1, 0, a, b + 1) := by
  have h := rl_137 a b exF 1 v w (by omega) (by unfold exF; omega)
  rw [show nI 1 = (1 : Int32) from rfl] at h
  exact h
theorem rl_isin1 {v : Int32} (h : v = 0 ∨ v = 1 ∨ v = 2) : fx_c_X12_isIn v.toInt64 = 1 := by
  rcases h with z | z | z <;> subst z <;> decide +kernel
theorem rl_isin0 {v : Int32} (h0 : ¬ v = 0) (h1 : ¬ v = 1) (h2 : ¬ v = 2) : fx_c_X12_isIn v.toInt64 = 0 := by
  rw [fx_c_X12_isIn]
  by_cases a : v.toInt64 < 0
  · rw [if_pos a]
  · have b : (2 : Int64) < v.toInt64 := by
      rw [Int64.lt_iff_toInt_lt, Int32.toInt_toInt64, show (2 : Int64).toInt = 2 from by decide]
      have k0 : ¬ v.toInt = 0 := fun z => h0 (Int32.toInt_inj.mp (z.trans (by decide)))
      have k1 : ¬ v.toInt = 1 := fun z => h1 (Int32.toInt_inj.mp (z.trans (by decide)))
      have k2 : ¬ v.toInt = 2 := fun z => h2 (Int32.toInt_inj.mp (z.trans (by decide)))
      have a2 : ¬ v.toInt < 0 := fun z => a (by rw [Int64.lt_iff_toInt_lt, Int32.toInt_toInt64, show (0 : Int64).toInt = 0 from by decide]; exact z)
      omega
    rw [if_neg a, if_pos b]
theorem rl_p5 {α : Type} {p : Int32} (hp : RG p 0 4) (K d : α) : (if p = 0 then K else if p = 1 then K else if p = 2 then K else if p = 3 then K else if p = 4 then K else d) = K := by
  rcases rl_sc hp with z | z | z | z | z <;> subst z <;> rfl
theorem rl_isw {v w : Int32} (h1 : ¬ v = -1) : fx_c_X11_isWithin_1 v w = fx_c_X12_isIn_9 v.toInt64 w.toInt64 := by
  rw [fx_c_X11_isWithin_1, fx_c_X12_isIn_9]
  have k1 : v.toInt64 < 0 ↔ v < -1 := by
    rw [Int64.lt_iff_toInt_lt, Int32.toInt_toInt64, Int32.lt_iff_toInt_lt, show (0 : Int64).toInt = 0 from by decide]
    have h5 : (-1 : Int32).toInt = -1 := by decide
    have hne : ¬ v.toInt = -1 := fun z => h1 (Int32.toInt_inj.mp (z.trans h5.symm))
    rw [h5]
    omega
  have k2 : w.toInt64 < v.toInt64 ↔ w < v := by rw [Int64.lt_iff_toInt_lt, Int32.toInt_toInt64, Int32.toInt_toInt64, Int32.lt_iff_toInt_lt]
  by_cases a : v < -1
  · rw [if_pos a, if_pos (k1.mpr a)]
  · rw [if_neg a, if_neg (fun z => a (k1.mp z))]
    by_cases b : w < v
    · rw [if_pos b, if_pos (k2.mpr b)]
    · rw [if_neg b, if_neg (fun z => b (k2.mp z))]
theorem rl_law {v1 : Int32} {ah0_3_f1 bh0_f7 r1 r2 : Int32} (h : ah0_3_f1 = bh0_f7) (hs : RG ah0_3_f1 0 4) (e1 : r1 = fx_c_X11_law v1 ah0_3_f1) (e2 : r2 = fx_c_X12_law v1 bh0_f7) : r1 = r2 := by
  subst h
  rw [e1, e2]
  by_cases h1 : v1 = -1
  · subst h1
    rcases rl_sc hs with z | z | z | z | z <;> subst z <;> decide +kernel
  · rw [fx_c_X11_law, exl_eq rfl, exc1_eq rfl, fx_c_X12_law, if_neg h1, exl_eq rfl, exl_eq rfl, exl_eq rfl, exc1_eq rfl, rl_isw h1]
    rfl
theorem ra_f0 {ah0_f5 : Int32} {ah0_2_0c : Nat → Int32} {ah0_0_f1 : Int32} {ah0_0_0c : Nat → Int32} {ah0_3_f1 : Int32} {ah0_3_0_e0_0c : Nat → Int32} {ah0_3_0_e1_0c : Nat → Int32} {ah0_3_0_e2_0c : Nat → Int32} {ah0_3_0_e3_0c : Nat → Int32} {ah0_3_0_e4_0c : Nat → Int32} {ah0_4_e0_0c : Nat → Int32} {ah0_4_e1_0c : Nat → Int32} {ah0_4_e2_0c : Nat → Int32} {ah0_4_e3_0c : Nat → Int32} {ah0_4_e4_0c : Nat → Int32} : (fx_c_X11_fault 0 ah0_f5 ah0_2_0c ah0_0_f1 ah0_0_0c ah0_3_f1 ah0_3_0_e0_0c ah0_3_0_e1_0c ah0_3_0_e2_0c ah0_3_0_e3_0c ah0_3_0_e4_0c ah0_4_e0_0c ah0_4_e1_0c ah0_4_e2_0c ah0_4_e3_0c ah0_4_e4_0c) = (fx_c_X0_faultOf ah0_2_0c ah0_0_f1 ah0_0_0c).1 := by
  rw [fx_c_X11_fault, if_pos rfl, ze7]
theorem ra_f1 {ah0_f5 : Int32} {ah0_2_0c : Nat → Int32} {ah0_0_f1 : Int32} {ah0_0_0c : Nat → Int32} {ah0_3_f1 : Int32} {ah0_3_0_e0_0c : Nat → Int32} {ah0_3_0_e1_0c : Nat → Int32} {ah0_3_0_e2_0c : Nat → Int32} {ah0_3_0_e3_0c : Nat → Int32} {ah0_3_0_e4_0c : Nat → Int32} {ah0_4_e0_0c : Nat → Int32} {ah0_4_e1_0c : Nat → Int32} {ah0_4_e2_0c : Nat → Int32} {ah0_4_e3_0c : Nat → Int32} {ah0_4_e4_0c : Nat → Int32} {K : Int32} (hc : ∀ C, (fx_c_X4_faultOf ah0_0_f1 ah0_0_0c C).1 = K) : (fx_c_X11_fault 1 ah0_f5 ah0_2_0c ah0_0_f1 ah0_0_0c ah0_3_f1 ah0_3_0_e0_0c ah0_3_0_e1_0c ah0_3_0_e2_0c ah0_3_0_e3_0c ah0_3_0_e4_0c ah0_4_e0_0c ah0_4_e1_0c ah0_4_e2_0c ah0_4_e3_0c ah0_4_e4_0c) = K := by
  rw [fx_c_X11_fault, if_neg (show ¬ (1 : Int32) = 0 by decide), if_pos rfl, ze5, ze5, ze5, ze5, ze5]
  rw [hc, hc, hc, hc, hc]
  simp only [ite_self]
theorem ra_f2 {ah0_f5 : Int32} {ah0_2_0c : Nat → Int32} {ah0_0_f1 : Int32} {ah0_0_0c : Nat → Int32} {ah0_3_f1 : Int32} {ah0_3_0_e0_0c : Nat → Int32} {ah0_3_0_e1_0c : Nat → Int32} {ah0_3_0_e2_0c : Nat → Int32} {ah0_3_0_e3_0c : Nat → Int32} {ah0_3_0_e4_0c : Nat → Int32} {ah0_4_e0_0c : Nat → Int32} {ah0_4_e1_0c : Nat → Int32} {ah0_4_e2_0c : Nat → Int32} {ah0_4_e3_0c : Nat → Int32} {ah0_4_e4_0c : Nat → Int32} {K : Int32} (hp : RG ah0_f5 0 4) (hc : ∀ C, (fx_c_X6_faultOf ah0_0_f1 ah0_0_0c C).1 = K) : (fx_c_X11_fault 2 ah0_f5 ah0_2_0c ah0_0_f1 ah0_0_0c ah0_3_f1 ah0_3_0_e0_0c ah0_3_0_e1_0c ah0_3_0_e2_0c ah0_3_0_e3_0c ah0_3_0_e4_0c ah0_4_e0_0c ah0_4_e1_0c ah0_4_e2_0c ah0_4_e3_0c ah0_4_e4_0c) = K := by
  rw [fx_c_X11_fault, if_neg (show ¬ (2 : Int32) = 0 by decide), if_neg (show ¬ (2 : Int32) = 1 by decide), if_pos rfl, ze5, ze5, ze5, ze5, ze5]
  rw [hc, hc, hc, hc, hc]
  exact rl_p5 hp K _
theorem ra_f3 {v1 : Int32} {ah0_f5 : Int32} {ah0_2_0c : Nat → Int32} {ah0_0_f1 : Int32} {ah0_0_0c : Nat → Int32} {ah0_3_f1 : Int32} {ah0_3_0_e0_0c : Nat → Int32} {ah0_3_0_e1_0c : Nat → Int32} {ah0_3_0_e2_0c : Nat → Int32} {ah0_3_0_e3_0c : Nat → Int32} {ah0_3_0_e4_0c : Nat → Int32} {ah0_4_e0_0c : Nat → Int32} {ah0_4_e1_0c : Nat → Int32} {ah0_4_e2_0c : Nat → Int32} {ah0_4_e3_0c : Nat → Int32} {ah0_4_e4_0c : Nat → Int32} (h0 : ¬ v1 = 0) (h1 : ¬ v1 = 1) (h2 : ¬ v1 = 2) : (fx_c_X11_fault v1 ah0_f5 ah0_2_0c ah0_0_f1 ah0_0_0c ah0_3_f1 ah0_3_0_e0_0c ah0_3_0_e1_0c ah0_3_0_e2_0c ah0_3_0_e3_0c ah0_3_0_e4_0c ah0_4_e0_0c ah0_4_e1_0c ah0_4_e2_0c ah0_4_e3_0c ah0_4_e4_0c) = -2 := by
  rw [fx_c_X11_fault, if_neg h0, if_neg h1, if_neg h2]
theorem rb_f0 {bh0_f6 : Int32} {bh0_f11 : Int32} {bh0_f28 : Int32} {bh0_f29 : Int32} {bh0_19c : Nat → Int32} {bh0_23c : Nat → Int32} {bh0_1c : Nat → Int32} {bh0_21c : Nat → Int32} {bh0_4c : Nat → Int32} {bh0_24c : Nat → Int32} {bh0_25c : Nat → Int32} : (fx_c_X12_fault 0 bh0_f6 bh0_f11 bh0_f28 bh0_f29 bh0_19c bh0_23c bh0_1c bh0_21c bh0_4c bh0_24c bh0_25c).1 = (fx_c_X12_readBorough bh0_f6 bh0_19c bh0_23c bh0_1c bh0_21c).2.1 := by
  rw [fx_c_X12_fault, exl_eq rfl, exc1_eq (rl_isin1 (v := 0) (Or.inl rfl)).symm, if_neg (show ¬ (1 : Int32) = 0 by decide), if_pos rfl]
  generalize fx_c_X12_readBorough bh0_f6 bh0_19c bh0_23c bh0_1c bh0_21c = q
  rw [ze8]
  by_cases h : q.2.1 = -1
  · rw [if_pos h, h, fx_c_X12_fault_p28b, if_neg (show ¬ (0 : Int32) = 1 by decide), fx_c_X12_fault_p46, if_neg (show ¬ (0 : Int32) = 2 by decide), fx_c_X12_fault_p55b]
  · rw [if_neg h, fx_c_X12_fault_p28, if_neg (show ¬ (0 : Int32) = 1 by decide), fx_c_X12_fault_p46b, if_neg (show ¬ (0 : Int32) = 2 by decide), fx_c_X12_fault_p55c]
theorem rb_f1 {bh0_f6 : Int32} {bh0_f11 : Int32} {bh0_f28 : Int32} {bh0_f29 : Int32} {bh0_19c : Nat → Int32} {bh0_23c : Nat → Int32} {bh0_1c : Nat → Int32} {bh0_21c : Nat → Int32} {bh0_4c : Nat → Int32} {bh0_24c : Nat → Int32} {bh0_25c : Nat → Int32} : (fx_c_X12_fault 1 bh0_f6 bh0_f11 bh0_f28 bh0_f29 bh0_19c bh0_23c bh0_1c bh0_21c bh0_4c bh0_24c bh0_25c).1 = fx_c_X12_goThrough bh0_f6 bh0_1c bh0_4c := by
  rw [fx_c_X12_fault, exl_eq rfl, exc1_eq (rl_isin1 (v := 1) (Or.inr (Or.inl rfl))).symm, if_neg (show ¬ (1 : Int32) = 0 by decide), if_neg (show ¬ (1 : Int32) = 0 by decide), fx_c_X12_fault_p28, if_pos rfl]
  generalize fx_c_X12_goThrough bh0_f6 bh0_1c bh0_4c = q
  rw [ze1]
  by_cases h : q = -1
  · rw [if_pos h, h, fx_c_X12_fault_p46c, if_neg (show ¬ (1 : Int32) = 2 by decide), fx_c_X12_fault_p55]
  · rw [if_neg h, fx_c_X12_fault_p46b, if_neg (show ¬ (1 : Int32) = 2 by decide), fx_c_X12_fault_p55c]
theorem rb_f2 {bh0_f6 : Int32} {bh0_f11 : Int32} {bh0_f28 : Int32} {bh0_f29 : Int32} {bh0_19c : Nat → Int32} {bh0_23c : Nat → Int32} {bh0_1c : Nat → Int32} {bh0_21c : Nat → Int32} {bh0_4c : Nat → Int32} {bh0_24c : Nat → Int32} {bh0_25c : Nat → Int32} : (fx_c_X12_fault 2 bh0_f6 bh0_f11 bh0_f28 bh0_f29 bh0_19c bh0_23c bh0_1c bh0_21c bh0_4c bh0_24c bh0_25c).1 = (fx_c_X12_readPlan bh0_f6 bh0_1c bh0_24c bh0_25c).2.1 := by
  rw [fx_c_X12_fault, exl_eq rfl, exc1_eq (rl_isin1 (v := 2) (Or.inr (Or.inr rfl))).symm, if_neg (show ¬ (1 : Int32) = 0 by decide), if_neg (show ¬ (2 : Int32) = 0 by decide), fx_c_X12_fault_p28, if_neg (show ¬ (2 : Int32) = 1 by decide), fx_c_X12_fault_p46b, if_pos rfl]
  generalize fx_c_X12_readPlan bh0_f6 bh0_1c bh0_24c bh0_25c = q
  rw [ze4]
  by_cases h : q.2.1 = -1
  · rw [if_pos h, h, fx_c_X12_fault_p55b]
  · rw [if_neg h, fx_c_X12_fault_p55c]
theorem rb_f3 {v1 : Int32} {bh0_f6 : Int32} {bh0_f11 : Int32} {bh0_f28 : Int32} {bh0_f29 : Int32} {bh0_19c : Nat → Int32} {bh0_23c : Nat → Int32} {bh0_1c : Nat → Int32} {bh0_21c : Nat → Int32} {bh0_4c : Nat → Int32} {bh0_24c : Nat → Int32} {bh0_25c : Nat → Int32} (h0 : ¬ v1 = 0) (h1 : ¬ v1 = 1) (h2 : ¬ v1 = 2) : (fx_c_X12_fault v1 bh0_f6 bh0_f11 bh0_f28 bh0_f29 bh0_19c bh0_23c bh0_1c bh0_21c bh0_4c bh0_24c bh0_25c).1 = -2 := by
  rw [fx_c_X12_fault, exl_eq rfl, exc1_eq (rl_isin0 h0 h1 h2).symm, if_pos rfl]
theorem rl_fault {v1 : Int32} {ah0_f5 : Int32} {ah0_2_0c : Nat → Int32} {ah0_3_f1 : Int32} {ah0_3_0_e0_0c : Nat → Int32} {ah0_3_0_e1_0c : Nat → Int32} {ah0_3_0_e2_0c : Nat → Int32} {ah0_3_0_e3_0c : Nat → Int32} {ah0_3_0_e4_0c : Nat → Int32} {ah0_4_e0_0c : Nat → Int32} {ah0_4_e1_0c : Nat → Int32} {ah0_4_e2_0c : Nat → Int32} {ah0_4_e3_0c : Nat → Int32} {ah0_4_e4_0c : Nat → Int32} {bh0_f11 : Int32} {bh0_f28 : Int32} {bh0_f29 : Int32} {bh0_19c : Nat → Int32} {bh0_23c : Nat → Int32} {bh0_21c : Nat → Int32} {bh0_4c : Nat → Int32} {bh0_24c : Nat → Int32} {bh0_25c : Nat → Int32} {ah0_0_f1 bh0_f6 r1 r2 : Int32} {ah0_0_0c bh0_1c : Nat → Int32} {z0 : Int32} {z1 : Int32} {z2c : Nat → Int32} {z3c : Nat → Int32} {z4c : Nat → Int32} {z5c : Nat → Int32} {z6c : Nat → Int32} (h : TRL ah0_0_0c bh0_1c ah0_0_f1 bh0_f6) (hs : RG ah0_3_f1 0 4) (hp : RG ah0_f5 0 4) (e1 : r1 = fx_c_X11_fault v1 ah0_f5 ah0_2_0c ah0_0_f1 ah0_0_0c ah0_3_f1 ah0_3_0_e0_0c ah0_3_0_e1_0c ah0_3_0_e2_0c ah0_3_0_e3_0c ah0_3_0_e4_0c ah0_4_e0_0c ah0_4_e1_0c ah0_4_e2_0c ah0_4_e3_0c ah0_4_e4_0c) (e2 : (r2, z0, z1, z2c, z3c, z4c, z5c, z6c) = fx_c_X12_fault v1 bh0_f6 bh0_f11 bh0_f28 bh0_f29 bh0_19c bh0_23c bh0_1c bh0_21c bh0_4c bh0_24c bh0_25c) : r1 = r2 := by
  have e3 := congrArg Prod.fst e2
  have e4 : r2 = _ := e3
  clear e2 e3
  obtain ⟨hl, n, hn9, hr, hn, hG⟩ := h
  subst hl hn9
  have hT : TB ah0_0_0c n := ⟨hr, hn⟩
  rw [e1, e4]
  clear e1 e4
  by_cases h0 : v1 = 0
  · subst h0
    rw [ra_f0, rb_f0]
    exact (px_borough_alike hT hG ah0_2_0c bh0_19c bh0_21c bh0_23c).1
  · by_cases h1 : v1 = 1
    · subst h1
      rw [ra_f1 (fun C => px_law_alike hT hG C bh0_4c), rb_f1]
    · by_cases h2 : v1 = 2
      · subst h2
        rw [ra_f2 hp (fun C => px_plan_alike hT hG C bh0_24c bh0_25c), rb_f2]
      · rw [ra_f3 h0 h1 h2, rb_f3 h0 h1 h2]
theorem rl_bb (x : Int32) (u v : Nat → Int32) : fx_c_X11_beginBorough x u v = x := by rw [fx_c_X11_beginBorough, exc1_eq rfl]
theorem ra_t0 {ah0_f5 : Int32} {ah0_2_0c : Nat → Int32} {ah0_0_f1 : Int32} {ah0_0_0c : Nat → Int32} {ah0_1_0c : Nat → Int32} {ah0_3_f1 : Int32} {ah0_3_0_e0_0c : Nat → Int32} {ah0_3_0_e1_0c : Nat → Int32} {ah0_3_0_e2_0c : Nat → Int32} {ah0_3_0_e3_0c : Nat → Int32} {ah0_3_0_e4_0c : Nat → Int32} {ah0_4_e0_0c : Nat → Int32} {ah0_4_e1_0c : Nat → Int32} {ah0_4_e2_0c : Nat → Int32} {ah0_4_e3_0c : Nat → Int32} {ah0_4_e4_0c : Nat → Int32} : (fx_c_X11_text 0 ah0_f5 ah0_2_0c ah0_0_f1 ah0_0_0c ah0_1_0c ah0_3_f1 ah0_3_0_e0_0c ah0_3_0_e1_0c ah0_3_0_e2_0c ah0_3_0_e3_0c ah0_3_0_e4_0c ah0_4_e0_0c ah0_4_e1_0c ah0_4_e2_0c ah0_4_e3_0c ah0_4_e4_0c) = if (fx_c_X0_faultOf ah0_2_0c ah0_0_f1 ah0_0_0c).1 = -1 then ((fx_c_X0_faultOf ah0_2_0c ah0_0_f1 ah0_0_0c).2.1, ah0_f5, 0, ah0_3_f1) else (-1, ah0_f5, ah0_0_f1, ah0_3_f1) := by
  rw [fx_c_X11_text, if_pos rfl]
  generalize fx_c_X0_faultOf ah0_2_0c ah0_0_f1 ah0_0_0c = q
  rw [ze7, ze1, rl_bb]
theorem ra_t1 {ah0_f5 : Int32} {ah0_2_0c : Nat → Int32} {ah0_0_f1 : Int32} {ah0_0_0c : Nat → Int32} {ah0_1_0c : Nat → Int32} {ah0_3_f1 : Int32} {ah0_3_0_e0_0c : Nat → Int32} {ah0_3_0_e1_0c : Nat → Int32} {ah0_3_0_e2_0c : Nat → Int32} {ah0_3_0_e3_0c : Nat → Int32} {ah0_3_0_e4_0c : Nat → Int32} {ah0_4_e0_0c : Nat → Int32} {ah0_4_e1_0c : Nat → Int32} {ah0_4_e2_0c : Nat → Int32} {ah0_4_e3_0c : Nat → Int32} {ah0_4_e4_0c : Nat → Int32} {K : Int32} (hs : RG ah0_3_f1 0 4) (hc : ∀ C, (fx_c_X4_faultOf ah0_0_f1 ah0_0_0c C).1 = K) : (fx_c_X11_text 1 ah0_f5 ah0_2_0c ah0_0_f1 ah0_0_0c ah0_1_0c ah0_3_f1 ah0_3_0_e0_0c ah0_3_0_e1_0c ah0_3_0_e2_0c ah0_3_0_e3_0c ah0_3_0_e4_0c ah0_4_e0_0c ah0_4_e1_0c ah0_4_e2_0c ah0_4_e3_0c ah0_4_e4_0c) = if K = -1 then (if ah0_3_f1 = 4 then (-1, ah0_f5, ah0_0_f1, ah0_3_f1) else (ah0_3_f1 + 1 - 1, ah0_f5, 0, ah0_3_f1 + 1)) else (-1, ah0_f5, ah0_0_f1, ah0_3_f1) := by
  rw [fx_c_X11_text, if_neg (show ¬ (1 : Int32) = 0 by decide), if_pos rfl, ze5, ze5, ze5, ze5, ze5]
  rw [hc, hc, hc, hc, hc]
  clear hc
  rcases rl_sc hs with z | z | z | z | z
  · subst z
    rw [if_pos (show (0 : Int32) = 0 by decide)]
    by_cases hK : K = -1
    · rw [if_pos hK, if_pos hK, if_neg (show ¬ (0 : Int32) = 4 by decide)]
      rfl
    · rw [if_neg hK, if_neg hK]
  · subst z
    rw [if_neg (show ¬ (1 : Int32) = 0 by decide), if_pos (show (1 : Int32) = 1 by decide)]
    by_cases hK : K = -1
    · rw [if_pos hK, if_pos hK, if_neg (show ¬ (1 : Int32) = 4 by decide)]
      rfl
    · rw [if_neg hK, if_neg hK]
  · subst z
    rw [if_neg (show ¬ (2 : Int32) = 0 by decide), if_neg (show ¬ (2 : Int32) = 1 by decide), if_pos (show (2 : Int32) = 2 by decide)]
    by_cases hK : K = -1
    · rw [if_pos hK, if_pos hK, if_neg (show ¬ (2 : Int32) = 4 by decide)]
      rfl
    · rw [if_neg hK, if_neg hK]
  · subst z
    rw [if_neg (show ¬ (3 : Int32) = 0 by decide), if_neg (show ¬ (3 : Int32) = 1 by decide), if_neg (show ¬ (3 : Int32) = 2 by decide), if_pos (show (3 : Int32) = 3 by decide)]
    by_cases hK : K = -1
    · rw [if_pos hK, if_pos hK, if_neg (show ¬ (3 : Int32) = 4 by decide)]
      rfl
    · rw [if_neg hK, if_neg hK]
  · subst z
    rw [if_neg (show ¬ (4 : Int32) = 0 by decide), if_neg (show ¬ (4 : Int32) = 1 by decide), if_neg (show ¬ (4 : Int32) = 2 by decide), if_neg (show ¬ (4 : Int32) = 3 by decide)]
    by_cases hK : K = -1
    · rw [if_pos hK, if_pos hK, if_pos (show (4 : Int32) = 4 by decide)]
      rfl
    · rw [if_neg hK, if_neg hK]
theorem ra_t2 {ah0_f5 : Int32} {ah0_2_0c : Nat → Int32} {ah0_0_f1 : Int32} {ah0_0_0c : Nat → Int32} {ah0_1_0c : Nat → Int32} {ah0_3_f1 : Int32} {ah0_3_0_e0_0c : Nat → Int32} {ah0_3_0_e1_0c : Nat → Int32} {ah0_3_0_e2_0c : Nat → Int32} {ah0_3_0_e3_0c : Nat → Int32} {ah0_3_0_e4_0c : Nat → Int32} {ah0_4_e0_0c : Nat → Int32} {ah0_4_e1_0c : Nat → Int32} {ah0_4_e2_0c : Nat → Int32} {ah0_4_e3_0c : Nat → Int32} {ah0_4_e4_0c : Nat → Int32} {K : Int32} (hs : RG ah0_f5 0 4) (hc : ∀ C, (fx_c_X6_faultOf ah0_0_f1 ah0_0_0c C).1 = K) : (fx_c_X11_text 2 ah0_f5 ah0_2_0c ah0_0_f1 ah0_0_0c ah0_1_0c ah0_3_f1 ah0_3_0_e0_0c ah0_3_0_e1_0c ah0_3_0_e2_0c ah0_3_0_e3_0c ah0_3_0_e4_0c ah0_4_e0_0c ah0_4_e1_0c ah0_4_e2_0c ah0_4_e3_0c ah0_4_e4_0c) = if K = -1 then (if ah0_f5 = 4 then (-1, ah0_f5, ah0_0_f1, ah0_3_f1) else (ah0_f5 + 1 - 1, ah0_f5 + 1, 0, ah0_3_f1)) else (-1, ah0_f5, ah0_0_f1, ah0_3_f1) := by
  rw [fx_c_X11_text, if_neg (show ¬ (2 : Int32) = 0 by decide), if_neg (show ¬ (2 : Int32) = 1 by decide), if_pos rfl, ze5, ze5, ze5, ze5, ze5]
  rw [hc, hc, hc, hc, hc]
  clear hc
  rcases rl_sc hs with z | z | z | z | z
  · subst z
    rw [if_pos (show (0 : Int32) = 0 by decide)]
    by_cases hK : K = -1
    · rw [if_pos hK, if_pos hK, if_neg (show ¬ (0 : Int32) = 4 by decide)]
      rfl
    · rw [if_neg hK, if_neg hK]
  · subst z
    rw [if_neg (show ¬ (1 : Int32) = 0 by decide), if_pos (show (1 : Int32) = 1 by decide)]
    by_cases hK : K = -1
    · rw [if_pos hK, if_pos hK, if_neg (show ¬ (1 : Int32) = 4 by decide)]
      rfl
    · rw [if_neg hK, if_neg hK]
  · subst z
    rw [if_neg (show ¬ (2 : Int32) = 0 by decide), if_neg (show ¬ (2 : Int32) = 1 by decide), if_pos (show (2 : Int32) = 2 by decide)]
    by_cases hK : K = -1
    · rw [if_pos hK, if_pos hK, if_neg (show ¬ (2 : Int32) = 4 by decide)]
      rfl
    · rw [if_neg hK, if_neg hK]
  · subst z
    rw [if_neg (show ¬ (3 : Int32) = 0 by decide), if_neg (show ¬ (3 : Int32) = 1 by decide), if_neg (show ¬ (3 : Int32) = 2 by decide), if_pos (show (3 : Int32) = 3 by decide)]
    by_cases hK : K = -1
    · rw [if_pos hK, if_pos hK, if_neg (show ¬ (3 : Int32) = 4 by decide)]
      rfl
    · rw [if_neg hK, if_neg hK]
  · subst z
    rw [if_neg (show ¬ (4 : Int32) = 0 by decide), if_neg (show ¬ (4 : Int32) = 1 by decide), if_neg (show ¬ (4 : Int32) = 2 by decide), if_neg (show ¬ (4 : Int32) = 3 by decide), if_pos (show (4 : Int32) = 4 by decide)]
    by_cases hK : K = -1
    · rw [if_pos hK, if_pos hK, if_pos (show (4 : Int32) = 4 by decide)]
      rfl
    · rw [if_neg hK, if_neg hK]
theorem ra_t3 {v1 : Int32} {ah0_f5 : Int32} {ah0_2_0c : Nat → Int32} {ah0_0_f1 : Int32} {ah0_0_0c : Nat → Int32} {ah0_1_0c : Nat → Int32} {ah0_3_f1 : Int32} {ah0_3_0_e0_0c : Nat → Int32} {ah0_3_0_e1_0c : Nat → Int32} {ah0_3_0_e2_0c : Nat → Int32} {ah0_3_0_e3_0c : Nat → Int32} {ah0_3_0_e4_0c : Nat → Int32} {ah0_4_e0_0c : Nat → Int32} {ah0_4_e1_0c : Nat → Int32} {ah0_4_e2_0c : Nat → Int32} {ah0_4_e3_0c : Nat → Int32} {ah0_4_e4_0c : Nat → Int32} (h0 : ¬ v1 = 0) (h1 : ¬ v1 = 1) (h2 : ¬ v1 = 2) : (fx_c_X11_text v1 ah0_f5 ah0_2_0c ah0_0_f1 ah0_0_0c ah0_1_0c ah0_3_f1 ah0_3_0_e0_0c ah0_3_0_e1_0c ah0_3_0_e2_0c ah0_3_0_e3_0c ah0_3_0_e4_0c ah0_4_e0_0c ah0_4_e1_0c ah0_4_e2_0c ah0_4_e3_0c ah0_4_e4_0c) = (-1, ah0_f5, ah0_0_f1, ah0_3_f1) := by
  rw [fx_c_X11_text, if_neg h0, if_neg h1, if_neg h2]
theorem rb_h0 {bh0_f6 : Int32} {bh0_19c bh0_23c bh0_1c bh0_21c : Nat → Int32} : (fx_c_X12_fault_1 bh0_f6 bh0_19c bh0_23c bh0_1c bh0_21c).1 = (fx_c_X12_readBorough bh0_f6 bh0_19c bh0_23c bh0_1c bh0_21c).2.1 ∧ (fx_c_X12_fault_1 bh0_f6 bh0_19c bh0_23c bh0_1c bh0_21c).2.1 = (fx_c_X12_readBorough bh0_f6 bh0_19c bh0_23c bh0_1c bh0_21c).2.2.1 := by
  rw [fx_c_X12_fault_1, ze1]
  generalize fx_c_X12_readBorough bh0_f6 bh0_19c bh0_23c bh0_1c bh0_21c = q
  rw [ze8]
  by_cases h : q.2.1 = -1
  · rw [if_pos h, h]
    exact ⟨rfl, rfl⟩
  · rw [if_neg h]
    exact ⟨rfl, rfl⟩
theorem rb_t0 {bh0_f6 : Int32} {bh0_f7 : Int32} {bh0_f30 : Int32} {bh0_18c : Nat → Int32} {bh0_19c : Nat → Int32} {bh0_22c : Nat → Int32} {bh0_23c : Nat → Int32} {bh0_1c : Nat → Int32} {bh0_21c : Nat → Int32} {bh0_4c : Nat → Int32} {bh0_24c : Nat → Int32} {bh0_25c : Nat → Int32} {bh0_2c : Nat → Int32} {bh0_3c : Nat → Int32} {bh0_20c : Nat → Int32} : (fx_c_X12_text 0 bh0_f6 bh0_f7 bh0_f30 bh0_18c bh0_19c bh0_22c bh0_23c bh0_1c bh0_21c bh0_4c bh0_24c bh0_25c bh0_2c bh0_3c bh0_20c) = if (fx_c_X12_readBorough bh0_f6 bh0_19c bh0_23c bh0_1c bh0_21c).2.1 = -1 then ((fx_c_X12_readBorough bh0_f6 bh0_19c bh0_23c bh0_1c bh0_21c).2.2.1, 0, bh0_f7, bh0_f30) else (-1, bh0_f6, bh0_f7, bh0_f30) := by
  rw [fx_c_X12_text, exl_eq rfl, exc1_eq (rl_isin1 (v := 0) (Or.inl rfl)).symm, if_neg (show ¬ (1 : Int32) = 0 by decide), if_pos rfl, fx_c_X12_text_p30, fx_c_X12_text_p43]
  have hf := rb_h0 (bh0_f6 := bh0_f6) (bh0_19c := bh0_19c) (bh0_23c := bh0_23c) (bh0_1c := bh0_1c) (bh0_21c := bh0_21c)
  generalize fx_c_X12_fault_1 bh0_f6 bh0_19c bh0_23c bh0_1c bh0_21c = q at hf ⊢
  generalize fx_c_X12_readBorough bh0_f6 bh0_19c bh0_23c bh0_1c bh0_21c = w at hf ⊢
  rw [ze6, ← hf.1, ← hf.2]
  by_cases h : q.1 = -1
  · rw [if_pos h, if_pos h, fx_c_X12_text_p223, zel, zel, rl_223_1]
  · rw [if_neg h, if_neg h, if_neg h]
theorem rb_h1 {n : Nat} {bh0_1c bh0_4c : Nat → Int32} : fx_c_X12_fault_2 (nI n) bh0_1c bh0_4c = fx_c_X12_goThrough (nI n) bh0_1c bh0_4c := by
  rw [fx_c_X12_fault_2, ze1, fx_c_X12_fault_2_p28]
  generalize fx_c_X12_goThrough (nI n) bh0_1c bh0_4c = q
  rw [ze1]
  by_cases h : q = -1
  · rw [if_pos h, h]
    rfl
  · rw [if_neg h]
    rfl
theorem rb_t1 {n : Nat} (hn : n ≤ 240) {bh0_f7 : Int32} {bh0_f30 : Int32} {bh0_18c : Nat → Int32} {bh0_19c : Nat → Int32} {bh0_22c : Nat → Int32} {bh0_23c : Nat → Int32} {bh0_1c : Nat → Int32} {bh0_21c : Nat → Int32} {bh0_4c : Nat → Int32} {bh0_24c : Nat → Int32} {bh0_25c : Nat → Int32} {bh0_2c : Nat → Int32} {bh0_3c : Nat → Int32} {bh0_20c : Nat → Int32} (hh : fx_c_X12_goThrough (nI n) bh0_1c bh0_4c = -1 → 1 ≤ n) : (fx_c_X12_text 1 (nI n) bh0_f7 bh0_f30 bh0_18c bh0_19c bh0_22c bh0_23c bh0_1c bh0_21c bh0_4c bh0_24c bh0_25c bh0_2c bh0_3c bh0_20c) = if bh0_f7 = 4 then (-1, nI n, bh0_f7, bh0_f30) else if fx_c_X12_goThrough (nI n) bh0_1c bh0_4c = -1 then (bh0_f7 + 1 - 1, 0, bh0_f7 + 1, bh0_f30) else (-1, nI n, bh0_f7, bh0_f30) := by
  rw [fx_c_X12_text, exl_eq rfl, exc1_eq (rl_isin1 (v := 1) (Or.inr (Or.inl rfl))).symm, if_neg (show ¬ (1 : Int32) = 0 by decide), if_neg (show ¬ (1 : Int32) = 0 by decide), if_pos rfl, fx_c_X12_text_p30b, fx_c_X12_text_p43b, rb_h1]
  generalize fx_c_X12_goThrough (nI n) bh0_1c bh0_4c = q at hh ⊢
  rw [ze1]
  by_cases h4 : bh0_f7 = 4
  · rw [if_pos h4, if_pos h4]
  · rw [if_neg h4, if_neg h4]
    by_cases h : q = -1
    · rw [if_pos h, if_pos h, fx_c_X12_text_p71, if_neg (nI_nle (hh h) (by omega)), zel, zel, zel, zel, rl_71_1 n hn (hh h)]
    · rw [if_neg h, if_neg h, if_neg h]
theorem rb_h2 {bh0_f6 : Int32} {bh0_1c bh0_24c bh0_25c : Nat → Int32} : (fx_c_X12_fault_3 bh0_f6 bh0_1c bh0_24c bh0_25c).1 = (fx_c_X12_readPlan bh0_f6 bh0_1c bh0_24c bh0_25c).2.1 := by
  rw [fx_c_X12_fault_3, ze1, fx_c_X12_fault_3_p28, fx_c_X12_fault_3_p46]
  generalize fx_c_X12_readPlan bh0_f6 bh0_1c bh0_24c bh0_25c = q
  rw [ze4]
  by_cases h : q.2.1 = -1
  · rw [if_pos h, h]
    rfl
  · rw [if_neg h]
    rfl
theorem rb_t2 {bh0_f6 : Int32} {bh0_f7 : Int32} {bh0_f30 : Int32} {bh0_18c : Nat → Int32} {bh0_19c : Nat → Int32} {bh0_22c : Nat → Int32} {bh0_23c : Nat → Int32} {bh0_1c : Nat → Int32} {bh0_21c : Nat → Int32} {bh0_4c : Nat → Int32} {bh0_24c : Nat → Int32} {bh0_25c : Nat → Int32} {bh0_2c : Nat → Int32} {bh0_3c : Nat → Int32} {bh0_20c : Nat → Int32} : (fx_c_X12_text 2 bh0_f6 bh0_f7 bh0_f30 bh0_18c bh0_19c bh0_22c bh0_23c bh0_1c bh0_21c bh0_4c bh0_24c bh0_25c bh0_2c bh0_3c bh0_20c) = if bh0_f30 = 4 then (-1, bh0_f6, bh0_f7, bh0_f30) else if (fx_c_X12_readPlan bh0_f6 bh0_1c bh0_24c bh0_25c).2.1 = -1 then (bh0_f30 + 1 - 1, 0, bh0_f7, bh0_f30 + 1) else (-1, bh0_f6, bh0_f7, bh0_f30) := by
  rw [fx_c_X12_text, exl_eq rfl, exc1_eq (rl_isin1 (v := 2) (Or.inr (Or.inr rfl))).symm, if_neg (show ¬ (1 : Int32) = 0 by decide), if_neg (show ¬ (2 : Int32) = 0 by decide), if_neg (show ¬ (2 : Int32) = 1 by decide), if_pos rfl, fx_c_X12_text_p30c, fx_c_X12_text_p43c]
  have hf := rb_h2 (bh0_f6 := bh0_f6) (bh0_1c := bh0_1c) (bh0_24c := bh0_24c) (bh0_25c := bh0_25c)
  generalize fx_c_X12_fault_3 bh0_f6 bh0_1c bh0_24c bh0_25c = q at hf ⊢
  generalize fx_c_X12_readPlan bh0_f6 bh0_1c bh0_24c bh0_25c = w at hf ⊢
  rw [ze3, ← hf]
  by_cases h4 : bh0_f30 = 4
  · rw [if_pos h4, if_pos h4]
  · rw [if_neg h4, if_neg h4]
    by_cases h : q.1 = -1
    · rw [if_pos h, if_pos h, fx_c_X12_text_p137, zel, zel, zel, zel, rl_137_1]
    · rw [if_neg h, if_neg h, if_neg h]
theorem rb_t3 {v1 : Int32} {bh0_f6 : Int32} {bh0_f7 : Int32} {bh0_f30 : Int32} {bh0_18c : Nat → Int32} {bh0_19c : Nat → Int32} {bh0_22c : Nat → Int32} {bh0_23c : Nat → Int32} {bh0_1c : Nat → Int32} {bh0_21c : Nat → Int32} {bh0_4c : Nat → Int32} {bh0_24c : Nat → Int32} {bh0_25c : Nat → Int32} {bh0_2c : Nat → Int32} {bh0_3c : Nat → Int32} {bh0_20c : Nat → Int32} (h0 : ¬ v1 = 0) (h1 : ¬ v1 = 1) (h2 : ¬ v1 = 2) : (fx_c_X12_text v1 bh0_f6 bh0_f7 bh0_f30 bh0_18c bh0_19c bh0_22c bh0_23c bh0_1c bh0_21c bh0_4c bh0_24c bh0_25c bh0_2c bh0_3c bh0_20c) = (-1, bh0_f6, bh0_f7, bh0_f30) := by
  rw [fx_c_X12_text, exl_eq rfl, exc1_eq (rl_isin0 h0 h1 h2).symm, if_pos rfl]
theorem tq_law_1 {c : Nat → Int32} {n : Nat} (h : tq_fin (tq_law c n) = -1) (hn : n ≤ 240) : 1 ≤ n := by
  by_cases h0 : 1 ≤ n
  · exact h0
  · have e : n = 0 := by omega
    subst e
    have ec : tq_ch c 0 (tq_pk c 0 0) = -1 := tq_ch_m1 (Nat.zero_le _)
    have e1 : tq_clause c 0 0 = (false, tq_pk c 0 0) := by
      unfold tq_clause tq_ex
      rw [if_neg (by rw [ec]; decide)]
      rfl
    have e2 : tq_law c 0 = (false, tq_pk c 0 0) := by
      show tq_bind (tq_laws c 0 0) (tq_end c 0) = _
      rw [tq_laws_eq (Nat.zero_le _), e1]
      rfl
    rw [e2] at h
    have h5 := tq_pk_le (c := c) (n := 0) (p := 0) (Nat.zero_le _)
    exact absurd h (nI_m1 (by omega))
theorem rl_done {c g : Nat → Int32} {r1 pc1 l1 s1 r2 l2 s2 pc2 : Int32} (r l s p : Int32) (h : TRL c g l l) (e1 : (r1, pc1, l1, s1) = (r, p, l, s)) (e2 : (r2, l2, s2, pc2) = (r, l, s, p)) : r1 = r2 ∧ TRL c g l1 l2 ∧ s1 = s2 ∧ pc1 = pc2 := by
  cases e1
  cases e2
  exact ⟨rfl, h, rfl, rfl⟩
theorem rl_text {v1 : Int32} {ah0_2_0c : Nat → Int32} {ah0_1_0c : Nat → Int32} {ah0_3_0_e0_0c : Nat → Int32} {ah0_3_0_e1_0c : Nat → Int32} {ah0_3_0_e2_0c : Nat → Int32} {ah0_3_0_e3_0c : Nat → Int32} {ah0_3_0_e4_0c : Nat → Int32} {ah0_4_e0_0c : Nat → Int32} {ah0_4_e1_0c : Nat → Int32} {ah0_4_e2_0c : Nat → Int32} {ah0_4_e3_0c : Nat → Int32} {ah0_4_e4_0c : Nat → Int32} {bh0_18c : Nat → Int32} {bh0_19c : Nat → Int32} {bh0_22c : Nat → Int32} {bh0_23c : Nat → Int32} {bh0_21c : Nat → Int32} {bh0_4c : Nat → Int32} {bh0_24c : Nat → Int32} {bh0_25c : Nat → Int32} {bh0_2c : Nat → Int32} {bh0_3c : Nat → Int32} {bh0_20c : Nat → Int32} {ah0_0_f1 bh0_f6 ah0_3_f1 ah0_f5 bh0_f7 bh0_f30 r1 pc1 l1 s1 r2 l2 s2 pc2 : Int32} {ah0_0_0c bh0_1c : Nat → Int32} (h : TRL ah0_0_0c bh0_1c ah0_0_f1 bh0_f6) (hL : ah0_3_f1 = bh0_f7) (hP : ah0_f5 = bh0_f30) (hs : RG ah0_3_f1 0 4) (hp : RG ah0_f5 0 4) (e1 : (r1, pc1, l1, s1) = fx_c_X11_text v1 ah0_f5 ah0_2_0c ah0_0_f1 ah0_0_0c ah0_1_0c ah0_3_f1 ah0_3_0_e0_0c ah0_3_0_e1_0c ah0_3_0_e2_0c ah0_3_0_e3_0c ah0_3_0_e4_0c ah0_4_e0_0c ah0_4_e1_0c ah0_4_e2_0c ah0_4_e3_0c ah0_4_e4_0c) (e2 : (r2, l2, s2, pc2) = fx_c_X12_text v1 bh0_f6 bh0_f7 bh0_f30 bh0_18c bh0_19c bh0_22c bh0_23c bh0_1c bh0_21c bh0_4c bh0_24c bh0_25c bh0_2c bh0_3c bh0_20c) : r1 = r2 ∧ TRL ah0_0_0c bh0_1c l1 l2 ∧ s1 = s2 ∧ pc1 = pc2 := by
  obtain ⟨hl, n, hn9, hr, hn, hG⟩ := h
  subst hl hn9 hL hP
  have hT : TB ah0_0_0c n := ⟨hr, hn⟩
  have hz : TRL ah0_0_0c bh0_1c 0 0 := ⟨rfl, 0, nI_0.symm, hr, by omega, fun i hi => absurd hi (Nat.not_lt_zero _)⟩
  have hsame : TRL ah0_0_0c bh0_1c (nI n) (nI n) := ⟨rfl, n, rfl, hr, hn, hG⟩
  by_cases h0 : v1 = 0
  · subst h0
    have hB := px_borough_alike hT hG ah0_2_0c bh0_19c bh0_21c bh0_23c
    rw [ra_t0] at e1
    rw [rb_t0] at e2
    by_cases h1 : (fx_c_X0_faultOf ah0_2_0c (nI n) ah0_0_0c).1 = -1
    · have h2 := hB.1.symm.trans h1
      obtain ⟨nb, nc, _, _, _, _, k1, k2, _⟩ := hB.2 h1
      rw [if_pos h1, k1] at e1
      rw [if_pos h2, k2] at e2
      exact rl_done _ _ _ _ hz e1 e2
    · have h2 : ¬ (fx_c_X12_readBorough (nI n) bh0_19c bh0_23c bh0_1c bh0_21c).2.1 = -1 := fun z => h1 (hB.1.trans z)
      rw [if_neg h1] at e1
      rw [if_neg h2] at e2
      exact rl_done _ _ _ _ hsame e1 e2
  · by_cases h1 : v1 = 1
    · subst h1
      rw [ra_t1 hs (fun C => px_law_alike hT hG C bh0_4c)] at e1
      rw [rb_t1 hn (fun z => tq_law_1 ((rx_c_X12_goThrough hT hG bh0_4c).symm.trans z) hn)] at e2
      generalize fx_c_X12_goThrough (nI n) bh0_1c bh0_4c = K at e1 e2
      by_cases h4 : ah0_3_f1 = 4
      · rw [if_pos h4] at e1 e2
        have e3 : (r1, pc1, l1, s1) = (-1, ah0_f5, nI n, ah0_3_f1) := e1.trans (by split <;> rfl)
        exact rl_done _ _ _ _ hsame e3 e2
      · rw [if_neg h4] at e1 e2
        by_cases h2 : K = -1
        · rw [if_pos h2] at e1 e2
          exact rl_done _ _ _ _ hz e1 e2
        · rw [if_neg h2] at e1 e2
          exact rl_done _ _ _ _ hsame e1 e2
    · by_cases h2 : v1 = 2
      · subst h2
        rw [ra_t2 hp (fun C => px_plan_alike hT hG C bh0_24c bh0_25c)] at e1
        rw [rb_t2] at e2
        generalize fx_c_X12_readPlan (nI n) bh0_1c bh0_24c bh0_25c = K at e1 e2
        by_cases h4 : ah0_f5 = 4
        · rw [if_pos h4] at e1 e2
          have e3 : (r1, pc1, l1, s1) = (-1, ah0_f5, nI n, ah0_3_f1) := e1.trans (by split <;> rfl)
          exact rl_done _ _ _ _ hsame e3 e2
        · rw [if_neg h4] at e1 e2
          by_cases h3 : K.2.1 = -1
          · rw [if_pos h3] at e1 e2
            exact rl_done _ _ _ _ hz e1 e2
          · rw [if_neg h3] at e1 e2
            exact rl_done _ _ _ _ hsame e1 e2
      · rw [ra_t3 h0 h1 h2] at e1
        rw [rb_t3 h0 h1 h2] at e2
        exact rl_done _ _ _ _ hsame e1 e2
