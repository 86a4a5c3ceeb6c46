theorem fs_c_X0_setUsual_p11 (F : Nat) (j11_l4 : Int32) (j11_h0_0c : (Nat → Int32)) : fx_c_X0_setUsual_p11 (F + 1) j11_l4 j11_h0_0c = ((if j11_l4 = j11_l4 then (if 4 ≤ j11_l4 then j11_h0_0c else (exl (0 + j11_l4) fun (x_5 : Int32) => (exl (([2, 0, 6, 8, 0, 0, 3, 0, 0, 0, 3, 2, 0, 0, 2, 3] : List Int32).getD (x_5 : Int32).toNatClampNeg 0) fun (x_8 : Int32) => (exl (upd j11_h0_0c (x_5 : Int32).toNatClampNeg x_8) fun (w_10 : Nat → Int32) => (exl (j11_l4 + 1) fun (x_13 : Int32) => ((fx_c_X0_setUsual_p11 F) x_13 w_10)))))) else default) : (Nat → Int32)) := rfl
def it_us_s (k : Nat) : Int32 := ([2, 0, 6, 8] : List Int32).getD k 0
theorem it_ut_s : ∀ k, k < 4 → ([2, 0, 6, 8, 0, 0, 3, 0, 0, 0, 3, 2, 0, 0, 2, 3] : List Int32).getD (0 + nI k : Int32).toNatClampNeg 0 = it_us_s k := by decide +kernel
theorem it_su_s : ∀ (F i : Nat) (V : Nat → Int32), i ≤ 4 → 4 < i + F → ∀ j, fx_c_X0_setUsual_p11 F (nI i) V j = if 0 + i ≤ j ∧ j < 0 + 4 then it_us_s (j - 0) else V j := by
  intro F
  induction F with
  | zero => intro i V h1 h2 j; omega
  | succ F ih =>
    intro i V h1 h2 j
    rw [fs_c_X0_setUsual_p11, if_pos rfl]
    by_cases hi : i = 4
    · subst hi
      rw [if_pos (by decide), if_neg (by omega)]
    · rw [if_neg (show ¬ (4 : Int32) ≤ nI i from nI_ge (a := i) (b := 4) (by omega) (by omega))]
      have hu := it_ut_s i (by omega)
      have hcl : (0 + nI i : Int32).toNatClampNeg = 0 + i := by rw [rx_0, px_clamp (by omega)]; omega
      simp only [exl]
      rw [hu, hcl, nI_1, ih (i + 1) _ (by omega) (by omega) j]
      by_cases hj : j = 0 + i
      · rw [if_neg (by omega), if_pos (by omega), hj, upd_at]
        congr 1
        omega
      · by_cases h5 : 0 + (i + 1) ≤ j ∧ j < 0 + 4
        · rw [if_pos h5, if_pos (by omega)]
        · rw [if_neg h5, upd_ne _ _ hj, if_neg (by omega)]
theorem fs_c_X0_setUsual_1_p11 (p2 : Int32) (F : Nat) (j11_l4 : Int32) (j11_h0_0c : (Nat → Int32)) : fx_c_X0_setUsual_1_p11 p2 (F + 1) j11_l4 j11_h0_0c = ((if j11_l4 = j11_l4 then (if 8 ≤ j11_l4 then j11_h0_0c else (exl (p2 + j11_l4) fun (x_5 : Int32) => (exl (4 + j11_l4) fun (x_7 : Int32) => (exl (([2, 0, 6, 8, 0, 0, 3, 0, 0, 0, 3, 2, 0, 0, 2, 3] : List Int32).getD (x_7 : Int32).toNatClampNeg 0) fun (x_9 : Int32) => (exl (upd j11_h0_0c (x_5 : Int32).toNatClampNeg x_9) fun (w_11 : Nat → Int32) => (exl (j11_l4 + 1) fun (x_14 : Int32) => ((fx_c_X0_setUsual_1_p11 p2 F) x_14 w_11))))))) else default) : (Nat → Int32)) := rfl
def it_us_b (k : Nat) : Int32 := ([0, 0, 3, 0, 0, 0, 3, 2] : List Int32).getD k 0
theorem it_ut_b : ∀ k, k < 8 → ([2, 0, 6, 8, 0, 0, 3, 0, 0, 0, 3, 2, 0, 0, 2, 3] : List Int32).getD (4 + nI k : Int32).toNatClampNeg 0 = it_us_b k := by decide +kernel
theorem it_su_b (base : Nat) (hbs : base ≤ 100) : ∀ (F i : Nat) (V : Nat → Int32), i ≤ 8 → 8 < i + F → ∀ j, fx_c_X0_setUsual_1_p11 (nI base) F (nI i) V j = if base + i ≤ j ∧ j < base + 8 then it_us_b (j - base) else V j := by
  intro F
  induction F with
  | zero => intro i V h1 h2 j; omega
  | succ F ih =>
    intro i V h1 h2 j
    rw [fs_c_X0_setUsual_1_p11, if_pos rfl]
    by_cases hi : i = 8
    · subst hi
      rw [if_pos (by decide), if_neg (by omega)]
    · rw [if_neg (show ¬ (8 : Int32) ≤ nI i from nI_ge (a := i) (b := 8) (by omega) (by omega))]
      have hu := it_ut_b i (by omega)
      have hcl : (nI base + nI i : Int32).toNatClampNeg = base + i := by rw [nI_add, px_clamp (by omega)]
      simp only [exl]
      rw [hu, hcl, nI_1, ih (i + 1) _ (by omega) (by omega) j]
      by_cases hj : j = base + i
      · rw [if_neg (by omega), if_pos (by omega), hj, upd_at]
        congr 1
        omega
      · by_cases h5 : base + (i + 1) ≤ j ∧ j < base + 8
        · rw [if_pos h5, if_pos (by omega)]
        · rw [if_neg h5, upd_ne _ _ hj, if_neg (by omega)]
theorem fs_c_X0_setUsual_2_p11 (p2 : Int32) (F : Nat) (j11_l4 : Int32) (j11_h0_0c : (Nat → Int32)) : fx_c_X0_setUsual_2_p11 p2 (F + 1) j11_l4 j11_h0_0c = ((if j11_l4 = j11_l4 then (if 4 ≤ j11_l4 then j11_h0_0c else (exl (p2 + j11_l4) fun (x_5 : Int32) => (exl (12 + j11_l4) fun (x_7 : Int32) => (exl (([2, 0, 6, 8, 0, 0, 3, 0, 0, 0, 3, 2, 0, 0, 2, 3] : List Int32).getD (x_7 : Int32).toNatClampNeg 0) fun (x_9 : Int32) => (exl (upd j11_h0_0c (x_5 : Int32).toNatClampNeg x_9) fun (w_11 : Nat → Int32) => (exl (j11_l4 + 1) fun (x_14 : Int32) => ((fx_c_X0_setUsual_2_p11 p2 F) x_14 w_11))))))) else default) : (Nat → Int32)) := rfl
def it_us_c (k : Nat) : Int32 := ([0, 0, 2, 3] : List Int32).getD k 0
theorem it_ut_c : ∀ k, k < 4 → ([2, 0, 6, 8, 0, 0, 3, 0, 0, 0, 3, 2, 0, 0, 2, 3] : List Int32).getD (12 + nI k : Int32).toNatClampNeg 0 = it_us_c k := by decide +kernel
theorem it_su_c (base : Nat) (hbs : base ≤ 100) : ∀ (F i : Nat) (V : Nat → Int32), i ≤ 4 → 4 < i + F → ∀ j, fx_c_X0_setUsual_2_p11 (nI base) F (nI i) V j = if base + i ≤ j ∧ j < base + 4 then it_us_c (j - base) else V j := by
  intro F
  induction F with
  | zero => intro i V h1 h2 j; omega
  | succ F ih =>
    intro i V h1 h2 j
    rw [fs_c_X0_setUsual_2_p11, if_pos rfl]
    by_cases hi : i = 4
    · subst hi
      rw [if_pos (by decide), if_neg (by omega)]
    · rw [if_neg (show ¬ (4 : Int32) ≤ nI i from nI_ge (a := i) (b := 4) (by omega) (by omega))]
      have hu := it_ut_c i (by omega)
      have hcl : (nI base + nI i : Int32).toNatClampNeg = base + i := by rw [nI_add, px_clamp (by omega)]
      simp only [exl]
      rw [hu, hcl, nI_1, ih (i + 1) _ (by omega) (by omega) j]
      by_cases hj : j = base + i
      · rw [if_neg (by omega), if_pos (by omega), hj, upd_at]
        congr 1
        omega
      · by_cases h5 : base + (i + 1) ≤ j ∧ j < base + 4
        · rw [if_pos h5, if_pos (by omega)]
        · rw [if_neg h5, upd_ne _ _ hj, if_neg (by omega)]
theorem fs_c_X12_readItems_1_p3 (p1 : Int32) (p3 : Int32) (h0_f8 : Int32) (h0_f9 : Int32) (h0_f10 : Int32) (h0_5c : Nat → Int32) (F : Nat) (j3_l5 : Int32) (j3_h2c : (Nat → Int32)) : fx_c_X12_readItems_1_p3 p1 p3 h0_f8 h0_f9 h0_f10 h0_5c (F + 1) j3_l5 j3_h2c = ((if j3_l5 = j3_l5 then (exc1 (fx_c_J0_length_8abf5_7) fun (r_144 : Int32) => (if 8 ≤ j3_l5 then (exc2 (fx_c_X12_look h0_f8 h0_f9 h0_f10 h0_5c) fun (r_149 : Int32) (x_150 : Int32) => (if r_149 = (-1) then (exc1 (fx_c_X12_spotOf_2) fun (r_164 : Int32) => (fx_c_X12_readItems_1_p45 x_150 j3_h2c)) else (exc1 (fx_c_X12_spotOf_3 r_149) fun (r_168 : Int32) => (fx_c_X12_readItems_1_p45b p1 p3 h0_f8 h0_f9 h0_5c exF r_168 0 x_150 j3_h2c)))) else (exl (p3 + j3_l5) fun (x_173 : Int32) => (exc1 (fx_c_X12_usual_12 p1 j3_l5) fun (r_175 : Int32) => (if r_175 = 0 then (exl (upd j3_h2c (x_173 : Int32).toNatClampNeg 0) fun (w_185 : Nat → Int32) => (exl (j3_l5 + 1) fun (x_188 : Int32) => ((fx_c_X12_readItems_1_p3 p1 p3 h0_f8 h0_f9 h0_f10 h0_5c F) x_188 w_185))) else (if r_175 = 2 then (exl (upd j3_h2c (x_173 : Int32).toNatClampNeg 2) fun (w_190 : Nat → Int32) => (exl (j3_l5 + 1) fun (x_193 : Int32) => ((fx_c_X12_readItems_1_p3 p1 p3 h0_f8 h0_f9 h0_f10 h0_5c F) x_193 w_190))) else (exl (upd j3_h2c (x_173 : Int32).toNatClampNeg 3) fun (w_195 : Nat → Int32) => (exl (j3_l5 + 1) fun (x_198 : Int32) => ((fx_c_X12_readItems_1_p3 p1 p3 h0_f8 h0_f9 h0_f10 h0_5c F) x_198 w_195))))))))) else default) : Int32 × Int32 × (Nat → Int32)) := rfl
theorem it_top {c : Nat → Int32} {n m base row : Nat} {ix : Int32 → Int32} {N1 N2 : Nat → Nat → Int32 × Int32 × Int32} {a1 a2 a3 : Int32} {CL : Nat → Int32 → Int32 → Int32 → Int32 → (Nat → Int32) → Int32 × Int32 × Int32 × Int32 × Int32 × (Nat → Int32)} {RL : Nat → Int32 → Int32 → Int32 → (Nat → Int32) → Int32 × Int32 × (Nat → Int32)}
    (hn : n ≤ 240) (hm : m = 4 ∨ m = 8) (hx : ∀ r, RG r 0 255 → ix r = -1 ∨ ∃ k, k < m ∧ ix r = nI k) (hT : TB c n) (hC : CSt c n m base ix N1 a1 a2 a3 CL) (hR : RSt c n m row ix N2 RL) (hN : NRel n m N1 N2) {p : Nat} (hp : p ≤ n) (VC VR : Nat → Int32) (hV : ∀ j, j < m → VC (base + j) = VR (row + j)) (Y : Int32 × Int32 × (Nat → Int32))
    (hy1 : (tq_ch c n (tq_pk c n p) = -1 ∨ ix (tq_ch c n (tq_pk c n p)) = -1) → Y = (nI (tq_pk c n p), -1, VR)) (hy2 : ∀ k, k < m → ¬ tq_ch c n (tq_pk c n p) = -1 → ix (tq_ch c n (tq_pk c n p)) = nI k → Y = RL exF (nI k) 0 (nI (tq_pk c n p)) VR) :
    IR n p m base row a1 a2 a3 VC VR (CL exF 0 0 (nI p) (-1) VC) Y := by
  have g3 := tq_pk_ge (c := c) hp
  have g5 := tq_pk_le (c := c) hp
  have e0 : exF = 8589934591 + 1 := rfl
  by_cases h7 : tq_ch c n (tq_pk c n p) = -1 ∨ ix (tq_ch c n (tq_pk c n p)) = -1
  · rw [hy1 h7, e0]
    have h8 := hC.2.1 8589934591 0 p 0 VC (Nat.zero_le _) hp h7
    rw [nI_0] at h8
    rw [h8]
    exact ⟨⟨rfl, rfl, rfl⟩, Or.inl ⟨rfl, rfl, tq_pk c n p, g3, g5, rfl, rfl, hV, fun _ _ => rfl, fun _ _ => rfl⟩⟩
  · have h8 : ¬ tq_ch c n (tq_pk c n p) = -1 := fun z => h7 (Or.inl z)
    have h9 : ¬ ix (tq_ch c n (tq_pk c n p)) = -1 := fun z => h7 (Or.inr z)
    rcases hx _ (tq_ch_RG0 hT h8) with z | ⟨k2, hk2, ek2⟩
    · exact absurd z h9
    · rw [hy2 k2 hk2 h8 ek2]
      have hpop : tq_pop m 0 = 0 := by rcases hm with e | e <;> subst e <;> decide
      have h10 := it_rel hn hm hx hT hC hR hN (n - p) p exF 8589934591 0 k2 VC VR rfl hp (by unfold exF; omega) (by omega) (by rcases hm with e | e <;> subst e <;> decide) hk2 h8 ek2 hV
      rw [hpop, nI_0] at h10
      exact h10
/-- what both readers hold of a BOROUGH -/
def BR (nb nc : Nat) (V R B O : Nat → Int32) : Prop := (∀ k, k < 4 → V k = R k) ∧ (∀ k, k < 8 * nb → V (4 + k) = B k) ∧ (∀ k, k < 4 * nc → V (68 + k) = O k)
theorem it_kd : ∀ j, j < 256 → fx_c_X0_placeIn_1 (nI j) = if nI j = 115 then 0 else if nI j = 98 then 1 else if nI j = 99 then 2 else -1 := by decide +kernel
theorem it_usb : ∀ k, k < 8 → fx_c_X12_usual_12 98 (nI k) = it_us_b k ∧ (it_us_b k = 0 ∨ it_us_b k = 2 ∨ it_us_b k = 3) := by decide +kernel
/-- how a CLAUSE ends, in both -/
def CLR (n p : Nat) (X : Int32 × Int32 × Int32 × Int32 × Int32 × (Nat → Int32)) (Y : Int32 × Int32 × Int32 × Int32 × Int32 × (Nat → Int32) × (Nat → Int32) × (Nat → Int32)) : Prop :=
  (X.2.1 = -1 ∧ Y.2.1 = -1 ∧ ∃ q nb nc : Nat, p < q ∧ q ≤ n ∧ nb ≤ 8 ∧ nc ≤ 3 ∧ X.1 = nI q ∧ Y.1 = nI q ∧ X.2.2.1 = nI nb ∧ Y.2.2.1 = nI nb ∧ X.2.2.2.1 = nI nc ∧ Y.2.2.2.1 = nI nc ∧ X.2.2.2.2.1 = Y.2.2.2.2.1 ∧ (X.2.2.2.2.1 = 0 ∨ X.2.2.2.2.1 = 1) ∧ BR nb nc X.2.2.2.2.2 Y.2.2.2.2.2.1 Y.2.2.2.2.2.2.2 Y.2.2.2.2.2.2.1) ∨
  (∃ q x, q ≤ n ∧ x ≤ n ∧ X.2.1 = nI q ∧ Y.2.1 = nI q ∧ X.1 = nI x)
theorem it_rt_s {c g : Nat → Int32} {n : Nat} (hT : TB c n) (hG : TG c g n) {p : Nat} (hp : p ≤ n) (V : Nat → Int32) : ∃ V2 : Nat → Int32, (∀ j, j < 4 → V2 (0 + j) = it_us_s j) ∧ (∀ j, (j < 0 ∨ 0 + 4 ≤ j) → V2 j = V j) ∧ ((tq_ch c n (tq_pk c n p) = -1 ∨ fx_c_X12_spotOf_5 (tq_ch c n (tq_pk c n p)) = -1) → fx_c_X12_readItems_2 115 0 (nI n) (nI p) V g = (nI (tq_pk c n p), -1, V2)) ∧ (∀ k, k < 4 → ¬ tq_ch c n (tq_pk c n p) = -1 → fx_c_X12_spotOf_5 (tq_ch c n (tq_pk c n p)) = nI k → fx_c_X12_readItems_2 115 0 (nI n) (nI p) V g = fx_c_X12_readItems_2_p45b 115 0 (nI n) g exF (nI k) 0 (nI (tq_pk c n p)) V2) := by
  have hn := hT.2
  have hcl0 : (0 : Int32).toNatClampNeg = 0 := by decide
  have hcl1 : (1 : Int32).toNatClampNeg = 1 := by decide
  have hcl2 : (2 : Int32).toNatClampNeg = 2 := by decide
  have hcl3 : (3 : Int32).toNatClampNeg = 3 := by decide
  refine ⟨(upd (upd (upd (upd V 0 2) 1 0) 2 6) 3 8), ?_, ?_, ?_, ?_⟩
  · intro j hj
    have h4 : j = 0 ∨ j = 1 ∨ j = 2 ∨ j = 3 := by omega
    rcases h4 with e | e | e | e <;> subst e <;> simp [upd, it_us_s]
  · intro j hj
    rw [upd_ne _ _ (by omega), upd_ne _ _ (by omega), upd_ne _ _ (by omega), upd_ne _ _ (by omega)]
  · intro h
    simp only [fx_c_X12_readItems_2, exc1, exc2, exl]
    rw [if_pos (show fx_c_X12_usual_14 115 1 = 0 by decide), if_pos (show fx_c_X12_usual_15 115 2 = 6 by decide), if_pos (show fx_c_X12_usual_16 115 3 = 8 by decide), rx_c_X12_look hT hG hp, hcl0, hcl1, hcl2, hcl3]
    simp only []
    by_cases h1 : tq_ch c n (tq_pk c n p) = -1
    · rw [if_pos h1]
      rfl
    · rw [if_neg h1, if_pos (h.resolve_left h1)]
      rfl
  · intro k hk h1 hix
    simp only [fx_c_X12_readItems_2, exc1, exc2, exl]
    rw [if_pos (show fx_c_X12_usual_14 115 1 = 0 by decide), if_pos (show fx_c_X12_usual_15 115 2 = 6 by decide), if_pos (show fx_c_X12_usual_16 115 3 = 8 by decide), rx_c_X12_look hT hG hp, hcl0, hcl1, hcl2, hcl3]
    simp only []
    rw [if_neg h1, hix, if_neg (nI_m1 (by omega))]
    have h4 : k = 0 ∨ k = 1 ∨ k = 2 ∨ k = 3 := by omega
    rcases h4 with e | e | e | e
    · subst e
      rw [if_neg (show ¬ nI 0 = 3 by decide), if_neg (show ¬ nI 0 = 2 by decide), if_neg (show ¬ nI 0 = 1 by decide)]
      rfl
    · subst e
      rw [if_neg (show ¬ nI 1 = 3 by decide), if_neg (show ¬ nI 1 = 2 by decide), if_pos (show nI 1 = 1 by decide)]
      rfl
    · subst e
      rw [if_neg (show ¬ nI 2 = 3 by decide), if_pos (show nI 2 = 2 by decide)]
      rfl
    · subst e
      rw [if_pos (show nI 3 = 3 by decide)]
      rfl
theorem it_rt_c {c g : Nat → Int32} {n : Nat} (hT : TB c n) (hG : TG c g n) {row : Nat} (hrw : row ≤ 100) {p : Nat} (hp : p ≤ n) (V : Nat → Int32) : ∃ V2 : Nat → Int32, (∀ j, j < 4 → V2 (row + j) = it_us_c j) ∧ (∀ j, (j < row ∨ row + 4 ≤ j) → V2 j = V j) ∧ ((tq_ch c n (tq_pk c n p) = -1 ∨ fx_c_X12_spotOf_1 (tq_ch c n (tq_pk c n p)) = -1) → fx_c_X12_readItems 99 (nI row) 0 (nI n) (nI p) V g = (nI (tq_pk c n p), -1, V2)) ∧ (∀ k, k < 4 → ¬ tq_ch c n (tq_pk c n p) = -1 → fx_c_X12_spotOf_1 (tq_ch c n (tq_pk c n p)) = nI k → fx_c_X12_readItems 99 (nI row) 0 (nI n) (nI p) V g = fx_c_X12_readItems_p45b 99 (nI row) 0 (nI n) g exF (nI k) 0 (nI (tq_pk c n p)) V2) := by
  have hn := hT.2
  have hcl0 : (nI row + 0 : Int32).toNatClampNeg = row + 0 := by rw [show (0 : Int32) = nI 0 from rfl, nI_add, px_clamp (by omega)]
  have hcl1 : (nI row + 1 : Int32).toNatClampNeg = row + 1 := by rw [show (1 : Int32) = nI 1 from rfl, nI_add, px_clamp (by omega)]
  have hcl2 : (nI row + 2 : Int32).toNatClampNeg = row + 2 := by rw [show (2 : Int32) = nI 2 from rfl, nI_add, px_clamp (by omega)]
  have hcl3 : (nI row + 3 : Int32).toNatClampNeg = row + 3 := by rw [show (3 : Int32) = nI 3 from rfl, nI_add, px_clamp (by omega)]
  refine ⟨(upd (upd (upd (upd V (row + 0) 0) (row + 1) 0) (row + 2) 2) (row + 3) 3), ?_, ?_, ?_, ?_⟩
  · intro j hj
    have h4 : j = 0 ∨ j = 1 ∨ j = 2 ∨ j = 3 := by omega
    rcases h4 with e | e | e | e <;> subst e <;> simp [upd, it_us_c]
  · intro j hj
    rw [upd_ne _ _ (by omega), upd_ne _ _ (by omega), upd_ne _ _ (by omega), upd_ne _ _ (by omega)]
  · intro h
    simp only [fx_c_X12_readItems, exc1, exc2, exl]
    rw [if_neg (show ¬ fx_c_X12_usual_6 99 2 = 0 by decide), if_neg (show ¬ fx_c_X12_usual_7 99 3 = 0 by decide), if_pos (show fx_c_X12_usual_7 99 3 = 3 by decide), rx_c_X12_look hT hG hp, hcl0, hcl1, hcl2, hcl3]
    simp only []
    by_cases h1 : tq_ch c n (tq_pk c n p) = -1
    · rw [if_pos h1]
      rfl
    · rw [if_neg h1, if_pos (h.resolve_left h1)]
      rfl
  · intro k hk h1 hix
    simp only [fx_c_X12_readItems, exc1, exc2, exl]
    rw [if_neg (show ¬ fx_c_X12_usual_6 99 2 = 0 by decide), if_neg (show ¬ fx_c_X12_usual_7 99 3 = 0 by decide), if_pos (show fx_c_X12_usual_7 99 3 = 3 by decide), rx_c_X12_look hT hG hp, hcl0, hcl1, hcl2, hcl3]
    simp only []
    rw [if_neg h1, hix, if_neg (nI_m1 (by omega))]
    have h4 : k = 0 ∨ k = 1 ∨ k = 2 ∨ k = 3 := by omega
    rcases h4 with e | e | e | e
    · subst e
      rw [if_neg (show ¬ nI 0 = 3 by decide), if_neg (show ¬ nI 0 = 2 by decide), if_neg (show ¬ nI 0 = 1 by decide)]
      rfl
    · subst e
      rw [if_neg (show ¬ nI 1 = 3 by decide), if_neg (show ¬ nI 1 = 2 by decide), if_pos (show nI 1 = 1 by decide)]
      rfl
    · subst e
      rw [if_neg (show ¬ nI 2 = 3 by decide), if_pos (show nI 2 = 2 by decide)]
      rfl
    · subst e
      rw [if_pos (show nI 3 = 3 by decide)]
      rfl
theorem it_rb_p3 {c g : Nat → Int32} {n : Nat} (hT : TB c n) (hG : TG c g n) {row : Nat} (hrw : row ≤ 100) {p : Nat} (hp : p ≤ n) : ∀ (F i : Nat) (V : Nat → Int32), i ≤ 8 → 8 < i + F → ∃ V2 : Nat → Int32, (∀ j, V2 j = if row + i ≤ j ∧ j < row + 8 then it_us_b (j - row) else V j) ∧ ((tq_ch c n (tq_pk c n p) = -1 ∨ fx_c_X12_spotOf_3 (tq_ch c n (tq_pk c n p)) = -1) → fx_c_X12_readItems_1_p3 98 (nI row) 0 (nI n) (nI p) g F (nI i) V = (nI (tq_pk c n p), -1, V2)) ∧ (∀ k, k < 8 → ¬ tq_ch c n (tq_pk c n p) = -1 → fx_c_X12_spotOf_3 (tq_ch c n (tq_pk c n p)) = nI k → fx_c_X12_readItems_1_p3 98 (nI row) 0 (nI n) (nI p) g F (nI i) V = fx_c_X12_readItems_1_p45b 98 (nI row) 0 (nI n) g exF (nI k) 0 (nI (tq_pk c n p)) V2) := by
  have hn := hT.2
  intro F
  induction F with
  | zero => intro i V h1 h2; omega
  | succ F ih =>
    intro i V h1 h2
    by_cases hi : i = 8
    · subst hi
      have e : fx_c_X12_readItems_1_p3 98 (nI row) 0 (nI n) (nI p) g (F + 1) (nI 8) V = if tq_ch c n (tq_pk c n p) = -1 then (nI (tq_pk c n p), -1, V) else fx_c_X12_readItems_1_p45b 98 (nI row) 0 (nI n) g exF (fx_c_X12_spotOf_3 (tq_ch c n (tq_pk c n p))) 0 (nI (tq_pk c n p)) V := by
        rw [fs_c_X12_readItems_1_p3, if_pos rfl]
        simp only [exc1, exc2, exl]
        rw [if_pos (by decide), rx_c_X12_look hT hG hp]
        rfl
      refine ⟨V, fun j => by rw [if_neg (by omega)], fun h => ?_, fun k hk h3 hix => ?_⟩
      · rw [e]
        by_cases h3 : tq_ch c n (tq_pk c n p) = -1
        · rw [if_pos h3]
        · rw [if_neg h3, h.resolve_left h3]
          have e0 : fx_c_X12_readItems_1_p45b 98 (nI row) 0 (nI n) g exF (-1) 0 (nI (tq_pk c n p)) V = fx_c_X12_readItems_1_p45b 98 (nI row) 0 (nI n) g (8589934591 + 1) (-1) 0 (nI (tq_pk c n p)) V := rfl
          rw [e0, fs_c_X12_readItems_1_p45b, if_pos rfl, if_pos rfl]
      · rw [e, if_neg h3, hix]
    · have hu := it_usb i (by omega)
      obtain ⟨V2, k1, k2, k3⟩ := ih (i + 1) (upd V (row + i) (it_us_b i)) (by omega) (by omega)
      have e : fx_c_X12_readItems_1_p3 98 (nI row) 0 (nI n) (nI p) g (F + 1) (nI i) V = fx_c_X12_readItems_1_p3 98 (nI row) 0 (nI n) (nI p) g F (nI (i + 1)) (upd V (row + i) (it_us_b i)) := by
        rw [fs_c_X12_readItems_1_p3, if_pos rfl]
        simp only [exc1, exc2, exl]
        rw [if_neg (show ¬ (8 : Int32) ≤ nI i from nI_ge (a := i) (b := 8) (by omega) (by omega)), nI_add, px_clamp (by omega), nI_1, hu.1]
        rcases hu.2 with z | z | z
        · rw [z, if_pos rfl]
        · rw [z, if_neg (by decide), if_pos rfl]
        · rw [z, if_neg (by decide), if_neg (by decide)]
      rw [e]
      refine ⟨V2, fun j => ?_, k2, k3⟩
      rw [k1 j]
      by_cases hj : j = row + i
      · rw [if_neg (by omega), if_pos (by omega), hj, upd_at]
        congr 1
        omega
      · by_cases h5 : row + (i + 1) ≤ j ∧ j < row + 8
        · rw [if_pos h5, if_pos (by omega)]
        · rw [if_neg h5, upd_ne _ _ hj, if_neg (by omega)]
theorem it_rt_b {c g : Nat → Int32} {n : Nat} (hT : TB c n) (hG : TG c g n) {row : Nat} (hrw : row ≤ 100) {p : Nat} (hp : p ≤ n) (V : Nat → Int32) : ∃ V2 : Nat → Int32, (∀ j, j < 8 → V2 (row + j) = it_us_b j) ∧ (∀ j, (j < row ∨ row + 8 ≤ j) → V2 j = V j) ∧ ((tq_ch c n (tq_pk c n p) = -1 ∨ fx_c_X12_spotOf_3 (tq_ch c n (tq_pk c n p)) = -1) → fx_c_X12_readItems_1 98 (nI row) 0 (nI n) (nI p) V g = (nI (tq_pk c n p), -1, V2)) ∧ (∀ k, k < 8 → ¬ tq_ch c n (tq_pk c n p) = -1 → fx_c_X12_spotOf_3 (tq_ch c n (tq_pk c n p)) = nI k → fx_c_X12_readItems_1 98 (nI row) 0 (nI n) (nI p) V g = fx_c_X12_readItems_1_p45b 98 (nI row) 0 (nI n) g exF (nI k) 0 (nI (tq_pk c n p)) V2) := by
  obtain ⟨V2, k1, k2, k3⟩ := it_rb_p3 hT hG hrw hp exF 0 V (by omega) (by unfold exF; omega)
  refine ⟨V2, fun j hj => ?_, fun j hj => ?_, k2, k3⟩
  · rw [k1, if_pos (by omega)]
    congr 1
    omega
  · rw [k1, if_neg (by omega)]
theorem it_cl_s {c g : Nat → Int32} {n : Nat} (hT : TB c n) (hG : TG c g n) {p : Nat} (hp : p < n) (nb nc : Nat) (hb : nb ≤ 8) (hc : nc ≤ 3) (V R B O : Nat → Int32) (h : BR nb nc V R B O) : IR n (p + 1) 4 0 0 (nI nb) (nI nc) 1 (fx_c_X0_setUsual V) R (fx_c_X0_readClause_p49 (nI n) c (nI nb) (nI nc) exF 0 0 (nI (p + 1)) (-1) (fx_c_X0_setUsual V)) (fx_c_X12_readItems_2 115 0 (nI n) (nI (p + 1)) R g) ∧ (∀ j, 4 ≤ j → fx_c_X0_setUsual V j = V j) := by
  have hn := hT.2
  have hs : ∀ j, fx_c_X0_setUsual V j = if 0 + 0 ≤ j ∧ j < 0 + 4 then it_us_s (j - 0) else V j := it_su_s exF 0 V (by omega) (by unfold exF; omega)
  obtain ⟨V2, k1, k2, k3, k4⟩ := it_rt_s hT hG (p := p + 1) (by omega) R
  refine ⟨?_, fun j hj => by rw [hs, if_neg (by omega)]⟩
  have hI := it_top hn (Or.inl rfl) it_xx_s hT (it_CS_s hT (nI nb) (nI nc)) (it_RS_s hT hG) (it_NR_s hT hG) (p := p + 1) (by omega) (fx_c_X0_setUsual V) V2 (fun j hj => by rw [hs, if_pos (by omega), k1 j hj]; congr 1; omega) _ k3 k4
  obtain ⟨i1, i2⟩ := hI
  refine ⟨i1, ?_⟩
  rcases i2 with ⟨j1, j2, x, j3, j4, j5, j6, j7, j8, j9⟩ | i2
  · exact Or.inl ⟨j1, j2, x, j3, j4, j5, j6, j7, j8, fun j hj => (j9 j hj).trans (k2 j hj)⟩
  · exact Or.inr i2
theorem it_cl_b {c g : Nat → Int32} {n : Nat} (hT : TB c n) (hG : TG c g n) {p : Nat} (hp : p < n) (nb : Nat) (a2 a3 : Int32) (hb : nb ≤ 7) (V B : Nat → Int32) : IR n (p + 1) 8 (4 + 8 * nb) (8 * nb) (nI (nb + 1)) a2 a3 (fx_c_X0_setUsual_1 (nI (4 + 8 * nb)) V) B (fx_c_X0_readClause_p49b (nI n) c a2 a3 exF 0 0 (nI (4 + 8 * nb)) (nI (p + 1)) (-1) (nI (nb + 1)) (fx_c_X0_setUsual_1 (nI (4 + 8 * nb)) V)) (fx_c_X12_readItems_1 98 (nI (8 * nb)) 0 (nI n) (nI (p + 1)) B g) ∧ (∀ j, (j < 4 + 8 * nb ∨ 4 + 8 * nb + 8 ≤ j) → fx_c_X0_setUsual_1 (nI (4 + 8 * nb)) V j = V j) := by
  have hn := hT.2
  have hs : ∀ j, fx_c_X0_setUsual_1 (nI (4 + 8 * nb)) V j = if 4 + 8 * nb + 0 ≤ j ∧ j < 4 + 8 * nb + 8 then it_us_b (j - (4 + 8 * nb)) else V j := by
    intro j
    have e : fx_c_X0_setUsual_1 (nI (4 + 8 * nb)) V = fx_c_X0_setUsual_1_p11 (nI (4 + 8 * nb)) exF 0 V := by rw [fx_c_X0_setUsual_1, exc1_eq rfl]
    rw [e, ← nI_0]
    exact it_su_b (4 + 8 * nb) (by omega) exF 0 V (by omega) (by unfold exF; omega) j
  obtain ⟨V2, k1, k2, k3, k4⟩ := it_rt_b hT hG (row := 8 * nb) (by omega) (p := p + 1) (by omega) B
  refine ⟨?_, fun j hj => by rw [hs, if_neg (by omega)]⟩
  have hI := it_top hn (Or.inr rfl) it_xx_b hT (it_CS_b hT (4 + 8 * nb) (by omega) (nI (nb + 1)) a2 a3) (it_RS_b hT hG (8 * nb) (by omega)) (it_NR_b hT hG) (p := p + 1) (by omega) (fx_c_X0_setUsual_1 (nI (4 + 8 * nb)) V) V2 (fun j hj => by rw [hs, if_pos (by omega), k1 j hj]; congr 1; omega) _ k3 k4
  obtain ⟨i1, i2⟩ := hI
  refine ⟨i1, ?_⟩
  rcases i2 with ⟨j1, j2, x, j3, j4, j5, j6, j7, j8, j9⟩ | i2
  · exact Or.inl ⟨j1, j2, x, j3, j4, j5, j6, j7, j8, fun j hj => (j9 j hj).trans (k2 j hj)⟩
  · exact Or.inr i2
theorem it_cl_c {c g : Nat → Int32} {n : Nat} (hT : TB c n) (hG : TG c g n) {p : Nat} (hp : p < n) (nc : Nat) (a1 a3 : Int32) (hb : nc ≤ 2) (V O : Nat → Int32) : IR n (p + 1) 4 (68 + 4 * nc) (4 * nc) a1 (nI (nc + 1)) a3 (fx_c_X0_setUsual_2 (nI (68 + 4 * nc)) V) O (fx_c_X0_readClause_p49c (nI n) c a1 a3 exF 0 0 (nI (68 + 4 * nc)) (nI (p + 1)) (-1) (nI (nc + 1)) (fx_c_X0_setUsual_2 (nI (68 + 4 * nc)) V)) (fx_c_X12_readItems 99 (nI (4 * nc)) 0 (nI n) (nI (p + 1)) O g) ∧ (∀ j, (j < 68 + 4 * nc ∨ 68 + 4 * nc + 4 ≤ j) → fx_c_X0_setUsual_2 (nI (68 + 4 * nc)) V j = V j) := by
  have hn := hT.2
  have hs : ∀ j, fx_c_X0_setUsual_2 (nI (68 + 4 * nc)) V j = if 68 + 4 * nc + 0 ≤ j ∧ j < 68 + 4 * nc + 4 then it_us_c (j - (68 + 4 * nc)) else V j := by
    intro j
    have e : fx_c_X0_setUsual_2 (nI (68 + 4 * nc)) V = fx_c_X0_setUsual_2_p11 (nI (68 + 4 * nc)) exF 0 V := by rw [fx_c_X0_setUsual_2, exc1_eq rfl]
    rw [e, ← nI_0]
    exact it_su_c (68 + 4 * nc) (by omega) exF 0 V (by omega) (by unfold exF; omega) j
  obtain ⟨V2, k1, k2, k3, k4⟩ := it_rt_c hT hG (row := 4 * nc) (by omega) (p := p + 1) (by omega) O
  refine ⟨?_, fun j hj => by rw [hs, if_neg (by omega)]⟩
  have hI := it_top hn (Or.inl rfl) it_xx_c hT (it_CS_c hT (68 + 4 * nc) (by omega) a1 (nI (nc + 1)) a3) (it_RS_c hT hG (4 * nc) (by omega)) (it_NR_c hT hG) (p := p + 1) (by omega) (fx_c_X0_setUsual_2 (nI (68 + 4 * nc)) V) V2 (fun j hj => by rw [hs, if_pos (by omega), k1 j hj]; congr 1; omega) _ k3 k4
  obtain ⟨i1, i2⟩ := hI
  refine ⟨i1, ?_⟩
  rcases i2 with ⟨j1, j2, x, j3, j4, j5, j6, j7, j8, j9⟩ | i2
  · exact Or.inl ⟨j1, j2, x, j3, j4, j5, j6, j7, j8, fun j hj => (j9 j hj).trans (k2 j hj)⟩
  · exact Or.inr i2
theorem ze1 {α β : Type} (q : α) (f : α → β) : exc1 q f = f q := exc1_eq rfl
theorem zel {α β : Type} (q : α) (f : α → β) : exl q f = f q := exl_eq rfl
theorem ze2 {α β ρ : Type} (q : α × β) (f : α → β → ρ) : exc2 q f = f q.1 q.2 := exc2_eq (a := q.1) (b := q.2) rfl
theorem ze3 {α β γ ρ : Type} (q : α × β × γ) (f : α → β → γ → ρ) : exc3 q f = f q.1 q.2.1 q.2.2 := exc3_eq (a := q.1) (b := q.2.1) (c := q.2.2) rfl
theorem it_bc_s (V : Nat → Int32) : fx_c_X0_beginClause V = (0, fx_c_X0_setUsual V) := by rw [fx_c_X0_beginClause, fx_c_X0_beginClause_p62, exc1_eq rfl]
theorem it_bc_b (x : Int32) (V : Nat → Int32) : fx_c_X0_beginClause_1 x V = (4 + x * 8, x + 1, fx_c_X0_setUsual_1 (4 + x * 8) V) := by rw [fx_c_X0_beginClause_1, exl_eq rfl, exl_eq rfl, exl_eq rfl, fx_c_X0_beginClause_1_p62, exc1_eq rfl]
theorem it_bc_c (x : Int32) (V : Nat → Int32) : fx_c_X0_beginClause_2 x V = (68 + x * 4, x + 1, fx_c_X0_setUsual_2 (68 + x * 4) V) := by rw [fx_c_X0_beginClause_2, exl_eq rfl, exl_eq rfl, exl_eq rfl, fx_c_X0_beginClause_2_p62, exc1_eq rfl]
/-- a CLAUSE: alike -/
theorem it_clause {c g : Nat → Int32} {n : Nat} (hT : TB c n) (hG : TG c g n) {p : Nat} (hp : p ≤ n) (nb nc : Nat) (hb : nb ≤ 8) (hc : nc ≤ 3) (rl : Int32) (hrl : rl = 0 ∨ rl = 1) (V R B O : Nat → Int32) (h : BR nb nc V R B O) : CLR n p (fx_c_X0_readClause (nI n) (nI p) (-1) c (nI nb) (nI nc) rl V) (fx_c_X12_readClause 0 (nI n) (nI p) (nI nb) (nI nc) rl R O g B) := by
  have hn := hT.2
  have g3 := tq_pk_ge (c := c) hp
  have g5 := tq_pk_le (c := c) hp
  have hbad : ∀ (X : Int32 × Int32 × Int32 × Int32 × Int32 × (Nat → Int32)) (Y : Int32 × Int32 × Int32 × Int32 × Int32 × (Nat → Int32) × (Nat → Int32) × (Nat → Int32)), X = (nI (tq_pk c n p), nI (tq_pk c n p), nI nb, nI nc, rl, V) → Y = (nI (tq_pk c n p), nI (tq_pk c n p), nI nb, nI nc, rl, R, O, B) → CLR n p X Y := fun X Y e1 e2 => by
    rw [e1, e2]
    exact Or.inr ⟨tq_pk c n p, tq_pk c n p, g5, g5, rfl, rfl, rfl⟩
  by_cases h1 : tq_ch c n (tq_pk c n p) = -1
  · refine hbad _ _ ?_ ?_
    · rw [fx_c_X0_readClause]
      generalize exF = F0
      simp only [fx_c_X0_readClause_p22, ze1, ze2]
      rw [px_c_X9_peek hT hp]
      simp only []
      rw [if_pos h1]
      rfl
    · simp only [fx_c_X12_readClause, fx_c_X12_readClause_p51, exc1, exc2]
      rw [rx_c_X12_look hT hG hp]
      simp only []
      rw [if_pos h1]
  · have g4 := tq_ch_lt h1
    obtain ⟨j, hj, ej⟩ := RG_nI (tq_ch_RG0 hT h1) (by decide)
    have hk := it_kd j hj
    rw [← ej] at hk
    by_cases ks : tq_ch c n (tq_pk c n p) = 115
    · rw [if_pos ks] at hk
      by_cases hr0 : rl = 0
      · subst hr0
        obtain ⟨⟨⟨x1, x2, x3⟩, hI⟩, hfr⟩ := it_cl_s hT hG g4 nb nc hb hc V R B O h
        have eX : fx_c_X0_readClause (nI n) (nI p) (-1) c (nI nb) (nI nc) 0 V = fx_c_X0_readClause_p49 (nI n) c (nI nb) (nI nc) exF 0 0 (nI (tq_pk c n p + 1)) (-1) (fx_c_X0_setUsual V) := by
          rw [fx_c_X0_readClause]
          generalize exF = F0
          simp only [ze1, ze2]
          rw [px_c_X9_peek hT hp]
          simp only []
          rw [if_neg h1, hk, if_neg (by decide), if_neg (by decide), if_pos rfl, if_neg (by decide), px_skip, it_bc_s]
        have eY : fx_c_X12_readClause 0 (nI n) (nI p) (nI nb) (nI nc) 0 R O g B = if (fx_c_X12_readItems_2 115 0 (nI n) (nI (tq_pk c n p + 1)) R g).2.1 = -1 then ((fx_c_X12_readItems_2 115 0 (nI n) (nI (tq_pk c n p + 1)) R g).1, -1, nI nb, nI nc, 1, (fx_c_X12_readItems_2 115 0 (nI n) (nI (tq_pk c n p + 1)) R g).2.2, O, B) else ((fx_c_X12_readItems_2 115 0 (nI n) (nI (tq_pk c n p + 1)) R g).1, (fx_c_X12_readItems_2 115 0 (nI n) (nI (tq_pk c n p + 1)) R g).2.1, nI nb, nI nc, 1, (fx_c_X12_readItems_2 115 0 (nI n) (nI (tq_pk c n p + 1)) R g).2.2, O, B) := by
          simp only [fx_c_X12_readClause, exc1, exc2, exc3, exl]
          rw [rx_c_X12_look hT hG hp]
          simp only []
          rw [if_neg h1, if_pos ks, if_pos trivial, if_pos ks, ks, nI_1]
        rw [eX, eY]
        rcases hI with ⟨j1, j2, x, j3, j4, j5, j6, j7, j8, j9⟩ | ⟨q, x, k1, k2, k3, k4, k5⟩
        · rw [if_pos j2]
          refine Or.inl ⟨j1, rfl, x, nb, nc, by omega, j4, hb, hc, j5, j6, x1, rfl, x2, rfl, x3, Or.inr x3, fun k hk => ?_, fun k hk => ?_, fun k hk => ?_⟩
          · have h9 := j7 k hk
            rw [Nat.zero_add] at h9
            exact h9
          · rw [j8 _ (by omega), hfr _ (by omega)]
            exact h.2.1 k hk
          · rw [j8 _ (by omega), hfr _ (by omega)]
            exact h.2.2 k hk
        · rw [if_neg (by rw [k4]; exact nI_m1 (by omega))]
          exact Or.inr ⟨q, x, k1, k2, k3, k4, k5⟩
      · refine hbad _ _ ?_ ?_
        · rw [fx_c_X0_readClause]
          generalize exF = F0
          simp only [fx_c_X0_readClause_p22, ze1, ze2]
          rw [px_c_X9_peek hT hp]
          simp only []
          rw [if_neg h1, hk, if_neg (by decide), if_neg (by decide), if_pos rfl, show fx_c_X0_hasRoomFor rl = 0 from if_neg hr0, if_pos rfl]
          rfl
        · simp only [fx_c_X12_readClause, fx_c_X12_readClause_p51b, exc1, exc2]
          rw [rx_c_X12_look hT hG hp]
          simp only []
          rw [if_neg h1, if_pos ks, if_neg hr0, if_neg (by rw [ks]; decide), if_neg (by rw [ks]; decide)]
    · rw [if_neg ks] at hk
      by_cases kb : tq_ch c n (tq_pk c n p) = 98
      · rw [if_pos kb] at hk
        by_cases hr0 : nb < 8
        · obtain ⟨⟨⟨x1, x2, x3⟩, hI⟩, hfr⟩ := it_cl_b hT hG g4 nb (nI nc) rl (by omega) V B
          have e4 : (4 : Int32) + nI nb * 8 = nI (4 + 8 * nb) := (by decide : ∀ b, b < 8 → (4 : Int32) + nI b * 8 = nI (4 + 8 * b)) nb hr0
          have e8 : (8 : Int32) * (nI (nb + 1) - 1) = nI (8 * nb) := (by decide : ∀ b, b < 8 → (8 : Int32) * (nI (b + 1) - 1) = nI (8 * b)) nb hr0
          have eX : fx_c_X0_readClause (nI n) (nI p) (-1) c (nI nb) (nI nc) rl V = fx_c_X0_readClause_p49b (nI n) c (nI nc) rl exF 0 0 (nI (4 + 8 * nb)) (nI (tq_pk c n p + 1)) (-1) (nI (nb + 1)) (fx_c_X0_setUsual_1 (nI (4 + 8 * nb)) V) := by
            rw [fx_c_X0_readClause]
            generalize exF = F0
            simp only [ze1, ze2, ze3, zel]
            rw [px_c_X9_peek hT hp]
            simp only []
            rw [if_neg h1, hk, if_neg (by decide), if_neg (by decide), if_neg (by decide), if_pos rfl, show fx_c_X0_hasRoomFor_1 (nI nb) = 1 from if_neg (show ¬ (8 : Int32) ≤ nI nb from nI_ge (a := nb) (b := 8) (by omega) (by omega)), if_neg (by decide), px_skip, it_bc_b, e4, nI_1]
          have eY : fx_c_X12_readClause 0 (nI n) (nI p) (nI nb) (nI nc) rl R O g B = if (fx_c_X12_readItems_1 98 (nI (8 * nb)) 0 (nI n) (nI (tq_pk c n p + 1)) B g).2.1 = -1 then ((fx_c_X12_readItems_1 98 (nI (8 * nb)) 0 (nI n) (nI (tq_pk c n p + 1)) B g).1, -1, nI (nb + 1), nI nc, rl, R, O, (fx_c_X12_readItems_1 98 (nI (8 * nb)) 0 (nI n) (nI (tq_pk c n p + 1)) B g).2.2) else ((fx_c_X12_readItems_1 98 (nI (8 * nb)) 0 (nI n) (nI (tq_pk c n p + 1)) B g).1, (fx_c_X12_readItems_1 98 (nI (8 * nb)) 0 (nI n) (nI (tq_pk c n p + 1)) B g).2.1, nI (nb + 1), nI nc, rl, R, O, (fx_c_X12_readItems_1 98 (nI (8 * nb)) 0 (nI n) (nI (tq_pk c n p + 1)) B g).2.2) := by
            simp only [fx_c_X12_readClause, exc1, exc2, exc3, exl]
            rw [rx_c_X12_look hT hG hp]
            simp only []
            rw [if_neg h1, if_neg ks, if_pos kb, if_pos (show nI nb < (8 : Int32) from nI_lt (a := nb) (b := 8) (by omega) (by omega)), if_neg ks, if_pos kb, kb, nI_1, nI_1, e8]
          rw [eX, eY]
          rcases hI with ⟨j1, j2, x, j3, j4, j5, j6, j7, j8, j9⟩ | ⟨q, x, k1, k2, k3, k4, k5⟩
          · rw [if_pos j2]
            refine Or.inl ⟨j1, rfl, x, nb + 1, nc, by omega, j4, by omega, hc, j5, j6, x1, rfl, x2, rfl, x3, by rw [x3]; exact hrl, fun k hk => ?_, fun k hk => ?_, fun k hk => ?_⟩
            · rw [j8 _ (by omega), hfr _ (by omega)]
              exact h.1 k hk
            · by_cases h9 : k < 8 * nb
              · rw [j8 _ (by omega), hfr _ (by omega), j9 _ (by omega)]
                exact h.2.1 k h9
              · have h10 := j7 (k - 8 * nb) (by omega)
                have e1 : 4 + 8 * nb + (k - 8 * nb) = 4 + k := by omega
                have e2 : 8 * nb + (k - 8 * nb) = k := by omega
                rw [e1, e2] at h10
                exact h10
            · rw [j8 _ (by omega), hfr _ (by omega)]
              exact h.2.2 k hk
          · rw [if_neg (by rw [k4]; exact nI_m1 (by omega))]
            exact Or.inr ⟨q, x, k1, k2, k3, k4, k5⟩
        · refine hbad _ _ ?_ ?_
          · rw [fx_c_X0_readClause]
            generalize exF = F0
            simp only [fx_c_X0_readClause_p22, ze1, ze2]
            rw [px_c_X9_peek hT hp]
            simp only []
            rw [if_neg h1, hk, if_neg (by decide), if_neg (by decide), if_neg (by decide), if_pos rfl, show fx_c_X0_hasRoomFor_1 (nI nb) = 0 from if_pos (show (8 : Int32) ≤ nI nb from nI_le (a := 8) (b := nb) (by omega) (by omega)), if_pos rfl]
            rfl
          · simp only [fx_c_X12_readClause, fx_c_X12_readClause_p51b, exc1, exc2]
            rw [rx_c_X12_look hT hG hp]
            simp only []
            rw [if_neg h1, if_neg ks, if_pos kb, if_neg (show ¬ nI nb < (8 : Int32) from nI_nlt (a := nb) (b := 8) (by omega) (by omega)), if_neg (by rw [kb]; decide)]
      · rw [if_neg kb] at hk
        by_cases kc : tq_ch c n (tq_pk c n p) = 99
        · rw [if_pos kc] at hk
          by_cases hr0 : nc < 3
          · obtain ⟨⟨⟨x1, x2, x3⟩, hI⟩, hfr⟩ := it_cl_c hT hG g4 nc (nI nb) rl (by omega) V O
            have e4 : (68 : Int32) + nI nc * 4 = nI (68 + 4 * nc) := (by decide : ∀ b, b < 3 → (68 : Int32) + nI b * 4 = nI (68 + 4 * b)) nc hr0
            have e8 : (4 : Int32) * (nI (nc + 1) - 1) = nI (4 * nc) := (by decide : ∀ b, b < 3 → (4 : Int32) * (nI (b + 1) - 1) = nI (4 * b)) nc hr0
            have eX : fx_c_X0_readClause (nI n) (nI p) (-1) c (nI nb) (nI nc) rl V = fx_c_X0_readClause_p49c (nI n) c (nI nb) rl exF 0 0 (nI (68 + 4 * nc)) (nI (tq_pk c n p + 1)) (-1) (nI (nc + 1)) (fx_c_X0_setUsual_2 (nI (68 + 4 * nc)) V) := by
              rw [fx_c_X0_readClause]
              generalize exF = F0
              simp only [ze1, ze2, ze3, zel]
              rw [px_c_X9_peek hT hp]
              simp only []
              rw [if_neg h1, hk, if_neg (by decide), if_neg (by decide), if_neg (by decide), if_neg (by decide), if_pos rfl, show fx_c_X0_hasRoomFor_2 (nI nc) = 1 from if_neg (show ¬ (3 : Int32) ≤ nI nc from nI_ge (a := nc) (b := 3) (by omega) (by omega)), if_neg (by decide), px_skip, it_bc_c, e4, nI_1]
            have eY : fx_c_X12_readClause 0 (nI n) (nI p) (nI nb) (nI nc) rl R O g B = if (fx_c_X12_readItems 99 (nI (4 * nc)) 0 (nI n) (nI (tq_pk c n p + 1)) O g).2.1 = -1 then ((fx_c_X12_readItems 99 (nI (4 * nc)) 0 (nI n) (nI (tq_pk c n p + 1)) O g).1, -1, nI nb, nI (nc + 1), rl, R, (fx_c_X12_readItems 99 (nI (4 * nc)) 0 (nI n) (nI (tq_pk c n p + 1)) O g).2.2, B) else ((fx_c_X12_readItems 99 (nI (4 * nc)) 0 (nI n) (nI (tq_pk c n p + 1)) O g).1, (fx_c_X12_readItems 99 (nI (4 * nc)) 0 (nI n) (nI (tq_pk c n p + 1)) O g).2.1, nI nb, nI (nc + 1), rl, R, (fx_c_X12_readItems 99 (nI (4 * nc)) 0 (nI n) (nI (tq_pk c n p + 1)) O g).2.2, B) := by
              simp only [fx_c_X12_readClause, exc1, exc2, exc3, exl]
              rw [rx_c_X12_look hT hG hp]
              simp only []
              rw [if_neg h1, if_neg ks, if_neg kb, if_pos kc, if_neg (show ¬ (3 : Int32) ≤ nI nc from nI_ge (a := nc) (b := 3) (by omega) (by omega)), if_neg ks, if_neg kb, kc, nI_1, nI_1, e8]
            rw [eX, eY]
            rcases hI with ⟨j1, j2, x, j3, j4, j5, j6, j7, j8, j9⟩ | ⟨q, x, k1, k2, k3, k4, k5⟩
            · rw [if_pos j2]
              refine Or.inl ⟨j1, rfl, x, nb, nc + 1, by omega, j4, hb, by omega, j5, j6, x1, rfl, x2, rfl, x3, by rw [x3]; exact hrl, fun k hk => ?_, fun k hk => ?_, fun k hk => ?_⟩
              · rw [j8 _ (by omega), hfr _ (by omega)]
                exact h.1 k hk
              · rw [j8 _ (by omega), hfr _ (by omega)]
                exact h.2.1 k hk
              · simp only []
                by_cases h9 : k < 4 * nc
                · rw [j8 _ (by omega), hfr _ (by omega), j9 _ (by omega)]
                  exact h.2.2 k h9
                · have h10 := j7 (k - 4 * nc) (by omega)
                  have e1 : 68 + 4 * nc + (k - 4 * nc) = 68 + k := by omega
                  have e2 : 4 * nc + (k - 4 * nc) = k := by omega
                  rw [e1, e2] at h10
                  exact h10
            · rw [if_neg (by rw [k4]; exact nI_m1 (by omega))]
              exact Or.inr ⟨q, x, k1, k2, k3, k4, k5⟩
          · refine hbad _ _ ?_ ?_
            · rw [fx_c_X0_readClause]
              generalize exF = F0
              simp only [fx_c_X0_readClause_p22, ze1, ze2]
              rw [px_c_X9_peek hT hp]
              simp only []
              rw [if_neg h1, hk, if_neg (by decide), if_neg (by decide), if_neg (by decide), if_neg (by decide), if_pos rfl, show fx_c_X0_hasRoomFor_2 (nI nc) = 0 from if_pos (show (3 : Int32) ≤ nI nc from nI_le (a := 3) (b := nc) (by omega) (by omega)), if_pos rfl]
              rfl
            · simp only [fx_c_X12_readClause, fx_c_X12_readClause_p51b, exc1, exc2]
              rw [rx_c_X12_look hT hG hp]
              simp only []
              rw [if_neg h1, if_neg ks, if_neg kb, if_pos kc, if_pos (show (3 : Int32) ≤ nI nc from nI_le (a := 3) (b := nc) (by omega) (by omega))]
        · rw [if_neg kc] at hk
          refine hbad _ _ ?_ ?_
          · rw [fx_c_X0_readClause]
            generalize exF = F0
            simp only [fx_c_X0_readClause_p22, ze1, ze2]
            rw [px_c_X9_peek hT hp]
            simp only []
            rw [if_neg h1, hk, if_pos rfl]
            rfl
          · simp only [fx_c_X12_readClause, fx_c_X12_readClause_p51b, exc1, exc2]
            rw [rx_c_X12_look hT hG hp]
            simp only []
            rw [if_neg h1, if_neg ks, if_neg kb, if_neg kc]
theorem fs_c_X0_isWhole_p30 (h0_0c : Nat → Int32) (j20_l1 : Int32) (k_20 : Int32 → Int32) (F : Nat) (j30_l2 : Int32) : fx_c_X0_isWhole_p30 h0_0c j20_l1 k_20 (F + 1) j30_l2 = ((if j30_l2 = j30_l2 then (if j20_l1 ≤ j30_l2 then (exl (j20_l1 + 1) fun (x_4 : Int32) => (k_20 x_4)) else (exc1 (fx_c_X0_buoyX j20_l1 h0_0c) fun (r_9 : Int32) => (exc1 (fx_c_X0_buoyX j30_l2 h0_0c) fun (r_12 : Int32) => (if r_9 = r_12 then (exc1 (fx_c_X0_buoyY j20_l1 h0_0c) fun (r_16 : Int32) => (exc1 (fx_c_X0_buoyY j30_l2 h0_0c) fun (r_19 : Int32) => (if r_16 = r_19 then 0 else (fx_c_X0_isWhole_p63 j30_l2 (fx_c_X0_isWhole_p30 h0_0c j20_l1 k_20 F))))) else (fx_c_X0_isWhole_p63 j30_l2 (fx_c_X0_isWhole_p30 h0_0c j20_l1 k_20 F)))))) else default) : Int32) := rfl
theorem fs_c_X0_isWhole_p20 (h0_f1 : Int32) (h0_0c : Nat → Int32) (F : Nat) (j20_l1 : Int32) : fx_c_X0_isWhole_p20 h0_f1 h0_0c (F + 1) j20_l1 = ((if j20_l1 = j20_l1 then (if h0_f1 ≤ j20_l1 then 1 else (fx_c_X0_isWhole_p30 h0_0c j20_l1 (fx_c_X0_isWhole_p20 h0_f1 h0_0c F) exF 0)) else default) : Int32) := rfl
theorem fs_c_X12_isWhole_p12 (h0_21c : Nat → Int32) (j2_l1 : Int32) (k_2 : Int32 → Int32) (F : Nat) (j12_l2 : Int32) : fx_c_X12_isWhole_p12 h0_21c j2_l1 k_2 (F + 1) j12_l2 = ((if j12_l2 = j12_l2 then (if j2_l1 ≤ j12_l2 then (exl (j2_l1 + 1) fun (x_4 : Int32) => (k_2 x_4)) else (exl (8 * j2_l1) fun (x_9 : Int32) => (exl (h0_21c (x_9 : Int32).toNatClampNeg) fun (x_11 : Int32) => (exl (8 * j12_l2) fun (x_13 : Int32) => (exl (h0_21c (x_13 : Int32).toNatClampNeg) fun (x_15 : Int32) => (if x_11 = x_15 then (exl (x_9 + 1) fun (x_19 : Int32) => (exl (h0_21c (x_19 : Int32).toNatClampNeg) fun (x_21 : Int32) => (exl (x_13 + 1) fun (x_24 : Int32) => (exl (h0_21c (x_24 : Int32).toNatClampNeg) fun (x_26 : Int32) => (if x_21 = x_26 then 0 else (fx_c_X12_isWhole_p65 j12_l2 (fx_c_X12_isWhole_p12 h0_21c j2_l1 k_2 F))))))) else (fx_c_X12_isWhole_p65 j12_l2 (fx_c_X12_isWhole_p12 h0_21c j2_l1 k_2 F)))))))) else default) : Int32) := rfl
theorem fs_c_X12_isWhole_p2 (h0_f28 : Int32) (h0_f29 : Int32) (h0_21c : Nat → Int32) (F : Nat) (j2_l1 : Int32) : fx_c_X12_isWhole_p2 h0_f28 h0_f29 h0_21c (F + 1) j2_l1 = ((if j2_l1 = j2_l1 then (if h0_f28 ≤ j2_l1 then (if h0_f28 ≤ 0 then 0 else (if h0_f29 ≤ 1 then 0 else 1)) else (fx_c_X12_isWhole_p12 h0_21c j2_l1 (fx_c_X12_isWhole_p2 h0_f28 h0_f29 h0_21c F) exF 0)) else default) : Int32) := rfl
theorem fs_c_X0_faultOf_p27 (h1_f1 : Int32) (h1_0c : Nat → Int32) (F : Nat) (j27_l2 : Int32) (j27_h0_f1 : Int32) (j27_h0_f2 : Int32) (j27_h0_f3 : Int32) (j27_h0_0c : (Nat → Int32)) (j27_h1_f2 : Int32) (j27_h1_f3 : Int32) : fx_c_X0_faultOf_p27 h1_f1 h1_0c (F + 1) j27_l2 j27_h0_f1 j27_h0_f2 j27_h0_f3 j27_h0_0c j27_h1_f2 j27_h1_f3 = ((if j27_l2 = j27_l2 then (if 240 ≤ j27_l2 then (fx_c_X0_faultOf_p57 h1_f1 h1_0c j27_h0_f1 j27_h0_f2 j27_h0_f3 j27_h0_0c j27_h1_f2 j27_h1_f3) else (exc6 (fx_c_X0_readClause h1_f1 j27_h1_f2 j27_h1_f3 h1_0c j27_h0_f1 j27_h0_f2 j27_h0_f3 j27_h0_0c) fun (x_38 : Int32) (x_39 : Int32) (x_40 : Int32) (x_41 : Int32) (x_42 : Int32) (w_43 : Nat → Int32) => (exc2 (fx_c_X9_take 59 h1_f1 x_38 x_39 h1_0c) fun (r_51 : Int32) (x_52 : Int32) => (if r_51 = 0 then (fx_c_X0_faultOf_p57 h1_f1 h1_0c x_40 x_41 x_42 w_43 x_52 x_39) else (exl (j27_l2 + 1) fun (x_65 : Int32) => ((fx_c_X0_faultOf_p27 h1_f1 h1_0c F) x_65 x_40 x_41 x_42 w_43 x_52 x_39)))))) else default) : Int32 × Int32 × Int32 × Int32 × (Nat → Int32) × Int32 × Int32) := rfl
theorem fs_c_X12_readBorough_p55 (h0_f6 : Int32) (h0_1c : Nat → Int32) (F : Nat) (j55_h0_f10 : Int32) (j55_h0_f28 : Int32) (j55_h0_f29 : Int32) (j55_h0_f31 : Int32) (j55_h0_19c : (Nat → Int32)) (j55_h0_23c : (Nat → Int32)) (j55_h0_21c : (Nat → Int32)) : fx_c_X12_readBorough_p55 h0_f6 h0_1c (F + 1) j55_h0_f10 j55_h0_f28 j55_h0_f29 j55_h0_f31 j55_h0_19c j55_h0_23c j55_h0_21c = ((if j55_h0_f10 = j55_h0_f10 then (exc8 (fx_c_X12_readClause 0 h0_f6 j55_h0_f10 j55_h0_f28 j55_h0_f29 j55_h0_f31 j55_h0_19c j55_h0_23c h0_1c j55_h0_21c) fun (x_44 : Int32) (x_45 : Int32) (x_46 : Int32) (x_47 : Int32) (x_48 : Int32) (w_49 : Nat → Int32) (w_50 : Nat → Int32) (w_51 : Nat → Int32) => (if x_45 = (-1) then (exc2 (fx_c_X12_look 0 h0_f6 x_44 h0_1c) fun (r_75 : Int32) (x_76 : Int32) => (if r_75 = (-1) then (fx_c_X12_readBorough_p92 h0_f6 h0_1c x_76 x_46 x_47 x_48 w_49 w_50 w_51) else (if r_75 = 59 then (fx_c_X12_readBorough_p93 (fx_c_X12_readBorough_p55 h0_f6 h0_1c F) x_76 x_46 x_47 x_48 w_49 w_50 w_51) else (fx_c_X12_readBorough_p92 h0_f6 h0_1c x_76 x_46 x_47 x_48 w_49 w_50 w_51)))) else (if x_45 = (-1) then (default) else (fx_c_X12_readBorough_p92b x_44 x_45 x_46 x_47 x_48 w_49 w_50 w_51)))) else default) : Int32 × Int32 × Int32 × Int32 × Int32 × (Nat → Int32) × (Nat → Int32) × (Nat → Int32)) := rfl
/-- two BUOYS in one place: alike -/
theorem it_bXY (V B : Nat → Int32) (nb a : Nat) (ha : a < nb) (hb : nb ≤ 8) (h : ∀ k, k < 8 * nb → V (4 + k) = B k) : fx_c_X0_buoyX (nI a) V = B (8 * a) ∧ fx_c_X0_buoyY (nI a) V = B (8 * a + 1) ∧ (8 * nI a : Int32).toNatClampNeg = 8 * a ∧ (8 * nI a + 1 : Int32).toNatClampNeg = 8 * a + 1 := by
  have e1 := (by decide : ∀ b, b < 8 → ((4 : Int32) + nI b * 8).toNatClampNeg = 4 + 8 * b ∧ ((4 : Int32) + nI b * 8 + 1).toNatClampNeg = 4 + (8 * b + 1) ∧ (8 * nI b : Int32).toNatClampNeg = 8 * b ∧ (8 * nI b + 1 : Int32).toNatClampNeg = 8 * b + 1) a (by omega)
  refine ⟨?_, ?_, e1.2.2.1, e1.2.2.2⟩
  · simp only [fx_c_X0_buoyX, exl]
    rw [e1.1]
    exact h _ (by omega)
  · simp only [fx_c_X0_buoyY, exl]
    rw [e1.2.1]
    exact h _ (by omega)
theorem it_in (V B : Nat → Int32) (nb a : Nat) (ha : a < nb) (hb : nb ≤ 8) (h : ∀ k, k < 8 * nb → V (4 + k) = B k) (K1 K2 : Int32 → Int32) (hK : K1 (nI (a + 1)) = K2 (nI (a + 1))) : ∀ (F b : Nat), b ≤ a → a < b + F → fx_c_X0_isWhole_p30 V (nI a) K1 F (nI b) = fx_c_X12_isWhole_p12 B (nI a) K2 F (nI b) := by
  intro F
  induction F with
  | zero => intro b h1 h2; omega
  | succ F ih =>
    intro b h1 h2
    rw [fs_c_X0_isWhole_p30, if_pos rfl, fs_c_X12_isWhole_p12, if_pos rfl]
    simp only [exc1, exl, fx_c_X0_isWhole_p63, fx_c_X12_isWhole_p65]
    obtain ⟨a1, a2, a3, a4⟩ := it_bXY V B nb a ha hb h
    by_cases hab : a ≤ b
    · rw [if_pos (nI_le hab (by omega)), if_pos (nI_le hab (by omega)), nI_1]
      exact hK
    · obtain ⟨b1, b2, b3, b4⟩ := it_bXY V B nb b (by omega) hb h
      rw [if_neg (nI_ge (by omega) (by omega)), if_neg (nI_ge (by omega) (by omega)), a1, a2, a3, a4, b1, b2, b3, b4, nI_1, ih (b + 1) (by omega) (by omega)]
theorem it_out (V B : Nat → Int32) (nb nc : Nat) (hb : nb ≤ 8) (h1b : 1 ≤ nb) (h2c : 2 ≤ nc) (hc : nc ≤ 3) (h : ∀ k, k < 8 * nb → V (4 + k) = B k) : ∀ (F a : Nat), a ≤ nb → nb < a + F → fx_c_X0_isWhole_p20 (nI nb) V F (nI a) = fx_c_X12_isWhole_p2 (nI nb) (nI nc) B F (nI a) := by
  intro F
  induction F with
  | zero => intro a h1 h2; omega
  | succ F ih =>
    intro a h1 h2
    rw [fs_c_X0_isWhole_p20, if_pos rfl, fs_c_X12_isWhole_p2, if_pos rfl]
    by_cases hab : nb ≤ a
    · rw [if_pos (nI_le hab (by omega)), if_pos (nI_le hab (by omega)), if_neg (show ¬ nI nb ≤ (0 : Int32) from nI_ge (a := 0) (b := nb) (by omega) (by omega)), if_neg (show ¬ nI nc ≤ (1 : Int32) from nI_ge (a := 1) (b := nc) (by omega) (by omega))]
    · rw [if_neg (nI_ge (by omega) (by omega)), if_neg (nI_ge (by omega) (by omega))]
      exact it_in V B nb a (by omega) hb h _ _ (ih (a + 1) (by omega) (by omega)) exF 0 (by omega) (by unfold exF; omega)
theorem it_in0 (B : Nat → Int32) (nb a : Nat) (ha : a < nb) (hb : nb ≤ 8) (K2 : Int32 → Int32) (hK : K2 (nI (a + 1)) = 0) : ∀ (F b : Nat), b ≤ a → a < b + F → fx_c_X12_isWhole_p12 B (nI a) K2 F (nI b) = 0 := by
  intro F
  induction F with
  | zero => intro b h1 h2; omega
  | succ F ih =>
    intro b h1 h2
    rw [fs_c_X12_isWhole_p12, if_pos rfl]
    simp only [exc1, exl, fx_c_X12_isWhole_p65]
    by_cases hab : a ≤ b
    · rw [if_pos (nI_le hab (by omega)), nI_1]
      exact hK
    · rw [if_neg (nI_ge (by omega) (by omega)), nI_1, ih (b + 1) (by omega) (by omega)]
      split
      · split <;> rfl
      · rfl
theorem it_out0 (B : Nat → Int32) (nb nc : Nat) (hb : nb ≤ 8) (hc : nc ≤ 3) (h0 : nb < 1 ∨ nc < 2) : ∀ (F a : Nat), a ≤ nb → nb < a + F → fx_c_X12_isWhole_p2 (nI nb) (nI nc) B F (nI a) = 0 := by
  intro F
  induction F with
  | zero => intro a h1 h2; omega
  | succ F ih =>
    intro a h1 h2
    rw [fs_c_X12_isWhole_p2, if_pos rfl]
    by_cases hab : nb ≤ a
    · rw [if_pos (nI_le hab (by omega))]
      by_cases h5 : nb = 0
      · rw [if_pos (show nI nb ≤ (0 : Int32) from nI_le (a := nb) (b := 0) (by omega) (by omega))]
      · rw [if_neg (show ¬ nI nb ≤ (0 : Int32) from nI_ge (a := 0) (b := nb) (by omega) (by omega)), if_pos (show nI nc ≤ (1 : Int32) from nI_le (a := nc) (b := 1) (by omega) (by omega))]
    · rw [if_neg (nI_ge (by omega) (by omega))]
      exact it_in0 B nb a (by omega) hb _ (ih (a + 1) (by omega) (by omega)) exF 0 (by omega) (by unfold exF; omega)
theorem it_whole (V B : Nat → Int32) (nb nc : Nat) (hb : nb ≤ 8) (hc : nc ≤ 3) (h : ∀ k, k < 8 * nb → V (4 + k) = B k) : fx_c_X0_isWhole (nI nb) (nI nc) V = fx_c_X12_isWhole (nI nb) (nI nc) B := by
  have e2 : fx_c_X12_isWhole (nI nb) (nI nc) B = fx_c_X12_isWhole_p2 (nI nb) (nI nc) B exF (nI 0) := rfl
  rw [e2]
  simp only [fx_c_X0_isWhole]
  by_cases h1 : nb < 1
  · rw [if_pos (show nI nb < (1 : Int32) from nI_lt (a := nb) (b := 1) h1 (by omega))]
    exact (it_out0 B nb nc hb hc (Or.inl h1) exF 0 (by omega) (by unfold exF; omega)).symm
  · rw [if_neg (show ¬ nI nb < (1 : Int32) from nI_nlt (a := nb) (b := 1) (by omega) (by omega))]
    by_cases h2 : 2 ≤ nc
    · rw [if_pos (show (2 : Int32) ≤ nI nc from nI_le (a := 2) (b := nc) h2 (by omega))]
      exact it_out V B nb nc hb (by omega) h2 hc h exF 0 (by omega) (by unfold exF; omega)
    · rw [if_neg (show ¬ (2 : Int32) ≤ nI nc from nI_ge (a := nc) (b := 2) (by omega) (by omega))]
      exact (it_out0 B nb nc hb hc (Or.inr (by omega)) exF 0 (by omega) (by unfold exF; omega)).symm
/-- how a BOROUGH's reading ends, in both -/
def BE (X : Int32 × Int32 × Int32 × Int32 × (Nat → Int32) × Int32 × Int32) (Y : Int32 × Int32 × Int32 × Int32 × Int32 × (Nat → Int32) × (Nat → Int32) × (Nat → Int32)) : Prop :=
  X.1 = Y.2.1 ∧ (X.1 = -1 → ∃ nb nc : Nat, 1 ≤ nb ∧ nb ≤ 8 ∧ 2 ≤ nc ∧ nc ≤ 3 ∧ X.2.1 = nI nb ∧ Y.2.2.1 = nI nb ∧ X.2.2.1 = nI nc ∧ Y.2.2.2.1 = nI nc ∧ BR nb nc X.2.2.2.2.1 Y.2.2.2.2.2.1 Y.2.2.2.2.2.2.2 Y.2.2.2.2.2.2.1)
theorem it_iw1 (nb nc : Nat) (hb : nb ≤ 8) (hc : nc ≤ 3) (B : Nat → Int32) (h : ¬ fx_c_X12_isWhole (nI nb) (nI nc) B = 0) : 1 ≤ nb ∧ 2 ≤ nc := by
  by_cases h0 : nb < 1 ∨ nc < 2
  · exact absurd (it_out0 B nb nc hb hc h0 exF 0 (by omega) (by unfold exF; omega)) h
  · omega
theorem it_ee {c : Nat → Int32} {n : Nat} (hT : TB c n) {q : Nat} (hq : q ≤ n) (w : Int32) : fx_c_X9_expectEnd (nI n) (nI q) w c = if tq_ch c n (tq_pk c n q) = -1 then (nI (tq_pk c n q), w) else (nI (tq_pk c n q), fx_c_X9_refuse_1 (nI (tq_pk c n q)) w) := by
  simp only [fx_c_X9_expectEnd, exc1, exc2]
  rw [px_c_X9_peek hT hq]
  simp only []
  by_cases h1 : tq_ch c n (tq_pk c n q) = -1
  · rw [if_pos h1, if_pos h1]
  · rw [if_neg h1, if_neg h1, if_neg h1]
theorem it_end {c g : Nat → Int32} {n : Nat} (hT : TB c n) (hG : TG c g n) {q : Nat} (hq : q ≤ n) (nb nc : Nat) (hb : nb ≤ 8) (hc : nc ≤ 3) (rl rl2 : Int32) (V R B O : Nat → Int32) (h : BR nb nc V R B O) : BE (fx_c_X0_faultOf_p57 (nI n) c (nI nb) (nI nc) rl V (nI q) (-1)) (fx_c_X12_readBorough_p111 (nI n) g (nI q) (nI nb) (nI nc) rl2 R O B) := by
  have hn := hT.2
  have g5 := tq_pk_le (c := c) hq
  have hw := it_whole V B nb nc hb hc h.2.1
  simp only [fx_c_X0_faultOf_p57, fx_c_X0_faultOf_p83, fx_c_X12_readBorough_p111, fx_c_X12_readBorough_p134, exc1, exc2]
  rw [it_ee hT hq (-1), rx_c_X12_look hT hG hq]
  simp only []
  by_cases h1 : tq_ch c n (tq_pk c n q) = -1
  · have e := tq_ch_end hT g5 h1
    rw [if_pos h1, if_pos h1]
    simp only []
    rw [px_isr_m1, if_neg (by decide), hw]
    by_cases h2 : fx_c_X12_isWhole (nI nb) (nI nc) B = 0
    · rw [if_pos h2, if_pos h2, e]
      refine ⟨rfl, fun z => ?_⟩
      exact absurd z (nI_m1 (by omega))
    · obtain ⟨k1, k2⟩ := it_iw1 nb nc hb hc B h2
      rw [if_neg h2, if_neg h2]
      exact ⟨rfl, fun _ => ⟨nb, nc, k1, hb, k2, hc, rfl, rfl, rfl, rfl, h⟩⟩
  · have e3 : fx_c_X9_refuse_1 (nI (tq_pk c n q)) (-1) = nI (tq_pk c n q) := if_pos rfl
    rw [if_neg h1, if_neg h1, if_neg h1, e3]
    simp only []
    rw [px_isr_no (nI_m1 (by omega)), if_pos rfl]
    refine ⟨rfl, fun z => ?_⟩
    exact absurd z (nI_m1 (by omega))
theorem it_run {c g : Nat → Int32} {n : Nat} (hT : TB c n) (hG : TG c g n) : ∀ (F i p nb nc : Nat) (rl : Int32) (V R B O : Nat → Int32), p ≤ n → 2 * i ≤ p + 1 → n < p + F → nb ≤ 8 → nc ≤ 3 → (rl = 0 ∨ rl = 1) → BR nb nc V R B O → BE (fx_c_X0_faultOf_p27 (nI n) c F (nI i) (nI nb) (nI nc) rl V (nI p) (-1)) (fx_c_X12_readBorough_p55 (nI n) g F (nI p) (nI nb) (nI nc) rl R O B) := by
  have hn := hT.2
  intro F
  induction F with
  | zero => intro i p nb nc rl V R B O h1 h2 h3; omega
  | succ F ih =>
    intro i p nb nc rl V R B O h1 h2 h3 hb hc hrl h
    have hi : ¬ (240 : Int32) ≤ nI i := nI_ge (a := i) (b := 240) (by omega) (by omega)
    rw [fs_c_X0_faultOf_p27, if_pos rfl, if_neg hi, fs_c_X12_readBorough_p55, if_pos rfl]
    have hcl := it_clause hT hG h1 nb nc hb hc rl hrl V R B O h
    obtain ⟨X, eX⟩ : ∃ X, X = fx_c_X0_readClause (nI n) (nI p) (-1) c (nI nb) (nI nc) rl V := ⟨_, rfl⟩
    obtain ⟨Y, eY⟩ : ∃ Y, Y = fx_c_X12_readClause 0 (nI n) (nI p) (nI nb) (nI nc) rl R O g B := ⟨_, rfl⟩
    rw [← eX, ← eY] at hcl ⊢
    obtain ⟨x1, x2, x3, x4, x5, x6⟩ := X
    obtain ⟨y1, y2, y3, y4, y5, y6, y7, y8⟩ := Y
    simp only [exc2, exc6, exc8, exl, fx_c_X12_readBorough_p92, fx_c_X12_readBorough_p93, fx_c_X12_readBorough_p93b, fx_c_X12_readBorough_p55b, fx_c_X12_readBorough_p92b, fx_c_X12_readBorough_p93c, fx_c_X12_readBorough_p55c, fx_c_X12_readBorough_p111b]
    rcases hcl with ⟨j1, j2, q, mb, mc, k1, k2, k3, k4, k5, k6, k7, k8, k9, k10, k11, k12, k13⟩ | ⟨q, x, k1, k2, k3, k4, k5⟩
    · simp only [] at j1 j2 k5 k6 k7 k8 k9 k10 k11 k12 k13
      subst j1 j2 k5 k6 k7 k8 k9 k10 k11
      have g5 := tq_pk_le (c := c) k2
      rw [if_pos rfl, px_c_X9_take hT k2 (by decide), if_pos rfl, rx_c_X12_look hT hG k2]
      simp only []
      by_cases h5 : tq_ch c n (tq_pk c n q) = -1
      · have h6 : ¬ tq_ch c n (tq_pk c n q) = 59 := fun z => by rw [h5] at z; exact absurd z (by decide)
        rw [if_pos h5, if_neg h6, if_pos rfl]
        exact it_end hT hG g5 mb mc k3 k4 _ _ _ _ _ _ k13
      · rw [if_neg h5]
        by_cases h6 : tq_ch c n (tq_pk c n q) = 59
        · have g4 := tq_ch_lt h5
          have g3 := tq_pk_ge (c := c) k2
          rw [if_pos h6, if_pos h6, if_neg (show ¬ (1 : Int32) = 0 by decide), nI_1, nI_1]
          exact ih (i + 1) (tq_pk c n q + 1) mb mc _ _ _ _ _ (by omega) (by omega) (by omega) k3 k4 k12 k13
        · rw [if_neg h6, if_neg h6, if_pos rfl]
          exact it_end hT hG g5 mb mc k3 k4 _ _ _ _ _ _ k13
    · simp only [] at k3 k4 k5
      subst k3 k4 k5
      have hq1 : ¬ nI q = -1 := nI_m1 (by omega)
      rw [if_neg hq1, if_neg hq1, if_neg hq1, px_c_X9_take hT k2 (by decide), if_neg hq1, if_pos rfl]
      simp only [fx_c_X0_faultOf_p57, fx_c_X0_faultOf_p83, exc1, exc2]
      rw [it_ee hT k2 (nI q)]
      have e3 : ∀ z, fx_c_X9_refuse_1 z (nI q) = nI q := fun z => if_neg hq1
      by_cases h5 : tq_ch c n (tq_pk c n x) = -1
      · rw [if_pos h5]
        simp only []
        rw [px_isr_no hq1, if_pos rfl]
        exact ⟨rfl, fun z => absurd z hq1⟩
      · rw [if_neg h5, e3]
        simp only []
        rw [px_isr_no hq1, if_pos rfl]
        exact ⟨rfl, fun z => absurd z hq1⟩
/-- the two readers answer alike of a BOROUGH, and hold the same of it -/
theorem px_borough_alike {c g : Nat → Int32} {n : Nat} (hT : TB c n) (hG : TG c g n) (V R B O : Nat → Int32) : BE (fx_c_X0_faultOf V (nI n) c) (fx_c_X12_readBorough (nI n) R O g B) := by
  have hn := hT.2
  have hs : ∀ j, fx_c_X0_setUsual V j = if 0 + 0 ≤ j ∧ j < 0 + 4 then it_us_s (j - 0) else V j := it_su_s exF 0 V (by omega) (by unfold exF; omega)
  have eX : fx_c_X0_faultOf V (nI n) c = fx_c_X0_faultOf_p27 (nI n) c exF (nI 0) (nI 0) (nI 0) 0 (fx_c_X0_setUsual V) (nI 0) (-1) := by rw [fx_c_X0_faultOf, exc1_eq rfl, nI_0]
  have eY : fx_c_X12_readBorough (nI n) R O g B = fx_c_X12_readBorough_p55 (nI n) g exF (nI 0) (nI 0) (nI 0) 0 (upd (upd (upd (upd R 0 2) 1 0) 2 6) 3 8) O B := by
    rw [fx_c_X12_readBorough]
    generalize exF = F0
    simp only [exc1, exl]
    rw [if_pos (show fx_c_X12_usual_1 1 = 0 by decide), if_pos (show fx_c_X12_usual_2 2 = 6 by decide), if_pos (show fx_c_X12_usual_3 3 = 8 by decide)]
    rfl
  rw [eX, eY]
  have h3 : n < 0 + exF := by unfold exF; omega
  refine it_run hT hG exF 0 0 0 0 0 _ _ _ _ (Nat.zero_le _) (Nat.zero_le _) h3 (by omega) (by omega) (Or.inl rfl) ?_
  refine ⟨fun k hk => ?_, fun k hk => absurd hk (by omega), fun k hk => absurd hk (by omega)⟩
  rw [hs, if_pos (by omega)]
  have h4 : k = 0 ∨ k = 1 ∨ k = 2 ∨ k = 3 := by omega
  rcases h4 with e | e | e | e <;> subst e <;> simp [upd, it_us_s]
