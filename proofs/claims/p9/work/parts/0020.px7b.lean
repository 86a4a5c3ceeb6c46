/-- ITEMS: which have been told (bits), how many -/
def tq_pop : Nat → Nat → Nat
  | 0, _ => 0
  | k + 1, t => tq_pop k t + (if t.testBit k then 1 else 0)
theorem tq_bits : ∀ t, t < 256 → ∀ k, k < 8 → (((nI t >>> (nI k &&& 31)) &&& 1) = if t.testBit k then 1 else 0) ∧ (nI t ||| (1 <<< (nI k &&& 31)) = nI (t ||| 2 ^ k)) := by decide +kernel
theorem tq_pop4 : ∀ t, t < 16 → (∀ k, k < 4 → t.testBit k = false → (t ||| 2 ^ k) < 16 ∧ tq_pop 4 (t ||| 2 ^ k) = tq_pop 4 t + 1) ∧ tq_pop 4 t ≤ 4 ∧ (∀ k, k < 4 → t.testBit k = false → tq_pop 4 t < 4) := by decide +kernel
theorem tq_pop8 : ∀ t, t < 256 → (∀ k, k < 8 → t.testBit k = false → (t ||| 2 ^ k) < 256 ∧ tq_pop 8 (t ||| 2 ^ k) = tq_pop 8 t + 1) ∧ tq_pop 8 t ≤ 8 ∧ (∀ k, k < 8 → t.testBit k = false → tq_pop 8 t < 8) := by decide +kernel
/-- one step of the first reader's items; of the other's -/
def CSt (c : Nat → Int32) (n m base : Nat) (ix : Int32 → Int32) (N1 : Nat → Nat → Int32 × Int32 × Int32) (a1 a2 a3 : Int32) (CL : Nat → Int32 → Int32 → Int32 → Int32 → (Nat → Int32) → Int32 × Int32 × Int32 × Int32 × Int32 × (Nat → Int32)) : Prop :=
  (∀ (F i : Nat) (t a w : Int32) (V : Nat → Int32), ¬ w = -1 → i ≤ m + 1 → CL (F + 1) (nI i) t a w V = (a, w, a1, a2, a3, V)) ∧
  (∀ (F i p : Nat) (t : Int32) (V : Nat → Int32), i ≤ m → p ≤ n → (tq_ch c n (tq_pk c n p) = -1 ∨ ix (tq_ch c n (tq_pk c n p)) = -1) → CL (F + 1) (nI i) t (nI p) (-1) V = (nI (tq_pk c n p), -1, a1, a2, a3, V)) ∧
  (∀ (F i p t k : Nat) (V : Nat → Int32), i ≤ m → p ≤ n → t < 256 → ¬ tq_ch c n (tq_pk c n p) = -1 → ix (tq_ch c n (tq_pk c n p)) = nI k → k < m → t.testBit k = true → CL (F + 1) (nI i) (nI t) (nI p) (-1) V = (nI (tq_pk c n p), nI (tq_pk c n p), a1, a2, a3, V)) ∧
  (∀ (F i p t k : Nat) (V : Nat → Int32), i ≤ m → p ≤ n → t < 256 → ¬ tq_ch c n (tq_pk c n p) = -1 → ix (tq_ch c n (tq_pk c n p)) = nI k → k < m → t.testBit k = false → CL (F + 1) (nI i) (nI t) (nI p) (-1) V = CL F (nI (i + 1)) (nI (t ||| 2 ^ k)) (N1 k (tq_pk c n p + 1)).2.1 (N1 k (tq_pk c n p + 1)).2.2 (upd V (base + k) (N1 k (tq_pk c n p + 1)).1))
def RSt (c : Nat → Int32) (n m row : Nat) (ix : Int32 → Int32) (N2 : Nat → Nat → Int32 × Int32 × Int32) (RL : Nat → Int32 → Int32 → Int32 → (Nat → Int32) → Int32 × Int32 × (Nat → Int32)) : Prop :=
  (∀ (F p t k : Nat) (V : Nat → Int32), p < n → t < 256 → k < m → t.testBit k = true → RL (F + 1) (nI k) (nI t) (nI p) V = (nI p, nI p, V)) ∧
  (∀ (F p t k : Nat) (V : Nat → Int32), p < n → t < 256 → k < m → t.testBit k = false → ¬ (N2 k (p + 1)).2.2 = -1 → (RL (F + 1) (nI k) (nI t) (nI p) V).2.1 = (N2 k (p + 1)).2.2) ∧
  (∀ (F p t k q : Nat) (V : Nat → Int32), p < n → t < 256 → k < m → t.testBit k = false → (N2 k (p + 1)).2.2 = -1 → q ≤ n → (N2 k (p + 1)).2.1 = nI q → (tq_ch c n (tq_pk c n q) = -1 ∨ ix (tq_ch c n (tq_pk c n q)) = -1) → RL (F + 1 + 1) (nI k) (nI t) (nI p) V = (nI (tq_pk c n q), -1, upd V (row + k) (N2 k (p + 1)).1)) ∧
  (∀ (F p t k q k2 : Nat) (V : Nat → Int32), p < n → t < 256 → k < m → t.testBit k = false → (N2 k (p + 1)).2.2 = -1 → q ≤ n → (N2 k (p + 1)).2.1 = nI q → ¬ tq_ch c n (tq_pk c n q) = -1 → ix (tq_ch c n (tq_pk c n q)) = nI k2 → k2 < m → RL (F + 1) (nI k) (nI t) (nI p) V = RL F (nI k2) (nI (t ||| 2 ^ k)) (nI (tq_pk c n q)) (upd V (row + k) (N2 k (p + 1)).1))
/-- both numbers alike -/
def NRel (n m : Nat) (N1 N2 : Nat → Nat → Int32 × Int32 × Int32) : Prop := ∀ k p, k < m → p ≤ n →
  (∃ (q : Nat) (v : Int32), p ≤ q ∧ q ≤ n ∧ N1 k p = (v, nI q, -1) ∧ N2 k p = (v, nI q, -1)) ∨ (∃ q y, q ≤ n ∧ y ≤ n ∧ (N1 k p).2.2 = nI q ∧ (N2 k p).2.2 = nI q ∧ (N1 k p).2.1 = nI y)
/-- the ends of both -/
def IR (n p m base row : Nat) (a1 a2 a3 : Int32) (VC VR : Nat → Int32) (X : Int32 × Int32 × Int32 × Int32 × Int32 × (Nat → Int32)) (Y : Int32 × Int32 × (Nat → Int32)) : Prop :=
  (X.2.2.1 = a1 ∧ X.2.2.2.1 = a2 ∧ X.2.2.2.2.1 = a3) ∧
  ((X.2.1 = -1 ∧ Y.2.1 = -1 ∧ ∃ q, p ≤ q ∧ q ≤ n ∧ X.1 = nI q ∧ Y.1 = nI q ∧ (∀ j, j < m → X.2.2.2.2.2 (base + j) = Y.2.2 (row + j)) ∧ (∀ j, (j < base ∨ base + m ≤ j) → X.2.2.2.2.2 j = VC j) ∧ (∀ j, (j < row ∨ row + m ≤ j) → Y.2.2 j = VR j)) ∨
   (∃ q x, q ≤ n ∧ x ≤ n ∧ X.2.1 = nI q ∧ Y.2.1 = nI q ∧ X.1 = nI x))
theorem it_rel {c : Nat → Int32} {n m base row : Nat} {ix : Int32 → Int32} {N1 N2 : Nat → Nat → Int32 × Int32 × Int32} {a1 a2 a3 : Int32} {CL : Nat → Int32 → Int32 → Int32 → Int32 → (Nat → Int32) → Int32 × Int32 × Int32 × Int32 × Int32 × (Nat → Int32)} {RL : Nat → Int32 → Int32 → Int32 → (Nat → Int32) → Int32 × Int32 × (Nat → Int32)}
    (hn : n ≤ 240) (hm : m = 4 ∨ m = 8) (hx : ∀ r, RG r 0 255 → ix r = -1 ∨ ∃ k, k < m ∧ ix r = nI k) (hT : TB c n) (hC : CSt c n m base ix N1 a1 a2 a3 CL) (hR : RSt c n m row ix N2 RL) (hN : NRel n m N1 N2) :
    ∀ (d p F1 F2 t k : Nat) (VC VR : Nat → Int32), n - p = d → p ≤ n → n < p + F1 → n < p + F2 → t < 2 ^ m → k < m → ¬ tq_ch c n (tq_pk c n p) = -1 → ix (tq_ch c n (tq_pk c n p)) = nI k → (∀ j, j < m → VC (base + j) = VR (row + j)) →
    IR n p m base row a1 a2 a3 VC VR (CL F1 (nI (tq_pop m t)) (nI t) (nI p) (-1) VC) (RL (F2 + 1) (nI k) (nI t) (nI (tq_pk c n p)) VR) := by
  obtain ⟨c1, c2, c3, c4⟩ := hC
  obtain ⟨r1, r2, r3, r4⟩ := hR
  intro d
  induction d using Nat.strongRecOn with
  | ind d ih =>
    intro p F1 F2 t k VC VR hd hp hF1 hF2 ht hk h1 hix hV
    have g3 := tq_pk_ge (c := c) hp
    have g4 := tq_ch_lt h1
    have ht8 : t < 256 := by rcases hm with e | e <;> subst e <;> omega
    have hpop : tq_pop m t ≤ m ∧ (t.testBit k = false → (t ||| 2 ^ k) < 2 ^ m ∧ tq_pop m (t ||| 2 ^ k) = tq_pop m t + 1 ∧ tq_pop m t < m) := by
      rcases hm with e | e
      · subst e
        obtain ⟨x1, x2, x3⟩ := tq_pop4 t ht
        exact ⟨x2, fun z => ⟨(x1 k hk z).1, (x1 k hk z).2, x3 k hk z⟩⟩
      · subst e
        obtain ⟨x1, x2, x3⟩ := tq_pop8 t ht
        exact ⟨x2, fun z => ⟨(x1 k hk z).1, (x1 k hk z).2, x3 k hk z⟩⟩
    obtain ⟨G1, rfl⟩ : ∃ G, F1 = G + 1 := ⟨F1 - 1, by omega⟩
    cases hb : t.testBit k with
    | true =>
      rw [c3 G1 _ p t k VC hpop.1 hp ht8 h1 hix hk hb, r1 F2 (tq_pk c n p) t k VR g4 ht8 hk hb]
      exact ⟨⟨rfl, rfl, rfl⟩, Or.inr ⟨tq_pk c n p, tq_pk c n p, by omega, by omega, rfl, rfl, rfl⟩⟩
    | false =>
      obtain ⟨p1, p2, p3⟩ := hpop.2 hb
      rw [c4 G1 _ p t k VC hpop.1 hp ht8 h1 hix hk hb, ← p2]
      obtain ⟨H1, rfl⟩ : ∃ G, G1 = G + 1 := ⟨G1 - 1, by omega⟩
      rcases hN k (tq_pk c n p + 1) hk (by omega) with ⟨q, v, hq1, hq2, e1, e2⟩ | ⟨q, y, hq, hy, e1, e2, e3⟩
      · have h5 := tq_pk_ge (c := c) hq2
        have h6 := tq_pk_le (c := c) hq2
        have hV2 : ∀ j, j < m → upd VC (base + k) v (base + j) = upd VR (row + k) v (row + j) := fun j hj => by
          by_cases ej : j = k
          · rw [ej, upd_at, upd_at]
          · rw [upd_ne _ _ (by omega), upd_ne _ _ (by omega)]
            exact hV j hj
        have hfC : ∀ j, (j < base ∨ base + m ≤ j) → upd VC (base + k) v j = VC j := fun j hj => upd_ne _ _ (by omega)
        have hfR : ∀ j, (j < row ∨ row + m ≤ j) → upd VR (row + k) v j = VR j := fun j hj => upd_ne _ _ (by omega)
        have e22 : (N2 k (tq_pk c n p + 1)).2.2 = -1 := by rw [e2]
        have e21 : (N2 k (tq_pk c n p + 1)).2.1 = nI q := by rw [e2]
        have e20 : (N2 k (tq_pk c n p + 1)).1 = v := by rw [e2]
        rw [e1]
        by_cases h7 : tq_ch c n (tq_pk c n q) = -1 ∨ ix (tq_ch c n (tq_pk c n q)) = -1
        · obtain ⟨G2, rfl⟩ : ∃ G, F2 = G + 1 := ⟨F2 - 1, by omega⟩
          rw [c2 H1 _ q _ _ (by omega) hq2 h7, r3 G2 (tq_pk c n p) t k q VR g4 ht8 hk hb e22 hq2 e21 h7, e20]
          exact ⟨⟨rfl, rfl, rfl⟩, Or.inl ⟨rfl, rfl, tq_pk c n q, by omega, h6, rfl, rfl, hV2, hfC, hfR⟩⟩
        · have h8 : ¬ tq_ch c n (tq_pk c n q) = -1 := fun z => h7 (Or.inl z)
          have h9 : ¬ ix (tq_ch c n (tq_pk c n q)) = -1 := fun z => h7 (Or.inr z)
          rcases hx _ (tq_ch_RG0 hT h8) with z | ⟨k2, hk2, ek2⟩
          · exact absurd z h9
          · obtain ⟨G2, rfl⟩ : ∃ G, F2 = G + 1 := ⟨F2 - 1, by omega⟩
            rw [r4 (G2 + 1) (tq_pk c n p) t k q k2 VR g4 ht8 hk hb e22 hq2 e21 h8 ek2 hk2, e20]
            have h10 := ih (n - q) (by omega) q (H1 + 1) G2 (t ||| 2 ^ k) k2 (upd VC (base + k) v) (upd VR (row + k) v) rfl hq2 (by omega) (by omega) p1 hk2 h8 ek2 hV2
            obtain ⟨i1, i2⟩ := h10
            refine ⟨i1, ?_⟩
            rcases i2 with ⟨j1, j2, x, j3, j4, j5, j6, j7, j8, j9⟩ | i2
            · exact Or.inl ⟨j1, j2, x, by omega, j4, j5, j6, j7, fun j hj => (j8 j hj).trans (hfC j hj), fun j hj => (j9 j hj).trans (hfR j hj)⟩
            · exact Or.inr i2
      · have hw : ¬ (N1 k (tq_pk c n p + 1)).2.2 = -1 := by rw [e1]; exact nI_m1 (by omega)
        have hw2 : ¬ (N2 k (tq_pk c n p + 1)).2.2 = -1 := by rw [e2]; exact nI_m1 (by omega)
        rw [c1 H1 _ _ _ _ _ hw (by omega)]
        exact ⟨⟨rfl, rfl, rfl⟩, Or.inr ⟨q, y, hq, hy, e1, (r2 F2 (tq_pk c n p) t k VR g4 ht8 hk hb hw2).trans e2, e3⟩⟩
theorem it_ix_s : ∀ j, j < 256 → fx_c_X0_placeIn_3 (nI j) = fx_c_X12_spotOf_5 (nI j) ∧ (fx_c_X12_spotOf_5 (nI j) = -1 ∨ ∃ k, k < 4 ∧ fx_c_X12_spotOf_5 (nI j) = nI k) := by decide +kernel
theorem it_xx_s (r : Int32) (h : RG r 0 255) : fx_c_X12_spotOf_5 r = -1 ∨ ∃ k, k < 4 ∧ fx_c_X12_spotOf_5 r = nI k := by
  obtain ⟨j, hj, e⟩ := RG_nI h (by decide)
  rw [e]
  exact (it_ix_s j hj).2
theorem it_pl_s {r : Int32} (h : RG r 0 255) : fx_c_X0_placeIn_3 r = fx_c_X12_spotOf_5 r := by
  obtain ⟨j, hj, e⟩ := RG_nI h (by decide)
  rw [e]
  exact (it_ix_s j hj).1
def it_lo_s (k : Nat) : Nat := ([0, 0, 1, 1] : List Nat).getD k 0
def it_hi_s (k : Nat) : Nat := ([9, 3, 12, 20] : List Nat).getD k 0
theorem it_tb_s : ∀ k, k < 4 → (([0, 0, 1, 1, 0, 0, 0, 0, 0, 0, 0, 0, 0, 0, 1, 0] : List Int32).getD (0 + nI k).toNatClampNeg 0 = nI (it_lo_s k)) ∧ (([9, 3, 12, 20, 9, 9, 9, 9, 9, 9, 3, 9, 9, 9, 4, 9] : List Int32).getD (0 + nI k).toNatClampNeg 0 = nI (it_hi_s k)) ∧ it_lo_s k ≤ 20 ∧ it_hi_s k ≤ 20 ∧ 0 ≤ nI k := by decide +kernel
noncomputable def it_N1_s (c : Nat → Int32) (n k p : Nat) : Int32 × Int32 × Int32 := fx_c_X9_numberWithin (nI (it_lo_s k)) (nI (it_hi_s k)) (nI n) (nI p) (-1) c
noncomputable def it_N2_s (g : Nat → Int32) (n k p : Nat) : Int32 × Int32 × Int32 := if k = 0 then fx_c_X12_number 0 (nI n) (nI p) g else if k = 1 then fx_c_X12_number_2 0 (nI n) (nI p) g else if k = 2 then fx_c_X12_number_3 0 (nI n) (nI p) g else fx_c_X12_number_4 0 (nI n) (nI p) g
theorem it_NR_s {c g : Nat → Int32} {n : Nat} (hT : TB c n) (hG : TG c g n) : NRel n 4 (it_N1_s c n) (it_N2_s g n) := by
  intro k p hk hp
  have hb := it_tb_s k hk
  obtain ⟨a1, a2⟩ := px_c_X9_numberWithin hT hp ⟨hb.2.2.1, hb.2.2.2.1⟩
  have fin : ∀ (x y : Int32 × Int32 × Int32) (s : Bool × Nat × Nat), p ≤ s.2.1 ∧ s.2.1 ≤ n → (s.1 = true → x = (nI s.2.2, nI s.2.1, -1)) ∧ (s.1 = false → x.2.2 = nI s.2.1 ∧ ∃ y, y ≤ n ∧ x.2.1 = nI y) → (s.1 = true → y = (nI s.2.2, nI s.2.1, -1)) ∧ (s.1 = false → y.2.2 = nI s.2.1 ∧ ∃ z, z ≤ n ∧ y.2.1 = nI z) → (∃ (q : Nat) (v : Int32), p ≤ q ∧ q ≤ n ∧ x = (v, nI q, -1) ∧ y = (v, nI q, -1)) ∨ (∃ q z, q ≤ n ∧ z ≤ n ∧ x.2.2 = nI q ∧ y.2.2 = nI q ∧ x.2.1 = nI z) := fun x y s hs h1 h2 => by
    cases hb : s.1 with
    | true => exact Or.inl ⟨s.2.1, nI s.2.2, hs.1, hs.2, h1.1 hb, h2.1 hb⟩
    | false =>
      obtain ⟨k1, z, k2, k3⟩ := h1.2 hb
      exact Or.inr ⟨s.2.1, z, hs.2, k2, k1, (h2.2 hb).1, k3⟩
  by_cases e0 : k = 0
  · subst e0
    exact fin _ _ (tq_nw c n 0 9 p) (tq_nw_bd hp) ⟨a1, a2⟩ (rx_c_X12_number hT hG hp)
  by_cases e1 : k = 1
  · subst e1
    exact fin _ _ (tq_nw c n 0 3 p) (tq_nw_bd hp) ⟨a1, a2⟩ (rx_c_X12_number_2 hT hG hp)
  by_cases e2 : k = 2
  · subst e2
    exact fin _ _ (tq_nw c n 1 12 p) (tq_nw_bd hp) ⟨a1, a2⟩ (rx_c_X12_number_3 hT hG hp)
  by_cases e3 : k = 3
  · subst e3
    exact fin _ _ (tq_nw c n 1 20 p) (tq_nw_bd hp) ⟨a1, a2⟩ (rx_c_X12_number_4 hT hG hp)
  omega
theorem fs_c_X0_readClause_p49 (h1_f1 : Int32) (h1_0c : Nat → Int32) (h0_f1 : Int32) (h0_f2 : Int32) (F : Nat) (j49_l6 : Int32) (j49_l5 : Int32) (j49_h1_f2 : Int32) (j49_h1_f3 : Int32) (j49_h0_0c : (Nat → Int32)) : fx_c_X0_readClause_p49 h1_f1 h1_0c h0_f1 h0_f2 (F + 1) j49_l6 j49_l5 j49_h1_f2 j49_h1_f3 j49_h0_0c = ((if j49_l6 = j49_l6 then (exc1 (fx_c_J0_length_8abf5) fun (r_5 : Int32) => (if 4 < j49_l6 then (j49_h1_f2, j49_h1_f3, h0_f1, h0_f2, 1, j49_h0_0c) else (exc1 (fx_c_X9_isRight j49_h1_f3) fun (r_12 : Int32) => (if r_12 = 0 then (j49_h1_f2, j49_h1_f3, h0_f1, h0_f2, 1, j49_h0_0c) else (exc2 (fx_c_X9_peek h1_f1 j49_h1_f2 h1_0c) fun (r_21 : Int32) (x_22 : Int32) => (if r_21 = (-1) then (exc1 (fx_c_X0_placeIn_2 (-1)) fun (r_32 : Int32) => (x_22, j49_h1_f3, h0_f1, h0_f2, 1, j49_h0_0c)) else (exc1 (fx_c_X0_placeIn_3 r_21) fun (r_36 : Int32) => (if r_36 = (-1) then (x_22, j49_h1_f3, h0_f1, h0_f2, 1, j49_h0_0c) else (if 0 ≤ r_36 then (exl (j49_l5 >>> (r_36 &&& 31)) fun (x_43 : Int32) => (exl (x_43 &&& 1) fun (x_44 : Int32) => (if x_44 = 0 then (exl (1 <<< (r_36 &&& 31)) fun (x_48 : Int32) => (exl (j49_l5 ||| x_48) fun (x_50 : Int32) => (exc1 (fx_c_X9_skip x_22) fun (x_52 : Int32) => (exl (0 + r_36) fun (x_57 : Int32) => (exl (([0, 0, 1, 1, 0, 0, 0, 0, 0, 0, 0, 0, 0, 0, 1, 0] : List Int32).getD (x_57 : Int32).toNatClampNeg 0) fun (x_60 : Int32) => (exl (([9, 3, 12, 20, 9, 9, 9, 9, 9, 9, 3, 9, 9, 9, 4, 9] : List Int32).getD (x_57 : Int32).toNatClampNeg 0) fun (x_63 : Int32) => (exc3 (fx_c_X9_numberWithin x_60 x_63 h1_f1 x_52 j49_h1_f3 h1_0c) fun (r_65 : Int32) (x_66 : Int32) (x_67 : Int32) => (if r_65 = (-1) then (exl (upd j49_h0_0c (x_57 : Int32).toNatClampNeg (-1)) fun (w_79 : Nat → Int32) => (exl (j49_l6 + 1) fun (x_82 : Int32) => ((fx_c_X0_readClause_p49 h1_f1 h1_0c h0_f1 h0_f2 F) x_82 x_50 x_66 x_67 w_79))) else (exl (upd j49_h0_0c (x_57 : Int32).toNatClampNeg r_65) fun (w_84 : Nat → Int32) => (exl (j49_l6 + 1) fun (x_87 : Int32) => ((fx_c_X0_readClause_p49 h1_f1 h1_0c h0_f1 h0_f2 F) x_87 x_50 x_66 x_67 w_84))))))))))) else (exc1 (fx_c_X9_refuseHere x_22 j49_h1_f3) fun (x_91 : Int32) => (x_22, x_91, h0_f1, h0_f2, 1, j49_h0_0c))))) else (default)))))))))) else default) : Int32 × Int32 × Int32 × Int32 × Int32 × (Nat → Int32)) := rfl
theorem it_CS_s {c : Nat → Int32} {n : Nat} (hT : TB c n) (a1 a2 : Int32) : CSt c n 4 0 fx_c_X12_spotOf_5 (it_N1_s c n) a1 a2 1 (fun F i t a w V => fx_c_X0_readClause_p49 (nI n) c a1 a2 F i t a w V) := by
  have hn := hT.2
  have hi : ∀ i, i ≤ 4 → ¬ (4 : Int32) < nI i := fun i h => nI_nlt (a := 4) (b := i) h (by omega)
  refine ⟨?_, ?_, ?_, ?_⟩
  · intro F i t a w V hw h
    simp only []
    rw [fs_c_X0_readClause_p49, if_pos rfl]
    simp only [exc1, exc2, exc3, exl]
    rw [px_isr_no hw, if_pos rfl]
    split <;> rfl
  · intro F i p t V h hp h1
    simp only []
    rw [fs_c_X0_readClause_p49, if_pos rfl]
    simp only [exc1, exc2, exc3, exl]
    rw [if_neg (hi i h), px_isr_m1, if_neg (by decide), px_c_X9_peek hT hp]
    simp only []
    by_cases h2 : tq_ch c n (tq_pk c n p) = -1
    · rw [if_pos h2]
    · rw [if_neg h2, it_pl_s (tq_ch_RG0 hT h2), if_pos (h1.resolve_left h2)]
  · intro F i p t k V h hp ht h2 hix hk hb
    have hkb := it_tb_s k hk
    have hb9 := tq_bits t ht k (by omega)
    have hk1 : ¬ nI k = -1 := nI_m1 (by omega)
    simp only []
    rw [fs_c_X0_readClause_p49, if_pos rfl]
    simp only [exc1, exc2, exc3, exl]
    rw [if_neg (hi i h), px_isr_m1, if_neg (by decide), px_c_X9_peek hT hp]
    simp only []
    rw [if_neg h2, it_pl_s (tq_ch_RG0 hT h2), hix, if_neg hk1, if_pos hkb.2.2.2.2, hb9.1, hb, if_pos rfl, if_neg (by decide)]
    rfl
  · intro F i p t k V h hp ht h2 hix hk hb
    have hkb := it_tb_s k hk
    have hb9 := tq_bits t ht k (by omega)
    have hk1 : ¬ nI k = -1 := nI_m1 (by omega)
    have hcl : (0 + nI k : Int32).toNatClampNeg = 0 + k := by rw [rx_0, px_clamp (by omega)]; omega
    simp only []
    rw [fs_c_X0_readClause_p49, if_pos rfl]
    simp only [exc1, exc2, exc3, exl]
    rw [if_neg (hi i h), px_isr_m1, if_neg (by decide), px_c_X9_peek hT hp]
    simp only []
    rw [if_neg h2, it_pl_s (tq_ch_RG0 hT h2), hix, if_neg hk1, if_pos hkb.2.2.2.2, hb9.1, hb, px_i0, if_pos rfl, hb9.2, px_skip, hkb.1, hkb.2.1, hcl, nI_1]
    show (if (it_N1_s c n k (tq_pk c n p + 1)).1 = -1 then _ else _) = _
    by_cases h9 : (it_N1_s c n k (tq_pk c n p + 1)).1 = -1
    · rw [if_pos h9, h9]
      rfl
    · rw [if_neg h9]
      rfl
theorem it_ix_b : ∀ j, j < 256 → fx_c_X0_placeIn_5 (nI j) = fx_c_X12_spotOf_3 (nI j) ∧ (fx_c_X12_spotOf_3 (nI j) = -1 ∨ ∃ k, k < 8 ∧ fx_c_X12_spotOf_3 (nI j) = nI k) := by decide +kernel
theorem it_xx_b (r : Int32) (h : RG r 0 255) : fx_c_X12_spotOf_3 r = -1 ∨ ∃ k, k < 8 ∧ fx_c_X12_spotOf_3 r = nI k := by
  obtain ⟨j, hj, e⟩ := RG_nI h (by decide)
  rw [e]
  exact (it_ix_b j hj).2
theorem it_pl_b {r : Int32} (h : RG r 0 255) : fx_c_X0_placeIn_5 r = fx_c_X12_spotOf_3 r := by
  obtain ⟨j, hj, e⟩ := RG_nI h (by decide)
  rw [e]
  exact (it_ix_b j hj).1
def it_lo_b (k : Nat) : Nat := ([0, 0, 0, 0, 0, 0, 0, 0] : List Nat).getD k 0
def it_hi_b (k : Nat) : Nat := ([9, 9, 9, 9, 9, 9, 3, 9] : List Nat).getD k 0
theorem it_tb_b : ∀ k, k < 8 → (([0, 0, 1, 1, 0, 0, 0, 0, 0, 0, 0, 0, 0, 0, 1, 0] : List Int32).getD (4 + nI k).toNatClampNeg 0 = nI (it_lo_b k)) ∧ (([9, 3, 12, 20, 9, 9, 9, 9, 9, 9, 3, 9, 9, 9, 4, 9] : List Int32).getD (4 + nI k).toNatClampNeg 0 = nI (it_hi_b k)) ∧ it_lo_b k ≤ 20 ∧ it_hi_b k ≤ 20 ∧ 0 ≤ nI k := by decide +kernel
noncomputable def it_N1_b (c : Nat → Int32) (n k p : Nat) : Int32 × Int32 × Int32 := fx_c_X9_numberWithin (nI (it_lo_b k)) (nI (it_hi_b k)) (nI n) (nI p) (-1) c
noncomputable def it_N2_b (g : Nat → Int32) (n k p : Nat) : Int32 × Int32 × Int32 := if k = 0 then fx_c_X12_number 0 (nI n) (nI p) g else if k = 1 then fx_c_X12_number 0 (nI n) (nI p) g else if k = 2 then fx_c_X12_number 0 (nI n) (nI p) g else if k = 3 then fx_c_X12_number 0 (nI n) (nI p) g else if k = 4 then fx_c_X12_number 0 (nI n) (nI p) g else if k = 5 then fx_c_X12_number 0 (nI n) (nI p) g else if k = 6 then fx_c_X12_number_2 0 (nI n) (nI p) g else fx_c_X12_number 0 (nI n) (nI p) g
theorem it_NR_b {c g : Nat → Int32} {n : Nat} (hT : TB c n) (hG : TG c g n) : NRel n 8 (it_N1_b c n) (it_N2_b g n) := by
  intro k p hk hp
  have hb := it_tb_b k hk
  obtain ⟨a1, a2⟩ := px_c_X9_numberWithin hT hp ⟨hb.2.2.1, hb.2.2.2.1⟩
  have fin : ∀ (x y : Int32 × Int32 × Int32) (s : Bool × Nat × Nat), p ≤ s.2.1 ∧ s.2.1 ≤ n → (s.1 = true → x = (nI s.2.2, nI s.2.1, -1)) ∧ (s.1 = false → x.2.2 = nI s.2.1 ∧ ∃ y, y ≤ n ∧ x.2.1 = nI y) → (s.1 = true → y = (nI s.2.2, nI s.2.1, -1)) ∧ (s.1 = false → y.2.2 = nI s.2.1 ∧ ∃ z, z ≤ n ∧ y.2.1 = nI z) → (∃ (q : Nat) (v : Int32), p ≤ q ∧ q ≤ n ∧ x = (v, nI q, -1) ∧ y = (v, nI q, -1)) ∨ (∃ q z, q ≤ n ∧ z ≤ n ∧ x.2.2 = nI q ∧ y.2.2 = nI q ∧ x.2.1 = nI z) := fun x y s hs h1 h2 => by
    cases hb : s.1 with
    | true => exact Or.inl ⟨s.2.1, nI s.2.2, hs.1, hs.2, h1.1 hb, h2.1 hb⟩
    | false =>
      obtain ⟨k1, z, k2, k3⟩ := h1.2 hb
      exact Or.inr ⟨s.2.1, z, hs.2, k2, k1, (h2.2 hb).1, k3⟩
  by_cases e0 : k = 0
  · subst e0
    exact fin _ _ (tq_nw c n 0 9 p) (tq_nw_bd hp) ⟨a1, a2⟩ (rx_c_X12_number hT hG hp)
  by_cases e1 : k = 1
  · subst e1
    exact fin _ _ (tq_nw c n 0 9 p) (tq_nw_bd hp) ⟨a1, a2⟩ (rx_c_X12_number hT hG hp)
  by_cases e2 : k = 2
  · subst e2
    exact fin _ _ (tq_nw c n 0 9 p) (tq_nw_bd hp) ⟨a1, a2⟩ (rx_c_X12_number hT hG hp)
  by_cases e3 : k = 3
  · subst e3
    exact fin _ _ (tq_nw c n 0 9 p) (tq_nw_bd hp) ⟨a1, a2⟩ (rx_c_X12_number hT hG hp)
  by_cases e4 : k = 4
  · subst e4
    exact fin _ _ (tq_nw c n 0 9 p) (tq_nw_bd hp) ⟨a1, a2⟩ (rx_c_X12_number hT hG hp)
  by_cases e5 : k = 5
  · subst e5
    exact fin _ _ (tq_nw c n 0 9 p) (tq_nw_bd hp) ⟨a1, a2⟩ (rx_c_X12_number hT hG hp)
  by_cases e6 : k = 6
  · subst e6
    exact fin _ _ (tq_nw c n 0 3 p) (tq_nw_bd hp) ⟨a1, a2⟩ (rx_c_X12_number_2 hT hG hp)
  by_cases e7 : k = 7
  · subst e7
    exact fin _ _ (tq_nw c n 0 9 p) (tq_nw_bd hp) ⟨a1, a2⟩ (rx_c_X12_number hT hG hp)
  omega
theorem fs_c_X0_readClause_p49b (h1_f1 : Int32) (h1_0c : Nat → Int32) (h0_f2 : Int32) (h0_f3 : Int32) (F : Nat) (j49b_l6 : Int32) (j49b_l5 : Int32) (j49b_l3 : Int32) (j49b_h1_f2 : Int32) (j49b_h1_f3 : Int32) (j49b_h0_f1 : Int32) (j49b_h0_0c : (Nat → Int32)) : fx_c_X0_readClause_p49b h1_f1 h1_0c h0_f2 h0_f3 (F + 1) j49b_l6 j49b_l5 j49b_l3 j49b_h1_f2 j49b_h1_f3 j49b_h0_f1 j49b_h0_0c = ((if j49b_l6 = j49b_l6 then (exc1 (fx_c_J0_length_8abf5_2) fun (r_96 : Int32) => (if 8 < j49b_l6 then (j49b_h1_f2, j49b_h1_f3, j49b_h0_f1, h0_f2, h0_f3, j49b_h0_0c) else (exc1 (fx_c_X9_isRight j49b_h1_f3) fun (r_103 : Int32) => (if r_103 = 0 then (j49b_h1_f2, j49b_h1_f3, j49b_h0_f1, h0_f2, h0_f3, j49b_h0_0c) else (exc2 (fx_c_X9_peek h1_f1 j49b_h1_f2 h1_0c) fun (r_112 : Int32) (x_113 : Int32) => (if r_112 = (-1) then (exc1 (fx_c_X0_placeIn_4 (-1)) fun (r_123 : Int32) => (x_113, j49b_h1_f3, j49b_h0_f1, h0_f2, h0_f3, j49b_h0_0c)) else (exc1 (fx_c_X0_placeIn_5 r_112) fun (r_127 : Int32) => (if r_127 = (-1) then (x_113, j49b_h1_f3, j49b_h0_f1, h0_f2, h0_f3, j49b_h0_0c) else (if 0 ≤ r_127 then (exl (j49b_l5 >>> (r_127 &&& 31)) fun (x_134 : Int32) => (exl (x_134 &&& 1) fun (x_135 : Int32) => (if x_135 = 0 then (exl (1 <<< (r_127 &&& 31)) fun (x_139 : Int32) => (exl (j49b_l5 ||| x_139) fun (x_141 : Int32) => (exc1 (fx_c_X9_skip x_113) fun (x_143 : Int32) => (exl (j49b_l3 + r_127) fun (x_148 : Int32) => (exl (4 + r_127) fun (x_150 : Int32) => (exl (([0, 0, 1, 1, 0, 0, 0, 0, 0, 0, 0, 0, 0, 0, 1, 0] : List Int32).getD (x_150 : Int32).toNatClampNeg 0) fun (x_152 : Int32) => (exl (([9, 3, 12, 20, 9, 9, 9, 9, 9, 9, 3, 9, 9, 9, 4, 9] : List Int32).getD (x_150 : Int32).toNatClampNeg 0) fun (x_155 : Int32) => (exc3 (fx_c_X9_numberWithin x_152 x_155 h1_f1 x_143 j49b_h1_f3 h1_0c) fun (r_157 : Int32) (x_158 : Int32) (x_159 : Int32) => (if r_157 = (-1) then (exl (upd j49b_h0_0c (x_148 : Int32).toNatClampNeg (-1)) fun (w_171 : Nat → Int32) => (exl (j49b_l6 + 1) fun (x_174 : Int32) => ((fx_c_X0_readClause_p49b h1_f1 h1_0c h0_f2 h0_f3 F) x_174 x_141 j49b_l3 x_158 x_159 j49b_h0_f1 w_171))) else (exl (upd j49b_h0_0c (x_148 : Int32).toNatClampNeg r_157) fun (w_176 : Nat → Int32) => (exl (j49b_l6 + 1) fun (x_179 : Int32) => ((fx_c_X0_readClause_p49b h1_f1 h1_0c h0_f2 h0_f3 F) x_179 x_141 j49b_l3 x_158 x_159 j49b_h0_f1 w_176)))))))))))) else (exc1 (fx_c_X9_refuseHere x_113 j49b_h1_f3) fun (x_183 : Int32) => (x_113, x_183, j49b_h0_f1, h0_f2, h0_f3, j49b_h0_0c))))) else (default)))))))))) else default) : Int32 × Int32 × Int32 × Int32 × Int32 × (Nat → Int32)) := rfl
theorem it_CS_b {c : Nat → Int32} {n : Nat} (hT : TB c n) (base : Nat) (hbs : base ≤ 100) (a1 a2 a3 : Int32) : CSt c n 8 base fx_c_X12_spotOf_3 (it_N1_b c n) a1 a2 a3 (fun F i t a w V => fx_c_X0_readClause_p49b (nI n) c a2 a3 F i t (nI base) a w a1 V) := by
  have hn := hT.2
  have hi : ∀ i, i ≤ 8 → ¬ (8 : Int32) < nI i := fun i h => nI_nlt (a := 8) (b := i) h (by omega)
  refine ⟨?_, ?_, ?_, ?_⟩
  · intro F i t a w V hw h
    simp only []
    rw [fs_c_X0_readClause_p49b, if_pos rfl]
    simp only [exc1, exc2, exc3, exl]
    rw [px_isr_no hw, if_pos rfl]
    split <;> rfl
  · intro F i p t V h hp h1
    simp only []
    rw [fs_c_X0_readClause_p49b, if_pos rfl]
    simp only [exc1, exc2, exc3, exl]
    rw [if_neg (hi i h), px_isr_m1, if_neg (by decide), px_c_X9_peek hT hp]
    simp only []
    by_cases h2 : tq_ch c n (tq_pk c n p) = -1
    · rw [if_pos h2]
    · rw [if_neg h2, it_pl_b (tq_ch_RG0 hT h2), if_pos (h1.resolve_left h2)]
  · intro F i p t k V h hp ht h2 hix hk hb
    have hkb := it_tb_b k hk
    have hb9 := tq_bits t ht k (by omega)
    have hk1 : ¬ nI k = -1 := nI_m1 (by omega)
    simp only []
    rw [fs_c_X0_readClause_p49b, if_pos rfl]
    simp only [exc1, exc2, exc3, exl]
    rw [if_neg (hi i h), px_isr_m1, if_neg (by decide), px_c_X9_peek hT hp]
    simp only []
    rw [if_neg h2, it_pl_b (tq_ch_RG0 hT h2), hix, if_neg hk1, if_pos hkb.2.2.2.2, hb9.1, hb, if_pos rfl, if_neg (by decide)]
    rfl
  · intro F i p t k V h hp ht h2 hix hk hb
    have hkb := it_tb_b k hk
    have hb9 := tq_bits t ht k (by omega)
    have hk1 : ¬ nI k = -1 := nI_m1 (by omega)
    have hcl : (nI base + nI k : Int32).toNatClampNeg = base + k := by rw [nI_add, px_clamp (by omega)]
    simp only []
    rw [fs_c_X0_readClause_p49b, if_pos rfl]
    simp only [exc1, exc2, exc3, exl]
    rw [if_neg (hi i h), px_isr_m1, if_neg (by decide), px_c_X9_peek hT hp]
    simp only []
    rw [if_neg h2, it_pl_b (tq_ch_RG0 hT h2), hix, if_neg hk1, if_pos hkb.2.2.2.2, hb9.1, hb, px_i0, if_pos rfl, hb9.2, px_skip, hkb.1, hkb.2.1, hcl, nI_1]
    show (if (it_N1_b c n k (tq_pk c n p + 1)).1 = -1 then _ else _) = _
    by_cases h9 : (it_N1_b c n k (tq_pk c n p + 1)).1 = -1
    · rw [if_pos h9, h9]
      rfl
    · rw [if_neg h9]
      rfl
theorem it_ix_c : ∀ j, j < 256 → fx_c_X0_placeIn_7 (nI j) = fx_c_X12_spotOf_1 (nI j) ∧ (fx_c_X12_spotOf_1 (nI j) = -1 ∨ ∃ k, k < 4 ∧ fx_c_X12_spotOf_1 (nI j) = nI k) := by decide +kernel
theorem it_xx_c (r : Int32) (h : RG r 0 255) : fx_c_X12_spotOf_1 r = -1 ∨ ∃ k, k < 4 ∧ fx_c_X12_spotOf_1 r = nI k := by
  obtain ⟨j, hj, e⟩ := RG_nI h (by decide)
  rw [e]
  exact (it_ix_c j hj).2
theorem it_pl_c {r : Int32} (h : RG r 0 255) : fx_c_X0_placeIn_7 r = fx_c_X12_spotOf_1 r := by
  obtain ⟨j, hj, e⟩ := RG_nI h (by decide)
  rw [e]
  exact (it_ix_c j hj).1
def it_lo_c (k : Nat) : Nat := ([0, 0, 1, 0] : List Nat).getD k 0
def it_hi_c (k : Nat) : Nat := ([9, 9, 4, 9] : List Nat).getD k 0
theorem it_tb_c : ∀ k, k < 4 → (([0, 0, 1, 1, 0, 0, 0, 0, 0, 0, 0, 0, 0, 0, 1, 0] : List Int32).getD (12 + nI k).toNatClampNeg 0 = nI (it_lo_c k)) ∧ (([9, 3, 12, 20, 9, 9, 9, 9, 9, 9, 3, 9, 9, 9, 4, 9] : List Int32).getD (12 + nI k).toNatClampNeg 0 = nI (it_hi_c k)) ∧ it_lo_c k ≤ 20 ∧ it_hi_c k ≤ 20 ∧ 0 ≤ nI k := by decide +kernel
noncomputable def it_N1_c (c : Nat → Int32) (n k p : Nat) : Int32 × Int32 × Int32 := fx_c_X9_numberWithin (nI (it_lo_c k)) (nI (it_hi_c k)) (nI n) (nI p) (-1) c
noncomputable def it_N2_c (g : Nat → Int32) (n k p : Nat) : Int32 × Int32 × Int32 := if k = 0 then fx_c_X12_number 0 (nI n) (nI p) g else if k = 1 then fx_c_X12_number 0 (nI n) (nI p) g else if k = 2 then fx_c_X12_number_1 0 (nI n) (nI p) g else fx_c_X12_number 0 (nI n) (nI p) g
theorem it_NR_c {c g : Nat → Int32} {n : Nat} (hT : TB c n) (hG : TG c g n) : NRel n 4 (it_N1_c c n) (it_N2_c g n) := by
  intro k p hk hp
  have hb := it_tb_c k hk
  obtain ⟨a1, a2⟩ := px_c_X9_numberWithin hT hp ⟨hb.2.2.1, hb.2.2.2.1⟩
  have fin : ∀ (x y : Int32 × Int32 × Int32) (s : Bool × Nat × Nat), p ≤ s.2.1 ∧ s.2.1 ≤ n → (s.1 = true → x = (nI s.2.2, nI s.2.1, -1)) ∧ (s.1 = false → x.2.2 = nI s.2.1 ∧ ∃ y, y ≤ n ∧ x.2.1 = nI y) → (s.1 = true → y = (nI s.2.2, nI s.2.1, -1)) ∧ (s.1 = false → y.2.2 = nI s.2.1 ∧ ∃ z, z ≤ n ∧ y.2.1 = nI z) → (∃ (q : Nat) (v : Int32), p ≤ q ∧ q ≤ n ∧ x = (v, nI q, -1) ∧ y = (v, nI q, -1)) ∨ (∃ q z, q ≤ n ∧ z ≤ n ∧ x.2.2 = nI q ∧ y.2.2 = nI q ∧ x.2.1 = nI z) := fun x y s hs h1 h2 => by
    cases hb : s.1 with
    | true => exact Or.inl ⟨s.2.1, nI s.2.2, hs.1, hs.2, h1.1 hb, h2.1 hb⟩
    | false =>
      obtain ⟨k1, z, k2, k3⟩ := h1.2 hb
      exact Or.inr ⟨s.2.1, z, hs.2, k2, k1, (h2.2 hb).1, k3⟩
  by_cases e0 : k = 0
  · subst e0
    exact fin _ _ (tq_nw c n 0 9 p) (tq_nw_bd hp) ⟨a1, a2⟩ (rx_c_X12_number hT hG hp)
  by_cases e1 : k = 1
  · subst e1
    exact fin _ _ (tq_nw c n 0 9 p) (tq_nw_bd hp) ⟨a1, a2⟩ (rx_c_X12_number hT hG hp)
  by_cases e2 : k = 2
  · subst e2
    exact fin _ _ (tq_nw c n 1 4 p) (tq_nw_bd hp) ⟨a1, a2⟩ (rx_c_X12_number_1 hT hG hp)
  by_cases e3 : k = 3
  · subst e3
    exact fin _ _ (tq_nw c n 0 9 p) (tq_nw_bd hp) ⟨a1, a2⟩ (rx_c_X12_number hT hG hp)
  omega
theorem fs_c_X0_readClause_p49c (h1_f1 : Int32) (h1_0c : Nat → Int32) (h0_f1 : Int32) (h0_f3 : Int32) (F : Nat) (j49c_l6 : Int32) (j49c_l5 : Int32) (j49c_l3 : Int32) (j49c_h1_f2 : Int32) (j49c_h1_f3 : Int32) (j49c_h0_f2 : Int32) (j49c_h0_0c : (Nat → Int32)) : fx_c_X0_readClause_p49c h1_f1 h1_0c h0_f1 h0_f3 (F + 1) j49c_l6 j49c_l5 j49c_l3 j49c_h1_f2 j49c_h1_f3 j49c_h0_f2 j49c_h0_0c = ((if j49c_l6 = j49c_l6 then (exc1 (fx_c_J0_length_8abf5_3) fun (r_188 : Int32) => (if 4 < j49c_l6 then (j49c_h1_f2, j49c_h1_f3, h0_f1, j49c_h0_f2, h0_f3, j49c_h0_0c) else (exc1 (fx_c_X9_isRight j49c_h1_f3) fun (r_195 : Int32) => (if r_195 = 0 then (j49c_h1_f2, j49c_h1_f3, h0_f1, j49c_h0_f2, h0_f3, j49c_h0_0c) else (exc2 (fx_c_X9_peek h1_f1 j49c_h1_f2 h1_0c) fun (r_204 : Int32) (x_205 : Int32) => (if r_204 = (-1) then (exc1 (fx_c_X0_placeIn_6 (-1)) fun (r_215 : Int32) => (x_205, j49c_h1_f3, h0_f1, j49c_h0_f2, h0_f3, j49c_h0_0c)) else (exc1 (fx_c_X0_placeIn_7 r_204) fun (r_219 : Int32) => (if r_219 = (-1) then (x_205, j49c_h1_f3, h0_f1, j49c_h0_f2, h0_f3, j49c_h0_0c) else (if 0 ≤ r_219 then (exl (j49c_l5 >>> (r_219 &&& 31)) fun (x_226 : Int32) => (exl (x_226 &&& 1) fun (x_227 : Int32) => (if x_227 = 0 then (exl (1 <<< (r_219 &&& 31)) fun (x_231 : Int32) => (exl (j49c_l5 ||| x_231) fun (x_233 : Int32) => (exc1 (fx_c_X9_skip x_205) fun (x_235 : Int32) => (exl (j49c_l3 + r_219) fun (x_240 : Int32) => (exl (12 + r_219) fun (x_242 : Int32) => (exl (([0, 0, 1, 1, 0, 0, 0, 0, 0, 0, 0, 0, 0, 0, 1, 0] : List Int32).getD (x_242 : Int32).toNatClampNeg 0) fun (x_244 : Int32) => (exl (([9, 3, 12, 20, 9, 9, 9, 9, 9, 9, 3, 9, 9, 9, 4, 9] : List Int32).getD (x_242 : Int32).toNatClampNeg 0) fun (x_247 : Int32) => (exc3 (fx_c_X9_numberWithin x_244 x_247 h1_f1 x_235 j49c_h1_f3 h1_0c) fun (r_249 : Int32) (x_250 : Int32) (x_251 : Int32) => (if r_249 = (-1) then (exl (upd j49c_h0_0c (x_240 : Int32).toNatClampNeg (-1)) fun (w_263 : Nat → Int32) => (exl (j49c_l6 + 1) fun (x_266 : Int32) => ((fx_c_X0_readClause_p49c h1_f1 h1_0c h0_f1 h0_f3 F) x_266 x_233 j49c_l3 x_250 x_251 j49c_h0_f2 w_263))) else (exl (upd j49c_h0_0c (x_240 : Int32).toNatClampNeg r_249) fun (w_268 : Nat → Int32) => (exl (j49c_l6 + 1) fun (x_271 : Int32) => ((fx_c_X0_readClause_p49c h1_f1 h1_0c h0_f1 h0_f3 F) x_271 x_233 j49c_l3 x_250 x_251 j49c_h0_f2 w_268)))))))))))) else (exc1 (fx_c_X9_refuseHere x_205 j49c_h1_f3) fun (x_275 : Int32) => (x_205, x_275, h0_f1, j49c_h0_f2, h0_f3, j49c_h0_0c))))) else (default)))))))))) else default) : Int32 × Int32 × Int32 × Int32 × Int32 × (Nat → Int32)) := rfl
theorem it_CS_c {c : Nat → Int32} {n : Nat} (hT : TB c n) (base : Nat) (hbs : base ≤ 100) (a1 a2 a3 : Int32) : CSt c n 4 base fx_c_X12_spotOf_1 (it_N1_c c n) a1 a2 a3 (fun F i t a w V => fx_c_X0_readClause_p49c (nI n) c a1 a3 F i t (nI base) a w a2 V) := by
  have hn := hT.2
  have hi : ∀ i, i ≤ 4 → ¬ (4 : Int32) < nI i := fun i h => nI_nlt (a := 4) (b := i) h (by omega)
  refine ⟨?_, ?_, ?_, ?_⟩
  · intro F i t a w V hw h
    simp only []
    rw [fs_c_X0_readClause_p49c, if_pos rfl]
    simp only [exc1, exc2, exc3, exl]
    rw [px_isr_no hw, if_pos rfl]
    split <;> rfl
  · intro F i p t V h hp h1
    simp only []
    rw [fs_c_X0_readClause_p49c, if_pos rfl]
    simp only [exc1, exc2, exc3, exl]
    rw [if_neg (hi i h), px_isr_m1, if_neg (by decide), px_c_X9_peek hT hp]
    simp only []
    by_cases h2 : tq_ch c n (tq_pk c n p) = -1
    · rw [if_pos h2]
    · rw [if_neg h2, it_pl_c (tq_ch_RG0 hT h2), if_pos (h1.resolve_left h2)]
  · intro F i p t k V h hp ht h2 hix hk hb
    have hkb := it_tb_c k hk
    have hb9 := tq_bits t ht k (by omega)
    have hk1 : ¬ nI k = -1 := nI_m1 (by omega)
    simp only []
    rw [fs_c_X0_readClause_p49c, if_pos rfl]
    simp only [exc1, exc2, exc3, exl]
    rw [if_neg (hi i h), px_isr_m1, if_neg (by decide), px_c_X9_peek hT hp]
    simp only []
    rw [if_neg h2, it_pl_c (tq_ch_RG0 hT h2), hix, if_neg hk1, if_pos hkb.2.2.2.2, hb9.1, hb, if_pos rfl, if_neg (by decide)]
    rfl
  · intro F i p t k V h hp ht h2 hix hk hb
    have hkb := it_tb_c k hk
    have hb9 := tq_bits t ht k (by omega)
    have hk1 : ¬ nI k = -1 := nI_m1 (by omega)
    have hcl : (nI base + nI k : Int32).toNatClampNeg = base + k := by rw [nI_add, px_clamp (by omega)]
    simp only []
    rw [fs_c_X0_readClause_p49c, if_pos rfl]
    simp only [exc1, exc2, exc3, exl]
    rw [if_neg (hi i h), px_isr_m1, if_neg (by decide), px_c_X9_peek hT hp]
    simp only []
    rw [if_neg h2, it_pl_c (tq_ch_RG0 hT h2), hix, if_neg hk1, if_pos hkb.2.2.2.2, hb9.1, hb, px_i0, if_pos rfl, hb9.2, px_skip, hkb.1, hkb.2.1, hcl, nI_1]
    show (if (it_N1_c c n k (tq_pk c n p + 1)).1 = -1 then _ else _) = _
    by_cases h9 : (it_N1_c c n k (tq_pk c n p + 1)).1 = -1
    · rw [if_pos h9, h9]
      rfl
    · rw [if_neg h9]
      rfl
theorem rx_has : ∀ t, t < 256 → ∀ k, k < 8 → fx_c_X12_has_2 (nI t) (nI k) = if t.testBit k then 1 else 0 := by decide +kernel
theorem fs_c_X12_readItems_2_p45b (p1 : Int32) (h0_f8 : Int32) (h0_f9 : Int32) (h0_5c : Nat → Int32) (F : Nat) (j45b_l6 : Int32) (j45b_l5 : Int32) (j45b_h0_f10 : Int32) (j45b_h2c : (Nat → Int32)) : fx_c_X12_readItems_2_p45b p1 h0_f8 h0_f9 h0_5c (F + 1) j45b_l6 j45b_l5 j45b_h0_f10 j45b_h2c = ((if j45b_l6 = j45b_l6 then (if j45b_l6 = (-1) then (default) else (if j45b_l6 = 0 then (exc1 (fx_c_X12_has_2 j45b_l5 0) fun (r_7 : Int32) => (if r_7 = 0 then (exl (j45b_l5 ||| 1) fun (x_16 : Int32) => (exl (j45b_h0_f10 + 1) fun (x_17 : Int32) => (exc1 (fx_c_X12_leastOf_5 p1 0) fun (r_21 : Int32) => (exc1 (fx_c_X12_mostOf_5 p1 0) fun (r_24 : Int32) => (exc3 (fx_c_X12_number h0_f8 h0_f9 x_17 h0_5c) fun (r_27 : Int32) (x_28 : Int32) (x_29 : Int32) => (if x_29 = (-1) then (exl (upd j45b_h2c (0 : Int32).toNatClampNeg r_27) fun (w_46 : Nat → Int32) => (exc2 (fx_c_X12_look h0_f8 h0_f9 x_28 h0_5c) fun (r_51 : Int32) (x_52 : Int32) => (if r_51 = (-1) then (exc1 (fx_c_X12_spotOf_4) fun (r_66 : Int32) => (fx_c_X12_readItems_2_p45 x_52 w_46)) else (exc1 (fx_c_X12_spotOf_5 r_51) fun (r_70 : Int32) => (if r_70 = (-1) then (fx_c_X12_readItems_2_p45 x_52 w_46) else (if r_70 = 3 then ((fx_c_X12_readItems_2_p45b p1 h0_f8 h0_f9 h0_5c F) 3 x_16 x_52 w_46) else (if r_70 = 2 then ((fx_c_X12_readItems_2_p45b p1 h0_f8 h0_f9 h0_5c F) 2 x_16 x_52 w_46) else (if r_70 = 1 then ((fx_c_X12_readItems_2_p45b p1 h0_f8 h0_f9 h0_5c F) 1 x_16 x_52 w_46) else ((fx_c_X12_readItems_2_p45b p1 h0_f8 h0_f9 h0_5c F) 0 x_16 x_52 w_46))))))))) else (if r_27 = 0 then (exl (upd j45b_h2c (0 : Int32).toNatClampNeg 0) fun (w_85 : Nat → Int32) => (if x_29 = (-1) then (default) else (fx_c_X12_readItems_2_p45c 0 x_28 x_29 w_85))) else (exl (upd j45b_h2c (0 : Int32).toNatClampNeg r_27) fun (w_90 : Nat → Int32) => (if x_29 = (-1) then (default) else (fx_c_X12_readItems_2_p45c 0 x_28 x_29 w_90)))))))))) else (exc1 (fx_c_X12_fails) fun (r_95 : Int32) => (j45b_h0_f10, j45b_h0_f10, j45b_h2c)))) else (if j45b_l6 = 1 then (exc1 (fx_c_X12_has_2 j45b_l5 1) fun (r_99 : Int32) => (if r_99 = 0 then (exl (j45b_l5 ||| 2) fun (x_108 : Int32) => (exl (j45b_h0_f10 + 1) fun (x_109 : Int32) => (exc1 (fx_c_X12_leastOf_6 p1 1) fun (r_113 : Int32) => (exc1 (fx_c_X12_mostOf_6 p1 1) fun (r_116 : Int32) => (if r_116 = 3 then (exc3 (fx_c_X12_number_2 h0_f8 h0_f9 x_109 h0_5c) fun (r_123 : Int32) (x_124 : Int32) (x_125 : Int32) => (if x_125 = (-1) then (exl (upd j45b_h2c (1 : Int32).toNatClampNeg r_123) fun (w_142 : Nat → Int32) => (exc2 (fx_c_X12_look h0_f8 h0_f9 x_124 h0_5c) fun (r_147 : Int32) (x_148 : Int32) => (if r_147 = (-1) then (exc1 (fx_c_X12_spotOf_4) fun (r_162 : Int32) => (fx_c_X12_readItems_2_p45 x_148 w_142)) else (exc1 (fx_c_X12_spotOf_5 r_147) fun (r_166 : Int32) => (if r_166 = (-1) then (fx_c_X12_readItems_2_p45 x_148 w_142) else (if r_166 = 3 then ((fx_c_X12_readItems_2_p45b p1 h0_f8 h0_f9 h0_5c F) 3 x_108 x_148 w_142) else (if r_166 = 2 then ((fx_c_X12_readItems_2_p45b p1 h0_f8 h0_f9 h0_5c F) 2 x_108 x_148 w_142) else (if r_166 = 1 then ((fx_c_X12_readItems_2_p45b p1 h0_f8 h0_f9 h0_5c F) 1 x_108 x_148 w_142) else ((fx_c_X12_readItems_2_p45b p1 h0_f8 h0_f9 h0_5c F) 0 x_108 x_148 w_142))))))))) else (if r_123 = 0 then (exl (upd j45b_h2c (1 : Int32).toNatClampNeg 0) fun (w_181 : Nat → Int32) => (if x_125 = (-1) then (default) else (fx_c_X12_readItems_2_p45c 1 x_124 x_125 w_181))) else (exl (upd j45b_h2c (1 : Int32).toNatClampNeg r_123) fun (w_186 : Nat → Int32) => (if x_125 = (-1) then (default) else (fx_c_X12_readItems_2_p45c 1 x_124 x_125 w_186)))))) else (default)))))) else (exc1 (fx_c_X12_fails) fun (r_191 : Int32) => (j45b_h0_f10, j45b_h0_f10, j45b_h2c)))) else (if j45b_l6 = 2 then (exc1 (fx_c_X12_has_2 j45b_l5 2) fun (r_195 : Int32) => (if r_195 = 0 then (exl (j45b_l5 ||| 4) fun (x_204 : Int32) => (exl (j45b_h0_f10 + 1) fun (x_205 : Int32) => (exc1 (fx_c_X12_leastOf_7 p1 2) fun (r_209 : Int32) => (if r_209 = 0 then (default) else (exc1 (fx_c_X12_mostOf_7 p1 2) fun (r_216 : Int32) => (if r_216 = 12 then (exc3 (fx_c_X12_number_3 h0_f8 h0_f9 x_205 h0_5c) fun (r_226 : Int32) (x_227 : Int32) (x_228 : Int32) => (if x_228 = (-1) then (exl (upd j45b_h2c (2 : Int32).toNatClampNeg r_226) fun (w_239 : Nat → Int32) => (exc2 (fx_c_X12_look h0_f8 h0_f9 x_227 h0_5c) fun (r_244 : Int32) (x_245 : Int32) => (if r_244 = (-1) then (exc1 (fx_c_X12_spotOf_4) fun (r_259 : Int32) => (fx_c_X12_readItems_2_p45 x_245 w_239)) else (exc1 (fx_c_X12_spotOf_5 r_244) fun (r_263 : Int32) => (if r_263 = (-1) then (fx_c_X12_readItems_2_p45 x_245 w_239) else (if r_263 = 3 then ((fx_c_X12_readItems_2_p45b p1 h0_f8 h0_f9 h0_5c F) 3 x_204 x_245 w_239) else (if r_263 = 2 then ((fx_c_X12_readItems_2_p45b p1 h0_f8 h0_f9 h0_5c F) 2 x_204 x_245 w_239) else (if r_263 = 1 then ((fx_c_X12_readItems_2_p45b p1 h0_f8 h0_f9 h0_5c F) 1 x_204 x_245 w_239) else ((fx_c_X12_readItems_2_p45b p1 h0_f8 h0_f9 h0_5c F) 0 x_204 x_245 w_239))))))))) else (exl (upd j45b_h2c (2 : Int32).toNatClampNeg r_226) fun (w_278 : Nat → Int32) => (if x_228 = (-1) then (default) else (fx_c_X12_readItems_2_p45c 2 x_227 x_228 w_278))))) else (if r_216 = 3 then (default) else (default)))))))) else (exc1 (fx_c_X12_fails) fun (r_283 : Int32) => (j45b_h0_f10, j45b_h0_f10, j45b_h2c)))) else (if j45b_l6 = 3 then (exc1 (fx_c_X12_has_2 j45b_l5 3) fun (r_287 : Int32) => (if r_287 = 0 then (exl (j45b_l5 ||| 8) fun (x_296 : Int32) => (exl (j45b_h0_f10 + 1) fun (x_297 : Int32) => (exc1 (fx_c_X12_leastOf_8 p1 3) fun (r_301 : Int32) => (if r_301 = 0 then (default) else (exc1 (fx_c_X12_mostOf_8 p1 3) fun (r_308 : Int32) => (if r_308 = 20 then (exc3 (fx_c_X12_number_4 h0_f8 h0_f9 x_297 h0_5c) fun (r_321 : Int32) (x_322 : Int32) (x_323 : Int32) => (if x_323 = (-1) then (exl (upd j45b_h2c (3 : Int32).toNatClampNeg r_321) fun (w_334 : Nat → Int32) => (exc2 (fx_c_X12_look h0_f8 h0_f9 x_322 h0_5c) fun (r_339 : Int32) (x_340 : Int32) => (if r_339 = (-1) then (exc1 (fx_c_X12_spotOf_4) fun (r_354 : Int32) => (fx_c_X12_readItems_2_p45 x_340 w_334)) else (exc1 (fx_c_X12_spotOf_5 r_339) fun (r_358 : Int32) => (if r_358 = (-1) then (fx_c_X12_readItems_2_p45 x_340 w_334) else (if r_358 = 3 then ((fx_c_X12_readItems_2_p45b p1 h0_f8 h0_f9 h0_5c F) 3 x_296 x_340 w_334) else (if r_358 = 2 then ((fx_c_X12_readItems_2_p45b p1 h0_f8 h0_f9 h0_5c F) 2 x_296 x_340 w_334) else (if r_358 = 1 then ((fx_c_X12_readItems_2_p45b p1 h0_f8 h0_f9 h0_5c F) 1 x_296 x_340 w_334) else ((fx_c_X12_readItems_2_p45b p1 h0_f8 h0_f9 h0_5c F) 0 x_296 x_340 w_334))))))))) else (exl (upd j45b_h2c (3 : Int32).toNatClampNeg r_321) fun (w_373 : Nat → Int32) => (if x_323 = (-1) then (default) else (fx_c_X12_readItems_2_p45c 3 x_322 x_323 w_373))))) else (if r_308 = 12 then (default) else (if r_308 = 3 then (default) else (default))))))))) else (exc1 (fx_c_X12_fails) fun (r_378 : Int32) => (j45b_h0_f10, j45b_h0_f10, j45b_h2c)))) else (default)))))) else default) : Int32 × Int32 × (Nat → Int32)) := rfl
theorem it_RS_s {c g : Nat → Int32} {n : Nat} (hT : TB c n) (hG : TG c g n) : RSt c n 4 0 fx_c_X12_spotOf_5 (it_N2_s g n) (fun F w t a V => fx_c_X12_readItems_2_p45b 115 0 (nI n) g F w t a V) := by
  have hn := hT.2
  refine ⟨?_, ?_, ?_, ?_⟩
  · intro F p t k V hp ht hk hb
    by_cases e0 : k = 0
    · subst e0
      have hh : fx_c_X12_has_2 (nI t) 0 = _ := rx_has t ht 0 (by omega)
      rw [hb] at hh
      simp only []
      rw [fs_c_X12_readItems_2_p45b, if_pos rfl]
      rw [if_neg (show ¬ nI 0 = -1 by decide), if_pos (show nI 0 = 0 by decide)]
      simp only [exc1, exc2, exc3, exl]
      rw [hh]
      rw [px_i1, if_neg (show ¬ (1 : Int32) = 0 by decide)]
      all_goals rfl
    by_cases e1 : k = 1
    · subst e1
      have hh : fx_c_X12_has_2 (nI t) 1 = _ := rx_has t ht 1 (by omega)
      rw [hb] at hh
      simp only []
      rw [fs_c_X12_readItems_2_p45b, if_pos rfl]
      rw [if_neg (show ¬ nI 1 = -1 by decide), if_neg (show ¬ nI 1 = 0 by decide), if_pos (show nI 1 = 1 by decide)]
      simp only [exc1, exc2, exc3, exl]
      rw [hh]
      rw [px_i1, if_neg (show ¬ (1 : Int32) = 0 by decide)]
      all_goals rfl
    by_cases e2 : k = 2
    · subst e2
      have hh : fx_c_X12_has_2 (nI t) 2 = _ := rx_has t ht 2 (by omega)
      rw [hb] at hh
      simp only []
      rw [fs_c_X12_readItems_2_p45b, if_pos rfl]
      rw [if_neg (show ¬ nI 2 = -1 by decide), if_neg (show ¬ nI 2 = 0 by decide), if_neg (show ¬ nI 2 = 1 by decide), if_pos (show nI 2 = 2 by decide)]
      simp only [exc1, exc2, exc3, exl]
      rw [hh]
      rw [px_i1, if_neg (show ¬ (1 : Int32) = 0 by decide)]
      all_goals rfl
    by_cases e3 : k = 3
    · subst e3
      have hh : fx_c_X12_has_2 (nI t) 3 = _ := rx_has t ht 3 (by omega)
      rw [hb] at hh
      simp only []
      rw [fs_c_X12_readItems_2_p45b, if_pos rfl]
      rw [if_neg (show ¬ nI 3 = -1 by decide), if_neg (show ¬ nI 3 = 0 by decide), if_neg (show ¬ nI 3 = 1 by decide), if_neg (show ¬ nI 3 = 2 by decide), if_pos (show nI 3 = 3 by decide)]
      simp only [exc1, exc2, exc3, exl]
      rw [hh]
      rw [px_i1, if_neg (show ¬ (1 : Int32) = 0 by decide)]
      all_goals rfl
    omega
  · intro F p t k V hp ht hk hb hne
    by_cases e0 : k = 0
    · subst e0
      have hN : it_N2_s g n 0 (p + 1) = fx_c_X12_number 0 (nI n) (nI (p + 1)) g := rfl
      rw [hN] at hne ⊢
      have hh : fx_c_X12_has_2 (nI t) 0 = _ := rx_has t ht 0 (by omega)
      rw [hb] at hh
      simp only []
      rw [fs_c_X12_readItems_2_p45b, if_pos rfl]
      rw [if_neg (show ¬ nI 0 = -1 by decide), if_pos (show nI 0 = 0 by decide)]
      simp only [exc1, exc2, exc3, exl]
      rw [hh]
      rw [px_i0, if_pos rfl, nI_1]
      rw [if_neg hne]
      simp only [fx_c_X12_readItems_2_p45c]
      by_cases hz : (fx_c_X12_number 0 (nI n) (nI (p + 1)) g).1 = 0
      · simp [hz, hne, show fx_c_X12_leastOf_5 115 0 = 0 from by decide, show fx_c_X12_mostOf_5 115 0 = 9 from by decide]
      · simp [hz, hne, show fx_c_X12_leastOf_5 115 0 = 0 from by decide, show fx_c_X12_mostOf_5 115 0 = 9 from by decide]
    by_cases e1 : k = 1
    · subst e1
      have hN : it_N2_s g n 1 (p + 1) = fx_c_X12_number_2 0 (nI n) (nI (p + 1)) g := rfl
      rw [hN] at hne ⊢
      have hh : fx_c_X12_has_2 (nI t) 1 = _ := rx_has t ht 1 (by omega)
      rw [hb] at hh
      simp only []
      rw [fs_c_X12_readItems_2_p45b, if_pos rfl]
      rw [if_neg (show ¬ nI 1 = -1 by decide), if_neg (show ¬ nI 1 = 0 by decide), if_pos (show nI 1 = 1 by decide)]
      simp only [exc1, exc2, exc3, exl]
      rw [hh]
      rw [px_i0, if_pos rfl, nI_1]
      rw [if_neg hne]
      simp only [fx_c_X12_readItems_2_p45c]
      by_cases hz : (fx_c_X12_number_2 0 (nI n) (nI (p + 1)) g).1 = 0
      · simp [hz, hne, show fx_c_X12_leastOf_6 115 1 = 0 from by decide, show fx_c_X12_mostOf_6 115 1 = 3 from by decide]
      · simp [hz, hne, show fx_c_X12_leastOf_6 115 1 = 0 from by decide, show fx_c_X12_mostOf_6 115 1 = 3 from by decide]
    by_cases e2 : k = 2
    · subst e2
      have hN : it_N2_s g n 2 (p + 1) = fx_c_X12_number_3 0 (nI n) (nI (p + 1)) g := rfl
      rw [hN] at hne ⊢
      have hh : fx_c_X12_has_2 (nI t) 2 = _ := rx_has t ht 2 (by omega)
      rw [hb] at hh
      simp only []
      rw [fs_c_X12_readItems_2_p45b, if_pos rfl]
      rw [if_neg (show ¬ nI 2 = -1 by decide), if_neg (show ¬ nI 2 = 0 by decide), if_neg (show ¬ nI 2 = 1 by decide), if_pos (show nI 2 = 2 by decide)]
      simp only [exc1, exc2, exc3, exl]
      rw [hh]
      rw [px_i0, if_pos rfl, nI_1]
      rw [if_neg (show ¬ fx_c_X12_leastOf_7 115 2 = 0 by decide), if_pos (show fx_c_X12_mostOf_7 115 2 = 12 by decide)]
      rw [if_neg hne]
      simp only [fx_c_X12_readItems_2_p45c]
      by_cases hz : (fx_c_X12_number_3 0 (nI n) (nI (p + 1)) g).1 = 0
      · simp [hz, hne, show fx_c_X12_leastOf_7 115 2 = 1 from by decide, show fx_c_X12_mostOf_7 115 2 = 12 from by decide]
      · simp [hz, hne, show fx_c_X12_leastOf_7 115 2 = 1 from by decide, show fx_c_X12_mostOf_7 115 2 = 12 from by decide]
    by_cases e3 : k = 3
    · subst e3
      have hN : it_N2_s g n 3 (p + 1) = fx_c_X12_number_4 0 (nI n) (nI (p + 1)) g := rfl
      rw [hN] at hne ⊢
      have hh : fx_c_X12_has_2 (nI t) 3 = _ := rx_has t ht 3 (by omega)
      rw [hb] at hh
      simp only []
      rw [fs_c_X12_readItems_2_p45b, if_pos rfl]
      rw [if_neg (show ¬ nI 3 = -1 by decide), if_neg (show ¬ nI 3 = 0 by decide), if_neg (show ¬ nI 3 = 1 by decide), if_neg (show ¬ nI 3 = 2 by decide), if_pos (show nI 3 = 3 by decide)]
      simp only [exc1, exc2, exc3, exl]
      rw [hh]
      rw [px_i0, if_pos rfl, nI_1]
      rw [if_neg (show ¬ fx_c_X12_leastOf_8 115 3 = 0 by decide), if_pos (show fx_c_X12_mostOf_8 115 3 = 20 by decide)]
      rw [if_neg hne]
      simp only [fx_c_X12_readItems_2_p45c]
      by_cases hz : (fx_c_X12_number_4 0 (nI n) (nI (p + 1)) g).1 = 0
      · simp [hz, hne, show fx_c_X12_leastOf_8 115 3 = 1 from by decide, show fx_c_X12_mostOf_8 115 3 = 20 from by decide]
      · simp [hz, hne, show fx_c_X12_leastOf_8 115 3 = 1 from by decide, show fx_c_X12_mostOf_8 115 3 = 20 from by decide]
    omega
  · intro F p t k q V hp ht hk hb hok hq hq1 hx
    by_cases e0 : k = 0
    · subst e0
      have hN : it_N2_s g n 0 (p + 1) = fx_c_X12_number 0 (nI n) (nI (p + 1)) g := rfl
      rw [hN] at hok hq1 ⊢
      have hcl : (0 : Int32).toNatClampNeg = 0 + 0 := by decide
      have ho : nI t ||| 1 = nI (t ||| 2 ^ 0) := by
        have h9 := (tq_bits t ht 0 (by omega)).2
        rw [show (1 : Int32) <<< (nI 0 &&& 31) = 1 from by decide] at h9
        exact h9
      have hh : fx_c_X12_has_2 (nI t) 0 = _ := rx_has t ht 0 (by omega)
      rw [hb] at hh
      simp only []
      rw [fs_c_X12_readItems_2_p45b, if_pos rfl]
      rw [if_neg (show ¬ nI 0 = -1 by decide), if_pos (show nI 0 = 0 by decide)]
      simp only [exc1, exc2, exc3, exl]
      rw [hh]
      rw [px_i0, if_pos rfl, nI_1]
      rw [if_pos hok, hq1, rx_c_X12_look hT hG hq, hcl]
      simp only []
      by_cases h2 : tq_ch c n (tq_pk c n q) = -1
      · rw [if_pos h2]
        rfl
      · rw [if_neg h2, if_pos (hx.resolve_left h2)]
        rfl
    by_cases e1 : k = 1
    · subst e1
      have hN : it_N2_s g n 1 (p + 1) = fx_c_X12_number_2 0 (nI n) (nI (p + 1)) g := rfl
      rw [hN] at hok hq1 ⊢
      have hcl : (1 : Int32).toNatClampNeg = 0 + 1 := by decide
      have ho : nI t ||| 2 = nI (t ||| 2 ^ 1) := by
        have h9 := (tq_bits t ht 1 (by omega)).2
        rw [show (1 : Int32) <<< (nI 1 &&& 31) = 2 from by decide] at h9
        exact h9
      have hh : fx_c_X12_has_2 (nI t) 1 = _ := rx_has t ht 1 (by omega)
      rw [hb] at hh
      simp only []
      rw [fs_c_X12_readItems_2_p45b, if_pos rfl]
      rw [if_neg (show ¬ nI 1 = -1 by decide), if_neg (show ¬ nI 1 = 0 by decide), if_pos (show nI 1 = 1 by decide)]
      simp only [exc1, exc2, exc3, exl]
      rw [hh]
      rw [px_i0, if_pos rfl, nI_1]
      rw [if_pos hok, hq1, rx_c_X12_look hT hG hq, hcl]
      simp only []
      by_cases h2 : tq_ch c n (tq_pk c n q) = -1
      · rw [if_pos h2]
        rfl
      · rw [if_neg h2, if_pos (hx.resolve_left h2)]
        rfl
    by_cases e2 : k = 2
    · subst e2
      have hN : it_N2_s g n 2 (p + 1) = fx_c_X12_number_3 0 (nI n) (nI (p + 1)) g := rfl
      rw [hN] at hok hq1 ⊢
      have hcl : (2 : Int32).toNatClampNeg = 0 + 2 := by decide
      have ho : nI t ||| 4 = nI (t ||| 2 ^ 2) := by
        have h9 := (tq_bits t ht 2 (by omega)).2
        rw [show (1 : Int32) <<< (nI 2 &&& 31) = 4 from by decide] at h9
        exact h9
      have hh : fx_c_X12_has_2 (nI t) 2 = _ := rx_has t ht 2 (by omega)
      rw [hb] at hh
      simp only []
      rw [fs_c_X12_readItems_2_p45b, if_pos rfl]
      rw [if_neg (show ¬ nI 2 = -1 by decide), if_neg (show ¬ nI 2 = 0 by decide), if_neg (show ¬ nI 2 = 1 by decide), if_pos (show nI 2 = 2 by decide)]
      simp only [exc1, exc2, exc3, exl]
      rw [hh]
      rw [px_i0, if_pos rfl, nI_1]
      rw [if_neg (show ¬ fx_c_X12_leastOf_7 115 2 = 0 by decide), if_pos (show fx_c_X12_mostOf_7 115 2 = 12 by decide)]
      rw [if_pos hok, hq1, rx_c_X12_look hT hG hq, hcl]
      simp only []
      by_cases h2 : tq_ch c n (tq_pk c n q) = -1
      · rw [if_pos h2]
        rfl
      · rw [if_neg h2, if_pos (hx.resolve_left h2)]
        rfl
    by_cases e3 : k = 3
    · subst e3
      have hN : it_N2_s g n 3 (p + 1) = fx_c_X12_number_4 0 (nI n) (nI (p + 1)) g := rfl
      rw [hN] at hok hq1 ⊢
      have hcl : (3 : Int32).toNatClampNeg = 0 + 3 := by decide
      have ho : nI t ||| 8 = nI (t ||| 2 ^ 3) := by
        have h9 := (tq_bits t ht 3 (by omega)).2
        rw [show (1 : Int32) <<< (nI 3 &&& 31) = 8 from by decide] at h9
        exact h9
      have hh : fx_c_X12_has_2 (nI t) 3 = _ := rx_has t ht 3 (by omega)
      rw [hb] at hh
      simp only []
      rw [fs_c_X12_readItems_2_p45b, if_pos rfl]
      rw [if_neg (show ¬ nI 3 = -1 by decide), if_neg (show ¬ nI 3 = 0 by decide), if_neg (show ¬ nI 3 = 1 by decide), if_neg (show ¬ nI 3 = 2 by decide), if_pos (show nI 3 = 3 by decide)]
      simp only [exc1, exc2, exc3, exl]
      rw [hh]
      rw [px_i0, if_pos rfl, nI_1]
      rw [if_neg (show ¬ fx_c_X12_leastOf_8 115 3 = 0 by decide), if_pos (show fx_c_X12_mostOf_8 115 3 = 20 by decide)]
      rw [if_pos hok, hq1, rx_c_X12_look hT hG hq, hcl]
      simp only []
      by_cases h2 : tq_ch c n (tq_pk c n q) = -1
      · rw [if_pos h2]
        rfl
      · rw [if_neg h2, if_pos (hx.resolve_left h2)]
        rfl
    omega
  · intro F p t k q k2 V hp ht hk hb hok hq hq1 h2 hix hk2
    by_cases e0 : k = 0
    · subst e0
      have hN : it_N2_s g n 0 (p + 1) = fx_c_X12_number 0 (nI n) (nI (p + 1)) g := rfl
      rw [hN] at hok hq1 ⊢
      have hcl : (0 : Int32).toNatClampNeg = 0 + 0 := by decide
      have ho : nI t ||| 1 = nI (t ||| 2 ^ 0) := by
        have h9 := (tq_bits t ht 0 (by omega)).2
        rw [show (1 : Int32) <<< (nI 0 &&& 31) = 1 from by decide] at h9
        exact h9
      have hh : fx_c_X12_has_2 (nI t) 0 = _ := rx_has t ht 0 (by omega)
      rw [hb] at hh
      simp only []
      rw [fs_c_X12_readItems_2_p45b, if_pos rfl]
      rw [if_neg (show ¬ nI 0 = -1 by decide), if_pos (show nI 0 = 0 by decide)]
      simp only [exc1, exc2, exc3, exl]
      rw [hh]
      rw [px_i0, if_pos rfl, nI_1]
      rw [if_pos hok, hq1, rx_c_X12_look hT hG hq, hcl, ho]
      simp only []
      rw [if_neg h2, hix]
      rw [if_neg (nI_m1 (by omega))]
      by_cases f0 : k2 = 0
      · subst f0
        rw [if_neg (show ¬ nI 0 = 3 by decide), if_neg (show ¬ nI 0 = 2 by decide), if_neg (show ¬ nI 0 = 1 by decide)]
        rfl
      by_cases f1 : k2 = 1
      · subst f1
        rw [if_neg (show ¬ nI 1 = 3 by decide), if_neg (show ¬ nI 1 = 2 by decide), if_pos (show nI 1 = 1 by decide)]
        rfl
      by_cases f2 : k2 = 2
      · subst f2
        rw [if_neg (show ¬ nI 2 = 3 by decide), if_pos (show nI 2 = 2 by decide)]
        rfl
      by_cases f3 : k2 = 3
      · subst f3
        rw [if_pos (show nI 3 = 3 by decide)]
        rfl
      omega
    by_cases e1 : k = 1
    · subst e1
      have hN : it_N2_s g n 1 (p + 1) = fx_c_X12_number_2 0 (nI n) (nI (p + 1)) g := rfl
      rw [hN] at hok hq1 ⊢
      have hcl : (1 : Int32).toNatClampNeg = 0 + 1 := by decide
      have ho : nI t ||| 2 = nI (t ||| 2 ^ 1) := by
        have h9 := (tq_bits t ht 1 (by omega)).2
        rw [show (1 : Int32) <<< (nI 1 &&& 31) = 2 from by decide] at h9
        exact h9
      have hh : fx_c_X12_has_2 (nI t) 1 = _ := rx_has t ht 1 (by omega)
      rw [hb] at hh
      simp only []
      rw [fs_c_X12_readItems_2_p45b, if_pos rfl]
      rw [if_neg (show ¬ nI 1 = -1 by decide), if_neg (show ¬ nI 1 = 0 by decide), if_pos (show nI 1 = 1 by decide)]
      simp only [exc1, exc2, exc3, exl]
      rw [hh]
      rw [px_i0, if_pos rfl, nI_1]
      rw [if_pos hok, hq1, rx_c_X12_look hT hG hq, hcl, ho]
      simp only []
      rw [if_neg h2, hix]
      rw [if_neg (nI_m1 (by omega))]
      by_cases f0 : k2 = 0
      · subst f0
        rw [if_neg (show ¬ nI 0 = 3 by decide), if_neg (show ¬ nI 0 = 2 by decide), if_neg (show ¬ nI 0 = 1 by decide)]
        rfl
      by_cases f1 : k2 = 1
      · subst f1
        rw [if_neg (show ¬ nI 1 = 3 by decide), if_neg (show ¬ nI 1 = 2 by decide), if_pos (show nI 1 = 1 by decide)]
        rfl
      by_cases f2 : k2 = 2
      · subst f2
        rw [if_neg (show ¬ nI 2 = 3 by decide), if_pos (show nI 2 = 2 by decide)]
        rfl
      by_cases f3 : k2 = 3
      · subst f3
        rw [if_pos (show nI 3 = 3 by decide)]
        rfl
      omega
    by_cases e2 : k = 2
    · subst e2
      have hN : it_N2_s g n 2 (p + 1) = fx_c_X12_number_3 0 (nI n) (nI (p + 1)) g := rfl
      rw [hN] at hok hq1 ⊢
      have hcl : (2 : Int32).toNatClampNeg = 0 + 2 := by decide
      have ho : nI t ||| 4 = nI (t ||| 2 ^ 2) := by
        have h9 := (tq_bits t ht 2 (by omega)).2
        rw [show (1 : Int32) <<< (nI 2 &&& 31) = 4 from by decide] at h9
        exact h9
      have hh : fx_c_X12_has_2 (nI t) 2 = _ := rx_has t ht 2 (by omega)
      rw [hb] at hh
      simp only []
      rw [fs_c_X12_readItems_2_p45b, if_pos rfl]
      rw [if_neg (show ¬ nI 2 = -1 by decide), if_neg (show ¬ nI 2 = 0 by decide), if_neg (show ¬ nI 2 = 1 by decide), if_pos (show nI 2 = 2 by decide)]
      simp only [exc1, exc2, exc3, exl]
      rw [hh]
      rw [px_i0, if_pos rfl, nI_1]
      rw [if_neg (show ¬ fx_c_X12_leastOf_7 115 2 = 0 by decide), if_pos (show fx_c_X12_mostOf_7 115 2 = 12 by decide)]
      rw [if_pos hok, hq1, rx_c_X12_look hT hG hq, hcl, ho]
      simp only []
      rw [if_neg h2, hix]
      rw [if_neg (nI_m1 (by omega))]
      by_cases f0 : k2 = 0
      · subst f0
        rw [if_neg (show ¬ nI 0 = 3 by decide), if_neg (show ¬ nI 0 = 2 by decide), if_neg (show ¬ nI 0 = 1 by decide)]
        rfl
      by_cases f1 : k2 = 1
      · subst f1
        rw [if_neg (show ¬ nI 1 = 3 by decide), if_neg (show ¬ nI 1 = 2 by decide), if_pos (show nI 1 = 1 by decide)]
        rfl
      by_cases f2 : k2 = 2
      · subst f2
        rw [if_neg (show ¬ nI 2 = 3 by decide), if_pos (show nI 2 = 2 by decide)]
        rfl
      by_cases f3 : k2 = 3
      · subst f3
        rw [if_pos (show nI 3 = 3 by decide)]
        rfl
      omega
    by_cases e3 : k = 3
    · subst e3
      have hN : it_N2_s g n 3 (p + 1) = fx_c_X12_number_4 0 (nI n) (nI (p + 1)) g := rfl
      rw [hN] at hok hq1 ⊢
      have hcl : (3 : Int32).toNatClampNeg = 0 + 3 := by decide
      have ho : nI t ||| 8 = nI (t ||| 2 ^ 3) := by
        have h9 := (tq_bits t ht 3 (by omega)).2
        rw [show (1 : Int32) <<< (nI 3 &&& 31) = 8 from by decide] at h9
        exact h9
      have hh : fx_c_X12_has_2 (nI t) 3 = _ := rx_has t ht 3 (by omega)
      rw [hb] at hh
      simp only []
      rw [fs_c_X12_readItems_2_p45b, if_pos rfl]
      rw [if_neg (show ¬ nI 3 = -1 by decide), if_neg (show ¬ nI 3 = 0 by decide), if_neg (show ¬ nI 3 = 1 by decide), if_neg (show ¬ nI 3 = 2 by decide), if_pos (show nI 3 = 3 by decide)]
      simp only [exc1, exc2, exc3, exl]
      rw [hh]
      rw [px_i0, if_pos rfl, nI_1]
      rw [if_neg (show ¬ fx_c_X12_leastOf_8 115 3 = 0 by decide), if_pos (show fx_c_X12_mostOf_8 115 3 = 20 by decide)]
      rw [if_pos hok, hq1, rx_c_X12_look hT hG hq, hcl, ho]
      simp only []
      rw [if_neg h2, hix]
      rw [if_neg (nI_m1 (by omega))]
      by_cases f0 : k2 = 0
      · subst f0
        rw [if_neg (show ¬ nI 0 = 3 by decide), if_neg (show ¬ nI 0 = 2 by decide), if_neg (show ¬ nI 0 = 1 by decide)]
        rfl
      by_cases f1 : k2 = 1
      · subst f1
        rw [if_neg (show ¬ nI 1 = 3 by decide), if_neg (show ¬ nI 1 = 2 by decide), if_pos (show nI 1 = 1 by decide)]
        rfl
      by_cases f2 : k2 = 2
      · subst f2
        rw [if_neg (show ¬ nI 2 = 3 by decide), if_pos (show nI 2 = 2 by decide)]
        rfl
      by_cases f3 : k2 = 3
      · subst f3
        rw [if_pos (show nI 3 = 3 by decide)]
        rfl
      omega
    omega
theorem fs_c_X12_readItems_1_p45b (p1 : Int32) (p3 : Int32) (h0_f8 : Int32) (h0_f9 : Int32) (h0_5c : Nat → Int32) (F : Nat) (j45b_l6 : Int32) (j45b_l5 : Int32) (j45b_h0_f10 : Int32) (j45b_h2c : (Nat → Int32)) : fx_c_X12_readItems_1_p45b p1 p3 h0_f8 h0_f9 h0_5c (F + 1) j45b_l6 j45b_l5 j45b_h0_f10 j45b_h2c = ((if j45b_l6 = j45b_l6 then (if j45b_l6 = (-1) then (j45b_h0_f10, (-1), j45b_h2c) else (exc1 (fx_c_X12_has_2 j45b_l5 j45b_l6) fun (r_8 : Int32) => (if r_8 = 0 then (exl (1 <<< (j45b_l6 &&& 31)) fun (x_16 : Int32) => (exl (j45b_l5 ||| x_16) fun (x_18 : Int32) => (exl (j45b_h0_f10 + 1) fun (x_19 : Int32) => (exl (p3 + j45b_l6) fun (x_22 : Int32) => (exc1 (fx_c_X12_leastOf_4 p1) fun (r_24 : Int32) => (exc1 (fx_c_X12_mostOf_4 p1 j45b_l6) fun (r_27 : Int32) => (if r_27 = 9 then (exc3 (fx_c_X12_number h0_f8 h0_f9 x_19 h0_5c) fun (r_33 : Int32) (x_34 : Int32) (x_35 : Int32) => (if x_35 = (-1) then (exl (upd j45b_h2c (x_22 : Int32).toNatClampNeg r_33) fun (w_52 : Nat → Int32) => (exc2 (fx_c_X12_look h0_f8 h0_f9 x_34 h0_5c) fun (r_56 : Int32) (x_57 : Int32) => (if r_56 = (-1) then (exc1 (fx_c_X12_spotOf_2) fun (r_71 : Int32) => (fx_c_X12_readItems_1_p45 x_57 w_52)) else (exc1 (fx_c_X12_spotOf_3 r_56) fun (r_75 : Int32) => ((fx_c_X12_readItems_1_p45b p1 p3 h0_f8 h0_f9 h0_5c F) r_75 x_18 x_57 w_52))))) else (if r_33 = 0 then (exl (upd j45b_h2c (x_22 : Int32).toNatClampNeg 0) fun (w_78 : Nat → Int32) => (if x_35 = (-1) then (default) else (fx_c_X12_readItems_1_p45c j45b_l6 x_34 x_35 w_78))) else (exl (upd j45b_h2c (x_22 : Int32).toNatClampNeg r_33) fun (w_82 : Nat → Int32) => (if x_35 = (-1) then (default) else (fx_c_X12_readItems_1_p45c j45b_l6 x_34 x_35 w_82)))))) else (exc3 (fx_c_X12_number_2 h0_f8 h0_f9 x_19 h0_5c) fun (r_86 : Int32) (x_87 : Int32) (x_88 : Int32) => (if x_88 = (-1) then (exl (upd j45b_h2c (x_22 : Int32).toNatClampNeg r_86) fun (w_105 : Nat → Int32) => (exc2 (fx_c_X12_look h0_f8 h0_f9 x_87 h0_5c) fun (r_109 : Int32) (x_110 : Int32) => (if r_109 = (-1) then (exc1 (fx_c_X12_spotOf_2) fun (r_124 : Int32) => (fx_c_X12_readItems_1_p45 x_110 w_105)) else (exc1 (fx_c_X12_spotOf_3 r_109) fun (r_128 : Int32) => ((fx_c_X12_readItems_1_p45b p1 p3 h0_f8 h0_f9 h0_5c F) r_128 x_18 x_110 w_105))))) else (if r_86 = 0 then (exl (upd j45b_h2c (x_22 : Int32).toNatClampNeg 0) fun (w_131 : Nat → Int32) => (if x_88 = (-1) then (default) else (fx_c_X12_readItems_1_p45c j45b_l6 x_87 x_88 w_131))) else (exl (upd j45b_h2c (x_22 : Int32).toNatClampNeg r_86) fun (w_135 : Nat → Int32) => (if x_88 = (-1) then (default) else (fx_c_X12_readItems_1_p45c j45b_l6 x_87 x_88 w_135))))))))))))) else (exc1 (fx_c_X12_fails) fun (r_141 : Int32) => (j45b_h0_f10, j45b_h0_f10, j45b_h2c))))) else default) : Int32 × Int32 × (Nat → Int32)) := rfl
theorem it_RS_b {c g : Nat → Int32} {n : Nat} (hT : TB c n) (hG : TG c g n) (row : Nat) (hrw : row ≤ 100) : RSt c n 8 row fx_c_X12_spotOf_3 (it_N2_b g n) (fun F w t a V => fx_c_X12_readItems_1_p45b 98 (nI row) 0 (nI n) g F w t a V) := by
  have hn := hT.2
  refine ⟨?_, ?_, ?_, ?_⟩
  · intro F p t k V hp ht hk hb
    by_cases e0 : k = 0
    · subst e0
      have hh : fx_c_X12_has_2 (nI t) (nI 0) = _ := rx_has t ht 0 (by omega)
      rw [hb] at hh
      simp only []
      rw [fs_c_X12_readItems_1_p45b, if_pos rfl]
      rw [if_neg (show ¬ nI 0 = -1 by decide)]
      simp only [exc1, exc2, exc3, exl]
      rw [hh]
      rw [px_i1, if_neg (show ¬ (1 : Int32) = 0 by decide)]
      all_goals rfl
    by_cases e1 : k = 1
    · subst e1
      have hh : fx_c_X12_has_2 (nI t) (nI 1) = _ := rx_has t ht 1 (by omega)
      rw [hb] at hh
      simp only []
      rw [fs_c_X12_readItems_1_p45b, if_pos rfl]
      rw [if_neg (show ¬ nI 1 = -1 by decide)]
      simp only [exc1, exc2, exc3, exl]
      rw [hh]
      rw [px_i1, if_neg (show ¬ (1 : Int32) = 0 by decide)]
      all_goals rfl
    by_cases e2 : k = 2
    · subst e2
      have hh : fx_c_X12_has_2 (nI t) (nI 2) = _ := rx_has t ht 2 (by omega)
      rw [hb] at hh
      simp only []
      rw [fs_c_X12_readItems_1_p45b, if_pos rfl]
      rw [if_neg (show ¬ nI 2 = -1 by decide)]
      simp only [exc1, exc2, exc3, exl]
      rw [hh]
      rw [px_i1, if_neg (show ¬ (1 : Int32) = 0 by decide)]
      all_goals rfl
    by_cases e3 : k = 3
    · subst e3
      have hh : fx_c_X12_has_2 (nI t) (nI 3) = _ := rx_has t ht 3 (by omega)
      rw [hb] at hh
      simp only []
      rw [fs_c_X12_readItems_1_p45b, if_pos rfl]
      rw [if_neg (show ¬ nI 3 = -1 by decide)]
      simp only [exc1, exc2, exc3, exl]
      rw [hh]
      rw [px_i1, if_neg (show ¬ (1 : Int32) = 0 by decide)]
      all_goals rfl
    by_cases e4 : k = 4
    · subst e4
      have hh : fx_c_X12_has_2 (nI t) (nI 4) = _ := rx_has t ht 4 (by omega)
      rw [hb] at hh
      simp only []
      rw [fs_c_X12_readItems_1_p45b, if_pos rfl]
      rw [if_neg (show ¬ nI 4 = -1 by decide)]
      simp only [exc1, exc2, exc3, exl]
      rw [hh]
      rw [px_i1, if_neg (show ¬ (1 : Int32) = 0 by decide)]
      all_goals rfl
    by_cases e5 : k = 5
    · subst e5
      have hh : fx_c_X12_has_2 (nI t) (nI 5) = _ := rx_has t ht 5 (by omega)
      rw [hb] at hh
      simp only []
      rw [fs_c_X12_readItems_1_p45b, if_pos rfl]
      rw [if_neg (show ¬ nI 5 = -1 by decide)]
      simp only [exc1, exc2, exc3, exl]
      rw [hh]
      rw [px_i1, if_neg (show ¬ (1 : Int32) = 0 by decide)]
      all_goals rfl
    by_cases e6 : k = 6
    · subst e6
      have hh : fx_c_X12_has_2 (nI t) (nI 6) = _ := rx_has t ht 6 (by omega)
      rw [hb] at hh
      simp only []
      rw [fs_c_X12_readItems_1_p45b, if_pos rfl]
      rw [if_neg (show ¬ nI 6 = -1 by decide)]
      simp only [exc1, exc2, exc3, exl]
      rw [hh]
      rw [px_i1, if_neg (show ¬ (1 : Int32) = 0 by decide)]
      all_goals rfl
    by_cases e7 : k = 7
    · subst e7
      have hh : fx_c_X12_has_2 (nI t) (nI 7) = _ := rx_has t ht 7 (by omega)
      rw [hb] at hh
      simp only []
      rw [fs_c_X12_readItems_1_p45b, if_pos rfl]
      rw [if_neg (show ¬ nI 7 = -1 by decide)]
      simp only [exc1, exc2, exc3, exl]
      rw [hh]
      rw [px_i1, if_neg (show ¬ (1 : Int32) = 0 by decide)]
      all_goals rfl
    omega
  · intro F p t k V hp ht hk hb hne
    by_cases e0 : k = 0
    · subst e0
      have hN : it_N2_b g n 0 (p + 1) = fx_c_X12_number 0 (nI n) (nI (p + 1)) g := rfl
      rw [hN] at hne ⊢
      have hh : fx_c_X12_has_2 (nI t) (nI 0) = _ := rx_has t ht 0 (by omega)
      rw [hb] at hh
      simp only []
      rw [fs_c_X12_readItems_1_p45b, if_pos rfl]
      rw [if_neg (show ¬ nI 0 = -1 by decide)]
      simp only [exc1, exc2, exc3, exl]
      rw [hh]
      rw [px_i0, if_pos rfl, nI_1]
      rw [if_pos (show fx_c_X12_mostOf_4 98 (nI 0) = 9 by decide)]
      rw [if_neg hne]
      simp only [fx_c_X12_readItems_1_p45c]
      by_cases hz : (fx_c_X12_number 0 (nI n) (nI (p + 1)) g).1 = 0
      · simp [hz, hne, show ¬ nI 0 = -1 by decide]
      · simp [hz, hne, show ¬ nI 0 = -1 by decide]
    by_cases e1 : k = 1
    · subst e1
      have hN : it_N2_b g n 1 (p + 1) = fx_c_X12_number 0 (nI n) (nI (p + 1)) g := rfl
      rw [hN] at hne ⊢
      have hh : fx_c_X12_has_2 (nI t) (nI 1) = _ := rx_has t ht 1 (by omega)
      rw [hb] at hh
      simp only []
      rw [fs_c_X12_readItems_1_p45b, if_pos rfl]
      rw [if_neg (show ¬ nI 1 = -1 by decide)]
      simp only [exc1, exc2, exc3, exl]
      rw [hh]
      rw [px_i0, if_pos rfl, nI_1]
      rw [if_pos (show fx_c_X12_mostOf_4 98 (nI 1) = 9 by decide)]
      rw [if_neg hne]
      simp only [fx_c_X12_readItems_1_p45c]
      by_cases hz : (fx_c_X12_number 0 (nI n) (nI (p + 1)) g).1 = 0
      · simp [hz, hne, show ¬ nI 1 = -1 by decide]
      · simp [hz, hne, show ¬ nI 1 = -1 by decide]
    by_cases e2 : k = 2
    · subst e2
      have hN : it_N2_b g n 2 (p + 1) = fx_c_X12_number 0 (nI n) (nI (p + 1)) g := rfl
      rw [hN] at hne ⊢
      have hh : fx_c_X12_has_2 (nI t) (nI 2) = _ := rx_has t ht 2 (by omega)
      rw [hb] at hh
      simp only []
      rw [fs_c_X12_readItems_1_p45b, if_pos rfl]
      rw [if_neg (show ¬ nI 2 = -1 by decide)]
      simp only [exc1, exc2, exc3, exl]
      rw [hh]
      rw [px_i0, if_pos rfl, nI_1]
      rw [if_pos (show fx_c_X12_mostOf_4 98 (nI 2) = 9 by decide)]
      rw [if_neg hne]
      simp only [fx_c_X12_readItems_1_p45c]
      by_cases hz : (fx_c_X12_number 0 (nI n) (nI (p + 1)) g).1 = 0
      · simp [hz, hne, show ¬ nI 2 = -1 by decide]
      · simp [hz, hne, show ¬ nI 2 = -1 by decide]
    by_cases e3 : k = 3
    · subst e3
      have hN : it_N2_b g n 3 (p + 1) = fx_c_X12_number 0 (nI n) (nI (p + 1)) g := rfl
      rw [hN] at hne ⊢
      have hh : fx_c_X12_has_2 (nI t) (nI 3) = _ := rx_has t ht 3 (by omega)
      rw [hb] at hh
      simp only []
      rw [fs_c_X12_readItems_1_p45b, if_pos rfl]
      rw [if_neg (show ¬ nI 3 = -1 by decide)]
      simp only [exc1, exc2, exc3, exl]
      rw [hh]
      rw [px_i0, if_pos rfl, nI_1]
      rw [if_pos (show fx_c_X12_mostOf_4 98 (nI 3) = 9 by decide)]
      rw [if_neg hne]
      simp only [fx_c_X12_readItems_1_p45c]
      by_cases hz : (fx_c_X12_number 0 (nI n) (nI (p + 1)) g).1 = 0
      · simp [hz, hne, show ¬ nI 3 = -1 by decide]
      · simp [hz, hne, show ¬ nI 3 = -1 by decide]
    by_cases e4 : k = 4
    · subst e4
      have hN : it_N2_b g n 4 (p + 1) = fx_c_X12_number 0 (nI n) (nI (p + 1)) g := rfl
      rw [hN] at hne ⊢
      have hh : fx_c_X12_has_2 (nI t) (nI 4) = _ := rx_has t ht 4 (by omega)
      rw [hb] at hh
      simp only []
      rw [fs_c_X12_readItems_1_p45b, if_pos rfl]
      rw [if_neg (show ¬ nI 4 = -1 by decide)]
      simp only [exc1, exc2, exc3, exl]
      rw [hh]
      rw [px_i0, if_pos rfl, nI_1]
      rw [if_pos (show fx_c_X12_mostOf_4 98 (nI 4) = 9 by decide)]
      rw [if_neg hne]
      simp only [fx_c_X12_readItems_1_p45c]
      by_cases hz : (fx_c_X12_number 0 (nI n) (nI (p + 1)) g).1 = 0
      · simp [hz, hne, show ¬ nI 4 = -1 by decide]
      · simp [hz, hne, show ¬ nI 4 = -1 by decide]
    by_cases e5 : k = 5
    · subst e5
      have hN : it_N2_b g n 5 (p + 1) = fx_c_X12_number 0 (nI n) (nI (p + 1)) g := rfl
      rw [hN] at hne ⊢
      have hh : fx_c_X12_has_2 (nI t) (nI 5) = _ := rx_has t ht 5 (by omega)
      rw [hb] at hh
      simp only []
      rw [fs_c_X12_readItems_1_p45b, if_pos rfl]
      rw [if_neg (show ¬ nI 5 = -1 by decide)]
      simp only [exc1, exc2, exc3, exl]
      rw [hh]
      rw [px_i0, if_pos rfl, nI_1]
      rw [if_pos (show fx_c_X12_mostOf_4 98 (nI 5) = 9 by decide)]
      rw [if_neg hne]
      simp only [fx_c_X12_readItems_1_p45c]
      by_cases hz : (fx_c_X12_number 0 (nI n) (nI (p + 1)) g).1 = 0
      · simp [hz, hne, show ¬ nI 5 = -1 by decide]
      · simp [hz, hne, show ¬ nI 5 = -1 by decide]
    by_cases e6 : k = 6
    · subst e6
      have hN : it_N2_b g n 6 (p + 1) = fx_c_X12_number_2 0 (nI n) (nI (p + 1)) g := rfl
      rw [hN] at hne ⊢
      have hh : fx_c_X12_has_2 (nI t) (nI 6) = _ := rx_has t ht 6 (by omega)
      rw [hb] at hh
      simp only []
      rw [fs_c_X12_readItems_1_p45b, if_pos rfl]
      rw [if_neg (show ¬ nI 6 = -1 by decide)]
      simp only [exc1, exc2, exc3, exl]
      rw [hh]
      rw [px_i0, if_pos rfl, nI_1]
      rw [if_neg (show ¬ fx_c_X12_mostOf_4 98 (nI 6) = 9 by decide)]
      rw [if_neg hne]
      simp only [fx_c_X12_readItems_1_p45c]
      by_cases hz : (fx_c_X12_number_2 0 (nI n) (nI (p + 1)) g).1 = 0
      · simp [hz, hne, show ¬ nI 6 = -1 by decide]
      · simp [hz, hne, show ¬ nI 6 = -1 by decide]
    by_cases e7 : k = 7
    · subst e7
      have hN : it_N2_b g n 7 (p + 1) = fx_c_X12_number 0 (nI n) (nI (p + 1)) g := rfl
      rw [hN] at hne ⊢
      have hh : fx_c_X12_has_2 (nI t) (nI 7) = _ := rx_has t ht 7 (by omega)
      rw [hb] at hh
      simp only []
      rw [fs_c_X12_readItems_1_p45b, if_pos rfl]
      rw [if_neg (show ¬ nI 7 = -1 by decide)]
      simp only [exc1, exc2, exc3, exl]
      rw [hh]
      rw [px_i0, if_pos rfl, nI_1]
      rw [if_pos (show fx_c_X12_mostOf_4 98 (nI 7) = 9 by decide)]
      rw [if_neg hne]
      simp only [fx_c_X12_readItems_1_p45c]
      by_cases hz : (fx_c_X12_number 0 (nI n) (nI (p + 1)) g).1 = 0
      · simp [hz, hne, show ¬ nI 7 = -1 by decide]
      · simp [hz, hne, show ¬ nI 7 = -1 by decide]
    omega
  · intro F p t k q V hp ht hk hb hok hq hq1 hx
    by_cases e0 : k = 0
    · subst e0
      have hN : it_N2_b g n 0 (p + 1) = fx_c_X12_number 0 (nI n) (nI (p + 1)) g := rfl
      rw [hN] at hok hq1 ⊢
      have hcl : (nI row + nI 0 : Int32).toNatClampNeg = row + 0 := by rw [nI_add, px_clamp (by omega)]
      have ho : nI t ||| (1 <<< (nI 0 &&& 31)) = nI (t ||| 2 ^ 0) := by
        have h9 := (tq_bits t ht 0 (by omega)).2
        exact h9
      have hh : fx_c_X12_has_2 (nI t) (nI 0) = _ := rx_has t ht 0 (by omega)
      rw [hb] at hh
      simp only []
      rw [fs_c_X12_readItems_1_p45b, if_pos rfl]
      rw [if_neg (show ¬ nI 0 = -1 by decide)]
      simp only [exc1, exc2, exc3, exl]
      rw [hh]
      rw [px_i0, if_pos rfl, nI_1]
      rw [if_pos (show fx_c_X12_mostOf_4 98 (nI 0) = 9 by decide)]
      rw [if_pos hok, hq1, rx_c_X12_look hT hG hq, hcl, ho]
      simp only []
      by_cases h2 : tq_ch c n (tq_pk c n q) = -1
      · rw [if_pos h2]
        rfl
      · rw [if_neg h2, hx.resolve_left h2, fs_c_X12_readItems_1_p45b, if_pos rfl, if_pos rfl]
    by_cases e1 : k = 1
    · subst e1
      have hN : it_N2_b g n 1 (p + 1) = fx_c_X12_number 0 (nI n) (nI (p + 1)) g := rfl
      rw [hN] at hok hq1 ⊢
      have hcl : (nI row + nI 1 : Int32).toNatClampNeg = row + 1 := by rw [nI_add, px_clamp (by omega)]
      have ho : nI t ||| (1 <<< (nI 1 &&& 31)) = nI (t ||| 2 ^ 1) := by
        have h9 := (tq_bits t ht 1 (by omega)).2
        exact h9
      have hh : fx_c_X12_has_2 (nI t) (nI 1) = _ := rx_has t ht 1 (by omega)
      rw [hb] at hh
      simp only []
      rw [fs_c_X12_readItems_1_p45b, if_pos rfl]
      rw [if_neg (show ¬ nI 1 = -1 by decide)]
      simp only [exc1, exc2, exc3, exl]
      rw [hh]
      rw [px_i0, if_pos rfl, nI_1]
      rw [if_pos (show fx_c_X12_mostOf_4 98 (nI 1) = 9 by decide)]
      rw [if_pos hok, hq1, rx_c_X12_look hT hG hq, hcl, ho]
      simp only []
      by_cases h2 : tq_ch c n (tq_pk c n q) = -1
      · rw [if_pos h2]
        rfl
      · rw [if_neg h2, hx.resolve_left h2, fs_c_X12_readItems_1_p45b, if_pos rfl, if_pos rfl]
    by_cases e2 : k = 2
    · subst e2
      have hN : it_N2_b g n 2 (p + 1) = fx_c_X12_number 0 (nI n) (nI (p + 1)) g := rfl
      rw [hN] at hok hq1 ⊢
      have hcl : (nI row + nI 2 : Int32).toNatClampNeg = row + 2 := by rw [nI_add, px_clamp (by omega)]
      have ho : nI t ||| (1 <<< (nI 2 &&& 31)) = nI (t ||| 2 ^ 2) := by
        have h9 := (tq_bits t ht 2 (by omega)).2
        exact h9
      have hh : fx_c_X12_has_2 (nI t) (nI 2) = _ := rx_has t ht 2 (by omega)
      rw [hb] at hh
      simp only []
      rw [fs_c_X12_readItems_1_p45b, if_pos rfl]
      rw [if_neg (show ¬ nI 2 = -1 by decide)]
      simp only [exc1, exc2, exc3, exl]
      rw [hh]
      rw [px_i0, if_pos rfl, nI_1]
      rw [if_pos (show fx_c_X12_mostOf_4 98 (nI 2) = 9 by decide)]
      rw [if_pos hok, hq1, rx_c_X12_look hT hG hq, hcl, ho]
      simp only []
      by_cases h2 : tq_ch c n (tq_pk c n q) = -1
      · rw [if_pos h2]
        rfl
      · rw [if_neg h2, hx.resolve_left h2, fs_c_X12_readItems_1_p45b, if_pos rfl, if_pos rfl]
    by_cases e3 : k = 3
    · subst e3
      have hN : it_N2_b g n 3 (p + 1) = fx_c_X12_number 0 (nI n) (nI (p + 1)) g := rfl
      rw [hN] at hok hq1 ⊢
      have hcl : (nI row + nI 3 : Int32).toNatClampNeg = row + 3 := by rw [nI_add, px_clamp (by omega)]
      have ho : nI t ||| (1 <<< (nI 3 &&& 31)) = nI (t ||| 2 ^ 3) := by
        have h9 := (tq_bits t ht 3 (by omega)).2
        exact h9
      have hh : fx_c_X12_has_2 (nI t) (nI 3) = _ := rx_has t ht 3 (by omega)
      rw [hb] at hh
      simp only []
      rw [fs_c_X12_readItems_1_p45b, if_pos rfl]
      rw [if_neg (show ¬ nI 3 = -1 by decide)]
      simp only [exc1, exc2, exc3, exl]
      rw [hh]
      rw [px_i0, if_pos rfl, nI_1]
      rw [if_pos (show fx_c_X12_mostOf_4 98 (nI 3) = 9 by decide)]
      rw [if_pos hok, hq1, rx_c_X12_look hT hG hq, hcl, ho]
      simp only []
      by_cases h2 : tq_ch c n (tq_pk c n q) = -1
      · rw [if_pos h2]
        rfl
      · rw [if_neg h2, hx.resolve_left h2, fs_c_X12_readItems_1_p45b, if_pos rfl, if_pos rfl]
    by_cases e4 : k = 4
    · subst e4
      have hN : it_N2_b g n 4 (p + 1) = fx_c_X12_number 0 (nI n) (nI (p + 1)) g := rfl
      rw [hN] at hok hq1 ⊢
      have hcl : (nI row + nI 4 : Int32).toNatClampNeg = row + 4 := by rw [nI_add, px_clamp (by omega)]
      have ho : nI t ||| (1 <<< (nI 4 &&& 31)) = nI (t ||| 2 ^ 4) := by
        have h9 := (tq_bits t ht 4 (by omega)).2
        exact h9
      have hh : fx_c_X12_has_2 (nI t) (nI 4) = _ := rx_has t ht 4 (by omega)
      rw [hb] at hh
      simp only []
      rw [fs_c_X12_readItems_1_p45b, if_pos rfl]
      rw [if_neg (show ¬ nI 4 = -1 by decide)]
      simp only [exc1, exc2, exc3, exl]
      rw [hh]
      rw [px_i0, if_pos rfl, nI_1]
      rw [if_pos (show fx_c_X12_mostOf_4 98 (nI 4) = 9 by decide)]
      rw [if_pos hok, hq1, rx_c_X12_look hT hG hq, hcl, ho]
      simp only []
      by_cases h2 : tq_ch c n (tq_pk c n q) = -1
      · rw [if_pos h2]
        rfl
      · rw [if_neg h2, hx.resolve_left h2, fs_c_X12_readItems_1_p45b, if_pos rfl, if_pos rfl]
    by_cases e5 : k = 5
    · subst e5
      have hN : it_N2_b g n 5 (p + 1) = fx_c_X12_number 0 (nI n) (nI (p + 1)) g := rfl
      rw [hN] at hok hq1 ⊢
      have hcl : (nI row + nI 5 : Int32).toNatClampNeg = row + 5 := by rw [nI_add, px_clamp (by omega)]
      have ho : nI t ||| (1 <<< (nI 5 &&& 31)) = nI (t ||| 2 ^ 5) := by
        have h9 := (tq_bits t ht 5 (by omega)).2
        exact h9
      have hh : fx_c_X12_has_2 (nI t) (nI 5) = _ := rx_has t ht 5 (by omega)
      rw [hb] at hh
      simp only []
      rw [fs_c_X12_readItems_1_p45b, if_pos rfl]
      rw [if_neg (show ¬ nI 5 = -1 by decide)]
      simp only [exc1, exc2, exc3, exl]
      rw [hh]
      rw [px_i0, if_pos rfl, nI_1]
      rw [if_pos (show fx_c_X12_mostOf_4 98 (nI 5) = 9 by decide)]
      rw [if_pos hok, hq1, rx_c_X12_look hT hG hq, hcl, ho]
      simp only []
      by_cases h2 : tq_ch c n (tq_pk c n q) = -1
      · rw [if_pos h2]
        rfl
      · rw [if_neg h2, hx.resolve_left h2, fs_c_X12_readItems_1_p45b, if_pos rfl, if_pos rfl]
    by_cases e6 : k = 6
    · subst e6
      have hN : it_N2_b g n 6 (p + 1) = fx_c_X12_number_2 0 (nI n) (nI (p + 1)) g := rfl
      rw [hN] at hok hq1 ⊢
      have hcl : (nI row + nI 6 : Int32).toNatClampNeg = row + 6 := by rw [nI_add, px_clamp (by omega)]
      have ho : nI t ||| (1 <<< (nI 6 &&& 31)) = nI (t ||| 2 ^ 6) := by
        have h9 := (tq_bits t ht 6 (by omega)).2
        exact h9
      have hh : fx_c_X12_has_2 (nI t) (nI 6) = _ := rx_has t ht 6 (by omega)
      rw [hb] at hh
      simp only []
      rw [fs_c_X12_readItems_1_p45b, if_pos rfl]
      rw [if_neg (show ¬ nI 6 = -1 by decide)]
      simp only [exc1, exc2, exc3, exl]
      rw [hh]
      rw [px_i0, if_pos rfl, nI_1]
      rw [if_neg (show ¬ fx_c_X12_mostOf_4 98 (nI 6) = 9 by decide)]
      rw [if_pos hok, hq1, rx_c_X12_look hT hG hq, hcl, ho]
      simp only []
      by_cases h2 : tq_ch c n (tq_pk c n q) = -1
      · rw [if_pos h2]
        rfl
      · rw [if_neg h2, hx.resolve_left h2, fs_c_X12_readItems_1_p45b, if_pos rfl, if_pos rfl]
    by_cases e7 : k = 7
    · subst e7
      have hN : it_N2_b g n 7 (p + 1) = fx_c_X12_number 0 (nI n) (nI (p + 1)) g := rfl
      rw [hN] at hok hq1 ⊢
      have hcl : (nI row + nI 7 : Int32).toNatClampNeg = row + 7 := by rw [nI_add, px_clamp (by omega)]
      have ho : nI t ||| (1 <<< (nI 7 &&& 31)) = nI (t ||| 2 ^ 7) := by
        have h9 := (tq_bits t ht 7 (by omega)).2
        exact h9
      have hh : fx_c_X12_has_2 (nI t) (nI 7) = _ := rx_has t ht 7 (by omega)
      rw [hb] at hh
      simp only []
      rw [fs_c_X12_readItems_1_p45b, if_pos rfl]
      rw [if_neg (show ¬ nI 7 = -1 by decide)]
      simp only [exc1, exc2, exc3, exl]
      rw [hh]
      rw [px_i0, if_pos rfl, nI_1]
      rw [if_pos (show fx_c_X12_mostOf_4 98 (nI 7) = 9 by decide)]
      rw [if_pos hok, hq1, rx_c_X12_look hT hG hq, hcl, ho]
      simp only []
      by_cases h2 : tq_ch c n (tq_pk c n q) = -1
      · rw [if_pos h2]
        rfl
      · rw [if_neg h2, hx.resolve_left h2, fs_c_X12_readItems_1_p45b, if_pos rfl, if_pos rfl]
    omega
  · intro F p t k q k2 V hp ht hk hb hok hq hq1 h2 hix hk2
    by_cases e0 : k = 0
    · subst e0
      have hN : it_N2_b g n 0 (p + 1) = fx_c_X12_number 0 (nI n) (nI (p + 1)) g := rfl
      rw [hN] at hok hq1 ⊢
      have hcl : (nI row + nI 0 : Int32).toNatClampNeg = row + 0 := by rw [nI_add, px_clamp (by omega)]
      have ho : nI t ||| (1 <<< (nI 0 &&& 31)) = nI (t ||| 2 ^ 0) := by
        have h9 := (tq_bits t ht 0 (by omega)).2
        exact h9
      have hh : fx_c_X12_has_2 (nI t) (nI 0) = _ := rx_has t ht 0 (by omega)
      rw [hb] at hh
      simp only []
      rw [fs_c_X12_readItems_1_p45b, if_pos rfl]
      rw [if_neg (show ¬ nI 0 = -1 by decide)]
      simp only [exc1, exc2, exc3, exl]
      rw [hh]
      rw [px_i0, if_pos rfl, nI_1]
      rw [if_pos (show fx_c_X12_mostOf_4 98 (nI 0) = 9 by decide)]
      rw [if_pos hok, hq1, rx_c_X12_look hT hG hq, hcl, ho]
      simp only []
      rw [if_neg h2, hix]
    by_cases e1 : k = 1
    · subst e1
      have hN : it_N2_b g n 1 (p + 1) = fx_c_X12_number 0 (nI n) (nI (p + 1)) g := rfl
      rw [hN] at hok hq1 ⊢
      have hcl : (nI row + nI 1 : Int32).toNatClampNeg = row + 1 := by rw [nI_add, px_clamp (by omega)]
      have ho : nI t ||| (1 <<< (nI 1 &&& 31)) = nI (t ||| 2 ^ 1) := by
        have h9 := (tq_bits t ht 1 (by omega)).2
        exact h9
      have hh : fx_c_X12_has_2 (nI t) (nI 1) = _ := rx_has t ht 1 (by omega)
      rw [hb] at hh
      simp only []
      rw [fs_c_X12_readItems_1_p45b, if_pos rfl]
      rw [if_neg (show ¬ nI 1 = -1 by decide)]
      simp only [exc1, exc2, exc3, exl]
      rw [hh]
      rw [px_i0, if_pos rfl, nI_1]
      rw [if_pos (show fx_c_X12_mostOf_4 98 (nI 1) = 9 by decide)]
      rw [if_pos hok, hq1, rx_c_X12_look hT hG hq, hcl, ho]
      simp only []
      rw [if_neg h2, hix]
    by_cases e2 : k = 2
    · subst e2
      have hN : it_N2_b g n 2 (p + 1) = fx_c_X12_number 0 (nI n) (nI (p + 1)) g := rfl
      rw [hN] at hok hq1 ⊢
      have hcl : (nI row + nI 2 : Int32).toNatClampNeg = row + 2 := by rw [nI_add, px_clamp (by omega)]
      have ho : nI t ||| (1 <<< (nI 2 &&& 31)) = nI (t ||| 2 ^ 2) := by
        have h9 := (tq_bits t ht 2 (by omega)).2
        exact h9
      have hh : fx_c_X12_has_2 (nI t) (nI 2) = _ := rx_has t ht 2 (by omega)
      rw [hb] at hh
      simp only []
      rw [fs_c_X12_readItems_1_p45b, if_pos rfl]
      rw [if_neg (show ¬ nI 2 = -1 by decide)]
      simp only [exc1, exc2, exc3, exl]
      rw [hh]
      rw [px_i0, if_pos rfl, nI_1]
      rw [if_pos (show fx_c_X12_mostOf_4 98 (nI 2) = 9 by decide)]
      rw [if_pos hok, hq1, rx_c_X12_look hT hG hq, hcl, ho]
      simp only []
      rw [if_neg h2, hix]
    by_cases e3 : k = 3
    · subst e3
      have hN : it_N2_b g n 3 (p + 1) = fx_c_X12_number 0 (nI n) (nI (p + 1)) g := rfl
      rw [hN] at hok hq1 ⊢
      have hcl : (nI row + nI 3 : Int32).toNatClampNeg = row + 3 := by rw [nI_add, px_clamp (by omega)]
      have ho : nI t ||| (1 <<< (nI 3 &&& 31)) = nI (t ||| 2 ^ 3) := by
        have h9 := (tq_bits t ht 3 (by omega)).2
        exact h9
      have hh : fx_c_X12_has_2 (nI t) (nI 3) = _ := rx_has t ht 3 (by omega)
      rw [hb] at hh
      simp only []
      rw [fs_c_X12_readItems_1_p45b, if_pos rfl]
      rw [if_neg (show ¬ nI 3 = -1 by decide)]
      simp only [exc1, exc2, exc3, exl]
      rw [hh]
      rw [px_i0, if_pos rfl, nI_1]
      rw [if_pos (show fx_c_X12_mostOf_4 98 (nI 3) = 9 by decide)]
      rw [if_pos hok, hq1, rx_c_X12_look hT hG hq, hcl, ho]
      simp only []
      rw [if_neg h2, hix]
    by_cases e4 : k = 4
    · subst e4
      have hN : it_N2_b g n 4 (p + 1) = fx_c_X12_number 0 (nI n) (nI (p + 1)) g := rfl
      rw [hN] at hok hq1 ⊢
      have hcl : (nI row + nI 4 : Int32).toNatClampNeg = row + 4 := by rw [nI_add, px_clamp (by omega)]
      have ho : nI t ||| (1 <<< (nI 4 &&& 31)) = nI (t ||| 2 ^ 4) := by
        have h9 := (tq_bits t ht 4 (by omega)).2
        exact h9
      have hh : fx_c_X12_has_2 (nI t) (nI 4) = _ := rx_has t ht 4 (by omega)
      rw [hb] at hh
      simp only []
      rw [fs_c_X12_readItems_1_p45b, if_pos rfl]
      rw [if_neg (show ¬ nI 4 = -1 by decide)]
      simp only [exc1, exc2, exc3, exl]
      rw [hh]
      rw [px_i0, if_pos rfl, nI_1]
      rw [if_pos (show fx_c_X12_mostOf_4 98 (nI 4) = 9 by decide)]
      rw [if_pos hok, hq1, rx_c_X12_look hT hG hq, hcl, ho]
      simp only []
      rw [if_neg h2, hix]
    by_cases e5 : k = 5
    · subst e5
      have hN : it_N2_b g n 5 (p + 1) = fx_c_X12_number 0 (nI n) (nI (p + 1)) g := rfl
      rw [hN] at hok hq1 ⊢
      have hcl : (nI row + nI 5 : Int32).toNatClampNeg = row + 5 := by rw [nI_add, px_clamp (by omega)]
      have ho : nI t ||| (1 <<< (nI 5 &&& 31)) = nI (t ||| 2 ^ 5) := by
        have h9 := (tq_bits t ht 5 (by omega)).2
        exact h9
      have hh : fx_c_X12_has_2 (nI t) (nI 5) = _ := rx_has t ht 5 (by omega)
      rw [hb] at hh
      simp only []
      rw [fs_c_X12_readItems_1_p45b, if_pos rfl]
      rw [if_neg (show ¬ nI 5 = -1 by decide)]
      simp only [exc1, exc2, exc3, exl]
      rw [hh]
      rw [px_i0, if_pos rfl, nI_1]
      rw [if_pos (show fx_c_X12_mostOf_4 98 (nI 5) = 9 by decide)]
      rw [if_pos hok, hq1, rx_c_X12_look hT hG hq, hcl, ho]
      simp only []
      rw [if_neg h2, hix]
    by_cases e6 : k = 6
    · subst e6
      have hN : it_N2_b g n 6 (p + 1) = fx_c_X12_number_2 0 (nI n) (nI (p + 1)) g := rfl
      rw [hN] at hok hq1 ⊢
      have hcl : (nI row + nI 6 : Int32).toNatClampNeg = row + 6 := by rw [nI_add, px_clamp (by omega)]
      have ho : nI t ||| (1 <<< (nI 6 &&& 31)) = nI (t ||| 2 ^ 6) := by
        have h9 := (tq_bits t ht 6 (by omega)).2
        exact h9
      have hh : fx_c_X12_has_2 (nI t) (nI 6) = _ := rx_has t ht 6 (by omega)
      rw [hb] at hh
      simp only []
      rw [fs_c_X12_readItems_1_p45b, if_pos rfl]
      rw [if_neg (show ¬ nI 6 = -1 by decide)]
      simp only [exc1, exc2, exc3, exl]
      rw [hh]
      rw [px_i0, if_pos rfl, nI_1]
      rw [if_neg (show ¬ fx_c_X12_mostOf_4 98 (nI 6) = 9 by decide)]
      rw [if_pos hok, hq1, rx_c_X12_look hT hG hq, hcl, ho]
      simp only []
      rw [if_neg h2, hix]
    by_cases e7 : k = 7
    · subst e7
      have hN : it_N2_b g n 7 (p + 1) = fx_c_X12_number 0 (nI n) (nI (p + 1)) g := rfl
      rw [hN] at hok hq1 ⊢
      have hcl : (nI row + nI 7 : Int32).toNatClampNeg = row + 7 := by rw [nI_add, px_clamp (by omega)]
      have ho : nI t ||| (1 <<< (nI 7 &&& 31)) = nI (t ||| 2 ^ 7) := by
        have h9 := (tq_bits t ht 7 (by omega)).2
        exact h9
      have hh : fx_c_X12_has_2 (nI t) (nI 7) = _ := rx_has t ht 7 (by omega)
      rw [hb] at hh
      simp only []
      rw [fs_c_X12_readItems_1_p45b, if_pos rfl]
      rw [if_neg (show ¬ nI 7 = -1 by decide)]
      simp only [exc1, exc2, exc3, exl]
      rw [hh]
      rw [px_i0, if_pos rfl, nI_1]
      rw [if_pos (show fx_c_X12_mostOf_4 98 (nI 7) = 9 by decide)]
      rw [if_pos hok, hq1, rx_c_X12_look hT hG hq, hcl, ho]
      simp only []
      rw [if_neg h2, hix]
    omega
theorem fs_c_X12_readItems_p45b (p1 : Int32) (p3 : Int32) (h0_f8 : Int32) (h0_f9 : Int32) (h0_5c : Nat → Int32) (F : Nat) (j45b_l6 : Int32) (j45b_l5 : Int32) (j45b_h0_f10 : Int32) (j45b_h2c : (Nat → Int32)) : fx_c_X12_readItems_p45b p1 p3 h0_f8 h0_f9 h0_5c (F + 1) j45b_l6 j45b_l5 j45b_h0_f10 j45b_h2c = ((if j45b_l6 = j45b_l6 then (if j45b_l6 = (-1) then (default) else (if j45b_l6 = 0 then (exc1 (fx_c_X12_has_2 j45b_l5 0) fun (r_7 : Int32) => (if r_7 = 0 then (exl (j45b_l5 ||| 1) fun (x_16 : Int32) => (exl (j45b_h0_f10 + 1) fun (x_17 : Int32) => (exl (p3 + 0) fun (x_20 : Int32) => (exc1 (fx_c_X12_leastOf p1 0) fun (r_22 : Int32) => (exc1 (fx_c_X12_mostOf p1 0) fun (r_25 : Int32) => (exc3 (fx_c_X12_number h0_f8 h0_f9 x_17 h0_5c) fun (r_28 : Int32) (x_29 : Int32) (x_30 : Int32) => (if x_30 = (-1) then (exl (upd j45b_h2c (x_20 : Int32).toNatClampNeg r_28) fun (w_47 : Nat → Int32) => (exc2 (fx_c_X12_look h0_f8 h0_f9 x_29 h0_5c) fun (r_52 : Int32) (x_53 : Int32) => (if r_52 = (-1) then (exc1 (fx_c_X12_spotOf) fun (r_67 : Int32) => (fx_c_X12_readItems_p45 x_53 w_47)) else (exc1 (fx_c_X12_spotOf_1 r_52) fun (r_71 : Int32) => (if r_71 = (-1) then (fx_c_X12_readItems_p45 x_53 w_47) else (if r_71 = 3 then ((fx_c_X12_readItems_p45b p1 p3 h0_f8 h0_f9 h0_5c F) 3 x_16 x_53 w_47) else (if r_71 = 2 then ((fx_c_X12_readItems_p45b p1 p3 h0_f8 h0_f9 h0_5c F) 2 x_16 x_53 w_47) else (if r_71 = 1 then ((fx_c_X12_readItems_p45b p1 p3 h0_f8 h0_f9 h0_5c F) 1 x_16 x_53 w_47) else ((fx_c_X12_readItems_p45b p1 p3 h0_f8 h0_f9 h0_5c F) 0 x_16 x_53 w_47))))))))) else (if r_28 = 0 then (exl (upd j45b_h2c (x_20 : Int32).toNatClampNeg 0) fun (w_86 : Nat → Int32) => (if x_30 = (-1) then (default) else (fx_c_X12_readItems_p45c 0 x_29 x_30 w_86))) else (exl (upd j45b_h2c (x_20 : Int32).toNatClampNeg r_28) fun (w_91 : Nat → Int32) => (if x_30 = (-1) then (default) else (fx_c_X12_readItems_p45c 0 x_29 x_30 w_91))))))))))) else (exc1 (fx_c_X12_fails) fun (r_97 : Int32) => (j45b_h0_f10, j45b_h0_f10, j45b_h2c)))) else (if j45b_l6 = 1 then (exc1 (fx_c_X12_has_2 j45b_l5 1) fun (r_101 : Int32) => (if r_101 = 0 then (exl (j45b_l5 ||| 2) fun (x_110 : Int32) => (exl (j45b_h0_f10 + 1) fun (x_111 : Int32) => (exl (p3 + 1) fun (x_114 : Int32) => (exc1 (fx_c_X12_leastOf_1 p1 1) fun (r_116 : Int32) => (exc1 (fx_c_X12_mostOf_1 p1 1) fun (r_119 : Int32) => (exc3 (fx_c_X12_number h0_f8 h0_f9 x_111 h0_5c) fun (r_122 : Int32) (x_123 : Int32) (x_124 : Int32) => (if x_124 = (-1) then (exl (upd j45b_h2c (x_114 : Int32).toNatClampNeg r_122) fun (w_141 : Nat → Int32) => (exc2 (fx_c_X12_look h0_f8 h0_f9 x_123 h0_5c) fun (r_146 : Int32) (x_147 : Int32) => (if r_146 = (-1) then (exc1 (fx_c_X12_spotOf) fun (r_161 : Int32) => (fx_c_X12_readItems_p45 x_147 w_141)) else (exc1 (fx_c_X12_spotOf_1 r_146) fun (r_165 : Int32) => (if r_165 = (-1) then (fx_c_X12_readItems_p45 x_147 w_141) else (if r_165 = 3 then ((fx_c_X12_readItems_p45b p1 p3 h0_f8 h0_f9 h0_5c F) 3 x_110 x_147 w_141) else (if r_165 = 2 then ((fx_c_X12_readItems_p45b p1 p3 h0_f8 h0_f9 h0_5c F) 2 x_110 x_147 w_141) else (if r_165 = 1 then ((fx_c_X12_readItems_p45b p1 p3 h0_f8 h0_f9 h0_5c F) 1 x_110 x_147 w_141) else ((fx_c_X12_readItems_p45b p1 p3 h0_f8 h0_f9 h0_5c F) 0 x_110 x_147 w_141))))))))) else (if r_122 = 0 then (exl (upd j45b_h2c (x_114 : Int32).toNatClampNeg 0) fun (w_180 : Nat → Int32) => (if x_124 = (-1) then (default) else (fx_c_X12_readItems_p45c 1 x_123 x_124 w_180))) else (exl (upd j45b_h2c (x_114 : Int32).toNatClampNeg r_122) fun (w_185 : Nat → Int32) => (if x_124 = (-1) then (default) else (fx_c_X12_readItems_p45c 1 x_123 x_124 w_185))))))))))) else (exc1 (fx_c_X12_fails) fun (r_191 : Int32) => (j45b_h0_f10, j45b_h0_f10, j45b_h2c)))) else (if j45b_l6 = 2 then (exc1 (fx_c_X12_has_2 j45b_l5 2) fun (r_195 : Int32) => (if r_195 = 0 then (exl (j45b_l5 ||| 4) fun (x_204 : Int32) => (exl (j45b_h0_f10 + 1) fun (x_205 : Int32) => (exl (p3 + 2) fun (x_208 : Int32) => (exc1 (fx_c_X12_leastOf_2 p1 2) fun (r_210 : Int32) => (if r_210 = 0 then (default) else (exc1 (fx_c_X12_mostOf_2 p1 2) fun (r_217 : Int32) => (if r_217 = 9 then (default) else (exc3 (fx_c_X12_number_1 h0_f8 h0_f9 x_205 h0_5c) fun (r_224 : Int32) (x_225 : Int32) (x_226 : Int32) => (if x_226 = (-1) then (exl (upd j45b_h2c (x_208 : Int32).toNatClampNeg r_224) fun (w_237 : Nat → Int32) => (exc2 (fx_c_X12_look h0_f8 h0_f9 x_225 h0_5c) fun (r_242 : Int32) (x_243 : Int32) => (if r_242 = (-1) then (exc1 (fx_c_X12_spotOf) fun (r_257 : Int32) => (fx_c_X12_readItems_p45 x_243 w_237)) else (exc1 (fx_c_X12_spotOf_1 r_242) fun (r_261 : Int32) => (if r_261 = (-1) then (fx_c_X12_readItems_p45 x_243 w_237) else (if r_261 = 3 then ((fx_c_X12_readItems_p45b p1 p3 h0_f8 h0_f9 h0_5c F) 3 x_204 x_243 w_237) else (if r_261 = 2 then ((fx_c_X12_readItems_p45b p1 p3 h0_f8 h0_f9 h0_5c F) 2 x_204 x_243 w_237) else (if r_261 = 1 then ((fx_c_X12_readItems_p45b p1 p3 h0_f8 h0_f9 h0_5c F) 1 x_204 x_243 w_237) else ((fx_c_X12_readItems_p45b p1 p3 h0_f8 h0_f9 h0_5c F) 0 x_204 x_243 w_237))))))))) else (exl (upd j45b_h2c (x_208 : Int32).toNatClampNeg r_224) fun (w_276 : Nat → Int32) => (if x_226 = (-1) then (default) else (fx_c_X12_readItems_p45c 2 x_225 x_226 w_276)))))))))))) else (exc1 (fx_c_X12_fails) fun (r_281 : Int32) => (j45b_h0_f10, j45b_h0_f10, j45b_h2c)))) else (if j45b_l6 = 3 then (exc1 (fx_c_X12_has_2 j45b_l5 3) fun (r_285 : Int32) => (if r_285 = 0 then (exl (j45b_l5 ||| 8) fun (x_294 : Int32) => (exl (j45b_h0_f10 + 1) fun (x_295 : Int32) => (exl (p3 + 3) fun (x_298 : Int32) => (exc1 (fx_c_X12_leastOf_3 p1 3) fun (r_300 : Int32) => (if r_300 = 0 then (exc1 (fx_c_X12_mostOf_3 p1 3) fun (r_306 : Int32) => (if r_306 = 9 then (exc3 (fx_c_X12_number h0_f8 h0_f9 x_295 h0_5c) fun (r_312 : Int32) (x_313 : Int32) (x_314 : Int32) => (if x_314 = (-1) then (exl (upd j45b_h2c (x_298 : Int32).toNatClampNeg r_312) fun (w_331 : Nat → Int32) => (exc2 (fx_c_X12_look h0_f8 h0_f9 x_313 h0_5c) fun (r_336 : Int32) (x_337 : Int32) => (if r_336 = (-1) then (exc1 (fx_c_X12_spotOf) fun (r_351 : Int32) => (fx_c_X12_readItems_p45 x_337 w_331)) else (exc1 (fx_c_X12_spotOf_1 r_336) fun (r_355 : Int32) => (if r_355 = (-1) then (fx_c_X12_readItems_p45 x_337 w_331) else (if r_355 = 3 then ((fx_c_X12_readItems_p45b p1 p3 h0_f8 h0_f9 h0_5c F) 3 x_294 x_337 w_331) else (if r_355 = 2 then ((fx_c_X12_readItems_p45b p1 p3 h0_f8 h0_f9 h0_5c F) 2 x_294 x_337 w_331) else (if r_355 = 1 then ((fx_c_X12_readItems_p45b p1 p3 h0_f8 h0_f9 h0_5c F) 1 x_294 x_337 w_331) else ((fx_c_X12_readItems_p45b p1 p3 h0_f8 h0_f9 h0_5c F) 0 x_294 x_337 w_331))))))))) else (if r_312 = 0 then (exl (upd j45b_h2c (x_298 : Int32).toNatClampNeg 0) fun (w_370 : Nat → Int32) => (if x_314 = (-1) then (default) else (fx_c_X12_readItems_p45c 3 x_313 x_314 w_370))) else (exl (upd j45b_h2c (x_298 : Int32).toNatClampNeg r_312) fun (w_375 : Nat → Int32) => (if x_314 = (-1) then (default) else (fx_c_X12_readItems_p45c 3 x_313 x_314 w_375)))))) else (default))) else (default)))))) else (exc1 (fx_c_X12_fails) fun (r_381 : Int32) => (j45b_h0_f10, j45b_h0_f10, j45b_h2c)))) else (default)))))) else default) : Int32 × Int32 × (Nat → Int32)) := rfl
theorem it_RS_c {c g : Nat → Int32} {n : Nat} (hT : TB c n) (hG : TG c g n) (row : Nat) (hrw : row ≤ 100) : RSt c n 4 row fx_c_X12_spotOf_1 (it_N2_c g n) (fun F w t a V => fx_c_X12_readItems_p45b 99 (nI row) 0 (nI n) g F w t a V) := by
  have hn := hT.2
  refine ⟨?_, ?_, ?_, ?_⟩
  · intro F p t k V hp ht hk hb
    by_cases e0 : k = 0
    · subst e0
      have hh : fx_c_X12_has_2 (nI t) 0 = _ := rx_has t ht 0 (by omega)
      rw [hb] at hh
      simp only []
      rw [fs_c_X12_readItems_p45b, if_pos rfl]
      rw [if_neg (show ¬ nI 0 = -1 by decide), if_pos (show nI 0 = 0 by decide)]
      simp only [exc1, exc2, exc3, exl]
      rw [hh]
      rw [px_i1, if_neg (show ¬ (1 : Int32) = 0 by decide)]
      all_goals rfl
    by_cases e1 : k = 1
    · subst e1
      have hh : fx_c_X12_has_2 (nI t) 1 = _ := rx_has t ht 1 (by omega)
      rw [hb] at hh
      simp only []
      rw [fs_c_X12_readItems_p45b, if_pos rfl]
      rw [if_neg (show ¬ nI 1 = -1 by decide), if_neg (show ¬ nI 1 = 0 by decide), if_pos (show nI 1 = 1 by decide)]
      simp only [exc1, exc2, exc3, exl]
      rw [hh]
      rw [px_i1, if_neg (show ¬ (1 : Int32) = 0 by decide)]
      all_goals rfl
    by_cases e2 : k = 2
    · subst e2
      have hh : fx_c_X12_has_2 (nI t) 2 = _ := rx_has t ht 2 (by omega)
      rw [hb] at hh
      simp only []
      rw [fs_c_X12_readItems_p45b, if_pos rfl]
      rw [if_neg (show ¬ nI 2 = -1 by decide), if_neg (show ¬ nI 2 = 0 by decide), if_neg (show ¬ nI 2 = 1 by decide), if_pos (show nI 2 = 2 by decide)]
      simp only [exc1, exc2, exc3, exl]
      rw [hh]
      rw [px_i1, if_neg (show ¬ (1 : Int32) = 0 by decide)]
      all_goals rfl
    by_cases e3 : k = 3
    · subst e3
      have hh : fx_c_X12_has_2 (nI t) 3 = _ := rx_has t ht 3 (by omega)
      rw [hb] at hh
      simp only []
      rw [fs_c_X12_readItems_p45b, if_pos rfl]
      rw [if_neg (show ¬ nI 3 = -1 by decide), if_neg (show ¬ nI 3 = 0 by decide), if_neg (show ¬ nI 3 = 1 by decide), if_neg (show ¬ nI 3 = 2 by decide), if_pos (show nI 3 = 3 by decide)]
      simp only [exc1, exc2, exc3, exl]
      rw [hh]
      rw [px_i1, if_neg (show ¬ (1 : Int32) = 0 by decide)]
      all_goals rfl
    omega
  · intro F p t k V hp ht hk hb hne
    by_cases e0 : k = 0
    · subst e0
      have hN : it_N2_c g n 0 (p + 1) = fx_c_X12_number 0 (nI n) (nI (p + 1)) g := rfl
      rw [hN] at hne ⊢
      have hh : fx_c_X12_has_2 (nI t) 0 = _ := rx_has t ht 0 (by omega)
      rw [hb] at hh
      simp only []
      rw [fs_c_X12_readItems_p45b, if_pos rfl]
      rw [if_neg (show ¬ nI 0 = -1 by decide), if_pos (show nI 0 = 0 by decide)]
      simp only [exc1, exc2, exc3, exl]
      rw [hh]
      rw [px_i0, if_pos rfl, nI_1]
      rw [if_neg hne]
      simp only [fx_c_X12_readItems_p45c]
      by_cases hz : (fx_c_X12_number 0 (nI n) (nI (p + 1)) g).1 = 0
      · simp [hz, hne, show fx_c_X12_leastOf 99 0 = 0 from by decide, show fx_c_X12_mostOf 99 0 = 9 from by decide]
      · simp [hz, hne, show fx_c_X12_leastOf 99 0 = 0 from by decide, show fx_c_X12_mostOf 99 0 = 9 from by decide]
    by_cases e1 : k = 1
    · subst e1
      have hN : it_N2_c g n 1 (p + 1) = fx_c_X12_number 0 (nI n) (nI (p + 1)) g := rfl
      rw [hN] at hne ⊢
      have hh : fx_c_X12_has_2 (nI t) 1 = _ := rx_has t ht 1 (by omega)
      rw [hb] at hh
      simp only []
      rw [fs_c_X12_readItems_p45b, if_pos rfl]
      rw [if_neg (show ¬ nI 1 = -1 by decide), if_neg (show ¬ nI 1 = 0 by decide), if_pos (show nI 1 = 1 by decide)]
      simp only [exc1, exc2, exc3, exl]
      rw [hh]
      rw [px_i0, if_pos rfl, nI_1]
      rw [if_neg hne]
      simp only [fx_c_X12_readItems_p45c]
      by_cases hz : (fx_c_X12_number 0 (nI n) (nI (p + 1)) g).1 = 0
      · simp [hz, hne, show fx_c_X12_leastOf_1 99 1 = 0 from by decide, show fx_c_X12_mostOf_1 99 1 = 9 from by decide]
      · simp [hz, hne, show fx_c_X12_leastOf_1 99 1 = 0 from by decide, show fx_c_X12_mostOf_1 99 1 = 9 from by decide]
    by_cases e2 : k = 2
    · subst e2
      have hN : it_N2_c g n 2 (p + 1) = fx_c_X12_number_1 0 (nI n) (nI (p + 1)) g := rfl
      rw [hN] at hne ⊢
      have hh : fx_c_X12_has_2 (nI t) 2 = _ := rx_has t ht 2 (by omega)
      rw [hb] at hh
      simp only []
      rw [fs_c_X12_readItems_p45b, if_pos rfl]
      rw [if_neg (show ¬ nI 2 = -1 by decide), if_neg (show ¬ nI 2 = 0 by decide), if_neg (show ¬ nI 2 = 1 by decide), if_pos (show nI 2 = 2 by decide)]
      simp only [exc1, exc2, exc3, exl]
      rw [hh]
      rw [px_i0, if_pos rfl, nI_1]
      rw [if_neg (show ¬ fx_c_X12_leastOf_2 99 2 = 0 by decide), if_neg (show ¬ fx_c_X12_mostOf_2 99 2 = 9 by decide)]
      rw [if_neg hne]
      simp only [fx_c_X12_readItems_p45c]
      by_cases hz : (fx_c_X12_number_1 0 (nI n) (nI (p + 1)) g).1 = 0
      · simp [hz, hne, show fx_c_X12_leastOf_2 99 2 = 1 from by decide, show fx_c_X12_mostOf_2 99 2 = 4 from by decide]
      · simp [hz, hne, show fx_c_X12_leastOf_2 99 2 = 1 from by decide, show fx_c_X12_mostOf_2 99 2 = 4 from by decide]
    by_cases e3 : k = 3
    · subst e3
      have hN : it_N2_c g n 3 (p + 1) = fx_c_X12_number 0 (nI n) (nI (p + 1)) g := rfl
      rw [hN] at hne ⊢
      have hh : fx_c_X12_has_2 (nI t) 3 = _ := rx_has t ht 3 (by omega)
      rw [hb] at hh
      simp only []
      rw [fs_c_X12_readItems_p45b, if_pos rfl]
      rw [if_neg (show ¬ nI 3 = -1 by decide), if_neg (show ¬ nI 3 = 0 by decide), if_neg (show ¬ nI 3 = 1 by decide), if_neg (show ¬ nI 3 = 2 by decide), if_pos (show nI 3 = 3 by decide)]
      simp only [exc1, exc2, exc3, exl]
      rw [hh]
      rw [px_i0, if_pos rfl, nI_1]
      rw [if_pos (show fx_c_X12_leastOf_3 99 3 = 0 by decide), if_pos (show fx_c_X12_mostOf_3 99 3 = 9 by decide)]
      rw [if_neg hne]
      simp only [fx_c_X12_readItems_p45c]
      by_cases hz : (fx_c_X12_number 0 (nI n) (nI (p + 1)) g).1 = 0
      · simp [hz, hne, show fx_c_X12_leastOf_3 99 3 = 0 from by decide, show fx_c_X12_mostOf_3 99 3 = 9 from by decide]
      · simp [hz, hne, show fx_c_X12_leastOf_3 99 3 = 0 from by decide, show fx_c_X12_mostOf_3 99 3 = 9 from by decide]
    omega
  · intro F p t k q V hp ht hk hb hok hq hq1 hx
    by_cases e0 : k = 0
    · subst e0
      have hN : it_N2_c g n 0 (p + 1) = fx_c_X12_number 0 (nI n) (nI (p + 1)) g := rfl
      rw [hN] at hok hq1 ⊢
      have hcl : (nI row + 0 : Int32).toNatClampNeg = row + 0 := by rw [show (0 : Int32) = nI 0 from rfl, nI_add, px_clamp (by omega)]
      have ho : nI t ||| 1 = nI (t ||| 2 ^ 0) := by
        have h9 := (tq_bits t ht 0 (by omega)).2
        rw [show (1 : Int32) <<< (nI 0 &&& 31) = 1 from by decide] at h9
        exact h9
      have hh : fx_c_X12_has_2 (nI t) 0 = _ := rx_has t ht 0 (by omega)
      rw [hb] at hh
      simp only []
      rw [fs_c_X12_readItems_p45b, if_pos rfl]
      rw [if_neg (show ¬ nI 0 = -1 by decide), if_pos (show nI 0 = 0 by decide)]
      simp only [exc1, exc2, exc3, exl]
      rw [hh]
      rw [px_i0, if_pos rfl, nI_1]
      rw [if_pos hok, hq1, rx_c_X12_look hT hG hq, hcl]
      simp only []
      by_cases h2 : tq_ch c n (tq_pk c n q) = -1
      · rw [if_pos h2]
        rfl
      · rw [if_neg h2, if_pos (hx.resolve_left h2)]
        rfl
    by_cases e1 : k = 1
    · subst e1
      have hN : it_N2_c g n 1 (p + 1) = fx_c_X12_number 0 (nI n) (nI (p + 1)) g := rfl
      rw [hN] at hok hq1 ⊢
      have hcl : (nI row + 1 : Int32).toNatClampNeg = row + 1 := by rw [show (1 : Int32) = nI 1 from rfl, nI_add, px_clamp (by omega)]
      have ho : nI t ||| 2 = nI (t ||| 2 ^ 1) := by
        have h9 := (tq_bits t ht 1 (by omega)).2
        rw [show (1 : Int32) <<< (nI 1 &&& 31) = 2 from by decide] at h9
        exact h9
      have hh : fx_c_X12_has_2 (nI t) 1 = _ := rx_has t ht 1 (by omega)
      rw [hb] at hh
      simp only []
      rw [fs_c_X12_readItems_p45b, if_pos rfl]
      rw [if_neg (show ¬ nI 1 = -1 by decide), if_neg (show ¬ nI 1 = 0 by decide), if_pos (show nI 1 = 1 by decide)]
      simp only [exc1, exc2, exc3, exl]
      rw [hh]
      rw [px_i0, if_pos rfl, nI_1]
      rw [if_pos hok, hq1, rx_c_X12_look hT hG hq, hcl]
      simp only []
      by_cases h2 : tq_ch c n (tq_pk c n q) = -1
      · rw [if_pos h2]
        rfl
      · rw [if_neg h2, if_pos (hx.resolve_left h2)]
        rfl
    by_cases e2 : k = 2
    · subst e2
      have hN : it_N2_c g n 2 (p + 1) = fx_c_X12_number_1 0 (nI n) (nI (p + 1)) g := rfl
      rw [hN] at hok hq1 ⊢
      have hcl : (nI row + 2 : Int32).toNatClampNeg = row + 2 := by rw [show (2 : Int32) = nI 2 from rfl, nI_add, px_clamp (by omega)]
      have ho : nI t ||| 4 = nI (t ||| 2 ^ 2) := by
        have h9 := (tq_bits t ht 2 (by omega)).2
        rw [show (1 : Int32) <<< (nI 2 &&& 31) = 4 from by decide] at h9
        exact h9
      have hh : fx_c_X12_has_2 (nI t) 2 = _ := rx_has t ht 2 (by omega)
      rw [hb] at hh
      simp only []
      rw [fs_c_X12_readItems_p45b, if_pos rfl]
      rw [if_neg (show ¬ nI 2 = -1 by decide), if_neg (show ¬ nI 2 = 0 by decide), if_neg (show ¬ nI 2 = 1 by decide), if_pos (show nI 2 = 2 by decide)]
      simp only [exc1, exc2, exc3, exl]
      rw [hh]
      rw [px_i0, if_pos rfl, nI_1]
      rw [if_neg (show ¬ fx_c_X12_leastOf_2 99 2 = 0 by decide), if_neg (show ¬ fx_c_X12_mostOf_2 99 2 = 9 by decide)]
      rw [if_pos hok, hq1, rx_c_X12_look hT hG hq, hcl]
      simp only []
      by_cases h2 : tq_ch c n (tq_pk c n q) = -1
      · rw [if_pos h2]
        rfl
      · rw [if_neg h2, if_pos (hx.resolve_left h2)]
        rfl
    by_cases e3 : k = 3
    · subst e3
      have hN : it_N2_c g n 3 (p + 1) = fx_c_X12_number 0 (nI n) (nI (p + 1)) g := rfl
      rw [hN] at hok hq1 ⊢
      have hcl : (nI row + 3 : Int32).toNatClampNeg = row + 3 := by rw [show (3 : Int32) = nI 3 from rfl, nI_add, px_clamp (by omega)]
      have ho : nI t ||| 8 = nI (t ||| 2 ^ 3) := by
        have h9 := (tq_bits t ht 3 (by omega)).2
        rw [show (1 : Int32) <<< (nI 3 &&& 31) = 8 from by decide] at h9
        exact h9
      have hh : fx_c_X12_has_2 (nI t) 3 = _ := rx_has t ht 3 (by omega)
      rw [hb] at hh
      simp only []
      rw [fs_c_X12_readItems_p45b, if_pos rfl]
      rw [if_neg (show ¬ nI 3 = -1 by decide), if_neg (show ¬ nI 3 = 0 by decide), if_neg (show ¬ nI 3 = 1 by decide), if_neg (show ¬ nI 3 = 2 by decide), if_pos (show nI 3 = 3 by decide)]
      simp only [exc1, exc2, exc3, exl]
      rw [hh]
      rw [px_i0, if_pos rfl, nI_1]
      rw [if_pos (show fx_c_X12_leastOf_3 99 3 = 0 by decide), if_pos (show fx_c_X12_mostOf_3 99 3 = 9 by decide)]
      rw [if_pos hok, hq1, rx_c_X12_look hT hG hq, hcl]
      simp only []
      by_cases h2 : tq_ch c n (tq_pk c n q) = -1
      · rw [if_pos h2]
        rfl
      · rw [if_neg h2, if_pos (hx.resolve_left h2)]
        rfl
    omega
  · intro F p t k q k2 V hp ht hk hb hok hq hq1 h2 hix hk2
    by_cases e0 : k = 0
    · subst e0
      have hN : it_N2_c g n 0 (p + 1) = fx_c_X12_number 0 (nI n) (nI (p + 1)) g := rfl
      rw [hN] at hok hq1 ⊢
      have hcl : (nI row + 0 : Int32).toNatClampNeg = row + 0 := by rw [show (0 : Int32) = nI 0 from rfl, nI_add, px_clamp (by omega)]
      have ho : nI t ||| 1 = nI (t ||| 2 ^ 0) := by
        have h9 := (tq_bits t ht 0 (by omega)).2
        rw [show (1 : Int32) <<< (nI 0 &&& 31) = 1 from by decide] at h9
        exact h9
      have hh : fx_c_X12_has_2 (nI t) 0 = _ := rx_has t ht 0 (by omega)
      rw [hb] at hh
      simp only []
      rw [fs_c_X12_readItems_p45b, if_pos rfl]
      rw [if_neg (show ¬ nI 0 = -1 by decide), if_pos (show nI 0 = 0 by decide)]
      simp only [exc1, exc2, exc3, exl]
      rw [hh]
      rw [px_i0, if_pos rfl, nI_1]
      rw [if_pos hok, hq1, rx_c_X12_look hT hG hq, hcl, ho]
      simp only []
      rw [if_neg h2, hix]
      rw [if_neg (nI_m1 (by omega))]
      by_cases f0 : k2 = 0
      · subst f0
        rw [if_neg (show ¬ nI 0 = 3 by decide), if_neg (show ¬ nI 0 = 2 by decide), if_neg (show ¬ nI 0 = 1 by decide)]
        rfl
      by_cases f1 : k2 = 1
      · subst f1
        rw [if_neg (show ¬ nI 1 = 3 by decide), if_neg (show ¬ nI 1 = 2 by decide), if_pos (show nI 1 = 1 by decide)]
        rfl
      by_cases f2 : k2 = 2
      · subst f2
        rw [if_neg (show ¬ nI 2 = 3 by decide), if_pos (show nI 2 = 2 by decide)]
        rfl
      by_cases f3 : k2 = 3
      · subst f3
        rw [if_pos (show nI 3 = 3 by decide)]
        rfl
      omega
    by_cases e1 : k = 1
    · subst e1
      have hN : it_N2_c g n 1 (p + 1) = fx_c_X12_number 0 (nI n) (nI (p + 1)) g := rfl
      rw [hN] at hok hq1 ⊢
      have hcl : (nI row + 1 : Int32).toNatClampNeg = row + 1 := by rw [show (1 : Int32) = nI 1 from rfl, nI_add, px_clamp (by omega)]
      have ho : nI t ||| 2 = nI (t ||| 2 ^ 1) := by
        have h9 := (tq_bits t ht 1 (by omega)).2
        rw [show (1 : Int32) <<< (nI 1 &&& 31) = 2 from by decide] at h9
        exact h9
      have hh : fx_c_X12_has_2 (nI t) 1 = _ := rx_has t ht 1 (by omega)
      rw [hb] at hh
      simp only []
      rw [fs_c_X12_readItems_p45b, if_pos rfl]
      rw [if_neg (show ¬ nI 1 = -1 by decide), if_neg (show ¬ nI 1 = 0 by decide), if_pos (show nI 1 = 1 by decide)]
      simp only [exc1, exc2, exc3, exl]
      rw [hh]
      rw [px_i0, if_pos rfl, nI_1]
      rw [if_pos hok, hq1, rx_c_X12_look hT hG hq, hcl, ho]
      simp only []
      rw [if_neg h2, hix]
      rw [if_neg (nI_m1 (by omega))]
      by_cases f0 : k2 = 0
      · subst f0
        rw [if_neg (show ¬ nI 0 = 3 by decide), if_neg (show ¬ nI 0 = 2 by decide), if_neg (show ¬ nI 0 = 1 by decide)]
        rfl
      by_cases f1 : k2 = 1
      · subst f1
        rw [if_neg (show ¬ nI 1 = 3 by decide), if_neg (show ¬ nI 1 = 2 by decide), if_pos (show nI 1 = 1 by decide)]
        rfl
      by_cases f2 : k2 = 2
      · subst f2
        rw [if_neg (show ¬ nI 2 = 3 by decide), if_pos (show nI 2 = 2 by decide)]
        rfl
      by_cases f3 : k2 = 3
      · subst f3
        rw [if_pos (show nI 3 = 3 by decide)]
        rfl
      omega
    by_cases e2 : k = 2
    · subst e2
      have hN : it_N2_c g n 2 (p + 1) = fx_c_X12_number_1 0 (nI n) (nI (p + 1)) g := rfl
      rw [hN] at hok hq1 ⊢
      have hcl : (nI row + 2 : Int32).toNatClampNeg = row + 2 := by rw [show (2 : Int32) = nI 2 from rfl, nI_add, px_clamp (by omega)]
      have ho : nI t ||| 4 = nI (t ||| 2 ^ 2) := by
        have h9 := (tq_bits t ht 2 (by omega)).2
        rw [show (1 : Int32) <<< (nI 2 &&& 31) = 4 from by decide] at h9
        exact h9
      have hh : fx_c_X12_has_2 (nI t) 2 = _ := rx_has t ht 2 (by omega)
      rw [hb] at hh
      simp only []
      rw [fs_c_X12_readItems_p45b, if_pos rfl]
      rw [if_neg (show ¬ nI 2 = -1 by decide), if_neg (show ¬ nI 2 = 0 by decide), if_neg (show ¬ nI 2 = 1 by decide), if_pos (show nI 2 = 2 by decide)]
      simp only [exc1, exc2, exc3, exl]
      rw [hh]
      rw [px_i0, if_pos rfl, nI_1]
      rw [if_neg (show ¬ fx_c_X12_leastOf_2 99 2 = 0 by decide), if_neg (show ¬ fx_c_X12_mostOf_2 99 2 = 9 by decide)]
      rw [if_pos hok, hq1, rx_c_X12_look hT hG hq, hcl, ho]
      simp only []
      rw [if_neg h2, hix]
      rw [if_neg (nI_m1 (by omega))]
      by_cases f0 : k2 = 0
      · subst f0
        rw [if_neg (show ¬ nI 0 = 3 by decide), if_neg (show ¬ nI 0 = 2 by decide), if_neg (show ¬ nI 0 = 1 by decide)]
        rfl
      by_cases f1 : k2 = 1
      · subst f1
        rw [if_neg (show ¬ nI 1 = 3 by decide), if_neg (show ¬ nI 1 = 2 by decide), if_pos (show nI 1 = 1 by decide)]
        rfl
      by_cases f2 : k2 = 2
      · subst f2
        rw [if_neg (show ¬ nI 2 = 3 by decide), if_pos (show nI 2 = 2 by decide)]
        rfl
      by_cases f3 : k2 = 3
      · subst f3
        rw [if_pos (show nI 3 = 3 by decide)]
        rfl
      omega
    by_cases e3 : k = 3
    · subst e3
      have hN : it_N2_c g n 3 (p + 1) = fx_c_X12_number 0 (nI n) (nI (p + 1)) g := rfl
      rw [hN] at hok hq1 ⊢
      have hcl : (nI row + 3 : Int32).toNatClampNeg = row + 3 := by rw [show (3 : Int32) = nI 3 from rfl, nI_add, px_clamp (by omega)]
      have ho : nI t ||| 8 = nI (t ||| 2 ^ 3) := by
        have h9 := (tq_bits t ht 3 (by omega)).2
        rw [show (1 : Int32) <<< (nI 3 &&& 31) = 8 from by decide] at h9
        exact h9
      have hh : fx_c_X12_has_2 (nI t) 3 = _ := rx_has t ht 3 (by omega)
      rw [hb] at hh
      simp only []
      rw [fs_c_X12_readItems_p45b, if_pos rfl]
      rw [if_neg (show ¬ nI 3 = -1 by decide), if_neg (show ¬ nI 3 = 0 by decide), if_neg (show ¬ nI 3 = 1 by decide), if_neg (show ¬ nI 3 = 2 by decide), if_pos (show nI 3 = 3 by decide)]
      simp only [exc1, exc2, exc3, exl]
      rw [hh]
      rw [px_i0, if_pos rfl, nI_1]
      rw [if_pos (show fx_c_X12_leastOf_3 99 3 = 0 by decide), if_pos (show fx_c_X12_mostOf_3 99 3 = 9 by decide)]
      rw [if_pos hok, hq1, rx_c_X12_look hT hG hq, hcl, ho]
      simp only []
      rw [if_neg h2, hix]
      rw [if_neg (nI_m1 (by omega))]
      by_cases f0 : k2 = 0
      · subst f0
        rw [if_neg (show ¬ nI 0 = 3 by decide), if_neg (show ¬ nI 0 = 2 by decide), if_neg (show ¬ nI 0 = 1 by decide)]
        rfl
      by_cases f1 : k2 = 1
      · subst f1
        rw [if_neg (show ¬ nI 1 = 3 by decide), if_neg (show ¬ nI 1 = 2 by decide), if_pos (show nI 1 = 1 by decide)]
        rfl
      by_cases f2 : k2 = 2
      · subst f2
        rw [if_neg (show ¬ nI 2 = 3 by decide), if_pos (show nI 2 = 2 by decide)]
        rfl
      by_cases f3 : k2 = 3
      · subst f3
        rw [if_pos (show nI 3 = 3 by decide)]
        rfl
      omega
    omega
