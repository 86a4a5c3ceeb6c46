/-- element slots, tables of the reference, what copies keep -/
theorem es_ne {f : Nat → Int32} {i v x : Int32} {k : Nat} {a b : Int} (h : f k = x) (g : RG i a b) (q : 0 ≤ a ∧ ((k : Int) < a ∨ b < (k : Int))) : upd f i.toNatClampNeg v k = x := by
  have h3 : i.toNatClampNeg = i.toInt.toNat := rfl
  obtain ⟨h1, h2⟩ := g
  unfold upd
  split
  · rename_i e
    omega
  · exact h
def tNF (k : Nat) : Int × Int := if k = 60 then (0, 9999) else if k = 61 then (0, 60) else tNow k
def tU (k : Nat) : Int × Int := tNF (k % 242)
def tRule (k : Nat) : Int × Int := if k = 0 then (0, 9) else if k = 1 then (0, 3) else if k = 2 then (1, 12) else if k = 3 then (1, 20) else (0, 99)
def BO (n : Int32) (f : Nat → Int32) : Prop := ∀ c : Nat, (c : Int) < n.toInt → RG (f (4 * c + 2)) 1 99
theorem tn_of {i : Int32} {n : Nat} (h : i.toInt = n) : i.toNatClampNeg = n := by
  have h3 : i.toNatClampNeg = i.toInt.toNat := rfl
  omega
theorem cp_step {F G : Nat → Int32} {k v : Int32} {a b : Int} (h : ∀ j : Nat, (j : Int) < k.toInt → F j = G j) (g : RG k a b) (q : 0 ≤ a) (ev : v = G k.toNatClampNeg) : ∀ j : Nat, (j : Int) < k.toInt + 1 → upd F k.toNatClampNeg v j = G j := by
  intro j hj
  have h3 : k.toNatClampNeg = k.toInt.toNat := rfl
  have h1 := g.1
  unfold upd
  split
  · rename_i e
    rw [ev, e]
  · exact h j (by omega)
theorem ct_step {t : Nat → Int × Int} {F : Nat → Int32} {k v : Int32} {a b : Int} (h : ∀ j : Nat, (j : Int) < k.toInt → RG (F j) (t j).1 (t j).2) (g : RG k a b) (q : 0 ≤ a) (ev : RG v (t k.toNatClampNeg).1 (t k.toNatClampNeg).2) : ∀ j : Nat, (j : Int) < k.toInt + 1 → RG (upd F k.toNatClampNeg v j) (t j).1 (t j).2 := by
  intro j hj
  have h3 : k.toNatClampNeg = k.toInt.toNat := rfl
  have h1 := g.1
  unfold upd
  split
  · rename_i e
    rw [e]
    exact ev
  · exact h j (by omega)
theorem ck_step {F : Nat → Int32} {x k v : Int32} {a b : Int} (h : ∀ j : Nat, (j : Int) < k.toInt → F j = x) (g : RG k a b) (q : 0 ≤ a) (ev : v = x) : ∀ j : Nat, (j : Int) < k.toInt + 1 → upd F k.toNatClampNeg v j = x := by
  intro j hj
  have h3 : k.toNatClampNeg = k.toInt.toNat := rfl
  have h1 := g.1
  unfold upd
  split
  · exact ev
  · exact h j (by omega)
theorem AP_sub {t t' : Nat → Int × Int} {f : Nat → Int32} (h : AP t f) (k : ∀ j, (t' j).1 ≤ (t j).1 ∧ (t j).2 ≤ (t' j).2) : AP t' f := fun j => RG_w (h j) (k j)
theorem tNF_sub (j : Nat) : (tNow j).1 ≤ (tNF j).1 ∧ (tNF j).2 ≤ (tNow j).2 := by
  unfold tNF
  split
  · rename_i h
    subst h
    decide
  · split
    · rename_i h
      subst h
      decide
    · exact ⟨Int.le_refl _, Int.le_refl _⟩
theorem AP_tNF {f : Nat → Int32} {a b : Int32} (h : AP tNow f) (e0 : f 60 = a) (e1 : f 61 = b) (h0 : RG a 0 9999) (h1 : RG b 0 60) : AP tNF f := by
  intro j
  unfold tNF
  split
  · rename_i q
    subst q
    rw [e0]
    exact h0
  · split
    · rename_i q
      subst q
      rw [e1]
      exact h1
    · exact h j
/-- a row of what may be undone is written -/
theorem AP_rem {f g : Nat → Int32} {i k v : Int32} {a : Int} {c d : Int} (hg : AP tU g) (hf : AP tNF f) (ev : v = f k.toNatClampNeg) (ei : i.toInt = 242 * a + k.toInt) (gk : RG k c d) (q : 0 ≤ c ∧ d ≤ 241) (ha : 0 ≤ a) : AP tU (upd g i.toNatClampNeg v) := by
  intro j
  have h3 : i.toNatClampNeg = i.toInt.toNat := rfl
  have h4 : k.toNatClampNeg = k.toInt.toNat := rfl
  obtain ⟨h1, h2⟩ := gk
  unfold upd
  split
  · rename_i e
    have h5 : j % 242 = k.toNatClampNeg := by omega
    unfold tU
    rw [h5, ev]
    exact hf _
  · exact hg j
theorem AP_shift {g h : Nat → Int32} {i k v : Int32} {c d : Int} (hg : AP tU g) (hh : AP tU h) (ev : v = g i.toNatClampNeg) (ei : i.toInt = k.toInt + 242) (gk : RG k c d) (q : 0 ≤ c) : AP tU (upd h k.toNatClampNeg v) := by
  intro j
  have h3 : i.toNatClampNeg = i.toInt.toNat := rfl
  have h4 : k.toNatClampNeg = k.toInt.toNat := rfl
  have h1 := gk.1
  unfold upd
  split
  · rename_i e
    have h5 : j % 242 = i.toNatClampNeg % 242 := by omega
    unfold tU
    rw [h5, ev]
    exact hg _
  · exact hh j
theorem AP_und {g : Nat → Int32} {i k v : Int32} {a c d : Int} (hg : AP tU g) (ev : v = g i.toNatClampNeg) (ei : i.toInt = 242 * a + k.toInt) (gk : RG k c d) (q : 0 ≤ c ∧ d ≤ 241) (ha : 0 ≤ a) : RG v (tNF k.toNatClampNeg).1 (tNF k.toNatClampNeg).2 := by
  have h3 : i.toNatClampNeg = i.toInt.toNat := rfl
  have h4 : k.toNatClampNeg = k.toInt.toNat := rfl
  obtain ⟨h1, h2⟩ := gk
  have h5 : k.toNatClampNeg = i.toNatClampNeg % 242 := by omega
  have h6 := hg i.toNatClampNeg
  unfold tU at h6
  rw [ev, h5]
  exact h6
theorem AP_upt {t t' : Nat → Int × Int} {f : Nat → Int32} {v : Int32} {n : Nat} (h : AP t f) (hv : RG v (t' n).1 (t' n).2) (k : (t n).1 ≤ (t' n).1 ∧ (t' n).2 ≤ (t n).2) : AP t (upd f n v) := by
  intro j
  unfold upd
  split
  · rename_i e
    subst e
    exact RG_w hv k
  · exact h j
theorem BO_rd {n : Int32} {f : Nat → Int32} {c i v : Int32} {a b : Int} (h : BO n f) (hb : c.toInt ≤ n.toInt + (-1)) (ev : v = f i.toNatClampNeg) (ei : i.toInt = 4 * c.toInt + 2) (g : RG c a b) (q : 0 ≤ a) : RG v 1 99 := by
  have h1 := g.1
  have h3 : i.toNatClampNeg = i.toInt.toNat := rfl
  have h4 := h c.toInt.toNat (by omega)
  have h5 : i.toNatClampNeg = 4 * c.toInt.toNat + 2 := by omega
  rw [ev, h5]
  exact h4
theorem i2l_eq {x : Int32} {y : Int64} (e : y = x.toInt64) : y.toInt = x.toInt := by
  rw [e, Int32.toInt_toInt64]
/-- a step towards -/
def TW (p q m r : Int32) : Prop := 0 ≤ m.toInt → -m.toInt ≤ r.toInt ∧ r.toInt ≤ m.toInt ∧ ((0 ≤ r.toInt ∧ p.toInt + r.toInt ≤ q.toInt ∧ p.toInt ≤ q.toInt) ∨ (r.toInt ≤ 0 ∧ q.toInt ≤ p.toInt + r.toInt ∧ q.toInt ≤ p.toInt))
theorem AP_2k {t : Nat → Int × Int} {i b c : Int32} {q p r lb hb lc hc : Int} {P : Int × Int → Bool} (ei : i.toInt = q * b.toInt + p * c.toInt + r) (gb : RG b lb hb) (gc : RG c lc hc)
    (k : (List.range (hb - lb + 1).toNat).all (fun j => (List.range (hc - lc + 1).toNat).all (fun m => P (t ((q * (lb + (j : Nat)) + p * (lc + (m : Nat)) + r).toNat)))) = true) : P (t i.toNatClampNeg) = true := by
  obtain ⟨h1, h2⟩ := gb
  obtain ⟨g1, g2⟩ := gc
  have hj : (b.toInt - lb).toNat < (hb - lb + 1).toNat := by omega
  have hm : (c.toInt - lc).toNat < (hc - lc + 1).toNat := by omega
  have h3 := List.all_eq_true.mp (List.all_eq_true.mp k (b.toInt - lb).toNat (List.mem_range.mpr hj)) (c.toInt - lc).toNat (List.mem_range.mpr hm)
  have h5 : lb + ((b.toInt - lb).toNat : Int) = b.toInt := by omega
  have h6 : lc + ((c.toInt - lc).toNat : Int) = c.toInt := by omega
  rw [h5, h6, ← ei] at h3
  exact h3
theorem AP_2 {t : Nat → Int × Int} {f : Nat → Int32} {x i b c : Int32} {q p r lb hb lc hc lo hi : Int} (h : AP t f) (e : x = f i.toNatClampNeg) (ei : i.toInt = q * b.toInt + p * c.toInt + r) (gb : RG b lb hb) (gc : RG c lc hc)
    (k : (List.range (hb - lb + 1).toNat).all (fun j => (List.range (hc - lc + 1).toNat).all (fun m => decide (lo ≤ (t ((q * (lb + (j : Nat)) + p * (lc + (m : Nat)) + r).toNat)).1 ∧ (t ((q * (lb + (j : Nat)) + p * (lc + (m : Nat)) + r).toNat)).2 ≤ hi))) = true) : RG x lo hi := by
  have h4 := of_decide_eq_true (AP_2k (P := fun z => decide (lo ≤ z.1 ∧ z.2 ≤ hi)) ei gb gc k)
  rw [e]
  exact RG_w (h i.toNatClampNeg) h4
theorem AP_up2 {t : Nat → Int × Int} {f : Nat → Int32} {v i b c : Int32} {q p r lb hb lc hc lo hi : Int} (h : AP t f) (hv : RG v lo hi) (ei : i.toInt = q * b.toInt + p * c.toInt + r) (gb : RG b lb hb) (gc : RG c lc hc)
    (k : (List.range (hb - lb + 1).toNat).all (fun j => (List.range (hc - lc + 1).toNat).all (fun m => decide ((t ((q * (lb + (j : Nat)) + p * (lc + (m : Nat)) + r).toNat)).1 ≤ lo ∧ hi ≤ (t ((q * (lb + (j : Nat)) + p * (lc + (m : Nat)) + r).toNat)).2))) = true) : AP t (upd f i.toNatClampNeg v) := by
  have h4 := of_decide_eq_true (AP_2k (P := fun z => decide (z.1 ≤ lo ∧ hi ≤ z.2)) ei gb gc k)
  intro j
  unfold upd
  split
  · rename_i e
    subst e
    exact RG_w hv h4
  · exact h j
theorem TW_of {p q m r n d w : Int32} {a b c e : Int} (e1 : n = -m) (e2 : d = q - p) (e3 : w = if d < m then d else m) (e4 : r = if n < w then w else n) (gp : RG p a b) (gq : RG q c e) (gm : RG m (-1000) 1000) (k : -1000 ≤ a ∧ b ≤ 1000 ∧ -1000 ≤ c ∧ e ≤ 1000) : TW p q m r := by
  intro hm
  obtain ⟨p1, p2⟩ := gp
  obtain ⟨q1, q2⟩ := gq
  obtain ⟨m1, m2⟩ := gm
  have hn : n.toInt = -m.toInt := by
    have z : n = 0 - m := by rw [e1, Int32.zero_sub]
    rw [z, toInt_sub_of (by rw [Int32.toInt_zero]; omega), Int32.toInt_zero]
    omega
  have hd : d.toInt = q.toInt - p.toInt := by rw [e2, toInt_sub_of (by omega)]
  have hw : (d.toInt < m.toInt ∧ w.toInt = d.toInt) ∨ (m.toInt ≤ d.toInt ∧ w.toInt = m.toInt) := by
    by_cases h : d < m
    · rw [if_pos h] at e3
      exact Or.inl ⟨Int32.lt_iff_toInt_lt.mp h, by rw [e3]⟩
    · rw [if_neg h] at e3
      exact Or.inr ⟨Int32.le_iff_toInt_le.mp (Int32.not_lt.mp h), by rw [e3]⟩
  have hr : (n.toInt < w.toInt ∧ r.toInt = w.toInt) ∨ (w.toInt ≤ n.toInt ∧ r.toInt = n.toInt) := by
    by_cases h : n < w
    · rw [if_pos h] at e4
      exact Or.inl ⟨Int32.lt_iff_toInt_lt.mp h, by rw [e4]⟩
    · rw [if_neg h] at e4
      exact Or.inr ⟨Int32.le_iff_toInt_le.mp (Int32.not_lt.mp h), by rw [e4]⟩
  omega
theorem abs_le_of {x z : Int32} {m : Int} {a b : Int} (e : z = if 0 ≤ x then x else 0 - x) (h1 : -m ≤ x.toInt) (h2 : x.toInt ≤ m) (g : RG x a b) (k : -2147483647 ≤ a) : z.toInt ≤ m := by
  have g1 := g.1
  by_cases h : (0 : Int32) ≤ x
  · rw [if_pos h] at e
    rw [e]
    exact h2
  · rw [if_neg h] at e
    rw [e, toInt_sub_of (by rw [Int32.toInt_zero]; have := Int32.toInt_lt x; omega), Int32.toInt_zero]
    omega
/-- bits of a set of BUOYS -/
def BC (x : Int32) : Nat := ((List.range 8).filter (fun j => decide ((x >>> (nI j &&& 31)) &&& 1 = 1))).length
theorem RG_nIr {x : Int32} {a b : Int} (n : Nat) (h : RG x a b) (k : 0 ≤ a ∧ b ≤ n) (M : Int32) (hM : M.toInt = n) : ∃ j : Nat, j ≤ n ∧ x = nI j := by
  obtain ⟨h1, h2⟩ := h
  exact nI_of2 (x := x) (M := M) (n := n) hM (fun q => by have := Int32.lt_iff_toInt_lt.mp q; rw [Int32.toInt_zero] at this; omega) (Int32.le_iff_toInt_le.mpr (by omega))
theorem BC_dec {l b : Int32} (gl : RG l 0 255) (gb : RG b 0 7) (h : (l >>> (b &&& 31)) &&& 1 = 1) : BC (l &&& ((1 <<< (b &&& 31)) ^^^ (-1))) + 1 ≤ BC l := by
  obtain ⟨n, hn, rfl⟩ := RG_nIr 255 gl (by decide) 255 rfl
  obtain ⟨k, hk, rfl⟩ := RG_nIr 7 gb (by decide) 7 rfl
  have q : ∀ n, n ≤ 255 → ∀ k, k ≤ 7 → (nI n >>> (nI k &&& 31)) &&& 1 = 1 → BC (nI n &&& ((1 <<< (nI k &&& 31)) ^^^ (-1))) + 1 ≤ BC (nI n) := by decide +kernel
  exact q n hn k hk h
theorem BC_0 {l : Int32} (gl : RG l 0 255) (h : BC l ≤ 0) : RG l 0 0 := by
  obtain ⟨n, hn, rfl⟩ := RG_nIr 255 gl (by decide) 255 rfl
  have q : ∀ n, n ≤ 255 → BC (nI n) ≤ 0 → n = 0 := by decide +kernel
  rw [q n hn h]
  exact RG_k _ _ rfl
theorem BC_8 (l : Int32) : BC l ≤ 8 := Nat.le_trans (List.length_filter_le _ _) (by decide)
/-- bytes of a word that are not 0 -/
def bn (v k : Int32) : Int := if (v >>> (k &&& 31)) &&& 255 = 0 then 0 else 1
def BN (v : Int32) : Int := bn v 24 + bn v 16 + bn v 8 + bn v 0
theorem bn_nn (v k : Int32) : 0 ≤ bn v k ∧ bn v k ≤ 1 := by
  unfold bn
  split <;> decide
theorem BN_nn (v : Int32) : 0 ≤ BN v ∧ BN v ≤ 4 := by
  have h1 := bn_nn v 24
  have h2 := bn_nn v 16
  have h3 := bn_nn v 8
  have h4 := bn_nn v 0
  unfold BN
  omega
theorem bn_0 {v k x y : Int32} (e1 : x = v >>> (k &&& 31)) (e2 : y = x &&& 255) (h : y = 0) : bn v k = 0 := by
  unfold bn
  rw [← e1, ← e2, if_pos h]
theorem bn_1 {v k x y : Int32} (e1 : x = v >>> (k &&& 31)) (e2 : y = x &&& 255) (h : ¬ y = 0) : bn v k = 1 := by
  unfold bn
  rw [← e1, ← e2, if_neg h]
/-- what a good reading keeps: speeds of the BOATS read -/
def BOi (n : Int) (f : Nat → Int32) : Prop := ∀ c : Nat, 4 * (c : Int) + 2 < n → RG (f (4 * c + 2)) 1 99
theorem BOi_mono {n m : Int} {f : Nat → Int32} (h : BOi n f) (k : m ≤ n) : BOi m f := fun c hc => h c (by omega)
theorem BOi_0 {n : Int} {f : Nat → Int32} (k : n ≤ 0) : BOi n f := fun c hc => by exfalso; omega
theorem BOi_keep {n : Int} {f : Nat → Int32} {i v : Int32} {a b : Int} (h : BOi n f) (g : RG i a b) (q : 0 ≤ a) (k : RG v 1 99 ∨ ¬ i.toInt % 4 = 2 ∨ n ≤ i.toInt) : BOi n (upd f i.toNatClampNeg v) := by
  intro c hc
  have h3 : i.toNatClampNeg = i.toInt.toNat := rfl
  have h1 := g.1
  unfold upd
  split
  · rename_i e
    rcases k with k | k | k
    · exact k
    · exfalso
      omega
    · exfalso
      omega
  · exact h c hc
theorem BOi_st {n : Int} {f : Nat → Int32} {i v : Int32} (h : BOi n f) (e : i.toInt = n + 2) (hv : RG v 1 99) (hm : n % 4 = 0) (h0 : 0 ≤ n) : BOi (n + 4) (upd f i.toNatClampNeg v) := by
  intro c hc
  have h3 : i.toNatClampNeg = i.toInt.toNat := rfl
  unfold upd
  split
  · exact hv
  · exact h c (by omega)
theorem BO_cp {n m : Int32} {F G : Nat → Int32} {t : Int} {a b : Int} (h : ∀ j : Nat, (j : Int) < t → F j = G j) (ht : 12 ≤ t) (hG : BOi (4 * n.toInt) G) (e : m.toInt = n.toInt) (g : RG n a b) (k : b ≤ 3) : BO m F := by
  intro c hc
  have h1 := g.2
  rw [h (4 * c + 2) (by omega)]
  exact hG c (by omega)
theorem AP_rule_of {F : Nat → Int32} {t : Int} (h : ∀ j : Nat, (j : Int) < t → RG (F j) (tRule j).1 (tRule j).2) (ht : 4 ≤ t) (hF : AI F 0 99) : AP tRule F := by
  intro j
  by_cases hj : (j : Int) < 4
  · exact h j (by omega)
  · have : tRule j = (0, 99) := by
      unfold tRule
      rw [if_neg (by omega), if_neg (by omega), if_neg (by omega), if_neg (by omega)]
    rw [this]
    exact hF j
theorem AP_rule_cp {F G : Nat → Int32} {t : Int} (h : ∀ j : Nat, (j : Int) < t → F j = G j) (ht : 4 ≤ t) (hG : AP tRule G) (hF : AI F 0 99) : AP tRule F := by
  refine AP_rule_of (t := t) (fun j hj => ?_) ht hF
  rw [h j hj]
  exact hG j
