def AP (t : Nat → Int × Int) (f : Nat → Int32) : Prop := ∀ k, RG (f k) (t k).1 (t k).2
theorem eq_mulc {x y z : Int32} {a b q : Int} (e : z = x * y) (hq : y.toInt = q) (g : RG x a b) (k : 0 ≤ q ∧ -2147483648 ≤ a * q ∧ b * q ≤ 2147483647) : z.toInt = x.toInt * q := by
  obtain ⟨h1, h2⟩ := g
  have m1 : a * q ≤ x.toInt * q := Int.mul_le_mul_of_nonneg_right h1 k.1
  have m2 : x.toInt * q ≤ b * q := Int.mul_le_mul_of_nonneg_right h2 k.1
  rw [e, toInt_mul_of (by rw [hq]; omega), hq]
theorem eq_add2 {x y z : Int32} {a b c d : Int} (e : z = x + y) (g : RG x a b) (h : RG y c d) (k : -2147483648 ≤ a + c ∧ b + d ≤ 2147483647) : z.toInt = x.toInt + y.toInt := by
  obtain ⟨h1, h2⟩ := g
  obtain ⟨h3, h4⟩ := h
  rw [e, toInt_add_of (by omega)]
theorem AP_c {t : Nat → Int × Int} {f : Nat → Int32} {x : Int32} {k : Nat} {lo hi : Int} (h : AP t f) (e : x = f k) (q : lo ≤ (t k).1 ∧ (t k).2 ≤ hi) : RG x lo hi := by
  rw [e]
  exact RG_w (h k) q
theorem AP_1 {t : Nat → Int × Int} {f : Nat → Int32} {x i b : Int32} {q r lb hb lo hi : Int} (h : AP t f) (e : x = f i.toNatClampNeg) (ei : i.toInt = q * b.toInt + r) (gb : RG b lb hb)
    (k : (List.range (hb - lb + 1).toNat).all (fun j => decide (lo ≤ (t ((q * (lb + (j : Nat)) + r).toNat)).1 ∧ (t ((q * (lb + (j : Nat)) + r).toNat)).2 ≤ hi)) = true) : RG x lo hi := by
  obtain ⟨h1, h2⟩ := gb
  have hj : (b.toInt - lb).toNat < (hb - lb + 1).toNat := by omega
  have h3 := List.all_eq_true.mp k (b.toInt - lb).toNat (List.mem_range.mpr hj)
  have h4 := of_decide_eq_true h3
  have h5 : lb + ((b.toInt - lb).toNat : Int) = b.toInt := by omega
  rw [h5, ← ei] at h4
  rw [e]
  exact RG_w (h i.toNatClampNeg) h4
theorem AP_up1 {t : Nat → Int × Int} {f : Nat → Int32} {v i b : Int32} {q r lb hb c d : Int} (h : AP t f) (hv : RG v c d) (ei : i.toInt = q * b.toInt + r) (gb : RG b lb hb)
    (k : (List.range (hb - lb + 1).toNat).all (fun j => decide ((t ((q * (lb + (j : Nat)) + r).toNat)).1 ≤ c ∧ d ≤ (t ((q * (lb + (j : Nat)) + r).toNat)).2)) = true) : AP t (upd f i.toNatClampNeg v) := by
  obtain ⟨h1, h2⟩ := gb
  have hj : (b.toInt - lb).toNat < (hb - lb + 1).toNat := by omega
  have h3 := List.all_eq_true.mp k (b.toInt - lb).toNat (List.mem_range.mpr hj)
  have h4 := of_decide_eq_true h3
  have h5 : lb + ((b.toInt - lb).toNat : Int) = b.toInt := by omega
  rw [h5, ← ei] at h4
  intro j
  unfold upd
  split
  · rename_i e
    subst e
    exact RG_w hv h4
  · exact h j
theorem AP_upc {t : Nat → Int × Int} {f : Nat → Int32} {v : Int32} {n : Nat} {c d : Int} (h : AP t f) (hv : RG v c d) (k : (t n).1 ≤ c ∧ d ≤ (t n).2) : AP t (upd f n v) := by
  intro j
  unfold upd
  split
  · rename_i e
    subst e
    exact RG_w hv k
  · exact h j
theorem AP_cp {t : Nat → Int × Int} {f g : Nat → Int32} {v : Int32} {n : Nat} (hf : AP t f) (hg : AP t g) (e : v = f n) : AP t (upd g n v) := by
  intro j
  unfold upd
  split
  · rename_i z
    subst z
    rw [e]
    exact hf _
  · exact hg j
def tNow (k : Nat) : Int × Int := if k < 40 then (if k % 5 = 3 then (-1, 2) else (0, 99)) else if k < 58 then (if (k - 40) % 6 < 4 then (0, 99) else (-2147483648, 2147483647)) else if k = 58 then (0, 9) else (-2147483648, 2147483647)
def tLet (k : Nat) : Int × Int := if k = 104 then (0, 20000) else if k = 118 then (0, 99) else if k = 108 then (0, 99) else if k = 114 then (0, 99) else if k = 100 then (0, 400) else if k = 112 then (-15, 20) else (-2147483648, 2147483647)
