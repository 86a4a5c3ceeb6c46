def RG (x : Int32) (a b : Int) : Prop := a ≤ x.toInt ∧ x.toInt ≤ b
def LG (x : Int64) (a b : Int) : Prop := a ≤ x.toInt ∧ x.toInt ≤ b
def AI (f : Nat → Int32) (a b : Int) : Prop := ∀ k, RG (f k) a b
def MU (x : Int32) : Nat := (2147483647 - x.toInt).toNat
def MD (x : Int32) : Nat := (x.toInt + 2147483648).toNat
theorem RG_any (x : Int32) : RG x (-2147483648) 2147483647 := by
  have h1 := Int32.le_toInt x
  have h2 := Int32.toInt_lt x
  unfold RG
  omega
theorem LG_any (x : Int64) : LG x (-9223372036854775808) 9223372036854775807 := by
  have h1 := Int64.le_toInt x
  have h2 := Int64.toInt_lt x
  unfold LG
  omega
theorem RG_k (x : Int32) (a : Int) (h : x.toInt = a) : RG x a a := ⟨by omega, by omega⟩
theorem LG_k (x : Int64) (a : Int) (h : x.toInt = a) : LG x a a := ⟨by omega, by omega⟩
theorem RG_w {x : Int32} {a b a' b' : Int} (h : RG x a b) (k : a' ≤ a ∧ b ≤ b') : RG x a' b' := ⟨Int.le_trans k.1 h.1, Int.le_trans h.2 k.2⟩
theorem LG_w {x : Int64} {a b a' b' : Int} (h : LG x a b) (k : a' ≤ a ∧ b ≤ b') : LG x a' b' := ⟨Int.le_trans k.1 h.1, Int.le_trans h.2 k.2⟩
theorem RG_e {x y : Int32} {a b : Int} (e : x = y) (h : RG y a b) : RG x a b := by rw [e]; exact h
theorem RG_dead {x : Int32} {a b : Int} {P : Prop} (h : RG x a b) (k : b < a) : P := absurd (Int.le_trans h.1 h.2) (by omega)
theorem LG_dead {x : Int64} {a b : Int} {P : Prop} (h : LG x a b) (k : b < a) : P := absurd (Int.le_trans h.1 h.2) (by omega)
theorem toInt_add_of {x y : Int32} (h : -2147483648 ≤ x.toInt + y.toInt ∧ x.toInt + y.toInt ≤ 2147483647) : (x + y).toInt = x.toInt + y.toInt := by
  rw [Int32.toInt_add]
  apply Int.bmod_eq_of_le <;> omega
theorem toInt_sub_of {x y : Int32} (h : -2147483648 ≤ x.toInt - y.toInt ∧ x.toInt - y.toInt ≤ 2147483647) : (x - y).toInt = x.toInt - y.toInt := by
  rw [Int32.toInt_sub]
  apply Int.bmod_eq_of_le <;> omega
theorem toInt_mul_of {x y : Int32} (h : -2147483648 ≤ x.toInt * y.toInt ∧ x.toInt * y.toInt ≤ 2147483647) : (x * y).toInt = x.toInt * y.toInt := by
  rw [Int32.toInt_mul]
  apply Int.bmod_eq_of_le <;> omega
theorem RG_add {x y z : Int32} {a b c d lo hi : Int} (e : z = x + y) (hx : RG x a b) (hy : RG y c d) (k : -2147483648 ≤ a + c ∧ b + d ≤ 2147483647 ∧ lo ≤ a + c ∧ b + d ≤ hi) : RG z lo hi := by
  obtain ⟨h1, h2⟩ := hx
  obtain ⟨h3, h4⟩ := hy
  rw [e, RG, toInt_add_of (by omega)]
  omega
theorem RG_sub {x y z : Int32} {a b c d lo hi : Int} (e : z = x - y) (hx : RG x a b) (hy : RG y c d) (k : -2147483648 ≤ a - d ∧ b - c ≤ 2147483647 ∧ lo ≤ a - d ∧ b - c ≤ hi) : RG z lo hi := by
  obtain ⟨h1, h2⟩ := hx
  obtain ⟨h3, h4⟩ := hy
  rw [e, RG, toInt_sub_of (by omega)]
  omega
theorem RG_neg {x z : Int32} {a b lo hi : Int} (e : z = -x) (hx : RG x a b) (k : -2147483647 ≤ a ∧ lo ≤ -b ∧ -a ≤ hi) : RG z lo hi := by
  obtain ⟨h1, h2⟩ := hx
  have h3 := Int32.toInt_lt x
  have e2 : z = 0 - x := by rw [e, Int32.zero_sub]
  rw [e2, RG, toInt_sub_of (by rw [Int32.toInt_zero]; omega), Int32.toInt_zero]
  omega
/-- both not below 0 -/
theorem RG_mulp {x y z : Int32} {a b c d lo hi : Int} (e : z = x * y) (hx : RG x a b) (hy : RG y c d) (k : 0 ≤ a ∧ 0 ≤ c ∧ b * d ≤ 2147483647 ∧ lo ≤ a * c ∧ b * d ≤ hi) : RG z lo hi := by
  obtain ⟨h1, h2⟩ := hx
  obtain ⟨h3, h4⟩ := hy
  have m1 : a * c ≤ x.toInt * y.toInt := Int.mul_le_mul h1 h3 k.2.1 (by omega)
  have m2 : x.toInt * y.toInt ≤ b * d := Int.mul_le_mul h2 h4 (by omega) (by omega)
  have m3 : 0 ≤ a * c := Int.mul_nonneg k.1 k.2.1
  rw [e, RG, toInt_mul_of (by omega)]
  omega
/-- by a number that is known, not below 0 -/
theorem RG_mulc {x z : Int32} {y : Int32} {a b q lo hi : Int} (e : z = x * y) (hq : y.toInt = q) (hx : RG x a b) (k : 0 ≤ q ∧ -2147483648 ≤ a * q ∧ b * q ≤ 2147483647 ∧ lo ≤ a * q ∧ b * q ≤ hi) : RG z lo hi := by
  obtain ⟨h1, h2⟩ := hx
  have m1 : a * q ≤ x.toInt * q := Int.mul_le_mul_of_nonneg_right h1 k.1
  have m2 : x.toInt * q ≤ b * q := Int.mul_le_mul_of_nonneg_right h2 k.1
  rw [e, RG, toInt_mul_of (by rw [hq]; omega), hq]
  omega
theorem RG_com {x y z : Int32} (e : z = x * y) : z = y * x := by rw [e, Int32.mul_comm]
theorem RG_tn {x : Int32} {a b : Int} (h : RG x a b) (k : 0 ≤ a) : (x.toBitVec.toNat : Int) = x.toInt := by
  obtain ⟨h1, h2⟩ := h
  have h4 : x.toInt = x.toBitVec.toInt := rfl
  have h5 := BitVec.toInt_eq_toNat_cond x.toBitVec
  have h6 := x.toBitVec.isLt
  rw [h4] at h1 ⊢
  split at h5 <;> omega
theorem RG_of_tn {x : Int32} {n : Nat} (h : x.toBitVec.toNat ≤ n) (k : n < 2 ^ 31) : RG x 0 n := by
  have h4 : x.toInt = x.toBitVec.toInt := rfl
  have : x.toBitVec.toInt = x.toBitVec.toNat := BitVec.toInt_eq_toNat_of_lt (by omega)
  rw [RG, h4, this]
  omega
theorem RG_andl {x y z : Int32} {a b lo hi : Int} (e : z = x &&& y) (hx : RG x a b) (k : 0 ≤ a ∧ lo ≤ 0 ∧ b ≤ hi) : RG z lo hi := by
  have h1 := RG_tn hx k.1
  have h2 : z.toBitVec.toNat ≤ x.toBitVec.toNat := by rw [e, Int32.toBitVec_and, BitVec.toNat_and]; exact Nat.and_le_left
  have h3 := RG_of_tn (n := x.toBitVec.toNat) h2 (by have := Int32.toInt_lt x; omega)
  have h4 := hx.2
  exact RG_w h3 (by omega)
theorem RG_andr {x y z : Int32} {a b lo hi : Int} (e : z = x &&& y) (hy : RG y a b) (k : 0 ≤ a ∧ lo ≤ 0 ∧ b ≤ hi) : RG z lo hi := RG_andl (x := y) (y := x) (by rw [e, Int32.and_comm]) hy k
theorem RG_shl1 {y z : Int32} {a b : Int} {lo hi : Int} (e : z = 1 <<< (y &&& 31)) (hy : RG y a b) (k : 0 ≤ a ∧ b ≤ 30 ∧ lo ≤ 2 ^ a.toNat ∧ 2 ^ b.toNat ≤ hi) : RG z lo hi := by
  obtain ⟨h1, h2⟩ := hy
  have h3 : ∃ n : Nat, n ≤ 30 ∧ y = nI n := by
    obtain ⟨j, hj, ej⟩ := nI_of2 (x := y) (M := 30) (n := 30) rfl (fun q => by have := Int32.lt_iff_toInt_lt.mp q; rw [Int32.toInt_zero] at this; omega) (Int32.le_iff_toInt_le.mpr (by show y.toInt ≤ 30; omega))
    exact ⟨j, hj, ej⟩
  obtain ⟨n, hn, rfl⟩ := h3
  have h4 : ∀ n, n ≤ 30 → ((1 : Int32) <<< (nI n &&& 31)).toInt = 2 ^ n := by decide +kernel
  rw [nI_toInt (by omega)] at h1 h2
  have h5 : (2 : Int) ^ a.toNat ≤ 2 ^ n := by exact_mod_cast Nat.pow_le_pow_right (by decide : 0 < 2) (by omega : a.toNat ≤ n)
  have h6 : (2 : Int) ^ n ≤ 2 ^ b.toNat := by exact_mod_cast Nat.pow_le_pow_right (by decide : 0 < 2) (by omega : n ≤ b.toNat)
  rw [e, RG, h4 n hn]
  omega
theorem i32_div {x y : Int32} {a b q : Int} (hq : y.toInt = q) (hx : RG x a b) (k : 0 ≤ a ∧ 0 < q) : (x / y).toInt = x.toInt / q := by
  obtain ⟨h1, h2⟩ := hx
  have h3 := Int32.toInt_lt x
  have h4 : x.toInt / q ≤ x.toInt := Int.ediv_le_self _ (by omega)
  have h5 : 0 ≤ x.toInt / q := Int.ediv_nonneg (by omega) (by omega)
  rw [Int32.toInt_div, hq, Int.tdiv_eq_ediv_of_nonneg (by omega)]
  apply Int.bmod_eq_of_le <;> omega
theorem RG_div {x y z : Int32} {a b q lo hi : Int} (e : z = x / y) (hq : y.toInt = q) (hx : RG x a b) (k : 0 ≤ a ∧ 0 < q ∧ lo ≤ a / q ∧ b / q ≤ hi) : RG z lo hi := by
  have h := i32_div hq hx ⟨k.1, k.2.1⟩
  obtain ⟨h1, h2⟩ := hx
  have h4 : a / q ≤ x.toInt / q := Int.ediv_le_ediv k.2.1 h1
  have h5 : x.toInt / q ≤ b / q := Int.ediv_le_ediv k.2.1 h2
  rw [e, RG, h]
  omega
theorem RG_rem {x y z : Int32} {a b c d lo hi : Int} (e : z = x - x / y * y) (hx : RG x a b) (hy : RG y c d) (k : 0 ≤ a ∧ 0 < c ∧ lo ≤ 0 ∧ d - 1 ≤ hi) : RG z lo hi := by
  have hd := i32_div (y := y) rfl hx ⟨k.1, by have := hy.1; omega⟩
  obtain ⟨h1, h2⟩ := hx
  obtain ⟨h3, h4⟩ := hy
  have h0 : (0 : Int) < y.toInt := by omega
  have h5 := Int.emod_nonneg x.toInt (show y.toInt ≠ 0 by omega)
  have h6 := Int.emod_lt_of_pos x.toInt h0
  have h7 := Int.mul_ediv_add_emod x.toInt y.toInt
  have h8 := Int32.toInt_lt x
  have h9 : 0 ≤ x.toInt / y.toInt * y.toInt := Int.mul_nonneg (Int.ediv_nonneg (by omega) (by omega)) (by omega)
  rw [Int.mul_comm] at h7
  have hm : (x / y * y).toInt = x.toInt / y.toInt * y.toInt := by rw [toInt_mul_of (by rw [hd]; omega), hd]
  rw [e, RG, toInt_sub_of (by rw [hm]; omega), hm]
  omega
theorem RG_min {x y z : Int32} {a b c d lo hi : Int} (e : z = if y < x then y else x) (hx : RG x a b) (hy : RG y c d) (k : lo ≤ a ∧ lo ≤ c ∧ (b ≤ hi ∨ d ≤ hi)) : RG z lo hi := by
  obtain ⟨h1, h2⟩ := hx
  obtain ⟨h3, h4⟩ := hy
  rw [e, RG]
  split
  · rename_i h
    rw [Int32.lt_iff_toInt_lt] at h
    omega
  · rename_i h
    rw [Int32.lt_iff_toInt_lt] at h
    omega
theorem RG_max {x y z : Int32} {a b c d lo hi : Int} (e : z = if x < y then y else x) (hx : RG x a b) (hy : RG y c d) (k : (lo ≤ a ∨ lo ≤ c) ∧ b ≤ hi ∧ d ≤ hi) : RG z lo hi := by
  obtain ⟨h1, h2⟩ := hx
  obtain ⟨h3, h4⟩ := hy
  rw [e, RG]
  split
  · rename_i h
    rw [Int32.lt_iff_toInt_lt] at h
    omega
  · rename_i h
    rw [Int32.lt_iff_toInt_lt] at h
    omega
theorem RG_abs {x z : Int32} {a b lo hi : Int} (e : z = if 0 ≤ x then x else 0 - x) (hx : RG x a b) (k : -2147483647 ≤ a ∧ lo ≤ 0 ∧ b ≤ hi ∧ -a ≤ hi) : RG z lo hi := by
  obtain ⟨h1, h2⟩ := hx
  rw [e, RG]
  split
  · rename_i h
    rw [Int32.le_iff_toInt_le, Int32.toInt_zero] at h
    omega
  · rename_i h
    rw [Int32.le_iff_toInt_le, Int32.toInt_zero] at h
    have h3 := Int32.le_toInt x
    rw [toInt_sub_of (by rw [Int32.toInt_zero]; omega), Int32.toInt_zero]
    omega
theorem RG_lt1 {x y : Int32} {a b c d b' : Int} (hx : RG x a b) (hy : RG y c d) (h : x < y) (k : d - 1 ≤ b') : RG x a b' := by
  rw [Int32.lt_iff_toInt_lt] at h
  exact ⟨hx.1, by have := hy.2; omega⟩
theorem RG_lt2 {x y : Int32} {a b c d c' : Int} (hx : RG x a b) (hy : RG y c d) (h : x < y) (k : c' ≤ a + 1) : RG y c' d := by
  rw [Int32.lt_iff_toInt_lt] at h
  exact ⟨by have := hx.1; omega, hy.2⟩
theorem RG_le1 {x y : Int32} {a b c d b' : Int} (hx : RG x a b) (hy : RG y c d) (h : x ≤ y) (k : d ≤ b') : RG x a b' := by
  rw [Int32.le_iff_toInt_le] at h
  exact ⟨hx.1, by have := hy.2; omega⟩
theorem RG_le2 {x y : Int32} {a b c d c' : Int} (hx : RG x a b) (hy : RG y c d) (h : x ≤ y) (k : c' ≤ a) : RG y c' d := by
  rw [Int32.le_iff_toInt_le] at h
  exact ⟨by have := hx.1; omega, hy.2⟩
theorem RG_eq1 {x y : Int32} {a b c d a' b' : Int} (hx : RG x a b) (hy : RG y c d) (h : x = y) (k : (a' ≤ a ∨ a' ≤ c) ∧ (b ≤ b' ∨ d ≤ b')) : RG x a' b' := by
  have := hx.1
  have := hx.2
  have h3 := hy.1
  have h4 := hy.2
  rw [← h] at h3 h4
  exact ⟨by omega, by omega⟩
theorem RG_ne1 {x y : Int32} {a b q a' b' : Int} (hx : RG x a b) (hq : y.toInt = q) (h : ¬ x = y) (k : (a = q ∧ a' ≤ a + 1 ∧ b ≤ b') ∨ (b = q ∧ a' ≤ a ∧ b - 1 ≤ b')) : RG x a' b' := by
  have h1 := hx.1
  have h2 := hx.2
  have h3 : ¬ x.toInt = q := fun e => h (Int32.toInt_inj.mp (e.trans hq.symm))
  exact ⟨by omega, by omega⟩
theorem RG_ne0 {x : Int32} {a b : Int} (h : RG x a b) (k : 0 < a ∨ b < 0) : ¬ x = 0 := by
  intro e
  rw [e] at h
  have h1 := h.1
  have h2 := h.2
  rw [Int32.toInt_zero] at h1 h2
  omega
theorem LG_ne0 {x : Int64} {a b : Int} (h : LG x a b) (k : 0 < a ∨ b < 0) : ¬ x = 0 := by
  intro e
  rw [e] at h
  have h1 := h.1
  have h2 := h.2
  rw [Int64.toInt_zero] at h1 h2
  omega
theorem RG_sw {x : Int32} {a b lo hi : Int} (h : RG x a b) (k : b < lo ∨ hi < a) : x.toInt < lo ∨ hi < x.toInt := by
  have h1 := h.1
  have h2 := h.2
  omega
theorem RG_in {x : Int32} {a b : Int} {n : Nat} (h : RG x a b) (k : 0 ≤ a ∧ b < n) : vp_in x n := vp_in_iff.mpr ⟨Int.le_trans k.1 h.1, Int.lt_of_le_of_lt h.2 k.2⟩
theorem AI_rd {f : Nat → Int32} {a b : Int} {x : Int32} {k : Nat} (h : AI f a b) (e : x = f k) : RG x a b := by rw [e]; exact h k
theorem AI_up {f : Nat → Int32} {a b c d : Int} {x : Int32} {k : Nat} (h : AI f a b) (hx : RG x c d) (q : a ≤ c ∧ d ≤ b) : AI (upd f k x) a b := by
  intro j
  unfold upd
  split
  · exact RG_w hx q
  · exact h j
theorem AI_w {f : Nat → Int32} {a b a' b' : Int} (h : AI f a b) (k : a' ≤ a ∧ b ≤ b') : AI f a' b' := fun j => RG_w (h j) k
theorem AI_z {a b : Int} (k : a ≤ 0 ∧ 0 ≤ b) : AI (fun _ => 0) a b := fun _ => ⟨k.1, k.2⟩
theorem AI_cpy {f g : Nat → Int32} {a b : Int} {sp dp n : Nat} (hf : AI f a b) (hg : AI g a b) : AI (va_cpy f g sp dp n) a b := by
  intro j
  by_cases h : dp ≤ j ∧ j < dp + n
  · rw [pk_cpy_in h.1 h.2]; exact hf _
  · rw [pk_cpy_out (by omega)]; exact hg _
theorem MU_add {x x' c : Int32} {a b q : Int} (e : x' = x + c) (g : RG x a b) (hc : c.toInt = q) (k : 0 < q ∧ b + q ≤ 2147483647) : MU x' < MU x := by
  have h1 := g.1
  have h2 := g.2
  have h3 := Int32.le_toInt x
  rw [e, MU, MU, toInt_add_of (by omega)]
  omega
theorem MD_add {x x' c : Int32} {a b q : Int} (e : x' = x + c) (g : RG x a b) (hc : c.toInt = q) (k : q < 0 ∧ -2147483648 ≤ a + q) : MD x' < MD x := by
  have h1 := g.1
  have h2 := g.2
  have h3 := Int32.toInt_lt x
  rw [e, MD, MD, toInt_add_of (by omega)]
  omega
theorem MU_lt {x x' : Int32} (h : x.toInt < x'.toInt) : MU x' < MU x := by
  have := Int32.toInt_lt x'
  unfold MU
  omega
theorem eq_add {x x' c : Int32} {a b q : Int} (e : x' = x + c) (g : RG x a b) (hc : c.toInt = q) (k : -2147483648 ≤ a + q ∧ b + q ≤ 2147483647) : x'.toInt = x.toInt + q := by
  have h1 := g.1
  have h2 := g.2
  rw [e, toInt_add_of (by omega), hc]
theorem mu_s {a b n : Nat} (h : a < b) (k : b < n + 1) : a < n := by omega
theorem wj {p : Program} {l : Launch} {e : Env} {R : Room} {s : State} {m : MethodId} {args : Array Value} {below : List Frame} {meth : Method} {c : Code} {H : Heap} {locs : List Loc} {cells slots : Nat} {Q : State → Prop} {g : JFrame}
    (h : ∀ G : Heap → List Loc → JFrame → Prop, (∀ H locs g, W p l e R s m args below meth c H locs cells slots Q g → G H locs g) → (∀ H locs g, G H locs g → W p l e R s m args below meth c H locs cells slots Q g) → G H locs g) : W p l e R s m args below meth c H locs cells slots Q g := h (fun H locs g => W p l e R s m args below meth c H locs cells slots Q g) (fun _ _ _ h => h) (fun _ _ _ h => h)
theorem RG_bool {x : Int32} {a b : Int} (h : RG x a b) (k : 0 ≤ a ∧ b ≤ 1) : narrow .boolean (.int x) = .int x := by
  have h1 := h.1
  have h2 := h.2
  have h3 : x = 0 ∨ x = 1 := by
    rcases (show x.toInt = 0 ∨ x.toInt = 1 by omega) with e | e
    · exact Or.inl (Int32.toInt_inj.mp e)
    · exact Or.inr (Int32.toInt_inj.mp e)
  rcases h3 with e | e <;> subst e <;> rfl
theorem RG_boolf {x : Int32} {a b : Int} (h : RG x a b) (k : 0 ≤ a ∧ b ≤ 1) : fits .boolean (.int x) = true := by
  have h1 := h.1
  have h2 := h.2
  have h3 : x = 0 ∨ x = 1 := by
    rcases (show x.toInt = 0 ∨ x.toInt = 1 by omega) with e | e
    · exact Or.inl (Int32.toInt_inj.mp e)
    · exact Or.inr (Int32.toInt_inj.mp e)
  rcases h3 with e | e <;> subst e <;> rfl
theorem RG_nn {x : Int32} {a b : Int} (h : RG x a b) (k : 0 ≤ a) : ¬ x < 0 := fun q => by
  have h1 := h.1
  rw [Int32.lt_iff_toInt_lt, Int32.toInt_zero] at q
  omega
theorem RG_cl {x : Int32} {a b : Int} {n m : Nat} (h : RG x a b) (k : 0 ≤ a ∧ b + n ≤ m) : x.toNatClampNeg + n ≤ m := by
  have h1 := h.1
  have h2 := h.2
  have h3 : (x.toNatClampNeg : Int) = x.toInt := Int.toNat_of_nonneg (by omega)
  omega
theorem LG_lt1 {x y : Int64} {a b c d b' : Int} (hx : LG x a b) (hy : LG y c d) (h : x < y) (k : d - 1 ≤ b') : LG x a b' := by
  rw [Int64.lt_iff_toInt_lt] at h
  exact ⟨hx.1, by have := hy.2; omega⟩
theorem LG_lt2 {x y : Int64} {a b c d c' : Int} (hx : LG x a b) (hy : LG y c d) (h : x < y) (k : c' ≤ a + 1) : LG y c' d := by
  rw [Int64.lt_iff_toInt_lt] at h
  exact ⟨by have := hx.1; omega, hy.2⟩
theorem LG_le1 {x y : Int64} {a b c d b' : Int} (hx : LG x a b) (hy : LG y c d) (h : x ≤ y) (k : d ≤ b') : LG x a b' := by
  rw [Int64.le_iff_toInt_le] at h
  exact ⟨hx.1, by have := hy.2; omega⟩
theorem LG_le2 {x y : Int64} {a b c d c' : Int} (hx : LG x a b) (hy : LG y c d) (h : x ≤ y) (k : c' ≤ a) : LG y c' d := by
  rw [Int64.le_iff_toInt_le] at h
  exact ⟨by have := hx.1; omega, hy.2⟩
theorem LG_eq1 {x y : Int64} {a b c d a' b' : Int} (hx : LG x a b) (hy : LG y c d) (h : x = y) (k : (a' ≤ a ∨ a' ≤ c) ∧ (b ≤ b' ∨ d ≤ b')) : LG x a' b' := by
  have := hx.1
  have := hx.2
  have h3 := hy.1
  have h4 := hy.2
  rw [← h] at h3 h4
  exact ⟨by omega, by omega⟩
theorem LG_i2l {x : Int32} {z : Int64} {a b : Int} (e : z = x.toInt64) (h : RG x a b) : LG z a b := by
  rw [e, LG, Int32.toInt_toInt64]
  exact h
theorem RG_of_LG {x : Int32} {z : Int64} {a b c d lo hi : Int} (h : RG x a b) (g : LG z c d) (e : z = x.toInt64) (k : (lo ≤ a ∨ lo ≤ c) ∧ (b ≤ hi ∨ d ≤ hi)) : RG x lo hi := by
  rw [e, LG, Int32.toInt_toInt64] at g
  have := h.1
  have := h.2
  have := g.1
  have := g.2
  exact ⟨by omega, by omega⟩
theorem RG_l2i {x : Int64} {z : Int32} {a b : Int} (e : z = x.toInt32) (h : LG x a b) (k : -2147483648 ≤ a ∧ b ≤ 2147483647) : RG z a b := by
  have h1 := h.1
  have h2 := h.2
  have h3 : z.toInt = x.toInt := by
    rw [e, Int64.toInt_toInt32]
    apply Int.bmod_eq_of_le <;> omega
  exact ⟨by omega, by omega⟩
theorem toInt64_add_of {x y : Int64} (h : -9223372036854775808 ≤ x.toInt + y.toInt ∧ x.toInt + y.toInt ≤ 9223372036854775807) : (x + y).toInt = x.toInt + y.toInt := by
  rw [Int64.toInt_add]
  apply Int.bmod_eq_of_le <;> omega
theorem toInt64_sub_of {x y : Int64} (h : -9223372036854775808 ≤ x.toInt - y.toInt ∧ x.toInt - y.toInt ≤ 9223372036854775807) : (x - y).toInt = x.toInt - y.toInt := by
  rw [Int64.toInt_sub]
  apply Int.bmod_eq_of_le <;> omega
theorem toInt64_mul_of {x y : Int64} (h : -9223372036854775808 ≤ x.toInt * y.toInt ∧ x.toInt * y.toInt ≤ 9223372036854775807) : (x * y).toInt = x.toInt * y.toInt := by
  rw [Int64.toInt_mul]
  apply Int.bmod_eq_of_le <;> omega
theorem LG_add {x y z : Int64} {a b c d lo hi : Int} (e : z = x + y) (hx : LG x a b) (hy : LG y c d) (k : -9223372036854775808 ≤ a + c ∧ b + d ≤ 9223372036854775807 ∧ lo ≤ a + c ∧ b + d ≤ hi) : LG z lo hi := by
  obtain ⟨h1, h2⟩ := hx
  obtain ⟨h3, h4⟩ := hy
  rw [e, LG, toInt64_add_of (by omega)]
  omega
theorem LG_sub {x y z : Int64} {a b c d lo hi : Int} (e : z = x - y) (hx : LG x a b) (hy : LG y c d) (k : -9223372036854775808 ≤ a - d ∧ b - c ≤ 9223372036854775807 ∧ lo ≤ a - d ∧ b - c ≤ hi) : LG z lo hi := by
  obtain ⟨h1, h2⟩ := hx
  obtain ⟨h3, h4⟩ := hy
  rw [e, LG, toInt64_sub_of (by omega)]
  omega
theorem LG_mulc {x z : Int64} {y : Int64} {a b q lo hi : Int} (e : z = x * y) (hq : y.toInt = q) (hx : LG x a b) (k : 0 ≤ q ∧ -9223372036854775808 ≤ a * q ∧ b * q ≤ 9223372036854775807 ∧ lo ≤ a * q ∧ b * q ≤ hi) : LG z lo hi := by
  obtain ⟨h1, h2⟩ := hx
  have m1 : a * q ≤ x.toInt * q := Int.mul_le_mul_of_nonneg_right h1 k.1
  have m2 : x.toInt * q ≤ b * q := Int.mul_le_mul_of_nonneg_right h2 k.1
  rw [e, LG, toInt64_mul_of (by rw [hq]; omega), hq]
  omega
theorem LG_com {x y z : Int64} (e : z = x * y) : z = y * x := by rw [e, Int64.mul_comm]
theorem i64_div {x y : Int64} {a b q : Int} (hq : y.toInt = q) (hx : LG x a b) (k : 0 ≤ a ∧ 0 < q) : (x / y).toInt = x.toInt / q := by
  obtain ⟨h1, h2⟩ := hx
  have h3 := Int64.toInt_lt x
  have h4 : x.toInt / q ≤ x.toInt := Int.ediv_le_self _ (by omega)
  have h5 : 0 ≤ x.toInt / q := Int.ediv_nonneg (by omega) (by omega)
  rw [Int64.toInt_div, hq, Int.tdiv_eq_ediv_of_nonneg (by omega)]
  apply Int.bmod_eq_of_le <;> omega
theorem LG_div {x y z : Int64} {a b q lo hi : Int} (e : z = x / y) (hq : y.toInt = q) (hx : LG x a b) (k : 0 ≤ a ∧ 0 < q ∧ lo ≤ a / q ∧ b / q ≤ hi) : LG z lo hi := by
  have h := i64_div hq hx ⟨k.1, k.2.1⟩
  obtain ⟨h1, h2⟩ := hx
  have h4 : a / q ≤ x.toInt / q := Int.ediv_le_ediv k.2.1 h1
  have h5 : x.toInt / q ≤ b / q := Int.ediv_le_ediv k.2.1 h2
  rw [e, LG, h]
  omega
theorem LG_rem {x y z : Int64} {a b c d lo hi : Int} (e : z = x - x / y * y) (hx : LG x a b) (hy : LG y c d) (k : 0 ≤ a ∧ 0 < c ∧ lo ≤ 0 ∧ d - 1 ≤ hi) : LG z lo hi := by
  have hd := i64_div (y := y) rfl hx ⟨k.1, by have := hy.1; omega⟩
  obtain ⟨h1, h2⟩ := hx
  obtain ⟨h3, h4⟩ := hy
  have h0 : (0 : Int) < y.toInt := by omega
  have h5 := Int.emod_nonneg x.toInt (show y.toInt ≠ 0 by omega)
  have h6 := Int.emod_lt_of_pos x.toInt h0
  have h7 := Int.mul_ediv_add_emod x.toInt y.toInt
  have h8 := Int64.toInt_lt x
  have h9 : 0 ≤ x.toInt / y.toInt * y.toInt := Int.mul_nonneg (Int.ediv_nonneg (by omega) (by omega)) (by omega)
  rw [Int.mul_comm] at h7
  have hm : (x / y * y).toInt = x.toInt / y.toInt * y.toInt := by rw [toInt64_mul_of (by rw [hd]; omega), hd]
  rw [e, LG, toInt64_sub_of (by rw [hm]; omega), hm]
  omega
theorem RG_i2c {x z : Int32} (e : z = (x.toUInt32 % 65536).toInt32) : RG z 0 65535 := by
  rw [e, pk_char]
  exact ⟨by rw [nI_toInt (by omega)]; omega, by rw [nI_toInt (by omega)]; omega⟩
theorem RG_mulb {x y z : Int32} {a b q c d lo hi : Int} (e : z = x * y) (hq : y.toInt = q) (hx : RG x a b) (hz : RG z c d) (k : 0 < q ∧ -2147483648 ≤ a * q ∧ b * q ≤ 2147483647 ∧ (lo ≤ a ∨ (lo - 1) * q < c) ∧ (b ≤ hi ∨ d < (hi + 1) * q)) : RG x lo hi := by
  obtain ⟨h1, h2⟩ := hx
  obtain ⟨h3, h4⟩ := hz
  obtain ⟨k1, k2, k3, k4, k5⟩ := k
  have m1 : a * q ≤ x.toInt * q := Int.mul_le_mul_of_nonneg_right h1 (by omega)
  have m2 : x.toInt * q ≤ b * q := Int.mul_le_mul_of_nonneg_right h2 (by omega)
  rw [e, toInt_mul_of (by rw [hq]; omega), hq] at h3 h4
  refine ⟨?_, ?_⟩
  · rcases k4 with k4 | k4
    · omega
    · have : (lo - 1) * q < x.toInt * q := by omega
      have := Int.lt_of_mul_lt_mul_right this (by omega)
      omega
  · rcases k5 with k5 | k5
    · omega
    · have : x.toInt * q < (hi + 1) * q := by omega
      have := Int.lt_of_mul_lt_mul_right this (by omega)
      omega
theorem RG_addb {x y z : Int32} {a b q c d lo hi : Int} (e : z = x + y) (hq : y.toInt = q) (hx : RG x a b) (hz : RG z c d) (k : -2147483648 ≤ a + q ∧ b + q ≤ 2147483647 ∧ (lo ≤ a ∨ lo ≤ c - q) ∧ (b ≤ hi ∨ d - q ≤ hi)) : RG x lo hi := by
  obtain ⟨h1, h2⟩ := hx
  obtain ⟨h3, h4⟩ := hz
  rw [e, toInt_add_of (by omega), hq] at h3 h4
  exact ⟨by omega, by omega⟩
theorem RG_subd {x y z : Int32} {a b c' d c lo hi : Int} (e : z = x - y) (hx : RG x a b) (hy : RG y c' d) (hd : y.toInt ≤ x.toInt + c) (k : -2147483648 ≤ a - d ∧ b - c' ≤ 2147483647 ∧ lo ≤ -c ∧ b - c' ≤ hi) : RG z lo hi := by
  obtain ⟨h1, h2⟩ := hx
  obtain ⟨h3, h4⟩ := hy
  rw [e, RG, toInt_sub_of (by omega)]
  omega
theorem RG_sc {x z c d : Int32} (e : z = x - c) (h : -c = d) : z = x + d := by rw [e, ← h, Int32.sub_eq_add_neg]
theorem min_le1 {x y z : Int32} (e : z = if y < x then y else x) : z.toInt ≤ x.toInt := by
  rw [e]
  split
  · rename_i h
    rw [Int32.lt_iff_toInt_lt] at h
    omega
  · omega
theorem RG_tab {xs : List Int32} {x : Int32} {n : Nat} {lo hi : Int} (e : x = xs.getD n 0) (k : xs.all (fun v => decide (lo ≤ v.toInt ∧ v.toInt ≤ hi)) = true ∧ lo ≤ 0 ∧ 0 ≤ hi) : RG x lo hi := by
  rw [e, List.getD_eq_getElem?_getD]
  cases h : xs[n]? with
  | none => exact ⟨k.2.1, k.2.2⟩
  | some v =>
    have h1 : decide (lo ≤ v.toInt ∧ v.toInt ≤ hi) = true := List.all_eq_true.mp k.1 v (List.mem_of_getElem? h)
    have h2 : lo ≤ v.toInt ∧ v.toInt ≤ hi := of_decide_eq_true h1
    exact h2
theorem LG_min {x y z : Int64} {a b c d lo hi : Int} (e : z = if y < x then y else x) (hx : LG x a b) (hy : LG y c d) (k : lo ≤ a ∧ lo ≤ c ∧ (b ≤ hi ∨ d ≤ hi)) : LG z lo hi := by
  obtain ⟨h1, h2⟩ := hx
  obtain ⟨h3, h4⟩ := hy
  rw [e, LG]
  split
  · rename_i h
    rw [Int64.lt_iff_toInt_lt] at h
    omega
  · rename_i h
    rw [Int64.lt_iff_toInt_lt] at h
    omega
theorem LG_max {x y z : Int64} {a b c d lo hi : Int} (e : z = if x < y then y else x) (hx : LG x a b) (hy : LG y c d) (k : (lo ≤ a ∨ lo ≤ c) ∧ b ≤ hi ∧ d ≤ hi) : LG z lo hi := by
  obtain ⟨h1, h2⟩ := hx
  obtain ⟨h3, h4⟩ := hy
  rw [e, LG]
  split
  · rename_i h
    rw [Int64.lt_iff_toInt_lt] at h
    omega
  · rename_i h
    rw [Int64.lt_iff_toInt_lt] at h
    omega
theorem RG_dig {x y : Int32} {a b : Int} (e : x = (-1) ∨ x = y &&& 255) (g : RG y 48 57) (k : True) (h : RG x a b) (ha : 0 ≤ a) : RG x 48 57 := by
  rcases e with e | e
  · rw [e] at h
    exact absurd (Int.le_trans ha h.1) (by decide)
  · have h3 : ∃ n : Nat, n ≤ 57 ∧ y = nI n := by
      obtain ⟨g1, g2⟩ := g
      obtain ⟨j, hj, ej⟩ := nI_of2 (x := y) (M := 57) (n := 57) rfl (fun q => by have := Int32.lt_iff_toInt_lt.mp q; rw [Int32.toInt_zero] at this; omega) (Int32.le_iff_toInt_le.mpr (by show y.toInt ≤ 57; omega))
      exact ⟨j, hj, ej⟩
    obtain ⟨n, hn, rfl⟩ := h3
    have h4 : ∀ n, n ≤ 57 → nI n &&& 255 = nI n := by decide +kernel
    rw [e, h4 n hn]
    exact g
def bv_put (ws : va_W) : List Nat → va_W → va_W
  | i :: is, c :: cs => bv_put (ws.set i c) is cs
  | _, _ => ws
theorem bv_put_get : ∀ (is : List Nat) (w1 ws : va_W) (i : Nat) (q : Nat × va_E), (bv_put ws is w1)[i]? = some q → (∃ j : Nat, w1[j]? = some q ∧ is[j]? = some i) ∨ (ws[i]? = some q ∧ ∀ j : Nat, j < w1.length → is[j]? ≠ some i)
  | [], w1, ws, i, q, h => Or.inr ⟨by cases w1 <;> exact h, fun j _ => by simp⟩
  | i0 :: is, [], ws, i, q, h => Or.inr ⟨h, fun j hj => absurd hj (Nat.not_lt_zero _)⟩
  | i0 :: is, c :: cs, ws, i, q, h => by
    rcases bv_put_get is cs (ws.set i0 c) i q h with ⟨j, h1, h2⟩ | ⟨h1, h2⟩
    · exact Or.inl ⟨j + 1, h1, h2⟩
    · by_cases hi : i0 = i
      · subst hi
        have hl : i0 < ws.length := by
          have := (List.getElem?_eq_some_iff.mp h1).1
          rwa [List.length_set] at this
        rw [List.getElem?_set_self hl] at h1
        exact Or.inl ⟨0, h1, rfl⟩
      · rw [List.getElem?_set_ne hi] at h1
        refine Or.inr ⟨h1, fun j hj => ?_⟩
        cases j with
        | zero => exact fun e => hi (Option.some.inj e)
        | succ j => exact h2 j (Nat.lt_of_succ_lt_succ hj)
theorem bv_rejoin {A0 : Nat → Prop} {D : va_G} {cl : List vw_C} {ws ws' wc w1 : va_W} {H H1 : Heap} (hP : va_P D cl ws H) (hD : va_D A0 ws) (isC : List Nat) (hC : isC.map (fun i => ws[i]?) = wc.map some) (ha : w1.map (fun q => q.1) = wc.map (fun q => q.1)) (hs : bv_put ws isC w1 = ws')
    (hk : ∀ q : Nat, q < H.size → ¬ va_A wc H.size q → H1[q]? = H[q]?) (hP1 : va_P D cl w1 H1) : va_P D cl ws' H1 ∧ va_D A0 ws' := by
  have at' : ∀ (k : Nat) (q : Nat × va_E), wc[k]? = some q → ∃ i, isC[k]? = some i ∧ ws[i]? = some q := by
    intro k q hq
    have h1 : (isC.map (fun i => ws[i]?))[k]? = some (some q) := by rw [hC, List.getElem?_map, hq]; rfl
    rw [List.getElem?_map] at h1
    cases hi : isC[k]? with
    | none => rw [hi] at h1; cases h1
    | some i => rw [hi] at h1; exact ⟨i, rfl, Option.some.inj h1⟩
  have hlen : w1.length = wc.length := by
    have := congrArg List.length ha
    rwa [List.length_map, List.length_map] at this
  have adr : ∀ (i : Nat) (q : Nat × va_E), ws'[i]? = some q → ∃ q0 : Nat × va_E, ws[i]? = some q0 ∧ q0.1 = q.1 := by
    intro i q h
    rw [← hs] at h
    rcases bv_put_get isC w1 ws i q h with ⟨j, h1, h2⟩ | ⟨h1, -⟩
    · have h3 : (w1.map (fun q => q.1))[j]? = some q.1 := by rw [List.getElem?_map, h1]; rfl
      rw [ha, List.getElem?_map] at h3
      cases hw : wc[j]? with
      | none => rw [hw] at h3; cases h3
      | some q0 =>
        rw [hw] at h3
        obtain ⟨i', h4, h5⟩ := at' j q0 hw
        rw [h2] at h4
        cases h4
        exact ⟨q0, h5, Option.some.inj h3⟩
    · exact ⟨q, h1, rfl⟩
  refine ⟨fun i q h => ?_, fun i j x y hx hy hxy => ?_, fun i q h => ?_⟩
  · rw [← hs] at h
    rcases bv_put_get isC w1 ws i q h with ⟨j, h1, -⟩ | ⟨h1, h2⟩
    · exact hP1 j q h1
    · have hl := (hP i q h1).lt
      refine (hP i q h1).kept (hk q.1 hl (fun hq => ?_))
      rcases hq with ⟨k2, e, h⟩ | h
      · obtain ⟨j, h3, h4⟩ := at' k2 (q.1, e) h
        have hij := hD.1 i j q (q.1, e) h1 h4 rfl
        subst hij
        exact h2 k2 (by rw [hlen]; exact (List.getElem?_eq_some_iff.mp h).1) h3
      · omega
  · obtain ⟨x0, hx0, ex⟩ := adr i x hx
    obtain ⟨y0, hy0, ey⟩ := adr j y hy
    exact hD.1 i j x0 y0 hx0 hy0 (by rw [ex, ey, hxy])
  · obtain ⟨q0, h0, e0⟩ := adr i q h
    rw [← e0]
    exact hD.2 i q0 h0
theorem bv_still {D : va_G} {cl : List vw_C} {ws : va_W} {H H1 : Heap} (hP : va_P D cl ws H) (hk : ∀ q : Nat, q < H.size → ¬ va_A [] H.size q → H1[q]? = H[q]?) : va_P D cl ws H1 := fun i q h => (hP i q h).kept (hk q.1 (hP i q h).lt (fun z => by
  rcases z with ⟨k, e, z⟩ | z
  · simp at z
  · have := (hP i q h).lt
    omega))
theorem bv_Orecv {A : Nat → Prop} {s : State} {H : Heap} {locs : List Loc} {a : Nat} (h : va_O "java/lang/String" a A s s.heap) (hS : va_S A s.heap H locs) : ∃ cell : Cell, H[a]? = some cell ∧ cell.vm.isStatics = false ∧ s.vm.findClass "java/lang/String" = some cell.cls := by
  obtain ⟨cell, h1, h2, h3, -⟩ := h.kept hS.2.1
  exact ⟨cell, h1, h2, h3⟩
theorem va_ldcwS {p : Program} {l : Launch} {e : Env} {R : Room} {s : State} {m : MethodId} {args : Array Value} {below : List Frame} {meth : Method} {c : Code} {H : Heap} {locs : List Loc} {cells slots : Nat} {Q : State → Prop} {cc : ByteArray} {pc : Nat} {ls : Array Slot} {rest : List Value} (hexec : p.tables.exec = Jvm.exec) (hb : c.code = cc) {own tx : String} {index q : Nat} (hown : s.vm.findClass own = some m.cls) (hZ : vk_R own index tx q s) (hdg : decode cc pc = .ok (.ldc_w index, 3))
    (k : W p l e R s m args below meth c H locs cells slots Q (F0 m (pc + 3) ls (.ref q :: rest))) : W p l e R s m args below meth c H locs cells slots Q (F0 m pc ls rest) := by
  intro T hT X
  obtain ⟨t, a1, b1⟩ := k T hT X
  exact ⟨t, X.ldcStringW hexec hown (text := tx) (a := q) hZ.1 hZ.2 (g := F0 m pc ls rest) rfl (by rw [hb]; exact hdg) t a1, b1⟩
theorem lc_lt_t {x y : Int64} (h : lg_cmp x y < 0) : x < y := (lg_cmp_lt x y).mp h
theorem lc_lt_f {x y : Int64} (h : ¬ lg_cmp x y < 0) : ¬ x < y := fun q => h ((lg_cmp_lt x y).mpr q)
theorem lc_ge_t {x y : Int64} (h : 0 ≤ lg_cmp x y) : ¬ x < y := Int64.not_lt.mpr ((lg_cmp_ge x y).mp h)
theorem lc_ge_f {x y : Int64} (h : ¬ 0 ≤ lg_cmp x y) : x < y := Int64.not_le.mp (fun q => h ((lg_cmp_ge x y).mpr q))
theorem lc_gt_t {x y : Int64} (h : 0 < lg_cmp x y) : y < x := (lg_cmp_gt x y).mp h
theorem lc_gt_f {x y : Int64} (h : ¬ 0 < lg_cmp x y) : ¬ y < x := fun q => h ((lg_cmp_gt x y).mpr q)
theorem lc_le_t {x y : Int64} (h : lg_cmp x y ≤ 0) : ¬ y < x := Int64.not_lt.mpr ((lg_cmp_le x y).mp h)
theorem lc_le_f {x y : Int64} (h : ¬ lg_cmp x y ≤ 0) : y < x := Int64.not_le.mp (fun q => h ((lg_cmp_le x y).mpr q))
theorem lc_eq_t {x y : Int64} (h : lg_cmp x y = 0) : x = y := (lg_cmp_eq x y).mp h
theorem lc_eq_f {x y : Int64} (h : ¬ lg_cmp x y = 0) : ¬ x = y := fun q => h ((lg_cmp_eq x y).mpr q)
theorem lc_ne_t {x y : Int64} (h : ¬ lg_cmp x y = 0) : ¬ x = y := fun q => h ((lg_cmp_eq x y).mpr q)
theorem lc_ne_f {x y : Int64} (h : lg_cmp x y = 0) : x = y := (lg_cmp_eq x y).mp h
