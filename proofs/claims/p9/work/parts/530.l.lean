theorem wb_tb (n : Nat) : (lN n).toBitVec = BitVec.ofNat 64 n := rfl
theorem wb_inj {a b : Int64} (h : a.toBitVec = b.toBitVec) : a = b := Int64.toBitVec_inj.mp h
theorem wb_c : ∀ k, k < 64 → ((nI k).toInt64 &&& 63) = lN k := by decide +kernel
theorem wb_sm : ∀ k, k < 64 → (BitVec.ofNat 64 k).smod 64 = BitVec.ofNat 64 k := by decide +kernel
theorem wb_shl (n : Nat) {k : Nat} (hk : k < 64) : lN n <<< ((nI k).toInt64 &&& 63) = lN (n * 2 ^ k) := by
  rw [wb_c k hk]
  apply wb_inj
  rw [Int64.toBitVec_shiftLeft, wb_tb, wb_tb, wb_tb, wb_sm k hk]
  apply BitVec.eq_of_toNat_eq
  rw [BitVec.shiftLeft_eq', BitVec.toNat_shiftLeft, BitVec.toNat_ofNat, BitVec.toNat_ofNat, BitVec.toNat_ofNat, Nat.mod_eq_of_lt (show k < 2 ^ 64 by omega), Nat.shiftLeft_eq, Nat.mul_mod, Nat.mod_mod, ← Nat.mul_mod]
def bv_dg (a : Int64) : Nat → Int64 → Int32 → Int32
  | 0, _, sh => sh
  | d + 1, r, sh => bv_dg a d (r * 10 - r * 10 / a * a) (sh * 10 + (r * 10 / a).toInt32)
def bv_bl (n k : Nat) : Int32 := bv_dg (lN (2 ^ (n + 2 * k) + 5 ^ n)) 6 (lN (2 ^ (n + 2 * k))) 0
def bv_blS (p q : Int32) : Int32 := if 0 ≤ p ∧ p ≤ 18 ∧ 0 ≤ q ∧ q ≤ p then bv_bl p.toNatClampNeg q.toNatClampNeg else -1
theorem bv_r1 {p q : Int32} (h : p < 0) : -1 = bv_blS p q := by
  unfold bv_blS
  rw [if_neg (fun z => Int32.not_le.mpr h z.1)]
theorem bv_r2 {p q : Int32} (h : 18 < p) : -1 = bv_blS p q := by
  unfold bv_blS
  rw [if_neg (fun z => Int32.not_le.mpr h z.2.1)]
theorem bv_r3 {p q : Int32} (h : q < 0) : -1 = bv_blS p q := by
  unfold bv_blS
  rw [if_neg (fun z => Int32.not_le.mpr h z.2.2.1)]
theorem bv_r4 {p q : Int32} (h : p < q) : -1 = bv_blS p q := by
  unfold bv_blS
  rw [if_neg (fun z => Int32.not_le.mpr h z.2.2.2)]
theorem bv_l0 {p : Int32} : p.toInt64 < 0 ↔ p < 0 := by
  rw [Int64.lt_iff_toInt_lt, Int32.lt_iff_toInt_lt, Int32.toInt_toInt64]
  exact Iff.rfl
theorem bv_l18 {p : Int32} : 18 < p.toInt64 ↔ 18 < p := by
  rw [Int64.lt_iff_toInt_lt, Int32.lt_iff_toInt_lt, Int32.toInt_toInt64]
  exact Iff.rfl
theorem bv_ll {p q : Int32} : p.toInt64 < q.toInt64 ↔ p < q := by
  rw [Int64.lt_iff_toInt_lt, Int32.lt_iff_toInt_lt, Int32.toInt_toInt64, Int32.toInt_toInt64]
theorem bv_in {p q : Int32} (h1 : ¬ p < 0) (h2 : ¬ 18 < p) (h3 : ¬ q < 0) (h4 : ¬ p < q) : ∃ n k : Nat, n ≤ 18 ∧ k ≤ n ∧ p = nI n ∧ q = nI k ∧ bv_blS p q = bv_bl n k := by
  obtain ⟨n, hn, en⟩ := nI_of2 (M := 18) (n := 18) rfl h1 (Int32.not_lt.mp h2)
  obtain ⟨k, hk, ek⟩ := nI_of2 (M := p) (n := n) (by rw [en]; exact nI_toInt (by omega)) h3 (Int32.not_lt.mp h4)
  refine ⟨n, k, hn, hk, en, ek, ?_⟩
  unfold bv_blS
  rw [if_pos ⟨Int32.not_lt.mp h1, Int32.not_lt.mp h2, Int32.not_lt.mp h3, Int32.not_lt.mp h4⟩, en, ek, nI_clamp (by omega), nI_clamp (by omega)]
def bv_w (k i : Nat) : Nat := 2 ^ (i + 2 * min i k)
theorem bv_w0 (k : Nat) : bv_w k 0 = 1 := by simp [bv_w]
theorem bv_w2 {k i : Nat} (h : k ≤ i) : bv_w k i * 2 = bv_w k (i + 1) := by
  unfold bv_w
  rw [Nat.min_eq_right h, Nat.min_eq_right (by omega), ← Nat.pow_succ]
  congr 1
  omega
theorem bv_w8 {k i : Nat} (h : i < k) : bv_w k i * 8 = bv_w k (i + 1) := by
  unfold bv_w
  rw [Nat.min_eq_left (by omega), Nat.min_eq_left (by omega), show (8 : Nat) = 2 ^ 3 from rfl, ← Nat.pow_add]
  congr 1
  omega
theorem bv_wn {k n : Nat} (h : k ≤ n) : bv_w k n = 2 ^ (n + 2 * k) := by
  unfold bv_w
  rw [Nat.min_eq_right h]
theorem bv_all {n k : Nat} (hn : n ≤ 18) (hk : k ≤ n) : 2 ^ (n + 2 * k) + 5 ^ n < 2 ^ 63 ∧ 0 < 2 ^ (n + 2 * k) + 5 ^ n := by
  have h1 : 2 ^ (n + 2 * k) ≤ 2 ^ 54 := Nat.pow_le_pow_right (by decide) (by omega)
  have h2 : 5 ^ n ≤ 5 ^ 18 := Nat.pow_le_pow_right (by decide) hn
  have h3 : 0 < 5 ^ n := Nat.pow_pos (by decide)
  have h4 : (2 : Nat) ^ 54 + 5 ^ 18 < 2 ^ 63 := by decide
  exact ⟨Nat.lt_of_le_of_lt (Nat.add_le_add h1 h2) h4, Nat.lt_of_lt_of_le h3 (Nat.le_add_left _ _)⟩
theorem bv_a {n k : Nat} (hn : n ≤ 18) (hk : k ≤ n) : 0 < lN (2 ^ (n + 2 * k) + 5 ^ n) ∧ ¬ lN (2 ^ (n + 2 * k) + 5 ^ n) = 0 := by
  obtain ⟨h1, h2⟩ := bv_all hn hk
  have h3 : lN 0 < lN (2 ^ (n + 2 * k) + 5 ^ n) := (pk_lLT (by decide) h1).mpr h2
  refine ⟨h3, fun e => ?_⟩
  rw [e] at h3
  exact absurd h3 (by decide)
theorem bv_sh {n k : Nat} (hn : n ≤ 18) (hk : k ≤ n) : (1 : Int64) <<< ((nI n + 2 * nI k).toInt64 &&& 63) = lN (2 ^ (n + 2 * k)) := by
  rw [show (2 : Int32) * nI k = nI (2 * k) from pk_mul 2 k, nI_add, show (1 : Int64) = lN 1 from rfl, wb_shl 1 (by omega), Nat.one_mul]
theorem bv_5 (i : Nat) : lN (5 ^ i) * 5 = lN (5 ^ (i + 1)) := by
  rw [show (5 : Int64) = lN 5 from rfl, lN_mul, Nat.pow_succ]
theorem bv_m8 {k i : Nat} (h : i < k) : lN (bv_w k i) * 8 = lN (bv_w k (i + 1)) := by
  rw [show (8 : Int64) = lN 8 from rfl, lN_mul, bv_w8 h]
theorem bv_m2 {k i : Nat} (h : k ≤ i) : lN (bv_w k i) * 2 = lN (bv_w k (i + 1)) := by
  rw [show (2 : Int64) = lN 2 from rfl, lN_mul, bv_w2 h]
