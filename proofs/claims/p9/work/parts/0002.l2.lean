def bt (x : Int32) (i : Nat) : Bool := x.toBitVec.getLsbD i
theorem b_ext {x y : Int32} (h : ∀ i, i < 32 → bt x i = bt y i) : x = y := Int32.toBitVec_inj.mp (BitVec.eq_of_getLsbD_eq (fun i hi => h i hi))
theorem b_and (x y : Int32) (i : Nat) : bt (x &&& y) i = (bt x i && bt y i) := by unfold bt; rw [Int32.toBitVec_and, BitVec.getLsbD_and]
theorem b_big {x : Int32} {i : Nat} (h : 32 ≤ i) : bt x i = false := BitVec.getLsbD_of_ge _ _ h
theorem b_255 (i : Nat) : bt 255 i = decide (i < 8) := by
  rcases Nat.lt_or_ge i 32 with h | h
  · exact (by decide +kernel : ∀ i, i < 32 → bt 255 i = decide (i < 8)) i h
  · rw [b_big h, decide_eq_false (by omega)]
theorem s_l : ∀ n, n < 32 → ((nI n &&& 31).toBitVec.smod 32).toNat = n := by decide +kernel
theorem s_u : ∀ n, n < 32 → (((nI n).toUInt32 &&& Int32.toUInt32 31).toBitVec % 32).toNat = n := by decide +kernel
theorem b_ushr (n : Nat) (hn : n < 32) (x : Int32) (i : Nat) : bt ((x.toUInt32 >>> ((nI n).toUInt32 &&& Int32.toUInt32 31)).toInt32) i = bt x (n + i) := by
  show (x.toUInt32 >>> ((nI n).toUInt32 &&& Int32.toUInt32 31)).toBitVec.getLsbD i = x.toUInt32.toBitVec.getLsbD (n + i)
  rw [UInt32.toBitVec_shiftRight]
  show (x.toUInt32.toBitVec >>> (((nI n).toUInt32 &&& Int32.toUInt32 31).toBitVec % 32).toNat).getLsbD i = _
  rw [s_u n hn, BitVec.getLsbD_ushiftRight]
theorem b_sshr (n : Nat) (hn : n < 32) (x : Int32) {i : Nat} (hi : i < 32) : bt (x >>> (nI n &&& 31)) i = if n + i < 32 then bt x (n + i) else bt x 31 := by
  unfold bt
  rw [Int32.toBitVec_shiftRight]
  show (x.toBitVec.sshiftRight ((nI n &&& 31).toBitVec.smod 32).toNat).getLsbD i = _
  rw [s_l n hn, BitVec.getLsbD_sshiftRight, BitVec.msb_eq_getLsbD_last]
  simp [hi]
def bv_z (x K : Int32) : Nat := if (x >>> (K &&& 31)) &&& 255 = 0 then 0 else 1
def bv_n (x : Int32) : Nat := bv_z x 24 + bv_z x 16 + bv_z x 8 + bv_z x 0
theorem bv_z_le (x K : Int32) : bv_z x K ≤ 1 := by
  unfold bv_z
  split <;> omega
theorem bv_n_le (x : Int32) : bv_n x ≤ 4 := by
  have h1 := bv_z_le x 24
  have h2 := bv_z_le x 16
  have h3 := bv_z_le x 8
  have h4 := bv_z_le x 0
  unfold bv_n
  omega
theorem bv_mz {x y z K : Int32} (hy : y = x >>> (K &&& 31)) (hz : z = y &&& 255) (h : z = 0) : bv_z x K = 0 := by
  unfold bv_z
  rw [if_pos (by rw [← hy, ← hz]; exact h)]
theorem bv_mn {x y z K : Int32} (hy : y = x >>> (K &&& 31)) (hz : z = y &&& 255) (h : ¬ z = 0) : bv_z x K = 1 := by
  unfold bv_z
  rw [if_neg (by rw [← hy, ← hz]; exact h)]
theorem bv_csN (n : Nat) (hn : n ≤ 24) (x : Int32) : (x.toUInt32 >>> ((nI n).toUInt32 &&& Int32.toUInt32 31)).toInt32 &&& 255 = (x >>> (nI n &&& 31)) &&& 255 := by
  apply b_ext
  intro i hi
  rw [b_and, b_and, b_255]
  by_cases h8 : i < 8
  · rw [b_ushr n (by omega), b_sshr n (by omega) x hi, if_pos (by omega)]
  · simp [h8]
theorem bv_cz {x y z K : Int32} (n : Nat) (hn : n ≤ 24) (hK : K = nI n) (hy : y = (x.toUInt32 >>> (K.toUInt32 &&& Int32.toUInt32 31)).toInt32) (hz : z = y &&& 255) (h : z = 0) : bv_z x K = 0 := by
  subst hK
  unfold bv_z
  rw [if_pos (by rw [← bv_csN n hn, ← hy, ← hz]; exact h)]
theorem bv_cn {x y z K : Int32} (n : Nat) (hn : n ≤ 24) (hK : K = nI n) (hy : y = (x.toUInt32 >>> (K.toUInt32 &&& Int32.toUInt32 31)).toInt32) (hz : z = y &&& 255) (h : ¬ z = 0) : bv_z x K = 1 := by
  subst hK
  unfold bv_z
  rw [if_neg (by rw [← bv_csN n hn, ← hy, ← hz]; exact h)]
theorem nI_0a (n : Nat) : (0 : Int32) + nI n = nI n := by rw [Int32.zero_add]
