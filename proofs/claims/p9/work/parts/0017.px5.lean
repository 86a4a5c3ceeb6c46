theorem fs_c_X9_bytesIn_p4 (p0 : Int32) (F : Nat) (j4_l2 : Int32) (j4_l1 : Int32) : fx_c_X9_bytesIn_p4 p0 (F + 1) j4_l2 j4_l1 = ((if j4_l2 = j4_l2 then (if 32 ≤ j4_l2 then j4_l1 else (exl (((p0 : Int32).toUInt32 >>> ((j4_l2 : Int32).toUInt32 &&& Int32.toUInt32 31)).toInt32) fun (x_7 : Int32) => (exl (x_7 &&& 255) fun (x_8 : Int32) => (if x_8 = 0 then (fx_c_X9_bytesIn_p23 j4_l2 (fx_c_X9_bytesIn_p4 p0 F) j4_l1) else (exl (j4_l1 + 1) fun (x_13 : Int32) => (fx_c_X9_bytesIn_p23 j4_l2 (fx_c_X9_bytesIn_p4 p0 F) x_13)))))) else default) : Int32) := rfl
theorem fs_c_X9_append_p3 (p1 : Int32) (F : Nat) (j3_l2 : Int32) (j3_h0_f1 : Int32) (j3_h0_0c : (Nat → Int32)) : fx_c_X9_append_p3 p1 (F + 1) j3_l2 j3_h0_f1 j3_h0_0c = ((if j3_l2 = j3_l2 then (if j3_l2 < 0 then (j3_h0_f1, j3_h0_0c) else (exl (((p1 : Int32).toUInt32 >>> ((j3_l2 : Int32).toUInt32 &&& Int32.toUInt32 31)).toInt32) fun (x_7 : Int32) => (exl (x_7 &&& 255) fun (x_8 : Int32) => (if x_8 = 0 then (fx_c_X9_append_p49 j3_l2 (fx_c_X9_append_p3 p1 F) j3_h0_f1 j3_h0_0c) else (if 240 ≤ j3_h0_f1 then (fx_c_X9_append_p49 j3_l2 (fx_c_X9_append_p3 p1 F) j3_h0_f1 j3_h0_0c) else (exl (upd j3_h0_0c (j3_h0_f1 : Int32).toNatClampNeg x_8) fun (w_17 : Nat → Int32) => (exl (j3_h0_f1 + 1) fun (x_20 : Int32) => (fx_c_X9_append_p49 j3_l2 (fx_c_X9_append_p3 p1 F) x_20 w_17)))))))) else default) : Int32 × (Nat → Int32)) := rfl
/-- a byte of a word; a byte that is not 0 comes behind the others -/
def fd_b (v : Int32) (k : Nat) : Int32 := (v >>> (nI k &&& 31)) &&& 255
def fd_z (b : Int32) : Nat := if b = 0 then 0 else 1
def fd_n (v : Int32) : Nat := fd_z (fd_b v 24) + fd_z (fd_b v 16) + fd_z (fd_b v 8) + fd_z (fd_b v 0)
def fd_p (b : Int32) (s : Nat × (Nat → Int32)) : Nat × (Nat → Int32) := if b = 0 then s else (s.1 + 1, upd s.2 s.1 b)
def fd_w (v : Int32) (s : Nat × (Nat → Int32)) : Nat × (Nat → Int32) := fd_p (fd_b v 0) (fd_p (fd_b v 8) (fd_p (fd_b v 16) (fd_p (fd_b v 24) s)))
def fd_q (b : Int32) (s : Nat × (Nat → Int32)) : Nat × (Nat → Int32) := if b = 0 then s else (s.1 + 1, upd s.2 s.1 b.toInt8.toInt32)
def fd_v (v : Int32) (s : Nat × (Nat → Int32)) : Nat × (Nat → Int32) := fd_q (fd_b v 0) (fd_q (fd_b v 8) (fd_q (fd_b v 16) (fd_q (fd_b v 24) s)))
theorem fd_z_le (b : Int32) : fd_z b ≤ 1 := by unfold fd_z; split <;> omega
theorem fd_n_le (v : Int32) : fd_n v ≤ 4 := by
  have h1 := fd_z_le (fd_b v 24)
  have h2 := fd_z_le (fd_b v 16)
  have h3 := fd_z_le (fd_b v 8)
  have h4 := fd_z_le (fd_b v 0)
  unfold fd_n
  omega
theorem fd_p1 (b : Int32) (s : Nat × (Nat → Int32)) : (fd_p b s).1 = s.1 + fd_z b := by unfold fd_p fd_z; split <;> rfl
theorem fd_q1 (b : Int32) (s : Nat × (Nat → Int32)) : (fd_q b s).1 = s.1 + fd_z b := by unfold fd_q fd_z; split <;> rfl
theorem fd_w1 (v : Int32) (s : Nat × (Nat → Int32)) : (fd_w v s).1 = s.1 + fd_n v := by unfold fd_w fd_n; rw [fd_p1, fd_p1, fd_p1, fd_p1]; omega
theorem fd_v1 (v : Int32) (s : Nat × (Nat → Int32)) : (fd_v v s).1 = s.1 + fd_n v := by unfold fd_v fd_n; rw [fd_q1, fd_q1, fd_q1, fd_q1]; omega
theorem fd_RG (v : Int32) (k : Nat) : RG (fd_b v k) 0 255 := RG_andr (x := v >>> (nI k &&& 31)) (y := 255) rfl (RG_k 255 255 rfl) (by decide)
/-- both tapes: as many bytes, the same -/
def TR (c g : Nat → Int32) (n : Nat) : Prop := (∀ i, RG (c i) 0 255) ∧ n ≤ 240 ∧ TG c g n
theorem upd_at (f : Nat → Int32) (k : Nat) (x : Int32) : upd f k x k = x := pk_us
theorem upd_ne (f : Nat → Int32) {k i : Nat} (x : Int32) (h : ¬ i = k) : upd f k x i = f i := by unfold upd; exact if_neg h
theorem fd_rel {b : Int32} {s t : Nat × (Nat → Int32)} (hb : RG b 0 255) (h1 : s.1 = t.1) (hr : ∀ i, RG (s.2 i) 0 255) (hg : TG s.2 t.2 s.1) : (fd_p b s).1 = (fd_q b t).1 ∧ (∀ i, RG ((fd_p b s).2 i) 0 255) ∧ TG (fd_p b s).2 (fd_q b t).2 (fd_p b s).1 := by
  unfold fd_p fd_q
  by_cases hz : b = 0
  · rw [if_pos hz, if_pos hz]
    exact ⟨h1, hr, hg⟩
  · rw [if_neg hz, if_neg hz]
    refine ⟨by show s.1 + 1 = t.1 + 1; omega, fun i => ?_, fun i hi => ?_⟩
    · show RG (upd s.2 s.1 b i) 0 255
      by_cases hi : i = s.1
      · rw [hi, upd_at]
        exact hb
      · rw [upd_ne _ _ hi]
        exact hr i
    · have hi : i < s.1 + 1 := hi
      show upd t.2 t.1 b.toInt8.toInt32 i = (upd s.2 s.1 b i).toInt8.toInt32
      by_cases hi2 : i = s.1
      · rw [hi2, upd_at, h1, upd_at]
      · rw [upd_ne _ _ hi2, upd_ne _ _ (by omega)]
        exact hg i (by omega)
theorem fd_relw (v : Int32) {s t : Nat × (Nat → Int32)} (h1 : s.1 = t.1) (hr : ∀ i, RG (s.2 i) 0 255) (hg : TG s.2 t.2 s.1) : (fd_w v s).1 = (fd_v v t).1 ∧ (∀ i, RG ((fd_w v s).2 i) 0 255) ∧ TG (fd_w v s).2 (fd_v v t).2 (fd_w v s).1 := by
  obtain ⟨a1, a2, a3⟩ := fd_rel (fd_RG v 24) h1 hr hg
  obtain ⟨a1, a2, a3⟩ := fd_rel (fd_RG v 16) a1 a2 a3
  obtain ⟨a1, a2, a3⟩ := fd_rel (fd_RG v 8) a1 a2 a3
  exact fd_rel (fd_RG v 0) a1 a2 a3
theorem px_c_X9_bytesIn_s (v : Int32) (F k i : Nat) (hk : k ≤ 24) (hi : i ≤ 100) : fx_c_X9_bytesIn_p4 v (F + 1) (nI k) (nI i) = fx_c_X9_bytesIn_p4 v F (nI k + 8) (nI (i + fd_z (fd_b v k))) := by
  rw [fs_c_X9_bytesIn_p4, if_pos rfl, if_neg (show ¬ (32 : Int32) ≤ nI k from nI_ge (a := k) (b := 32) (by omega) (by omega))]
  simp only [exl, fx_c_X9_bytesIn_p23]
  have e : (v.toUInt32 >>> ((nI k).toUInt32 &&& Int32.toUInt32 31)).toInt32 &&& 255 = fd_b v k := bv_csN k hk v
  rw [e]
  unfold fd_z
  by_cases hz : fd_b v k = 0
  · rw [if_pos hz, if_pos hz, Nat.add_zero]
  · rw [if_neg hz, if_neg hz, nI_1]
theorem px_c_X9_bytesIn (v : Int32) : fx_c_X9_bytesIn v = nI (fd_n v) := by
  have h1 := fd_z_le (fd_b v 24)
  have h2 := fd_z_le (fd_b v 16)
  have h3 := fd_z_le (fd_b v 8)
  have h4 := fd_z_le (fd_b v 0)
  have e0 : fx_c_X9_bytesIn v = fx_c_X9_bytesIn_p4 v (8589934587 + 1 + 1 + 1 + 1 + 1) (nI 0) (nI 0) := rfl
  rw [e0, px_c_X9_bytesIn_s v _ 0 0 (by omega) (by omega), show nI 0 + 8 = nI 8 from by decide, px_c_X9_bytesIn_s v _ 8 _ (by omega) (by omega), show nI 8 + 8 = nI 16 from by decide, px_c_X9_bytesIn_s v _ 16 _ (by omega) (by omega), show nI 16 + 8 = nI 24 from by decide, px_c_X9_bytesIn_s v _ 24 _ (by omega) (by omega), fs_c_X9_bytesIn_p4, if_pos rfl, if_pos (by decide)]
  unfold fd_n
  congr 1
  omega
theorem fd_b24 (v : Int32) : (v >>> (24 &&& 31)) &&& 255 = fd_b v 24 := rfl
theorem fd_b16 (v : Int32) : (v >>> (16 &&& 31)) &&& 255 = fd_b v 16 := rfl
theorem fd_b8 (v : Int32) : (v >>> (8 &&& 31)) &&& 255 = fd_b v 8 := rfl
theorem fd_b0 (v : Int32) : (v >>> (0 &&& 31)) &&& 255 = fd_b v 0 := rfl
theorem rx_c_X12_bytesIn (v : Int32) : fx_c_X12_bytesIn v = nI (fd_n v) := by
  simp only [fx_c_X12_bytesIn, exl]
  rw [fd_b24, fd_b16, fd_b8, fd_b0]
  unfold fd_n fd_z
  by_cases h1 : fd_b v 24 = 0 <;> by_cases h2 : fd_b v 16 = 0 <;> by_cases h3 : fd_b v 8 = 0 <;> by_cases h4 : fd_b v 0 = 0 <;> simp only [h1, h2, h3, h4, if_true, if_false] <;> decide
theorem px_c_X9_append_s (v : Int32) (F k : Nat) (hk : k ≤ 24) (s : Nat × (Nat → Int32)) (hs : (fd_p (fd_b v k) s).1 ≤ 240) : fx_c_X9_append_p3 v (F + 1) (nI k) (nI s.1) s.2 = fx_c_X9_append_p3 v F (nI k + (-8)) (nI (fd_p (fd_b v k) s).1) (fd_p (fd_b v k) s).2 := by
  rw [fs_c_X9_append_p3, if_pos rfl, if_neg (nI_pos (by omega))]
  simp only [exl, fx_c_X9_append_p49]
  have e : (v.toUInt32 >>> ((nI k).toUInt32 &&& Int32.toUInt32 31)).toInt32 &&& 255 = fd_b v k := bv_csN k hk v
  rw [e]
  rw [fd_p1] at hs
  unfold fd_p
  unfold fd_z at hs
  by_cases hz : fd_b v k = 0
  · rw [if_pos hz, if_pos hz]
  · rw [if_neg hz] at hs
    rw [if_neg hz, if_neg hz, if_neg (show ¬ (240 : Int32) ≤ nI s.1 from nI_ge (a := s.1) (b := 240) (by omega) (by omega)), px_clamp (by omega), nI_1]
theorem px_c_X9_append (v : Int32) (s : Nat × (Nat → Int32)) (hs : s.1 + fd_n v ≤ 240) : fx_c_X9_append v (nI s.1) s.2 = (nI (fd_w v s).1, (fd_w v s).2) := by
  have hw := fd_w1 v s
  unfold fd_n at hs
  have h1 := fd_z_le (fd_b v 24)
  have h2 := fd_z_le (fd_b v 16)
  have h3 := fd_z_le (fd_b v 8)
  have h4 := fd_z_le (fd_b v 0)
  have e0 : fx_c_X9_append v (nI s.1) s.2 = fx_c_X9_append_p3 v (8589934587 + 1 + 1 + 1 + 1 + 1) (nI 24) (nI s.1) s.2 := rfl
  rw [e0, px_c_X9_append_s v _ 24 (by omega) s (by rw [fd_p1]; omega), show nI 24 + (-8) = nI 16 from by decide, px_c_X9_append_s v _ 16 (by omega) _ (by rw [fd_p1, fd_p1]; omega), show nI 16 + (-8) = nI 8 from by decide, px_c_X9_append_s v _ 8 (by omega) _ (by rw [fd_p1, fd_p1, fd_p1]; omega), show nI 8 + (-8) = nI 0 from by decide, px_c_X9_append_s v _ 0 (by omega) _ (by rw [fd_p1, fd_p1, fd_p1, fd_p1]; omega), fs_c_X9_append_p3, if_pos rfl, if_pos (by decide)]
  rfl
theorem fd_nar (v : Int32) (k : Nat) : vp_nar .byte ((v >>> (nI k &&& 31)).toInt8.toInt32) = (fd_b v k).toInt8.toInt32 := by
  rw [vp_nar_byte]
  have h1 : ∀ x : Int32, x.toInt8.toInt32.toInt8 = x.toInt8 := fun x => Int8.toInt8_toInt32 _
  rw [h1]
  congr 1
  apply Int8.toBitVec_inj.mp
  apply BitVec.eq_of_getLsbD_eq
  intro i hi
  rw [Int32.toBitVec_toInt8, Int32.toBitVec_toInt8, BitVec.getLsbD_signExtend, BitVec.getLsbD_signExtend, if_pos (show i < 32 by omega), if_pos (show i < 32 by omega)]
  have h2 : (fd_b v k).toBitVec.getLsbD i = ((v >>> (nI k &&& 31)).toBitVec.getLsbD i && decide (i < 8)) := by
    have h3 := b_and (v >>> (nI k &&& 31)) 255 i
    rw [b_255] at h3
    exact h3
  rw [h2, decide_eq_true hi, Bool.and_true]
theorem fd_n24 (v : Int32) : vp_nar .byte ((v >>> (24 &&& 31)).toInt8.toInt32) = (fd_b v 24).toInt8.toInt32 := fd_nar v 24
theorem fd_n16 (v : Int32) : vp_nar .byte ((v >>> (16 &&& 31)).toInt8.toInt32) = (fd_b v 16).toInt8.toInt32 := fd_nar v 16
theorem fd_n8 (v : Int32) : vp_nar .byte ((v >>> (8 &&& 31)).toInt8.toInt32) = (fd_b v 8).toInt8.toInt32 := fd_nar v 8
theorem fd_n0 (v : Int32) : vp_nar .byte ((v >>> (0 &&& 31)).toInt8.toInt32) = (fd_b v 0).toInt8.toInt32 := fd_nar v 0
theorem rx_c_X12_put (v : Int32) (s : Nat × (Nat → Int32)) (hs : s.1 ≤ 240) : fx_c_X12_put v (nI s.1) s.2 = (nI (fd_v v s).1, (fd_v v s).2) := by
  have c0 : (nI s.1).toNatClampNeg = s.1 := px_clamp (by omega)
  have c1 : (nI (s.1 + 1)).toNatClampNeg = s.1 + 1 := px_clamp (by omega)
  have c2 : (nI (s.1 + 1 + 1)).toNatClampNeg = s.1 + 1 + 1 := px_clamp (by omega)
  have c3 : (nI (s.1 + 1 + 1 + 1)).toNatClampNeg = s.1 + 1 + 1 + 1 := px_clamp (by omega)
  simp only [fx_c_X12_put, exl, fd_b24, fd_b16, fd_b8, fd_b0, fd_n24, fd_n16, fd_n8, fd_n0, nI_1, c0, c1, c2, c3]
  unfold fd_v fd_q
  by_cases h1 : fd_b v 24 = 0 <;> by_cases h2 : fd_b v 16 = 0 <;> by_cases h3 : fd_b v 8 = 0 <;> by_cases h4 : fd_b v 0 = 0 <;> simp only [h1, h2, h3, h4, if_true, if_false]
/-- feed: alike -/
theorem px_feed (v1 v2 v3 v4 v5 : Int32) {n : Nat} {c g : Nat → Int32} (h : TR c g n) : ∃ (m : Nat) (c2 g2 : Nat → Int32) (r : Int32), fx_c_X11_feed v1 v2 v3 v4 v5 (nI n) c = (r, nI m, c2) ∧ fx_c_X12_feed v1 v2 v3 v4 v5 (nI n) g = (r, nI m, g2) ∧ TR c2 g2 m := by
  have k1 := fd_n_le v1
  have k2 := fd_n_le v2
  have k3 := fd_n_le v3
  have k4 := fd_n_le v4
  have k5 := fd_n_le v5
  obtain ⟨hr, hn, hg⟩ := h
  simp only [fx_c_X11_feed, fx_c_X12_feed, exc1, exc2, exl, px_c_X9_bytesIn, rx_c_X12_bytesIn, nI_add]
  by_cases hc : n + (fd_n v1 + fd_n v2 + fd_n v3 + fd_n v4 + fd_n v5) ≤ 240
  · have d1 : nI (n + (fd_n v1 + fd_n v2 + fd_n v3 + fd_n v4 + fd_n v5)) ≤ 240 := nI_le (a := n + (fd_n v1 + fd_n v2 + fd_n v3 + fd_n v4 + fd_n v5)) (b := 240) hc (by omega)
    have d2 : nI (n + fd_n v1 + fd_n v2 + fd_n v3 + fd_n v4 + fd_n v5) ≤ 240 := nI_le (a := n + fd_n v1 + fd_n v2 + fd_n v3 + fd_n v4 + fd_n v5) (b := 240) (by omega) (by omega)
    rw [if_pos d1, if_pos d2]
    obtain ⟨s1, e1⟩ : ∃ s, s = fd_w v1 (n, c) := ⟨_, rfl⟩
    obtain ⟨t1, f1⟩ : ∃ s, s = fd_v v1 (n, g) := ⟨_, rfl⟩
    have l1 : s1.1 = n + fd_n v1 := by rw [e1, fd_w1]
    obtain ⟨a1, a2, a3⟩ := fd_relw v1 (s := (n, c)) (t := (n, g)) rfl hr hg
    rw [← e1, ← f1] at a1 a3
    rw [← e1] at a2
    obtain ⟨s2, e2⟩ : ∃ s, s = fd_w v2 s1 := ⟨_, rfl⟩
    obtain ⟨t2, f2⟩ : ∃ s, s = fd_v v2 t1 := ⟨_, rfl⟩
    have l2 : s2.1 = s1.1 + fd_n v2 := by rw [e2, fd_w1]
    obtain ⟨b1, b2, b3⟩ := fd_relw v2 a1 a2 a3
    rw [← e2, ← f2] at b1 b3
    rw [← e2] at b2
    obtain ⟨s3, e3⟩ : ∃ s, s = fd_w v3 s2 := ⟨_, rfl⟩
    obtain ⟨t3, f3⟩ : ∃ s, s = fd_v v3 t2 := ⟨_, rfl⟩
    have l3 : s3.1 = s2.1 + fd_n v3 := by rw [e3, fd_w1]
    obtain ⟨c1, c2, c3⟩ := fd_relw v3 b1 b2 b3
    rw [← e3, ← f3] at c1 c3
    rw [← e3] at c2
    obtain ⟨s4, e4⟩ : ∃ s, s = fd_w v4 s3 := ⟨_, rfl⟩
    obtain ⟨t4, f4⟩ : ∃ s, s = fd_v v4 t3 := ⟨_, rfl⟩
    have l4 : s4.1 = s3.1 + fd_n v4 := by rw [e4, fd_w1]
    obtain ⟨d1, d2, d3⟩ := fd_relw v4 c1 c2 c3
    rw [← e4, ← f4] at d1 d3
    rw [← e4] at d2
    obtain ⟨s5, e5⟩ : ∃ s, s = fd_w v5 s4 := ⟨_, rfl⟩
    obtain ⟨t5, f5⟩ : ∃ s, s = fd_v v5 t4 := ⟨_, rfl⟩
    have l5 : s5.1 = s4.1 + fd_n v5 := by rw [e5, fd_w1]
    obtain ⟨x1, x2, x3⟩ := fd_relw v5 d1 d2 d3
    rw [← e5, ← f5] at x1 x3
    rw [← e5] at x2
    have p1 := px_c_X9_append v1 (n, c) (by show n + fd_n v1 ≤ 240; omega)
    have q1 := rx_c_X12_put v1 (n, g) (by show n ≤ 240; omega)
    rw [← e1] at p1
    rw [← f1] at q1
    have p1 : fx_c_X9_append v1 (nI n) c = (nI s1.1, s1.2) := p1
    have q1 : fx_c_X12_put v1 (nI n) g = (nI t1.1, t1.2) := q1
    have p2 := px_c_X9_append v2 s1 (by omega)
    have q2 := rx_c_X12_put v2 t1 (by omega)
    rw [← e2] at p2
    rw [← f2] at q2
    have p3 := px_c_X9_append v3 s2 (by omega)
    have q3 := rx_c_X12_put v3 t2 (by omega)
    rw [← e3] at p3
    rw [← f3] at q3
    have p4 := px_c_X9_append v4 s3 (by omega)
    have q4 := rx_c_X12_put v4 t3 (by omega)
    rw [← e4] at p4
    rw [← f4] at q4
    have p5 := px_c_X9_append v5 s4 (by omega)
    have q5 := rx_c_X12_put v5 t4 (by omega)
    rw [← e5] at p5
    rw [← f5] at q5
    refine ⟨s5.1, s5.2, t5.2, nI s5.1, ?_, ?_, x2, by omega, x3⟩
    · rw [p1]
      simp only []
      rw [p2]
      simp only []
      rw [p3]
      simp only []
      rw [p4]
      simp only []
      rw [p5]
    · rw [q1]
      simp only []
      rw [q2]
      simp only []
      rw [q3]
      simp only []
      rw [q4]
      simp only []
      rw [q5, x1]
  · have d1 : ¬ nI (n + (fd_n v1 + fd_n v2 + fd_n v3 + fd_n v4 + fd_n v5)) ≤ 240 := nI_ge (a := 240) (b := n + (fd_n v1 + fd_n v2 + fd_n v3 + fd_n v4 + fd_n v5)) (by omega) (by omega)
    have d2 : ¬ nI (n + fd_n v1 + fd_n v2 + fd_n v3 + fd_n v4 + fd_n v5) ≤ 240 := nI_ge (a := 240) (b := n + fd_n v1 + fd_n v2 + fd_n v3 + fd_n v4 + fd_n v5) (by omega) (by omega)
    rw [if_neg d1, if_neg d2]
    exact ⟨n, c, g, -1, rfl, rfl, hr, hn, hg⟩
theorem TR_le {c g : Nat → Int32} {n m : Nat} (h : TR c g n) (k : m ≤ n) : TR c g m := ⟨h.1, Nat.le_trans k h.2.1, fun i hi => h.2.2 i (by omega)⟩
/-- end: alike -/
theorem px_end (v : Int32) {n : Nat} {c g : Nat → Int32} (h : TR c g n) : ∃ (m : Nat) (r : Int32), fx_c_X11_end v (nI n) = (r, nI m) ∧ fx_c_X12_end v (nI n) = (r, nI m) ∧ TR c g m := by
  have hn := h.2.1
  simp only [fx_c_X11_end, fx_c_X12_end, exc1]
  by_cases h1 : v < 0
  · have w : fx_c_X11_isWithin v (nI n) = 0 := if_pos h1
    rw [w, if_pos rfl, if_pos h1]
    exact ⟨n, 0, rfl, rfl, h⟩
  · obtain ⟨j, hj, e⟩ := nI_of h1
    by_cases h2 : nI n < v
    · have w : fx_c_X11_isWithin v (nI n) = 0 := (if_neg h1).trans (if_pos h2)
      rw [w, if_pos rfl, if_neg h1, if_neg (Int32.not_le.mpr h2)]
      exact ⟨n, 0, rfl, rfl, h⟩
    · have h3 : v ≤ nI n := Int32.not_lt.mp h2
      have w : fx_c_X11_isWithin v (nI n) = 1 := (if_neg h1).trans (if_neg h2)
      rw [w, if_neg (show ¬ (1 : Int32) = 0 by decide), if_neg h1, if_pos h3]
      rw [e] at h3
      have h4 := (nI_leI hj (by omega)).mp h3
      exact ⟨j, 1, by rw [e], by rw [e], TR_le h h4⟩
