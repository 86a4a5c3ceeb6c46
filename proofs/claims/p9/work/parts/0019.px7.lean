/-- BOROUGHS: a number of one or two digits from lo to hi -/
def tq_d (x : Int32) : Nat := x.toNatClampNeg - 48
def tq_nw (c : Nat → Int32) (n lo hi p : Nat) : Bool × Nat × Nat :=
  if tq_dg (tq_ch c n (tq_pk c n p)) then
    (if tq_dg (tq_ch c n (tq_pk c n p + 1)) then
      (if tq_dg (tq_ch c n (tq_pk c n p + 1 + 1)) then (false, tq_pk c n p + 1 + 1, 0)
       else if lo ≤ 10 * tq_d (c (tq_pk c n p)) + tq_d (c (tq_pk c n p + 1)) ∧ 10 * tq_d (c (tq_pk c n p)) + tq_d (c (tq_pk c n p + 1)) ≤ hi then (true, tq_pk c n p + 1 + 1, 10 * tq_d (c (tq_pk c n p)) + tq_d (c (tq_pk c n p + 1))) else (false, tq_pk c n p + 1, 0))
     else if lo ≤ tq_d (c (tq_pk c n p)) ∧ tq_d (c (tq_pk c n p)) ≤ hi then (true, tq_pk c n p + 1, tq_d (c (tq_pk c n p))) else (false, tq_pk c n p, 0))
  else (false, tq_pk c n p, 0)
theorem tq_nw_bd {c : Nat → Int32} {n lo hi p : Nat} (hp : p ≤ n) : p ≤ (tq_nw c n lo hi p).2.1 ∧ (tq_nw c n lo hi p).2.1 ≤ n := by
  have g3 := tq_pk_ge (c := c) hp
  have g5 := tq_pk_le (c := c) hp
  unfold tq_nw
  by_cases d0 : tq_dg (tq_ch c n (tq_pk c n p)) = true
  · have e0 := tq_dg_lt d0
    rw [if_pos d0]
    by_cases d1 : tq_dg (tq_ch c n (tq_pk c n p + 1)) = true
    · have e1 := tq_dg_lt d1
      rw [if_pos d1]
      by_cases d2 : tq_dg (tq_ch c n (tq_pk c n p + 1 + 1)) = true
      · have e2 := tq_dg_lt d2
        rw [if_pos d2]
        exact ⟨by show p ≤ tq_pk c n p + 1 + 1; omega, by show tq_pk c n p + 1 + 1 ≤ n; omega⟩
      · rw [if_neg d2]
        split
        · exact ⟨by show p ≤ tq_pk c n p + 1 + 1; omega, by show tq_pk c n p + 1 + 1 ≤ n; omega⟩
        · exact ⟨by show p ≤ tq_pk c n p + 1; omega, by show tq_pk c n p + 1 ≤ n; omega⟩
    · rw [if_neg d1]
      split
      · exact ⟨by show p ≤ tq_pk c n p + 1; omega, by show tq_pk c n p + 1 ≤ n; omega⟩
      · exact ⟨g3, g5⟩
  · rw [if_neg d0]
    exact ⟨g3, g5⟩
theorem tq_dgn {x : Int32} (h : tq_dg x = true) : ∃ d, d < 10 ∧ x = nI (48 + d) ∧ tq_d x = d := by
  have hr := tq_dg_RG h
  obtain ⟨j, hj, e⟩ := nI_of (x := x) (fun q => by have := Int32.lt_iff_toInt_lt.mp q; rw [Int32.toInt_zero] at this; have := hr.1; omega)
  have h1 := hr.1
  have h2 := hr.2
  rw [e, nI_toInt hj] at h1 h2
  refine ⟨j - 48, by omega, by rw [e]; congr 1; omega, ?_⟩
  unfold tq_d
  rw [e, nI_clamp hj]
theorem tq_val1 : ∀ d, d < 10 → (0 + nI (48 + d) - 48 : Int32) = nI d ∧ nI (48 + d) - 48 = nI d := by decide +kernel
theorem tq_val2 : ∀ d, d < 10 → ∀ e, e < 10 → (nI d * 10 + nI (48 + e) - 48 : Int32) = nI (10 * d + e) ∧ 10 * nI d + nI (48 + e) - 48 = nI (10 * d + e) := by decide +kernel
theorem px_c_X9_number_e {c : Nat → Int32} {n : Nat} (hT : TB c n) {q : Nat} (hq : q ≤ n) : fx_c_X9_number (nI n) (nI q) c = if tq_dg (tq_ch c n q) then (if tq_dg (tq_ch c n (q + 1)) then (if tq_dg (tq_ch c n (q + 1 + 1)) then (-1, nI (q + 1 + 1)) else (nI (10 * tq_d (c q) + tq_d (c (q + 1))), nI (q + 1 + 1))) else (nI (tq_d (c q)), nI (q + 1))) else (-1, nI q) := by
  have hn := hT.2
  have e : fx_c_X9_number (nI n) (nI q) c = (if tq_dg (tq_ch c n q) then (if tq_dg (tq_ch c n (q + 1)) then (if tq_dg (tq_ch c n (q + 1 + 1)) then (-1, nI (q + 1 + 1)) else ((0 + c q - 48) * 10 + c (q + 1) - 48, nI (q + 1 + 1))) else (0 + c q - 48, nI (q + 1))) else (-1, nI q)) := by
    have hc0 : (nI q).toNatClampNeg = q := px_clamp (by omega)
    have hc1 : (nI (q + 1)).toNatClampNeg = q + 1 := px_clamp (by omega)
    have hc2 : (nI (q + 1 + 1)).toNatClampNeg = q + 1 + 1 := px_clamp (by omega)
    simp only [fx_c_X9_number, exl, nI_1, hc0, hc1, hc2]
    rw [px_dgif hT (q := q + 1 + 1) (by omega), px_dgif hT (q := q + 1) (by omega), px_dgif hT (q := q) (by omega)]
  rw [e]
  by_cases h0 : tq_dg (tq_ch c n q) = true
  · have g0 := tq_dg_lt h0
    rw [tq_ch_in g0] at h0
    obtain ⟨d, hd, ed, vd⟩ := tq_dgn h0
    rw [tq_ch_in g0, if_pos h0, if_pos h0, vd]
    by_cases h1 : tq_dg (tq_ch c n (q + 1)) = true
    · have g1 := tq_dg_lt h1
      rw [tq_ch_in g1] at h1
      obtain ⟨f, hf, ef, vf⟩ := tq_dgn h1
      rw [tq_ch_in g1, if_pos h1, if_pos h1, vf, ed, ef, (tq_val1 d hd).1, (tq_val2 d hd f hf).1]
    · rw [if_neg h1, if_neg h1, ed, (tq_val1 d hd).1]
  · rw [if_neg h0, if_neg h0]
theorem px_c_X9_numberWithin {c : Nat → Int32} {n : Nat} (hT : TB c n) {lo hi p : Nat} (hp : p ≤ n) (hl : lo ≤ 20 ∧ hi ≤ 20) : ((tq_nw c n lo hi p).1 = true → fx_c_X9_numberWithin (nI lo) (nI hi) (nI n) (nI p) (-1) c = (nI (tq_nw c n lo hi p).2.2, nI (tq_nw c n lo hi p).2.1, -1)) ∧ ((tq_nw c n lo hi p).1 = false → (fx_c_X9_numberWithin (nI lo) (nI hi) (nI n) (nI p) (-1) c).2.2 = nI (tq_nw c n lo hi p).2.1 ∧ ∃ y, y ≤ n ∧ (fx_c_X9_numberWithin (nI lo) (nI hi) (nI n) (nI p) (-1) c).2.1 = nI y) := by
  have hn := hT.2
  have g5 := tq_pk_le (c := c) hp
  have hd : ∀ x, tq_dg x = true → tq_d x < 10 := fun x h => by obtain ⟨d, h1, _, h2⟩ := tq_dgn h; omega
  have e : fx_c_X9_numberWithin (nI lo) (nI hi) (nI n) (nI p) (-1) c = (if (fx_c_X9_number (nI n) (nI (tq_pk c n p)) c).1 = -1 then (-1, (fx_c_X9_number (nI n) (nI (tq_pk c n p)) c).2, (fx_c_X9_number (nI n) (nI (tq_pk c n p)) c).2) else if (fx_c_X9_number (nI n) (nI (tq_pk c n p)) c).1 = -1 then default else if (fx_c_X9_number (nI n) (nI (tq_pk c n p)) c).1 < nI lo then ((fx_c_X9_number (nI n) (nI (tq_pk c n p)) c).1, (fx_c_X9_number (nI n) (nI (tq_pk c n p)) c).2, (fx_c_X9_number (nI n) (nI (tq_pk c n p)) c).2 - 1) else if (fx_c_X9_number (nI n) (nI (tq_pk c n p)) c).1 ≤ nI hi then ((fx_c_X9_number (nI n) (nI (tq_pk c n p)) c).1, (fx_c_X9_number (nI n) (nI (tq_pk c n p)) c).2, -1) else ((fx_c_X9_number (nI n) (nI (tq_pk c n p)) c).1, (fx_c_X9_number (nI n) (nI (tq_pk c n p)) c).2, (fx_c_X9_number (nI n) (nI (tq_pk c n p)) c).2 - 1)) := by
    simp only [fx_c_X9_numberWithin, fx_c_X9_numberWithin_p37, exc1, exc2, exl]
    rw [px_c_X9_peek hT hp]
    by_cases h1 : tq_ch c n (tq_pk c n p) = -1
    · rw [if_pos h1]
      rfl
    · rw [if_neg h1]
      rfl
  rw [e, px_c_X9_number_e hT g5]
  unfold tq_nw
  have hm : ∀ v : Nat, v < 1000 → ¬ nI v = -1 := fun v h => nI_m1 (by omega)
  have fin : ∀ v q : Nat, v < 1000 → q ≤ n → 1 ≤ q → ((if lo ≤ v ∧ v ≤ hi then (true, q, v) else (false, q - 1, 0)).1 = true → (if nI v < nI lo then (nI v, nI q, nI q - 1) else if nI v ≤ nI hi then (nI v, nI q, -1) else (nI v, nI q, nI q - 1)) = (nI (if lo ≤ v ∧ v ≤ hi then (true, q, v) else (false, q - 1, 0)).2.2, nI (if lo ≤ v ∧ v ≤ hi then (true, q, v) else (false, q - 1, 0)).2.1, (-1 : Int32))) ∧ ((if lo ≤ v ∧ v ≤ hi then (true, q, v) else (false, q - 1, 0)).1 = false → (if nI v < nI lo then (nI v, nI q, nI q - 1) else if nI v ≤ nI hi then (nI v, nI q, -1) else (nI v, nI q, nI q - 1)).2.2 = nI (if lo ≤ v ∧ v ≤ hi then (true, q, v) else (false, q - 1, 0)).2.1 ∧ ∃ y, y ≤ n ∧ (if nI v < nI lo then (nI v, nI q, nI q - 1) else if nI v ≤ nI hi then (nI v, nI q, -1) else (nI v, nI q, nI q - 1)).2.1 = nI y) := fun v q hv hq h1 => by
    have hp1 : nI q - 1 = nI (q - 1) := by obtain ⟨k, hk⟩ : ∃ k, q = k + 1 := ⟨q - 1, by omega⟩; rw [hk, nI_pred]; rfl
    by_cases k1 : lo ≤ v
    · by_cases k2 : v ≤ hi
      · rw [if_pos (And.intro k1 k2), if_neg (nI_nlt k1 (by omega)), if_pos (nI_le k2 (by omega))]
        exact ⟨fun _ => rfl, fun z => by cases z⟩
      · rw [if_neg (fun z => k2 z.2), if_neg (nI_nlt k1 (by omega)), if_neg (nI_ge (by omega) (by omega)), hp1]
        exact ⟨fun z => by (cases z), fun _ => ⟨rfl, q, hq, rfl⟩⟩
    · rw [if_neg (fun z => k1 z.1), if_pos (nI_lt (by omega) (by omega)), hp1]
      exact ⟨fun z => by (cases z), fun _ => ⟨rfl, q, hq, rfl⟩⟩
  by_cases d0 : tq_dg (tq_ch c n (tq_pk c n p)) = true
  · have g0 := tq_dg_lt d0
    have v0 := hd _ d0
    rw [tq_ch_in g0] at v0
    rw [if_pos d0, if_pos d0]
    by_cases d1 : tq_dg (tq_ch c n (tq_pk c n p + 1)) = true
    · have g1 := tq_dg_lt d1
      have v1 := hd _ d1
      rw [tq_ch_in g1] at v1
      rw [if_pos d1, if_pos d1]
      by_cases d2 : tq_dg (tq_ch c n (tq_pk c n p + 1 + 1)) = true
      · have g2 := tq_dg_lt d2
        rw [if_pos d2, if_pos d2, if_pos rfl]
        exact ⟨fun z => by (cases z), fun _ => ⟨rfl, _, by omega, rfl⟩⟩
      · rw [if_neg d2, if_neg d2]
        simp only []
        rw [if_neg (hm _ (by omega)), if_neg (hm _ (by omega))]
        exact fin _ (tq_pk c n p + 1 + 1) (by omega) (by omega) (by omega)
    · rw [if_neg d1, if_neg d1]
      simp only []
      rw [if_neg (hm _ (by omega)), if_neg (hm _ (by omega))]
      exact fin _ (tq_pk c n p + 1) (by omega) (by omega) (by omega)
  · rw [if_neg d0, if_neg d0, if_pos rfl]
    exact ⟨fun z => by (cases z), fun _ => ⟨rfl, _, g5, rfl⟩⟩
theorem rx_c_X12_here {c g : Nat → Int32} {n : Nat} (hT : TB c n) (hG : TG c g n) {p : Nat} (hp : p < n) : fx_c_X12_here 0 (nI n) (nI p) g = c p := by
  have hn := hT.2
  simp only [fx_c_X12_here, exl]
  rw [rx_0, px_clamp (p := p) (by omega), if_neg (nI_ge hp (by omega))]
  exact (rx_c hT hG hp).1
theorem rx_c_X12_isIn_1 : ∀ t, t < 100 → fx_c_X12_isIn_1 (nI t).toInt64 = if 0 ≤ t ∧ t ≤ 9 then 1 else 0 := by decide +kernel
theorem rx_c_X12_number_p67 {c g : Nat → Int32} {n : Nat} (hT : TB c n) (hG : TG c g n) {p : Nat} (hp : p ≤ n) (h1 : 1 ≤ p) (v : Nat) (hv : v < 100) : fx_c_X12_number_p67 0 (nI n) g (nI v) (nI p) = if tq_dg (tq_ch c n p) then (0, nI p, nI p) else if 0 ≤ v ∧ v ≤ 9 then (nI v, nI p, -1) else (nI v, nI (p - 1), nI (p - 1)) := by
  have hp1 : nI p - 1 = nI (p - 1) := by obtain ⟨k, hk⟩ : ∃ k, p = k + 1 := ⟨p - 1, by omega⟩; rw [hk, nI_pred]; rfl
  simp only [fx_c_X12_number_p67, exc1, exl]
  rw [rx_c_X12_isDigit hT hG hp, rx_c_X12_isIn_1 v hv, hp1]
  cases hb : tq_dg (tq_ch c n p) with
  | true => rw [if_pos rfl, if_neg (by decide), if_pos rfl]
  | false =>
    rw [px_i0, if_pos rfl, if_neg (show ¬ (false = true) by decide)]
    by_cases k : 0 ≤ v ∧ v ≤ 9
    · rw [if_pos k, if_neg (show ¬ (1 : Int32) = 0 by decide), if_pos k]
    · rw [if_neg k, if_pos rfl, if_neg k]
theorem rx_c_X12_number {c g : Nat → Int32} {n : Nat} (hT : TB c n) (hG : TG c g n) {p : Nat} (hp : p ≤ n) : ((tq_nw c n 0 9 p).1 = true → fx_c_X12_number 0 (nI n) (nI p) g = (nI (tq_nw c n 0 9 p).2.2, nI (tq_nw c n 0 9 p).2.1, -1)) ∧ ((tq_nw c n 0 9 p).1 = false → (fx_c_X12_number 0 (nI n) (nI p) g).2.2 = nI (tq_nw c n 0 9 p).2.1 ∧ ∃ y, y ≤ n ∧ (fx_c_X12_number 0 (nI n) (nI p) g).2.1 = nI y) := by
  have hn := hT.2
  have g5 := tq_pk_le (c := c) hp
  simp only [fx_c_X12_number, exc1, exc2, exl]
  rw [rx_c_X12_look hT hG hp]
  simp only []
  rw [rx_c_X12_isDigit hT hG g5]
  unfold tq_nw
  by_cases d0 : tq_dg (tq_ch c n (tq_pk c n p)) = true
  · have g0 := tq_dg_lt d0
    have h1 : ¬ tq_ch c n (tq_pk c n p) = -1 := fun e => by rw [e] at d0; exact absurd d0 (by decide)
    rw [if_neg h1, if_pos d0, if_pos d0, if_neg (show ¬ (1 : Int32) = 0 by decide), nI_1, rx_c_X12_isDigit hT hG (p := tq_pk c n p + 1) (by omega)]
    rw [tq_ch_in g0] at d0
    obtain ⟨d, hd, ed, vd⟩ := tq_dgn d0
    rw [tq_ch_in g0, vd, ed, (tq_val1 d hd).2]
    by_cases d1 : tq_dg (tq_ch c n (tq_pk c n p + 1)) = true
    · have g1 := tq_dg_lt d1
      rw [if_pos d1, if_pos d1, if_neg (show ¬ (1 : Int32) = 0 by decide), rx_c_X12_here hT hG g1, if_neg (tq_c_m1 hT), nI_1]
      rw [tq_ch_in g1] at d1
      obtain ⟨f, hf, ef, vf⟩ := tq_dgn d1
      rw [vf, ef, (tq_val2 d hd f hf).2, rx_c_X12_number_p67 hT hG (p := tq_pk c n p + 1 + 1) (by omega) (by omega) _ (by omega)]
      by_cases d2 : tq_dg (tq_ch c n (tq_pk c n p + 1 + 1)) = true
      · have g2 := tq_dg_lt d2
        rw [if_pos d2, if_pos d2]
        exact ⟨fun z => by (cases z), fun _ => ⟨rfl, _, by omega, rfl⟩⟩
      · rw [if_neg d2, if_neg d2]
        by_cases k : 0 ≤ 10 * d + f ∧ 10 * d + f ≤ 9
        · rw [if_pos k, if_pos k]
          exact ⟨fun _ => rfl, fun z => by cases z⟩
        · rw [if_neg k, if_neg k]
          exact ⟨fun z => by (cases z), fun _ => ⟨rfl, _, by omega, rfl⟩⟩
    · rw [if_neg d1, if_neg d1, if_pos rfl, rx_c_X12_number_p67 hT hG (p := tq_pk c n p + 1) (by omega) (by omega) _ (by omega), if_neg d1]
      by_cases k : 0 ≤ d ∧ d ≤ 9
      · rw [if_pos k, if_pos k]
        exact ⟨fun _ => rfl, fun z => by cases z⟩
      · rw [if_neg k, if_neg k]
        exact ⟨fun z => by (cases z), fun _ => ⟨rfl, _, by omega, rfl⟩⟩
  · rw [if_neg d0, if_neg d0, if_pos rfl]
    by_cases h1 : tq_ch c n (tq_pk c n p) = -1
    · rw [if_pos h1]
      exact ⟨fun z => by (cases z), fun _ => ⟨rfl, _, g5, rfl⟩⟩
    · rw [if_neg h1]
      exact ⟨fun z => by (cases z), fun _ => ⟨rfl, _, g5, rfl⟩⟩
theorem rx_c_X12_isIn_2 : ∀ t, t < 100 → fx_c_X12_isIn_2 (nI t).toInt64 = if 1 ≤ t ∧ t ≤ 4 then 1 else 0 := by decide +kernel
theorem rx_c_X12_number_1_p67 {c g : Nat → Int32} {n : Nat} (hT : TB c n) (hG : TG c g n) {p : Nat} (hp : p ≤ n) (h1 : 1 ≤ p) (v : Nat) (hv : v < 100) : fx_c_X12_number_1_p67 0 (nI n) g (nI v) (nI p) = if tq_dg (tq_ch c n p) then (0, nI p, nI p) else if 1 ≤ v ∧ v ≤ 4 then (nI v, nI p, -1) else (nI v, nI (p - 1), nI (p - 1)) := by
  have hp1 : nI p - 1 = nI (p - 1) := by obtain ⟨k, hk⟩ : ∃ k, p = k + 1 := ⟨p - 1, by omega⟩; rw [hk, nI_pred]; rfl
  simp only [fx_c_X12_number_1_p67, exc1, exl]
  rw [rx_c_X12_isDigit hT hG hp, rx_c_X12_isIn_2 v hv, hp1]
  cases hb : tq_dg (tq_ch c n p) with
  | true => rw [if_pos rfl, if_neg (by decide), if_pos rfl]
  | false =>
    rw [px_i0, if_pos rfl, if_neg (show ¬ (false = true) by decide)]
    by_cases k : 1 ≤ v ∧ v ≤ 4
    · rw [if_pos k, if_neg (show ¬ (1 : Int32) = 0 by decide), if_pos k]
    · rw [if_neg k, if_pos rfl, if_neg k]
theorem rx_c_X12_number_1 {c g : Nat → Int32} {n : Nat} (hT : TB c n) (hG : TG c g n) {p : Nat} (hp : p ≤ n) : ((tq_nw c n 1 4 p).1 = true → fx_c_X12_number_1 0 (nI n) (nI p) g = (nI (tq_nw c n 1 4 p).2.2, nI (tq_nw c n 1 4 p).2.1, -1)) ∧ ((tq_nw c n 1 4 p).1 = false → (fx_c_X12_number_1 0 (nI n) (nI p) g).2.2 = nI (tq_nw c n 1 4 p).2.1 ∧ ∃ y, y ≤ n ∧ (fx_c_X12_number_1 0 (nI n) (nI p) g).2.1 = nI y) := by
  have hn := hT.2
  have g5 := tq_pk_le (c := c) hp
  simp only [fx_c_X12_number_1, exc1, exc2, exl]
  rw [rx_c_X12_look hT hG hp]
  simp only []
  rw [rx_c_X12_isDigit hT hG g5]
  unfold tq_nw
  by_cases d0 : tq_dg (tq_ch c n (tq_pk c n p)) = true
  · have g0 := tq_dg_lt d0
    have h1 : ¬ tq_ch c n (tq_pk c n p) = -1 := fun e => by rw [e] at d0; exact absurd d0 (by decide)
    rw [if_neg h1, if_pos d0, if_pos d0, if_neg (show ¬ (1 : Int32) = 0 by decide), nI_1, rx_c_X12_isDigit hT hG (p := tq_pk c n p + 1) (by omega)]
    rw [tq_ch_in g0] at d0
    obtain ⟨d, hd, ed, vd⟩ := tq_dgn d0
    rw [tq_ch_in g0, vd, ed, (tq_val1 d hd).2]
    by_cases d1 : tq_dg (tq_ch c n (tq_pk c n p + 1)) = true
    · have g1 := tq_dg_lt d1
      rw [if_pos d1, if_pos d1, if_neg (show ¬ (1 : Int32) = 0 by decide), rx_c_X12_here hT hG g1, if_neg (tq_c_m1 hT), nI_1]
      rw [tq_ch_in g1] at d1
      obtain ⟨f, hf, ef, vf⟩ := tq_dgn d1
      rw [vf, ef, (tq_val2 d hd f hf).2, rx_c_X12_number_1_p67 hT hG (p := tq_pk c n p + 1 + 1) (by omega) (by omega) _ (by omega)]
      by_cases d2 : tq_dg (tq_ch c n (tq_pk c n p + 1 + 1)) = true
      · have g2 := tq_dg_lt d2
        rw [if_pos d2, if_pos d2]
        exact ⟨fun z => by (cases z), fun _ => ⟨rfl, _, by omega, rfl⟩⟩
      · rw [if_neg d2, if_neg d2]
        by_cases k : 1 ≤ 10 * d + f ∧ 10 * d + f ≤ 4
        · rw [if_pos k, if_pos k]
          exact ⟨fun _ => rfl, fun z => by cases z⟩
        · rw [if_neg k, if_neg k]
          exact ⟨fun z => by (cases z), fun _ => ⟨rfl, _, by omega, rfl⟩⟩
    · rw [if_neg d1, if_neg d1, if_pos rfl, rx_c_X12_number_1_p67 hT hG (p := tq_pk c n p + 1) (by omega) (by omega) _ (by omega), if_neg d1]
      by_cases k : 1 ≤ d ∧ d ≤ 4
      · rw [if_pos k, if_pos k]
        exact ⟨fun _ => rfl, fun z => by cases z⟩
      · rw [if_neg k, if_neg k]
        exact ⟨fun z => by (cases z), fun _ => ⟨rfl, _, by omega, rfl⟩⟩
  · rw [if_neg d0, if_neg d0, if_pos rfl]
    by_cases h1 : tq_ch c n (tq_pk c n p) = -1
    · rw [if_pos h1]
      exact ⟨fun z => by (cases z), fun _ => ⟨rfl, _, g5, rfl⟩⟩
    · rw [if_neg h1]
      exact ⟨fun z => by (cases z), fun _ => ⟨rfl, _, g5, rfl⟩⟩
theorem rx_c_X12_isIn_3 : ∀ t, t < 100 → fx_c_X12_isIn_3 (nI t).toInt64 = if 0 ≤ t ∧ t ≤ 3 then 1 else 0 := by decide +kernel
theorem rx_c_X12_number_2_p67 {c g : Nat → Int32} {n : Nat} (hT : TB c n) (hG : TG c g n) {p : Nat} (hp : p ≤ n) (h1 : 1 ≤ p) (v : Nat) (hv : v < 100) : fx_c_X12_number_2_p67 0 (nI n) g (nI v) (nI p) = if tq_dg (tq_ch c n p) then (0, nI p, nI p) else if 0 ≤ v ∧ v ≤ 3 then (nI v, nI p, -1) else (nI v, nI (p - 1), nI (p - 1)) := by
  have hp1 : nI p - 1 = nI (p - 1) := by obtain ⟨k, hk⟩ : ∃ k, p = k + 1 := ⟨p - 1, by omega⟩; rw [hk, nI_pred]; rfl
  simp only [fx_c_X12_number_2_p67, exc1, exl]
  rw [rx_c_X12_isDigit hT hG hp, rx_c_X12_isIn_3 v hv, hp1]
  cases hb : tq_dg (tq_ch c n p) with
  | true => rw [if_pos rfl, if_neg (by decide), if_pos rfl]
  | false =>
    rw [px_i0, if_pos rfl, if_neg (show ¬ (false = true) by decide)]
    by_cases k : 0 ≤ v ∧ v ≤ 3
    · rw [if_pos k, if_neg (show ¬ (1 : Int32) = 0 by decide), if_pos k]
    · rw [if_neg k, if_pos rfl, if_neg k]
theorem rx_c_X12_number_2 {c g : Nat → Int32} {n : Nat} (hT : TB c n) (hG : TG c g n) {p : Nat} (hp : p ≤ n) : ((tq_nw c n 0 3 p).1 = true → fx_c_X12_number_2 0 (nI n) (nI p) g = (nI (tq_nw c n 0 3 p).2.2, nI (tq_nw c n 0 3 p).2.1, -1)) ∧ ((tq_nw c n 0 3 p).1 = false → (fx_c_X12_number_2 0 (nI n) (nI p) g).2.2 = nI (tq_nw c n 0 3 p).2.1 ∧ ∃ y, y ≤ n ∧ (fx_c_X12_number_2 0 (nI n) (nI p) g).2.1 = nI y) := by
  have hn := hT.2
  have g5 := tq_pk_le (c := c) hp
  simp only [fx_c_X12_number_2, exc1, exc2, exl]
  rw [rx_c_X12_look hT hG hp]
  simp only []
  rw [rx_c_X12_isDigit hT hG g5]
  unfold tq_nw
  by_cases d0 : tq_dg (tq_ch c n (tq_pk c n p)) = true
  · have g0 := tq_dg_lt d0
    have h1 : ¬ tq_ch c n (tq_pk c n p) = -1 := fun e => by rw [e] at d0; exact absurd d0 (by decide)
    rw [if_neg h1, if_pos d0, if_pos d0, if_neg (show ¬ (1 : Int32) = 0 by decide), nI_1, rx_c_X12_isDigit hT hG (p := tq_pk c n p + 1) (by omega)]
    rw [tq_ch_in g0] at d0
    obtain ⟨d, hd, ed, vd⟩ := tq_dgn d0
    rw [tq_ch_in g0, vd, ed, (tq_val1 d hd).2]
    by_cases d1 : tq_dg (tq_ch c n (tq_pk c n p + 1)) = true
    · have g1 := tq_dg_lt d1
      rw [if_pos d1, if_pos d1, if_neg (show ¬ (1 : Int32) = 0 by decide), rx_c_X12_here hT hG g1, if_neg (tq_c_m1 hT), nI_1]
      rw [tq_ch_in g1] at d1
      obtain ⟨f, hf, ef, vf⟩ := tq_dgn d1
      rw [vf, ef, (tq_val2 d hd f hf).2, rx_c_X12_number_2_p67 hT hG (p := tq_pk c n p + 1 + 1) (by omega) (by omega) _ (by omega)]
      by_cases d2 : tq_dg (tq_ch c n (tq_pk c n p + 1 + 1)) = true
      · have g2 := tq_dg_lt d2
        rw [if_pos d2, if_pos d2]
        exact ⟨fun z => by (cases z), fun _ => ⟨rfl, _, by omega, rfl⟩⟩
      · rw [if_neg d2, if_neg d2]
        by_cases k : 0 ≤ 10 * d + f ∧ 10 * d + f ≤ 3
        · rw [if_pos k, if_pos k]
          exact ⟨fun _ => rfl, fun z => by cases z⟩
        · rw [if_neg k, if_neg k]
          exact ⟨fun z => by (cases z), fun _ => ⟨rfl, _, by omega, rfl⟩⟩
    · rw [if_neg d1, if_neg d1, if_pos rfl, rx_c_X12_number_2_p67 hT hG (p := tq_pk c n p + 1) (by omega) (by omega) _ (by omega), if_neg d1]
      by_cases k : 0 ≤ d ∧ d ≤ 3
      · rw [if_pos k, if_pos k]
        exact ⟨fun _ => rfl, fun z => by cases z⟩
      · rw [if_neg k, if_neg k]
        exact ⟨fun z => by (cases z), fun _ => ⟨rfl, _, by omega, rfl⟩⟩
  · rw [if_neg d0, if_neg d0, if_pos rfl]
    by_cases h1 : tq_ch c n (tq_pk c n p) = -1
    · rw [if_pos h1]
      exact ⟨fun z => by (cases z), fun _ => ⟨rfl, _, g5, rfl⟩⟩
    · rw [if_neg h1]
      exact ⟨fun z => by (cases z), fun _ => ⟨rfl, _, g5, rfl⟩⟩
theorem rx_c_X12_isIn_4 : ∀ t, t < 100 → fx_c_X12_isIn_4 (nI t).toInt64 = if 1 ≤ t ∧ t ≤ 12 then 1 else 0 := by decide +kernel
theorem rx_c_X12_number_3_p67 {c g : Nat → Int32} {n : Nat} (hT : TB c n) (hG : TG c g n) {p : Nat} (hp : p ≤ n) (h1 : 1 ≤ p) (v : Nat) (hv : v < 100) : fx_c_X12_number_3_p67 0 (nI n) g (nI v) (nI p) = if tq_dg (tq_ch c n p) then (0, nI p, nI p) else if 1 ≤ v ∧ v ≤ 12 then (nI v, nI p, -1) else (nI v, nI (p - 1), nI (p - 1)) := by
  have hp1 : nI p - 1 = nI (p - 1) := by obtain ⟨k, hk⟩ : ∃ k, p = k + 1 := ⟨p - 1, by omega⟩; rw [hk, nI_pred]; rfl
  simp only [fx_c_X12_number_3_p67, exc1, exl]
  rw [rx_c_X12_isDigit hT hG hp, rx_c_X12_isIn_4 v hv, hp1]
  cases hb : tq_dg (tq_ch c n p) with
  | true => rw [if_pos rfl, if_neg (by decide), if_pos rfl]
  | false =>
    rw [px_i0, if_pos rfl, if_neg (show ¬ (false = true) by decide)]
    by_cases k : 1 ≤ v ∧ v ≤ 12
    · rw [if_pos k, if_neg (show ¬ (1 : Int32) = 0 by decide), if_pos k]
    · rw [if_neg k, if_pos rfl, if_neg k]
theorem rx_c_X12_number_3 {c g : Nat → Int32} {n : Nat} (hT : TB c n) (hG : TG c g n) {p : Nat} (hp : p ≤ n) : ((tq_nw c n 1 12 p).1 = true → fx_c_X12_number_3 0 (nI n) (nI p) g = (nI (tq_nw c n 1 12 p).2.2, nI (tq_nw c n 1 12 p).2.1, -1)) ∧ ((tq_nw c n 1 12 p).1 = false → (fx_c_X12_number_3 0 (nI n) (nI p) g).2.2 = nI (tq_nw c n 1 12 p).2.1 ∧ ∃ y, y ≤ n ∧ (fx_c_X12_number_3 0 (nI n) (nI p) g).2.1 = nI y) := by
  have hn := hT.2
  have g5 := tq_pk_le (c := c) hp
  simp only [fx_c_X12_number_3, exc1, exc2, exl]
  rw [rx_c_X12_look hT hG hp]
  simp only []
  rw [rx_c_X12_isDigit hT hG g5]
  unfold tq_nw
  by_cases d0 : tq_dg (tq_ch c n (tq_pk c n p)) = true
  · have g0 := tq_dg_lt d0
    have h1 : ¬ tq_ch c n (tq_pk c n p) = -1 := fun e => by rw [e] at d0; exact absurd d0 (by decide)
    rw [if_neg h1, if_pos d0, if_pos d0, if_neg (show ¬ (1 : Int32) = 0 by decide), nI_1, rx_c_X12_isDigit hT hG (p := tq_pk c n p + 1) (by omega)]
    rw [tq_ch_in g0] at d0
    obtain ⟨d, hd, ed, vd⟩ := tq_dgn d0
    rw [tq_ch_in g0, vd, ed, (tq_val1 d hd).2]
    by_cases d1 : tq_dg (tq_ch c n (tq_pk c n p + 1)) = true
    · have g1 := tq_dg_lt d1
      rw [if_pos d1, if_pos d1, if_neg (show ¬ (1 : Int32) = 0 by decide), rx_c_X12_here hT hG g1, if_neg (tq_c_m1 hT), nI_1]
      rw [tq_ch_in g1] at d1
      obtain ⟨f, hf, ef, vf⟩ := tq_dgn d1
      rw [vf, ef, (tq_val2 d hd f hf).2, rx_c_X12_number_3_p67 hT hG (p := tq_pk c n p + 1 + 1) (by omega) (by omega) _ (by omega)]
      by_cases d2 : tq_dg (tq_ch c n (tq_pk c n p + 1 + 1)) = true
      · have g2 := tq_dg_lt d2
        rw [if_pos d2, if_pos d2]
        exact ⟨fun z => by (cases z), fun _ => ⟨rfl, _, by omega, rfl⟩⟩
      · rw [if_neg d2, if_neg d2]
        by_cases k : 1 ≤ 10 * d + f ∧ 10 * d + f ≤ 12
        · rw [if_pos k, if_pos k]
          exact ⟨fun _ => rfl, fun z => by cases z⟩
        · rw [if_neg k, if_neg k]
          exact ⟨fun z => by (cases z), fun _ => ⟨rfl, _, by omega, rfl⟩⟩
    · rw [if_neg d1, if_neg d1, if_pos rfl, rx_c_X12_number_3_p67 hT hG (p := tq_pk c n p + 1) (by omega) (by omega) _ (by omega), if_neg d1]
      by_cases k : 1 ≤ d ∧ d ≤ 12
      · rw [if_pos k, if_pos k]
        exact ⟨fun _ => rfl, fun z => by cases z⟩
      · rw [if_neg k, if_neg k]
        exact ⟨fun z => by (cases z), fun _ => ⟨rfl, _, by omega, rfl⟩⟩
  · rw [if_neg d0, if_neg d0, if_pos rfl]
    by_cases h1 : tq_ch c n (tq_pk c n p) = -1
    · rw [if_pos h1]
      exact ⟨fun z => by (cases z), fun _ => ⟨rfl, _, g5, rfl⟩⟩
    · rw [if_neg h1]
      exact ⟨fun z => by (cases z), fun _ => ⟨rfl, _, g5, rfl⟩⟩
theorem rx_c_X12_isIn_5 : ∀ t, t < 100 → fx_c_X12_isIn_5 (nI t).toInt64 = if 1 ≤ t ∧ t ≤ 20 then 1 else 0 := by decide +kernel
theorem rx_c_X12_number_4_p67 {c g : Nat → Int32} {n : Nat} (hT : TB c n) (hG : TG c g n) {p : Nat} (hp : p ≤ n) (h1 : 1 ≤ p) (v : Nat) (hv : v < 100) : fx_c_X12_number_4_p67 0 (nI n) g (nI v) (nI p) = if tq_dg (tq_ch c n p) then (0, nI p, nI p) else if 1 ≤ v ∧ v ≤ 20 then (nI v, nI p, -1) else (nI v, nI (p - 1), nI (p - 1)) := by
  have hp1 : nI p - 1 = nI (p - 1) := by obtain ⟨k, hk⟩ : ∃ k, p = k + 1 := ⟨p - 1, by omega⟩; rw [hk, nI_pred]; rfl
  simp only [fx_c_X12_number_4_p67, exc1, exl]
  rw [rx_c_X12_isDigit hT hG hp, rx_c_X12_isIn_5 v hv, hp1]
  cases hb : tq_dg (tq_ch c n p) with
  | true => rw [if_pos rfl, if_neg (by decide), if_pos rfl]
  | false =>
    rw [px_i0, if_pos rfl, if_neg (show ¬ (false = true) by decide)]
    by_cases k : 1 ≤ v ∧ v ≤ 20
    · rw [if_pos k, if_neg (show ¬ (1 : Int32) = 0 by decide), if_pos k]
    · rw [if_neg k, if_pos rfl, if_neg k]
theorem rx_c_X12_number_4 {c g : Nat → Int32} {n : Nat} (hT : TB c n) (hG : TG c g n) {p : Nat} (hp : p ≤ n) : ((tq_nw c n 1 20 p).1 = true → fx_c_X12_number_4 0 (nI n) (nI p) g = (nI (tq_nw c n 1 20 p).2.2, nI (tq_nw c n 1 20 p).2.1, -1)) ∧ ((tq_nw c n 1 20 p).1 = false → (fx_c_X12_number_4 0 (nI n) (nI p) g).2.2 = nI (tq_nw c n 1 20 p).2.1 ∧ ∃ y, y ≤ n ∧ (fx_c_X12_number_4 0 (nI n) (nI p) g).2.1 = nI y) := by
  have hn := hT.2
  have g5 := tq_pk_le (c := c) hp
  simp only [fx_c_X12_number_4, exc1, exc2, exl]
  rw [rx_c_X12_look hT hG hp]
  simp only []
  rw [rx_c_X12_isDigit hT hG g5]
  unfold tq_nw
  by_cases d0 : tq_dg (tq_ch c n (tq_pk c n p)) = true
  · have g0 := tq_dg_lt d0
    have h1 : ¬ tq_ch c n (tq_pk c n p) = -1 := fun e => by rw [e] at d0; exact absurd d0 (by decide)
    rw [if_neg h1, if_pos d0, if_pos d0, if_neg (show ¬ (1 : Int32) = 0 by decide), nI_1, rx_c_X12_isDigit hT hG (p := tq_pk c n p + 1) (by omega)]
    rw [tq_ch_in g0] at d0
    obtain ⟨d, hd, ed, vd⟩ := tq_dgn d0
    rw [tq_ch_in g0, vd, ed, (tq_val1 d hd).2]
    by_cases d1 : tq_dg (tq_ch c n (tq_pk c n p + 1)) = true
    · have g1 := tq_dg_lt d1
      rw [if_pos d1, if_pos d1, if_neg (show ¬ (1 : Int32) = 0 by decide), rx_c_X12_here hT hG g1, if_neg (tq_c_m1 hT), nI_1]
      rw [tq_ch_in g1] at d1
      obtain ⟨f, hf, ef, vf⟩ := tq_dgn d1
      rw [vf, ef, (tq_val2 d hd f hf).2, rx_c_X12_number_4_p67 hT hG (p := tq_pk c n p + 1 + 1) (by omega) (by omega) _ (by omega)]
      by_cases d2 : tq_dg (tq_ch c n (tq_pk c n p + 1 + 1)) = true
      · have g2 := tq_dg_lt d2
        rw [if_pos d2, if_pos d2]
        exact ⟨fun z => by (cases z), fun _ => ⟨rfl, _, by omega, rfl⟩⟩
      · rw [if_neg d2, if_neg d2]
        by_cases k : 1 ≤ 10 * d + f ∧ 10 * d + f ≤ 20
        · rw [if_pos k, if_pos k]
          exact ⟨fun _ => rfl, fun z => by cases z⟩
        · rw [if_neg k, if_neg k]
          exact ⟨fun z => by (cases z), fun _ => ⟨rfl, _, by omega, rfl⟩⟩
    · rw [if_neg d1, if_neg d1, if_pos rfl, rx_c_X12_number_4_p67 hT hG (p := tq_pk c n p + 1) (by omega) (by omega) _ (by omega), if_neg d1]
      by_cases k : 1 ≤ d ∧ d ≤ 20
      · rw [if_pos k, if_pos k]
        exact ⟨fun _ => rfl, fun z => by cases z⟩
      · rw [if_neg k, if_neg k]
        exact ⟨fun z => by (cases z), fun _ => ⟨rfl, _, by omega, rfl⟩⟩
  · rw [if_neg d0, if_neg d0, if_pos rfl]
    by_cases h1 : tq_ch c n (tq_pk c n p) = -1
    · rw [if_pos h1]
      exact ⟨fun z => by (cases z), fun _ => ⟨rfl, _, g5, rfl⟩⟩
    · rw [if_neg h1]
      exact ⟨fun z => by (cases z), fun _ => ⟨rfl, _, g5, rfl⟩⟩
