theorem tq_md2 {x : Int32} (h : tq_md x = true) : x = 42 ∨ x = 47 := by
  unfold tq_md at h
  simpa [Bool.or_eq_true] using h
theorem tq_as2 {x : Int32} (h : tq_as x = true) : x = 43 ∨ x = 45 := by
  unfold tq_as at h
  simpa [Bool.or_eq_true] using h
/-- the other tape: the same bytes, with a sign -/
def TG (c g : Nat → Int32) (n : Nat) : Prop := ∀ i, i < n → g i = (c i).toInt8.toInt32
theorem rx_by : ∀ j, j < 256 → ((nI j).toInt8.toInt32 &&& 255 = nI j) ∧ ((nI j).toInt8.toInt32 = 32 ↔ nI j = 32) ∧ (((nI j).toInt8.toInt32 < 48 ∨ 57 < (nI j).toInt8.toInt32) ↔ tq_dg (nI j) = false) := by decide +kernel
theorem rx_c {c g : Nat → Int32} {n : Nat} (hT : TB c n) (hG : TG c g n) {i : Nat} (hi : i < n) : (g i &&& 255 = c i) ∧ (g i = 32 ↔ c i = 32) ∧ ((g i < 48 ∨ 57 < g i) ↔ tq_dg (c i) = false) := by
  obtain ⟨j, hj, e⟩ := RG_nI (hT.1 i) (by decide)
  have h := rx_by j hj
  rw [← e] at h
  rw [hG i hi]
  exact h
theorem rx_0 (p : Nat) : (0 : Int32) + nI p = nI p := Int32.zero_add _
theorem fs_c_X12_look_p0 (h0_f8 : Int32) (h0_f9 : Int32) (h0_5c : Nat → Int32) (F : Nat) (j0_h0_f10 : Int32) : fx_c_X12_look_p0 h0_f8 h0_f9 h0_5c (F + 1) j0_h0_f10 = ((if j0_h0_f10 = j0_h0_f10 then (if h0_f9 ≤ j0_h0_f10 then (if h0_f9 ≤ j0_h0_f10 then ((-1), j0_h0_f10) else (default)) else (exl (h0_f8 + j0_h0_f10) fun (x_11 : Int32) => (exl (h0_5c (x_11 : Int32).toNatClampNeg) fun (x_13 : Int32) => (if x_13 = 32 then (exl (j0_h0_f10 + 1) fun (x_24 : Int32) => ((fx_c_X12_look_p0 h0_f8 h0_f9 h0_5c F) x_24)) else (if h0_f9 ≤ j0_h0_f10 then (default) else (exl (x_13 &&& 255) fun (x_21 : Int32) => (x_21, j0_h0_f10))))))) else default) : Int32 × Int32) := rfl
theorem rx_c_X12_look_p0 {c g : Nat → Int32} {n : Nat} (hT : TB c n) (hG : TG c g n) : ∀ F p, p ≤ n → n < p + F → fx_c_X12_look_p0 0 (nI n) g F (nI p) = (tq_ch c n (tq_pk c n p), nI (tq_pk c n p)) := by
  have hn := hT.2
  intro F
  induction F with
  | zero => intro p h1 h2; omega
  | succ F ih =>
    intro p h1 h2
    rw [fs_c_X12_look_p0, if_pos rfl]
    simp only [exl]
    rw [rx_0, px_clamp (p := p) (by omega), nI_1]
    by_cases h : p < n
    · have hle := nI_ge h (by omega)
      obtain ⟨k1, k2, k3⟩ := rx_c hT hG h
      rw [if_neg hle, if_neg hle]
      by_cases gg : c p = 32
      · rw [if_pos (k2.mpr gg), ih (p + 1) (by omega) (by omega), tq_pk_eq c n p, if_pos ⟨h, gg⟩]
      · rw [if_neg (fun z => gg (k2.mp z)), tq_pk_eq c n p, if_neg (fun q => gg q.2), tq_ch_in h, k1]
    · have hle : nI n ≤ nI p := nI_le (by omega) (by omega)
      rw [if_pos hle, if_pos hle, tq_pk_eq c n p, if_neg (fun q => h q.1), tq_ch_m1 (by omega)]
theorem rx_c_X12_look {c g : Nat → Int32} {n : Nat} (hT : TB c n) (hG : TG c g n) {p : Nat} (hp : p ≤ n) : fx_c_X12_look 0 (nI n) (nI p) g = (tq_ch c n (tq_pk c n p), nI (tq_pk c n p)) := rx_c_X12_look_p0 hT hG exF p hp (by have := hT.2; unfold exF; omega)
theorem rx_c_X12_look_1 {c g : Nat → Int32} {n : Nat} (hT : TB c n) (hG : TG c g n) {p : Nat} (hp : p ≤ n) (hb : tq_pk c n p = p) : fx_c_X12_look_1 0 (nI n) (nI p) g = tq_ch c n p := by
  have hn := hT.2
  simp only [fx_c_X12_look_1, fx_c_X12_look_1_p0, exl]
  rw [rx_0, px_clamp (p := p) (by omega)]
  by_cases h : p < n
  · have hle := nI_ge h (by omega)
    obtain ⟨k1, k2, k3⟩ := rx_c hT hG h
    have gg : ¬ c p = 32 := fun z => by
      have e := tq_pk_eq c n p
      rw [if_pos ⟨h, z⟩] at e
      have := tq_pk_ge (c := c) (n := n) (p := p + 1) (by omega)
      omega
    rw [if_neg hle, if_neg (fun z => gg (k2.mp z)), if_neg hle, k1, tq_ch_in h]
  · have hle : nI n ≤ nI p := nI_le (by omega) (by omega)
    rw [if_pos hle, if_pos hle, tq_ch_m1 (by omega)]
theorem rx_c_X12_isDigit {c g : Nat → Int32} {n : Nat} (hT : TB c n) (hG : TG c g n) {p : Nat} (hp : p ≤ n) : fx_c_X12_isDigit 0 (nI n) (nI p) g = if tq_dg (tq_ch c n p) = true then 1 else 0 := by
  have hn := hT.2
  simp only [fx_c_X12_isDigit, exl]
  rw [rx_0, px_clamp (p := p) (by omega)]
  by_cases h : p < n
  · have hle := nI_ge h (by omega)
    obtain ⟨k1, k2, k3⟩ := rx_c hT hG h
    rw [if_neg hle, tq_ch_in h]
    cases hb : tq_dg (c p) with
    | true =>
      have k4 : ¬ (g p < 48 ∨ 57 < g p) := fun z => by
        have z := k3.mp z
        rw [hb] at z
        cases z
      rw [if_neg (fun z => k4 (Or.inl z)), if_neg (fun z => k4 (Or.inr z)), if_pos rfl]
    | false =>
      have k4 := k3.mpr hb
      rw [if_neg (show ¬ (false = true) by decide)]
      by_cases k5 : g p < 48
      · rw [if_pos k5]
      · rw [if_neg k5, if_pos (k4.resolve_left k5)]
  · have hle : nI n ≤ nI p := nI_le (by omega) (by omega)
    rw [if_pos hle, tq_ch_m1 (by omega), if_neg (by decide)]
theorem rx_c_X12_isDigit_1 {c g : Nat → Int32} {n : Nat} (hT : TB c n) (hG : TG c g n) {p : Nat} (hp : p ≤ n) : fx_c_X12_isDigit_1 0 (nI n) (nI p) g = if tq_dg (tq_ch c n p) = true then 1 else 0 := by
  have hn := hT.2
  simp only [fx_c_X12_isDigit_1, exl]
  rw [rx_0, px_clamp (p := p) (by omega)]
  by_cases h : p < n
  · have hle := nI_ge h (by omega)
    obtain ⟨k1, k2, k3⟩ := rx_c hT hG h
    rw [if_neg hle, tq_ch_in h]
    cases hb : tq_dg (c p) with
    | true =>
      have k4 : ¬ (g p < 48 ∨ 57 < g p) := fun z => by
        have z := k3.mp z
        rw [hb] at z
        cases z
      rw [if_neg (fun z => k4 (Or.inl z)), if_neg (fun z => k4 (Or.inr z)), if_pos rfl]
    | false =>
      have k4 := k3.mpr hb
      rw [if_neg (show ¬ (false = true) by decide)]
      by_cases k5 : g p < 48
      · rw [if_pos k5]
      · rw [if_neg k5, if_pos (k4.resolve_left k5)]
  · have hle : nI n ≤ nI p := nI_le (by omega) (by omega)
    rw [if_pos hle, tq_ch_m1 (by omega), if_neg (by decide)]
theorem rx_let : ∀ j, j < 256 → (fx_c_X12_isAmong_3 (nI j) = 0 ∧ tq_lt (nI j) = false) ∨ (fx_c_X12_isAmong_3 (nI j) = 1 ∧ tq_lt (nI j) = true) := by decide +kernel
theorem rx_ss {x : Int32} : fx_c_X12_isSign_1 x = if tq_cmp x = true then 1 else 0 := by
  have e : fx_c_X12_isSign_1 x = if x = 61 then 1 else if x = 60 then 1 else if x = 62 then 1 else 0 := rfl
  by_cases h1 : x = 61
  · rw [h1]; rfl
  · by_cases h2 : x = 60
    · rw [h2]; rfl
    · by_cases h3 : x = 62
      · rw [h3]; rfl
      · have k : ¬ tq_cmp x = true := fun z => by rcases tq_cmp3 z with z | z | z <;> contradiction
        rw [e, if_neg h1, if_neg h2, if_neg h3, if_neg k]
theorem CS_seq {n : Nat} {s1 : Bool × Nat} {f : Nat → Bool × Nat} {a1 f1 a2 f2 : Int32} (hn : n ≤ 240) (h1 : CS n (-1) s1 a1 f1) (hs : s1.2 ≤ n) (ht : ∀ q, q ≤ n → a1 = nI q → f1 = -1 → s1.1 = true → q = s1.2 → CS n (-1) (f q) a2 f2) (hf : ¬ f1 = -1 → a2 = a1 ∧ f2 = f1) : CS n (-1) (tq_bind s1 f) a2 f2 := by
  obtain ⟨⟨q1, hq1, e1⟩, b1, c1, d1⟩ := h1
  cases hb : s1.1 with
  | true =>
    obtain ⟨e2, e3⟩ := c1 rfl hb
    rw [tq_bind_t hb]
    exact ht s1.2 hs e2 e3 hb rfl
  | false =>
    have e2 := d1 rfl hb
    obtain ⟨e3, e4⟩ := hf (by rw [e2]; exact nI_m1 (by omega))
    rw [tq_bind_f hb, e3, e4, e2, e1]
    exact ⟨⟨q1, hq1, rfl⟩, fun k => absurd rfl k, fun _ z => tq_ft z, fun _ _ => rfl⟩
theorem px_i1 : (if true = true then (1 : Int32) else 0) = 1 := rfl
theorem px_i0 : (if false = true then (1 : Int32) else 0) = 0 := rfl
theorem CS_t {n q : Nat} (hq : q ≤ n) : CS n (-1) (true, q) (nI q) (-1) := CS_ok hq
theorem CS_f {n q : Nat} (hq : q ≤ n) : CS n (-1) (false, q) (nI q) (nI q) := ⟨⟨q, hq, rfl⟩, fun k => absurd rfl k, fun _ z => tq_ft z, fun _ _ => rfl⟩
theorem rx_c_X12_takes {c g : Nat → Int32} {n : Nat} (hT : TB c n) (hG : TG c g n) {p : Nat} (hp : p ≤ n) {x : Int32} (hx : ¬ x = -1) : fx_c_X12_takes x 0 (nI n) (nI p) g = if tq_ch c n (tq_pk c n p) = x then (1, nI (tq_pk c n p + 1), -1) else (0, nI (tq_pk c n p), nI (tq_pk c n p)) := by
  simp only [fx_c_X12_takes, fx_c_X12_takes_p16, exc1, exc2, exl]
  rw [rx_c_X12_look hT hG hp]
  by_cases h1 : tq_ch c n (tq_pk c n p) = -1
  · rw [if_pos h1, if_neg (fun z => hx z.symm), if_neg (fun z => hx (z.symm.trans h1))]
  · rw [if_neg h1, nI_1]
theorem rx_c_X12_takes_1 {c g : Nat → Int32} {n : Nat} (hT : TB c n) (hG : TG c g n) {p : Nat} (hp : p ≤ n) {x : Int32} (hx : ¬ x = -1) : fx_c_X12_takes_1 x 0 (nI n) (nI p) g = if tq_ch c n (tq_pk c n p) = x then (1, nI (tq_pk c n p + 1), -1) else (0, nI (tq_pk c n p), nI (tq_pk c n p)) := by
  simp only [fx_c_X12_takes_1, fx_c_X12_takes_1_p16, exc1, exc2, exl]
  rw [rx_c_X12_look hT hG hp]
  by_cases h1 : tq_ch c n (tq_pk c n p) = -1
  · rw [if_pos h1, if_neg (fun z => hx z.symm), if_neg (fun z => hx (z.symm.trans h1))]
  · rw [if_neg h1, nI_1]
theorem rx_c_X12_takes_4 {c g : Nat → Int32} {n : Nat} (hT : TB c n) (hG : TG c g n) {p : Nat} (hp : p ≤ n) {x : Int32} (hx : ¬ x = -1) : fx_c_X12_takes_4 x 0 (nI n) (nI p) g = if tq_ch c n (tq_pk c n p) = x then (1, nI (tq_pk c n p + 1), -1) else (0, nI (tq_pk c n p), nI (tq_pk c n p)) := by
  simp only [fx_c_X12_takes_4, fx_c_X12_takes_4_p16, exc1, exc2, exl]
  rw [rx_c_X12_look hT hG hp]
  by_cases h1 : tq_ch c n (tq_pk c n p) = -1
  · rw [if_pos h1, if_neg (fun z => hx z.symm), if_neg (fun z => hx (z.symm.trans h1))]
  · rw [if_neg h1, nI_1]
theorem fs_c_X12_atom_6_p90 (h0_f8 : Int32) (h0_f9 : Int32) (h0_5c : Nat → Int32) (F : Nat) (j90_l3 : Int32) (j90_l2 : Int32) (j90_h0_f10 : Int32) : fx_c_X12_atom_6_p90 h0_f8 h0_f9 h0_5c (F + 1) j90_l3 j90_l2 j90_h0_f10 = ((if j90_l3 = j90_l3 then (exc1 (fx_c_X12_isDigit h0_f8 h0_f9 j90_h0_f10 h0_5c) fun (r_1 : Int32) => (if r_1 = 0 then (j90_l2, j90_h0_f10, (-1)) else (if j90_l3 = 4 then (exc1 (fx_c_X12_fails) fun (r_27 : Int32) => (0, j90_h0_f10, j90_h0_f10)) else (exl (10 * j90_l2) fun (x_16 : Int32) => (exl (h0_f8 + j90_h0_f10) fun (x_17 : Int32) => (exl (h0_5c (x_17 : Int32).toNatClampNeg) fun (x_19 : Int32) => (exl (x_16 + x_19) fun (x_20 : Int32) => (exl (x_20 - 48) fun (x_21 : Int32) => (exl (j90_h0_f10 + 1) fun (x_22 : Int32) => (exl (j90_l3 + 1) fun (x_25 : Int32) => ((fx_c_X12_atom_6_p90 h0_f8 h0_f9 h0_5c F) x_25 x_21 x_22))))))))))) else default) : Int32 × Int32 × Int32) := rfl
theorem rx_c_X12_atom_6_p90 {c g : Nat → Int32} {n : Nat} (hT : TB c n) (hG : TG c g n) : ∀ (F j : Nat) (v : Int32) (p : Nat), p ≤ n → j ≤ 4 → 4 < j + F → CS n (-1) (tq_ds c n (4 - j) p) (fx_c_X12_atom_6_p90 0 (nI n) g F (nI j) v (nI p)).2.1 (fx_c_X12_atom_6_p90 0 (nI n) g F (nI j) v (nI p)).2.2 := by
  have hn := hT.2
  intro F
  induction F with
  | zero => intro j v p h1 h2 h3; omega
  | succ F ih =>
    intro j v p h1 h2 h3
    rw [fs_c_X12_atom_6_p90, if_pos rfl]
    simp only [exc1, exl]
    rw [rx_c_X12_isDigit hT hG h1]
    cases hb : tq_dg (tq_ch c n p) with
    | false =>
      rw [px_i0, if_pos rfl]
      have e : tq_ds c n (4 - j) p = (true, p) := by
        cases hj : 4 - j with
        | zero => show (if tq_dg (tq_ch c n p) then (false, p) else (true, p)) = _; rw [hb]; rfl
        | succ k => show (if tq_dg (tq_ch c n p) then tq_ds c n k (p + 1) else (true, p)) = _; rw [hb]; rfl
      rw [e]
      exact CS_t h1
    | true =>
      have g4 := tq_dg_lt hb
      rw [px_i1, if_neg (show ¬ (1 : Int32) = 0 by decide)]
      by_cases hj : j = 4
      · subst hj
        rw [if_pos (show nI 4 = 4 from rfl)]
        have e : tq_ds c n (4 - 4) p = (false, p) := by show (if tq_dg (tq_ch c n p) then (false, p) else (true, p)) = _; rw [hb]; rfl
        rw [e]
        exact CS_f h1
      · have h4 : ¬ nI j = 4 := fun z => hj ((nI_eq (a := j) (b := 4) (by omega) (by omega)).mp z)
        obtain ⟨k, hk⟩ : ∃ k, 4 - j = k + 1 := ⟨3 - j, by omega⟩
        have e : tq_ds c n (4 - j) p = tq_ds c n (4 - (j + 1)) (p + 1) := by
          have hk2 : 4 - (j + 1) = k := by omega
          rw [hk, hk2]
          show (if tq_dg (tq_ch c n p) then tq_ds c n k (p + 1) else (true, p)) = _
          rw [hb]
          rfl
        rw [if_neg h4, e, nI_1, nI_1]
        exact ih (j + 1) _ (p + 1) (by omega) (by omega) (by omega)
theorem rx_c_X12_atom_6 {c g : Nat → Int32} {n : Nat} (hT : TB c n) (hG : TG c g n) {p : Nat} (hp : p ≤ n) (L : Nat → Int32) : CS n (-1) (tq_atom c n (tq_S c n 0) p) (fx_c_X12_atom_6 0 (nI n) (nI p) g L).2.1 (fx_c_X12_atom_6 0 (nI n) (nI p) g L).2.2 := by
  have hn := hT.2
  have g3 := tq_pk_ge (c := c) hp
  have g5 := tq_pk_le (c := c) hp
  have hpp := tq_pk_pk (c := c) hp
  simp only [fx_c_X12_atom_6, exc1, exc2, exc3, exc4, exl]
  rw [rx_c_X12_look hT hG hp]
  simp only []
  have hd := rx_c_X12_isDigit hT hG g5
  have h86 : tq_dg (tq_ch c n (tq_pk c n p)) = false → fx_c_X12_atom_6_p86 0 (nI n) g (nI (tq_pk c n p)) (nI (tq_pk c n p)) = (0, nI (tq_pk c n p), nI (tq_pk c n p)) := fun hb => by
    simp only [fx_c_X12_atom_6_p86, fx_c_X12_atom_6_p90b, exc1]
    rw [rx_c_X12_isDigit_1 hT hG g5, hb, px_i0, if_pos rfl]
  by_cases h1 : tq_ch c n (tq_pk c n p) = -1
  · have hb : tq_dg (tq_ch c n (tq_pk c n p)) = false := by rw [h1]; decide
    have es : tq_atom c n (tq_S c n 0) p = (false, tq_pk c n p) := by unfold tq_atom; rw [if_neg (by rw [h1]; decide), if_neg (by rw [h1]; decide)]; unfold tq_nm; rw [if_neg (by rw [hb]; decide)]
    rw [if_pos h1, hd, hb, px_i0, if_pos rfl, h86 hb, es]
    exact CS_f g5
  · obtain ⟨j, hj, ej⟩ := RG_nI (tq_ch_RG0 hT h1) (by decide)
    have hl := rx_let j hj
    rw [← ej] at hl
    rw [if_neg h1]
    rcases hl with ⟨i1, i2⟩ | ⟨i1, i2⟩
    · rw [i1, if_pos rfl]
      by_cases h91 : tq_ch c n (tq_pk c n p) = 91
      · have es : tq_atom c n (tq_S c n 0) p = (false, tq_pk c n p) := by unfold tq_atom; rw [if_neg (by rw [i2]; decide), if_pos h91]; rfl
        rw [if_pos h91, es]
        exact CS_f g5
      · rw [if_neg h91, hd]
        cases hb : tq_dg (tq_ch c n (tq_pk c n p)) with
        | false =>
          have es : tq_atom c n (tq_S c n 0) p = (false, tq_pk c n p) := by unfold tq_atom; rw [if_neg (by rw [i2]; decide), if_neg h91]; unfold tq_nm; rw [if_neg (by rw [hb]; decide)]
          rw [px_i0, if_pos rfl, h86 hb, es]
          exact CS_f g5
        | true =>
          have es : tq_atom c n (tq_S c n 0) p = tq_ds c n (4 - 0) (tq_pk c n p) := by
            unfold tq_atom
            rw [if_neg (by rw [i2]; decide), if_neg h91]
            unfold tq_nm
            rw [if_pos hb]
            show _ = (if tq_dg (tq_ch c n (tq_pk c n p)) then tq_ds c n 3 (tq_pk c n p + 1) else (true, tq_pk c n p))
            rw [if_pos hb]
          rw [px_i1, if_neg (show ¬ (1 : Int32) = 0 by decide), es]
          exact rx_c_X12_atom_6_p90 hT hG exF 0 0 (tq_pk c n p) g5 (by omega) (by have := hT.2; unfold exF; omega)
    · have g4 := tq_A_lt tq_lt_m1 i2
      have es : tq_atom c n (tq_S c n 0) p = (true, tq_pk c n p + 1) := by unfold tq_atom; rw [if_pos i2]
      rw [i1, if_neg (by decide), es, nI_1]
      exact CS_t (by omega)
theorem fs_c_X12_term_6_p5 (h0_f8 : Int32) (h0_f9 : Int32) (h0_5c : Nat → Int32) (h0_4c : Nat → Int32) (F : Nat) (j5_l1 : Int32) (j5_h0_f10 : Int32) : fx_c_X12_term_6_p5 h0_f8 h0_f9 h0_5c h0_4c (F + 1) j5_l1 j5_h0_f10 = ((if j5_l1 = j5_l1 then (exc2 (fx_c_X12_look h0_f8 h0_f9 j5_h0_f10 h0_5c) fun (r_70 : Int32) (x_71 : Int32) => (if r_70 = (-1) then (exc2 (fx_c_X12_look h0_f8 h0_f9 x_71 h0_5c) fun (r_86 : Int32) (x_87 : Int32) => (if r_86 = (-1) then (j5_l1, x_87, (-1)) else (if r_86 = 47 then (exc1 (fx_c_X12_look_1 h0_f8 h0_f9 x_87 h0_5c) fun (r_105 : Int32) => (if r_105 = (-1) then (default) else (if r_105 = 42 then (fx_c_X12_term_6_p45b h0_f8 h0_f9 h0_5c h0_4c j5_l1 (fx_c_X12_term_6_p5 h0_f8 h0_f9 h0_5c h0_4c F) x_87) else (fx_c_X12_term_6_p45 h0_f8 h0_f9 h0_5c h0_4c j5_l1 (fx_c_X12_term_6_p5 h0_f8 h0_f9 h0_5c h0_4c F) x_87)))) else (j5_l1, x_87, (-1))))) else (if r_70 = 42 then (exc1 (fx_c_X12_look_1 h0_f8 h0_f9 x_71 h0_5c) fun (r_122 : Int32) => (if r_122 = (-1) then (default) else (if r_122 = 42 then (fx_c_X12_term_6_p45b h0_f8 h0_f9 h0_5c h0_4c j5_l1 (fx_c_X12_term_6_p5 h0_f8 h0_f9 h0_5c h0_4c F) x_71) else (fx_c_X12_term_6_p45 h0_f8 h0_f9 h0_5c h0_4c j5_l1 (fx_c_X12_term_6_p5 h0_f8 h0_f9 h0_5c h0_4c F) x_71)))) else (exc1 (fx_c_X12_look_1 h0_f8 h0_f9 x_71 h0_5c) fun (r_136 : Int32) => (if r_136 = (-1) then (default) else (if r_136 = 47 then (exc1 (fx_c_X12_look_1 h0_f8 h0_f9 x_71 h0_5c) fun (r_150 : Int32) => (if r_150 = (-1) then (default) else (if r_150 = 42 then (fx_c_X12_term_6_p45b h0_f8 h0_f9 h0_5c h0_4c j5_l1 (fx_c_X12_term_6_p5 h0_f8 h0_f9 h0_5c h0_4c F) x_71) else (fx_c_X12_term_6_p45 h0_f8 h0_f9 h0_5c h0_4c j5_l1 (fx_c_X12_term_6_p5 h0_f8 h0_f9 h0_5c h0_4c F) x_71)))) else (j5_l1, x_71, (-1)))))))) else default) : Int32 × Int32 × Int32) := rfl
theorem rx_c_X12_term_6_p45 {c g : Nat → Int32} {n : Nat} (hT : TB c n) (hG : TG c g n) (k : Int32 → Int32 → Int32 × Int32 × Int32) (q : Nat) (hq : q < n) (v : Int32) (L : Nat → Int32) (hk : ∀ (v : Int32) (r : Nat), r ≤ n → q < r → CS n (-1) (tq_lp c n tq_md (tq_rp c n (tq_atom c n (tq_S c n 0)) tq_md) r) (k v (nI r)).2.1 (k v (nI r)).2.2) :
    CS n (-1) (tq_rp c n (tq_atom c n (tq_S c n 0)) tq_md (q + 1)) (fx_c_X12_term_6_p45 0 (nI n) g L v k (nI q)).2.1 (fx_c_X12_term_6_p45 0 (nI n) g L v k (nI q)).2.2 := by
  have hn := hT.2
  rw [tq_rp_lp (tq_atom_PG (c := c) (n := n) (tq_S_PG (c := c) (n := n) 0)) (by decide) (by omega)]
  simp only [fx_c_X12_term_6_p45, fx_c_X12_term_6_p5b, fx_c_X12_term_6_p87c, fx_c_X12_term_6_p87d, fx_c_X12_term_6_p87b, fx_c_X12_term_6_p87, exc1, exc3, exc4, exl]
  rw [nI_1]
  have hg := (tq_atom_PG (c := c) (n := n) (tq_S_PG (c := c) (n := n) 0)) (q + 1) (by omega)
  refine CS_seq hn (rx_c_X12_atom_6 hT hG (p := q + 1) (by omega) L) hg.1 (fun r hr eq1 eq2 z2 z3 => ?_) (fun z => ?_)
  · have hqr : q < r := by have := hg.2 z2; omega
    rw [if_pos eq2, eq1]
    split <;> exact hk _ _ hr hqr
  · rw [if_neg z, if_neg z]
    exact ⟨rfl, rfl⟩
theorem rx_c_X12_term_6_p45b {c g : Nat → Int32} {n : Nat} (hT : TB c n) (hG : TG c g n) (k : Int32 → Int32 → Int32 × Int32 × Int32) (q : Nat) (hq : q < n) (v : Int32) (L : Nat → Int32) (hk : ∀ (v : Int32) (r : Nat), r ≤ n → q < r → CS n (-1) (tq_lp c n tq_md (tq_rp c n (tq_atom c n (tq_S c n 0)) tq_md) r) (k v (nI r)).2.1 (k v (nI r)).2.2) :
    CS n (-1) (tq_rp c n (tq_atom c n (tq_S c n 0)) tq_md (q + 1)) (fx_c_X12_term_6_p45b 0 (nI n) g L v k (nI q)).2.1 (fx_c_X12_term_6_p45b 0 (nI n) g L v k (nI q)).2.2 := by
  have hn := hT.2
  rw [tq_rp_lp (tq_atom_PG (c := c) (n := n) (tq_S_PG (c := c) (n := n) 0)) (by decide) (by omega)]
  simp only [fx_c_X12_term_6_p45b, fx_c_X12_term_6_p5b, fx_c_X12_term_6_p87c, fx_c_X12_term_6_p87d, fx_c_X12_term_6_p87b, fx_c_X12_term_6_p87, exc1, exc3, exc4, exl]
  rw [nI_1]
  have hg := (tq_atom_PG (c := c) (n := n) (tq_S_PG (c := c) (n := n) 0)) (q + 1) (by omega)
  refine CS_seq hn (rx_c_X12_atom_6 hT hG (p := q + 1) (by omega) L) hg.1 (fun r hr eq1 eq2 z2 z3 => ?_) (fun z => ?_)
  · have hqr : q < r := by have := hg.2 z2; omega
    rw [if_pos eq2, eq1]
    exact hk _ _ hr hqr
  · rw [if_neg z, if_neg z]
    exact ⟨rfl, rfl⟩
theorem rx_c_X12_term_6_p5 {c g : Nat → Int32} {n : Nat} (hT : TB c n) (hG : TG c g n) (L : Nat → Int32) : ∀ (F : Nat) (v : Int32) (p : Nat), p ≤ n → n < p + F → CS n (-1) (tq_lp c n tq_md (tq_rp c n (tq_atom c n (tq_S c n 0)) tq_md) p) (fx_c_X12_term_6_p5 0 (nI n) g L F v (nI p)).2.1 (fx_c_X12_term_6_p5 0 (nI n) g L F v (nI p)).2.2 := by
  have hn := hT.2
  intro F
  induction F with
  | zero => intro v p h1 h2; omega
  | succ F ih =>
    intro v p h1 h2
    have g3 := tq_pk_ge (c := c) h1
    have g5 := tq_pk_le (c := c) h1
    have hpp := tq_pk_pk (c := c) h1
    have hk : ∀ (v : Int32) (r : Nat), r ≤ n → tq_pk c n p < r → CS n (-1) (tq_lp c n tq_md (tq_rp c n (tq_atom c n (tq_S c n 0)) tq_md) r) (fx_c_X12_term_6_p5 0 (nI n) g L F v (nI r)).2.1 (fx_c_X12_term_6_p5 0 (nI n) g L F v (nI r)).2.2 := fun v r k1 k2 => ih v r k1 (by omega)
    rw [fs_c_X12_term_6_p5, if_pos rfl]
    simp only [exc1, exc2]
    rw [rx_c_X12_look hT hG h1]
    simp only []
    rw [rx_c_X12_look hT hG g5, rx_c_X12_look_1 hT hG g5 hpp, hpp]
    simp only []
    by_cases h1 : tq_ch c n (tq_pk c n p) = -1
    · rw [if_pos h1, if_pos h1, tq_lp_f (by rw [h1]; decide)]
      exact CS_t g5
    · have g4 := tq_ch_lt h1
      rw [if_neg h1, if_neg h1]
      by_cases h2 : tq_ch c n (tq_pk c n p) = 42
      · rw [if_pos h2, if_pos h2, tq_lp_t (by rw [h2]; decide)]
        exact rx_c_X12_term_6_p45b hT hG _ _ g4 v L hk
      · rw [if_neg h2]
        by_cases h3 : tq_ch c n (tq_pk c n p) = 47
        · rw [if_pos h3, if_neg h1, if_neg h2, tq_lp_t (by rw [h3]; decide)]
          exact rx_c_X12_term_6_p45 hT hG _ _ g4 v L hk
        · rw [if_neg h3, if_neg h1, tq_lp_f (tq_bf (fun z => by rcases tq_md2 z with z | z <;> contradiction))]
          exact CS_t g5
theorem rx_c_X12_term_6_rp {c g : Nat → Int32} {n : Nat} (hT : TB c n) (hG : TG c g n) {p : Nat} (hp : p ≤ n) (L : Nat → Int32) : CS n (-1) (tq_rp c n (tq_atom c n (tq_S c n 0)) tq_md p) (fx_c_X12_term_6 0 (nI n) (nI p) g L).2.1 (fx_c_X12_term_6 0 (nI n) (nI p) g L).2.2 := by
  have hn := hT.2
  rw [tq_rp_lp (tq_atom_PG (c := c) (n := n) (tq_S_PG (c := c) (n := n) 0)) (by decide) hp]
  simp only [fx_c_X12_term_6, fx_c_X12_term_6_p5b, exc1, exc3, exc4]
  have hg := (tq_atom_PG (c := c) (n := n) (tq_S_PG (c := c) (n := n) 0)) p hp
  refine CS_seq hn (rx_c_X12_atom_6 hT hG hp L) hg.1 (fun r hr eq1 eq2 z2 z3 => ?_) (fun z => ?_)
  · rw [if_pos eq2, eq1]
    exact rx_c_X12_term_6_p5 hT hG L exF _ r hr (by have := hT.2; unfold exF; omega)
  · rw [if_neg z, if_neg z]
    exact ⟨rfl, rfl⟩
theorem rx_c_X12_term_6 {c g : Nat → Int32} {n : Nat} (hT : TB c n) (hG : TG c g n) {p : Nat} (hp : p ≤ n) (L : Nat → Int32) : CS n (-1) (tq_rp c n (tq_atom c n (tq_S c n 0)) tq_md p) (fx_c_X12_term_6 0 (nI n) (nI p) g L).2.1 (fx_c_X12_term_6 0 (nI n) (nI p) g L).2.2 := rx_c_X12_term_6_rp hT hG hp L
theorem fs_c_X12_sum_6_p5 (h0_f8 : Int32) (h0_f9 : Int32) (h0_5c : Nat → Int32) (h0_4c : Nat → Int32) (F : Nat) (j5_l1 : Int32) (j5_h0_f10 : Int32) : fx_c_X12_sum_6_p5 h0_f8 h0_f9 h0_5c h0_4c (F + 1) j5_l1 j5_h0_f10 = ((if j5_l1 = j5_l1 then (exc2 (fx_c_X12_look h0_f8 h0_f9 j5_h0_f10 h0_5c) fun (r_71 : Int32) (x_72 : Int32) => (if r_71 = (-1) then (exc2 (fx_c_X12_look h0_f8 h0_f9 x_72 h0_5c) fun (r_87 : Int32) (x_88 : Int32) => (if r_87 = (-1) then (j5_l1, x_88, (-1)) else (if r_87 = 45 then (exc1 (fx_c_X12_look_1 h0_f8 h0_f9 x_88 h0_5c) fun (r_106 : Int32) => (if r_106 = (-1) then (default) else (if r_106 = 43 then (fx_c_X12_sum_6_p45b h0_f8 h0_f9 h0_5c h0_4c j5_l1 (fx_c_X12_sum_6_p5 h0_f8 h0_f9 h0_5c h0_4c F) x_88) else (fx_c_X12_sum_6_p45 h0_f8 h0_f9 h0_5c h0_4c j5_l1 (fx_c_X12_sum_6_p5 h0_f8 h0_f9 h0_5c h0_4c F) x_88)))) else (j5_l1, x_88, (-1))))) else (if r_71 = 43 then (exc1 (fx_c_X12_look_1 h0_f8 h0_f9 x_72 h0_5c) fun (r_123 : Int32) => (if r_123 = (-1) then (default) else (if r_123 = 43 then (fx_c_X12_sum_6_p45b h0_f8 h0_f9 h0_5c h0_4c j5_l1 (fx_c_X12_sum_6_p5 h0_f8 h0_f9 h0_5c h0_4c F) x_72) else (fx_c_X12_sum_6_p45 h0_f8 h0_f9 h0_5c h0_4c j5_l1 (fx_c_X12_sum_6_p5 h0_f8 h0_f9 h0_5c h0_4c F) x_72)))) else (exc1 (fx_c_X12_look_1 h0_f8 h0_f9 x_72 h0_5c) fun (r_137 : Int32) => (if r_137 = (-1) then (default) else (if r_137 = 45 then (exc1 (fx_c_X12_look_1 h0_f8 h0_f9 x_72 h0_5c) fun (r_151 : Int32) => (if r_151 = (-1) then (default) else (if r_151 = 43 then (fx_c_X12_sum_6_p45b h0_f8 h0_f9 h0_5c h0_4c j5_l1 (fx_c_X12_sum_6_p5 h0_f8 h0_f9 h0_5c h0_4c F) x_72) else (fx_c_X12_sum_6_p45 h0_f8 h0_f9 h0_5c h0_4c j5_l1 (fx_c_X12_sum_6_p5 h0_f8 h0_f9 h0_5c h0_4c F) x_72)))) else (j5_l1, x_72, (-1)))))))) else default) : Int32 × Int32 × Int32) := rfl
theorem rx_c_X12_sum_6_p45 {c g : Nat → Int32} {n : Nat} (hT : TB c n) (hG : TG c g n) (k : Int32 → Int32 → Int32 × Int32 × Int32) (q : Nat) (hq : q < n) (v : Int32) (L : Nat → Int32) (hk : ∀ (v : Int32) (r : Nat), r ≤ n → q < r → CS n (-1) (tq_lp c n tq_as (tq_rp c n (tq_rp c n (tq_atom c n (tq_S c n 0)) tq_md) tq_as) r) (k v (nI r)).2.1 (k v (nI r)).2.2) :
    CS n (-1) (tq_rp c n (tq_rp c n (tq_atom c n (tq_S c n 0)) tq_md) tq_as (q + 1)) (fx_c_X12_sum_6_p45 0 (nI n) g L v k (nI q)).2.1 (fx_c_X12_sum_6_p45 0 (nI n) g L v k (nI q)).2.2 := by
  have hn := hT.2
  rw [tq_rp_lp (tq_rp_PG (c := c) (n := n) (A := tq_md) (tq_atom_PG (c := c) (n := n) (tq_S_PG (c := c) (n := n) 0)) (by decide)) (by decide) (by omega)]
  simp only [fx_c_X12_sum_6_p45, fx_c_X12_sum_6_p5b, fx_c_X12_sum_6_p77b, fx_c_X12_sum_6_p77, exc1, exc3, exc4, exl]
  rw [nI_1]
  have hg := (tq_rp_PG (c := c) (n := n) (A := tq_md) (tq_atom_PG (c := c) (n := n) (tq_S_PG (c := c) (n := n) 0)) (by decide)) (q + 1) (by omega)
  refine CS_seq hn (rx_c_X12_term_6 hT hG (p := q + 1) (by omega) L) hg.1 (fun r hr eq1 eq2 z2 z3 => ?_) (fun z => ?_)
  · have hqr : q < r := by have := hg.2 z2; omega
    rw [if_pos eq2, eq1]
    exact hk _ _ hr hqr
  · rw [if_neg z, if_neg z]
    exact ⟨rfl, rfl⟩
theorem rx_c_X12_sum_6_p45b {c g : Nat → Int32} {n : Nat} (hT : TB c n) (hG : TG c g n) (k : Int32 → Int32 → Int32 × Int32 × Int32) (q : Nat) (hq : q < n) (v : Int32) (L : Nat → Int32) (hk : ∀ (v : Int32) (r : Nat), r ≤ n → q < r → CS n (-1) (tq_lp c n tq_as (tq_rp c n (tq_rp c n (tq_atom c n (tq_S c n 0)) tq_md) tq_as) r) (k v (nI r)).2.1 (k v (nI r)).2.2) :
    CS n (-1) (tq_rp c n (tq_rp c n (tq_atom c n (tq_S c n 0)) tq_md) tq_as (q + 1)) (fx_c_X12_sum_6_p45b 0 (nI n) g L v k (nI q)).2.1 (fx_c_X12_sum_6_p45b 0 (nI n) g L v k (nI q)).2.2 := by
  have hn := hT.2
  rw [tq_rp_lp (tq_rp_PG (c := c) (n := n) (A := tq_md) (tq_atom_PG (c := c) (n := n) (tq_S_PG (c := c) (n := n) 0)) (by decide)) (by decide) (by omega)]
  simp only [fx_c_X12_sum_6_p45b, fx_c_X12_sum_6_p5b, fx_c_X12_sum_6_p77b, fx_c_X12_sum_6_p77, exc1, exc3, exc4, exl]
  rw [nI_1]
  have hg := (tq_rp_PG (c := c) (n := n) (A := tq_md) (tq_atom_PG (c := c) (n := n) (tq_S_PG (c := c) (n := n) 0)) (by decide)) (q + 1) (by omega)
  refine CS_seq hn (rx_c_X12_term_6 hT hG (p := q + 1) (by omega) L) hg.1 (fun r hr eq1 eq2 z2 z3 => ?_) (fun z => ?_)
  · have hqr : q < r := by have := hg.2 z2; omega
    rw [if_pos eq2, eq1]
    exact hk _ _ hr hqr
  · rw [if_neg z, if_neg z]
    exact ⟨rfl, rfl⟩
theorem rx_c_X12_sum_6_p5 {c g : Nat → Int32} {n : Nat} (hT : TB c n) (hG : TG c g n) (L : Nat → Int32) : ∀ (F : Nat) (v : Int32) (p : Nat), p ≤ n → n < p + F → CS n (-1) (tq_lp c n tq_as (tq_rp c n (tq_rp c n (tq_atom c n (tq_S c n 0)) tq_md) tq_as) p) (fx_c_X12_sum_6_p5 0 (nI n) g L F v (nI p)).2.1 (fx_c_X12_sum_6_p5 0 (nI n) g L F v (nI p)).2.2 := by
  have hn := hT.2
  intro F
  induction F with
  | zero => intro v p h1 h2; omega
  | succ F ih =>
    intro v p h1 h2
    have g3 := tq_pk_ge (c := c) h1
    have g5 := tq_pk_le (c := c) h1
    have hpp := tq_pk_pk (c := c) h1
    have hk : ∀ (v : Int32) (r : Nat), r ≤ n → tq_pk c n p < r → CS n (-1) (tq_lp c n tq_as (tq_rp c n (tq_rp c n (tq_atom c n (tq_S c n 0)) tq_md) tq_as) r) (fx_c_X12_sum_6_p5 0 (nI n) g L F v (nI r)).2.1 (fx_c_X12_sum_6_p5 0 (nI n) g L F v (nI r)).2.2 := fun v r k1 k2 => ih v r k1 (by omega)
    rw [fs_c_X12_sum_6_p5, if_pos rfl]
    simp only [exc1, exc2]
    rw [rx_c_X12_look hT hG h1]
    simp only []
    rw [rx_c_X12_look hT hG g5, rx_c_X12_look_1 hT hG g5 hpp, hpp]
    simp only []
    by_cases h1 : tq_ch c n (tq_pk c n p) = -1
    · rw [if_pos h1, if_pos h1, tq_lp_f (by rw [h1]; decide)]
      exact CS_t g5
    · have g4 := tq_ch_lt h1
      rw [if_neg h1, if_neg h1]
      by_cases h2 : tq_ch c n (tq_pk c n p) = 43
      · rw [if_pos h2, if_pos h2, tq_lp_t (by rw [h2]; decide)]
        exact rx_c_X12_sum_6_p45b hT hG _ _ g4 v L hk
      · rw [if_neg h2]
        by_cases h3 : tq_ch c n (tq_pk c n p) = 45
        · rw [if_pos h3, if_neg h1, if_neg h2, tq_lp_t (by rw [h3]; decide)]
          exact rx_c_X12_sum_6_p45 hT hG _ _ g4 v L hk
        · rw [if_neg h3, if_neg h1, tq_lp_f (tq_bf (fun z => by rcases tq_as2 z with z | z <;> contradiction))]
          exact CS_t g5
theorem rx_c_X12_sum_6_rp {c g : Nat → Int32} {n : Nat} (hT : TB c n) (hG : TG c g n) {p : Nat} (hp : p ≤ n) (L : Nat → Int32) : CS n (-1) (tq_rp c n (tq_rp c n (tq_atom c n (tq_S c n 0)) tq_md) tq_as p) (fx_c_X12_sum_6 0 (nI n) (nI p) g L).2.1 (fx_c_X12_sum_6 0 (nI n) (nI p) g L).2.2 := by
  have hn := hT.2
  rw [tq_rp_lp (tq_rp_PG (c := c) (n := n) (A := tq_md) (tq_atom_PG (c := c) (n := n) (tq_S_PG (c := c) (n := n) 0)) (by decide)) (by decide) hp]
  simp only [fx_c_X12_sum_6, fx_c_X12_sum_6_p5b, exc1, exc3, exc4]
  have hg := (tq_rp_PG (c := c) (n := n) (A := tq_md) (tq_atom_PG (c := c) (n := n) (tq_S_PG (c := c) (n := n) 0)) (by decide)) p hp
  refine CS_seq hn (rx_c_X12_term_6 hT hG hp L) hg.1 (fun r hr eq1 eq2 z2 z3 => ?_) (fun z => ?_)
  · rw [if_pos eq2, eq1]
    exact rx_c_X12_sum_6_p5 hT hG L exF _ r hr (by have := hT.2; unfold exF; omega)
  · rw [if_neg z, if_neg z]
    exact ⟨rfl, rfl⟩
theorem rx_c_X12_sum_6 {c g : Nat → Int32} {n : Nat} (hT : TB c n) (hG : TG c g n) {p : Nat} (hp : p ≤ n) (L : Nat → Int32) : CS n (-1) (tq_SM c n 0 p) (fx_c_X12_sum_6 0 (nI n) (nI p) g L).2.1 (fx_c_X12_sum_6 0 (nI n) (nI p) g L).2.2 := CS_e (rx_c_X12_sum_6_rp hT hG hp L) (tq_nest (tq_atom_PG (tq_S_PG 0)) (by decide) (by decide) hp).symm
theorem fs_c_X12_atom_5_p90 (h0_f8 : Int32) (h0_f9 : Int32) (h0_5c : Nat → Int32) (F : Nat) (j90_l3 : Int32) (j90_l2 : Int32) (j90_h0_f10 : Int32) : fx_c_X12_atom_5_p90 h0_f8 h0_f9 h0_5c (F + 1) j90_l3 j90_l2 j90_h0_f10 = ((if j90_l3 = j90_l3 then (exc1 (fx_c_X12_isDigit h0_f8 h0_f9 j90_h0_f10 h0_5c) fun (r_1 : Int32) => (if r_1 = 0 then (j90_l2, j90_h0_f10, (-1), 5) else (if j90_l3 = 4 then (exc1 (fx_c_X12_fails) fun (r_27 : Int32) => (0, j90_h0_f10, j90_h0_f10, 5)) else (exl (10 * j90_l2) fun (x_16 : Int32) => (exl (h0_f8 + j90_h0_f10) fun (x_17 : Int32) => (exl (h0_5c (x_17 : Int32).toNatClampNeg) fun (x_19 : Int32) => (exl (x_16 + x_19) fun (x_20 : Int32) => (exl (x_20 - 48) fun (x_21 : Int32) => (exl (j90_h0_f10 + 1) fun (x_22 : Int32) => (exl (j90_l3 + 1) fun (x_25 : Int32) => ((fx_c_X12_atom_5_p90 h0_f8 h0_f9 h0_5c F) x_25 x_21 x_22))))))))))) else default) : Int32 × Int32 × Int32 × Int32) := rfl
theorem rx_c_X12_atom_5_p90 {c g : Nat → Int32} {n : Nat} (hT : TB c n) (hG : TG c g n) : ∀ (F j : Nat) (v : Int32) (p : Nat), p ≤ n → j ≤ 4 → 4 < j + F → CS n (-1) (tq_ds c n (4 - j) p) (fx_c_X12_atom_5_p90 0 (nI n) g F (nI j) v (nI p)).2.1 (fx_c_X12_atom_5_p90 0 (nI n) g F (nI j) v (nI p)).2.2.1 := by
  have hn := hT.2
  intro F
  induction F with
  | zero => intro j v p h1 h2 h3; omega
  | succ F ih =>
    intro j v p h1 h2 h3
    rw [fs_c_X12_atom_5_p90, if_pos rfl]
    simp only [exc1, exl]
    rw [rx_c_X12_isDigit hT hG h1]
    cases hb : tq_dg (tq_ch c n p) with
    | false =>
      rw [px_i0, if_pos rfl]
      have e : tq_ds c n (4 - j) p = (true, p) := by
        cases hj : 4 - j with
        | zero => show (if tq_dg (tq_ch c n p) then (false, p) else (true, p)) = _; rw [hb]; rfl
        | succ k => show (if tq_dg (tq_ch c n p) then tq_ds c n k (p + 1) else (true, p)) = _; rw [hb]; rfl
      rw [e]
      exact CS_t h1
    | true =>
      have g4 := tq_dg_lt hb
      rw [px_i1, if_neg (show ¬ (1 : Int32) = 0 by decide)]
      by_cases hj : j = 4
      · subst hj
        rw [if_pos (show nI 4 = 4 from rfl)]
        have e : tq_ds c n (4 - 4) p = (false, p) := by show (if tq_dg (tq_ch c n p) then (false, p) else (true, p)) = _; rw [hb]; rfl
        rw [e]
        exact CS_f h1
      · have h4 : ¬ nI j = 4 := fun z => hj ((nI_eq (a := j) (b := 4) (by omega) (by omega)).mp z)
        obtain ⟨k, hk⟩ : ∃ k, 4 - j = k + 1 := ⟨3 - j, by omega⟩
        have e : tq_ds c n (4 - j) p = tq_ds c n (4 - (j + 1)) (p + 1) := by
          have hk2 : 4 - (j + 1) = k := by omega
          rw [hk, hk2]
          show (if tq_dg (tq_ch c n p) then tq_ds c n k (p + 1) else (true, p)) = _
          rw [hb]
          rfl
        rw [if_neg h4, e, nI_1, nI_1]
        exact ih (j + 1) _ (p + 1) (by omega) (by omega) (by omega)
theorem rx_c_X12_atom_5 {c g : Nat → Int32} {n : Nat} (hT : TB c n) (hG : TG c g n) {p : Nat} (hp : p ≤ n) (L : Nat → Int32) : CS n (-1) (tq_atom c n (tq_S c n 1) p) (fx_c_X12_atom_5 0 (nI n) (nI p) g L).2.1 (fx_c_X12_atom_5 0 (nI n) (nI p) g L).2.2.1 := by
  have hn := hT.2
  have g3 := tq_pk_ge (c := c) hp
  have g5 := tq_pk_le (c := c) hp
  have hpp := tq_pk_pk (c := c) hp
  simp only [fx_c_X12_atom_5, exc1, exc2, exc3, exc4, exl]
  rw [rx_c_X12_look hT hG hp]
  simp only []
  have hd := rx_c_X12_isDigit hT hG g5
  have h86 : tq_dg (tq_ch c n (tq_pk c n p)) = false → fx_c_X12_atom_5_p86 0 (nI n) g (nI (tq_pk c n p)) (nI (tq_pk c n p)) = (0, nI (tq_pk c n p), nI (tq_pk c n p), 5) := fun hb => by
    simp only [fx_c_X12_atom_5_p86, fx_c_X12_atom_5_p90b, exc1]
    rw [rx_c_X12_isDigit_1 hT hG g5, hb, px_i0, if_pos rfl]
  by_cases h1 : tq_ch c n (tq_pk c n p) = -1
  · have hb : tq_dg (tq_ch c n (tq_pk c n p)) = false := by rw [h1]; decide
    have es : tq_atom c n (tq_S c n 1) p = (false, tq_pk c n p) := by unfold tq_atom; rw [if_neg (by rw [h1]; decide), if_neg (by rw [h1]; decide)]; unfold tq_nm; rw [if_neg (by rw [hb]; decide)]
    rw [if_pos h1, hd, hb, px_i0, if_pos rfl, h86 hb, es]
    exact CS_f g5
  · obtain ⟨j, hj, ej⟩ := RG_nI (tq_ch_RG0 hT h1) (by decide)
    have hl := rx_let j hj
    rw [← ej] at hl
    rw [if_neg h1]
    rcases hl with ⟨i1, i2⟩ | ⟨i1, i2⟩
    · rw [i1, if_pos rfl]
      by_cases h91 : tq_ch c n (tq_pk c n p) = 91
      · have g4 := tq_ch_ne h91 (by decide)
        have es : tq_atom c n (tq_S c n 1) p = tq_bind (tq_SM c n 0 (tq_pk c n p + 1)) (tq_ex c n 93) := by unfold tq_atom; rw [if_neg (by rw [i2]; decide), if_pos h91]; rfl
        have hgi : fx_c_X12_goesIn_5 (nI (tq_pk c n p)) = (1, nI (tq_pk c n p + 1)) := by simp only [fx_c_X12_goesIn_5, exl]; rw [nI_1]
        rw [if_pos h91, es, hgi]
        refine CS_seq hn (rx_c_X12_sum_6 hT hG (p := tq_pk c n p + 1) (by omega) L) (tq_SM_PG _ (by omega)).1 (fun q hq eq1 eq2 _ _ => ?_) (fun z => ?_)
        · rw [if_pos eq2, eq1, rx_c_X12_takes_1 hT hG hq (by decide)]
          have k5 := tq_pk_le (c := c) hq
          unfold tq_ex
          by_cases h5 : tq_ch c n (tq_pk c n q) = 93
          · have k4 := tq_ch_ne h5 (by decide)
            rw [if_pos h5, if_pos h5, if_pos rfl]
            exact CS_t (by omega)
          · rw [if_neg h5, if_neg h5, if_neg (show ¬ (0 : Int32) = 1 by decide)]
            exact CS_f k5
        · rw [if_neg z]
          exact ⟨rfl, rfl⟩
      · rw [if_neg h91, hd]
        cases hb : tq_dg (tq_ch c n (tq_pk c n p)) with
        | false =>
          have es : tq_atom c n (tq_S c n 1) p = (false, tq_pk c n p) := by unfold tq_atom; rw [if_neg (by rw [i2]; decide), if_neg h91]; unfold tq_nm; rw [if_neg (by rw [hb]; decide)]
          rw [px_i0, if_pos rfl, h86 hb, es]
          exact CS_f g5
        | true =>
          have es : tq_atom c n (tq_S c n 1) p = tq_ds c n (4 - 0) (tq_pk c n p) := by
            unfold tq_atom
            rw [if_neg (by rw [i2]; decide), if_neg h91]
            unfold tq_nm
            rw [if_pos hb]
            show _ = (if tq_dg (tq_ch c n (tq_pk c n p)) then tq_ds c n 3 (tq_pk c n p + 1) else (true, tq_pk c n p))
            rw [if_pos hb]
          rw [px_i1, if_neg (show ¬ (1 : Int32) = 0 by decide), es]
          exact rx_c_X12_atom_5_p90 hT hG exF 0 0 (tq_pk c n p) g5 (by omega) (by have := hT.2; unfold exF; omega)
    · have g4 := tq_A_lt tq_lt_m1 i2
      have es : tq_atom c n (tq_S c n 1) p = (true, tq_pk c n p + 1) := by unfold tq_atom; rw [if_pos i2]
      rw [i1, if_neg (by decide), es, nI_1]
      exact CS_t (by omega)
theorem fs_c_X12_term_5_p5 (h0_f8 : Int32) (h0_f9 : Int32) (h0_5c : Nat → Int32) (h0_4c : Nat → Int32) (F : Nat) (j5_l1 : Int32) (j5_h0_f10 : Int32) : fx_c_X12_term_5_p5 h0_f8 h0_f9 h0_5c h0_4c (F + 1) j5_l1 j5_h0_f10 = ((if j5_l1 = j5_l1 then (exc2 (fx_c_X12_look h0_f8 h0_f9 j5_h0_f10 h0_5c) fun (r_76 : Int32) (x_77 : Int32) => (if r_76 = (-1) then (exc2 (fx_c_X12_look h0_f8 h0_f9 x_77 h0_5c) fun (r_92 : Int32) (x_93 : Int32) => (if r_92 = (-1) then (j5_l1, x_93, (-1), 5) else (if r_92 = 47 then (exc1 (fx_c_X12_look_1 h0_f8 h0_f9 x_93 h0_5c) fun (r_111 : Int32) => (if r_111 = (-1) then (default) else (if r_111 = 42 then (fx_c_X12_term_5_p45b h0_f8 h0_f9 h0_5c h0_4c j5_l1 (fx_c_X12_term_5_p5 h0_f8 h0_f9 h0_5c h0_4c F) x_93) else (fx_c_X12_term_5_p45 h0_f8 h0_f9 h0_5c h0_4c j5_l1 (fx_c_X12_term_5_p5 h0_f8 h0_f9 h0_5c h0_4c F) x_93)))) else (j5_l1, x_93, (-1), 5)))) else (if r_76 = 42 then (exc1 (fx_c_X12_look_1 h0_f8 h0_f9 x_77 h0_5c) fun (r_128 : Int32) => (if r_128 = (-1) then (default) else (if r_128 = 42 then (fx_c_X12_term_5_p45b h0_f8 h0_f9 h0_5c h0_4c j5_l1 (fx_c_X12_term_5_p5 h0_f8 h0_f9 h0_5c h0_4c F) x_77) else (fx_c_X12_term_5_p45 h0_f8 h0_f9 h0_5c h0_4c j5_l1 (fx_c_X12_term_5_p5 h0_f8 h0_f9 h0_5c h0_4c F) x_77)))) else (exc1 (fx_c_X12_look_1 h0_f8 h0_f9 x_77 h0_5c) fun (r_142 : Int32) => (if r_142 = (-1) then (default) else (if r_142 = 47 then (exc1 (fx_c_X12_look_1 h0_f8 h0_f9 x_77 h0_5c) fun (r_156 : Int32) => (if r_156 = (-1) then (default) else (if r_156 = 42 then (fx_c_X12_term_5_p45b h0_f8 h0_f9 h0_5c h0_4c j5_l1 (fx_c_X12_term_5_p5 h0_f8 h0_f9 h0_5c h0_4c F) x_77) else (fx_c_X12_term_5_p45 h0_f8 h0_f9 h0_5c h0_4c j5_l1 (fx_c_X12_term_5_p5 h0_f8 h0_f9 h0_5c h0_4c F) x_77)))) else (j5_l1, x_77, (-1), 5))))))) else default) : Int32 × Int32 × Int32 × Int32) := rfl
theorem rx_c_X12_term_5_p45 {c g : Nat → Int32} {n : Nat} (hT : TB c n) (hG : TG c g n) (k : Int32 → Int32 → Int32 × Int32 × Int32 × Int32) (q : Nat) (hq : q < n) (v : Int32) (L : Nat → Int32) (hk : ∀ (v : Int32) (r : Nat), r ≤ n → q < r → CS n (-1) (tq_lp c n tq_md (tq_rp c n (tq_atom c n (tq_S c n 1)) tq_md) r) (k v (nI r)).2.1 (k v (nI r)).2.2.1) :
    CS n (-1) (tq_rp c n (tq_atom c n (tq_S c n 1)) tq_md (q + 1)) (fx_c_X12_term_5_p45 0 (nI n) g L v k (nI q)).2.1 (fx_c_X12_term_5_p45 0 (nI n) g L v k (nI q)).2.2.1 := by
  have hn := hT.2
  rw [tq_rp_lp (tq_atom_PG (c := c) (n := n) (tq_S_PG (c := c) (n := n) 1)) (by decide) (by omega)]
  simp only [fx_c_X12_term_5_p45, fx_c_X12_term_5_p5b, fx_c_X12_term_5_p87c, fx_c_X12_term_5_p87d, fx_c_X12_term_5_p87b, fx_c_X12_term_5_p87, exc1, exc3, exc4, exl]
  rw [nI_1]
  have hg := (tq_atom_PG (c := c) (n := n) (tq_S_PG (c := c) (n := n) 1)) (q + 1) (by omega)
  refine CS_seq hn (rx_c_X12_atom_5 hT hG (p := q + 1) (by omega) L) hg.1 (fun r hr eq1 eq2 z2 z3 => ?_) (fun z => ?_)
  · have hqr : q < r := by have := hg.2 z2; omega
    rw [if_pos eq2, eq1]
    split <;> exact hk _ _ hr hqr
  · rw [if_neg z, if_neg z]
    exact ⟨rfl, rfl⟩
theorem rx_c_X12_term_5_p45b {c g : Nat → Int32} {n : Nat} (hT : TB c n) (hG : TG c g n) (k : Int32 → Int32 → Int32 × Int32 × Int32 × Int32) (q : Nat) (hq : q < n) (v : Int32) (L : Nat → Int32) (hk : ∀ (v : Int32) (r : Nat), r ≤ n → q < r → CS n (-1) (tq_lp c n tq_md (tq_rp c n (tq_atom c n (tq_S c n 1)) tq_md) r) (k v (nI r)).2.1 (k v (nI r)).2.2.1) :
    CS n (-1) (tq_rp c n (tq_atom c n (tq_S c n 1)) tq_md (q + 1)) (fx_c_X12_term_5_p45b 0 (nI n) g L v k (nI q)).2.1 (fx_c_X12_term_5_p45b 0 (nI n) g L v k (nI q)).2.2.1 := by
  have hn := hT.2
  rw [tq_rp_lp (tq_atom_PG (c := c) (n := n) (tq_S_PG (c := c) (n := n) 1)) (by decide) (by omega)]
  simp only [fx_c_X12_term_5_p45b, fx_c_X12_term_5_p5b, fx_c_X12_term_5_p87c, fx_c_X12_term_5_p87d, fx_c_X12_term_5_p87b, fx_c_X12_term_5_p87, exc1, exc3, exc4, exl]
  rw [nI_1]
  have hg := (tq_atom_PG (c := c) (n := n) (tq_S_PG (c := c) (n := n) 1)) (q + 1) (by omega)
  refine CS_seq hn (rx_c_X12_atom_5 hT hG (p := q + 1) (by omega) L) hg.1 (fun r hr eq1 eq2 z2 z3 => ?_) (fun z => ?_)
  · have hqr : q < r := by have := hg.2 z2; omega
    rw [if_pos eq2, eq1]
    exact hk _ _ hr hqr
  · rw [if_neg z, if_neg z]
    exact ⟨rfl, rfl⟩
theorem rx_c_X12_term_5_p5 {c g : Nat → Int32} {n : Nat} (hT : TB c n) (hG : TG c g n) (L : Nat → Int32) : ∀ (F : Nat) (v : Int32) (p : Nat), p ≤ n → n < p + F → CS n (-1) (tq_lp c n tq_md (tq_rp c n (tq_atom c n (tq_S c n 1)) tq_md) p) (fx_c_X12_term_5_p5 0 (nI n) g L F v (nI p)).2.1 (fx_c_X12_term_5_p5 0 (nI n) g L F v (nI p)).2.2.1 := by
  have hn := hT.2
  intro F
  induction F with
  | zero => intro v p h1 h2; omega
  | succ F ih =>
    intro v p h1 h2
    have g3 := tq_pk_ge (c := c) h1
    have g5 := tq_pk_le (c := c) h1
    have hpp := tq_pk_pk (c := c) h1
    have hk : ∀ (v : Int32) (r : Nat), r ≤ n → tq_pk c n p < r → CS n (-1) (tq_lp c n tq_md (tq_rp c n (tq_atom c n (tq_S c n 1)) tq_md) r) (fx_c_X12_term_5_p5 0 (nI n) g L F v (nI r)).2.1 (fx_c_X12_term_5_p5 0 (nI n) g L F v (nI r)).2.2.1 := fun v r k1 k2 => ih v r k1 (by omega)
    rw [fs_c_X12_term_5_p5, if_pos rfl]
    simp only [exc1, exc2]
    rw [rx_c_X12_look hT hG h1]
    simp only []
    rw [rx_c_X12_look hT hG g5, rx_c_X12_look_1 hT hG g5 hpp, hpp]
    simp only []
    by_cases h1 : tq_ch c n (tq_pk c n p) = -1
    · rw [if_pos h1, if_pos h1, tq_lp_f (by rw [h1]; decide)]
      exact CS_t g5
    · have g4 := tq_ch_lt h1
      rw [if_neg h1, if_neg h1]
      by_cases h2 : tq_ch c n (tq_pk c n p) = 42
      · rw [if_pos h2, if_pos h2, tq_lp_t (by rw [h2]; decide)]
        exact rx_c_X12_term_5_p45b hT hG _ _ g4 v L hk
      · rw [if_neg h2]
        by_cases h3 : tq_ch c n (tq_pk c n p) = 47
        · rw [if_pos h3, if_neg h1, if_neg h2, tq_lp_t (by rw [h3]; decide)]
          exact rx_c_X12_term_5_p45 hT hG _ _ g4 v L hk
        · rw [if_neg h3, if_neg h1, tq_lp_f (tq_bf (fun z => by rcases tq_md2 z with z | z <;> contradiction))]
          exact CS_t g5
theorem rx_c_X12_term_5_rp {c g : Nat → Int32} {n : Nat} (hT : TB c n) (hG : TG c g n) {p : Nat} (hp : p ≤ n) (L : Nat → Int32) : CS n (-1) (tq_rp c n (tq_atom c n (tq_S c n 1)) tq_md p) (fx_c_X12_term_5 0 (nI n) (nI p) g L).2.1 (fx_c_X12_term_5 0 (nI n) (nI p) g L).2.2.1 := by
  have hn := hT.2
  rw [tq_rp_lp (tq_atom_PG (c := c) (n := n) (tq_S_PG (c := c) (n := n) 1)) (by decide) hp]
  simp only [fx_c_X12_term_5, fx_c_X12_term_5_p5b, exc1, exc3, exc4]
  have hg := (tq_atom_PG (c := c) (n := n) (tq_S_PG (c := c) (n := n) 1)) p hp
  refine CS_seq hn (rx_c_X12_atom_5 hT hG hp L) hg.1 (fun r hr eq1 eq2 z2 z3 => ?_) (fun z => ?_)
  · rw [if_pos eq2, eq1]
    exact rx_c_X12_term_5_p5 hT hG L exF _ r hr (by have := hT.2; unfold exF; omega)
  · rw [if_neg z, if_neg z]
    exact ⟨rfl, rfl⟩
theorem rx_c_X12_term_5 {c g : Nat → Int32} {n : Nat} (hT : TB c n) (hG : TG c g n) {p : Nat} (hp : p ≤ n) (L : Nat → Int32) : CS n (-1) (tq_rp c n (tq_atom c n (tq_S c n 1)) tq_md p) (fx_c_X12_term_5 0 (nI n) (nI p) g L).2.1 (fx_c_X12_term_5 0 (nI n) (nI p) g L).2.2.1 := rx_c_X12_term_5_rp hT hG hp L
theorem fs_c_X12_sum_5_p5 (h0_f8 : Int32) (h0_f9 : Int32) (h0_5c : Nat → Int32) (h0_4c : Nat → Int32) (F : Nat) (j5_l1 : Int32) (j5_h0_f10 : Int32) : fx_c_X12_sum_5_p5 h0_f8 h0_f9 h0_5c h0_4c (F + 1) j5_l1 j5_h0_f10 = ((if j5_l1 = j5_l1 then (exc2 (fx_c_X12_look h0_f8 h0_f9 j5_h0_f10 h0_5c) fun (r_77 : Int32) (x_78 : Int32) => (if r_77 = (-1) then (exc2 (fx_c_X12_look h0_f8 h0_f9 x_78 h0_5c) fun (r_93 : Int32) (x_94 : Int32) => (if r_93 = (-1) then (j5_l1, x_94, (-1), 5) else (if r_93 = 45 then (exc1 (fx_c_X12_look_1 h0_f8 h0_f9 x_94 h0_5c) fun (r_112 : Int32) => (if r_112 = (-1) then (default) else (if r_112 = 43 then (fx_c_X12_sum_5_p45b h0_f8 h0_f9 h0_5c h0_4c j5_l1 (fx_c_X12_sum_5_p5 h0_f8 h0_f9 h0_5c h0_4c F) x_94) else (fx_c_X12_sum_5_p45 h0_f8 h0_f9 h0_5c h0_4c j5_l1 (fx_c_X12_sum_5_p5 h0_f8 h0_f9 h0_5c h0_4c F) x_94)))) else (j5_l1, x_94, (-1), 5)))) else (if r_77 = 43 then (exc1 (fx_c_X12_look_1 h0_f8 h0_f9 x_78 h0_5c) fun (r_129 : Int32) => (if r_129 = (-1) then (default) else (if r_129 = 43 then (fx_c_X12_sum_5_p45b h0_f8 h0_f9 h0_5c h0_4c j5_l1 (fx_c_X12_sum_5_p5 h0_f8 h0_f9 h0_5c h0_4c F) x_78) else (fx_c_X12_sum_5_p45 h0_f8 h0_f9 h0_5c h0_4c j5_l1 (fx_c_X12_sum_5_p5 h0_f8 h0_f9 h0_5c h0_4c F) x_78)))) else (exc1 (fx_c_X12_look_1 h0_f8 h0_f9 x_78 h0_5c) fun (r_143 : Int32) => (if r_143 = (-1) then (default) else (if r_143 = 45 then (exc1 (fx_c_X12_look_1 h0_f8 h0_f9 x_78 h0_5c) fun (r_157 : Int32) => (if r_157 = (-1) then (default) else (if r_157 = 43 then (fx_c_X12_sum_5_p45b h0_f8 h0_f9 h0_5c h0_4c j5_l1 (fx_c_X12_sum_5_p5 h0_f8 h0_f9 h0_5c h0_4c F) x_78) else (fx_c_X12_sum_5_p45 h0_f8 h0_f9 h0_5c h0_4c j5_l1 (fx_c_X12_sum_5_p5 h0_f8 h0_f9 h0_5c h0_4c F) x_78)))) else (j5_l1, x_78, (-1), 5))))))) else default) : Int32 × Int32 × Int32 × Int32) := rfl
theorem rx_c_X12_sum_5_p45 {c g : Nat → Int32} {n : Nat} (hT : TB c n) (hG : TG c g n) (k : Int32 → Int32 → Int32 × Int32 × Int32 × Int32) (q : Nat) (hq : q < n) (v : Int32) (L : Nat → Int32) (hk : ∀ (v : Int32) (r : Nat), r ≤ n → q < r → CS n (-1) (tq_lp c n tq_as (tq_rp c n (tq_rp c n (tq_atom c n (tq_S c n 1)) tq_md) tq_as) r) (k v (nI r)).2.1 (k v (nI r)).2.2.1) :
    CS n (-1) (tq_rp c n (tq_rp c n (tq_atom c n (tq_S c n 1)) tq_md) tq_as (q + 1)) (fx_c_X12_sum_5_p45 0 (nI n) g L v k (nI q)).2.1 (fx_c_X12_sum_5_p45 0 (nI n) g L v k (nI q)).2.2.1 := by
  have hn := hT.2
  rw [tq_rp_lp (tq_rp_PG (c := c) (n := n) (A := tq_md) (tq_atom_PG (c := c) (n := n) (tq_S_PG (c := c) (n := n) 1)) (by decide)) (by decide) (by omega)]
  simp only [fx_c_X12_sum_5_p45, fx_c_X12_sum_5_p5b, fx_c_X12_sum_5_p77b, fx_c_X12_sum_5_p77, exc1, exc3, exc4, exl]
  rw [nI_1]
  have hg := (tq_rp_PG (c := c) (n := n) (A := tq_md) (tq_atom_PG (c := c) (n := n) (tq_S_PG (c := c) (n := n) 1)) (by decide)) (q + 1) (by omega)
  refine CS_seq hn (rx_c_X12_term_5 hT hG (p := q + 1) (by omega) L) hg.1 (fun r hr eq1 eq2 z2 z3 => ?_) (fun z => ?_)
  · have hqr : q < r := by have := hg.2 z2; omega
    rw [if_pos eq2, eq1]
    exact hk _ _ hr hqr
  · rw [if_neg z, if_neg z]
    exact ⟨rfl, rfl⟩
theorem rx_c_X12_sum_5_p45b {c g : Nat → Int32} {n : Nat} (hT : TB c n) (hG : TG c g n) (k : Int32 → Int32 → Int32 × Int32 × Int32 × Int32) (q : Nat) (hq : q < n) (v : Int32) (L : Nat → Int32) (hk : ∀ (v : Int32) (r : Nat), r ≤ n → q < r → CS n (-1) (tq_lp c n tq_as (tq_rp c n (tq_rp c n (tq_atom c n (tq_S c n 1)) tq_md) tq_as) r) (k v (nI r)).2.1 (k v (nI r)).2.2.1) :
    CS n (-1) (tq_rp c n (tq_rp c n (tq_atom c n (tq_S c n 1)) tq_md) tq_as (q + 1)) (fx_c_X12_sum_5_p45b 0 (nI n) g L v k (nI q)).2.1 (fx_c_X12_sum_5_p45b 0 (nI n) g L v k (nI q)).2.2.1 := by
  have hn := hT.2
  rw [tq_rp_lp (tq_rp_PG (c := c) (n := n) (A := tq_md) (tq_atom_PG (c := c) (n := n) (tq_S_PG (c := c) (n := n) 1)) (by decide)) (by decide) (by omega)]
  simp only [fx_c_X12_sum_5_p45b, fx_c_X12_sum_5_p5b, fx_c_X12_sum_5_p77b, fx_c_X12_sum_5_p77, exc1, exc3, exc4, exl]
  rw [nI_1]
  have hg := (tq_rp_PG (c := c) (n := n) (A := tq_md) (tq_atom_PG (c := c) (n := n) (tq_S_PG (c := c) (n := n) 1)) (by decide)) (q + 1) (by omega)
  refine CS_seq hn (rx_c_X12_term_5 hT hG (p := q + 1) (by omega) L) hg.1 (fun r hr eq1 eq2 z2 z3 => ?_) (fun z => ?_)
  · have hqr : q < r := by have := hg.2 z2; omega
    rw [if_pos eq2, eq1]
    exact hk _ _ hr hqr
  · rw [if_neg z, if_neg z]
    exact ⟨rfl, rfl⟩
theorem rx_c_X12_sum_5_p5 {c g : Nat → Int32} {n : Nat} (hT : TB c n) (hG : TG c g n) (L : Nat → Int32) : ∀ (F : Nat) (v : Int32) (p : Nat), p ≤ n → n < p + F → CS n (-1) (tq_lp c n tq_as (tq_rp c n (tq_rp c n (tq_atom c n (tq_S c n 1)) tq_md) tq_as) p) (fx_c_X12_sum_5_p5 0 (nI n) g L F v (nI p)).2.1 (fx_c_X12_sum_5_p5 0 (nI n) g L F v (nI p)).2.2.1 := by
  have hn := hT.2
  intro F
  induction F with
  | zero => intro v p h1 h2; omega
  | succ F ih =>
    intro v p h1 h2
    have g3 := tq_pk_ge (c := c) h1
    have g5 := tq_pk_le (c := c) h1
    have hpp := tq_pk_pk (c := c) h1
    have hk : ∀ (v : Int32) (r : Nat), r ≤ n → tq_pk c n p < r → CS n (-1) (tq_lp c n tq_as (tq_rp c n (tq_rp c n (tq_atom c n (tq_S c n 1)) tq_md) tq_as) r) (fx_c_X12_sum_5_p5 0 (nI n) g L F v (nI r)).2.1 (fx_c_X12_sum_5_p5 0 (nI n) g L F v (nI r)).2.2.1 := fun v r k1 k2 => ih v r k1 (by omega)
    rw [fs_c_X12_sum_5_p5, if_pos rfl]
    simp only [exc1, exc2]
    rw [rx_c_X12_look hT hG h1]
    simp only []
    rw [rx_c_X12_look hT hG g5, rx_c_X12_look_1 hT hG g5 hpp, hpp]
    simp only []
    by_cases h1 : tq_ch c n (tq_pk c n p) = -1
    · rw [if_pos h1, if_pos h1, tq_lp_f (by rw [h1]; decide)]
      exact CS_t g5
    · have g4 := tq_ch_lt h1
      rw [if_neg h1, if_neg h1]
      by_cases h2 : tq_ch c n (tq_pk c n p) = 43
      · rw [if_pos h2, if_pos h2, tq_lp_t (by rw [h2]; decide)]
        exact rx_c_X12_sum_5_p45b hT hG _ _ g4 v L hk
      · rw [if_neg h2]
        by_cases h3 : tq_ch c n (tq_pk c n p) = 45
        · rw [if_pos h3, if_neg h1, if_neg h2, tq_lp_t (by rw [h3]; decide)]
          exact rx_c_X12_sum_5_p45 hT hG _ _ g4 v L hk
        · rw [if_neg h3, if_neg h1, tq_lp_f (tq_bf (fun z => by rcases tq_as2 z with z | z <;> contradiction))]
          exact CS_t g5
theorem rx_c_X12_sum_5_rp {c g : Nat → Int32} {n : Nat} (hT : TB c n) (hG : TG c g n) {p : Nat} (hp : p ≤ n) (L : Nat → Int32) : CS n (-1) (tq_rp c n (tq_rp c n (tq_atom c n (tq_S c n 1)) tq_md) tq_as p) (fx_c_X12_sum_5 0 (nI n) (nI p) g L).2.1 (fx_c_X12_sum_5 0 (nI n) (nI p) g L).2.2.1 := by
  have hn := hT.2
  rw [tq_rp_lp (tq_rp_PG (c := c) (n := n) (A := tq_md) (tq_atom_PG (c := c) (n := n) (tq_S_PG (c := c) (n := n) 1)) (by decide)) (by decide) hp]
  simp only [fx_c_X12_sum_5, fx_c_X12_sum_5_p5b, exc1, exc3, exc4]
  have hg := (tq_rp_PG (c := c) (n := n) (A := tq_md) (tq_atom_PG (c := c) (n := n) (tq_S_PG (c := c) (n := n) 1)) (by decide)) p hp
  refine CS_seq hn (rx_c_X12_term_5 hT hG hp L) hg.1 (fun r hr eq1 eq2 z2 z3 => ?_) (fun z => ?_)
  · rw [if_pos eq2, eq1]
    exact rx_c_X12_sum_5_p5 hT hG L exF _ r hr (by have := hT.2; unfold exF; omega)
  · rw [if_neg z, if_neg z]
    exact ⟨rfl, rfl⟩
theorem rx_c_X12_sum_5 {c g : Nat → Int32} {n : Nat} (hT : TB c n) (hG : TG c g n) {p : Nat} (hp : p ≤ n) (L : Nat → Int32) : CS n (-1) (tq_SM c n 1 p) (fx_c_X12_sum_5 0 (nI n) (nI p) g L).2.1 (fx_c_X12_sum_5 0 (nI n) (nI p) g L).2.2.1 := CS_e (rx_c_X12_sum_5_rp hT hG hp L) (tq_nest (tq_atom_PG (tq_S_PG 1)) (by decide) (by decide) hp).symm
theorem fs_c_X12_atom_4_p90 (h0_f8 : Int32) (h0_f9 : Int32) (h0_5c : Nat → Int32) (F : Nat) (j90_l3 : Int32) (j90_l2 : Int32) (j90_h0_f10 : Int32) : fx_c_X12_atom_4_p90 h0_f8 h0_f9 h0_5c (F + 1) j90_l3 j90_l2 j90_h0_f10 = ((if j90_l3 = j90_l3 then (exc1 (fx_c_X12_isDigit h0_f8 h0_f9 j90_h0_f10 h0_5c) fun (r_1 : Int32) => (if r_1 = 0 then (j90_l2, j90_h0_f10, (-1), 4) else (if j90_l3 = 4 then (exc1 (fx_c_X12_fails) fun (r_27 : Int32) => (0, j90_h0_f10, j90_h0_f10, 4)) else (exl (10 * j90_l2) fun (x_16 : Int32) => (exl (h0_f8 + j90_h0_f10) fun (x_17 : Int32) => (exl (h0_5c (x_17 : Int32).toNatClampNeg) fun (x_19 : Int32) => (exl (x_16 + x_19) fun (x_20 : Int32) => (exl (x_20 - 48) fun (x_21 : Int32) => (exl (j90_h0_f10 + 1) fun (x_22 : Int32) => (exl (j90_l3 + 1) fun (x_25 : Int32) => ((fx_c_X12_atom_4_p90 h0_f8 h0_f9 h0_5c F) x_25 x_21 x_22))))))))))) else default) : Int32 × Int32 × Int32 × Int32) := rfl
theorem rx_c_X12_atom_4_p90 {c g : Nat → Int32} {n : Nat} (hT : TB c n) (hG : TG c g n) : ∀ (F j : Nat) (v : Int32) (p : Nat), p ≤ n → j ≤ 4 → 4 < j + F → CS n (-1) (tq_ds c n (4 - j) p) (fx_c_X12_atom_4_p90 0 (nI n) g F (nI j) v (nI p)).2.1 (fx_c_X12_atom_4_p90 0 (nI n) g F (nI j) v (nI p)).2.2.1 := by
  have hn := hT.2
  intro F
  induction F with
  | zero => intro j v p h1 h2 h3; omega
  | succ F ih =>
    intro j v p h1 h2 h3
    rw [fs_c_X12_atom_4_p90, if_pos rfl]
    simp only [exc1, exl]
    rw [rx_c_X12_isDigit hT hG h1]
    cases hb : tq_dg (tq_ch c n p) with
    | false =>
      rw [px_i0, if_pos rfl]
      have e : tq_ds c n (4 - j) p = (true, p) := by
        cases hj : 4 - j with
        | zero => show (if tq_dg (tq_ch c n p) then (false, p) else (true, p)) = _; rw [hb]; rfl
        | succ k => show (if tq_dg (tq_ch c n p) then tq_ds c n k (p + 1) else (true, p)) = _; rw [hb]; rfl
      rw [e]
      exact CS_t h1
    | true =>
      have g4 := tq_dg_lt hb
      rw [px_i1, if_neg (show ¬ (1 : Int32) = 0 by decide)]
      by_cases hj : j = 4
      · subst hj
        rw [if_pos (show nI 4 = 4 from rfl)]
        have e : tq_ds c n (4 - 4) p = (false, p) := by show (if tq_dg (tq_ch c n p) then (false, p) else (true, p)) = _; rw [hb]; rfl
        rw [e]
        exact CS_f h1
      · have h4 : ¬ nI j = 4 := fun z => hj ((nI_eq (a := j) (b := 4) (by omega) (by omega)).mp z)
        obtain ⟨k, hk⟩ : ∃ k, 4 - j = k + 1 := ⟨3 - j, by omega⟩
        have e : tq_ds c n (4 - j) p = tq_ds c n (4 - (j + 1)) (p + 1) := by
          have hk2 : 4 - (j + 1) = k := by omega
          rw [hk, hk2]
          show (if tq_dg (tq_ch c n p) then tq_ds c n k (p + 1) else (true, p)) = _
          rw [hb]
          rfl
        rw [if_neg h4, e, nI_1, nI_1]
        exact ih (j + 1) _ (p + 1) (by omega) (by omega) (by omega)
theorem rx_c_X12_atom_4 {c g : Nat → Int32} {n : Nat} (hT : TB c n) (hG : TG c g n) {p : Nat} (hp : p ≤ n) (L : Nat → Int32) : CS n (-1) (tq_atom c n (tq_S c n 2) p) (fx_c_X12_atom_4 0 (nI n) (nI p) g L).2.1 (fx_c_X12_atom_4 0 (nI n) (nI p) g L).2.2.1 := by
  have hn := hT.2
  have g3 := tq_pk_ge (c := c) hp
  have g5 := tq_pk_le (c := c) hp
  have hpp := tq_pk_pk (c := c) hp
  simp only [fx_c_X12_atom_4, exc1, exc2, exc3, exc4, exl]
  rw [rx_c_X12_look hT hG hp]
  simp only []
  have hd := rx_c_X12_isDigit hT hG g5
  have h86 : tq_dg (tq_ch c n (tq_pk c n p)) = false → fx_c_X12_atom_4_p86 0 (nI n) g (nI (tq_pk c n p)) (nI (tq_pk c n p)) = (0, nI (tq_pk c n p), nI (tq_pk c n p), 4) := fun hb => by
    simp only [fx_c_X12_atom_4_p86, fx_c_X12_atom_4_p90b, exc1]
    rw [rx_c_X12_isDigit_1 hT hG g5, hb, px_i0, if_pos rfl]
  by_cases h1 : tq_ch c n (tq_pk c n p) = -1
  · have hb : tq_dg (tq_ch c n (tq_pk c n p)) = false := by rw [h1]; decide
    have es : tq_atom c n (tq_S c n 2) p = (false, tq_pk c n p) := by unfold tq_atom; rw [if_neg (by rw [h1]; decide), if_neg (by rw [h1]; decide)]; unfold tq_nm; rw [if_neg (by rw [hb]; decide)]
    rw [if_pos h1, hd, hb, px_i0, if_pos rfl, h86 hb, es]
    exact CS_f g5
  · obtain ⟨j, hj, ej⟩ := RG_nI (tq_ch_RG0 hT h1) (by decide)
    have hl := rx_let j hj
    rw [← ej] at hl
    rw [if_neg h1]
    rcases hl with ⟨i1, i2⟩ | ⟨i1, i2⟩
    · rw [i1, if_pos rfl]
      by_cases h91 : tq_ch c n (tq_pk c n p) = 91
      · have g4 := tq_ch_ne h91 (by decide)
        have es : tq_atom c n (tq_S c n 2) p = tq_bind (tq_SM c n 1 (tq_pk c n p + 1)) (tq_ex c n 93) := by unfold tq_atom; rw [if_neg (by rw [i2]; decide), if_pos h91]; rfl
        have hgi : fx_c_X12_goesIn_4 (nI (tq_pk c n p)) = (1, nI (tq_pk c n p + 1)) := by simp only [fx_c_X12_goesIn_4, exl]; rw [nI_1]
        rw [if_pos h91, es, hgi]
        refine CS_seq hn (rx_c_X12_sum_5 hT hG (p := tq_pk c n p + 1) (by omega) L) (tq_SM_PG _ (by omega)).1 (fun q hq eq1 eq2 _ _ => ?_) (fun z => ?_)
        · rw [if_pos eq2, eq1, rx_c_X12_takes_1 hT hG hq (by decide)]
          have k5 := tq_pk_le (c := c) hq
          unfold tq_ex
          by_cases h5 : tq_ch c n (tq_pk c n q) = 93
          · have k4 := tq_ch_ne h5 (by decide)
            rw [if_pos h5, if_pos h5, if_pos rfl]
            exact CS_t (by omega)
          · rw [if_neg h5, if_neg h5, if_neg (show ¬ (0 : Int32) = 1 by decide)]
            exact CS_f k5
        · rw [if_neg z]
          exact ⟨rfl, rfl⟩
      · rw [if_neg h91, hd]
        cases hb : tq_dg (tq_ch c n (tq_pk c n p)) with
        | false =>
          have es : tq_atom c n (tq_S c n 2) p = (false, tq_pk c n p) := by unfold tq_atom; rw [if_neg (by rw [i2]; decide), if_neg h91]; unfold tq_nm; rw [if_neg (by rw [hb]; decide)]
          rw [px_i0, if_pos rfl, h86 hb, es]
          exact CS_f g5
        | true =>
          have es : tq_atom c n (tq_S c n 2) p = tq_ds c n (4 - 0) (tq_pk c n p) := by
            unfold tq_atom
            rw [if_neg (by rw [i2]; decide), if_neg h91]
            unfold tq_nm
            rw [if_pos hb]
            show _ = (if tq_dg (tq_ch c n (tq_pk c n p)) then tq_ds c n 3 (tq_pk c n p + 1) else (true, tq_pk c n p))
            rw [if_pos hb]
          rw [px_i1, if_neg (show ¬ (1 : Int32) = 0 by decide), es]
          exact rx_c_X12_atom_4_p90 hT hG exF 0 0 (tq_pk c n p) g5 (by omega) (by have := hT.2; unfold exF; omega)
    · have g4 := tq_A_lt tq_lt_m1 i2
      have es : tq_atom c n (tq_S c n 2) p = (true, tq_pk c n p + 1) := by unfold tq_atom; rw [if_pos i2]
      rw [i1, if_neg (by decide), es, nI_1]
      exact CS_t (by omega)
theorem fs_c_X12_term_4_p5 (h0_f8 : Int32) (h0_f9 : Int32) (h0_5c : Nat → Int32) (h0_4c : Nat → Int32) (F : Nat) (j5_l1 : Int32) (j5_h0_f10 : Int32) : fx_c_X12_term_4_p5 h0_f8 h0_f9 h0_5c h0_4c (F + 1) j5_l1 j5_h0_f10 = ((if j5_l1 = j5_l1 then (exc2 (fx_c_X12_look h0_f8 h0_f9 j5_h0_f10 h0_5c) fun (r_76 : Int32) (x_77 : Int32) => (if r_76 = (-1) then (exc2 (fx_c_X12_look h0_f8 h0_f9 x_77 h0_5c) fun (r_92 : Int32) (x_93 : Int32) => (if r_92 = (-1) then (j5_l1, x_93, (-1), 4) else (if r_92 = 47 then (exc1 (fx_c_X12_look_1 h0_f8 h0_f9 x_93 h0_5c) fun (r_111 : Int32) => (if r_111 = (-1) then (default) else (if r_111 = 42 then (fx_c_X12_term_4_p45b h0_f8 h0_f9 h0_5c h0_4c j5_l1 (fx_c_X12_term_4_p5 h0_f8 h0_f9 h0_5c h0_4c F) x_93) else (fx_c_X12_term_4_p45 h0_f8 h0_f9 h0_5c h0_4c j5_l1 (fx_c_X12_term_4_p5 h0_f8 h0_f9 h0_5c h0_4c F) x_93)))) else (j5_l1, x_93, (-1), 4)))) else (if r_76 = 42 then (exc1 (fx_c_X12_look_1 h0_f8 h0_f9 x_77 h0_5c) fun (r_128 : Int32) => (if r_128 = (-1) then (default) else (if r_128 = 42 then (fx_c_X12_term_4_p45b h0_f8 h0_f9 h0_5c h0_4c j5_l1 (fx_c_X12_term_4_p5 h0_f8 h0_f9 h0_5c h0_4c F) x_77) else (fx_c_X12_term_4_p45 h0_f8 h0_f9 h0_5c h0_4c j5_l1 (fx_c_X12_term_4_p5 h0_f8 h0_f9 h0_5c h0_4c F) x_77)))) else (exc1 (fx_c_X12_look_1 h0_f8 h0_f9 x_77 h0_5c) fun (r_142 : Int32) => (if r_142 = (-1) then (default) else (if r_142 = 47 then (exc1 (fx_c_X12_look_1 h0_f8 h0_f9 x_77 h0_5c) fun (r_156 : Int32) => (if r_156 = (-1) then (default) else (if r_156 = 42 then (fx_c_X12_term_4_p45b h0_f8 h0_f9 h0_5c h0_4c j5_l1 (fx_c_X12_term_4_p5 h0_f8 h0_f9 h0_5c h0_4c F) x_77) else (fx_c_X12_term_4_p45 h0_f8 h0_f9 h0_5c h0_4c j5_l1 (fx_c_X12_term_4_p5 h0_f8 h0_f9 h0_5c h0_4c F) x_77)))) else (j5_l1, x_77, (-1), 4))))))) else default) : Int32 × Int32 × Int32 × Int32) := rfl
theorem rx_c_X12_term_4_p45 {c g : Nat → Int32} {n : Nat} (hT : TB c n) (hG : TG c g n) (k : Int32 → Int32 → Int32 × Int32 × Int32 × Int32) (q : Nat) (hq : q < n) (v : Int32) (L : Nat → Int32) (hk : ∀ (v : Int32) (r : Nat), r ≤ n → q < r → CS n (-1) (tq_lp c n tq_md (tq_rp c n (tq_atom c n (tq_S c n 2)) tq_md) r) (k v (nI r)).2.1 (k v (nI r)).2.2.1) :
    CS n (-1) (tq_rp c n (tq_atom c n (tq_S c n 2)) tq_md (q + 1)) (fx_c_X12_term_4_p45 0 (nI n) g L v k (nI q)).2.1 (fx_c_X12_term_4_p45 0 (nI n) g L v k (nI q)).2.2.1 := by
  have hn := hT.2
  rw [tq_rp_lp (tq_atom_PG (c := c) (n := n) (tq_S_PG (c := c) (n := n) 2)) (by decide) (by omega)]
  simp only [fx_c_X12_term_4_p45, fx_c_X12_term_4_p5b, fx_c_X12_term_4_p87c, fx_c_X12_term_4_p87d, fx_c_X12_term_4_p87b, fx_c_X12_term_4_p87, exc1, exc3, exc4, exl]
  rw [nI_1]
  have hg := (tq_atom_PG (c := c) (n := n) (tq_S_PG (c := c) (n := n) 2)) (q + 1) (by omega)
  refine CS_seq hn (rx_c_X12_atom_4 hT hG (p := q + 1) (by omega) L) hg.1 (fun r hr eq1 eq2 z2 z3 => ?_) (fun z => ?_)
  · have hqr : q < r := by have := hg.2 z2; omega
    rw [if_pos eq2, eq1]
    split <;> exact hk _ _ hr hqr
  · rw [if_neg z, if_neg z]
    exact ⟨rfl, rfl⟩
theorem rx_c_X12_term_4_p45b {c g : Nat → Int32} {n : Nat} (hT : TB c n) (hG : TG c g n) (k : Int32 → Int32 → Int32 × Int32 × Int32 × Int32) (q : Nat) (hq : q < n) (v : Int32) (L : Nat → Int32) (hk : ∀ (v : Int32) (r : Nat), r ≤ n → q < r → CS n (-1) (tq_lp c n tq_md (tq_rp c n (tq_atom c n (tq_S c n 2)) tq_md) r) (k v (nI r)).2.1 (k v (nI r)).2.2.1) :
    CS n (-1) (tq_rp c n (tq_atom c n (tq_S c n 2)) tq_md (q + 1)) (fx_c_X12_term_4_p45b 0 (nI n) g L v k (nI q)).2.1 (fx_c_X12_term_4_p45b 0 (nI n) g L v k (nI q)).2.2.1 := by
  have hn := hT.2
  rw [tq_rp_lp (tq_atom_PG (c := c) (n := n) (tq_S_PG (c := c) (n := n) 2)) (by decide) (by omega)]
  simp only [fx_c_X12_term_4_p45b, fx_c_X12_term_4_p5b, fx_c_X12_term_4_p87c, fx_c_X12_term_4_p87d, fx_c_X12_term_4_p87b, fx_c_X12_term_4_p87, exc1, exc3, exc4, exl]
  rw [nI_1]
  have hg := (tq_atom_PG (c := c) (n := n) (tq_S_PG (c := c) (n := n) 2)) (q + 1) (by omega)
  refine CS_seq hn (rx_c_X12_atom_4 hT hG (p := q + 1) (by omega) L) hg.1 (fun r hr eq1 eq2 z2 z3 => ?_) (fun z => ?_)
  · have hqr : q < r := by have := hg.2 z2; omega
    rw [if_pos eq2, eq1]
    exact hk _ _ hr hqr
  · rw [if_neg z, if_neg z]
    exact ⟨rfl, rfl⟩
theorem rx_c_X12_term_4_p5 {c g : Nat → Int32} {n : Nat} (hT : TB c n) (hG : TG c g n) (L : Nat → Int32) : ∀ (F : Nat) (v : Int32) (p : Nat), p ≤ n → n < p + F → CS n (-1) (tq_lp c n tq_md (tq_rp c n (tq_atom c n (tq_S c n 2)) tq_md) p) (fx_c_X12_term_4_p5 0 (nI n) g L F v (nI p)).2.1 (fx_c_X12_term_4_p5 0 (nI n) g L F v (nI p)).2.2.1 := by
  have hn := hT.2
  intro F
  induction F with
  | zero => intro v p h1 h2; omega
  | succ F ih =>
    intro v p h1 h2
    have g3 := tq_pk_ge (c := c) h1
    have g5 := tq_pk_le (c := c) h1
    have hpp := tq_pk_pk (c := c) h1
    have hk : ∀ (v : Int32) (r : Nat), r ≤ n → tq_pk c n p < r → CS n (-1) (tq_lp c n tq_md (tq_rp c n (tq_atom c n (tq_S c n 2)) tq_md) r) (fx_c_X12_term_4_p5 0 (nI n) g L F v (nI r)).2.1 (fx_c_X12_term_4_p5 0 (nI n) g L F v (nI r)).2.2.1 := fun v r k1 k2 => ih v r k1 (by omega)
    rw [fs_c_X12_term_4_p5, if_pos rfl]
    simp only [exc1, exc2]
    rw [rx_c_X12_look hT hG h1]
    simp only []
    rw [rx_c_X12_look hT hG g5, rx_c_X12_look_1 hT hG g5 hpp, hpp]
    simp only []
    by_cases h1 : tq_ch c n (tq_pk c n p) = -1
    · rw [if_pos h1, if_pos h1, tq_lp_f (by rw [h1]; decide)]
      exact CS_t g5
    · have g4 := tq_ch_lt h1
      rw [if_neg h1, if_neg h1]
      by_cases h2 : tq_ch c n (tq_pk c n p) = 42
      · rw [if_pos h2, if_pos h2, tq_lp_t (by rw [h2]; decide)]
        exact rx_c_X12_term_4_p45b hT hG _ _ g4 v L hk
      · rw [if_neg h2]
        by_cases h3 : tq_ch c n (tq_pk c n p) = 47
        · rw [if_pos h3, if_neg h1, if_neg h2, tq_lp_t (by rw [h3]; decide)]
          exact rx_c_X12_term_4_p45 hT hG _ _ g4 v L hk
        · rw [if_neg h3, if_neg h1, tq_lp_f (tq_bf (fun z => by rcases tq_md2 z with z | z <;> contradiction))]
          exact CS_t g5
theorem rx_c_X12_term_4_rp {c g : Nat → Int32} {n : Nat} (hT : TB c n) (hG : TG c g n) {p : Nat} (hp : p ≤ n) (L : Nat → Int32) : CS n (-1) (tq_rp c n (tq_atom c n (tq_S c n 2)) tq_md p) (fx_c_X12_term_4 0 (nI n) (nI p) g L).2.1 (fx_c_X12_term_4 0 (nI n) (nI p) g L).2.2.1 := by
  have hn := hT.2
  rw [tq_rp_lp (tq_atom_PG (c := c) (n := n) (tq_S_PG (c := c) (n := n) 2)) (by decide) hp]
  simp only [fx_c_X12_term_4, fx_c_X12_term_4_p5b, exc1, exc3, exc4]
  have hg := (tq_atom_PG (c := c) (n := n) (tq_S_PG (c := c) (n := n) 2)) p hp
  refine CS_seq hn (rx_c_X12_atom_4 hT hG hp L) hg.1 (fun r hr eq1 eq2 z2 z3 => ?_) (fun z => ?_)
  · rw [if_pos eq2, eq1]
    exact rx_c_X12_term_4_p5 hT hG L exF _ r hr (by have := hT.2; unfold exF; omega)
  · rw [if_neg z, if_neg z]
    exact ⟨rfl, rfl⟩
theorem rx_c_X12_term_4 {c g : Nat → Int32} {n : Nat} (hT : TB c n) (hG : TG c g n) {p : Nat} (hp : p ≤ n) (L : Nat → Int32) : CS n (-1) (tq_rp c n (tq_atom c n (tq_S c n 2)) tq_md p) (fx_c_X12_term_4 0 (nI n) (nI p) g L).2.1 (fx_c_X12_term_4 0 (nI n) (nI p) g L).2.2.1 := rx_c_X12_term_4_rp hT hG hp L
theorem fs_c_X12_sum_4_p5 (h0_f8 : Int32) (h0_f9 : Int32) (h0_5c : Nat → Int32) (h0_4c : Nat → Int32) (F : Nat) (j5_l1 : Int32) (j5_h0_f10 : Int32) : fx_c_X12_sum_4_p5 h0_f8 h0_f9 h0_5c h0_4c (F + 1) j5_l1 j5_h0_f10 = ((if j5_l1 = j5_l1 then (exc2 (fx_c_X12_look h0_f8 h0_f9 j5_h0_f10 h0_5c) fun (r_77 : Int32) (x_78 : Int32) => (if r_77 = (-1) then (exc2 (fx_c_X12_look h0_f8 h0_f9 x_78 h0_5c) fun (r_93 : Int32) (x_94 : Int32) => (if r_93 = (-1) then (j5_l1, x_94, (-1), 4) else (if r_93 = 45 then (exc1 (fx_c_X12_look_1 h0_f8 h0_f9 x_94 h0_5c) fun (r_112 : Int32) => (if r_112 = (-1) then (default) else (if r_112 = 43 then (fx_c_X12_sum_4_p45b h0_f8 h0_f9 h0_5c h0_4c j5_l1 (fx_c_X12_sum_4_p5 h0_f8 h0_f9 h0_5c h0_4c F) x_94) else (fx_c_X12_sum_4_p45 h0_f8 h0_f9 h0_5c h0_4c j5_l1 (fx_c_X12_sum_4_p5 h0_f8 h0_f9 h0_5c h0_4c F) x_94)))) else (j5_l1, x_94, (-1), 4)))) else (if r_77 = 43 then (exc1 (fx_c_X12_look_1 h0_f8 h0_f9 x_78 h0_5c) fun (r_129 : Int32) => (if r_129 = (-1) then (default) else (if r_129 = 43 then (fx_c_X12_sum_4_p45b h0_f8 h0_f9 h0_5c h0_4c j5_l1 (fx_c_X12_sum_4_p5 h0_f8 h0_f9 h0_5c h0_4c F) x_78) else (fx_c_X12_sum_4_p45 h0_f8 h0_f9 h0_5c h0_4c j5_l1 (fx_c_X12_sum_4_p5 h0_f8 h0_f9 h0_5c h0_4c F) x_78)))) else (exc1 (fx_c_X12_look_1 h0_f8 h0_f9 x_78 h0_5c) fun (r_143 : Int32) => (if r_143 = (-1) then (default) else (if r_143 = 45 then (exc1 (fx_c_X12_look_1 h0_f8 h0_f9 x_78 h0_5c) fun (r_157 : Int32) => (if r_157 = (-1) then (default) else (if r_157 = 43 then (fx_c_X12_sum_4_p45b h0_f8 h0_f9 h0_5c h0_4c j5_l1 (fx_c_X12_sum_4_p5 h0_f8 h0_f9 h0_5c h0_4c F) x_78) else (fx_c_X12_sum_4_p45 h0_f8 h0_f9 h0_5c h0_4c j5_l1 (fx_c_X12_sum_4_p5 h0_f8 h0_f9 h0_5c h0_4c F) x_78)))) else (j5_l1, x_78, (-1), 4))))))) else default) : Int32 × Int32 × Int32 × Int32) := rfl
theorem rx_c_X12_sum_4_p45 {c g : Nat → Int32} {n : Nat} (hT : TB c n) (hG : TG c g n) (k : Int32 → Int32 → Int32 × Int32 × Int32 × Int32) (q : Nat) (hq : q < n) (v : Int32) (L : Nat → Int32) (hk : ∀ (v : Int32) (r : Nat), r ≤ n → q < r → CS n (-1) (tq_lp c n tq_as (tq_rp c n (tq_rp c n (tq_atom c n (tq_S c n 2)) tq_md) tq_as) r) (k v (nI r)).2.1 (k v (nI r)).2.2.1) :
    CS n (-1) (tq_rp c n (tq_rp c n (tq_atom c n (tq_S c n 2)) tq_md) tq_as (q + 1)) (fx_c_X12_sum_4_p45 0 (nI n) g L v k (nI q)).2.1 (fx_c_X12_sum_4_p45 0 (nI n) g L v k (nI q)).2.2.1 := by
  have hn := hT.2
  rw [tq_rp_lp (tq_rp_PG (c := c) (n := n) (A := tq_md) (tq_atom_PG (c := c) (n := n) (tq_S_PG (c := c) (n := n) 2)) (by decide)) (by decide) (by omega)]
  simp only [fx_c_X12_sum_4_p45, fx_c_X12_sum_4_p5b, fx_c_X12_sum_4_p77b, fx_c_X12_sum_4_p77, exc1, exc3, exc4, exl]
  rw [nI_1]
  have hg := (tq_rp_PG (c := c) (n := n) (A := tq_md) (tq_atom_PG (c := c) (n := n) (tq_S_PG (c := c) (n := n) 2)) (by decide)) (q + 1) (by omega)
  refine CS_seq hn (rx_c_X12_term_4 hT hG (p := q + 1) (by omega) L) hg.1 (fun r hr eq1 eq2 z2 z3 => ?_) (fun z => ?_)
  · have hqr : q < r := by have := hg.2 z2; omega
    rw [if_pos eq2, eq1]
    exact hk _ _ hr hqr
  · rw [if_neg z, if_neg z]
    exact ⟨rfl, rfl⟩
theorem rx_c_X12_sum_4_p45b {c g : Nat → Int32} {n : Nat} (hT : TB c n) (hG : TG c g n) (k : Int32 → Int32 → Int32 × Int32 × Int32 × Int32) (q : Nat) (hq : q < n) (v : Int32) (L : Nat → Int32) (hk : ∀ (v : Int32) (r : Nat), r ≤ n → q < r → CS n (-1) (tq_lp c n tq_as (tq_rp c n (tq_rp c n (tq_atom c n (tq_S c n 2)) tq_md) tq_as) r) (k v (nI r)).2.1 (k v (nI r)).2.2.1) :
    CS n (-1) (tq_rp c n (tq_rp c n (tq_atom c n (tq_S c n 2)) tq_md) tq_as (q + 1)) (fx_c_X12_sum_4_p45b 0 (nI n) g L v k (nI q)).2.1 (fx_c_X12_sum_4_p45b 0 (nI n) g L v k (nI q)).2.2.1 := by
  have hn := hT.2
  rw [tq_rp_lp (tq_rp_PG (c := c) (n := n) (A := tq_md) (tq_atom_PG (c := c) (n := n) (tq_S_PG (c := c) (n := n) 2)) (by decide)) (by decide) (by omega)]
  simp only [fx_c_X12_sum_4_p45b, fx_c_X12_sum_4_p5b, fx_c_X12_sum_4_p77b, fx_c_X12_sum_4_p77, exc1, exc3, exc4, exl]
  rw [nI_1]
  have hg := (tq_rp_PG (c := c) (n := n) (A := tq_md) (tq_atom_PG (c := c) (n := n) (tq_S_PG (c := c) (n := n) 2)) (by decide)) (q + 1) (by omega)
  refine CS_seq hn (rx_c_X12_term_4 hT hG (p := q + 1) (by omega) L) hg.1 (fun r hr eq1 eq2 z2 z3 => ?_) (fun z => ?_)
  · have hqr : q < r := by have := hg.2 z2; omega
    rw [if_pos eq2, eq1]
    exact hk _ _ hr hqr
  · rw [if_neg z, if_neg z]
    exact ⟨rfl, rfl⟩
theorem rx_c_X12_sum_4_p5 {c g : Nat → Int32} {n : Nat} (hT : TB c n) (hG : TG c g n) (L : Nat → Int32) : ∀ (F : Nat) (v : Int32) (p : Nat), p ≤ n → n < p + F → CS n (-1) (tq_lp c n tq_as (tq_rp c n (tq_rp c n (tq_atom c n (tq_S c n 2)) tq_md) tq_as) p) (fx_c_X12_sum_4_p5 0 (nI n) g L F v (nI p)).2.1 (fx_c_X12_sum_4_p5 0 (nI n) g L F v (nI p)).2.2.1 := by
  have hn := hT.2
  intro F
  induction F with
  | zero => intro v p h1 h2; omega
  | succ F ih =>
    intro v p h1 h2
    have g3 := tq_pk_ge (c := c) h1
    have g5 := tq_pk_le (c := c) h1
    have hpp := tq_pk_pk (c := c) h1
    have hk : ∀ (v : Int32) (r : Nat), r ≤ n → tq_pk c n p < r → CS n (-1) (tq_lp c n tq_as (tq_rp c n (tq_rp c n (tq_atom c n (tq_S c n 2)) tq_md) tq_as) r) (fx_c_X12_sum_4_p5 0 (nI n) g L F v (nI r)).2.1 (fx_c_X12_sum_4_p5 0 (nI n) g L F v (nI r)).2.2.1 := fun v r k1 k2 => ih v r k1 (by omega)
    rw [fs_c_X12_sum_4_p5, if_pos rfl]
    simp only [exc1, exc2]
    rw [rx_c_X12_look hT hG h1]
    simp only []
    rw [rx_c_X12_look hT hG g5, rx_c_X12_look_1 hT hG g5 hpp, hpp]
    simp only []
    by_cases h1 : tq_ch c n (tq_pk c n p) = -1
    · rw [if_pos h1, if_pos h1, tq_lp_f (by rw [h1]; decide)]
      exact CS_t g5
    · have g4 := tq_ch_lt h1
      rw [if_neg h1, if_neg h1]
      by_cases h2 : tq_ch c n (tq_pk c n p) = 43
      · rw [if_pos h2, if_pos h2, tq_lp_t (by rw [h2]; decide)]
        exact rx_c_X12_sum_4_p45b hT hG _ _ g4 v L hk
      · rw [if_neg h2]
        by_cases h3 : tq_ch c n (tq_pk c n p) = 45
        · rw [if_pos h3, if_neg h1, if_neg h2, tq_lp_t (by rw [h3]; decide)]
          exact rx_c_X12_sum_4_p45 hT hG _ _ g4 v L hk
        · rw [if_neg h3, if_neg h1, tq_lp_f (tq_bf (fun z => by rcases tq_as2 z with z | z <;> contradiction))]
          exact CS_t g5
theorem rx_c_X12_sum_4_rp {c g : Nat → Int32} {n : Nat} (hT : TB c n) (hG : TG c g n) {p : Nat} (hp : p ≤ n) (L : Nat → Int32) : CS n (-1) (tq_rp c n (tq_rp c n (tq_atom c n (tq_S c n 2)) tq_md) tq_as p) (fx_c_X12_sum_4 0 (nI n) (nI p) g L).2.1 (fx_c_X12_sum_4 0 (nI n) (nI p) g L).2.2.1 := by
  have hn := hT.2
  rw [tq_rp_lp (tq_rp_PG (c := c) (n := n) (A := tq_md) (tq_atom_PG (c := c) (n := n) (tq_S_PG (c := c) (n := n) 2)) (by decide)) (by decide) hp]
  simp only [fx_c_X12_sum_4, fx_c_X12_sum_4_p5b, exc1, exc3, exc4]
  have hg := (tq_rp_PG (c := c) (n := n) (A := tq_md) (tq_atom_PG (c := c) (n := n) (tq_S_PG (c := c) (n := n) 2)) (by decide)) p hp
  refine CS_seq hn (rx_c_X12_term_4 hT hG hp L) hg.1 (fun r hr eq1 eq2 z2 z3 => ?_) (fun z => ?_)
  · rw [if_pos eq2, eq1]
    exact rx_c_X12_sum_4_p5 hT hG L exF _ r hr (by have := hT.2; unfold exF; omega)
  · rw [if_neg z, if_neg z]
    exact ⟨rfl, rfl⟩
theorem rx_c_X12_sum_4 {c g : Nat → Int32} {n : Nat} (hT : TB c n) (hG : TG c g n) {p : Nat} (hp : p ≤ n) (L : Nat → Int32) : CS n (-1) (tq_SM c n 2 p) (fx_c_X12_sum_4 0 (nI n) (nI p) g L).2.1 (fx_c_X12_sum_4 0 (nI n) (nI p) g L).2.2.1 := CS_e (rx_c_X12_sum_4_rp hT hG hp L) (tq_nest (tq_atom_PG (tq_S_PG 2)) (by decide) (by decide) hp).symm
theorem fs_c_X12_atom_3_p90 (h0_f8 : Int32) (h0_f9 : Int32) (h0_5c : Nat → Int32) (F : Nat) (j90_l3 : Int32) (j90_l2 : Int32) (j90_h0_f10 : Int32) : fx_c_X12_atom_3_p90 h0_f8 h0_f9 h0_5c (F + 1) j90_l3 j90_l2 j90_h0_f10 = ((if j90_l3 = j90_l3 then (exc1 (fx_c_X12_isDigit h0_f8 h0_f9 j90_h0_f10 h0_5c) fun (r_1 : Int32) => (if r_1 = 0 then (j90_l2, j90_h0_f10, (-1), 3) else (if j90_l3 = 4 then (exc1 (fx_c_X12_fails) fun (r_27 : Int32) => (0, j90_h0_f10, j90_h0_f10, 3)) else (exl (10 * j90_l2) fun (x_16 : Int32) => (exl (h0_f8 + j90_h0_f10) fun (x_17 : Int32) => (exl (h0_5c (x_17 : Int32).toNatClampNeg) fun (x_19 : Int32) => (exl (x_16 + x_19) fun (x_20 : Int32) => (exl (x_20 - 48) fun (x_21 : Int32) => (exl (j90_h0_f10 + 1) fun (x_22 : Int32) => (exl (j90_l3 + 1) fun (x_25 : Int32) => ((fx_c_X12_atom_3_p90 h0_f8 h0_f9 h0_5c F) x_25 x_21 x_22))))))))))) else default) : Int32 × Int32 × Int32 × Int32) := rfl
theorem rx_c_X12_atom_3_p90 {c g : Nat → Int32} {n : Nat} (hT : TB c n) (hG : TG c g n) : ∀ (F j : Nat) (v : Int32) (p : Nat), p ≤ n → j ≤ 4 → 4 < j + F → CS n (-1) (tq_ds c n (4 - j) p) (fx_c_X12_atom_3_p90 0 (nI n) g F (nI j) v (nI p)).2.1 (fx_c_X12_atom_3_p90 0 (nI n) g F (nI j) v (nI p)).2.2.1 := by
  have hn := hT.2
  intro F
  induction F with
  | zero => intro j v p h1 h2 h3; omega
  | succ F ih =>
    intro j v p h1 h2 h3
    rw [fs_c_X12_atom_3_p90, if_pos rfl]
    simp only [exc1, exl]
    rw [rx_c_X12_isDigit hT hG h1]
    cases hb : tq_dg (tq_ch c n p) with
    | false =>
      rw [px_i0, if_pos rfl]
      have e : tq_ds c n (4 - j) p = (true, p) := by
        cases hj : 4 - j with
        | zero => show (if tq_dg (tq_ch c n p) then (false, p) else (true, p)) = _; rw [hb]; rfl
        | succ k => show (if tq_dg (tq_ch c n p) then tq_ds c n k (p + 1) else (true, p)) = _; rw [hb]; rfl
      rw [e]
      exact CS_t h1
    | true =>
      have g4 := tq_dg_lt hb
      rw [px_i1, if_neg (show ¬ (1 : Int32) = 0 by decide)]
      by_cases hj : j = 4
      · subst hj
        rw [if_pos (show nI 4 = 4 from rfl)]
        have e : tq_ds c n (4 - 4) p = (false, p) := by show (if tq_dg (tq_ch c n p) then (false, p) else (true, p)) = _; rw [hb]; rfl
        rw [e]
        exact CS_f h1
      · have h4 : ¬ nI j = 4 := fun z => hj ((nI_eq (a := j) (b := 4) (by omega) (by omega)).mp z)
        obtain ⟨k, hk⟩ : ∃ k, 4 - j = k + 1 := ⟨3 - j, by omega⟩
        have e : tq_ds c n (4 - j) p = tq_ds c n (4 - (j + 1)) (p + 1) := by
          have hk2 : 4 - (j + 1) = k := by omega
          rw [hk, hk2]
          show (if tq_dg (tq_ch c n p) then tq_ds c n k (p + 1) else (true, p)) = _
          rw [hb]
          rfl
        rw [if_neg h4, e, nI_1, nI_1]
        exact ih (j + 1) _ (p + 1) (by omega) (by omega) (by omega)
theorem rx_c_X12_atom_3 {c g : Nat → Int32} {n : Nat} (hT : TB c n) (hG : TG c g n) {p : Nat} (hp : p ≤ n) (L : Nat → Int32) : CS n (-1) (tq_atom c n (tq_S c n 3) p) (fx_c_X12_atom_3 0 (nI n) (nI p) g L).2.1 (fx_c_X12_atom_3 0 (nI n) (nI p) g L).2.2.1 := by
  have hn := hT.2
  have g3 := tq_pk_ge (c := c) hp
  have g5 := tq_pk_le (c := c) hp
  have hpp := tq_pk_pk (c := c) hp
  simp only [fx_c_X12_atom_3, exc1, exc2, exc3, exc4, exl]
  rw [rx_c_X12_look hT hG hp]
  simp only []
  have hd := rx_c_X12_isDigit hT hG g5
  have h86 : tq_dg (tq_ch c n (tq_pk c n p)) = false → fx_c_X12_atom_3_p86 0 (nI n) g (nI (tq_pk c n p)) (nI (tq_pk c n p)) = (0, nI (tq_pk c n p), nI (tq_pk c n p), 3) := fun hb => by
    simp only [fx_c_X12_atom_3_p86, fx_c_X12_atom_3_p90b, exc1]
    rw [rx_c_X12_isDigit_1 hT hG g5, hb, px_i0, if_pos rfl]
  by_cases h1 : tq_ch c n (tq_pk c n p) = -1
  · have hb : tq_dg (tq_ch c n (tq_pk c n p)) = false := by rw [h1]; decide
    have es : tq_atom c n (tq_S c n 3) p = (false, tq_pk c n p) := by unfold tq_atom; rw [if_neg (by rw [h1]; decide), if_neg (by rw [h1]; decide)]; unfold tq_nm; rw [if_neg (by rw [hb]; decide)]
    rw [if_pos h1, hd, hb, px_i0, if_pos rfl, h86 hb, es]
    exact CS_f g5
  · obtain ⟨j, hj, ej⟩ := RG_nI (tq_ch_RG0 hT h1) (by decide)
    have hl := rx_let j hj
    rw [← ej] at hl
    rw [if_neg h1]
    rcases hl with ⟨i1, i2⟩ | ⟨i1, i2⟩
    · rw [i1, if_pos rfl]
      by_cases h91 : tq_ch c n (tq_pk c n p) = 91
      · have g4 := tq_ch_ne h91 (by decide)
        have es : tq_atom c n (tq_S c n 3) p = tq_bind (tq_SM c n 2 (tq_pk c n p + 1)) (tq_ex c n 93) := by unfold tq_atom; rw [if_neg (by rw [i2]; decide), if_pos h91]; rfl
        have hgi : fx_c_X12_goesIn_3 (nI (tq_pk c n p)) = (1, nI (tq_pk c n p + 1)) := by simp only [fx_c_X12_goesIn_3, exl]; rw [nI_1]
        rw [if_pos h91, es, hgi]
        refine CS_seq hn (rx_c_X12_sum_4 hT hG (p := tq_pk c n p + 1) (by omega) L) (tq_SM_PG _ (by omega)).1 (fun q hq eq1 eq2 _ _ => ?_) (fun z => ?_)
        · rw [if_pos eq2, eq1, rx_c_X12_takes_1 hT hG hq (by decide)]
          have k5 := tq_pk_le (c := c) hq
          unfold tq_ex
          by_cases h5 : tq_ch c n (tq_pk c n q) = 93
          · have k4 := tq_ch_ne h5 (by decide)
            rw [if_pos h5, if_pos h5, if_pos rfl]
            exact CS_t (by omega)
          · rw [if_neg h5, if_neg h5, if_neg (show ¬ (0 : Int32) = 1 by decide)]
            exact CS_f k5
        · rw [if_neg z]
          exact ⟨rfl, rfl⟩
      · rw [if_neg h91, hd]
        cases hb : tq_dg (tq_ch c n (tq_pk c n p)) with
        | false =>
          have es : tq_atom c n (tq_S c n 3) p = (false, tq_pk c n p) := by unfold tq_atom; rw [if_neg (by rw [i2]; decide), if_neg h91]; unfold tq_nm; rw [if_neg (by rw [hb]; decide)]
          rw [px_i0, if_pos rfl, h86 hb, es]
          exact CS_f g5
        | true =>
          have es : tq_atom c n (tq_S c n 3) p = tq_ds c n (4 - 0) (tq_pk c n p) := by
            unfold tq_atom
            rw [if_neg (by rw [i2]; decide), if_neg h91]
            unfold tq_nm
            rw [if_pos hb]
            show _ = (if tq_dg (tq_ch c n (tq_pk c n p)) then tq_ds c n 3 (tq_pk c n p + 1) else (true, tq_pk c n p))
            rw [if_pos hb]
          rw [px_i1, if_neg (show ¬ (1 : Int32) = 0 by decide), es]
          exact rx_c_X12_atom_3_p90 hT hG exF 0 0 (tq_pk c n p) g5 (by omega) (by have := hT.2; unfold exF; omega)
    · have g4 := tq_A_lt tq_lt_m1 i2
      have es : tq_atom c n (tq_S c n 3) p = (true, tq_pk c n p + 1) := by unfold tq_atom; rw [if_pos i2]
      rw [i1, if_neg (by decide), es, nI_1]
      exact CS_t (by omega)
theorem fs_c_X12_term_3_p5 (h0_f8 : Int32) (h0_f9 : Int32) (h0_5c : Nat → Int32) (h0_4c : Nat → Int32) (F : Nat) (j5_l1 : Int32) (j5_h0_f10 : Int32) : fx_c_X12_term_3_p5 h0_f8 h0_f9 h0_5c h0_4c (F + 1) j5_l1 j5_h0_f10 = ((if j5_l1 = j5_l1 then (exc2 (fx_c_X12_look h0_f8 h0_f9 j5_h0_f10 h0_5c) fun (r_76 : Int32) (x_77 : Int32) => (if r_76 = (-1) then (exc2 (fx_c_X12_look h0_f8 h0_f9 x_77 h0_5c) fun (r_92 : Int32) (x_93 : Int32) => (if r_92 = (-1) then (j5_l1, x_93, (-1), 3) else (if r_92 = 47 then (exc1 (fx_c_X12_look_1 h0_f8 h0_f9 x_93 h0_5c) fun (r_111 : Int32) => (if r_111 = (-1) then (default) else (if r_111 = 42 then (fx_c_X12_term_3_p45b h0_f8 h0_f9 h0_5c h0_4c j5_l1 (fx_c_X12_term_3_p5 h0_f8 h0_f9 h0_5c h0_4c F) x_93) else (fx_c_X12_term_3_p45 h0_f8 h0_f9 h0_5c h0_4c j5_l1 (fx_c_X12_term_3_p5 h0_f8 h0_f9 h0_5c h0_4c F) x_93)))) else (j5_l1, x_93, (-1), 3)))) else (if r_76 = 42 then (exc1 (fx_c_X12_look_1 h0_f8 h0_f9 x_77 h0_5c) fun (r_128 : Int32) => (if r_128 = (-1) then (default) else (if r_128 = 42 then (fx_c_X12_term_3_p45b h0_f8 h0_f9 h0_5c h0_4c j5_l1 (fx_c_X12_term_3_p5 h0_f8 h0_f9 h0_5c h0_4c F) x_77) else (fx_c_X12_term_3_p45 h0_f8 h0_f9 h0_5c h0_4c j5_l1 (fx_c_X12_term_3_p5 h0_f8 h0_f9 h0_5c h0_4c F) x_77)))) else (exc1 (fx_c_X12_look_1 h0_f8 h0_f9 x_77 h0_5c) fun (r_142 : Int32) => (if r_142 = (-1) then (default) else (if r_142 = 47 then (exc1 (fx_c_X12_look_1 h0_f8 h0_f9 x_77 h0_5c) fun (r_156 : Int32) => (if r_156 = (-1) then (default) else (if r_156 = 42 then (fx_c_X12_term_3_p45b h0_f8 h0_f9 h0_5c h0_4c j5_l1 (fx_c_X12_term_3_p5 h0_f8 h0_f9 h0_5c h0_4c F) x_77) else (fx_c_X12_term_3_p45 h0_f8 h0_f9 h0_5c h0_4c j5_l1 (fx_c_X12_term_3_p5 h0_f8 h0_f9 h0_5c h0_4c F) x_77)))) else (j5_l1, x_77, (-1), 3))))))) else default) : Int32 × Int32 × Int32 × Int32) := rfl
theorem rx_c_X12_term_3_p45 {c g : Nat → Int32} {n : Nat} (hT : TB c n) (hG : TG c g n) (k : Int32 → Int32 → Int32 × Int32 × Int32 × Int32) (q : Nat) (hq : q < n) (v : Int32) (L : Nat → Int32) (hk : ∀ (v : Int32) (r : Nat), r ≤ n → q < r → CS n (-1) (tq_lp c n tq_md (tq_rp c n (tq_atom c n (tq_S c n 3)) tq_md) r) (k v (nI r)).2.1 (k v (nI r)).2.2.1) :
    CS n (-1) (tq_rp c n (tq_atom c n (tq_S c n 3)) tq_md (q + 1)) (fx_c_X12_term_3_p45 0 (nI n) g L v k (nI q)).2.1 (fx_c_X12_term_3_p45 0 (nI n) g L v k (nI q)).2.2.1 := by
  have hn := hT.2
  rw [tq_rp_lp (tq_atom_PG (c := c) (n := n) (tq_S_PG (c := c) (n := n) 3)) (by decide) (by omega)]
  simp only [fx_c_X12_term_3_p45, fx_c_X12_term_3_p5b, fx_c_X12_term_3_p87c, fx_c_X12_term_3_p87d, fx_c_X12_term_3_p87b, fx_c_X12_term_3_p87, exc1, exc3, exc4, exl]
  rw [nI_1]
  have hg := (tq_atom_PG (c := c) (n := n) (tq_S_PG (c := c) (n := n) 3)) (q + 1) (by omega)
  refine CS_seq hn (rx_c_X12_atom_3 hT hG (p := q + 1) (by omega) L) hg.1 (fun r hr eq1 eq2 z2 z3 => ?_) (fun z => ?_)
  · have hqr : q < r := by have := hg.2 z2; omega
    rw [if_pos eq2, eq1]
    split <;> exact hk _ _ hr hqr
  · rw [if_neg z, if_neg z]
    exact ⟨rfl, rfl⟩
theorem rx_c_X12_term_3_p45b {c g : Nat → Int32} {n : Nat} (hT : TB c n) (hG : TG c g n) (k : Int32 → Int32 → Int32 × Int32 × Int32 × Int32) (q : Nat) (hq : q < n) (v : Int32) (L : Nat → Int32) (hk : ∀ (v : Int32) (r : Nat), r ≤ n → q < r → CS n (-1) (tq_lp c n tq_md (tq_rp c n (tq_atom c n (tq_S c n 3)) tq_md) r) (k v (nI r)).2.1 (k v (nI r)).2.2.1) :
    CS n (-1) (tq_rp c n (tq_atom c n (tq_S c n 3)) tq_md (q + 1)) (fx_c_X12_term_3_p45b 0 (nI n) g L v k (nI q)).2.1 (fx_c_X12_term_3_p45b 0 (nI n) g L v k (nI q)).2.2.1 := by
  have hn := hT.2
  rw [tq_rp_lp (tq_atom_PG (c := c) (n := n) (tq_S_PG (c := c) (n := n) 3)) (by decide) (by omega)]
  simp only [fx_c_X12_term_3_p45b, fx_c_X12_term_3_p5b, fx_c_X12_term_3_p87c, fx_c_X12_term_3_p87d, fx_c_X12_term_3_p87b, fx_c_X12_term_3_p87, exc1, exc3, exc4, exl]
  rw [nI_1]
  have hg := (tq_atom_PG (c := c) (n := n) (tq_S_PG (c := c) (n := n) 3)) (q + 1) (by omega)
  refine CS_seq hn (rx_c_X12_atom_3 hT hG (p := q + 1) (by omega) L) hg.1 (fun r hr eq1 eq2 z2 z3 => ?_) (fun z => ?_)
  · have hqr : q < r := by have := hg.2 z2; omega
    rw [if_pos eq2, eq1]
    exact hk _ _ hr hqr
  · rw [if_neg z, if_neg z]
    exact ⟨rfl, rfl⟩
theorem rx_c_X12_term_3_p5 {c g : Nat → Int32} {n : Nat} (hT : TB c n) (hG : TG c g n) (L : Nat → Int32) : ∀ (F : Nat) (v : Int32) (p : Nat), p ≤ n → n < p + F → CS n (-1) (tq_lp c n tq_md (tq_rp c n (tq_atom c n (tq_S c n 3)) tq_md) p) (fx_c_X12_term_3_p5 0 (nI n) g L F v (nI p)).2.1 (fx_c_X12_term_3_p5 0 (nI n) g L F v (nI p)).2.2.1 := by
  have hn := hT.2
  intro F
  induction F with
  | zero => intro v p h1 h2; omega
  | succ F ih =>
    intro v p h1 h2
    have g3 := tq_pk_ge (c := c) h1
    have g5 := tq_pk_le (c := c) h1
    have hpp := tq_pk_pk (c := c) h1
    have hk : ∀ (v : Int32) (r : Nat), r ≤ n → tq_pk c n p < r → CS n (-1) (tq_lp c n tq_md (tq_rp c n (tq_atom c n (tq_S c n 3)) tq_md) r) (fx_c_X12_term_3_p5 0 (nI n) g L F v (nI r)).2.1 (fx_c_X12_term_3_p5 0 (nI n) g L F v (nI r)).2.2.1 := fun v r k1 k2 => ih v r k1 (by omega)
    rw [fs_c_X12_term_3_p5, if_pos rfl]
    simp only [exc1, exc2]
    rw [rx_c_X12_look hT hG h1]
    simp only []
    rw [rx_c_X12_look hT hG g5, rx_c_X12_look_1 hT hG g5 hpp, hpp]
    simp only []
    by_cases h1 : tq_ch c n (tq_pk c n p) = -1
    · rw [if_pos h1, if_pos h1, tq_lp_f (by rw [h1]; decide)]
      exact CS_t g5
    · have g4 := tq_ch_lt h1
      rw [if_neg h1, if_neg h1]
      by_cases h2 : tq_ch c n (tq_pk c n p) = 42
      · rw [if_pos h2, if_pos h2, tq_lp_t (by rw [h2]; decide)]
        exact rx_c_X12_term_3_p45b hT hG _ _ g4 v L hk
      · rw [if_neg h2]
        by_cases h3 : tq_ch c n (tq_pk c n p) = 47
        · rw [if_pos h3, if_neg h1, if_neg h2, tq_lp_t (by rw [h3]; decide)]
          exact rx_c_X12_term_3_p45 hT hG _ _ g4 v L hk
        · rw [if_neg h3, if_neg h1, tq_lp_f (tq_bf (fun z => by rcases tq_md2 z with z | z <;> contradiction))]
          exact CS_t g5
theorem rx_c_X12_term_3_rp {c g : Nat → Int32} {n : Nat} (hT : TB c n) (hG : TG c g n) {p : Nat} (hp : p ≤ n) (L : Nat → Int32) : CS n (-1) (tq_rp c n (tq_atom c n (tq_S c n 3)) tq_md p) (fx_c_X12_term_3 0 (nI n) (nI p) g L).2.1 (fx_c_X12_term_3 0 (nI n) (nI p) g L).2.2.1 := by
  have hn := hT.2
  rw [tq_rp_lp (tq_atom_PG (c := c) (n := n) (tq_S_PG (c := c) (n := n) 3)) (by decide) hp]
  simp only [fx_c_X12_term_3, fx_c_X12_term_3_p5b, exc1, exc3, exc4]
  have hg := (tq_atom_PG (c := c) (n := n) (tq_S_PG (c := c) (n := n) 3)) p hp
  refine CS_seq hn (rx_c_X12_atom_3 hT hG hp L) hg.1 (fun r hr eq1 eq2 z2 z3 => ?_) (fun z => ?_)
  · rw [if_pos eq2, eq1]
    exact rx_c_X12_term_3_p5 hT hG L exF _ r hr (by have := hT.2; unfold exF; omega)
  · rw [if_neg z, if_neg z]
    exact ⟨rfl, rfl⟩
theorem rx_c_X12_term_3 {c g : Nat → Int32} {n : Nat} (hT : TB c n) (hG : TG c g n) {p : Nat} (hp : p ≤ n) (L : Nat → Int32) : CS n (-1) (tq_rp c n (tq_atom c n (tq_S c n 3)) tq_md p) (fx_c_X12_term_3 0 (nI n) (nI p) g L).2.1 (fx_c_X12_term_3 0 (nI n) (nI p) g L).2.2.1 := rx_c_X12_term_3_rp hT hG hp L
theorem fs_c_X12_sum_3_p5 (h0_f8 : Int32) (h0_f9 : Int32) (h0_5c : Nat → Int32) (h0_4c : Nat → Int32) (F : Nat) (j5_l1 : Int32) (j5_h0_f10 : Int32) : fx_c_X12_sum_3_p5 h0_f8 h0_f9 h0_5c h0_4c (F + 1) j5_l1 j5_h0_f10 = ((if j5_l1 = j5_l1 then (exc2 (fx_c_X12_look h0_f8 h0_f9 j5_h0_f10 h0_5c) fun (r_77 : Int32) (x_78 : Int32) => (if r_77 = (-1) then (exc2 (fx_c_X12_look h0_f8 h0_f9 x_78 h0_5c) fun (r_93 : Int32) (x_94 : Int32) => (if r_93 = (-1) then (j5_l1, x_94, (-1), 3) else (if r_93 = 45 then (exc1 (fx_c_X12_look_1 h0_f8 h0_f9 x_94 h0_5c) fun (r_112 : Int32) => (if r_112 = (-1) then (default) else (if r_112 = 43 then (fx_c_X12_sum_3_p45b h0_f8 h0_f9 h0_5c h0_4c j5_l1 (fx_c_X12_sum_3_p5 h0_f8 h0_f9 h0_5c h0_4c F) x_94) else (fx_c_X12_sum_3_p45 h0_f8 h0_f9 h0_5c h0_4c j5_l1 (fx_c_X12_sum_3_p5 h0_f8 h0_f9 h0_5c h0_4c F) x_94)))) else (j5_l1, x_94, (-1), 3)))) else (if r_77 = 43 then (exc1 (fx_c_X12_look_1 h0_f8 h0_f9 x_78 h0_5c) fun (r_129 : Int32) => (if r_129 = (-1) then (default) else (if r_129 = 43 then (fx_c_X12_sum_3_p45b h0_f8 h0_f9 h0_5c h0_4c j5_l1 (fx_c_X12_sum_3_p5 h0_f8 h0_f9 h0_5c h0_4c F) x_78) else (fx_c_X12_sum_3_p45 h0_f8 h0_f9 h0_5c h0_4c j5_l1 (fx_c_X12_sum_3_p5 h0_f8 h0_f9 h0_5c h0_4c F) x_78)))) else (exc1 (fx_c_X12_look_1 h0_f8 h0_f9 x_78 h0_5c) fun (r_143 : Int32) => (if r_143 = (-1) then (default) else (if r_143 = 45 then (exc1 (fx_c_X12_look_1 h0_f8 h0_f9 x_78 h0_5c) fun (r_157 : Int32) => (if r_157 = (-1) then (default) else (if r_157 = 43 then (fx_c_X12_sum_3_p45b h0_f8 h0_f9 h0_5c h0_4c j5_l1 (fx_c_X12_sum_3_p5 h0_f8 h0_f9 h0_5c h0_4c F) x_78) else (fx_c_X12_sum_3_p45 h0_f8 h0_f9 h0_5c h0_4c j5_l1 (fx_c_X12_sum_3_p5 h0_f8 h0_f9 h0_5c h0_4c F) x_78)))) else (j5_l1, x_78, (-1), 3))))))) else default) : Int32 × Int32 × Int32 × Int32) := rfl
theorem rx_c_X12_sum_3_p45 {c g : Nat → Int32} {n : Nat} (hT : TB c n) (hG : TG c g n) (k : Int32 → Int32 → Int32 × Int32 × Int32 × Int32) (q : Nat) (hq : q < n) (v : Int32) (L : Nat → Int32) (hk : ∀ (v : Int32) (r : Nat), r ≤ n → q < r → CS n (-1) (tq_lp c n tq_as (tq_rp c n (tq_rp c n (tq_atom c n (tq_S c n 3)) tq_md) tq_as) r) (k v (nI r)).2.1 (k v (nI r)).2.2.1) :
    CS n (-1) (tq_rp c n (tq_rp c n (tq_atom c n (tq_S c n 3)) tq_md) tq_as (q + 1)) (fx_c_X12_sum_3_p45 0 (nI n) g L v k (nI q)).2.1 (fx_c_X12_sum_3_p45 0 (nI n) g L v k (nI q)).2.2.1 := by
  have hn := hT.2
  rw [tq_rp_lp (tq_rp_PG (c := c) (n := n) (A := tq_md) (tq_atom_PG (c := c) (n := n) (tq_S_PG (c := c) (n := n) 3)) (by decide)) (by decide) (by omega)]
  simp only [fx_c_X12_sum_3_p45, fx_c_X12_sum_3_p5b, fx_c_X12_sum_3_p77b, fx_c_X12_sum_3_p77, exc1, exc3, exc4, exl]
  rw [nI_1]
  have hg := (tq_rp_PG (c := c) (n := n) (A := tq_md) (tq_atom_PG (c := c) (n := n) (tq_S_PG (c := c) (n := n) 3)) (by decide)) (q + 1) (by omega)
  refine CS_seq hn (rx_c_X12_term_3 hT hG (p := q + 1) (by omega) L) hg.1 (fun r hr eq1 eq2 z2 z3 => ?_) (fun z => ?_)
  · have hqr : q < r := by have := hg.2 z2; omega
    rw [if_pos eq2, eq1]
    exact hk _ _ hr hqr
  · rw [if_neg z, if_neg z]
    exact ⟨rfl, rfl⟩
theorem rx_c_X12_sum_3_p45b {c g : Nat → Int32} {n : Nat} (hT : TB c n) (hG : TG c g n) (k : Int32 → Int32 → Int32 × Int32 × Int32 × Int32) (q : Nat) (hq : q < n) (v : Int32) (L : Nat → Int32) (hk : ∀ (v : Int32) (r : Nat), r ≤ n → q < r → CS n (-1) (tq_lp c n tq_as (tq_rp c n (tq_rp c n (tq_atom c n (tq_S c n 3)) tq_md) tq_as) r) (k v (nI r)).2.1 (k v (nI r)).2.2.1) :
    CS n (-1) (tq_rp c n (tq_rp c n (tq_atom c n (tq_S c n 3)) tq_md) tq_as (q + 1)) (fx_c_X12_sum_3_p45b 0 (nI n) g L v k (nI q)).2.1 (fx_c_X12_sum_3_p45b 0 (nI n) g L v k (nI q)).2.2.1 := by
  have hn := hT.2
  rw [tq_rp_lp (tq_rp_PG (c := c) (n := n) (A := tq_md) (tq_atom_PG (c := c) (n := n) (tq_S_PG (c := c) (n := n) 3)) (by decide)) (by decide) (by omega)]
  simp only [fx_c_X12_sum_3_p45b, fx_c_X12_sum_3_p5b, fx_c_X12_sum_3_p77b, fx_c_X12_sum_3_p77, exc1, exc3, exc4, exl]
  rw [nI_1]
  have hg := (tq_rp_PG (c := c) (n := n) (A := tq_md) (tq_atom_PG (c := c) (n := n) (tq_S_PG (c := c) (n := n) 3)) (by decide)) (q + 1) (by omega)
  refine CS_seq hn (rx_c_X12_term_3 hT hG (p := q + 1) (by omega) L) hg.1 (fun r hr eq1 eq2 z2 z3 => ?_) (fun z => ?_)
  · have hqr : q < r := by have := hg.2 z2; omega
    rw [if_pos eq2, eq1]
    exact hk _ _ hr hqr
  · rw [if_neg z, if_neg z]
    exact ⟨rfl, rfl⟩
theorem rx_c_X12_sum_3_p5 {c g : Nat → Int32} {n : Nat} (hT : TB c n) (hG : TG c g n) (L : Nat → Int32) : ∀ (F : Nat) (v : Int32) (p : Nat), p ≤ n → n < p + F → CS n (-1) (tq_lp c n tq_as (tq_rp c n (tq_rp c n (tq_atom c n (tq_S c n 3)) tq_md) tq_as) p) (fx_c_X12_sum_3_p5 0 (nI n) g L F v (nI p)).2.1 (fx_c_X12_sum_3_p5 0 (nI n) g L F v (nI p)).2.2.1 := by
  have hn := hT.2
  intro F
  induction F with
  | zero => intro v p h1 h2; omega
  | succ F ih =>
    intro v p h1 h2
    have g3 := tq_pk_ge (c := c) h1
    have g5 := tq_pk_le (c := c) h1
    have hpp := tq_pk_pk (c := c) h1
    have hk : ∀ (v : Int32) (r : Nat), r ≤ n → tq_pk c n p < r → CS n (-1) (tq_lp c n tq_as (tq_rp c n (tq_rp c n (tq_atom c n (tq_S c n 3)) tq_md) tq_as) r) (fx_c_X12_sum_3_p5 0 (nI n) g L F v (nI r)).2.1 (fx_c_X12_sum_3_p5 0 (nI n) g L F v (nI r)).2.2.1 := fun v r k1 k2 => ih v r k1 (by omega)
    rw [fs_c_X12_sum_3_p5, if_pos rfl]
    simp only [exc1, exc2]
    rw [rx_c_X12_look hT hG h1]
    simp only []
    rw [rx_c_X12_look hT hG g5, rx_c_X12_look_1 hT hG g5 hpp, hpp]
    simp only []
    by_cases h1 : tq_ch c n (tq_pk c n p) = -1
    · rw [if_pos h1, if_pos h1, tq_lp_f (by rw [h1]; decide)]
      exact CS_t g5
    · have g4 := tq_ch_lt h1
      rw [if_neg h1, if_neg h1]
      by_cases h2 : tq_ch c n (tq_pk c n p) = 43
      · rw [if_pos h2, if_pos h2, tq_lp_t (by rw [h2]; decide)]
        exact rx_c_X12_sum_3_p45b hT hG _ _ g4 v L hk
      · rw [if_neg h2]
        by_cases h3 : tq_ch c n (tq_pk c n p) = 45
        · rw [if_pos h3, if_neg h1, if_neg h2, tq_lp_t (by rw [h3]; decide)]
          exact rx_c_X12_sum_3_p45 hT hG _ _ g4 v L hk
        · rw [if_neg h3, if_neg h1, tq_lp_f (tq_bf (fun z => by rcases tq_as2 z with z | z <;> contradiction))]
          exact CS_t g5
theorem rx_c_X12_sum_3_rp {c g : Nat → Int32} {n : Nat} (hT : TB c n) (hG : TG c g n) {p : Nat} (hp : p ≤ n) (L : Nat → Int32) : CS n (-1) (tq_rp c n (tq_rp c n (tq_atom c n (tq_S c n 3)) tq_md) tq_as p) (fx_c_X12_sum_3 0 (nI n) (nI p) g L).2.1 (fx_c_X12_sum_3 0 (nI n) (nI p) g L).2.2.1 := by
  have hn := hT.2
  rw [tq_rp_lp (tq_rp_PG (c := c) (n := n) (A := tq_md) (tq_atom_PG (c := c) (n := n) (tq_S_PG (c := c) (n := n) 3)) (by decide)) (by decide) hp]
  simp only [fx_c_X12_sum_3, fx_c_X12_sum_3_p5b, exc1, exc3, exc4]
  have hg := (tq_rp_PG (c := c) (n := n) (A := tq_md) (tq_atom_PG (c := c) (n := n) (tq_S_PG (c := c) (n := n) 3)) (by decide)) p hp
  refine CS_seq hn (rx_c_X12_term_3 hT hG hp L) hg.1 (fun r hr eq1 eq2 z2 z3 => ?_) (fun z => ?_)
  · rw [if_pos eq2, eq1]
    exact rx_c_X12_sum_3_p5 hT hG L exF _ r hr (by have := hT.2; unfold exF; omega)
  · rw [if_neg z, if_neg z]
    exact ⟨rfl, rfl⟩
theorem rx_c_X12_sum_3 {c g : Nat → Int32} {n : Nat} (hT : TB c n) (hG : TG c g n) {p : Nat} (hp : p ≤ n) (L : Nat → Int32) : CS n (-1) (tq_SM c n 3 p) (fx_c_X12_sum_3 0 (nI n) (nI p) g L).2.1 (fx_c_X12_sum_3 0 (nI n) (nI p) g L).2.2.1 := CS_e (rx_c_X12_sum_3_rp hT hG hp L) (tq_nest (tq_atom_PG (tq_S_PG 3)) (by decide) (by decide) hp).symm
theorem fs_c_X12_atom_2_p90 (h0_f8 : Int32) (h0_f9 : Int32) (h0_5c : Nat → Int32) (F : Nat) (j90_l3 : Int32) (j90_l2 : Int32) (j90_h0_f10 : Int32) : fx_c_X12_atom_2_p90 h0_f8 h0_f9 h0_5c (F + 1) j90_l3 j90_l2 j90_h0_f10 = ((if j90_l3 = j90_l3 then (exc1 (fx_c_X12_isDigit h0_f8 h0_f9 j90_h0_f10 h0_5c) fun (r_1 : Int32) => (if r_1 = 0 then (j90_l2, j90_h0_f10, (-1), 2) else (if j90_l3 = 4 then (exc1 (fx_c_X12_fails) fun (r_27 : Int32) => (0, j90_h0_f10, j90_h0_f10, 2)) else (exl (10 * j90_l2) fun (x_16 : Int32) => (exl (h0_f8 + j90_h0_f10) fun (x_17 : Int32) => (exl (h0_5c (x_17 : Int32).toNatClampNeg) fun (x_19 : Int32) => (exl (x_16 + x_19) fun (x_20 : Int32) => (exl (x_20 - 48) fun (x_21 : Int32) => (exl (j90_h0_f10 + 1) fun (x_22 : Int32) => (exl (j90_l3 + 1) fun (x_25 : Int32) => ((fx_c_X12_atom_2_p90 h0_f8 h0_f9 h0_5c F) x_25 x_21 x_22))))))))))) else default) : Int32 × Int32 × Int32 × Int32) := rfl
theorem rx_c_X12_atom_2_p90 {c g : Nat → Int32} {n : Nat} (hT : TB c n) (hG : TG c g n) : ∀ (F j : Nat) (v : Int32) (p : Nat), p ≤ n → j ≤ 4 → 4 < j + F → CS n (-1) (tq_ds c n (4 - j) p) (fx_c_X12_atom_2_p90 0 (nI n) g F (nI j) v (nI p)).2.1 (fx_c_X12_atom_2_p90 0 (nI n) g F (nI j) v (nI p)).2.2.1 := by
  have hn := hT.2
  intro F
  induction F with
  | zero => intro j v p h1 h2 h3; omega
  | succ F ih =>
    intro j v p h1 h2 h3
    rw [fs_c_X12_atom_2_p90, if_pos rfl]
    simp only [exc1, exl]
    rw [rx_c_X12_isDigit hT hG h1]
    cases hb : tq_dg (tq_ch c n p) with
    | false =>
      rw [px_i0, if_pos rfl]
      have e : tq_ds c n (4 - j) p = (true, p) := by
        cases hj : 4 - j with
        | zero => show (if tq_dg (tq_ch c n p) then (false, p) else (true, p)) = _; rw [hb]; rfl
        | succ k => show (if tq_dg (tq_ch c n p) then tq_ds c n k (p + 1) else (true, p)) = _; rw [hb]; rfl
      rw [e]
      exact CS_t h1
    | true =>
      have g4 := tq_dg_lt hb
      rw [px_i1, if_neg (show ¬ (1 : Int32) = 0 by decide)]
      by_cases hj : j = 4
      · subst hj
        rw [if_pos (show nI 4 = 4 from rfl)]
        have e : tq_ds c n (4 - 4) p = (false, p) := by show (if tq_dg (tq_ch c n p) then (false, p) else (true, p)) = _; rw [hb]; rfl
        rw [e]
        exact CS_f h1
      · have h4 : ¬ nI j = 4 := fun z => hj ((nI_eq (a := j) (b := 4) (by omega) (by omega)).mp z)
        obtain ⟨k, hk⟩ : ∃ k, 4 - j = k + 1 := ⟨3 - j, by omega⟩
        have e : tq_ds c n (4 - j) p = tq_ds c n (4 - (j + 1)) (p + 1) := by
          have hk2 : 4 - (j + 1) = k := by omega
          rw [hk, hk2]
          show (if tq_dg (tq_ch c n p) then tq_ds c n k (p + 1) else (true, p)) = _
          rw [hb]
          rfl
        rw [if_neg h4, e, nI_1, nI_1]
        exact ih (j + 1) _ (p + 1) (by omega) (by omega) (by omega)
theorem rx_c_X12_atom_2 {c g : Nat → Int32} {n : Nat} (hT : TB c n) (hG : TG c g n) {p : Nat} (hp : p ≤ n) (L : Nat → Int32) : CS n (-1) (tq_atom c n (tq_S c n 4) p) (fx_c_X12_atom_2 0 (nI n) (nI p) g L).2.1 (fx_c_X12_atom_2 0 (nI n) (nI p) g L).2.2.1 := by
  have hn := hT.2
  have g3 := tq_pk_ge (c := c) hp
  have g5 := tq_pk_le (c := c) hp
  have hpp := tq_pk_pk (c := c) hp
  simp only [fx_c_X12_atom_2, exc1, exc2, exc3, exc4, exl]
  rw [rx_c_X12_look hT hG hp]
  simp only []
  have hd := rx_c_X12_isDigit hT hG g5
  have h86 : tq_dg (tq_ch c n (tq_pk c n p)) = false → fx_c_X12_atom_2_p86 0 (nI n) g (nI (tq_pk c n p)) (nI (tq_pk c n p)) = (0, nI (tq_pk c n p), nI (tq_pk c n p), 2) := fun hb => by
    simp only [fx_c_X12_atom_2_p86, fx_c_X12_atom_2_p90b, exc1]
    rw [rx_c_X12_isDigit_1 hT hG g5, hb, px_i0, if_pos rfl]
  by_cases h1 : tq_ch c n (tq_pk c n p) = -1
  · have hb : tq_dg (tq_ch c n (tq_pk c n p)) = false := by rw [h1]; decide
    have es : tq_atom c n (tq_S c n 4) p = (false, tq_pk c n p) := by unfold tq_atom; rw [if_neg (by rw [h1]; decide), if_neg (by rw [h1]; decide)]; unfold tq_nm; rw [if_neg (by rw [hb]; decide)]
    rw [if_pos h1, hd, hb, px_i0, if_pos rfl, h86 hb, es]
    exact CS_f g5
  · obtain ⟨j, hj, ej⟩ := RG_nI (tq_ch_RG0 hT h1) (by decide)
    have hl := rx_let j hj
    rw [← ej] at hl
    rw [if_neg h1]
    rcases hl with ⟨i1, i2⟩ | ⟨i1, i2⟩
    · rw [i1, if_pos rfl]
      by_cases h91 : tq_ch c n (tq_pk c n p) = 91
      · have g4 := tq_ch_ne h91 (by decide)
        have es : tq_atom c n (tq_S c n 4) p = tq_bind (tq_SM c n 3 (tq_pk c n p + 1)) (tq_ex c n 93) := by unfold tq_atom; rw [if_neg (by rw [i2]; decide), if_pos h91]; rfl
        have hgi : fx_c_X12_goesIn_2 (nI (tq_pk c n p)) = (1, nI (tq_pk c n p + 1)) := by simp only [fx_c_X12_goesIn_2, exl]; rw [nI_1]
        rw [if_pos h91, es, hgi]
        refine CS_seq hn (rx_c_X12_sum_3 hT hG (p := tq_pk c n p + 1) (by omega) L) (tq_SM_PG _ (by omega)).1 (fun q hq eq1 eq2 _ _ => ?_) (fun z => ?_)
        · rw [if_pos eq2, eq1, rx_c_X12_takes_1 hT hG hq (by decide)]
          have k5 := tq_pk_le (c := c) hq
          unfold tq_ex
          by_cases h5 : tq_ch c n (tq_pk c n q) = 93
          · have k4 := tq_ch_ne h5 (by decide)
            rw [if_pos h5, if_pos h5, if_pos rfl]
            exact CS_t (by omega)
          · rw [if_neg h5, if_neg h5, if_neg (show ¬ (0 : Int32) = 1 by decide)]
            exact CS_f k5
        · rw [if_neg z]
          exact ⟨rfl, rfl⟩
      · rw [if_neg h91, hd]
        cases hb : tq_dg (tq_ch c n (tq_pk c n p)) with
        | false =>
          have es : tq_atom c n (tq_S c n 4) p = (false, tq_pk c n p) := by unfold tq_atom; rw [if_neg (by rw [i2]; decide), if_neg h91]; unfold tq_nm; rw [if_neg (by rw [hb]; decide)]
          rw [px_i0, if_pos rfl, h86 hb, es]
          exact CS_f g5
        | true =>
          have es : tq_atom c n (tq_S c n 4) p = tq_ds c n (4 - 0) (tq_pk c n p) := by
            unfold tq_atom
            rw [if_neg (by rw [i2]; decide), if_neg h91]
            unfold tq_nm
            rw [if_pos hb]
            show _ = (if tq_dg (tq_ch c n (tq_pk c n p)) then tq_ds c n 3 (tq_pk c n p + 1) else (true, tq_pk c n p))
            rw [if_pos hb]
          rw [px_i1, if_neg (show ¬ (1 : Int32) = 0 by decide), es]
          exact rx_c_X12_atom_2_p90 hT hG exF 0 0 (tq_pk c n p) g5 (by omega) (by have := hT.2; unfold exF; omega)
    · have g4 := tq_A_lt tq_lt_m1 i2
      have es : tq_atom c n (tq_S c n 4) p = (true, tq_pk c n p + 1) := by unfold tq_atom; rw [if_pos i2]
      rw [i1, if_neg (by decide), es, nI_1]
      exact CS_t (by omega)
theorem fs_c_X12_term_2_p5 (h0_f8 : Int32) (h0_f9 : Int32) (h0_5c : Nat → Int32) (h0_4c : Nat → Int32) (F : Nat) (j5_l1 : Int32) (j5_h0_f10 : Int32) : fx_c_X12_term_2_p5 h0_f8 h0_f9 h0_5c h0_4c (F + 1) j5_l1 j5_h0_f10 = ((if j5_l1 = j5_l1 then (exc2 (fx_c_X12_look h0_f8 h0_f9 j5_h0_f10 h0_5c) fun (r_76 : Int32) (x_77 : Int32) => (if r_76 = (-1) then (exc2 (fx_c_X12_look h0_f8 h0_f9 x_77 h0_5c) fun (r_92 : Int32) (x_93 : Int32) => (if r_92 = (-1) then (j5_l1, x_93, (-1), 2) else (if r_92 = 47 then (exc1 (fx_c_X12_look_1 h0_f8 h0_f9 x_93 h0_5c) fun (r_111 : Int32) => (if r_111 = (-1) then (default) else (if r_111 = 42 then (fx_c_X12_term_2_p45b h0_f8 h0_f9 h0_5c h0_4c j5_l1 (fx_c_X12_term_2_p5 h0_f8 h0_f9 h0_5c h0_4c F) x_93) else (fx_c_X12_term_2_p45 h0_f8 h0_f9 h0_5c h0_4c j5_l1 (fx_c_X12_term_2_p5 h0_f8 h0_f9 h0_5c h0_4c F) x_93)))) else (j5_l1, x_93, (-1), 2)))) else (if r_76 = 42 then (exc1 (fx_c_X12_look_1 h0_f8 h0_f9 x_77 h0_5c) fun (r_128 : Int32) => (if r_128 = (-1) then (default) else (if r_128 = 42 then (fx_c_X12_term_2_p45b h0_f8 h0_f9 h0_5c h0_4c j5_l1 (fx_c_X12_term_2_p5 h0_f8 h0_f9 h0_5c h0_4c F) x_77) else (fx_c_X12_term_2_p45 h0_f8 h0_f9 h0_5c h0_4c j5_l1 (fx_c_X12_term_2_p5 h0_f8 h0_f9 h0_5c h0_4c F) x_77)))) else (exc1 (fx_c_X12_look_1 h0_f8 h0_f9 x_77 h0_5c) fun (r_142 : Int32) => (if r_142 = (-1) then (default) else (if r_142 = 47 then (exc1 (fx_c_X12_look_1 h0_f8 h0_f9 x_77 h0_5c) fun (r_156 : Int32) => (if r_156 = (-1) then (default) else (if r_156 = 42 then (fx_c_X12_term_2_p45b h0_f8 h0_f9 h0_5c h0_4c j5_l1 (fx_c_X12_term_2_p5 h0_f8 h0_f9 h0_5c h0_4c F) x_77) else (fx_c_X12_term_2_p45 h0_f8 h0_f9 h0_5c h0_4c j5_l1 (fx_c_X12_term_2_p5 h0_f8 h0_f9 h0_5c h0_4c F) x_77)))) else (j5_l1, x_77, (-1), 2))))))) else default) : Int32 × Int32 × Int32 × Int32) := rfl
theorem rx_c_X12_term_2_p45 {c g : Nat → Int32} {n : Nat} (hT : TB c n) (hG : TG c g n) (k : Int32 → Int32 → Int32 × Int32 × Int32 × Int32) (q : Nat) (hq : q < n) (v : Int32) (L : Nat → Int32) (hk : ∀ (v : Int32) (r : Nat), r ≤ n → q < r → CS n (-1) (tq_lp c n tq_md (tq_rp c n (tq_atom c n (tq_S c n 4)) tq_md) r) (k v (nI r)).2.1 (k v (nI r)).2.2.1) :
    CS n (-1) (tq_rp c n (tq_atom c n (tq_S c n 4)) tq_md (q + 1)) (fx_c_X12_term_2_p45 0 (nI n) g L v k (nI q)).2.1 (fx_c_X12_term_2_p45 0 (nI n) g L v k (nI q)).2.2.1 := by
  have hn := hT.2
  rw [tq_rp_lp (tq_atom_PG (c := c) (n := n) (tq_S_PG (c := c) (n := n) 4)) (by decide) (by omega)]
  simp only [fx_c_X12_term_2_p45, fx_c_X12_term_2_p5b, fx_c_X12_term_2_p87c, fx_c_X12_term_2_p87d, fx_c_X12_term_2_p87b, fx_c_X12_term_2_p87, exc1, exc3, exc4, exl]
  rw [nI_1]
  have hg := (tq_atom_PG (c := c) (n := n) (tq_S_PG (c := c) (n := n) 4)) (q + 1) (by omega)
  refine CS_seq hn (rx_c_X12_atom_2 hT hG (p := q + 1) (by omega) L) hg.1 (fun r hr eq1 eq2 z2 z3 => ?_) (fun z => ?_)
  · have hqr : q < r := by have := hg.2 z2; omega
    rw [if_pos eq2, eq1]
    split <;> exact hk _ _ hr hqr
  · rw [if_neg z, if_neg z]
    exact ⟨rfl, rfl⟩
theorem rx_c_X12_term_2_p45b {c g : Nat → Int32} {n : Nat} (hT : TB c n) (hG : TG c g n) (k : Int32 → Int32 → Int32 × Int32 × Int32 × Int32) (q : Nat) (hq : q < n) (v : Int32) (L : Nat → Int32) (hk : ∀ (v : Int32) (r : Nat), r ≤ n → q < r → CS n (-1) (tq_lp c n tq_md (tq_rp c n (tq_atom c n (tq_S c n 4)) tq_md) r) (k v (nI r)).2.1 (k v (nI r)).2.2.1) :
    CS n (-1) (tq_rp c n (tq_atom c n (tq_S c n 4)) tq_md (q + 1)) (fx_c_X12_term_2_p45b 0 (nI n) g L v k (nI q)).2.1 (fx_c_X12_term_2_p45b 0 (nI n) g L v k (nI q)).2.2.1 := by
  have hn := hT.2
  rw [tq_rp_lp (tq_atom_PG (c := c) (n := n) (tq_S_PG (c := c) (n := n) 4)) (by decide) (by omega)]
  simp only [fx_c_X12_term_2_p45b, fx_c_X12_term_2_p5b, fx_c_X12_term_2_p87c, fx_c_X12_term_2_p87d, fx_c_X12_term_2_p87b, fx_c_X12_term_2_p87, exc1, exc3, exc4, exl]
  rw [nI_1]
  have hg := (tq_atom_PG (c := c) (n := n) (tq_S_PG (c := c) (n := n) 4)) (q + 1) (by omega)
  refine CS_seq hn (rx_c_X12_atom_2 hT hG (p := q + 1) (by omega) L) hg.1 (fun r hr eq1 eq2 z2 z3 => ?_) (fun z => ?_)
  · have hqr : q < r := by have := hg.2 z2; omega
    rw [if_pos eq2, eq1]
    exact hk _ _ hr hqr
  · rw [if_neg z, if_neg z]
    exact ⟨rfl, rfl⟩
theorem rx_c_X12_term_2_p5 {c g : Nat → Int32} {n : Nat} (hT : TB c n) (hG : TG c g n) (L : Nat → Int32) : ∀ (F : Nat) (v : Int32) (p : Nat), p ≤ n → n < p + F → CS n (-1) (tq_lp c n tq_md (tq_rp c n (tq_atom c n (tq_S c n 4)) tq_md) p) (fx_c_X12_term_2_p5 0 (nI n) g L F v (nI p)).2.1 (fx_c_X12_term_2_p5 0 (nI n) g L F v (nI p)).2.2.1 := by
  have hn := hT.2
  intro F
  induction F with
  | zero => intro v p h1 h2; omega
  | succ F ih =>
    intro v p h1 h2
    have g3 := tq_pk_ge (c := c) h1
    have g5 := tq_pk_le (c := c) h1
    have hpp := tq_pk_pk (c := c) h1
    have hk : ∀ (v : Int32) (r : Nat), r ≤ n → tq_pk c n p < r → CS n (-1) (tq_lp c n tq_md (tq_rp c n (tq_atom c n (tq_S c n 4)) tq_md) r) (fx_c_X12_term_2_p5 0 (nI n) g L F v (nI r)).2.1 (fx_c_X12_term_2_p5 0 (nI n) g L F v (nI r)).2.2.1 := fun v r k1 k2 => ih v r k1 (by omega)
    rw [fs_c_X12_term_2_p5, if_pos rfl]
    simp only [exc1, exc2]
    rw [rx_c_X12_look hT hG h1]
    simp only []
    rw [rx_c_X12_look hT hG g5, rx_c_X12_look_1 hT hG g5 hpp, hpp]
    simp only []
    by_cases h1 : tq_ch c n (tq_pk c n p) = -1
    · rw [if_pos h1, if_pos h1, tq_lp_f (by rw [h1]; decide)]
      exact CS_t g5
    · have g4 := tq_ch_lt h1
      rw [if_neg h1, if_neg h1]
      by_cases h2 : tq_ch c n (tq_pk c n p) = 42
      · rw [if_pos h2, if_pos h2, tq_lp_t (by rw [h2]; decide)]
        exact rx_c_X12_term_2_p45b hT hG _ _ g4 v L hk
      · rw [if_neg h2]
        by_cases h3 : tq_ch c n (tq_pk c n p) = 47
        · rw [if_pos h3, if_neg h1, if_neg h2, tq_lp_t (by rw [h3]; decide)]
          exact rx_c_X12_term_2_p45 hT hG _ _ g4 v L hk
        · rw [if_neg h3, if_neg h1, tq_lp_f (tq_bf (fun z => by rcases tq_md2 z with z | z <;> contradiction))]
          exact CS_t g5
theorem rx_c_X12_term_2_rp {c g : Nat → Int32} {n : Nat} (hT : TB c n) (hG : TG c g n) {p : Nat} (hp : p ≤ n) (L : Nat → Int32) : CS n (-1) (tq_rp c n (tq_atom c n (tq_S c n 4)) tq_md p) (fx_c_X12_term_2 0 (nI n) (nI p) g L).2.1 (fx_c_X12_term_2 0 (nI n) (nI p) g L).2.2.1 := by
  have hn := hT.2
  rw [tq_rp_lp (tq_atom_PG (c := c) (n := n) (tq_S_PG (c := c) (n := n) 4)) (by decide) hp]
  simp only [fx_c_X12_term_2, fx_c_X12_term_2_p5b, exc1, exc3, exc4]
  have hg := (tq_atom_PG (c := c) (n := n) (tq_S_PG (c := c) (n := n) 4)) p hp
  refine CS_seq hn (rx_c_X12_atom_2 hT hG hp L) hg.1 (fun r hr eq1 eq2 z2 z3 => ?_) (fun z => ?_)
  · rw [if_pos eq2, eq1]
    exact rx_c_X12_term_2_p5 hT hG L exF _ r hr (by have := hT.2; unfold exF; omega)
  · rw [if_neg z, if_neg z]
    exact ⟨rfl, rfl⟩
theorem rx_c_X12_term_2 {c g : Nat → Int32} {n : Nat} (hT : TB c n) (hG : TG c g n) {p : Nat} (hp : p ≤ n) (L : Nat → Int32) : CS n (-1) (tq_rp c n (tq_atom c n (tq_S c n 4)) tq_md p) (fx_c_X12_term_2 0 (nI n) (nI p) g L).2.1 (fx_c_X12_term_2 0 (nI n) (nI p) g L).2.2.1 := rx_c_X12_term_2_rp hT hG hp L
theorem fs_c_X12_sum_2_p5 (h0_f8 : Int32) (h0_f9 : Int32) (h0_5c : Nat → Int32) (h0_4c : Nat → Int32) (F : Nat) (j5_l1 : Int32) (j5_h0_f10 : Int32) : fx_c_X12_sum_2_p5 h0_f8 h0_f9 h0_5c h0_4c (F + 1) j5_l1 j5_h0_f10 = ((if j5_l1 = j5_l1 then (exc2 (fx_c_X12_look h0_f8 h0_f9 j5_h0_f10 h0_5c) fun (r_77 : Int32) (x_78 : Int32) => (if r_77 = (-1) then (exc2 (fx_c_X12_look h0_f8 h0_f9 x_78 h0_5c) fun (r_93 : Int32) (x_94 : Int32) => (if r_93 = (-1) then (j5_l1, x_94, (-1), 2) else (if r_93 = 45 then (exc1 (fx_c_X12_look_1 h0_f8 h0_f9 x_94 h0_5c) fun (r_112 : Int32) => (if r_112 = (-1) then (default) else (if r_112 = 43 then (fx_c_X12_sum_2_p45b h0_f8 h0_f9 h0_5c h0_4c j5_l1 (fx_c_X12_sum_2_p5 h0_f8 h0_f9 h0_5c h0_4c F) x_94) else (fx_c_X12_sum_2_p45 h0_f8 h0_f9 h0_5c h0_4c j5_l1 (fx_c_X12_sum_2_p5 h0_f8 h0_f9 h0_5c h0_4c F) x_94)))) else (j5_l1, x_94, (-1), 2)))) else (if r_77 = 43 then (exc1 (fx_c_X12_look_1 h0_f8 h0_f9 x_78 h0_5c) fun (r_129 : Int32) => (if r_129 = (-1) then (default) else (if r_129 = 43 then (fx_c_X12_sum_2_p45b h0_f8 h0_f9 h0_5c h0_4c j5_l1 (fx_c_X12_sum_2_p5 h0_f8 h0_f9 h0_5c h0_4c F) x_78) else (fx_c_X12_sum_2_p45 h0_f8 h0_f9 h0_5c h0_4c j5_l1 (fx_c_X12_sum_2_p5 h0_f8 h0_f9 h0_5c h0_4c F) x_78)))) else (exc1 (fx_c_X12_look_1 h0_f8 h0_f9 x_78 h0_5c) fun (r_143 : Int32) => (if r_143 = (-1) then (default) else (if r_143 = 45 then (exc1 (fx_c_X12_look_1 h0_f8 h0_f9 x_78 h0_5c) fun (r_157 : Int32) => (if r_157 = (-1) then (default) else (if r_157 = 43 then (fx_c_X12_sum_2_p45b h0_f8 h0_f9 h0_5c h0_4c j5_l1 (fx_c_X12_sum_2_p5 h0_f8 h0_f9 h0_5c h0_4c F) x_78) else (fx_c_X12_sum_2_p45 h0_f8 h0_f9 h0_5c h0_4c j5_l1 (fx_c_X12_sum_2_p5 h0_f8 h0_f9 h0_5c h0_4c F) x_78)))) else (j5_l1, x_78, (-1), 2))))))) else default) : Int32 × Int32 × Int32 × Int32) := rfl
theorem rx_c_X12_sum_2_p45 {c g : Nat → Int32} {n : Nat} (hT : TB c n) (hG : TG c g n) (k : Int32 → Int32 → Int32 × Int32 × Int32 × Int32) (q : Nat) (hq : q < n) (v : Int32) (L : Nat → Int32) (hk : ∀ (v : Int32) (r : Nat), r ≤ n → q < r → CS n (-1) (tq_lp c n tq_as (tq_rp c n (tq_rp c n (tq_atom c n (tq_S c n 4)) tq_md) tq_as) r) (k v (nI r)).2.1 (k v (nI r)).2.2.1) :
    CS n (-1) (tq_rp c n (tq_rp c n (tq_atom c n (tq_S c n 4)) tq_md) tq_as (q + 1)) (fx_c_X12_sum_2_p45 0 (nI n) g L v k (nI q)).2.1 (fx_c_X12_sum_2_p45 0 (nI n) g L v k (nI q)).2.2.1 := by
  have hn := hT.2
  rw [tq_rp_lp (tq_rp_PG (c := c) (n := n) (A := tq_md) (tq_atom_PG (c := c) (n := n) (tq_S_PG (c := c) (n := n) 4)) (by decide)) (by decide) (by omega)]
  simp only [fx_c_X12_sum_2_p45, fx_c_X12_sum_2_p5b, fx_c_X12_sum_2_p77b, fx_c_X12_sum_2_p77, exc1, exc3, exc4, exl]
  rw [nI_1]
  have hg := (tq_rp_PG (c := c) (n := n) (A := tq_md) (tq_atom_PG (c := c) (n := n) (tq_S_PG (c := c) (n := n) 4)) (by decide)) (q + 1) (by omega)
  refine CS_seq hn (rx_c_X12_term_2 hT hG (p := q + 1) (by omega) L) hg.1 (fun r hr eq1 eq2 z2 z3 => ?_) (fun z => ?_)
  · have hqr : q < r := by have := hg.2 z2; omega
    rw [if_pos eq2, eq1]
    exact hk _ _ hr hqr
  · rw [if_neg z, if_neg z]
    exact ⟨rfl, rfl⟩
theorem rx_c_X12_sum_2_p45b {c g : Nat → Int32} {n : Nat} (hT : TB c n) (hG : TG c g n) (k : Int32 → Int32 → Int32 × Int32 × Int32 × Int32) (q : Nat) (hq : q < n) (v : Int32) (L : Nat → Int32) (hk : ∀ (v : Int32) (r : Nat), r ≤ n → q < r → CS n (-1) (tq_lp c n tq_as (tq_rp c n (tq_rp c n (tq_atom c n (tq_S c n 4)) tq_md) tq_as) r) (k v (nI r)).2.1 (k v (nI r)).2.2.1) :
    CS n (-1) (tq_rp c n (tq_rp c n (tq_atom c n (tq_S c n 4)) tq_md) tq_as (q + 1)) (fx_c_X12_sum_2_p45b 0 (nI n) g L v k (nI q)).2.1 (fx_c_X12_sum_2_p45b 0 (nI n) g L v k (nI q)).2.2.1 := by
  have hn := hT.2
  rw [tq_rp_lp (tq_rp_PG (c := c) (n := n) (A := tq_md) (tq_atom_PG (c := c) (n := n) (tq_S_PG (c := c) (n := n) 4)) (by decide)) (by decide) (by omega)]
  simp only [fx_c_X12_sum_2_p45b, fx_c_X12_sum_2_p5b, fx_c_X12_sum_2_p77b, fx_c_X12_sum_2_p77, exc1, exc3, exc4, exl]
  rw [nI_1]
  have hg := (tq_rp_PG (c := c) (n := n) (A := tq_md) (tq_atom_PG (c := c) (n := n) (tq_S_PG (c := c) (n := n) 4)) (by decide)) (q + 1) (by omega)
  refine CS_seq hn (rx_c_X12_term_2 hT hG (p := q + 1) (by omega) L) hg.1 (fun r hr eq1 eq2 z2 z3 => ?_) (fun z => ?_)
  · have hqr : q < r := by have := hg.2 z2; omega
    rw [if_pos eq2, eq1]
    exact hk _ _ hr hqr
  · rw [if_neg z, if_neg z]
    exact ⟨rfl, rfl⟩
theorem rx_c_X12_sum_2_p5 {c g : Nat → Int32} {n : Nat} (hT : TB c n) (hG : TG c g n) (L : Nat → Int32) : ∀ (F : Nat) (v : Int32) (p : Nat), p ≤ n → n < p + F → CS n (-1) (tq_lp c n tq_as (tq_rp c n (tq_rp c n (tq_atom c n (tq_S c n 4)) tq_md) tq_as) p) (fx_c_X12_sum_2_p5 0 (nI n) g L F v (nI p)).2.1 (fx_c_X12_sum_2_p5 0 (nI n) g L F v (nI p)).2.2.1 := by
  have hn := hT.2
  intro F
  induction F with
  | zero => intro v p h1 h2; omega
  | succ F ih =>
    intro v p h1 h2
    have g3 := tq_pk_ge (c := c) h1
    have g5 := tq_pk_le (c := c) h1
    have hpp := tq_pk_pk (c := c) h1
    have hk : ∀ (v : Int32) (r : Nat), r ≤ n → tq_pk c n p < r → CS n (-1) (tq_lp c n tq_as (tq_rp c n (tq_rp c n (tq_atom c n (tq_S c n 4)) tq_md) tq_as) r) (fx_c_X12_sum_2_p5 0 (nI n) g L F v (nI r)).2.1 (fx_c_X12_sum_2_p5 0 (nI n) g L F v (nI r)).2.2.1 := fun v r k1 k2 => ih v r k1 (by omega)
    rw [fs_c_X12_sum_2_p5, if_pos rfl]
    simp only [exc1, exc2]
    rw [rx_c_X12_look hT hG h1]
    simp only []
    rw [rx_c_X12_look hT hG g5, rx_c_X12_look_1 hT hG g5 hpp, hpp]
    simp only []
    by_cases h1 : tq_ch c n (tq_pk c n p) = -1
    · rw [if_pos h1, if_pos h1, tq_lp_f (by rw [h1]; decide)]
      exact CS_t g5
    · have g4 := tq_ch_lt h1
      rw [if_neg h1, if_neg h1]
      by_cases h2 : tq_ch c n (tq_pk c n p) = 43
      · rw [if_pos h2, if_pos h2, tq_lp_t (by rw [h2]; decide)]
        exact rx_c_X12_sum_2_p45b hT hG _ _ g4 v L hk
      · rw [if_neg h2]
        by_cases h3 : tq_ch c n (tq_pk c n p) = 45
        · rw [if_pos h3, if_neg h1, if_neg h2, tq_lp_t (by rw [h3]; decide)]
          exact rx_c_X12_sum_2_p45 hT hG _ _ g4 v L hk
        · rw [if_neg h3, if_neg h1, tq_lp_f (tq_bf (fun z => by rcases tq_as2 z with z | z <;> contradiction))]
          exact CS_t g5
theorem rx_c_X12_sum_2_rp {c g : Nat → Int32} {n : Nat} (hT : TB c n) (hG : TG c g n) {p : Nat} (hp : p ≤ n) (L : Nat → Int32) : CS n (-1) (tq_rp c n (tq_rp c n (tq_atom c n (tq_S c n 4)) tq_md) tq_as p) (fx_c_X12_sum_2 0 (nI n) (nI p) g L).2.1 (fx_c_X12_sum_2 0 (nI n) (nI p) g L).2.2.1 := by
  have hn := hT.2
  rw [tq_rp_lp (tq_rp_PG (c := c) (n := n) (A := tq_md) (tq_atom_PG (c := c) (n := n) (tq_S_PG (c := c) (n := n) 4)) (by decide)) (by decide) hp]
  simp only [fx_c_X12_sum_2, fx_c_X12_sum_2_p5b, exc1, exc3, exc4]
  have hg := (tq_rp_PG (c := c) (n := n) (A := tq_md) (tq_atom_PG (c := c) (n := n) (tq_S_PG (c := c) (n := n) 4)) (by decide)) p hp
  refine CS_seq hn (rx_c_X12_term_2 hT hG hp L) hg.1 (fun r hr eq1 eq2 z2 z3 => ?_) (fun z => ?_)
  · rw [if_pos eq2, eq1]
    exact rx_c_X12_sum_2_p5 hT hG L exF _ r hr (by have := hT.2; unfold exF; omega)
  · rw [if_neg z, if_neg z]
    exact ⟨rfl, rfl⟩
theorem rx_c_X12_sum_2 {c g : Nat → Int32} {n : Nat} (hT : TB c n) (hG : TG c g n) {p : Nat} (hp : p ≤ n) (L : Nat → Int32) : CS n (-1) (tq_SM c n 4 p) (fx_c_X12_sum_2 0 (nI n) (nI p) g L).2.1 (fx_c_X12_sum_2 0 (nI n) (nI p) g L).2.2.1 := CS_e (rx_c_X12_sum_2_rp hT hG hp L) (tq_nest (tq_atom_PG (tq_S_PG 4)) (by decide) (by decide) hp).symm
theorem fs_c_X12_atom_1_p90 (h0_f8 : Int32) (h0_f9 : Int32) (h0_5c : Nat → Int32) (F : Nat) (j90_l3 : Int32) (j90_l2 : Int32) (j90_h0_f10 : Int32) : fx_c_X12_atom_1_p90 h0_f8 h0_f9 h0_5c (F + 1) j90_l3 j90_l2 j90_h0_f10 = ((if j90_l3 = j90_l3 then (exc1 (fx_c_X12_isDigit h0_f8 h0_f9 j90_h0_f10 h0_5c) fun (r_1 : Int32) => (if r_1 = 0 then (j90_l2, j90_h0_f10, (-1), 1) else (if j90_l3 = 4 then (exc1 (fx_c_X12_fails) fun (r_27 : Int32) => (0, j90_h0_f10, j90_h0_f10, 1)) else (exl (10 * j90_l2) fun (x_16 : Int32) => (exl (h0_f8 + j90_h0_f10) fun (x_17 : Int32) => (exl (h0_5c (x_17 : Int32).toNatClampNeg) fun (x_19 : Int32) => (exl (x_16 + x_19) fun (x_20 : Int32) => (exl (x_20 - 48) fun (x_21 : Int32) => (exl (j90_h0_f10 + 1) fun (x_22 : Int32) => (exl (j90_l3 + 1) fun (x_25 : Int32) => ((fx_c_X12_atom_1_p90 h0_f8 h0_f9 h0_5c F) x_25 x_21 x_22))))))))))) else default) : Int32 × Int32 × Int32 × Int32) := rfl
theorem rx_c_X12_atom_1_p90 {c g : Nat → Int32} {n : Nat} (hT : TB c n) (hG : TG c g n) : ∀ (F j : Nat) (v : Int32) (p : Nat), p ≤ n → j ≤ 4 → 4 < j + F → CS n (-1) (tq_ds c n (4 - j) p) (fx_c_X12_atom_1_p90 0 (nI n) g F (nI j) v (nI p)).2.1 (fx_c_X12_atom_1_p90 0 (nI n) g F (nI j) v (nI p)).2.2.1 := by
  have hn := hT.2
  intro F
  induction F with
  | zero => intro j v p h1 h2 h3; omega
  | succ F ih =>
    intro j v p h1 h2 h3
    rw [fs_c_X12_atom_1_p90, if_pos rfl]
    simp only [exc1, exl]
    rw [rx_c_X12_isDigit hT hG h1]
    cases hb : tq_dg (tq_ch c n p) with
    | false =>
      rw [px_i0, if_pos rfl]
      have e : tq_ds c n (4 - j) p = (true, p) := by
        cases hj : 4 - j with
        | zero => show (if tq_dg (tq_ch c n p) then (false, p) else (true, p)) = _; rw [hb]; rfl
        | succ k => show (if tq_dg (tq_ch c n p) then tq_ds c n k (p + 1) else (true, p)) = _; rw [hb]; rfl
      rw [e]
      exact CS_t h1
    | true =>
      have g4 := tq_dg_lt hb
      rw [px_i1, if_neg (show ¬ (1 : Int32) = 0 by decide)]
      by_cases hj : j = 4
      · subst hj
        rw [if_pos (show nI 4 = 4 from rfl)]
        have e : tq_ds c n (4 - 4) p = (false, p) := by show (if tq_dg (tq_ch c n p) then (false, p) else (true, p)) = _; rw [hb]; rfl
        rw [e]
        exact CS_f h1
      · have h4 : ¬ nI j = 4 := fun z => hj ((nI_eq (a := j) (b := 4) (by omega) (by omega)).mp z)
        obtain ⟨k, hk⟩ : ∃ k, 4 - j = k + 1 := ⟨3 - j, by omega⟩
        have e : tq_ds c n (4 - j) p = tq_ds c n (4 - (j + 1)) (p + 1) := by
          have hk2 : 4 - (j + 1) = k := by omega
          rw [hk, hk2]
          show (if tq_dg (tq_ch c n p) then tq_ds c n k (p + 1) else (true, p)) = _
          rw [hb]
          rfl
        rw [if_neg h4, e, nI_1, nI_1]
        exact ih (j + 1) _ (p + 1) (by omega) (by omega) (by omega)
theorem rx_c_X12_atom_1 {c g : Nat → Int32} {n : Nat} (hT : TB c n) (hG : TG c g n) {p : Nat} (hp : p ≤ n) (L : Nat → Int32) : CS n (-1) (tq_atom c n (tq_S c n 5) p) (fx_c_X12_atom_1 0 (nI n) (nI p) g L).2.1 (fx_c_X12_atom_1 0 (nI n) (nI p) g L).2.2.1 := by
  have hn := hT.2
  have g3 := tq_pk_ge (c := c) hp
  have g5 := tq_pk_le (c := c) hp
  have hpp := tq_pk_pk (c := c) hp
  simp only [fx_c_X12_atom_1, exc1, exc2, exc3, exc4, exl]
  rw [rx_c_X12_look hT hG hp]
  simp only []
  have hd := rx_c_X12_isDigit hT hG g5
  have h86 : tq_dg (tq_ch c n (tq_pk c n p)) = false → fx_c_X12_atom_1_p86 0 (nI n) g (nI (tq_pk c n p)) (nI (tq_pk c n p)) = (0, nI (tq_pk c n p), nI (tq_pk c n p), 1) := fun hb => by
    simp only [fx_c_X12_atom_1_p86, fx_c_X12_atom_1_p90b, exc1]
    rw [rx_c_X12_isDigit_1 hT hG g5, hb, px_i0, if_pos rfl]
  by_cases h1 : tq_ch c n (tq_pk c n p) = -1
  · have hb : tq_dg (tq_ch c n (tq_pk c n p)) = false := by rw [h1]; decide
    have es : tq_atom c n (tq_S c n 5) p = (false, tq_pk c n p) := by unfold tq_atom; rw [if_neg (by rw [h1]; decide), if_neg (by rw [h1]; decide)]; unfold tq_nm; rw [if_neg (by rw [hb]; decide)]
    rw [if_pos h1, hd, hb, px_i0, if_pos rfl, h86 hb, es]
    exact CS_f g5
  · obtain ⟨j, hj, ej⟩ := RG_nI (tq_ch_RG0 hT h1) (by decide)
    have hl := rx_let j hj
    rw [← ej] at hl
    rw [if_neg h1]
    rcases hl with ⟨i1, i2⟩ | ⟨i1, i2⟩
    · rw [i1, if_pos rfl]
      by_cases h91 : tq_ch c n (tq_pk c n p) = 91
      · have g4 := tq_ch_ne h91 (by decide)
        have es : tq_atom c n (tq_S c n 5) p = tq_bind (tq_SM c n 4 (tq_pk c n p + 1)) (tq_ex c n 93) := by unfold tq_atom; rw [if_neg (by rw [i2]; decide), if_pos h91]; rfl
        have hgi : fx_c_X12_goesIn_1 (nI (tq_pk c n p)) = (1, nI (tq_pk c n p + 1)) := by simp only [fx_c_X12_goesIn_1, exl]; rw [nI_1]
        rw [if_pos h91, es, hgi]
        refine CS_seq hn (rx_c_X12_sum_2 hT hG (p := tq_pk c n p + 1) (by omega) L) (tq_SM_PG _ (by omega)).1 (fun q hq eq1 eq2 _ _ => ?_) (fun z => ?_)
        · rw [if_pos eq2, eq1, rx_c_X12_takes_1 hT hG hq (by decide)]
          have k5 := tq_pk_le (c := c) hq
          unfold tq_ex
          by_cases h5 : tq_ch c n (tq_pk c n q) = 93
          · have k4 := tq_ch_ne h5 (by decide)
            rw [if_pos h5, if_pos h5, if_pos rfl]
            exact CS_t (by omega)
          · rw [if_neg h5, if_neg h5, if_neg (show ¬ (0 : Int32) = 1 by decide)]
            exact CS_f k5
        · rw [if_neg z]
          exact ⟨rfl, rfl⟩
      · rw [if_neg h91, hd]
        cases hb : tq_dg (tq_ch c n (tq_pk c n p)) with
        | false =>
          have es : tq_atom c n (tq_S c n 5) p = (false, tq_pk c n p) := by unfold tq_atom; rw [if_neg (by rw [i2]; decide), if_neg h91]; unfold tq_nm; rw [if_neg (by rw [hb]; decide)]
          rw [px_i0, if_pos rfl, h86 hb, es]
          exact CS_f g5
        | true =>
          have es : tq_atom c n (tq_S c n 5) p = tq_ds c n (4 - 0) (tq_pk c n p) := by
            unfold tq_atom
            rw [if_neg (by rw [i2]; decide), if_neg h91]
            unfold tq_nm
            rw [if_pos hb]
            show _ = (if tq_dg (tq_ch c n (tq_pk c n p)) then tq_ds c n 3 (tq_pk c n p + 1) else (true, tq_pk c n p))
            rw [if_pos hb]
          rw [px_i1, if_neg (show ¬ (1 : Int32) = 0 by decide), es]
          exact rx_c_X12_atom_1_p90 hT hG exF 0 0 (tq_pk c n p) g5 (by omega) (by have := hT.2; unfold exF; omega)
    · have g4 := tq_A_lt tq_lt_m1 i2
      have es : tq_atom c n (tq_S c n 5) p = (true, tq_pk c n p + 1) := by unfold tq_atom; rw [if_pos i2]
      rw [i1, if_neg (by decide), es, nI_1]
      exact CS_t (by omega)
theorem fs_c_X12_term_1_p5 (h0_f8 : Int32) (h0_f9 : Int32) (h0_5c : Nat → Int32) (h0_4c : Nat → Int32) (F : Nat) (j5_l1 : Int32) (j5_h0_f10 : Int32) : fx_c_X12_term_1_p5 h0_f8 h0_f9 h0_5c h0_4c (F + 1) j5_l1 j5_h0_f10 = ((if j5_l1 = j5_l1 then (exc2 (fx_c_X12_look h0_f8 h0_f9 j5_h0_f10 h0_5c) fun (r_76 : Int32) (x_77 : Int32) => (if r_76 = (-1) then (exc2 (fx_c_X12_look h0_f8 h0_f9 x_77 h0_5c) fun (r_92 : Int32) (x_93 : Int32) => (if r_92 = (-1) then (j5_l1, x_93, (-1), 1) else (if r_92 = 47 then (exc1 (fx_c_X12_look_1 h0_f8 h0_f9 x_93 h0_5c) fun (r_111 : Int32) => (if r_111 = (-1) then (default) else (if r_111 = 42 then (fx_c_X12_term_1_p45b h0_f8 h0_f9 h0_5c h0_4c j5_l1 (fx_c_X12_term_1_p5 h0_f8 h0_f9 h0_5c h0_4c F) x_93) else (fx_c_X12_term_1_p45 h0_f8 h0_f9 h0_5c h0_4c j5_l1 (fx_c_X12_term_1_p5 h0_f8 h0_f9 h0_5c h0_4c F) x_93)))) else (j5_l1, x_93, (-1), 1)))) else (if r_76 = 42 then (exc1 (fx_c_X12_look_1 h0_f8 h0_f9 x_77 h0_5c) fun (r_128 : Int32) => (if r_128 = (-1) then (default) else (if r_128 = 42 then (fx_c_X12_term_1_p45b h0_f8 h0_f9 h0_5c h0_4c j5_l1 (fx_c_X12_term_1_p5 h0_f8 h0_f9 h0_5c h0_4c F) x_77) else (fx_c_X12_term_1_p45 h0_f8 h0_f9 h0_5c h0_4c j5_l1 (fx_c_X12_term_1_p5 h0_f8 h0_f9 h0_5c h0_4c F) x_77)))) else (exc1 (fx_c_X12_look_1 h0_f8 h0_f9 x_77 h0_5c) fun (r_142 : Int32) => (if r_142 = (-1) then (default) else (if r_142 = 47 then (exc1 (fx_c_X12_look_1 h0_f8 h0_f9 x_77 h0_5c) fun (r_156 : Int32) => (if r_156 = (-1) then (default) else (if r_156 = 42 then (fx_c_X12_term_1_p45b h0_f8 h0_f9 h0_5c h0_4c j5_l1 (fx_c_X12_term_1_p5 h0_f8 h0_f9 h0_5c h0_4c F) x_77) else (fx_c_X12_term_1_p45 h0_f8 h0_f9 h0_5c h0_4c j5_l1 (fx_c_X12_term_1_p5 h0_f8 h0_f9 h0_5c h0_4c F) x_77)))) else (j5_l1, x_77, (-1), 1))))))) else default) : Int32 × Int32 × Int32 × Int32) := rfl
theorem rx_c_X12_term_1_p45 {c g : Nat → Int32} {n : Nat} (hT : TB c n) (hG : TG c g n) (k : Int32 → Int32 → Int32 × Int32 × Int32 × Int32) (q : Nat) (hq : q < n) (v : Int32) (L : Nat → Int32) (hk : ∀ (v : Int32) (r : Nat), r ≤ n → q < r → CS n (-1) (tq_lp c n tq_md (tq_rp c n (tq_atom c n (tq_S c n 5)) tq_md) r) (k v (nI r)).2.1 (k v (nI r)).2.2.1) :
    CS n (-1) (tq_rp c n (tq_atom c n (tq_S c n 5)) tq_md (q + 1)) (fx_c_X12_term_1_p45 0 (nI n) g L v k (nI q)).2.1 (fx_c_X12_term_1_p45 0 (nI n) g L v k (nI q)).2.2.1 := by
  have hn := hT.2
  rw [tq_rp_lp (tq_atom_PG (c := c) (n := n) (tq_S_PG (c := c) (n := n) 5)) (by decide) (by omega)]
  simp only [fx_c_X12_term_1_p45, fx_c_X12_term_1_p5b, fx_c_X12_term_1_p87c, fx_c_X12_term_1_p87d, fx_c_X12_term_1_p87b, fx_c_X12_term_1_p87, exc1, exc3, exc4, exl]
  rw [nI_1]
  have hg := (tq_atom_PG (c := c) (n := n) (tq_S_PG (c := c) (n := n) 5)) (q + 1) (by omega)
  refine CS_seq hn (rx_c_X12_atom_1 hT hG (p := q + 1) (by omega) L) hg.1 (fun r hr eq1 eq2 z2 z3 => ?_) (fun z => ?_)
  · have hqr : q < r := by have := hg.2 z2; omega
    rw [if_pos eq2, eq1]
    split <;> exact hk _ _ hr hqr
  · rw [if_neg z, if_neg z]
    exact ⟨rfl, rfl⟩
theorem rx_c_X12_term_1_p45b {c g : Nat → Int32} {n : Nat} (hT : TB c n) (hG : TG c g n) (k : Int32 → Int32 → Int32 × Int32 × Int32 × Int32) (q : Nat) (hq : q < n) (v : Int32) (L : Nat → Int32) (hk : ∀ (v : Int32) (r : Nat), r ≤ n → q < r → CS n (-1) (tq_lp c n tq_md (tq_rp c n (tq_atom c n (tq_S c n 5)) tq_md) r) (k v (nI r)).2.1 (k v (nI r)).2.2.1) :
    CS n (-1) (tq_rp c n (tq_atom c n (tq_S c n 5)) tq_md (q + 1)) (fx_c_X12_term_1_p45b 0 (nI n) g L v k (nI q)).2.1 (fx_c_X12_term_1_p45b 0 (nI n) g L v k (nI q)).2.2.1 := by
  have hn := hT.2
  rw [tq_rp_lp (tq_atom_PG (c := c) (n := n) (tq_S_PG (c := c) (n := n) 5)) (by decide) (by omega)]
  simp only [fx_c_X12_term_1_p45b, fx_c_X12_term_1_p5b, fx_c_X12_term_1_p87c, fx_c_X12_term_1_p87d, fx_c_X12_term_1_p87b, fx_c_X12_term_1_p87, exc1, exc3, exc4, exl]
  rw [nI_1]
  have hg := (tq_atom_PG (c := c) (n := n) (tq_S_PG (c := c) (n := n) 5)) (q + 1) (by omega)
  refine CS_seq hn (rx_c_X12_atom_1 hT hG (p := q + 1) (by omega) L) hg.1 (fun r hr eq1 eq2 z2 z3 => ?_) (fun z => ?_)
  · have hqr : q < r := by have := hg.2 z2; omega
    rw [if_pos eq2, eq1]
    exact hk _ _ hr hqr
  · rw [if_neg z, if_neg z]
    exact ⟨rfl, rfl⟩
theorem rx_c_X12_term_1_p5 {c g : Nat → Int32} {n : Nat} (hT : TB c n) (hG : TG c g n) (L : Nat → Int32) : ∀ (F : Nat) (v : Int32) (p : Nat), p ≤ n → n < p + F → CS n (-1) (tq_lp c n tq_md (tq_rp c n (tq_atom c n (tq_S c n 5)) tq_md) p) (fx_c_X12_term_1_p5 0 (nI n) g L F v (nI p)).2.1 (fx_c_X12_term_1_p5 0 (nI n) g L F v (nI p)).2.2.1 := by
  have hn := hT.2
  intro F
  induction F with
  | zero => intro v p h1 h2; omega
  | succ F ih =>
    intro v p h1 h2
    have g3 := tq_pk_ge (c := c) h1
    have g5 := tq_pk_le (c := c) h1
    have hpp := tq_pk_pk (c := c) h1
    have hk : ∀ (v : Int32) (r : Nat), r ≤ n → tq_pk c n p < r → CS n (-1) (tq_lp c n tq_md (tq_rp c n (tq_atom c n (tq_S c n 5)) tq_md) r) (fx_c_X12_term_1_p5 0 (nI n) g L F v (nI r)).2.1 (fx_c_X12_term_1_p5 0 (nI n) g L F v (nI r)).2.2.1 := fun v r k1 k2 => ih v r k1 (by omega)
    rw [fs_c_X12_term_1_p5, if_pos rfl]
    simp only [exc1, exc2]
    rw [rx_c_X12_look hT hG h1]
    simp only []
    rw [rx_c_X12_look hT hG g5, rx_c_X12_look_1 hT hG g5 hpp, hpp]
    simp only []
    by_cases h1 : tq_ch c n (tq_pk c n p) = -1
    · rw [if_pos h1, if_pos h1, tq_lp_f (by rw [h1]; decide)]
      exact CS_t g5
    · have g4 := tq_ch_lt h1
      rw [if_neg h1, if_neg h1]
      by_cases h2 : tq_ch c n (tq_pk c n p) = 42
      · rw [if_pos h2, if_pos h2, tq_lp_t (by rw [h2]; decide)]
        exact rx_c_X12_term_1_p45b hT hG _ _ g4 v L hk
      · rw [if_neg h2]
        by_cases h3 : tq_ch c n (tq_pk c n p) = 47
        · rw [if_pos h3, if_neg h1, if_neg h2, tq_lp_t (by rw [h3]; decide)]
          exact rx_c_X12_term_1_p45 hT hG _ _ g4 v L hk
        · rw [if_neg h3, if_neg h1, tq_lp_f (tq_bf (fun z => by rcases tq_md2 z with z | z <;> contradiction))]
          exact CS_t g5
theorem rx_c_X12_term_1_rp {c g : Nat → Int32} {n : Nat} (hT : TB c n) (hG : TG c g n) {p : Nat} (hp : p ≤ n) (L : Nat → Int32) : CS n (-1) (tq_rp c n (tq_atom c n (tq_S c n 5)) tq_md p) (fx_c_X12_term_1 0 (nI n) (nI p) g L).2.1 (fx_c_X12_term_1 0 (nI n) (nI p) g L).2.2.1 := by
  have hn := hT.2
  rw [tq_rp_lp (tq_atom_PG (c := c) (n := n) (tq_S_PG (c := c) (n := n) 5)) (by decide) hp]
  simp only [fx_c_X12_term_1, fx_c_X12_term_1_p5b, exc1, exc3, exc4]
  have hg := (tq_atom_PG (c := c) (n := n) (tq_S_PG (c := c) (n := n) 5)) p hp
  refine CS_seq hn (rx_c_X12_atom_1 hT hG hp L) hg.1 (fun r hr eq1 eq2 z2 z3 => ?_) (fun z => ?_)
  · rw [if_pos eq2, eq1]
    exact rx_c_X12_term_1_p5 hT hG L exF _ r hr (by have := hT.2; unfold exF; omega)
  · rw [if_neg z, if_neg z]
    exact ⟨rfl, rfl⟩
theorem rx_c_X12_term_1 {c g : Nat → Int32} {n : Nat} (hT : TB c n) (hG : TG c g n) {p : Nat} (hp : p ≤ n) (L : Nat → Int32) : CS n (-1) (tq_rp c n (tq_atom c n (tq_S c n 5)) tq_md p) (fx_c_X12_term_1 0 (nI n) (nI p) g L).2.1 (fx_c_X12_term_1 0 (nI n) (nI p) g L).2.2.1 := rx_c_X12_term_1_rp hT hG hp L
theorem fs_c_X12_sum_1_p5 (h0_f8 : Int32) (h0_f9 : Int32) (h0_5c : Nat → Int32) (h0_4c : Nat → Int32) (F : Nat) (j5_l1 : Int32) (j5_h0_f10 : Int32) : fx_c_X12_sum_1_p5 h0_f8 h0_f9 h0_5c h0_4c (F + 1) j5_l1 j5_h0_f10 = ((if j5_l1 = j5_l1 then (exc2 (fx_c_X12_look h0_f8 h0_f9 j5_h0_f10 h0_5c) fun (r_77 : Int32) (x_78 : Int32) => (if r_77 = (-1) then (exc2 (fx_c_X12_look h0_f8 h0_f9 x_78 h0_5c) fun (r_93 : Int32) (x_94 : Int32) => (if r_93 = (-1) then (j5_l1, x_94, (-1), 1) else (if r_93 = 45 then (exc1 (fx_c_X12_look_1 h0_f8 h0_f9 x_94 h0_5c) fun (r_112 : Int32) => (if r_112 = (-1) then (default) else (if r_112 = 43 then (fx_c_X12_sum_1_p45b h0_f8 h0_f9 h0_5c h0_4c j5_l1 (fx_c_X12_sum_1_p5 h0_f8 h0_f9 h0_5c h0_4c F) x_94) else (fx_c_X12_sum_1_p45 h0_f8 h0_f9 h0_5c h0_4c j5_l1 (fx_c_X12_sum_1_p5 h0_f8 h0_f9 h0_5c h0_4c F) x_94)))) else (j5_l1, x_94, (-1), 1)))) else (if r_77 = 43 then (exc1 (fx_c_X12_look_1 h0_f8 h0_f9 x_78 h0_5c) fun (r_129 : Int32) => (if r_129 = (-1) then (default) else (if r_129 = 43 then (fx_c_X12_sum_1_p45b h0_f8 h0_f9 h0_5c h0_4c j5_l1 (fx_c_X12_sum_1_p5 h0_f8 h0_f9 h0_5c h0_4c F) x_78) else (fx_c_X12_sum_1_p45 h0_f8 h0_f9 h0_5c h0_4c j5_l1 (fx_c_X12_sum_1_p5 h0_f8 h0_f9 h0_5c h0_4c F) x_78)))) else (exc1 (fx_c_X12_look_1 h0_f8 h0_f9 x_78 h0_5c) fun (r_143 : Int32) => (if r_143 = (-1) then (default) else (if r_143 = 45 then (exc1 (fx_c_X12_look_1 h0_f8 h0_f9 x_78 h0_5c) fun (r_157 : Int32) => (if r_157 = (-1) then (default) else (if r_157 = 43 then (fx_c_X12_sum_1_p45b h0_f8 h0_f9 h0_5c h0_4c j5_l1 (fx_c_X12_sum_1_p5 h0_f8 h0_f9 h0_5c h0_4c F) x_78) else (fx_c_X12_sum_1_p45 h0_f8 h0_f9 h0_5c h0_4c j5_l1 (fx_c_X12_sum_1_p5 h0_f8 h0_f9 h0_5c h0_4c F) x_78)))) else (j5_l1, x_78, (-1), 1))))))) else default) : Int32 × Int32 × Int32 × Int32) := rfl
theorem rx_c_X12_sum_1_p45 {c g : Nat → Int32} {n : Nat} (hT : TB c n) (hG : TG c g n) (k : Int32 → Int32 → Int32 × Int32 × Int32 × Int32) (q : Nat) (hq : q < n) (v : Int32) (L : Nat → Int32) (hk : ∀ (v : Int32) (r : Nat), r ≤ n → q < r → CS n (-1) (tq_lp c n tq_as (tq_rp c n (tq_rp c n (tq_atom c n (tq_S c n 5)) tq_md) tq_as) r) (k v (nI r)).2.1 (k v (nI r)).2.2.1) :
    CS n (-1) (tq_rp c n (tq_rp c n (tq_atom c n (tq_S c n 5)) tq_md) tq_as (q + 1)) (fx_c_X12_sum_1_p45 0 (nI n) g L v k (nI q)).2.1 (fx_c_X12_sum_1_p45 0 (nI n) g L v k (nI q)).2.2.1 := by
  have hn := hT.2
  rw [tq_rp_lp (tq_rp_PG (c := c) (n := n) (A := tq_md) (tq_atom_PG (c := c) (n := n) (tq_S_PG (c := c) (n := n) 5)) (by decide)) (by decide) (by omega)]
  simp only [fx_c_X12_sum_1_p45, fx_c_X12_sum_1_p5b, fx_c_X12_sum_1_p77b, fx_c_X12_sum_1_p77, exc1, exc3, exc4, exl]
  rw [nI_1]
  have hg := (tq_rp_PG (c := c) (n := n) (A := tq_md) (tq_atom_PG (c := c) (n := n) (tq_S_PG (c := c) (n := n) 5)) (by decide)) (q + 1) (by omega)
  refine CS_seq hn (rx_c_X12_term_1 hT hG (p := q + 1) (by omega) L) hg.1 (fun r hr eq1 eq2 z2 z3 => ?_) (fun z => ?_)
  · have hqr : q < r := by have := hg.2 z2; omega
    rw [if_pos eq2, eq1]
    exact hk _ _ hr hqr
  · rw [if_neg z, if_neg z]
    exact ⟨rfl, rfl⟩
theorem rx_c_X12_sum_1_p45b {c g : Nat → Int32} {n : Nat} (hT : TB c n) (hG : TG c g n) (k : Int32 → Int32 → Int32 × Int32 × Int32 × Int32) (q : Nat) (hq : q < n) (v : Int32) (L : Nat → Int32) (hk : ∀ (v : Int32) (r : Nat), r ≤ n → q < r → CS n (-1) (tq_lp c n tq_as (tq_rp c n (tq_rp c n (tq_atom c n (tq_S c n 5)) tq_md) tq_as) r) (k v (nI r)).2.1 (k v (nI r)).2.2.1) :
    CS n (-1) (tq_rp c n (tq_rp c n (tq_atom c n (tq_S c n 5)) tq_md) tq_as (q + 1)) (fx_c_X12_sum_1_p45b 0 (nI n) g L v k (nI q)).2.1 (fx_c_X12_sum_1_p45b 0 (nI n) g L v k (nI q)).2.2.1 := by
  have hn := hT.2
  rw [tq_rp_lp (tq_rp_PG (c := c) (n := n) (A := tq_md) (tq_atom_PG (c := c) (n := n) (tq_S_PG (c := c) (n := n) 5)) (by decide)) (by decide) (by omega)]
  simp only [fx_c_X12_sum_1_p45b, fx_c_X12_sum_1_p5b, fx_c_X12_sum_1_p77b, fx_c_X12_sum_1_p77, exc1, exc3, exc4, exl]
  rw [nI_1]
  have hg := (tq_rp_PG (c := c) (n := n) (A := tq_md) (tq_atom_PG (c := c) (n := n) (tq_S_PG (c := c) (n := n) 5)) (by decide)) (q + 1) (by omega)
  refine CS_seq hn (rx_c_X12_term_1 hT hG (p := q + 1) (by omega) L) hg.1 (fun r hr eq1 eq2 z2 z3 => ?_) (fun z => ?_)
  · have hqr : q < r := by have := hg.2 z2; omega
    rw [if_pos eq2, eq1]
    exact hk _ _ hr hqr
  · rw [if_neg z, if_neg z]
    exact ⟨rfl, rfl⟩
theorem rx_c_X12_sum_1_p5 {c g : Nat → Int32} {n : Nat} (hT : TB c n) (hG : TG c g n) (L : Nat → Int32) : ∀ (F : Nat) (v : Int32) (p : Nat), p ≤ n → n < p + F → CS n (-1) (tq_lp c n tq_as (tq_rp c n (tq_rp c n (tq_atom c n (tq_S c n 5)) tq_md) tq_as) p) (fx_c_X12_sum_1_p5 0 (nI n) g L F v (nI p)).2.1 (fx_c_X12_sum_1_p5 0 (nI n) g L F v (nI p)).2.2.1 := by
  have hn := hT.2
  intro F
  induction F with
  | zero => intro v p h1 h2; omega
  | succ F ih =>
    intro v p h1 h2
    have g3 := tq_pk_ge (c := c) h1
    have g5 := tq_pk_le (c := c) h1
    have hpp := tq_pk_pk (c := c) h1
    have hk : ∀ (v : Int32) (r : Nat), r ≤ n → tq_pk c n p < r → CS n (-1) (tq_lp c n tq_as (tq_rp c n (tq_rp c n (tq_atom c n (tq_S c n 5)) tq_md) tq_as) r) (fx_c_X12_sum_1_p5 0 (nI n) g L F v (nI r)).2.1 (fx_c_X12_sum_1_p5 0 (nI n) g L F v (nI r)).2.2.1 := fun v r k1 k2 => ih v r k1 (by omega)
    rw [fs_c_X12_sum_1_p5, if_pos rfl]
    simp only [exc1, exc2]
    rw [rx_c_X12_look hT hG h1]
    simp only []
    rw [rx_c_X12_look hT hG g5, rx_c_X12_look_1 hT hG g5 hpp, hpp]
    simp only []
    by_cases h1 : tq_ch c n (tq_pk c n p) = -1
    · rw [if_pos h1, if_pos h1, tq_lp_f (by rw [h1]; decide)]
      exact CS_t g5
    · have g4 := tq_ch_lt h1
      rw [if_neg h1, if_neg h1]
      by_cases h2 : tq_ch c n (tq_pk c n p) = 43
      · rw [if_pos h2, if_pos h2, tq_lp_t (by rw [h2]; decide)]
        exact rx_c_X12_sum_1_p45b hT hG _ _ g4 v L hk
      · rw [if_neg h2]
        by_cases h3 : tq_ch c n (tq_pk c n p) = 45
        · rw [if_pos h3, if_neg h1, if_neg h2, tq_lp_t (by rw [h3]; decide)]
          exact rx_c_X12_sum_1_p45 hT hG _ _ g4 v L hk
        · rw [if_neg h3, if_neg h1, tq_lp_f (tq_bf (fun z => by rcases tq_as2 z with z | z <;> contradiction))]
          exact CS_t g5
theorem rx_c_X12_sum_1_rp {c g : Nat → Int32} {n : Nat} (hT : TB c n) (hG : TG c g n) {p : Nat} (hp : p ≤ n) (L : Nat → Int32) : CS n (-1) (tq_rp c n (tq_rp c n (tq_atom c n (tq_S c n 5)) tq_md) tq_as p) (fx_c_X12_sum_1 0 (nI n) (nI p) g L).2.1 (fx_c_X12_sum_1 0 (nI n) (nI p) g L).2.2.1 := by
  have hn := hT.2
  rw [tq_rp_lp (tq_rp_PG (c := c) (n := n) (A := tq_md) (tq_atom_PG (c := c) (n := n) (tq_S_PG (c := c) (n := n) 5)) (by decide)) (by decide) hp]
  simp only [fx_c_X12_sum_1, fx_c_X12_sum_1_p5b, exc1, exc3, exc4]
  have hg := (tq_rp_PG (c := c) (n := n) (A := tq_md) (tq_atom_PG (c := c) (n := n) (tq_S_PG (c := c) (n := n) 5)) (by decide)) p hp
  refine CS_seq hn (rx_c_X12_term_1 hT hG hp L) hg.1 (fun r hr eq1 eq2 z2 z3 => ?_) (fun z => ?_)
  · rw [if_pos eq2, eq1]
    exact rx_c_X12_sum_1_p5 hT hG L exF _ r hr (by have := hT.2; unfold exF; omega)
  · rw [if_neg z, if_neg z]
    exact ⟨rfl, rfl⟩
theorem rx_c_X12_sum_1 {c g : Nat → Int32} {n : Nat} (hT : TB c n) (hG : TG c g n) {p : Nat} (hp : p ≤ n) (L : Nat → Int32) : CS n (-1) (tq_SM c n 5 p) (fx_c_X12_sum_1 0 (nI n) (nI p) g L).2.1 (fx_c_X12_sum_1 0 (nI n) (nI p) g L).2.2.1 := CS_e (rx_c_X12_sum_1_rp hT hG hp L) (tq_nest (tq_atom_PG (tq_S_PG 5)) (by decide) (by decide) hp).symm
theorem fs_c_X12_atom_p90 (h0_f8 : Int32) (h0_f9 : Int32) (h0_5c : Nat → Int32) (F : Nat) (j90_l3 : Int32) (j90_l2 : Int32) (j90_h0_f10 : Int32) : fx_c_X12_atom_p90 h0_f8 h0_f9 h0_5c (F + 1) j90_l3 j90_l2 j90_h0_f10 = ((if j90_l3 = j90_l3 then (exc1 (fx_c_X12_isDigit h0_f8 h0_f9 j90_h0_f10 h0_5c) fun (r_1 : Int32) => (if r_1 = 0 then (j90_l2, j90_h0_f10, (-1), 0) else (if j90_l3 = 4 then (exc1 (fx_c_X12_fails) fun (r_27 : Int32) => (0, j90_h0_f10, j90_h0_f10, 0)) else (exl (10 * j90_l2) fun (x_16 : Int32) => (exl (h0_f8 + j90_h0_f10) fun (x_17 : Int32) => (exl (h0_5c (x_17 : Int32).toNatClampNeg) fun (x_19 : Int32) => (exl (x_16 + x_19) fun (x_20 : Int32) => (exl (x_20 - 48) fun (x_21 : Int32) => (exl (j90_h0_f10 + 1) fun (x_22 : Int32) => (exl (j90_l3 + 1) fun (x_25 : Int32) => ((fx_c_X12_atom_p90 h0_f8 h0_f9 h0_5c F) x_25 x_21 x_22))))))))))) else default) : Int32 × Int32 × Int32 × Int32) := rfl
theorem rx_c_X12_atom_p90 {c g : Nat → Int32} {n : Nat} (hT : TB c n) (hG : TG c g n) : ∀ (F j : Nat) (v : Int32) (p : Nat), p ≤ n → j ≤ 4 → 4 < j + F → CS n (-1) (tq_ds c n (4 - j) p) (fx_c_X12_atom_p90 0 (nI n) g F (nI j) v (nI p)).2.1 (fx_c_X12_atom_p90 0 (nI n) g F (nI j) v (nI p)).2.2.1 := by
  have hn := hT.2
  intro F
  induction F with
  | zero => intro j v p h1 h2 h3; omega
  | succ F ih =>
    intro j v p h1 h2 h3
    rw [fs_c_X12_atom_p90, if_pos rfl]
    simp only [exc1, exl]
    rw [rx_c_X12_isDigit hT hG h1]
    cases hb : tq_dg (tq_ch c n p) with
    | false =>
      rw [px_i0, if_pos rfl]
      have e : tq_ds c n (4 - j) p = (true, p) := by
        cases hj : 4 - j with
        | zero => show (if tq_dg (tq_ch c n p) then (false, p) else (true, p)) = _; rw [hb]; rfl
        | succ k => show (if tq_dg (tq_ch c n p) then tq_ds c n k (p + 1) else (true, p)) = _; rw [hb]; rfl
      rw [e]
      exact CS_t h1
    | true =>
      have g4 := tq_dg_lt hb
      rw [px_i1, if_neg (show ¬ (1 : Int32) = 0 by decide)]
      by_cases hj : j = 4
      · subst hj
        rw [if_pos (show nI 4 = 4 from rfl)]
        have e : tq_ds c n (4 - 4) p = (false, p) := by show (if tq_dg (tq_ch c n p) then (false, p) else (true, p)) = _; rw [hb]; rfl
        rw [e]
        exact CS_f h1
      · have h4 : ¬ nI j = 4 := fun z => hj ((nI_eq (a := j) (b := 4) (by omega) (by omega)).mp z)
        obtain ⟨k, hk⟩ : ∃ k, 4 - j = k + 1 := ⟨3 - j, by omega⟩
        have e : tq_ds c n (4 - j) p = tq_ds c n (4 - (j + 1)) (p + 1) := by
          have hk2 : 4 - (j + 1) = k := by omega
          rw [hk, hk2]
          show (if tq_dg (tq_ch c n p) then tq_ds c n k (p + 1) else (true, p)) = _
          rw [hb]
          rfl
        rw [if_neg h4, e, nI_1, nI_1]
        exact ih (j + 1) _ (p + 1) (by omega) (by omega) (by omega)
theorem rx_c_X12_atom {c g : Nat → Int32} {n : Nat} (hT : TB c n) (hG : TG c g n) {p : Nat} (hp : p ≤ n) (L : Nat → Int32) : CS n (-1) (tq_atom c n (tq_S c n 6) p) (fx_c_X12_atom 0 (nI n) (nI p) g L).2.1 (fx_c_X12_atom 0 (nI n) (nI p) g L).2.2.1 := by
  have hn := hT.2
  have g3 := tq_pk_ge (c := c) hp
  have g5 := tq_pk_le (c := c) hp
  have hpp := tq_pk_pk (c := c) hp
  simp only [fx_c_X12_atom, exc1, exc2, exc3, exc4, exl]
  rw [rx_c_X12_look hT hG hp]
  simp only []
  have hd := rx_c_X12_isDigit hT hG g5
  have h86 : tq_dg (tq_ch c n (tq_pk c n p)) = false → fx_c_X12_atom_p86 0 (nI n) g (nI (tq_pk c n p)) (nI (tq_pk c n p)) = (0, nI (tq_pk c n p), nI (tq_pk c n p), 0) := fun hb => by
    simp only [fx_c_X12_atom_p86, fx_c_X12_atom_p90b, exc1]
    rw [rx_c_X12_isDigit_1 hT hG g5, hb, px_i0, if_pos rfl]
  by_cases h1 : tq_ch c n (tq_pk c n p) = -1
  · have hb : tq_dg (tq_ch c n (tq_pk c n p)) = false := by rw [h1]; decide
    have es : tq_atom c n (tq_S c n 6) p = (false, tq_pk c n p) := by unfold tq_atom; rw [if_neg (by rw [h1]; decide), if_neg (by rw [h1]; decide)]; unfold tq_nm; rw [if_neg (by rw [hb]; decide)]
    rw [if_pos h1, hd, hb, px_i0, if_pos rfl, h86 hb, es]
    exact CS_f g5
  · obtain ⟨j, hj, ej⟩ := RG_nI (tq_ch_RG0 hT h1) (by decide)
    have hl := rx_let j hj
    rw [← ej] at hl
    rw [if_neg h1]
    rcases hl with ⟨i1, i2⟩ | ⟨i1, i2⟩
    · rw [i1, if_pos rfl]
      by_cases h91 : tq_ch c n (tq_pk c n p) = 91
      · have g4 := tq_ch_ne h91 (by decide)
        have es : tq_atom c n (tq_S c n 6) p = tq_bind (tq_SM c n 5 (tq_pk c n p + 1)) (tq_ex c n 93) := by unfold tq_atom; rw [if_neg (by rw [i2]; decide), if_pos h91]; rfl
        have hgi : fx_c_X12_goesIn (nI (tq_pk c n p)) = (1, nI (tq_pk c n p + 1)) := by simp only [fx_c_X12_goesIn, exl]; rw [nI_1]
        rw [if_pos h91, es, hgi]
        refine CS_seq hn (rx_c_X12_sum_1 hT hG (p := tq_pk c n p + 1) (by omega) L) (tq_SM_PG _ (by omega)).1 (fun q hq eq1 eq2 _ _ => ?_) (fun z => ?_)
        · rw [if_pos eq2, eq1, rx_c_X12_takes_1 hT hG hq (by decide)]
          have k5 := tq_pk_le (c := c) hq
          unfold tq_ex
          by_cases h5 : tq_ch c n (tq_pk c n q) = 93
          · have k4 := tq_ch_ne h5 (by decide)
            rw [if_pos h5, if_pos h5, if_pos rfl]
            exact CS_t (by omega)
          · rw [if_neg h5, if_neg h5, if_neg (show ¬ (0 : Int32) = 1 by decide)]
            exact CS_f k5
        · rw [if_neg z]
          exact ⟨rfl, rfl⟩
      · rw [if_neg h91, hd]
        cases hb : tq_dg (tq_ch c n (tq_pk c n p)) with
        | false =>
          have es : tq_atom c n (tq_S c n 6) p = (false, tq_pk c n p) := by unfold tq_atom; rw [if_neg (by rw [i2]; decide), if_neg h91]; unfold tq_nm; rw [if_neg (by rw [hb]; decide)]
          rw [px_i0, if_pos rfl, h86 hb, es]
          exact CS_f g5
        | true =>
          have es : tq_atom c n (tq_S c n 6) p = tq_ds c n (4 - 0) (tq_pk c n p) := by
            unfold tq_atom
            rw [if_neg (by rw [i2]; decide), if_neg h91]
            unfold tq_nm
            rw [if_pos hb]
            show _ = (if tq_dg (tq_ch c n (tq_pk c n p)) then tq_ds c n 3 (tq_pk c n p + 1) else (true, tq_pk c n p))
            rw [if_pos hb]
          rw [px_i1, if_neg (show ¬ (1 : Int32) = 0 by decide), es]
          exact rx_c_X12_atom_p90 hT hG exF 0 0 (tq_pk c n p) g5 (by omega) (by have := hT.2; unfold exF; omega)
    · have g4 := tq_A_lt tq_lt_m1 i2
      have es : tq_atom c n (tq_S c n 6) p = (true, tq_pk c n p + 1) := by unfold tq_atom; rw [if_pos i2]
      rw [i1, if_neg (by decide), es, nI_1]
      exact CS_t (by omega)
theorem fs_c_X12_term_p5 (h0_f8 : Int32) (h0_f9 : Int32) (h0_5c : Nat → Int32) (h0_4c : Nat → Int32) (F : Nat) (j5_l1 : Int32) (j5_h0_f10 : Int32) : fx_c_X12_term_p5 h0_f8 h0_f9 h0_5c h0_4c (F + 1) j5_l1 j5_h0_f10 = ((if j5_l1 = j5_l1 then (exc2 (fx_c_X12_look h0_f8 h0_f9 j5_h0_f10 h0_5c) fun (r_76 : Int32) (x_77 : Int32) => (if r_76 = (-1) then (exc2 (fx_c_X12_look h0_f8 h0_f9 x_77 h0_5c) fun (r_92 : Int32) (x_93 : Int32) => (if r_92 = (-1) then (j5_l1, x_93, (-1), 0) else (if r_92 = 47 then (exc1 (fx_c_X12_look_1 h0_f8 h0_f9 x_93 h0_5c) fun (r_111 : Int32) => (if r_111 = (-1) then (default) else (if r_111 = 42 then (fx_c_X12_term_p45b h0_f8 h0_f9 h0_5c h0_4c j5_l1 (fx_c_X12_term_p5 h0_f8 h0_f9 h0_5c h0_4c F) x_93) else (fx_c_X12_term_p45 h0_f8 h0_f9 h0_5c h0_4c j5_l1 (fx_c_X12_term_p5 h0_f8 h0_f9 h0_5c h0_4c F) x_93)))) else (j5_l1, x_93, (-1), 0)))) else (if r_76 = 42 then (exc1 (fx_c_X12_look_1 h0_f8 h0_f9 x_77 h0_5c) fun (r_128 : Int32) => (if r_128 = (-1) then (default) else (if r_128 = 42 then (fx_c_X12_term_p45b h0_f8 h0_f9 h0_5c h0_4c j5_l1 (fx_c_X12_term_p5 h0_f8 h0_f9 h0_5c h0_4c F) x_77) else (fx_c_X12_term_p45 h0_f8 h0_f9 h0_5c h0_4c j5_l1 (fx_c_X12_term_p5 h0_f8 h0_f9 h0_5c h0_4c F) x_77)))) else (exc1 (fx_c_X12_look_1 h0_f8 h0_f9 x_77 h0_5c) fun (r_142 : Int32) => (if r_142 = (-1) then (default) else (if r_142 = 47 then (exc1 (fx_c_X12_look_1 h0_f8 h0_f9 x_77 h0_5c) fun (r_156 : Int32) => (if r_156 = (-1) then (default) else (if r_156 = 42 then (fx_c_X12_term_p45b h0_f8 h0_f9 h0_5c h0_4c j5_l1 (fx_c_X12_term_p5 h0_f8 h0_f9 h0_5c h0_4c F) x_77) else (fx_c_X12_term_p45 h0_f8 h0_f9 h0_5c h0_4c j5_l1 (fx_c_X12_term_p5 h0_f8 h0_f9 h0_5c h0_4c F) x_77)))) else (j5_l1, x_77, (-1), 0))))))) else default) : Int32 × Int32 × Int32 × Int32) := rfl
theorem rx_c_X12_term_p45 {c g : Nat → Int32} {n : Nat} (hT : TB c n) (hG : TG c g n) (k : Int32 → Int32 → Int32 × Int32 × Int32 × Int32) (q : Nat) (hq : q < n) (v : Int32) (L : Nat → Int32) (hk : ∀ (v : Int32) (r : Nat), r ≤ n → q < r → CS n (-1) (tq_lp c n tq_md (tq_rp c n (tq_atom c n (tq_S c n 6)) tq_md) r) (k v (nI r)).2.1 (k v (nI r)).2.2.1) :
    CS n (-1) (tq_rp c n (tq_atom c n (tq_S c n 6)) tq_md (q + 1)) (fx_c_X12_term_p45 0 (nI n) g L v k (nI q)).2.1 (fx_c_X12_term_p45 0 (nI n) g L v k (nI q)).2.2.1 := by
  have hn := hT.2
  rw [tq_rp_lp (tq_atom_PG (c := c) (n := n) (tq_S_PG (c := c) (n := n) 6)) (by decide) (by omega)]
  simp only [fx_c_X12_term_p45, fx_c_X12_term_p5b, fx_c_X12_term_p87c, fx_c_X12_term_p87d, fx_c_X12_term_p87b, fx_c_X12_term_p87, exc1, exc3, exc4, exl]
  rw [nI_1]
  have hg := (tq_atom_PG (c := c) (n := n) (tq_S_PG (c := c) (n := n) 6)) (q + 1) (by omega)
  refine CS_seq hn (rx_c_X12_atom hT hG (p := q + 1) (by omega) L) hg.1 (fun r hr eq1 eq2 z2 z3 => ?_) (fun z => ?_)
  · have hqr : q < r := by have := hg.2 z2; omega
    rw [if_pos eq2, eq1]
    split <;> exact hk _ _ hr hqr
  · rw [if_neg z, if_neg z]
    exact ⟨rfl, rfl⟩
theorem rx_c_X12_term_p45b {c g : Nat → Int32} {n : Nat} (hT : TB c n) (hG : TG c g n) (k : Int32 → Int32 → Int32 × Int32 × Int32 × Int32) (q : Nat) (hq : q < n) (v : Int32) (L : Nat → Int32) (hk : ∀ (v : Int32) (r : Nat), r ≤ n → q < r → CS n (-1) (tq_lp c n tq_md (tq_rp c n (tq_atom c n (tq_S c n 6)) tq_md) r) (k v (nI r)).2.1 (k v (nI r)).2.2.1) :
    CS n (-1) (tq_rp c n (tq_atom c n (tq_S c n 6)) tq_md (q + 1)) (fx_c_X12_term_p45b 0 (nI n) g L v k (nI q)).2.1 (fx_c_X12_term_p45b 0 (nI n) g L v k (nI q)).2.2.1 := by
  have hn := hT.2
  rw [tq_rp_lp (tq_atom_PG (c := c) (n := n) (tq_S_PG (c := c) (n := n) 6)) (by decide) (by omega)]
  simp only [fx_c_X12_term_p45b, fx_c_X12_term_p5b, fx_c_X12_term_p87c, fx_c_X12_term_p87d, fx_c_X12_term_p87b, fx_c_X12_term_p87, exc1, exc3, exc4, exl]
  rw [nI_1]
  have hg := (tq_atom_PG (c := c) (n := n) (tq_S_PG (c := c) (n := n) 6)) (q + 1) (by omega)
  refine CS_seq hn (rx_c_X12_atom hT hG (p := q + 1) (by omega) L) hg.1 (fun r hr eq1 eq2 z2 z3 => ?_) (fun z => ?_)
  · have hqr : q < r := by have := hg.2 z2; omega
    rw [if_pos eq2, eq1]
    exact hk _ _ hr hqr
  · rw [if_neg z, if_neg z]
    exact ⟨rfl, rfl⟩
theorem rx_c_X12_term_p5 {c g : Nat → Int32} {n : Nat} (hT : TB c n) (hG : TG c g n) (L : Nat → Int32) : ∀ (F : Nat) (v : Int32) (p : Nat), p ≤ n → n < p + F → CS n (-1) (tq_lp c n tq_md (tq_rp c n (tq_atom c n (tq_S c n 6)) tq_md) p) (fx_c_X12_term_p5 0 (nI n) g L F v (nI p)).2.1 (fx_c_X12_term_p5 0 (nI n) g L F v (nI p)).2.2.1 := by
  have hn := hT.2
  intro F
  induction F with
  | zero => intro v p h1 h2; omega
  | succ F ih =>
    intro v p h1 h2
    have g3 := tq_pk_ge (c := c) h1
    have g5 := tq_pk_le (c := c) h1
    have hpp := tq_pk_pk (c := c) h1
    have hk : ∀ (v : Int32) (r : Nat), r ≤ n → tq_pk c n p < r → CS n (-1) (tq_lp c n tq_md (tq_rp c n (tq_atom c n (tq_S c n 6)) tq_md) r) (fx_c_X12_term_p5 0 (nI n) g L F v (nI r)).2.1 (fx_c_X12_term_p5 0 (nI n) g L F v (nI r)).2.2.1 := fun v r k1 k2 => ih v r k1 (by omega)
    rw [fs_c_X12_term_p5, if_pos rfl]
    simp only [exc1, exc2]
    rw [rx_c_X12_look hT hG h1]
    simp only []
    rw [rx_c_X12_look hT hG g5, rx_c_X12_look_1 hT hG g5 hpp, hpp]
    simp only []
    by_cases h1 : tq_ch c n (tq_pk c n p) = -1
    · rw [if_pos h1, if_pos h1, tq_lp_f (by rw [h1]; decide)]
      exact CS_t g5
    · have g4 := tq_ch_lt h1
      rw [if_neg h1, if_neg h1]
      by_cases h2 : tq_ch c n (tq_pk c n p) = 42
      · rw [if_pos h2, if_pos h2, tq_lp_t (by rw [h2]; decide)]
        exact rx_c_X12_term_p45b hT hG _ _ g4 v L hk
      · rw [if_neg h2]
        by_cases h3 : tq_ch c n (tq_pk c n p) = 47
        · rw [if_pos h3, if_neg h1, if_neg h2, tq_lp_t (by rw [h3]; decide)]
          exact rx_c_X12_term_p45 hT hG _ _ g4 v L hk
        · rw [if_neg h3, if_neg h1, tq_lp_f (tq_bf (fun z => by rcases tq_md2 z with z | z <;> contradiction))]
          exact CS_t g5
theorem rx_c_X12_term_rp {c g : Nat → Int32} {n : Nat} (hT : TB c n) (hG : TG c g n) {p : Nat} (hp : p ≤ n) (L : Nat → Int32) : CS n (-1) (tq_rp c n (tq_atom c n (tq_S c n 6)) tq_md p) (fx_c_X12_term 0 (nI n) (nI p) g L).2.1 (fx_c_X12_term 0 (nI n) (nI p) g L).2.2.1 := by
  have hn := hT.2
  rw [tq_rp_lp (tq_atom_PG (c := c) (n := n) (tq_S_PG (c := c) (n := n) 6)) (by decide) hp]
  simp only [fx_c_X12_term, fx_c_X12_term_p5b, exc1, exc3, exc4]
  have hg := (tq_atom_PG (c := c) (n := n) (tq_S_PG (c := c) (n := n) 6)) p hp
  refine CS_seq hn (rx_c_X12_atom hT hG hp L) hg.1 (fun r hr eq1 eq2 z2 z3 => ?_) (fun z => ?_)
  · rw [if_pos eq2, eq1]
    exact rx_c_X12_term_p5 hT hG L exF _ r hr (by have := hT.2; unfold exF; omega)
  · rw [if_neg z, if_neg z]
    exact ⟨rfl, rfl⟩
theorem rx_c_X12_term {c g : Nat → Int32} {n : Nat} (hT : TB c n) (hG : TG c g n) {p : Nat} (hp : p ≤ n) (L : Nat → Int32) : CS n (-1) (tq_rp c n (tq_atom c n (tq_S c n 6)) tq_md p) (fx_c_X12_term 0 (nI n) (nI p) g L).2.1 (fx_c_X12_term 0 (nI n) (nI p) g L).2.2.1 := rx_c_X12_term_rp hT hG hp L
theorem fs_c_X12_sum_p5 (h0_f8 : Int32) (h0_f9 : Int32) (h0_5c : Nat → Int32) (h0_4c : Nat → Int32) (F : Nat) (j5_l1 : Int32) (j5_h0_f10 : Int32) : fx_c_X12_sum_p5 h0_f8 h0_f9 h0_5c h0_4c (F + 1) j5_l1 j5_h0_f10 = ((if j5_l1 = j5_l1 then (exc2 (fx_c_X12_look h0_f8 h0_f9 j5_h0_f10 h0_5c) fun (r_77 : Int32) (x_78 : Int32) => (if r_77 = (-1) then (exc2 (fx_c_X12_look h0_f8 h0_f9 x_78 h0_5c) fun (r_93 : Int32) (x_94 : Int32) => (if r_93 = (-1) then (j5_l1, x_94, (-1), 0) else (if r_93 = 45 then (exc1 (fx_c_X12_look_1 h0_f8 h0_f9 x_94 h0_5c) fun (r_112 : Int32) => (if r_112 = (-1) then (default) else (if r_112 = 43 then (fx_c_X12_sum_p45b h0_f8 h0_f9 h0_5c h0_4c j5_l1 (fx_c_X12_sum_p5 h0_f8 h0_f9 h0_5c h0_4c F) x_94) else (fx_c_X12_sum_p45 h0_f8 h0_f9 h0_5c h0_4c j5_l1 (fx_c_X12_sum_p5 h0_f8 h0_f9 h0_5c h0_4c F) x_94)))) else (j5_l1, x_94, (-1), 0)))) else (if r_77 = 43 then (exc1 (fx_c_X12_look_1 h0_f8 h0_f9 x_78 h0_5c) fun (r_129 : Int32) => (if r_129 = (-1) then (default) else (if r_129 = 43 then (fx_c_X12_sum_p45b h0_f8 h0_f9 h0_5c h0_4c j5_l1 (fx_c_X12_sum_p5 h0_f8 h0_f9 h0_5c h0_4c F) x_78) else (fx_c_X12_sum_p45 h0_f8 h0_f9 h0_5c h0_4c j5_l1 (fx_c_X12_sum_p5 h0_f8 h0_f9 h0_5c h0_4c F) x_78)))) else (exc1 (fx_c_X12_look_1 h0_f8 h0_f9 x_78 h0_5c) fun (r_143 : Int32) => (if r_143 = (-1) then (default) else (if r_143 = 45 then (exc1 (fx_c_X12_look_1 h0_f8 h0_f9 x_78 h0_5c) fun (r_157 : Int32) => (if r_157 = (-1) then (default) else (if r_157 = 43 then (fx_c_X12_sum_p45b h0_f8 h0_f9 h0_5c h0_4c j5_l1 (fx_c_X12_sum_p5 h0_f8 h0_f9 h0_5c h0_4c F) x_78) else (fx_c_X12_sum_p45 h0_f8 h0_f9 h0_5c h0_4c j5_l1 (fx_c_X12_sum_p5 h0_f8 h0_f9 h0_5c h0_4c F) x_78)))) else (j5_l1, x_78, (-1), 0))))))) else default) : Int32 × Int32 × Int32 × Int32) := rfl
theorem rx_c_X12_sum_p45 {c g : Nat → Int32} {n : Nat} (hT : TB c n) (hG : TG c g n) (k : Int32 → Int32 → Int32 × Int32 × Int32 × Int32) (q : Nat) (hq : q < n) (v : Int32) (L : Nat → Int32) (hk : ∀ (v : Int32) (r : Nat), r ≤ n → q < r → CS n (-1) (tq_lp c n tq_as (tq_rp c n (tq_rp c n (tq_atom c n (tq_S c n 6)) tq_md) tq_as) r) (k v (nI r)).2.1 (k v (nI r)).2.2.1) :
    CS n (-1) (tq_rp c n (tq_rp c n (tq_atom c n (tq_S c n 6)) tq_md) tq_as (q + 1)) (fx_c_X12_sum_p45 0 (nI n) g L v k (nI q)).2.1 (fx_c_X12_sum_p45 0 (nI n) g L v k (nI q)).2.2.1 := by
  have hn := hT.2
  rw [tq_rp_lp (tq_rp_PG (c := c) (n := n) (A := tq_md) (tq_atom_PG (c := c) (n := n) (tq_S_PG (c := c) (n := n) 6)) (by decide)) (by decide) (by omega)]
  simp only [fx_c_X12_sum_p45, fx_c_X12_sum_p5b, fx_c_X12_sum_p77b, fx_c_X12_sum_p77, exc1, exc3, exc4, exl]
  rw [nI_1]
  have hg := (tq_rp_PG (c := c) (n := n) (A := tq_md) (tq_atom_PG (c := c) (n := n) (tq_S_PG (c := c) (n := n) 6)) (by decide)) (q + 1) (by omega)
  refine CS_seq hn (rx_c_X12_term hT hG (p := q + 1) (by omega) L) hg.1 (fun r hr eq1 eq2 z2 z3 => ?_) (fun z => ?_)
  · have hqr : q < r := by have := hg.2 z2; omega
    rw [if_pos eq2, eq1]
    exact hk _ _ hr hqr
  · rw [if_neg z, if_neg z]
    exact ⟨rfl, rfl⟩
theorem rx_c_X12_sum_p45b {c g : Nat → Int32} {n : Nat} (hT : TB c n) (hG : TG c g n) (k : Int32 → Int32 → Int32 × Int32 × Int32 × Int32) (q : Nat) (hq : q < n) (v : Int32) (L : Nat → Int32) (hk : ∀ (v : Int32) (r : Nat), r ≤ n → q < r → CS n (-1) (tq_lp c n tq_as (tq_rp c n (tq_rp c n (tq_atom c n (tq_S c n 6)) tq_md) tq_as) r) (k v (nI r)).2.1 (k v (nI r)).2.2.1) :
    CS n (-1) (tq_rp c n (tq_rp c n (tq_atom c n (tq_S c n 6)) tq_md) tq_as (q + 1)) (fx_c_X12_sum_p45b 0 (nI n) g L v k (nI q)).2.1 (fx_c_X12_sum_p45b 0 (nI n) g L v k (nI q)).2.2.1 := by
  have hn := hT.2
  rw [tq_rp_lp (tq_rp_PG (c := c) (n := n) (A := tq_md) (tq_atom_PG (c := c) (n := n) (tq_S_PG (c := c) (n := n) 6)) (by decide)) (by decide) (by omega)]
  simp only [fx_c_X12_sum_p45b, fx_c_X12_sum_p5b, fx_c_X12_sum_p77b, fx_c_X12_sum_p77, exc1, exc3, exc4, exl]
  rw [nI_1]
  have hg := (tq_rp_PG (c := c) (n := n) (A := tq_md) (tq_atom_PG (c := c) (n := n) (tq_S_PG (c := c) (n := n) 6)) (by decide)) (q + 1) (by omega)
  refine CS_seq hn (rx_c_X12_term hT hG (p := q + 1) (by omega) L) hg.1 (fun r hr eq1 eq2 z2 z3 => ?_) (fun z => ?_)
  · have hqr : q < r := by have := hg.2 z2; omega
    rw [if_pos eq2, eq1]
    exact hk _ _ hr hqr
  · rw [if_neg z, if_neg z]
    exact ⟨rfl, rfl⟩
theorem rx_c_X12_sum_p5 {c g : Nat → Int32} {n : Nat} (hT : TB c n) (hG : TG c g n) (L : Nat → Int32) : ∀ (F : Nat) (v : Int32) (p : Nat), p ≤ n → n < p + F → CS n (-1) (tq_lp c n tq_as (tq_rp c n (tq_rp c n (tq_atom c n (tq_S c n 6)) tq_md) tq_as) p) (fx_c_X12_sum_p5 0 (nI n) g L F v (nI p)).2.1 (fx_c_X12_sum_p5 0 (nI n) g L F v (nI p)).2.2.1 := by
  have hn := hT.2
  intro F
  induction F with
  | zero => intro v p h1 h2; omega
  | succ F ih =>
    intro v p h1 h2
    have g3 := tq_pk_ge (c := c) h1
    have g5 := tq_pk_le (c := c) h1
    have hpp := tq_pk_pk (c := c) h1
    have hk : ∀ (v : Int32) (r : Nat), r ≤ n → tq_pk c n p < r → CS n (-1) (tq_lp c n tq_as (tq_rp c n (tq_rp c n (tq_atom c n (tq_S c n 6)) tq_md) tq_as) r) (fx_c_X12_sum_p5 0 (nI n) g L F v (nI r)).2.1 (fx_c_X12_sum_p5 0 (nI n) g L F v (nI r)).2.2.1 := fun v r k1 k2 => ih v r k1 (by omega)
    rw [fs_c_X12_sum_p5, if_pos rfl]
    simp only [exc1, exc2]
    rw [rx_c_X12_look hT hG h1]
    simp only []
    rw [rx_c_X12_look hT hG g5, rx_c_X12_look_1 hT hG g5 hpp, hpp]
    simp only []
    by_cases h1 : tq_ch c n (tq_pk c n p) = -1
    · rw [if_pos h1, if_pos h1, tq_lp_f (by rw [h1]; decide)]
      exact CS_t g5
    · have g4 := tq_ch_lt h1
      rw [if_neg h1, if_neg h1]
      by_cases h2 : tq_ch c n (tq_pk c n p) = 43
      · rw [if_pos h2, if_pos h2, tq_lp_t (by rw [h2]; decide)]
        exact rx_c_X12_sum_p45b hT hG _ _ g4 v L hk
      · rw [if_neg h2]
        by_cases h3 : tq_ch c n (tq_pk c n p) = 45
        · rw [if_pos h3, if_neg h1, if_neg h2, tq_lp_t (by rw [h3]; decide)]
          exact rx_c_X12_sum_p45 hT hG _ _ g4 v L hk
        · rw [if_neg h3, if_neg h1, tq_lp_f (tq_bf (fun z => by rcases tq_as2 z with z | z <;> contradiction))]
          exact CS_t g5
theorem rx_c_X12_sum_rp {c g : Nat → Int32} {n : Nat} (hT : TB c n) (hG : TG c g n) {p : Nat} (hp : p ≤ n) (L : Nat → Int32) : CS n (-1) (tq_rp c n (tq_rp c n (tq_atom c n (tq_S c n 6)) tq_md) tq_as p) (fx_c_X12_sum 0 (nI n) (nI p) g L).2.1 (fx_c_X12_sum 0 (nI n) (nI p) g L).2.2.1 := by
  have hn := hT.2
  rw [tq_rp_lp (tq_rp_PG (c := c) (n := n) (A := tq_md) (tq_atom_PG (c := c) (n := n) (tq_S_PG (c := c) (n := n) 6)) (by decide)) (by decide) hp]
  simp only [fx_c_X12_sum, fx_c_X12_sum_p5b, exc1, exc3, exc4]
  have hg := (tq_rp_PG (c := c) (n := n) (A := tq_md) (tq_atom_PG (c := c) (n := n) (tq_S_PG (c := c) (n := n) 6)) (by decide)) p hp
  refine CS_seq hn (rx_c_X12_term hT hG hp L) hg.1 (fun r hr eq1 eq2 z2 z3 => ?_) (fun z => ?_)
  · rw [if_pos eq2, eq1]
    exact rx_c_X12_sum_p5 hT hG L exF _ r hr (by have := hT.2; unfold exF; omega)
  · rw [if_neg z, if_neg z]
    exact ⟨rfl, rfl⟩
theorem rx_c_X12_sum {c g : Nat → Int32} {n : Nat} (hT : TB c n) (hG : TG c g n) {p : Nat} (hp : p ≤ n) (L : Nat → Int32) : CS n (-1) (tq_SM c n 6 p) (fx_c_X12_sum 0 (nI n) (nI p) g L).2.1 (fx_c_X12_sum 0 (nI n) (nI p) g L).2.2.1 := CS_e (rx_c_X12_sum_rp hT hG hp L) (tq_nest (tq_atom_PG (tq_S_PG 6)) (by decide) (by decide) hp).symm
-- CONDITIONS
theorem rx_c_X12_compares_6_p12 {c g : Nat → Int32} {n : Nat} (hT : TB c n) (hG : TG c g n) {q : Nat} (hq : q ≤ n) (v : Int32) (L : Nat → Int32) : CS n (-1) (tq_tail c n (tq_SM c n 0) q) (fx_c_X12_compares_6_p12 0 (nI n) g L v (nI q)).2.1 (fx_c_X12_compares_6_p12 0 (nI n) g L v (nI q)).2.2 := by
  have hn := hT.2
  have g5 := tq_pk_le (c := c) hq
  simp only [fx_c_X12_compares_6_p12, exc1, exc2, exc3, exc4, exl]
  rw [rx_c_X12_look hT hG hq]
  simp only []
  by_cases h1 : tq_ch c n (tq_pk c n q) = -1
  · have es : tq_tail c n (tq_SM c n 0) q = (false, tq_pk c n q) := by unfold tq_tail; rw [if_neg (by rw [h1]; decide)]
    rw [if_pos h1, es]
    exact CS_f g5
  · rw [if_neg h1, rx_ss]
    by_cases h2 : tq_cmp (tq_ch c n (tq_pk c n q)) = true
    · have g4 := tq_A_lt tq_cmp_m1 h2
      have es : tq_tail c n (tq_SM c n 0) q = tq_SM c n 0 (tq_pk c n q + 1) := by unfold tq_tail; rw [if_pos h2]
      rw [if_pos h2, if_neg (by decide), es, nI_1]
      have h3 := rx_c_X12_sum_6 hT hG (p := tq_pk c n q + 1) (by omega) L
      by_cases h4 : (fx_c_X12_sum_6 0 (nI n) (nI (tq_pk c n q + 1)) g L).2.2 = -1
      · rw [if_pos h4]
        rw [h4] at h3
        simp only [apply_ite Prod.snd, apply_ite Prod.fst, ite_self]
        exact h3
      · rw [if_neg h4]
        simp only [apply_ite Prod.snd, apply_ite Prod.fst, ite_self]
        exact h3
    · have es : tq_tail c n (tq_SM c n 0) q = (false, tq_pk c n q) := by unfold tq_tail; rw [if_neg h2]
      rw [if_neg h2, if_pos rfl, es]
      exact CS_f g5
theorem rx_c_X12_compares_6_0 {c g : Nat → Int32} {n : Nat} (hT : TB c n) (hG : TG c g n) {q : Nat} (hq : q ≤ n) (L : Nat → Int32) : CS n (-1) (tq_bind (tq_SM c n 0 q) (tq_tail c n (tq_SM c n 0))) (fx_c_X12_compares_6 0 0 (nI n) (nI q) g L).2.1 (fx_c_X12_compares_6 0 0 (nI n) (nI q) g L).2.2 := by
  have hn := hT.2
  simp only [fx_c_X12_compares_6, fx_c_X12_compares_6_p12b, exc3, exc4]
  rw [if_pos trivial]
  refine CS_seq hn (rx_c_X12_sum_6 hT hG hq L) (tq_SM_PG _ hq).1 (fun r hr eq1 eq2 z2 z3 => ?_) (fun z => ?_)
  · rw [if_pos eq2, eq1]
    exact rx_c_X12_compares_6_p12 hT hG hr _ L
  · rw [if_neg z, if_neg z]
    exact ⟨rfl, rfl⟩
theorem rx_c_X12_unit_6 {c g : Nat → Int32} {n : Nat} (hT : TB c n) (hG : TG c g n) {p : Nat} (hp : p ≤ n) (L : Nat → Int32) : CS n (-1) (tq_U c n 0 p) (fx_c_X12_unit_6 0 (nI n) (nI p) g L).2.1 (fx_c_X12_unit_6 0 (nI n) (nI p) g L).2.2 := by
  have hn := hT.2
  have g3 := tq_pk_ge (c := c) hp
  have g5 := tq_pk_le (c := c) hp
  simp only [fx_c_X12_unit_6, exc1, exc2, exc3, exc4, exl]
  rw [rx_c_X12_look hT hG hp]
  simp only []
  have h9 := rx_c_X12_compares_6_0 hT hG g5 L
  have hcmp : ∀ {α : Type} (r : Int32) (y : α), CS n (-1) (tq_bind (tq_SM c n 0 (tq_pk c n p)) (tq_tail c n (tq_SM c n 0))) (if (fx_c_X12_compares_6 0 0 (nI n) (nI (tq_pk c n p)) g L).2.2 = -1 then ((fx_c_X12_compares_6 0 0 (nI n) (nI (tq_pk c n p)) g L).1, (fx_c_X12_compares_6 0 0 (nI n) (nI (tq_pk c n p)) g L).2.1, (-1 : Int32)) else ((fx_c_X12_compares_6 0 0 (nI n) (nI (tq_pk c n p)) g L).1, (fx_c_X12_compares_6 0 0 (nI n) (nI (tq_pk c n p)) g L).2.1, (fx_c_X12_compares_6 0 0 (nI n) (nI (tq_pk c n p)) g L).2.2)).2.1 (if (fx_c_X12_compares_6 0 0 (nI n) (nI (tq_pk c n p)) g L).2.2 = -1 then ((fx_c_X12_compares_6 0 0 (nI n) (nI (tq_pk c n p)) g L).1, (fx_c_X12_compares_6 0 0 (nI n) (nI (tq_pk c n p)) g L).2.1, (-1 : Int32)) else ((fx_c_X12_compares_6 0 0 (nI n) (nI (tq_pk c n p)) g L).1, (fx_c_X12_compares_6 0 0 (nI n) (nI (tq_pk c n p)) g L).2.1, (fx_c_X12_compares_6 0 0 (nI n) (nI (tq_pk c n p)) g L).2.2)).2.2 := fun r y => by
    by_cases h4 : (fx_c_X12_compares_6 0 0 (nI n) (nI (tq_pk c n p)) g L).2.2 = -1
    · rw [if_pos h4]
      rw [h4] at h9
      simp only []
      exact h9
    · rw [if_neg h4]
      simp only []
      exact h9
  by_cases h1 : tq_ch c n (tq_pk c n p) = -1
  · have es : tq_U c n 0 p = tq_bind (tq_SM c n 0 (tq_pk c n p)) (tq_tail c n (tq_SM c n 0)) := by
      show tq_unit c n _ _ _ p = _
      unfold tq_unit
      rw [if_neg (by rw [h1]; decide), if_neg (by rw [h1]; decide)]
    rw [if_pos h1, es]
    exact hcmp 0 ()
  · rw [if_neg h1]
    by_cases h2 : tq_ch c n (tq_pk c n p) = 33
    · have es : tq_U c n 0 p = (false, tq_pk c n p) := by
        show tq_unit c n _ none none p = _
        unfold tq_unit
        rw [if_pos h2]
      rw [if_pos h2, es]
      exact CS_f g5
    · rw [if_neg h2]
      by_cases h3 : tq_ch c n (tq_pk c n p) = 40
      · have es : tq_U c n 0 p = (false, tq_pk c n p) := by
          show tq_unit c n _ none none p = _
          unfold tq_unit
          rw [if_neg h2, if_pos h3]
        rw [if_pos h3, es]
        exact CS_f g5
      · have es : tq_U c n 0 p = tq_bind (tq_SM c n 0 (tq_pk c n p)) (tq_tail c n (tq_SM c n 0)) := by
          show tq_unit c n _ _ _ p = _
          unfold tq_unit
          rw [if_neg h2, if_neg h3]
        rw [if_neg h3, es]
        exact hcmp 0 ()
theorem fs_c_X12_part_6_p18 (h0_f8 : Int32) (h0_f9 : Int32) (h0_5c : Nat → Int32) (h0_4c : Nat → Int32) (F : Nat) (j18_l3 : Int32) (j18_h0_f10 : Int32) : fx_c_X12_part_6_p18 h0_f8 h0_f9 h0_5c h0_4c (F + 1) j18_l3 j18_h0_f10 = ((if j18_l3 = j18_l3 then (exc2 (fx_c_X12_look h0_f8 h0_f9 j18_h0_f10 h0_5c) fun (r_3 : Int32) (x_4 : Int32) => (if r_3 = (-1) then (j18_l3, x_4, (-1)) else (if r_3 = 38 then (exl (x_4 + 1) fun (x_22 : Int32) => (exc3 (fx_c_X12_unit_6 h0_f8 h0_f9 x_22 h0_5c h0_4c) fun (r_25 : Int32) (x_26 : Int32) (x_27 : Int32) => (if x_27 = (-1) then (if j18_l3 = 0 then (fx_c_X12_part_6_p64 (fx_c_X12_part_6_p18 h0_f8 h0_f9 h0_5c h0_4c F) x_26) else (if r_25 = 0 then (fx_c_X12_part_6_p64 (fx_c_X12_part_6_p18 h0_f8 h0_f9 h0_5c h0_4c F) x_26) else (fx_c_X12_part_6_p65 (fx_c_X12_part_6_p18 h0_f8 h0_f9 h0_5c h0_4c F) x_26))) else (if j18_l3 = 0 then (fx_c_X12_part_6_p64b x_26 x_27) else (if r_25 = 0 then (fx_c_X12_part_6_p64b x_26 x_27) else (fx_c_X12_part_6_p65b x_26 x_27)))))) else (j18_l3, x_4, (-1))))) else default) : Int32 × Int32 × Int32) := rfl
theorem rx_c_X12_part_6_lp {c g : Nat → Int32} {n : Nat} (hT : TB c n) (hG : TG c g n) (L : Nat → Int32) : ∀ (F : Nat) (v : Int32) (p : Nat), p ≤ n → n < p + F → CS n (-1) (tq_lp c n tq_am (tq_rp c n (tq_U c n 0) tq_am) p) (fx_c_X12_part_6_p18 0 (nI n) g L F v (nI p)).2.1 (fx_c_X12_part_6_p18 0 (nI n) g L F v (nI p)).2.2 := by
  have hn := hT.2
  intro F
  induction F with
  | zero => intro v p h1 h2; omega
  | succ F ih =>
    intro v p h1 h2
    have g3 := tq_pk_ge (c := c) h1
    have g5 := tq_pk_le (c := c) h1
    rw [fs_c_X12_part_6_p18, if_pos rfl]
    simp only [exc2, exc3, exc4, exl, fx_c_X12_part_6_p18b, fx_c_X12_part_6_p65d, fx_c_X12_part_6_p64b, fx_c_X12_part_6_p65b, fx_c_X12_part_6_p65c, fx_c_X12_part_6_p64, fx_c_X12_part_6_p65, fx_c_X12_part_6_p17, fx_c_X12_part_6_p17b]
    rw [rx_c_X12_look hT hG h1]
    simp only []
    by_cases h3 : tq_ch c n (tq_pk c n p) = -1
    · rw [if_pos h3, tq_lp_f (by rw [h3]; decide)]
      exact CS_t g5
    · have g4 := tq_ch_lt h3
      rw [if_neg h3]
      by_cases h4 : tq_ch c n (tq_pk c n p) = 38
      · rw [if_pos h4, tq_lp_t (by rw [h4]; decide), tq_rp_lp (tq_U_PG (c := c) (n := n) 0) (by decide) (p := tq_pk c n p + 1) (by omega), nI_1]
        have hg := (tq_U_PG (c := c) (n := n) 0) (tq_pk c n p + 1) (by omega)
        refine CS_seq hn (rx_c_X12_unit_6 hT hG (p := tq_pk c n p + 1) (by omega) L) hg.1 (fun r hr eq1 eq2 z2 z3 => ?_) (fun z => ?_)
        · have hk : ∀ v : Int32, CS n (-1) (tq_lp c n tq_am (tq_rp c n (tq_U c n 0) tq_am) r) (fx_c_X12_part_6_p18 0 (nI n) g L F v (nI r)).2.1 (fx_c_X12_part_6_p18 0 (nI n) g L F v (nI r)).2.2 := fun v => ih v r hr (by have := hg.2 z2; omega)
          rw [if_pos eq2, eq1]
          by_cases h5 : v = 0
          · rw [if_pos h5]
            exact hk _
          · rw [if_neg h5]
            by_cases h6 : (fx_c_X12_unit_6 0 (nI n) (nI (tq_pk c n p + 1)) g L).1 = 0
            · rw [if_pos h6]
              exact hk _
            · rw [if_neg h6]
              exact hk _
        · rw [if_neg z]
          by_cases h5 : v = 0
          · rw [if_pos h5]
            rw [if_neg z]
            exact ⟨rfl, rfl⟩
          · rw [if_neg h5]
            by_cases h6 : (fx_c_X12_unit_6 0 (nI n) (nI (tq_pk c n p + 1)) g L).1 = 0
            · rw [if_pos h6]
              rw [if_neg z]
              exact ⟨rfl, rfl⟩
            · rw [if_neg h6]
              rw [if_neg z]
              exact ⟨rfl, rfl⟩
      · rw [if_neg h4, tq_lp_f (tq_bf (fun z => h4 (of_decide_eq_true z)))]
        exact CS_t g5
theorem rx_c_X12_part_6_0 {c g : Nat → Int32} {n : Nat} (hT : TB c n) (hG : TG c g n) {p : Nat} (hp : p ≤ n) (L : Nat → Int32) : CS n (-1) (tq_bind (tq_U c n 0 p) (tq_lp c n tq_am (tq_rp c n (tq_U c n 0) tq_am))) (fx_c_X12_part_6 0 0 (nI n) (nI p) g L).2.1 (fx_c_X12_part_6 0 0 (nI n) (nI p) g L).2.2 := by
  have hn := hT.2
  simp only [fx_c_X12_part_6, fx_c_X12_part_6_p18b, fx_c_X12_part_6_p17, fx_c_X12_part_6_p17b, exc3, exc4]
  rw [if_pos trivial]
  refine CS_seq hn (rx_c_X12_unit_6 hT hG hp L) ((tq_U_PG 0 p hp).1) (fun r hr eq1 eq2 z2 z3 => ?_) (fun z => ?_)
  · rw [if_pos eq2, eq1]
    exact rx_c_X12_part_6_lp hT hG L exF _ r hr (by have := hT.2; unfold exF; omega)
  · rw [if_neg z, if_neg z]
    exact ⟨rfl, rfl⟩
theorem rx_c_X12_part_6 {c g : Nat → Int32} {n : Nat} (hT : TB c n) (hG : TG c g n) {p : Nat} (hp : p ≤ n) (L : Nat → Int32) : CS n (-1) (tq_rp c n (tq_U c n 0) tq_am p) (fx_c_X12_part_6 0 0 (nI n) (nI p) g L).2.1 (fx_c_X12_part_6 0 0 (nI n) (nI p) g L).2.2 := CS_e (rx_c_X12_part_6_0 hT hG hp L) (tq_rp_lp (tq_U_PG 0) (by decide) hp)
theorem fs_c_X12_condition_6_p7 (h0_f8 : Int32) (h0_f9 : Int32) (h0_5c : Nat → Int32) (h0_4c : Nat → Int32) (F : Nat) (j7_l3 : Int32) (j7_h0_f10 : Int32) : fx_c_X12_condition_6_p7 h0_f8 h0_f9 h0_5c h0_4c (F + 1) j7_l3 j7_h0_f10 = ((if j7_l3 = j7_l3 then (exc2 (fx_c_X12_look h0_f8 h0_f9 j7_h0_f10 h0_5c) fun (r_3 : Int32) (x_4 : Int32) => (if r_3 = (-1) then (j7_l3, x_4, (-1)) else (if r_3 = 124 then (exl (x_4 + 1) fun (x_22 : Int32) => (exc3 (fx_c_X12_part_6 0 h0_f8 h0_f9 x_22 h0_5c h0_4c) fun (r_25 : Int32) (x_26 : Int32) (x_27 : Int32) => (if x_27 = (-1) then (if j7_l3 = 0 then (if r_25 = 0 then (fx_c_X12_condition_6_p56 (fx_c_X12_condition_6_p7 h0_f8 h0_f9 h0_5c h0_4c F) x_26) else (fx_c_X12_condition_6_p51 (fx_c_X12_condition_6_p7 h0_f8 h0_f9 h0_5c h0_4c F) x_26)) else (fx_c_X12_condition_6_p51 (fx_c_X12_condition_6_p7 h0_f8 h0_f9 h0_5c h0_4c F) x_26)) else (if j7_l3 = 0 then (if r_25 = 0 then (fx_c_X12_condition_6_p56b x_26 x_27) else (fx_c_X12_condition_6_p51b x_26 x_27)) else (fx_c_X12_condition_6_p51b x_26 x_27))))) else (j7_l3, x_4, (-1))))) else default) : Int32 × Int32 × Int32) := rfl
theorem rx_c_X12_condition_6_lp {c g : Nat → Int32} {n : Nat} (hT : TB c n) (hG : TG c g n) (L : Nat → Int32) : ∀ (F : Nat) (v : Int32) (p : Nat), p ≤ n → n < p + F → CS n (-1) (tq_lp c n tq_or (tq_rp c n (tq_rp c n (tq_U c n 0) tq_am) tq_or) p) (fx_c_X12_condition_6_p7 0 (nI n) g L F v (nI p)).2.1 (fx_c_X12_condition_6_p7 0 (nI n) g L F v (nI p)).2.2 := by
  have hn := hT.2
  intro F
  induction F with
  | zero => intro v p h1 h2; omega
  | succ F ih =>
    intro v p h1 h2
    have g3 := tq_pk_ge (c := c) h1
    have g5 := tq_pk_le (c := c) h1
    rw [fs_c_X12_condition_6_p7, if_pos rfl]
    simp only [exc2, exc3, exc4, exl, fx_c_X12_condition_6_p7b, fx_c_X12_condition_6_p56d, fx_c_X12_condition_6_p51b, fx_c_X12_condition_6_p56b, fx_c_X12_condition_6_p56c, fx_c_X12_condition_6_p51, fx_c_X12_condition_6_p56]
    rw [rx_c_X12_look hT hG h1]
    simp only []
    by_cases h3 : tq_ch c n (tq_pk c n p) = -1
    · rw [if_pos h3, tq_lp_f (by rw [h3]; decide)]
      exact CS_t g5
    · have g4 := tq_ch_lt h3
      rw [if_neg h3]
      by_cases h4 : tq_ch c n (tq_pk c n p) = 124
      · rw [if_pos h4, tq_lp_t (by rw [h4]; decide), tq_rp_lp (tq_rp_PG (c := c) (n := n) (tq_U_PG (c := c) (n := n) 0) (A := tq_am) (by decide)) (by decide) (p := tq_pk c n p + 1) (by omega), nI_1]
        have hg := (tq_rp_PG (c := c) (n := n) (tq_U_PG (c := c) (n := n) 0) (A := tq_am) (by decide)) (tq_pk c n p + 1) (by omega)
        refine CS_seq hn (rx_c_X12_part_6 hT hG (p := tq_pk c n p + 1) (by omega) L) hg.1 (fun r hr eq1 eq2 z2 z3 => ?_) (fun z => ?_)
        · have hk : ∀ v : Int32, CS n (-1) (tq_lp c n tq_or (tq_rp c n (tq_rp c n (tq_U c n 0) tq_am) tq_or) r) (fx_c_X12_condition_6_p7 0 (nI n) g L F v (nI r)).2.1 (fx_c_X12_condition_6_p7 0 (nI n) g L F v (nI r)).2.2 := fun v => ih v r hr (by have := hg.2 z2; omega)
          rw [if_pos eq2, eq1]
          by_cases h5 : v = 0
          · rw [if_pos h5]
            by_cases h6 : (fx_c_X12_part_6 0 0 (nI n) (nI (tq_pk c n p + 1)) g L).1 = 0
            · rw [if_pos h6]
              exact hk _
            · rw [if_neg h6]
              exact hk _
          · rw [if_neg h5]
            exact hk _
        · rw [if_neg z]
          by_cases h5 : v = 0
          · rw [if_pos h5]
            by_cases h6 : (fx_c_X12_part_6 0 0 (nI n) (nI (tq_pk c n p + 1)) g L).1 = 0
            · rw [if_pos h6]
              rw [if_neg z]
              exact ⟨rfl, rfl⟩
            · rw [if_neg h6]
              rw [if_neg z]
              exact ⟨rfl, rfl⟩
          · rw [if_neg h5]
            rw [if_neg z]
            exact ⟨rfl, rfl⟩
      · rw [if_neg h4, tq_lp_f (tq_bf (fun z => h4 (of_decide_eq_true z)))]
        exact CS_t g5
theorem rx_c_X12_condition_6_b {c g : Nat → Int32} {n : Nat} (hT : TB c n) (hG : TG c g n) {p : Nat} (hp : p ≤ n) (L : Nat → Int32) : CS n (-1) (tq_bind (tq_rp c n (tq_U c n 0) tq_am p) (tq_lp c n tq_or (tq_rp c n (tq_rp c n (tq_U c n 0) tq_am) tq_or))) (fx_c_X12_condition_6 0 0 (nI n) (nI p) g L).2.1 (fx_c_X12_condition_6 0 0 (nI n) (nI p) g L).2.2 := by
  have hn := hT.2
  simp only [fx_c_X12_condition_6, fx_c_X12_condition_6_p7b, exc3, exc4]
  refine CS_seq hn (rx_c_X12_part_6 hT hG hp L) (((tq_rp_PG (c := c) (n := n) (tq_U_PG (c := c) (n := n) 0) (A := tq_am) (by decide)) p hp).1) (fun r hr eq1 eq2 z2 z3 => ?_) (fun z => ?_)
  · rw [if_pos eq2, eq1]
    exact rx_c_X12_condition_6_lp hT hG L exF _ r hr (by have := hT.2; unfold exF; omega)
  · rw [if_neg z, if_neg z]
    exact ⟨rfl, rfl⟩
theorem rx_c_X12_condition_6_0 {c g : Nat → Int32} {n : Nat} (hT : TB c n) (hG : TG c g n) {p : Nat} (hp : p ≤ n) (L : Nat → Int32) : CS n (-1) (tq_C c n 0 p) (fx_c_X12_condition_6 0 0 (nI n) (nI p) g L).2.1 (fx_c_X12_condition_6 0 0 (nI n) (nI p) g L).2.2 := CS_e (rx_c_X12_condition_6_b hT hG hp L) ((tq_nest (tq_U_PG 0) (A := tq_am) (B := tq_or) (by decide) (by decide) hp).symm.trans (tq_rp_lp (tq_rp_PG (c := c) (n := n) (tq_U_PG (c := c) (n := n) 0) (A := tq_am) (by decide)) (by decide) hp))
theorem rx_c_X12_compares_5_p12 {c g : Nat → Int32} {n : Nat} (hT : TB c n) (hG : TG c g n) {q : Nat} (hq : q ≤ n) (v : Int32) (L : Nat → Int32) : CS n (-1) (tq_tail c n (tq_SM c n 1) q) (fx_c_X12_compares_5_p12 0 (nI n) g L v (nI q)).2.1 (fx_c_X12_compares_5_p12 0 (nI n) g L v (nI q)).2.2.1 := by
  have hn := hT.2
  have g5 := tq_pk_le (c := c) hq
  simp only [fx_c_X12_compares_5_p12, exc1, exc2, exc3, exc4, exl]
  rw [rx_c_X12_look hT hG hq]
  simp only []
  by_cases h1 : tq_ch c n (tq_pk c n q) = -1
  · have es : tq_tail c n (tq_SM c n 1) q = (false, tq_pk c n q) := by unfold tq_tail; rw [if_neg (by rw [h1]; decide)]
    rw [if_pos h1, es]
    exact CS_f g5
  · rw [if_neg h1, rx_ss]
    by_cases h2 : tq_cmp (tq_ch c n (tq_pk c n q)) = true
    · have g4 := tq_A_lt tq_cmp_m1 h2
      have es : tq_tail c n (tq_SM c n 1) q = tq_SM c n 1 (tq_pk c n q + 1) := by unfold tq_tail; rw [if_pos h2]
      rw [if_pos h2, if_neg (by decide), es, nI_1]
      have h3 := rx_c_X12_sum_5 hT hG (p := tq_pk c n q + 1) (by omega) L
      by_cases h4 : (fx_c_X12_sum_5 0 (nI n) (nI (tq_pk c n q + 1)) g L).2.2.1 = -1
      · rw [if_pos h4]
        rw [h4] at h3
        simp only [apply_ite Prod.snd, apply_ite Prod.fst, ite_self]
        exact h3
      · rw [if_neg h4]
        simp only [apply_ite Prod.snd, apply_ite Prod.fst, ite_self]
        exact h3
    · have es : tq_tail c n (tq_SM c n 1) q = (false, tq_pk c n q) := by unfold tq_tail; rw [if_neg h2]
      rw [if_neg h2, if_pos rfl, es]
      exact CS_f g5
theorem rx_c_X12_compares_5_0 {c g : Nat → Int32} {n : Nat} (hT : TB c n) (hG : TG c g n) {q : Nat} (hq : q ≤ n) (L : Nat → Int32) : CS n (-1) (tq_bind (tq_SM c n 1 q) (tq_tail c n (tq_SM c n 1))) (fx_c_X12_compares_5 0 0 (nI n) (nI q) g L).2.1 (fx_c_X12_compares_5 0 0 (nI n) (nI q) g L).2.2.1 := by
  have hn := hT.2
  simp only [fx_c_X12_compares_5, fx_c_X12_compares_5_p12b, exc3, exc4]
  rw [if_pos trivial]
  refine CS_seq hn (rx_c_X12_sum_5 hT hG hq L) (tq_SM_PG _ hq).1 (fun r hr eq1 eq2 z2 z3 => ?_) (fun z => ?_)
  · rw [if_pos eq2, eq1]
    exact rx_c_X12_compares_5_p12 hT hG hr _ L
  · rw [if_neg z, if_neg z]
    exact ⟨rfl, rfl⟩
theorem rx_c_X12_unit_5 {c g : Nat → Int32} {n : Nat} (hT : TB c n) (hG : TG c g n) {p : Nat} (hp : p ≤ n) (L : Nat → Int32) : CS n (-1) (tq_U c n 1 p) (fx_c_X12_unit_5 0 (nI n) (nI p) g L).2.1 (fx_c_X12_unit_5 0 (nI n) (nI p) g L).2.2.1 := by
  have hn := hT.2
  have g3 := tq_pk_ge (c := c) hp
  have g5 := tq_pk_le (c := c) hp
  simp only [fx_c_X12_unit_5, exc1, exc2, exc3, exc4, exl]
  rw [rx_c_X12_look hT hG hp]
  simp only []
  have h9 := rx_c_X12_compares_5_0 hT hG g5 L
  have hcmp : ∀ {α : Type} (r : Int32) (y : α), CS n (-1) (tq_bind (tq_SM c n 1 (tq_pk c n p)) (tq_tail c n (tq_SM c n 1))) (if (fx_c_X12_compares_5 0 0 (nI n) (nI (tq_pk c n p)) g L).2.2.1 = -1 then ((fx_c_X12_compares_5 0 0 (nI n) (nI (tq_pk c n p)) g L).1, (fx_c_X12_compares_5 0 0 (nI n) (nI (tq_pk c n p)) g L).2.1, (-1 : Int32), (5 : Int32)) else ((fx_c_X12_compares_5 0 0 (nI n) (nI (tq_pk c n p)) g L).1, (fx_c_X12_compares_5 0 0 (nI n) (nI (tq_pk c n p)) g L).2.1, (fx_c_X12_compares_5 0 0 (nI n) (nI (tq_pk c n p)) g L).2.2.1, (fx_c_X12_compares_5 0 0 (nI n) (nI (tq_pk c n p)) g L).2.2.2)).2.1 (if (fx_c_X12_compares_5 0 0 (nI n) (nI (tq_pk c n p)) g L).2.2.1 = -1 then ((fx_c_X12_compares_5 0 0 (nI n) (nI (tq_pk c n p)) g L).1, (fx_c_X12_compares_5 0 0 (nI n) (nI (tq_pk c n p)) g L).2.1, (-1 : Int32), (5 : Int32)) else ((fx_c_X12_compares_5 0 0 (nI n) (nI (tq_pk c n p)) g L).1, (fx_c_X12_compares_5 0 0 (nI n) (nI (tq_pk c n p)) g L).2.1, (fx_c_X12_compares_5 0 0 (nI n) (nI (tq_pk c n p)) g L).2.2.1, (fx_c_X12_compares_5 0 0 (nI n) (nI (tq_pk c n p)) g L).2.2.2)).2.2.1 := fun r y => by
    by_cases h4 : (fx_c_X12_compares_5 0 0 (nI n) (nI (tq_pk c n p)) g L).2.2.1 = -1
    · rw [if_pos h4]
      rw [h4] at h9
      simp only []
      exact h9
    · rw [if_neg h4]
      simp only []
      exact h9
  by_cases h1 : tq_ch c n (tq_pk c n p) = -1
  · have es : tq_U c n 1 p = tq_bind (tq_SM c n 1 (tq_pk c n p)) (tq_tail c n (tq_SM c n 1)) := by
      show tq_unit c n _ _ _ p = _
      unfold tq_unit
      rw [if_neg (by rw [h1]; decide), if_neg (by rw [h1]; decide)]
    rw [if_pos h1, es]
    exact hcmp 0 ()
  · rw [if_neg h1]
    by_cases h2 : tq_ch c n (tq_pk c n p) = 33
    · have g4 := tq_ch_ne h2 (by decide)
      have hgi : fx_c_X12_goesIn_5 (nI (tq_pk c n p)) = (1, nI (tq_pk c n p + 1)) := by simp only [fx_c_X12_goesIn_5, exl]; rw [nI_1]
      have es : tq_U c n 1 p = tq_U c n 0 (tq_pk c n p + 1) := by
        show tq_unit c n _ _ _ p = _
        unfold tq_unit
        rw [if_pos h2]
      rw [if_pos h2, es, hgi]
      simp only []
      have h3 := rx_c_X12_unit_6 hT hG (p := tq_pk c n p + 1) (by omega) L
      by_cases h4 : (fx_c_X12_unit_6 0 (nI n) (nI (tq_pk c n p + 1)) g L).2.2 = -1
      · rw [if_pos h4]
        rw [h4] at h3
        simp only [apply_ite Prod.snd, apply_ite Prod.fst, ite_self]
        exact h3
      · rw [if_neg h4]
        simp only [apply_ite Prod.snd, apply_ite Prod.fst, ite_self]
        exact h3
    · rw [if_neg h2]
      by_cases h3 : tq_ch c n (tq_pk c n p) = 40
      · have g4 := tq_ch_ne h3 (by decide)
        have hgi : fx_c_X12_goesIn_5 (nI (tq_pk c n p)) = (1, nI (tq_pk c n p + 1)) := by simp only [fx_c_X12_goesIn_5, exl]; rw [nI_1]
        have es : tq_U c n 1 p = tq_bind (tq_C c n 0 (tq_pk c n p + 1)) (tq_ex c n 41) := by
          show tq_unit c n _ _ _ p = _
          unfold tq_unit
          rw [if_neg h2, if_pos h3]
          rfl
        rw [if_pos h3, es, hgi]
        simp only []
        refine CS_seq hn (rx_c_X12_condition_6_0 hT hG (p := tq_pk c n p + 1) (by omega) L) (tq_C_PG _ (by omega)).1 (fun q hq eq1 eq2 _ _ => ?_) (fun z => ?_)
        · rw [if_pos eq2, eq1, rx_c_X12_takes hT hG hq (by decide)]
          have k5 := tq_pk_le (c := c) hq
          unfold tq_ex
          by_cases h5 : tq_ch c n (tq_pk c n q) = 41
          · have k4 := tq_ch_ne h5 (by decide)
            rw [if_pos h5, if_pos h5, if_pos rfl]
            exact CS_t (by omega)
          · rw [if_neg h5, if_neg h5, if_neg (show ¬ (0 : Int32) = 1 by decide)]
            exact CS_f k5
        · rw [if_neg z]
          exact ⟨rfl, rfl⟩
      · have es : tq_U c n 1 p = tq_bind (tq_SM c n 1 (tq_pk c n p)) (tq_tail c n (tq_SM c n 1)) := by
          show tq_unit c n _ _ _ p = _
          unfold tq_unit
          rw [if_neg h2, if_neg h3]
        rw [if_neg h3, es]
        exact hcmp 0 ()
theorem fs_c_X12_part_5_p18 (h0_f8 : Int32) (h0_f9 : Int32) (h0_5c : Nat → Int32) (h0_4c : Nat → Int32) (F : Nat) (j18_l3 : Int32) (j18_h0_f10 : Int32) : fx_c_X12_part_5_p18 h0_f8 h0_f9 h0_5c h0_4c (F + 1) j18_l3 j18_h0_f10 = ((if j18_l3 = j18_l3 then (exc2 (fx_c_X12_look h0_f8 h0_f9 j18_h0_f10 h0_5c) fun (r_3 : Int32) (x_4 : Int32) => (if r_3 = (-1) then (j18_l3, x_4, (-1), 5) else (if r_3 = 38 then (exl (x_4 + 1) fun (x_22 : Int32) => (exc4 (fx_c_X12_unit_5 h0_f8 h0_f9 x_22 h0_5c h0_4c) fun (r_25 : Int32) (x_26 : Int32) (x_27 : Int32) (x_28 : Int32) => (if x_27 = (-1) then (if j18_l3 = 0 then (fx_c_X12_part_5_p64 (fx_c_X12_part_5_p18 h0_f8 h0_f9 h0_5c h0_4c F) x_26) else (if r_25 = 0 then (fx_c_X12_part_5_p64 (fx_c_X12_part_5_p18 h0_f8 h0_f9 h0_5c h0_4c F) x_26) else (fx_c_X12_part_5_p65 (fx_c_X12_part_5_p18 h0_f8 h0_f9 h0_5c h0_4c F) x_26))) else (if j18_l3 = 0 then (fx_c_X12_part_5_p64b x_26 x_27 x_28) else (if r_25 = 0 then (fx_c_X12_part_5_p64b x_26 x_27 x_28) else (fx_c_X12_part_5_p65b x_26 x_27 x_28)))))) else (j18_l3, x_4, (-1), 5)))) else default) : Int32 × Int32 × Int32 × Int32) := rfl
theorem rx_c_X12_part_5_lp {c g : Nat → Int32} {n : Nat} (hT : TB c n) (hG : TG c g n) (L : Nat → Int32) : ∀ (F : Nat) (v : Int32) (p : Nat), p ≤ n → n < p + F → CS n (-1) (tq_lp c n tq_am (tq_rp c n (tq_U c n 1) tq_am) p) (fx_c_X12_part_5_p18 0 (nI n) g L F v (nI p)).2.1 (fx_c_X12_part_5_p18 0 (nI n) g L F v (nI p)).2.2.1 := by
  have hn := hT.2
  intro F
  induction F with
  | zero => intro v p h1 h2; omega
  | succ F ih =>
    intro v p h1 h2
    have g3 := tq_pk_ge (c := c) h1
    have g5 := tq_pk_le (c := c) h1
    rw [fs_c_X12_part_5_p18, if_pos rfl]
    simp only [exc2, exc3, exc4, exl, fx_c_X12_part_5_p18b, fx_c_X12_part_5_p65d, fx_c_X12_part_5_p64b, fx_c_X12_part_5_p65b, fx_c_X12_part_5_p65c, fx_c_X12_part_5_p64, fx_c_X12_part_5_p65, fx_c_X12_part_5_p17, fx_c_X12_part_5_p17b]
    rw [rx_c_X12_look hT hG h1]
    simp only []
    by_cases h3 : tq_ch c n (tq_pk c n p) = -1
    · rw [if_pos h3, tq_lp_f (by rw [h3]; decide)]
      exact CS_t g5
    · have g4 := tq_ch_lt h3
      rw [if_neg h3]
      by_cases h4 : tq_ch c n (tq_pk c n p) = 38
      · rw [if_pos h4, tq_lp_t (by rw [h4]; decide), tq_rp_lp (tq_U_PG (c := c) (n := n) 1) (by decide) (p := tq_pk c n p + 1) (by omega), nI_1]
        have hg := (tq_U_PG (c := c) (n := n) 1) (tq_pk c n p + 1) (by omega)
        refine CS_seq hn (rx_c_X12_unit_5 hT hG (p := tq_pk c n p + 1) (by omega) L) hg.1 (fun r hr eq1 eq2 z2 z3 => ?_) (fun z => ?_)
        · have hk : ∀ v : Int32, CS n (-1) (tq_lp c n tq_am (tq_rp c n (tq_U c n 1) tq_am) r) (fx_c_X12_part_5_p18 0 (nI n) g L F v (nI r)).2.1 (fx_c_X12_part_5_p18 0 (nI n) g L F v (nI r)).2.2.1 := fun v => ih v r hr (by have := hg.2 z2; omega)
          rw [if_pos eq2, eq1]
          by_cases h5 : v = 0
          · rw [if_pos h5]
            exact hk _
          · rw [if_neg h5]
            by_cases h6 : (fx_c_X12_unit_5 0 (nI n) (nI (tq_pk c n p + 1)) g L).1 = 0
            · rw [if_pos h6]
              exact hk _
            · rw [if_neg h6]
              exact hk _
        · rw [if_neg z]
          by_cases h5 : v = 0
          · rw [if_pos h5]
            rw [if_neg z]
            exact ⟨rfl, rfl⟩
          · rw [if_neg h5]
            by_cases h6 : (fx_c_X12_unit_5 0 (nI n) (nI (tq_pk c n p + 1)) g L).1 = 0
            · rw [if_pos h6]
              rw [if_neg z]
              exact ⟨rfl, rfl⟩
            · rw [if_neg h6]
              rw [if_neg z]
              exact ⟨rfl, rfl⟩
      · rw [if_neg h4, tq_lp_f (tq_bf (fun z => h4 (of_decide_eq_true z)))]
        exact CS_t g5
theorem rx_c_X12_part_5_0 {c g : Nat → Int32} {n : Nat} (hT : TB c n) (hG : TG c g n) {p : Nat} (hp : p ≤ n) (L : Nat → Int32) : CS n (-1) (tq_bind (tq_U c n 1 p) (tq_lp c n tq_am (tq_rp c n (tq_U c n 1) tq_am))) (fx_c_X12_part_5 0 0 (nI n) (nI p) g L).2.1 (fx_c_X12_part_5 0 0 (nI n) (nI p) g L).2.2.1 := by
  have hn := hT.2
  simp only [fx_c_X12_part_5, fx_c_X12_part_5_p18b, fx_c_X12_part_5_p17, fx_c_X12_part_5_p17b, exc3, exc4]
  rw [if_pos trivial]
  refine CS_seq hn (rx_c_X12_unit_5 hT hG hp L) ((tq_U_PG 1 p hp).1) (fun r hr eq1 eq2 z2 z3 => ?_) (fun z => ?_)
  · rw [if_pos eq2, eq1]
    exact rx_c_X12_part_5_lp hT hG L exF _ r hr (by have := hT.2; unfold exF; omega)
  · rw [if_neg z, if_neg z]
    exact ⟨rfl, rfl⟩
theorem rx_c_X12_part_5 {c g : Nat → Int32} {n : Nat} (hT : TB c n) (hG : TG c g n) {p : Nat} (hp : p ≤ n) (L : Nat → Int32) : CS n (-1) (tq_rp c n (tq_U c n 1) tq_am p) (fx_c_X12_part_5 0 0 (nI n) (nI p) g L).2.1 (fx_c_X12_part_5 0 0 (nI n) (nI p) g L).2.2.1 := CS_e (rx_c_X12_part_5_0 hT hG hp L) (tq_rp_lp (tq_U_PG 1) (by decide) hp)
theorem fs_c_X12_condition_5_p7 (h0_f8 : Int32) (h0_f9 : Int32) (h0_5c : Nat → Int32) (h0_4c : Nat → Int32) (F : Nat) (j7_l3 : Int32) (j7_h0_f10 : Int32) : fx_c_X12_condition_5_p7 h0_f8 h0_f9 h0_5c h0_4c (F + 1) j7_l3 j7_h0_f10 = ((if j7_l3 = j7_l3 then (exc2 (fx_c_X12_look h0_f8 h0_f9 j7_h0_f10 h0_5c) fun (r_3 : Int32) (x_4 : Int32) => (if r_3 = (-1) then (j7_l3, x_4, (-1), 5) else (if r_3 = 124 then (exl (x_4 + 1) fun (x_22 : Int32) => (exc4 (fx_c_X12_part_5 0 h0_f8 h0_f9 x_22 h0_5c h0_4c) fun (r_25 : Int32) (x_26 : Int32) (x_27 : Int32) (x_28 : Int32) => (if x_27 = (-1) then (if j7_l3 = 0 then (if r_25 = 0 then (fx_c_X12_condition_5_p56 (fx_c_X12_condition_5_p7 h0_f8 h0_f9 h0_5c h0_4c F) x_26) else (fx_c_X12_condition_5_p51 (fx_c_X12_condition_5_p7 h0_f8 h0_f9 h0_5c h0_4c F) x_26)) else (fx_c_X12_condition_5_p51 (fx_c_X12_condition_5_p7 h0_f8 h0_f9 h0_5c h0_4c F) x_26)) else (if j7_l3 = 0 then (if r_25 = 0 then (fx_c_X12_condition_5_p56b x_26 x_27 x_28) else (fx_c_X12_condition_5_p51b x_26 x_27 x_28)) else (fx_c_X12_condition_5_p51b x_26 x_27 x_28))))) else (j7_l3, x_4, (-1), 5)))) else default) : Int32 × Int32 × Int32 × Int32) := rfl
theorem rx_c_X12_condition_5_lp {c g : Nat → Int32} {n : Nat} (hT : TB c n) (hG : TG c g n) (L : Nat → Int32) : ∀ (F : Nat) (v : Int32) (p : Nat), p ≤ n → n < p + F → CS n (-1) (tq_lp c n tq_or (tq_rp c n (tq_rp c n (tq_U c n 1) tq_am) tq_or) p) (fx_c_X12_condition_5_p7 0 (nI n) g L F v (nI p)).2.1 (fx_c_X12_condition_5_p7 0 (nI n) g L F v (nI p)).2.2.1 := by
  have hn := hT.2
  intro F
  induction F with
  | zero => intro v p h1 h2; omega
  | succ F ih =>
    intro v p h1 h2
    have g3 := tq_pk_ge (c := c) h1
    have g5 := tq_pk_le (c := c) h1
    rw [fs_c_X12_condition_5_p7, if_pos rfl]
    simp only [exc2, exc3, exc4, exl, fx_c_X12_condition_5_p7b, fx_c_X12_condition_5_p56d, fx_c_X12_condition_5_p51b, fx_c_X12_condition_5_p56b, fx_c_X12_condition_5_p56c, fx_c_X12_condition_5_p51, fx_c_X12_condition_5_p56]
    rw [rx_c_X12_look hT hG h1]
    simp only []
    by_cases h3 : tq_ch c n (tq_pk c n p) = -1
    · rw [if_pos h3, tq_lp_f (by rw [h3]; decide)]
      exact CS_t g5
    · have g4 := tq_ch_lt h3
      rw [if_neg h3]
      by_cases h4 : tq_ch c n (tq_pk c n p) = 124
      · rw [if_pos h4, tq_lp_t (by rw [h4]; decide), tq_rp_lp (tq_rp_PG (c := c) (n := n) (tq_U_PG (c := c) (n := n) 1) (A := tq_am) (by decide)) (by decide) (p := tq_pk c n p + 1) (by omega), nI_1]
        have hg := (tq_rp_PG (c := c) (n := n) (tq_U_PG (c := c) (n := n) 1) (A := tq_am) (by decide)) (tq_pk c n p + 1) (by omega)
        refine CS_seq hn (rx_c_X12_part_5 hT hG (p := tq_pk c n p + 1) (by omega) L) hg.1 (fun r hr eq1 eq2 z2 z3 => ?_) (fun z => ?_)
        · have hk : ∀ v : Int32, CS n (-1) (tq_lp c n tq_or (tq_rp c n (tq_rp c n (tq_U c n 1) tq_am) tq_or) r) (fx_c_X12_condition_5_p7 0 (nI n) g L F v (nI r)).2.1 (fx_c_X12_condition_5_p7 0 (nI n) g L F v (nI r)).2.2.1 := fun v => ih v r hr (by have := hg.2 z2; omega)
          rw [if_pos eq2, eq1]
          by_cases h5 : v = 0
          · rw [if_pos h5]
            by_cases h6 : (fx_c_X12_part_5 0 0 (nI n) (nI (tq_pk c n p + 1)) g L).1 = 0
            · rw [if_pos h6]
              exact hk _
            · rw [if_neg h6]
              exact hk _
          · rw [if_neg h5]
            exact hk _
        · rw [if_neg z]
          by_cases h5 : v = 0
          · rw [if_pos h5]
            by_cases h6 : (fx_c_X12_part_5 0 0 (nI n) (nI (tq_pk c n p + 1)) g L).1 = 0
            · rw [if_pos h6]
              rw [if_neg z]
              exact ⟨rfl, rfl⟩
            · rw [if_neg h6]
              rw [if_neg z]
              exact ⟨rfl, rfl⟩
          · rw [if_neg h5]
            rw [if_neg z]
            exact ⟨rfl, rfl⟩
      · rw [if_neg h4, tq_lp_f (tq_bf (fun z => h4 (of_decide_eq_true z)))]
        exact CS_t g5
theorem rx_c_X12_condition_5_b {c g : Nat → Int32} {n : Nat} (hT : TB c n) (hG : TG c g n) {p : Nat} (hp : p ≤ n) (L : Nat → Int32) : CS n (-1) (tq_bind (tq_rp c n (tq_U c n 1) tq_am p) (tq_lp c n tq_or (tq_rp c n (tq_rp c n (tq_U c n 1) tq_am) tq_or))) (fx_c_X12_condition_5 0 0 (nI n) (nI p) g L).2.1 (fx_c_X12_condition_5 0 0 (nI n) (nI p) g L).2.2.1 := by
  have hn := hT.2
  simp only [fx_c_X12_condition_5, fx_c_X12_condition_5_p7b, exc3, exc4]
  refine CS_seq hn (rx_c_X12_part_5 hT hG hp L) (((tq_rp_PG (c := c) (n := n) (tq_U_PG (c := c) (n := n) 1) (A := tq_am) (by decide)) p hp).1) (fun r hr eq1 eq2 z2 z3 => ?_) (fun z => ?_)
  · rw [if_pos eq2, eq1]
    exact rx_c_X12_condition_5_lp hT hG L exF _ r hr (by have := hT.2; unfold exF; omega)
  · rw [if_neg z, if_neg z]
    exact ⟨rfl, rfl⟩
theorem rx_c_X12_condition_5_0 {c g : Nat → Int32} {n : Nat} (hT : TB c n) (hG : TG c g n) {p : Nat} (hp : p ≤ n) (L : Nat → Int32) : CS n (-1) (tq_C c n 1 p) (fx_c_X12_condition_5 0 0 (nI n) (nI p) g L).2.1 (fx_c_X12_condition_5 0 0 (nI n) (nI p) g L).2.2.1 := CS_e (rx_c_X12_condition_5_b hT hG hp L) ((tq_nest (tq_U_PG 1) (A := tq_am) (B := tq_or) (by decide) (by decide) hp).symm.trans (tq_rp_lp (tq_rp_PG (c := c) (n := n) (tq_U_PG (c := c) (n := n) 1) (A := tq_am) (by decide)) (by decide) hp))
theorem rx_c_X12_compares_4_p12 {c g : Nat → Int32} {n : Nat} (hT : TB c n) (hG : TG c g n) {q : Nat} (hq : q ≤ n) (v : Int32) (L : Nat → Int32) : CS n (-1) (tq_tail c n (tq_SM c n 2) q) (fx_c_X12_compares_4_p12 0 (nI n) g L v (nI q)).2.1 (fx_c_X12_compares_4_p12 0 (nI n) g L v (nI q)).2.2.1 := by
  have hn := hT.2
  have g5 := tq_pk_le (c := c) hq
  simp only [fx_c_X12_compares_4_p12, exc1, exc2, exc3, exc4, exl]
  rw [rx_c_X12_look hT hG hq]
  simp only []
  by_cases h1 : tq_ch c n (tq_pk c n q) = -1
  · have es : tq_tail c n (tq_SM c n 2) q = (false, tq_pk c n q) := by unfold tq_tail; rw [if_neg (by rw [h1]; decide)]
    rw [if_pos h1, es]
    exact CS_f g5
  · rw [if_neg h1, rx_ss]
    by_cases h2 : tq_cmp (tq_ch c n (tq_pk c n q)) = true
    · have g4 := tq_A_lt tq_cmp_m1 h2
      have es : tq_tail c n (tq_SM c n 2) q = tq_SM c n 2 (tq_pk c n q + 1) := by unfold tq_tail; rw [if_pos h2]
      rw [if_pos h2, if_neg (by decide), es, nI_1]
      have h3 := rx_c_X12_sum_4 hT hG (p := tq_pk c n q + 1) (by omega) L
      by_cases h4 : (fx_c_X12_sum_4 0 (nI n) (nI (tq_pk c n q + 1)) g L).2.2.1 = -1
      · rw [if_pos h4]
        rw [h4] at h3
        simp only [apply_ite Prod.snd, apply_ite Prod.fst, ite_self]
        exact h3
      · rw [if_neg h4]
        simp only [apply_ite Prod.snd, apply_ite Prod.fst, ite_self]
        exact h3
    · have es : tq_tail c n (tq_SM c n 2) q = (false, tq_pk c n q) := by unfold tq_tail; rw [if_neg h2]
      rw [if_neg h2, if_pos rfl, es]
      exact CS_f g5
theorem rx_c_X12_compares_4_0 {c g : Nat → Int32} {n : Nat} (hT : TB c n) (hG : TG c g n) {q : Nat} (hq : q ≤ n) (L : Nat → Int32) : CS n (-1) (tq_bind (tq_SM c n 2 q) (tq_tail c n (tq_SM c n 2))) (fx_c_X12_compares_4 0 0 (nI n) (nI q) g L).2.1 (fx_c_X12_compares_4 0 0 (nI n) (nI q) g L).2.2.1 := by
  have hn := hT.2
  simp only [fx_c_X12_compares_4, fx_c_X12_compares_4_p12b, exc3, exc4]
  rw [if_pos trivial]
  refine CS_seq hn (rx_c_X12_sum_4 hT hG hq L) (tq_SM_PG _ hq).1 (fun r hr eq1 eq2 z2 z3 => ?_) (fun z => ?_)
  · rw [if_pos eq2, eq1]
    exact rx_c_X12_compares_4_p12 hT hG hr _ L
  · rw [if_neg z, if_neg z]
    exact ⟨rfl, rfl⟩
theorem rx_c_X12_unit_4 {c g : Nat → Int32} {n : Nat} (hT : TB c n) (hG : TG c g n) {p : Nat} (hp : p ≤ n) (L : Nat → Int32) : CS n (-1) (tq_U c n 2 p) (fx_c_X12_unit_4 0 (nI n) (nI p) g L).2.1 (fx_c_X12_unit_4 0 (nI n) (nI p) g L).2.2.1 := by
  have hn := hT.2
  have g3 := tq_pk_ge (c := c) hp
  have g5 := tq_pk_le (c := c) hp
  simp only [fx_c_X12_unit_4, exc1, exc2, exc3, exc4, exl]
  rw [rx_c_X12_look hT hG hp]
  simp only []
  have h9 := rx_c_X12_compares_4_0 hT hG g5 L
  have hcmp : ∀ {α : Type} (r : Int32) (y : α), CS n (-1) (tq_bind (tq_SM c n 2 (tq_pk c n p)) (tq_tail c n (tq_SM c n 2))) (if (fx_c_X12_compares_4 0 0 (nI n) (nI (tq_pk c n p)) g L).2.2.1 = -1 then ((fx_c_X12_compares_4 0 0 (nI n) (nI (tq_pk c n p)) g L).1, (fx_c_X12_compares_4 0 0 (nI n) (nI (tq_pk c n p)) g L).2.1, (-1 : Int32), (4 : Int32)) else ((fx_c_X12_compares_4 0 0 (nI n) (nI (tq_pk c n p)) g L).1, (fx_c_X12_compares_4 0 0 (nI n) (nI (tq_pk c n p)) g L).2.1, (fx_c_X12_compares_4 0 0 (nI n) (nI (tq_pk c n p)) g L).2.2.1, (fx_c_X12_compares_4 0 0 (nI n) (nI (tq_pk c n p)) g L).2.2.2)).2.1 (if (fx_c_X12_compares_4 0 0 (nI n) (nI (tq_pk c n p)) g L).2.2.1 = -1 then ((fx_c_X12_compares_4 0 0 (nI n) (nI (tq_pk c n p)) g L).1, (fx_c_X12_compares_4 0 0 (nI n) (nI (tq_pk c n p)) g L).2.1, (-1 : Int32), (4 : Int32)) else ((fx_c_X12_compares_4 0 0 (nI n) (nI (tq_pk c n p)) g L).1, (fx_c_X12_compares_4 0 0 (nI n) (nI (tq_pk c n p)) g L).2.1, (fx_c_X12_compares_4 0 0 (nI n) (nI (tq_pk c n p)) g L).2.2.1, (fx_c_X12_compares_4 0 0 (nI n) (nI (tq_pk c n p)) g L).2.2.2)).2.2.1 := fun r y => by
    by_cases h4 : (fx_c_X12_compares_4 0 0 (nI n) (nI (tq_pk c n p)) g L).2.2.1 = -1
    · rw [if_pos h4]
      rw [h4] at h9
      simp only []
      exact h9
    · rw [if_neg h4]
      simp only []
      exact h9
  by_cases h1 : tq_ch c n (tq_pk c n p) = -1
  · have es : tq_U c n 2 p = tq_bind (tq_SM c n 2 (tq_pk c n p)) (tq_tail c n (tq_SM c n 2)) := by
      show tq_unit c n _ _ _ p = _
      unfold tq_unit
      rw [if_neg (by rw [h1]; decide), if_neg (by rw [h1]; decide)]
    rw [if_pos h1, es]
    exact hcmp 0 ()
  · rw [if_neg h1]
    by_cases h2 : tq_ch c n (tq_pk c n p) = 33
    · have g4 := tq_ch_ne h2 (by decide)
      have hgi : fx_c_X12_goesIn_4 (nI (tq_pk c n p)) = (1, nI (tq_pk c n p + 1)) := by simp only [fx_c_X12_goesIn_4, exl]; rw [nI_1]
      have es : tq_U c n 2 p = tq_U c n 1 (tq_pk c n p + 1) := by
        show tq_unit c n _ _ _ p = _
        unfold tq_unit
        rw [if_pos h2]
      rw [if_pos h2, es, hgi]
      simp only []
      have h3 := rx_c_X12_unit_5 hT hG (p := tq_pk c n p + 1) (by omega) L
      by_cases h4 : (fx_c_X12_unit_5 0 (nI n) (nI (tq_pk c n p + 1)) g L).2.2.1 = -1
      · rw [if_pos h4]
        rw [h4] at h3
        simp only [apply_ite Prod.snd, apply_ite Prod.fst, ite_self]
        exact h3
      · rw [if_neg h4]
        simp only [apply_ite Prod.snd, apply_ite Prod.fst, ite_self]
        exact h3
    · rw [if_neg h2]
      by_cases h3 : tq_ch c n (tq_pk c n p) = 40
      · have g4 := tq_ch_ne h3 (by decide)
        have hgi : fx_c_X12_goesIn_4 (nI (tq_pk c n p)) = (1, nI (tq_pk c n p + 1)) := by simp only [fx_c_X12_goesIn_4, exl]; rw [nI_1]
        have es : tq_U c n 2 p = tq_bind (tq_C c n 1 (tq_pk c n p + 1)) (tq_ex c n 41) := by
          show tq_unit c n _ _ _ p = _
          unfold tq_unit
          rw [if_neg h2, if_pos h3]
          rfl
        rw [if_pos h3, es, hgi]
        simp only []
        refine CS_seq hn (rx_c_X12_condition_5_0 hT hG (p := tq_pk c n p + 1) (by omega) L) (tq_C_PG _ (by omega)).1 (fun q hq eq1 eq2 _ _ => ?_) (fun z => ?_)
        · rw [if_pos eq2, eq1, rx_c_X12_takes hT hG hq (by decide)]
          have k5 := tq_pk_le (c := c) hq
          unfold tq_ex
          by_cases h5 : tq_ch c n (tq_pk c n q) = 41
          · have k4 := tq_ch_ne h5 (by decide)
            rw [if_pos h5, if_pos h5, if_pos rfl]
            exact CS_t (by omega)
          · rw [if_neg h5, if_neg h5, if_neg (show ¬ (0 : Int32) = 1 by decide)]
            exact CS_f k5
        · rw [if_neg z]
          exact ⟨rfl, rfl⟩
      · have es : tq_U c n 2 p = tq_bind (tq_SM c n 2 (tq_pk c n p)) (tq_tail c n (tq_SM c n 2)) := by
          show tq_unit c n _ _ _ p = _
          unfold tq_unit
          rw [if_neg h2, if_neg h3]
        rw [if_neg h3, es]
        exact hcmp 0 ()
theorem fs_c_X12_part_4_p18 (h0_f8 : Int32) (h0_f9 : Int32) (h0_5c : Nat → Int32) (h0_4c : Nat → Int32) (F : Nat) (j18_l3 : Int32) (j18_h0_f10 : Int32) : fx_c_X12_part_4_p18 h0_f8 h0_f9 h0_5c h0_4c (F + 1) j18_l3 j18_h0_f10 = ((if j18_l3 = j18_l3 then (exc2 (fx_c_X12_look h0_f8 h0_f9 j18_h0_f10 h0_5c) fun (r_3 : Int32) (x_4 : Int32) => (if r_3 = (-1) then (j18_l3, x_4, (-1), 4) else (if r_3 = 38 then (exl (x_4 + 1) fun (x_22 : Int32) => (exc4 (fx_c_X12_unit_4 h0_f8 h0_f9 x_22 h0_5c h0_4c) fun (r_25 : Int32) (x_26 : Int32) (x_27 : Int32) (x_28 : Int32) => (if x_27 = (-1) then (if j18_l3 = 0 then (fx_c_X12_part_4_p64 (fx_c_X12_part_4_p18 h0_f8 h0_f9 h0_5c h0_4c F) x_26) else (if r_25 = 0 then (fx_c_X12_part_4_p64 (fx_c_X12_part_4_p18 h0_f8 h0_f9 h0_5c h0_4c F) x_26) else (fx_c_X12_part_4_p65 (fx_c_X12_part_4_p18 h0_f8 h0_f9 h0_5c h0_4c F) x_26))) else (if j18_l3 = 0 then (fx_c_X12_part_4_p64b x_26 x_27 x_28) else (if r_25 = 0 then (fx_c_X12_part_4_p64b x_26 x_27 x_28) else (fx_c_X12_part_4_p65b x_26 x_27 x_28)))))) else (j18_l3, x_4, (-1), 4)))) else default) : Int32 × Int32 × Int32 × Int32) := rfl
theorem rx_c_X12_part_4_lp {c g : Nat → Int32} {n : Nat} (hT : TB c n) (hG : TG c g n) (L : Nat → Int32) : ∀ (F : Nat) (v : Int32) (p : Nat), p ≤ n → n < p + F → CS n (-1) (tq_lp c n tq_am (tq_rp c n (tq_U c n 2) tq_am) p) (fx_c_X12_part_4_p18 0 (nI n) g L F v (nI p)).2.1 (fx_c_X12_part_4_p18 0 (nI n) g L F v (nI p)).2.2.1 := by
  have hn := hT.2
  intro F
  induction F with
  | zero => intro v p h1 h2; omega
  | succ F ih =>
    intro v p h1 h2
    have g3 := tq_pk_ge (c := c) h1
    have g5 := tq_pk_le (c := c) h1
    rw [fs_c_X12_part_4_p18, if_pos rfl]
    simp only [exc2, exc3, exc4, exl, fx_c_X12_part_4_p18b, fx_c_X12_part_4_p65d, fx_c_X12_part_4_p64b, fx_c_X12_part_4_p65b, fx_c_X12_part_4_p65c, fx_c_X12_part_4_p64, fx_c_X12_part_4_p65, fx_c_X12_part_4_p17, fx_c_X12_part_4_p17b]
    rw [rx_c_X12_look hT hG h1]
    simp only []
    by_cases h3 : tq_ch c n (tq_pk c n p) = -1
    · rw [if_pos h3, tq_lp_f (by rw [h3]; decide)]
      exact CS_t g5
    · have g4 := tq_ch_lt h3
      rw [if_neg h3]
      by_cases h4 : tq_ch c n (tq_pk c n p) = 38
      · rw [if_pos h4, tq_lp_t (by rw [h4]; decide), tq_rp_lp (tq_U_PG (c := c) (n := n) 2) (by decide) (p := tq_pk c n p + 1) (by omega), nI_1]
        have hg := (tq_U_PG (c := c) (n := n) 2) (tq_pk c n p + 1) (by omega)
        refine CS_seq hn (rx_c_X12_unit_4 hT hG (p := tq_pk c n p + 1) (by omega) L) hg.1 (fun r hr eq1 eq2 z2 z3 => ?_) (fun z => ?_)
        · have hk : ∀ v : Int32, CS n (-1) (tq_lp c n tq_am (tq_rp c n (tq_U c n 2) tq_am) r) (fx_c_X12_part_4_p18 0 (nI n) g L F v (nI r)).2.1 (fx_c_X12_part_4_p18 0 (nI n) g L F v (nI r)).2.2.1 := fun v => ih v r hr (by have := hg.2 z2; omega)
          rw [if_pos eq2, eq1]
          by_cases h5 : v = 0
          · rw [if_pos h5]
            exact hk _
          · rw [if_neg h5]
            by_cases h6 : (fx_c_X12_unit_4 0 (nI n) (nI (tq_pk c n p + 1)) g L).1 = 0
            · rw [if_pos h6]
              exact hk _
            · rw [if_neg h6]
              exact hk _
        · rw [if_neg z]
          by_cases h5 : v = 0
          · rw [if_pos h5]
            rw [if_neg z]
            exact ⟨rfl, rfl⟩
          · rw [if_neg h5]
            by_cases h6 : (fx_c_X12_unit_4 0 (nI n) (nI (tq_pk c n p + 1)) g L).1 = 0
            · rw [if_pos h6]
              rw [if_neg z]
              exact ⟨rfl, rfl⟩
            · rw [if_neg h6]
              rw [if_neg z]
              exact ⟨rfl, rfl⟩
      · rw [if_neg h4, tq_lp_f (tq_bf (fun z => h4 (of_decide_eq_true z)))]
        exact CS_t g5
theorem rx_c_X12_part_4_0 {c g : Nat → Int32} {n : Nat} (hT : TB c n) (hG : TG c g n) {p : Nat} (hp : p ≤ n) (L : Nat → Int32) : CS n (-1) (tq_bind (tq_U c n 2 p) (tq_lp c n tq_am (tq_rp c n (tq_U c n 2) tq_am))) (fx_c_X12_part_4 0 0 (nI n) (nI p) g L).2.1 (fx_c_X12_part_4 0 0 (nI n) (nI p) g L).2.2.1 := by
  have hn := hT.2
  simp only [fx_c_X12_part_4, fx_c_X12_part_4_p18b, fx_c_X12_part_4_p17, fx_c_X12_part_4_p17b, exc3, exc4]
  rw [if_pos trivial]
  refine CS_seq hn (rx_c_X12_unit_4 hT hG hp L) ((tq_U_PG 2 p hp).1) (fun r hr eq1 eq2 z2 z3 => ?_) (fun z => ?_)
  · rw [if_pos eq2, eq1]
    exact rx_c_X12_part_4_lp hT hG L exF _ r hr (by have := hT.2; unfold exF; omega)
  · rw [if_neg z, if_neg z]
    exact ⟨rfl, rfl⟩
theorem rx_c_X12_part_4 {c g : Nat → Int32} {n : Nat} (hT : TB c n) (hG : TG c g n) {p : Nat} (hp : p ≤ n) (L : Nat → Int32) : CS n (-1) (tq_rp c n (tq_U c n 2) tq_am p) (fx_c_X12_part_4 0 0 (nI n) (nI p) g L).2.1 (fx_c_X12_part_4 0 0 (nI n) (nI p) g L).2.2.1 := CS_e (rx_c_X12_part_4_0 hT hG hp L) (tq_rp_lp (tq_U_PG 2) (by decide) hp)
theorem fs_c_X12_condition_4_p7 (h0_f8 : Int32) (h0_f9 : Int32) (h0_5c : Nat → Int32) (h0_4c : Nat → Int32) (F : Nat) (j7_l3 : Int32) (j7_h0_f10 : Int32) : fx_c_X12_condition_4_p7 h0_f8 h0_f9 h0_5c h0_4c (F + 1) j7_l3 j7_h0_f10 = ((if j7_l3 = j7_l3 then (exc2 (fx_c_X12_look h0_f8 h0_f9 j7_h0_f10 h0_5c) fun (r_3 : Int32) (x_4 : Int32) => (if r_3 = (-1) then (j7_l3, x_4, (-1), 4) else (if r_3 = 124 then (exl (x_4 + 1) fun (x_22 : Int32) => (exc4 (fx_c_X12_part_4 0 h0_f8 h0_f9 x_22 h0_5c h0_4c) fun (r_25 : Int32) (x_26 : Int32) (x_27 : Int32) (x_28 : Int32) => (if x_27 = (-1) then (if j7_l3 = 0 then (if r_25 = 0 then (fx_c_X12_condition_4_p56 (fx_c_X12_condition_4_p7 h0_f8 h0_f9 h0_5c h0_4c F) x_26) else (fx_c_X12_condition_4_p51 (fx_c_X12_condition_4_p7 h0_f8 h0_f9 h0_5c h0_4c F) x_26)) else (fx_c_X12_condition_4_p51 (fx_c_X12_condition_4_p7 h0_f8 h0_f9 h0_5c h0_4c F) x_26)) else (if j7_l3 = 0 then (if r_25 = 0 then (fx_c_X12_condition_4_p56b x_26 x_27 x_28) else (fx_c_X12_condition_4_p51b x_26 x_27 x_28)) else (fx_c_X12_condition_4_p51b x_26 x_27 x_28))))) else (j7_l3, x_4, (-1), 4)))) else default) : Int32 × Int32 × Int32 × Int32) := rfl
theorem rx_c_X12_condition_4_lp {c g : Nat → Int32} {n : Nat} (hT : TB c n) (hG : TG c g n) (L : Nat → Int32) : ∀ (F : Nat) (v : Int32) (p : Nat), p ≤ n → n < p + F → CS n (-1) (tq_lp c n tq_or (tq_rp c n (tq_rp c n (tq_U c n 2) tq_am) tq_or) p) (fx_c_X12_condition_4_p7 0 (nI n) g L F v (nI p)).2.1 (fx_c_X12_condition_4_p7 0 (nI n) g L F v (nI p)).2.2.1 := by
  have hn := hT.2
  intro F
  induction F with
  | zero => intro v p h1 h2; omega
  | succ F ih =>
    intro v p h1 h2
    have g3 := tq_pk_ge (c := c) h1
    have g5 := tq_pk_le (c := c) h1
    rw [fs_c_X12_condition_4_p7, if_pos rfl]
    simp only [exc2, exc3, exc4, exl, fx_c_X12_condition_4_p7b, fx_c_X12_condition_4_p56d, fx_c_X12_condition_4_p51b, fx_c_X12_condition_4_p56b, fx_c_X12_condition_4_p56c, fx_c_X12_condition_4_p51, fx_c_X12_condition_4_p56]
    rw [rx_c_X12_look hT hG h1]
    simp only []
    by_cases h3 : tq_ch c n (tq_pk c n p) = -1
    · rw [if_pos h3, tq_lp_f (by rw [h3]; decide)]
      exact CS_t g5
    · have g4 := tq_ch_lt h3
      rw [if_neg h3]
      by_cases h4 : tq_ch c n (tq_pk c n p) = 124
      · rw [if_pos h4, tq_lp_t (by rw [h4]; decide), tq_rp_lp (tq_rp_PG (c := c) (n := n) (tq_U_PG (c := c) (n := n) 2) (A := tq_am) (by decide)) (by decide) (p := tq_pk c n p + 1) (by omega), nI_1]
        have hg := (tq_rp_PG (c := c) (n := n) (tq_U_PG (c := c) (n := n) 2) (A := tq_am) (by decide)) (tq_pk c n p + 1) (by omega)
        refine CS_seq hn (rx_c_X12_part_4 hT hG (p := tq_pk c n p + 1) (by omega) L) hg.1 (fun r hr eq1 eq2 z2 z3 => ?_) (fun z => ?_)
        · have hk : ∀ v : Int32, CS n (-1) (tq_lp c n tq_or (tq_rp c n (tq_rp c n (tq_U c n 2) tq_am) tq_or) r) (fx_c_X12_condition_4_p7 0 (nI n) g L F v (nI r)).2.1 (fx_c_X12_condition_4_p7 0 (nI n) g L F v (nI r)).2.2.1 := fun v => ih v r hr (by have := hg.2 z2; omega)
          rw [if_pos eq2, eq1]
          by_cases h5 : v = 0
          · rw [if_pos h5]
            by_cases h6 : (fx_c_X12_part_4 0 0 (nI n) (nI (tq_pk c n p + 1)) g L).1 = 0
            · rw [if_pos h6]
              exact hk _
            · rw [if_neg h6]
              exact hk _
          · rw [if_neg h5]
            exact hk _
        · rw [if_neg z]
          by_cases h5 : v = 0
          · rw [if_pos h5]
            by_cases h6 : (fx_c_X12_part_4 0 0 (nI n) (nI (tq_pk c n p + 1)) g L).1 = 0
            · rw [if_pos h6]
              rw [if_neg z]
              exact ⟨rfl, rfl⟩
            · rw [if_neg h6]
              rw [if_neg z]
              exact ⟨rfl, rfl⟩
          · rw [if_neg h5]
            rw [if_neg z]
            exact ⟨rfl, rfl⟩
      · rw [if_neg h4, tq_lp_f (tq_bf (fun z => h4 (of_decide_eq_true z)))]
        exact CS_t g5
theorem rx_c_X12_condition_4_b {c g : Nat → Int32} {n : Nat} (hT : TB c n) (hG : TG c g n) {p : Nat} (hp : p ≤ n) (L : Nat → Int32) : CS n (-1) (tq_bind (tq_rp c n (tq_U c n 2) tq_am p) (tq_lp c n tq_or (tq_rp c n (tq_rp c n (tq_U c n 2) tq_am) tq_or))) (fx_c_X12_condition_4 0 0 (nI n) (nI p) g L).2.1 (fx_c_X12_condition_4 0 0 (nI n) (nI p) g L).2.2.1 := by
  have hn := hT.2
  simp only [fx_c_X12_condition_4, fx_c_X12_condition_4_p7b, exc3, exc4]
  refine CS_seq hn (rx_c_X12_part_4 hT hG hp L) (((tq_rp_PG (c := c) (n := n) (tq_U_PG (c := c) (n := n) 2) (A := tq_am) (by decide)) p hp).1) (fun r hr eq1 eq2 z2 z3 => ?_) (fun z => ?_)
  · rw [if_pos eq2, eq1]
    exact rx_c_X12_condition_4_lp hT hG L exF _ r hr (by have := hT.2; unfold exF; omega)
  · rw [if_neg z, if_neg z]
    exact ⟨rfl, rfl⟩
theorem rx_c_X12_condition_4_0 {c g : Nat → Int32} {n : Nat} (hT : TB c n) (hG : TG c g n) {p : Nat} (hp : p ≤ n) (L : Nat → Int32) : CS n (-1) (tq_C c n 2 p) (fx_c_X12_condition_4 0 0 (nI n) (nI p) g L).2.1 (fx_c_X12_condition_4 0 0 (nI n) (nI p) g L).2.2.1 := CS_e (rx_c_X12_condition_4_b hT hG hp L) ((tq_nest (tq_U_PG 2) (A := tq_am) (B := tq_or) (by decide) (by decide) hp).symm.trans (tq_rp_lp (tq_rp_PG (c := c) (n := n) (tq_U_PG (c := c) (n := n) 2) (A := tq_am) (by decide)) (by decide) hp))
theorem rx_c_X12_compares_3_p12 {c g : Nat → Int32} {n : Nat} (hT : TB c n) (hG : TG c g n) {q : Nat} (hq : q ≤ n) (v : Int32) (L : Nat → Int32) : CS n (-1) (tq_tail c n (tq_SM c n 3) q) (fx_c_X12_compares_3_p12 0 (nI n) g L v (nI q)).2.1 (fx_c_X12_compares_3_p12 0 (nI n) g L v (nI q)).2.2.1 := by
  have hn := hT.2
  have g5 := tq_pk_le (c := c) hq
  simp only [fx_c_X12_compares_3_p12, exc1, exc2, exc3, exc4, exl]
  rw [rx_c_X12_look hT hG hq]
  simp only []
  by_cases h1 : tq_ch c n (tq_pk c n q) = -1
  · have es : tq_tail c n (tq_SM c n 3) q = (false, tq_pk c n q) := by unfold tq_tail; rw [if_neg (by rw [h1]; decide)]
    rw [if_pos h1, es]
    exact CS_f g5
  · rw [if_neg h1, rx_ss]
    by_cases h2 : tq_cmp (tq_ch c n (tq_pk c n q)) = true
    · have g4 := tq_A_lt tq_cmp_m1 h2
      have es : tq_tail c n (tq_SM c n 3) q = tq_SM c n 3 (tq_pk c n q + 1) := by unfold tq_tail; rw [if_pos h2]
      rw [if_pos h2, if_neg (by decide), es, nI_1]
      have h3 := rx_c_X12_sum_3 hT hG (p := tq_pk c n q + 1) (by omega) L
      by_cases h4 : (fx_c_X12_sum_3 0 (nI n) (nI (tq_pk c n q + 1)) g L).2.2.1 = -1
      · rw [if_pos h4]
        rw [h4] at h3
        simp only [apply_ite Prod.snd, apply_ite Prod.fst, ite_self]
        exact h3
      · rw [if_neg h4]
        simp only [apply_ite Prod.snd, apply_ite Prod.fst, ite_self]
        exact h3
    · have es : tq_tail c n (tq_SM c n 3) q = (false, tq_pk c n q) := by unfold tq_tail; rw [if_neg h2]
      rw [if_neg h2, if_pos rfl, es]
      exact CS_f g5
theorem rx_c_X12_compares_3_0 {c g : Nat → Int32} {n : Nat} (hT : TB c n) (hG : TG c g n) {q : Nat} (hq : q ≤ n) (L : Nat → Int32) : CS n (-1) (tq_bind (tq_SM c n 3 q) (tq_tail c n (tq_SM c n 3))) (fx_c_X12_compares_3 0 0 (nI n) (nI q) g L).2.1 (fx_c_X12_compares_3 0 0 (nI n) (nI q) g L).2.2.1 := by
  have hn := hT.2
  simp only [fx_c_X12_compares_3, fx_c_X12_compares_3_p12b, exc3, exc4]
  rw [if_pos trivial]
  refine CS_seq hn (rx_c_X12_sum_3 hT hG hq L) (tq_SM_PG _ hq).1 (fun r hr eq1 eq2 z2 z3 => ?_) (fun z => ?_)
  · rw [if_pos eq2, eq1]
    exact rx_c_X12_compares_3_p12 hT hG hr _ L
  · rw [if_neg z, if_neg z]
    exact ⟨rfl, rfl⟩
theorem rx_c_X12_unit_3 {c g : Nat → Int32} {n : Nat} (hT : TB c n) (hG : TG c g n) {p : Nat} (hp : p ≤ n) (L : Nat → Int32) : CS n (-1) (tq_U c n 3 p) (fx_c_X12_unit_3 0 (nI n) (nI p) g L).2.1 (fx_c_X12_unit_3 0 (nI n) (nI p) g L).2.2.1 := by
  have hn := hT.2
  have g3 := tq_pk_ge (c := c) hp
  have g5 := tq_pk_le (c := c) hp
  simp only [fx_c_X12_unit_3, exc1, exc2, exc3, exc4, exl]
  rw [rx_c_X12_look hT hG hp]
  simp only []
  have h9 := rx_c_X12_compares_3_0 hT hG g5 L
  have hcmp : ∀ {α : Type} (r : Int32) (y : α), CS n (-1) (tq_bind (tq_SM c n 3 (tq_pk c n p)) (tq_tail c n (tq_SM c n 3))) (if (fx_c_X12_compares_3 0 0 (nI n) (nI (tq_pk c n p)) g L).2.2.1 = -1 then ((fx_c_X12_compares_3 0 0 (nI n) (nI (tq_pk c n p)) g L).1, (fx_c_X12_compares_3 0 0 (nI n) (nI (tq_pk c n p)) g L).2.1, (-1 : Int32), (3 : Int32)) else ((fx_c_X12_compares_3 0 0 (nI n) (nI (tq_pk c n p)) g L).1, (fx_c_X12_compares_3 0 0 (nI n) (nI (tq_pk c n p)) g L).2.1, (fx_c_X12_compares_3 0 0 (nI n) (nI (tq_pk c n p)) g L).2.2.1, (fx_c_X12_compares_3 0 0 (nI n) (nI (tq_pk c n p)) g L).2.2.2)).2.1 (if (fx_c_X12_compares_3 0 0 (nI n) (nI (tq_pk c n p)) g L).2.2.1 = -1 then ((fx_c_X12_compares_3 0 0 (nI n) (nI (tq_pk c n p)) g L).1, (fx_c_X12_compares_3 0 0 (nI n) (nI (tq_pk c n p)) g L).2.1, (-1 : Int32), (3 : Int32)) else ((fx_c_X12_compares_3 0 0 (nI n) (nI (tq_pk c n p)) g L).1, (fx_c_X12_compares_3 0 0 (nI n) (nI (tq_pk c n p)) g L).2.1, (fx_c_X12_compares_3 0 0 (nI n) (nI (tq_pk c n p)) g L).2.2.1, (fx_c_X12_compares_3 0 0 (nI n) (nI (tq_pk c n p)) g L).2.2.2)).2.2.1 := fun r y => by
    by_cases h4 : (fx_c_X12_compares_3 0 0 (nI n) (nI (tq_pk c n p)) g L).2.2.1 = -1
    · rw [if_pos h4]
      rw [h4] at h9
      simp only []
      exact h9
    · rw [if_neg h4]
      simp only []
      exact h9
  by_cases h1 : tq_ch c n (tq_pk c n p) = -1
  · have es : tq_U c n 3 p = tq_bind (tq_SM c n 3 (tq_pk c n p)) (tq_tail c n (tq_SM c n 3)) := by
      show tq_unit c n _ _ _ p = _
      unfold tq_unit
      rw [if_neg (by rw [h1]; decide), if_neg (by rw [h1]; decide)]
    rw [if_pos h1, es]
    exact hcmp 0 ()
  · rw [if_neg h1]
    by_cases h2 : tq_ch c n (tq_pk c n p) = 33
    · have g4 := tq_ch_ne h2 (by decide)
      have hgi : fx_c_X12_goesIn_3 (nI (tq_pk c n p)) = (1, nI (tq_pk c n p + 1)) := by simp only [fx_c_X12_goesIn_3, exl]; rw [nI_1]
      have es : tq_U c n 3 p = tq_U c n 2 (tq_pk c n p + 1) := by
        show tq_unit c n _ _ _ p = _
        unfold tq_unit
        rw [if_pos h2]
      rw [if_pos h2, es, hgi]
      simp only []
      have h3 := rx_c_X12_unit_4 hT hG (p := tq_pk c n p + 1) (by omega) L
      by_cases h4 : (fx_c_X12_unit_4 0 (nI n) (nI (tq_pk c n p + 1)) g L).2.2.1 = -1
      · rw [if_pos h4]
        rw [h4] at h3
        simp only [apply_ite Prod.snd, apply_ite Prod.fst, ite_self]
        exact h3
      · rw [if_neg h4]
        simp only [apply_ite Prod.snd, apply_ite Prod.fst, ite_self]
        exact h3
    · rw [if_neg h2]
      by_cases h3 : tq_ch c n (tq_pk c n p) = 40
      · have g4 := tq_ch_ne h3 (by decide)
        have hgi : fx_c_X12_goesIn_3 (nI (tq_pk c n p)) = (1, nI (tq_pk c n p + 1)) := by simp only [fx_c_X12_goesIn_3, exl]; rw [nI_1]
        have es : tq_U c n 3 p = tq_bind (tq_C c n 2 (tq_pk c n p + 1)) (tq_ex c n 41) := by
          show tq_unit c n _ _ _ p = _
          unfold tq_unit
          rw [if_neg h2, if_pos h3]
          rfl
        rw [if_pos h3, es, hgi]
        simp only []
        refine CS_seq hn (rx_c_X12_condition_4_0 hT hG (p := tq_pk c n p + 1) (by omega) L) (tq_C_PG _ (by omega)).1 (fun q hq eq1 eq2 _ _ => ?_) (fun z => ?_)
        · rw [if_pos eq2, eq1, rx_c_X12_takes hT hG hq (by decide)]
          have k5 := tq_pk_le (c := c) hq
          unfold tq_ex
          by_cases h5 : tq_ch c n (tq_pk c n q) = 41
          · have k4 := tq_ch_ne h5 (by decide)
            rw [if_pos h5, if_pos h5, if_pos rfl]
            exact CS_t (by omega)
          · rw [if_neg h5, if_neg h5, if_neg (show ¬ (0 : Int32) = 1 by decide)]
            exact CS_f k5
        · rw [if_neg z]
          exact ⟨rfl, rfl⟩
      · have es : tq_U c n 3 p = tq_bind (tq_SM c n 3 (tq_pk c n p)) (tq_tail c n (tq_SM c n 3)) := by
          show tq_unit c n _ _ _ p = _
          unfold tq_unit
          rw [if_neg h2, if_neg h3]
        rw [if_neg h3, es]
        exact hcmp 0 ()
theorem fs_c_X12_part_3_p18 (h0_f8 : Int32) (h0_f9 : Int32) (h0_5c : Nat → Int32) (h0_4c : Nat → Int32) (F : Nat) (j18_l3 : Int32) (j18_h0_f10 : Int32) : fx_c_X12_part_3_p18 h0_f8 h0_f9 h0_5c h0_4c (F + 1) j18_l3 j18_h0_f10 = ((if j18_l3 = j18_l3 then (exc2 (fx_c_X12_look h0_f8 h0_f9 j18_h0_f10 h0_5c) fun (r_3 : Int32) (x_4 : Int32) => (if r_3 = (-1) then (j18_l3, x_4, (-1), 3) else (if r_3 = 38 then (exl (x_4 + 1) fun (x_22 : Int32) => (exc4 (fx_c_X12_unit_3 h0_f8 h0_f9 x_22 h0_5c h0_4c) fun (r_25 : Int32) (x_26 : Int32) (x_27 : Int32) (x_28 : Int32) => (if x_27 = (-1) then (if j18_l3 = 0 then (fx_c_X12_part_3_p64 (fx_c_X12_part_3_p18 h0_f8 h0_f9 h0_5c h0_4c F) x_26) else (if r_25 = 0 then (fx_c_X12_part_3_p64 (fx_c_X12_part_3_p18 h0_f8 h0_f9 h0_5c h0_4c F) x_26) else (fx_c_X12_part_3_p65 (fx_c_X12_part_3_p18 h0_f8 h0_f9 h0_5c h0_4c F) x_26))) else (if j18_l3 = 0 then (fx_c_X12_part_3_p64b x_26 x_27 x_28) else (if r_25 = 0 then (fx_c_X12_part_3_p64b x_26 x_27 x_28) else (fx_c_X12_part_3_p65b x_26 x_27 x_28)))))) else (j18_l3, x_4, (-1), 3)))) else default) : Int32 × Int32 × Int32 × Int32) := rfl
theorem rx_c_X12_part_3_lp {c g : Nat → Int32} {n : Nat} (hT : TB c n) (hG : TG c g n) (L : Nat → Int32) : ∀ (F : Nat) (v : Int32) (p : Nat), p ≤ n → n < p + F → CS n (-1) (tq_lp c n tq_am (tq_rp c n (tq_U c n 3) tq_am) p) (fx_c_X12_part_3_p18 0 (nI n) g L F v (nI p)).2.1 (fx_c_X12_part_3_p18 0 (nI n) g L F v (nI p)).2.2.1 := by
  have hn := hT.2
  intro F
  induction F with
  | zero => intro v p h1 h2; omega
  | succ F ih =>
    intro v p h1 h2
    have g3 := tq_pk_ge (c := c) h1
    have g5 := tq_pk_le (c := c) h1
    rw [fs_c_X12_part_3_p18, if_pos rfl]
    simp only [exc2, exc3, exc4, exl, fx_c_X12_part_3_p18b, fx_c_X12_part_3_p65d, fx_c_X12_part_3_p64b, fx_c_X12_part_3_p65b, fx_c_X12_part_3_p65c, fx_c_X12_part_3_p64, fx_c_X12_part_3_p65, fx_c_X12_part_3_p17, fx_c_X12_part_3_p17b]
    rw [rx_c_X12_look hT hG h1]
    simp only []
    by_cases h3 : tq_ch c n (tq_pk c n p) = -1
    · rw [if_pos h3, tq_lp_f (by rw [h3]; decide)]
      exact CS_t g5
    · have g4 := tq_ch_lt h3
      rw [if_neg h3]
      by_cases h4 : tq_ch c n (tq_pk c n p) = 38
      · rw [if_pos h4, tq_lp_t (by rw [h4]; decide), tq_rp_lp (tq_U_PG (c := c) (n := n) 3) (by decide) (p := tq_pk c n p + 1) (by omega), nI_1]
        have hg := (tq_U_PG (c := c) (n := n) 3) (tq_pk c n p + 1) (by omega)
        refine CS_seq hn (rx_c_X12_unit_3 hT hG (p := tq_pk c n p + 1) (by omega) L) hg.1 (fun r hr eq1 eq2 z2 z3 => ?_) (fun z => ?_)
        · have hk : ∀ v : Int32, CS n (-1) (tq_lp c n tq_am (tq_rp c n (tq_U c n 3) tq_am) r) (fx_c_X12_part_3_p18 0 (nI n) g L F v (nI r)).2.1 (fx_c_X12_part_3_p18 0 (nI n) g L F v (nI r)).2.2.1 := fun v => ih v r hr (by have := hg.2 z2; omega)
          rw [if_pos eq2, eq1]
          by_cases h5 : v = 0
          · rw [if_pos h5]
            exact hk _
          · rw [if_neg h5]
            by_cases h6 : (fx_c_X12_unit_3 0 (nI n) (nI (tq_pk c n p + 1)) g L).1 = 0
            · rw [if_pos h6]
              exact hk _
            · rw [if_neg h6]
              exact hk _
        · rw [if_neg z]
          by_cases h5 : v = 0
          · rw [if_pos h5]
            rw [if_neg z]
            exact ⟨rfl, rfl⟩
          · rw [if_neg h5]
            by_cases h6 : (fx_c_X12_unit_3 0 (nI n) (nI (tq_pk c n p + 1)) g L).1 = 0
            · rw [if_pos h6]
              rw [if_neg z]
              exact ⟨rfl, rfl⟩
            · rw [if_neg h6]
              rw [if_neg z]
              exact ⟨rfl, rfl⟩
      · rw [if_neg h4, tq_lp_f (tq_bf (fun z => h4 (of_decide_eq_true z)))]
        exact CS_t g5
theorem rx_c_X12_part_3_0 {c g : Nat → Int32} {n : Nat} (hT : TB c n) (hG : TG c g n) {p : Nat} (hp : p ≤ n) (L : Nat → Int32) : CS n (-1) (tq_bind (tq_U c n 3 p) (tq_lp c n tq_am (tq_rp c n (tq_U c n 3) tq_am))) (fx_c_X12_part_3 0 0 (nI n) (nI p) g L).2.1 (fx_c_X12_part_3 0 0 (nI n) (nI p) g L).2.2.1 := by
  have hn := hT.2
  simp only [fx_c_X12_part_3, fx_c_X12_part_3_p18b, fx_c_X12_part_3_p17, fx_c_X12_part_3_p17b, exc3, exc4]
  rw [if_pos trivial]
  refine CS_seq hn (rx_c_X12_unit_3 hT hG hp L) ((tq_U_PG 3 p hp).1) (fun r hr eq1 eq2 z2 z3 => ?_) (fun z => ?_)
  · rw [if_pos eq2, eq1]
    exact rx_c_X12_part_3_lp hT hG L exF _ r hr (by have := hT.2; unfold exF; omega)
  · rw [if_neg z, if_neg z]
    exact ⟨rfl, rfl⟩
theorem rx_c_X12_part_3 {c g : Nat → Int32} {n : Nat} (hT : TB c n) (hG : TG c g n) {p : Nat} (hp : p ≤ n) (L : Nat → Int32) : CS n (-1) (tq_rp c n (tq_U c n 3) tq_am p) (fx_c_X12_part_3 0 0 (nI n) (nI p) g L).2.1 (fx_c_X12_part_3 0 0 (nI n) (nI p) g L).2.2.1 := CS_e (rx_c_X12_part_3_0 hT hG hp L) (tq_rp_lp (tq_U_PG 3) (by decide) hp)
theorem fs_c_X12_condition_3_p7 (h0_f8 : Int32) (h0_f9 : Int32) (h0_5c : Nat → Int32) (h0_4c : Nat → Int32) (F : Nat) (j7_l3 : Int32) (j7_h0_f10 : Int32) : fx_c_X12_condition_3_p7 h0_f8 h0_f9 h0_5c h0_4c (F + 1) j7_l3 j7_h0_f10 = ((if j7_l3 = j7_l3 then (exc2 (fx_c_X12_look h0_f8 h0_f9 j7_h0_f10 h0_5c) fun (r_3 : Int32) (x_4 : Int32) => (if r_3 = (-1) then (j7_l3, x_4, (-1), 3) else (if r_3 = 124 then (exl (x_4 + 1) fun (x_22 : Int32) => (exc4 (fx_c_X12_part_3 0 h0_f8 h0_f9 x_22 h0_5c h0_4c) fun (r_25 : Int32) (x_26 : Int32) (x_27 : Int32) (x_28 : Int32) => (if x_27 = (-1) then (if j7_l3 = 0 then (if r_25 = 0 then (fx_c_X12_condition_3_p56 (fx_c_X12_condition_3_p7 h0_f8 h0_f9 h0_5c h0_4c F) x_26) else (fx_c_X12_condition_3_p51 (fx_c_X12_condition_3_p7 h0_f8 h0_f9 h0_5c h0_4c F) x_26)) else (fx_c_X12_condition_3_p51 (fx_c_X12_condition_3_p7 h0_f8 h0_f9 h0_5c h0_4c F) x_26)) else (if j7_l3 = 0 then (if r_25 = 0 then (fx_c_X12_condition_3_p56b x_26 x_27 x_28) else (fx_c_X12_condition_3_p51b x_26 x_27 x_28)) else (fx_c_X12_condition_3_p51b x_26 x_27 x_28))))) else (j7_l3, x_4, (-1), 3)))) else default) : Int32 × Int32 × Int32 × Int32) := rfl
theorem rx_c_X12_condition_3_lp {c g : Nat → Int32} {n : Nat} (hT : TB c n) (hG : TG c g n) (L : Nat → Int32) : ∀ (F : Nat) (v : Int32) (p : Nat), p ≤ n → n < p + F → CS n (-1) (tq_lp c n tq_or (tq_rp c n (tq_rp c n (tq_U c n 3) tq_am) tq_or) p) (fx_c_X12_condition_3_p7 0 (nI n) g L F v (nI p)).2.1 (fx_c_X12_condition_3_p7 0 (nI n) g L F v (nI p)).2.2.1 := by
  have hn := hT.2
  intro F
  induction F with
  | zero => intro v p h1 h2; omega
  | succ F ih =>
    intro v p h1 h2
    have g3 := tq_pk_ge (c := c) h1
    have g5 := tq_pk_le (c := c) h1
    rw [fs_c_X12_condition_3_p7, if_pos rfl]
    simp only [exc2, exc3, exc4, exl, fx_c_X12_condition_3_p7b, fx_c_X12_condition_3_p56d, fx_c_X12_condition_3_p51b, fx_c_X12_condition_3_p56b, fx_c_X12_condition_3_p56c, fx_c_X12_condition_3_p51, fx_c_X12_condition_3_p56]
    rw [rx_c_X12_look hT hG h1]
    simp only []
    by_cases h3 : tq_ch c n (tq_pk c n p) = -1
    · rw [if_pos h3, tq_lp_f (by rw [h3]; decide)]
      exact CS_t g5
    · have g4 := tq_ch_lt h3
      rw [if_neg h3]
      by_cases h4 : tq_ch c n (tq_pk c n p) = 124
      · rw [if_pos h4, tq_lp_t (by rw [h4]; decide), tq_rp_lp (tq_rp_PG (c := c) (n := n) (tq_U_PG (c := c) (n := n) 3) (A := tq_am) (by decide)) (by decide) (p := tq_pk c n p + 1) (by omega), nI_1]
        have hg := (tq_rp_PG (c := c) (n := n) (tq_U_PG (c := c) (n := n) 3) (A := tq_am) (by decide)) (tq_pk c n p + 1) (by omega)
        refine CS_seq hn (rx_c_X12_part_3 hT hG (p := tq_pk c n p + 1) (by omega) L) hg.1 (fun r hr eq1 eq2 z2 z3 => ?_) (fun z => ?_)
        · have hk : ∀ v : Int32, CS n (-1) (tq_lp c n tq_or (tq_rp c n (tq_rp c n (tq_U c n 3) tq_am) tq_or) r) (fx_c_X12_condition_3_p7 0 (nI n) g L F v (nI r)).2.1 (fx_c_X12_condition_3_p7 0 (nI n) g L F v (nI r)).2.2.1 := fun v => ih v r hr (by have := hg.2 z2; omega)
          rw [if_pos eq2, eq1]
          by_cases h5 : v = 0
          · rw [if_pos h5]
            by_cases h6 : (fx_c_X12_part_3 0 0 (nI n) (nI (tq_pk c n p + 1)) g L).1 = 0
            · rw [if_pos h6]
              exact hk _
            · rw [if_neg h6]
              exact hk _
          · rw [if_neg h5]
            exact hk _
        · rw [if_neg z]
          by_cases h5 : v = 0
          · rw [if_pos h5]
            by_cases h6 : (fx_c_X12_part_3 0 0 (nI n) (nI (tq_pk c n p + 1)) g L).1 = 0
            · rw [if_pos h6]
              rw [if_neg z]
              exact ⟨rfl, rfl⟩
            · rw [if_neg h6]
              rw [if_neg z]
              exact ⟨rfl, rfl⟩
          · rw [if_neg h5]
            rw [if_neg z]
            exact ⟨rfl, rfl⟩
      · rw [if_neg h4, tq_lp_f (tq_bf (fun z => h4 (of_decide_eq_true z)))]
        exact CS_t g5
theorem rx_c_X12_condition_3_b {c g : Nat → Int32} {n : Nat} (hT : TB c n) (hG : TG c g n) {p : Nat} (hp : p ≤ n) (L : Nat → Int32) : CS n (-1) (tq_bind (tq_rp c n (tq_U c n 3) tq_am p) (tq_lp c n tq_or (tq_rp c n (tq_rp c n (tq_U c n 3) tq_am) tq_or))) (fx_c_X12_condition_3 0 0 (nI n) (nI p) g L).2.1 (fx_c_X12_condition_3 0 0 (nI n) (nI p) g L).2.2.1 := by
  have hn := hT.2
  simp only [fx_c_X12_condition_3, fx_c_X12_condition_3_p7b, exc3, exc4]
  refine CS_seq hn (rx_c_X12_part_3 hT hG hp L) (((tq_rp_PG (c := c) (n := n) (tq_U_PG (c := c) (n := n) 3) (A := tq_am) (by decide)) p hp).1) (fun r hr eq1 eq2 z2 z3 => ?_) (fun z => ?_)
  · rw [if_pos eq2, eq1]
    exact rx_c_X12_condition_3_lp hT hG L exF _ r hr (by have := hT.2; unfold exF; omega)
  · rw [if_neg z, if_neg z]
    exact ⟨rfl, rfl⟩
theorem rx_c_X12_condition_3_0 {c g : Nat → Int32} {n : Nat} (hT : TB c n) (hG : TG c g n) {p : Nat} (hp : p ≤ n) (L : Nat → Int32) : CS n (-1) (tq_C c n 3 p) (fx_c_X12_condition_3 0 0 (nI n) (nI p) g L).2.1 (fx_c_X12_condition_3 0 0 (nI n) (nI p) g L).2.2.1 := CS_e (rx_c_X12_condition_3_b hT hG hp L) ((tq_nest (tq_U_PG 3) (A := tq_am) (B := tq_or) (by decide) (by decide) hp).symm.trans (tq_rp_lp (tq_rp_PG (c := c) (n := n) (tq_U_PG (c := c) (n := n) 3) (A := tq_am) (by decide)) (by decide) hp))
theorem rx_c_X12_compares_2_p12 {c g : Nat → Int32} {n : Nat} (hT : TB c n) (hG : TG c g n) {q : Nat} (hq : q ≤ n) (v : Int32) (L : Nat → Int32) : CS n (-1) (tq_tail c n (tq_SM c n 4) q) (fx_c_X12_compares_2_p12 0 (nI n) g L v (nI q)).2.1 (fx_c_X12_compares_2_p12 0 (nI n) g L v (nI q)).2.2.1 := by
  have hn := hT.2
  have g5 := tq_pk_le (c := c) hq
  simp only [fx_c_X12_compares_2_p12, exc1, exc2, exc3, exc4, exl]
  rw [rx_c_X12_look hT hG hq]
  simp only []
  by_cases h1 : tq_ch c n (tq_pk c n q) = -1
  · have es : tq_tail c n (tq_SM c n 4) q = (false, tq_pk c n q) := by unfold tq_tail; rw [if_neg (by rw [h1]; decide)]
    rw [if_pos h1, es]
    exact CS_f g5
  · rw [if_neg h1, rx_ss]
    by_cases h2 : tq_cmp (tq_ch c n (tq_pk c n q)) = true
    · have g4 := tq_A_lt tq_cmp_m1 h2
      have es : tq_tail c n (tq_SM c n 4) q = tq_SM c n 4 (tq_pk c n q + 1) := by unfold tq_tail; rw [if_pos h2]
      rw [if_pos h2, if_neg (by decide), es, nI_1]
      have h3 := rx_c_X12_sum_2 hT hG (p := tq_pk c n q + 1) (by omega) L
      by_cases h4 : (fx_c_X12_sum_2 0 (nI n) (nI (tq_pk c n q + 1)) g L).2.2.1 = -1
      · rw [if_pos h4]
        rw [h4] at h3
        simp only [apply_ite Prod.snd, apply_ite Prod.fst, ite_self]
        exact h3
      · rw [if_neg h4]
        simp only [apply_ite Prod.snd, apply_ite Prod.fst, ite_self]
        exact h3
    · have es : tq_tail c n (tq_SM c n 4) q = (false, tq_pk c n q) := by unfold tq_tail; rw [if_neg h2]
      rw [if_neg h2, if_pos rfl, es]
      exact CS_f g5
theorem rx_c_X12_compares_2_0 {c g : Nat → Int32} {n : Nat} (hT : TB c n) (hG : TG c g n) {q : Nat} (hq : q ≤ n) (L : Nat → Int32) : CS n (-1) (tq_bind (tq_SM c n 4 q) (tq_tail c n (tq_SM c n 4))) (fx_c_X12_compares_2 0 0 (nI n) (nI q) g L).2.1 (fx_c_X12_compares_2 0 0 (nI n) (nI q) g L).2.2.1 := by
  have hn := hT.2
  simp only [fx_c_X12_compares_2, fx_c_X12_compares_2_p12b, exc3, exc4]
  rw [if_pos trivial]
  refine CS_seq hn (rx_c_X12_sum_2 hT hG hq L) (tq_SM_PG _ hq).1 (fun r hr eq1 eq2 z2 z3 => ?_) (fun z => ?_)
  · rw [if_pos eq2, eq1]
    exact rx_c_X12_compares_2_p12 hT hG hr _ L
  · rw [if_neg z, if_neg z]
    exact ⟨rfl, rfl⟩
theorem rx_c_X12_unit_2 {c g : Nat → Int32} {n : Nat} (hT : TB c n) (hG : TG c g n) {p : Nat} (hp : p ≤ n) (L : Nat → Int32) : CS n (-1) (tq_U c n 4 p) (fx_c_X12_unit_2 0 (nI n) (nI p) g L).2.1 (fx_c_X12_unit_2 0 (nI n) (nI p) g L).2.2.1 := by
  have hn := hT.2
  have g3 := tq_pk_ge (c := c) hp
  have g5 := tq_pk_le (c := c) hp
  simp only [fx_c_X12_unit_2, exc1, exc2, exc3, exc4, exl]
  rw [rx_c_X12_look hT hG hp]
  simp only []
  have h9 := rx_c_X12_compares_2_0 hT hG g5 L
  have hcmp : ∀ {α : Type} (r : Int32) (y : α), CS n (-1) (tq_bind (tq_SM c n 4 (tq_pk c n p)) (tq_tail c n (tq_SM c n 4))) (if (fx_c_X12_compares_2 0 0 (nI n) (nI (tq_pk c n p)) g L).2.2.1 = -1 then ((fx_c_X12_compares_2 0 0 (nI n) (nI (tq_pk c n p)) g L).1, (fx_c_X12_compares_2 0 0 (nI n) (nI (tq_pk c n p)) g L).2.1, (-1 : Int32), (2 : Int32)) else ((fx_c_X12_compares_2 0 0 (nI n) (nI (tq_pk c n p)) g L).1, (fx_c_X12_compares_2 0 0 (nI n) (nI (tq_pk c n p)) g L).2.1, (fx_c_X12_compares_2 0 0 (nI n) (nI (tq_pk c n p)) g L).2.2.1, (fx_c_X12_compares_2 0 0 (nI n) (nI (tq_pk c n p)) g L).2.2.2)).2.1 (if (fx_c_X12_compares_2 0 0 (nI n) (nI (tq_pk c n p)) g L).2.2.1 = -1 then ((fx_c_X12_compares_2 0 0 (nI n) (nI (tq_pk c n p)) g L).1, (fx_c_X12_compares_2 0 0 (nI n) (nI (tq_pk c n p)) g L).2.1, (-1 : Int32), (2 : Int32)) else ((fx_c_X12_compares_2 0 0 (nI n) (nI (tq_pk c n p)) g L).1, (fx_c_X12_compares_2 0 0 (nI n) (nI (tq_pk c n p)) g L).2.1, (fx_c_X12_compares_2 0 0 (nI n) (nI (tq_pk c n p)) g L).2.2.1, (fx_c_X12_compares_2 0 0 (nI n) (nI (tq_pk c n p)) g L).2.2.2)).2.2.1 := fun r y => by
    by_cases h4 : (fx_c_X12_compares_2 0 0 (nI n) (nI (tq_pk c n p)) g L).2.2.1 = -1
    · rw [if_pos h4]
      rw [h4] at h9
      simp only []
      exact h9
    · rw [if_neg h4]
      simp only []
      exact h9
  by_cases h1 : tq_ch c n (tq_pk c n p) = -1
  · have es : tq_U c n 4 p = tq_bind (tq_SM c n 4 (tq_pk c n p)) (tq_tail c n (tq_SM c n 4)) := by
      show tq_unit c n _ _ _ p = _
      unfold tq_unit
      rw [if_neg (by rw [h1]; decide), if_neg (by rw [h1]; decide)]
    rw [if_pos h1, es]
    exact hcmp 0 ()
  · rw [if_neg h1]
    by_cases h2 : tq_ch c n (tq_pk c n p) = 33
    · have g4 := tq_ch_ne h2 (by decide)
      have hgi : fx_c_X12_goesIn_2 (nI (tq_pk c n p)) = (1, nI (tq_pk c n p + 1)) := by simp only [fx_c_X12_goesIn_2, exl]; rw [nI_1]
      have es : tq_U c n 4 p = tq_U c n 3 (tq_pk c n p + 1) := by
        show tq_unit c n _ _ _ p = _
        unfold tq_unit
        rw [if_pos h2]
      rw [if_pos h2, es, hgi]
      simp only []
      have h3 := rx_c_X12_unit_3 hT hG (p := tq_pk c n p + 1) (by omega) L
      by_cases h4 : (fx_c_X12_unit_3 0 (nI n) (nI (tq_pk c n p + 1)) g L).2.2.1 = -1
      · rw [if_pos h4]
        rw [h4] at h3
        simp only [apply_ite Prod.snd, apply_ite Prod.fst, ite_self]
        exact h3
      · rw [if_neg h4]
        simp only [apply_ite Prod.snd, apply_ite Prod.fst, ite_self]
        exact h3
    · rw [if_neg h2]
      by_cases h3 : tq_ch c n (tq_pk c n p) = 40
      · have g4 := tq_ch_ne h3 (by decide)
        have hgi : fx_c_X12_goesIn_2 (nI (tq_pk c n p)) = (1, nI (tq_pk c n p + 1)) := by simp only [fx_c_X12_goesIn_2, exl]; rw [nI_1]
        have es : tq_U c n 4 p = tq_bind (tq_C c n 3 (tq_pk c n p + 1)) (tq_ex c n 41) := by
          show tq_unit c n _ _ _ p = _
          unfold tq_unit
          rw [if_neg h2, if_pos h3]
          rfl
        rw [if_pos h3, es, hgi]
        simp only []
        refine CS_seq hn (rx_c_X12_condition_3_0 hT hG (p := tq_pk c n p + 1) (by omega) L) (tq_C_PG _ (by omega)).1 (fun q hq eq1 eq2 _ _ => ?_) (fun z => ?_)
        · rw [if_pos eq2, eq1, rx_c_X12_takes hT hG hq (by decide)]
          have k5 := tq_pk_le (c := c) hq
          unfold tq_ex
          by_cases h5 : tq_ch c n (tq_pk c n q) = 41
          · have k4 := tq_ch_ne h5 (by decide)
            rw [if_pos h5, if_pos h5, if_pos rfl]
            exact CS_t (by omega)
          · rw [if_neg h5, if_neg h5, if_neg (show ¬ (0 : Int32) = 1 by decide)]
            exact CS_f k5
        · rw [if_neg z]
          exact ⟨rfl, rfl⟩
      · have es : tq_U c n 4 p = tq_bind (tq_SM c n 4 (tq_pk c n p)) (tq_tail c n (tq_SM c n 4)) := by
          show tq_unit c n _ _ _ p = _
          unfold tq_unit
          rw [if_neg h2, if_neg h3]
        rw [if_neg h3, es]
        exact hcmp 0 ()
theorem fs_c_X12_part_2_p18 (h0_f8 : Int32) (h0_f9 : Int32) (h0_5c : Nat → Int32) (h0_4c : Nat → Int32) (F : Nat) (j18_l3 : Int32) (j18_h0_f10 : Int32) : fx_c_X12_part_2_p18 h0_f8 h0_f9 h0_5c h0_4c (F + 1) j18_l3 j18_h0_f10 = ((if j18_l3 = j18_l3 then (exc2 (fx_c_X12_look h0_f8 h0_f9 j18_h0_f10 h0_5c) fun (r_3 : Int32) (x_4 : Int32) => (if r_3 = (-1) then (j18_l3, x_4, (-1), 2) else (if r_3 = 38 then (exl (x_4 + 1) fun (x_22 : Int32) => (exc4 (fx_c_X12_unit_2 h0_f8 h0_f9 x_22 h0_5c h0_4c) fun (r_25 : Int32) (x_26 : Int32) (x_27 : Int32) (x_28 : Int32) => (if x_27 = (-1) then (if j18_l3 = 0 then (fx_c_X12_part_2_p64 (fx_c_X12_part_2_p18 h0_f8 h0_f9 h0_5c h0_4c F) x_26) else (if r_25 = 0 then (fx_c_X12_part_2_p64 (fx_c_X12_part_2_p18 h0_f8 h0_f9 h0_5c h0_4c F) x_26) else (fx_c_X12_part_2_p65 (fx_c_X12_part_2_p18 h0_f8 h0_f9 h0_5c h0_4c F) x_26))) else (if j18_l3 = 0 then (fx_c_X12_part_2_p64b x_26 x_27 x_28) else (if r_25 = 0 then (fx_c_X12_part_2_p64b x_26 x_27 x_28) else (fx_c_X12_part_2_p65b x_26 x_27 x_28)))))) else (j18_l3, x_4, (-1), 2)))) else default) : Int32 × Int32 × Int32 × Int32) := rfl
theorem rx_c_X12_part_2_lp {c g : Nat → Int32} {n : Nat} (hT : TB c n) (hG : TG c g n) (L : Nat → Int32) : ∀ (F : Nat) (v : Int32) (p : Nat), p ≤ n → n < p + F → CS n (-1) (tq_lp c n tq_am (tq_rp c n (tq_U c n 4) tq_am) p) (fx_c_X12_part_2_p18 0 (nI n) g L F v (nI p)).2.1 (fx_c_X12_part_2_p18 0 (nI n) g L F v (nI p)).2.2.1 := by
  have hn := hT.2
  intro F
  induction F with
  | zero => intro v p h1 h2; omega
  | succ F ih =>
    intro v p h1 h2
    have g3 := tq_pk_ge (c := c) h1
    have g5 := tq_pk_le (c := c) h1
    rw [fs_c_X12_part_2_p18, if_pos rfl]
    simp only [exc2, exc3, exc4, exl, fx_c_X12_part_2_p18b, fx_c_X12_part_2_p65d, fx_c_X12_part_2_p64b, fx_c_X12_part_2_p65b, fx_c_X12_part_2_p65c, fx_c_X12_part_2_p64, fx_c_X12_part_2_p65, fx_c_X12_part_2_p17, fx_c_X12_part_2_p17b]
    rw [rx_c_X12_look hT hG h1]
    simp only []
    by_cases h3 : tq_ch c n (tq_pk c n p) = -1
    · rw [if_pos h3, tq_lp_f (by rw [h3]; decide)]
      exact CS_t g5
    · have g4 := tq_ch_lt h3
      rw [if_neg h3]
      by_cases h4 : tq_ch c n (tq_pk c n p) = 38
      · rw [if_pos h4, tq_lp_t (by rw [h4]; decide), tq_rp_lp (tq_U_PG (c := c) (n := n) 4) (by decide) (p := tq_pk c n p + 1) (by omega), nI_1]
        have hg := (tq_U_PG (c := c) (n := n) 4) (tq_pk c n p + 1) (by omega)
        refine CS_seq hn (rx_c_X12_unit_2 hT hG (p := tq_pk c n p + 1) (by omega) L) hg.1 (fun r hr eq1 eq2 z2 z3 => ?_) (fun z => ?_)
        · have hk : ∀ v : Int32, CS n (-1) (tq_lp c n tq_am (tq_rp c n (tq_U c n 4) tq_am) r) (fx_c_X12_part_2_p18 0 (nI n) g L F v (nI r)).2.1 (fx_c_X12_part_2_p18 0 (nI n) g L F v (nI r)).2.2.1 := fun v => ih v r hr (by have := hg.2 z2; omega)
          rw [if_pos eq2, eq1]
          by_cases h5 : v = 0
          · rw [if_pos h5]
            exact hk _
          · rw [if_neg h5]
            by_cases h6 : (fx_c_X12_unit_2 0 (nI n) (nI (tq_pk c n p + 1)) g L).1 = 0
            · rw [if_pos h6]
              exact hk _
            · rw [if_neg h6]
              exact hk _
        · rw [if_neg z]
          by_cases h5 : v = 0
          · rw [if_pos h5]
            rw [if_neg z]
            exact ⟨rfl, rfl⟩
          · rw [if_neg h5]
            by_cases h6 : (fx_c_X12_unit_2 0 (nI n) (nI (tq_pk c n p + 1)) g L).1 = 0
            · rw [if_pos h6]
              rw [if_neg z]
              exact ⟨rfl, rfl⟩
            · rw [if_neg h6]
              rw [if_neg z]
              exact ⟨rfl, rfl⟩
      · rw [if_neg h4, tq_lp_f (tq_bf (fun z => h4 (of_decide_eq_true z)))]
        exact CS_t g5
theorem rx_c_X12_part_2_0 {c g : Nat → Int32} {n : Nat} (hT : TB c n) (hG : TG c g n) {p : Nat} (hp : p ≤ n) (L : Nat → Int32) : CS n (-1) (tq_bind (tq_U c n 4 p) (tq_lp c n tq_am (tq_rp c n (tq_U c n 4) tq_am))) (fx_c_X12_part_2 0 0 (nI n) (nI p) g L).2.1 (fx_c_X12_part_2 0 0 (nI n) (nI p) g L).2.2.1 := by
  have hn := hT.2
  simp only [fx_c_X12_part_2, fx_c_X12_part_2_p18b, fx_c_X12_part_2_p17, fx_c_X12_part_2_p17b, exc3, exc4]
  rw [if_pos trivial]
  refine CS_seq hn (rx_c_X12_unit_2 hT hG hp L) ((tq_U_PG 4 p hp).1) (fun r hr eq1 eq2 z2 z3 => ?_) (fun z => ?_)
  · rw [if_pos eq2, eq1]
    exact rx_c_X12_part_2_lp hT hG L exF _ r hr (by have := hT.2; unfold exF; omega)
  · rw [if_neg z, if_neg z]
    exact ⟨rfl, rfl⟩
theorem rx_c_X12_part_2 {c g : Nat → Int32} {n : Nat} (hT : TB c n) (hG : TG c g n) {p : Nat} (hp : p ≤ n) (L : Nat → Int32) : CS n (-1) (tq_rp c n (tq_U c n 4) tq_am p) (fx_c_X12_part_2 0 0 (nI n) (nI p) g L).2.1 (fx_c_X12_part_2 0 0 (nI n) (nI p) g L).2.2.1 := CS_e (rx_c_X12_part_2_0 hT hG hp L) (tq_rp_lp (tq_U_PG 4) (by decide) hp)
theorem fs_c_X12_condition_2_p7 (h0_f8 : Int32) (h0_f9 : Int32) (h0_5c : Nat → Int32) (h0_4c : Nat → Int32) (F : Nat) (j7_l3 : Int32) (j7_h0_f10 : Int32) : fx_c_X12_condition_2_p7 h0_f8 h0_f9 h0_5c h0_4c (F + 1) j7_l3 j7_h0_f10 = ((if j7_l3 = j7_l3 then (exc2 (fx_c_X12_look h0_f8 h0_f9 j7_h0_f10 h0_5c) fun (r_3 : Int32) (x_4 : Int32) => (if r_3 = (-1) then (j7_l3, x_4, (-1), 2) else (if r_3 = 124 then (exl (x_4 + 1) fun (x_22 : Int32) => (exc4 (fx_c_X12_part_2 0 h0_f8 h0_f9 x_22 h0_5c h0_4c) fun (r_25 : Int32) (x_26 : Int32) (x_27 : Int32) (x_28 : Int32) => (if x_27 = (-1) then (if j7_l3 = 0 then (if r_25 = 0 then (fx_c_X12_condition_2_p56 (fx_c_X12_condition_2_p7 h0_f8 h0_f9 h0_5c h0_4c F) x_26) else (fx_c_X12_condition_2_p51 (fx_c_X12_condition_2_p7 h0_f8 h0_f9 h0_5c h0_4c F) x_26)) else (fx_c_X12_condition_2_p51 (fx_c_X12_condition_2_p7 h0_f8 h0_f9 h0_5c h0_4c F) x_26)) else (if j7_l3 = 0 then (if r_25 = 0 then (fx_c_X12_condition_2_p56b x_26 x_27 x_28) else (fx_c_X12_condition_2_p51b x_26 x_27 x_28)) else (fx_c_X12_condition_2_p51b x_26 x_27 x_28))))) else (j7_l3, x_4, (-1), 2)))) else default) : Int32 × Int32 × Int32 × Int32) := rfl
theorem rx_c_X12_condition_2_lp {c g : Nat → Int32} {n : Nat} (hT : TB c n) (hG : TG c g n) (L : Nat → Int32) : ∀ (F : Nat) (v : Int32) (p : Nat), p ≤ n → n < p + F → CS n (-1) (tq_lp c n tq_or (tq_rp c n (tq_rp c n (tq_U c n 4) tq_am) tq_or) p) (fx_c_X12_condition_2_p7 0 (nI n) g L F v (nI p)).2.1 (fx_c_X12_condition_2_p7 0 (nI n) g L F v (nI p)).2.2.1 := by
  have hn := hT.2
  intro F
  induction F with
  | zero => intro v p h1 h2; omega
  | succ F ih =>
    intro v p h1 h2
    have g3 := tq_pk_ge (c := c) h1
    have g5 := tq_pk_le (c := c) h1
    rw [fs_c_X12_condition_2_p7, if_pos rfl]
    simp only [exc2, exc3, exc4, exl, fx_c_X12_condition_2_p7b, fx_c_X12_condition_2_p56d, fx_c_X12_condition_2_p51b, fx_c_X12_condition_2_p56b, fx_c_X12_condition_2_p56c, fx_c_X12_condition_2_p51, fx_c_X12_condition_2_p56]
    rw [rx_c_X12_look hT hG h1]
    simp only []
    by_cases h3 : tq_ch c n (tq_pk c n p) = -1
    · rw [if_pos h3, tq_lp_f (by rw [h3]; decide)]
      exact CS_t g5
    · have g4 := tq_ch_lt h3
      rw [if_neg h3]
      by_cases h4 : tq_ch c n (tq_pk c n p) = 124
      · rw [if_pos h4, tq_lp_t (by rw [h4]; decide), tq_rp_lp (tq_rp_PG (c := c) (n := n) (tq_U_PG (c := c) (n := n) 4) (A := tq_am) (by decide)) (by decide) (p := tq_pk c n p + 1) (by omega), nI_1]
        have hg := (tq_rp_PG (c := c) (n := n) (tq_U_PG (c := c) (n := n) 4) (A := tq_am) (by decide)) (tq_pk c n p + 1) (by omega)
        refine CS_seq hn (rx_c_X12_part_2 hT hG (p := tq_pk c n p + 1) (by omega) L) hg.1 (fun r hr eq1 eq2 z2 z3 => ?_) (fun z => ?_)
        · have hk : ∀ v : Int32, CS n (-1) (tq_lp c n tq_or (tq_rp c n (tq_rp c n (tq_U c n 4) tq_am) tq_or) r) (fx_c_X12_condition_2_p7 0 (nI n) g L F v (nI r)).2.1 (fx_c_X12_condition_2_p7 0 (nI n) g L F v (nI r)).2.2.1 := fun v => ih v r hr (by have := hg.2 z2; omega)
          rw [if_pos eq2, eq1]
          by_cases h5 : v = 0
          · rw [if_pos h5]
            by_cases h6 : (fx_c_X12_part_2 0 0 (nI n) (nI (tq_pk c n p + 1)) g L).1 = 0
            · rw [if_pos h6]
              exact hk _
            · rw [if_neg h6]
              exact hk _
          · rw [if_neg h5]
            exact hk _
        · rw [if_neg z]
          by_cases h5 : v = 0
          · rw [if_pos h5]
            by_cases h6 : (fx_c_X12_part_2 0 0 (nI n) (nI (tq_pk c n p + 1)) g L).1 = 0
            · rw [if_pos h6]
              rw [if_neg z]
              exact ⟨rfl, rfl⟩
            · rw [if_neg h6]
              rw [if_neg z]
              exact ⟨rfl, rfl⟩
          · rw [if_neg h5]
            rw [if_neg z]
            exact ⟨rfl, rfl⟩
      · rw [if_neg h4, tq_lp_f (tq_bf (fun z => h4 (of_decide_eq_true z)))]
        exact CS_t g5
theorem rx_c_X12_condition_2_b {c g : Nat → Int32} {n : Nat} (hT : TB c n) (hG : TG c g n) {p : Nat} (hp : p ≤ n) (L : Nat → Int32) : CS n (-1) (tq_bind (tq_rp c n (tq_U c n 4) tq_am p) (tq_lp c n tq_or (tq_rp c n (tq_rp c n (tq_U c n 4) tq_am) tq_or))) (fx_c_X12_condition_2 0 0 (nI n) (nI p) g L).2.1 (fx_c_X12_condition_2 0 0 (nI n) (nI p) g L).2.2.1 := by
  have hn := hT.2
  simp only [fx_c_X12_condition_2, fx_c_X12_condition_2_p7b, exc3, exc4]
  refine CS_seq hn (rx_c_X12_part_2 hT hG hp L) (((tq_rp_PG (c := c) (n := n) (tq_U_PG (c := c) (n := n) 4) (A := tq_am) (by decide)) p hp).1) (fun r hr eq1 eq2 z2 z3 => ?_) (fun z => ?_)
  · rw [if_pos eq2, eq1]
    exact rx_c_X12_condition_2_lp hT hG L exF _ r hr (by have := hT.2; unfold exF; omega)
  · rw [if_neg z, if_neg z]
    exact ⟨rfl, rfl⟩
theorem rx_c_X12_condition_2_0 {c g : Nat → Int32} {n : Nat} (hT : TB c n) (hG : TG c g n) {p : Nat} (hp : p ≤ n) (L : Nat → Int32) : CS n (-1) (tq_C c n 4 p) (fx_c_X12_condition_2 0 0 (nI n) (nI p) g L).2.1 (fx_c_X12_condition_2 0 0 (nI n) (nI p) g L).2.2.1 := CS_e (rx_c_X12_condition_2_b hT hG hp L) ((tq_nest (tq_U_PG 4) (A := tq_am) (B := tq_or) (by decide) (by decide) hp).symm.trans (tq_rp_lp (tq_rp_PG (c := c) (n := n) (tq_U_PG (c := c) (n := n) 4) (A := tq_am) (by decide)) (by decide) hp))
theorem rx_c_X12_compares_1_p12 {c g : Nat → Int32} {n : Nat} (hT : TB c n) (hG : TG c g n) {q : Nat} (hq : q ≤ n) (v : Int32) (L : Nat → Int32) : CS n (-1) (tq_tail c n (tq_SM c n 5) q) (fx_c_X12_compares_1_p12 0 (nI n) g L v (nI q)).2.1 (fx_c_X12_compares_1_p12 0 (nI n) g L v (nI q)).2.2.1 := by
  have hn := hT.2
  have g5 := tq_pk_le (c := c) hq
  simp only [fx_c_X12_compares_1_p12, exc1, exc2, exc3, exc4, exl]
  rw [rx_c_X12_look hT hG hq]
  simp only []
  by_cases h1 : tq_ch c n (tq_pk c n q) = -1
  · have es : tq_tail c n (tq_SM c n 5) q = (false, tq_pk c n q) := by unfold tq_tail; rw [if_neg (by rw [h1]; decide)]
    rw [if_pos h1, es]
    exact CS_f g5
  · rw [if_neg h1, rx_ss]
    by_cases h2 : tq_cmp (tq_ch c n (tq_pk c n q)) = true
    · have g4 := tq_A_lt tq_cmp_m1 h2
      have es : tq_tail c n (tq_SM c n 5) q = tq_SM c n 5 (tq_pk c n q + 1) := by unfold tq_tail; rw [if_pos h2]
      rw [if_pos h2, if_neg (by decide), es, nI_1]
      have h3 := rx_c_X12_sum_1 hT hG (p := tq_pk c n q + 1) (by omega) L
      by_cases h4 : (fx_c_X12_sum_1 0 (nI n) (nI (tq_pk c n q + 1)) g L).2.2.1 = -1
      · rw [if_pos h4]
        rw [h4] at h3
        simp only [apply_ite Prod.snd, apply_ite Prod.fst, ite_self]
        exact h3
      · rw [if_neg h4]
        simp only [apply_ite Prod.snd, apply_ite Prod.fst, ite_self]
        exact h3
    · have es : tq_tail c n (tq_SM c n 5) q = (false, tq_pk c n q) := by unfold tq_tail; rw [if_neg h2]
      rw [if_neg h2, if_pos rfl, es]
      exact CS_f g5
theorem rx_c_X12_compares_1_0 {c g : Nat → Int32} {n : Nat} (hT : TB c n) (hG : TG c g n) {q : Nat} (hq : q ≤ n) (L : Nat → Int32) : CS n (-1) (tq_bind (tq_SM c n 5 q) (tq_tail c n (tq_SM c n 5))) (fx_c_X12_compares_1 0 0 (nI n) (nI q) g L).2.1 (fx_c_X12_compares_1 0 0 (nI n) (nI q) g L).2.2.1 := by
  have hn := hT.2
  simp only [fx_c_X12_compares_1, fx_c_X12_compares_1_p12b, exc3, exc4]
  rw [if_pos trivial]
  refine CS_seq hn (rx_c_X12_sum_1 hT hG hq L) (tq_SM_PG _ hq).1 (fun r hr eq1 eq2 z2 z3 => ?_) (fun z => ?_)
  · rw [if_pos eq2, eq1]
    exact rx_c_X12_compares_1_p12 hT hG hr _ L
  · rw [if_neg z, if_neg z]
    exact ⟨rfl, rfl⟩
theorem rx_c_X12_unit_1 {c g : Nat → Int32} {n : Nat} (hT : TB c n) (hG : TG c g n) {p : Nat} (hp : p ≤ n) (L : Nat → Int32) : CS n (-1) (tq_U c n 5 p) (fx_c_X12_unit_1 0 (nI n) (nI p) g L).2.1 (fx_c_X12_unit_1 0 (nI n) (nI p) g L).2.2.1 := by
  have hn := hT.2
  have g3 := tq_pk_ge (c := c) hp
  have g5 := tq_pk_le (c := c) hp
  simp only [fx_c_X12_unit_1, exc1, exc2, exc3, exc4, exl]
  rw [rx_c_X12_look hT hG hp]
  simp only []
  have h9 := rx_c_X12_compares_1_0 hT hG g5 L
  have hcmp : ∀ {α : Type} (r : Int32) (y : α), CS n (-1) (tq_bind (tq_SM c n 5 (tq_pk c n p)) (tq_tail c n (tq_SM c n 5))) (if (fx_c_X12_compares_1 0 0 (nI n) (nI (tq_pk c n p)) g L).2.2.1 = -1 then ((fx_c_X12_compares_1 0 0 (nI n) (nI (tq_pk c n p)) g L).1, (fx_c_X12_compares_1 0 0 (nI n) (nI (tq_pk c n p)) g L).2.1, (-1 : Int32), (1 : Int32)) else ((fx_c_X12_compares_1 0 0 (nI n) (nI (tq_pk c n p)) g L).1, (fx_c_X12_compares_1 0 0 (nI n) (nI (tq_pk c n p)) g L).2.1, (fx_c_X12_compares_1 0 0 (nI n) (nI (tq_pk c n p)) g L).2.2.1, (fx_c_X12_compares_1 0 0 (nI n) (nI (tq_pk c n p)) g L).2.2.2)).2.1 (if (fx_c_X12_compares_1 0 0 (nI n) (nI (tq_pk c n p)) g L).2.2.1 = -1 then ((fx_c_X12_compares_1 0 0 (nI n) (nI (tq_pk c n p)) g L).1, (fx_c_X12_compares_1 0 0 (nI n) (nI (tq_pk c n p)) g L).2.1, (-1 : Int32), (1 : Int32)) else ((fx_c_X12_compares_1 0 0 (nI n) (nI (tq_pk c n p)) g L).1, (fx_c_X12_compares_1 0 0 (nI n) (nI (tq_pk c n p)) g L).2.1, (fx_c_X12_compares_1 0 0 (nI n) (nI (tq_pk c n p)) g L).2.2.1, (fx_c_X12_compares_1 0 0 (nI n) (nI (tq_pk c n p)) g L).2.2.2)).2.2.1 := fun r y => by
    by_cases h4 : (fx_c_X12_compares_1 0 0 (nI n) (nI (tq_pk c n p)) g L).2.2.1 = -1
    · rw [if_pos h4]
      rw [h4] at h9
      simp only []
      exact h9
    · rw [if_neg h4]
      simp only []
      exact h9
  by_cases h1 : tq_ch c n (tq_pk c n p) = -1
  · have es : tq_U c n 5 p = tq_bind (tq_SM c n 5 (tq_pk c n p)) (tq_tail c n (tq_SM c n 5)) := by
      show tq_unit c n _ _ _ p = _
      unfold tq_unit
      rw [if_neg (by rw [h1]; decide), if_neg (by rw [h1]; decide)]
    rw [if_pos h1, es]
    exact hcmp 0 ()
  · rw [if_neg h1]
    by_cases h2 : tq_ch c n (tq_pk c n p) = 33
    · have g4 := tq_ch_ne h2 (by decide)
      have hgi : fx_c_X12_goesIn_1 (nI (tq_pk c n p)) = (1, nI (tq_pk c n p + 1)) := by simp only [fx_c_X12_goesIn_1, exl]; rw [nI_1]
      have es : tq_U c n 5 p = tq_U c n 4 (tq_pk c n p + 1) := by
        show tq_unit c n _ _ _ p = _
        unfold tq_unit
        rw [if_pos h2]
      rw [if_pos h2, es, hgi]
      simp only []
      have h3 := rx_c_X12_unit_2 hT hG (p := tq_pk c n p + 1) (by omega) L
      by_cases h4 : (fx_c_X12_unit_2 0 (nI n) (nI (tq_pk c n p + 1)) g L).2.2.1 = -1
      · rw [if_pos h4]
        rw [h4] at h3
        simp only [apply_ite Prod.snd, apply_ite Prod.fst, ite_self]
        exact h3
      · rw [if_neg h4]
        simp only [apply_ite Prod.snd, apply_ite Prod.fst, ite_self]
        exact h3
    · rw [if_neg h2]
      by_cases h3 : tq_ch c n (tq_pk c n p) = 40
      · have g4 := tq_ch_ne h3 (by decide)
        have hgi : fx_c_X12_goesIn_1 (nI (tq_pk c n p)) = (1, nI (tq_pk c n p + 1)) := by simp only [fx_c_X12_goesIn_1, exl]; rw [nI_1]
        have es : tq_U c n 5 p = tq_bind (tq_C c n 4 (tq_pk c n p + 1)) (tq_ex c n 41) := by
          show tq_unit c n _ _ _ p = _
          unfold tq_unit
          rw [if_neg h2, if_pos h3]
          rfl
        rw [if_pos h3, es, hgi]
        simp only []
        refine CS_seq hn (rx_c_X12_condition_2_0 hT hG (p := tq_pk c n p + 1) (by omega) L) (tq_C_PG _ (by omega)).1 (fun q hq eq1 eq2 _ _ => ?_) (fun z => ?_)
        · rw [if_pos eq2, eq1, rx_c_X12_takes hT hG hq (by decide)]
          have k5 := tq_pk_le (c := c) hq
          unfold tq_ex
          by_cases h5 : tq_ch c n (tq_pk c n q) = 41
          · have k4 := tq_ch_ne h5 (by decide)
            rw [if_pos h5, if_pos h5, if_pos rfl]
            exact CS_t (by omega)
          · rw [if_neg h5, if_neg h5, if_neg (show ¬ (0 : Int32) = 1 by decide)]
            exact CS_f k5
        · rw [if_neg z]
          exact ⟨rfl, rfl⟩
      · have es : tq_U c n 5 p = tq_bind (tq_SM c n 5 (tq_pk c n p)) (tq_tail c n (tq_SM c n 5)) := by
          show tq_unit c n _ _ _ p = _
          unfold tq_unit
          rw [if_neg h2, if_neg h3]
        rw [if_neg h3, es]
        exact hcmp 0 ()
theorem fs_c_X12_part_1_p18 (h0_f8 : Int32) (h0_f9 : Int32) (h0_5c : Nat → Int32) (h0_4c : Nat → Int32) (F : Nat) (j18_l3 : Int32) (j18_h0_f10 : Int32) : fx_c_X12_part_1_p18 h0_f8 h0_f9 h0_5c h0_4c (F + 1) j18_l3 j18_h0_f10 = ((if j18_l3 = j18_l3 then (exc2 (fx_c_X12_look h0_f8 h0_f9 j18_h0_f10 h0_5c) fun (r_3 : Int32) (x_4 : Int32) => (if r_3 = (-1) then (j18_l3, x_4, (-1), 1) else (if r_3 = 38 then (exl (x_4 + 1) fun (x_22 : Int32) => (exc4 (fx_c_X12_unit_1 h0_f8 h0_f9 x_22 h0_5c h0_4c) fun (r_25 : Int32) (x_26 : Int32) (x_27 : Int32) (x_28 : Int32) => (if x_27 = (-1) then (if j18_l3 = 0 then (fx_c_X12_part_1_p64 (fx_c_X12_part_1_p18 h0_f8 h0_f9 h0_5c h0_4c F) x_26) else (if r_25 = 0 then (fx_c_X12_part_1_p64 (fx_c_X12_part_1_p18 h0_f8 h0_f9 h0_5c h0_4c F) x_26) else (fx_c_X12_part_1_p65 (fx_c_X12_part_1_p18 h0_f8 h0_f9 h0_5c h0_4c F) x_26))) else (if j18_l3 = 0 then (fx_c_X12_part_1_p64b x_26 x_27 x_28) else (if r_25 = 0 then (fx_c_X12_part_1_p64b x_26 x_27 x_28) else (fx_c_X12_part_1_p65b x_26 x_27 x_28)))))) else (j18_l3, x_4, (-1), 1)))) else default) : Int32 × Int32 × Int32 × Int32) := rfl
theorem rx_c_X12_part_1_lp {c g : Nat → Int32} {n : Nat} (hT : TB c n) (hG : TG c g n) (L : Nat → Int32) : ∀ (F : Nat) (v : Int32) (p : Nat), p ≤ n → n < p + F → CS n (-1) (tq_lp c n tq_am (tq_rp c n (tq_U c n 5) tq_am) p) (fx_c_X12_part_1_p18 0 (nI n) g L F v (nI p)).2.1 (fx_c_X12_part_1_p18 0 (nI n) g L F v (nI p)).2.2.1 := by
  have hn := hT.2
  intro F
  induction F with
  | zero => intro v p h1 h2; omega
  | succ F ih =>
    intro v p h1 h2
    have g3 := tq_pk_ge (c := c) h1
    have g5 := tq_pk_le (c := c) h1
    rw [fs_c_X12_part_1_p18, if_pos rfl]
    simp only [exc2, exc3, exc4, exl, fx_c_X12_part_1_p18b, fx_c_X12_part_1_p65d, fx_c_X12_part_1_p64b, fx_c_X12_part_1_p65b, fx_c_X12_part_1_p65c, fx_c_X12_part_1_p64, fx_c_X12_part_1_p65, fx_c_X12_part_1_p17, fx_c_X12_part_1_p17b]
    rw [rx_c_X12_look hT hG h1]
    simp only []
    by_cases h3 : tq_ch c n (tq_pk c n p) = -1
    · rw [if_pos h3, tq_lp_f (by rw [h3]; decide)]
      exact CS_t g5
    · have g4 := tq_ch_lt h3
      rw [if_neg h3]
      by_cases h4 : tq_ch c n (tq_pk c n p) = 38
      · rw [if_pos h4, tq_lp_t (by rw [h4]; decide), tq_rp_lp (tq_U_PG (c := c) (n := n) 5) (by decide) (p := tq_pk c n p + 1) (by omega), nI_1]
        have hg := (tq_U_PG (c := c) (n := n) 5) (tq_pk c n p + 1) (by omega)
        refine CS_seq hn (rx_c_X12_unit_1 hT hG (p := tq_pk c n p + 1) (by omega) L) hg.1 (fun r hr eq1 eq2 z2 z3 => ?_) (fun z => ?_)
        · have hk : ∀ v : Int32, CS n (-1) (tq_lp c n tq_am (tq_rp c n (tq_U c n 5) tq_am) r) (fx_c_X12_part_1_p18 0 (nI n) g L F v (nI r)).2.1 (fx_c_X12_part_1_p18 0 (nI n) g L F v (nI r)).2.2.1 := fun v => ih v r hr (by have := hg.2 z2; omega)
          rw [if_pos eq2, eq1]
          by_cases h5 : v = 0
          · rw [if_pos h5]
            exact hk _
          · rw [if_neg h5]
            by_cases h6 : (fx_c_X12_unit_1 0 (nI n) (nI (tq_pk c n p + 1)) g L).1 = 0
            · rw [if_pos h6]
              exact hk _
            · rw [if_neg h6]
              exact hk _
        · rw [if_neg z]
          by_cases h5 : v = 0
          · rw [if_pos h5]
            rw [if_neg z]
            exact ⟨rfl, rfl⟩
          · rw [if_neg h5]
            by_cases h6 : (fx_c_X12_unit_1 0 (nI n) (nI (tq_pk c n p + 1)) g L).1 = 0
            · rw [if_pos h6]
              rw [if_neg z]
              exact ⟨rfl, rfl⟩
            · rw [if_neg h6]
              rw [if_neg z]
              exact ⟨rfl, rfl⟩
      · rw [if_neg h4, tq_lp_f (tq_bf (fun z => h4 (of_decide_eq_true z)))]
        exact CS_t g5
theorem rx_c_X12_part_1_0 {c g : Nat → Int32} {n : Nat} (hT : TB c n) (hG : TG c g n) {p : Nat} (hp : p ≤ n) (L : Nat → Int32) : CS n (-1) (tq_bind (tq_U c n 5 p) (tq_lp c n tq_am (tq_rp c n (tq_U c n 5) tq_am))) (fx_c_X12_part_1 0 0 (nI n) (nI p) g L).2.1 (fx_c_X12_part_1 0 0 (nI n) (nI p) g L).2.2.1 := by
  have hn := hT.2
  simp only [fx_c_X12_part_1, fx_c_X12_part_1_p18b, fx_c_X12_part_1_p17, fx_c_X12_part_1_p17b, exc3, exc4]
  rw [if_pos trivial]
  refine CS_seq hn (rx_c_X12_unit_1 hT hG hp L) ((tq_U_PG 5 p hp).1) (fun r hr eq1 eq2 z2 z3 => ?_) (fun z => ?_)
  · rw [if_pos eq2, eq1]
    exact rx_c_X12_part_1_lp hT hG L exF _ r hr (by have := hT.2; unfold exF; omega)
  · rw [if_neg z, if_neg z]
    exact ⟨rfl, rfl⟩
theorem rx_c_X12_part_1 {c g : Nat → Int32} {n : Nat} (hT : TB c n) (hG : TG c g n) {p : Nat} (hp : p ≤ n) (L : Nat → Int32) : CS n (-1) (tq_rp c n (tq_U c n 5) tq_am p) (fx_c_X12_part_1 0 0 (nI n) (nI p) g L).2.1 (fx_c_X12_part_1 0 0 (nI n) (nI p) g L).2.2.1 := CS_e (rx_c_X12_part_1_0 hT hG hp L) (tq_rp_lp (tq_U_PG 5) (by decide) hp)
theorem fs_c_X12_condition_1_p7 (h0_f8 : Int32) (h0_f9 : Int32) (h0_5c : Nat → Int32) (h0_4c : Nat → Int32) (F : Nat) (j7_l3 : Int32) (j7_h0_f10 : Int32) : fx_c_X12_condition_1_p7 h0_f8 h0_f9 h0_5c h0_4c (F + 1) j7_l3 j7_h0_f10 = ((if j7_l3 = j7_l3 then (exc2 (fx_c_X12_look h0_f8 h0_f9 j7_h0_f10 h0_5c) fun (r_3 : Int32) (x_4 : Int32) => (if r_3 = (-1) then (j7_l3, x_4, (-1), 1) else (if r_3 = 124 then (exl (x_4 + 1) fun (x_22 : Int32) => (exc4 (fx_c_X12_part_1 0 h0_f8 h0_f9 x_22 h0_5c h0_4c) fun (r_25 : Int32) (x_26 : Int32) (x_27 : Int32) (x_28 : Int32) => (if x_27 = (-1) then (if j7_l3 = 0 then (if r_25 = 0 then (fx_c_X12_condition_1_p56 (fx_c_X12_condition_1_p7 h0_f8 h0_f9 h0_5c h0_4c F) x_26) else (fx_c_X12_condition_1_p51 (fx_c_X12_condition_1_p7 h0_f8 h0_f9 h0_5c h0_4c F) x_26)) else (fx_c_X12_condition_1_p51 (fx_c_X12_condition_1_p7 h0_f8 h0_f9 h0_5c h0_4c F) x_26)) else (if j7_l3 = 0 then (if r_25 = 0 then (fx_c_X12_condition_1_p56b x_26 x_27 x_28) else (fx_c_X12_condition_1_p51b x_26 x_27 x_28)) else (fx_c_X12_condition_1_p51b x_26 x_27 x_28))))) else (j7_l3, x_4, (-1), 1)))) else default) : Int32 × Int32 × Int32 × Int32) := rfl
theorem rx_c_X12_condition_1_lp {c g : Nat → Int32} {n : Nat} (hT : TB c n) (hG : TG c g n) (L : Nat → Int32) : ∀ (F : Nat) (v : Int32) (p : Nat), p ≤ n → n < p + F → CS n (-1) (tq_lp c n tq_or (tq_rp c n (tq_rp c n (tq_U c n 5) tq_am) tq_or) p) (fx_c_X12_condition_1_p7 0 (nI n) g L F v (nI p)).2.1 (fx_c_X12_condition_1_p7 0 (nI n) g L F v (nI p)).2.2.1 := by
  have hn := hT.2
  intro F
  induction F with
  | zero => intro v p h1 h2; omega
  | succ F ih =>
    intro v p h1 h2
    have g3 := tq_pk_ge (c := c) h1
    have g5 := tq_pk_le (c := c) h1
    rw [fs_c_X12_condition_1_p7, if_pos rfl]
    simp only [exc2, exc3, exc4, exl, fx_c_X12_condition_1_p7b, fx_c_X12_condition_1_p56d, fx_c_X12_condition_1_p51b, fx_c_X12_condition_1_p56b, fx_c_X12_condition_1_p56c, fx_c_X12_condition_1_p51, fx_c_X12_condition_1_p56]
    rw [rx_c_X12_look hT hG h1]
    simp only []
    by_cases h3 : tq_ch c n (tq_pk c n p) = -1
    · rw [if_pos h3, tq_lp_f (by rw [h3]; decide)]
      exact CS_t g5
    · have g4 := tq_ch_lt h3
      rw [if_neg h3]
      by_cases h4 : tq_ch c n (tq_pk c n p) = 124
      · rw [if_pos h4, tq_lp_t (by rw [h4]; decide), tq_rp_lp (tq_rp_PG (c := c) (n := n) (tq_U_PG (c := c) (n := n) 5) (A := tq_am) (by decide)) (by decide) (p := tq_pk c n p + 1) (by omega), nI_1]
        have hg := (tq_rp_PG (c := c) (n := n) (tq_U_PG (c := c) (n := n) 5) (A := tq_am) (by decide)) (tq_pk c n p + 1) (by omega)
        refine CS_seq hn (rx_c_X12_part_1 hT hG (p := tq_pk c n p + 1) (by omega) L) hg.1 (fun r hr eq1 eq2 z2 z3 => ?_) (fun z => ?_)
        · have hk : ∀ v : Int32, CS n (-1) (tq_lp c n tq_or (tq_rp c n (tq_rp c n (tq_U c n 5) tq_am) tq_or) r) (fx_c_X12_condition_1_p7 0 (nI n) g L F v (nI r)).2.1 (fx_c_X12_condition_1_p7 0 (nI n) g L F v (nI r)).2.2.1 := fun v => ih v r hr (by have := hg.2 z2; omega)
          rw [if_pos eq2, eq1]
          by_cases h5 : v = 0
          · rw [if_pos h5]
            by_cases h6 : (fx_c_X12_part_1 0 0 (nI n) (nI (tq_pk c n p + 1)) g L).1 = 0
            · rw [if_pos h6]
              exact hk _
            · rw [if_neg h6]
              exact hk _
          · rw [if_neg h5]
            exact hk _
        · rw [if_neg z]
          by_cases h5 : v = 0
          · rw [if_pos h5]
            by_cases h6 : (fx_c_X12_part_1 0 0 (nI n) (nI (tq_pk c n p + 1)) g L).1 = 0
            · rw [if_pos h6]
              rw [if_neg z]
              exact ⟨rfl, rfl⟩
            · rw [if_neg h6]
              rw [if_neg z]
              exact ⟨rfl, rfl⟩
          · rw [if_neg h5]
            rw [if_neg z]
            exact ⟨rfl, rfl⟩
      · rw [if_neg h4, tq_lp_f (tq_bf (fun z => h4 (of_decide_eq_true z)))]
        exact CS_t g5
theorem rx_c_X12_condition_1_b {c g : Nat → Int32} {n : Nat} (hT : TB c n) (hG : TG c g n) {p : Nat} (hp : p ≤ n) (L : Nat → Int32) : CS n (-1) (tq_bind (tq_rp c n (tq_U c n 5) tq_am p) (tq_lp c n tq_or (tq_rp c n (tq_rp c n (tq_U c n 5) tq_am) tq_or))) (fx_c_X12_condition_1 0 0 (nI n) (nI p) g L).2.1 (fx_c_X12_condition_1 0 0 (nI n) (nI p) g L).2.2.1 := by
  have hn := hT.2
  simp only [fx_c_X12_condition_1, fx_c_X12_condition_1_p7b, exc3, exc4]
  refine CS_seq hn (rx_c_X12_part_1 hT hG hp L) (((tq_rp_PG (c := c) (n := n) (tq_U_PG (c := c) (n := n) 5) (A := tq_am) (by decide)) p hp).1) (fun r hr eq1 eq2 z2 z3 => ?_) (fun z => ?_)
  · rw [if_pos eq2, eq1]
    exact rx_c_X12_condition_1_lp hT hG L exF _ r hr (by have := hT.2; unfold exF; omega)
  · rw [if_neg z, if_neg z]
    exact ⟨rfl, rfl⟩
theorem rx_c_X12_condition_1_0 {c g : Nat → Int32} {n : Nat} (hT : TB c n) (hG : TG c g n) {p : Nat} (hp : p ≤ n) (L : Nat → Int32) : CS n (-1) (tq_C c n 5 p) (fx_c_X12_condition_1 0 0 (nI n) (nI p) g L).2.1 (fx_c_X12_condition_1 0 0 (nI n) (nI p) g L).2.2.1 := CS_e (rx_c_X12_condition_1_b hT hG hp L) ((tq_nest (tq_U_PG 5) (A := tq_am) (B := tq_or) (by decide) (by decide) hp).symm.trans (tq_rp_lp (tq_rp_PG (c := c) (n := n) (tq_U_PG (c := c) (n := n) 5) (A := tq_am) (by decide)) (by decide) hp))
theorem rx_c_X12_compares_p12 {c g : Nat → Int32} {n : Nat} (hT : TB c n) (hG : TG c g n) {q : Nat} (hq : q ≤ n) (v : Int32) (L : Nat → Int32) : CS n (-1) (tq_tail c n (tq_SM c n 6) q) (fx_c_X12_compares_p12 0 (nI n) g L v (nI q)).2.1 (fx_c_X12_compares_p12 0 (nI n) g L v (nI q)).2.2.1 := by
  have hn := hT.2
  have g5 := tq_pk_le (c := c) hq
  simp only [fx_c_X12_compares_p12, exc1, exc2, exc3, exc4, exl]
  rw [rx_c_X12_look hT hG hq]
  simp only []
  by_cases h1 : tq_ch c n (tq_pk c n q) = -1
  · have es : tq_tail c n (tq_SM c n 6) q = (false, tq_pk c n q) := by unfold tq_tail; rw [if_neg (by rw [h1]; decide)]
    rw [if_pos h1, es]
    exact CS_f g5
  · rw [if_neg h1, rx_ss]
    by_cases h2 : tq_cmp (tq_ch c n (tq_pk c n q)) = true
    · have g4 := tq_A_lt tq_cmp_m1 h2
      have es : tq_tail c n (tq_SM c n 6) q = tq_SM c n 6 (tq_pk c n q + 1) := by unfold tq_tail; rw [if_pos h2]
      rw [if_pos h2, if_neg (by decide), es, nI_1]
      have h3 := rx_c_X12_sum hT hG (p := tq_pk c n q + 1) (by omega) L
      by_cases h4 : (fx_c_X12_sum 0 (nI n) (nI (tq_pk c n q + 1)) g L).2.2.1 = -1
      · rw [if_pos h4]
        rw [h4] at h3
        simp only [apply_ite Prod.snd, apply_ite Prod.fst, ite_self]
        exact h3
      · rw [if_neg h4]
        simp only [apply_ite Prod.snd, apply_ite Prod.fst, ite_self]
        exact h3
    · have es : tq_tail c n (tq_SM c n 6) q = (false, tq_pk c n q) := by unfold tq_tail; rw [if_neg h2]
      rw [if_neg h2, if_pos rfl, es]
      exact CS_f g5
theorem rx_c_X12_compares_0 {c g : Nat → Int32} {n : Nat} (hT : TB c n) (hG : TG c g n) {q : Nat} (hq : q ≤ n) (L : Nat → Int32) : CS n (-1) (tq_bind (tq_SM c n 6 q) (tq_tail c n (tq_SM c n 6))) (fx_c_X12_compares 0 0 (nI n) (nI q) g L).2.1 (fx_c_X12_compares 0 0 (nI n) (nI q) g L).2.2.1 := by
  have hn := hT.2
  simp only [fx_c_X12_compares, fx_c_X12_compares_p12b, exc3, exc4]
  rw [if_pos trivial]
  refine CS_seq hn (rx_c_X12_sum hT hG hq L) (tq_SM_PG _ hq).1 (fun r hr eq1 eq2 z2 z3 => ?_) (fun z => ?_)
  · rw [if_pos eq2, eq1]
    exact rx_c_X12_compares_p12 hT hG hr _ L
  · rw [if_neg z, if_neg z]
    exact ⟨rfl, rfl⟩
theorem rx_c_X12_unit {c g : Nat → Int32} {n : Nat} (hT : TB c n) (hG : TG c g n) {p : Nat} (hp : p ≤ n) (L : Nat → Int32) : CS n (-1) (tq_U c n 6 p) (fx_c_X12_unit 0 (nI n) (nI p) g L).2.1 (fx_c_X12_unit 0 (nI n) (nI p) g L).2.2.1 := by
  have hn := hT.2
  have g3 := tq_pk_ge (c := c) hp
  have g5 := tq_pk_le (c := c) hp
  simp only [fx_c_X12_unit, exc1, exc2, exc3, exc4, exl]
  rw [rx_c_X12_look hT hG hp]
  simp only []
  have h9 := rx_c_X12_compares_0 hT hG g5 L
  have hcmp : ∀ {α : Type} (r : Int32) (y : α), CS n (-1) (tq_bind (tq_SM c n 6 (tq_pk c n p)) (tq_tail c n (tq_SM c n 6))) (if (fx_c_X12_compares 0 0 (nI n) (nI (tq_pk c n p)) g L).2.2.1 = -1 then ((fx_c_X12_compares 0 0 (nI n) (nI (tq_pk c n p)) g L).1, (fx_c_X12_compares 0 0 (nI n) (nI (tq_pk c n p)) g L).2.1, (-1 : Int32), (0 : Int32)) else ((fx_c_X12_compares 0 0 (nI n) (nI (tq_pk c n p)) g L).1, (fx_c_X12_compares 0 0 (nI n) (nI (tq_pk c n p)) g L).2.1, (fx_c_X12_compares 0 0 (nI n) (nI (tq_pk c n p)) g L).2.2.1, (fx_c_X12_compares 0 0 (nI n) (nI (tq_pk c n p)) g L).2.2.2)).2.1 (if (fx_c_X12_compares 0 0 (nI n) (nI (tq_pk c n p)) g L).2.2.1 = -1 then ((fx_c_X12_compares 0 0 (nI n) (nI (tq_pk c n p)) g L).1, (fx_c_X12_compares 0 0 (nI n) (nI (tq_pk c n p)) g L).2.1, (-1 : Int32), (0 : Int32)) else ((fx_c_X12_compares 0 0 (nI n) (nI (tq_pk c n p)) g L).1, (fx_c_X12_compares 0 0 (nI n) (nI (tq_pk c n p)) g L).2.1, (fx_c_X12_compares 0 0 (nI n) (nI (tq_pk c n p)) g L).2.2.1, (fx_c_X12_compares 0 0 (nI n) (nI (tq_pk c n p)) g L).2.2.2)).2.2.1 := fun r y => by
    by_cases h4 : (fx_c_X12_compares 0 0 (nI n) (nI (tq_pk c n p)) g L).2.2.1 = -1
    · rw [if_pos h4]
      rw [h4] at h9
      simp only []
      exact h9
    · rw [if_neg h4]
      simp only []
      exact h9
  by_cases h1 : tq_ch c n (tq_pk c n p) = -1
  · have es : tq_U c n 6 p = tq_bind (tq_SM c n 6 (tq_pk c n p)) (tq_tail c n (tq_SM c n 6)) := by
      show tq_unit c n _ _ _ p = _
      unfold tq_unit
      rw [if_neg (by rw [h1]; decide), if_neg (by rw [h1]; decide)]
    rw [if_pos h1, es]
    exact hcmp 0 ()
  · rw [if_neg h1]
    by_cases h2 : tq_ch c n (tq_pk c n p) = 33
    · have g4 := tq_ch_ne h2 (by decide)
      have hgi : fx_c_X12_goesIn (nI (tq_pk c n p)) = (1, nI (tq_pk c n p + 1)) := by simp only [fx_c_X12_goesIn, exl]; rw [nI_1]
      have es : tq_U c n 6 p = tq_U c n 5 (tq_pk c n p + 1) := by
        show tq_unit c n _ _ _ p = _
        unfold tq_unit
        rw [if_pos h2]
      rw [if_pos h2, es, hgi]
      simp only []
      have h3 := rx_c_X12_unit_1 hT hG (p := tq_pk c n p + 1) (by omega) L
      by_cases h4 : (fx_c_X12_unit_1 0 (nI n) (nI (tq_pk c n p + 1)) g L).2.2.1 = -1
      · rw [if_pos h4]
        rw [h4] at h3
        simp only [apply_ite Prod.snd, apply_ite Prod.fst, ite_self]
        exact h3
      · rw [if_neg h4]
        simp only [apply_ite Prod.snd, apply_ite Prod.fst, ite_self]
        exact h3
    · rw [if_neg h2]
      by_cases h3 : tq_ch c n (tq_pk c n p) = 40
      · have g4 := tq_ch_ne h3 (by decide)
        have hgi : fx_c_X12_goesIn (nI (tq_pk c n p)) = (1, nI (tq_pk c n p + 1)) := by simp only [fx_c_X12_goesIn, exl]; rw [nI_1]
        have es : tq_U c n 6 p = tq_bind (tq_C c n 5 (tq_pk c n p + 1)) (tq_ex c n 41) := by
          show tq_unit c n _ _ _ p = _
          unfold tq_unit
          rw [if_neg h2, if_pos h3]
          rfl
        rw [if_pos h3, es, hgi]
        simp only []
        refine CS_seq hn (rx_c_X12_condition_1_0 hT hG (p := tq_pk c n p + 1) (by omega) L) (tq_C_PG _ (by omega)).1 (fun q hq eq1 eq2 _ _ => ?_) (fun z => ?_)
        · rw [if_pos eq2, eq1, rx_c_X12_takes hT hG hq (by decide)]
          have k5 := tq_pk_le (c := c) hq
          unfold tq_ex
          by_cases h5 : tq_ch c n (tq_pk c n q) = 41
          · have k4 := tq_ch_ne h5 (by decide)
            rw [if_pos h5, if_pos h5, if_pos rfl]
            exact CS_t (by omega)
          · rw [if_neg h5, if_neg h5, if_neg (show ¬ (0 : Int32) = 1 by decide)]
            exact CS_f k5
        · rw [if_neg z]
          exact ⟨rfl, rfl⟩
      · have es : tq_U c n 6 p = tq_bind (tq_SM c n 6 (tq_pk c n p)) (tq_tail c n (tq_SM c n 6)) := by
          show tq_unit c n _ _ _ p = _
          unfold tq_unit
          rw [if_neg h2, if_neg h3]
        rw [if_neg h3, es]
        exact hcmp 0 ()
theorem fs_c_X12_part_7_p18 (h0_f8 : Int32) (h0_f9 : Int32) (h0_5c : Nat → Int32) (h0_4c : Nat → Int32) (F : Nat) (j18_l3 : Int32) (j18_h0_f10 : Int32) : fx_c_X12_part_7_p18 h0_f8 h0_f9 h0_5c h0_4c (F + 1) j18_l3 j18_h0_f10 = ((if j18_l3 = j18_l3 then (exc2 (fx_c_X12_look h0_f8 h0_f9 j18_h0_f10 h0_5c) fun (r_3 : Int32) (x_4 : Int32) => (if r_3 = (-1) then (j18_l3, x_4, (-1), 0) else (if r_3 = 38 then (exl (x_4 + 1) fun (x_22 : Int32) => (exc4 (fx_c_X12_unit h0_f8 h0_f9 x_22 h0_5c h0_4c) fun (r_25 : Int32) (x_26 : Int32) (x_27 : Int32) (x_28 : Int32) => (if x_27 = (-1) then (if j18_l3 = 0 then (fx_c_X12_part_7_p64 (fx_c_X12_part_7_p18 h0_f8 h0_f9 h0_5c h0_4c F) x_26) else (if r_25 = 0 then (fx_c_X12_part_7_p64 (fx_c_X12_part_7_p18 h0_f8 h0_f9 h0_5c h0_4c F) x_26) else (fx_c_X12_part_7_p65 (fx_c_X12_part_7_p18 h0_f8 h0_f9 h0_5c h0_4c F) x_26))) else (if j18_l3 = 0 then (fx_c_X12_part_7_p64b x_26 x_27 x_28) else (if r_25 = 0 then (fx_c_X12_part_7_p64b x_26 x_27 x_28) else (fx_c_X12_part_7_p65b x_26 x_27 x_28)))))) else (j18_l3, x_4, (-1), 0)))) else default) : Int32 × Int32 × Int32 × Int32) := rfl
theorem rx_c_X12_part_7_lp {c g : Nat → Int32} {n : Nat} (hT : TB c n) (hG : TG c g n) (L : Nat → Int32) : ∀ (F : Nat) (v : Int32) (p : Nat), p ≤ n → n < p + F → CS n (-1) (tq_lp c n tq_am (tq_rp c n (tq_U c n 6) tq_am) p) (fx_c_X12_part_7_p18 0 (nI n) g L F v (nI p)).2.1 (fx_c_X12_part_7_p18 0 (nI n) g L F v (nI p)).2.2.1 := by
  have hn := hT.2
  intro F
  induction F with
  | zero => intro v p h1 h2; omega
  | succ F ih =>
    intro v p h1 h2
    have g3 := tq_pk_ge (c := c) h1
    have g5 := tq_pk_le (c := c) h1
    rw [fs_c_X12_part_7_p18, if_pos rfl]
    simp only [exc2, exc3, exc4, exl, fx_c_X12_part_7_p18b, fx_c_X12_part_7_p65d, fx_c_X12_part_7_p64b, fx_c_X12_part_7_p65b, fx_c_X12_part_7_p65c, fx_c_X12_part_7_p64, fx_c_X12_part_7_p65, fx_c_X12_part_7_p17, fx_c_X12_part_7_p17b]
    rw [rx_c_X12_look hT hG h1]
    simp only []
    by_cases h3 : tq_ch c n (tq_pk c n p) = -1
    · rw [if_pos h3, tq_lp_f (by rw [h3]; decide)]
      exact CS_t g5
    · have g4 := tq_ch_lt h3
      rw [if_neg h3]
      by_cases h4 : tq_ch c n (tq_pk c n p) = 38
      · rw [if_pos h4, tq_lp_t (by rw [h4]; decide), tq_rp_lp (tq_U_PG (c := c) (n := n) 6) (by decide) (p := tq_pk c n p + 1) (by omega), nI_1]
        have hg := (tq_U_PG (c := c) (n := n) 6) (tq_pk c n p + 1) (by omega)
        refine CS_seq hn (rx_c_X12_unit hT hG (p := tq_pk c n p + 1) (by omega) L) hg.1 (fun r hr eq1 eq2 z2 z3 => ?_) (fun z => ?_)
        · have hk : ∀ v : Int32, CS n (-1) (tq_lp c n tq_am (tq_rp c n (tq_U c n 6) tq_am) r) (fx_c_X12_part_7_p18 0 (nI n) g L F v (nI r)).2.1 (fx_c_X12_part_7_p18 0 (nI n) g L F v (nI r)).2.2.1 := fun v => ih v r hr (by have := hg.2 z2; omega)
          rw [if_pos eq2, eq1]
          by_cases h5 : v = 0
          · rw [if_pos h5]
            exact hk _
          · rw [if_neg h5]
            by_cases h6 : (fx_c_X12_unit 0 (nI n) (nI (tq_pk c n p + 1)) g L).1 = 0
            · rw [if_pos h6]
              exact hk _
            · rw [if_neg h6]
              exact hk _
        · rw [if_neg z]
          by_cases h5 : v = 0
          · rw [if_pos h5]
            rw [if_neg z]
            exact ⟨rfl, rfl⟩
          · rw [if_neg h5]
            by_cases h6 : (fx_c_X12_unit 0 (nI n) (nI (tq_pk c n p + 1)) g L).1 = 0
            · rw [if_pos h6]
              rw [if_neg z]
              exact ⟨rfl, rfl⟩
            · rw [if_neg h6]
              rw [if_neg z]
              exact ⟨rfl, rfl⟩
      · rw [if_neg h4, tq_lp_f (tq_bf (fun z => h4 (of_decide_eq_true z)))]
        exact CS_t g5
theorem rx_c_X12_part_7_0 {c g : Nat → Int32} {n : Nat} (hT : TB c n) (hG : TG c g n) {p : Nat} (hp : p ≤ n) (L : Nat → Int32) : CS n (-1) (tq_bind (tq_U c n 6 p) (tq_lp c n tq_am (tq_rp c n (tq_U c n 6) tq_am))) (fx_c_X12_part_7 0 0 (nI n) (nI p) g L).2.1 (fx_c_X12_part_7 0 0 (nI n) (nI p) g L).2.2.1 := by
  have hn := hT.2
  simp only [fx_c_X12_part_7, fx_c_X12_part_7_p18b, fx_c_X12_part_7_p17, fx_c_X12_part_7_p17b, exc3, exc4]
  rw [if_pos trivial]
  refine CS_seq hn (rx_c_X12_unit hT hG hp L) ((tq_U_PG 6 p hp).1) (fun r hr eq1 eq2 z2 z3 => ?_) (fun z => ?_)
  · rw [if_pos eq2, eq1]
    exact rx_c_X12_part_7_lp hT hG L exF _ r hr (by have := hT.2; unfold exF; omega)
  · rw [if_neg z, if_neg z]
    exact ⟨rfl, rfl⟩
theorem rx_c_X12_part_7 {c g : Nat → Int32} {n : Nat} (hT : TB c n) (hG : TG c g n) {p : Nat} (hp : p ≤ n) (L : Nat → Int32) : CS n (-1) (tq_rp c n (tq_U c n 6) tq_am p) (fx_c_X12_part_7 0 0 (nI n) (nI p) g L).2.1 (fx_c_X12_part_7 0 0 (nI n) (nI p) g L).2.2.1 := CS_e (rx_c_X12_part_7_0 hT hG hp L) (tq_rp_lp (tq_U_PG 6) (by decide) hp)
theorem fs_c_X12_condition_7_p7 (h0_f8 : Int32) (h0_f9 : Int32) (h0_5c : Nat → Int32) (h0_4c : Nat → Int32) (F : Nat) (j7_l3 : Int32) (j7_h0_f10 : Int32) : fx_c_X12_condition_7_p7 h0_f8 h0_f9 h0_5c h0_4c (F + 1) j7_l3 j7_h0_f10 = ((if j7_l3 = j7_l3 then (exc2 (fx_c_X12_look h0_f8 h0_f9 j7_h0_f10 h0_5c) fun (r_3 : Int32) (x_4 : Int32) => (if r_3 = (-1) then (j7_l3, x_4, (-1), 0) else (if r_3 = 124 then (exl (x_4 + 1) fun (x_22 : Int32) => (exc4 (fx_c_X12_part_7 0 h0_f8 h0_f9 x_22 h0_5c h0_4c) fun (r_25 : Int32) (x_26 : Int32) (x_27 : Int32) (x_28 : Int32) => (if x_27 = (-1) then (if j7_l3 = 0 then (if r_25 = 0 then (fx_c_X12_condition_7_p56 (fx_c_X12_condition_7_p7 h0_f8 h0_f9 h0_5c h0_4c F) x_26) else (fx_c_X12_condition_7_p51 (fx_c_X12_condition_7_p7 h0_f8 h0_f9 h0_5c h0_4c F) x_26)) else (fx_c_X12_condition_7_p51 (fx_c_X12_condition_7_p7 h0_f8 h0_f9 h0_5c h0_4c F) x_26)) else (if j7_l3 = 0 then (if r_25 = 0 then (fx_c_X12_condition_7_p56b x_26 x_27 x_28) else (fx_c_X12_condition_7_p51b x_26 x_27 x_28)) else (fx_c_X12_condition_7_p51b x_26 x_27 x_28))))) else (j7_l3, x_4, (-1), 0)))) else default) : Int32 × Int32 × Int32 × Int32) := rfl
theorem rx_c_X12_condition_7_lp {c g : Nat → Int32} {n : Nat} (hT : TB c n) (hG : TG c g n) (L : Nat → Int32) : ∀ (F : Nat) (v : Int32) (p : Nat), p ≤ n → n < p + F → CS n (-1) (tq_lp c n tq_or (tq_rp c n (tq_rp c n (tq_U c n 6) tq_am) tq_or) p) (fx_c_X12_condition_7_p7 0 (nI n) g L F v (nI p)).2.1 (fx_c_X12_condition_7_p7 0 (nI n) g L F v (nI p)).2.2.1 := by
  have hn := hT.2
  intro F
  induction F with
  | zero => intro v p h1 h2; omega
  | succ F ih =>
    intro v p h1 h2
    have g3 := tq_pk_ge (c := c) h1
    have g5 := tq_pk_le (c := c) h1
    rw [fs_c_X12_condition_7_p7, if_pos rfl]
    simp only [exc2, exc3, exc4, exl, fx_c_X12_condition_7_p7b, fx_c_X12_condition_7_p56d, fx_c_X12_condition_7_p51b, fx_c_X12_condition_7_p56b, fx_c_X12_condition_7_p56c, fx_c_X12_condition_7_p51, fx_c_X12_condition_7_p56]
    rw [rx_c_X12_look hT hG h1]
    simp only []
    by_cases h3 : tq_ch c n (tq_pk c n p) = -1
    · rw [if_pos h3, tq_lp_f (by rw [h3]; decide)]
      exact CS_t g5
    · have g4 := tq_ch_lt h3
      rw [if_neg h3]
      by_cases h4 : tq_ch c n (tq_pk c n p) = 124
      · rw [if_pos h4, tq_lp_t (by rw [h4]; decide), tq_rp_lp (tq_rp_PG (c := c) (n := n) (tq_U_PG (c := c) (n := n) 6) (A := tq_am) (by decide)) (by decide) (p := tq_pk c n p + 1) (by omega), nI_1]
        have hg := (tq_rp_PG (c := c) (n := n) (tq_U_PG (c := c) (n := n) 6) (A := tq_am) (by decide)) (tq_pk c n p + 1) (by omega)
        refine CS_seq hn (rx_c_X12_part_7 hT hG (p := tq_pk c n p + 1) (by omega) L) hg.1 (fun r hr eq1 eq2 z2 z3 => ?_) (fun z => ?_)
        · have hk : ∀ v : Int32, CS n (-1) (tq_lp c n tq_or (tq_rp c n (tq_rp c n (tq_U c n 6) tq_am) tq_or) r) (fx_c_X12_condition_7_p7 0 (nI n) g L F v (nI r)).2.1 (fx_c_X12_condition_7_p7 0 (nI n) g L F v (nI r)).2.2.1 := fun v => ih v r hr (by have := hg.2 z2; omega)
          rw [if_pos eq2, eq1]
          by_cases h5 : v = 0
          · rw [if_pos h5]
            by_cases h6 : (fx_c_X12_part_7 0 0 (nI n) (nI (tq_pk c n p + 1)) g L).1 = 0
            · rw [if_pos h6]
              exact hk _
            · rw [if_neg h6]
              exact hk _
          · rw [if_neg h5]
            exact hk _
        · rw [if_neg z]
          by_cases h5 : v = 0
          · rw [if_pos h5]
            by_cases h6 : (fx_c_X12_part_7 0 0 (nI n) (nI (tq_pk c n p + 1)) g L).1 = 0
            · rw [if_pos h6]
              rw [if_neg z]
              exact ⟨rfl, rfl⟩
            · rw [if_neg h6]
              rw [if_neg z]
              exact ⟨rfl, rfl⟩
          · rw [if_neg h5]
            rw [if_neg z]
            exact ⟨rfl, rfl⟩
      · rw [if_neg h4, tq_lp_f (tq_bf (fun z => h4 (of_decide_eq_true z)))]
        exact CS_t g5
theorem rx_c_X12_condition_7_b {c g : Nat → Int32} {n : Nat} (hT : TB c n) (hG : TG c g n) {p : Nat} (hp : p ≤ n) (L : Nat → Int32) : CS n (-1) (tq_bind (tq_rp c n (tq_U c n 6) tq_am p) (tq_lp c n tq_or (tq_rp c n (tq_rp c n (tq_U c n 6) tq_am) tq_or))) (fx_c_X12_condition_7 0 0 (nI n) (nI p) g L).2.1 (fx_c_X12_condition_7 0 0 (nI n) (nI p) g L).2.2.1 := by
  have hn := hT.2
  simp only [fx_c_X12_condition_7, fx_c_X12_condition_7_p7b, exc3, exc4]
  refine CS_seq hn (rx_c_X12_part_7 hT hG hp L) (((tq_rp_PG (c := c) (n := n) (tq_U_PG (c := c) (n := n) 6) (A := tq_am) (by decide)) p hp).1) (fun r hr eq1 eq2 z2 z3 => ?_) (fun z => ?_)
  · rw [if_pos eq2, eq1]
    exact rx_c_X12_condition_7_lp hT hG L exF _ r hr (by have := hT.2; unfold exF; omega)
  · rw [if_neg z, if_neg z]
    exact ⟨rfl, rfl⟩
theorem rx_c_X12_condition_7_0 {c g : Nat → Int32} {n : Nat} (hT : TB c n) (hG : TG c g n) {p : Nat} (hp : p ≤ n) (L : Nat → Int32) : CS n (-1) (tq_C c n 6 p) (fx_c_X12_condition_7 0 0 (nI n) (nI p) g L).2.1 (fx_c_X12_condition_7 0 0 (nI n) (nI p) g L).2.2.1 := CS_e (rx_c_X12_condition_7_b hT hG hp L) ((tq_nest (tq_U_PG 6) (A := tq_am) (B := tq_or) (by decide) (by decide) hp).symm.trans (tq_rp_lp (tq_rp_PG (c := c) (n := n) (tq_U_PG (c := c) (n := n) 6) (A := tq_am) (by decide)) (by decide) hp))
theorem fs_c_X12_part_p18 (h0_f8 : Int32) (h0_f9 : Int32) (h0_5c : Nat → Int32) (h0_4c : Nat → Int32) (F : Nat) (j18_l3 : Int32) (j18_h0_f10 : Int32) : fx_c_X12_part_p18 h0_f8 h0_f9 h0_5c h0_4c (F + 1) j18_l3 j18_h0_f10 = ((if j18_l3 = j18_l3 then (exc2 (fx_c_X12_look h0_f8 h0_f9 j18_h0_f10 h0_5c) fun (r_3 : Int32) (x_4 : Int32) => (if r_3 = (-1) then (j18_l3, x_4, (-1), 0) else (if r_3 = 38 then (exl (x_4 + 1) fun (x_22 : Int32) => (exc4 (fx_c_X12_unit h0_f8 h0_f9 x_22 h0_5c h0_4c) fun (r_25 : Int32) (x_26 : Int32) (x_27 : Int32) (x_28 : Int32) => (if x_27 = (-1) then (if j18_l3 = 0 then (fx_c_X12_part_p64 (fx_c_X12_part_p18 h0_f8 h0_f9 h0_5c h0_4c F) x_26) else (if r_25 = 0 then (fx_c_X12_part_p64 (fx_c_X12_part_p18 h0_f8 h0_f9 h0_5c h0_4c F) x_26) else (fx_c_X12_part_p65 (fx_c_X12_part_p18 h0_f8 h0_f9 h0_5c h0_4c F) x_26))) else (if j18_l3 = 0 then (fx_c_X12_part_p64b x_26 x_27 x_28) else (if r_25 = 0 then (fx_c_X12_part_p64b x_26 x_27 x_28) else (fx_c_X12_part_p65b x_26 x_27 x_28)))))) else (j18_l3, x_4, (-1), 0)))) else default) : Int32 × Int32 × Int32 × Int32) := rfl
theorem rx_c_X12_part_lp {c g : Nat → Int32} {n : Nat} (hT : TB c n) (hG : TG c g n) (L : Nat → Int32) : ∀ (F : Nat) (v : Int32) (p : Nat), p ≤ n → n < p + F → CS n (-1) (tq_lp c n tq_am (tq_rp c n (tq_U c n 6) tq_am) p) (fx_c_X12_part_p18 0 (nI n) g L F v (nI p)).2.1 (fx_c_X12_part_p18 0 (nI n) g L F v (nI p)).2.2.1 := by
  have hn := hT.2
  intro F
  induction F with
  | zero => intro v p h1 h2; omega
  | succ F ih =>
    intro v p h1 h2
    have g3 := tq_pk_ge (c := c) h1
    have g5 := tq_pk_le (c := c) h1
    rw [fs_c_X12_part_p18, if_pos rfl]
    simp only [exc2, exc3, exc4, exl, fx_c_X12_part_p18b, fx_c_X12_part_p65d, fx_c_X12_part_p64b, fx_c_X12_part_p65b, fx_c_X12_part_p65c, fx_c_X12_part_p64, fx_c_X12_part_p65, fx_c_X12_part_p17, fx_c_X12_part_p17b]
    rw [rx_c_X12_look hT hG h1]
    simp only []
    by_cases h3 : tq_ch c n (tq_pk c n p) = -1
    · rw [if_pos h3, tq_lp_f (by rw [h3]; decide)]
      exact CS_t g5
    · have g4 := tq_ch_lt h3
      rw [if_neg h3]
      by_cases h4 : tq_ch c n (tq_pk c n p) = 38
      · rw [if_pos h4, tq_lp_t (by rw [h4]; decide), tq_rp_lp (tq_U_PG (c := c) (n := n) 6) (by decide) (p := tq_pk c n p + 1) (by omega), nI_1]
        have hg := (tq_U_PG (c := c) (n := n) 6) (tq_pk c n p + 1) (by omega)
        refine CS_seq hn (rx_c_X12_unit hT hG (p := tq_pk c n p + 1) (by omega) L) hg.1 (fun r hr eq1 eq2 z2 z3 => ?_) (fun z => ?_)
        · have hk : ∀ v : Int32, CS n (-1) (tq_lp c n tq_am (tq_rp c n (tq_U c n 6) tq_am) r) (fx_c_X12_part_p18 0 (nI n) g L F v (nI r)).2.1 (fx_c_X12_part_p18 0 (nI n) g L F v (nI r)).2.2.1 := fun v => ih v r hr (by have := hg.2 z2; omega)
          rw [if_pos eq2, eq1]
          by_cases h5 : v = 0
          · rw [if_pos h5]
            exact hk _
          · rw [if_neg h5]
            by_cases h6 : (fx_c_X12_unit 0 (nI n) (nI (tq_pk c n p + 1)) g L).1 = 0
            · rw [if_pos h6]
              exact hk _
            · rw [if_neg h6]
              exact hk _
        · rw [if_neg z]
          by_cases h5 : v = 0
          · rw [if_pos h5]
            rw [if_neg z]
            exact ⟨rfl, rfl⟩
          · rw [if_neg h5]
            by_cases h6 : (fx_c_X12_unit 0 (nI n) (nI (tq_pk c n p + 1)) g L).1 = 0
            · rw [if_pos h6]
              rw [if_neg z]
              exact ⟨rfl, rfl⟩
            · rw [if_neg h6]
              rw [if_neg z]
              exact ⟨rfl, rfl⟩
      · rw [if_neg h4, tq_lp_f (tq_bf (fun z => h4 (of_decide_eq_true z)))]
        exact CS_t g5
theorem rx_c_X12_compares_7_p12 {c g : Nat → Int32} {n : Nat} (hT : TB c n) (hG : TG c g n) {q : Nat} (hq : q ≤ n) (v : Int32) (L : Nat → Int32) : CS n (-1) (tq_tail c n (tq_SM c n 6) q) (fx_c_X12_compares_7_p12 0 (nI n) g L v (nI q)).2.1 (fx_c_X12_compares_7_p12 0 (nI n) g L v (nI q)).2.2.1 := by
  have hn := hT.2
  have g5 := tq_pk_le (c := c) hq
  simp only [fx_c_X12_compares_7_p12, exc1, exc2, exc3, exc4, exl]
  rw [rx_c_X12_look hT hG hq]
  simp only []
  by_cases h1 : tq_ch c n (tq_pk c n q) = -1
  · have es : tq_tail c n (tq_SM c n 6) q = (false, tq_pk c n q) := by unfold tq_tail; rw [if_neg (by rw [h1]; decide)]
    rw [if_pos h1, es]
    exact CS_f g5
  · rw [if_neg h1, rx_ss]
    by_cases h2 : tq_cmp (tq_ch c n (tq_pk c n q)) = true
    · have g4 := tq_A_lt tq_cmp_m1 h2
      have es : tq_tail c n (tq_SM c n 6) q = tq_SM c n 6 (tq_pk c n q + 1) := by unfold tq_tail; rw [if_pos h2]
      rw [if_pos h2, if_neg (by decide), es, nI_1]
      have h3 := rx_c_X12_sum hT hG (p := tq_pk c n q + 1) (by omega) L
      by_cases h4 : (fx_c_X12_sum 0 (nI n) (nI (tq_pk c n q + 1)) g L).2.2.1 = -1
      · rw [if_pos h4]
        rw [h4] at h3
        simp only [apply_ite Prod.snd, apply_ite Prod.fst, ite_self]
        exact h3
      · rw [if_neg h4]
        simp only [apply_ite Prod.snd, apply_ite Prod.fst, ite_self]
        exact h3
    · have es : tq_tail c n (tq_SM c n 6) q = (false, tq_pk c n q) := by unfold tq_tail; rw [if_neg h2]
      rw [if_neg h2, if_pos rfl, es]
      exact CS_f g5
theorem rx_c_X12_compares_7_0 {c g : Nat → Int32} {n : Nat} (hT : TB c n) (hG : TG c g n) {q : Nat} (hq : q ≤ n) (v : Int32) (L : Nat → Int32) : CS n (-1) (tq_bind (tq_SM c n 6 q) (tq_tail c n (tq_SM c n 6))) (fx_c_X12_compares_7 0 v 0 (nI n) (nI q) g L).2.1 (fx_c_X12_compares_7 0 v 0 (nI n) (nI q) g L).2.2.1 := by
  have hn := hT.2
  simp only [fx_c_X12_compares_7, fx_c_X12_compares_7_p12b, exc3, exc4]
  rw [if_pos trivial]
  refine CS_seq hn (rx_c_X12_sum hT hG hq L) (tq_SM_PG _ hq).1 (fun r hr eq1 eq2 z2 z3 => ?_) (fun z => ?_)
  · rw [if_pos eq2, eq1]
    exact rx_c_X12_compares_7_p12 hT hG hr _ L
  · rw [if_neg z, if_neg z]
    exact ⟨rfl, rfl⟩
theorem rx_c_X12_compares_7_o1 {c g : Nat → Int32} {n : Nat} (hT : TB c n) (hG : TG c g n) {p : Nat} (hp : p ≤ n) (v : Int32) (L : Nat → Int32) : CS n (-1) (tq_tail c n (tq_SM c n 6) p) (fx_c_X12_compares_7 1 v 0 (nI n) (nI p) g L).2.1 (fx_c_X12_compares_7 1 v 0 (nI n) (nI p) g L).2.2.1 := by
  have e : fx_c_X12_compares_7 1 v 0 (nI n) (nI p) g L = fx_c_X12_compares_7_p12 0 (nI n) g L v (nI p) := if_neg (by decide)
  rw [e]
  exact rx_c_X12_compares_7_p12 hT hG hp v L
theorem rx_c_X12_part_o1 {c g : Nat → Int32} {n : Nat} (hT : TB c n) (hG : TG c g n) {p : Nat} (hp : p ≤ n) (v : Int32) (L : Nat → Int32) : CS n (-1) (tq_bind (tq_tail c n (tq_SM c n 6) p) (tq_lp c n tq_am (tq_rp c n (tq_U c n 6) tq_am))) (fx_c_X12_part 1 v 0 (nI n) (nI p) g L).2.1 (fx_c_X12_part 1 v 0 (nI n) (nI p) g L).2.2.1 := by
  have hn := hT.2
  simp only [fx_c_X12_part, fx_c_X12_part_p18b, fx_c_X12_part_p17, fx_c_X12_part_p17b, exc3, exc4]
  rw [if_neg (by decide)]
  refine CS_seq hn (rx_c_X12_compares_7_o1 hT hG hp v L) ((tq_tail_bd (c := c) (n := n) (sm := tq_SM c n 6) tq_SM_PG hp).1) (fun r hr eq1 eq2 z2 z3 => ?_) (fun z => ?_)
  · rw [if_pos eq2, eq1]
    exact rx_c_X12_part_lp hT hG L exF _ r hr (by have := hT.2; unfold exF; omega)
  · rw [if_neg z, if_neg z]
    exact ⟨rfl, rfl⟩
theorem fs_c_X12_condition_p7 (h0_f8 : Int32) (h0_f9 : Int32) (h0_5c : Nat → Int32) (h0_4c : Nat → Int32) (F : Nat) (j7_l3 : Int32) (j7_h0_f10 : Int32) : fx_c_X12_condition_p7 h0_f8 h0_f9 h0_5c h0_4c (F + 1) j7_l3 j7_h0_f10 = ((if j7_l3 = j7_l3 then (exc2 (fx_c_X12_look h0_f8 h0_f9 j7_h0_f10 h0_5c) fun (r_3 : Int32) (x_4 : Int32) => (if r_3 = (-1) then (j7_l3, x_4, (-1), 0) else (if r_3 = 124 then (exl (x_4 + 1) fun (x_22 : Int32) => (exc4 (fx_c_X12_part_7 0 h0_f8 h0_f9 x_22 h0_5c h0_4c) fun (r_25 : Int32) (x_26 : Int32) (x_27 : Int32) (x_28 : Int32) => (if x_27 = (-1) then (if j7_l3 = 0 then (if r_25 = 0 then (fx_c_X12_condition_p56 (fx_c_X12_condition_p7 h0_f8 h0_f9 h0_5c h0_4c F) x_26) else (fx_c_X12_condition_p51 (fx_c_X12_condition_p7 h0_f8 h0_f9 h0_5c h0_4c F) x_26)) else (fx_c_X12_condition_p51 (fx_c_X12_condition_p7 h0_f8 h0_f9 h0_5c h0_4c F) x_26)) else (if j7_l3 = 0 then (if r_25 = 0 then (fx_c_X12_condition_p56b x_26 x_27 x_28) else (fx_c_X12_condition_p51b x_26 x_27 x_28)) else (fx_c_X12_condition_p51b x_26 x_27 x_28))))) else (j7_l3, x_4, (-1), 0)))) else default) : Int32 × Int32 × Int32 × Int32) := rfl
theorem rx_c_X12_condition_lp {c g : Nat → Int32} {n : Nat} (hT : TB c n) (hG : TG c g n) (L : Nat → Int32) : ∀ (F : Nat) (v : Int32) (p : Nat), p ≤ n → n < p + F → CS n (-1) (tq_lp c n tq_or (tq_rp c n (tq_rp c n (tq_U c n 6) tq_am) tq_or) p) (fx_c_X12_condition_p7 0 (nI n) g L F v (nI p)).2.1 (fx_c_X12_condition_p7 0 (nI n) g L F v (nI p)).2.2.1 := by
  have hn := hT.2
  intro F
  induction F with
  | zero => intro v p h1 h2; omega
  | succ F ih =>
    intro v p h1 h2
    have g3 := tq_pk_ge (c := c) h1
    have g5 := tq_pk_le (c := c) h1
    rw [fs_c_X12_condition_p7, if_pos rfl]
    simp only [exc2, exc3, exc4, exl, fx_c_X12_condition_p7b, fx_c_X12_condition_p56d, fx_c_X12_condition_p51b, fx_c_X12_condition_p56b, fx_c_X12_condition_p56c, fx_c_X12_condition_p51, fx_c_X12_condition_p56]
    rw [rx_c_X12_look hT hG h1]
    simp only []
    by_cases h3 : tq_ch c n (tq_pk c n p) = -1
    · rw [if_pos h3, tq_lp_f (by rw [h3]; decide)]
      exact CS_t g5
    · have g4 := tq_ch_lt h3
      rw [if_neg h3]
      by_cases h4 : tq_ch c n (tq_pk c n p) = 124
      · rw [if_pos h4, tq_lp_t (by rw [h4]; decide), tq_rp_lp (tq_rp_PG (c := c) (n := n) (tq_U_PG (c := c) (n := n) 6) (A := tq_am) (by decide)) (by decide) (p := tq_pk c n p + 1) (by omega), nI_1]
        have hg := (tq_rp_PG (c := c) (n := n) (tq_U_PG (c := c) (n := n) 6) (A := tq_am) (by decide)) (tq_pk c n p + 1) (by omega)
        refine CS_seq hn (rx_c_X12_part_7 hT hG (p := tq_pk c n p + 1) (by omega) L) hg.1 (fun r hr eq1 eq2 z2 z3 => ?_) (fun z => ?_)
        · have hk : ∀ v : Int32, CS n (-1) (tq_lp c n tq_or (tq_rp c n (tq_rp c n (tq_U c n 6) tq_am) tq_or) r) (fx_c_X12_condition_p7 0 (nI n) g L F v (nI r)).2.1 (fx_c_X12_condition_p7 0 (nI n) g L F v (nI r)).2.2.1 := fun v => ih v r hr (by have := hg.2 z2; omega)
          rw [if_pos eq2, eq1]
          by_cases h5 : v = 0
          · rw [if_pos h5]
            by_cases h6 : (fx_c_X12_part_7 0 0 (nI n) (nI (tq_pk c n p + 1)) g L).1 = 0
            · rw [if_pos h6]
              exact hk _
            · rw [if_neg h6]
              exact hk _
          · rw [if_neg h5]
            exact hk _
        · rw [if_neg z]
          by_cases h5 : v = 0
          · rw [if_pos h5]
            by_cases h6 : (fx_c_X12_part_7 0 0 (nI n) (nI (tq_pk c n p + 1)) g L).1 = 0
            · rw [if_pos h6]
              rw [if_neg z]
              exact ⟨rfl, rfl⟩
            · rw [if_neg h6]
              rw [if_neg z]
              exact ⟨rfl, rfl⟩
          · rw [if_neg h5]
            rw [if_neg z]
            exact ⟨rfl, rfl⟩
      · rw [if_neg h4, tq_lp_f (tq_bf (fun z => h4 (of_decide_eq_true z)))]
        exact CS_t g5
def tq_partB (c : Nat → Int32) (n p : Nat) : Bool × Nat := tq_bind (tq_tail c n (tq_SM c n 6) p) (tq_lp c n tq_am (tq_rp c n (tq_U c n 6) tq_am))
theorem tq_partB_le {c : Nat → Int32} {n p : Nat} (hp : p ≤ n) : (tq_partB c n p).2 ≤ n := by
  have h1 := tq_tail_bd (c := c) (n := n) (sm := tq_SM c n 6) tq_SM_PG hp
  refine (tq_bind_le (p := p) h1.1 h1.2 (fun q hq _ => ?_)).1
  have g3 := tq_pk_ge (c := c) hq
  have g5 := tq_pk_le (c := c) hq
  by_cases h : tq_am (tq_ch c n (tq_pk c n q)) = true
  · have g4 := tq_A_lt (A := tq_am) (by decide) h
    rw [tq_lp_t h]
    have h1 := tq_rp_PG (c := c) (tq_U_PG (c := c) (n := n) 6) (A := tq_am) (by decide) (tq_pk c n q + 1) (by omega)
    exact ⟨h1.1, fun z => by have := h1.2 z; omega⟩
  · rw [tq_lp_f (tq_bf h)]
    exact ⟨g5, fun _ => g3⟩
/-- the two loops behind a comparison are one -/
theorem tq_condB_eq {c : Nat → Int32} {n p : Nat} (hp : p ≤ n) : tq_condB c n p = tq_bind (tq_partB c n p) (tq_lp c n tq_or (tq_rp c n (tq_rp c n (tq_U c n 6) tq_am) tq_or)) := by
  have h1 := tq_tail_bd (c := c) (n := n) (sm := tq_SM c n 6) tq_SM_PG hp
  unfold tq_condB tq_partB
  rw [tq_bind_bind]
  cases hb : tq_tail c n (tq_SM c n 6) p with
  | mk b q =>
    rw [hb] at h1
    cases b with
    | false => rfl
    | true =>
      have hq : q ≤ n := h1.1
      have g3 := tq_pk_ge (c := c) hq
      have g5 := tq_pk_le (c := c) hq
      have hpp := tq_pk_pk (c := c) hq
      show tq_lp c n tq_ao (tq_C c n 6) q = tq_bind (tq_lp c n tq_am (tq_rp c n (tq_U c n 6) tq_am) q) (tq_lp c n tq_or (tq_rp c n (tq_rp c n (tq_U c n 6) tq_am) tq_or))
      have hU := tq_U_PG (c := c) (n := n) 6
      have hn1 : ∀ r, r ≤ n → tq_C c n 6 r = tq_rp c n (tq_rp c n (tq_U c n 6) tq_am) tq_or r := fun r hr => (tq_nest hU (A := tq_am) (B := tq_or) (by decide) (by decide) hr).symm
      cases ha : tq_am (tq_ch c n (tq_pk c n q)) with
      | true =>
        have g4 := tq_A_lt (A := tq_am) (by decide) ha
        rw [tq_lp_t ha, tq_lp_t (by unfold tq_ao; rw [ha]; rfl), hn1 _ (by omega)]
        exact tq_rp_lp (tq_rp_PG hU (by decide)) (by decide) (by omega)
      | false =>
        rw [tq_lp_f ha]
        show tq_lp c n tq_ao (tq_C c n 6) q = tq_lp c n tq_or _ (tq_pk c n q)
        cases ho : tq_or (tq_ch c n (tq_pk c n q)) with
        | true =>
          have g4 := tq_A_lt (A := tq_or) (by decide) ho
          rw [tq_lp_t (by unfold tq_ao; rw [ha, ho]; rfl), tq_lp_t (by rw [hpp]; exact ho), hpp]
          exact hn1 _ (by omega)
        | false => rw [tq_lp_f (by unfold tq_ao; rw [ha, ho]; rfl), tq_lp_f (by rw [hpp]; exact ho), hpp]
theorem rx_c_X12_condition_o1 {c g : Nat → Int32} {n : Nat} (hT : TB c n) (hG : TG c g n) {p : Nat} (hp : p ≤ n) (v : Int32) (L : Nat → Int32) : CS n (-1) (tq_bind (tq_partB c n p) (tq_lp c n tq_or (tq_rp c n (tq_rp c n (tq_U c n 6) tq_am) tq_or))) (fx_c_X12_condition 1 v 0 (nI n) (nI p) g L).2.1 (fx_c_X12_condition 1 v 0 (nI n) (nI p) g L).2.2.1 := by
  have hn := hT.2
  simp only [fx_c_X12_condition, fx_c_X12_condition_p7b, exc3, exc4]
  refine CS_seq hn (rx_c_X12_part_o1 hT hG hp v L) (tq_partB_le hp) (fun r hr eq1 eq2 z2 z3 => ?_) (fun z => ?_)
  · rw [if_pos eq2, eq1]
    exact rx_c_X12_condition_lp hT hG L exF _ r hr (by have := hT.2; unfold exF; omega)
  · rw [if_neg z, if_neg z]
    exact ⟨rfl, rfl⟩
theorem rx_c_X12_condition_B {c g : Nat → Int32} {n : Nat} (hT : TB c n) (hG : TG c g n) {p : Nat} (hp : p ≤ n) (v : Int32) (L : Nat → Int32) : CS n (-1) (tq_condB c n p) (fx_c_X12_condition 1 v 0 (nI n) (nI p) g L).2.1 (fx_c_X12_condition 1 v 0 (nI n) (nI p) g L).2.2.1 := CS_e (rx_c_X12_condition_o1 hT hG hp v L) (tq_condB_eq hp)
