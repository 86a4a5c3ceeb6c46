theorem fs_c_X12_goThrough_p32 (p3 : Int32) (h1c : Nat → Int32) (h0_4c : Nat → Int32) (F : Nat) (j32_h0_f10 : Int32) (j32_h0_f14 : Int32) (j32_h0_f17 : Int32) : fx_c_X12_goThrough_p32 p3 h1c h0_4c (F + 1) j32_h0_f10 j32_h0_f14 j32_h0_f17 = ((if j32_h0_f10 = j32_h0_f10 then (exc2 (fx_c_X12_look 0 p3 j32_h0_f10 h1c) fun (r_26 : Int32) (x_27 : Int32) => (if r_26 = (-1) then (fx_c_X12_goThrough_p66 p3 h1c x_27) else (if r_26 = 59 then (exl (x_27 + 1) fun (x_45 : Int32) => (exc5 (fx_c_X12_clause 0 p3 x_45 121 j32_h0_f14 j32_h0_f17 h1c h0_4c) fun (x_49 : Int32) (x_50 : Int32) (x_51 : Int32) (x_52 : Int32) (x_53 : Int32) => (if x_50 = (-1) then ((fx_c_X12_goThrough_p32 p3 h1c h0_4c F) x_49 x_52 x_53) else (fx_c_X12_goThrough_p32b x_50)))) else (fx_c_X12_goThrough_p66 p3 h1c x_27)))) else default) : Int32) := rfl
theorem rx_c_X12_clause_p134 (f13 f14 f17 v y o : Int32) (a : Int32) : (fx_c_X12_clause_p134 f13 f14 f17 v y o a).1 = a ∧ (fx_c_X12_clause_p134 f13 f14 f17 v y o a).2.1 = -1 := by
  simp only [fx_c_X12_clause_p134]
  repeat (first | exact ⟨rfl, rfl⟩ | split)
theorem rx_c_X12_clause_p64 {c g : Nat → Int32} {n : Nat} (hT : TB c n) (hG : TG c g n) {q : Nat} (hq : q ≤ n) (o f14 f17 : Int32) (L : Nat → Int32) : CS n (-1) (tq_bind (tq_C c n 6 q) (tq_then c n)) (fx_c_X12_clause_p64 0 (nI n) 121 f14 f17 g L o (nI q)).1 (fx_c_X12_clause_p64 0 (nI n) 121 f14 f17 g L o (nI q)).2.1 := by
  have hn := hT.2
  simp only [fx_c_X12_clause_p64, exc1, exc3, exc4]
  refine CS_seq hn (rx_c_X12_condition_7_0 hT hG hq L) (tq_C_PG _ hq).1 (fun r hr eq3 eq4 _ _ => ?_) (fun z => ?_)
  · skip
    have k5 := tq_pk_le (c := c) hr
    rw [if_pos eq4, eq3, rx_c_X12_takes_4 hT hG hr (by decide)]
    unfold tq_then
    by_cases h5 : tq_ch c n (tq_pk c n r) = 63
    · have k4 := tq_ch_ne h5 (by decide)
      have ex : tq_ex c n 63 r = (true, tq_pk c n r + 1) := by unfold tq_ex; rw [if_pos h5]
      rw [ex, if_pos h5]
      show CS n (-1) (tq_SM c n 6 (tq_pk c n r + 1)) _ _
      rw [if_pos rfl]
      have h6 := rx_c_X12_sum hT hG (p := tq_pk c n r + 1) (by omega) L
      by_cases h7 : (fx_c_X12_sum 0 (nI n) (nI (tq_pk c n r + 1)) g L).2.2.1 = -1
      · rw [if_pos h7, (rx_c_X12_clause_p134 _ _ _ _ _ _ _).1, (rx_c_X12_clause_p134 _ _ _ _ _ _ _).2]
        rw [h7] at h6
        exact h6
      · rw [if_neg h7]
        simp only [fx_c_X12_clause_p134b]
        rw [if_neg h7]
        exact h6
    · have ex : tq_ex c n 63 r = (false, tq_pk c n r) := by unfold tq_ex; rw [if_neg h5]
      rw [ex, if_neg h5, if_neg (show ¬ (0 : Int32) = 1 by decide)]
      exact CS_f k5
  · rw [if_neg z]
    exact ⟨rfl, rfl⟩
theorem rx_c_X12_clause_sum {c g : Nat → Int32} {n : Nat} (hT : TB c n) (hG : TG c g n) {q : Nat} (hq : q ≤ n) (o f14 f17 : Int32) (L : Nat → Int32) : CS n (-1) (tq_bind (tq_SM c n 6 q) (fun t => if tq_cmp (tq_ch c n (tq_pk c n t)) then tq_bind (tq_condB c n (tq_pk c n t)) (tq_then c n) else (true, tq_pk c n t))) (exc4 (fx_c_X12_sum 0 (nI n) (nI q) g L) fun (r_134 : Int32) (x_135 : Int32) (x_136 : Int32) (x_137 : Int32) => (if x_136 = (-1) then (exc2 (fx_c_X12_look 0 (nI n) x_135 g) fun (r_152 : Int32) (x_153 : Int32) => (if r_152 = (-1) then (exc1 (fx_c_X12_isSign (-1)) fun (r_167 : Int32) => (fx_c_X12_clause_p134 121 f14 f17 r_134 1 o x_153)) else (exc1 (fx_c_X12_isSign_1 r_152) fun (r_172 : Int32) => (if r_172 = 0 then (fx_c_X12_clause_p134 121 f14 f17 r_134 1 o x_153) else (exc4 (fx_c_X12_condition 1 r_134 0 (nI n) x_153 g L) fun (r_180 : Int32) (x_181 : Int32) (x_182 : Int32) (x_183 : Int32) => (if x_182 = (-1) then (exc3 (fx_c_X12_takes_4 63 0 (nI n) x_181 g) fun (r_197 : Int32) (x_198 : Int32) (x_199 : Int32) => (if r_197 = 1 then (exc4 (fx_c_X12_sum 0 (nI n) x_198 g L) fun (r_212 : Int32) (x_213 : Int32) (x_214 : Int32) (x_215 : Int32) => (if x_214 = (-1) then (fx_c_X12_clause_p134 121 f14 f17 r_212 r_180 o x_213) else (fx_c_X12_clause_p134b f14 f17 x_213 x_214 x_215))) else (x_198, x_199, 0, f14, f17))) else (exc1 (fx_c_X12_takes_5 x_182) fun (r_230 : Int32) => (x_181, x_182, x_183, f14, f17)))))))) else (if x_136 = (-1) then (default) else (fx_c_X12_clause_p134b f14 f17 x_135 x_136 x_137)))).1 (exc4 (fx_c_X12_sum 0 (nI n) (nI q) g L) fun (r_134 : Int32) (x_135 : Int32) (x_136 : Int32) (x_137 : Int32) => (if x_136 = (-1) then (exc2 (fx_c_X12_look 0 (nI n) x_135 g) fun (r_152 : Int32) (x_153 : Int32) => (if r_152 = (-1) then (exc1 (fx_c_X12_isSign (-1)) fun (r_167 : Int32) => (fx_c_X12_clause_p134 121 f14 f17 r_134 1 o x_153)) else (exc1 (fx_c_X12_isSign_1 r_152) fun (r_172 : Int32) => (if r_172 = 0 then (fx_c_X12_clause_p134 121 f14 f17 r_134 1 o x_153) else (exc4 (fx_c_X12_condition 1 r_134 0 (nI n) x_153 g L) fun (r_180 : Int32) (x_181 : Int32) (x_182 : Int32) (x_183 : Int32) => (if x_182 = (-1) then (exc3 (fx_c_X12_takes_4 63 0 (nI n) x_181 g) fun (r_197 : Int32) (x_198 : Int32) (x_199 : Int32) => (if r_197 = 1 then (exc4 (fx_c_X12_sum 0 (nI n) x_198 g L) fun (r_212 : Int32) (x_213 : Int32) (x_214 : Int32) (x_215 : Int32) => (if x_214 = (-1) then (fx_c_X12_clause_p134 121 f14 f17 r_212 r_180 o x_213) else (fx_c_X12_clause_p134b f14 f17 x_213 x_214 x_215))) else (x_198, x_199, 0, f14, f17))) else (exc1 (fx_c_X12_takes_5 x_182) fun (r_230 : Int32) => (x_181, x_182, x_183, f14, f17)))))))) else (if x_136 = (-1) then (default) else (fx_c_X12_clause_p134b f14 f17 x_135 x_136 x_137)))).2.1 := by
  have hn := hT.2
  simp only [exc1, exc2, exc3, exc4, exl]
  refine CS_seq hn (rx_c_X12_sum hT hG hq L) (tq_SM_PG _ hq).1 (fun t ht eq1 eq2 _ _ => ?_) (fun z => ?_)
  · have g5 := tq_pk_le (c := c) ht
    rw [if_pos eq2, eq1, rx_c_X12_look hT hG ht]
    simp only []
    by_cases h1 : tq_ch c n (tq_pk c n t) = -1
    · rw [if_neg (by rw [h1]; decide), if_pos h1, (rx_c_X12_clause_p134 _ _ _ _ _ _ _).1, (rx_c_X12_clause_p134 _ _ _ _ _ _ _).2]
      exact CS_t g5
    · rw [if_neg h1, rx_ss]
      by_cases h2 : tq_cmp (tq_ch c n (tq_pk c n t)) = true
      · rw [if_pos h2, if_pos h2, if_neg (by decide)]
        refine CS_seq hn (rx_c_X12_condition_B hT hG g5 (fx_c_X12_sum 0 (nI n) (nI q) g L).1 L) (tq_condB_bd g5).1 (fun r hr eq3 eq4 _ _ => ?_) (fun z => ?_)
        · skip
          have k5 := tq_pk_le (c := c) hr
          rw [if_pos eq4, eq3, rx_c_X12_takes_4 hT hG hr (by decide)]
          unfold tq_then
          by_cases h5 : tq_ch c n (tq_pk c n r) = 63
          · have k4 := tq_ch_ne h5 (by decide)
            have ex : tq_ex c n 63 r = (true, tq_pk c n r + 1) := by unfold tq_ex; rw [if_pos h5]
            rw [ex, if_pos h5]
            show CS n (-1) (tq_SM c n 6 (tq_pk c n r + 1)) _ _
            rw [if_pos rfl]
            have h6 := rx_c_X12_sum hT hG (p := tq_pk c n r + 1) (by omega) L
            by_cases h7 : (fx_c_X12_sum 0 (nI n) (nI (tq_pk c n r + 1)) g L).2.2.1 = -1
            · rw [if_pos h7, (rx_c_X12_clause_p134 _ _ _ _ _ _ _).1, (rx_c_X12_clause_p134 _ _ _ _ _ _ _).2]
              rw [h7] at h6
              exact h6
            · rw [if_neg h7]
              simp only [fx_c_X12_clause_p134b]
              rw [if_neg h7]
              exact h6
          · have ex : tq_ex c n 63 r = (false, tq_pk c n r) := by unfold tq_ex; rw [if_neg h5]
            rw [ex, if_neg h5, if_neg (show ¬ (0 : Int32) = 1 by decide)]
            exact CS_f k5
        · rw [if_neg z]
          exact ⟨rfl, rfl⟩
      · rw [if_neg h2, if_neg h2, if_pos rfl, (rx_c_X12_clause_p134 _ _ _ _ _ _ _).1, (rx_c_X12_clause_p134 _ _ _ _ _ _ _).2]
        exact CS_t g5
  · rw [if_neg z, if_neg z]
    simp only [fx_c_X12_clause_p134b]
    rw [if_neg z]
    exact ⟨rfl, rfl⟩
theorem rx_ia : ∀ j, j < 256 → fx_c_X12_isAmong_1 (nI j) = if nI j = 121 then 1 else 0 := by decide +kernel
theorem rx_c_X12_clause {c g : Nat → Int32} {n : Nat} (hT : TB c n) (hG : TG c g n) {p : Nat} (hp : p ≤ n) (f14 f17 : Int32) (L : Nat → Int32) : CS n (-1) (tq_clause c n p) (fx_c_X12_clause 0 (nI n) (nI p) 121 f14 f17 g L).1 (fx_c_X12_clause 0 (nI n) (nI p) 121 f14 f17 g L).2.1 := by
  have hn := hT.2
  have g5 := tq_pk_le (c := c) hp
  unfold tq_clause fx_c_X12_clause
  rw [rx_c_X12_look hT hG hp]
  by_cases h1 : tq_ch c n (tq_pk c n p) = -1
  · have ex : tq_ex c n 121 p = (false, tq_pk c n p) := by unfold tq_ex; rw [if_neg (by rw [h1]; decide)]
    rw [ex]
    simp only [exc2, exc1]
    rw [if_pos h1]
    exact CS_f g5
  · obtain ⟨j, hj, ej⟩ := RG_nI (tq_ch_RG0 hT h1) (by decide)
    have hia := rx_ia j hj
    rw [← ej] at hia
    by_cases h2 : tq_ch c n (tq_pk c n p) = 121
    · have g4 := tq_ch_ne h2 (by decide)
      have ex : tq_ex c n 121 p = (true, tq_pk c n p + 1) := by unfold tq_ex; rw [if_pos h2]
      rw [if_pos h2] at hia
      have hs : ∀ (q : Nat), q ≤ n → _ := fun q hq => rx_c_X12_clause_sum hT hG (q := q) hq (tq_ch c n (tq_pk c n p)) f14 f17 L
      simp only [exc2, exc1, exl, exc3] at hs
      simp only [exc2, exc1, exl, exc3]
      rw [ex, if_neg h1, hia, if_neg (by decide), nI_1, rx_c_X12_takes hT hG (p := tq_pk c n p + 1) (by omega) (by decide)]
      show CS n (-1) (tq_bind (tq_ex c n 58 (tq_pk c n p + 1)) (tq_body c n)) _ _
      have k5 := tq_pk_le (c := c) (n := n) (p := tq_pk c n p + 1) (by omega)
      by_cases h3 : tq_ch c n (tq_pk c n (tq_pk c n p + 1)) = 58
      · have k4 := tq_ch_ne h3 (by decide)
        have ex2 : tq_ex c n 58 (tq_pk c n p + 1) = (true, tq_pk c n (tq_pk c n p + 1) + 1) := by unfold tq_ex; rw [if_pos h3]
        obtain ⟨r, hr⟩ : ∃ r, r = tq_pk c n (tq_pk c n p + 1) + 1 := ⟨_, rfl⟩
        have hrn : r ≤ n := by omega
        rw [ex2, if_pos h3, ← hr]
        show CS n (-1) (tq_body c n r) _ _
        rw [if_pos rfl, rx_c_X12_look hT hG hrn]
        simp only []
        have m5 := tq_pk_le (c := c) hrn
        by_cases h4 : tq_ch c n (tq_pk c n r) = -1
        · rw [if_pos h4]
          refine CS_e (hs _ m5) ?_
          unfold tq_body
          rw [if_neg (by rw [h4]; decide)]
        · rw [if_neg h4]
          by_cases h6 : tq_ch c n (tq_pk c n r) = 33
          · rw [if_pos h6]
            refine CS_e (rx_c_X12_clause_p64 hT hG m5 (tq_ch c n (tq_pk c n p)) f14 f17 L) ?_
            unfold tq_body
            rw [if_pos (Or.inl h6)]
          · rw [if_neg h6]
            by_cases h7 : tq_ch c n (tq_pk c n r) = 40
            · rw [if_pos h7]
              refine CS_e (rx_c_X12_clause_p64 hT hG m5 (tq_ch c n (tq_pk c n p)) f14 f17 L) ?_
              unfold tq_body
              rw [if_pos (Or.inr h7)]
            · rw [if_neg h7]
              refine CS_e (hs _ m5) ?_
              unfold tq_body
              rw [if_neg (fun z => by rcases z with z | z <;> contradiction)]
      · have ex2 : tq_ex c n 58 (tq_pk c n p + 1) = (false, tq_pk c n (tq_pk c n p + 1)) := by unfold tq_ex; rw [if_neg h3]
        rw [ex2, if_neg h3, if_neg (show ¬ (0 : Int32) = 1 by decide)]
        exact CS_f k5
    · have ex : tq_ex c n 121 p = (false, tq_pk c n p) := by unfold tq_ex; rw [if_neg h2]
      rw [if_neg h2] at hia
      simp only [exc2, exc1]
      rw [ex, if_neg h1, hia, if_pos rfl]
      exact CS_f g5
theorem fin_bind {n : Nat} {s1 : Bool × Nat} {f : Nat → Bool × Nat} {a f1 : Int32} (hn : n ≤ 240) (h1 : CS n (-1) s1 a f1) (hs : s1.2 ≤ n) : (f1 = -1 → s1.1 = true ∧ a = nI s1.2 ∧ tq_bind s1 f = f s1.2) ∧ (¬ f1 = -1 → tq_fin (tq_bind s1 f) = f1) := by
  obtain ⟨_, _, c1, d1⟩ := h1
  cases hb : s1.1 with
  | true =>
    obtain ⟨e2, e3⟩ := c1 rfl hb
    exact ⟨fun _ => ⟨rfl, e2, tq_bind_t hb⟩, fun k => absurd e3 k⟩
  | false =>
    have e2 := d1 rfl hb
    refine ⟨fun k => ?_, fun _ => ?_⟩
    · rw [e2] at k
      exact absurd k (nI_m1 (by omega))
    · rw [tq_bind_f hb, e2]
      rfl
theorem rx_c_X12_goThrough_p32 {c g : Nat → Int32} {n : Nat} (hT : TB c n) (hG : TG c g n) (L : Nat → Int32) : ∀ (F p : Nat) (x y : Int32), p ≤ n → n < p + F → fx_c_X12_goThrough_p32 (nI n) g L F (nI p) x y = tq_fin (tq_bind (tq_lp c n tq_sc (tq_laws c n) p) (tq_end c n)) := by
  have hn := hT.2
  intro F
  induction F with
  | zero => intro p x y h1 h2; omega
  | succ F ih =>
    intro p x y h1 h2
    have g3 := tq_pk_ge (c := c) h1
    have g5 := tq_pk_le (c := c) h1
    have hpp := tq_pk_pk (c := c) h1
    rw [fs_c_X12_goThrough_p32, if_pos rfl]
    simp only [exc2, exc5, exl, exc1, fx_c_X12_goThrough_p66]
    rw [rx_c_X12_look hT hG h1]
    simp only []
    rw [rx_c_X12_look hT hG g5, hpp]
    simp only []
    by_cases h3 : tq_ch c n (tq_pk c n p) = -1
    · rw [if_pos h3, if_pos h3, tq_lp_f (by rw [h3]; decide)]
      show _ = tq_fin (tq_end c n (tq_pk c n p))
      unfold tq_end
      rw [hpp, if_pos h3]
      rfl
    · rw [if_neg h3, if_neg h3, if_neg h3]
      by_cases h4 : tq_ch c n (tq_pk c n p) = 59
      · have g4 := tq_ch_ne h4 (by decide)
        rw [if_pos h4, tq_lp_t (by rw [h4]; decide), tq_laws_eq (by omega), tq_bind_bind, nI_1]
        have hc := tq_clause_PG (c := c) (n := n) (tq_pk c n p + 1) (by omega)
        have hb := fin_bind (f := fun q => tq_bind (tq_lp c n tq_sc (tq_laws c n) q) (tq_end c n)) hn (rx_c_X12_clause hT hG (p := tq_pk c n p + 1) (by omega) x y L) hc.1
        by_cases h5 : (fx_c_X12_clause 0 (nI n) (nI (tq_pk c n p + 1)) 121 x y g L).2.1 = -1
        · obtain ⟨k1, k2, k3⟩ := hb.1 h5
          rw [if_pos h5, k2, k3]
          exact ih _ _ _ hc.1 (by have := hc.2 k1; omega)
        · rw [if_neg h5, hb.2 h5]
          simp only [fx_c_X12_goThrough_p32b, fx_c_X12_goThrough_p66b]
          rw [if_neg h5, if_neg h5]
      · rw [if_neg h4, tq_lp_f (tq_bf (fun z => h4 (of_decide_eq_true z)))]
        show _ = tq_fin (tq_end c n (tq_pk c n p))
        unfold tq_end
        rw [hpp, if_neg h3]
        rfl
/-- what the other reader answers of a LAW -/
theorem rx_c_X12_goThrough {c g : Nat → Int32} {n : Nat} (hT : TB c n) (hG : TG c g n) (L : Nat → Int32) : fx_c_X12_goThrough (nI n) g L = tq_fin (tq_law c n) := by
  have hn := hT.2
  have e : tq_law c n = tq_bind (tq_clause c n 0) (fun q => tq_bind (tq_lp c n tq_sc (tq_laws c n) q) (tq_end c n)) := by
    show tq_bind (tq_laws c n 0) (tq_end c n) = _
    rw [tq_laws_eq (Nat.zero_le _), tq_bind_bind]
  rw [e]
  have hc := tq_clause_PG (c := c) (n := n) 0 (Nat.zero_le _)
  have hb := fin_bind (f := fun q => tq_bind (tq_lp c n tq_sc (tq_laws c n) q) (tq_end c n)) hn (rx_c_X12_clause hT hG (p := 0) (Nat.zero_le _) 0 0 L) hc.1
  simp only [fx_c_X12_goThrough, exc5]
  rw [nI_0] at hb
  by_cases h5 : (fx_c_X12_clause 0 (nI n) 0 121 0 0 g L).2.1 = -1
  · obtain ⟨k1, k2, k3⟩ := hb.1 h5
    rw [if_pos h5, k2, k3]
    exact rx_c_X12_goThrough_p32 hT hG L exF _ _ _ hc.1 (by have := hT.2; unfold exF; omega)
  · rw [if_neg h5, hb.2 h5]
    simp only [fx_c_X12_goThrough_p32b, fx_c_X12_goThrough_p66b]
    rw [if_neg h5, if_neg h5]
/-- the two readers answer alike of a LAW -/
theorem px_law_alike {c g : Nat → Int32} {n : Nat} (hT : TB c n) (hG : TG c g n) (C L : Nat → Int32) : (fx_c_X4_faultOf (nI n) c C).1 = fx_c_X12_goThrough (nI n) g L := by rw [px_c_X4_faultOf hT C, rx_c_X12_goThrough hT hG L]
