theorem px_clamp {p : Nat} (h : p ≤ 1000) : (nI p).toNatClampNeg = p := nI_clamp (by omega)
theorem px_lt (a b : Nat) (ha : a ≤ 1000) (hb : b ≤ 1000) : (nI a ≤ nI b) = (a ≤ b) := propext (nI_leI (by omega) (by omega))
/-- what a reader leaves: the place, what is wrong -/
def CS (n : Nat) (w : Int32) (sp : Bool × Nat) (a w' : Int32) : Prop := (∃ q, q ≤ n ∧ a = nI q) ∧ (¬ w = -1 → w' = w) ∧ (w = -1 → sp.1 = true → a = nI sp.2 ∧ w' = -1) ∧ (w = -1 → sp.1 = false → w' = nI sp.2)
theorem CS_bind {n : Nat} {w : Int32} {s1 : Bool × Nat} {f : Nat → Bool × Nat} {a1 w1 a2 w2 : Int32} (hn : n ≤ 240) (h1 : CS n w s1 a1 w1) (hs : s1.2 ≤ n) (h2 : ∀ q, q ≤ n → a1 = nI q → (w1 = -1 → w = -1 ∧ s1.1 = true ∧ q = s1.2) → CS n w1 (f q) a2 w2) : CS n w (tq_bind s1 f) a2 w2 := by
  obtain ⟨⟨q1, hq1, e1⟩, b1, c1, d1⟩ := h1
  have hk : w1 = -1 → w = -1 ∧ s1.1 = true ∧ q1 = s1.2 := fun z => by
    by_cases hw : w = -1
    · cases hb : s1.1 with
      | false =>
        have h4 := d1 hw hb
        rw [z] at h4
        exact absurd h4.symm (nI_m1 (by omega))
      | true =>
        have h4 := (c1 hw hb).1
        rw [e1] at h4
        exact ⟨hw, rfl, (nI_eq (by omega) (by omega)).mp h4⟩
    · rw [b1 hw] at z
      exact absurd z hw
  have h3 := h2 q1 hq1 e1 hk
  obtain ⟨b, s⟩ := s1
  cases b with
  | false =>
    refine ⟨h3.1, fun k => ?_, fun k z => ?_, fun k z => ?_⟩
    · rw [h3.2.1 (by rw [b1 k]; exact k), b1 k]
    · have z : false = true := z
      cases z
    · have h4 : w1 = nI s := d1 k rfl
      have hs : s ≤ n := hs
      have h5 : ¬ w1 = -1 := by rw [h4]; exact nI_m1 (by omega)
      show w2 = nI s
      rw [h3.2.1 h5, h4]
  | true =>
    by_cases hw : w = -1
    · obtain ⟨e2, e3⟩ := c1 hw rfl
      obtain ⟨_, _, e4⟩ := hk e3
      have e4 : q1 = s := e4
      subst e4
      exact ⟨h3.1, fun k => absurd hw k, fun _ z => h3.2.2.1 e3 z, fun _ z => h3.2.2.2 e3 z⟩
    · exact ⟨h3.1, fun k => by rw [h3.2.1 (by rw [b1 hw]; exact hw), b1 hw], fun k => absurd k hw, fun k => absurd k hw⟩
theorem CS_dead {n : Nat} {w : Int32} {sp : Bool × Nat} {a : Int32} {q : Nat} (hw : ¬ w = -1) (hq : q ≤ n) (e : a = nI q) : CS n w sp a w := ⟨⟨q, hq, e⟩, fun _ => rfl, fun k => absurd k hw, fun k => absurd k hw⟩
theorem CS_ok {n q : Nat} {w : Int32} (hq : q ≤ n) : CS n w (true, q) (nI q) w := ⟨⟨q, hq, rfl⟩, fun _ => rfl, fun k _ => ⟨rfl, k⟩, fun _ z => tq_tf z⟩
theorem CS_no {n q r : Nat} {w : Int32} (hq : q ≤ n) : CS n w (false, r) (nI q) (if w = -1 then nI r else w) := ⟨⟨q, hq, rfl⟩, fun k => if_neg k, fun _ z => tq_ft z, fun k _ => if_pos k⟩
theorem CS_okp {n : Nat} {s : Bool × Nat} {w : Int32} (h : s.1 = true) (hq : s.2 ≤ n) : CS n w s (nI s.2) w := ⟨⟨s.2, hq, rfl⟩, fun _ => rfl, fun k _ => ⟨rfl, k⟩, fun _ z => by rw [h] at z; cases z⟩
theorem CS_nop {n : Nat} {s : Bool × Nat} (h : s.1 = false) (hq : s.2 ≤ n) : CS n (-1) s (nI s.2) (nI s.2) := ⟨⟨s.2, hq, rfl⟩, fun k => absurd rfl k, fun _ z => (by rw [h] at z; cases z), fun _ _ => rfl⟩
theorem CS_e {n : Nat} {w : Int32} {s1 s2 : Bool × Nat} {a w' : Int32} (h : CS n w s1 a w') (e : s2 = s1) : CS n w s2 a w' := by rw [e]; exact h
/-- without what is wrong the specification may be taken as it likes -/
theorem CS_any {n : Nat} {w : Int32} {s1 s2 : Bool × Nat} {a w' : Int32} (hw : ¬ w = -1) (h : CS n w s1 a w') : CS n w s2 a w' := ⟨h.1, h.2.1, fun k => absurd k hw, fun k => absurd k hw⟩
/-- the three tests of a digit are one -/
theorem px_dgif {c : Nat → Int32} {n : Nat} (hT : TB c n) {q : Nat} (hq : q ≤ 1000) {α : Type} (x y : α) : (if nI n ≤ nI q then x else if c q < 48 then x else if 57 < c q then x else y) = if tq_dg (tq_ch c n q) then y else x := by
  have hn := hT.2
  by_cases h : n ≤ q
  · rw [if_pos (nI_le h (by omega)), tq_ch_m1 h, if_neg (by decide)]
  · have h : q < n := by omega
    rw [if_neg (nI_ge h (by omega)), tq_ch_in h]
    by_cases h1 : c q < 48
    · have k : ¬ tq_dg (c q) = true := fun z => by
        have z := (Bool.and_eq_true _ _).mp z
        exact absurd (of_decide_eq_true z.1) (Int32.not_le.mpr h1)
      rw [if_pos h1, if_neg k]
    · rw [if_neg h1]
      by_cases h2 : 57 < c q
      · have k : ¬ tq_dg (c q) = true := fun z => by
          have z := (Bool.and_eq_true _ _).mp z
          exact absurd (of_decide_eq_true z.2) (Int32.not_le.mpr h2)
        rw [if_pos h2, if_neg k]
      · have k : tq_dg (c q) = true := (Bool.and_eq_true _ _).mpr ⟨decide_eq_true (Int32.not_lt.mp h1), decide_eq_true (Int32.not_lt.mp h2)⟩
        rw [if_neg h2, if_pos k]
theorem tq_dg_RG {x : Int32} (h : tq_dg x = true) : RG x 48 57 := by
  have z := (Bool.and_eq_true _ _).mp h
  have h1 := Int32.le_iff_toInt_le.mp (of_decide_eq_true z.1)
  have h2 := Int32.le_iff_toInt_le.mp (of_decide_eq_true z.2)
  exact ⟨h1, h2⟩
theorem px_v0 {x : Int32} (h : tq_dg x = true) : RG (0 + x - 48) 0 9 := RG_sub (x := 0 + x) (y := 48) rfl (RG_add (x := 0) (y := x) rfl (RG_k 0 0 rfl) (tq_dg_RG h) (lo := 48) (hi := 57) (by decide)) (RG_k 48 48 rfl) (by decide)
theorem px_v1 {v x : Int32} {M N : Int} (hv : RG v 0 M) (h : tq_dg x = true) (k : 0 ≤ M ∧ M ≤ 99999 ∧ N = 10 * M + 9) : RG (v * 10 + x - 48) 0 N := by
  have h1 : RG (v * 10) 0 (10 * M) := RG_mulc (y := 10) (q := 10) rfl rfl hv (by omega)
  have h2 : RG (v * 10 + x) 48 (10 * M + 57) := RG_add rfl h1 (tq_dg_RG h) (by omega)
  exact RG_sub (x := v * 10 + x) (y := 48) rfl h2 (RG_k 48 48 rfl) (by omega)
theorem RG_m1 {x : Int32} {M : Int} (h : RG x 0 M) : ¬ x = -1 := fun e => by
  have h1 := h.1
  rw [e] at h1
  exact absurd h1 (by decide)
theorem RG_nI {x : Int32} {M : Int} (h : RG x 0 M) (k : M ≤ 255) : ∃ j : Nat, j < 256 ∧ x = nI j := by
  obtain ⟨j, hj, e⟩ := nI_of (x := x) (fun q => by have := Int32.lt_iff_toInt_lt.mp q; rw [Int32.toInt_zero] at this; have := h.1; omega)
  refine ⟨j, ?_, e⟩
  have h2 := h.2
  rw [e, nI_toInt hj] at h2
  omega

theorem px_c_X9_peek_0 {c : Nat → Int32} {n : Nat} (hn : n ≤ 240) : ∀ F p, p ≤ n → n < p + F → fx_c_X9_peek_p0 (nI n) c F (nI p) = (tq_ch c n (tq_pk c n p), nI (tq_pk c n p)) := by
  intro F
  induction F with
  | zero => intro p h1 h2; omega
  | succ F ih =>
    intro p h1 h2
    have e0 : fx_c_X9_peek_p0 (nI n) c (F + 1) (nI p) = if nI p = nI p then (if nI n ≤ nI p then fx_c_X9_peek_p38 (nI n) c (nI p) else (if c (nI p).toNatClampNeg = 32 then fx_c_X9_peek_p0 (nI n) c F (nI p + 1) else fx_c_X9_peek_p38 (nI n) c (nI p))) else default := rfl
    have e1 : fx_c_X9_peek_p38 (nI n) c (nI p) = if nI n ≤ nI p then (-1, nI p) else (c (nI p).toNatClampNeg, nI p) := rfl
    rw [e0, if_pos rfl, e1, px_clamp (p := p) (by omega), nI_1]
    by_cases h : p < n
    · have hle := nI_ge h (by omega)
      rw [if_neg hle, if_neg hle]
      by_cases g : c p = 32
      · rw [if_pos g, ih (p + 1) (by omega) (by omega), tq_pk_eq c n p, if_pos ⟨h, g⟩]
      · rw [if_neg g, tq_pk_eq c n p, if_neg (fun q => g q.2), tq_ch_in h]
    · have hle : nI n ≤ nI p := nI_le (by omega) (by omega)
      rw [if_pos hle, if_pos hle, tq_pk_eq c n p, if_neg (fun q => h q.1), tq_ch_m1 (by omega)]
theorem px_c_X9_peek {c : Nat → Int32} {n p : Nat} (hT : TB c n) (hp : p ≤ n) : fx_c_X9_peek (nI n) (nI p) c = (tq_ch c n (tq_pk c n p), nI (tq_pk c n p)) := px_c_X9_peek_0 hT.2 exF p hp (by have := hT.2; unfold exF; omega)


theorem px_c_X9_take {c : Nat → Int32} {n p : Nat} (hT : TB c n) (hp : p ≤ n) {x w : Int32} (hx : ¬ x = -1) : fx_c_X9_take x (nI n) (nI p) w c = if w = -1 then (if tq_ch c n (tq_pk c n p) = x then (1, nI (tq_pk c n p + 1)) else (0, nI (tq_pk c n p))) else (0, nI p) := by
  have h2 : ¬ (-1 : Int32) = x := fun e => hx e.symm
  by_cases hw : w = -1
  · by_cases h1 : tq_ch c n (tq_pk c n p) = -1
    · simp [fx_c_X9_take, exc1, exc2, exl, px_c_X9_peek hT hp, hw, h1, h2]
    · by_cases h3 : tq_ch c n (tq_pk c n p) = x
      · simp [fx_c_X9_take, exc1, exc2, exl, px_c_X9_peek hT hp, hw, h3, hx, nI_1]
      · simp [fx_c_X9_take, exc1, exc2, exl, px_c_X9_peek hT hp, hw, h1, h3]
  · simp [fx_c_X9_take, hw]


theorem px_c_X9_take_1 {c : Nat → Int32} {n p : Nat} (hT : TB c n) (hp : p ≤ n) {x w : Int32} (hx : ¬ x = -1) : fx_c_X9_take_1 x (nI n) (nI p) w c = if w = -1 then (if tq_ch c n (tq_pk c n p) = x then (1, nI (tq_pk c n p + 1)) else (0, nI (tq_pk c n p))) else (0, nI p) := by
  have h2 : ¬ (-1 : Int32) = x := fun e => hx e.symm
  by_cases hw : w = -1
  · by_cases h1 : tq_ch c n (tq_pk c n p) = -1
    · simp [fx_c_X9_take_1, exc1, exc2, exl, px_c_X9_peek hT hp, hw, h1, h2]
    · by_cases h3 : tq_ch c n (tq_pk c n p) = x
      · simp [fx_c_X9_take_1, exc1, exc2, exl, px_c_X9_peek hT hp, hw, h3, hx, nI_1]
      · simp [fx_c_X9_take_1, exc1, exc2, exl, px_c_X9_peek hT hp, hw, h1, h3]
  · simp [fx_c_X9_take_1, hw]


theorem px_c_X9_expect {c : Nat → Int32} {n p : Nat} (hT : TB c n) (hp : p ≤ n) {x w : Int32} (hx : ¬ x = -1) : CS n w (tq_ex c n x p) (fx_c_X9_expect x (nI n) (nI p) w c).1 (fx_c_X9_expect x (nI n) (nI p) w c).2 := by
  have h2 : ¬ (-1 : Int32) = x := fun e => hx e.symm
  have g5 := tq_pk_le (c := c) hp
  by_cases hw : w = -1
  · by_cases h1 : tq_ch c n (tq_pk c n p) = -1
    · have e : fx_c_X9_expect x (nI n) (nI p) w c = (nI (tq_pk c n p), if w = -1 then nI (tq_pk c n p) else w) := by simp [fx_c_X9_expect, fx_c_X9_expect_p29, fx_c_X9_refuse, exc1, exc2, exl, px_c_X9_peek hT hp, hw, h1, h2]
      rw [e]
      exact CS_e (CS_no g5) (by unfold tq_ex; rw [if_neg (by rw [h1]; exact h2)])
    · by_cases h3 : tq_ch c n (tq_pk c n p) = x
      · have e : fx_c_X9_expect x (nI n) (nI p) w c = (nI (tq_pk c n p + 1), w) := by simp [fx_c_X9_expect, fx_c_X9_expect_p29, fx_c_X9_refuse, exc1, exc2, exl, px_c_X9_peek hT hp, hw, h3, hx, nI_1]
        have g4 := tq_ch_ne h3 hx
        rw [e]
        exact CS_e (CS_ok (by omega)) (by unfold tq_ex; rw [if_pos h3])
      · have e : fx_c_X9_expect x (nI n) (nI p) w c = (nI (tq_pk c n p), if w = -1 then nI (tq_pk c n p) else w) := by simp [fx_c_X9_expect, fx_c_X9_expect_p29, fx_c_X9_refuse, exc1, exc2, exl, px_c_X9_peek hT hp, hw, h1, h3]
        rw [e]
        exact CS_e (CS_no g5) (by unfold tq_ex; rw [if_neg h3])
  · have e : fx_c_X9_expect x (nI n) (nI p) w c = (nI p, w) := by simp [fx_c_X9_expect, fx_c_X9_expect_p29, fx_c_X9_refuse, exc1, exc2, exl, hw]
    rw [e]
    exact CS_dead hw hp rfl


theorem px_c_X9_expect_1 {c : Nat → Int32} {n p : Nat} (hT : TB c n) (hp : p ≤ n) {x w : Int32} (hx : ¬ x = -1) : CS n w (tq_ex c n x p) (fx_c_X9_expect_1 x (nI n) (nI p) w c).1 (fx_c_X9_expect_1 x (nI n) (nI p) w c).2 := by
  have h2 : ¬ (-1 : Int32) = x := fun e => hx e.symm
  have g5 := tq_pk_le (c := c) hp
  by_cases hw : w = -1
  · by_cases h1 : tq_ch c n (tq_pk c n p) = -1
    · have e : fx_c_X9_expect_1 x (nI n) (nI p) w c = (nI (tq_pk c n p), if w = -1 then nI (tq_pk c n p) else w) := by simp [fx_c_X9_expect_1, fx_c_X9_expect_1_p29, fx_c_X9_refuse, exc1, exc2, exl, px_c_X9_peek hT hp, hw, h1, h2]
      rw [e]
      exact CS_e (CS_no g5) (by unfold tq_ex; rw [if_neg (by rw [h1]; exact h2)])
    · by_cases h3 : tq_ch c n (tq_pk c n p) = x
      · have e : fx_c_X9_expect_1 x (nI n) (nI p) w c = (nI (tq_pk c n p + 1), w) := by simp [fx_c_X9_expect_1, fx_c_X9_expect_1_p29, fx_c_X9_refuse, exc1, exc2, exl, px_c_X9_peek hT hp, hw, h3, hx, nI_1]
        have g4 := tq_ch_ne h3 hx
        rw [e]
        exact CS_e (CS_ok (by omega)) (by unfold tq_ex; rw [if_pos h3])
      · have e : fx_c_X9_expect_1 x (nI n) (nI p) w c = (nI (tq_pk c n p), if w = -1 then nI (tq_pk c n p) else w) := by simp [fx_c_X9_expect_1, fx_c_X9_expect_1_p29, fx_c_X9_refuse, exc1, exc2, exl, px_c_X9_peek hT hp, hw, h1, h3]
        rw [e]
        exact CS_e (CS_no g5) (by unfold tq_ex; rw [if_neg h3])
  · have e : fx_c_X9_expect_1 x (nI n) (nI p) w c = (nI p, w) := by simp [fx_c_X9_expect_1, fx_c_X9_expect_1_p29, fx_c_X9_refuse, exc1, exc2, exl, hw]
    rw [e]
    exact CS_dead hw hp rfl


theorem px_c_X9_expect_2 {c : Nat → Int32} {n p : Nat} (hT : TB c n) (hp : p ≤ n) {x w : Int32} (hx : ¬ x = -1) : CS n w (tq_ex c n x p) (fx_c_X9_expect_2 x (nI n) (nI p) w c).1 (fx_c_X9_expect_2 x (nI n) (nI p) w c).2 := by
  have h2 : ¬ (-1 : Int32) = x := fun e => hx e.symm
  have g5 := tq_pk_le (c := c) hp
  by_cases hw : w = -1
  · by_cases h1 : tq_ch c n (tq_pk c n p) = -1
    · have e : fx_c_X9_expect_2 x (nI n) (nI p) w c = (nI (tq_pk c n p), if w = -1 then nI (tq_pk c n p) else w) := by simp [fx_c_X9_expect_2, fx_c_X9_expect_2_p29, fx_c_X9_refuse, exc1, exc2, exl, px_c_X9_peek hT hp, hw, h1, h2]
      rw [e]
      exact CS_e (CS_no g5) (by unfold tq_ex; rw [if_neg (by rw [h1]; exact h2)])
    · by_cases h3 : tq_ch c n (tq_pk c n p) = x
      · have e : fx_c_X9_expect_2 x (nI n) (nI p) w c = (nI (tq_pk c n p + 1), w) := by simp [fx_c_X9_expect_2, fx_c_X9_expect_2_p29, fx_c_X9_refuse, exc1, exc2, exl, px_c_X9_peek hT hp, hw, h3, hx, nI_1]
        have g4 := tq_ch_ne h3 hx
        rw [e]
        exact CS_e (CS_ok (by omega)) (by unfold tq_ex; rw [if_pos h3])
      · have e : fx_c_X9_expect_2 x (nI n) (nI p) w c = (nI (tq_pk c n p), if w = -1 then nI (tq_pk c n p) else w) := by simp [fx_c_X9_expect_2, fx_c_X9_expect_2_p29, fx_c_X9_refuse, exc1, exc2, exl, px_c_X9_peek hT hp, hw, h1, h3]
        rw [e]
        exact CS_e (CS_no g5) (by unfold tq_ex; rw [if_neg h3])
  · have e : fx_c_X9_expect_2 x (nI n) (nI p) w c = (nI p, w) := by simp [fx_c_X9_expect_2, fx_c_X9_expect_2_p29, fx_c_X9_refuse, exc1, exc2, exl, hw]
    rw [e]
    exact CS_dead hw hp rfl


theorem px_c_X9_expect_3 {c : Nat → Int32} {n p : Nat} (hT : TB c n) (hp : p ≤ n) {x w : Int32} (hx : ¬ x = -1) : CS n w (tq_ex c n x p) (fx_c_X9_expect_3 x (nI n) (nI p) w c).1 (fx_c_X9_expect_3 x (nI n) (nI p) w c).2 := by
  have h2 : ¬ (-1 : Int32) = x := fun e => hx e.symm
  have g5 := tq_pk_le (c := c) hp
  by_cases hw : w = -1
  · by_cases h1 : tq_ch c n (tq_pk c n p) = -1
    · have e : fx_c_X9_expect_3 x (nI n) (nI p) w c = (nI (tq_pk c n p), if w = -1 then nI (tq_pk c n p) else w) := by simp [fx_c_X9_expect_3, fx_c_X9_expect_3_p29, fx_c_X9_refuse, exc1, exc2, exl, px_c_X9_peek hT hp, hw, h1, h2]
      rw [e]
      exact CS_e (CS_no g5) (by unfold tq_ex; rw [if_neg (by rw [h1]; exact h2)])
    · by_cases h3 : tq_ch c n (tq_pk c n p) = x
      · have e : fx_c_X9_expect_3 x (nI n) (nI p) w c = (nI (tq_pk c n p + 1), w) := by simp [fx_c_X9_expect_3, fx_c_X9_expect_3_p29, fx_c_X9_refuse, exc1, exc2, exl, px_c_X9_peek hT hp, hw, h3, hx, nI_1]
        have g4 := tq_ch_ne h3 hx
        rw [e]
        exact CS_e (CS_ok (by omega)) (by unfold tq_ex; rw [if_pos h3])
      · have e : fx_c_X9_expect_3 x (nI n) (nI p) w c = (nI (tq_pk c n p), if w = -1 then nI (tq_pk c n p) else w) := by simp [fx_c_X9_expect_3, fx_c_X9_expect_3_p29, fx_c_X9_refuse, exc1, exc2, exl, px_c_X9_peek hT hp, hw, h1, h3]
        rw [e]
        exact CS_e (CS_no g5) (by unfold tq_ex; rw [if_neg h3])
  · have e : fx_c_X9_expect_3 x (nI n) (nI p) w c = (nI p, w) := by simp [fx_c_X9_expect_3, fx_c_X9_expect_3_p29, fx_c_X9_refuse, exc1, exc2, exl, hw]
    rw [e]
    exact CS_dead hw hp rfl


theorem px_c_X9_takeEither {c : Nat → Int32} {n p : Nat} (hT : TB c n) (hp : p ≤ n) {x y w : Int32} (hx : ¬ x = -1) (hy : ¬ y = -1) : fx_c_X9_takeEither x y (nI n) (nI p) w c = if w = -1 ∧ (tq_ch c n (tq_pk c n p) = x ∨ tq_ch c n (tq_pk c n p) = y) then (tq_ch c n (tq_pk c n p), nI (tq_pk c n p + 1)) else (0, nI (tq_pk c n p)) := by
  have h2 : ¬ (-1 : Int32) = x := fun e => hx e.symm
  have h4 : ¬ (-1 : Int32) = y := fun e => hy e.symm
  by_cases h1 : tq_ch c n (tq_pk c n p) = -1
  · by_cases hw : w = -1
    · simp [fx_c_X9_takeEither, exc1, exc2, exl, px_c_X9_peek hT hp, hw, h1, h2, h4]
    · simp [fx_c_X9_takeEither, exc1, exc2, exl, px_c_X9_peek hT hp, hw, h1]
  · by_cases hw : w = -1
    · by_cases h3 : tq_ch c n (tq_pk c n p) = x
      · simp [fx_c_X9_takeEither, fx_c_X9_takeEither_p25, exc1, exc2, exl, px_c_X9_peek hT hp, hw, h3, hx, nI_1]
      · by_cases h5 : tq_ch c n (tq_pk c n p) = y
        · have h6 : ¬ y = x := fun e => h3 (h5.trans e)
          simp [fx_c_X9_takeEither, fx_c_X9_takeEither_p25, exc1, exc2, exl, px_c_X9_peek hT hp, hw, h5, hy, h6, nI_1]
        · simp [fx_c_X9_takeEither, fx_c_X9_takeEither_p25, exc1, exc2, exl, px_c_X9_peek hT hp, hw, h1, h3, h5]
    · simp [fx_c_X9_takeEither, fx_c_X9_takeEither_p25, exc1, exc2, exl, px_c_X9_peek hT hp, hw, h1]

theorem px_c_X9_number {c : Nat → Int32} {n q : Nat} (hT : TB c n) (hq : q ≤ n) : (fx_c_X9_number (nI n) (nI q) c).2 = nI (tq_nm c n 1 q).2 ∧ ((tq_nm c n 1 q).1 = true → RG (fx_c_X9_number (nI n) (nI q) c).1 0 99) ∧ ((tq_nm c n 1 q).1 = false → (fx_c_X9_number (nI n) (nI q) c).1 = -1) := by
  have hn := hT.2
  have e : fx_c_X9_number (nI n) (nI q) c = (if tq_dg (tq_ch c n q) then (if tq_dg (tq_ch c n (q + 1)) then (if tq_dg (tq_ch c n ((q + 1) + 1)) then (-1, nI ((q + 1) + 1)) else (((0 + c q - 48) * 10 + c (q + 1) - 48), nI ((q + 1) + 1))) else ((0 + c q - 48), nI (q + 1))) else (-1, nI q)) := by
    have hc0 : (nI q).toNatClampNeg = q := px_clamp (by omega)
    have hc1 : (nI (q + 1)).toNatClampNeg = (q + 1) := px_clamp (by omega)
    have hc2 : (nI ((q + 1) + 1)).toNatClampNeg = ((q + 1) + 1) := px_clamp (by omega)
    simp only [fx_c_X9_number, exl, nI_1, hc0, hc1, hc2]
    rw [px_dgif hT (q := ((q + 1) + 1)) (by omega)]
    rw [px_dgif hT (q := (q + 1)) (by omega)]
    rw [px_dgif hT (q := q) (by omega)]
  have s : tq_nm c n 1 q = if tq_dg (tq_ch c n q) then (if tq_dg (tq_ch c n (q + 1)) then (if tq_dg (tq_ch c n ((q + 1) + 1)) then (false, ((q + 1) + 1)) else (true, ((q + 1) + 1))) else (true, (q + 1))) else (false, q) := rfl
  rw [e, s]
  by_cases d0 : tq_dg (tq_ch c n q) = true
  · rw [if_pos d0, if_pos d0]
    by_cases d1 : tq_dg (tq_ch c n (q + 1)) = true
    · rw [if_pos d1, if_pos d1]
      by_cases d2 : tq_dg (tq_ch c n ((q + 1) + 1)) = true
      · rw [if_pos d2, if_pos d2]
        exact ⟨rfl, fun z => tq_ft z, fun _ => rfl⟩
      · rw [if_neg d2, if_neg d2]
        exact ⟨rfl, fun _ => RG_w (px_v1 (M := 9) (N := 99) (px_v0 (tq_dgc d0)) (tq_dgc d1) (by omega)) (by decide), fun z => tq_tf z⟩
    · rw [if_neg d1, if_neg d1]
      exact ⟨rfl, fun _ => RG_w (px_v0 (tq_dgc d0)) (by decide), fun z => tq_tf z⟩
  · rw [if_neg d0, if_neg d0]
    exact ⟨rfl, fun z => tq_ft z, fun _ => rfl⟩
theorem px_c_X9_number_1 {c : Nat → Int32} {n q : Nat} (hT : TB c n) (hq : q ≤ n) : (fx_c_X9_number_1 (nI n) (nI q) c).2 = nI (tq_nm c n 3 q).2 ∧ ((tq_nm c n 3 q).1 = true → RG (fx_c_X9_number_1 (nI n) (nI q) c).1 0 9999) ∧ ((tq_nm c n 3 q).1 = false → (fx_c_X9_number_1 (nI n) (nI q) c).1 = -1) := by
  have hn := hT.2
  have e : fx_c_X9_number_1 (nI n) (nI q) c = (if tq_dg (tq_ch c n q) then (if tq_dg (tq_ch c n (q + 1)) then (if tq_dg (tq_ch c n ((q + 1) + 1)) then (if tq_dg (tq_ch c n (((q + 1) + 1) + 1)) then (if tq_dg (tq_ch c n ((((q + 1) + 1) + 1) + 1)) then (-1, nI ((((q + 1) + 1) + 1) + 1)) else (((((0 + c q - 48) * 10 + c (q + 1) - 48) * 10 + c ((q + 1) + 1) - 48) * 10 + c (((q + 1) + 1) + 1) - 48), nI ((((q + 1) + 1) + 1) + 1))) else ((((0 + c q - 48) * 10 + c (q + 1) - 48) * 10 + c ((q + 1) + 1) - 48), nI (((q + 1) + 1) + 1))) else (((0 + c q - 48) * 10 + c (q + 1) - 48), nI ((q + 1) + 1))) else ((0 + c q - 48), nI (q + 1))) else (-1, nI q)) := by
    have hc0 : (nI q).toNatClampNeg = q := px_clamp (by omega)
    have hc1 : (nI (q + 1)).toNatClampNeg = (q + 1) := px_clamp (by omega)
    have hc2 : (nI ((q + 1) + 1)).toNatClampNeg = ((q + 1) + 1) := px_clamp (by omega)
    have hc3 : (nI (((q + 1) + 1) + 1)).toNatClampNeg = (((q + 1) + 1) + 1) := px_clamp (by omega)
    have hc4 : (nI ((((q + 1) + 1) + 1) + 1)).toNatClampNeg = ((((q + 1) + 1) + 1) + 1) := px_clamp (by omega)
    simp only [fx_c_X9_number_1, exl, nI_1, hc0, hc1, hc2, hc3, hc4]
    rw [px_dgif hT (q := ((((q + 1) + 1) + 1) + 1)) (by omega)]
    rw [px_dgif hT (q := (((q + 1) + 1) + 1)) (by omega)]
    rw [px_dgif hT (q := ((q + 1) + 1)) (by omega)]
    rw [px_dgif hT (q := (q + 1)) (by omega)]
    rw [px_dgif hT (q := q) (by omega)]
  have s : tq_nm c n 3 q = if tq_dg (tq_ch c n q) then (if tq_dg (tq_ch c n (q + 1)) then (if tq_dg (tq_ch c n ((q + 1) + 1)) then (if tq_dg (tq_ch c n (((q + 1) + 1) + 1)) then (if tq_dg (tq_ch c n ((((q + 1) + 1) + 1) + 1)) then (false, ((((q + 1) + 1) + 1) + 1)) else (true, ((((q + 1) + 1) + 1) + 1))) else (true, (((q + 1) + 1) + 1))) else (true, ((q + 1) + 1))) else (true, (q + 1))) else (false, q) := rfl
  rw [e, s]
  by_cases d0 : tq_dg (tq_ch c n q) = true
  · rw [if_pos d0, if_pos d0]
    by_cases d1 : tq_dg (tq_ch c n (q + 1)) = true
    · rw [if_pos d1, if_pos d1]
      by_cases d2 : tq_dg (tq_ch c n ((q + 1) + 1)) = true
      · rw [if_pos d2, if_pos d2]
        by_cases d3 : tq_dg (tq_ch c n (((q + 1) + 1) + 1)) = true
        · rw [if_pos d3, if_pos d3]
          by_cases d4 : tq_dg (tq_ch c n ((((q + 1) + 1) + 1) + 1)) = true
          · rw [if_pos d4, if_pos d4]
            exact ⟨rfl, fun z => tq_ft z, fun _ => rfl⟩
          · rw [if_neg d4, if_neg d4]
            exact ⟨rfl, fun _ => RG_w (px_v1 (M := 999) (N := 9999) (px_v1 (M := 99) (N := 999) (px_v1 (M := 9) (N := 99) (px_v0 (tq_dgc d0)) (tq_dgc d1) (by omega)) (tq_dgc d2) (by omega)) (tq_dgc d3) (by omega)) (by decide), fun z => tq_tf z⟩
        · rw [if_neg d3, if_neg d3]
          exact ⟨rfl, fun _ => RG_w (px_v1 (M := 99) (N := 999) (px_v1 (M := 9) (N := 99) (px_v0 (tq_dgc d0)) (tq_dgc d1) (by omega)) (tq_dgc d2) (by omega)) (by decide), fun z => tq_tf z⟩
      · rw [if_neg d2, if_neg d2]
        exact ⟨rfl, fun _ => RG_w (px_v1 (M := 9) (N := 99) (px_v0 (tq_dgc d0)) (tq_dgc d1) (by omega)) (by decide), fun z => tq_tf z⟩
    · rw [if_neg d1, if_neg d1]
      exact ⟨rfl, fun _ => RG_w (px_v0 (tq_dgc d0)) (by decide), fun z => tq_tf z⟩
  · rw [if_neg d0, if_neg d0]
    exact ⟨rfl, fun z => tq_ft z, fun _ => rfl⟩
