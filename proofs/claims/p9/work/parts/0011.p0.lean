/-- PURE: the first place from p on that is no blank -/
def tq_pkF (c : Nat → Int32) (n : Nat) : Nat → Nat → Nat
  | 0, p => p
  | k + 1, p => if p < n ∧ c p = 32 then tq_pkF c n k (p + 1) else p
def tq_pk (c : Nat → Int32) (n p : Nat) : Nat := tq_pkF c n (n - p) p
/-- the sign at a place, -1 behind the end -/
def tq_ch (c : Nat → Int32) (n p : Nat) : Int32 := if p < n then c p else -1
def TB (c : Nat → Int32) (n : Nat) : Prop := (∀ i, RG (c i) 0 255) ∧ n ≤ 240
theorem tq_pk_eq (c : Nat → Int32) (n p : Nat) : tq_pk c n p = if p < n ∧ c p = 32 then tq_pk c n (p + 1) else p := by
  unfold tq_pk
  by_cases h : p < n
  · obtain ⟨k, hk⟩ : ∃ k, n - p = k + 1 := ⟨n - p - 1, by omega⟩
    have hk2 : n - (p + 1) = k := by omega
    rw [hk, hk2]
    rfl
  · have hk : n - p = 0 := by omega
    rw [hk, if_neg (fun q => h q.1)]
    rfl
theorem tq_pk_bdF (c : Nat → Int32) (n : Nat) : ∀ k p, n - p = k → p ≤ n → p ≤ tq_pk c n p ∧ tq_pk c n p ≤ n ∧ ¬ (tq_pk c n p < n ∧ c (tq_pk c n p) = 32) := by
  intro k
  induction k with
  | zero =>
    intro p h hp
    have e : tq_pk c n p = p := by rw [tq_pk_eq, if_neg (fun q => by have := q.1; omega)]
    rw [e]
    exact ⟨Nat.le_refl _, hp, fun q => by have := q.1; omega⟩
  | succ k ih =>
    intro p h hp
    by_cases g : p < n ∧ c p = 32
    · have e : tq_pk c n p = tq_pk c n (p + 1) := by rw [tq_pk_eq, if_pos g]
      rw [e]
      obtain ⟨h1, h2, h3⟩ := ih (p + 1) (by omega) (by omega)
      exact ⟨by omega, h2, h3⟩
    · have e : tq_pk c n p = p := by rw [tq_pk_eq, if_neg g]
      rw [e]
      exact ⟨Nat.le_refl _, hp, g⟩
theorem tq_pk_ge {c : Nat → Int32} {n p : Nat} (h : p ≤ n) : p ≤ tq_pk c n p := (tq_pk_bdF c n _ p rfl h).1
theorem tq_pk_le {c : Nat → Int32} {n p : Nat} (h : p ≤ n) : tq_pk c n p ≤ n := (tq_pk_bdF c n _ p rfl h).2.1
theorem tq_pk_pk {c : Nat → Int32} {n p : Nat} (h : p ≤ n) : tq_pk c n (tq_pk c n p) = tq_pk c n p := by
  rw [tq_pk_eq c n (tq_pk c n p), if_neg (tq_pk_bdF c n _ p rfl h).2.2]
theorem tq_ch_m1 {c : Nat → Int32} {n p : Nat} (h : n ≤ p) : tq_ch c n p = -1 := if_neg (by omega)
theorem tq_ch_in {c : Nat → Int32} {n p : Nat} (h : p < n) : tq_ch c n p = c p := if_pos h
theorem tq_ch_lt {c : Nat → Int32} {n p : Nat} (h : ¬ tq_ch c n p = -1) : p < n := by
  by_cases g : p < n
  · exact g
  · exact absurd (tq_ch_m1 (by omega)) h
theorem tq_ch_ne {c : Nat → Int32} {n p : Nat} {x : Int32} (h : tq_ch c n p = x) (hx : ¬ x = -1) : p < n := tq_ch_lt (by rw [h]; exact hx)
theorem tq_c_m1 {c : Nat → Int32} {n p : Nat} (h : TB c n) : ¬ c p = -1 := fun e => by
  have h1 := (h.1 p).1
  rw [e] at h1
  exact absurd h1 (by decide)
theorem tq_ch_RG {c : Nat → Int32} {n p : Nat} (h : TB c n) : RG (tq_ch c n p) (-1) 255 := by
  unfold tq_ch
  split
  · exact ⟨by have := (h.1 p).1; omega, (h.1 p).2⟩
  · exact ⟨by decide, by decide⟩
theorem tq_ch_RG0 {c : Nat → Int32} {n p : Nat} (h : TB c n) (k : ¬ tq_ch c n p = -1) : RG (tq_ch c n p) 0 255 := by
  rw [tq_ch_in (tq_ch_lt k)]
  exact h.1 p
theorem tq_ch_end {c : Nat → Int32} {n p : Nat} (h : TB c n) (hp : p ≤ n) (k : tq_ch c n p = -1) : p = n := by
  by_cases g : p < n
  · rw [tq_ch_in g] at k
    exact absurd k (tq_c_m1 h)
  · omega
theorem nI_m1 {q : Nat} (h : q < 2 ^ 31) : ¬ nI q = -1 := fun e => by
  have h1 := nI_toInt h
  rw [e] at h1
  have h2 : (-1 : Int32).toInt = -1 := by decide
  omega
theorem tq_tf {P : Prop} (z : true = false) : P := by cases z
theorem tq_ft {P : Prop} (z : false = true) : P := by cases z
/-- what a reader answers: (true, the place behind it) or (false, the place that is wrong) -/
def tq_bind : Bool × Nat → (Nat → Bool × Nat) → Bool × Nat
  | (true, q), f => f q
  | (false, q), _ => (false, q)
theorem tq_bind_t {r : Bool × Nat} {f : Nat → Bool × Nat} (h : r.1 = true) : tq_bind r f = f r.2 := by
  obtain ⟨b, q⟩ := r
  have h : b = true := h
  subst h
  rfl
theorem tq_bind_f {r : Bool × Nat} {f : Nat → Bool × Nat} (h : r.1 = false) : tq_bind r f = (false, r.2) := by
  obtain ⟨b, q⟩ := r
  have h : b = false := h
  subst h
  rfl
theorem tq_bind_bind (r : Bool × Nat) (f g : Nat → Bool × Nat) : tq_bind (tq_bind r f) g = tq_bind r (fun q => tq_bind (f q) g) := by
  obtain ⟨b, q⟩ := r
  cases b <;> rfl
def tq_rep (c : Nat → Int32) (n : Nat) (it : Nat → Bool × Nat) (A : Int32 → Bool) : Nat → Nat → Bool × Nat
  | 0, p => (false, p)
  | k + 1, p => tq_bind (it p) (fun q => if A (tq_ch c n (tq_pk c n q)) then tq_rep c n it A k (tq_pk c n q + 1) else (true, tq_pk c n q))
def tq_rp (c : Nat → Int32) (n : Nat) (it : Nat → Bool × Nat) (A : Int32 → Bool) (p : Nat) : Bool × Nat := tq_rep c n it A (n + 1 - p) p
/-- it stays within the text, and goes on where it is right -/
def tq_PG (n : Nat) (it : Nat → Bool × Nat) : Prop := ∀ p, p ≤ n → (it p).2 ≤ n ∧ ((it p).1 = true → p < (it p).2)
theorem tq_A_lt {c : Nat → Int32} {n p : Nat} {A : Int32 → Bool} (hA : A (-1) = false) (h : A (tq_ch c n p) = true) : p < n := by
  refine tq_ch_lt (c := c) (fun e => ?_)
  rw [e, hA] at h
  cases h
theorem tq_rep_fuel {c : Nat → Int32} {n : Nat} {it : Nat → Bool × Nat} {A : Int32 → Bool} (hi : tq_PG n it) (hA : A (-1) = false) : ∀ k k' p, p ≤ n → n < p + k → n < p + k' → tq_rep c n it A k p = tq_rep c n it A k' p := by
  intro k
  induction k with
  | zero => intro k' p h1 h2; omega
  | succ k ih =>
    intro k' p h1 h2 h3
    cases k' with
    | zero => omega
    | succ k' =>
      show tq_bind (it p) _ = tq_bind (it p) _
      have hi1 := hi p h1
      cases hb : it p with
      | mk b q =>
        rw [hb] at hi1
        cases b with
        | false => rfl
        | true =>
          have g1 : q ≤ n := hi1.1
          have g2 : p < q := hi1.2 rfl
          have g3 := tq_pk_ge (c := c) g1
          show (if A (tq_ch c n (tq_pk c n q)) then tq_rep c n it A k (tq_pk c n q + 1) else (true, tq_pk c n q)) = (if A (tq_ch c n (tq_pk c n q)) then tq_rep c n it A k' (tq_pk c n q + 1) else (true, tq_pk c n q))
          by_cases ha : A (tq_ch c n (tq_pk c n q)) = true
          · have g4 := tq_A_lt hA ha
            rw [if_pos ha, if_pos ha, ih k' _ (by omega) (by omega) (by omega)]
          · rw [if_neg ha, if_neg ha]
theorem tq_rp_eq {c : Nat → Int32} {n : Nat} {it : Nat → Bool × Nat} {A : Int32 → Bool} (hi : tq_PG n it) (hA : A (-1) = false) {p : Nat} (hp : p ≤ n) : tq_rp c n it A p = tq_bind (it p) (fun q => if A (tq_ch c n (tq_pk c n q)) then tq_rp c n it A (tq_pk c n q + 1) else (true, tq_pk c n q)) := by
  have e : n + 1 - p = (n - p) + 1 := by omega
  unfold tq_rp
  rw [e]
  show tq_bind (it p) _ = tq_bind (it p) _
  have hi1 := hi p hp
  cases hb : it p with
  | mk b q =>
    rw [hb] at hi1
    cases b with
    | false => rfl
    | true =>
      have g1 : q ≤ n := hi1.1
      have g2 : p < q := hi1.2 rfl
      have g3 := tq_pk_ge (c := c) g1
      show (if A (tq_ch c n (tq_pk c n q)) then tq_rep c n it A (n - p) (tq_pk c n q + 1) else (true, tq_pk c n q)) = (if A (tq_ch c n (tq_pk c n q)) then tq_rep c n it A (n + 1 - (tq_pk c n q + 1)) (tq_pk c n q + 1) else (true, tq_pk c n q))
      by_cases ha : A (tq_ch c n (tq_pk c n q)) = true
      · have g4 := tq_A_lt hA ha
        rw [if_pos ha, if_pos ha, tq_rep_fuel hi hA (n - p) (n + 1 - (tq_pk c n q + 1)) _ (by omega) (by omega) (by omega)]
      · rw [if_neg ha, if_neg ha]
def tq_lp (c : Nat → Int32) (n : Nat) (A : Int32 → Bool) (nx : Nat → Bool × Nat) (q : Nat) : Bool × Nat := if A (tq_ch c n (tq_pk c n q)) then nx (tq_pk c n q + 1) else (true, tq_pk c n q)
theorem tq_lp_t {c : Nat → Int32} {n : Nat} {A : Int32 → Bool} {nx : Nat → Bool × Nat} {q : Nat} (h : A (tq_ch c n (tq_pk c n q)) = true) : tq_lp c n A nx q = nx (tq_pk c n q + 1) := if_pos h
theorem tq_lp_f {c : Nat → Int32} {n : Nat} {A : Int32 → Bool} {nx : Nat → Bool × Nat} {q : Nat} (h : A (tq_ch c n (tq_pk c n q)) = false) : tq_lp c n A nx q = (true, tq_pk c n q) := if_neg (by rw [h]; decide)
theorem tq_rp_lp {c : Nat → Int32} {n : Nat} {it : Nat → Bool × Nat} {A : Int32 → Bool} (hi : tq_PG n it) (hA : A (-1) = false) {p : Nat} (hp : p ≤ n) : tq_rp c n it A p = tq_bind (it p) (tq_lp c n A (tq_rp c n it A)) := tq_rp_eq hi hA hp
theorem tq_rp_PGk {c : Nat → Int32} {n : Nat} {it : Nat → Bool × Nat} {A : Int32 → Bool} (hi : tq_PG n it) (hA : A (-1) = false) : ∀ k p, n - p = k → p ≤ n → (tq_rp c n it A p).2 ≤ n ∧ ((tq_rp c n it A p).1 = true → p < (tq_rp c n it A p).2) := by
  intro k
  induction k using Nat.strongRecOn with
  | ind k ih =>
    intro p hk hp
    rw [tq_rp_eq hi hA hp]
    have hi1 := hi p hp
    cases hb : it p with
    | mk b q =>
      rw [hb] at hi1
      cases b with
      | false => exact ⟨hi1.1, fun z => by cases z⟩
      | true =>
        have g1 : q ≤ n := hi1.1
        have g2 : p < q := hi1.2 rfl
        have g3 := tq_pk_ge (c := c) g1
        have g5 := tq_pk_le (c := c) g1
        show (if A (tq_ch c n (tq_pk c n q)) then tq_rp c n it A (tq_pk c n q + 1) else (true, tq_pk c n q)).2 ≤ n ∧ _
        show _ ∧ ((if A (tq_ch c n (tq_pk c n q)) then tq_rp c n it A (tq_pk c n q + 1) else (true, tq_pk c n q)).1 = true → p < (if A (tq_ch c n (tq_pk c n q)) then tq_rp c n it A (tq_pk c n q + 1) else (true, tq_pk c n q)).2)
        by_cases ha : A (tq_ch c n (tq_pk c n q)) = true
        · have g4 := tq_A_lt hA ha
          rw [if_pos ha]
          obtain ⟨k1, k2⟩ := ih (n - (tq_pk c n q + 1)) (by omega) (tq_pk c n q + 1) rfl (by omega)
          exact ⟨k1, fun z => by have := k2 z; omega⟩
        · rw [if_neg ha]
          exact ⟨g5, fun _ => by show p < tq_pk c n q; omega⟩
theorem tq_rp_PG {c : Nat → Int32} {n : Nat} {it : Nat → Bool × Nat} {A : Int32 → Bool} (hi : tq_PG n it) (hA : A (-1) = false) : tq_PG n (tq_rp c n it A) := fun p hp => tq_rp_PGk hi hA (n - p) p rfl hp
/-- two loops, one within the other, are one -/
theorem tq_nestk {c : Nat → Int32} {n : Nat} {it : Nat → Bool × Nat} {A B : Int32 → Bool} (hi : tq_PG n it) (hA : A (-1) = false) (hB : B (-1) = false) : ∀ k p, n - p = k → p ≤ n → tq_rp c n (tq_rp c n it A) B p = tq_rp c n it (fun x => A x || B x) p := by
  have hAB : (fun x => A x || B x) (-1) = false := by show (A (-1) || B (-1)) = false; rw [hA, hB]; rfl
  have hin : tq_PG n (tq_rp c n it A) := tq_rp_PG hi hA
  intro k
  induction k using Nat.strongRecOn with
  | ind k ih =>
    intro p hk hp
    rw [tq_rp_eq hin hB hp, tq_rp_eq hi hA hp, tq_rp_eq hi hAB hp]
    have hi1 := hi p hp
    cases hb : it p with
    | mk b q =>
      rw [hb] at hi1
      cases b with
      | false => rfl
      | true =>
        have g1 : q ≤ n := hi1.1
        have g2 : p < q := hi1.2 rfl
        have g3 := tq_pk_ge (c := c) g1
        have g5 := tq_pk_le (c := c) g1
        show tq_bind (if A (tq_ch c n (tq_pk c n q)) then tq_rp c n it A (tq_pk c n q + 1) else (true, tq_pk c n q)) (fun q => if B (tq_ch c n (tq_pk c n q)) then tq_rp c n (tq_rp c n it A) B (tq_pk c n q + 1) else (true, tq_pk c n q)) = (if (A (tq_ch c n (tq_pk c n q)) || B (tq_ch c n (tq_pk c n q))) then tq_rp c n it (fun x => A x || B x) (tq_pk c n q + 1) else (true, tq_pk c n q))
        cases ha : A (tq_ch c n (tq_pk c n q)) with
        | true =>
          have g4 := tq_A_lt hA ha
          rw [if_pos rfl, Bool.true_or, if_pos rfl, ← tq_rp_eq hin hB (p := tq_pk c n q + 1) (by omega)]
          exact ih (n - (tq_pk c n q + 1)) (by omega) _ rfl (by omega)
        | false =>
          rw [if_neg (by decide), Bool.false_or]
          show (if B (tq_ch c n (tq_pk c n (tq_pk c n q))) then tq_rp c n (tq_rp c n it A) B (tq_pk c n (tq_pk c n q) + 1) else (true, tq_pk c n (tq_pk c n q))) = _
          rw [tq_pk_pk g1]
          cases hq : B (tq_ch c n (tq_pk c n q)) with
          | true =>
            have g4 := tq_A_lt hB hq
            rw [if_pos rfl, if_pos rfl]
            exact ih (n - (tq_pk c n q + 1)) (by omega) _ rfl (by omega)
          | false => rw [if_neg (by decide), if_neg (by decide)]
theorem tq_nest {c : Nat → Int32} {n : Nat} {it : Nat → Bool × Nat} {A B : Int32 → Bool} (hi : tq_PG n it) (hA : A (-1) = false) (hB : B (-1) = false) {p : Nat} (hp : p ≤ n) : tq_rp c n (tq_rp c n it A) B p = tq_rp c n it (fun x => A x || B x) p := tq_nestk hi hA hB (n - p) p rfl hp
/-- one sign -/
def tq_ex (c : Nat → Int32) (n : Nat) (x : Int32) (p : Nat) : Bool × Nat := if tq_ch c n (tq_pk c n p) = x then (true, tq_pk c n p + 1) else (false, tq_pk c n p)
theorem tq_ex_PG {c : Nat → Int32} {n : Nat} {x : Int32} (hx : ¬ x = -1) : tq_PG n (tq_ex c n x) := fun p hp => by
  have g3 := tq_pk_ge (c := c) hp
  have g5 := tq_pk_le (c := c) hp
  unfold tq_ex
  by_cases h : tq_ch c n (tq_pk c n p) = x
  · have g4 := tq_ch_ne h hx
    rw [if_pos h]
    exact ⟨by show tq_pk c n p + 1 ≤ n; omega, fun _ => by show p < tq_pk c n p + 1; omega⟩
  · rw [if_neg h]
    exact ⟨g5, fun z => by cases z⟩
/-- digits: k more of them at the most -/
def tq_dg (x : Int32) : Bool := decide (48 ≤ x) && decide (x ≤ 57)
theorem tq_dg_m1 : tq_dg (-1) = false := by decide
def tq_ds (c : Nat → Int32) (n : Nat) : Nat → Nat → Bool × Nat
  | 0, q => if tq_dg (tq_ch c n q) then (false, q) else (true, q)
  | k + 1, q => if tq_dg (tq_ch c n q) then tq_ds c n k (q + 1) else (true, q)
def tq_nm (c : Nat → Int32) (n k q : Nat) : Bool × Nat := if tq_dg (tq_ch c n q) then tq_ds c n k (q + 1) else (false, q)
theorem tq_dg_lt {c : Nat → Int32} {n p : Nat} (h : tq_dg (tq_ch c n p) = true) : p < n := tq_A_lt tq_dg_m1 h
theorem tq_dgc {c : Nat → Int32} {n p : Nat} (h : tq_dg (tq_ch c n p) = true) : tq_dg (c p) = true := by
  have h1 := tq_dg_lt h
  rw [tq_ch_in h1] at h
  exact h
theorem tq_ds_bd {c : Nat → Int32} {n : Nat} : ∀ k q, q ≤ n → q ≤ (tq_ds c n k q).2 ∧ (tq_ds c n k q).2 ≤ n := by
  intro k
  induction k with
  | zero =>
    intro q hq
    show q ≤ (if tq_dg (tq_ch c n q) then (false, q) else (true, q)).2 ∧ (if tq_dg (tq_ch c n q) then (false, q) else (true, q)).2 ≤ n
    split <;> exact ⟨Nat.le_refl _, hq⟩
  | succ k ih =>
    intro q hq
    show q ≤ (if tq_dg (tq_ch c n q) then tq_ds c n k (q + 1) else (true, q)).2 ∧ (if tq_dg (tq_ch c n q) then tq_ds c n k (q + 1) else (true, q)).2 ≤ n
    by_cases h : tq_dg (tq_ch c n q) = true
    · have g := tq_dg_lt h
      rw [if_pos h]
      obtain ⟨h1, h2⟩ := ih (q + 1) (by omega)
      exact ⟨by omega, h2⟩
    · rw [if_neg h]
      exact ⟨Nat.le_refl _, hq⟩
theorem tq_nm_bd {c : Nat → Int32} {n k q : Nat} (hq : q ≤ n) : q ≤ (tq_nm c n k q).2 ∧ (tq_nm c n k q).2 ≤ n ∧ ((tq_nm c n k q).1 = true → q < (tq_nm c n k q).2) := by
  unfold tq_nm
  by_cases h : tq_dg (tq_ch c n q) = true
  · have g := tq_dg_lt h
    rw [if_pos h]
    obtain ⟨h1, h2⟩ := tq_ds_bd (c := c) (n := n) k (q + 1) (by omega)
    exact ⟨by omega, h2, fun _ => by omega⟩
  · rw [if_neg h]
    exact ⟨Nat.le_refl _, hq, fun z => by cases z⟩
/-- LAWS: letters, atoms, sums -/
def tq_lt (x : Int32) : Bool := decide (x = 118) || decide (x = 108) || decide (x = 114) || decide (x = 100) || decide (x = 112) || decide (x = 104)
def tq_atom (c : Nat → Int32) (n : Nat) (inn : Option (Nat → Bool × Nat)) (p : Nat) : Bool × Nat :=
  if tq_lt (tq_ch c n (tq_pk c n p)) then (true, tq_pk c n p + 1)
  else if tq_ch c n (tq_pk c n p) = 91 then (match inn with | none => (false, tq_pk c n p) | some f => tq_bind (f (tq_pk c n p + 1)) (tq_ex c n 93))
  else tq_nm c n 3 (tq_pk c n p)
def tq_md (x : Int32) : Bool := decide (x = 42) || decide (x = 47)
def tq_as (x : Int32) : Bool := decide (x = 43) || decide (x = 45)
def tq_mas (x : Int32) : Bool := tq_md x || tq_as x
def tq_sum (c : Nat → Int32) (n : Nat) (inn : Option (Nat → Bool × Nat)) : Nat → Bool × Nat := tq_rp c n (tq_atom c n inn) tq_mas
def tq_S (c : Nat → Int32) (n : Nat) : Nat → Option (Nat → Bool × Nat)
  | 0 => none
  | k + 1 => some (tq_sum c n (tq_S c n k))
def tq_oPG (n : Nat) (o : Option (Nat → Bool × Nat)) : Prop := ∀ f, o = some f → tq_PG n f
theorem tq_bind_PG {n : Nat} {r : Bool × Nat} {p : Nat} {f : Nat → Bool × Nat} (h1 : r.2 ≤ n) (h2 : r.1 = true → p < r.2) (h3 : ∀ q, q ≤ n → p < q → (f q).2 ≤ n ∧ ((f q).1 = true → q ≤ (f q).2)) : (tq_bind r f).2 ≤ n ∧ ((tq_bind r f).1 = true → p < (tq_bind r f).2) := by
  obtain ⟨b, q⟩ := r
  cases b with
  | false => exact ⟨h1, fun z => by cases z⟩
  | true =>
    have g2 : p < q := h2 rfl
    obtain ⟨k1, k2⟩ := h3 q h1 g2
    exact ⟨k1, fun z => by have h9 := k2 z; show p < (f q).2; omega⟩
theorem tq_PG_w {n : Nat} {f : Nat → Bool × Nat} (h : tq_PG n f) {q : Nat} (hq : q ≤ n) : (f q).2 ≤ n ∧ ((f q).1 = true → q ≤ (f q).2) := ⟨(h q hq).1, fun z => Nat.le_of_lt ((h q hq).2 z)⟩
theorem tq_lt_m1 : tq_lt (-1) = false := by decide
theorem tq_atom_PG {c : Nat → Int32} {n : Nat} {inn : Option (Nat → Bool × Nat)} (ho : tq_oPG n inn) : tq_PG n (tq_atom c n inn) := fun p hp => by
  have g3 := tq_pk_ge (c := c) hp
  have g5 := tq_pk_le (c := c) hp
  unfold tq_atom
  by_cases h : tq_lt (tq_ch c n (tq_pk c n p)) = true
  · have g4 := tq_A_lt tq_lt_m1 h
    rw [if_pos h]
    exact ⟨by show tq_pk c n p + 1 ≤ n; omega, fun _ => by show p < tq_pk c n p + 1; omega⟩
  · rw [if_neg h]
    by_cases h2 : tq_ch c n (tq_pk c n p) = 91
    · have g4 := tq_ch_ne h2 (by decide)
      rw [if_pos h2]
      cases inn with
      | none => exact ⟨g5, fun z => by cases z⟩
      | some f =>
        have hf := ho f rfl (tq_pk c n p + 1) (by omega)
        exact tq_bind_PG (p := p) hf.1 (fun z => by have := hf.2 z; omega) (fun q hq _ => tq_PG_w (tq_ex_PG (by decide)) hq)
    · rw [if_neg h2]
      obtain ⟨k1, k2, k3⟩ := tq_nm_bd (c := c) (n := n) (k := 3) g5
      exact ⟨k2, fun z => by have := k3 z; omega⟩
theorem tq_mas_m1 : tq_mas (-1) = false := by decide
theorem tq_sum_PG {c : Nat → Int32} {n : Nat} {inn : Option (Nat → Bool × Nat)} (ho : tq_oPG n inn) : tq_PG n (tq_sum c n inn) := tq_rp_PG (tq_atom_PG ho) tq_mas_m1
theorem tq_S_PG {c : Nat → Int32} {n : Nat} : ∀ k, tq_oPG n (tq_S c n k) := by
  intro k
  induction k with
  | zero => intro f h; cases h
  | succ k ih => intro f h; cases h; exact tq_sum_PG ih
/-- the sum with k of ( [ ! still allowed -/
def tq_SM (c : Nat → Int32) (n k : Nat) : Nat → Bool × Nat := tq_sum c n (tq_S c n k)
theorem tq_SM_PG {c : Nat → Int32} {n k : Nat} : tq_PG n (tq_SM c n k) := tq_sum_PG (tq_S_PG k)
/-- conditions -/
def tq_cmp (x : Int32) : Bool := decide (x = 61) || decide (x = 60) || decide (x = 62)
def tq_tail (c : Nat → Int32) (n : Nat) (sm : Nat → Bool × Nat) (p : Nat) : Bool × Nat := if tq_cmp (tq_ch c n (tq_pk c n p)) then sm (tq_pk c n p + 1) else (false, tq_pk c n p)
def tq_unit (c : Nat → Int32) (n : Nat) (sm : Nat → Bool × Nat) (iu ic : Option (Nat → Bool × Nat)) (p : Nat) : Bool × Nat :=
  if tq_ch c n (tq_pk c n p) = 33 then (match iu with | none => (false, tq_pk c n p) | some f => f (tq_pk c n p + 1))
  else if tq_ch c n (tq_pk c n p) = 40 then (match ic with | none => (false, tq_pk c n p) | some f => tq_bind (f (tq_pk c n p + 1)) (tq_ex c n 41))
  else tq_bind (sm (tq_pk c n p)) (tq_tail c n sm)
def tq_am (x : Int32) : Bool := decide (x = 38)
def tq_or (x : Int32) : Bool := decide (x = 124)
def tq_ao (x : Int32) : Bool := tq_am x || tq_or x
def tq_cond (c : Nat → Int32) (n : Nat) (un : Nat → Bool × Nat) : Nat → Bool × Nat := tq_rp c n un tq_ao
def tq_U (c : Nat → Int32) (n : Nat) : Nat → Nat → Bool × Nat
  | 0 => tq_unit c n (tq_SM c n 0) none none
  | k + 1 => tq_unit c n (tq_SM c n (k + 1)) (some (tq_U c n k)) (some (tq_cond c n (tq_U c n k)))
def tq_C (c : Nat → Int32) (n k : Nat) : Nat → Bool × Nat := tq_cond c n (tq_U c n k)
theorem tq_cmp_m1 : tq_cmp (-1) = false := by decide
theorem tq_tail_bd {c : Nat → Int32} {n : Nat} {sm : Nat → Bool × Nat} (hs : tq_PG n sm) {p : Nat} (hp : p ≤ n) : (tq_tail c n sm p).2 ≤ n ∧ ((tq_tail c n sm p).1 = true → p ≤ (tq_tail c n sm p).2) := by
  have g3 := tq_pk_ge (c := c) hp
  have g5 := tq_pk_le (c := c) hp
  unfold tq_tail
  by_cases h : tq_cmp (tq_ch c n (tq_pk c n p)) = true
  · have g4 := tq_A_lt tq_cmp_m1 h
    rw [if_pos h]
    have h1 := hs (tq_pk c n p + 1) (by omega)
    exact ⟨h1.1, fun z => by have := h1.2 z; omega⟩
  · rw [if_neg h]
    exact ⟨g5, fun z => by cases z⟩
theorem tq_tail_lt {c : Nat → Int32} {n : Nat} {sm : Nat → Bool × Nat} (hs : tq_PG n sm) {p : Nat} (hp : p ≤ n) (z : (tq_tail c n sm p).1 = true) : p < (tq_tail c n sm p).2 := by
  have g3 := tq_pk_ge (c := c) hp
  unfold tq_tail at z ⊢
  by_cases h : tq_cmp (tq_ch c n (tq_pk c n p)) = true
  · have g4 := tq_A_lt tq_cmp_m1 h
    rw [if_pos h] at z ⊢
    have h1 := (hs (tq_pk c n p + 1) (by omega)).2 z
    omega
  · rw [if_neg h] at z
    cases z
theorem tq_unit_PG {c : Nat → Int32} {n : Nat} {sm : Nat → Bool × Nat} {iu ic : Option (Nat → Bool × Nat)} (hs : tq_PG n sm) (hu : tq_oPG n iu) (hc : tq_oPG n ic) : tq_PG n (tq_unit c n sm iu ic) := fun p hp => by
  have g3 := tq_pk_ge (c := c) hp
  have g5 := tq_pk_le (c := c) hp
  unfold tq_unit
  by_cases h : tq_ch c n (tq_pk c n p) = 33
  · have g4 := tq_ch_ne h (by decide)
    rw [if_pos h]
    cases iu with
    | none => exact ⟨g5, fun z => by cases z⟩
    | some f =>
      have hf := hu f rfl (tq_pk c n p + 1) (by omega)
      exact ⟨hf.1, fun z => by have := hf.2 z; show p < (f (tq_pk c n p + 1)).2; omega⟩
  · rw [if_neg h]
    by_cases h2 : tq_ch c n (tq_pk c n p) = 40
    · have g4 := tq_ch_ne h2 (by decide)
      rw [if_pos h2]
      cases ic with
      | none => exact ⟨g5, fun z => by cases z⟩
      | some f =>
        have hf := hc f rfl (tq_pk c n p + 1) (by omega)
        exact tq_bind_PG (p := p) hf.1 (fun z => by have := hf.2 z; omega) (fun q hq _ => tq_PG_w (tq_ex_PG (by decide)) hq)
    · rw [if_neg h2]
      have hf := hs (tq_pk c n p) g5
      exact tq_bind_PG (p := p) hf.1 (fun z => by have := hf.2 z; omega) (fun q hq _ => tq_tail_bd hs hq)
theorem tq_amor_m1 : tq_ao (-1) = false := by decide
theorem tq_U_PG {c : Nat → Int32} {n : Nat} : ∀ k, tq_PG n (tq_U c n k) := by
  intro k
  induction k with
  | zero => exact tq_unit_PG tq_SM_PG (fun f h => by cases h) (fun f h => by cases h)
  | succ k ih => exact tq_unit_PG tq_SM_PG (fun f h => by cases h; exact ih) (fun f h => by cases h; exact tq_rp_PG ih tq_amor_m1)
theorem tq_C_PG {c : Nat → Int32} {n k : Nat} : tq_PG n (tq_C c n k) := tq_rp_PG (tq_U_PG k) tq_amor_m1
/-- a CLAUSE of a LAW, a LAW -/
def tq_condB (c : Nat → Int32) (n : Nat) (p : Nat) : Bool × Nat := tq_bind (tq_tail c n (tq_SM c n 6) p) (tq_lp c n tq_ao (tq_C c n 6))
def tq_then (c : Nat → Int32) (n : Nat) (p : Nat) : Bool × Nat := tq_bind (tq_ex c n 63 p) (tq_SM c n 6)
def tq_body (c : Nat → Int32) (n : Nat) (r : Nat) : Bool × Nat :=
  if tq_ch c n (tq_pk c n r) = 33 ∨ tq_ch c n (tq_pk c n r) = 40 then tq_bind (tq_C c n 6 (tq_pk c n r)) (tq_then c n)
  else tq_bind (tq_SM c n 6 (tq_pk c n r)) (fun t => if tq_cmp (tq_ch c n (tq_pk c n t)) then tq_bind (tq_condB c n (tq_pk c n t)) (tq_then c n) else (true, tq_pk c n t))
def tq_clause (c : Nat → Int32) (n : Nat) (p : Nat) : Bool × Nat := tq_bind (tq_ex c n 121 p) (fun q => tq_bind (tq_ex c n 58 q) (tq_body c n))
def tq_sc (x : Int32) : Bool := decide (x = 59)
def tq_end (c : Nat → Int32) (n : Nat) (q : Nat) : Bool × Nat := if tq_ch c n (tq_pk c n q) = -1 then (true, tq_pk c n q) else (false, tq_pk c n q)
def tq_law (c : Nat → Int32) (n : Nat) : Bool × Nat := tq_bind (tq_rp c n (tq_clause c n) tq_sc 0) (tq_end c n)
theorem tq_bind_le {n : Nat} {r : Bool × Nat} {p : Nat} {f : Nat → Bool × Nat} (h1 : r.2 ≤ n) (h2 : r.1 = true → p ≤ r.2) (h3 : ∀ q, q ≤ n → p ≤ q → (f q).2 ≤ n ∧ ((f q).1 = true → q ≤ (f q).2)) : (tq_bind r f).2 ≤ n ∧ ((tq_bind r f).1 = true → p ≤ (tq_bind r f).2) := by
  obtain ⟨b, q⟩ := r
  cases b with
  | false => exact ⟨h1, fun z => by cases z⟩
  | true =>
    have g2 : p ≤ q := h2 rfl
    obtain ⟨k1, k2⟩ := h3 q h1 g2
    exact ⟨k1, fun z => by have h9 := k2 z; show p ≤ (f q).2; omega⟩
theorem tq_then_bd {c : Nat → Int32} {n : Nat} {p : Nat} (hp : p ≤ n) : (tq_then c n p).2 ≤ n ∧ ((tq_then c n p).1 = true → p ≤ (tq_then c n p).2) := by
  have h1 := tq_ex_PG (c := c) (n := n) (x := 63) (by decide) p hp
  exact tq_bind_le h1.1 (fun z => Nat.le_of_lt (h1.2 z)) (fun q hq _ => tq_PG_w tq_SM_PG hq)
theorem tq_condB_bd {c : Nat → Int32} {n : Nat} {p : Nat} (hp : p ≤ n) : (tq_condB c n p).2 ≤ n ∧ ((tq_condB c n p).1 = true → p ≤ (tq_condB c n p).2) := by
  have h1 := tq_tail_bd (c := c) (n := n) (sm := tq_SM c n 6) tq_SM_PG hp
  refine tq_bind_le h1.1 h1.2 (fun q hq _ => ?_)
  have g3 := tq_pk_ge (c := c) hq
  have g5 := tq_pk_le (c := c) hq
  by_cases h : tq_ao (tq_ch c n (tq_pk c n q)) = true
  · have g4 : tq_pk c n q < n := tq_A_lt tq_amor_m1 h
    rw [tq_lp_t h]
    have h1 := tq_C_PG (c := c) (n := n) (k := 6) (tq_pk c n q + 1) (by omega)
    exact ⟨h1.1, fun z => by have := h1.2 z; omega⟩
  · rw [tq_lp_f (by cases hb : tq_ao (tq_ch c n (tq_pk c n q)) with | true => exact absurd hb h | false => rfl)]
    exact ⟨g5, fun _ => g3⟩
theorem tq_body_bd {c : Nat → Int32} {n : Nat} {r : Nat} (hr : r ≤ n) : (tq_body c n r).2 ≤ n ∧ ((tq_body c n r).1 = true → r ≤ (tq_body c n r).2) := by
  have g3 := tq_pk_ge (c := c) hr
  have g5 := tq_pk_le (c := c) hr
  unfold tq_body
  split
  · have h1 := tq_C_PG (c := c) (n := n) (k := 6) (tq_pk c n r) g5
    exact tq_bind_le h1.1 (fun z => by have := h1.2 z; omega) (fun q hq _ => tq_then_bd hq)
  · have h1 := tq_SM_PG (c := c) (n := n) (k := 6) (tq_pk c n r) g5
    refine tq_bind_le h1.1 (fun z => by have := h1.2 z; omega) (fun q hq _ => ?_)
    have k3 := tq_pk_ge (c := c) hq
    have k5 := tq_pk_le (c := c) hq
    split
    · have h2 := tq_condB_bd (c := c) (n := n) k5
      exact tq_bind_le h2.1 (fun z => by have := h2.2 z; omega) (fun q hq _ => tq_then_bd hq)
    · exact ⟨k5, fun _ => k3⟩
theorem tq_clause_PG {c : Nat → Int32} {n : Nat} : tq_PG n (tq_clause c n) := fun p hp => by
  have h1 := tq_ex_PG (c := c) (n := n) (x := 121) (by decide) p hp
  refine tq_bind_PG (p := p) h1.1 h1.2 (fun q hq _ => ?_)
  have h2 := tq_ex_PG (c := c) (n := n) (x := 58) (by decide) q hq
  exact tq_bind_le h2.1 (fun z => Nat.le_of_lt (h2.2 z)) (fun q hq _ => tq_body_bd hq)
theorem tq_sc_m1 : tq_sc (-1) = false := by decide
theorem tq_SM_eq {c : Nat → Int32} {n k p : Nat} (hp : p ≤ n) : tq_SM c n k p = tq_bind (tq_atom c n (tq_S c n k) p) (tq_lp c n tq_mas (tq_SM c n k)) := tq_rp_lp (tq_atom_PG (tq_S_PG k)) tq_mas_m1 hp
theorem tq_C_eq {c : Nat → Int32} {n k p : Nat} (hp : p ≤ n) : tq_C c n k p = tq_bind (tq_U c n k p) (tq_lp c n tq_ao (tq_C c n k)) := tq_rp_lp (tq_U_PG k) tq_amor_m1 hp
def tq_laws (c : Nat → Int32) (n : Nat) : Nat → Bool × Nat := tq_rp c n (tq_clause c n) tq_sc
theorem tq_laws_eq {c : Nat → Int32} {n p : Nat} (hp : p ≤ n) : tq_laws c n p = tq_bind (tq_clause c n p) (tq_lp c n tq_sc (tq_laws c n)) := tq_rp_lp tq_clause_PG tq_sc_m1 hp
theorem tq_cmp3 {x : Int32} (h : tq_cmp x = true) : x = 61 ∨ x = 60 ∨ x = 62 := by
  unfold tq_cmp at h
  simpa [Bool.or_eq_true, or_assoc] using h
theorem tq_bf {b : Bool} (h : ¬ b = true) : b = false := by
  cases b with
  | true => exact absurd rfl h
  | false => rfl
