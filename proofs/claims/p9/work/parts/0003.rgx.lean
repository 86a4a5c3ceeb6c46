/-- what methods answer as functions: let, calls, fuel -/
def exF : Nat := 8589934592
def exl {α β : Type} (v : α) (f : α → β) : β := f v
theorem exl_eq {α β : Type} {v x : α} {f : α → β} (h : x = v) : exl v f = f x := by rw [h]; rfl
def exc1 {α β : Type} (q : α) (f : α → β) : β := f q
theorem exc1_eq {α β : Type} {q a : α} {f : α → β} (h : a = q) : exc1 q f = f a := by rw [h]; rfl
def exc2 {α β ρ : Type} (q : α × β) (f : α → β → ρ) : ρ := f q.1 q.2
theorem exc2_eq {α β ρ : Type} {q : α × β} {a : α} {b : β} {f : α → β → ρ} (h : (a, b) = q) : exc2 q f = f a b := by rw [← h]; rfl
def exc3 {α β γ ρ : Type} (q : α × β × γ) (f : α → β → γ → ρ) : ρ := f q.1 q.2.1 q.2.2
theorem exc3_eq {α β γ ρ : Type} {q : α × β × γ} {a : α} {b : β} {c : γ} {f : α → β → γ → ρ} (h : (a, b, c) = q) : exc3 q f = f a b c := by rw [← h]; rfl
def exc4 {α β γ δ ρ : Type} (q : α × β × γ × δ) (f : α → β → γ → δ → ρ) : ρ := f q.1 q.2.1 q.2.2.1 q.2.2.2
theorem exc4_eq {α β γ δ ρ : Type} {q : α × β × γ × δ} {a : α} {b : β} {c : γ} {d : δ} {f : α → β → γ → δ → ρ} (h : (a, b, c, d) = q) : exc4 q f = f a b c d := by rw [← h]; rfl
def exc5 {α β γ δ ε ρ : Type} (q : α × β × γ × δ × ε) (f : α → β → γ → δ → ε → ρ) : ρ := f q.1 q.2.1 q.2.2.1 q.2.2.2.1 q.2.2.2.2
theorem exc5_eq {α β γ δ ε ρ : Type} {q : α × β × γ × δ × ε} {a : α} {b : β} {c : γ} {d : δ} {e : ε} {f : α → β → γ → δ → ε → ρ} (h : (a, b, c, d, e) = q) : exc5 q f = f a b c d e := by rw [← h]; rfl
def exc6 {α β γ δ ε ζ ρ : Type} (q : α × β × γ × δ × ε × ζ) (f : α → β → γ → δ → ε → ζ → ρ) : ρ := f q.1 q.2.1 q.2.2.1 q.2.2.2.1 q.2.2.2.2.1 q.2.2.2.2.2
theorem exc6_eq {α β γ δ ε ζ ρ : Type} {q : α × β × γ × δ × ε × ζ} {a : α} {b : β} {c : γ} {d : δ} {e : ε} {z : ζ} {f : α → β → γ → δ → ε → ζ → ρ} (h : (a, b, c, d, e, z) = q) : exc6 q f = f a b c d e z := by rw [← h]; rfl
def exc7 {α β γ δ ε ζ η ρ : Type} (q : α × β × γ × δ × ε × ζ × η) (f : α → β → γ → δ → ε → ζ → η → ρ) : ρ := f q.1 q.2.1 q.2.2.1 q.2.2.2.1 q.2.2.2.2.1 q.2.2.2.2.2.1 q.2.2.2.2.2.2
theorem exc7_eq {α β γ δ ε ζ η ρ : Type} {q : α × β × γ × δ × ε × ζ × η} {a : α} {b : β} {c : γ} {d : δ} {e : ε} {z : ζ} {y : η} {f : α → β → γ → δ → ε → ζ → η → ρ} (h : (a, b, c, d, e, z, y) = q) : exc7 q f = f a b c d e z y := by rw [← h]; rfl
def exc8 {α β γ δ ε ζ η θ ρ : Type} (q : α × β × γ × δ × ε × ζ × η × θ) (f : α → β → γ → δ → ε → ζ → η → θ → ρ) : ρ := f q.1 q.2.1 q.2.2.1 q.2.2.2.1 q.2.2.2.2.1 q.2.2.2.2.2.1 q.2.2.2.2.2.2.1 q.2.2.2.2.2.2.2
theorem exc8_eq {α β γ δ ε ζ η θ ρ : Type} {q : α × β × γ × δ × ε × ζ × η × θ} {a : α} {b : β} {c : γ} {d : δ} {e : ε} {z : ζ} {y : η} {w : θ} {f : α → β → γ → δ → ε → ζ → η → θ → ρ} (h : (a, b, c, d, e, z, y, w) = q) : exc8 q f = f a b c d e z y w := by rw [← h]; rfl
theorem MU_F {x : Int32} : MU x < exF := by
  have h1 := Int32.le_toInt x
  unfold MU exF
  omega
theorem MD_F {x : Int32} : MD x < exF := by
  have h2 := Int32.toInt_lt x
  unfold MD exF
  omega
theorem RG_neq {x c : Int32} {a b : Int} (h : RG x a b) (k : decide (c.toInt < a ∨ b < c.toInt) = true) : ¬ x = c := by
  intro e
  have k := of_decide_eq_true k
  obtain ⟨h1, h2⟩ := h
  rw [e] at h1 h2
  omega
theorem RG_eqk {x c : Int32} {q : Int} (h : RG x q q) (hc : c.toInt = q) : x = c := by
  obtain ⟨h1, h2⟩ := h
  exact Int32.toInt_inj.mp (by omega)
