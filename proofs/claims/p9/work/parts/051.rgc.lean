/-- what is cut out of a world for a call, and what comes back: one equation for all that want it -/
theorem cl_fm {α β : Type} {f : α → Option β} : ∀ {is : List α} {ws : List β}, is.map f = ws.map some → is.filterMap f = ws := by
  intro is
  induction is with
  | nil =>
    intro ws h
    cases ws with
    | nil => rfl
    | cons b ws => simp at h
  | cons a is ih =>
    intro ws h
    cases ws with
    | nil => simp at h
    | cons b ws =>
      simp only [List.map_cons, List.cons.injEq] at h
      rw [List.filterMap_cons, h.1]
      exact congrArg (b :: ·) (ih h.2)
theorem cl_cut {D : va_G} {cl : List vw_C} {A : Nat → Prop} {ws wc : va_W} {H0 H : Heap} {locs : List Loc} (hP : va_P D cl ws H) (hD : va_D A ws) (hS : va_S A H0 H locs) (hA : ∀ q, H0.size ≤ q → A q) (is : List Nat) (hn : va_nd is = true) (hq : is.map (fun i => ws[i]?) = wc.map some) : va_P D cl wc H ∧ va_D A wc ∧ (∀ q, va_A wc H.size q → A q) ∧ is.map (fun i => ws[i]?) = wc.map some := ⟨hP.sub is (cl_fm hq), hD.sub is hn hq, va_free hD hS hA is hq, hq⟩
theorem cl_cutP {D : va_G} {cl : List vw_C} {A : Nat → Prop} {X cx pl : va_W} {H0 H : Heap} {locs : List Loc} (hP : va_P D cl (X ++ pl) H) (hD : va_D A (X ++ pl)) (hS : va_S A H0 H locs) (hA : ∀ q, H0.size ≤ q → A q) (is : List Nat) (hn : va_nd is = true) (hq : is.map (fun i => X[i]?) = cx.map some) : va_P D cl (cx ++ pl) H ∧ va_D A (cx ++ pl) ∧ (∀ q, va_A (cx ++ pl) H.size q → A q) ∧ is.map (fun i => X[i]?) = cx.map some := ⟨hP.part is hq, hD.part is hn hq, va_freeP hD hS hA is hq, hq⟩
/-- a callee that wants no pool, out of a world with one -/
theorem cl_cutQ {D : va_G} {cl : List vw_C} {A : Nat → Prop} {X cx pl : va_W} {H0 H : Heap} {locs : List Loc} (hP : va_P D cl (X ++ pl) H) (hD : va_D A (X ++ pl)) (hS : va_S A H0 H locs) (hA : ∀ q, H0.size ≤ q → A q) (is : List Nat) (hn : va_nd is = true) (hq : is.map (fun i => X[i]?) = cx.map some) : va_P D cl cx H ∧ va_D A cx ∧ (∀ q, va_A cx H.size q → A q) ∧ is.map (fun i => X[i]?) = cx.map some := by
  have h1 := hP.part is hq
  have h2 := hD.part is hn hq
  have h3 := va_freeP hD hS hA is hq
  refine ⟨fun k q hk => h1 k q (by rw [List.getElem?_append_left (List.getElem?_eq_some_iff.mp hk).1]; exact hk), ⟨fun i j p q hi hj he => h2.1 i j p q (by rw [List.getElem?_append_left (List.getElem?_eq_some_iff.mp hi).1]; exact hi) (by rw [List.getElem?_append_left (List.getElem?_eq_some_iff.mp hj).1]; exact hj) he, fun k q hk => h2.2 k q (by rw [List.getElem?_append_left (List.getElem?_eq_some_iff.mp hk).1]; exact hk)⟩, fun q h => h3 q ?_, hq⟩
  rcases h with ⟨k, e, h⟩ | h
  · exact Or.inl ⟨k, e, by rw [List.getElem?_append_left (List.getElem?_eq_some_iff.mp h).1]; exact h⟩
  · exact Or.inr h
/-- behind a call: each cell of the new world is one of the old that the callee hadn't, or one of the callee's -/
theorem cl_gen {A0 : Nat → Prop} {D : va_G} {cl : List vw_C} {ws wc w1 nw : va_W} {H H1 : Heap} (hP : va_P D cl ws H) (hD : va_D A0 ws) (f : Nat → Nat) (hf : ∀ (k : Nat) (q : Nat × va_E), wc[k]? = some q → ws[f k]? = some q) (g : Nat → Nat ⊕ Nat)
    (h1 : ∀ (k i : Nat) (q : Nat × va_E), nw[k]? = some q → g k = .inl i → ws[i]? = some q ∧ ∀ k2 : Nat, k2 < wc.length → f k2 ≠ i) (h2 : ∀ (k j : Nat) (q : Nat × va_E), nw[k]? = some q → g k = .inr j → w1[j]? = some q) (hi : ∀ i j : Nat, i < nw.length → j < nw.length → g i = g j → i = j)
    (hk : ∀ q : Nat, q < H.size → ¬ va_A wc H.size q → H1[q]? = H[q]?) (hF : ∀ q, va_A wc H.size q → A0 q) (hP1 : va_P D cl w1 H1) (hD1 : va_D (va_A wc H.size) w1) : va_P D cl nw H1 ∧ va_D A0 nw := by
  have apart : ∀ (k i : Nat) (q : Nat × va_E), nw[k]? = some q → g k = .inl i → q.1 < H.size ∧ ¬ va_A wc H.size q.1 := by
    intro k i q hq hg
    obtain ⟨a1, a2⟩ := h1 k i q hq hg
    have hl := (hP i q a1).lt
    refine ⟨hl, fun h => ?_⟩
    rcases h with ⟨k2, e, h⟩ | h
    · exact a2 k2 (List.getElem?_eq_some_iff.mp h).1 (hD.1 _ _ (q.1, e) q (hf k2 _ h) a1 rfl)
    · omega
  refine ⟨fun k q hq => ?_, fun i j x y hx hy hxy => ?_, fun k q hq => ?_⟩
  · cases hg : g k with
    | inl i =>
      obtain ⟨b1, b2⟩ := apart k i q hq hg
      exact (hP i q (h1 k i q hq hg).1).kept (hk q.1 b1 b2)
    | inr j => exact hP1 j q (h2 k j q hq hg)
  · have lx := (List.getElem?_eq_some_iff.mp hx).1
    have ly := (List.getElem?_eq_some_iff.mp hy).1
    cases hg : g i with
    | inl a =>
      cases hg2 : g j with
      | inl b =>
        have hab := hD.1 a b x y (h1 i a x hx hg).1 (h1 j b y hy hg2).1 hxy
        exact hi i j lx ly (by rw [hg, hg2, hab])
      | inr b => exact absurd (by rw [hxy]; exact hD1.2 b y (h2 j b y hy hg2)) (apart i a x hx hg).2
    | inr a =>
      cases hg2 : g j with
      | inl b => exact absurd (by rw [← hxy]; exact hD1.2 a x (h2 i a x hx hg)) (apart j b y hy hg2).2
      | inr b =>
        have hab := hD1.1 a b x y (h2 i a x hx hg) (h2 j b y hy hg2) hxy
        exact hi i j lx ly (by rw [hg, hg2, hab])
  · cases hg : g k with
    | inl i => exact hD.2 i q (h1 k i q hq hg).1
    | inr j => exact hF q.1 (hD1.2 j q (h2 k j q hq hg))
/-- place j of the old world's n cells, or of the callee's behind them -/
def cl_at (n : Nat) (ws w1 : va_W) (j : Nat) : Option (Nat × va_E) := cond (Nat.ble n j) (w1[j - n]?) (ws[j]?)
def cl_ok (n : Nat) (is js : List Nat) : Bool := va_nd js && js.all (fun j => Nat.ble n j || !(is.contains j))
theorem cl_old {n j : Nat} {ws w1 : va_W} (h : j < n) : cl_at n ws w1 j = ws[j]? := by
  have : Nat.ble n j = false := by
    cases hb : Nat.ble n j with
    | false => rfl
    | true => exact absurd (Nat.le_of_ble_eq_true hb) (Nat.not_le.mpr h)
  unfold cl_at
  rw [this]
  rfl
theorem cl_new {n j : Nat} {ws w1 : va_W} (h : n ≤ j) : cl_at n ws w1 j = w1[j - n]? := by
  unfold cl_at
  rw [Nat.ble_eq_true_of_le h]
  rfl
theorem cl_okD {n : Nat} {is js : List Nat} (h : cl_ok n is js = true) : va_nd js = true ∧ ∀ j ∈ js, j < n → j ∉ is := by
  unfold cl_ok at h
  rw [Bool.and_eq_true, List.all_eq_true] at h
  refine ⟨h.1, fun j hj hl hm => ?_⟩
  have h2 := h.2 j hj
  rw [Bool.or_eq_true] at h2
  rcases h2 with h2 | h2
  · exact absurd (Nat.le_of_ble_eq_true h2) (Nat.not_le.mpr hl)
  · rw [List.contains_iff_mem.mpr hm] at h2
    exact absurd h2 (by decide)
theorem cl_has {α : Type} {f : Nat → Option α} {js : List Nat} {nw : List α} (h : js.map f = nw.map some) (k : Nat) (q : α) (hk : nw[k]? = some q) : ∃ j, js[k]? = some j ∧ f j = some q := by
  have h1 : (js.map f)[k]? = some (some q) := by rw [h, List.getElem?_map, hk]; rfl
  rw [List.getElem?_map] at h1
  cases hi : js[k]? with
  | none => rw [hi] at h1; cases h1
  | some i => rw [hi] at h1; exact ⟨i, rfl, Option.some.inj h1⟩
def cl_g (n : Nat) (j : Nat) : Nat ⊕ Nat := if j < n then .inl j else .inr (j - n)
theorem cl_g_inj {n a b : Nat} (h : cl_g n a = cl_g n b) : a = b := by
  unfold cl_g at h
  split at h <;> split at h
  · exact Sum.inl.inj h
  · cases h
  · cases h
  · have := Sum.inr.inj h
    omega
theorem cl_len {α : Type} {f : Nat → Option α} {js : List Nat} {nw : List α} (h : js.map f = nw.map some) : js.length = nw.length := by
  have := congrArg List.length h
  simpa using this
theorem cl_put {A0 : Nat → Prop} {D : va_G} {cl : List vw_C} {ws wc w1 nw : va_W} {H H1 : Heap} (hP : va_P D cl ws H) (hD : va_D A0 ws) (is js : List Nat) (n : Nat) (hn : ws.length = n) (hC : is.map (fun i => ws[i]?) = wc.map some) (hok : cl_ok n is js = true) (hN : js.map (cl_at n ws w1) = nw.map some)
    (hk : ∀ q : Nat, q < H.size → ¬ va_A wc H.size q → H1[q]? = H[q]?) (hF : ∀ q, va_A wc H.size q → A0 q) (hP1 : va_P D cl w1 H1) (hD1 : va_D (va_A wc H.size) w1) : va_P D cl nw H1 ∧ va_D A0 nw := by
  obtain ⟨o1, o2⟩ := cl_okD hok
  refine cl_gen hP hD (fun k => (is[k]?).getD 0) (fun k q hq => ?_) (fun k => cl_g n ((js[k]?).getD 0)) (fun k i q hq hg => ?_) (fun k j q hq hg => ?_) (fun i j hi hj he => ?_) hk hF hP1 hD1
  · obtain ⟨i, e1, e2⟩ := cl_has hC k q hq
    simp only [e1, Option.getD_some]
    exact e2
  · obtain ⟨j, e1, e2⟩ := cl_has hN k q hq
    simp only [e1, Option.getD_some] at hg
    unfold cl_g at hg
    split at hg
    next hl =>
      have := Sum.inl.inj hg
      subst this
      rw [cl_old hl] at e2
      refine ⟨e2, fun k2 hk2 hf => ?_⟩
      have hm := List.getElem?_eq_getElem hk2
      obtain ⟨i2, e3, e4⟩ := cl_has hC k2 _ hm
      simp only [e3, Option.getD_some] at hf
      subst hf
      exact o2 _ (List.mem_of_getElem? e1) hl (List.mem_of_getElem? e3)
    next => cases hg
  · obtain ⟨j2, e1, e2⟩ := cl_has hN k q hq
    simp only [e1, Option.getD_some] at hg
    unfold cl_g at hg
    split at hg
    next => cases hg
    next hl =>
      have := Sum.inr.inj hg
      subst this
      rw [cl_new (Nat.not_lt.mp hl)] at e2
      exact e2
  · have hl := cl_len hN
    have hi' : i < js.length := by omega
    have hj' : j < js.length := by omega
    simp only [List.getElem?_eq_getElem hi', List.getElem?_eq_getElem hj', Option.getD_some] at he
    have e := cl_g_inj he
    exact va_nd_inj js o1 i j js[i] (List.getElem?_eq_getElem hi') (by rw [e]; exact List.getElem?_eq_getElem hj')
/-- the same in a world with a pool, the callee without -/
theorem cl_putQ {A0 : Nat → Prop} {D : va_G} {cl : List vw_C} {X cx w1 nx pl : va_W} {H H1 : Heap} (hP : va_P D cl (X ++ pl) H) (hD : va_D A0 (X ++ pl)) (is js : List Nat) (n : Nat) (hn : X.length = n) (hC : is.map (fun i => X[i]?) = cx.map some) (hok : cl_ok n is js = true) (hN : js.map (cl_at n X w1) = nx.map some)
    (hk : ∀ q : Nat, q < H.size → ¬ va_A cx H.size q → H1[q]? = H[q]?) (hF : ∀ q, va_A cx H.size q → A0 q) (hP1 : va_P D cl w1 H1) (hD1 : va_D (va_A cx H.size) w1) : va_P D cl (nx ++ pl) H1 ∧ va_D A0 (nx ++ pl) := by
  obtain ⟨o1, o2⟩ := cl_okD hok
  have hl := cl_len hN
  have inX : ∀ (k : Nat) (q : Nat × va_E), cx[k]? = some q → ∃ i, is[k]? = some i ∧ X[i]? = some q ∧ i < n := by
    intro k q hq
    obtain ⟨i, e1, e2⟩ := cl_has hC k q hq
    exact ⟨i, e1, e2, by rw [← hn]; exact (List.getElem?_eq_some_iff.mp e2).1⟩
  refine cl_gen hP hD (fun k => (is[k]?).getD 0) (fun k q hq => ?_) (fun k => if k < nx.length then cl_g n ((js[k]?).getD 0) else .inl (n + (k - nx.length))) (fun k i q hq hg => ?_) (fun k j q hq hg => ?_) (fun i j hi hj he => ?_) hk hF hP1 hD1
  · obtain ⟨i, e1, e2, e3⟩ := inX k q hq
    simp only [e1, Option.getD_some]
    rw [List.getElem?_append_left (by omega)]
    exact e2
  · by_cases hkl : k < nx.length
    · rw [List.getElem?_append_left hkl] at hq
      obtain ⟨j, e1, e2⟩ := cl_has hN k q hq
      simp only [hkl, if_true, e1, Option.getD_some] at hg
      unfold cl_g at hg
      split at hg
      next hl =>
        have := Sum.inl.inj hg
        subst this
        rw [cl_old hl] at e2
        refine ⟨by rw [List.getElem?_append_left (by omega)]; exact e2, fun k2 hk2 hf => ?_⟩
        obtain ⟨i2, e3, e4, -⟩ := inX k2 _ (List.getElem?_eq_getElem hk2)
        simp only [e3, Option.getD_some] at hf
        subst hf
        exact o2 _ (List.mem_of_getElem? e1) hl (List.mem_of_getElem? e3)
      next => cases hg
    · simp only [hkl, if_false] at hg
      have := Sum.inl.inj hg
      subst this
      rw [List.getElem?_append_right (by omega)] at hq
      refine ⟨by rw [List.getElem?_append_right (by omega), hn, show n + (k - nx.length) - n = k - nx.length by omega]; exact hq, fun k2 hk2 hf => ?_⟩
      obtain ⟨i2, e3, e4, e5⟩ := inX k2 _ (List.getElem?_eq_getElem hk2)
      simp only [e3, Option.getD_some] at hf
      omega
  · by_cases hkl : k < nx.length
    · rw [List.getElem?_append_left hkl] at hq
      obtain ⟨j2, e1, e2⟩ := cl_has hN k q hq
      simp only [hkl, if_true, e1, Option.getD_some] at hg
      unfold cl_g at hg
      split at hg
      next => cases hg
      next hl =>
        have := Sum.inr.inj hg
        subst this
        rw [cl_new (Nat.not_lt.mp hl)] at e2
        exact e2
    · simp only [hkl, if_false] at hg
      cases hg
  · rw [List.length_append] at hi hj
    have lt : ∀ k, k < nx.length → ∃ b, js[k]? = some b ∧ (b < n ∨ n ≤ b) := fun k hk => ⟨js[k]'(by omega), List.getElem?_eq_getElem (by omega), by omega⟩
    have old : ∀ k, k < nx.length → ∀ b, js[k]? = some b → b < n → b < X.length := fun k _ b _ h => by omega
    by_cases h1 : i < nx.length <;> by_cases h2 : j < nx.length
    · obtain ⟨b1, e1, -⟩ := lt i h1
      obtain ⟨b2, e2, -⟩ := lt j h2
      simp only [h1, h2, if_true, e1, e2, Option.getD_some] at he
      have e := cl_g_inj he
      subst e
      exact va_nd_inj js o1 i j b1 e1 e2
    · obtain ⟨b1, e1, -⟩ := lt i h1
      simp only [h1, h2, if_true, if_false, e1, Option.getD_some] at he
      unfold cl_g at he
      split at he
      next hb =>
        have := Sum.inl.inj he
        omega
      next => cases he
    · obtain ⟨b2, e2, -⟩ := lt j h2
      simp only [h1, h2, if_true, if_false, e2, Option.getD_some] at he
      unfold cl_g at he
      split at he
      next hb =>
        have := Sum.inl.inj he
        omega
      next => cases he
    · simp only [h1, h2, if_false] at he
      have := Sum.inl.inj he
      omega
/-- the same, the callee with the pool -/
theorem cl_putP {A0 : Nat → Prop} {D : va_G} {cl : List vw_C} {X cx rx nx pl pl1 : va_W} {H H1 : Heap} (hP : va_P D cl (X ++ pl) H) (hD : va_D A0 (X ++ pl)) (is js : List Nat) (n : Nat) (hn : X.length = n) (hC : is.map (fun i => X[i]?) = cx.map some) (hok : cl_ok n is js = true) (hN : js.map (cl_at n X rx) = nx.map some)
    (hk : ∀ q : Nat, q < H.size → ¬ va_A (cx ++ pl) H.size q → H1[q]? = H[q]?) (hF : ∀ q, va_A (cx ++ pl) H.size q → A0 q) (hP1 : va_P D cl (rx ++ pl1) H1) (hD1 : va_D (va_A (cx ++ pl) H.size) (rx ++ pl1)) : va_P D cl (nx ++ pl1) H1 ∧ va_D A0 (nx ++ pl1) := by
  obtain ⟨o1, o2⟩ := cl_okD hok
  have hl := cl_len hN
  refine cl_gen (wc := cx ++ pl) (w1 := rx ++ pl1) hP hD (fun k => if k < cx.length then (is[k]?).getD 0 else X.length + (k - cx.length)) (fun k q hq => va_part is hC k q hq) (fun k => if k < nx.length then cl_g n ((js[k]?).getD 0) else .inr (rx.length + (k - nx.length))) (fun k i q hq hg => ?_) (fun k j q hq hg => ?_) (fun i j hi hj he => ?_) hk hF hP1 hD1
  · by_cases hkl : k < nx.length
    · rw [List.getElem?_append_left hkl] at hq
      obtain ⟨j, e1, e2⟩ := cl_has hN k q hq
      simp only [hkl, if_true, e1, Option.getD_some] at hg
      unfold cl_g at hg
      split at hg
      next hl =>
        have := Sum.inl.inj hg
        subst this
        rw [cl_old hl] at e2
        refine ⟨by rw [List.getElem?_append_left (by omega)]; exact e2, fun k2 hk2 hf => ?_⟩
        by_cases h4 : k2 < cx.length
        · obtain ⟨i2, e3, e4⟩ := cl_has hC k2 _ (List.getElem?_eq_getElem h4)
          simp only [h4, if_true, e3, Option.getD_some] at hf
          subst hf
          exact o2 _ (List.mem_of_getElem? e1) hl (List.mem_of_getElem? e3)
        · simp only [h4, if_false] at hf
          omega
      next => cases hg
    · simp only [hkl, if_false] at hg
      cases hg
  · by_cases hkl : k < nx.length
    · rw [List.getElem?_append_left hkl] at hq
      obtain ⟨j2, e1, e2⟩ := cl_has hN k q hq
      simp only [hkl, if_true, e1, Option.getD_some] at hg
      unfold cl_g at hg
      split at hg
      next => cases hg
      next hl =>
        have := Sum.inr.inj hg
        subst this
        rw [cl_new (Nat.not_lt.mp hl)] at e2
        rw [List.getElem?_append_left (List.getElem?_eq_some_iff.mp e2).1]
        exact e2
    · simp only [hkl, if_false] at hg
      have := Sum.inr.inj hg
      subst this
      rw [List.getElem?_append_right (by omega)] at hq
      rw [List.getElem?_append_right (by omega), show rx.length + (k - nx.length) - rx.length = k - nx.length by omega]
      exact hq
  · rw [List.length_append] at hi hj
    have lt : ∀ k, k < nx.length → ∃ b, js[k]? = some b ∧ (n ≤ b → b - n < rx.length) := by
      intro k hk
      obtain ⟨b, e1, e2⟩ := cl_has hN k _ (List.getElem?_eq_getElem hk)
      refine ⟨b, e1, fun h => ?_⟩
      rw [cl_new h] at e2
      exact (List.getElem?_eq_some_iff.mp e2).1
    by_cases h1 : i < nx.length <;> by_cases h2 : j < nx.length
    · obtain ⟨b1, e1, -⟩ := lt i h1
      obtain ⟨b2, e2, -⟩ := lt j h2
      simp only [h1, h2, if_true, e1, e2, Option.getD_some] at he
      have e := cl_g_inj he
      subst e
      exact va_nd_inj js o1 i j b1 e1 e2
    · obtain ⟨b1, e1, l1⟩ := lt i h1
      simp only [h1, h2, if_true, if_false, e1, Option.getD_some] at he
      unfold cl_g at he
      split at he
      next => cases he
      next hb =>
        have := Sum.inr.inj he
        have := l1 (Nat.not_lt.mp hb)
        omega
    · obtain ⟨b2, e2, l2⟩ := lt j h2
      simp only [h1, h2, if_true, if_false, e2, Option.getD_some] at he
      unfold cl_g at he
      split at he
      next => cases he
      next hb =>
        have := Sum.inr.inj he
        have := l2 (Nat.not_lt.mp hb)
        omega
    · simp only [h1, h2, if_false] at he
      have := Sum.inr.inj he
      omega
theorem gi_l {big ws : List Cond} (js : List Nat) (h : js.map (fun j => big[j]?) = ws.map some) (g : ws.all goodWord = true) : GoodIn big ws := by
  intro w hw
  obtain ⟨k, hk⟩ := List.getElem?_of_mem hw
  have h1 : (js.map (fun j => big[j]?))[k]? = some (some w) := by rw [h, List.getElem?_map, hk]; rfl
  rw [List.getElem?_map] at h1
  cases hj : js[k]? with
  | none => rw [hj] at h1; cases h1
  | some j =>
    rw [hj] at h1
    exact ⟨List.mem_of_getElem? (Option.some.inj h1), good_of_word (List.all_eq_true.mp g w hw)⟩
