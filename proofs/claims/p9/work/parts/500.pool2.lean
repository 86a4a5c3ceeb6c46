/-- History's Seas as its constructor makes them -/
def ofN (a0 a1 a2 a3 a4 a5 a6 a7 a8 a9 : Nat) : Nat → Nat := fun j => match j with | 0 => a0 | 1 => a1 | 2 => a2 | 3 => a3 | 4 => a4 | 5 => a5 | 6 => a6 | 7 => a7 | 8 => a8 | _ => a9
def ofK (k1 k2 k3 k4 k5 k6 k7 k8 k9 : ClassId) : Nat → ClassId := fun j => match j with | 0 => k1 | 1 => k1 | 2 => k2 | 3 => k3 | 4 => k4 | 5 => k5 | 6 => k6 | 7 => k7 | 8 => k8 | _ => k9
def PLk (D : va_G) (k : Nat) (tl : va_W) (bf : Nat → Option Nat) (s : State) : Prop := ∃ (ad : Nat → Nat → Nat) (ck : Nat → Nat → ClassId), tl = plI (List.range k) ad ck (fun _ _ => 0) (fun _ _ _ => 0) ∧ (∀ j, j < k → bf j = some (ad j 0)) ∧ va_K D vwCl ((List.range k).flatMap (fun n => seaT (ck n))) s
theorem PLk_0 {D : va_G} {bf : Nat → Option Nat} {s : State} (c : ClassId) (h : va_K D vwCl [] s) : PLk D 0 [] bf s := ⟨fun _ _ => 0, fun _ _ => c, rfl, fun j hj => absurd hj (Nat.not_lt_zero j), h⟩
theorem plI_congr {ad ad' : Nat → Nat → Nat} {ck ck' : Nat → Nat → ClassId} {iv : Nat → Nat → Int32} {av : Nat → Nat → Nat → Int32} : ∀ L : List Nat, (∀ n ∈ L, ad' n = ad n ∧ ck' n = ck n) → plI L ad' ck' iv av = plI L ad ck iv av := by
  intro L
  induction L with
  | nil => intro _; rfl
  | cons m L ih =>
    intro h
    show seaL (ad' m) (ck' m) (iv m) (av m) ++ plI L ad' ck' iv av = seaL (ad m) (ck m) (iv m) (av m) ++ plI L ad ck iv av
    rw [(h m List.mem_cons_self).1, (h m List.mem_cons_self).2, ih (fun n hn => h n (List.mem_cons_of_mem _ hn))]
theorem PLk_step {D : va_G} {k : Nat} {tl : va_W} {bf : Nat → Option Nat} {s : State} {a : Nat → Nat} {c : Nat → ClassId} (h : PLk D k tl bf s) (hk : va_K D vwCl (seaT c) s) : PLk D (k + 1) (tl ++ seaL a c (fun _ => 0) (fun _ _ => 0)) (va_up bf k (some (a 0))) s := by
  obtain ⟨ad, ck, e, hb, hK⟩ := h
  have hr : ∀ n ∈ List.range k, n ≠ k := fun n hn q => by have := List.mem_range.mp hn; omega
  refine ⟨fun n => if n = k then a else ad n, fun n => if n = k then c else ck n, ?_, ?_, ?_⟩
  · have e1 : plI (List.range k) (fun n => if n = k then a else ad n) (fun n => if n = k then c else ck n) (fun _ _ => 0) (fun _ _ _ => 0) = plI (List.range k) ad ck (fun _ _ => 0) (fun _ _ _ => 0) := plI_congr _ (fun n hn => ⟨if_neg (hr n hn), if_neg (hr n hn)⟩)
    rw [e, ← e1]
    unfold plI
    rw [List.range_succ, List.flatMap_append]
    simp only [List.flatMap_cons, List.flatMap_nil, List.append_nil, if_pos]
  · intro j hj
    by_cases q : j = k
    · subst q
      simp [va_up]
    · simp only [va_up, if_neg q]
      exact hb j (by omega)
  · refine ⟨hK.1, fun i q hi => ?_⟩
    obtain ⟨n, hn, hq⟩ := List.mem_flatMap.mp (List.mem_of_getElem? hi)
    replace hq : q ∈ seaT (if n = k then c else ck n) := hq
    by_cases z : n = k
    · rw [if_pos z] at hq
      obtain ⟨j, hj⟩ := List.mem_iff_getElem?.mp hq
      exact hk.2 j q hj
    · rw [if_neg z] at hq
      have hm : q ∈ (List.range k).flatMap (fun n => seaT (ck n)) := List.mem_flatMap.mpr ⟨n, List.mem_range.mpr (by have := List.mem_range.mp hn; omega), hq⟩
      obtain ⟨j, hj⟩ := List.mem_iff_getElem?.mp hm
      exact hK.2 j q hj
theorem pl_Kp {D : va_G} {cl : List vw_C} {tys tys' pt : List (ClassId × FieldType)} {U : State} (h : va_K D cl (tys ++ pt) U) (is : List Nat) (hs : is.filterMap (fun i => tys[i]?) = tys') : va_K D cl (tys' ++ pt) U := by
  refine ⟨h.1, fun k q hk => ?_⟩
  have hm : q ∈ tys ++ pt := by
    rcases List.mem_append.mp (List.mem_of_getElem? hk) with g | g
    · rw [← hs] at g
      obtain ⟨i, -, hi⟩ := List.mem_filterMap.mp g
      exact List.mem_append_left _ (List.mem_of_getElem? hi)
    · exact List.mem_append_right _ g
  obtain ⟨j, hj⟩ := List.mem_iff_getElem?.mp hm
  exact h.2 j q hj
theorem vn_X0 : ∀ j, j < 4 → defaultValue (tyX0 j) = vp_V [.null, .int 0, .int 0, .int 0] j := fun j hj => match j, hj with | 0, _ => rfl | 1, _ => rfl | 2, _ => rfl | 3, _ => rfl | j + 4, h => absurd h (by omega)
theorem vn_X1 : ∀ j, j < 4 → defaultValue (tyX1 j) = vp_V [.null, .null, .null, .null] j := fun j hj => match j, hj with | 0, _ => rfl | 1, _ => rfl | 2, _ => rfl | 3, _ => rfl | j + 4, h => absurd h (by omega)
theorem vn_X10 : ∀ j, j < 6 → defaultValue (tyX10 j) = vp_V [.null, .null, .null, .null, .null, .null] j := fun j hj => match j, hj with | 0, _ => rfl | 1, _ => rfl | 2, _ => rfl | 3, _ => rfl | 4, _ => rfl | 5, _ => rfl | j + 6, h => absurd h (by omega)
theorem vn_X11 : ∀ j, j < 16 → defaultValue (tyX11 j) = vp_V [.null, .null, .null, .null, .null, .int 0, .null, .null, .null, .null, .null, .null, .null, .null, .null, .long 0] j := fun j hj => match j, hj with | 0, _ => rfl | 1, _ => rfl | 2, _ => rfl | 3, _ => rfl | 4, _ => rfl | 5, _ => rfl | 6, _ => rfl | 7, _ => rfl | 8, _ => rfl | 9, _ => rfl | 10, _ => rfl | 11, _ => rfl | 12, _ => rfl | 13, _ => rfl | 14, _ => rfl | 15, _ => rfl | j + 16, h => absurd h (by omega)
theorem vn_X12 : ∀ j, j < 54 → defaultValue (tyX12 j) = vp_V [.int 0, .null, .null, .null, .null, .null, .int 0, .int 0, .int 0, .int 0, .int 0, .int 0, .int 0, .int 0, .int 0, .null, .null, .int 0, .null, .null, .null, .null, .null, .null, .null, .null, .int 0, .int 0, .int 0, .int 0, .int 0, .int 0, .null, .null, .int 0, .null, .null, .null, .null, .null, .null, .int 0, .long 0, .int 0, .int 0, .null, .null, .null, .null, .null, .null, .int 0, .null, .int 0] j := fun j hj => match j, hj with | 0, _ => rfl | 1, _ => rfl | 2, _ => rfl | 3, _ => rfl | 4, _ => rfl | 5, _ => rfl | 6, _ => rfl | 7, _ => rfl | 8, _ => rfl | 9, _ => rfl | 10, _ => rfl | 11, _ => rfl | 12, _ => rfl | 13, _ => rfl | 14, _ => rfl | 15, _ => rfl | 16, _ => rfl | 17, _ => rfl | 18, _ => rfl | 19, _ => rfl | 20, _ => rfl | 21, _ => rfl | 22, _ => rfl | 23, _ => rfl | 24, _ => rfl | 25, _ => rfl | 26, _ => rfl | 27, _ => rfl | 28, _ => rfl | 29, _ => rfl | 30, _ => rfl | 31, _ => rfl | 32, _ => rfl | 33, _ => rfl | 34, _ => rfl | 35, _ => rfl | 36, _ => rfl | 37, _ => rfl | 38, _ => rfl | 39, _ => rfl | 40, _ => rfl | 41, _ => rfl | 42, _ => rfl | 43, _ => rfl | 44, _ => rfl | 45, _ => rfl | 46, _ => rfl | 47, _ => rfl | 48, _ => rfl | 49, _ => rfl | 50, _ => rfl | 51, _ => rfl | 52, _ => rfl | 53, _ => rfl | j + 54, h => absurd h (by omega)
theorem vn_X2 : ∀ j, j < 6 → defaultValue (tyX2 j) = vp_V [.null, .null, .null, .null, .null, .null] j := fun j hj => match j, hj with | 0, _ => rfl | 1, _ => rfl | 2, _ => rfl | 3, _ => rfl | 4, _ => rfl | 5, _ => rfl | j + 6, h => absurd h (by omega)
theorem vn_X3 : ∀ j, j < 7 → defaultValue (tyX3 j) = vp_V [.null, .int 0, .int 0, .null, .null, .null, .int 0] j := fun j hj => match j, hj with | 0, _ => rfl | 1, _ => rfl | 2, _ => rfl | 3, _ => rfl | 4, _ => rfl | 5, _ => rfl | 6, _ => rfl | j + 7, h => absurd h (by omega)
theorem vn_X4 : ∀ j, j < 3 → defaultValue (tyX4 j) = vp_V [.null, .int 0, .null] j := fun j hj => match j, hj with | 0, _ => rfl | 1, _ => rfl | 2, _ => rfl | j + 3, h => absurd h (by omega)
theorem vn_X5 : ∀ j, j < 4 → defaultValue (tyX5 j) = vp_V [.null, .int 0, .int 0, .null] j := fun j hj => match j, hj with | 0, _ => rfl | 1, _ => rfl | 2, _ => rfl | 3, _ => rfl | j + 4, h => absurd h (by omega)
theorem vn_X6 : ∀ j, j < 2 → defaultValue (tyX6 j) = vp_V [.null, .int 0] j := fun j hj => match j, hj with | 0, _ => rfl | 1, _ => rfl | j + 2, h => absurd h (by omega)
theorem vn_X7 : ∀ j, j < 13 → defaultValue (tyX7 j) = vp_V [.int 0, .int 0, .int 0, .int 0, .null, .null, .null, .null, .null, .null, .null, .null, .null] j := fun j hj => match j, hj with | 0, _ => rfl | 1, _ => rfl | 2, _ => rfl | 3, _ => rfl | 4, _ => rfl | 5, _ => rfl | 6, _ => rfl | 7, _ => rfl | 8, _ => rfl | 9, _ => rfl | 10, _ => rfl | 11, _ => rfl | 12, _ => rfl | j + 13, h => absurd h (by omega)
theorem vn_X8 : ∀ j, j < 12 → defaultValue (tyX8 j) = vp_V [.null, .null, .null, .null, .null, .null, .int 0, .null, .int 0, .null, .null, .null] j := fun j hj => match j, hj with | 0, _ => rfl | 1, _ => rfl | 2, _ => rfl | 3, _ => rfl | 4, _ => rfl | 5, _ => rfl | 6, _ => rfl | 7, _ => rfl | 8, _ => rfl | 9, _ => rfl | 10, _ => rfl | 11, _ => rfl | j + 12, h => absurd h (by omega)
theorem vn_X9 : ∀ j, j < 4 → defaultValue (tyX9 j) = vp_V [.null, .int 0, .int 0, .int 0] j := fun j hj => match j, hj with | 0, _ => rfl | 1, _ => rfl | 2, _ => rfl | 3, _ => rfl | j + 4, h => absurd h (by omega)
