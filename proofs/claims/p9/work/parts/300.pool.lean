/-- the 40 Seas of History -/
def seaL (a : Nat → Nat) (k : Nat → ClassId) (i : Nat → Int32) (f : Nat → Nat → Int32) : va_W := [(a 0, .inr (7, [.int (i 0), .int (i 1), .int (i 2), .int (i 3), .ref (a 1), .ref (a 2), .ref (a 3), .ref (a 4), .ref (a 5), .ref (a 6), .ref (a 7), .ref (a 8), .ref (a 9)])), (a 1, .inl (k 1, 3, .inl (f 1))), (a 2, .inl (k 2, 3, .inl (f 2))), (a 3, .inl (k 3, 3, .inl (f 3))), (a 4, .inl (k 4, 3, .inl (f 4))), (a 5, .inl (k 5, 3, .inl (f 5))), (a 6, .inl (k 6, 3, .inl (f 6))), (a 7, .inl (k 7, 24, .inl (f 7))), (a 8, .inl (k 8, 8, .inl (f 8))), (a 9, .inl (k 9, 8, .inl (f 9)))]
def seaT (k : Nat → ClassId) : List (ClassId × FieldType) := [(k 1, .int), (k 2, .int), (k 3, .int), (k 4, .int), (k 5, .int), (k 6, .int), (k 7, .int), (k 8, .int), (k 9, .int)]
def plI (L : List Nat) (ad : Nat → Nat → Nat) (ck : Nat → Nat → ClassId) (iv : Nat → Nat → Int32) (av : Nat → Nat → Nat → Int32) : va_W := L.flatMap (fun n => seaL (ad n) (ck n) (iv n) (av n))
def plW (ad : Nat → Nat → Nat) (ck : Nat → Nat → ClassId) (iv : Nat → Nat → Int32) (av : Nat → Nat → Nat → Int32) : va_W := plI (List.range 40) ad ck iv av
def plR (n : Nat) (ad : Nat → Nat → Nat) (ck : Nat → Nat → ClassId) (iv : Nat → Nat → Int32) (av : Nat → Nat → Nat → Int32) : va_W := plI ((List.range 40).erase n) ad ck iv av
def plT (ck : Nat → Nat → ClassId) : List (ClassId × FieldType) := (List.range 40).flatMap (fun n => seaT (ck n))
def PI (iv : Nat → Nat → Int32) : Prop := ∀ n, RG (iv n 2) 0 9999 ∧ RG (iv n 3) 0 9999 ∧ (iv n 3).toInt ≤ (iv n 2).toInt + 0
def upI (iv : Nat → Nat → Int32) (n : Nat) (i : Nat → Int32) : Nat → Nat → Int32 := fun k => if k = n then i else iv k
def upA (av : Nat → Nat → Nat → Int32) (n : Nat) (f : Nat → Nat → Int32) : Nat → Nat → Nat → Int32 := fun k => if k = n then f else av k
def ofI (a b c d : Int32) : Nat → Int32 := fun j => match j with | 0 => a | 1 => b | 2 => c | _ => d
def ofA (f1 f2 f3 f4 f5 f6 f7 f8 f9 : Nat → Int32) : Nat → Nat → Int32 := fun j => match j with | 0 => f1 | 1 => f1 | 2 => f2 | 3 => f3 | 4 => f4 | 5 => f5 | 6 => f6 | 7 => f7 | 8 => f8 | _ => f9
theorem va_P.perm {D : va_G} {cl : List vw_C} {ws ws' : va_W} {H : Heap} (h : va_P D cl ws H) (p : ws.Perm ws') : va_P D cl ws' H := by
  intro k q hk
  obtain ⟨j, hj⟩ := List.mem_iff_getElem?.mp (p.mem_iff.mpr (List.mem_of_getElem? hk))
  exact h j q hj
theorem va_D.perm {A : Nat → Prop} {ws ws' : va_W} (h : va_D A ws) (p : ws.Perm ws') : va_D A ws' := by
  have h1 : (ws.map Prod.fst).Nodup := by
    rw [List.Nodup, List.pairwise_iff_getElem]
    intro i j hi hj hij e
    rw [List.getElem_map, List.getElem_map] at e
    have hi' : i < ws.length := by rw [List.length_map] at hi; exact hi
    have hj' : j < ws.length := by rw [List.length_map] at hj; exact hj
    have := h.1 i j ws[i] ws[j] (List.getElem?_eq_getElem hi') (List.getElem?_eq_getElem hj') e
    omega
  have h2 : (ws'.map Prod.fst).Nodup := (p.map Prod.fst).nodup_iff.mp h1
  refine ⟨fun i j x y hx hy hxy => ?_, fun k q hk => ?_⟩
  · have hi := (List.getElem?_eq_some_iff.mp hx).1
    refine (List.getElem?_inj (l := ws'.map Prod.fst) (by rw [List.length_map]; exact hi) h2).mp ?_
    rw [List.getElem?_map, List.getElem?_map, hx, hy]
    exact congrArg some hxy
  · obtain ⟨j, hj⟩ := List.mem_iff_getElem?.mp (p.mem_iff.mpr (List.mem_of_getElem? hk))
    exact h.2 j q hj
theorem pl_perm {X : va_W} {ad : Nat → Nat → Nat} {ck : Nat → Nat → ClassId} {iv : Nat → Nat → Int32} {av : Nat → Nat → Nat → Int32} {n : Nat} (hn : n < 40) : (X ++ plW ad ck iv av).Perm ((X ++ seaL (ad n) (ck n) (iv n) (av n)) ++ plR n ad ck iv av) := by
  rw [List.append_assoc]
  refine List.Perm.append_left X ?_
  have p := List.perm_cons_erase (List.mem_range.mpr hn)
  exact p.flatMap_right (fun n => seaL (ad n) (ck n) (iv n) (av n))
theorem pl_keep {ad : Nat → Nat → Nat} {ck : Nat → Nat → ClassId} {iv iv' : Nat → Nat → Int32} {av av' : Nat → Nat → Nat → Int32} {n : Nat} (h : ∀ k, k ≠ n → iv' k = iv k) (h2 : ∀ k, k ≠ n → av' k = av k) : plR n ad ck iv' av' = plR n ad ck iv av := by
  have : ∀ L : List Nat, n ∉ L → plI L ad ck iv' av' = plI L ad ck iv av := by
    intro L
    induction L with
    | nil => intro _; rfl
    | cons m L ih =>
      intro hm
      have h1 : m ≠ n := fun e => hm (by rw [e]; exact List.mem_cons_self)
      show seaL (ad m) (ck m) (iv' m) (av' m) ++ plI L ad ck iv' av' = seaL (ad m) (ck m) (iv m) (av m) ++ plI L ad ck iv av
      rw [h m h1, h2 m h1, ih (fun q => hm (List.mem_cons_of_mem _ q))]
  exact this _ (List.Nodup.not_mem_erase List.nodup_range)
theorem upI_self {iv : Nat → Nat → Int32} {n : Nat} {i : Nat → Int32} : upI iv n i n = i := by unfold upI; rw [if_pos rfl]
theorem upI_ne {iv : Nat → Nat → Int32} {n : Nat} {i : Nat → Int32} : ∀ k, k ≠ n → upI iv n i k = iv k := fun k h => by unfold upI; rw [if_neg h]
theorem upA_self {av : Nat → Nat → Nat → Int32} {n : Nat} {f : Nat → Nat → Int32} : upA av n f n = f := by unfold upA; rw [if_pos rfl]
theorem upA_ne {av : Nat → Nat → Nat → Int32} {n : Nat} {f : Nat → Nat → Int32} : ∀ k, k ≠ n → upA av n f k = av k := fun k h => by unfold upA; rw [if_neg h]
theorem pl_perm2 {X : va_W} {ad : Nat → Nat → Nat} {ck : Nat → Nat → ClassId} {iv : Nat → Nat → Int32} {av : Nat → Nat → Nat → Int32} {n : Nat} {i : Nat → Int32} {f : Nat → Nat → Int32} (hn : n < 40) : ((X ++ seaL (ad n) (ck n) i f) ++ plR n ad ck iv av).Perm (X ++ plW ad ck (upI iv n i) (upA av n f)) := by
  have p := pl_perm (X := X) (ad := ad) (ck := ck) (iv := upI iv n i) (av := upA av n f) hn
  rw [upI_self, upA_self, pl_keep upI_ne upA_ne] at p
  exact p.symm
theorem PI_up {iv : Nat → Nat → Int32} {n : Nat} {a b c d : Int32} (h : PI iv) (h2 : RG c 0 9999) (h3 : RG d 0 9999) (h4 : d.toInt ≤ c.toInt + 0) : PI (upI iv n (ofI a b c d)) := by
  intro k
  unfold upI
  split
  · exact ⟨h2, h3, h4⟩
  · exact h k
theorem pl_K {D : va_G} {cl : List vw_C} {tys : List (ClassId × FieldType)} {ck : Nat → Nat → ClassId} {U : State} {n : Nat} (h : va_K D cl (tys ++ plT ck) U) (hn : n < 40) : va_K D cl (tys ++ seaT (ck n)) U := by
  refine ⟨h.1, fun k q hk => ?_⟩
  have hm : q ∈ tys ++ plT ck := by
    rcases List.mem_append.mp (List.mem_of_getElem? hk) with g | g
    · exact List.mem_append_left _ g
    · exact List.mem_append_right _ (List.mem_flatMap.mpr ⟨n, List.mem_range.mpr hn, g⟩)
  obtain ⟨j, hj⟩ := List.mem_iff_getElem?.mp hm
  exact h.2 j q hj
theorem RG_n40 {x : Int32} {n : Nat} {a b : Int} (h : RG x a b) (e : n = x.toNatClampNeg) (k : 0 ≤ a ∧ b ≤ 39) : n < 40 := by
  obtain ⟨h1, h2⟩ := h
  have h3 : x.toNatClampNeg = x.toInt.toNat := rfl
  omega
theorem TB_rg {x : Int32} (h : RG x 0 39) : RG ((x + 40 - 1) - (x + 40 - 1) / 40 * 40) 0 39 := by
  obtain ⟨y, ey⟩ : ∃ y : Int32, y = x + 40 := ⟨_, rfl⟩
  rw [← ey]
  obtain ⟨z, ez⟩ : ∃ z : Int32, z = y - 1 := ⟨_, rfl⟩
  rw [← ez]
  exact RG_rem (y := 40) rfl (RG_sub ez (RG_add ey h (RG_k 40 40 rfl) (lo := 40) (hi := 79) (by decide)) (RG_k 1 1 rfl) (lo := 39) (hi := 78) (by decide)) (RG_k 40 40 rfl) (by decide)
theorem va_A.cut {X pl : va_W} {sz q : Nat} (h : va_A X sz q) : va_A (X ++ pl) sz q := by
  rcases h with ⟨k, e, h⟩ | h
  · exact Or.inl ⟨k, e, by rw [List.getElem?_append_left (List.getElem?_eq_some_iff.mp h).1]; exact h⟩
  · exact Or.inr h
theorem LG_ushr33 {x z : Int64} (e : z = (x.toUInt64 >>> ((33 : Int32).toInt64.toUInt64 &&& Int64.toUInt64 63)).toInt64) : LG z 0 2147483647 := by
  have h0 : ((33 : Int32).toInt64.toUInt64 &&& Int64.toUInt64 63) = (33 : UInt64) := by decide
  rw [h0] at e
  have h2 : x.toUInt64.toNat < 18446744073709551616 := x.toUInt64.toNat_lt
  have h1 : (x.toUInt64 >>> (33 : UInt64)).toNat = x.toUInt64.toNat / 8589934592 := by
    rw [UInt64.toNat_shiftRight, Nat.shiftRight_eq_div_pow]
    rfl
  have h4 : (x.toUInt64 >>> (33 : UInt64)).toBitVec.toNat < 2147483648 := by
    show (x.toUInt64 >>> (33 : UInt64)).toNat < 2147483648
    rw [h1]
    omega
  have h3 : z.toInt = ((x.toUInt64 >>> (33 : UInt64)).toBitVec.toNat : Int) := by
    rw [e]
    show (x.toUInt64 >>> (33 : UInt64)).toBitVec.toInt = _
    exact BitVec.toInt_eq_toNat_of_lt (by omega)
  rw [LG, h3]
  omega
