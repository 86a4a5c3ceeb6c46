theorem gi_nil {big : List Cond} : GoodIn big [] := fun w h => absurd h List.not_mem_nil
theorem gi_cons {big ws : List Cond} {w : Cond} {j : Nat} (h : big[j]? = some w) (g : goodWord w = true) (t : GoodIn big ws) : GoodIn big (w :: ws) := fun v hv => (List.mem_cons.mp hv).elim (fun e => by rw [e]; exact ⟨List.mem_of_getElem? h, good_of_word g⟩) (t v)
theorem gi_filter {big L : List Cond} (hm : ∀ w ∈ L.filter goodWord, w ∈ big) : GoodIn big (L.filter goodWord) := fun w h => ⟨hm w h, good_of_word (List.mem_filter.mp h).2⟩
theorem gw_X0 : wsX00.all goodWord = true := by decide +kernel
theorem gw_X1 : wsX10.all goodWord = true := by decide +kernel
theorem gw_X2 : wsX20.all goodWord = true := by decide +kernel
theorem gw_X3 : wsX30.all goodWord = true := by decide +kernel
theorem gw_X4 : wsX40.all goodWord = true := by decide +kernel
theorem gw_X5 : wsX50.all goodWord = true := by decide +kernel
theorem gw_X6 : wsX60.all goodWord = true := by decide +kernel
theorem gw_X7 : wsX70.all goodWord = true := by decide +kernel
theorem gw_X8 : wsX80.all goodWord = true := by decide +kernel
theorem gw_X9 : wsX90.all goodWord = true := by decide +kernel
theorem gw_X10 : wsX100.all goodWord = true := by decide +kernel
theorem gw_X11 : wsX110.all goodWord = true := by decide +kernel
theorem gw_X12 : wsX120.all goodWord = true := by decide +kernel
