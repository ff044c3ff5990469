def gt : List Cond := lw_tbl.filter goodWord
theorem gt_mem {w : Cond} (h : w ∈ lw_tbl) (g : goodWord w = true) : w ∈ gt := List.mem_filter.mpr ⟨h, g⟩
theorem gt_tb {w : Cond} {i : Nat} (h : tables_1[i]? = some w) (g : goodWord w = true) : w ∈ gt := gt_mem (List.mem_append_right _ (List.mem_of_getElem? h)) g
theorem t1 : Cond.fieldLink RX7 7 "HundredBoxesModel" "n" "I" ∈ gt := gt_tb (i := 600) (by decide +kernel) rfl
theorem t2 : Cond.fieldLink RX7 7 "HundredBoxesModel" "n" "I" ∈ gt := gt_tb (i := 600) rfl rfl
theorem t3 : (tables_1.filter (fun w => !goodWord w)).length = 0 := by decide +kernel
