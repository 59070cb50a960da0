set_option maxRecDepth 100000 in
theorem yw_acts : lw_tbl[743]? = some (Cond.code yL_acts cL_acts 11 (some .boolean)) := rfl
theorem yv_L_acts : YS yL_acts cL_acts 11 (some .boolean) 3 := ⟨tA (List.mem_of_getElem? (i := 742) (by decide +kernel)) rfl, tA (List.mem_of_getElem? (i := 24) (by decide +kernel)) rfl, tA (List.mem_of_getElem? yw_acts) rfl, ⟨by decide, by decide, by decide +kernel⟩⟩
