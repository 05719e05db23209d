set_option maxRecDepth 100000 in
theorem wm_672 : (Cond.code yL_stars method_15_code 11 (some .boolean)) ∈ WA := WA_of (List.mem_append_right _ (List.mem_append_right _ (List.mem_append_right _ (List.mem_append_left _ (List.mem_of_getElem? (l := tables_1_3) (i := 192) rfl))))) (by decide)
set_option maxRecDepth 100000 in
theorem wm_731 : (Cond.code yL_acts method_18_code 12 (some .boolean)) ∈ WA := WA_of (List.mem_append_right _ (List.mem_append_right _ (List.mem_append_right _ (List.mem_append_right _ (List.mem_of_getElem? (l := tables_1_4) (i := 11) rfl))))) (by decide)
set_option maxRecDepth 100000 in
theorem wm_734 : (Cond.code yL_goes method_16_code 19 (some .boolean)) ∈ WA := WA_of (List.mem_append_right _ (List.mem_append_right _ (List.mem_append_right _ (List.mem_append_right _ (List.mem_of_getElem? (l := tables_1_4) (i := 14) rfl))))) (by decide)
