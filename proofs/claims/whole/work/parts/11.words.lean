/-! the words of methods, calls and fields, by their places -/
theorem gt_0 {w : Cond} (h : w ∈ k2_sels lw_privs) : w ∈ lw_tbl := List.mem_append_left _ h
theorem gt_1 {w : Cond} (h : w ∈ tables_1_1) : w ∈ lw_tbl := List.mem_append_right _ (List.mem_append_left _ h)
theorem gt_2 {w : Cond} (h : w ∈ tables_1_2) : w ∈ lw_tbl := List.mem_append_right _ (List.mem_append_right _ (List.mem_append_left _ h))
theorem gt_3 {w : Cond} (h : w ∈ tables_1_3) : w ∈ lw_tbl := List.mem_append_right _ (List.mem_append_right _ (List.mem_append_right _ (List.mem_append_left _ h)))
theorem gt_4 {w : Cond} (h : w ∈ tables_1_4) : w ∈ lw_tbl := List.mem_append_right _ (List.mem_append_right _ (List.mem_append_right _ (List.mem_append_right _ (List.mem_append_left _ h))))
theorem gt_5 {w : Cond} (h : w ∈ tables_1_5) : w ∈ lw_tbl := List.mem_append_right _ (List.mem_append_right _ (List.mem_append_right _ (List.mem_append_right _ (List.mem_append_right _ (List.mem_append_left _ h)))))
theorem gt_6 {w : Cond} (h : w ∈ tables_1_6) : w ∈ lw_tbl := List.mem_append_right _ (List.mem_append_right _ (List.mem_append_right _ (List.mem_append_right _ (List.mem_append_right _ (List.mem_append_right _ (List.mem_append_left _ h))))))
theorem gt_7 {w : Cond} (h : w ∈ tables_1_7) : w ∈ lw_tbl := List.mem_append_right _ (List.mem_append_right _ (List.mem_append_right _ (List.mem_append_right _ (List.mem_append_right _ (List.mem_append_right _ (List.mem_append_right _ (List.mem_append_left _ h)))))))
theorem gt_8 {w : Cond} (h : w ∈ tables_1_8) : w ∈ lw_tbl := List.mem_append_right _ (List.mem_append_right _ (List.mem_append_right _ (List.mem_append_right _ (List.mem_append_right _ (List.mem_append_right _ (List.mem_append_right _ (List.mem_append_right _ (h))))))))
def qX0_init : gMI := (yX0_init, cX0_init, 2, none, 1)
theorem oX0_init : gMOk qX0_init := ⟨by decide +kernel, ⟨by decide +kernel, by decide +kernel, by decide +kernel⟩, gW0_mem (gt_1 (List.mem_of_getElem? (i := 40) (by decide +kernel))) rfl, gW0_mem (gt_1 (List.mem_of_getElem? (i := 2) (by decide +kernel))) rfl, by decide⟩
theorem iX0_init : qX0_init.1.name = "<init>" ∧ Cond.instanceMethod qX0_init.1 ∈ gW0 := ⟨rfl, gW0_mem (gt_1 (List.mem_of_getElem? (i := 39) (by decide +kernel))) rfl⟩
def qX0_add : gMI := (yX0_add, cX0_add, 2, none, 1)
theorem oX0_add : gMOk qX0_add := ⟨by decide +kernel, ⟨by decide +kernel, by decide +kernel, by decide +kernel⟩, gW0_mem (gt_2 (List.mem_of_getElem? (i := 185) (by decide +kernel))) rfl, gW0_mem (gt_1 (List.mem_of_getElem? (i := 2) (by decide +kernel))) rfl, by decide⟩
theorem vX0_add : gVOk qX0_add := ⟨gW0_mem (gt_2 (List.mem_of_getElem? (i := 183) (by decide +kernel))) rfl, gW0_mem (gt_2 (List.mem_of_getElem? (i := 184) (by decide +kernel))) rfl⟩
def qX0_addNumber : gMI := (yX0_addNumber, cX0_addNumber, 2, none, 1)
theorem oX0_addNumber : gMOk qX0_addNumber := ⟨by decide +kernel, ⟨by decide +kernel, by decide +kernel, by decide +kernel⟩, gW0_mem (gt_2 (List.mem_of_getElem? (i := 181) (by decide +kernel))) rfl, gW0_mem (gt_1 (List.mem_of_getElem? (i := 2) (by decide +kernel))) rfl, by decide⟩
theorem vX0_addNumber : gVOk qX0_addNumber := ⟨gW0_mem (gt_2 (List.mem_of_getElem? (i := 179) (by decide +kernel))) rfl, gW0_mem (gt_2 (List.mem_of_getElem? (i := 180) (by decide +kernel))) rfl⟩
def qX0_addDecimal : gMI := (yX0_addDecimal, cX0_addDecimal, 2, none, 1)
theorem oX0_addDecimal : gMOk qX0_addDecimal := ⟨by decide +kernel, ⟨by decide +kernel, by decide +kernel, by decide +kernel⟩, gW0_mem (gt_6 (List.mem_of_getElem? (i := 24) (by decide +kernel))) rfl, gW0_mem (gt_1 (List.mem_of_getElem? (i := 2) (by decide +kernel))) rfl, by decide⟩
theorem vX0_addDecimal : gVOk qX0_addDecimal := ⟨gW0_mem (gt_6 (List.mem_of_getElem? (i := 22) (by decide +kernel))) rfl, gW0_mem (gt_6 (List.mem_of_getElem? (i := 23) (by decide +kernel))) rfl⟩
def qX0_get : gMI := (yX0_get, cX0_get, 2, (some .int), 1)
theorem oX0_get : gMOk qX0_get := ⟨by decide +kernel, ⟨by decide +kernel, by decide +kernel, by decide +kernel⟩, gW0_mem (gt_2 (List.mem_of_getElem? (i := 234) (by decide +kernel))) rfl, gW0_mem (gt_1 (List.mem_of_getElem? (i := 2) (by decide +kernel))) rfl, by decide⟩
theorem vX0_get : gVOk qX0_get := ⟨gW0_mem (gt_2 (List.mem_of_getElem? (i := 232) (by decide +kernel))) rfl, gW0_mem (gt_2 (List.mem_of_getElem? (i := 233) (by decide +kernel))) rfl⟩
def qX1_init : gMI := (yX1_init, cX1_init, 1, none, 0)
theorem oX1_init : gMOk qX1_init := ⟨by decide +kernel, ⟨by decide +kernel, by decide +kernel, by decide +kernel⟩, gW0_mem (gt_1 (List.mem_of_getElem? (i := 158) (by decide +kernel))) rfl, gW0_mem (gt_1 (List.mem_of_getElem? (i := 8) (by decide +kernel))) rfl, by decide⟩
theorem iX1_init : qX1_init.1.name = "<init>" ∧ Cond.instanceMethod qX1_init.1 ∈ gW0 := ⟨rfl, gW0_mem (gt_1 (List.mem_of_getElem? (i := 157) (by decide +kernel))) rfl⟩
def qX1_clear : gMI := (yX1_clear, cX1_clear, 1, none, 0)
theorem oX1_clear : gMOk qX1_clear := ⟨by decide +kernel, ⟨by decide +kernel, by decide +kernel, by decide +kernel⟩, gW0_mem (gt_2 (List.mem_of_getElem? (i := 128) (by decide +kernel))) rfl, gW0_mem (gt_1 (List.mem_of_getElem? (i := 8) (by decide +kernel))) rfl, by decide⟩
theorem vX1_clear : gVOk qX1_clear := ⟨gW0_mem (gt_2 (List.mem_of_getElem? (i := 126) (by decide +kernel))) rfl, gW0_mem (gt_2 (List.mem_of_getElem? (i := 127) (by decide +kernel))) rfl⟩
def qX1_compare : gMI := (yX1_compare, cX1_compare, 4, none, 2)
theorem oX1_compare : gMOk qX1_compare := ⟨by decide +kernel, ⟨by decide +kernel, by decide +kernel, by decide +kernel⟩, gW0_mem (gt_2 (List.mem_of_getElem? (i := 124) (by decide +kernel))) rfl, gW0_mem (gt_1 (List.mem_of_getElem? (i := 8) (by decide +kernel))) rfl, by decide⟩
theorem vX1_compare : gVOk qX1_compare := ⟨gW0_mem (gt_2 (List.mem_of_getElem? (i := 122) (by decide +kernel))) rfl, gW0_mem (gt_2 (List.mem_of_getElem? (i := 123) (by decide +kernel))) rfl⟩
def qX2_init : gMI := (yX2_init, cX2_init, 1, none, 0)
theorem oX2_init : gMOk qX2_init := ⟨by decide +kernel, ⟨by decide +kernel, by decide +kernel, by decide +kernel⟩, gW0_mem (gt_1 (List.mem_of_getElem? (i := 238) (by decide +kernel))) rfl, gW0_mem (gt_1 (List.mem_of_getElem? (i := 12) (by decide +kernel))) rfl, by decide⟩
theorem iX2_init : qX2_init.1.name = "<init>" ∧ Cond.instanceMethod qX2_init.1 ∈ gW0 := ⟨rfl, gW0_mem (gt_1 (List.mem_of_getElem? (i := 237) (by decide +kernel))) rfl⟩
def qX2_clear : gMI := (yX2_clear, cX2_clear, 1, none, 0)
theorem oX2_clear : gMOk qX2_clear := ⟨by decide +kernel, ⟨by decide +kernel, by decide +kernel, by decide +kernel⟩, gW0_mem (gt_5 (List.mem_of_getElem? (i := 42) (by decide +kernel))) rfl, gW0_mem (gt_1 (List.mem_of_getElem? (i := 12) (by decide +kernel))) rfl, by decide⟩
theorem vX2_clear : gVOk qX2_clear := ⟨gW0_mem (gt_5 (List.mem_of_getElem? (i := 40) (by decide +kernel))) rfl, gW0_mem (gt_5 (List.mem_of_getElem? (i := 41) (by decide +kernel))) rfl⟩
def qX2_widen : gMI := (yX2_widen, cX2_widen, 6, none, 3)
theorem oX2_widen : gMOk qX2_widen := ⟨by decide +kernel, ⟨by decide +kernel, by decide +kernel, by decide +kernel⟩, gW0_mem (gt_5 (List.mem_of_getElem? (i := 47) (by decide +kernel))) rfl, gW0_mem (gt_1 (List.mem_of_getElem? (i := 12) (by decide +kernel))) rfl, by decide⟩
theorem vX2_widen : gVOk qX2_widen := ⟨gW0_mem (gt_5 (List.mem_of_getElem? (i := 45) (by decide +kernel))) rfl, gW0_mem (gt_5 (List.mem_of_getElem? (i := 46) (by decide +kernel))) rfl⟩
def qX2_most : gMI := (yX2_most, cX2_most, 4, (some .int), 2)
theorem oX2_most : gMOk qX2_most := ⟨by decide +kernel, ⟨by decide +kernel, by decide +kernel, by decide +kernel⟩, gW0_mem (gt_5 (List.mem_of_getElem? (i := 54) (by decide +kernel))) rfl, gW0_mem (gt_1 (List.mem_of_getElem? (i := 12) (by decide +kernel))) rfl, by decide⟩
theorem vX2_most : gVOk qX2_most := ⟨gW0_mem (gt_5 (List.mem_of_getElem? (i := 52) (by decide +kernel))) rfl, gW0_mem (gt_5 (List.mem_of_getElem? (i := 53) (by decide +kernel))) rfl⟩
def qX2_isFound : gMI := (yX2_isFound, cX2_isFound, 9, (some .boolean), 2)
theorem oX2_isFound : gMOk qX2_isFound := ⟨by decide +kernel, ⟨by decide +kernel, by decide +kernel, by decide +kernel⟩, gW0_mem (gt_5 (List.mem_of_getElem? (i := 58) (by decide +kernel))) rfl, gW0_mem (gt_1 (List.mem_of_getElem? (i := 12) (by decide +kernel))) rfl, by decide⟩
theorem vX2_isFound : gVOk qX2_isFound := ⟨gW0_mem (gt_5 (List.mem_of_getElem? (i := 57) (by decide +kernel))) rfl, gW0_mem (gt_0 (List.mem_of_getElem? (i := 18) (by decide +kernel))) rfl⟩
def qX2_fillWay : gMI := (yX2_fillWay, cX2_fillWay, 6, none, 2)
theorem oX2_fillWay : gMOk qX2_fillWay := ⟨by decide +kernel, ⟨by decide +kernel, by decide +kernel, by decide +kernel⟩, gW0_mem (gt_5 (List.mem_of_getElem? (i := 65) (by decide +kernel))) rfl, gW0_mem (gt_1 (List.mem_of_getElem? (i := 12) (by decide +kernel))) rfl, by decide⟩
theorem vX2_fillWay : gVOk qX2_fillWay := ⟨gW0_mem (gt_5 (List.mem_of_getElem? (i := 64) (by decide +kernel))) rfl, gW0_mem (gt_0 (List.mem_of_getElem? (i := 19) (by decide +kernel))) rfl⟩
def qX3_init : gMI := (yX3_init, cX3_init, 1, none, 0)
theorem oX3_init : gMOk qX3_init := ⟨by decide +kernel, ⟨by decide +kernel, by decide +kernel, by decide +kernel⟩, gW0_mem (gt_1 (List.mem_of_getElem? (i := 189) (by decide +kernel))) rfl, gW0_mem (gt_1 (List.mem_of_getElem? (i := 10) (by decide +kernel))) rfl, by decide⟩
theorem iX3_init : qX3_init.1.name = "<init>" ∧ Cond.instanceMethod qX3_init.1 ∈ gW0 := ⟨rfl, gW0_mem (gt_1 (List.mem_of_getElem? (i := 188) (by decide +kernel))) rfl⟩
def qX3_weigh : gMI := (yX3_weigh, cX3_weigh, 4, none, 1)
theorem oX3_weigh : gMOk qX3_weigh := ⟨by decide +kernel, ⟨by decide +kernel, by decide +kernel, by decide +kernel⟩, gW0_mem (gt_2 (List.mem_of_getElem? (i := 77) (by decide +kernel))) rfl, gW0_mem (gt_1 (List.mem_of_getElem? (i := 10) (by decide +kernel))) rfl, by decide⟩
theorem vX3_weigh : gVOk qX3_weigh := ⟨gW0_mem (gt_2 (List.mem_of_getElem? (i := 75) (by decide +kernel))) rfl, gW0_mem (gt_2 (List.mem_of_getElem? (i := 76) (by decide +kernel))) rfl⟩
def qX3_addGate : gMI := (yX3_addGate, cX3_addGate, 4, none, 2)
theorem oX3_addGate : gMOk qX3_addGate := ⟨by decide +kernel, ⟨by decide +kernel, by decide +kernel, by decide +kernel⟩, gW0_mem (gt_2 (List.mem_of_getElem? (i := 103) (by decide +kernel))) rfl, gW0_mem (gt_1 (List.mem_of_getElem? (i := 10) (by decide +kernel))) rfl, by decide⟩
theorem vX3_addGate : gVOk qX3_addGate := ⟨gW0_mem (gt_2 (List.mem_of_getElem? (i := 102) (by decide +kernel))) rfl, gW0_mem (gt_0 (List.mem_of_getElem? (i := 0) (by decide +kernel))) rfl⟩
def qX3_depth : gMI := (yX3_depth, cX3_depth, 2, (some .int), 1)
theorem oX3_depth : gMOk qX3_depth := ⟨by decide +kernel, ⟨by decide +kernel, by decide +kernel, by decide +kernel⟩, gW0_mem (gt_2 (List.mem_of_getElem? (i := 133) (by decide +kernel))) rfl, gW0_mem (gt_1 (List.mem_of_getElem? (i := 10) (by decide +kernel))) rfl, by decide⟩
theorem vX3_depth : gVOk qX3_depth := ⟨gW0_mem (gt_2 (List.mem_of_getElem? (i := 131) (by decide +kernel))) rfl, gW0_mem (gt_2 (List.mem_of_getElem? (i := 132) (by decide +kernel))) rfl⟩
def qX3_deepest : gMI := (yX3_deepest, cX3_deepest, 6, (some .int), 1)
theorem oX3_deepest : gMOk qX3_deepest := ⟨by decide +kernel, ⟨by decide +kernel, by decide +kernel, by decide +kernel⟩, gW0_mem (gt_2 (List.mem_of_getElem? (i := 108) (by decide +kernel))) rfl, gW0_mem (gt_1 (List.mem_of_getElem? (i := 10) (by decide +kernel))) rfl, by decide⟩
theorem vX3_deepest : gVOk qX3_deepest := ⟨gW0_mem (gt_2 (List.mem_of_getElem? (i := 106) (by decide +kernel))) rfl, gW0_mem (gt_2 (List.mem_of_getElem? (i := 107) (by decide +kernel))) rfl⟩
def qX3_deepestDepth : gMI := (yX3_deepestDepth, cX3_deepestDepth, 1, (some .int), 0)
theorem oX3_deepestDepth : gMOk qX3_deepestDepth := ⟨by decide +kernel, ⟨by decide +kernel, by decide +kernel, by decide +kernel⟩, gW0_mem (gt_3 (List.mem_of_getElem? (i := 33) (by decide +kernel))) rfl, gW0_mem (gt_1 (List.mem_of_getElem? (i := 10) (by decide +kernel))) rfl, by decide⟩
theorem vX3_deepestDepth : gVOk qX3_deepestDepth := ⟨gW0_mem (gt_3 (List.mem_of_getElem? (i := 31) (by decide +kernel))) rfl, gW0_mem (gt_3 (List.mem_of_getElem? (i := 32) (by decide +kernel))) rfl⟩
def qX3_allDepths : gMI := (yX3_allDepths, cX3_allDepths, 3, (some .int), 0)
theorem oX3_allDepths : gMOk qX3_allDepths := ⟨by decide +kernel, ⟨by decide +kernel, by decide +kernel, by decide +kernel⟩, gW0_mem (gt_3 (List.mem_of_getElem? (i := 81) (by decide +kernel))) rfl, gW0_mem (gt_1 (List.mem_of_getElem? (i := 10) (by decide +kernel))) rfl, by decide⟩
theorem vX3_allDepths : gVOk qX3_allDepths := ⟨gW0_mem (gt_3 (List.mem_of_getElem? (i := 79) (by decide +kernel))) rfl, gW0_mem (gt_3 (List.mem_of_getElem? (i := 80) (by decide +kernel))) rfl⟩
def qX4_init : gMI := (yX4_init, cX4_init, 1, none, 0)
theorem oX4_init : gMOk qX4_init := ⟨by decide +kernel, ⟨by decide +kernel, by decide +kernel, by decide +kernel⟩, gW0_mem (gt_1 (List.mem_of_getElem? (i := 223) (by decide +kernel))) rfl, gW0_mem (gt_1 (List.mem_of_getElem? (i := 11) (by decide +kernel))) rfl, by decide⟩
theorem iX4_init : qX4_init.1.name = "<init>" ∧ Cond.instanceMethod qX4_init.1 ∈ gW0 := ⟨rfl, gW0_mem (gt_1 (List.mem_of_getElem? (i := 222) (by decide +kernel))) rfl⟩
def qX4_weigh : gMI := (yX4_weigh, cX4_weigh, 5, none, 2)
theorem oX4_weigh : gMOk qX4_weigh := ⟨by decide +kernel, ⟨by decide +kernel, by decide +kernel, by decide +kernel⟩, gW0_mem (gt_3 (List.mem_of_getElem? (i := 43) (by decide +kernel))) rfl, gW0_mem (gt_1 (List.mem_of_getElem? (i := 11) (by decide +kernel))) rfl, by decide⟩
theorem vX4_weigh : gVOk qX4_weigh := ⟨gW0_mem (gt_3 (List.mem_of_getElem? (i := 41) (by decide +kernel))) rfl, gW0_mem (gt_3 (List.mem_of_getElem? (i := 42) (by decide +kernel))) rfl⟩
def qX4_holding : gMI := (yX4_holding, cX4_holding, 4, (some .int), 1)
theorem oX4_holding : gMOk qX4_holding := ⟨by decide +kernel, ⟨by decide +kernel, by decide +kernel, by decide +kernel⟩, gW0_mem (gt_3 (List.mem_of_getElem? (i := 93) (by decide +kernel))) rfl, gW0_mem (gt_1 (List.mem_of_getElem? (i := 11) (by decide +kernel))) rfl, by decide⟩
theorem vX4_holding : gVOk qX4_holding := ⟨gW0_mem (gt_3 (List.mem_of_getElem? (i := 91) (by decide +kernel))) rfl, gW0_mem (gt_3 (List.mem_of_getElem? (i := 92) (by decide +kernel))) rfl⟩
def qX4_size : gMI := (yX4_size, cX4_size, 2, (some .int), 1)
theorem oX4_size : gMOk qX4_size := ⟨by decide +kernel, ⟨by decide +kernel, by decide +kernel, by decide +kernel⟩, gW0_mem (gt_5 (List.mem_of_getElem? (i := 105) (by decide +kernel))) rfl, gW0_mem (gt_1 (List.mem_of_getElem? (i := 11) (by decide +kernel))) rfl, by decide⟩
theorem vX4_size : gVOk qX4_size := ⟨gW0_mem (gt_5 (List.mem_of_getElem? (i := 103) (by decide +kernel))) rfl, gW0_mem (gt_5 (List.mem_of_getElem? (i := 104) (by decide +kernel))) rfl⟩
def qX4_smallest : gMI := (yX4_smallest, cX4_smallest, 6, (some .int), 2)
theorem oX4_smallest : gMOk qX4_smallest := ⟨by decide +kernel, ⟨by decide +kernel, by decide +kernel, by decide +kernel⟩, gW0_mem (gt_5 (List.mem_of_getElem? (i := 101) (by decide +kernel))) rfl, gW0_mem (gt_1 (List.mem_of_getElem? (i := 11) (by decide +kernel))) rfl, by decide⟩
theorem vX4_smallest : gVOk qX4_smallest := ⟨gW0_mem (gt_5 (List.mem_of_getElem? (i := 99) (by decide +kernel))) rfl, gW0_mem (gt_5 (List.mem_of_getElem? (i := 100) (by decide +kernel))) rfl⟩
def qX5_init : gMI := (yX5_init, cX5_init, 2, none, 0)
theorem oX5_init : gMOk qX5_init := ⟨by decide +kernel, ⟨by decide +kernel, by decide +kernel, by decide +kernel⟩, gW0_mem (gt_1 (List.mem_of_getElem? (i := 141) (by decide +kernel))) rfl, gW0_mem (gt_1 (List.mem_of_getElem? (i := 7) (by decide +kernel))) rfl, by decide⟩
theorem iX5_init : qX5_init.1.name = "<init>" ∧ Cond.instanceMethod qX5_init.1 ∈ gW0 := ⟨rfl, gW0_mem (gt_1 (List.mem_of_getElem? (i := 140) (by decide +kernel))) rfl⟩
def qX5_push : gMI := (yX5_push, cX5_push, 2, none, 1)
theorem oX5_push : gMOk qX5_push := ⟨by decide +kernel, ⟨by decide +kernel, by decide +kernel, by decide +kernel⟩, gW0_mem (gt_4 (List.mem_of_getElem? (i := 133) (by decide +kernel))) rfl, gW0_mem (gt_1 (List.mem_of_getElem? (i := 7) (by decide +kernel))) rfl, by decide⟩
theorem vX5_push : gVOk qX5_push := ⟨gW0_mem (gt_4 (List.mem_of_getElem? (i := 131) (by decide +kernel))) rfl, gW0_mem (gt_4 (List.mem_of_getElem? (i := 132) (by decide +kernel))) rfl⟩
def qX5_forgetFirst : gMI := (yX5_forgetFirst, cX5_forgetFirst, 3, none, 0)
theorem oX5_forgetFirst : gMOk qX5_forgetFirst := ⟨by decide +kernel, ⟨by decide +kernel, by decide +kernel, by decide +kernel⟩, gW0_mem (gt_4 (List.mem_of_getElem? (i := 137) (by decide +kernel))) rfl, gW0_mem (gt_1 (List.mem_of_getElem? (i := 7) (by decide +kernel))) rfl, by decide⟩
theorem vX5_forgetFirst : gVOk qX5_forgetFirst := ⟨gW0_mem (gt_4 (List.mem_of_getElem? (i := 136) (by decide +kernel))) rfl, gW0_mem (gt_0 (List.mem_of_getElem? (i := 17) (by decide +kernel))) rfl⟩
def qX5_pop : gMI := (yX5_pop, cX5_pop, 3, none, 1)
theorem oX5_pop : gMOk qX5_pop := ⟨by decide +kernel, ⟨by decide +kernel, by decide +kernel, by decide +kernel⟩, gW0_mem (gt_4 (List.mem_of_getElem? (i := 195) (by decide +kernel))) rfl, gW0_mem (gt_1 (List.mem_of_getElem? (i := 7) (by decide +kernel))) rfl, by decide⟩
theorem vX5_pop : gVOk qX5_pop := ⟨gW0_mem (gt_4 (List.mem_of_getElem? (i := 193) (by decide +kernel))) rfl, gW0_mem (gt_4 (List.mem_of_getElem? (i := 194) (by decide +kernel))) rfl⟩
def qX6_init : gMI := (yX6_init, cX6_init, 1, none, 0)
theorem oX6_init : gMOk qX6_init := ⟨by decide +kernel, ⟨by decide +kernel, by decide +kernel, by decide +kernel⟩, gW0_mem (gt_1 (List.mem_of_getElem? (i := 88) (by decide +kernel))) rfl, gW0_mem (gt_1 (List.mem_of_getElem? (i := 5) (by decide +kernel))) rfl, by decide⟩
theorem iX6_init : qX6_init.1.name = "<init>" ∧ Cond.instanceMethod qX6_init.1 ∈ gW0 := ⟨rfl, gW0_mem (gt_1 (List.mem_of_getElem? (i := 87) (by decide +kernel))) rfl⟩
def qX6_reset : gMI := (yX6_reset, cX6_reset, 2, none, 1)
theorem oX6_reset : gMOk qX6_reset := ⟨by decide +kernel, ⟨by decide +kernel, by decide +kernel, by decide +kernel⟩, gW0_mem (gt_1 (List.mem_of_getElem? (i := 93) (by decide +kernel))) rfl, gW0_mem (gt_1 (List.mem_of_getElem? (i := 5) (by decide +kernel))) rfl, by decide⟩
theorem vX6_reset : gVOk qX6_reset := ⟨gW0_mem (gt_1 (List.mem_of_getElem? (i := 91) (by decide +kernel))) rfl, gW0_mem (gt_1 (List.mem_of_getElem? (i := 92) (by decide +kernel))) rfl⟩
def qX6_copy : gMI := (yX6_copy, cX6_copy, 2, none, 1)
theorem oX6_copy : gMOk qX6_copy := ⟨by decide +kernel, ⟨by decide +kernel, by decide +kernel, by decide +kernel⟩, gW0_mem (gt_3 (List.mem_of_getElem? (i := 2) (by decide +kernel))) rfl, gW0_mem (gt_1 (List.mem_of_getElem? (i := 5) (by decide +kernel))) rfl, by decide⟩
theorem vX6_copy : gVOk qX6_copy := ⟨gW0_mem (gt_3 (List.mem_of_getElem? (i := 0) (by decide +kernel))) rfl, gW0_mem (gt_3 (List.mem_of_getElem? (i := 1) (by decide +kernel))) rfl⟩
def qX6_hasNode : gMI := (yX6_hasNode, cX6_hasNode, 2, (some .boolean), 1)
theorem oX6_hasNode : gMOk qX6_hasNode := ⟨by decide +kernel, ⟨by decide +kernel, by decide +kernel, by decide +kernel⟩, gW0_mem (gt_4 (List.mem_of_getElem? (i := 24) (by decide +kernel))) rfl, gW0_mem (gt_1 (List.mem_of_getElem? (i := 5) (by decide +kernel))) rfl, by decide⟩
theorem vX6_hasNode : gVOk qX6_hasNode := ⟨gW0_mem (gt_4 (List.mem_of_getElem? (i := 22) (by decide +kernel))) rfl, gW0_mem (gt_4 (List.mem_of_getElem? (i := 23) (by decide +kernel))) rfl⟩
def qX6_hasArc : gMI := (yX6_hasArc, cX6_hasArc, 2, (some .boolean), 1)
theorem oX6_hasArc : gMOk qX6_hasArc := ⟨by decide +kernel, ⟨by decide +kernel, by decide +kernel, by decide +kernel⟩, gW0_mem (gt_2 (List.mem_of_getElem? (i := 63) (by decide +kernel))) rfl, gW0_mem (gt_1 (List.mem_of_getElem? (i := 5) (by decide +kernel))) rfl, by decide⟩
theorem vX6_hasArc : gVOk qX6_hasArc := ⟨gW0_mem (gt_2 (List.mem_of_getElem? (i := 61) (by decide +kernel))) rfl, gW0_mem (gt_2 (List.mem_of_getElem? (i := 62) (by decide +kernel))) rfl⟩
def qX6_isOpen : gMI := (yX6_isOpen, cX6_isOpen, 2, (some .boolean), 1)
theorem oX6_isOpen : gMOk qX6_isOpen := ⟨by decide +kernel, ⟨by decide +kernel, by decide +kernel, by decide +kernel⟩, gW0_mem (gt_2 (List.mem_of_getElem? (i := 59) (by decide +kernel))) rfl, gW0_mem (gt_1 (List.mem_of_getElem? (i := 5) (by decide +kernel))) rfl, by decide⟩
theorem vX6_isOpen : gVOk qX6_isOpen := ⟨gW0_mem (gt_2 (List.mem_of_getElem? (i := 57) (by decide +kernel))) rfl, gW0_mem (gt_2 (List.mem_of_getElem? (i := 58) (by decide +kernel))) rfl⟩
def qX6_all : gMI := (yX6_all, cX6_all, 1, (some .int), 0)
theorem oX6_all : gMOk qX6_all := ⟨by decide +kernel, ⟨by decide +kernel, by decide +kernel, by decide +kernel⟩, gW0_mem (gt_5 (List.mem_of_getElem? (i := 163) (by decide +kernel))) rfl, gW0_mem (gt_1 (List.mem_of_getElem? (i := 5) (by decide +kernel))) rfl, by decide⟩
theorem vX6_all : gVOk qX6_all := ⟨gW0_mem (gt_5 (List.mem_of_getElem? (i := 161) (by decide +kernel))) rfl, gW0_mem (gt_5 (List.mem_of_getElem? (i := 162) (by decide +kernel))) rfl⟩
def qX6_refusal : gMI := (yX6_refusal, cX6_refusal, 4, (some .int), 3)
theorem oX6_refusal : gMOk qX6_refusal := ⟨by decide +kernel, ⟨by decide +kernel, by decide +kernel, by decide +kernel⟩, gW0_mem (gt_4 (List.mem_of_getElem? (i := 16) (by decide +kernel))) rfl, gW0_mem (gt_1 (List.mem_of_getElem? (i := 5) (by decide +kernel))) rfl, by decide⟩
theorem vX6_refusal : gVOk qX6_refusal := ⟨gW0_mem (gt_4 (List.mem_of_getElem? (i := 14) (by decide +kernel))) rfl, gW0_mem (gt_4 (List.mem_of_getElem? (i := 15) (by decide +kernel))) rfl⟩
def qX6_refusalOfNode : gMI := (yX6_refusalOfNode, cX6_refusalOfNode, 3, (some .int), 2)
theorem oX6_refusalOfNode : gMOk qX6_refusalOfNode := ⟨by decide +kernel, ⟨by decide +kernel, by decide +kernel, by decide +kernel⟩, gW0_mem (gt_4 (List.mem_of_getElem? (i := 20) (by decide +kernel))) rfl, gW0_mem (gt_1 (List.mem_of_getElem? (i := 5) (by decide +kernel))) rfl, by decide⟩
theorem vX6_refusalOfNode : gVOk qX6_refusalOfNode := ⟨gW0_mem (gt_4 (List.mem_of_getElem? (i := 19) (by decide +kernel))) rfl, gW0_mem (gt_0 (List.mem_of_getElem? (i := 12) (by decide +kernel))) rfl⟩
def qX6_refusalOfArc : gMI := (yX6_refusalOfArc, cX6_refusalOfArc, 3, (some .int), 2)
theorem oX6_refusalOfArc : gMOk qX6_refusalOfArc := ⟨by decide +kernel, ⟨by decide +kernel, by decide +kernel, by decide +kernel⟩, gW0_mem (gt_4 (List.mem_of_getElem? (i := 28) (by decide +kernel))) rfl, gW0_mem (gt_1 (List.mem_of_getElem? (i := 5) (by decide +kernel))) rfl, by decide⟩
theorem vX6_refusalOfArc : gVOk qX6_refusalOfArc := ⟨gW0_mem (gt_4 (List.mem_of_getElem? (i := 27) (by decide +kernel))) rfl, gW0_mem (gt_0 (List.mem_of_getElem? (i := 13) (by decide +kernel))) rfl⟩
def qX6_perform : gMI := (yX6_perform, cX6_perform, 4, none, 3)
theorem oX6_perform : gMOk qX6_perform := ⟨by decide +kernel, ⟨by decide +kernel, by decide +kernel, by decide +kernel⟩, gW0_mem (gt_4 (List.mem_of_getElem? (i := 32) (by decide +kernel))) rfl, gW0_mem (gt_1 (List.mem_of_getElem? (i := 5) (by decide +kernel))) rfl, by decide⟩
theorem vX6_perform : gVOk qX6_perform := ⟨gW0_mem (gt_4 (List.mem_of_getElem? (i := 30) (by decide +kernel))) rfl, gW0_mem (gt_4 (List.mem_of_getElem? (i := 31) (by decide +kernel))) rfl⟩
def qX6_addArc : gMI := (yX6_addArc, cX6_addArc, 3, none, 2)
theorem oX6_addArc : gMOk qX6_addArc := ⟨by decide +kernel, ⟨by decide +kernel, by decide +kernel, by decide +kernel⟩, gW0_mem (gt_4 (List.mem_of_getElem? (i := 36) (by decide +kernel))) rfl, gW0_mem (gt_1 (List.mem_of_getElem? (i := 5) (by decide +kernel))) rfl, by decide⟩
theorem vX6_addArc : gVOk qX6_addArc := ⟨gW0_mem (gt_4 (List.mem_of_getElem? (i := 35) (by decide +kernel))) rfl, gW0_mem (gt_0 (List.mem_of_getElem? (i := 14) (by decide +kernel))) rfl⟩
def qX6_fill : gMI := (yX6_fill, cX6_fill, 5, none, 2)
theorem oX6_fill : gMOk qX6_fill := ⟨by decide +kernel, ⟨by decide +kernel, by decide +kernel, by decide +kernel⟩, gW0_mem (gt_2 (List.mem_of_getElem? (i := 55) (by decide +kernel))) rfl, gW0_mem (gt_1 (List.mem_of_getElem? (i := 5) (by decide +kernel))) rfl, by decide⟩
theorem vX6_fill : gVOk qX6_fill := ⟨gW0_mem (gt_2 (List.mem_of_getElem? (i := 53) (by decide +kernel))) rfl, gW0_mem (gt_2 (List.mem_of_getElem? (i := 54) (by decide +kernel))) rfl⟩
def qX7_init : gMI := (yX7_init, cX7_init, 2, none, 1)
theorem oX7_init : gMOk qX7_init := ⟨by decide +kernel, ⟨by decide +kernel, by decide +kernel, by decide +kernel⟩, gW0_mem (gt_1 (List.mem_of_getElem? (i := 59) (by decide +kernel))) rfl, gW0_mem (gt_1 (List.mem_of_getElem? (i := 4) (by decide +kernel))) rfl, by decide⟩
theorem iX7_init : qX7_init.1.name = "<init>" ∧ Cond.instanceMethod qX7_init.1 ∈ gW0 := ⟨rfl, gW0_mem (gt_1 (List.mem_of_getElem? (i := 58) (by decide +kernel))) rfl⟩
def qX7_rewind : gMI := (yX7_rewind, cX7_rewind, 1, none, 0)
theorem oX7_rewind : gMOk qX7_rewind := ⟨by decide +kernel, ⟨by decide +kernel, by decide +kernel, by decide +kernel⟩, gW0_mem (gt_3 (List.mem_of_getElem? (i := 146) (by decide +kernel))) rfl, gW0_mem (gt_1 (List.mem_of_getElem? (i := 4) (by decide +kernel))) rfl, by decide⟩
theorem vX7_rewind : gVOk qX7_rewind := ⟨gW0_mem (gt_3 (List.mem_of_getElem? (i := 144) (by decide +kernel))) rfl, gW0_mem (gt_3 (List.mem_of_getElem? (i := 145) (by decide +kernel))) rfl⟩
def qX7_next : gMI := (yX7_next, cX7_next, 2, (some .int), 0)
theorem oX7_next : gMOk qX7_next := ⟨by decide +kernel, ⟨by decide +kernel, by decide +kernel, by decide +kernel⟩, gW0_mem (gt_3 (List.mem_of_getElem? (i := 154) (by decide +kernel))) rfl, gW0_mem (gt_1 (List.mem_of_getElem? (i := 4) (by decide +kernel))) rfl, by decide⟩
theorem vX7_next : gVOk qX7_next := ⟨gW0_mem (gt_3 (List.mem_of_getElem? (i := 152) (by decide +kernel))) rfl, gW0_mem (gt_3 (List.mem_of_getElem? (i := 153) (by decide +kernel))) rfl⟩
def qX7_isAtEnd : gMI := (yX7_isAtEnd, cX7_isAtEnd, 1, (some .boolean), 0)
theorem oX7_isAtEnd : gMOk qX7_isAtEnd := ⟨by decide +kernel, ⟨by decide +kernel, by decide +kernel, by decide +kernel⟩, gW0_mem (gt_3 (List.mem_of_getElem? (i := 150) (by decide +kernel))) rfl, gW0_mem (gt_1 (List.mem_of_getElem? (i := 4) (by decide +kernel))) rfl, by decide⟩
theorem vX7_isAtEnd : gVOk qX7_isAtEnd := ⟨gW0_mem (gt_3 (List.mem_of_getElem? (i := 148) (by decide +kernel))) rfl, gW0_mem (gt_3 (List.mem_of_getElem? (i := 149) (by decide +kernel))) rfl⟩
def qX7_take : gMI := (yX7_take, cX7_take, 2, (some .boolean), 1)
theorem oX7_take : gMOk qX7_take := ⟨by decide +kernel, ⟨by decide +kernel, by decide +kernel, by decide +kernel⟩, gW0_mem (gt_4 (List.mem_of_getElem? (i := 4) (by decide +kernel))) rfl, gW0_mem (gt_1 (List.mem_of_getElem? (i := 4) (by decide +kernel))) rfl, by decide⟩
theorem vX7_take : gVOk qX7_take := ⟨gW0_mem (gt_4 (List.mem_of_getElem? (i := 2) (by decide +kernel))) rfl, gW0_mem (gt_4 (List.mem_of_getElem? (i := 3) (by decide +kernel))) rfl⟩
def qX7_readAct : gMI := (yX7_readAct, cX7_readAct, 3, (some .int), 0)
theorem oX7_readAct : gMOk qX7_readAct := ⟨by decide +kernel, ⟨by decide +kernel, by decide +kernel, by decide +kernel⟩, gW0_mem (gt_3 (List.mem_of_getElem? (i := 159) (by decide +kernel))) rfl, gW0_mem (gt_1 (List.mem_of_getElem? (i := 4) (by decide +kernel))) rfl, by decide⟩
theorem vX7_readAct : gVOk qX7_readAct := ⟨gW0_mem (gt_3 (List.mem_of_getElem? (i := 157) (by decide +kernel))) rfl, gW0_mem (gt_3 (List.mem_of_getElem? (i := 158) (by decide +kernel))) rfl⟩
def qX7_readWord : gMI := (yX7_readWord, cX7_readWord, 3, (some .int), 0)
theorem oX7_readWord : gMOk qX7_readWord := ⟨by decide +kernel, ⟨by decide +kernel, by decide +kernel, by decide +kernel⟩, gW0_mem (gt_3 (List.mem_of_getElem? (i := 163) (by decide +kernel))) rfl, gW0_mem (gt_1 (List.mem_of_getElem? (i := 4) (by decide +kernel))) rfl, by decide⟩
theorem vX7_readWord : gVOk qX7_readWord := ⟨gW0_mem (gt_3 (List.mem_of_getElem? (i := 162) (by decide +kernel))) rfl, gW0_mem (gt_0 (List.mem_of_getElem? (i := 7) (by decide +kernel))) rfl⟩
def qX7_isSpelt : gMI := (yX7_isSpelt, cX7_isSpelt, 4, (some .boolean), 2)
theorem oX7_isSpelt : gMOk qX7_isSpelt := ⟨by decide +kernel, ⟨by decide +kernel, by decide +kernel, by decide +kernel⟩, gW0_mem (gt_3 (List.mem_of_getElem? (i := 171) (by decide +kernel))) rfl, gW0_mem (gt_1 (List.mem_of_getElem? (i := 4) (by decide +kernel))) rfl, by decide⟩
theorem vX7_isSpelt : gVOk qX7_isSpelt := ⟨gW0_mem (gt_3 (List.mem_of_getElem? (i := 170) (by decide +kernel))) rfl, gW0_mem (gt_0 (List.mem_of_getElem? (i := 8) (by decide +kernel))) rfl⟩
def qX7_readTold : gMI := (yX7_readTold, cX7_readTold, 2, (some .boolean), 1)
theorem oX7_readTold : gMOk qX7_readTold := ⟨by decide +kernel, ⟨by decide +kernel, by decide +kernel, by decide +kernel⟩, gW0_mem (gt_3 (List.mem_of_getElem? (i := 229) (by decide +kernel))) rfl, gW0_mem (gt_1 (List.mem_of_getElem? (i := 4) (by decide +kernel))) rfl, by decide⟩
theorem vX7_readTold : gVOk qX7_readTold := ⟨gW0_mem (gt_3 (List.mem_of_getElem? (i := 228) (by decide +kernel))) rfl, gW0_mem (gt_0 (List.mem_of_getElem? (i := 9) (by decide +kernel))) rfl⟩
def qX7_readNumber : gMI := (yX7_readNumber, cX7_readNumber, 7, (some .boolean), 2)
theorem oX7_readNumber : gMOk qX7_readNumber := ⟨by decide +kernel, ⟨by decide +kernel, by decide +kernel, by decide +kernel⟩, gW0_mem (gt_3 (List.mem_of_getElem? (i := 233) (by decide +kernel))) rfl, gW0_mem (gt_1 (List.mem_of_getElem? (i := 4) (by decide +kernel))) rfl, by decide⟩
theorem vX7_readNumber : gVOk qX7_readNumber := ⟨gW0_mem (gt_3 (List.mem_of_getElem? (i := 232) (by decide +kernel))) rfl, gW0_mem (gt_0 (List.mem_of_getElem? (i := 10) (by decide +kernel))) rfl⟩
def qX7_width : gMI := (yX7_width, cX7_width, 2, (some .int), 1)
theorem oX7_width : gMOk qX7_width := ⟨by decide +kernel, ⟨by decide +kernel, by decide +kernel, by decide +kernel⟩, gW0_mem (gt_4 (List.mem_of_getElem? (i := 12) (by decide +kernel))) rfl, gW0_mem (gt_1 (List.mem_of_getElem? (i := 4) (by decide +kernel))) rfl, by decide⟩
theorem vX7_width : gVOk qX7_width := ⟨gW0_mem (gt_4 (List.mem_of_getElem? (i := 10) (by decide +kernel))) rfl, gW0_mem (gt_4 (List.mem_of_getElem? (i := 11) (by decide +kernel))) rfl⟩
def qX7_isRepeated : gMI := (yX7_isRepeated, cX7_isRepeated, 1, (some .boolean), 1)
theorem oX7_isRepeated : gMOk qX7_isRepeated := ⟨by decide +kernel, ⟨by decide +kernel, by decide +kernel, by decide +kernel⟩, gW0_mem (gt_4 (List.mem_of_getElem? (i := 0) (by decide +kernel))) rfl, gW0_mem (gt_1 (List.mem_of_getElem? (i := 4) (by decide +kernel))) rfl, by decide⟩
theorem sX7_isRepeated : Cond.static qX7_isRepeated.1 ∈ gW0 := gW0_mem (gt_3 (List.mem_of_getElem? (i := 239) (by decide +kernel))) rfl
def qX7_isLetter : gMI := (yX7_isLetter, cX7_isLetter, 1, (some .boolean), 1)
theorem oX7_isLetter : gMOk qX7_isLetter := ⟨by decide +kernel, ⟨by decide +kernel, by decide +kernel, by decide +kernel⟩, gW0_mem (gt_3 (List.mem_of_getElem? (i := 166) (by decide +kernel))) rfl, gW0_mem (gt_1 (List.mem_of_getElem? (i := 4) (by decide +kernel))) rfl, by decide⟩
theorem sX7_isLetter : Cond.static qX7_isLetter.1 ∈ gW0 := gW0_mem (gt_3 (List.mem_of_getElem? (i := 165) (by decide +kernel))) rfl
def qX7_isDigit : gMI := (yX7_isDigit, cX7_isDigit, 1, (some .boolean), 1)
theorem oX7_isDigit : gMOk qX7_isDigit := ⟨by decide +kernel, ⟨by decide +kernel, by decide +kernel, by decide +kernel⟩, gW0_mem (gt_3 (List.mem_of_getElem? (i := 236) (by decide +kernel))) rfl, gW0_mem (gt_1 (List.mem_of_getElem? (i := 4) (by decide +kernel))) rfl, by decide⟩
theorem sX7_isDigit : Cond.static qX7_isDigit.1 ∈ gW0 := gW0_mem (gt_3 (List.mem_of_getElem? (i := 235) (by decide +kernel))) rfl
def qX8_init : gMI := (yX8_init, cX8_init, 2, none, 1)
theorem oX8_init : gMOk qX8_init := ⟨by decide +kernel, ⟨by decide +kernel, by decide +kernel, by decide +kernel⟩, gW0_mem (gt_1 (List.mem_of_getElem? (i := 183) (by decide +kernel))) rfl, gW0_mem (gt_1 (List.mem_of_getElem? (i := 9) (by decide +kernel))) rfl, by decide⟩
theorem iX8_init : qX8_init.1.name = "<init>" ∧ Cond.instanceMethod qX8_init.1 ∈ gW0 := ⟨rfl, gW0_mem (gt_1 (List.mem_of_getElem? (i := 182) (by decide +kernel))) rfl⟩
def qX8_renew : gMI := (yX8_renew, cX8_renew, 3, none, 1)
theorem oX8_renew : gMOk qX8_renew := ⟨by decide +kernel, ⟨by decide +kernel, by decide +kernel, by decide +kernel⟩, gW0_mem (gt_2 (List.mem_of_getElem? (i := 51) (by decide +kernel))) rfl, gW0_mem (gt_1 (List.mem_of_getElem? (i := 9) (by decide +kernel))) rfl, by decide⟩
theorem vX8_renew : gVOk qX8_renew := ⟨gW0_mem (gt_2 (List.mem_of_getElem? (i := 49) (by decide +kernel))) rfl, gW0_mem (gt_2 (List.mem_of_getElem? (i := 50) (by decide +kernel))) rfl⟩
def qX8_fillRear : gMI := (yX8_fillRear, cX8_fillRear, 4, none, 0)
theorem oX8_fillRear : gMOk qX8_fillRear := ⟨by decide +kernel, ⟨by decide +kernel, by decide +kernel, by decide +kernel⟩, gW0_mem (gt_2 (List.mem_of_getElem? (i := 113) (by decide +kernel))) rfl, gW0_mem (gt_1 (List.mem_of_getElem? (i := 9) (by decide +kernel))) rfl, by decide⟩
theorem vX8_fillRear : gVOk qX8_fillRear := ⟨gW0_mem (gt_2 (List.mem_of_getElem? (i := 112) (by decide +kernel))) rfl, gW0_mem (gt_0 (List.mem_of_getElem? (i := 1) (by decide +kernel))) rfl⟩
def qX8_isReached : gMI := (yX8_isReached, cX8_isReached, 2, (some .boolean), 1)
theorem oX8_isReached : gMOk qX8_isReached := ⟨by decide +kernel, ⟨by decide +kernel, by decide +kernel, by decide +kernel⟩, gW0_mem (gt_2 (List.mem_of_getElem? (i := 117) (by decide +kernel))) rfl, gW0_mem (gt_1 (List.mem_of_getElem? (i := 9) (by decide +kernel))) rfl, by decide⟩
theorem vX8_isReached : gVOk qX8_isReached := ⟨gW0_mem (gt_2 (List.mem_of_getElem? (i := 115) (by decide +kernel))) rfl, gW0_mem (gt_2 (List.mem_of_getElem? (i := 116) (by decide +kernel))) rfl⟩
def qX8_keptNearest : gMI := (yX8_keptNearest, cX8_keptNearest, 4, (some .int), 1)
theorem oX8_keptNearest : gMOk qX8_keptNearest := ⟨by decide +kernel, ⟨by decide +kernel, by decide +kernel, by decide +kernel⟩, gW0_mem (gt_5 (List.mem_of_getElem? (i := 10) (by decide +kernel))) rfl, gW0_mem (gt_1 (List.mem_of_getElem? (i := 9) (by decide +kernel))) rfl, by decide⟩
theorem vX8_keptNearest : gVOk qX8_keptNearest := ⟨gW0_mem (gt_5 (List.mem_of_getElem? (i := 8) (by decide +kernel))) rfl, gW0_mem (gt_5 (List.mem_of_getElem? (i := 9) (by decide +kernel))) rfl⟩
def qX8_keepNone : gMI := (yX8_keepNone, cX8_keepNone, 3, (some .int), 0)
theorem oX8_keepNone : gMOk qX8_keepNone := ⟨by decide +kernel, ⟨by decide +kernel, by decide +kernel, by decide +kernel⟩, gW0_mem (gt_3 (List.mem_of_getElem? (i := 85) (by decide +kernel))) rfl, gW0_mem (gt_1 (List.mem_of_getElem? (i := 9) (by decide +kernel))) rfl, by decide⟩
theorem vX8_keepNone : gVOk qX8_keepNone := ⟨gW0_mem (gt_3 (List.mem_of_getElem? (i := 83) (by decide +kernel))) rfl, gW0_mem (gt_3 (List.mem_of_getElem? (i := 84) (by decide +kernel))) rfl⟩
def qX8_upTo : gMI := (yX8_upTo, cX8_upTo, 2, (some .int), 1)
theorem oX8_upTo : gMOk qX8_upTo := ⟨by decide +kernel, ⟨by decide +kernel, by decide +kernel, by decide +kernel⟩, gW0_mem (gt_3 (List.mem_of_getElem? (i := 77) (by decide +kernel))) rfl, gW0_mem (gt_1 (List.mem_of_getElem? (i := 9) (by decide +kernel))) rfl, by decide⟩
theorem vX8_upTo : gVOk qX8_upTo := ⟨gW0_mem (gt_3 (List.mem_of_getElem? (i := 75) (by decide +kernel))) rfl, gW0_mem (gt_3 (List.mem_of_getElem? (i := 76) (by decide +kernel))) rfl⟩
def qX8_edge : gMI := (yX8_edge, cX8_edge, 3, (some .int), 1)
theorem oX8_edge : gMOk qX8_edge := ⟨by decide +kernel, ⟨by decide +kernel, by decide +kernel, by decide +kernel⟩, gW0_mem (gt_5 (List.mem_of_getElem? (i := 14) (by decide +kernel))) rfl, gW0_mem (gt_1 (List.mem_of_getElem? (i := 9) (by decide +kernel))) rfl, by decide⟩
theorem vX8_edge : gVOk qX8_edge := ⟨gW0_mem (gt_5 (List.mem_of_getElem? (i := 12) (by decide +kernel))) rfl, gW0_mem (gt_5 (List.mem_of_getElem? (i := 13) (by decide +kernel))) rfl⟩
def qX8_step : gMI := (yX8_step, cX8_step, 4, (some .int), 1)
theorem oX8_step : gMOk qX8_step := ⟨by decide +kernel, ⟨by decide +kernel, by decide +kernel, by decide +kernel⟩, gW0_mem (gt_2 (List.mem_of_getElem? (i := 226) (by decide +kernel))) rfl, gW0_mem (gt_1 (List.mem_of_getElem? (i := 9) (by decide +kernel))) rfl, by decide⟩
theorem vX8_step : gVOk qX8_step := ⟨gW0_mem (gt_2 (List.mem_of_getElem? (i := 225) (by decide +kernel))) rfl, gW0_mem (gt_0 (List.mem_of_getElem? (i := 2) (by decide +kernel))) rfl⟩
def qX8_link : gMI := (yX8_link, cX8_link, 4, (some .int), 2)
theorem oX8_link : gMOk qX8_link := ⟨by decide +kernel, ⟨by decide +kernel, by decide +kernel, by decide +kernel⟩, gW0_mem (gt_5 (List.mem_of_getElem? (i := 178) (by decide +kernel))) rfl, gW0_mem (gt_1 (List.mem_of_getElem? (i := 9) (by decide +kernel))) rfl, by decide⟩
theorem vX8_link : gVOk qX8_link := ⟨gW0_mem (gt_5 (List.mem_of_getElem? (i := 176) (by decide +kernel))) rfl, gW0_mem (gt_5 (List.mem_of_getElem? (i := 177) (by decide +kernel))) rfl⟩
def qX8_atDepth : gMI := (yX8_atDepth, cX8_atDepth, 4, (some .int), 1)
theorem oX8_atDepth : gMOk qX8_atDepth := ⟨by decide +kernel, ⟨by decide +kernel, by decide +kernel, by decide +kernel⟩, gW0_mem (gt_2 (List.mem_of_getElem? (i := 213) (by decide +kernel))) rfl, gW0_mem (gt_1 (List.mem_of_getElem? (i := 9) (by decide +kernel))) rfl, by decide⟩
theorem vX8_atDepth : gVOk qX8_atDepth := ⟨gW0_mem (gt_2 (List.mem_of_getElem? (i := 211) (by decide +kernel))) rfl, gW0_mem (gt_2 (List.mem_of_getElem? (i := 212) (by decide +kernel))) rfl⟩
def qX8_walked : gMI := (yX8_walked, cX8_walked, 6, (some .int), 1)
theorem oX8_walked : gMOk qX8_walked := ⟨by decide +kernel, ⟨by decide +kernel, by decide +kernel, by decide +kernel⟩, gW0_mem (gt_2 (List.mem_of_getElem? (i := 205) (by decide +kernel))) rfl, gW0_mem (gt_1 (List.mem_of_getElem? (i := 9) (by decide +kernel))) rfl, by decide⟩
theorem vX8_walked : gVOk qX8_walked := ⟨gW0_mem (gt_2 (List.mem_of_getElem? (i := 203) (by decide +kernel))) rfl, gW0_mem (gt_2 (List.mem_of_getElem? (i := 204) (by decide +kernel))) rfl⟩
def qX8_sealed : gMI := (yX8_sealed, cX8_sealed, 2, (some .int), 1)
theorem oX8_sealed : gMOk qX8_sealed := ⟨by decide +kernel, ⟨by decide +kernel, by decide +kernel, by decide +kernel⟩, gW0_mem (gt_5 (List.mem_of_getElem? (i := 167) (by decide +kernel))) rfl, gW0_mem (gt_1 (List.mem_of_getElem? (i := 9) (by decide +kernel))) rfl, by decide⟩
theorem vX8_sealed : gVOk qX8_sealed := ⟨gW0_mem (gt_5 (List.mem_of_getElem? (i := 165) (by decide +kernel))) rfl, gW0_mem (gt_5 (List.mem_of_getElem? (i := 166) (by decide +kernel))) rfl⟩
def qX8_between : gMI := (yX8_between, cX8_between, 7, (some .int), 2)
theorem oX8_between : gMOk qX8_between := ⟨by decide +kernel, ⟨by decide +kernel, by decide +kernel, by decide +kernel⟩, gW0_mem (gt_5 (List.mem_of_getElem? (i := 189) (by decide +kernel))) rfl, gW0_mem (gt_1 (List.mem_of_getElem? (i := 9) (by decide +kernel))) rfl, by decide⟩
theorem vX8_between : gVOk qX8_between := ⟨gW0_mem (gt_5 (List.mem_of_getElem? (i := 187) (by decide +kernel))) rfl, gW0_mem (gt_5 (List.mem_of_getElem? (i := 188) (by decide +kernel))) rfl⟩
def qX8_near : gMI := (yX8_near, cX8_near, 5, (some .int), 1)
theorem oX8_near : gMOk qX8_near := ⟨by decide +kernel, ⟨by decide +kernel, by decide +kernel, by decide +kernel⟩, gW0_mem (gt_5 (List.mem_of_getElem? (i := 26) (by decide +kernel))) rfl, gW0_mem (gt_1 (List.mem_of_getElem? (i := 9) (by decide +kernel))) rfl, by decide⟩
theorem vX8_near : gVOk qX8_near := ⟨gW0_mem (gt_5 (List.mem_of_getElem? (i := 24) (by decide +kernel))) rfl, gW0_mem (gt_5 (List.mem_of_getElem? (i := 25) (by decide +kernel))) rfl⟩
def qX8_inRow : gMI := (yX8_inRow, cX8_inRow, 7, (some .int), 1)
theorem oX8_inRow : gMOk qX8_inRow := ⟨by decide +kernel, ⟨by decide +kernel, by decide +kernel, by decide +kernel⟩, gW0_mem (gt_2 (List.mem_of_getElem? (i := 222) (by decide +kernel))) rfl, gW0_mem (gt_1 (List.mem_of_getElem? (i := 9) (by decide +kernel))) rfl, by decide⟩
theorem vX8_inRow : gVOk qX8_inRow := ⟨gW0_mem (gt_2 (List.mem_of_getElem? (i := 220) (by decide +kernel))) rfl, gW0_mem (gt_2 (List.mem_of_getElem? (i := 221) (by decide +kernel))) rfl⟩
def qX8_tollsOf : gMI := (yX8_tollsOf, cX8_tollsOf, 4, (some .int), 1)
theorem oX8_tollsOf : gMOk qX8_tollsOf := ⟨by decide +kernel, ⟨by decide +kernel, by decide +kernel, by decide +kernel⟩, gW0_mem (gt_3 (List.mem_of_getElem? (i := 118) (by decide +kernel))) rfl, gW0_mem (gt_1 (List.mem_of_getElem? (i := 9) (by decide +kernel))) rfl, by decide⟩
theorem vX8_tollsOf : gVOk qX8_tollsOf := ⟨gW0_mem (gt_3 (List.mem_of_getElem? (i := 116) (by decide +kernel))) rfl, gW0_mem (gt_3 (List.mem_of_getElem? (i := 117) (by decide +kernel))) rfl⟩
def qX8_fee : gMI := (yX8_fee, cX8_fee, 2, (some .int), 1)
theorem oX8_fee : gMOk qX8_fee := ⟨by decide +kernel, ⟨by decide +kernel, by decide +kernel, by decide +kernel⟩, gW0_mem (gt_5 (List.mem_of_getElem? (i := 74) (by decide +kernel))) rfl, gW0_mem (gt_1 (List.mem_of_getElem? (i := 9) (by decide +kernel))) rfl, by decide⟩
theorem vX8_fee : gVOk qX8_fee := ⟨gW0_mem (gt_5 (List.mem_of_getElem? (i := 72) (by decide +kernel))) rfl, gW0_mem (gt_5 (List.mem_of_getElem? (i := 73) (by decide +kernel))) rfl⟩
def qX8_fare : gMI := (yX8_fare, cX8_fare, 5, (some .int), 1)
theorem oX8_fare : gMOk qX8_fare := ⟨by decide +kernel, ⟨by decide +kernel, by decide +kernel, by decide +kernel⟩, gW0_mem (gt_5 (List.mem_of_getElem? (i := 79) (by decide +kernel))) rfl, gW0_mem (gt_1 (List.mem_of_getElem? (i := 9) (by decide +kernel))) rfl, by decide⟩
theorem vX8_fare : gVOk qX8_fare := ⟨gW0_mem (gt_5 (List.mem_of_getElem? (i := 77) (by decide +kernel))) rfl, gW0_mem (gt_5 (List.mem_of_getElem? (i := 78) (by decide +kernel))) rfl⟩
def qX8_cheapest : gMI := (yX8_cheapest, cX8_cheapest, 5, (some .int), 1)
theorem oX8_cheapest : gMOk qX8_cheapest := ⟨by decide +kernel, ⟨by decide +kernel, by decide +kernel, by decide +kernel⟩, gW0_mem (gt_5 (List.mem_of_getElem? (i := 84) (by decide +kernel))) rfl, gW0_mem (gt_1 (List.mem_of_getElem? (i := 9) (by decide +kernel))) rfl, by decide⟩
theorem vX8_cheapest : gVOk qX8_cheapest := ⟨gW0_mem (gt_5 (List.mem_of_getElem? (i := 83) (by decide +kernel))) rfl, gW0_mem (gt_0 (List.mem_of_getElem? (i := 20) (by decide +kernel))) rfl⟩
def qX8_payFrom : gMI := (yX8_payFrom, cX8_payFrom, 7, none, 2)
theorem oX8_payFrom : gMOk qX8_payFrom := ⟨by decide +kernel, ⟨by decide +kernel, by decide +kernel, by decide +kernel⟩, gW0_mem (gt_5 (List.mem_of_getElem? (i := 88) (by decide +kernel))) rfl, gW0_mem (gt_1 (List.mem_of_getElem? (i := 9) (by decide +kernel))) rfl, by decide⟩
theorem vX8_payFrom : gVOk qX8_payFrom := ⟨gW0_mem (gt_5 (List.mem_of_getElem? (i := 87) (by decide +kernel))) rfl, gW0_mem (gt_0 (List.mem_of_getElem? (i := 21) (by decide +kernel))) rfl⟩
def qX8_hard : gMI := (yX8_hard, cX8_hard, 3, (some .int), 1)
theorem oX8_hard : gMOk qX8_hard := ⟨by decide +kernel, ⟨by decide +kernel, by decide +kernel, by decide +kernel⟩, gW0_mem (gt_5 (List.mem_of_getElem? (i := 38) (by decide +kernel))) rfl, gW0_mem (gt_1 (List.mem_of_getElem? (i := 9) (by decide +kernel))) rfl, by decide⟩
theorem vX8_hard : gVOk qX8_hard := ⟨gW0_mem (gt_5 (List.mem_of_getElem? (i := 36) (by decide +kernel))) rfl, gW0_mem (gt_5 (List.mem_of_getElem? (i := 37) (by decide +kernel))) rfl⟩
def qX8_wall : gMI := (yX8_wall, cX8_wall, 4, (some .int), 1)
theorem oX8_wall : gMOk qX8_wall := ⟨by decide +kernel, ⟨by decide +kernel, by decide +kernel, by decide +kernel⟩, gW0_mem (gt_5 (List.mem_of_getElem? (i := 70) (by decide +kernel))) rfl, gW0_mem (gt_1 (List.mem_of_getElem? (i := 9) (by decide +kernel))) rfl, by decide⟩
theorem vX8_wall : gVOk qX8_wall := ⟨gW0_mem (gt_5 (List.mem_of_getElem? (i := 68) (by decide +kernel))) rfl, gW0_mem (gt_5 (List.mem_of_getElem? (i := 69) (by decide +kernel))) rfl⟩
def qX8_weighOut : gMI := (yX8_weighOut, cX8_weighOut, 1, none, 0)
theorem oX8_weighOut : gMOk qX8_weighOut := ⟨by decide +kernel, ⟨by decide +kernel, by decide +kernel, by decide +kernel⟩, gW0_mem (gt_3 (List.mem_of_getElem? (i := 103) (by decide +kernel))) rfl, gW0_mem (gt_1 (List.mem_of_getElem? (i := 9) (by decide +kernel))) rfl, by decide⟩
theorem vX8_weighOut : gVOk qX8_weighOut := ⟨gW0_mem (gt_3 (List.mem_of_getElem? (i := 102) (by decide +kernel))) rfl, gW0_mem (gt_0 (List.mem_of_getElem? (i := 4) (by decide +kernel))) rfl⟩
def qX8_outKeeper : gMI := (yX8_outKeeper, cX8_outKeeper, 2, (some .int), 1)
theorem oX8_outKeeper : gMOk qX8_outKeeper := ⟨by decide +kernel, ⟨by decide +kernel, by decide +kernel, by decide +kernel⟩, gW0_mem (gt_5 (List.mem_of_getElem? (i := 30) (by decide +kernel))) rfl, gW0_mem (gt_1 (List.mem_of_getElem? (i := 9) (by decide +kernel))) rfl, by decide⟩
theorem vX8_outKeeper : gVOk qX8_outKeeper := ⟨gW0_mem (gt_5 (List.mem_of_getElem? (i := 28) (by decide +kernel))) rfl, gW0_mem (gt_5 (List.mem_of_getElem? (i := 29) (by decide +kernel))) rfl⟩
def qX8_outGates : gMI := (yX8_outGates, cX8_outGates, 2, (some .int), 1)
theorem oX8_outGates : gMOk qX8_outGates := ⟨by decide +kernel, ⟨by decide +kernel, by decide +kernel, by decide +kernel⟩, gW0_mem (gt_5 (List.mem_of_getElem? (i := 34) (by decide +kernel))) rfl, gW0_mem (gt_1 (List.mem_of_getElem? (i := 9) (by decide +kernel))) rfl, by decide⟩
theorem vX8_outGates : gVOk qX8_outGates := ⟨gW0_mem (gt_5 (List.mem_of_getElem? (i := 32) (by decide +kernel))) rfl, gW0_mem (gt_5 (List.mem_of_getElem? (i := 33) (by decide +kernel))) rfl⟩
def qX8_controls : gMI := (yX8_controls, cX8_controls, 5, (some .int), 1)
theorem oX8_controls : gMOk qX8_controls := ⟨by decide +kernel, ⟨by decide +kernel, by decide +kernel, by decide +kernel⟩, gW0_mem (gt_5 (List.mem_of_getElem? (i := 92) (by decide +kernel))) rfl, gW0_mem (gt_1 (List.mem_of_getElem? (i := 9) (by decide +kernel))) rfl, by decide⟩
theorem vX8_controls : gVOk qX8_controls := ⟨gW0_mem (gt_5 (List.mem_of_getElem? (i := 90) (by decide +kernel))) rfl, gW0_mem (gt_5 (List.mem_of_getElem? (i := 91) (by decide +kernel))) rfl⟩
def qX8_spans : gMI := (yX8_spans, cX8_spans, 3, (some .int), 0)
theorem oX8_spans : gMOk qX8_spans := ⟨by decide +kernel, ⟨by decide +kernel, by decide +kernel, by decide +kernel⟩, gW0_mem (gt_3 (List.mem_of_getElem? (i := 99) (by decide +kernel))) rfl, gW0_mem (gt_1 (List.mem_of_getElem? (i := 9) (by decide +kernel))) rfl, by decide⟩
theorem vX8_spans : gVOk qX8_spans := ⟨gW0_mem (gt_3 (List.mem_of_getElem? (i := 97) (by decide +kernel))) rfl, gW0_mem (gt_3 (List.mem_of_getElem? (i := 98) (by decide +kernel))) rfl⟩
def qX8_ring : gMI := (yX8_ring, cX8_ring, 2, (some .int), 1)
theorem oX8_ring : gMOk qX8_ring := ⟨by decide +kernel, ⟨by decide +kernel, by decide +kernel, by decide +kernel⟩, gW0_mem (gt_3 (List.mem_of_getElem? (i := 114) (by decide +kernel))) rfl, gW0_mem (gt_1 (List.mem_of_getElem? (i := 9) (by decide +kernel))) rfl, by decide⟩
theorem vX8_ring : gVOk qX8_ring := ⟨gW0_mem (gt_3 (List.mem_of_getElem? (i := 112) (by decide +kernel))) rfl, gW0_mem (gt_3 (List.mem_of_getElem? (i := 113) (by decide +kernel))) rfl⟩
def qX8_rings : gMI := (yX8_rings, cX8_rings, 4, (some .int), 0)
theorem oX8_rings : gMOk qX8_rings := ⟨by decide +kernel, ⟨by decide +kernel, by decide +kernel, by decide +kernel⟩, gW0_mem (gt_3 (List.mem_of_getElem? (i := 109) (by decide +kernel))) rfl, gW0_mem (gt_1 (List.mem_of_getElem? (i := 9) (by decide +kernel))) rfl, by decide⟩
theorem vX8_rings : gVOk qX8_rings := ⟨gW0_mem (gt_3 (List.mem_of_getElem? (i := 107) (by decide +kernel))) rfl, gW0_mem (gt_3 (List.mem_of_getElem? (i := 108) (by decide +kernel))) rfl⟩
def qX8_heads : gMI := (yX8_heads, cX8_heads, 1, (some .int), 0)
theorem oX8_heads : gMOk qX8_heads := ⟨by decide +kernel, ⟨by decide +kernel, by decide +kernel, by decide +kernel⟩, gW0_mem (gt_3 (List.mem_of_getElem? (i := 39) (by decide +kernel))) rfl, gW0_mem (gt_1 (List.mem_of_getElem? (i := 9) (by decide +kernel))) rfl, by decide⟩
theorem vX8_heads : gVOk qX8_heads := ⟨gW0_mem (gt_3 (List.mem_of_getElem? (i := 37) (by decide +kernel))) rfl, gW0_mem (gt_3 (List.mem_of_getElem? (i := 38) (by decide +kernel))) rfl⟩
def qX8_body : gMI := (yX8_body, cX8_body, 2, (some .int), 1)
theorem oX8_body : gMOk qX8_body := ⟨by decide +kernel, ⟨by decide +kernel, by decide +kernel, by decide +kernel⟩, gW0_mem (gt_5 (List.mem_of_getElem? (i := 18) (by decide +kernel))) rfl, gW0_mem (gt_1 (List.mem_of_getElem? (i := 9) (by decide +kernel))) rfl, by decide⟩
theorem vX8_body : gVOk qX8_body := ⟨gW0_mem (gt_5 (List.mem_of_getElem? (i := 16) (by decide +kernel))) rfl, gW0_mem (gt_5 (List.mem_of_getElem? (i := 17) (by decide +kernel))) rfl⟩
def qX8_nest : gMI := (yX8_nest, cX8_nest, 2, (some .int), 1)
theorem oX8_nest : gMOk qX8_nest := ⟨by decide +kernel, ⟨by decide +kernel, by decide +kernel, by decide +kernel⟩, gW0_mem (gt_5 (List.mem_of_getElem? (i := 22) (by decide +kernel))) rfl, gW0_mem (gt_1 (List.mem_of_getElem? (i := 9) (by decide +kernel))) rfl, by decide⟩
theorem vX8_nest : gVOk qX8_nest := ⟨gW0_mem (gt_5 (List.mem_of_getElem? (i := 20) (by decide +kernel))) rfl, gW0_mem (gt_5 (List.mem_of_getElem? (i := 21) (by decide +kernel))) rfl⟩
def qX8_mostNest : gMI := (yX8_mostNest, cX8_mostNest, 3, (some .int), 0)
theorem oX8_mostNest : gMOk qX8_mostNest := ⟨by decide +kernel, ⟨by decide +kernel, by decide +kernel, by decide +kernel⟩, gW0_mem (gt_3 (List.mem_of_getElem? (i := 89) (by decide +kernel))) rfl, gW0_mem (gt_1 (List.mem_of_getElem? (i := 9) (by decide +kernel))) rfl, by decide⟩
theorem vX8_mostNest : gVOk qX8_mostNest := ⟨gW0_mem (gt_3 (List.mem_of_getElem? (i := 87) (by decide +kernel))) rfl, gW0_mem (gt_3 (List.mem_of_getElem? (i := 88) (by decide +kernel))) rfl⟩
def qX8_inner : gMI := (yX8_inner, cX8_inner, 2, (some .int), 1)
theorem oX8_inner : gMOk qX8_inner := ⟨by decide +kernel, ⟨by decide +kernel, by decide +kernel, by decide +kernel⟩, gW0_mem (gt_5 (List.mem_of_getElem? (i := 97) (by decide +kernel))) rfl, gW0_mem (gt_1 (List.mem_of_getElem? (i := 9) (by decide +kernel))) rfl, by decide⟩
theorem vX8_inner : gVOk qX8_inner := ⟨gW0_mem (gt_5 (List.mem_of_getElem? (i := 95) (by decide +kernel))) rfl, gW0_mem (gt_5 (List.mem_of_getElem? (i := 96) (by decide +kernel))) rfl⟩
def qX8_outer : gMI := (yX8_outer, cX8_outer, 3, (some .int), 1)
theorem oX8_outer : gMOk qX8_outer := ⟨by decide +kernel, ⟨by decide +kernel, by decide +kernel, by decide +kernel⟩, gW0_mem (gt_5 (List.mem_of_getElem? (i := 110) (by decide +kernel))) rfl, gW0_mem (gt_1 (List.mem_of_getElem? (i := 9) (by decide +kernel))) rfl, by decide⟩
theorem vX8_outer : gVOk qX8_outer := ⟨gW0_mem (gt_5 (List.mem_of_getElem? (i := 108) (by decide +kernel))) rfl, gW0_mem (gt_5 (List.mem_of_getElem? (i := 109) (by decide +kernel))) rfl⟩
def qX8_isSound : gMI := (yX8_isSound, cX8_isSound, 4, (some .boolean), 0)
theorem oX8_isSound : gMOk qX8_isSound := ⟨by decide +kernel, ⟨by decide +kernel, by decide +kernel, by decide +kernel⟩, gW0_mem (gt_3 (List.mem_of_getElem? (i := 73) (by decide +kernel))) rfl, gW0_mem (gt_1 (List.mem_of_getElem? (i := 9) (by decide +kernel))) rfl, by decide⟩
theorem vX8_isSound : gVOk qX8_isSound := ⟨gW0_mem (gt_3 (List.mem_of_getElem? (i := 71) (by decide +kernel))) rfl, gW0_mem (gt_3 (List.mem_of_getElem? (i := 72) (by decide +kernel))) rfl⟩
def qX8_kind : gMI := (yX8_kind, cX8_kind, 4, (some .int), 1)
theorem oX8_kind : gMOk qX8_kind := ⟨by decide +kernel, ⟨by decide +kernel, by decide +kernel, by decide +kernel⟩, gW0_mem (gt_3 (List.mem_of_getElem? (i := 55) (by decide +kernel))) rfl, gW0_mem (gt_1 (List.mem_of_getElem? (i := 9) (by decide +kernel))) rfl, by decide⟩
theorem vX8_kind : gVOk qX8_kind := ⟨gW0_mem (gt_3 (List.mem_of_getElem? (i := 53) (by decide +kernel))) rfl, gW0_mem (gt_3 (List.mem_of_getElem? (i := 54) (by decide +kernel))) rfl⟩
def qX8_backArcs : gMI := (yX8_backArcs, cX8_backArcs, 3, (some .int), 0)
theorem oX8_backArcs : gMOk qX8_backArcs := ⟨by decide +kernel, ⟨by decide +kernel, by decide +kernel, by decide +kernel⟩, gW0_mem (gt_3 (List.mem_of_getElem? (i := 51) (by decide +kernel))) rfl, gW0_mem (gt_1 (List.mem_of_getElem? (i := 9) (by decide +kernel))) rfl, by decide⟩
theorem vX8_backArcs : gVOk qX8_backArcs := ⟨gW0_mem (gt_3 (List.mem_of_getElem? (i := 49) (by decide +kernel))) rfl, gW0_mem (gt_3 (List.mem_of_getElem? (i := 50) (by decide +kernel))) rfl⟩
def qX8_lostBy : gMI := (yX8_lostBy, cX8_lostBy, 2, (some .int), 1)
theorem oX8_lostBy : gMOk qX8_lostBy := ⟨by decide +kernel, ⟨by decide +kernel, by decide +kernel, by decide +kernel⟩, gW0_mem (gt_3 (List.mem_of_getElem? (i := 68) (by decide +kernel))) rfl, gW0_mem (gt_1 (List.mem_of_getElem? (i := 9) (by decide +kernel))) rfl, by decide⟩
theorem vX8_lostBy : gVOk qX8_lostBy := ⟨gW0_mem (gt_3 (List.mem_of_getElem? (i := 66) (by decide +kernel))) rfl, gW0_mem (gt_3 (List.mem_of_getElem? (i := 67) (by decide +kernel))) rfl⟩
def qX8_isBridge : gMI := (yX8_isBridge, cX8_isBridge, 2, (some .boolean), 1)
theorem oX8_isBridge : gMOk qX8_isBridge := ⟨by decide +kernel, ⟨by decide +kernel, by decide +kernel, by decide +kernel⟩, gW0_mem (gt_3 (List.mem_of_getElem? (i := 64) (by decide +kernel))) rfl, gW0_mem (gt_1 (List.mem_of_getElem? (i := 9) (by decide +kernel))) rfl, by decide⟩
theorem vX8_isBridge : gVOk qX8_isBridge := ⟨gW0_mem (gt_3 (List.mem_of_getElem? (i := 62) (by decide +kernel))) rfl, gW0_mem (gt_3 (List.mem_of_getElem? (i := 63) (by decide +kernel))) rfl⟩
def qX8_bridges : gMI := (yX8_bridges, cX8_bridges, 3, (some .int), 0)
theorem oX8_bridges : gMOk qX8_bridges := ⟨by decide +kernel, ⟨by decide +kernel, by decide +kernel, by decide +kernel⟩, gW0_mem (gt_3 (List.mem_of_getElem? (i := 60) (by decide +kernel))) rfl, gW0_mem (gt_1 (List.mem_of_getElem? (i := 9) (by decide +kernel))) rfl, by decide⟩
theorem vX8_bridges : gVOk qX8_bridges := ⟨gW0_mem (gt_3 (List.mem_of_getElem? (i := 58) (by decide +kernel))) rfl, gW0_mem (gt_3 (List.mem_of_getElem? (i := 59) (by decide +kernel))) rfl⟩
def qX8_passed : gMI := (yX8_passed, cX8_passed, 6, (some .int), 2)
theorem oX8_passed : gMOk qX8_passed := ⟨by decide +kernel, ⟨by decide +kernel, by decide +kernel, by decide +kernel⟩, gW0_mem (gt_5 (List.mem_of_getElem? (i := 200) (by decide +kernel))) rfl, gW0_mem (gt_1 (List.mem_of_getElem? (i := 9) (by decide +kernel))) rfl, by decide⟩
theorem vX8_passed : gVOk qX8_passed := ⟨gW0_mem (gt_5 (List.mem_of_getElem? (i := 198) (by decide +kernel))) rfl, gW0_mem (gt_5 (List.mem_of_getElem? (i := 199) (by decide +kernel))) rfl⟩
def qX8_bridgeTo : gMI := (yX8_bridgeTo, cX8_bridgeTo, 3, (some .int), 1)
theorem oX8_bridgeTo : gMOk qX8_bridgeTo := ⟨by decide +kernel, ⟨by decide +kernel, by decide +kernel, by decide +kernel⟩, gW0_mem (gt_5 (List.mem_of_getElem? (i := 205) (by decide +kernel))) rfl, gW0_mem (gt_1 (List.mem_of_getElem? (i := 9) (by decide +kernel))) rfl, by decide⟩
theorem vX8_bridgeTo : gVOk qX8_bridgeTo := ⟨gW0_mem (gt_5 (List.mem_of_getElem? (i := 204) (by decide +kernel))) rfl, gW0_mem (gt_0 (List.mem_of_getElem? (i := 22) (by decide +kernel))) rfl⟩
def qX8_worstArc : gMI := (yX8_worstArc, cX8_worstArc, 5, (some .int), 0)
theorem oX8_worstArc : gMOk qX8_worstArc := ⟨by decide +kernel, ⟨by decide +kernel, by decide +kernel, by decide +kernel⟩, gW0_mem (gt_5 (List.mem_of_getElem? (i := 225) (by decide +kernel))) rfl, gW0_mem (gt_1 (List.mem_of_getElem? (i := 9) (by decide +kernel))) rfl, by decide⟩
theorem vX8_worstArc : gVOk qX8_worstArc := ⟨gW0_mem (gt_5 (List.mem_of_getElem? (i := 223) (by decide +kernel))) rfl, gW0_mem (gt_5 (List.mem_of_getElem? (i := 224) (by decide +kernel))) rfl⟩
def qX8_tied : gMI := (yX8_tied, cX8_tied, 5, (some .int), 1)
theorem oX8_tied : gMOk qX8_tied := ⟨by decide +kernel, ⟨by decide +kernel, by decide +kernel, by decide +kernel⟩, gW0_mem (gt_5 (List.mem_of_getElem? (i := 116) (by decide +kernel))) rfl, gW0_mem (gt_1 (List.mem_of_getElem? (i := 9) (by decide +kernel))) rfl, by decide⟩
theorem vX8_tied : gVOk qX8_tied := ⟨gW0_mem (gt_5 (List.mem_of_getElem? (i := 114) (by decide +kernel))) rfl, gW0_mem (gt_5 (List.mem_of_getElem? (i := 115) (by decide +kernel))) rfl⟩
def qX8_ifShut : gMI := (yX8_ifShut, cX8_ifShut, 2, (some (.object "GateLifter$Change")), 1)
theorem oX8_ifShut : gMOk qX8_ifShut := ⟨by decide +kernel, ⟨by decide +kernel, by decide +kernel, by decide +kernel⟩, gW0_mem (gt_3 (List.mem_of_getElem? (i := 130) (by decide +kernel))) rfl, gW0_mem (gt_1 (List.mem_of_getElem? (i := 9) (by decide +kernel))) rfl, by decide⟩
theorem vX8_ifShut : gVOk qX8_ifShut := ⟨gW0_mem (gt_3 (List.mem_of_getElem? (i := 128) (by decide +kernel))) rfl, gW0_mem (gt_3 (List.mem_of_getElem? (i := 129) (by decide +kernel))) rfl⟩
def qX8_ifLaid : gMI := (yX8_ifLaid, cX8_ifLaid, 3, (some (.object "GateLifter$Change")), 2)
theorem oX8_ifLaid : gMOk qX8_ifLaid := ⟨by decide +kernel, ⟨by decide +kernel, by decide +kernel, by decide +kernel⟩, gW0_mem (gt_5 (List.mem_of_getElem? (i := 237) (by decide +kernel))) rfl, gW0_mem (gt_1 (List.mem_of_getElem? (i := 9) (by decide +kernel))) rfl, by decide⟩
theorem vX8_ifLaid : gVOk qX8_ifLaid := ⟨gW0_mem (gt_5 (List.mem_of_getElem? (i := 235) (by decide +kernel))) rfl, gW0_mem (gt_5 (List.mem_of_getElem? (i := 236) (by decide +kernel))) rfl⟩
def qX8_spareArcs : gMI := (yX8_spareArcs, cX8_spareArcs, 3, (some .int), 0)
theorem oX8_spareArcs : gMOk qX8_spareArcs := ⟨by decide +kernel, ⟨by decide +kernel, by decide +kernel, by decide +kernel⟩, gW0_mem (gt_3 (List.mem_of_getElem? (i := 122) (by decide +kernel))) rfl, gW0_mem (gt_1 (List.mem_of_getElem? (i := 9) (by decide +kernel))) rfl, by decide⟩
theorem vX8_spareArcs : gVOk qX8_spareArcs := ⟨gW0_mem (gt_3 (List.mem_of_getElem? (i := 120) (by decide +kernel))) rfl, gW0_mem (gt_3 (List.mem_of_getElem? (i := 121) (by decide +kernel))) rfl⟩
def qX8_isSpare : gMI := (yX8_isSpare, cX8_isSpare, 4, (some .boolean), 1)
theorem oX8_isSpare : gMOk qX8_isSpare := ⟨by decide +kernel, ⟨by decide +kernel, by decide +kernel, by decide +kernel⟩, gW0_mem (gt_3 (List.mem_of_getElem? (i := 126) (by decide +kernel))) rfl, gW0_mem (gt_1 (List.mem_of_getElem? (i := 9) (by decide +kernel))) rfl, by decide⟩
theorem vX8_isSpare : gVOk qX8_isSpare := ⟨gW0_mem (gt_3 (List.mem_of_getElem? (i := 125) (by decide +kernel))) rfl, gW0_mem (gt_0 (List.mem_of_getElem? (i := 5) (by decide +kernel))) rfl⟩
def qX8_bestPair : gMI := (yX8_bestPair, cX8_bestPair, 4, (some .int), 0)
theorem oX8_bestPair : gMOk qX8_bestPair := ⟨by decide +kernel, ⟨by decide +kernel, by decide +kernel, by decide +kernel⟩, gW0_mem (gt_6 (List.mem_of_getElem? (i := 8) (by decide +kernel))) rfl, gW0_mem (gt_1 (List.mem_of_getElem? (i := 9) (by decide +kernel))) rfl, by decide⟩
theorem vX8_bestPair : gVOk qX8_bestPair := ⟨gW0_mem (gt_6 (List.mem_of_getElem? (i := 6) (by decide +kernel))) rfl, gW0_mem (gt_6 (List.mem_of_getElem? (i := 7) (by decide +kernel))) rfl⟩
def qX8_addLifts : gMI := (yX8_addLifts, cX8_addLifts, 9, none, 1)
theorem oX8_addLifts : gMOk qX8_addLifts := ⟨by decide +kernel, ⟨by decide +kernel, by decide +kernel, by decide +kernel⟩, gW0_mem (gt_6 (List.mem_of_getElem? (i := 12) (by decide +kernel))) rfl, gW0_mem (gt_1 (List.mem_of_getElem? (i := 9) (by decide +kernel))) rfl, by decide⟩
theorem vX8_addLifts : gVOk qX8_addLifts := ⟨gW0_mem (gt_6 (List.mem_of_getElem? (i := 11) (by decide +kernel))) rfl, gW0_mem (gt_0 (List.mem_of_getElem? (i := 23) (by decide +kernel))) rfl⟩
def qX9_init : gMI := (yX9_init, cX9_init, 1, none, 0)
theorem oX9_init : gMOk qX9_init := ⟨by decide +kernel, ⟨by decide +kernel, by decide +kernel, by decide +kernel⟩, gW0_mem (gt_1 (List.mem_of_getElem? (i := 32) (by decide +kernel))) rfl, gW0_mem (gt_1 (List.mem_of_getElem? (i := 1) (by decide +kernel))) rfl, by decide⟩
theorem iX9_init : qX9_init.1.name = "<init>" ∧ Cond.instanceMethod qX9_init.1 ∈ gW0 := ⟨rfl, gW0_mem (gt_1 (List.mem_of_getElem? (i := 31) (by decide +kernel))) rfl⟩
def qX9_feed : gMI := (yX9_feed, cX9_feed, 6, (some .int), 5)
theorem oX9_feed : gMOk qX9_feed := ⟨by decide +kernel, ⟨by decide +kernel, by decide +kernel, by decide +kernel⟩, gW0_mem (gt_2 (List.mem_of_getElem? (i := 177) (by decide +kernel))) rfl, gW0_mem (gt_1 (List.mem_of_getElem? (i := 1) (by decide +kernel))) rfl, by decide⟩
theorem vX9_feed : gVOk qX9_feed := ⟨gW0_mem (gt_2 (List.mem_of_getElem? (i := 175) (by decide +kernel))) rfl, gW0_mem (gt_2 (List.mem_of_getElem? (i := 176) (by decide +kernel))) rfl⟩
def qX9_end : gMI := (yX9_end, cX9_end, 2, (some .boolean), 1)
theorem oX9_end : gMOk qX9_end := ⟨by decide +kernel, ⟨by decide +kernel, by decide +kernel, by decide +kernel⟩, gW0_mem (gt_2 (List.mem_of_getElem? (i := 189) (by decide +kernel))) rfl, gW0_mem (gt_1 (List.mem_of_getElem? (i := 1) (by decide +kernel))) rfl, by decide⟩
theorem vX9_end : gVOk qX9_end := ⟨gW0_mem (gt_2 (List.mem_of_getElem? (i := 187) (by decide +kernel))) rfl, gW0_mem (gt_2 (List.mem_of_getElem? (i := 188) (by decide +kernel))) rfl⟩
def qX9_acts : gMI := (yX9_acts, cX9_acts, 2, (some .int), 0)
theorem oX9_acts : gMOk qX9_acts := ⟨by decide +kernel, ⟨by decide +kernel, by decide +kernel, by decide +kernel⟩, gW0_mem (gt_3 (List.mem_of_getElem? (i := 138) (by decide +kernel))) rfl, gW0_mem (gt_1 (List.mem_of_getElem? (i := 1) (by decide +kernel))) rfl, by decide⟩
theorem vX9_acts : gVOk qX9_acts := ⟨gW0_mem (gt_3 (List.mem_of_getElem? (i := 136) (by decide +kernel))) rfl, gW0_mem (gt_3 (List.mem_of_getElem? (i := 137) (by decide +kernel))) rfl⟩
def qX9_doText : gMI := (yX9_doText, cX9_doText, 4, (some .int), 0)
theorem oX9_doText : gMOk qX9_doText := ⟨by decide +kernel, ⟨by decide +kernel, by decide +kernel, by decide +kernel⟩, gW0_mem (gt_3 (List.mem_of_getElem? (i := 142) (by decide +kernel))) rfl, gW0_mem (gt_1 (List.mem_of_getElem? (i := 1) (by decide +kernel))) rfl, by decide⟩
theorem vX9_doText : gVOk qX9_doText := ⟨gW0_mem (gt_3 (List.mem_of_getElem? (i := 141) (by decide +kernel))) rfl, gW0_mem (gt_0 (List.mem_of_getElem? (i := 6) (by decide +kernel))) rfl⟩
def qX9_doTold : gMI := (yX9_doTold, cX9_doTold, 7, (some .int), 1)
theorem oX9_doTold : gMOk qX9_doTold := ⟨by decide +kernel, ⟨by decide +kernel, by decide +kernel, by decide +kernel⟩, gW0_mem (gt_4 (List.mem_of_getElem? (i := 8) (by decide +kernel))) rfl, gW0_mem (gt_1 (List.mem_of_getElem? (i := 1) (by decide +kernel))) rfl, by decide⟩
theorem vX9_doTold : gVOk qX9_doTold := ⟨gW0_mem (gt_4 (List.mem_of_getElem? (i := 7) (by decide +kernel))) rfl, gW0_mem (gt_0 (List.mem_of_getElem? (i := 11) (by decide +kernel))) rfl⟩
def qX9_fault : gMI := (yX9_fault, cX9_fault, 1, (some .int), 0)
theorem oX9_fault : gMOk qX9_fault := ⟨by decide +kernel, ⟨by decide +kernel, by decide +kernel, by decide +kernel⟩, gW0_mem (gt_2 (List.mem_of_getElem? (i := 193) (by decide +kernel))) rfl, gW0_mem (gt_1 (List.mem_of_getElem? (i := 1) (by decide +kernel))) rfl, by decide⟩
theorem vX9_fault : gVOk qX9_fault := ⟨gW0_mem (gt_2 (List.mem_of_getElem? (i := 191) (by decide +kernel))) rfl, gW0_mem (gt_2 (List.mem_of_getElem? (i := 192) (by decide +kernel))) rfl⟩
def qX9_why : gMI := (yX9_why, cX9_why, 1, (some .int), 0)
theorem oX9_why : gMOk qX9_why := ⟨by decide +kernel, ⟨by decide +kernel, by decide +kernel, by decide +kernel⟩, gW0_mem (gt_2 (List.mem_of_getElem? (i := 197) (by decide +kernel))) rfl, gW0_mem (gt_1 (List.mem_of_getElem? (i := 1) (by decide +kernel))) rfl, by decide⟩
theorem vX9_why : gVOk qX9_why := ⟨gW0_mem (gt_2 (List.mem_of_getElem? (i := 195) (by decide +kernel))) rfl, gW0_mem (gt_2 (List.mem_of_getElem? (i := 196) (by decide +kernel))) rfl⟩
def qX9_net : gMI := (yX9_net, cX9_net, 2, none, 1)
theorem oX9_net : gMOk qX9_net := ⟨by decide +kernel, ⟨by decide +kernel, by decide +kernel, by decide +kernel⟩, gW0_mem (gt_4 (List.mem_of_getElem? (i := 115) (by decide +kernel))) rfl, gW0_mem (gt_1 (List.mem_of_getElem? (i := 1) (by decide +kernel))) rfl, by decide⟩
theorem vX9_net : gVOk qX9_net := ⟨gW0_mem (gt_4 (List.mem_of_getElem? (i := 113) (by decide +kernel))) rfl, gW0_mem (gt_4 (List.mem_of_getElem? (i := 114) (by decide +kernel))) rfl⟩
def qX9_settle : gMI := (yX9_settle, cX9_settle, 1, none, 0)
theorem oX9_settle : gMOk qX9_settle := ⟨by decide +kernel, ⟨by decide +kernel, by decide +kernel, by decide +kernel⟩, gW0_mem (gt_3 (List.mem_of_getElem? (i := 19) (by decide +kernel))) rfl, gW0_mem (gt_1 (List.mem_of_getElem? (i := 1) (by decide +kernel))) rfl, by decide⟩
theorem vX9_settle : gVOk qX9_settle := ⟨gW0_mem (gt_3 (List.mem_of_getElem? (i := 18) (by decide +kernel))) rfl, gW0_mem (gt_0 (List.mem_of_getElem? (i := 3) (by decide +kernel))) rfl⟩
def qX9_tell : gMI := (yX9_tell, cX9_tell, 4, (some .int), 2)
theorem oX9_tell : gMOk qX9_tell := ⟨by decide +kernel, ⟨by decide +kernel, by decide +kernel, by decide +kernel⟩, gW0_mem (gt_4 (List.mem_of_getElem? (i := 125) (by decide +kernel))) rfl, gW0_mem (gt_1 (List.mem_of_getElem? (i := 1) (by decide +kernel))) rfl, by decide⟩
theorem vX9_tell : gVOk qX9_tell := ⟨gW0_mem (gt_4 (List.mem_of_getElem? (i := 123) (by decide +kernel))) rfl, gW0_mem (gt_4 (List.mem_of_getElem? (i := 124) (by decide +kernel))) rfl⟩
def qX9_lay : gMI := (yX9_lay, cX9_lay, 3, (some .int), 2)
theorem oX9_lay : gMOk qX9_lay := ⟨by decide +kernel, ⟨by decide +kernel, by decide +kernel, by decide +kernel⟩, gW0_mem (gt_4 (List.mem_of_getElem? (i := 161) (by decide +kernel))) rfl, gW0_mem (gt_1 (List.mem_of_getElem? (i := 1) (by decide +kernel))) rfl, by decide⟩
theorem vX9_lay : gVOk qX9_lay := ⟨gW0_mem (gt_4 (List.mem_of_getElem? (i := 159) (by decide +kernel))) rfl, gW0_mem (gt_4 (List.mem_of_getElem? (i := 160) (by decide +kernel))) rfl⟩
def qX9_shut : gMI := (yX9_shut, cX9_shut, 2, (some .int), 1)
theorem oX9_shut : gMOk qX9_shut := ⟨by decide +kernel, ⟨by decide +kernel, by decide +kernel, by decide +kernel⟩, gW0_mem (gt_4 (List.mem_of_getElem? (i := 168) (by decide +kernel))) rfl, gW0_mem (gt_1 (List.mem_of_getElem? (i := 1) (by decide +kernel))) rfl, by decide⟩
theorem vX9_shut : gVOk qX9_shut := ⟨gW0_mem (gt_4 (List.mem_of_getElem? (i := 166) (by decide +kernel))) rfl, gW0_mem (gt_4 (List.mem_of_getElem? (i := 167) (by decide +kernel))) rfl⟩
def qX9_open : gMI := (yX9_open, cX9_open, 2, (some .int), 1)
theorem oX9_open : gMOk qX9_open := ⟨by decide +kernel, ⟨by decide +kernel, by decide +kernel, by decide +kernel⟩, gW0_mem (gt_4 (List.mem_of_getElem? (i := 175) (by decide +kernel))) rfl, gW0_mem (gt_1 (List.mem_of_getElem? (i := 1) (by decide +kernel))) rfl, by decide⟩
theorem vX9_open : gVOk qX9_open := ⟨gW0_mem (gt_4 (List.mem_of_getElem? (i := 173) (by decide +kernel))) rfl, gW0_mem (gt_4 (List.mem_of_getElem? (i := 174) (by decide +kernel))) rfl⟩
def qX9_toll : gMI := (yX9_toll, cX9_toll, 4, (some .int), 2)
theorem oX9_toll : gMOk qX9_toll := ⟨by decide +kernel, ⟨by decide +kernel, by decide +kernel, by decide +kernel⟩, gW0_mem (gt_4 (List.mem_of_getElem? (i := 182) (by decide +kernel))) rfl, gW0_mem (gt_1 (List.mem_of_getElem? (i := 1) (by decide +kernel))) rfl, by decide⟩
theorem vX9_toll : gVOk qX9_toll := ⟨gW0_mem (gt_4 (List.mem_of_getElem? (i := 180) (by decide +kernel))) rfl, gW0_mem (gt_4 (List.mem_of_getElem? (i := 181) (by decide +kernel))) rfl⟩
def qX9_isDone : gMI := (yX9_isDone, cX9_isDone, 4, (some .boolean), 3)
theorem oX9_isDone : gMOk qX9_isDone := ⟨by decide +kernel, ⟨by decide +kernel, by decide +kernel, by decide +kernel⟩, gW0_mem (gt_4 (List.mem_of_getElem? (i := 129) (by decide +kernel))) rfl, gW0_mem (gt_1 (List.mem_of_getElem? (i := 1) (by decide +kernel))) rfl, by decide⟩
theorem vX9_isDone : gVOk qX9_isDone := ⟨gW0_mem (gt_4 (List.mem_of_getElem? (i := 128) (by decide +kernel))) rfl, gW0_mem (gt_0 (List.mem_of_getElem? (i := 16) (by decide +kernel))) rfl⟩
def qX9_undo : gMI := (yX9_undo, cX9_undo, 1, (some .int), 0)
theorem oX9_undo : gMOk qX9_undo := ⟨by decide +kernel, ⟨by decide +kernel, by decide +kernel, by decide +kernel⟩, gW0_mem (gt_4 (List.mem_of_getElem? (i := 190) (by decide +kernel))) rfl, gW0_mem (gt_1 (List.mem_of_getElem? (i := 1) (by decide +kernel))) rfl, by decide⟩
theorem vX9_undo : gVOk qX9_undo := ⟨gW0_mem (gt_4 (List.mem_of_getElem? (i := 188) (by decide +kernel))) rfl, gW0_mem (gt_4 (List.mem_of_getElem? (i := 189) (by decide +kernel))) rfl⟩
def qX9_latest : gMI := (yX9_latest, cX9_latest, 2, (some .int), 1)
theorem oX9_latest : gMOk qX9_latest := ⟨by decide +kernel, ⟨by decide +kernel, by decide +kernel, by decide +kernel⟩, gW0_mem (gt_4 (List.mem_of_getElem? (i := 203) (by decide +kernel))) rfl, gW0_mem (gt_1 (List.mem_of_getElem? (i := 1) (by decide +kernel))) rfl, by decide⟩
theorem vX9_latest : gVOk qX9_latest := ⟨gW0_mem (gt_4 (List.mem_of_getElem? (i := 201) (by decide +kernel))) rfl, gW0_mem (gt_4 (List.mem_of_getElem? (i := 202) (by decide +kernel))) rfl⟩
def qX9_node : gMI := (yX9_node, cX9_node, 3, (some .int), 2)
theorem oX9_node : gMOk qX9_node := ⟨by decide +kernel, ⟨by decide +kernel, by decide +kernel, by decide +kernel⟩, gW0_mem (gt_4 (List.mem_of_getElem? (i := 227) (by decide +kernel))) rfl, gW0_mem (gt_1 (List.mem_of_getElem? (i := 1) (by decide +kernel))) rfl, by decide⟩
theorem vX9_node : gVOk qX9_node := ⟨gW0_mem (gt_4 (List.mem_of_getElem? (i := 225) (by decide +kernel))) rfl, gW0_mem (gt_4 (List.mem_of_getElem? (i := 226) (by decide +kernel))) rfl⟩
def qX9_keeps : gMI := (yX9_keeps, cX9_keeps, 3, (some .boolean), 2)
theorem oX9_keeps : gMOk qX9_keeps := ⟨by decide +kernel, ⟨by decide +kernel, by decide +kernel, by decide +kernel⟩, gW0_mem (gt_5 (List.mem_of_getElem? (i := 123) (by decide +kernel))) rfl, gW0_mem (gt_1 (List.mem_of_getElem? (i := 1) (by decide +kernel))) rfl, by decide⟩
theorem vX9_keeps : gVOk qX9_keeps := ⟨gW0_mem (gt_5 (List.mem_of_getElem? (i := 121) (by decide +kernel))) rfl, gW0_mem (gt_5 (List.mem_of_getElem? (i := 122) (by decide +kernel))) rfl⟩
def qX9_common : gMI := (yX9_common, cX9_common, 3, (some .int), 2)
theorem oX9_common : gMOk qX9_common := ⟨by decide +kernel, ⟨by decide +kernel, by decide +kernel, by decide +kernel⟩, gW0_mem (gt_5 (List.mem_of_getElem? (i := 131) (by decide +kernel))) rfl, gW0_mem (gt_1 (List.mem_of_getElem? (i := 1) (by decide +kernel))) rfl, by decide⟩
theorem vX9_common : gVOk qX9_common := ⟨gW0_mem (gt_5 (List.mem_of_getElem? (i := 129) (by decide +kernel))) rfl, gW0_mem (gt_5 (List.mem_of_getElem? (i := 130) (by decide +kernel))) rfl⟩
def qX9_walk : gMI := (yX9_walk, cX9_walk, 2, (some .int), 1)
theorem oX9_walk : gMOk qX9_walk := ⟨by decide +kernel, ⟨by decide +kernel, by decide +kernel, by decide +kernel⟩, gW0_mem (gt_2 (List.mem_of_getElem? (i := 201) (by decide +kernel))) rfl, gW0_mem (gt_1 (List.mem_of_getElem? (i := 1) (by decide +kernel))) rfl, by decide⟩
theorem vX9_walk : gVOk qX9_walk := ⟨gW0_mem (gt_2 (List.mem_of_getElem? (i := 199) (by decide +kernel))) rfl, gW0_mem (gt_2 (List.mem_of_getElem? (i := 200) (by decide +kernel))) rfl⟩
def qX9_without : gMI := (yX9_without, cX9_without, 2, (some .int), 1)
theorem oX9_without : gMOk qX9_without := ⟨by decide +kernel, ⟨by decide +kernel, by decide +kernel, by decide +kernel⟩, gW0_mem (gt_5 (List.mem_of_getElem? (i := 152) (by decide +kernel))) rfl, gW0_mem (gt_1 (List.mem_of_getElem? (i := 1) (by decide +kernel))) rfl, by decide⟩
theorem vX9_without : gVOk qX9_without := ⟨gW0_mem (gt_5 (List.mem_of_getElem? (i := 150) (by decide +kernel))) rfl, gW0_mem (gt_5 (List.mem_of_getElem? (i := 151) (by decide +kernel))) rfl⟩
def qX9_seal : gMI := (yX9_seal, cX9_seal, 2, (some .int), 1)
theorem oX9_seal : gMOk qX9_seal := ⟨by decide +kernel, ⟨by decide +kernel, by decide +kernel, by decide +kernel⟩, gW0_mem (gt_5 (List.mem_of_getElem? (i := 159) (by decide +kernel))) rfl, gW0_mem (gt_1 (List.mem_of_getElem? (i := 1) (by decide +kernel))) rfl, by decide⟩
theorem vX9_seal : gVOk qX9_seal := ⟨gW0_mem (gt_5 (List.mem_of_getElem? (i := 157) (by decide +kernel))) rfl, gW0_mem (gt_5 (List.mem_of_getElem? (i := 158) (by decide +kernel))) rfl⟩
def qX9_chain : gMI := (yX9_chain, cX9_chain, 3, (some .int), 2)
theorem oX9_chain : gMOk qX9_chain := ⟨by decide +kernel, ⟨by decide +kernel, by decide +kernel, by decide +kernel⟩, gW0_mem (gt_5 (List.mem_of_getElem? (i := 174) (by decide +kernel))) rfl, gW0_mem (gt_1 (List.mem_of_getElem? (i := 1) (by decide +kernel))) rfl, by decide⟩
theorem vX9_chain : gVOk qX9_chain := ⟨gW0_mem (gt_5 (List.mem_of_getElem? (i := 172) (by decide +kernel))) rfl, gW0_mem (gt_5 (List.mem_of_getElem? (i := 173) (by decide +kernel))) rfl⟩
def qX9_level : gMI := (yX9_level, cX9_level, 2, (some .int), 1)
theorem oX9_level : gMOk qX9_level := ⟨by decide +kernel, ⟨by decide +kernel, by decide +kernel, by decide +kernel⟩, gW0_mem (gt_2 (List.mem_of_getElem? (i := 209) (by decide +kernel))) rfl, gW0_mem (gt_1 (List.mem_of_getElem? (i := 1) (by decide +kernel))) rfl, by decide⟩
theorem vX9_level : gVOk qX9_level := ⟨gW0_mem (gt_2 (List.mem_of_getElem? (i := 207) (by decide +kernel))) rfl, gW0_mem (gt_2 (List.mem_of_getElem? (i := 208) (by decide +kernel))) rfl⟩
def qX9_via : gMI := (yX9_via, cX9_via, 3, (some .int), 2)
theorem oX9_via : gMOk qX9_via := ⟨by decide +kernel, ⟨by decide +kernel, by decide +kernel, by decide +kernel⟩, gW0_mem (gt_5 (List.mem_of_getElem? (i := 185) (by decide +kernel))) rfl, gW0_mem (gt_1 (List.mem_of_getElem? (i := 1) (by decide +kernel))) rfl, by decide⟩
theorem vX9_via : gVOk qX9_via := ⟨gW0_mem (gt_5 (List.mem_of_getElem? (i := 183) (by decide +kernel))) rfl, gW0_mem (gt_5 (List.mem_of_getElem? (i := 184) (by decide +kernel))) rfl⟩
def qX9_pass : gMI := (yX9_pass, cX9_pass, 3, (some .int), 2)
theorem oX9_pass : gMOk qX9_pass := ⟨by decide +kernel, ⟨by decide +kernel, by decide +kernel, by decide +kernel⟩, gW0_mem (gt_5 (List.mem_of_getElem? (i := 196) (by decide +kernel))) rfl, gW0_mem (gt_1 (List.mem_of_getElem? (i := 1) (by decide +kernel))) rfl, by decide⟩
theorem vX9_pass : gVOk qX9_pass := ⟨gW0_mem (gt_5 (List.mem_of_getElem? (i := 194) (by decide +kernel))) rfl, gW0_mem (gt_5 (List.mem_of_getElem? (i := 195) (by decide +kernel))) rfl⟩
def qX9_row : gMI := (yX9_row, cX9_row, 2, (some .int), 1)
theorem oX9_row : gMOk qX9_row := ⟨by decide +kernel, ⟨by decide +kernel, by decide +kernel, by decide +kernel⟩, gW0_mem (gt_2 (List.mem_of_getElem? (i := 218) (by decide +kernel))) rfl, gW0_mem (gt_1 (List.mem_of_getElem? (i := 1) (by decide +kernel))) rfl, by decide⟩
theorem vX9_row : gVOk qX9_row := ⟨gW0_mem (gt_2 (List.mem_of_getElem? (i := 216) (by decide +kernel))) rfl, gW0_mem (gt_2 (List.mem_of_getElem? (i := 217) (by decide +kernel))) rfl⟩
def qX9_arc : gMI := (yX9_arc, cX9_arc, 3, (some .int), 2)
theorem oX9_arc : gMOk qX9_arc := ⟨by decide +kernel, ⟨by decide +kernel, by decide +kernel, by decide +kernel⟩, gW0_mem (gt_5 (List.mem_of_getElem? (i := 140) (by decide +kernel))) rfl, gW0_mem (gt_1 (List.mem_of_getElem? (i := 1) (by decide +kernel))) rfl, by decide⟩
theorem vX9_arc : gVOk qX9_arc := ⟨gW0_mem (gt_5 (List.mem_of_getElem? (i := 138) (by decide +kernel))) rfl, gW0_mem (gt_5 (List.mem_of_getElem? (i := 139) (by decide +kernel))) rfl⟩
def qX9_fall : gMI := (yX9_fall, cX9_fall, 4, (some .int), 2)
theorem oX9_fall : gMOk qX9_fall := ⟨by decide +kernel, ⟨by decide +kernel, by decide +kernel, by decide +kernel⟩, gW0_mem (gt_5 (List.mem_of_getElem? (i := 212) (by decide +kernel))) rfl, gW0_mem (gt_1 (List.mem_of_getElem? (i := 1) (by decide +kernel))) rfl, by decide⟩
theorem vX9_fall : gVOk qX9_fall := ⟨gW0_mem (gt_5 (List.mem_of_getElem? (i := 210) (by decide +kernel))) rfl, gW0_mem (gt_5 (List.mem_of_getElem? (i := 211) (by decide +kernel))) rfl⟩
def qX9_worst : gMI := (yX9_worst, cX9_worst, 3, (some .int), 1)
theorem oX9_worst : gMOk qX9_worst := ⟨by decide +kernel, ⟨by decide +kernel, by decide +kernel, by decide +kernel⟩, gW0_mem (gt_5 (List.mem_of_getElem? (i := 221) (by decide +kernel))) rfl, gW0_mem (gt_1 (List.mem_of_getElem? (i := 1) (by decide +kernel))) rfl, by decide⟩
theorem vX9_worst : gVOk qX9_worst := ⟨gW0_mem (gt_5 (List.mem_of_getElem? (i := 219) (by decide +kernel))) rfl, gW0_mem (gt_5 (List.mem_of_getElem? (i := 220) (by decide +kernel))) rfl⟩
def qX9_would : gMI := (yX9_would, cX9_would, 5, (some .int), 3)
theorem oX9_would : gMOk qX9_would := ⟨by decide +kernel, ⟨by decide +kernel, by decide +kernel, by decide +kernel⟩, gW0_mem (gt_5 (List.mem_of_getElem? (i := 233) (by decide +kernel))) rfl, gW0_mem (gt_1 (List.mem_of_getElem? (i := 1) (by decide +kernel))) rfl, by decide⟩
theorem vX9_would : gVOk qX9_would := ⟨gW0_mem (gt_5 (List.mem_of_getElem? (i := 231) (by decide +kernel))) rfl, gW0_mem (gt_5 (List.mem_of_getElem? (i := 232) (by decide +kernel))) rfl⟩
def qX9_best : gMI := (yX9_best, cX9_best, 3, (some .int), 1)
theorem oX9_best : gMOk qX9_best := ⟨by decide +kernel, ⟨by decide +kernel, by decide +kernel, by decide +kernel⟩, gW0_mem (gt_6 (List.mem_of_getElem? (i := 4) (by decide +kernel))) rfl, gW0_mem (gt_1 (List.mem_of_getElem? (i := 1) (by decide +kernel))) rfl, by decide⟩
theorem vX9_best : gVOk qX9_best := ⟨gW0_mem (gt_6 (List.mem_of_getElem? (i := 2) (by decide +kernel))) rfl, gW0_mem (gt_6 (List.mem_of_getElem? (i := 3) (by decide +kernel))) rfl⟩
def qX9_text : gMI := (yX9_text, cX9_text, 4, (some .int), 1)
theorem oX9_text : gMOk qX9_text := ⟨by decide +kernel, ⟨by decide +kernel, by decide +kernel, by decide +kernel⟩, gW0_mem (gt_6 (List.mem_of_getElem? (i := 19) (by decide +kernel))) rfl, gW0_mem (gt_1 (List.mem_of_getElem? (i := 1) (by decide +kernel))) rfl, by decide⟩
theorem vX9_text : gVOk qX9_text := ⟨gW0_mem (gt_6 (List.mem_of_getElem? (i := 17) (by decide +kernel))) rfl, gW0_mem (gt_6 (List.mem_of_getElem? (i := 18) (by decide +kernel))) rfl⟩
def qX9_octet : gMI := (yX9_octet, cX9_octet, 2, (some .int), 1)
theorem oX9_octet : gMOk qX9_octet := ⟨by decide +kernel, ⟨by decide +kernel, by decide +kernel, by decide +kernel⟩, gW0_mem (gt_2 (List.mem_of_getElem? (i := 230) (by decide +kernel))) rfl, gW0_mem (gt_1 (List.mem_of_getElem? (i := 1) (by decide +kernel))) rfl, by decide⟩
theorem vX9_octet : gVOk qX9_octet := ⟨gW0_mem (gt_2 (List.mem_of_getElem? (i := 228) (by decide +kernel))) rfl, gW0_mem (gt_2 (List.mem_of_getElem? (i := 229) (by decide +kernel))) rfl⟩
def qX9_image : gMI := (yX9_image, cX9_image, 1, none, 0)
theorem oX9_image : gMOk qX9_image := ⟨by decide +kernel, ⟨by decide +kernel, by decide +kernel, by decide +kernel⟩, gW0_mem (gt_2 (List.mem_of_getElem? (i := 238) (by decide +kernel))) rfl, gW0_mem (gt_1 (List.mem_of_getElem? (i := 1) (by decide +kernel))) rfl, by decide⟩
theorem vX9_image : gVOk qX9_image := ⟨gW0_mem (gt_2 (List.mem_of_getElem? (i := 236) (by decide +kernel))) rfl, gW0_mem (gt_2 (List.mem_of_getElem? (i := 237) (by decide +kernel))) rfl⟩
def qX9_back : gMI := (yX9_back, cX9_back, 1, (some .boolean), 0)
theorem oX9_back : gMOk qX9_back := ⟨by decide +kernel, ⟨by decide +kernel, by decide +kernel, by decide +kernel⟩, gW0_mem (gt_3 (List.mem_of_getElem? (i := 15) (by decide +kernel))) rfl, gW0_mem (gt_1 (List.mem_of_getElem? (i := 1) (by decide +kernel))) rfl, by decide⟩
theorem vX9_back : gVOk qX9_back := ⟨gW0_mem (gt_3 (List.mem_of_getElem? (i := 13) (by decide +kernel))) rfl, gW0_mem (gt_3 (List.mem_of_getElem? (i := 14) (by decide +kernel))) rfl⟩
def qX9_count : gMI := (yX9_count, cX9_count, 2, (some .int), 1)
theorem oX9_count : gMOk qX9_count := ⟨by decide +kernel, ⟨by decide +kernel, by decide +kernel, by decide +kernel⟩, gW0_mem (gt_3 (List.mem_of_getElem? (i := 23) (by decide +kernel))) rfl, gW0_mem (gt_1 (List.mem_of_getElem? (i := 1) (by decide +kernel))) rfl, by decide⟩
theorem vX9_count : gVOk qX9_count := ⟨gW0_mem (gt_3 (List.mem_of_getElem? (i := 21) (by decide +kernel))) rfl, gW0_mem (gt_3 (List.mem_of_getElem? (i := 22) (by decide +kernel))) rfl⟩
def qX9_at : gMI := (yX9_at, cX9_at, 2, (some .int), 2)
theorem oX9_at : gMOk qX9_at := ⟨by decide +kernel, ⟨by decide +kernel, by decide +kernel, by decide +kernel⟩, gW0_mem (gt_2 (List.mem_of_getElem? (i := 66) (by decide +kernel))) rfl, gW0_mem (gt_1 (List.mem_of_getElem? (i := 1) (by decide +kernel))) rfl, by decide⟩
theorem sX9_at : Cond.static qX9_at.1 ∈ gW0 := gW0_mem (gt_2 (List.mem_of_getElem? (i := 65) (by decide +kernel))) rfl
def qX9_put : gMI := (yX9_put, cX9_put, 3, none, 3)
theorem oX9_put : gMOk qX9_put := ⟨by decide +kernel, ⟨by decide +kernel, by decide +kernel, by decide +kernel⟩, gW0_mem (gt_2 (List.mem_of_getElem? (i := 72) (by decide +kernel))) rfl, gW0_mem (gt_1 (List.mem_of_getElem? (i := 1) (by decide +kernel))) rfl, by decide⟩
theorem sX9_put : Cond.static qX9_put.1 ∈ gW0 := gW0_mem (gt_2 (List.mem_of_getElem? (i := 71) (by decide +kernel))) rfl
def qX9_copyRow : gMI := (yX9_copyRow, cX9_copyRow, 2, none, 2)
theorem oX9_copyRow : gMOk qX9_copyRow := ⟨by decide +kernel, ⟨by decide +kernel, by decide +kernel, by decide +kernel⟩, gW0_mem (gt_3 (List.mem_of_getElem? (i := 5) (by decide +kernel))) rfl, gW0_mem (gt_1 (List.mem_of_getElem? (i := 1) (by decide +kernel))) rfl, by decide⟩
theorem sX9_copyRow : Cond.static qX9_copyRow.1 ∈ gW0 := gW0_mem (gt_3 (List.mem_of_getElem? (i := 4) (by decide +kernel))) rfl
def qX9_only : gMI := (yX9_only, cX9_only, 1, (some .int), 1)
theorem oX9_only : gMOk qX9_only := ⟨by decide +kernel, ⟨by decide +kernel, by decide +kernel, by decide +kernel⟩, gW0_mem (gt_2 (List.mem_of_getElem? (i := 69) (by decide +kernel))) rfl, gW0_mem (gt_1 (List.mem_of_getElem? (i := 1) (by decide +kernel))) rfl, by decide⟩
theorem sX9_only : Cond.static qX9_only.1 ∈ gW0 := gW0_mem (gt_2 (List.mem_of_getElem? (i := 68) (by decide +kernel))) rfl
def qX9_has : gMI := (yX9_has, cX9_has, 2, (some .boolean), 2)
theorem oX9_has : gMOk qX9_has := ⟨by decide +kernel, ⟨by decide +kernel, by decide +kernel, by decide +kernel⟩, gW0_mem (gt_2 (List.mem_of_getElem? (i := 97) (by decide +kernel))) rfl, gW0_mem (gt_1 (List.mem_of_getElem? (i := 1) (by decide +kernel))) rfl, by decide⟩
theorem sX9_has : Cond.static qX9_has.1 ∈ gW0 := gW0_mem (gt_2 (List.mem_of_getElem? (i := 96) (by decide +kernel))) rfl
def qX9_least : gMI := (yX9_least, cX9_least, 1, (some .int), 1)
theorem oX9_least : gMOk qX9_least := ⟨by decide +kernel, ⟨by decide +kernel, by decide +kernel, by decide +kernel⟩, gW0_mem (gt_2 (List.mem_of_getElem? (i := 83) (by decide +kernel))) rfl, gW0_mem (gt_1 (List.mem_of_getElem? (i := 1) (by decide +kernel))) rfl, by decide⟩
theorem sX9_least : Cond.static qX9_least.1 ∈ gW0 := gW0_mem (gt_2 (List.mem_of_getElem? (i := 82) (by decide +kernel))) rfl
def qX9_withoutLeast : gMI := (yX9_withoutLeast, cX9_withoutLeast, 1, (some .int), 1)
theorem oX9_withoutLeast : gMOk qX9_withoutLeast := ⟨by decide +kernel, ⟨by decide +kernel, by decide +kernel, by decide +kernel⟩, gW0_mem (gt_2 (List.mem_of_getElem? (i := 93) (by decide +kernel))) rfl, gW0_mem (gt_1 (List.mem_of_getElem? (i := 1) (by decide +kernel))) rfl, by decide⟩
theorem sX9_withoutLeast : Cond.static qX9_withoutLeast.1 ∈ gW0 := gW0_mem (gt_2 (List.mem_of_getElem? (i := 92) (by decide +kernel))) rfl
def qX9_spread : gMI := (yX9_spread, cX9_spread, 7, (some .int), 3)
theorem oX9_spread : gMOk qX9_spread := ⟨by decide +kernel, ⟨by decide +kernel, by decide +kernel, by decide +kernel⟩, gW0_mem (gt_2 (List.mem_of_getElem? (i := 80) (by decide +kernel))) rfl, gW0_mem (gt_1 (List.mem_of_getElem? (i := 1) (by decide +kernel))) rfl, by decide⟩
theorem sX9_spread : Cond.static qX9_spread.1 ∈ gW0 := gW0_mem (gt_2 (List.mem_of_getElem? (i := 79) (by decide +kernel))) rfl
def qX10_thrown : gMI := (yX10_thrown, cX10_thrown, 1, (some .int), 0)
theorem oX10_thrown : gMOk qX10_thrown := ⟨by decide +kernel, ⟨by decide +kernel, by decide +kernel, by decide +kernel⟩, gW0_mem (gt_6 (List.mem_of_getElem? (i := 28) (by decide +kernel))) rfl, gW0_mem (gt_1 (List.mem_of_getElem? (i := 14) (by decide +kernel))) rfl, by decide⟩
theorem vX10_thrown : gVOk qX10_thrown := ⟨gW0_mem (gt_6 (List.mem_of_getElem? (i := 26) (by decide +kernel))) rfl, gW0_mem (gt_6 (List.mem_of_getElem? (i := 27) (by decide +kernel))) rfl⟩
def qX10_throwsIf : gMI := (yX10_throwsIf, cX10_throwsIf, 3, (some .boolean), 2)
theorem oX10_throwsIf : gMOk qX10_throwsIf := ⟨by decide +kernel, ⟨by decide +kernel, by decide +kernel, by decide +kernel⟩, gW0_mem (gt_6 (List.mem_of_getElem? (i := 174) (by decide +kernel))) rfl, gW0_mem (gt_1 (List.mem_of_getElem? (i := 14) (by decide +kernel))) rfl, by decide⟩
theorem vX10_throwsIf : gVOk qX10_throwsIf := ⟨gW0_mem (gt_6 (List.mem_of_getElem? (i := 173) (by decide +kernel))) rfl, gW0_mem (gt_0 (List.mem_of_getElem? (i := 25) (by decide +kernel))) rfl⟩
def qX10_in : gMI := (yX10_in, cX10_in, 3, (some .boolean), 3)
theorem oX10_in : gMOk qX10_in := ⟨by decide +kernel, ⟨by decide +kernel, by decide +kernel, by decide +kernel⟩, gW0_mem (gt_6 (List.mem_of_getElem? (i := 196) (by decide +kernel))) rfl, gW0_mem (gt_1 (List.mem_of_getElem? (i := 14) (by decide +kernel))) rfl, by decide⟩
theorem sX10_in : Cond.static qX10_in.1 ∈ gW0 := gW0_mem (gt_6 (List.mem_of_getElem? (i := 195) (by decide +kernel))) rfl
def qX10_holds : gMI := (yX10_holds, cX10_holds, 2, (some .boolean), 2)
theorem oX10_holds : gMOk qX10_holds := ⟨by decide +kernel, ⟨by decide +kernel, by decide +kernel, by decide +kernel⟩, gW0_mem (gt_7 (List.mem_of_getElem? (i := 15) (by decide +kernel))) rfl, gW0_mem (gt_1 (List.mem_of_getElem? (i := 14) (by decide +kernel))) rfl, by decide⟩
theorem sX10_holds : Cond.static qX10_holds.1 ∈ gW0 := gW0_mem (gt_7 (List.mem_of_getElem? (i := 14) (by decide +kernel))) rfl
def qX10_bits : gMI := (yX10_bits, cX10_bits, 3, (some .int), 1)
theorem oX10_bits : gMOk qX10_bits := ⟨by decide +kernel, ⟨by decide +kernel, by decide +kernel, by decide +kernel⟩, gW0_mem (gt_7 (List.mem_of_getElem? (i := 22) (by decide +kernel))) rfl, gW0_mem (gt_1 (List.mem_of_getElem? (i := 14) (by decide +kernel))) rfl, by decide⟩
theorem sX10_bits : Cond.static qX10_bits.1 ∈ gW0 := gW0_mem (gt_7 (List.mem_of_getElem? (i := 21) (by decide +kernel))) rfl
def qX10_init : gMI := (yX10_init, cX10_init, 1, none, 0)
theorem oX10_init : gMOk qX10_init := ⟨by decide +kernel, ⟨by decide +kernel, by decide +kernel, by decide +kernel⟩, gW0_mem (gt_6 (List.mem_of_getElem? (i := 33) (by decide +kernel))) rfl, gW0_mem (gt_1 (List.mem_of_getElem? (i := 14) (by decide +kernel))) rfl, by decide⟩
theorem iX10_init : qX10_init.1.name = "<init>" ∧ Cond.instanceMethod qX10_init.1 ∈ gW0 := ⟨rfl, gW0_mem (gt_6 (List.mem_of_getElem? (i := 32) (by decide +kernel))) rfl⟩
def qX10_copies : gMI := (yX10_copies, cX10_copies, 5, none, 4)
theorem oX10_copies : gMOk qX10_copies := ⟨by decide +kernel, ⟨by decide +kernel, by decide +kernel, by decide +kernel⟩, gW0_mem (gt_6 (List.mem_of_getElem? (i := 177) (by decide +kernel))) rfl, gW0_mem (gt_1 (List.mem_of_getElem? (i := 14) (by decide +kernel))) rfl, by decide⟩
theorem sX10_copies : Cond.static qX10_copies.1 ∈ gW0 := gW0_mem (gt_6 (List.mem_of_getElem? (i := 176) (by decide +kernel))) rfl
def qX10_isFresh : gMI := (yX10_isFresh, cX10_isFresh, 3, none, 1)
theorem oX10_isFresh : gMOk qX10_isFresh := ⟨by decide +kernel, ⟨by decide +kernel, by decide +kernel, by decide +kernel⟩, gW0_mem (gt_6 (List.mem_of_getElem? (i := 38) (by decide +kernel))) rfl, gW0_mem (gt_1 (List.mem_of_getElem? (i := 14) (by decide +kernel))) rfl, by decide⟩
theorem vX10_isFresh : gVOk qX10_isFresh := ⟨gW0_mem (gt_6 (List.mem_of_getElem? (i := 37) (by decide +kernel))) rfl, gW0_mem (gt_0 (List.mem_of_getElem? (i := 24) (by decide +kernel))) rfl⟩
def qX10_nodes : gMI := (yX10_nodes, cX10_nodes, 1, (some .int), 0)
theorem oX10_nodes : gMOk qX10_nodes := ⟨by decide +kernel, ⟨by decide +kernel, by decide +kernel, by decide +kernel⟩, gW0_mem (gt_6 (List.mem_of_getElem? (i := 212) (by decide +kernel))) rfl, gW0_mem (gt_1 (List.mem_of_getElem? (i := 14) (by decide +kernel))) rfl, by decide⟩
theorem vX10_nodes : gVOk qX10_nodes := ⟨gW0_mem (gt_6 (List.mem_of_getElem? (i := 211) (by decide +kernel))) rfl, gW0_mem (gt_0 (List.mem_of_getElem? (i := 29) (by decide +kernel))) rfl⟩
def qX10_root : gMI := (yX10_root, cX10_root, 1, (some .int), 0)
theorem oX10_root : gMOk qX10_root := ⟨by decide +kernel, ⟨by decide +kernel, by decide +kernel, by decide +kernel⟩, gW0_mem (gt_6 (List.mem_of_getElem? (i := 236) (by decide +kernel))) rfl, gW0_mem (gt_1 (List.mem_of_getElem? (i := 14) (by decide +kernel))) rfl, by decide⟩
theorem vX10_root : gVOk qX10_root := ⟨gW0_mem (gt_6 (List.mem_of_getElem? (i := 235) (by decide +kernel))) rfl, gW0_mem (gt_0 (List.mem_of_getElem? (i := 35) (by decide +kernel))) rfl⟩
def qX10_arcs : gMI := (yX10_arcs, cX10_arcs, 1, (some .int), 0)
theorem oX10_arcs : gMOk qX10_arcs := ⟨by decide +kernel, ⟨by decide +kernel, by decide +kernel, by decide +kernel⟩, gW0_mem (gt_7 (List.mem_of_getElem? (i := 4) (by decide +kernel))) rfl, gW0_mem (gt_1 (List.mem_of_getElem? (i := 14) (by decide +kernel))) rfl, by decide⟩
theorem vX10_arcs : gVOk qX10_arcs := ⟨gW0_mem (gt_7 (List.mem_of_getElem? (i := 3) (by decide +kernel))) rfl, gW0_mem (gt_0 (List.mem_of_getElem? (i := 37) (by decide +kernel))) rfl⟩
def qX10_fromOf : gMI := (yX10_fromOf, cX10_fromOf, 2, (some .int), 1)
theorem oX10_fromOf : gMOk qX10_fromOf := ⟨by decide +kernel, ⟨by decide +kernel, by decide +kernel, by decide +kernel⟩, gW0_mem (gt_7 (List.mem_of_getElem? (i := 12) (by decide +kernel))) rfl, gW0_mem (gt_1 (List.mem_of_getElem? (i := 14) (by decide +kernel))) rfl, by decide⟩
theorem vX10_fromOf : gVOk qX10_fromOf := ⟨gW0_mem (gt_7 (List.mem_of_getElem? (i := 11) (by decide +kernel))) rfl, gW0_mem (gt_0 (List.mem_of_getElem? (i := 39) (by decide +kernel))) rfl⟩
def qX10_toOf : gMI := (yX10_toOf, cX10_toOf, 2, (some .int), 1)
theorem oX10_toOf : gMOk qX10_toOf := ⟨by decide +kernel, ⟨by decide +kernel, by decide +kernel, by decide +kernel⟩, gW0_mem (gt_7 (List.mem_of_getElem? (i := 19) (by decide +kernel))) rfl, gW0_mem (gt_1 (List.mem_of_getElem? (i := 14) (by decide +kernel))) rfl, by decide⟩
theorem vX10_toOf : gVOk qX10_toOf := ⟨gW0_mem (gt_7 (List.mem_of_getElem? (i := 18) (by decide +kernel))) rfl, gW0_mem (gt_0 (List.mem_of_getElem? (i := 40) (by decide +kernel))) rfl⟩
def qX10_isOpen : gMI := (yX10_isOpen, cX10_isOpen, 2, (some .boolean), 1)
theorem oX10_isOpen : gMOk qX10_isOpen := ⟨by decide +kernel, ⟨by decide +kernel, by decide +kernel, by decide +kernel⟩, gW0_mem (gt_7 (List.mem_of_getElem? (i := 8) (by decide +kernel))) rfl, gW0_mem (gt_1 (List.mem_of_getElem? (i := 14) (by decide +kernel))) rfl, by decide⟩
theorem vX10_isOpen : gVOk qX10_isOpen := ⟨gW0_mem (gt_7 (List.mem_of_getElem? (i := 7) (by decide +kernel))) rfl, gW0_mem (gt_0 (List.mem_of_getElem? (i := 38) (by decide +kernel))) rfl⟩
def qX10_isNode : gMI := (yX10_isNode, cX10_isNode, 2, (some .boolean), 1)
theorem oX10_isNode : gMOk qX10_isNode := ⟨by decide +kernel, ⟨by decide +kernel, by decide +kernel, by decide +kernel⟩, gW0_mem (gt_6 (List.mem_of_getElem? (i := 208) (by decide +kernel))) rfl, gW0_mem (gt_1 (List.mem_of_getElem? (i := 14) (by decide +kernel))) rfl, by decide⟩
theorem vX10_isNode : gVOk qX10_isNode := ⟨gW0_mem (gt_6 (List.mem_of_getElem? (i := 207) (by decide +kernel))) rfl, gW0_mem (gt_0 (List.mem_of_getElem? (i := 28) (by decide +kernel))) rfl⟩
def qX10_isArc : gMI := (yX10_isArc, cX10_isArc, 2, (some .boolean), 1)
theorem oX10_isArc : gMOk qX10_isArc := ⟨by decide +kernel, ⟨by decide +kernel, by decide +kernel, by decide +kernel⟩, gW0_mem (gt_7 (List.mem_of_getElem? (i := 50) (by decide +kernel))) rfl, gW0_mem (gt_1 (List.mem_of_getElem? (i := 14) (by decide +kernel))) rfl, by decide⟩
theorem vX10_isArc : gVOk qX10_isArc := ⟨gW0_mem (gt_7 (List.mem_of_getElem? (i := 49) (by decide +kernel))) rfl, gW0_mem (gt_0 (List.mem_of_getElem? (i := 45) (by decide +kernel))) rfl⟩
def qX10_reach : gMI := (yX10_reach, cX10_reach, 7, (some .int), 3)
theorem oX10_reach : gMOk qX10_reach := ⟨by decide +kernel, ⟨by decide +kernel, by decide +kernel, by decide +kernel⟩, gW0_mem (gt_7 (List.mem_of_getElem? (i := 0) (by decide +kernel))) rfl, gW0_mem (gt_1 (List.mem_of_getElem? (i := 14) (by decide +kernel))) rfl, by decide⟩
theorem vX10_reach : gVOk qX10_reach := ⟨gW0_mem (gt_6 (List.mem_of_getElem? (i := 239) (by decide +kernel))) rfl, gW0_mem (gt_0 (List.mem_of_getElem? (i := 36) (by decide +kernel))) rfl⟩
def qX10_comers : gMI := (yX10_comers, cX10_comers, 6, (some .int), 2)
theorem oX10_comers : gMOk qX10_comers := ⟨by decide +kernel, ⟨by decide +kernel, by decide +kernel, by decide +kernel⟩, gW0_mem (gt_7 (List.mem_of_getElem? (i := 199) (by decide +kernel))) rfl, gW0_mem (gt_1 (List.mem_of_getElem? (i := 14) (by decide +kernel))) rfl, by decide⟩
theorem vX10_comers : gVOk qX10_comers := ⟨gW0_mem (gt_7 (List.mem_of_getElem? (i := 198) (by decide +kernel))) rfl, gW0_mem (gt_0 (List.mem_of_getElem? (i := 68) (by decide +kernel))) rfl⟩
def qX10_reachedBut : gMI := (yX10_reachedBut, cX10_reachedBut, 3, (some .int), 2)
theorem oX10_reachedBut : gMOk qX10_reachedBut := ⟨by decide +kernel, ⟨by decide +kernel, by decide +kernel, by decide +kernel⟩, gW0_mem (gt_6 (List.mem_of_getElem? (i := 232) (by decide +kernel))) rfl, gW0_mem (gt_1 (List.mem_of_getElem? (i := 14) (by decide +kernel))) rfl, by decide⟩
theorem vX10_reachedBut : gVOk qX10_reachedBut := ⟨gW0_mem (gt_6 (List.mem_of_getElem? (i := 231) (by decide +kernel))) rfl, gW0_mem (gt_0 (List.mem_of_getElem? (i := 34) (by decide +kernel))) rfl⟩
def qX10_laysGates : gMI := (yX10_laysGates, cX10_laysGates, 4, none, 0)
theorem oX10_laysGates : gMOk qX10_laysGates := ⟨by decide +kernel, ⟨by decide +kernel, by decide +kernel, by decide +kernel⟩, gW0_mem (gt_6 (List.mem_of_getElem? (i := 228) (by decide +kernel))) rfl, gW0_mem (gt_1 (List.mem_of_getElem? (i := 14) (by decide +kernel))) rfl, by decide⟩
theorem vX10_laysGates : gVOk qX10_laysGates := ⟨gW0_mem (gt_6 (List.mem_of_getElem? (i := 227) (by decide +kernel))) rfl, gW0_mem (gt_0 (List.mem_of_getElem? (i := 33) (by decide +kernel))) rfl⟩
def qX10_keepsOne : gMI := (yX10_keepsOne, cX10_keepsOne, 3, (some .boolean), 2)
theorem oX10_keepsOne : gMOk qX10_keepsOne := ⟨by decide +kernel, ⟨by decide +kernel, by decide +kernel, by decide +kernel⟩, gW0_mem (gt_7 (List.mem_of_getElem? (i := 187) (by decide +kernel))) rfl, gW0_mem (gt_1 (List.mem_of_getElem? (i := 14) (by decide +kernel))) rfl, by decide⟩
theorem vX10_keepsOne : gVOk qX10_keepsOne := ⟨gW0_mem (gt_7 (List.mem_of_getElem? (i := 186) (by decide +kernel))) rfl, gW0_mem (gt_0 (List.mem_of_getElem? (i := 65) (by decide +kernel))) rfl⟩
def qX10_keptBy : gMI := (yX10_keptBy, cX10_keptBy, 4, (some .int), 1)
theorem oX10_keptBy : gMOk qX10_keptBy := ⟨by decide +kernel, ⟨by decide +kernel, by decide +kernel, by decide +kernel⟩, gW0_mem (gt_7 (List.mem_of_getElem? (i := 175) (by decide +kernel))) rfl, gW0_mem (gt_1 (List.mem_of_getElem? (i := 14) (by decide +kernel))) rfl, by decide⟩
theorem vX10_keptBy : gVOk qX10_keptBy := ⟨gW0_mem (gt_7 (List.mem_of_getElem? (i := 174) (by decide +kernel))) rfl, gW0_mem (gt_0 (List.mem_of_getElem? (i := 62) (by decide +kernel))) rfl⟩
def qX10_notes : gMI := (yX10_notes, cX10_notes, 2, none, 0)
theorem oX10_notes : gMOk qX10_notes := ⟨by decide +kernel, ⟨by decide +kernel, by decide +kernel, by decide +kernel⟩, gW0_mem (gt_6 (List.mem_of_getElem? (i := 224) (by decide +kernel))) rfl, gW0_mem (gt_1 (List.mem_of_getElem? (i := 14) (by decide +kernel))) rfl, by decide⟩
theorem vX10_notes : gVOk qX10_notes := ⟨gW0_mem (gt_6 (List.mem_of_getElem? (i := 223) (by decide +kernel))) rfl, gW0_mem (gt_0 (List.mem_of_getElem? (i := 32) (by decide +kernel))) rfl⟩
def qX10_holdsAgainst : gMI := (yX10_holdsAgainst, cX10_holdsAgainst, 2, none, 0)
theorem oX10_holdsAgainst : gMOk qX10_holdsAgainst := ⟨by decide +kernel, ⟨by decide +kernel, by decide +kernel, by decide +kernel⟩, gW0_mem (gt_7 (List.mem_of_getElem? (i := 26) (by decide +kernel))) rfl, gW0_mem (gt_1 (List.mem_of_getElem? (i := 14) (by decide +kernel))) rfl, by decide⟩
theorem vX10_holdsAgainst : gVOk qX10_holdsAgainst := ⟨gW0_mem (gt_7 (List.mem_of_getElem? (i := 25) (by decide +kernel))) rfl, gW0_mem (gt_0 (List.mem_of_getElem? (i := 41) (by decide +kernel))) rfl⟩
def qX10_hasNoLatest : gMI := (yX10_hasNoLatest, cX10_hasNoLatest, 1, none, 0)
theorem oX10_hasNoLatest : gMOk qX10_hasNoLatest := ⟨by decide +kernel, ⟨by decide +kernel, by decide +kernel, by decide +kernel⟩, gW0_mem (gt_6 (List.mem_of_getElem? (i := 181) (by decide +kernel))) rfl, gW0_mem (gt_1 (List.mem_of_getElem? (i := 14) (by decide +kernel))) rfl, by decide⟩
theorem vX10_hasNoLatest : gVOk qX10_hasNoLatest := ⟨gW0_mem (gt_6 (List.mem_of_getElem? (i := 180) (by decide +kernel))) rfl, gW0_mem (gt_0 (List.mem_of_getElem? (i := 26) (by decide +kernel))) rfl⟩
def qX10_remembers : gMI := (yX10_remembers, cX10_remembers, 2, none, 0)
theorem oX10_remembers : gMOk qX10_remembers := ⟨by decide +kernel, ⟨by decide +kernel, by decide +kernel, by decide +kernel⟩, gW0_mem (gt_6 (List.mem_of_getElem? (i := 220) (by decide +kernel))) rfl, gW0_mem (gt_1 (List.mem_of_getElem? (i := 14) (by decide +kernel))) rfl, by decide⟩
theorem vX10_remembers : gVOk qX10_remembers := ⟨gW0_mem (gt_6 (List.mem_of_getElem? (i := 219) (by decide +kernel))) rfl, gW0_mem (gt_0 (List.mem_of_getElem? (i := 31) (by decide +kernel))) rfl⟩
def qX10_isRefused : gMI := (yX10_isRefused, cX10_isRefused, 3, (some .boolean), 2)
theorem oX10_isRefused : gMOk qX10_isRefused := ⟨by decide +kernel, ⟨by decide +kernel, by decide +kernel, by decide +kernel⟩, gW0_mem (gt_6 (List.mem_of_getElem? (i := 216) (by decide +kernel))) rfl, gW0_mem (gt_1 (List.mem_of_getElem? (i := 14) (by decide +kernel))) rfl, by decide⟩
theorem vX10_isRefused : gVOk qX10_isRefused := ⟨gW0_mem (gt_6 (List.mem_of_getElem? (i := 215) (by decide +kernel))) rfl, gW0_mem (gt_0 (List.mem_of_getElem? (i := 30) (by decide +kernel))) rfl⟩
def qX10_undo : gMI := (yX10_undo, cX10_undo, 1, (some .int), 0)
theorem oX10_undo : gMOk qX10_undo := ⟨by decide +kernel, ⟨by decide +kernel, by decide +kernel, by decide +kernel⟩, gW0_mem (gt_6 (List.mem_of_getElem? (i := 170) (by decide +kernel))) rfl, gW0_mem (gt_1 (List.mem_of_getElem? (i := 14) (by decide +kernel))) rfl, by decide⟩
theorem vX10_undo : gVOk qX10_undo := ⟨gW0_mem (gt_6 (List.mem_of_getElem? (i := 168) (by decide +kernel))) rfl, gW0_mem (gt_6 (List.mem_of_getElem? (i := 169) (by decide +kernel))) rfl⟩
def qX10_image : gMI := (yX10_image, cX10_image, 1, none, 0)
theorem oX10_image : gMOk qX10_image := ⟨by decide +kernel, ⟨by decide +kernel, by decide +kernel, by decide +kernel⟩, gW0_mem (gt_6 (List.mem_of_getElem? (i := 185) (by decide +kernel))) rfl, gW0_mem (gt_1 (List.mem_of_getElem? (i := 14) (by decide +kernel))) rfl, by decide⟩
theorem vX10_image : gVOk qX10_image := ⟨gW0_mem (gt_6 (List.mem_of_getElem? (i := 183) (by decide +kernel))) rfl, gW0_mem (gt_6 (List.mem_of_getElem? (i := 184) (by decide +kernel))) rfl⟩
def qX10_back : gMI := (yX10_back, cX10_back, 1, (some .boolean), 0)
theorem oX10_back : gMOk qX10_back := ⟨by decide +kernel, ⟨by decide +kernel, by decide +kernel, by decide +kernel⟩, gW0_mem (gt_6 (List.mem_of_getElem? (i := 189) (by decide +kernel))) rfl, gW0_mem (gt_1 (List.mem_of_getElem? (i := 14) (by decide +kernel))) rfl, by decide⟩
theorem vX10_back : gVOk qX10_back := ⟨gW0_mem (gt_6 (List.mem_of_getElem? (i := 187) (by decide +kernel))) rfl, gW0_mem (gt_6 (List.mem_of_getElem? (i := 188) (by decide +kernel))) rfl⟩
def qX10_net : gMI := (yX10_net, cX10_net, 2, none, 1)
theorem oX10_net : gMOk qX10_net := ⟨by decide +kernel, ⟨by decide +kernel, by decide +kernel, by decide +kernel⟩, gW0_mem (gt_6 (List.mem_of_getElem? (i := 193) (by decide +kernel))) rfl, gW0_mem (gt_1 (List.mem_of_getElem? (i := 14) (by decide +kernel))) rfl, by decide⟩
theorem vX10_net : gVOk qX10_net := ⟨gW0_mem (gt_6 (List.mem_of_getElem? (i := 191) (by decide +kernel))) rfl, gW0_mem (gt_6 (List.mem_of_getElem? (i := 192) (by decide +kernel))) rfl⟩
def qX10_whyNoTell : gMI := (yX10_whyNoTell, cX10_whyNoTell, 3, (some .int), 2)
theorem oX10_whyNoTell : gMOk qX10_whyNoTell := ⟨by decide +kernel, ⟨by decide +kernel, by decide +kernel, by decide +kernel⟩, gW0_mem (gt_6 (List.mem_of_getElem? (i := 204) (by decide +kernel))) rfl, gW0_mem (gt_1 (List.mem_of_getElem? (i := 14) (by decide +kernel))) rfl, by decide⟩
theorem vX10_whyNoTell : gVOk qX10_whyNoTell := ⟨gW0_mem (gt_6 (List.mem_of_getElem? (i := 203) (by decide +kernel))) rfl, gW0_mem (gt_0 (List.mem_of_getElem? (i := 27) (by decide +kernel))) rfl⟩
def qX10_whyNoLay : gMI := (yX10_whyNoLay, cX10_whyNoLay, 3, (some .int), 2)
theorem oX10_whyNoLay : gMOk qX10_whyNoLay := ⟨by decide +kernel, ⟨by decide +kernel, by decide +kernel, by decide +kernel⟩, gW0_mem (gt_7 (List.mem_of_getElem? (i := 34) (by decide +kernel))) rfl, gW0_mem (gt_1 (List.mem_of_getElem? (i := 14) (by decide +kernel))) rfl, by decide⟩
theorem vX10_whyNoLay : gVOk qX10_whyNoLay := ⟨gW0_mem (gt_7 (List.mem_of_getElem? (i := 33) (by decide +kernel))) rfl, gW0_mem (gt_0 (List.mem_of_getElem? (i := 42) (by decide +kernel))) rfl⟩
def qX10_whyNoTurn : gMI := (yX10_whyNoTurn, cX10_whyNoTurn, 3, (some .int), 2)
theorem oX10_whyNoTurn : gMOk qX10_whyNoTurn := ⟨by decide +kernel, ⟨by decide +kernel, by decide +kernel, by decide +kernel⟩, gW0_mem (gt_7 (List.mem_of_getElem? (i := 46) (by decide +kernel))) rfl, gW0_mem (gt_1 (List.mem_of_getElem? (i := 14) (by decide +kernel))) rfl, by decide⟩
theorem vX10_whyNoTurn : gVOk qX10_whyNoTurn := ⟨gW0_mem (gt_7 (List.mem_of_getElem? (i := 45) (by decide +kernel))) rfl, gW0_mem (gt_0 (List.mem_of_getElem? (i := 44) (by decide +kernel))) rfl⟩
def qX10_whyNoToll : gMI := (yX10_whyNoToll, cX10_whyNoToll, 3, (some .int), 2)
theorem oX10_whyNoToll : gMOk qX10_whyNoToll := ⟨by decide +kernel, ⟨by decide +kernel, by decide +kernel, by decide +kernel⟩, gW0_mem (gt_7 (List.mem_of_getElem? (i := 62) (by decide +kernel))) rfl, gW0_mem (gt_1 (List.mem_of_getElem? (i := 14) (by decide +kernel))) rfl, by decide⟩
theorem vX10_whyNoToll : gVOk qX10_whyNoToll := ⟨gW0_mem (gt_7 (List.mem_of_getElem? (i := 61) (by decide +kernel))) rfl, gW0_mem (gt_0 (List.mem_of_getElem? (i := 46) (by decide +kernel))) rfl⟩
def qX10_lays : gMI := (yX10_lays, cX10_lays, 4, (some .int), 2)
theorem oX10_lays : gMOk qX10_lays := ⟨by decide +kernel, ⟨by decide +kernel, by decide +kernel, by decide +kernel⟩, gW0_mem (gt_7 (List.mem_of_getElem? (i := 38) (by decide +kernel))) rfl, gW0_mem (gt_1 (List.mem_of_getElem? (i := 14) (by decide +kernel))) rfl, by decide⟩
theorem vX10_lays : gVOk qX10_lays := ⟨gW0_mem (gt_7 (List.mem_of_getElem? (i := 37) (by decide +kernel))) rfl, gW0_mem (gt_0 (List.mem_of_getElem? (i := 43) (by decide +kernel))) rfl⟩
def qX10_tell : gMI := (yX10_tell, cX10_tell, 5, (some .int), 2)
theorem oX10_tell : gMOk qX10_tell := ⟨by decide +kernel, ⟨by decide +kernel, by decide +kernel, by decide +kernel⟩, gW0_mem (gt_6 (List.mem_of_getElem? (i := 200) (by decide +kernel))) rfl, gW0_mem (gt_1 (List.mem_of_getElem? (i := 14) (by decide +kernel))) rfl, by decide⟩
theorem vX10_tell : gVOk qX10_tell := ⟨gW0_mem (gt_6 (List.mem_of_getElem? (i := 198) (by decide +kernel))) rfl, gW0_mem (gt_6 (List.mem_of_getElem? (i := 199) (by decide +kernel))) rfl⟩
def qX10_lay : gMI := (yX10_lay, cX10_lay, 4, (some .int), 2)
theorem oX10_lay : gMOk qX10_lay := ⟨by decide +kernel, ⟨by decide +kernel, by decide +kernel, by decide +kernel⟩, gW0_mem (gt_7 (List.mem_of_getElem? (i := 30) (by decide +kernel))) rfl, gW0_mem (gt_1 (List.mem_of_getElem? (i := 14) (by decide +kernel))) rfl, by decide⟩
theorem vX10_lay : gVOk qX10_lay := ⟨gW0_mem (gt_7 (List.mem_of_getElem? (i := 28) (by decide +kernel))) rfl, gW0_mem (gt_7 (List.mem_of_getElem? (i := 29) (by decide +kernel))) rfl⟩
def qX10_shut : gMI := (yX10_shut, cX10_shut, 2, (some .int), 1)
theorem oX10_shut : gMOk qX10_shut := ⟨by decide +kernel, ⟨by decide +kernel, by decide +kernel, by decide +kernel⟩, gW0_mem (gt_7 (List.mem_of_getElem? (i := 42) (by decide +kernel))) rfl, gW0_mem (gt_1 (List.mem_of_getElem? (i := 14) (by decide +kernel))) rfl, by decide⟩
theorem vX10_shut : gVOk qX10_shut := ⟨gW0_mem (gt_7 (List.mem_of_getElem? (i := 40) (by decide +kernel))) rfl, gW0_mem (gt_7 (List.mem_of_getElem? (i := 41) (by decide +kernel))) rfl⟩
def qX10_open : gMI := (yX10_open, cX10_open, 2, (some .int), 1)
theorem oX10_open : gMOk qX10_open := ⟨by decide +kernel, ⟨by decide +kernel, by decide +kernel, by decide +kernel⟩, gW0_mem (gt_7 (List.mem_of_getElem? (i := 54) (by decide +kernel))) rfl, gW0_mem (gt_1 (List.mem_of_getElem? (i := 14) (by decide +kernel))) rfl, by decide⟩
theorem vX10_open : gVOk qX10_open := ⟨gW0_mem (gt_7 (List.mem_of_getElem? (i := 52) (by decide +kernel))) rfl, gW0_mem (gt_7 (List.mem_of_getElem? (i := 53) (by decide +kernel))) rfl⟩
def qX10_toll : gMI := (yX10_toll, cX10_toll, 4, (some .int), 2)
theorem oX10_toll : gMOk qX10_toll := ⟨by decide +kernel, ⟨by decide +kernel, by decide +kernel, by decide +kernel⟩, gW0_mem (gt_7 (List.mem_of_getElem? (i := 58) (by decide +kernel))) rfl, gW0_mem (gt_1 (List.mem_of_getElem? (i := 14) (by decide +kernel))) rfl, by decide⟩
theorem vX10_toll : gVOk qX10_toll := ⟨gW0_mem (gt_7 (List.mem_of_getElem? (i := 56) (by decide +kernel))) rfl, gW0_mem (gt_7 (List.mem_of_getElem? (i := 57) (by decide +kernel))) rfl⟩
def qX10_why : gMI := (yX10_why, cX10_why, 1, (some .int), 0)
theorem oX10_why : gMOk qX10_why := ⟨by decide +kernel, ⟨by decide +kernel, by decide +kernel, by decide +kernel⟩, gW0_mem (gt_7 (List.mem_of_getElem? (i := 66) (by decide +kernel))) rfl, gW0_mem (gt_1 (List.mem_of_getElem? (i := 14) (by decide +kernel))) rfl, by decide⟩
theorem vX10_why : gVOk qX10_why := ⟨gW0_mem (gt_7 (List.mem_of_getElem? (i := 64) (by decide +kernel))) rfl, gW0_mem (gt_7 (List.mem_of_getElem? (i := 65) (by decide +kernel))) rfl⟩
def qX10_latest : gMI := (yX10_latest, cX10_latest, 2, (some .int), 1)
theorem oX10_latest : gMOk qX10_latest := ⟨by decide +kernel, ⟨by decide +kernel, by decide +kernel, by decide +kernel⟩, gW0_mem (gt_7 (List.mem_of_getElem? (i := 70) (by decide +kernel))) rfl, gW0_mem (gt_1 (List.mem_of_getElem? (i := 14) (by decide +kernel))) rfl, by decide⟩
theorem vX10_latest : gVOk qX10_latest := ⟨gW0_mem (gt_7 (List.mem_of_getElem? (i := 68) (by decide +kernel))) rfl, gW0_mem (gt_7 (List.mem_of_getElem? (i := 69) (by decide +kernel))) rfl⟩
def qX10_feed : gMI := (yX10_feed, cX10_feed, 7, (some .int), 5)
theorem oX10_feed : gMOk qX10_feed := ⟨by decide +kernel, ⟨by decide +kernel, by decide +kernel, by decide +kernel⟩, gW0_mem (gt_7 (List.mem_of_getElem? (i := 74) (by decide +kernel))) rfl, gW0_mem (gt_1 (List.mem_of_getElem? (i := 14) (by decide +kernel))) rfl, by decide⟩
theorem vX10_feed : gVOk qX10_feed := ⟨gW0_mem (gt_7 (List.mem_of_getElem? (i := 72) (by decide +kernel))) rfl, gW0_mem (gt_7 (List.mem_of_getElem? (i := 73) (by decide +kernel))) rfl⟩
def qX10_end : gMI := (yX10_end, cX10_end, 2, (some .boolean), 1)
theorem oX10_end : gMOk qX10_end := ⟨by decide +kernel, ⟨by decide +kernel, by decide +kernel, by decide +kernel⟩, gW0_mem (gt_7 (List.mem_of_getElem? (i := 78) (by decide +kernel))) rfl, gW0_mem (gt_1 (List.mem_of_getElem? (i := 14) (by decide +kernel))) rfl, by decide⟩
theorem vX10_end : gVOk qX10_end := ⟨gW0_mem (gt_7 (List.mem_of_getElem? (i := 76) (by decide +kernel))) rfl, gW0_mem (gt_7 (List.mem_of_getElem? (i := 77) (by decide +kernel))) rfl⟩
def qX10_fault : gMI := (yX10_fault, cX10_fault, 1, (some .int), 0)
theorem oX10_fault : gMOk qX10_fault := ⟨by decide +kernel, ⟨by decide +kernel, by decide +kernel, by decide +kernel⟩, gW0_mem (gt_7 (List.mem_of_getElem? (i := 82) (by decide +kernel))) rfl, gW0_mem (gt_1 (List.mem_of_getElem? (i := 14) (by decide +kernel))) rfl, by decide⟩
theorem vX10_fault : gVOk qX10_fault := ⟨gW0_mem (gt_7 (List.mem_of_getElem? (i := 80) (by decide +kernel))) rfl, gW0_mem (gt_7 (List.mem_of_getElem? (i := 81) (by decide +kernel))) rfl⟩
def qX10_isAt : gMI := (yX10_isAt, cX10_isAt, 3, (some .boolean), 2)
theorem oX10_isAt : gMOk qX10_isAt := ⟨by decide +kernel, ⟨by decide +kernel, by decide +kernel, by decide +kernel⟩, gW0_mem (gt_7 (List.mem_of_getElem? (i := 98) (by decide +kernel))) rfl, gW0_mem (gt_1 (List.mem_of_getElem? (i := 14) (by decide +kernel))) rfl, by decide⟩
theorem vX10_isAt : gVOk qX10_isAt := ⟨gW0_mem (gt_7 (List.mem_of_getElem? (i := 97) (by decide +kernel))) rfl, gW0_mem (gt_0 (List.mem_of_getElem? (i := 49) (by decide +kernel))) rfl⟩
def qX10_blanks : gMI := (yX10_blanks, cX10_blanks, 1, none, 0)
theorem oX10_blanks : gMOk qX10_blanks := ⟨by decide +kernel, ⟨by decide +kernel, by decide +kernel, by decide +kernel⟩, gW0_mem (gt_7 (List.mem_of_getElem? (i := 94) (by decide +kernel))) rfl, gW0_mem (gt_1 (List.mem_of_getElem? (i := 14) (by decide +kernel))) rfl, by decide⟩
theorem vX10_blanks : gVOk qX10_blanks := ⟨gW0_mem (gt_7 (List.mem_of_getElem? (i := 93) (by decide +kernel))) rfl, gW0_mem (gt_0 (List.mem_of_getElem? (i := 48) (by decide +kernel))) rfl⟩
def qX10_letters : gMI := (yX10_letters, cX10_letters, 1, none, 0)
theorem oX10_letters : gMOk qX10_letters := ⟨by decide +kernel, ⟨by decide +kernel, by decide +kernel, by decide +kernel⟩, gW0_mem (gt_7 (List.mem_of_getElem? (i := 106) (by decide +kernel))) rfl, gW0_mem (gt_1 (List.mem_of_getElem? (i := 14) (by decide +kernel))) rfl, by decide⟩
theorem vX10_letters : gVOk qX10_letters := ⟨gW0_mem (gt_7 (List.mem_of_getElem? (i := 105) (by decide +kernel))) rfl, gW0_mem (gt_0 (List.mem_of_getElem? (i := 51) (by decide +kernel))) rfl⟩
def qX10_isWord : gMI := (yX10_isWord, cX10_isWord, 4, (some .boolean), 1)
theorem oX10_isWord : gMOk qX10_isWord := ⟨by decide +kernel, ⟨by decide +kernel, by decide +kernel, by decide +kernel⟩, gW0_mem (gt_7 (List.mem_of_getElem? (i := 111) (by decide +kernel))) rfl, gW0_mem (gt_1 (List.mem_of_getElem? (i := 14) (by decide +kernel))) rfl, by decide⟩
theorem vX10_isWord : gVOk qX10_isWord := ⟨gW0_mem (gt_7 (List.mem_of_getElem? (i := 110) (by decide +kernel))) rfl, gW0_mem (gt_0 (List.mem_of_getElem? (i := 52) (by decide +kernel))) rfl⟩
def qX10_reads : gMI := (yX10_reads, cX10_reads, 5, (some .boolean), 3)
theorem oX10_reads : gMOk qX10_reads := ⟨by decide +kernel, ⟨by decide +kernel, by decide +kernel, by decide +kernel⟩, gW0_mem (gt_7 (List.mem_of_getElem? (i := 117) (by decide +kernel))) rfl, gW0_mem (gt_1 (List.mem_of_getElem? (i := 14) (by decide +kernel))) rfl, by decide⟩
theorem vX10_reads : gVOk qX10_reads := ⟨gW0_mem (gt_7 (List.mem_of_getElem? (i := 116) (by decide +kernel))) rfl, gW0_mem (gt_0 (List.mem_of_getElem? (i := 53) (by decide +kernel))) rfl⟩
def qX10_comma : gMI := (yX10_comma, cX10_comma, 1, (some .boolean), 0)
theorem oX10_comma : gMOk qX10_comma := ⟨by decide +kernel, ⟨by decide +kernel, by decide +kernel, by decide +kernel⟩, gW0_mem (gt_7 (List.mem_of_getElem? (i := 136) (by decide +kernel))) rfl, gW0_mem (gt_1 (List.mem_of_getElem? (i := 14) (by decide +kernel))) rfl, by decide⟩
theorem vX10_comma : gVOk qX10_comma := ⟨gW0_mem (gt_7 (List.mem_of_getElem? (i := 135) (by decide +kernel))) rfl, gW0_mem (gt_0 (List.mem_of_getElem? (i := 57) (by decide +kernel))) rfl⟩
def qX10_readsMany : gMI := (yX10_readsMany, cX10_readsMany, 5, (some .int), 2)
theorem oX10_readsMany : gMOk qX10_readsMany := ⟨by decide +kernel, ⟨by decide +kernel, by decide +kernel, by decide +kernel⟩, gW0_mem (gt_7 (List.mem_of_getElem? (i := 132) (by decide +kernel))) rfl, gW0_mem (gt_1 (List.mem_of_getElem? (i := 14) (by decide +kernel))) rfl, by decide⟩
theorem vX10_readsMany : gVOk qX10_readsMany := ⟨gW0_mem (gt_7 (List.mem_of_getElem? (i := 131) (by decide +kernel))) rfl, gW0_mem (gt_0 (List.mem_of_getElem? (i := 56) (by decide +kernel))) rfl⟩
def qX10_readsLay : gMI := (yX10_readsLay, cX10_readsLay, 4, (some .boolean), 0)
theorem oX10_readsLay : gMOk qX10_readsLay := ⟨by decide +kernel, ⟨by decide +kernel, by decide +kernel, by decide +kernel⟩, gW0_mem (gt_7 (List.mem_of_getElem? (i := 128) (by decide +kernel))) rfl, gW0_mem (gt_1 (List.mem_of_getElem? (i := 14) (by decide +kernel))) rfl, by decide⟩
theorem vX10_readsLay : gVOk qX10_readsLay := ⟨gW0_mem (gt_7 (List.mem_of_getElem? (i := 127) (by decide +kernel))) rfl, gW0_mem (gt_0 (List.mem_of_getElem? (i := 55) (by decide +kernel))) rfl⟩
def qX10_readsTurn : gMI := (yX10_readsTurn, cX10_readsTurn, 4, (some .boolean), 1)
theorem oX10_readsTurn : gMOk qX10_readsTurn := ⟨by decide +kernel, ⟨by decide +kernel, by decide +kernel, by decide +kernel⟩, gW0_mem (gt_7 (List.mem_of_getElem? (i := 141) (by decide +kernel))) rfl, gW0_mem (gt_1 (List.mem_of_getElem? (i := 14) (by decide +kernel))) rfl, by decide⟩
theorem vX10_readsTurn : gVOk qX10_readsTurn := ⟨gW0_mem (gt_7 (List.mem_of_getElem? (i := 140) (by decide +kernel))) rfl, gW0_mem (gt_0 (List.mem_of_getElem? (i := 58) (by decide +kernel))) rfl⟩
def qX10_readsPlace : gMI := (yX10_readsPlace, cX10_readsPlace, 2, (some .boolean), 1)
theorem oX10_readsPlace : gMOk qX10_readsPlace := ⟨by decide +kernel, ⟨by decide +kernel, by decide +kernel, by decide +kernel⟩, gW0_mem (gt_7 (List.mem_of_getElem? (i := 122) (by decide +kernel))) rfl, gW0_mem (gt_1 (List.mem_of_getElem? (i := 14) (by decide +kernel))) rfl, by decide⟩
theorem vX10_readsPlace : gVOk qX10_readsPlace := ⟨gW0_mem (gt_7 (List.mem_of_getElem? (i := 121) (by decide +kernel))) rfl, gW0_mem (gt_0 (List.mem_of_getElem? (i := 54) (by decide +kernel))) rfl⟩
def qX10_readAct : gMI := (yX10_readAct, cX10_readAct, 1, (some .boolean), 0)
theorem oX10_readAct : gMOk qX10_readAct := ⟨by decide +kernel, ⟨by decide +kernel, by decide +kernel, by decide +kernel⟩, gW0_mem (gt_7 (List.mem_of_getElem? (i := 102) (by decide +kernel))) rfl, gW0_mem (gt_1 (List.mem_of_getElem? (i := 14) (by decide +kernel))) rfl, by decide⟩
theorem vX10_readAct : gVOk qX10_readAct := ⟨gW0_mem (gt_7 (List.mem_of_getElem? (i := 101) (by decide +kernel))) rfl, gW0_mem (gt_0 (List.mem_of_getElem? (i := 50) (by decide +kernel))) rfl⟩
def qX10_readActs : gMI := (yX10_readActs, cX10_readActs, 2, (some .boolean), 0)
theorem oX10_readActs : gMOk qX10_readActs := ⟨by decide +kernel, ⟨by decide +kernel, by decide +kernel, by decide +kernel⟩, gW0_mem (gt_7 (List.mem_of_getElem? (i := 90) (by decide +kernel))) rfl, gW0_mem (gt_1 (List.mem_of_getElem? (i := 14) (by decide +kernel))) rfl, by decide⟩
theorem vX10_readActs : gVOk qX10_readActs := ⟨gW0_mem (gt_7 (List.mem_of_getElem? (i := 89) (by decide +kernel))) rfl, gW0_mem (gt_0 (List.mem_of_getElem? (i := 47) (by decide +kernel))) rfl⟩
def qX10_acts : gMI := (yX10_acts, cX10_acts, 2, (some .int), 0)
theorem oX10_acts : gMOk qX10_acts := ⟨by decide +kernel, ⟨by decide +kernel, by decide +kernel, by decide +kernel⟩, gW0_mem (gt_7 (List.mem_of_getElem? (i := 86) (by decide +kernel))) rfl, gW0_mem (gt_1 (List.mem_of_getElem? (i := 14) (by decide +kernel))) rfl, by decide⟩
theorem vX10_acts : gVOk qX10_acts := ⟨gW0_mem (gt_7 (List.mem_of_getElem? (i := 84) (by decide +kernel))) rfl, gW0_mem (gt_7 (List.mem_of_getElem? (i := 85) (by decide +kernel))) rfl⟩
def qX10_noNode : gMI := (yX10_noNode, cX10_noNode, 2, (some .boolean), 1)
theorem oX10_noNode : gMOk qX10_noNode := ⟨by decide +kernel, ⟨by decide +kernel, by decide +kernel, by decide +kernel⟩, gW0_mem (gt_7 (List.mem_of_getElem? (i := 151) (by decide +kernel))) rfl, gW0_mem (gt_1 (List.mem_of_getElem? (i := 14) (by decide +kernel))) rfl, by decide⟩
theorem vX10_noNode : gVOk qX10_noNode := ⟨gW0_mem (gt_7 (List.mem_of_getElem? (i := 150) (by decide +kernel))) rfl, gW0_mem (gt_0 (List.mem_of_getElem? (i := 59) (by decide +kernel))) rfl⟩
def qX10_edgeOf : gMI := (yX10_edgeOf, cX10_edgeOf, 5, (some .int), 1)
theorem oX10_edgeOf : gMOk qX10_edgeOf := ⟨by decide +kernel, ⟨by decide +kernel, by decide +kernel, by decide +kernel⟩, gW0_mem (gt_7 (List.mem_of_getElem? (i := 183) (by decide +kernel))) rfl, gW0_mem (gt_1 (List.mem_of_getElem? (i := 14) (by decide +kernel))) rfl, by decide⟩
theorem vX10_edgeOf : gVOk qX10_edgeOf := ⟨gW0_mem (gt_7 (List.mem_of_getElem? (i := 182) (by decide +kernel))) rfl, gW0_mem (gt_0 (List.mem_of_getElem? (i := 64) (by decide +kernel))) rfl⟩
def qX10_isBack : gMI := (yX10_isBack, cX10_isBack, 2, (some .boolean), 1)
theorem oX10_isBack : gMOk qX10_isBack := ⟨by decide +kernel, ⟨by decide +kernel, by decide +kernel, by decide +kernel⟩, gW0_mem (gt_7 (List.mem_of_getElem? (i := 195) (by decide +kernel))) rfl, gW0_mem (gt_1 (List.mem_of_getElem? (i := 14) (by decide +kernel))) rfl, by decide⟩
theorem vX10_isBack : gVOk qX10_isBack := ⟨gW0_mem (gt_7 (List.mem_of_getElem? (i := 194) (by decide +kernel))) rfl, gW0_mem (gt_0 (List.mem_of_getElem? (i := 67) (by decide +kernel))) rfl⟩
def qX10_bodyOf : gMI := (yX10_bodyOf, cX10_bodyOf, 5, (some .int), 1)
theorem oX10_bodyOf : gMOk qX10_bodyOf := ⟨by decide +kernel, ⟨by decide +kernel, by decide +kernel, by decide +kernel⟩, gW0_mem (gt_7 (List.mem_of_getElem? (i := 191) (by decide +kernel))) rfl, gW0_mem (gt_1 (List.mem_of_getElem? (i := 14) (by decide +kernel))) rfl, by decide⟩
theorem vX10_bodyOf : gVOk qX10_bodyOf := ⟨gW0_mem (gt_7 (List.mem_of_getElem? (i := 190) (by decide +kernel))) rfl, gW0_mem (gt_0 (List.mem_of_getElem? (i := 66) (by decide +kernel))) rfl⟩
def qX10_nestOf : gMI := (yX10_nestOf, cX10_nestOf, 4, (some .int), 1)
theorem oX10_nestOf : gMOk qX10_nestOf := ⟨by decide +kernel, ⟨by decide +kernel, by decide +kernel, by decide +kernel⟩, gW0_mem (gt_7 (List.mem_of_getElem? (i := 203) (by decide +kernel))) rfl, gW0_mem (gt_1 (List.mem_of_getElem? (i := 14) (by decide +kernel))) rfl, by decide⟩
theorem vX10_nestOf : gVOk qX10_nestOf := ⟨gW0_mem (gt_7 (List.mem_of_getElem? (i := 202) (by decide +kernel))) rfl, gW0_mem (gt_0 (List.mem_of_getElem? (i := 69) (by decide +kernel))) rfl⟩
def qX10_nearOf : gMI := (yX10_nearOf, cX10_nearOf, 6, (some .int), 1)
theorem oX10_nearOf : gMOk qX10_nearOf := ⟨by decide +kernel, ⟨by decide +kernel, by decide +kernel, by decide +kernel⟩, gW0_mem (gt_7 (List.mem_of_getElem? (i := 167) (by decide +kernel))) rfl, gW0_mem (gt_1 (List.mem_of_getElem? (i := 14) (by decide +kernel))) rfl, by decide⟩
theorem vX10_nearOf : gVOk qX10_nearOf := ⟨gW0_mem (gt_7 (List.mem_of_getElem? (i := 166) (by decide +kernel))) rfl, gW0_mem (gt_0 (List.mem_of_getElem? (i := 61) (by decide +kernel))) rfl⟩
def qX10_hasWayOut : gMI := (yX10_hasWayOut, cX10_hasWayOut, 2, (some .boolean), 1)
theorem oX10_hasWayOut : gMOk qX10_hasWayOut := ⟨by decide +kernel, ⟨by decide +kernel, by decide +kernel, by decide +kernel⟩, gW0_mem (gt_7 (List.mem_of_getElem? (i := 215) (by decide +kernel))) rfl, gW0_mem (gt_1 (List.mem_of_getElem? (i := 14) (by decide +kernel))) rfl, by decide⟩
theorem vX10_hasWayOut : gVOk qX10_hasWayOut := ⟨gW0_mem (gt_7 (List.mem_of_getElem? (i := 214) (by decide +kernel))) rfl, gW0_mem (gt_0 (List.mem_of_getElem? (i := 72) (by decide +kernel))) rfl⟩
def qX10_outGatesOf : gMI := (yX10_outGatesOf, cX10_outGatesOf, 4, (some .int), 1)
theorem oX10_outGatesOf : gMOk qX10_outGatesOf := ⟨by decide +kernel, ⟨by decide +kernel, by decide +kernel, by decide +kernel⟩, gW0_mem (gt_7 (List.mem_of_getElem? (i := 211) (by decide +kernel))) rfl, gW0_mem (gt_1 (List.mem_of_getElem? (i := 14) (by decide +kernel))) rfl, by decide⟩
theorem vX10_outGatesOf : gVOk qX10_outGatesOf := ⟨gW0_mem (gt_7 (List.mem_of_getElem? (i := 210) (by decide +kernel))) rfl, gW0_mem (gt_0 (List.mem_of_getElem? (i := 71) (by decide +kernel))) rfl⟩
def qX10_outKeeperOf : gMI := (yX10_outKeeperOf, cX10_outKeeperOf, 4, (some .int), 1)
theorem oX10_outKeeperOf : gMOk qX10_outKeeperOf := ⟨by decide +kernel, ⟨by decide +kernel, by decide +kernel, by decide +kernel⟩, gW0_mem (gt_7 (List.mem_of_getElem? (i := 207) (by decide +kernel))) rfl, gW0_mem (gt_1 (List.mem_of_getElem? (i := 14) (by decide +kernel))) rfl, by decide⟩
theorem vX10_outKeeperOf : gVOk qX10_outKeeperOf := ⟨gW0_mem (gt_7 (List.mem_of_getElem? (i := 206) (by decide +kernel))) rfl, gW0_mem (gt_0 (List.mem_of_getElem? (i := 70) (by decide +kernel))) rfl⟩
def qX10_flows : gMI := (yX10_flows, cX10_flows, 8, (some .boolean), 1)
theorem oX10_flows : gMOk qX10_flows := ⟨by decide +kernel, ⟨by decide +kernel, by decide +kernel, by decide +kernel⟩, gW0_mem (gt_7 (List.mem_of_getElem? (i := 223) (by decide +kernel))) rfl, gW0_mem (gt_1 (List.mem_of_getElem? (i := 14) (by decide +kernel))) rfl, by decide⟩
theorem vX10_flows : gVOk qX10_flows := ⟨gW0_mem (gt_7 (List.mem_of_getElem? (i := 222) (by decide +kernel))) rfl, gW0_mem (gt_0 (List.mem_of_getElem? (i := 74) (by decide +kernel))) rfl⟩
def qX10_hardOf : gMI := (yX10_hardOf, cX10_hardOf, 3, (some .int), 1)
theorem oX10_hardOf : gMOk qX10_hardOf := ⟨by decide +kernel, ⟨by decide +kernel, by decide +kernel, by decide +kernel⟩, gW0_mem (gt_7 (List.mem_of_getElem? (i := 219) (by decide +kernel))) rfl, gW0_mem (gt_1 (List.mem_of_getElem? (i := 14) (by decide +kernel))) rfl, by decide⟩
theorem vX10_hardOf : gVOk qX10_hardOf := ⟨gW0_mem (gt_7 (List.mem_of_getElem? (i := 218) (by decide +kernel))) rfl, gW0_mem (gt_0 (List.mem_of_getElem? (i := 73) (by decide +kernel))) rfl⟩
def qX10_wallOf : gMI := (yX10_wallOf, cX10_wallOf, 5, (some .int), 1)
theorem oX10_wallOf : gMOk qX10_wallOf := ⟨by decide +kernel, ⟨by decide +kernel, by decide +kernel, by decide +kernel⟩, gW0_mem (gt_7 (List.mem_of_getElem? (i := 227) (by decide +kernel))) rfl, gW0_mem (gt_1 (List.mem_of_getElem? (i := 14) (by decide +kernel))) rfl, by decide⟩
theorem vX10_wallOf : gVOk qX10_wallOf := ⟨gW0_mem (gt_7 (List.mem_of_getElem? (i := 226) (by decide +kernel))) rfl, gW0_mem (gt_0 (List.mem_of_getElem? (i := 75) (by decide +kernel))) rfl⟩
def qX10_feeOf : gMI := (yX10_feeOf, cX10_feeOf, 4, (some .int), 1)
theorem oX10_feeOf : gMOk qX10_feeOf := ⟨by decide +kernel, ⟨by decide +kernel, by decide +kernel, by decide +kernel⟩, gW0_mem (gt_7 (List.mem_of_getElem? (i := 231) (by decide +kernel))) rfl, gW0_mem (gt_1 (List.mem_of_getElem? (i := 14) (by decide +kernel))) rfl, by decide⟩
theorem vX10_feeOf : gVOk qX10_feeOf := ⟨gW0_mem (gt_7 (List.mem_of_getElem? (i := 230) (by decide +kernel))) rfl, gW0_mem (gt_0 (List.mem_of_getElem? (i := 76) (by decide +kernel))) rfl⟩
def qX10_fareOf : gMI := (yX10_fareOf, cX10_fareOf, 5, (some .int), 1)
theorem oX10_fareOf : gMOk qX10_fareOf := ⟨by decide +kernel, ⟨by decide +kernel, by decide +kernel, by decide +kernel⟩, gW0_mem (gt_7 (List.mem_of_getElem? (i := 235) (by decide +kernel))) rfl, gW0_mem (gt_1 (List.mem_of_getElem? (i := 14) (by decide +kernel))) rfl, by decide⟩
theorem vX10_fareOf : gVOk qX10_fareOf := ⟨gW0_mem (gt_7 (List.mem_of_getElem? (i := 234) (by decide +kernel))) rfl, gW0_mem (gt_0 (List.mem_of_getElem? (i := 77) (by decide +kernel))) rfl⟩
def qX10_controls : gMI := (yX10_controls, cX10_controls, 4, (some .int), 1)
theorem oX10_controls : gMOk qX10_controls := ⟨by decide +kernel, ⟨by decide +kernel, by decide +kernel, by decide +kernel⟩, gW0_mem (gt_7 (List.mem_of_getElem? (i := 239) (by decide +kernel))) rfl, gW0_mem (gt_1 (List.mem_of_getElem? (i := 14) (by decide +kernel))) rfl, by decide⟩
theorem vX10_controls : gVOk qX10_controls := ⟨gW0_mem (gt_7 (List.mem_of_getElem? (i := 238) (by decide +kernel))) rfl, gW0_mem (gt_0 (List.mem_of_getElem? (i := 78) (by decide +kernel))) rfl⟩
def qX10_ringOf : gMI := (yX10_ringOf, cX10_ringOf, 2, (some .int), 1)
theorem oX10_ringOf : gMOk qX10_ringOf := ⟨by decide +kernel, ⟨by decide +kernel, by decide +kernel, by decide +kernel⟩, gW0_mem (gt_8 (List.mem_of_getElem? (i := 3) (by decide +kernel))) rfl, gW0_mem (gt_1 (List.mem_of_getElem? (i := 14) (by decide +kernel))) rfl, by decide⟩
theorem vX10_ringOf : gVOk qX10_ringOf := ⟨gW0_mem (gt_8 (List.mem_of_getElem? (i := 2) (by decide +kernel))) rfl, gW0_mem (gt_0 (List.mem_of_getElem? (i := 79) (by decide +kernel))) rfl⟩
def qX10_ownOf : gMI := (yX10_ownOf, cX10_ownOf, 4, (some .int), 1)
theorem oX10_ownOf : gMOk qX10_ownOf := ⟨by decide +kernel, ⟨by decide +kernel, by decide +kernel, by decide +kernel⟩, gW0_mem (gt_7 (List.mem_of_getElem? (i := 179) (by decide +kernel))) rfl, gW0_mem (gt_1 (List.mem_of_getElem? (i := 14) (by decide +kernel))) rfl, by decide⟩
theorem vX10_ownOf : gVOk qX10_ownOf := ⟨gW0_mem (gt_7 (List.mem_of_getElem? (i := 178) (by decide +kernel))) rfl, gW0_mem (gt_0 (List.mem_of_getElem? (i := 63) (by decide +kernel))) rfl⟩
def qX10_innerOf : gMI := (yX10_innerOf, cX10_innerOf, 8, (some .int), 2)
theorem oX10_innerOf : gMOk qX10_innerOf := ⟨by decide +kernel, ⟨by decide +kernel, by decide +kernel, by decide +kernel⟩, gW0_mem (gt_8 (List.mem_of_getElem? (i := 7) (by decide +kernel))) rfl, gW0_mem (gt_1 (List.mem_of_getElem? (i := 14) (by decide +kernel))) rfl, by decide⟩
theorem vX10_innerOf : gVOk qX10_innerOf := ⟨gW0_mem (gt_8 (List.mem_of_getElem? (i := 6) (by decide +kernel))) rfl, gW0_mem (gt_0 (List.mem_of_getElem? (i := 80) (by decide +kernel))) rfl⟩
def qX10_tiedTo : gMI := (yX10_tiedTo, cX10_tiedTo, 5, (some .int), 1)
theorem oX10_tiedTo : gMOk qX10_tiedTo := ⟨by decide +kernel, ⟨by decide +kernel, by decide +kernel, by decide +kernel⟩, gW0_mem (gt_8 (List.mem_of_getElem? (i := 11) (by decide +kernel))) rfl, gW0_mem (gt_1 (List.mem_of_getElem? (i := 14) (by decide +kernel))) rfl, by decide⟩
theorem vX10_tiedTo : gVOk qX10_tiedTo := ⟨gW0_mem (gt_8 (List.mem_of_getElem? (i := 10) (by decide +kernel))) rfl, gW0_mem (gt_0 (List.mem_of_getElem? (i := 81) (by decide +kernel))) rfl⟩
def qX10_laysPass : gMI := (yX10_laysPass, cX10_laysPass, 4, (some .int), 1)
theorem oX10_laysPass : gMOk qX10_laysPass := ⟨by decide +kernel, ⟨by decide +kernel, by decide +kernel, by decide +kernel⟩, gW0_mem (gt_7 (List.mem_of_getElem? (i := 155) (by decide +kernel))) rfl, gW0_mem (gt_1 (List.mem_of_getElem? (i := 14) (by decide +kernel))) rfl, by decide⟩
theorem vX10_laysPass : gVOk qX10_laysPass := ⟨gW0_mem (gt_7 (List.mem_of_getElem? (i := 154) (by decide +kernel))) rfl, gW0_mem (gt_0 (List.mem_of_getElem? (i := 60) (by decide +kernel))) rfl⟩
def qX10_pass : gMI := (yX10_pass, cX10_pass, 6, (some .int), 2)
theorem oX10_pass : gMOk qX10_pass := ⟨by decide +kernel, ⟨by decide +kernel, by decide +kernel, by decide +kernel⟩, gW0_mem (gt_7 (List.mem_of_getElem? (i := 147) (by decide +kernel))) rfl, gW0_mem (gt_1 (List.mem_of_getElem? (i := 14) (by decide +kernel))) rfl, by decide⟩
theorem vX10_pass : gVOk qX10_pass := ⟨gW0_mem (gt_7 (List.mem_of_getElem? (i := 145) (by decide +kernel))) rfl, gW0_mem (gt_7 (List.mem_of_getElem? (i := 146) (by decide +kernel))) rfl⟩
def qX10_via : gMI := (yX10_via, cX10_via, 5, (some .int), 2)
theorem oX10_via : gMOk qX10_via := ⟨by decide +kernel, ⟨by decide +kernel, by decide +kernel, by decide +kernel⟩, gW0_mem (gt_7 (List.mem_of_getElem? (i := 159) (by decide +kernel))) rfl, gW0_mem (gt_1 (List.mem_of_getElem? (i := 14) (by decide +kernel))) rfl, by decide⟩
theorem vX10_via : gVOk qX10_via := ⟨gW0_mem (gt_7 (List.mem_of_getElem? (i := 157) (by decide +kernel))) rfl, gW0_mem (gt_7 (List.mem_of_getElem? (i := 158) (by decide +kernel))) rfl⟩
def qX10_row : gMI := (yX10_row, cX10_row, 5, (some .int), 1)
theorem oX10_row : gMOk qX10_row := ⟨by decide +kernel, ⟨by decide +kernel, by decide +kernel, by decide +kernel⟩, gW0_mem (gt_7 (List.mem_of_getElem? (i := 163) (by decide +kernel))) rfl, gW0_mem (gt_1 (List.mem_of_getElem? (i := 14) (by decide +kernel))) rfl, by decide⟩
theorem vX10_row : gVOk qX10_row := ⟨gW0_mem (gt_7 (List.mem_of_getElem? (i := 161) (by decide +kernel))) rfl, gW0_mem (gt_7 (List.mem_of_getElem? (i := 162) (by decide +kernel))) rfl⟩
def qX10_node : gMI := (yX10_node, cX10_node, 4, (some .int), 2)
theorem oX10_node : gMOk qX10_node := ⟨by decide +kernel, ⟨by decide +kernel, by decide +kernel, by decide +kernel⟩, gW0_mem (gt_7 (List.mem_of_getElem? (i := 171) (by decide +kernel))) rfl, gW0_mem (gt_1 (List.mem_of_getElem? (i := 14) (by decide +kernel))) rfl, by decide⟩
theorem vX10_node : gVOk qX10_node := ⟨gW0_mem (gt_7 (List.mem_of_getElem? (i := 169) (by decide +kernel))) rfl, gW0_mem (gt_7 (List.mem_of_getElem? (i := 170) (by decide +kernel))) rfl⟩
def qX10_keeps : gMI := (yX10_keeps, cX10_keeps, 3, (some .boolean), 2)
theorem oX10_keeps : gMOk qX10_keeps := ⟨by decide +kernel, ⟨by decide +kernel, by decide +kernel, by decide +kernel⟩, gW0_mem (gt_8 (List.mem_of_getElem? (i := 15) (by decide +kernel))) rfl, gW0_mem (gt_1 (List.mem_of_getElem? (i := 14) (by decide +kernel))) rfl, by decide⟩
theorem vX10_keeps : gVOk qX10_keeps := ⟨gW0_mem (gt_8 (List.mem_of_getElem? (i := 13) (by decide +kernel))) rfl, gW0_mem (gt_8 (List.mem_of_getElem? (i := 14) (by decide +kernel))) rfl⟩
def qX10_common : gMI := (yX10_common, cX10_common, 6, (some .int), 2)
theorem oX10_common : gMOk qX10_common := ⟨by decide +kernel, ⟨by decide +kernel, by decide +kernel, by decide +kernel⟩, gW0_mem (gt_8 (List.mem_of_getElem? (i := 19) (by decide +kernel))) rfl, gW0_mem (gt_1 (List.mem_of_getElem? (i := 14) (by decide +kernel))) rfl, by decide⟩
theorem vX10_common : gVOk qX10_common := ⟨gW0_mem (gt_8 (List.mem_of_getElem? (i := 17) (by decide +kernel))) rfl, gW0_mem (gt_8 (List.mem_of_getElem? (i := 18) (by decide +kernel))) rfl⟩
def qX10_nextOf : gMI := (yX10_nextOf, cX10_nextOf, 5, (some .int), 1)
theorem oX10_nextOf : gMOk qX10_nextOf := ⟨by decide +kernel, ⟨by decide +kernel, by decide +kernel, by decide +kernel⟩, gW0_mem (gt_8 (List.mem_of_getElem? (i := 27) (by decide +kernel))) rfl, gW0_mem (gt_1 (List.mem_of_getElem? (i := 14) (by decide +kernel))) rfl, by decide⟩
theorem vX10_nextOf : gVOk qX10_nextOf := ⟨gW0_mem (gt_8 (List.mem_of_getElem? (i := 26) (by decide +kernel))) rfl, gW0_mem (gt_0 (List.mem_of_getElem? (i := 82) (by decide +kernel))) rfl⟩
def qX10_walk : gMI := (yX10_walk, cX10_walk, 4, (some .int), 1)
theorem oX10_walk : gMOk qX10_walk := ⟨by decide +kernel, ⟨by decide +kernel, by decide +kernel, by decide +kernel⟩, gW0_mem (gt_8 (List.mem_of_getElem? (i := 23) (by decide +kernel))) rfl, gW0_mem (gt_1 (List.mem_of_getElem? (i := 14) (by decide +kernel))) rfl, by decide⟩
theorem vX10_walk : gVOk qX10_walk := ⟨gW0_mem (gt_8 (List.mem_of_getElem? (i := 21) (by decide +kernel))) rfl, gW0_mem (gt_8 (List.mem_of_getElem? (i := 22) (by decide +kernel))) rfl⟩
def qX10_kindOf : gMI := (yX10_kindOf, cX10_kindOf, 2, (some .int), 1)
theorem oX10_kindOf : gMOk qX10_kindOf := ⟨by decide +kernel, ⟨by decide +kernel, by decide +kernel, by decide +kernel⟩, gW0_mem (gt_8 (List.mem_of_getElem? (i := 35) (by decide +kernel))) rfl, gW0_mem (gt_1 (List.mem_of_getElem? (i := 14) (by decide +kernel))) rfl, by decide⟩
theorem vX10_kindOf : gVOk qX10_kindOf := ⟨gW0_mem (gt_8 (List.mem_of_getElem? (i := 34) (by decide +kernel))) rfl, gW0_mem (gt_0 (List.mem_of_getElem? (i := 83) (by decide +kernel))) rfl⟩
def qX10_isBridge : gMI := (yX10_isBridge, cX10_isBridge, 2, (some .boolean), 1)
theorem oX10_isBridge : gMOk qX10_isBridge := ⟨by decide +kernel, ⟨by decide +kernel, by decide +kernel, by decide +kernel⟩, gW0_mem (gt_8 (List.mem_of_getElem? (i := 39) (by decide +kernel))) rfl, gW0_mem (gt_1 (List.mem_of_getElem? (i := 14) (by decide +kernel))) rfl, by decide⟩
theorem vX10_isBridge : gVOk qX10_isBridge := ⟨gW0_mem (gt_8 (List.mem_of_getElem? (i := 38) (by decide +kernel))) rfl, gW0_mem (gt_0 (List.mem_of_getElem? (i := 84) (by decide +kernel))) rfl⟩
def qX10_arc : gMI := (yX10_arc, cX10_arc, 3, (some .int), 2)
theorem oX10_arc : gMOk qX10_arc := ⟨by decide +kernel, ⟨by decide +kernel, by decide +kernel, by decide +kernel⟩, gW0_mem (gt_8 (List.mem_of_getElem? (i := 31) (by decide +kernel))) rfl, gW0_mem (gt_1 (List.mem_of_getElem? (i := 14) (by decide +kernel))) rfl, by decide⟩
theorem vX10_arc : gVOk qX10_arc := ⟨gW0_mem (gt_8 (List.mem_of_getElem? (i := 29) (by decide +kernel))) rfl, gW0_mem (gt_8 (List.mem_of_getElem? (i := 30) (by decide +kernel))) rfl⟩
def qX10_sealedBy : gMI := (yX10_sealedBy, cX10_sealedBy, 2, (some .int), 1)
theorem oX10_sealedBy : gMOk qX10_sealedBy := ⟨by decide +kernel, ⟨by decide +kernel, by decide +kernel, by decide +kernel⟩, gW0_mem (gt_8 (List.mem_of_getElem? (i := 47) (by decide +kernel))) rfl, gW0_mem (gt_1 (List.mem_of_getElem? (i := 14) (by decide +kernel))) rfl, by decide⟩
theorem vX10_sealedBy : gVOk qX10_sealedBy := ⟨gW0_mem (gt_8 (List.mem_of_getElem? (i := 46) (by decide +kernel))) rfl, gW0_mem (gt_0 (List.mem_of_getElem? (i := 85) (by decide +kernel))) rfl⟩
def qX10_without : gMI := (yX10_without, cX10_without, 2, (some .int), 1)
theorem oX10_without : gMOk qX10_without := ⟨by decide +kernel, ⟨by decide +kernel, by decide +kernel, by decide +kernel⟩, gW0_mem (gt_8 (List.mem_of_getElem? (i := 43) (by decide +kernel))) rfl, gW0_mem (gt_1 (List.mem_of_getElem? (i := 14) (by decide +kernel))) rfl, by decide⟩
theorem vX10_without : gVOk qX10_without := ⟨gW0_mem (gt_8 (List.mem_of_getElem? (i := 41) (by decide +kernel))) rfl, gW0_mem (gt_8 (List.mem_of_getElem? (i := 42) (by decide +kernel))) rfl⟩
def qX10_seal : gMI := (yX10_seal, cX10_seal, 2, (some .int), 1)
theorem oX10_seal : gMOk qX10_seal := ⟨by decide +kernel, ⟨by decide +kernel, by decide +kernel, by decide +kernel⟩, gW0_mem (gt_8 (List.mem_of_getElem? (i := 51) (by decide +kernel))) rfl, gW0_mem (gt_1 (List.mem_of_getElem? (i := 14) (by decide +kernel))) rfl, by decide⟩
theorem vX10_seal : gVOk qX10_seal := ⟨gW0_mem (gt_8 (List.mem_of_getElem? (i := 49) (by decide +kernel))) rfl, gW0_mem (gt_8 (List.mem_of_getElem? (i := 50) (by decide +kernel))) rfl⟩
def qX10_chainOf : gMI := (yX10_chainOf, cX10_chainOf, 4, (some .int), 2)
theorem oX10_chainOf : gMOk qX10_chainOf := ⟨by decide +kernel, ⟨by decide +kernel, by decide +kernel, by decide +kernel⟩, gW0_mem (gt_8 (List.mem_of_getElem? (i := 59) (by decide +kernel))) rfl, gW0_mem (gt_1 (List.mem_of_getElem? (i := 14) (by decide +kernel))) rfl, by decide⟩
theorem vX10_chainOf : gVOk qX10_chainOf := ⟨gW0_mem (gt_8 (List.mem_of_getElem? (i := 58) (by decide +kernel))) rfl, gW0_mem (gt_0 (List.mem_of_getElem? (i := 86) (by decide +kernel))) rfl⟩
def qX10_chain : gMI := (yX10_chain, cX10_chain, 3, (some .int), 2)
theorem oX10_chain : gMOk qX10_chain := ⟨by decide +kernel, ⟨by decide +kernel, by decide +kernel, by decide +kernel⟩, gW0_mem (gt_8 (List.mem_of_getElem? (i := 55) (by decide +kernel))) rfl, gW0_mem (gt_1 (List.mem_of_getElem? (i := 14) (by decide +kernel))) rfl, by decide⟩
theorem vX10_chain : gVOk qX10_chain := ⟨gW0_mem (gt_8 (List.mem_of_getElem? (i := 53) (by decide +kernel))) rfl, gW0_mem (gt_8 (List.mem_of_getElem? (i := 54) (by decide +kernel))) rfl⟩
def qX10_levelOf : gMI := (yX10_levelOf, cX10_levelOf, 4, (some .int), 1)
theorem oX10_levelOf : gMOk qX10_levelOf := ⟨by decide +kernel, ⟨by decide +kernel, by decide +kernel, by decide +kernel⟩, gW0_mem (gt_8 (List.mem_of_getElem? (i := 67) (by decide +kernel))) rfl, gW0_mem (gt_1 (List.mem_of_getElem? (i := 14) (by decide +kernel))) rfl, by decide⟩
theorem vX10_levelOf : gVOk qX10_levelOf := ⟨gW0_mem (gt_8 (List.mem_of_getElem? (i := 66) (by decide +kernel))) rfl, gW0_mem (gt_0 (List.mem_of_getElem? (i := 87) (by decide +kernel))) rfl⟩
def qX10_level : gMI := (yX10_level, cX10_level, 2, (some .int), 1)
theorem oX10_level : gMOk qX10_level := ⟨by decide +kernel, ⟨by decide +kernel, by decide +kernel, by decide +kernel⟩, gW0_mem (gt_8 (List.mem_of_getElem? (i := 63) (by decide +kernel))) rfl, gW0_mem (gt_1 (List.mem_of_getElem? (i := 14) (by decide +kernel))) rfl, by decide⟩
theorem vX10_level : gVOk qX10_level := ⟨gW0_mem (gt_8 (List.mem_of_getElem? (i := 61) (by decide +kernel))) rfl, gW0_mem (gt_8 (List.mem_of_getElem? (i := 62) (by decide +kernel))) rfl⟩
def qX10_worst : gMI := (yX10_worst, cX10_worst, 6, (some .int), 1)
theorem oX10_worst : gMOk qX10_worst := ⟨by decide +kernel, ⟨by decide +kernel, by decide +kernel, by decide +kernel⟩, gW0_mem (gt_8 (List.mem_of_getElem? (i := 71) (by decide +kernel))) rfl, gW0_mem (gt_1 (List.mem_of_getElem? (i := 14) (by decide +kernel))) rfl, by decide⟩
theorem vX10_worst : gVOk qX10_worst := ⟨gW0_mem (gt_8 (List.mem_of_getElem? (i := 69) (by decide +kernel))) rfl, gW0_mem (gt_8 (List.mem_of_getElem? (i := 70) (by decide +kernel))) rfl⟩
def qX10_tries : gMI := (yX10_tries, cX10_tries, 3, none, 2)
theorem oX10_tries : gMOk qX10_tries := ⟨by decide +kernel, ⟨by decide +kernel, by decide +kernel, by decide +kernel⟩, gW0_mem (gt_8 (List.mem_of_getElem? (i := 91) (by decide +kernel))) rfl, gW0_mem (gt_1 (List.mem_of_getElem? (i := 14) (by decide +kernel))) rfl, by decide⟩
theorem vX10_tries : gVOk qX10_tries := ⟨gW0_mem (gt_8 (List.mem_of_getElem? (i := 90) (by decide +kernel))) rfl, gW0_mem (gt_0 (List.mem_of_getElem? (i := 90) (by decide +kernel))) rfl⟩
def qX10_differs : gMI := (yX10_differs, cX10_differs, 2, none, 0)
theorem oX10_differs : gMOk qX10_differs := ⟨by decide +kernel, ⟨by decide +kernel, by decide +kernel, by decide +kernel⟩, gW0_mem (gt_8 (List.mem_of_getElem? (i := 83) (by decide +kernel))) rfl, gW0_mem (gt_1 (List.mem_of_getElem? (i := 14) (by decide +kernel))) rfl, by decide⟩
theorem vX10_differs : gVOk qX10_differs := ⟨gW0_mem (gt_8 (List.mem_of_getElem? (i := 82) (by decide +kernel))) rfl, gW0_mem (gt_0 (List.mem_of_getElem? (i := 89) (by decide +kernel))) rfl⟩
def qX10_triesWithout : gMI := (yX10_triesWithout, cX10_triesWithout, 2, none, 1)
theorem oX10_triesWithout : gMOk qX10_triesWithout := ⟨by decide +kernel, ⟨by decide +kernel, by decide +kernel, by decide +kernel⟩, gW0_mem (gt_8 (List.mem_of_getElem? (i := 79) (by decide +kernel))) rfl, gW0_mem (gt_1 (List.mem_of_getElem? (i := 14) (by decide +kernel))) rfl, by decide⟩
theorem vX10_triesWithout : gVOk qX10_triesWithout := ⟨gW0_mem (gt_8 (List.mem_of_getElem? (i := 78) (by decide +kernel))) rfl, gW0_mem (gt_0 (List.mem_of_getElem? (i := 88) (by decide +kernel))) rfl⟩
def qX10_fall : gMI := (yX10_fall, cX10_fall, 3, (some .int), 2)
theorem oX10_fall : gMOk qX10_fall := ⟨by decide +kernel, ⟨by decide +kernel, by decide +kernel, by decide +kernel⟩, gW0_mem (gt_8 (List.mem_of_getElem? (i := 75) (by decide +kernel))) rfl, gW0_mem (gt_1 (List.mem_of_getElem? (i := 14) (by decide +kernel))) rfl, by decide⟩
theorem vX10_fall : gVOk qX10_fall := ⟨gW0_mem (gt_8 (List.mem_of_getElem? (i := 73) (by decide +kernel))) rfl, gW0_mem (gt_8 (List.mem_of_getElem? (i := 74) (by decide +kernel))) rfl⟩
def qX10_spareOnes : gMI := (yX10_spareOnes, cX10_spareOnes, 3, (some .int), 0)
theorem oX10_spareOnes : gMOk qX10_spareOnes := ⟨by decide +kernel, ⟨by decide +kernel, by decide +kernel, by decide +kernel⟩, gW0_mem (gt_8 (List.mem_of_getElem? (i := 160) (by decide +kernel))) rfl, gW0_mem (gt_1 (List.mem_of_getElem? (i := 14) (by decide +kernel))) rfl, by decide⟩
theorem vX10_spareOnes : gVOk qX10_spareOnes := ⟨gW0_mem (gt_8 (List.mem_of_getElem? (i := 159) (by decide +kernel))) rfl, gW0_mem (gt_0 (List.mem_of_getElem? (i := 103) (by decide +kernel))) rfl⟩
def qX10_would : gMI := (yX10_would, cX10_would, 4, (some .int), 3)
theorem oX10_would : gMOk qX10_would := ⟨by decide +kernel, ⟨by decide +kernel, by decide +kernel, by decide +kernel⟩, gW0_mem (gt_8 (List.mem_of_getElem? (i := 87) (by decide +kernel))) rfl, gW0_mem (gt_1 (List.mem_of_getElem? (i := 14) (by decide +kernel))) rfl, by decide⟩
theorem vX10_would : gVOk qX10_would := ⟨gW0_mem (gt_8 (List.mem_of_getElem? (i := 85) (by decide +kernel))) rfl, gW0_mem (gt_8 (List.mem_of_getElem? (i := 86) (by decide +kernel))) rfl⟩
def qX10_best : gMI := (yX10_best, cX10_best, 7, (some .int), 1)
theorem oX10_best : gMOk qX10_best := ⟨by decide +kernel, ⟨by decide +kernel, by decide +kernel, by decide +kernel⟩, gW0_mem (gt_8 (List.mem_of_getElem? (i := 95) (by decide +kernel))) rfl, gW0_mem (gt_1 (List.mem_of_getElem? (i := 14) (by decide +kernel))) rfl, by decide⟩
theorem vX10_best : gVOk qX10_best := ⟨gW0_mem (gt_8 (List.mem_of_getElem? (i := 93) (by decide +kernel))) rfl, gW0_mem (gt_8 (List.mem_of_getElem? (i := 94) (by decide +kernel))) rfl⟩
def qX10_writes : gMI := (yX10_writes, cX10_writes, 2, none, 1)
theorem oX10_writes : gMOk qX10_writes := ⟨by decide +kernel, ⟨by decide +kernel, by decide +kernel, by decide +kernel⟩, gW0_mem (gt_8 (List.mem_of_getElem? (i := 103) (by decide +kernel))) rfl, gW0_mem (gt_1 (List.mem_of_getElem? (i := 14) (by decide +kernel))) rfl, by decide⟩
theorem vX10_writes : gVOk qX10_writes := ⟨gW0_mem (gt_8 (List.mem_of_getElem? (i := 102) (by decide +kernel))) rfl, gW0_mem (gt_0 (List.mem_of_getElem? (i := 91) (by decide +kernel))) rfl⟩
def qX10_text : gMI := (yX10_text, cX10_text, 4, (some .int), 1)
theorem oX10_text : gMOk qX10_text := ⟨by decide +kernel, ⟨by decide +kernel, by decide +kernel, by decide +kernel⟩, gW0_mem (gt_8 (List.mem_of_getElem? (i := 99) (by decide +kernel))) rfl, gW0_mem (gt_1 (List.mem_of_getElem? (i := 14) (by decide +kernel))) rfl, by decide⟩
theorem vX10_text : gVOk qX10_text := ⟨gW0_mem (gt_8 (List.mem_of_getElem? (i := 97) (by decide +kernel))) rfl, gW0_mem (gt_8 (List.mem_of_getElem? (i := 98) (by decide +kernel))) rfl⟩
def qX10_octet : gMI := (yX10_octet, cX10_octet, 2, (some .int), 1)
theorem oX10_octet : gMOk qX10_octet := ⟨by decide +kernel, ⟨by decide +kernel, by decide +kernel, by decide +kernel⟩, gW0_mem (gt_8 (List.mem_of_getElem? (i := 107) (by decide +kernel))) rfl, gW0_mem (gt_1 (List.mem_of_getElem? (i := 14) (by decide +kernel))) rfl, by decide⟩
theorem vX10_octet : gVOk qX10_octet := ⟨gW0_mem (gt_8 (List.mem_of_getElem? (i := 105) (by decide +kernel))) rfl, gW0_mem (gt_8 (List.mem_of_getElem? (i := 106) (by decide +kernel))) rfl⟩
def qX10_openOnes : gMI := (yX10_openOnes, cX10_openOnes, 3, (some .int), 0)
theorem oX10_openOnes : gMOk qX10_openOnes := ⟨by decide +kernel, ⟨by decide +kernel, by decide +kernel, by decide +kernel⟩, gW0_mem (gt_8 (List.mem_of_getElem? (i := 115) (by decide +kernel))) rfl, gW0_mem (gt_1 (List.mem_of_getElem? (i := 14) (by decide +kernel))) rfl, by decide⟩
theorem vX10_openOnes : gVOk qX10_openOnes := ⟨gW0_mem (gt_8 (List.mem_of_getElem? (i := 114) (by decide +kernel))) rfl, gW0_mem (gt_0 (List.mem_of_getElem? (i := 92) (by decide +kernel))) rfl⟩
def qX10_heads : gMI := (yX10_heads, cX10_heads, 3, (some .int), 0)
theorem oX10_heads : gMOk qX10_heads := ⟨by decide +kernel, ⟨by decide +kernel, by decide +kernel, by decide +kernel⟩, gW0_mem (gt_8 (List.mem_of_getElem? (i := 124) (by decide +kernel))) rfl, gW0_mem (gt_1 (List.mem_of_getElem? (i := 14) (by decide +kernel))) rfl, by decide⟩
theorem vX10_heads : gVOk qX10_heads := ⟨gW0_mem (gt_8 (List.mem_of_getElem? (i := 123) (by decide +kernel))) rfl, gW0_mem (gt_0 (List.mem_of_getElem? (i := 94) (by decide +kernel))) rfl⟩
def qX10_manyArcs : gMI := (yX10_manyArcs, cX10_manyArcs, 4, (some .int), 1)
theorem oX10_manyArcs : gMOk qX10_manyArcs := ⟨by decide +kernel, ⟨by decide +kernel, by decide +kernel, by decide +kernel⟩, gW0_mem (gt_8 (List.mem_of_getElem? (i := 128) (by decide +kernel))) rfl, gW0_mem (gt_1 (List.mem_of_getElem? (i := 14) (by decide +kernel))) rfl, by decide⟩
theorem vX10_manyArcs : gVOk qX10_manyArcs := ⟨gW0_mem (gt_8 (List.mem_of_getElem? (i := 127) (by decide +kernel))) rfl, gW0_mem (gt_0 (List.mem_of_getElem? (i := 95) (by decide +kernel))) rfl⟩
def qX10_isSound : gMI := (yX10_isSound, cX10_isSound, 5, (some .boolean), 0)
theorem oX10_isSound : gMOk qX10_isSound := ⟨by decide +kernel, ⟨by decide +kernel, by decide +kernel, by decide +kernel⟩, gW0_mem (gt_8 (List.mem_of_getElem? (i := 132) (by decide +kernel))) rfl, gW0_mem (gt_1 (List.mem_of_getElem? (i := 14) (by decide +kernel))) rfl, by decide⟩
theorem vX10_isSound : gVOk qX10_isSound := ⟨gW0_mem (gt_8 (List.mem_of_getElem? (i := 131) (by decide +kernel))) rfl, gW0_mem (gt_0 (List.mem_of_getElem? (i := 96) (by decide +kernel))) rfl⟩
def qX10_depths : gMI := (yX10_depths, cX10_depths, 4, (some .int), 1)
theorem oX10_depths : gMOk qX10_depths := ⟨by decide +kernel, ⟨by decide +kernel, by decide +kernel, by decide +kernel⟩, gW0_mem (gt_8 (List.mem_of_getElem? (i := 119) (by decide +kernel))) rfl, gW0_mem (gt_1 (List.mem_of_getElem? (i := 14) (by decide +kernel))) rfl, by decide⟩
theorem vX10_depths : gVOk qX10_depths := ⟨gW0_mem (gt_8 (List.mem_of_getElem? (i := 118) (by decide +kernel))) rfl, gW0_mem (gt_0 (List.mem_of_getElem? (i := 93) (by decide +kernel))) rfl⟩
def qX10_leaves : gMI := (yX10_leaves, cX10_leaves, 3, (some .int), 0)
theorem oX10_leaves : gMOk qX10_leaves := ⟨by decide +kernel, ⟨by decide +kernel, by decide +kernel, by decide +kernel⟩, gW0_mem (gt_8 (List.mem_of_getElem? (i := 136) (by decide +kernel))) rfl, gW0_mem (gt_1 (List.mem_of_getElem? (i := 14) (by decide +kernel))) rfl, by decide⟩
theorem vX10_leaves : gVOk qX10_leaves := ⟨gW0_mem (gt_8 (List.mem_of_getElem? (i := 135) (by decide +kernel))) rfl, gW0_mem (gt_0 (List.mem_of_getElem? (i := 97) (by decide +kernel))) rfl⟩
def qX10_mostNest : gMI := (yX10_mostNest, cX10_mostNest, 3, (some .int), 0)
theorem oX10_mostNest : gMOk qX10_mostNest := ⟨by decide +kernel, ⟨by decide +kernel, by decide +kernel, by decide +kernel⟩, gW0_mem (gt_8 (List.mem_of_getElem? (i := 140) (by decide +kernel))) rfl, gW0_mem (gt_1 (List.mem_of_getElem? (i := 14) (by decide +kernel))) rfl, by decide⟩
theorem vX10_mostNest : gVOk qX10_mostNest := ⟨gW0_mem (gt_8 (List.mem_of_getElem? (i := 139) (by decide +kernel))) rfl, gW0_mem (gt_0 (List.mem_of_getElem? (i := 98) (by decide +kernel))) rfl⟩
def qX10_spans : gMI := (yX10_spans, cX10_spans, 3, (some .int), 0)
theorem oX10_spans : gMOk qX10_spans := ⟨by decide +kernel, ⟨by decide +kernel, by decide +kernel, by decide +kernel⟩, gW0_mem (gt_8 (List.mem_of_getElem? (i := 144) (by decide +kernel))) rfl, gW0_mem (gt_1 (List.mem_of_getElem? (i := 14) (by decide +kernel))) rfl, by decide⟩
theorem vX10_spans : gVOk qX10_spans := ⟨gW0_mem (gt_8 (List.mem_of_getElem? (i := 143) (by decide +kernel))) rfl, gW0_mem (gt_0 (List.mem_of_getElem? (i := 99) (by decide +kernel))) rfl⟩
def qX10_outGates : gMI := (yX10_outGates, cX10_outGates, 2, (some .int), 1)
theorem oX10_outGates : gMOk qX10_outGates := ⟨by decide +kernel, ⟨by decide +kernel, by decide +kernel, by decide +kernel⟩, gW0_mem (gt_8 (List.mem_of_getElem? (i := 148) (by decide +kernel))) rfl, gW0_mem (gt_1 (List.mem_of_getElem? (i := 14) (by decide +kernel))) rfl, by decide⟩
theorem vX10_outGates : gVOk qX10_outGates := ⟨gW0_mem (gt_8 (List.mem_of_getElem? (i := 147) (by decide +kernel))) rfl, gW0_mem (gt_0 (List.mem_of_getElem? (i := 100) (by decide +kernel))) rfl⟩
def qX10_rings : gMI := (yX10_rings, cX10_rings, 3, (some .int), 0)
theorem oX10_rings : gMOk qX10_rings := ⟨by decide +kernel, ⟨by decide +kernel, by decide +kernel, by decide +kernel⟩, gW0_mem (gt_8 (List.mem_of_getElem? (i := 152) (by decide +kernel))) rfl, gW0_mem (gt_1 (List.mem_of_getElem? (i := 14) (by decide +kernel))) rfl, by decide⟩
theorem vX10_rings : gVOk qX10_rings := ⟨gW0_mem (gt_8 (List.mem_of_getElem? (i := 151) (by decide +kernel))) rfl, gW0_mem (gt_0 (List.mem_of_getElem? (i := 101) (by decide +kernel))) rfl⟩
def qX10_tolls : gMI := (yX10_tolls, cX10_tolls, 3, (some .int), 0)
theorem oX10_tolls : gMOk qX10_tolls := ⟨by decide +kernel, ⟨by decide +kernel, by decide +kernel, by decide +kernel⟩, gW0_mem (gt_8 (List.mem_of_getElem? (i := 156) (by decide +kernel))) rfl, gW0_mem (gt_1 (List.mem_of_getElem? (i := 14) (by decide +kernel))) rfl, by decide⟩
theorem vX10_tolls : gVOk qX10_tolls := ⟨gW0_mem (gt_8 (List.mem_of_getElem? (i := 155) (by decide +kernel))) rfl, gW0_mem (gt_0 (List.mem_of_getElem? (i := 102) (by decide +kernel))) rfl⟩
def qX10_count : gMI := (yX10_count, cX10_count, 2, (some .int), 1)
theorem oX10_count : gMOk qX10_count := ⟨by decide +kernel, ⟨by decide +kernel, by decide +kernel, by decide +kernel⟩, gW0_mem (gt_8 (List.mem_of_getElem? (i := 111) (by decide +kernel))) rfl, gW0_mem (gt_1 (List.mem_of_getElem? (i := 14) (by decide +kernel))) rfl, by decide⟩
theorem vX10_count : gVOk qX10_count := ⟨gW0_mem (gt_8 (List.mem_of_getElem? (i := 109) (by decide +kernel))) rfl, gW0_mem (gt_8 (List.mem_of_getElem? (i := 110) (by decide +kernel))) rfl⟩
def qJ6_bitCount_0f7a4 : gMI := (yJ6_bitCount_0f7a4, cJ6_bitCount_0f7a4, 1, (some .int), 1)
theorem oJ6_bitCount_0f7a4 : gMOk qJ6_bitCount_0f7a4 := ⟨by decide +kernel, ⟨by decide +kernel, by decide +kernel, by decide +kernel⟩, gW0_mem (gt_2 (List.mem_of_getElem? (i := 86) (by decide +kernel))) rfl, gW0_mem (gt_1 (List.mem_of_getElem? (i := 13) (by decide +kernel))) rfl, by decide⟩
theorem sJ6_bitCount_0f7a4 : Cond.static qJ6_bitCount_0f7a4.1 ∈ gW0 := gW0_mem (gt_2 (List.mem_of_getElem? (i := 85) (by decide +kernel))) rfl
def qJ13_bitCount_95d88 : gMI := (yJ13_bitCount_95d88, cJ13_bitCount_95d88, 2, (some .int), 1)
theorem oJ13_bitCount_95d88 : gMOk qJ13_bitCount_95d88 := ⟨by decide +kernel, ⟨by decide +kernel, by decide +kernel, by decide +kernel⟩, gW0_mem (gt_3 (List.mem_of_getElem? (i := 26) (by decide +kernel))) rfl, gW0_mem (gt_1 (List.mem_of_getElem? (i := 27) (by decide +kernel))) rfl, by decide⟩
theorem sJ13_bitCount_95d88 : Cond.static qJ13_bitCount_95d88.1 ∈ gW0 := gW0_mem (gt_3 (List.mem_of_getElem? (i := 25) (by decide +kernel))) rfl
def qJ0_length_8abf5 : gMI := (yJ0_length_8abf5, cJ0_length_8abf5, 1, (some .int), 0)
theorem oJ0_length_8abf5 : gMOk qJ0_length_8abf5 := ⟨by decide +kernel, ⟨by decide +kernel, by decide +kernel, by decide +kernel⟩, gW0_mem (gt_3 (List.mem_of_getElem? (i := 175) (by decide +kernel))) rfl, gW0_mem (gt_1 (List.mem_of_getElem? (i := 16) (by decide +kernel))) rfl, by decide⟩
theorem vJ0_length_8abf5 : gVOk qJ0_length_8abf5 := ⟨gW0_mem (gt_3 (List.mem_of_getElem? (i := 173) (by decide +kernel))) rfl, gW0_mem (gt_3 (List.mem_of_getElem? (i := 174) (by decide +kernel))) rfl⟩
def qJ0_charAt_5068e : gMI := (yJ0_charAt_5068e, cJ0_charAt_5068e, 2, (some .char), 1)
theorem oJ0_charAt_5068e : gMOk qJ0_charAt_5068e := ⟨by decide +kernel, ⟨by decide +kernel, by decide +kernel, by decide +kernel⟩, gW0_mem (gt_3 (List.mem_of_getElem? (i := 185) (by decide +kernel))) rfl, gW0_mem (gt_1 (List.mem_of_getElem? (i := 16) (by decide +kernel))) rfl, by decide⟩
theorem vJ0_charAt_5068e : gVOk qJ0_charAt_5068e := ⟨gW0_mem (gt_3 (List.mem_of_getElem? (i := 183) (by decide +kernel))) rfl, gW0_mem (gt_3 (List.mem_of_getElem? (i := 184) (by decide +kernel))) rfl⟩
def qJ0_coder_7d493 : gMI := (yJ0_coder_7d493, cJ0_coder_7d493, 1, (some .byte), 0)
theorem oJ0_coder_7d493 : gMOk qJ0_coder_7d493 := ⟨by decide +kernel, ⟨by decide +kernel, by decide +kernel, by decide +kernel⟩, gW0_mem (gt_3 (List.mem_of_getElem? (i := 179) (by decide +kernel))) rfl, gW0_mem (gt_1 (List.mem_of_getElem? (i := 16) (by decide +kernel))) rfl, by decide⟩
theorem vJ0_coder_7d493 : gVOk qJ0_coder_7d493 := ⟨gW0_mem (gt_3 (List.mem_of_getElem? (i := 177) (by decide +kernel))) rfl, gW0_mem (gt_3 (List.mem_of_getElem? (i := 178) (by decide +kernel))) rfl⟩
def qJ0_isLatin1_aae02 : gMI := (yJ0_isLatin1_aae02, cJ0_isLatin1_aae02, 1, (some .boolean), 0)
theorem oJ0_isLatin1_aae02 : gMOk qJ0_isLatin1_aae02 := ⟨by decide +kernel, ⟨by decide +kernel, by decide +kernel, by decide +kernel⟩, gW0_mem (gt_3 (List.mem_of_getElem? (i := 189) (by decide +kernel))) rfl, gW0_mem (gt_1 (List.mem_of_getElem? (i := 16) (by decide +kernel))) rfl, by decide⟩
theorem vJ0_isLatin1_aae02 : gVOk qJ0_isLatin1_aae02 := ⟨gW0_mem (gt_3 (List.mem_of_getElem? (i := 187) (by decide +kernel))) rfl, gW0_mem (gt_3 (List.mem_of_getElem? (i := 188) (by decide +kernel))) rfl⟩
def qJ0_checkIndex_df160 : gMI := (yJ0_checkIndex_df160, cJ0_checkIndex_df160, 2, none, 2)
theorem oJ0_checkIndex_df160 : gMOk qJ0_checkIndex_df160 := ⟨by decide +kernel, ⟨by decide +kernel, by decide +kernel, by decide +kernel⟩, gW0_mem (gt_3 (List.mem_of_getElem? (i := 195) (by decide +kernel))) rfl, gW0_mem (gt_1 (List.mem_of_getElem? (i := 16) (by decide +kernel))) rfl, by decide⟩
theorem sJ0_checkIndex_df160 : Cond.static qJ0_checkIndex_df160.1 ∈ gW0 := gW0_mem (gt_3 (List.mem_of_getElem? (i := 194) (by decide +kernel))) rfl
def qJ1_charAt_3b067 : gMI := (yJ1_charAt_3b067, cJ1_charAt_3b067, 2, (some .char), 2)
theorem oJ1_charAt_3b067 : gMOk qJ1_charAt_3b067 := ⟨by decide +kernel, ⟨by decide +kernel, by decide +kernel, by decide +kernel⟩, gW0_mem (gt_3 (List.mem_of_getElem? (i := 192) (by decide +kernel))) rfl, gW0_mem (gt_1 (List.mem_of_getElem? (i := 17) (by decide +kernel))) rfl, by decide⟩
theorem sJ1_charAt_3b067 : Cond.static qJ1_charAt_3b067.1 ∈ gW0 := gW0_mem (gt_3 (List.mem_of_getElem? (i := 191) (by decide +kernel))) rfl
def qJ2_checkIndex_2214a : gMI := (yJ2_checkIndex_2214a, cJ2_checkIndex_2214a, 2, none, 2)
theorem oJ2_checkIndex_2214a : gMOk qJ2_checkIndex_2214a := ⟨by decide +kernel, ⟨by decide +kernel, by decide +kernel, by decide +kernel⟩, gW0_mem (gt_3 (List.mem_of_getElem? (i := 206) (by decide +kernel))) rfl, gW0_mem (gt_1 (List.mem_of_getElem? (i := 19) (by decide +kernel))) rfl, by decide⟩
theorem sJ2_checkIndex_2214a : Cond.static qJ2_checkIndex_2214a.1 ∈ gW0 := gW0_mem (gt_3 (List.mem_of_getElem? (i := 205) (by decide +kernel))) rfl
def qJ7_fill_53178 : gMI := (yJ7_fill_53178, cJ7_fill_53178, 4, none, 2)
theorem oJ7_fill_53178 : gMOk qJ7_fill_53178 := ⟨by decide +kernel, ⟨by decide +kernel, by decide +kernel, by decide +kernel⟩, gW0_mem (gt_1 (List.mem_of_getElem? (i := 96) (by decide +kernel))) rfl, gW0_mem (gt_1 (List.mem_of_getElem? (i := 6) (by decide +kernel))) rfl, by decide⟩
theorem sJ7_fill_53178 : Cond.static qJ7_fill_53178.1 ∈ gW0 := gW0_mem (gt_1 (List.mem_of_getElem? (i := 95) (by decide +kernel))) rfl
def qJ3_checkIndex_8e157 : gMI := (yJ3_checkIndex_8e157, cJ3_checkIndex_8e157, 3, (some .int), 3)
theorem oJ3_checkIndex_8e157 : gMOk qJ3_checkIndex_8e157 := ⟨by decide +kernel, ⟨by decide +kernel, by decide +kernel, by decide +kernel⟩, gW0_mem (gt_3 (List.mem_of_getElem? (i := 200) (by decide +kernel))) rfl, gW0_mem (gt_1 (List.mem_of_getElem? (i := 18) (by decide +kernel))) rfl, by decide⟩
theorem sJ3_checkIndex_8e157 : Cond.static qJ3_checkIndex_8e157.1 ∈ gW0 := gW0_mem (gt_3 (List.mem_of_getElem? (i := 199) (by decide +kernel))) rfl
theorem lk_X9_11 : Cond.methodLink RX9 11 yX0_init ∈ gW0 := gW0_mem (gt_1 (List.mem_of_getElem? (i := 38) (by decide +kernel))) rfl
theorem lk_X0_9 : Cond.methodLink RX0 9 yJ9_max_7cf53 ∈ gW0 := gW0_mem (gt_1 (List.mem_of_getElem? (i := 42) (by decide +kernel))) rfl
theorem lk_X9_23 : Cond.methodLink RX9 23 yX7_init ∈ gW0 := gW0_mem (gt_1 (List.mem_of_getElem? (i := 57) (by decide +kernel))) rfl
theorem lk_X9_32 : Cond.methodLink RX9 32 yX6_init ∈ gW0 := gW0_mem (gt_1 (List.mem_of_getElem? (i := 86) (by decide +kernel))) rfl
theorem lk_X6_21 : Cond.methodLink RX6 21 yX6_reset ∈ gW0 := gW0_mem (gt_1 (List.mem_of_getElem? (i := 90) (by decide +kernel))) rfl
theorem lk_X6_42 : Cond.methodLink RX6 42 yJ7_fill_53178 ∈ gW0 := gW0_mem (gt_1 (List.mem_of_getElem? (i := 94) (by decide +kernel))) rfl
theorem lk_X9_45 : Cond.methodLink RX9 45 yX5_init ∈ gW0 := gW0_mem (gt_1 (List.mem_of_getElem? (i := 139) (by decide +kernel))) rfl
theorem lk_X5_17 : Cond.methodLink RX5 17 yX6_init ∈ gW0 := gW0_mem (gt_1 (List.mem_of_getElem? (i := 145) (by decide +kernel))) rfl
theorem lk_X9_52 : Cond.methodLinkNest RX9 52 yX1_init "GateLifter" ∈ gWN := gWN_mem (gt_1 (List.mem_of_getElem? (i := 156) (by decide +kernel))) rfl
theorem lk_X9_59 : Cond.methodLink RX9 59 yX8_init ∈ gW0 := gW0_mem (gt_1 (List.mem_of_getElem? (i := 181) (by decide +kernel))) rfl
theorem lk_X8_11 : Cond.methodLinkNest RX8 11 yX3_init "GateLifter" ∈ gWN := gWN_mem (gt_1 (List.mem_of_getElem? (i := 187) (by decide +kernel))) rfl
theorem lk_X8_33 : Cond.methodLinkNest RX8 33 yX4_init "GateLifter" ∈ gWN := gWN_mem (gt_1 (List.mem_of_getElem? (i := 221) (by decide +kernel))) rfl
theorem lk_X8_40 : Cond.methodLinkNest RX8 40 yX2_init "GateLifter" ∈ gWN := gWN_mem (gt_1 (List.mem_of_getElem? (i := 236) (by decide +kernel))) rfl
theorem lk_X8_47 : Cond.methodLinkNest RX8 47 yX1_init "GateLifter" ∈ gWN := gWN_mem (gt_2 (List.mem_of_getElem? (i := 11) (by decide +kernel))) rfl
theorem lk_X9_66 : Cond.methodLink RX9 66 yX8_renew ∈ gW0 := gW0_mem (gt_2 (List.mem_of_getElem? (i := 48) (by decide +kernel))) rfl
theorem lk_X8_65 : Cond.methodLink RX8 65 yX6_fill ∈ gW0 := gW0_mem (gt_2 (List.mem_of_getElem? (i := 52) (by decide +kernel))) rfl
theorem lk_X6_74 : Cond.methodLink RX6 74 yX6_isOpen ∈ gW0 := gW0_mem (gt_2 (List.mem_of_getElem? (i := 56) (by decide +kernel))) rfl
theorem lk_X6_52 : Cond.methodLink RX6 52 yX6_hasArc ∈ gW0 := gW0_mem (gt_2 (List.mem_of_getElem? (i := 60) (by decide +kernel))) rfl
theorem lk_X6_70 : Cond.methodLinkNest RX6 70 yX9_at "GateLifter" ∈ gWN := gWN_mem (gt_2 (List.mem_of_getElem? (i := 64) (by decide +kernel))) rfl
theorem lk_X6_56 : Cond.methodLinkNest RX6 56 yX9_only "GateLifter" ∈ gWN := gWN_mem (gt_2 (List.mem_of_getElem? (i := 67) (by decide +kernel))) rfl
theorem lk_X6_83 : Cond.methodLinkNest RX6 83 yX9_put "GateLifter" ∈ gWN := gWN_mem (gt_2 (List.mem_of_getElem? (i := 70) (by decide +kernel))) rfl
theorem lk_X8_75 : Cond.methodLinkNest RX8 75 yX9_only "GateLifter" ∈ gWN := gWN_mem (gt_2 (List.mem_of_getElem? (i := 73) (by decide +kernel))) rfl
theorem lk_X8_79 : Cond.methodLink RX8 79 yX3_weigh ∈ gW0 := gW0_mem (gt_2 (List.mem_of_getElem? (i := 74) (by decide +kernel))) rfl
theorem lk_X3_24 : Cond.methodLinkNest RX3 24 yX9_spread "GateLifter" ∈ gWN := gWN_mem (gt_2 (List.mem_of_getElem? (i := 78) (by decide +kernel))) rfl
theorem lk_X9_442 : Cond.methodLink RX9 442 yX9_least ∈ gW0 := gW0_mem (gt_2 (List.mem_of_getElem? (i := 81) (by decide +kernel))) rfl
theorem lk_X9_181 : Cond.methodLink RX9 181 yJ6_bitCount_0f7a4 ∈ gW0 := gW0_mem (gt_2 (List.mem_of_getElem? (i := 84) (by decide +kernel))) rfl
theorem lk_X9_140 : Cond.methodLink RX9 140 yX9_at ∈ gW0 := gW0_mem (gt_2 (List.mem_of_getElem? (i := 90) (by decide +kernel))) rfl
theorem lk_X9_445 : Cond.methodLink RX9 445 yX9_withoutLeast ∈ gW0 := gW0_mem (gt_2 (List.mem_of_getElem? (i := 91) (by decide +kernel))) rfl
theorem lk_X3_32 : Cond.methodLink RX3 32 yJ7_fill_53178 ∈ gW0 := gW0_mem (gt_2 (List.mem_of_getElem? (i := 94) (by decide +kernel))) rfl
theorem lk_X3_38 : Cond.methodLinkNest RX3 38 yX9_has "GateLifter" ∈ gWN := gWN_mem (gt_2 (List.mem_of_getElem? (i := 95) (by decide +kernel))) rfl
theorem lk_X3_42 : Cond.methodLinkNest RX3 42 yX9_only "GateLifter" ∈ gWN := gWN_mem (gt_2 (List.mem_of_getElem? (i := 98) (by decide +kernel))) rfl
theorem lk_X3_46 : Cond.methodLinkNest RX3 46 yX9_put "GateLifter" ∈ gWN := gWN_mem (gt_2 (List.mem_of_getElem? (i := 99) (by decide +kernel))) rfl
theorem lk_X3_50 : Cond.methodLink RX3 50 yX3_addGate ∈ gW0 := gW0_mem (gt_2 (List.mem_of_getElem? (i := 100) (by decide +kernel))) rfl
theorem lk_X3_54 : Cond.methodLinkNest RX3 54 yX9_at "GateLifter" ∈ gWN := gWN_mem (gt_2 (List.mem_of_getElem? (i := 104) (by decide +kernel))) rfl
theorem lk_X3_58 : Cond.methodLink RX3 58 yX3_deepest ∈ gW0 := gW0_mem (gt_2 (List.mem_of_getElem? (i := 105) (by decide +kernel))) rfl
theorem lk_X3_61 : Cond.methodLink RX3 61 yJ6_bitCount_0f7a4 ∈ gW0 := gW0_mem (gt_2 (List.mem_of_getElem? (i := 109) (by decide +kernel))) rfl
theorem lk_X8_83 : Cond.methodLink RX8 83 yX8_fillRear ∈ gW0 := gW0_mem (gt_2 (List.mem_of_getElem? (i := 110) (by decide +kernel))) rfl
theorem lk_X8_90 : Cond.methodLink RX8 90 yX8_isReached ∈ gW0 := gW0_mem (gt_2 (List.mem_of_getElem? (i := 114) (by decide +kernel))) rfl
theorem lk_X8_98 : Cond.methodLinkNest RX8 98 yX9_has "GateLifter" ∈ gWN := gWN_mem (gt_2 (List.mem_of_getElem? (i := 118) (by decide +kernel))) rfl
theorem lk_X8_94 : Cond.methodLinkNest RX8 94 yX9_at "GateLifter" ∈ gWN := gWN_mem (gt_2 (List.mem_of_getElem? (i := 119) (by decide +kernel))) rfl
theorem lk_X8_102 : Cond.methodLinkNest RX8 102 yX9_put "GateLifter" ∈ gWN := gWN_mem (gt_2 (List.mem_of_getElem? (i := 120) (by decide +kernel))) rfl
theorem lk_X8_86 : Cond.methodLink RX8 86 yX1_compare ∈ gW0 := gW0_mem (gt_2 (List.mem_of_getElem? (i := 121) (by decide +kernel))) rfl
theorem lk_X1_24 : Cond.methodLink RX1 24 yX1_clear ∈ gW0 := gW0_mem (gt_2 (List.mem_of_getElem? (i := 125) (by decide +kernel))) rfl
theorem lk_X1_32 : Cond.methodLinkNest RX1 32 yX9_has "GateLifter" ∈ gWN := gWN_mem (gt_2 (List.mem_of_getElem? (i := 129) (by decide +kernel))) rfl
theorem lk_X1_36 : Cond.methodLink RX1 36 yX3_depth ∈ gW0 := gW0_mem (gt_2 (List.mem_of_getElem? (i := 130) (by decide +kernel))) rfl
theorem lk_X1_44 : Cond.methodLinkNest RX1 44 yX9_at "GateLifter" ∈ gWN := gWN_mem (gt_2 (List.mem_of_getElem? (i := 134) (by decide +kernel))) rfl
theorem lk_X1_48 : Cond.methodLinkNest RX1 48 yX9_only "GateLifter" ∈ gWN := gWN_mem (gt_2 (List.mem_of_getElem? (i := 135) (by decide +kernel))) rfl
theorem lk_X9_70 : Cond.methodLink RX9 70 yX1_clear ∈ gW0 := gW0_mem (gt_2 (List.mem_of_getElem? (i := 136) (by decide +kernel))) rfl
theorem lk_X9_83 : Cond.methodLink RX9 83 yX0_addNumber ∈ gW0 := gW0_mem (gt_2 (List.mem_of_getElem? (i := 178) (by decide +kernel))) rfl
theorem lk_X0_25 : Cond.methodLink RX0 25 yX0_add ∈ gW0 := gW0_mem (gt_2 (List.mem_of_getElem? (i := 182) (by decide +kernel))) rfl
theorem lk_X9_300 : Cond.methodLink RX9 300 yX8_walked ∈ gW0 := gW0_mem (gt_2 (List.mem_of_getElem? (i := 202) (by decide +kernel))) rfl
theorem lk_X9_313 : Cond.methodLink RX9 313 yX8_atDepth ∈ gW0 := gW0_mem (gt_2 (List.mem_of_getElem? (i := 210) (by decide +kernel))) rfl
theorem lk_X8_124 : Cond.methodLink RX8 124 yX3_depth ∈ gW0 := gW0_mem (gt_2 (List.mem_of_getElem? (i := 214) (by decide +kernel))) rfl
theorem lk_X9_322 : Cond.methodLink RX9 322 yX8_inRow ∈ gW0 := gW0_mem (gt_2 (List.mem_of_getElem? (i := 219) (by decide +kernel))) rfl
theorem lk_X8_118 : Cond.methodLink RX8 118 yX8_step ∈ gW0 := gW0_mem (gt_2 (List.mem_of_getElem? (i := 223) (by decide +kernel))) rfl
theorem lk_X9_373 : Cond.methodLink RX9 373 yX0_get ∈ gW0 := gW0_mem (gt_2 (List.mem_of_getElem? (i := 231) (by decide +kernel))) rfl
theorem lk_X9_86 : Cond.methodLink RX9 86 yX6_copy ∈ gW0 := gW0_mem (gt_2 (List.mem_of_getElem? (i := 239) (by decide +kernel))) rfl
theorem lk_X6_48 : Cond.methodLinkNest RX6 48 yX9_copyRow "GateLifter" ∈ gWN := gWN_mem (gt_3 (List.mem_of_getElem? (i := 3) (by decide +kernel))) rfl
theorem lk_X9_431 : Cond.methodLink RX9 431 yJ9_min_7cf53 ∈ gW0 := gW0_mem (gt_3 (List.mem_of_getElem? (i := 6) (by decide +kernel))) rfl
theorem lk_X9_100 : Cond.methodLink RX9 100 yX9_settle ∈ gW0 := gW0_mem (gt_3 (List.mem_of_getElem? (i := 16) (by decide +kernel))) rfl
theorem lk_X9_387 : Cond.methodLink RX9 387 yJ13_bitCount_95d88 ∈ gW0 := gW0_mem (gt_3 (List.mem_of_getElem? (i := 24) (by decide +kernel))) rfl
theorem lk_X9_395 : Cond.methodLink RX9 395 yX3_deepestDepth ∈ gW0 := gW0_mem (gt_3 (List.mem_of_getElem? (i := 30) (by decide +kernel))) rfl
theorem lk_X3_66 : Cond.methodLink RX3 66 yX3_depth ∈ gW0 := gW0_mem (gt_3 (List.mem_of_getElem? (i := 34) (by decide +kernel))) rfl
theorem lk_X3_69 : Cond.methodLink RX3 69 yJ9_max_7cf53 ∈ gW0 := gW0_mem (gt_3 (List.mem_of_getElem? (i := 35) (by decide +kernel))) rfl
theorem lk_X9_398 : Cond.methodLink RX9 398 yX8_heads ∈ gW0 := gW0_mem (gt_3 (List.mem_of_getElem? (i := 36) (by decide +kernel))) rfl
theorem lk_X8_194 : Cond.methodLink RX8 194 yX4_weigh ∈ gW0 := gW0_mem (gt_3 (List.mem_of_getElem? (i := 40) (by decide +kernel))) rfl
theorem lk_X4_19 : Cond.methodLinkNest RX4 19 yX9_at "GateLifter" ∈ gWN := gWN_mem (gt_3 (List.mem_of_getElem? (i := 44) (by decide +kernel))) rfl
theorem lk_X4_28 : Cond.methodLinkNest RX4 28 yX9_only "GateLifter" ∈ gWN := gWN_mem (gt_3 (List.mem_of_getElem? (i := 45) (by decide +kernel))) rfl
theorem lk_X4_32 : Cond.methodLinkNest RX4 32 yX9_put "GateLifter" ∈ gWN := gWN_mem (gt_3 (List.mem_of_getElem? (i := 46) (by decide +kernel))) rfl
theorem lk_X4_36 : Cond.methodLinkNest RX4 36 yX9_spread "GateLifter" ∈ gWN := gWN_mem (gt_3 (List.mem_of_getElem? (i := 47) (by decide +kernel))) rfl
theorem lk_X9_401 : Cond.methodLink RX9 401 yX8_backArcs ∈ gW0 := gW0_mem (gt_3 (List.mem_of_getElem? (i := 48) (by decide +kernel))) rfl
theorem lk_X8_220 : Cond.methodLink RX8 220 yX8_kind ∈ gW0 := gW0_mem (gt_3 (List.mem_of_getElem? (i := 52) (by decide +kernel))) rfl
theorem lk_X8_153 : Cond.methodLink RX8 153 yX6_isOpen ∈ gW0 := gW0_mem (gt_3 (List.mem_of_getElem? (i := 56) (by decide +kernel))) rfl
theorem lk_X9_404 : Cond.methodLink RX9 404 yX8_bridges ∈ gW0 := gW0_mem (gt_3 (List.mem_of_getElem? (i := 57) (by decide +kernel))) rfl
theorem lk_X8_226 : Cond.methodLink RX8 226 yX8_isBridge ∈ gW0 := gW0_mem (gt_3 (List.mem_of_getElem? (i := 61) (by decide +kernel))) rfl
theorem lk_X8_223 : Cond.methodLink RX8 223 yX8_lostBy ∈ gW0 := gW0_mem (gt_3 (List.mem_of_getElem? (i := 65) (by decide +kernel))) rfl
theorem lk_X8_127 : Cond.methodLinkNest RX8 127 yX9_spread "GateLifter" ∈ gWN := gWN_mem (gt_3 (List.mem_of_getElem? (i := 69) (by decide +kernel))) rfl
theorem lk_X9_407 : Cond.methodLink RX9 407 yX8_isSound ∈ gW0 := gW0_mem (gt_3 (List.mem_of_getElem? (i := 70) (by decide +kernel))) rfl
theorem lk_X8_121 : Cond.methodLink RX8 121 yX8_upTo ∈ gW0 := gW0_mem (gt_3 (List.mem_of_getElem? (i := 74) (by decide +kernel))) rfl
theorem lk_X9_410 : Cond.methodLink RX9 410 yX3_allDepths ∈ gW0 := gW0_mem (gt_3 (List.mem_of_getElem? (i := 78) (by decide +kernel))) rfl
theorem lk_X9_413 : Cond.methodLink RX9 413 yX8_keepNone ∈ gW0 := gW0_mem (gt_3 (List.mem_of_getElem? (i := 82) (by decide +kernel))) rfl
theorem lk_X9_416 : Cond.methodLink RX9 416 yX8_mostNest ∈ gW0 := gW0_mem (gt_3 (List.mem_of_getElem? (i := 86) (by decide +kernel))) rfl
theorem lk_X8_203 : Cond.methodLink RX8 203 yX4_holding ∈ gW0 := gW0_mem (gt_3 (List.mem_of_getElem? (i := 90) (by decide +kernel))) rfl
theorem lk_X4_40 : Cond.methodLinkNest RX4 40 yX9_has "GateLifter" ∈ gWN := gWN_mem (gt_3 (List.mem_of_getElem? (i := 94) (by decide +kernel))) rfl
theorem lk_X8_206 : Cond.methodLink RX8 206 yJ9_max_7cf53 ∈ gW0 := gW0_mem (gt_3 (List.mem_of_getElem? (i := 95) (by decide +kernel))) rfl
theorem lk_X9_419 : Cond.methodLink RX9 419 yX8_spans ∈ gW0 := gW0_mem (gt_3 (List.mem_of_getElem? (i := 96) (by decide +kernel))) rfl
theorem lk_X8_180 : Cond.methodLink RX8 180 yX8_weighOut ∈ gW0 := gW0_mem (gt_3 (List.mem_of_getElem? (i := 100) (by decide +kernel))) rfl
theorem lk_X8_173 : Cond.methodLinkNest RX8 173 yX9_copyRow "GateLifter" ∈ gWN := gWN_mem (gt_3 (List.mem_of_getElem? (i := 104) (by decide +kernel))) rfl
theorem lk_X8_183 : Cond.methodLink RX8 183 yJ6_bitCount_0f7a4 ∈ gW0 := gW0_mem (gt_3 (List.mem_of_getElem? (i := 105) (by decide +kernel))) rfl
theorem lk_X9_422 : Cond.methodLink RX9 422 yX8_rings ∈ gW0 := gW0_mem (gt_3 (List.mem_of_getElem? (i := 106) (by decide +kernel))) rfl
theorem lk_X8_188 : Cond.methodLinkNest RX8 188 yX9_least "GateLifter" ∈ gWN := gWN_mem (gt_3 (List.mem_of_getElem? (i := 110) (by decide +kernel))) rfl
theorem lk_X8_191 : Cond.methodLink RX8 191 yX8_ring ∈ gW0 := gW0_mem (gt_3 (List.mem_of_getElem? (i := 111) (by decide +kernel))) rfl
theorem lk_X9_425 : Cond.methodLink RX9 425 yX8_tollsOf ∈ gW0 := gW0_mem (gt_3 (List.mem_of_getElem? (i := 115) (by decide +kernel))) rfl
theorem lk_X9_428 : Cond.methodLink RX9 428 yX8_spareArcs ∈ gW0 := gW0_mem (gt_3 (List.mem_of_getElem? (i := 119) (by decide +kernel))) rfl
theorem lk_X8_235 : Cond.methodLink RX8 235 yX8_isSpare ∈ gW0 := gW0_mem (gt_3 (List.mem_of_getElem? (i := 123) (by decide +kernel))) rfl
theorem lk_X8_238 : Cond.methodLink RX8 238 yX8_ifShut ∈ gW0 := gW0_mem (gt_3 (List.mem_of_getElem? (i := 127) (by decide +kernel))) rfl
theorem lk_X9_89 : Cond.methodLink RX9 89 yX9_doText ∈ gW0 := gW0_mem (gt_3 (List.mem_of_getElem? (i := 139) (by decide +kernel))) rfl
theorem lk_X9_103 : Cond.methodLink RX9 103 yX7_rewind ∈ gW0 := gW0_mem (gt_3 (List.mem_of_getElem? (i := 143) (by decide +kernel))) rfl
theorem lk_X9_106 : Cond.methodLink RX9 106 yX7_isAtEnd ∈ gW0 := gW0_mem (gt_3 (List.mem_of_getElem? (i := 147) (by decide +kernel))) rfl
theorem lk_X7_29 : Cond.methodLink RX7 29 yX7_next ∈ gW0 := gW0_mem (gt_3 (List.mem_of_getElem? (i := 151) (by decide +kernel))) rfl
theorem lk_X7_23 : Cond.methodLink RX7 23 yX0_get ∈ gW0 := gW0_mem (gt_3 (List.mem_of_getElem? (i := 155) (by decide +kernel))) rfl
theorem lk_X9_110 : Cond.methodLink RX9 110 yX7_readAct ∈ gW0 := gW0_mem (gt_3 (List.mem_of_getElem? (i := 156) (by decide +kernel))) rfl
theorem lk_X7_42 : Cond.methodLink RX7 42 yX7_readWord ∈ gW0 := gW0_mem (gt_3 (List.mem_of_getElem? (i := 160) (by decide +kernel))) rfl
theorem lk_X7_58 : Cond.methodLink RX7 58 yX7_isLetter ∈ gW0 := gW0_mem (gt_3 (List.mem_of_getElem? (i := 164) (by decide +kernel))) rfl
theorem lk_X7_63 : Cond.methodLink RX7 63 yX7_isSpelt ∈ gW0 := gW0_mem (gt_3 (List.mem_of_getElem? (i := 168) (by decide +kernel))) rfl
theorem lk_X7_79 : Cond.methodLink RX7 79 yJ0_length_8abf5 ∈ gW0 := gW0_mem (gt_3 (List.mem_of_getElem? (i := 172) (by decide +kernel))) rfl
theorem lk_X7_83 : Cond.methodLink RX7 83 yJ0_charAt_5068e ∈ gW0 := gW0_mem (gt_3 (List.mem_of_getElem? (i := 182) (by decide +kernel))) rfl
theorem lk_X7_48 : Cond.methodLink RX7 48 yX7_readTold ∈ gW0 := gW0_mem (gt_3 (List.mem_of_getElem? (i := 226) (by decide +kernel))) rfl
theorem lk_X7_87 : Cond.methodLink RX7 87 yX7_readNumber ∈ gW0 := gW0_mem (gt_3 (List.mem_of_getElem? (i := 230) (by decide +kernel))) rfl
theorem lk_X7_91 : Cond.methodLink RX7 91 yX7_isDigit ∈ gW0 := gW0_mem (gt_3 (List.mem_of_getElem? (i := 234) (by decide +kernel))) rfl
theorem lk_X7_94 : Cond.methodLinkNest RX7 94 yX9_put "GateLifter" ∈ gWN := gWN_mem (gt_3 (List.mem_of_getElem? (i := 237) (by decide +kernel))) rfl
theorem lk_X7_52 : Cond.methodLink RX7 52 yX7_isRepeated ∈ gW0 := gW0_mem (gt_3 (List.mem_of_getElem? (i := 238) (by decide +kernel))) rfl
theorem lk_X7_55 : Cond.methodLink RX7 55 yX7_take ∈ gW0 := gW0_mem (gt_4 (List.mem_of_getElem? (i := 1) (by decide +kernel))) rfl
theorem lk_X9_116 : Cond.methodLink RX9 116 yX9_doTold ∈ gW0 := gW0_mem (gt_4 (List.mem_of_getElem? (i := 5) (by decide +kernel))) rfl
theorem lk_X9_130 : Cond.methodLink RX9 130 yX7_width ∈ gW0 := gW0_mem (gt_4 (List.mem_of_getElem? (i := 9) (by decide +kernel))) rfl
theorem lk_X9_144 : Cond.methodLink RX9 144 yX6_refusal ∈ gW0 := gW0_mem (gt_4 (List.mem_of_getElem? (i := 13) (by decide +kernel))) rfl
theorem lk_X6_60 : Cond.methodLink RX6 60 yX6_refusalOfNode ∈ gW0 := gW0_mem (gt_4 (List.mem_of_getElem? (i := 17) (by decide +kernel))) rfl
theorem lk_X6_64 : Cond.methodLink RX6 64 yX6_hasNode ∈ gW0 := gW0_mem (gt_4 (List.mem_of_getElem? (i := 21) (by decide +kernel))) rfl
theorem lk_X6_67 : Cond.methodLink RX6 67 yX6_refusalOfArc ∈ gW0 := gW0_mem (gt_4 (List.mem_of_getElem? (i := 25) (by decide +kernel))) rfl
theorem lk_X9_148 : Cond.methodLink RX9 148 yX6_perform ∈ gW0 := gW0_mem (gt_4 (List.mem_of_getElem? (i := 29) (by decide +kernel))) rfl
theorem lk_X6_77 : Cond.methodLink RX6 77 yX6_addArc ∈ gW0 := gW0_mem (gt_4 (List.mem_of_getElem? (i := 33) (by decide +kernel))) rfl
theorem lk_X9_123 : Cond.methodLink RX9 123 yX7_take ∈ gW0 := gW0_mem (gt_4 (List.mem_of_getElem? (i := 38) (by decide +kernel))) rfl
theorem lk_X9_127 : Cond.methodLink RX9 127 yX7_next ∈ gW0 := gW0_mem (gt_4 (List.mem_of_getElem? (i := 39) (by decide +kernel))) rfl
theorem lk_X9_154 : Cond.methodLink RX9 154 yX6_reset ∈ gW0 := gW0_mem (gt_4 (List.mem_of_getElem? (i := 117) (by decide +kernel))) rfl
theorem lk_X9_166 : Cond.methodLink RX9 166 yX9_isDone ∈ gW0 := gW0_mem (gt_4 (List.mem_of_getElem? (i := 126) (by decide +kernel))) rfl
theorem lk_X9_194 : Cond.methodLink RX9 194 yX5_push ∈ gW0 := gW0_mem (gt_4 (List.mem_of_getElem? (i := 130) (by decide +kernel))) rfl
theorem lk_X5_22 : Cond.methodLink RX5 22 yX5_forgetFirst ∈ gW0 := gW0_mem (gt_4 (List.mem_of_getElem? (i := 134) (by decide +kernel))) rfl
theorem lk_X5_25 : Cond.methodLink RX5 25 yX6_copy ∈ gW0 := gW0_mem (gt_4 (List.mem_of_getElem? (i := 138) (by decide +kernel))) rfl
theorem lk_X9_199 : Cond.methodLink RX9 199 yX5_pop ∈ gW0 := gW0_mem (gt_4 (List.mem_of_getElem? (i := 192) (by decide +kernel))) rfl
theorem lk_X9_213 : Cond.methodLink RX9 213 yX6_hasNode ∈ gW0 := gW0_mem (gt_4 (List.mem_of_getElem? (i := 228) (by decide +kernel))) rfl
theorem lk_X9_221 : Cond.methodLink RX9 221 yX8_isReached ∈ gW0 := gW0_mem (gt_5 (List.mem_of_getElem? (i := 5) (by decide +kernel))) rfl
theorem lk_X9_233 : Cond.methodLink RX9 233 yX3_depth ∈ gW0 := gW0_mem (gt_5 (List.mem_of_getElem? (i := 6) (by decide +kernel))) rfl
theorem lk_X9_242 : Cond.methodLink RX9 242 yX8_keptNearest ∈ gW0 := gW0_mem (gt_5 (List.mem_of_getElem? (i := 7) (by decide +kernel))) rfl
theorem lk_X9_245 : Cond.methodLink RX9 245 yX8_edge ∈ gW0 := gW0_mem (gt_5 (List.mem_of_getElem? (i := 11) (by decide +kernel))) rfl
theorem lk_X9_248 : Cond.methodLink RX9 248 yX8_body ∈ gW0 := gW0_mem (gt_5 (List.mem_of_getElem? (i := 15) (by decide +kernel))) rfl
theorem lk_X9_251 : Cond.methodLink RX9 251 yX8_nest ∈ gW0 := gW0_mem (gt_5 (List.mem_of_getElem? (i := 19) (by decide +kernel))) rfl
theorem lk_X9_254 : Cond.methodLink RX9 254 yX8_near ∈ gW0 := gW0_mem (gt_5 (List.mem_of_getElem? (i := 23) (by decide +kernel))) rfl
theorem lk_X9_257 : Cond.methodLink RX9 257 yX8_outKeeper ∈ gW0 := gW0_mem (gt_5 (List.mem_of_getElem? (i := 27) (by decide +kernel))) rfl
theorem lk_X9_260 : Cond.methodLink RX9 260 yX8_outGates ∈ gW0 := gW0_mem (gt_5 (List.mem_of_getElem? (i := 31) (by decide +kernel))) rfl
theorem lk_X9_263 : Cond.methodLink RX9 263 yX8_hard ∈ gW0 := gW0_mem (gt_5 (List.mem_of_getElem? (i := 35) (by decide +kernel))) rfl
theorem lk_X8_147 : Cond.methodLink RX8 147 yX2_clear ∈ gW0 := gW0_mem (gt_5 (List.mem_of_getElem? (i := 39) (by decide +kernel))) rfl
theorem lk_X2_21 : Cond.methodLink RX2 21 yJ7_fill_53178 ∈ gW0 := gW0_mem (gt_5 (List.mem_of_getElem? (i := 43) (by decide +kernel))) rfl
theorem lk_X8_162 : Cond.methodLink RX8 162 yX2_widen ∈ gW0 := gW0_mem (gt_5 (List.mem_of_getElem? (i := 44) (by decide +kernel))) rfl
theorem lk_X2_27 : Cond.methodLinkNest RX2 27 yX9_at "GateLifter" ∈ gWN := gWN_mem (gt_5 (List.mem_of_getElem? (i := 48) (by decide +kernel))) rfl
theorem lk_X2_31 : Cond.methodLinkNest RX2 31 yX9_put "GateLifter" ∈ gWN := gWN_mem (gt_5 (List.mem_of_getElem? (i := 49) (by decide +kernel))) rfl
theorem lk_X2_35 : Cond.methodLinkNest RX2 35 yX9_only "GateLifter" ∈ gWN := gWN_mem (gt_5 (List.mem_of_getElem? (i := 50) (by decide +kernel))) rfl
theorem lk_X8_166 : Cond.methodLink RX8 166 yX2_most ∈ gW0 := gW0_mem (gt_5 (List.mem_of_getElem? (i := 51) (by decide +kernel))) rfl
theorem lk_X2_39 : Cond.methodLink RX2 39 yX2_isFound ∈ gW0 := gW0_mem (gt_5 (List.mem_of_getElem? (i := 55) (by decide +kernel))) rfl
theorem lk_X2_47 : Cond.methodLinkNest RX2 47 yX9_least "GateLifter" ∈ gWN := gWN_mem (gt_5 (List.mem_of_getElem? (i := 59) (by decide +kernel))) rfl
theorem lk_X2_50 : Cond.methodLinkNest RX2 50 yX9_has "GateLifter" ∈ gWN := gWN_mem (gt_5 (List.mem_of_getElem? (i := 60) (by decide +kernel))) rfl
theorem lk_X2_53 : Cond.methodLinkNest RX2 53 yX9_withoutLeast "GateLifter" ∈ gWN := gWN_mem (gt_5 (List.mem_of_getElem? (i := 61) (by decide +kernel))) rfl
theorem lk_X2_43 : Cond.methodLink RX2 43 yX2_fillWay ∈ gW0 := gW0_mem (gt_5 (List.mem_of_getElem? (i := 62) (by decide +kernel))) rfl
theorem lk_X2_56 : Cond.methodLink RX2 56 yX2_widen ∈ gW0 := gW0_mem (gt_5 (List.mem_of_getElem? (i := 66) (by decide +kernel))) rfl
theorem lk_X9_266 : Cond.methodLink RX9 266 yX8_wall ∈ gW0 := gW0_mem (gt_5 (List.mem_of_getElem? (i := 67) (by decide +kernel))) rfl
theorem lk_X9_269 : Cond.methodLink RX9 269 yX8_fee ∈ gW0 := gW0_mem (gt_5 (List.mem_of_getElem? (i := 71) (by decide +kernel))) rfl
theorem lk_X8_134 : Cond.methodLink RX8 134 yX8_tollsOf ∈ gW0 := gW0_mem (gt_5 (List.mem_of_getElem? (i := 75) (by decide +kernel))) rfl
theorem lk_X9_272 : Cond.methodLink RX9 272 yX8_fare ∈ gW0 := gW0_mem (gt_5 (List.mem_of_getElem? (i := 76) (by decide +kernel))) rfl
theorem lk_X8_137 : Cond.methodLink RX8 137 yJ7_fill_53178 ∈ gW0 := gW0_mem (gt_5 (List.mem_of_getElem? (i := 80) (by decide +kernel))) rfl
theorem lk_X8_140 : Cond.methodLink RX8 140 yX8_cheapest ∈ gW0 := gW0_mem (gt_5 (List.mem_of_getElem? (i := 81) (by decide +kernel))) rfl
theorem lk_X8_143 : Cond.methodLink RX8 143 yX8_payFrom ∈ gW0 := gW0_mem (gt_5 (List.mem_of_getElem? (i := 85) (by decide +kernel))) rfl
theorem lk_X9_275 : Cond.methodLink RX9 275 yX8_controls ∈ gW0 := gW0_mem (gt_5 (List.mem_of_getElem? (i := 89) (by decide +kernel))) rfl
theorem lk_X9_278 : Cond.methodLink RX9 278 yX8_ring ∈ gW0 := gW0_mem (gt_5 (List.mem_of_getElem? (i := 93) (by decide +kernel))) rfl
theorem lk_X9_281 : Cond.methodLink RX9 281 yX8_inner ∈ gW0 := gW0_mem (gt_5 (List.mem_of_getElem? (i := 94) (by decide +kernel))) rfl
theorem lk_X8_211 : Cond.methodLink RX8 211 yX4_smallest ∈ gW0 := gW0_mem (gt_5 (List.mem_of_getElem? (i := 98) (by decide +kernel))) rfl
theorem lk_X4_49 : Cond.methodLink RX4 49 yX4_size ∈ gW0 := gW0_mem (gt_5 (List.mem_of_getElem? (i := 102) (by decide +kernel))) rfl
theorem lk_X4_44 : Cond.methodLink RX4 44 yJ6_bitCount_0f7a4 ∈ gW0 := gW0_mem (gt_5 (List.mem_of_getElem? (i := 106) (by decide +kernel))) rfl
theorem lk_X9_284 : Cond.methodLink RX9 284 yX8_outer ∈ gW0 := gW0_mem (gt_5 (List.mem_of_getElem? (i := 107) (by decide +kernel))) rfl
theorem lk_X8_214 : Cond.methodLink RX8 214 yX8_inner ∈ gW0 := gW0_mem (gt_5 (List.mem_of_getElem? (i := 111) (by decide +kernel))) rfl
theorem lk_X8_217 : Cond.methodLink RX8 217 yX4_size ∈ gW0 := gW0_mem (gt_5 (List.mem_of_getElem? (i := 112) (by decide +kernel))) rfl
theorem lk_X9_287 : Cond.methodLink RX9 287 yX8_tied ∈ gW0 := gW0_mem (gt_5 (List.mem_of_getElem? (i := 113) (by decide +kernel))) rfl
theorem lk_X9_290 : Cond.methodLink RX9 290 yX9_has ∈ gW0 := gW0_mem (gt_5 (List.mem_of_getElem? (i := 124) (by decide +kernel))) rfl
theorem lk_X9_294 : Cond.methodLink RX9 294 yX8_upTo ∈ gW0 := gW0_mem (gt_5 (List.mem_of_getElem? (i := 132) (by decide +kernel))) rfl
theorem lk_X9_297 : Cond.methodLink RX9 297 yX3_deepest ∈ gW0 := gW0_mem (gt_5 (List.mem_of_getElem? (i := 133) (by decide +kernel))) rfl
theorem lk_X9_325 : Cond.methodLink RX9 325 yX6_hasArc ∈ gW0 := gW0_mem (gt_5 (List.mem_of_getElem? (i := 141) (by decide +kernel))) rfl
theorem lk_X9_336 : Cond.methodLink RX9 336 yX6_isOpen ∈ gW0 := gW0_mem (gt_5 (List.mem_of_getElem? (i := 143) (by decide +kernel))) rfl
theorem lk_X9_339 : Cond.methodLink RX9 339 yX8_kind ∈ gW0 := gW0_mem (gt_5 (List.mem_of_getElem? (i := 144) (by decide +kernel))) rfl
theorem lk_X9_342 : Cond.methodLink RX9 342 yX8_isBridge ∈ gW0 := gW0_mem (gt_5 (List.mem_of_getElem? (i := 145) (by decide +kernel))) rfl
theorem lk_X9_303 : Cond.methodLink RX9 303 yX6_all ∈ gW0 := gW0_mem (gt_5 (List.mem_of_getElem? (i := 160) (by decide +kernel))) rfl
theorem lk_X9_306 : Cond.methodLink RX9 306 yX8_sealed ∈ gW0 := gW0_mem (gt_5 (List.mem_of_getElem? (i := 164) (by decide +kernel))) rfl
theorem lk_X9_309 : Cond.methodLink RX9 309 yX8_link ∈ gW0 := gW0_mem (gt_5 (List.mem_of_getElem? (i := 175) (by decide +kernel))) rfl
theorem lk_X9_316 : Cond.methodLink RX9 316 yX8_between ∈ gW0 := gW0_mem (gt_5 (List.mem_of_getElem? (i := 186) (by decide +kernel))) rfl
theorem lk_X9_319 : Cond.methodLink RX9 319 yX8_passed ∈ gW0 := gW0_mem (gt_5 (List.mem_of_getElem? (i := 197) (by decide +kernel))) rfl
theorem lk_X8_229 : Cond.methodLink RX8 229 yX8_link ∈ gW0 := gW0_mem (gt_5 (List.mem_of_getElem? (i := 201) (by decide +kernel))) rfl
theorem lk_X8_232 : Cond.methodLink RX8 232 yX8_bridgeTo ∈ gW0 := gW0_mem (gt_5 (List.mem_of_getElem? (i := 202) (by decide +kernel))) rfl
theorem lk_X9_347 : Cond.methodLink RX9 347 yX8_ifShut ∈ gW0 := gW0_mem (gt_5 (List.mem_of_getElem? (i := 214) (by decide +kernel))) rfl
theorem lk_X9_351 : Cond.methodLink RX9 351 yX8_worstArc ∈ gW0 := gW0_mem (gt_5 (List.mem_of_getElem? (i := 222) (by decide +kernel))) rfl
theorem lk_X9_354 : Cond.methodLink RX9 354 yX8_lostBy ∈ gW0 := gW0_mem (gt_5 (List.mem_of_getElem? (i := 226) (by decide +kernel))) rfl
theorem lk_X9_357 : Cond.methodLink RX9 357 yX8_ifLaid ∈ gW0 := gW0_mem (gt_5 (List.mem_of_getElem? (i := 234) (by decide +kernel))) rfl
theorem lk_X9_361 : Cond.methodLink RX9 361 yX8_bestPair ∈ gW0 := gW0_mem (gt_6 (List.mem_of_getElem? (i := 5) (by decide +kernel))) rfl
theorem lk_X8_248 : Cond.methodLink RX8 248 yX8_addLifts ∈ gW0 := gW0_mem (gt_6 (List.mem_of_getElem? (i := 9) (by decide +kernel))) rfl
theorem lk_X9_367 : Cond.methodLink RX9 367 yX0_add ∈ gW0 := gW0_mem (gt_6 (List.mem_of_getElem? (i := 20) (by decide +kernel))) rfl
theorem lk_X9_370 : Cond.methodLink RX9 370 yX0_addDecimal ∈ gW0 := gW0_mem (gt_6 (List.mem_of_getElem? (i := 21) (by decide +kernel))) rfl
theorem lk_X10_76 : Cond.methodLink RX10 76 yX10_isFresh ∈ gW0 := gW0_mem (gt_6 (List.mem_of_getElem? (i := 35) (by decide +kernel))) rfl
theorem lk_X10_157 : Cond.methodLink RX10 157 yX10_throwsIf ∈ gW0 := gW0_mem (gt_6 (List.mem_of_getElem? (i := 171) (by decide +kernel))) rfl
theorem lk_X10_147 : Cond.methodLink RX10 147 yX10_copies ∈ gW0 := gW0_mem (gt_6 (List.mem_of_getElem? (i := 175) (by decide +kernel))) rfl
theorem lk_X10_164 : Cond.methodLink RX10 164 yX10_hasNoLatest ∈ gW0 := gW0_mem (gt_6 (List.mem_of_getElem? (i := 178) (by decide +kernel))) rfl
theorem lk_X10_84 : Cond.methodLink RX10 84 yX10_in ∈ gW0 := gW0_mem (gt_6 (List.mem_of_getElem? (i := 194) (by decide +kernel))) rfl
theorem lk_X10_177 : Cond.methodLink RX10 177 yX10_whyNoTell ∈ gW0 := gW0_mem (gt_6 (List.mem_of_getElem? (i := 201) (by decide +kernel))) rfl
theorem lk_X10_171 : Cond.methodLink RX10 171 yX10_isNode ∈ gW0 := gW0_mem (gt_6 (List.mem_of_getElem? (i := 205) (by decide +kernel))) rfl
theorem lk_X10_80 : Cond.methodLink RX10 80 yX10_nodes ∈ gW0 := gW0_mem (gt_6 (List.mem_of_getElem? (i := 209) (by decide +kernel))) rfl
theorem lk_X10_180 : Cond.methodLink RX10 180 yX10_isRefused ∈ gW0 := gW0_mem (gt_6 (List.mem_of_getElem? (i := 213) (by decide +kernel))) rfl
theorem lk_X10_161 : Cond.methodLink RX10 161 yX10_remembers ∈ gW0 := gW0_mem (gt_6 (List.mem_of_getElem? (i := 217) (by decide +kernel))) rfl
theorem lk_X10_151 : Cond.methodLink RX10 151 yX10_notes ∈ gW0 := gW0_mem (gt_6 (List.mem_of_getElem? (i := 221) (by decide +kernel))) rfl
theorem lk_X10_126 : Cond.methodLink RX10 126 yX10_laysGates ∈ gW0 := gW0_mem (gt_6 (List.mem_of_getElem? (i := 225) (by decide +kernel))) rfl
theorem lk_X10_116 : Cond.methodLink RX10 116 yX10_reachedBut ∈ gW0 := gW0_mem (gt_6 (List.mem_of_getElem? (i := 229) (by decide +kernel))) rfl
theorem lk_X10_109 : Cond.methodLink RX10 109 yX10_root ∈ gW0 := gW0_mem (gt_6 (List.mem_of_getElem? (i := 233) (by decide +kernel))) rfl
theorem lk_X10_112 : Cond.methodLink RX10 112 yX10_reach ∈ gW0 := gW0_mem (gt_6 (List.mem_of_getElem? (i := 237) (by decide +kernel))) rfl
theorem lk_X10_88 : Cond.methodLink RX10 88 yX10_arcs ∈ gW0 := gW0_mem (gt_7 (List.mem_of_getElem? (i := 1) (by decide +kernel))) rfl
theorem lk_X10_91 : Cond.methodLink RX10 91 yX10_isOpen ∈ gW0 := gW0_mem (gt_7 (List.mem_of_getElem? (i := 5) (by decide +kernel))) rfl
theorem lk_X10_95 : Cond.methodLink RX10 95 yX10_fromOf ∈ gW0 := gW0_mem (gt_7 (List.mem_of_getElem? (i := 9) (by decide +kernel))) rfl
theorem lk_X10_99 : Cond.methodLink RX10 99 yX10_holds ∈ gW0 := gW0_mem (gt_7 (List.mem_of_getElem? (i := 13) (by decide +kernel))) rfl
theorem lk_X10_103 : Cond.methodLink RX10 103 yX10_toOf ∈ gW0 := gW0_mem (gt_7 (List.mem_of_getElem? (i := 16) (by decide +kernel))) rfl
theorem lk_X10_123 : Cond.methodLink RX10 123 yX10_bits ∈ gW0 := gW0_mem (gt_7 (List.mem_of_getElem? (i := 20) (by decide +kernel))) rfl
theorem lk_X10_183 : Cond.methodLink RX10 183 yX10_holdsAgainst ∈ gW0 := gW0_mem (gt_7 (List.mem_of_getElem? (i := 23) (by decide +kernel))) rfl
theorem lk_X10_186 : Cond.methodLink RX10 186 yX10_whyNoLay ∈ gW0 := gW0_mem (gt_7 (List.mem_of_getElem? (i := 31) (by decide +kernel))) rfl
theorem lk_X10_189 : Cond.methodLink RX10 189 yX10_lays ∈ gW0 := gW0_mem (gt_7 (List.mem_of_getElem? (i := 35) (by decide +kernel))) rfl
theorem lk_X10_192 : Cond.methodLink RX10 192 yX10_whyNoTurn ∈ gW0 := gW0_mem (gt_7 (List.mem_of_getElem? (i := 43) (by decide +kernel))) rfl
theorem lk_X10_174 : Cond.methodLink RX10 174 yX10_isArc ∈ gW0 := gW0_mem (gt_7 (List.mem_of_getElem? (i := 47) (by decide +kernel))) rfl
theorem lk_X10_195 : Cond.methodLink RX10 195 yX10_whyNoToll ∈ gW0 := gW0_mem (gt_7 (List.mem_of_getElem? (i := 59) (by decide +kernel))) rfl
theorem lk_X10_273 : Cond.methodLink RX10 273 yX10_readActs ∈ gW0 := gW0_mem (gt_7 (List.mem_of_getElem? (i := 87) (by decide +kernel))) rfl
theorem lk_X10_213 : Cond.methodLink RX10 213 yX10_blanks ∈ gW0 := gW0_mem (gt_7 (List.mem_of_getElem? (i := 91) (by decide +kernel))) rfl
theorem lk_X10_207 : Cond.methodLink RX10 207 yX10_isAt ∈ gW0 := gW0_mem (gt_7 (List.mem_of_getElem? (i := 95) (by decide +kernel))) rfl
theorem lk_X10_270 : Cond.methodLink RX10 270 yX10_readAct ∈ gW0 := gW0_mem (gt_7 (List.mem_of_getElem? (i := 99) (by decide +kernel))) rfl
theorem lk_X10_238 : Cond.methodLink RX10 238 yX10_letters ∈ gW0 := gW0_mem (gt_7 (List.mem_of_getElem? (i := 103) (by decide +kernel))) rfl
theorem lk_X10_243 : Cond.methodLink RX10 243 yX10_isWord ∈ gW0 := gW0_mem (gt_7 (List.mem_of_getElem? (i := 108) (by decide +kernel))) rfl
theorem lk_X10_216 : Cond.methodLink RX10 216 yJ0_length_8abf5 ∈ gW0 := gW0_mem (gt_7 (List.mem_of_getElem? (i := 112) (by decide +kernel))) rfl
theorem lk_X10_221 : Cond.methodLink RX10 221 yJ0_charAt_5068e ∈ gW0 := gW0_mem (gt_7 (List.mem_of_getElem? (i := 113) (by decide +kernel))) rfl
theorem lk_X10_225 : Cond.methodLink RX10 225 yX10_reads ∈ gW0 := gW0_mem (gt_7 (List.mem_of_getElem? (i := 114) (by decide +kernel))) rfl
theorem lk_X10_248 : Cond.methodLink RX10 248 yX10_readsPlace ∈ gW0 := gW0_mem (gt_7 (List.mem_of_getElem? (i := 119) (by decide +kernel))) rfl
theorem lk_X10_255 : Cond.methodLink RX10 255 yX10_readsLay ∈ gW0 := gW0_mem (gt_7 (List.mem_of_getElem? (i := 125) (by decide +kernel))) rfl
theorem lk_X10_232 : Cond.methodLink RX10 232 yX10_readsMany ∈ gW0 := gW0_mem (gt_7 (List.mem_of_getElem? (i := 129) (by decide +kernel))) rfl
theorem lk_X10_228 : Cond.methodLink RX10 228 yX10_comma ∈ gW0 := gW0_mem (gt_7 (List.mem_of_getElem? (i := 133) (by decide +kernel))) rfl
theorem lk_X10_260 : Cond.methodLink RX10 260 yX10_readsTurn ∈ gW0 := gW0_mem (gt_7 (List.mem_of_getElem? (i := 138) (by decide +kernel))) rfl
theorem lk_X10_303 : Cond.methodLink RX10 303 yX10_noNode ∈ gW0 := gW0_mem (gt_7 (List.mem_of_getElem? (i := 148) (by decide +kernel))) rfl
theorem lk_X10_306 : Cond.methodLink RX10 306 yX10_laysPass ∈ gW0 := gW0_mem (gt_7 (List.mem_of_getElem? (i := 152) (by decide +kernel))) rfl
theorem lk_X10_309 : Cond.methodLink RX10 309 yX10_nearOf ∈ gW0 := gW0_mem (gt_7 (List.mem_of_getElem? (i := 164) (by decide +kernel))) rfl
theorem lk_X10_276 : Cond.methodLink RX10 276 yX10_keptBy ∈ gW0 := gW0_mem (gt_7 (List.mem_of_getElem? (i := 172) (by decide +kernel))) rfl
theorem lk_X10_312 : Cond.methodLink RX10 312 yX10_ownOf ∈ gW0 := gW0_mem (gt_7 (List.mem_of_getElem? (i := 176) (by decide +kernel))) rfl
theorem lk_X10_315 : Cond.methodLink RX10 315 yX10_edgeOf ∈ gW0 := gW0_mem (gt_7 (List.mem_of_getElem? (i := 180) (by decide +kernel))) rfl
theorem lk_X10_279 : Cond.methodLink RX10 279 yX10_keepsOne ∈ gW0 := gW0_mem (gt_7 (List.mem_of_getElem? (i := 184) (by decide +kernel))) rfl
theorem lk_X10_288 : Cond.methodLink RX10 288 yX10_bodyOf ∈ gW0 := gW0_mem (gt_7 (List.mem_of_getElem? (i := 188) (by decide +kernel))) rfl
theorem lk_X10_282 : Cond.methodLink RX10 282 yX10_isBack ∈ gW0 := gW0_mem (gt_7 (List.mem_of_getElem? (i := 192) (by decide +kernel))) rfl
theorem lk_X10_285 : Cond.methodLink RX10 285 yX10_comers ∈ gW0 := gW0_mem (gt_7 (List.mem_of_getElem? (i := 196) (by decide +kernel))) rfl
theorem lk_X10_318 : Cond.methodLink RX10 318 yX10_nestOf ∈ gW0 := gW0_mem (gt_7 (List.mem_of_getElem? (i := 200) (by decide +kernel))) rfl
theorem lk_X10_321 : Cond.methodLink RX10 321 yX10_outKeeperOf ∈ gW0 := gW0_mem (gt_7 (List.mem_of_getElem? (i := 204) (by decide +kernel))) rfl
theorem lk_X10_294 : Cond.methodLink RX10 294 yX10_outGatesOf ∈ gW0 := gW0_mem (gt_7 (List.mem_of_getElem? (i := 208) (by decide +kernel))) rfl
theorem lk_X10_291 : Cond.methodLink RX10 291 yX10_hasWayOut ∈ gW0 := gW0_mem (gt_7 (List.mem_of_getElem? (i := 212) (by decide +kernel))) rfl
theorem lk_X10_324 : Cond.methodLink RX10 324 yX10_hardOf ∈ gW0 := gW0_mem (gt_7 (List.mem_of_getElem? (i := 216) (by decide +kernel))) rfl
theorem lk_X10_297 : Cond.methodLink RX10 297 yX10_flows ∈ gW0 := gW0_mem (gt_7 (List.mem_of_getElem? (i := 220) (by decide +kernel))) rfl
theorem lk_X10_327 : Cond.methodLink RX10 327 yX10_wallOf ∈ gW0 := gW0_mem (gt_7 (List.mem_of_getElem? (i := 224) (by decide +kernel))) rfl
theorem lk_X10_330 : Cond.methodLink RX10 330 yX10_feeOf ∈ gW0 := gW0_mem (gt_7 (List.mem_of_getElem? (i := 228) (by decide +kernel))) rfl
theorem lk_X10_333 : Cond.methodLink RX10 333 yX10_fareOf ∈ gW0 := gW0_mem (gt_7 (List.mem_of_getElem? (i := 232) (by decide +kernel))) rfl
theorem lk_X10_336 : Cond.methodLink RX10 336 yX10_controls ∈ gW0 := gW0_mem (gt_7 (List.mem_of_getElem? (i := 236) (by decide +kernel))) rfl
theorem lk_X10_339 : Cond.methodLink RX10 339 yX10_ringOf ∈ gW0 := gW0_mem (gt_8 (List.mem_of_getElem? (i := 0) (by decide +kernel))) rfl
theorem lk_X10_300 : Cond.methodLink RX10 300 yX10_innerOf ∈ gW0 := gW0_mem (gt_8 (List.mem_of_getElem? (i := 4) (by decide +kernel))) rfl
theorem lk_X10_342 : Cond.methodLink RX10 342 yX10_tiedTo ∈ gW0 := gW0_mem (gt_8 (List.mem_of_getElem? (i := 8) (by decide +kernel))) rfl
theorem lk_X10_345 : Cond.methodLink RX10 345 yX10_nextOf ∈ gW0 := gW0_mem (gt_8 (List.mem_of_getElem? (i := 24) (by decide +kernel))) rfl
theorem lk_X10_348 : Cond.methodLink RX10 348 yX10_kindOf ∈ gW0 := gW0_mem (gt_8 (List.mem_of_getElem? (i := 32) (by decide +kernel))) rfl
theorem lk_X10_351 : Cond.methodLink RX10 351 yX10_isBridge ∈ gW0 := gW0_mem (gt_8 (List.mem_of_getElem? (i := 36) (by decide +kernel))) rfl
theorem lk_X10_354 : Cond.methodLink RX10 354 yX10_sealedBy ∈ gW0 := gW0_mem (gt_8 (List.mem_of_getElem? (i := 44) (by decide +kernel))) rfl
theorem lk_X10_357 : Cond.methodLink RX10 357 yX10_chainOf ∈ gW0 := gW0_mem (gt_8 (List.mem_of_getElem? (i := 56) (by decide +kernel))) rfl
theorem lk_X10_360 : Cond.methodLink RX10 360 yX10_levelOf ∈ gW0 := gW0_mem (gt_8 (List.mem_of_getElem? (i := 64) (by decide +kernel))) rfl
theorem lk_X10_378 : Cond.methodLink RX10 378 yX10_triesWithout ∈ gW0 := gW0_mem (gt_8 (List.mem_of_getElem? (i := 76) (by decide +kernel))) rfl
theorem lk_X10_363 : Cond.methodLink RX10 363 yX10_differs ∈ gW0 := gW0_mem (gt_8 (List.mem_of_getElem? (i := 80) (by decide +kernel))) rfl
theorem lk_X10_381 : Cond.methodLink RX10 381 yX10_tries ∈ gW0 := gW0_mem (gt_8 (List.mem_of_getElem? (i := 88) (by decide +kernel))) rfl
theorem lk_X10_388 : Cond.methodLink RX10 388 yX10_writes ∈ gW0 := gW0_mem (gt_8 (List.mem_of_getElem? (i := 100) (by decide +kernel))) rfl
theorem lk_X10_399 : Cond.methodLink RX10 399 yX10_openOnes ∈ gW0 := gW0_mem (gt_8 (List.mem_of_getElem? (i := 112) (by decide +kernel))) rfl
theorem lk_X10_402 : Cond.methodLink RX10 402 yX10_depths ∈ gW0 := gW0_mem (gt_8 (List.mem_of_getElem? (i := 116) (by decide +kernel))) rfl
theorem lk_X10_391 : Cond.methodLink RX10 391 yJ9_max_7cf53 ∈ gW0 := gW0_mem (gt_8 (List.mem_of_getElem? (i := 120) (by decide +kernel))) rfl
theorem lk_X10_406 : Cond.methodLink RX10 406 yX10_heads ∈ gW0 := gW0_mem (gt_8 (List.mem_of_getElem? (i := 121) (by decide +kernel))) rfl
theorem lk_X10_409 : Cond.methodLink RX10 409 yX10_manyArcs ∈ gW0 := gW0_mem (gt_8 (List.mem_of_getElem? (i := 125) (by decide +kernel))) rfl
theorem lk_X10_412 : Cond.methodLink RX10 412 yX10_isSound ∈ gW0 := gW0_mem (gt_8 (List.mem_of_getElem? (i := 129) (by decide +kernel))) rfl
theorem lk_X10_415 : Cond.methodLink RX10 415 yX10_leaves ∈ gW0 := gW0_mem (gt_8 (List.mem_of_getElem? (i := 133) (by decide +kernel))) rfl
theorem lk_X10_418 : Cond.methodLink RX10 418 yX10_mostNest ∈ gW0 := gW0_mem (gt_8 (List.mem_of_getElem? (i := 137) (by decide +kernel))) rfl
theorem lk_X10_421 : Cond.methodLink RX10 421 yX10_spans ∈ gW0 := gW0_mem (gt_8 (List.mem_of_getElem? (i := 141) (by decide +kernel))) rfl
theorem lk_X10_396 : Cond.methodLink RX10 396 yX10_outGates ∈ gW0 := gW0_mem (gt_8 (List.mem_of_getElem? (i := 145) (by decide +kernel))) rfl
theorem lk_X10_424 : Cond.methodLink RX10 424 yX10_rings ∈ gW0 := gW0_mem (gt_8 (List.mem_of_getElem? (i := 149) (by decide +kernel))) rfl
theorem lk_X10_427 : Cond.methodLink RX10 427 yX10_tolls ∈ gW0 := gW0_mem (gt_8 (List.mem_of_getElem? (i := 153) (by decide +kernel))) rfl
theorem lk_X10_430 : Cond.methodLink RX10 430 yX10_spareOnes ∈ gW0 := gW0_mem (gt_8 (List.mem_of_getElem? (i := 157) (by decide +kernel))) rfl
theorem ul_X0 : ∀ u ∈ u_ws RX0 TX0 2, u ∈ gW0 := by
  show ∀ u ∈ [u_lay RX0 TX0 0, u_lay RX0 TX0 1], u ∈ gW0
  exact List.forall_mem_cons.mpr ⟨gW0_mem (gt_1 (List.mem_of_getElem? (i := 49) (by decide +kernel))) rfl, List.forall_mem_cons.mpr ⟨gW0_mem (gt_1 (List.mem_of_getElem? (i := 51) (by decide +kernel))) rfl, fun _ h => absurd h List.not_mem_nil⟩⟩
theorem ul_X1 : ∀ u ∈ u_ws RX1 TX1 4, u ∈ gW0 := by
  show ∀ u ∈ [u_lay RX1 TX1 0, u_lay RX1 TX1 1, u_lay RX1 TX1 2, u_lay RX1 TX1 3], u ∈ gW0
  exact List.forall_mem_cons.mpr ⟨gW0_mem (gt_1 (List.mem_of_getElem? (i := 170) (by decide +kernel))) rfl, List.forall_mem_cons.mpr ⟨gW0_mem (gt_1 (List.mem_of_getElem? (i := 172) (by decide +kernel))) rfl, List.forall_mem_cons.mpr ⟨gW0_mem (gt_1 (List.mem_of_getElem? (i := 174) (by decide +kernel))) rfl, List.forall_mem_cons.mpr ⟨gW0_mem (gt_1 (List.mem_of_getElem? (i := 176) (by decide +kernel))) rfl, fun _ h => absurd h List.not_mem_nil⟩⟩⟩⟩
theorem ul_X2 : ∀ u ∈ u_ws RX2 TX2 3, u ∈ gW0 := by
  show ∀ u ∈ [u_lay RX2 TX2 0, u_lay RX2 TX2 1, u_lay RX2 TX2 2], u ∈ gW0
  exact List.forall_mem_cons.mpr ⟨gW0_mem (gt_2 (List.mem_of_getElem? (i := 3) (by decide +kernel))) rfl, List.forall_mem_cons.mpr ⟨gW0_mem (gt_2 (List.mem_of_getElem? (i := 5) (by decide +kernel))) rfl, List.forall_mem_cons.mpr ⟨gW0_mem (gt_2 (List.mem_of_getElem? (i := 7) (by decide +kernel))) rfl, fun _ h => absurd h List.not_mem_nil⟩⟩⟩
theorem ul_X3 : ∀ u ∈ u_ws RX3 TX3 5, u ∈ gW0 := by
  show ∀ u ∈ [u_lay RX3 TX3 0, u_lay RX3 TX3 1, u_lay RX3 TX3 2, u_lay RX3 TX3 3, u_lay RX3 TX3 4], u ∈ gW0
  exact List.forall_mem_cons.mpr ⟨gW0_mem (gt_1 (List.mem_of_getElem? (i := 208) (by decide +kernel))) rfl, List.forall_mem_cons.mpr ⟨gW0_mem (gt_1 (List.mem_of_getElem? (i := 210) (by decide +kernel))) rfl, List.forall_mem_cons.mpr ⟨gW0_mem (gt_1 (List.mem_of_getElem? (i := 212) (by decide +kernel))) rfl, List.forall_mem_cons.mpr ⟨gW0_mem (gt_1 (List.mem_of_getElem? (i := 214) (by decide +kernel))) rfl, List.forall_mem_cons.mpr ⟨gW0_mem (gt_1 (List.mem_of_getElem? (i := 216) (by decide +kernel))) rfl, fun _ h => absurd h List.not_mem_nil⟩⟩⟩⟩⟩
theorem ul_X4 : ∀ u ∈ u_ws RX4 TX4 2, u ∈ gW0 := by
  show ∀ u ∈ [u_lay RX4 TX4 0, u_lay RX4 TX4 1], u ∈ gW0
  exact List.forall_mem_cons.mpr ⟨gW0_mem (gt_1 (List.mem_of_getElem? (i := 229) (by decide +kernel))) rfl, List.forall_mem_cons.mpr ⟨gW0_mem (gt_1 (List.mem_of_getElem? (i := 231) (by decide +kernel))) rfl, fun _ h => absurd h List.not_mem_nil⟩⟩
theorem ul_X5 : ∀ u ∈ u_ws RX5 TX5 2, u ∈ gW0 := by
  show ∀ u ∈ [u_lay RX5 TX5 0, u_lay RX5 TX5 1], u ∈ gW0
  exact List.forall_mem_cons.mpr ⟨gW0_mem (gt_1 (List.mem_of_getElem? (i := 149) (by decide +kernel))) rfl, List.forall_mem_cons.mpr ⟨gW0_mem (gt_1 (List.mem_of_getElem? (i := 151) (by decide +kernel))) rfl, fun _ h => absurd h List.not_mem_nil⟩⟩
theorem ul_X6 : ∀ u ∈ u_ws RX6 TX6 8, u ∈ gW0 := by
  show ∀ u ∈ [u_lay RX6 TX6 0, u_lay RX6 TX6 1, u_lay RX6 TX6 2, u_lay RX6 TX6 3, u_lay RX6 TX6 4, u_lay RX6 TX6 5, u_lay RX6 TX6 6, u_lay RX6 TX6 7], u ∈ gW0
  exact List.forall_mem_cons.mpr ⟨gW0_mem (gt_1 (List.mem_of_getElem? (i := 120) (by decide +kernel))) rfl, List.forall_mem_cons.mpr ⟨gW0_mem (gt_1 (List.mem_of_getElem? (i := 122) (by decide +kernel))) rfl, List.forall_mem_cons.mpr ⟨gW0_mem (gt_1 (List.mem_of_getElem? (i := 124) (by decide +kernel))) rfl, List.forall_mem_cons.mpr ⟨gW0_mem (gt_1 (List.mem_of_getElem? (i := 126) (by decide +kernel))) rfl, List.forall_mem_cons.mpr ⟨gW0_mem (gt_1 (List.mem_of_getElem? (i := 128) (by decide +kernel))) rfl, List.forall_mem_cons.mpr ⟨gW0_mem (gt_1 (List.mem_of_getElem? (i := 130) (by decide +kernel))) rfl, List.forall_mem_cons.mpr ⟨gW0_mem (gt_1 (List.mem_of_getElem? (i := 132) (by decide +kernel))) rfl, List.forall_mem_cons.mpr ⟨gW0_mem (gt_1 (List.mem_of_getElem? (i := 134) (by decide +kernel))) rfl, fun _ h => absurd h List.not_mem_nil⟩⟩⟩⟩⟩⟩⟩⟩
theorem ul_X7 : ∀ u ∈ u_ws RX7 TX7 6, u ∈ gW0 := by
  show ∀ u ∈ [u_lay RX7 TX7 0, u_lay RX7 TX7 1, u_lay RX7 TX7 2, u_lay RX7 TX7 3, u_lay RX7 TX7 4, u_lay RX7 TX7 5], u ∈ gW0
  exact List.forall_mem_cons.mpr ⟨gW0_mem (gt_1 (List.mem_of_getElem? (i := 71) (by decide +kernel))) rfl, List.forall_mem_cons.mpr ⟨gW0_mem (gt_1 (List.mem_of_getElem? (i := 73) (by decide +kernel))) rfl, List.forall_mem_cons.mpr ⟨gW0_mem (gt_1 (List.mem_of_getElem? (i := 75) (by decide +kernel))) rfl, List.forall_mem_cons.mpr ⟨gW0_mem (gt_1 (List.mem_of_getElem? (i := 77) (by decide +kernel))) rfl, List.forall_mem_cons.mpr ⟨gW0_mem (gt_1 (List.mem_of_getElem? (i := 79) (by decide +kernel))) rfl, List.forall_mem_cons.mpr ⟨gW0_mem (gt_1 (List.mem_of_getElem? (i := 81) (by decide +kernel))) rfl, fun _ h => absurd h List.not_mem_nil⟩⟩⟩⟩⟩⟩
theorem ul_X8 : ∀ u ∈ u_ws RX8 TX8 11, u ∈ gW0 := by
  show ∀ u ∈ [u_lay RX8 TX8 0, u_lay RX8 TX8 1, u_lay RX8 TX8 2, u_lay RX8 TX8 3, u_lay RX8 TX8 4, u_lay RX8 TX8 5, u_lay RX8 TX8 6, u_lay RX8 TX8 7, u_lay RX8 TX8 8, u_lay RX8 TX8 9, u_lay RX8 TX8 10], u ∈ gW0
  exact List.forall_mem_cons.mpr ⟨gW0_mem (gt_2 (List.mem_of_getElem? (i := 25) (by decide +kernel))) rfl, List.forall_mem_cons.mpr ⟨gW0_mem (gt_2 (List.mem_of_getElem? (i := 27) (by decide +kernel))) rfl, List.forall_mem_cons.mpr ⟨gW0_mem (gt_2 (List.mem_of_getElem? (i := 29) (by decide +kernel))) rfl, List.forall_mem_cons.mpr ⟨gW0_mem (gt_2 (List.mem_of_getElem? (i := 31) (by decide +kernel))) rfl, List.forall_mem_cons.mpr ⟨gW0_mem (gt_2 (List.mem_of_getElem? (i := 33) (by decide +kernel))) rfl, List.forall_mem_cons.mpr ⟨gW0_mem (gt_2 (List.mem_of_getElem? (i := 35) (by decide +kernel))) rfl, List.forall_mem_cons.mpr ⟨gW0_mem (gt_2 (List.mem_of_getElem? (i := 37) (by decide +kernel))) rfl, List.forall_mem_cons.mpr ⟨gW0_mem (gt_2 (List.mem_of_getElem? (i := 39) (by decide +kernel))) rfl, List.forall_mem_cons.mpr ⟨gW0_mem (gt_2 (List.mem_of_getElem? (i := 41) (by decide +kernel))) rfl, List.forall_mem_cons.mpr ⟨gW0_mem (gt_2 (List.mem_of_getElem? (i := 43) (by decide +kernel))) rfl, List.forall_mem_cons.mpr ⟨gW0_mem (gt_2 (List.mem_of_getElem? (i := 45) (by decide +kernel))) rfl, fun _ h => absurd h List.not_mem_nil⟩⟩⟩⟩⟩⟩⟩⟩⟩⟩⟩
theorem ul_X9 : ∀ u ∈ u_ws RX9 TX9 12, u ∈ gW0 := by
  show ∀ u ∈ [u_lay RX9 TX9 0, u_lay RX9 TX9 1, u_lay RX9 TX9 2, u_lay RX9 TX9 3, u_lay RX9 TX9 4, u_lay RX9 TX9 5, u_lay RX9 TX9 6, u_lay RX9 TX9 7, u_lay RX9 TX9 8, u_lay RX9 TX9 9, u_lay RX9 TX9 10, u_lay RX9 TX9 11], u ∈ gW0
  exact List.forall_mem_cons.mpr ⟨gW0_mem (gt_2 (List.mem_of_getElem? (i := 149) (by decide +kernel))) rfl, List.forall_mem_cons.mpr ⟨gW0_mem (gt_2 (List.mem_of_getElem? (i := 151) (by decide +kernel))) rfl, List.forall_mem_cons.mpr ⟨gW0_mem (gt_2 (List.mem_of_getElem? (i := 153) (by decide +kernel))) rfl, List.forall_mem_cons.mpr ⟨gW0_mem (gt_2 (List.mem_of_getElem? (i := 155) (by decide +kernel))) rfl, List.forall_mem_cons.mpr ⟨gW0_mem (gt_2 (List.mem_of_getElem? (i := 157) (by decide +kernel))) rfl, List.forall_mem_cons.mpr ⟨gW0_mem (gt_2 (List.mem_of_getElem? (i := 159) (by decide +kernel))) rfl, List.forall_mem_cons.mpr ⟨gW0_mem (gt_2 (List.mem_of_getElem? (i := 161) (by decide +kernel))) rfl, List.forall_mem_cons.mpr ⟨gW0_mem (gt_2 (List.mem_of_getElem? (i := 163) (by decide +kernel))) rfl, List.forall_mem_cons.mpr ⟨gW0_mem (gt_2 (List.mem_of_getElem? (i := 165) (by decide +kernel))) rfl, List.forall_mem_cons.mpr ⟨gW0_mem (gt_2 (List.mem_of_getElem? (i := 167) (by decide +kernel))) rfl, List.forall_mem_cons.mpr ⟨gW0_mem (gt_2 (List.mem_of_getElem? (i := 169) (by decide +kernel))) rfl, List.forall_mem_cons.mpr ⟨gW0_mem (gt_2 (List.mem_of_getElem? (i := 171) (by decide +kernel))) rfl, fun _ h => absurd h List.not_mem_nil⟩⟩⟩⟩⟩⟩⟩⟩⟩⟩⟩⟩
theorem ul_X10 : ∀ u ∈ u_ws RX10 TX10 42, u ∈ gW0 := by
  show ∀ u ∈ [u_lay RX10 TX10 0, u_lay RX10 TX10 1, u_lay RX10 TX10 2, u_lay RX10 TX10 3, u_lay RX10 TX10 4, u_lay RX10 TX10 5, u_lay RX10 TX10 6, u_lay RX10 TX10 7, u_lay RX10 TX10 8, u_lay RX10 TX10 9, u_lay RX10 TX10 10, u_lay RX10 TX10 11, u_lay RX10 TX10 12, u_lay RX10 TX10 13, u_lay RX10 TX10 14, u_lay RX10 TX10 15, u_lay RX10 TX10 16, u_lay RX10 TX10 17, u_lay RX10 TX10 18, u_lay RX10 TX10 19, u_lay RX10 TX10 20, u_lay RX10 TX10 21, u_lay RX10 TX10 22, u_lay RX10 TX10 23, u_lay RX10 TX10 24, u_lay RX10 TX10 25, u_lay RX10 TX10 26, u_lay RX10 TX10 27, u_lay RX10 TX10 28, u_lay RX10 TX10 29, u_lay RX10 TX10 30, u_lay RX10 TX10 31, u_lay RX10 TX10 32, u_lay RX10 TX10 33, u_lay RX10 TX10 34, u_lay RX10 TX10 35, u_lay RX10 TX10 36, u_lay RX10 TX10 37, u_lay RX10 TX10 38, u_lay RX10 TX10 39, u_lay RX10 TX10 40, u_lay RX10 TX10 41], u ∈ gW0
  exact List.forall_mem_cons.mpr ⟨gW0_mem (gt_6 (List.mem_of_getElem? (i := 81) (by decide +kernel))) rfl, List.forall_mem_cons.mpr ⟨gW0_mem (gt_6 (List.mem_of_getElem? (i := 83) (by decide +kernel))) rfl, List.forall_mem_cons.mpr ⟨gW0_mem (gt_6 (List.mem_of_getElem? (i := 85) (by decide +kernel))) rfl, List.forall_mem_cons.mpr ⟨gW0_mem (gt_6 (List.mem_of_getElem? (i := 87) (by decide +kernel))) rfl, List.forall_mem_cons.mpr ⟨gW0_mem (gt_6 (List.mem_of_getElem? (i := 89) (by decide +kernel))) rfl, List.forall_mem_cons.mpr ⟨gW0_mem (gt_6 (List.mem_of_getElem? (i := 91) (by decide +kernel))) rfl, List.forall_mem_cons.mpr ⟨gW0_mem (gt_6 (List.mem_of_getElem? (i := 93) (by decide +kernel))) rfl, List.forall_mem_cons.mpr ⟨gW0_mem (gt_6 (List.mem_of_getElem? (i := 95) (by decide +kernel))) rfl, List.forall_mem_cons.mpr ⟨gW0_mem (gt_6 (List.mem_of_getElem? (i := 97) (by decide +kernel))) rfl, List.forall_mem_cons.mpr ⟨gW0_mem (gt_6 (List.mem_of_getElem? (i := 99) (by decide +kernel))) rfl, List.forall_mem_cons.mpr ⟨gW0_mem (gt_6 (List.mem_of_getElem? (i := 101) (by decide +kernel))) rfl, List.forall_mem_cons.mpr ⟨gW0_mem (gt_6 (List.mem_of_getElem? (i := 103) (by decide +kernel))) rfl, List.forall_mem_cons.mpr ⟨gW0_mem (gt_6 (List.mem_of_getElem? (i := 105) (by decide +kernel))) rfl, List.forall_mem_cons.mpr ⟨gW0_mem (gt_6 (List.mem_of_getElem? (i := 107) (by decide +kernel))) rfl, List.forall_mem_cons.mpr ⟨gW0_mem (gt_6 (List.mem_of_getElem? (i := 109) (by decide +kernel))) rfl, List.forall_mem_cons.mpr ⟨gW0_mem (gt_6 (List.mem_of_getElem? (i := 111) (by decide +kernel))) rfl, List.forall_mem_cons.mpr ⟨gW0_mem (gt_6 (List.mem_of_getElem? (i := 113) (by decide +kernel))) rfl, List.forall_mem_cons.mpr ⟨gW0_mem (gt_6 (List.mem_of_getElem? (i := 115) (by decide +kernel))) rfl, List.forall_mem_cons.mpr ⟨gW0_mem (gt_6 (List.mem_of_getElem? (i := 117) (by decide +kernel))) rfl, List.forall_mem_cons.mpr ⟨gW0_mem (gt_6 (List.mem_of_getElem? (i := 119) (by decide +kernel))) rfl, List.forall_mem_cons.mpr ⟨gW0_mem (gt_6 (List.mem_of_getElem? (i := 121) (by decide +kernel))) rfl, List.forall_mem_cons.mpr ⟨gW0_mem (gt_6 (List.mem_of_getElem? (i := 123) (by decide +kernel))) rfl, List.forall_mem_cons.mpr ⟨gW0_mem (gt_6 (List.mem_of_getElem? (i := 125) (by decide +kernel))) rfl, List.forall_mem_cons.mpr ⟨gW0_mem (gt_6 (List.mem_of_getElem? (i := 127) (by decide +kernel))) rfl, List.forall_mem_cons.mpr ⟨gW0_mem (gt_6 (List.mem_of_getElem? (i := 129) (by decide +kernel))) rfl, List.forall_mem_cons.mpr ⟨gW0_mem (gt_6 (List.mem_of_getElem? (i := 131) (by decide +kernel))) rfl, List.forall_mem_cons.mpr ⟨gW0_mem (gt_6 (List.mem_of_getElem? (i := 133) (by decide +kernel))) rfl, List.forall_mem_cons.mpr ⟨gW0_mem (gt_6 (List.mem_of_getElem? (i := 135) (by decide +kernel))) rfl, List.forall_mem_cons.mpr ⟨gW0_mem (gt_6 (List.mem_of_getElem? (i := 137) (by decide +kernel))) rfl, List.forall_mem_cons.mpr ⟨gW0_mem (gt_6 (List.mem_of_getElem? (i := 139) (by decide +kernel))) rfl, List.forall_mem_cons.mpr ⟨gW0_mem (gt_6 (List.mem_of_getElem? (i := 141) (by decide +kernel))) rfl, List.forall_mem_cons.mpr ⟨gW0_mem (gt_6 (List.mem_of_getElem? (i := 143) (by decide +kernel))) rfl, List.forall_mem_cons.mpr ⟨gW0_mem (gt_6 (List.mem_of_getElem? (i := 145) (by decide +kernel))) rfl, List.forall_mem_cons.mpr ⟨gW0_mem (gt_6 (List.mem_of_getElem? (i := 147) (by decide +kernel))) rfl, List.forall_mem_cons.mpr ⟨gW0_mem (gt_6 (List.mem_of_getElem? (i := 149) (by decide +kernel))) rfl, List.forall_mem_cons.mpr ⟨gW0_mem (gt_6 (List.mem_of_getElem? (i := 151) (by decide +kernel))) rfl, List.forall_mem_cons.mpr ⟨gW0_mem (gt_6 (List.mem_of_getElem? (i := 153) (by decide +kernel))) rfl, List.forall_mem_cons.mpr ⟨gW0_mem (gt_6 (List.mem_of_getElem? (i := 155) (by decide +kernel))) rfl, List.forall_mem_cons.mpr ⟨gW0_mem (gt_6 (List.mem_of_getElem? (i := 157) (by decide +kernel))) rfl, List.forall_mem_cons.mpr ⟨gW0_mem (gt_6 (List.mem_of_getElem? (i := 159) (by decide +kernel))) rfl, List.forall_mem_cons.mpr ⟨gW0_mem (gt_6 (List.mem_of_getElem? (i := 161) (by decide +kernel))) rfl, List.forall_mem_cons.mpr ⟨gW0_mem (gt_6 (List.mem_of_getElem? (i := 163) (by decide +kernel))) rfl, fun _ h => absurd h List.not_mem_nil⟩⟩⟩⟩⟩⟩⟩⟩⟩⟩⟩⟩⟩⟩⟩⟩⟩⟩⟩⟩⟩⟩⟩⟩⟩⟩⟩⟩⟩⟩⟩⟩⟩⟩⟩⟩⟩⟩⟩⟩⟩⟩
theorem fl_X0_15 : FLk RX0 15 0 0 none := ⟨rfl, rfl, by decide, tyX0_ok, nmX0, ul_X0, gW0_mem (gt_1 (List.mem_of_getElem? (i := 45) (by decide +kernel))) rfl⟩
theorem fl_X0_21 : FLk RX0 21 0 1 none := ⟨rfl, rfl, by decide, tyX0_ok, nmX0, ul_X0, gW0_mem (gt_1 (List.mem_of_getElem? (i := 46) (by decide +kernel))) rfl⟩
theorem fl_X9_80 : FLk RX9 80 0 1 (some "GateLifter") := ⟨rfl, rfl, by decide, tyX0_ok, nmX0, ul_X0, gWN_mem (gt_1 (List.mem_of_getElem? (i := 47) (by decide +kernel))) rfl⟩
theorem fl_X7_33 : FLk RX7 33 0 1 (some "GateLifter") := ⟨rfl, rfl, by decide, tyX0_ok, nmX0, ul_X0, gWN_mem (gt_1 (List.mem_of_getElem? (i := 48) (by decide +kernel))) rfl⟩
theorem fl_X7_15 : FLk RX7 15 7 0 none := ⟨rfl, rfl, by decide, tyX7_ok, nmX7, ul_X7, gW0_mem (gt_1 (List.mem_of_getElem? (i := 61) (by decide +kernel))) rfl⟩
theorem fl_X7_9 : FLk RX7 9 7 1 none := ⟨rfl, rfl, by decide, tyX7_ok, nmX7, ul_X7, gW0_mem (gt_1 (List.mem_of_getElem? (i := 62) (by decide +kernel))) rfl⟩
theorem fl_X9_136 : FLk RX9 136 7 1 (some "GateLifter") := ⟨rfl, rfl, by decide, tyX7_ok, nmX7, ul_X7, gWN_mem (gt_1 (List.mem_of_getElem? (i := 63) (by decide +kernel))) rfl⟩
theorem fl_X7_39 : FLk RX7 39 7 2 none := ⟨rfl, rfl, by decide, tyX7_ok, nmX7, ul_X7, gW0_mem (gt_1 (List.mem_of_getElem? (i := 64) (by decide +kernel))) rfl⟩
theorem fl_X9_133 : FLk RX9 133 7 2 (some "GateLifter") := ⟨rfl, rfl, by decide, tyX7_ok, nmX7, ul_X7, gWN_mem (gt_1 (List.mem_of_getElem? (i := 65) (by decide +kernel))) rfl⟩
theorem fl_X7_19 : FLk RX7 19 7 3 none := ⟨rfl, rfl, by decide, tyX7_ok, nmX7, ul_X7, gW0_mem (gt_1 (List.mem_of_getElem? (i := 66) (by decide +kernel))) rfl⟩
theorem fl_X9_120 : FLk RX9 120 7 4 (some "GateLifter") := ⟨rfl, rfl, by decide, tyX7_ok, nmX7, ul_X7, gWN_mem (gt_1 (List.mem_of_getElem? (i := 67) (by decide +kernel))) rfl⟩
theorem fl_X7_36 : FLk RX7 36 7 4 none := ⟨rfl, rfl, by decide, tyX7_ok, nmX7, ul_X7, gW0_mem (gt_1 (List.mem_of_getElem? (i := 68) (by decide +kernel))) rfl⟩
theorem fl_X9_113 : FLk RX9 113 7 5 (some "GateLifter") := ⟨rfl, rfl, by decide, tyX7_ok, nmX7, ul_X7, gWN_mem (gt_1 (List.mem_of_getElem? (i := 69) (by decide +kernel))) rfl⟩
theorem fl_X7_45 : FLk RX7 45 7 5 none := ⟨rfl, rfl, by decide, tyX7_ok, nmX7, ul_X7, gW0_mem (gt_1 (List.mem_of_getElem? (i := 70) (by decide +kernel))) rfl⟩
theorem fl_X6_9 : FLk RX6 9 6 0 none := ⟨rfl, rfl, by decide, tyX6_ok, nmX6, ul_X6, gW0_mem (gt_1 (List.mem_of_getElem? (i := 97) (by decide +kernel))) rfl⟩
theorem fl_X8_156 : FLk RX8 156 6 0 (some "GateLifter") := ⟨rfl, rfl, by decide, tyX6_ok, nmX6, ul_X6, gWN_mem (gt_1 (List.mem_of_getElem? (i := 98) (by decide +kernel))) rfl⟩
theorem fl_X9_330 : FLk RX9 330 6 0 (some "GateLifter") := ⟨rfl, rfl, by decide, tyX6_ok, nmX6, ul_X6, gWN_mem (gt_1 (List.mem_of_getElem? (i := 99) (by decide +kernel))) rfl⟩
theorem fl_X6_15 : FLk RX6 15 6 1 none := ⟨rfl, rfl, by decide, tyX6_ok, nmX6, ul_X6, gW0_mem (gt_1 (List.mem_of_getElem? (i := 100) (by decide +kernel))) rfl⟩
theorem fl_X8_159 : FLk RX8 159 6 1 (some "GateLifter") := ⟨rfl, rfl, by decide, tyX6_ok, nmX6, ul_X6, gWN_mem (gt_1 (List.mem_of_getElem? (i := 101) (by decide +kernel))) rfl⟩
theorem fl_X9_333 : FLk RX9 333 6 1 (some "GateLifter") := ⟨rfl, rfl, by decide, tyX6_ok, nmX6, ul_X6, gWN_mem (gt_1 (List.mem_of_getElem? (i := 102) (by decide +kernel))) rfl⟩
theorem fl_X6_18 : FLk RX6 18 6 2 none := ⟨rfl, rfl, by decide, tyX6_ok, nmX6, ul_X6, gW0_mem (gt_1 (List.mem_of_getElem? (i := 103) (by decide +kernel))) rfl⟩
theorem fl_X9_191 : FLk RX9 191 6 2 (some "GateLifter") := ⟨rfl, rfl, by decide, tyX6_ok, nmX6, ul_X6, gWN_mem (gt_1 (List.mem_of_getElem? (i := 104) (by decide +kernel))) rfl⟩
theorem fl_X8_131 : FLk RX8 131 6 2 (some "GateLifter") := ⟨rfl, rfl, by decide, tyX6_ok, nmX6, ul_X6, gWN_mem (gt_1 (List.mem_of_getElem? (i := 105) (by decide +kernel))) rfl⟩
theorem fl_X6_25 : FLk RX6 25 6 3 none := ⟨rfl, rfl, by decide, tyX6_ok, nmX6, ul_X6, gW0_mem (gt_1 (List.mem_of_getElem? (i := 106) (by decide +kernel))) rfl⟩
theorem fl_X8_170 : FLk RX8 170 6 3 (some "GateLifter") := ⟨rfl, rfl, by decide, tyX6_ok, nmX6, ul_X6, gWN_mem (gt_1 (List.mem_of_getElem? (i := 107) (by decide +kernel))) rfl⟩
theorem fl_X9_380 : FLk RX9 380 6 3 (some "GateLifter") := ⟨rfl, rfl, by decide, tyX6_ok, nmX6, ul_X6, gWN_mem (gt_1 (List.mem_of_getElem? (i := 108) (by decide +kernel))) rfl⟩
theorem fl_X6_29 : FLk RX6 29 6 4 none := ⟨rfl, rfl, by decide, tyX6_ok, nmX6, ul_X6, gW0_mem (gt_1 (List.mem_of_getElem? (i := 109) (by decide +kernel))) rfl⟩
theorem fl_X8_71 : FLk RX8 71 6 4 (some "GateLifter") := ⟨rfl, rfl, by decide, tyX6_ok, nmX6, ul_X6, gWN_mem (gt_1 (List.mem_of_getElem? (i := 110) (by decide +kernel))) rfl⟩
theorem fl_X9_163 : FLk RX9 163 6 4 (some "GateLifter") := ⟨rfl, rfl, by decide, tyX6_ok, nmX6, ul_X6, gWN_mem (gt_1 (List.mem_of_getElem? (i := 111) (by decide +kernel))) rfl⟩
theorem fl_X6_32 : FLk RX6 32 6 5 none := ⟨rfl, rfl, by decide, tyX6_ok, nmX6, ul_X6, gW0_mem (gt_1 (List.mem_of_getElem? (i := 112) (by decide +kernel))) rfl⟩
theorem fl_X9_160 : FLk RX9 160 6 5 (some "GateLifter") := ⟨rfl, rfl, by decide, tyX6_ok, nmX6, ul_X6, gWN_mem (gt_1 (List.mem_of_getElem? (i := 113) (by decide +kernel))) rfl⟩
theorem fl_X8_177 : FLk RX8 177 6 5 (some "GateLifter") := ⟨rfl, rfl, by decide, tyX6_ok, nmX6, ul_X6, gWN_mem (gt_1 (List.mem_of_getElem? (i := 114) (by decide +kernel))) rfl⟩
theorem fl_X6_35 : FLk RX6 35 6 6 none := ⟨rfl, rfl, by decide, tyX6_ok, nmX6, ul_X6, gW0_mem (gt_1 (List.mem_of_getElem? (i := 115) (by decide +kernel))) rfl⟩
theorem fl_X9_175 : FLk RX9 175 6 6 (some "GateLifter") := ⟨rfl, rfl, by decide, tyX6_ok, nmX6, ul_X6, gWN_mem (gt_1 (List.mem_of_getElem? (i := 116) (by decide +kernel))) rfl⟩
theorem fl_X8_150 : FLk RX8 150 6 6 (some "GateLifter") := ⟨rfl, rfl, by decide, tyX6_ok, nmX6, ul_X6, gWN_mem (gt_1 (List.mem_of_getElem? (i := 117) (by decide +kernel))) rfl⟩
theorem fl_X6_38 : FLk RX6 38 6 7 none := ⟨rfl, rfl, by decide, tyX6_ok, nmX6, ul_X6, gW0_mem (gt_1 (List.mem_of_getElem? (i := 118) (by decide +kernel))) rfl⟩
theorem fl_X9_383 : FLk RX9 383 6 7 (some "GateLifter") := ⟨rfl, rfl, by decide, tyX6_ok, nmX6, ul_X6, gWN_mem (gt_1 (List.mem_of_getElem? (i := 119) (by decide +kernel))) rfl⟩
theorem fl_X5_11 : FLk RX5 11 5 0 none := ⟨rfl, rfl, by decide, tyX5_ok, nmX5, ul_X5, gW0_mem (gt_1 (List.mem_of_getElem? (i := 146) (by decide +kernel))) rfl⟩
theorem fl_X5_18 : FLk RX5 18 5 1 none := ⟨rfl, rfl, by decide, tyX5_ok, nmX5, ul_X5, gW0_mem (gt_1 (List.mem_of_getElem? (i := 147) (by decide +kernel))) rfl⟩
theorem fl_X9_157 : FLk RX9 157 5 1 (some "GateLifter") := ⟨rfl, rfl, by decide, tyX5_ok, nmX5, ul_X5, gWN_mem (gt_1 (List.mem_of_getElem? (i := 148) (by decide +kernel))) rfl⟩
theorem fl_X1_9 : FLk RX1 9 1 0 none := ⟨rfl, rfl, by decide, tyX1_ok, nmX1, ul_X1, gW0_mem (gt_1 (List.mem_of_getElem? (i := 160) (by decide +kernel))) rfl⟩
theorem fl_X9_186 : FLk RX9 186 1 0 (some "GateLifter") := ⟨rfl, rfl, by decide, tyX1_ok, nmX1, ul_X1, gWN_mem (gt_1 (List.mem_of_getElem? (i := 161) (by decide +kernel))) rfl⟩
theorem fl_X1_15 : FLk RX1 15 1 1 none := ⟨rfl, rfl, by decide, tyX1_ok, nmX1, ul_X1, gW0_mem (gt_1 (List.mem_of_getElem? (i := 162) (by decide +kernel))) rfl⟩
theorem fl_X9_178 : FLk RX9 178 1 1 (some "GateLifter") := ⟨rfl, rfl, by decide, tyX1_ok, nmX1, ul_X1, gWN_mem (gt_1 (List.mem_of_getElem? (i := 163) (by decide +kernel))) rfl⟩
theorem fl_X8_242 : FLk RX8 242 1 1 (some "GateLifter") := ⟨rfl, rfl, by decide, tyX1_ok, nmX1, ul_X1, gWN_mem (gt_1 (List.mem_of_getElem? (i := 164) (by decide +kernel))) rfl⟩
theorem fl_X1_18 : FLk RX1 18 1 2 none := ⟨rfl, rfl, by decide, tyX1_ok, nmX1, ul_X1, gW0_mem (gt_1 (List.mem_of_getElem? (i := 165) (by decide +kernel))) rfl⟩
theorem fl_X9_202 : FLk RX9 202 1 2 (some "GateLifter") := ⟨rfl, rfl, by decide, tyX1_ok, nmX1, ul_X1, gWN_mem (gt_1 (List.mem_of_getElem? (i := 166) (by decide +kernel))) rfl⟩
theorem fl_X8_245 : FLk RX8 245 1 2 (some "GateLifter") := ⟨rfl, rfl, by decide, tyX1_ok, nmX1, ul_X1, gWN_mem (gt_1 (List.mem_of_getElem? (i := 167) (by decide +kernel))) rfl⟩
theorem fl_X1_21 : FLk RX1 21 1 3 none := ⟨rfl, rfl, by decide, tyX1_ok, nmX1, ul_X1, gW0_mem (gt_1 (List.mem_of_getElem? (i := 168) (by decide +kernel))) rfl⟩
theorem fl_X9_205 : FLk RX9 205 1 3 (some "GateLifter") := ⟨rfl, rfl, by decide, tyX1_ok, nmX1, ul_X1, gWN_mem (gt_1 (List.mem_of_getElem? (i := 169) (by decide +kernel))) rfl⟩
theorem fl_X3_9 : FLk RX3 9 3 0 none := ⟨rfl, rfl, by decide, tyX3_ok, nmX3, ul_X3, gW0_mem (gt_1 (List.mem_of_getElem? (i := 191) (by decide +kernel))) rfl⟩
theorem fl_X8_62 : FLk RX8 62 3 0 (some "GateLifter") := ⟨rfl, rfl, by decide, tyX3_ok, nmX3, ul_X3, gWN_mem (gt_1 (List.mem_of_getElem? (i := 192) (by decide +kernel))) rfl⟩
theorem fl_X3_15 : FLk RX3 15 3 1 none := ⟨rfl, rfl, by decide, tyX3_ok, nmX3, ul_X3, gW0_mem (gt_1 (List.mem_of_getElem? (i := 193) (by decide +kernel))) rfl⟩
theorem fl_X8_115 : FLk RX8 115 3 1 (some "GateLifter") := ⟨rfl, rfl, by decide, tyX3_ok, nmX3, ul_X3, gWN_mem (gt_1 (List.mem_of_getElem? (i := 194) (by decide +kernel))) rfl⟩
theorem fl_X9_236 : FLk RX9 236 3 1 (some "GateLifter") := ⟨rfl, rfl, by decide, tyX3_ok, nmX3, ul_X3, gWN_mem (gt_1 (List.mem_of_getElem? (i := 195) (by decide +kernel))) rfl⟩
theorem fl_X3_18 : FLk RX3 18 3 2 none := ⟨rfl, rfl, by decide, tyX3_ok, nmX3, ul_X3, gW0_mem (gt_1 (List.mem_of_getElem? (i := 196) (by decide +kernel))) rfl⟩
theorem fl_X4_23 : FLk RX4 23 3 2 (some "GateLifter") := ⟨rfl, rfl, by decide, tyX3_ok, nmX3, ul_X3, gWN_mem (gt_1 (List.mem_of_getElem? (i := 197) (by decide +kernel))) rfl⟩
theorem fl_X8_112 : FLk RX8 112 3 2 (some "GateLifter") := ⟨rfl, rfl, by decide, tyX3_ok, nmX3, ul_X3, gWN_mem (gt_1 (List.mem_of_getElem? (i := 198) (by decide +kernel))) rfl⟩
theorem fl_X9_239 : FLk RX9 239 3 2 (some "GateLifter") := ⟨rfl, rfl, by decide, tyX3_ok, nmX3, ul_X3, gWN_mem (gt_1 (List.mem_of_getElem? (i := 199) (by decide +kernel))) rfl⟩
theorem fl_X3_21 : FLk RX3 21 3 3 none := ⟨rfl, rfl, by decide, tyX3_ok, nmX3, ul_X3, gW0_mem (gt_1 (List.mem_of_getElem? (i := 200) (by decide +kernel))) rfl⟩
theorem fl_X1_40 : FLk RX1 40 3 3 (some "GateLifter") := ⟨rfl, rfl, by decide, tyX3_ok, nmX3, ul_X3, gWN_mem (gt_1 (List.mem_of_getElem? (i := 201) (by decide +kernel))) rfl⟩
theorem fl_X8_109 : FLk RX8 109 3 3 (some "GateLifter") := ⟨rfl, rfl, by decide, tyX3_ok, nmX3, ul_X3, gWN_mem (gt_1 (List.mem_of_getElem? (i := 202) (by decide +kernel))) rfl⟩
theorem fl_X9_228 : FLk RX9 228 3 3 (some "GateLifter") := ⟨rfl, rfl, by decide, tyX3_ok, nmX3, ul_X3, gWN_mem (gt_1 (List.mem_of_getElem? (i := 203) (by decide +kernel))) rfl⟩
theorem fl_X3_28 : FLk RX3 28 3 4 none := ⟨rfl, rfl, by decide, tyX3_ok, nmX3, ul_X3, gW0_mem (gt_1 (List.mem_of_getElem? (i := 204) (by decide +kernel))) rfl⟩
theorem fl_X1_27 : FLk RX1 27 3 4 (some "GateLifter") := ⟨rfl, rfl, by decide, tyX3_ok, nmX3, ul_X3, gWN_mem (gt_1 (List.mem_of_getElem? (i := 205) (by decide +kernel))) rfl⟩
theorem fl_X8_106 : FLk RX8 106 3 4 (some "GateLifter") := ⟨rfl, rfl, by decide, tyX3_ok, nmX3, ul_X3, gWN_mem (gt_1 (List.mem_of_getElem? (i := 206) (by decide +kernel))) rfl⟩
theorem fl_X9_392 : FLk RX9 392 3 4 (some "GateLifter") := ⟨rfl, rfl, by decide, tyX3_ok, nmX3, ul_X3, gWN_mem (gt_1 (List.mem_of_getElem? (i := 207) (by decide +kernel))) rfl⟩
theorem fl_X4_9 : FLk RX4 9 4 0 none := ⟨rfl, rfl, by decide, tyX4_ok, nmX4, ul_X4, gW0_mem (gt_1 (List.mem_of_getElem? (i := 225) (by decide +kernel))) rfl⟩
theorem fl_X8_200 : FLk RX8 200 4 0 (some "GateLifter") := ⟨rfl, rfl, by decide, tyX4_ok, nmX4, ul_X4, gWN_mem (gt_1 (List.mem_of_getElem? (i := 226) (by decide +kernel))) rfl⟩
theorem fl_X4_15 : FLk RX4 15 4 1 none := ⟨rfl, rfl, by decide, tyX4_ok, nmX4, ul_X4, gW0_mem (gt_1 (List.mem_of_getElem? (i := 227) (by decide +kernel))) rfl⟩
theorem fl_X8_197 : FLk RX8 197 4 1 (some "GateLifter") := ⟨rfl, rfl, by decide, tyX4_ok, nmX4, ul_X4, gWN_mem (gt_1 (List.mem_of_getElem? (i := 228) (by decide +kernel))) rfl⟩
theorem fl_X2_11 : FLk RX2 11 2 0 none := ⟨rfl, rfl, by decide, tyX2_ok, nmX2, ul_X2, gW0_mem (gt_2 (List.mem_of_getElem? (i := 0) (by decide +kernel))) rfl⟩
theorem fl_X2_15 : FLk RX2 15 2 1 none := ⟨rfl, rfl, by decide, tyX2_ok, nmX2, ul_X2, gW0_mem (gt_2 (List.mem_of_getElem? (i := 1) (by decide +kernel))) rfl⟩
theorem fl_X2_18 : FLk RX2 18 2 2 none := ⟨rfl, rfl, by decide, tyX2_ok, nmX2, ul_X2, gW0_mem (gt_2 (List.mem_of_getElem? (i := 2) (by decide +kernel))) rfl⟩
theorem fl_X8_58 : FLk RX8 58 8 0 none := ⟨rfl, rfl, by decide, tyX8_ok, nmX8, ul_X8, gW0_mem (gt_2 (List.mem_of_getElem? (i := 12) (by decide +kernel))) rfl⟩
theorem fl_X8_12 : FLk RX8 12 8 1 none := ⟨rfl, rfl, by decide, tyX8_ok, nmX8, ul_X8, gW0_mem (gt_2 (List.mem_of_getElem? (i := 13) (by decide +kernel))) rfl⟩
theorem fl_X8_18 : FLk RX8 18 8 2 none := ⟨rfl, rfl, by decide, tyX8_ok, nmX8, ul_X8, gW0_mem (gt_2 (List.mem_of_getElem? (i := 14) (by decide +kernel))) rfl⟩
theorem fl_X8_22 : FLk RX8 22 8 3 none := ⟨rfl, rfl, by decide, tyX8_ok, nmX8, ul_X8, gW0_mem (gt_2 (List.mem_of_getElem? (i := 15) (by decide +kernel))) rfl⟩
theorem fl_X8_25 : FLk RX8 25 8 4 none := ⟨rfl, rfl, by decide, tyX8_ok, nmX8, ul_X8, gW0_mem (gt_2 (List.mem_of_getElem? (i := 16) (by decide +kernel))) rfl⟩
theorem fl_X8_28 : FLk RX8 28 8 5 none := ⟨rfl, rfl, by decide, tyX8_ok, nmX8, ul_X8, gW0_mem (gt_2 (List.mem_of_getElem? (i := 17) (by decide +kernel))) rfl⟩
theorem fl_X9_364 : FLk RX9 364 8 5 (some "GateLifter") := ⟨rfl, rfl, by decide, tyX8_ok, nmX8, ul_X8, gWN_mem (gt_2 (List.mem_of_getElem? (i := 18) (by decide +kernel))) rfl⟩
theorem fl_X8_34 : FLk RX8 34 8 6 none := ⟨rfl, rfl, by decide, tyX8_ok, nmX8, ul_X8, gW0_mem (gt_2 (List.mem_of_getElem? (i := 19) (by decide +kernel))) rfl⟩
theorem fl_X8_41 : FLk RX8 41 8 7 none := ⟨rfl, rfl, by decide, tyX8_ok, nmX8, ul_X8, gW0_mem (gt_2 (List.mem_of_getElem? (i := 20) (by decide +kernel))) rfl⟩
theorem fl_X8_48 : FLk RX8 48 8 8 none := ⟨rfl, rfl, by decide, tyX8_ok, nmX8, ul_X8, gW0_mem (gt_2 (List.mem_of_getElem? (i := 21) (by decide +kernel))) rfl⟩
theorem fl_X8_52 : FLk RX8 52 8 9 none := ⟨rfl, rfl, by decide, tyX8_ok, nmX8, ul_X8, gW0_mem (gt_2 (List.mem_of_getElem? (i := 22) (by decide +kernel))) rfl⟩
theorem fl_X9_224 : FLk RX9 224 8 9 (some "GateLifter") := ⟨rfl, rfl, by decide, tyX8_ok, nmX8, ul_X8, gWN_mem (gt_2 (List.mem_of_getElem? (i := 23) (by decide +kernel))) rfl⟩
theorem fl_X8_55 : FLk RX8 55 8 10 none := ⟨rfl, rfl, by decide, tyX8_ok, nmX8, ul_X8, gW0_mem (gt_2 (List.mem_of_getElem? (i := 24) (by decide +kernel))) rfl⟩
theorem fl_X9_14 : FLk RX9 14 9 0 none := ⟨rfl, rfl, by decide, tyX9_ok, nmX9, ul_X9, gW0_mem (gt_2 (List.mem_of_getElem? (i := 137) (by decide +kernel))) rfl⟩
theorem fl_X9_18 : FLk RX9 18 9 1 none := ⟨rfl, rfl, by decide, tyX9_ok, nmX9, ul_X9, gW0_mem (gt_2 (List.mem_of_getElem? (i := 138) (by decide +kernel))) rfl⟩
theorem fl_X9_26 : FLk RX9 26 9 2 none := ⟨rfl, rfl, by decide, tyX9_ok, nmX9, ul_X9, gW0_mem (gt_2 (List.mem_of_getElem? (i := 139) (by decide +kernel))) rfl⟩
theorem fl_X9_33 : FLk RX9 33 9 3 none := ⟨rfl, rfl, by decide, tyX9_ok, nmX9, ul_X9, gW0_mem (gt_2 (List.mem_of_getElem? (i := 140) (by decide +kernel))) rfl⟩
theorem fl_X9_37 : FLk RX9 37 9 4 none := ⟨rfl, rfl, by decide, tyX9_ok, nmX9, ul_X9, gW0_mem (gt_2 (List.mem_of_getElem? (i := 141) (by decide +kernel))) rfl⟩
theorem fl_X9_40 : FLk RX9 40 9 5 none := ⟨rfl, rfl, by decide, tyX9_ok, nmX9, ul_X9, gW0_mem (gt_2 (List.mem_of_getElem? (i := 142) (by decide +kernel))) rfl⟩
theorem fl_X9_46 : FLk RX9 46 9 6 none := ⟨rfl, rfl, by decide, tyX9_ok, nmX9, ul_X9, gW0_mem (gt_2 (List.mem_of_getElem? (i := 143) (by decide +kernel))) rfl⟩
theorem fl_X9_62 : FLk RX9 62 9 7 none := ⟨rfl, rfl, by decide, tyX9_ok, nmX9, ul_X9, gW0_mem (gt_2 (List.mem_of_getElem? (i := 144) (by decide +kernel))) rfl⟩
theorem fl_X9_53 : FLk RX9 53 9 8 none := ⟨rfl, rfl, by decide, tyX9_ok, nmX9, ul_X9, gW0_mem (gt_2 (List.mem_of_getElem? (i := 145) (by decide +kernel))) rfl⟩
theorem fl_X9_376 : FLk RX9 376 9 9 none := ⟨rfl, rfl, by decide, tyX9_ok, nmX9, ul_X9, gW0_mem (gt_2 (List.mem_of_getElem? (i := 146) (by decide +kernel))) rfl⟩
theorem fl_X9_73 : FLk RX9 73 9 10 none := ⟨rfl, rfl, by decide, tyX9_ok, nmX9, ul_X9, gW0_mem (gt_2 (List.mem_of_getElem? (i := 147) (by decide +kernel))) rfl⟩
theorem fl_X9_77 : FLk RX9 77 9 11 none := ⟨rfl, rfl, by decide, tyX9_ok, nmX9, ul_X9, gW0_mem (gt_2 (List.mem_of_getElem? (i := 148) (by decide +kernel))) rfl⟩
theorem fl_X10_1 : FLk RX10 1 10 0 none := ⟨rfl, rfl, by decide, tyX10_ok, nmX10, ul_X10, gW0_mem (gt_6 (List.mem_of_getElem? (i := 39) (by decide +kernel))) rfl⟩
theorem fl_X10_13 : FLk RX10 13 10 1 none := ⟨rfl, rfl, by decide, tyX10_ok, nmX10, ul_X10, gW0_mem (gt_6 (List.mem_of_getElem? (i := 40) (by decide +kernel))) rfl⟩
theorem fl_X10_17 : FLk RX10 17 10 2 none := ⟨rfl, rfl, by decide, tyX10_ok, nmX10, ul_X10, gW0_mem (gt_6 (List.mem_of_getElem? (i := 41) (by decide +kernel))) rfl⟩
theorem fl_X10_20 : FLk RX10 20 10 3 none := ⟨rfl, rfl, by decide, tyX10_ok, nmX10, ul_X10, gW0_mem (gt_6 (List.mem_of_getElem? (i := 42) (by decide +kernel))) rfl⟩
theorem fl_X10_23 : FLk RX10 23 10 4 none := ⟨rfl, rfl, by decide, tyX10_ok, nmX10, ul_X10, gW0_mem (gt_6 (List.mem_of_getElem? (i := 43) (by decide +kernel))) rfl⟩
theorem fl_X10_144 : FLk RX10 144 10 5 none := ⟨rfl, rfl, by decide, tyX10_ok, nmX10, ul_X10, gW0_mem (gt_6 (List.mem_of_getElem? (i := 44) (by decide +kernel))) rfl⟩
theorem fl_X10_154 : FLk RX10 154 10 6 none := ⟨rfl, rfl, by decide, tyX10_ok, nmX10, ul_X10, gW0_mem (gt_6 (List.mem_of_getElem? (i := 45) (by decide +kernel))) rfl⟩
theorem fl_X10_167 : FLk RX10 167 10 7 none := ⟨rfl, rfl, by decide, tyX10_ok, nmX10, ul_X10, gW0_mem (gt_6 (List.mem_of_getElem? (i := 46) (by decide +kernel))) rfl⟩
theorem fl_X10_26 : FLk RX10 26 10 8 none := ⟨rfl, rfl, by decide, tyX10_ok, nmX10, ul_X10, gW0_mem (gt_6 (List.mem_of_getElem? (i := 47) (by decide +kernel))) rfl⟩
theorem fl_X10_106 : FLk RX10 106 10 9 none := ⟨rfl, rfl, by decide, tyX10_ok, nmX10, ul_X10, gW0_mem (gt_6 (List.mem_of_getElem? (i := 48) (by decide +kernel))) rfl⟩
theorem fl_X10_29 : FLk RX10 29 10 10 none := ⟨rfl, rfl, by decide, tyX10_ok, nmX10, ul_X10, gW0_mem (gt_6 (List.mem_of_getElem? (i := 49) (by decide +kernel))) rfl⟩
theorem fl_X10_120 : FLk RX10 120 10 11 none := ⟨rfl, rfl, by decide, tyX10_ok, nmX10, ul_X10, gW0_mem (gt_6 (List.mem_of_getElem? (i := 50) (by decide +kernel))) rfl⟩
theorem fl_X10_32 : FLk RX10 32 10 12 none := ⟨rfl, rfl, by decide, tyX10_ok, nmX10, ul_X10, gW0_mem (gt_6 (List.mem_of_getElem? (i := 51) (by decide +kernel))) rfl⟩
theorem fl_X10_35 : FLk RX10 35 10 13 none := ⟨rfl, rfl, by decide, tyX10_ok, nmX10, ul_X10, gW0_mem (gt_6 (List.mem_of_getElem? (i := 52) (by decide +kernel))) rfl⟩
theorem fl_X10_38 : FLk RX10 38 10 14 none := ⟨rfl, rfl, by decide, tyX10_ok, nmX10, ul_X10, gW0_mem (gt_6 (List.mem_of_getElem? (i := 53) (by decide +kernel))) rfl⟩
theorem fl_X10_129 : FLk RX10 129 10 15 none := ⟨rfl, rfl, by decide, tyX10_ok, nmX10, ul_X10, gW0_mem (gt_6 (List.mem_of_getElem? (i := 54) (by decide +kernel))) rfl⟩
theorem fl_X10_132 : FLk RX10 132 10 16 none := ⟨rfl, rfl, by decide, tyX10_ok, nmX10, ul_X10, gW0_mem (gt_6 (List.mem_of_getElem? (i := 55) (by decide +kernel))) rfl⟩
theorem fl_X10_135 : FLk RX10 135 10 17 none := ⟨rfl, rfl, by decide, tyX10_ok, nmX10, ul_X10, gW0_mem (gt_6 (List.mem_of_getElem? (i := 56) (by decide +kernel))) rfl⟩
theorem fl_X10_138 : FLk RX10 138 10 18 none := ⟨rfl, rfl, by decide, tyX10_ok, nmX10, ul_X10, gW0_mem (gt_6 (List.mem_of_getElem? (i := 57) (by decide +kernel))) rfl⟩
theorem fl_X10_141 : FLk RX10 141 10 19 none := ⟨rfl, rfl, by decide, tyX10_ok, nmX10, ul_X10, gW0_mem (gt_6 (List.mem_of_getElem? (i := 58) (by decide +kernel))) rfl⟩
theorem fl_X10_41 : FLk RX10 41 10 20 none := ⟨rfl, rfl, by decide, tyX10_ok, nmX10, ul_X10, gW0_mem (gt_6 (List.mem_of_getElem? (i := 59) (by decide +kernel))) rfl⟩
theorem fl_X10_44 : FLk RX10 44 10 21 none := ⟨rfl, rfl, by decide, tyX10_ok, nmX10, ul_X10, gW0_mem (gt_6 (List.mem_of_getElem? (i := 60) (by decide +kernel))) rfl⟩
theorem fl_X10_47 : FLk RX10 47 10 22 none := ⟨rfl, rfl, by decide, tyX10_ok, nmX10, ul_X10, gW0_mem (gt_6 (List.mem_of_getElem? (i := 61) (by decide +kernel))) rfl⟩
theorem fl_X10_198 : FLk RX10 198 10 23 none := ⟨rfl, rfl, by decide, tyX10_ok, nmX10, ul_X10, gW0_mem (gt_6 (List.mem_of_getElem? (i := 62) (by decide +kernel))) rfl⟩
theorem fl_X10_201 : FLk RX10 201 10 24 none := ⟨rfl, rfl, by decide, tyX10_ok, nmX10, ul_X10, gW0_mem (gt_6 (List.mem_of_getElem? (i := 63) (by decide +kernel))) rfl⟩
theorem fl_X10_204 : FLk RX10 204 10 25 none := ⟨rfl, rfl, by decide, tyX10_ok, nmX10, ul_X10, gW0_mem (gt_6 (List.mem_of_getElem? (i := 64) (by decide +kernel))) rfl⟩
theorem fl_X10_210 : FLk RX10 210 10 26 none := ⟨rfl, rfl, by decide, tyX10_ok, nmX10, ul_X10, gW0_mem (gt_6 (List.mem_of_getElem? (i := 65) (by decide +kernel))) rfl⟩
theorem fl_X10_51 : FLk RX10 51 10 27 none := ⟨rfl, rfl, by decide, tyX10_ok, nmX10, ul_X10, gW0_mem (gt_6 (List.mem_of_getElem? (i := 66) (by decide +kernel))) rfl⟩
theorem fl_X10_235 : FLk RX10 235 10 28 none := ⟨rfl, rfl, by decide, tyX10_ok, nmX10, ul_X10, gW0_mem (gt_6 (List.mem_of_getElem? (i := 67) (by decide +kernel))) rfl⟩
theorem fl_X10_54 : FLk RX10 54 10 29 none := ⟨rfl, rfl, by decide, tyX10_ok, nmX10, ul_X10, gW0_mem (gt_6 (List.mem_of_getElem? (i := 68) (by decide +kernel))) rfl⟩
theorem fl_X10_57 : FLk RX10 57 10 30 none := ⟨rfl, rfl, by decide, tyX10_ok, nmX10, ul_X10, gW0_mem (gt_6 (List.mem_of_getElem? (i := 69) (by decide +kernel))) rfl⟩
theorem fl_X10_267 : FLk RX10 267 10 31 none := ⟨rfl, rfl, by decide, tyX10_ok, nmX10, ul_X10, gW0_mem (gt_6 (List.mem_of_getElem? (i := 70) (by decide +kernel))) rfl⟩
theorem fl_X10_60 : FLk RX10 60 10 32 none := ⟨rfl, rfl, by decide, tyX10_ok, nmX10, ul_X10, gW0_mem (gt_6 (List.mem_of_getElem? (i := 71) (by decide +kernel))) rfl⟩
theorem fl_X10_63 : FLk RX10 63 10 33 none := ⟨rfl, rfl, by decide, tyX10_ok, nmX10, ul_X10, gW0_mem (gt_6 (List.mem_of_getElem? (i := 72) (by decide +kernel))) rfl⟩
theorem fl_X10_66 : FLk RX10 66 10 34 none := ⟨rfl, rfl, by decide, tyX10_ok, nmX10, ul_X10, gW0_mem (gt_6 (List.mem_of_getElem? (i := 73) (by decide +kernel))) rfl⟩
theorem fl_X10_69 : FLk RX10 69 10 35 none := ⟨rfl, rfl, by decide, tyX10_ok, nmX10, ul_X10, gW0_mem (gt_6 (List.mem_of_getElem? (i := 74) (by decide +kernel))) rfl⟩
theorem fl_X10_366 : FLk RX10 366 10 36 none := ⟨rfl, rfl, by decide, tyX10_ok, nmX10, ul_X10, gW0_mem (gt_6 (List.mem_of_getElem? (i := 75) (by decide +kernel))) rfl⟩
theorem fl_X10_369 : FLk RX10 369 10 37 none := ⟨rfl, rfl, by decide, tyX10_ok, nmX10, ul_X10, gW0_mem (gt_6 (List.mem_of_getElem? (i := 76) (by decide +kernel))) rfl⟩
theorem fl_X10_372 : FLk RX10 372 10 38 none := ⟨rfl, rfl, by decide, tyX10_ok, nmX10, ul_X10, gW0_mem (gt_6 (List.mem_of_getElem? (i := 77) (by decide +kernel))) rfl⟩
theorem fl_X10_375 : FLk RX10 375 10 39 none := ⟨rfl, rfl, by decide, tyX10_ok, nmX10, ul_X10, gW0_mem (gt_6 (List.mem_of_getElem? (i := 78) (by decide +kernel))) rfl⟩
theorem fl_X10_73 : FLk RX10 73 10 40 none := ⟨rfl, rfl, by decide, tyX10_ok, nmX10, ul_X10, gW0_mem (gt_6 (List.mem_of_getElem? (i := 79) (by decide +kernel))) rfl⟩
theorem fl_X10_385 : FLk RX10 385 10 41 none := ⟨rfl, rfl, by decide, tyX10_ok, nmX10, ul_X10, gW0_mem (gt_6 (List.mem_of_getElem? (i := 80) (by decide +kernel))) rfl⟩
theorem in_X9 : Cond.instantiable RX9 12 ∈ gW0 := gW0_mem (gt_1 (List.mem_of_getElem? (i := 29) (by decide +kernel))) rfl
theorem ini_X9 : Cond.initialized RX9 ∈ gW0 := gW0_mem (gt_1 (List.mem_of_getElem? (i := 1) (by decide +kernel))) rfl
theorem cl_X9_7 : Cond.classLink RX9 7 RX0 ∈ gW0 := gW0_mem (gt_1 (List.mem_of_getElem? (i := 36) (by decide +kernel))) rfl
theorem in_X0 : Cond.instantiable RX0 2 ∈ gW0 := gW0_mem (gt_1 (List.mem_of_getElem? (i := 37) (by decide +kernel))) rfl
theorem ini_X0 : Cond.initialized RX0 ∈ gW0 := gW0_mem (gt_1 (List.mem_of_getElem? (i := 2) (by decide +kernel))) rfl
theorem ac_int : Cond.arrayClass .int ∈ gW0 := gW0_mem (gt_1 (List.mem_of_getElem? (i := 54) (by decide +kernel))) rfl
theorem cl_X9_21 : Cond.classLink RX9 21 RX7 ∈ gW0 := gW0_mem (gt_1 (List.mem_of_getElem? (i := 55) (by decide +kernel))) rfl
theorem in_X7 : Cond.instantiable RX7 6 ∈ gW0 := gW0_mem (gt_1 (List.mem_of_getElem? (i := 56) (by decide +kernel))) rfl
theorem ini_X7 : Cond.initialized RX7 ∈ gW0 := gW0_mem (gt_1 (List.mem_of_getElem? (i := 4) (by decide +kernel))) rfl
theorem cl_X9_30 : Cond.classLink RX9 30 RX6 ∈ gW0 := gW0_mem (gt_1 (List.mem_of_getElem? (i := 84) (by decide +kernel))) rfl
theorem in_X6 : Cond.instantiable RX6 8 ∈ gW0 := gW0_mem (gt_1 (List.mem_of_getElem? (i := 85) (by decide +kernel))) rfl
theorem ini_X6 : Cond.initialized RX6 ∈ gW0 := gW0_mem (gt_1 (List.mem_of_getElem? (i := 5) (by decide +kernel))) rfl
theorem cl_X9_43 : Cond.classLink RX9 43 RX5 ∈ gW0 := gW0_mem (gt_1 (List.mem_of_getElem? (i := 137) (by decide +kernel))) rfl
theorem in_X5 : Cond.instantiable RX5 2 ∈ gW0 := gW0_mem (gt_1 (List.mem_of_getElem? (i := 138) (by decide +kernel))) rfl
theorem ini_X5 : Cond.initialized RX5 ∈ gW0 := gW0_mem (gt_1 (List.mem_of_getElem? (i := 7) (by decide +kernel))) rfl
theorem cl_X5_9 : Cond.classLink RX5 9 RX6 ∈ gW0 := gW0_mem (gt_1 (List.mem_of_getElem? (i := 143) (by decide +kernel))) rfl
theorem cl_X9_50 : Cond.classLink RX9 50 RX1 ∈ gW0 := gW0_mem (gt_1 (List.mem_of_getElem? (i := 154) (by decide +kernel))) rfl
theorem in_X1 : Cond.instantiable RX1 4 ∈ gW0 := gW0_mem (gt_1 (List.mem_of_getElem? (i := 155) (by decide +kernel))) rfl
theorem ini_X1 : Cond.initialized RX1 ∈ gW0 := gW0_mem (gt_1 (List.mem_of_getElem? (i := 8) (by decide +kernel))) rfl
theorem cl_X9_57 : Cond.classLink RX9 57 RX8 ∈ gW0 := gW0_mem (gt_1 (List.mem_of_getElem? (i := 179) (by decide +kernel))) rfl
theorem in_X8 : Cond.instantiable RX8 11 ∈ gW0 := gW0_mem (gt_1 (List.mem_of_getElem? (i := 180) (by decide +kernel))) rfl
theorem ini_X8 : Cond.initialized RX8 ∈ gW0 := gW0_mem (gt_1 (List.mem_of_getElem? (i := 9) (by decide +kernel))) rfl
theorem cl_X8_9 : Cond.classLink RX8 9 RX3 ∈ gW0 := gW0_mem (gt_1 (List.mem_of_getElem? (i := 185) (by decide +kernel))) rfl
theorem in_X3 : Cond.instantiable RX3 5 ∈ gW0 := gW0_mem (gt_1 (List.mem_of_getElem? (i := 186) (by decide +kernel))) rfl
theorem ini_X3 : Cond.initialized RX3 ∈ gW0 := gW0_mem (gt_1 (List.mem_of_getElem? (i := 10) (by decide +kernel))) rfl
theorem cl_X8_31 : Cond.classLink RX8 31 RX4 ∈ gW0 := gW0_mem (gt_1 (List.mem_of_getElem? (i := 219) (by decide +kernel))) rfl
theorem in_X4 : Cond.instantiable RX4 2 ∈ gW0 := gW0_mem (gt_1 (List.mem_of_getElem? (i := 220) (by decide +kernel))) rfl
theorem ini_X4 : Cond.initialized RX4 ∈ gW0 := gW0_mem (gt_1 (List.mem_of_getElem? (i := 11) (by decide +kernel))) rfl
theorem cl_X8_38 : Cond.classLink RX8 38 RX2 ∈ gW0 := gW0_mem (gt_1 (List.mem_of_getElem? (i := 234) (by decide +kernel))) rfl
theorem in_X2 : Cond.instantiable RX2 3 ∈ gW0 := gW0_mem (gt_1 (List.mem_of_getElem? (i := 235) (by decide +kernel))) rfl
theorem ini_X2 : Cond.initialized RX2 ∈ gW0 := gW0_mem (gt_1 (List.mem_of_getElem? (i := 12) (by decide +kernel))) rfl
theorem cl_X8_45 : Cond.classLink RX8 45 RX1 ∈ gW0 := gW0_mem (gt_2 (List.mem_of_getElem? (i := 10) (by decide +kernel))) rfl
theorem kc_J6_265 : Cond.constant RJ6 265 (1431655765) ∈ gW0 := gW0_mem (gt_2 (List.mem_of_getElem? (i := 87) (by decide +kernel))) rfl
theorem kc_J6_266 : Cond.constant RJ6 266 (858993459) ∈ gW0 := gW0_mem (gt_2 (List.mem_of_getElem? (i := 88) (by decide +kernel))) rfl
theorem kc_J6_267 : Cond.constant RJ6 267 (252645135) ∈ gW0 := gW0_mem (gt_2 (List.mem_of_getElem? (i := 89) (by decide +kernel))) rfl
theorem kc_J13_314 : Cond.constantLong RJ13 314 (6148914691236517205) ∈ gW0 := gW0_mem (gt_3 (List.mem_of_getElem? (i := 27) (by decide +kernel))) rfl
theorem kc_J13_316 : Cond.constantLong RJ13 316 (3689348814741910323) ∈ gW0 := gW0_mem (gt_3 (List.mem_of_getElem? (i := 28) (by decide +kernel))) rfl
theorem kc_J13_318 : Cond.constantLong RJ13 318 (1085102592571150095) ∈ gW0 := gW0_mem (gt_3 (List.mem_of_getElem? (i := 29) (by decide +kernel))) rfl
theorem kc_X6_81 : Cond.constantLong RX6 81 (-1) ∈ gW0 := gW0_mem (gt_4 (List.mem_of_getElem? (i := 37) (by decide +kernel))) rfl
theorem ac_byte : Cond.arrayClass .byte ∈ gW0 := gW0_mem (gt_4 (List.mem_of_getElem? (i := 108) (by decide +kernel))) rfl
theorem in_X10 : Cond.instantiable RX10 42 ∈ gW0 := gW0_mem (gt_6 (List.mem_of_getElem? (i := 30) (by decide +kernel))) rfl
theorem ini_X10 : Cond.initialized RX10 ∈ gW0 := gW0_mem (gt_1 (List.mem_of_getElem? (i := 14) (by decide +kernel))) rfl
theorem ac_boolean : Cond.arrayClass .boolean ∈ gW0 := gW0_mem (gt_6 (List.mem_of_getElem? (i := 166) (by decide +kernel))) rfl
theorem ac_long : Cond.arrayClass .long ∈ gW0 := gW0_mem (gt_8 (List.mem_of_getElem? (i := 161) (by decide +kernel))) rfl
theorem sMath_max : Cond.static Lib.Math.max.name ∈ gW0 := gW0_mem (gt_1 (List.mem_of_getElem? (i := 43) (by decide +kernel))) rfl
theorem oMath_max : Cond.code Lib.Math.max.name Lib.Math.max.code 2 (some .int) ∈ gW0 := gW0_mem (gt_1 (List.mem_of_getElem? (i := 44) (by decide +kernel))) rfl
theorem lkm_X0_9 : Cond.methodLink RX0 9 Lib.Math.max.name ∈ gW0 := gW0_mem (gt_1 (List.mem_of_getElem? (i := 42) (by decide +kernel))) rfl
theorem lkm_X3_69 : Cond.methodLink RX3 69 Lib.Math.max.name ∈ gW0 := gW0_mem (gt_3 (List.mem_of_getElem? (i := 35) (by decide +kernel))) rfl
theorem lkm_X8_206 : Cond.methodLink RX8 206 Lib.Math.max.name ∈ gW0 := gW0_mem (gt_3 (List.mem_of_getElem? (i := 95) (by decide +kernel))) rfl
theorem lkm_X10_391 : Cond.methodLink RX10 391 Lib.Math.max.name ∈ gW0 := gW0_mem (gt_8 (List.mem_of_getElem? (i := 120) (by decide +kernel))) rfl
theorem sMath_min : Cond.static Lib.Math.min.name ∈ gW0 := gW0_mem (gt_3 (List.mem_of_getElem? (i := 7) (by decide +kernel))) rfl
theorem oMath_min : Cond.code Lib.Math.min.name Lib.Math.min.code 2 (some .int) ∈ gW0 := gW0_mem (gt_3 (List.mem_of_getElem? (i := 8) (by decide +kernel))) rfl
theorem lkm_X9_431 : Cond.methodLink RX9 431 Lib.Math.min.name ∈ gW0 := gW0_mem (gt_3 (List.mem_of_getElem? (i := 6) (by decide +kernel))) rfl
theorem iMath : Cond.initialized "java/lang/Math" ∈ gW0 := gW0_mem (gt_1 (List.mem_of_getElem? (i := 3) (by decide +kernel))) rfl
