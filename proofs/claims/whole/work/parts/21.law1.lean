def qL_acts : gWI := (yL_acts, cL_acts, 3, (some .int), [(0, 8, 11, 13)], 2)
theorem oL_acts : gWOk qL_acts := ⟨by decide +kernel, ⟨by decide +kernel, by decide +kernel, by decide +kernel⟩, gW0_mem (gt_3 (List.mem_of_getElem? (i := 133) (by decide +kernel))) rfl, gW0_mem (gt_1 (List.mem_of_getElem? (i := 0) (by decide +kernel))) rfl, by decide⟩
theorem sL_acts : Cond.static qL_acts.1 ∈ gW0 := gW0_mem (gt_3 (List.mem_of_getElem? (i := 132) (by decide +kernel))) rfl
def qL_net : gWI := (yL_net, cL_net, 3, (some .int), [(0, 5, 8, 13)], 2)
theorem oL_net : gWOk qL_net := ⟨by decide +kernel, ⟨by decide +kernel, by decide +kernel, by decide +kernel⟩, gW0_mem (gt_4 (List.mem_of_getElem? (i := 111) (by decide +kernel))) rfl, gW0_mem (gt_1 (List.mem_of_getElem? (i := 0) (by decide +kernel))) rfl, by decide⟩
theorem sL_net : Cond.static qL_net.1 ∈ gW0 := gW0_mem (gt_4 (List.mem_of_getElem? (i := 110) (by decide +kernel))) rfl
def qL_tell : gWI := (yL_tell, cL_tell, 5, (some .int), [(0, 10, 13, 23)], 4)
theorem oL_tell : gWOk qL_tell := ⟨by decide +kernel, ⟨by decide +kernel, by decide +kernel, by decide +kernel⟩, gW0_mem (gt_4 (List.mem_of_getElem? (i := 120) (by decide +kernel))) rfl, gW0_mem (gt_1 (List.mem_of_getElem? (i := 0) (by decide +kernel))) rfl, by decide⟩
theorem sL_tell : Cond.static qL_tell.1 ∈ gW0 := gW0_mem (gt_4 (List.mem_of_getElem? (i := 119) (by decide +kernel))) rfl
def qL_lay : gWI := (yL_lay, cL_lay, 5, (some .int), [(0, 10, 13, 23)], 4)
theorem oL_lay : gWOk qL_lay := ⟨by decide +kernel, ⟨by decide +kernel, by decide +kernel, by decide +kernel⟩, gW0_mem (gt_4 (List.mem_of_getElem? (i := 157) (by decide +kernel))) rfl, gW0_mem (gt_1 (List.mem_of_getElem? (i := 0) (by decide +kernel))) rfl, by decide⟩
theorem sL_lay : Cond.static qL_lay.1 ∈ gW0 := gW0_mem (gt_4 (List.mem_of_getElem? (i := 156) (by decide +kernel))) rfl
def qL_shut : gWI := (yL_shut, cL_shut, 4, (some .int), [(0, 9, 12, 23)], 3)
theorem oL_shut : gWOk qL_shut := ⟨by decide +kernel, ⟨by decide +kernel, by decide +kernel, by decide +kernel⟩, gW0_mem (gt_4 (List.mem_of_getElem? (i := 164) (by decide +kernel))) rfl, gW0_mem (gt_1 (List.mem_of_getElem? (i := 0) (by decide +kernel))) rfl, by decide⟩
theorem sL_shut : Cond.static qL_shut.1 ∈ gW0 := gW0_mem (gt_4 (List.mem_of_getElem? (i := 163) (by decide +kernel))) rfl
def qL_open : gWI := (yL_open, cL_open, 4, (some .int), [(0, 9, 12, 23)], 3)
theorem oL_open : gWOk qL_open := ⟨by decide +kernel, ⟨by decide +kernel, by decide +kernel, by decide +kernel⟩, gW0_mem (gt_4 (List.mem_of_getElem? (i := 171) (by decide +kernel))) rfl, gW0_mem (gt_1 (List.mem_of_getElem? (i := 0) (by decide +kernel))) rfl, by decide⟩
theorem sL_open : Cond.static qL_open.1 ∈ gW0 := gW0_mem (gt_4 (List.mem_of_getElem? (i := 170) (by decide +kernel))) rfl
def qL_toll : gWI := (yL_toll, cL_toll, 5, (some .int), [(0, 10, 13, 13), (0, 10, 17, 23)], 4)
theorem oL_toll : gWOk qL_toll := ⟨by decide +kernel, ⟨by decide +kernel, by decide +kernel, by decide +kernel⟩, gW0_mem (gt_4 (List.mem_of_getElem? (i := 178) (by decide +kernel))) rfl, gW0_mem (gt_1 (List.mem_of_getElem? (i := 0) (by decide +kernel))) rfl, by decide⟩
theorem sL_toll : Cond.static qL_toll.1 ∈ gW0 := gW0_mem (gt_4 (List.mem_of_getElem? (i := 177) (by decide +kernel))) rfl
def qL_undo : gWI := (yL_undo, cL_undo, 3, (some .int), [(0, 8, 11, 23)], 2)
theorem oL_undo : gWOk qL_undo := ⟨by decide +kernel, ⟨by decide +kernel, by decide +kernel, by decide +kernel⟩, gW0_mem (gt_4 (List.mem_of_getElem? (i := 186) (by decide +kernel))) rfl, gW0_mem (gt_1 (List.mem_of_getElem? (i := 0) (by decide +kernel))) rfl, by decide⟩
theorem sL_undo : Cond.static qL_undo.1 ∈ gW0 := gW0_mem (gt_4 (List.mem_of_getElem? (i := 185) (by decide +kernel))) rfl
def qL_latest : gWI := (yL_latest, cL_latest, 4, (some .int), [(0, 9, 12, 45)], 3)
theorem oL_latest : gWOk qL_latest := ⟨by decide +kernel, ⟨by decide +kernel, by decide +kernel, by decide +kernel⟩, gW0_mem (gt_4 (List.mem_of_getElem? (i := 198) (by decide +kernel))) rfl, gW0_mem (gt_1 (List.mem_of_getElem? (i := 0) (by decide +kernel))) rfl, by decide⟩
theorem sL_latest : Cond.static qL_latest.1 ∈ gW0 := gW0_mem (gt_4 (List.mem_of_getElem? (i := 197) (by decide +kernel))) rfl
def qL_node : gWI := (yL_node, cL_node, 5, (some .int), [(0, 10, 13, 50), (0, 10, 17, 45)], 4)
theorem oL_node : gWOk qL_node := ⟨by decide +kernel, ⟨by decide +kernel, by decide +kernel, by decide +kernel⟩, gW0_mem (gt_4 (List.mem_of_getElem? (i := 222) (by decide +kernel))) rfl, gW0_mem (gt_1 (List.mem_of_getElem? (i := 0) (by decide +kernel))) rfl, by decide⟩
theorem sL_node : Cond.static qL_node.1 ∈ gW0 := gW0_mem (gt_4 (List.mem_of_getElem? (i := 221) (by decide +kernel))) rfl
def qL_keeps : gWI := (yL_keeps, cL_keeps, 5, (some .int), [(0, 17, 20, 50)], 4)
theorem oL_keeps : gWOk qL_keeps := ⟨by decide +kernel, ⟨by decide +kernel, by decide +kernel, by decide +kernel⟩, gW0_mem (gt_5 (List.mem_of_getElem? (i := 119) (by decide +kernel))) rfl, gW0_mem (gt_1 (List.mem_of_getElem? (i := 0) (by decide +kernel))) rfl, by decide⟩
theorem sL_keeps : Cond.static qL_keeps.1 ∈ gW0 := gW0_mem (gt_5 (List.mem_of_getElem? (i := 118) (by decide +kernel))) rfl
def qL_common : gWI := (yL_common, cL_common, 5, (some .int), [(0, 10, 13, 50)], 4)
theorem oL_common : gWOk qL_common := ⟨by decide +kernel, ⟨by decide +kernel, by decide +kernel, by decide +kernel⟩, gW0_mem (gt_5 (List.mem_of_getElem? (i := 127) (by decide +kernel))) rfl, gW0_mem (gt_1 (List.mem_of_getElem? (i := 0) (by decide +kernel))) rfl, by decide⟩
theorem sL_common : Cond.static qL_common.1 ∈ gW0 := gW0_mem (gt_5 (List.mem_of_getElem? (i := 126) (by decide +kernel))) rfl
def qL_arc : gWI := (yL_arc, cL_arc, 5, (some .int), [(0, 10, 13, 50), (0, 10, 17, 45)], 4)
theorem oL_arc : gWOk qL_arc := ⟨by decide +kernel, ⟨by decide +kernel, by decide +kernel, by decide +kernel⟩, gW0_mem (gt_5 (List.mem_of_getElem? (i := 136) (by decide +kernel))) rfl, gW0_mem (gt_1 (List.mem_of_getElem? (i := 0) (by decide +kernel))) rfl, by decide⟩
theorem sL_arc : Cond.static qL_arc.1 ∈ gW0 := gW0_mem (gt_5 (List.mem_of_getElem? (i := 135) (by decide +kernel))) rfl
def qL_without : gWI := (yL_without, cL_without, 4, (some .int), [(0, 9, 12, 50)], 3)
theorem oL_without : gWOk qL_without := ⟨by decide +kernel, ⟨by decide +kernel, by decide +kernel, by decide +kernel⟩, gW0_mem (gt_5 (List.mem_of_getElem? (i := 148) (by decide +kernel))) rfl, gW0_mem (gt_1 (List.mem_of_getElem? (i := 0) (by decide +kernel))) rfl, by decide⟩
theorem sL_without : Cond.static qL_without.1 ∈ gW0 := gW0_mem (gt_5 (List.mem_of_getElem? (i := 147) (by decide +kernel))) rfl
def qL_seal : gWI := (yL_seal, cL_seal, 4, (some .int), [(0, 9, 12, 13)], 3)
theorem oL_seal : gWOk qL_seal := ⟨by decide +kernel, ⟨by decide +kernel, by decide +kernel, by decide +kernel⟩, gW0_mem (gt_5 (List.mem_of_getElem? (i := 155) (by decide +kernel))) rfl, gW0_mem (gt_1 (List.mem_of_getElem? (i := 0) (by decide +kernel))) rfl, by decide⟩
theorem sL_seal : Cond.static qL_seal.1 ∈ gW0 := gW0_mem (gt_5 (List.mem_of_getElem? (i := 154) (by decide +kernel))) rfl
def qL_chain : gWI := (yL_chain, cL_chain, 5, (some .int), [(0, 10, 13, 50)], 4)
theorem oL_chain : gWOk qL_chain := ⟨by decide +kernel, ⟨by decide +kernel, by decide +kernel, by decide +kernel⟩, gW0_mem (gt_5 (List.mem_of_getElem? (i := 170) (by decide +kernel))) rfl, gW0_mem (gt_1 (List.mem_of_getElem? (i := 0) (by decide +kernel))) rfl, by decide⟩
theorem sL_chain : Cond.static qL_chain.1 ∈ gW0 := gW0_mem (gt_5 (List.mem_of_getElem? (i := 169) (by decide +kernel))) rfl
def qL_via : gWI := (yL_via, cL_via, 5, (some .int), [(0, 10, 13, 50)], 4)
theorem oL_via : gWOk qL_via := ⟨by decide +kernel, ⟨by decide +kernel, by decide +kernel, by decide +kernel⟩, gW0_mem (gt_5 (List.mem_of_getElem? (i := 181) (by decide +kernel))) rfl, gW0_mem (gt_1 (List.mem_of_getElem? (i := 0) (by decide +kernel))) rfl, by decide⟩
theorem sL_via : Cond.static qL_via.1 ∈ gW0 := gW0_mem (gt_5 (List.mem_of_getElem? (i := 180) (by decide +kernel))) rfl
def qL_pass : gWI := (yL_pass, cL_pass, 5, (some .int), [(0, 10, 13, 50)], 4)
theorem oL_pass : gWOk qL_pass := ⟨by decide +kernel, ⟨by decide +kernel, by decide +kernel, by decide +kernel⟩, gW0_mem (gt_5 (List.mem_of_getElem? (i := 192) (by decide +kernel))) rfl, gW0_mem (gt_1 (List.mem_of_getElem? (i := 0) (by decide +kernel))) rfl, by decide⟩
theorem sL_pass : Cond.static qL_pass.1 ∈ gW0 := gW0_mem (gt_5 (List.mem_of_getElem? (i := 191) (by decide +kernel))) rfl
def qL_fall : gWI := (yL_fall, cL_fall, 5, (some .int), [(0, 10, 13, 50), (0, 10, 17, 45), (0, 10, 21, 23)], 4)
theorem oL_fall : gWOk qL_fall := ⟨by decide +kernel, ⟨by decide +kernel, by decide +kernel, by decide +kernel⟩, gW0_mem (gt_5 (List.mem_of_getElem? (i := 208) (by decide +kernel))) rfl, gW0_mem (gt_1 (List.mem_of_getElem? (i := 0) (by decide +kernel))) rfl, by decide⟩
theorem sL_fall : Cond.static qL_fall.1 ∈ gW0 := gW0_mem (gt_5 (List.mem_of_getElem? (i := 207) (by decide +kernel))) rfl
def qL_worst : gWI := (yL_worst, cL_worst, 4, (some .int), [(0, 9, 12, 45)], 3)
theorem oL_worst : gWOk qL_worst := ⟨by decide +kernel, ⟨by decide +kernel, by decide +kernel, by decide +kernel⟩, gW0_mem (gt_5 (List.mem_of_getElem? (i := 217) (by decide +kernel))) rfl, gW0_mem (gt_1 (List.mem_of_getElem? (i := 0) (by decide +kernel))) rfl, by decide⟩
theorem sL_worst : Cond.static qL_worst.1 ∈ gW0 := gW0_mem (gt_5 (List.mem_of_getElem? (i := 216) (by decide +kernel))) rfl
def qL_would : gWI := (yL_would, cL_would, 6, (some .int), [(0, 12, 15, 50), (0, 12, 19, 45)], 5)
theorem oL_would : gWOk qL_would := ⟨by decide +kernel, ⟨by decide +kernel, by decide +kernel, by decide +kernel⟩, gW0_mem (gt_5 (List.mem_of_getElem? (i := 229) (by decide +kernel))) rfl, gW0_mem (gt_1 (List.mem_of_getElem? (i := 0) (by decide +kernel))) rfl, by decide⟩
theorem sL_would : Cond.static qL_would.1 ∈ gW0 := gW0_mem (gt_5 (List.mem_of_getElem? (i := 228) (by decide +kernel))) rfl
def qL_best : gWI := (yL_best, cL_best, 4, (some .int), [(0, 9, 12, 45)], 3)
theorem oL_best : gWOk qL_best := ⟨by decide +kernel, ⟨by decide +kernel, by decide +kernel, by decide +kernel⟩, gW0_mem (gt_6 (List.mem_of_getElem? (i := 0) (by decide +kernel))) rfl, gW0_mem (gt_1 (List.mem_of_getElem? (i := 0) (by decide +kernel))) rfl, by decide⟩
theorem sL_best : Cond.static qL_best.1 ∈ gW0 := gW0_mem (gt_5 (List.mem_of_getElem? (i := 239) (by decide +kernel))) rfl
def qL_text : gWI := (yL_text, cL_text, 4, (some .int), [(0, 9, 12, 50)], 3)
theorem oL_text : gWOk qL_text := ⟨by decide +kernel, ⟨by decide +kernel, by decide +kernel, by decide +kernel⟩, gW0_mem (gt_6 (List.mem_of_getElem? (i := 15) (by decide +kernel))) rfl, gW0_mem (gt_1 (List.mem_of_getElem? (i := 0) (by decide +kernel))) rfl, by decide⟩
theorem sL_text : Cond.static qL_text.1 ∈ gW0 := gW0_mem (gt_6 (List.mem_of_getElem? (i := 14) (by decide +kernel))) rfl
theorem lk_L_93 : Cond.methodLink RL 93 yX9_init ∈ gW0 := gW0_mem (gt_1 (List.mem_of_getElem? (i := 30) (by decide +kernel))) rfl
theorem lk_L_97 : Cond.methodLink RL 97 yX9_feed ∈ gW0 := gW0_mem (gt_2 (List.mem_of_getElem? (i := 174) (by decide +kernel))) rfl
theorem lk_L_102 : Cond.methodLink RL 102 yX9_end ∈ gW0 := gW0_mem (gt_2 (List.mem_of_getElem? (i := 186) (by decide +kernel))) rfl
theorem lk_L_116 : Cond.methodLink RL 116 yX9_fault ∈ gW0 := gW0_mem (gt_2 (List.mem_of_getElem? (i := 190) (by decide +kernel))) rfl
theorem lk_L_120 : Cond.methodLink RL 120 yX9_why ∈ gW0 := gW0_mem (gt_2 (List.mem_of_getElem? (i := 194) (by decide +kernel))) rfl
theorem lk_L_161 : Cond.methodLink RL 161 yX9_walk ∈ gW0 := gW0_mem (gt_2 (List.mem_of_getElem? (i := 198) (by decide +kernel))) rfl
theorem lk_L_177 : Cond.methodLink RL 177 yX9_level ∈ gW0 := gW0_mem (gt_2 (List.mem_of_getElem? (i := 206) (by decide +kernel))) rfl
theorem lk_L_190 : Cond.methodLink RL 190 yX9_row ∈ gW0 := gW0_mem (gt_2 (List.mem_of_getElem? (i := 215) (by decide +kernel))) rfl
theorem lk_L_207 : Cond.methodLink RL 207 yX9_octet ∈ gW0 := gW0_mem (gt_2 (List.mem_of_getElem? (i := 227) (by decide +kernel))) rfl
theorem lk_L_211 : Cond.methodLink RL 211 yX9_image ∈ gW0 := gW0_mem (gt_2 (List.mem_of_getElem? (i := 235) (by decide +kernel))) rfl
theorem lk_L_215 : Cond.methodLink RL 215 yX9_back ∈ gW0 := gW0_mem (gt_3 (List.mem_of_getElem? (i := 12) (by decide +kernel))) rfl
theorem lk_L_220 : Cond.methodLink RL 220 yX9_count ∈ gW0 := gW0_mem (gt_3 (List.mem_of_getElem? (i := 20) (by decide +kernel))) rfl
theorem lk_L_107 : Cond.methodLink RL 107 yL_acts ∈ gW0 := gW0_mem (gt_3 (List.mem_of_getElem? (i := 131) (by decide +kernel))) rfl
theorem lk_L_7 : Cond.methodLink RL 7 yX9_acts ∈ gW0 := gW0_mem (gt_3 (List.mem_of_getElem? (i := 135) (by decide +kernel))) rfl
theorem lk_L_124 : Cond.methodLink RL 124 yL_net ∈ gW0 := gW0_mem (gt_4 (List.mem_of_getElem? (i := 109) (by decide +kernel))) rfl
theorem lk_L_15 : Cond.methodLink RL 15 yX9_net ∈ gW0 := gW0_mem (gt_4 (List.mem_of_getElem? (i := 112) (by decide +kernel))) rfl
theorem lk_L_128 : Cond.methodLink RL 128 yL_tell ∈ gW0 := gW0_mem (gt_4 (List.mem_of_getElem? (i := 118) (by decide +kernel))) rfl
theorem lk_L_19 : Cond.methodLink RL 19 yX9_tell ∈ gW0 := gW0_mem (gt_4 (List.mem_of_getElem? (i := 122) (by decide +kernel))) rfl
theorem lk_L_132 : Cond.methodLink RL 132 yL_lay ∈ gW0 := gW0_mem (gt_4 (List.mem_of_getElem? (i := 155) (by decide +kernel))) rfl
theorem lk_L_25 : Cond.methodLink RL 25 yX9_lay ∈ gW0 := gW0_mem (gt_4 (List.mem_of_getElem? (i := 158) (by decide +kernel))) rfl
theorem lk_L_136 : Cond.methodLink RL 136 yL_shut ∈ gW0 := gW0_mem (gt_4 (List.mem_of_getElem? (i := 162) (by decide +kernel))) rfl
theorem lk_L_29 : Cond.methodLink RL 29 yX9_shut ∈ gW0 := gW0_mem (gt_4 (List.mem_of_getElem? (i := 165) (by decide +kernel))) rfl
theorem lk_L_140 : Cond.methodLink RL 140 yL_open ∈ gW0 := gW0_mem (gt_4 (List.mem_of_getElem? (i := 169) (by decide +kernel))) rfl
theorem lk_L_33 : Cond.methodLink RL 33 yX9_open ∈ gW0 := gW0_mem (gt_4 (List.mem_of_getElem? (i := 172) (by decide +kernel))) rfl
theorem lk_L_143 : Cond.methodLink RL 143 yL_toll ∈ gW0 := gW0_mem (gt_4 (List.mem_of_getElem? (i := 176) (by decide +kernel))) rfl
theorem lk_L_36 : Cond.methodLink RL 36 yX9_toll ∈ gW0 := gW0_mem (gt_4 (List.mem_of_getElem? (i := 179) (by decide +kernel))) rfl
theorem lk_L_146 : Cond.methodLink RL 146 yL_undo ∈ gW0 := gW0_mem (gt_4 (List.mem_of_getElem? (i := 184) (by decide +kernel))) rfl
theorem lk_L_39 : Cond.methodLink RL 39 yX9_undo ∈ gW0 := gW0_mem (gt_4 (List.mem_of_getElem? (i := 187) (by decide +kernel))) rfl
theorem lk_L_149 : Cond.methodLink RL 149 yL_latest ∈ gW0 := gW0_mem (gt_4 (List.mem_of_getElem? (i := 196) (by decide +kernel))) rfl
theorem lk_L_42 : Cond.methodLink RL 42 yX9_latest ∈ gW0 := gW0_mem (gt_4 (List.mem_of_getElem? (i := 200) (by decide +kernel))) rfl
theorem lk_L_152 : Cond.methodLink RL 152 yL_node ∈ gW0 := gW0_mem (gt_4 (List.mem_of_getElem? (i := 220) (by decide +kernel))) rfl
theorem lk_L_47 : Cond.methodLink RL 47 yX9_node ∈ gW0 := gW0_mem (gt_4 (List.mem_of_getElem? (i := 224) (by decide +kernel))) rfl
theorem lk_L_155 : Cond.methodLink RL 155 yL_keeps ∈ gW0 := gW0_mem (gt_5 (List.mem_of_getElem? (i := 117) (by decide +kernel))) rfl
theorem lk_L_52 : Cond.methodLink RL 52 yX9_keeps ∈ gW0 := gW0_mem (gt_5 (List.mem_of_getElem? (i := 120) (by decide +kernel))) rfl
theorem lk_L_158 : Cond.methodLink RL 158 yL_common ∈ gW0 := gW0_mem (gt_5 (List.mem_of_getElem? (i := 125) (by decide +kernel))) rfl
theorem lk_L_56 : Cond.methodLink RL 56 yX9_common ∈ gW0 := gW0_mem (gt_5 (List.mem_of_getElem? (i := 128) (by decide +kernel))) rfl
theorem lk_L_165 : Cond.methodLink RL 165 yL_arc ∈ gW0 := gW0_mem (gt_5 (List.mem_of_getElem? (i := 134) (by decide +kernel))) rfl
theorem lk_L_59 : Cond.methodLink RL 59 yX9_arc ∈ gW0 := gW0_mem (gt_5 (List.mem_of_getElem? (i := 137) (by decide +kernel))) rfl
theorem lk_L_168 : Cond.methodLink RL 168 yL_without ∈ gW0 := gW0_mem (gt_5 (List.mem_of_getElem? (i := 146) (by decide +kernel))) rfl
theorem lk_L_62 : Cond.methodLink RL 62 yX9_without ∈ gW0 := gW0_mem (gt_5 (List.mem_of_getElem? (i := 149) (by decide +kernel))) rfl
theorem lk_L_171 : Cond.methodLink RL 171 yL_seal ∈ gW0 := gW0_mem (gt_5 (List.mem_of_getElem? (i := 153) (by decide +kernel))) rfl
theorem lk_L_65 : Cond.methodLink RL 65 yX9_seal ∈ gW0 := gW0_mem (gt_5 (List.mem_of_getElem? (i := 156) (by decide +kernel))) rfl
theorem lk_L_174 : Cond.methodLink RL 174 yL_chain ∈ gW0 := gW0_mem (gt_5 (List.mem_of_getElem? (i := 168) (by decide +kernel))) rfl
theorem lk_L_68 : Cond.methodLink RL 68 yX9_chain ∈ gW0 := gW0_mem (gt_5 (List.mem_of_getElem? (i := 171) (by decide +kernel))) rfl
theorem lk_L_181 : Cond.methodLink RL 181 yL_via ∈ gW0 := gW0_mem (gt_5 (List.mem_of_getElem? (i := 179) (by decide +kernel))) rfl
theorem lk_L_71 : Cond.methodLink RL 71 yX9_via ∈ gW0 := gW0_mem (gt_5 (List.mem_of_getElem? (i := 182) (by decide +kernel))) rfl
theorem lk_L_184 : Cond.methodLink RL 184 yL_pass ∈ gW0 := gW0_mem (gt_5 (List.mem_of_getElem? (i := 190) (by decide +kernel))) rfl
theorem lk_L_74 : Cond.methodLink RL 74 yX9_pass ∈ gW0 := gW0_mem (gt_5 (List.mem_of_getElem? (i := 193) (by decide +kernel))) rfl
theorem lk_L_187 : Cond.methodLink RL 187 yL_fall ∈ gW0 := gW0_mem (gt_5 (List.mem_of_getElem? (i := 206) (by decide +kernel))) rfl
theorem lk_L_77 : Cond.methodLink RL 77 yX9_fall ∈ gW0 := gW0_mem (gt_5 (List.mem_of_getElem? (i := 209) (by decide +kernel))) rfl
theorem lk_L_194 : Cond.methodLink RL 194 yL_worst ∈ gW0 := gW0_mem (gt_5 (List.mem_of_getElem? (i := 215) (by decide +kernel))) rfl
theorem lk_L_80 : Cond.methodLink RL 80 yX9_worst ∈ gW0 := gW0_mem (gt_5 (List.mem_of_getElem? (i := 218) (by decide +kernel))) rfl
theorem lk_L_197 : Cond.methodLink RL 197 yL_would ∈ gW0 := gW0_mem (gt_5 (List.mem_of_getElem? (i := 227) (by decide +kernel))) rfl
theorem lk_L_83 : Cond.methodLink RL 83 yX9_would ∈ gW0 := gW0_mem (gt_5 (List.mem_of_getElem? (i := 230) (by decide +kernel))) rfl
theorem lk_L_201 : Cond.methodLink RL 201 yL_best ∈ gW0 := gW0_mem (gt_5 (List.mem_of_getElem? (i := 238) (by decide +kernel))) rfl
theorem lk_L_87 : Cond.methodLink RL 87 yX9_best ∈ gW0 := gW0_mem (gt_6 (List.mem_of_getElem? (i := 1) (by decide +kernel))) rfl
theorem lk_L_204 : Cond.methodLink RL 204 yL_text ∈ gW0 := gW0_mem (gt_6 (List.mem_of_getElem? (i := 13) (by decide +kernel))) rfl
theorem lk_L_90 : Cond.methodLink RL 90 yX9_text ∈ gW0 := gW0_mem (gt_6 (List.mem_of_getElem? (i := 16) (by decide +kernel))) rfl
theorem lk_L_113 : Cond.methodLink RL 113 yX10_thrown ∈ gW0 := gW0_mem (gt_6 (List.mem_of_getElem? (i := 25) (by decide +kernel))) rfl
theorem lk_L_96 : Cond.methodLink RL 96 yX10_init ∈ gW0 := gW0_mem (gt_6 (List.mem_of_getElem? (i := 31) (by decide +kernel))) rfl
theorem lk_L_148 : Cond.methodLink RL 148 yX10_undo ∈ gW0 := gW0_mem (gt_6 (List.mem_of_getElem? (i := 167) (by decide +kernel))) rfl
theorem lk_L_214 : Cond.methodLink RL 214 yX10_image ∈ gW0 := gW0_mem (gt_6 (List.mem_of_getElem? (i := 182) (by decide +kernel))) rfl
theorem lk_L_219 : Cond.methodLink RL 219 yX10_back ∈ gW0 := gW0_mem (gt_6 (List.mem_of_getElem? (i := 186) (by decide +kernel))) rfl
theorem lk_L_127 : Cond.methodLink RL 127 yX10_net ∈ gW0 := gW0_mem (gt_6 (List.mem_of_getElem? (i := 190) (by decide +kernel))) rfl
theorem lk_L_131 : Cond.methodLink RL 131 yX10_tell ∈ gW0 := gW0_mem (gt_6 (List.mem_of_getElem? (i := 197) (by decide +kernel))) rfl
theorem lk_L_135 : Cond.methodLink RL 135 yX10_lay ∈ gW0 := gW0_mem (gt_7 (List.mem_of_getElem? (i := 27) (by decide +kernel))) rfl
theorem lk_L_139 : Cond.methodLink RL 139 yX10_shut ∈ gW0 := gW0_mem (gt_7 (List.mem_of_getElem? (i := 39) (by decide +kernel))) rfl
theorem lk_L_142 : Cond.methodLink RL 142 yX10_open ∈ gW0 := gW0_mem (gt_7 (List.mem_of_getElem? (i := 51) (by decide +kernel))) rfl
theorem lk_L_145 : Cond.methodLink RL 145 yX10_toll ∈ gW0 := gW0_mem (gt_7 (List.mem_of_getElem? (i := 55) (by decide +kernel))) rfl
theorem lk_L_123 : Cond.methodLink RL 123 yX10_why ∈ gW0 := gW0_mem (gt_7 (List.mem_of_getElem? (i := 63) (by decide +kernel))) rfl
theorem lk_L_151 : Cond.methodLink RL 151 yX10_latest ∈ gW0 := gW0_mem (gt_7 (List.mem_of_getElem? (i := 67) (by decide +kernel))) rfl
theorem lk_L_101 : Cond.methodLink RL 101 yX10_feed ∈ gW0 := gW0_mem (gt_7 (List.mem_of_getElem? (i := 71) (by decide +kernel))) rfl
theorem lk_L_106 : Cond.methodLink RL 106 yX10_end ∈ gW0 := gW0_mem (gt_7 (List.mem_of_getElem? (i := 75) (by decide +kernel))) rfl
theorem lk_L_119 : Cond.methodLink RL 119 yX10_fault ∈ gW0 := gW0_mem (gt_7 (List.mem_of_getElem? (i := 79) (by decide +kernel))) rfl
theorem lk_L_112 : Cond.methodLink RL 112 yX10_acts ∈ gW0 := gW0_mem (gt_7 (List.mem_of_getElem? (i := 83) (by decide +kernel))) rfl
theorem lk_L_186 : Cond.methodLink RL 186 yX10_pass ∈ gW0 := gW0_mem (gt_7 (List.mem_of_getElem? (i := 144) (by decide +kernel))) rfl
theorem lk_L_183 : Cond.methodLink RL 183 yX10_via ∈ gW0 := gW0_mem (gt_7 (List.mem_of_getElem? (i := 156) (by decide +kernel))) rfl
theorem lk_L_193 : Cond.methodLink RL 193 yX10_row ∈ gW0 := gW0_mem (gt_7 (List.mem_of_getElem? (i := 160) (by decide +kernel))) rfl
theorem lk_L_154 : Cond.methodLink RL 154 yX10_node ∈ gW0 := gW0_mem (gt_7 (List.mem_of_getElem? (i := 168) (by decide +kernel))) rfl
theorem lk_L_157 : Cond.methodLink RL 157 yX10_keeps ∈ gW0 := gW0_mem (gt_8 (List.mem_of_getElem? (i := 12) (by decide +kernel))) rfl
theorem lk_L_160 : Cond.methodLink RL 160 yX10_common ∈ gW0 := gW0_mem (gt_8 (List.mem_of_getElem? (i := 16) (by decide +kernel))) rfl
theorem lk_L_164 : Cond.methodLink RL 164 yX10_walk ∈ gW0 := gW0_mem (gt_8 (List.mem_of_getElem? (i := 20) (by decide +kernel))) rfl
theorem lk_L_167 : Cond.methodLink RL 167 yX10_arc ∈ gW0 := gW0_mem (gt_8 (List.mem_of_getElem? (i := 28) (by decide +kernel))) rfl
theorem lk_L_170 : Cond.methodLink RL 170 yX10_without ∈ gW0 := gW0_mem (gt_8 (List.mem_of_getElem? (i := 40) (by decide +kernel))) rfl
theorem lk_L_173 : Cond.methodLink RL 173 yX10_seal ∈ gW0 := gW0_mem (gt_8 (List.mem_of_getElem? (i := 48) (by decide +kernel))) rfl
theorem lk_L_176 : Cond.methodLink RL 176 yX10_chain ∈ gW0 := gW0_mem (gt_8 (List.mem_of_getElem? (i := 52) (by decide +kernel))) rfl
theorem lk_L_180 : Cond.methodLink RL 180 yX10_level ∈ gW0 := gW0_mem (gt_8 (List.mem_of_getElem? (i := 60) (by decide +kernel))) rfl
theorem lk_L_196 : Cond.methodLink RL 196 yX10_worst ∈ gW0 := gW0_mem (gt_8 (List.mem_of_getElem? (i := 68) (by decide +kernel))) rfl
theorem lk_L_189 : Cond.methodLink RL 189 yX10_fall ∈ gW0 := gW0_mem (gt_8 (List.mem_of_getElem? (i := 72) (by decide +kernel))) rfl
theorem lk_L_200 : Cond.methodLink RL 200 yX10_would ∈ gW0 := gW0_mem (gt_8 (List.mem_of_getElem? (i := 84) (by decide +kernel))) rfl
theorem lk_L_203 : Cond.methodLink RL 203 yX10_best ∈ gW0 := gW0_mem (gt_8 (List.mem_of_getElem? (i := 92) (by decide +kernel))) rfl
theorem lk_L_206 : Cond.methodLink RL 206 yX10_text ∈ gW0 := gW0_mem (gt_8 (List.mem_of_getElem? (i := 96) (by decide +kernel))) rfl
theorem lk_L_210 : Cond.methodLink RL 210 yX10_octet ∈ gW0 := gW0_mem (gt_8 (List.mem_of_getElem? (i := 104) (by decide +kernel))) rfl
theorem lk_L_223 : Cond.methodLink RL 223 yX10_count ∈ gW0 := gW0_mem (gt_8 (List.mem_of_getElem? (i := 108) (by decide +kernel))) rfl
theorem cl_L_8 : Cond.classLink RL 8 "GateLifter" ∈ gW0 := gW0_mem (gt_1 (List.mem_of_getElem? (i := 28) (by decide +kernel))) rfl
theorem cl_L_13 : Cond.classLink RL 13 "java/lang/IllegalArgumentException" ∈ gW0 := gW0_mem (gt_3 (List.mem_of_getElem? (i := 134) (by decide +kernel))) rfl
theorem ca_0 : Cond.castable "java/lang/IllegalArgumentException" "java/lang/IllegalArgumentException" ∈ gWN := gWN_mem (gt_4 (List.mem_of_getElem? (i := 42) (by decide +kernel))) rfl
theorem cl_L_23 : Cond.classLink RL 23 "java/lang/IllegalStateException" ∈ gW0 := gW0_mem (gt_4 (List.mem_of_getElem? (i := 121) (by decide +kernel))) rfl
theorem ca_1 : Cond.castable "java/lang/IllegalStateException" "java/lang/IllegalStateException" ∈ gWN := gWN_mem (gt_4 (List.mem_of_getElem? (i := 141) (by decide +kernel))) rfl
theorem cl_L_45 : Cond.classLink RL 45 "java/util/NoSuchElementException" ∈ gW0 := gW0_mem (gt_4 (List.mem_of_getElem? (i := 199) (by decide +kernel))) rfl
theorem ca_3 : Cond.castable "java/util/NoSuchElementException" "java/util/NoSuchElementException" ∈ gWN := gWN_mem (gt_4 (List.mem_of_getElem? (i := 206) (by decide +kernel))) rfl
theorem cl_L_50 : Cond.classLink RL 50 "java/lang/IndexOutOfBoundsException" ∈ gW0 := gW0_mem (gt_4 (List.mem_of_getElem? (i := 223) (by decide +kernel))) rfl
theorem ca_2 : Cond.castable "java/lang/IndexOutOfBoundsException" "java/lang/IndexOutOfBoundsException" ∈ gWN := gWN_mem (gt_4 (List.mem_of_getElem? (i := 231) (by decide +kernel))) rfl
theorem cl_L_94 : Cond.classLink RL 94 "GateLifterModel" ∈ gW0 := gW0_mem (gt_6 (List.mem_of_getElem? (i := 29) (by decide +kernel))) rfl
theorem lget_drop : ∀ (lv : List (Option Value)) (i j : Nat) (u : Value), lget (lv.set i none) j = some u → j ≠ i ∧ lget lv j = some u
  | [], i, j, u, h => by simp [lget] at h
  | a :: lv, 0, 0, u, h => by simp [lget] at h
  | a :: lv, 0, j + 1, u, h => ⟨by omega, by simpa [lget] using h⟩
  | a :: lv, i + 1, 0, u, h => ⟨by omega, by simpa [lget] using h⟩
  | a :: lv, i + 1, j + 1, u, h => by
    have h1 := lget_drop lv i j u (by simpa [lget] using h)
    exact ⟨by omega, by simpa [lget] using h1.2⟩
def wcode (L : List Nat) {α : Type} (v : α ⊕ Nat) : Int32 := Sum.elim (fun _ => 0) (fun k => Int32.ofNat (L.idxOf k + 1)) v
def wlo (v : Int32 ⊕ Nat) (lo : gLH) : gLH := Sum.elim (fun i => up2 lo 99 0 i.toInt64) (fun _ => lo) v
def wlz (v : Int32 ⊕ Nat) (lo : gLH) : gLH := Sum.elim (fun i => up2 lo 99 0 (if i = 0 then 0 else 1)) (fun _ => lo) v
set_option maxRecDepth 100000 in
set_option maxHeartbeats 8000000 in
theorem wL_acts (e : gEV) (n : Nat) (hn : 100 ≤ n) (r r' : gRH) (xc xc' : gXH) (hm : gIH) (lo : gLH) (v : Int32 ⊕ Nat) (hcal : XCal e qX9_acts 11 n [.ref 0] r (xc, hm, lo) (xvI v) n r' (xc', hm, lo)) (hv : ∀ k, v = .inr k → k ∈ ([0] : List Nat)) : WCal e qL_acts 12 n [.ref 0, .ref 99] r (xc, hm, lo) (wcode [0] v) r' (xc', hm, (wlo v lo)) := by
  refine wcal_of oL_acts (lv := [some (.ref 0), some (.ref 99), none]) (fun v hv => by simp at hv; rcases hv with rfl | rfl <;> rfl) (Nat.le_of_ble_eq_true rfl) rfl (fun C hC hQ hT => ?_)
  refine k_aload_n (q := 1) hC dL_acts_0 rfl rfl ?_
  refine k_iconst (q := 2) (v := (0 : Int32)) hC dL_acts_1 (by decide) rfl ?_
  refine k_aload_n (q := 3) hC dL_acts_2 rfl rfl ?_
  refine k_xV (q := 6) (c0 := 0) (As := []) hC oX9_acts vX9_acts rfl (kd0 (Nat.le_trans (by decide) hn)) rfl rfl dL_acts_3 lk_L_7 hcal (by decide) rfl (Nat.le_of_ble_eq_true rfl) ⟨Nat.le_refl _, Nat.le_refl _⟩ rfl (fun u hu => ?_) (fun E hE => ?_)
  · obtain i | kx := v
    · cases hu
      refine k_i2l (q := 7) hC dL_acts_6 rfl ?_
      refine k_last (q := 8) (L := 1) hC dL_acts_7 (kd99 hn) (by unfold vp_in; decide) rfl ?_
      refine k_goto (tgt := 14) hC dL_acts_8 (by decide) ?_
      refine k_iconst (q := 15) (v := (0 : Int32)) hC dL_acts_14 (by decide) rfl ?_
      exact k_iret hC hQ rfl dL_acts_15
    · cases hu
  · obtain i | kx := v
    · cases hE
    · cases hE
      have hk := hv kx rfl
      simp only [List.mem_cons, List.not_mem_nil, or_false] at hk
      subst hk
      refine k_catch (pc := 3) (q := 12) (lv' := [some (.ref 0), some (.ref 99), none]) hC hT (E := "java/lang/IllegalArgumentException") (pre := []) (suf := []) rfl (by decide) (by decide) (fun z hz => by simp at hz) cl_L_13 ca_0 (.inr ⟨2, dL_acts_11, rfl, rfl⟩) (by decide) (lget_drop [some (.ref 0), some (.ref 99), none] 2) rfl ?_
      refine k_iconst (q := 13) (v := (1 : Int32)) hC dL_acts_12 (by decide) rfl ?_
      exact k_iret hC hQ rfl dL_acts_13
set_option maxRecDepth 100000 in
set_option maxHeartbeats 8000000 in
theorem wL_net (e : gEV) (n : Nat) (hn : 100 ≤ n) (r r' : gRH) (xc xc' : gXH) (hm : gIH) (lo : gLH) (a1 : Int32) (v : Unit ⊕ Nat) (hcal : XCal e qX9_net 8 n [.ref 0, .int a1] r (xc, hm, lo) (xvU v) n r' (xc', hm, lo)) (hv : ∀ k, v = .inr k → k ∈ ([0] : List Nat)) : WCal e qL_net 9 n [.ref 0, .int a1] r (xc, hm, lo) (wcode [0] v) r' (xc', hm, lo) := by
  refine wcal_of oL_net (lv := [some (.ref 0), some (.int a1), none]) (fun v hv => by simp at hv; rcases hv with rfl | rfl <;> rfl) (Nat.le_of_ble_eq_true rfl) rfl (fun C hC hQ hT => ?_)
  refine k_aload_n (q := 1) hC dL_net_0 rfl rfl ?_
  refine k_iload_n (q := 2) hC dL_net_1 rfl rfl ?_
  refine k_xV (q := 5) (c0 := 0) (As := [.int a1]) hC oX9_net vX9_net rfl (kd0 (Nat.le_trans (by decide) hn)) rfl rfl dL_net_2 lk_L_15 hcal (by decide) rfl (Nat.le_of_ble_eq_true rfl) ⟨Nat.le_refl _, Nat.le_refl _⟩ rfl (fun u hu => ?_) (fun E hE => ?_)
  · obtain i | kx := v
    · cases hu
      refine k_goto (tgt := 11) hC dL_net_5 (by decide) ?_
      refine k_iconst (q := 12) (v := (0 : Int32)) hC dL_net_11 (by decide) rfl ?_
      exact k_iret hC hQ rfl dL_net_12
    · cases hu
  · obtain i | kx := v
    · cases hE
    · cases hE
      have hk := hv kx rfl
      simp only [List.mem_cons, List.not_mem_nil, or_false] at hk
      subst hk
      refine k_catch (pc := 2) (q := 9) (lv' := [some (.ref 0), some (.int a1), none]) hC hT (E := "java/lang/IllegalArgumentException") (pre := []) (suf := []) rfl (by decide) (by decide) (fun z hz => by simp at hz) cl_L_13 ca_0 (.inr ⟨2, dL_net_8, rfl, rfl⟩) (by decide) (lget_drop [some (.ref 0), some (.int a1), none] 2) rfl ?_
      refine k_iconst (q := 10) (v := (1 : Int32)) hC dL_net_9 (by decide) rfl ?_
      exact k_iret hC hQ rfl dL_net_10
set_option maxRecDepth 100000 in
set_option maxHeartbeats 8000000 in
theorem wL_tell (e : gEV) (n : Nat) (hn : 100 ≤ n) (r r' : gRH) (xc xc' : gXH) (hm : gIH) (lo : gLH) (a1 : Int32) (a2 : Int32) (v : Int32 ⊕ Nat) (hcal : XCal e qX9_tell 8 n [.ref 0, .int a1, .int a2] r (xc, hm, lo) (xvI v) n r' (xc', hm, lo)) (hv : ∀ k, v = .inr k → k ∈ ([1] : List Nat)) : WCal e qL_tell 9 n [.ref 0, .int a1, .int a2, .ref 99] r (xc, hm, lo) (wcode [1] v) r' (xc', hm, (wlo v lo)) := by
  refine wcal_of oL_tell (lv := [some (.ref 0), some (.int a1), some (.int a2), some (.ref 99), none]) (fun v hv => by simp at hv; rcases hv with rfl | rfl | rfl | rfl <;> rfl) (Nat.le_of_ble_eq_true rfl) rfl (fun C hC hQ hT => ?_)
  refine k_aload_n (q := 1) hC dL_tell_0 rfl rfl ?_
  refine k_iconst (q := 2) (v := (0 : Int32)) hC dL_tell_1 (by decide) rfl ?_
  refine k_aload_n (q := 3) hC dL_tell_2 rfl rfl ?_
  refine k_iload_n (q := 4) hC dL_tell_3 rfl rfl ?_
  refine k_iload_n (q := 5) hC dL_tell_4 rfl rfl ?_
  refine k_xV (q := 8) (c0 := 0) (As := [.int a1, .int a2]) hC oX9_tell vX9_tell rfl (kd0 (Nat.le_trans (by decide) hn)) rfl rfl dL_tell_5 lk_L_19 hcal (by decide) rfl (Nat.le_of_ble_eq_true rfl) ⟨Nat.le_refl _, Nat.le_refl _⟩ rfl (fun u hu => ?_) (fun E hE => ?_)
  · obtain i | kx := v
    · cases hu
      refine k_i2l (q := 9) hC dL_tell_8 rfl ?_
      refine k_last (q := 10) (L := 1) hC dL_tell_9 (kd99 hn) (by unfold vp_in; decide) rfl ?_
      refine k_goto (tgt := 17) hC dL_tell_10 (by decide) ?_
      refine k_iconst (q := 18) (v := (0 : Int32)) hC dL_tell_17 (by decide) rfl ?_
      exact k_iret hC hQ rfl dL_tell_18
    · cases hu
  · obtain i | kx := v
    · cases hE
    · cases hE
      have hk := hv kx rfl
      simp only [List.mem_cons, List.not_mem_nil, or_false] at hk
      subst hk
      refine k_catch (pc := 5) (q := 15) (lv' := [some (.ref 0), some (.int a1), some (.int a2), some (.ref 99), none]) hC hT (E := "java/lang/IllegalStateException") (pre := []) (suf := []) rfl (by decide) (by decide) (fun z hz => by simp at hz) cl_L_23 ca_1 (.inl ⟨dL_tell_13, rfl⟩) (by decide) (lget_drop [some (.ref 0), some (.int a1), some (.int a2), some (.ref 99), none] 4) rfl ?_
      refine k_iconst (q := 16) (v := (1 : Int32)) hC dL_tell_15 (by decide) rfl ?_
      exact k_iret hC hQ rfl dL_tell_16
set_option maxRecDepth 100000 in
set_option maxHeartbeats 8000000 in
theorem wL_lay (e : gEV) (n : Nat) (hn : 100 ≤ n) (r r' : gRH) (xc xc' : gXH) (hm : gIH) (lo : gLH) (a1 : Int32) (a2 : Int32) (v : Int32 ⊕ Nat) (hcal : XCal e qX9_lay 8 n [.ref 0, .int a1, .int a2] r (xc, hm, lo) (xvI v) n r' (xc', hm, lo)) (hv : ∀ k, v = .inr k → k ∈ ([1] : List Nat)) : WCal e qL_lay 9 n [.ref 0, .int a1, .int a2, .ref 99] r (xc, hm, lo) (wcode [1] v) r' (xc', hm, (wlo v lo)) := by
  refine wcal_of oL_lay (lv := [some (.ref 0), some (.int a1), some (.int a2), some (.ref 99), none]) (fun v hv => by simp at hv; rcases hv with rfl | rfl | rfl | rfl <;> rfl) (Nat.le_of_ble_eq_true rfl) rfl (fun C hC hQ hT => ?_)
  refine k_aload_n (q := 1) hC dL_lay_0 rfl rfl ?_
  refine k_iconst (q := 2) (v := (0 : Int32)) hC dL_lay_1 (by decide) rfl ?_
  refine k_aload_n (q := 3) hC dL_lay_2 rfl rfl ?_
  refine k_iload_n (q := 4) hC dL_lay_3 rfl rfl ?_
  refine k_iload_n (q := 5) hC dL_lay_4 rfl rfl ?_
  refine k_xV (q := 8) (c0 := 0) (As := [.int a1, .int a2]) hC oX9_lay vX9_lay rfl (kd0 (Nat.le_trans (by decide) hn)) rfl rfl dL_lay_5 lk_L_25 hcal (by decide) rfl (Nat.le_of_ble_eq_true rfl) ⟨Nat.le_refl _, Nat.le_refl _⟩ rfl (fun u hu => ?_) (fun E hE => ?_)
  · obtain i | kx := v
    · cases hu
      refine k_i2l (q := 9) hC dL_lay_8 rfl ?_
      refine k_last (q := 10) (L := 1) hC dL_lay_9 (kd99 hn) (by unfold vp_in; decide) rfl ?_
      refine k_goto (tgt := 17) hC dL_lay_10 (by decide) ?_
      refine k_iconst (q := 18) (v := (0 : Int32)) hC dL_lay_17 (by decide) rfl ?_
      exact k_iret hC hQ rfl dL_lay_18
    · cases hu
  · obtain i | kx := v
    · cases hE
    · cases hE
      have hk := hv kx rfl
      simp only [List.mem_cons, List.not_mem_nil, or_false] at hk
      subst hk
      refine k_catch (pc := 5) (q := 15) (lv' := [some (.ref 0), some (.int a1), some (.int a2), some (.ref 99), none]) hC hT (E := "java/lang/IllegalStateException") (pre := []) (suf := []) rfl (by decide) (by decide) (fun z hz => by simp at hz) cl_L_23 ca_1 (.inl ⟨dL_lay_13, rfl⟩) (by decide) (lget_drop [some (.ref 0), some (.int a1), some (.int a2), some (.ref 99), none] 4) rfl ?_
      refine k_iconst (q := 16) (v := (1 : Int32)) hC dL_lay_15 (by decide) rfl ?_
      exact k_iret hC hQ rfl dL_lay_16
set_option maxRecDepth 100000 in
set_option maxHeartbeats 8000000 in
theorem wL_shut (e : gEV) (n : Nat) (hn : 100 ≤ n) (r r' : gRH) (xc xc' : gXH) (hm : gIH) (lo : gLH) (a1 : Int32) (v : Int32 ⊕ Nat) (hcal : XCal e qX9_shut 8 n [.ref 0, .int a1] r (xc, hm, lo) (xvI v) n r' (xc', hm, lo)) (hv : ∀ k, v = .inr k → k ∈ ([1] : List Nat)) : WCal e qL_shut 9 n [.ref 0, .int a1, .ref 99] r (xc, hm, lo) (wcode [1] v) r' (xc', hm, (wlo v lo)) := by
  refine wcal_of oL_shut (lv := [some (.ref 0), some (.int a1), some (.ref 99), none]) (fun v hv => by simp at hv; rcases hv with rfl | rfl | rfl <;> rfl) (Nat.le_of_ble_eq_true rfl) rfl (fun C hC hQ hT => ?_)
  refine k_aload_n (q := 1) hC dL_shut_0 rfl rfl ?_
  refine k_iconst (q := 2) (v := (0 : Int32)) hC dL_shut_1 (by decide) rfl ?_
  refine k_aload_n (q := 3) hC dL_shut_2 rfl rfl ?_
  refine k_iload_n (q := 4) hC dL_shut_3 rfl rfl ?_
  refine k_xV (q := 7) (c0 := 0) (As := [.int a1]) hC oX9_shut vX9_shut rfl (kd0 (Nat.le_trans (by decide) hn)) rfl rfl dL_shut_4 lk_L_29 hcal (by decide) rfl (Nat.le_of_ble_eq_true rfl) ⟨Nat.le_refl _, Nat.le_refl _⟩ rfl (fun u hu => ?_) (fun E hE => ?_)
  · obtain i | kx := v
    · cases hu
      refine k_i2l (q := 8) hC dL_shut_7 rfl ?_
      refine k_last (q := 9) (L := 1) hC dL_shut_8 (kd99 hn) (by unfold vp_in; decide) rfl ?_
      refine k_goto (tgt := 15) hC dL_shut_9 (by decide) ?_
      refine k_iconst (q := 16) (v := (0 : Int32)) hC dL_shut_15 (by decide) rfl ?_
      exact k_iret hC hQ rfl dL_shut_16
    · cases hu
  · obtain i | kx := v
    · cases hE
    · cases hE
      have hk := hv kx rfl
      simp only [List.mem_cons, List.not_mem_nil, or_false] at hk
      subst hk
      refine k_catch (pc := 4) (q := 13) (lv' := [some (.ref 0), some (.int a1), some (.ref 99), none]) hC hT (E := "java/lang/IllegalStateException") (pre := []) (suf := []) rfl (by decide) (by decide) (fun z hz => by simp at hz) cl_L_23 ca_1 (.inr ⟨3, dL_shut_12, rfl, rfl⟩) (by decide) (lget_drop [some (.ref 0), some (.int a1), some (.ref 99), none] 3) rfl ?_
      refine k_iconst (q := 14) (v := (1 : Int32)) hC dL_shut_13 (by decide) rfl ?_
      exact k_iret hC hQ rfl dL_shut_14
set_option maxRecDepth 100000 in
set_option maxHeartbeats 8000000 in
theorem wL_open (e : gEV) (n : Nat) (hn : 100 ≤ n) (r r' : gRH) (xc xc' : gXH) (hm : gIH) (lo : gLH) (a1 : Int32) (v : Int32 ⊕ Nat) (hcal : XCal e qX9_open 8 n [.ref 0, .int a1] r (xc, hm, lo) (xvI v) n r' (xc', hm, lo)) (hv : ∀ k, v = .inr k → k ∈ ([1] : List Nat)) : WCal e qL_open 9 n [.ref 0, .int a1, .ref 99] r (xc, hm, lo) (wcode [1] v) r' (xc', hm, (wlo v lo)) := by
  refine wcal_of oL_open (lv := [some (.ref 0), some (.int a1), some (.ref 99), none]) (fun v hv => by simp at hv; rcases hv with rfl | rfl | rfl <;> rfl) (Nat.le_of_ble_eq_true rfl) rfl (fun C hC hQ hT => ?_)
  refine k_aload_n (q := 1) hC dL_open_0 rfl rfl ?_
  refine k_iconst (q := 2) (v := (0 : Int32)) hC dL_open_1 (by decide) rfl ?_
  refine k_aload_n (q := 3) hC dL_open_2 rfl rfl ?_
  refine k_iload_n (q := 4) hC dL_open_3 rfl rfl ?_
  refine k_xV (q := 7) (c0 := 0) (As := [.int a1]) hC oX9_open vX9_open rfl (kd0 (Nat.le_trans (by decide) hn)) rfl rfl dL_open_4 lk_L_33 hcal (by decide) rfl (Nat.le_of_ble_eq_true rfl) ⟨Nat.le_refl _, Nat.le_refl _⟩ rfl (fun u hu => ?_) (fun E hE => ?_)
  · obtain i | kx := v
    · cases hu
      refine k_i2l (q := 8) hC dL_open_7 rfl ?_
      refine k_last (q := 9) (L := 1) hC dL_open_8 (kd99 hn) (by unfold vp_in; decide) rfl ?_
      refine k_goto (tgt := 15) hC dL_open_9 (by decide) ?_
      refine k_iconst (q := 16) (v := (0 : Int32)) hC dL_open_15 (by decide) rfl ?_
      exact k_iret hC hQ rfl dL_open_16
    · cases hu
  · obtain i | kx := v
    · cases hE
    · cases hE
      have hk := hv kx rfl
      simp only [List.mem_cons, List.not_mem_nil, or_false] at hk
      subst hk
      refine k_catch (pc := 4) (q := 13) (lv' := [some (.ref 0), some (.int a1), some (.ref 99), none]) hC hT (E := "java/lang/IllegalStateException") (pre := []) (suf := []) rfl (by decide) (by decide) (fun z hz => by simp at hz) cl_L_23 ca_1 (.inr ⟨3, dL_open_12, rfl, rfl⟩) (by decide) (lget_drop [some (.ref 0), some (.int a1), some (.ref 99), none] 3) rfl ?_
      refine k_iconst (q := 14) (v := (1 : Int32)) hC dL_open_13 (by decide) rfl ?_
      exact k_iret hC hQ rfl dL_open_14
set_option maxRecDepth 100000 in
set_option maxHeartbeats 8000000 in
theorem wL_toll (e : gEV) (n : Nat) (hn : 100 ≤ n) (r r' : gRH) (xc xc' : gXH) (hm : gIH) (lo : gLH) (a1 : Int32) (a2 : Int32) (v : Int32 ⊕ Nat) (hcal : XCal e qX9_toll 8 n [.ref 0, .int a1, .int a2] r (xc, hm, lo) (xvI v) n r' (xc', hm, lo)) (hv : ∀ k, v = .inr k → k ∈ ([0, 1] : List Nat)) : WCal e qL_toll 9 n [.ref 0, .int a1, .int a2, .ref 99] r (xc, hm, lo) (wcode [0, 1] v) r' (xc', hm, (wlo v lo)) := by
  refine wcal_of oL_toll (lv := [some (.ref 0), some (.int a1), some (.int a2), some (.ref 99), none]) (fun v hv => by simp at hv; rcases hv with rfl | rfl | rfl | rfl <;> rfl) (Nat.le_of_ble_eq_true rfl) rfl (fun C hC hQ hT => ?_)
  refine k_aload_n (q := 1) hC dL_toll_0 rfl rfl ?_
  refine k_iconst (q := 2) (v := (0 : Int32)) hC dL_toll_1 (by decide) rfl ?_
  refine k_aload_n (q := 3) hC dL_toll_2 rfl rfl ?_
  refine k_iload_n (q := 4) hC dL_toll_3 rfl rfl ?_
  refine k_iload_n (q := 5) hC dL_toll_4 rfl rfl ?_
  refine k_xV (q := 8) (c0 := 0) (As := [.int a1, .int a2]) hC oX9_toll vX9_toll rfl (kd0 (Nat.le_trans (by decide) hn)) rfl rfl dL_toll_5 lk_L_36 hcal (by decide) rfl (Nat.le_of_ble_eq_true rfl) ⟨Nat.le_refl _, Nat.le_refl _⟩ rfl (fun u hu => ?_) (fun E hE => ?_)
  · obtain i | kx := v
    · cases hu
      refine k_i2l (q := 9) hC dL_toll_8 rfl ?_
      refine k_last (q := 10) (L := 1) hC dL_toll_9 (kd99 hn) (by unfold vp_in; decide) rfl ?_
      refine k_goto (tgt := 21) hC dL_toll_10 (by decide) ?_
      refine k_iconst (q := 22) (v := (0 : Int32)) hC dL_toll_21 (by decide) rfl ?_
      exact k_iret hC hQ rfl dL_toll_22
    · cases hu
  · obtain i | kx := v
    · cases hE
    · cases hE
      have hk := hv kx rfl
      simp only [List.mem_cons, List.not_mem_nil, or_false] at hk
      rcases hk with rfl | rfl
      · refine k_catch (pc := 5) (q := 15) (lv' := [some (.ref 0), some (.int a1), some (.int a2), some (.ref 99), none]) hC hT (E := "java/lang/IllegalArgumentException") (pre := []) (suf := [(0, 10, 17, 23)]) rfl (by decide) (by decide) (fun z hz => by simp at hz) cl_L_13 ca_0 (.inl ⟨dL_toll_13, rfl⟩) (by decide) (lget_drop [some (.ref 0), some (.int a1), some (.int a2), some (.ref 99), none] 4) rfl ?_
        refine k_iconst (q := 16) (v := (1 : Int32)) hC dL_toll_15 (by decide) rfl ?_
        exact k_iret hC hQ rfl dL_toll_16
      · refine k_catch (pc := 5) (q := 19) (lv' := [some (.ref 0), some (.int a1), some (.int a2), some (.ref 99), none]) hC hT (E := "java/lang/IllegalStateException") (pre := [(0, 10, 13, 13)]) (suf := []) rfl (by decide) (by decide) (fun z hz => by simp only [List.mem_cons, List.not_mem_nil, or_false] at hz; rcases hz with rfl; exact ⟨by decide, _, cl_L_13, by decide⟩) cl_L_23 ca_1 (.inl ⟨dL_toll_17, rfl⟩) (by decide) (lget_drop [some (.ref 0), some (.int a1), some (.int a2), some (.ref 99), none] 4) rfl ?_
        refine k_iconst (q := 20) (v := (2 : Int32)) hC dL_toll_19 (by decide) rfl ?_
        exact k_iret hC hQ rfl dL_toll_20
set_option maxRecDepth 100000 in
set_option maxHeartbeats 8000000 in
theorem wL_undo (e : gEV) (n : Nat) (hn : 100 ≤ n) (r r' : gRH) (xc xc' : gXH) (hm : gIH) (lo : gLH) (v : Int32 ⊕ Nat) (hcal : XCal e qX9_undo 8 n [.ref 0] r (xc, hm, lo) (xvI v) n r' (xc', hm, lo)) (hv : ∀ k, v = .inr k → k ∈ ([1] : List Nat)) : WCal e qL_undo 9 n [.ref 0, .ref 99] r (xc, hm, lo) (wcode [1] v) r' (xc', hm, (wlo v lo)) := by
  refine wcal_of oL_undo (lv := [some (.ref 0), some (.ref 99), none]) (fun v hv => by simp at hv; rcases hv with rfl | rfl <;> rfl) (Nat.le_of_ble_eq_true rfl) rfl (fun C hC hQ hT => ?_)
  refine k_aload_n (q := 1) hC dL_undo_0 rfl rfl ?_
  refine k_iconst (q := 2) (v := (0 : Int32)) hC dL_undo_1 (by decide) rfl ?_
  refine k_aload_n (q := 3) hC dL_undo_2 rfl rfl ?_
  refine k_xV (q := 6) (c0 := 0) (As := []) hC oX9_undo vX9_undo rfl (kd0 (Nat.le_trans (by decide) hn)) rfl rfl dL_undo_3 lk_L_39 hcal (by decide) rfl (Nat.le_of_ble_eq_true rfl) ⟨Nat.le_refl _, Nat.le_refl _⟩ rfl (fun u hu => ?_) (fun E hE => ?_)
  · obtain i | kx := v
    · cases hu
      refine k_i2l (q := 7) hC dL_undo_6 rfl ?_
      refine k_last (q := 8) (L := 1) hC dL_undo_7 (kd99 hn) (by unfold vp_in; decide) rfl ?_
      refine k_goto (tgt := 14) hC dL_undo_8 (by decide) ?_
      refine k_iconst (q := 15) (v := (0 : Int32)) hC dL_undo_14 (by decide) rfl ?_
      exact k_iret hC hQ rfl dL_undo_15
    · cases hu
  · obtain i | kx := v
    · cases hE
    · cases hE
      have hk := hv kx rfl
      simp only [List.mem_cons, List.not_mem_nil, or_false] at hk
      subst hk
      refine k_catch (pc := 3) (q := 12) (lv' := [some (.ref 0), some (.ref 99), none]) hC hT (E := "java/lang/IllegalStateException") (pre := []) (suf := []) rfl (by decide) (by decide) (fun z hz => by simp at hz) cl_L_23 ca_1 (.inr ⟨2, dL_undo_11, rfl, rfl⟩) (by decide) (lget_drop [some (.ref 0), some (.ref 99), none] 2) rfl ?_
      refine k_iconst (q := 13) (v := (1 : Int32)) hC dL_undo_12 (by decide) rfl ?_
      exact k_iret hC hQ rfl dL_undo_13
set_option maxRecDepth 100000 in
set_option maxHeartbeats 8000000 in
theorem wL_latest (e : gEV) (n : Nat) (hn : 100 ≤ n) (r r' : gRH) (xc xc' : gXH) (hm : gIH) (lo : gLH) (a1 : Int32) (v : Int32 ⊕ Nat) (hcal : XCal e qX9_latest 8 n [.ref 0, .int a1] r (xc, hm, lo) (xvI v) n r' (xc', hm, lo)) (hv : ∀ k, v = .inr k → k ∈ ([3] : List Nat)) : WCal e qL_latest 9 n [.ref 0, .int a1, .ref 99] r (xc, hm, lo) (wcode [3] v) r' (xc', hm, (wlo v lo)) := by
  refine wcal_of oL_latest (lv := [some (.ref 0), some (.int a1), some (.ref 99), none]) (fun v hv => by simp at hv; rcases hv with rfl | rfl | rfl <;> rfl) (Nat.le_of_ble_eq_true rfl) rfl (fun C hC hQ hT => ?_)
  refine k_aload_n (q := 1) hC dL_latest_0 rfl rfl ?_
  refine k_iconst (q := 2) (v := (0 : Int32)) hC dL_latest_1 (by decide) rfl ?_
  refine k_aload_n (q := 3) hC dL_latest_2 rfl rfl ?_
  refine k_iload_n (q := 4) hC dL_latest_3 rfl rfl ?_
  refine k_xV (q := 7) (c0 := 0) (As := [.int a1]) hC oX9_latest vX9_latest rfl (kd0 (Nat.le_trans (by decide) hn)) rfl rfl dL_latest_4 lk_L_42 hcal (by decide) rfl (Nat.le_of_ble_eq_true rfl) ⟨Nat.le_refl _, Nat.le_refl _⟩ rfl (fun u hu => ?_) (fun E hE => ?_)
  · obtain i | kx := v
    · cases hu
      refine k_i2l (q := 8) hC dL_latest_7 rfl ?_
      refine k_last (q := 9) (L := 1) hC dL_latest_8 (kd99 hn) (by unfold vp_in; decide) rfl ?_
      refine k_goto (tgt := 15) hC dL_latest_9 (by decide) ?_
      refine k_iconst (q := 16) (v := (0 : Int32)) hC dL_latest_15 (by decide) rfl ?_
      exact k_iret hC hQ rfl dL_latest_16
    · cases hu
  · obtain i | kx := v
    · cases hE
    · cases hE
      have hk := hv kx rfl
      simp only [List.mem_cons, List.not_mem_nil, or_false] at hk
      subst hk
      refine k_catch (pc := 4) (q := 13) (lv' := [some (.ref 0), some (.int a1), some (.ref 99), none]) hC hT (E := "java/util/NoSuchElementException") (pre := []) (suf := []) rfl (by decide) (by decide) (fun z hz => by simp at hz) cl_L_45 ca_3 (.inr ⟨3, dL_latest_12, rfl, rfl⟩) (by decide) (lget_drop [some (.ref 0), some (.int a1), some (.ref 99), none] 3) rfl ?_
      refine k_iconst (q := 14) (v := (1 : Int32)) hC dL_latest_13 (by decide) rfl ?_
      exact k_iret hC hQ rfl dL_latest_14
set_option maxRecDepth 100000 in
set_option maxHeartbeats 8000000 in
theorem wL_node (e : gEV) (n : Nat) (hn : 100 ≤ n) (r r' : gRH) (xc xc' : gXH) (hm : gIH) (lo : gLH) (a1 : Int32) (a2 : Int32) (v : Int32 ⊕ Nat) (hcal : XCal e qX9_node 8 n [.ref 0, .int a1, .int a2] r (xc, hm, lo) (xvI v) n r' (xc', hm, lo)) (hv : ∀ k, v = .inr k → k ∈ ([2, 3] : List Nat)) : WCal e qL_node 9 n [.ref 0, .int a1, .int a2, .ref 99] r (xc, hm, lo) (wcode [2, 3] v) r' (xc', hm, (wlo v lo)) := by
  refine wcal_of oL_node (lv := [some (.ref 0), some (.int a1), some (.int a2), some (.ref 99), none]) (fun v hv => by simp at hv; rcases hv with rfl | rfl | rfl | rfl <;> rfl) (Nat.le_of_ble_eq_true rfl) rfl (fun C hC hQ hT => ?_)
  refine k_aload_n (q := 1) hC dL_node_0 rfl rfl ?_
  refine k_iconst (q := 2) (v := (0 : Int32)) hC dL_node_1 (by decide) rfl ?_
  refine k_aload_n (q := 3) hC dL_node_2 rfl rfl ?_
  refine k_iload_n (q := 4) hC dL_node_3 rfl rfl ?_
  refine k_iload_n (q := 5) hC dL_node_4 rfl rfl ?_
  refine k_xV (q := 8) (c0 := 0) (As := [.int a1, .int a2]) hC oX9_node vX9_node rfl (kd0 (Nat.le_trans (by decide) hn)) rfl rfl dL_node_5 lk_L_47 hcal (by decide) rfl (Nat.le_of_ble_eq_true rfl) ⟨Nat.le_refl _, Nat.le_refl _⟩ rfl (fun u hu => ?_) (fun E hE => ?_)
  · obtain i | kx := v
    · cases hu
      refine k_i2l (q := 9) hC dL_node_8 rfl ?_
      refine k_last (q := 10) (L := 1) hC dL_node_9 (kd99 hn) (by unfold vp_in; decide) rfl ?_
      refine k_goto (tgt := 21) hC dL_node_10 (by decide) ?_
      refine k_iconst (q := 22) (v := (0 : Int32)) hC dL_node_21 (by decide) rfl ?_
      exact k_iret hC hQ rfl dL_node_22
    · cases hu
  · obtain i | kx := v
    · cases hE
    · cases hE
      have hk := hv kx rfl
      simp only [List.mem_cons, List.not_mem_nil, or_false] at hk
      rcases hk with rfl | rfl
      · refine k_catch (pc := 5) (q := 15) (lv' := [some (.ref 0), some (.int a1), some (.int a2), some (.ref 99), none]) hC hT (E := "java/lang/IndexOutOfBoundsException") (pre := []) (suf := [(0, 10, 17, 45)]) rfl (by decide) (by decide) (fun z hz => by simp at hz) cl_L_50 ca_2 (.inl ⟨dL_node_13, rfl⟩) (by decide) (lget_drop [some (.ref 0), some (.int a1), some (.int a2), some (.ref 99), none] 4) rfl ?_
        refine k_iconst (q := 16) (v := (1 : Int32)) hC dL_node_15 (by decide) rfl ?_
        exact k_iret hC hQ rfl dL_node_16
      · refine k_catch (pc := 5) (q := 19) (lv' := [some (.ref 0), some (.int a1), some (.int a2), some (.ref 99), none]) hC hT (E := "java/util/NoSuchElementException") (pre := [(0, 10, 13, 50)]) (suf := []) rfl (by decide) (by decide) (fun z hz => by simp only [List.mem_cons, List.not_mem_nil, or_false] at hz; rcases hz with rfl; exact ⟨by decide, _, cl_L_50, by decide⟩) cl_L_45 ca_3 (.inl ⟨dL_node_17, rfl⟩) (by decide) (lget_drop [some (.ref 0), some (.int a1), some (.int a2), some (.ref 99), none] 4) rfl ?_
        refine k_iconst (q := 20) (v := (2 : Int32)) hC dL_node_19 (by decide) rfl ?_
        exact k_iret hC hQ rfl dL_node_20
set_option maxRecDepth 100000 in
set_option maxHeartbeats 8000000 in
theorem wL_keeps (e : gEV) (n : Nat) (hn : 100 ≤ n) (r r' : gRH) (xc xc' : gXH) (hm : gIH) (lo : gLH) (a1 : Int32) (a2 : Int32) (v : Int32 ⊕ Nat) (hcal : XCal e qX9_keeps 8 n [.ref 0, .int a1, .int a2] r (xc, hm, lo) (xvI v) n r' (xc', hm, lo)) (hv : ∀ k, v = .inr k → k ∈ ([2] : List Nat)) : WCal e qL_keeps 9 n [.ref 0, .int a1, .int a2, .ref 99] r (xc, hm, lo) (wcode [2] v) r' (xc', hm, (wlz v lo)) := by
  refine wcal_of oL_keeps (lv := [some (.ref 0), some (.int a1), some (.int a2), some (.ref 99), none]) (fun v hv => by simp at hv; rcases hv with rfl | rfl | rfl | rfl <;> rfl) (Nat.le_of_ble_eq_true rfl) rfl (fun C hC hQ hT => ?_)
  refine k_aload_n (q := 1) hC dL_keeps_0 rfl rfl ?_
  refine k_iconst (q := 2) (v := (0 : Int32)) hC dL_keeps_1 (by decide) rfl ?_
  refine k_aload_n (q := 3) hC dL_keeps_2 rfl rfl ?_
  refine k_iload_n (q := 4) hC dL_keeps_3 rfl rfl ?_
  refine k_iload_n (q := 5) hC dL_keeps_4 rfl rfl ?_
  refine k_xV (q := 8) (c0 := 0) (As := [.int a1, .int a2]) hC oX9_keeps vX9_keeps rfl (kd0 (Nat.le_trans (by decide) hn)) rfl rfl dL_keeps_5 lk_L_52 hcal (by decide) rfl (Nat.le_of_ble_eq_true rfl) ⟨Nat.le_refl _, Nat.le_refl _⟩ rfl (fun u hu => ?_) (fun E hE => ?_)
  · obtain i | kx := v
    · cases hu
      refine k_if_eq (q := 11) (tgt := 15) hC dL_keeps_8 (by decide) rfl (fun hc => ?_) (fun hc => ?_)
      · refine k_lconst (q := 16) (v := (0 : Int64)) hC dL_keeps_15 (by decide) rfl ?_
        refine k_last (q := 17) (L := 1) hC dL_keeps_16 (kd99 hn) (by unfold vp_in; decide) rfl ?_
        refine k_goto (tgt := 24) hC dL_keeps_17 (by decide) ?_
        refine k_iconst (q := 25) (v := (0 : Int32)) hC dL_keeps_24 (by decide) rfl ?_
        refine k_iret hC ?_ rfl dL_keeps_25
        have hQ2 : QOk e C (some .int) 1 6 (some (.int (wcode [0] (Sum.inl i : Int32 ⊕ Nat)))) n r' (xc', hm, wlz (.inl i) lo) := hQ
        simpa [wlz, wcode, hc] using hQ2
      · refine k_lconst (q := 12) (v := (1 : Int64)) hC dL_keeps_11 (by decide) rfl ?_
        refine k_goto (tgt := 16) hC dL_keeps_12 (by decide) ?_
        refine k_last (q := 17) (L := 1) hC dL_keeps_16 (kd99 hn) (by unfold vp_in; decide) rfl ?_
        refine k_goto (tgt := 24) hC dL_keeps_17 (by decide) ?_
        refine k_iconst (q := 25) (v := (0 : Int32)) hC dL_keeps_24 (by decide) rfl ?_
        refine k_iret hC ?_ rfl dL_keeps_25
        have hQ2 : QOk e C (some .int) 1 6 (some (.int (wcode [0] (Sum.inl i : Int32 ⊕ Nat)))) n r' (xc', hm, wlz (.inl i) lo) := hQ
        simpa [wlz, wcode, hc] using hQ2
    · cases hu
  · obtain i | kx := v
    · cases hE
    · cases hE
      have hk := hv kx rfl
      simp only [List.mem_cons, List.not_mem_nil, or_false] at hk
      subst hk
      refine k_catch (pc := 5) (q := 22) (lv' := [some (.ref 0), some (.int a1), some (.int a2), some (.ref 99), none]) hC hT (E := "java/lang/IndexOutOfBoundsException") (pre := []) (suf := []) rfl (by decide) (by decide) (fun z hz => by simp at hz) cl_L_50 ca_2 (.inl ⟨dL_keeps_20, rfl⟩) (by decide) (lget_drop [some (.ref 0), some (.int a1), some (.int a2), some (.ref 99), none] 4) rfl ?_
      refine k_iconst (q := 23) (v := (1 : Int32)) hC dL_keeps_22 (by decide) rfl ?_
      exact k_iret hC hQ rfl dL_keeps_23
set_option maxRecDepth 100000 in
set_option maxHeartbeats 8000000 in
theorem wL_common (e : gEV) (n : Nat) (hn : 100 ≤ n) (r r' : gRH) (xc xc' : gXH) (hm : gIH) (lo : gLH) (a1 : Int32) (a2 : Int32) (v : Int32 ⊕ Nat) (hcal : XCal e qX9_common 8 n [.ref 0, .int a1, .int a2] r (xc, hm, lo) (xvI v) n r' (xc', hm, lo)) (hv : ∀ k, v = .inr k → k ∈ ([2] : List Nat)) : WCal e qL_common 9 n [.ref 0, .int a1, .int a2, .ref 99] r (xc, hm, lo) (wcode [2] v) r' (xc', hm, (wlo v lo)) := by
  refine wcal_of oL_common (lv := [some (.ref 0), some (.int a1), some (.int a2), some (.ref 99), none]) (fun v hv => by simp at hv; rcases hv with rfl | rfl | rfl | rfl <;> rfl) (Nat.le_of_ble_eq_true rfl) rfl (fun C hC hQ hT => ?_)
  refine k_aload_n (q := 1) hC dL_common_0 rfl rfl ?_
  refine k_iconst (q := 2) (v := (0 : Int32)) hC dL_common_1 (by decide) rfl ?_
  refine k_aload_n (q := 3) hC dL_common_2 rfl rfl ?_
  refine k_iload_n (q := 4) hC dL_common_3 rfl rfl ?_
  refine k_iload_n (q := 5) hC dL_common_4 rfl rfl ?_
  refine k_xV (q := 8) (c0 := 0) (As := [.int a1, .int a2]) hC oX9_common vX9_common rfl (kd0 (Nat.le_trans (by decide) hn)) rfl rfl dL_common_5 lk_L_56 hcal (by decide) rfl (Nat.le_of_ble_eq_true rfl) ⟨Nat.le_refl _, Nat.le_refl _⟩ rfl (fun u hu => ?_) (fun E hE => ?_)
  · obtain i | kx := v
    · cases hu
      refine k_i2l (q := 9) hC dL_common_8 rfl ?_
      refine k_last (q := 10) (L := 1) hC dL_common_9 (kd99 hn) (by unfold vp_in; decide) rfl ?_
      refine k_goto (tgt := 17) hC dL_common_10 (by decide) ?_
      refine k_iconst (q := 18) (v := (0 : Int32)) hC dL_common_17 (by decide) rfl ?_
      exact k_iret hC hQ rfl dL_common_18
    · cases hu
  · obtain i | kx := v
    · cases hE
    · cases hE
      have hk := hv kx rfl
      simp only [List.mem_cons, List.not_mem_nil, or_false] at hk
      subst hk
      refine k_catch (pc := 5) (q := 15) (lv' := [some (.ref 0), some (.int a1), some (.int a2), some (.ref 99), none]) hC hT (E := "java/lang/IndexOutOfBoundsException") (pre := []) (suf := []) rfl (by decide) (by decide) (fun z hz => by simp at hz) cl_L_50 ca_2 (.inl ⟨dL_common_13, rfl⟩) (by decide) (lget_drop [some (.ref 0), some (.int a1), some (.int a2), some (.ref 99), none] 4) rfl ?_
      refine k_iconst (q := 16) (v := (1 : Int32)) hC dL_common_15 (by decide) rfl ?_
      exact k_iret hC hQ rfl dL_common_16
set_option maxRecDepth 100000 in
set_option maxHeartbeats 8000000 in
theorem wL_arc (e : gEV) (n : Nat) (hn : 100 ≤ n) (r r' : gRH) (xc xc' : gXH) (hm : gIH) (lo : gLH) (a1 : Int32) (a2 : Int32) (v : Int32 ⊕ Nat) (hcal : XCal e qX9_arc 8 n [.ref 0, .int a1, .int a2] r (xc, hm, lo) (xvI v) n r' (xc', hm, lo)) (hv : ∀ k, v = .inr k → k ∈ ([2, 3] : List Nat)) : WCal e qL_arc 9 n [.ref 0, .int a1, .int a2, .ref 99] r (xc, hm, lo) (wcode [2, 3] v) r' (xc', hm, (wlo v lo)) := by
  refine wcal_of oL_arc (lv := [some (.ref 0), some (.int a1), some (.int a2), some (.ref 99), none]) (fun v hv => by simp at hv; rcases hv with rfl | rfl | rfl | rfl <;> rfl) (Nat.le_of_ble_eq_true rfl) rfl (fun C hC hQ hT => ?_)
  refine k_aload_n (q := 1) hC dL_arc_0 rfl rfl ?_
  refine k_iconst (q := 2) (v := (0 : Int32)) hC dL_arc_1 (by decide) rfl ?_
  refine k_aload_n (q := 3) hC dL_arc_2 rfl rfl ?_
  refine k_iload_n (q := 4) hC dL_arc_3 rfl rfl ?_
  refine k_iload_n (q := 5) hC dL_arc_4 rfl rfl ?_
  refine k_xV (q := 8) (c0 := 0) (As := [.int a1, .int a2]) hC oX9_arc vX9_arc rfl (kd0 (Nat.le_trans (by decide) hn)) rfl rfl dL_arc_5 lk_L_59 hcal (by decide) rfl (Nat.le_of_ble_eq_true rfl) ⟨Nat.le_refl _, Nat.le_refl _⟩ rfl (fun u hu => ?_) (fun E hE => ?_)
  · obtain i | kx := v
    · cases hu
      refine k_i2l (q := 9) hC dL_arc_8 rfl ?_
      refine k_last (q := 10) (L := 1) hC dL_arc_9 (kd99 hn) (by unfold vp_in; decide) rfl ?_
      refine k_goto (tgt := 21) hC dL_arc_10 (by decide) ?_
      refine k_iconst (q := 22) (v := (0 : Int32)) hC dL_arc_21 (by decide) rfl ?_
      exact k_iret hC hQ rfl dL_arc_22
    · cases hu
  · obtain i | kx := v
    · cases hE
    · cases hE
      have hk := hv kx rfl
      simp only [List.mem_cons, List.not_mem_nil, or_false] at hk
      rcases hk with rfl | rfl
      · refine k_catch (pc := 5) (q := 15) (lv' := [some (.ref 0), some (.int a1), some (.int a2), some (.ref 99), none]) hC hT (E := "java/lang/IndexOutOfBoundsException") (pre := []) (suf := [(0, 10, 17, 45)]) rfl (by decide) (by decide) (fun z hz => by simp at hz) cl_L_50 ca_2 (.inl ⟨dL_arc_13, rfl⟩) (by decide) (lget_drop [some (.ref 0), some (.int a1), some (.int a2), some (.ref 99), none] 4) rfl ?_
        refine k_iconst (q := 16) (v := (1 : Int32)) hC dL_arc_15 (by decide) rfl ?_
        exact k_iret hC hQ rfl dL_arc_16
      · refine k_catch (pc := 5) (q := 19) (lv' := [some (.ref 0), some (.int a1), some (.int a2), some (.ref 99), none]) hC hT (E := "java/util/NoSuchElementException") (pre := [(0, 10, 13, 50)]) (suf := []) rfl (by decide) (by decide) (fun z hz => by simp only [List.mem_cons, List.not_mem_nil, or_false] at hz; rcases hz with rfl; exact ⟨by decide, _, cl_L_50, by decide⟩) cl_L_45 ca_3 (.inl ⟨dL_arc_17, rfl⟩) (by decide) (lget_drop [some (.ref 0), some (.int a1), some (.int a2), some (.ref 99), none] 4) rfl ?_
        refine k_iconst (q := 20) (v := (2 : Int32)) hC dL_arc_19 (by decide) rfl ?_
        exact k_iret hC hQ rfl dL_arc_20
set_option maxRecDepth 100000 in
set_option maxHeartbeats 8000000 in
theorem wL_without (e : gEV) (n : Nat) (hn : 100 ≤ n) (r r' : gRH) (xc xc' : gXH) (hm : gIH) (lo : gLH) (a1 : Int32) (v : Int32 ⊕ Nat) (hcal : XCal e qX9_without 8 n [.ref 0, .int a1] r (xc, hm, lo) (xvI v) n r' (xc', hm, lo)) (hv : ∀ k, v = .inr k → k ∈ ([2] : List Nat)) : WCal e qL_without 9 n [.ref 0, .int a1, .ref 99] r (xc, hm, lo) (wcode [2] v) r' (xc', hm, (wlo v lo)) := by
  refine wcal_of oL_without (lv := [some (.ref 0), some (.int a1), some (.ref 99), none]) (fun v hv => by simp at hv; rcases hv with rfl | rfl | rfl <;> rfl) (Nat.le_of_ble_eq_true rfl) rfl (fun C hC hQ hT => ?_)
  refine k_aload_n (q := 1) hC dL_without_0 rfl rfl ?_
  refine k_iconst (q := 2) (v := (0 : Int32)) hC dL_without_1 (by decide) rfl ?_
  refine k_aload_n (q := 3) hC dL_without_2 rfl rfl ?_
  refine k_iload_n (q := 4) hC dL_without_3 rfl rfl ?_
  refine k_xV (q := 7) (c0 := 0) (As := [.int a1]) hC oX9_without vX9_without rfl (kd0 (Nat.le_trans (by decide) hn)) rfl rfl dL_without_4 lk_L_62 hcal (by decide) rfl (Nat.le_of_ble_eq_true rfl) ⟨Nat.le_refl _, Nat.le_refl _⟩ rfl (fun u hu => ?_) (fun E hE => ?_)
  · obtain i | kx := v
    · cases hu
      refine k_i2l (q := 8) hC dL_without_7 rfl ?_
      refine k_last (q := 9) (L := 1) hC dL_without_8 (kd99 hn) (by unfold vp_in; decide) rfl ?_
      refine k_goto (tgt := 15) hC dL_without_9 (by decide) ?_
      refine k_iconst (q := 16) (v := (0 : Int32)) hC dL_without_15 (by decide) rfl ?_
      exact k_iret hC hQ rfl dL_without_16
    · cases hu
  · obtain i | kx := v
    · cases hE
    · cases hE
      have hk := hv kx rfl
      simp only [List.mem_cons, List.not_mem_nil, or_false] at hk
      subst hk
      refine k_catch (pc := 4) (q := 13) (lv' := [some (.ref 0), some (.int a1), some (.ref 99), none]) hC hT (E := "java/lang/IndexOutOfBoundsException") (pre := []) (suf := []) rfl (by decide) (by decide) (fun z hz => by simp at hz) cl_L_50 ca_2 (.inr ⟨3, dL_without_12, rfl, rfl⟩) (by decide) (lget_drop [some (.ref 0), some (.int a1), some (.ref 99), none] 3) rfl ?_
      refine k_iconst (q := 14) (v := (1 : Int32)) hC dL_without_13 (by decide) rfl ?_
      exact k_iret hC hQ rfl dL_without_14
set_option maxRecDepth 100000 in
set_option maxHeartbeats 8000000 in
theorem wL_seal (e : gEV) (n : Nat) (hn : 100 ≤ n) (r r' : gRH) (xc xc' : gXH) (hm : gIH) (lo : gLH) (a1 : Int32) (v : Int32 ⊕ Nat) (hcal : XCal e qX9_seal 8 n [.ref 0, .int a1] r (xc, hm, lo) (xvI v) n r' (xc', hm, lo)) (hv : ∀ k, v = .inr k → k ∈ ([0] : List Nat)) : WCal e qL_seal 9 n [.ref 0, .int a1, .ref 99] r (xc, hm, lo) (wcode [0] v) r' (xc', hm, (wlo v lo)) := by
  refine wcal_of oL_seal (lv := [some (.ref 0), some (.int a1), some (.ref 99), none]) (fun v hv => by simp at hv; rcases hv with rfl | rfl | rfl <;> rfl) (Nat.le_of_ble_eq_true rfl) rfl (fun C hC hQ hT => ?_)
  refine k_aload_n (q := 1) hC dL_seal_0 rfl rfl ?_
  refine k_iconst (q := 2) (v := (0 : Int32)) hC dL_seal_1 (by decide) rfl ?_
  refine k_aload_n (q := 3) hC dL_seal_2 rfl rfl ?_
  refine k_iload_n (q := 4) hC dL_seal_3 rfl rfl ?_
  refine k_xV (q := 7) (c0 := 0) (As := [.int a1]) hC oX9_seal vX9_seal rfl (kd0 (Nat.le_trans (by decide) hn)) rfl rfl dL_seal_4 lk_L_65 hcal (by decide) rfl (Nat.le_of_ble_eq_true rfl) ⟨Nat.le_refl _, Nat.le_refl _⟩ rfl (fun u hu => ?_) (fun E hE => ?_)
  · obtain i | kx := v
    · cases hu
      refine k_i2l (q := 8) hC dL_seal_7 rfl ?_
      refine k_last (q := 9) (L := 1) hC dL_seal_8 (kd99 hn) (by unfold vp_in; decide) rfl ?_
      refine k_goto (tgt := 15) hC dL_seal_9 (by decide) ?_
      refine k_iconst (q := 16) (v := (0 : Int32)) hC dL_seal_15 (by decide) rfl ?_
      exact k_iret hC hQ rfl dL_seal_16
    · cases hu
  · obtain i | kx := v
    · cases hE
    · cases hE
      have hk := hv kx rfl
      simp only [List.mem_cons, List.not_mem_nil, or_false] at hk
      subst hk
      refine k_catch (pc := 4) (q := 13) (lv' := [some (.ref 0), some (.int a1), some (.ref 99), none]) hC hT (E := "java/lang/IllegalArgumentException") (pre := []) (suf := []) rfl (by decide) (by decide) (fun z hz => by simp at hz) cl_L_13 ca_0 (.inr ⟨3, dL_seal_12, rfl, rfl⟩) (by decide) (lget_drop [some (.ref 0), some (.int a1), some (.ref 99), none] 3) rfl ?_
      refine k_iconst (q := 14) (v := (1 : Int32)) hC dL_seal_13 (by decide) rfl ?_
      exact k_iret hC hQ rfl dL_seal_14
set_option maxRecDepth 100000 in
set_option maxHeartbeats 8000000 in
theorem wL_chain (e : gEV) (n : Nat) (hn : 100 ≤ n) (r r' : gRH) (xc xc' : gXH) (hm : gIH) (lo : gLH) (a1 : Int32) (a2 : Int32) (v : Int32 ⊕ Nat) (hcal : XCal e qX9_chain 8 n [.ref 0, .int a1, .int a2] r (xc, hm, lo) (xvI v) n r' (xc', hm, lo)) (hv : ∀ k, v = .inr k → k ∈ ([2] : List Nat)) : WCal e qL_chain 9 n [.ref 0, .int a1, .int a2, .ref 99] r (xc, hm, lo) (wcode [2] v) r' (xc', hm, (wlo v lo)) := by
  refine wcal_of oL_chain (lv := [some (.ref 0), some (.int a1), some (.int a2), some (.ref 99), none]) (fun v hv => by simp at hv; rcases hv with rfl | rfl | rfl | rfl <;> rfl) (Nat.le_of_ble_eq_true rfl) rfl (fun C hC hQ hT => ?_)
  refine k_aload_n (q := 1) hC dL_chain_0 rfl rfl ?_
  refine k_iconst (q := 2) (v := (0 : Int32)) hC dL_chain_1 (by decide) rfl ?_
  refine k_aload_n (q := 3) hC dL_chain_2 rfl rfl ?_
  refine k_iload_n (q := 4) hC dL_chain_3 rfl rfl ?_
  refine k_iload_n (q := 5) hC dL_chain_4 rfl rfl ?_
  refine k_xV (q := 8) (c0 := 0) (As := [.int a1, .int a2]) hC oX9_chain vX9_chain rfl (kd0 (Nat.le_trans (by decide) hn)) rfl rfl dL_chain_5 lk_L_68 hcal (by decide) rfl (Nat.le_of_ble_eq_true rfl) ⟨Nat.le_refl _, Nat.le_refl _⟩ rfl (fun u hu => ?_) (fun E hE => ?_)
  · obtain i | kx := v
    · cases hu
      refine k_i2l (q := 9) hC dL_chain_8 rfl ?_
      refine k_last (q := 10) (L := 1) hC dL_chain_9 (kd99 hn) (by unfold vp_in; decide) rfl ?_
      refine k_goto (tgt := 17) hC dL_chain_10 (by decide) ?_
      refine k_iconst (q := 18) (v := (0 : Int32)) hC dL_chain_17 (by decide) rfl ?_
      exact k_iret hC hQ rfl dL_chain_18
    · cases hu
  · obtain i | kx := v
    · cases hE
    · cases hE
      have hk := hv kx rfl
      simp only [List.mem_cons, List.not_mem_nil, or_false] at hk
      subst hk
      refine k_catch (pc := 5) (q := 15) (lv' := [some (.ref 0), some (.int a1), some (.int a2), some (.ref 99), none]) hC hT (E := "java/lang/IndexOutOfBoundsException") (pre := []) (suf := []) rfl (by decide) (by decide) (fun z hz => by simp at hz) cl_L_50 ca_2 (.inl ⟨dL_chain_13, rfl⟩) (by decide) (lget_drop [some (.ref 0), some (.int a1), some (.int a2), some (.ref 99), none] 4) rfl ?_
      refine k_iconst (q := 16) (v := (1 : Int32)) hC dL_chain_15 (by decide) rfl ?_
      exact k_iret hC hQ rfl dL_chain_16
set_option maxRecDepth 100000 in
set_option maxHeartbeats 8000000 in
theorem wL_via (e : gEV) (n : Nat) (hn : 100 ≤ n) (r r' : gRH) (xc xc' : gXH) (hm : gIH) (lo : gLH) (a1 : Int32) (a2 : Int32) (v : Int32 ⊕ Nat) (hcal : XCal e qX9_via 8 n [.ref 0, .int a1, .int a2] r (xc, hm, lo) (xvI v) n r' (xc', hm, lo)) (hv : ∀ k, v = .inr k → k ∈ ([2] : List Nat)) : WCal e qL_via 9 n [.ref 0, .int a1, .int a2, .ref 99] r (xc, hm, lo) (wcode [2] v) r' (xc', hm, (wlo v lo)) := by
  refine wcal_of oL_via (lv := [some (.ref 0), some (.int a1), some (.int a2), some (.ref 99), none]) (fun v hv => by simp at hv; rcases hv with rfl | rfl | rfl | rfl <;> rfl) (Nat.le_of_ble_eq_true rfl) rfl (fun C hC hQ hT => ?_)
  refine k_aload_n (q := 1) hC dL_via_0 rfl rfl ?_
  refine k_iconst (q := 2) (v := (0 : Int32)) hC dL_via_1 (by decide) rfl ?_
  refine k_aload_n (q := 3) hC dL_via_2 rfl rfl ?_
  refine k_iload_n (q := 4) hC dL_via_3 rfl rfl ?_
  refine k_iload_n (q := 5) hC dL_via_4 rfl rfl ?_
  refine k_xV (q := 8) (c0 := 0) (As := [.int a1, .int a2]) hC oX9_via vX9_via rfl (kd0 (Nat.le_trans (by decide) hn)) rfl rfl dL_via_5 lk_L_71 hcal (by decide) rfl (Nat.le_of_ble_eq_true rfl) ⟨Nat.le_refl _, Nat.le_refl _⟩ rfl (fun u hu => ?_) (fun E hE => ?_)
  · obtain i | kx := v
    · cases hu
      refine k_i2l (q := 9) hC dL_via_8 rfl ?_
      refine k_last (q := 10) (L := 1) hC dL_via_9 (kd99 hn) (by unfold vp_in; decide) rfl ?_
      refine k_goto (tgt := 17) hC dL_via_10 (by decide) ?_
      refine k_iconst (q := 18) (v := (0 : Int32)) hC dL_via_17 (by decide) rfl ?_
      exact k_iret hC hQ rfl dL_via_18
    · cases hu
  · obtain i | kx := v
    · cases hE
    · cases hE
      have hk := hv kx rfl
      simp only [List.mem_cons, List.not_mem_nil, or_false] at hk
      subst hk
      refine k_catch (pc := 5) (q := 15) (lv' := [some (.ref 0), some (.int a1), some (.int a2), some (.ref 99), none]) hC hT (E := "java/lang/IndexOutOfBoundsException") (pre := []) (suf := []) rfl (by decide) (by decide) (fun z hz => by simp at hz) cl_L_50 ca_2 (.inl ⟨dL_via_13, rfl⟩) (by decide) (lget_drop [some (.ref 0), some (.int a1), some (.int a2), some (.ref 99), none] 4) rfl ?_
      refine k_iconst (q := 16) (v := (1 : Int32)) hC dL_via_15 (by decide) rfl ?_
      exact k_iret hC hQ rfl dL_via_16
set_option maxRecDepth 100000 in
set_option maxHeartbeats 8000000 in
theorem wL_pass (e : gEV) (n : Nat) (hn : 100 ≤ n) (r r' : gRH) (xc xc' : gXH) (hm : gIH) (lo : gLH) (a1 : Int32) (a2 : Int32) (v : Int32 ⊕ Nat) (hcal : XCal e qX9_pass 8 n [.ref 0, .int a1, .int a2] r (xc, hm, lo) (xvI v) n r' (xc', hm, lo)) (hv : ∀ k, v = .inr k → k ∈ ([2] : List Nat)) : WCal e qL_pass 9 n [.ref 0, .int a1, .int a2, .ref 99] r (xc, hm, lo) (wcode [2] v) r' (xc', hm, (wlo v lo)) := by
  refine wcal_of oL_pass (lv := [some (.ref 0), some (.int a1), some (.int a2), some (.ref 99), none]) (fun v hv => by simp at hv; rcases hv with rfl | rfl | rfl | rfl <;> rfl) (Nat.le_of_ble_eq_true rfl) rfl (fun C hC hQ hT => ?_)
  refine k_aload_n (q := 1) hC dL_pass_0 rfl rfl ?_
  refine k_iconst (q := 2) (v := (0 : Int32)) hC dL_pass_1 (by decide) rfl ?_
  refine k_aload_n (q := 3) hC dL_pass_2 rfl rfl ?_
  refine k_iload_n (q := 4) hC dL_pass_3 rfl rfl ?_
  refine k_iload_n (q := 5) hC dL_pass_4 rfl rfl ?_
  refine k_xV (q := 8) (c0 := 0) (As := [.int a1, .int a2]) hC oX9_pass vX9_pass rfl (kd0 (Nat.le_trans (by decide) hn)) rfl rfl dL_pass_5 lk_L_74 hcal (by decide) rfl (Nat.le_of_ble_eq_true rfl) ⟨Nat.le_refl _, Nat.le_refl _⟩ rfl (fun u hu => ?_) (fun E hE => ?_)
  · obtain i | kx := v
    · cases hu
      refine k_i2l (q := 9) hC dL_pass_8 rfl ?_
      refine k_last (q := 10) (L := 1) hC dL_pass_9 (kd99 hn) (by unfold vp_in; decide) rfl ?_
      refine k_goto (tgt := 17) hC dL_pass_10 (by decide) ?_
      refine k_iconst (q := 18) (v := (0 : Int32)) hC dL_pass_17 (by decide) rfl ?_
      exact k_iret hC hQ rfl dL_pass_18
    · cases hu
  · obtain i | kx := v
    · cases hE
    · cases hE
      have hk := hv kx rfl
      simp only [List.mem_cons, List.not_mem_nil, or_false] at hk
      subst hk
      refine k_catch (pc := 5) (q := 15) (lv' := [some (.ref 0), some (.int a1), some (.int a2), some (.ref 99), none]) hC hT (E := "java/lang/IndexOutOfBoundsException") (pre := []) (suf := []) rfl (by decide) (by decide) (fun z hz => by simp at hz) cl_L_50 ca_2 (.inl ⟨dL_pass_13, rfl⟩) (by decide) (lget_drop [some (.ref 0), some (.int a1), some (.int a2), some (.ref 99), none] 4) rfl ?_
      refine k_iconst (q := 16) (v := (1 : Int32)) hC dL_pass_15 (by decide) rfl ?_
      exact k_iret hC hQ rfl dL_pass_16
set_option maxRecDepth 100000 in
set_option maxHeartbeats 8000000 in
theorem wL_fall (e : gEV) (n : Nat) (hn : 100 ≤ n) (r r' : gRH) (xc xc' : gXH) (hm : gIH) (lo : gLH) (a1 : Int32) (a2 : Int32) (v : Int32 ⊕ Nat) (hcal : XCal e qX9_fall 8 n [.ref 0, .int a1, .int a2] r (xc, hm, lo) (xvI v) n r' (xc', hm, lo)) (hv : ∀ k, v = .inr k → k ∈ ([2, 3, 1] : List Nat)) : WCal e qL_fall 9 n [.ref 0, .int a1, .int a2, .ref 99] r (xc, hm, lo) (wcode [2, 3, 1] v) r' (xc', hm, (wlo v lo)) := by
  refine wcal_of oL_fall (lv := [some (.ref 0), some (.int a1), some (.int a2), some (.ref 99), none]) (fun v hv => by simp at hv; rcases hv with rfl | rfl | rfl | rfl <;> rfl) (Nat.le_of_ble_eq_true rfl) rfl (fun C hC hQ hT => ?_)
  refine k_aload_n (q := 1) hC dL_fall_0 rfl rfl ?_
  refine k_iconst (q := 2) (v := (0 : Int32)) hC dL_fall_1 (by decide) rfl ?_
  refine k_aload_n (q := 3) hC dL_fall_2 rfl rfl ?_
  refine k_iload_n (q := 4) hC dL_fall_3 rfl rfl ?_
  refine k_iload_n (q := 5) hC dL_fall_4 rfl rfl ?_
  refine k_xV (q := 8) (c0 := 0) (As := [.int a1, .int a2]) hC oX9_fall vX9_fall rfl (kd0 (Nat.le_trans (by decide) hn)) rfl rfl dL_fall_5 lk_L_77 hcal (by decide) rfl (Nat.le_of_ble_eq_true rfl) ⟨Nat.le_refl _, Nat.le_refl _⟩ rfl (fun u hu => ?_) (fun E hE => ?_)
  · obtain i | kx := v
    · cases hu
      refine k_i2l (q := 9) hC dL_fall_8 rfl ?_
      refine k_last (q := 10) (L := 1) hC dL_fall_9 (kd99 hn) (by unfold vp_in; decide) rfl ?_
      refine k_goto (tgt := 25) hC dL_fall_10 (by decide) ?_
      refine k_iconst (q := 26) (v := (0 : Int32)) hC dL_fall_25 (by decide) rfl ?_
      exact k_iret hC hQ rfl dL_fall_26
    · cases hu
  · obtain i | kx := v
    · cases hE
    · cases hE
      have hk := hv kx rfl
      simp only [List.mem_cons, List.not_mem_nil, or_false] at hk
      rcases hk with rfl | rfl | rfl
      · refine k_catch (pc := 5) (q := 15) (lv' := [some (.ref 0), some (.int a1), some (.int a2), some (.ref 99), none]) hC hT (E := "java/lang/IndexOutOfBoundsException") (pre := []) (suf := [(0, 10, 17, 45), (0, 10, 21, 23)]) rfl (by decide) (by decide) (fun z hz => by simp at hz) cl_L_50 ca_2 (.inl ⟨dL_fall_13, rfl⟩) (by decide) (lget_drop [some (.ref 0), some (.int a1), some (.int a2), some (.ref 99), none] 4) rfl ?_
        refine k_iconst (q := 16) (v := (1 : Int32)) hC dL_fall_15 (by decide) rfl ?_
        exact k_iret hC hQ rfl dL_fall_16
      · refine k_catch (pc := 5) (q := 19) (lv' := [some (.ref 0), some (.int a1), some (.int a2), some (.ref 99), none]) hC hT (E := "java/util/NoSuchElementException") (pre := [(0, 10, 13, 50)]) (suf := [(0, 10, 21, 23)]) rfl (by decide) (by decide) (fun z hz => by simp only [List.mem_cons, List.not_mem_nil, or_false] at hz; rcases hz with rfl; exact ⟨by decide, _, cl_L_50, by decide⟩) cl_L_45 ca_3 (.inl ⟨dL_fall_17, rfl⟩) (by decide) (lget_drop [some (.ref 0), some (.int a1), some (.int a2), some (.ref 99), none] 4) rfl ?_
        refine k_iconst (q := 20) (v := (2 : Int32)) hC dL_fall_19 (by decide) rfl ?_
        exact k_iret hC hQ rfl dL_fall_20
      · refine k_catch (pc := 5) (q := 23) (lv' := [some (.ref 0), some (.int a1), some (.int a2), some (.ref 99), none]) hC hT (E := "java/lang/IllegalStateException") (pre := [(0, 10, 13, 50), (0, 10, 17, 45)]) (suf := []) rfl (by decide) (by decide) (fun z hz => by
        simp only [List.mem_cons, List.not_mem_nil, or_false] at hz
        rcases hz with rfl | rfl
        · exact ⟨by decide, _, cl_L_50, by decide⟩
        · exact ⟨by decide, _, cl_L_45, by decide⟩) cl_L_23 ca_1 (.inl ⟨dL_fall_21, rfl⟩) (by decide) (lget_drop [some (.ref 0), some (.int a1), some (.int a2), some (.ref 99), none] 4) rfl ?_
        refine k_iconst (q := 24) (v := (3 : Int32)) hC dL_fall_23 (by decide) rfl ?_
        exact k_iret hC hQ rfl dL_fall_24
set_option maxRecDepth 100000 in
set_option maxHeartbeats 8000000 in
theorem wL_worst (e : gEV) (n : Nat) (hn : 100 ≤ n) (r r' : gRH) (xc xc' : gXH) (hm : gIH) (lo : gLH) (a1 : Int32) (v : Int32 ⊕ Nat) (hcal : XCal e qX9_worst 8 n [.ref 0, .int a1] r (xc, hm, lo) (xvI v) n r' (xc', hm, lo)) (hv : ∀ k, v = .inr k → k ∈ ([3] : List Nat)) : WCal e qL_worst 9 n [.ref 0, .int a1, .ref 99] r (xc, hm, lo) (wcode [3] v) r' (xc', hm, (wlo v lo)) := by
  refine wcal_of oL_worst (lv := [some (.ref 0), some (.int a1), some (.ref 99), none]) (fun v hv => by simp at hv; rcases hv with rfl | rfl | rfl <;> rfl) (Nat.le_of_ble_eq_true rfl) rfl (fun C hC hQ hT => ?_)
  refine k_aload_n (q := 1) hC dL_worst_0 rfl rfl ?_
  refine k_iconst (q := 2) (v := (0 : Int32)) hC dL_worst_1 (by decide) rfl ?_
  refine k_aload_n (q := 3) hC dL_worst_2 rfl rfl ?_
  refine k_iload_n (q := 4) hC dL_worst_3 rfl rfl ?_
  refine k_xV (q := 7) (c0 := 0) (As := [.int a1]) hC oX9_worst vX9_worst rfl (kd0 (Nat.le_trans (by decide) hn)) rfl rfl dL_worst_4 lk_L_80 hcal (by decide) rfl (Nat.le_of_ble_eq_true rfl) ⟨Nat.le_refl _, Nat.le_refl _⟩ rfl (fun u hu => ?_) (fun E hE => ?_)
  · obtain i | kx := v
    · cases hu
      refine k_i2l (q := 8) hC dL_worst_7 rfl ?_
      refine k_last (q := 9) (L := 1) hC dL_worst_8 (kd99 hn) (by unfold vp_in; decide) rfl ?_
      refine k_goto (tgt := 15) hC dL_worst_9 (by decide) ?_
      refine k_iconst (q := 16) (v := (0 : Int32)) hC dL_worst_15 (by decide) rfl ?_
      exact k_iret hC hQ rfl dL_worst_16
    · cases hu
  · obtain i | kx := v
    · cases hE
    · cases hE
      have hk := hv kx rfl
      simp only [List.mem_cons, List.not_mem_nil, or_false] at hk
      subst hk
      refine k_catch (pc := 4) (q := 13) (lv' := [some (.ref 0), some (.int a1), some (.ref 99), none]) hC hT (E := "java/util/NoSuchElementException") (pre := []) (suf := []) rfl (by decide) (by decide) (fun z hz => by simp at hz) cl_L_45 ca_3 (.inr ⟨3, dL_worst_12, rfl, rfl⟩) (by decide) (lget_drop [some (.ref 0), some (.int a1), some (.ref 99), none] 3) rfl ?_
      refine k_iconst (q := 14) (v := (1 : Int32)) hC dL_worst_13 (by decide) rfl ?_
      exact k_iret hC hQ rfl dL_worst_14
set_option maxRecDepth 100000 in
set_option maxHeartbeats 8000000 in
theorem wL_would (e : gEV) (n : Nat) (hn : 100 ≤ n) (r r' : gRH) (xc xc' : gXH) (hm : gIH) (lo : gLH) (a1 : Int32) (a2 : Int32) (a3 : Int32) (v : Int32 ⊕ Nat) (hcal : XCal e qX9_would 8 n [.ref 0, .int a1, .int a2, .int a3] r (xc, hm, lo) (xvI v) n r' (xc', hm, lo)) (hv : ∀ k, v = .inr k → k ∈ ([2, 3] : List Nat)) : WCal e qL_would 9 n [.ref 0, .int a1, .int a2, .int a3, .ref 99] r (xc, hm, lo) (wcode [2, 3] v) r' (xc', hm, (wlo v lo)) := by
  refine wcal_of oL_would (lv := [some (.ref 0), some (.int a1), some (.int a2), some (.int a3), some (.ref 99), none]) (fun v hv => by simp at hv; rcases hv with rfl | rfl | rfl | rfl | rfl <;> rfl) (Nat.le_of_ble_eq_true rfl) rfl (fun C hC hQ hT => ?_)
  refine k_aload (q := 2) hC dL_would_0 rfl rfl ?_
  refine k_iconst (q := 3) (v := (0 : Int32)) hC dL_would_2 (by decide) rfl ?_
  refine k_aload_n (q := 4) hC dL_would_3 rfl rfl ?_
  refine k_iload_n (q := 5) hC dL_would_4 rfl rfl ?_
  refine k_iload_n (q := 6) hC dL_would_5 rfl rfl ?_
  refine k_iload_n (q := 7) hC dL_would_6 rfl rfl ?_
  refine k_xV (q := 10) (c0 := 0) (As := [.int a1, .int a2, .int a3]) hC oX9_would vX9_would rfl (kd0 (Nat.le_trans (by decide) hn)) rfl rfl dL_would_7 lk_L_83 hcal (by decide) rfl (Nat.le_of_ble_eq_true rfl) ⟨Nat.le_refl _, Nat.le_refl _⟩ rfl (fun u hu => ?_) (fun E hE => ?_)
  · obtain i | kx := v
    · cases hu
      refine k_i2l (q := 11) hC dL_would_10 rfl ?_
      refine k_last (q := 12) (L := 1) hC dL_would_11 (kd99 hn) (by unfold vp_in; decide) rfl ?_
      refine k_goto (tgt := 23) hC dL_would_12 (by decide) ?_
      refine k_iconst (q := 24) (v := (0 : Int32)) hC dL_would_23 (by decide) rfl ?_
      exact k_iret hC hQ rfl dL_would_24
    · cases hu
  · obtain i | kx := v
    · cases hE
    · cases hE
      have hk := hv kx rfl
      simp only [List.mem_cons, List.not_mem_nil, or_false] at hk
      rcases hk with rfl | rfl
      · refine k_catch (pc := 7) (q := 17) (lv' := [some (.ref 0), some (.int a1), some (.int a2), some (.int a3), some (.ref 99), none]) hC hT (E := "java/lang/IndexOutOfBoundsException") (pre := []) (suf := [(0, 12, 19, 45)]) rfl (by decide) (by decide) (fun z hz => by simp at hz) cl_L_50 ca_2 (.inl ⟨dL_would_15, rfl⟩) (by decide) (lget_drop [some (.ref 0), some (.int a1), some (.int a2), some (.int a3), some (.ref 99), none] 5) rfl ?_
        refine k_iconst (q := 18) (v := (1 : Int32)) hC dL_would_17 (by decide) rfl ?_
        exact k_iret hC hQ rfl dL_would_18
      · refine k_catch (pc := 7) (q := 21) (lv' := [some (.ref 0), some (.int a1), some (.int a2), some (.int a3), some (.ref 99), none]) hC hT (E := "java/util/NoSuchElementException") (pre := [(0, 12, 15, 50)]) (suf := []) rfl (by decide) (by decide) (fun z hz => by simp only [List.mem_cons, List.not_mem_nil, or_false] at hz; rcases hz with rfl; exact ⟨by decide, _, cl_L_50, by decide⟩) cl_L_45 ca_3 (.inl ⟨dL_would_19, rfl⟩) (by decide) (lget_drop [some (.ref 0), some (.int a1), some (.int a2), some (.int a3), some (.ref 99), none] 5) rfl ?_
        refine k_iconst (q := 22) (v := (2 : Int32)) hC dL_would_21 (by decide) rfl ?_
        exact k_iret hC hQ rfl dL_would_22
set_option maxRecDepth 100000 in
set_option maxHeartbeats 8000000 in
theorem wL_best (e : gEV) (n : Nat) (hn : 100 ≤ n) (r r' : gRH) (xc xc' : gXH) (hm : gIH) (lo : gLH) (a1 : Int32) (v : Int32 ⊕ Nat) (hcal : XCal e qX9_best 8 n [.ref 0, .int a1] r (xc, hm, lo) (xvI v) n r' (xc', hm, lo)) (hv : ∀ k, v = .inr k → k ∈ ([3] : List Nat)) : WCal e qL_best 9 n [.ref 0, .int a1, .ref 99] r (xc, hm, lo) (wcode [3] v) r' (xc', hm, (wlo v lo)) := by
  refine wcal_of oL_best (lv := [some (.ref 0), some (.int a1), some (.ref 99), none]) (fun v hv => by simp at hv; rcases hv with rfl | rfl | rfl <;> rfl) (Nat.le_of_ble_eq_true rfl) rfl (fun C hC hQ hT => ?_)
  refine k_aload_n (q := 1) hC dL_best_0 rfl rfl ?_
  refine k_iconst (q := 2) (v := (0 : Int32)) hC dL_best_1 (by decide) rfl ?_
  refine k_aload_n (q := 3) hC dL_best_2 rfl rfl ?_
  refine k_iload_n (q := 4) hC dL_best_3 rfl rfl ?_
  refine k_xV (q := 7) (c0 := 0) (As := [.int a1]) hC oX9_best vX9_best rfl (kd0 (Nat.le_trans (by decide) hn)) rfl rfl dL_best_4 lk_L_87 hcal (by decide) rfl (Nat.le_of_ble_eq_true rfl) ⟨Nat.le_refl _, Nat.le_refl _⟩ rfl (fun u hu => ?_) (fun E hE => ?_)
  · obtain i | kx := v
    · cases hu
      refine k_i2l (q := 8) hC dL_best_7 rfl ?_
      refine k_last (q := 9) (L := 1) hC dL_best_8 (kd99 hn) (by unfold vp_in; decide) rfl ?_
      refine k_goto (tgt := 15) hC dL_best_9 (by decide) ?_
      refine k_iconst (q := 16) (v := (0 : Int32)) hC dL_best_15 (by decide) rfl ?_
      exact k_iret hC hQ rfl dL_best_16
    · cases hu
  · obtain i | kx := v
    · cases hE
    · cases hE
      have hk := hv kx rfl
      simp only [List.mem_cons, List.not_mem_nil, or_false] at hk
      subst hk
      refine k_catch (pc := 4) (q := 13) (lv' := [some (.ref 0), some (.int a1), some (.ref 99), none]) hC hT (E := "java/util/NoSuchElementException") (pre := []) (suf := []) rfl (by decide) (by decide) (fun z hz => by simp at hz) cl_L_45 ca_3 (.inr ⟨3, dL_best_12, rfl, rfl⟩) (by decide) (lget_drop [some (.ref 0), some (.int a1), some (.ref 99), none] 3) rfl ?_
      refine k_iconst (q := 14) (v := (1 : Int32)) hC dL_best_13 (by decide) rfl ?_
      exact k_iret hC hQ rfl dL_best_14
set_option maxRecDepth 100000 in
set_option maxHeartbeats 8000000 in
theorem wL_text (e : gEV) (n : Nat) (hn : 100 ≤ n) (r r' : gRH) (xc xc' : gXH) (hm : gIH) (lo : gLH) (a1 : Int32) (v : Int32 ⊕ Nat) (hcal : XCal e qX9_text 8 n [.ref 0, .int a1] r (xc, hm, lo) (xvI v) n r' (xc', hm, lo)) (hv : ∀ k, v = .inr k → k ∈ ([2] : List Nat)) : WCal e qL_text 9 n [.ref 0, .int a1, .ref 99] r (xc, hm, lo) (wcode [2] v) r' (xc', hm, (wlo v lo)) := by
  refine wcal_of oL_text (lv := [some (.ref 0), some (.int a1), some (.ref 99), none]) (fun v hv => by simp at hv; rcases hv with rfl | rfl | rfl <;> rfl) (Nat.le_of_ble_eq_true rfl) rfl (fun C hC hQ hT => ?_)
  refine k_aload_n (q := 1) hC dL_text_0 rfl rfl ?_
  refine k_iconst (q := 2) (v := (0 : Int32)) hC dL_text_1 (by decide) rfl ?_
  refine k_aload_n (q := 3) hC dL_text_2 rfl rfl ?_
  refine k_iload_n (q := 4) hC dL_text_3 rfl rfl ?_
  refine k_xV (q := 7) (c0 := 0) (As := [.int a1]) hC oX9_text vX9_text rfl (kd0 (Nat.le_trans (by decide) hn)) rfl rfl dL_text_4 lk_L_90 hcal (by decide) rfl (Nat.le_of_ble_eq_true rfl) ⟨Nat.le_refl _, Nat.le_refl _⟩ rfl (fun u hu => ?_) (fun E hE => ?_)
  · obtain i | kx := v
    · cases hu
      refine k_i2l (q := 8) hC dL_text_7 rfl ?_
      refine k_last (q := 9) (L := 1) hC dL_text_8 (kd99 hn) (by unfold vp_in; decide) rfl ?_
      refine k_goto (tgt := 15) hC dL_text_9 (by decide) ?_
      refine k_iconst (q := 16) (v := (0 : Int32)) hC dL_text_15 (by decide) rfl ?_
      exact k_iret hC hQ rfl dL_text_16
    · cases hu
  · obtain i | kx := v
    · cases hE
    · cases hE
      have hk := hv kx rfl
      simp only [List.mem_cons, List.not_mem_nil, or_false] at hk
      subst hk
      refine k_catch (pc := 4) (q := 13) (lv' := [some (.ref 0), some (.int a1), some (.ref 99), none]) hC hT (E := "java/lang/IndexOutOfBoundsException") (pre := []) (suf := []) rfl (by decide) (by decide) (fun z hz => by simp at hz) cl_L_50 ca_2 (.inr ⟨3, dL_text_12, rfl, rfl⟩) (by decide) (lget_drop [some (.ref 0), some (.int a1), some (.ref 99), none] 3) rfl ?_
      refine k_iconst (q := 14) (v := (1 : Int32)) hC dL_text_13 (by decide) rfl ?_
      exact k_iret hC hQ rfl dL_text_14
