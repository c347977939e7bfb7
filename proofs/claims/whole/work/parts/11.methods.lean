/-! ===== methods: descriptors, what the tables say of them, links of calls ===== -/
abbrev mX0_init : ab_M := (yX0_init, cX0_init, 5, none, 1, 8, 2000)
set_option maxRecDepth 100000 in
theorem Y_X0_init : ab_Y mX0_init 4 := ⟨tb_2 (List.mem_of_getElem? (i := 121) rfl) rfl, tb_1 (List.mem_of_getElem? (i := 9) (by decide +kernel)) rfl, ⟨by decide, by decide⟩, by decide +kernel, by decide⟩
abbrev mX0_forget : ab_M := (yX0_forget, cX0_forget, 1, none, 1, 0, 0)
set_option maxRecDepth 100000 in
theorem Y_X0_forget : ab_Y mX0_forget 0 := ⟨tb_3 (List.mem_of_getElem? (i := 236) rfl) rfl, tb_1 (List.mem_of_getElem? (i := 9) (by decide +kernel)) rfl, ⟨by decide, by decide⟩, by decide +kernel, by decide⟩
abbrev mX0_relate : ab_M := (yX0_relate, cX0_relate, 2, none, 6, 0, 0)
set_option maxRecDepth 100000 in
theorem Y_X0_relate : ab_Y mX0_relate 0 := ⟨tb_5 (List.mem_of_getElem? (i := 59) rfl) rfl, tb_1 (List.mem_of_getElem? (i := 9) (by decide +kernel)) rfl, ⟨by decide, by decide⟩, by decide +kernel, by decide⟩
abbrev mX0_lightAt : ab_M := (yX0_lightAt, cX0_lightAt, 5, (some .int), 5, 0, 0)
set_option maxRecDepth 100000 in
theorem Y_X0_lightAt : ab_Y mX0_lightAt 1 := ⟨tb_5 (List.mem_of_getElem? (i := 139) rfl) rfl, tb_1 (List.mem_of_getElem? (i := 9) (by decide +kernel)) rfl, ⟨by decide, by decide⟩, by decide +kernel, by decide⟩
abbrev mX0_shine : ab_M := (yX0_shine, cX0_shine, 5, (some .int), 4, 0, 0)
set_option maxRecDepth 100000 in
theorem Y_X0_shine : ab_Y mX0_shine 4 := ⟨tb_5 (List.mem_of_getElem? (i := 143) rfl) rfl, tb_1 (List.mem_of_getElem? (i := 9) (by decide +kernel)) rfl, ⟨by decide, by decide⟩, by decide +kernel, by decide⟩
abbrev mX0_firstOut : ab_M := (yX0_firstOut, cX0_firstOut, 3, (some .int), 1, 0, 0)
set_option maxRecDepth 100000 in
theorem Y_X0_firstOut : ab_Y mX0_firstOut 1 := ⟨tb_5 (List.mem_of_getElem? (i := 157) rfl) rfl, tb_1 (List.mem_of_getElem? (i := 9) (by decide +kernel)) rfl, ⟨by decide, by decide⟩, by decide +kernel, by decide⟩
abbrev mX0_darkErrands : ab_M := (yX0_darkErrands, cX0_darkErrands, 7, (some .int), 6, 0, 0)
set_option maxRecDepth 100000 in
theorem Y_X0_darkErrands : ab_Y mX0_darkErrands 1 := ⟨tb_5 (List.mem_of_getElem? (i := 165) rfl) rfl, tb_1 (List.mem_of_getElem? (i := 9) (by decide +kernel)) rfl, ⟨by decide, by decide⟩, by decide +kernel, by decide⟩
abbrev mX0_findWalk : ab_M := (yX0_findWalk, cX0_findWalk, 7, none, 6, 0, 0)
set_option maxRecDepth 100000 in
theorem Y_X0_findWalk : ab_Y mX0_findWalk 4 := ⟨tb_5 (List.mem_of_getElem? (i := 212) rfl) rfl, tb_1 (List.mem_of_getElem? (i := 9) (by decide +kernel)) rfl, ⟨by decide, by decide⟩, by decide +kernel, by decide⟩
abbrev mX0_layWalk : ab_M := (yX0_layWalk, cX0_layWalk, 7, none, 2, 0, 0)
set_option maxRecDepth 100000 in
theorem Y_X0_layWalk : ab_Y mX0_layWalk 2 := ⟨tb_5 (List.mem_of_getElem? (i := 220) rfl) rfl, tb_1 (List.mem_of_getElem? (i := 9) (by decide +kernel)) rfl, ⟨by decide, by decide⟩, by decide +kernel, by decide⟩
abbrev mX1_init : ab_M := (yX1_init, cX1_init, 4, none, 2, 13, 800)
set_option maxRecDepth 100000 in
theorem Y_X1_init : ab_Y mX1_init 3 := ⟨tb_2 (List.mem_of_getElem? (i := 172) rfl) rfl, tb_1 (List.mem_of_getElem? (i := 10) (by decide +kernel)) rfl, ⟨by decide, by decide⟩, by decide +kernel, by decide⟩
abbrev mX1_forget : ab_M := (yX1_forget, cX1_forget, 1, none, 1, 0, 0)
set_option maxRecDepth 100000 in
theorem Y_X1_forget : ab_Y mX1_forget 0 := ⟨tb_4 (List.mem_of_getElem? (i := 0) rfl) rfl, tb_1 (List.mem_of_getElem? (i := 10) (by decide +kernel)) rfl, ⟨by decide, by decide⟩, by decide +kernel, by decide⟩
abbrev mX1_litWith : ab_M := (yX1_litWith, cX1_litWith, 4, (some .int), 7, 0, 0)
set_option maxRecDepth 100000 in
theorem Y_X1_litWith : ab_Y mX1_litWith 2 := ⟨tb_6 (List.mem_of_getElem? (i := 181) rfl) rfl, tb_1 (List.mem_of_getElem? (i := 10) (by decide +kernel)) rfl, ⟨by decide, by decide⟩, by decide +kernel, by decide⟩
abbrev mX1_litFrom : ab_M := (yX1_litFrom, cX1_litFrom, 6, (some .int), 6, 0, 0)
set_option maxRecDepth 100000 in
theorem Y_X1_litFrom : ab_Y mX1_litFrom 3 := ⟨tb_5 (List.mem_of_getElem? (i := 233) rfl) rfl, tb_1 (List.mem_of_getElem? (i := 10) (by decide +kernel)) rfl, ⟨by decide, by decide⟩, by decide +kernel, by decide⟩
abbrev mX1_findWorst : ab_M := (yX1_findWorst, cX1_findWorst, 11, none, 7, 0, 0)
set_option maxRecDepth 100000 in
theorem Y_X1_findWorst : ab_Y mX1_findWorst 4 := ⟨tb_5 (List.mem_of_getElem? (i := 228) rfl) rfl, tb_1 (List.mem_of_getElem? (i := 10) (by decide +kernel)) rfl, ⟨by decide, by decide⟩, by decide +kernel, by decide⟩
abbrev mX1_layTrial : ab_M := (yX1_layTrial, cX1_layTrial, 9, (some .boolean), 3, 0, 0)
set_option maxRecDepth 100000 in
theorem Y_X1_layTrial : ab_Y mX1_layTrial 4 := ⟨tb_6 (List.mem_of_getElem? (i := 4) rfl) rfl, tb_1 (List.mem_of_getElem? (i := 10) (by decide +kernel)) rfl, ⟨by decide, by decide⟩, by decide +kernel, by decide⟩
abbrev mX1_findLiking : ab_M := (yX1_findLiking, cX1_findLiking, 7, none, 6, 0, 0)
set_option maxRecDepth 100000 in
theorem Y_X1_findLiking : ab_Y mX1_findLiking 1 := ⟨tb_6 (List.mem_of_getElem? (i := 107) rfl) rfl, tb_1 (List.mem_of_getElem? (i := 10) (by decide +kernel)) rfl, ⟨by decide, by decide⟩, by decide +kernel, by decide⟩
abbrev mX1_unrest : ab_M := (yX1_unrest, cX1_unrest, 2, (some .int), 7, 0, 0)
set_option maxRecDepth 100000 in
theorem Y_X1_unrest : ab_Y mX1_unrest 0 := ⟨tb_6 (List.mem_of_getElem? (i := 103) rfl) rfl, tb_1 (List.mem_of_getElem? (i := 10) (by decide +kernel)) rfl, ⟨by decide, by decide⟩, by decide +kernel, by decide⟩
abbrev mX1_findStrangers : ab_M := (yX1_findStrangers, cX1_findStrangers, 2, none, 7, 0, 0)
set_option maxRecDepth 100000 in
theorem Y_X1_findStrangers : ab_Y mX1_findStrangers 0 := ⟨tb_6 (List.mem_of_getElem? (i := 129) rfl) rfl, tb_1 (List.mem_of_getElem? (i := 10) (by decide +kernel)) rfl, ⟨by decide, by decide⟩, by decide +kernel, by decide⟩
abbrev mX1_findChanges : ab_M := (yX1_findChanges, cX1_findChanges, 3, none, 7, 0, 0)
set_option maxRecDepth 100000 in
theorem Y_X1_findChanges : ab_Y mX1_findChanges 0 := ⟨tb_6 (List.mem_of_getElem? (i := 160) rfl) rfl, tb_1 (List.mem_of_getElem? (i := 10) (by decide +kernel)) rfl, ⟨by decide, by decide⟩, by decide +kernel, by decide⟩
abbrev mX1_gatherSoot : ab_M := (yX1_gatherSoot, cX1_gatherSoot, 4, none, 2, 0, 0)
set_option maxRecDepth 100000 in
theorem Y_X1_gatherSoot : ab_Y mX1_gatherSoot 0 := ⟨tb_6 (List.mem_of_getElem? (i := 133) rfl) rfl, tb_1 (List.mem_of_getElem? (i := 10) (by decide +kernel)) rfl, ⟨by decide, by decide⟩, by decide +kernel, by decide⟩
abbrev mX1_isSootExplained : ab_M := (yX1_isSootExplained, cX1_isSootExplained, 3, (some .boolean), 6, 0, 0)
set_option maxRecDepth 100000 in
theorem Y_X1_isSootExplained : ab_Y mX1_isSootExplained 0 := ⟨tb_6 (List.mem_of_getElem? (i := 143) rfl) rfl, tb_1 (List.mem_of_getElem? (i := 10) (by decide +kernel)) rfl, ⟨by decide, by decide⟩, by decide +kernel, by decide⟩
abbrev mX2_init : ab_M := (yX2_init, cX2_init, 1, none, 1, 3, 200)
set_option maxRecDepth 100000 in
theorem Y_X2_init : ab_Y mX2_init 0 := ⟨tb_1 (List.mem_of_getElem? (i := 165) rfl) rfl, tb_1 (List.mem_of_getElem? (i := 5) (by decide +kernel)) rfl, ⟨by decide, by decide⟩, by decide +kernel, by decide⟩
abbrev mX2_run : ab_M := (yX2_run, cX2_run, 14, (some .int), 1, 0, 0)
set_option maxRecDepth 100000 in
theorem Y_X2_run : ab_Y mX2_run 2 := ⟨tb_5 (List.mem_of_getElem? (i := 15) rfl) rfl, tb_1 (List.mem_of_getElem? (i := 5) (by decide +kernel)) rfl, ⟨by decide, by decide⟩, by decide +kernel, by decide⟩
abbrev mX3_init : ab_M := (yX3_init, cX3_init, 4, none, 1, 11, 700)
set_option maxRecDepth 100000 in
theorem Y_X3_init : ab_Y mX3_init 3 := ⟨tb_2 (List.mem_of_getElem? (i := 39) rfl) rfl, tb_1 (List.mem_of_getElem? (i := 8) (by decide +kernel)) rfl, ⟨by decide, by decide⟩, by decide +kernel, by decide⟩
abbrev mX3_load : ab_M := (yX3_load, cX3_load, 3, none, 3, 0, 0)
set_option maxRecDepth 100000 in
theorem Y_X3_load : ab_Y mX3_load 0 := ⟨tb_3 (List.mem_of_getElem? (i := 221) rfl) rfl, tb_1 (List.mem_of_getElem? (i := 8) (by decide +kernel)) rfl, ⟨by decide, by decide⟩, by decide +kernel, by decide⟩
abbrev mX3_placeOf : ab_M := (yX3_placeOf, cX3_placeOf, 5, (some .int), 2, 0, 0)
set_option maxRecDepth 100000 in
theorem Y_X3_placeOf : ab_Y mX3_placeOf 2 := ⟨tb_3 (List.mem_of_getElem? (i := 227) rfl) rfl, tb_1 (List.mem_of_getElem? (i := 8) (by decide +kernel)) rfl, ⟨by decide, by decide⟩, by decide +kernel, by decide⟩
abbrev mX3_invite : ab_M := (yX3_invite, cX3_invite, 4, none, 1, 0, 0)
set_option maxRecDepth 100000 in
theorem Y_X3_invite : ab_Y mX3_invite 2 := ⟨tb_6 (List.mem_of_getElem? (i := 139) rfl) rfl, tb_1 (List.mem_of_getElem? (i := 8) (by decide +kernel)) rfl, ⟨by decide, by decide⟩, by decide +kernel, by decide⟩
abbrev mX3_disguise : ab_M := (yX3_disguise, cX3_disguise, 3, none, 2, 0, 0)
set_option maxRecDepth 100000 in
theorem Y_X3_disguise : ab_Y mX3_disguise 2 := ⟨tb_6 (List.mem_of_getElem? (i := 111) rfl) rfl, tb_1 (List.mem_of_getElem? (i := 8) (by decide +kernel)) rfl, ⟨by decide, by decide⟩, by decide +kernel, by decide⟩
abbrev mX3_carry : ab_M := (yX3_carry, cX3_carry, 4, none, 1, 0, 0)
set_option maxRecDepth 100000 in
theorem Y_X3_carry : ab_Y mX3_carry 2 := ⟨tb_6 (List.mem_of_getElem? (i := 9) rfl) rfl, tb_1 (List.mem_of_getElem? (i := 8) (by decide +kernel)) rfl, ⟨by decide, by decide⟩, by decide +kernel, by decide⟩
abbrev mX3_dismiss : ab_M := (yX3_dismiss, cX3_dismiss, 1, none, 2, 0, 0)
set_option maxRecDepth 100000 in
theorem Y_X3_dismiss : ab_Y mX3_dismiss 0 := ⟨tb_3 (List.mem_of_getElem? (i := 232) rfl) rfl, tb_1 (List.mem_of_getElem? (i := 8) (by decide +kernel)) rfl, ⟨by decide, by decide⟩, by decide +kernel, by decide⟩
abbrev mX3_restart : ab_M := (yX3_restart, cX3_restart, 2, none, 2, 0, 0)
set_option maxRecDepth 100000 in
theorem Y_X3_restart : ab_Y mX3_restart 0 := ⟨tb_5 (List.mem_of_getElem? (i := 64) rfl) rfl, tb_1 (List.mem_of_getElem? (i := 8) (by decide +kernel)) rfl, ⟨by decide, by decide⟩, by decide +kernel, by decide⟩
abbrev mX3_keep : ab_M := (yX3_keep, cX3_keep, 1, none, 1, 0, 0)
set_option maxRecDepth 100000 in
theorem Y_X3_keep : ab_Y mX3_keep 0 := ⟨tb_5 (List.mem_of_getElem? (i := 239) rfl) rfl, tb_1 (List.mem_of_getElem? (i := 8) (by decide +kernel)) rfl, ⟨by decide, by decide⟩, by decide +kernel, by decide⟩
abbrev mX3_recall : ab_M := (yX3_recall, cX3_recall, 1, none, 1, 0, 0)
set_option maxRecDepth 100000 in
theorem Y_X3_recall : ab_Y mX3_recall 0 := ⟨tb_6 (List.mem_of_getElem? (i := 13) rfl) rfl, tb_1 (List.mem_of_getElem? (i := 8) (by decide +kernel)) rfl, ⟨by decide, by decide⟩, by decide +kernel, by decide⟩
abbrev mX3_step : ab_M := (yX3_step, cX3_step, 4, (some .int), 5, 0, 0)
set_option maxRecDepth 100000 in
theorem Y_X3_step : ab_Y mX3_step 1 := ⟨tb_5 (List.mem_of_getElem? (i := 68) rfl) rfl, tb_1 (List.mem_of_getElem? (i := 8) (by decide +kernel)) rfl, ⟨by decide, by decide⟩, by decide +kernel, by decide⟩
abbrev mX3_prepare : ab_M := (yX3_prepare, cX3_prepare, 5, none, 2, 0, 0)
set_option maxRecDepth 100000 in
theorem Y_X3_prepare : ab_Y mX3_prepare 1 := ⟨tb_5 (List.mem_of_getElem? (i := 72) rfl) rfl, tb_1 (List.mem_of_getElem? (i := 8) (by decide +kernel)) rfl, ⟨by decide, by decide⟩, by decide +kernel, by decide⟩
abbrev mX3_kindle : ab_M := (yX3_kindle, cX3_kindle, 3, none, 1, 0, 0)
set_option maxRecDepth 100000 in
theorem Y_X3_kindle : ab_Y mX3_kindle 2 := ⟨tb_5 (List.mem_of_getElem? (i := 76) rfl) rfl, tb_1 (List.mem_of_getElem? (i := 8) (by decide +kernel)) rfl, ⟨by decide, by decide⟩, by decide +kernel, by decide⟩
abbrev mX3_stirredLamps : ab_M := (yX3_stirredLamps, cX3_stirredLamps, 1, (some .int), 2, 0, 0)
set_option maxRecDepth 100000 in
theorem Y_X3_stirredLamps : ab_Y mX3_stirredLamps 0 := ⟨tb_5 (List.mem_of_getElem? (i := 80) rfl) rfl, tb_1 (List.mem_of_getElem? (i := 8) (by decide +kernel)) rfl, ⟨by decide, by decide⟩, by decide +kernel, by decide⟩
abbrev mX3_movedLanterns : ab_M := (yX3_movedLanterns, cX3_movedLanterns, 6, (some .int), 2, 0, 0)
set_option maxRecDepth 100000 in
theorem Y_X3_movedLanterns : ab_Y mX3_movedLanterns 1 := ⟨tb_5 (List.mem_of_getElem? (i := 85) rfl) rfl, tb_1 (List.mem_of_getElem? (i := 8) (by decide +kernel)) rfl, ⟨by decide, by decide⟩, by decide +kernel, by decide⟩
abbrev mX3_fleeing : ab_M := (yX3_fleeing, cX3_fleeing, 8, (some .int), 4, 0, 0)
set_option maxRecDepth 100000 in
theorem Y_X3_fleeing : ab_Y mX3_fleeing 1 := ⟨tb_5 (List.mem_of_getElem? (i := 89) rfl) rfl, tb_1 (List.mem_of_getElem? (i := 8) (by decide +kernel)) rfl, ⟨by decide, by decide⟩, by decide +kernel, by decide⟩
abbrev mX3_shunnedBy : ab_M := (yX3_shunnedBy, cX3_shunnedBy, 9, (some .int), 4, 0, 0)
set_option maxRecDepth 100000 in
theorem Y_X3_shunnedBy : ab_Y mX3_shunnedBy 2 := ⟨tb_5 (List.mem_of_getElem? (i := 102) rfl) rfl, tb_1 (List.mem_of_getElem? (i := 8) (by decide +kernel)) rfl, ⟨by decide, by decide⟩, by decide +kernel, by decide⟩
abbrev mX3_olderThan : ab_M := (yX3_olderThan, cX3_olderThan, 4, (some .int), 1, 0, 0)
set_option maxRecDepth 100000 in
theorem Y_X3_olderThan : ab_Y mX3_olderThan 1 := ⟨tb_5 (List.mem_of_getElem? (i := 106) rfl) rfl, tb_1 (List.mem_of_getElem? (i := 8) (by decide +kernel)) rfl, ⟨by decide, by decide⟩, by decide +kernel, by decide⟩
abbrev mX3_yields : ab_M := (yX3_yields, cX3_yields, 3, (some .boolean), 2, 0, 0)
set_option maxRecDepth 100000 in
theorem Y_X3_yields : ab_Y mX3_yields 1 := ⟨tb_5 (List.mem_of_getElem? (i := 114) rfl) rfl, tb_1 (List.mem_of_getElem? (i := 8) (by decide +kernel)) rfl, ⟨by decide, by decide⟩, by decide +kernel, by decide⟩
abbrev mX3_cameLater : ab_M := (yX3_cameLater, cX3_cameLater, 3, (some .boolean), 1, 0, 0)
set_option maxRecDepth 100000 in
theorem Y_X3_cameLater : ab_Y mX3_cameLater 2 := ⟨tb_5 (List.mem_of_getElem? (i := 118) rfl) rfl, tb_1 (List.mem_of_getElem? (i := 8) (by decide +kernel)) rfl, ⟨by decide, by decide⟩, by decide +kernel, by decide⟩
abbrev mX3_finish : ab_M := (yX3_finish, cX3_finish, 6, (some .int), 4, 0, 0)
set_option maxRecDepth 100000 in
theorem Y_X3_finish : ab_Y mX3_finish 2 := ⟨tb_5 (List.mem_of_getElem? (i := 122) rfl) rfl, tb_1 (List.mem_of_getElem? (i := 8) (by decide +kernel)) rfl, ⟨by decide, by decide⟩, by decide +kernel, by decide⟩
abbrev mX4_init : ab_M := (yX4_init, cX4_init, 5, none, 1, 8, 300)
set_option maxRecDepth 100000 in
theorem Y_X4_init : ab_Y mX4_init 4 := ⟨tb_3 (List.mem_of_getElem? (i := 1) rfl) rfl, tb_1 (List.mem_of_getElem? (i := 11) (by decide +kernel)) rfl, ⟨by decide, by decide⟩, by decide +kernel, by decide⟩
abbrev mX4_forget : ab_M := (yX4_forget, cX4_forget, 1, none, 1, 0, 0)
set_option maxRecDepth 100000 in
theorem Y_X4_forget : ab_Y mX4_forget 0 := ⟨tb_4 (List.mem_of_getElem? (i := 4) rfl) rfl, tb_1 (List.mem_of_getElem? (i := 11) (by decide +kernel)) rfl, ⟨by decide, by decide⟩, by decide +kernel, by decide⟩
abbrev mX4_placeOf : ab_M := (yX4_placeOf, cX4_placeOf, 4, (some .int), 1, 0, 0)
set_option maxRecDepth 100000 in
theorem Y_X4_placeOf : ab_Y mX4_placeOf 2 := ⟨tb_6 (List.mem_of_getElem? (i := 36) rfl) rfl, tb_1 (List.mem_of_getElem? (i := 11) (by decide +kernel)) rfl, ⟨by decide, by decide⟩, by decide +kernel, by decide⟩
abbrev mX4_findHanging : ab_M := (yX4_findHanging, cX4_findHanging, 13, none, 5, 0, 0)
set_option maxRecDepth 100000 in
theorem Y_X4_findHanging : ab_Y mX4_findHanging 4 := ⟨tb_6 (List.mem_of_getElem? (i := 26) rfl) rfl, tb_1 (List.mem_of_getElem? (i := 11) (by decide +kernel)) rfl, ⟨by decide, by decide⟩, by decide +kernel, by decide⟩
abbrev mX4_weighSites : ab_M := (yX4_weighSites, cX4_weighSites, 12, none, 4, 0, 0)
set_option maxRecDepth 100000 in
theorem Y_X4_weighSites : ab_Y mX4_weighSites 3 := ⟨tb_6 (List.mem_of_getElem? (i := 32) rfl) rfl, tb_1 (List.mem_of_getElem? (i := 11) (by decide +kernel)) rfl, ⟨by decide, by decide⟩, by decide +kernel, by decide⟩
abbrev mX4_lampsOf : ab_M := (yX4_lampsOf, cX4_lampsOf, 11, (some .int), 2, 0, 0)
set_option maxRecDepth 100000 in
theorem Y_X4_lampsOf : ab_Y mX4_lampsOf 4 := ⟨tb_6 (List.mem_of_getElem? (i := 43) rfl) rfl, tb_1 (List.mem_of_getElem? (i := 11) (by decide +kernel)) rfl, ⟨by decide, by decide⟩, by decide +kernel, by decide⟩
abbrev mX4_findPeace : ab_M := (yX4_findPeace, cX4_findPeace, 4, none, 7, 0, 0)
set_option maxRecDepth 100000 in
theorem Y_X4_findPeace : ab_Y mX4_findPeace 0 := ⟨tb_6 (List.mem_of_getElem? (i := 51) rfl) rfl, tb_1 (List.mem_of_getElem? (i := 11) (by decide +kernel)) rfl, ⟨by decide, by decide⟩, by decide +kernel, by decide⟩
abbrev mX4_gatherQuarrels : ab_M := (yX4_gatherQuarrels, cX4_gatherQuarrels, 6, none, 6, 0, 0)
set_option maxRecDepth 100000 in
theorem Y_X4_gatherQuarrels : ab_Y mX4_gatherQuarrels 0 := ⟨tb_6 (List.mem_of_getElem? (i := 55) rfl) rfl, tb_1 (List.mem_of_getElem? (i := 11) (by decide +kernel)) rfl, ⟨by decide, by decide⟩, by decide +kernel, by decide⟩
abbrev mX4_learnOfLamps : ab_M := (yX4_learnOfLamps, cX4_learnOfLamps, 5, none, 5, 0, 0)
set_option maxRecDepth 100000 in
theorem Y_X4_learnOfLamps : ab_Y mX4_learnOfLamps 3 := ⟨tb_6 (List.mem_of_getElem? (i := 63) rfl) rfl, tb_1 (List.mem_of_getElem? (i := 11) (by decide +kernel)) rfl, ⟨by decide, by decide⟩, by decide +kernel, by decide⟩
abbrev mX4_learnOfLanterns : ab_M := (yX4_learnOfLanterns, cX4_learnOfLanterns, 6, none, 5, 0, 0)
set_option maxRecDepth 100000 in
theorem Y_X4_learnOfLanterns : ab_Y mX4_learnOfLanterns 3 := ⟨tb_6 (List.mem_of_getElem? (i := 75) rfl) rfl, tb_1 (List.mem_of_getElem? (i := 11) (by decide +kernel)) rfl, ⟨by decide, by decide⟩, by decide +kernel, by decide⟩
abbrev mX4_learn : ab_M := (yX4_learn, cX4_learn, 10, none, 4, 0, 0)
set_option maxRecDepth 100000 in
theorem Y_X4_learn : ab_Y mX4_learn 5 := ⟨tb_6 (List.mem_of_getElem? (i := 67) rfl) rfl, tb_1 (List.mem_of_getElem? (i := 11) (by decide +kernel)) rfl, ⟨by decide, by decide⟩, by decide +kernel, by decide⟩
abbrev mX4_possibleSights : ab_M := (yX4_possibleSights, cX4_possibleSights, 5, (some .int), 3, 0, 0)
set_option maxRecDepth 100000 in
theorem Y_X4_possibleSights : ab_Y mX4_possibleSights 1 := ⟨tb_6 (List.mem_of_getElem? (i := 71) rfl) rfl, tb_1 (List.mem_of_getElem? (i := 11) (by decide +kernel)) rfl, ⟨by decide, by decide⟩, by decide +kernel, by decide⟩
abbrev mX4_isHopeless : ab_M := (yX4_isHopeless, cX4_isHopeless, 2, (some .boolean), 4, 0, 0)
set_option maxRecDepth 100000 in
theorem Y_X4_isHopeless : ab_Y mX4_isHopeless 0 := ⟨tb_6 (List.mem_of_getElem? (i := 81) rfl) rfl, tb_1 (List.mem_of_getElem? (i := 11) (by decide +kernel)) rfl, ⟨by decide, by decide⟩, by decide +kernel, by decide⟩
abbrev mX4_tryShutters : ab_M := (yX4_tryShutters, cX4_tryShutters, 9, none, 5, 0, 0)
set_option maxRecDepth 100000 in
theorem Y_X4_tryShutters : ab_Y mX4_tryShutters 2 := ⟨tb_6 (List.mem_of_getElem? (i := 85) rfl) rfl, tb_1 (List.mem_of_getElem? (i := 11) (by decide +kernel)) rfl, ⟨by decide, by decide⟩, by decide +kernel, by decide⟩
abbrev mX4_waysOf : ab_M := (yX4_waysOf, cX4_waysOf, 5, (some .int), 1, 0, 0)
set_option maxRecDepth 100000 in
theorem Y_X4_waysOf : ab_Y mX4_waysOf 2 := ⟨tb_6 (List.mem_of_getElem? (i := 89) rfl) rfl, tb_1 (List.mem_of_getElem? (i := 11) (by decide +kernel)) rfl, ⟨by decide, by decide⟩, by decide +kernel, by decide⟩
abbrev mX4_isPeaceful : ab_M := (yX4_isPeaceful, cX4_isPeaceful, 6, (some .boolean), 4, 0, 0)
set_option maxRecDepth 100000 in
theorem Y_X4_isPeaceful : ab_Y mX4_isPeaceful 1 := ⟨tb_6 (List.mem_of_getElem? (i := 93) rfl) rfl, tb_1 (List.mem_of_getElem? (i := 11) (by decide +kernel)) rfl, ⟨by decide, by decide⟩, by decide +kernel, by decide⟩
abbrev mX5_init : ab_M := (yX5_init, cX5_init, 1, none, 1, 6, 1500)
set_option maxRecDepth 100000 in
theorem Y_X5_init : ab_Y mX5_init 0 := ⟨tb_1 (List.mem_of_getElem? (i := 124) rfl) rfl, tb_1 (List.mem_of_getElem? (i := 4) (by decide +kernel)) rfl, ⟨by decide, by decide⟩, by decide +kernel, by decide⟩
abbrev mX5_read : ab_M := (yX5_read, cX5_read, 6, (some (.object "LampTempers$Text")), 62, 4, 1010)
set_option maxRecDepth 100000 in
theorem Y_X5_read : ab_Y mX5_read 3 := ⟨tb_4 (List.mem_of_getElem? (i := 94) rfl) rfl, tb_1 (List.mem_of_getElem? (i := 4) (by decide +kernel)) rfl, ⟨by decide, by decide⟩, by decide +kernel, by decide⟩
abbrev mX5_split : ab_M := (yX5_split, cX5_split, 8, none, 7, 0, 0)
set_option maxRecDepth 100000 in
theorem Y_X5_split : ab_Y mX5_split 2 := ⟨tb_4 (List.mem_of_getElem? (i := 98) rfl) rfl, tb_1 (List.mem_of_getElem? (i := 4) (by decide +kernel)) rfl, ⟨by decide, by decide⟩, by decide +kernel, by decide⟩
abbrev mX5_kindOf : ab_M := (yX5_kindOf, cX5_kindOf, 1, (some .int), 1, 0, 0)
set_option maxRecDepth 100000 in
theorem Y_X5_kindOf : ab_Y mX5_kindOf 1 := ⟨tb_4 (List.mem_of_getElem? (i := 101) rfl) rfl, tb_1 (List.mem_of_getElem? (i := 4) (by decide +kernel)) rfl, ⟨by decide, by decide⟩, by decide +kernel, by decide⟩
abbrev mX5_numberIn : ab_M := (yX5_numberIn, cX5_numberIn, 5, (some .int), 2, 0, 0)
set_option maxRecDepth 100000 in
theorem Y_X5_numberIn : ab_Y mX5_numberIn 3 := ⟨tb_4 (List.mem_of_getElem? (i := 104) rfl) rfl, tb_1 (List.mem_of_getElem? (i := 4) (by decide +kernel)) rfl, ⟨by decide, by decide⟩, by decide +kernel, by decide⟩
abbrev mX5_wordIn : ab_M := (yX5_wordIn, cX5_wordIn, 6, (some .int), 6, 0, 0)
set_option maxRecDepth 100000 in
theorem Y_X5_wordIn : ab_Y mX5_wordIn 3 := ⟨tb_4 (List.mem_of_getElem? (i := 108) rfl) rfl, tb_1 (List.mem_of_getElem? (i := 4) (by decide +kernel)) rfl, ⟨by decide, by decide⟩, by decide +kernel, by decide⟩
abbrev mX5_readLaw : ab_M := (yX5_readLaw, cX5_readLaw, 3, (some .boolean), 61, 0, 0)
set_option maxRecDepth 100000 in
theorem Y_X5_readLaw : ab_Y mX5_readLaw 1 := ⟨tb_4 (List.mem_of_getElem? (i := 162) rfl) rfl, tb_1 (List.mem_of_getElem? (i := 4) (by decide +kernel)) rfl, ⟨by decide, by decide⟩, by decide +kernel, by decide⟩
abbrev mX5_readRound : ab_M := (yX5_readRound, cX5_readRound, 4, (some .boolean), 61, 0, 0)
set_option maxRecDepth 100000 in
theorem Y_X5_readRound : ab_Y mX5_readRound 1 := ⟨tb_4 (List.mem_of_getElem? (i := 178) rfl) rfl, tb_1 (List.mem_of_getElem? (i := 4) (by decide +kernel)) rfl, ⟨by decide, by decide⟩, by decide +kernel, by decide⟩
abbrev mX5_readIf : ab_M := (yX5_readIf, cX5_readIf, 2, (some .boolean), 61, 0, 0)
set_option maxRecDepth 100000 in
theorem Y_X5_readIf : ab_Y mX5_readIf 1 := ⟨tb_4 (List.mem_of_getElem? (i := 182) rfl) rfl, tb_1 (List.mem_of_getElem? (i := 4) (by decide +kernel)) rfl, ⟨by decide, by decide⟩, by decide +kernel, by decide⟩
abbrev mX5_readTest (d : Nat) : ab_M := (yX5_readTest, cX5_readTest, 6, (some .boolean), d, 0, 0)
set_option maxRecDepth 100000 in
theorem Y_X5_readTest (d : Nat) : ab_Y (mX5_readTest d) 1 := show ab_Y (mX5_readTest 0) 1 from ⟨tb_4 (List.mem_of_getElem? (i := 186) rfl) rfl, tb_1 (List.mem_of_getElem? (i := 4) (by decide +kernel)) rfl, ⟨by decide, by decide⟩, by decide +kernel, by decide⟩
abbrev mX5_readPlain (d : Nat) : ab_M := (yX5_readPlain, cX5_readPlain, 4, (some .boolean), d, 0, 0)
set_option maxRecDepth 100000 in
theorem Y_X5_readPlain (d : Nat) : ab_Y (mX5_readPlain d) 1 := show ab_Y (mX5_readPlain 0) 1 from ⟨tb_4 (List.mem_of_getElem? (i := 190) rfl) rfl, tb_1 (List.mem_of_getElem? (i := 4) (by decide +kernel)) rfl, ⟨by decide, by decide⟩, by decide +kernel, by decide⟩
abbrev mX5_readSum (d : Nat) : ab_M := (yX5_readSum, cX5_readSum, 7, (some .boolean), d, 0, 0)
set_option maxRecDepth 100000 in
theorem Y_X5_readSum (d : Nat) : ab_Y (mX5_readSum d) 1 := show ab_Y (mX5_readSum 0) 1 from ⟨tb_4 (List.mem_of_getElem? (i := 166) rfl) rfl, tb_1 (List.mem_of_getElem? (i := 4) (by decide +kernel)) rfl, ⟨by decide, by decide⟩, by decide +kernel, by decide⟩
abbrev mX5_readPart (d : Nat) : ab_M := (yX5_readPart, cX5_readPart, 5, (some .boolean), d, 0, 0)
set_option maxRecDepth 100000 in
theorem Y_X5_readPart (d : Nat) : ab_Y (mX5_readPart d) 1 := show ab_Y (mX5_readPart 0) 1 from ⟨tb_4 (List.mem_of_getElem? (i := 170) rfl) rfl, tb_1 (List.mem_of_getElem? (i := 4) (by decide +kernel)) rfl, ⟨by decide, by decide⟩, by decide +kernel, by decide⟩
abbrev mX5_emit : ab_M := (yX5_emit, cX5_emit, 3, (some .int), 1, 0, 0)
set_option maxRecDepth 100000 in
theorem Y_X5_emit : ab_Y mX5_emit 2 := ⟨tb_4 (List.mem_of_getElem? (i := 174) rfl) rfl, tb_1 (List.mem_of_getElem? (i := 4) (by decide +kernel)) rfl, ⟨by decide, by decide⟩, by decide +kernel, by decide⟩
abbrev mX5_aim : ab_M := (yX5_aim, cX5_aim, 2, none, 1, 0, 0)
set_option maxRecDepth 100000 in
theorem Y_X5_aim : ab_Y mX5_aim 1 := ⟨tb_4 (List.mem_of_getElem? (i := 194) rfl) rfl, tb_1 (List.mem_of_getElem? (i := 4) (by decide +kernel)) rfl, ⟨by decide, by decide⟩, by decide +kernel, by decide⟩
abbrev mX6_init : ab_M := (yX6_init, cX6_init, 2, none, 1, 9, 800)
set_option maxRecDepth 100000 in
theorem Y_X6_init : ab_Y mX6_init 1 := ⟨tb_1 (List.mem_of_getElem? (i := 185) rfl) rfl, tb_1 (List.mem_of_getElem? (i := 6) (by decide +kernel)) rfl, ⟨by decide, by decide⟩, by decide +kernel, by decide⟩
abbrev mX6_survey : ab_M := (yX6_survey, cX6_survey, 4, none, 4, 0, 0)
set_option maxRecDepth 100000 in
theorem Y_X6_survey : ab_Y mX6_survey 0 := ⟨tb_3 (List.mem_of_getElem? (i := 195) rfl) rfl, tb_1 (List.mem_of_getElem? (i := 6) (by decide +kernel)) rfl, ⟨by decide, by decide⟩, by decide +kernel, by decide⟩
abbrev mX6_spread : ab_M := (yX6_spread, cX6_spread, 9, none, 3, 0, 0)
set_option maxRecDepth 100000 in
theorem Y_X6_spread : ab_Y mX6_spread 4 := ⟨tb_3 (List.mem_of_getElem? (i := 202) rfl) rfl, tb_1 (List.mem_of_getElem? (i := 6) (by decide +kernel)) rfl, ⟨by decide, by decide⟩, by decide +kernel, by decide⟩
abbrev mX6_steps : ab_M := (yX6_steps, cX6_steps, 3, (some .int), 2, 0, 0)
set_option maxRecDepth 100000 in
theorem Y_X6_steps : ab_Y mX6_steps 2 := ⟨tb_4 (List.mem_of_getElem? (i := 8) rfl) rfl, tb_1 (List.mem_of_getElem? (i := 6) (by decide +kernel)) rfl, ⟨by decide, by decide⟩, by decide +kernel, by decide⟩
abbrev mX6_sight : ab_M := (yX6_sight, cX6_sight, 3, (some .int), 2, 0, 0)
set_option maxRecDepth 100000 in
theorem Y_X6_sight : ab_Y mX6_sight 2 := ⟨tb_4 (List.mem_of_getElem? (i := 13) rfl) rfl, tb_1 (List.mem_of_getElem? (i := 6) (by decide +kernel)) rfl, ⟨by decide, by decide⟩, by decide +kernel, by decide⟩
abbrev mX6_within : ab_M := (yX6_within, cX6_within, 7, (some .int), 3, 0, 0)
set_option maxRecDepth 100000 in
theorem Y_X6_within : ab_Y mX6_within 2 := ⟨tb_5 (List.mem_of_getElem? (i := 148) rfl) rfl, tb_1 (List.mem_of_getElem? (i := 6) (by decide +kernel)) rfl, ⟨by decide, by decide⟩, by decide +kernel, by decide⟩
abbrev mX6_around : ab_M := (yX6_around, cX6_around, 4, (some .int), 1, 0, 0)
set_option maxRecDepth 100000 in
theorem Y_X6_around : ab_Y mX6_around 1 := ⟨tb_5 (List.mem_of_getElem? (i := 216) rfl) rfl, tb_1 (List.mem_of_getElem? (i := 6) (by decide +kernel)) rfl, ⟨by decide, by decide⟩, by decide +kernel, by decide⟩
abbrev mX6_stagger : ab_M := (yX6_stagger, cX6_stagger, 9, none, 3, 0, 0)
set_option maxRecDepth 100000 in
theorem Y_X6_stagger : ab_Y mX6_stagger 4 := ⟨tb_6 (List.mem_of_getElem? (i := 169) rfl) rfl, tb_1 (List.mem_of_getElem? (i := 6) (by decide +kernel)) rfl, ⟨by decide, by decide⟩, by decide +kernel, by decide⟩
abbrev mX6_leave : ab_M := (yX6_leave, cX6_leave, 7, (some .int), 2, 0, 0)
set_option maxRecDepth 100000 in
theorem Y_X6_leave : ab_Y mX6_leave 2 := ⟨tb_6 (List.mem_of_getElem? (i := 177) rfl) rfl, tb_1 (List.mem_of_getElem? (i := 6) (by decide +kernel)) rfl, ⟨by decide, by decide⟩, by decide +kernel, by decide⟩
abbrev mX6_findRound : ab_M := (yX6_findRound, cX6_findRound, 3, none, 5, 1, 10240)
set_option maxRecDepth 100000 in
theorem Y_X6_findRound : ab_Y mX6_findRound 1 := ⟨tb_5 (List.mem_of_getElem? (i := 181) rfl) rfl, tb_1 (List.mem_of_getElem? (i := 6) (by decide +kernel)) rfl, ⟨by decide, by decide⟩, by decide +kernel, by decide⟩
abbrev mX6_gatherStops : ab_M := (yX6_gatherStops, cX6_gatherStops, 4, none, 2, 0, 0)
set_option maxRecDepth 100000 in
theorem Y_X6_gatherStops : ab_Y mX6_gatherStops 0 := ⟨tb_5 (List.mem_of_getElem? (i := 186) rfl) rfl, tb_1 (List.mem_of_getElem? (i := 6) (by decide +kernel)) rfl, ⟨by decide, by decide⟩, by decide +kernel, by decide⟩
abbrev mX6_fillCosts : ab_M := (yX6_fillCosts, cX6_fillCosts, 3, none, 4, 1, 10240)
set_option maxRecDepth 100000 in
theorem Y_X6_fillCosts : ab_Y mX6_fillCosts 0 := ⟨tb_5 (List.mem_of_getElem? (i := 190) rfl) rfl, tb_1 (List.mem_of_getElem? (i := 6) (by decide +kernel)) rfl, ⟨by decide, by decide⟩, by decide +kernel, by decide⟩
abbrev mX6_rest : ab_M := (yX6_rest, cX6_rest, 6, (some .int), 3, 0, 0)
set_option maxRecDepth 100000 in
theorem Y_X6_rest : ab_Y mX6_rest 2 := ⟨tb_5 (List.mem_of_getElem? (i := 194) rfl) rfl, tb_1 (List.mem_of_getElem? (i := 6) (by decide +kernel)) rfl, ⟨by decide, by decide⟩, by decide +kernel, by decide⟩
abbrev mX6_stopsOf : ab_M := (yX6_stopsOf, cX6_stopsOf, 4, (some .int), 1, 0, 0)
set_option maxRecDepth 100000 in
theorem Y_X6_stopsOf : ab_Y mX6_stopsOf 1 := ⟨tb_5 (List.mem_of_getElem? (i := 200) rfl) rfl, tb_1 (List.mem_of_getElem? (i := 6) (by decide +kernel)) rfl, ⟨by decide, by decide⟩, by decide +kernel, by decide⟩
abbrev mX6_layRow : ab_M := (yX6_layRow, cX6_layRow, 9, none, 4, 0, 0)
set_option maxRecDepth 100000 in
theorem Y_X6_layRow : ab_Y mX6_layRow 1 := ⟨tb_5 (List.mem_of_getElem? (i := 204) rfl) rfl, tb_1 (List.mem_of_getElem? (i := 6) (by decide +kernel)) rfl, ⟨by decide, by decide⟩, by decide +kernel, by decide⟩
abbrev mX7_init : ab_M := (yX7_init, cX7_init, 3, none, 1, 1, 400)
set_option maxRecDepth 100000 in
theorem Y_X7_init : ab_Y mX7_init 2 := ⟨tb_1 (List.mem_of_getElem? (i := 40) rfl) rfl, tb_1 (List.mem_of_getElem? (i := 3) (by decide +kernel)) rfl, ⟨by decide, by decide⟩, by decide +kernel, by decide⟩
abbrev mX7_isFull : ab_M := (yX7_isFull, cX7_isFull, 1, (some .boolean), 1, 0, 0)
set_option maxRecDepth 100000 in
theorem Y_X7_isFull : ab_Y mX7_isFull 0 := ⟨tb_3 (List.mem_of_getElem? (i := 146) rfl) rfl, tb_1 (List.mem_of_getElem? (i := 3) (by decide +kernel)) rfl, ⟨by decide, by decide⟩, by decide +kernel, by decide⟩
abbrev mX7_has : ab_M := (yX7_has, cX7_has, 2, (some .boolean), 1, 0, 0)
set_option maxRecDepth 100000 in
theorem Y_X7_has : ab_Y mX7_has 1 := ⟨tb_3 (List.mem_of_getElem? (i := 174) rfl) rfl, tb_1 (List.mem_of_getElem? (i := 3) (by decide +kernel)) rfl, ⟨by decide, by decide⟩, by decide +kernel, by decide⟩
abbrev mX7_get : ab_M := (yX7_get, cX7_get, 3, (some .int), 1, 0, 0)
set_option maxRecDepth 100000 in
theorem Y_X7_get : ab_Y mX7_get 2 := ⟨tb_3 (List.mem_of_getElem? (i := 142) rfl) rfl, tb_1 (List.mem_of_getElem? (i := 3) (by decide +kernel)) rfl, ⟨by decide, by decide⟩, by decide +kernel, by decide⟩
abbrev mX7_swap : ab_M := (yX7_swap, cX7_swap, 5, (some .int), 1, 0, 0)
set_option maxRecDepth 100000 in
theorem Y_X7_swap : ab_Y mX7_swap 3 := ⟨tb_3 (List.mem_of_getElem? (i := 178) rfl) rfl, tb_1 (List.mem_of_getElem? (i := 3) (by decide +kernel)) rfl, ⟨by decide, by decide⟩, by decide +kernel, by decide⟩
abbrev mX7_add : ab_M := (yX7_add, cX7_add, 5, (some .int), 3, 0, 0)
set_option maxRecDepth 100000 in
theorem Y_X7_add : ab_Y mX7_add 3 := ⟨tb_3 (List.mem_of_getElem? (i := 152) rfl) rfl, tb_1 (List.mem_of_getElem? (i := 3) (by decide +kernel)) rfl, ⟨by decide, by decide⟩, by decide +kernel, by decide⟩
abbrev mX7_list : ab_M := (yX7_list, cX7_list, 2, none, 1, 0, 0)
set_option maxRecDepth 100000 in
theorem Y_X7_list : ab_Y mX7_list 1 := ⟨tb_6 (List.mem_of_getElem? (i := 147) rfl) rfl, tb_1 (List.mem_of_getElem? (i := 3) (by decide +kernel)) rfl, ⟨by decide, by decide⟩, by decide +kernel, by decide⟩
abbrev mX7_pick : ab_M := (yX7_pick, cX7_pick, 2, (some .int), 2, 0, 0)
set_option maxRecDepth 100000 in
theorem Y_X7_pick : ab_Y mX7_pick 1 := ⟨tb_6 (List.mem_of_getElem? (i := 151) rfl) rfl, tb_1 (List.mem_of_getElem? (i := 3) (by decide +kernel)) rfl, ⟨by decide, by decide⟩, by decide +kernel, by decide⟩
abbrev mX7_become : ab_M := (yX7_become, cX7_become, 2, none, 1, 0, 0)
set_option maxRecDepth 100000 in
theorem Y_X7_become : ab_Y mX7_become 1 := ⟨tb_6 (List.mem_of_getElem? (i := 197) rfl) rfl, tb_1 (List.mem_of_getElem? (i := 3) (by decide +kernel)) rfl, ⟨by decide, by decide⟩, by decide +kernel, by decide⟩
abbrev mX8_init : ab_M := (yX8_init, cX8_init, 4, none, 1, 5, 16500)
set_option maxRecDepth 100000 in
theorem Y_X8_init : ab_Y mX8_init 3 := ⟨tb_1 (List.mem_of_getElem? (i := 238) rfl) rfl, tb_1 (List.mem_of_getElem? (i := 7) (by decide +kernel)) rfl, ⟨by decide, by decide⟩, by decide +kernel, by decide⟩
abbrev mX8_heed : ab_M := (yX8_heed, cX8_heed, 5, none, 3, 0, 0)
set_option maxRecDepth 100000 in
theorem Y_X8_heed : ab_Y mX8_heed 1 := ⟨tb_3 (List.mem_of_getElem? (i := 207) rfl) rfl, tb_1 (List.mem_of_getElem? (i := 7) (by decide +kernel)) rfl, ⟨by decide, by decide⟩, by decide +kernel, by decide⟩
abbrev mX8_heeds : ab_M := (yX8_heeds, cX8_heeds, 3, (some .boolean), 1, 0, 0)
set_option maxRecDepth 100000 in
theorem Y_X8_heeds : ab_Y mX8_heeds 2 := ⟨tb_3 (List.mem_of_getElem? (i := 216) rfl) rfl, tb_1 (List.mem_of_getElem? (i := 7) (by decide +kernel)) rfl, ⟨by decide, by decide⟩, by decide +kernel, by decide⟩
abbrev mX8_hated : ab_M := (yX8_hated, cX8_hated, 8, (some .int), 3, 0, 0)
set_option maxRecDepth 100000 in
theorem Y_X8_hated : ab_Y mX8_hated 3 := ⟨tb_5 (List.mem_of_getElem? (i := 110) rfl) rfl, tb_1 (List.mem_of_getElem? (i := 7) (by decide +kernel)) rfl, ⟨by decide, by decide⟩, by decide +kernel, by decide⟩
abbrev mX8_fearful : ab_M := (yX8_fearful, cX8_fearful, 8, (some .int), 3, 0, 0)
set_option maxRecDepth 100000 in
theorem Y_X8_fearful : ab_Y mX8_fearful 3 := ⟨tb_5 (List.mem_of_getElem? (i := 93) rfl) rfl, tb_1 (List.mem_of_getElem? (i := 7) (by decide +kernel)) rfl, ⟨by decide, by decide⟩, by decide +kernel, by decide⟩
abbrev mX8_thirst : ab_M := (yX8_thirst, cX8_thirst, 4, (some .int), 3, 0, 0)
set_option maxRecDepth 100000 in
theorem Y_X8_thirst : ab_Y mX8_thirst 2 := ⟨tb_5 (List.mem_of_getElem? (i := 126) rfl) rfl, tb_1 (List.mem_of_getElem? (i := 7) (by decide +kernel)) rfl, ⟨by decide, by decide⟩, by decide +kernel, by decide⟩
abbrev mX8_ask : ab_M := (yX8_ask, cX8_ask, 17, (some .int), 2, 0, 0)
set_option maxRecDepth 100000 in
theorem Y_X8_ask : ab_Y mX8_ask 7 := ⟨tb_5 (List.mem_of_getElem? (i := 42) rfl) rfl, tb_1 (List.mem_of_getElem? (i := 7) (by decide +kernel)) rfl, ⟨by decide, by decide⟩, by decide +kernel, by decide⟩
abbrev mX8_keyOf : ab_M := (yX8_keyOf, cX8_keyOf, 5, (some .int), 1, 0, 0)
set_option maxRecDepth 100000 in
theorem Y_X8_keyOf : ab_Y mX8_keyOf 1 := ⟨tb_5 (List.mem_of_getElem? (i := 46) rfl) rfl, tb_1 (List.mem_of_getElem? (i := 7) (by decide +kernel)) rfl, ⟨by decide, by decide⟩, by decide +kernel, by decide⟩
abbrev mX9_init : ab_M := (yX9_init, cX9_init, 5, none, 1, 0, 0)
set_option maxRecDepth 100000 in
theorem Y_X9_init : ab_Y mX9_init 4 := ⟨tb_4 (List.mem_of_getElem? (i := 215) rfl) rfl, tb_1 (List.mem_of_getElem? (i := 19) (by decide +kernel)) rfl, ⟨by decide, by decide⟩, by decide +kernel, by decide⟩
abbrev mX9_part : ab_M := (yX9_part, cX9_part, 4, (some .int), 1, 0, 0)
set_option maxRecDepth 100000 in
theorem Y_X9_part : ab_Y mX9_part 2 := ⟨tb_5 (List.mem_of_getElem? (i := 11) rfl) rfl, tb_1 (List.mem_of_getElem? (i := 19) (by decide +kernel)) rfl, ⟨by decide, by decide⟩, by decide +kernel, by decide⟩
abbrev mX10_init : ab_M := (yX10_init, cX10_init, 1, none, 2, 16, 600)
set_option maxRecDepth 100000 in
theorem Y_X10_init : ab_Y mX10_init 0 := ⟨tb_1 (List.mem_of_getElem? (i := 34) rfl) rfl, tb_1 (List.mem_of_getElem? (i := 2) (by decide +kernel)) rfl, ⟨by decide, by decide⟩, by decide +kernel, by decide⟩
abbrev mX10_isWay : ab_M := (yX10_isWay, cX10_isWay, 6, (some .boolean), 2, 0, 0)
set_option maxRecDepth 100000 in
theorem Y_X10_isWay : ab_Y mX10_isWay 2 := ⟨tb_3 (List.mem_of_getElem? (i := 132) rfl) rfl, tb_1 (List.mem_of_getElem? (i := 2) (by decide +kernel)) rfl, ⟨by decide, by decide⟩, by decide +kernel, by decide⟩
abbrev mX10_tell : ab_M := (yX10_tell, cX10_tell, 4, (some .int), 4, 0, 0)
set_option maxRecDepth 100000 in
theorem Y_X10_tell : ab_Y mX10_tell 3 := ⟨tb_4 (List.mem_of_getElem? (i := 36) rfl) rfl, tb_1 (List.mem_of_getElem? (i := 2) (by decide +kernel)) rfl, ⟨by decide, by decide⟩, by decide +kernel, by decide⟩
abbrev mX10_keepLaw : ab_M := (yX10_keepLaw, cX10_keepLaw, 2, (some .int), 1, 0, 0)
set_option maxRecDepth 100000 in
theorem Y_X10_keepLaw : ab_Y mX10_keepLaw 1 := ⟨tb_4 (List.mem_of_getElem? (i := 239) rfl) rfl, tb_1 (List.mem_of_getElem? (i := 2) (by decide +kernel)) rfl, ⟨by decide, by decide⟩, by decide +kernel, by decide⟩
abbrev mX10_lawInForce : ab_M := (yX10_lawInForce, cX10_lawInForce, 1, (some (.object "LampTempers$Text")), 2, 0, 0)
set_option maxRecDepth 100000 in
theorem Y_X10_lawInForce : ab_Y mX10_lawInForce 0 := ⟨tb_3 (List.mem_of_getElem? (i := 211) rfl) rfl, tb_1 (List.mem_of_getElem? (i := 2) (by decide +kernel)) rfl, ⟨by decide, by decide⟩, by decide +kernel, by decide⟩
abbrev mX10_become : ab_M := (yX10_become, cX10_become, 3, none, 2, 0, 0)
set_option maxRecDepth 100000 in
theorem Y_X10_become : ab_Y mX10_become 1 := ⟨tb_6 (List.mem_of_getElem? (i := 193) rfl) rfl, tb_1 (List.mem_of_getElem? (i := 2) (by decide +kernel)) rfl, ⟨by decide, by decide⟩, by decide +kernel, by decide⟩
abbrev mX11_init : ab_M := (yX11_init, cX11_init, 1, none, 3, 82, 22500)
set_option maxRecDepth 100000 in
theorem Y_X11_init : ab_Y mX11_init 0 := ⟨tb_1 (List.mem_of_getElem? (i := 26) rfl) rfl, tb_1 (List.mem_of_getElem? (i := 1) (by decide +kernel)) rfl, ⟨by decide, by decide⟩, by decide +kernel, by decide⟩
abbrev mX11_way : ab_M := (yX11_way, cX11_way, 3, (some .int), 4, 0, 0)
set_option maxRecDepth 100000 in
theorem Y_X11_way : ab_Y mX11_way 2 := ⟨tb_3 (List.mem_of_getElem? (i := 121) rfl) rfl, tb_1 (List.mem_of_getElem? (i := 1) (by decide +kernel)) rfl, ⟨by decide, by decide⟩, by decide +kernel, by decide⟩
abbrev mX11_shutter : ab_M := (yX11_shutter, cX11_shutter, 3, (some .int), 3, 0, 0)
set_option maxRecDepth 100000 in
theorem Y_X11_shutter : ab_Y mX11_shutter 2 := ⟨tb_3 (List.mem_of_getElem? (i := 170) rfl) rfl, tb_1 (List.mem_of_getElem? (i := 1) (by decide +kernel)) rfl, ⟨by decide, by decide⟩, by decide +kernel, by decide⟩
abbrev mX11_of : ab_M := (yX11_of, cX11_of, 3, (some .int), 2, 0, 0)
set_option maxRecDepth 100000 in
theorem Y_X11_of : ab_Y mX11_of 2 := ⟨tb_3 (List.mem_of_getElem? (i := 182) rfl) rfl, tb_1 (List.mem_of_getElem? (i := 1) (by decide +kernel)) rfl, ⟨by decide, by decide⟩, by decide +kernel, by decide⟩
abbrev mX11_far : ab_M := (yX11_far, cX11_far, 4, (some .int), 6, 0, 0)
set_option maxRecDepth 100000 in
theorem Y_X11_far : ab_Y mX11_far 3 := ⟨tb_3 (List.mem_of_getElem? (i := 187) rfl) rfl, tb_1 (List.mem_of_getElem? (i := 1) (by decide +kernel)) rfl, ⟨by decide, by decide⟩, by decide +kernel, by decide⟩
abbrev mX11_lamp : ab_M := (yX11_lamp, cX11_lamp, 4, (some .int), 4, 0, 0)
set_option maxRecDepth 100000 in
theorem Y_X11_lamp : ab_Y mX11_lamp 3 := ⟨tb_4 (List.mem_of_getElem? (i := 17) rfl) rfl, tb_1 (List.mem_of_getElem? (i := 1) (by decide +kernel)) rfl, ⟨by decide, by decide⟩, by decide +kernel, by decide⟩
abbrev mX11_put : ab_M := (yX11_put, cX11_put, 4, (some .int), 3, 0, 0)
set_option maxRecDepth 100000 in
theorem Y_X11_put : ab_Y mX11_put 3 := ⟨tb_4 (List.mem_of_getElem? (i := 21) rfl) rfl, tb_1 (List.mem_of_getElem? (i := 1) (by decide +kernel)) rfl, ⟨by decide, by decide⟩, by decide +kernel, by decide⟩
abbrev mX11_fact : ab_M := (yX11_fact, cX11_fact, 3, (some .int), 2, 0, 0)
set_option maxRecDepth 100000 in
theorem Y_X11_fact : ab_Y mX11_fact 2 := ⟨tb_4 (List.mem_of_getElem? (i := 28) rfl) rfl, tb_1 (List.mem_of_getElem? (i := 1) (by decide +kernel)) rfl, ⟨by decide, by decide⟩, by decide +kernel, by decide⟩
abbrev mX11_turn : ab_M := (yX11_turn, cX11_turn, 5, (some .int), 5, 0, 0)
set_option maxRecDepth 100000 in
theorem Y_X11_turn : ab_Y mX11_turn 3 := ⟨tb_4 (List.mem_of_getElem? (i := 32) rfl) rfl, tb_1 (List.mem_of_getElem? (i := 1) (by decide +kernel)) rfl, ⟨by decide, by decide⟩, by decide +kernel, by decide⟩
abbrev mX11_undo : ab_M := (yX11_undo, cX11_undo, 3, (some .int), 3, 0, 0)
set_option maxRecDepth 100000 in
theorem Y_X11_undo : ab_Y mX11_undo 0 := ⟨tb_4 (List.mem_of_getElem? (i := 42) rfl) rfl, tb_1 (List.mem_of_getElem? (i := 1) (by decide +kernel)) rfl, ⟨by decide, by decide⟩, by decide +kernel, by decide⟩
abbrev mX11_lantern : ab_M := (yX11_lantern, cX11_lantern, 4, (some .int), 4, 0, 0)
set_option maxRecDepth 100000 in
theorem Y_X11_lantern : ab_Y mX11_lantern 3 := ⟨tb_4 (List.mem_of_getElem? (i := 46) rfl) rfl, tb_1 (List.mem_of_getElem? (i := 1) (by decide +kernel)) rfl, ⟨by decide, by decide⟩, by decide +kernel, by decide⟩
abbrev mX11_go : ab_M := (yX11_go, cX11_go, 5, (some .int), 3, 0, 0)
set_option maxRecDepth 100000 in
theorem Y_X11_go : ab_Y mX11_go 2 := ⟨tb_4 (List.mem_of_getElem? (i := 50) rfl) rfl, tb_1 (List.mem_of_getElem? (i := 1) (by decide +kernel)) rfl, ⟨by decide, by decide⟩, by decide +kernel, by decide⟩
abbrev mX11_doused : ab_M := (yX11_doused, cX11_doused, 2, (some .int), 1, 0, 0)
set_option maxRecDepth 100000 in
theorem Y_X11_doused : ab_Y mX11_doused 0 := ⟨tb_4 (List.mem_of_getElem? (i := 54) rfl) rfl, tb_1 (List.mem_of_getElem? (i := 1) (by decide +kernel)) rfl, ⟨by decide, by decide⟩, by decide +kernel, by decide⟩
abbrev mX11_errand : ab_M := (yX11_errand, cX11_errand, 4, (some .int), 4, 0, 0)
set_option maxRecDepth 100000 in
theorem Y_X11_errand : ab_Y mX11_errand 3 := ⟨tb_4 (List.mem_of_getElem? (i := 58) rfl) rfl, tb_1 (List.mem_of_getElem? (i := 1) (by decide +kernel)) rfl, ⟨by decide, by decide⟩, by decide +kernel, by decide⟩
abbrev mX11_terms : ab_M := (yX11_terms, cX11_terms, 4, (some .int), 3, 0, 0)
set_option maxRecDepth 100000 in
theorem Y_X11_terms : ab_Y mX11_terms 2 := ⟨tb_4 (List.mem_of_getElem? (i := 62) rfl) rfl, tb_1 (List.mem_of_getElem? (i := 1) (by decide +kernel)) rfl, ⟨by decide, by decide⟩, by decide +kernel, by decide⟩
abbrev mX11_feed : ab_M := (yX11_feed, cX11_feed, 6, (some .int), 2, 0, 0)
set_option maxRecDepth 100000 in
theorem Y_X11_feed : ab_Y mX11_feed 5 := ⟨tb_4 (List.mem_of_getElem? (i := 66) rfl) rfl, tb_1 (List.mem_of_getElem? (i := 1) (by decide +kernel)) rfl, ⟨by decide, by decide⟩, by decide +kernel, by decide⟩
abbrev mX11_end : ab_M := (yX11_end, cX11_end, 2, (some .int), 1, 0, 0)
set_option maxRecDepth 100000 in
theorem Y_X11_end : ab_Y mX11_end 1 := ⟨tb_4 (List.mem_of_getElem? (i := 74) rfl) rfl, tb_1 (List.mem_of_getElem? (i := 1) (by decide +kernel)) rfl, ⟨by decide, by decide⟩, by decide +kernel, by decide⟩
abbrev mX11_row : ab_M := (yX11_row, cX11_row, 5, (some .int), 5, 0, 0)
set_option maxRecDepth 100000 in
theorem Y_X11_row : ab_Y mX11_row 0 := ⟨tb_4 (List.mem_of_getElem? (i := 78) rfl) rfl, tb_1 (List.mem_of_getElem? (i := 1) (by decide +kernel)) rfl, ⟨by decide, by decide⟩, by decide +kernel, by decide⟩
abbrev mX11_ash : ab_M := (yX11_ash, cX11_ash, 1, (some .int), 1, 0, 0)
set_option maxRecDepth 100000 in
theorem Y_X11_ash : ab_Y mX11_ash 0 := ⟨tb_4 (List.mem_of_getElem? (i := 86) rfl) rfl, tb_1 (List.mem_of_getElem? (i := 1) (by decide +kernel)) rfl, ⟨by decide, by decide⟩, by decide +kernel, by decide⟩
abbrev mX11_law : ab_M := (yX11_law, cX11_law, 3, (some .int), 63, 4, 1010)
set_option maxRecDepth 100000 in
theorem Y_X11_law : ab_Y mX11_law 0 := ⟨tb_4 (List.mem_of_getElem? (i := 90) rfl) rfl, tb_1 (List.mem_of_getElem? (i := 1) (by decide +kernel)) rfl, ⟨by decide, by decide⟩, by decide +kernel, by decide⟩
abbrev mX11_rounds : ab_M := (yX11_rounds, cX11_rounds, 5, (some .int), 63, 4, 1010)
set_option maxRecDepth 100000 in
theorem Y_X11_rounds : ab_Y mX11_rounds 0 := ⟨tb_5 (List.mem_of_getElem? (i := 3) rfl) rfl, tb_1 (List.mem_of_getElem? (i := 1) (by decide +kernel)) rfl, ⟨by decide, by decide⟩, by decide +kernel, by decide⟩
abbrev mX11_fault : ab_M := (yX11_fault, cX11_fault, 1, (some .int), 1, 0, 0)
set_option maxRecDepth 100000 in
theorem Y_X11_fault : ab_Y mX11_fault 0 := ⟨tb_5 (List.mem_of_getElem? (i := 26) rfl) rfl, tb_1 (List.mem_of_getElem? (i := 1) (by decide +kernel)) rfl, ⟨by decide, by decide⟩, by decide +kernel, by decide⟩
abbrev mX11_stopped : ab_M := (yX11_stopped, cX11_stopped, 1, (some .int), 1, 0, 0)
set_option maxRecDepth 100000 in
theorem Y_X11_stopped : ab_Y mX11_stopped 0 := ⟨tb_5 (List.mem_of_getElem? (i := 30) rfl) rfl, tb_1 (List.mem_of_getElem? (i := 1) (by decide +kernel)) rfl, ⟨by decide, by decide⟩, by decide +kernel, by decide⟩
abbrev mX11_force : ab_M := (yX11_force, cX11_force, 3, (some .int), 3, 0, 0)
set_option maxRecDepth 100000 in
theorem Y_X11_force : ab_Y mX11_force 1 := ⟨tb_5 (List.mem_of_getElem? (i := 34) rfl) rfl, tb_1 (List.mem_of_getElem? (i := 1) (by decide +kernel)) rfl, ⟨by decide, by decide⟩, by decide +kernel, by decide⟩
abbrev mX11_asks : ab_M := (yX11_asks, cX11_asks, 7, (some .int), 6, 0, 0)
set_option maxRecDepth 100000 in
theorem Y_X11_asks : ab_Y mX11_asks 4 := ⟨tb_5 (List.mem_of_getElem? (i := 38) rfl) rfl, tb_1 (List.mem_of_getElem? (i := 1) (by decide +kernel)) rfl, ⟨by decide, by decide⟩, by decide +kernel, by decide⟩
abbrev mX11_burns : ab_M := (yX11_burns, cX11_burns, 4, (some .int), 7, 0, 0)
set_option maxRecDepth 100000 in
theorem Y_X11_burns : ab_Y mX11_burns 3 := ⟨tb_5 (List.mem_of_getElem? (i := 55) rfl) rfl, tb_1 (List.mem_of_getElem? (i := 1) (by decide +kernel)) rfl, ⟨by decide, by decide⟩, by decide +kernel, by decide⟩
abbrev mX11_bright : ab_M := (yX11_bright, cX11_bright, 2, (some .int), 7, 0, 0)
set_option maxRecDepth 100000 in
theorem Y_X11_bright : ab_Y mX11_bright 1 := ⟨tb_5 (List.mem_of_getElem? (i := 135) rfl) rfl, tb_1 (List.mem_of_getElem? (i := 1) (by decide +kernel)) rfl, ⟨by decide, by decide⟩, by decide +kernel, by decide⟩
abbrev mX11_night : ab_M := (yX11_night, cX11_night, 7, (some .int), 7, 0, 0)
set_option maxRecDepth 100000 in
theorem Y_X11_night : ab_Y mX11_night 2 := ⟨tb_5 (List.mem_of_getElem? (i := 153) rfl) rfl, tb_1 (List.mem_of_getElem? (i := 1) (by decide +kernel)) rfl, ⟨by decide, by decide⟩, by decide +kernel, by decide⟩
abbrev mX11_judge : ab_M := (yX11_judge, cX11_judge, 2, (some .int), 7, 0, 0)
set_option maxRecDepth 100000 in
theorem Y_X11_judge : ab_Y mX11_judge 1 := ⟨tb_5 (List.mem_of_getElem? (i := 161) rfl) rfl, tb_1 (List.mem_of_getElem? (i := 1) (by decide +kernel)) rfl, ⟨by decide, by decide⟩, by decide +kernel, by decide⟩
abbrev mX11_round : ab_M := (yX11_round, cX11_round, 3, (some .int), 6, 1, 10240)
set_option maxRecDepth 100000 in
theorem Y_X11_round : ab_Y mX11_round 2 := ⟨tb_5 (List.mem_of_getElem? (i := 177) rfl) rfl, tb_1 (List.mem_of_getElem? (i := 1) (by decide +kernel)) rfl, ⟨by decide, by decide⟩, by decide +kernel, by decide⟩
abbrev mX11_walk : ab_M := (yX11_walk, cX11_walk, 7, (some .int), 7, 0, 0)
set_option maxRecDepth 100000 in
theorem Y_X11_walk : ab_Y mX11_walk 5 := ⟨tb_5 (List.mem_of_getElem? (i := 208) rfl) rfl, tb_1 (List.mem_of_getElem? (i := 1) (by decide +kernel)) rfl, ⟨by decide, by decide⟩, by decide +kernel, by decide⟩
abbrev mX11_worst : ab_M := (yX11_worst, cX11_worst, 6, (some .int), 8, 0, 0)
set_option maxRecDepth 100000 in
theorem Y_X11_worst : ab_Y mX11_worst 5 := ⟨tb_5 (List.mem_of_getElem? (i := 224) rfl) rfl, tb_1 (List.mem_of_getElem? (i := 1) (by decide +kernel)) rfl, ⟨by decide, by decide⟩, by decide +kernel, by decide⟩
abbrev mX11_hang : ab_M := (yX11_hang, cX11_hang, 6, (some .int), 6, 0, 0)
set_option maxRecDepth 100000 in
theorem Y_X11_hang : ab_Y mX11_hang 5 := ⟨tb_6 (List.mem_of_getElem? (i := 18) rfl) rfl, tb_1 (List.mem_of_getElem? (i := 1) (by decide +kernel)) rfl, ⟨by decide, by decide⟩, by decide +kernel, by decide⟩
abbrev mX11_shutters : ab_M := (yX11_shutters, cX11_shutters, 2, (some .int), 8, 0, 0)
set_option maxRecDepth 100000 in
theorem Y_X11_shutters : ab_Y mX11_shutters 1 := ⟨tb_6 (List.mem_of_getElem? (i := 47) rfl) rfl, tb_1 (List.mem_of_getElem? (i := 1) (by decide +kernel)) rfl, ⟨by decide, by decide⟩, by decide +kernel, by decide⟩
abbrev mX11_would : ab_M := (yX11_would, cX11_would, 3, (some .int), 8, 0, 0)
set_option maxRecDepth 100000 in
theorem Y_X11_would : ab_Y mX11_would 2 := ⟨tb_6 (List.mem_of_getElem? (i := 99) rfl) rfl, tb_1 (List.mem_of_getElem? (i := 1) (by decide +kernel)) rfl, ⟨by decide, by decide⟩, by decide +kernel, by decide⟩
abbrev mX11_soot : ab_M := (yX11_soot, cX11_soot, 4, (some .int), 4, 0, 0)
set_option maxRecDepth 100000 in
theorem Y_X11_soot : ab_Y mX11_soot 3 := ⟨tb_6 (List.mem_of_getElem? (i := 117) rfl) rfl, tb_1 (List.mem_of_getElem? (i := 1) (by decide +kernel)) rfl, ⟨by decide, by decide⟩, by decide +kernel, by decide⟩
abbrev mX11_sweep : ab_M := (yX11_sweep, cX11_sweep, 2, (some .int), 1, 0, 0)
set_option maxRecDepth 100000 in
theorem Y_X11_sweep : ab_Y mX11_sweep 0 := ⟨tb_6 (List.mem_of_getElem? (i := 121) rfl) rfl, tb_1 (List.mem_of_getElem? (i := 1) (by decide +kernel)) rfl, ⟨by decide, by decide⟩, by decide +kernel, by decide⟩
abbrev mX11_stranger : ab_M := (yX11_stranger, cX11_stranger, 2, (some .int), 8, 0, 0)
set_option maxRecDepth 100000 in
theorem Y_X11_stranger : ab_Y mX11_stranger 1 := ⟨tb_6 (List.mem_of_getElem? (i := 125) rfl) rfl, tb_1 (List.mem_of_getElem? (i := 1) (by decide +kernel)) rfl, ⟨by decide, by decide⟩, by decide +kernel, by decide⟩
abbrev mX11_changed : ab_M := (yX11_changed, cX11_changed, 2, (some .int), 8, 0, 0)
set_option maxRecDepth 100000 in
theorem Y_X11_changed : ab_Y mX11_changed 1 := ⟨tb_6 (List.mem_of_getElem? (i := 156) rfl) rfl, tb_1 (List.mem_of_getElem? (i := 1) (by decide +kernel)) rfl, ⟨by decide, by decide⟩, by decide +kernel, by decide⟩
abbrev mX11_drunk : ab_M := (yX11_drunk, cX11_drunk, 5, (some .int), 8, 0, 0)
set_option maxRecDepth 100000 in
theorem Y_X11_drunk : ab_Y mX11_drunk 4 := ⟨tb_6 (List.mem_of_getElem? (i := 164) rfl) rfl, tb_1 (List.mem_of_getElem? (i := 1) (by decide +kernel)) rfl, ⟨by decide, by decide⟩, by decide +kernel, by decide⟩
abbrev mX11_drawn : ab_M := (yX11_drawn, cX11_drawn, 2, (some .int), 2, 0, 0)
set_option maxRecDepth 100000 in
theorem Y_X11_drawn : ab_Y mX11_drawn 1 := ⟨tb_6 (List.mem_of_getElem? (i := 185) rfl) rfl, tb_1 (List.mem_of_getElem? (i := 1) (by decide +kernel)) rfl, ⟨by decide, by decide⟩, by decide +kernel, by decide⟩
abbrev mX11_image : ab_M := (yX11_image, cX11_image, 3, (some .int), 3, 16, 700)
set_option maxRecDepth 100000 in
theorem Y_X11_image : ab_Y mX11_image 1 := ⟨tb_6 (List.mem_of_getElem? (i := 189) rfl) rfl, tb_1 (List.mem_of_getElem? (i := 1) (by decide +kernel)) rfl, ⟨by decide, by decide⟩, by decide +kernel, by decide⟩
abbrev mX11_back : ab_M := (yX11_back, cX11_back, 3, (some .int), 3, 0, 0)
set_option maxRecDepth 100000 in
theorem Y_X11_back : ab_Y mX11_back 1 := ⟨tb_6 (List.mem_of_getElem? (i := 203) rfl) rfl, tb_1 (List.mem_of_getElem? (i := 1) (by decide +kernel)) rfl, ⟨by decide, by decide⟩, by decide +kernel, by decide⟩
abbrev mX11_count : ab_M := (yX11_count, cX11_count, 2, (some .int), 1, 0, 0)
set_option maxRecDepth 100000 in
theorem Y_X11_count : ab_Y mX11_count 1 := ⟨tb_6 (List.mem_of_getElem? (i := 207) rfl) rfl, tb_1 (List.mem_of_getElem? (i := 1) (by decide +kernel)) rfl, ⟨by decide, by decide⟩, by decide +kernel, by decide⟩
abbrev mX11_status : ab_M := (yX11_status, cX11_status, 1, (some .int), 1, 0, 0)
set_option maxRecDepth 100000 in
theorem Y_X11_status : ab_Y mX11_status 0 := ⟨tb_6 (List.mem_of_getElem? (i := 211) rfl) rfl, tb_1 (List.mem_of_getElem? (i := 1) (by decide +kernel)) rfl, ⟨by decide, by decide⟩, by decide +kernel, by decide⟩
abbrev mX11_isIn : ab_M := (yX11_isIn, cX11_isIn, 2, (some .boolean), 1, 0, 0)
set_option maxRecDepth 100000 in
theorem Y_X11_isIn : ab_Y mX11_isIn 2 := ⟨tb_3 (List.mem_of_getElem? (i := 124) rfl) rfl, tb_1 (List.mem_of_getElem? (i := 1) (by decide +kernel)) rfl, ⟨by decide, by decide⟩, by decide +kernel, by decide⟩
abbrev mX11_isFact : ab_M := (yX11_isFact, cX11_isFact, 2, (some .boolean), 2, 0, 0)
set_option maxRecDepth 100000 in
theorem Y_X11_isFact : ab_Y mX11_isFact 2 := ⟨tb_4 (List.mem_of_getElem? (i := 24) rfl) rfl, tb_1 (List.mem_of_getElem? (i := 1) (by decide +kernel)) rfl, ⟨by decide, by decide⟩, by decide +kernel, by decide⟩
abbrev mX11_areBits : ab_M := (yX11_areBits, cX11_areBits, 3, (some .boolean), 2, 0, 0)
set_option maxRecDepth 100000 in
theorem Y_X11_areBits : ab_Y mX11_areBits 3 := ⟨tb_6 (List.mem_of_getElem? (i := 21) rfl) rfl, tb_1 (List.mem_of_getElem? (i := 1) (by decide +kernel)) rfl, ⟨by decide, by decide⟩, by decide +kernel, by decide⟩
abbrev mX11_countBit : ab_M := (yX11_countBit, cX11_countBit, 5, (some .int), 1, 0, 0)
set_option maxRecDepth 100000 in
theorem Y_X11_countBit : ab_Y mX11_countBit 3 := ⟨tb_5 (List.mem_of_getElem? (i := 131) rfl) rfl, tb_1 (List.mem_of_getElem? (i := 1) (by decide +kernel)) rfl, ⟨by decide, by decide⟩, by decide +kernel, by decide⟩
abbrev mX11_refuse : ab_M := (yX11_refuse, cX11_refuse, 3, (some .int), 1, 0, 0)
set_option maxRecDepth 100000 in
theorem Y_X11_refuse : ab_Y mX11_refuse 1 := ⟨tb_3 (List.mem_of_getElem? (i := 128) rfl) rfl, tb_1 (List.mem_of_getElem? (i := 1) (by decide +kernel)) rfl, ⟨by decide, by decide⟩, by decide +kernel, by decide⟩
abbrev mX11_grant : ab_M := (yX11_grant, cX11_grant, 2, (some .int), 1, 0, 0)
set_option maxRecDepth 100000 in
theorem Y_X11_grant : ab_Y mX11_grant 1 := ⟨tb_3 (List.mem_of_getElem? (i := 166) rfl) rfl, tb_1 (List.mem_of_getElem? (i := 1) (by decide +kernel)) rfl, ⟨by decide, by decide⟩, by decide +kernel, by decide⟩
abbrev mX11_change : ab_M := (yX11_change, cX11_change, 2, (some .int), 2, 0, 0)
set_option maxRecDepth 100000 in
theorem Y_X11_change : ab_Y mX11_change 1 := ⟨tb_3 (List.mem_of_getElem? (i := 162) rfl) rfl, tb_1 (List.mem_of_getElem? (i := 1) (by decide +kernel)) rfl, ⟨by decide, by decide⟩, by decide +kernel, by decide⟩
abbrev mX11_write : ab_M := (yX11_write, cX11_write, 3, none, 1, 0, 0)
set_option maxRecDepth 100000 in
theorem Y_X11_write : ab_Y mX11_write 1 := ⟨tb_4 (List.mem_of_getElem? (i := 70) rfl) rfl, tb_1 (List.mem_of_getElem? (i := 1) (by decide +kernel)) rfl, ⟨by decide, by decide⟩, by decide +kernel, by decide⟩
abbrev mX11_takeTape : ab_M := (yX11_takeTape, cX11_takeTape, 2, (some .int), 1, 0, 0)
set_option maxRecDepth 100000 in
theorem Y_X11_takeTape : ab_Y mX11_takeTape 0 := ⟨tb_4 (List.mem_of_getElem? (i := 82) rfl) rfl, tb_1 (List.mem_of_getElem? (i := 1) (by decide +kernel)) rfl, ⟨by decide, by decide⟩, by decide +kernel, by decide⟩
abbrev mX11_look : ab_M := (yX11_look, cX11_look, 1, none, 5, 0, 0)
set_option maxRecDepth 100000 in
theorem Y_X11_look : ab_Y mX11_look 0 := ⟨tb_3 (List.mem_of_getElem? (i := 191) rfl) rfl, tb_1 (List.mem_of_getElem? (i := 1) (by decide +kernel)) rfl, ⟨by decide, by decide⟩, by decide +kernel, by decide⟩
abbrev mX11_runClause : ab_M := (yX11_runClause, cX11_runClause, 10, (some .int), 6, 0, 0)
set_option maxRecDepth 100000 in
theorem Y_X11_runClause : ab_Y mX11_runClause 3 := ⟨tb_5 (List.mem_of_getElem? (i := 7) rfl) rfl, tb_1 (List.mem_of_getElem? (i := 1) (by decide +kernel)) rfl, ⟨by decide, by decide⟩, by decide +kernel, by decide⟩
abbrev mX11_runOnce : ab_M := (yX11_runOnce, cX11_runOnce, 11, (some .int), 5, 0, 0)
set_option maxRecDepth 100000 in
theorem Y_X11_runOnce : ab_Y mX11_runOnce 3 := ⟨tb_5 (List.mem_of_getElem? (i := 21) rfl) rfl, tb_1 (List.mem_of_getElem? (i := 1) (by decide +kernel)) rfl, ⟨by decide, by decide⟩, by decide +kernel, by decide⟩
abbrev mX12_lies : ab_M := (yX12_lies, cX12_lies, 3, (some .boolean), 1, 0, 0)
set_option maxRecDepth 100000 in
theorem Y_X12_lies : ab_Y mX12_lies 3 := ⟨tb_7 (List.mem_of_getElem? (i := 224) rfl) rfl, tb_1 (List.mem_of_getElem? (i := 12) (by decide +kernel)) rfl, ⟨by decide, by decide⟩, by decide +kernel, by decide⟩
abbrev mX12_refuses : ab_M := (yX12_refuses, cX12_refuses, 2, (some .int), 1, 0, 0)
set_option maxRecDepth 100000 in
theorem Y_X12_refuses : ab_Y mX12_refuses 1 := ⟨tb_7 (List.mem_of_getElem? (i := 228) rfl) rfl, tb_1 (List.mem_of_getElem? (i := 12) (by decide +kernel)) rfl, ⟨by decide, by decide⟩, by decide +kernel, by decide⟩
abbrev mX12_good : ab_M := (yX12_good, cX12_good, 2, (some .int), 1, 0, 0)
set_option maxRecDepth 100000 in
theorem Y_X12_good : ab_Y mX12_good 1 := ⟨tb_7 (List.mem_of_getElem? (i := 232) rfl) rfl, tb_1 (List.mem_of_getElem? (i := 12) (by decide +kernel)) rfl, ⟨by decide, by decide⟩, by decide +kernel, by decide⟩
abbrev mX12_isIn : ab_M := (yX12_isIn, cX12_isIn, 2, (some .boolean), 1, 0, 0)
set_option maxRecDepth 100000 in
theorem Y_X12_isIn : ab_Y mX12_isIn 2 := ⟨tb_8 (List.mem_of_getElem? (i := 228) rfl) rfl, tb_1 (List.mem_of_getElem? (i := 12) (by decide +kernel)) rfl, ⟨by decide, by decide⟩, by decide +kernel, by decide⟩
abbrev mX12_ones : ab_M := (yX12_ones, cX12_ones, 3, (some .int), 1, 0, 0)
set_option maxRecDepth 100000 in
theorem Y_X12_ones : ab_Y mX12_ones 1 := ⟨tb_9 (List.mem_of_getElem? (i := 118) rfl) rfl, tb_1 (List.mem_of_getElem? (i := 12) (by decide +kernel)) rfl, ⟨by decide, by decide⟩, by decide +kernel, by decide⟩
abbrev mX12_lesser : ab_M := (yX12_lesser, cX12_lesser, 2, (some .int), 1, 0, 0)
set_option maxRecDepth 100000 in
theorem Y_X12_lesser : ab_Y mX12_lesser 2 := ⟨tb_8 (List.mem_of_getElem? (i := 14) rfl) rfl, tb_1 (List.mem_of_getElem? (i := 12) (by decide +kernel)) rfl, ⟨by decide, by decide⟩, by decide +kernel, by decide⟩
abbrev mX12_init : ab_M := (yX12_init, cX12_init, 1, none, 1, 41, 1173000)
set_option maxRecDepth 100000 in
theorem Y_X12_init : ab_Y mX12_init 0 := ⟨tb_6 (List.mem_of_getElem? (i := 216) rfl) rfl, tb_1 (List.mem_of_getElem? (i := 12) (by decide +kernel)) rfl, ⟨by decide, by decide⟩, by decide +kernel, by decide⟩
abbrev mX12_image : ab_M := (yX12_image, cX12_image, 3, (some .int), 2, 0, 0)
set_option maxRecDepth 100000 in
theorem Y_X12_image : ab_Y mX12_image 1 := ⟨tb_7 (List.mem_of_getElem? (i := 221) rfl) rfl, tb_1 (List.mem_of_getElem? (i := 12) (by decide +kernel)) rfl, ⟨by decide, by decide⟩, by decide +kernel, by decide⟩
abbrev mX12_back : ab_M := (yX12_back, cX12_back, 3, (some .int), 2, 0, 0)
set_option maxRecDepth 100000 in
theorem Y_X12_back : ab_Y mX12_back 1 := ⟨tb_7 (List.mem_of_getElem? (i := 236) rfl) rfl, tb_1 (List.mem_of_getElem? (i := 12) (by decide +kernel)) rfl, ⟨by decide, by decide⟩, by decide +kernel, by decide⟩
abbrev mX12_isCorner : ab_M := (yX12_isCorner, cX12_isCorner, 1, (some .boolean), 2, 0, 0)
set_option maxRecDepth 100000 in
theorem Y_X12_isCorner : ab_Y mX12_isCorner 1 := ⟨tb_8 (List.mem_of_getElem? (i := 3) rfl) rfl, tb_1 (List.mem_of_getElem? (i := 12) (by decide +kernel)) rfl, ⟨by decide, by decide⟩, by decide +kernel, by decide⟩
abbrev mX12_isKind : ab_M := (yX12_isKind, cX12_isKind, 1, (some .boolean), 2, 0, 0)
set_option maxRecDepth 100000 in
theorem Y_X12_isKind : ab_Y mX12_isKind 1 := ⟨tb_8 (List.mem_of_getElem? (i := 44) rfl) rfl, tb_1 (List.mem_of_getElem? (i := 12) (by decide +kernel)) rfl, ⟨by decide, by decide⟩, by decide +kernel, by decide⟩
abbrev mX12_isMinute : ab_M := (yX12_isMinute, cX12_isMinute, 1, (some .boolean), 2, 0, 0)
set_option maxRecDepth 100000 in
theorem Y_X12_isMinute : ab_Y mX12_isMinute 1 := ⟨tb_8 (List.mem_of_getElem? (i := 67) rfl) rfl, tb_1 (List.mem_of_getElem? (i := 12) (by decide +kernel)) rfl, ⟨by decide, by decide⟩, by decide +kernel, by decide⟩
abbrev mX12_isWay : ab_M := (yX12_isWay, cX12_isWay, 2, (some .boolean), 2, 0, 0)
set_option maxRecDepth 100000 in
theorem Y_X12_isWay : ab_Y mX12_isWay 1 := ⟨tb_8 (List.mem_of_getElem? (i := 26) rfl) rfl, tb_1 (List.mem_of_getElem? (i := 12) (by decide +kernel)) rfl, ⟨by decide, by decide⟩, by decide +kernel, by decide⟩
abbrev mX12_isLamp : ab_M := (yX12_isLamp, cX12_isLamp, 2, (some .boolean), 2, 0, 0)
set_option maxRecDepth 100000 in
theorem Y_X12_isLamp : ab_Y mX12_isLamp 1 := ⟨tb_8 (List.mem_of_getElem? (i := 52) rfl) rfl, tb_1 (List.mem_of_getElem? (i := 12) (by decide +kernel)) rfl, ⟨by decide, by decide⟩, by decide +kernel, by decide⟩
abbrev mX12_isLantern : ab_M := (yX12_isLantern, cX12_isLantern, 2, (some .boolean), 2, 0, 0)
set_option maxRecDepth 100000 in
theorem Y_X12_isLantern : ab_Y mX12_isLantern 1 := ⟨tb_8 (List.mem_of_getElem? (i := 83) rfl) rfl, tb_1 (List.mem_of_getElem? (i := 12) (by decide +kernel)) rfl, ⟨by decide, by decide⟩, by decide +kernel, by decide⟩
abbrev mX12_joins : ab_M := (yX12_joins, cX12_joins, 4, (some .boolean), 2, 0, 0)
set_option maxRecDepth 100000 in
theorem Y_X12_joins : ab_Y mX12_joins 3 := ⟨tb_8 (List.mem_of_getElem? (i := 11) rfl) rfl, tb_1 (List.mem_of_getElem? (i := 12) (by decide +kernel)) rfl, ⟨by decide, by decide⟩, by decide +kernel, by decide⟩
abbrev mX12_hasWay : ab_M := (yX12_hasWay, cX12_hasWay, 4, (some .boolean), 3, 0, 0)
set_option maxRecDepth 100000 in
theorem Y_X12_hasWay : ab_Y mX12_hasWay 2 := ⟨tb_8 (List.mem_of_getElem? (i := 7) rfl) rfl, tb_1 (List.mem_of_getElem? (i := 12) (by decide +kernel)) rfl, ⟨by decide, by decide⟩, by decide +kernel, by decide⟩
abbrev mX12_comesBehind : ab_M := (yX12_comesBehind, cX12_comesBehind, 7, (some .int), 1, 0, 0)
set_option maxRecDepth 100000 in
theorem Y_X12_comesBehind : ab_Y mX12_comesBehind 5 := ⟨tb_8 (List.mem_of_getElem? (i := 18) rfl) rfl, tb_1 (List.mem_of_getElem? (i := 12) (by decide +kernel)) rfl, ⟨by decide, by decide⟩, by decide +kernel, by decide⟩
abbrev mX12_way : ab_M := (yX12_way, cX12_way, 3, (some .int), 4, 0, 0)
set_option maxRecDepth 100000 in
theorem Y_X12_way : ab_Y mX12_way 2 := ⟨tb_8 (List.mem_of_getElem? (i := 0) rfl) rfl, tb_1 (List.mem_of_getElem? (i := 12) (by decide +kernel)) rfl, ⟨by decide, by decide⟩, by decide +kernel, by decide⟩
abbrev mX12_replaces : ab_M := (yX12_replaces, cX12_replaces, 4, (some .int), 2, 0, 0)
set_option maxRecDepth 100000 in
theorem Y_X12_replaces : ab_Y mX12_replaces 2 := ⟨tb_8 (List.mem_of_getElem? (i := 30) rfl) rfl, tb_1 (List.mem_of_getElem? (i := 12) (by decide +kernel)) rfl, ⟨by decide, by decide⟩, by decide +kernel, by decide⟩
abbrev mX12_shutter : ab_M := (yX12_shutter, cX12_shutter, 3, (some .int), 3, 0, 0)
set_option maxRecDepth 100000 in
theorem Y_X12_shutter : ab_Y mX12_shutter 2 := ⟨tb_8 (List.mem_of_getElem? (i := 22) rfl) rfl, tb_1 (List.mem_of_getElem? (i := 12) (by decide +kernel)) rfl, ⟨by decide, by decide⟩, by decide +kernel, by decide⟩
abbrev mX12_of : ab_M := (yX12_of, cX12_of, 3, (some .int), 3, 0, 0)
set_option maxRecDepth 100000 in
theorem Y_X12_of : ab_Y mX12_of 2 := ⟨tb_8 (List.mem_of_getElem? (i := 34) rfl) rfl, tb_1 (List.mem_of_getElem? (i := 12) (by decide +kernel)) rfl, ⟨by decide, by decide⟩, by decide +kernel, by decide⟩
abbrev mX12_isFact : ab_M := (yX12_isFact, cX12_isFact, 2, (some .boolean), 3, 0, 0)
set_option maxRecDepth 100000 in
theorem Y_X12_isFact : ab_Y mX12_isFact 2 := ⟨tb_8 (List.mem_of_getElem? (i := 41) rfl) rfl, tb_1 (List.mem_of_getElem? (i := 12) (by decide +kernel)) rfl, ⟨by decide, by decide⟩, by decide +kernel, by decide⟩
abbrev mX12_lamp : ab_M := (yX12_lamp, cX12_lamp, 4, (some .int), 4, 0, 0)
set_option maxRecDepth 100000 in
theorem Y_X12_lamp : ab_Y mX12_lamp 3 := ⟨tb_8 (List.mem_of_getElem? (i := 38) rfl) rfl, tb_1 (List.mem_of_getElem? (i := 12) (by decide +kernel)) rfl, ⟨by decide, by decide⟩, by decide +kernel, by decide⟩
abbrev mX12_put : ab_M := (yX12_put, cX12_put, 4, (some .int), 4, 0, 0)
set_option maxRecDepth 100000 in
theorem Y_X12_put : ab_Y mX12_put 3 := ⟨tb_8 (List.mem_of_getElem? (i := 48) rfl) rfl, tb_1 (List.mem_of_getElem? (i := 12) (by decide +kernel)) rfl, ⟨by decide, by decide⟩, by decide +kernel, by decide⟩
abbrev mX12_fact : ab_M := (yX12_fact, cX12_fact, 3, (some .int), 3, 0, 0)
set_option maxRecDepth 100000 in
theorem Y_X12_fact : ab_Y mX12_fact 2 := ⟨tb_8 (List.mem_of_getElem? (i := 56) rfl) rfl, tb_1 (List.mem_of_getElem? (i := 12) (by decide +kernel)) rfl, ⟨by decide, by decide⟩, by decide +kernel, by decide⟩
abbrev mX12_tellsSwitch : ab_M := (yX12_tellsSwitch, cX12_tellsSwitch, 4, (some .int), 3, 0, 0)
set_option maxRecDepth 100000 in
theorem Y_X12_tellsSwitch : ab_Y mX12_tellsSwitch 3 := ⟨tb_8 (List.mem_of_getElem? (i := 64) rfl) rfl, tb_1 (List.mem_of_getElem? (i := 12) (by decide +kernel)) rfl, ⟨by decide, by decide⟩, by decide +kernel, by decide⟩
abbrev mX12_turn : ab_M := (yX12_turn, cX12_turn, 5, (some .int), 4, 0, 0)
set_option maxRecDepth 100000 in
theorem Y_X12_turn : ab_Y mX12_turn 3 := ⟨tb_8 (List.mem_of_getElem? (i := 60) rfl) rfl, tb_1 (List.mem_of_getElem? (i := 12) (by decide +kernel)) rfl, ⟨by decide, by decide⟩, by decide +kernel, by decide⟩
abbrev mX12_undo : ab_M := (yX12_undo, cX12_undo, 1, (some .int), 2, 0, 0)
set_option maxRecDepth 100000 in
theorem Y_X12_undo : ab_Y mX12_undo 0 := ⟨tb_8 (List.mem_of_getElem? (i := 71) rfl) rfl, tb_1 (List.mem_of_getElem? (i := 12) (by decide +kernel)) rfl, ⟨by decide, by decide⟩, by decide +kernel, by decide⟩
abbrev mX12_lantern : ab_M := (yX12_lantern, cX12_lantern, 5, (some .int), 3, 0, 0)
set_option maxRecDepth 100000 in
theorem Y_X12_lantern : ab_Y mX12_lantern 3 := ⟨tb_8 (List.mem_of_getElem? (i := 75) rfl) rfl, tb_1 (List.mem_of_getElem? (i := 12) (by decide +kernel)) rfl, ⟨by decide, by decide⟩, by decide +kernel, by decide⟩
abbrev mX12_go : ab_M := (yX12_go, cX12_go, 5, (some .int), 4, 0, 0)
set_option maxRecDepth 100000 in
theorem Y_X12_go : ab_Y mX12_go 2 := ⟨tb_8 (List.mem_of_getElem? (i := 79) rfl) rfl, tb_1 (List.mem_of_getElem? (i := 12) (by decide +kernel)) rfl, ⟨by decide, by decide⟩, by decide +kernel, by decide⟩
abbrev mX12_goAll : ab_M := (yX12_goAll, cX12_goAll, 3, (some .int), 1, 0, 0)
set_option maxRecDepth 100000 in
theorem Y_X12_goAll : ab_Y mX12_goAll 1 := ⟨tb_8 (List.mem_of_getElem? (i := 91) rfl) rfl, tb_1 (List.mem_of_getElem? (i := 12) (by decide +kernel)) rfl, ⟨by decide, by decide⟩, by decide +kernel, by decide⟩
abbrev mX12_doused : ab_M := (yX12_doused, cX12_doused, 1, (some .int), 2, 0, 0)
set_option maxRecDepth 100000 in
theorem Y_X12_doused : ab_Y mX12_doused 0 := ⟨tb_8 (List.mem_of_getElem? (i := 87) rfl) rfl, tb_1 (List.mem_of_getElem? (i := 12) (by decide +kernel)) rfl, ⟨by decide, by decide⟩, by decide +kernel, by decide⟩
abbrev mX12_errand : ab_M := (yX12_errand, cX12_errand, 4, (some .int), 3, 0, 0)
set_option maxRecDepth 100000 in
theorem Y_X12_errand : ab_Y mX12_errand 3 := ⟨tb_8 (List.mem_of_getElem? (i := 95) rfl) rfl, tb_1 (List.mem_of_getElem? (i := 12) (by decide +kernel)) rfl, ⟨by decide, by decide⟩, by decide +kernel, by decide⟩
abbrev mX12_terms : ab_M := (yX12_terms, cX12_terms, 3, (some .int), 3, 0, 0)
set_option maxRecDepth 100000 in
theorem Y_X12_terms : ab_Y mX12_terms 2 := ⟨tb_8 (List.mem_of_getElem? (i := 99) rfl) rfl, tb_1 (List.mem_of_getElem? (i := 12) (by decide +kernel)) rfl, ⟨by decide, by decide⟩, by decide +kernel, by decide⟩
abbrev mX12_row : ab_M := (yX12_row, cX12_row, 5, (some .int), 4, 0, 0)
set_option maxRecDepth 100000 in
theorem Y_X12_row : ab_Y mX12_row 0 := ⟨tb_8 (List.mem_of_getElem? (i := 103) rfl) rfl, tb_1 (List.mem_of_getElem? (i := 12) (by decide +kernel)) rfl, ⟨by decide, by decide⟩, by decide +kernel, by decide⟩
abbrev mX12_ash : ab_M := (yX12_ash, cX12_ash, 1, (some .int), 1, 0, 0)
set_option maxRecDepth 100000 in
theorem Y_X12_ash : ab_Y mX12_ash 0 := ⟨tb_8 (List.mem_of_getElem? (i := 107) rfl) rfl, tb_1 (List.mem_of_getElem? (i := 12) (by decide +kernel)) rfl, ⟨by decide, by decide⟩, by decide +kernel, by decide⟩
abbrev mX12_feed : ab_M := (yX12_feed, cX12_feed, 7, (some .int), 1, 0, 0)
set_option maxRecDepth 100000 in
theorem Y_X12_feed : ab_Y mX12_feed 5 := ⟨tb_8 (List.mem_of_getElem? (i := 111) rfl) rfl, tb_1 (List.mem_of_getElem? (i := 12) (by decide +kernel)) rfl, ⟨by decide, by decide⟩, by decide +kernel, by decide⟩
abbrev mX12_end : ab_M := (yX12_end, cX12_end, 2, (some .int), 2, 0, 0)
set_option maxRecDepth 100000 in
theorem Y_X12_end : ab_Y mX12_end 1 := ⟨tb_8 (List.mem_of_getElem? (i := 115) rfl) rfl, tb_1 (List.mem_of_getElem? (i := 12) (by decide +kernel)) rfl, ⟨by decide, by decide⟩, by decide +kernel, by decide⟩
abbrev mX12_isSmall : ab_M := (yX12_isSmall, cX12_isSmall, 1, (some .boolean), 1, 0, 0)
set_option maxRecDepth 100000 in
theorem Y_X12_isSmall : ab_Y mX12_isSmall 1 := ⟨tb_8 (List.mem_of_getElem? (i := 130) rfl) rfl, tb_1 (List.mem_of_getElem? (i := 12) (by decide +kernel)) rfl, ⟨by decide, by decide⟩, by decide +kernel, by decide⟩
abbrev mX12_isDigit : ab_M := (yX12_isDigit, cX12_isDigit, 1, (some .boolean), 1, 0, 0)
set_option maxRecDepth 100000 in
theorem Y_X12_isDigit : ab_Y mX12_isDigit 1 := ⟨tb_8 (List.mem_of_getElem? (i := 133) rfl) rfl, tb_1 (List.mem_of_getElem? (i := 12) (by decide +kernel)) rfl, ⟨by decide, by decide⟩, by decide +kernel, by decide⟩
abbrev mX12_wordOf : ab_M := (yX12_wordOf, cX12_wordOf, 8, (some .int), 1, 0, 0)
set_option maxRecDepth 100000 in
theorem Y_X12_wordOf : ab_Y mX12_wordOf 2 := ⟨tb_8 (List.mem_of_getElem? (i := 137) rfl) rfl, tb_1 (List.mem_of_getElem? (i := 12) (by decide +kernel)) rfl, ⟨by decide, by decide⟩, by decide +kernel, by decide⟩
abbrev mX12_splits : ab_M := (yX12_splits, cX12_splits, 6, none, 2, 0, 0)
set_option maxRecDepth 100000 in
theorem Y_X12_splits : ab_Y mX12_splits 1 := ⟨tb_8 (List.mem_of_getElem? (i := 127) rfl) rfl, tb_1 (List.mem_of_getElem? (i := 12) (by decide +kernel)) rfl, ⟨by decide, by decide⟩, by decide +kernel, by decide⟩
abbrev mX12_fine : ab_M := (yX12_fine, cX12_fine, 1, (some .boolean), 1, 0, 0)
set_option maxRecDepth 100000 in
theorem Y_X12_fine : ab_Y mX12_fine 0 := ⟨tb_8 (List.mem_of_getElem? (i := 154) rfl) rfl, tb_1 (List.mem_of_getElem? (i := 12) (by decide +kernel)) rfl, ⟨by decide, by decide⟩, by decide +kernel, by decide⟩
abbrev mX12_faults : ab_M := (yX12_faults, cX12_faults, 1, none, 2, 0, 0)
set_option maxRecDepth 100000 in
theorem Y_X12_faults : ab_Y mX12_faults 0 := ⟨tb_8 (List.mem_of_getElem? (i := 162) rfl) rfl, tb_1 (List.mem_of_getElem? (i := 12) (by decide +kernel)) rfl, ⟨by decide, by decide⟩, by decide +kernel, by decide⟩
abbrev mX12_takes0 : ab_M := (yX12_takes0, cX12_takes0, 3, (some .boolean), 2, 0, 0)
set_option maxRecDepth 100000 in
theorem Y_X12_takes0 : ab_Y mX12_takes0 1 := ⟨tb_8 (List.mem_of_getElem? (i := 150) rfl) rfl, tb_1 (List.mem_of_getElem? (i := 12) (by decide +kernel)) rfl, ⟨by decide, by decide⟩, by decide +kernel, by decide⟩
abbrev mX12_must : ab_M := (yX12_must, cX12_must, 2, none, 3, 0, 0)
set_option maxRecDepth 100000 in
theorem Y_X12_must : ab_Y mX12_must 1 := ⟨tb_8 (List.mem_of_getElem? (i := 158) rfl) rfl, tb_1 (List.mem_of_getElem? (i := 12) (by decide +kernel)) rfl, ⟨by decide, by decide⟩, by decide +kernel, by decide⟩
abbrev mX12_leaf : ab_M := (yX12_leaf, cX12_leaf, 1, none, 3, 0, 0)
set_option maxRecDepth 100000 in
theorem Y_X12_leaf : ab_Y mX12_leaf 0 := ⟨tb_8 (List.mem_of_getElem? (i := 185) rfl) rfl, tb_1 (List.mem_of_getElem? (i := 12) (by decide +kernel)) rfl, ⟨by decide, by decide⟩, by decide +kernel, by decide⟩
abbrev mX12_sign : ab_M := (yX12_sign, cX12_sign, 1, (some .int), 1, 0, 0)
set_option maxRecDepth 100000 in
theorem Y_X12_sign : ab_Y mX12_sign 1 := ⟨tb_8 (List.mem_of_getElem? (i := 177) rfl) rfl, tb_1 (List.mem_of_getElem? (i := 12) (by decide +kernel)) rfl, ⟨by decide, by decide⟩, by decide +kernel, by decide⟩
abbrev mX12_isValue : ab_M := (yX12_isValue, cX12_isValue, 2, (some .boolean), 2, 0, 0)
set_option maxRecDepth 100000 in
theorem Y_X12_isValue : ab_Y mX12_isValue 1 := ⟨tb_8 (List.mem_of_getElem? (i := 181) rfl) rfl, tb_1 (List.mem_of_getElem? (i := 12) (by decide +kernel)) rfl, ⟨by decide, by decide⟩, by decide +kernel, by decide⟩
abbrev mX12_readClause : ab_M := (yX12_readClause, cX12_readClause, 1, none, 61, 0, 0)
set_option maxRecDepth 100000 in
theorem Y_X12_readClause : ab_Y mX12_readClause 0 := ⟨tb_8 (List.mem_of_getElem? (i := 201) rfl) rfl, tb_1 (List.mem_of_getElem? (i := 12) (by decide +kernel)) rfl, ⟨by decide, by decide⟩, by decide +kernel, by decide⟩
abbrev mX12_readRound : ab_M := (yX12_readRound, cX12_readRound, 1, none, 61, 0, 0)
set_option maxRecDepth 100000 in
theorem Y_X12_readRound : ab_Y mX12_readRound 0 := ⟨tb_8 (List.mem_of_getElem? (i := 146) rfl) rfl, tb_1 (List.mem_of_getElem? (i := 12) (by decide +kernel)) rfl, ⟨by decide, by decide⟩, by decide +kernel, by decide⟩
abbrev mX12_readOne : ab_M := (yX12_readOne, cX12_readOne, 1, none, 62, 0, 0)
set_option maxRecDepth 100000 in
theorem Y_X12_readOne : ab_Y mX12_readOne 0 := ⟨tb_8 (List.mem_of_getElem? (i := 142) rfl) rfl, tb_1 (List.mem_of_getElem? (i := 12) (by decide +kernel)) rfl, ⟨by decide, by decide⟩, by decide +kernel, by decide⟩
abbrev mX12_readTest (d : Nat) : ab_M := (yX12_readTest, cX12_readTest, 2, none, d, 0, 0)
set_option maxRecDepth 100000 in
theorem Y_X12_readTest (d : Nat) : ab_Y (mX12_readTest d) 1 := show ab_Y (mX12_readTest 0) 1 from ⟨tb_8 (List.mem_of_getElem? (i := 189) rfl) rfl, tb_1 (List.mem_of_getElem? (i := 12) (by decide +kernel)) rfl, ⟨by decide, by decide⟩, by decide +kernel, by decide⟩
abbrev mX12_readBoth (d : Nat) : ab_M := (yX12_readBoth, cX12_readBoth, 2, none, d, 0, 0)
set_option maxRecDepth 100000 in
theorem Y_X12_readBoth (d : Nat) : ab_Y (mX12_readBoth d) 1 := show ab_Y (mX12_readBoth 0) 1 from ⟨tb_8 (List.mem_of_getElem? (i := 193) rfl) rfl, tb_1 (List.mem_of_getElem? (i := 12) (by decide +kernel)) rfl, ⟨by decide, by decide⟩, by decide +kernel, by decide⟩
abbrev mX12_readPlain (d : Nat) : ab_M := (yX12_readPlain, cX12_readPlain, 4, none, d, 0, 0)
set_option maxRecDepth 100000 in
theorem Y_X12_readPlain (d : Nat) : ab_Y (mX12_readPlain d) 1 := show ab_Y (mX12_readPlain 0) 1 from ⟨tb_8 (List.mem_of_getElem? (i := 197) rfl) rfl, tb_1 (List.mem_of_getElem? (i := 12) (by decide +kernel)) rfl, ⟨by decide, by decide⟩, by decide +kernel, by decide⟩
abbrev mX12_readSum (d : Nat) : ab_M := (yX12_readSum, cX12_readSum, 2, none, d, 0, 0)
set_option maxRecDepth 100000 in
theorem Y_X12_readSum (d : Nat) : ab_Y (mX12_readSum d) 1 := show ab_Y (mX12_readSum 0) 1 from ⟨tb_8 (List.mem_of_getElem? (i := 166) rfl) rfl, tb_1 (List.mem_of_getElem? (i := 12) (by decide +kernel)) rfl, ⟨by decide, by decide⟩, by decide +kernel, by decide⟩
abbrev mX12_readTerm (d : Nat) : ab_M := (yX12_readTerm, cX12_readTerm, 2, none, d, 0, 0)
set_option maxRecDepth 100000 in
theorem Y_X12_readTerm (d : Nat) : ab_Y (mX12_readTerm d) 1 := show ab_Y (mX12_readTerm 0) 1 from ⟨tb_8 (List.mem_of_getElem? (i := 170) rfl) rfl, tb_1 (List.mem_of_getElem? (i := 12) (by decide +kernel)) rfl, ⟨by decide, by decide⟩, by decide +kernel, by decide⟩
abbrev mX12_readPart (d : Nat) : ab_M := (yX12_readPart, cX12_readPart, 3, none, d, 0, 0)
set_option maxRecDepth 100000 in
theorem Y_X12_readPart (d : Nat) : ab_Y (mX12_readPart d) 1 := show ab_Y (mX12_readPart 0) 1 from ⟨tb_8 (List.mem_of_getElem? (i := 174) rfl) rfl, tb_1 (List.mem_of_getElem? (i := 12) (by decide +kernel)) rfl, ⟨by decide, by decide⟩, by decide +kernel, by decide⟩
abbrev mX12_reads : ab_M := (yX12_reads, cX12_reads, 2, (some .boolean), 63, 0, 0)
set_option maxRecDepth 100000 in
theorem Y_X12_reads : ab_Y mX12_reads 0 := ⟨tb_8 (List.mem_of_getElem? (i := 123) rfl) rfl, tb_1 (List.mem_of_getElem? (i := 12) (by decide +kernel)) rfl, ⟨by decide, by decide⟩, by decide +kernel, by decide⟩
abbrev mX12_lays : ab_M := (yX12_lays, cX12_lays, 3, none, 1, 0, 0)
set_option maxRecDepth 100000 in
theorem Y_X12_lays : ab_Y mX12_lays 1 := ⟨tb_8 (List.mem_of_getElem? (i := 205) rfl) rfl, tb_1 (List.mem_of_getElem? (i := 12) (by decide +kernel)) rfl, ⟨by decide, by decide⟩, by decide +kernel, by decide⟩
abbrev mX12_law : ab_M := (yX12_law, cX12_law, 1, (some .int), 64, 0, 0)
set_option maxRecDepth 100000 in
theorem Y_X12_law : ab_Y mX12_law 0 := ⟨tb_8 (List.mem_of_getElem? (i := 119) rfl) rfl, tb_1 (List.mem_of_getElem? (i := 12) (by decide +kernel)) rfl, ⟨by decide, by decide⟩, by decide +kernel, by decide⟩
abbrev mX12_fault : ab_M := (yX12_fault, cX12_fault, 1, (some .int), 1, 0, 0)
set_option maxRecDepth 100000 in
theorem Y_X12_fault : ab_Y mX12_fault 0 := ⟨tb_8 (List.mem_of_getElem? (i := 209) rfl) rfl, tb_1 (List.mem_of_getElem? (i := 12) (by decide +kernel)) rfl, ⟨by decide, by decide⟩, by decide +kernel, by decide⟩
abbrev mX12_force : ab_M := (yX12_force, cX12_force, 2, (some .int), 3, 0, 0)
set_option maxRecDepth 100000 in
theorem Y_X12_force : ab_Y mX12_force 1 := ⟨tb_8 (List.mem_of_getElem? (i := 213) rfl) rfl, tb_1 (List.mem_of_getElem? (i := 12) (by decide +kernel)) rfl, ⟨by decide, by decide⟩, by decide +kernel, by decide⟩
abbrev mX12_codeAt : ab_M := (yX12_codeAt, cX12_codeAt, 2, (some .int), 1, 0, 0)
set_option maxRecDepth 100000 in
theorem Y_X12_codeAt : ab_Y mX12_codeAt 1 := ⟨tb_9 (List.mem_of_getElem? (i := 16) rfl) rfl, tb_1 (List.mem_of_getElem? (i := 12) (by decide +kernel)) rfl, ⟨by decide, by decide⟩, by decide +kernel, by decide⟩
abbrev mX12_passes0 : ab_M := (yX12_passes0, cX12_passes0, 3, (some .boolean), 2, 0, 0)
set_option maxRecDepth 100000 in
theorem Y_X12_passes0 : ab_Y mX12_passes0 1 := ⟨tb_9 (List.mem_of_getElem? (i := 32) rfl) rfl, tb_1 (List.mem_of_getElem? (i := 12) (by decide +kernel)) rfl, ⟨by decide, by decide⟩, by decide +kernel, by decide⟩
abbrev mX12_bounded : ab_M := (yX12_bounded, cX12_bounded, 4, (some .long), 1, 0, 0)
set_option maxRecDepth 100000 in
theorem Y_X12_bounded : ab_Y mX12_bounded 2 := ⟨tb_9 (List.mem_of_getElem? (i := 36) rfl) rfl, tb_1 (List.mem_of_getElem? (i := 12) (by decide +kernel)) rfl, ⟨by decide, by decide⟩, by decide +kernel, by decide⟩
abbrev mX12_sumOf (d : Nat) : ab_M := (yX12_sumOf, cX12_sumOf, 7, (some .long), d, 0, 0)
set_option maxRecDepth 100000 in
theorem Y_X12_sumOf (d : Nat) : ab_Y (mX12_sumOf d) 1 := show ab_Y (mX12_sumOf 0) 1 from ⟨tb_9 (List.mem_of_getElem? (i := 20) rfl) rfl, tb_1 (List.mem_of_getElem? (i := 12) (by decide +kernel)) rfl, ⟨by decide, by decide⟩, by decide +kernel, by decide⟩
abbrev mX12_termOf (d : Nat) : ab_M := (yX12_termOf, cX12_termOf, 7, (some .long), d, 0, 0)
set_option maxRecDepth 100000 in
theorem Y_X12_termOf (d : Nat) : ab_Y (mX12_termOf d) 1 := show ab_Y (mX12_termOf 0) 1 from ⟨tb_9 (List.mem_of_getElem? (i := 24) rfl) rfl, tb_1 (List.mem_of_getElem? (i := 12) (by decide +kernel)) rfl, ⟨by decide, by decide⟩, by decide +kernel, by decide⟩
abbrev mX12_partOf (d : Nat) : ab_M := (yX12_partOf, cX12_partOf, 4, (some .long), d, 0, 0)
set_option maxRecDepth 100000 in
theorem Y_X12_partOf (d : Nat) : ab_Y (mX12_partOf d) 1 := show ab_Y (mX12_partOf 0) 1 from ⟨tb_9 (List.mem_of_getElem? (i := 28) rfl) rfl, tb_1 (List.mem_of_getElem? (i := 12) (by decide +kernel)) rfl, ⟨by decide, by decide⟩, by decide +kernel, by decide⟩
abbrev mX12_testOf (d : Nat) : ab_M := (yX12_testOf, cX12_testOf, 4, (some .boolean), d, 0, 0)
set_option maxRecDepth 100000 in
theorem Y_X12_testOf (d : Nat) : ab_Y (mX12_testOf d) 1 := show ab_Y (mX12_testOf 0) 1 from ⟨tb_9 (List.mem_of_getElem? (i := 42) rfl) rfl, tb_1 (List.mem_of_getElem? (i := 12) (by decide +kernel)) rfl, ⟨by decide, by decide⟩, by decide +kernel, by decide⟩
abbrev mX12_bothOf (d : Nat) : ab_M := (yX12_bothOf, cX12_bothOf, 4, (some .boolean), d, 0, 0)
set_option maxRecDepth 100000 in
theorem Y_X12_bothOf (d : Nat) : ab_Y (mX12_bothOf d) 1 := show ab_Y (mX12_bothOf 0) 1 from ⟨tb_9 (List.mem_of_getElem? (i := 46) rfl) rfl, tb_1 (List.mem_of_getElem? (i := 12) (by decide +kernel)) rfl, ⟨by decide, by decide⟩, by decide +kernel, by decide⟩
abbrev mX12_plainOf (d : Nat) : ab_M := (yX12_plainOf, cX12_plainOf, 3, (some .boolean), d, 0, 0)
set_option maxRecDepth 100000 in
theorem Y_X12_plainOf (d : Nat) : ab_Y (mX12_plainOf d) 1 := show ab_Y (mX12_plainOf 0) 1 from ⟨tb_9 (List.mem_of_getElem? (i := 50) rfl) rfl, tb_1 (List.mem_of_getElem? (i := 12) (by decide +kernel)) rfl, ⟨by decide, by decide⟩, by decide +kernel, by decide⟩
abbrev mX12_positiveOf (d : Nat) : ab_M := (yX12_positiveOf, cX12_positiveOf, 7, (some .boolean), d, 0, 0)
set_option maxRecDepth 100000 in
theorem Y_X12_positiveOf (d : Nat) : ab_Y (mX12_positiveOf d) 1 := show ab_Y (mX12_positiveOf 0) 1 from ⟨tb_9 (List.mem_of_getElem? (i := 54) rfl) rfl, tb_1 (List.mem_of_getElem? (i := 12) (by decide +kernel)) rfl, ⟨by decide, by decide⟩, by decide +kernel, by decide⟩
abbrev mX12_tells : ab_M := (yX12_tells, cX12_tells, 10, (some .int), 61, 0, 0)
set_option maxRecDepth 100000 in
theorem Y_X12_tells : ab_Y mX12_tells 2 := ⟨tb_9 (List.mem_of_getElem? (i := 12) rfl) rfl, tb_1 (List.mem_of_getElem? (i := 12) (by decide +kernel)) rfl, ⟨by decide, by decide⟩, by decide +kernel, by decide⟩
abbrev mX12_sets : ab_M := (yX12_sets, cX12_sets, 7, none, 1, 0, 0)
set_option maxRecDepth 100000 in
theorem Y_X12_sets : ab_Y mX12_sets 6 := ⟨tb_9 (List.mem_of_getElem? (i := 8) rfl) rfl, tb_1 (List.mem_of_getElem? (i := 12) (by decide +kernel)) rfl, ⟨by decide, by decide⟩, by decide +kernel, by decide⟩
abbrev mX12_knows : ab_M := (yX12_knows, cX12_knows, 2, none, 1, 0, 0)
set_option maxRecDepth 100000 in
theorem Y_X12_knows : ab_Y mX12_knows 0 := ⟨tb_9 (List.mem_of_getElem? (i := 4) rfl) rfl, tb_1 (List.mem_of_getElem? (i := 12) (by decide +kernel)) rfl, ⟨by decide, by decide⟩, by decide +kernel, by decide⟩
abbrev mX12_doesShun : ab_M := (yX12_doesShun, cX12_doesShun, 9, (some .boolean), 62, 0, 0)
set_option maxRecDepth 100000 in
theorem Y_X12_doesShun : ab_Y mX12_doesShun 6 := ⟨tb_9 (List.mem_of_getElem? (i := 63) rfl) rfl, tb_1 (List.mem_of_getElem? (i := 12) (by decide +kernel)) rfl, ⟨by decide, by decide⟩, by decide +kernel, by decide⟩
abbrev mX12_reachOf : ab_M := (yX12_reachOf, cX12_reachOf, 5, (some .int), 62, 0, 0)
set_option maxRecDepth 100000 in
theorem Y_X12_reachOf : ab_Y mX12_reachOf 3 := ⟨tb_9 (List.mem_of_getElem? (i := 0) rfl) rfl, tb_1 (List.mem_of_getElem? (i := 12) (by decide +kernel)) rfl, ⟨by decide, by decide⟩, by decide +kernel, by decide⟩
abbrev mX12_drinkOf : ab_M := (yX12_drinkOf, cX12_drinkOf, 5, (some .int), 62, 0, 0)
set_option maxRecDepth 100000 in
theorem Y_X12_drinkOf : ab_Y mX12_drinkOf 3 := ⟨tb_9 (List.mem_of_getElem? (i := 59) rfl) rfl, tb_1 (List.mem_of_getElem? (i := 12) (by decide +kernel)) rfl, ⟨by decide, by decide⟩, by decide +kernel, by decide⟩
abbrev mX12_measures : ab_M := (yX12_measures, cX12_measures, 6, none, 2, 0, 0)
set_option maxRecDepth 100000 in
theorem Y_X12_measures : ab_Y mX12_measures 2 := ⟨tb_8 (List.mem_of_getElem? (i := 225) rfl) rfl, tb_1 (List.mem_of_getElem? (i := 12) (by decide +kernel)) rfl, ⟨by decide, by decide⟩, by decide +kernel, by decide⟩
abbrev mX12_shutNow : ab_M := (yX12_shutNow, cX12_shutNow, 3, (some .int), 1, 0, 0)
set_option maxRecDepth 100000 in
theorem Y_X12_shutNow : ab_Y mX12_shutNow 0 := ⟨tb_8 (List.mem_of_getElem? (i := 221) rfl) rfl, tb_1 (List.mem_of_getElem? (i := 12) (by decide +kernel)) rfl, ⟨by decide, by decide⟩, by decide +kernel, by decide⟩
abbrev mX12_far : ab_M := (yX12_far, cX12_far, 5, (some .int), 3, 0, 0)
set_option maxRecDepth 100000 in
theorem Y_X12_far : ab_Y mX12_far 3 := ⟨tb_8 (List.mem_of_getElem? (i := 217) rfl) rfl, tb_1 (List.mem_of_getElem? (i := 12) (by decide +kernel)) rfl, ⟨by decide, by decide⟩, by decide +kernel, by decide⟩
abbrev mX12_looks : ab_M := (yX12_looks, cX12_looks, 4, none, 3, 0, 0)
set_option maxRecDepth 100000 in
theorem Y_X12_looks : ab_Y mX12_looks 0 := ⟨tb_8 (List.mem_of_getElem? (i := 236) rfl) rfl, tb_1 (List.mem_of_getElem? (i := 12) (by decide +kernel)) rfl, ⟨by decide, by decide⟩, by decide +kernel, by decide⟩
abbrev mX12_oilOf : ab_M := (yX12_oilOf, cX12_oilOf, 2, (some .int), 1, 0, 0)
set_option maxRecDepth 100000 in
theorem Y_X12_oilOf : ab_Y mX12_oilOf 1 := ⟨tb_9 (List.mem_of_getElem? (i := 79) rfl) rfl, tb_1 (List.mem_of_getElem? (i := 12) (by decide +kernel)) rfl, ⟨by decide, by decide⟩, by decide +kernel, by decide⟩
abbrev mX12_nights : ab_M := (yX12_nights, cX12_nights, 3, none, 66, 0, 0)
set_option maxRecDepth 100000 in
theorem Y_X12_nights : ab_Y mX12_nights 1 := ⟨tb_9 (List.mem_of_getElem? (i := 75) rfl) rfl, tb_1 (List.mem_of_getElem? (i := 12) (by decide +kernel)) rfl, ⟨by decide, by decide⟩, by decide +kernel, by decide⟩
abbrev mX12_burns0 : ab_M := (yX12_burns0, cX12_burns0, 3, none, 1, 0, 0)
set_option maxRecDepth 100000 in
theorem Y_X12_burns0 : ab_Y mX12_burns0 2 := ⟨tb_9 (List.mem_of_getElem? (i := 87) rfl) rfl, tb_1 (List.mem_of_getElem? (i := 12) (by decide +kernel)) rfl, ⟨by decide, by decide⟩, by decide +kernel, by decide⟩
abbrev mX12_minuteOf : ab_M := (yX12_minuteOf, cX12_minuteOf, 4, none, 65, 0, 0)
set_option maxRecDepth 100000 in
theorem Y_X12_minuteOf : ab_Y mX12_minuteOf 1 := ⟨tb_9 (List.mem_of_getElem? (i := 83) rfl) rfl, tb_1 (List.mem_of_getElem? (i := 12) (by decide +kernel)) rfl, ⟨by decide, by decide⟩, by decide +kernel, by decide⟩
abbrev mX12_shunsLamp : ab_M := (yX12_shunsLamp, cX12_shunsLamp, 4, (some .boolean), 63, 0, 0)
set_option maxRecDepth 100000 in
theorem Y_X12_shunsLamp : ab_Y mX12_shunsLamp 3 := ⟨tb_9 (List.mem_of_getElem? (i := 95) rfl) rfl, tb_1 (List.mem_of_getElem? (i := 12) (by decide +kernel)) rfl, ⟨by decide, by decide⟩, by decide +kernel, by decide⟩
abbrev mX12_isDriven : ab_M := (yX12_isDriven, cX12_isDriven, 5, (some .boolean), 64, 0, 0)
set_option maxRecDepth 100000 in
theorem Y_X12_isDriven : ab_Y mX12_isDriven 2 := ⟨tb_9 (List.mem_of_getElem? (i := 91) rfl) rfl, tb_1 (List.mem_of_getElem? (i := 12) (by decide +kernel)) rfl, ⟨by decide, by decide⟩, by decide +kernel, by decide⟩
abbrev mX12_laysNight : ab_M := (yX12_laysNight, cX12_laysNight, 1, none, 67, 0, 0)
set_option maxRecDepth 100000 in
theorem Y_X12_laysNight : ab_Y mX12_laysNight 0 := ⟨tb_9 (List.mem_of_getElem? (i := 71) rfl) rfl, tb_1 (List.mem_of_getElem? (i := 12) (by decide +kernel)) rfl, ⟨by decide, by decide⟩, by decide +kernel, by decide⟩
abbrev mX12_tries : ab_M := (yX12_tries, cX12_tries, 2, none, 67, 0, 0)
set_option maxRecDepth 100000 in
theorem Y_X12_tries : ab_Y mX12_tries 1 := ⟨tb_9 (List.mem_of_getElem? (i := 158) rfl) rfl, tb_1 (List.mem_of_getElem? (i := 12) (by decide +kernel)) rfl, ⟨by decide, by decide⟩, by decide +kernel, by decide⟩
abbrev mX12_litOf : ab_M := (yX12_litOf, cX12_litOf, 4, (some .int), 1, 0, 0)
set_option maxRecDepth 100000 in
theorem Y_X12_litOf : ab_Y mX12_litOf 1 := ⟨tb_9 (List.mem_of_getElem? (i := 193) rfl) rfl, tb_1 (List.mem_of_getElem? (i := 12) (by decide +kernel)) rfl, ⟨by decide, by decide⟩, by decide +kernel, by decide⟩
abbrev mX12_brightIn : ab_M := (yX12_brightIn, cX12_brightIn, 6, (some .int), 64, 0, 0)
set_option maxRecDepth 100000 in
theorem Y_X12_brightIn : ab_Y mX12_brightIn 1 := ⟨tb_9 (List.mem_of_getElem? (i := 103) rfl) rfl, tb_1 (List.mem_of_getElem? (i := 12) (by decide +kernel)) rfl, ⟨by decide, by decide⟩, by decide +kernel, by decide⟩
abbrev mX12_isReached : ab_M := (yX12_isReached, cX12_isReached, 6, (some .boolean), 63, 0, 0)
set_option maxRecDepth 100000 in
theorem Y_X12_isReached : ab_Y mX12_isReached 5 := ⟨tb_9 (List.mem_of_getElem? (i := 107) rfl) rfl, tb_1 (List.mem_of_getElem? (i := 12) (by decide +kernel)) rfl, ⟨by decide, by decide⟩, by decide +kernel, by decide⟩
abbrev mX12_asks : ab_M := (yX12_asks, cX12_asks, 5, (some .int), 63, 0, 0)
set_option maxRecDepth 100000 in
theorem Y_X12_asks : ab_Y mX12_asks 4 := ⟨tb_8 (List.mem_of_getElem? (i := 232) rfl) rfl, tb_1 (List.mem_of_getElem? (i := 12) (by decide +kernel)) rfl, ⟨by decide, by decide⟩, by decide +kernel, by decide⟩
abbrev mX12_burns : ab_M := (yX12_burns, cX12_burns, 7, (some .int), 68, 0, 0)
set_option maxRecDepth 100000 in
theorem Y_X12_burns : ab_Y mX12_burns 3 := ⟨tb_9 (List.mem_of_getElem? (i := 67) rfl) rfl, tb_1 (List.mem_of_getElem? (i := 12) (by decide +kernel)) rfl, ⟨by decide, by decide⟩, by decide +kernel, by decide⟩
abbrev mX12_bright : ab_M := (yX12_bright, cX12_bright, 2, (some .int), 68, 0, 0)
set_option maxRecDepth 100000 in
theorem Y_X12_bright : ab_Y mX12_bright 1 := ⟨tb_9 (List.mem_of_getElem? (i := 99) rfl) rfl, tb_1 (List.mem_of_getElem? (i := 12) (by decide +kernel)) rfl, ⟨by decide, by decide⟩, by decide +kernel, by decide⟩
abbrev mX12_night : ab_M := (yX12_night, cX12_night, 8, (some .int), 68, 0, 0)
set_option maxRecDepth 100000 in
theorem Y_X12_night : ab_Y mX12_night 2 := ⟨tb_9 (List.mem_of_getElem? (i := 111) rfl) rfl, tb_1 (List.mem_of_getElem? (i := 12) (by decide +kernel)) rfl, ⟨by decide, by decide⟩, by decide +kernel, by decide⟩
abbrev mX12_judge : ab_M := (yX12_judge, cX12_judge, 8, (some .int), 68, 0, 0)
set_option maxRecDepth 100000 in
theorem Y_X12_judge : ab_Y mX12_judge 1 := ⟨tb_9 (List.mem_of_getElem? (i := 115) rfl) rfl, tb_1 (List.mem_of_getElem? (i := 12) (by decide +kernel)) rfl, ⟨by decide, by decide⟩, by decide +kernel, by decide⟩
abbrev mX12_stepsBetween : ab_M := (yX12_stepsBetween, cX12_stepsBetween, 3, (some .int), 1, 0, 0)
set_option maxRecDepth 100000 in
theorem Y_X12_stepsBetween : ab_Y mX12_stepsBetween 2 := ⟨tb_9 (List.mem_of_getElem? (i := 134) rfl) rfl, tb_1 (List.mem_of_getElem? (i := 12) (by decide +kernel)) rfl, ⟨by decide, by decide⟩, by decide +kernel, by decide⟩
abbrev mX12_viaLamp : ab_M := (yX12_viaLamp, cX12_viaLamp, 4, (some .int), 2, 0, 0)
set_option maxRecDepth 100000 in
theorem Y_X12_viaLamp : ab_Y mX12_viaLamp 3 := ⟨tb_9 (List.mem_of_getElem? (i := 130) rfl) rfl, tb_1 (List.mem_of_getElem? (i := 12) (by decide +kernel)) rfl, ⟨by decide, by decide⟩, by decide +kernel, by decide⟩
abbrev mX12_leftFrom : ab_M := (yX12_leftFrom, cX12_leftFrom, 5, (some .int), 3, 0, 0)
set_option maxRecDepth 100000 in
theorem Y_X12_leftFrom : ab_Y mX12_leftFrom 2 := ⟨tb_9 (List.mem_of_getElem? (i := 126) rfl) rfl, tb_1 (List.mem_of_getElem? (i := 12) (by decide +kernel)) rfl, ⟨by decide, by decide⟩, by decide +kernel, by decide⟩
abbrev mX12_round : ab_M := (yX12_round, cX12_round, 9, (some .int), 4, 0, 0)
set_option maxRecDepth 100000 in
theorem Y_X12_round : ab_Y mX12_round 2 := ⟨tb_9 (List.mem_of_getElem? (i := 122) rfl) rfl, tb_1 (List.mem_of_getElem? (i := 12) (by decide +kernel)) rfl, ⟨by decide, by decide⟩, by decide +kernel, by decide⟩
abbrev mX12_besides : ab_M := (yX12_besides, cX12_besides, 4, (some .int), 2, 0, 0)
set_option maxRecDepth 100000 in
theorem Y_X12_besides : ab_Y mX12_besides 1 := ⟨tb_9 (List.mem_of_getElem? (i := 142) rfl) rfl, tb_1 (List.mem_of_getElem? (i := 12) (by decide +kernel)) rfl, ⟨by decide, by decide⟩, by decide +kernel, by decide⟩
abbrev mX12_walk : ab_M := (yX12_walk, cX12_walk, 11, (some .int), 68, 0, 0)
set_option maxRecDepth 100000 in
theorem Y_X12_walk : ab_Y mX12_walk 5 := ⟨tb_9 (List.mem_of_getElem? (i := 138) rfl) rfl, tb_1 (List.mem_of_getElem? (i := 12) (by decide +kernel)) rfl, ⟨by decide, by decide⟩, by decide +kernel, by decide⟩
abbrev mX12_carries : ab_M := (yX12_carries, cX12_carries, 8, none, 2, 0, 0)
set_option maxRecDepth 100000 in
theorem Y_X12_carries : ab_Y mX12_carries 4 := ⟨tb_9 (List.mem_of_getElem? (i := 154) rfl) rfl, tb_1 (List.mem_of_getElem? (i := 12) (by decide +kernel)) rfl, ⟨by decide, by decide⟩, by decide +kernel, by decide⟩
abbrev mX12_triesGo : ab_M := (yX12_triesGo, cX12_triesGo, 6, none, 68, 0, 0)
set_option maxRecDepth 100000 in
theorem Y_X12_triesGo : ab_Y mX12_triesGo 4 := ⟨tb_9 (List.mem_of_getElem? (i := 150) rfl) rfl, tb_1 (List.mem_of_getElem? (i := 12) (by decide +kernel)) rfl, ⟨by decide, by decide⟩, by decide +kernel, by decide⟩
abbrev mX12_worst : ab_M := (yX12_worst, cX12_worst, 12, (some .int), 69, 0, 0)
set_option maxRecDepth 100000 in
theorem Y_X12_worst : ab_Y mX12_worst 5 := ⟨tb_9 (List.mem_of_getElem? (i := 146) rfl) rfl, tb_1 (List.mem_of_getElem? (i := 12) (by decide +kernel)) rfl, ⟨by decide, by decide⟩, by decide +kernel, by decide⟩
abbrev mX12_hangs : ab_M := (yX12_hangs, cX12_hangs, 7, (some .boolean), 64, 0, 0)
set_option maxRecDepth 100000 in
theorem Y_X12_hangs : ab_Y mX12_hangs 3 := ⟨tb_9 (List.mem_of_getElem? (i := 169) rfl) rfl, tb_1 (List.mem_of_getElem? (i := 12) (by decide +kernel)) rfl, ⟨by decide, by decide⟩, by decide +kernel, by decide⟩
abbrev mX12_bitsTo : ab_M := (yX12_bitsTo, cX12_bitsTo, 5, (some .int), 2, 0, 0)
set_option maxRecDepth 100000 in
theorem Y_X12_bitsTo : ab_Y mX12_bitsTo 3 := ⟨tb_9 (List.mem_of_getElem? (i := 165) rfl) rfl, tb_1 (List.mem_of_getElem? (i := 12) (by decide +kernel)) rfl, ⟨by decide, by decide⟩, by decide +kernel, by decide⟩
abbrev mX12_hang : ab_M := (yX12_hang, cX12_hang, 15, (some .int), 65, 0, 0)
set_option maxRecDepth 100000 in
theorem Y_X12_hang : ab_Y mX12_hang 5 := ⟨tb_9 (List.mem_of_getElem? (i := 162) rfl) rfl, tb_1 (List.mem_of_getElem? (i := 12) (by decide +kernel)) rfl, ⟨by decide, by decide⟩, by decide +kernel, by decide⟩
abbrev mX12_triesShut : ab_M := (yX12_triesShut, cX12_triesShut, 3, none, 68, 0, 0)
set_option maxRecDepth 100000 in
theorem Y_X12_triesShut : ab_Y mX12_triesShut 1 := ⟨tb_9 (List.mem_of_getElem? (i := 181) rfl) rfl, tb_1 (List.mem_of_getElem? (i := 12) (by decide +kernel)) rfl, ⟨by decide, by decide⟩, by decide +kernel, by decide⟩
abbrev mX12_findsShutters : ab_M := (yX12_findsShutters, cX12_findsShutters, 5, none, 69, 0, 0)
set_option maxRecDepth 100000 in
theorem Y_X12_findsShutters : ab_Y mX12_findsShutters 0 := ⟨tb_9 (List.mem_of_getElem? (i := 177) rfl) rfl, tb_1 (List.mem_of_getElem? (i := 12) (by decide +kernel)) rfl, ⟨by decide, by decide⟩, by decide +kernel, by decide⟩
abbrev mX12_shutters : ab_M := (yX12_shutters, cX12_shutters, 2, (some .int), 70, 0, 0)
set_option maxRecDepth 100000 in
theorem Y_X12_shutters : ab_Y mX12_shutters 1 := ⟨tb_9 (List.mem_of_getElem? (i := 173) rfl) rfl, tb_1 (List.mem_of_getElem? (i := 12) (by decide +kernel)) rfl, ⟨by decide, by decide⟩, by decide +kernel, by decide⟩
abbrev mX12_wouldBe : ab_M := (yX12_wouldBe, cX12_wouldBe, 5, none, 68, 0, 0)
set_option maxRecDepth 100000 in
theorem Y_X12_wouldBe : ab_Y mX12_wouldBe 1 := ⟨tb_9 (List.mem_of_getElem? (i := 189) rfl) rfl, tb_1 (List.mem_of_getElem? (i := 12) (by decide +kernel)) rfl, ⟨by decide, by decide⟩, by decide +kernel, by decide⟩
abbrev mX12_would : ab_M := (yX12_would, cX12_would, 5, (some .int), 69, 0, 0)
set_option maxRecDepth 100000 in
theorem Y_X12_would : ab_Y mX12_would 2 := ⟨tb_9 (List.mem_of_getElem? (i := 185) rfl) rfl, tb_1 (List.mem_of_getElem? (i := 12) (by decide +kernel)) rfl, ⟨by decide, by decide⟩, by decide +kernel, by decide⟩
abbrev mX12_soot : ab_M := (yX12_soot, cX12_soot, 4, (some .int), 3, 0, 0)
set_option maxRecDepth 100000 in
theorem Y_X12_soot : ab_Y mX12_soot 3 := ⟨tb_9 (List.mem_of_getElem? (i := 197) rfl) rfl, tb_1 (List.mem_of_getElem? (i := 12) (by decide +kernel)) rfl, ⟨by decide, by decide⟩, by decide +kernel, by decide⟩
abbrev mX12_sweep : ab_M := (yX12_sweep, cX12_sweep, 1, (some .int), 2, 0, 0)
set_option maxRecDepth 100000 in
theorem Y_X12_sweep : ab_Y mX12_sweep 0 := ⟨tb_9 (List.mem_of_getElem? (i := 201) rfl) rfl, tb_1 (List.mem_of_getElem? (i := 12) (by decide +kernel)) rfl, ⟨by decide, by decide⟩, by decide +kernel, by decide⟩
abbrev mX12_areSo : ab_M := (yX12_areSo, cX12_areSo, 2, (some .boolean), 1, 0, 0)
set_option maxRecDepth 100000 in
theorem Y_X12_areSo : ab_Y mX12_areSo 0 := ⟨tb_9 (List.mem_of_getElem? (i := 209) rfl) rfl, tb_1 (List.mem_of_getElem? (i := 12) (by decide +kernel)) rfl, ⟨by decide, by decide⟩, by decide +kernel, by decide⟩
abbrev mX12_stranger : ab_M := (yX12_stranger, cX12_stranger, 4, (some .int), 68, 0, 0)
set_option maxRecDepth 100000 in
theorem Y_X12_stranger : ab_Y mX12_stranger 1 := ⟨tb_9 (List.mem_of_getElem? (i := 205) rfl) rfl, tb_1 (List.mem_of_getElem? (i := 12) (by decide +kernel)) rfl, ⟨by decide, by decide⟩, by decide +kernel, by decide⟩
abbrev mX12_changed : ab_M := (yX12_changed, cX12_changed, 4, (some .int), 68, 0, 0)
set_option maxRecDepth 100000 in
theorem Y_X12_changed : ab_Y mX12_changed 1 := ⟨tb_9 (List.mem_of_getElem? (i := 213) rfl) rfl, tb_1 (List.mem_of_getElem? (i := 12) (by decide +kernel)) rfl, ⟨by decide, by decide⟩, by decide +kernel, by decide⟩
abbrev mX12_stopped : ab_M := (yX12_stopped, cX12_stopped, 1, (some .int), 1, 0, 0)
set_option maxRecDepth 100000 in
theorem Y_X12_stopped : ab_Y mX12_stopped 0 := ⟨tb_9 (List.mem_of_getElem? (i := 217) rfl) rfl, tb_1 (List.mem_of_getElem? (i := 12) (by decide +kernel)) rfl, ⟨by decide, by decide⟩, by decide +kernel, by decide⟩
abbrev mX12_rounds : ab_M := (yX12_rounds, cX12_rounds, 5, (some .int), 64, 0, 0)
set_option maxRecDepth 100000 in
theorem Y_X12_rounds : ab_Y mX12_rounds 0 := ⟨tb_9 (List.mem_of_getElem? (i := 221) rfl) rfl, tb_1 (List.mem_of_getElem? (i := 12) (by decide +kernel)) rfl, ⟨by decide, by decide⟩, by decide +kernel, by decide⟩
abbrev mX12_goesAlong : ab_M := (yX12_goesAlong, cX12_goesAlong, 4, none, 62, 0, 0)
set_option maxRecDepth 100000 in
theorem Y_X12_goesAlong : ab_Y mX12_goesAlong 3 := ⟨tb_9 (List.mem_of_getElem? (i := 229) rfl) rfl, tb_1 (List.mem_of_getElem? (i := 12) (by decide +kernel)) rfl, ⟨by decide, by decide⟩, by decide +kernel, by decide⟩
abbrev mX12_nextSum : ab_M := (yX12_nextSum, cX12_nextSum, 3, none, 61, 0, 0)
set_option maxRecDepth 100000 in
theorem Y_X12_nextSum : ab_Y mX12_nextSum 2 := ⟨tb_9 (List.mem_of_getElem? (i := 233) rfl) rfl, tb_1 (List.mem_of_getElem? (i := 12) (by decide +kernel)) rfl, ⟨by decide, by decide⟩, by decide +kernel, by decide⟩
abbrev mX12_small : ab_M := (yX12_small, cX12_small, 2, (some .int), 1, 0, 0)
set_option maxRecDepth 100000 in
theorem Y_X12_small : ab_Y mX12_small 1 := ⟨tb_9 (List.mem_of_getElem? (i := 236) rfl) rfl, tb_1 (List.mem_of_getElem? (i := 12) (by decide +kernel)) rfl, ⟨by decide, by decide⟩, by decide +kernel, by decide⟩
abbrev mX12_runs : ab_M := (yX12_runs, cX12_runs, 8, (some .int), 63, 0, 0)
set_option maxRecDepth 100000 in
theorem Y_X12_runs : ab_Y mX12_runs 1 := ⟨tb_9 (List.mem_of_getElem? (i := 225) rfl) rfl, tb_1 (List.mem_of_getElem? (i := 12) (by decide +kernel)) rfl, ⟨by decide, by decide⟩, by decide +kernel, by decide⟩
abbrev mX12_draws : ab_M := (yX12_draws, cX12_draws, 2, (some .int), 1, 0, 0)
set_option maxRecDepth 100000 in
theorem Y_X12_draws : ab_Y mX12_draws 1 := ⟨tb_10 (List.mem_of_getElem? (i := 9) rfl) rfl, tb_1 (List.mem_of_getElem? (i := 12) (by decide +kernel)) rfl, ⟨by decide, by decide⟩, by decide +kernel, by decide⟩
abbrev mX12_staggers : ab_M := (yX12_staggers, cX12_staggers, 7, (some .int), 2, 0, 0)
set_option maxRecDepth 100000 in
theorem Y_X12_staggers : ab_Y mX12_staggers 1 := ⟨tb_10 (List.mem_of_getElem? (i := 5) rfl) rfl, tb_1 (List.mem_of_getElem? (i := 12) (by decide +kernel)) rfl, ⟨by decide, by decide⟩, by decide +kernel, by decide⟩
abbrev mX12_drunk : ab_M := (yX12_drunk, cX12_drunk, 6, (some .int), 68, 0, 0)
set_option maxRecDepth 100000 in
theorem Y_X12_drunk : ab_Y mX12_drunk 4 := ⟨tb_10 (List.mem_of_getElem? (i := 1) rfl) rfl, tb_1 (List.mem_of_getElem? (i := 12) (by decide +kernel)) rfl, ⟨by decide, by decide⟩, by decide +kernel, by decide⟩
abbrev mX12_drawn : ab_M := (yX12_drawn, cX12_drawn, 2, (some .int), 3, 0, 0)
set_option maxRecDepth 100000 in
theorem Y_X12_drawn : ab_Y mX12_drawn 1 := ⟨tb_10 (List.mem_of_getElem? (i := 16) rfl) rfl, tb_1 (List.mem_of_getElem? (i := 12) (by decide +kernel)) rfl, ⟨by decide, by decide⟩, by decide +kernel, by decide⟩
abbrev mX12_count : ab_M := (yX12_count, cX12_count, 2, (some .int), 1, 0, 0)
set_option maxRecDepth 100000 in
theorem Y_X12_count : ab_Y mX12_count 1 := ⟨tb_10 (List.mem_of_getElem? (i := 20) rfl) rfl, tb_1 (List.mem_of_getElem? (i := 12) (by decide +kernel)) rfl, ⟨by decide, by decide⟩, by decide +kernel, by decide⟩
abbrev mX12_status : ab_M := (yX12_status, cX12_status, 1, (some .int), 1, 0, 0)
set_option maxRecDepth 100000 in
theorem Y_X12_status : ab_Y mX12_status 0 := ⟨tb_10 (List.mem_of_getElem? (i := 24) rfl) rfl, tb_1 (List.mem_of_getElem? (i := 12) (by decide +kernel)) rfl, ⟨by decide, by decide⟩, by decide +kernel, by decide⟩
abbrev mJ6_bitCount_0f7a4 : ab_M := (yJ6_bitCount_0f7a4, cJ6_bitCount_0f7a4, 1, (some .int), 1, 0, 0)
set_option maxRecDepth 100000 in
theorem Y_J6_bitCount_0f7a4 : ab_Y mJ6_bitCount_0f7a4 1 := ⟨tb_5 (List.mem_of_getElem? (i := 170) rfl) rfl, tb_1 (List.mem_of_getElem? (i := 21) (by decide +kernel)) rfl, ⟨by decide, by decide⟩, by decide +kernel, by decide⟩
abbrev mJ9_max_7cf53 : ab_M := (yJ9_max_7cf53, cJ9_max_7cf53, 2, (some .int), 1, 0, 0)
set_option maxRecDepth 100000 in
theorem Y_J9_max_7cf53 : ab_Y mJ9_max_7cf53 2 := ⟨tb_3 (List.mem_of_getElem? (i := 138) rfl) rfl, tb_1 (List.mem_of_getElem? (i := 13) (by decide +kernel)) rfl, ⟨by decide, by decide⟩, by decide +kernel, by decide⟩
abbrev mJ9_min_7cf53 : ab_M := (yJ9_min_7cf53, cJ9_min_7cf53, 2, (some .int), 1, 0, 0)
set_option maxRecDepth 100000 in
theorem Y_J9_min_7cf53 : ab_Y mJ9_min_7cf53 2 := ⟨tb_3 (List.mem_of_getElem? (i := 135) rfl) rfl, tb_1 (List.mem_of_getElem? (i := 13) (by decide +kernel)) rfl, ⟨by decide, by decide⟩, by decide +kernel, by decide⟩
abbrev mJ0_length_8abf5 : ab_M := (yJ0_length_8abf5, cJ0_length_8abf5, 1, (some .int), 2, 0, 0)
set_option maxRecDepth 100000 in
theorem Y_J0_length_8abf5 : ab_Y mJ0_length_8abf5 0 := ⟨tb_4 (List.mem_of_getElem? (i := 113) rfl) rfl, tb_1 (List.mem_of_getElem? (i := 15) (by decide +kernel)) rfl, ⟨by decide, by decide⟩, by decide +kernel, by decide⟩
abbrev mJ0_charAt_5068e : ab_M := (yJ0_charAt_5068e, cJ0_charAt_5068e, 2, (some .char), 5, 0, 0)
set_option maxRecDepth 100000 in
theorem Y_J0_charAt_5068e : ab_Y mJ0_charAt_5068e 1 := ⟨tb_4 (List.mem_of_getElem? (i := 123) rfl) rfl, tb_1 (List.mem_of_getElem? (i := 15) (by decide +kernel)) rfl, ⟨by decide, by decide⟩, by decide +kernel, by decide⟩
abbrev mJ0_coder_7d493 : ab_M := (yJ0_coder_7d493, cJ0_coder_7d493, 1, (some .byte), 1, 0, 0)
set_option maxRecDepth 100000 in
theorem Y_J0_coder_7d493 : ab_Y mJ0_coder_7d493 0 := ⟨tb_4 (List.mem_of_getElem? (i := 117) rfl) rfl, tb_1 (List.mem_of_getElem? (i := 15) (by decide +kernel)) rfl, ⟨by decide, by decide⟩, by decide +kernel, by decide⟩
abbrev mJ0_isLatin1_aae02 : ab_M := (yJ0_isLatin1_aae02, cJ0_isLatin1_aae02, 1, (some .boolean), 1, 0, 0)
set_option maxRecDepth 100000 in
theorem Y_J0_isLatin1_aae02 : ab_Y mJ0_isLatin1_aae02 0 := ⟨tb_4 (List.mem_of_getElem? (i := 127) rfl) rfl, tb_1 (List.mem_of_getElem? (i := 15) (by decide +kernel)) rfl, ⟨by decide, by decide⟩, by decide +kernel, by decide⟩
abbrev mJ0_checkIndex_df160 : ab_M := (yJ0_checkIndex_df160, cJ0_checkIndex_df160, 2, none, 2, 0, 0)
set_option maxRecDepth 100000 in
theorem Y_J0_checkIndex_df160 : ab_Y mJ0_checkIndex_df160 2 := ⟨tb_4 (List.mem_of_getElem? (i := 133) rfl) rfl, tb_1 (List.mem_of_getElem? (i := 15) (by decide +kernel)) rfl, ⟨by decide, by decide⟩, by decide +kernel, by decide⟩
abbrev mJ1_charAt_3b067 : ab_M := (yJ1_charAt_3b067, cJ1_charAt_3b067, 2, (some .char), 3, 0, 0)
set_option maxRecDepth 100000 in
theorem Y_J1_charAt_3b067 : ab_Y mJ1_charAt_3b067 2 := ⟨tb_4 (List.mem_of_getElem? (i := 130) rfl) rfl, tb_1 (List.mem_of_getElem? (i := 16) (by decide +kernel)) rfl, ⟨by decide, by decide⟩, by decide +kernel, by decide⟩
abbrev mJ2_getChar_3b067 : ab_M := (yJ2_getChar_3b067, cJ2_getChar_3b067, 2, (some .char), 2, 0, 0)
set_option maxRecDepth 100000 in
theorem Y_J2_getChar_3b067 : ab_Y mJ2_getChar_3b067 2 := ⟨tb_4 (List.mem_of_getElem? (i := 151) rfl) rfl, tb_1 (List.mem_of_getElem? (i := 18) (by decide +kernel)) rfl, ⟨by decide, by decide⟩, by decide +kernel, by decide⟩
abbrev mJ2_length_9d52b : ab_M := (yJ2_length_9d52b, cJ2_length_9d52b, 1, (some .int), 1, 0, 0)
set_option maxRecDepth 100000 in
theorem Y_J2_length_9d52b : ab_Y mJ2_length_9d52b 1 := ⟨tb_4 (List.mem_of_getElem? (i := 147) rfl) rfl, tb_1 (List.mem_of_getElem? (i := 18) (by decide +kernel)) rfl, ⟨by decide, by decide⟩, by decide +kernel, by decide⟩
abbrev mJ2_charAt_3b067 : ab_M := (yJ2_charAt_3b067, cJ2_charAt_3b067, 2, (some .char), 4, 0, 0)
set_option maxRecDepth 100000 in
theorem Y_J2_charAt_3b067 : ab_Y mJ2_charAt_3b067 2 := ⟨tb_4 (List.mem_of_getElem? (i := 141) rfl) rfl, tb_1 (List.mem_of_getElem? (i := 18) (by decide +kernel)) rfl, ⟨by decide, by decide⟩, by decide +kernel, by decide⟩
abbrev mJ2_checkIndex_2214a : ab_M := (yJ2_checkIndex_2214a, cJ2_checkIndex_2214a, 2, none, 3, 0, 0)
set_option maxRecDepth 100000 in
theorem Y_J2_checkIndex_2214a : ab_Y mJ2_checkIndex_2214a 2 := ⟨tb_4 (List.mem_of_getElem? (i := 144) rfl) rfl, tb_1 (List.mem_of_getElem? (i := 18) (by decide +kernel)) rfl, ⟨by decide, by decide⟩, by decide +kernel, by decide⟩
abbrev mJ7_rangeCheck_23922 : ab_M := (yJ7_rangeCheck_23922, cJ7_rangeCheck_23922, 3, none, 1, 0, 0)
set_option maxRecDepth 100000 in
theorem Y_J7_rangeCheck_23922 : ab_Y mJ7_rangeCheck_23922 3 := ⟨tb_3 (List.mem_of_getElem? (i := 158) rfl) rfl, tb_1 (List.mem_of_getElem? (i := 14) (by decide +kernel)) rfl, ⟨by decide, by decide⟩, by decide +kernel, by decide⟩
abbrev mJ7_fill_53178 : ab_M := (yJ7_fill_53178, cJ7_fill_53178, 4, none, 1, 0, 0)
set_option maxRecDepth 100000 in
theorem Y_J7_fill_53178 : ab_Y mJ7_fill_53178 2 := ⟨tb_3 (List.mem_of_getElem? (i := 198) rfl) rfl, tb_1 (List.mem_of_getElem? (i := 14) (by decide +kernel)) rfl, ⟨by decide, by decide⟩, by decide +kernel, by decide⟩
abbrev mJ7_fill_fda19 : ab_M := (yJ7_fill_fda19, cJ7_fill_fda19, 5, none, 2, 0, 0)
set_option maxRecDepth 100000 in
theorem Y_J7_fill_fda19 : ab_Y mJ7_fill_fda19 4 := ⟨tb_3 (List.mem_of_getElem? (i := 155) rfl) rfl, tb_1 (List.mem_of_getElem? (i := 14) (by decide +kernel)) rfl, ⟨by decide, by decide⟩, by decide +kernel, by decide⟩
abbrev mJ7_copyOf_59c91 : ab_M := (yJ7_copyOf_59c91, cJ7_copyOf_59c91, 3, (some (.array .int)), 2, 1, 500)
set_option maxRecDepth 100000 in
theorem Y_J7_copyOf_59c91 : ab_Y mJ7_copyOf_59c91 2 := ⟨tb_4 (List.mem_of_getElem? (i := 199) rfl) rfl, tb_1 (List.mem_of_getElem? (i := 14) (by decide +kernel)) rfl, ⟨by decide, by decide⟩, by decide +kernel, by decide⟩
abbrev mJ3_checkIndex_8e157 : ab_M := (yJ3_checkIndex_8e157, cJ3_checkIndex_8e157, 3, (some .int), 1, 0, 0)
set_option maxRecDepth 100000 in
theorem Y_J3_checkIndex_8e157 : ab_Y mJ3_checkIndex_8e157 3 := ⟨tb_4 (List.mem_of_getElem? (i := 138) rfl) rfl, tb_1 (List.mem_of_getElem? (i := 17) (by decide +kernel)) rfl, ⟨by decide, by decide⟩, by decide +kernel, by decide⟩
theorem in_X0_init : Cond.instanceMethod yX0_init ∈ lw_T := tb_2 (List.mem_of_getElem? (i := 120) (by decide +kernel)) rfl
theorem in_X0_forget : Cond.instanceMethod yX0_forget ∈ lw_T := tb_3 (List.mem_of_getElem? (i := 234) (by decide +kernel)) rfl
theorem se_X0_forget : Cond.selects RX0 yX0_forget yX0_forget ∈ lw_T := tb_3 (List.mem_of_getElem? (i := 235) (by decide +kernel)) rfl
theorem in_X0_relate : Cond.instanceMethod yX0_relate ∈ lw_T := tb_5 (List.mem_of_getElem? (i := 57) (by decide +kernel)) rfl
theorem se_X0_relate : Cond.selects RX0 yX0_relate yX0_relate ∈ lw_T := tb_5 (List.mem_of_getElem? (i := 58) (by decide +kernel)) rfl
theorem in_X0_lightAt : Cond.instanceMethod yX0_lightAt ∈ lw_T := tb_5 (List.mem_of_getElem? (i := 137) (by decide +kernel)) rfl
theorem se_X0_lightAt : Cond.selects RX0 yX0_lightAt yX0_lightAt ∈ lw_T := tb_5 (List.mem_of_getElem? (i := 138) (by decide +kernel)) rfl
theorem in_X0_shine : Cond.instanceMethod yX0_shine ∈ lw_T := tb_5 (List.mem_of_getElem? (i := 142) (by decide +kernel)) rfl
theorem se_X0_shine : Cond.selects RX0 yX0_shine yX0_shine ∈ lw_T := ab_wT 26 (by decide +kernel) rfl
theorem in_X0_firstOut : Cond.instanceMethod yX0_firstOut ∈ lw_T := tb_5 (List.mem_of_getElem? (i := 155) (by decide +kernel)) rfl
theorem se_X0_firstOut : Cond.selects RX0 yX0_firstOut yX0_firstOut ∈ lw_T := tb_5 (List.mem_of_getElem? (i := 156) (by decide +kernel)) rfl
theorem in_X0_darkErrands : Cond.instanceMethod yX0_darkErrands ∈ lw_T := tb_5 (List.mem_of_getElem? (i := 163) (by decide +kernel)) rfl
theorem se_X0_darkErrands : Cond.selects RX0 yX0_darkErrands yX0_darkErrands ∈ lw_T := tb_5 (List.mem_of_getElem? (i := 164) (by decide +kernel)) rfl
theorem in_X0_findWalk : Cond.instanceMethod yX0_findWalk ∈ lw_T := tb_5 (List.mem_of_getElem? (i := 210) (by decide +kernel)) rfl
theorem se_X0_findWalk : Cond.selects RX0 yX0_findWalk yX0_findWalk ∈ lw_T := tb_5 (List.mem_of_getElem? (i := 211) (by decide +kernel)) rfl
theorem in_X0_layWalk : Cond.instanceMethod yX0_layWalk ∈ lw_T := tb_5 (List.mem_of_getElem? (i := 219) (by decide +kernel)) rfl
theorem se_X0_layWalk : Cond.selects RX0 yX0_layWalk yX0_layWalk ∈ lw_T := ab_wT 32 (by decide +kernel) rfl
theorem in_X1_init : Cond.instanceMethod yX1_init ∈ lw_T := tb_2 (List.mem_of_getElem? (i := 171) (by decide +kernel)) rfl
theorem in_X1_forget : Cond.instanceMethod yX1_forget ∈ lw_T := tb_3 (List.mem_of_getElem? (i := 238) (by decide +kernel)) rfl
theorem se_X1_forget : Cond.selects RX1 yX1_forget yX1_forget ∈ lw_T := tb_3 (List.mem_of_getElem? (i := 239) (by decide +kernel)) rfl
theorem in_X1_litWith : Cond.instanceMethod yX1_litWith ∈ lw_T := tb_6 (List.mem_of_getElem? (i := 179) (by decide +kernel)) rfl
theorem se_X1_litWith : Cond.selects RX1 yX1_litWith yX1_litWith ∈ lw_T := tb_6 (List.mem_of_getElem? (i := 180) (by decide +kernel)) rfl
theorem in_X1_litFrom : Cond.instanceMethod yX1_litFrom ∈ lw_T := tb_5 (List.mem_of_getElem? (i := 232) (by decide +kernel)) rfl
theorem se_X1_litFrom : Cond.selects RX1 yX1_litFrom yX1_litFrom ∈ lw_T := ab_wT 33 (by decide +kernel) rfl
theorem in_X1_findWorst : Cond.instanceMethod yX1_findWorst ∈ lw_T := tb_5 (List.mem_of_getElem? (i := 226) (by decide +kernel)) rfl
theorem se_X1_findWorst : Cond.selects RX1 yX1_findWorst yX1_findWorst ∈ lw_T := tb_5 (List.mem_of_getElem? (i := 227) (by decide +kernel)) rfl
theorem in_X1_layTrial : Cond.instanceMethod yX1_layTrial ∈ lw_T := tb_6 (List.mem_of_getElem? (i := 3) (by decide +kernel)) rfl
theorem se_X1_layTrial : Cond.selects RX1 yX1_layTrial yX1_layTrial ∈ lw_T := ab_wT 34 (by decide +kernel) rfl
theorem in_X1_findLiking : Cond.instanceMethod yX1_findLiking ∈ lw_T := tb_6 (List.mem_of_getElem? (i := 105) (by decide +kernel)) rfl
theorem se_X1_findLiking : Cond.selects RX1 yX1_findLiking yX1_findLiking ∈ lw_T := tb_6 (List.mem_of_getElem? (i := 106) (by decide +kernel)) rfl
theorem in_X1_unrest : Cond.instanceMethod yX1_unrest ∈ lw_T := tb_6 (List.mem_of_getElem? (i := 101) (by decide +kernel)) rfl
theorem se_X1_unrest : Cond.selects RX1 yX1_unrest yX1_unrest ∈ lw_T := tb_6 (List.mem_of_getElem? (i := 102) (by decide +kernel)) rfl
theorem in_X1_findStrangers : Cond.instanceMethod yX1_findStrangers ∈ lw_T := tb_6 (List.mem_of_getElem? (i := 127) (by decide +kernel)) rfl
theorem se_X1_findStrangers : Cond.selects RX1 yX1_findStrangers yX1_findStrangers ∈ lw_T := tb_6 (List.mem_of_getElem? (i := 128) (by decide +kernel)) rfl
theorem in_X1_findChanges : Cond.instanceMethod yX1_findChanges ∈ lw_T := tb_6 (List.mem_of_getElem? (i := 158) (by decide +kernel)) rfl
theorem se_X1_findChanges : Cond.selects RX1 yX1_findChanges yX1_findChanges ∈ lw_T := tb_6 (List.mem_of_getElem? (i := 159) (by decide +kernel)) rfl
theorem in_X1_gatherSoot : Cond.instanceMethod yX1_gatherSoot ∈ lw_T := tb_6 (List.mem_of_getElem? (i := 132) (by decide +kernel)) rfl
theorem se_X1_gatherSoot : Cond.selects RX1 yX1_gatherSoot yX1_gatherSoot ∈ lw_T := ab_wT 45 (by decide +kernel) rfl
theorem in_X1_isSootExplained : Cond.instanceMethod yX1_isSootExplained ∈ lw_T := tb_6 (List.mem_of_getElem? (i := 142) (by decide +kernel)) rfl
theorem se_X1_isSootExplained : Cond.selects RX1 yX1_isSootExplained yX1_isSootExplained ∈ lw_T := ab_wT 46 (by decide +kernel) rfl
theorem in_X2_init : Cond.instanceMethod yX2_init ∈ lw_T := tb_1 (List.mem_of_getElem? (i := 164) (by decide +kernel)) rfl
theorem in_X2_run : Cond.instanceMethod yX2_run ∈ lw_T := tb_5 (List.mem_of_getElem? (i := 13) (by decide +kernel)) rfl
theorem se_X2_run : Cond.selects RX2 yX2_run yX2_run ∈ lw_T := tb_5 (List.mem_of_getElem? (i := 14) (by decide +kernel)) rfl
theorem in_X3_init : Cond.instanceMethod yX3_init ∈ lw_T := tb_2 (List.mem_of_getElem? (i := 38) (by decide +kernel)) rfl
theorem in_X3_load : Cond.instanceMethod yX3_load ∈ lw_T := tb_3 (List.mem_of_getElem? (i := 219) (by decide +kernel)) rfl
theorem se_X3_load : Cond.selects RX3 yX3_load yX3_load ∈ lw_T := tb_3 (List.mem_of_getElem? (i := 220) (by decide +kernel)) rfl
theorem in_X3_placeOf : Cond.instanceMethod yX3_placeOf ∈ lw_T := tb_3 (List.mem_of_getElem? (i := 226) (by decide +kernel)) rfl
theorem se_X3_placeOf : Cond.selects RX3 yX3_placeOf yX3_placeOf ∈ lw_T := ab_wT 4 (by decide +kernel) rfl
theorem in_X3_invite : Cond.instanceMethod yX3_invite ∈ lw_T := tb_6 (List.mem_of_getElem? (i := 137) (by decide +kernel)) rfl
theorem se_X3_invite : Cond.selects RX3 yX3_invite yX3_invite ∈ lw_T := tb_6 (List.mem_of_getElem? (i := 138) (by decide +kernel)) rfl
theorem in_X3_disguise : Cond.instanceMethod yX3_disguise ∈ lw_T := tb_6 (List.mem_of_getElem? (i := 109) (by decide +kernel)) rfl
theorem se_X3_disguise : Cond.selects RX3 yX3_disguise yX3_disguise ∈ lw_T := tb_6 (List.mem_of_getElem? (i := 110) (by decide +kernel)) rfl
theorem in_X3_carry : Cond.instanceMethod yX3_carry ∈ lw_T := tb_6 (List.mem_of_getElem? (i := 7) (by decide +kernel)) rfl
theorem se_X3_carry : Cond.selects RX3 yX3_carry yX3_carry ∈ lw_T := tb_6 (List.mem_of_getElem? (i := 8) (by decide +kernel)) rfl
theorem in_X3_dismiss : Cond.instanceMethod yX3_dismiss ∈ lw_T := tb_3 (List.mem_of_getElem? (i := 230) (by decide +kernel)) rfl
theorem se_X3_dismiss : Cond.selects RX3 yX3_dismiss yX3_dismiss ∈ lw_T := tb_3 (List.mem_of_getElem? (i := 231) (by decide +kernel)) rfl
theorem in_X3_restart : Cond.instanceMethod yX3_restart ∈ lw_T := tb_5 (List.mem_of_getElem? (i := 62) (by decide +kernel)) rfl
theorem se_X3_restart : Cond.selects RX3 yX3_restart yX3_restart ∈ lw_T := tb_5 (List.mem_of_getElem? (i := 63) (by decide +kernel)) rfl
theorem in_X3_keep : Cond.instanceMethod yX3_keep ∈ lw_T := tb_5 (List.mem_of_getElem? (i := 237) (by decide +kernel)) rfl
theorem se_X3_keep : Cond.selects RX3 yX3_keep yX3_keep ∈ lw_T := tb_5 (List.mem_of_getElem? (i := 238) (by decide +kernel)) rfl
theorem in_X3_recall : Cond.instanceMethod yX3_recall ∈ lw_T := tb_6 (List.mem_of_getElem? (i := 11) (by decide +kernel)) rfl
theorem se_X3_recall : Cond.selects RX3 yX3_recall yX3_recall ∈ lw_T := tb_6 (List.mem_of_getElem? (i := 12) (by decide +kernel)) rfl
theorem in_X3_step : Cond.instanceMethod yX3_step ∈ lw_T := tb_5 (List.mem_of_getElem? (i := 66) (by decide +kernel)) rfl
theorem se_X3_step : Cond.selects RX3 yX3_step yX3_step ∈ lw_T := tb_5 (List.mem_of_getElem? (i := 67) (by decide +kernel)) rfl
theorem in_X3_prepare : Cond.instanceMethod yX3_prepare ∈ lw_T := tb_5 (List.mem_of_getElem? (i := 70) (by decide +kernel)) rfl
theorem se_X3_prepare : Cond.selects RX3 yX3_prepare yX3_prepare ∈ lw_T := tb_5 (List.mem_of_getElem? (i := 71) (by decide +kernel)) rfl
theorem in_X3_kindle : Cond.instanceMethod yX3_kindle ∈ lw_T := tb_5 (List.mem_of_getElem? (i := 75) (by decide +kernel)) rfl
theorem se_X3_kindle : Cond.selects RX3 yX3_kindle yX3_kindle ∈ lw_T := ab_wT 20 (by decide +kernel) rfl
theorem in_X3_stirredLamps : Cond.instanceMethod yX3_stirredLamps ∈ lw_T := tb_5 (List.mem_of_getElem? (i := 78) (by decide +kernel)) rfl
theorem se_X3_stirredLamps : Cond.selects RX3 yX3_stirredLamps yX3_stirredLamps ∈ lw_T := tb_5 (List.mem_of_getElem? (i := 79) (by decide +kernel)) rfl
theorem in_X3_movedLanterns : Cond.instanceMethod yX3_movedLanterns ∈ lw_T := tb_5 (List.mem_of_getElem? (i := 83) (by decide +kernel)) rfl
theorem se_X3_movedLanterns : Cond.selects RX3 yX3_movedLanterns yX3_movedLanterns ∈ lw_T := tb_5 (List.mem_of_getElem? (i := 84) (by decide +kernel)) rfl
theorem in_X3_fleeing : Cond.instanceMethod yX3_fleeing ∈ lw_T := tb_5 (List.mem_of_getElem? (i := 88) (by decide +kernel)) rfl
theorem se_X3_fleeing : Cond.selects RX3 yX3_fleeing yX3_fleeing ∈ lw_T := ab_wT 21 (by decide +kernel) rfl
theorem in_X3_shunnedBy : Cond.instanceMethod yX3_shunnedBy ∈ lw_T := tb_5 (List.mem_of_getElem? (i := 101) (by decide +kernel)) rfl
theorem se_X3_shunnedBy : Cond.selects RX3 yX3_shunnedBy yX3_shunnedBy ∈ lw_T := ab_wT 22 (by decide +kernel) rfl
theorem in_X3_olderThan : Cond.instanceMethod yX3_olderThan ∈ lw_T := tb_5 (List.mem_of_getElem? (i := 105) (by decide +kernel)) rfl
theorem se_X3_olderThan : Cond.selects RX3 yX3_olderThan yX3_olderThan ∈ lw_T := ab_wT 23 (by decide +kernel) rfl
theorem in_X3_yields : Cond.instanceMethod yX3_yields ∈ lw_T := tb_5 (List.mem_of_getElem? (i := 113) (by decide +kernel)) rfl
theorem se_X3_yields : Cond.selects RX3 yX3_yields yX3_yields ∈ lw_T := ab_wT 24 (by decide +kernel) rfl
theorem in_X3_cameLater : Cond.instanceMethod yX3_cameLater ∈ lw_T := tb_5 (List.mem_of_getElem? (i := 117) (by decide +kernel)) rfl
theorem se_X3_cameLater : Cond.selects RX3 yX3_cameLater yX3_cameLater ∈ lw_T := ab_wT 25 (by decide +kernel) rfl
theorem in_X3_finish : Cond.instanceMethod yX3_finish ∈ lw_T := tb_5 (List.mem_of_getElem? (i := 120) (by decide +kernel)) rfl
theorem se_X3_finish : Cond.selects RX3 yX3_finish yX3_finish ∈ lw_T := tb_5 (List.mem_of_getElem? (i := 121) (by decide +kernel)) rfl
theorem in_X4_init : Cond.instanceMethod yX4_init ∈ lw_T := tb_3 (List.mem_of_getElem? (i := 0) (by decide +kernel)) rfl
theorem in_X4_forget : Cond.instanceMethod yX4_forget ∈ lw_T := tb_4 (List.mem_of_getElem? (i := 2) (by decide +kernel)) rfl
theorem se_X4_forget : Cond.selects RX4 yX4_forget yX4_forget ∈ lw_T := tb_4 (List.mem_of_getElem? (i := 3) (by decide +kernel)) rfl
theorem st_X4_placeOf : Cond.static yX4_placeOf ∈ lw_T := tb_6 (List.mem_of_getElem? (i := 35) (by decide +kernel)) rfl
theorem in_X4_findHanging : Cond.instanceMethod yX4_findHanging ∈ lw_T := tb_6 (List.mem_of_getElem? (i := 24) (by decide +kernel)) rfl
theorem se_X4_findHanging : Cond.selects RX4 yX4_findHanging yX4_findHanging ∈ lw_T := tb_6 (List.mem_of_getElem? (i := 25) (by decide +kernel)) rfl
theorem in_X4_weighSites : Cond.instanceMethod yX4_weighSites ∈ lw_T := tb_6 (List.mem_of_getElem? (i := 31) (by decide +kernel)) rfl
theorem se_X4_weighSites : Cond.selects RX4 yX4_weighSites yX4_weighSites ∈ lw_T := ab_wT 35 (by decide +kernel) rfl
theorem in_X4_lampsOf : Cond.instanceMethod yX4_lampsOf ∈ lw_T := tb_6 (List.mem_of_getElem? (i := 42) (by decide +kernel)) rfl
theorem se_X4_lampsOf : Cond.selects RX4 yX4_lampsOf yX4_lampsOf ∈ lw_T := ab_wT 36 (by decide +kernel) rfl
theorem in_X4_findPeace : Cond.instanceMethod yX4_findPeace ∈ lw_T := tb_6 (List.mem_of_getElem? (i := 49) (by decide +kernel)) rfl
theorem se_X4_findPeace : Cond.selects RX4 yX4_findPeace yX4_findPeace ∈ lw_T := tb_6 (List.mem_of_getElem? (i := 50) (by decide +kernel)) rfl
theorem in_X4_gatherQuarrels : Cond.instanceMethod yX4_gatherQuarrels ∈ lw_T := tb_6 (List.mem_of_getElem? (i := 54) (by decide +kernel)) rfl
theorem se_X4_gatherQuarrels : Cond.selects RX4 yX4_gatherQuarrels yX4_gatherQuarrels ∈ lw_T := ab_wT 37 (by decide +kernel) rfl
theorem in_X4_learnOfLamps : Cond.instanceMethod yX4_learnOfLamps ∈ lw_T := tb_6 (List.mem_of_getElem? (i := 62) (by decide +kernel)) rfl
theorem se_X4_learnOfLamps : Cond.selects RX4 yX4_learnOfLamps yX4_learnOfLamps ∈ lw_T := ab_wT 38 (by decide +kernel) rfl
theorem in_X4_learnOfLanterns : Cond.instanceMethod yX4_learnOfLanterns ∈ lw_T := tb_6 (List.mem_of_getElem? (i := 74) (by decide +kernel)) rfl
theorem se_X4_learnOfLanterns : Cond.selects RX4 yX4_learnOfLanterns yX4_learnOfLanterns ∈ lw_T := ab_wT 41 (by decide +kernel) rfl
theorem in_X4_learn : Cond.instanceMethod yX4_learn ∈ lw_T := tb_6 (List.mem_of_getElem? (i := 66) (by decide +kernel)) rfl
theorem se_X4_learn : Cond.selects RX4 yX4_learn yX4_learn ∈ lw_T := ab_wT 39 (by decide +kernel) rfl
theorem in_X4_possibleSights : Cond.instanceMethod yX4_possibleSights ∈ lw_T := tb_6 (List.mem_of_getElem? (i := 70) (by decide +kernel)) rfl
theorem se_X4_possibleSights : Cond.selects RX4 yX4_possibleSights yX4_possibleSights ∈ lw_T := ab_wT 40 (by decide +kernel) rfl
theorem in_X4_isHopeless : Cond.instanceMethod yX4_isHopeless ∈ lw_T := tb_6 (List.mem_of_getElem? (i := 80) (by decide +kernel)) rfl
theorem se_X4_isHopeless : Cond.selects RX4 yX4_isHopeless yX4_isHopeless ∈ lw_T := ab_wT 42 (by decide +kernel) rfl
theorem in_X4_tryShutters : Cond.instanceMethod yX4_tryShutters ∈ lw_T := tb_6 (List.mem_of_getElem? (i := 84) (by decide +kernel)) rfl
theorem se_X4_tryShutters : Cond.selects RX4 yX4_tryShutters yX4_tryShutters ∈ lw_T := ab_wT 43 (by decide +kernel) rfl
theorem st_X4_waysOf : Cond.static yX4_waysOf ∈ lw_T := tb_6 (List.mem_of_getElem? (i := 88) (by decide +kernel)) rfl
theorem in_X4_isPeaceful : Cond.instanceMethod yX4_isPeaceful ∈ lw_T := tb_6 (List.mem_of_getElem? (i := 92) (by decide +kernel)) rfl
theorem se_X4_isPeaceful : Cond.selects RX4 yX4_isPeaceful yX4_isPeaceful ∈ lw_T := ab_wT 44 (by decide +kernel) rfl
theorem in_X5_init : Cond.instanceMethod yX5_init ∈ lw_T := tb_1 (List.mem_of_getElem? (i := 123) (by decide +kernel)) rfl
theorem in_X5_read : Cond.instanceMethod yX5_read ∈ lw_T := tb_4 (List.mem_of_getElem? (i := 92) (by decide +kernel)) rfl
theorem se_X5_read : Cond.selects RX5 yX5_read yX5_read ∈ lw_T := tb_4 (List.mem_of_getElem? (i := 93) (by decide +kernel)) rfl
theorem in_X5_split : Cond.instanceMethod yX5_split ∈ lw_T := tb_4 (List.mem_of_getElem? (i := 97) (by decide +kernel)) rfl
theorem se_X5_split : Cond.selects RX5 yX5_split yX5_split ∈ lw_T := ab_wT 7 (by decide +kernel) rfl
theorem st_X5_kindOf : Cond.static yX5_kindOf ∈ lw_T := tb_4 (List.mem_of_getElem? (i := 100) (by decide +kernel)) rfl
theorem st_X5_numberIn : Cond.static yX5_numberIn ∈ lw_T := tb_4 (List.mem_of_getElem? (i := 103) (by decide +kernel)) rfl
theorem st_X5_wordIn : Cond.static yX5_wordIn ∈ lw_T := tb_4 (List.mem_of_getElem? (i := 107) (by decide +kernel)) rfl
theorem in_X5_readLaw : Cond.instanceMethod yX5_readLaw ∈ lw_T := tb_4 (List.mem_of_getElem? (i := 161) (by decide +kernel)) rfl
theorem se_X5_readLaw : Cond.selects RX5 yX5_readLaw yX5_readLaw ∈ lw_T := ab_wT 8 (by decide +kernel) rfl
theorem in_X5_readRound : Cond.instanceMethod yX5_readRound ∈ lw_T := tb_4 (List.mem_of_getElem? (i := 177) (by decide +kernel)) rfl
theorem se_X5_readRound : Cond.selects RX5 yX5_readRound yX5_readRound ∈ lw_T := ab_wT 12 (by decide +kernel) rfl
theorem in_X5_readIf : Cond.instanceMethod yX5_readIf ∈ lw_T := tb_4 (List.mem_of_getElem? (i := 181) (by decide +kernel)) rfl
theorem se_X5_readIf : Cond.selects RX5 yX5_readIf yX5_readIf ∈ lw_T := ab_wT 13 (by decide +kernel) rfl
theorem in_X5_readTest : Cond.instanceMethod yX5_readTest ∈ lw_T := tb_4 (List.mem_of_getElem? (i := 185) (by decide +kernel)) rfl
theorem se_X5_readTest : Cond.selects RX5 yX5_readTest yX5_readTest ∈ lw_T := ab_wT 14 (by decide +kernel) rfl
theorem in_X5_readPlain : Cond.instanceMethod yX5_readPlain ∈ lw_T := tb_4 (List.mem_of_getElem? (i := 189) (by decide +kernel)) rfl
theorem se_X5_readPlain : Cond.selects RX5 yX5_readPlain yX5_readPlain ∈ lw_T := ab_wT 15 (by decide +kernel) rfl
theorem in_X5_readSum : Cond.instanceMethod yX5_readSum ∈ lw_T := tb_4 (List.mem_of_getElem? (i := 165) (by decide +kernel)) rfl
theorem se_X5_readSum : Cond.selects RX5 yX5_readSum yX5_readSum ∈ lw_T := ab_wT 9 (by decide +kernel) rfl
theorem in_X5_readPart : Cond.instanceMethod yX5_readPart ∈ lw_T := tb_4 (List.mem_of_getElem? (i := 169) (by decide +kernel)) rfl
theorem se_X5_readPart : Cond.selects RX5 yX5_readPart yX5_readPart ∈ lw_T := ab_wT 10 (by decide +kernel) rfl
theorem in_X5_emit : Cond.instanceMethod yX5_emit ∈ lw_T := tb_4 (List.mem_of_getElem? (i := 173) (by decide +kernel)) rfl
theorem se_X5_emit : Cond.selects RX5 yX5_emit yX5_emit ∈ lw_T := ab_wT 11 (by decide +kernel) rfl
theorem in_X5_aim : Cond.instanceMethod yX5_aim ∈ lw_T := tb_4 (List.mem_of_getElem? (i := 193) (by decide +kernel)) rfl
theorem se_X5_aim : Cond.selects RX5 yX5_aim yX5_aim ∈ lw_T := ab_wT 16 (by decide +kernel) rfl
theorem in_X6_init : Cond.instanceMethod yX6_init ∈ lw_T := tb_1 (List.mem_of_getElem? (i := 184) (by decide +kernel)) rfl
theorem in_X6_survey : Cond.instanceMethod yX6_survey ∈ lw_T := tb_3 (List.mem_of_getElem? (i := 193) (by decide +kernel)) rfl
theorem se_X6_survey : Cond.selects RX6 yX6_survey yX6_survey ∈ lw_T := tb_3 (List.mem_of_getElem? (i := 194) (by decide +kernel)) rfl
theorem st_X6_spread : Cond.static yX6_spread ∈ lw_T := tb_3 (List.mem_of_getElem? (i := 201) (by decide +kernel)) rfl
theorem in_X6_steps : Cond.instanceMethod yX6_steps ∈ lw_T := tb_4 (List.mem_of_getElem? (i := 6) (by decide +kernel)) rfl
theorem se_X6_steps : Cond.selects RX6 yX6_steps yX6_steps ∈ lw_T := tb_4 (List.mem_of_getElem? (i := 7) (by decide +kernel)) rfl
theorem in_X6_sight : Cond.instanceMethod yX6_sight ∈ lw_T := tb_4 (List.mem_of_getElem? (i := 11) (by decide +kernel)) rfl
theorem se_X6_sight : Cond.selects RX6 yX6_sight yX6_sight ∈ lw_T := tb_4 (List.mem_of_getElem? (i := 12) (by decide +kernel)) rfl
theorem in_X6_within : Cond.instanceMethod yX6_within ∈ lw_T := tb_5 (List.mem_of_getElem? (i := 146) (by decide +kernel)) rfl
theorem se_X6_within : Cond.selects RX6 yX6_within yX6_within ∈ lw_T := tb_5 (List.mem_of_getElem? (i := 147) (by decide +kernel)) rfl
theorem in_X6_around : Cond.instanceMethod yX6_around ∈ lw_T := tb_5 (List.mem_of_getElem? (i := 214) (by decide +kernel)) rfl
theorem se_X6_around : Cond.selects RX6 yX6_around yX6_around ∈ lw_T := tb_5 (List.mem_of_getElem? (i := 215) (by decide +kernel)) rfl
theorem in_X6_stagger : Cond.instanceMethod yX6_stagger ∈ lw_T := tb_6 (List.mem_of_getElem? (i := 167) (by decide +kernel)) rfl
theorem se_X6_stagger : Cond.selects RX6 yX6_stagger yX6_stagger ∈ lw_T := tb_6 (List.mem_of_getElem? (i := 168) (by decide +kernel)) rfl
theorem in_X6_leave : Cond.instanceMethod yX6_leave ∈ lw_T := tb_6 (List.mem_of_getElem? (i := 176) (by decide +kernel)) rfl
theorem se_X6_leave : Cond.selects RX6 yX6_leave yX6_leave ∈ lw_T := ab_wT 47 (by decide +kernel) rfl
theorem in_X6_findRound : Cond.instanceMethod yX6_findRound ∈ lw_T := tb_5 (List.mem_of_getElem? (i := 179) (by decide +kernel)) rfl
theorem se_X6_findRound : Cond.selects RX6 yX6_findRound yX6_findRound ∈ lw_T := tb_5 (List.mem_of_getElem? (i := 180) (by decide +kernel)) rfl
theorem in_X6_gatherStops : Cond.instanceMethod yX6_gatherStops ∈ lw_T := tb_5 (List.mem_of_getElem? (i := 185) (by decide +kernel)) rfl
theorem se_X6_gatherStops : Cond.selects RX6 yX6_gatherStops yX6_gatherStops ∈ lw_T := ab_wT 27 (by decide +kernel) rfl
theorem in_X6_fillCosts : Cond.instanceMethod yX6_fillCosts ∈ lw_T := tb_5 (List.mem_of_getElem? (i := 189) (by decide +kernel)) rfl
theorem se_X6_fillCosts : Cond.selects RX6 yX6_fillCosts yX6_fillCosts ∈ lw_T := ab_wT 28 (by decide +kernel) rfl
theorem in_X6_rest : Cond.instanceMethod yX6_rest ∈ lw_T := tb_5 (List.mem_of_getElem? (i := 193) (by decide +kernel)) rfl
theorem se_X6_rest : Cond.selects RX6 yX6_rest yX6_rest ∈ lw_T := ab_wT 29 (by decide +kernel) rfl
theorem in_X6_stopsOf : Cond.instanceMethod yX6_stopsOf ∈ lw_T := tb_5 (List.mem_of_getElem? (i := 199) (by decide +kernel)) rfl
theorem se_X6_stopsOf : Cond.selects RX6 yX6_stopsOf yX6_stopsOf ∈ lw_T := ab_wT 30 (by decide +kernel) rfl
theorem in_X6_layRow : Cond.instanceMethod yX6_layRow ∈ lw_T := tb_5 (List.mem_of_getElem? (i := 203) (by decide +kernel)) rfl
theorem se_X6_layRow : Cond.selects RX6 yX6_layRow yX6_layRow ∈ lw_T := ab_wT 31 (by decide +kernel) rfl
theorem in_X7_init : Cond.instanceMethod yX7_init ∈ lw_T := tb_1 (List.mem_of_getElem? (i := 39) (by decide +kernel)) rfl
theorem in_X7_isFull : Cond.instanceMethod yX7_isFull ∈ lw_T := tb_3 (List.mem_of_getElem? (i := 144) (by decide +kernel)) rfl
theorem se_X7_isFull : Cond.selects RX7 yX7_isFull yX7_isFull ∈ lw_T := tb_3 (List.mem_of_getElem? (i := 145) (by decide +kernel)) rfl
theorem in_X7_has : Cond.instanceMethod yX7_has ∈ lw_T := tb_3 (List.mem_of_getElem? (i := 172) (by decide +kernel)) rfl
theorem se_X7_has : Cond.selects RX7 yX7_has yX7_has ∈ lw_T := tb_3 (List.mem_of_getElem? (i := 173) (by decide +kernel)) rfl
theorem in_X7_get : Cond.instanceMethod yX7_get ∈ lw_T := tb_3 (List.mem_of_getElem? (i := 140) (by decide +kernel)) rfl
theorem se_X7_get : Cond.selects RX7 yX7_get yX7_get ∈ lw_T := tb_3 (List.mem_of_getElem? (i := 141) (by decide +kernel)) rfl
theorem in_X7_swap : Cond.instanceMethod yX7_swap ∈ lw_T := tb_3 (List.mem_of_getElem? (i := 176) (by decide +kernel)) rfl
theorem se_X7_swap : Cond.selects RX7 yX7_swap yX7_swap ∈ lw_T := tb_3 (List.mem_of_getElem? (i := 177) (by decide +kernel)) rfl
theorem in_X7_add : Cond.instanceMethod yX7_add ∈ lw_T := tb_3 (List.mem_of_getElem? (i := 150) (by decide +kernel)) rfl
theorem se_X7_add : Cond.selects RX7 yX7_add yX7_add ∈ lw_T := tb_3 (List.mem_of_getElem? (i := 151) (by decide +kernel)) rfl
theorem in_X7_list : Cond.instanceMethod yX7_list ∈ lw_T := tb_6 (List.mem_of_getElem? (i := 145) (by decide +kernel)) rfl
theorem se_X7_list : Cond.selects RX7 yX7_list yX7_list ∈ lw_T := tb_6 (List.mem_of_getElem? (i := 146) (by decide +kernel)) rfl
theorem in_X7_pick : Cond.instanceMethod yX7_pick ∈ lw_T := tb_6 (List.mem_of_getElem? (i := 149) (by decide +kernel)) rfl
theorem se_X7_pick : Cond.selects RX7 yX7_pick yX7_pick ∈ lw_T := tb_6 (List.mem_of_getElem? (i := 150) (by decide +kernel)) rfl
theorem in_X7_become : Cond.instanceMethod yX7_become ∈ lw_T := tb_6 (List.mem_of_getElem? (i := 195) (by decide +kernel)) rfl
theorem se_X7_become : Cond.selects RX7 yX7_become yX7_become ∈ lw_T := tb_6 (List.mem_of_getElem? (i := 196) (by decide +kernel)) rfl
theorem in_X8_init : Cond.instanceMethod yX8_init ∈ lw_T := tb_1 (List.mem_of_getElem? (i := 237) (by decide +kernel)) rfl
theorem in_X8_heed : Cond.instanceMethod yX8_heed ∈ lw_T := tb_3 (List.mem_of_getElem? (i := 205) (by decide +kernel)) rfl
theorem se_X8_heed : Cond.selects RX8 yX8_heed yX8_heed ∈ lw_T := tb_3 (List.mem_of_getElem? (i := 206) (by decide +kernel)) rfl
theorem in_X8_heeds : Cond.instanceMethod yX8_heeds ∈ lw_T := tb_3 (List.mem_of_getElem? (i := 214) (by decide +kernel)) rfl
theorem se_X8_heeds : Cond.selects RX8 yX8_heeds yX8_heeds ∈ lw_T := tb_3 (List.mem_of_getElem? (i := 215) (by decide +kernel)) rfl
theorem in_X8_hated : Cond.instanceMethod yX8_hated ∈ lw_T := tb_5 (List.mem_of_getElem? (i := 108) (by decide +kernel)) rfl
theorem se_X8_hated : Cond.selects RX8 yX8_hated yX8_hated ∈ lw_T := tb_5 (List.mem_of_getElem? (i := 109) (by decide +kernel)) rfl
theorem in_X8_fearful : Cond.instanceMethod yX8_fearful ∈ lw_T := tb_5 (List.mem_of_getElem? (i := 91) (by decide +kernel)) rfl
theorem se_X8_fearful : Cond.selects RX8 yX8_fearful yX8_fearful ∈ lw_T := tb_5 (List.mem_of_getElem? (i := 92) (by decide +kernel)) rfl
theorem in_X8_thirst : Cond.instanceMethod yX8_thirst ∈ lw_T := tb_5 (List.mem_of_getElem? (i := 124) (by decide +kernel)) rfl
theorem se_X8_thirst : Cond.selects RX8 yX8_thirst yX8_thirst ∈ lw_T := tb_5 (List.mem_of_getElem? (i := 125) (by decide +kernel)) rfl
theorem in_X8_ask : Cond.instanceMethod yX8_ask ∈ lw_T := tb_5 (List.mem_of_getElem? (i := 40) (by decide +kernel)) rfl
theorem se_X8_ask : Cond.selects RX8 yX8_ask yX8_ask ∈ lw_T := tb_5 (List.mem_of_getElem? (i := 41) (by decide +kernel)) rfl
theorem in_X8_keyOf : Cond.instanceMethod yX8_keyOf ∈ lw_T := tb_5 (List.mem_of_getElem? (i := 45) (by decide +kernel)) rfl
theorem se_X8_keyOf : Cond.selects RX8 yX8_keyOf yX8_keyOf ∈ lw_T := ab_wT 19 (by decide +kernel) rfl
theorem in_X9_init : Cond.instanceMethod yX9_init ∈ lw_T := tb_4 (List.mem_of_getElem? (i := 214) (by decide +kernel)) rfl
theorem in_X9_part : Cond.instanceMethod yX9_part ∈ lw_T := tb_5 (List.mem_of_getElem? (i := 9) (by decide +kernel)) rfl
theorem se_X9_part : Cond.selects RX9 yX9_part yX9_part ∈ lw_T := tb_5 (List.mem_of_getElem? (i := 10) (by decide +kernel)) rfl
theorem in_X10_init : Cond.instanceMethod yX10_init ∈ lw_T := tb_1 (List.mem_of_getElem? (i := 33) (by decide +kernel)) rfl
theorem in_X10_isWay : Cond.instanceMethod yX10_isWay ∈ lw_T := tb_3 (List.mem_of_getElem? (i := 130) (by decide +kernel)) rfl
theorem se_X10_isWay : Cond.selects RX10 yX10_isWay yX10_isWay ∈ lw_T := tb_3 (List.mem_of_getElem? (i := 131) (by decide +kernel)) rfl
theorem in_X10_tell : Cond.instanceMethod yX10_tell ∈ lw_T := tb_4 (List.mem_of_getElem? (i := 34) (by decide +kernel)) rfl
theorem se_X10_tell : Cond.selects RX10 yX10_tell yX10_tell ∈ lw_T := tb_4 (List.mem_of_getElem? (i := 35) (by decide +kernel)) rfl
theorem in_X10_keepLaw : Cond.instanceMethod yX10_keepLaw ∈ lw_T := tb_4 (List.mem_of_getElem? (i := 237) (by decide +kernel)) rfl
theorem se_X10_keepLaw : Cond.selects RX10 yX10_keepLaw yX10_keepLaw ∈ lw_T := tb_4 (List.mem_of_getElem? (i := 238) (by decide +kernel)) rfl
theorem in_X10_lawInForce : Cond.instanceMethod yX10_lawInForce ∈ lw_T := tb_3 (List.mem_of_getElem? (i := 209) (by decide +kernel)) rfl
theorem se_X10_lawInForce : Cond.selects RX10 yX10_lawInForce yX10_lawInForce ∈ lw_T := tb_3 (List.mem_of_getElem? (i := 210) (by decide +kernel)) rfl
theorem in_X10_become : Cond.instanceMethod yX10_become ∈ lw_T := tb_6 (List.mem_of_getElem? (i := 191) (by decide +kernel)) rfl
theorem se_X10_become : Cond.selects RX10 yX10_become yX10_become ∈ lw_T := tb_6 (List.mem_of_getElem? (i := 192) (by decide +kernel)) rfl
theorem in_X11_init : Cond.instanceMethod yX11_init ∈ lw_T := tb_1 (List.mem_of_getElem? (i := 25) (by decide +kernel)) rfl
theorem in_X11_way : Cond.instanceMethod yX11_way ∈ lw_T := tb_3 (List.mem_of_getElem? (i := 119) (by decide +kernel)) rfl
theorem se_X11_way : Cond.selects RX11 yX11_way yX11_way ∈ lw_T := tb_3 (List.mem_of_getElem? (i := 120) (by decide +kernel)) rfl
theorem in_X11_shutter : Cond.instanceMethod yX11_shutter ∈ lw_T := tb_3 (List.mem_of_getElem? (i := 168) (by decide +kernel)) rfl
theorem se_X11_shutter : Cond.selects RX11 yX11_shutter yX11_shutter ∈ lw_T := tb_3 (List.mem_of_getElem? (i := 169) (by decide +kernel)) rfl
theorem in_X11_of : Cond.instanceMethod yX11_of ∈ lw_T := tb_3 (List.mem_of_getElem? (i := 180) (by decide +kernel)) rfl
theorem se_X11_of : Cond.selects RX11 yX11_of yX11_of ∈ lw_T := tb_3 (List.mem_of_getElem? (i := 181) (by decide +kernel)) rfl
theorem in_X11_far : Cond.instanceMethod yX11_far ∈ lw_T := tb_3 (List.mem_of_getElem? (i := 185) (by decide +kernel)) rfl
theorem se_X11_far : Cond.selects RX11 yX11_far yX11_far ∈ lw_T := tb_3 (List.mem_of_getElem? (i := 186) (by decide +kernel)) rfl
theorem in_X11_lamp : Cond.instanceMethod yX11_lamp ∈ lw_T := tb_4 (List.mem_of_getElem? (i := 15) (by decide +kernel)) rfl
theorem se_X11_lamp : Cond.selects RX11 yX11_lamp yX11_lamp ∈ lw_T := tb_4 (List.mem_of_getElem? (i := 16) (by decide +kernel)) rfl
theorem in_X11_put : Cond.instanceMethod yX11_put ∈ lw_T := tb_4 (List.mem_of_getElem? (i := 19) (by decide +kernel)) rfl
theorem se_X11_put : Cond.selects RX11 yX11_put yX11_put ∈ lw_T := tb_4 (List.mem_of_getElem? (i := 20) (by decide +kernel)) rfl
theorem in_X11_fact : Cond.instanceMethod yX11_fact ∈ lw_T := tb_4 (List.mem_of_getElem? (i := 26) (by decide +kernel)) rfl
theorem se_X11_fact : Cond.selects RX11 yX11_fact yX11_fact ∈ lw_T := tb_4 (List.mem_of_getElem? (i := 27) (by decide +kernel)) rfl
theorem in_X11_turn : Cond.instanceMethod yX11_turn ∈ lw_T := tb_4 (List.mem_of_getElem? (i := 30) (by decide +kernel)) rfl
theorem se_X11_turn : Cond.selects RX11 yX11_turn yX11_turn ∈ lw_T := tb_4 (List.mem_of_getElem? (i := 31) (by decide +kernel)) rfl
theorem in_X11_undo : Cond.instanceMethod yX11_undo ∈ lw_T := tb_4 (List.mem_of_getElem? (i := 40) (by decide +kernel)) rfl
theorem se_X11_undo : Cond.selects RX11 yX11_undo yX11_undo ∈ lw_T := tb_4 (List.mem_of_getElem? (i := 41) (by decide +kernel)) rfl
theorem in_X11_lantern : Cond.instanceMethod yX11_lantern ∈ lw_T := tb_4 (List.mem_of_getElem? (i := 44) (by decide +kernel)) rfl
theorem se_X11_lantern : Cond.selects RX11 yX11_lantern yX11_lantern ∈ lw_T := tb_4 (List.mem_of_getElem? (i := 45) (by decide +kernel)) rfl
theorem in_X11_go : Cond.instanceMethod yX11_go ∈ lw_T := tb_4 (List.mem_of_getElem? (i := 48) (by decide +kernel)) rfl
theorem se_X11_go : Cond.selects RX11 yX11_go yX11_go ∈ lw_T := tb_4 (List.mem_of_getElem? (i := 49) (by decide +kernel)) rfl
theorem in_X11_doused : Cond.instanceMethod yX11_doused ∈ lw_T := tb_4 (List.mem_of_getElem? (i := 52) (by decide +kernel)) rfl
theorem se_X11_doused : Cond.selects RX11 yX11_doused yX11_doused ∈ lw_T := tb_4 (List.mem_of_getElem? (i := 53) (by decide +kernel)) rfl
theorem in_X11_errand : Cond.instanceMethod yX11_errand ∈ lw_T := tb_4 (List.mem_of_getElem? (i := 56) (by decide +kernel)) rfl
theorem se_X11_errand : Cond.selects RX11 yX11_errand yX11_errand ∈ lw_T := tb_4 (List.mem_of_getElem? (i := 57) (by decide +kernel)) rfl
theorem in_X11_terms : Cond.instanceMethod yX11_terms ∈ lw_T := tb_4 (List.mem_of_getElem? (i := 60) (by decide +kernel)) rfl
theorem se_X11_terms : Cond.selects RX11 yX11_terms yX11_terms ∈ lw_T := tb_4 (List.mem_of_getElem? (i := 61) (by decide +kernel)) rfl
theorem in_X11_feed : Cond.instanceMethod yX11_feed ∈ lw_T := tb_4 (List.mem_of_getElem? (i := 64) (by decide +kernel)) rfl
theorem se_X11_feed : Cond.selects RX11 yX11_feed yX11_feed ∈ lw_T := tb_4 (List.mem_of_getElem? (i := 65) (by decide +kernel)) rfl
theorem in_X11_end : Cond.instanceMethod yX11_end ∈ lw_T := tb_4 (List.mem_of_getElem? (i := 72) (by decide +kernel)) rfl
theorem se_X11_end : Cond.selects RX11 yX11_end yX11_end ∈ lw_T := tb_4 (List.mem_of_getElem? (i := 73) (by decide +kernel)) rfl
theorem in_X11_row : Cond.instanceMethod yX11_row ∈ lw_T := tb_4 (List.mem_of_getElem? (i := 76) (by decide +kernel)) rfl
theorem se_X11_row : Cond.selects RX11 yX11_row yX11_row ∈ lw_T := tb_4 (List.mem_of_getElem? (i := 77) (by decide +kernel)) rfl
theorem in_X11_ash : Cond.instanceMethod yX11_ash ∈ lw_T := tb_4 (List.mem_of_getElem? (i := 84) (by decide +kernel)) rfl
theorem se_X11_ash : Cond.selects RX11 yX11_ash yX11_ash ∈ lw_T := tb_4 (List.mem_of_getElem? (i := 85) (by decide +kernel)) rfl
theorem in_X11_law : Cond.instanceMethod yX11_law ∈ lw_T := tb_4 (List.mem_of_getElem? (i := 88) (by decide +kernel)) rfl
theorem se_X11_law : Cond.selects RX11 yX11_law yX11_law ∈ lw_T := tb_4 (List.mem_of_getElem? (i := 89) (by decide +kernel)) rfl
theorem in_X11_rounds : Cond.instanceMethod yX11_rounds ∈ lw_T := tb_5 (List.mem_of_getElem? (i := 1) (by decide +kernel)) rfl
theorem se_X11_rounds : Cond.selects RX11 yX11_rounds yX11_rounds ∈ lw_T := tb_5 (List.mem_of_getElem? (i := 2) (by decide +kernel)) rfl
theorem in_X11_fault : Cond.instanceMethod yX11_fault ∈ lw_T := tb_5 (List.mem_of_getElem? (i := 24) (by decide +kernel)) rfl
theorem se_X11_fault : Cond.selects RX11 yX11_fault yX11_fault ∈ lw_T := tb_5 (List.mem_of_getElem? (i := 25) (by decide +kernel)) rfl
theorem in_X11_stopped : Cond.instanceMethod yX11_stopped ∈ lw_T := tb_5 (List.mem_of_getElem? (i := 28) (by decide +kernel)) rfl
theorem se_X11_stopped : Cond.selects RX11 yX11_stopped yX11_stopped ∈ lw_T := tb_5 (List.mem_of_getElem? (i := 29) (by decide +kernel)) rfl
theorem in_X11_force : Cond.instanceMethod yX11_force ∈ lw_T := tb_5 (List.mem_of_getElem? (i := 32) (by decide +kernel)) rfl
theorem se_X11_force : Cond.selects RX11 yX11_force yX11_force ∈ lw_T := tb_5 (List.mem_of_getElem? (i := 33) (by decide +kernel)) rfl
theorem in_X11_asks : Cond.instanceMethod yX11_asks ∈ lw_T := tb_5 (List.mem_of_getElem? (i := 36) (by decide +kernel)) rfl
theorem se_X11_asks : Cond.selects RX11 yX11_asks yX11_asks ∈ lw_T := tb_5 (List.mem_of_getElem? (i := 37) (by decide +kernel)) rfl
theorem in_X11_burns : Cond.instanceMethod yX11_burns ∈ lw_T := tb_5 (List.mem_of_getElem? (i := 53) (by decide +kernel)) rfl
theorem se_X11_burns : Cond.selects RX11 yX11_burns yX11_burns ∈ lw_T := tb_5 (List.mem_of_getElem? (i := 54) (by decide +kernel)) rfl
theorem in_X11_bright : Cond.instanceMethod yX11_bright ∈ lw_T := tb_5 (List.mem_of_getElem? (i := 133) (by decide +kernel)) rfl
theorem se_X11_bright : Cond.selects RX11 yX11_bright yX11_bright ∈ lw_T := tb_5 (List.mem_of_getElem? (i := 134) (by decide +kernel)) rfl
theorem in_X11_night : Cond.instanceMethod yX11_night ∈ lw_T := tb_5 (List.mem_of_getElem? (i := 151) (by decide +kernel)) rfl
theorem se_X11_night : Cond.selects RX11 yX11_night yX11_night ∈ lw_T := tb_5 (List.mem_of_getElem? (i := 152) (by decide +kernel)) rfl
theorem in_X11_judge : Cond.instanceMethod yX11_judge ∈ lw_T := tb_5 (List.mem_of_getElem? (i := 159) (by decide +kernel)) rfl
theorem se_X11_judge : Cond.selects RX11 yX11_judge yX11_judge ∈ lw_T := tb_5 (List.mem_of_getElem? (i := 160) (by decide +kernel)) rfl
theorem in_X11_round : Cond.instanceMethod yX11_round ∈ lw_T := tb_5 (List.mem_of_getElem? (i := 175) (by decide +kernel)) rfl
theorem se_X11_round : Cond.selects RX11 yX11_round yX11_round ∈ lw_T := tb_5 (List.mem_of_getElem? (i := 176) (by decide +kernel)) rfl
theorem in_X11_walk : Cond.instanceMethod yX11_walk ∈ lw_T := tb_5 (List.mem_of_getElem? (i := 206) (by decide +kernel)) rfl
theorem se_X11_walk : Cond.selects RX11 yX11_walk yX11_walk ∈ lw_T := tb_5 (List.mem_of_getElem? (i := 207) (by decide +kernel)) rfl
theorem in_X11_worst : Cond.instanceMethod yX11_worst ∈ lw_T := tb_5 (List.mem_of_getElem? (i := 222) (by decide +kernel)) rfl
theorem se_X11_worst : Cond.selects RX11 yX11_worst yX11_worst ∈ lw_T := tb_5 (List.mem_of_getElem? (i := 223) (by decide +kernel)) rfl
theorem in_X11_hang : Cond.instanceMethod yX11_hang ∈ lw_T := tb_6 (List.mem_of_getElem? (i := 16) (by decide +kernel)) rfl
theorem se_X11_hang : Cond.selects RX11 yX11_hang yX11_hang ∈ lw_T := tb_6 (List.mem_of_getElem? (i := 17) (by decide +kernel)) rfl
theorem in_X11_shutters : Cond.instanceMethod yX11_shutters ∈ lw_T := tb_6 (List.mem_of_getElem? (i := 45) (by decide +kernel)) rfl
theorem se_X11_shutters : Cond.selects RX11 yX11_shutters yX11_shutters ∈ lw_T := tb_6 (List.mem_of_getElem? (i := 46) (by decide +kernel)) rfl
theorem in_X11_would : Cond.instanceMethod yX11_would ∈ lw_T := tb_6 (List.mem_of_getElem? (i := 97) (by decide +kernel)) rfl
theorem se_X11_would : Cond.selects RX11 yX11_would yX11_would ∈ lw_T := tb_6 (List.mem_of_getElem? (i := 98) (by decide +kernel)) rfl
theorem in_X11_soot : Cond.instanceMethod yX11_soot ∈ lw_T := tb_6 (List.mem_of_getElem? (i := 115) (by decide +kernel)) rfl
theorem se_X11_soot : Cond.selects RX11 yX11_soot yX11_soot ∈ lw_T := tb_6 (List.mem_of_getElem? (i := 116) (by decide +kernel)) rfl
theorem in_X11_sweep : Cond.instanceMethod yX11_sweep ∈ lw_T := tb_6 (List.mem_of_getElem? (i := 119) (by decide +kernel)) rfl
theorem se_X11_sweep : Cond.selects RX11 yX11_sweep yX11_sweep ∈ lw_T := tb_6 (List.mem_of_getElem? (i := 120) (by decide +kernel)) rfl
theorem in_X11_stranger : Cond.instanceMethod yX11_stranger ∈ lw_T := tb_6 (List.mem_of_getElem? (i := 123) (by decide +kernel)) rfl
theorem se_X11_stranger : Cond.selects RX11 yX11_stranger yX11_stranger ∈ lw_T := tb_6 (List.mem_of_getElem? (i := 124) (by decide +kernel)) rfl
theorem in_X11_changed : Cond.instanceMethod yX11_changed ∈ lw_T := tb_6 (List.mem_of_getElem? (i := 154) (by decide +kernel)) rfl
theorem se_X11_changed : Cond.selects RX11 yX11_changed yX11_changed ∈ lw_T := tb_6 (List.mem_of_getElem? (i := 155) (by decide +kernel)) rfl
theorem in_X11_drunk : Cond.instanceMethod yX11_drunk ∈ lw_T := tb_6 (List.mem_of_getElem? (i := 162) (by decide +kernel)) rfl
theorem se_X11_drunk : Cond.selects RX11 yX11_drunk yX11_drunk ∈ lw_T := tb_6 (List.mem_of_getElem? (i := 163) (by decide +kernel)) rfl
theorem in_X11_drawn : Cond.instanceMethod yX11_drawn ∈ lw_T := tb_6 (List.mem_of_getElem? (i := 183) (by decide +kernel)) rfl
theorem se_X11_drawn : Cond.selects RX11 yX11_drawn yX11_drawn ∈ lw_T := tb_6 (List.mem_of_getElem? (i := 184) (by decide +kernel)) rfl
theorem in_X11_image : Cond.instanceMethod yX11_image ∈ lw_T := tb_6 (List.mem_of_getElem? (i := 187) (by decide +kernel)) rfl
theorem se_X11_image : Cond.selects RX11 yX11_image yX11_image ∈ lw_T := tb_6 (List.mem_of_getElem? (i := 188) (by decide +kernel)) rfl
theorem in_X11_back : Cond.instanceMethod yX11_back ∈ lw_T := tb_6 (List.mem_of_getElem? (i := 201) (by decide +kernel)) rfl
theorem se_X11_back : Cond.selects RX11 yX11_back yX11_back ∈ lw_T := tb_6 (List.mem_of_getElem? (i := 202) (by decide +kernel)) rfl
theorem in_X11_count : Cond.instanceMethod yX11_count ∈ lw_T := tb_6 (List.mem_of_getElem? (i := 205) (by decide +kernel)) rfl
theorem se_X11_count : Cond.selects RX11 yX11_count yX11_count ∈ lw_T := tb_6 (List.mem_of_getElem? (i := 206) (by decide +kernel)) rfl
theorem in_X11_status : Cond.instanceMethod yX11_status ∈ lw_T := tb_6 (List.mem_of_getElem? (i := 209) (by decide +kernel)) rfl
theorem se_X11_status : Cond.selects RX11 yX11_status yX11_status ∈ lw_T := tb_6 (List.mem_of_getElem? (i := 210) (by decide +kernel)) rfl
theorem st_X11_isIn : Cond.static yX11_isIn ∈ lw_T := tb_3 (List.mem_of_getElem? (i := 123) (by decide +kernel)) rfl
theorem st_X11_isFact : Cond.static yX11_isFact ∈ lw_T := tb_4 (List.mem_of_getElem? (i := 23) (by decide +kernel)) rfl
theorem st_X11_areBits : Cond.static yX11_areBits ∈ lw_T := tb_6 (List.mem_of_getElem? (i := 20) (by decide +kernel)) rfl
theorem st_X11_countBit : Cond.static yX11_countBit ∈ lw_T := tb_5 (List.mem_of_getElem? (i := 130) (by decide +kernel)) rfl
theorem in_X11_refuse : Cond.instanceMethod yX11_refuse ∈ lw_T := tb_3 (List.mem_of_getElem? (i := 127) (by decide +kernel)) rfl
theorem se_X11_refuse : Cond.selects RX11 yX11_refuse yX11_refuse ∈ lw_T := ab_wT 0 (by decide +kernel) rfl
theorem in_X11_grant : Cond.instanceMethod yX11_grant ∈ lw_T := tb_3 (List.mem_of_getElem? (i := 165) (by decide +kernel)) rfl
theorem se_X11_grant : Cond.selects RX11 yX11_grant yX11_grant ∈ lw_T := ab_wT 2 (by decide +kernel) rfl
theorem in_X11_change : Cond.instanceMethod yX11_change ∈ lw_T := tb_3 (List.mem_of_getElem? (i := 161) (by decide +kernel)) rfl
theorem se_X11_change : Cond.selects RX11 yX11_change yX11_change ∈ lw_T := ab_wT 1 (by decide +kernel) rfl
theorem in_X11_write : Cond.instanceMethod yX11_write ∈ lw_T := tb_4 (List.mem_of_getElem? (i := 69) (by decide +kernel)) rfl
theorem se_X11_write : Cond.selects RX11 yX11_write yX11_write ∈ lw_T := ab_wT 5 (by decide +kernel) rfl
theorem in_X11_takeTape : Cond.instanceMethod yX11_takeTape ∈ lw_T := tb_4 (List.mem_of_getElem? (i := 81) (by decide +kernel)) rfl
theorem se_X11_takeTape : Cond.selects RX11 yX11_takeTape yX11_takeTape ∈ lw_T := ab_wT 6 (by decide +kernel) rfl
theorem in_X11_look : Cond.instanceMethod yX11_look ∈ lw_T := tb_3 (List.mem_of_getElem? (i := 190) (by decide +kernel)) rfl
theorem se_X11_look : Cond.selects RX11 yX11_look yX11_look ∈ lw_T := ab_wT 3 (by decide +kernel) rfl
theorem in_X11_runClause : Cond.instanceMethod yX11_runClause ∈ lw_T := tb_5 (List.mem_of_getElem? (i := 6) (by decide +kernel)) rfl
theorem se_X11_runClause : Cond.selects RX11 yX11_runClause yX11_runClause ∈ lw_T := ab_wT 17 (by decide +kernel) rfl
theorem in_X11_runOnce : Cond.instanceMethod yX11_runOnce ∈ lw_T := tb_5 (List.mem_of_getElem? (i := 20) (by decide +kernel)) rfl
theorem se_X11_runOnce : Cond.selects RX11 yX11_runOnce yX11_runOnce ∈ lw_T := ab_wT 18 (by decide +kernel) rfl
theorem st_X12_lies : Cond.static yX12_lies ∈ lw_T := tb_7 (List.mem_of_getElem? (i := 223) (by decide +kernel)) rfl
theorem in_X12_refuses : Cond.instanceMethod yX12_refuses ∈ lw_T := tb_7 (List.mem_of_getElem? (i := 227) (by decide +kernel)) rfl
theorem se_X12_refuses : Cond.selects RX12 yX12_refuses yX12_refuses ∈ lw_T := ab_wT 48 (by decide +kernel) rfl
theorem in_X12_good : Cond.instanceMethod yX12_good ∈ lw_T := tb_7 (List.mem_of_getElem? (i := 231) (by decide +kernel)) rfl
theorem se_X12_good : Cond.selects RX12 yX12_good yX12_good ∈ lw_T := ab_wT 49 (by decide +kernel) rfl
theorem st_X12_isIn : Cond.static yX12_isIn ∈ lw_T := tb_8 (List.mem_of_getElem? (i := 227) (by decide +kernel)) rfl
theorem st_X12_ones : Cond.static yX12_ones ∈ lw_T := tb_9 (List.mem_of_getElem? (i := 117) (by decide +kernel)) rfl
theorem st_X12_lesser : Cond.static yX12_lesser ∈ lw_T := tb_8 (List.mem_of_getElem? (i := 13) (by decide +kernel)) rfl
theorem in_X12_init : Cond.instanceMethod yX12_init ∈ lw_T := tb_6 (List.mem_of_getElem? (i := 215) (by decide +kernel)) rfl
theorem in_X12_image : Cond.instanceMethod yX12_image ∈ lw_T := tb_7 (List.mem_of_getElem? (i := 219) (by decide +kernel)) rfl
theorem se_X12_image : Cond.selects RX12 yX12_image yX12_image ∈ lw_T := tb_7 (List.mem_of_getElem? (i := 220) (by decide +kernel)) rfl
theorem in_X12_back : Cond.instanceMethod yX12_back ∈ lw_T := tb_7 (List.mem_of_getElem? (i := 234) (by decide +kernel)) rfl
theorem se_X12_back : Cond.selects RX12 yX12_back yX12_back ∈ lw_T := tb_7 (List.mem_of_getElem? (i := 235) (by decide +kernel)) rfl
theorem st_X12_isCorner : Cond.static yX12_isCorner ∈ lw_T := tb_8 (List.mem_of_getElem? (i := 2) (by decide +kernel)) rfl
theorem st_X12_isKind : Cond.static yX12_isKind ∈ lw_T := tb_8 (List.mem_of_getElem? (i := 43) (by decide +kernel)) rfl
theorem st_X12_isMinute : Cond.static yX12_isMinute ∈ lw_T := tb_8 (List.mem_of_getElem? (i := 66) (by decide +kernel)) rfl
theorem in_X12_isWay : Cond.instanceMethod yX12_isWay ∈ lw_T := tb_8 (List.mem_of_getElem? (i := 25) (by decide +kernel)) rfl
theorem se_X12_isWay : Cond.selects RX12 yX12_isWay yX12_isWay ∈ lw_T := ab_wT 53 (by decide +kernel) rfl
theorem in_X12_isLamp : Cond.instanceMethod yX12_isLamp ∈ lw_T := tb_8 (List.mem_of_getElem? (i := 51) (by decide +kernel)) rfl
theorem se_X12_isLamp : Cond.selects RX12 yX12_isLamp yX12_isLamp ∈ lw_T := ab_wT 55 (by decide +kernel) rfl
theorem in_X12_isLantern : Cond.instanceMethod yX12_isLantern ∈ lw_T := tb_8 (List.mem_of_getElem? (i := 82) (by decide +kernel)) rfl
theorem se_X12_isLantern : Cond.selects RX12 yX12_isLantern yX12_isLantern ∈ lw_T := ab_wT 57 (by decide +kernel) rfl
theorem in_X12_joins : Cond.instanceMethod yX12_joins ∈ lw_T := tb_8 (List.mem_of_getElem? (i := 10) (by decide +kernel)) rfl
theorem se_X12_joins : Cond.selects RX12 yX12_joins yX12_joins ∈ lw_T := ab_wT 51 (by decide +kernel) rfl
theorem in_X12_hasWay : Cond.instanceMethod yX12_hasWay ∈ lw_T := tb_8 (List.mem_of_getElem? (i := 6) (by decide +kernel)) rfl
theorem se_X12_hasWay : Cond.selects RX12 yX12_hasWay yX12_hasWay ∈ lw_T := ab_wT 50 (by decide +kernel) rfl
theorem in_X12_comesBehind : Cond.instanceMethod yX12_comesBehind ∈ lw_T := tb_8 (List.mem_of_getElem? (i := 17) (by decide +kernel)) rfl
theorem se_X12_comesBehind : Cond.selects RX12 yX12_comesBehind yX12_comesBehind ∈ lw_T := ab_wT 52 (by decide +kernel) rfl
theorem in_X12_way : Cond.instanceMethod yX12_way ∈ lw_T := tb_7 (List.mem_of_getElem? (i := 238) (by decide +kernel)) rfl
theorem se_X12_way : Cond.selects RX12 yX12_way yX12_way ∈ lw_T := tb_7 (List.mem_of_getElem? (i := 239) (by decide +kernel)) rfl
theorem in_X12_replaces : Cond.instanceMethod yX12_replaces ∈ lw_T := tb_8 (List.mem_of_getElem? (i := 29) (by decide +kernel)) rfl
theorem se_X12_replaces : Cond.selects RX12 yX12_replaces yX12_replaces ∈ lw_T := ab_wT 54 (by decide +kernel) rfl
theorem in_X12_shutter : Cond.instanceMethod yX12_shutter ∈ lw_T := tb_8 (List.mem_of_getElem? (i := 20) (by decide +kernel)) rfl
theorem se_X12_shutter : Cond.selects RX12 yX12_shutter yX12_shutter ∈ lw_T := tb_8 (List.mem_of_getElem? (i := 21) (by decide +kernel)) rfl
theorem in_X12_of : Cond.instanceMethod yX12_of ∈ lw_T := tb_8 (List.mem_of_getElem? (i := 32) (by decide +kernel)) rfl
theorem se_X12_of : Cond.selects RX12 yX12_of yX12_of ∈ lw_T := tb_8 (List.mem_of_getElem? (i := 33) (by decide +kernel)) rfl
theorem st_X12_isFact : Cond.static yX12_isFact ∈ lw_T := tb_8 (List.mem_of_getElem? (i := 40) (by decide +kernel)) rfl
theorem in_X12_lamp : Cond.instanceMethod yX12_lamp ∈ lw_T := tb_8 (List.mem_of_getElem? (i := 36) (by decide +kernel)) rfl
theorem se_X12_lamp : Cond.selects RX12 yX12_lamp yX12_lamp ∈ lw_T := tb_8 (List.mem_of_getElem? (i := 37) (by decide +kernel)) rfl
theorem in_X12_put : Cond.instanceMethod yX12_put ∈ lw_T := tb_8 (List.mem_of_getElem? (i := 46) (by decide +kernel)) rfl
theorem se_X12_put : Cond.selects RX12 yX12_put yX12_put ∈ lw_T := tb_8 (List.mem_of_getElem? (i := 47) (by decide +kernel)) rfl
theorem in_X12_fact : Cond.instanceMethod yX12_fact ∈ lw_T := tb_8 (List.mem_of_getElem? (i := 54) (by decide +kernel)) rfl
theorem se_X12_fact : Cond.selects RX12 yX12_fact yX12_fact ∈ lw_T := tb_8 (List.mem_of_getElem? (i := 55) (by decide +kernel)) rfl
theorem in_X12_tellsSwitch : Cond.instanceMethod yX12_tellsSwitch ∈ lw_T := tb_8 (List.mem_of_getElem? (i := 63) (by decide +kernel)) rfl
theorem se_X12_tellsSwitch : Cond.selects RX12 yX12_tellsSwitch yX12_tellsSwitch ∈ lw_T := ab_wT 56 (by decide +kernel) rfl
theorem in_X12_turn : Cond.instanceMethod yX12_turn ∈ lw_T := tb_8 (List.mem_of_getElem? (i := 58) (by decide +kernel)) rfl
theorem se_X12_turn : Cond.selects RX12 yX12_turn yX12_turn ∈ lw_T := tb_8 (List.mem_of_getElem? (i := 59) (by decide +kernel)) rfl
theorem in_X12_undo : Cond.instanceMethod yX12_undo ∈ lw_T := tb_8 (List.mem_of_getElem? (i := 69) (by decide +kernel)) rfl
theorem se_X12_undo : Cond.selects RX12 yX12_undo yX12_undo ∈ lw_T := tb_8 (List.mem_of_getElem? (i := 70) (by decide +kernel)) rfl
theorem in_X12_lantern : Cond.instanceMethod yX12_lantern ∈ lw_T := tb_8 (List.mem_of_getElem? (i := 73) (by decide +kernel)) rfl
theorem se_X12_lantern : Cond.selects RX12 yX12_lantern yX12_lantern ∈ lw_T := tb_8 (List.mem_of_getElem? (i := 74) (by decide +kernel)) rfl
theorem in_X12_go : Cond.instanceMethod yX12_go ∈ lw_T := tb_8 (List.mem_of_getElem? (i := 77) (by decide +kernel)) rfl
theorem se_X12_go : Cond.selects RX12 yX12_go yX12_go ∈ lw_T := tb_8 (List.mem_of_getElem? (i := 78) (by decide +kernel)) rfl
theorem in_X12_goAll : Cond.instanceMethod yX12_goAll ∈ lw_T := tb_8 (List.mem_of_getElem? (i := 90) (by decide +kernel)) rfl
theorem se_X12_goAll : Cond.selects RX12 yX12_goAll yX12_goAll ∈ lw_T := ab_wT 58 (by decide +kernel) rfl
theorem in_X12_doused : Cond.instanceMethod yX12_doused ∈ lw_T := tb_8 (List.mem_of_getElem? (i := 85) (by decide +kernel)) rfl
theorem se_X12_doused : Cond.selects RX12 yX12_doused yX12_doused ∈ lw_T := tb_8 (List.mem_of_getElem? (i := 86) (by decide +kernel)) rfl
theorem in_X12_errand : Cond.instanceMethod yX12_errand ∈ lw_T := tb_8 (List.mem_of_getElem? (i := 93) (by decide +kernel)) rfl
theorem se_X12_errand : Cond.selects RX12 yX12_errand yX12_errand ∈ lw_T := tb_8 (List.mem_of_getElem? (i := 94) (by decide +kernel)) rfl
theorem in_X12_terms : Cond.instanceMethod yX12_terms ∈ lw_T := tb_8 (List.mem_of_getElem? (i := 97) (by decide +kernel)) rfl
theorem se_X12_terms : Cond.selects RX12 yX12_terms yX12_terms ∈ lw_T := tb_8 (List.mem_of_getElem? (i := 98) (by decide +kernel)) rfl
theorem in_X12_row : Cond.instanceMethod yX12_row ∈ lw_T := tb_8 (List.mem_of_getElem? (i := 101) (by decide +kernel)) rfl
theorem se_X12_row : Cond.selects RX12 yX12_row yX12_row ∈ lw_T := tb_8 (List.mem_of_getElem? (i := 102) (by decide +kernel)) rfl
theorem in_X12_ash : Cond.instanceMethod yX12_ash ∈ lw_T := tb_8 (List.mem_of_getElem? (i := 105) (by decide +kernel)) rfl
theorem se_X12_ash : Cond.selects RX12 yX12_ash yX12_ash ∈ lw_T := tb_8 (List.mem_of_getElem? (i := 106) (by decide +kernel)) rfl
theorem in_X12_feed : Cond.instanceMethod yX12_feed ∈ lw_T := tb_8 (List.mem_of_getElem? (i := 109) (by decide +kernel)) rfl
theorem se_X12_feed : Cond.selects RX12 yX12_feed yX12_feed ∈ lw_T := tb_8 (List.mem_of_getElem? (i := 110) (by decide +kernel)) rfl
theorem in_X12_end : Cond.instanceMethod yX12_end ∈ lw_T := tb_8 (List.mem_of_getElem? (i := 113) (by decide +kernel)) rfl
theorem se_X12_end : Cond.selects RX12 yX12_end yX12_end ∈ lw_T := tb_8 (List.mem_of_getElem? (i := 114) (by decide +kernel)) rfl
theorem st_X12_isSmall : Cond.static yX12_isSmall ∈ lw_T := tb_8 (List.mem_of_getElem? (i := 129) (by decide +kernel)) rfl
theorem st_X12_isDigit : Cond.static yX12_isDigit ∈ lw_T := tb_8 (List.mem_of_getElem? (i := 132) (by decide +kernel)) rfl
theorem in_X12_wordOf : Cond.instanceMethod yX12_wordOf ∈ lw_T := tb_8 (List.mem_of_getElem? (i := 136) (by decide +kernel)) rfl
theorem se_X12_wordOf : Cond.selects RX12 yX12_wordOf yX12_wordOf ∈ lw_T := ab_wT 61 (by decide +kernel) rfl
theorem in_X12_splits : Cond.instanceMethod yX12_splits ∈ lw_T := tb_8 (List.mem_of_getElem? (i := 126) (by decide +kernel)) rfl
theorem se_X12_splits : Cond.selects RX12 yX12_splits yX12_splits ∈ lw_T := ab_wT 60 (by decide +kernel) rfl
theorem in_X12_fine : Cond.instanceMethod yX12_fine ∈ lw_T := tb_8 (List.mem_of_getElem? (i := 153) (by decide +kernel)) rfl
theorem se_X12_fine : Cond.selects RX12 yX12_fine yX12_fine ∈ lw_T := ab_wT 65 (by decide +kernel) rfl
theorem in_X12_faults : Cond.instanceMethod yX12_faults ∈ lw_T := tb_8 (List.mem_of_getElem? (i := 161) (by decide +kernel)) rfl
theorem se_X12_faults : Cond.selects RX12 yX12_faults yX12_faults ∈ lw_T := ab_wT 67 (by decide +kernel) rfl
theorem in_X12_takes0 : Cond.instanceMethod yX12_takes0 ∈ lw_T := tb_8 (List.mem_of_getElem? (i := 149) (by decide +kernel)) rfl
theorem se_X12_takes0 : Cond.selects RX12 yX12_takes0 yX12_takes0 ∈ lw_T := ab_wT 64 (by decide +kernel) rfl
theorem in_X12_must : Cond.instanceMethod yX12_must ∈ lw_T := tb_8 (List.mem_of_getElem? (i := 157) (by decide +kernel)) rfl
theorem se_X12_must : Cond.selects RX12 yX12_must yX12_must ∈ lw_T := ab_wT 66 (by decide +kernel) rfl
theorem in_X12_leaf : Cond.instanceMethod yX12_leaf ∈ lw_T := tb_8 (List.mem_of_getElem? (i := 184) (by decide +kernel)) rfl
theorem se_X12_leaf : Cond.selects RX12 yX12_leaf yX12_leaf ∈ lw_T := ab_wT 72 (by decide +kernel) rfl
theorem st_X12_sign : Cond.static yX12_sign ∈ lw_T := tb_8 (List.mem_of_getElem? (i := 176) (by decide +kernel)) rfl
theorem in_X12_isValue : Cond.instanceMethod yX12_isValue ∈ lw_T := tb_8 (List.mem_of_getElem? (i := 180) (by decide +kernel)) rfl
theorem se_X12_isValue : Cond.selects RX12 yX12_isValue yX12_isValue ∈ lw_T := ab_wT 71 (by decide +kernel) rfl
theorem in_X12_readClause : Cond.instanceMethod yX12_readClause ∈ lw_T := tb_8 (List.mem_of_getElem? (i := 200) (by decide +kernel)) rfl
theorem se_X12_readClause : Cond.selects RX12 yX12_readClause yX12_readClause ∈ lw_T := ab_wT 76 (by decide +kernel) rfl
theorem in_X12_readRound : Cond.instanceMethod yX12_readRound ∈ lw_T := tb_8 (List.mem_of_getElem? (i := 145) (by decide +kernel)) rfl
theorem se_X12_readRound : Cond.selects RX12 yX12_readRound yX12_readRound ∈ lw_T := ab_wT 63 (by decide +kernel) rfl
theorem in_X12_readOne : Cond.instanceMethod yX12_readOne ∈ lw_T := tb_8 (List.mem_of_getElem? (i := 141) (by decide +kernel)) rfl
theorem se_X12_readOne : Cond.selects RX12 yX12_readOne yX12_readOne ∈ lw_T := ab_wT 62 (by decide +kernel) rfl
theorem in_X12_readTest : Cond.instanceMethod yX12_readTest ∈ lw_T := tb_8 (List.mem_of_getElem? (i := 188) (by decide +kernel)) rfl
theorem se_X12_readTest : Cond.selects RX12 yX12_readTest yX12_readTest ∈ lw_T := ab_wT 73 (by decide +kernel) rfl
theorem in_X12_readBoth : Cond.instanceMethod yX12_readBoth ∈ lw_T := tb_8 (List.mem_of_getElem? (i := 192) (by decide +kernel)) rfl
theorem se_X12_readBoth : Cond.selects RX12 yX12_readBoth yX12_readBoth ∈ lw_T := ab_wT 74 (by decide +kernel) rfl
theorem in_X12_readPlain : Cond.instanceMethod yX12_readPlain ∈ lw_T := tb_8 (List.mem_of_getElem? (i := 196) (by decide +kernel)) rfl
theorem se_X12_readPlain : Cond.selects RX12 yX12_readPlain yX12_readPlain ∈ lw_T := ab_wT 75 (by decide +kernel) rfl
theorem in_X12_readSum : Cond.instanceMethod yX12_readSum ∈ lw_T := tb_8 (List.mem_of_getElem? (i := 165) (by decide +kernel)) rfl
theorem se_X12_readSum : Cond.selects RX12 yX12_readSum yX12_readSum ∈ lw_T := ab_wT 68 (by decide +kernel) rfl
theorem in_X12_readTerm : Cond.instanceMethod yX12_readTerm ∈ lw_T := tb_8 (List.mem_of_getElem? (i := 169) (by decide +kernel)) rfl
theorem se_X12_readTerm : Cond.selects RX12 yX12_readTerm yX12_readTerm ∈ lw_T := ab_wT 69 (by decide +kernel) rfl
theorem in_X12_readPart : Cond.instanceMethod yX12_readPart ∈ lw_T := tb_8 (List.mem_of_getElem? (i := 173) (by decide +kernel)) rfl
theorem se_X12_readPart : Cond.selects RX12 yX12_readPart yX12_readPart ∈ lw_T := ab_wT 70 (by decide +kernel) rfl
theorem in_X12_reads : Cond.instanceMethod yX12_reads ∈ lw_T := tb_8 (List.mem_of_getElem? (i := 122) (by decide +kernel)) rfl
theorem se_X12_reads : Cond.selects RX12 yX12_reads yX12_reads ∈ lw_T := ab_wT 59 (by decide +kernel) rfl
theorem in_X12_lays : Cond.instanceMethod yX12_lays ∈ lw_T := tb_8 (List.mem_of_getElem? (i := 204) (by decide +kernel)) rfl
theorem se_X12_lays : Cond.selects RX12 yX12_lays yX12_lays ∈ lw_T := ab_wT 77 (by decide +kernel) rfl
theorem in_X12_law : Cond.instanceMethod yX12_law ∈ lw_T := tb_8 (List.mem_of_getElem? (i := 117) (by decide +kernel)) rfl
theorem se_X12_law : Cond.selects RX12 yX12_law yX12_law ∈ lw_T := tb_8 (List.mem_of_getElem? (i := 118) (by decide +kernel)) rfl
theorem in_X12_fault : Cond.instanceMethod yX12_fault ∈ lw_T := tb_8 (List.mem_of_getElem? (i := 207) (by decide +kernel)) rfl
theorem se_X12_fault : Cond.selects RX12 yX12_fault yX12_fault ∈ lw_T := tb_8 (List.mem_of_getElem? (i := 208) (by decide +kernel)) rfl
theorem in_X12_force : Cond.instanceMethod yX12_force ∈ lw_T := tb_8 (List.mem_of_getElem? (i := 211) (by decide +kernel)) rfl
theorem se_X12_force : Cond.selects RX12 yX12_force yX12_force ∈ lw_T := tb_8 (List.mem_of_getElem? (i := 212) (by decide +kernel)) rfl
theorem in_X12_codeAt : Cond.instanceMethod yX12_codeAt ∈ lw_T := tb_9 (List.mem_of_getElem? (i := 15) (by decide +kernel)) rfl
theorem se_X12_codeAt : Cond.selects RX12 yX12_codeAt yX12_codeAt ∈ lw_T := ab_wT 85 (by decide +kernel) rfl
theorem in_X12_passes0 : Cond.instanceMethod yX12_passes0 ∈ lw_T := tb_9 (List.mem_of_getElem? (i := 31) (by decide +kernel)) rfl
theorem se_X12_passes0 : Cond.selects RX12 yX12_passes0 yX12_passes0 ∈ lw_T := ab_wT 89 (by decide +kernel) rfl
theorem in_X12_bounded : Cond.instanceMethod yX12_bounded ∈ lw_T := tb_9 (List.mem_of_getElem? (i := 35) (by decide +kernel)) rfl
theorem se_X12_bounded : Cond.selects RX12 yX12_bounded yX12_bounded ∈ lw_T := ab_wT 90 (by decide +kernel) rfl
theorem in_X12_sumOf : Cond.instanceMethod yX12_sumOf ∈ lw_T := tb_9 (List.mem_of_getElem? (i := 19) (by decide +kernel)) rfl
theorem se_X12_sumOf : Cond.selects RX12 yX12_sumOf yX12_sumOf ∈ lw_T := ab_wT 86 (by decide +kernel) rfl
theorem in_X12_termOf : Cond.instanceMethod yX12_termOf ∈ lw_T := tb_9 (List.mem_of_getElem? (i := 23) (by decide +kernel)) rfl
theorem se_X12_termOf : Cond.selects RX12 yX12_termOf yX12_termOf ∈ lw_T := ab_wT 87 (by decide +kernel) rfl
theorem in_X12_partOf : Cond.instanceMethod yX12_partOf ∈ lw_T := tb_9 (List.mem_of_getElem? (i := 27) (by decide +kernel)) rfl
theorem se_X12_partOf : Cond.selects RX12 yX12_partOf yX12_partOf ∈ lw_T := ab_wT 88 (by decide +kernel) rfl
theorem in_X12_testOf : Cond.instanceMethod yX12_testOf ∈ lw_T := tb_9 (List.mem_of_getElem? (i := 41) (by decide +kernel)) rfl
theorem se_X12_testOf : Cond.selects RX12 yX12_testOf yX12_testOf ∈ lw_T := ab_wT 91 (by decide +kernel) rfl
theorem in_X12_bothOf : Cond.instanceMethod yX12_bothOf ∈ lw_T := tb_9 (List.mem_of_getElem? (i := 45) (by decide +kernel)) rfl
theorem se_X12_bothOf : Cond.selects RX12 yX12_bothOf yX12_bothOf ∈ lw_T := ab_wT 92 (by decide +kernel) rfl
theorem in_X12_plainOf : Cond.instanceMethod yX12_plainOf ∈ lw_T := tb_9 (List.mem_of_getElem? (i := 49) (by decide +kernel)) rfl
theorem se_X12_plainOf : Cond.selects RX12 yX12_plainOf yX12_plainOf ∈ lw_T := ab_wT 93 (by decide +kernel) rfl
theorem in_X12_positiveOf : Cond.instanceMethod yX12_positiveOf ∈ lw_T := tb_9 (List.mem_of_getElem? (i := 53) (by decide +kernel)) rfl
theorem se_X12_positiveOf : Cond.selects RX12 yX12_positiveOf yX12_positiveOf ∈ lw_T := ab_wT 94 (by decide +kernel) rfl
theorem in_X12_tells : Cond.instanceMethod yX12_tells ∈ lw_T := tb_9 (List.mem_of_getElem? (i := 11) (by decide +kernel)) rfl
theorem se_X12_tells : Cond.selects RX12 yX12_tells yX12_tells ∈ lw_T := ab_wT 84 (by decide +kernel) rfl
theorem in_X12_sets : Cond.instanceMethod yX12_sets ∈ lw_T := tb_9 (List.mem_of_getElem? (i := 7) (by decide +kernel)) rfl
theorem se_X12_sets : Cond.selects RX12 yX12_sets yX12_sets ∈ lw_T := ab_wT 83 (by decide +kernel) rfl
theorem in_X12_knows : Cond.instanceMethod yX12_knows ∈ lw_T := tb_9 (List.mem_of_getElem? (i := 3) (by decide +kernel)) rfl
theorem se_X12_knows : Cond.selects RX12 yX12_knows yX12_knows ∈ lw_T := ab_wT 82 (by decide +kernel) rfl
theorem in_X12_doesShun : Cond.instanceMethod yX12_doesShun ∈ lw_T := tb_9 (List.mem_of_getElem? (i := 62) (by decide +kernel)) rfl
theorem se_X12_doesShun : Cond.selects RX12 yX12_doesShun yX12_doesShun ∈ lw_T := ab_wT 96 (by decide +kernel) rfl
theorem in_X12_reachOf : Cond.instanceMethod yX12_reachOf ∈ lw_T := tb_8 (List.mem_of_getElem? (i := 239) (by decide +kernel)) rfl
theorem se_X12_reachOf : Cond.selects RX12 yX12_reachOf yX12_reachOf ∈ lw_T := ab_wT 81 (by decide +kernel) rfl
theorem in_X12_drinkOf : Cond.instanceMethod yX12_drinkOf ∈ lw_T := tb_9 (List.mem_of_getElem? (i := 58) (by decide +kernel)) rfl
theorem se_X12_drinkOf : Cond.selects RX12 yX12_drinkOf yX12_drinkOf ∈ lw_T := ab_wT 95 (by decide +kernel) rfl
theorem in_X12_measures : Cond.instanceMethod yX12_measures ∈ lw_T := tb_8 (List.mem_of_getElem? (i := 224) (by decide +kernel)) rfl
theorem se_X12_measures : Cond.selects RX12 yX12_measures yX12_measures ∈ lw_T := ab_wT 79 (by decide +kernel) rfl
theorem in_X12_shutNow : Cond.instanceMethod yX12_shutNow ∈ lw_T := tb_8 (List.mem_of_getElem? (i := 220) (by decide +kernel)) rfl
theorem se_X12_shutNow : Cond.selects RX12 yX12_shutNow yX12_shutNow ∈ lw_T := ab_wT 78 (by decide +kernel) rfl
theorem in_X12_far : Cond.instanceMethod yX12_far ∈ lw_T := tb_8 (List.mem_of_getElem? (i := 215) (by decide +kernel)) rfl
theorem se_X12_far : Cond.selects RX12 yX12_far yX12_far ∈ lw_T := tb_8 (List.mem_of_getElem? (i := 216) (by decide +kernel)) rfl
theorem in_X12_looks : Cond.instanceMethod yX12_looks ∈ lw_T := tb_8 (List.mem_of_getElem? (i := 235) (by decide +kernel)) rfl
theorem se_X12_looks : Cond.selects RX12 yX12_looks yX12_looks ∈ lw_T := ab_wT 80 (by decide +kernel) rfl
theorem in_X12_oilOf : Cond.instanceMethod yX12_oilOf ∈ lw_T := tb_9 (List.mem_of_getElem? (i := 78) (by decide +kernel)) rfl
theorem se_X12_oilOf : Cond.selects RX12 yX12_oilOf yX12_oilOf ∈ lw_T := ab_wT 99 (by decide +kernel) rfl
theorem in_X12_nights : Cond.instanceMethod yX12_nights ∈ lw_T := tb_9 (List.mem_of_getElem? (i := 74) (by decide +kernel)) rfl
theorem se_X12_nights : Cond.selects RX12 yX12_nights yX12_nights ∈ lw_T := ab_wT 98 (by decide +kernel) rfl
theorem in_X12_burns0 : Cond.instanceMethod yX12_burns0 ∈ lw_T := tb_9 (List.mem_of_getElem? (i := 86) (by decide +kernel)) rfl
theorem se_X12_burns0 : Cond.selects RX12 yX12_burns0 yX12_burns0 ∈ lw_T := ab_wT 101 (by decide +kernel) rfl
theorem in_X12_minuteOf : Cond.instanceMethod yX12_minuteOf ∈ lw_T := tb_9 (List.mem_of_getElem? (i := 82) (by decide +kernel)) rfl
theorem se_X12_minuteOf : Cond.selects RX12 yX12_minuteOf yX12_minuteOf ∈ lw_T := ab_wT 100 (by decide +kernel) rfl
theorem in_X12_shunsLamp : Cond.instanceMethod yX12_shunsLamp ∈ lw_T := tb_9 (List.mem_of_getElem? (i := 94) (by decide +kernel)) rfl
theorem se_X12_shunsLamp : Cond.selects RX12 yX12_shunsLamp yX12_shunsLamp ∈ lw_T := ab_wT 103 (by decide +kernel) rfl
theorem in_X12_isDriven : Cond.instanceMethod yX12_isDriven ∈ lw_T := tb_9 (List.mem_of_getElem? (i := 90) (by decide +kernel)) rfl
theorem se_X12_isDriven : Cond.selects RX12 yX12_isDriven yX12_isDriven ∈ lw_T := ab_wT 102 (by decide +kernel) rfl
theorem in_X12_laysNight : Cond.instanceMethod yX12_laysNight ∈ lw_T := tb_9 (List.mem_of_getElem? (i := 70) (by decide +kernel)) rfl
theorem se_X12_laysNight : Cond.selects RX12 yX12_laysNight yX12_laysNight ∈ lw_T := ab_wT 97 (by decide +kernel) rfl
theorem in_X12_tries : Cond.instanceMethod yX12_tries ∈ lw_T := tb_9 (List.mem_of_getElem? (i := 157) (by decide +kernel)) rfl
theorem se_X12_tries : Cond.selects RX12 yX12_tries yX12_tries ∈ lw_T := ab_wT 112 (by decide +kernel) rfl
theorem in_X12_litOf : Cond.instanceMethod yX12_litOf ∈ lw_T := tb_9 (List.mem_of_getElem? (i := 192) (by decide +kernel)) rfl
theorem se_X12_litOf : Cond.selects RX12 yX12_litOf yX12_litOf ∈ lw_T := ab_wT 117 (by decide +kernel) rfl
theorem in_X12_brightIn : Cond.instanceMethod yX12_brightIn ∈ lw_T := tb_9 (List.mem_of_getElem? (i := 102) (by decide +kernel)) rfl
theorem se_X12_brightIn : Cond.selects RX12 yX12_brightIn yX12_brightIn ∈ lw_T := ab_wT 104 (by decide +kernel) rfl
theorem in_X12_isReached : Cond.instanceMethod yX12_isReached ∈ lw_T := tb_9 (List.mem_of_getElem? (i := 106) (by decide +kernel)) rfl
theorem se_X12_isReached : Cond.selects RX12 yX12_isReached yX12_isReached ∈ lw_T := ab_wT 105 (by decide +kernel) rfl
theorem in_X12_asks : Cond.instanceMethod yX12_asks ∈ lw_T := tb_8 (List.mem_of_getElem? (i := 230) (by decide +kernel)) rfl
theorem se_X12_asks : Cond.selects RX12 yX12_asks yX12_asks ∈ lw_T := tb_8 (List.mem_of_getElem? (i := 231) (by decide +kernel)) rfl
theorem in_X12_burns : Cond.instanceMethod yX12_burns ∈ lw_T := tb_9 (List.mem_of_getElem? (i := 65) (by decide +kernel)) rfl
theorem se_X12_burns : Cond.selects RX12 yX12_burns yX12_burns ∈ lw_T := tb_9 (List.mem_of_getElem? (i := 66) (by decide +kernel)) rfl
theorem in_X12_bright : Cond.instanceMethod yX12_bright ∈ lw_T := tb_9 (List.mem_of_getElem? (i := 97) (by decide +kernel)) rfl
theorem se_X12_bright : Cond.selects RX12 yX12_bright yX12_bright ∈ lw_T := tb_9 (List.mem_of_getElem? (i := 98) (by decide +kernel)) rfl
theorem in_X12_night : Cond.instanceMethod yX12_night ∈ lw_T := tb_9 (List.mem_of_getElem? (i := 109) (by decide +kernel)) rfl
theorem se_X12_night : Cond.selects RX12 yX12_night yX12_night ∈ lw_T := tb_9 (List.mem_of_getElem? (i := 110) (by decide +kernel)) rfl
theorem in_X12_judge : Cond.instanceMethod yX12_judge ∈ lw_T := tb_9 (List.mem_of_getElem? (i := 113) (by decide +kernel)) rfl
theorem se_X12_judge : Cond.selects RX12 yX12_judge yX12_judge ∈ lw_T := tb_9 (List.mem_of_getElem? (i := 114) (by decide +kernel)) rfl
theorem in_X12_stepsBetween : Cond.instanceMethod yX12_stepsBetween ∈ lw_T := tb_9 (List.mem_of_getElem? (i := 133) (by decide +kernel)) rfl
theorem se_X12_stepsBetween : Cond.selects RX12 yX12_stepsBetween yX12_stepsBetween ∈ lw_T := ab_wT 108 (by decide +kernel) rfl
theorem in_X12_viaLamp : Cond.instanceMethod yX12_viaLamp ∈ lw_T := tb_9 (List.mem_of_getElem? (i := 129) (by decide +kernel)) rfl
theorem se_X12_viaLamp : Cond.selects RX12 yX12_viaLamp yX12_viaLamp ∈ lw_T := ab_wT 107 (by decide +kernel) rfl
theorem in_X12_leftFrom : Cond.instanceMethod yX12_leftFrom ∈ lw_T := tb_9 (List.mem_of_getElem? (i := 125) (by decide +kernel)) rfl
theorem se_X12_leftFrom : Cond.selects RX12 yX12_leftFrom yX12_leftFrom ∈ lw_T := ab_wT 106 (by decide +kernel) rfl
theorem in_X12_round : Cond.instanceMethod yX12_round ∈ lw_T := tb_9 (List.mem_of_getElem? (i := 120) (by decide +kernel)) rfl
theorem se_X12_round : Cond.selects RX12 yX12_round yX12_round ∈ lw_T := tb_9 (List.mem_of_getElem? (i := 121) (by decide +kernel)) rfl
theorem in_X12_besides : Cond.instanceMethod yX12_besides ∈ lw_T := tb_9 (List.mem_of_getElem? (i := 141) (by decide +kernel)) rfl
theorem se_X12_besides : Cond.selects RX12 yX12_besides yX12_besides ∈ lw_T := ab_wT 109 (by decide +kernel) rfl
theorem in_X12_walk : Cond.instanceMethod yX12_walk ∈ lw_T := tb_9 (List.mem_of_getElem? (i := 136) (by decide +kernel)) rfl
theorem se_X12_walk : Cond.selects RX12 yX12_walk yX12_walk ∈ lw_T := tb_9 (List.mem_of_getElem? (i := 137) (by decide +kernel)) rfl
theorem in_X12_carries : Cond.instanceMethod yX12_carries ∈ lw_T := tb_9 (List.mem_of_getElem? (i := 153) (by decide +kernel)) rfl
theorem se_X12_carries : Cond.selects RX12 yX12_carries yX12_carries ∈ lw_T := ab_wT 111 (by decide +kernel) rfl
theorem in_X12_triesGo : Cond.instanceMethod yX12_triesGo ∈ lw_T := tb_9 (List.mem_of_getElem? (i := 149) (by decide +kernel)) rfl
theorem se_X12_triesGo : Cond.selects RX12 yX12_triesGo yX12_triesGo ∈ lw_T := ab_wT 110 (by decide +kernel) rfl
theorem in_X12_worst : Cond.instanceMethod yX12_worst ∈ lw_T := tb_9 (List.mem_of_getElem? (i := 144) (by decide +kernel)) rfl
theorem se_X12_worst : Cond.selects RX12 yX12_worst yX12_worst ∈ lw_T := tb_9 (List.mem_of_getElem? (i := 145) (by decide +kernel)) rfl
theorem in_X12_hangs : Cond.instanceMethod yX12_hangs ∈ lw_T := tb_9 (List.mem_of_getElem? (i := 168) (by decide +kernel)) rfl
theorem se_X12_hangs : Cond.selects RX12 yX12_hangs yX12_hangs ∈ lw_T := ab_wT 113 (by decide +kernel) rfl
theorem st_X12_bitsTo : Cond.static yX12_bitsTo ∈ lw_T := tb_9 (List.mem_of_getElem? (i := 164) (by decide +kernel)) rfl
theorem in_X12_hang : Cond.instanceMethod yX12_hang ∈ lw_T := tb_9 (List.mem_of_getElem? (i := 160) (by decide +kernel)) rfl
theorem se_X12_hang : Cond.selects RX12 yX12_hang yX12_hang ∈ lw_T := tb_9 (List.mem_of_getElem? (i := 161) (by decide +kernel)) rfl
theorem in_X12_triesShut : Cond.instanceMethod yX12_triesShut ∈ lw_T := tb_9 (List.mem_of_getElem? (i := 180) (by decide +kernel)) rfl
theorem se_X12_triesShut : Cond.selects RX12 yX12_triesShut yX12_triesShut ∈ lw_T := ab_wT 115 (by decide +kernel) rfl
theorem in_X12_findsShutters : Cond.instanceMethod yX12_findsShutters ∈ lw_T := tb_9 (List.mem_of_getElem? (i := 176) (by decide +kernel)) rfl
theorem se_X12_findsShutters : Cond.selects RX12 yX12_findsShutters yX12_findsShutters ∈ lw_T := ab_wT 114 (by decide +kernel) rfl
theorem in_X12_shutters : Cond.instanceMethod yX12_shutters ∈ lw_T := tb_9 (List.mem_of_getElem? (i := 171) (by decide +kernel)) rfl
theorem se_X12_shutters : Cond.selects RX12 yX12_shutters yX12_shutters ∈ lw_T := tb_9 (List.mem_of_getElem? (i := 172) (by decide +kernel)) rfl
theorem in_X12_wouldBe : Cond.instanceMethod yX12_wouldBe ∈ lw_T := tb_9 (List.mem_of_getElem? (i := 188) (by decide +kernel)) rfl
theorem se_X12_wouldBe : Cond.selects RX12 yX12_wouldBe yX12_wouldBe ∈ lw_T := ab_wT 116 (by decide +kernel) rfl
theorem in_X12_would : Cond.instanceMethod yX12_would ∈ lw_T := tb_9 (List.mem_of_getElem? (i := 183) (by decide +kernel)) rfl
theorem se_X12_would : Cond.selects RX12 yX12_would yX12_would ∈ lw_T := tb_9 (List.mem_of_getElem? (i := 184) (by decide +kernel)) rfl
theorem in_X12_soot : Cond.instanceMethod yX12_soot ∈ lw_T := tb_9 (List.mem_of_getElem? (i := 195) (by decide +kernel)) rfl
theorem se_X12_soot : Cond.selects RX12 yX12_soot yX12_soot ∈ lw_T := tb_9 (List.mem_of_getElem? (i := 196) (by decide +kernel)) rfl
theorem in_X12_sweep : Cond.instanceMethod yX12_sweep ∈ lw_T := tb_9 (List.mem_of_getElem? (i := 199) (by decide +kernel)) rfl
theorem se_X12_sweep : Cond.selects RX12 yX12_sweep yX12_sweep ∈ lw_T := tb_9 (List.mem_of_getElem? (i := 200) (by decide +kernel)) rfl
theorem in_X12_areSo : Cond.instanceMethod yX12_areSo ∈ lw_T := tb_9 (List.mem_of_getElem? (i := 208) (by decide +kernel)) rfl
theorem se_X12_areSo : Cond.selects RX12 yX12_areSo yX12_areSo ∈ lw_T := ab_wT 118 (by decide +kernel) rfl
theorem in_X12_stranger : Cond.instanceMethod yX12_stranger ∈ lw_T := tb_9 (List.mem_of_getElem? (i := 203) (by decide +kernel)) rfl
theorem se_X12_stranger : Cond.selects RX12 yX12_stranger yX12_stranger ∈ lw_T := tb_9 (List.mem_of_getElem? (i := 204) (by decide +kernel)) rfl
theorem in_X12_changed : Cond.instanceMethod yX12_changed ∈ lw_T := tb_9 (List.mem_of_getElem? (i := 211) (by decide +kernel)) rfl
theorem se_X12_changed : Cond.selects RX12 yX12_changed yX12_changed ∈ lw_T := tb_9 (List.mem_of_getElem? (i := 212) (by decide +kernel)) rfl
theorem in_X12_stopped : Cond.instanceMethod yX12_stopped ∈ lw_T := tb_9 (List.mem_of_getElem? (i := 215) (by decide +kernel)) rfl
theorem se_X12_stopped : Cond.selects RX12 yX12_stopped yX12_stopped ∈ lw_T := tb_9 (List.mem_of_getElem? (i := 216) (by decide +kernel)) rfl
theorem in_X12_rounds : Cond.instanceMethod yX12_rounds ∈ lw_T := tb_9 (List.mem_of_getElem? (i := 219) (by decide +kernel)) rfl
theorem se_X12_rounds : Cond.selects RX12 yX12_rounds yX12_rounds ∈ lw_T := tb_9 (List.mem_of_getElem? (i := 220) (by decide +kernel)) rfl
theorem in_X12_goesAlong : Cond.instanceMethod yX12_goesAlong ∈ lw_T := tb_9 (List.mem_of_getElem? (i := 228) (by decide +kernel)) rfl
theorem se_X12_goesAlong : Cond.selects RX12 yX12_goesAlong yX12_goesAlong ∈ lw_T := ab_wT 120 (by decide +kernel) rfl
theorem in_X12_nextSum : Cond.instanceMethod yX12_nextSum ∈ lw_T := tb_9 (List.mem_of_getElem? (i := 232) (by decide +kernel)) rfl
theorem se_X12_nextSum : Cond.selects RX12 yX12_nextSum yX12_nextSum ∈ lw_T := ab_wT 121 (by decide +kernel) rfl
theorem st_X12_small : Cond.static yX12_small ∈ lw_T := tb_9 (List.mem_of_getElem? (i := 235) (by decide +kernel)) rfl
theorem in_X12_runs : Cond.instanceMethod yX12_runs ∈ lw_T := tb_9 (List.mem_of_getElem? (i := 224) (by decide +kernel)) rfl
theorem se_X12_runs : Cond.selects RX12 yX12_runs yX12_runs ∈ lw_T := ab_wT 119 (by decide +kernel) rfl
theorem in_X12_draws : Cond.instanceMethod yX12_draws ∈ lw_T := tb_10 (List.mem_of_getElem? (i := 8) (by decide +kernel)) rfl
theorem se_X12_draws : Cond.selects RX12 yX12_draws yX12_draws ∈ lw_T := ab_wT 123 (by decide +kernel) rfl
theorem in_X12_staggers : Cond.instanceMethod yX12_staggers ∈ lw_T := tb_10 (List.mem_of_getElem? (i := 4) (by decide +kernel)) rfl
theorem se_X12_staggers : Cond.selects RX12 yX12_staggers yX12_staggers ∈ lw_T := ab_wT 122 (by decide +kernel) rfl
theorem in_X12_drunk : Cond.instanceMethod yX12_drunk ∈ lw_T := tb_9 (List.mem_of_getElem? (i := 239) (by decide +kernel)) rfl
theorem se_X12_drunk : Cond.selects RX12 yX12_drunk yX12_drunk ∈ lw_T := tb_10 (List.mem_of_getElem? (i := 0) (by decide +kernel)) rfl
theorem in_X12_drawn : Cond.instanceMethod yX12_drawn ∈ lw_T := tb_10 (List.mem_of_getElem? (i := 14) (by decide +kernel)) rfl
theorem se_X12_drawn : Cond.selects RX12 yX12_drawn yX12_drawn ∈ lw_T := tb_10 (List.mem_of_getElem? (i := 15) (by decide +kernel)) rfl
theorem in_X12_count : Cond.instanceMethod yX12_count ∈ lw_T := tb_10 (List.mem_of_getElem? (i := 18) (by decide +kernel)) rfl
theorem se_X12_count : Cond.selects RX12 yX12_count yX12_count ∈ lw_T := tb_10 (List.mem_of_getElem? (i := 19) (by decide +kernel)) rfl
theorem in_X12_status : Cond.instanceMethod yX12_status ∈ lw_T := tb_10 (List.mem_of_getElem? (i := 22) (by decide +kernel)) rfl
theorem se_X12_status : Cond.selects RX12 yX12_status yX12_status ∈ lw_T := tb_10 (List.mem_of_getElem? (i := 23) (by decide +kernel)) rfl
theorem st_J6_bitCount_0f7a4 : Cond.static yJ6_bitCount_0f7a4 ∈ lw_T := tb_5 (List.mem_of_getElem? (i := 169) (by decide +kernel)) rfl
theorem st_J9_max_7cf53 : Cond.static yJ9_max_7cf53 ∈ lw_T := tb_3 (List.mem_of_getElem? (i := 137) (by decide +kernel)) rfl
theorem st_J9_min_7cf53 : Cond.static yJ9_min_7cf53 ∈ lw_T := tb_3 (List.mem_of_getElem? (i := 134) (by decide +kernel)) rfl
theorem in_J0_length_8abf5 : Cond.instanceMethod yJ0_length_8abf5 ∈ lw_T := tb_4 (List.mem_of_getElem? (i := 111) (by decide +kernel)) rfl
theorem se_J0_length_8abf5 : Cond.selects RJ0 yJ0_length_8abf5 yJ0_length_8abf5 ∈ lw_T := tb_4 (List.mem_of_getElem? (i := 112) (by decide +kernel)) rfl
theorem in_J0_charAt_5068e : Cond.instanceMethod yJ0_charAt_5068e ∈ lw_T := tb_4 (List.mem_of_getElem? (i := 121) (by decide +kernel)) rfl
theorem se_J0_charAt_5068e : Cond.selects RJ0 yJ0_charAt_5068e yJ0_charAt_5068e ∈ lw_T := tb_4 (List.mem_of_getElem? (i := 122) (by decide +kernel)) rfl
theorem in_J0_coder_7d493 : Cond.instanceMethod yJ0_coder_7d493 ∈ lw_T := tb_4 (List.mem_of_getElem? (i := 115) (by decide +kernel)) rfl
theorem se_J0_coder_7d493 : Cond.selects RJ0 yJ0_coder_7d493 yJ0_coder_7d493 ∈ lw_T := tb_4 (List.mem_of_getElem? (i := 116) (by decide +kernel)) rfl
theorem in_J0_isLatin1_aae02 : Cond.instanceMethod yJ0_isLatin1_aae02 ∈ lw_T := tb_4 (List.mem_of_getElem? (i := 125) (by decide +kernel)) rfl
theorem se_J0_isLatin1_aae02 : Cond.selects RJ0 yJ0_isLatin1_aae02 yJ0_isLatin1_aae02 ∈ lw_T := tb_4 (List.mem_of_getElem? (i := 126) (by decide +kernel)) rfl
theorem st_J0_checkIndex_df160 : Cond.static yJ0_checkIndex_df160 ∈ lw_T := tb_4 (List.mem_of_getElem? (i := 132) (by decide +kernel)) rfl
theorem st_J1_charAt_3b067 : Cond.static yJ1_charAt_3b067 ∈ lw_T := tb_4 (List.mem_of_getElem? (i := 129) (by decide +kernel)) rfl
theorem st_J2_getChar_3b067 : Cond.static yJ2_getChar_3b067 ∈ lw_T := tb_4 (List.mem_of_getElem? (i := 150) (by decide +kernel)) rfl
theorem st_J2_length_9d52b : Cond.static yJ2_length_9d52b ∈ lw_T := tb_4 (List.mem_of_getElem? (i := 146) (by decide +kernel)) rfl
theorem st_J2_charAt_3b067 : Cond.static yJ2_charAt_3b067 ∈ lw_T := tb_4 (List.mem_of_getElem? (i := 140) (by decide +kernel)) rfl
theorem st_J2_checkIndex_2214a : Cond.static yJ2_checkIndex_2214a ∈ lw_T := tb_4 (List.mem_of_getElem? (i := 143) (by decide +kernel)) rfl
theorem st_J7_rangeCheck_23922 : Cond.static yJ7_rangeCheck_23922 ∈ lw_T := tb_3 (List.mem_of_getElem? (i := 157) (by decide +kernel)) rfl
theorem st_J7_fill_53178 : Cond.static yJ7_fill_53178 ∈ lw_T := tb_3 (List.mem_of_getElem? (i := 197) (by decide +kernel)) rfl
theorem st_J7_fill_fda19 : Cond.static yJ7_fill_fda19 ∈ lw_T := tb_3 (List.mem_of_getElem? (i := 154) (by decide +kernel)) rfl
theorem st_J7_copyOf_59c91 : Cond.static yJ7_copyOf_59c91 ∈ lw_T := tb_4 (List.mem_of_getElem? (i := 198) (by decide +kernel)) rfl
theorem st_J3_checkIndex_8e157 : Cond.static yJ3_checkIndex_8e157 ∈ lw_T := tb_4 (List.mem_of_getElem? (i := 137) (by decide +kernel)) rfl
theorem l_X11_9 : Cond.methodLink RX11 9 yX10_init ∈ lw_T := tb_1 (List.mem_of_getElem? (i := 32) (by decide +kernel)) rfl
theorem l_X11_46 : Cond.methodLink RX11 46 yX6_init ∈ lw_T := tb_1 (List.mem_of_getElem? (i := 183) (by decide +kernel)) rfl
theorem l_X11_55 : Cond.methodLink RX11 55 yX8_init ∈ lw_T := tb_1 (List.mem_of_getElem? (i := 236) (by decide +kernel)) rfl
theorem l_X11_64 : Cond.methodLink RX11 64 yX3_init ∈ lw_T := tb_2 (List.mem_of_getElem? (i := 37) (by decide +kernel)) rfl
theorem l_X11_73 : Cond.methodLink RX11 73 yX0_init ∈ lw_T := tb_2 (List.mem_of_getElem? (i := 119) (by decide +kernel)) rfl
theorem l_X11_82 : Cond.methodLink RX11 82 yX1_init ∈ lw_T := tb_2 (List.mem_of_getElem? (i := 170) (by decide +kernel)) rfl
theorem l_X11_91 : Cond.methodLink RX11 91 yX4_init ∈ lw_T := tb_2 (List.mem_of_getElem? (i := 239) (by decide +kernel)) rfl
theorem l_X11_119 : Cond.methodLink RX11 119 yX11_isIn ∈ lw_T := tb_3 (List.mem_of_getElem? (i := 122) (by decide +kernel)) rfl
theorem l_X11_123 : Cond.methodLink RX11 123 yX11_refuse ∈ lw_T := tb_3 (List.mem_of_getElem? (i := 125) (by decide +kernel)) rfl
theorem l_X11_127 : Cond.methodLink RX11 127 yX10_isWay ∈ lw_T := tb_3 (List.mem_of_getElem? (i := 129) (by decide +kernel)) rfl
theorem l_X11_134 : Cond.methodLink RX11 134 yX7_isFull ∈ lw_T := tb_3 (List.mem_of_getElem? (i := 143) (by decide +kernel)) rfl
theorem l_X11_140 : Cond.methodLink RX11 140 yJ9_min_7cf53 ∈ lw_T := tb_3 (List.mem_of_getElem? (i := 147) (by decide +kernel)) rfl
theorem l_X11_146 : Cond.methodLink RX11 146 yJ9_max_7cf53 ∈ lw_T := tb_3 (List.mem_of_getElem? (i := 148) (by decide +kernel)) rfl
theorem l_X11_149 : Cond.methodLink RX11 149 yX7_add ∈ lw_T := tb_3 (List.mem_of_getElem? (i := 149) (by decide +kernel)) rfl
theorem l_X11_153 : Cond.methodLink RX11 153 yX11_change ∈ lw_T := tb_3 (List.mem_of_getElem? (i := 159) (by decide +kernel)) rfl
theorem l_X11_156 : Cond.methodLink RX11 156 yX7_has ∈ lw_T := tb_3 (List.mem_of_getElem? (i := 171) (by decide +kernel)) rfl
theorem l_X11_160 : Cond.methodLink RX11 160 yX7_swap ∈ lw_T := tb_3 (List.mem_of_getElem? (i := 175) (by decide +kernel)) rfl
theorem l_X11_163 : Cond.methodLink RX11 163 yX7_get ∈ lw_T := tb_3 (List.mem_of_getElem? (i := 183) (by decide +kernel)) rfl
theorem l_X11_166 : Cond.methodLink RX11 166 yX11_look ∈ lw_T := tb_3 (List.mem_of_getElem? (i := 188) (by decide +kernel)) rfl
theorem l_X11_169 : Cond.methodLink RX11 169 yX6_steps ∈ lw_T := tb_4 (List.mem_of_getElem? (i := 5) (by decide +kernel)) rfl
theorem l_X11_172 : Cond.methodLink RX11 172 yX6_sight ∈ lw_T := tb_4 (List.mem_of_getElem? (i := 10) (by decide +kernel)) rfl
theorem l_X11_178 : Cond.methodLink RX11 178 yX11_isFact ∈ lw_T := tb_4 (List.mem_of_getElem? (i := 22) (by decide +kernel)) rfl
theorem l_X11_181 : Cond.methodLink RX11 181 yX10_tell ∈ lw_T := tb_4 (List.mem_of_getElem? (i := 33) (by decide +kernel)) rfl
theorem l_X11_199 : Cond.methodLink RX11 199 yX11_write ∈ lw_T := tb_4 (List.mem_of_getElem? (i := 67) (by decide +kernel)) rfl
theorem l_X11_203 : Cond.methodLink RX11 203 yX11_takeTape ∈ lw_T := tb_4 (List.mem_of_getElem? (i := 79) (by decide +kernel)) rfl
theorem l_X11_210 : Cond.methodLink RX11 210 yX5_read ∈ lw_T := tb_4 (List.mem_of_getElem? (i := 91) (by decide +kernel)) rfl
theorem l_X11_217 : Cond.methodLink RX11 217 yX10_keepLaw ∈ lw_T := tb_4 (List.mem_of_getElem? (i := 236) (by decide +kernel)) rfl
theorem l_X11_224 : Cond.methodLink RX11 224 yX11_runClause ∈ lw_T := tb_5 (List.mem_of_getElem? (i := 4) (by decide +kernel)) rfl
theorem l_X11_231 : Cond.methodLink RX11 231 yX8_ask ∈ lw_T := tb_5 (List.mem_of_getElem? (i := 39) (by decide +kernel)) rfl
theorem l_X11_235 : Cond.methodLink RX11 235 yX0_relate ∈ lw_T := tb_5 (List.mem_of_getElem? (i := 56) (by decide +kernel)) rfl
theorem l_X11_247 : Cond.methodLink RX11 247 yX11_countBit ∈ lw_T := tb_5 (List.mem_of_getElem? (i := 129) (by decide +kernel)) rfl
theorem l_X11_251 : Cond.methodLink RX11 251 yX0_lightAt ∈ lw_T := tb_5 (List.mem_of_getElem? (i := 136) (by decide +kernel)) rfl
theorem l_X11_254 : Cond.methodLink RX11 254 yX0_firstOut ∈ lw_T := tb_5 (List.mem_of_getElem? (i := 154) (by decide +kernel)) rfl
theorem l_X11_257 : Cond.methodLink RX11 257 yX0_darkErrands ∈ lw_T := tb_5 (List.mem_of_getElem? (i := 162) (by decide +kernel)) rfl
theorem l_X11_260 : Cond.methodLink RX11 260 yX6_findRound ∈ lw_T := tb_5 (List.mem_of_getElem? (i := 178) (by decide +kernel)) rfl
theorem l_X11_269 : Cond.methodLink RX11 269 yX0_findWalk ∈ lw_T := tb_5 (List.mem_of_getElem? (i := 209) (by decide +kernel)) rfl
theorem l_X11_279 : Cond.methodLink RX11 279 yX1_findWorst ∈ lw_T := tb_5 (List.mem_of_getElem? (i := 225) (by decide +kernel)) rfl
theorem l_X11_288 : Cond.methodLink RX11 288 yX11_areBits ∈ lw_T := tb_6 (List.mem_of_getElem? (i := 19) (by decide +kernel)) rfl
theorem l_X11_292 : Cond.methodLink RX11 292 yJ6_bitCount_0f7a4 ∈ lw_T := tb_6 (List.mem_of_getElem? (i := 22) (by decide +kernel)) rfl
theorem l_X11_297 : Cond.methodLink RX11 297 yX4_findHanging ∈ lw_T := tb_6 (List.mem_of_getElem? (i := 23) (by decide +kernel)) rfl
theorem l_X11_309 : Cond.methodLink RX11 309 yX4_findPeace ∈ lw_T := tb_6 (List.mem_of_getElem? (i := 48) (by decide +kernel)) rfl
theorem l_X11_318 : Cond.methodLink RX11 318 yX1_unrest ∈ lw_T := tb_6 (List.mem_of_getElem? (i := 100) (by decide +kernel)) rfl
theorem l_X11_321 : Cond.methodLink RX11 321 yX1_findLiking ∈ lw_T := tb_6 (List.mem_of_getElem? (i := 113) (by decide +kernel)) rfl
theorem l_X11_333 : Cond.methodLink RX11 333 yX1_findStrangers ∈ lw_T := tb_6 (List.mem_of_getElem? (i := 126) (by decide +kernel)) rfl
theorem l_X11_339 : Cond.methodLink RX11 339 yX7_pick ∈ lw_T := tb_6 (List.mem_of_getElem? (i := 148) (by decide +kernel)) rfl
theorem l_X11_342 : Cond.methodLink RX11 342 yX1_findChanges ∈ lw_T := tb_6 (List.mem_of_getElem? (i := 157) (by decide +kernel)) rfl
theorem l_X11_349 : Cond.methodLink RX11 349 yX6_stagger ∈ lw_T := tb_6 (List.mem_of_getElem? (i := 166) (by decide +kernel)) rfl
theorem l_X11_353 : Cond.methodLink RX11 353 yX1_litWith ∈ lw_T := tb_6 (List.mem_of_getElem? (i := 178) (by decide +kernel)) rfl
theorem l_X11_357 : Cond.methodLink RX11 357 yX11_grant ∈ lw_T := tb_3 (List.mem_of_getElem? (i := 163) (by decide +kernel)) rfl
theorem l_X11_360 : Cond.methodLink RX11 360 yX10_become ∈ lw_T := tb_6 (List.mem_of_getElem? (i := 190) (by decide +kernel)) rfl
theorem l_X11_363 : Cond.methodLink RX11 363 yX6_survey ∈ lw_T := tb_3 (List.mem_of_getElem? (i := 192) (by decide +kernel)) rfl
theorem l_X11_366 : Cond.methodLink RX11 366 yX8_heed ∈ lw_T := tb_3 (List.mem_of_getElem? (i := 204) (by decide +kernel)) rfl
theorem l_X11_370 : Cond.methodLink RX11 370 yX3_load ∈ lw_T := tb_3 (List.mem_of_getElem? (i := 218) (by decide +kernel)) rfl
theorem l_X11_373 : Cond.methodLink RX11 373 yX0_forget ∈ lw_T := tb_3 (List.mem_of_getElem? (i := 233) (by decide +kernel)) rfl
theorem l_X11_376 : Cond.methodLink RX11 376 yX1_forget ∈ lw_T := tb_3 (List.mem_of_getElem? (i := 237) (by decide +kernel)) rfl
theorem l_X11_377 : Cond.methodLink RX11 377 yX4_forget ∈ lw_T := tb_4 (List.mem_of_getElem? (i := 1) (by decide +kernel)) rfl
theorem l_X11_378 : Cond.methodLink RX11 378 yX9_part ∈ lw_T := tb_5 (List.mem_of_getElem? (i := 8) (by decide +kernel)) rfl
theorem l_X11_387 : Cond.methodLink RX11 387 yX2_run ∈ lw_T := tb_5 (List.mem_of_getElem? (i := 12) (by decide +kernel)) rfl
theorem l_X11_391 : Cond.methodLink RX11 391 yX11_runOnce ∈ lw_T := tb_5 (List.mem_of_getElem? (i := 18) (by decide +kernel)) rfl
theorem l_X0_57 : Cond.methodLink RX0 57 yJ7_fill_53178 ∈ lw_T := tb_5 (List.mem_of_getElem? (i := 60) (by decide +kernel)) rfl
theorem l_X0_63 : Cond.methodLink RX0 63 yX3_restart ∈ lw_T := tb_5 (List.mem_of_getElem? (i := 61) (by decide +kernel)) rfl
theorem l_X0_68 : Cond.methodLink RX0 68 yX3_step ∈ lw_T := tb_5 (List.mem_of_getElem? (i := 65) (by decide +kernel)) rfl
theorem l_X0_99 : Cond.methodLink RX0 99 yX0_shine ∈ lw_T := tb_5 (List.mem_of_getElem? (i := 140) (by decide +kernel)) rfl
theorem l_X0_112 : Cond.methodLink RX0 112 yX8_ask ∈ lw_T := tb_5 (List.mem_of_getElem? (i := 144) (by decide +kernel)) rfl
theorem l_X0_118 : Cond.methodLink RX0 118 yX6_within ∈ lw_T := tb_5 (List.mem_of_getElem? (i := 145) (by decide +kernel)) rfl
theorem l_X0_127 : Cond.methodLink RX0 127 yX7_get ∈ lw_T := tb_5 (List.mem_of_getElem? (i := 166) (by decide +kernel)) rfl
theorem l_X0_130 : Cond.methodLink RX0 130 yX0_lightAt ∈ lw_T := tb_5 (List.mem_of_getElem? (i := 167) (by decide +kernel)) rfl
theorem l_X0_133 : Cond.methodLink RX0 133 yJ6_bitCount_0f7a4 ∈ lw_T := tb_5 (List.mem_of_getElem? (i := 168) (by decide +kernel)) rfl
theorem l_X0_138 : Cond.methodLink RX0 138 yX6_around ∈ lw_T := tb_5 (List.mem_of_getElem? (i := 213) (by decide +kernel)) rfl
theorem l_X0_141 : Cond.methodLink RX0 141 yX0_layWalk ∈ lw_T := tb_5 (List.mem_of_getElem? (i := 217) (by decide +kernel)) rfl
theorem l_X1_11 : Cond.methodLink RX1 11 yX7_init ∈ lw_T := tb_2 (List.mem_of_getElem? (i := 175) (by decide +kernel)) rfl
theorem l_X1_77 : Cond.methodLink RX1 77 yX3_carry ∈ lw_T := tb_6 (List.mem_of_getElem? (i := 6) (by decide +kernel)) rfl
theorem l_X1_83 : Cond.methodLink RX1 83 yX3_restart ∈ lw_T := tb_5 (List.mem_of_getElem? (i := 229) (by decide +kernel)) rfl
theorem l_X1_86 : Cond.methodLink RX1 86 yX1_litFrom ∈ lw_T := tb_5 (List.mem_of_getElem? (i := 230) (by decide +kernel)) rfl
theorem l_X1_90 : Cond.methodLink RX1 90 yX3_dismiss ∈ lw_T := tb_6 (List.mem_of_getElem? (i := 14) (by decide +kernel)) rfl
theorem l_X1_93 : Cond.methodLink RX1 93 yX3_step ∈ lw_T := tb_5 (List.mem_of_getElem? (i := 234) (by decide +kernel)) rfl
theorem l_X1_97 : Cond.methodLink RX1 97 yJ6_bitCount_0f7a4 ∈ lw_T := tb_5 (List.mem_of_getElem? (i := 235) (by decide +kernel)) rfl
theorem l_X1_102 : Cond.methodLink RX1 102 yX3_keep ∈ lw_T := tb_5 (List.mem_of_getElem? (i := 236) (by decide +kernel)) rfl
theorem l_X1_105 : Cond.methodLink RX1 105 yX1_layTrial ∈ lw_T := tb_6 (List.mem_of_getElem? (i := 1) (by decide +kernel)) rfl
theorem l_X1_109 : Cond.methodLink RX1 109 yX3_recall ∈ lw_T := tb_6 (List.mem_of_getElem? (i := 10) (by decide +kernel)) rfl
theorem l_X1_112 : Cond.methodLink RX1 112 yJ7_fill_fda19 ∈ lw_T := tb_6 (List.mem_of_getElem? (i := 5) (by decide +kernel)) rfl
theorem l_X1_123 : Cond.methodLink RX1 123 yX3_disguise ∈ lw_T := tb_6 (List.mem_of_getElem? (i := 108) (by decide +kernel)) rfl
theorem l_X1_131 : Cond.methodLink RX1 131 yX7_get ∈ lw_T := tb_6 (List.mem_of_getElem? (i := 112) (by decide +kernel)) rfl
theorem l_X1_138 : Cond.methodLink RX1 138 yX1_findLiking ∈ lw_T := tb_6 (List.mem_of_getElem? (i := 104) (by decide +kernel)) rfl
theorem l_X1_142 : Cond.methodLink RX1 142 yX1_gatherSoot ∈ lw_T := tb_6 (List.mem_of_getElem? (i := 130) (by decide +kernel)) rfl
theorem l_X1_145 : Cond.methodLink RX1 145 yX3_invite ∈ lw_T := tb_6 (List.mem_of_getElem? (i := 136) (by decide +kernel)) rfl
theorem l_X1_148 : Cond.methodLink RX1 148 yX1_isSootExplained ∈ lw_T := tb_6 (List.mem_of_getElem? (i := 140) (by decide +kernel)) rfl
theorem l_X1_152 : Cond.methodLink RX1 152 yX7_list ∈ lw_T := tb_6 (List.mem_of_getElem? (i := 144) (by decide +kernel)) rfl
theorem l_X1_155 : Cond.methodLink RX1 155 yJ7_fill_53178 ∈ lw_T := tb_6 (List.mem_of_getElem? (i := 134) (by decide +kernel)) rfl
theorem l_X1_161 : Cond.methodLink RX1 161 yJ9_max_7cf53 ∈ lw_T := tb_6 (List.mem_of_getElem? (i := 135) (by decide +kernel)) rfl
theorem l_X3_86 : Cond.methodLink RX3 86 yX7_get ∈ lw_T := tb_3 (List.mem_of_getElem? (i := 222) (by decide +kernel)) rfl
theorem l_X3_90 : Cond.methodLink RX3 90 yJ7_fill_53178 ∈ lw_T := tb_3 (List.mem_of_getElem? (i := 223) (by decide +kernel)) rfl
theorem l_X3_101 : Cond.methodLink RX3 101 yX3_placeOf ∈ lw_T := tb_3 (List.mem_of_getElem? (i := 224) (by decide +kernel)) rfl
theorem l_X3_104 : Cond.methodLink RX3 104 yX3_dismiss ∈ lw_T := tb_3 (List.mem_of_getElem? (i := 229) (by decide +kernel)) rfl
theorem l_X3_107 : Cond.methodLink RX3 107 yJ9_min_7cf53 ∈ lw_T := tb_3 (List.mem_of_getElem? (i := 228) (by decide +kernel)) rfl
theorem l_X3_118 : Cond.methodLink RX3 118 yX3_prepare ∈ lw_T := tb_5 (List.mem_of_getElem? (i := 69) (by decide +kernel)) rfl
theorem l_X3_122 : Cond.methodLink RX3 122 yX3_stirredLamps ∈ lw_T := tb_5 (List.mem_of_getElem? (i := 77) (by decide +kernel)) rfl
theorem l_X3_126 : Cond.methodLink RX3 126 yX3_movedLanterns ∈ lw_T := tb_5 (List.mem_of_getElem? (i := 82) (by decide +kernel)) rfl
theorem l_X3_130 : Cond.methodLink RX3 130 yX3_fleeing ∈ lw_T := tb_5 (List.mem_of_getElem? (i := 86) (by decide +kernel)) rfl
theorem l_X3_133 : Cond.methodLink RX3 133 yX3_shunnedBy ∈ lw_T := tb_5 (List.mem_of_getElem? (i := 99) (by decide +kernel)) rfl
theorem l_X3_136 : Cond.methodLink RX3 136 yX3_yields ∈ lw_T := tb_5 (List.mem_of_getElem? (i := 111) (by decide +kernel)) rfl
theorem l_X3_140 : Cond.methodLink RX3 140 yX3_finish ∈ lw_T := tb_5 (List.mem_of_getElem? (i := 119) (by decide +kernel)) rfl
theorem l_X3_143 : Cond.methodLink RX3 143 yX3_kindle ∈ lw_T := tb_5 (List.mem_of_getElem? (i := 73) (by decide +kernel)) rfl
theorem l_X3_150 : Cond.methodLink RX3 150 yX8_heeds ∈ lw_T := tb_5 (List.mem_of_getElem? (i := 81) (by decide +kernel)) rfl
theorem l_X3_156 : Cond.methodLink RX3 156 yX8_fearful ∈ lw_T := tb_5 (List.mem_of_getElem? (i := 90) (by decide +kernel)) rfl
theorem l_X3_160 : Cond.methodLink RX3 160 yX6_sight ∈ lw_T := tb_5 (List.mem_of_getElem? (i := 97) (by decide +kernel)) rfl
theorem l_X3_165 : Cond.methodLink RX3 165 yX8_ask ∈ lw_T := tb_5 (List.mem_of_getElem? (i := 98) (by decide +kernel)) rfl
theorem l_X3_169 : Cond.methodLink RX3 169 yX3_olderThan ∈ lw_T := tb_5 (List.mem_of_getElem? (i := 103) (by decide +kernel)) rfl
theorem l_X3_172 : Cond.methodLink RX3 172 yX8_hated ∈ lw_T := tb_5 (List.mem_of_getElem? (i := 107) (by decide +kernel)) rfl
theorem l_X3_175 : Cond.methodLink RX3 175 yX3_cameLater ∈ lw_T := tb_5 (List.mem_of_getElem? (i := 115) (by decide +kernel)) rfl
theorem l_X3_178 : Cond.methodLink RX3 178 yX8_thirst ∈ lw_T := tb_5 (List.mem_of_getElem? (i := 123) (by decide +kernel)) rfl
theorem l_X3_181 : Cond.methodLink RX3 181 yJ9_max_7cf53 ∈ lw_T := tb_5 (List.mem_of_getElem? (i := 127) (by decide +kernel)) rfl
theorem l_X4_66 : Cond.methodLink RX4 66 yJ6_bitCount_0f7a4 ∈ lw_T := tb_6 (List.mem_of_getElem? (i := 27) (by decide +kernel)) rfl
theorem l_X4_72 : Cond.methodLink RX4 72 yJ9_min_7cf53 ∈ lw_T := tb_6 (List.mem_of_getElem? (i := 28) (by decide +kernel)) rfl
theorem l_X4_78 : Cond.methodLink RX4 78 yX4_weighSites ∈ lw_T := tb_6 (List.mem_of_getElem? (i := 29) (by decide +kernel)) rfl
theorem l_X4_82 : Cond.methodLink RX4 82 yX4_lampsOf ∈ lw_T := tb_6 (List.mem_of_getElem? (i := 40) (by decide +kernel)) rfl
theorem l_X4_86 : Cond.methodLink RX4 86 yX4_placeOf ∈ lw_T := tb_6 (List.mem_of_getElem? (i := 34) (by decide +kernel)) rfl
theorem l_X4_89 : Cond.methodLink RX4 89 yJ7_fill_53178 ∈ lw_T := tb_6 (List.mem_of_getElem? (i := 33) (by decide +kernel)) rfl
theorem l_X4_95 : Cond.methodLink RX4 95 yX8_ask ∈ lw_T := tb_6 (List.mem_of_getElem? (i := 37) (by decide +kernel)) rfl
theorem l_X4_101 : Cond.methodLink RX4 101 yX6_within ∈ lw_T := tb_6 (List.mem_of_getElem? (i := 38) (by decide +kernel)) rfl
theorem l_X4_106 : Cond.methodLink RX4 106 yX6_sight ∈ lw_T := tb_6 (List.mem_of_getElem? (i := 39) (by decide +kernel)) rfl
theorem l_X4_109 : Cond.methodLink RX4 109 yX4_gatherQuarrels ∈ lw_T := tb_6 (List.mem_of_getElem? (i := 52) (by decide +kernel)) rfl
theorem l_X4_123 : Cond.methodLink RX4 123 yX7_get ∈ lw_T := tb_6 (List.mem_of_getElem? (i := 77) (by decide +kernel)) rfl
theorem l_X4_126 : Cond.methodLink RX4 126 yX4_isHopeless ∈ lw_T := tb_6 (List.mem_of_getElem? (i := 78) (by decide +kernel)) rfl
theorem l_X4_130 : Cond.methodLink RX4 130 yX4_tryShutters ∈ lw_T := tb_6 (List.mem_of_getElem? (i := 82) (by decide +kernel)) rfl
theorem l_X4_134 : Cond.methodLink RX4 134 yX3_restart ∈ lw_T := tb_6 (List.mem_of_getElem? (i := 56) (by decide +kernel)) rfl
theorem l_X4_139 : Cond.methodLink RX4 139 yX3_prepare ∈ lw_T := tb_6 (List.mem_of_getElem? (i := 57) (by decide +kernel)) rfl
theorem l_X4_143 : Cond.methodLink RX4 143 yX3_stirredLamps ∈ lw_T := tb_6 (List.mem_of_getElem? (i := 58) (by decide +kernel)) rfl
theorem l_X4_147 : Cond.methodLink RX4 147 yX3_movedLanterns ∈ lw_T := tb_6 (List.mem_of_getElem? (i := 59) (by decide +kernel)) rfl
theorem l_X4_156 : Cond.methodLink RX4 156 yX4_learnOfLamps ∈ lw_T := tb_6 (List.mem_of_getElem? (i := 60) (by decide +kernel)) rfl
theorem l_X4_159 : Cond.methodLink RX4 159 yX4_learnOfLanterns ∈ lw_T := tb_6 (List.mem_of_getElem? (i := 72) (by decide +kernel)) rfl
theorem l_X4_162 : Cond.methodLink RX4 162 yX3_finish ∈ lw_T := tb_6 (List.mem_of_getElem? (i := 76) (by decide +kernel)) rfl
theorem l_X4_171 : Cond.methodLink RX4 171 yX4_learn ∈ lw_T := tb_6 (List.mem_of_getElem? (i := 64) (by decide +kernel)) rfl
theorem l_X4_187 : Cond.methodLink RX4 187 yX4_possibleSights ∈ lw_T := tb_6 (List.mem_of_getElem? (i := 68) (by decide +kernel)) rfl
theorem l_X4_191 : Cond.methodLink RX4 191 yX4_waysOf ∈ lw_T := tb_6 (List.mem_of_getElem? (i := 87) (by decide +kernel)) rfl
theorem l_X4_194 : Cond.methodLink RX4 194 yX4_isPeaceful ∈ lw_T := tb_6 (List.mem_of_getElem? (i := 90) (by decide +kernel)) rfl
theorem l_X4_205 : Cond.methodLink RX4 205 yX6_spread ∈ lw_T := tb_6 (List.mem_of_getElem? (i := 95) (by decide +kernel)) rfl
theorem l_X5_46 : Cond.methodLink RX5 46 yX5_split ∈ lw_T := tb_4 (List.mem_of_getElem? (i := 95) (by decide +kernel)) rfl
theorem l_X5_50 : Cond.methodLink RX5 50 yJ7_fill_53178 ∈ lw_T := tb_4 (List.mem_of_getElem? (i := 158) (by decide +kernel)) rfl
theorem l_X5_55 : Cond.methodLink RX5 55 yX5_readLaw ∈ lw_T := tb_4 (List.mem_of_getElem? (i := 159) (by decide +kernel)) rfl
theorem l_X5_59 : Cond.methodLink RX5 59 yX5_readRound ∈ lw_T := tb_4 (List.mem_of_getElem? (i := 175) (by decide +kernel)) rfl
theorem l_X5_62 : Cond.methodLink RX5 62 yX5_readIf ∈ lw_T := tb_4 (List.mem_of_getElem? (i := 179) (by decide +kernel)) rfl
theorem l_X5_67 : Cond.methodLink RX5 67 yJ7_copyOf_59c91 ∈ lw_T := tb_4 (List.mem_of_getElem? (i := 197) (by decide +kernel)) rfl
theorem l_X5_76 : Cond.methodLink RX5 76 yX9_init ∈ lw_T := tb_4 (List.mem_of_getElem? (i := 213) (by decide +kernel)) rfl
theorem l_X5_79 : Cond.methodLink RX5 79 yX5_kindOf ∈ lw_T := tb_4 (List.mem_of_getElem? (i := 99) (by decide +kernel)) rfl
theorem l_X5_83 : Cond.methodLink RX5 83 yX5_numberIn ∈ lw_T := tb_4 (List.mem_of_getElem? (i := 102) (by decide +kernel)) rfl
theorem l_X5_87 : Cond.methodLink RX5 87 yX5_wordIn ∈ lw_T := tb_4 (List.mem_of_getElem? (i := 106) (by decide +kernel)) rfl
theorem l_X5_90 : Cond.methodLink RX5 90 yJ9_min_7cf53 ∈ lw_T := tb_4 (List.mem_of_getElem? (i := 105) (by decide +kernel)) rfl
theorem l_X5_98 : Cond.methodLink RX5 98 yJ0_length_8abf5 ∈ lw_T := tb_4 (List.mem_of_getElem? (i := 110) (by decide +kernel)) rfl
theorem l_X5_104 : Cond.methodLink RX5 104 yJ0_charAt_5068e ∈ lw_T := tb_4 (List.mem_of_getElem? (i := 120) (by decide +kernel)) rfl
theorem l_X5_108 : Cond.methodLink RX5 108 yX5_readSum ∈ lw_T := tb_4 (List.mem_of_getElem? (i := 163) (by decide +kernel)) rfl
theorem l_X5_111 : Cond.methodLink RX5 111 yX5_emit ∈ lw_T := tb_4 (List.mem_of_getElem? (i := 171) (by decide +kernel)) rfl
theorem l_X5_114 : Cond.methodLink RX5 114 yX5_readTest ∈ lw_T := tb_4 (List.mem_of_getElem? (i := 183) (by decide +kernel)) rfl
theorem l_X5_117 : Cond.methodLink RX5 117 yX5_readPlain ∈ lw_T := tb_4 (List.mem_of_getElem? (i := 187) (by decide +kernel)) rfl
theorem l_X5_120 : Cond.methodLink RX5 120 yX5_aim ∈ lw_T := tb_4 (List.mem_of_getElem? (i := 191) (by decide +kernel)) rfl
theorem l_X5_124 : Cond.methodLink RX5 124 yX5_readPart ∈ lw_T := tb_4 (List.mem_of_getElem? (i := 167) (by decide +kernel)) rfl
theorem l_X6_57 : Cond.methodLink RX6 57 yJ7_fill_53178 ∈ lw_T := tb_3 (List.mem_of_getElem? (i := 196) (by decide +kernel)) rfl
theorem l_X6_74 : Cond.methodLink RX6 74 yX7_get ∈ lw_T := tb_3 (List.mem_of_getElem? (i := 199) (by decide +kernel)) rfl
theorem l_X6_78 : Cond.methodLink RX6 78 yX6_spread ∈ lw_T := tb_3 (List.mem_of_getElem? (i := 200) (by decide +kernel)) rfl
theorem l_X6_82 : Cond.methodLink RX6 82 yJ7_fill_fda19 ∈ lw_T := tb_3 (List.mem_of_getElem? (i := 203) (by decide +kernel)) rfl
theorem l_X6_89 : Cond.methodLink RX6 89 yX6_sight ∈ lw_T := tb_5 (List.mem_of_getElem? (i := 149) (by decide +kernel)) rfl
theorem l_X6_98 : Cond.methodLink RX6 98 yJ6_bitCount_0f7a4 ∈ lw_T := tb_6 (List.mem_of_getElem? (i := 173) (by decide +kernel)) rfl
theorem l_X6_104 : Cond.methodLink RX6 104 yX6_leave ∈ lw_T := tb_6 (List.mem_of_getElem? (i := 174) (by decide +kernel)) rfl
theorem l_X6_110 : Cond.methodLink RX6 110 yX6_steps ∈ lw_T := tb_5 (List.mem_of_getElem? (i := 182) (by decide +kernel)) rfl
theorem l_X6_113 : Cond.methodLink RX6 113 yX6_gatherStops ∈ lw_T := tb_5 (List.mem_of_getElem? (i := 183) (by decide +kernel)) rfl
theorem l_X6_116 : Cond.methodLink RX6 116 yX6_fillCosts ∈ lw_T := tb_5 (List.mem_of_getElem? (i := 187) (by decide +kernel)) rfl
theorem l_X6_119 : Cond.methodLink RX6 119 yX6_stopsOf ∈ lw_T := tb_5 (List.mem_of_getElem? (i := 197) (by decide +kernel)) rfl
theorem l_X6_122 : Cond.methodLink RX6 122 yX6_rest ∈ lw_T := tb_5 (List.mem_of_getElem? (i := 191) (by decide +kernel)) rfl
theorem l_X6_125 : Cond.methodLink RX6 125 yX6_layRow ∈ lw_T := tb_5 (List.mem_of_getElem? (i := 201) (by decide +kernel)) rfl
theorem l_X6_130 : Cond.methodLink RX6 130 yJ9_min_7cf53 ∈ lw_T := tb_5 (List.mem_of_getElem? (i := 196) (by decide +kernel)) rfl
theorem l_X7_25 : Cond.methodLink RX7 25 yJ7_fill_fda19 ∈ lw_T := tb_3 (List.mem_of_getElem? (i := 153) (by decide +kernel)) rfl
theorem l_X7_31 : Cond.methodLink RX7 31 yX7_get ∈ lw_T := tb_6 (List.mem_of_getElem? (i := 152) (by decide +kernel)) rfl
theorem l_X8_52 : Cond.methodLink RX8 52 yX10_lawInForce ∈ lw_T := tb_3 (List.mem_of_getElem? (i := 208) (by decide +kernel)) rfl
theorem l_X8_61 : Cond.methodLink RX8 61 yX8_heeds ∈ lw_T := tb_3 (List.mem_of_getElem? (i := 213) (by decide +kernel)) rfl
theorem l_X8_65 : Cond.methodLink RX8 65 yJ7_fill_fda19 ∈ lw_T := tb_3 (List.mem_of_getElem? (i := 217) (by decide +kernel)) rfl
theorem l_X8_85 : Cond.methodLink RX8 85 yX7_get ∈ lw_T := tb_5 (List.mem_of_getElem? (i := 94) (by decide +kernel)) rfl
theorem l_X8_89 : Cond.methodLink RX8 89 yX6_sight ∈ lw_T := tb_5 (List.mem_of_getElem? (i := 95) (by decide +kernel)) rfl
theorem l_X8_94 : Cond.methodLink RX8 94 yX8_ask ∈ lw_T := tb_5 (List.mem_of_getElem? (i := 96) (by decide +kernel)) rfl
theorem l_X8_103 : Cond.methodLink RX8 103 yX8_keyOf ∈ lw_T := tb_5 (List.mem_of_getElem? (i := 43) (by decide +kernel)) rfl
theorem l_X8_109 : Cond.methodLink RX8 109 yX9_part ∈ lw_T := tb_5 (List.mem_of_getElem? (i := 48) (by decide +kernel)) rfl
theorem l_X8_115 : Cond.methodLink RX8 115 yX2_run ∈ lw_T := tb_5 (List.mem_of_getElem? (i := 49) (by decide +kernel)) rfl
theorem l_X8_123 : Cond.methodLink RX8 123 yJ9_min_7cf53 ∈ lw_T := tb_5 (List.mem_of_getElem? (i := 50) (by decide +kernel)) rfl
theorem l_X8_128 : Cond.methodLink RX8 128 yJ9_max_7cf53 ∈ lw_T := tb_5 (List.mem_of_getElem? (i := 51) (by decide +kernel)) rfl
theorem l_X10_11 : Cond.methodLink RX10 11 yX7_init ∈ lw_T := tb_1 (List.mem_of_getElem? (i := 38) (by decide +kernel)) rfl
theorem l_X10_52 : Cond.methodLink RX10 52 yJ9_min_7cf53 ∈ lw_T := tb_3 (List.mem_of_getElem? (i := 133) (by decide +kernel)) rfl
theorem l_X10_58 : Cond.methodLink RX10 58 yJ9_max_7cf53 ∈ lw_T := tb_3 (List.mem_of_getElem? (i := 136) (by decide +kernel)) rfl
theorem l_X10_64 : Cond.methodLink RX10 64 yX7_get ∈ lw_T := tb_3 (List.mem_of_getElem? (i := 139) (by decide +kernel)) rfl
theorem l_X10_71 : Cond.methodLink RX10 71 yX7_has ∈ lw_T := tb_4 (List.mem_of_getElem? (i := 37) (by decide +kernel)) rfl
theorem l_X10_75 : Cond.methodLink RX10 75 yX7_add ∈ lw_T := tb_4 (List.mem_of_getElem? (i := 38) (by decide +kernel)) rfl
theorem l_X10_79 : Cond.methodLink RX10 79 yX7_become ∈ lw_T := tb_6 (List.mem_of_getElem? (i := 194) (by decide +kernel)) rfl
theorem l_L_9 : Cond.methodLink RL 9 yX11_init ∈ lw_T := tb_1 (List.mem_of_getElem? (i := 24) (by decide +kernel)) rfl
theorem l_L_12 : Cond.methodLink RL 12 yX12_init ∈ lw_T := tb_6 (List.mem_of_getElem? (i := 214) (by decide +kernel)) rfl
theorem l_L_13 : Cond.methodLink RL 13 yX11_way ∈ lw_T := tb_3 (List.mem_of_getElem? (i := 118) (by decide +kernel)) rfl
theorem l_L_17 : Cond.methodLink RL 17 yX12_way ∈ lw_T := tb_7 (List.mem_of_getElem? (i := 237) (by decide +kernel)) rfl
theorem l_L_18 : Cond.methodLink RL 18 yX11_shutter ∈ lw_T := tb_3 (List.mem_of_getElem? (i := 167) (by decide +kernel)) rfl
theorem l_L_21 : Cond.methodLink RL 21 yX12_shutter ∈ lw_T := tb_8 (List.mem_of_getElem? (i := 19) (by decide +kernel)) rfl
theorem l_L_22 : Cond.methodLink RL 22 yX11_of ∈ lw_T := tb_3 (List.mem_of_getElem? (i := 179) (by decide +kernel)) rfl
theorem l_L_25 : Cond.methodLink RL 25 yX12_of ∈ lw_T := tb_8 (List.mem_of_getElem? (i := 31) (by decide +kernel)) rfl
theorem l_L_26 : Cond.methodLink RL 26 yX11_far ∈ lw_T := tb_3 (List.mem_of_getElem? (i := 184) (by decide +kernel)) rfl
theorem l_L_30 : Cond.methodLink RL 30 yX12_far ∈ lw_T := tb_8 (List.mem_of_getElem? (i := 214) (by decide +kernel)) rfl
theorem l_L_31 : Cond.methodLink RL 31 yX11_lamp ∈ lw_T := tb_4 (List.mem_of_getElem? (i := 14) (by decide +kernel)) rfl
theorem l_L_34 : Cond.methodLink RL 34 yX12_lamp ∈ lw_T := tb_8 (List.mem_of_getElem? (i := 35) (by decide +kernel)) rfl
theorem l_L_35 : Cond.methodLink RL 35 yX11_put ∈ lw_T := tb_4 (List.mem_of_getElem? (i := 18) (by decide +kernel)) rfl
theorem l_L_38 : Cond.methodLink RL 38 yX12_put ∈ lw_T := tb_8 (List.mem_of_getElem? (i := 45) (by decide +kernel)) rfl
theorem l_L_39 : Cond.methodLink RL 39 yX11_fact ∈ lw_T := tb_4 (List.mem_of_getElem? (i := 25) (by decide +kernel)) rfl
theorem l_L_42 : Cond.methodLink RL 42 yX12_fact ∈ lw_T := tb_8 (List.mem_of_getElem? (i := 53) (by decide +kernel)) rfl
theorem l_L_43 : Cond.methodLink RL 43 yX11_turn ∈ lw_T := tb_4 (List.mem_of_getElem? (i := 29) (by decide +kernel)) rfl
theorem l_L_46 : Cond.methodLink RL 46 yX12_turn ∈ lw_T := tb_8 (List.mem_of_getElem? (i := 57) (by decide +kernel)) rfl
theorem l_L_47 : Cond.methodLink RL 47 yX11_undo ∈ lw_T := tb_4 (List.mem_of_getElem? (i := 39) (by decide +kernel)) rfl
theorem l_L_51 : Cond.methodLink RL 51 yX12_undo ∈ lw_T := tb_8 (List.mem_of_getElem? (i := 68) (by decide +kernel)) rfl
theorem l_L_52 : Cond.methodLink RL 52 yX11_lantern ∈ lw_T := tb_4 (List.mem_of_getElem? (i := 43) (by decide +kernel)) rfl
theorem l_L_55 : Cond.methodLink RL 55 yX12_lantern ∈ lw_T := tb_8 (List.mem_of_getElem? (i := 72) (by decide +kernel)) rfl
theorem l_L_56 : Cond.methodLink RL 56 yX11_go ∈ lw_T := tb_4 (List.mem_of_getElem? (i := 47) (by decide +kernel)) rfl
theorem l_L_59 : Cond.methodLink RL 59 yX12_go ∈ lw_T := tb_8 (List.mem_of_getElem? (i := 76) (by decide +kernel)) rfl
theorem l_L_60 : Cond.methodLink RL 60 yX11_doused ∈ lw_T := tb_4 (List.mem_of_getElem? (i := 51) (by decide +kernel)) rfl
theorem l_L_63 : Cond.methodLink RL 63 yX12_doused ∈ lw_T := tb_8 (List.mem_of_getElem? (i := 84) (by decide +kernel)) rfl
theorem l_L_64 : Cond.methodLink RL 64 yX11_errand ∈ lw_T := tb_4 (List.mem_of_getElem? (i := 55) (by decide +kernel)) rfl
theorem l_L_67 : Cond.methodLink RL 67 yX12_errand ∈ lw_T := tb_8 (List.mem_of_getElem? (i := 92) (by decide +kernel)) rfl
theorem l_L_68 : Cond.methodLink RL 68 yX11_terms ∈ lw_T := tb_4 (List.mem_of_getElem? (i := 59) (by decide +kernel)) rfl
theorem l_L_71 : Cond.methodLink RL 71 yX12_terms ∈ lw_T := tb_8 (List.mem_of_getElem? (i := 96) (by decide +kernel)) rfl
theorem l_L_72 : Cond.methodLink RL 72 yX11_feed ∈ lw_T := tb_4 (List.mem_of_getElem? (i := 63) (by decide +kernel)) rfl
theorem l_L_76 : Cond.methodLink RL 76 yX12_feed ∈ lw_T := tb_8 (List.mem_of_getElem? (i := 108) (by decide +kernel)) rfl
theorem l_L_77 : Cond.methodLink RL 77 yX11_end ∈ lw_T := tb_4 (List.mem_of_getElem? (i := 71) (by decide +kernel)) rfl
theorem l_L_81 : Cond.methodLink RL 81 yX12_end ∈ lw_T := tb_8 (List.mem_of_getElem? (i := 112) (by decide +kernel)) rfl
theorem l_L_82 : Cond.methodLink RL 82 yX11_row ∈ lw_T := tb_4 (List.mem_of_getElem? (i := 75) (by decide +kernel)) rfl
theorem l_L_85 : Cond.methodLink RL 85 yX12_row ∈ lw_T := tb_8 (List.mem_of_getElem? (i := 100) (by decide +kernel)) rfl
theorem l_L_86 : Cond.methodLink RL 86 yX11_ash ∈ lw_T := tb_4 (List.mem_of_getElem? (i := 83) (by decide +kernel)) rfl
theorem l_L_89 : Cond.methodLink RL 89 yX12_ash ∈ lw_T := tb_8 (List.mem_of_getElem? (i := 104) (by decide +kernel)) rfl
theorem l_L_90 : Cond.methodLink RL 90 yX11_law ∈ lw_T := tb_4 (List.mem_of_getElem? (i := 87) (by decide +kernel)) rfl
theorem l_L_93 : Cond.methodLink RL 93 yX12_law ∈ lw_T := tb_8 (List.mem_of_getElem? (i := 116) (by decide +kernel)) rfl
theorem l_L_94 : Cond.methodLink RL 94 yX11_rounds ∈ lw_T := tb_5 (List.mem_of_getElem? (i := 0) (by decide +kernel)) rfl
theorem l_L_97 : Cond.methodLink RL 97 yX12_rounds ∈ lw_T := tb_9 (List.mem_of_getElem? (i := 218) (by decide +kernel)) rfl
theorem l_L_98 : Cond.methodLink RL 98 yX11_fault ∈ lw_T := tb_5 (List.mem_of_getElem? (i := 23) (by decide +kernel)) rfl
theorem l_L_101 : Cond.methodLink RL 101 yX12_fault ∈ lw_T := tb_8 (List.mem_of_getElem? (i := 206) (by decide +kernel)) rfl
theorem l_L_102 : Cond.methodLink RL 102 yX11_stopped ∈ lw_T := tb_5 (List.mem_of_getElem? (i := 27) (by decide +kernel)) rfl
theorem l_L_105 : Cond.methodLink RL 105 yX12_stopped ∈ lw_T := tb_9 (List.mem_of_getElem? (i := 214) (by decide +kernel)) rfl
theorem l_L_106 : Cond.methodLink RL 106 yX11_force ∈ lw_T := tb_5 (List.mem_of_getElem? (i := 31) (by decide +kernel)) rfl
theorem l_L_109 : Cond.methodLink RL 109 yX12_force ∈ lw_T := tb_8 (List.mem_of_getElem? (i := 210) (by decide +kernel)) rfl
theorem l_L_110 : Cond.methodLink RL 110 yX11_asks ∈ lw_T := tb_5 (List.mem_of_getElem? (i := 35) (by decide +kernel)) rfl
theorem l_L_114 : Cond.methodLink RL 114 yX12_asks ∈ lw_T := tb_8 (List.mem_of_getElem? (i := 229) (by decide +kernel)) rfl
theorem l_L_115 : Cond.methodLink RL 115 yX11_burns ∈ lw_T := tb_5 (List.mem_of_getElem? (i := 52) (by decide +kernel)) rfl
theorem l_L_118 : Cond.methodLink RL 118 yX12_burns ∈ lw_T := tb_9 (List.mem_of_getElem? (i := 64) (by decide +kernel)) rfl
theorem l_L_119 : Cond.methodLink RL 119 yX11_bright ∈ lw_T := tb_5 (List.mem_of_getElem? (i := 132) (by decide +kernel)) rfl
theorem l_L_122 : Cond.methodLink RL 122 yX12_bright ∈ lw_T := tb_9 (List.mem_of_getElem? (i := 96) (by decide +kernel)) rfl
theorem l_L_123 : Cond.methodLink RL 123 yX11_night ∈ lw_T := tb_5 (List.mem_of_getElem? (i := 150) (by decide +kernel)) rfl
theorem l_L_126 : Cond.methodLink RL 126 yX12_night ∈ lw_T := tb_9 (List.mem_of_getElem? (i := 108) (by decide +kernel)) rfl
theorem l_L_127 : Cond.methodLink RL 127 yX11_judge ∈ lw_T := tb_5 (List.mem_of_getElem? (i := 158) (by decide +kernel)) rfl
theorem l_L_130 : Cond.methodLink RL 130 yX12_judge ∈ lw_T := tb_9 (List.mem_of_getElem? (i := 112) (by decide +kernel)) rfl
theorem l_L_131 : Cond.methodLink RL 131 yX11_round ∈ lw_T := tb_5 (List.mem_of_getElem? (i := 174) (by decide +kernel)) rfl
theorem l_L_134 : Cond.methodLink RL 134 yX12_round ∈ lw_T := tb_9 (List.mem_of_getElem? (i := 119) (by decide +kernel)) rfl
theorem l_L_135 : Cond.methodLink RL 135 yX11_walk ∈ lw_T := tb_5 (List.mem_of_getElem? (i := 205) (by decide +kernel)) rfl
theorem l_L_138 : Cond.methodLink RL 138 yX12_walk ∈ lw_T := tb_9 (List.mem_of_getElem? (i := 135) (by decide +kernel)) rfl
theorem l_L_139 : Cond.methodLink RL 139 yX11_worst ∈ lw_T := tb_5 (List.mem_of_getElem? (i := 221) (by decide +kernel)) rfl
theorem l_L_142 : Cond.methodLink RL 142 yX12_worst ∈ lw_T := tb_9 (List.mem_of_getElem? (i := 143) (by decide +kernel)) rfl
theorem l_L_143 : Cond.methodLink RL 143 yX11_hang ∈ lw_T := tb_6 (List.mem_of_getElem? (i := 15) (by decide +kernel)) rfl
theorem l_L_146 : Cond.methodLink RL 146 yX12_hang ∈ lw_T := tb_9 (List.mem_of_getElem? (i := 159) (by decide +kernel)) rfl
theorem l_L_147 : Cond.methodLink RL 147 yX11_shutters ∈ lw_T := tb_6 (List.mem_of_getElem? (i := 44) (by decide +kernel)) rfl
theorem l_L_150 : Cond.methodLink RL 150 yX12_shutters ∈ lw_T := tb_9 (List.mem_of_getElem? (i := 170) (by decide +kernel)) rfl
theorem l_L_151 : Cond.methodLink RL 151 yX11_would ∈ lw_T := tb_6 (List.mem_of_getElem? (i := 96) (by decide +kernel)) rfl
theorem l_L_154 : Cond.methodLink RL 154 yX12_would ∈ lw_T := tb_9 (List.mem_of_getElem? (i := 182) (by decide +kernel)) rfl
theorem l_L_155 : Cond.methodLink RL 155 yX11_soot ∈ lw_T := tb_6 (List.mem_of_getElem? (i := 114) (by decide +kernel)) rfl
theorem l_L_158 : Cond.methodLink RL 158 yX12_soot ∈ lw_T := tb_9 (List.mem_of_getElem? (i := 194) (by decide +kernel)) rfl
theorem l_L_159 : Cond.methodLink RL 159 yX11_sweep ∈ lw_T := tb_6 (List.mem_of_getElem? (i := 118) (by decide +kernel)) rfl
theorem l_L_162 : Cond.methodLink RL 162 yX12_sweep ∈ lw_T := tb_9 (List.mem_of_getElem? (i := 198) (by decide +kernel)) rfl
theorem l_L_163 : Cond.methodLink RL 163 yX11_stranger ∈ lw_T := tb_6 (List.mem_of_getElem? (i := 122) (by decide +kernel)) rfl
theorem l_L_166 : Cond.methodLink RL 166 yX12_stranger ∈ lw_T := tb_9 (List.mem_of_getElem? (i := 202) (by decide +kernel)) rfl
theorem l_L_167 : Cond.methodLink RL 167 yX11_changed ∈ lw_T := tb_6 (List.mem_of_getElem? (i := 153) (by decide +kernel)) rfl
theorem l_L_170 : Cond.methodLink RL 170 yX12_changed ∈ lw_T := tb_9 (List.mem_of_getElem? (i := 210) (by decide +kernel)) rfl
theorem l_L_171 : Cond.methodLink RL 171 yX11_drunk ∈ lw_T := tb_6 (List.mem_of_getElem? (i := 161) (by decide +kernel)) rfl
theorem l_L_174 : Cond.methodLink RL 174 yX12_drunk ∈ lw_T := tb_9 (List.mem_of_getElem? (i := 238) (by decide +kernel)) rfl
theorem l_L_175 : Cond.methodLink RL 175 yX11_drawn ∈ lw_T := tb_6 (List.mem_of_getElem? (i := 182) (by decide +kernel)) rfl
theorem l_L_178 : Cond.methodLink RL 178 yX12_drawn ∈ lw_T := tb_10 (List.mem_of_getElem? (i := 13) (by decide +kernel)) rfl
theorem l_L_179 : Cond.methodLink RL 179 yX11_image ∈ lw_T := tb_6 (List.mem_of_getElem? (i := 186) (by decide +kernel)) rfl
theorem l_L_182 : Cond.methodLink RL 182 yX12_image ∈ lw_T := tb_7 (List.mem_of_getElem? (i := 218) (by decide +kernel)) rfl
theorem l_L_183 : Cond.methodLink RL 183 yX11_back ∈ lw_T := tb_6 (List.mem_of_getElem? (i := 200) (by decide +kernel)) rfl
theorem l_L_186 : Cond.methodLink RL 186 yX12_back ∈ lw_T := tb_7 (List.mem_of_getElem? (i := 233) (by decide +kernel)) rfl
theorem l_L_187 : Cond.methodLink RL 187 yX11_count ∈ lw_T := tb_6 (List.mem_of_getElem? (i := 204) (by decide +kernel)) rfl
theorem l_L_190 : Cond.methodLink RL 190 yX12_count ∈ lw_T := tb_10 (List.mem_of_getElem? (i := 17) (by decide +kernel)) rfl
theorem l_L_191 : Cond.methodLink RL 191 yX11_status ∈ lw_T := tb_6 (List.mem_of_getElem? (i := 208) (by decide +kernel)) rfl
theorem l_L_194 : Cond.methodLink RL 194 yX12_status ∈ lw_T := tb_10 (List.mem_of_getElem? (i := 21) (by decide +kernel)) rfl
theorem l_X12_156 : Cond.methodLink RX12 156 yX12_lies ∈ lw_T := tb_7 (List.mem_of_getElem? (i := 222) (by decide +kernel)) rfl
theorem l_X12_160 : Cond.methodLink RX12 160 yX12_refuses ∈ lw_T := tb_7 (List.mem_of_getElem? (i := 225) (by decide +kernel)) rfl
theorem l_X12_164 : Cond.methodLink RX12 164 yX12_good ∈ lw_T := tb_7 (List.mem_of_getElem? (i := 229) (by decide +kernel)) rfl
theorem l_X12_167 : Cond.methodLink RX12 167 yX12_lesser ∈ lw_T := tb_8 (List.mem_of_getElem? (i := 12) (by decide +kernel)) rfl
theorem l_X12_171 : Cond.methodLink RX12 171 yX12_joins ∈ lw_T := tb_8 (List.mem_of_getElem? (i := 8) (by decide +kernel)) rfl
theorem l_X12_174 : Cond.methodLink RX12 174 yX12_isCorner ∈ lw_T := tb_8 (List.mem_of_getElem? (i := 1) (by decide +kernel)) rfl
theorem l_X12_178 : Cond.methodLink RX12 178 yX12_hasWay ∈ lw_T := tb_8 (List.mem_of_getElem? (i := 4) (by decide +kernel)) rfl
theorem l_X12_182 : Cond.methodLink RX12 182 yX12_comesBehind ∈ lw_T := tb_8 (List.mem_of_getElem? (i := 15) (by decide +kernel)) rfl
theorem l_X12_186 : Cond.methodLink RX12 186 yX12_isWay ∈ lw_T := tb_8 (List.mem_of_getElem? (i := 23) (by decide +kernel)) rfl
theorem l_X12_189 : Cond.methodLink RX12 189 yX12_replaces ∈ lw_T := tb_8 (List.mem_of_getElem? (i := 27) (by decide +kernel)) rfl
theorem l_X12_192 : Cond.methodLink RX12 192 yX12_isKind ∈ lw_T := tb_8 (List.mem_of_getElem? (i := 42) (by decide +kernel)) rfl
theorem l_X12_195 : Cond.methodLink RX12 195 yX12_isFact ∈ lw_T := tb_8 (List.mem_of_getElem? (i := 39) (by decide +kernel)) rfl
theorem l_X12_198 : Cond.methodLink RX12 198 yX12_isLamp ∈ lw_T := tb_8 (List.mem_of_getElem? (i := 49) (by decide +kernel)) rfl
theorem l_X12_201 : Cond.methodLink RX12 201 yX12_isMinute ∈ lw_T := tb_8 (List.mem_of_getElem? (i := 65) (by decide +kernel)) rfl
theorem l_X12_204 : Cond.methodLink RX12 204 yX12_tellsSwitch ∈ lw_T := tb_8 (List.mem_of_getElem? (i := 61) (by decide +kernel)) rfl
theorem l_X12_208 : Cond.methodLink RX12 208 yX12_isLantern ∈ lw_T := tb_8 (List.mem_of_getElem? (i := 80) (by decide +kernel)) rfl
theorem l_X12_211 : Cond.methodLink RX12 211 yX12_goAll ∈ lw_T := tb_8 (List.mem_of_getElem? (i := 88) (by decide +kernel)) rfl
theorem l_X12_223 : Cond.methodLink RX12 223 yX12_isSmall ∈ lw_T := tb_8 (List.mem_of_getElem? (i := 128) (by decide +kernel)) rfl
theorem l_X12_226 : Cond.methodLink RX12 226 yX12_isDigit ∈ lw_T := tb_8 (List.mem_of_getElem? (i := 131) (by decide +kernel)) rfl
theorem l_X12_229 : Cond.methodLink RX12 229 yX12_wordOf ∈ lw_T := tb_8 (List.mem_of_getElem? (i := 134) (by decide +kernel)) rfl
theorem l_X12_236 : Cond.methodLink RX12 236 yX12_fine ∈ lw_T := tb_8 (List.mem_of_getElem? (i := 151) (by decide +kernel)) rfl
theorem l_X12_243 : Cond.methodLink RX12 243 yX12_takes0 ∈ lw_T := tb_8 (List.mem_of_getElem? (i := 147) (by decide +kernel)) rfl
theorem l_X12_246 : Cond.methodLink RX12 246 yX12_faults ∈ lw_T := tb_8 (List.mem_of_getElem? (i := 159) (by decide +kernel)) rfl
theorem l_X12_256 : Cond.methodLink RX12 256 yX12_readSum ∈ lw_T := tb_8 (List.mem_of_getElem? (i := 163) (by decide +kernel)) rfl
theorem l_X12_260 : Cond.methodLink RX12 260 yX12_must ∈ lw_T := tb_8 (List.mem_of_getElem? (i := 155) (by decide +kernel)) rfl
theorem l_X12_263 : Cond.methodLink RX12 263 yX12_readTest ∈ lw_T := tb_8 (List.mem_of_getElem? (i := 186) (by decide +kernel)) rfl
theorem l_X12_266 : Cond.methodLink RX12 266 yX12_readRound ∈ lw_T := tb_8 (List.mem_of_getElem? (i := 143) (by decide +kernel)) rfl
theorem l_X12_269 : Cond.methodLink RX12 269 yX12_readClause ∈ lw_T := tb_8 (List.mem_of_getElem? (i := 198) (by decide +kernel)) rfl
theorem l_X12_272 : Cond.methodLink RX12 272 yX12_readBoth ∈ lw_T := tb_8 (List.mem_of_getElem? (i := 190) (by decide +kernel)) rfl
theorem l_X12_275 : Cond.methodLink RX12 275 yX12_readPlain ∈ lw_T := tb_8 (List.mem_of_getElem? (i := 194) (by decide +kernel)) rfl
theorem l_X12_278 : Cond.methodLink RX12 278 yX12_sign ∈ lw_T := tb_8 (List.mem_of_getElem? (i := 175) (by decide +kernel)) rfl
theorem l_X12_282 : Cond.methodLink RX12 282 yX12_readTerm ∈ lw_T := tb_8 (List.mem_of_getElem? (i := 167) (by decide +kernel)) rfl
theorem l_X12_285 : Cond.methodLink RX12 285 yX12_readPart ∈ lw_T := tb_8 (List.mem_of_getElem? (i := 171) (by decide +kernel)) rfl
theorem l_X12_288 : Cond.methodLink RX12 288 yX12_isValue ∈ lw_T := tb_8 (List.mem_of_getElem? (i := 178) (by decide +kernel)) rfl
theorem l_X12_291 : Cond.methodLink RX12 291 yX12_leaf ∈ lw_T := tb_8 (List.mem_of_getElem? (i := 182) (by decide +kernel)) rfl
theorem l_X12_294 : Cond.methodLink RX12 294 yX12_splits ∈ lw_T := tb_8 (List.mem_of_getElem? (i := 124) (by decide +kernel)) rfl
theorem l_X12_297 : Cond.methodLink RX12 297 yX12_readOne ∈ lw_T := tb_8 (List.mem_of_getElem? (i := 139) (by decide +kernel)) rfl
theorem l_X12_300 : Cond.methodLink RX12 300 yX12_reads ∈ lw_T := tb_8 (List.mem_of_getElem? (i := 120) (by decide +kernel)) rfl
theorem l_X12_303 : Cond.methodLink RX12 303 yX12_lays ∈ lw_T := tb_8 (List.mem_of_getElem? (i := 202) (by decide +kernel)) rfl
theorem l_X12_312 : Cond.methodLink RX12 312 yX12_codeAt ∈ lw_T := tb_9 (List.mem_of_getElem? (i := 13) (by decide +kernel)) rfl
theorem l_X12_322 : Cond.methodLink RX12 322 yX12_termOf ∈ lw_T := tb_9 (List.mem_of_getElem? (i := 21) (by decide +kernel)) rfl
theorem l_X12_326 : Cond.methodLink RX12 326 yX12_bounded ∈ lw_T := tb_9 (List.mem_of_getElem? (i := 33) (by decide +kernel)) rfl
theorem l_X12_330 : Cond.methodLink RX12 330 yX12_partOf ∈ lw_T := tb_9 (List.mem_of_getElem? (i := 25) (by decide +kernel)) rfl
theorem l_X12_333 : Cond.methodLink RX12 333 yX12_passes0 ∈ lw_T := tb_9 (List.mem_of_getElem? (i := 29) (by decide +kernel)) rfl
theorem l_X12_336 : Cond.methodLink RX12 336 yX12_sumOf ∈ lw_T := tb_9 (List.mem_of_getElem? (i := 17) (by decide +kernel)) rfl
theorem l_X12_342 : Cond.methodLink RX12 342 yX12_bothOf ∈ lw_T := tb_9 (List.mem_of_getElem? (i := 43) (by decide +kernel)) rfl
theorem l_X12_346 : Cond.methodLink RX12 346 yX12_plainOf ∈ lw_T := tb_9 (List.mem_of_getElem? (i := 47) (by decide +kernel)) rfl
theorem l_X12_349 : Cond.methodLink RX12 349 yX12_positiveOf ∈ lw_T := tb_9 (List.mem_of_getElem? (i := 51) (by decide +kernel)) rfl
theorem l_X12_352 : Cond.methodLink RX12 352 yX12_testOf ∈ lw_T := tb_9 (List.mem_of_getElem? (i := 39) (by decide +kernel)) rfl
theorem l_X12_357 : Cond.methodLink RX12 357 yX12_knows ∈ lw_T := tb_9 (List.mem_of_getElem? (i := 1) (by decide +kernel)) rfl
theorem l_X12_360 : Cond.methodLink RX12 360 yX12_sets ∈ lw_T := tb_9 (List.mem_of_getElem? (i := 5) (by decide +kernel)) rfl
theorem l_X12_364 : Cond.methodLink RX12 364 yX12_tells ∈ lw_T := tb_9 (List.mem_of_getElem? (i := 9) (by decide +kernel)) rfl
theorem l_X12_367 : Cond.methodLink RX12 367 yX12_isIn ∈ lw_T := tb_8 (List.mem_of_getElem? (i := 226) (by decide +kernel)) rfl
theorem l_X12_370 : Cond.methodLink RX12 370 yX12_shutNow ∈ lw_T := tb_8 (List.mem_of_getElem? (i := 218) (by decide +kernel)) rfl
theorem l_X12_374 : Cond.methodLink RX12 374 yX12_measures ∈ lw_T := tb_8 (List.mem_of_getElem? (i := 222) (by decide +kernel)) rfl
theorem l_X12_393 : Cond.methodLink RX12 393 yX12_oilOf ∈ lw_T := tb_9 (List.mem_of_getElem? (i := 76) (by decide +kernel)) rfl
theorem l_X12_396 : Cond.methodLink RX12 396 yX12_minuteOf ∈ lw_T := tb_9 (List.mem_of_getElem? (i := 80) (by decide +kernel)) rfl
theorem l_X12_399 : Cond.methodLink RX12 399 yX12_burns0 ∈ lw_T := tb_9 (List.mem_of_getElem? (i := 84) (by decide +kernel)) rfl
theorem l_X12_403 : Cond.methodLink RX12 403 yX12_isDriven ∈ lw_T := tb_9 (List.mem_of_getElem? (i := 88) (by decide +kernel)) rfl
theorem l_X12_406 : Cond.methodLink RX12 406 yX12_drinkOf ∈ lw_T := tb_9 (List.mem_of_getElem? (i := 56) (by decide +kernel)) rfl
theorem l_X12_409 : Cond.methodLink RX12 409 yX12_doesShun ∈ lw_T := tb_9 (List.mem_of_getElem? (i := 60) (by decide +kernel)) rfl
theorem l_X12_413 : Cond.methodLink RX12 413 yX12_shunsLamp ∈ lw_T := tb_9 (List.mem_of_getElem? (i := 92) (by decide +kernel)) rfl
theorem l_X12_416 : Cond.methodLink RX12 416 yX12_looks ∈ lw_T := tb_8 (List.mem_of_getElem? (i := 233) (by decide +kernel)) rfl
theorem l_X12_419 : Cond.methodLink RX12 419 yX12_nights ∈ lw_T := tb_9 (List.mem_of_getElem? (i := 72) (by decide +kernel)) rfl
theorem l_X12_423 : Cond.methodLink RX12 423 yX12_isReached ∈ lw_T := tb_9 (List.mem_of_getElem? (i := 104) (by decide +kernel)) rfl
theorem l_X12_427 : Cond.methodLink RX12 427 yX12_reachOf ∈ lw_T := tb_8 (List.mem_of_getElem? (i := 237) (by decide +kernel)) rfl
theorem l_X12_430 : Cond.methodLink RX12 430 yX12_laysNight ∈ lw_T := tb_9 (List.mem_of_getElem? (i := 68) (by decide +kernel)) rfl
theorem l_X12_433 : Cond.methodLink RX12 433 yX12_brightIn ∈ lw_T := tb_9 (List.mem_of_getElem? (i := 100) (by decide +kernel)) rfl
theorem l_X12_436 : Cond.methodLink RX12 436 yX12_ones ∈ lw_T := tb_9 (List.mem_of_getElem? (i := 116) (by decide +kernel)) rfl
theorem l_X12_439 : Cond.methodLink RX12 439 yX12_stepsBetween ∈ lw_T := tb_9 (List.mem_of_getElem? (i := 131) (by decide +kernel)) rfl
theorem l_X12_442 : Cond.methodLink RX12 442 yX12_viaLamp ∈ lw_T := tb_9 (List.mem_of_getElem? (i := 127) (by decide +kernel)) rfl
theorem l_X12_445 : Cond.methodLink RX12 445 yX12_leftFrom ∈ lw_T := tb_9 (List.mem_of_getElem? (i := 123) (by decide +kernel)) rfl
theorem l_X12_448 : Cond.methodLink RX12 448 yX12_besides ∈ lw_T := tb_9 (List.mem_of_getElem? (i := 139) (by decide +kernel)) rfl
theorem l_X12_451 : Cond.methodLink RX12 451 yX12_carries ∈ lw_T := tb_9 (List.mem_of_getElem? (i := 151) (by decide +kernel)) rfl
theorem l_X12_455 : Cond.methodLink RX12 455 yX12_tries ∈ lw_T := tb_9 (List.mem_of_getElem? (i := 155) (by decide +kernel)) rfl
theorem l_X12_461 : Cond.methodLink RX12 461 yX12_triesGo ∈ lw_T := tb_9 (List.mem_of_getElem? (i := 147) (by decide +kernel)) rfl
theorem l_X12_464 : Cond.methodLink RX12 464 yX12_bitsTo ∈ lw_T := tb_9 (List.mem_of_getElem? (i := 163) (by decide +kernel)) rfl
theorem l_X12_468 : Cond.methodLink RX12 468 yX12_hangs ∈ lw_T := tb_9 (List.mem_of_getElem? (i := 166) (by decide +kernel)) rfl
theorem l_X12_477 : Cond.methodLink RX12 477 yX12_triesShut ∈ lw_T := tb_9 (List.mem_of_getElem? (i := 178) (by decide +kernel)) rfl
theorem l_X12_480 : Cond.methodLink RX12 480 yX12_findsShutters ∈ lw_T := tb_9 (List.mem_of_getElem? (i := 174) (by decide +kernel)) rfl
theorem l_X12_486 : Cond.methodLink RX12 486 yX12_litOf ∈ lw_T := tb_9 (List.mem_of_getElem? (i := 190) (by decide +kernel)) rfl
theorem l_X12_495 : Cond.methodLink RX12 495 yX12_wouldBe ∈ lw_T := tb_9 (List.mem_of_getElem? (i := 186) (by decide +kernel)) rfl
theorem l_X12_498 : Cond.methodLink RX12 498 yX12_areSo ∈ lw_T := tb_9 (List.mem_of_getElem? (i := 206) (by decide +kernel)) rfl
theorem l_X12_510 : Cond.methodLink RX12 510 yX12_runs ∈ lw_T := tb_9 (List.mem_of_getElem? (i := 222) (by decide +kernel)) rfl
theorem l_X12_519 : Cond.methodLink RX12 519 yX12_nextSum ∈ lw_T := tb_9 (List.mem_of_getElem? (i := 230) (by decide +kernel)) rfl
theorem l_X12_534 : Cond.methodLink RX12 534 yX12_goesAlong ∈ lw_T := tb_9 (List.mem_of_getElem? (i := 226) (by decide +kernel)) rfl
theorem l_X12_538 : Cond.methodLink RX12 538 yX12_small ∈ lw_T := tb_9 (List.mem_of_getElem? (i := 234) (by decide +kernel)) rfl
theorem l_X12_551 : Cond.methodLink RX12 551 yX12_draws ∈ lw_T := tb_10 (List.mem_of_getElem? (i := 6) (by decide +kernel)) rfl
theorem l_X12_557 : Cond.methodLink RX12 557 yX12_staggers ∈ lw_T := tb_10 (List.mem_of_getElem? (i := 2) (by decide +kernel)) rfl
theorem l_J0_335 : Cond.methodLink RJ0 335 yJ0_coder_7d493 ∈ lw_T := tb_4 (List.mem_of_getElem? (i := 114) (by decide +kernel)) rfl
theorem l_J0_492 : Cond.methodLink RJ0 492 yJ0_isLatin1_aae02 ∈ lw_T := tb_4 (List.mem_of_getElem? (i := 124) (by decide +kernel)) rfl
theorem l_J0_495 : Cond.methodLink RJ0 495 yJ1_charAt_3b067 ∈ lw_T := tb_4 (List.mem_of_getElem? (i := 128) (by decide +kernel)) rfl
theorem l_J0_498 : Cond.methodLink RJ0 498 yJ2_charAt_3b067 ∈ lw_T := tb_4 (List.mem_of_getElem? (i := 139) (by decide +kernel)) rfl
theorem l_J0_1059 : Cond.methodLink RJ0 1059 yJ3_checkIndex_8e157 ∈ lw_T := tb_4 (List.mem_of_getElem? (i := 136) (by decide +kernel)) rfl
theorem l_J1_9 : Cond.methodLink RJ1 9 yJ0_checkIndex_df160 ∈ lw_T := tb_4 (List.mem_of_getElem? (i := 131) (by decide +kernel)) rfl
theorem l_J2_48 : Cond.methodLink RJ2 48 yJ2_length_9d52b ∈ lw_T := tb_4 (List.mem_of_getElem? (i := 145) (by decide +kernel)) rfl
theorem l_J2_67 : Cond.methodLink RJ2 67 yJ2_checkIndex_2214a ∈ lw_T := tb_4 (List.mem_of_getElem? (i := 142) (by decide +kernel)) rfl
theorem l_J2_71 : Cond.methodLink RJ2 71 yJ2_getChar_3b067 ∈ lw_T := tb_4 (List.mem_of_getElem? (i := 149) (by decide +kernel)) rfl
theorem l_J2_414 : Cond.methodLink RJ2 414 yJ0_checkIndex_df160 ∈ lw_T := tb_4 (List.mem_of_getElem? (i := 148) (by decide +kernel)) rfl
theorem l_J7_13 : Cond.methodLink RJ7 13 yJ7_rangeCheck_23922 ∈ lw_T := tb_3 (List.mem_of_getElem? (i := 156) (by decide +kernel)) rfl
theorem l_J7_304 : Cond.methodLink RJ7 304 yJ9_min_7cf53 ∈ lw_T := tb_4 (List.mem_of_getElem? (i := 207) (by decide +kernel)) rfl
