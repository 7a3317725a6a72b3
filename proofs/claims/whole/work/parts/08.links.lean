/-! the methods' and links' words (laid by a program out of the tables) -/
set_option maxRecDepth 20000 in
theorem inT1 {w : Cond} (h : w ∈ tables_1_1) : w ∈ lw_tbl := List.mem_append_right _ (by unfold tables_1; exact List.mem_append_left _ h)
set_option maxRecDepth 20000 in
theorem inT2 {w : Cond} (h : w ∈ tables_1_2) : w ∈ lw_tbl := List.mem_append_right _ (by unfold tables_1; exact List.mem_append_right _ (List.mem_append_left _ h))
set_option maxRecDepth 20000 in
theorem inT3 {w : Cond} (h : w ∈ tables_1_3) : w ∈ lw_tbl := List.mem_append_right _ (by unfold tables_1; exact List.mem_append_right _ (List.mem_append_right _ (List.mem_append_left _ h)))
set_option maxRecDepth 20000 in
theorem inT4 {w : Cond} (h : w ∈ tables_1_4) : w ∈ lw_tbl := List.mem_append_right _ (by unfold tables_1; exact List.mem_append_right _ (List.mem_append_right _ (List.mem_append_right _ (List.mem_append_left _ h))))
set_option maxRecDepth 20000 in
theorem inT5 {w : Cond} (h : w ∈ tables_1_5) : w ∈ lw_tbl := List.mem_append_right _ (by unfold tables_1; exact List.mem_append_right _ (List.mem_append_right _ (List.mem_append_right _ (List.mem_append_right _ (List.mem_append_left _ h)))))
set_option maxRecDepth 20000 in
theorem inT6 {w : Cond} (h : w ∈ tables_1_6) : w ∈ lw_tbl := List.mem_append_right _ (by unfold tables_1; exact List.mem_append_right _ (List.mem_append_right _ (List.mem_append_right _ (List.mem_append_right _ (List.mem_append_right _ (List.mem_append_left _ h))))))
set_option maxRecDepth 20000 in
theorem inT7 {w : Cond} (h : w ∈ tables_1_7) : w ∈ lw_tbl := List.mem_append_right _ (by unfold tables_1; exact List.mem_append_right _ (List.mem_append_right _ (List.mem_append_right _ (List.mem_append_right _ (List.mem_append_right _ (List.mem_append_right _ (List.mem_append_left _ h)))))))
set_option maxRecDepth 20000 in
theorem inT8 {w : Cond} (h : w ∈ tables_1_8) : w ∈ lw_tbl := List.mem_append_right _ (by unfold tables_1; exact List.mem_append_right _ (List.mem_append_right _ (List.mem_append_right _ (List.mem_append_right _ (List.mem_append_right _ (List.mem_append_right _ (List.mem_append_right _ (h))))))))
set_option maxRecDepth 20000 in
theorem inTp {y : MethodName} {n : Nat} (h : (y, n) ∈ lw_privs) : Cond.selects y.cls y y ∈ lw_tbl := List.mem_append_left _ (List.mem_map.mpr ⟨(y, n), h, rfl⟩)
set_option maxRecDepth 20000 in
theorem mk_X0_init : MOk yX0_init cX0_init 1 none 0 := ⟨lw_good_of (inT1 (List.mem_of_getElem? (i := 50) rfl)) rfl, lw_good_of (inT1 (List.mem_of_getElem? (i := 3) (by decide +kernel))) (by decide +kernel), by decide +kernel, by decide +kernel⟩
set_option maxRecDepth 20000 in
theorem mk_X0_hasBasin : MOk yX0_hasBasin cX0_hasBasin 2 (some .boolean) 1 := ⟨lw_good_of (inT2 (List.mem_of_getElem? (i := 135) rfl)) rfl, lw_good_of (inT1 (List.mem_of_getElem? (i := 3) (by decide +kernel))) (by decide +kernel), by decide +kernel, by decide +kernel⟩
set_option maxRecDepth 20000 in
theorem vo_X0_hasBasin : VOk yX0_hasBasin cX0_hasBasin 2 (some .boolean) 1 0 := ⟨mk_X0_hasBasin, lw_good_of (inT2 (List.mem_of_getElem? (i := 133) (by decide +kernel))) (by decide +kernel), lw_good_of (inT2 (List.mem_of_getElem? (i := 134) (by decide +kernel))) (by decide +kernel), by decide +kernel, by decide⟩
set_option maxRecDepth 20000 in
theorem mk_X0_hasSluice : MOk yX0_hasSluice cX0_hasSluice 2 (some .boolean) 1 := ⟨lw_good_of (inT3 (List.mem_of_getElem? (i := 89) rfl)) rfl, lw_good_of (inT1 (List.mem_of_getElem? (i := 3) (by decide +kernel))) (by decide +kernel), by decide +kernel, by decide +kernel⟩
set_option maxRecDepth 20000 in
theorem vo_X0_hasSluice : VOk yX0_hasSluice cX0_hasSluice 2 (some .boolean) 1 0 := ⟨mk_X0_hasSluice, lw_good_of (inT3 (List.mem_of_getElem? (i := 87) (by decide +kernel))) (by decide +kernel), lw_good_of (inT3 (List.mem_of_getElem? (i := 88) (by decide +kernel))) (by decide +kernel), by decide +kernel, by decide⟩
set_option maxRecDepth 20000 in
theorem mk_X0_addBasin : MOk yX0_addBasin cX0_addBasin 2 none 1 := ⟨lw_good_of (inT2 (List.mem_of_getElem? (i := 150) rfl)) rfl, lw_good_of (inT1 (List.mem_of_getElem? (i := 3) (by decide +kernel))) (by decide +kernel), by decide +kernel, by decide +kernel⟩
set_option maxRecDepth 20000 in
theorem vo_X0_addBasin : VOk yX0_addBasin cX0_addBasin 2 none 1 0 := ⟨mk_X0_addBasin, lw_good_of (inT2 (List.mem_of_getElem? (i := 148) (by decide +kernel))) (by decide +kernel), lw_good_of (inT2 (List.mem_of_getElem? (i := 149) (by decide +kernel))) (by decide +kernel), by decide +kernel, by decide⟩
set_option maxRecDepth 20000 in
theorem mk_X0_addSluice : MOk yX0_addSluice cX0_addSluice 4 none 3 := ⟨lw_good_of (inT2 (List.mem_of_getElem? (i := 170) rfl)) rfl, lw_good_of (inT1 (List.mem_of_getElem? (i := 3) (by decide +kernel))) (by decide +kernel), by decide +kernel, by decide +kernel⟩
set_option maxRecDepth 20000 in
theorem vo_X0_addSluice : VOk yX0_addSluice cX0_addSluice 4 none 3 0 := ⟨mk_X0_addSluice, lw_good_of (inT2 (List.mem_of_getElem? (i := 168) (by decide +kernel))) (by decide +kernel), lw_good_of (inT2 (List.mem_of_getElem? (i := 169) (by decide +kernel))) (by decide +kernel), by decide +kernel, by decide⟩
set_option maxRecDepth 20000 in
theorem mk_X0_leaks : MOk yX0_leaks cX0_leaks 2 (some .boolean) 1 := ⟨lw_good_of (inT3 (List.mem_of_getElem? (i := 69) rfl)) rfl, lw_good_of (inT1 (List.mem_of_getElem? (i := 3) (by decide +kernel))) (by decide +kernel), by decide +kernel, by decide +kernel⟩
set_option maxRecDepth 20000 in
theorem vo_X0_leaks : VOk yX0_leaks cX0_leaks 2 (some .boolean) 1 0 := ⟨mk_X0_leaks, lw_good_of (inT3 (List.mem_of_getElem? (i := 67) (by decide +kernel))) (by decide +kernel), lw_good_of (inT3 (List.mem_of_getElem? (i := 68) (by decide +kernel))) (by decide +kernel), by decide +kernel, by decide⟩
set_option maxRecDepth 20000 in
theorem mk_X0_sluicesFrom : MOk yX0_sluicesFrom cX0_sluicesFrom 4 (some .int) 1 := ⟨lw_good_of (inT5 (List.mem_of_getElem? (i := 92) rfl)) rfl, lw_good_of (inT1 (List.mem_of_getElem? (i := 3) (by decide +kernel))) (by decide +kernel), by decide +kernel, by decide +kernel⟩
set_option maxRecDepth 20000 in
theorem vo_X0_sluicesFrom : VOk yX0_sluicesFrom cX0_sluicesFrom 4 (some .int) 1 0 := ⟨mk_X0_sluicesFrom, lw_good_of (inT5 (List.mem_of_getElem? (i := 90) (by decide +kernel))) (by decide +kernel), lw_good_of (inT5 (List.mem_of_getElem? (i := 91) (by decide +kernel))) (by decide +kernel), by decide +kernel, by decide⟩
set_option maxRecDepth 20000 in
theorem mk_X0_sluicesTo : MOk yX0_sluicesTo cX0_sluicesTo 4 (some .int) 1 := ⟨lw_good_of (inT5 (List.mem_of_getElem? (i := 96) rfl)) rfl, lw_good_of (inT1 (List.mem_of_getElem? (i := 3) (by decide +kernel))) (by decide +kernel), by decide +kernel, by decide +kernel⟩
set_option maxRecDepth 20000 in
theorem vo_X0_sluicesTo : VOk yX0_sluicesTo cX0_sluicesTo 4 (some .int) 1 0 := ⟨mk_X0_sluicesTo, lw_good_of (inT5 (List.mem_of_getElem? (i := 94) (by decide +kernel))) (by decide +kernel), lw_good_of (inT5 (List.mem_of_getElem? (i := 95) (by decide +kernel))) (by decide +kernel), by decide +kernel, by decide⟩
set_option maxRecDepth 20000 in
theorem mk_X0_begin : MOk yX0_begin cX0_begin 2 none 0 := ⟨lw_good_of (inT3 (List.mem_of_getElem? (i := 37) rfl)) rfl, lw_good_of (inT1 (List.mem_of_getElem? (i := 3) (by decide +kernel))) (by decide +kernel), by decide +kernel, by decide +kernel⟩
set_option maxRecDepth 20000 in
theorem vo_X0_begin : VOk yX0_begin cX0_begin 2 none 0 0 := ⟨mk_X0_begin, lw_good_of (inT3 (List.mem_of_getElem? (i := 35) (by decide +kernel))) (by decide +kernel), lw_good_of (inT3 (List.mem_of_getElem? (i := 36) (by decide +kernel))) (by decide +kernel), by decide +kernel, by decide⟩
set_option maxRecDepth 20000 in
theorem mk_X0_run : MOk yX0_run cX0_run 5 none 3 := ⟨lw_good_of (inT3 (List.mem_of_getElem? (i := 173) rfl)) rfl, lw_good_of (inT1 (List.mem_of_getElem? (i := 3) (by decide +kernel))) (by decide +kernel), by decide +kernel, by decide +kernel⟩
set_option maxRecDepth 20000 in
theorem vo_X0_run : VOk yX0_run cX0_run 5 none 3 0 := ⟨mk_X0_run, lw_good_of (inT3 (List.mem_of_getElem? (i := 171) (by decide +kernel))) (by decide +kernel), lw_good_of (inT3 (List.mem_of_getElem? (i := 172) (by decide +kernel))) (by decide +kernel), by decide +kernel, by decide⟩
set_option maxRecDepth 20000 in
theorem mk_X0_pass : MOk yX0_pass cX0_pass 5 none 2 := ⟨lw_good_of (inT3 (List.mem_of_getElem? (i := 41) rfl)) rfl, lw_good_of (inT1 (List.mem_of_getElem? (i := 3) (by decide +kernel))) (by decide +kernel), by decide +kernel, by decide +kernel⟩
set_option maxRecDepth 20000 in
theorem vo_X0_pass : VOk yX0_pass cX0_pass 5 none 2 0 := ⟨mk_X0_pass, lw_good_of (inT3 (List.mem_of_getElem? (i := 39) (by decide +kernel))) (by decide +kernel), lw_good_of (inT3 (List.mem_of_getElem? (i := 40) (by decide +kernel))) (by decide +kernel), by decide +kernel, by decide⟩
set_option maxRecDepth 20000 in
theorem mk_X0_opens : MOk yX0_opens cX0_opens 6 (some .boolean) 2 := ⟨lw_good_of (inT3 (List.mem_of_getElem? (i := 45) rfl)) rfl, lw_good_of (inT1 (List.mem_of_getElem? (i := 3) (by decide +kernel))) (by decide +kernel), by decide +kernel, by decide +kernel⟩
set_option maxRecDepth 20000 in
theorem vo_X0_opens : VOk yX0_opens cX0_opens 6 (some .boolean) 2 0 := ⟨mk_X0_opens, lw_good_of (inT3 (List.mem_of_getElem? (i := 44) (by decide +kernel))) (by decide +kernel), lw_good_of (inTp (n := 10) (List.mem_of_getElem? (i := 17) (by decide +kernel))) (by decide +kernel), by decide +kernel, by decide⟩
set_option maxRecDepth 20000 in
theorem mk_X0_leak : MOk yX0_leak cX0_leak 3 none 1 := ⟨lw_good_of (inT3 (List.mem_of_getElem? (i := 65) rfl)) rfl, lw_good_of (inT1 (List.mem_of_getElem? (i := 3) (by decide +kernel))) (by decide +kernel), by decide +kernel, by decide +kernel⟩
set_option maxRecDepth 20000 in
theorem vo_X0_leak : VOk yX0_leak cX0_leak 3 none 1 0 := ⟨mk_X0_leak, lw_good_of (inT3 (List.mem_of_getElem? (i := 64) (by decide +kernel))) (by decide +kernel), lw_good_of (inTp (n := 10) (List.mem_of_getElem? (i := 18) (by decide +kernel))) (by decide +kernel), by decide +kernel, by decide⟩
set_option maxRecDepth 20000 in
theorem mk_X0_flow : MOk yX0_flow cX0_flow 7 (some .int) 3 := ⟨lw_good_of (inT3 (List.mem_of_getElem? (i := 49) rfl)) rfl, lw_good_of (inT1 (List.mem_of_getElem? (i := 3) (by decide +kernel))) (by decide +kernel), by decide +kernel, by decide +kernel⟩
set_option maxRecDepth 20000 in
theorem vo_X0_flow : VOk yX0_flow cX0_flow 7 (some .int) 3 0 := ⟨mk_X0_flow, lw_good_of (inT3 (List.mem_of_getElem? (i := 47) (by decide +kernel))) (by decide +kernel), lw_good_of (inT3 (List.mem_of_getElem? (i := 48) (by decide +kernel))) (by decide +kernel), by decide +kernel, by decide⟩
set_option maxRecDepth 20000 in
theorem mk_X0_fill : MOk yX0_fill cX0_fill 4 (some .boolean) 3 := ⟨lw_good_of (inT3 (List.mem_of_getElem? (i := 77) rfl)) rfl, lw_good_of (inT1 (List.mem_of_getElem? (i := 3) (by decide +kernel))) (by decide +kernel), by decide +kernel, by decide +kernel⟩
set_option maxRecDepth 20000 in
theorem vo_X0_fill : VOk yX0_fill cX0_fill 4 (some .boolean) 3 0 := ⟨mk_X0_fill, lw_good_of (inT3 (List.mem_of_getElem? (i := 75) (by decide +kernel))) (by decide +kernel), lw_good_of (inT3 (List.mem_of_getElem? (i := 76) (by decide +kernel))) (by decide +kernel), by decide +kernel, by decide⟩
set_option maxRecDepth 20000 in
theorem mk_X0_carry : MOk yX0_carry cX0_carry 5 (some .boolean) 2 := ⟨lw_good_of (inT3 (List.mem_of_getElem? (i := 93) rfl)) rfl, lw_good_of (inT1 (List.mem_of_getElem? (i := 3) (by decide +kernel))) (by decide +kernel), by decide +kernel, by decide +kernel⟩
set_option maxRecDepth 20000 in
theorem vo_X0_carry : VOk yX0_carry cX0_carry 5 (some .boolean) 2 0 := ⟨mk_X0_carry, lw_good_of (inT3 (List.mem_of_getElem? (i := 91) (by decide +kernel))) (by decide +kernel), lw_good_of (inT3 (List.mem_of_getElem? (i := 92) (by decide +kernel))) (by decide +kernel), by decide +kernel, by decide⟩
set_option maxRecDepth 20000 in
theorem mk_X1_fillWon : MOk yX1_fillWon cX1_fillWon 5 none 3 := ⟨lw_good_of (inT4 (List.mem_of_getElem? (i := 182) rfl)) rfl, lw_good_of (inT1 (List.mem_of_getElem? (i := 21) (by decide +kernel))) (by decide +kernel), by decide +kernel, by decide +kernel⟩
set_option maxRecDepth 20000 in
theorem so_X1_fillWon : SOk yX1_fillWon cX1_fillWon 5 none 3 := ⟨mk_X1_fillWon, lw_good_of (inT4 (List.mem_of_getElem? (i := 181) (by decide +kernel))) (by decide +kernel), by decide⟩
set_option maxRecDepth 20000 in
theorem mk_X1_leastWinningMove : MOk yX1_leastWinningMove cX1_leastWinningMove 7 (some .int) 3 := ⟨lw_good_of (inT4 (List.mem_of_getElem? (i := 185) rfl)) rfl, lw_good_of (inT1 (List.mem_of_getElem? (i := 21) (by decide +kernel))) (by decide +kernel), by decide +kernel, by decide +kernel⟩
set_option maxRecDepth 20000 in
theorem so_X1_leastWinningMove : SOk yX1_leastWinningMove cX1_leastWinningMove 7 (some .int) 3 := ⟨mk_X1_leastWinningMove, lw_good_of (inT4 (List.mem_of_getElem? (i := 184) (by decide +kernel))) (by decide +kernel), by decide⟩
set_option maxRecDepth 20000 in
theorem mk_X1_choices : MOk yX1_choices cX1_choices 5 (some .long) 2 := ⟨lw_good_of (inT4 (List.mem_of_getElem? (i := 193) rfl)) rfl, lw_good_of (inT1 (List.mem_of_getElem? (i := 21) (by decide +kernel))) (by decide +kernel), by decide +kernel, by decide +kernel⟩
set_option maxRecDepth 20000 in
theorem so_X1_choices : SOk yX1_choices cX1_choices 5 (some .long) 2 := ⟨mk_X1_choices, lw_good_of (inT4 (List.mem_of_getElem? (i := 192) (by decide +kernel))) (by decide +kernel), by decide⟩
set_option maxRecDepth 20000 in
theorem mk_X1_power : MOk yX1_power cX1_power 6 (some .long) 2 := ⟨lw_good_of (inT4 (List.mem_of_getElem? (i := 196) rfl)) rfl, lw_good_of (inT1 (List.mem_of_getElem? (i := 21) (by decide +kernel))) (by decide +kernel), by decide +kernel, by decide +kernel⟩
set_option maxRecDepth 20000 in
theorem so_X1_power : SOk yX1_power cX1_power 6 (some .long) 2 := ⟨mk_X1_power, lw_good_of (inT4 (List.mem_of_getElem? (i := 195) (by decide +kernel))) (by decide +kernel), by decide⟩
set_option maxRecDepth 20000 in
theorem mk_X1_greatestShared : MOk yX1_greatestShared cX1_greatestShared 11 (some .long) 2 := ⟨lw_good_of (inT4 (List.mem_of_getElem? (i := 200) rfl)) rfl, lw_good_of (inT1 (List.mem_of_getElem? (i := 21) (by decide +kernel))) (by decide +kernel), by decide +kernel, by decide +kernel⟩
set_option maxRecDepth 20000 in
theorem so_X1_greatestShared : SOk yX1_greatestShared cX1_greatestShared 11 (some .long) 2 := ⟨mk_X1_greatestShared, lw_good_of (inT4 (List.mem_of_getElem? (i := 199) (by decide +kernel))) (by decide +kernel), by decide⟩
set_option maxRecDepth 20000 in
theorem mk_X1_isBestAgainst : MOk yX1_isBestAgainst cX1_isBestAgainst 5 (some .boolean) 3 := ⟨lw_good_of (inT4 (List.mem_of_getElem? (i := 207) rfl)) rfl, lw_good_of (inT1 (List.mem_of_getElem? (i := 21) (by decide +kernel))) (by decide +kernel), by decide +kernel, by decide +kernel⟩
set_option maxRecDepth 20000 in
theorem so_X1_isBestAgainst : SOk yX1_isBestAgainst cX1_isBestAgainst 5 (some .boolean) 3 := ⟨mk_X1_isBestAgainst, lw_good_of (inT4 (List.mem_of_getElem? (i := 206) (by decide +kernel))) (by decide +kernel), by decide⟩
set_option maxRecDepth 20000 in
theorem mk_X1_gain : MOk yX1_gain cX1_gain 4 (some .int) 3 := ⟨lw_good_of (inT4 (List.mem_of_getElem? (i := 210) rfl)) rfl, lw_good_of (inT1 (List.mem_of_getElem? (i := 21) (by decide +kernel))) (by decide +kernel), by decide +kernel, by decide +kernel⟩
set_option maxRecDepth 20000 in
theorem so_X1_gain : SOk yX1_gain cX1_gain 4 (some .int) 3 := ⟨mk_X1_gain, lw_good_of (inT4 (List.mem_of_getElem? (i := 209) (by decide +kernel))) (by decide +kernel), by decide⟩
set_option maxRecDepth 20000 in
theorem mk_X2_init : MOk yX2_init cX2_init 2 none 0 := ⟨lw_good_of (inT1 (List.mem_of_getElem? (i := 225) rfl)) rfl, lw_good_of (inT1 (List.mem_of_getElem? (i := 10) (by decide +kernel))) (by decide +kernel), by decide +kernel, by decide +kernel⟩
set_option maxRecDepth 20000 in
theorem mk_X2_push : MOk yX2_push cX2_push 2 none 1 := ⟨lw_good_of (inT3 (List.mem_of_getElem? (i := 105) rfl)) rfl, lw_good_of (inT1 (List.mem_of_getElem? (i := 10) (by decide +kernel))) (by decide +kernel), by decide +kernel, by decide +kernel⟩
set_option maxRecDepth 20000 in
theorem vo_X2_push : VOk yX2_push cX2_push 2 none 1 1 := ⟨mk_X2_push, lw_good_of (inT3 (List.mem_of_getElem? (i := 103) (by decide +kernel))) (by decide +kernel), lw_good_of (inT3 (List.mem_of_getElem? (i := 104) (by decide +kernel))) (by decide +kernel), by decide +kernel, by decide⟩
set_option maxRecDepth 20000 in
theorem mk_X2_dropOldest : MOk yX2_dropOldest cX2_dropOldest 3 none 0 := ⟨lw_good_of (inT3 (List.mem_of_getElem? (i := 109) rfl)) rfl, lw_good_of (inT1 (List.mem_of_getElem? (i := 10) (by decide +kernel))) (by decide +kernel), by decide +kernel, by decide +kernel⟩
set_option maxRecDepth 20000 in
theorem vo_X2_dropOldest : VOk yX2_dropOldest cX2_dropOldest 3 none 0 1 := ⟨mk_X2_dropOldest, lw_good_of (inT3 (List.mem_of_getElem? (i := 108) (by decide +kernel))) (by decide +kernel), lw_good_of (inTp (n := 4) (List.mem_of_getElem? (i := 24) (by decide +kernel))) (by decide +kernel), by decide +kernel, by decide⟩
set_option maxRecDepth 20000 in
theorem mk_X2_pop : MOk yX2_pop cX2_pop 2 (some .int) 1 := ⟨lw_good_of (inT3 (List.mem_of_getElem? (i := 161) rfl)) rfl, lw_good_of (inT1 (List.mem_of_getElem? (i := 10) (by decide +kernel))) (by decide +kernel), by decide +kernel, by decide +kernel⟩
set_option maxRecDepth 20000 in
theorem vo_X2_pop : VOk yX2_pop cX2_pop 2 (some .int) 1 1 := ⟨mk_X2_pop, lw_good_of (inT3 (List.mem_of_getElem? (i := 159) (by decide +kernel))) (by decide +kernel), lw_good_of (inT3 (List.mem_of_getElem? (i := 160) (by decide +kernel))) (by decide +kernel), by decide +kernel, by decide⟩
set_option maxRecDepth 20000 in
theorem mk_X2_keepUnder : MOk yX2_keepUnder cX2_keepUnder 3 (some .boolean) 2 := ⟨lw_good_of (inT4 (List.mem_of_getElem? (i := 233) rfl)) rfl, lw_good_of (inT1 (List.mem_of_getElem? (i := 10) (by decide +kernel))) (by decide +kernel), by decide +kernel, by decide +kernel⟩
set_option maxRecDepth 20000 in
theorem vo_X2_keepUnder : VOk yX2_keepUnder cX2_keepUnder 3 (some .boolean) 2 1 := ⟨mk_X2_keepUnder, lw_good_of (inT4 (List.mem_of_getElem? (i := 231) (by decide +kernel))) (by decide +kernel), lw_good_of (inT4 (List.mem_of_getElem? (i := 232) (by decide +kernel))) (by decide +kernel), by decide +kernel, by decide⟩
set_option maxRecDepth 20000 in
theorem mk_X2_bringBack : MOk yX2_bringBack cX2_bringBack 3 (some .boolean) 2 := ⟨lw_good_of (inT5 (List.mem_of_getElem? (i := 1) rfl)) rfl, lw_good_of (inT1 (List.mem_of_getElem? (i := 10) (by decide +kernel))) (by decide +kernel), by decide +kernel, by decide +kernel⟩
set_option maxRecDepth 20000 in
theorem vo_X2_bringBack : VOk yX2_bringBack cX2_bringBack 3 (some .boolean) 2 1 := ⟨mk_X2_bringBack, lw_good_of (inT4 (List.mem_of_getElem? (i := 239) (by decide +kernel))) (by decide +kernel), lw_good_of (inT5 (List.mem_of_getElem? (i := 0) (by decide +kernel))) (by decide +kernel), by decide +kernel, by decide⟩
set_option maxRecDepth 20000 in
theorem mk_X2_forgetAll : MOk yX2_forgetAll cX2_forgetAll 2 none 0 := ⟨lw_good_of (inT2 (List.mem_of_getElem? (i := 162) rfl)) rfl, lw_good_of (inT1 (List.mem_of_getElem? (i := 10) (by decide +kernel))) (by decide +kernel), by decide +kernel, by decide +kernel⟩
set_option maxRecDepth 20000 in
theorem vo_X2_forgetAll : VOk yX2_forgetAll cX2_forgetAll 2 none 0 1 := ⟨mk_X2_forgetAll, lw_good_of (inT2 (List.mem_of_getElem? (i := 160) (by decide +kernel))) (by decide +kernel), lw_good_of (inT2 (List.mem_of_getElem? (i := 161) (by decide +kernel))) (by decide +kernel), by decide +kernel, by decide⟩
set_option maxRecDepth 20000 in
theorem mk_X3_init : MOk yX3_init cX3_init 1 none 0 := ⟨lw_good_of (inT2 (List.mem_of_getElem? (i := 9) rfl)) rfl, lw_good_of (inT1 (List.mem_of_getElem? (i := 11) (by decide +kernel))) (by decide +kernel), by decide +kernel, by decide +kernel⟩
set_option maxRecDepth 20000 in
theorem mk_X3_begin : MOk yX3_begin cX3_begin 1 none 0 := ⟨lw_good_of (inT3 (List.mem_of_getElem? (i := 114) rfl)) rfl, lw_good_of (inT1 (List.mem_of_getElem? (i := 11) (by decide +kernel))) (by decide +kernel), by decide +kernel, by decide +kernel⟩
set_option maxRecDepth 20000 in
theorem vo_X3_begin : VOk yX3_begin cX3_begin 1 none 0 2 := ⟨mk_X3_begin, lw_good_of (inT3 (List.mem_of_getElem? (i := 112) (by decide +kernel))) (by decide +kernel), lw_good_of (inT3 (List.mem_of_getElem? (i := 113) (by decide +kernel))) (by decide +kernel), by decide +kernel, by decide⟩
set_option maxRecDepth 20000 in
theorem mk_X3_add : MOk yX3_add cX3_add 3 none 1 := ⟨lw_good_of (inT3 (List.mem_of_getElem? (i := 118) rfl)) rfl, lw_good_of (inT1 (List.mem_of_getElem? (i := 11) (by decide +kernel))) (by decide +kernel), by decide +kernel, by decide +kernel⟩
set_option maxRecDepth 20000 in
theorem vo_X3_add : VOk yX3_add cX3_add 3 none 1 2 := ⟨mk_X3_add, lw_good_of (inT3 (List.mem_of_getElem? (i := 116) (by decide +kernel))) (by decide +kernel), lw_good_of (inT3 (List.mem_of_getElem? (i := 117) (by decide +kernel))) (by decide +kernel), by decide +kernel, by decide⟩
set_option maxRecDepth 20000 in
theorem mk_X4_init : MOk yX4_init cX4_init 1 none 0 := ⟨lw_good_of (inT1 (List.mem_of_getElem? (i := 131) rfl)) rfl, lw_good_of (inT1 (List.mem_of_getElem? (i := 6) (by decide +kernel))) (by decide +kernel), by decide +kernel, by decide +kernel⟩
set_option maxRecDepth 20000 in
theorem mk_X4_takes : MOk yX4_takes cX4_takes 2 none 1 := ⟨lw_good_of (inT2 (List.mem_of_getElem? (i := 237) rfl)) rfl, lw_good_of (inT1 (List.mem_of_getElem? (i := 6) (by decide +kernel))) (by decide +kernel), by decide +kernel, by decide +kernel⟩
set_option maxRecDepth 20000 in
theorem vo_X4_takes : VOk yX4_takes cX4_takes 2 none 1 3 := ⟨mk_X4_takes, lw_good_of (inT2 (List.mem_of_getElem? (i := 235) (by decide +kernel))) (by decide +kernel), lw_good_of (inT2 (List.mem_of_getElem? (i := 236) (by decide +kernel))) (by decide +kernel), by decide +kernel, by decide⟩
set_option maxRecDepth 20000 in
theorem mk_X4_becomesNone : MOk yX4_becomesNone cX4_becomesNone 1 none 0 := ⟨lw_good_of (inT1 (List.mem_of_getElem? (i := 136) rfl)) rfl, lw_good_of (inT1 (List.mem_of_getElem? (i := 6) (by decide +kernel))) (by decide +kernel), by decide +kernel, by decide +kernel⟩
set_option maxRecDepth 20000 in
theorem vo_X4_becomesNone : VOk yX4_becomesNone cX4_becomesNone 1 none 0 3 := ⟨mk_X4_becomesNone, lw_good_of (inT1 (List.mem_of_getElem? (i := 134) (by decide +kernel))) (by decide +kernel), lw_good_of (inT1 (List.mem_of_getElem? (i := 135) (by decide +kernel))) (by decide +kernel), by decide +kernel, by decide⟩
set_option maxRecDepth 20000 in
theorem mk_X4_begin : MOk yX4_begin cX4_begin 1 none 0 := ⟨lw_good_of (inT2 (List.mem_of_getElem? (i := 183) rfl)) rfl, lw_good_of (inT1 (List.mem_of_getElem? (i := 6) (by decide +kernel))) (by decide +kernel), by decide +kernel, by decide +kernel⟩
set_option maxRecDepth 20000 in
theorem vo_X4_begin : VOk yX4_begin cX4_begin 1 none 0 3 := ⟨mk_X4_begin, lw_good_of (inT2 (List.mem_of_getElem? (i := 181) (by decide +kernel))) (by decide +kernel), lw_good_of (inT2 (List.mem_of_getElem? (i := 182) (by decide +kernel))) (by decide +kernel), by decide +kernel, by decide⟩
set_option maxRecDepth 20000 in
theorem mk_X4_add : MOk yX4_add cX4_add 2 none 1 := ⟨lw_good_of (inT2 (List.mem_of_getElem? (i := 196) rfl)) rfl, lw_good_of (inT1 (List.mem_of_getElem? (i := 6) (by decide +kernel))) (by decide +kernel), by decide +kernel, by decide +kernel⟩
set_option maxRecDepth 20000 in
theorem vo_X4_add : VOk yX4_add cX4_add 2 none 1 3 := ⟨mk_X4_add, lw_good_of (inT2 (List.mem_of_getElem? (i := 194) (by decide +kernel))) (by decide +kernel), lw_good_of (inT2 (List.mem_of_getElem? (i := 195) (by decide +kernel))) (by decide +kernel), by decide +kernel, by decide⟩
set_option maxRecDepth 20000 in
theorem mk_X4_changeLast : MOk yX4_changeLast cX4_changeLast 2 none 1 := ⟨lw_good_of (inT2 (List.mem_of_getElem? (i := 200) rfl)) rfl, lw_good_of (inT1 (List.mem_of_getElem? (i := 6) (by decide +kernel))) (by decide +kernel), by decide +kernel, by decide +kernel⟩
set_option maxRecDepth 20000 in
theorem vo_X4_changeLast : VOk yX4_changeLast cX4_changeLast 2 none 1 3 := ⟨mk_X4_changeLast, lw_good_of (inT2 (List.mem_of_getElem? (i := 198) (by decide +kernel))) (by decide +kernel), lw_good_of (inT2 (List.mem_of_getElem? (i := 199) (by decide +kernel))) (by decide +kernel), by decide +kernel, by decide⟩
set_option maxRecDepth 20000 in
theorem mk_X4_value : MOk yX4_value cX4_value 5 (some .int) 1 := ⟨lw_good_of (inT3 (List.mem_of_getElem? (i := 54) rfl)) rfl, lw_good_of (inT1 (List.mem_of_getElem? (i := 6) (by decide +kernel))) (by decide +kernel), by decide +kernel, by decide +kernel⟩
set_option maxRecDepth 20000 in
theorem vo_X4_value : VOk yX4_value cX4_value 5 (some .int) 1 3 := ⟨mk_X4_value, lw_good_of (inT3 (List.mem_of_getElem? (i := 52) (by decide +kernel))) (by decide +kernel), lw_good_of (inT3 (List.mem_of_getElem? (i := 53) (by decide +kernel))) (by decide +kernel), by decide +kernel, by decide⟩
set_option maxRecDepth 20000 in
theorem mk_X4_valueOfThing : MOk yX4_valueOfThing cX4_valueOfThing 3 (some .int) 2 := ⟨lw_good_of (inT3 (List.mem_of_getElem? (i := 57) rfl)) rfl, lw_good_of (inT1 (List.mem_of_getElem? (i := 6) (by decide +kernel))) (by decide +kernel), by decide +kernel, by decide +kernel⟩
set_option maxRecDepth 20000 in
theorem so_X4_valueOfThing : SOk yX4_valueOfThing cX4_valueOfThing 3 (some .int) 2 := ⟨mk_X4_valueOfThing, lw_good_of (inT3 (List.mem_of_getElem? (i := 56) (by decide +kernel))) (by decide +kernel), by decide⟩
set_option maxRecDepth 20000 in
theorem mk_X4_joined : MOk yX4_joined cX4_joined 3 (some .int) 3 := ⟨lw_good_of (inT3 (List.mem_of_getElem? (i := 60) rfl)) rfl, lw_good_of (inT1 (List.mem_of_getElem? (i := 6) (by decide +kernel))) (by decide +kernel), by decide +kernel, by decide +kernel⟩
set_option maxRecDepth 20000 in
theorem so_X4_joined : SOk yX4_joined cX4_joined 3 (some .int) 3 := ⟨mk_X4_joined, lw_good_of (inT3 (List.mem_of_getElem? (i := 59) (by decide +kernel))) (by decide +kernel), by decide⟩
set_option maxRecDepth 20000 in
theorem mk_X5_init : MOk yX5_init cX5_init 2 none 1 := ⟨lw_good_of (inT1 (List.mem_of_getElem? (i := 156) rfl)) rfl, lw_good_of (inT1 (List.mem_of_getElem? (i := 8) (by decide +kernel))) (by decide +kernel), by decide +kernel, by decide +kernel⟩
set_option maxRecDepth 20000 in
theorem mk_X5_read : MOk yX5_read cX5_read 3 (some .int) 1 := ⟨lw_good_of (inT2 (List.mem_of_getElem? (i := 178) rfl)) rfl, lw_good_of (inT1 (List.mem_of_getElem? (i := 8) (by decide +kernel))) (by decide +kernel), by decide +kernel, by decide +kernel⟩
set_option maxRecDepth 20000 in
theorem vo_X5_read : VOk yX5_read cX5_read 3 (some .int) 1 4 := ⟨mk_X5_read, lw_good_of (inT2 (List.mem_of_getElem? (i := 176) (by decide +kernel))) (by decide +kernel), lw_good_of (inT2 (List.mem_of_getElem? (i := 177) (by decide +kernel))) (by decide +kernel), by decide +kernel, by decide⟩
set_option maxRecDepth 20000 in
theorem mk_X5_stands : MOk yX5_stands cX5_stands 3 (some .boolean) 2 := ⟨lw_good_of (inT2 (List.mem_of_getElem? (i := 188) rfl)) rfl, lw_good_of (inT1 (List.mem_of_getElem? (i := 8) (by decide +kernel))) (by decide +kernel), by decide +kernel, by decide +kernel⟩
set_option maxRecDepth 20000 in
theorem vo_X5_stands : VOk yX5_stands cX5_stands 3 (some .boolean) 2 4 := ⟨mk_X5_stands, lw_good_of (inT2 (List.mem_of_getElem? (i := 187) (by decide +kernel))) (by decide +kernel), lw_good_of (inTp (n := 8) (List.mem_of_getElem? (i := 5) (by decide +kernel))) (by decide +kernel), by decide +kernel, by decide⟩
set_option maxRecDepth 20000 in
theorem mk_X5_standsAsDigit : MOk yX5_standsAsDigit cX5_standsAsDigit 3 (some .boolean) 2 := ⟨lw_good_of (inT2 (List.mem_of_getElem? (i := 192) rfl)) rfl, lw_good_of (inT1 (List.mem_of_getElem? (i := 8) (by decide +kernel))) (by decide +kernel), by decide +kernel, by decide +kernel⟩
set_option maxRecDepth 20000 in
theorem vo_X5_standsAsDigit : VOk yX5_standsAsDigit cX5_standsAsDigit 3 (some .boolean) 2 4 := ⟨mk_X5_standsAsDigit, lw_good_of (inT2 (List.mem_of_getElem? (i := 191) (by decide +kernel))) (by decide +kernel), lw_good_of (inTp (n := 8) (List.mem_of_getElem? (i := 6) (by decide +kernel))) (by decide +kernel), by decide +kernel, by decide⟩
set_option maxRecDepth 20000 in
theorem mk_X5_standsAheadOfThing : MOk yX5_standsAheadOfThing cX5_standsAheadOfThing 4 (some .boolean) 2 := ⟨lw_good_of (inT2 (List.mem_of_getElem? (i := 204) rfl)) rfl, lw_good_of (inT1 (List.mem_of_getElem? (i := 8) (by decide +kernel))) (by decide +kernel), by decide +kernel, by decide +kernel⟩
set_option maxRecDepth 20000 in
theorem vo_X5_standsAheadOfThing : VOk yX5_standsAheadOfThing cX5_standsAheadOfThing 4 (some .boolean) 2 4 := ⟨mk_X5_standsAheadOfThing, lw_good_of (inT2 (List.mem_of_getElem? (i := 203) (by decide +kernel))) (by decide +kernel), lw_good_of (inTp (n := 8) (List.mem_of_getElem? (i := 7) (by decide +kernel))) (by decide +kernel), by decide +kernel, by decide⟩
set_option maxRecDepth 20000 in
theorem mk_X5_opens : MOk yX5_opens cX5_opens 1 (some .boolean) 0 := ⟨lw_good_of (inT2 (List.mem_of_getElem? (i := 212) rfl)) rfl, lw_good_of (inT1 (List.mem_of_getElem? (i := 8) (by decide +kernel))) (by decide +kernel), by decide +kernel, by decide +kernel⟩
set_option maxRecDepth 20000 in
theorem vo_X5_opens : VOk yX5_opens cX5_opens 1 (some .boolean) 0 4 := ⟨mk_X5_opens, lw_good_of (inT2 (List.mem_of_getElem? (i := 211) (by decide +kernel))) (by decide +kernel), lw_good_of (inTp (n := 8) (List.mem_of_getElem? (i := 9) (by decide +kernel))) (by decide +kernel), by decide +kernel, by decide⟩
set_option maxRecDepth 20000 in
theorem mk_X5_standsBehindThing : MOk yX5_standsBehindThing cX5_standsBehindThing 5 (some .boolean) 2 := ⟨lw_good_of (inT2 (List.mem_of_getElem? (i := 219) rfl)) rfl, lw_good_of (inT1 (List.mem_of_getElem? (i := 8) (by decide +kernel))) (by decide +kernel), by decide +kernel, by decide +kernel⟩
set_option maxRecDepth 20000 in
theorem vo_X5_standsBehindThing : VOk yX5_standsBehindThing cX5_standsBehindThing 5 (some .boolean) 2 4 := ⟨mk_X5_standsBehindThing, lw_good_of (inT2 (List.mem_of_getElem? (i := 218) (by decide +kernel))) (by decide +kernel), lw_good_of (inTp (n := 8) (List.mem_of_getElem? (i := 10) (by decide +kernel))) (by decide +kernel), by decide +kernel, by decide⟩
set_option maxRecDepth 20000 in
theorem mk_X5_closes : MOk yX5_closes cX5_closes 2 (some .boolean) 1 := ⟨lw_good_of (inT2 (List.mem_of_getElem? (i := 223) rfl)) rfl, lw_good_of (inT1 (List.mem_of_getElem? (i := 8) (by decide +kernel))) (by decide +kernel), by decide +kernel, by decide +kernel⟩
set_option maxRecDepth 20000 in
theorem vo_X5_closes : VOk yX5_closes cX5_closes 2 (some .boolean) 1 4 := ⟨mk_X5_closes, lw_good_of (inT2 (List.mem_of_getElem? (i := 222) (by decide +kernel))) (by decide +kernel), lw_good_of (inTp (n := 8) (List.mem_of_getElem? (i := 11) (by decide +kernel))) (by decide +kernel), by decide +kernel, by decide⟩
set_option maxRecDepth 20000 in
theorem mk_X5_hold : MOk yX5_hold cX5_hold 2 none 1 := ⟨lw_good_of (inT2 (List.mem_of_getElem? (i := 208) rfl)) rfl, lw_good_of (inT1 (List.mem_of_getElem? (i := 8) (by decide +kernel))) (by decide +kernel), by decide +kernel, by decide +kernel⟩
set_option maxRecDepth 20000 in
theorem vo_X5_hold : VOk yX5_hold cX5_hold 2 none 1 4 := ⟨mk_X5_hold, lw_good_of (inT2 (List.mem_of_getElem? (i := 207) (by decide +kernel))) (by decide +kernel), lw_good_of (inTp (n := 8) (List.mem_of_getElem? (i := 8) (by decide +kernel))) (by decide +kernel), by decide +kernel, by decide⟩
set_option maxRecDepth 20000 in
theorem mk_X5_settle : MOk yX5_settle cX5_settle 3 none 2 := ⟨lw_good_of (inT2 (List.mem_of_getElem? (i := 227) rfl)) rfl, lw_good_of (inT1 (List.mem_of_getElem? (i := 8) (by decide +kernel))) (by decide +kernel), by decide +kernel, by decide +kernel⟩
set_option maxRecDepth 20000 in
theorem vo_X5_settle : VOk yX5_settle cX5_settle 3 none 2 4 := ⟨mk_X5_settle, lw_good_of (inT2 (List.mem_of_getElem? (i := 226) (by decide +kernel))) (by decide +kernel), lw_good_of (inTp (n := 8) (List.mem_of_getElem? (i := 12) (by decide +kernel))) (by decide +kernel), by decide +kernel, by decide⟩
set_option maxRecDepth 20000 in
theorem mk_X5_bindingOf : MOk yX5_bindingOf cX5_bindingOf 1 (some .int) 1 := ⟨lw_good_of (inT2 (List.mem_of_getElem? (i := 230) rfl)) rfl, lw_good_of (inT1 (List.mem_of_getElem? (i := 8) (by decide +kernel))) (by decide +kernel), by decide +kernel, by decide +kernel⟩
set_option maxRecDepth 20000 in
theorem so_X5_bindingOf : SOk yX5_bindingOf cX5_bindingOf 1 (some .int) 1 := ⟨mk_X5_bindingOf, lw_good_of (inT2 (List.mem_of_getElem? (i := 229) (by decide +kernel))) (by decide +kernel), by decide⟩
set_option maxRecDepth 20000 in
theorem mk_X5_thingOf : MOk yX5_thingOf cX5_thingOf 1 (some .int) 1 := ⟨lw_good_of (inT2 (List.mem_of_getElem? (i := 215) rfl)) rfl, lw_good_of (inT1 (List.mem_of_getElem? (i := 8) (by decide +kernel))) (by decide +kernel), by decide +kernel, by decide +kernel⟩
set_option maxRecDepth 20000 in
theorem so_X5_thingOf : SOk yX5_thingOf cX5_thingOf 1 (some .int) 1 := ⟨mk_X5_thingOf, lw_good_of (inT2 (List.mem_of_getElem? (i := 214) (by decide +kernel))) (by decide +kernel), by decide⟩
set_option maxRecDepth 20000 in
theorem mk_X6_init : MOk yX6_init cX6_init 1 none 0 := ⟨lw_good_of (inT2 (List.mem_of_getElem? (i := 25) rfl)) rfl, lw_good_of (inT1 (List.mem_of_getElem? (i := 12) (by decide +kernel))) (by decide +kernel), by decide +kernel, by decide +kernel⟩
set_option maxRecDepth 20000 in
theorem mk_X6_add : MOk yX6_add cX6_add 4 (some .int) 3 := ⟨lw_good_of (inT4 (List.mem_of_getElem? (i := 52) rfl)) rfl, lw_good_of (inT1 (List.mem_of_getElem? (i := 12) (by decide +kernel))) (by decide +kernel), by decide +kernel, by decide +kernel⟩
set_option maxRecDepth 20000 in
theorem vo_X6_add : VOk yX6_add cX6_add 4 (some .int) 3 5 := ⟨mk_X6_add, lw_good_of (inT4 (List.mem_of_getElem? (i := 50) (by decide +kernel))) (by decide +kernel), lw_good_of (inT4 (List.mem_of_getElem? (i := 51) (by decide +kernel))) (by decide +kernel), by decide +kernel, by decide⟩
set_option maxRecDepth 20000 in
theorem mk_X6_clear : MOk yX6_clear cX6_clear 2 (some .int) 0 := ⟨lw_good_of (inT4 (List.mem_of_getElem? (i := 60) rfl)) rfl, lw_good_of (inT1 (List.mem_of_getElem? (i := 12) (by decide +kernel))) (by decide +kernel), by decide +kernel, by decide +kernel⟩
set_option maxRecDepth 20000 in
theorem vo_X6_clear : VOk yX6_clear cX6_clear 2 (some .int) 0 5 := ⟨mk_X6_clear, lw_good_of (inT4 (List.mem_of_getElem? (i := 58) (by decide +kernel))) (by decide +kernel), lw_good_of (inT4 (List.mem_of_getElem? (i := 59) (by decide +kernel))) (by decide +kernel), by decide +kernel, by decide⟩
set_option maxRecDepth 20000 in
theorem mk_X6_lastHour : MOk yX6_lastHour cX6_lastHour 3 (some .int) 0 := ⟨lw_good_of (inT4 (List.mem_of_getElem? (i := 76) rfl)) rfl, lw_good_of (inT1 (List.mem_of_getElem? (i := 12) (by decide +kernel))) (by decide +kernel), by decide +kernel, by decide +kernel⟩
set_option maxRecDepth 20000 in
theorem vo_X6_lastHour : VOk yX6_lastHour cX6_lastHour 3 (some .int) 0 5 := ⟨mk_X6_lastHour, lw_good_of (inT4 (List.mem_of_getElem? (i := 74) (by decide +kernel))) (by decide +kernel), lw_good_of (inT4 (List.mem_of_getElem? (i := 75) (by decide +kernel))) (by decide +kernel), by decide +kernel, by decide⟩
set_option maxRecDepth 20000 in
theorem mk_X6_agrees : MOk yX6_agrees cX6_agrees 4 (some .boolean) 2 := ⟨lw_good_of (inT4 (List.mem_of_getElem? (i := 81) rfl)) rfl, lw_good_of (inT1 (List.mem_of_getElem? (i := 12) (by decide +kernel))) (by decide +kernel), by decide +kernel, by decide +kernel⟩
set_option maxRecDepth 20000 in
theorem vo_X6_agrees : VOk yX6_agrees cX6_agrees 4 (some .boolean) 2 5 := ⟨mk_X6_agrees, lw_good_of (inT4 (List.mem_of_getElem? (i := 79) (by decide +kernel))) (by decide +kernel), lw_good_of (inT4 (List.mem_of_getElem? (i := 80) (by decide +kernel))) (by decide +kernel), by decide +kernel, by decide⟩
set_option maxRecDepth 20000 in
theorem mk_X7_init : MOk yX7_init cX7_init 1 none 0 := ⟨lw_good_of (inT1 (List.mem_of_getElem? (i := 187) rfl)) rfl, lw_good_of (inT1 (List.mem_of_getElem? (i := 9) (by decide +kernel))) (by decide +kernel), by decide +kernel, by decide +kernel⟩
set_option maxRecDepth 20000 in
theorem mk_X7_takes : MOk yX7_takes cX7_takes 2 none 1 := ⟨lw_good_of (inT3 (List.mem_of_getElem? (i := 24) rfl)) rfl, lw_good_of (inT1 (List.mem_of_getElem? (i := 9) (by decide +kernel))) (by decide +kernel), by decide +kernel, by decide +kernel⟩
set_option maxRecDepth 20000 in
theorem vo_X7_takes : VOk yX7_takes cX7_takes 2 none 1 6 := ⟨mk_X7_takes, lw_good_of (inT3 (List.mem_of_getElem? (i := 22) (by decide +kernel))) (by decide +kernel), lw_good_of (inT3 (List.mem_of_getElem? (i := 23) (by decide +kernel))) (by decide +kernel), by decide +kernel, by decide⟩
set_option maxRecDepth 20000 in
theorem mk_X7_isAtMark : MOk yX7_isAtMark cX7_isAtMark 2 (some .boolean) 1 := ⟨lw_good_of (inT3 (List.mem_of_getElem? (i := 182) rfl)) rfl, lw_good_of (inT1 (List.mem_of_getElem? (i := 9) (by decide +kernel))) (by decide +kernel), by decide +kernel, by decide +kernel⟩
set_option maxRecDepth 20000 in
theorem vo_X7_isAtMark : VOk yX7_isAtMark cX7_isAtMark 2 (some .boolean) 1 6 := ⟨mk_X7_isAtMark, lw_good_of (inT3 (List.mem_of_getElem? (i := 180) (by decide +kernel))) (by decide +kernel), lw_good_of (inT3 (List.mem_of_getElem? (i := 181) (by decide +kernel))) (by decide +kernel), by decide +kernel, by decide⟩
set_option maxRecDepth 20000 in
theorem mk_X7_code : MOk yX7_code cX7_code 4 (some .long) 0 := ⟨lw_good_of (inT3 (List.mem_of_getElem? (i := 194) rfl)) rfl, lw_good_of (inT1 (List.mem_of_getElem? (i := 9) (by decide +kernel))) (by decide +kernel), by decide +kernel, by decide +kernel⟩
set_option maxRecDepth 20000 in
theorem vo_X7_code : VOk yX7_code cX7_code 4 (some .long) 0 6 := ⟨mk_X7_code, lw_good_of (inT3 (List.mem_of_getElem? (i := 192) (by decide +kernel))) (by decide +kernel), lw_good_of (inT3 (List.mem_of_getElem? (i := 193) (by decide +kernel))) (by decide +kernel), by decide +kernel, by decide⟩
set_option maxRecDepth 20000 in
theorem mk_X7_levelOf : MOk yX7_levelOf cX7_levelOf 3 (some .int) 2 := ⟨lw_good_of (inT3 (List.mem_of_getElem? (i := 204) rfl)) rfl, lw_good_of (inT1 (List.mem_of_getElem? (i := 9) (by decide +kernel))) (by decide +kernel), by decide +kernel, by decide +kernel⟩
set_option maxRecDepth 20000 in
theorem so_X7_levelOf : SOk yX7_levelOf cX7_levelOf 3 (some .int) 2 := ⟨mk_X7_levelOf, lw_good_of (inT3 (List.mem_of_getElem? (i := 203) (by decide +kernel))) (by decide +kernel), by decide⟩
set_option maxRecDepth 20000 in
theorem mk_X7_levelsOf : MOk yX7_levelsOf cX7_levelsOf 2 (some .int) 1 := ⟨lw_good_of (inT3 (List.mem_of_getElem? (i := 217) rfl)) rfl, lw_good_of (inT1 (List.mem_of_getElem? (i := 9) (by decide +kernel))) (by decide +kernel), by decide +kernel, by decide +kernel⟩
set_option maxRecDepth 20000 in
theorem so_X7_levelsOf : SOk yX7_levelsOf cX7_levelsOf 2 (some .int) 1 := ⟨mk_X7_levelsOf, lw_good_of (inT3 (List.mem_of_getElem? (i := 216) (by decide +kernel))) (by decide +kernel), by decide⟩
set_option maxRecDepth 20000 in
theorem mk_X7_sumOf : MOk yX7_sumOf cX7_sumOf 4 (some .int) 1 := ⟨lw_good_of (inT3 (List.mem_of_getElem? (i := 201) rfl)) rfl, lw_good_of (inT1 (List.mem_of_getElem? (i := 9) (by decide +kernel))) (by decide +kernel), by decide +kernel, by decide +kernel⟩
set_option maxRecDepth 20000 in
theorem so_X7_sumOf : SOk yX7_sumOf cX7_sumOf 4 (some .int) 1 := ⟨mk_X7_sumOf, lw_good_of (inT3 (List.mem_of_getElem? (i := 200) (by decide +kernel))) (by decide +kernel), by decide⟩
set_option maxRecDepth 20000 in
theorem mk_X8_init : MOk yX8_init cX8_init 1 none 0 := ⟨lw_good_of (inT1 (List.mem_of_getElem? (i := 34) rfl)) rfl, lw_good_of (inT1 (List.mem_of_getElem? (i := 2) (by decide +kernel))) (by decide +kernel), by decide +kernel, by decide +kernel⟩
set_option maxRecDepth 20000 in
theorem mk_X8_append : MOk yX8_append cX8_append 3 (some .int) 1 := ⟨lw_good_of (inT2 (List.mem_of_getElem? (i := 97) rfl)) rfl, lw_good_of (inT1 (List.mem_of_getElem? (i := 2) (by decide +kernel))) (by decide +kernel), by decide +kernel, by decide +kernel⟩
set_option maxRecDepth 20000 in
theorem vo_X8_append : VOk yX8_append cX8_append 3 (some .int) 1 7 := ⟨mk_X8_append, lw_good_of (inT2 (List.mem_of_getElem? (i := 95) (by decide +kernel))) (by decide +kernel), lw_good_of (inT2 (List.mem_of_getElem? (i := 96) (by decide +kernel))) (by decide +kernel), by decide +kernel, by decide⟩
set_option maxRecDepth 20000 in
theorem mk_X8_shorten : MOk yX8_shorten cX8_shorten 2 (some .boolean) 1 := ⟨lw_good_of (inT2 (List.mem_of_getElem? (i := 105) rfl)) rfl, lw_good_of (inT1 (List.mem_of_getElem? (i := 2) (by decide +kernel))) (by decide +kernel), by decide +kernel, by decide +kernel⟩
set_option maxRecDepth 20000 in
theorem vo_X8_shorten : VOk yX8_shorten cX8_shorten 2 (some .boolean) 1 7 := ⟨mk_X8_shorten, lw_good_of (inT2 (List.mem_of_getElem? (i := 103) (by decide +kernel))) (by decide +kernel), lw_good_of (inT2 (List.mem_of_getElem? (i := 104) (by decide +kernel))) (by decide +kernel), by decide +kernel, by decide⟩
set_option maxRecDepth 20000 in
theorem mk_X8_at : MOk yX8_at cX8_at 2 (some .int) 1 := ⟨lw_good_of (inT2 (List.mem_of_getElem? (i := 121) rfl)) rfl, lw_good_of (inT1 (List.mem_of_getElem? (i := 2) (by decide +kernel))) (by decide +kernel), by decide +kernel, by decide +kernel⟩
set_option maxRecDepth 20000 in
theorem vo_X8_at : VOk yX8_at cX8_at 2 (some .int) 1 7 := ⟨mk_X8_at, lw_good_of (inT2 (List.mem_of_getElem? (i := 119) (by decide +kernel))) (by decide +kernel), lw_good_of (inT2 (List.mem_of_getElem? (i := 120) (by decide +kernel))) (by decide +kernel), by decide +kernel, by decide⟩
set_option maxRecDepth 20000 in
theorem mk_X8_isDigit : MOk yX8_isDigit cX8_isDigit 3 (some .boolean) 1 := ⟨lw_good_of (inT2 (List.mem_of_getElem? (i := 125) rfl)) rfl, lw_good_of (inT1 (List.mem_of_getElem? (i := 2) (by decide +kernel))) (by decide +kernel), by decide +kernel, by decide +kernel⟩
set_option maxRecDepth 20000 in
theorem vo_X8_isDigit : VOk yX8_isDigit cX8_isDigit 3 (some .boolean) 1 7 := ⟨mk_X8_isDigit, lw_good_of (inT2 (List.mem_of_getElem? (i := 123) (by decide +kernel))) (by decide +kernel), lw_good_of (inT2 (List.mem_of_getElem? (i := 124) (by decide +kernel))) (by decide +kernel), by decide +kernel, by decide⟩
set_option maxRecDepth 20000 in
theorem mk_X8_digit : MOk yX8_digit cX8_digit 2 (some .int) 1 := ⟨lw_good_of (inT2 (List.mem_of_getElem? (i := 130) rfl)) rfl, lw_good_of (inT1 (List.mem_of_getElem? (i := 2) (by decide +kernel))) (by decide +kernel), by decide +kernel, by decide +kernel⟩
set_option maxRecDepth 20000 in
theorem vo_X8_digit : VOk yX8_digit cX8_digit 2 (some .int) 1 7 := ⟨mk_X8_digit, lw_good_of (inT2 (List.mem_of_getElem? (i := 128) (by decide +kernel))) (by decide +kernel), lw_good_of (inT2 (List.mem_of_getElem? (i := 129) (by decide +kernel))) (by decide +kernel), by decide +kernel, by decide⟩
set_option maxRecDepth 20000 in
theorem mk_X8_clear : MOk yX8_clear cX8_clear 1 none 0 := ⟨lw_good_of (inT2 (List.mem_of_getElem? (i := 158) rfl)) rfl, lw_good_of (inT1 (List.mem_of_getElem? (i := 2) (by decide +kernel))) (by decide +kernel), by decide +kernel, by decide +kernel⟩
set_option maxRecDepth 20000 in
theorem vo_X8_clear : VOk yX8_clear cX8_clear 1 none 0 7 := ⟨mk_X8_clear, lw_good_of (inT2 (List.mem_of_getElem? (i := 156) (by decide +kernel))) (by decide +kernel), lw_good_of (inT2 (List.mem_of_getElem? (i := 157) (by decide +kernel))) (by decide +kernel), by decide +kernel, by decide⟩
set_option maxRecDepth 20000 in
theorem mk_X9_init : MOk yX9_init cX9_init 1 none 0 := ⟨lw_good_of (inT1 (List.mem_of_getElem? (i := 113) rfl)) rfl, lw_good_of (inT1 (List.mem_of_getElem? (i := 5) (by decide +kernel))) (by decide +kernel), by decide +kernel, by decide +kernel⟩
set_option maxRecDepth 20000 in
theorem mk_X9_begin : MOk yX9_begin cX9_begin 3 none 1 := ⟨lw_good_of (inT4 (List.mem_of_getElem? (i := 157) rfl)) rfl, lw_good_of (inT1 (List.mem_of_getElem? (i := 5) (by decide +kernel))) (by decide +kernel), by decide +kernel, by decide +kernel⟩
set_option maxRecDepth 20000 in
theorem vo_X9_begin : VOk yX9_begin cX9_begin 3 none 1 8 := ⟨mk_X9_begin, lw_good_of (inT4 (List.mem_of_getElem? (i := 155) (by decide +kernel))) (by decide +kernel), lw_good_of (inT4 (List.mem_of_getElem? (i := 156) (by decide +kernel))) (by decide +kernel), by decide +kernel, by decide⟩
set_option maxRecDepth 20000 in
theorem mk_X9_holdBest : MOk yX9_holdBest cX9_holdBest 1 none 0 := ⟨lw_good_of (inT4 (List.mem_of_getElem? (i := 166) rfl)) rfl, lw_good_of (inT1 (List.mem_of_getElem? (i := 5) (by decide +kernel))) (by decide +kernel), by decide +kernel, by decide +kernel⟩
set_option maxRecDepth 20000 in
theorem vo_X9_holdBest : VOk yX9_holdBest cX9_holdBest 1 none 0 8 := ⟨mk_X9_holdBest, lw_good_of (inT4 (List.mem_of_getElem? (i := 164) (by decide +kernel))) (by decide +kernel), lw_good_of (inT4 (List.mem_of_getElem? (i := 165) (by decide +kernel))) (by decide +kernel), by decide +kernel, by decide⟩
set_option maxRecDepth 20000 in
theorem mk_X9_next : MOk yX9_next cX9_next 5 (some .boolean) 0 := ⟨lw_good_of (inT4 (List.mem_of_getElem? (i := 171) rfl)) rfl, lw_good_of (inT1 (List.mem_of_getElem? (i := 5) (by decide +kernel))) (by decide +kernel), by decide +kernel, by decide +kernel⟩
set_option maxRecDepth 20000 in
theorem vo_X9_next : VOk yX9_next cX9_next 5 (some .boolean) 0 8 := ⟨mk_X9_next, lw_good_of (inT4 (List.mem_of_getElem? (i := 169) (by decide +kernel))) (by decide +kernel), lw_good_of (inT4 (List.mem_of_getElem? (i := 170) (by decide +kernel))) (by decide +kernel), by decide +kernel, by decide⟩
set_option maxRecDepth 20000 in
theorem mk_X9_swap : MOk yX9_swap cX9_swap 4 none 2 := ⟨lw_good_of (inT4 (List.mem_of_getElem? (i := 175) rfl)) rfl, lw_good_of (inT1 (List.mem_of_getElem? (i := 5) (by decide +kernel))) (by decide +kernel), by decide +kernel, by decide +kernel⟩
set_option maxRecDepth 20000 in
theorem vo_X9_swap : VOk yX9_swap cX9_swap 4 none 2 8 := ⟨mk_X9_swap, lw_good_of (inT4 (List.mem_of_getElem? (i := 174) (by decide +kernel))) (by decide +kernel), lw_good_of (inTp (n := 3) (List.mem_of_getElem? (i := 44) (by decide +kernel))) (by decide +kernel), by decide +kernel, by decide⟩
set_option maxRecDepth 20000 in
theorem mk_X10_init : MOk yX10_init cX10_init 2 none 1 := ⟨lw_good_of (inT1 (List.mem_of_getElem? (i := 99) rfl)) rfl, lw_good_of (inT1 (List.mem_of_getElem? (i := 4) (by decide +kernel))) (by decide +kernel), by decide +kernel, by decide +kernel⟩
set_option maxRecDepth 20000 in
theorem mk_X10_isOpen : MOk yX10_isOpen cX10_isOpen 2 (some .boolean) 2 := ⟨lw_good_of (inT4 (List.mem_of_getElem? (i := 113) rfl)) rfl, lw_good_of (inT1 (List.mem_of_getElem? (i := 4) (by decide +kernel))) (by decide +kernel), by decide +kernel, by decide +kernel⟩
set_option maxRecDepth 20000 in
theorem so_X10_isOpen : SOk yX10_isOpen cX10_isOpen 2 (some .boolean) 2 := ⟨mk_X10_isOpen, lw_good_of (inT4 (List.mem_of_getElem? (i := 112) (by decide +kernel))) (by decide +kernel), by decide⟩
set_option maxRecDepth 20000 in
theorem mk_X10_reached : MOk yX10_reached cX10_reached 6 (some .int) 2 := ⟨lw_good_of (inT4 (List.mem_of_getElem? (i := 110) rfl)) rfl, lw_good_of (inT1 (List.mem_of_getElem? (i := 4) (by decide +kernel))) (by decide +kernel), by decide +kernel, by decide +kernel⟩
set_option maxRecDepth 20000 in
theorem vo_X10_reached : VOk yX10_reached cX10_reached 6 (some .int) 2 9 := ⟨mk_X10_reached, lw_good_of (inT4 (List.mem_of_getElem? (i := 108) (by decide +kernel))) (by decide +kernel), lw_good_of (inT4 (List.mem_of_getElem? (i := 109) (by decide +kernel))) (by decide +kernel), by decide +kernel, by decide⟩
set_option maxRecDepth 20000 in
theorem mk_X10_measure : MOk yX10_measure cX10_measure 6 none 2 := ⟨lw_good_of (inT4 (List.mem_of_getElem? (i := 121) rfl)) rfl, lw_good_of (inT1 (List.mem_of_getElem? (i := 4) (by decide +kernel))) (by decide +kernel), by decide +kernel, by decide +kernel⟩
set_option maxRecDepth 20000 in
theorem vo_X10_measure : VOk yX10_measure cX10_measure 6 none 2 9 := ⟨mk_X10_measure, lw_good_of (inT4 (List.mem_of_getElem? (i := 119) (by decide +kernel))) (by decide +kernel), lw_good_of (inT4 (List.mem_of_getElem? (i := 120) (by decide +kernel))) (by decide +kernel), by decide +kernel, by decide⟩
set_option maxRecDepth 20000 in
theorem mk_X10_walk : MOk yX10_walk cX10_walk 7 none 3 := ⟨lw_good_of (inT4 (List.mem_of_getElem? (i := 125) rfl)) rfl, lw_good_of (inT1 (List.mem_of_getElem? (i := 4) (by decide +kernel))) (by decide +kernel), by decide +kernel, by decide +kernel⟩
set_option maxRecDepth 20000 in
theorem vo_X10_walk : VOk yX10_walk cX10_walk 7 none 3 9 := ⟨mk_X10_walk, lw_good_of (inT4 (List.mem_of_getElem? (i := 123) (by decide +kernel))) (by decide +kernel), lw_good_of (inT4 (List.mem_of_getElem? (i := 124) (by decide +kernel))) (by decide +kernel), by decide +kernel, by decide⟩
set_option maxRecDepth 20000 in
theorem mk_X10_leastAhead : MOk yX10_leastAhead cX10_leastAhead 5 (some .int) 2 := ⟨lw_good_of (inT4 (List.mem_of_getElem? (i := 129) rfl)) rfl, lw_good_of (inT1 (List.mem_of_getElem? (i := 4) (by decide +kernel))) (by decide +kernel), by decide +kernel, by decide +kernel⟩
set_option maxRecDepth 20000 in
theorem vo_X10_leastAhead : VOk yX10_leastAhead cX10_leastAhead 5 (some .int) 2 9 := ⟨mk_X10_leastAhead, lw_good_of (inT4 (List.mem_of_getElem? (i := 128) (by decide +kernel))) (by decide +kernel), lw_good_of (inTp (n := 2) (List.mem_of_getElem? (i := 42) (by decide +kernel))) (by decide +kernel), by decide +kernel, by decide⟩
set_option maxRecDepth 20000 in
theorem mk_X10_leastCut : MOk yX10_leastCut cX10_leastCut 8 (some .int) 3 := ⟨lw_good_of (inT4 (List.mem_of_getElem? (i := 138) rfl)) rfl, lw_good_of (inT1 (List.mem_of_getElem? (i := 4) (by decide +kernel))) (by decide +kernel), by decide +kernel, by decide +kernel⟩
set_option maxRecDepth 20000 in
theorem vo_X10_leastCut : VOk yX10_leastCut cX10_leastCut 8 (some .int) 3 9 := ⟨mk_X10_leastCut, lw_good_of (inT4 (List.mem_of_getElem? (i := 136) (by decide +kernel))) (by decide +kernel), lw_good_of (inT4 (List.mem_of_getElem? (i := 137) (by decide +kernel))) (by decide +kernel), by decide +kernel, by decide⟩
set_option maxRecDepth 20000 in
theorem mk_X10_ringLength : MOk yX10_ringLength cX10_ringLength 3 (some .int) 2 := ⟨lw_good_of (inT4 (List.mem_of_getElem? (i := 148) rfl)) rfl, lw_good_of (inT1 (List.mem_of_getElem? (i := 4) (by decide +kernel))) (by decide +kernel), by decide +kernel, by decide +kernel⟩
set_option maxRecDepth 20000 in
theorem vo_X10_ringLength : VOk yX10_ringLength cX10_ringLength 3 (some .int) 2 9 := ⟨mk_X10_ringLength, lw_good_of (inT4 (List.mem_of_getElem? (i := 146) (by decide +kernel))) (by decide +kernel), lw_good_of (inT4 (List.mem_of_getElem? (i := 147) (by decide +kernel))) (by decide +kernel), by decide +kernel, by decide⟩
set_option maxRecDepth 20000 in
theorem mk_X11_init : MOk yX11_init cX11_init 1 none 0 := ⟨lw_good_of (inT1 (List.mem_of_getElem? (i := 26) rfl)) rfl, lw_good_of (inT1 (List.mem_of_getElem? (i := 1) (by decide +kernel))) (by decide +kernel), by decide +kernel, by decide +kernel⟩
set_option maxRecDepth 20000 in
theorem mk_X11_sign : MOk yX11_sign cX11_sign 2 (some .int) 1 := ⟨lw_good_of (inT2 (List.mem_of_getElem? (i := 93) rfl)) rfl, lw_good_of (inT1 (List.mem_of_getElem? (i := 1) (by decide +kernel))) (by decide +kernel), by decide +kernel, by decide +kernel⟩
set_option maxRecDepth 20000 in
theorem vo_X11_sign : VOk yX11_sign cX11_sign 2 (some .int) 1 10 := ⟨mk_X11_sign, lw_good_of (inT2 (List.mem_of_getElem? (i := 91) (by decide +kernel))) (by decide +kernel), lw_good_of (inT2 (List.mem_of_getElem? (i := 92) (by decide +kernel))) (by decide +kernel), by decide +kernel, by decide⟩
set_option maxRecDepth 20000 in
theorem mk_X11_end : MOk yX11_end cX11_end 2 (some .boolean) 1 := ⟨lw_good_of (inT2 (List.mem_of_getElem? (i := 101) rfl)) rfl, lw_good_of (inT1 (List.mem_of_getElem? (i := 1) (by decide +kernel))) (by decide +kernel), by decide +kernel, by decide +kernel⟩
set_option maxRecDepth 20000 in
theorem vo_X11_end : VOk yX11_end cX11_end 2 (some .boolean) 1 10 := ⟨mk_X11_end, lw_good_of (inT2 (List.mem_of_getElem? (i := 99) (by decide +kernel))) (by decide +kernel), lw_good_of (inT2 (List.mem_of_getElem? (i := 100) (by decide +kernel))) (by decide +kernel), by decide +kernel, by decide⟩
set_option maxRecDepth 20000 in
theorem mk_X11_basins : MOk yX11_basins cX11_basins 4 (some .int) 0 := ⟨lw_good_of (inT2 (List.mem_of_getElem? (i := 109) rfl)) rfl, lw_good_of (inT1 (List.mem_of_getElem? (i := 1) (by decide +kernel))) (by decide +kernel), by decide +kernel, by decide +kernel⟩
set_option maxRecDepth 20000 in
theorem vo_X11_basins : VOk yX11_basins cX11_basins 4 (some .int) 0 10 := ⟨mk_X11_basins, lw_good_of (inT2 (List.mem_of_getElem? (i := 107) (by decide +kernel))) (by decide +kernel), lw_good_of (inT2 (List.mem_of_getElem? (i := 108) (by decide +kernel))) (by decide +kernel), by decide +kernel, by decide⟩
set_option maxRecDepth 20000 in
theorem mk_X11_sluices : MOk yX11_sluices cX11_sluices 5 (some .int) 0 := ⟨lw_good_of (inT2 (List.mem_of_getElem? (i := 166) rfl)) rfl, lw_good_of (inT1 (List.mem_of_getElem? (i := 1) (by decide +kernel))) (by decide +kernel), by decide +kernel, by decide +kernel⟩
set_option maxRecDepth 20000 in
theorem vo_X11_sluices : VOk yX11_sluices cX11_sluices 5 (some .int) 0 10 := ⟨mk_X11_sluices, lw_good_of (inT2 (List.mem_of_getElem? (i := 164) (by decide +kernel))) (by decide +kernel), lw_good_of (inT2 (List.mem_of_getElem? (i := 165) (by decide +kernel))) (by decide +kernel), by decide +kernel, by decide⟩
set_option maxRecDepth 20000 in
theorem mk_X11_endOfLines : MOk yX11_endOfLines cX11_endOfLines 3 (some .int) 2 := ⟨lw_good_of (inT2 (List.mem_of_getElem? (i := 154) rfl)) rfl, lw_good_of (inT1 (List.mem_of_getElem? (i := 1) (by decide +kernel))) (by decide +kernel), by decide +kernel, by decide +kernel⟩
set_option maxRecDepth 20000 in
theorem vo_X11_endOfLines : VOk yX11_endOfLines cX11_endOfLines 3 (some .int) 2 10 := ⟨mk_X11_endOfLines, lw_good_of (inT2 (List.mem_of_getElem? (i := 153) (by decide +kernel))) (by decide +kernel), lw_good_of (inTp (n := 16) (List.mem_of_getElem? (i := 4) (by decide +kernel))) (by decide +kernel), by decide +kernel, by decide⟩
set_option maxRecDepth 20000 in
theorem mk_X11_addBasin : MOk yX11_addBasin cX11_addBasin 3 none 1 := ⟨lw_good_of (inT2 (List.mem_of_getElem? (i := 146) rfl)) rfl, lw_good_of (inT1 (List.mem_of_getElem? (i := 1) (by decide +kernel))) (by decide +kernel), by decide +kernel, by decide +kernel⟩
set_option maxRecDepth 20000 in
theorem vo_X11_addBasin : VOk yX11_addBasin cX11_addBasin 3 none 1 10 := ⟨mk_X11_addBasin, lw_good_of (inT2 (List.mem_of_getElem? (i := 145) (by decide +kernel))) (by decide +kernel), lw_good_of (inTp (n := 16) (List.mem_of_getElem? (i := 3) (by decide +kernel))) (by decide +kernel), by decide +kernel, by decide⟩
set_option maxRecDepth 20000 in
theorem mk_X11_wrongSignOfLines : MOk yX11_wrongSignOfLines cX11_wrongSignOfLines 6 (some .int) 3 := ⟨lw_good_of (inT2 (List.mem_of_getElem? (i := 113) rfl)) rfl, lw_good_of (inT1 (List.mem_of_getElem? (i := 1) (by decide +kernel))) (by decide +kernel), by decide +kernel, by decide +kernel⟩
set_option maxRecDepth 20000 in
theorem vo_X11_wrongSignOfLines : VOk yX11_wrongSignOfLines cX11_wrongSignOfLines 6 (some .int) 3 10 := ⟨mk_X11_wrongSignOfLines, lw_good_of (inT2 (List.mem_of_getElem? (i := 112) (by decide +kernel))) (by decide +kernel), lw_good_of (inTp (n := 16) (List.mem_of_getElem? (i := 0) (by decide +kernel))) (by decide +kernel), by decide +kernel, by decide⟩
set_option maxRecDepth 20000 in
theorem mk_X11_standsInBasin : MOk yX11_standsInBasin cX11_standsInBasin 3 (some .boolean) 1 := ⟨lw_good_of (inT2 (List.mem_of_getElem? (i := 142) rfl)) rfl, lw_good_of (inT1 (List.mem_of_getElem? (i := 1) (by decide +kernel))) (by decide +kernel), by decide +kernel, by decide +kernel⟩
set_option maxRecDepth 20000 in
theorem vo_X11_standsInBasin : VOk yX11_standsInBasin cX11_standsInBasin 3 (some .boolean) 1 10 := ⟨mk_X11_standsInBasin, lw_good_of (inT2 (List.mem_of_getElem? (i := 141) (by decide +kernel))) (by decide +kernel), lw_good_of (inTp (n := 16) (List.mem_of_getElem? (i := 2) (by decide +kernel))) (by decide +kernel), by decide +kernel, by decide⟩
set_option maxRecDepth 20000 in
theorem mk_X11_standsInSluice : MOk yX11_standsInSluice cX11_standsInSluice 3 (some .boolean) 1 := ⟨lw_good_of (inT2 (List.mem_of_getElem? (i := 117) rfl)) rfl, lw_good_of (inT1 (List.mem_of_getElem? (i := 1) (by decide +kernel))) (by decide +kernel), by decide +kernel, by decide +kernel⟩
set_option maxRecDepth 20000 in
theorem vo_X11_standsInSluice : VOk yX11_standsInSluice cX11_standsInSluice 3 (some .boolean) 1 10 := ⟨mk_X11_standsInSluice, lw_good_of (inT2 (List.mem_of_getElem? (i := 116) (by decide +kernel))) (by decide +kernel), lw_good_of (inTp (n := 16) (List.mem_of_getElem? (i := 1) (by decide +kernel))) (by decide +kernel), by decide +kernel, by decide⟩
set_option maxRecDepth 20000 in
theorem mk_X11_kindOf : MOk yX11_kindOf cX11_kindOf 1 (some .int) 1 := ⟨lw_good_of (inT2 (List.mem_of_getElem? (i := 138) rfl)) rfl, lw_good_of (inT1 (List.mem_of_getElem? (i := 1) (by decide +kernel))) (by decide +kernel), by decide +kernel, by decide +kernel⟩
set_option maxRecDepth 20000 in
theorem so_X11_kindOf : SOk yX11_kindOf cX11_kindOf 1 (some .int) 1 := ⟨mk_X11_kindOf, lw_good_of (inT2 (List.mem_of_getElem? (i := 137) (by decide +kernel))) (by decide +kernel), by decide⟩
set_option maxRecDepth 20000 in
theorem mk_X11_rule : MOk yX11_rule cX11_rule 2 (some .int) 0 := ⟨lw_good_of (inT2 (List.mem_of_getElem? (i := 174) rfl)) rfl, lw_good_of (inT1 (List.mem_of_getElem? (i := 1) (by decide +kernel))) (by decide +kernel), by decide +kernel, by decide +kernel⟩
set_option maxRecDepth 20000 in
theorem vo_X11_rule : VOk yX11_rule cX11_rule 2 (some .int) 0 10 := ⟨mk_X11_rule, lw_good_of (inT2 (List.mem_of_getElem? (i := 172) (by decide +kernel))) (by decide +kernel), lw_good_of (inT2 (List.mem_of_getElem? (i := 173) (by decide +kernel))) (by decide +kernel), by decide +kernel, by decide⟩
set_option maxRecDepth 20000 in
theorem mk_X11_basin : MOk yX11_basin cX11_basin 3 (some .int) 2 := ⟨lw_good_of (inT5 (List.mem_of_getElem? (i := 21) rfl)) rfl, lw_good_of (inT1 (List.mem_of_getElem? (i := 1) (by decide +kernel))) (by decide +kernel), by decide +kernel, by decide +kernel⟩
set_option maxRecDepth 20000 in
theorem vo_X11_basin : VOk yX11_basin cX11_basin 3 (some .int) 2 10 := ⟨mk_X11_basin, lw_good_of (inT5 (List.mem_of_getElem? (i := 19) (by decide +kernel))) (by decide +kernel), lw_good_of (inT5 (List.mem_of_getElem? (i := 20) (by decide +kernel))) (by decide +kernel), by decide +kernel, by decide⟩
set_option maxRecDepth 20000 in
theorem mk_X11_sluice : MOk yX11_sluice cX11_sluice 3 (some .int) 2 := ⟨lw_good_of (inT5 (List.mem_of_getElem? (i := 103) rfl)) rfl, lw_good_of (inT1 (List.mem_of_getElem? (i := 1) (by decide +kernel))) (by decide +kernel), by decide +kernel, by decide +kernel⟩
set_option maxRecDepth 20000 in
theorem vo_X11_sluice : VOk yX11_sluice cX11_sluice 3 (some .int) 2 10 := ⟨mk_X11_sluice, lw_good_of (inT5 (List.mem_of_getElem? (i := 101) (by decide +kernel))) (by decide +kernel), lw_good_of (inT5 (List.mem_of_getElem? (i := 102) (by decide +kernel))) (by decide +kernel), by decide +kernel, by decide⟩
set_option maxRecDepth 20000 in
theorem mk_X11_sheet : MOk yX11_sheet cX11_sheet 7 (some .int) 4 := ⟨lw_good_of (inT3 (List.mem_of_getElem? (i := 1) rfl)) rfl, lw_good_of (inT1 (List.mem_of_getElem? (i := 1) (by decide +kernel))) (by decide +kernel), by decide +kernel, by decide +kernel⟩
set_option maxRecDepth 20000 in
theorem vo_X11_sheet : VOk yX11_sheet cX11_sheet 7 (some .int) 4 10 := ⟨mk_X11_sheet, lw_good_of (inT2 (List.mem_of_getElem? (i := 239) (by decide +kernel))) (by decide +kernel), lw_good_of (inT3 (List.mem_of_getElem? (i := 0) (by decide +kernel))) (by decide +kernel), by decide +kernel, by decide⟩
set_option maxRecDepth 20000 in
theorem mk_X11_entryOfSheet : MOk yX11_entryOfSheet cX11_entryOfSheet 3 (some .int) 2 := ⟨lw_good_of (inT3 (List.mem_of_getElem? (i := 4) rfl)) rfl, lw_good_of (inT1 (List.mem_of_getElem? (i := 1) (by decide +kernel))) (by decide +kernel), by decide +kernel, by decide +kernel⟩
set_option maxRecDepth 20000 in
theorem so_X11_entryOfSheet : SOk yX11_entryOfSheet cX11_entryOfSheet 3 (some .int) 2 := ⟨mk_X11_entryOfSheet, lw_good_of (inT3 (List.mem_of_getElem? (i := 3) (by decide +kernel))) (by decide +kernel), by decide⟩
set_option maxRecDepth 20000 in
theorem mk_X11_hours : MOk yX11_hours cX11_hours 3 (some .int) 1 := ⟨lw_good_of (inT3 (List.mem_of_getElem? (i := 16) rfl)) rfl, lw_good_of (inT1 (List.mem_of_getElem? (i := 1) (by decide +kernel))) (by decide +kernel), by decide +kernel, by decide +kernel⟩
set_option maxRecDepth 20000 in
theorem vo_X11_hours : VOk yX11_hours cX11_hours 3 (some .int) 1 10 := ⟨mk_X11_hours, lw_good_of (inT3 (List.mem_of_getElem? (i := 14) (by decide +kernel))) (by decide +kernel), lw_good_of (inT3 (List.mem_of_getElem? (i := 15) (by decide +kernel))) (by decide +kernel), by decide +kernel, by decide⟩
set_option maxRecDepth 20000 in
theorem mk_X11_pours : MOk yX11_pours cX11_pours 3 (some .int) 2 := ⟨lw_good_of (inT3 (List.mem_of_getElem? (i := 122) rfl)) rfl, lw_good_of (inT1 (List.mem_of_getElem? (i := 1) (by decide +kernel))) (by decide +kernel), by decide +kernel, by decide +kernel⟩
set_option maxRecDepth 20000 in
theorem vo_X11_pours : VOk yX11_pours cX11_pours 3 (some .int) 2 10 := ⟨mk_X11_pours, lw_good_of (inT3 (List.mem_of_getElem? (i := 120) (by decide +kernel))) (by decide +kernel), lw_good_of (inT3 (List.mem_of_getElem? (i := 121) (by decide +kernel))) (by decide +kernel), by decide +kernel, by decide⟩
set_option maxRecDepth 20000 in
theorem mk_X11_lets : MOk yX11_lets cX11_lets 3 (some .int) 2 := ⟨lw_good_of (inT3 (List.mem_of_getElem? (i := 126) rfl)) rfl, lw_good_of (inT1 (List.mem_of_getElem? (i := 1) (by decide +kernel))) (by decide +kernel), by decide +kernel, by decide +kernel⟩
set_option maxRecDepth 20000 in
theorem vo_X11_lets : VOk yX11_lets cX11_lets 3 (some .int) 2 10 := ⟨mk_X11_lets, lw_good_of (inT3 (List.mem_of_getElem? (i := 124) (by decide +kernel))) (by decide +kernel), lw_good_of (inT3 (List.mem_of_getElem? (i := 125) (by decide +kernel))) (by decide +kernel), by decide +kernel, by decide⟩
set_option maxRecDepth 20000 in
theorem mk_X11_boats : MOk yX11_boats cX11_boats 2 (some .int) 1 := ⟨lw_good_of (inT3 (List.mem_of_getElem? (i := 130) rfl)) rfl, lw_good_of (inT1 (List.mem_of_getElem? (i := 1) (by decide +kernel))) (by decide +kernel), by decide +kernel, by decide +kernel⟩
set_option maxRecDepth 20000 in
theorem vo_X11_boats : VOk yX11_boats cX11_boats 2 (some .int) 1 10 := ⟨mk_X11_boats, lw_good_of (inT3 (List.mem_of_getElem? (i := 128) (by decide +kernel))) (by decide +kernel), lw_good_of (inT3 (List.mem_of_getElem? (i := 129) (by decide +kernel))) (by decide +kernel), by decide +kernel, by decide⟩
set_option maxRecDepth 20000 in
theorem mk_X11_sticks : MOk yX11_sticks cX11_sticks 2 (some .int) 1 := ⟨lw_good_of (inT3 (List.mem_of_getElem? (i := 134) rfl)) rfl, lw_good_of (inT1 (List.mem_of_getElem? (i := 1) (by decide +kernel))) (by decide +kernel), by decide +kernel, by decide +kernel⟩
set_option maxRecDepth 20000 in
theorem vo_X11_sticks : VOk yX11_sticks cX11_sticks 2 (some .int) 1 10 := ⟨mk_X11_sticks, lw_good_of (inT3 (List.mem_of_getElem? (i := 132) (by decide +kernel))) (by decide +kernel), lw_good_of (inT3 (List.mem_of_getElem? (i := 133) (by decide +kernel))) (by decide +kernel), by decide +kernel, by decide⟩
set_option maxRecDepth 20000 in
theorem mk_X11_marks : MOk yX11_marks cX11_marks 3 (some .int) 2 := ⟨lw_good_of (inT3 (List.mem_of_getElem? (i := 138) rfl)) rfl, lw_good_of (inT1 (List.mem_of_getElem? (i := 1) (by decide +kernel))) (by decide +kernel), by decide +kernel, by decide +kernel⟩
set_option maxRecDepth 20000 in
theorem vo_X11_marks : VOk yX11_marks cX11_marks 3 (some .int) 2 10 := ⟨mk_X11_marks, lw_good_of (inT3 (List.mem_of_getElem? (i := 136) (by decide +kernel))) (by decide +kernel), lw_good_of (inT3 (List.mem_of_getElem? (i := 137) (by decide +kernel))) (by decide +kernel), by decide +kernel, by decide⟩
set_option maxRecDepth 20000 in
theorem mk_X11_actThatCanBeUndone : MOk yX11_actThatCanBeUndone cX11_actThatCanBeUndone 6 (some .int) 3 := ⟨lw_good_of (inT3 (List.mem_of_getElem? (i := 20) rfl)) rfl, lw_good_of (inT1 (List.mem_of_getElem? (i := 1) (by decide +kernel))) (by decide +kernel), by decide +kernel, by decide +kernel⟩
set_option maxRecDepth 20000 in
theorem vo_X11_actThatCanBeUndone : VOk yX11_actThatCanBeUndone cX11_actThatCanBeUndone 6 (some .int) 3 10 := ⟨mk_X11_actThatCanBeUndone, lw_good_of (inT3 (List.mem_of_getElem? (i := 19) (by decide +kernel))) (by decide +kernel), lw_good_of (inTp (n := 16) (List.mem_of_getElem? (i := 14) (by decide +kernel))) (by decide +kernel), by decide +kernel, by decide⟩
set_option maxRecDepth 20000 in
theorem mk_X11_act : MOk yX11_act cX11_act 4 (some .int) 3 := ⟨lw_good_of (inT3 (List.mem_of_getElem? (i := 29) rfl)) rfl, lw_good_of (inT1 (List.mem_of_getElem? (i := 1) (by decide +kernel))) (by decide +kernel), by decide +kernel, by decide +kernel⟩
set_option maxRecDepth 20000 in
theorem vo_X11_act : VOk yX11_act cX11_act 4 (some .int) 3 10 := ⟨mk_X11_act, lw_good_of (inT3 (List.mem_of_getElem? (i := 28) (by decide +kernel))) (by decide +kernel), lw_good_of (inTp (n := 16) (List.mem_of_getElem? (i := 15) (by decide +kernel))) (by decide +kernel), by decide +kernel, by decide⟩
set_option maxRecDepth 20000 in
theorem mk_X11_letHoursPass : MOk yX11_letHoursPass cX11_letHoursPass 3 (some .int) 1 := ⟨lw_good_of (inT3 (List.mem_of_getElem? (i := 33) rfl)) rfl, lw_good_of (inT1 (List.mem_of_getElem? (i := 1) (by decide +kernel))) (by decide +kernel), by decide +kernel, by decide +kernel⟩
set_option maxRecDepth 20000 in
theorem vo_X11_letHoursPass : VOk yX11_letHoursPass cX11_letHoursPass 3 (some .int) 1 10 := ⟨mk_X11_letHoursPass, lw_good_of (inT3 (List.mem_of_getElem? (i := 32) (by decide +kernel))) (by decide +kernel), lw_good_of (inTp (n := 16) (List.mem_of_getElem? (i := 16) (by decide +kernel))) (by decide +kernel), by decide +kernel, by decide⟩
set_option maxRecDepth 20000 in
theorem mk_X11_pour : MOk yX11_pour cX11_pour 3 (some .int) 2 := ⟨lw_good_of (inT3 (List.mem_of_getElem? (i := 73) rfl)) rfl, lw_good_of (inT1 (List.mem_of_getElem? (i := 1) (by decide +kernel))) (by decide +kernel), by decide +kernel, by decide +kernel⟩
set_option maxRecDepth 20000 in
theorem vo_X11_pour : VOk yX11_pour cX11_pour 3 (some .int) 2 10 := ⟨mk_X11_pour, lw_good_of (inT3 (List.mem_of_getElem? (i := 72) (by decide +kernel))) (by decide +kernel), lw_good_of (inTp (n := 16) (List.mem_of_getElem? (i := 19) (by decide +kernel))) (by decide +kernel), by decide +kernel, by decide⟩
set_option maxRecDepth 20000 in
theorem mk_X11_letOut : MOk yX11_letOut cX11_letOut 3 (some .int) 2 := ⟨lw_good_of (inT3 (List.mem_of_getElem? (i := 81) rfl)) rfl, lw_good_of (inT1 (List.mem_of_getElem? (i := 1) (by decide +kernel))) (by decide +kernel), by decide +kernel, by decide +kernel⟩
set_option maxRecDepth 20000 in
theorem vo_X11_letOut : VOk yX11_letOut cX11_letOut 3 (some .int) 2 10 := ⟨mk_X11_letOut, lw_good_of (inT3 (List.mem_of_getElem? (i := 80) (by decide +kernel))) (by decide +kernel), lw_good_of (inTp (n := 16) (List.mem_of_getElem? (i := 20) (by decide +kernel))) (by decide +kernel), by decide +kernel, by decide⟩
set_option maxRecDepth 20000 in
theorem mk_X11_sendBoat : MOk yX11_sendBoat cX11_sendBoat 2 (some .int) 1 := ⟨lw_good_of (inT3 (List.mem_of_getElem? (i := 85) rfl)) rfl, lw_good_of (inT1 (List.mem_of_getElem? (i := 1) (by decide +kernel))) (by decide +kernel), by decide +kernel, by decide +kernel⟩
set_option maxRecDepth 20000 in
theorem vo_X11_sendBoat : VOk yX11_sendBoat cX11_sendBoat 2 (some .int) 1 10 := ⟨mk_X11_sendBoat, lw_good_of (inT3 (List.mem_of_getElem? (i := 84) (by decide +kernel))) (by decide +kernel), lw_good_of (inTp (n := 16) (List.mem_of_getElem? (i := 21) (by decide +kernel))) (by decide +kernel), by decide +kernel, by decide⟩
set_option maxRecDepth 20000 in
theorem mk_X11_stick : MOk yX11_stick cX11_stick 2 (some .int) 1 := ⟨lw_good_of (inT3 (List.mem_of_getElem? (i := 97) rfl)) rfl, lw_good_of (inT1 (List.mem_of_getElem? (i := 1) (by decide +kernel))) (by decide +kernel), by decide +kernel, by decide +kernel⟩
set_option maxRecDepth 20000 in
theorem vo_X11_stick : VOk yX11_stick cX11_stick 2 (some .int) 1 10 := ⟨mk_X11_stick, lw_good_of (inT3 (List.mem_of_getElem? (i := 96) (by decide +kernel))) (by decide +kernel), lw_good_of (inTp (n := 16) (List.mem_of_getElem? (i := 22) (by decide +kernel))) (by decide +kernel), by decide +kernel, by decide⟩
set_option maxRecDepth 20000 in
theorem mk_X11_setMark : MOk yX11_setMark cX11_setMark 4 (some .int) 2 := ⟨lw_good_of (inT3 (List.mem_of_getElem? (i := 101) rfl)) rfl, lw_good_of (inT1 (List.mem_of_getElem? (i := 1) (by decide +kernel))) (by decide +kernel), by decide +kernel, by decide +kernel⟩
set_option maxRecDepth 20000 in
theorem vo_X11_setMark : VOk yX11_setMark cX11_setMark 4 (some .int) 2 10 := ⟨mk_X11_setMark, lw_good_of (inT3 (List.mem_of_getElem? (i := 100) (by decide +kernel))) (by decide +kernel), lw_good_of (inTp (n := 16) (List.mem_of_getElem? (i := 23) (by decide +kernel))) (by decide +kernel), by decide +kernel, by decide⟩
set_option maxRecDepth 20000 in
theorem mk_X11_night : MOk yX11_night cX11_night 5 (some .int) 0 := ⟨lw_good_of (inT3 (List.mem_of_getElem? (i := 142) rfl)) rfl, lw_good_of (inT1 (List.mem_of_getElem? (i := 1) (by decide +kernel))) (by decide +kernel), by decide +kernel, by decide +kernel⟩
set_option maxRecDepth 20000 in
theorem vo_X11_night : VOk yX11_night cX11_night 5 (some .int) 0 10 := ⟨mk_X11_night, lw_good_of (inT3 (List.mem_of_getElem? (i := 140) (by decide +kernel))) (by decide +kernel), lw_good_of (inT3 (List.mem_of_getElem? (i := 141) (by decide +kernel))) (by decide +kernel), by decide +kernel, by decide⟩
set_option maxRecDepth 20000 in
theorem mk_X11_wrongSignOfNight : MOk yX11_wrongSignOfNight cX11_wrongSignOfNight 4 (some .int) 0 := ⟨lw_good_of (inT3 (List.mem_of_getElem? (i := 146) rfl)) rfl, lw_good_of (inT1 (List.mem_of_getElem? (i := 1) (by decide +kernel))) (by decide +kernel), by decide +kernel, by decide +kernel⟩
set_option maxRecDepth 20000 in
theorem vo_X11_wrongSignOfNight : VOk yX11_wrongSignOfNight cX11_wrongSignOfNight 4 (some .int) 0 10 := ⟨mk_X11_wrongSignOfNight, lw_good_of (inT3 (List.mem_of_getElem? (i := 145) (by decide +kernel))) (by decide +kernel), lw_good_of (inTp (n := 16) (List.mem_of_getElem? (i := 25) (by decide +kernel))) (by decide +kernel), by decide +kernel, by decide⟩
set_option maxRecDepth 20000 in
theorem mk_X11_standsInAct : MOk yX11_standsInAct cX11_standsInAct 5 (some .boolean) 3 := ⟨lw_good_of (inT3 (List.mem_of_getElem? (i := 150) rfl)) rfl, lw_good_of (inT1 (List.mem_of_getElem? (i := 1) (by decide +kernel))) (by decide +kernel), by decide +kernel, by decide +kernel⟩
set_option maxRecDepth 20000 in
theorem vo_X11_standsInAct : VOk yX11_standsInAct cX11_standsInAct 5 (some .boolean) 3 10 := ⟨mk_X11_standsInAct, lw_good_of (inT3 (List.mem_of_getElem? (i := 149) (by decide +kernel))) (by decide +kernel), lw_good_of (inTp (n := 16) (List.mem_of_getElem? (i := 26) (by decide +kernel))) (by decide +kernel), by decide +kernel, by decide⟩
set_option maxRecDepth 20000 in
theorem mk_X11_signsOfAct : MOk yX11_signsOfAct cX11_signsOfAct 1 (some .int) 1 := ⟨lw_good_of (inT3 (List.mem_of_getElem? (i := 153) rfl)) rfl, lw_good_of (inT1 (List.mem_of_getElem? (i := 1) (by decide +kernel))) (by decide +kernel), by decide +kernel, by decide +kernel⟩
set_option maxRecDepth 20000 in
theorem so_X11_signsOfAct : SOk yX11_signsOfAct cX11_signsOfAct 1 (some .int) 1 := ⟨mk_X11_signsOfAct, lw_good_of (inT3 (List.mem_of_getElem? (i := 152) (by decide +kernel))) (by decide +kernel), by decide⟩
set_option maxRecDepth 20000 in
theorem mk_X11_undo : MOk yX11_undo cX11_undo 1 (some .int) 0 := ⟨lw_good_of (inT3 (List.mem_of_getElem? (i := 157) rfl)) rfl, lw_good_of (inT1 (List.mem_of_getElem? (i := 1) (by decide +kernel))) (by decide +kernel), by decide +kernel, by decide +kernel⟩
set_option maxRecDepth 20000 in
theorem vo_X11_undo : VOk yX11_undo cX11_undo 1 (some .int) 0 10 := ⟨mk_X11_undo, lw_good_of (inT3 (List.mem_of_getElem? (i := 155) (by decide +kernel))) (by decide +kernel), lw_good_of (inT3 (List.mem_of_getElem? (i := 156) (by decide +kernel))) (by decide +kernel), by decide +kernel, by decide⟩
set_option maxRecDepth 20000 in
theorem mk_X11_later : MOk yX11_later cX11_later 3 (some .int) 2 := ⟨lw_good_of (inT3 (List.mem_of_getElem? (i := 165) rfl)) rfl, lw_good_of (inT1 (List.mem_of_getElem? (i := 1) (by decide +kernel))) (by decide +kernel), by decide +kernel, by decide +kernel⟩
set_option maxRecDepth 20000 in
theorem vo_X11_later : VOk yX11_later cX11_later 3 (some .int) 2 10 := ⟨mk_X11_later, lw_good_of (inT3 (List.mem_of_getElem? (i := 163) (by decide +kernel))) (by decide +kernel), lw_good_of (inT3 (List.mem_of_getElem? (i := 164) (by decide +kernel))) (by decide +kernel), by decide +kernel, by decide⟩
set_option maxRecDepth 20000 in
theorem mk_X11_marked : MOk yX11_marked cX11_marked 5 (some .int) 1 := ⟨lw_good_of (inT3 (List.mem_of_getElem? (i := 178) rfl)) rfl, lw_good_of (inT1 (List.mem_of_getElem? (i := 1) (by decide +kernel))) (by decide +kernel), by decide +kernel, by decide +kernel⟩
set_option maxRecDepth 20000 in
theorem vo_X11_marked : VOk yX11_marked cX11_marked 5 (some .int) 1 10 := ⟨mk_X11_marked, lw_good_of (inT3 (List.mem_of_getElem? (i := 176) (by decide +kernel))) (by decide +kernel), lw_good_of (inT3 (List.mem_of_getElem? (i := 177) (by decide +kernel))) (by decide +kernel), by decide +kernel, by decide⟩
set_option maxRecDepth 20000 in
theorem mk_X11_round : MOk yX11_round cX11_round 3 (some .int) 0 := ⟨lw_good_of (inT3 (List.mem_of_getElem? (i := 186) rfl)) rfl, lw_good_of (inT1 (List.mem_of_getElem? (i := 1) (by decide +kernel))) (by decide +kernel), by decide +kernel, by decide +kernel⟩
set_option maxRecDepth 20000 in
theorem vo_X11_round : VOk yX11_round cX11_round 3 (some .int) 0 10 := ⟨mk_X11_round, lw_good_of (inT3 (List.mem_of_getElem? (i := 184) (by decide +kernel))) (by decide +kernel), lw_good_of (inT3 (List.mem_of_getElem? (i := 185) (by decide +kernel))) (by decide +kernel), by decide +kernel, by decide⟩
set_option maxRecDepth 20000 in
theorem mk_X11_differentSums : MOk yX11_differentSums cX11_differentSums 6 (some .int) 2 := ⟨lw_good_of (inT3 (List.mem_of_getElem? (i := 198) rfl)) rfl, lw_good_of (inT1 (List.mem_of_getElem? (i := 1) (by decide +kernel))) (by decide +kernel), by decide +kernel, by decide +kernel⟩
set_option maxRecDepth 20000 in
theorem vo_X11_differentSums : VOk yX11_differentSums cX11_differentSums 6 (some .int) 2 10 := ⟨mk_X11_differentSums, lw_good_of (inT3 (List.mem_of_getElem? (i := 197) (by decide +kernel))) (by decide +kernel), lw_good_of (inTp (n := 16) (List.mem_of_getElem? (i := 29) (by decide +kernel))) (by decide +kernel), by decide +kernel, by decide⟩
set_option maxRecDepth 20000 in
theorem mk_X11_still : MOk yX11_still cX11_still 4 (some .int) 0 := ⟨lw_good_of (inT3 (List.mem_of_getElem? (i := 214) rfl)) rfl, lw_good_of (inT1 (List.mem_of_getElem? (i := 1) (by decide +kernel))) (by decide +kernel), by decide +kernel, by decide +kernel⟩
set_option maxRecDepth 20000 in
theorem vo_X11_still : VOk yX11_still cX11_still 4 (some .int) 0 10 := ⟨mk_X11_still, lw_good_of (inT3 (List.mem_of_getElem? (i := 212) (by decide +kernel))) (by decide +kernel), lw_good_of (inT3 (List.mem_of_getElem? (i := 213) (by decide +kernel))) (by decide +kernel), by decide +kernel, by decide⟩
set_option maxRecDepth 20000 in
theorem mk_X11_traceTrial : MOk yX11_traceTrial cX11_traceTrial 3 none 1 := ⟨lw_good_of (inT3 (List.mem_of_getElem? (i := 190) rfl)) rfl, lw_good_of (inT1 (List.mem_of_getElem? (i := 1) (by decide +kernel))) (by decide +kernel), by decide +kernel, by decide +kernel⟩
set_option maxRecDepth 20000 in
theorem vo_X11_traceTrial : VOk yX11_traceTrial cX11_traceTrial 3 none 1 10 := ⟨mk_X11_traceTrial, lw_good_of (inT3 (List.mem_of_getElem? (i := 189) (by decide +kernel))) (by decide +kernel), lw_good_of (inTp (n := 16) (List.mem_of_getElem? (i := 28) (by decide +kernel))) (by decide +kernel), by decide +kernel, by decide⟩
set_option maxRecDepth 20000 in
theorem mk_X11_busiest : MOk yX11_busiest cX11_busiest 4 (some .int) 1 := ⟨lw_good_of (inT3 (List.mem_of_getElem? (i := 222) rfl)) rfl, lw_good_of (inT1 (List.mem_of_getElem? (i := 1) (by decide +kernel))) (by decide +kernel), by decide +kernel, by decide +kernel⟩
set_option maxRecDepth 20000 in
theorem vo_X11_busiest : VOk yX11_busiest cX11_busiest 4 (some .int) 1 10 := ⟨mk_X11_busiest, lw_good_of (inT3 (List.mem_of_getElem? (i := 220) (by decide +kernel))) (by decide +kernel), lw_good_of (inT3 (List.mem_of_getElem? (i := 221) (by decide +kernel))) (by decide +kernel), by decide +kernel, by decide⟩
set_option maxRecDepth 20000 in
theorem mk_X11_high : MOk yX11_high cX11_high 5 (some .int) 1 := ⟨lw_good_of (inT3 (List.mem_of_getElem? (i := 226) rfl)) rfl, lw_good_of (inT1 (List.mem_of_getElem? (i := 1) (by decide +kernel))) (by decide +kernel), by decide +kernel, by decide +kernel⟩
set_option maxRecDepth 20000 in
theorem vo_X11_high : VOk yX11_high cX11_high 5 (some .int) 1 10 := ⟨mk_X11_high, lw_good_of (inT3 (List.mem_of_getElem? (i := 224) (by decide +kernel))) (by decide +kernel), lw_good_of (inT3 (List.mem_of_getElem? (i := 225) (by decide +kernel))) (by decide +kernel), by decide +kernel, by decide⟩
set_option maxRecDepth 20000 in
theorem mk_X11_startTrial : MOk yX11_startTrial cX11_startTrial 1 none 0 := ⟨lw_good_of (inT3 (List.mem_of_getElem? (i := 169) rfl)) rfl, lw_good_of (inT1 (List.mem_of_getElem? (i := 1) (by decide +kernel))) (by decide +kernel), by decide +kernel, by decide +kernel⟩
set_option maxRecDepth 20000 in
theorem vo_X11_startTrial : VOk yX11_startTrial cX11_startTrial 1 none 0 10 := ⟨mk_X11_startTrial, lw_good_of (inT3 (List.mem_of_getElem? (i := 168) (by decide +kernel))) (by decide +kernel), lw_good_of (inTp (n := 16) (List.mem_of_getElem? (i := 27) (by decide +kernel))) (by decide +kernel), by decide +kernel, by decide⟩
set_option maxRecDepth 20000 in
theorem mk_X11_together : MOk yX11_together cX11_together 4 (some .int) 1 := ⟨lw_good_of (inT3 (List.mem_of_getElem? (i := 12) rfl)) rfl, lw_good_of (inT1 (List.mem_of_getElem? (i := 1) (by decide +kernel))) (by decide +kernel), by decide +kernel, by decide +kernel⟩
set_option maxRecDepth 20000 in
theorem vo_X11_together : VOk yX11_together cX11_together 4 (some .int) 1 10 := ⟨mk_X11_together, lw_good_of (inT3 (List.mem_of_getElem? (i := 11) (by decide +kernel))) (by decide +kernel), lw_good_of (inTp (n := 16) (List.mem_of_getElem? (i := 13) (by decide +kernel))) (by decide +kernel), by decide +kernel, by decide⟩
set_option maxRecDepth 20000 in
theorem mk_X11_table : MOk yX11_table cX11_table 7 (some .int) 4 := ⟨lw_good_of (inT3 (List.mem_of_getElem? (i := 230) rfl)) rfl, lw_good_of (inT1 (List.mem_of_getElem? (i := 1) (by decide +kernel))) (by decide +kernel), by decide +kernel, by decide +kernel⟩
set_option maxRecDepth 20000 in
theorem vo_X11_table : VOk yX11_table cX11_table 7 (some .int) 4 10 := ⟨mk_X11_table, lw_good_of (inT3 (List.mem_of_getElem? (i := 228) (by decide +kernel))) (by decide +kernel), lw_good_of (inT3 (List.mem_of_getElem? (i := 229) (by decide +kernel))) (by decide +kernel), by decide +kernel, by decide⟩
set_option maxRecDepth 20000 in
theorem mk_X11_quarters : MOk yX11_quarters cX11_quarters 7 (some .int) 2 := ⟨lw_good_of (inT4 (List.mem_of_getElem? (i := 2) rfl)) rfl, lw_good_of (inT1 (List.mem_of_getElem? (i := 1) (by decide +kernel))) (by decide +kernel), by decide +kernel, by decide +kernel⟩
set_option maxRecDepth 20000 in
theorem vo_X11_quarters : VOk yX11_quarters cX11_quarters 7 (some .int) 2 10 := ⟨mk_X11_quarters, lw_good_of (inT4 (List.mem_of_getElem? (i := 0) (by decide +kernel))) (by decide +kernel), lw_good_of (inT4 (List.mem_of_getElem? (i := 1) (by decide +kernel))) (by decide +kernel), by decide +kernel, by decide⟩
set_option maxRecDepth 20000 in
theorem mk_X11_tellFirstQuarter : MOk yX11_tellFirstQuarter cX11_tellFirstQuarter 5 none 4 := ⟨lw_good_of (inT4 (List.mem_of_getElem? (i := 14) rfl)) rfl, lw_good_of (inT1 (List.mem_of_getElem? (i := 1) (by decide +kernel))) (by decide +kernel), by decide +kernel, by decide +kernel⟩
set_option maxRecDepth 20000 in
theorem vo_X11_tellFirstQuarter : VOk yX11_tellFirstQuarter cX11_tellFirstQuarter 5 none 4 10 := ⟨mk_X11_tellFirstQuarter, lw_good_of (inT4 (List.mem_of_getElem? (i := 13) (by decide +kernel))) (by decide +kernel), lw_good_of (inTp (n := 16) (List.mem_of_getElem? (i := 34) (by decide +kernel))) (by decide +kernel), by decide +kernel, by decide⟩
set_option maxRecDepth 20000 in
theorem mk_X11_putTablesIntoMasks : MOk yX11_putTablesIntoMasks cX11_putTablesIntoMasks 6 none 3 := ⟨lw_good_of (inT4 (List.mem_of_getElem? (i := 6) rfl)) rfl, lw_good_of (inT1 (List.mem_of_getElem? (i := 1) (by decide +kernel))) (by decide +kernel), by decide +kernel, by decide +kernel⟩
set_option maxRecDepth 20000 in
theorem vo_X11_putTablesIntoMasks : VOk yX11_putTablesIntoMasks cX11_putTablesIntoMasks 6 none 3 10 := ⟨mk_X11_putTablesIntoMasks, lw_good_of (inT4 (List.mem_of_getElem? (i := 5) (by decide +kernel))) (by decide +kernel), lw_good_of (inTp (n := 16) (List.mem_of_getElem? (i := 32) (by decide +kernel))) (by decide +kernel), by decide +kernel, by decide⟩
set_option maxRecDepth 20000 in
theorem mk_X11_learns : MOk yX11_learns cX11_learns 8 (some .int) 4 := ⟨lw_good_of (inT4 (List.mem_of_getElem? (i := 18) rfl)) rfl, lw_good_of (inT1 (List.mem_of_getElem? (i := 1) (by decide +kernel))) (by decide +kernel), by decide +kernel, by decide +kernel⟩
set_option maxRecDepth 20000 in
theorem vo_X11_learns : VOk yX11_learns cX11_learns 8 (some .int) 4 10 := ⟨mk_X11_learns, lw_good_of (inT4 (List.mem_of_getElem? (i := 16) (by decide +kernel))) (by decide +kernel), lw_good_of (inT4 (List.mem_of_getElem? (i := 17) (by decide +kernel))) (by decide +kernel), by decide +kernel, by decide⟩
set_option maxRecDepth 20000 in
theorem mk_X11_putTablesIntoTrace : MOk yX11_putTablesIntoTrace cX11_putTablesIntoTrace 8 none 3 := ⟨lw_good_of (inT4 (List.mem_of_getElem? (i := 22) rfl)) rfl, lw_good_of (inT1 (List.mem_of_getElem? (i := 1) (by decide +kernel))) (by decide +kernel), by decide +kernel, by decide +kernel⟩
set_option maxRecDepth 20000 in
theorem vo_X11_putTablesIntoTrace : VOk yX11_putTablesIntoTrace cX11_putTablesIntoTrace 8 none 3 10 := ⟨mk_X11_putTablesIntoTrace, lw_good_of (inT4 (List.mem_of_getElem? (i := 21) (by decide +kernel))) (by decide +kernel), lw_good_of (inTp (n := 16) (List.mem_of_getElem? (i := 35) (by decide +kernel))) (by decide +kernel), by decide +kernel, by decide⟩
set_option maxRecDepth 20000 in
theorem mk_X11_areQuarter : MOk yX11_areQuarter cX11_areQuarter 4 (some .boolean) 3 := ⟨lw_good_of (inT3 (List.mem_of_getElem? (i := 234) rfl)) rfl, lw_good_of (inT1 (List.mem_of_getElem? (i := 1) (by decide +kernel))) (by decide +kernel), by decide +kernel, by decide +kernel⟩
set_option maxRecDepth 20000 in
theorem vo_X11_areQuarter : VOk yX11_areQuarter cX11_areQuarter 4 (some .boolean) 3 10 := ⟨mk_X11_areQuarter, lw_good_of (inT3 (List.mem_of_getElem? (i := 233) (by decide +kernel))) (by decide +kernel), lw_good_of (inTp (n := 16) (List.mem_of_getElem? (i := 30) (by decide +kernel))) (by decide +kernel), by decide +kernel, by decide⟩
set_option maxRecDepth 20000 in
theorem mk_X11_startSent : MOk yX11_startSent cX11_startSent 4 none 3 := ⟨lw_good_of (inT3 (List.mem_of_getElem? (i := 238) rfl)) rfl, lw_good_of (inT1 (List.mem_of_getElem? (i := 1) (by decide +kernel))) (by decide +kernel), by decide +kernel, by decide +kernel⟩
set_option maxRecDepth 20000 in
theorem vo_X11_startSent : VOk yX11_startSent cX11_startSent 4 none 3 10 := ⟨mk_X11_startSent, lw_good_of (inT3 (List.mem_of_getElem? (i := 237) (by decide +kernel))) (by decide +kernel), lw_good_of (inTp (n := 16) (List.mem_of_getElem? (i := 31) (by decide +kernel))) (by decide +kernel), by decide +kernel, by decide⟩
set_option maxRecDepth 20000 in
theorem mk_X11_clearMasks : MOk yX11_clearMasks cX11_clearMasks 2 none 0 := ⟨lw_good_of (inT4 (List.mem_of_getElem? (i := 10) rfl)) rfl, lw_good_of (inT1 (List.mem_of_getElem? (i := 1) (by decide +kernel))) (by decide +kernel), by decide +kernel, by decide +kernel⟩
set_option maxRecDepth 20000 in
theorem vo_X11_clearMasks : VOk yX11_clearMasks cX11_clearMasks 2 none 0 10 := ⟨mk_X11_clearMasks, lw_good_of (inT4 (List.mem_of_getElem? (i := 9) (by decide +kernel))) (by decide +kernel), lw_good_of (inTp (n := 16) (List.mem_of_getElem? (i := 33) (by decide +kernel))) (by decide +kernel), by decide +kernel, by decide⟩
set_option maxRecDepth 20000 in
theorem mk_X11_words : MOk yX11_words cX11_words 6 (some .int) 3 := ⟨lw_good_of (inT4 (List.mem_of_getElem? (i := 26) rfl)) rfl, lw_good_of (inT1 (List.mem_of_getElem? (i := 1) (by decide +kernel))) (by decide +kernel), by decide +kernel, by decide +kernel⟩
set_option maxRecDepth 20000 in
theorem vo_X11_words : VOk yX11_words cX11_words 6 (some .int) 3 10 := ⟨mk_X11_words, lw_good_of (inT4 (List.mem_of_getElem? (i := 24) (by decide +kernel))) (by decide +kernel), lw_good_of (inT4 (List.mem_of_getElem? (i := 25) (by decide +kernel))) (by decide +kernel), by decide +kernel, by decide⟩
set_option maxRecDepth 20000 in
theorem mk_X11_hears : MOk yX11_hears cX11_hears 6 (some .int) 2 := ⟨lw_good_of (inT4 (List.mem_of_getElem? (i := 40) rfl)) rfl, lw_good_of (inT1 (List.mem_of_getElem? (i := 1) (by decide +kernel))) (by decide +kernel), by decide +kernel, by decide +kernel⟩
set_option maxRecDepth 20000 in
theorem vo_X11_hears : VOk yX11_hears cX11_hears 6 (some .int) 2 10 := ⟨mk_X11_hears, lw_good_of (inT4 (List.mem_of_getElem? (i := 38) (by decide +kernel))) (by decide +kernel), lw_good_of (inT4 (List.mem_of_getElem? (i := 39) (by decide +kernel))) (by decide +kernel), by decide +kernel, by decide⟩
set_option maxRecDepth 20000 in
theorem mk_X11_drought : MOk yX11_drought cX11_drought 7 (some .int) 3 := ⟨lw_good_of (inT4 (List.mem_of_getElem? (i := 44) rfl)) rfl, lw_good_of (inT1 (List.mem_of_getElem? (i := 1) (by decide +kernel))) (by decide +kernel), by decide +kernel, by decide +kernel⟩
set_option maxRecDepth 20000 in
theorem vo_X11_drought : VOk yX11_drought cX11_drought 7 (some .int) 3 10 := ⟨mk_X11_drought, lw_good_of (inT4 (List.mem_of_getElem? (i := 42) (by decide +kernel))) (by decide +kernel), lw_good_of (inT4 (List.mem_of_getElem? (i := 43) (by decide +kernel))) (by decide +kernel), by decide +kernel, by decide⟩
set_option maxRecDepth 20000 in
theorem mk_X11_runWithLevel : MOk yX11_runWithLevel cX11_runWithLevel 4 none 3 := ⟨lw_good_of (inT4 (List.mem_of_getElem? (i := 30) rfl)) rfl, lw_good_of (inT1 (List.mem_of_getElem? (i := 1) (by decide +kernel))) (by decide +kernel), by decide +kernel, by decide +kernel⟩
set_option maxRecDepth 20000 in
theorem vo_X11_runWithLevel : VOk yX11_runWithLevel cX11_runWithLevel 4 none 3 10 := ⟨mk_X11_runWithLevel, lw_good_of (inT4 (List.mem_of_getElem? (i := 29) (by decide +kernel))) (by decide +kernel), lw_good_of (inTp (n := 16) (List.mem_of_getElem? (i := 36) (by decide +kernel))) (by decide +kernel), by decide +kernel, by decide⟩
set_option maxRecDepth 20000 in
theorem mk_X11_saw : MOk yX11_saw cX11_saw 4 (some .int) 3 := ⟨lw_good_of (inT4 (List.mem_of_getElem? (i := 48) rfl)) rfl, lw_good_of (inT1 (List.mem_of_getElem? (i := 1) (by decide +kernel))) (by decide +kernel), by decide +kernel, by decide +kernel⟩
set_option maxRecDepth 20000 in
theorem vo_X11_saw : VOk yX11_saw cX11_saw 4 (some .int) 3 10 := ⟨mk_X11_saw, lw_good_of (inT4 (List.mem_of_getElem? (i := 46) (by decide +kernel))) (by decide +kernel), lw_good_of (inT4 (List.mem_of_getElem? (i := 47) (by decide +kernel))) (by decide +kernel), by decide +kernel, by decide⟩
set_option maxRecDepth 20000 in
theorem mk_X11_forget : MOk yX11_forget cX11_forget 1 (some .int) 0 := ⟨lw_good_of (inT4 (List.mem_of_getElem? (i := 56) rfl)) rfl, lw_good_of (inT1 (List.mem_of_getElem? (i := 1) (by decide +kernel))) (by decide +kernel), by decide +kernel, by decide +kernel⟩
set_option maxRecDepth 20000 in
theorem vo_X11_forget : VOk yX11_forget cX11_forget 1 (some .int) 0 10 := ⟨mk_X11_forget, lw_good_of (inT4 (List.mem_of_getElem? (i := 54) (by decide +kernel))) (by decide +kernel), lw_good_of (inT4 (List.mem_of_getElem? (i := 55) (by decide +kernel))) (by decide +kernel), by decide +kernel, by decide⟩
set_option maxRecDepth 20000 in
theorem mk_X11_fits : MOk yX11_fits cX11_fits 3 (some .int) 0 := ⟨lw_good_of (inT4 (List.mem_of_getElem? (i := 64) rfl)) rfl, lw_good_of (inT1 (List.mem_of_getElem? (i := 1) (by decide +kernel))) (by decide +kernel), by decide +kernel, by decide +kernel⟩
set_option maxRecDepth 20000 in
theorem vo_X11_fits : VOk yX11_fits cX11_fits 3 (some .int) 0 10 := ⟨mk_X11_fits, lw_good_of (inT4 (List.mem_of_getElem? (i := 62) (by decide +kernel))) (by decide +kernel), lw_good_of (inT4 (List.mem_of_getElem? (i := 63) (by decide +kernel))) (by decide +kernel), by decide +kernel, by decide⟩
set_option maxRecDepth 20000 in
theorem mk_X11_fittingSluices : MOk yX11_fittingSluices cX11_fittingSluices 3 (some .int) 0 := ⟨lw_good_of (inT4 (List.mem_of_getElem? (i := 68) rfl)) rfl, lw_good_of (inT1 (List.mem_of_getElem? (i := 1) (by decide +kernel))) (by decide +kernel), by decide +kernel, by decide +kernel⟩
set_option maxRecDepth 20000 in
theorem vo_X11_fittingSluices : VOk yX11_fittingSluices cX11_fittingSluices 3 (some .int) 0 10 := ⟨mk_X11_fittingSluices, lw_good_of (inT4 (List.mem_of_getElem? (i := 67) (by decide +kernel))) (by decide +kernel), lw_good_of (inTp (n := 16) (List.mem_of_getElem? (i := 37) (by decide +kernel))) (by decide +kernel), by decide +kernel, by decide⟩
set_option maxRecDepth 20000 in
theorem mk_X11_isAsSeen : MOk yX11_isAsSeen cX11_isAsSeen 4 (some .boolean) 1 := ⟨lw_good_of (inT4 (List.mem_of_getElem? (i := 72) rfl)) rfl, lw_good_of (inT1 (List.mem_of_getElem? (i := 1) (by decide +kernel))) (by decide +kernel), by decide +kernel, by decide +kernel⟩
set_option maxRecDepth 20000 in
theorem vo_X11_isAsSeen : VOk yX11_isAsSeen cX11_isAsSeen 4 (some .boolean) 1 10 := ⟨mk_X11_isAsSeen, lw_good_of (inT4 (List.mem_of_getElem? (i := 71) (by decide +kernel))) (by decide +kernel), lw_good_of (inTp (n := 16) (List.mem_of_getElem? (i := 38) (by decide +kernel))) (by decide +kernel), by decide +kernel, by decide⟩
set_option maxRecDepth 20000 in
theorem mk_X11_looks : MOk yX11_looks cX11_looks 6 (some .int) 0 := ⟨lw_good_of (inT4 (List.mem_of_getElem? (i := 85) rfl)) rfl, lw_good_of (inT1 (List.mem_of_getElem? (i := 1) (by decide +kernel))) (by decide +kernel), by decide +kernel, by decide +kernel⟩
set_option maxRecDepth 20000 in
theorem vo_X11_looks : VOk yX11_looks cX11_looks 6 (some .int) 0 10 := ⟨mk_X11_looks, lw_good_of (inT4 (List.mem_of_getElem? (i := 83) (by decide +kernel))) (by decide +kernel), lw_good_of (inT4 (List.mem_of_getElem? (i := 84) (by decide +kernel))) (by decide +kernel), by decide +kernel, by decide⟩
set_option maxRecDepth 20000 in
theorem mk_X11_traceEach : MOk yX11_traceEach cX11_traceEach 4 none 1 := ⟨lw_good_of (inT4 (List.mem_of_getElem? (i := 89) rfl)) rfl, lw_good_of (inT1 (List.mem_of_getElem? (i := 1) (by decide +kernel))) (by decide +kernel), by decide +kernel, by decide +kernel⟩
set_option maxRecDepth 20000 in
theorem vo_X11_traceEach : VOk yX11_traceEach cX11_traceEach 4 none 1 10 := ⟨mk_X11_traceEach, lw_good_of (inT4 (List.mem_of_getElem? (i := 88) (by decide +kernel))) (by decide +kernel), lw_good_of (inTp (n := 16) (List.mem_of_getElem? (i := 39) (by decide +kernel))) (by decide +kernel), by decide +kernel, by decide⟩
set_option maxRecDepth 20000 in
theorem mk_X11_mostLeft : MOk yX11_mostLeft cX11_mostLeft 9 (some .int) 3 := ⟨lw_good_of (inT4 (List.mem_of_getElem? (i := 93) rfl)) rfl, lw_good_of (inT1 (List.mem_of_getElem? (i := 1) (by decide +kernel))) (by decide +kernel), by decide +kernel, by decide +kernel⟩
set_option maxRecDepth 20000 in
theorem vo_X11_mostLeft : VOk yX11_mostLeft cX11_mostLeft 9 (some .int) 3 10 := ⟨mk_X11_mostLeft, lw_good_of (inT4 (List.mem_of_getElem? (i := 92) (by decide +kernel))) (by decide +kernel), lw_good_of (inTp (n := 16) (List.mem_of_getElem? (i := 40) (by decide +kernel))) (by decide +kernel), by decide +kernel, by decide⟩
set_option maxRecDepth 20000 in
theorem mk_X11_needs : MOk yX11_needs cX11_needs 6 (some .int) 2 := ⟨lw_good_of (inT4 (List.mem_of_getElem? (i := 98) rfl)) rfl, lw_good_of (inT1 (List.mem_of_getElem? (i := 1) (by decide +kernel))) (by decide +kernel), by decide +kernel, by decide +kernel⟩
set_option maxRecDepth 20000 in
theorem vo_X11_needs : VOk yX11_needs cX11_needs 6 (some .int) 2 10 := ⟨mk_X11_needs, lw_good_of (inT4 (List.mem_of_getElem? (i := 96) (by decide +kernel))) (by decide +kernel), lw_good_of (inT4 (List.mem_of_getElem? (i := 97) (by decide +kernel))) (by decide +kernel), by decide +kernel, by decide⟩
set_option maxRecDepth 20000 in
theorem mk_X11_levelWithStuck : MOk yX11_levelWithStuck cX11_levelWithStuck 4 (some .int) 3 := ⟨lw_good_of (inT4 (List.mem_of_getElem? (i := 102) rfl)) rfl, lw_good_of (inT1 (List.mem_of_getElem? (i := 1) (by decide +kernel))) (by decide +kernel), by decide +kernel, by decide +kernel⟩
set_option maxRecDepth 20000 in
theorem vo_X11_levelWithStuck : VOk yX11_levelWithStuck cX11_levelWithStuck 4 (some .int) 3 10 := ⟨mk_X11_levelWithStuck, lw_good_of (inT4 (List.mem_of_getElem? (i := 101) (by decide +kernel))) (by decide +kernel), lw_good_of (inTp (n := 16) (List.mem_of_getElem? (i := 41) (by decide +kernel))) (by decide +kernel), by decide +kernel, by decide⟩
set_option maxRecDepth 20000 in
theorem mk_X11_reach : MOk yX11_reach cX11_reach 3 (some .int) 1 := ⟨lw_good_of (inT4 (List.mem_of_getElem? (i := 106) rfl)) rfl, lw_good_of (inT1 (List.mem_of_getElem? (i := 1) (by decide +kernel))) (by decide +kernel), by decide +kernel, by decide +kernel⟩
set_option maxRecDepth 20000 in
theorem vo_X11_reach : VOk yX11_reach cX11_reach 3 (some .int) 1 10 := ⟨mk_X11_reach, lw_good_of (inT4 (List.mem_of_getElem? (i := 104) (by decide +kernel))) (by decide +kernel), lw_good_of (inT4 (List.mem_of_getElem? (i := 105) (by decide +kernel))) (by decide +kernel), by decide +kernel, by decide⟩
set_option maxRecDepth 20000 in
theorem mk_X11_way : MOk yX11_way cX11_way 4 (some .int) 2 := ⟨lw_good_of (inT4 (List.mem_of_getElem? (i := 117) rfl)) rfl, lw_good_of (inT1 (List.mem_of_getElem? (i := 1) (by decide +kernel))) (by decide +kernel), by decide +kernel, by decide +kernel⟩
set_option maxRecDepth 20000 in
theorem vo_X11_way : VOk yX11_way cX11_way 4 (some .int) 2 10 := ⟨mk_X11_way, lw_good_of (inT4 (List.mem_of_getElem? (i := 115) (by decide +kernel))) (by decide +kernel), lw_good_of (inT4 (List.mem_of_getElem? (i := 116) (by decide +kernel))) (by decide +kernel), by decide +kernel, by decide⟩
set_option maxRecDepth 20000 in
theorem mk_X11_cut : MOk yX11_cut cX11_cut 4 (some .int) 2 := ⟨lw_good_of (inT4 (List.mem_of_getElem? (i := 134) rfl)) rfl, lw_good_of (inT1 (List.mem_of_getElem? (i := 1) (by decide +kernel))) (by decide +kernel), by decide +kernel, by decide +kernel⟩
set_option maxRecDepth 20000 in
theorem vo_X11_cut : VOk yX11_cut cX11_cut 4 (some .int) 2 10 := ⟨mk_X11_cut, lw_good_of (inT4 (List.mem_of_getElem? (i := 132) (by decide +kernel))) (by decide +kernel), lw_good_of (inT4 (List.mem_of_getElem? (i := 133) (by decide +kernel))) (by decide +kernel), by decide +kernel, by decide⟩
set_option maxRecDepth 20000 in
theorem mk_X11_ring : MOk yX11_ring cX11_ring 5 (some .int) 0 := ⟨lw_good_of (inT4 (List.mem_of_getElem? (i := 144) rfl)) rfl, lw_good_of (inT1 (List.mem_of_getElem? (i := 1) (by decide +kernel))) (by decide +kernel), by decide +kernel, by decide +kernel⟩
set_option maxRecDepth 20000 in
theorem vo_X11_ring : VOk yX11_ring cX11_ring 5 (some .int) 0 10 := ⟨mk_X11_ring, lw_good_of (inT4 (List.mem_of_getElem? (i := 142) (by decide +kernel))) (by decide +kernel), lw_good_of (inT4 (List.mem_of_getElem? (i := 143) (by decide +kernel))) (by decide +kernel), by decide +kernel, by decide⟩
set_option maxRecDepth 20000 in
theorem mk_X11_order : MOk yX11_order cX11_order 6 (some .int) 0 := ⟨lw_good_of (inT4 (List.mem_of_getElem? (i := 153) rfl)) rfl, lw_good_of (inT1 (List.mem_of_getElem? (i := 1) (by decide +kernel))) (by decide +kernel), by decide +kernel, by decide +kernel⟩
set_option maxRecDepth 20000 in
theorem vo_X11_order : VOk yX11_order cX11_order 6 (some .int) 0 10 := ⟨mk_X11_order, lw_good_of (inT4 (List.mem_of_getElem? (i := 151) (by decide +kernel))) (by decide +kernel), lw_good_of (inT4 (List.mem_of_getElem? (i := 152) (by decide +kernel))) (by decide +kernel), by decide +kernel, by decide⟩
set_option maxRecDepth 20000 in
theorem mk_X11_boatsThatGo : MOk yX11_boatsThatGo cX11_boatsThatGo 4 (some .int) 1 := ⟨lw_good_of (inT4 (List.mem_of_getElem? (i := 162) rfl)) rfl, lw_good_of (inT1 (List.mem_of_getElem? (i := 1) (by decide +kernel))) (by decide +kernel), by decide +kernel, by decide +kernel⟩
set_option maxRecDepth 20000 in
theorem vo_X11_boatsThatGo : VOk yX11_boatsThatGo cX11_boatsThatGo 4 (some .int) 1 10 := ⟨mk_X11_boatsThatGo, lw_good_of (inT4 (List.mem_of_getElem? (i := 161) (by decide +kernel))) (by decide +kernel), lw_good_of (inTp (n := 16) (List.mem_of_getElem? (i := 43) (by decide +kernel))) (by decide +kernel), by decide +kernel, by decide⟩
set_option maxRecDepth 20000 in
theorem mk_X11_locks : MOk yX11_locks cX11_locks 4 (some .int) 2 := ⟨lw_good_of (inT4 (List.mem_of_getElem? (i := 179) rfl)) rfl, lw_good_of (inT1 (List.mem_of_getElem? (i := 1) (by decide +kernel))) (by decide +kernel), by decide +kernel, by decide +kernel⟩
set_option maxRecDepth 20000 in
theorem vo_X11_locks : VOk yX11_locks cX11_locks 4 (some .int) 2 10 := ⟨mk_X11_locks, lw_good_of (inT4 (List.mem_of_getElem? (i := 177) (by decide +kernel))) (by decide +kernel), lw_good_of (inT4 (List.mem_of_getElem? (i := 178) (by decide +kernel))) (by decide +kernel), by decide +kernel, by decide⟩
set_option maxRecDepth 20000 in
theorem mk_X11_spoils : MOk yX11_spoils cX11_spoils 10 (some .int) 3 := ⟨lw_good_of (inT4 (List.mem_of_getElem? (i := 190) rfl)) rfl, lw_good_of (inT1 (List.mem_of_getElem? (i := 1) (by decide +kernel))) (by decide +kernel), by decide +kernel, by decide +kernel⟩
set_option maxRecDepth 20000 in
theorem vo_X11_spoils : VOk yX11_spoils cX11_spoils 10 (some .int) 3 10 := ⟨mk_X11_spoils, lw_good_of (inT4 (List.mem_of_getElem? (i := 188) (by decide +kernel))) (by decide +kernel), lw_good_of (inT4 (List.mem_of_getElem? (i := 189) (by decide +kernel))) (by decide +kernel), by decide +kernel, by decide⟩
set_option maxRecDepth 20000 in
theorem mk_X11_rests : MOk yX11_rests cX11_rests 5 (some .int) 1 := ⟨lw_good_of (inT4 (List.mem_of_getElem? (i := 204) rfl)) rfl, lw_good_of (inT1 (List.mem_of_getElem? (i := 1) (by decide +kernel))) (by decide +kernel), by decide +kernel, by decide +kernel⟩
set_option maxRecDepth 20000 in
theorem vo_X11_rests : VOk yX11_rests cX11_rests 5 (some .int) 1 10 := ⟨mk_X11_rests, lw_good_of (inT4 (List.mem_of_getElem? (i := 202) (by decide +kernel))) (by decide +kernel), lw_good_of (inT4 (List.mem_of_getElem? (i := 203) (by decide +kernel))) (by decide +kernel), by decide +kernel, by decide⟩
set_option maxRecDepth 20000 in
theorem mk_X11_law : MOk yX11_law cX11_law 5 (some .int) 0 := ⟨lw_good_of (inT4 (List.mem_of_getElem? (i := 214) rfl)) rfl, lw_good_of (inT1 (List.mem_of_getElem? (i := 1) (by decide +kernel))) (by decide +kernel), by decide +kernel, by decide +kernel⟩
set_option maxRecDepth 20000 in
theorem vo_X11_law : VOk yX11_law cX11_law 5 (some .int) 0 10 := ⟨mk_X11_law, lw_good_of (inT4 (List.mem_of_getElem? (i := 212) (by decide +kernel))) (by decide +kernel), lw_good_of (inT4 (List.mem_of_getElem? (i := 213) (by decide +kernel))) (by decide +kernel), by decide +kernel, by decide⟩
set_option maxRecDepth 20000 in
theorem mk_X11_years : MOk yX11_years cX11_years 7 (some .int) 2 := ⟨lw_good_of (inT4 (List.mem_of_getElem? (i := 218) rfl)) rfl, lw_good_of (inT1 (List.mem_of_getElem? (i := 1) (by decide +kernel))) (by decide +kernel), by decide +kernel, by decide +kernel⟩
set_option maxRecDepth 20000 in
theorem vo_X11_years : VOk yX11_years cX11_years 7 (some .int) 2 10 := ⟨mk_X11_years, lw_good_of (inT4 (List.mem_of_getElem? (i := 216) (by decide +kernel))) (by decide +kernel), lw_good_of (inT4 (List.mem_of_getElem? (i := 217) (by decide +kernel))) (by decide +kernel), by decide +kernel, by decide⟩
set_option maxRecDepth 20000 in
theorem mk_X11_drawn : MOk yX11_drawn cX11_drawn 1 (some .int) 1 := ⟨lw_good_of (inT4 (List.mem_of_getElem? (i := 221) rfl)) rfl, lw_good_of (inT1 (List.mem_of_getElem? (i := 1) (by decide +kernel))) (by decide +kernel), by decide +kernel, by decide +kernel⟩
set_option maxRecDepth 20000 in
theorem so_X11_drawn : SOk yX11_drawn cX11_drawn 1 (some .int) 1 := ⟨mk_X11_drawn, lw_good_of (inT4 (List.mem_of_getElem? (i := 220) (by decide +kernel))) (by decide +kernel), by decide⟩
set_option maxRecDepth 20000 in
theorem mk_X11_picked : MOk yX11_picked cX11_picked 2 (some .int) 2 := ⟨lw_good_of (inT4 (List.mem_of_getElem? (i := 225) rfl)) rfl, lw_good_of (inT1 (List.mem_of_getElem? (i := 1) (by decide +kernel))) (by decide +kernel), by decide +kernel, by decide +kernel⟩
set_option maxRecDepth 20000 in
theorem so_X11_picked : SOk yX11_picked cX11_picked 2 (some .int) 2 := ⟨mk_X11_picked, lw_good_of (inT4 (List.mem_of_getElem? (i := 224) (by decide +kernel))) (by decide +kernel), by decide⟩
set_option maxRecDepth 20000 in
theorem mk_X11_keep : MOk yX11_keep cX11_keep 2 (some .boolean) 1 := ⟨lw_good_of (inT4 (List.mem_of_getElem? (i := 229) rfl)) rfl, lw_good_of (inT1 (List.mem_of_getElem? (i := 1) (by decide +kernel))) (by decide +kernel), by decide +kernel, by decide +kernel⟩
set_option maxRecDepth 20000 in
theorem vo_X11_keep : VOk yX11_keep cX11_keep 2 (some .boolean) 1 10 := ⟨mk_X11_keep, lw_good_of (inT4 (List.mem_of_getElem? (i := 227) (by decide +kernel))) (by decide +kernel), lw_good_of (inT4 (List.mem_of_getElem? (i := 228) (by decide +kernel))) (by decide +kernel), by decide +kernel, by decide⟩
set_option maxRecDepth 20000 in
theorem mk_X11_again : MOk yX11_again cX11_again 2 (some .boolean) 1 := ⟨lw_good_of (inT4 (List.mem_of_getElem? (i := 237) rfl)) rfl, lw_good_of (inT1 (List.mem_of_getElem? (i := 1) (by decide +kernel))) (by decide +kernel), by decide +kernel, by decide +kernel⟩
set_option maxRecDepth 20000 in
theorem vo_X11_again : VOk yX11_again cX11_again 2 (some .boolean) 1 10 := ⟨mk_X11_again, lw_good_of (inT4 (List.mem_of_getElem? (i := 235) (by decide +kernel))) (by decide +kernel), lw_good_of (inT4 (List.mem_of_getElem? (i := 236) (by decide +kernel))) (by decide +kernel), by decide +kernel, by decide⟩
set_option maxRecDepth 20000 in
theorem mk_X11_count : MOk yX11_count cX11_count 2 (some .int) 1 := ⟨lw_good_of (inT5 (List.mem_of_getElem? (i := 5) rfl)) rfl, lw_good_of (inT1 (List.mem_of_getElem? (i := 1) (by decide +kernel))) (by decide +kernel), by decide +kernel, by decide +kernel⟩
set_option maxRecDepth 20000 in
theorem vo_X11_count : VOk yX11_count cX11_count 2 (some .int) 1 10 := ⟨mk_X11_count, lw_good_of (inT5 (List.mem_of_getElem? (i := 3) (by decide +kernel))) (by decide +kernel), lw_good_of (inT5 (List.mem_of_getElem? (i := 4) (by decide +kernel))) (by decide +kernel), by decide +kernel, by decide⟩
set_option maxRecDepth 20000 in
theorem mk_X11_marksTogether : MOk yX11_marksTogether cX11_marksTogether 3 (some .int) 0 := ⟨lw_good_of (inT5 (List.mem_of_getElem? (i := 9) rfl)) rfl, lw_good_of (inT1 (List.mem_of_getElem? (i := 1) (by decide +kernel))) (by decide +kernel), by decide +kernel, by decide +kernel⟩
set_option maxRecDepth 20000 in
theorem vo_X11_marksTogether : VOk yX11_marksTogether cX11_marksTogether 3 (some .int) 0 10 := ⟨mk_X11_marksTogether, lw_good_of (inT5 (List.mem_of_getElem? (i := 8) (by decide +kernel))) (by decide +kernel), lw_good_of (inTp (n := 16) (List.mem_of_getElem? (i := 45) (by decide +kernel))) (by decide +kernel), by decide +kernel, by decide⟩
set_option maxRecDepth 20000 in
theorem mk_X11_basinsAtMark : MOk yX11_basinsAtMark cX11_basinsAtMark 3 (some .int) 0 := ⟨lw_good_of (inT5 (List.mem_of_getElem? (i := 13) rfl)) rfl, lw_good_of (inT1 (List.mem_of_getElem? (i := 1) (by decide +kernel))) (by decide +kernel), by decide +kernel, by decide +kernel⟩
set_option maxRecDepth 20000 in
theorem vo_X11_basinsAtMark : VOk yX11_basinsAtMark cX11_basinsAtMark 3 (some .int) 0 10 := ⟨mk_X11_basinsAtMark, lw_good_of (inT5 (List.mem_of_getElem? (i := 12) (by decide +kernel))) (by decide +kernel), lw_good_of (inTp (n := 16) (List.mem_of_getElem? (i := 46) (by decide +kernel))) (by decide +kernel), by decide +kernel, by decide⟩
set_option maxRecDepth 20000 in
theorem mk_X11_row : MOk yX11_row cX11_row 2 (some .long) 1 := ⟨lw_good_of (inT5 (List.mem_of_getElem? (i := 112) rfl)) rfl, lw_good_of (inT1 (List.mem_of_getElem? (i := 1) (by decide +kernel))) (by decide +kernel), by decide +kernel, by decide +kernel⟩
set_option maxRecDepth 20000 in
theorem vo_X11_row : VOk yX11_row cX11_row 2 (some .long) 1 10 := ⟨mk_X11_row, lw_good_of (inT5 (List.mem_of_getElem? (i := 110) (by decide +kernel))) (by decide +kernel), lw_good_of (inT5 (List.mem_of_getElem? (i := 111) (by decide +kernel))) (by decide +kernel), by decide +kernel, by decide⟩
set_option maxRecDepth 20000 in
theorem mk_X12_init : MOk yX12_init cX12_init 1 none 0 := ⟨lw_good_of (inT5 (List.mem_of_getElem? (i := 118) rfl)) rfl, lw_good_of (inT1 (List.mem_of_getElem? (i := 13) (by decide +kernel))) (by decide +kernel), by decide +kernel, by decide +kernel⟩
set_option maxRecDepth 20000 in
theorem mk_X12_thrown : MOk yX12_thrown cX12_thrown 1 (some .int) 0 := ⟨lw_good_of (inT6 (List.mem_of_getElem? (i := 34) rfl)) rfl, lw_good_of (inT1 (List.mem_of_getElem? (i := 13) (by decide +kernel))) (by decide +kernel), by decide +kernel, by decide +kernel⟩
set_option maxRecDepth 20000 in
theorem vo_X12_thrown : VOk yX12_thrown cX12_thrown 1 (some .int) 0 11 := ⟨mk_X12_thrown, lw_good_of (inT6 (List.mem_of_getElem? (i := 32) (by decide +kernel))) (by decide +kernel), lw_good_of (inT6 (List.mem_of_getElem? (i := 33) (by decide +kernel))) (by decide +kernel), by decide +kernel, by decide⟩
set_option maxRecDepth 20000 in
theorem mk_X12_in : MOk yX12_in cX12_in 3 (some .boolean) 3 := ⟨lw_good_of (inT6 (List.mem_of_getElem? (i := 45) rfl)) rfl, lw_good_of (inT1 (List.mem_of_getElem? (i := 13) (by decide +kernel))) (by decide +kernel), by decide +kernel, by decide +kernel⟩
set_option maxRecDepth 20000 in
theorem so_X12_in : SOk yX12_in cX12_in 3 (some .boolean) 3 := ⟨mk_X12_in, lw_good_of (inT6 (List.mem_of_getElem? (i := 44) (by decide +kernel))) (by decide +kernel), by decide⟩
set_option maxRecDepth 20000 in
theorem mk_X12_has : MOk yX12_has cX12_has 2 (some .boolean) 2 := ⟨lw_good_of (inT6 (List.mem_of_getElem? (i := 192) rfl)) rfl, lw_good_of (inT1 (List.mem_of_getElem? (i := 13) (by decide +kernel))) (by decide +kernel), by decide +kernel, by decide +kernel⟩
set_option maxRecDepth 20000 in
theorem so_X12_has : SOk yX12_has cX12_has 2 (some .boolean) 2 := ⟨mk_X12_has, lw_good_of (inT6 (List.mem_of_getElem? (i := 191) (by decide +kernel))) (by decide +kernel), by decide⟩
set_option maxRecDepth 20000 in
theorem mk_X12_lost : MOk yX12_lost cX12_lost 1 (some .int) 0 := ⟨lw_good_of (inT6 (List.mem_of_getElem? (i := 140) rfl)) rfl, lw_good_of (inT1 (List.mem_of_getElem? (i := 13) (by decide +kernel))) (by decide +kernel), by decide +kernel, by decide +kernel⟩
set_option maxRecDepth 20000 in
theorem vo_X12_lost : VOk yX12_lost cX12_lost 1 (some .int) 0 11 := ⟨mk_X12_lost, lw_good_of (inT6 (List.mem_of_getElem? (i := 139) (by decide +kernel))) (by decide +kernel), lw_good_of (inTp (n := 50) (List.mem_of_getElem? (i := 66) (by decide +kernel))) (by decide +kernel), by decide +kernel, by decide⟩
set_option maxRecDepth 20000 in
theorem mk_X12_tell : MOk yX12_tell cX12_tell 3 none 1 := ⟨lw_good_of (inT6 (List.mem_of_getElem? (i := 200) rfl)) rfl, lw_good_of (inT1 (List.mem_of_getElem? (i := 13) (by decide +kernel))) (by decide +kernel), by decide +kernel, by decide +kernel⟩
set_option maxRecDepth 20000 in
theorem vo_X12_tell : VOk yX12_tell cX12_tell 3 none 1 11 := ⟨mk_X12_tell, lw_good_of (inT6 (List.mem_of_getElem? (i := 199) (by decide +kernel))) (by decide +kernel), lw_good_of (inTp (n := 50) (List.mem_of_getElem? (i := 76) (by decide +kernel))) (by decide +kernel), by decide +kernel, by decide⟩
set_option maxRecDepth 20000 in
theorem mk_X12_isBasin : MOk yX12_isBasin cX12_isBasin 2 (some .boolean) 1 := ⟨lw_good_of (inT6 (List.mem_of_getElem? (i := 136) rfl)) rfl, lw_good_of (inT1 (List.mem_of_getElem? (i := 13) (by decide +kernel))) (by decide +kernel), by decide +kernel, by decide +kernel⟩
set_option maxRecDepth 20000 in
theorem vo_X12_isBasin : VOk yX12_isBasin cX12_isBasin 2 (some .boolean) 1 11 := ⟨mk_X12_isBasin, lw_good_of (inT6 (List.mem_of_getElem? (i := 135) (by decide +kernel))) (by decide +kernel), lw_good_of (inTp (n := 50) (List.mem_of_getElem? (i := 65) (by decide +kernel))) (by decide +kernel), by decide +kernel, by decide⟩
set_option maxRecDepth 20000 in
theorem mk_X12_areTwo : MOk yX12_areTwo cX12_areTwo 3 (some .boolean) 2 := ⟨lw_good_of (inT7 (List.mem_of_getElem? (i := 71) rfl)) rfl, lw_good_of (inT1 (List.mem_of_getElem? (i := 13) (by decide +kernel))) (by decide +kernel), by decide +kernel, by decide +kernel⟩
set_option maxRecDepth 20000 in
theorem vo_X12_areTwo : VOk yX12_areTwo cX12_areTwo 3 (some .boolean) 2 11 := ⟨mk_X12_areTwo, lw_good_of (inT7 (List.mem_of_getElem? (i := 70) (by decide +kernel))) (by decide +kernel), lw_good_of (inTp (n := 50) (List.mem_of_getElem? (i := 89) (by decide +kernel))) (by decide +kernel), by decide +kernel, by decide⟩
set_option maxRecDepth 20000 in
theorem mk_X12_isSluice : MOk yX12_isSluice cX12_isSluice 2 (some .boolean) 1 := ⟨lw_good_of (inT6 (List.mem_of_getElem? (i := 152) rfl)) rfl, lw_good_of (inT1 (List.mem_of_getElem? (i := 13) (by decide +kernel))) (by decide +kernel), by decide +kernel, by decide +kernel⟩
set_option maxRecDepth 20000 in
theorem vo_X12_isSluice : VOk yX12_isSluice cX12_isSluice 2 (some .boolean) 1 11 := ⟨mk_X12_isSluice, lw_good_of (inT6 (List.mem_of_getElem? (i := 151) (by decide +kernel))) (by decide +kernel), lw_good_of (inTp (n := 50) (List.mem_of_getElem? (i := 68) (by decide +kernel))) (by decide +kernel), by decide +kernel, by decide⟩
set_option maxRecDepth 20000 in
theorem mk_X12_sign : MOk yX12_sign cX12_sign 3 (some .int) 1 := ⟨lw_good_of (inT6 (List.mem_of_getElem? (i := 38) rfl)) rfl, lw_good_of (inT1 (List.mem_of_getElem? (i := 13) (by decide +kernel))) (by decide +kernel), by decide +kernel, by decide +kernel⟩
set_option maxRecDepth 20000 in
theorem vo_X12_sign : VOk yX12_sign cX12_sign 3 (some .int) 1 11 := ⟨mk_X12_sign, lw_good_of (inT6 (List.mem_of_getElem? (i := 36) (by decide +kernel))) (by decide +kernel), lw_good_of (inT6 (List.mem_of_getElem? (i := 37) (by decide +kernel))) (by decide +kernel), by decide +kernel, by decide⟩
set_option maxRecDepth 20000 in
theorem mk_X12_end : MOk yX12_end cX12_end 2 (some .boolean) 1 := ⟨lw_good_of (inT6 (List.mem_of_getElem? (i := 42) rfl)) rfl, lw_good_of (inT1 (List.mem_of_getElem? (i := 13) (by decide +kernel))) (by decide +kernel), by decide +kernel, by decide +kernel⟩
set_option maxRecDepth 20000 in
theorem vo_X12_end : VOk yX12_end cX12_end 2 (some .boolean) 1 11 := ⟨mk_X12_end, lw_good_of (inT6 (List.mem_of_getElem? (i := 40) (by decide +kernel))) (by decide +kernel), lw_good_of (inT6 (List.mem_of_getElem? (i := 41) (by decide +kernel))) (by decide +kernel), by decide +kernel, by decide⟩
set_option maxRecDepth 20000 in
theorem mk_X12_begin : MOk yX12_begin cX12_begin 4 none 3 := ⟨lw_good_of (inT6 (List.mem_of_getElem? (i := 57) rfl)) rfl, lw_good_of (inT1 (List.mem_of_getElem? (i := 13) (by decide +kernel))) (by decide +kernel), by decide +kernel, by decide +kernel⟩
set_option maxRecDepth 20000 in
theorem vo_X12_begin : VOk yX12_begin cX12_begin 4 none 3 11 := ⟨mk_X12_begin, lw_good_of (inT6 (List.mem_of_getElem? (i := 56) (by decide +kernel))) (by decide +kernel), lw_good_of (inTp (n := 50) (List.mem_of_getElem? (i := 49) (by decide +kernel))) (by decide +kernel), by decide +kernel, by decide⟩
set_option maxRecDepth 20000 in
theorem mk_X12_beginText : MOk yX12_beginText cX12_beginText 2 none 1 := ⟨lw_good_of (inT6 (List.mem_of_getElem? (i := 53) rfl)) rfl, lw_good_of (inT1 (List.mem_of_getElem? (i := 13) (by decide +kernel))) (by decide +kernel), by decide +kernel, by decide +kernel⟩
set_option maxRecDepth 20000 in
theorem vo_X12_beginText : VOk yX12_beginText cX12_beginText 2 none 1 11 := ⟨mk_X12_beginText, lw_good_of (inT6 (List.mem_of_getElem? (i := 52) (by decide +kernel))) (by decide +kernel), lw_good_of (inTp (n := 50) (List.mem_of_getElem? (i := 48) (by decide +kernel))) (by decide +kernel), by decide +kernel, by decide⟩
set_option maxRecDepth 20000 in
theorem mk_X12_here : MOk yX12_here cX12_here 1 (some .int) 0 := ⟨lw_good_of (inT6 (List.mem_of_getElem? (i := 73) rfl)) rfl, lw_good_of (inT1 (List.mem_of_getElem? (i := 13) (by decide +kernel))) (by decide +kernel), by decide +kernel, by decide +kernel⟩
set_option maxRecDepth 20000 in
theorem vo_X12_here : VOk yX12_here cX12_here 1 (some .int) 0 11 := ⟨mk_X12_here, lw_good_of (inT6 (List.mem_of_getElem? (i := 72) (by decide +kernel))) (by decide +kernel), lw_good_of (inTp (n := 50) (List.mem_of_getElem? (i := 53) (by decide +kernel))) (by decide +kernel), by decide +kernel, by decide⟩
set_option maxRecDepth 20000 in
theorem mk_X12_fine : MOk yX12_fine cX12_fine 1 (some .boolean) 0 := ⟨lw_good_of (inT6 (List.mem_of_getElem? (i := 61) rfl)) rfl, lw_good_of (inT1 (List.mem_of_getElem? (i := 13) (by decide +kernel))) (by decide +kernel), by decide +kernel, by decide +kernel⟩
set_option maxRecDepth 20000 in
theorem vo_X12_fine : VOk yX12_fine cX12_fine 1 (some .boolean) 0 11 := ⟨mk_X12_fine, lw_good_of (inT6 (List.mem_of_getElem? (i := 60) (by decide +kernel))) (by decide +kernel), lw_good_of (inTp (n := 50) (List.mem_of_getElem? (i := 50) (by decide +kernel))) (by decide +kernel), by decide +kernel, by decide⟩
set_option maxRecDepth 20000 in
theorem mk_X12_fault : MOk yX12_fault cX12_fault 2 none 1 := ⟨lw_good_of (inT6 (List.mem_of_getElem? (i := 65) rfl)) rfl, lw_good_of (inT1 (List.mem_of_getElem? (i := 13) (by decide +kernel))) (by decide +kernel), by decide +kernel, by decide +kernel⟩
set_option maxRecDepth 20000 in
theorem vo_X12_fault : VOk yX12_fault cX12_fault 2 none 1 11 := ⟨mk_X12_fault, lw_good_of (inT6 (List.mem_of_getElem? (i := 64) (by decide +kernel))) (by decide +kernel), lw_good_of (inTp (n := 50) (List.mem_of_getElem? (i := 51) (by decide +kernel))) (by decide +kernel), by decide +kernel, by decide⟩
set_option maxRecDepth 20000 in
theorem mk_X12_passes : MOk yX12_passes cX12_passes 2 (some .boolean) 1 := ⟨lw_good_of (inT6 (List.mem_of_getElem? (i := 77) rfl)) rfl, lw_good_of (inT1 (List.mem_of_getElem? (i := 13) (by decide +kernel))) (by decide +kernel), by decide +kernel, by decide +kernel⟩
set_option maxRecDepth 20000 in
theorem vo_X12_passes : VOk yX12_passes cX12_passes 2 (some .boolean) 1 11 := ⟨mk_X12_passes, lw_good_of (inT6 (List.mem_of_getElem? (i := 76) (by decide +kernel))) (by decide +kernel), lw_good_of (inTp (n := 50) (List.mem_of_getElem? (i := 54) (by decide +kernel))) (by decide +kernel), by decide +kernel, by decide⟩
set_option maxRecDepth 20000 in
theorem mk_X12_need : MOk yX12_need cX12_need 2 none 1 := ⟨lw_good_of (inT6 (List.mem_of_getElem? (i := 121) rfl)) rfl, lw_good_of (inT1 (List.mem_of_getElem? (i := 13) (by decide +kernel))) (by decide +kernel), by decide +kernel, by decide +kernel⟩
set_option maxRecDepth 20000 in
theorem vo_X12_need : VOk yX12_need cX12_need 2 none 1 11 := ⟨mk_X12_need, lw_good_of (inT6 (List.mem_of_getElem? (i := 120) (by decide +kernel))) (by decide +kernel), lw_good_of (inTp (n := 50) (List.mem_of_getElem? (i := 63) (by decide +kernel))) (by decide +kernel), by decide +kernel, by decide⟩
set_option maxRecDepth 20000 in
theorem mk_X12_oneOf : MOk yX12_oneOf cX12_oneOf 3 (some .int) 2 := ⟨lw_good_of (inT6 (List.mem_of_getElem? (i := 69) rfl)) rfl, lw_good_of (inT1 (List.mem_of_getElem? (i := 13) (by decide +kernel))) (by decide +kernel), by decide +kernel, by decide +kernel⟩
set_option maxRecDepth 20000 in
theorem vo_X12_oneOf : VOk yX12_oneOf cX12_oneOf 3 (some .int) 2 11 := ⟨mk_X12_oneOf, lw_good_of (inT6 (List.mem_of_getElem? (i := 68) (by decide +kernel))) (by decide +kernel), lw_good_of (inTp (n := 50) (List.mem_of_getElem? (i := 52) (by decide +kernel))) (by decide +kernel), by decide +kernel, by decide⟩
set_option maxRecDepth 20000 in
theorem mk_X12_number : MOk yX12_number cX12_number 4 (some .int) 1 := ⟨lw_good_of (inT6 (List.mem_of_getElem? (i := 125) rfl)) rfl, lw_good_of (inT1 (List.mem_of_getElem? (i := 13) (by decide +kernel))) (by decide +kernel), by decide +kernel, by decide +kernel⟩
set_option maxRecDepth 20000 in
theorem vo_X12_number : VOk yX12_number cX12_number 4 (some .int) 1 11 := ⟨mk_X12_number, lw_good_of (inT6 (List.mem_of_getElem? (i := 124) (by decide +kernel))) (by decide +kernel), lw_good_of (inTp (n := 50) (List.mem_of_getElem? (i := 64) (by decide +kernel))) (by decide +kernel), by decide +kernel, by decide⟩
set_option maxRecDepth 20000 in
theorem mk_X12_wasRight : MOk yX12_wasRight cX12_wasRight 1 (some .boolean) 0 := ⟨lw_good_of (inT6 (List.mem_of_getElem? (i := 81) rfl)) rfl, lw_good_of (inT1 (List.mem_of_getElem? (i := 13) (by decide +kernel))) (by decide +kernel), by decide +kernel, by decide +kernel⟩
set_option maxRecDepth 20000 in
theorem vo_X12_wasRight : VOk yX12_wasRight cX12_wasRight 1 (some .boolean) 0 11 := ⟨mk_X12_wasRight, lw_good_of (inT6 (List.mem_of_getElem? (i := 80) (by decide +kernel))) (by decide +kernel), lw_good_of (inTp (n := 50) (List.mem_of_getElem? (i := 55) (by decide +kernel))) (by decide +kernel), by decide +kernel, by decide⟩
set_option maxRecDepth 20000 in
theorem mk_X12_told : MOk yX12_told cX12_told 1 none 0 := ⟨lw_good_of (inT6 (List.mem_of_getElem? (i := 85) rfl)) rfl, lw_good_of (inT1 (List.mem_of_getElem? (i := 13) (by decide +kernel))) (by decide +kernel), by decide +kernel, by decide +kernel⟩
set_option maxRecDepth 20000 in
theorem vo_X12_told : VOk yX12_told cX12_told 1 none 0 11 := ⟨mk_X12_told, lw_good_of (inT6 (List.mem_of_getElem? (i := 84) (by decide +kernel))) (by decide +kernel), lw_good_of (inTp (n := 50) (List.mem_of_getElem? (i := 56) (by decide +kernel))) (by decide +kernel), by decide +kernel, by decide⟩
set_option maxRecDepth 20000 in
theorem mk_X12_basins : MOk yX12_basins cX12_basins 4 (some .int) 0 := ⟨lw_good_of (inT6 (List.mem_of_getElem? (i := 49) rfl)) rfl, lw_good_of (inT1 (List.mem_of_getElem? (i := 13) (by decide +kernel))) (by decide +kernel), by decide +kernel, by decide +kernel⟩
set_option maxRecDepth 20000 in
theorem vo_X12_basins : VOk yX12_basins cX12_basins 4 (some .int) 0 11 := ⟨mk_X12_basins, lw_good_of (inT6 (List.mem_of_getElem? (i := 47) (by decide +kernel))) (by decide +kernel), lw_good_of (inT6 (List.mem_of_getElem? (i := 48) (by decide +kernel))) (by decide +kernel), by decide +kernel, by decide⟩
set_option maxRecDepth 20000 in
theorem mk_X12_readSluice : MOk yX12_readSluice cX12_readSluice 2 none 1 := ⟨lw_good_of (inT6 (List.mem_of_getElem? (i := 93) rfl)) rfl, lw_good_of (inT1 (List.mem_of_getElem? (i := 13) (by decide +kernel))) (by decide +kernel), by decide +kernel, by decide +kernel⟩
set_option maxRecDepth 20000 in
theorem vo_X12_readSluice : VOk yX12_readSluice cX12_readSluice 2 none 1 11 := ⟨mk_X12_readSluice, lw_good_of (inT6 (List.mem_of_getElem? (i := 92) (by decide +kernel))) (by decide +kernel), lw_good_of (inTp (n := 50) (List.mem_of_getElem? (i := 57) (by decide +kernel))) (by decide +kernel), by decide +kernel, by decide⟩
set_option maxRecDepth 20000 in
theorem mk_X12_sluices : MOk yX12_sluices cX12_sluices 4 (some .int) 0 := ⟨lw_good_of (inT6 (List.mem_of_getElem? (i := 89) rfl)) rfl, lw_good_of (inT1 (List.mem_of_getElem? (i := 13) (by decide +kernel))) (by decide +kernel), by decide +kernel, by decide +kernel⟩
set_option maxRecDepth 20000 in
theorem vo_X12_sluices : VOk yX12_sluices cX12_sluices 4 (some .int) 0 11 := ⟨mk_X12_sluices, lw_good_of (inT6 (List.mem_of_getElem? (i := 87) (by decide +kernel))) (by decide +kernel), lw_good_of (inT6 (List.mem_of_getElem? (i := 88) (by decide +kernel))) (by decide +kernel), by decide +kernel, by decide⟩
set_option maxRecDepth 20000 in
theorem mk_X12_held : MOk yX12_held cX12_held 3 (some .int) 1 := ⟨lw_good_of (inT6 (List.mem_of_getElem? (i := 105) rfl)) rfl, lw_good_of (inT1 (List.mem_of_getElem? (i := 13) (by decide +kernel))) (by decide +kernel), by decide +kernel, by decide +kernel⟩
set_option maxRecDepth 20000 in
theorem vo_X12_held : VOk yX12_held cX12_held 3 (some .int) 1 11 := ⟨mk_X12_held, lw_good_of (inT6 (List.mem_of_getElem? (i := 104) (by decide +kernel))) (by decide +kernel), lw_good_of (inTp (n := 50) (List.mem_of_getElem? (i := 59) (by decide +kernel))) (by decide +kernel), by decide +kernel, by decide⟩
set_option maxRecDepth 20000 in
theorem mk_X12_sum : MOk yX12_sum cX12_sum 5 (some .int) 1 := ⟨lw_good_of (inT6 (List.mem_of_getElem? (i := 109) rfl)) rfl, lw_good_of (inT1 (List.mem_of_getElem? (i := 13) (by decide +kernel))) (by decide +kernel), by decide +kernel, by decide +kernel⟩
set_option maxRecDepth 20000 in
theorem vo_X12_sum : VOk yX12_sum cX12_sum 5 (some .int) 1 11 := ⟨mk_X12_sum, lw_good_of (inT6 (List.mem_of_getElem? (i := 108) (by decide +kernel))) (by decide +kernel), lw_good_of (inTp (n := 50) (List.mem_of_getElem? (i := 60) (by decide +kernel))) (by decide +kernel), by decide +kernel, by decide⟩
set_option maxRecDepth 20000 in
theorem mk_X12_product : MOk yX12_product cX12_product 5 (some .int) 1 := ⟨lw_good_of (inT6 (List.mem_of_getElem? (i := 113) rfl)) rfl, lw_good_of (inT1 (List.mem_of_getElem? (i := 13) (by decide +kernel))) (by decide +kernel), by decide +kernel, by decide +kernel⟩
set_option maxRecDepth 20000 in
theorem vo_X12_product : VOk yX12_product cX12_product 5 (some .int) 1 11 := ⟨mk_X12_product, lw_good_of (inT6 (List.mem_of_getElem? (i := 112) (by decide +kernel))) (by decide +kernel), lw_good_of (inTp (n := 50) (List.mem_of_getElem? (i := 61) (by decide +kernel))) (by decide +kernel), by decide +kernel, by decide⟩
set_option maxRecDepth 20000 in
theorem mk_X12_letterOf : MOk yX12_letterOf cX12_letterOf 1 (some .int) 1 := ⟨lw_good_of (inT6 (List.mem_of_getElem? (i := 128) rfl)) rfl, lw_good_of (inT1 (List.mem_of_getElem? (i := 13) (by decide +kernel))) (by decide +kernel), by decide +kernel, by decide +kernel⟩
set_option maxRecDepth 20000 in
theorem so_X12_letterOf : SOk yX12_letterOf cX12_letterOf 1 (some .int) 1 := ⟨mk_X12_letterOf, lw_good_of (inT6 (List.mem_of_getElem? (i := 127) (by decide +kernel))) (by decide +kernel), by decide⟩
set_option maxRecDepth 20000 in
theorem mk_X12_thing : MOk yX12_thing cX12_thing 4 (some .int) 1 := ⟨lw_good_of (inT6 (List.mem_of_getElem? (i := 117) rfl)) rfl, lw_good_of (inT1 (List.mem_of_getElem? (i := 13) (by decide +kernel))) (by decide +kernel), by decide +kernel, by decide +kernel⟩
set_option maxRecDepth 20000 in
theorem vo_X12_thing : VOk yX12_thing cX12_thing 4 (some .int) 1 11 := ⟨mk_X12_thing, lw_good_of (inT6 (List.mem_of_getElem? (i := 116) (by decide +kernel))) (by decide +kernel), lw_good_of (inTp (n := 50) (List.mem_of_getElem? (i := 62) (by decide +kernel))) (by decide +kernel), by decide +kernel, by decide⟩
set_option maxRecDepth 20000 in
theorem mk_X12_readRule : MOk yX12_readRule cX12_readRule 1 (some .boolean) 0 := ⟨lw_good_of (inT6 (List.mem_of_getElem? (i := 101) rfl)) rfl, lw_good_of (inT1 (List.mem_of_getElem? (i := 13) (by decide +kernel))) (by decide +kernel), by decide +kernel, by decide +kernel⟩
set_option maxRecDepth 20000 in
theorem vo_X12_readRule : VOk yX12_readRule cX12_readRule 1 (some .boolean) 0 11 := ⟨mk_X12_readRule, lw_good_of (inT6 (List.mem_of_getElem? (i := 100) (by decide +kernel))) (by decide +kernel), lw_good_of (inTp (n := 50) (List.mem_of_getElem? (i := 58) (by decide +kernel))) (by decide +kernel), by decide +kernel, by decide⟩
set_option maxRecDepth 20000 in
theorem mk_X12_rule : MOk yX12_rule cX12_rule 3 (some .int) 0 := ⟨lw_good_of (inT6 (List.mem_of_getElem? (i := 97) rfl)) rfl, lw_good_of (inT1 (List.mem_of_getElem? (i := 13) (by decide +kernel))) (by decide +kernel), by decide +kernel, by decide +kernel⟩
set_option maxRecDepth 20000 in
theorem vo_X12_rule : VOk yX12_rule cX12_rule 3 (some .int) 0 11 := ⟨mk_X12_rule, lw_good_of (inT6 (List.mem_of_getElem? (i := 95) (by decide +kernel))) (by decide +kernel), lw_good_of (inT6 (List.mem_of_getElem? (i := 96) (by decide +kernel))) (by decide +kernel), by decide +kernel, by decide⟩
set_option maxRecDepth 20000 in
theorem mk_X12_flowOf : MOk yX12_flowOf cX12_flowOf 6 (some .int) 2 := ⟨lw_good_of (inT6 (List.mem_of_getElem? (i := 156) rfl)) rfl, lw_good_of (inT1 (List.mem_of_getElem? (i := 13) (by decide +kernel))) (by decide +kernel), by decide +kernel, by decide +kernel⟩
set_option maxRecDepth 20000 in
theorem vo_X12_flowOf : VOk yX12_flowOf cX12_flowOf 6 (some .int) 2 11 := ⟨mk_X12_flowOf, lw_good_of (inT6 (List.mem_of_getElem? (i := 155) (by decide +kernel))) (by decide +kernel), lw_good_of (inTp (n := 50) (List.mem_of_getElem? (i := 69) (by decide +kernel))) (by decide +kernel), by decide +kernel, by decide⟩
set_option maxRecDepth 20000 in
theorem mk_X12_sluicesBy : MOk yX12_sluicesBy cX12_sluicesBy 5 (some .int) 2 := ⟨lw_good_of (inT6 (List.mem_of_getElem? (i := 144) rfl)) rfl, lw_good_of (inT1 (List.mem_of_getElem? (i := 13) (by decide +kernel))) (by decide +kernel), by decide +kernel, by decide +kernel⟩
set_option maxRecDepth 20000 in
theorem vo_X12_sluicesBy : VOk yX12_sluicesBy cX12_sluicesBy 5 (some .int) 2 11 := ⟨mk_X12_sluicesBy, lw_good_of (inT6 (List.mem_of_getElem? (i := 143) (by decide +kernel))) (by decide +kernel), lw_good_of (inTp (n := 50) (List.mem_of_getElem? (i := 67) (by decide +kernel))) (by decide +kernel), by decide +kernel, by decide⟩
set_option maxRecDepth 20000 in
theorem mk_X12_basin : MOk yX12_basin cX12_basin 3 (some .int) 2 := ⟨lw_good_of (inT6 (List.mem_of_getElem? (i := 132) rfl)) rfl, lw_good_of (inT1 (List.mem_of_getElem? (i := 13) (by decide +kernel))) (by decide +kernel), by decide +kernel, by decide +kernel⟩
set_option maxRecDepth 20000 in
theorem vo_X12_basin : VOk yX12_basin cX12_basin 3 (some .int) 2 11 := ⟨mk_X12_basin, lw_good_of (inT6 (List.mem_of_getElem? (i := 130) (by decide +kernel))) (by decide +kernel), lw_good_of (inT6 (List.mem_of_getElem? (i := 131) (by decide +kernel))) (by decide +kernel), by decide +kernel, by decide⟩
set_option maxRecDepth 20000 in
theorem mk_X12_sluice : MOk yX12_sluice cX12_sluice 3 (some .int) 2 := ⟨lw_good_of (inT6 (List.mem_of_getElem? (i := 148) rfl)) rfl, lw_good_of (inT1 (List.mem_of_getElem? (i := 13) (by decide +kernel))) (by decide +kernel), by decide +kernel, by decide +kernel⟩
set_option maxRecDepth 20000 in
theorem vo_X12_sluice : VOk yX12_sluice cX12_sluice 3 (some .int) 2 11 := ⟨mk_X12_sluice, lw_good_of (inT6 (List.mem_of_getElem? (i := 146) (by decide +kernel))) (by decide +kernel), lw_good_of (inT6 (List.mem_of_getElem? (i := 147) (by decide +kernel))) (by decide +kernel), by decide +kernel, by decide⟩
set_option maxRecDepth 20000 in
theorem mk_X12_sumOf : MOk yX12_sumOf cX12_sumOf 5 (some .int) 2 := ⟨lw_good_of (inT6 (List.mem_of_getElem? (i := 166) rfl)) rfl, lw_good_of (inT1 (List.mem_of_getElem? (i := 13) (by decide +kernel))) (by decide +kernel), by decide +kernel, by decide +kernel⟩
set_option maxRecDepth 20000 in
theorem vo_X12_sumOf : VOk yX12_sumOf cX12_sumOf 5 (some .int) 2 11 := ⟨mk_X12_sumOf, lw_good_of (inT6 (List.mem_of_getElem? (i := 165) (by decide +kernel))) (by decide +kernel), lw_good_of (inTp (n := 50) (List.mem_of_getElem? (i := 70) (by decide +kernel))) (by decide +kernel), by decide +kernel, by decide⟩
set_option maxRecDepth 20000 in
theorem mk_X12_sheet : MOk yX12_sheet cX12_sheet 8 (some .int) 4 := ⟨lw_good_of (inT6 (List.mem_of_getElem? (i := 162) rfl)) rfl, lw_good_of (inT1 (List.mem_of_getElem? (i := 13) (by decide +kernel))) (by decide +kernel), by decide +kernel, by decide +kernel⟩
set_option maxRecDepth 20000 in
theorem vo_X12_sheet : VOk yX12_sheet cX12_sheet 8 (some .int) 4 11 := ⟨mk_X12_sheet, lw_good_of (inT6 (List.mem_of_getElem? (i := 160) (by decide +kernel))) (by decide +kernel), lw_good_of (inT6 (List.mem_of_getElem? (i := 161) (by decide +kernel))) (by decide +kernel), by decide +kernel, by decide⟩
set_option maxRecDepth 20000 in
theorem mk_X12_lay : MOk yX12_lay cX12_lay 4 none 3 := ⟨lw_good_of (inT6 (List.mem_of_getElem? (i := 177) rfl)) rfl, lw_good_of (inT1 (List.mem_of_getElem? (i := 13) (by decide +kernel))) (by decide +kernel), by decide +kernel, by decide +kernel⟩
set_option maxRecDepth 20000 in
theorem so_X12_lay : SOk yX12_lay cX12_lay 4 none 3 := ⟨mk_X12_lay, lw_good_of (inT6 (List.mem_of_getElem? (i := 176) (by decide +kernel))) (by decide +kernel), by decide⟩
set_option maxRecDepth 20000 in
theorem mk_X12_remember : MOk yX12_remember cX12_remember 3 none 1 := ⟨lw_good_of (inT6 (List.mem_of_getElem? (i := 174) rfl)) rfl, lw_good_of (inT1 (List.mem_of_getElem? (i := 13) (by decide +kernel))) (by decide +kernel), by decide +kernel, by decide +kernel⟩
set_option maxRecDepth 20000 in
theorem vo_X12_remember : VOk yX12_remember cX12_remember 3 none 1 11 := ⟨mk_X12_remember, lw_good_of (inT6 (List.mem_of_getElem? (i := 173) (by decide +kernel))) (by decide +kernel), lw_good_of (inTp (n := 50) (List.mem_of_getElem? (i := 71) (by decide +kernel))) (by decide +kernel), by decide +kernel, by decide⟩
set_option maxRecDepth 20000 in
theorem mk_X12_clear : MOk yX12_clear cX12_clear 2 none 0 := ⟨lw_good_of (inT6 (List.mem_of_getElem? (i := 181) rfl)) rfl, lw_good_of (inT1 (List.mem_of_getElem? (i := 13) (by decide +kernel))) (by decide +kernel), by decide +kernel, by decide +kernel⟩
set_option maxRecDepth 20000 in
theorem vo_X12_clear : VOk yX12_clear cX12_clear 2 none 0 11 := ⟨mk_X12_clear, lw_good_of (inT6 (List.mem_of_getElem? (i := 180) (by decide +kernel))) (by decide +kernel), lw_good_of (inTp (n := 50) (List.mem_of_getElem? (i := 72) (by decide +kernel))) (by decide +kernel), by decide +kernel, by decide⟩
set_option maxRecDepth 20000 in
theorem mk_X12_isOpen : MOk yX12_isOpen cX12_isOpen 4 (some .boolean) 2 := ⟨lw_good_of (inT6 (List.mem_of_getElem? (i := 196) rfl)) rfl, lw_good_of (inT1 (List.mem_of_getElem? (i := 13) (by decide +kernel))) (by decide +kernel), by decide +kernel, by decide +kernel⟩
set_option maxRecDepth 20000 in
theorem vo_X12_isOpen : VOk yX12_isOpen cX12_isOpen 4 (some .boolean) 2 11 := ⟨mk_X12_isOpen, lw_good_of (inT6 (List.mem_of_getElem? (i := 195) (by decide +kernel))) (by decide +kernel), lw_good_of (inTp (n := 50) (List.mem_of_getElem? (i := 75) (by decide +kernel))) (by decide +kernel), by decide +kernel, by decide⟩
set_option maxRecDepth 20000 in
theorem mk_X12_goHour : MOk yX12_goHour cX12_goHour 4 none 1 := ⟨lw_good_of (inT6 (List.mem_of_getElem? (i := 189) rfl)) rfl, lw_good_of (inT1 (List.mem_of_getElem? (i := 13) (by decide +kernel))) (by decide +kernel), by decide +kernel, by decide +kernel⟩
set_option maxRecDepth 20000 in
theorem vo_X12_goHour : VOk yX12_goHour cX12_goHour 4 none 1 11 := ⟨mk_X12_goHour, lw_good_of (inT6 (List.mem_of_getElem? (i := 188) (by decide +kernel))) (by decide +kernel), lw_good_of (inTp (n := 50) (List.mem_of_getElem? (i := 74) (by decide +kernel))) (by decide +kernel), by decide +kernel, by decide⟩
set_option maxRecDepth 20000 in
theorem mk_X12_goHours : MOk yX12_goHours cX12_goHours 4 none 2 := ⟨lw_good_of (inT6 (List.mem_of_getElem? (i := 185) rfl)) rfl, lw_good_of (inT1 (List.mem_of_getElem? (i := 13) (by decide +kernel))) (by decide +kernel), by decide +kernel, by decide +kernel⟩
set_option maxRecDepth 20000 in
theorem vo_X12_goHours : VOk yX12_goHours cX12_goHours 4 none 2 11 := ⟨mk_X12_goHours, lw_good_of (inT6 (List.mem_of_getElem? (i := 184) (by decide +kernel))) (by decide +kernel), lw_good_of (inTp (n := 50) (List.mem_of_getElem? (i := 73) (by decide +kernel))) (by decide +kernel), by decide +kernel, by decide⟩
set_option maxRecDepth 20000 in
theorem mk_X12_goThen : MOk yX12_goThen cX12_goThen 2 none 1 := ⟨lw_good_of (inT7 (List.mem_of_getElem? (i := 27) rfl)) rfl, lw_good_of (inT1 (List.mem_of_getElem? (i := 13) (by decide +kernel))) (by decide +kernel), by decide +kernel, by decide +kernel⟩
set_option maxRecDepth 20000 in
theorem vo_X12_goThen : VOk yX12_goThen cX12_goThen 2 none 1 11 := ⟨mk_X12_goThen, lw_good_of (inT7 (List.mem_of_getElem? (i := 26) (by decide +kernel))) (by decide +kernel), lw_good_of (inTp (n := 50) (List.mem_of_getElem? (i := 84) (by decide +kernel))) (by decide +kernel), by decide +kernel, by decide⟩
set_option maxRecDepth 20000 in
theorem mk_X12_hours : MOk yX12_hours cX12_hours 2 (some .int) 1 := ⟨lw_good_of (inT6 (List.mem_of_getElem? (i := 170) rfl)) rfl, lw_good_of (inT1 (List.mem_of_getElem? (i := 13) (by decide +kernel))) (by decide +kernel), by decide +kernel, by decide +kernel⟩
set_option maxRecDepth 20000 in
theorem vo_X12_hours : VOk yX12_hours cX12_hours 2 (some .int) 1 11 := ⟨mk_X12_hours, lw_good_of (inT6 (List.mem_of_getElem? (i := 168) (by decide +kernel))) (by decide +kernel), lw_good_of (inT6 (List.mem_of_getElem? (i := 169) (by decide +kernel))) (by decide +kernel), by decide +kernel, by decide⟩
set_option maxRecDepth 20000 in
theorem mk_X12_refusesWater : MOk yX12_refusesWater cX12_refusesWater 4 (some .int) 3 := ⟨lw_good_of (inT6 (List.mem_of_getElem? (i := 212) rfl)) rfl, lw_good_of (inT1 (List.mem_of_getElem? (i := 13) (by decide +kernel))) (by decide +kernel), by decide +kernel, by decide +kernel⟩
set_option maxRecDepth 20000 in
theorem vo_X12_refusesWater : VOk yX12_refusesWater cX12_refusesWater 4 (some .int) 3 11 := ⟨mk_X12_refusesWater, lw_good_of (inT6 (List.mem_of_getElem? (i := 211) (by decide +kernel))) (by decide +kernel), lw_good_of (inTp (n := 50) (List.mem_of_getElem? (i := 78) (by decide +kernel))) (by decide +kernel), by decide +kernel, by decide⟩
set_option maxRecDepth 20000 in
theorem mk_X12_waters : MOk yX12_waters cX12_waters 4 (some .int) 2 := ⟨lw_good_of (inT6 (List.mem_of_getElem? (i := 208) rfl)) rfl, lw_good_of (inT1 (List.mem_of_getElem? (i := 13) (by decide +kernel))) (by decide +kernel), by decide +kernel, by decide +kernel⟩
set_option maxRecDepth 20000 in
theorem vo_X12_waters : VOk yX12_waters cX12_waters 4 (some .int) 2 11 := ⟨mk_X12_waters, lw_good_of (inT6 (List.mem_of_getElem? (i := 207) (by decide +kernel))) (by decide +kernel), lw_good_of (inTp (n := 50) (List.mem_of_getElem? (i := 77) (by decide +kernel))) (by decide +kernel), by decide +kernel, by decide⟩
set_option maxRecDepth 20000 in
theorem mk_X12_pours : MOk yX12_pours cX12_pours 3 (some .int) 2 := ⟨lw_good_of (inT6 (List.mem_of_getElem? (i := 204) rfl)) rfl, lw_good_of (inT1 (List.mem_of_getElem? (i := 13) (by decide +kernel))) (by decide +kernel), by decide +kernel, by decide +kernel⟩
set_option maxRecDepth 20000 in
theorem vo_X12_pours : VOk yX12_pours cX12_pours 3 (some .int) 2 11 := ⟨mk_X12_pours, lw_good_of (inT6 (List.mem_of_getElem? (i := 202) (by decide +kernel))) (by decide +kernel), lw_good_of (inT6 (List.mem_of_getElem? (i := 203) (by decide +kernel))) (by decide +kernel), by decide +kernel, by decide⟩
set_option maxRecDepth 20000 in
theorem mk_X12_lets : MOk yX12_lets cX12_lets 3 (some .int) 2 := ⟨lw_good_of (inT6 (List.mem_of_getElem? (i := 219) rfl)) rfl, lw_good_of (inT1 (List.mem_of_getElem? (i := 13) (by decide +kernel))) (by decide +kernel), by decide +kernel, by decide +kernel⟩
set_option maxRecDepth 20000 in
theorem vo_X12_lets : VOk yX12_lets cX12_lets 3 (some .int) 2 11 := ⟨mk_X12_lets, lw_good_of (inT6 (List.mem_of_getElem? (i := 217) (by decide +kernel))) (by decide +kernel), lw_good_of (inT6 (List.mem_of_getElem? (i := 218) (by decide +kernel))) (by decide +kernel), by decide +kernel, by decide⟩
set_option maxRecDepth 20000 in
theorem mk_X12_refusesBoat : MOk yX12_refusesBoat cX12_refusesBoat 3 (some .int) 2 := ⟨lw_good_of (inT6 (List.mem_of_getElem? (i := 227) rfl)) rfl, lw_good_of (inT1 (List.mem_of_getElem? (i := 13) (by decide +kernel))) (by decide +kernel), by decide +kernel, by decide +kernel⟩
set_option maxRecDepth 20000 in
theorem vo_X12_refusesBoat : VOk yX12_refusesBoat cX12_refusesBoat 3 (some .int) 2 11 := ⟨mk_X12_refusesBoat, lw_good_of (inT6 (List.mem_of_getElem? (i := 226) (by decide +kernel))) (by decide +kernel), lw_good_of (inTp (n := 50) (List.mem_of_getElem? (i := 79) (by decide +kernel))) (by decide +kernel), by decide +kernel, by decide⟩
set_option maxRecDepth 20000 in
theorem mk_X12_goBoat : MOk yX12_goBoat cX12_goBoat 3 none 2 := ⟨lw_good_of (inT6 (List.mem_of_getElem? (i := 231) rfl)) rfl, lw_good_of (inT1 (List.mem_of_getElem? (i := 13) (by decide +kernel))) (by decide +kernel), by decide +kernel, by decide +kernel⟩
set_option maxRecDepth 20000 in
theorem vo_X12_goBoat : VOk yX12_goBoat cX12_goBoat 3 none 2 11 := ⟨mk_X12_goBoat, lw_good_of (inT6 (List.mem_of_getElem? (i := 230) (by decide +kernel))) (by decide +kernel), lw_good_of (inTp (n := 50) (List.mem_of_getElem? (i := 80) (by decide +kernel))) (by decide +kernel), by decide +kernel, by decide⟩
set_option maxRecDepth 20000 in
theorem mk_X12_boats : MOk yX12_boats cX12_boats 3 (some .int) 1 := ⟨lw_good_of (inT6 (List.mem_of_getElem? (i := 223) rfl)) rfl, lw_good_of (inT1 (List.mem_of_getElem? (i := 13) (by decide +kernel))) (by decide +kernel), by decide +kernel, by decide +kernel⟩
set_option maxRecDepth 20000 in
theorem vo_X12_boats : VOk yX12_boats cX12_boats 3 (some .int) 1 11 := ⟨mk_X12_boats, lw_good_of (inT6 (List.mem_of_getElem? (i := 221) (by decide +kernel))) (by decide +kernel), lw_good_of (inT6 (List.mem_of_getElem? (i := 222) (by decide +kernel))) (by decide +kernel), by decide +kernel, by decide⟩
set_option maxRecDepth 20000 in
theorem mk_X12_sticks : MOk yX12_sticks cX12_sticks 2 (some .int) 1 := ⟨lw_good_of (inT6 (List.mem_of_getElem? (i := 235) rfl)) rfl, lw_good_of (inT1 (List.mem_of_getElem? (i := 13) (by decide +kernel))) (by decide +kernel), by decide +kernel, by decide +kernel⟩
set_option maxRecDepth 20000 in
theorem vo_X12_sticks : VOk yX12_sticks cX12_sticks 2 (some .int) 1 11 := ⟨mk_X12_sticks, lw_good_of (inT6 (List.mem_of_getElem? (i := 233) (by decide +kernel))) (by decide +kernel), lw_good_of (inT6 (List.mem_of_getElem? (i := 234) (by decide +kernel))) (by decide +kernel), by decide +kernel, by decide⟩
set_option maxRecDepth 20000 in
theorem mk_X12_refusesMark : MOk yX12_refusesMark cX12_refusesMark 3 (some .int) 2 := ⟨lw_good_of (inT7 (List.mem_of_getElem? (i := 3) rfl)) rfl, lw_good_of (inT1 (List.mem_of_getElem? (i := 13) (by decide +kernel))) (by decide +kernel), by decide +kernel, by decide +kernel⟩
set_option maxRecDepth 20000 in
theorem vo_X12_refusesMark : VOk yX12_refusesMark cX12_refusesMark 3 (some .int) 2 11 := ⟨mk_X12_refusesMark, lw_good_of (inT7 (List.mem_of_getElem? (i := 2) (by decide +kernel))) (by decide +kernel), lw_good_of (inTp (n := 50) (List.mem_of_getElem? (i := 81) (by decide +kernel))) (by decide +kernel), by decide +kernel, by decide⟩
set_option maxRecDepth 20000 in
theorem mk_X12_marks : MOk yX12_marks cX12_marks 5 (some .int) 2 := ⟨lw_good_of (inT6 (List.mem_of_getElem? (i := 239) rfl)) rfl, lw_good_of (inT1 (List.mem_of_getElem? (i := 13) (by decide +kernel))) (by decide +kernel), by decide +kernel, by decide +kernel⟩
set_option maxRecDepth 20000 in
theorem vo_X12_marks : VOk yX12_marks cX12_marks 5 (some .int) 2 11 := ⟨mk_X12_marks, lw_good_of (inT6 (List.mem_of_getElem? (i := 237) (by decide +kernel))) (by decide +kernel), lw_good_of (inT6 (List.mem_of_getElem? (i := 238) (by decide +kernel))) (by decide +kernel), by decide +kernel, by decide⟩
set_option maxRecDepth 20000 in
theorem mk_X12_night : MOk yX12_night cX12_night 3 (some .int) 0 := ⟨lw_good_of (inT7 (List.mem_of_getElem? (i := 7) rfl)) rfl, lw_good_of (inT1 (List.mem_of_getElem? (i := 13) (by decide +kernel))) (by decide +kernel), by decide +kernel, by decide +kernel⟩
set_option maxRecDepth 20000 in
theorem vo_X12_night : VOk yX12_night cX12_night 3 (some .int) 0 11 := ⟨mk_X12_night, lw_good_of (inT7 (List.mem_of_getElem? (i := 5) (by decide +kernel))) (by decide +kernel), lw_good_of (inT7 (List.mem_of_getElem? (i := 6) (by decide +kernel))) (by decide +kernel), by decide +kernel, by decide⟩
set_option maxRecDepth 20000 in
theorem mk_X12_readAct : MOk yX12_readAct cX12_readAct 3 none 1 := ⟨lw_good_of (inT7 (List.mem_of_getElem? (i := 11) rfl)) rfl, lw_good_of (inT1 (List.mem_of_getElem? (i := 13) (by decide +kernel))) (by decide +kernel), by decide +kernel, by decide +kernel⟩
set_option maxRecDepth 20000 in
theorem vo_X12_readAct : VOk yX12_readAct cX12_readAct 3 none 1 11 := ⟨mk_X12_readAct, lw_good_of (inT7 (List.mem_of_getElem? (i := 10) (by decide +kernel))) (by decide +kernel), lw_good_of (inTp (n := 50) (List.mem_of_getElem? (i := 82) (by decide +kernel))) (by decide +kernel), by decide +kernel, by decide⟩
set_option maxRecDepth 20000 in
theorem mk_X12_act : MOk yX12_act cX12_act 5 (some .boolean) 3 := ⟨lw_good_of (inT7 (List.mem_of_getElem? (i := 15) rfl)) rfl, lw_good_of (inT1 (List.mem_of_getElem? (i := 13) (by decide +kernel))) (by decide +kernel), by decide +kernel, by decide +kernel⟩
set_option maxRecDepth 20000 in
theorem vo_X12_act : VOk yX12_act cX12_act 5 (some .boolean) 3 11 := ⟨mk_X12_act, lw_good_of (inT7 (List.mem_of_getElem? (i := 14) (by decide +kernel))) (by decide +kernel), lw_good_of (inTp (n := 50) (List.mem_of_getElem? (i := 83) (by decide +kernel))) (by decide +kernel), by decide +kernel, by decide⟩
set_option maxRecDepth 20000 in
theorem mk_X12_undo : MOk yX12_undo cX12_undo 2 (some .int) 0 := ⟨lw_good_of (inT7 (List.mem_of_getElem? (i := 19) rfl)) rfl, lw_good_of (inT1 (List.mem_of_getElem? (i := 13) (by decide +kernel))) (by decide +kernel), by decide +kernel, by decide +kernel⟩
set_option maxRecDepth 20000 in
theorem vo_X12_undo : VOk yX12_undo cX12_undo 2 (some .int) 0 11 := ⟨mk_X12_undo, lw_good_of (inT7 (List.mem_of_getElem? (i := 17) (by decide +kernel))) (by decide +kernel), lw_good_of (inT7 (List.mem_of_getElem? (i := 18) (by decide +kernel))) (by decide +kernel), by decide +kernel, by decide⟩
set_option maxRecDepth 20000 in
theorem mk_X12_later : MOk yX12_later cX12_later 3 (some .int) 2 := ⟨lw_good_of (inT7 (List.mem_of_getElem? (i := 23) rfl)) rfl, lw_good_of (inT1 (List.mem_of_getElem? (i := 13) (by decide +kernel))) (by decide +kernel), by decide +kernel, by decide +kernel⟩
set_option maxRecDepth 20000 in
theorem vo_X12_later : VOk yX12_later cX12_later 3 (some .int) 2 11 := ⟨mk_X12_later, lw_good_of (inT7 (List.mem_of_getElem? (i := 21) (by decide +kernel))) (by decide +kernel), lw_good_of (inT7 (List.mem_of_getElem? (i := 22) (by decide +kernel))) (by decide +kernel), by decide +kernel, by decide⟩
set_option maxRecDepth 20000 in
theorem mk_X12_isMarked : MOk yX12_isMarked cX12_isMarked 3 (some .boolean) 2 := ⟨lw_good_of (inT7 (List.mem_of_getElem? (i := 35) rfl)) rfl, lw_good_of (inT1 (List.mem_of_getElem? (i := 13) (by decide +kernel))) (by decide +kernel), by decide +kernel, by decide +kernel⟩
set_option maxRecDepth 20000 in
theorem vo_X12_isMarked : VOk yX12_isMarked cX12_isMarked 3 (some .boolean) 2 11 := ⟨mk_X12_isMarked, lw_good_of (inT7 (List.mem_of_getElem? (i := 34) (by decide +kernel))) (by decide +kernel), lw_good_of (inTp (n := 50) (List.mem_of_getElem? (i := 85) (by decide +kernel))) (by decide +kernel), by decide +kernel, by decide⟩
set_option maxRecDepth 20000 in
theorem mk_X12_marked : MOk yX12_marked cX12_marked 5 (some .int) 1 := ⟨lw_good_of (inT7 (List.mem_of_getElem? (i := 31) rfl)) rfl, lw_good_of (inT1 (List.mem_of_getElem? (i := 13) (by decide +kernel))) (by decide +kernel), by decide +kernel, by decide +kernel⟩
set_option maxRecDepth 20000 in
theorem vo_X12_marked : VOk yX12_marked cX12_marked 5 (some .int) 1 11 := ⟨mk_X12_marked, lw_good_of (inT7 (List.mem_of_getElem? (i := 29) (by decide +kernel))) (by decide +kernel), lw_good_of (inT7 (List.mem_of_getElem? (i := 30) (by decide +kernel))) (by decide +kernel), by decide +kernel, by decide⟩
set_option maxRecDepth 20000 in
theorem mk_X12_layTrail : MOk yX12_layTrail cX12_layTrail 3 none 1 := ⟨lw_good_of (inT7 (List.mem_of_getElem? (i := 43) rfl)) rfl, lw_good_of (inT1 (List.mem_of_getElem? (i := 13) (by decide +kernel))) (by decide +kernel), by decide +kernel, by decide +kernel⟩
set_option maxRecDepth 20000 in
theorem vo_X12_layTrail : VOk yX12_layTrail cX12_layTrail 3 none 1 11 := ⟨mk_X12_layTrail, lw_good_of (inT7 (List.mem_of_getElem? (i := 42) (by decide +kernel))) (by decide +kernel), lw_good_of (inTp (n := 50) (List.mem_of_getElem? (i := 86) (by decide +kernel))) (by decide +kernel), by decide +kernel, by decide⟩
set_option maxRecDepth 20000 in
theorem mk_X12_areLevelsLike : MOk yX12_areLevelsLike cX12_areLevelsLike 4 (some .boolean) 2 := ⟨lw_good_of (inT7 (List.mem_of_getElem? (i := 47) rfl)) rfl, lw_good_of (inT1 (List.mem_of_getElem? (i := 13) (by decide +kernel))) (by decide +kernel), by decide +kernel, by decide +kernel⟩
set_option maxRecDepth 20000 in
theorem vo_X12_areLevelsLike : VOk yX12_areLevelsLike cX12_areLevelsLike 4 (some .boolean) 2 11 := ⟨mk_X12_areLevelsLike, lw_good_of (inT7 (List.mem_of_getElem? (i := 46) (by decide +kernel))) (by decide +kernel), lw_good_of (inTp (n := 50) (List.mem_of_getElem? (i := 87) (by decide +kernel))) (by decide +kernel), by decide +kernel, by decide⟩
set_option maxRecDepth 20000 in
theorem mk_X12_sumAt : MOk yX12_sumAt cX12_sumAt 4 (some .int) 1 := ⟨lw_good_of (inT7 (List.mem_of_getElem? (i := 51) rfl)) rfl, lw_good_of (inT1 (List.mem_of_getElem? (i := 13) (by decide +kernel))) (by decide +kernel), by decide +kernel, by decide +kernel⟩
set_option maxRecDepth 20000 in
theorem vo_X12_sumAt : VOk yX12_sumAt cX12_sumAt 4 (some .int) 1 11 := ⟨mk_X12_sumAt, lw_good_of (inT7 (List.mem_of_getElem? (i := 50) (by decide +kernel))) (by decide +kernel), lw_good_of (inTp (n := 50) (List.mem_of_getElem? (i := 88) (by decide +kernel))) (by decide +kernel), by decide +kernel, by decide⟩
set_option maxRecDepth 20000 in
theorem mk_X12_round : MOk yX12_round cX12_round 7 (some .int) 0 := ⟨lw_good_of (inT7 (List.mem_of_getElem? (i := 39) rfl)) rfl, lw_good_of (inT1 (List.mem_of_getElem? (i := 13) (by decide +kernel))) (by decide +kernel), by decide +kernel, by decide +kernel⟩
set_option maxRecDepth 20000 in
theorem vo_X12_round : VOk yX12_round cX12_round 7 (some .int) 0 11 := ⟨mk_X12_round, lw_good_of (inT7 (List.mem_of_getElem? (i := 37) (by decide +kernel))) (by decide +kernel), lw_good_of (inT7 (List.mem_of_getElem? (i := 38) (by decide +kernel))) (by decide +kernel), by decide +kernel, by decide⟩
set_option maxRecDepth 20000 in
theorem mk_X12_still : MOk yX12_still cX12_still 4 (some .int) 0 := ⟨lw_good_of (inT7 (List.mem_of_getElem? (i := 55) rfl)) rfl, lw_good_of (inT1 (List.mem_of_getElem? (i := 13) (by decide +kernel))) (by decide +kernel), by decide +kernel, by decide +kernel⟩
set_option maxRecDepth 20000 in
theorem vo_X12_still : VOk yX12_still cX12_still 4 (some .int) 0 11 := ⟨mk_X12_still, lw_good_of (inT7 (List.mem_of_getElem? (i := 53) (by decide +kernel))) (by decide +kernel), lw_good_of (inT7 (List.mem_of_getElem? (i := 54) (by decide +kernel))) (by decide +kernel), by decide +kernel, by decide⟩
set_option maxRecDepth 20000 in
theorem mk_X12_busiest : MOk yX12_busiest cX12_busiest 4 (some .int) 1 := ⟨lw_good_of (inT7 (List.mem_of_getElem? (i := 59) rfl)) rfl, lw_good_of (inT1 (List.mem_of_getElem? (i := 13) (by decide +kernel))) (by decide +kernel), by decide +kernel, by decide +kernel⟩
set_option maxRecDepth 20000 in
theorem vo_X12_busiest : VOk yX12_busiest cX12_busiest 4 (some .int) 1 11 := ⟨mk_X12_busiest, lw_good_of (inT7 (List.mem_of_getElem? (i := 57) (by decide +kernel))) (by decide +kernel), lw_good_of (inT7 (List.mem_of_getElem? (i := 58) (by decide +kernel))) (by decide +kernel), by decide +kernel, by decide⟩
set_option maxRecDepth 20000 in
theorem mk_X12_high : MOk yX12_high cX12_high 7 (some .int) 1 := ⟨lw_good_of (inT7 (List.mem_of_getElem? (i := 63) rfl)) rfl, lw_good_of (inT1 (List.mem_of_getElem? (i := 13) (by decide +kernel))) (by decide +kernel), by decide +kernel, by decide +kernel⟩
set_option maxRecDepth 20000 in
theorem vo_X12_high : VOk yX12_high cX12_high 7 (some .int) 1 11 := ⟨mk_X12_high, lw_good_of (inT7 (List.mem_of_getElem? (i := 61) (by decide +kernel))) (by decide +kernel), lw_good_of (inT7 (List.mem_of_getElem? (i := 62) (by decide +kernel))) (by decide +kernel), by decide +kernel, by decide⟩
set_option maxRecDepth 20000 in
theorem mk_X12_isSoon : MOk yX12_isSoon cX12_isSoon 1 (some .boolean) 1 := ⟨lw_good_of (inT7 (List.mem_of_getElem? (i := 74) rfl)) rfl, lw_good_of (inT1 (List.mem_of_getElem? (i := 13) (by decide +kernel))) (by decide +kernel), by decide +kernel, by decide +kernel⟩
set_option maxRecDepth 20000 in
theorem so_X12_isSoon : SOk yX12_isSoon cX12_isSoon 1 (some .boolean) 1 := ⟨mk_X12_isSoon, lw_good_of (inT7 (List.mem_of_getElem? (i := 73) (by decide +kernel))) (by decide +kernel), by decide⟩
set_option maxRecDepth 20000 in
theorem mk_X12_beginTable : MOk yX12_beginTable cX12_beginTable 4 none 3 := ⟨lw_good_of (inT7 (List.mem_of_getElem? (i := 78) rfl)) rfl, lw_good_of (inT1 (List.mem_of_getElem? (i := 13) (by decide +kernel))) (by decide +kernel), by decide +kernel, by decide +kernel⟩
set_option maxRecDepth 20000 in
theorem vo_X12_beginTable : VOk yX12_beginTable cX12_beginTable 4 none 3 11 := ⟨mk_X12_beginTable, lw_good_of (inT7 (List.mem_of_getElem? (i := 77) (by decide +kernel))) (by decide +kernel), lw_good_of (inTp (n := 50) (List.mem_of_getElem? (i := 90) (by decide +kernel))) (by decide +kernel), by decide +kernel, by decide⟩
set_option maxRecDepth 20000 in
theorem mk_X12_table : MOk yX12_table cX12_table 7 (some .int) 4 := ⟨lw_good_of (inT7 (List.mem_of_getElem? (i := 67) rfl)) rfl, lw_good_of (inT1 (List.mem_of_getElem? (i := 13) (by decide +kernel))) (by decide +kernel), by decide +kernel, by decide +kernel⟩
set_option maxRecDepth 20000 in
theorem vo_X12_table : VOk yX12_table cX12_table 7 (some .int) 4 11 := ⟨mk_X12_table, lw_good_of (inT7 (List.mem_of_getElem? (i := 65) (by decide +kernel))) (by decide +kernel), lw_good_of (inT7 (List.mem_of_getElem? (i := 66) (by decide +kernel))) (by decide +kernel), by decide +kernel, by decide⟩
set_option maxRecDepth 20000 in
theorem mk_X12_quarters : MOk yX12_quarters cX12_quarters 8 (some .int) 2 := ⟨lw_good_of (inT7 (List.mem_of_getElem? (i := 82) rfl)) rfl, lw_good_of (inT1 (List.mem_of_getElem? (i := 13) (by decide +kernel))) (by decide +kernel), by decide +kernel, by decide +kernel⟩
set_option maxRecDepth 20000 in
theorem vo_X12_quarters : VOk yX12_quarters cX12_quarters 8 (some .int) 2 11 := ⟨mk_X12_quarters, lw_good_of (inT7 (List.mem_of_getElem? (i := 80) (by decide +kernel))) (by decide +kernel), lw_good_of (inT7 (List.mem_of_getElem? (i := 81) (by decide +kernel))) (by decide +kernel), by decide +kernel, by decide⟩
set_option maxRecDepth 20000 in
theorem mk_X12_learns : MOk yX12_learns cX12_learns 8 (some .int) 4 := ⟨lw_good_of (inT7 (List.mem_of_getElem? (i := 86) rfl)) rfl, lw_good_of (inT1 (List.mem_of_getElem? (i := 13) (by decide +kernel))) (by decide +kernel), by decide +kernel, by decide +kernel⟩
set_option maxRecDepth 20000 in
theorem vo_X12_learns : VOk yX12_learns cX12_learns 8 (some .int) 4 11 := ⟨mk_X12_learns, lw_good_of (inT7 (List.mem_of_getElem? (i := 84) (by decide +kernel))) (by decide +kernel), lw_good_of (inT7 (List.mem_of_getElem? (i := 85) (by decide +kernel))) (by decide +kernel), by decide +kernel, by decide⟩
set_option maxRecDepth 20000 in
theorem mk_X12_comesOf : MOk yX12_comesOf cX12_comesOf 5 (some .int) 4 := ⟨lw_good_of (inT7 (List.mem_of_getElem? (i := 94) rfl)) rfl, lw_good_of (inT1 (List.mem_of_getElem? (i := 13) (by decide +kernel))) (by decide +kernel), by decide +kernel, by decide +kernel⟩
set_option maxRecDepth 20000 in
theorem vo_X12_comesOf : VOk yX12_comesOf cX12_comesOf 5 (some .int) 4 11 := ⟨mk_X12_comesOf, lw_good_of (inT7 (List.mem_of_getElem? (i := 93) (by decide +kernel))) (by decide +kernel), lw_good_of (inTp (n := 50) (List.mem_of_getElem? (i := 91) (by decide +kernel))) (by decide +kernel), by decide +kernel, by decide⟩
set_option maxRecDepth 20000 in
theorem mk_X12_kinds : MOk yX12_kinds cX12_kinds 6 (some .int) 3 := ⟨lw_good_of (inT7 (List.mem_of_getElem? (i := 98) rfl)) rfl, lw_good_of (inT1 (List.mem_of_getElem? (i := 13) (by decide +kernel))) (by decide +kernel), by decide +kernel, by decide +kernel⟩
set_option maxRecDepth 20000 in
theorem vo_X12_kinds : VOk yX12_kinds cX12_kinds 6 (some .int) 3 11 := ⟨mk_X12_kinds, lw_good_of (inT7 (List.mem_of_getElem? (i := 97) (by decide +kernel))) (by decide +kernel), lw_good_of (inTp (n := 50) (List.mem_of_getElem? (i := 92) (by decide +kernel))) (by decide +kernel), by decide +kernel, by decide⟩
set_option maxRecDepth 20000 in
theorem mk_X12_words : MOk yX12_words cX12_words 5 (some .int) 3 := ⟨lw_good_of (inT7 (List.mem_of_getElem? (i := 90) rfl)) rfl, lw_good_of (inT1 (List.mem_of_getElem? (i := 13) (by decide +kernel))) (by decide +kernel), by decide +kernel, by decide +kernel⟩
set_option maxRecDepth 20000 in
theorem vo_X12_words : VOk yX12_words cX12_words 5 (some .int) 3 11 := ⟨mk_X12_words, lw_good_of (inT7 (List.mem_of_getElem? (i := 88) (by decide +kernel))) (by decide +kernel), lw_good_of (inT7 (List.mem_of_getElem? (i := 89) (by decide +kernel))) (by decide +kernel), by decide +kernel, by decide⟩
set_option maxRecDepth 20000 in
theorem mk_X12_hears : MOk yX12_hears cX12_hears 6 (some .int) 2 := ⟨lw_good_of (inT7 (List.mem_of_getElem? (i := 103) rfl)) rfl, lw_good_of (inT1 (List.mem_of_getElem? (i := 13) (by decide +kernel))) (by decide +kernel), by decide +kernel, by decide +kernel⟩
set_option maxRecDepth 20000 in
theorem vo_X12_hears : VOk yX12_hears cX12_hears 6 (some .int) 2 11 := ⟨mk_X12_hears, lw_good_of (inT7 (List.mem_of_getElem? (i := 101) (by decide +kernel))) (by decide +kernel), lw_good_of (inT7 (List.mem_of_getElem? (i := 102) (by decide +kernel))) (by decide +kernel), by decide +kernel, by decide⟩
set_option maxRecDepth 20000 in
theorem mk_X12_drought : MOk yX12_drought cX12_drought 7 (some .int) 3 := ⟨lw_good_of (inT7 (List.mem_of_getElem? (i := 107) rfl)) rfl, lw_good_of (inT1 (List.mem_of_getElem? (i := 13) (by decide +kernel))) (by decide +kernel), by decide +kernel, by decide +kernel⟩
set_option maxRecDepth 20000 in
theorem vo_X12_drought : VOk yX12_drought cX12_drought 7 (some .int) 3 11 := ⟨mk_X12_drought, lw_good_of (inT7 (List.mem_of_getElem? (i := 105) (by decide +kernel))) (by decide +kernel), lw_good_of (inT7 (List.mem_of_getElem? (i := 106) (by decide +kernel))) (by decide +kernel), by decide +kernel, by decide⟩
set_option maxRecDepth 20000 in
theorem mk_X12_saw : MOk yX12_saw cX12_saw 4 (some .int) 3 := ⟨lw_good_of (inT7 (List.mem_of_getElem? (i := 111) rfl)) rfl, lw_good_of (inT1 (List.mem_of_getElem? (i := 13) (by decide +kernel))) (by decide +kernel), by decide +kernel, by decide +kernel⟩
set_option maxRecDepth 20000 in
theorem vo_X12_saw : VOk yX12_saw cX12_saw 4 (some .int) 3 11 := ⟨mk_X12_saw, lw_good_of (inT7 (List.mem_of_getElem? (i := 109) (by decide +kernel))) (by decide +kernel), lw_good_of (inT7 (List.mem_of_getElem? (i := 110) (by decide +kernel))) (by decide +kernel), by decide +kernel, by decide⟩
set_option maxRecDepth 20000 in
theorem mk_X12_forget : MOk yX12_forget cX12_forget 2 (some .int) 0 := ⟨lw_good_of (inT7 (List.mem_of_getElem? (i := 115) rfl)) rfl, lw_good_of (inT1 (List.mem_of_getElem? (i := 13) (by decide +kernel))) (by decide +kernel), by decide +kernel, by decide +kernel⟩
set_option maxRecDepth 20000 in
theorem vo_X12_forget : VOk yX12_forget cX12_forget 2 (some .int) 0 11 := ⟨mk_X12_forget, lw_good_of (inT7 (List.mem_of_getElem? (i := 113) (by decide +kernel))) (by decide +kernel), lw_good_of (inT7 (List.mem_of_getElem? (i := 114) (by decide +kernel))) (by decide +kernel), by decide +kernel, by decide⟩
set_option maxRecDepth 20000 in
theorem mk_X12_beginStuck : MOk yX12_beginStuck cX12_beginStuck 2 none 1 := ⟨lw_good_of (inT7 (List.mem_of_getElem? (i := 131) rfl)) rfl, lw_good_of (inT1 (List.mem_of_getElem? (i := 13) (by decide +kernel))) (by decide +kernel), by decide +kernel, by decide +kernel⟩
set_option maxRecDepth 20000 in
theorem vo_X12_beginStuck : VOk yX12_beginStuck cX12_beginStuck 2 none 1 11 := ⟨mk_X12_beginStuck, lw_good_of (inT7 (List.mem_of_getElem? (i := 130) (by decide +kernel))) (by decide +kernel), lw_good_of (inTp (n := 50) (List.mem_of_getElem? (i := 95) (by decide +kernel))) (by decide +kernel), by decide +kernel, by decide⟩
set_option maxRecDepth 20000 in
theorem mk_X12_isSeen : MOk yX12_isSeen cX12_isSeen 5 (some .boolean) 1 := ⟨lw_good_of (inT7 (List.mem_of_getElem? (i := 127) rfl)) rfl, lw_good_of (inT1 (List.mem_of_getElem? (i := 13) (by decide +kernel))) (by decide +kernel), by decide +kernel, by decide +kernel⟩
set_option maxRecDepth 20000 in
theorem vo_X12_isSeen : VOk yX12_isSeen cX12_isSeen 5 (some .boolean) 1 11 := ⟨mk_X12_isSeen, lw_good_of (inT7 (List.mem_of_getElem? (i := 126) (by decide +kernel))) (by decide +kernel), lw_good_of (inTp (n := 50) (List.mem_of_getElem? (i := 94) (by decide +kernel))) (by decide +kernel), by decide +kernel, by decide⟩
set_option maxRecDepth 20000 in
theorem mk_X12_fitting : MOk yX12_fitting cX12_fitting 3 (some .int) 0 := ⟨lw_good_of (inT7 (List.mem_of_getElem? (i := 123) rfl)) rfl, lw_good_of (inT1 (List.mem_of_getElem? (i := 13) (by decide +kernel))) (by decide +kernel), by decide +kernel, by decide +kernel⟩
set_option maxRecDepth 20000 in
theorem vo_X12_fitting : VOk yX12_fitting cX12_fitting 3 (some .int) 0 11 := ⟨mk_X12_fitting, lw_good_of (inT7 (List.mem_of_getElem? (i := 122) (by decide +kernel))) (by decide +kernel), lw_good_of (inTp (n := 50) (List.mem_of_getElem? (i := 93) (by decide +kernel))) (by decide +kernel), by decide +kernel, by decide⟩
set_option maxRecDepth 20000 in
theorem mk_X12_fits : MOk yX12_fits cX12_fits 2 (some .int) 0 := ⟨lw_good_of (inT7 (List.mem_of_getElem? (i := 119) rfl)) rfl, lw_good_of (inT1 (List.mem_of_getElem? (i := 13) (by decide +kernel))) (by decide +kernel), by decide +kernel, by decide +kernel⟩
set_option maxRecDepth 20000 in
theorem vo_X12_fits : VOk yX12_fits cX12_fits 2 (some .int) 0 11 := ⟨mk_X12_fits, lw_good_of (inT7 (List.mem_of_getElem? (i := 117) (by decide +kernel))) (by decide +kernel), lw_good_of (inT7 (List.mem_of_getElem? (i := 118) (by decide +kernel))) (by decide +kernel), by decide +kernel, by decide⟩
set_option maxRecDepth 20000 in
theorem mk_X12_cellOf : MOk yX12_cellOf cX12_cellOf 2 (some .int) 2 := ⟨lw_good_of (inT7 (List.mem_of_getElem? (i := 138) rfl)) rfl, lw_good_of (inT1 (List.mem_of_getElem? (i := 13) (by decide +kernel))) (by decide +kernel), by decide +kernel, by decide +kernel⟩
set_option maxRecDepth 20000 in
theorem so_X12_cellOf : SOk yX12_cellOf cX12_cellOf 2 (some .int) 2 := ⟨mk_X12_cellOf, lw_good_of (inT7 (List.mem_of_getElem? (i := 137) (by decide +kernel))) (by decide +kernel), by decide⟩
set_option maxRecDepth 20000 in
theorem mk_X12_looks : MOk yX12_looks cX12_looks 8 (some .int) 0 := ⟨lw_good_of (inT7 (List.mem_of_getElem? (i := 135) rfl)) rfl, lw_good_of (inT1 (List.mem_of_getElem? (i := 13) (by decide +kernel))) (by decide +kernel), by decide +kernel, by decide +kernel⟩
set_option maxRecDepth 20000 in
theorem vo_X12_looks : VOk yX12_looks cX12_looks 8 (some .int) 0 11 := ⟨mk_X12_looks, lw_good_of (inT7 (List.mem_of_getElem? (i := 133) (by decide +kernel))) (by decide +kernel), lw_good_of (inT7 (List.mem_of_getElem? (i := 134) (by decide +kernel))) (by decide +kernel), by decide +kernel, by decide⟩
set_option maxRecDepth 20000 in
theorem mk_X12_levelBy : MOk yX12_levelBy cX12_levelBy 4 (some .int) 3 := ⟨lw_good_of (inT7 (List.mem_of_getElem? (i := 147) rfl)) rfl, lw_good_of (inT1 (List.mem_of_getElem? (i := 13) (by decide +kernel))) (by decide +kernel), by decide +kernel, by decide +kernel⟩
set_option maxRecDepth 20000 in
theorem vo_X12_levelBy : VOk yX12_levelBy cX12_levelBy 4 (some .int) 3 11 := ⟨mk_X12_levelBy, lw_good_of (inT7 (List.mem_of_getElem? (i := 146) (by decide +kernel))) (by decide +kernel), lw_good_of (inTp (n := 50) (List.mem_of_getElem? (i := 96) (by decide +kernel))) (by decide +kernel), by decide +kernel, by decide⟩
set_option maxRecDepth 20000 in
theorem mk_X12_needs : MOk yX12_needs cX12_needs 6 (some .int) 2 := ⟨lw_good_of (inT7 (List.mem_of_getElem? (i := 143) rfl)) rfl, lw_good_of (inT1 (List.mem_of_getElem? (i := 13) (by decide +kernel))) (by decide +kernel), by decide +kernel, by decide +kernel⟩
set_option maxRecDepth 20000 in
theorem vo_X12_needs : VOk yX12_needs cX12_needs 6 (some .int) 2 11 := ⟨mk_X12_needs, lw_good_of (inT7 (List.mem_of_getElem? (i := 141) (by decide +kernel))) (by decide +kernel), lw_good_of (inT7 (List.mem_of_getElem? (i := 142) (by decide +kernel))) (by decide +kernel), by decide +kernel, by decide⟩
set_option maxRecDepth 20000 in
theorem mk_X12_isFree : MOk yX12_isFree cX12_isFree 3 (some .boolean) 2 := ⟨lw_good_of (inT7 (List.mem_of_getElem? (i := 159) rfl)) rfl, lw_good_of (inT1 (List.mem_of_getElem? (i := 13) (by decide +kernel))) (by decide +kernel), by decide +kernel, by decide +kernel⟩
set_option maxRecDepth 20000 in
theorem vo_X12_isFree : VOk yX12_isFree cX12_isFree 3 (some .boolean) 2 11 := ⟨mk_X12_isFree, lw_good_of (inT7 (List.mem_of_getElem? (i := 158) (by decide +kernel))) (by decide +kernel), lw_good_of (inTp (n := 50) (List.mem_of_getElem? (i := 98) (by decide +kernel))) (by decide +kernel), by decide +kernel, by decide⟩
set_option maxRecDepth 20000 in
theorem mk_X12_reachOf : MOk yX12_reachOf cX12_reachOf 6 (some .int) 2 := ⟨lw_good_of (inT7 (List.mem_of_getElem? (i := 155) rfl)) rfl, lw_good_of (inT1 (List.mem_of_getElem? (i := 13) (by decide +kernel))) (by decide +kernel), by decide +kernel, by decide +kernel⟩
set_option maxRecDepth 20000 in
theorem vo_X12_reachOf : VOk yX12_reachOf cX12_reachOf 6 (some .int) 2 11 := ⟨mk_X12_reachOf, lw_good_of (inT7 (List.mem_of_getElem? (i := 154) (by decide +kernel))) (by decide +kernel), lw_good_of (inTp (n := 50) (List.mem_of_getElem? (i := 97) (by decide +kernel))) (by decide +kernel), by decide +kernel, by decide⟩
set_option maxRecDepth 20000 in
theorem mk_X12_reach : MOk yX12_reach cX12_reach 3 (some .int) 1 := ⟨lw_good_of (inT7 (List.mem_of_getElem? (i := 151) rfl)) rfl, lw_good_of (inT1 (List.mem_of_getElem? (i := 13) (by decide +kernel))) (by decide +kernel), by decide +kernel, by decide +kernel⟩
set_option maxRecDepth 20000 in
theorem vo_X12_reach : VOk yX12_reach cX12_reach 3 (some .int) 1 11 := ⟨mk_X12_reach, lw_good_of (inT7 (List.mem_of_getElem? (i := 149) (by decide +kernel))) (by decide +kernel), lw_good_of (inT7 (List.mem_of_getElem? (i := 150) (by decide +kernel))) (by decide +kernel), by decide +kernel, by decide⟩
set_option maxRecDepth 20000 in
theorem mk_X12_laySteps : MOk yX12_laySteps cX12_laySteps 4 none 1 := ⟨lw_good_of (inT7 (List.mem_of_getElem? (i := 167) rfl)) rfl, lw_good_of (inT1 (List.mem_of_getElem? (i := 13) (by decide +kernel))) (by decide +kernel), by decide +kernel, by decide +kernel⟩
set_option maxRecDepth 20000 in
theorem vo_X12_laySteps : VOk yX12_laySteps cX12_laySteps 4 none 1 11 := ⟨mk_X12_laySteps, lw_good_of (inT7 (List.mem_of_getElem? (i := 166) (by decide +kernel))) (by decide +kernel), lw_good_of (inTp (n := 50) (List.mem_of_getElem? (i := 99) (by decide +kernel))) (by decide +kernel), by decide +kernel, by decide⟩
set_option maxRecDepth 20000 in
theorem mk_X12_tellWay : MOk yX12_tellWay cX12_tellWay 4 none 1 := ⟨lw_good_of (inT7 (List.mem_of_getElem? (i := 171) rfl)) rfl, lw_good_of (inT1 (List.mem_of_getElem? (i := 13) (by decide +kernel))) (by decide +kernel), by decide +kernel, by decide +kernel⟩
set_option maxRecDepth 20000 in
theorem vo_X12_tellWay : VOk yX12_tellWay cX12_tellWay 4 none 1 11 := ⟨mk_X12_tellWay, lw_good_of (inT7 (List.mem_of_getElem? (i := 170) (by decide +kernel))) (by decide +kernel), lw_good_of (inTp (n := 50) (List.mem_of_getElem? (i := 100) (by decide +kernel))) (by decide +kernel), by decide +kernel, by decide⟩
set_option maxRecDepth 20000 in
theorem mk_X12_way : MOk yX12_way cX12_way 3 (some .int) 2 := ⟨lw_good_of (inT7 (List.mem_of_getElem? (i := 163) rfl)) rfl, lw_good_of (inT1 (List.mem_of_getElem? (i := 13) (by decide +kernel))) (by decide +kernel), by decide +kernel, by decide +kernel⟩
set_option maxRecDepth 20000 in
theorem vo_X12_way : VOk yX12_way cX12_way 3 (some .int) 2 11 := ⟨mk_X12_way, lw_good_of (inT7 (List.mem_of_getElem? (i := 161) (by decide +kernel))) (by decide +kernel), lw_good_of (inT7 (List.mem_of_getElem? (i := 162) (by decide +kernel))) (by decide +kernel), by decide +kernel, by decide⟩
set_option maxRecDepth 20000 in
theorem mk_X12_cut : MOk yX12_cut cX12_cut 5 (some .int) 2 := ⟨lw_good_of (inT7 (List.mem_of_getElem? (i := 175) rfl)) rfl, lw_good_of (inT1 (List.mem_of_getElem? (i := 13) (by decide +kernel))) (by decide +kernel), by decide +kernel, by decide +kernel⟩
set_option maxRecDepth 20000 in
theorem vo_X12_cut : VOk yX12_cut cX12_cut 5 (some .int) 2 11 := ⟨mk_X12_cut, lw_good_of (inT7 (List.mem_of_getElem? (i := 173) (by decide +kernel))) (by decide +kernel), lw_good_of (inT7 (List.mem_of_getElem? (i := 174) (by decide +kernel))) (by decide +kernel), by decide +kernel, by decide⟩
set_option maxRecDepth 20000 in
theorem mk_X12_goRing : MOk yX12_goRing cX12_goRing 5 none 2 := ⟨lw_good_of (inT7 (List.mem_of_getElem? (i := 183) rfl)) rfl, lw_good_of (inT1 (List.mem_of_getElem? (i := 13) (by decide +kernel))) (by decide +kernel), by decide +kernel, by decide +kernel⟩
set_option maxRecDepth 20000 in
theorem vo_X12_goRing : VOk yX12_goRing cX12_goRing 5 none 2 11 := ⟨mk_X12_goRing, lw_good_of (inT7 (List.mem_of_getElem? (i := 182) (by decide +kernel))) (by decide +kernel), lw_good_of (inTp (n := 50) (List.mem_of_getElem? (i := 101) (by decide +kernel))) (by decide +kernel), by decide +kernel, by decide⟩
set_option maxRecDepth 20000 in
theorem mk_X12_ring : MOk yX12_ring cX12_ring 2 (some .int) 0 := ⟨lw_good_of (inT7 (List.mem_of_getElem? (i := 179) rfl)) rfl, lw_good_of (inT1 (List.mem_of_getElem? (i := 13) (by decide +kernel))) (by decide +kernel), by decide +kernel, by decide +kernel⟩
set_option maxRecDepth 20000 in
theorem vo_X12_ring : VOk yX12_ring cX12_ring 2 (some .int) 0 11 := ⟨mk_X12_ring, lw_good_of (inT7 (List.mem_of_getElem? (i := 177) (by decide +kernel))) (by decide +kernel), lw_good_of (inT7 (List.mem_of_getElem? (i := 178) (by decide +kernel))) (by decide +kernel), by decide +kernel, by decide⟩
set_option maxRecDepth 20000 in
theorem mk_X12_goOrder : MOk yX12_goOrder cX12_goOrder 6 none 3 := ⟨lw_good_of (inT7 (List.mem_of_getElem? (i := 191) rfl)) rfl, lw_good_of (inT1 (List.mem_of_getElem? (i := 13) (by decide +kernel))) (by decide +kernel), by decide +kernel, by decide +kernel⟩
set_option maxRecDepth 20000 in
theorem vo_X12_goOrder : VOk yX12_goOrder cX12_goOrder 6 none 3 11 := ⟨mk_X12_goOrder, lw_good_of (inT7 (List.mem_of_getElem? (i := 190) (by decide +kernel))) (by decide +kernel), lw_good_of (inTp (n := 50) (List.mem_of_getElem? (i := 102) (by decide +kernel))) (by decide +kernel), by decide +kernel, by decide⟩
set_option maxRecDepth 20000 in
theorem mk_X12_order : MOk yX12_order cX12_order 3 (some .int) 0 := ⟨lw_good_of (inT7 (List.mem_of_getElem? (i := 187) rfl)) rfl, lw_good_of (inT1 (List.mem_of_getElem? (i := 13) (by decide +kernel))) (by decide +kernel), by decide +kernel, by decide +kernel⟩
set_option maxRecDepth 20000 in
theorem vo_X12_order : VOk yX12_order cX12_order 3 (some .int) 0 11 := ⟨mk_X12_order, lw_good_of (inT7 (List.mem_of_getElem? (i := 185) (by decide +kernel))) (by decide +kernel), lw_good_of (inT7 (List.mem_of_getElem? (i := 186) (by decide +kernel))) (by decide +kernel), by decide +kernel, by decide⟩
set_option maxRecDepth 20000 in
theorem mk_X12_losesAt : MOk yX12_losesAt cX12_losesAt 3 (some .boolean) 2 := ⟨lw_good_of (inT7 (List.mem_of_getElem? (i := 203) rfl)) rfl, lw_good_of (inT1 (List.mem_of_getElem? (i := 13) (by decide +kernel))) (by decide +kernel), by decide +kernel, by decide +kernel⟩
set_option maxRecDepth 20000 in
theorem vo_X12_losesAt : VOk yX12_losesAt cX12_losesAt 3 (some .boolean) 2 11 := ⟨mk_X12_losesAt, lw_good_of (inT7 (List.mem_of_getElem? (i := 202) (by decide +kernel))) (by decide +kernel), lw_good_of (inTp (n := 50) (List.mem_of_getElem? (i := 104) (by decide +kernel))) (by decide +kernel), by decide +kernel, by decide⟩
set_option maxRecDepth 20000 in
theorem mk_X12_moveOf : MOk yX12_moveOf cX12_moveOf 3 (some .int) 2 := ⟨lw_good_of (inT7 (List.mem_of_getElem? (i := 199) rfl)) rfl, lw_good_of (inT1 (List.mem_of_getElem? (i := 13) (by decide +kernel))) (by decide +kernel), by decide +kernel, by decide +kernel⟩
set_option maxRecDepth 20000 in
theorem vo_X12_moveOf : VOk yX12_moveOf cX12_moveOf 3 (some .int) 2 11 := ⟨mk_X12_moveOf, lw_good_of (inT7 (List.mem_of_getElem? (i := 198) (by decide +kernel))) (by decide +kernel), lw_good_of (inTp (n := 50) (List.mem_of_getElem? (i := 103) (by decide +kernel))) (by decide +kernel), by decide +kernel, by decide⟩
set_option maxRecDepth 20000 in
theorem mk_X12_locks : MOk yX12_locks cX12_locks 5 (some .int) 2 := ⟨lw_good_of (inT7 (List.mem_of_getElem? (i := 195) rfl)) rfl, lw_good_of (inT1 (List.mem_of_getElem? (i := 13) (by decide +kernel))) (by decide +kernel), by decide +kernel, by decide +kernel⟩
set_option maxRecDepth 20000 in
theorem vo_X12_locks : VOk yX12_locks cX12_locks 5 (some .int) 2 11 := ⟨mk_X12_locks, lw_good_of (inT7 (List.mem_of_getElem? (i := 193) (by decide +kernel))) (by decide +kernel), lw_good_of (inT7 (List.mem_of_getElem? (i := 194) (by decide +kernel))) (by decide +kernel), by decide +kernel, by decide⟩
set_option maxRecDepth 20000 in
theorem mk_X12_common : MOk yX12_common cX12_common 4 (some .long) 2 := ⟨lw_good_of (inT7 (List.mem_of_getElem? (i := 214) rfl)) rfl, lw_good_of (inT1 (List.mem_of_getElem? (i := 13) (by decide +kernel))) (by decide +kernel), by decide +kernel, by decide +kernel⟩
set_option maxRecDepth 20000 in
theorem so_X12_common : SOk yX12_common cX12_common 4 (some .long) 2 := ⟨mk_X12_common, lw_good_of (inT7 (List.mem_of_getElem? (i := 213) (by decide +kernel))) (by decide +kernel), by decide⟩
set_option maxRecDepth 20000 in
theorem mk_X12_power : MOk yX12_power cX12_power 6 (some .long) 2 := ⟨lw_good_of (inT7 (List.mem_of_getElem? (i := 210) rfl)) rfl, lw_good_of (inT1 (List.mem_of_getElem? (i := 13) (by decide +kernel))) (by decide +kernel), by decide +kernel, by decide +kernel⟩
set_option maxRecDepth 20000 in
theorem so_X12_power : SOk yX12_power cX12_power 6 (some .long) 2 := ⟨mk_X12_power, lw_good_of (inT7 (List.mem_of_getElem? (i := 209) (by decide +kernel))) (by decide +kernel), by decide⟩
set_option maxRecDepth 20000 in
theorem mk_X12_spoils : MOk yX12_spoils cX12_spoils 12 (some .int) 3 := ⟨lw_good_of (inT7 (List.mem_of_getElem? (i := 207) rfl)) rfl, lw_good_of (inT1 (List.mem_of_getElem? (i := 13) (by decide +kernel))) (by decide +kernel), by decide +kernel, by decide +kernel⟩
set_option maxRecDepth 20000 in
theorem vo_X12_spoils : VOk yX12_spoils cX12_spoils 12 (some .int) 3 11 := ⟨mk_X12_spoils, lw_good_of (inT7 (List.mem_of_getElem? (i := 205) (by decide +kernel))) (by decide +kernel), lw_good_of (inT7 (List.mem_of_getElem? (i := 206) (by decide +kernel))) (by decide +kernel), by decide +kernel, by decide⟩
set_option maxRecDepth 20000 in
theorem mk_X12_gets : MOk yX12_gets cX12_gets 3 (some .int) 3 := ⟨lw_good_of (inT7 (List.mem_of_getElem? (i := 224) rfl)) rfl, lw_good_of (inT1 (List.mem_of_getElem? (i := 13) (by decide +kernel))) (by decide +kernel), by decide +kernel, by decide +kernel⟩
set_option maxRecDepth 20000 in
theorem so_X12_gets : SOk yX12_gets cX12_gets 3 (some .int) 3 := ⟨mk_X12_gets, lw_good_of (inT7 (List.mem_of_getElem? (i := 223) (by decide +kernel))) (by decide +kernel), by decide⟩
set_option maxRecDepth 20000 in
theorem mk_X12_isBest : MOk yX12_isBest cX12_isBest 4 (some .boolean) 3 := ⟨lw_good_of (inT7 (List.mem_of_getElem? (i := 221) rfl)) rfl, lw_good_of (inT1 (List.mem_of_getElem? (i := 13) (by decide +kernel))) (by decide +kernel), by decide +kernel, by decide +kernel⟩
set_option maxRecDepth 20000 in
theorem so_X12_isBest : SOk yX12_isBest cX12_isBest 4 (some .boolean) 3 := ⟨mk_X12_isBest, lw_good_of (inT7 (List.mem_of_getElem? (i := 220) (by decide +kernel))) (by decide +kernel), by decide⟩
set_option maxRecDepth 20000 in
theorem mk_X12_rests : MOk yX12_rests cX12_rests 5 (some .int) 1 := ⟨lw_good_of (inT7 (List.mem_of_getElem? (i := 218) rfl)) rfl, lw_good_of (inT1 (List.mem_of_getElem? (i := 13) (by decide +kernel))) (by decide +kernel), by decide +kernel, by decide +kernel⟩
set_option maxRecDepth 20000 in
theorem vo_X12_rests : VOk yX12_rests cX12_rests 5 (some .int) 1 11 := ⟨mk_X12_rests, lw_good_of (inT7 (List.mem_of_getElem? (i := 216) (by decide +kernel))) (by decide +kernel), lw_good_of (inT7 (List.mem_of_getElem? (i := 217) (by decide +kernel))) (by decide +kernel), by decide +kernel, by decide⟩
set_option maxRecDepth 20000 in
theorem mk_X12_law : MOk yX12_law cX12_law 6 (some .int) 0 := ⟨lw_good_of (inT7 (List.mem_of_getElem? (i := 228) rfl)) rfl, lw_good_of (inT1 (List.mem_of_getElem? (i := 13) (by decide +kernel))) (by decide +kernel), by decide +kernel, by decide +kernel⟩
set_option maxRecDepth 20000 in
theorem vo_X12_law : VOk yX12_law cX12_law 6 (some .int) 0 11 := ⟨mk_X12_law, lw_good_of (inT7 (List.mem_of_getElem? (i := 226) (by decide +kernel))) (by decide +kernel), lw_good_of (inT7 (List.mem_of_getElem? (i := 227) (by decide +kernel))) (by decide +kernel), by decide +kernel, by decide⟩
set_option maxRecDepth 20000 in
theorem mk_X12_draw : MOk yX12_draw cX12_draw 2 (some .int) 1 := ⟨lw_good_of (inT7 (List.mem_of_getElem? (i := 236) rfl)) rfl, lw_good_of (inT1 (List.mem_of_getElem? (i := 13) (by decide +kernel))) (by decide +kernel), by decide +kernel, by decide +kernel⟩
set_option maxRecDepth 20000 in
theorem vo_X12_draw : VOk yX12_draw cX12_draw 2 (some .int) 1 11 := ⟨mk_X12_draw, lw_good_of (inT7 (List.mem_of_getElem? (i := 235) (by decide +kernel))) (by decide +kernel), lw_good_of (inTp (n := 50) (List.mem_of_getElem? (i := 105) (by decide +kernel))) (by decide +kernel), by decide +kernel, by decide⟩
set_option maxRecDepth 20000 in
theorem mk_X12_years : MOk yX12_years cX12_years 7 (some .int) 2 := ⟨lw_good_of (inT7 (List.mem_of_getElem? (i := 232) rfl)) rfl, lw_good_of (inT1 (List.mem_of_getElem? (i := 13) (by decide +kernel))) (by decide +kernel), by decide +kernel, by decide +kernel⟩
set_option maxRecDepth 20000 in
theorem vo_X12_years : VOk yX12_years cX12_years 7 (some .int) 2 11 := ⟨mk_X12_years, lw_good_of (inT7 (List.mem_of_getElem? (i := 230) (by decide +kernel))) (by decide +kernel), lw_good_of (inT7 (List.mem_of_getElem? (i := 231) (by decide +kernel))) (by decide +kernel), by decide +kernel, by decide⟩
set_option maxRecDepth 20000 in
theorem mk_X12_keep : MOk yX12_keep cX12_keep 2 (some .boolean) 1 := ⟨lw_good_of (inT8 (List.mem_of_getElem? (i := 1) rfl)) rfl, lw_good_of (inT1 (List.mem_of_getElem? (i := 13) (by decide +kernel))) (by decide +kernel), by decide +kernel, by decide +kernel⟩
set_option maxRecDepth 20000 in
theorem vo_X12_keep : VOk yX12_keep cX12_keep 2 (some .boolean) 1 11 := ⟨mk_X12_keep, lw_good_of (inT7 (List.mem_of_getElem? (i := 239) (by decide +kernel))) (by decide +kernel), lw_good_of (inT8 (List.mem_of_getElem? (i := 0) (by decide +kernel))) (by decide +kernel), by decide +kernel, by decide⟩
set_option maxRecDepth 20000 in
theorem mk_X12_again : MOk yX12_again cX12_again 3 (some .boolean) 1 := ⟨lw_good_of (inT8 (List.mem_of_getElem? (i := 5) rfl)) rfl, lw_good_of (inT1 (List.mem_of_getElem? (i := 13) (by decide +kernel))) (by decide +kernel), by decide +kernel, by decide +kernel⟩
set_option maxRecDepth 20000 in
theorem vo_X12_again : VOk yX12_again cX12_again 3 (some .boolean) 1 11 := ⟨mk_X12_again, lw_good_of (inT8 (List.mem_of_getElem? (i := 3) (by decide +kernel))) (by decide +kernel), lw_good_of (inT8 (List.mem_of_getElem? (i := 4) (by decide +kernel))) (by decide +kernel), by decide +kernel, by decide⟩
set_option maxRecDepth 20000 in
theorem mk_X12_allMarked : MOk yX12_allMarked cX12_allMarked 3 (some .int) 0 := ⟨lw_good_of (inT8 (List.mem_of_getElem? (i := 13) rfl)) rfl, lw_good_of (inT1 (List.mem_of_getElem? (i := 13) (by decide +kernel))) (by decide +kernel), by decide +kernel, by decide +kernel⟩
set_option maxRecDepth 20000 in
theorem vo_X12_allMarked : VOk yX12_allMarked cX12_allMarked 3 (some .int) 0 11 := ⟨mk_X12_allMarked, lw_good_of (inT8 (List.mem_of_getElem? (i := 12) (by decide +kernel))) (by decide +kernel), lw_good_of (inTp (n := 50) (List.mem_of_getElem? (i := 106) (by decide +kernel))) (by decide +kernel), by decide +kernel, by decide⟩
set_option maxRecDepth 20000 in
theorem mk_X12_count : MOk yX12_count cX12_count 2 (some .int) 1 := ⟨lw_good_of (inT8 (List.mem_of_getElem? (i := 9) rfl)) rfl, lw_good_of (inT1 (List.mem_of_getElem? (i := 13) (by decide +kernel))) (by decide +kernel), by decide +kernel, by decide +kernel⟩
set_option maxRecDepth 20000 in
theorem vo_X12_count : VOk yX12_count cX12_count 2 (some .int) 1 11 := ⟨mk_X12_count, lw_good_of (inT8 (List.mem_of_getElem? (i := 7) (by decide +kernel))) (by decide +kernel), lw_good_of (inT8 (List.mem_of_getElem? (i := 8) (by decide +kernel))) (by decide +kernel), by decide +kernel, by decide⟩
set_option maxRecDepth 20000 in
theorem mk_X12_row : MOk yX12_row cX12_row 2 (some .long) 1 := ⟨lw_good_of (inT8 (List.mem_of_getElem? (i := 17) rfl)) rfl, lw_good_of (inT1 (List.mem_of_getElem? (i := 13) (by decide +kernel))) (by decide +kernel), by decide +kernel, by decide +kernel⟩
set_option maxRecDepth 20000 in
theorem vo_X12_row : VOk yX12_row cX12_row 2 (some .long) 1 11 := ⟨mk_X12_row, lw_good_of (inT8 (List.mem_of_getElem? (i := 15) (by decide +kernel))) (by decide +kernel), lw_good_of (inT8 (List.mem_of_getElem? (i := 16) (by decide +kernel))) (by decide +kernel), by decide +kernel, by decide⟩
set_option maxRecDepth 20000 in
theorem mk_J6_bitCount_0f7a4 : MOk yJ6_bitCount_0f7a4 cJ6_bitCount_0f7a4 1 (some .int) 1 := ⟨lw_good_of (inT4 (List.mem_of_getElem? (i := 33) rfl)) rfl, lw_good_of (inT1 (List.mem_of_getElem? (i := 20) (by decide +kernel))) (by decide +kernel), by decide +kernel, by decide +kernel⟩
set_option maxRecDepth 20000 in
theorem so_J6_bitCount_0f7a4 : SOk yJ6_bitCount_0f7a4 cJ6_bitCount_0f7a4 1 (some .int) 1 := ⟨mk_J6_bitCount_0f7a4, lw_good_of (inT4 (List.mem_of_getElem? (i := 32) (by decide +kernel))) (by decide +kernel), by decide⟩
set_option maxRecDepth 20000 in
theorem mk_J13_bitCount_95d88 : MOk yJ13_bitCount_95d88 cJ13_bitCount_95d88 2 (some .int) 1 := ⟨lw_good_of (inT3 (List.mem_of_getElem? (i := 207) rfl)) rfl, lw_good_of (inT1 (List.mem_of_getElem? (i := 19) (by decide +kernel))) (by decide +kernel), by decide +kernel, by decide +kernel⟩
set_option maxRecDepth 20000 in
theorem so_J13_bitCount_95d88 : SOk yJ13_bitCount_95d88 cJ13_bitCount_95d88 2 (some .int) 1 := ⟨mk_J13_bitCount_95d88, lw_good_of (inT3 (List.mem_of_getElem? (i := 206) (by decide +kernel))) (by decide +kernel), by decide⟩
set_option maxRecDepth 20000 in
theorem mc_J9_abs_0f7a4 : Cond.code yJ9_abs_0f7a4 cJ9_abs_0f7a4 1 (some .int) ∈ lw_good := lw_good_of (inT6 (List.mem_of_getElem? (i := 215) rfl)) rfl
set_option maxRecDepth 20000 in
theorem ms_J9_abs_0f7a4 : Cond.static yJ9_abs_0f7a4 ∈ lw_good := lw_good_of (inT6 (List.mem_of_getElem? (i := 214) (by decide +kernel))) (by decide +kernel)
set_option maxRecDepth 20000 in
theorem mc_J9_max_7cf53 : Cond.code yJ9_max_7cf53 cJ9_max_7cf53 2 (some .int) ∈ lw_good := lw_good_of (inT2 (List.mem_of_getElem? (i := 233) rfl)) rfl
set_option maxRecDepth 20000 in
theorem ms_J9_max_7cf53 : Cond.static yJ9_max_7cf53 ∈ lw_good := lw_good_of (inT2 (List.mem_of_getElem? (i := 232) (by decide +kernel))) (by decide +kernel)
set_option maxRecDepth 20000 in
theorem mc_J9_min_7cf53 : Cond.code yJ9_min_7cf53 cJ9_min_7cf53 2 (some .int) ∈ lw_good := lw_good_of (inT3 (List.mem_of_getElem? (i := 7) rfl)) rfl
set_option maxRecDepth 20000 in
theorem ms_J9_min_7cf53 : Cond.static yJ9_min_7cf53 ∈ lw_good := lw_good_of (inT3 (List.mem_of_getElem? (i := 6) (by decide +kernel))) (by decide +kernel)
set_option maxRecDepth 20000 in
theorem ml_X11_11 : Cond.methodLink RX11 11 yX8_init ∈ lw_good := lw_good_of (inT1 (List.mem_of_getElem? (i := 32) (by decide +kernel))) (by decide +kernel)
set_option maxRecDepth 20000 in
theorem ml_X11_18 : Cond.methodLink RX11 18 yX0_init ∈ lw_good := lw_good_of (inT1 (List.mem_of_getElem? (i := 48) (by decide +kernel))) (by decide +kernel)
set_option maxRecDepth 20000 in
theorem ml_X11_25 : Cond.methodLink RX11 25 yX10_init ∈ lw_good := lw_good_of (inT1 (List.mem_of_getElem? (i := 97) (by decide +kernel))) (by decide +kernel)
set_option maxRecDepth 20000 in
theorem ml_X11_34 : Cond.methodLink RX11 34 yX9_init ∈ lw_good := lw_good_of (inT1 (List.mem_of_getElem? (i := 111) (by decide +kernel))) (by decide +kernel)
set_option maxRecDepth 20000 in
theorem ml_X11_41 : Cond.methodLink RX11 41 yX4_init ∈ lw_good := lw_good_of (inT1 (List.mem_of_getElem? (i := 129) (by decide +kernel))) (by decide +kernel)
set_option maxRecDepth 20000 in
theorem ml_X4_18 : Cond.methodLink RX4 18 yX4_becomesNone ∈ lw_good := lw_good_of (inT1 (List.mem_of_getElem? (i := 133) (by decide +kernel))) (by decide +kernel)
set_option maxRecDepth 20000 in
theorem ml_X4_21 : Cond.methodLink RX4 21 arraycopyName ∈ lw_good := lw_good_of (inT1 (List.mem_of_getElem? (i := 139) (by decide +kernel))) (by decide +kernel)
set_option maxRecDepth 20000 in
theorem ml_X11_51 : Cond.methodLink RX11 51 yX5_init ∈ lw_good := lw_good_of (inT1 (List.mem_of_getElem? (i := 154) (by decide +kernel))) (by decide +kernel)
set_option maxRecDepth 20000 in
theorem ml_X11_60 : Cond.methodLink RX11 60 yX7_init ∈ lw_good := lw_good_of (inT1 (List.mem_of_getElem? (i := 185) (by decide +kernel))) (by decide +kernel)
set_option maxRecDepth 20000 in
theorem ml_X11_73 : Cond.methodLink RX11 73 yX2_init ∈ lw_good := lw_good_of (inT1 (List.mem_of_getElem? (i := 223) (by decide +kernel))) (by decide +kernel)
set_option maxRecDepth 20000 in
theorem ml_X2_17 : Cond.methodLink RX2 17 yX7_init ∈ lw_good := lw_good_of (inT1 (List.mem_of_getElem? (i := 229) (by decide +kernel))) (by decide +kernel)
set_option maxRecDepth 20000 in
theorem ml_X11_80 : Cond.methodLink RX11 80 yX3_init ∈ lw_good := lw_good_of (inT2 (List.mem_of_getElem? (i := 7) (by decide +kernel))) (by decide +kernel)
set_option maxRecDepth 20000 in
theorem ml_X11_87 : Cond.methodLink RX11 87 yX6_init ∈ lw_good := lw_good_of (inT2 (List.mem_of_getElem? (i := 23) (by decide +kernel))) (by decide +kernel)
set_option maxRecDepth 20000 in
theorem ml_X11_105 : Cond.methodLink RX11 105 yX8_append ∈ lw_good := lw_good_of (inT2 (List.mem_of_getElem? (i := 94) (by decide +kernel))) (by decide +kernel)
set_option maxRecDepth 20000 in
theorem ml_X11_109 : Cond.methodLink RX11 109 yX8_shorten ∈ lw_good := lw_good_of (inT2 (List.mem_of_getElem? (i := 102) (by decide +kernel))) (by decide +kernel)
set_option maxRecDepth 20000 in
theorem ml_X11_117 : Cond.methodLink RX11 117 yX11_wrongSignOfLines ∈ lw_good := lw_good_of (inT2 (List.mem_of_getElem? (i := 110) (by decide +kernel))) (by decide +kernel)
set_option maxRecDepth 20000 in
theorem ml_X11_163 : Cond.methodLink RX11 163 yX11_standsInSluice ∈ lw_good := lw_good_of (inT2 (List.mem_of_getElem? (i := 114) (by decide +kernel))) (by decide +kernel)
set_option maxRecDepth 20000 in
theorem ml_X11_138 : Cond.methodLink RX11 138 yX8_at ∈ lw_good := lw_good_of (inT2 (List.mem_of_getElem? (i := 118) (by decide +kernel))) (by decide +kernel)
set_option maxRecDepth 20000 in
theorem ml_X11_169 : Cond.methodLink RX11 169 yX8_isDigit ∈ lw_good := lw_good_of (inT2 (List.mem_of_getElem? (i := 122) (by decide +kernel))) (by decide +kernel)
set_option maxRecDepth 20000 in
theorem ml_X8_19 : Cond.methodLink RX8 19 yX8_at ∈ lw_good := lw_good_of (inT2 (List.mem_of_getElem? (i := 126) (by decide +kernel))) (by decide +kernel)
set_option maxRecDepth 20000 in
theorem ml_X11_135 : Cond.methodLink RX11 135 yX8_digit ∈ lw_good := lw_good_of (inT2 (List.mem_of_getElem? (i := 127) (by decide +kernel))) (by decide +kernel)
set_option maxRecDepth 20000 in
theorem ml_X8_23 : Cond.methodLink RX8 23 yX8_isDigit ∈ lw_good := lw_good_of (inT2 (List.mem_of_getElem? (i := 131) (by decide +kernel))) (by decide +kernel)
set_option maxRecDepth 20000 in
theorem ml_X11_172 : Cond.methodLink RX11 172 yX0_hasBasin ∈ lw_good := lw_good_of (inT2 (List.mem_of_getElem? (i := 132) (by decide +kernel))) (by decide +kernel)
set_option maxRecDepth 20000 in
theorem ml_X11_141 : Cond.methodLink RX11 141 yX11_kindOf ∈ lw_good := lw_good_of (inT2 (List.mem_of_getElem? (i := 136) (by decide +kernel))) (by decide +kernel)
set_option maxRecDepth 20000 in
theorem ml_X11_166 : Cond.methodLink RX11 166 yX11_standsInBasin ∈ lw_good := lw_good_of (inT2 (List.mem_of_getElem? (i := 139) (by decide +kernel))) (by decide +kernel)
set_option maxRecDepth 20000 in
theorem ml_X11_124 : Cond.methodLink RX11 124 yX11_addBasin ∈ lw_good := lw_good_of (inT2 (List.mem_of_getElem? (i := 143) (by decide +kernel))) (by decide +kernel)
set_option maxRecDepth 20000 in
theorem ml_X11_160 : Cond.methodLink RX11 160 yX0_addBasin ∈ lw_good := lw_good_of (inT2 (List.mem_of_getElem? (i := 147) (by decide +kernel))) (by decide +kernel)
set_option maxRecDepth 20000 in
theorem ml_X11_128 : Cond.methodLink RX11 128 yX11_endOfLines ∈ lw_good := lw_good_of (inT2 (List.mem_of_getElem? (i := 151) (by decide +kernel))) (by decide +kernel)
set_option maxRecDepth 20000 in
theorem ml_X11_148 : Cond.methodLink RX11 148 yX8_clear ∈ lw_good := lw_good_of (inT2 (List.mem_of_getElem? (i := 155) (by decide +kernel))) (by decide +kernel)
set_option maxRecDepth 20000 in
theorem ml_X11_151 : Cond.methodLink RX11 151 yX2_forgetAll ∈ lw_good := lw_good_of (inT2 (List.mem_of_getElem? (i := 159) (by decide +kernel))) (by decide +kernel)
set_option maxRecDepth 20000 in
theorem ml_X11_144 : Cond.methodLink RX11 144 yX0_addSluice ∈ lw_good := lw_good_of (inT2 (List.mem_of_getElem? (i := 167) (by decide +kernel))) (by decide +kernel)
set_option maxRecDepth 20000 in
theorem ml_X11_175 : Cond.methodLink RX11 175 yX5_read ∈ lw_good := lw_good_of (inT2 (List.mem_of_getElem? (i := 175) (by decide +kernel))) (by decide +kernel)
set_option maxRecDepth 20000 in
theorem ml_X5_25 : Cond.methodLink RX5 25 yX4_becomesNone ∈ lw_good := lw_good_of (inT2 (List.mem_of_getElem? (i := 179) (by decide +kernel))) (by decide +kernel)
set_option maxRecDepth 20000 in
theorem ml_X5_30 : Cond.methodLink RX5 30 yX4_begin ∈ lw_good := lw_good_of (inT2 (List.mem_of_getElem? (i := 180) (by decide +kernel))) (by decide +kernel)
set_option maxRecDepth 20000 in
theorem ml_X5_49 : Cond.methodLink RX5 49 yX8_at ∈ lw_good := lw_good_of (inT2 (List.mem_of_getElem? (i := 184) (by decide +kernel))) (by decide +kernel)
set_option maxRecDepth 20000 in
theorem ml_X5_53 : Cond.methodLink RX5 53 yX5_stands ∈ lw_good := lw_good_of (inT2 (List.mem_of_getElem? (i := 185) (by decide +kernel))) (by decide +kernel)
set_option maxRecDepth 20000 in
theorem ml_X5_61 : Cond.methodLink RX5 61 yX5_standsAsDigit ∈ lw_good := lw_good_of (inT2 (List.mem_of_getElem? (i := 189) (by decide +kernel))) (by decide +kernel)
set_option maxRecDepth 20000 in
theorem ml_X5_73 : Cond.methodLink RX5 73 yX4_add ∈ lw_good := lw_good_of (inT2 (List.mem_of_getElem? (i := 193) (by decide +kernel))) (by decide +kernel)
set_option maxRecDepth 20000 in
theorem ml_X5_77 : Cond.methodLink RX5 77 yX4_changeLast ∈ lw_good := lw_good_of (inT2 (List.mem_of_getElem? (i := 197) (by decide +kernel))) (by decide +kernel)
set_option maxRecDepth 20000 in
theorem ml_X5_64 : Cond.methodLink RX5 64 yX5_standsAheadOfThing ∈ lw_good := lw_good_of (inT2 (List.mem_of_getElem? (i := 201) (by decide +kernel))) (by decide +kernel)
set_option maxRecDepth 20000 in
theorem ml_X5_80 : Cond.methodLink RX5 80 yX5_hold ∈ lw_good := lw_good_of (inT2 (List.mem_of_getElem? (i := 205) (by decide +kernel))) (by decide +kernel)
set_option maxRecDepth 20000 in
theorem ml_X5_83 : Cond.methodLink RX5 83 yX5_opens ∈ lw_good := lw_good_of (inT2 (List.mem_of_getElem? (i := 209) (by decide +kernel))) (by decide +kernel)
set_option maxRecDepth 20000 in
theorem ml_X5_87 : Cond.methodLink RX5 87 yX5_thingOf ∈ lw_good := lw_good_of (inT2 (List.mem_of_getElem? (i := 213) (by decide +kernel))) (by decide +kernel)
set_option maxRecDepth 20000 in
theorem ml_X5_67 : Cond.methodLink RX5 67 yX5_standsBehindThing ∈ lw_good := lw_good_of (inT2 (List.mem_of_getElem? (i := 216) (by decide +kernel))) (by decide +kernel)
set_option maxRecDepth 20000 in
theorem ml_X5_90 : Cond.methodLink RX5 90 yX5_closes ∈ lw_good := lw_good_of (inT2 (List.mem_of_getElem? (i := 220) (by decide +kernel))) (by decide +kernel)
set_option maxRecDepth 20000 in
theorem ml_X5_57 : Cond.methodLink RX5 57 yX5_settle ∈ lw_good := lw_good_of (inT2 (List.mem_of_getElem? (i := 224) (by decide +kernel))) (by decide +kernel)
set_option maxRecDepth 20000 in
theorem ml_X5_94 : Cond.methodLink RX5 94 yX5_bindingOf ∈ lw_good := lw_good_of (inT2 (List.mem_of_getElem? (i := 228) (by decide +kernel))) (by decide +kernel)
set_option maxRecDepth 20000 in
theorem ml_X5_97 : Cond.methodLink RX5 97 yJ9_max_7cf53 ∈ lw_good := lw_good_of (inT2 (List.mem_of_getElem? (i := 231) (by decide +kernel))) (by decide +kernel)
set_option maxRecDepth 20000 in
theorem ml_X11_179 : Cond.methodLink RX11 179 yX4_takes ∈ lw_good := lw_good_of (inT2 (List.mem_of_getElem? (i := 234) (by decide +kernel))) (by decide +kernel)
set_option maxRecDepth 20000 in
theorem ml_X11_223 : Cond.methodLink RX11 223 yX11_entryOfSheet ∈ lw_good := lw_good_of (inT3 (List.mem_of_getElem? (i := 2) (by decide +kernel))) (by decide +kernel)
set_option maxRecDepth 20000 in
theorem ml_X11_230 : Cond.methodLink RX11 230 yJ9_min_7cf53 ∈ lw_good := lw_good_of (inT3 (List.mem_of_getElem? (i := 5) (by decide +kernel))) (by decide +kernel)
set_option maxRecDepth 20000 in
theorem ml_X11_235 : Cond.methodLink RX11 235 yJ9_max_7cf53 ∈ lw_good := lw_good_of (inT3 (List.mem_of_getElem? (i := 8) (by decide +kernel))) (by decide +kernel)
set_option maxRecDepth 20000 in
theorem ml_X11_226 : Cond.methodLink RX11 226 yX11_together ∈ lw_good := lw_good_of (inT3 (List.mem_of_getElem? (i := 9) (by decide +kernel))) (by decide +kernel)
set_option maxRecDepth 20000 in
theorem ml_X11_238 : Cond.methodLink RX11 238 yX11_actThatCanBeUndone ∈ lw_good := lw_good_of (inT3 (List.mem_of_getElem? (i := 17) (by decide +kernel))) (by decide +kernel)
set_option maxRecDepth 20000 in
theorem ml_X11_255 : Cond.methodLink RX11 255 yX7_takes ∈ lw_good := lw_good_of (inT3 (List.mem_of_getElem? (i := 21) (by decide +kernel))) (by decide +kernel)
set_option maxRecDepth 20000 in
theorem ml_X7_18 : Cond.methodLink RX7 18 arraycopyName ∈ lw_good := lw_good_of (inT3 (List.mem_of_getElem? (i := 25) (by decide +kernel))) (by decide +kernel)
set_option maxRecDepth 20000 in
theorem ml_X11_258 : Cond.methodLink RX11 258 yX11_act ∈ lw_good := lw_good_of (inT3 (List.mem_of_getElem? (i := 26) (by decide +kernel))) (by decide +kernel)
set_option maxRecDepth 20000 in
theorem ml_X11_264 : Cond.methodLink RX11 264 yX11_letHoursPass ∈ lw_good := lw_good_of (inT3 (List.mem_of_getElem? (i := 30) (by decide +kernel))) (by decide +kernel)
set_option maxRecDepth 20000 in
theorem ml_X11_282 : Cond.methodLink RX11 282 yX0_begin ∈ lw_good := lw_good_of (inT3 (List.mem_of_getElem? (i := 34) (by decide +kernel))) (by decide +kernel)
set_option maxRecDepth 20000 in
theorem ml_X11_283 : Cond.methodLink RX11 283 yX0_pass ∈ lw_good := lw_good_of (inT3 (List.mem_of_getElem? (i := 38) (by decide +kernel))) (by decide +kernel)
set_option maxRecDepth 20000 in
theorem ml_X0_54 : Cond.methodLink RX0 54 yX0_opens ∈ lw_good := lw_good_of (inT3 (List.mem_of_getElem? (i := 42) (by decide +kernel))) (by decide +kernel)
set_option maxRecDepth 20000 in
theorem ml_X0_58 : Cond.methodLink RX0 58 yX0_flow ∈ lw_good := lw_good_of (inT3 (List.mem_of_getElem? (i := 46) (by decide +kernel))) (by decide +kernel)
set_option maxRecDepth 20000 in
theorem ml_X0_85 : Cond.methodLink RX0 85 yJ9_min_7cf53 ∈ lw_good := lw_good_of (inT3 (List.mem_of_getElem? (i := 50) (by decide +kernel))) (by decide +kernel)
set_option maxRecDepth 20000 in
theorem ml_X0_91 : Cond.methodLink RX0 91 yX4_value ∈ lw_good := lw_good_of (inT3 (List.mem_of_getElem? (i := 51) (by decide +kernel))) (by decide +kernel)
set_option maxRecDepth 20000 in
theorem ml_X4_34 : Cond.methodLink RX4 34 yX4_valueOfThing ∈ lw_good := lw_good_of (inT3 (List.mem_of_getElem? (i := 55) (by decide +kernel))) (by decide +kernel)
set_option maxRecDepth 20000 in
theorem ml_X4_38 : Cond.methodLink RX4 38 yX4_joined ∈ lw_good := lw_good_of (inT3 (List.mem_of_getElem? (i := 58) (by decide +kernel))) (by decide +kernel)
set_option maxRecDepth 20000 in
theorem ml_X0_95 : Cond.methodLink RX0 95 yJ9_max_7cf53 ∈ lw_good := lw_good_of (inT3 (List.mem_of_getElem? (i := 61) (by decide +kernel))) (by decide +kernel)
set_option maxRecDepth 20000 in
theorem ml_X0_65 : Cond.methodLink RX0 65 yX0_leak ∈ lw_good := lw_good_of (inT3 (List.mem_of_getElem? (i := 62) (by decide +kernel))) (by decide +kernel)
set_option maxRecDepth 20000 in
theorem ml_X0_78 : Cond.methodLink RX0 78 yX0_leaks ∈ lw_good := lw_good_of (inT3 (List.mem_of_getElem? (i := 66) (by decide +kernel))) (by decide +kernel)
set_option maxRecDepth 20000 in
theorem ml_X11_267 : Cond.methodLink RX11 267 yX11_pour ∈ lw_good := lw_good_of (inT3 (List.mem_of_getElem? (i := 70) (by decide +kernel))) (by decide +kernel)
set_option maxRecDepth 20000 in
theorem ml_X11_287 : Cond.methodLink RX11 287 yX0_fill ∈ lw_good := lw_good_of (inT3 (List.mem_of_getElem? (i := 74) (by decide +kernel))) (by decide +kernel)
set_option maxRecDepth 20000 in
theorem ml_X11_270 : Cond.methodLink RX11 270 yX11_letOut ∈ lw_good := lw_good_of (inT3 (List.mem_of_getElem? (i := 78) (by decide +kernel))) (by decide +kernel)
set_option maxRecDepth 20000 in
theorem ml_X11_273 : Cond.methodLink RX11 273 yX11_sendBoat ∈ lw_good := lw_good_of (inT3 (List.mem_of_getElem? (i := 82) (by decide +kernel))) (by decide +kernel)
set_option maxRecDepth 20000 in
theorem ml_X11_199 : Cond.methodLink RX11 199 yX0_hasSluice ∈ lw_good := lw_good_of (inT3 (List.mem_of_getElem? (i := 86) (by decide +kernel))) (by decide +kernel)
set_option maxRecDepth 20000 in
theorem ml_X11_291 : Cond.methodLink RX11 291 yX0_carry ∈ lw_good := lw_good_of (inT3 (List.mem_of_getElem? (i := 90) (by decide +kernel))) (by decide +kernel)
set_option maxRecDepth 20000 in
theorem ml_X11_276 : Cond.methodLink RX11 276 yX11_stick ∈ lw_good := lw_good_of (inT3 (List.mem_of_getElem? (i := 94) (by decide +kernel))) (by decide +kernel)
set_option maxRecDepth 20000 in
theorem ml_X11_279 : Cond.methodLink RX11 279 yX11_setMark ∈ lw_good := lw_good_of (inT3 (List.mem_of_getElem? (i := 98) (by decide +kernel))) (by decide +kernel)
set_option maxRecDepth 20000 in
theorem ml_X11_261 : Cond.methodLink RX11 261 yX2_push ∈ lw_good := lw_good_of (inT3 (List.mem_of_getElem? (i := 102) (by decide +kernel))) (by decide +kernel)
set_option maxRecDepth 20000 in
theorem ml_X2_29 : Cond.methodLink RX2 29 yX2_dropOldest ∈ lw_good := lw_good_of (inT3 (List.mem_of_getElem? (i := 106) (by decide +kernel))) (by decide +kernel)
set_option maxRecDepth 20000 in
theorem ml_X2_32 : Cond.methodLink RX2 32 yX7_takes ∈ lw_good := lw_good_of (inT3 (List.mem_of_getElem? (i := 110) (by decide +kernel))) (by decide +kernel)
set_option maxRecDepth 20000 in
theorem ml_X11_242 : Cond.methodLink RX11 242 yX3_begin ∈ lw_good := lw_good_of (inT3 (List.mem_of_getElem? (i := 111) (by decide +kernel))) (by decide +kernel)
set_option maxRecDepth 20000 in
theorem ml_X11_248 : Cond.methodLink RX11 248 yX3_add ∈ lw_good := lw_good_of (inT3 (List.mem_of_getElem? (i := 115) (by decide +kernel))) (by decide +kernel)
set_option maxRecDepth 20000 in
theorem ml_X11_295 : Cond.methodLink RX11 295 yX11_wrongSignOfNight ∈ lw_good := lw_good_of (inT3 (List.mem_of_getElem? (i := 143) (by decide +kernel))) (by decide +kernel)
set_option maxRecDepth 20000 in
theorem ml_X11_302 : Cond.methodLink RX11 302 yX11_standsInAct ∈ lw_good := lw_good_of (inT3 (List.mem_of_getElem? (i := 147) (by decide +kernel))) (by decide +kernel)
set_option maxRecDepth 20000 in
theorem ml_X11_299 : Cond.methodLink RX11 299 yX11_signsOfAct ∈ lw_good := lw_good_of (inT3 (List.mem_of_getElem? (i := 151) (by decide +kernel))) (by decide +kernel)
set_option maxRecDepth 20000 in
theorem ml_X11_306 : Cond.methodLink RX11 306 yX2_pop ∈ lw_good := lw_good_of (inT3 (List.mem_of_getElem? (i := 158) (by decide +kernel))) (by decide +kernel)
set_option maxRecDepth 20000 in
theorem ml_X11_309 : Cond.methodLink RX11 309 yX11_startTrial ∈ lw_good := lw_good_of (inT3 (List.mem_of_getElem? (i := 166) (by decide +kernel))) (by decide +kernel)
set_option maxRecDepth 20000 in
theorem ml_X11_312 : Cond.methodLink RX11 312 yX0_run ∈ lw_good := lw_good_of (inT3 (List.mem_of_getElem? (i := 170) (by decide +kernel))) (by decide +kernel)
set_option maxRecDepth 20000 in
theorem ml_X0_45 : Cond.methodLink RX0 45 yX0_pass ∈ lw_good := lw_good_of (inT3 (List.mem_of_getElem? (i := 174) (by decide +kernel))) (by decide +kernel)
set_option maxRecDepth 20000 in
theorem ml_X11_316 : Cond.methodLink RX11 316 yX7_isAtMark ∈ lw_good := lw_good_of (inT3 (List.mem_of_getElem? (i := 179) (by decide +kernel))) (by decide +kernel)
set_option maxRecDepth 20000 in
theorem ml_X11_319 : Cond.methodLink RX11 319 yX11_traceTrial ∈ lw_good := lw_good_of (inT3 (List.mem_of_getElem? (i := 187) (by decide +kernel))) (by decide +kernel)
set_option maxRecDepth 20000 in
theorem ml_X11_337 : Cond.methodLink RX11 337 yX7_code ∈ lw_good := lw_good_of (inT3 (List.mem_of_getElem? (i := 191) (by decide +kernel))) (by decide +kernel)
set_option maxRecDepth 20000 in
theorem ml_X11_322 : Cond.methodLink RX11 322 yX11_differentSums ∈ lw_good := lw_good_of (inT3 (List.mem_of_getElem? (i := 195) (by decide +kernel))) (by decide +kernel)
set_option maxRecDepth 20000 in
theorem ml_X11_325 : Cond.methodLink RX11 325 yX7_sumOf ∈ lw_good := lw_good_of (inT3 (List.mem_of_getElem? (i := 199) (by decide +kernel))) (by decide +kernel)
set_option maxRecDepth 20000 in
theorem ml_X7_38 : Cond.methodLink RX7 38 yX7_levelOf ∈ lw_good := lw_good_of (inT3 (List.mem_of_getElem? (i := 202) (by decide +kernel))) (by decide +kernel)
set_option maxRecDepth 20000 in
theorem ml_X11_329 : Cond.methodLink RX11 329 yJ13_bitCount_95d88 ∈ lw_good := lw_good_of (inT3 (List.mem_of_getElem? (i := 205) (by decide +kernel))) (by decide +kernel)
set_option maxRecDepth 20000 in
theorem ml_X11_334 : Cond.methodLink RX11 334 yX7_levelsOf ∈ lw_good := lw_good_of (inT3 (List.mem_of_getElem? (i := 215) (by decide +kernel))) (by decide +kernel)
set_option maxRecDepth 20000 in
theorem ml_X11_344 : Cond.methodLink RX11 344 yX11_areQuarter ∈ lw_good := lw_good_of (inT3 (List.mem_of_getElem? (i := 231) (by decide +kernel))) (by decide +kernel)
set_option maxRecDepth 20000 in
theorem ml_X11_347 : Cond.methodLink RX11 347 yX11_startSent ∈ lw_good := lw_good_of (inT3 (List.mem_of_getElem? (i := 235) (by decide +kernel))) (by decide +kernel)
set_option maxRecDepth 20000 in
theorem ml_X11_350 : Cond.methodLink RX11 350 yX11_putTablesIntoMasks ∈ lw_good := lw_good_of (inT4 (List.mem_of_getElem? (i := 3) (by decide +kernel))) (by decide +kernel)
set_option maxRecDepth 20000 in
theorem ml_X11_357 : Cond.methodLink RX11 357 yX11_clearMasks ∈ lw_good := lw_good_of (inT4 (List.mem_of_getElem? (i := 7) (by decide +kernel))) (by decide +kernel)
set_option maxRecDepth 20000 in
theorem ml_X11_353 : Cond.methodLink RX11 353 yX11_tellFirstQuarter ∈ lw_good := lw_good_of (inT4 (List.mem_of_getElem? (i := 11) (by decide +kernel))) (by decide +kernel)
set_option maxRecDepth 20000 in
theorem ml_X11_360 : Cond.methodLink RX11 360 yX11_putTablesIntoTrace ∈ lw_good := lw_good_of (inT4 (List.mem_of_getElem? (i := 19) (by decide +kernel))) (by decide +kernel)
set_option maxRecDepth 20000 in
theorem ml_X11_363 : Cond.methodLink RX11 363 yX11_runWithLevel ∈ lw_good := lw_good_of (inT4 (List.mem_of_getElem? (i := 27) (by decide +kernel))) (by decide +kernel)
set_option maxRecDepth 20000 in
theorem ml_X11_366 : Cond.methodLink RX11 366 yJ6_bitCount_0f7a4 ∈ lw_good := lw_good_of (inT4 (List.mem_of_getElem? (i := 31) (by decide +kernel))) (by decide +kernel)
set_option maxRecDepth 20000 in
theorem ml_X11_370 : Cond.methodLink RX11 370 yX6_add ∈ lw_good := lw_good_of (inT4 (List.mem_of_getElem? (i := 49) (by decide +kernel))) (by decide +kernel)
set_option maxRecDepth 20000 in
theorem ml_X11_372 : Cond.methodLink RX11 372 yX6_clear ∈ lw_good := lw_good_of (inT4 (List.mem_of_getElem? (i := 57) (by decide +kernel))) (by decide +kernel)
set_option maxRecDepth 20000 in
theorem ml_X11_374 : Cond.methodLink RX11 374 yX11_fittingSluices ∈ lw_good := lw_good_of (inT4 (List.mem_of_getElem? (i := 65) (by decide +kernel))) (by decide +kernel)
set_option maxRecDepth 20000 in
theorem ml_X11_377 : Cond.methodLink RX11 377 yX11_isAsSeen ∈ lw_good := lw_good_of (inT4 (List.mem_of_getElem? (i := 69) (by decide +kernel))) (by decide +kernel)
set_option maxRecDepth 20000 in
theorem ml_X11_380 : Cond.methodLink RX11 380 yX6_lastHour ∈ lw_good := lw_good_of (inT4 (List.mem_of_getElem? (i := 73) (by decide +kernel))) (by decide +kernel)
set_option maxRecDepth 20000 in
theorem ml_X6_25 : Cond.methodLink RX6 25 yJ9_max_7cf53 ∈ lw_good := lw_good_of (inT4 (List.mem_of_getElem? (i := 77) (by decide +kernel))) (by decide +kernel)
set_option maxRecDepth 20000 in
theorem ml_X11_383 : Cond.methodLink RX11 383 yX6_agrees ∈ lw_good := lw_good_of (inT4 (List.mem_of_getElem? (i := 78) (by decide +kernel))) (by decide +kernel)
set_option maxRecDepth 20000 in
theorem ml_X11_386 : Cond.methodLink RX11 386 yX11_traceEach ∈ lw_good := lw_good_of (inT4 (List.mem_of_getElem? (i := 86) (by decide +kernel))) (by decide +kernel)
set_option maxRecDepth 20000 in
theorem ml_X11_389 : Cond.methodLink RX11 389 yX11_mostLeft ∈ lw_good := lw_good_of (inT4 (List.mem_of_getElem? (i := 90) (by decide +kernel))) (by decide +kernel)
set_option maxRecDepth 20000 in
theorem ml_X11_392 : Cond.methodLink RX11 392 yX7_levelOf ∈ lw_good := lw_good_of (inT4 (List.mem_of_getElem? (i := 94) (by decide +kernel))) (by decide +kernel)
set_option maxRecDepth 20000 in
theorem ml_X11_396 : Cond.methodLink RX11 396 yX11_levelWithStuck ∈ lw_good := lw_good_of (inT4 (List.mem_of_getElem? (i := 99) (by decide +kernel))) (by decide +kernel)
set_option maxRecDepth 20000 in
theorem ml_X11_399 : Cond.methodLink RX11 399 yX10_reached ∈ lw_good := lw_good_of (inT4 (List.mem_of_getElem? (i := 107) (by decide +kernel))) (by decide +kernel)
set_option maxRecDepth 20000 in
theorem ml_X10_25 : Cond.methodLink RX10 25 yX10_isOpen ∈ lw_good := lw_good_of (inT4 (List.mem_of_getElem? (i := 111) (by decide +kernel))) (by decide +kernel)
set_option maxRecDepth 20000 in
theorem ml_X11_402 : Cond.methodLink RX11 402 yX10_measure ∈ lw_good := lw_good_of (inT4 (List.mem_of_getElem? (i := 118) (by decide +kernel))) (by decide +kernel)
set_option maxRecDepth 20000 in
theorem ml_X11_409 : Cond.methodLink RX11 409 yX10_walk ∈ lw_good := lw_good_of (inT4 (List.mem_of_getElem? (i := 122) (by decide +kernel))) (by decide +kernel)
set_option maxRecDepth 20000 in
theorem ml_X10_35 : Cond.methodLink RX10 35 yX10_leastAhead ∈ lw_good := lw_good_of (inT4 (List.mem_of_getElem? (i := 126) (by decide +kernel))) (by decide +kernel)
set_option maxRecDepth 20000 in
theorem ml_X10_39 : Cond.methodLink RX10 39 yX3_add ∈ lw_good := lw_good_of (inT4 (List.mem_of_getElem? (i := 130) (by decide +kernel))) (by decide +kernel)
set_option maxRecDepth 20000 in
theorem ml_X11_413 : Cond.methodLink RX11 413 yX10_leastCut ∈ lw_good := lw_good_of (inT4 (List.mem_of_getElem? (i := 135) (by decide +kernel))) (by decide +kernel)
set_option maxRecDepth 20000 in
theorem ml_X10_45 : Cond.methodLink RX10 45 yJ6_bitCount_0f7a4 ∈ lw_good := lw_good_of (inT4 (List.mem_of_getElem? (i := 139) (by decide +kernel))) (by decide +kernel)
set_option maxRecDepth 20000 in
theorem ml_X10_51 : Cond.methodLink RX10 51 yX10_reached ∈ lw_good := lw_good_of (inT4 (List.mem_of_getElem? (i := 140) (by decide +kernel))) (by decide +kernel)
set_option maxRecDepth 20000 in
theorem ml_X11_416 : Cond.methodLink RX11 416 yX10_ringLength ∈ lw_good := lw_good_of (inT4 (List.mem_of_getElem? (i := 145) (by decide +kernel))) (by decide +kernel)
set_option maxRecDepth 20000 in
theorem ml_X10_54 : Cond.methodLink RX10 54 yX10_measure ∈ lw_good := lw_good_of (inT4 (List.mem_of_getElem? (i := 149) (by decide +kernel))) (by decide +kernel)
set_option maxRecDepth 20000 in
theorem ml_X11_419 : Cond.methodLink RX11 419 yX9_begin ∈ lw_good := lw_good_of (inT4 (List.mem_of_getElem? (i := 154) (by decide +kernel))) (by decide +kernel)
set_option maxRecDepth 20000 in
theorem ml_X9_16 : Cond.methodLink RX9 16 yJ9_min_7cf53 ∈ lw_good := lw_good_of (inT4 (List.mem_of_getElem? (i := 158) (by decide +kernel))) (by decide +kernel)
set_option maxRecDepth 20000 in
theorem ml_X11_421 : Cond.methodLink RX11 421 yX11_boatsThatGo ∈ lw_good := lw_good_of (inT4 (List.mem_of_getElem? (i := 159) (by decide +kernel))) (by decide +kernel)
set_option maxRecDepth 20000 in
theorem ml_X11_424 : Cond.methodLink RX11 424 yX9_holdBest ∈ lw_good := lw_good_of (inT4 (List.mem_of_getElem? (i := 163) (by decide +kernel))) (by decide +kernel)
set_option maxRecDepth 20000 in
theorem ml_X9_26 : Cond.methodLink RX9 26 arraycopyName ∈ lw_good := lw_good_of (inT4 (List.mem_of_getElem? (i := 167) (by decide +kernel))) (by decide +kernel)
set_option maxRecDepth 20000 in
theorem ml_X11_427 : Cond.methodLink RX11 427 yX9_next ∈ lw_good := lw_good_of (inT4 (List.mem_of_getElem? (i := 168) (by decide +kernel))) (by decide +kernel)
set_option maxRecDepth 20000 in
theorem ml_X9_32 : Cond.methodLink RX9 32 yX9_swap ∈ lw_good := lw_good_of (inT4 (List.mem_of_getElem? (i := 172) (by decide +kernel))) (by decide +kernel)
set_option maxRecDepth 20000 in
theorem ml_X11_437 : Cond.methodLink RX11 437 yX1_fillWon ∈ lw_good := lw_good_of (inT4 (List.mem_of_getElem? (i := 180) (by decide +kernel))) (by decide +kernel)
set_option maxRecDepth 20000 in
theorem ml_X1_9 : Cond.methodLink RX1 9 yX1_leastWinningMove ∈ lw_good := lw_good_of (inT4 (List.mem_of_getElem? (i := 183) (by decide +kernel))) (by decide +kernel)
set_option maxRecDepth 20000 in
theorem ml_X11_441 : Cond.methodLink RX11 441 yX1_leastWinningMove ∈ lw_good := lw_good_of (inT4 (List.mem_of_getElem? (i := 186) (by decide +kernel))) (by decide +kernel)
set_option maxRecDepth 20000 in
theorem ml_X11_445 : Cond.methodLink RX11 445 yX1_choices ∈ lw_good := lw_good_of (inT4 (List.mem_of_getElem? (i := 191) (by decide +kernel))) (by decide +kernel)
set_option maxRecDepth 20000 in
theorem ml_X11_449 : Cond.methodLink RX11 449 yX1_power ∈ lw_good := lw_good_of (inT4 (List.mem_of_getElem? (i := 194) (by decide +kernel))) (by decide +kernel)
set_option maxRecDepth 20000 in
theorem ml_X11_455 : Cond.methodLink RX11 455 yX1_greatestShared ∈ lw_good := lw_good_of (inT4 (List.mem_of_getElem? (i := 198) (by decide +kernel))) (by decide +kernel)
set_option maxRecDepth 20000 in
theorem ml_X11_459 : Cond.methodLink RX11 459 yX1_isBestAgainst ∈ lw_good := lw_good_of (inT4 (List.mem_of_getElem? (i := 205) (by decide +kernel))) (by decide +kernel)
set_option maxRecDepth 20000 in
theorem ml_X1_15 : Cond.methodLink RX1 15 yX1_gain ∈ lw_good := lw_good_of (inT4 (List.mem_of_getElem? (i := 208) (by decide +kernel))) (by decide +kernel)
set_option maxRecDepth 20000 in
theorem ml_X11_462 : Cond.methodLink RX11 462 yX11_drawn ∈ lw_good := lw_good_of (inT4 (List.mem_of_getElem? (i := 219) (by decide +kernel))) (by decide +kernel)
set_option maxRecDepth 20000 in
theorem ml_X11_465 : Cond.methodLink RX11 465 yX11_picked ∈ lw_good := lw_good_of (inT4 (List.mem_of_getElem? (i := 223) (by decide +kernel))) (by decide +kernel)
set_option maxRecDepth 20000 in
theorem ml_X11_469 : Cond.methodLink RX11 469 yX2_keepUnder ∈ lw_good := lw_good_of (inT4 (List.mem_of_getElem? (i := 230) (by decide +kernel))) (by decide +kernel)
set_option maxRecDepth 20000 in
theorem ml_X11_473 : Cond.methodLink RX11 473 yX2_bringBack ∈ lw_good := lw_good_of (inT4 (List.mem_of_getElem? (i := 238) (by decide +kernel))) (by decide +kernel)
set_option maxRecDepth 20000 in
theorem ml_X11_482 : Cond.methodLink RX11 482 yX11_marksTogether ∈ lw_good := lw_good_of (inT5 (List.mem_of_getElem? (i := 6) (by decide +kernel))) (by decide +kernel)
set_option maxRecDepth 20000 in
theorem ml_X11_485 : Cond.methodLink RX11 485 yX11_basinsAtMark ∈ lw_good := lw_good_of (inT5 (List.mem_of_getElem? (i := 10) (by decide +kernel))) (by decide +kernel)
set_option maxRecDepth 20000 in
theorem ml_X11_190 : Cond.methodLink RX11 190 yX0_leaks ∈ lw_good := lw_good_of (inT5 (List.mem_of_getElem? (i := 88) (by decide +kernel))) (by decide +kernel)
set_option maxRecDepth 20000 in
theorem ml_X11_193 : Cond.methodLink RX11 193 yX0_sluicesFrom ∈ lw_good := lw_good_of (inT5 (List.mem_of_getElem? (i := 89) (by decide +kernel))) (by decide +kernel)
set_option maxRecDepth 20000 in
theorem ml_X11_196 : Cond.methodLink RX11 196 yX0_sluicesTo ∈ lw_good := lw_good_of (inT5 (List.mem_of_getElem? (i := 93) (by decide +kernel))) (by decide +kernel)
set_option maxRecDepth 20000 in
theorem ml_X11_219 : Cond.methodLink RX11 219 yX0_flow ∈ lw_good := lw_good_of (inT5 (List.mem_of_getElem? (i := 105) (by decide +kernel))) (by decide +kernel)
set_option maxRecDepth 20000 in
theorem ml_X12_110 : Cond.methodLink RX12 110 yX12_in ∈ lw_good := lw_good_of (inT6 (List.mem_of_getElem? (i := 43) (by decide +kernel))) (by decide +kernel)
set_option maxRecDepth 20000 in
theorem ml_X12_169 : Cond.methodLink RX12 169 yX12_beginText ∈ lw_good := lw_good_of (inT6 (List.mem_of_getElem? (i := 50) (by decide +kernel))) (by decide +kernel)
set_option maxRecDepth 20000 in
theorem ml_X12_139 : Cond.methodLink RX12 139 yX12_begin ∈ lw_good := lw_good_of (inT6 (List.mem_of_getElem? (i := 54) (by decide +kernel))) (by decide +kernel)
set_option maxRecDepth 20000 in
theorem ml_X12_143 : Cond.methodLink RX12 143 yX12_fine ∈ lw_good := lw_good_of (inT6 (List.mem_of_getElem? (i := 58) (by decide +kernel))) (by decide +kernel)
set_option maxRecDepth 20000 in
theorem ml_X12_155 : Cond.methodLink RX12 155 yX12_fault ∈ lw_good := lw_good_of (inT6 (List.mem_of_getElem? (i := 62) (by decide +kernel))) (by decide +kernel)
set_option maxRecDepth 20000 in
theorem ml_X12_159 : Cond.methodLink RX12 159 yX12_oneOf ∈ lw_good := lw_good_of (inT6 (List.mem_of_getElem? (i := 66) (by decide +kernel))) (by decide +kernel)
set_option maxRecDepth 20000 in
theorem ml_X12_147 : Cond.methodLink RX12 147 yX12_here ∈ lw_good := lw_good_of (inT6 (List.mem_of_getElem? (i := 70) (by decide +kernel))) (by decide +kernel)
set_option maxRecDepth 20000 in
theorem ml_X12_151 : Cond.methodLink RX12 151 yX12_passes ∈ lw_good := lw_good_of (inT6 (List.mem_of_getElem? (i := 74) (by decide +kernel))) (by decide +kernel)
set_option maxRecDepth 20000 in
theorem ml_X12_172 : Cond.methodLink RX12 172 yX12_wasRight ∈ lw_good := lw_good_of (inT6 (List.mem_of_getElem? (i := 78) (by decide +kernel))) (by decide +kernel)
set_option maxRecDepth 20000 in
theorem ml_X12_178 : Cond.methodLink RX12 178 yX12_told ∈ lw_good := lw_good_of (inT6 (List.mem_of_getElem? (i := 82) (by decide +kernel))) (by decide +kernel)
set_option maxRecDepth 20000 in
theorem ml_X12_181 : Cond.methodLink RX12 181 yX12_readSluice ∈ lw_good := lw_good_of (inT6 (List.mem_of_getElem? (i := 90) (by decide +kernel))) (by decide +kernel)
set_option maxRecDepth 20000 in
theorem ml_X12_211 : Cond.methodLink RX12 211 yX12_readRule ∈ lw_good := lw_good_of (inT6 (List.mem_of_getElem? (i := 98) (by decide +kernel))) (by decide +kernel)
set_option maxRecDepth 20000 in
theorem ml_X12_194 : Cond.methodLink RX12 194 yX12_held ∈ lw_good := lw_good_of (inT6 (List.mem_of_getElem? (i := 102) (by decide +kernel))) (by decide +kernel)
set_option maxRecDepth 20000 in
theorem ml_X12_184 : Cond.methodLink RX12 184 yX12_sum ∈ lw_good := lw_good_of (inT6 (List.mem_of_getElem? (i := 106) (by decide +kernel))) (by decide +kernel)
set_option maxRecDepth 20000 in
theorem ml_X12_188 : Cond.methodLink RX12 188 yX12_product ∈ lw_good := lw_good_of (inT6 (List.mem_of_getElem? (i := 110) (by decide +kernel))) (by decide +kernel)
set_option maxRecDepth 20000 in
theorem ml_X12_191 : Cond.methodLink RX12 191 yX12_thing ∈ lw_good := lw_good_of (inT6 (List.mem_of_getElem? (i := 114) (by decide +kernel))) (by decide +kernel)
set_option maxRecDepth 20000 in
theorem ml_X12_197 : Cond.methodLink RX12 197 yX12_need ∈ lw_good := lw_good_of (inT6 (List.mem_of_getElem? (i := 118) (by decide +kernel))) (by decide +kernel)
set_option maxRecDepth 20000 in
theorem ml_X12_201 : Cond.methodLink RX12 201 yX12_number ∈ lw_good := lw_good_of (inT6 (List.mem_of_getElem? (i := 122) (by decide +kernel))) (by decide +kernel)
set_option maxRecDepth 20000 in
theorem ml_X12_204 : Cond.methodLink RX12 204 yX12_letterOf ∈ lw_good := lw_good_of (inT6 (List.mem_of_getElem? (i := 126) (by decide +kernel))) (by decide +kernel)
set_option maxRecDepth 20000 in
theorem ml_X12_114 : Cond.methodLink RX12 114 yX12_isBasin ∈ lw_good := lw_good_of (inT6 (List.mem_of_getElem? (i := 133) (by decide +kernel))) (by decide +kernel)
set_option maxRecDepth 20000 in
theorem ml_X12_226 : Cond.methodLink RX12 226 yX12_lost ∈ lw_good := lw_good_of (inT6 (List.mem_of_getElem? (i := 137) (by decide +kernel))) (by decide +kernel)
set_option maxRecDepth 20000 in
theorem ml_X12_229 : Cond.methodLink RX12 229 yX12_sluicesBy ∈ lw_good := lw_good_of (inT6 (List.mem_of_getElem? (i := 141) (by decide +kernel))) (by decide +kernel)
set_option maxRecDepth 20000 in
theorem ml_X12_233 : Cond.methodLink RX12 233 yX12_isSluice ∈ lw_good := lw_good_of (inT6 (List.mem_of_getElem? (i := 149) (by decide +kernel))) (by decide +kernel)
set_option maxRecDepth 20000 in
theorem ml_X12_236 : Cond.methodLink RX12 236 yX12_flowOf ∈ lw_good := lw_good_of (inT6 (List.mem_of_getElem? (i := 153) (by decide +kernel))) (by decide +kernel)
set_option maxRecDepth 20000 in
theorem ml_X12_217 : Cond.methodLink RX12 217 yJ9_min_7cf53 ∈ lw_good := lw_good_of (inT6 (List.mem_of_getElem? (i := 157) (by decide +kernel))) (by decide +kernel)
set_option maxRecDepth 20000 in
theorem ml_X12_223 : Cond.methodLink RX12 223 yJ9_max_7cf53 ∈ lw_good := lw_good_of (inT6 (List.mem_of_getElem? (i := 158) (by decide +kernel))) (by decide +kernel)
set_option maxRecDepth 20000 in
theorem ml_X12_239 : Cond.methodLink RX12 239 yX12_sumOf ∈ lw_good := lw_good_of (inT6 (List.mem_of_getElem? (i := 163) (by decide +kernel))) (by decide +kernel)
set_option maxRecDepth 20000 in
theorem ml_X12_271 : Cond.methodLink RX12 271 yX12_remember ∈ lw_good := lw_good_of (inT6 (List.mem_of_getElem? (i := 171) (by decide +kernel))) (by decide +kernel)
set_option maxRecDepth 20000 in
theorem ml_X12_242 : Cond.methodLink RX12 242 yX12_lay ∈ lw_good := lw_good_of (inT6 (List.mem_of_getElem? (i := 175) (by decide +kernel))) (by decide +kernel)
set_option maxRecDepth 20000 in
theorem ml_X12_264 : Cond.methodLink RX12 264 yX12_clear ∈ lw_good := lw_good_of (inT6 (List.mem_of_getElem? (i := 178) (by decide +kernel))) (by decide +kernel)
set_option maxRecDepth 20000 in
theorem ml_X12_267 : Cond.methodLink RX12 267 yX12_goHours ∈ lw_good := lw_good_of (inT6 (List.mem_of_getElem? (i := 182) (by decide +kernel))) (by decide +kernel)
set_option maxRecDepth 20000 in
theorem ml_X12_260 : Cond.methodLink RX12 260 yX12_goHour ∈ lw_good := lw_good_of (inT6 (List.mem_of_getElem? (i := 186) (by decide +kernel))) (by decide +kernel)
set_option maxRecDepth 20000 in
theorem ml_X12_252 : Cond.methodLink RX12 252 yX12_has ∈ lw_good := lw_good_of (inT6 (List.mem_of_getElem? (i := 190) (by decide +kernel))) (by decide +kernel)
set_option maxRecDepth 20000 in
theorem ml_X12_256 : Cond.methodLink RX12 256 yX12_isOpen ∈ lw_good := lw_good_of (inT6 (List.mem_of_getElem? (i := 193) (by decide +kernel))) (by decide +kernel)
set_option maxRecDepth 20000 in
theorem ml_X12_274 : Cond.methodLink RX12 274 yX12_tell ∈ lw_good := lw_good_of (inT6 (List.mem_of_getElem? (i := 197) (by decide +kernel))) (by decide +kernel)
set_option maxRecDepth 20000 in
theorem ml_X12_285 : Cond.methodLink RX12 285 yX12_waters ∈ lw_good := lw_good_of (inT6 (List.mem_of_getElem? (i := 205) (by decide +kernel))) (by decide +kernel)
set_option maxRecDepth 20000 in
theorem ml_X12_281 : Cond.methodLink RX12 281 yX12_refusesWater ∈ lw_good := lw_good_of (inT6 (List.mem_of_getElem? (i := 209) (by decide +kernel))) (by decide +kernel)
set_option maxRecDepth 20000 in
theorem ml_X12_278 : Cond.methodLink RX12 278 yJ9_abs_0f7a4 ∈ lw_good := lw_good_of (inT6 (List.mem_of_getElem? (i := 213) (by decide +kernel))) (by decide +kernel)
set_option maxRecDepth 20000 in
theorem ml_X12_288 : Cond.methodLink RX12 288 yX12_refusesBoat ∈ lw_good := lw_good_of (inT6 (List.mem_of_getElem? (i := 224) (by decide +kernel))) (by decide +kernel)
set_option maxRecDepth 20000 in
theorem ml_X12_291 : Cond.methodLink RX12 291 yX12_goBoat ∈ lw_good := lw_good_of (inT6 (List.mem_of_getElem? (i := 228) (by decide +kernel))) (by decide +kernel)
set_option maxRecDepth 20000 in
theorem ml_X12_294 : Cond.methodLink RX12 294 yX12_refusesMark ∈ lw_good := lw_good_of (inT7 (List.mem_of_getElem? (i := 0) (by decide +kernel))) (by decide +kernel)
set_option maxRecDepth 20000 in
theorem ml_X12_297 : Cond.methodLink RX12 297 yX12_readAct ∈ lw_good := lw_good_of (inT7 (List.mem_of_getElem? (i := 8) (by decide +kernel))) (by decide +kernel)
set_option maxRecDepth 20000 in
theorem ml_X12_300 : Cond.methodLink RX12 300 yX12_act ∈ lw_good := lw_good_of (inT7 (List.mem_of_getElem? (i := 12) (by decide +kernel))) (by decide +kernel)
set_option maxRecDepth 20000 in
theorem ml_X12_303 : Cond.methodLink RX12 303 yX12_goThen ∈ lw_good := lw_good_of (inT7 (List.mem_of_getElem? (i := 24) (by decide +kernel))) (by decide +kernel)
set_option maxRecDepth 20000 in
theorem ml_X12_306 : Cond.methodLink RX12 306 yX12_isMarked ∈ lw_good := lw_good_of (inT7 (List.mem_of_getElem? (i := 32) (by decide +kernel))) (by decide +kernel)
set_option maxRecDepth 20000 in
theorem ml_X12_309 : Cond.methodLink RX12 309 yX12_layTrail ∈ lw_good := lw_good_of (inT7 (List.mem_of_getElem? (i := 40) (by decide +kernel))) (by decide +kernel)
set_option maxRecDepth 20000 in
theorem ml_X12_312 : Cond.methodLink RX12 312 yX12_areLevelsLike ∈ lw_good := lw_good_of (inT7 (List.mem_of_getElem? (i := 44) (by decide +kernel))) (by decide +kernel)
set_option maxRecDepth 20000 in
theorem ml_X12_315 : Cond.methodLink RX12 315 yX12_sumAt ∈ lw_good := lw_good_of (inT7 (List.mem_of_getElem? (i := 48) (by decide +kernel))) (by decide +kernel)
set_option maxRecDepth 20000 in
theorem ml_X12_318 : Cond.methodLink RX12 318 yX12_areTwo ∈ lw_good := lw_good_of (inT7 (List.mem_of_getElem? (i := 68) (by decide +kernel))) (by decide +kernel)
set_option maxRecDepth 20000 in
theorem ml_X12_321 : Cond.methodLink RX12 321 yX12_isSoon ∈ lw_good := lw_good_of (inT7 (List.mem_of_getElem? (i := 72) (by decide +kernel))) (by decide +kernel)
set_option maxRecDepth 20000 in
theorem ml_X12_324 : Cond.methodLink RX12 324 yX12_beginTable ∈ lw_good := lw_good_of (inT7 (List.mem_of_getElem? (i := 75) (by decide +kernel))) (by decide +kernel)
set_option maxRecDepth 20000 in
theorem ml_X12_328 : Cond.methodLink RX12 328 yX12_comesOf ∈ lw_good := lw_good_of (inT7 (List.mem_of_getElem? (i := 91) (by decide +kernel))) (by decide +kernel)
set_option maxRecDepth 20000 in
theorem ml_X12_337 : Cond.methodLink RX12 337 yX12_kinds ∈ lw_good := lw_good_of (inT7 (List.mem_of_getElem? (i := 95) (by decide +kernel))) (by decide +kernel)
set_option maxRecDepth 20000 in
theorem ml_X12_332 : Cond.methodLink RX12 332 yJ6_bitCount_0f7a4 ∈ lw_good := lw_good_of (inT7 (List.mem_of_getElem? (i := 99) (by decide +kernel))) (by decide +kernel)
set_option maxRecDepth 20000 in
theorem ml_X12_350 : Cond.methodLink RX12 350 yX12_fitting ∈ lw_good := lw_good_of (inT7 (List.mem_of_getElem? (i := 120) (by decide +kernel))) (by decide +kernel)
set_option maxRecDepth 20000 in
theorem ml_X12_347 : Cond.methodLink RX12 347 yX12_isSeen ∈ lw_good := lw_good_of (inT7 (List.mem_of_getElem? (i := 124) (by decide +kernel))) (by decide +kernel)
set_option maxRecDepth 20000 in
theorem ml_X12_344 : Cond.methodLink RX12 344 yX12_beginStuck ∈ lw_good := lw_good_of (inT7 (List.mem_of_getElem? (i := 128) (by decide +kernel))) (by decide +kernel)
set_option maxRecDepth 20000 in
theorem ml_X12_353 : Cond.methodLink RX12 353 yX12_cellOf ∈ lw_good := lw_good_of (inT7 (List.mem_of_getElem? (i := 136) (by decide +kernel))) (by decide +kernel)
set_option maxRecDepth 20000 in
theorem ml_X12_357 : Cond.methodLink RX12 357 yX12_levelBy ∈ lw_good := lw_good_of (inT7 (List.mem_of_getElem? (i := 144) (by decide +kernel))) (by decide +kernel)
set_option maxRecDepth 20000 in
theorem ml_X12_363 : Cond.methodLink RX12 363 yX12_reachOf ∈ lw_good := lw_good_of (inT7 (List.mem_of_getElem? (i := 152) (by decide +kernel))) (by decide +kernel)
set_option maxRecDepth 20000 in
theorem ml_X12_360 : Cond.methodLink RX12 360 yX12_isFree ∈ lw_good := lw_good_of (inT7 (List.mem_of_getElem? (i := 156) (by decide +kernel))) (by decide +kernel)
set_option maxRecDepth 20000 in
theorem ml_X12_366 : Cond.methodLink RX12 366 yX12_laySteps ∈ lw_good := lw_good_of (inT7 (List.mem_of_getElem? (i := 164) (by decide +kernel))) (by decide +kernel)
set_option maxRecDepth 20000 in
theorem ml_X12_369 : Cond.methodLink RX12 369 yX12_tellWay ∈ lw_good := lw_good_of (inT7 (List.mem_of_getElem? (i := 168) (by decide +kernel))) (by decide +kernel)
set_option maxRecDepth 20000 in
theorem ml_X12_375 : Cond.methodLink RX12 375 yX12_goRing ∈ lw_good := lw_good_of (inT7 (List.mem_of_getElem? (i := 180) (by decide +kernel))) (by decide +kernel)
set_option maxRecDepth 20000 in
theorem ml_X12_382 : Cond.methodLink RX12 382 yX12_goOrder ∈ lw_good := lw_good_of (inT7 (List.mem_of_getElem? (i := 188) (by decide +kernel))) (by decide +kernel)
set_option maxRecDepth 20000 in
theorem ml_X12_388 : Cond.methodLink RX12 388 yX12_moveOf ∈ lw_good := lw_good_of (inT7 (List.mem_of_getElem? (i := 196) (by decide +kernel))) (by decide +kernel)
set_option maxRecDepth 20000 in
theorem ml_X12_385 : Cond.methodLink RX12 385 yX12_losesAt ∈ lw_good := lw_good_of (inT7 (List.mem_of_getElem? (i := 200) (by decide +kernel))) (by decide +kernel)
set_option maxRecDepth 20000 in
theorem ml_X12_395 : Cond.methodLink RX12 395 yX12_power ∈ lw_good := lw_good_of (inT7 (List.mem_of_getElem? (i := 208) (by decide +kernel))) (by decide +kernel)
set_option maxRecDepth 20000 in
theorem ml_X12_391 : Cond.methodLink RX12 391 yX12_common ∈ lw_good := lw_good_of (inT7 (List.mem_of_getElem? (i := 212) (by decide +kernel))) (by decide +kernel)
set_option maxRecDepth 20000 in
theorem ml_X12_404 : Cond.methodLink RX12 404 yX12_isBest ∈ lw_good := lw_good_of (inT7 (List.mem_of_getElem? (i := 219) (by decide +kernel))) (by decide +kernel)
set_option maxRecDepth 20000 in
theorem ml_X12_401 : Cond.methodLink RX12 401 yX12_gets ∈ lw_good := lw_good_of (inT7 (List.mem_of_getElem? (i := 222) (by decide +kernel))) (by decide +kernel)
set_option maxRecDepth 20000 in
theorem ml_X12_411 : Cond.methodLink RX12 411 yX12_draw ∈ lw_good := lw_good_of (inT7 (List.mem_of_getElem? (i := 233) (by decide +kernel))) (by decide +kernel)
set_option maxRecDepth 20000 in
theorem ml_X12_414 : Cond.methodLink RX12 414 yX12_allMarked ∈ lw_good := lw_good_of (inT8 (List.mem_of_getElem? (i := 10) (by decide +kernel))) (by decide +kernel)
set_option maxRecDepth 20000 in
theorem ma_ini : Cond.initialized "java/lang/Math" ∈ lw_good := lw_good_of (inT1 (List.mem_of_getElem? (i := 14) (by decide +kernel))) (by decide +kernel)
set_option maxRecDepth 20000 in
theorem ac_nat : Cond.native arraycopyName ∈ lw_good := lw_good_of (inT1 (List.mem_of_getElem? (i := 141) (by decide +kernel))) (by decide +kernel)
set_option maxRecDepth 20000 in
theorem ac_sta : Cond.static arraycopyName ∈ lw_good := lw_good_of (inT1 (List.mem_of_getElem? (i := 140) (by decide +kernel))) (by decide +kernel)
set_option maxRecDepth 20000 in
theorem ac_ini : Cond.initialized "java/lang/System" ∈ lw_good := lw_good_of (inT1 (List.mem_of_getElem? (i := 7) (by decide +kernel))) (by decide +kernel)
set_option maxRecDepth 20000 in
theorem fl_X8_9 : FL RX8 9 7 0 := ⟨_, rfl, by decide, lw_good_of (inT1 (List.mem_of_getElem? (i := 36) (by decide +kernel))) (by decide +kernel)⟩
set_option maxRecDepth 20000 in
theorem fl_X8_15 : FL RX8 15 7 1 := ⟨_, rfl, by decide, lw_good_of (inT1 (List.mem_of_getElem? (i := 37) (by decide +kernel))) (by decide +kernel)⟩
set_option maxRecDepth 20000 in
theorem fp_X8_15 : FLp RX8 15 7 1 (.int) := ⟨_, rfl, by decide, lw_good_of (inT1 (List.mem_of_getElem? (i := 37) (by decide +kernel))) (by decide +kernel), rfl, by decide +kernel⟩
set_option maxRecDepth 20000 in
theorem fl_X5_19 : FL RX5 19 7 1 := ⟨_, rfl, by decide, lw_good_of (inT1 (List.mem_of_getElem? (i := 38) (by decide +kernel))) (by decide +kernel)⟩
set_option maxRecDepth 20000 in
theorem fp_X5_19 : FLp RX5 19 7 1 (.int) := ⟨_, rfl, by decide, lw_good_of (inT1 (List.mem_of_getElem? (i := 38) (by decide +kernel))) (by decide +kernel), rfl, by decide +kernel⟩
set_option maxRecDepth 20000 in
theorem fl_X11_121 : FL RX11 121 7 1 := ⟨_, rfl, by decide, lw_good_of (inT1 (List.mem_of_getElem? (i := 39) (by decide +kernel))) (by decide +kernel)⟩
set_option maxRecDepth 20000 in
theorem fp_X11_121 : FLp RX11 121 7 1 (.int) := ⟨_, rfl, by decide, lw_good_of (inT1 (List.mem_of_getElem? (i := 39) (by decide +kernel))) (by decide +kernel), rfl, by decide +kernel⟩
set_option maxRecDepth 20000 in
theorem fl_X0_29 : FL RX0 29 0 0 := ⟨_, rfl, by decide, lw_good_of (inT1 (List.mem_of_getElem? (i := 52) (by decide +kernel))) (by decide +kernel)⟩
set_option maxRecDepth 20000 in
theorem fp_X0_29 : FLp RX0 29 0 0 (.int) := ⟨_, rfl, by decide, lw_good_of (inT1 (List.mem_of_getElem? (i := 52) (by decide +kernel))) (by decide +kernel), rfl, by decide +kernel⟩
set_option maxRecDepth 20000 in
theorem fl_X11_113 : FL RX11 113 0 0 := ⟨_, rfl, by decide, lw_good_of (inT1 (List.mem_of_getElem? (i := 53) (by decide +kernel))) (by decide +kernel)⟩
set_option maxRecDepth 20000 in
theorem fp_X11_113 : FLp RX11 113 0 0 (.int) := ⟨_, rfl, by decide, lw_good_of (inT1 (List.mem_of_getElem? (i := 53) (by decide +kernel))) (by decide +kernel), rfl, by decide +kernel⟩
set_option maxRecDepth 20000 in
theorem fl_X0_33 : FL RX0 33 0 1 := ⟨_, rfl, by decide, lw_good_of (inT1 (List.mem_of_getElem? (i := 54) (by decide +kernel))) (by decide +kernel)⟩
set_option maxRecDepth 20000 in
theorem fp_X0_33 : FLp RX0 33 0 1 (.int) := ⟨_, rfl, by decide, lw_good_of (inT1 (List.mem_of_getElem? (i := 54) (by decide +kernel))) (by decide +kernel), rfl, by decide +kernel⟩
set_option maxRecDepth 20000 in
theorem fl_X10_19 : FL RX10 19 0 1 := ⟨_, rfl, by decide, lw_good_of (inT1 (List.mem_of_getElem? (i := 55) (by decide +kernel))) (by decide +kernel)⟩
set_option maxRecDepth 20000 in
theorem fp_X10_19 : FLp RX10 19 0 1 (.int) := ⟨_, rfl, by decide, lw_good_of (inT1 (List.mem_of_getElem? (i := 55) (by decide +kernel))) (by decide +kernel), rfl, by decide +kernel⟩
set_option maxRecDepth 20000 in
theorem fl_X11_132 : FL RX11 132 0 1 := ⟨_, rfl, by decide, lw_good_of (inT1 (List.mem_of_getElem? (i := 56) (by decide +kernel))) (by decide +kernel)⟩
set_option maxRecDepth 20000 in
theorem fp_X11_132 : FLp RX11 132 0 1 (.int) := ⟨_, rfl, by decide, lw_good_of (inT1 (List.mem_of_getElem? (i := 56) (by decide +kernel))) (by decide +kernel), rfl, by decide +kernel⟩
set_option maxRecDepth 20000 in
theorem fl_X0_36 : FL RX0 36 0 2 := ⟨_, rfl, by decide, lw_good_of (inT1 (List.mem_of_getElem? (i := 57) (by decide +kernel))) (by decide +kernel)⟩
set_option maxRecDepth 20000 in
theorem fp_X0_36 : FLp RX0 36 0 2 (.int) := ⟨_, rfl, by decide, lw_good_of (inT1 (List.mem_of_getElem? (i := 57) (by decide +kernel))) (by decide +kernel), rfl, by decide +kernel⟩
set_option maxRecDepth 20000 in
theorem fl_X0_9 : FL RX0 9 0 3 := ⟨_, rfl, by decide, lw_good_of (inT1 (List.mem_of_getElem? (i := 58) (by decide +kernel))) (by decide +kernel)⟩
set_option maxRecDepth 20000 in
theorem fl_X10_29 : FL RX10 29 0 3 := ⟨_, rfl, by decide, lw_good_of (inT1 (List.mem_of_getElem? (i := 59) (by decide +kernel))) (by decide +kernel)⟩
set_option maxRecDepth 20000 in
theorem fl_X11_204 : FL RX11 204 0 3 := ⟨_, rfl, by decide, lw_good_of (inT1 (List.mem_of_getElem? (i := 60) (by decide +kernel))) (by decide +kernel)⟩
set_option maxRecDepth 20000 in
theorem fl_X0_15 : FL RX0 15 0 4 := ⟨_, rfl, by decide, lw_good_of (inT1 (List.mem_of_getElem? (i := 61) (by decide +kernel))) (by decide +kernel)⟩
set_option maxRecDepth 20000 in
theorem fl_X10_32 : FL RX10 32 0 4 := ⟨_, rfl, by decide, lw_good_of (inT1 (List.mem_of_getElem? (i := 62) (by decide +kernel))) (by decide +kernel)⟩
set_option maxRecDepth 20000 in
theorem fl_X11_207 : FL RX11 207 0 4 := ⟨_, rfl, by decide, lw_good_of (inT1 (List.mem_of_getElem? (i := 63) (by decide +kernel))) (by decide +kernel)⟩
set_option maxRecDepth 20000 in
theorem fl_X0_18 : FL RX0 18 0 5 := ⟨_, rfl, by decide, lw_good_of (inT1 (List.mem_of_getElem? (i := 64) (by decide +kernel))) (by decide +kernel)⟩
set_option maxRecDepth 20000 in
theorem fl_X11_210 : FL RX11 210 0 5 := ⟨_, rfl, by decide, lw_good_of (inT1 (List.mem_of_getElem? (i := 65) (by decide +kernel))) (by decide +kernel)⟩
set_option maxRecDepth 20000 in
theorem fl_X0_26 : FL RX0 26 0 6 := ⟨_, rfl, by decide, lw_good_of (inT1 (List.mem_of_getElem? (i := 66) (by decide +kernel))) (by decide +kernel)⟩
set_option maxRecDepth 20000 in
theorem fl_X0_21 : FL RX0 21 0 7 := ⟨_, rfl, by decide, lw_good_of (inT1 (List.mem_of_getElem? (i := 67) (by decide +kernel))) (by decide +kernel)⟩
set_option maxRecDepth 20000 in
theorem fl_X11_341 : FL RX11 341 0 7 := ⟨_, rfl, by decide, lw_good_of (inT1 (List.mem_of_getElem? (i := 68) (by decide +kernel))) (by decide +kernel)⟩
set_option maxRecDepth 20000 in
theorem fl_X0_39 : FL RX0 39 0 8 := ⟨_, rfl, by decide, lw_good_of (inT1 (List.mem_of_getElem? (i := 69) (by decide +kernel))) (by decide +kernel)⟩
set_option maxRecDepth 20000 in
theorem fp_X0_39 : FLp RX0 39 0 8 (.int) := ⟨_, rfl, by decide, lw_good_of (inT1 (List.mem_of_getElem? (i := 69) (by decide +kernel))) (by decide +kernel), rfl, by decide +kernel⟩
set_option maxRecDepth 20000 in
theorem fl_X11_245 : FL RX11 245 0 8 := ⟨_, rfl, by decide, lw_good_of (inT1 (List.mem_of_getElem? (i := 70) (by decide +kernel))) (by decide +kernel)⟩
set_option maxRecDepth 20000 in
theorem fp_X11_245 : FLp RX11 245 0 8 (.int) := ⟨_, rfl, by decide, lw_good_of (inT1 (List.mem_of_getElem? (i := 70) (by decide +kernel))) (by decide +kernel), rfl, by decide +kernel⟩
set_option maxRecDepth 20000 in
theorem fl_X0_42 : FL RX0 42 0 9 := ⟨_, rfl, by decide, lw_good_of (inT1 (List.mem_of_getElem? (i := 71) (by decide +kernel))) (by decide +kernel)⟩
set_option maxRecDepth 20000 in
theorem fp_X0_42 : FLp RX0 42 0 9 (.int) := ⟨_, rfl, by decide, lw_good_of (inT1 (List.mem_of_getElem? (i := 71) (by decide +kernel))) (by decide +kernel), rfl, by decide +kernel⟩
set_option maxRecDepth 20000 in
theorem fl_X11_252 : FL RX11 252 0 9 := ⟨_, rfl, by decide, lw_good_of (inT1 (List.mem_of_getElem? (i := 72) (by decide +kernel))) (by decide +kernel)⟩
set_option maxRecDepth 20000 in
theorem fp_X11_252 : FLp RX11 252 0 9 (.int) := ⟨_, rfl, by decide, lw_good_of (inT1 (List.mem_of_getElem? (i := 72) (by decide +kernel))) (by decide +kernel), rfl, by decide +kernel⟩
set_option maxRecDepth 20000 in
theorem fl_X10_9 : FL RX10 9 9 0 := ⟨_, rfl, by decide, lw_good_of (inT1 (List.mem_of_getElem? (i := 101) (by decide +kernel))) (by decide +kernel)⟩
set_option maxRecDepth 20000 in
theorem fl_X10_15 : FL RX10 15 9 1 := ⟨_, rfl, by decide, lw_good_of (inT1 (List.mem_of_getElem? (i := 102) (by decide +kernel))) (by decide +kernel)⟩
set_option maxRecDepth 20000 in
theorem fl_X11_406 : FL RX11 406 9 1 := ⟨_, rfl, by decide, lw_good_of (inT1 (List.mem_of_getElem? (i := 103) (by decide +kernel))) (by decide +kernel)⟩
set_option maxRecDepth 20000 in
theorem fl_X9_9 : FL RX9 9 8 0 := ⟨_, rfl, by decide, lw_good_of (inT1 (List.mem_of_getElem? (i := 115) (by decide +kernel))) (by decide +kernel)⟩
set_option maxRecDepth 20000 in
theorem fl_X11_434 : FL RX11 434 8 0 := ⟨_, rfl, by decide, lw_good_of (inT1 (List.mem_of_getElem? (i := 116) (by decide +kernel))) (by decide +kernel)⟩
set_option maxRecDepth 20000 in
theorem fl_X9_13 : FL RX9 13 8 1 := ⟨_, rfl, by decide, lw_good_of (inT1 (List.mem_of_getElem? (i := 117) (by decide +kernel))) (by decide +kernel)⟩
set_option maxRecDepth 20000 in
theorem fl_X11_431 : FL RX11 431 8 1 := ⟨_, rfl, by decide, lw_good_of (inT1 (List.mem_of_getElem? (i := 118) (by decide +kernel))) (by decide +kernel)⟩
set_option maxRecDepth 20000 in
theorem fl_X9_22 : FL RX9 22 8 2 := ⟨_, rfl, by decide, lw_good_of (inT1 (List.mem_of_getElem? (i := 119) (by decide +kernel))) (by decide +kernel)⟩
set_option maxRecDepth 20000 in
theorem fp_X9_22 : FLp RX9 22 8 2 (.int) := ⟨_, rfl, by decide, lw_good_of (inT1 (List.mem_of_getElem? (i := 119) (by decide +kernel))) (by decide +kernel), rfl, by decide +kernel⟩
set_option maxRecDepth 20000 in
theorem fl_X4_9 : FL RX4 9 3 0 := ⟨_, rfl, by decide, lw_good_of (inT1 (List.mem_of_getElem? (i := 142) (by decide +kernel))) (by decide +kernel)⟩
set_option maxRecDepth 20000 in
theorem fl_X4_15 : FL RX4 15 3 1 := ⟨_, rfl, by decide, lw_good_of (inT1 (List.mem_of_getElem? (i := 143) (by decide +kernel))) (by decide +kernel)⟩
set_option maxRecDepth 20000 in
theorem fl_X4_27 : FL RX4 27 3 2 := ⟨_, rfl, by decide, lw_good_of (inT1 (List.mem_of_getElem? (i := 144) (by decide +kernel))) (by decide +kernel)⟩
set_option maxRecDepth 20000 in
theorem fp_X4_27 : FLp RX4 27 3 2 (.int) := ⟨_, rfl, by decide, lw_good_of (inT1 (List.mem_of_getElem? (i := 144) (by decide +kernel))) (by decide +kernel), rfl, by decide +kernel⟩
set_option maxRecDepth 20000 in
theorem fl_X5_9 : FL RX5 9 4 0 := ⟨_, rfl, by decide, lw_good_of (inT1 (List.mem_of_getElem? (i := 158) (by decide +kernel))) (by decide +kernel)⟩
set_option maxRecDepth 20000 in
theorem fl_X5_15 : FL RX5 15 4 1 := ⟨_, rfl, by decide, lw_good_of (inT1 (List.mem_of_getElem? (i := 159) (by decide +kernel))) (by decide +kernel)⟩
set_option maxRecDepth 20000 in
theorem fl_X5_33 : FL RX5 33 4 2 := ⟨_, rfl, by decide, lw_good_of (inT1 (List.mem_of_getElem? (i := 160) (by decide +kernel))) (by decide +kernel)⟩
set_option maxRecDepth 20000 in
theorem fp_X5_33 : FLp RX5 33 4 2 (.int) := ⟨_, rfl, by decide, lw_good_of (inT1 (List.mem_of_getElem? (i := 160) (by decide +kernel))) (by decide +kernel), rfl, by decide +kernel⟩
set_option maxRecDepth 20000 in
theorem fl_X5_36 : FL RX5 36 4 3 := ⟨_, rfl, by decide, lw_good_of (inT1 (List.mem_of_getElem? (i := 161) (by decide +kernel))) (by decide +kernel)⟩
set_option maxRecDepth 20000 in
theorem fp_X5_36 : FLp RX5 36 4 3 (.int) := ⟨_, rfl, by decide, lw_good_of (inT1 (List.mem_of_getElem? (i := 161) (by decide +kernel))) (by decide +kernel), rfl, by decide +kernel⟩
set_option maxRecDepth 20000 in
theorem fl_X5_39 : FL RX5 39 4 4 := ⟨_, rfl, by decide, lw_good_of (inT1 (List.mem_of_getElem? (i := 162) (by decide +kernel))) (by decide +kernel)⟩
set_option maxRecDepth 20000 in
theorem fp_X5_39 : FLp RX5 39 4 4 (.int) := ⟨_, rfl, by decide, lw_good_of (inT1 (List.mem_of_getElem? (i := 162) (by decide +kernel))) (by decide +kernel), rfl, by decide +kernel⟩
set_option maxRecDepth 20000 in
theorem fl_X5_42 : FL RX5 42 4 5 := ⟨_, rfl, by decide, lw_good_of (inT1 (List.mem_of_getElem? (i := 163) (by decide +kernel))) (by decide +kernel)⟩
set_option maxRecDepth 20000 in
theorem fp_X5_42 : FLp RX5 42 4 5 (.int) := ⟨_, rfl, by decide, lw_good_of (inT1 (List.mem_of_getElem? (i := 163) (by decide +kernel))) (by decide +kernel), rfl, by decide +kernel⟩
set_option maxRecDepth 20000 in
theorem fl_X5_70 : FL RX5 70 4 6 := ⟨_, rfl, by decide, lw_good_of (inT1 (List.mem_of_getElem? (i := 164) (by decide +kernel))) (by decide +kernel)⟩
set_option maxRecDepth 20000 in
theorem fp_X5_70 : FLp RX5 70 4 6 (.int) := ⟨_, rfl, by decide, lw_good_of (inT1 (List.mem_of_getElem? (i := 164) (by decide +kernel))) (by decide +kernel), rfl, by decide +kernel⟩
set_option maxRecDepth 20000 in
theorem fl_X5_45 : FL RX5 45 4 7 := ⟨_, rfl, by decide, lw_good_of (inT1 (List.mem_of_getElem? (i := 165) (by decide +kernel))) (by decide +kernel)⟩
set_option maxRecDepth 20000 in
theorem fp_X5_45 : FLp RX5 45 4 7 (.boolean) := ⟨_, rfl, by decide, lw_good_of (inT1 (List.mem_of_getElem? (i := 165) (by decide +kernel))) (by decide +kernel), rfl, by decide +kernel⟩
set_option maxRecDepth 20000 in
theorem fl_X7_9 : FL RX7 9 6 0 := ⟨_, rfl, by decide, lw_good_of (inT1 (List.mem_of_getElem? (i := 189) (by decide +kernel))) (by decide +kernel)⟩
set_option maxRecDepth 20000 in
theorem fl_X6_31 : FL RX6 31 6 0 := ⟨_, rfl, by decide, lw_good_of (inT1 (List.mem_of_getElem? (i := 190) (by decide +kernel))) (by decide +kernel)⟩
set_option maxRecDepth 20000 in
theorem fl_X11_154 : FL RX11 154 6 0 := ⟨_, rfl, by decide, lw_good_of (inT1 (List.mem_of_getElem? (i := 191) (by decide +kernel))) (by decide +kernel)⟩
set_option maxRecDepth 20000 in
theorem fl_X0_62 : FL RX0 62 6 0 := ⟨_, rfl, by decide, lw_good_of (inT1 (List.mem_of_getElem? (i := 192) (by decide +kernel))) (by decide +kernel)⟩
set_option maxRecDepth 20000 in
theorem fl_X7_15 : FL RX7 15 6 1 := ⟨_, rfl, by decide, lw_good_of (inT1 (List.mem_of_getElem? (i := 193) (by decide +kernel))) (by decide +kernel)⟩
set_option maxRecDepth 20000 in
theorem fl_X11_157 : FL RX11 157 6 1 := ⟨_, rfl, by decide, lw_good_of (inT1 (List.mem_of_getElem? (i := 194) (by decide +kernel))) (by decide +kernel)⟩
set_option maxRecDepth 20000 in
theorem fl_X0_72 : FL RX0 72 6 1 := ⟨_, rfl, by decide, lw_good_of (inT1 (List.mem_of_getElem? (i := 195) (by decide +kernel))) (by decide +kernel)⟩
set_option maxRecDepth 20000 in
theorem fl_X7_24 : FL RX7 24 6 2 := ⟨_, rfl, by decide, lw_good_of (inT1 (List.mem_of_getElem? (i := 196) (by decide +kernel))) (by decide +kernel)⟩
set_option maxRecDepth 20000 in
theorem fp_X7_24 : FLp RX7 24 6 2 (.int) := ⟨_, rfl, by decide, lw_good_of (inT1 (List.mem_of_getElem? (i := 196) (by decide +kernel))) (by decide +kernel), rfl, by decide +kernel⟩
set_option maxRecDepth 20000 in
theorem fl_X0_75 : FL RX0 75 6 2 := ⟨_, rfl, by decide, lw_good_of (inT1 (List.mem_of_getElem? (i := 197) (by decide +kernel))) (by decide +kernel)⟩
set_option maxRecDepth 20000 in
theorem fp_X0_75 : FLp RX0 75 6 2 (.int) := ⟨_, rfl, by decide, lw_good_of (inT1 (List.mem_of_getElem? (i := 197) (by decide +kernel))) (by decide +kernel), rfl, by decide +kernel⟩
set_option maxRecDepth 20000 in
theorem fl_X11_213 : FL RX11 213 6 2 := ⟨_, rfl, by decide, lw_good_of (inT1 (List.mem_of_getElem? (i := 198) (by decide +kernel))) (by decide +kernel)⟩
set_option maxRecDepth 20000 in
theorem fp_X11_213 : FLp RX11 213 6 2 (.int) := ⟨_, rfl, by decide, lw_good_of (inT1 (List.mem_of_getElem? (i := 198) (by decide +kernel))) (by decide +kernel), rfl, by decide +kernel⟩
set_option maxRecDepth 20000 in
theorem fl_X7_28 : FL RX7 28 6 3 := ⟨_, rfl, by decide, lw_good_of (inT1 (List.mem_of_getElem? (i := 199) (by decide +kernel))) (by decide +kernel)⟩
set_option maxRecDepth 20000 in
theorem fp_X7_28 : FLp RX7 28 6 3 (.int) := ⟨_, rfl, by decide, lw_good_of (inT1 (List.mem_of_getElem? (i := 199) (by decide +kernel))) (by decide +kernel), rfl, by decide +kernel⟩
set_option maxRecDepth 20000 in
theorem fl_X0_49 : FL RX0 49 6 3 := ⟨_, rfl, by decide, lw_good_of (inT1 (List.mem_of_getElem? (i := 200) (by decide +kernel))) (by decide +kernel)⟩
set_option maxRecDepth 20000 in
theorem fp_X0_49 : FLp RX0 49 6 3 (.int) := ⟨_, rfl, by decide, lw_good_of (inT1 (List.mem_of_getElem? (i := 200) (by decide +kernel))) (by decide +kernel), rfl, by decide +kernel⟩
set_option maxRecDepth 20000 in
theorem fl_X11_216 : FL RX11 216 6 3 := ⟨_, rfl, by decide, lw_good_of (inT1 (List.mem_of_getElem? (i := 201) (by decide +kernel))) (by decide +kernel)⟩
set_option maxRecDepth 20000 in
theorem fp_X11_216 : FLp RX11 216 6 3 (.int) := ⟨_, rfl, by decide, lw_good_of (inT1 (List.mem_of_getElem? (i := 201) (by decide +kernel))) (by decide +kernel), rfl, by decide +kernel⟩
set_option maxRecDepth 20000 in
theorem fl_X7_31 : FL RX7 31 6 4 := ⟨_, rfl, by decide, lw_good_of (inT1 (List.mem_of_getElem? (i := 202) (by decide +kernel))) (by decide +kernel)⟩
set_option maxRecDepth 20000 in
theorem fp_X7_31 : FLp RX7 31 6 4 (.int) := ⟨_, rfl, by decide, lw_good_of (inT1 (List.mem_of_getElem? (i := 202) (by decide +kernel))) (by decide +kernel), rfl, by decide +kernel⟩
set_option maxRecDepth 20000 in
theorem fl_X0_69 : FL RX0 69 6 4 := ⟨_, rfl, by decide, lw_good_of (inT1 (List.mem_of_getElem? (i := 203) (by decide +kernel))) (by decide +kernel)⟩
set_option maxRecDepth 20000 in
theorem fp_X0_69 : FLp RX0 69 6 4 (.int) := ⟨_, rfl, by decide, lw_good_of (inT1 (List.mem_of_getElem? (i := 203) (by decide +kernel))) (by decide +kernel), rfl, by decide +kernel⟩
set_option maxRecDepth 20000 in
theorem fl_X11_476 : FL RX11 476 6 4 := ⟨_, rfl, by decide, lw_good_of (inT1 (List.mem_of_getElem? (i := 204) (by decide +kernel))) (by decide +kernel)⟩
set_option maxRecDepth 20000 in
theorem fp_X11_476 : FLp RX11 476 6 4 (.int) := ⟨_, rfl, by decide, lw_good_of (inT1 (List.mem_of_getElem? (i := 204) (by decide +kernel))) (by decide +kernel), rfl, by decide +kernel⟩
set_option maxRecDepth 20000 in
theorem fl_X7_34 : FL RX7 34 6 5 := ⟨_, rfl, by decide, lw_good_of (inT1 (List.mem_of_getElem? (i := 205) (by decide +kernel))) (by decide +kernel)⟩
set_option maxRecDepth 20000 in
theorem fp_X7_34 : FLp RX7 34 6 5 (.int) := ⟨_, rfl, by decide, lw_good_of (inT1 (List.mem_of_getElem? (i := 205) (by decide +kernel))) (by decide +kernel), rfl, by decide +kernel⟩
set_option maxRecDepth 20000 in
theorem fl_X0_82 : FL RX0 82 6 5 := ⟨_, rfl, by decide, lw_good_of (inT1 (List.mem_of_getElem? (i := 206) (by decide +kernel))) (by decide +kernel)⟩
set_option maxRecDepth 20000 in
theorem fp_X0_82 : FLp RX0 82 6 5 (.int) := ⟨_, rfl, by decide, lw_good_of (inT1 (List.mem_of_getElem? (i := 206) (by decide +kernel))) (by decide +kernel), rfl, by decide +kernel⟩
set_option maxRecDepth 20000 in
theorem fl_X11_479 : FL RX11 479 6 5 := ⟨_, rfl, by decide, lw_good_of (inT1 (List.mem_of_getElem? (i := 207) (by decide +kernel))) (by decide +kernel)⟩
set_option maxRecDepth 20000 in
theorem fp_X11_479 : FLp RX11 479 6 5 (.int) := ⟨_, rfl, by decide, lw_good_of (inT1 (List.mem_of_getElem? (i := 207) (by decide +kernel))) (by decide +kernel), rfl, by decide +kernel⟩
set_option maxRecDepth 20000 in
theorem fl_X2_13 : FL RX2 13 1 0 := ⟨_, rfl, by decide, lw_good_of (inT1 (List.mem_of_getElem? (i := 230) (by decide +kernel))) (by decide +kernel)⟩
set_option maxRecDepth 20000 in
theorem fl_X2_18 : FL RX2 18 1 1 := ⟨_, rfl, by decide, lw_good_of (inT1 (List.mem_of_getElem? (i := 231) (by decide +kernel))) (by decide +kernel)⟩
set_option maxRecDepth 20000 in
theorem fl_X2_21 : FL RX2 21 1 2 := ⟨_, rfl, by decide, lw_good_of (inT1 (List.mem_of_getElem? (i := 232) (by decide +kernel))) (by decide +kernel)⟩
set_option maxRecDepth 20000 in
theorem fl_X2_25 : FL RX2 25 1 3 := ⟨_, rfl, by decide, lw_good_of (inT1 (List.mem_of_getElem? (i := 233) (by decide +kernel))) (by decide +kernel)⟩
set_option maxRecDepth 20000 in
theorem fp_X2_25 : FLp RX2 25 1 3 (.int) := ⟨_, rfl, by decide, lw_good_of (inT1 (List.mem_of_getElem? (i := 233) (by decide +kernel))) (by decide +kernel), rfl, by decide +kernel⟩
set_option maxRecDepth 20000 in
theorem fl_X11_489 : FL RX11 489 1 3 := ⟨_, rfl, by decide, lw_good_of (inT1 (List.mem_of_getElem? (i := 234) (by decide +kernel))) (by decide +kernel)⟩
set_option maxRecDepth 20000 in
theorem fp_X11_489 : FLp RX11 489 1 3 (.int) := ⟨_, rfl, by decide, lw_good_of (inT1 (List.mem_of_getElem? (i := 234) (by decide +kernel))) (by decide +kernel), rfl, by decide +kernel⟩
set_option maxRecDepth 20000 in
theorem fl_X3_9 : FL RX3 9 2 0 := ⟨_, rfl, by decide, lw_good_of (inT2 (List.mem_of_getElem? (i := 11) (by decide +kernel))) (by decide +kernel)⟩
set_option maxRecDepth 20000 in
theorem fl_X11_493 : FL RX11 493 2 0 := ⟨_, rfl, by decide, lw_good_of (inT2 (List.mem_of_getElem? (i := 12) (by decide +kernel))) (by decide +kernel)⟩
set_option maxRecDepth 20000 in
theorem fl_X3_13 : FL RX3 13 2 1 := ⟨_, rfl, by decide, lw_good_of (inT2 (List.mem_of_getElem? (i := 13) (by decide +kernel))) (by decide +kernel)⟩
set_option maxRecDepth 20000 in
theorem fp_X3_13 : FLp RX3 13 2 1 (.int) := ⟨_, rfl, by decide, lw_good_of (inT2 (List.mem_of_getElem? (i := 13) (by decide +kernel))) (by decide +kernel), rfl, by decide +kernel⟩
set_option maxRecDepth 20000 in
theorem fl_X11_490 : FL RX11 490 2 1 := ⟨_, rfl, by decide, lw_good_of (inT2 (List.mem_of_getElem? (i := 14) (by decide +kernel))) (by decide +kernel)⟩
set_option maxRecDepth 20000 in
theorem fp_X11_490 : FLp RX11 490 2 1 (.int) := ⟨_, rfl, by decide, lw_good_of (inT2 (List.mem_of_getElem? (i := 14) (by decide +kernel))) (by decide +kernel), rfl, by decide +kernel⟩
set_option maxRecDepth 20000 in
theorem fl_X6_11 : FL RX6 11 5 0 := ⟨_, rfl, by decide, lw_good_of (inT2 (List.mem_of_getElem? (i := 27) (by decide +kernel))) (by decide +kernel)⟩
set_option maxRecDepth 20000 in
theorem fl_X6_15 : FL RX6 15 5 1 := ⟨_, rfl, by decide, lw_good_of (inT2 (List.mem_of_getElem? (i := 28) (by decide +kernel))) (by decide +kernel)⟩
set_option maxRecDepth 20000 in
theorem fl_X6_18 : FL RX6 18 5 2 := ⟨_, rfl, by decide, lw_good_of (inT2 (List.mem_of_getElem? (i := 29) (by decide +kernel))) (by decide +kernel)⟩
set_option maxRecDepth 20000 in
theorem fl_X6_21 : FL RX6 21 5 3 := ⟨_, rfl, by decide, lw_good_of (inT2 (List.mem_of_getElem? (i := 30) (by decide +kernel))) (by decide +kernel)⟩
set_option maxRecDepth 20000 in
theorem fp_X6_21 : FLp RX6 21 5 3 (.int) := ⟨_, rfl, by decide, lw_good_of (inT2 (List.mem_of_getElem? (i := 30) (by decide +kernel))) (by decide +kernel), rfl, by decide +kernel⟩
set_option maxRecDepth 20000 in
theorem fl_X11_488 : FL RX11 488 5 3 := ⟨_, rfl, by decide, lw_good_of (inT2 (List.mem_of_getElem? (i := 31) (by decide +kernel))) (by decide +kernel)⟩
set_option maxRecDepth 20000 in
theorem fp_X11_488 : FLp RX11 488 5 3 (.int) := ⟨_, rfl, by decide, lw_good_of (inT2 (List.mem_of_getElem? (i := 31) (by decide +kernel))) (by decide +kernel), rfl, by decide +kernel⟩
set_option maxRecDepth 20000 in
theorem fl_X11_12 : FL RX11 12 10 0 := ⟨_, rfl, by decide, lw_good_of (inT2 (List.mem_of_getElem? (i := 41) (by decide +kernel))) (by decide +kernel)⟩
set_option maxRecDepth 20000 in
theorem fl_X11_19 : FL RX11 19 10 1 := ⟨_, rfl, by decide, lw_good_of (inT2 (List.mem_of_getElem? (i := 42) (by decide +kernel))) (by decide +kernel)⟩
set_option maxRecDepth 20000 in
theorem fl_X11_28 : FL RX11 28 10 2 := ⟨_, rfl, by decide, lw_good_of (inT2 (List.mem_of_getElem? (i := 43) (by decide +kernel))) (by decide +kernel)⟩
set_option maxRecDepth 20000 in
theorem fl_X11_35 : FL RX11 35 10 3 := ⟨_, rfl, by decide, lw_good_of (inT2 (List.mem_of_getElem? (i := 44) (by decide +kernel))) (by decide +kernel)⟩
set_option maxRecDepth 20000 in
theorem fl_X11_42 : FL RX11 42 10 4 := ⟨_, rfl, by decide, lw_good_of (inT2 (List.mem_of_getElem? (i := 45) (by decide +kernel))) (by decide +kernel)⟩
set_option maxRecDepth 20000 in
theorem fl_X11_46 : FL RX11 46 10 5 := ⟨_, rfl, by decide, lw_good_of (inT2 (List.mem_of_getElem? (i := 46) (by decide +kernel))) (by decide +kernel)⟩
set_option maxRecDepth 20000 in
theorem fl_X11_54 : FL RX11 54 10 6 := ⟨_, rfl, by decide, lw_good_of (inT2 (List.mem_of_getElem? (i := 47) (by decide +kernel))) (by decide +kernel)⟩
set_option maxRecDepth 20000 in
theorem fl_X11_61 : FL RX11 61 10 7 := ⟨_, rfl, by decide, lw_good_of (inT2 (List.mem_of_getElem? (i := 48) (by decide +kernel))) (by decide +kernel)⟩
set_option maxRecDepth 20000 in
theorem fl_X11_65 : FL RX11 65 10 8 := ⟨_, rfl, by decide, lw_good_of (inT2 (List.mem_of_getElem? (i := 49) (by decide +kernel))) (by decide +kernel)⟩
set_option maxRecDepth 20000 in
theorem fl_X11_68 : FL RX11 68 10 9 := ⟨_, rfl, by decide, lw_good_of (inT2 (List.mem_of_getElem? (i := 50) (by decide +kernel))) (by decide +kernel)⟩
set_option maxRecDepth 20000 in
theorem fl_X11_74 : FL RX11 74 10 10 := ⟨_, rfl, by decide, lw_good_of (inT2 (List.mem_of_getElem? (i := 51) (by decide +kernel))) (by decide +kernel)⟩
set_option maxRecDepth 20000 in
theorem fl_X11_81 : FL RX11 81 10 11 := ⟨_, rfl, by decide, lw_good_of (inT2 (List.mem_of_getElem? (i := 52) (by decide +kernel))) (by decide +kernel)⟩
set_option maxRecDepth 20000 in
theorem fl_X11_88 : FL RX11 88 10 12 := ⟨_, rfl, by decide, lw_good_of (inT2 (List.mem_of_getElem? (i := 53) (by decide +kernel))) (by decide +kernel)⟩
set_option maxRecDepth 20000 in
theorem fl_X11_92 : FL RX11 92 10 13 := ⟨_, rfl, by decide, lw_good_of (inT2 (List.mem_of_getElem? (i := 54) (by decide +kernel))) (by decide +kernel)⟩
set_option maxRecDepth 20000 in
theorem fl_X11_96 : FL RX11 96 10 14 := ⟨_, rfl, by decide, lw_good_of (inT2 (List.mem_of_getElem? (i := 55) (by decide +kernel))) (by decide +kernel)⟩
set_option maxRecDepth 20000 in
theorem fl_X11_102 : FL RX11 102 10 15 := ⟨_, rfl, by decide, lw_good_of (inT2 (List.mem_of_getElem? (i := 56) (by decide +kernel))) (by decide +kernel)⟩
set_option maxRecDepth 20000 in
theorem fl_X12_9 : FL RX12 9 11 0 := ⟨_, rfl, by decide, lw_good_of (inT5 (List.mem_of_getElem? (i := 120) (by decide +kernel))) (by decide +kernel)⟩
set_option maxRecDepth 20000 in
theorem fl_X12_107 : FL RX12 107 11 1 := ⟨_, rfl, by decide, lw_good_of (inT5 (List.mem_of_getElem? (i := 121) (by decide +kernel))) (by decide +kernel)⟩
set_option maxRecDepth 20000 in
theorem fp_X12_107 : FLp RX12 107 11 1 (.int) := ⟨_, rfl, by decide, lw_good_of (inT5 (List.mem_of_getElem? (i := 121) (by decide +kernel))) (by decide +kernel), rfl, by decide +kernel⟩
set_option maxRecDepth 20000 in
theorem fl_X12_118 : FL RX12 118 11 2 := ⟨_, rfl, by decide, lw_good_of (inT5 (List.mem_of_getElem? (i := 122) (by decide +kernel))) (by decide +kernel)⟩
set_option maxRecDepth 20000 in
theorem fp_X12_118 : FLp RX12 118 11 2 (.int) := ⟨_, rfl, by decide, lw_good_of (inT5 (List.mem_of_getElem? (i := 122) (by decide +kernel))) (by decide +kernel), rfl, by decide +kernel⟩
set_option maxRecDepth 20000 in
theorem fl_X12_175 : FL RX12 175 11 3 := ⟨_, rfl, by decide, lw_good_of (inT5 (List.mem_of_getElem? (i := 123) (by decide +kernel))) (by decide +kernel)⟩
set_option maxRecDepth 20000 in
theorem fp_X12_175 : FLp RX12 175 11 3 (.int) := ⟨_, rfl, by decide, lw_good_of (inT5 (List.mem_of_getElem? (i := 123) (by decide +kernel))) (by decide +kernel), rfl, by decide +kernel⟩
set_option maxRecDepth 20000 in
theorem fl_X12_13 : FL RX12 13 11 4 := ⟨_, rfl, by decide, lw_good_of (inT5 (List.mem_of_getElem? (i := 124) (by decide +kernel))) (by decide +kernel)⟩
set_option maxRecDepth 20000 in
theorem fl_X12_16 : FL RX12 16 11 5 := ⟨_, rfl, by decide, lw_good_of (inT5 (List.mem_of_getElem? (i := 125) (by decide +kernel))) (by decide +kernel)⟩
set_option maxRecDepth 20000 in
theorem fl_X12_19 : FL RX12 19 11 6 := ⟨_, rfl, by decide, lw_good_of (inT5 (List.mem_of_getElem? (i := 126) (by decide +kernel))) (by decide +kernel)⟩
set_option maxRecDepth 20000 in
theorem fl_X12_22 : FL RX12 22 11 7 := ⟨_, rfl, by decide, lw_good_of (inT5 (List.mem_of_getElem? (i := 127) (by decide +kernel))) (by decide +kernel)⟩
set_option maxRecDepth 20000 in
theorem fl_X12_121 : FL RX12 121 11 8 := ⟨_, rfl, by decide, lw_good_of (inT5 (List.mem_of_getElem? (i := 128) (by decide +kernel))) (by decide +kernel)⟩
set_option maxRecDepth 20000 in
theorem fp_X12_121 : FLp RX12 121 11 8 (.int) := ⟨_, rfl, by decide, lw_good_of (inT5 (List.mem_of_getElem? (i := 128) (by decide +kernel))) (by decide +kernel), rfl, by decide +kernel⟩
set_option maxRecDepth 20000 in
theorem fl_X12_26 : FL RX12 26 11 9 := ⟨_, rfl, by decide, lw_good_of (inT5 (List.mem_of_getElem? (i := 129) (by decide +kernel))) (by decide +kernel)⟩
set_option maxRecDepth 20000 in
theorem fl_X12_104 : FL RX12 104 11 10 := ⟨_, rfl, by decide, lw_good_of (inT5 (List.mem_of_getElem? (i := 130) (by decide +kernel))) (by decide +kernel)⟩
set_option maxRecDepth 20000 in
theorem fp_X12_104 : FLp RX12 104 11 10 (.int) := ⟨_, rfl, by decide, lw_good_of (inT5 (List.mem_of_getElem? (i := 130) (by decide +kernel))) (by decide +kernel), rfl, by decide +kernel⟩
set_option maxRecDepth 20000 in
theorem fl_X12_100 : FL RX12 100 11 11 := ⟨_, rfl, by decide, lw_good_of (inT5 (List.mem_of_getElem? (i := 131) (by decide +kernel))) (by decide +kernel)⟩
set_option maxRecDepth 20000 in
theorem fp_X12_100 : FLp RX12 100 11 11 (.int) := ⟨_, rfl, by decide, lw_good_of (inT5 (List.mem_of_getElem? (i := 131) (by decide +kernel))) (by decide +kernel), rfl, by decide +kernel⟩
set_option maxRecDepth 20000 in
theorem fl_X12_124 : FL RX12 124 11 12 := ⟨_, rfl, by decide, lw_good_of (inT5 (List.mem_of_getElem? (i := 132) (by decide +kernel))) (by decide +kernel)⟩
set_option maxRecDepth 20000 in
theorem fp_X12_124 : FLp RX12 124 11 12 (.array .byte) := ⟨_, rfl, by decide, lw_good_of (inT5 (List.mem_of_getElem? (i := 132) (by decide +kernel))) (by decide +kernel), rfl, by decide +kernel⟩
set_option maxRecDepth 20000 in
theorem fl_X12_127 : FL RX12 127 11 13 := ⟨_, rfl, by decide, lw_good_of (inT5 (List.mem_of_getElem? (i := 133) (by decide +kernel))) (by decide +kernel)⟩
set_option maxRecDepth 20000 in
theorem fp_X12_127 : FLp RX12 127 11 13 (.int) := ⟨_, rfl, by decide, lw_good_of (inT5 (List.mem_of_getElem? (i := 133) (by decide +kernel))) (by decide +kernel), rfl, by decide +kernel⟩
set_option maxRecDepth 20000 in
theorem fl_X12_130 : FL RX12 130 11 14 := ⟨_, rfl, by decide, lw_good_of (inT5 (List.mem_of_getElem? (i := 134) (by decide +kernel))) (by decide +kernel)⟩
set_option maxRecDepth 20000 in
theorem fp_X12_130 : FLp RX12 130 11 14 (.int) := ⟨_, rfl, by decide, lw_good_of (inT5 (List.mem_of_getElem? (i := 134) (by decide +kernel))) (by decide +kernel), rfl, by decide +kernel⟩
set_option maxRecDepth 20000 in
theorem fl_X12_133 : FL RX12 133 11 15 := ⟨_, rfl, by decide, lw_good_of (inT5 (List.mem_of_getElem? (i := 135) (by decide +kernel))) (by decide +kernel)⟩
set_option maxRecDepth 20000 in
theorem fp_X12_133 : FLp RX12 133 11 15 (.int) := ⟨_, rfl, by decide, lw_good_of (inT5 (List.mem_of_getElem? (i := 135) (by decide +kernel))) (by decide +kernel), rfl, by decide +kernel⟩
set_option maxRecDepth 20000 in
theorem fl_X12_136 : FL RX12 136 11 16 := ⟨_, rfl, by decide, lw_good_of (inT5 (List.mem_of_getElem? (i := 136) (by decide +kernel))) (by decide +kernel)⟩
set_option maxRecDepth 20000 in
theorem fp_X12_136 : FLp RX12 136 11 16 (.int) := ⟨_, rfl, by decide, lw_good_of (inT5 (List.mem_of_getElem? (i := 136) (by decide +kernel))) (by decide +kernel), rfl, by decide +kernel⟩
set_option maxRecDepth 20000 in
theorem fl_X12_30 : FL RX12 30 11 17 := ⟨_, rfl, by decide, lw_good_of (inT5 (List.mem_of_getElem? (i := 137) (by decide +kernel))) (by decide +kernel)⟩
set_option maxRecDepth 20000 in
theorem fl_X12_33 : FL RX12 33 11 18 := ⟨_, rfl, by decide, lw_good_of (inT5 (List.mem_of_getElem? (i := 138) (by decide +kernel))) (by decide +kernel)⟩
set_option maxRecDepth 20000 in
theorem fp_X12_33 : FLp RX12 33 11 18 (.array .byte) := ⟨_, rfl, by decide, lw_good_of (inT5 (List.mem_of_getElem? (i := 138) (by decide +kernel))) (by decide +kernel), rfl, by decide +kernel⟩
set_option maxRecDepth 20000 in
theorem fl_X12_36 : FL RX12 36 11 19 := ⟨_, rfl, by decide, lw_good_of (inT5 (List.mem_of_getElem? (i := 139) (by decide +kernel))) (by decide +kernel)⟩
set_option maxRecDepth 20000 in
theorem fp_X12_36 : FLp RX12 36 11 19 (.array .byte) := ⟨_, rfl, by decide, lw_good_of (inT5 (List.mem_of_getElem? (i := 139) (by decide +kernel))) (by decide +kernel), rfl, by decide +kernel⟩
set_option maxRecDepth 20000 in
theorem fl_X12_214 : FL RX12 214 11 20 := ⟨_, rfl, by decide, lw_good_of (inT5 (List.mem_of_getElem? (i := 140) (by decide +kernel))) (by decide +kernel)⟩
set_option maxRecDepth 20000 in
theorem fp_X12_214 : FLp RX12 214 11 20 (.int) := ⟨_, rfl, by decide, lw_good_of (inT5 (List.mem_of_getElem? (i := 140) (by decide +kernel))) (by decide +kernel), rfl, by decide +kernel⟩
set_option maxRecDepth 20000 in
theorem fl_X12_207 : FL RX12 207 11 21 := ⟨_, rfl, by decide, lw_good_of (inT5 (List.mem_of_getElem? (i := 141) (by decide +kernel))) (by decide +kernel)⟩
set_option maxRecDepth 20000 in
theorem fp_X12_207 : FLp RX12 207 11 21 (.boolean) := ⟨_, rfl, by decide, lw_good_of (inT5 (List.mem_of_getElem? (i := 141) (by decide +kernel))) (by decide +kernel), rfl, by decide +kernel⟩
set_option maxRecDepth 20000 in
theorem fl_X12_39 : FL RX12 39 11 22 := ⟨_, rfl, by decide, lw_good_of (inT5 (List.mem_of_getElem? (i := 142) (by decide +kernel))) (by decide +kernel)⟩
set_option maxRecDepth 20000 in
theorem fl_X12_42 : FL RX12 42 11 23 := ⟨_, rfl, by decide, lw_good_of (inT5 (List.mem_of_getElem? (i := 143) (by decide +kernel))) (by decide +kernel)⟩
set_option maxRecDepth 20000 in
theorem fl_X12_163 : FL RX12 163 11 24 := ⟨_, rfl, by decide, lw_good_of (inT5 (List.mem_of_getElem? (i := 144) (by decide +kernel))) (by decide +kernel)⟩
set_option maxRecDepth 20000 in
theorem fp_X12_163 : FLp RX12 163 11 24 (.int) := ⟨_, rfl, by decide, lw_good_of (inT5 (List.mem_of_getElem? (i := 144) (by decide +kernel))) (by decide +kernel), rfl, by decide +kernel⟩
set_option maxRecDepth 20000 in
theorem fl_X12_45 : FL RX12 45 11 25 := ⟨_, rfl, by decide, lw_good_of (inT5 (List.mem_of_getElem? (i := 145) (by decide +kernel))) (by decide +kernel)⟩
set_option maxRecDepth 20000 in
theorem fl_X12_48 : FL RX12 48 11 26 := ⟨_, rfl, by decide, lw_good_of (inT5 (List.mem_of_getElem? (i := 146) (by decide +kernel))) (by decide +kernel)⟩
set_option maxRecDepth 20000 in
theorem fl_X12_246 : FL RX12 246 11 27 := ⟨_, rfl, by decide, lw_good_of (inT5 (List.mem_of_getElem? (i := 147) (by decide +kernel))) (by decide +kernel)⟩
set_option maxRecDepth 20000 in
theorem fp_X12_246 : FLp RX12 246 11 27 (.int) := ⟨_, rfl, by decide, lw_good_of (inT5 (List.mem_of_getElem? (i := 147) (by decide +kernel))) (by decide +kernel), rfl, by decide +kernel⟩
set_option maxRecDepth 20000 in
theorem fl_X12_249 : FL RX12 249 11 28 := ⟨_, rfl, by decide, lw_good_of (inT5 (List.mem_of_getElem? (i := 148) (by decide +kernel))) (by decide +kernel)⟩
set_option maxRecDepth 20000 in
theorem fp_X12_249 : FLp RX12 249 11 28 (.int) := ⟨_, rfl, by decide, lw_good_of (inT5 (List.mem_of_getElem? (i := 148) (by decide +kernel))) (by decide +kernel), rfl, by decide +kernel⟩
set_option maxRecDepth 20000 in
theorem fl_X12_51 : FL RX12 51 11 29 := ⟨_, rfl, by decide, lw_good_of (inT5 (List.mem_of_getElem? (i := 149) (by decide +kernel))) (by decide +kernel)⟩
set_option maxRecDepth 20000 in
theorem fl_X12_54 : FL RX12 54 11 30 := ⟨_, rfl, by decide, lw_good_of (inT5 (List.mem_of_getElem? (i := 150) (by decide +kernel))) (by decide +kernel)⟩
set_option maxRecDepth 20000 in
theorem fl_X12_57 : FL RX12 57 11 31 := ⟨_, rfl, by decide, lw_good_of (inT5 (List.mem_of_getElem? (i := 151) (by decide +kernel))) (by decide +kernel)⟩
set_option maxRecDepth 20000 in
theorem fl_X12_60 : FL RX12 60 11 32 := ⟨_, rfl, by decide, lw_good_of (inT5 (List.mem_of_getElem? (i := 152) (by decide +kernel))) (by decide +kernel)⟩
set_option maxRecDepth 20000 in
theorem fl_X12_63 : FL RX12 63 11 33 := ⟨_, rfl, by decide, lw_good_of (inT5 (List.mem_of_getElem? (i := 153) (by decide +kernel))) (by decide +kernel)⟩
set_option maxRecDepth 20000 in
theorem fl_X12_66 : FL RX12 66 11 34 := ⟨_, rfl, by decide, lw_good_of (inT5 (List.mem_of_getElem? (i := 154) (by decide +kernel))) (by decide +kernel)⟩
set_option maxRecDepth 20000 in
theorem fl_X12_69 : FL RX12 69 11 35 := ⟨_, rfl, by decide, lw_good_of (inT5 (List.mem_of_getElem? (i := 155) (by decide +kernel))) (by decide +kernel)⟩
set_option maxRecDepth 20000 in
theorem fl_X12_72 : FL RX12 72 11 36 := ⟨_, rfl, by decide, lw_good_of (inT5 (List.mem_of_getElem? (i := 156) (by decide +kernel))) (by decide +kernel)⟩
set_option maxRecDepth 20000 in
theorem fl_X12_341 : FL RX12 341 11 37 := ⟨_, rfl, by decide, lw_good_of (inT5 (List.mem_of_getElem? (i := 157) (by decide +kernel))) (by decide +kernel)⟩
set_option maxRecDepth 20000 in
theorem fp_X12_341 : FLp RX12 341 11 37 (.int) := ⟨_, rfl, by decide, lw_good_of (inT5 (List.mem_of_getElem? (i := 157) (by decide +kernel))) (by decide +kernel), rfl, by decide +kernel⟩
set_option maxRecDepth 20000 in
theorem fl_X12_75 : FL RX12 75 11 38 := ⟨_, rfl, by decide, lw_good_of (inT5 (List.mem_of_getElem? (i := 158) (by decide +kernel))) (by decide +kernel)⟩
set_option maxRecDepth 20000 in
theorem fl_X12_78 : FL RX12 78 11 39 := ⟨_, rfl, by decide, lw_good_of (inT5 (List.mem_of_getElem? (i := 159) (by decide +kernel))) (by decide +kernel)⟩
set_option maxRecDepth 20000 in
theorem fl_X12_81 : FL RX12 81 11 40 := ⟨_, rfl, by decide, lw_good_of (inT5 (List.mem_of_getElem? (i := 160) (by decide +kernel))) (by decide +kernel)⟩
set_option maxRecDepth 20000 in
theorem fl_X12_84 : FL RX12 84 11 41 := ⟨_, rfl, by decide, lw_good_of (inT5 (List.mem_of_getElem? (i := 161) (by decide +kernel))) (by decide +kernel)⟩
set_option maxRecDepth 20000 in
theorem fl_X12_372 : FL RX12 372 11 42 := ⟨_, rfl, by decide, lw_good_of (inT5 (List.mem_of_getElem? (i := 162) (by decide +kernel))) (by decide +kernel)⟩
set_option maxRecDepth 20000 in
theorem fp_X12_372 : FLp RX12 372 11 42 (.int) := ⟨_, rfl, by decide, lw_good_of (inT5 (List.mem_of_getElem? (i := 162) (by decide +kernel))) (by decide +kernel), rfl, by decide +kernel⟩
set_option maxRecDepth 20000 in
theorem fl_X12_379 : FL RX12 379 11 43 := ⟨_, rfl, by decide, lw_good_of (inT5 (List.mem_of_getElem? (i := 163) (by decide +kernel))) (by decide +kernel)⟩
set_option maxRecDepth 20000 in
theorem fp_X12_379 : FLp RX12 379 11 43 (.int) := ⟨_, rfl, by decide, lw_good_of (inT5 (List.mem_of_getElem? (i := 163) (by decide +kernel))) (by decide +kernel), rfl, by decide +kernel⟩
set_option maxRecDepth 20000 in
theorem fl_X12_87 : FL RX12 87 11 44 := ⟨_, rfl, by decide, lw_good_of (inT5 (List.mem_of_getElem? (i := 164) (by decide +kernel))) (by decide +kernel)⟩
set_option maxRecDepth 20000 in
theorem fl_X12_407 : FL RX12 407 11 45 := ⟨_, rfl, by decide, lw_good_of (inT5 (List.mem_of_getElem? (i := 165) (by decide +kernel))) (by decide +kernel)⟩
set_option maxRecDepth 20000 in
theorem fp_X12_407 : FLp RX12 407 11 45 (.int) := ⟨_, rfl, by decide, lw_good_of (inT5 (List.mem_of_getElem? (i := 165) (by decide +kernel))) (by decide +kernel), rfl, by decide +kernel⟩
set_option maxRecDepth 20000 in
theorem fl_X12_166 : FL RX12 166 11 46 := ⟨_, rfl, by decide, lw_good_of (inT5 (List.mem_of_getElem? (i := 166) (by decide +kernel))) (by decide +kernel)⟩
set_option maxRecDepth 20000 in
theorem fp_X12_166 : FLp RX12 166 11 46 (.int) := ⟨_, rfl, by decide, lw_good_of (inT5 (List.mem_of_getElem? (i := 166) (by decide +kernel))) (by decide +kernel), rfl, by decide +kernel⟩
set_option maxRecDepth 20000 in
theorem fl_X12_91 : FL RX12 91 11 47 := ⟨_, rfl, by decide, lw_good_of (inT5 (List.mem_of_getElem? (i := 167) (by decide +kernel))) (by decide +kernel)⟩
set_option maxRecDepth 20000 in
theorem fl_X12_94 : FL RX12 94 11 48 := ⟨_, rfl, by decide, lw_good_of (inT5 (List.mem_of_getElem? (i := 168) (by decide +kernel))) (by decide +kernel)⟩
set_option maxRecDepth 20000 in
theorem fl_X12_97 : FL RX12 97 11 49 := ⟨_, rfl, by decide, lw_good_of (inT5 (List.mem_of_getElem? (i := 169) (by decide +kernel))) (by decide +kernel)⟩
set_option maxRecDepth 20000 in
theorem kc_X7_37 : Cond.constant RX7 37 16777215 ∈ lw_good := lw_good_of (inT3 (List.mem_of_getElem? (i := 218) (by decide +kernel))) (by decide +kernel)
set_option maxRecDepth 20000 in
theorem kc_J6_265 : Cond.constant RJ6 265 1431655765 ∈ lw_good := lw_good_of (inT4 (List.mem_of_getElem? (i := 34) (by decide +kernel))) (by decide +kernel)
set_option maxRecDepth 20000 in
theorem kc_J6_266 : Cond.constant RJ6 266 858993459 ∈ lw_good := lw_good_of (inT4 (List.mem_of_getElem? (i := 35) (by decide +kernel))) (by decide +kernel)
set_option maxRecDepth 20000 in
theorem kc_J6_267 : Cond.constant RJ6 267 252645135 ∈ lw_good := lw_good_of (inT4 (List.mem_of_getElem? (i := 36) (by decide +kernel))) (by decide +kernel)
set_option maxRecDepth 20000 in
theorem kc_X11_468 : Cond.constant RX11 468 1103515245 ∈ lw_good := lw_good_of (inT4 (List.mem_of_getElem? (i := 222) (by decide +kernel))) (by decide +kernel)
set_option maxRecDepth 20000 in
theorem kc_X12_356 : Cond.constant RX12 356 1000000 ∈ lw_good := lw_good_of (inT7 (List.mem_of_getElem? (i := 139) (by decide +kernel))) (by decide +kernel)
set_option maxRecDepth 20000 in
theorem kc_X12_410 : Cond.constant RX12 410 1103515245 ∈ lw_good := lw_good_of (inT7 (List.mem_of_getElem? (i := 237) (by decide +kernel))) (by decide +kernel)
set_option maxRecDepth 20000 in
theorem kl_J13_314 : Cond.constantLong RJ13 314 6148914691236517205 ∈ lw_good := lw_good_of (inT3 (List.mem_of_getElem? (i := 208) (by decide +kernel))) (by decide +kernel)
set_option maxRecDepth 20000 in
theorem kl_J13_316 : Cond.constantLong RJ13 316 3689348814741910323 ∈ lw_good := lw_good_of (inT3 (List.mem_of_getElem? (i := 209) (by decide +kernel))) (by decide +kernel)
set_option maxRecDepth 20000 in
theorem kl_J13_318 : Cond.constantLong RJ13 318 1085102592571150095 ∈ lw_good := lw_good_of (inT3 (List.mem_of_getElem? (i := 210) (by decide +kernel))) (by decide +kernel)
set_option maxRecDepth 20000 in
theorem kl_X11_453 : Cond.constantLong RX11 453 10 ∈ lw_good := lw_good_of (inT4 (List.mem_of_getElem? (i := 197) (by decide +kernel))) (by decide +kernel)
set_option maxRecDepth 20000 in
theorem kl_X12_399 : Cond.constantLong RX12 399 10 ∈ lw_good := lw_good_of (inT7 (List.mem_of_getElem? (i := 211) (by decide +kernel))) (by decide +kernel)
