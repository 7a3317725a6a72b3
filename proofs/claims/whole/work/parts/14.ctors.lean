set_option maxRecDepth 20000 in
theorem ac_char : Cond.arrayClass (newarray.typeOf .char) ∈ lw_good := lw_good_of (inT1 (List.mem_of_getElem? (i := 45) (by decide +kernel))) (by decide +kernel)
set_option maxRecDepth 20000 in
theorem ac_int : Cond.arrayClass (newarray.typeOf .int) ∈ lw_good := lw_good_of (inT1 (List.mem_of_getElem? (i := 94) (by decide +kernel))) (by decide +kernel)
set_option maxRecDepth 20000 in
theorem ac_boolean : Cond.arrayClass (newarray.typeOf .boolean) ∈ lw_good := lw_good_of (inT2 (List.mem_of_getElem? (i := 4) (by decide +kernel))) (by decide +kernel)
set_option maxRecDepth 20000 in
theorem ac_long : Cond.arrayClass (newarray.typeOf .long) ∈ lw_good := lw_good_of (inT2 (List.mem_of_getElem? (i := 20) (by decide +kernel))) (by decide +kernel)
set_option maxRecDepth 20000 in
theorem ac_byte : Cond.arrayClass (newarray.typeOf .byte) ∈ lw_good := lw_good_of (inT5 (List.mem_of_getElem? (i := 87) (by decide +kernel))) (by decide +kernel)
set_option maxRecDepth 20000 in
theorem oi_inst : Cond.instanceMethod objectInit ∈ lw_good := lw_good_of (inT1 (List.mem_of_getElem? (i := 28) (by decide +kernel))) (by decide +kernel)
set_option maxRecDepth 20000 in
theorem oi_code : Cond.code objectInit ⟨#[0xb1]⟩ 1 none ∈ lw_good := lw_good_of (inT1 (List.mem_of_getElem? (i := 29) rfl)) rfl
set_option maxRecDepth 20000 in
theorem oi_X7_3 : Cond.methodLink RX7 3 objectInit ∈ lw_good := lw_good_of (inT1 (List.mem_of_getElem? (i := 188) (by decide +kernel))) (by decide +kernel)
set_option maxRecDepth 20000 in
theorem ff_X7_9 : FLf RX7 9 6 0 (.array .int) := ⟨_, rfl, by decide, lw_good_of (inT1 (List.mem_of_getElem? (i := 189) (by decide +kernel))) (by decide +kernel), rfl, rfl, by decide +kernel⟩
set_option maxRecDepth 20000 in
theorem ff_X7_15 : FLf RX7 15 6 1 (.array .int) := ⟨_, rfl, by decide, lw_good_of (inT1 (List.mem_of_getElem? (i := 193) (by decide +kernel))) (by decide +kernel), rfl, rfl, by decide +kernel⟩
set_option maxRecDepth 20000 in
theorem oi_X0_3 : Cond.methodLink RX0 3 objectInit ∈ lw_good := lw_good_of (inT1 (List.mem_of_getElem? (i := 51) (by decide +kernel))) (by decide +kernel)
set_option maxRecDepth 20000 in
theorem ff_X0_9 : FLf RX0 9 0 3 (.array .int) := ⟨_, rfl, by decide, lw_good_of (inT1 (List.mem_of_getElem? (i := 58) (by decide +kernel))) (by decide +kernel), rfl, rfl, by decide +kernel⟩
set_option maxRecDepth 20000 in
theorem ff_X0_15 : FLf RX0 15 0 4 (.array .int) := ⟨_, rfl, by decide, lw_good_of (inT1 (List.mem_of_getElem? (i := 61) (by decide +kernel))) (by decide +kernel), rfl, rfl, by decide +kernel⟩
set_option maxRecDepth 20000 in
theorem ff_X0_18 : FLf RX0 18 0 5 (.array .int) := ⟨_, rfl, by decide, lw_good_of (inT1 (List.mem_of_getElem? (i := 64) (by decide +kernel))) (by decide +kernel), rfl, rfl, by decide +kernel⟩
set_option maxRecDepth 20000 in
theorem ff_X0_21 : FLf RX0 21 0 7 (.array .int) := ⟨_, rfl, by decide, lw_good_of (inT1 (List.mem_of_getElem? (i := 67) (by decide +kernel))) (by decide +kernel), rfl, rfl, by decide +kernel⟩
set_option maxRecDepth 20000 in
theorem ff_X0_26 : FLf RX0 26 0 6 (.array .int) := ⟨_, rfl, by decide, lw_good_of (inT1 (List.mem_of_getElem? (i := 66) (by decide +kernel))) (by decide +kernel), rfl, rfl, by decide +kernel⟩
set_option maxRecDepth 20000 in
theorem oi_X3_1 : Cond.methodLink RX3 1 objectInit ∈ lw_good := lw_good_of (inT2 (List.mem_of_getElem? (i := 10) (by decide +kernel))) (by decide +kernel)
set_option maxRecDepth 20000 in
theorem ff_X3_9 : FLf RX3 9 2 0 (.array .long) := ⟨_, rfl, by decide, lw_good_of (inT2 (List.mem_of_getElem? (i := 11) (by decide +kernel))) (by decide +kernel), rfl, rfl, by decide +kernel⟩
set_option maxRecDepth 20000 in
theorem oi_X4_3 : Cond.methodLink RX4 3 objectInit ∈ lw_good := lw_good_of (inT1 (List.mem_of_getElem? (i := 132) (by decide +kernel))) (by decide +kernel)
set_option maxRecDepth 20000 in
theorem ff_X4_9 : FLf RX4 9 3 0 (.array .int) := ⟨_, rfl, by decide, lw_good_of (inT1 (List.mem_of_getElem? (i := 142) (by decide +kernel))) (by decide +kernel), rfl, rfl, by decide +kernel⟩
set_option maxRecDepth 20000 in
theorem ff_X4_15 : FLf RX4 15 3 1 (.array .int) := ⟨_, rfl, by decide, lw_good_of (inT1 (List.mem_of_getElem? (i := 143) (by decide +kernel))) (by decide +kernel), rfl, rfl, by decide +kernel⟩
set_option maxRecDepth 20000 in
theorem oi_X5_3 : Cond.methodLink RX5 3 objectInit ∈ lw_good := lw_good_of (inT1 (List.mem_of_getElem? (i := 157) (by decide +kernel))) (by decide +kernel)
set_option maxRecDepth 20000 in
theorem ff_X5_9 : FLf RX5 9 4 0 (.object "LockLetters$Text") := ⟨_, rfl, by decide, lw_good_of (inT1 (List.mem_of_getElem? (i := 158) (by decide +kernel))) (by decide +kernel), rfl, rfl, by decide +kernel⟩
set_option maxRecDepth 20000 in
theorem ff_X5_15 : FLf RX5 15 4 1 (.array .int) := ⟨_, rfl, by decide, lw_good_of (inT1 (List.mem_of_getElem? (i := 159) (by decide +kernel))) (by decide +kernel), rfl, rfl, by decide +kernel⟩
set_option maxRecDepth 20000 in
theorem oi_X6_3 : Cond.methodLink RX6 3 objectInit ∈ lw_good := lw_good_of (inT2 (List.mem_of_getElem? (i := 26) (by decide +kernel))) (by decide +kernel)
set_option maxRecDepth 20000 in
theorem ff_X6_11 : FLf RX6 11 5 0 (.array .int) := ⟨_, rfl, by decide, lw_good_of (inT2 (List.mem_of_getElem? (i := 27) (by decide +kernel))) (by decide +kernel), rfl, rfl, by decide +kernel⟩
set_option maxRecDepth 20000 in
theorem ff_X6_15 : FLf RX6 15 5 1 (.array .int) := ⟨_, rfl, by decide, lw_good_of (inT2 (List.mem_of_getElem? (i := 28) (by decide +kernel))) (by decide +kernel), rfl, rfl, by decide +kernel⟩
set_option maxRecDepth 20000 in
theorem ff_X6_18 : FLf RX6 18 5 2 (.array .int) := ⟨_, rfl, by decide, lw_good_of (inT2 (List.mem_of_getElem? (i := 29) (by decide +kernel))) (by decide +kernel), rfl, rfl, by decide +kernel⟩
set_option maxRecDepth 20000 in
theorem oi_X8_3 : Cond.methodLink RX8 3 objectInit ∈ lw_good := lw_good_of (inT1 (List.mem_of_getElem? (i := 35) (by decide +kernel))) (by decide +kernel)
set_option maxRecDepth 20000 in
theorem ff_X8_9 : FLf RX8 9 7 0 (.array .char) := ⟨_, rfl, by decide, lw_good_of (inT1 (List.mem_of_getElem? (i := 36) (by decide +kernel))) (by decide +kernel), rfl, rfl, by decide +kernel⟩
set_option maxRecDepth 20000 in
theorem oi_X9_1 : Cond.methodLink RX9 1 objectInit ∈ lw_good := lw_good_of (inT1 (List.mem_of_getElem? (i := 114) (by decide +kernel))) (by decide +kernel)
set_option maxRecDepth 20000 in
theorem ff_X9_9 : FLf RX9 9 8 0 (.array .int) := ⟨_, rfl, by decide, lw_good_of (inT1 (List.mem_of_getElem? (i := 115) (by decide +kernel))) (by decide +kernel), rfl, rfl, by decide +kernel⟩
set_option maxRecDepth 20000 in
theorem ff_X9_13 : FLf RX9 13 8 1 (.array .int) := ⟨_, rfl, by decide, lw_good_of (inT1 (List.mem_of_getElem? (i := 117) (by decide +kernel))) (by decide +kernel), rfl, rfl, by decide +kernel⟩
set_option maxRecDepth 20000 in
theorem oi_X10_3 : Cond.methodLink RX10 3 objectInit ∈ lw_good := lw_good_of (inT1 (List.mem_of_getElem? (i := 100) (by decide +kernel))) (by decide +kernel)
set_option maxRecDepth 20000 in
theorem ff_X10_9 : FLf RX10 9 9 0 (.object "LockLetters$Canals") := ⟨_, rfl, by decide, lw_good_of (inT1 (List.mem_of_getElem? (i := 101) (by decide +kernel))) (by decide +kernel), rfl, rfl, by decide +kernel⟩
set_option maxRecDepth 20000 in
theorem ff_X10_15 : FLf RX10 15 9 1 (.array .int) := ⟨_, rfl, by decide, lw_good_of (inT1 (List.mem_of_getElem? (i := 102) (by decide +kernel))) (by decide +kernel), rfl, rfl, by decide +kernel⟩
set_option maxRecDepth 20000 in
theorem oi_X2_3 : Cond.methodLink RX2 3 objectInit ∈ lw_good := lw_good_of (inT1 (List.mem_of_getElem? (i := 226) (by decide +kernel))) (by decide +kernel)
set_option maxRecDepth 20000 in
theorem nc_X2_11 : Cond.classLink RX2 11 "LockLetters$State" ∈ lw_good := lw_good_of (inT1 (List.mem_of_getElem? (i := 227) (by decide +kernel))) (by decide +kernel)
set_option maxRecDepth 20000 in
theorem ff_X2_13 : FLf RX2 13 1 0 (.array (.object "LockLetters$State")) := ⟨_, rfl, by decide, lw_good_of (inT1 (List.mem_of_getElem? (i := 230) (by decide +kernel))) (by decide +kernel), rfl, rfl, by decide +kernel⟩
set_option maxRecDepth 20000 in
theorem nk_X2_11 : NOk RX2 11 6 := ⟨_, rfl, lw_good_of (inT1 (List.mem_of_getElem? (i := 227) (by decide +kernel))) (by decide +kernel), lw_good_of (inT1 (List.mem_of_getElem? (i := 184) (by decide +kernel))) (by decide +kernel), lw_good_of (inT1 (List.mem_of_getElem? (i := 9) (by decide +kernel))) (by decide +kernel)⟩
set_option maxRecDepth 20000 in
theorem io_X7_init : IOk yX7_init cX7_init 1 0 := ⟨mk_X7_init, lw_good_of (inT1 (List.mem_of_getElem? (i := 186) (by decide +kernel))) (by decide +kernel), rfl, by decide⟩
set_option maxRecDepth 20000 in
theorem ff_X2_18 : FLf RX2 18 1 1 (.array (.object "LockLetters$State")) := ⟨_, rfl, by decide, lw_good_of (inT1 (List.mem_of_getElem? (i := 231) (by decide +kernel))) (by decide +kernel), rfl, rfl, by decide +kernel⟩
set_option maxRecDepth 20000 in
theorem ff_X2_21 : FLf RX2 21 1 2 (.array .boolean) := ⟨_, rfl, by decide, lw_good_of (inT1 (List.mem_of_getElem? (i := 232) (by decide +kernel))) (by decide +kernel), rfl, rfl, by decide +kernel⟩
set_option maxRecDepth 20000 in
theorem oi_X11_3 : Cond.methodLink RX11 3 objectInit ∈ lw_good := lw_good_of (inT1 (List.mem_of_getElem? (i := 27) (by decide +kernel))) (by decide +kernel)
set_option maxRecDepth 20000 in
theorem nk_X11_9 : NOk RX11 9 7 := ⟨_, rfl, lw_good_of (inT1 (List.mem_of_getElem? (i := 30) (by decide +kernel))) (by decide +kernel), lw_good_of (inT1 (List.mem_of_getElem? (i := 31) (by decide +kernel))) (by decide +kernel), lw_good_of (inT1 (List.mem_of_getElem? (i := 2) (by decide +kernel))) (by decide +kernel)⟩
set_option maxRecDepth 20000 in
theorem io_X8_init : IOk yX8_init cX8_init 1 0 := ⟨mk_X8_init, lw_good_of (inT1 (List.mem_of_getElem? (i := 33) (by decide +kernel))) (by decide +kernel), rfl, by decide⟩
set_option maxRecDepth 20000 in
theorem ff_X11_12 : FLf RX11 12 10 0 (.object "LockLetters$Text") := ⟨_, rfl, by decide, lw_good_of (inT2 (List.mem_of_getElem? (i := 41) (by decide +kernel))) (by decide +kernel), rfl, rfl, by decide +kernel⟩
set_option maxRecDepth 20000 in
theorem nk_X11_16 : NOk RX11 16 0 := ⟨_, rfl, lw_good_of (inT1 (List.mem_of_getElem? (i := 46) (by decide +kernel))) (by decide +kernel), lw_good_of (inT1 (List.mem_of_getElem? (i := 47) (by decide +kernel))) (by decide +kernel), lw_good_of (inT1 (List.mem_of_getElem? (i := 3) (by decide +kernel))) (by decide +kernel)⟩
set_option maxRecDepth 20000 in
theorem io_X0_init : IOk yX0_init cX0_init 1 0 := ⟨mk_X0_init, lw_good_of (inT1 (List.mem_of_getElem? (i := 49) (by decide +kernel))) (by decide +kernel), rfl, by decide⟩
set_option maxRecDepth 20000 in
theorem ff_X11_19 : FLf RX11 19 10 1 (.object "LockLetters$Canals") := ⟨_, rfl, by decide, lw_good_of (inT2 (List.mem_of_getElem? (i := 42) (by decide +kernel))) (by decide +kernel), rfl, rfl, by decide +kernel⟩
set_option maxRecDepth 20000 in
theorem nk_X11_23 : NOk RX11 23 9 := ⟨_, rfl, lw_good_of (inT1 (List.mem_of_getElem? (i := 95) (by decide +kernel))) (by decide +kernel), lw_good_of (inT1 (List.mem_of_getElem? (i := 96) (by decide +kernel))) (by decide +kernel), lw_good_of (inT1 (List.mem_of_getElem? (i := 4) (by decide +kernel))) (by decide +kernel)⟩
set_option maxRecDepth 20000 in
theorem io_X10_init : IOk yX10_init cX10_init 2 1 := ⟨mk_X10_init, lw_good_of (inT1 (List.mem_of_getElem? (i := 98) (by decide +kernel))) (by decide +kernel), rfl, by decide⟩
set_option maxRecDepth 20000 in
theorem ff_X11_28 : FLf RX11 28 10 2 (.object "LockLetters$Ways") := ⟨_, rfl, by decide, lw_good_of (inT2 (List.mem_of_getElem? (i := 43) (by decide +kernel))) (by decide +kernel), rfl, rfl, by decide +kernel⟩
set_option maxRecDepth 20000 in
theorem nk_X11_32 : NOk RX11 32 8 := ⟨_, rfl, lw_good_of (inT1 (List.mem_of_getElem? (i := 109) (by decide +kernel))) (by decide +kernel), lw_good_of (inT1 (List.mem_of_getElem? (i := 110) (by decide +kernel))) (by decide +kernel), lw_good_of (inT1 (List.mem_of_getElem? (i := 5) (by decide +kernel))) (by decide +kernel)⟩
set_option maxRecDepth 20000 in
theorem io_X9_init : IOk yX9_init cX9_init 1 0 := ⟨mk_X9_init, lw_good_of (inT1 (List.mem_of_getElem? (i := 112) (by decide +kernel))) (by decide +kernel), rfl, by decide⟩
set_option maxRecDepth 20000 in
theorem ff_X11_35 : FLf RX11 35 10 3 (.object "LockLetters$Turns") := ⟨_, rfl, by decide, lw_good_of (inT2 (List.mem_of_getElem? (i := 44) (by decide +kernel))) (by decide +kernel), rfl, rfl, by decide +kernel⟩
set_option maxRecDepth 20000 in
theorem nk_X11_39 : NOk RX11 39 3 := ⟨_, rfl, lw_good_of (inT1 (List.mem_of_getElem? (i := 127) (by decide +kernel))) (by decide +kernel), lw_good_of (inT1 (List.mem_of_getElem? (i := 128) (by decide +kernel))) (by decide +kernel), lw_good_of (inT1 (List.mem_of_getElem? (i := 6) (by decide +kernel))) (by decide +kernel)⟩
set_option maxRecDepth 20000 in
theorem io_X4_init : IOk yX4_init cX4_init 1 0 := ⟨mk_X4_init, lw_good_of (inT1 (List.mem_of_getElem? (i := 130) (by decide +kernel))) (by decide +kernel), rfl, by decide⟩
set_option maxRecDepth 20000 in
theorem ff_X11_42 : FLf RX11 42 10 4 (.object "LockLetters$Rule") := ⟨_, rfl, by decide, lw_good_of (inT2 (List.mem_of_getElem? (i := 45) (by decide +kernel))) (by decide +kernel), rfl, rfl, by decide +kernel⟩
set_option maxRecDepth 20000 in
theorem ff_X11_46 : FLf RX11 46 10 5 (.object "LockLetters$Rule") := ⟨_, rfl, by decide, lw_good_of (inT2 (List.mem_of_getElem? (i := 46) (by decide +kernel))) (by decide +kernel), rfl, rfl, by decide +kernel⟩
set_option maxRecDepth 20000 in
theorem nk_X11_49 : NOk RX11 49 4 := ⟨_, rfl, lw_good_of (inT1 (List.mem_of_getElem? (i := 152) (by decide +kernel))) (by decide +kernel), lw_good_of (inT1 (List.mem_of_getElem? (i := 153) (by decide +kernel))) (by decide +kernel), lw_good_of (inT1 (List.mem_of_getElem? (i := 8) (by decide +kernel))) (by decide +kernel)⟩
set_option maxRecDepth 20000 in
theorem io_X5_init : IOk yX5_init cX5_init 2 1 := ⟨mk_X5_init, lw_good_of (inT1 (List.mem_of_getElem? (i := 155) (by decide +kernel))) (by decide +kernel), rfl, by decide⟩
set_option maxRecDepth 20000 in
theorem ff_X11_54 : FLf RX11 54 10 6 (.object "LockLetters$RuleReader") := ⟨_, rfl, by decide, lw_good_of (inT2 (List.mem_of_getElem? (i := 47) (by decide +kernel))) (by decide +kernel), rfl, rfl, by decide +kernel⟩
set_option maxRecDepth 20000 in
theorem nk_X11_58 : NOk RX11 58 6 := ⟨_, rfl, lw_good_of (inT1 (List.mem_of_getElem? (i := 183) (by decide +kernel))) (by decide +kernel), lw_good_of (inT1 (List.mem_of_getElem? (i := 184) (by decide +kernel))) (by decide +kernel), lw_good_of (inT1 (List.mem_of_getElem? (i := 9) (by decide +kernel))) (by decide +kernel)⟩
set_option maxRecDepth 20000 in
theorem ff_X11_61 : FLf RX11 61 10 7 (.object "LockLetters$State") := ⟨_, rfl, by decide, lw_good_of (inT2 (List.mem_of_getElem? (i := 48) (by decide +kernel))) (by decide +kernel), rfl, rfl, by decide +kernel⟩
set_option maxRecDepth 20000 in
theorem ff_X11_65 : FLf RX11 65 10 8 (.object "LockLetters$State") := ⟨_, rfl, by decide, lw_good_of (inT2 (List.mem_of_getElem? (i := 49) (by decide +kernel))) (by decide +kernel), rfl, rfl, by decide +kernel⟩
set_option maxRecDepth 20000 in
theorem ff_X11_68 : FLf RX11 68 10 9 (.object "LockLetters$State") := ⟨_, rfl, by decide, lw_good_of (inT2 (List.mem_of_getElem? (i := 50) (by decide +kernel))) (by decide +kernel), rfl, rfl, by decide +kernel⟩
set_option maxRecDepth 20000 in
theorem nk_X11_71 : NOk RX11 71 1 := ⟨_, rfl, lw_good_of (inT1 (List.mem_of_getElem? (i := 221) (by decide +kernel))) (by decide +kernel), lw_good_of (inT1 (List.mem_of_getElem? (i := 222) (by decide +kernel))) (by decide +kernel), lw_good_of (inT1 (List.mem_of_getElem? (i := 10) (by decide +kernel))) (by decide +kernel)⟩
set_option maxRecDepth 20000 in
theorem io_X2_init : IOk yX2_init cX2_init 2 0 := ⟨mk_X2_init, lw_good_of (inT1 (List.mem_of_getElem? (i := 224) (by decide +kernel))) (by decide +kernel), rfl, by decide⟩
set_option maxRecDepth 20000 in
theorem ff_X11_74 : FLf RX11 74 10 10 (.object "LockLetters$Past") := ⟨_, rfl, by decide, lw_good_of (inT2 (List.mem_of_getElem? (i := 51) (by decide +kernel))) (by decide +kernel), rfl, rfl, by decide +kernel⟩
set_option maxRecDepth 20000 in
theorem nk_X11_78 : NOk RX11 78 2 := ⟨_, rfl, lw_good_of (inT2 (List.mem_of_getElem? (i := 5) (by decide +kernel))) (by decide +kernel), lw_good_of (inT2 (List.mem_of_getElem? (i := 6) (by decide +kernel))) (by decide +kernel), lw_good_of (inT1 (List.mem_of_getElem? (i := 11) (by decide +kernel))) (by decide +kernel)⟩
set_option maxRecDepth 20000 in
theorem io_X3_init : IOk yX3_init cX3_init 1 0 := ⟨mk_X3_init, lw_good_of (inT2 (List.mem_of_getElem? (i := 8) (by decide +kernel))) (by decide +kernel), rfl, by decide⟩
set_option maxRecDepth 20000 in
theorem ff_X11_81 : FLf RX11 81 10 11 (.object "LockLetters$Row") := ⟨_, rfl, by decide, lw_good_of (inT2 (List.mem_of_getElem? (i := 52) (by decide +kernel))) (by decide +kernel), rfl, rfl, by decide +kernel⟩
set_option maxRecDepth 20000 in
theorem nk_X11_85 : NOk RX11 85 5 := ⟨_, rfl, lw_good_of (inT2 (List.mem_of_getElem? (i := 21) (by decide +kernel))) (by decide +kernel), lw_good_of (inT2 (List.mem_of_getElem? (i := 22) (by decide +kernel))) (by decide +kernel), lw_good_of (inT1 (List.mem_of_getElem? (i := 12) (by decide +kernel))) (by decide +kernel)⟩
set_option maxRecDepth 20000 in
theorem io_X6_init : IOk yX6_init cX6_init 1 0 := ⟨mk_X6_init, lw_good_of (inT2 (List.mem_of_getElem? (i := 24) (by decide +kernel))) (by decide +kernel), rfl, by decide⟩
set_option maxRecDepth 20000 in
theorem ff_X11_88 : FLf RX11 88 10 12 (.object "LockLetters$Seen") := ⟨_, rfl, by decide, lw_good_of (inT2 (List.mem_of_getElem? (i := 53) (by decide +kernel))) (by decide +kernel), rfl, rfl, by decide +kernel⟩
set_option maxRecDepth 20000 in
theorem ff_X11_92 : FLf RX11 92 10 13 (.array .long) := ⟨_, rfl, by decide, lw_good_of (inT2 (List.mem_of_getElem? (i := 54) (by decide +kernel))) (by decide +kernel), rfl, rfl, by decide +kernel⟩
set_option maxRecDepth 20000 in
theorem ff_X11_96 : FLf RX11 96 10 14 (.array .int) := ⟨_, rfl, by decide, lw_good_of (inT2 (List.mem_of_getElem? (i := 55) (by decide +kernel))) (by decide +kernel), rfl, rfl, by decide +kernel⟩
set_option maxRecDepth 20000 in
theorem ff_X11_102 : FLf RX11 102 10 15 (.array .int) := ⟨_, rfl, by decide, lw_good_of (inT2 (List.mem_of_getElem? (i := 56) (by decide +kernel))) (by decide +kernel), rfl, rfl, by decide +kernel⟩
set_option maxRecDepth 20000 in
theorem oi_X12_3 : Cond.methodLink RX12 3 objectInit ∈ lw_good := lw_good_of (inT5 (List.mem_of_getElem? (i := 119) (by decide +kernel))) (by decide +kernel)
set_option maxRecDepth 20000 in
theorem ff_X12_9 : FLf RX12 9 11 0 (.array .int) := ⟨_, rfl, by decide, lw_good_of (inT5 (List.mem_of_getElem? (i := 120) (by decide +kernel))) (by decide +kernel), rfl, rfl, by decide +kernel⟩
set_option maxRecDepth 20000 in
theorem ff_X12_13 : FLf RX12 13 11 4 (.array .int) := ⟨_, rfl, by decide, lw_good_of (inT5 (List.mem_of_getElem? (i := 124) (by decide +kernel))) (by decide +kernel), rfl, rfl, by decide +kernel⟩
set_option maxRecDepth 20000 in
theorem ff_X12_16 : FLf RX12 16 11 5 (.array .int) := ⟨_, rfl, by decide, lw_good_of (inT5 (List.mem_of_getElem? (i := 125) (by decide +kernel))) (by decide +kernel), rfl, rfl, by decide +kernel⟩
set_option maxRecDepth 20000 in
theorem ff_X12_19 : FLf RX12 19 11 6 (.array .int) := ⟨_, rfl, by decide, lw_good_of (inT5 (List.mem_of_getElem? (i := 126) (by decide +kernel))) (by decide +kernel), rfl, rfl, by decide +kernel⟩
set_option maxRecDepth 20000 in
theorem ff_X12_22 : FLf RX12 22 11 7 (.array .byte) := ⟨_, rfl, by decide, lw_good_of (inT5 (List.mem_of_getElem? (i := 127) (by decide +kernel))) (by decide +kernel), rfl, rfl, by decide +kernel⟩
set_option maxRecDepth 20000 in
theorem ff_X12_26 : FLf RX12 26 11 9 (.array .long) := ⟨_, rfl, by decide, lw_good_of (inT5 (List.mem_of_getElem? (i := 129) (by decide +kernel))) (by decide +kernel), rfl, rfl, by decide +kernel⟩
set_option maxRecDepth 20000 in
theorem ff_X12_30 : FLf RX12 30 11 17 (.array .int) := ⟨_, rfl, by decide, lw_good_of (inT5 (List.mem_of_getElem? (i := 137) (by decide +kernel))) (by decide +kernel), rfl, rfl, by decide +kernel⟩
set_option maxRecDepth 20000 in
theorem ff_X12_39 : FLf RX12 39 11 22 (.array .int) := ⟨_, rfl, by decide, lw_good_of (inT5 (List.mem_of_getElem? (i := 142) (by decide +kernel))) (by decide +kernel), rfl, rfl, by decide +kernel⟩
set_option maxRecDepth 20000 in
theorem ff_X12_42 : FLf RX12 42 11 23 (.array .int) := ⟨_, rfl, by decide, lw_good_of (inT5 (List.mem_of_getElem? (i := 143) (by decide +kernel))) (by decide +kernel), rfl, rfl, by decide +kernel⟩
set_option maxRecDepth 20000 in
theorem ff_X12_45 : FLf RX12 45 11 25 (.array .int) := ⟨_, rfl, by decide, lw_good_of (inT5 (List.mem_of_getElem? (i := 145) (by decide +kernel))) (by decide +kernel), rfl, rfl, by decide +kernel⟩
set_option maxRecDepth 20000 in
theorem ff_X12_48 : FLf RX12 48 11 26 (.array .int) := ⟨_, rfl, by decide, lw_good_of (inT5 (List.mem_of_getElem? (i := 146) (by decide +kernel))) (by decide +kernel), rfl, rfl, by decide +kernel⟩
set_option maxRecDepth 20000 in
theorem ff_X12_51 : FLf RX12 51 11 29 (.array .int) := ⟨_, rfl, by decide, lw_good_of (inT5 (List.mem_of_getElem? (i := 149) (by decide +kernel))) (by decide +kernel), rfl, rfl, by decide +kernel⟩
set_option maxRecDepth 20000 in
theorem ff_X12_54 : FLf RX12 54 11 30 (.array .int) := ⟨_, rfl, by decide, lw_good_of (inT5 (List.mem_of_getElem? (i := 150) (by decide +kernel))) (by decide +kernel), rfl, rfl, by decide +kernel⟩
set_option maxRecDepth 20000 in
theorem ff_X12_57 : FLf RX12 57 11 31 (.array .int) := ⟨_, rfl, by decide, lw_good_of (inT5 (List.mem_of_getElem? (i := 151) (by decide +kernel))) (by decide +kernel), rfl, rfl, by decide +kernel⟩
set_option maxRecDepth 20000 in
theorem ff_X12_60 : FLf RX12 60 11 32 (.array .int) := ⟨_, rfl, by decide, lw_good_of (inT5 (List.mem_of_getElem? (i := 152) (by decide +kernel))) (by decide +kernel), rfl, rfl, by decide +kernel⟩
set_option maxRecDepth 20000 in
theorem ff_X12_63 : FLf RX12 63 11 33 (.array .int) := ⟨_, rfl, by decide, lw_good_of (inT5 (List.mem_of_getElem? (i := 153) (by decide +kernel))) (by decide +kernel), rfl, rfl, by decide +kernel⟩
set_option maxRecDepth 20000 in
theorem ff_X12_66 : FLf RX12 66 11 34 (.array .int) := ⟨_, rfl, by decide, lw_good_of (inT5 (List.mem_of_getElem? (i := 154) (by decide +kernel))) (by decide +kernel), rfl, rfl, by decide +kernel⟩
set_option maxRecDepth 20000 in
theorem ff_X12_69 : FLf RX12 69 11 35 (.array .int) := ⟨_, rfl, by decide, lw_good_of (inT5 (List.mem_of_getElem? (i := 155) (by decide +kernel))) (by decide +kernel), rfl, rfl, by decide +kernel⟩
set_option maxRecDepth 20000 in
theorem ff_X12_72 : FLf RX12 72 11 36 (.array .int) := ⟨_, rfl, by decide, lw_good_of (inT5 (List.mem_of_getElem? (i := 156) (by decide +kernel))) (by decide +kernel), rfl, rfl, by decide +kernel⟩
set_option maxRecDepth 20000 in
theorem ff_X12_75 : FLf RX12 75 11 38 (.array .int) := ⟨_, rfl, by decide, lw_good_of (inT5 (List.mem_of_getElem? (i := 158) (by decide +kernel))) (by decide +kernel), rfl, rfl, by decide +kernel⟩
set_option maxRecDepth 20000 in
theorem ff_X12_78 : FLf RX12 78 11 39 (.array .int) := ⟨_, rfl, by decide, lw_good_of (inT5 (List.mem_of_getElem? (i := 159) (by decide +kernel))) (by decide +kernel), rfl, rfl, by decide +kernel⟩
set_option maxRecDepth 20000 in
theorem ff_X12_81 : FLf RX12 81 11 40 (.array .int) := ⟨_, rfl, by decide, lw_good_of (inT5 (List.mem_of_getElem? (i := 160) (by decide +kernel))) (by decide +kernel), rfl, rfl, by decide +kernel⟩
set_option maxRecDepth 20000 in
theorem ff_X12_84 : FLf RX12 84 11 41 (.array .int) := ⟨_, rfl, by decide, lw_good_of (inT5 (List.mem_of_getElem? (i := 161) (by decide +kernel))) (by decide +kernel), rfl, rfl, by decide +kernel⟩
set_option maxRecDepth 20000 in
theorem ff_X12_87 : FLf RX12 87 11 44 (.array .boolean) := ⟨_, rfl, by decide, lw_good_of (inT5 (List.mem_of_getElem? (i := 164) (by decide +kernel))) (by decide +kernel), rfl, rfl, by decide +kernel⟩
set_option maxRecDepth 20000 in
theorem ff_X12_91 : FLf RX12 91 11 47 (.array .int) := ⟨_, rfl, by decide, lw_good_of (inT5 (List.mem_of_getElem? (i := 167) (by decide +kernel))) (by decide +kernel), rfl, rfl, by decide +kernel⟩
set_option maxRecDepth 20000 in
theorem ff_X12_94 : FLf RX12 94 11 48 (.array .boolean) := ⟨_, rfl, by decide, lw_good_of (inT5 (List.mem_of_getElem? (i := 168) (by decide +kernel))) (by decide +kernel), rfl, rfl, by decide +kernel⟩
set_option maxRecDepth 20000 in
theorem ff_X12_97 : FLf RX12 97 11 49 (.array .int) := ⟨_, rfl, by decide, lw_good_of (inT5 (List.mem_of_getElem? (i := 169) (by decide +kernel))) (by decide +kernel), rfl, rfl, by decide +kernel⟩
theorem ln_add {a b n k m : Nat} (q : a = b + m) (z : b = n + k) : a = n + (k + m) := by omega
theorem dX7_init_0 : decode cX7_init 0 = .ok (.aload_n 0, 1) := by decide +kernel
theorem dX7_init_1 : decode cX7_init 1 = .ok (.invokespecial 3, 3) := by decide +kernel
theorem dX7_init_4 : decode cX7_init 4 = .ok (.aload_n 0, 1) := by decide +kernel
theorem dX7_init_5 : decode cX7_init 5 = .ok (.bipush 6, 2) := by decide +kernel
theorem dX7_init_7 : decode cX7_init 7 = .ok (.newarray .int, 2) := by decide +kernel
theorem dX7_init_9 : decode cX7_init 9 = .ok (.putfield 9, 3) := by decide +kernel
theorem dX7_init_12 : decode cX7_init 12 = .ok (.aload_n 0, 1) := by decide +kernel
theorem dX7_init_13 : decode cX7_init 13 = .ok (.bipush 6, 2) := by decide +kernel
theorem dX7_init_15 : decode cX7_init 15 = .ok (.newarray .int, 2) := by decide +kernel
theorem dX7_init_17 : decode cX7_init 17 = .ok (.putfield 15, 3) := by decide +kernel
theorem dX7_init_20 : decode cX7_init 20 = .ok (.return_, 1) := by decide +kernel
def fn_X7_init (h : aH) (p0 : Nat) : Option aH :=
  (some (hsh h).length).bind fun a1 =>
  (some (nw h (14, 6))).bind fun h2 =>
  (pR h2 p0 6 0 a1).bind fun h3 =>
  (some (hsh h3).length).bind fun a4 =>
  (some (nw h3 (14, 6))).bind fun h5 =>
  (pR h5 p0 6 1 a4).bind fun h6 =>
  some h6
set_option maxRecDepth 20000 in
set_option maxHeartbeats 4000000 in
theorem ln_X7_init (h : aH) (p0 : Nat) (o : aH) (hf : fn_X7_init h p0 = some o) : (hsh o).length = (hsh h).length + 2 := by
  unfold fn_X7_init at hf
  have zh : (hsh h).length = (hsh h).length + 0 := rfl
  obtain ⟨a1, ea1, hf⟩ := ob hf
  obtain ⟨h2, eh2, hf⟩ := ob hf
  have zh2 : (hsh h2).length = (hsh h).length + 1 := nw_len eh2 zh
  obtain ⟨h3, eh3, hf⟩ := ob hf
  have zh3 : (hsh h3).length = (hsh h).length + 1 := by rw [pR_sh eh3]; exact zh2
  obtain ⟨a4, ea4, hf⟩ := ob hf
  obtain ⟨h5, eh5, hf⟩ := ob hf
  have zh5 : (hsh h5).length = (hsh h).length + 2 := nw_len eh5 zh3
  obtain ⟨h6, eh6, hf⟩ := ob hf
  have zh6 : (hsh h6).length = (hsh h).length + 2 := by rw [pR_sh eh6]; exact zh5
  obtain rfl := Option.some.inj hf
  exact zh6
set_option maxRecDepth 20000 in
set_option maxHeartbeats 4000000 in
theorem evA_X7_init {l : Launch} {g : aG} {d : Nat} (hd : 1 ≤ d) (h : aH) (p0 : Nat) (o : aH) (hf : fn_X7_init h p0 = some o) : EvA l g d yX7_init cX7_init 1 [.ref p0] h o 2 12 := by
  refine EvA.of mk_X7_init rfl (Nat.le_of_ble_eq_true rfl) ?_
  intro Γ hl hg hk hin hA X
  have hd1 : 1 ≤ d := by omega
  have hdm : 0 ≤ d - 1 := by omega
  unfold fn_X7_init at hf
  have zh : (hsh h).length = (hsh h).length + 0 := rfl
  show Jd Γ (0, 0) 0 [some (.ref p0)] [] h
  refine r_aload_n (pc := 0) (cs := (0, 0)) X dX7_init_0 rfl ?_
  refine r_objInit (pc := 1) (cs := (0, 0)) X dX7_init_1 oi_X7_3 oi_inst oi_code hd1 (Nat.le_of_ble_eq_true rfl) ?_
  refine r_aload_n (pc := 4) (cs := (0, 0)) X dX7_init_4 rfl ?_
  refine r_bipush (pc := 5) (cs := (0, 0)) X 6 dX7_init_5 (by decide) ?_
  obtain ⟨a1, ea1, hf⟩ := ob hf
  obtain ⟨h2, eh2, hf⟩ := ob hf
  refine r_newa (pc := 7) (cs := (0, 0)) X hA zh dX7_init_7 ac_int (Or.inr (Or.inl ⟨rfl, rfl⟩)) (N := 6) (by decide) (by decide) (by decide) (Nat.le_of_ble_eq_true rfl) (Nat.le_of_ble_eq_true rfl) ea1 eh2 ?_
  have zh2 : (hsh h2).length = (hsh h).length + 1 := nw_len eh2 zh
  obtain ⟨h3, eh3, hf⟩ := ob hf
  refine r_putRF (pc := 9) (cs := (1, 6)) X hin dX7_init_9 ff_X7_9 (fun _ => ⟨rfl, rfl⟩) rfl eh3 ?_
  have zh3 : (hsh h3).length = (hsh h).length + 1 := by rw [pR_sh eh3]; exact zh2
  refine r_aload_n (pc := 12) (cs := (1, 6)) X dX7_init_12 rfl ?_
  refine r_bipush (pc := 13) (cs := (1, 6)) X 6 dX7_init_13 (by decide) ?_
  obtain ⟨a4, ea4, hf⟩ := ob hf
  obtain ⟨h5, eh5, hf⟩ := ob hf
  refine r_newa (pc := 15) (cs := (1, 6)) X hA zh3 dX7_init_15 ac_int (Or.inr (Or.inl ⟨rfl, rfl⟩)) (N := 6) (by decide) (by decide) (by decide) (Nat.le_of_ble_eq_true rfl) (Nat.le_of_ble_eq_true rfl) ea4 eh5 ?_
  have zh5 : (hsh h5).length = (hsh h).length + 2 := nw_len eh5 zh3
  obtain ⟨h6, eh6, hf⟩ := ob hf
  refine r_putRF (pc := 17) (cs := (2, 12)) X hin dX7_init_17 ff_X7_15 (fun _ => ⟨rfl, rfl⟩) rfl eh6 ?_
  have zh6 : (hsh h6).length = (hsh h).length + 2 := by rw [pR_sh eh6]; exact zh5
  obtain rfl := Option.some.inj hf
  exact r_vretA (pc := 20) X hA zh6 dX7_init_20 hk

theorem dX0_init_0 : decode cX0_init 0 = .ok (.aload_n 0, 1) := by decide +kernel
theorem dX0_init_1 : decode cX0_init 1 = .ok (.invokespecial 3, 3) := by decide +kernel
theorem dX0_init_4 : decode cX0_init 4 = .ok (.aload_n 0, 1) := by decide +kernel
theorem dX0_init_5 : decode cX0_init 5 = .ok (.bipush 8, 2) := by decide +kernel
theorem dX0_init_7 : decode cX0_init 7 = .ok (.newarray .int, 2) := by decide +kernel
theorem dX0_init_9 : decode cX0_init 9 = .ok (.putfield 9, 3) := by decide +kernel
theorem dX0_init_12 : decode cX0_init 12 = .ok (.aload_n 0, 1) := by decide +kernel
theorem dX0_init_13 : decode cX0_init 13 = .ok (.bipush 8, 2) := by decide +kernel
theorem dX0_init_15 : decode cX0_init 15 = .ok (.newarray .int, 2) := by decide +kernel
theorem dX0_init_17 : decode cX0_init 17 = .ok (.putfield 15, 3) := by decide +kernel
theorem dX0_init_20 : decode cX0_init 20 = .ok (.aload_n 0, 1) := by decide +kernel
theorem dX0_init_21 : decode cX0_init 21 = .ok (.bipush 8, 2) := by decide +kernel
theorem dX0_init_23 : decode cX0_init 23 = .ok (.newarray .int, 2) := by decide +kernel
theorem dX0_init_25 : decode cX0_init 25 = .ok (.putfield 18, 3) := by decide +kernel
theorem dX0_init_28 : decode cX0_init 28 = .ok (.aload_n 0, 1) := by decide +kernel
theorem dX0_init_29 : decode cX0_init 29 = .ok (.bipush 8, 2) := by decide +kernel
theorem dX0_init_31 : decode cX0_init 31 = .ok (.newarray .int, 2) := by decide +kernel
theorem dX0_init_33 : decode cX0_init 33 = .ok (.putfield 21, 3) := by decide +kernel
theorem dX0_init_36 : decode cX0_init 36 = .ok (.aload_n 0, 1) := by decide +kernel
theorem dX0_init_37 : decode cX0_init 37 = .ok (.bipush 7, 2) := by decide +kernel
theorem dX0_init_39 : decode cX0_init 39 = .ok (.newarray .int, 2) := by decide +kernel
theorem dX0_init_41 : decode cX0_init 41 = .ok (.putfield 26, 3) := by decide +kernel
theorem dX0_init_44 : decode cX0_init 44 = .ok (.return_, 1) := by decide +kernel
def fn_X0_init (h : aH) (p0 : Nat) : Option aH :=
  (some (hsh h).length).bind fun a1 =>
  (some (nw h (14, 8))).bind fun h2 =>
  (pR h2 p0 0 3 a1).bind fun h3 =>
  (some (hsh h3).length).bind fun a4 =>
  (some (nw h3 (14, 8))).bind fun h5 =>
  (pR h5 p0 0 4 a4).bind fun h6 =>
  (some (hsh h6).length).bind fun a7 =>
  (some (nw h6 (14, 8))).bind fun h8 =>
  (pR h8 p0 0 5 a7).bind fun h9 =>
  (some (hsh h9).length).bind fun a10 =>
  (some (nw h9 (14, 8))).bind fun h11 =>
  (pR h11 p0 0 7 a10).bind fun h12 =>
  (some (hsh h12).length).bind fun a13 =>
  (some (nw h12 (14, 7))).bind fun h14 =>
  (pR h14 p0 0 6 a13).bind fun h15 =>
  some h15
set_option maxRecDepth 20000 in
set_option maxHeartbeats 4000000 in
theorem ln_X0_init (h : aH) (p0 : Nat) (o : aH) (hf : fn_X0_init h p0 = some o) : (hsh o).length = (hsh h).length + 5 := by
  unfold fn_X0_init at hf
  have zh : (hsh h).length = (hsh h).length + 0 := rfl
  obtain ⟨a1, ea1, hf⟩ := ob hf
  obtain ⟨h2, eh2, hf⟩ := ob hf
  have zh2 : (hsh h2).length = (hsh h).length + 1 := nw_len eh2 zh
  obtain ⟨h3, eh3, hf⟩ := ob hf
  have zh3 : (hsh h3).length = (hsh h).length + 1 := by rw [pR_sh eh3]; exact zh2
  obtain ⟨a4, ea4, hf⟩ := ob hf
  obtain ⟨h5, eh5, hf⟩ := ob hf
  have zh5 : (hsh h5).length = (hsh h).length + 2 := nw_len eh5 zh3
  obtain ⟨h6, eh6, hf⟩ := ob hf
  have zh6 : (hsh h6).length = (hsh h).length + 2 := by rw [pR_sh eh6]; exact zh5
  obtain ⟨a7, ea7, hf⟩ := ob hf
  obtain ⟨h8, eh8, hf⟩ := ob hf
  have zh8 : (hsh h8).length = (hsh h).length + 3 := nw_len eh8 zh6
  obtain ⟨h9, eh9, hf⟩ := ob hf
  have zh9 : (hsh h9).length = (hsh h).length + 3 := by rw [pR_sh eh9]; exact zh8
  obtain ⟨a10, ea10, hf⟩ := ob hf
  obtain ⟨h11, eh11, hf⟩ := ob hf
  have zh11 : (hsh h11).length = (hsh h).length + 4 := nw_len eh11 zh9
  obtain ⟨h12, eh12, hf⟩ := ob hf
  have zh12 : (hsh h12).length = (hsh h).length + 4 := by rw [pR_sh eh12]; exact zh11
  obtain ⟨a13, ea13, hf⟩ := ob hf
  obtain ⟨h14, eh14, hf⟩ := ob hf
  have zh14 : (hsh h14).length = (hsh h).length + 5 := nw_len eh14 zh12
  obtain ⟨h15, eh15, hf⟩ := ob hf
  have zh15 : (hsh h15).length = (hsh h).length + 5 := by rw [pR_sh eh15]; exact zh14
  obtain rfl := Option.some.inj hf
  exact zh15
set_option maxRecDepth 20000 in
set_option maxHeartbeats 4000000 in
theorem evA_X0_init {l : Launch} {g : aG} {d : Nat} (hd : 1 ≤ d) (h : aH) (p0 : Nat) (o : aH) (hf : fn_X0_init h p0 = some o) : EvA l g d yX0_init cX0_init 1 [.ref p0] h o 5 39 := by
  refine EvA.of mk_X0_init rfl (Nat.le_of_ble_eq_true rfl) ?_
  intro Γ hl hg hk hin hA X
  have hd1 : 1 ≤ d := by omega
  have hdm : 0 ≤ d - 1 := by omega
  unfold fn_X0_init at hf
  have zh : (hsh h).length = (hsh h).length + 0 := rfl
  show Jd Γ (0, 0) 0 [some (.ref p0)] [] h
  refine r_aload_n (pc := 0) (cs := (0, 0)) X dX0_init_0 rfl ?_
  refine r_objInit (pc := 1) (cs := (0, 0)) X dX0_init_1 oi_X0_3 oi_inst oi_code hd1 (Nat.le_of_ble_eq_true rfl) ?_
  refine r_aload_n (pc := 4) (cs := (0, 0)) X dX0_init_4 rfl ?_
  refine r_bipush (pc := 5) (cs := (0, 0)) X 8 dX0_init_5 (by decide) ?_
  obtain ⟨a1, ea1, hf⟩ := ob hf
  obtain ⟨h2, eh2, hf⟩ := ob hf
  refine r_newa (pc := 7) (cs := (0, 0)) X hA zh dX0_init_7 ac_int (Or.inr (Or.inl ⟨rfl, rfl⟩)) (N := 8) (by decide) (by decide) (by decide) (Nat.le_of_ble_eq_true rfl) (Nat.le_of_ble_eq_true rfl) ea1 eh2 ?_
  have zh2 : (hsh h2).length = (hsh h).length + 1 := nw_len eh2 zh
  obtain ⟨h3, eh3, hf⟩ := ob hf
  refine r_putRF (pc := 9) (cs := (1, 8)) X hin dX0_init_9 ff_X0_9 (fun _ => ⟨rfl, rfl⟩) rfl eh3 ?_
  have zh3 : (hsh h3).length = (hsh h).length + 1 := by rw [pR_sh eh3]; exact zh2
  refine r_aload_n (pc := 12) (cs := (1, 8)) X dX0_init_12 rfl ?_
  refine r_bipush (pc := 13) (cs := (1, 8)) X 8 dX0_init_13 (by decide) ?_
  obtain ⟨a4, ea4, hf⟩ := ob hf
  obtain ⟨h5, eh5, hf⟩ := ob hf
  refine r_newa (pc := 15) (cs := (1, 8)) X hA zh3 dX0_init_15 ac_int (Or.inr (Or.inl ⟨rfl, rfl⟩)) (N := 8) (by decide) (by decide) (by decide) (Nat.le_of_ble_eq_true rfl) (Nat.le_of_ble_eq_true rfl) ea4 eh5 ?_
  have zh5 : (hsh h5).length = (hsh h).length + 2 := nw_len eh5 zh3
  obtain ⟨h6, eh6, hf⟩ := ob hf
  refine r_putRF (pc := 17) (cs := (2, 16)) X hin dX0_init_17 ff_X0_15 (fun _ => ⟨rfl, rfl⟩) rfl eh6 ?_
  have zh6 : (hsh h6).length = (hsh h).length + 2 := by rw [pR_sh eh6]; exact zh5
  refine r_aload_n (pc := 20) (cs := (2, 16)) X dX0_init_20 rfl ?_
  refine r_bipush (pc := 21) (cs := (2, 16)) X 8 dX0_init_21 (by decide) ?_
  obtain ⟨a7, ea7, hf⟩ := ob hf
  obtain ⟨h8, eh8, hf⟩ := ob hf
  refine r_newa (pc := 23) (cs := (2, 16)) X hA zh6 dX0_init_23 ac_int (Or.inr (Or.inl ⟨rfl, rfl⟩)) (N := 8) (by decide) (by decide) (by decide) (Nat.le_of_ble_eq_true rfl) (Nat.le_of_ble_eq_true rfl) ea7 eh8 ?_
  have zh8 : (hsh h8).length = (hsh h).length + 3 := nw_len eh8 zh6
  obtain ⟨h9, eh9, hf⟩ := ob hf
  refine r_putRF (pc := 25) (cs := (3, 24)) X hin dX0_init_25 ff_X0_18 (fun _ => ⟨rfl, rfl⟩) rfl eh9 ?_
  have zh9 : (hsh h9).length = (hsh h).length + 3 := by rw [pR_sh eh9]; exact zh8
  refine r_aload_n (pc := 28) (cs := (3, 24)) X dX0_init_28 rfl ?_
  refine r_bipush (pc := 29) (cs := (3, 24)) X 8 dX0_init_29 (by decide) ?_
  obtain ⟨a10, ea10, hf⟩ := ob hf
  obtain ⟨h11, eh11, hf⟩ := ob hf
  refine r_newa (pc := 31) (cs := (3, 24)) X hA zh9 dX0_init_31 ac_int (Or.inr (Or.inl ⟨rfl, rfl⟩)) (N := 8) (by decide) (by decide) (by decide) (Nat.le_of_ble_eq_true rfl) (Nat.le_of_ble_eq_true rfl) ea10 eh11 ?_
  have zh11 : (hsh h11).length = (hsh h).length + 4 := nw_len eh11 zh9
  obtain ⟨h12, eh12, hf⟩ := ob hf
  refine r_putRF (pc := 33) (cs := (4, 32)) X hin dX0_init_33 ff_X0_21 (fun _ => ⟨rfl, rfl⟩) rfl eh12 ?_
  have zh12 : (hsh h12).length = (hsh h).length + 4 := by rw [pR_sh eh12]; exact zh11
  refine r_aload_n (pc := 36) (cs := (4, 32)) X dX0_init_36 rfl ?_
  refine r_bipush (pc := 37) (cs := (4, 32)) X 7 dX0_init_37 (by decide) ?_
  obtain ⟨a13, ea13, hf⟩ := ob hf
  obtain ⟨h14, eh14, hf⟩ := ob hf
  refine r_newa (pc := 39) (cs := (4, 32)) X hA zh12 dX0_init_39 ac_int (Or.inr (Or.inl ⟨rfl, rfl⟩)) (N := 7) (by decide) (by decide) (by decide) (Nat.le_of_ble_eq_true rfl) (Nat.le_of_ble_eq_true rfl) ea13 eh14 ?_
  have zh14 : (hsh h14).length = (hsh h).length + 5 := nw_len eh14 zh12
  obtain ⟨h15, eh15, hf⟩ := ob hf
  refine r_putRF (pc := 41) (cs := (5, 39)) X hin dX0_init_41 ff_X0_26 (fun _ => ⟨rfl, rfl⟩) rfl eh15 ?_
  have zh15 : (hsh h15).length = (hsh h).length + 5 := by rw [pR_sh eh15]; exact zh14
  obtain rfl := Option.some.inj hf
  exact r_vretA (pc := 44) X hA zh15 dX0_init_44 hk

theorem dX3_init_0 : decode cX3_init 0 = .ok (.aload_n 0, 1) := by decide +kernel
theorem dX3_init_1 : decode cX3_init 1 = .ok (.invokespecial 1, 3) := by decide +kernel
theorem dX3_init_4 : decode cX3_init 4 = .ok (.aload_n 0, 1) := by decide +kernel
theorem dX3_init_5 : decode cX3_init 5 = .ok (.bipush 16, 2) := by decide +kernel
theorem dX3_init_7 : decode cX3_init 7 = .ok (.newarray .long, 2) := by decide +kernel
theorem dX3_init_9 : decode cX3_init 9 = .ok (.putfield 9, 3) := by decide +kernel
theorem dX3_init_12 : decode cX3_init 12 = .ok (.return_, 1) := by decide +kernel
def fn_X3_init (h : aH) (p0 : Nat) : Option aH :=
  (some (hsh h).length).bind fun a1 =>
  (some (nw h (15, 16))).bind fun h2 =>
  (pR h2 p0 2 0 a1).bind fun h3 =>
  some h3
set_option maxRecDepth 20000 in
set_option maxHeartbeats 4000000 in
theorem ln_X3_init (h : aH) (p0 : Nat) (o : aH) (hf : fn_X3_init h p0 = some o) : (hsh o).length = (hsh h).length + 1 := by
  unfold fn_X3_init at hf
  have zh : (hsh h).length = (hsh h).length + 0 := rfl
  obtain ⟨a1, ea1, hf⟩ := ob hf
  obtain ⟨h2, eh2, hf⟩ := ob hf
  have zh2 : (hsh h2).length = (hsh h).length + 1 := nw_len eh2 zh
  obtain ⟨h3, eh3, hf⟩ := ob hf
  have zh3 : (hsh h3).length = (hsh h).length + 1 := by rw [pR_sh eh3]; exact zh2
  obtain rfl := Option.some.inj hf
  exact zh3
set_option maxRecDepth 20000 in
set_option maxHeartbeats 4000000 in
theorem evA_X3_init {l : Launch} {g : aG} {d : Nat} (hd : 1 ≤ d) (h : aH) (p0 : Nat) (o : aH) (hf : fn_X3_init h p0 = some o) : EvA l g d yX3_init cX3_init 1 [.ref p0] h o 1 16 := by
  refine EvA.of mk_X3_init rfl (Nat.le_of_ble_eq_true rfl) ?_
  intro Γ hl hg hk hin hA X
  have hd1 : 1 ≤ d := by omega
  have hdm : 0 ≤ d - 1 := by omega
  unfold fn_X3_init at hf
  have zh : (hsh h).length = (hsh h).length + 0 := rfl
  show Jd Γ (0, 0) 0 [some (.ref p0)] [] h
  refine r_aload_n (pc := 0) (cs := (0, 0)) X dX3_init_0 rfl ?_
  refine r_objInit (pc := 1) (cs := (0, 0)) X dX3_init_1 oi_X3_1 oi_inst oi_code hd1 (Nat.le_of_ble_eq_true rfl) ?_
  refine r_aload_n (pc := 4) (cs := (0, 0)) X dX3_init_4 rfl ?_
  refine r_bipush (pc := 5) (cs := (0, 0)) X 16 dX3_init_5 (by decide) ?_
  obtain ⟨a1, ea1, hf⟩ := ob hf
  obtain ⟨h2, eh2, hf⟩ := ob hf
  refine r_newa (pc := 7) (cs := (0, 0)) X hA zh dX3_init_7 ac_long (Or.inl ⟨rfl, rfl⟩) (N := 16) (by decide) (by decide) (by decide) (Nat.le_of_ble_eq_true rfl) (Nat.le_of_ble_eq_true rfl) ea1 eh2 ?_
  have zh2 : (hsh h2).length = (hsh h).length + 1 := nw_len eh2 zh
  obtain ⟨h3, eh3, hf⟩ := ob hf
  refine r_putRF (pc := 9) (cs := (1, 16)) X hin dX3_init_9 ff_X3_9 (fun _ => ⟨rfl, rfl⟩) rfl eh3 ?_
  have zh3 : (hsh h3).length = (hsh h).length + 1 := by rw [pR_sh eh3]; exact zh2
  obtain rfl := Option.some.inj hf
  exact r_vretA (pc := 12) X hA zh3 dX3_init_12 hk

theorem dX4_init_0 : decode cX4_init 0 = .ok (.aload_n 0, 1) := by decide +kernel
theorem dX4_init_1 : decode cX4_init 1 = .ok (.invokespecial 3, 3) := by decide +kernel
theorem dX4_init_4 : decode cX4_init 4 = .ok (.aload_n 0, 1) := by decide +kernel
theorem dX4_init_5 : decode cX4_init 5 = .ok (.bipush 40, 2) := by decide +kernel
theorem dX4_init_7 : decode cX4_init 7 = .ok (.newarray .int, 2) := by decide +kernel
theorem dX4_init_9 : decode cX4_init 9 = .ok (.putfield 9, 3) := by decide +kernel
theorem dX4_init_12 : decode cX4_init 12 = .ok (.aload_n 0, 1) := by decide +kernel
theorem dX4_init_13 : decode cX4_init 13 = .ok (.bipush 40, 2) := by decide +kernel
theorem dX4_init_15 : decode cX4_init 15 = .ok (.newarray .int, 2) := by decide +kernel
theorem dX4_init_17 : decode cX4_init 17 = .ok (.putfield 15, 3) := by decide +kernel
theorem dX4_init_20 : decode cX4_init 20 = .ok (.aload_n 0, 1) := by decide +kernel
theorem dX4_init_21 : decode cX4_init 21 = .ok (.invokevirtual 18, 3) := by decide +kernel
theorem dX4_init_24 : decode cX4_init 24 = .ok (.return_, 1) := by decide +kernel
def fn_X4_init (h : aH) (p0 : Nat) : Option aH :=
  (some (hsh h).length).bind fun a1 =>
  (some (nw h (14, 40))).bind fun h2 =>
  (pR h2 p0 3 0 a1).bind fun h3 =>
  (some (hsh h3).length).bind fun a4 =>
  (some (nw h3 (14, 40))).bind fun h5 =>
  (pR h5 p0 3 1 a4).bind fun h6 =>
  (ck h6 p0 3).bind fun u7 =>
  (fn_X4_becomesNone h6 p0).bind fun h8 =>
  some h8
set_option maxRecDepth 20000 in
set_option maxHeartbeats 4000000 in
theorem ln_X4_init (h : aH) (p0 : Nat) (o : aH) (hf : fn_X4_init h p0 = some o) : (hsh o).length = (hsh h).length + 2 := by
  unfold fn_X4_init at hf
  have zh : (hsh h).length = (hsh h).length + 0 := rfl
  obtain ⟨a1, ea1, hf⟩ := ob hf
  obtain ⟨h2, eh2, hf⟩ := ob hf
  have zh2 : (hsh h2).length = (hsh h).length + 1 := nw_len eh2 zh
  obtain ⟨h3, eh3, hf⟩ := ob hf
  have zh3 : (hsh h3).length = (hsh h).length + 1 := by rw [pR_sh eh3]; exact zh2
  obtain ⟨a4, ea4, hf⟩ := ob hf
  obtain ⟨h5, eh5, hf⟩ := ob hf
  have zh5 : (hsh h5).length = (hsh h).length + 2 := nw_len eh5 zh3
  obtain ⟨h6, eh6, hf⟩ := ob hf
  have zh6 : (hsh h6).length = (hsh h).length + 2 := by rw [pR_sh eh6]; exact zh5
  obtain ⟨u7, eu7, hf⟩ := ob hf
  obtain ⟨h8, eh8, hf⟩ := ob hf
  have zh8 : (hsh h8).length = (hsh h).length + 2 := by rw [becomesNone_sh eh8]; exact zh6
  obtain rfl := Option.some.inj hf
  exact zh8
set_option maxRecDepth 20000 in
set_option maxHeartbeats 4000000 in
theorem evA_X4_init {l : Launch} {g : aG} {d : Nat} (hd : 2 ≤ d) (h : aH) (p0 : Nat) (o : aH) (hf : fn_X4_init h p0 = some o) : EvA l g d yX4_init cX4_init 1 [.ref p0] h o 2 80 := by
  refine EvA.of mk_X4_init rfl (Nat.le_of_ble_eq_true rfl) ?_
  intro Γ hl hg hk hin hA X
  have hd1 : 1 ≤ d := by omega
  have hdm : 1 ≤ d - 1 := by omega
  unfold fn_X4_init at hf
  have zh : (hsh h).length = (hsh h).length + 0 := rfl
  show Jd Γ (0, 0) 0 [some (.ref p0)] [] h
  refine r_aload_n (pc := 0) (cs := (0, 0)) X dX4_init_0 rfl ?_
  refine r_objInit (pc := 1) (cs := (0, 0)) X dX4_init_1 oi_X4_3 oi_inst oi_code hd1 (Nat.le_of_ble_eq_true rfl) ?_
  refine r_aload_n (pc := 4) (cs := (0, 0)) X dX4_init_4 rfl ?_
  refine r_bipush (pc := 5) (cs := (0, 0)) X 40 dX4_init_5 (by decide) ?_
  obtain ⟨a1, ea1, hf⟩ := ob hf
  obtain ⟨h2, eh2, hf⟩ := ob hf
  refine r_newa (pc := 7) (cs := (0, 0)) X hA zh dX4_init_7 ac_int (Or.inr (Or.inl ⟨rfl, rfl⟩)) (N := 40) (by decide) (by decide) (by decide) (Nat.le_of_ble_eq_true rfl) (Nat.le_of_ble_eq_true rfl) ea1 eh2 ?_
  have zh2 : (hsh h2).length = (hsh h).length + 1 := nw_len eh2 zh
  obtain ⟨h3, eh3, hf⟩ := ob hf
  refine r_putRF (pc := 9) (cs := (1, 40)) X hin dX4_init_9 ff_X4_9 (fun _ => ⟨rfl, rfl⟩) rfl eh3 ?_
  have zh3 : (hsh h3).length = (hsh h).length + 1 := by rw [pR_sh eh3]; exact zh2
  refine r_aload_n (pc := 12) (cs := (1, 40)) X dX4_init_12 rfl ?_
  refine r_bipush (pc := 13) (cs := (1, 40)) X 40 dX4_init_13 (by decide) ?_
  obtain ⟨a4, ea4, hf⟩ := ob hf
  obtain ⟨h5, eh5, hf⟩ := ob hf
  refine r_newa (pc := 15) (cs := (1, 40)) X hA zh3 dX4_init_15 ac_int (Or.inr (Or.inl ⟨rfl, rfl⟩)) (N := 40) (by decide) (by decide) (by decide) (Nat.le_of_ble_eq_true rfl) (Nat.le_of_ble_eq_true rfl) ea4 eh5 ?_
  have zh5 : (hsh h5).length = (hsh h).length + 2 := nw_len eh5 zh3
  obtain ⟨h6, eh6, hf⟩ := ob hf
  refine r_putRF (pc := 17) (cs := (2, 80)) X hin dX4_init_17 ff_X4_15 (fun _ => ⟨rfl, rfl⟩) rfl eh6 ?_
  have zh6 : (hsh h6).length = (hsh h).length + 2 := by rw [pR_sh eh6]; exact zh5
  refine r_aload_n (pc := 20) (cs := (2, 80)) X dX4_init_20 rfl ?_
  obtain ⟨u7, eu7, hf⟩ := ob hf
  obtain ⟨h8, eh8, hf⟩ := ob hf
  refine r_callVV (pc := 21) (cs := (2, 80)) X [] dX4_init_21 ml_X4_18 vo_X4_becomesNone ⟨(Nat.le_of_ble_eq_true rfl), (Nat.le_of_ble_eq_true rfl)⟩ eu7 (ev_X4_becomesNone (d := d - 1) (Nat.le_trans (by decide) hdm) _ _ _ eh8) hd1 rfl (Nat.le_of_ble_eq_true rfl) rfl ?_
  have zh8 : (hsh h8).length = (hsh h).length + 2 := by rw [becomesNone_sh eh8]; exact zh6
  obtain rfl := Option.some.inj hf
  exact r_vretA (pc := 24) X hA zh8 dX4_init_24 hk

theorem dX5_init_0 : decode cX5_init 0 = .ok (.aload_n 0, 1) := by decide +kernel
theorem dX5_init_1 : decode cX5_init 1 = .ok (.invokespecial 3, 3) := by decide +kernel
theorem dX5_init_4 : decode cX5_init 4 = .ok (.aload_n 0, 1) := by decide +kernel
theorem dX5_init_5 : decode cX5_init 5 = .ok (.aload_n 1, 1) := by decide +kernel
theorem dX5_init_6 : decode cX5_init 6 = .ok (.putfield 9, 3) := by decide +kernel
theorem dX5_init_9 : decode cX5_init 9 = .ok (.aload_n 0, 1) := by decide +kernel
theorem dX5_init_10 : decode cX5_init 10 = .ok (.bipush 40, 2) := by decide +kernel
theorem dX5_init_12 : decode cX5_init 12 = .ok (.newarray .int, 2) := by decide +kernel
theorem dX5_init_14 : decode cX5_init 14 = .ok (.putfield 15, 3) := by decide +kernel
theorem dX5_init_17 : decode cX5_init 17 = .ok (.return_, 1) := by decide +kernel
def fn_X5_init (h : aH) (p0 : Nat) (p1 : Nat) : Option aH :=
  (pR h p0 4 0 p1).bind fun h1 =>
  (some (hsh h1).length).bind fun a2 =>
  (some (nw h1 (14, 40))).bind fun h3 =>
  (pR h3 p0 4 1 a2).bind fun h4 =>
  some h4
set_option maxRecDepth 20000 in
set_option maxHeartbeats 4000000 in
theorem ln_X5_init (h : aH) (p0 : Nat) (p1 : Nat) (o : aH) (hf : fn_X5_init h p0 p1 = some o) : (hsh o).length = (hsh h).length + 1 := by
  unfold fn_X5_init at hf
  have zh : (hsh h).length = (hsh h).length + 0 := rfl
  obtain ⟨h1, eh1, hf⟩ := ob hf
  have zh1 : (hsh h1).length = (hsh h).length + 0 := by rw [pR_sh eh1]; exact zh
  obtain ⟨a2, ea2, hf⟩ := ob hf
  obtain ⟨h3, eh3, hf⟩ := ob hf
  have zh3 : (hsh h3).length = (hsh h).length + 1 := nw_len eh3 zh1
  obtain ⟨h4, eh4, hf⟩ := ob hf
  have zh4 : (hsh h4).length = (hsh h).length + 1 := by rw [pR_sh eh4]; exact zh3
  obtain rfl := Option.some.inj hf
  exact zh4
set_option maxRecDepth 20000 in
set_option maxHeartbeats 4000000 in
theorem evA_X5_init {l : Launch} {g : aG} {d : Nat} (hd : 1 ≤ d) (h : aH) (p0 : Nat) (p1 : Nat) (o : aH) (hf : fn_X5_init h p0 p1 = some o) : EvA l g d yX5_init cX5_init 2 [.ref p0, .ref p1] h o 1 40 := by
  refine EvA.of mk_X5_init rfl (Nat.le_of_ble_eq_true rfl) ?_
  intro Γ hl hg hk hin hA X
  have hd1 : 1 ≤ d := by omega
  have hdm : 0 ≤ d - 1 := by omega
  unfold fn_X5_init at hf
  have zh : (hsh h).length = (hsh h).length + 0 := rfl
  show Jd Γ (0, 0) 0 [some (.ref p0), some (.ref p1)] [] h
  refine r_aload_n (pc := 0) (cs := (0, 0)) X dX5_init_0 rfl ?_
  refine r_objInit (pc := 1) (cs := (0, 0)) X dX5_init_1 oi_X5_3 oi_inst oi_code hd1 (Nat.le_of_ble_eq_true rfl) ?_
  refine r_aload_n (pc := 4) (cs := (0, 0)) X dX5_init_4 rfl ?_
  refine r_aload_n (pc := 5) (cs := (0, 0)) X dX5_init_5 rfl ?_
  obtain ⟨h1, eh1, hf⟩ := ob hf
  refine r_putRF (pc := 6) (cs := (0, 0)) X hin dX5_init_6 ff_X5_9 (fun _ => ⟨rfl, rfl⟩) rfl eh1 ?_
  have zh1 : (hsh h1).length = (hsh h).length + 0 := by rw [pR_sh eh1]; exact zh
  refine r_aload_n (pc := 9) (cs := (0, 0)) X dX5_init_9 rfl ?_
  refine r_bipush (pc := 10) (cs := (0, 0)) X 40 dX5_init_10 (by decide) ?_
  obtain ⟨a2, ea2, hf⟩ := ob hf
  obtain ⟨h3, eh3, hf⟩ := ob hf
  refine r_newa (pc := 12) (cs := (0, 0)) X hA zh1 dX5_init_12 ac_int (Or.inr (Or.inl ⟨rfl, rfl⟩)) (N := 40) (by decide) (by decide) (by decide) (Nat.le_of_ble_eq_true rfl) (Nat.le_of_ble_eq_true rfl) ea2 eh3 ?_
  have zh3 : (hsh h3).length = (hsh h).length + 1 := nw_len eh3 zh1
  obtain ⟨h4, eh4, hf⟩ := ob hf
  refine r_putRF (pc := 14) (cs := (1, 40)) X hin dX5_init_14 ff_X5_15 (fun _ => ⟨rfl, rfl⟩) rfl eh4 ?_
  have zh4 : (hsh h4).length = (hsh h).length + 1 := by rw [pR_sh eh4]; exact zh3
  obtain rfl := Option.some.inj hf
  exact r_vretA (pc := 17) X hA zh4 dX5_init_17 hk

theorem dX6_init_0 : decode cX6_init 0 = .ok (.aload_n 0, 1) := by decide +kernel
theorem dX6_init_1 : decode cX6_init 1 = .ok (.invokespecial 3, 3) := by decide +kernel
theorem dX6_init_4 : decode cX6_init 4 = .ok (.aload_n 0, 1) := by decide +kernel
theorem dX6_init_5 : decode cX6_init 5 = .ok (.bipush 10, 2) := by decide +kernel
theorem dX6_init_7 : decode cX6_init 7 = .ok (.newarray .int, 2) := by decide +kernel
theorem dX6_init_9 : decode cX6_init 9 = .ok (.putfield 11, 3) := by decide +kernel
theorem dX6_init_12 : decode cX6_init 12 = .ok (.aload_n 0, 1) := by decide +kernel
theorem dX6_init_13 : decode cX6_init 13 = .ok (.bipush 10, 2) := by decide +kernel
theorem dX6_init_15 : decode cX6_init 15 = .ok (.newarray .int, 2) := by decide +kernel
theorem dX6_init_17 : decode cX6_init 17 = .ok (.putfield 15, 3) := by decide +kernel
theorem dX6_init_20 : decode cX6_init 20 = .ok (.aload_n 0, 1) := by decide +kernel
theorem dX6_init_21 : decode cX6_init 21 = .ok (.bipush 10, 2) := by decide +kernel
theorem dX6_init_23 : decode cX6_init 23 = .ok (.newarray .int, 2) := by decide +kernel
theorem dX6_init_25 : decode cX6_init 25 = .ok (.putfield 18, 3) := by decide +kernel
theorem dX6_init_28 : decode cX6_init 28 = .ok (.return_, 1) := by decide +kernel
def fn_X6_init (h : aH) (p0 : Nat) : Option aH :=
  (some (hsh h).length).bind fun a1 =>
  (some (nw h (14, 10))).bind fun h2 =>
  (pR h2 p0 5 0 a1).bind fun h3 =>
  (some (hsh h3).length).bind fun a4 =>
  (some (nw h3 (14, 10))).bind fun h5 =>
  (pR h5 p0 5 1 a4).bind fun h6 =>
  (some (hsh h6).length).bind fun a7 =>
  (some (nw h6 (14, 10))).bind fun h8 =>
  (pR h8 p0 5 2 a7).bind fun h9 =>
  some h9
set_option maxRecDepth 20000 in
set_option maxHeartbeats 4000000 in
theorem ln_X6_init (h : aH) (p0 : Nat) (o : aH) (hf : fn_X6_init h p0 = some o) : (hsh o).length = (hsh h).length + 3 := by
  unfold fn_X6_init at hf
  have zh : (hsh h).length = (hsh h).length + 0 := rfl
  obtain ⟨a1, ea1, hf⟩ := ob hf
  obtain ⟨h2, eh2, hf⟩ := ob hf
  have zh2 : (hsh h2).length = (hsh h).length + 1 := nw_len eh2 zh
  obtain ⟨h3, eh3, hf⟩ := ob hf
  have zh3 : (hsh h3).length = (hsh h).length + 1 := by rw [pR_sh eh3]; exact zh2
  obtain ⟨a4, ea4, hf⟩ := ob hf
  obtain ⟨h5, eh5, hf⟩ := ob hf
  have zh5 : (hsh h5).length = (hsh h).length + 2 := nw_len eh5 zh3
  obtain ⟨h6, eh6, hf⟩ := ob hf
  have zh6 : (hsh h6).length = (hsh h).length + 2 := by rw [pR_sh eh6]; exact zh5
  obtain ⟨a7, ea7, hf⟩ := ob hf
  obtain ⟨h8, eh8, hf⟩ := ob hf
  have zh8 : (hsh h8).length = (hsh h).length + 3 := nw_len eh8 zh6
  obtain ⟨h9, eh9, hf⟩ := ob hf
  have zh9 : (hsh h9).length = (hsh h).length + 3 := by rw [pR_sh eh9]; exact zh8
  obtain rfl := Option.some.inj hf
  exact zh9
set_option maxRecDepth 20000 in
set_option maxHeartbeats 4000000 in
theorem evA_X6_init {l : Launch} {g : aG} {d : Nat} (hd : 1 ≤ d) (h : aH) (p0 : Nat) (o : aH) (hf : fn_X6_init h p0 = some o) : EvA l g d yX6_init cX6_init 1 [.ref p0] h o 3 30 := by
  refine EvA.of mk_X6_init rfl (Nat.le_of_ble_eq_true rfl) ?_
  intro Γ hl hg hk hin hA X
  have hd1 : 1 ≤ d := by omega
  have hdm : 0 ≤ d - 1 := by omega
  unfold fn_X6_init at hf
  have zh : (hsh h).length = (hsh h).length + 0 := rfl
  show Jd Γ (0, 0) 0 [some (.ref p0)] [] h
  refine r_aload_n (pc := 0) (cs := (0, 0)) X dX6_init_0 rfl ?_
  refine r_objInit (pc := 1) (cs := (0, 0)) X dX6_init_1 oi_X6_3 oi_inst oi_code hd1 (Nat.le_of_ble_eq_true rfl) ?_
  refine r_aload_n (pc := 4) (cs := (0, 0)) X dX6_init_4 rfl ?_
  refine r_bipush (pc := 5) (cs := (0, 0)) X 10 dX6_init_5 (by decide) ?_
  obtain ⟨a1, ea1, hf⟩ := ob hf
  obtain ⟨h2, eh2, hf⟩ := ob hf
  refine r_newa (pc := 7) (cs := (0, 0)) X hA zh dX6_init_7 ac_int (Or.inr (Or.inl ⟨rfl, rfl⟩)) (N := 10) (by decide) (by decide) (by decide) (Nat.le_of_ble_eq_true rfl) (Nat.le_of_ble_eq_true rfl) ea1 eh2 ?_
  have zh2 : (hsh h2).length = (hsh h).length + 1 := nw_len eh2 zh
  obtain ⟨h3, eh3, hf⟩ := ob hf
  refine r_putRF (pc := 9) (cs := (1, 10)) X hin dX6_init_9 ff_X6_11 (fun _ => ⟨rfl, rfl⟩) rfl eh3 ?_
  have zh3 : (hsh h3).length = (hsh h).length + 1 := by rw [pR_sh eh3]; exact zh2
  refine r_aload_n (pc := 12) (cs := (1, 10)) X dX6_init_12 rfl ?_
  refine r_bipush (pc := 13) (cs := (1, 10)) X 10 dX6_init_13 (by decide) ?_
  obtain ⟨a4, ea4, hf⟩ := ob hf
  obtain ⟨h5, eh5, hf⟩ := ob hf
  refine r_newa (pc := 15) (cs := (1, 10)) X hA zh3 dX6_init_15 ac_int (Or.inr (Or.inl ⟨rfl, rfl⟩)) (N := 10) (by decide) (by decide) (by decide) (Nat.le_of_ble_eq_true rfl) (Nat.le_of_ble_eq_true rfl) ea4 eh5 ?_
  have zh5 : (hsh h5).length = (hsh h).length + 2 := nw_len eh5 zh3
  obtain ⟨h6, eh6, hf⟩ := ob hf
  refine r_putRF (pc := 17) (cs := (2, 20)) X hin dX6_init_17 ff_X6_15 (fun _ => ⟨rfl, rfl⟩) rfl eh6 ?_
  have zh6 : (hsh h6).length = (hsh h).length + 2 := by rw [pR_sh eh6]; exact zh5
  refine r_aload_n (pc := 20) (cs := (2, 20)) X dX6_init_20 rfl ?_
  refine r_bipush (pc := 21) (cs := (2, 20)) X 10 dX6_init_21 (by decide) ?_
  obtain ⟨a7, ea7, hf⟩ := ob hf
  obtain ⟨h8, eh8, hf⟩ := ob hf
  refine r_newa (pc := 23) (cs := (2, 20)) X hA zh6 dX6_init_23 ac_int (Or.inr (Or.inl ⟨rfl, rfl⟩)) (N := 10) (by decide) (by decide) (by decide) (Nat.le_of_ble_eq_true rfl) (Nat.le_of_ble_eq_true rfl) ea7 eh8 ?_
  have zh8 : (hsh h8).length = (hsh h).length + 3 := nw_len eh8 zh6
  obtain ⟨h9, eh9, hf⟩ := ob hf
  refine r_putRF (pc := 25) (cs := (3, 30)) X hin dX6_init_25 ff_X6_18 (fun _ => ⟨rfl, rfl⟩) rfl eh9 ?_
  have zh9 : (hsh h9).length = (hsh h).length + 3 := by rw [pR_sh eh9]; exact zh8
  obtain rfl := Option.some.inj hf
  exact r_vretA (pc := 28) X hA zh9 dX6_init_28 hk

theorem dX8_init_0 : decode cX8_init 0 = .ok (.aload_n 0, 1) := by decide +kernel
theorem dX8_init_1 : decode cX8_init 1 = .ok (.invokespecial 3, 3) := by decide +kernel
theorem dX8_init_4 : decode cX8_init 4 = .ok (.aload_n 0, 1) := by decide +kernel
theorem dX8_init_5 : decode cX8_init 5 = .ok (.bipush 80, 2) := by decide +kernel
theorem dX8_init_7 : decode cX8_init 7 = .ok (.newarray .char, 2) := by decide +kernel
theorem dX8_init_9 : decode cX8_init 9 = .ok (.putfield 9, 3) := by decide +kernel
theorem dX8_init_12 : decode cX8_init 12 = .ok (.return_, 1) := by decide +kernel
def fn_X8_init (h : aH) (p0 : Nat) : Option aH :=
  (some (hsh h).length).bind fun a1 =>
  (some (nw h (13, 80))).bind fun h2 =>
  (pR h2 p0 7 0 a1).bind fun h3 =>
  some h3
set_option maxRecDepth 20000 in
set_option maxHeartbeats 4000000 in
theorem ln_X8_init (h : aH) (p0 : Nat) (o : aH) (hf : fn_X8_init h p0 = some o) : (hsh o).length = (hsh h).length + 1 := by
  unfold fn_X8_init at hf
  have zh : (hsh h).length = (hsh h).length + 0 := rfl
  obtain ⟨a1, ea1, hf⟩ := ob hf
  obtain ⟨h2, eh2, hf⟩ := ob hf
  have zh2 : (hsh h2).length = (hsh h).length + 1 := nw_len eh2 zh
  obtain ⟨h3, eh3, hf⟩ := ob hf
  have zh3 : (hsh h3).length = (hsh h).length + 1 := by rw [pR_sh eh3]; exact zh2
  obtain rfl := Option.some.inj hf
  exact zh3
set_option maxRecDepth 20000 in
set_option maxHeartbeats 4000000 in
theorem evA_X8_init {l : Launch} {g : aG} {d : Nat} (hd : 1 ≤ d) (h : aH) (p0 : Nat) (o : aH) (hf : fn_X8_init h p0 = some o) : EvA l g d yX8_init cX8_init 1 [.ref p0] h o 1 80 := by
  refine EvA.of mk_X8_init rfl (Nat.le_of_ble_eq_true rfl) ?_
  intro Γ hl hg hk hin hA X
  have hd1 : 1 ≤ d := by omega
  have hdm : 0 ≤ d - 1 := by omega
  unfold fn_X8_init at hf
  have zh : (hsh h).length = (hsh h).length + 0 := rfl
  show Jd Γ (0, 0) 0 [some (.ref p0)] [] h
  refine r_aload_n (pc := 0) (cs := (0, 0)) X dX8_init_0 rfl ?_
  refine r_objInit (pc := 1) (cs := (0, 0)) X dX8_init_1 oi_X8_3 oi_inst oi_code hd1 (Nat.le_of_ble_eq_true rfl) ?_
  refine r_aload_n (pc := 4) (cs := (0, 0)) X dX8_init_4 rfl ?_
  refine r_bipush (pc := 5) (cs := (0, 0)) X 80 dX8_init_5 (by decide) ?_
  obtain ⟨a1, ea1, hf⟩ := ob hf
  obtain ⟨h2, eh2, hf⟩ := ob hf
  refine r_newa (pc := 7) (cs := (0, 0)) X hA zh dX8_init_7 ac_char (Or.inr (Or.inr (Or.inr (Or.inl ⟨rfl, rfl⟩)))) (N := 80) (by decide) (by decide) (by decide) (Nat.le_of_ble_eq_true rfl) (Nat.le_of_ble_eq_true rfl) ea1 eh2 ?_
  have zh2 : (hsh h2).length = (hsh h).length + 1 := nw_len eh2 zh
  obtain ⟨h3, eh3, hf⟩ := ob hf
  refine r_putRF (pc := 9) (cs := (1, 80)) X hin dX8_init_9 ff_X8_9 (fun _ => ⟨rfl, rfl⟩) rfl eh3 ?_
  have zh3 : (hsh h3).length = (hsh h).length + 1 := by rw [pR_sh eh3]; exact zh2
  obtain rfl := Option.some.inj hf
  exact r_vretA (pc := 12) X hA zh3 dX8_init_12 hk

theorem dX9_init_0 : decode cX9_init 0 = .ok (.aload_n 0, 1) := by decide +kernel
theorem dX9_init_1 : decode cX9_init 1 = .ok (.invokespecial 1, 3) := by decide +kernel
theorem dX9_init_4 : decode cX9_init 4 = .ok (.aload_n 0, 1) := by decide +kernel
theorem dX9_init_5 : decode cX9_init 5 = .ok (.bipush 6, 2) := by decide +kernel
theorem dX9_init_7 : decode cX9_init 7 = .ok (.newarray .int, 2) := by decide +kernel
theorem dX9_init_9 : decode cX9_init 9 = .ok (.putfield 9, 3) := by decide +kernel
theorem dX9_init_12 : decode cX9_init 12 = .ok (.aload_n 0, 1) := by decide +kernel
theorem dX9_init_13 : decode cX9_init 13 = .ok (.bipush 6, 2) := by decide +kernel
theorem dX9_init_15 : decode cX9_init 15 = .ok (.newarray .int, 2) := by decide +kernel
theorem dX9_init_17 : decode cX9_init 17 = .ok (.putfield 13, 3) := by decide +kernel
theorem dX9_init_20 : decode cX9_init 20 = .ok (.return_, 1) := by decide +kernel
def fn_X9_init (h : aH) (p0 : Nat) : Option aH :=
  (some (hsh h).length).bind fun a1 =>
  (some (nw h (14, 6))).bind fun h2 =>
  (pR h2 p0 8 0 a1).bind fun h3 =>
  (some (hsh h3).length).bind fun a4 =>
  (some (nw h3 (14, 6))).bind fun h5 =>
  (pR h5 p0 8 1 a4).bind fun h6 =>
  some h6
set_option maxRecDepth 20000 in
set_option maxHeartbeats 4000000 in
theorem ln_X9_init (h : aH) (p0 : Nat) (o : aH) (hf : fn_X9_init h p0 = some o) : (hsh o).length = (hsh h).length + 2 := by
  unfold fn_X9_init at hf
  have zh : (hsh h).length = (hsh h).length + 0 := rfl
  obtain ⟨a1, ea1, hf⟩ := ob hf
  obtain ⟨h2, eh2, hf⟩ := ob hf
  have zh2 : (hsh h2).length = (hsh h).length + 1 := nw_len eh2 zh
  obtain ⟨h3, eh3, hf⟩ := ob hf
  have zh3 : (hsh h3).length = (hsh h).length + 1 := by rw [pR_sh eh3]; exact zh2
  obtain ⟨a4, ea4, hf⟩ := ob hf
  obtain ⟨h5, eh5, hf⟩ := ob hf
  have zh5 : (hsh h5).length = (hsh h).length + 2 := nw_len eh5 zh3
  obtain ⟨h6, eh6, hf⟩ := ob hf
  have zh6 : (hsh h6).length = (hsh h).length + 2 := by rw [pR_sh eh6]; exact zh5
  obtain rfl := Option.some.inj hf
  exact zh6
set_option maxRecDepth 20000 in
set_option maxHeartbeats 4000000 in
theorem evA_X9_init {l : Launch} {g : aG} {d : Nat} (hd : 1 ≤ d) (h : aH) (p0 : Nat) (o : aH) (hf : fn_X9_init h p0 = some o) : EvA l g d yX9_init cX9_init 1 [.ref p0] h o 2 12 := by
  refine EvA.of mk_X9_init rfl (Nat.le_of_ble_eq_true rfl) ?_
  intro Γ hl hg hk hin hA X
  have hd1 : 1 ≤ d := by omega
  have hdm : 0 ≤ d - 1 := by omega
  unfold fn_X9_init at hf
  have zh : (hsh h).length = (hsh h).length + 0 := rfl
  show Jd Γ (0, 0) 0 [some (.ref p0)] [] h
  refine r_aload_n (pc := 0) (cs := (0, 0)) X dX9_init_0 rfl ?_
  refine r_objInit (pc := 1) (cs := (0, 0)) X dX9_init_1 oi_X9_1 oi_inst oi_code hd1 (Nat.le_of_ble_eq_true rfl) ?_
  refine r_aload_n (pc := 4) (cs := (0, 0)) X dX9_init_4 rfl ?_
  refine r_bipush (pc := 5) (cs := (0, 0)) X 6 dX9_init_5 (by decide) ?_
  obtain ⟨a1, ea1, hf⟩ := ob hf
  obtain ⟨h2, eh2, hf⟩ := ob hf
  refine r_newa (pc := 7) (cs := (0, 0)) X hA zh dX9_init_7 ac_int (Or.inr (Or.inl ⟨rfl, rfl⟩)) (N := 6) (by decide) (by decide) (by decide) (Nat.le_of_ble_eq_true rfl) (Nat.le_of_ble_eq_true rfl) ea1 eh2 ?_
  have zh2 : (hsh h2).length = (hsh h).length + 1 := nw_len eh2 zh
  obtain ⟨h3, eh3, hf⟩ := ob hf
  refine r_putRF (pc := 9) (cs := (1, 6)) X hin dX9_init_9 ff_X9_9 (fun _ => ⟨rfl, rfl⟩) rfl eh3 ?_
  have zh3 : (hsh h3).length = (hsh h).length + 1 := by rw [pR_sh eh3]; exact zh2
  refine r_aload_n (pc := 12) (cs := (1, 6)) X dX9_init_12 rfl ?_
  refine r_bipush (pc := 13) (cs := (1, 6)) X 6 dX9_init_13 (by decide) ?_
  obtain ⟨a4, ea4, hf⟩ := ob hf
  obtain ⟨h5, eh5, hf⟩ := ob hf
  refine r_newa (pc := 15) (cs := (1, 6)) X hA zh3 dX9_init_15 ac_int (Or.inr (Or.inl ⟨rfl, rfl⟩)) (N := 6) (by decide) (by decide) (by decide) (Nat.le_of_ble_eq_true rfl) (Nat.le_of_ble_eq_true rfl) ea4 eh5 ?_
  have zh5 : (hsh h5).length = (hsh h).length + 2 := nw_len eh5 zh3
  obtain ⟨h6, eh6, hf⟩ := ob hf
  refine r_putRF (pc := 17) (cs := (2, 12)) X hin dX9_init_17 ff_X9_13 (fun _ => ⟨rfl, rfl⟩) rfl eh6 ?_
  have zh6 : (hsh h6).length = (hsh h).length + 2 := by rw [pR_sh eh6]; exact zh5
  obtain rfl := Option.some.inj hf
  exact r_vretA (pc := 20) X hA zh6 dX9_init_20 hk

theorem dX10_init_0 : decode cX10_init 0 = .ok (.aload_n 0, 1) := by decide +kernel
theorem dX10_init_1 : decode cX10_init 1 = .ok (.invokespecial 3, 3) := by decide +kernel
theorem dX10_init_4 : decode cX10_init 4 = .ok (.aload_n 0, 1) := by decide +kernel
theorem dX10_init_5 : decode cX10_init 5 = .ok (.aload_n 1, 1) := by decide +kernel
theorem dX10_init_6 : decode cX10_init 6 = .ok (.putfield 9, 3) := by decide +kernel
theorem dX10_init_9 : decode cX10_init 9 = .ok (.aload_n 0, 1) := by decide +kernel
theorem dX10_init_10 : decode cX10_init 10 = .ok (.bipush 6, 2) := by decide +kernel
theorem dX10_init_12 : decode cX10_init 12 = .ok (.newarray .int, 2) := by decide +kernel
theorem dX10_init_14 : decode cX10_init 14 = .ok (.putfield 15, 3) := by decide +kernel
theorem dX10_init_17 : decode cX10_init 17 = .ok (.return_, 1) := by decide +kernel
def fn_X10_init (h : aH) (p0 : Nat) (p1 : Nat) : Option aH :=
  (pR h p0 9 0 p1).bind fun h1 =>
  (some (hsh h1).length).bind fun a2 =>
  (some (nw h1 (14, 6))).bind fun h3 =>
  (pR h3 p0 9 1 a2).bind fun h4 =>
  some h4
set_option maxRecDepth 20000 in
set_option maxHeartbeats 4000000 in
theorem ln_X10_init (h : aH) (p0 : Nat) (p1 : Nat) (o : aH) (hf : fn_X10_init h p0 p1 = some o) : (hsh o).length = (hsh h).length + 1 := by
  unfold fn_X10_init at hf
  have zh : (hsh h).length = (hsh h).length + 0 := rfl
  obtain ⟨h1, eh1, hf⟩ := ob hf
  have zh1 : (hsh h1).length = (hsh h).length + 0 := by rw [pR_sh eh1]; exact zh
  obtain ⟨a2, ea2, hf⟩ := ob hf
  obtain ⟨h3, eh3, hf⟩ := ob hf
  have zh3 : (hsh h3).length = (hsh h).length + 1 := nw_len eh3 zh1
  obtain ⟨h4, eh4, hf⟩ := ob hf
  have zh4 : (hsh h4).length = (hsh h).length + 1 := by rw [pR_sh eh4]; exact zh3
  obtain rfl := Option.some.inj hf
  exact zh4
set_option maxRecDepth 20000 in
set_option maxHeartbeats 4000000 in
theorem evA_X10_init {l : Launch} {g : aG} {d : Nat} (hd : 1 ≤ d) (h : aH) (p0 : Nat) (p1 : Nat) (o : aH) (hf : fn_X10_init h p0 p1 = some o) : EvA l g d yX10_init cX10_init 2 [.ref p0, .ref p1] h o 1 6 := by
  refine EvA.of mk_X10_init rfl (Nat.le_of_ble_eq_true rfl) ?_
  intro Γ hl hg hk hin hA X
  have hd1 : 1 ≤ d := by omega
  have hdm : 0 ≤ d - 1 := by omega
  unfold fn_X10_init at hf
  have zh : (hsh h).length = (hsh h).length + 0 := rfl
  show Jd Γ (0, 0) 0 [some (.ref p0), some (.ref p1)] [] h
  refine r_aload_n (pc := 0) (cs := (0, 0)) X dX10_init_0 rfl ?_
  refine r_objInit (pc := 1) (cs := (0, 0)) X dX10_init_1 oi_X10_3 oi_inst oi_code hd1 (Nat.le_of_ble_eq_true rfl) ?_
  refine r_aload_n (pc := 4) (cs := (0, 0)) X dX10_init_4 rfl ?_
  refine r_aload_n (pc := 5) (cs := (0, 0)) X dX10_init_5 rfl ?_
  obtain ⟨h1, eh1, hf⟩ := ob hf
  refine r_putRF (pc := 6) (cs := (0, 0)) X hin dX10_init_6 ff_X10_9 (fun _ => ⟨rfl, rfl⟩) rfl eh1 ?_
  have zh1 : (hsh h1).length = (hsh h).length + 0 := by rw [pR_sh eh1]; exact zh
  refine r_aload_n (pc := 9) (cs := (0, 0)) X dX10_init_9 rfl ?_
  refine r_bipush (pc := 10) (cs := (0, 0)) X 6 dX10_init_10 (by decide) ?_
  obtain ⟨a2, ea2, hf⟩ := ob hf
  obtain ⟨h3, eh3, hf⟩ := ob hf
  refine r_newa (pc := 12) (cs := (0, 0)) X hA zh1 dX10_init_12 ac_int (Or.inr (Or.inl ⟨rfl, rfl⟩)) (N := 6) (by decide) (by decide) (by decide) (Nat.le_of_ble_eq_true rfl) (Nat.le_of_ble_eq_true rfl) ea2 eh3 ?_
  have zh3 : (hsh h3).length = (hsh h).length + 1 := nw_len eh3 zh1
  obtain ⟨h4, eh4, hf⟩ := ob hf
  refine r_putRF (pc := 14) (cs := (1, 6)) X hin dX10_init_14 ff_X10_15 (fun _ => ⟨rfl, rfl⟩) rfl eh4 ?_
  have zh4 : (hsh h4).length = (hsh h).length + 1 := by rw [pR_sh eh4]; exact zh3
  obtain rfl := Option.some.inj hf
  exact r_vretA (pc := 17) X hA zh4 dX10_init_17 hk

theorem dX2_init_0 : decode cX2_init 0 = .ok (.aload_n 0, 1) := by decide +kernel
theorem dX2_init_1 : decode cX2_init 1 = .ok (.invokespecial 3, 3) := by decide +kernel
theorem dX2_init_4 : decode cX2_init 4 = .ok (.aload_n 0, 1) := by decide +kernel
theorem dX2_init_5 : decode cX2_init 5 = .ok (.bipush 12, 2) := by decide +kernel
theorem dX2_init_7 : decode cX2_init 7 = .ok (.anewarray 11, 3) := by decide +kernel
theorem dX2_init_10 : decode cX2_init 10 = .ok (.putfield 13, 3) := by decide +kernel
theorem dX2_init_13 : decode cX2_init 13 = .ok (.iconst 0, 1) := by decide +kernel
theorem dX2_init_14 : decode cX2_init 14 = .ok (.istore_n 1, 1) := by decide +kernel
theorem dX2_init_15 : decode cX2_init 15 = .ok (.iload_n 1, 1) := by decide +kernel
theorem dX2_init_16 : decode cX2_init 16 = .ok (.bipush 12, 2) := by decide +kernel
theorem dX2_init_18 : decode cX2_init 18 = .ok (.if_icmp .ge 22, 3) := by decide +kernel
theorem dX2_init_21 : decode cX2_init 21 = .ok (.aload_n 0, 1) := by decide +kernel
theorem dX2_init_22 : decode cX2_init 22 = .ok (.getfield 13, 3) := by decide +kernel
theorem dX2_init_25 : decode cX2_init 25 = .ok (.iload_n 1, 1) := by decide +kernel
theorem dX2_init_26 : decode cX2_init 26 = .ok (.new 11, 3) := by decide +kernel
theorem dX2_init_29 : decode cX2_init 29 = .ok (.dup, 1) := by decide +kernel
theorem dX2_init_30 : decode cX2_init 30 = .ok (.invokespecial 17, 3) := by decide +kernel
theorem dX2_init_33 : decode cX2_init 33 = .ok (.aastore, 1) := by decide +kernel
theorem dX2_init_34 : decode cX2_init 34 = .ok (.iinc 1 1, 3) := by decide +kernel
theorem dX2_init_37 : decode cX2_init 37 = .ok (.goto (-22), 3) := by decide +kernel
theorem dX2_init_40 : decode cX2_init 40 = .ok (.aload_n 0, 1) := by decide +kernel
theorem dX2_init_41 : decode cX2_init 41 = .ok (.iconst 2, 1) := by decide +kernel
theorem dX2_init_42 : decode cX2_init 42 = .ok (.anewarray 11, 3) := by decide +kernel
theorem dX2_init_45 : decode cX2_init 45 = .ok (.putfield 18, 3) := by decide +kernel
theorem dX2_init_48 : decode cX2_init 48 = .ok (.iconst 0, 1) := by decide +kernel
theorem dX2_init_49 : decode cX2_init 49 = .ok (.istore_n 1, 1) := by decide +kernel
theorem dX2_init_50 : decode cX2_init 50 = .ok (.iload_n 1, 1) := by decide +kernel
theorem dX2_init_51 : decode cX2_init 51 = .ok (.iconst 2, 1) := by decide +kernel
theorem dX2_init_52 : decode cX2_init 52 = .ok (.if_icmp .ge 22, 3) := by decide +kernel
theorem dX2_init_55 : decode cX2_init 55 = .ok (.aload_n 0, 1) := by decide +kernel
theorem dX2_init_56 : decode cX2_init 56 = .ok (.getfield 18, 3) := by decide +kernel
theorem dX2_init_59 : decode cX2_init 59 = .ok (.iload_n 1, 1) := by decide +kernel
theorem dX2_init_60 : decode cX2_init 60 = .ok (.new 11, 3) := by decide +kernel
theorem dX2_init_63 : decode cX2_init 63 = .ok (.dup, 1) := by decide +kernel
theorem dX2_init_64 : decode cX2_init 64 = .ok (.invokespecial 17, 3) := by decide +kernel
theorem dX2_init_67 : decode cX2_init 67 = .ok (.aastore, 1) := by decide +kernel
theorem dX2_init_68 : decode cX2_init 68 = .ok (.iinc 1 1, 3) := by decide +kernel
theorem dX2_init_71 : decode cX2_init 71 = .ok (.goto (-21), 3) := by decide +kernel
theorem dX2_init_74 : decode cX2_init 74 = .ok (.aload_n 0, 1) := by decide +kernel
theorem dX2_init_75 : decode cX2_init 75 = .ok (.iconst 2, 1) := by decide +kernel
theorem dX2_init_76 : decode cX2_init 76 = .ok (.newarray .boolean, 2) := by decide +kernel
theorem dX2_init_78 : decode cX2_init 78 = .ok (.putfield 21, 3) := by decide +kernel
theorem dX2_init_81 : decode cX2_init 81 = .ok (.return_, 1) := by decide +kernel
def fn_X2_init (h : aH) (p0 : Nat) : Option aH :=
  (some (hsh h).length).bind fun a1 =>
  (some (nw h (17, 12))).bind fun h2 =>
  (pR h2 p0 1 0 a1).bind fun h3 =>
  (gR h3 p0 1 0).bind fun a4 =>
  (some (hsh h3).length).bind fun a5 =>
  (some (nw h3 (6, 0))).bind fun h6 =>
  (fn_X7_init h6 a5).bind fun h7 =>
  (wR h7 a4 0 a5).bind fun h8 =>
  (gR h8 p0 1 0).bind fun a9 =>
  (some (hsh h8).length).bind fun a10 =>
  (some (nw h8 (6, 0))).bind fun h11 =>
  (fn_X7_init h11 a10).bind fun h12 =>
  (wR h12 a9 1 a10).bind fun h13 =>
  (gR h13 p0 1 0).bind fun a14 =>
  (some (hsh h13).length).bind fun a15 =>
  (some (nw h13 (6, 0))).bind fun h16 =>
  (fn_X7_init h16 a15).bind fun h17 =>
  (wR h17 a14 2 a15).bind fun h18 =>
  (gR h18 p0 1 0).bind fun a19 =>
  (some (hsh h18).length).bind fun a20 =>
  (some (nw h18 (6, 0))).bind fun h21 =>
  (fn_X7_init h21 a20).bind fun h22 =>
  (wR h22 a19 3 a20).bind fun h23 =>
  (gR h23 p0 1 0).bind fun a24 =>
  (some (hsh h23).length).bind fun a25 =>
  (some (nw h23 (6, 0))).bind fun h26 =>
  (fn_X7_init h26 a25).bind fun h27 =>
  (wR h27 a24 4 a25).bind fun h28 =>
  (gR h28 p0 1 0).bind fun a29 =>
  (some (hsh h28).length).bind fun a30 =>
  (some (nw h28 (6, 0))).bind fun h31 =>
  (fn_X7_init h31 a30).bind fun h32 =>
  (wR h32 a29 5 a30).bind fun h33 =>
  (gR h33 p0 1 0).bind fun a34 =>
  (some (hsh h33).length).bind fun a35 =>
  (some (nw h33 (6, 0))).bind fun h36 =>
  (fn_X7_init h36 a35).bind fun h37 =>
  (wR h37 a34 6 a35).bind fun h38 =>
  (gR h38 p0 1 0).bind fun a39 =>
  (some (hsh h38).length).bind fun a40 =>
  (some (nw h38 (6, 0))).bind fun h41 =>
  (fn_X7_init h41 a40).bind fun h42 =>
  (wR h42 a39 7 a40).bind fun h43 =>
  (gR h43 p0 1 0).bind fun a44 =>
  (some (hsh h43).length).bind fun a45 =>
  (some (nw h43 (6, 0))).bind fun h46 =>
  (fn_X7_init h46 a45).bind fun h47 =>
  (wR h47 a44 8 a45).bind fun h48 =>
  (gR h48 p0 1 0).bind fun a49 =>
  (some (hsh h48).length).bind fun a50 =>
  (some (nw h48 (6, 0))).bind fun h51 =>
  (fn_X7_init h51 a50).bind fun h52 =>
  (wR h52 a49 9 a50).bind fun h53 =>
  (gR h53 p0 1 0).bind fun a54 =>
  (some (hsh h53).length).bind fun a55 =>
  (some (nw h53 (6, 0))).bind fun h56 =>
  (fn_X7_init h56 a55).bind fun h57 =>
  (wR h57 a54 10 a55).bind fun h58 =>
  (gR h58 p0 1 0).bind fun a59 =>
  (some (hsh h58).length).bind fun a60 =>
  (some (nw h58 (6, 0))).bind fun h61 =>
  (fn_X7_init h61 a60).bind fun h62 =>
  (wR h62 a59 11 a60).bind fun h63 =>
  (some (hsh h63).length).bind fun a64 =>
  (some (nw h63 (17, 2))).bind fun h65 =>
  (pR h65 p0 1 1 a64).bind fun h66 =>
  (gR h66 p0 1 1).bind fun a67 =>
  (some (hsh h66).length).bind fun a68 =>
  (some (nw h66 (6, 0))).bind fun h69 =>
  (fn_X7_init h69 a68).bind fun h70 =>
  (wR h70 a67 0 a68).bind fun h71 =>
  (gR h71 p0 1 1).bind fun a72 =>
  (some (hsh h71).length).bind fun a73 =>
  (some (nw h71 (6, 0))).bind fun h74 =>
  (fn_X7_init h74 a73).bind fun h75 =>
  (wR h75 a72 1 a73).bind fun h76 =>
  (some (hsh h76).length).bind fun a77 =>
  (some (nw h76 (16, 2))).bind fun h78 =>
  (pR h78 p0 1 2 a77).bind fun h79 =>
  some h79
set_option maxRecDepth 20000 in
set_option maxHeartbeats 4000000 in
theorem ln_X2_init (h : aH) (p0 : Nat) (o : aH) (hf : fn_X2_init h p0 = some o) : (hsh o).length = (hsh h).length + 45 := by
  unfold fn_X2_init at hf
  have zh : (hsh h).length = (hsh h).length + 0 := rfl
  obtain ⟨a1, ea1, hf⟩ := ob hf
  obtain ⟨h2, eh2, hf⟩ := ob hf
  have zh2 : (hsh h2).length = (hsh h).length + 1 := nw_len eh2 zh
  obtain ⟨h3, eh3, hf⟩ := ob hf
  have zh3 : (hsh h3).length = (hsh h).length + 1 := by rw [pR_sh eh3]; exact zh2
  obtain ⟨a4, ea4, hf⟩ := ob hf
  obtain ⟨a5, ea5, hf⟩ := ob hf
  obtain ⟨h6, eh6, hf⟩ := ob hf
  have zh6 : (hsh h6).length = (hsh h).length + 2 := nw_len eh6 zh3
  obtain ⟨h7, eh7, hf⟩ := ob hf
  have zh7 : (hsh h7).length = (hsh h).length + 4 := ln_add (ln_X7_init _ _ _ eh7) zh6
  obtain ⟨h8, eh8, hf⟩ := ob hf
  have zh8 : (hsh h8).length = (hsh h).length + 4 := by rw [wR_sh eh8]; exact zh7
  obtain ⟨a9, ea9, hf⟩ := ob hf
  obtain ⟨a10, ea10, hf⟩ := ob hf
  obtain ⟨h11, eh11, hf⟩ := ob hf
  have zh11 : (hsh h11).length = (hsh h).length + 5 := nw_len eh11 zh8
  obtain ⟨h12, eh12, hf⟩ := ob hf
  have zh12 : (hsh h12).length = (hsh h).length + 7 := ln_add (ln_X7_init _ _ _ eh12) zh11
  obtain ⟨h13, eh13, hf⟩ := ob hf
  have zh13 : (hsh h13).length = (hsh h).length + 7 := by rw [wR_sh eh13]; exact zh12
  obtain ⟨a14, ea14, hf⟩ := ob hf
  obtain ⟨a15, ea15, hf⟩ := ob hf
  obtain ⟨h16, eh16, hf⟩ := ob hf
  have zh16 : (hsh h16).length = (hsh h).length + 8 := nw_len eh16 zh13
  obtain ⟨h17, eh17, hf⟩ := ob hf
  have zh17 : (hsh h17).length = (hsh h).length + 10 := ln_add (ln_X7_init _ _ _ eh17) zh16
  obtain ⟨h18, eh18, hf⟩ := ob hf
  have zh18 : (hsh h18).length = (hsh h).length + 10 := by rw [wR_sh eh18]; exact zh17
  obtain ⟨a19, ea19, hf⟩ := ob hf
  obtain ⟨a20, ea20, hf⟩ := ob hf
  obtain ⟨h21, eh21, hf⟩ := ob hf
  have zh21 : (hsh h21).length = (hsh h).length + 11 := nw_len eh21 zh18
  obtain ⟨h22, eh22, hf⟩ := ob hf
  have zh22 : (hsh h22).length = (hsh h).length + 13 := ln_add (ln_X7_init _ _ _ eh22) zh21
  obtain ⟨h23, eh23, hf⟩ := ob hf
  have zh23 : (hsh h23).length = (hsh h).length + 13 := by rw [wR_sh eh23]; exact zh22
  obtain ⟨a24, ea24, hf⟩ := ob hf
  obtain ⟨a25, ea25, hf⟩ := ob hf
  obtain ⟨h26, eh26, hf⟩ := ob hf
  have zh26 : (hsh h26).length = (hsh h).length + 14 := nw_len eh26 zh23
  obtain ⟨h27, eh27, hf⟩ := ob hf
  have zh27 : (hsh h27).length = (hsh h).length + 16 := ln_add (ln_X7_init _ _ _ eh27) zh26
  obtain ⟨h28, eh28, hf⟩ := ob hf
  have zh28 : (hsh h28).length = (hsh h).length + 16 := by rw [wR_sh eh28]; exact zh27
  obtain ⟨a29, ea29, hf⟩ := ob hf
  obtain ⟨a30, ea30, hf⟩ := ob hf
  obtain ⟨h31, eh31, hf⟩ := ob hf
  have zh31 : (hsh h31).length = (hsh h).length + 17 := nw_len eh31 zh28
  obtain ⟨h32, eh32, hf⟩ := ob hf
  have zh32 : (hsh h32).length = (hsh h).length + 19 := ln_add (ln_X7_init _ _ _ eh32) zh31
  obtain ⟨h33, eh33, hf⟩ := ob hf
  have zh33 : (hsh h33).length = (hsh h).length + 19 := by rw [wR_sh eh33]; exact zh32
  obtain ⟨a34, ea34, hf⟩ := ob hf
  obtain ⟨a35, ea35, hf⟩ := ob hf
  obtain ⟨h36, eh36, hf⟩ := ob hf
  have zh36 : (hsh h36).length = (hsh h).length + 20 := nw_len eh36 zh33
  obtain ⟨h37, eh37, hf⟩ := ob hf
  have zh37 : (hsh h37).length = (hsh h).length + 22 := ln_add (ln_X7_init _ _ _ eh37) zh36
  obtain ⟨h38, eh38, hf⟩ := ob hf
  have zh38 : (hsh h38).length = (hsh h).length + 22 := by rw [wR_sh eh38]; exact zh37
  obtain ⟨a39, ea39, hf⟩ := ob hf
  obtain ⟨a40, ea40, hf⟩ := ob hf
  obtain ⟨h41, eh41, hf⟩ := ob hf
  have zh41 : (hsh h41).length = (hsh h).length + 23 := nw_len eh41 zh38
  obtain ⟨h42, eh42, hf⟩ := ob hf
  have zh42 : (hsh h42).length = (hsh h).length + 25 := ln_add (ln_X7_init _ _ _ eh42) zh41
  obtain ⟨h43, eh43, hf⟩ := ob hf
  have zh43 : (hsh h43).length = (hsh h).length + 25 := by rw [wR_sh eh43]; exact zh42
  obtain ⟨a44, ea44, hf⟩ := ob hf
  obtain ⟨a45, ea45, hf⟩ := ob hf
  obtain ⟨h46, eh46, hf⟩ := ob hf
  have zh46 : (hsh h46).length = (hsh h).length + 26 := nw_len eh46 zh43
  obtain ⟨h47, eh47, hf⟩ := ob hf
  have zh47 : (hsh h47).length = (hsh h).length + 28 := ln_add (ln_X7_init _ _ _ eh47) zh46
  obtain ⟨h48, eh48, hf⟩ := ob hf
  have zh48 : (hsh h48).length = (hsh h).length + 28 := by rw [wR_sh eh48]; exact zh47
  obtain ⟨a49, ea49, hf⟩ := ob hf
  obtain ⟨a50, ea50, hf⟩ := ob hf
  obtain ⟨h51, eh51, hf⟩ := ob hf
  have zh51 : (hsh h51).length = (hsh h).length + 29 := nw_len eh51 zh48
  obtain ⟨h52, eh52, hf⟩ := ob hf
  have zh52 : (hsh h52).length = (hsh h).length + 31 := ln_add (ln_X7_init _ _ _ eh52) zh51
  obtain ⟨h53, eh53, hf⟩ := ob hf
  have zh53 : (hsh h53).length = (hsh h).length + 31 := by rw [wR_sh eh53]; exact zh52
  obtain ⟨a54, ea54, hf⟩ := ob hf
  obtain ⟨a55, ea55, hf⟩ := ob hf
  obtain ⟨h56, eh56, hf⟩ := ob hf
  have zh56 : (hsh h56).length = (hsh h).length + 32 := nw_len eh56 zh53
  obtain ⟨h57, eh57, hf⟩ := ob hf
  have zh57 : (hsh h57).length = (hsh h).length + 34 := ln_add (ln_X7_init _ _ _ eh57) zh56
  obtain ⟨h58, eh58, hf⟩ := ob hf
  have zh58 : (hsh h58).length = (hsh h).length + 34 := by rw [wR_sh eh58]; exact zh57
  obtain ⟨a59, ea59, hf⟩ := ob hf
  obtain ⟨a60, ea60, hf⟩ := ob hf
  obtain ⟨h61, eh61, hf⟩ := ob hf
  have zh61 : (hsh h61).length = (hsh h).length + 35 := nw_len eh61 zh58
  obtain ⟨h62, eh62, hf⟩ := ob hf
  have zh62 : (hsh h62).length = (hsh h).length + 37 := ln_add (ln_X7_init _ _ _ eh62) zh61
  obtain ⟨h63, eh63, hf⟩ := ob hf
  have zh63 : (hsh h63).length = (hsh h).length + 37 := by rw [wR_sh eh63]; exact zh62
  obtain ⟨a64, ea64, hf⟩ := ob hf
  obtain ⟨h65, eh65, hf⟩ := ob hf
  have zh65 : (hsh h65).length = (hsh h).length + 38 := nw_len eh65 zh63
  obtain ⟨h66, eh66, hf⟩ := ob hf
  have zh66 : (hsh h66).length = (hsh h).length + 38 := by rw [pR_sh eh66]; exact zh65
  obtain ⟨a67, ea67, hf⟩ := ob hf
  obtain ⟨a68, ea68, hf⟩ := ob hf
  obtain ⟨h69, eh69, hf⟩ := ob hf
  have zh69 : (hsh h69).length = (hsh h).length + 39 := nw_len eh69 zh66
  obtain ⟨h70, eh70, hf⟩ := ob hf
  have zh70 : (hsh h70).length = (hsh h).length + 41 := ln_add (ln_X7_init _ _ _ eh70) zh69
  obtain ⟨h71, eh71, hf⟩ := ob hf
  have zh71 : (hsh h71).length = (hsh h).length + 41 := by rw [wR_sh eh71]; exact zh70
  obtain ⟨a72, ea72, hf⟩ := ob hf
  obtain ⟨a73, ea73, hf⟩ := ob hf
  obtain ⟨h74, eh74, hf⟩ := ob hf
  have zh74 : (hsh h74).length = (hsh h).length + 42 := nw_len eh74 zh71
  obtain ⟨h75, eh75, hf⟩ := ob hf
  have zh75 : (hsh h75).length = (hsh h).length + 44 := ln_add (ln_X7_init _ _ _ eh75) zh74
  obtain ⟨h76, eh76, hf⟩ := ob hf
  have zh76 : (hsh h76).length = (hsh h).length + 44 := by rw [wR_sh eh76]; exact zh75
  obtain ⟨a77, ea77, hf⟩ := ob hf
  obtain ⟨h78, eh78, hf⟩ := ob hf
  have zh78 : (hsh h78).length = (hsh h).length + 45 := nw_len eh78 zh76
  obtain ⟨h79, eh79, hf⟩ := ob hf
  have zh79 : (hsh h79).length = (hsh h).length + 45 := by rw [pR_sh eh79]; exact zh78
  obtain rfl := Option.some.inj hf
  exact zh79
set_option maxRecDepth 20000 in
set_option maxHeartbeats 4000000 in
theorem evA_X2_init {l : Launch} {g : aG} {d : Nat} (hd : 2 ≤ d) (h : aH) (p0 : Nat) (o : aH) (hf : fn_X2_init h p0 = some o) : EvA l g d yX2_init cX2_init 2 [.ref p0] h o 45 268 := by
  refine EvA.of mk_X2_init rfl (Nat.le_of_ble_eq_true rfl) ?_
  intro Γ hl hg hk hin hA X
  have hd1 : 1 ≤ d := by omega
  have hdm : 1 ≤ d - 1 := by omega
  unfold fn_X2_init at hf
  have zh : (hsh h).length = (hsh h).length + 0 := rfl
  show Jd Γ (0, 0) 0 [some (.ref p0), none] [] h
  refine r_aload_n (pc := 0) (cs := (0, 0)) X dX2_init_0 rfl ?_
  refine r_objInit (pc := 1) (cs := (0, 0)) X dX2_init_1 oi_X2_3 oi_inst oi_code hd1 (Nat.le_of_ble_eq_true rfl) ?_
  refine r_aload_n (pc := 4) (cs := (0, 0)) X dX2_init_4 rfl ?_
  refine r_bipush (pc := 5) (cs := (0, 0)) X 12 dX2_init_5 (by decide) ?_
  obtain ⟨a1, ea1, hf⟩ := ob hf
  obtain ⟨h2, eh2, hf⟩ := ob hf
  refine r_anew (pc := 7) (cs := (0, 0)) X hA zh dX2_init_7 nc_X2_11 (N := 12) (by decide) (by decide) (by decide) (Nat.le_of_ble_eq_true rfl) (Nat.le_of_ble_eq_true rfl) ea1 eh2 ?_
  have zh2 : (hsh h2).length = (hsh h).length + 1 := nw_len eh2 zh
  obtain ⟨h3, eh3, hf⟩ := ob hf
  refine r_putRF (pc := 10) (cs := (1, 12)) X hin dX2_init_10 ff_X2_13 (fun _ => ⟨rfl, rfl⟩) rfl eh3 ?_
  have zh3 : (hsh h3).length = (hsh h).length + 1 := by rw [pR_sh eh3]; exact zh2
  refine r_iconst (pc := 13) (cs := (1, 12)) X 0 dX2_init_13 (by decide) ?_
  refine r_istore_n (pc := 14) (cs := (1, 12)) X [some (.ref p0), some (.int 0)] dX2_init_14 (by decide) rfl ?_
  refine r_iload_n (pc := 15) (cs := (1, 12)) X dX2_init_15 rfl ?_
  refine r_bipush (pc := 16) (cs := (1, 12)) X 12 dX2_init_16 (by decide) ?_
  refine r_icmp_ge (pc := 18) (cs := (1, 12)) X 40 dX2_init_18 (by decide) (fun q => absurd (by decide) q) (fun _ => ?_)
  refine r_aload_n (pc := 21) (cs := (1, 12)) X dX2_init_21 rfl ?_
  obtain ⟨a4, ea4, hf⟩ := ob hf
  refine r_getR (pc := 22) (cs := (1, 12)) X dX2_init_22 fl_X2_13 rfl ea4 ?_
  refine r_iload_n (pc := 25) (cs := (1, 12)) X dX2_init_25 rfl ?_
  obtain ⟨a5, ea5, hf⟩ := ob hf
  obtain ⟨h6, eh6, hf⟩ := ob hf
  refine r_new (pc := 26) (cs := (1, 12)) X hA zh3 dX2_init_26 nk_X2_11 (N := 6) rfl (Nat.le_of_ble_eq_true rfl) (Nat.le_of_ble_eq_true rfl) ea5 eh6 ?_
  have zh6 : (hsh h6).length = (hsh h).length + 2 := nw_len eh6 zh3
  refine r_dup (pc := 29) (cs := (2, 18)) X dX2_init_29 rfl ?_
  obtain ⟨h7, eh7, hf⟩ := ob hf
  refine r_callI (pc := 30) (cs := (2, 18)) X [] hA zh6 dX2_init_30 ml_X2_17 io_X7_init (evA_X7_init (d := d - 1) (Nat.le_trans (by decide) hdm) _ _ _ eh7) hd1 rfl (Nat.le_of_ble_eq_true rfl) (Nat.le_of_ble_eq_true rfl) (Nat.le_of_ble_eq_true rfl) rfl ?_
  have zh7 : (hsh h7).length = (hsh h).length + 4 := ln_add (ln_X7_init _ _ _ eh7) zh6
  obtain ⟨h8, eh8, hf⟩ := ob hf
  refine r_aast (pc := 33) (cs := (4, 30)) X dX2_init_33 eh8 ?_
  have zh8 : (hsh h8).length = (hsh h).length + 4 := by rw [wR_sh eh8]; exact zh7
  refine r_iinc2 (pc := 34) (cs := (4, 30)) X 1 [some (.ref p0), some (.int 1)] dX2_init_34 (by decide) rfl (by decide) (by decide) rfl ?_
  refine r_goto (pc := 37) (cs := (4, 30)) X 15 dX2_init_37 (by decide) ?_
  refine r_iload_n (pc := 15) (cs := (4, 30)) X dX2_init_15 rfl ?_
  refine r_bipush (pc := 16) (cs := (4, 30)) X 12 dX2_init_16 (by decide) ?_
  refine r_icmp_ge (pc := 18) (cs := (4, 30)) X 40 dX2_init_18 (by decide) (fun q => absurd (by decide) q) (fun _ => ?_)
  refine r_aload_n (pc := 21) (cs := (4, 30)) X dX2_init_21 rfl ?_
  obtain ⟨a9, ea9, hf⟩ := ob hf
  refine r_getR (pc := 22) (cs := (4, 30)) X dX2_init_22 fl_X2_13 rfl ea9 ?_
  refine r_iload_n (pc := 25) (cs := (4, 30)) X dX2_init_25 rfl ?_
  obtain ⟨a10, ea10, hf⟩ := ob hf
  obtain ⟨h11, eh11, hf⟩ := ob hf
  refine r_new (pc := 26) (cs := (4, 30)) X hA zh8 dX2_init_26 nk_X2_11 (N := 6) rfl (Nat.le_of_ble_eq_true rfl) (Nat.le_of_ble_eq_true rfl) ea10 eh11 ?_
  have zh11 : (hsh h11).length = (hsh h).length + 5 := nw_len eh11 zh8
  refine r_dup (pc := 29) (cs := (5, 36)) X dX2_init_29 rfl ?_
  obtain ⟨h12, eh12, hf⟩ := ob hf
  refine r_callI (pc := 30) (cs := (5, 36)) X [] hA zh11 dX2_init_30 ml_X2_17 io_X7_init (evA_X7_init (d := d - 1) (Nat.le_trans (by decide) hdm) _ _ _ eh12) hd1 rfl (Nat.le_of_ble_eq_true rfl) (Nat.le_of_ble_eq_true rfl) (Nat.le_of_ble_eq_true rfl) rfl ?_
  have zh12 : (hsh h12).length = (hsh h).length + 7 := ln_add (ln_X7_init _ _ _ eh12) zh11
  obtain ⟨h13, eh13, hf⟩ := ob hf
  refine r_aast (pc := 33) (cs := (7, 48)) X dX2_init_33 eh13 ?_
  have zh13 : (hsh h13).length = (hsh h).length + 7 := by rw [wR_sh eh13]; exact zh12
  refine r_iinc2 (pc := 34) (cs := (7, 48)) X 1 [some (.ref p0), some (.int 2)] dX2_init_34 (by decide) rfl (by decide) (by decide) rfl ?_
  refine r_goto (pc := 37) (cs := (7, 48)) X 15 dX2_init_37 (by decide) ?_
  refine r_iload_n (pc := 15) (cs := (7, 48)) X dX2_init_15 rfl ?_
  refine r_bipush (pc := 16) (cs := (7, 48)) X 12 dX2_init_16 (by decide) ?_
  refine r_icmp_ge (pc := 18) (cs := (7, 48)) X 40 dX2_init_18 (by decide) (fun q => absurd (by decide) q) (fun _ => ?_)
  refine r_aload_n (pc := 21) (cs := (7, 48)) X dX2_init_21 rfl ?_
  obtain ⟨a14, ea14, hf⟩ := ob hf
  refine r_getR (pc := 22) (cs := (7, 48)) X dX2_init_22 fl_X2_13 rfl ea14 ?_
  refine r_iload_n (pc := 25) (cs := (7, 48)) X dX2_init_25 rfl ?_
  obtain ⟨a15, ea15, hf⟩ := ob hf
  obtain ⟨h16, eh16, hf⟩ := ob hf
  refine r_new (pc := 26) (cs := (7, 48)) X hA zh13 dX2_init_26 nk_X2_11 (N := 6) rfl (Nat.le_of_ble_eq_true rfl) (Nat.le_of_ble_eq_true rfl) ea15 eh16 ?_
  have zh16 : (hsh h16).length = (hsh h).length + 8 := nw_len eh16 zh13
  refine r_dup (pc := 29) (cs := (8, 54)) X dX2_init_29 rfl ?_
  obtain ⟨h17, eh17, hf⟩ := ob hf
  refine r_callI (pc := 30) (cs := (8, 54)) X [] hA zh16 dX2_init_30 ml_X2_17 io_X7_init (evA_X7_init (d := d - 1) (Nat.le_trans (by decide) hdm) _ _ _ eh17) hd1 rfl (Nat.le_of_ble_eq_true rfl) (Nat.le_of_ble_eq_true rfl) (Nat.le_of_ble_eq_true rfl) rfl ?_
  have zh17 : (hsh h17).length = (hsh h).length + 10 := ln_add (ln_X7_init _ _ _ eh17) zh16
  obtain ⟨h18, eh18, hf⟩ := ob hf
  refine r_aast (pc := 33) (cs := (10, 66)) X dX2_init_33 eh18 ?_
  have zh18 : (hsh h18).length = (hsh h).length + 10 := by rw [wR_sh eh18]; exact zh17
  refine r_iinc2 (pc := 34) (cs := (10, 66)) X 1 [some (.ref p0), some (.int 3)] dX2_init_34 (by decide) rfl (by decide) (by decide) rfl ?_
  refine r_goto (pc := 37) (cs := (10, 66)) X 15 dX2_init_37 (by decide) ?_
  refine r_iload_n (pc := 15) (cs := (10, 66)) X dX2_init_15 rfl ?_
  refine r_bipush (pc := 16) (cs := (10, 66)) X 12 dX2_init_16 (by decide) ?_
  refine r_icmp_ge (pc := 18) (cs := (10, 66)) X 40 dX2_init_18 (by decide) (fun q => absurd (by decide) q) (fun _ => ?_)
  refine r_aload_n (pc := 21) (cs := (10, 66)) X dX2_init_21 rfl ?_
  obtain ⟨a19, ea19, hf⟩ := ob hf
  refine r_getR (pc := 22) (cs := (10, 66)) X dX2_init_22 fl_X2_13 rfl ea19 ?_
  refine r_iload_n (pc := 25) (cs := (10, 66)) X dX2_init_25 rfl ?_
  obtain ⟨a20, ea20, hf⟩ := ob hf
  obtain ⟨h21, eh21, hf⟩ := ob hf
  refine r_new (pc := 26) (cs := (10, 66)) X hA zh18 dX2_init_26 nk_X2_11 (N := 6) rfl (Nat.le_of_ble_eq_true rfl) (Nat.le_of_ble_eq_true rfl) ea20 eh21 ?_
  have zh21 : (hsh h21).length = (hsh h).length + 11 := nw_len eh21 zh18
  refine r_dup (pc := 29) (cs := (11, 72)) X dX2_init_29 rfl ?_
  obtain ⟨h22, eh22, hf⟩ := ob hf
  refine r_callI (pc := 30) (cs := (11, 72)) X [] hA zh21 dX2_init_30 ml_X2_17 io_X7_init (evA_X7_init (d := d - 1) (Nat.le_trans (by decide) hdm) _ _ _ eh22) hd1 rfl (Nat.le_of_ble_eq_true rfl) (Nat.le_of_ble_eq_true rfl) (Nat.le_of_ble_eq_true rfl) rfl ?_
  have zh22 : (hsh h22).length = (hsh h).length + 13 := ln_add (ln_X7_init _ _ _ eh22) zh21
  obtain ⟨h23, eh23, hf⟩ := ob hf
  refine r_aast (pc := 33) (cs := (13, 84)) X dX2_init_33 eh23 ?_
  have zh23 : (hsh h23).length = (hsh h).length + 13 := by rw [wR_sh eh23]; exact zh22
  refine r_iinc2 (pc := 34) (cs := (13, 84)) X 1 [some (.ref p0), some (.int 4)] dX2_init_34 (by decide) rfl (by decide) (by decide) rfl ?_
  refine r_goto (pc := 37) (cs := (13, 84)) X 15 dX2_init_37 (by decide) ?_
  refine r_iload_n (pc := 15) (cs := (13, 84)) X dX2_init_15 rfl ?_
  refine r_bipush (pc := 16) (cs := (13, 84)) X 12 dX2_init_16 (by decide) ?_
  refine r_icmp_ge (pc := 18) (cs := (13, 84)) X 40 dX2_init_18 (by decide) (fun q => absurd (by decide) q) (fun _ => ?_)
  refine r_aload_n (pc := 21) (cs := (13, 84)) X dX2_init_21 rfl ?_
  obtain ⟨a24, ea24, hf⟩ := ob hf
  refine r_getR (pc := 22) (cs := (13, 84)) X dX2_init_22 fl_X2_13 rfl ea24 ?_
  refine r_iload_n (pc := 25) (cs := (13, 84)) X dX2_init_25 rfl ?_
  obtain ⟨a25, ea25, hf⟩ := ob hf
  obtain ⟨h26, eh26, hf⟩ := ob hf
  refine r_new (pc := 26) (cs := (13, 84)) X hA zh23 dX2_init_26 nk_X2_11 (N := 6) rfl (Nat.le_of_ble_eq_true rfl) (Nat.le_of_ble_eq_true rfl) ea25 eh26 ?_
  have zh26 : (hsh h26).length = (hsh h).length + 14 := nw_len eh26 zh23
  refine r_dup (pc := 29) (cs := (14, 90)) X dX2_init_29 rfl ?_
  obtain ⟨h27, eh27, hf⟩ := ob hf
  refine r_callI (pc := 30) (cs := (14, 90)) X [] hA zh26 dX2_init_30 ml_X2_17 io_X7_init (evA_X7_init (d := d - 1) (Nat.le_trans (by decide) hdm) _ _ _ eh27) hd1 rfl (Nat.le_of_ble_eq_true rfl) (Nat.le_of_ble_eq_true rfl) (Nat.le_of_ble_eq_true rfl) rfl ?_
  have zh27 : (hsh h27).length = (hsh h).length + 16 := ln_add (ln_X7_init _ _ _ eh27) zh26
  obtain ⟨h28, eh28, hf⟩ := ob hf
  refine r_aast (pc := 33) (cs := (16, 102)) X dX2_init_33 eh28 ?_
  have zh28 : (hsh h28).length = (hsh h).length + 16 := by rw [wR_sh eh28]; exact zh27
  refine r_iinc2 (pc := 34) (cs := (16, 102)) X 1 [some (.ref p0), some (.int 5)] dX2_init_34 (by decide) rfl (by decide) (by decide) rfl ?_
  refine r_goto (pc := 37) (cs := (16, 102)) X 15 dX2_init_37 (by decide) ?_
  refine r_iload_n (pc := 15) (cs := (16, 102)) X dX2_init_15 rfl ?_
  refine r_bipush (pc := 16) (cs := (16, 102)) X 12 dX2_init_16 (by decide) ?_
  refine r_icmp_ge (pc := 18) (cs := (16, 102)) X 40 dX2_init_18 (by decide) (fun q => absurd (by decide) q) (fun _ => ?_)
  refine r_aload_n (pc := 21) (cs := (16, 102)) X dX2_init_21 rfl ?_
  obtain ⟨a29, ea29, hf⟩ := ob hf
  refine r_getR (pc := 22) (cs := (16, 102)) X dX2_init_22 fl_X2_13 rfl ea29 ?_
  refine r_iload_n (pc := 25) (cs := (16, 102)) X dX2_init_25 rfl ?_
  obtain ⟨a30, ea30, hf⟩ := ob hf
  obtain ⟨h31, eh31, hf⟩ := ob hf
  refine r_new (pc := 26) (cs := (16, 102)) X hA zh28 dX2_init_26 nk_X2_11 (N := 6) rfl (Nat.le_of_ble_eq_true rfl) (Nat.le_of_ble_eq_true rfl) ea30 eh31 ?_
  have zh31 : (hsh h31).length = (hsh h).length + 17 := nw_len eh31 zh28
  refine r_dup (pc := 29) (cs := (17, 108)) X dX2_init_29 rfl ?_
  obtain ⟨h32, eh32, hf⟩ := ob hf
  refine r_callI (pc := 30) (cs := (17, 108)) X [] hA zh31 dX2_init_30 ml_X2_17 io_X7_init (evA_X7_init (d := d - 1) (Nat.le_trans (by decide) hdm) _ _ _ eh32) hd1 rfl (Nat.le_of_ble_eq_true rfl) (Nat.le_of_ble_eq_true rfl) (Nat.le_of_ble_eq_true rfl) rfl ?_
  have zh32 : (hsh h32).length = (hsh h).length + 19 := ln_add (ln_X7_init _ _ _ eh32) zh31
  obtain ⟨h33, eh33, hf⟩ := ob hf
  refine r_aast (pc := 33) (cs := (19, 120)) X dX2_init_33 eh33 ?_
  have zh33 : (hsh h33).length = (hsh h).length + 19 := by rw [wR_sh eh33]; exact zh32
  refine r_iinc2 (pc := 34) (cs := (19, 120)) X 1 [some (.ref p0), some (.int 6)] dX2_init_34 (by decide) rfl (by decide) (by decide) rfl ?_
  refine r_goto (pc := 37) (cs := (19, 120)) X 15 dX2_init_37 (by decide) ?_
  refine r_iload_n (pc := 15) (cs := (19, 120)) X dX2_init_15 rfl ?_
  refine r_bipush (pc := 16) (cs := (19, 120)) X 12 dX2_init_16 (by decide) ?_
  refine r_icmp_ge (pc := 18) (cs := (19, 120)) X 40 dX2_init_18 (by decide) (fun q => absurd (by decide) q) (fun _ => ?_)
  refine r_aload_n (pc := 21) (cs := (19, 120)) X dX2_init_21 rfl ?_
  obtain ⟨a34, ea34, hf⟩ := ob hf
  refine r_getR (pc := 22) (cs := (19, 120)) X dX2_init_22 fl_X2_13 rfl ea34 ?_
  refine r_iload_n (pc := 25) (cs := (19, 120)) X dX2_init_25 rfl ?_
  obtain ⟨a35, ea35, hf⟩ := ob hf
  obtain ⟨h36, eh36, hf⟩ := ob hf
  refine r_new (pc := 26) (cs := (19, 120)) X hA zh33 dX2_init_26 nk_X2_11 (N := 6) rfl (Nat.le_of_ble_eq_true rfl) (Nat.le_of_ble_eq_true rfl) ea35 eh36 ?_
  have zh36 : (hsh h36).length = (hsh h).length + 20 := nw_len eh36 zh33
  refine r_dup (pc := 29) (cs := (20, 126)) X dX2_init_29 rfl ?_
  obtain ⟨h37, eh37, hf⟩ := ob hf
  refine r_callI (pc := 30) (cs := (20, 126)) X [] hA zh36 dX2_init_30 ml_X2_17 io_X7_init (evA_X7_init (d := d - 1) (Nat.le_trans (by decide) hdm) _ _ _ eh37) hd1 rfl (Nat.le_of_ble_eq_true rfl) (Nat.le_of_ble_eq_true rfl) (Nat.le_of_ble_eq_true rfl) rfl ?_
  have zh37 : (hsh h37).length = (hsh h).length + 22 := ln_add (ln_X7_init _ _ _ eh37) zh36
  obtain ⟨h38, eh38, hf⟩ := ob hf
  refine r_aast (pc := 33) (cs := (22, 138)) X dX2_init_33 eh38 ?_
  have zh38 : (hsh h38).length = (hsh h).length + 22 := by rw [wR_sh eh38]; exact zh37
  refine r_iinc2 (pc := 34) (cs := (22, 138)) X 1 [some (.ref p0), some (.int 7)] dX2_init_34 (by decide) rfl (by decide) (by decide) rfl ?_
  refine r_goto (pc := 37) (cs := (22, 138)) X 15 dX2_init_37 (by decide) ?_
  refine r_iload_n (pc := 15) (cs := (22, 138)) X dX2_init_15 rfl ?_
  refine r_bipush (pc := 16) (cs := (22, 138)) X 12 dX2_init_16 (by decide) ?_
  refine r_icmp_ge (pc := 18) (cs := (22, 138)) X 40 dX2_init_18 (by decide) (fun q => absurd (by decide) q) (fun _ => ?_)
  refine r_aload_n (pc := 21) (cs := (22, 138)) X dX2_init_21 rfl ?_
  obtain ⟨a39, ea39, hf⟩ := ob hf
  refine r_getR (pc := 22) (cs := (22, 138)) X dX2_init_22 fl_X2_13 rfl ea39 ?_
  refine r_iload_n (pc := 25) (cs := (22, 138)) X dX2_init_25 rfl ?_
  obtain ⟨a40, ea40, hf⟩ := ob hf
  obtain ⟨h41, eh41, hf⟩ := ob hf
  refine r_new (pc := 26) (cs := (22, 138)) X hA zh38 dX2_init_26 nk_X2_11 (N := 6) rfl (Nat.le_of_ble_eq_true rfl) (Nat.le_of_ble_eq_true rfl) ea40 eh41 ?_
  have zh41 : (hsh h41).length = (hsh h).length + 23 := nw_len eh41 zh38
  refine r_dup (pc := 29) (cs := (23, 144)) X dX2_init_29 rfl ?_
  obtain ⟨h42, eh42, hf⟩ := ob hf
  refine r_callI (pc := 30) (cs := (23, 144)) X [] hA zh41 dX2_init_30 ml_X2_17 io_X7_init (evA_X7_init (d := d - 1) (Nat.le_trans (by decide) hdm) _ _ _ eh42) hd1 rfl (Nat.le_of_ble_eq_true rfl) (Nat.le_of_ble_eq_true rfl) (Nat.le_of_ble_eq_true rfl) rfl ?_
  have zh42 : (hsh h42).length = (hsh h).length + 25 := ln_add (ln_X7_init _ _ _ eh42) zh41
  obtain ⟨h43, eh43, hf⟩ := ob hf
  refine r_aast (pc := 33) (cs := (25, 156)) X dX2_init_33 eh43 ?_
  have zh43 : (hsh h43).length = (hsh h).length + 25 := by rw [wR_sh eh43]; exact zh42
  refine r_iinc2 (pc := 34) (cs := (25, 156)) X 1 [some (.ref p0), some (.int 8)] dX2_init_34 (by decide) rfl (by decide) (by decide) rfl ?_
  refine r_goto (pc := 37) (cs := (25, 156)) X 15 dX2_init_37 (by decide) ?_
  refine r_iload_n (pc := 15) (cs := (25, 156)) X dX2_init_15 rfl ?_
  refine r_bipush (pc := 16) (cs := (25, 156)) X 12 dX2_init_16 (by decide) ?_
  refine r_icmp_ge (pc := 18) (cs := (25, 156)) X 40 dX2_init_18 (by decide) (fun q => absurd (by decide) q) (fun _ => ?_)
  refine r_aload_n (pc := 21) (cs := (25, 156)) X dX2_init_21 rfl ?_
  obtain ⟨a44, ea44, hf⟩ := ob hf
  refine r_getR (pc := 22) (cs := (25, 156)) X dX2_init_22 fl_X2_13 rfl ea44 ?_
  refine r_iload_n (pc := 25) (cs := (25, 156)) X dX2_init_25 rfl ?_
  obtain ⟨a45, ea45, hf⟩ := ob hf
  obtain ⟨h46, eh46, hf⟩ := ob hf
  refine r_new (pc := 26) (cs := (25, 156)) X hA zh43 dX2_init_26 nk_X2_11 (N := 6) rfl (Nat.le_of_ble_eq_true rfl) (Nat.le_of_ble_eq_true rfl) ea45 eh46 ?_
  have zh46 : (hsh h46).length = (hsh h).length + 26 := nw_len eh46 zh43
  refine r_dup (pc := 29) (cs := (26, 162)) X dX2_init_29 rfl ?_
  obtain ⟨h47, eh47, hf⟩ := ob hf
  refine r_callI (pc := 30) (cs := (26, 162)) X [] hA zh46 dX2_init_30 ml_X2_17 io_X7_init (evA_X7_init (d := d - 1) (Nat.le_trans (by decide) hdm) _ _ _ eh47) hd1 rfl (Nat.le_of_ble_eq_true rfl) (Nat.le_of_ble_eq_true rfl) (Nat.le_of_ble_eq_true rfl) rfl ?_
  have zh47 : (hsh h47).length = (hsh h).length + 28 := ln_add (ln_X7_init _ _ _ eh47) zh46
  obtain ⟨h48, eh48, hf⟩ := ob hf
  refine r_aast (pc := 33) (cs := (28, 174)) X dX2_init_33 eh48 ?_
  have zh48 : (hsh h48).length = (hsh h).length + 28 := by rw [wR_sh eh48]; exact zh47
  refine r_iinc2 (pc := 34) (cs := (28, 174)) X 1 [some (.ref p0), some (.int 9)] dX2_init_34 (by decide) rfl (by decide) (by decide) rfl ?_
  refine r_goto (pc := 37) (cs := (28, 174)) X 15 dX2_init_37 (by decide) ?_
  refine r_iload_n (pc := 15) (cs := (28, 174)) X dX2_init_15 rfl ?_
  refine r_bipush (pc := 16) (cs := (28, 174)) X 12 dX2_init_16 (by decide) ?_
  refine r_icmp_ge (pc := 18) (cs := (28, 174)) X 40 dX2_init_18 (by decide) (fun q => absurd (by decide) q) (fun _ => ?_)
  refine r_aload_n (pc := 21) (cs := (28, 174)) X dX2_init_21 rfl ?_
  obtain ⟨a49, ea49, hf⟩ := ob hf
  refine r_getR (pc := 22) (cs := (28, 174)) X dX2_init_22 fl_X2_13 rfl ea49 ?_
  refine r_iload_n (pc := 25) (cs := (28, 174)) X dX2_init_25 rfl ?_
  obtain ⟨a50, ea50, hf⟩ := ob hf
  obtain ⟨h51, eh51, hf⟩ := ob hf
  refine r_new (pc := 26) (cs := (28, 174)) X hA zh48 dX2_init_26 nk_X2_11 (N := 6) rfl (Nat.le_of_ble_eq_true rfl) (Nat.le_of_ble_eq_true rfl) ea50 eh51 ?_
  have zh51 : (hsh h51).length = (hsh h).length + 29 := nw_len eh51 zh48
  refine r_dup (pc := 29) (cs := (29, 180)) X dX2_init_29 rfl ?_
  obtain ⟨h52, eh52, hf⟩ := ob hf
  refine r_callI (pc := 30) (cs := (29, 180)) X [] hA zh51 dX2_init_30 ml_X2_17 io_X7_init (evA_X7_init (d := d - 1) (Nat.le_trans (by decide) hdm) _ _ _ eh52) hd1 rfl (Nat.le_of_ble_eq_true rfl) (Nat.le_of_ble_eq_true rfl) (Nat.le_of_ble_eq_true rfl) rfl ?_
  have zh52 : (hsh h52).length = (hsh h).length + 31 := ln_add (ln_X7_init _ _ _ eh52) zh51
  obtain ⟨h53, eh53, hf⟩ := ob hf
  refine r_aast (pc := 33) (cs := (31, 192)) X dX2_init_33 eh53 ?_
  have zh53 : (hsh h53).length = (hsh h).length + 31 := by rw [wR_sh eh53]; exact zh52
  refine r_iinc2 (pc := 34) (cs := (31, 192)) X 1 [some (.ref p0), some (.int 10)] dX2_init_34 (by decide) rfl (by decide) (by decide) rfl ?_
  refine r_goto (pc := 37) (cs := (31, 192)) X 15 dX2_init_37 (by decide) ?_
  refine r_iload_n (pc := 15) (cs := (31, 192)) X dX2_init_15 rfl ?_
  refine r_bipush (pc := 16) (cs := (31, 192)) X 12 dX2_init_16 (by decide) ?_
  refine r_icmp_ge (pc := 18) (cs := (31, 192)) X 40 dX2_init_18 (by decide) (fun q => absurd (by decide) q) (fun _ => ?_)
  refine r_aload_n (pc := 21) (cs := (31, 192)) X dX2_init_21 rfl ?_
  obtain ⟨a54, ea54, hf⟩ := ob hf
  refine r_getR (pc := 22) (cs := (31, 192)) X dX2_init_22 fl_X2_13 rfl ea54 ?_
  refine r_iload_n (pc := 25) (cs := (31, 192)) X dX2_init_25 rfl ?_
  obtain ⟨a55, ea55, hf⟩ := ob hf
  obtain ⟨h56, eh56, hf⟩ := ob hf
  refine r_new (pc := 26) (cs := (31, 192)) X hA zh53 dX2_init_26 nk_X2_11 (N := 6) rfl (Nat.le_of_ble_eq_true rfl) (Nat.le_of_ble_eq_true rfl) ea55 eh56 ?_
  have zh56 : (hsh h56).length = (hsh h).length + 32 := nw_len eh56 zh53
  refine r_dup (pc := 29) (cs := (32, 198)) X dX2_init_29 rfl ?_
  obtain ⟨h57, eh57, hf⟩ := ob hf
  refine r_callI (pc := 30) (cs := (32, 198)) X [] hA zh56 dX2_init_30 ml_X2_17 io_X7_init (evA_X7_init (d := d - 1) (Nat.le_trans (by decide) hdm) _ _ _ eh57) hd1 rfl (Nat.le_of_ble_eq_true rfl) (Nat.le_of_ble_eq_true rfl) (Nat.le_of_ble_eq_true rfl) rfl ?_
  have zh57 : (hsh h57).length = (hsh h).length + 34 := ln_add (ln_X7_init _ _ _ eh57) zh56
  obtain ⟨h58, eh58, hf⟩ := ob hf
  refine r_aast (pc := 33) (cs := (34, 210)) X dX2_init_33 eh58 ?_
  have zh58 : (hsh h58).length = (hsh h).length + 34 := by rw [wR_sh eh58]; exact zh57
  refine r_iinc2 (pc := 34) (cs := (34, 210)) X 1 [some (.ref p0), some (.int 11)] dX2_init_34 (by decide) rfl (by decide) (by decide) rfl ?_
  refine r_goto (pc := 37) (cs := (34, 210)) X 15 dX2_init_37 (by decide) ?_
  refine r_iload_n (pc := 15) (cs := (34, 210)) X dX2_init_15 rfl ?_
  refine r_bipush (pc := 16) (cs := (34, 210)) X 12 dX2_init_16 (by decide) ?_
  refine r_icmp_ge (pc := 18) (cs := (34, 210)) X 40 dX2_init_18 (by decide) (fun q => absurd (by decide) q) (fun _ => ?_)
  refine r_aload_n (pc := 21) (cs := (34, 210)) X dX2_init_21 rfl ?_
  obtain ⟨a59, ea59, hf⟩ := ob hf
  refine r_getR (pc := 22) (cs := (34, 210)) X dX2_init_22 fl_X2_13 rfl ea59 ?_
  refine r_iload_n (pc := 25) (cs := (34, 210)) X dX2_init_25 rfl ?_
  obtain ⟨a60, ea60, hf⟩ := ob hf
  obtain ⟨h61, eh61, hf⟩ := ob hf
  refine r_new (pc := 26) (cs := (34, 210)) X hA zh58 dX2_init_26 nk_X2_11 (N := 6) rfl (Nat.le_of_ble_eq_true rfl) (Nat.le_of_ble_eq_true rfl) ea60 eh61 ?_
  have zh61 : (hsh h61).length = (hsh h).length + 35 := nw_len eh61 zh58
  refine r_dup (pc := 29) (cs := (35, 216)) X dX2_init_29 rfl ?_
  obtain ⟨h62, eh62, hf⟩ := ob hf
  refine r_callI (pc := 30) (cs := (35, 216)) X [] hA zh61 dX2_init_30 ml_X2_17 io_X7_init (evA_X7_init (d := d - 1) (Nat.le_trans (by decide) hdm) _ _ _ eh62) hd1 rfl (Nat.le_of_ble_eq_true rfl) (Nat.le_of_ble_eq_true rfl) (Nat.le_of_ble_eq_true rfl) rfl ?_
  have zh62 : (hsh h62).length = (hsh h).length + 37 := ln_add (ln_X7_init _ _ _ eh62) zh61
  obtain ⟨h63, eh63, hf⟩ := ob hf
  refine r_aast (pc := 33) (cs := (37, 228)) X dX2_init_33 eh63 ?_
  have zh63 : (hsh h63).length = (hsh h).length + 37 := by rw [wR_sh eh63]; exact zh62
  refine r_iinc2 (pc := 34) (cs := (37, 228)) X 1 [some (.ref p0), some (.int 12)] dX2_init_34 (by decide) rfl (by decide) (by decide) rfl ?_
  refine r_goto (pc := 37) (cs := (37, 228)) X 15 dX2_init_37 (by decide) ?_
  refine r_iload_n (pc := 15) (cs := (37, 228)) X dX2_init_15 rfl ?_
  refine r_bipush (pc := 16) (cs := (37, 228)) X 12 dX2_init_16 (by decide) ?_
  refine r_icmp_ge (pc := 18) (cs := (37, 228)) X 40 dX2_init_18 (by decide) (fun _ => ?_) (fun q => absurd q (by decide))
  refine r_aload_n (pc := 40) (cs := (37, 228)) X dX2_init_40 rfl ?_
  refine r_iconst (pc := 41) (cs := (37, 228)) X 2 dX2_init_41 (by decide) ?_
  obtain ⟨a64, ea64, hf⟩ := ob hf
  obtain ⟨h65, eh65, hf⟩ := ob hf
  refine r_anew (pc := 42) (cs := (37, 228)) X hA zh63 dX2_init_42 nc_X2_11 (N := 2) (by decide) (by decide) (by decide) (Nat.le_of_ble_eq_true rfl) (Nat.le_of_ble_eq_true rfl) ea64 eh65 ?_
  have zh65 : (hsh h65).length = (hsh h).length + 38 := nw_len eh65 zh63
  obtain ⟨h66, eh66, hf⟩ := ob hf
  refine r_putRF (pc := 45) (cs := (38, 230)) X hin dX2_init_45 ff_X2_18 (fun _ => ⟨rfl, rfl⟩) rfl eh66 ?_
  have zh66 : (hsh h66).length = (hsh h).length + 38 := by rw [pR_sh eh66]; exact zh65
  refine r_iconst (pc := 48) (cs := (38, 230)) X 0 dX2_init_48 (by decide) ?_
  refine r_istore_n (pc := 49) (cs := (38, 230)) X [some (.ref p0), some (.int 0)] dX2_init_49 (by decide) rfl ?_
  refine r_iload_n (pc := 50) (cs := (38, 230)) X dX2_init_50 rfl ?_
  refine r_iconst (pc := 51) (cs := (38, 230)) X 2 dX2_init_51 (by decide) ?_
  refine r_icmp_ge (pc := 52) (cs := (38, 230)) X 74 dX2_init_52 (by decide) (fun q => absurd (by decide) q) (fun _ => ?_)
  refine r_aload_n (pc := 55) (cs := (38, 230)) X dX2_init_55 rfl ?_
  obtain ⟨a67, ea67, hf⟩ := ob hf
  refine r_getR (pc := 56) (cs := (38, 230)) X dX2_init_56 fl_X2_18 rfl ea67 ?_
  refine r_iload_n (pc := 59) (cs := (38, 230)) X dX2_init_59 rfl ?_
  obtain ⟨a68, ea68, hf⟩ := ob hf
  obtain ⟨h69, eh69, hf⟩ := ob hf
  refine r_new (pc := 60) (cs := (38, 230)) X hA zh66 dX2_init_60 nk_X2_11 (N := 6) rfl (Nat.le_of_ble_eq_true rfl) (Nat.le_of_ble_eq_true rfl) ea68 eh69 ?_
  have zh69 : (hsh h69).length = (hsh h).length + 39 := nw_len eh69 zh66
  refine r_dup (pc := 63) (cs := (39, 236)) X dX2_init_63 rfl ?_
  obtain ⟨h70, eh70, hf⟩ := ob hf
  refine r_callI (pc := 64) (cs := (39, 236)) X [] hA zh69 dX2_init_64 ml_X2_17 io_X7_init (evA_X7_init (d := d - 1) (Nat.le_trans (by decide) hdm) _ _ _ eh70) hd1 rfl (Nat.le_of_ble_eq_true rfl) (Nat.le_of_ble_eq_true rfl) (Nat.le_of_ble_eq_true rfl) rfl ?_
  have zh70 : (hsh h70).length = (hsh h).length + 41 := ln_add (ln_X7_init _ _ _ eh70) zh69
  obtain ⟨h71, eh71, hf⟩ := ob hf
  refine r_aast (pc := 67) (cs := (41, 248)) X dX2_init_67 eh71 ?_
  have zh71 : (hsh h71).length = (hsh h).length + 41 := by rw [wR_sh eh71]; exact zh70
  refine r_iinc2 (pc := 68) (cs := (41, 248)) X 1 [some (.ref p0), some (.int 1)] dX2_init_68 (by decide) rfl (by decide) (by decide) rfl ?_
  refine r_goto (pc := 71) (cs := (41, 248)) X 50 dX2_init_71 (by decide) ?_
  refine r_iload_n (pc := 50) (cs := (41, 248)) X dX2_init_50 rfl ?_
  refine r_iconst (pc := 51) (cs := (41, 248)) X 2 dX2_init_51 (by decide) ?_
  refine r_icmp_ge (pc := 52) (cs := (41, 248)) X 74 dX2_init_52 (by decide) (fun q => absurd (by decide) q) (fun _ => ?_)
  refine r_aload_n (pc := 55) (cs := (41, 248)) X dX2_init_55 rfl ?_
  obtain ⟨a72, ea72, hf⟩ := ob hf
  refine r_getR (pc := 56) (cs := (41, 248)) X dX2_init_56 fl_X2_18 rfl ea72 ?_
  refine r_iload_n (pc := 59) (cs := (41, 248)) X dX2_init_59 rfl ?_
  obtain ⟨a73, ea73, hf⟩ := ob hf
  obtain ⟨h74, eh74, hf⟩ := ob hf
  refine r_new (pc := 60) (cs := (41, 248)) X hA zh71 dX2_init_60 nk_X2_11 (N := 6) rfl (Nat.le_of_ble_eq_true rfl) (Nat.le_of_ble_eq_true rfl) ea73 eh74 ?_
  have zh74 : (hsh h74).length = (hsh h).length + 42 := nw_len eh74 zh71
  refine r_dup (pc := 63) (cs := (42, 254)) X dX2_init_63 rfl ?_
  obtain ⟨h75, eh75, hf⟩ := ob hf
  refine r_callI (pc := 64) (cs := (42, 254)) X [] hA zh74 dX2_init_64 ml_X2_17 io_X7_init (evA_X7_init (d := d - 1) (Nat.le_trans (by decide) hdm) _ _ _ eh75) hd1 rfl (Nat.le_of_ble_eq_true rfl) (Nat.le_of_ble_eq_true rfl) (Nat.le_of_ble_eq_true rfl) rfl ?_
  have zh75 : (hsh h75).length = (hsh h).length + 44 := ln_add (ln_X7_init _ _ _ eh75) zh74
  obtain ⟨h76, eh76, hf⟩ := ob hf
  refine r_aast (pc := 67) (cs := (44, 266)) X dX2_init_67 eh76 ?_
  have zh76 : (hsh h76).length = (hsh h).length + 44 := by rw [wR_sh eh76]; exact zh75
  refine r_iinc2 (pc := 68) (cs := (44, 266)) X 1 [some (.ref p0), some (.int 2)] dX2_init_68 (by decide) rfl (by decide) (by decide) rfl ?_
  refine r_goto (pc := 71) (cs := (44, 266)) X 50 dX2_init_71 (by decide) ?_
  refine r_iload_n (pc := 50) (cs := (44, 266)) X dX2_init_50 rfl ?_
  refine r_iconst (pc := 51) (cs := (44, 266)) X 2 dX2_init_51 (by decide) ?_
  refine r_icmp_ge (pc := 52) (cs := (44, 266)) X 74 dX2_init_52 (by decide) (fun _ => ?_) (fun q => absurd q (by decide))
  refine r_aload_n (pc := 74) (cs := (44, 266)) X dX2_init_74 rfl ?_
  refine r_iconst (pc := 75) (cs := (44, 266)) X 2 dX2_init_75 (by decide) ?_
  obtain ⟨a77, ea77, hf⟩ := ob hf
  obtain ⟨h78, eh78, hf⟩ := ob hf
  refine r_newa (pc := 76) (cs := (44, 266)) X hA zh76 dX2_init_76 ac_boolean (Or.inr (Or.inr (Or.inr (Or.inr ⟨rfl, rfl⟩)))) (N := 2) (by decide) (by decide) (by decide) (Nat.le_of_ble_eq_true rfl) (Nat.le_of_ble_eq_true rfl) ea77 eh78 ?_
  have zh78 : (hsh h78).length = (hsh h).length + 45 := nw_len eh78 zh76
  obtain ⟨h79, eh79, hf⟩ := ob hf
  refine r_putRF (pc := 78) (cs := (45, 268)) X hin dX2_init_78 ff_X2_21 (fun _ => ⟨rfl, rfl⟩) rfl eh79 ?_
  have zh79 : (hsh h79).length = (hsh h).length + 45 := by rw [pR_sh eh79]; exact zh78
  obtain rfl := Option.some.inj hf
  exact r_vretA (pc := 81) X hA zh79 dX2_init_81 hk

theorem dX11_init_0 : decode cX11_init 0 = .ok (.aload_n 0, 1) := by decide +kernel
theorem dX11_init_1 : decode cX11_init 1 = .ok (.invokespecial 3, 3) := by decide +kernel
theorem dX11_init_4 : decode cX11_init 4 = .ok (.aload_n 0, 1) := by decide +kernel
theorem dX11_init_5 : decode cX11_init 5 = .ok (.new 9, 3) := by decide +kernel
theorem dX11_init_8 : decode cX11_init 8 = .ok (.dup, 1) := by decide +kernel
theorem dX11_init_9 : decode cX11_init 9 = .ok (.invokespecial 11, 3) := by decide +kernel
theorem dX11_init_12 : decode cX11_init 12 = .ok (.putfield 12, 3) := by decide +kernel
theorem dX11_init_15 : decode cX11_init 15 = .ok (.aload_n 0, 1) := by decide +kernel
theorem dX11_init_16 : decode cX11_init 16 = .ok (.new 16, 3) := by decide +kernel
theorem dX11_init_19 : decode cX11_init 19 = .ok (.dup, 1) := by decide +kernel
theorem dX11_init_20 : decode cX11_init 20 = .ok (.invokespecial 18, 3) := by decide +kernel
theorem dX11_init_23 : decode cX11_init 23 = .ok (.putfield 19, 3) := by decide +kernel
theorem dX11_init_26 : decode cX11_init 26 = .ok (.aload_n 0, 1) := by decide +kernel
theorem dX11_init_27 : decode cX11_init 27 = .ok (.new 23, 3) := by decide +kernel
theorem dX11_init_30 : decode cX11_init 30 = .ok (.dup, 1) := by decide +kernel
theorem dX11_init_31 : decode cX11_init 31 = .ok (.aload_n 0, 1) := by decide +kernel
theorem dX11_init_32 : decode cX11_init 32 = .ok (.getfield 19, 3) := by decide +kernel
theorem dX11_init_35 : decode cX11_init 35 = .ok (.invokespecial 25, 3) := by decide +kernel
theorem dX11_init_38 : decode cX11_init 38 = .ok (.putfield 28, 3) := by decide +kernel
theorem dX11_init_41 : decode cX11_init 41 = .ok (.aload_n 0, 1) := by decide +kernel
theorem dX11_init_42 : decode cX11_init 42 = .ok (.new 32, 3) := by decide +kernel
theorem dX11_init_45 : decode cX11_init 45 = .ok (.dup, 1) := by decide +kernel
theorem dX11_init_46 : decode cX11_init 46 = .ok (.invokespecial 34, 3) := by decide +kernel
theorem dX11_init_49 : decode cX11_init 49 = .ok (.putfield 35, 3) := by decide +kernel
theorem dX11_init_52 : decode cX11_init 52 = .ok (.aload_n 0, 1) := by decide +kernel
theorem dX11_init_53 : decode cX11_init 53 = .ok (.new 39, 3) := by decide +kernel
theorem dX11_init_56 : decode cX11_init 56 = .ok (.dup, 1) := by decide +kernel
theorem dX11_init_57 : decode cX11_init 57 = .ok (.invokespecial 41, 3) := by decide +kernel
theorem dX11_init_60 : decode cX11_init 60 = .ok (.putfield 42, 3) := by decide +kernel
theorem dX11_init_63 : decode cX11_init 63 = .ok (.aload_n 0, 1) := by decide +kernel
theorem dX11_init_64 : decode cX11_init 64 = .ok (.new 39, 3) := by decide +kernel
theorem dX11_init_67 : decode cX11_init 67 = .ok (.dup, 1) := by decide +kernel
theorem dX11_init_68 : decode cX11_init 68 = .ok (.invokespecial 41, 3) := by decide +kernel
theorem dX11_init_71 : decode cX11_init 71 = .ok (.putfield 46, 3) := by decide +kernel
theorem dX11_init_74 : decode cX11_init 74 = .ok (.aload_n 0, 1) := by decide +kernel
theorem dX11_init_75 : decode cX11_init 75 = .ok (.new 49, 3) := by decide +kernel
theorem dX11_init_78 : decode cX11_init 78 = .ok (.dup, 1) := by decide +kernel
theorem dX11_init_79 : decode cX11_init 79 = .ok (.aload_n 0, 1) := by decide +kernel
theorem dX11_init_80 : decode cX11_init 80 = .ok (.getfield 12, 3) := by decide +kernel
theorem dX11_init_83 : decode cX11_init 83 = .ok (.invokespecial 51, 3) := by decide +kernel
theorem dX11_init_86 : decode cX11_init 86 = .ok (.putfield 54, 3) := by decide +kernel
theorem dX11_init_89 : decode cX11_init 89 = .ok (.aload_n 0, 1) := by decide +kernel
theorem dX11_init_90 : decode cX11_init 90 = .ok (.new 58, 3) := by decide +kernel
theorem dX11_init_93 : decode cX11_init 93 = .ok (.dup, 1) := by decide +kernel
theorem dX11_init_94 : decode cX11_init 94 = .ok (.invokespecial 60, 3) := by decide +kernel
theorem dX11_init_97 : decode cX11_init 97 = .ok (.putfield 61, 3) := by decide +kernel
theorem dX11_init_100 : decode cX11_init 100 = .ok (.aload_n 0, 1) := by decide +kernel
theorem dX11_init_101 : decode cX11_init 101 = .ok (.new 58, 3) := by decide +kernel
theorem dX11_init_104 : decode cX11_init 104 = .ok (.dup, 1) := by decide +kernel
theorem dX11_init_105 : decode cX11_init 105 = .ok (.invokespecial 60, 3) := by decide +kernel
theorem dX11_init_108 : decode cX11_init 108 = .ok (.putfield 65, 3) := by decide +kernel
theorem dX11_init_111 : decode cX11_init 111 = .ok (.aload_n 0, 1) := by decide +kernel
theorem dX11_init_112 : decode cX11_init 112 = .ok (.new 58, 3) := by decide +kernel
theorem dX11_init_115 : decode cX11_init 115 = .ok (.dup, 1) := by decide +kernel
theorem dX11_init_116 : decode cX11_init 116 = .ok (.invokespecial 60, 3) := by decide +kernel
theorem dX11_init_119 : decode cX11_init 119 = .ok (.putfield 68, 3) := by decide +kernel
theorem dX11_init_122 : decode cX11_init 122 = .ok (.aload_n 0, 1) := by decide +kernel
theorem dX11_init_123 : decode cX11_init 123 = .ok (.new 71, 3) := by decide +kernel
theorem dX11_init_126 : decode cX11_init 126 = .ok (.dup, 1) := by decide +kernel
theorem dX11_init_127 : decode cX11_init 127 = .ok (.invokespecial 73, 3) := by decide +kernel
theorem dX11_init_130 : decode cX11_init 130 = .ok (.putfield 74, 3) := by decide +kernel
theorem dX11_init_133 : decode cX11_init 133 = .ok (.aload_n 0, 1) := by decide +kernel
theorem dX11_init_134 : decode cX11_init 134 = .ok (.new 78, 3) := by decide +kernel
theorem dX11_init_137 : decode cX11_init 137 = .ok (.dup, 1) := by decide +kernel
theorem dX11_init_138 : decode cX11_init 138 = .ok (.invokespecial 80, 3) := by decide +kernel
theorem dX11_init_141 : decode cX11_init 141 = .ok (.putfield 81, 3) := by decide +kernel
theorem dX11_init_144 : decode cX11_init 144 = .ok (.aload_n 0, 1) := by decide +kernel
theorem dX11_init_145 : decode cX11_init 145 = .ok (.new 85, 3) := by decide +kernel
theorem dX11_init_148 : decode cX11_init 148 = .ok (.dup, 1) := by decide +kernel
theorem dX11_init_149 : decode cX11_init 149 = .ok (.invokespecial 87, 3) := by decide +kernel
theorem dX11_init_152 : decode cX11_init 152 = .ok (.putfield 88, 3) := by decide +kernel
theorem dX11_init_155 : decode cX11_init 155 = .ok (.aload_n 0, 1) := by decide +kernel
theorem dX11_init_156 : decode cX11_init 156 = .ok (.sipush 168, 3) := by decide +kernel
theorem dX11_init_159 : decode cX11_init 159 = .ok (.newarray .long, 2) := by decide +kernel
theorem dX11_init_161 : decode cX11_init 161 = .ok (.putfield 92, 3) := by decide +kernel
theorem dX11_init_164 : decode cX11_init 164 = .ok (.aload_n 0, 1) := by decide +kernel
theorem dX11_init_165 : decode cX11_init 165 = .ok (.bipush 6, 2) := by decide +kernel
theorem dX11_init_167 : decode cX11_init 167 = .ok (.newarray .int, 2) := by decide +kernel
theorem dX11_init_169 : decode cX11_init 169 = .ok (.putfield 96, 3) := by decide +kernel
theorem dX11_init_172 : decode cX11_init 172 = .ok (.aload_n 0, 1) := by decide +kernel
theorem dX11_init_173 : decode cX11_init 173 = .ok (.bipush 21, 2) := by decide +kernel
theorem dX11_init_175 : decode cX11_init 175 = .ok (.newarray .int, 2) := by decide +kernel
theorem dX11_init_177 : decode cX11_init 177 = .ok (.putfield 102, 3) := by decide +kernel
theorem dX11_init_180 : decode cX11_init 180 = .ok (.return_, 1) := by decide +kernel
def fn_X11_init (h : aH) (p0 : Nat) : Option aH :=
  (some (hsh h).length).bind fun a1 =>
  (some (nw h (7, 0))).bind fun h2 =>
  (fn_X8_init h2 a1).bind fun h3 =>
  (pR h3 p0 10 0 a1).bind fun h4 =>
  (some (hsh h4).length).bind fun a5 =>
  (some (nw h4 (0, 0))).bind fun h6 =>
  (fn_X0_init h6 a5).bind fun h7 =>
  (pR h7 p0 10 1 a5).bind fun h8 =>
  (some (hsh h8).length).bind fun a9 =>
  (some (nw h8 (9, 0))).bind fun h10 =>
  (gR h10 p0 10 1).bind fun a11 =>
  (fn_X10_init h10 a9 a11).bind fun h12 =>
  (pR h12 p0 10 2 a9).bind fun h13 =>
  (some (hsh h13).length).bind fun a14 =>
  (some (nw h13 (8, 0))).bind fun h15 =>
  (fn_X9_init h15 a14).bind fun h16 =>
  (pR h16 p0 10 3 a14).bind fun h17 =>
  (some (hsh h17).length).bind fun a18 =>
  (some (nw h17 (3, 0))).bind fun h19 =>
  (fn_X4_init h19 a18).bind fun h20 =>
  (pR h20 p0 10 4 a18).bind fun h21 =>
  (some (hsh h21).length).bind fun a22 =>
  (some (nw h21 (3, 0))).bind fun h23 =>
  (fn_X4_init h23 a22).bind fun h24 =>
  (pR h24 p0 10 5 a22).bind fun h25 =>
  (some (hsh h25).length).bind fun a26 =>
  (some (nw h25 (4, 0))).bind fun h27 =>
  (gR h27 p0 10 0).bind fun a28 =>
  (fn_X5_init h27 a26 a28).bind fun h29 =>
  (pR h29 p0 10 6 a26).bind fun h30 =>
  (some (hsh h30).length).bind fun a31 =>
  (some (nw h30 (6, 0))).bind fun h32 =>
  (fn_X7_init h32 a31).bind fun h33 =>
  (pR h33 p0 10 7 a31).bind fun h34 =>
  (some (hsh h34).length).bind fun a35 =>
  (some (nw h34 (6, 0))).bind fun h36 =>
  (fn_X7_init h36 a35).bind fun h37 =>
  (pR h37 p0 10 8 a35).bind fun h38 =>
  (some (hsh h38).length).bind fun a39 =>
  (some (nw h38 (6, 0))).bind fun h40 =>
  (fn_X7_init h40 a39).bind fun h41 =>
  (pR h41 p0 10 9 a39).bind fun h42 =>
  (some (hsh h42).length).bind fun a43 =>
  (some (nw h42 (1, 0))).bind fun h44 =>
  (fn_X2_init h44 a43).bind fun h45 =>
  (pR h45 p0 10 10 a43).bind fun h46 =>
  (some (hsh h46).length).bind fun a47 =>
  (some (nw h46 (2, 0))).bind fun h48 =>
  (fn_X3_init h48 a47).bind fun h49 =>
  (pR h49 p0 10 11 a47).bind fun h50 =>
  (some (hsh h50).length).bind fun a51 =>
  (some (nw h50 (5, 0))).bind fun h52 =>
  (fn_X6_init h52 a51).bind fun h53 =>
  (pR h53 p0 10 12 a51).bind fun h54 =>
  (some (hsh h54).length).bind fun a55 =>
  (some (nw h54 (15, 168))).bind fun h56 =>
  (pR h56 p0 10 13 a55).bind fun h57 =>
  (some (hsh h57).length).bind fun a58 =>
  (some (nw h57 (14, 6))).bind fun h59 =>
  (pR h59 p0 10 14 a58).bind fun h60 =>
  (some (hsh h60).length).bind fun a61 =>
  (some (nw h60 (14, 21))).bind fun h62 =>
  (pR h62 p0 10 15 a61).bind fun h63 =>
  some h63
set_option maxRecDepth 20000 in
set_option maxHeartbeats 4000000 in
theorem ln_X11_init (h : aH) (p0 : Nat) (o : aH) (hf : fn_X11_init h p0 = some o) : (hsh o).length = (hsh h).length + 85 := by
  unfold fn_X11_init at hf
  have zh : (hsh h).length = (hsh h).length + 0 := rfl
  obtain ⟨a1, ea1, hf⟩ := ob hf
  obtain ⟨h2, eh2, hf⟩ := ob hf
  have zh2 : (hsh h2).length = (hsh h).length + 1 := nw_len eh2 zh
  obtain ⟨h3, eh3, hf⟩ := ob hf
  have zh3 : (hsh h3).length = (hsh h).length + 2 := ln_add (ln_X8_init _ _ _ eh3) zh2
  obtain ⟨h4, eh4, hf⟩ := ob hf
  have zh4 : (hsh h4).length = (hsh h).length + 2 := by rw [pR_sh eh4]; exact zh3
  obtain ⟨a5, ea5, hf⟩ := ob hf
  obtain ⟨h6, eh6, hf⟩ := ob hf
  have zh6 : (hsh h6).length = (hsh h).length + 3 := nw_len eh6 zh4
  obtain ⟨h7, eh7, hf⟩ := ob hf
  have zh7 : (hsh h7).length = (hsh h).length + 8 := ln_add (ln_X0_init _ _ _ eh7) zh6
  obtain ⟨h8, eh8, hf⟩ := ob hf
  have zh8 : (hsh h8).length = (hsh h).length + 8 := by rw [pR_sh eh8]; exact zh7
  obtain ⟨a9, ea9, hf⟩ := ob hf
  obtain ⟨h10, eh10, hf⟩ := ob hf
  have zh10 : (hsh h10).length = (hsh h).length + 9 := nw_len eh10 zh8
  obtain ⟨a11, ea11, hf⟩ := ob hf
  obtain ⟨h12, eh12, hf⟩ := ob hf
  have zh12 : (hsh h12).length = (hsh h).length + 10 := ln_add (ln_X10_init _ _ _ _ eh12) zh10
  obtain ⟨h13, eh13, hf⟩ := ob hf
  have zh13 : (hsh h13).length = (hsh h).length + 10 := by rw [pR_sh eh13]; exact zh12
  obtain ⟨a14, ea14, hf⟩ := ob hf
  obtain ⟨h15, eh15, hf⟩ := ob hf
  have zh15 : (hsh h15).length = (hsh h).length + 11 := nw_len eh15 zh13
  obtain ⟨h16, eh16, hf⟩ := ob hf
  have zh16 : (hsh h16).length = (hsh h).length + 13 := ln_add (ln_X9_init _ _ _ eh16) zh15
  obtain ⟨h17, eh17, hf⟩ := ob hf
  have zh17 : (hsh h17).length = (hsh h).length + 13 := by rw [pR_sh eh17]; exact zh16
  obtain ⟨a18, ea18, hf⟩ := ob hf
  obtain ⟨h19, eh19, hf⟩ := ob hf
  have zh19 : (hsh h19).length = (hsh h).length + 14 := nw_len eh19 zh17
  obtain ⟨h20, eh20, hf⟩ := ob hf
  have zh20 : (hsh h20).length = (hsh h).length + 16 := ln_add (ln_X4_init _ _ _ eh20) zh19
  obtain ⟨h21, eh21, hf⟩ := ob hf
  have zh21 : (hsh h21).length = (hsh h).length + 16 := by rw [pR_sh eh21]; exact zh20
  obtain ⟨a22, ea22, hf⟩ := ob hf
  obtain ⟨h23, eh23, hf⟩ := ob hf
  have zh23 : (hsh h23).length = (hsh h).length + 17 := nw_len eh23 zh21
  obtain ⟨h24, eh24, hf⟩ := ob hf
  have zh24 : (hsh h24).length = (hsh h).length + 19 := ln_add (ln_X4_init _ _ _ eh24) zh23
  obtain ⟨h25, eh25, hf⟩ := ob hf
  have zh25 : (hsh h25).length = (hsh h).length + 19 := by rw [pR_sh eh25]; exact zh24
  obtain ⟨a26, ea26, hf⟩ := ob hf
  obtain ⟨h27, eh27, hf⟩ := ob hf
  have zh27 : (hsh h27).length = (hsh h).length + 20 := nw_len eh27 zh25
  obtain ⟨a28, ea28, hf⟩ := ob hf
  obtain ⟨h29, eh29, hf⟩ := ob hf
  have zh29 : (hsh h29).length = (hsh h).length + 21 := ln_add (ln_X5_init _ _ _ _ eh29) zh27
  obtain ⟨h30, eh30, hf⟩ := ob hf
  have zh30 : (hsh h30).length = (hsh h).length + 21 := by rw [pR_sh eh30]; exact zh29
  obtain ⟨a31, ea31, hf⟩ := ob hf
  obtain ⟨h32, eh32, hf⟩ := ob hf
  have zh32 : (hsh h32).length = (hsh h).length + 22 := nw_len eh32 zh30
  obtain ⟨h33, eh33, hf⟩ := ob hf
  have zh33 : (hsh h33).length = (hsh h).length + 24 := ln_add (ln_X7_init _ _ _ eh33) zh32
  obtain ⟨h34, eh34, hf⟩ := ob hf
  have zh34 : (hsh h34).length = (hsh h).length + 24 := by rw [pR_sh eh34]; exact zh33
  obtain ⟨a35, ea35, hf⟩ := ob hf
  obtain ⟨h36, eh36, hf⟩ := ob hf
  have zh36 : (hsh h36).length = (hsh h).length + 25 := nw_len eh36 zh34
  obtain ⟨h37, eh37, hf⟩ := ob hf
  have zh37 : (hsh h37).length = (hsh h).length + 27 := ln_add (ln_X7_init _ _ _ eh37) zh36
  obtain ⟨h38, eh38, hf⟩ := ob hf
  have zh38 : (hsh h38).length = (hsh h).length + 27 := by rw [pR_sh eh38]; exact zh37
  obtain ⟨a39, ea39, hf⟩ := ob hf
  obtain ⟨h40, eh40, hf⟩ := ob hf
  have zh40 : (hsh h40).length = (hsh h).length + 28 := nw_len eh40 zh38
  obtain ⟨h41, eh41, hf⟩ := ob hf
  have zh41 : (hsh h41).length = (hsh h).length + 30 := ln_add (ln_X7_init _ _ _ eh41) zh40
  obtain ⟨h42, eh42, hf⟩ := ob hf
  have zh42 : (hsh h42).length = (hsh h).length + 30 := by rw [pR_sh eh42]; exact zh41
  obtain ⟨a43, ea43, hf⟩ := ob hf
  obtain ⟨h44, eh44, hf⟩ := ob hf
  have zh44 : (hsh h44).length = (hsh h).length + 31 := nw_len eh44 zh42
  obtain ⟨h45, eh45, hf⟩ := ob hf
  have zh45 : (hsh h45).length = (hsh h).length + 76 := ln_add (ln_X2_init _ _ _ eh45) zh44
  obtain ⟨h46, eh46, hf⟩ := ob hf
  have zh46 : (hsh h46).length = (hsh h).length + 76 := by rw [pR_sh eh46]; exact zh45
  obtain ⟨a47, ea47, hf⟩ := ob hf
  obtain ⟨h48, eh48, hf⟩ := ob hf
  have zh48 : (hsh h48).length = (hsh h).length + 77 := nw_len eh48 zh46
  obtain ⟨h49, eh49, hf⟩ := ob hf
  have zh49 : (hsh h49).length = (hsh h).length + 78 := ln_add (ln_X3_init _ _ _ eh49) zh48
  obtain ⟨h50, eh50, hf⟩ := ob hf
  have zh50 : (hsh h50).length = (hsh h).length + 78 := by rw [pR_sh eh50]; exact zh49
  obtain ⟨a51, ea51, hf⟩ := ob hf
  obtain ⟨h52, eh52, hf⟩ := ob hf
  have zh52 : (hsh h52).length = (hsh h).length + 79 := nw_len eh52 zh50
  obtain ⟨h53, eh53, hf⟩ := ob hf
  have zh53 : (hsh h53).length = (hsh h).length + 82 := ln_add (ln_X6_init _ _ _ eh53) zh52
  obtain ⟨h54, eh54, hf⟩ := ob hf
  have zh54 : (hsh h54).length = (hsh h).length + 82 := by rw [pR_sh eh54]; exact zh53
  obtain ⟨a55, ea55, hf⟩ := ob hf
  obtain ⟨h56, eh56, hf⟩ := ob hf
  have zh56 : (hsh h56).length = (hsh h).length + 83 := nw_len eh56 zh54
  obtain ⟨h57, eh57, hf⟩ := ob hf
  have zh57 : (hsh h57).length = (hsh h).length + 83 := by rw [pR_sh eh57]; exact zh56
  obtain ⟨a58, ea58, hf⟩ := ob hf
  obtain ⟨h59, eh59, hf⟩ := ob hf
  have zh59 : (hsh h59).length = (hsh h).length + 84 := nw_len eh59 zh57
  obtain ⟨h60, eh60, hf⟩ := ob hf
  have zh60 : (hsh h60).length = (hsh h).length + 84 := by rw [pR_sh eh60]; exact zh59
  obtain ⟨a61, ea61, hf⟩ := ob hf
  obtain ⟨h62, eh62, hf⟩ := ob hf
  have zh62 : (hsh h62).length = (hsh h).length + 85 := nw_len eh62 zh60
  obtain ⟨h63, eh63, hf⟩ := ob hf
  have zh63 : (hsh h63).length = (hsh h).length + 85 := by rw [pR_sh eh63]; exact zh62
  obtain rfl := Option.some.inj hf
  exact zh63
set_option maxRecDepth 20000 in
set_option maxHeartbeats 4000000 in
theorem evA_X11_init {l : Launch} {g : aG} {d : Nat} (hd : 3 ≤ d) (h : aH) (p0 : Nat) (o : aH) (hf : fn_X11_init h p0 = some o) : EvA l g d yX11_init cX11_init 1 [.ref p0] h o 85 941 := by
  refine EvA.of mk_X11_init rfl (Nat.le_of_ble_eq_true rfl) ?_
  intro Γ hl hg hk hin hA X
  have hd1 : 1 ≤ d := by omega
  have hdm : 2 ≤ d - 1 := by omega
  unfold fn_X11_init at hf
  have zh : (hsh h).length = (hsh h).length + 0 := rfl
  show Jd Γ (0, 0) 0 [some (.ref p0)] [] h
  refine r_aload_n (pc := 0) (cs := (0, 0)) X dX11_init_0 rfl ?_
  refine r_objInit (pc := 1) (cs := (0, 0)) X dX11_init_1 oi_X11_3 oi_inst oi_code hd1 (Nat.le_of_ble_eq_true rfl) ?_
  refine r_aload_n (pc := 4) (cs := (0, 0)) X dX11_init_4 rfl ?_
  obtain ⟨a1, ea1, hf⟩ := ob hf
  obtain ⟨h2, eh2, hf⟩ := ob hf
  refine r_new (pc := 5) (cs := (0, 0)) X hA zh dX11_init_5 nk_X11_9 (N := 2) rfl (Nat.le_of_ble_eq_true rfl) (Nat.le_of_ble_eq_true rfl) ea1 eh2 ?_
  have zh2 : (hsh h2).length = (hsh h).length + 1 := nw_len eh2 zh
  refine r_dup (pc := 8) (cs := (1, 2)) X dX11_init_8 rfl ?_
  obtain ⟨h3, eh3, hf⟩ := ob hf
  refine r_callI (pc := 9) (cs := (1, 2)) X [] hA zh2 dX11_init_9 ml_X11_11 io_X8_init (evA_X8_init (d := d - 1) (Nat.le_trans (by decide) hdm) _ _ _ eh3) hd1 rfl (Nat.le_of_ble_eq_true rfl) (Nat.le_of_ble_eq_true rfl) (Nat.le_of_ble_eq_true rfl) rfl ?_
  have zh3 : (hsh h3).length = (hsh h).length + 2 := ln_add (ln_X8_init _ _ _ eh3) zh2
  obtain ⟨h4, eh4, hf⟩ := ob hf
  refine r_putRF (pc := 12) (cs := (2, 82)) X hin dX11_init_12 ff_X11_12 (fun _ => ⟨rfl, rfl⟩) rfl eh4 ?_
  have zh4 : (hsh h4).length = (hsh h).length + 2 := by rw [pR_sh eh4]; exact zh3
  refine r_aload_n (pc := 15) (cs := (2, 82)) X dX11_init_15 rfl ?_
  obtain ⟨a5, ea5, hf⟩ := ob hf
  obtain ⟨h6, eh6, hf⟩ := ob hf
  refine r_new (pc := 16) (cs := (2, 82)) X hA zh4 dX11_init_16 nk_X11_16 (N := 10) rfl (Nat.le_of_ble_eq_true rfl) (Nat.le_of_ble_eq_true rfl) ea5 eh6 ?_
  have zh6 : (hsh h6).length = (hsh h).length + 3 := nw_len eh6 zh4
  refine r_dup (pc := 19) (cs := (3, 92)) X dX11_init_19 rfl ?_
  obtain ⟨h7, eh7, hf⟩ := ob hf
  refine r_callI (pc := 20) (cs := (3, 92)) X [] hA zh6 dX11_init_20 ml_X11_18 io_X0_init (evA_X0_init (d := d - 1) (Nat.le_trans (by decide) hdm) _ _ _ eh7) hd1 rfl (Nat.le_of_ble_eq_true rfl) (Nat.le_of_ble_eq_true rfl) (Nat.le_of_ble_eq_true rfl) rfl ?_
  have zh7 : (hsh h7).length = (hsh h).length + 8 := ln_add (ln_X0_init _ _ _ eh7) zh6
  obtain ⟨h8, eh8, hf⟩ := ob hf
  refine r_putRF (pc := 23) (cs := (8, 131)) X hin dX11_init_23 ff_X11_19 (fun _ => ⟨rfl, rfl⟩) rfl eh8 ?_
  have zh8 : (hsh h8).length = (hsh h).length + 8 := by rw [pR_sh eh8]; exact zh7
  refine r_aload_n (pc := 26) (cs := (8, 131)) X dX11_init_26 rfl ?_
  obtain ⟨a9, ea9, hf⟩ := ob hf
  obtain ⟨h10, eh10, hf⟩ := ob hf
  refine r_new (pc := 27) (cs := (8, 131)) X hA zh8 dX11_init_27 nk_X11_23 (N := 2) rfl (Nat.le_of_ble_eq_true rfl) (Nat.le_of_ble_eq_true rfl) ea9 eh10 ?_
  have zh10 : (hsh h10).length = (hsh h).length + 9 := nw_len eh10 zh8
  refine r_dup (pc := 30) (cs := (9, 133)) X dX11_init_30 rfl ?_
  refine r_aload_n (pc := 31) (cs := (9, 133)) X dX11_init_31 rfl ?_
  obtain ⟨a11, ea11, hf⟩ := ob hf
  refine r_getR (pc := 32) (cs := (9, 133)) X dX11_init_32 fl_X11_19 rfl ea11 ?_
  obtain ⟨h12, eh12, hf⟩ := ob hf
  refine r_callI (pc := 35) (cs := (9, 133)) X [.ref a11] hA zh10 dX11_init_35 ml_X11_25 io_X10_init (evA_X10_init (d := d - 1) (Nat.le_trans (by decide) hdm) _ _ _ _ eh12) hd1 rfl (Nat.le_of_ble_eq_true rfl) (Nat.le_of_ble_eq_true rfl) (Nat.le_of_ble_eq_true rfl) rfl ?_
  have zh12 : (hsh h12).length = (hsh h).length + 10 := ln_add (ln_X10_init _ _ _ _ eh12) zh10
  obtain ⟨h13, eh13, hf⟩ := ob hf
  refine r_putRF (pc := 38) (cs := (10, 139)) X hin dX11_init_38 ff_X11_28 (fun _ => ⟨rfl, rfl⟩) rfl eh13 ?_
  have zh13 : (hsh h13).length = (hsh h).length + 10 := by rw [pR_sh eh13]; exact zh12
  refine r_aload_n (pc := 41) (cs := (10, 139)) X dX11_init_41 rfl ?_
  obtain ⟨a14, ea14, hf⟩ := ob hf
  obtain ⟨h15, eh15, hf⟩ := ob hf
  refine r_new (pc := 42) (cs := (10, 139)) X hA zh13 dX11_init_42 nk_X11_32 (N := 3) rfl (Nat.le_of_ble_eq_true rfl) (Nat.le_of_ble_eq_true rfl) ea14 eh15 ?_
  have zh15 : (hsh h15).length = (hsh h).length + 11 := nw_len eh15 zh13
  refine r_dup (pc := 45) (cs := (11, 142)) X dX11_init_45 rfl ?_
  obtain ⟨h16, eh16, hf⟩ := ob hf
  refine r_callI (pc := 46) (cs := (11, 142)) X [] hA zh15 dX11_init_46 ml_X11_34 io_X9_init (evA_X9_init (d := d - 1) (Nat.le_trans (by decide) hdm) _ _ _ eh16) hd1 rfl (Nat.le_of_ble_eq_true rfl) (Nat.le_of_ble_eq_true rfl) (Nat.le_of_ble_eq_true rfl) rfl ?_
  have zh16 : (hsh h16).length = (hsh h).length + 13 := ln_add (ln_X9_init _ _ _ eh16) zh15
  obtain ⟨h17, eh17, hf⟩ := ob hf
  refine r_putRF (pc := 49) (cs := (13, 154)) X hin dX11_init_49 ff_X11_35 (fun _ => ⟨rfl, rfl⟩) rfl eh17 ?_
  have zh17 : (hsh h17).length = (hsh h).length + 13 := by rw [pR_sh eh17]; exact zh16
  refine r_aload_n (pc := 52) (cs := (13, 154)) X dX11_init_52 rfl ?_
  obtain ⟨a18, ea18, hf⟩ := ob hf
  obtain ⟨h19, eh19, hf⟩ := ob hf
  refine r_new (pc := 53) (cs := (13, 154)) X hA zh17 dX11_init_53 nk_X11_39 (N := 3) rfl (Nat.le_of_ble_eq_true rfl) (Nat.le_of_ble_eq_true rfl) ea18 eh19 ?_
  have zh19 : (hsh h19).length = (hsh h).length + 14 := nw_len eh19 zh17
  refine r_dup (pc := 56) (cs := (14, 157)) X dX11_init_56 rfl ?_
  obtain ⟨h20, eh20, hf⟩ := ob hf
  refine r_callI (pc := 57) (cs := (14, 157)) X [] hA zh19 dX11_init_57 ml_X11_41 io_X4_init (evA_X4_init (d := d - 1) (Nat.le_trans (by decide) hdm) _ _ _ eh20) hd1 rfl (Nat.le_of_ble_eq_true rfl) (Nat.le_of_ble_eq_true rfl) (Nat.le_of_ble_eq_true rfl) rfl ?_
  have zh20 : (hsh h20).length = (hsh h).length + 16 := ln_add (ln_X4_init _ _ _ eh20) zh19
  obtain ⟨h21, eh21, hf⟩ := ob hf
  refine r_putRF (pc := 60) (cs := (16, 237)) X hin dX11_init_60 ff_X11_42 (fun _ => ⟨rfl, rfl⟩) rfl eh21 ?_
  have zh21 : (hsh h21).length = (hsh h).length + 16 := by rw [pR_sh eh21]; exact zh20
  refine r_aload_n (pc := 63) (cs := (16, 237)) X dX11_init_63 rfl ?_
  obtain ⟨a22, ea22, hf⟩ := ob hf
  obtain ⟨h23, eh23, hf⟩ := ob hf
  refine r_new (pc := 64) (cs := (16, 237)) X hA zh21 dX11_init_64 nk_X11_39 (N := 3) rfl (Nat.le_of_ble_eq_true rfl) (Nat.le_of_ble_eq_true rfl) ea22 eh23 ?_
  have zh23 : (hsh h23).length = (hsh h).length + 17 := nw_len eh23 zh21
  refine r_dup (pc := 67) (cs := (17, 240)) X dX11_init_67 rfl ?_
  obtain ⟨h24, eh24, hf⟩ := ob hf
  refine r_callI (pc := 68) (cs := (17, 240)) X [] hA zh23 dX11_init_68 ml_X11_41 io_X4_init (evA_X4_init (d := d - 1) (Nat.le_trans (by decide) hdm) _ _ _ eh24) hd1 rfl (Nat.le_of_ble_eq_true rfl) (Nat.le_of_ble_eq_true rfl) (Nat.le_of_ble_eq_true rfl) rfl ?_
  have zh24 : (hsh h24).length = (hsh h).length + 19 := ln_add (ln_X4_init _ _ _ eh24) zh23
  obtain ⟨h25, eh25, hf⟩ := ob hf
  refine r_putRF (pc := 71) (cs := (19, 320)) X hin dX11_init_71 ff_X11_46 (fun _ => ⟨rfl, rfl⟩) rfl eh25 ?_
  have zh25 : (hsh h25).length = (hsh h).length + 19 := by rw [pR_sh eh25]; exact zh24
  refine r_aload_n (pc := 74) (cs := (19, 320)) X dX11_init_74 rfl ?_
  obtain ⟨a26, ea26, hf⟩ := ob hf
  obtain ⟨h27, eh27, hf⟩ := ob hf
  refine r_new (pc := 75) (cs := (19, 320)) X hA zh25 dX11_init_75 nk_X11_49 (N := 8) rfl (Nat.le_of_ble_eq_true rfl) (Nat.le_of_ble_eq_true rfl) ea26 eh27 ?_
  have zh27 : (hsh h27).length = (hsh h).length + 20 := nw_len eh27 zh25
  refine r_dup (pc := 78) (cs := (20, 328)) X dX11_init_78 rfl ?_
  refine r_aload_n (pc := 79) (cs := (20, 328)) X dX11_init_79 rfl ?_
  obtain ⟨a28, ea28, hf⟩ := ob hf
  refine r_getR (pc := 80) (cs := (20, 328)) X dX11_init_80 fl_X11_12 rfl ea28 ?_
  obtain ⟨h29, eh29, hf⟩ := ob hf
  refine r_callI (pc := 83) (cs := (20, 328)) X [.ref a28] hA zh27 dX11_init_83 ml_X11_51 io_X5_init (evA_X5_init (d := d - 1) (Nat.le_trans (by decide) hdm) _ _ _ _ eh29) hd1 rfl (Nat.le_of_ble_eq_true rfl) (Nat.le_of_ble_eq_true rfl) (Nat.le_of_ble_eq_true rfl) rfl ?_
  have zh29 : (hsh h29).length = (hsh h).length + 21 := ln_add (ln_X5_init _ _ _ _ eh29) zh27
  obtain ⟨h30, eh30, hf⟩ := ob hf
  refine r_putRF (pc := 86) (cs := (21, 368)) X hin dX11_init_86 ff_X11_54 (fun _ => ⟨rfl, rfl⟩) rfl eh30 ?_
  have zh30 : (hsh h30).length = (hsh h).length + 21 := by rw [pR_sh eh30]; exact zh29
  refine r_aload_n (pc := 89) (cs := (21, 368)) X dX11_init_89 rfl ?_
  obtain ⟨a31, ea31, hf⟩ := ob hf
  obtain ⟨h32, eh32, hf⟩ := ob hf
  refine r_new (pc := 90) (cs := (21, 368)) X hA zh30 dX11_init_90 nk_X11_58 (N := 6) rfl (Nat.le_of_ble_eq_true rfl) (Nat.le_of_ble_eq_true rfl) ea31 eh32 ?_
  have zh32 : (hsh h32).length = (hsh h).length + 22 := nw_len eh32 zh30
  refine r_dup (pc := 93) (cs := (22, 374)) X dX11_init_93 rfl ?_
  obtain ⟨h33, eh33, hf⟩ := ob hf
  refine r_callI (pc := 94) (cs := (22, 374)) X [] hA zh32 dX11_init_94 ml_X11_60 io_X7_init (evA_X7_init (d := d - 1) (Nat.le_trans (by decide) hdm) _ _ _ eh33) hd1 rfl (Nat.le_of_ble_eq_true rfl) (Nat.le_of_ble_eq_true rfl) (Nat.le_of_ble_eq_true rfl) rfl ?_
  have zh33 : (hsh h33).length = (hsh h).length + 24 := ln_add (ln_X7_init _ _ _ eh33) zh32
  obtain ⟨h34, eh34, hf⟩ := ob hf
  refine r_putRF (pc := 97) (cs := (24, 386)) X hin dX11_init_97 ff_X11_61 (fun _ => ⟨rfl, rfl⟩) rfl eh34 ?_
  have zh34 : (hsh h34).length = (hsh h).length + 24 := by rw [pR_sh eh34]; exact zh33
  refine r_aload_n (pc := 100) (cs := (24, 386)) X dX11_init_100 rfl ?_
  obtain ⟨a35, ea35, hf⟩ := ob hf
  obtain ⟨h36, eh36, hf⟩ := ob hf
  refine r_new (pc := 101) (cs := (24, 386)) X hA zh34 dX11_init_101 nk_X11_58 (N := 6) rfl (Nat.le_of_ble_eq_true rfl) (Nat.le_of_ble_eq_true rfl) ea35 eh36 ?_
  have zh36 : (hsh h36).length = (hsh h).length + 25 := nw_len eh36 zh34
  refine r_dup (pc := 104) (cs := (25, 392)) X dX11_init_104 rfl ?_
  obtain ⟨h37, eh37, hf⟩ := ob hf
  refine r_callI (pc := 105) (cs := (25, 392)) X [] hA zh36 dX11_init_105 ml_X11_60 io_X7_init (evA_X7_init (d := d - 1) (Nat.le_trans (by decide) hdm) _ _ _ eh37) hd1 rfl (Nat.le_of_ble_eq_true rfl) (Nat.le_of_ble_eq_true rfl) (Nat.le_of_ble_eq_true rfl) rfl ?_
  have zh37 : (hsh h37).length = (hsh h).length + 27 := ln_add (ln_X7_init _ _ _ eh37) zh36
  obtain ⟨h38, eh38, hf⟩ := ob hf
  refine r_putRF (pc := 108) (cs := (27, 404)) X hin dX11_init_108 ff_X11_65 (fun _ => ⟨rfl, rfl⟩) rfl eh38 ?_
  have zh38 : (hsh h38).length = (hsh h).length + 27 := by rw [pR_sh eh38]; exact zh37
  refine r_aload_n (pc := 111) (cs := (27, 404)) X dX11_init_111 rfl ?_
  obtain ⟨a39, ea39, hf⟩ := ob hf
  obtain ⟨h40, eh40, hf⟩ := ob hf
  refine r_new (pc := 112) (cs := (27, 404)) X hA zh38 dX11_init_112 nk_X11_58 (N := 6) rfl (Nat.le_of_ble_eq_true rfl) (Nat.le_of_ble_eq_true rfl) ea39 eh40 ?_
  have zh40 : (hsh h40).length = (hsh h).length + 28 := nw_len eh40 zh38
  refine r_dup (pc := 115) (cs := (28, 410)) X dX11_init_115 rfl ?_
  obtain ⟨h41, eh41, hf⟩ := ob hf
  refine r_callI (pc := 116) (cs := (28, 410)) X [] hA zh40 dX11_init_116 ml_X11_60 io_X7_init (evA_X7_init (d := d - 1) (Nat.le_trans (by decide) hdm) _ _ _ eh41) hd1 rfl (Nat.le_of_ble_eq_true rfl) (Nat.le_of_ble_eq_true rfl) (Nat.le_of_ble_eq_true rfl) rfl ?_
  have zh41 : (hsh h41).length = (hsh h).length + 30 := ln_add (ln_X7_init _ _ _ eh41) zh40
  obtain ⟨h42, eh42, hf⟩ := ob hf
  refine r_putRF (pc := 119) (cs := (30, 422)) X hin dX11_init_119 ff_X11_68 (fun _ => ⟨rfl, rfl⟩) rfl eh42 ?_
  have zh42 : (hsh h42).length = (hsh h).length + 30 := by rw [pR_sh eh42]; exact zh41
  refine r_aload_n (pc := 122) (cs := (30, 422)) X dX11_init_122 rfl ?_
  obtain ⟨a43, ea43, hf⟩ := ob hf
  obtain ⟨h44, eh44, hf⟩ := ob hf
  refine r_new (pc := 123) (cs := (30, 422)) X hA zh42 dX11_init_123 nk_X11_71 (N := 4) rfl (Nat.le_of_ble_eq_true rfl) (Nat.le_of_ble_eq_true rfl) ea43 eh44 ?_
  have zh44 : (hsh h44).length = (hsh h).length + 31 := nw_len eh44 zh42
  refine r_dup (pc := 126) (cs := (31, 426)) X dX11_init_126 rfl ?_
  obtain ⟨h45, eh45, hf⟩ := ob hf
  refine r_callI (pc := 127) (cs := (31, 426)) X [] hA zh44 dX11_init_127 ml_X11_73 io_X2_init (evA_X2_init (d := d - 1) (Nat.le_trans (by decide) hdm) _ _ _ eh45) hd1 rfl (Nat.le_of_ble_eq_true rfl) (Nat.le_of_ble_eq_true rfl) (Nat.le_of_ble_eq_true rfl) rfl ?_
  have zh45 : (hsh h45).length = (hsh h).length + 76 := ln_add (ln_X2_init _ _ _ eh45) zh44
  obtain ⟨h46, eh46, hf⟩ := ob hf
  refine r_putRF (pc := 130) (cs := (76, 694)) X hin dX11_init_130 ff_X11_74 (fun _ => ⟨rfl, rfl⟩) rfl eh46 ?_
  have zh46 : (hsh h46).length = (hsh h).length + 76 := by rw [pR_sh eh46]; exact zh45
  refine r_aload_n (pc := 133) (cs := (76, 694)) X dX11_init_133 rfl ?_
  obtain ⟨a47, ea47, hf⟩ := ob hf
  obtain ⟨h48, eh48, hf⟩ := ob hf
  refine r_new (pc := 134) (cs := (76, 694)) X hA zh46 dX11_init_134 nk_X11_78 (N := 2) rfl (Nat.le_of_ble_eq_true rfl) (Nat.le_of_ble_eq_true rfl) ea47 eh48 ?_
  have zh48 : (hsh h48).length = (hsh h).length + 77 := nw_len eh48 zh46
  refine r_dup (pc := 137) (cs := (77, 696)) X dX11_init_137 rfl ?_
  obtain ⟨h49, eh49, hf⟩ := ob hf
  refine r_callI (pc := 138) (cs := (77, 696)) X [] hA zh48 dX11_init_138 ml_X11_80 io_X3_init (evA_X3_init (d := d - 1) (Nat.le_trans (by decide) hdm) _ _ _ eh49) hd1 rfl (Nat.le_of_ble_eq_true rfl) (Nat.le_of_ble_eq_true rfl) (Nat.le_of_ble_eq_true rfl) rfl ?_
  have zh49 : (hsh h49).length = (hsh h).length + 78 := ln_add (ln_X3_init _ _ _ eh49) zh48
  obtain ⟨h50, eh50, hf⟩ := ob hf
  refine r_putRF (pc := 141) (cs := (78, 712)) X hin dX11_init_141 ff_X11_81 (fun _ => ⟨rfl, rfl⟩) rfl eh50 ?_
  have zh50 : (hsh h50).length = (hsh h).length + 78 := by rw [pR_sh eh50]; exact zh49
  refine r_aload_n (pc := 144) (cs := (78, 712)) X dX11_init_144 rfl ?_
  obtain ⟨a51, ea51, hf⟩ := ob hf
  obtain ⟨h52, eh52, hf⟩ := ob hf
  refine r_new (pc := 145) (cs := (78, 712)) X hA zh50 dX11_init_145 nk_X11_85 (N := 4) rfl (Nat.le_of_ble_eq_true rfl) (Nat.le_of_ble_eq_true rfl) ea51 eh52 ?_
  have zh52 : (hsh h52).length = (hsh h).length + 79 := nw_len eh52 zh50
  refine r_dup (pc := 148) (cs := (79, 716)) X dX11_init_148 rfl ?_
  obtain ⟨h53, eh53, hf⟩ := ob hf
  refine r_callI (pc := 149) (cs := (79, 716)) X [] hA zh52 dX11_init_149 ml_X11_87 io_X6_init (evA_X6_init (d := d - 1) (Nat.le_trans (by decide) hdm) _ _ _ eh53) hd1 rfl (Nat.le_of_ble_eq_true rfl) (Nat.le_of_ble_eq_true rfl) (Nat.le_of_ble_eq_true rfl) rfl ?_
  have zh53 : (hsh h53).length = (hsh h).length + 82 := ln_add (ln_X6_init _ _ _ eh53) zh52
  obtain ⟨h54, eh54, hf⟩ := ob hf
  refine r_putRF (pc := 152) (cs := (82, 746)) X hin dX11_init_152 ff_X11_88 (fun _ => ⟨rfl, rfl⟩) rfl eh54 ?_
  have zh54 : (hsh h54).length = (hsh h).length + 82 := by rw [pR_sh eh54]; exact zh53
  refine r_aload_n (pc := 155) (cs := (82, 746)) X dX11_init_155 rfl ?_
  refine r_sipush (pc := 156) (cs := (82, 746)) X 168 dX11_init_156 (by decide) ?_
  obtain ⟨a55, ea55, hf⟩ := ob hf
  obtain ⟨h56, eh56, hf⟩ := ob hf
  refine r_newa (pc := 159) (cs := (82, 746)) X hA zh54 dX11_init_159 ac_long (Or.inl ⟨rfl, rfl⟩) (N := 168) (by decide) (by decide) (by decide) (Nat.le_of_ble_eq_true rfl) (Nat.le_of_ble_eq_true rfl) ea55 eh56 ?_
  have zh56 : (hsh h56).length = (hsh h).length + 83 := nw_len eh56 zh54
  obtain ⟨h57, eh57, hf⟩ := ob hf
  refine r_putRF (pc := 161) (cs := (83, 914)) X hin dX11_init_161 ff_X11_92 (fun _ => ⟨rfl, rfl⟩) rfl eh57 ?_
  have zh57 : (hsh h57).length = (hsh h).length + 83 := by rw [pR_sh eh57]; exact zh56
  refine r_aload_n (pc := 164) (cs := (83, 914)) X dX11_init_164 rfl ?_
  refine r_bipush (pc := 165) (cs := (83, 914)) X 6 dX11_init_165 (by decide) ?_
  obtain ⟨a58, ea58, hf⟩ := ob hf
  obtain ⟨h59, eh59, hf⟩ := ob hf
  refine r_newa (pc := 167) (cs := (83, 914)) X hA zh57 dX11_init_167 ac_int (Or.inr (Or.inl ⟨rfl, rfl⟩)) (N := 6) (by decide) (by decide) (by decide) (Nat.le_of_ble_eq_true rfl) (Nat.le_of_ble_eq_true rfl) ea58 eh59 ?_
  have zh59 : (hsh h59).length = (hsh h).length + 84 := nw_len eh59 zh57
  obtain ⟨h60, eh60, hf⟩ := ob hf
  refine r_putRF (pc := 169) (cs := (84, 920)) X hin dX11_init_169 ff_X11_96 (fun _ => ⟨rfl, rfl⟩) rfl eh60 ?_
  have zh60 : (hsh h60).length = (hsh h).length + 84 := by rw [pR_sh eh60]; exact zh59
  refine r_aload_n (pc := 172) (cs := (84, 920)) X dX11_init_172 rfl ?_
  refine r_bipush (pc := 173) (cs := (84, 920)) X 21 dX11_init_173 (by decide) ?_
  obtain ⟨a61, ea61, hf⟩ := ob hf
  obtain ⟨h62, eh62, hf⟩ := ob hf
  refine r_newa (pc := 175) (cs := (84, 920)) X hA zh60 dX11_init_175 ac_int (Or.inr (Or.inl ⟨rfl, rfl⟩)) (N := 21) (by decide) (by decide) (by decide) (Nat.le_of_ble_eq_true rfl) (Nat.le_of_ble_eq_true rfl) ea61 eh62 ?_
  have zh62 : (hsh h62).length = (hsh h).length + 85 := nw_len eh62 zh60
  obtain ⟨h63, eh63, hf⟩ := ob hf
  refine r_putRF (pc := 177) (cs := (85, 941)) X hin dX11_init_177 ff_X11_102 (fun _ => ⟨rfl, rfl⟩) rfl eh63 ?_
  have zh63 : (hsh h63).length = (hsh h).length + 85 := by rw [pR_sh eh63]; exact zh62
  obtain rfl := Option.some.inj hf
  exact r_vretA (pc := 180) X hA zh63 dX11_init_180 hk

theorem dX12_init_0 : decode cX12_init 0 = .ok (.aload_n 0, 1) := by decide +kernel
theorem dX12_init_1 : decode cX12_init 1 = .ok (.invokespecial 3, 3) := by decide +kernel
theorem dX12_init_4 : decode cX12_init 4 = .ok (.aload_n 0, 1) := by decide +kernel
theorem dX12_init_5 : decode cX12_init 5 = .ok (.bipush 16, 2) := by decide +kernel
theorem dX12_init_7 : decode cX12_init 7 = .ok (.newarray .int, 2) := by decide +kernel
theorem dX12_init_9 : decode cX12_init 9 = .ok (.putfield 9, 3) := by decide +kernel
theorem dX12_init_12 : decode cX12_init 12 = .ok (.aload_n 0, 1) := by decide +kernel
theorem dX12_init_13 : decode cX12_init 13 = .ok (.bipush 8, 2) := by decide +kernel
theorem dX12_init_15 : decode cX12_init 15 = .ok (.newarray .int, 2) := by decide +kernel
theorem dX12_init_17 : decode cX12_init 17 = .ok (.putfield 13, 3) := by decide +kernel
theorem dX12_init_20 : decode cX12_init 20 = .ok (.aload_n 0, 1) := by decide +kernel
theorem dX12_init_21 : decode cX12_init 21 = .ok (.bipush 8, 2) := by decide +kernel
theorem dX12_init_23 : decode cX12_init 23 = .ok (.newarray .int, 2) := by decide +kernel
theorem dX12_init_25 : decode cX12_init 25 = .ok (.putfield 16, 3) := by decide +kernel
theorem dX12_init_28 : decode cX12_init 28 = .ok (.aload_n 0, 1) := by decide +kernel
theorem dX12_init_29 : decode cX12_init 29 = .ok (.bipush 8, 2) := by decide +kernel
theorem dX12_init_31 : decode cX12_init 31 = .ok (.newarray .int, 2) := by decide +kernel
theorem dX12_init_33 : decode cX12_init 33 = .ok (.putfield 19, 3) := by decide +kernel
theorem dX12_init_36 : decode cX12_init 36 = .ok (.aload_n 0, 1) := by decide +kernel
theorem dX12_init_37 : decode cX12_init 37 = .ok (.bipush 80, 2) := by decide +kernel
theorem dX12_init_39 : decode cX12_init 39 = .ok (.newarray .byte, 2) := by decide +kernel
theorem dX12_init_41 : decode cX12_init 41 = .ok (.putfield 22, 3) := by decide +kernel
theorem dX12_init_44 : decode cX12_init 44 = .ok (.aload_n 0, 1) := by decide +kernel
theorem dX12_init_45 : decode cX12_init 45 = .ok (.bipush 16, 2) := by decide +kernel
theorem dX12_init_47 : decode cX12_init 47 = .ok (.newarray .long, 2) := by decide +kernel
theorem dX12_init_49 : decode cX12_init 49 = .ok (.putfield 26, 3) := by decide +kernel
theorem dX12_init_52 : decode cX12_init 52 = .ok (.aload_n 0, 1) := by decide +kernel
theorem dX12_init_53 : decode cX12_init 53 = .ok (.bipush 24, 2) := by decide +kernel
theorem dX12_init_55 : decode cX12_init 55 = .ok (.newarray .int, 2) := by decide +kernel
theorem dX12_init_57 : decode cX12_init 57 = .ok (.putfield 30, 3) := by decide +kernel
theorem dX12_init_60 : decode cX12_init 60 = .ok (.aload_n 0, 1) := by decide +kernel
theorem dX12_init_61 : decode cX12_init 61 = .ok (.bipush 40, 2) := by decide +kernel
theorem dX12_init_63 : decode cX12_init 63 = .ok (.newarray .byte, 2) := by decide +kernel
theorem dX12_init_65 : decode cX12_init 65 = .ok (.putfield 33, 3) := by decide +kernel
theorem dX12_init_68 : decode cX12_init 68 = .ok (.aload_n 0, 1) := by decide +kernel
theorem dX12_init_69 : decode cX12_init 69 = .ok (.bipush 40, 2) := by decide +kernel
theorem dX12_init_71 : decode cX12_init 71 = .ok (.newarray .byte, 2) := by decide +kernel
theorem dX12_init_73 : decode cX12_init 73 = .ok (.putfield 36, 3) := by decide +kernel
theorem dX12_init_76 : decode cX12_init 76 = .ok (.aload_n 0, 1) := by decide +kernel
theorem dX12_init_77 : decode cX12_init 77 = .ok (.bipush 7, 2) := by decide +kernel
theorem dX12_init_79 : decode cX12_init 79 = .ok (.newarray .int, 2) := by decide +kernel
theorem dX12_init_81 : decode cX12_init 81 = .ok (.putfield 39, 3) := by decide +kernel
theorem dX12_init_84 : decode cX12_init 84 = .ok (.aload_n 0, 1) := by decide +kernel
theorem dX12_init_85 : decode cX12_init 85 = .ok (.sipush 192, 3) := by decide +kernel
theorem dX12_init_88 : decode cX12_init 88 = .ok (.newarray .int, 2) := by decide +kernel
theorem dX12_init_90 : decode cX12_init 90 = .ok (.putfield 42, 3) := by decide +kernel
theorem dX12_init_93 : decode cX12_init 93 = .ok (.aload_n 0, 1) := by decide +kernel
theorem dX12_init_94 : decode cX12_init 94 = .ok (.bipush 16, 2) := by decide +kernel
theorem dX12_init_96 : decode cX12_init 96 = .ok (.newarray .int, 2) := by decide +kernel
theorem dX12_init_98 : decode cX12_init 98 = .ok (.putfield 45, 3) := by decide +kernel
theorem dX12_init_101 : decode cX12_init 101 = .ok (.aload_n 0, 1) := by decide +kernel
theorem dX12_init_102 : decode cX12_init 102 = .ok (.bipush 16, 2) := by decide +kernel
theorem dX12_init_104 : decode cX12_init 104 = .ok (.newarray .int, 2) := by decide +kernel
theorem dX12_init_106 : decode cX12_init 106 = .ok (.putfield 48, 3) := by decide +kernel
theorem dX12_init_109 : decode cX12_init 109 = .ok (.aload_n 0, 1) := by decide +kernel
theorem dX12_init_110 : decode cX12_init 110 = .ok (.bipush 8, 2) := by decide +kernel
theorem dX12_init_112 : decode cX12_init 112 = .ok (.newarray .int, 2) := by decide +kernel
theorem dX12_init_114 : decode cX12_init 114 = .ok (.putfield 51, 3) := by decide +kernel
theorem dX12_init_117 : decode cX12_init 117 = .ok (.aload_n 0, 1) := by decide +kernel
theorem dX12_init_118 : decode cX12_init 118 = .ok (.sipush 240, 3) := by decide +kernel
theorem dX12_init_121 : decode cX12_init 121 = .ok (.newarray .int, 2) := by decide +kernel
theorem dX12_init_123 : decode cX12_init 123 = .ok (.putfield 54, 3) := by decide +kernel
theorem dX12_init_126 : decode cX12_init 126 = .ok (.aload_n 0, 1) := by decide +kernel
theorem dX12_init_127 : decode cX12_init 127 = .ok (.sipush 1616, 3) := by decide +kernel
theorem dX12_init_130 : decode cX12_init 130 = .ok (.newarray .int, 2) := by decide +kernel
theorem dX12_init_132 : decode cX12_init 132 = .ok (.putfield 57, 3) := by decide +kernel
theorem dX12_init_135 : decode cX12_init 135 = .ok (.aload_n 0, 1) := by decide +kernel
theorem dX12_init_136 : decode cX12_init 136 = .ok (.bipush 6, 2) := by decide +kernel
theorem dX12_init_138 : decode cX12_init 138 = .ok (.newarray .int, 2) := by decide +kernel
theorem dX12_init_140 : decode cX12_init 140 = .ok (.putfield 60, 3) := by decide +kernel
theorem dX12_init_143 : decode cX12_init 143 = .ok (.aload_n 0, 1) := by decide +kernel
theorem dX12_init_144 : decode cX12_init 144 = .ok (.bipush 41, 2) := by decide +kernel
theorem dX12_init_146 : decode cX12_init 146 = .ok (.newarray .int, 2) := by decide +kernel
theorem dX12_init_148 : decode cX12_init 148 = .ok (.putfield 63, 3) := by decide +kernel
theorem dX12_init_151 : decode cX12_init 151 = .ok (.aload_n 0, 1) := by decide +kernel
theorem dX12_init_152 : decode cX12_init 152 = .ok (.bipush 10, 2) := by decide +kernel
theorem dX12_init_154 : decode cX12_init 154 = .ok (.newarray .int, 2) := by decide +kernel
theorem dX12_init_156 : decode cX12_init 156 = .ok (.putfield 66, 3) := by decide +kernel
theorem dX12_init_159 : decode cX12_init 159 = .ok (.aload_n 0, 1) := by decide +kernel
theorem dX12_init_160 : decode cX12_init 160 = .ok (.bipush 10, 2) := by decide +kernel
theorem dX12_init_162 : decode cX12_init 162 = .ok (.newarray .int, 2) := by decide +kernel
theorem dX12_init_164 : decode cX12_init 164 = .ok (.putfield 69, 3) := by decide +kernel
theorem dX12_init_167 : decode cX12_init 167 = .ok (.aload_n 0, 1) := by decide +kernel
theorem dX12_init_168 : decode cX12_init 168 = .ok (.bipush 10, 2) := by decide +kernel
theorem dX12_init_170 : decode cX12_init 170 = .ok (.newarray .int, 2) := by decide +kernel
theorem dX12_init_172 : decode cX12_init 172 = .ok (.putfield 72, 3) := by decide +kernel
theorem dX12_init_175 : decode cX12_init 175 = .ok (.aload_n 0, 1) := by decide +kernel
theorem dX12_init_176 : decode cX12_init 176 = .ok (.sipush 1260, 3) := by decide +kernel
theorem dX12_init_179 : decode cX12_init 179 = .ok (.newarray .int, 2) := by decide +kernel
theorem dX12_init_181 : decode cX12_init 181 = .ok (.putfield 75, 3) := by decide +kernel
theorem dX12_init_184 : decode cX12_init 184 = .ok (.aload_n 0, 1) := by decide +kernel
theorem dX12_init_185 : decode cX12_init 185 = .ok (.bipush 6, 2) := by decide +kernel
theorem dX12_init_187 : decode cX12_init 187 = .ok (.newarray .int, 2) := by decide +kernel
theorem dX12_init_189 : decode cX12_init 189 = .ok (.putfield 78, 3) := by decide +kernel
theorem dX12_init_192 : decode cX12_init 192 = .ok (.aload_n 0, 1) := by decide +kernel
theorem dX12_init_193 : decode cX12_init 193 = .ok (.bipush 8, 2) := by decide +kernel
theorem dX12_init_195 : decode cX12_init 195 = .ok (.newarray .int, 2) := by decide +kernel
theorem dX12_init_197 : decode cX12_init 197 = .ok (.putfield 81, 3) := by decide +kernel
theorem dX12_init_200 : decode cX12_init 200 = .ok (.aload_n 0, 1) := by decide +kernel
theorem dX12_init_201 : decode cX12_init 201 = .ok (.bipush 8, 2) := by decide +kernel
theorem dX12_init_203 : decode cX12_init 203 = .ok (.newarray .int, 2) := by decide +kernel
theorem dX12_init_205 : decode cX12_init 205 = .ok (.putfield 84, 3) := by decide +kernel
theorem dX12_init_208 : decode cX12_init 208 = .ok (.aload_n 0, 1) := by decide +kernel
theorem dX12_init_209 : decode cX12_init 209 = .ok (.sipush 441, 3) := by decide +kernel
theorem dX12_init_212 : decode cX12_init 212 = .ok (.newarray .boolean, 2) := by decide +kernel
theorem dX12_init_214 : decode cX12_init 214 = .ok (.putfield 87, 3) := by decide +kernel
theorem dX12_init_217 : decode cX12_init 217 = .ok (.aload_n 0, 1) := by decide +kernel
theorem dX12_init_218 : decode cX12_init 218 = .ok (.bipush 32, 2) := by decide +kernel
theorem dX12_init_220 : decode cX12_init 220 = .ok (.newarray .int, 2) := by decide +kernel
theorem dX12_init_222 : decode cX12_init 222 = .ok (.putfield 91, 3) := by decide +kernel
theorem dX12_init_225 : decode cX12_init 225 = .ok (.aload_n 0, 1) := by decide +kernel
theorem dX12_init_226 : decode cX12_init 226 = .ok (.iconst 2, 1) := by decide +kernel
theorem dX12_init_227 : decode cX12_init 227 = .ok (.newarray .boolean, 2) := by decide +kernel
theorem dX12_init_229 : decode cX12_init 229 = .ok (.putfield 94, 3) := by decide +kernel
theorem dX12_init_232 : decode cX12_init 232 = .ok (.aload_n 0, 1) := by decide +kernel
theorem dX12_init_233 : decode cX12_init 233 = .ok (.iconst 2, 1) := by decide +kernel
theorem dX12_init_234 : decode cX12_init 234 = .ok (.newarray .int, 2) := by decide +kernel
theorem dX12_init_236 : decode cX12_init 236 = .ok (.putfield 97, 3) := by decide +kernel
theorem dX12_init_239 : decode cX12_init 239 = .ok (.return_, 1) := by decide +kernel
def fn_X12_init (h : aH) (p0 : Nat) : Option aH :=
  (some (hsh h).length).bind fun a1 =>
  (some (nw h (14, 16))).bind fun h2 =>
  (pR h2 p0 11 0 a1).bind fun h3 =>
  (some (hsh h3).length).bind fun a4 =>
  (some (nw h3 (14, 8))).bind fun h5 =>
  (pR h5 p0 11 4 a4).bind fun h6 =>
  (some (hsh h6).length).bind fun a7 =>
  (some (nw h6 (14, 8))).bind fun h8 =>
  (pR h8 p0 11 5 a7).bind fun h9 =>
  (some (hsh h9).length).bind fun a10 =>
  (some (nw h9 (14, 8))).bind fun h11 =>
  (pR h11 p0 11 6 a10).bind fun h12 =>
  (some (hsh h12).length).bind fun a13 =>
  (some (nw h12 (12, 80))).bind fun h14 =>
  (pR h14 p0 11 7 a13).bind fun h15 =>
  (some (hsh h15).length).bind fun a16 =>
  (some (nw h15 (15, 16))).bind fun h17 =>
  (pR h17 p0 11 9 a16).bind fun h18 =>
  (some (hsh h18).length).bind fun a19 =>
  (some (nw h18 (14, 24))).bind fun h20 =>
  (pR h20 p0 11 17 a19).bind fun h21 =>
  (some (hsh h21).length).bind fun a22 =>
  (some (nw h21 (12, 40))).bind fun h23 =>
  (pR h23 p0 11 18 a22).bind fun h24 =>
  (some (hsh h24).length).bind fun a25 =>
  (some (nw h24 (12, 40))).bind fun h26 =>
  (pR h26 p0 11 19 a25).bind fun h27 =>
  (some (hsh h27).length).bind fun a28 =>
  (some (nw h27 (14, 7))).bind fun h29 =>
  (pR h29 p0 11 22 a28).bind fun h30 =>
  (some (hsh h30).length).bind fun a31 =>
  (some (nw h30 (14, 192))).bind fun h32 =>
  (pR h32 p0 11 23 a31).bind fun h33 =>
  (some (hsh h33).length).bind fun a34 =>
  (some (nw h33 (14, 16))).bind fun h35 =>
  (pR h35 p0 11 25 a34).bind fun h36 =>
  (some (hsh h36).length).bind fun a37 =>
  (some (nw h36 (14, 16))).bind fun h38 =>
  (pR h38 p0 11 26 a37).bind fun h39 =>
  (some (hsh h39).length).bind fun a40 =>
  (some (nw h39 (14, 8))).bind fun h41 =>
  (pR h41 p0 11 29 a40).bind fun h42 =>
  (some (hsh h42).length).bind fun a43 =>
  (some (nw h42 (14, 240))).bind fun h44 =>
  (pR h44 p0 11 30 a43).bind fun h45 =>
  (some (hsh h45).length).bind fun a46 =>
  (some (nw h45 (14, 1616))).bind fun h47 =>
  (pR h47 p0 11 31 a46).bind fun h48 =>
  (some (hsh h48).length).bind fun a49 =>
  (some (nw h48 (14, 6))).bind fun h50 =>
  (pR h50 p0 11 32 a49).bind fun h51 =>
  (some (hsh h51).length).bind fun a52 =>
  (some (nw h51 (14, 41))).bind fun h53 =>
  (pR h53 p0 11 33 a52).bind fun h54 =>
  (some (hsh h54).length).bind fun a55 =>
  (some (nw h54 (14, 10))).bind fun h56 =>
  (pR h56 p0 11 34 a55).bind fun h57 =>
  (some (hsh h57).length).bind fun a58 =>
  (some (nw h57 (14, 10))).bind fun h59 =>
  (pR h59 p0 11 35 a58).bind fun h60 =>
  (some (hsh h60).length).bind fun a61 =>
  (some (nw h60 (14, 10))).bind fun h62 =>
  (pR h62 p0 11 36 a61).bind fun h63 =>
  (some (hsh h63).length).bind fun a64 =>
  (some (nw h63 (14, 1260))).bind fun h65 =>
  (pR h65 p0 11 38 a64).bind fun h66 =>
  (some (hsh h66).length).bind fun a67 =>
  (some (nw h66 (14, 6))).bind fun h68 =>
  (pR h68 p0 11 39 a67).bind fun h69 =>
  (some (hsh h69).length).bind fun a70 =>
  (some (nw h69 (14, 8))).bind fun h71 =>
  (pR h71 p0 11 40 a70).bind fun h72 =>
  (some (hsh h72).length).bind fun a73 =>
  (some (nw h72 (14, 8))).bind fun h74 =>
  (pR h74 p0 11 41 a73).bind fun h75 =>
  (some (hsh h75).length).bind fun a76 =>
  (some (nw h75 (16, 441))).bind fun h77 =>
  (pR h77 p0 11 44 a76).bind fun h78 =>
  (some (hsh h78).length).bind fun a79 =>
  (some (nw h78 (14, 32))).bind fun h80 =>
  (pR h80 p0 11 47 a79).bind fun h81 =>
  (some (hsh h81).length).bind fun a82 =>
  (some (nw h81 (16, 2))).bind fun h83 =>
  (pR h83 p0 11 48 a82).bind fun h84 =>
  (some (hsh h84).length).bind fun a85 =>
  (some (nw h84 (14, 2))).bind fun h86 =>
  (pR h86 p0 11 49 a85).bind fun h87 =>
  some h87
set_option maxRecDepth 20000 in
set_option maxHeartbeats 4000000 in
theorem ln_X12_init (h : aH) (p0 : Nat) (o : aH) (hf : fn_X12_init h p0 = some o) : (hsh o).length = (hsh h).length + 29 := by
  unfold fn_X12_init at hf
  have zh : (hsh h).length = (hsh h).length + 0 := rfl
  obtain ⟨a1, ea1, hf⟩ := ob hf
  obtain ⟨h2, eh2, hf⟩ := ob hf
  have zh2 : (hsh h2).length = (hsh h).length + 1 := nw_len eh2 zh
  obtain ⟨h3, eh3, hf⟩ := ob hf
  have zh3 : (hsh h3).length = (hsh h).length + 1 := by rw [pR_sh eh3]; exact zh2
  obtain ⟨a4, ea4, hf⟩ := ob hf
  obtain ⟨h5, eh5, hf⟩ := ob hf
  have zh5 : (hsh h5).length = (hsh h).length + 2 := nw_len eh5 zh3
  obtain ⟨h6, eh6, hf⟩ := ob hf
  have zh6 : (hsh h6).length = (hsh h).length + 2 := by rw [pR_sh eh6]; exact zh5
  obtain ⟨a7, ea7, hf⟩ := ob hf
  obtain ⟨h8, eh8, hf⟩ := ob hf
  have zh8 : (hsh h8).length = (hsh h).length + 3 := nw_len eh8 zh6
  obtain ⟨h9, eh9, hf⟩ := ob hf
  have zh9 : (hsh h9).length = (hsh h).length + 3 := by rw [pR_sh eh9]; exact zh8
  obtain ⟨a10, ea10, hf⟩ := ob hf
  obtain ⟨h11, eh11, hf⟩ := ob hf
  have zh11 : (hsh h11).length = (hsh h).length + 4 := nw_len eh11 zh9
  obtain ⟨h12, eh12, hf⟩ := ob hf
  have zh12 : (hsh h12).length = (hsh h).length + 4 := by rw [pR_sh eh12]; exact zh11
  obtain ⟨a13, ea13, hf⟩ := ob hf
  obtain ⟨h14, eh14, hf⟩ := ob hf
  have zh14 : (hsh h14).length = (hsh h).length + 5 := nw_len eh14 zh12
  obtain ⟨h15, eh15, hf⟩ := ob hf
  have zh15 : (hsh h15).length = (hsh h).length + 5 := by rw [pR_sh eh15]; exact zh14
  obtain ⟨a16, ea16, hf⟩ := ob hf
  obtain ⟨h17, eh17, hf⟩ := ob hf
  have zh17 : (hsh h17).length = (hsh h).length + 6 := nw_len eh17 zh15
  obtain ⟨h18, eh18, hf⟩ := ob hf
  have zh18 : (hsh h18).length = (hsh h).length + 6 := by rw [pR_sh eh18]; exact zh17
  obtain ⟨a19, ea19, hf⟩ := ob hf
  obtain ⟨h20, eh20, hf⟩ := ob hf
  have zh20 : (hsh h20).length = (hsh h).length + 7 := nw_len eh20 zh18
  obtain ⟨h21, eh21, hf⟩ := ob hf
  have zh21 : (hsh h21).length = (hsh h).length + 7 := by rw [pR_sh eh21]; exact zh20
  obtain ⟨a22, ea22, hf⟩ := ob hf
  obtain ⟨h23, eh23, hf⟩ := ob hf
  have zh23 : (hsh h23).length = (hsh h).length + 8 := nw_len eh23 zh21
  obtain ⟨h24, eh24, hf⟩ := ob hf
  have zh24 : (hsh h24).length = (hsh h).length + 8 := by rw [pR_sh eh24]; exact zh23
  obtain ⟨a25, ea25, hf⟩ := ob hf
  obtain ⟨h26, eh26, hf⟩ := ob hf
  have zh26 : (hsh h26).length = (hsh h).length + 9 := nw_len eh26 zh24
  obtain ⟨h27, eh27, hf⟩ := ob hf
  have zh27 : (hsh h27).length = (hsh h).length + 9 := by rw [pR_sh eh27]; exact zh26
  obtain ⟨a28, ea28, hf⟩ := ob hf
  obtain ⟨h29, eh29, hf⟩ := ob hf
  have zh29 : (hsh h29).length = (hsh h).length + 10 := nw_len eh29 zh27
  obtain ⟨h30, eh30, hf⟩ := ob hf
  have zh30 : (hsh h30).length = (hsh h).length + 10 := by rw [pR_sh eh30]; exact zh29
  obtain ⟨a31, ea31, hf⟩ := ob hf
  obtain ⟨h32, eh32, hf⟩ := ob hf
  have zh32 : (hsh h32).length = (hsh h).length + 11 := nw_len eh32 zh30
  obtain ⟨h33, eh33, hf⟩ := ob hf
  have zh33 : (hsh h33).length = (hsh h).length + 11 := by rw [pR_sh eh33]; exact zh32
  obtain ⟨a34, ea34, hf⟩ := ob hf
  obtain ⟨h35, eh35, hf⟩ := ob hf
  have zh35 : (hsh h35).length = (hsh h).length + 12 := nw_len eh35 zh33
  obtain ⟨h36, eh36, hf⟩ := ob hf
  have zh36 : (hsh h36).length = (hsh h).length + 12 := by rw [pR_sh eh36]; exact zh35
  obtain ⟨a37, ea37, hf⟩ := ob hf
  obtain ⟨h38, eh38, hf⟩ := ob hf
  have zh38 : (hsh h38).length = (hsh h).length + 13 := nw_len eh38 zh36
  obtain ⟨h39, eh39, hf⟩ := ob hf
  have zh39 : (hsh h39).length = (hsh h).length + 13 := by rw [pR_sh eh39]; exact zh38
  obtain ⟨a40, ea40, hf⟩ := ob hf
  obtain ⟨h41, eh41, hf⟩ := ob hf
  have zh41 : (hsh h41).length = (hsh h).length + 14 := nw_len eh41 zh39
  obtain ⟨h42, eh42, hf⟩ := ob hf
  have zh42 : (hsh h42).length = (hsh h).length + 14 := by rw [pR_sh eh42]; exact zh41
  obtain ⟨a43, ea43, hf⟩ := ob hf
  obtain ⟨h44, eh44, hf⟩ := ob hf
  have zh44 : (hsh h44).length = (hsh h).length + 15 := nw_len eh44 zh42
  obtain ⟨h45, eh45, hf⟩ := ob hf
  have zh45 : (hsh h45).length = (hsh h).length + 15 := by rw [pR_sh eh45]; exact zh44
  obtain ⟨a46, ea46, hf⟩ := ob hf
  obtain ⟨h47, eh47, hf⟩ := ob hf
  have zh47 : (hsh h47).length = (hsh h).length + 16 := nw_len eh47 zh45
  obtain ⟨h48, eh48, hf⟩ := ob hf
  have zh48 : (hsh h48).length = (hsh h).length + 16 := by rw [pR_sh eh48]; exact zh47
  obtain ⟨a49, ea49, hf⟩ := ob hf
  obtain ⟨h50, eh50, hf⟩ := ob hf
  have zh50 : (hsh h50).length = (hsh h).length + 17 := nw_len eh50 zh48
  obtain ⟨h51, eh51, hf⟩ := ob hf
  have zh51 : (hsh h51).length = (hsh h).length + 17 := by rw [pR_sh eh51]; exact zh50
  obtain ⟨a52, ea52, hf⟩ := ob hf
  obtain ⟨h53, eh53, hf⟩ := ob hf
  have zh53 : (hsh h53).length = (hsh h).length + 18 := nw_len eh53 zh51
  obtain ⟨h54, eh54, hf⟩ := ob hf
  have zh54 : (hsh h54).length = (hsh h).length + 18 := by rw [pR_sh eh54]; exact zh53
  obtain ⟨a55, ea55, hf⟩ := ob hf
  obtain ⟨h56, eh56, hf⟩ := ob hf
  have zh56 : (hsh h56).length = (hsh h).length + 19 := nw_len eh56 zh54
  obtain ⟨h57, eh57, hf⟩ := ob hf
  have zh57 : (hsh h57).length = (hsh h).length + 19 := by rw [pR_sh eh57]; exact zh56
  obtain ⟨a58, ea58, hf⟩ := ob hf
  obtain ⟨h59, eh59, hf⟩ := ob hf
  have zh59 : (hsh h59).length = (hsh h).length + 20 := nw_len eh59 zh57
  obtain ⟨h60, eh60, hf⟩ := ob hf
  have zh60 : (hsh h60).length = (hsh h).length + 20 := by rw [pR_sh eh60]; exact zh59
  obtain ⟨a61, ea61, hf⟩ := ob hf
  obtain ⟨h62, eh62, hf⟩ := ob hf
  have zh62 : (hsh h62).length = (hsh h).length + 21 := nw_len eh62 zh60
  obtain ⟨h63, eh63, hf⟩ := ob hf
  have zh63 : (hsh h63).length = (hsh h).length + 21 := by rw [pR_sh eh63]; exact zh62
  obtain ⟨a64, ea64, hf⟩ := ob hf
  obtain ⟨h65, eh65, hf⟩ := ob hf
  have zh65 : (hsh h65).length = (hsh h).length + 22 := nw_len eh65 zh63
  obtain ⟨h66, eh66, hf⟩ := ob hf
  have zh66 : (hsh h66).length = (hsh h).length + 22 := by rw [pR_sh eh66]; exact zh65
  obtain ⟨a67, ea67, hf⟩ := ob hf
  obtain ⟨h68, eh68, hf⟩ := ob hf
  have zh68 : (hsh h68).length = (hsh h).length + 23 := nw_len eh68 zh66
  obtain ⟨h69, eh69, hf⟩ := ob hf
  have zh69 : (hsh h69).length = (hsh h).length + 23 := by rw [pR_sh eh69]; exact zh68
  obtain ⟨a70, ea70, hf⟩ := ob hf
  obtain ⟨h71, eh71, hf⟩ := ob hf
  have zh71 : (hsh h71).length = (hsh h).length + 24 := nw_len eh71 zh69
  obtain ⟨h72, eh72, hf⟩ := ob hf
  have zh72 : (hsh h72).length = (hsh h).length + 24 := by rw [pR_sh eh72]; exact zh71
  obtain ⟨a73, ea73, hf⟩ := ob hf
  obtain ⟨h74, eh74, hf⟩ := ob hf
  have zh74 : (hsh h74).length = (hsh h).length + 25 := nw_len eh74 zh72
  obtain ⟨h75, eh75, hf⟩ := ob hf
  have zh75 : (hsh h75).length = (hsh h).length + 25 := by rw [pR_sh eh75]; exact zh74
  obtain ⟨a76, ea76, hf⟩ := ob hf
  obtain ⟨h77, eh77, hf⟩ := ob hf
  have zh77 : (hsh h77).length = (hsh h).length + 26 := nw_len eh77 zh75
  obtain ⟨h78, eh78, hf⟩ := ob hf
  have zh78 : (hsh h78).length = (hsh h).length + 26 := by rw [pR_sh eh78]; exact zh77
  obtain ⟨a79, ea79, hf⟩ := ob hf
  obtain ⟨h80, eh80, hf⟩ := ob hf
  have zh80 : (hsh h80).length = (hsh h).length + 27 := nw_len eh80 zh78
  obtain ⟨h81, eh81, hf⟩ := ob hf
  have zh81 : (hsh h81).length = (hsh h).length + 27 := by rw [pR_sh eh81]; exact zh80
  obtain ⟨a82, ea82, hf⟩ := ob hf
  obtain ⟨h83, eh83, hf⟩ := ob hf
  have zh83 : (hsh h83).length = (hsh h).length + 28 := nw_len eh83 zh81
  obtain ⟨h84, eh84, hf⟩ := ob hf
  have zh84 : (hsh h84).length = (hsh h).length + 28 := by rw [pR_sh eh84]; exact zh83
  obtain ⟨a85, ea85, hf⟩ := ob hf
  obtain ⟨h86, eh86, hf⟩ := ob hf
  have zh86 : (hsh h86).length = (hsh h).length + 29 := nw_len eh86 zh84
  obtain ⟨h87, eh87, hf⟩ := ob hf
  have zh87 : (hsh h87).length = (hsh h).length + 29 := by rw [pR_sh eh87]; exact zh86
  obtain rfl := Option.some.inj hf
  exact zh87
set_option maxRecDepth 20000 in
set_option maxHeartbeats 4000000 in
theorem evA_X12_init {l : Launch} {g : aG} {d : Nat} (hd : 1 ≤ d) (h : aH) (p0 : Nat) (o : aH) (hf : fn_X12_init h p0 = some o) : EvA l g d yX12_init cX12_init 1 [.ref p0] h o 29 4171 := by
  refine EvA.of mk_X12_init rfl (Nat.le_of_ble_eq_true rfl) ?_
  intro Γ hl hg hk hin hA X
  have hd1 : 1 ≤ d := by omega
  have hdm : 0 ≤ d - 1 := by omega
  unfold fn_X12_init at hf
  have zh : (hsh h).length = (hsh h).length + 0 := rfl
  show Jd Γ (0, 0) 0 [some (.ref p0)] [] h
  refine r_aload_n (pc := 0) (cs := (0, 0)) X dX12_init_0 rfl ?_
  refine r_objInit (pc := 1) (cs := (0, 0)) X dX12_init_1 oi_X12_3 oi_inst oi_code hd1 (Nat.le_of_ble_eq_true rfl) ?_
  refine r_aload_n (pc := 4) (cs := (0, 0)) X dX12_init_4 rfl ?_
  refine r_bipush (pc := 5) (cs := (0, 0)) X 16 dX12_init_5 (by decide) ?_
  obtain ⟨a1, ea1, hf⟩ := ob hf
  obtain ⟨h2, eh2, hf⟩ := ob hf
  refine r_newa (pc := 7) (cs := (0, 0)) X hA zh dX12_init_7 ac_int (Or.inr (Or.inl ⟨rfl, rfl⟩)) (N := 16) (by decide) (by decide) (by decide) (Nat.le_of_ble_eq_true rfl) (Nat.le_of_ble_eq_true rfl) ea1 eh2 ?_
  have zh2 : (hsh h2).length = (hsh h).length + 1 := nw_len eh2 zh
  obtain ⟨h3, eh3, hf⟩ := ob hf
  refine r_putRF (pc := 9) (cs := (1, 16)) X hin dX12_init_9 ff_X12_9 (fun _ => ⟨rfl, rfl⟩) rfl eh3 ?_
  have zh3 : (hsh h3).length = (hsh h).length + 1 := by rw [pR_sh eh3]; exact zh2
  refine r_aload_n (pc := 12) (cs := (1, 16)) X dX12_init_12 rfl ?_
  refine r_bipush (pc := 13) (cs := (1, 16)) X 8 dX12_init_13 (by decide) ?_
  obtain ⟨a4, ea4, hf⟩ := ob hf
  obtain ⟨h5, eh5, hf⟩ := ob hf
  refine r_newa (pc := 15) (cs := (1, 16)) X hA zh3 dX12_init_15 ac_int (Or.inr (Or.inl ⟨rfl, rfl⟩)) (N := 8) (by decide) (by decide) (by decide) (Nat.le_of_ble_eq_true rfl) (Nat.le_of_ble_eq_true rfl) ea4 eh5 ?_
  have zh5 : (hsh h5).length = (hsh h).length + 2 := nw_len eh5 zh3
  obtain ⟨h6, eh6, hf⟩ := ob hf
  refine r_putRF (pc := 17) (cs := (2, 24)) X hin dX12_init_17 ff_X12_13 (fun _ => ⟨rfl, rfl⟩) rfl eh6 ?_
  have zh6 : (hsh h6).length = (hsh h).length + 2 := by rw [pR_sh eh6]; exact zh5
  refine r_aload_n (pc := 20) (cs := (2, 24)) X dX12_init_20 rfl ?_
  refine r_bipush (pc := 21) (cs := (2, 24)) X 8 dX12_init_21 (by decide) ?_
  obtain ⟨a7, ea7, hf⟩ := ob hf
  obtain ⟨h8, eh8, hf⟩ := ob hf
  refine r_newa (pc := 23) (cs := (2, 24)) X hA zh6 dX12_init_23 ac_int (Or.inr (Or.inl ⟨rfl, rfl⟩)) (N := 8) (by decide) (by decide) (by decide) (Nat.le_of_ble_eq_true rfl) (Nat.le_of_ble_eq_true rfl) ea7 eh8 ?_
  have zh8 : (hsh h8).length = (hsh h).length + 3 := nw_len eh8 zh6
  obtain ⟨h9, eh9, hf⟩ := ob hf
  refine r_putRF (pc := 25) (cs := (3, 32)) X hin dX12_init_25 ff_X12_16 (fun _ => ⟨rfl, rfl⟩) rfl eh9 ?_
  have zh9 : (hsh h9).length = (hsh h).length + 3 := by rw [pR_sh eh9]; exact zh8
  refine r_aload_n (pc := 28) (cs := (3, 32)) X dX12_init_28 rfl ?_
  refine r_bipush (pc := 29) (cs := (3, 32)) X 8 dX12_init_29 (by decide) ?_
  obtain ⟨a10, ea10, hf⟩ := ob hf
  obtain ⟨h11, eh11, hf⟩ := ob hf
  refine r_newa (pc := 31) (cs := (3, 32)) X hA zh9 dX12_init_31 ac_int (Or.inr (Or.inl ⟨rfl, rfl⟩)) (N := 8) (by decide) (by decide) (by decide) (Nat.le_of_ble_eq_true rfl) (Nat.le_of_ble_eq_true rfl) ea10 eh11 ?_
  have zh11 : (hsh h11).length = (hsh h).length + 4 := nw_len eh11 zh9
  obtain ⟨h12, eh12, hf⟩ := ob hf
  refine r_putRF (pc := 33) (cs := (4, 40)) X hin dX12_init_33 ff_X12_19 (fun _ => ⟨rfl, rfl⟩) rfl eh12 ?_
  have zh12 : (hsh h12).length = (hsh h).length + 4 := by rw [pR_sh eh12]; exact zh11
  refine r_aload_n (pc := 36) (cs := (4, 40)) X dX12_init_36 rfl ?_
  refine r_bipush (pc := 37) (cs := (4, 40)) X 80 dX12_init_37 (by decide) ?_
  obtain ⟨a13, ea13, hf⟩ := ob hf
  obtain ⟨h14, eh14, hf⟩ := ob hf
  refine r_newa (pc := 39) (cs := (4, 40)) X hA zh12 dX12_init_39 ac_byte (Or.inr (Or.inr (Or.inl ⟨rfl, rfl⟩))) (N := 80) (by decide) (by decide) (by decide) (Nat.le_of_ble_eq_true rfl) (Nat.le_of_ble_eq_true rfl) ea13 eh14 ?_
  have zh14 : (hsh h14).length = (hsh h).length + 5 := nw_len eh14 zh12
  obtain ⟨h15, eh15, hf⟩ := ob hf
  refine r_putRF (pc := 41) (cs := (5, 120)) X hin dX12_init_41 ff_X12_22 (fun _ => ⟨rfl, rfl⟩) rfl eh15 ?_
  have zh15 : (hsh h15).length = (hsh h).length + 5 := by rw [pR_sh eh15]; exact zh14
  refine r_aload_n (pc := 44) (cs := (5, 120)) X dX12_init_44 rfl ?_
  refine r_bipush (pc := 45) (cs := (5, 120)) X 16 dX12_init_45 (by decide) ?_
  obtain ⟨a16, ea16, hf⟩ := ob hf
  obtain ⟨h17, eh17, hf⟩ := ob hf
  refine r_newa (pc := 47) (cs := (5, 120)) X hA zh15 dX12_init_47 ac_long (Or.inl ⟨rfl, rfl⟩) (N := 16) (by decide) (by decide) (by decide) (Nat.le_of_ble_eq_true rfl) (Nat.le_of_ble_eq_true rfl) ea16 eh17 ?_
  have zh17 : (hsh h17).length = (hsh h).length + 6 := nw_len eh17 zh15
  obtain ⟨h18, eh18, hf⟩ := ob hf
  refine r_putRF (pc := 49) (cs := (6, 136)) X hin dX12_init_49 ff_X12_26 (fun _ => ⟨rfl, rfl⟩) rfl eh18 ?_
  have zh18 : (hsh h18).length = (hsh h).length + 6 := by rw [pR_sh eh18]; exact zh17
  refine r_aload_n (pc := 52) (cs := (6, 136)) X dX12_init_52 rfl ?_
  refine r_bipush (pc := 53) (cs := (6, 136)) X 24 dX12_init_53 (by decide) ?_
  obtain ⟨a19, ea19, hf⟩ := ob hf
  obtain ⟨h20, eh20, hf⟩ := ob hf
  refine r_newa (pc := 55) (cs := (6, 136)) X hA zh18 dX12_init_55 ac_int (Or.inr (Or.inl ⟨rfl, rfl⟩)) (N := 24) (by decide) (by decide) (by decide) (Nat.le_of_ble_eq_true rfl) (Nat.le_of_ble_eq_true rfl) ea19 eh20 ?_
  have zh20 : (hsh h20).length = (hsh h).length + 7 := nw_len eh20 zh18
  obtain ⟨h21, eh21, hf⟩ := ob hf
  refine r_putRF (pc := 57) (cs := (7, 160)) X hin dX12_init_57 ff_X12_30 (fun _ => ⟨rfl, rfl⟩) rfl eh21 ?_
  have zh21 : (hsh h21).length = (hsh h).length + 7 := by rw [pR_sh eh21]; exact zh20
  refine r_aload_n (pc := 60) (cs := (7, 160)) X dX12_init_60 rfl ?_
  refine r_bipush (pc := 61) (cs := (7, 160)) X 40 dX12_init_61 (by decide) ?_
  obtain ⟨a22, ea22, hf⟩ := ob hf
  obtain ⟨h23, eh23, hf⟩ := ob hf
  refine r_newa (pc := 63) (cs := (7, 160)) X hA zh21 dX12_init_63 ac_byte (Or.inr (Or.inr (Or.inl ⟨rfl, rfl⟩))) (N := 40) (by decide) (by decide) (by decide) (Nat.le_of_ble_eq_true rfl) (Nat.le_of_ble_eq_true rfl) ea22 eh23 ?_
  have zh23 : (hsh h23).length = (hsh h).length + 8 := nw_len eh23 zh21
  obtain ⟨h24, eh24, hf⟩ := ob hf
  refine r_putR (pc := 65) (cs := (8, 200)) X dX12_init_65 fp_X12_33 (fun _ => ⟨rfl, rfl⟩) rfl eh24 ?_
  have zh24 : (hsh h24).length = (hsh h).length + 8 := by rw [pR_sh eh24]; exact zh23
  refine r_aload_n (pc := 68) (cs := (8, 200)) X dX12_init_68 rfl ?_
  refine r_bipush (pc := 69) (cs := (8, 200)) X 40 dX12_init_69 (by decide) ?_
  obtain ⟨a25, ea25, hf⟩ := ob hf
  obtain ⟨h26, eh26, hf⟩ := ob hf
  refine r_newa (pc := 71) (cs := (8, 200)) X hA zh24 dX12_init_71 ac_byte (Or.inr (Or.inr (Or.inl ⟨rfl, rfl⟩))) (N := 40) (by decide) (by decide) (by decide) (Nat.le_of_ble_eq_true rfl) (Nat.le_of_ble_eq_true rfl) ea25 eh26 ?_
  have zh26 : (hsh h26).length = (hsh h).length + 9 := nw_len eh26 zh24
  obtain ⟨h27, eh27, hf⟩ := ob hf
  refine r_putR (pc := 73) (cs := (9, 240)) X dX12_init_73 fp_X12_36 (fun _ => ⟨rfl, rfl⟩) rfl eh27 ?_
  have zh27 : (hsh h27).length = (hsh h).length + 9 := by rw [pR_sh eh27]; exact zh26
  refine r_aload_n (pc := 76) (cs := (9, 240)) X dX12_init_76 rfl ?_
  refine r_bipush (pc := 77) (cs := (9, 240)) X 7 dX12_init_77 (by decide) ?_
  obtain ⟨a28, ea28, hf⟩ := ob hf
  obtain ⟨h29, eh29, hf⟩ := ob hf
  refine r_newa (pc := 79) (cs := (9, 240)) X hA zh27 dX12_init_79 ac_int (Or.inr (Or.inl ⟨rfl, rfl⟩)) (N := 7) (by decide) (by decide) (by decide) (Nat.le_of_ble_eq_true rfl) (Nat.le_of_ble_eq_true rfl) ea28 eh29 ?_
  have zh29 : (hsh h29).length = (hsh h).length + 10 := nw_len eh29 zh27
  obtain ⟨h30, eh30, hf⟩ := ob hf
  refine r_putRF (pc := 81) (cs := (10, 247)) X hin dX12_init_81 ff_X12_39 (fun _ => ⟨rfl, rfl⟩) rfl eh30 ?_
  have zh30 : (hsh h30).length = (hsh h).length + 10 := by rw [pR_sh eh30]; exact zh29
  refine r_aload_n (pc := 84) (cs := (10, 247)) X dX12_init_84 rfl ?_
  refine r_sipush (pc := 85) (cs := (10, 247)) X 192 dX12_init_85 (by decide) ?_
  obtain ⟨a31, ea31, hf⟩ := ob hf
  obtain ⟨h32, eh32, hf⟩ := ob hf
  refine r_newa (pc := 88) (cs := (10, 247)) X hA zh30 dX12_init_88 ac_int (Or.inr (Or.inl ⟨rfl, rfl⟩)) (N := 192) (by decide) (by decide) (by decide) (Nat.le_of_ble_eq_true rfl) (Nat.le_of_ble_eq_true rfl) ea31 eh32 ?_
  have zh32 : (hsh h32).length = (hsh h).length + 11 := nw_len eh32 zh30
  obtain ⟨h33, eh33, hf⟩ := ob hf
  refine r_putRF (pc := 90) (cs := (11, 439)) X hin dX12_init_90 ff_X12_42 (fun _ => ⟨rfl, rfl⟩) rfl eh33 ?_
  have zh33 : (hsh h33).length = (hsh h).length + 11 := by rw [pR_sh eh33]; exact zh32
  refine r_aload_n (pc := 93) (cs := (11, 439)) X dX12_init_93 rfl ?_
  refine r_bipush (pc := 94) (cs := (11, 439)) X 16 dX12_init_94 (by decide) ?_
  obtain ⟨a34, ea34, hf⟩ := ob hf
  obtain ⟨h35, eh35, hf⟩ := ob hf
  refine r_newa (pc := 96) (cs := (11, 439)) X hA zh33 dX12_init_96 ac_int (Or.inr (Or.inl ⟨rfl, rfl⟩)) (N := 16) (by decide) (by decide) (by decide) (Nat.le_of_ble_eq_true rfl) (Nat.le_of_ble_eq_true rfl) ea34 eh35 ?_
  have zh35 : (hsh h35).length = (hsh h).length + 12 := nw_len eh35 zh33
  obtain ⟨h36, eh36, hf⟩ := ob hf
  refine r_putRF (pc := 98) (cs := (12, 455)) X hin dX12_init_98 ff_X12_45 (fun _ => ⟨rfl, rfl⟩) rfl eh36 ?_
  have zh36 : (hsh h36).length = (hsh h).length + 12 := by rw [pR_sh eh36]; exact zh35
  refine r_aload_n (pc := 101) (cs := (12, 455)) X dX12_init_101 rfl ?_
  refine r_bipush (pc := 102) (cs := (12, 455)) X 16 dX12_init_102 (by decide) ?_
  obtain ⟨a37, ea37, hf⟩ := ob hf
  obtain ⟨h38, eh38, hf⟩ := ob hf
  refine r_newa (pc := 104) (cs := (12, 455)) X hA zh36 dX12_init_104 ac_int (Or.inr (Or.inl ⟨rfl, rfl⟩)) (N := 16) (by decide) (by decide) (by decide) (Nat.le_of_ble_eq_true rfl) (Nat.le_of_ble_eq_true rfl) ea37 eh38 ?_
  have zh38 : (hsh h38).length = (hsh h).length + 13 := nw_len eh38 zh36
  obtain ⟨h39, eh39, hf⟩ := ob hf
  refine r_putRF (pc := 106) (cs := (13, 471)) X hin dX12_init_106 ff_X12_48 (fun _ => ⟨rfl, rfl⟩) rfl eh39 ?_
  have zh39 : (hsh h39).length = (hsh h).length + 13 := by rw [pR_sh eh39]; exact zh38
  refine r_aload_n (pc := 109) (cs := (13, 471)) X dX12_init_109 rfl ?_
  refine r_bipush (pc := 110) (cs := (13, 471)) X 8 dX12_init_110 (by decide) ?_
  obtain ⟨a40, ea40, hf⟩ := ob hf
  obtain ⟨h41, eh41, hf⟩ := ob hf
  refine r_newa (pc := 112) (cs := (13, 471)) X hA zh39 dX12_init_112 ac_int (Or.inr (Or.inl ⟨rfl, rfl⟩)) (N := 8) (by decide) (by decide) (by decide) (Nat.le_of_ble_eq_true rfl) (Nat.le_of_ble_eq_true rfl) ea40 eh41 ?_
  have zh41 : (hsh h41).length = (hsh h).length + 14 := nw_len eh41 zh39
  obtain ⟨h42, eh42, hf⟩ := ob hf
  refine r_putRF (pc := 114) (cs := (14, 479)) X hin dX12_init_114 ff_X12_51 (fun _ => ⟨rfl, rfl⟩) rfl eh42 ?_
  have zh42 : (hsh h42).length = (hsh h).length + 14 := by rw [pR_sh eh42]; exact zh41
  refine r_aload_n (pc := 117) (cs := (14, 479)) X dX12_init_117 rfl ?_
  refine r_sipush (pc := 118) (cs := (14, 479)) X 240 dX12_init_118 (by decide) ?_
  obtain ⟨a43, ea43, hf⟩ := ob hf
  obtain ⟨h44, eh44, hf⟩ := ob hf
  refine r_newa (pc := 121) (cs := (14, 479)) X hA zh42 dX12_init_121 ac_int (Or.inr (Or.inl ⟨rfl, rfl⟩)) (N := 240) (by decide) (by decide) (by decide) (Nat.le_of_ble_eq_true rfl) (Nat.le_of_ble_eq_true rfl) ea43 eh44 ?_
  have zh44 : (hsh h44).length = (hsh h).length + 15 := nw_len eh44 zh42
  obtain ⟨h45, eh45, hf⟩ := ob hf
  refine r_putRF (pc := 123) (cs := (15, 719)) X hin dX12_init_123 ff_X12_54 (fun _ => ⟨rfl, rfl⟩) rfl eh45 ?_
  have zh45 : (hsh h45).length = (hsh h).length + 15 := by rw [pR_sh eh45]; exact zh44
  refine r_aload_n (pc := 126) (cs := (15, 719)) X dX12_init_126 rfl ?_
  refine r_sipush (pc := 127) (cs := (15, 719)) X 1616 dX12_init_127 (by decide) ?_
  obtain ⟨a46, ea46, hf⟩ := ob hf
  obtain ⟨h47, eh47, hf⟩ := ob hf
  refine r_newa (pc := 130) (cs := (15, 719)) X hA zh45 dX12_init_130 ac_int (Or.inr (Or.inl ⟨rfl, rfl⟩)) (N := 1616) (by decide) (by decide) (by decide) (Nat.le_of_ble_eq_true rfl) (Nat.le_of_ble_eq_true rfl) ea46 eh47 ?_
  have zh47 : (hsh h47).length = (hsh h).length + 16 := nw_len eh47 zh45
  obtain ⟨h48, eh48, hf⟩ := ob hf
  refine r_putRF (pc := 132) (cs := (16, 2335)) X hin dX12_init_132 ff_X12_57 (fun _ => ⟨rfl, rfl⟩) rfl eh48 ?_
  have zh48 : (hsh h48).length = (hsh h).length + 16 := by rw [pR_sh eh48]; exact zh47
  refine r_aload_n (pc := 135) (cs := (16, 2335)) X dX12_init_135 rfl ?_
  refine r_bipush (pc := 136) (cs := (16, 2335)) X 6 dX12_init_136 (by decide) ?_
  obtain ⟨a49, ea49, hf⟩ := ob hf
  obtain ⟨h50, eh50, hf⟩ := ob hf
  refine r_newa (pc := 138) (cs := (16, 2335)) X hA zh48 dX12_init_138 ac_int (Or.inr (Or.inl ⟨rfl, rfl⟩)) (N := 6) (by decide) (by decide) (by decide) (Nat.le_of_ble_eq_true rfl) (Nat.le_of_ble_eq_true rfl) ea49 eh50 ?_
  have zh50 : (hsh h50).length = (hsh h).length + 17 := nw_len eh50 zh48
  obtain ⟨h51, eh51, hf⟩ := ob hf
  refine r_putRF (pc := 140) (cs := (17, 2341)) X hin dX12_init_140 ff_X12_60 (fun _ => ⟨rfl, rfl⟩) rfl eh51 ?_
  have zh51 : (hsh h51).length = (hsh h).length + 17 := by rw [pR_sh eh51]; exact zh50
  refine r_aload_n (pc := 143) (cs := (17, 2341)) X dX12_init_143 rfl ?_
  refine r_bipush (pc := 144) (cs := (17, 2341)) X 41 dX12_init_144 (by decide) ?_
  obtain ⟨a52, ea52, hf⟩ := ob hf
  obtain ⟨h53, eh53, hf⟩ := ob hf
  refine r_newa (pc := 146) (cs := (17, 2341)) X hA zh51 dX12_init_146 ac_int (Or.inr (Or.inl ⟨rfl, rfl⟩)) (N := 41) (by decide) (by decide) (by decide) (Nat.le_of_ble_eq_true rfl) (Nat.le_of_ble_eq_true rfl) ea52 eh53 ?_
  have zh53 : (hsh h53).length = (hsh h).length + 18 := nw_len eh53 zh51
  obtain ⟨h54, eh54, hf⟩ := ob hf
  refine r_putRF (pc := 148) (cs := (18, 2382)) X hin dX12_init_148 ff_X12_63 (fun _ => ⟨rfl, rfl⟩) rfl eh54 ?_
  have zh54 : (hsh h54).length = (hsh h).length + 18 := by rw [pR_sh eh54]; exact zh53
  refine r_aload_n (pc := 151) (cs := (18, 2382)) X dX12_init_151 rfl ?_
  refine r_bipush (pc := 152) (cs := (18, 2382)) X 10 dX12_init_152 (by decide) ?_
  obtain ⟨a55, ea55, hf⟩ := ob hf
  obtain ⟨h56, eh56, hf⟩ := ob hf
  refine r_newa (pc := 154) (cs := (18, 2382)) X hA zh54 dX12_init_154 ac_int (Or.inr (Or.inl ⟨rfl, rfl⟩)) (N := 10) (by decide) (by decide) (by decide) (Nat.le_of_ble_eq_true rfl) (Nat.le_of_ble_eq_true rfl) ea55 eh56 ?_
  have zh56 : (hsh h56).length = (hsh h).length + 19 := nw_len eh56 zh54
  obtain ⟨h57, eh57, hf⟩ := ob hf
  refine r_putRF (pc := 156) (cs := (19, 2392)) X hin dX12_init_156 ff_X12_66 (fun _ => ⟨rfl, rfl⟩) rfl eh57 ?_
  have zh57 : (hsh h57).length = (hsh h).length + 19 := by rw [pR_sh eh57]; exact zh56
  refine r_aload_n (pc := 159) (cs := (19, 2392)) X dX12_init_159 rfl ?_
  refine r_bipush (pc := 160) (cs := (19, 2392)) X 10 dX12_init_160 (by decide) ?_
  obtain ⟨a58, ea58, hf⟩ := ob hf
  obtain ⟨h59, eh59, hf⟩ := ob hf
  refine r_newa (pc := 162) (cs := (19, 2392)) X hA zh57 dX12_init_162 ac_int (Or.inr (Or.inl ⟨rfl, rfl⟩)) (N := 10) (by decide) (by decide) (by decide) (Nat.le_of_ble_eq_true rfl) (Nat.le_of_ble_eq_true rfl) ea58 eh59 ?_
  have zh59 : (hsh h59).length = (hsh h).length + 20 := nw_len eh59 zh57
  obtain ⟨h60, eh60, hf⟩ := ob hf
  refine r_putRF (pc := 164) (cs := (20, 2402)) X hin dX12_init_164 ff_X12_69 (fun _ => ⟨rfl, rfl⟩) rfl eh60 ?_
  have zh60 : (hsh h60).length = (hsh h).length + 20 := by rw [pR_sh eh60]; exact zh59
  refine r_aload_n (pc := 167) (cs := (20, 2402)) X dX12_init_167 rfl ?_
  refine r_bipush (pc := 168) (cs := (20, 2402)) X 10 dX12_init_168 (by decide) ?_
  obtain ⟨a61, ea61, hf⟩ := ob hf
  obtain ⟨h62, eh62, hf⟩ := ob hf
  refine r_newa (pc := 170) (cs := (20, 2402)) X hA zh60 dX12_init_170 ac_int (Or.inr (Or.inl ⟨rfl, rfl⟩)) (N := 10) (by decide) (by decide) (by decide) (Nat.le_of_ble_eq_true rfl) (Nat.le_of_ble_eq_true rfl) ea61 eh62 ?_
  have zh62 : (hsh h62).length = (hsh h).length + 21 := nw_len eh62 zh60
  obtain ⟨h63, eh63, hf⟩ := ob hf
  refine r_putRF (pc := 172) (cs := (21, 2412)) X hin dX12_init_172 ff_X12_72 (fun _ => ⟨rfl, rfl⟩) rfl eh63 ?_
  have zh63 : (hsh h63).length = (hsh h).length + 21 := by rw [pR_sh eh63]; exact zh62
  refine r_aload_n (pc := 175) (cs := (21, 2412)) X dX12_init_175 rfl ?_
  refine r_sipush (pc := 176) (cs := (21, 2412)) X 1260 dX12_init_176 (by decide) ?_
  obtain ⟨a64, ea64, hf⟩ := ob hf
  obtain ⟨h65, eh65, hf⟩ := ob hf
  refine r_newa (pc := 179) (cs := (21, 2412)) X hA zh63 dX12_init_179 ac_int (Or.inr (Or.inl ⟨rfl, rfl⟩)) (N := 1260) (by decide) (by decide) (by decide) (Nat.le_of_ble_eq_true rfl) (Nat.le_of_ble_eq_true rfl) ea64 eh65 ?_
  have zh65 : (hsh h65).length = (hsh h).length + 22 := nw_len eh65 zh63
  obtain ⟨h66, eh66, hf⟩ := ob hf
  refine r_putRF (pc := 181) (cs := (22, 3672)) X hin dX12_init_181 ff_X12_75 (fun _ => ⟨rfl, rfl⟩) rfl eh66 ?_
  have zh66 : (hsh h66).length = (hsh h).length + 22 := by rw [pR_sh eh66]; exact zh65
  refine r_aload_n (pc := 184) (cs := (22, 3672)) X dX12_init_184 rfl ?_
  refine r_bipush (pc := 185) (cs := (22, 3672)) X 6 dX12_init_185 (by decide) ?_
  obtain ⟨a67, ea67, hf⟩ := ob hf
  obtain ⟨h68, eh68, hf⟩ := ob hf
  refine r_newa (pc := 187) (cs := (22, 3672)) X hA zh66 dX12_init_187 ac_int (Or.inr (Or.inl ⟨rfl, rfl⟩)) (N := 6) (by decide) (by decide) (by decide) (Nat.le_of_ble_eq_true rfl) (Nat.le_of_ble_eq_true rfl) ea67 eh68 ?_
  have zh68 : (hsh h68).length = (hsh h).length + 23 := nw_len eh68 zh66
  obtain ⟨h69, eh69, hf⟩ := ob hf
  refine r_putRF (pc := 189) (cs := (23, 3678)) X hin dX12_init_189 ff_X12_78 (fun _ => ⟨rfl, rfl⟩) rfl eh69 ?_
  have zh69 : (hsh h69).length = (hsh h).length + 23 := by rw [pR_sh eh69]; exact zh68
  refine r_aload_n (pc := 192) (cs := (23, 3678)) X dX12_init_192 rfl ?_
  refine r_bipush (pc := 193) (cs := (23, 3678)) X 8 dX12_init_193 (by decide) ?_
  obtain ⟨a70, ea70, hf⟩ := ob hf
  obtain ⟨h71, eh71, hf⟩ := ob hf
  refine r_newa (pc := 195) (cs := (23, 3678)) X hA zh69 dX12_init_195 ac_int (Or.inr (Or.inl ⟨rfl, rfl⟩)) (N := 8) (by decide) (by decide) (by decide) (Nat.le_of_ble_eq_true rfl) (Nat.le_of_ble_eq_true rfl) ea70 eh71 ?_
  have zh71 : (hsh h71).length = (hsh h).length + 24 := nw_len eh71 zh69
  obtain ⟨h72, eh72, hf⟩ := ob hf
  refine r_putRF (pc := 197) (cs := (24, 3686)) X hin dX12_init_197 ff_X12_81 (fun _ => ⟨rfl, rfl⟩) rfl eh72 ?_
  have zh72 : (hsh h72).length = (hsh h).length + 24 := by rw [pR_sh eh72]; exact zh71
  refine r_aload_n (pc := 200) (cs := (24, 3686)) X dX12_init_200 rfl ?_
  refine r_bipush (pc := 201) (cs := (24, 3686)) X 8 dX12_init_201 (by decide) ?_
  obtain ⟨a73, ea73, hf⟩ := ob hf
  obtain ⟨h74, eh74, hf⟩ := ob hf
  refine r_newa (pc := 203) (cs := (24, 3686)) X hA zh72 dX12_init_203 ac_int (Or.inr (Or.inl ⟨rfl, rfl⟩)) (N := 8) (by decide) (by decide) (by decide) (Nat.le_of_ble_eq_true rfl) (Nat.le_of_ble_eq_true rfl) ea73 eh74 ?_
  have zh74 : (hsh h74).length = (hsh h).length + 25 := nw_len eh74 zh72
  obtain ⟨h75, eh75, hf⟩ := ob hf
  refine r_putRF (pc := 205) (cs := (25, 3694)) X hin dX12_init_205 ff_X12_84 (fun _ => ⟨rfl, rfl⟩) rfl eh75 ?_
  have zh75 : (hsh h75).length = (hsh h).length + 25 := by rw [pR_sh eh75]; exact zh74
  refine r_aload_n (pc := 208) (cs := (25, 3694)) X dX12_init_208 rfl ?_
  refine r_sipush (pc := 209) (cs := (25, 3694)) X 441 dX12_init_209 (by decide) ?_
  obtain ⟨a76, ea76, hf⟩ := ob hf
  obtain ⟨h77, eh77, hf⟩ := ob hf
  refine r_newa (pc := 212) (cs := (25, 3694)) X hA zh75 dX12_init_212 ac_boolean (Or.inr (Or.inr (Or.inr (Or.inr ⟨rfl, rfl⟩)))) (N := 441) (by decide) (by decide) (by decide) (Nat.le_of_ble_eq_true rfl) (Nat.le_of_ble_eq_true rfl) ea76 eh77 ?_
  have zh77 : (hsh h77).length = (hsh h).length + 26 := nw_len eh77 zh75
  obtain ⟨h78, eh78, hf⟩ := ob hf
  refine r_putRF (pc := 214) (cs := (26, 4135)) X hin dX12_init_214 ff_X12_87 (fun _ => ⟨rfl, rfl⟩) rfl eh78 ?_
  have zh78 : (hsh h78).length = (hsh h).length + 26 := by rw [pR_sh eh78]; exact zh77
  refine r_aload_n (pc := 217) (cs := (26, 4135)) X dX12_init_217 rfl ?_
  refine r_bipush (pc := 218) (cs := (26, 4135)) X 32 dX12_init_218 (by decide) ?_
  obtain ⟨a79, ea79, hf⟩ := ob hf
  obtain ⟨h80, eh80, hf⟩ := ob hf
  refine r_newa (pc := 220) (cs := (26, 4135)) X hA zh78 dX12_init_220 ac_int (Or.inr (Or.inl ⟨rfl, rfl⟩)) (N := 32) (by decide) (by decide) (by decide) (Nat.le_of_ble_eq_true rfl) (Nat.le_of_ble_eq_true rfl) ea79 eh80 ?_
  have zh80 : (hsh h80).length = (hsh h).length + 27 := nw_len eh80 zh78
  obtain ⟨h81, eh81, hf⟩ := ob hf
  refine r_putRF (pc := 222) (cs := (27, 4167)) X hin dX12_init_222 ff_X12_91 (fun _ => ⟨rfl, rfl⟩) rfl eh81 ?_
  have zh81 : (hsh h81).length = (hsh h).length + 27 := by rw [pR_sh eh81]; exact zh80
  refine r_aload_n (pc := 225) (cs := (27, 4167)) X dX12_init_225 rfl ?_
  refine r_iconst (pc := 226) (cs := (27, 4167)) X 2 dX12_init_226 (by decide) ?_
  obtain ⟨a82, ea82, hf⟩ := ob hf
  obtain ⟨h83, eh83, hf⟩ := ob hf
  refine r_newa (pc := 227) (cs := (27, 4167)) X hA zh81 dX12_init_227 ac_boolean (Or.inr (Or.inr (Or.inr (Or.inr ⟨rfl, rfl⟩)))) (N := 2) (by decide) (by decide) (by decide) (Nat.le_of_ble_eq_true rfl) (Nat.le_of_ble_eq_true rfl) ea82 eh83 ?_
  have zh83 : (hsh h83).length = (hsh h).length + 28 := nw_len eh83 zh81
  obtain ⟨h84, eh84, hf⟩ := ob hf
  refine r_putRF (pc := 229) (cs := (28, 4169)) X hin dX12_init_229 ff_X12_94 (fun _ => ⟨rfl, rfl⟩) rfl eh84 ?_
  have zh84 : (hsh h84).length = (hsh h).length + 28 := by rw [pR_sh eh84]; exact zh83
  refine r_aload_n (pc := 232) (cs := (28, 4169)) X dX12_init_232 rfl ?_
  refine r_iconst (pc := 233) (cs := (28, 4169)) X 2 dX12_init_233 (by decide) ?_
  obtain ⟨a85, ea85, hf⟩ := ob hf
  obtain ⟨h86, eh86, hf⟩ := ob hf
  refine r_newa (pc := 234) (cs := (28, 4169)) X hA zh84 dX12_init_234 ac_int (Or.inr (Or.inl ⟨rfl, rfl⟩)) (N := 2) (by decide) (by decide) (by decide) (Nat.le_of_ble_eq_true rfl) (Nat.le_of_ble_eq_true rfl) ea85 eh86 ?_
  have zh86 : (hsh h86).length = (hsh h).length + 29 := nw_len eh86 zh84
  obtain ⟨h87, eh87, hf⟩ := ob hf
  refine r_putRF (pc := 236) (cs := (29, 4171)) X hin dX12_init_236 ff_X12_97 (fun _ => ⟨rfl, rfl⟩) rfl eh87 ?_
  have zh87 : (hsh h87).length = (hsh h).length + 29 := by rw [pR_sh eh87]; exact zh86
  obtain rfl := Option.some.inj hf
  exact r_vretA (pc := 239) X hA zh87 dX12_init_239 hk
