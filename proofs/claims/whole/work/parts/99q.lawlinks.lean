/-! the law's links; its helpers' walks (laid by a program) -/
set_option maxRecDepth 20000 in
theorem ml_L_7 : Cond.methodLink RL 7 yX11_basin ∈ lw_good := lw_good_of (inT5 (List.mem_of_getElem? (i := 18) (by decide +kernel))) (by decide +kernel)
set_option maxRecDepth 20000 in
theorem ml_L_15 : Cond.methodLink RL 15 yX11_sluice ∈ lw_good := lw_good_of (inT5 (List.mem_of_getElem? (i := 100) (by decide +kernel))) (by decide +kernel)
set_option maxRecDepth 20000 in
theorem ml_L_18 : Cond.methodLink RL 18 yX11_row ∈ lw_good := lw_good_of (inT5 (List.mem_of_getElem? (i := 109) (by decide +kernel))) (by decide +kernel)
set_option maxRecDepth 20000 in
theorem ml_L_22 : Cond.methodLink RL 22 yX11_init ∈ lw_good := lw_good_of (inT1 (List.mem_of_getElem? (i := 24) (by decide +kernel))) (by decide +kernel)
set_option maxRecDepth 20000 in
theorem ml_L_25 : Cond.methodLink RL 25 yX12_init ∈ lw_good := lw_good_of (inT5 (List.mem_of_getElem? (i := 116) (by decide +kernel))) (by decide +kernel)
set_option maxRecDepth 20000 in
theorem ml_L_26 : Cond.methodLink RL 26 yX11_sign ∈ lw_good := lw_good_of (inT2 (List.mem_of_getElem? (i := 90) (by decide +kernel))) (by decide +kernel)
set_option maxRecDepth 20000 in
theorem ml_L_30 : Cond.methodLink RL 30 yX12_sign ∈ lw_good := lw_good_of (inT6 (List.mem_of_getElem? (i := 35) (by decide +kernel))) (by decide +kernel)
set_option maxRecDepth 20000 in
theorem ml_L_31 : Cond.methodLink RL 31 yX11_end ∈ lw_good := lw_good_of (inT2 (List.mem_of_getElem? (i := 98) (by decide +kernel))) (by decide +kernel)
set_option maxRecDepth 20000 in
theorem ml_L_35 : Cond.methodLink RL 35 yX12_end ∈ lw_good := lw_good_of (inT6 (List.mem_of_getElem? (i := 39) (by decide +kernel))) (by decide +kernel)
set_option maxRecDepth 20000 in
theorem ml_L_36 : Cond.methodLink RL 36 yX11_basins ∈ lw_good := lw_good_of (inT2 (List.mem_of_getElem? (i := 106) (by decide +kernel))) (by decide +kernel)
set_option maxRecDepth 20000 in
theorem ml_L_40 : Cond.methodLink RL 40 yX12_basins ∈ lw_good := lw_good_of (inT6 (List.mem_of_getElem? (i := 46) (by decide +kernel))) (by decide +kernel)
set_option maxRecDepth 20000 in
theorem ml_L_41 : Cond.methodLink RL 41 yX11_sluices ∈ lw_good := lw_good_of (inT2 (List.mem_of_getElem? (i := 163) (by decide +kernel))) (by decide +kernel)
set_option maxRecDepth 20000 in
theorem ml_L_44 : Cond.methodLink RL 44 yX12_sluices ∈ lw_good := lw_good_of (inT6 (List.mem_of_getElem? (i := 86) (by decide +kernel))) (by decide +kernel)
set_option maxRecDepth 20000 in
theorem ml_L_45 : Cond.methodLink RL 45 yX11_rule ∈ lw_good := lw_good_of (inT2 (List.mem_of_getElem? (i := 171) (by decide +kernel))) (by decide +kernel)
set_option maxRecDepth 20000 in
theorem ml_L_48 : Cond.methodLink RL 48 yX12_rule ∈ lw_good := lw_good_of (inT6 (List.mem_of_getElem? (i := 94) (by decide +kernel))) (by decide +kernel)
set_option maxRecDepth 20000 in
theorem ml_L_49 : Cond.methodLink RL 49 yL_basin ∈ lw_good := lw_good_of (inT5 (List.mem_of_getElem? (i := 14) (by decide +kernel))) (by decide +kernel)
set_option maxRecDepth 20000 in
theorem ml_L_54 : Cond.methodLink RL 54 yX12_basin ∈ lw_good := lw_good_of (inT6 (List.mem_of_getElem? (i := 129) (by decide +kernel))) (by decide +kernel)
set_option maxRecDepth 20000 in
theorem ml_L_55 : Cond.methodLink RL 55 yX12_thrown ∈ lw_good := lw_good_of (inT6 (List.mem_of_getElem? (i := 31) (by decide +kernel))) (by decide +kernel)
set_option maxRecDepth 20000 in
theorem ml_L_58 : Cond.methodLink RL 58 yL_sluice ∈ lw_good := lw_good_of (inT5 (List.mem_of_getElem? (i := 97) (by decide +kernel))) (by decide +kernel)
set_option maxRecDepth 20000 in
theorem ml_L_60 : Cond.methodLink RL 60 yX12_sluice ∈ lw_good := lw_good_of (inT6 (List.mem_of_getElem? (i := 145) (by decide +kernel))) (by decide +kernel)
set_option maxRecDepth 20000 in
theorem ml_L_61 : Cond.methodLink RL 61 yX11_sheet ∈ lw_good := lw_good_of (inT2 (List.mem_of_getElem? (i := 238) (by decide +kernel))) (by decide +kernel)
set_option maxRecDepth 20000 in
theorem ml_L_65 : Cond.methodLink RL 65 yX12_sheet ∈ lw_good := lw_good_of (inT6 (List.mem_of_getElem? (i := 159) (by decide +kernel))) (by decide +kernel)
set_option maxRecDepth 20000 in
theorem ml_L_66 : Cond.methodLink RL 66 yX11_hours ∈ lw_good := lw_good_of (inT3 (List.mem_of_getElem? (i := 13) (by decide +kernel))) (by decide +kernel)
set_option maxRecDepth 20000 in
theorem ml_L_69 : Cond.methodLink RL 69 yX12_hours ∈ lw_good := lw_good_of (inT6 (List.mem_of_getElem? (i := 167) (by decide +kernel))) (by decide +kernel)
set_option maxRecDepth 20000 in
theorem ml_L_70 : Cond.methodLink RL 70 yX11_pours ∈ lw_good := lw_good_of (inT3 (List.mem_of_getElem? (i := 119) (by decide +kernel))) (by decide +kernel)
set_option maxRecDepth 20000 in
theorem ml_L_73 : Cond.methodLink RL 73 yX12_pours ∈ lw_good := lw_good_of (inT6 (List.mem_of_getElem? (i := 201) (by decide +kernel))) (by decide +kernel)
set_option maxRecDepth 20000 in
theorem ml_L_74 : Cond.methodLink RL 74 yX11_lets ∈ lw_good := lw_good_of (inT3 (List.mem_of_getElem? (i := 123) (by decide +kernel))) (by decide +kernel)
set_option maxRecDepth 20000 in
theorem ml_L_77 : Cond.methodLink RL 77 yX12_lets ∈ lw_good := lw_good_of (inT6 (List.mem_of_getElem? (i := 216) (by decide +kernel))) (by decide +kernel)
set_option maxRecDepth 20000 in
theorem ml_L_78 : Cond.methodLink RL 78 yX11_boats ∈ lw_good := lw_good_of (inT3 (List.mem_of_getElem? (i := 127) (by decide +kernel))) (by decide +kernel)
set_option maxRecDepth 20000 in
theorem ml_L_81 : Cond.methodLink RL 81 yX12_boats ∈ lw_good := lw_good_of (inT6 (List.mem_of_getElem? (i := 220) (by decide +kernel))) (by decide +kernel)
set_option maxRecDepth 20000 in
theorem ml_L_82 : Cond.methodLink RL 82 yX11_sticks ∈ lw_good := lw_good_of (inT3 (List.mem_of_getElem? (i := 131) (by decide +kernel))) (by decide +kernel)
set_option maxRecDepth 20000 in
theorem ml_L_85 : Cond.methodLink RL 85 yX12_sticks ∈ lw_good := lw_good_of (inT6 (List.mem_of_getElem? (i := 232) (by decide +kernel))) (by decide +kernel)
set_option maxRecDepth 20000 in
theorem ml_L_86 : Cond.methodLink RL 86 yX11_marks ∈ lw_good := lw_good_of (inT3 (List.mem_of_getElem? (i := 135) (by decide +kernel))) (by decide +kernel)
set_option maxRecDepth 20000 in
theorem ml_L_89 : Cond.methodLink RL 89 yX12_marks ∈ lw_good := lw_good_of (inT6 (List.mem_of_getElem? (i := 236) (by decide +kernel))) (by decide +kernel)
set_option maxRecDepth 20000 in
theorem ml_L_90 : Cond.methodLink RL 90 yX11_night ∈ lw_good := lw_good_of (inT3 (List.mem_of_getElem? (i := 139) (by decide +kernel))) (by decide +kernel)
set_option maxRecDepth 20000 in
theorem ml_L_93 : Cond.methodLink RL 93 yX12_night ∈ lw_good := lw_good_of (inT7 (List.mem_of_getElem? (i := 4) (by decide +kernel))) (by decide +kernel)
set_option maxRecDepth 20000 in
theorem ml_L_94 : Cond.methodLink RL 94 yX11_undo ∈ lw_good := lw_good_of (inT3 (List.mem_of_getElem? (i := 154) (by decide +kernel))) (by decide +kernel)
set_option maxRecDepth 20000 in
theorem ml_L_97 : Cond.methodLink RL 97 yX12_undo ∈ lw_good := lw_good_of (inT7 (List.mem_of_getElem? (i := 16) (by decide +kernel))) (by decide +kernel)
set_option maxRecDepth 20000 in
theorem ml_L_98 : Cond.methodLink RL 98 yX11_later ∈ lw_good := lw_good_of (inT3 (List.mem_of_getElem? (i := 162) (by decide +kernel))) (by decide +kernel)
set_option maxRecDepth 20000 in
theorem ml_L_101 : Cond.methodLink RL 101 yX12_later ∈ lw_good := lw_good_of (inT7 (List.mem_of_getElem? (i := 20) (by decide +kernel))) (by decide +kernel)
set_option maxRecDepth 20000 in
theorem ml_L_102 : Cond.methodLink RL 102 yX11_marked ∈ lw_good := lw_good_of (inT3 (List.mem_of_getElem? (i := 175) (by decide +kernel))) (by decide +kernel)
set_option maxRecDepth 20000 in
theorem ml_L_105 : Cond.methodLink RL 105 yX12_marked ∈ lw_good := lw_good_of (inT7 (List.mem_of_getElem? (i := 28) (by decide +kernel))) (by decide +kernel)
set_option maxRecDepth 20000 in
theorem ml_L_106 : Cond.methodLink RL 106 yX11_round ∈ lw_good := lw_good_of (inT3 (List.mem_of_getElem? (i := 183) (by decide +kernel))) (by decide +kernel)
set_option maxRecDepth 20000 in
theorem ml_L_109 : Cond.methodLink RL 109 yX12_round ∈ lw_good := lw_good_of (inT7 (List.mem_of_getElem? (i := 36) (by decide +kernel))) (by decide +kernel)
set_option maxRecDepth 20000 in
theorem ml_L_110 : Cond.methodLink RL 110 yX11_still ∈ lw_good := lw_good_of (inT3 (List.mem_of_getElem? (i := 211) (by decide +kernel))) (by decide +kernel)
set_option maxRecDepth 20000 in
theorem ml_L_113 : Cond.methodLink RL 113 yX12_still ∈ lw_good := lw_good_of (inT7 (List.mem_of_getElem? (i := 52) (by decide +kernel))) (by decide +kernel)
set_option maxRecDepth 20000 in
theorem ml_L_114 : Cond.methodLink RL 114 yX11_busiest ∈ lw_good := lw_good_of (inT3 (List.mem_of_getElem? (i := 219) (by decide +kernel))) (by decide +kernel)
set_option maxRecDepth 20000 in
theorem ml_L_117 : Cond.methodLink RL 117 yX12_busiest ∈ lw_good := lw_good_of (inT7 (List.mem_of_getElem? (i := 56) (by decide +kernel))) (by decide +kernel)
set_option maxRecDepth 20000 in
theorem ml_L_118 : Cond.methodLink RL 118 yX11_high ∈ lw_good := lw_good_of (inT3 (List.mem_of_getElem? (i := 223) (by decide +kernel))) (by decide +kernel)
set_option maxRecDepth 20000 in
theorem ml_L_121 : Cond.methodLink RL 121 yX12_high ∈ lw_good := lw_good_of (inT7 (List.mem_of_getElem? (i := 60) (by decide +kernel))) (by decide +kernel)
set_option maxRecDepth 20000 in
theorem ml_L_122 : Cond.methodLink RL 122 yX11_table ∈ lw_good := lw_good_of (inT3 (List.mem_of_getElem? (i := 227) (by decide +kernel))) (by decide +kernel)
set_option maxRecDepth 20000 in
theorem ml_L_125 : Cond.methodLink RL 125 yX12_table ∈ lw_good := lw_good_of (inT7 (List.mem_of_getElem? (i := 64) (by decide +kernel))) (by decide +kernel)
set_option maxRecDepth 20000 in
theorem ml_L_126 : Cond.methodLink RL 126 yX11_quarters ∈ lw_good := lw_good_of (inT3 (List.mem_of_getElem? (i := 239) (by decide +kernel))) (by decide +kernel)
set_option maxRecDepth 20000 in
theorem ml_L_129 : Cond.methodLink RL 129 yX12_quarters ∈ lw_good := lw_good_of (inT7 (List.mem_of_getElem? (i := 79) (by decide +kernel))) (by decide +kernel)
set_option maxRecDepth 20000 in
theorem ml_L_130 : Cond.methodLink RL 130 yX11_learns ∈ lw_good := lw_good_of (inT4 (List.mem_of_getElem? (i := 15) (by decide +kernel))) (by decide +kernel)
set_option maxRecDepth 20000 in
theorem ml_L_133 : Cond.methodLink RL 133 yX12_learns ∈ lw_good := lw_good_of (inT7 (List.mem_of_getElem? (i := 83) (by decide +kernel))) (by decide +kernel)
set_option maxRecDepth 20000 in
theorem ml_L_134 : Cond.methodLink RL 134 yX11_words ∈ lw_good := lw_good_of (inT4 (List.mem_of_getElem? (i := 23) (by decide +kernel))) (by decide +kernel)
set_option maxRecDepth 20000 in
theorem ml_L_138 : Cond.methodLink RL 138 yX12_words ∈ lw_good := lw_good_of (inT7 (List.mem_of_getElem? (i := 87) (by decide +kernel))) (by decide +kernel)
set_option maxRecDepth 20000 in
theorem ml_L_139 : Cond.methodLink RL 139 yX11_hears ∈ lw_good := lw_good_of (inT4 (List.mem_of_getElem? (i := 37) (by decide +kernel))) (by decide +kernel)
set_option maxRecDepth 20000 in
theorem ml_L_142 : Cond.methodLink RL 142 yX12_hears ∈ lw_good := lw_good_of (inT7 (List.mem_of_getElem? (i := 100) (by decide +kernel))) (by decide +kernel)
set_option maxRecDepth 20000 in
theorem ml_L_143 : Cond.methodLink RL 143 yX11_drought ∈ lw_good := lw_good_of (inT4 (List.mem_of_getElem? (i := 41) (by decide +kernel))) (by decide +kernel)
set_option maxRecDepth 20000 in
theorem ml_L_146 : Cond.methodLink RL 146 yX12_drought ∈ lw_good := lw_good_of (inT7 (List.mem_of_getElem? (i := 104) (by decide +kernel))) (by decide +kernel)
set_option maxRecDepth 20000 in
theorem ml_L_147 : Cond.methodLink RL 147 yX11_saw ∈ lw_good := lw_good_of (inT4 (List.mem_of_getElem? (i := 45) (by decide +kernel))) (by decide +kernel)
set_option maxRecDepth 20000 in
theorem ml_L_150 : Cond.methodLink RL 150 yX12_saw ∈ lw_good := lw_good_of (inT7 (List.mem_of_getElem? (i := 108) (by decide +kernel))) (by decide +kernel)
set_option maxRecDepth 20000 in
theorem ml_L_151 : Cond.methodLink RL 151 yX11_forget ∈ lw_good := lw_good_of (inT4 (List.mem_of_getElem? (i := 53) (by decide +kernel))) (by decide +kernel)
set_option maxRecDepth 20000 in
theorem ml_L_154 : Cond.methodLink RL 154 yX12_forget ∈ lw_good := lw_good_of (inT7 (List.mem_of_getElem? (i := 112) (by decide +kernel))) (by decide +kernel)
set_option maxRecDepth 20000 in
theorem ml_L_155 : Cond.methodLink RL 155 yX11_fits ∈ lw_good := lw_good_of (inT4 (List.mem_of_getElem? (i := 61) (by decide +kernel))) (by decide +kernel)
set_option maxRecDepth 20000 in
theorem ml_L_158 : Cond.methodLink RL 158 yX12_fits ∈ lw_good := lw_good_of (inT7 (List.mem_of_getElem? (i := 116) (by decide +kernel))) (by decide +kernel)
set_option maxRecDepth 20000 in
theorem ml_L_159 : Cond.methodLink RL 159 yX11_looks ∈ lw_good := lw_good_of (inT4 (List.mem_of_getElem? (i := 82) (by decide +kernel))) (by decide +kernel)
set_option maxRecDepth 20000 in
theorem ml_L_162 : Cond.methodLink RL 162 yX12_looks ∈ lw_good := lw_good_of (inT7 (List.mem_of_getElem? (i := 132) (by decide +kernel))) (by decide +kernel)
set_option maxRecDepth 20000 in
theorem ml_L_163 : Cond.methodLink RL 163 yX11_needs ∈ lw_good := lw_good_of (inT4 (List.mem_of_getElem? (i := 95) (by decide +kernel))) (by decide +kernel)
set_option maxRecDepth 20000 in
theorem ml_L_166 : Cond.methodLink RL 166 yX12_needs ∈ lw_good := lw_good_of (inT7 (List.mem_of_getElem? (i := 140) (by decide +kernel))) (by decide +kernel)
set_option maxRecDepth 20000 in
theorem ml_L_167 : Cond.methodLink RL 167 yX11_reach ∈ lw_good := lw_good_of (inT4 (List.mem_of_getElem? (i := 103) (by decide +kernel))) (by decide +kernel)
set_option maxRecDepth 20000 in
theorem ml_L_170 : Cond.methodLink RL 170 yX12_reach ∈ lw_good := lw_good_of (inT7 (List.mem_of_getElem? (i := 148) (by decide +kernel))) (by decide +kernel)
set_option maxRecDepth 20000 in
theorem ml_L_171 : Cond.methodLink RL 171 yX11_way ∈ lw_good := lw_good_of (inT4 (List.mem_of_getElem? (i := 114) (by decide +kernel))) (by decide +kernel)
set_option maxRecDepth 20000 in
theorem ml_L_174 : Cond.methodLink RL 174 yX12_way ∈ lw_good := lw_good_of (inT7 (List.mem_of_getElem? (i := 160) (by decide +kernel))) (by decide +kernel)
set_option maxRecDepth 20000 in
theorem ml_L_175 : Cond.methodLink RL 175 yX11_cut ∈ lw_good := lw_good_of (inT4 (List.mem_of_getElem? (i := 131) (by decide +kernel))) (by decide +kernel)
set_option maxRecDepth 20000 in
theorem ml_L_178 : Cond.methodLink RL 178 yX12_cut ∈ lw_good := lw_good_of (inT7 (List.mem_of_getElem? (i := 172) (by decide +kernel))) (by decide +kernel)
set_option maxRecDepth 20000 in
theorem ml_L_179 : Cond.methodLink RL 179 yX11_ring ∈ lw_good := lw_good_of (inT4 (List.mem_of_getElem? (i := 141) (by decide +kernel))) (by decide +kernel)
set_option maxRecDepth 20000 in
theorem ml_L_182 : Cond.methodLink RL 182 yX12_ring ∈ lw_good := lw_good_of (inT7 (List.mem_of_getElem? (i := 176) (by decide +kernel))) (by decide +kernel)
set_option maxRecDepth 20000 in
theorem ml_L_183 : Cond.methodLink RL 183 yX11_order ∈ lw_good := lw_good_of (inT4 (List.mem_of_getElem? (i := 150) (by decide +kernel))) (by decide +kernel)
set_option maxRecDepth 20000 in
theorem ml_L_186 : Cond.methodLink RL 186 yX12_order ∈ lw_good := lw_good_of (inT7 (List.mem_of_getElem? (i := 184) (by decide +kernel))) (by decide +kernel)
set_option maxRecDepth 20000 in
theorem ml_L_187 : Cond.methodLink RL 187 yX11_locks ∈ lw_good := lw_good_of (inT4 (List.mem_of_getElem? (i := 176) (by decide +kernel))) (by decide +kernel)
set_option maxRecDepth 20000 in
theorem ml_L_190 : Cond.methodLink RL 190 yX12_locks ∈ lw_good := lw_good_of (inT7 (List.mem_of_getElem? (i := 192) (by decide +kernel))) (by decide +kernel)
set_option maxRecDepth 20000 in
theorem ml_L_191 : Cond.methodLink RL 191 yX11_spoils ∈ lw_good := lw_good_of (inT4 (List.mem_of_getElem? (i := 187) (by decide +kernel))) (by decide +kernel)
set_option maxRecDepth 20000 in
theorem ml_L_194 : Cond.methodLink RL 194 yX12_spoils ∈ lw_good := lw_good_of (inT7 (List.mem_of_getElem? (i := 204) (by decide +kernel))) (by decide +kernel)
set_option maxRecDepth 20000 in
theorem ml_L_195 : Cond.methodLink RL 195 yX11_rests ∈ lw_good := lw_good_of (inT4 (List.mem_of_getElem? (i := 201) (by decide +kernel))) (by decide +kernel)
set_option maxRecDepth 20000 in
theorem ml_L_198 : Cond.methodLink RL 198 yX12_rests ∈ lw_good := lw_good_of (inT7 (List.mem_of_getElem? (i := 215) (by decide +kernel))) (by decide +kernel)
set_option maxRecDepth 20000 in
theorem ml_L_199 : Cond.methodLink RL 199 yX11_law ∈ lw_good := lw_good_of (inT4 (List.mem_of_getElem? (i := 211) (by decide +kernel))) (by decide +kernel)
set_option maxRecDepth 20000 in
theorem ml_L_202 : Cond.methodLink RL 202 yX12_law ∈ lw_good := lw_good_of (inT7 (List.mem_of_getElem? (i := 225) (by decide +kernel))) (by decide +kernel)
set_option maxRecDepth 20000 in
theorem ml_L_203 : Cond.methodLink RL 203 yX11_years ∈ lw_good := lw_good_of (inT4 (List.mem_of_getElem? (i := 215) (by decide +kernel))) (by decide +kernel)
set_option maxRecDepth 20000 in
theorem ml_L_206 : Cond.methodLink RL 206 yX12_years ∈ lw_good := lw_good_of (inT7 (List.mem_of_getElem? (i := 229) (by decide +kernel))) (by decide +kernel)
set_option maxRecDepth 20000 in
theorem ml_L_207 : Cond.methodLink RL 207 yX11_keep ∈ lw_good := lw_good_of (inT4 (List.mem_of_getElem? (i := 226) (by decide +kernel))) (by decide +kernel)
set_option maxRecDepth 20000 in
theorem ml_L_210 : Cond.methodLink RL 210 yX12_keep ∈ lw_good := lw_good_of (inT7 (List.mem_of_getElem? (i := 238) (by decide +kernel))) (by decide +kernel)
set_option maxRecDepth 20000 in
theorem ml_L_211 : Cond.methodLink RL 211 yX11_again ∈ lw_good := lw_good_of (inT4 (List.mem_of_getElem? (i := 234) (by decide +kernel))) (by decide +kernel)
set_option maxRecDepth 20000 in
theorem ml_L_214 : Cond.methodLink RL 214 yX12_again ∈ lw_good := lw_good_of (inT8 (List.mem_of_getElem? (i := 2) (by decide +kernel))) (by decide +kernel)
set_option maxRecDepth 20000 in
theorem ml_L_215 : Cond.methodLink RL 215 yX11_count ∈ lw_good := lw_good_of (inT5 (List.mem_of_getElem? (i := 2) (by decide +kernel))) (by decide +kernel)
set_option maxRecDepth 20000 in
theorem ml_L_218 : Cond.methodLink RL 218 yX12_count ∈ lw_good := lw_good_of (inT8 (List.mem_of_getElem? (i := 6) (by decide +kernel))) (by decide +kernel)
set_option maxRecDepth 20000 in
theorem ml_L_219 : Cond.methodLink RL 219 yL_row ∈ lw_good := lw_good_of (inT5 (List.mem_of_getElem? (i := 106) (by decide +kernel))) (by decide +kernel)
set_option maxRecDepth 20000 in
theorem ml_L_222 : Cond.methodLink RL 222 yX12_row ∈ lw_good := lw_good_of (inT8 (List.mem_of_getElem? (i := 14) (by decide +kernel))) (by decide +kernel)
set_option maxRecDepth 20000 in
theorem wo_L_basin : WOk yL_basin cL_basin 5 (some .int) (0, 10, 13, 13) 4 := ⟨lw_good_of (inT5 (List.mem_of_getElem? (i := 16) rfl)) rfl, lw_good_of (inT1 (List.mem_of_getElem? (i := 0) (by decide +kernel))) (by decide +kernel), by decide +kernel, by decide +kernel, lw_good_of (inT5 (List.mem_of_getElem? (i := 15) (by decide +kernel))) (by decide +kernel), by decide⟩
set_option maxRecDepth 20000 in
theorem wo_L_sluice : WOk yL_sluice cL_sluice 5 (some .int) (0, 10, 13, 13) 4 := ⟨lw_good_of (inT5 (List.mem_of_getElem? (i := 99) rfl)) rfl, lw_good_of (inT1 (List.mem_of_getElem? (i := 0) (by decide +kernel))) (by decide +kernel), by decide +kernel, by decide +kernel, lw_good_of (inT5 (List.mem_of_getElem? (i := 98) (by decide +kernel))) (by decide +kernel), by decide⟩
set_option maxRecDepth 20000 in
theorem wo_L_row : WOk yL_row cL_row 4 (some .int) (0, 8, 11, 13) 3 := ⟨lw_good_of (inT5 (List.mem_of_getElem? (i := 108) rfl)) rfl, lw_good_of (inT1 (List.mem_of_getElem? (i := 0) (by decide +kernel))) (by decide +kernel), by decide +kernel, by decide +kernel, lw_good_of (inT5 (List.mem_of_getElem? (i := 107) (by decide +kernel))) (by decide +kernel), by decide⟩
set_option maxRecDepth 20000 in
theorem cl_L_13 : Cond.classLink RL 13 nse ∈ lw_good := lw_good_of (inT5 (List.mem_of_getElem? (i := 17) (by decide +kernel))) (by decide +kernel)
set_option maxRecDepth 20000 in
theorem nk_L_8 : NOk RL 8 10 := ⟨_, rfl, lw_good_of (inT1 (List.mem_of_getElem? (i := 22) (by decide +kernel))) (by decide +kernel), lw_good_of (inT1 (List.mem_of_getElem? (i := 23) (by decide +kernel))) (by decide +kernel), lw_good_of (inT1 (List.mem_of_getElem? (i := 1) (by decide +kernel))) (by decide +kernel)⟩
set_option maxRecDepth 20000 in
theorem nk_L_23 : NOk RL 23 11 := ⟨_, rfl, lw_good_of (inT5 (List.mem_of_getElem? (i := 114) (by decide +kernel))) (by decide +kernel), lw_good_of (inT5 (List.mem_of_getElem? (i := 115) (by decide +kernel))) (by decide +kernel), lw_good_of (inT1 (List.mem_of_getElem? (i := 13) (by decide +kernel))) (by decide +kernel)⟩
set_option maxRecDepth 20000 in
theorem io_X11_init : IOk yX11_init cX11_init 1 0 := ⟨mk_X11_init, lw_good_of (inT1 (List.mem_of_getElem? (i := 25) (by decide +kernel))) (by decide +kernel), rfl, by decide⟩
set_option maxRecDepth 20000 in
theorem io_X12_init : IOk yX12_init cX12_init 1 0 := ⟨mk_X12_init, lw_good_of (inT5 (List.mem_of_getElem? (i := 117) (by decide +kernel))) (by decide +kernel), rfl, by decide⟩
theorem dL_basin_0 : decode cL_basin 0 = .ok (.aload_n 3, 1) := by decide +kernel
theorem dL_basin_1 : decode cL_basin 1 = .ok (.iconst 0, 1) := by decide +kernel
theorem dL_basin_2 : decode cL_basin 2 = .ok (.aload_n 0, 1) := by decide +kernel
theorem dL_basin_3 : decode cL_basin 3 = .ok (.iload_n 1, 1) := by decide +kernel
theorem dL_basin_4 : decode cL_basin 4 = .ok (.iload_n 2, 1) := by decide +kernel
theorem dL_basin_5 : decode cL_basin 5 = .ok (.invokevirtual 7, 3) := by decide +kernel
theorem dL_basin_8 : decode cL_basin 8 = .ok (.i2l, 1) := by decide +kernel
theorem dL_basin_9 : decode cL_basin 9 = .ok (.lastore, 1) := by decide +kernel
theorem dL_basin_10 : decode cL_basin 10 = .ok (.goto 7, 3) := by decide +kernel
theorem dL_basin_13 : decode cL_basin 13 = .ok (.astore 4, 2) := by decide +kernel
theorem dL_basin_15 : decode cL_basin 15 = .ok (.iconst 1, 1) := by decide +kernel
theorem dL_basin_16 : decode cL_basin 16 = .ok (.ireturn, 1) := by decide +kernel
theorem dL_basin_17 : decode cL_basin 17 = .ok (.iconst 0, 1) := by decide +kernel
theorem dL_basin_18 : decode cL_basin 18 = .ok (.ireturn, 1) := by decide +kernel
theorem dL_sluice_0 : decode cL_sluice 0 = .ok (.aload_n 3, 1) := by decide +kernel
theorem dL_sluice_1 : decode cL_sluice 1 = .ok (.iconst 0, 1) := by decide +kernel
theorem dL_sluice_2 : decode cL_sluice 2 = .ok (.aload_n 0, 1) := by decide +kernel
theorem dL_sluice_3 : decode cL_sluice 3 = .ok (.iload_n 1, 1) := by decide +kernel
theorem dL_sluice_4 : decode cL_sluice 4 = .ok (.iload_n 2, 1) := by decide +kernel
theorem dL_sluice_5 : decode cL_sluice 5 = .ok (.invokevirtual 15, 3) := by decide +kernel
theorem dL_sluice_8 : decode cL_sluice 8 = .ok (.i2l, 1) := by decide +kernel
theorem dL_sluice_9 : decode cL_sluice 9 = .ok (.lastore, 1) := by decide +kernel
theorem dL_sluice_10 : decode cL_sluice 10 = .ok (.goto 7, 3) := by decide +kernel
theorem dL_sluice_13 : decode cL_sluice 13 = .ok (.astore 4, 2) := by decide +kernel
theorem dL_sluice_15 : decode cL_sluice 15 = .ok (.iconst 1, 1) := by decide +kernel
theorem dL_sluice_16 : decode cL_sluice 16 = .ok (.ireturn, 1) := by decide +kernel
theorem dL_sluice_17 : decode cL_sluice 17 = .ok (.iconst 0, 1) := by decide +kernel
theorem dL_sluice_18 : decode cL_sluice 18 = .ok (.ireturn, 1) := by decide +kernel
theorem dL_row_0 : decode cL_row 0 = .ok (.aload_n 2, 1) := by decide +kernel
theorem dL_row_1 : decode cL_row 1 = .ok (.iconst 0, 1) := by decide +kernel
theorem dL_row_2 : decode cL_row 2 = .ok (.aload_n 0, 1) := by decide +kernel
theorem dL_row_3 : decode cL_row 3 = .ok (.iload_n 1, 1) := by decide +kernel
theorem dL_row_4 : decode cL_row 4 = .ok (.invokevirtual 18, 3) := by decide +kernel
theorem dL_row_7 : decode cL_row 7 = .ok (.lastore, 1) := by decide +kernel
theorem dL_row_8 : decode cL_row 8 = .ok (.goto 6, 3) := by decide +kernel
theorem dL_row_11 : decode cL_row 11 = .ok (.astore_n 3, 1) := by decide +kernel
theorem dL_row_12 : decode cL_row 12 = .ok (.iconst 1, 1) := by decide +kernel
theorem dL_row_13 : decode cL_row 13 = .ok (.ireturn, 1) := by decide +kernel
theorem dL_row_14 : decode cL_row 14 = .ok (.iconst 0, 1) := by decide +kernel
theorem dL_row_15 : decode cL_row 15 = .ok (.ireturn, 1) := by decide +kernel
def fnL_basin (h : aH) (p1 p2 : Int32) : Option (Int32 × aH) := (fn_X11_basin h 0 p1 p2).bind fun o => match o with
  | none => some (1, h)
  | some q => (wJ q.2 116 0 (Int32.toInt64 q.1)).bind fun h' => some (0, h')
set_option maxHeartbeats 4000000 in
theorem evW_basin {l : Launch} {g : aG} {d : Nat} (hst : l.stackTraces = false) (hd : 7 ≤ d) (h : aH) (p1 p2 : Int32) {u : Unit} (hck : ck h 0 10 = some u) (o : Int32 × aH) (hf : fnL_basin h p1 p2 = some o) : EvW l g d yL_basin cL_basin 5 (some .int) (0, 10, 13, 13) [.ref 0, .int p1, .int p2, .ref 116] h (some (.int o.1), o.2) := by
  refine EvW.of wo_L_basin (Nat.le_of_ble_eq_true rfl) ?_
  intro Γ hl hg hq hE htb X
  unfold fnL_basin at hf
  obtain ⟨r, er, hf⟩ := ob hf
  show Jd Γ (0, 0) 0 [some (.ref 0), some (.int p1), some (.int p2), some (.ref 116), none] [] h
  refine r_aload_n (pc := 0) X dL_basin_0 rfl ?_
  refine r_iconst (pc := 1) X 0 dL_basin_1 (by decide) ?_
  refine r_aload_n (pc := 2) X dL_basin_2 rfl ?_
  refine r_iload_n (pc := 3) X dL_basin_3 rfl ?_
  refine r_iload_n (pc := 4) X dL_basin_4 rfl ?_
  have E : EvX Γ.1.2.1 Γ.2.2.1 (d - 1) yX11_basin cX11_basin 3 (some .int) [.ref 0, .int p1, .int p2] h (r.map (fun q => (some (.int q.1), q.2))) := ev_X11_basin (by rw [hl]; exact hst) (by omega) h 0 p1 p2 r er
  refine r_callVX (pc := 5) X [.int p1, .int p2] hE htb (by decide) (by decide) cl_L_13 dL_basin_5 ml_L_7 vo_X11_basin hck E (by omega) rfl (Nat.le_of_ble_eq_true rfl) rfl (fun e => ?_) (fun q e => ?_)
  · intro z
    cases r with
    | some q => cases e
    | none =>
      obtain rfl := Option.some.inj hf
      refine r_astoreQ (pc := 13) X [some (.ref 0), some (.int p1), some (.int p2), some (.ref 116), some (.retAddr z)] dL_basin_13 (by decide) rfl ?_
      refine r_iconst (pc := 15) X 1 dL_basin_15 (by decide) ?_
      exact r_iret (pc := 16) X dL_basin_16 hq
  · cases r with
    | none => cases e
    | some w =>
      obtain rfl := Option.some.inj e
      have hf : (wJ w.2 116 0 (Int32.toInt64 w.1)).bind (fun h' => some ((0 : Int32), h')) = some o := hf
      obtain ⟨h', eh, hf⟩ := ob hf
      obtain rfl := Option.some.inj hf
      refine r_i2l (pc := 8) X dL_basin_8 ?_
      refine r_last (pc := 9) X dL_basin_9 eh ?_
      refine r_goto (pc := 10) X 17 dL_basin_10 (by decide) ?_
      refine r_iconst (pc := 17) X 0 dL_basin_17 (by decide) ?_
      exact r_iret (pc := 18) X dL_basin_18 hq
def fnL_sluice (h : aH) (p1 p2 : Int32) : Option (Int32 × aH) := (fn_X11_sluice h 0 p1 p2).bind fun o => match o with
  | none => some (1, h)
  | some q => (wJ q.2 116 0 (Int32.toInt64 q.1)).bind fun h' => some (0, h')
set_option maxHeartbeats 4000000 in
theorem evW_sluice {l : Launch} {g : aG} {d : Nat} (hst : l.stackTraces = false) (hd : 7 ≤ d) (h : aH) (p1 p2 : Int32) {u : Unit} (hck : ck h 0 10 = some u) (o : Int32 × aH) (hf : fnL_sluice h p1 p2 = some o) : EvW l g d yL_sluice cL_sluice 5 (some .int) (0, 10, 13, 13) [.ref 0, .int p1, .int p2, .ref 116] h (some (.int o.1), o.2) := by
  refine EvW.of wo_L_sluice (Nat.le_of_ble_eq_true rfl) ?_
  intro Γ hl hg hq hE htb X
  unfold fnL_sluice at hf
  obtain ⟨r, er, hf⟩ := ob hf
  show Jd Γ (0, 0) 0 [some (.ref 0), some (.int p1), some (.int p2), some (.ref 116), none] [] h
  refine r_aload_n (pc := 0) X dL_sluice_0 rfl ?_
  refine r_iconst (pc := 1) X 0 dL_sluice_1 (by decide) ?_
  refine r_aload_n (pc := 2) X dL_sluice_2 rfl ?_
  refine r_iload_n (pc := 3) X dL_sluice_3 rfl ?_
  refine r_iload_n (pc := 4) X dL_sluice_4 rfl ?_
  have E : EvX Γ.1.2.1 Γ.2.2.1 (d - 1) yX11_sluice cX11_sluice 3 (some .int) [.ref 0, .int p1, .int p2] h (r.map (fun q => (some (.int q.1), q.2))) := ev_X11_sluice (by rw [hl]; exact hst) (by omega) h 0 p1 p2 r er
  refine r_callVX (pc := 5) X [.int p1, .int p2] hE htb (by decide) (by decide) cl_L_13 dL_sluice_5 ml_L_15 vo_X11_sluice hck E (by omega) rfl (Nat.le_of_ble_eq_true rfl) rfl (fun e => ?_) (fun q e => ?_)
  · intro z
    cases r with
    | some q => cases e
    | none =>
      obtain rfl := Option.some.inj hf
      refine r_astoreQ (pc := 13) X [some (.ref 0), some (.int p1), some (.int p2), some (.ref 116), some (.retAddr z)] dL_sluice_13 (by decide) rfl ?_
      refine r_iconst (pc := 15) X 1 dL_sluice_15 (by decide) ?_
      exact r_iret (pc := 16) X dL_sluice_16 hq
  · cases r with
    | none => cases e
    | some w =>
      obtain rfl := Option.some.inj e
      have hf : (wJ w.2 116 0 (Int32.toInt64 w.1)).bind (fun h' => some ((0 : Int32), h')) = some o := hf
      obtain ⟨h', eh, hf⟩ := ob hf
      obtain rfl := Option.some.inj hf
      refine r_i2l (pc := 8) X dL_sluice_8 ?_
      refine r_last (pc := 9) X dL_sluice_9 eh ?_
      refine r_goto (pc := 10) X 17 dL_sluice_10 (by decide) ?_
      refine r_iconst (pc := 17) X 0 dL_sluice_17 (by decide) ?_
      exact r_iret (pc := 18) X dL_sluice_18 hq
def fnL_row (h : aH) (p1 : Int32) : Option (Int32 × aH) := (fn_X11_row h 0 p1).bind fun o => match o with
  | none => some (1, h)
  | some q => (wJ q.2 116 0 q.1).bind fun h' => some (0, h')
set_option maxHeartbeats 4000000 in
theorem evW_row {l : Launch} {g : aG} {d : Nat} (hst : l.stackTraces = false) (hd : 7 ≤ d) (h : aH) (p1 : Int32) {u : Unit} (hck : ck h 0 10 = some u) (o : Int32 × aH) (hf : fnL_row h p1 = some o) : EvW l g d yL_row cL_row 4 (some .int) (0, 8, 11, 13) [.ref 0, .int p1, .ref 116] h (some (.int o.1), o.2) := by
  refine EvW.of wo_L_row (Nat.le_of_ble_eq_true rfl) ?_
  intro Γ hl hg hq hE htb X
  unfold fnL_row at hf
  obtain ⟨r, er, hf⟩ := ob hf
  show Jd Γ (0, 0) 0 [some (.ref 0), some (.int p1), some (.ref 116), none] [] h
  refine r_aload_n (pc := 0) X dL_row_0 rfl ?_
  refine r_iconst (pc := 1) X 0 dL_row_1 (by decide) ?_
  refine r_aload_n (pc := 2) X dL_row_2 rfl ?_
  refine r_iload_n (pc := 3) X dL_row_3 rfl ?_
  have E : EvX Γ.1.2.1 Γ.2.2.1 (d - 1) yX11_row cX11_row 2 (some .long) [.ref 0, .int p1] h (r.map (fun q => (some (.long q.1), q.2))) := ev_X11_row (by rw [hl]; exact hst) (by omega) h 0 p1 r er
  refine r_callVX (pc := 4) X [.int p1] hE htb (by decide) (by decide) cl_L_13 dL_row_4 ml_L_18 vo_X11_row hck E (by omega) rfl (Nat.le_of_ble_eq_true rfl) rfl (fun e => ?_) (fun q e => ?_)
  · intro z
    cases r with
    | some q => cases e
    | none =>
      obtain rfl := Option.some.inj hf
      refine r_astoreQ_n (pc := 11) X [some (.ref 0), some (.int p1), some (.ref 116), some (.retAddr z)] dL_row_11 (by decide) rfl ?_
      refine r_iconst (pc := 12) X 1 dL_row_12 (by decide) ?_
      exact r_iret (pc := 13) X dL_row_13 hq
  · cases r with
    | none => cases e
    | some w =>
      obtain rfl := Option.some.inj e
      have hf : (wJ w.2 116 0 w.1).bind (fun h' => some ((0 : Int32), h')) = some o := hf
      obtain ⟨h', eh, hf⟩ := ob hf
      obtain rfl := Option.some.inj hf
      refine r_last (pc := 7) X dL_row_7 eh ?_
      refine r_goto (pc := 8) X 14 dL_row_8 (by decide) ?_
      refine r_iconst (pc := 14) X 0 dL_row_14 (by decide) ?_
      exact r_iret (pc := 15) X dL_row_15 hq
