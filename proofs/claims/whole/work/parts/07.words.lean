/-! WORDS: the tables' words one by one, fields' sites, methods; by program -/
theorem w1_1 : Cond.initialized RX11 ∈ ALL := all_tbl (tb1 (List.mem_of_getElem? (i := 1) rfl)) rfl
theorem w1_2 : Cond.initialized RX3 ∈ ALL := all_tbl (tb1 (List.mem_of_getElem? (i := 2) rfl)) rfl
theorem w1_3 : Cond.initialized RX6 ∈ ALL := all_tbl (tb1 (List.mem_of_getElem? (i := 3) rfl)) rfl
theorem w1_4 : Cond.initialized RX9 ∈ ALL := all_tbl (tb1 (List.mem_of_getElem? (i := 4) rfl)) rfl
theorem w1_5 : Cond.initialized RX10 ∈ ALL := all_tbl (tb1 (List.mem_of_getElem? (i := 5) rfl)) rfl
theorem w1_6 : Cond.initialized RX4 ∈ ALL := all_tbl (tb1 (List.mem_of_getElem? (i := 6) rfl)) rfl
theorem w1_7 : Cond.initialized RX5 ∈ ALL := all_tbl (tb1 (List.mem_of_getElem? (i := 7) rfl)) rfl
theorem w1_8 : Cond.initialized RX0 ∈ ALL := all_tbl (tb1 (List.mem_of_getElem? (i := 8) rfl)) rfl
theorem w1_9 : Cond.initialized RX8 ∈ ALL := all_tbl (tb1 (List.mem_of_getElem? (i := 9) rfl)) rfl
theorem w1_10 : Cond.initialized RX7 ∈ ALL := all_tbl (tb1 (List.mem_of_getElem? (i := 10) rfl)) rfl
theorem w1_11 : Cond.initialized RX1 ∈ ALL := all_tbl (tb1 (List.mem_of_getElem? (i := 11) rfl)) rfl
theorem w1_12 : Cond.initialized RX2 ∈ ALL := all_tbl (tb1 (List.mem_of_getElem? (i := 12) rfl)) rfl
theorem w1_13 : Cond.initialized RJ9 ∈ ALL := all_tbl (tb1 (List.mem_of_getElem? (i := 13) rfl)) rfl
theorem w1_14 : Cond.initialized RX12 ∈ ALL := all_tbl (tb1 (List.mem_of_getElem? (i := 14) rfl)) rfl
theorem w1_19 : Cond.initialized RJ7 ∈ ALL := all_tbl (tb1 (List.mem_of_getElem? (i := 19) rfl)) rfl
theorem w1_20 : Cond.initialized RJ10 ∈ ALL := all_tbl (tb1 (List.mem_of_getElem? (i := 20) rfl)) rfl
theorem w1_25 : Cond.code yX11_init cX11_init 2 none ∈ ALL := all_tbl (tb1 (List.mem_of_getElem? (i := 25) rfl)) rfl
theorem w1_33 : Cond.code yX3_init cX3_init 1 none ∈ ALL := all_tbl (tb1 (List.mem_of_getElem? (i := 33) rfl)) rfl
theorem w1_35 : Cond.fieldLink RX3 48 RX3 "places" "I" ∈ ALL := all_tbl (tb1 (List.mem_of_getElem? (i := 35) rfl)) rfl
theorem w1_36 : Cond.fieldLink RX10 43 RX3 "places" "I" ∈ ALL := all_tbl (tb1 (List.mem_of_getElem? (i := 36) rfl)) rfl
theorem w1_37 : Cond.fieldLink RX11 377 RX3 "places" "I" ∈ ALL := all_tbl (tb1 (List.mem_of_getElem? (i := 37) rfl)) rfl
theorem w1_38 : Cond.fieldLink RX3 9 RX3 "way" "[I" ∈ ALL := all_tbl (tb1 (List.mem_of_getElem? (i := 38) rfl)) rfl
theorem w1_39 : Cond.fieldLink RX10 49 RX3 "way" "[I" ∈ ALL := all_tbl (tb1 (List.mem_of_getElem? (i := 39) rfl)) rfl
theorem w1_40 : Cond.fieldLink RX3 15 RX3 "seen" "[I" ∈ ALL := all_tbl (tb1 (List.mem_of_getElem? (i := 40) rfl)) rfl
theorem w1_41 : Cond.fieldLink RX3 52 RX3 "children" "I" ∈ ALL := all_tbl (tb1 (List.mem_of_getElem? (i := 41) rfl)) rfl
theorem w1_42 : Cond.fieldLink RX1 104 RX3 "children" "I" ∈ ALL := all_tbl (tb1 (List.mem_of_getElem? (i := 42) rfl)) rfl
theorem w1_43 : Cond.fieldLink RX5 100 RX3 "children" "I" ∈ ALL := all_tbl (tb1 (List.mem_of_getElem? (i := 43) rfl)) rfl
theorem w1_44 : Cond.fieldLink RX11 251 RX3 "children" "I" ∈ ALL := all_tbl (tb1 (List.mem_of_getElem? (i := 44) rfl)) rfl
theorem w1_45 : Cond.fieldLink RX3 18 RX3 "reads" "[I" ∈ ALL := all_tbl (tb1 (List.mem_of_getElem? (i := 45) rfl)) rfl
theorem w1_46 : Cond.fieldLink RX3 21 RX3 "quick" "[I" ∈ ALL := all_tbl (tb1 (List.mem_of_getElem? (i := 46) rfl)) rfl
theorem w1_47 : Cond.fieldLink RX3 24 RX3 "barred" "[I" ∈ ALL := all_tbl (tb1 (List.mem_of_getElem? (i := 47) rfl)) rfl
theorem w1_48 : Cond.fieldLink RX3 27 RX3 "lot" "[I" ∈ ALL := all_tbl (tb1 (List.mem_of_getElem? (i := 48) rfl)) rfl
theorem w1_49 : Cond.fieldLink RX1 124 RX3 "lot" "[I" ∈ ALL := all_tbl (tb1 (List.mem_of_getElem? (i := 49) rfl)) rfl
theorem w1_50 : Cond.fieldLink RX5 103 RX3 "lot" "[I" ∈ ALL := all_tbl (tb1 (List.mem_of_getElem? (i := 50) rfl)) rfl
theorem w1_51 : Cond.fieldLink RX11 254 RX3 "lot" "[I" ∈ ALL := all_tbl (tb1 (List.mem_of_getElem? (i := 51) rfl)) rfl
theorem w1_52 : Cond.fieldLink RX3 55 RX3 "slips" "I" ∈ ALL := all_tbl (tb1 (List.mem_of_getElem? (i := 52) rfl)) rfl
theorem w1_53 : Cond.fieldLink RX10 66 RX3 "slips" "I" ∈ ALL := all_tbl (tb1 (List.mem_of_getElem? (i := 53) rfl)) rfl
theorem w1_54 : Cond.fieldLink RX11 380 RX3 "slips" "I" ∈ ALL := all_tbl (tb1 (List.mem_of_getElem? (i := 54) rfl)) rfl
theorem w1_55 : Cond.fieldLink RX3 30 RX3 "lies" "[I" ∈ ALL := all_tbl (tb1 (List.mem_of_getElem? (i := 55) rfl)) rfl
theorem w1_56 : Cond.fieldLink RX4 80 RX3 "lies" "[I" ∈ ALL := all_tbl (tb1 (List.mem_of_getElem? (i := 56) rfl)) rfl
theorem w1_57 : Cond.fieldLink RX3 33 RX3 "kind" "[I" ∈ ALL := all_tbl (tb1 (List.mem_of_getElem? (i := 57) rfl)) rfl
theorem w1_58 : Cond.fieldLink RX4 89 RX3 "kind" "[I" ∈ ALL := all_tbl (tb1 (List.mem_of_getElem? (i := 58) rfl)) rfl
theorem w1_59 : Cond.fieldLink RX5 85 RX3 "kind" "[I" ∈ ALL := all_tbl (tb1 (List.mem_of_getElem? (i := 59) rfl)) rfl
theorem w1_60 : Cond.fieldLink RX3 36 RX3 "spare" "[I" ∈ ALL := all_tbl (tb1 (List.mem_of_getElem? (i := 60) rfl)) rfl
theorem w1_61 : Cond.fieldLink RX3 39 RX3 "mistaken" "[I" ∈ ALL := all_tbl (tb1 (List.mem_of_getElem? (i := 61) rfl)) rfl
theorem w1_62 : Cond.fieldLink RX10 73 RX3 "mistaken" "[I" ∈ ALL := all_tbl (tb1 (List.mem_of_getElem? (i := 62) rfl)) rfl
theorem w1_63 : Cond.fieldLink RX3 42 RX3 "rowSize" "[I" ∈ ALL := all_tbl (tb1 (List.mem_of_getElem? (i := 63) rfl)) rfl
theorem w1_64 : Cond.fieldLink RX4 50 RX3 "rowSize" "[I" ∈ ALL := all_tbl (tb1 (List.mem_of_getElem? (i := 64) rfl)) rfl
theorem w1_65 : Cond.fieldLink RX11 202 RX3 "rowSize" "[I" ∈ ALL := all_tbl (tb1 (List.mem_of_getElem? (i := 65) rfl)) rfl
theorem w1_66 : Cond.fieldLink RX3 45 RX3 "row" "[I" ∈ ALL := all_tbl (tb1 (List.mem_of_getElem? (i := 66) rfl)) rfl
theorem w1_67 : Cond.fieldLink RX4 58 RX3 "row" "[I" ∈ ALL := all_tbl (tb1 (List.mem_of_getElem? (i := 67) rfl)) rfl
theorem w1_68 : Cond.lays RX3 RX3 "places" "I" ∈ ALL := all_tbl (tb1 (List.mem_of_getElem? (i := 68) rfl)) rfl
theorem w1_70 : Cond.laysFinal RX3 RX3 "way" "[I" ∈ ALL := all_tbl (tb1 (List.mem_of_getElem? (i := 70) rfl)) rfl
theorem w1_72 : Cond.laysFinal RX3 RX3 "seen" "[I" ∈ ALL := all_tbl (tb1 (List.mem_of_getElem? (i := 72) rfl)) rfl
theorem w1_74 : Cond.lays RX3 RX3 "children" "I" ∈ ALL := all_tbl (tb1 (List.mem_of_getElem? (i := 74) rfl)) rfl
theorem w1_76 : Cond.laysFinal RX3 RX3 "reads" "[I" ∈ ALL := all_tbl (tb1 (List.mem_of_getElem? (i := 76) rfl)) rfl
theorem w1_78 : Cond.laysFinal RX3 RX3 "quick" "[I" ∈ ALL := all_tbl (tb1 (List.mem_of_getElem? (i := 78) rfl)) rfl
theorem w1_80 : Cond.laysFinal RX3 RX3 "barred" "[I" ∈ ALL := all_tbl (tb1 (List.mem_of_getElem? (i := 80) rfl)) rfl
theorem w1_82 : Cond.laysFinal RX3 RX3 "lot" "[I" ∈ ALL := all_tbl (tb1 (List.mem_of_getElem? (i := 82) rfl)) rfl
theorem w1_84 : Cond.lays RX3 RX3 "slips" "I" ∈ ALL := all_tbl (tb1 (List.mem_of_getElem? (i := 84) rfl)) rfl
theorem w1_86 : Cond.laysFinal RX3 RX3 "lies" "[I" ∈ ALL := all_tbl (tb1 (List.mem_of_getElem? (i := 86) rfl)) rfl
theorem w1_88 : Cond.laysFinal RX3 RX3 "kind" "[I" ∈ ALL := all_tbl (tb1 (List.mem_of_getElem? (i := 88) rfl)) rfl
theorem w1_90 : Cond.laysFinal RX3 RX3 "spare" "[I" ∈ ALL := all_tbl (tb1 (List.mem_of_getElem? (i := 90) rfl)) rfl
theorem w1_92 : Cond.laysFinal RX3 RX3 "mistaken" "[I" ∈ ALL := all_tbl (tb1 (List.mem_of_getElem? (i := 92) rfl)) rfl
theorem w1_94 : Cond.laysFinal RX3 RX3 "rowSize" "[I" ∈ ALL := all_tbl (tb1 (List.mem_of_getElem? (i := 94) rfl)) rfl
theorem w1_96 : Cond.laysFinal RX3 RX3 "row" "[I" ∈ ALL := all_tbl (tb1 (List.mem_of_getElem? (i := 96) rfl)) rfl
theorem w1_104 : Cond.code yX6_init cX6_init 1 none ∈ ALL := all_tbl (tb1 (List.mem_of_getElem? (i := 104) rfl)) rfl
theorem w1_106 : Cond.fieldLink RX6 9 RX6 "number" "[I" ∈ ALL := all_tbl (tb1 (List.mem_of_getElem? (i := 106) rfl)) rfl
theorem w1_107 : Cond.fieldLink RX5 41 RX6 "number" "[I" ∈ ALL := all_tbl (tb1 (List.mem_of_getElem? (i := 107) rfl)) rfl
theorem w1_108 : Cond.fieldLink RX4 61 RX6 "number" "[I" ∈ ALL := all_tbl (tb1 (List.mem_of_getElem? (i := 108) rfl)) rfl
theorem w1_109 : Cond.fieldLink RX11 229 RX6 "number" "[I" ∈ ALL := all_tbl (tb1 (List.mem_of_getElem? (i := 109) rfl)) rfl
theorem w1_110 : Cond.fieldLink RX6 21 RX6 "reports" "I" ∈ ALL := all_tbl (tb1 (List.mem_of_getElem? (i := 110) rfl)) rfl
theorem w1_111 : Cond.fieldLink RX11 321 RX6 "reports" "I" ∈ ALL := all_tbl (tb1 (List.mem_of_getElem? (i := 111) rfl)) rfl
theorem w1_112 : Cond.fieldLink RX6 15 RX6 "kind" "[I" ∈ ALL := all_tbl (tb1 (List.mem_of_getElem? (i := 112) rfl)) rfl
theorem w1_113 : Cond.fieldLink RX11 324 RX6 "kind" "[I" ∈ ALL := all_tbl (tb1 (List.mem_of_getElem? (i := 113) rfl)) rfl
theorem w1_114 : Cond.fieldLink RX6 18 RX6 "minutes" "[I" ∈ ALL := all_tbl (tb1 (List.mem_of_getElem? (i := 114) rfl)) rfl
theorem w1_115 : Cond.fieldLink RX11 327 RX6 "minutes" "[I" ∈ ALL := all_tbl (tb1 (List.mem_of_getElem? (i := 115) rfl)) rfl
theorem w1_116 : Cond.laysFinal RX6 RX6 "number" "[I" ∈ ALL := all_tbl (tb1 (List.mem_of_getElem? (i := 116) rfl)) rfl
theorem w1_118 : Cond.lays RX6 RX6 "reports" "I" ∈ ALL := all_tbl (tb1 (List.mem_of_getElem? (i := 118) rfl)) rfl
theorem w1_120 : Cond.laysFinal RX6 RX6 "kind" "[I" ∈ ALL := all_tbl (tb1 (List.mem_of_getElem? (i := 120) rfl)) rfl
theorem w1_122 : Cond.laysFinal RX6 RX6 "minutes" "[I" ∈ ALL := all_tbl (tb1 (List.mem_of_getElem? (i := 122) rfl)) rfl
theorem w1_129 : Cond.code yX9_init cX9_init 1 none ∈ ALL := all_tbl (tb1 (List.mem_of_getElem? (i := 129) rfl)) rfl
theorem w1_131 : Cond.fieldLink RX9 9 RX9 "text" "[I" ∈ ALL := all_tbl (tb1 (List.mem_of_getElem? (i := 131) rfl)) rfl
theorem w1_132 : Cond.fieldLink RX9 21 RX9 "length" "I" ∈ ALL := all_tbl (tb1 (List.mem_of_getElem? (i := 132) rfl)) rfl
theorem w1_133 : Cond.fieldLink RX11 383 RX9 "length" "I" ∈ ALL := all_tbl (tb1 (List.mem_of_getElem? (i := 133) rfl)) rfl
theorem w1_134 : Cond.fieldLink RX9 27 RX9 "items" "I" ∈ ALL := all_tbl (tb1 (List.mem_of_getElem? (i := 134) rfl)) rfl
theorem w1_135 : Cond.fieldLink RX11 177 RX9 "items" "I" ∈ ALL := all_tbl (tb1 (List.mem_of_getElem? (i := 135) rfl)) rfl
theorem w1_136 : Cond.fieldLink RX9 15 RX9 "item" "[I" ∈ ALL := all_tbl (tb1 (List.mem_of_getElem? (i := 136) rfl)) rfl
theorem w1_137 : Cond.fieldLink RX9 18 RX9 "number" "[I" ∈ ALL := all_tbl (tb1 (List.mem_of_getElem? (i := 137) rfl)) rfl
theorem w1_138 : Cond.fieldLink RX9 30 RX9 "at" "I" ∈ ALL := all_tbl (tb1 (List.mem_of_getElem? (i := 138) rfl)) rfl
theorem w1_139 : Cond.laysFinal RX9 RX9 "text" "[I" ∈ ALL := all_tbl (tb1 (List.mem_of_getElem? (i := 139) rfl)) rfl
theorem w1_141 : Cond.lays RX9 RX9 "length" "I" ∈ ALL := all_tbl (tb1 (List.mem_of_getElem? (i := 141) rfl)) rfl
theorem w1_143 : Cond.lays RX9 RX9 "items" "I" ∈ ALL := all_tbl (tb1 (List.mem_of_getElem? (i := 143) rfl)) rfl
theorem w1_145 : Cond.laysFinal RX9 RX9 "item" "[I" ∈ ALL := all_tbl (tb1 (List.mem_of_getElem? (i := 145) rfl)) rfl
theorem w1_147 : Cond.laysFinal RX9 RX9 "number" "[I" ∈ ALL := all_tbl (tb1 (List.mem_of_getElem? (i := 147) rfl)) rfl
theorem w1_149 : Cond.lays RX9 RX9 "at" "I" ∈ ALL := all_tbl (tb1 (List.mem_of_getElem? (i := 149) rfl)) rfl
theorem w1_158 : Cond.code yX10_init cX10_init 2 none ∈ ALL := all_tbl (tb1 (List.mem_of_getElem? (i := 158) rfl)) rfl
theorem w1_160 : Cond.fieldLink RX10 24 RX10 "house" "LSlipHunt$House;" ∈ ALL := all_tbl (tb1 (List.mem_of_getElem? (i := 160) rfl)) rfl
theorem w1_161 : Cond.fieldLink RX10 9 RX10 "minutes" "[I" ∈ ALL := all_tbl (tb1 (List.mem_of_getElem? (i := 161) rfl)) rfl
theorem w1_162 : Cond.fieldLink RX10 15 RX10 "step" "[I" ∈ ALL := all_tbl (tb1 (List.mem_of_getElem? (i := 162) rfl)) rfl
theorem w1_163 : Cond.fieldLink RX10 18 RX10 "leg" "[I" ∈ ALL := all_tbl (tb1 (List.mem_of_getElem? (i := 163) rfl)) rfl
theorem w1_164 : Cond.fieldLink RX10 21 RX10 "trail" "[I" ∈ ALL := all_tbl (tb1 (List.mem_of_getElem? (i := 164) rfl)) rfl
theorem w1_165 : Cond.laysFinal RX10 RX10 "house" "LSlipHunt$House;" ∈ ALL := all_tbl (tb1 (List.mem_of_getElem? (i := 165) rfl)) rfl
theorem w1_167 : Cond.laysFinal RX10 RX10 "minutes" "[I" ∈ ALL := all_tbl (tb1 (List.mem_of_getElem? (i := 167) rfl)) rfl
theorem w1_169 : Cond.laysFinal RX10 RX10 "step" "[I" ∈ ALL := all_tbl (tb1 (List.mem_of_getElem? (i := 169) rfl)) rfl
theorem w1_171 : Cond.laysFinal RX10 RX10 "leg" "[I" ∈ ALL := all_tbl (tb1 (List.mem_of_getElem? (i := 171) rfl)) rfl
theorem w1_173 : Cond.laysFinal RX10 RX10 "trail" "[I" ∈ ALL := all_tbl (tb1 (List.mem_of_getElem? (i := 173) rfl)) rfl
theorem w1_181 : Cond.code yX4_init cX4_init 4 none ∈ ALL := all_tbl (tb1 (List.mem_of_getElem? (i := 181) rfl)) rfl
theorem w1_183 : Cond.fieldLink RX4 30 RX4 "house" "LSlipHunt$House;" ∈ ALL := all_tbl (tb1 (List.mem_of_getElem? (i := 183) rfl)) rfl
theorem w1_184 : Cond.fieldLink RX4 34 RX4 "notes" "LSlipHunt$Notes;" ∈ ALL := all_tbl (tb1 (List.mem_of_getElem? (i := 184) rfl)) rfl
theorem w1_185 : Cond.fieldLink RX4 38 RX4 "walks" "LSlipHunt$Walks;" ∈ ALL := all_tbl (tb1 (List.mem_of_getElem? (i := 185) rfl)) rfl
theorem w1_186 : Cond.fieldLink RX4 42 RX4 "lot" "I" ∈ ALL := all_tbl (tb1 (List.mem_of_getElem? (i := 186) rfl)) rfl
theorem w1_187 : Cond.fieldLink RX1 127 RX4 "lot" "I" ∈ ALL := all_tbl (tb1 (List.mem_of_getElem? (i := 187) rfl)) rfl
theorem w1_188 : Cond.fieldLink RX5 106 RX4 "lot" "I" ∈ ALL := all_tbl (tb1 (List.mem_of_getElem? (i := 188) rfl)) rfl
theorem w1_189 : Cond.fieldLink RX1 59 RX4 "size" "I" ∈ ALL := all_tbl (tb1 (List.mem_of_getElem? (i := 189) rfl)) rfl
theorem w1_190 : Cond.fieldLink RX8 39 RX4 "size" "I" ∈ ALL := all_tbl (tb1 (List.mem_of_getElem? (i := 190) rfl)) rfl
theorem w1_191 : Cond.fieldLink RX4 55 RX4 "size" "I" ∈ ALL := all_tbl (tb1 (List.mem_of_getElem? (i := 191) rfl)) rfl
theorem w1_192 : Cond.fieldLink RX7 96 RX4 "size" "I" ∈ ALL := all_tbl (tb1 (List.mem_of_getElem? (i := 192) rfl)) rfl
theorem w1_193 : Cond.fieldLink RX5 63 RX4 "size" "I" ∈ ALL := all_tbl (tb1 (List.mem_of_getElem? (i := 193) rfl)) rfl
theorem w1_194 : Cond.fieldLink RX11 226 RX4 "size" "I" ∈ ALL := all_tbl (tb1 (List.mem_of_getElem? (i := 194) rfl)) rfl
theorem w1_195 : Cond.fieldLink RX4 9 RX4 "slip" "[I" ∈ ALL := all_tbl (tb1 (List.mem_of_getElem? (i := 195) rfl)) rfl
theorem w1_196 : Cond.fieldLink RX7 47 RX4 "slip" "[I" ∈ ALL := all_tbl (tb1 (List.mem_of_getElem? (i := 196) rfl)) rfl
theorem w1_197 : Cond.fieldLink RX5 90 RX4 "slip" "[I" ∈ ALL := all_tbl (tb1 (List.mem_of_getElem? (i := 197) rfl)) rfl
theorem w1_198 : Cond.fieldLink RX11 303 RX4 "slip" "[I" ∈ ALL := all_tbl (tb1 (List.mem_of_getElem? (i := 198) rfl)) rfl
theorem w1_199 : Cond.fieldLink RX4 15 RX4 "at" "[I" ∈ ALL := all_tbl (tb1 (List.mem_of_getElem? (i := 199) rfl)) rfl
theorem w1_200 : Cond.fieldLink RX11 309 RX4 "at" "[I" ∈ ALL := all_tbl (tb1 (List.mem_of_getElem? (i := 200) rfl)) rfl
theorem w1_201 : Cond.fieldLink RX4 18 RX4 "missed" "[I" ∈ ALL := all_tbl (tb1 (List.mem_of_getElem? (i := 201) rfl)) rfl
theorem w1_202 : Cond.fieldLink RX8 44 RX4 "missed" "[I" ∈ ALL := all_tbl (tb1 (List.mem_of_getElem? (i := 202) rfl)) rfl
theorem w1_203 : Cond.fieldLink RX5 68 RX4 "missed" "[I" ∈ ALL := all_tbl (tb1 (List.mem_of_getElem? (i := 203) rfl)) rfl
theorem w1_204 : Cond.fieldLink RX11 210 RX4 "missed" "[I" ∈ ALL := all_tbl (tb1 (List.mem_of_getElem? (i := 204) rfl)) rfl
theorem w1_205 : Cond.fieldLink RX4 21 RX4 "guessing" "[I" ∈ ALL := all_tbl (tb1 (List.mem_of_getElem? (i := 205) rfl)) rfl
theorem w1_206 : Cond.fieldLink RX1 87 RX4 "guessing" "[I" ∈ ALL := all_tbl (tb1 (List.mem_of_getElem? (i := 206) rfl)) rfl
theorem w1_207 : Cond.fieldLink RX5 97 RX4 "guessing" "[I" ∈ ALL := all_tbl (tb1 (List.mem_of_getElem? (i := 207) rfl)) rfl
theorem w1_208 : Cond.fieldLink RX4 24 RX4 "soonest" "[I" ∈ ALL := all_tbl (tb1 (List.mem_of_getElem? (i := 208) rfl)) rfl
theorem w1_209 : Cond.fieldLink RX4 27 RX4 "latest" "[I" ∈ ALL := all_tbl (tb1 (List.mem_of_getElem? (i := 209) rfl)) rfl
theorem w1_210 : Cond.fieldLink RX7 63 RX4 "walked" "I" ∈ ALL := all_tbl (tb1 (List.mem_of_getElem? (i := 210) rfl)) rfl
theorem w1_211 : Cond.fieldLink RX4 70 RX4 "walked" "I" ∈ ALL := all_tbl (tb1 (List.mem_of_getElem? (i := 211) rfl)) rfl
theorem w1_212 : Cond.fieldLink RX1 94 RX4 "walked" "I" ∈ ALL := all_tbl (tb1 (List.mem_of_getElem? (i := 212) rfl)) rfl
theorem w1_213 : Cond.fieldLink RX5 78 RX4 "walked" "I" ∈ ALL := all_tbl (tb1 (List.mem_of_getElem? (i := 213) rfl)) rfl
theorem w1_214 : Cond.fieldLink RX11 220 RX4 "walked" "I" ∈ ALL := all_tbl (tb1 (List.mem_of_getElem? (i := 214) rfl)) rfl
theorem w1_215 : Cond.fieldLink RX4 73 RX4 "least" "I" ∈ ALL := all_tbl (tb1 (List.mem_of_getElem? (i := 215) rfl)) rfl
theorem w1_216 : Cond.fieldLink RX11 223 RX4 "least" "I" ∈ ALL := all_tbl (tb1 (List.mem_of_getElem? (i := 216) rfl)) rfl
theorem w1_217 : Cond.laysFinal RX4 RX4 "house" "LSlipHunt$House;" ∈ ALL := all_tbl (tb1 (List.mem_of_getElem? (i := 217) rfl)) rfl
theorem w1_219 : Cond.laysFinal RX4 RX4 "notes" "LSlipHunt$Notes;" ∈ ALL := all_tbl (tb1 (List.mem_of_getElem? (i := 219) rfl)) rfl
theorem w1_221 : Cond.laysFinal RX4 RX4 "walks" "LSlipHunt$Walks;" ∈ ALL := all_tbl (tb1 (List.mem_of_getElem? (i := 221) rfl)) rfl
theorem w1_223 : Cond.lays RX4 RX4 "lot" "I" ∈ ALL := all_tbl (tb1 (List.mem_of_getElem? (i := 223) rfl)) rfl
theorem w1_225 : Cond.lays RX4 RX4 "size" "I" ∈ ALL := all_tbl (tb1 (List.mem_of_getElem? (i := 225) rfl)) rfl
theorem w1_227 : Cond.laysFinal RX4 RX4 "slip" "[I" ∈ ALL := all_tbl (tb1 (List.mem_of_getElem? (i := 227) rfl)) rfl
theorem w1_229 : Cond.laysFinal RX4 RX4 "at" "[I" ∈ ALL := all_tbl (tb1 (List.mem_of_getElem? (i := 229) rfl)) rfl
theorem w1_231 : Cond.laysFinal RX4 RX4 "missed" "[I" ∈ ALL := all_tbl (tb1 (List.mem_of_getElem? (i := 231) rfl)) rfl
theorem w1_233 : Cond.laysFinal RX4 RX4 "guessing" "[I" ∈ ALL := all_tbl (tb1 (List.mem_of_getElem? (i := 233) rfl)) rfl
theorem w1_235 : Cond.laysFinal RX4 RX4 "soonest" "[I" ∈ ALL := all_tbl (tb1 (List.mem_of_getElem? (i := 235) rfl)) rfl
theorem w1_237 : Cond.laysFinal RX4 RX4 "latest" "[I" ∈ ALL := all_tbl (tb1 (List.mem_of_getElem? (i := 237) rfl)) rfl
theorem w1_239 : Cond.lays RX4 RX4 "walked" "I" ∈ ALL := all_tbl (tb1 (List.mem_of_getElem? (i := 239) rfl)) rfl
theorem w2_1 : Cond.lays RX4 RX4 "least" "I" ∈ ALL := all_tbl (tb2 (List.mem_of_getElem? (i := 1) rfl)) rfl
theorem w2_8 : Cond.code yX5_init cX5_init 3 none ∈ ALL := all_tbl (tb2 (List.mem_of_getElem? (i := 8) rfl)) rfl
theorem w2_14 : Cond.code yX0_init cX0_init 1 none ∈ ALL := all_tbl (tb2 (List.mem_of_getElem? (i := 14) rfl)) rfl
theorem w2_16 : Cond.fieldLink RX0 9 RX0 "limb" "[I" ∈ ALL := all_tbl (tb2 (List.mem_of_getElem? (i := 16) rfl)) rfl
theorem w2_17 : Cond.fieldLink RX11 354 RX0 "limb" "[I" ∈ ALL := all_tbl (tb2 (List.mem_of_getElem? (i := 17) rfl)) rfl
theorem w2_18 : Cond.fieldLink RX0 13 RX0 "used" "I" ∈ ALL := all_tbl (tb2 (List.mem_of_getElem? (i := 18) rfl)) rfl
theorem w2_19 : Cond.fieldLink RX2 27 RX0 "used" "I" ∈ ALL := all_tbl (tb2 (List.mem_of_getElem? (i := 19) rfl)) rfl
theorem w2_20 : Cond.fieldLink RX11 351 RX0 "used" "I" ∈ ALL := all_tbl (tb2 (List.mem_of_getElem? (i := 20) rfl)) rfl
theorem w2_21 : Cond.laysFinal RX0 RX0 "limb" "[I" ∈ ALL := all_tbl (tb2 (List.mem_of_getElem? (i := 21) rfl)) rfl
theorem w2_23 : Cond.lays RX0 RX0 "used" "I" ∈ ALL := all_tbl (tb2 (List.mem_of_getElem? (i := 23) rfl)) rfl
theorem w2_26 : Cond.fieldLink RX5 33 RX5 "house" "LSlipHunt$House;" ∈ ALL := all_tbl (tb2 (List.mem_of_getElem? (i := 26) rfl)) rfl
theorem w2_27 : Cond.fieldLink RX5 37 RX5 "notes" "LSlipHunt$Notes;" ∈ ALL := all_tbl (tb2 (List.mem_of_getElem? (i := 27) rfl)) rfl
theorem w2_28 : Cond.fieldLink RX5 47 RX5 "tens" "I" ∈ ALL := all_tbl (tb2 (List.mem_of_getElem? (i := 28) rfl)) rfl
theorem w2_29 : Cond.fieldLink RX11 239 RX5 "tens" "I" ∈ ALL := all_tbl (tb2 (List.mem_of_getElem? (i := 29) rfl)) rfl
theorem w2_30 : Cond.fieldLink RX5 12 RX5 "unit" "LSlipHunt$Big;" ∈ ALL := all_tbl (tb2 (List.mem_of_getElem? (i := 30) rfl)) rfl
theorem w2_31 : Cond.fieldLink RX7 60 RX5 "unit" "LSlipHunt$Big;" ∈ ALL := all_tbl (tb2 (List.mem_of_getElem? (i := 31) rfl)) rfl
theorem w2_32 : Cond.fieldLink RX1 91 RX5 "unit" "LSlipHunt$Big;" ∈ ALL := all_tbl (tb2 (List.mem_of_getElem? (i := 32) rfl)) rfl
theorem w2_33 : Cond.fieldLink RX5 18 RX5 "goal" "LSlipHunt$Big;" ∈ ALL := all_tbl (tb2 (List.mem_of_getElem? (i := 33) rfl)) rfl
theorem w2_34 : Cond.fieldLink RX7 71 RX5 "goal" "LSlipHunt$Big;" ∈ ALL := all_tbl (tb2 (List.mem_of_getElem? (i := 34) rfl)) rfl
theorem w2_35 : Cond.fieldLink RX1 117 RX5 "goal" "LSlipHunt$Big;" ∈ ALL := all_tbl (tb2 (List.mem_of_getElem? (i := 35) rfl)) rfl
theorem w2_36 : Cond.fieldLink RX5 21 RX5 "power" "LSlipHunt$Big;" ∈ ALL := all_tbl (tb2 (List.mem_of_getElem? (i := 36) rfl)) rfl
theorem w2_37 : Cond.fieldLink RX5 24 RX5 "riddle" "LSlipHunt$Big;" ∈ ALL := all_tbl (tb2 (List.mem_of_getElem? (i := 37) rfl)) rfl
theorem w2_38 : Cond.fieldLink RX5 27 RX5 "guessed" "LSlipHunt$Big;" ∈ ALL := all_tbl (tb2 (List.mem_of_getElem? (i := 38) rfl)) rfl
theorem w2_39 : Cond.fieldLink RX5 30 RX5 "most" "LSlipHunt$Big;" ∈ ALL := all_tbl (tb2 (List.mem_of_getElem? (i := 39) rfl)) rfl
theorem w2_40 : Cond.laysFinal RX5 RX5 "house" "LSlipHunt$House;" ∈ ALL := all_tbl (tb2 (List.mem_of_getElem? (i := 40) rfl)) rfl
theorem w2_42 : Cond.laysFinal RX5 RX5 "notes" "LSlipHunt$Notes;" ∈ ALL := all_tbl (tb2 (List.mem_of_getElem? (i := 42) rfl)) rfl
theorem w2_44 : Cond.lays RX5 RX5 "tens" "I" ∈ ALL := all_tbl (tb2 (List.mem_of_getElem? (i := 44) rfl)) rfl
theorem w2_46 : Cond.laysFinal RX5 RX5 "unit" "LSlipHunt$Big;" ∈ ALL := all_tbl (tb2 (List.mem_of_getElem? (i := 46) rfl)) rfl
theorem w2_48 : Cond.laysFinal RX5 RX5 "goal" "LSlipHunt$Big;" ∈ ALL := all_tbl (tb2 (List.mem_of_getElem? (i := 48) rfl)) rfl
theorem w2_50 : Cond.laysFinal RX5 RX5 "power" "LSlipHunt$Big;" ∈ ALL := all_tbl (tb2 (List.mem_of_getElem? (i := 50) rfl)) rfl
theorem w2_52 : Cond.laysFinal RX5 RX5 "riddle" "LSlipHunt$Big;" ∈ ALL := all_tbl (tb2 (List.mem_of_getElem? (i := 52) rfl)) rfl
theorem w2_54 : Cond.laysFinal RX5 RX5 "guessed" "LSlipHunt$Big;" ∈ ALL := all_tbl (tb2 (List.mem_of_getElem? (i := 54) rfl)) rfl
theorem w2_56 : Cond.laysFinal RX5 RX5 "most" "LSlipHunt$Big;" ∈ ALL := all_tbl (tb2 (List.mem_of_getElem? (i := 56) rfl)) rfl
theorem w2_63 : Cond.code yX8_init cX8_init 2 none ∈ ALL := all_tbl (tb2 (List.mem_of_getElem? (i := 63) rfl)) rfl
theorem w2_68 : Cond.fieldLink RX8 32 RX8 "tens" "I" ∈ ALL := all_tbl (tb2 (List.mem_of_getElem? (i := 68) rfl)) rfl
theorem w2_69 : Cond.fieldLink RX11 250 RX8 "tens" "I" ∈ ALL := all_tbl (tb2 (List.mem_of_getElem? (i := 69) rfl)) rfl
theorem w2_70 : Cond.fieldLink RX8 28 RX8 "most" "I" ∈ ALL := all_tbl (tb2 (List.mem_of_getElem? (i := 70) rfl)) rfl
theorem w2_71 : Cond.fieldLink RX8 13 RX8 "now" "[LSlipHunt$Big;" ∈ ALL := all_tbl (tb2 (List.mem_of_getElem? (i := 71) rfl)) rfl
theorem w2_72 : Cond.fieldLink RX8 17 RX8 "next" "[LSlipHunt$Big;" ∈ ALL := all_tbl (tb2 (List.mem_of_getElem? (i := 72) rfl)) rfl
theorem w2_73 : Cond.fieldLink RX8 20 RX8 "weight" "[LSlipHunt$Big;" ∈ ALL := all_tbl (tb2 (List.mem_of_getElem? (i := 73) rfl)) rfl
theorem w2_74 : Cond.fieldLink RX8 24 RX8 "power" "LSlipHunt$Big;" ∈ ALL := all_tbl (tb2 (List.mem_of_getElem? (i := 74) rfl)) rfl
theorem w2_75 : Cond.lays RX8 RX8 "tens" "I" ∈ ALL := all_tbl (tb2 (List.mem_of_getElem? (i := 75) rfl)) rfl
theorem w2_77 : Cond.lays RX8 RX8 "most" "I" ∈ ALL := all_tbl (tb2 (List.mem_of_getElem? (i := 77) rfl)) rfl
theorem w2_79 : Cond.lays RX8 RX8 "now" "[LSlipHunt$Big;" ∈ ALL := all_tbl (tb2 (List.mem_of_getElem? (i := 79) rfl)) rfl
theorem w2_81 : Cond.lays RX8 RX8 "next" "[LSlipHunt$Big;" ∈ ALL := all_tbl (tb2 (List.mem_of_getElem? (i := 81) rfl)) rfl
theorem w2_83 : Cond.laysFinal RX8 RX8 "weight" "[LSlipHunt$Big;" ∈ ALL := all_tbl (tb2 (List.mem_of_getElem? (i := 83) rfl)) rfl
theorem w2_85 : Cond.laysFinal RX8 RX8 "power" "LSlipHunt$Big;" ∈ ALL := all_tbl (tb2 (List.mem_of_getElem? (i := 85) rfl)) rfl
theorem w2_92 : Cond.code yX7_init cX7_init 2 none ∈ ALL := all_tbl (tb2 (List.mem_of_getElem? (i := 92) rfl)) rfl
theorem w2_96 : Cond.fieldLink RX7 34 RX7 "means" "LSlipHunt$Means;" ∈ ALL := all_tbl (tb2 (List.mem_of_getElem? (i := 96) rfl)) rfl
theorem w2_97 : Cond.fieldLink RX7 9 RX7 "best" "[I" ∈ ALL := all_tbl (tb2 (List.mem_of_getElem? (i := 97) rfl)) rfl
theorem w2_98 : Cond.fieldLink RX11 274 RX7 "best" "[I" ∈ ALL := all_tbl (tb2 (List.mem_of_getElem? (i := 98) rfl)) rfl
theorem w2_99 : Cond.fieldLink RX7 89 RX7 "fewest" "I" ∈ ALL := all_tbl (tb2 (List.mem_of_getElem? (i := 99) rfl)) rfl
theorem w2_100 : Cond.fieldLink RX11 293 RX7 "fewest" "I" ∈ ALL := all_tbl (tb2 (List.mem_of_getElem? (i := 100) rfl)) rfl
theorem w2_101 : Cond.fieldLink RX7 18 RX7 "length" "LSlipHunt$Big;" ∈ ALL := all_tbl (tb2 (List.mem_of_getElem? (i := 101) rfl)) rfl
theorem w2_102 : Cond.fieldLink RX11 271 RX7 "length" "LSlipHunt$Big;" ∈ ALL := all_tbl (tb2 (List.mem_of_getElem? (i := 102) rfl)) rfl
theorem w2_103 : Cond.fieldLink RX7 22 RX7 "riddles" "LSlipHunt$Big;" ∈ ALL := all_tbl (tb2 (List.mem_of_getElem? (i := 103) rfl)) rfl
theorem w2_104 : Cond.fieldLink RX7 25 RX7 "now" "LSlipHunt$Big;" ∈ ALL := all_tbl (tb2 (List.mem_of_getElem? (i := 104) rfl)) rfl
theorem w2_105 : Cond.fieldLink RX7 28 RX7 "far" "LSlipHunt$Big;" ∈ ALL := all_tbl (tb2 (List.mem_of_getElem? (i := 105) rfl)) rfl
theorem w2_106 : Cond.fieldLink RX7 31 RX7 "least" "LSlipHunt$Big;" ∈ ALL := all_tbl (tb2 (List.mem_of_getElem? (i := 106) rfl)) rfl
theorem w2_107 : Cond.laysFinal RX7 RX7 "means" "LSlipHunt$Means;" ∈ ALL := all_tbl (tb2 (List.mem_of_getElem? (i := 107) rfl)) rfl
theorem w2_109 : Cond.laysFinal RX7 RX7 "best" "[I" ∈ ALL := all_tbl (tb2 (List.mem_of_getElem? (i := 109) rfl)) rfl
theorem w2_111 : Cond.lays RX7 RX7 "fewest" "I" ∈ ALL := all_tbl (tb2 (List.mem_of_getElem? (i := 111) rfl)) rfl
theorem w2_113 : Cond.laysFinal RX7 RX7 "length" "LSlipHunt$Big;" ∈ ALL := all_tbl (tb2 (List.mem_of_getElem? (i := 113) rfl)) rfl
theorem w2_115 : Cond.laysFinal RX7 RX7 "riddles" "LSlipHunt$Big;" ∈ ALL := all_tbl (tb2 (List.mem_of_getElem? (i := 115) rfl)) rfl
theorem w2_117 : Cond.laysFinal RX7 RX7 "now" "LSlipHunt$Big;" ∈ ALL := all_tbl (tb2 (List.mem_of_getElem? (i := 117) rfl)) rfl
theorem w2_119 : Cond.laysFinal RX7 RX7 "far" "LSlipHunt$Big;" ∈ ALL := all_tbl (tb2 (List.mem_of_getElem? (i := 119) rfl)) rfl
theorem w2_121 : Cond.laysFinal RX7 RX7 "least" "LSlipHunt$Big;" ∈ ALL := all_tbl (tb2 (List.mem_of_getElem? (i := 121) rfl)) rfl
theorem w2_128 : Cond.code yX1_init cX1_init 4 none ∈ ALL := all_tbl (tb2 (List.mem_of_getElem? (i := 128) rfl)) rfl
theorem w2_132 : Cond.fieldLink RX1 47 RX1 "house" "LSlipHunt$House;" ∈ ALL := all_tbl (tb2 (List.mem_of_getElem? (i := 132) rfl)) rfl
theorem w2_133 : Cond.fieldLink RX1 51 RX1 "means" "LSlipHunt$Means;" ∈ ALL := all_tbl (tb2 (List.mem_of_getElem? (i := 133) rfl)) rfl
theorem w2_134 : Cond.fieldLink RX1 9 RX1 "best" "[I" ∈ ALL := all_tbl (tb2 (List.mem_of_getElem? (i := 134) rfl)) rfl
theorem w2_135 : Cond.fieldLink RX11 284 RX1 "best" "[I" ∈ ALL := all_tbl (tb2 (List.mem_of_getElem? (i := 135) rfl)) rfl
theorem w2_136 : Cond.fieldLink RX1 18 RX1 "bestLeast" "LSlipHunt$Big;" ∈ ALL := all_tbl (tb2 (List.mem_of_getElem? (i := 136) rfl)) rfl
theorem w2_137 : Cond.fieldLink RX11 281 RX1 "bestLeast" "LSlipHunt$Big;" ∈ ALL := all_tbl (tb2 (List.mem_of_getElem? (i := 137) rfl)) rfl
theorem w2_138 : Cond.fieldLink RX1 22 RX1 "bestFar" "LSlipHunt$Big;" ∈ ALL := all_tbl (tb2 (List.mem_of_getElem? (i := 138) rfl)) rfl
theorem w2_139 : Cond.fieldLink RX1 25 RX1 "far" "LSlipHunt$Big;" ∈ ALL := all_tbl (tb2 (List.mem_of_getElem? (i := 139) rfl)) rfl
theorem w2_140 : Cond.fieldLink RX1 28 RX1 "now" "[I" ∈ ALL := all_tbl (tb2 (List.mem_of_getElem? (i := 140) rfl)) rfl
theorem w2_141 : Cond.fieldLink RX1 31 RX1 "minutes" "[LSlipHunt$Big;" ∈ ALL := all_tbl (tb2 (List.mem_of_getElem? (i := 141) rfl)) rfl
theorem w2_142 : Cond.fieldLink RX1 35 RX1 "guessing" "[I" ∈ ALL := all_tbl (tb2 (List.mem_of_getElem? (i := 142) rfl)) rfl
theorem w2_143 : Cond.fieldLink RX1 38 RX1 "length" "[LSlipHunt$Big;" ∈ ALL := all_tbl (tb2 (List.mem_of_getElem? (i := 143) rfl)) rfl
theorem w2_144 : Cond.fieldLink RX1 41 RX1 "guessed" "[LSlipHunt$Big;" ∈ ALL := all_tbl (tb2 (List.mem_of_getElem? (i := 144) rfl)) rfl
theorem w2_145 : Cond.fieldLink RX1 44 RX1 "nothing" "LSlipHunt$Big;" ∈ ALL := all_tbl (tb2 (List.mem_of_getElem? (i := 145) rfl)) rfl
theorem w2_146 : Cond.laysFinal RX1 RX1 "house" "LSlipHunt$House;" ∈ ALL := all_tbl (tb2 (List.mem_of_getElem? (i := 146) rfl)) rfl
theorem w2_148 : Cond.laysFinal RX1 RX1 "means" "LSlipHunt$Means;" ∈ ALL := all_tbl (tb2 (List.mem_of_getElem? (i := 148) rfl)) rfl
theorem w2_150 : Cond.laysFinal RX1 RX1 "best" "[I" ∈ ALL := all_tbl (tb2 (List.mem_of_getElem? (i := 150) rfl)) rfl
theorem w2_152 : Cond.laysFinal RX1 RX1 "bestLeast" "LSlipHunt$Big;" ∈ ALL := all_tbl (tb2 (List.mem_of_getElem? (i := 152) rfl)) rfl
theorem w2_154 : Cond.laysFinal RX1 RX1 "bestFar" "LSlipHunt$Big;" ∈ ALL := all_tbl (tb2 (List.mem_of_getElem? (i := 154) rfl)) rfl
theorem w2_156 : Cond.laysFinal RX1 RX1 "far" "LSlipHunt$Big;" ∈ ALL := all_tbl (tb2 (List.mem_of_getElem? (i := 156) rfl)) rfl
theorem w2_158 : Cond.laysFinal RX1 RX1 "now" "[I" ∈ ALL := all_tbl (tb2 (List.mem_of_getElem? (i := 158) rfl)) rfl
theorem w2_160 : Cond.laysFinal RX1 RX1 "minutes" "[LSlipHunt$Big;" ∈ ALL := all_tbl (tb2 (List.mem_of_getElem? (i := 160) rfl)) rfl
theorem w2_162 : Cond.laysFinal RX1 RX1 "guessing" "[I" ∈ ALL := all_tbl (tb2 (List.mem_of_getElem? (i := 162) rfl)) rfl
theorem w2_164 : Cond.laysFinal RX1 RX1 "length" "[LSlipHunt$Big;" ∈ ALL := all_tbl (tb2 (List.mem_of_getElem? (i := 164) rfl)) rfl
theorem w2_166 : Cond.laysFinal RX1 RX1 "guessed" "[LSlipHunt$Big;" ∈ ALL := all_tbl (tb2 (List.mem_of_getElem? (i := 166) rfl)) rfl
theorem w2_168 : Cond.laysFinal RX1 RX1 "nothing" "LSlipHunt$Big;" ∈ ALL := all_tbl (tb2 (List.mem_of_getElem? (i := 168) rfl)) rfl
theorem w2_175 : Cond.code yX2_init cX2_init 1 none ∈ ALL := all_tbl (tb2 (List.mem_of_getElem? (i := 175) rfl)) rfl
theorem w2_179 : Cond.methodLink RX2 19 yX0_set ∈ ALL := all_tbl (tb2 (List.mem_of_getElem? (i := 179) rfl)) rfl
theorem w2_180 : Cond.instanceMethod yX0_set ∈ ALL := all_tbl (tb2 (List.mem_of_getElem? (i := 180) rfl)) rfl
theorem w2_181 : Cond.selects RX0 yX0_set yX0_set ∈ ALL := all_tbl (tb2 (List.mem_of_getElem? (i := 181) rfl)) rfl
theorem w2_182 : Cond.code yX0_set cX0_set 3 none ∈ ALL := all_tbl (tb2 (List.mem_of_getElem? (i := 182) rfl)) rfl
theorem w2_183 : Cond.constant RX0 17 (nI 1073741823) ∈ ALL := all_tbl (tb2 (List.mem_of_getElem? (i := 183) rfl)) rfl
theorem w2_184 : Cond.methodLink RX0 18 yX0_trim ∈ ALL := all_tbl (tb2 (List.mem_of_getElem? (i := 184) rfl)) rfl
theorem w2_186 : Cond.instanceMethod yX0_trim ∈ ALL := all_tbl (tb2 (List.mem_of_getElem? (i := 186) rfl)) rfl
theorem w2_187 : Cond.code yX0_trim cX0_trim 3 none ∈ ALL := all_tbl (tb2 (List.mem_of_getElem? (i := 187) rfl)) rfl
theorem w2_188 : Cond.methodLink RX0 40 Lib.Math.min.name ∈ ALL := all_tbl (tb2 (List.mem_of_getElem? (i := 188) rfl)) rfl
theorem w2_189 : Cond.static Lib.Math.min.name ∈ ALL := all_tbl (tb2 (List.mem_of_getElem? (i := 189) rfl)) rfl
theorem w2_190 : Cond.code Lib.Math.min.name Lib.Math.min.code 2 (some .int) ∈ ALL := all_tbl (tb2 (List.mem_of_getElem? (i := 190) rfl)) rfl
theorem w2_191 : Cond.fieldLink RX2 10 RX2 "above" "LSlipHunt$Big;" ∈ ALL := all_tbl (tb2 (List.mem_of_getElem? (i := 191) rfl)) rfl
theorem w2_192 : Cond.fieldLink RX11 345 RX2 "above" "LSlipHunt$Big;" ∈ ALL := all_tbl (tb2 (List.mem_of_getElem? (i := 192) rfl)) rfl
theorem w2_193 : Cond.fieldLink RX2 16 RX2 "below" "LSlipHunt$Big;" ∈ ALL := all_tbl (tb2 (List.mem_of_getElem? (i := 193) rfl)) rfl
theorem w2_194 : Cond.fieldLink RX11 348 RX2 "below" "LSlipHunt$Big;" ∈ ALL := all_tbl (tb2 (List.mem_of_getElem? (i := 194) rfl)) rfl
theorem w2_195 : Cond.laysFinal RX2 RX2 "above" "LSlipHunt$Big;" ∈ ALL := all_tbl (tb2 (List.mem_of_getElem? (i := 195) rfl)) rfl
theorem w2_197 : Cond.laysFinal RX2 RX2 "below" "LSlipHunt$Big;" ∈ ALL := all_tbl (tb2 (List.mem_of_getElem? (i := 197) rfl)) rfl
theorem w2_202 : Cond.fieldLink RX11 10 RX11 "house" "LSlipHunt$House;" ∈ ALL := all_tbl (tb2 (List.mem_of_getElem? (i := 202) rfl)) rfl
theorem w2_203 : Cond.fieldLink RX11 16 RX11 "fresh" "LSlipHunt$House;" ∈ ALL := all_tbl (tb2 (List.mem_of_getElem? (i := 203) rfl)) rfl
theorem w2_204 : Cond.fieldLink RX11 22 RX11 "notes" "LSlipHunt$Notes;" ∈ ALL := all_tbl (tb2 (List.mem_of_getElem? (i := 204) rfl)) rfl
theorem w2_205 : Cond.fieldLink RX11 29 RX11 "told" "LSlipHunt$Told;" ∈ ALL := all_tbl (tb2 (List.mem_of_getElem? (i := 205) rfl)) rfl
theorem w2_206 : Cond.fieldLink RX11 33 RX11 "keptHouses" "[LSlipHunt$House;" ∈ ALL := all_tbl (tb2 (List.mem_of_getElem? (i := 206) rfl)) rfl
theorem w2_207 : Cond.fieldLink RX11 37 RX11 "keptNotes" "[LSlipHunt$Notes;" ∈ ALL := all_tbl (tb2 (List.mem_of_getElem? (i := 207) rfl)) rfl
theorem w2_208 : Cond.fieldLink RX11 41 RX11 "kept" "[Z" ∈ ALL := all_tbl (tb2 (List.mem_of_getElem? (i := 208) rfl)) rfl
theorem w2_209 : Cond.fieldLink RX11 45 RX11 "refused" "[I" ∈ ALL := all_tbl (tb2 (List.mem_of_getElem? (i := 209) rfl)) rfl
theorem w2_210 : Cond.fieldLink RX11 54 RX11 "walks" "LSlipHunt$Walks;" ∈ ALL := all_tbl (tb2 (List.mem_of_getElem? (i := 210) rfl)) rfl
theorem w2_211 : Cond.fieldLink RX11 63 RX11 "hunt" "LSlipHunt$Hunt;" ∈ ALL := all_tbl (tb2 (List.mem_of_getElem? (i := 211) rfl)) rfl
theorem w2_212 : Cond.fieldLink RX11 67 RX11 "rival" "LSlipHunt$Hunt;" ∈ ALL := all_tbl (tb2 (List.mem_of_getElem? (i := 212) rfl)) rfl
theorem w2_213 : Cond.fieldLink RX11 75 RX11 "means" "LSlipHunt$Means;" ∈ ALL := all_tbl (tb2 (List.mem_of_getElem? (i := 213) rfl)) rfl
theorem w2_214 : Cond.fieldLink RX11 82 RX11 "spread" "LSlipHunt$Spread;" ∈ ALL := all_tbl (tb2 (List.mem_of_getElem? (i := 214) rfl)) rfl
theorem w2_215 : Cond.fieldLink RX11 91 RX11 "orders" "LSlipHunt$Orders;" ∈ ALL := all_tbl (tb2 (List.mem_of_getElem? (i := 215) rfl)) rfl
theorem w2_216 : Cond.fieldLink RX11 100 RX11 "choice" "LSlipHunt$Choice;" ∈ ALL := all_tbl (tb2 (List.mem_of_getElem? (i := 216) rfl)) rfl
theorem w2_217 : Cond.fieldLink RX11 107 RX11 "fraction" "LSlipHunt$Fraction;" ∈ ALL := all_tbl (tb2 (List.mem_of_getElem? (i := 217) rfl)) rfl
theorem w2_218 : Cond.fieldLink RX11 114 RX11 "sum" "LSlipHunt$Big;" ∈ ALL := all_tbl (tb2 (List.mem_of_getElem? (i := 218) rfl)) rfl
theorem w2_219 : Cond.fieldLink RX11 118 RX11 "other" "LSlipHunt$Big;" ∈ ALL := all_tbl (tb2 (List.mem_of_getElem? (i := 219) rfl)) rfl
theorem w2_220 : Cond.laysFinal RX11 RX11 "house" "LSlipHunt$House;" ∈ ALL := all_tbl (tb2 (List.mem_of_getElem? (i := 220) rfl)) rfl
theorem w2_222 : Cond.laysFinal RX11 RX11 "fresh" "LSlipHunt$House;" ∈ ALL := all_tbl (tb2 (List.mem_of_getElem? (i := 222) rfl)) rfl
theorem w2_224 : Cond.laysFinal RX11 RX11 "notes" "LSlipHunt$Notes;" ∈ ALL := all_tbl (tb2 (List.mem_of_getElem? (i := 224) rfl)) rfl
theorem w2_226 : Cond.laysFinal RX11 RX11 "told" "LSlipHunt$Told;" ∈ ALL := all_tbl (tb2 (List.mem_of_getElem? (i := 226) rfl)) rfl
theorem w2_228 : Cond.laysFinal RX11 RX11 "keptHouses" "[LSlipHunt$House;" ∈ ALL := all_tbl (tb2 (List.mem_of_getElem? (i := 228) rfl)) rfl
theorem w2_230 : Cond.laysFinal RX11 RX11 "keptNotes" "[LSlipHunt$Notes;" ∈ ALL := all_tbl (tb2 (List.mem_of_getElem? (i := 230) rfl)) rfl
theorem w2_232 : Cond.laysFinal RX11 RX11 "kept" "[Z" ∈ ALL := all_tbl (tb2 (List.mem_of_getElem? (i := 232) rfl)) rfl
theorem w2_234 : Cond.laysFinal RX11 RX11 "refused" "[I" ∈ ALL := all_tbl (tb2 (List.mem_of_getElem? (i := 234) rfl)) rfl
theorem w2_236 : Cond.laysFinal RX11 RX11 "walks" "LSlipHunt$Walks;" ∈ ALL := all_tbl (tb2 (List.mem_of_getElem? (i := 236) rfl)) rfl
theorem w2_238 : Cond.laysFinal RX11 RX11 "hunt" "LSlipHunt$Hunt;" ∈ ALL := all_tbl (tb2 (List.mem_of_getElem? (i := 238) rfl)) rfl
theorem w3_0 : Cond.laysFinal RX11 RX11 "rival" "LSlipHunt$Hunt;" ∈ ALL := all_tbl (tb3 (List.mem_of_getElem? (i := 0) rfl)) rfl
theorem w3_2 : Cond.laysFinal RX11 RX11 "means" "LSlipHunt$Means;" ∈ ALL := all_tbl (tb3 (List.mem_of_getElem? (i := 2) rfl)) rfl
theorem w3_4 : Cond.laysFinal RX11 RX11 "spread" "LSlipHunt$Spread;" ∈ ALL := all_tbl (tb3 (List.mem_of_getElem? (i := 4) rfl)) rfl
theorem w3_6 : Cond.laysFinal RX11 RX11 "orders" "LSlipHunt$Orders;" ∈ ALL := all_tbl (tb3 (List.mem_of_getElem? (i := 6) rfl)) rfl
theorem w3_8 : Cond.laysFinal RX11 RX11 "choice" "LSlipHunt$Choice;" ∈ ALL := all_tbl (tb3 (List.mem_of_getElem? (i := 8) rfl)) rfl
theorem w3_10 : Cond.laysFinal RX11 RX11 "fraction" "LSlipHunt$Fraction;" ∈ ALL := all_tbl (tb3 (List.mem_of_getElem? (i := 10) rfl)) rfl
theorem w3_12 : Cond.laysFinal RX11 RX11 "sum" "LSlipHunt$Big;" ∈ ALL := all_tbl (tb3 (List.mem_of_getElem? (i := 12) rfl)) rfl
theorem w3_14 : Cond.laysFinal RX11 RX11 "other" "LSlipHunt$Big;" ∈ ALL := all_tbl (tb3 (List.mem_of_getElem? (i := 14) rfl)) rfl
theorem w3_20 : Cond.code yX11_place cX11_place 1 (some .int) ∈ ALL := all_tbl (tb3 (List.mem_of_getElem? (i := 20) rfl)) rfl
theorem w3_21 : Cond.methodLink RX11 121 yX3_addPlace ∈ ALL := all_tbl (tb3 (List.mem_of_getElem? (i := 21) rfl)) rfl
theorem w3_22 : Cond.instanceMethod yX3_addPlace ∈ ALL := all_tbl (tb3 (List.mem_of_getElem? (i := 22) rfl)) rfl
theorem w3_23 : Cond.selects RX3 yX3_addPlace yX3_addPlace ∈ ALL := all_tbl (tb3 (List.mem_of_getElem? (i := 23) rfl)) rfl
theorem w3_24 : Cond.code yX3_addPlace cX3_addPlace 1 (some .int) ∈ ALL := all_tbl (tb3 (List.mem_of_getElem? (i := 24) rfl)) rfl
theorem w3_25 : Cond.methodLink RX11 125 yX11_counted ∈ ALL := all_tbl (tb3 (List.mem_of_getElem? (i := 25) rfl)) rfl
theorem w3_27 : Cond.instanceMethod yX11_counted ∈ ALL := all_tbl (tb3 (List.mem_of_getElem? (i := 27) rfl)) rfl
theorem w3_28 : Cond.code yX11_counted cX11_counted 2 (some .int) ∈ ALL := all_tbl (tb3 (List.mem_of_getElem? (i := 28) rfl)) rfl
theorem w3_32 : Cond.code yX11_way cX11_way 4 (some .int) ∈ ALL := all_tbl (tb3 (List.mem_of_getElem? (i := 32) rfl)) rfl
theorem w3_33 : Cond.methodLink RX11 129 yX3_setWay ∈ ALL := all_tbl (tb3 (List.mem_of_getElem? (i := 33) rfl)) rfl
theorem w3_34 : Cond.instanceMethod yX3_setWay ∈ ALL := all_tbl (tb3 (List.mem_of_getElem? (i := 34) rfl)) rfl
theorem w3_35 : Cond.selects RX3 yX3_setWay yX3_setWay ∈ ALL := all_tbl (tb3 (List.mem_of_getElem? (i := 35) rfl)) rfl
theorem w3_36 : Cond.code yX3_setWay cX3_setWay 5 (some .int) ∈ ALL := all_tbl (tb3 (List.mem_of_getElem? (i := 36) rfl)) rfl
theorem w3_37 : Cond.methodLink RX3 88 yX3_areTwoPlaces ∈ ALL := all_tbl (tb3 (List.mem_of_getElem? (i := 37) rfl)) rfl
theorem w3_39 : Cond.instanceMethod yX3_areTwoPlaces ∈ ALL := all_tbl (tb3 (List.mem_of_getElem? (i := 39) rfl)) rfl
theorem w3_40 : Cond.code yX3_areTwoPlaces cX3_areTwoPlaces 3 (some .boolean) ∈ ALL := all_tbl (tb3 (List.mem_of_getElem? (i := 40) rfl)) rfl
theorem w3_41 : Cond.methodLink RX3 84 yX3_hasPlace ∈ ALL := all_tbl (tb3 (List.mem_of_getElem? (i := 41) rfl)) rfl
theorem w3_42 : Cond.instanceMethod yX3_hasPlace ∈ ALL := all_tbl (tb3 (List.mem_of_getElem? (i := 42) rfl)) rfl
theorem w3_43 : Cond.selects RX3 yX3_hasPlace yX3_hasPlace ∈ ALL := all_tbl (tb3 (List.mem_of_getElem? (i := 43) rfl)) rfl
theorem w3_44 : Cond.code yX3_hasPlace cX3_hasPlace 2 (some .boolean) ∈ ALL := all_tbl (tb3 (List.mem_of_getElem? (i := 44) rfl)) rfl
theorem w3_45 : (RX3, 80, yX11_within, RX11) ∈ NESTS := List.mem_of_getElem? (i := 9) rfl
theorem w3_46 : Cond.static yX11_within ∈ ALL := all_tbl (tb3 (List.mem_of_getElem? (i := 46) rfl)) rfl
theorem w3_47 : Cond.code yX11_within cX11_within 2 (some .boolean) ∈ ALL := all_tbl (tb3 (List.mem_of_getElem? (i := 47) rfl)) rfl
theorem w3_51 : Cond.code yX11_sees cX11_sees 3 (some .int) ∈ ALL := all_tbl (tb3 (List.mem_of_getElem? (i := 51) rfl)) rfl
theorem w3_52 : Cond.methodLink RX11 133 yX3_addSight ∈ ALL := all_tbl (tb3 (List.mem_of_getElem? (i := 52) rfl)) rfl
theorem w3_53 : Cond.instanceMethod yX3_addSight ∈ ALL := all_tbl (tb3 (List.mem_of_getElem? (i := 53) rfl)) rfl
theorem w3_54 : Cond.selects RX3 yX3_addSight yX3_addSight ∈ ALL := all_tbl (tb3 (List.mem_of_getElem? (i := 54) rfl)) rfl
theorem w3_55 : Cond.code yX3_addSight cX3_addSight 3 (some .int) ∈ ALL := all_tbl (tb3 (List.mem_of_getElem? (i := 55) rfl)) rfl
theorem w3_59 : Cond.code yX11_child cX11_child 6 (some .int) ∈ ALL := all_tbl (tb3 (List.mem_of_getElem? (i := 59) rfl)) rfl
theorem w3_60 : Cond.methodLink RX11 137 yX3_addChild ∈ ALL := all_tbl (tb3 (List.mem_of_getElem? (i := 60) rfl)) rfl
theorem w3_61 : Cond.instanceMethod yX3_addChild ∈ ALL := all_tbl (tb3 (List.mem_of_getElem? (i := 61) rfl)) rfl
theorem w3_62 : Cond.selects RX3 yX3_addChild yX3_addChild ∈ ALL := all_tbl (tb3 (List.mem_of_getElem? (i := 62) rfl)) rfl
theorem w3_63 : Cond.code yX3_addChild cX3_addChild 7 (some .int) ∈ ALL := all_tbl (tb3 (List.mem_of_getElem? (i := 63) rfl)) rfl
theorem w3_64 : Cond.methodLink RX3 91 yX3_isQuick ∈ ALL := all_tbl (tb3 (List.mem_of_getElem? (i := 64) rfl)) rfl
theorem w3_65 : Cond.static yX3_isQuick ∈ ALL := all_tbl (tb3 (List.mem_of_getElem? (i := 65) rfl)) rfl
theorem w3_66 : Cond.code yX3_isQuick cX3_isQuick 1 (some .boolean) ∈ ALL := all_tbl (tb3 (List.mem_of_getElem? (i := 66) rfl)) rfl
theorem w3_70 : Cond.code yX11_bar cX11_bar 3 (some .int) ∈ ALL := all_tbl (tb3 (List.mem_of_getElem? (i := 70) rfl)) rfl
theorem w3_71 : Cond.methodLink RX11 141 yX3_addBar ∈ ALL := all_tbl (tb3 (List.mem_of_getElem? (i := 71) rfl)) rfl
theorem w3_72 : Cond.instanceMethod yX3_addBar ∈ ALL := all_tbl (tb3 (List.mem_of_getElem? (i := 72) rfl)) rfl
theorem w3_73 : Cond.selects RX3 yX3_addBar yX3_addBar ∈ ALL := all_tbl (tb3 (List.mem_of_getElem? (i := 73) rfl)) rfl
theorem w3_74 : Cond.code yX3_addBar cX3_addBar 3 (some .int) ∈ ALL := all_tbl (tb3 (List.mem_of_getElem? (i := 74) rfl)) rfl
theorem w3_78 : Cond.code yX11_join cX11_join 4 (some .int) ∈ ALL := all_tbl (tb3 (List.mem_of_getElem? (i := 78) rfl)) rfl
theorem w3_79 : Cond.methodLink RX11 144 yX3_setLot ∈ ALL := all_tbl (tb3 (List.mem_of_getElem? (i := 79) rfl)) rfl
theorem w3_80 : Cond.instanceMethod yX3_setLot ∈ ALL := all_tbl (tb3 (List.mem_of_getElem? (i := 80) rfl)) rfl
theorem w3_81 : Cond.selects RX3 yX3_setLot yX3_setLot ∈ ALL := all_tbl (tb3 (List.mem_of_getElem? (i := 81) rfl)) rfl
theorem w3_82 : Cond.code yX3_setLot cX3_setLot 4 (some .int) ∈ ALL := all_tbl (tb3 (List.mem_of_getElem? (i := 82) rfl)) rfl
theorem w3_86 : Cond.code yX11_slip cX11_slip 3 (some .int) ∈ ALL := all_tbl (tb3 (List.mem_of_getElem? (i := 86) rfl)) rfl
theorem w3_87 : Cond.methodLink RX11 147 yX3_addSlip ∈ ALL := all_tbl (tb3 (List.mem_of_getElem? (i := 87) rfl)) rfl
theorem w3_88 : Cond.instanceMethod yX3_addSlip ∈ ALL := all_tbl (tb3 (List.mem_of_getElem? (i := 88) rfl)) rfl
theorem w3_89 : Cond.selects RX3 yX3_addSlip yX3_addSlip ∈ ALL := all_tbl (tb3 (List.mem_of_getElem? (i := 89) rfl)) rfl
theorem w3_90 : Cond.code yX3_addSlip cX3_addSlip 3 (some .int) ∈ ALL := all_tbl (tb3 (List.mem_of_getElem? (i := 90) rfl)) rfl
theorem w3_94 : Cond.code yX11_spare cX11_spare 2 (some .int) ∈ ALL := all_tbl (tb3 (List.mem_of_getElem? (i := 94) rfl)) rfl
theorem w3_95 : Cond.methodLink RX11 150 yX3_setSpare ∈ ALL := all_tbl (tb3 (List.mem_of_getElem? (i := 95) rfl)) rfl
theorem w3_96 : Cond.instanceMethod yX3_setSpare ∈ ALL := all_tbl (tb3 (List.mem_of_getElem? (i := 96) rfl)) rfl
theorem w3_97 : Cond.selects RX3 yX3_setSpare yX3_setSpare ∈ ALL := all_tbl (tb3 (List.mem_of_getElem? (i := 97) rfl)) rfl
theorem w3_98 : Cond.code yX3_setSpare cX3_setSpare 2 (some .int) ∈ ALL := all_tbl (tb3 (List.mem_of_getElem? (i := 98) rfl)) rfl
theorem w3_102 : Cond.code yX11_means cX11_means 3 (some .int) ∈ ALL := all_tbl (tb3 (List.mem_of_getElem? (i := 102) rfl)) rfl
theorem w3_103 : Cond.methodLink RX11 153 yX3_addMistaken ∈ ALL := all_tbl (tb3 (List.mem_of_getElem? (i := 103) rfl)) rfl
theorem w3_104 : Cond.instanceMethod yX3_addMistaken ∈ ALL := all_tbl (tb3 (List.mem_of_getElem? (i := 104) rfl)) rfl
theorem w3_105 : Cond.selects RX3 yX3_addMistaken yX3_addMistaken ∈ ALL := all_tbl (tb3 (List.mem_of_getElem? (i := 105) rfl)) rfl
theorem w3_106 : Cond.code yX3_addMistaken cX3_addMistaken 3 (some .int) ∈ ALL := all_tbl (tb3 (List.mem_of_getElem? (i := 106) rfl)) rfl
theorem w3_110 : Cond.code yX11_row cX11_row 3 (some .int) ∈ ALL := all_tbl (tb3 (List.mem_of_getElem? (i := 110) rfl)) rfl
theorem w3_111 : Cond.methodLink RX11 156 yX3_addToRow ∈ ALL := all_tbl (tb3 (List.mem_of_getElem? (i := 111) rfl)) rfl
theorem w3_112 : Cond.instanceMethod yX3_addToRow ∈ ALL := all_tbl (tb3 (List.mem_of_getElem? (i := 112) rfl)) rfl
theorem w3_113 : Cond.selects RX3 yX3_addToRow yX3_addToRow ∈ ALL := all_tbl (tb3 (List.mem_of_getElem? (i := 113) rfl)) rfl
theorem w3_114 : Cond.code yX3_addToRow cX3_addToRow 5 (some .int) ∈ ALL := all_tbl (tb3 (List.mem_of_getElem? (i := 114) rfl)) rfl
theorem w3_118 : Cond.code yX11_unrow cX11_unrow 2 (some .int) ∈ ALL := all_tbl (tb3 (List.mem_of_getElem? (i := 118) rfl)) rfl
theorem w3_119 : Cond.methodLink RX11 159 yX3_emptyRow ∈ ALL := all_tbl (tb3 (List.mem_of_getElem? (i := 119) rfl)) rfl
theorem w3_120 : Cond.instanceMethod yX3_emptyRow ∈ ALL := all_tbl (tb3 (List.mem_of_getElem? (i := 120) rfl)) rfl
theorem w3_121 : Cond.selects RX3 yX3_emptyRow yX3_emptyRow ∈ ALL := all_tbl (tb3 (List.mem_of_getElem? (i := 121) rfl)) rfl
theorem w3_122 : Cond.code yX3_emptyRow cX3_emptyRow 3 (some .int) ∈ ALL := all_tbl (tb3 (List.mem_of_getElem? (i := 122) rfl)) rfl
theorem w3_126 : Cond.code yX11_put cX11_put 3 (some .int) ∈ ALL := all_tbl (tb3 (List.mem_of_getElem? (i := 126) rfl)) rfl
theorem w3_127 : Cond.methodLink RX11 162 yX6_setNumber ∈ ALL := all_tbl (tb3 (List.mem_of_getElem? (i := 127) rfl)) rfl
theorem w3_128 : Cond.instanceMethod yX6_setNumber ∈ ALL := all_tbl (tb3 (List.mem_of_getElem? (i := 128) rfl)) rfl
theorem w3_129 : Cond.selects RX6 yX6_setNumber yX6_setNumber ∈ ALL := all_tbl (tb3 (List.mem_of_getElem? (i := 129) rfl)) rfl
theorem w3_130 : Cond.code yX6_setNumber cX6_setNumber 4 (some .int) ∈ ALL := all_tbl (tb3 (List.mem_of_getElem? (i := 130) rfl)) rfl
theorem w3_131 : (RX6, 31, yX11_within, RX11) ∈ NESTS := List.mem_of_getElem? (i := 10) rfl
theorem w3_132 : Cond.fieldLink RX6 35 RX6 "LEAST" "[I" ∈ ALL := all_tbl (tb3 (List.mem_of_getElem? (i := 132) rfl)) rfl
theorem w3_134 : Cond.fieldLink RX6 38 RX6 "GREATEST" "[I" ∈ ALL := all_tbl (tb3 (List.mem_of_getElem? (i := 134) rfl)) rfl
theorem w3_139 : Cond.code yX11_type cX11_type 4 (some .int) ∈ ALL := all_tbl (tb3 (List.mem_of_getElem? (i := 139) rfl)) rfl
theorem w3_140 : Cond.methodLink RX11 165 yX9_addBytes ∈ ALL := all_tbl (tb3 (List.mem_of_getElem? (i := 140) rfl)) rfl
theorem w3_141 : Cond.instanceMethod yX9_addBytes ∈ ALL := all_tbl (tb3 (List.mem_of_getElem? (i := 141) rfl)) rfl
theorem w3_142 : Cond.selects RX9 yX9_addBytes yX9_addBytes ∈ ALL := all_tbl (tb3 (List.mem_of_getElem? (i := 142) rfl)) rfl
theorem w3_143 : Cond.code yX9_addBytes cX9_addBytes 5 (some .int) ∈ ALL := all_tbl (tb3 (List.mem_of_getElem? (i := 143) rfl)) rfl
theorem w3_144 : Cond.constantLong RX9 25 (lN 255) ∈ ALL := all_tbl (tb3 (List.mem_of_getElem? (i := 144) rfl)) rfl
theorem w3_148 : Cond.code yX11_clear cX11_clear 1 (some .int) ∈ ALL := all_tbl (tb3 (List.mem_of_getElem? (i := 148) rfl)) rfl
theorem w3_149 : Cond.methodLink RX11 169 yX9_empty ∈ ALL := all_tbl (tb3 (List.mem_of_getElem? (i := 149) rfl)) rfl
theorem w3_150 : Cond.instanceMethod yX9_empty ∈ ALL := all_tbl (tb3 (List.mem_of_getElem? (i := 150) rfl)) rfl
theorem w3_151 : Cond.selects RX9 yX9_empty yX9_empty ∈ ALL := all_tbl (tb3 (List.mem_of_getElem? (i := 151) rfl)) rfl
theorem w3_152 : Cond.code yX9_empty cX9_empty 2 (some .int) ∈ ALL := all_tbl (tb3 (List.mem_of_getElem? (i := 152) rfl)) rfl
theorem w3_156 : Cond.code yX11_house cX11_house 3 (some .int) ∈ ALL := all_tbl (tb3 (List.mem_of_getElem? (i := 156) rfl)) rfl
theorem w3_157 : Cond.methodLink RX11 172 yX9_findFault ∈ ALL := all_tbl (tb3 (List.mem_of_getElem? (i := 157) rfl)) rfl
theorem w3_158 : Cond.instanceMethod yX9_findFault ∈ ALL := all_tbl (tb3 (List.mem_of_getElem? (i := 158) rfl)) rfl
theorem w3_159 : Cond.selects RX9 yX9_findFault yX9_findFault ∈ ALL := all_tbl (tb3 (List.mem_of_getElem? (i := 159) rfl)) rfl
theorem w3_160 : Cond.code yX9_findFault cX9_findFault 2 (some .int) ∈ ALL := all_tbl (tb3 (List.mem_of_getElem? (i := 160) rfl)) rfl
theorem w3_161 : Cond.methodLink RX9 33 yX9_skipBlanks ∈ ALL := all_tbl (tb3 (List.mem_of_getElem? (i := 161) rfl)) rfl
theorem w3_163 : Cond.instanceMethod yX9_skipBlanks ∈ ALL := all_tbl (tb3 (List.mem_of_getElem? (i := 163) rfl)) rfl
theorem w3_164 : Cond.code yX9_skipBlanks cX9_skipBlanks 1 none ∈ ALL := all_tbl (tb3 (List.mem_of_getElem? (i := 164) rfl)) rfl
theorem w3_165 : Cond.methodLink RX9 36 yX9_readItem ∈ ALL := all_tbl (tb3 (List.mem_of_getElem? (i := 165) rfl)) rfl
theorem w3_167 : Cond.instanceMethod yX9_readItem ∈ ALL := all_tbl (tb3 (List.mem_of_getElem? (i := 167) rfl)) rfl
theorem w3_168 : Cond.code yX9_readItem cX9_readItem 4 (some .boolean) ∈ ALL := all_tbl (tb3 (List.mem_of_getElem? (i := 168) rfl)) rfl
theorem w3_169 : Cond.methodLink RX9 40 yX9_endOfRun ∈ ALL := all_tbl (tb3 (List.mem_of_getElem? (i := 169) rfl)) rfl
theorem w3_171 : Cond.instanceMethod yX9_endOfRun ∈ ALL := all_tbl (tb3 (List.mem_of_getElem? (i := 171) rfl)) rfl
theorem w3_172 : Cond.code yX9_endOfRun cX9_endOfRun 4 (some .int) ∈ ALL := all_tbl (tb3 (List.mem_of_getElem? (i := 172) rfl)) rfl
theorem w3_173 : Cond.methodLink RX9 44 yX9_kindTo ∈ ALL := all_tbl (tb3 (List.mem_of_getElem? (i := 173) rfl)) rfl
theorem w3_175 : Cond.instanceMethod yX9_kindTo ∈ ALL := all_tbl (tb3 (List.mem_of_getElem? (i := 175) rfl)) rfl
theorem w3_176 : Cond.code yX9_kindTo cX9_kindTo 2 (some .int) ∈ ALL := all_tbl (tb3 (List.mem_of_getElem? (i := 176) rfl)) rfl
theorem w3_181 : Cond.code yX9_spells cX9_spells 4 (some .boolean) ∈ ALL := all_tbl (tb3 (List.mem_of_getElem? (i := 181) rfl)) rfl
theorem w3_239 : Cond.fieldLink RX9 48 RX9 "NUMBERS_OF" "[I" ∈ ALL := all_tbl (tb3 (List.mem_of_getElem? (i := 239) rfl)) rfl
theorem w4_1 : Cond.methodLink RX9 51 yX9_valueTo ∈ ALL := all_tbl (tb4 (List.mem_of_getElem? (i := 1) rfl)) rfl
theorem w4_3 : Cond.instanceMethod yX9_valueTo ∈ ALL := all_tbl (tb4 (List.mem_of_getElem? (i := 3) rfl)) rfl
theorem w4_4 : Cond.code yX9_valueTo cX9_valueTo 4 (some .int) ∈ ALL := all_tbl (tb4 (List.mem_of_getElem? (i := 4) rfl)) rfl
theorem w4_5 : Cond.methodLink RX11 175 yX3_empty ∈ ALL := all_tbl (tb4 (List.mem_of_getElem? (i := 5) rfl)) rfl
theorem w4_6 : Cond.instanceMethod yX3_empty ∈ ALL := all_tbl (tb4 (List.mem_of_getElem? (i := 6) rfl)) rfl
theorem w4_7 : Cond.selects RX3 yX3_empty yX3_empty ∈ ALL := all_tbl (tb4 (List.mem_of_getElem? (i := 7) rfl)) rfl
theorem w4_8 : Cond.code yX3_empty cX3_empty 1 none ∈ ALL := all_tbl (tb4 (List.mem_of_getElem? (i := 8) rfl)) rfl
theorem w4_9 : Cond.methodLink RX3 58 yJ7_fill_53178 ∈ ALL := all_tbl (tb4 (List.mem_of_getElem? (i := 9) rfl)) rfl
theorem w4_10 : Cond.static yJ7_fill_53178 ∈ ALL := all_tbl (tb4 (List.mem_of_getElem? (i := 10) rfl)) rfl
theorem w4_11 : Cond.code yJ7_fill_53178 cJ7_fill_53178 4 none ∈ ALL := all_tbl (tb4 (List.mem_of_getElem? (i := 11) rfl)) rfl
theorem w4_12 : Cond.methodLink RX11 181 yX9_tell ∈ ALL := all_tbl (tb4 (List.mem_of_getElem? (i := 12) rfl)) rfl
theorem w4_13 : Cond.instanceMethod yX9_tell ∈ ALL := all_tbl (tb4 (List.mem_of_getElem? (i := 13) rfl)) rfl
theorem w4_14 : Cond.selects RX9 yX9_tell yX9_tell ∈ ALL := all_tbl (tb4 (List.mem_of_getElem? (i := 14) rfl)) rfl
theorem w4_15 : Cond.code yX9_tell cX9_tell 7 (some .int) ∈ ALL := all_tbl (tb4 (List.mem_of_getElem? (i := 15) rfl)) rfl
theorem w4_16 : (RX9, 87, yX11_within, RX11) ∈ NESTS := List.mem_of_getElem? (i := 11) rfl
theorem w4_17 : Cond.methodLink RX9 91 yX3_addPlace ∈ ALL := all_tbl (tb4 (List.mem_of_getElem? (i := 17) rfl)) rfl
theorem w4_18 : Cond.methodLink RX9 96 yX3_setWay ∈ ALL := all_tbl (tb4 (List.mem_of_getElem? (i := 18) rfl)) rfl
theorem w4_19 : Cond.methodLink RX9 100 yX3_addSight ∈ ALL := all_tbl (tb4 (List.mem_of_getElem? (i := 19) rfl)) rfl
theorem w4_20 : Cond.methodLink RX9 103 yX3_addChild ∈ ALL := all_tbl (tb4 (List.mem_of_getElem? (i := 20) rfl)) rfl
theorem w4_21 : Cond.methodLink RX9 107 yX3_addBar ∈ ALL := all_tbl (tb4 (List.mem_of_getElem? (i := 21) rfl)) rfl
theorem w4_22 : Cond.methodLink RX9 110 yX3_setLot ∈ ALL := all_tbl (tb4 (List.mem_of_getElem? (i := 22) rfl)) rfl
theorem w4_23 : Cond.methodLink RX9 113 yX3_addSlip ∈ ALL := all_tbl (tb4 (List.mem_of_getElem? (i := 23) rfl)) rfl
theorem w4_24 : Cond.methodLink RX9 116 yX3_setSpare ∈ ALL := all_tbl (tb4 (List.mem_of_getElem? (i := 24) rfl)) rfl
theorem w4_25 : Cond.methodLink RX9 119 yX3_addMistaken ∈ ALL := all_tbl (tb4 (List.mem_of_getElem? (i := 25) rfl)) rfl
theorem w4_26 : Cond.methodLink RX9 122 yX3_addToRow ∈ ALL := all_tbl (tb4 (List.mem_of_getElem? (i := 26) rfl)) rfl
theorem w4_27 : Cond.methodLink RX11 185 yX3_copy ∈ ALL := all_tbl (tb4 (List.mem_of_getElem? (i := 27) rfl)) rfl
theorem w4_28 : Cond.instanceMethod yX3_copy ∈ ALL := all_tbl (tb4 (List.mem_of_getElem? (i := 28) rfl)) rfl
theorem w4_29 : Cond.selects RX3 yX3_copy yX3_copy ∈ ALL := all_tbl (tb4 (List.mem_of_getElem? (i := 29) rfl)) rfl
theorem w4_30 : Cond.code yX3_copy cX3_copy 2 none ∈ ALL := all_tbl (tb4 (List.mem_of_getElem? (i := 30) rfl)) rfl
theorem w4_31 : Cond.methodLink RX3 64 yX3_copyAll ∈ ALL := all_tbl (tb4 (List.mem_of_getElem? (i := 31) rfl)) rfl
theorem w4_32 : Cond.static yX3_copyAll ∈ ALL := all_tbl (tb4 (List.mem_of_getElem? (i := 32) rfl)) rfl
theorem w4_33 : Cond.code yX3_copyAll cX3_copyAll 2 none ∈ ALL := all_tbl (tb4 (List.mem_of_getElem? (i := 33) rfl)) rfl
theorem w4_34 : Cond.methodLink RX3 68 Lib.Math.min.name ∈ ALL := all_tbl (tb4 (List.mem_of_getElem? (i := 34) rfl)) rfl
theorem w4_35 : Cond.methodLink RX3 74 arraycopyName ∈ ALL := all_tbl (tb4 (List.mem_of_getElem? (i := 35) rfl)) rfl
theorem w4_36 : Cond.static arraycopyName ∈ ALL := all_tbl (tb4 (List.mem_of_getElem? (i := 36) rfl)) rfl
theorem w4_37 : Cond.native arraycopyName ∈ ALL := all_tbl (tb4 (List.mem_of_getElem? (i := 37) rfl)) rfl
theorem w4_42 : Cond.code yX11_walk cX11_walk 3 (some .int) ∈ ALL := all_tbl (tb4 (List.mem_of_getElem? (i := 42) rfl)) rfl
theorem w4_43 : Cond.methodLink RX11 188 yX3_hasPlace ∈ ALL := all_tbl (tb4 (List.mem_of_getElem? (i := 43) rfl)) rfl
theorem w4_44 : Cond.methodLink RX11 192 yX10_measure ∈ ALL := all_tbl (tb4 (List.mem_of_getElem? (i := 44) rfl)) rfl
theorem w4_45 : Cond.instanceMethod yX10_measure ∈ ALL := all_tbl (tb4 (List.mem_of_getElem? (i := 45) rfl)) rfl
theorem w4_46 : Cond.selects RX10 yX10_measure yX10_measure ∈ ALL := all_tbl (tb4 (List.mem_of_getElem? (i := 46) rfl)) rfl
theorem w4_47 : Cond.code yX10_measure cX10_measure 1 none ∈ ALL := all_tbl (tb4 (List.mem_of_getElem? (i := 47) rfl)) rfl
theorem w4_48 : Cond.methodLink RX10 28 yX10_startWithWays ∈ ALL := all_tbl (tb4 (List.mem_of_getElem? (i := 48) rfl)) rfl
theorem w4_50 : Cond.instanceMethod yX10_startWithWays ∈ ALL := all_tbl (tb4 (List.mem_of_getElem? (i := 50) rfl)) rfl
theorem w4_51 : Cond.code yX10_startWithWays cX10_startWithWays 4 none ∈ ALL := all_tbl (tb4 (List.mem_of_getElem? (i := 51) rfl)) rfl
theorem w4_52 : Cond.methodLink RX10 31 yX10_shortenByRounds ∈ ALL := all_tbl (tb4 (List.mem_of_getElem? (i := 52) rfl)) rfl
theorem w4_54 : Cond.instanceMethod yX10_shortenByRounds ∈ ALL := all_tbl (tb4 (List.mem_of_getElem? (i := 54) rfl)) rfl
theorem w4_55 : Cond.code yX10_shortenByRounds cX10_shortenByRounds 5 none ∈ ALL := all_tbl (tb4 (List.mem_of_getElem? (i := 55) rfl)) rfl
theorem w4_56 : Cond.methodLink RX10 52 Lib.Math.min.name ∈ ALL := all_tbl (tb4 (List.mem_of_getElem? (i := 56) rfl)) rfl
theorem w4_57 : Cond.methodLink RX10 34 yX10_chooseSteps ∈ ALL := all_tbl (tb4 (List.mem_of_getElem? (i := 57) rfl)) rfl
theorem w4_59 : Cond.instanceMethod yX10_chooseSteps ∈ ALL := all_tbl (tb4 (List.mem_of_getElem? (i := 59) rfl)) rfl
theorem w4_60 : Cond.code yX10_chooseSteps cX10_chooseSteps 5 none ∈ ALL := all_tbl (tb4 (List.mem_of_getElem? (i := 60) rfl)) rfl
theorem w4_61 : Cond.methodLink RX10 37 yJ7_fill_53178 ∈ ALL := all_tbl (tb4 (List.mem_of_getElem? (i := 61) rfl)) rfl
theorem w4_62 : Cond.methodLink RX11 195 yX10_between ∈ ALL := all_tbl (tb4 (List.mem_of_getElem? (i := 62) rfl)) rfl
theorem w4_63 : Cond.instanceMethod yX10_between ∈ ALL := all_tbl (tb4 (List.mem_of_getElem? (i := 63) rfl)) rfl
theorem w4_64 : Cond.selects RX10 yX10_between yX10_between ∈ ALL := all_tbl (tb4 (List.mem_of_getElem? (i := 64) rfl)) rfl
theorem w4_65 : Cond.code yX10_between cX10_between 3 (some .int) ∈ ALL := all_tbl (tb4 (List.mem_of_getElem? (i := 65) rfl)) rfl
theorem w4_66 : Cond.methodLink RX10 58 yX3_hasPlace ∈ ALL := all_tbl (tb4 (List.mem_of_getElem? (i := 66) rfl)) rfl
theorem w4_70 : Cond.code yX11_riddles cX11_riddles 3 (some .int) ∈ ALL := all_tbl (tb4 (List.mem_of_getElem? (i := 70) rfl)) rfl
theorem w4_71 : Cond.methodLink RX11 198 yX11_within ∈ ALL := all_tbl (tb4 (List.mem_of_getElem? (i := 71) rfl)) rfl
theorem w4_72 : Cond.methodLink RX11 205 yX11_canHunt ∈ ALL := all_tbl (tb4 (List.mem_of_getElem? (i := 72) rfl)) rfl
theorem w4_74 : Cond.instanceMethod yX11_canHunt ∈ ALL := all_tbl (tb4 (List.mem_of_getElem? (i := 74) rfl)) rfl
theorem w4_75 : Cond.code yX11_canHunt cX11_canHunt 3 (some .boolean) ∈ ALL := all_tbl (tb4 (List.mem_of_getElem? (i := 75) rfl)) rfl
theorem w4_76 : Cond.methodLink RX11 264 yX4_take ∈ ALL := all_tbl (tb4 (List.mem_of_getElem? (i := 76) rfl)) rfl
theorem w4_77 : Cond.instanceMethod yX4_take ∈ ALL := all_tbl (tb4 (List.mem_of_getElem? (i := 77) rfl)) rfl
theorem w4_78 : Cond.selects RX4 yX4_take yX4_take ∈ ALL := all_tbl (tb4 (List.mem_of_getElem? (i := 78) rfl)) rfl
theorem w4_79 : Cond.code yX4_take cX4_take 3 none ∈ ALL := all_tbl (tb4 (List.mem_of_getElem? (i := 79) rfl)) rfl
theorem w4_80 : (RX4, 46, yX11_within, RX11) ∈ NESTS := List.mem_of_getElem? (i := 12) rfl
theorem w4_81 : Cond.methodLink RX11 373 yX4_lay ∈ ALL := all_tbl (tb4 (List.mem_of_getElem? (i := 81) rfl)) rfl
theorem w4_82 : Cond.instanceMethod yX4_lay ∈ ALL := all_tbl (tb4 (List.mem_of_getElem? (i := 82) rfl)) rfl
theorem w4_83 : Cond.selects RX4 yX4_lay yX4_lay ∈ ALL := all_tbl (tb4 (List.mem_of_getElem? (i := 83) rfl)) rfl
theorem w4_84 : Cond.code yX4_lay cX4_lay 6 (some .boolean) ∈ ALL := all_tbl (tb4 (List.mem_of_getElem? (i := 84) rfl)) rfl
theorem w4_85 : Cond.methodLink RX4 66 yX3_hasPlace ∈ ALL := all_tbl (tb4 (List.mem_of_getElem? (i := 85) rfl)) rfl
theorem w4_86 : Cond.methodLink RX4 76 yX4_layRiddle ∈ ALL := all_tbl (tb4 (List.mem_of_getElem? (i := 86) rfl)) rfl
theorem w4_88 : Cond.instanceMethod yX4_layRiddle ∈ ALL := all_tbl (tb4 (List.mem_of_getElem? (i := 88) rfl)) rfl
theorem w4_89 : Cond.code yX4_layRiddle cX4_layRiddle 4 none ∈ ALL := all_tbl (tb4 (List.mem_of_getElem? (i := 89) rfl)) rfl
theorem w4_90 : Cond.methodLink RX4 92 yX4_weigh ∈ ALL := all_tbl (tb4 (List.mem_of_getElem? (i := 90) rfl)) rfl
theorem w4_91 : Cond.instanceMethod yX4_weigh ∈ ALL := all_tbl (tb4 (List.mem_of_getElem? (i := 91) rfl)) rfl
theorem w4_92 : Cond.selects RX4 yX4_weigh yX4_weigh ∈ ALL := all_tbl (tb4 (List.mem_of_getElem? (i := 92) rfl)) rfl
theorem w4_93 : Cond.code yX4_weigh cX4_weigh 7 (some .int) ∈ ALL := all_tbl (tb4 (List.mem_of_getElem? (i := 93) rfl)) rfl
theorem w4_94 : Cond.constant RX4 96 (nI 1000000) ∈ ALL := all_tbl (tb4 (List.mem_of_getElem? (i := 94) rfl)) rfl
theorem w4_95 : Cond.methodLink RX4 97 yX3_quickAt ∈ ALL := all_tbl (tb4 (List.mem_of_getElem? (i := 95) rfl)) rfl
theorem w4_96 : Cond.instanceMethod yX3_quickAt ∈ ALL := all_tbl (tb4 (List.mem_of_getElem? (i := 96) rfl)) rfl
theorem w4_97 : Cond.selects RX3 yX3_quickAt yX3_quickAt ∈ ALL := all_tbl (tb4 (List.mem_of_getElem? (i := 97) rfl)) rfl
theorem w4_98 : Cond.code yX3_quickAt cX3_quickAt 6 (some .int) ∈ ALL := all_tbl (tb4 (List.mem_of_getElem? (i := 98) rfl)) rfl
theorem w4_99 : Cond.methodLink RX4 83 yX10_leg ∈ ALL := all_tbl (tb4 (List.mem_of_getElem? (i := 99) rfl)) rfl
theorem w4_100 : Cond.instanceMethod yX10_leg ∈ ALL := all_tbl (tb4 (List.mem_of_getElem? (i := 100) rfl)) rfl
theorem w4_101 : Cond.selects RX10 yX10_leg yX10_leg ∈ ALL := all_tbl (tb4 (List.mem_of_getElem? (i := 101) rfl)) rfl
theorem w4_102 : Cond.code yX10_leg cX10_leg 5 (some .int) ∈ ALL := all_tbl (tb4 (List.mem_of_getElem? (i := 102) rfl)) rfl
theorem w4_103 : Cond.methodLink RX10 62 yX10_knownLeg ∈ ALL := all_tbl (tb4 (List.mem_of_getElem? (i := 103) rfl)) rfl
theorem w4_105 : Cond.instanceMethod yX10_knownLeg ∈ ALL := all_tbl (tb4 (List.mem_of_getElem? (i := 105) rfl)) rfl
theorem w4_106 : Cond.code yX10_knownLeg cX10_knownLeg 5 (some .int) ∈ ALL := all_tbl (tb4 (List.mem_of_getElem? (i := 106) rfl)) rfl
theorem w4_107 : (RX10, 69, yX11_within, RX11) ∈ NESTS := List.mem_of_getElem? (i := 13) rfl
theorem w4_108 : Cond.methodLink RX10 76 yX10_goAlong ∈ ALL := all_tbl (tb4 (List.mem_of_getElem? (i := 108) rfl)) rfl
theorem w4_110 : Cond.instanceMethod yX10_goAlong ∈ ALL := all_tbl (tb4 (List.mem_of_getElem? (i := 110) rfl)) rfl
theorem w4_111 : Cond.code yX10_goAlong cX10_goAlong 10 none ∈ ALL := all_tbl (tb4 (List.mem_of_getElem? (i := 111) rfl)) rfl
theorem w4_112 : Cond.methodLink RX10 80 yX10_nearest ∈ ALL := all_tbl (tb4 (List.mem_of_getElem? (i := 112) rfl)) rfl
theorem w4_114 : Cond.instanceMethod yX10_nearest ∈ ALL := all_tbl (tb4 (List.mem_of_getElem? (i := 114) rfl)) rfl
theorem w4_115 : Cond.code yX10_nearest cX10_nearest 6 (some .int) ∈ ALL := all_tbl (tb4 (List.mem_of_getElem? (i := 115) rfl)) rfl
theorem w4_116 : Cond.methodLink RX10 83 yX10_path ∈ ALL := all_tbl (tb4 (List.mem_of_getElem? (i := 116) rfl)) rfl
theorem w4_118 : Cond.instanceMethod yX10_path ∈ ALL := all_tbl (tb4 (List.mem_of_getElem? (i := 118) rfl)) rfl
theorem w4_119 : Cond.code yX10_path cX10_path 6 (some .int) ∈ ALL := all_tbl (tb4 (List.mem_of_getElem? (i := 119) rfl)) rfl
theorem w4_120 : Cond.constant RX11 209 (nI 1000000) ∈ ALL := all_tbl (tb4 (List.mem_of_getElem? (i := 120) rfl)) rfl
theorem w4_121 : Cond.methodLink RX11 213 yX0_set ∈ ALL := all_tbl (tb4 (List.mem_of_getElem? (i := 121) rfl)) rfl
theorem w4_122 : Cond.methodLink RX11 217 yX2_set ∈ ALL := all_tbl (tb4 (List.mem_of_getElem? (i := 122) rfl)) rfl
theorem w4_123 : Cond.instanceMethod yX2_set ∈ ALL := all_tbl (tb4 (List.mem_of_getElem? (i := 123) rfl)) rfl
theorem w4_124 : Cond.selects RX2 yX2_set yX2_set ∈ ALL := all_tbl (tb4 (List.mem_of_getElem? (i := 124) rfl)) rfl
theorem w4_125 : Cond.code yX2_set cX2_set 3 none ∈ ALL := all_tbl (tb4 (List.mem_of_getElem? (i := 125) rfl)) rfl
theorem w4_126 : Cond.methodLink RX2 23 yX0_copy ∈ ALL := all_tbl (tb4 (List.mem_of_getElem? (i := 126) rfl)) rfl
theorem w4_127 : Cond.instanceMethod yX0_copy ∈ ALL := all_tbl (tb4 (List.mem_of_getElem? (i := 127) rfl)) rfl
theorem w4_128 : Cond.selects RX0 yX0_copy yX0_copy ∈ ALL := all_tbl (tb4 (List.mem_of_getElem? (i := 128) rfl)) rfl
theorem w4_129 : Cond.code yX0_copy cX0_copy 2 none ∈ ALL := all_tbl (tb4 (List.mem_of_getElem? (i := 129) rfl)) rfl
theorem w4_130 : Cond.methodLink RX0 22 Lib.Math.max.name ∈ ALL := all_tbl (tb4 (List.mem_of_getElem? (i := 130) rfl)) rfl
theorem w4_131 : Cond.static Lib.Math.max.name ∈ ALL := all_tbl (tb4 (List.mem_of_getElem? (i := 131) rfl)) rfl
theorem w4_132 : Cond.code Lib.Math.max.name Lib.Math.max.code 2 (some .int) ∈ ALL := all_tbl (tb4 (List.mem_of_getElem? (i := 132) rfl)) rfl
theorem w4_133 : Cond.methodLink RX0 28 arraycopyName ∈ ALL := all_tbl (tb4 (List.mem_of_getElem? (i := 133) rfl)) rfl
theorem w4_134 : Cond.methodLink RX2 31 yX2_reduce ∈ ALL := all_tbl (tb4 (List.mem_of_getElem? (i := 134) rfl)) rfl
theorem w4_136 : Cond.instanceMethod yX2_reduce ∈ ALL := all_tbl (tb4 (List.mem_of_getElem? (i := 136) rfl)) rfl
theorem w4_137 : Cond.code yX2_reduce cX2_reduce 4 none ∈ ALL := all_tbl (tb4 (List.mem_of_getElem? (i := 137) rfl)) rfl
theorem w4_138 : Cond.methodLink RX2 35 yX0_rest ∈ ALL := all_tbl (tb4 (List.mem_of_getElem? (i := 138) rfl)) rfl
theorem w4_139 : Cond.instanceMethod yX0_rest ∈ ALL := all_tbl (tb4 (List.mem_of_getElem? (i := 139) rfl)) rfl
theorem w4_140 : Cond.selects RX0 yX0_rest yX0_rest ∈ ALL := all_tbl (tb4 (List.mem_of_getElem? (i := 140) rfl)) rfl
theorem w4_141 : Cond.code yX0_rest cX0_rest 5 (some .int) ∈ ALL := all_tbl (tb4 (List.mem_of_getElem? (i := 141) rfl)) rfl
theorem w4_142 : Cond.methodLink RX2 39 yX0_divide ∈ ALL := all_tbl (tb4 (List.mem_of_getElem? (i := 142) rfl)) rfl
theorem w4_143 : Cond.instanceMethod yX0_divide ∈ ALL := all_tbl (tb4 (List.mem_of_getElem? (i := 143) rfl)) rfl
theorem w4_144 : Cond.selects RX0 yX0_divide yX0_divide ∈ ALL := all_tbl (tb4 (List.mem_of_getElem? (i := 144) rfl)) rfl
theorem w4_145 : Cond.code yX0_divide cX0_divide 5 none ∈ ALL := all_tbl (tb4 (List.mem_of_getElem? (i := 145) rfl)) rfl
theorem w4_146 : Cond.methodLink RX2 42 yX0_times ∈ ALL := all_tbl (tb4 (List.mem_of_getElem? (i := 146) rfl)) rfl
theorem w4_147 : Cond.instanceMethod yX0_times ∈ ALL := all_tbl (tb4 (List.mem_of_getElem? (i := 147) rfl)) rfl
theorem w4_148 : Cond.selects RX0 yX0_times yX0_times ∈ ALL := all_tbl (tb4 (List.mem_of_getElem? (i := 148) rfl)) rfl
theorem w4_149 : Cond.code yX0_times cX0_times 5 none ∈ ALL := all_tbl (tb4 (List.mem_of_getElem? (i := 149) rfl)) rfl
theorem w4_150 : Cond.constantLong RX0 34 (lN 1073741823) ∈ ALL := all_tbl (tb4 (List.mem_of_getElem? (i := 150) rfl)) rfl
theorem w4_154 : Cond.code yX11_length cX11_length 3 (some .int) ∈ ALL := all_tbl (tb4 (List.mem_of_getElem? (i := 154) rfl)) rfl
theorem w4_155 : Cond.methodLink RX11 232 yX5_begin ∈ ALL := all_tbl (tb4 (List.mem_of_getElem? (i := 155) rfl)) rfl
theorem w4_156 : Cond.instanceMethod yX5_begin ∈ ALL := all_tbl (tb4 (List.mem_of_getElem? (i := 156) rfl)) rfl
theorem w4_157 : Cond.selects RX5 yX5_begin yX5_begin ∈ ALL := all_tbl (tb4 (List.mem_of_getElem? (i := 157) rfl)) rfl
theorem w4_158 : Cond.code yX5_begin cX5_begin 3 none ∈ ALL := all_tbl (tb4 (List.mem_of_getElem? (i := 158) rfl)) rfl
theorem w4_159 : Cond.methodLink RX5 51 yX0_set ∈ ALL := all_tbl (tb4 (List.mem_of_getElem? (i := 159) rfl)) rfl
theorem w4_160 : Cond.constant RX5 55 (nI 1000000) ∈ ALL := all_tbl (tb4 (List.mem_of_getElem? (i := 160) rfl)) rfl
theorem w4_161 : Cond.methodLink RX5 56 yX0_times ∈ ALL := all_tbl (tb4 (List.mem_of_getElem? (i := 161) rfl)) rfl
theorem w4_162 : Cond.methodLink RX5 59 yX0_addTimes ∈ ALL := all_tbl (tb4 (List.mem_of_getElem? (i := 162) rfl)) rfl
theorem w4_163 : Cond.instanceMethod yX0_addTimes ∈ ALL := all_tbl (tb4 (List.mem_of_getElem? (i := 163) rfl)) rfl
theorem w4_164 : Cond.selects RX0 yX0_addTimes yX0_addTimes ∈ ALL := all_tbl (tb4 (List.mem_of_getElem? (i := 164) rfl)) rfl
theorem w4_165 : Cond.code yX0_addTimes cX0_addTimes 7 none ∈ ALL := all_tbl (tb4 (List.mem_of_getElem? (i := 165) rfl)) rfl
theorem w4_166 : Cond.methodLink RX11 235 yX5_ofLength ∈ ALL := all_tbl (tb4 (List.mem_of_getElem? (i := 166) rfl)) rfl
theorem w4_167 : Cond.instanceMethod yX5_ofLength ∈ ALL := all_tbl (tb4 (List.mem_of_getElem? (i := 167) rfl)) rfl
theorem w4_168 : Cond.selects RX5 yX5_ofLength yX5_ofLength ∈ ALL := all_tbl (tb4 (List.mem_of_getElem? (i := 168) rfl)) rfl
theorem w4_169 : Cond.code yX5_ofLength cX5_ofLength 3 none ∈ ALL := all_tbl (tb4 (List.mem_of_getElem? (i := 169) rfl)) rfl
theorem w4_170 : Cond.methodLink RX5 74 yX5_ofRiddles ∈ ALL := all_tbl (tb4 (List.mem_of_getElem? (i := 170) rfl)) rfl
theorem w4_171 : Cond.instanceMethod yX5_ofRiddles ∈ ALL := all_tbl (tb4 (List.mem_of_getElem? (i := 171) rfl)) rfl
theorem w4_172 : Cond.selects RX5 yX5_ofRiddles yX5_ofRiddles ∈ ALL := all_tbl (tb4 (List.mem_of_getElem? (i := 172) rfl)) rfl
theorem w4_173 : Cond.code yX5_ofRiddles cX5_ofRiddles 4 none ∈ ALL := all_tbl (tb4 (List.mem_of_getElem? (i := 173) rfl)) rfl
theorem w4_174 : Cond.methodLink RX5 71 yX5_ofRiddle ∈ ALL := all_tbl (tb4 (List.mem_of_getElem? (i := 174) rfl)) rfl
theorem w4_175 : Cond.instanceMethod yX5_ofRiddle ∈ ALL := all_tbl (tb4 (List.mem_of_getElem? (i := 175) rfl)) rfl
theorem w4_176 : Cond.selects RX5 yX5_ofRiddle yX5_ofRiddle ∈ ALL := all_tbl (tb4 (List.mem_of_getElem? (i := 176) rfl)) rfl
theorem w4_177 : Cond.code yX5_ofRiddle cX5_ofRiddle 4 none ∈ ALL := all_tbl (tb4 (List.mem_of_getElem? (i := 177) rfl)) rfl
theorem w4_181 : Cond.code yX11_ends cX11_ends 4 (some .int) ∈ ALL := all_tbl (tb4 (List.mem_of_getElem? (i := 181) rfl)) rfl
theorem w4_182 : Cond.methodLink RX11 242 yX8_ofHunt ∈ ALL := all_tbl (tb4 (List.mem_of_getElem? (i := 182) rfl)) rfl
theorem w4_183 : Cond.instanceMethod yX8_ofHunt ∈ ALL := all_tbl (tb4 (List.mem_of_getElem? (i := 183) rfl)) rfl
theorem w4_184 : Cond.selects RX8 yX8_ofHunt yX8_ofHunt ∈ ALL := all_tbl (tb4 (List.mem_of_getElem? (i := 184) rfl)) rfl
theorem w4_185 : Cond.code yX8_ofHunt cX8_ofHunt 5 none ∈ ALL := all_tbl (tb4 (List.mem_of_getElem? (i := 185) rfl)) rfl
theorem w4_186 : Cond.methodLink RX8 35 yX0_set ∈ ALL := all_tbl (tb4 (List.mem_of_getElem? (i := 186) rfl)) rfl
theorem w4_187 : Cond.methodLink RX8 48 yX8_addRiddle ∈ ALL := all_tbl (tb4 (List.mem_of_getElem? (i := 187) rfl)) rfl
theorem w4_189 : Cond.instanceMethod yX8_addRiddle ∈ ALL := all_tbl (tb4 (List.mem_of_getElem? (i := 189) rfl)) rfl
theorem w4_190 : Cond.code yX8_addRiddle cX8_addRiddle 5 none ∈ ALL := all_tbl (tb4 (List.mem_of_getElem? (i := 190) rfl)) rfl
theorem w4_191 : Cond.methodLink RX8 52 yX8_weigh ∈ ALL := all_tbl (tb4 (List.mem_of_getElem? (i := 191) rfl)) rfl
theorem w4_193 : Cond.instanceMethod yX8_weigh ∈ ALL := all_tbl (tb4 (List.mem_of_getElem? (i := 193) rfl)) rfl
theorem w4_194 : Cond.code yX8_weigh cX8_weigh 5 none ∈ ALL := all_tbl (tb4 (List.mem_of_getElem? (i := 194) rfl)) rfl
theorem w4_195 : Cond.methodLink RX8 59 yX0_copy ∈ ALL := all_tbl (tb4 (List.mem_of_getElem? (i := 195) rfl)) rfl
theorem w4_196 : Cond.constant RX8 63 (nI 1000000) ∈ ALL := all_tbl (tb4 (List.mem_of_getElem? (i := 196) rfl)) rfl
theorem w4_197 : Cond.methodLink RX8 64 yX0_times ∈ ALL := all_tbl (tb4 (List.mem_of_getElem? (i := 197) rfl)) rfl
theorem w4_198 : Cond.methodLink RX8 55 yX0_addProduct ∈ ALL := all_tbl (tb4 (List.mem_of_getElem? (i := 198) rfl)) rfl
theorem w4_199 : Cond.instanceMethod yX0_addProduct ∈ ALL := all_tbl (tb4 (List.mem_of_getElem? (i := 199) rfl)) rfl
theorem w4_200 : Cond.selects RX0 yX0_addProduct yX0_addProduct ∈ ALL := all_tbl (tb4 (List.mem_of_getElem? (i := 200) rfl)) rfl
theorem w4_201 : Cond.code yX0_addProduct cX0_addProduct 8 none ∈ ALL := all_tbl (tb4 (List.mem_of_getElem? (i := 201) rfl)) rfl
theorem w4_202 : Cond.methodLink RX11 246 yX8_gather ∈ ALL := all_tbl (tb4 (List.mem_of_getElem? (i := 202) rfl)) rfl
theorem w4_203 : Cond.instanceMethod yX8_gather ∈ ALL := all_tbl (tb4 (List.mem_of_getElem? (i := 203) rfl)) rfl
theorem w4_204 : Cond.selects RX8 yX8_gather yX8_gather ∈ ALL := all_tbl (tb4 (List.mem_of_getElem? (i := 204) rfl)) rfl
theorem w4_205 : Cond.code yX8_gather cX8_gather 5 none ∈ ALL := all_tbl (tb4 (List.mem_of_getElem? (i := 205) rfl)) rfl
theorem w4_206 : Cond.methodLink RX8 67 Lib.Math.max.name ∈ ALL := all_tbl (tb4 (List.mem_of_getElem? (i := 206) rfl)) rfl
theorem w4_207 : Cond.methodLink RX8 73 Lib.Math.min.name ∈ ALL := all_tbl (tb4 (List.mem_of_getElem? (i := 207) rfl)) rfl
theorem w4_208 : Cond.methodLink RX8 76 yX0_addTimes ∈ ALL := all_tbl (tb4 (List.mem_of_getElem? (i := 208) rfl)) rfl
theorem w4_212 : Cond.code yX11_guessed cX11_guessed 3 (some .int) ∈ ALL := all_tbl (tb4 (List.mem_of_getElem? (i := 212) rfl)) rfl
theorem w4_213 : Cond.methodLink RX11 257 yX5_ofGuessed ∈ ALL := all_tbl (tb4 (List.mem_of_getElem? (i := 213) rfl)) rfl
theorem w4_214 : Cond.instanceMethod yX5_ofGuessed ∈ ALL := all_tbl (tb4 (List.mem_of_getElem? (i := 214) rfl)) rfl
theorem w4_215 : Cond.selects RX5 yX5_ofGuessed yX5_ofGuessed ∈ ALL := all_tbl (tb4 (List.mem_of_getElem? (i := 215) rfl)) rfl
theorem w4_216 : Cond.code yX5_ofGuessed cX5_ofGuessed 5 none ∈ ALL := all_tbl (tb4 (List.mem_of_getElem? (i := 216) rfl)) rfl
theorem w4_217 : (RX5, 81, yX11_within, RX11) ∈ NESTS := List.mem_of_getElem? (i := 14) rfl
theorem w4_218 : Cond.methodLink RX5 93 yX4_weigh ∈ ALL := all_tbl (tb4 (List.mem_of_getElem? (i := 218) rfl)) rfl
theorem w4_222 : Cond.code yX11_fair cX11_fair 2 (some .int) ∈ ALL := all_tbl (tb4 (List.mem_of_getElem? (i := 222) rfl)) rfl
theorem w4_223 : Cond.methodLink RX11 261 yX5_ofUnfairness ∈ ALL := all_tbl (tb4 (List.mem_of_getElem? (i := 223) rfl)) rfl
theorem w4_224 : Cond.instanceMethod yX5_ofUnfairness ∈ ALL := all_tbl (tb4 (List.mem_of_getElem? (i := 224) rfl)) rfl
theorem w4_225 : Cond.selects RX5 yX5_ofUnfairness yX5_ofUnfairness ∈ ALL := all_tbl (tb4 (List.mem_of_getElem? (i := 225) rfl)) rfl
theorem w4_226 : Cond.code yX5_ofUnfairness cX5_ofUnfairness 5 none ∈ ALL := all_tbl (tb4 (List.mem_of_getElem? (i := 226) rfl)) rfl
theorem w4_227 : Cond.methodLink RX5 108 yX5_ofGuessed ∈ ALL := all_tbl (tb4 (List.mem_of_getElem? (i := 227) rfl)) rfl
theorem w4_228 : Cond.methodLink RX5 112 yX0_compare ∈ ALL := all_tbl (tb4 (List.mem_of_getElem? (i := 228) rfl)) rfl
theorem w4_229 : Cond.instanceMethod yX0_compare ∈ ALL := all_tbl (tb4 (List.mem_of_getElem? (i := 229) rfl)) rfl
theorem w4_230 : Cond.selects RX0 yX0_compare yX0_compare ∈ ALL := all_tbl (tb4 (List.mem_of_getElem? (i := 230) rfl)) rfl
theorem w4_231 : Cond.code yX0_compare cX0_compare 3 (some .int) ∈ ALL := all_tbl (tb4 (List.mem_of_getElem? (i := 231) rfl)) rfl
theorem w4_232 : Cond.methodLink RX5 116 yX0_copy ∈ ALL := all_tbl (tb4 (List.mem_of_getElem? (i := 232) rfl)) rfl
theorem w4_233 : Cond.methodLink RX5 120 yX0_setDifference ∈ ALL := all_tbl (tb4 (List.mem_of_getElem? (i := 233) rfl)) rfl
theorem w4_234 : Cond.instanceMethod yX0_setDifference ∈ ALL := all_tbl (tb4 (List.mem_of_getElem? (i := 234) rfl)) rfl
theorem w4_235 : Cond.selects RX0 yX0_setDifference yX0_setDifference ∈ ALL := all_tbl (tb4 (List.mem_of_getElem? (i := 235) rfl)) rfl
theorem w4_236 : Cond.code yX0_setDifference cX0_setDifference 10 none ∈ ALL := all_tbl (tb4 (List.mem_of_getElem? (i := 236) rfl)) rfl
theorem w4_237 : Cond.methodLink RX0 36 yX0_compare ∈ ALL := all_tbl (tb4 (List.mem_of_getElem? (i := 237) rfl)) rfl
theorem w5_1 : Cond.code yX11_order cX11_order 3 (some .int) ∈ ALL := all_tbl (tb5 (List.mem_of_getElem? (i := 1) rfl)) rfl
theorem w5_2 : Cond.methodLink RX11 267 yX7_findNearest ∈ ALL := all_tbl (tb5 (List.mem_of_getElem? (i := 2) rfl)) rfl
theorem w5_3 : Cond.instanceMethod yX7_findNearest ∈ ALL := all_tbl (tb5 (List.mem_of_getElem? (i := 3) rfl)) rfl
theorem w5_4 : Cond.selects RX7 yX7_findNearest yX7_findNearest ∈ ALL := all_tbl (tb5 (List.mem_of_getElem? (i := 4) rfl)) rfl
theorem w5_5 : Cond.code yX7_findNearest cX7_findNearest 5 (some .boolean) ∈ ALL := all_tbl (tb5 (List.mem_of_getElem? (i := 5) rfl)) rfl
theorem w5_6 : Cond.methodLink RX7 38 yX4_sortSlips ∈ ALL := all_tbl (tb5 (List.mem_of_getElem? (i := 6) rfl)) rfl
theorem w5_7 : Cond.instanceMethod yX4_sortSlips ∈ ALL := all_tbl (tb5 (List.mem_of_getElem? (i := 7) rfl)) rfl
theorem w5_8 : Cond.selects RX4 yX4_sortSlips yX4_sortSlips ∈ ALL := all_tbl (tb5 (List.mem_of_getElem? (i := 8) rfl)) rfl
theorem w5_9 : Cond.code yX4_sortSlips cX4_sortSlips 3 none ∈ ALL := all_tbl (tb5 (List.mem_of_getElem? (i := 9) rfl)) rfl
theorem w5_10 : Cond.methodLink RX4 101 yX4_exchange ∈ ALL := all_tbl (tb5 (List.mem_of_getElem? (i := 10) rfl)) rfl
theorem w5_12 : Cond.instanceMethod yX4_exchange ∈ ALL := all_tbl (tb5 (List.mem_of_getElem? (i := 12) rfl)) rfl
theorem w5_13 : Cond.code yX4_exchange cX4_exchange 4 none ∈ ALL := all_tbl (tb5 (List.mem_of_getElem? (i := 13) rfl)) rfl
theorem w5_14 : Cond.methodLink RX7 43 yX4_lay ∈ ALL := all_tbl (tb5 (List.mem_of_getElem? (i := 14) rfl)) rfl
theorem w5_15 : Cond.methodLink RX7 50 yX5_ofRiddles ∈ ALL := all_tbl (tb5 (List.mem_of_getElem? (i := 15) rfl)) rfl
theorem w5_16 : Cond.methodLink RX7 56 yX0_copy ∈ ALL := all_tbl (tb5 (List.mem_of_getElem? (i := 16) rfl)) rfl
theorem w5_17 : Cond.methodLink RX7 67 yX0_addTimes ∈ ALL := all_tbl (tb5 (List.mem_of_getElem? (i := 17) rfl)) rfl
theorem w5_18 : Cond.methodLink RX7 74 yX0_setDifference ∈ ALL := all_tbl (tb5 (List.mem_of_getElem? (i := 18) rfl)) rfl
theorem w5_19 : Cond.methodLink RX7 78 yX0_compare ∈ ALL := all_tbl (tb5 (List.mem_of_getElem? (i := 19) rfl)) rfl
theorem w5_20 : Cond.methodLink RX7 82 yX7_keep ∈ ALL := all_tbl (tb5 (List.mem_of_getElem? (i := 20) rfl)) rfl
theorem w5_22 : Cond.instanceMethod yX7_keep ∈ ALL := all_tbl (tb5 (List.mem_of_getElem? (i := 22) rfl)) rfl
theorem w5_23 : Cond.code yX7_keep cX7_keep 3 none ∈ ALL := all_tbl (tb5 (List.mem_of_getElem? (i := 23) rfl)) rfl
theorem w5_24 : Cond.methodLink RX7 86 yX4_nextOrder ∈ ALL := all_tbl (tb5 (List.mem_of_getElem? (i := 24) rfl)) rfl
theorem w5_25 : Cond.instanceMethod yX4_nextOrder ∈ ALL := all_tbl (tb5 (List.mem_of_getElem? (i := 25) rfl)) rfl
theorem w5_26 : Cond.selects RX4 yX4_nextOrder yX4_nextOrder ∈ ALL := all_tbl (tb5 (List.mem_of_getElem? (i := 26) rfl)) rfl
theorem w5_27 : Cond.code yX4_nextOrder cX4_nextOrder 5 (some .boolean) ∈ ALL := all_tbl (tb5 (List.mem_of_getElem? (i := 27) rfl)) rfl
theorem w5_31 : Cond.code yX11_kinds cX11_kinds 3 (some .int) ∈ ALL := all_tbl (tb5 (List.mem_of_getElem? (i := 31) rfl)) rfl
theorem w5_32 : Cond.methodLink RX11 277 yX1_find ∈ ALL := all_tbl (tb5 (List.mem_of_getElem? (i := 32) rfl)) rfl
theorem w5_33 : Cond.instanceMethod yX1_find ∈ ALL := all_tbl (tb5 (List.mem_of_getElem? (i := 33) rfl)) rfl
theorem w5_34 : Cond.selects RX1 yX1_find yX1_find ∈ ALL := all_tbl (tb5 (List.mem_of_getElem? (i := 34) rfl)) rfl
theorem w5_35 : Cond.code yX1_find cX1_find 5 none ∈ ALL := all_tbl (tb5 (List.mem_of_getElem? (i := 35) rfl)) rfl
theorem w5_36 : Cond.methodLink RX1 55 yX1_prepare ∈ ALL := all_tbl (tb5 (List.mem_of_getElem? (i := 36) rfl)) rfl
theorem w5_38 : Cond.instanceMethod yX1_prepare ∈ ALL := all_tbl (tb5 (List.mem_of_getElem? (i := 38) rfl)) rfl
theorem w5_39 : Cond.code yX1_prepare cX1_prepare 6 none ∈ ALL := all_tbl (tb5 (List.mem_of_getElem? (i := 39) rfl)) rfl
theorem w5_40 : Cond.methodLink RX1 77 yX4_weigh ∈ ALL := all_tbl (tb5 (List.mem_of_getElem? (i := 40) rfl)) rfl
theorem w5_41 : Cond.methodLink RX1 81 yX5_ofRiddle ∈ ALL := all_tbl (tb5 (List.mem_of_getElem? (i := 41) rfl)) rfl
theorem w5_42 : Cond.methodLink RX1 88 yX0_set ∈ ALL := all_tbl (tb5 (List.mem_of_getElem? (i := 42) rfl)) rfl
theorem w5_43 : Cond.methodLink RX1 97 yX0_addTimes ∈ ALL := all_tbl (tb5 (List.mem_of_getElem? (i := 43) rfl)) rfl
theorem w5_44 : Cond.methodLink RX1 65 yX1_addPlace ∈ ALL := all_tbl (tb5 (List.mem_of_getElem? (i := 44) rfl)) rfl
theorem w5_46 : Cond.instanceMethod yX1_addPlace ∈ ALL := all_tbl (tb5 (List.mem_of_getElem? (i := 46) rfl)) rfl
theorem w5_47 : Cond.code yX1_addPlace cX1_addPlace 5 none ∈ ALL := all_tbl (tb5 (List.mem_of_getElem? (i := 47) rfl)) rfl
theorem w5_48 : Cond.methodLink RX1 100 yX0_copy ∈ ALL := all_tbl (tb5 (List.mem_of_getElem? (i := 48) rfl)) rfl
theorem w5_49 : Cond.methodLink RX1 69 yX1_judge ∈ ALL := all_tbl (tb5 (List.mem_of_getElem? (i := 49) rfl)) rfl
theorem w5_51 : Cond.instanceMethod yX1_judge ∈ ALL := all_tbl (tb5 (List.mem_of_getElem? (i := 51) rfl)) rfl
theorem w5_52 : Cond.code yX1_judge cX1_judge 6 none ∈ ALL := all_tbl (tb5 (List.mem_of_getElem? (i := 52) rfl)) rfl
theorem w5_53 : Cond.methodLink RX1 109 yX1_leastGuessed ∈ ALL := all_tbl (tb5 (List.mem_of_getElem? (i := 53) rfl)) rfl
theorem w5_55 : Cond.instanceMethod yX1_leastGuessed ∈ ALL := all_tbl (tb5 (List.mem_of_getElem? (i := 55) rfl)) rfl
theorem w5_56 : Cond.code yX1_leastGuessed cX1_leastGuessed 6 (some (.object RX0)) ∈ ALL := all_tbl (tb5 (List.mem_of_getElem? (i := 56) rfl)) rfl
theorem w5_57 : Cond.methodLink RX1 113 yX0_compare ∈ ALL := all_tbl (tb5 (List.mem_of_getElem? (i := 57) rfl)) rfl
theorem w5_58 : Cond.methodLink RX1 120 yX0_setDifference ∈ ALL := all_tbl (tb5 (List.mem_of_getElem? (i := 58) rfl)) rfl
theorem w5_59 : Cond.methodLink RX1 73 yX1_nextChoice ∈ ALL := all_tbl (tb5 (List.mem_of_getElem? (i := 59) rfl)) rfl
theorem w5_61 : Cond.instanceMethod yX1_nextChoice ∈ ALL := all_tbl (tb5 (List.mem_of_getElem? (i := 61) rfl)) rfl
theorem w5_62 : Cond.code yX1_nextChoice cX1_nextChoice 3 (some .int) ∈ ALL := all_tbl (tb5 (List.mem_of_getElem? (i := 62) rfl)) rfl
theorem w5_66 : Cond.code yX11_meet cX11_meet 1 (some .int) ∈ ALL := all_tbl (tb5 (List.mem_of_getElem? (i := 66) rfl)) rfl
theorem w5_67 : Cond.methodLink RX11 285 yX4_meetings ∈ ALL := all_tbl (tb5 (List.mem_of_getElem? (i := 67) rfl)) rfl
theorem w5_68 : Cond.instanceMethod yX4_meetings ∈ ALL := all_tbl (tb5 (List.mem_of_getElem? (i := 68) rfl)) rfl
theorem w5_69 : Cond.selects RX4 yX4_meetings yX4_meetings ∈ ALL := all_tbl (tb5 (List.mem_of_getElem? (i := 69) rfl)) rfl
theorem w5_70 : Cond.code yX4_meetings cX4_meetings 5 (some .int) ∈ ALL := all_tbl (tb5 (List.mem_of_getElem? (i := 70) rfl)) rfl
theorem w5_74 : Cond.code yX11_apart cX11_apart 2 (some .int) ∈ ALL := all_tbl (tb5 (List.mem_of_getElem? (i := 74) rfl)) rfl
theorem w5_75 : Cond.methodLink RX11 289 yX7_findApart ∈ ALL := all_tbl (tb5 (List.mem_of_getElem? (i := 75) rfl)) rfl
theorem w5_76 : Cond.instanceMethod yX7_findApart ∈ ALL := all_tbl (tb5 (List.mem_of_getElem? (i := 76) rfl)) rfl
theorem w5_77 : Cond.selects RX7 yX7_findApart yX7_findApart ∈ ALL := all_tbl (tb5 (List.mem_of_getElem? (i := 77) rfl)) rfl
theorem w5_78 : Cond.code yX7_findApart cX7_findApart 6 none ∈ ALL := all_tbl (tb5 (List.mem_of_getElem? (i := 78) rfl)) rfl
theorem w5_79 : Cond.methodLink RX7 92 yX4_meetings ∈ ALL := all_tbl (tb5 (List.mem_of_getElem? (i := 79) rfl)) rfl
theorem w5_83 : Cond.code yX11_sooner cX11_sooner 4 (some .int) ∈ ALL := all_tbl (tb5 (List.mem_of_getElem? (i := 83) rfl)) rfl
theorem w5_84 : Cond.methodLink RX11 296 yX0_compare ∈ ALL := all_tbl (tb5 (List.mem_of_getElem? (i := 84) rfl)) rfl
theorem w5_85 : Cond.methodLink RX11 300 yX0_copy ∈ ALL := all_tbl (tb5 (List.mem_of_getElem? (i := 85) rfl)) rfl
theorem w5_89 : Cond.code yX11_hangs cX11_hangs 4 (some .int) ∈ ALL := all_tbl (tb5 (List.mem_of_getElem? (i := 89) rfl)) rfl
theorem w5_90 : Cond.methodLink RX11 306 yX3_isSpareAt ∈ ALL := all_tbl (tb5 (List.mem_of_getElem? (i := 90) rfl)) rfl
theorem w5_91 : Cond.instanceMethod yX3_isSpareAt ∈ ALL := all_tbl (tb5 (List.mem_of_getElem? (i := 91) rfl)) rfl
theorem w5_92 : Cond.selects RX3 yX3_isSpareAt yX3_isSpareAt ∈ ALL := all_tbl (tb5 (List.mem_of_getElem? (i := 92) rfl)) rfl
theorem w5_93 : Cond.code yX3_isSpareAt cX3_isSpareAt 3 (some .boolean) ∈ ALL := all_tbl (tb5 (List.mem_of_getElem? (i := 93) rfl)) rfl
theorem w5_97 : Cond.code yX11_bears cX11_bears 8 (some .int) ∈ ALL := all_tbl (tb5 (List.mem_of_getElem? (i := 97) rfl)) rfl
theorem w5_101 : Cond.code yX11_soon cX11_soon 6 (some .int) ∈ ALL := all_tbl (tb5 (List.mem_of_getElem? (i := 101) rfl)) rfl
theorem w5_102 : Cond.methodLink RX11 312 yX10_passed ∈ ALL := all_tbl (tb5 (List.mem_of_getElem? (i := 102) rfl)) rfl
theorem w5_103 : Cond.instanceMethod yX10_passed ∈ ALL := all_tbl (tb5 (List.mem_of_getElem? (i := 103) rfl)) rfl
theorem w5_104 : Cond.selects RX10 yX10_passed yX10_passed ∈ ALL := all_tbl (tb5 (List.mem_of_getElem? (i := 104) rfl)) rfl
theorem w5_105 : Cond.code yX10_passed cX10_passed 5 (some .int) ∈ ALL := all_tbl (tb5 (List.mem_of_getElem? (i := 105) rfl)) rfl
theorem w5_106 : Cond.methodLink RX11 315 yX3_seenFromAny ∈ ALL := all_tbl (tb5 (List.mem_of_getElem? (i := 106) rfl)) rfl
theorem w5_107 : Cond.instanceMethod yX3_seenFromAny ∈ ALL := all_tbl (tb5 (List.mem_of_getElem? (i := 107) rfl)) rfl
theorem w5_108 : Cond.selects RX3 yX3_seenFromAny yX3_seenFromAny ∈ ALL := all_tbl (tb5 (List.mem_of_getElem? (i := 108) rfl)) rfl
theorem w5_109 : Cond.code yX3_seenFromAny cX3_seenFromAny 4 (some .int) ∈ ALL := all_tbl (tb5 (List.mem_of_getElem? (i := 109) rfl)) rfl
theorem w5_113 : Cond.code yX11_report cX11_report 3 (some .int) ∈ ALL := all_tbl (tb5 (List.mem_of_getElem? (i := 113) rfl)) rfl
theorem w5_114 : Cond.methodLink RX11 318 yX6_addReport ∈ ALL := all_tbl (tb5 (List.mem_of_getElem? (i := 114) rfl)) rfl
theorem w5_115 : Cond.instanceMethod yX6_addReport ∈ ALL := all_tbl (tb5 (List.mem_of_getElem? (i := 115) rfl)) rfl
theorem w5_116 : Cond.selects RX6 yX6_addReport yX6_addReport ∈ ALL := all_tbl (tb5 (List.mem_of_getElem? (i := 116) rfl)) rfl
theorem w5_117 : Cond.code yX6_addReport cX6_addReport 3 (some .int) ∈ ALL := all_tbl (tb5 (List.mem_of_getElem? (i := 117) rfl)) rfl
theorem w5_121 : Cond.code yX11_hard cX11_hard 9 (some .int) ∈ ALL := all_tbl (tb5 (List.mem_of_getElem? (i := 121) rfl)) rfl
theorem w5_122 : Cond.methodLink RX11 330 Lib.Math.min.name ∈ ALL := all_tbl (tb5 (List.mem_of_getElem? (i := 122) rfl)) rfl
theorem w5_123 : Cond.methodLink RX11 335 Lib.Math.max.name ∈ ALL := all_tbl (tb5 (List.mem_of_getElem? (i := 123) rfl)) rfl
theorem w5_124 : Cond.methodLink RX11 338 yX2_setRatio ∈ ALL := all_tbl (tb5 (List.mem_of_getElem? (i := 124) rfl)) rfl
theorem w5_125 : Cond.instanceMethod yX2_setRatio ∈ ALL := all_tbl (tb5 (List.mem_of_getElem? (i := 125) rfl)) rfl
theorem w5_126 : Cond.selects RX2 yX2_setRatio yX2_setRatio ∈ ALL := all_tbl (tb5 (List.mem_of_getElem? (i := 126) rfl)) rfl
theorem w5_127 : Cond.code yX2_setRatio cX2_setRatio 5 none ∈ ALL := all_tbl (tb5 (List.mem_of_getElem? (i := 127) rfl)) rfl
theorem w5_131 : Cond.code yX11_sign cX11_sign 2 (some .int) ∈ ALL := all_tbl (tb5 (List.mem_of_getElem? (i := 131) rfl)) rfl
theorem w5_132 : Cond.methodLink RX11 342 yX2_signOrSize ∈ ALL := all_tbl (tb5 (List.mem_of_getElem? (i := 132) rfl)) rfl
theorem w5_133 : Cond.instanceMethod yX2_signOrSize ∈ ALL := all_tbl (tb5 (List.mem_of_getElem? (i := 133) rfl)) rfl
theorem w5_134 : Cond.selects RX2 yX2_signOrSize yX2_signOrSize ∈ ALL := all_tbl (tb5 (List.mem_of_getElem? (i := 134) rfl)) rfl
theorem w5_135 : Cond.code yX2_signOrSize cX2_signOrSize 2 (some .int) ∈ ALL := all_tbl (tb5 (List.mem_of_getElem? (i := 135) rfl)) rfl
theorem w5_139 : Cond.code yX11_limb cX11_limb 4 (some .int) ∈ ALL := all_tbl (tb5 (List.mem_of_getElem? (i := 139) rfl)) rfl
theorem w5_143 : Cond.code yX11_image cX11_image 2 (some .int) ∈ ALL := all_tbl (tb5 (List.mem_of_getElem? (i := 143) rfl)) rfl
theorem w5_144 : Cond.methodLink RX11 357 yX6_copy ∈ ALL := all_tbl (tb5 (List.mem_of_getElem? (i := 144) rfl)) rfl
theorem w5_145 : Cond.instanceMethod yX6_copy ∈ ALL := all_tbl (tb5 (List.mem_of_getElem? (i := 145) rfl)) rfl
theorem w5_146 : Cond.selects RX6 yX6_copy yX6_copy ∈ ALL := all_tbl (tb5 (List.mem_of_getElem? (i := 146) rfl)) rfl
theorem w5_147 : Cond.code yX6_copy cX6_copy 2 none ∈ ALL := all_tbl (tb5 (List.mem_of_getElem? (i := 147) rfl)) rfl
theorem w5_148 : Cond.methodLink RX6 25 arraycopyName ∈ ALL := all_tbl (tb5 (List.mem_of_getElem? (i := 148) rfl)) rfl
theorem w5_152 : Cond.code yX11_from cX11_from 2 (some .int) ∈ ALL := all_tbl (tb5 (List.mem_of_getElem? (i := 152) rfl)) rfl
theorem w5_156 : Cond.code yX11_status cX11_status 2 (some .int) ∈ ALL := all_tbl (tb5 (List.mem_of_getElem? (i := 156) rfl)) rfl
theorem w5_160 : Cond.code yX11_count cX11_count 2 (some .int) ∈ ALL := all_tbl (tb5 (List.mem_of_getElem? (i := 160) rfl)) rfl
theorem w5_161 : Cond.methodLink RX11 360 yX11_howMany ∈ ALL := all_tbl (tb5 (List.mem_of_getElem? (i := 161) rfl)) rfl
theorem w5_163 : Cond.instanceMethod yX11_howMany ∈ ALL := all_tbl (tb5 (List.mem_of_getElem? (i := 163) rfl)) rfl
theorem w5_164 : Cond.code yX11_howMany cX11_howMany 2 (some .int) ∈ ALL := all_tbl (tb5 (List.mem_of_getElem? (i := 164) rfl)) rfl
theorem w5_168 : Cond.code yX11_digest cX11_digest 4 (some .long) ∈ ALL := all_tbl (tb5 (List.mem_of_getElem? (i := 168) rfl)) rfl
theorem w5_169 : Cond.constantLong RX11 363 (lN 577) ∈ ALL := all_tbl (tb5 (List.mem_of_getElem? (i := 169) rfl)) rfl
theorem w5_170 : Cond.constantLong RX11 365 (lN 31) ∈ ALL := all_tbl (tb5 (List.mem_of_getElem? (i := 170) rfl)) rfl
theorem w5_171 : Cond.methodLink RX11 367 yX3_digestOnto ∈ ALL := all_tbl (tb5 (List.mem_of_getElem? (i := 171) rfl)) rfl
theorem w5_172 : Cond.instanceMethod yX3_digestOnto ∈ ALL := all_tbl (tb5 (List.mem_of_getElem? (i := 172) rfl)) rfl
theorem w5_173 : Cond.selects RX3 yX3_digestOnto yX3_digestOnto ∈ ALL := all_tbl (tb5 (List.mem_of_getElem? (i := 173) rfl)) rfl
theorem w5_174 : Cond.code yX3_digestOnto cX3_digestOnto 7 (some .long) ∈ ALL := all_tbl (tb5 (List.mem_of_getElem? (i := 174) rfl)) rfl
theorem w5_175 : Cond.constantLong RX3 94 (lN 31) ∈ ALL := all_tbl (tb5 (List.mem_of_getElem? (i := 175) rfl)) rfl
theorem w5_176 : Cond.methodLink RX11 371 yX6_digestOnto ∈ ALL := all_tbl (tb5 (List.mem_of_getElem? (i := 176) rfl)) rfl
theorem w5_177 : Cond.instanceMethod yX6_digestOnto ∈ ALL := all_tbl (tb5 (List.mem_of_getElem? (i := 177) rfl)) rfl
theorem w5_178 : Cond.selects RX6 yX6_digestOnto yX6_digestOnto ∈ ALL := all_tbl (tb5 (List.mem_of_getElem? (i := 178) rfl)) rfl
theorem w5_179 : Cond.code yX6_digestOnto cX6_digestOnto 6 (some .long) ∈ ALL := all_tbl (tb5 (List.mem_of_getElem? (i := 179) rfl)) rfl
theorem w5_180 : Cond.constantLong RX6 41 (lN 31) ∈ ALL := all_tbl (tb5 (List.mem_of_getElem? (i := 180) rfl)) rfl
theorem w5_181 : Cond.methodLink RX11 372 yX2_digestOnto ∈ ALL := all_tbl (tb5 (List.mem_of_getElem? (i := 181) rfl)) rfl
theorem w5_182 : Cond.instanceMethod yX2_digestOnto ∈ ALL := all_tbl (tb5 (List.mem_of_getElem? (i := 182) rfl)) rfl
theorem w5_183 : Cond.selects RX2 yX2_digestOnto yX2_digestOnto ∈ ALL := all_tbl (tb5 (List.mem_of_getElem? (i := 183) rfl)) rfl
theorem w5_184 : Cond.code yX2_digestOnto cX2_digestOnto 6 (some .long) ∈ ALL := all_tbl (tb5 (List.mem_of_getElem? (i := 184) rfl)) rfl
theorem w5_185 : Cond.constantLong RX2 45 (lN 31) ∈ ALL := all_tbl (tb5 (List.mem_of_getElem? (i := 185) rfl)) rfl
theorem w5_186 : Cond.methodLink RX2 47 yX2_signOrSize ∈ ALL := all_tbl (tb5 (List.mem_of_getElem? (i := 186) rfl)) rfl
theorem w5_187 : Cond.methodLink RX2 50 yX0_digestOnto ∈ ALL := all_tbl (tb5 (List.mem_of_getElem? (i := 187) rfl)) rfl
theorem w5_188 : Cond.instanceMethod yX0_digestOnto ∈ ALL := all_tbl (tb5 (List.mem_of_getElem? (i := 188) rfl)) rfl
theorem w5_189 : Cond.selects RX0 yX0_digestOnto yX0_digestOnto ∈ ALL := all_tbl (tb5 (List.mem_of_getElem? (i := 189) rfl)) rfl
theorem w5_190 : Cond.code yX0_digestOnto cX0_digestOnto 6 (some .long) ∈ ALL := all_tbl (tb5 (List.mem_of_getElem? (i := 190) rfl)) rfl
theorem w5_191 : Cond.constantLong RX0 43 (lN 31) ∈ ALL := all_tbl (tb5 (List.mem_of_getElem? (i := 191) rfl)) rfl
theorem w5_196 : Cond.code yX12_init cX12_init 1 none ∈ ALL := all_tbl (tb5 (List.mem_of_getElem? (i := 196) rfl)) rfl
theorem w5_198 : Cond.fieldLink RX12 7 RX12 "all" "[I" ∈ ALL := all_tbl (tb5 (List.mem_of_getElem? (i := 198) rfl)) rfl
theorem w5_199 : Cond.fieldLink RX12 13 RX12 "isKept" "[Z" ∈ ALL := all_tbl (tb5 (List.mem_of_getElem? (i := 199) rfl)) rfl
theorem w5_200 : Cond.fieldLink RX12 17 RX12 "refused" "[I" ∈ ALL := all_tbl (tb5 (List.mem_of_getElem? (i := 200) rfl)) rfl
theorem w5_201 : Cond.fieldLink RX12 20 RX12 "text" "[B" ∈ ALL := all_tbl (tb5 (List.mem_of_getElem? (i := 201) rfl)) rfl
theorem w5_202 : Cond.fieldLink RX12 116 RX12 "typed" "I" ∈ ALL := all_tbl (tb5 (List.mem_of_getElem? (i := 202) rfl)) rfl
theorem w5_203 : Cond.fieldLink RX12 122 RX12 "at" "I" ∈ ALL := all_tbl (tb5 (List.mem_of_getElem? (i := 203) rfl)) rfl
theorem w5_204 : Cond.fieldLink RX12 129 RX12 "start" "I" ∈ ALL := all_tbl (tb5 (List.mem_of_getElem? (i := 204) rfl)) rfl
theorem w5_205 : Cond.fieldLink RX12 135 RX12 "sort" "I" ∈ ALL := all_tbl (tb5 (List.mem_of_getElem? (i := 205) rfl)) rfl
theorem w5_206 : Cond.fieldLink RX12 132 RX12 "value" "I" ∈ ALL := all_tbl (tb5 (List.mem_of_getElem? (i := 206) rfl)) rfl
theorem w5_207 : Cond.fieldLink RX12 141 RX12 "fault" "I" ∈ ALL := all_tbl (tb5 (List.mem_of_getElem? (i := 207) rfl)) rfl
theorem w5_208 : Cond.fieldLink RX12 24 RX12 "numbers" "[I" ∈ ALL := all_tbl (tb5 (List.mem_of_getElem? (i := 208) rfl)) rfl
theorem w5_209 : Cond.fieldLink RX12 27 RX12 "far" "[I" ∈ ALL := all_tbl (tb5 (List.mem_of_getElem? (i := 209) rfl)) rfl
theorem w5_210 : Cond.fieldLink RX12 161 RX12 "seenOn" "I" ∈ ALL := all_tbl (tb5 (List.mem_of_getElem? (i := 210) rfl)) rfl
theorem w5_211 : Cond.fieldLink RX12 168 RX12 "many" "I" ∈ ALL := all_tbl (tb5 (List.mem_of_getElem? (i := 211) rfl)) rfl
theorem w5_212 : Cond.fieldLink RX12 30 RX12 "order" "[I" ∈ ALL := all_tbl (tb5 (List.mem_of_getElem? (i := 212) rfl)) rfl
theorem w5_213 : Cond.fieldLink RX12 33 RX12 "readAt" "[I" ∈ ALL := all_tbl (tb5 (List.mem_of_getElem? (i := 213) rfl)) rfl
theorem w5_214 : Cond.fieldLink RX12 36 RX12 "walks" "[I" ∈ ALL := all_tbl (tb5 (List.mem_of_getElem? (i := 214) rfl)) rfl
theorem w5_215 : Cond.fieldLink RX12 175 RX12 "walked" "I" ∈ ALL := all_tbl (tb5 (List.mem_of_getElem? (i := 215) rfl)) rfl
theorem w5_216 : Cond.fieldLink RX12 39 RX12 "big" "[I" ∈ ALL := all_tbl (tb5 (List.mem_of_getElem? (i := 216) rfl)) rfl
theorem w5_217 : Cond.fieldLink RX12 210 RX12 "signNow" "I" ∈ ALL := all_tbl (tb5 (List.mem_of_getElem? (i := 217) rfl)) rfl
theorem w5_218 : Cond.fieldLink RX12 42 RX12 "found" "[I" ∈ ALL := all_tbl (tb5 (List.mem_of_getElem? (i := 218) rfl)) rfl
theorem w5_219 : Cond.fieldLink RX12 45 RX12 "kindOf" "[I" ∈ ALL := all_tbl (tb5 (List.mem_of_getElem? (i := 219) rfl)) rfl
theorem w5_220 : Cond.fieldLink RX12 48 RX12 "readIn" "[I" ∈ ALL := all_tbl (tb5 (List.mem_of_getElem? (i := 220) rfl)) rfl
theorem w5_221 : Cond.fieldLink RX12 51 RX12 "comes" "[I" ∈ ALL := all_tbl (tb5 (List.mem_of_getElem? (i := 221) rfl)) rfl
theorem w5_222 : Cond.fieldLink RX12 54 RX12 "ends" "[I" ∈ ALL := all_tbl (tb5 (List.mem_of_getElem? (i := 222) rfl)) rfl
theorem w5_223 : Cond.fieldLink RX12 57 RX12 "sizes" "[I" ∈ ALL := all_tbl (tb5 (List.mem_of_getElem? (i := 223) rfl)) rfl
theorem w5_224 : Cond.fieldLink RX12 60 RX12 "finds" "[I" ∈ ALL := all_tbl (tb5 (List.mem_of_getElem? (i := 224) rfl)) rfl
theorem w5_225 : Cond.fieldLink RX12 306 RX12 "sum" "J" ∈ ALL := all_tbl (tb5 (List.mem_of_getElem? (i := 225) rfl)) rfl
theorem w5_226 : Cond.laysFinal RX12 RX12 "all" "[I" ∈ ALL := all_tbl (tb5 (List.mem_of_getElem? (i := 226) rfl)) rfl
theorem w5_228 : Cond.laysFinal RX12 RX12 "isKept" "[Z" ∈ ALL := all_tbl (tb5 (List.mem_of_getElem? (i := 228) rfl)) rfl
theorem w5_230 : Cond.laysFinal RX12 RX12 "refused" "[I" ∈ ALL := all_tbl (tb5 (List.mem_of_getElem? (i := 230) rfl)) rfl
theorem w5_232 : Cond.laysFinal RX12 RX12 "text" "[B" ∈ ALL := all_tbl (tb5 (List.mem_of_getElem? (i := 232) rfl)) rfl
theorem w5_234 : Cond.lays RX12 RX12 "typed" "I" ∈ ALL := all_tbl (tb5 (List.mem_of_getElem? (i := 234) rfl)) rfl
theorem w5_236 : Cond.lays RX12 RX12 "at" "I" ∈ ALL := all_tbl (tb5 (List.mem_of_getElem? (i := 236) rfl)) rfl
theorem w5_238 : Cond.lays RX12 RX12 "start" "I" ∈ ALL := all_tbl (tb5 (List.mem_of_getElem? (i := 238) rfl)) rfl
theorem w6_0 : Cond.lays RX12 RX12 "sort" "I" ∈ ALL := all_tbl (tb6 (List.mem_of_getElem? (i := 0) rfl)) rfl
theorem w6_2 : Cond.lays RX12 RX12 "value" "I" ∈ ALL := all_tbl (tb6 (List.mem_of_getElem? (i := 2) rfl)) rfl
theorem w6_4 : Cond.lays RX12 RX12 "fault" "I" ∈ ALL := all_tbl (tb6 (List.mem_of_getElem? (i := 4) rfl)) rfl
theorem w6_6 : Cond.laysFinal RX12 RX12 "numbers" "[I" ∈ ALL := all_tbl (tb6 (List.mem_of_getElem? (i := 6) rfl)) rfl
theorem w6_8 : Cond.laysFinal RX12 RX12 "far" "[I" ∈ ALL := all_tbl (tb6 (List.mem_of_getElem? (i := 8) rfl)) rfl
theorem w6_10 : Cond.lays RX12 RX12 "seenOn" "I" ∈ ALL := all_tbl (tb6 (List.mem_of_getElem? (i := 10) rfl)) rfl
theorem w6_12 : Cond.lays RX12 RX12 "many" "I" ∈ ALL := all_tbl (tb6 (List.mem_of_getElem? (i := 12) rfl)) rfl
theorem w6_14 : Cond.laysFinal RX12 RX12 "order" "[I" ∈ ALL := all_tbl (tb6 (List.mem_of_getElem? (i := 14) rfl)) rfl
theorem w6_16 : Cond.laysFinal RX12 RX12 "readAt" "[I" ∈ ALL := all_tbl (tb6 (List.mem_of_getElem? (i := 16) rfl)) rfl
theorem w6_18 : Cond.laysFinal RX12 RX12 "walks" "[I" ∈ ALL := all_tbl (tb6 (List.mem_of_getElem? (i := 18) rfl)) rfl
theorem w6_20 : Cond.lays RX12 RX12 "walked" "I" ∈ ALL := all_tbl (tb6 (List.mem_of_getElem? (i := 20) rfl)) rfl
theorem w6_22 : Cond.laysFinal RX12 RX12 "big" "[I" ∈ ALL := all_tbl (tb6 (List.mem_of_getElem? (i := 22) rfl)) rfl
theorem w6_24 : Cond.lays RX12 RX12 "signNow" "I" ∈ ALL := all_tbl (tb6 (List.mem_of_getElem? (i := 24) rfl)) rfl
theorem w6_26 : Cond.laysFinal RX12 RX12 "found" "[I" ∈ ALL := all_tbl (tb6 (List.mem_of_getElem? (i := 26) rfl)) rfl
theorem w6_28 : Cond.laysFinal RX12 RX12 "kindOf" "[I" ∈ ALL := all_tbl (tb6 (List.mem_of_getElem? (i := 28) rfl)) rfl
theorem w6_30 : Cond.laysFinal RX12 RX12 "readIn" "[I" ∈ ALL := all_tbl (tb6 (List.mem_of_getElem? (i := 30) rfl)) rfl
theorem w6_32 : Cond.laysFinal RX12 RX12 "comes" "[I" ∈ ALL := all_tbl (tb6 (List.mem_of_getElem? (i := 32) rfl)) rfl
theorem w6_34 : Cond.laysFinal RX12 RX12 "ends" "[I" ∈ ALL := all_tbl (tb6 (List.mem_of_getElem? (i := 34) rfl)) rfl
theorem w6_36 : Cond.laysFinal RX12 RX12 "sizes" "[I" ∈ ALL := all_tbl (tb6 (List.mem_of_getElem? (i := 36) rfl)) rfl
theorem w6_38 : Cond.laysFinal RX12 RX12 "finds" "[I" ∈ ALL := all_tbl (tb6 (List.mem_of_getElem? (i := 38) rfl)) rfl
theorem w6_40 : Cond.lays RX12 RX12 "sum" "J" ∈ ALL := all_tbl (tb6 (List.mem_of_getElem? (i := 40) rfl)) rfl
theorem w6_46 : Cond.code yX12_place cX12_place 1 (some .int) ∈ ALL := all_tbl (tb6 (List.mem_of_getElem? (i := 46) rfl)) rfl
theorem w6_47 : Cond.methodLink RX12 89 yX12_addPlace ∈ ALL := all_tbl (tb6 (List.mem_of_getElem? (i := 47) rfl)) rfl
theorem w6_49 : Cond.instanceMethod yX12_addPlace ∈ ALL := all_tbl (tb6 (List.mem_of_getElem? (i := 49) rfl)) rfl
theorem w6_50 : Cond.code yX12_addPlace cX12_addPlace 4 (some .int) ∈ ALL := all_tbl (tb6 (List.mem_of_getElem? (i := 50) rfl)) rfl
theorem w6_51 : Cond.methodLink RX12 63 yX12_refuse ∈ ALL := all_tbl (tb6 (List.mem_of_getElem? (i := 51) rfl)) rfl
theorem w6_53 : Cond.instanceMethod yX12_refuse ∈ ALL := all_tbl (tb6 (List.mem_of_getElem? (i := 53) rfl)) rfl
theorem w6_54 : Cond.code yX12_refuse cX12_refuse 2 (some .int) ∈ ALL := all_tbl (tb6 (List.mem_of_getElem? (i := 54) rfl)) rfl
theorem w6_58 : Cond.code yX12_way cX12_way 4 (some .int) ∈ ALL := all_tbl (tb6 (List.mem_of_getElem? (i := 58) rfl)) rfl
theorem w6_59 : Cond.methodLink RX12 92 yX12_setWay ∈ ALL := all_tbl (tb6 (List.mem_of_getElem? (i := 59) rfl)) rfl
theorem w6_61 : Cond.instanceMethod yX12_setWay ∈ ALL := all_tbl (tb6 (List.mem_of_getElem? (i := 61) rfl)) rfl
theorem w6_62 : Cond.code yX12_setWay cX12_setWay 6 (some .int) ∈ ALL := all_tbl (tb6 (List.mem_of_getElem? (i := 62) rfl)) rfl
theorem w6_63 : Cond.methodLink RX12 71 yX12_isPlace ∈ ALL := all_tbl (tb6 (List.mem_of_getElem? (i := 63) rfl)) rfl
theorem w6_65 : Cond.instanceMethod yX12_isPlace ∈ ALL := all_tbl (tb6 (List.mem_of_getElem? (i := 65) rfl)) rfl
theorem w6_66 : Cond.code yX12_isPlace cX12_isPlace 3 (some .boolean) ∈ ALL := all_tbl (tb6 (List.mem_of_getElem? (i := 66) rfl)) rfl
theorem w6_67 : Cond.methodLink RX12 67 yX12_in ∈ ALL := all_tbl (tb6 (List.mem_of_getElem? (i := 67) rfl)) rfl
theorem w6_68 : Cond.static yX12_in ∈ ALL := all_tbl (tb6 (List.mem_of_getElem? (i := 68) rfl)) rfl
theorem w6_69 : Cond.code yX12_in cX12_in 3 (some .boolean) ∈ ALL := all_tbl (tb6 (List.mem_of_getElem? (i := 69) rfl)) rfl
theorem w6_73 : Cond.code yX12_sees cX12_sees 3 (some .int) ∈ ALL := all_tbl (tb6 (List.mem_of_getElem? (i := 73) rfl)) rfl
theorem w6_74 : Cond.methodLink RX12 96 yX12_setSeen ∈ ALL := all_tbl (tb6 (List.mem_of_getElem? (i := 74) rfl)) rfl
theorem w6_76 : Cond.instanceMethod yX12_setSeen ∈ ALL := all_tbl (tb6 (List.mem_of_getElem? (i := 76) rfl)) rfl
theorem w6_77 : Cond.code yX12_setSeen cX12_setSeen 4 (some .int) ∈ ALL := all_tbl (tb6 (List.mem_of_getElem? (i := 77) rfl)) rfl
theorem w6_78 : Cond.methodLink RX12 75 yX12_mark ∈ ALL := all_tbl (tb6 (List.mem_of_getElem? (i := 78) rfl)) rfl
theorem w6_80 : Cond.instanceMethod yX12_mark ∈ ALL := all_tbl (tb6 (List.mem_of_getElem? (i := 80) rfl)) rfl
theorem w6_81 : Cond.code yX12_mark cX12_mark 3 (some .int) ∈ ALL := all_tbl (tb6 (List.mem_of_getElem? (i := 81) rfl)) rfl
theorem w6_85 : Cond.code yX12_child cX12_child 6 (some .int) ∈ ALL := all_tbl (tb6 (List.mem_of_getElem? (i := 85) rfl)) rfl
theorem w6_86 : Cond.methodLink RX12 100 yX12_addChild ∈ ALL := all_tbl (tb6 (List.mem_of_getElem? (i := 86) rfl)) rfl
theorem w6_88 : Cond.instanceMethod yX12_addChild ∈ ALL := all_tbl (tb6 (List.mem_of_getElem? (i := 88) rfl)) rfl
theorem w6_89 : Cond.code yX12_addChild cX12_addChild 8 (some .int) ∈ ALL := all_tbl (tb6 (List.mem_of_getElem? (i := 89) rfl)) rfl
theorem w6_93 : Cond.code yX12_bar cX12_bar 3 (some .int) ∈ ALL := all_tbl (tb6 (List.mem_of_getElem? (i := 93) rfl)) rfl
theorem w6_94 : Cond.methodLink RX12 104 yX12_setBar ∈ ALL := all_tbl (tb6 (List.mem_of_getElem? (i := 94) rfl)) rfl
theorem w6_96 : Cond.instanceMethod yX12_setBar ∈ ALL := all_tbl (tb6 (List.mem_of_getElem? (i := 96) rfl)) rfl
theorem w6_97 : Cond.code yX12_setBar cX12_setBar 4 (some .int) ∈ ALL := all_tbl (tb6 (List.mem_of_getElem? (i := 97) rfl)) rfl
theorem w6_98 : Cond.methodLink RX12 79 yX12_isChild ∈ ALL := all_tbl (tb6 (List.mem_of_getElem? (i := 98) rfl)) rfl
theorem w6_100 : Cond.instanceMethod yX12_isChild ∈ ALL := all_tbl (tb6 (List.mem_of_getElem? (i := 100) rfl)) rfl
theorem w6_101 : Cond.code yX12_isChild cX12_isChild 3 (some .boolean) ∈ ALL := all_tbl (tb6 (List.mem_of_getElem? (i := 101) rfl)) rfl
theorem w6_105 : Cond.code yX12_join cX12_join 4 (some .int) ∈ ALL := all_tbl (tb6 (List.mem_of_getElem? (i := 105) rfl)) rfl
theorem w6_109 : Cond.code yX12_slip cX12_slip 3 (some .int) ∈ ALL := all_tbl (tb6 (List.mem_of_getElem? (i := 109) rfl)) rfl
theorem w6_110 : Cond.methodLink RX12 107 yX12_addSlip ∈ ALL := all_tbl (tb6 (List.mem_of_getElem? (i := 110) rfl)) rfl
theorem w6_112 : Cond.instanceMethod yX12_addSlip ∈ ALL := all_tbl (tb6 (List.mem_of_getElem? (i := 112) rfl)) rfl
theorem w6_113 : Cond.code yX12_addSlip cX12_addSlip 5 (some .int) ∈ ALL := all_tbl (tb6 (List.mem_of_getElem? (i := 113) rfl)) rfl
theorem w6_117 : Cond.code yX12_spare cX12_spare 2 (some .int) ∈ ALL := all_tbl (tb6 (List.mem_of_getElem? (i := 117) rfl)) rfl
theorem w6_118 : Cond.methodLink RX12 82 yX12_isSlip ∈ ALL := all_tbl (tb6 (List.mem_of_getElem? (i := 118) rfl)) rfl
theorem w6_120 : Cond.instanceMethod yX12_isSlip ∈ ALL := all_tbl (tb6 (List.mem_of_getElem? (i := 120) rfl)) rfl
theorem w6_121 : Cond.code yX12_isSlip cX12_isSlip 3 (some .boolean) ∈ ALL := all_tbl (tb6 (List.mem_of_getElem? (i := 121) rfl)) rfl
theorem w6_125 : Cond.code yX12_means cX12_means 3 (some .int) ∈ ALL := all_tbl (tb6 (List.mem_of_getElem? (i := 125) rfl)) rfl
theorem w6_126 : Cond.methodLink RX12 110 yX12_setMeans ∈ ALL := all_tbl (tb6 (List.mem_of_getElem? (i := 126) rfl)) rfl
theorem w6_128 : Cond.instanceMethod yX12_setMeans ∈ ALL := all_tbl (tb6 (List.mem_of_getElem? (i := 128) rfl)) rfl
theorem w6_129 : Cond.code yX12_setMeans cX12_setMeans 4 (some .int) ∈ ALL := all_tbl (tb6 (List.mem_of_getElem? (i := 129) rfl)) rfl
theorem w6_133 : Cond.code yX12_row cX12_row 3 (some .int) ∈ ALL := all_tbl (tb6 (List.mem_of_getElem? (i := 133) rfl)) rfl
theorem w6_134 : Cond.methodLink RX12 113 yX12_addRow ∈ ALL := all_tbl (tb6 (List.mem_of_getElem? (i := 134) rfl)) rfl
theorem w6_136 : Cond.instanceMethod yX12_addRow ∈ ALL := all_tbl (tb6 (List.mem_of_getElem? (i := 136) rfl)) rfl
theorem w6_137 : Cond.code yX12_addRow cX12_addRow 6 (some .int) ∈ ALL := all_tbl (tb6 (List.mem_of_getElem? (i := 137) rfl)) rfl
theorem w6_138 : Cond.methodLink RX12 85 yX12_isLot ∈ ALL := all_tbl (tb6 (List.mem_of_getElem? (i := 138) rfl)) rfl
theorem w6_139 : Cond.static yX12_isLot ∈ ALL := all_tbl (tb6 (List.mem_of_getElem? (i := 139) rfl)) rfl
theorem w6_140 : Cond.code yX12_isLot cX12_isLot 1 (some .boolean) ∈ ALL := all_tbl (tb6 (List.mem_of_getElem? (i := 140) rfl)) rfl
theorem w6_144 : Cond.code yX12_unrow cX12_unrow 3 (some .int) ∈ ALL := all_tbl (tb6 (List.mem_of_getElem? (i := 144) rfl)) rfl
theorem w6_148 : Cond.code yX12_put cX12_put 6 (some .int) ∈ ALL := all_tbl (tb6 (List.mem_of_getElem? (i := 148) rfl)) rfl
theorem w6_152 : Cond.code yX12_type cX12_type 5 (some .int) ∈ ALL := all_tbl (tb6 (List.mem_of_getElem? (i := 152) rfl)) rfl
theorem w6_153 : Cond.constantLong RX12 120 (lN 255) ∈ ALL := all_tbl (tb6 (List.mem_of_getElem? (i := 153) rfl)) rfl
theorem w6_157 : Cond.code yX12_clear cX12_clear 2 (some .int) ∈ ALL := all_tbl (tb6 (List.mem_of_getElem? (i := 157) rfl)) rfl
theorem w6_161 : Cond.code yX12_house cX12_house 6 (some .int) ∈ ALL := all_tbl (tb6 (List.mem_of_getElem? (i := 161) rfl)) rfl
theorem w6_162 : Cond.methodLink RX12 144 yX12_next ∈ ALL := all_tbl (tb6 (List.mem_of_getElem? (i := 162) rfl)) rfl
theorem w6_164 : Cond.instanceMethod yX12_next ∈ ALL := all_tbl (tb6 (List.mem_of_getElem? (i := 164) rfl)) rfl
theorem w6_165 : Cond.code yX12_next cX12_next 3 none ∈ ALL := all_tbl (tb6 (List.mem_of_getElem? (i := 165) rfl)) rfl
theorem w6_166 : Cond.methodLink RX12 125 yX12_here ∈ ALL := all_tbl (tb6 (List.mem_of_getElem? (i := 166) rfl)) rfl
theorem w6_168 : Cond.instanceMethod yX12_here ∈ ALL := all_tbl (tb6 (List.mem_of_getElem? (i := 168) rfl)) rfl
theorem w6_169 : Cond.code yX12_here cX12_here 1 (some .int) ∈ ALL := all_tbl (tb6 (List.mem_of_getElem? (i := 169) rfl)) rfl
theorem w6_170 : Cond.methodLink RX12 138 yX12_meaning ∈ ALL := all_tbl (tb6 (List.mem_of_getElem? (i := 170) rfl)) rfl
theorem w6_171 : Cond.static yX12_meaning ∈ ALL := all_tbl (tb6 (List.mem_of_getElem? (i := 171) rfl)) rfl
theorem w6_172 : Cond.code yX12_meaning cX12_meaning 1 (some .int) ∈ ALL := all_tbl (tb6 (List.mem_of_getElem? (i := 172) rfl)) rfl
theorem w6_173 : Cond.methodLink RX12 147 yX12_due ∈ ALL := all_tbl (tb6 (List.mem_of_getElem? (i := 173) rfl)) rfl
theorem w6_175 : Cond.instanceMethod yX12_due ∈ ALL := all_tbl (tb6 (List.mem_of_getElem? (i := 175) rfl)) rfl
theorem w6_176 : Cond.code yX12_due cX12_due 3 (some .int) ∈ ALL := all_tbl (tb6 (List.mem_of_getElem? (i := 176) rfl)) rfl
theorem w6_177 : Cond.methodLink RX12 151 yX12_numbersOf ∈ ALL := all_tbl (tb6 (List.mem_of_getElem? (i := 177) rfl)) rfl
theorem w6_178 : Cond.static yX12_numbersOf ∈ ALL := all_tbl (tb6 (List.mem_of_getElem? (i := 178) rfl)) rfl
theorem w6_179 : Cond.code yX12_numbersOf cX12_numbersOf 1 (some .int) ∈ ALL := all_tbl (tb6 (List.mem_of_getElem? (i := 179) rfl)) rfl
theorem w6_180 : Cond.methodLink RX12 154 yX12_build ∈ ALL := all_tbl (tb6 (List.mem_of_getElem? (i := 180) rfl)) rfl
theorem w6_182 : Cond.instanceMethod yX12_build ∈ ALL := all_tbl (tb6 (List.mem_of_getElem? (i := 182) rfl)) rfl
theorem w6_183 : Cond.code yX12_build cX12_build 4 (some .int) ∈ ALL := all_tbl (tb6 (List.mem_of_getElem? (i := 183) rfl)) rfl
theorem w6_187 : Cond.code yX12_walk cX12_walk 3 (some .int) ∈ ALL := all_tbl (tb6 (List.mem_of_getElem? (i := 187) rfl)) rfl
theorem w6_188 : Cond.methodLink RX12 158 yX12_findWalks ∈ ALL := all_tbl (tb6 (List.mem_of_getElem? (i := 188) rfl)) rfl
theorem w6_190 : Cond.instanceMethod yX12_findWalks ∈ ALL := all_tbl (tb6 (List.mem_of_getElem? (i := 190) rfl)) rfl
theorem w6_191 : Cond.code yX12_findWalks cX12_findWalks 5 none ∈ ALL := all_tbl (tb6 (List.mem_of_getElem? (i := 191) rfl)) rfl
theorem w6_192 : Cond.constant RX12 157 (nI 100000) ∈ ALL := all_tbl (tb6 (List.mem_of_getElem? (i := 192) rfl)) rfl
theorem w6_196 : Cond.code yX12_riddles cX12_riddles 3 (some .int) ∈ ALL := all_tbl (tb6 (List.mem_of_getElem? (i := 196) rfl)) rfl
theorem w6_197 : Cond.methodLink RX12 235 yX12_isHunt ∈ ALL := all_tbl (tb6 (List.mem_of_getElem? (i := 197) rfl)) rfl
theorem w6_199 : Cond.instanceMethod yX12_isHunt ∈ ALL := all_tbl (tb6 (List.mem_of_getElem? (i := 199) rfl)) rfl
theorem w6_200 : Cond.code yX12_isHunt cX12_isHunt 2 (some .boolean) ∈ ALL := all_tbl (tb6 (List.mem_of_getElem? (i := 200) rfl)) rfl
theorem w6_201 : Cond.methodLink RX12 181 yX12_takeRow ∈ ALL := all_tbl (tb6 (List.mem_of_getElem? (i := 201) rfl)) rfl
theorem w6_203 : Cond.instanceMethod yX12_takeRow ∈ ALL := all_tbl (tb6 (List.mem_of_getElem? (i := 203) rfl)) rfl
theorem w6_204 : Cond.code yX12_takeRow cX12_takeRow 3 none ∈ ALL := all_tbl (tb6 (List.mem_of_getElem? (i := 204) rfl)) rfl
theorem w6_205 : Cond.methodLink RX12 185 yX12_findHunt ∈ ALL := all_tbl (tb6 (List.mem_of_getElem? (i := 205) rfl)) rfl
theorem w6_207 : Cond.instanceMethod yX12_findHunt ∈ ALL := all_tbl (tb6 (List.mem_of_getElem? (i := 207) rfl)) rfl
theorem w6_208 : Cond.code yX12_findHunt cX12_findHunt 2 (some .boolean) ∈ ALL := all_tbl (tb6 (List.mem_of_getElem? (i := 208) rfl)) rfl
theorem w6_209 : Cond.methodLink RX12 171 yX12_isSet ∈ ALL := all_tbl (tb6 (List.mem_of_getElem? (i := 209) rfl)) rfl
theorem w6_211 : Cond.instanceMethod yX12_isSet ∈ ALL := all_tbl (tb6 (List.mem_of_getElem? (i := 211) rfl)) rfl
theorem w6_212 : Cond.code yX12_isSet cX12_isSet 1 (some .boolean) ∈ ALL := all_tbl (tb6 (List.mem_of_getElem? (i := 212) rfl)) rfl
theorem w6_213 : Cond.methodLink RX12 178 yX12_searchFor ∈ ALL := all_tbl (tb6 (List.mem_of_getElem? (i := 213) rfl)) rfl
theorem w6_215 : Cond.instanceMethod yX12_searchFor ∈ ALL := all_tbl (tb6 (List.mem_of_getElem? (i := 215) rfl)) rfl
theorem w6_216 : Cond.code yX12_searchFor cX12_searchFor 11 (some .int) ∈ ALL := all_tbl (tb6 (List.mem_of_getElem? (i := 216) rfl)) rfl
theorem w6_217 : Cond.methodLink RX12 164 yX12_seePath ∈ ALL := all_tbl (tb6 (List.mem_of_getElem? (i := 217) rfl)) rfl
theorem w6_219 : Cond.instanceMethod yX12_seePath ∈ ALL := all_tbl (tb6 (List.mem_of_getElem? (i := 219) rfl)) rfl
theorem w6_220 : Cond.code yX12_seePath cX12_seePath 5 none ∈ ALL := all_tbl (tb6 (List.mem_of_getElem? (i := 220) rfl)) rfl
theorem w6_221 : Cond.constant RX12 193 (nI 1000000) ∈ ALL := all_tbl (tb6 (List.mem_of_getElem? (i := 221) rfl)) rfl
theorem w6_222 : Cond.methodLink RX12 222 yX12_missesAt ∈ ALL := all_tbl (tb6 (List.mem_of_getElem? (i := 222) rfl)) rfl
theorem w6_224 : Cond.instanceMethod yX12_missesAt ∈ ALL := all_tbl (tb6 (List.mem_of_getElem? (i := 224) rfl)) rfl
theorem w6_225 : Cond.code yX12_missesAt cX12_missesAt 7 (some .int) ∈ ALL := all_tbl (tb6 (List.mem_of_getElem? (i := 225) rfl)) rfl
theorem w6_226 : Cond.methodLink RX12 188 yX12_quickAt ∈ ALL := all_tbl (tb6 (List.mem_of_getElem? (i := 226) rfl)) rfl
theorem w6_228 : Cond.instanceMethod yX12_quickAt ∈ ALL := all_tbl (tb6 (List.mem_of_getElem? (i := 228) rfl)) rfl
theorem w6_229 : Cond.code yX12_quickAt cX12_quickAt 5 (some .int) ∈ ALL := all_tbl (tb6 (List.mem_of_getElem? (i := 229) rfl)) rfl
theorem w6_230 : Cond.methodLink RX12 204 yX12_set ∈ ALL := all_tbl (tb6 (List.mem_of_getElem? (i := 230) rfl)) rfl
theorem w6_232 : Cond.instanceMethod yX12_set ∈ ALL := all_tbl (tb6 (List.mem_of_getElem? (i := 232) rfl)) rfl
theorem w6_233 : Cond.code yX12_set cX12_set 4 none ∈ ALL := all_tbl (tb6 (List.mem_of_getElem? (i := 233) rfl)) rfl
theorem w6_234 : Cond.methodLink RX12 238 yX12_tell ∈ ALL := all_tbl (tb6 (List.mem_of_getElem? (i := 234) rfl)) rfl
theorem w6_236 : Cond.instanceMethod yX12_tell ∈ ALL := all_tbl (tb6 (List.mem_of_getElem? (i := 236) rfl)) rfl
theorem w6_237 : Cond.code yX12_tell cX12_tell 6 none ∈ ALL := all_tbl (tb6 (List.mem_of_getElem? (i := 237) rfl)) rfl
theorem w6_238 : Cond.methodLink RX12 198 yX12_copy ∈ ALL := all_tbl (tb6 (List.mem_of_getElem? (i := 238) rfl)) rfl
theorem w7_0 : Cond.instanceMethod yX12_copy ∈ ALL := all_tbl (tb7 (List.mem_of_getElem? (i := 0) rfl)) rfl
theorem w7_1 : Cond.code yX12_copy cX12_copy 4 none ∈ ALL := all_tbl (tb7 (List.mem_of_getElem? (i := 1) rfl)) rfl
theorem w7_2 : Cond.methodLink RX12 207 yX12_isNought ∈ ALL := all_tbl (tb7 (List.mem_of_getElem? (i := 2) rfl)) rfl
theorem w7_4 : Cond.instanceMethod yX12_isNought ∈ ALL := all_tbl (tb7 (List.mem_of_getElem? (i := 4) rfl)) rfl
theorem w7_5 : Cond.code yX12_isNought cX12_isNought 4 (some .boolean) ∈ ALL := all_tbl (tb7 (List.mem_of_getElem? (i := 5) rfl)) rfl
theorem w7_6 : Cond.methodLink RX12 213 yX12_takeOut ∈ ALL := all_tbl (tb7 (List.mem_of_getElem? (i := 6) rfl)) rfl
theorem w7_8 : Cond.instanceMethod yX12_takeOut ∈ ALL := all_tbl (tb7 (List.mem_of_getElem? (i := 8) rfl)) rfl
theorem w7_9 : Cond.code yX12_takeOut cX12_takeOut 5 (some .int) ∈ ALL := all_tbl (tb7 (List.mem_of_getElem? (i := 9) rfl)) rfl
theorem w7_10 : Cond.methodLink RX12 201 yX12_divide ∈ ALL := all_tbl (tb7 (List.mem_of_getElem? (i := 10) rfl)) rfl
theorem w7_12 : Cond.instanceMethod yX12_divide ∈ ALL := all_tbl (tb7 (List.mem_of_getElem? (i := 12) rfl)) rfl
theorem w7_13 : Cond.code yX12_divide cX12_divide 8 (some .int) ∈ ALL := all_tbl (tb7 (List.mem_of_getElem? (i := 13) rfl)) rfl
theorem w7_14 : Cond.constantLong RX12 191 (lN 1073741824) ∈ ALL := all_tbl (tb7 (List.mem_of_getElem? (i := 14) rfl)) rfl
theorem w7_15 : Cond.methodLink RX12 194 yX12_times ∈ ALL := all_tbl (tb7 (List.mem_of_getElem? (i := 15) rfl)) rfl
theorem w7_17 : Cond.instanceMethod yX12_times ∈ ALL := all_tbl (tb7 (List.mem_of_getElem? (i := 17) rfl)) rfl
theorem w7_18 : Cond.code yX12_times cX12_times 8 none ∈ ALL := all_tbl (tb7 (List.mem_of_getElem? (i := 18) rfl)) rfl
theorem w7_22 : Cond.code yX12_length cX12_length 5 (some .int) ∈ ALL := all_tbl (tb7 (List.mem_of_getElem? (i := 22) rfl)) rfl
theorem w7_23 : Cond.methodLink RX12 241 yX12_leastOf ∈ ALL := all_tbl (tb7 (List.mem_of_getElem? (i := 23) rfl)) rfl
theorem w7_25 : Cond.instanceMethod yX12_leastOf ∈ ALL := all_tbl (tb7 (List.mem_of_getElem? (i := 25) rfl)) rfl
theorem w7_26 : Cond.code yX12_leastOf cX12_leastOf 3 (some .int) ∈ ALL := all_tbl (tb7 (List.mem_of_getElem? (i := 26) rfl)) rfl
theorem w7_27 : Cond.methodLink RX12 244 yX12_lengthTo ∈ ALL := all_tbl (tb7 (List.mem_of_getElem? (i := 27) rfl)) rfl
theorem w7_29 : Cond.instanceMethod yX12_lengthTo ∈ ALL := all_tbl (tb7 (List.mem_of_getElem? (i := 29) rfl)) rfl
theorem w7_30 : Cond.code yX12_lengthTo cX12_lengthTo 4 none ∈ ALL := all_tbl (tb7 (List.mem_of_getElem? (i := 30) rfl)) rfl
theorem w7_31 : Cond.methodLink RX12 216 yX12_millions ∈ ALL := all_tbl (tb7 (List.mem_of_getElem? (i := 31) rfl)) rfl
theorem w7_33 : Cond.instanceMethod yX12_millions ∈ ALL := all_tbl (tb7 (List.mem_of_getElem? (i := 33) rfl)) rfl
theorem w7_34 : Cond.code yX12_millions cX12_millions 4 none ∈ ALL := all_tbl (tb7 (List.mem_of_getElem? (i := 34) rfl)) rfl
theorem w7_35 : Cond.methodLink RX12 225 yX12_meanTo ∈ ALL := all_tbl (tb7 (List.mem_of_getElem? (i := 35) rfl)) rfl
theorem w7_37 : Cond.instanceMethod yX12_meanTo ∈ ALL := all_tbl (tb7 (List.mem_of_getElem? (i := 37) rfl)) rfl
theorem w7_38 : Cond.code yX12_meanTo cX12_meanTo 6 none ∈ ALL := all_tbl (tb7 (List.mem_of_getElem? (i := 38) rfl)) rfl
theorem w7_39 : Cond.methodLink RX12 219 yX12_add ∈ ALL := all_tbl (tb7 (List.mem_of_getElem? (i := 39) rfl)) rfl
theorem w7_41 : Cond.instanceMethod yX12_add ∈ ALL := all_tbl (tb7 (List.mem_of_getElem? (i := 41) rfl)) rfl
theorem w7_42 : Cond.code yX12_add cX12_add 7 none ∈ ALL := all_tbl (tb7 (List.mem_of_getElem? (i := 42) rfl)) rfl
theorem w7_46 : Cond.code yX12_ends cX12_ends 6 (some .int) ∈ ALL := all_tbl (tb7 (List.mem_of_getElem? (i := 46) rfl)) rfl
theorem w7_47 : Cond.methodLink RX12 250 yX12_weighLengths ∈ ALL := all_tbl (tb7 (List.mem_of_getElem? (i := 47) rfl)) rfl
theorem w7_49 : Cond.instanceMethod yX12_weighLengths ∈ ALL := all_tbl (tb7 (List.mem_of_getElem? (i := 49) rfl)) rfl
theorem w7_50 : Cond.code yX12_weighLengths cX12_weighLengths 8 (some .int) ∈ ALL := all_tbl (tb7 (List.mem_of_getElem? (i := 50) rfl)) rfl
theorem w7_51 : Cond.methodLink RX12 247 yX12_spread ∈ ALL := all_tbl (tb7 (List.mem_of_getElem? (i := 51) rfl)) rfl
theorem w7_53 : Cond.instanceMethod yX12_spread ∈ ALL := all_tbl (tb7 (List.mem_of_getElem? (i := 53) rfl)) rfl
theorem w7_54 : Cond.code yX12_spread cX12_spread 5 none ∈ ALL := all_tbl (tb7 (List.mem_of_getElem? (i := 54) rfl)) rfl
theorem w7_58 : Cond.code yX12_sooner cX12_sooner 6 (some .int) ∈ ALL := all_tbl (tb7 (List.mem_of_getElem? (i := 58) rfl)) rfl
theorem w7_59 : Cond.methodLink RX12 229 yX12_compare ∈ ALL := all_tbl (tb7 (List.mem_of_getElem? (i := 59) rfl)) rfl
theorem w7_61 : Cond.instanceMethod yX12_compare ∈ ALL := all_tbl (tb7 (List.mem_of_getElem? (i := 61) rfl)) rfl
theorem w7_62 : Cond.code yX12_compare cX12_compare 6 (some .int) ∈ ALL := all_tbl (tb7 (List.mem_of_getElem? (i := 62) rfl)) rfl
theorem w7_66 : Cond.code yX12_guessed cX12_guessed 2 (some .int) ∈ ALL := all_tbl (tb7 (List.mem_of_getElem? (i := 66) rfl)) rfl
theorem w7_67 : Cond.methodLink RX12 256 yX12_guessedTo ∈ ALL := all_tbl (tb7 (List.mem_of_getElem? (i := 67) rfl)) rfl
theorem w7_69 : Cond.instanceMethod yX12_guessedTo ∈ ALL := all_tbl (tb7 (List.mem_of_getElem? (i := 69) rfl)) rfl
theorem w7_70 : Cond.code yX12_guessedTo cX12_guessedTo 5 none ∈ ALL := all_tbl (tb7 (List.mem_of_getElem? (i := 70) rfl)) rfl
theorem w7_71 : Cond.methodLink RX12 253 yX12_guessesAt ∈ ALL := all_tbl (tb7 (List.mem_of_getElem? (i := 71) rfl)) rfl
theorem w7_73 : Cond.instanceMethod yX12_guessesAt ∈ ALL := all_tbl (tb7 (List.mem_of_getElem? (i := 73) rfl)) rfl
theorem w7_74 : Cond.code yX12_guessesAt cX12_guessesAt 8 (some .int) ∈ ALL := all_tbl (tb7 (List.mem_of_getElem? (i := 74) rfl)) rfl
theorem w7_78 : Cond.code yX12_fair cX12_fair 4 (some .int) ∈ ALL := all_tbl (tb7 (List.mem_of_getElem? (i := 78) rfl)) rfl
theorem w7_79 : Cond.methodLink RX12 232 yX12_less ∈ ALL := all_tbl (tb7 (List.mem_of_getElem? (i := 79) rfl)) rfl
theorem w7_81 : Cond.instanceMethod yX12_less ∈ ALL := all_tbl (tb7 (List.mem_of_getElem? (i := 81) rfl)) rfl
theorem w7_82 : Cond.code yX12_less cX12_less 6 none ∈ ALL := all_tbl (tb7 (List.mem_of_getElem? (i := 82) rfl)) rfl
theorem w7_83 : Cond.constant RX12 197 (nI 1073741824) ∈ ALL := all_tbl (tb7 (List.mem_of_getElem? (i := 83) rfl)) rfl
theorem w7_87 : Cond.code yX12_order cX12_order 5 (some .int) ∈ ALL := all_tbl (tb7 (List.mem_of_getElem? (i := 87) rfl)) rfl
theorem w7_88 : Cond.methodLink RX12 262 yX12_sortOrder ∈ ALL := all_tbl (tb7 (List.mem_of_getElem? (i := 88) rfl)) rfl
theorem w7_90 : Cond.instanceMethod yX12_sortOrder ∈ ALL := all_tbl (tb7 (List.mem_of_getElem? (i := 90) rfl)) rfl
theorem w7_91 : Cond.code yX12_sortOrder cX12_sortOrder 4 none ∈ ALL := all_tbl (tb7 (List.mem_of_getElem? (i := 91) rfl)) rfl
theorem w7_92 : Cond.methodLink RX12 265 yX12_offTo ∈ ALL := all_tbl (tb7 (List.mem_of_getElem? (i := 92) rfl)) rfl
theorem w7_94 : Cond.instanceMethod yX12_offTo ∈ ALL := all_tbl (tb7 (List.mem_of_getElem? (i := 94) rfl)) rfl
theorem w7_95 : Cond.code yX12_offTo cX12_offTo 3 none ∈ ALL := all_tbl (tb7 (List.mem_of_getElem? (i := 95) rfl)) rfl
theorem w7_96 : Cond.methodLink RX12 268 yX12_keepOrder ∈ ALL := all_tbl (tb7 (List.mem_of_getElem? (i := 96) rfl)) rfl
theorem w7_98 : Cond.instanceMethod yX12_keepOrder ∈ ALL := all_tbl (tb7 (List.mem_of_getElem? (i := 98) rfl)) rfl
theorem w7_99 : Cond.code yX12_keepOrder cX12_keepOrder 2 none ∈ ALL := all_tbl (tb7 (List.mem_of_getElem? (i := 99) rfl)) rfl
theorem w7_100 : Cond.methodLink RX12 271 yX12_nextOrder ∈ ALL := all_tbl (tb7 (List.mem_of_getElem? (i := 100) rfl)) rfl
theorem w7_102 : Cond.instanceMethod yX12_nextOrder ∈ ALL := all_tbl (tb7 (List.mem_of_getElem? (i := 102) rfl)) rfl
theorem w7_103 : Cond.code yX12_nextOrder cX12_nextOrder 5 (some .boolean) ∈ ALL := all_tbl (tb7 (List.mem_of_getElem? (i := 103) rfl)) rfl
theorem w7_104 : Cond.methodLink RX12 259 yX12_swap ∈ ALL := all_tbl (tb7 (List.mem_of_getElem? (i := 104) rfl)) rfl
theorem w7_106 : Cond.instanceMethod yX12_swap ∈ ALL := all_tbl (tb7 (List.mem_of_getElem? (i := 106) rfl)) rfl
theorem w7_107 : Cond.code yX12_swap cX12_swap 4 none ∈ ALL := all_tbl (tb7 (List.mem_of_getElem? (i := 107) rfl)) rfl
theorem w7_111 : Cond.code yX12_kinds cX12_kinds 7 (some .int) ∈ ALL := all_tbl (tb7 (List.mem_of_getElem? (i := 111) rfl)) rfl
theorem w7_112 : Cond.methodLink RX12 274 yX12_tryKinds ∈ ALL := all_tbl (tb7 (List.mem_of_getElem? (i := 112) rfl)) rfl
theorem w7_114 : Cond.instanceMethod yX12_tryKinds ∈ ALL := all_tbl (tb7 (List.mem_of_getElem? (i := 114) rfl)) rfl
theorem w7_115 : Cond.code yX12_tryKinds cX12_tryKinds 6 none ∈ ALL := all_tbl (tb7 (List.mem_of_getElem? (i := 115) rfl)) rfl
theorem w7_116 : Cond.methodLink RX12 277 yX12_setKinds ∈ ALL := all_tbl (tb7 (List.mem_of_getElem? (i := 116) rfl)) rfl
theorem w7_118 : Cond.instanceMethod yX12_setKinds ∈ ALL := all_tbl (tb7 (List.mem_of_getElem? (i := 118) rfl)) rfl
theorem w7_119 : Cond.code yX12_setKinds cX12_setKinds 4 none ∈ ALL := all_tbl (tb7 (List.mem_of_getElem? (i := 119) rfl)) rfl
theorem w7_123 : Cond.code yX12_meet cX12_meet 2 (some .int) ∈ ALL := all_tbl (tb7 (List.mem_of_getElem? (i := 123) rfl)) rfl
theorem w7_124 : Cond.methodLink RX12 280 yX12_findTimes ∈ ALL := all_tbl (tb7 (List.mem_of_getElem? (i := 124) rfl)) rfl
theorem w7_126 : Cond.instanceMethod yX12_findTimes ∈ ALL := all_tbl (tb7 (List.mem_of_getElem? (i := 126) rfl)) rfl
theorem w7_127 : Cond.code yX12_findTimes cX12_findTimes 5 none ∈ ALL := all_tbl (tb7 (List.mem_of_getElem? (i := 127) rfl)) rfl
theorem w7_128 : Cond.methodLink RX12 283 yX12_meetings ∈ ALL := all_tbl (tb7 (List.mem_of_getElem? (i := 128) rfl)) rfl
theorem w7_130 : Cond.instanceMethod yX12_meetings ∈ ALL := all_tbl (tb7 (List.mem_of_getElem? (i := 130) rfl)) rfl
theorem w7_131 : Cond.code yX12_meetings cX12_meetings 4 (some .int) ∈ ALL := all_tbl (tb7 (List.mem_of_getElem? (i := 131) rfl)) rfl
theorem w7_135 : Cond.code yX12_apart cX12_apart 5 (some .int) ∈ ALL := all_tbl (tb7 (List.mem_of_getElem? (i := 135) rfl)) rfl
theorem w7_139 : Cond.code yX12_hangs cX12_hangs 4 (some .int) ∈ ALL := all_tbl (tb7 (List.mem_of_getElem? (i := 139) rfl)) rfl
theorem w7_140 : Cond.methodLink RX12 286 yX12_no ∈ ALL := all_tbl (tb7 (List.mem_of_getElem? (i := 140) rfl)) rfl
theorem w7_142 : Cond.instanceMethod yX12_no ∈ ALL := all_tbl (tb7 (List.mem_of_getElem? (i := 142) rfl)) rfl
theorem w7_143 : Cond.code yX12_no cX12_no 2 (some .int) ∈ ALL := all_tbl (tb7 (List.mem_of_getElem? (i := 143) rfl)) rfl
theorem w7_144 : Cond.methodLink RX12 289 yX12_isSpare ∈ ALL := all_tbl (tb7 (List.mem_of_getElem? (i := 144) rfl)) rfl
theorem w7_146 : Cond.instanceMethod yX12_isSpare ∈ ALL := all_tbl (tb7 (List.mem_of_getElem? (i := 146) rfl)) rfl
theorem w7_147 : Cond.code yX12_isSpare cX12_isSpare 2 (some .boolean) ∈ ALL := all_tbl (tb7 (List.mem_of_getElem? (i := 147) rfl)) rfl
theorem w7_151 : Cond.code yX12_bears cX12_bears 5 (some .int) ∈ ALL := all_tbl (tb7 (List.mem_of_getElem? (i := 151) rfl)) rfl
theorem w7_155 : Cond.code yX12_soon cX12_soon 5 (some .int) ∈ ALL := all_tbl (tb7 (List.mem_of_getElem? (i := 155) rfl)) rfl
theorem w7_159 : Cond.code yX12_report cX12_report 4 (some .int) ∈ ALL := all_tbl (tb7 (List.mem_of_getElem? (i := 159) rfl)) rfl
theorem w7_163 : Cond.code yX12_hard cX12_hard 9 (some .int) ∈ ALL := all_tbl (tb7 (List.mem_of_getElem? (i := 163) rfl)) rfl
theorem w7_164 : Cond.methodLink RX12 292 yX12_common ∈ ALL := all_tbl (tb7 (List.mem_of_getElem? (i := 164) rfl)) rfl
theorem w7_165 : Cond.static yX12_common ∈ ALL := all_tbl (tb7 (List.mem_of_getElem? (i := 165) rfl)) rfl
theorem w7_166 : Cond.code yX12_common cX12_common 5 (some .int) ∈ ALL := all_tbl (tb7 (List.mem_of_getElem? (i := 166) rfl)) rfl
theorem w7_170 : Cond.code yX12_sign cX12_sign 2 (some .int) ∈ ALL := all_tbl (tb7 (List.mem_of_getElem? (i := 170) rfl)) rfl
theorem w7_171 : Cond.methodLink RX12 295 yX12_limbsOf ∈ ALL := all_tbl (tb7 (List.mem_of_getElem? (i := 171) rfl)) rfl
theorem w7_173 : Cond.instanceMethod yX12_limbsOf ∈ ALL := all_tbl (tb7 (List.mem_of_getElem? (i := 173) rfl)) rfl
theorem w7_174 : Cond.code yX12_limbsOf cX12_limbsOf 3 (some .int) ∈ ALL := all_tbl (tb7 (List.mem_of_getElem? (i := 174) rfl)) rfl
theorem w7_178 : Cond.code yX12_limb cX12_limb 3 (some .int) ∈ ALL := all_tbl (tb7 (List.mem_of_getElem? (i := 178) rfl)) rfl
theorem w7_182 : Cond.code yX12_image cX12_image 2 (some .int) ∈ ALL := all_tbl (tb7 (List.mem_of_getElem? (i := 182) rfl)) rfl
theorem w7_183 : Cond.methodLink RX12 298 yX12_copyHouse ∈ ALL := all_tbl (tb7 (List.mem_of_getElem? (i := 183) rfl)) rfl
theorem w7_185 : Cond.instanceMethod yX12_copyHouse ∈ ALL := all_tbl (tb7 (List.mem_of_getElem? (i := 185) rfl)) rfl
theorem w7_186 : Cond.code yX12_copyHouse cX12_copyHouse 4 none ∈ ALL := all_tbl (tb7 (List.mem_of_getElem? (i := 186) rfl)) rfl
theorem w7_190 : Cond.code yX12_from cX12_from 2 (some .int) ∈ ALL := all_tbl (tb7 (List.mem_of_getElem? (i := 190) rfl)) rfl
theorem w7_194 : Cond.code yX12_status cX12_status 2 (some .int) ∈ ALL := all_tbl (tb7 (List.mem_of_getElem? (i := 194) rfl)) rfl
theorem w7_198 : Cond.code yX12_count cX12_count 2 (some .int) ∈ ALL := all_tbl (tb7 (List.mem_of_getElem? (i := 198) rfl)) rfl
theorem w7_199 : Cond.methodLink RX12 301 yX12_countOf ∈ ALL := all_tbl (tb7 (List.mem_of_getElem? (i := 199) rfl)) rfl
theorem w7_201 : Cond.instanceMethod yX12_countOf ∈ ALL := all_tbl (tb7 (List.mem_of_getElem? (i := 201) rfl)) rfl
theorem w7_202 : Cond.code yX12_countOf cX12_countOf 2 (some .int) ∈ ALL := all_tbl (tb7 (List.mem_of_getElem? (i := 202) rfl)) rfl
theorem w7_206 : Cond.code yX12_digest cX12_digest 3 (some .long) ∈ ALL := all_tbl (tb7 (List.mem_of_getElem? (i := 206) rfl)) rfl
theorem w7_207 : Cond.constantLong RX12 310 (lN 577) ∈ ALL := all_tbl (tb7 (List.mem_of_getElem? (i := 207) rfl)) rfl
theorem w7_208 : Cond.methodLink RX12 312 yX12_mix ∈ ALL := all_tbl (tb7 (List.mem_of_getElem? (i := 208) rfl)) rfl
theorem w7_210 : Cond.instanceMethod yX12_mix ∈ ALL := all_tbl (tb7 (List.mem_of_getElem? (i := 210) rfl)) rfl
theorem w7_211 : Cond.code yX12_mix cX12_mix 2 none ∈ ALL := all_tbl (tb7 (List.mem_of_getElem? (i := 211) rfl)) rfl
theorem w7_212 : Cond.constantLong RX12 304 (lN 31) ∈ ALL := all_tbl (tb7 (List.mem_of_getElem? (i := 212) rfl)) rfl
theorem wp_0 : Cond.selects RX0 yX0_trim yX0_trim ∈ ALL := all_in (List.mem_append_left _ (List.mem_of_getElem? (i := 0) rfl)) rfl
theorem wp_1 : Cond.selects RX11 yX11_counted yX11_counted ∈ ALL := all_in (List.mem_append_left _ (List.mem_of_getElem? (i := 1) rfl)) rfl
theorem wp_2 : Cond.selects RX3 yX3_areTwoPlaces yX3_areTwoPlaces ∈ ALL := all_in (List.mem_append_left _ (List.mem_of_getElem? (i := 2) rfl)) rfl
theorem wp_3 : Cond.selects RX9 yX9_skipBlanks yX9_skipBlanks ∈ ALL := all_in (List.mem_append_left _ (List.mem_of_getElem? (i := 3) rfl)) rfl
theorem wp_4 : Cond.selects RX9 yX9_readItem yX9_readItem ∈ ALL := all_in (List.mem_append_left _ (List.mem_of_getElem? (i := 4) rfl)) rfl
theorem wp_5 : Cond.selects RX9 yX9_endOfRun yX9_endOfRun ∈ ALL := all_in (List.mem_append_left _ (List.mem_of_getElem? (i := 5) rfl)) rfl
theorem wp_6 : Cond.selects RX9 yX9_kindTo yX9_kindTo ∈ ALL := all_in (List.mem_append_left _ (List.mem_of_getElem? (i := 6) rfl)) rfl
theorem wp_8 : Cond.selects RX9 yX9_valueTo yX9_valueTo ∈ ALL := all_in (List.mem_append_left _ (List.mem_of_getElem? (i := 8) rfl)) rfl
theorem wp_9 : Cond.selects RX10 yX10_startWithWays yX10_startWithWays ∈ ALL := all_in (List.mem_append_left _ (List.mem_of_getElem? (i := 9) rfl)) rfl
theorem wp_10 : Cond.selects RX10 yX10_shortenByRounds yX10_shortenByRounds ∈ ALL := all_in (List.mem_append_left _ (List.mem_of_getElem? (i := 10) rfl)) rfl
theorem wp_11 : Cond.selects RX10 yX10_chooseSteps yX10_chooseSteps ∈ ALL := all_in (List.mem_append_left _ (List.mem_of_getElem? (i := 11) rfl)) rfl
theorem wp_12 : Cond.selects RX11 yX11_canHunt yX11_canHunt ∈ ALL := all_in (List.mem_append_left _ (List.mem_of_getElem? (i := 12) rfl)) rfl
theorem wp_13 : Cond.selects RX4 yX4_layRiddle yX4_layRiddle ∈ ALL := all_in (List.mem_append_left _ (List.mem_of_getElem? (i := 13) rfl)) rfl
theorem wp_14 : Cond.selects RX10 yX10_knownLeg yX10_knownLeg ∈ ALL := all_in (List.mem_append_left _ (List.mem_of_getElem? (i := 14) rfl)) rfl
theorem wp_15 : Cond.selects RX10 yX10_goAlong yX10_goAlong ∈ ALL := all_in (List.mem_append_left _ (List.mem_of_getElem? (i := 15) rfl)) rfl
theorem wp_16 : Cond.selects RX10 yX10_nearest yX10_nearest ∈ ALL := all_in (List.mem_append_left _ (List.mem_of_getElem? (i := 16) rfl)) rfl
theorem wp_17 : Cond.selects RX10 yX10_path yX10_path ∈ ALL := all_in (List.mem_append_left _ (List.mem_of_getElem? (i := 17) rfl)) rfl
theorem wp_18 : Cond.selects RX2 yX2_reduce yX2_reduce ∈ ALL := all_in (List.mem_append_left _ (List.mem_of_getElem? (i := 18) rfl)) rfl
theorem wp_19 : Cond.selects RX8 yX8_addRiddle yX8_addRiddle ∈ ALL := all_in (List.mem_append_left _ (List.mem_of_getElem? (i := 19) rfl)) rfl
theorem wp_20 : Cond.selects RX8 yX8_weigh yX8_weigh ∈ ALL := all_in (List.mem_append_left _ (List.mem_of_getElem? (i := 20) rfl)) rfl
theorem wp_21 : Cond.selects RX4 yX4_exchange yX4_exchange ∈ ALL := all_in (List.mem_append_left _ (List.mem_of_getElem? (i := 21) rfl)) rfl
theorem wp_22 : Cond.selects RX7 yX7_keep yX7_keep ∈ ALL := all_in (List.mem_append_left _ (List.mem_of_getElem? (i := 22) rfl)) rfl
theorem wp_23 : Cond.selects RX1 yX1_prepare yX1_prepare ∈ ALL := all_in (List.mem_append_left _ (List.mem_of_getElem? (i := 23) rfl)) rfl
theorem wp_24 : Cond.selects RX1 yX1_addPlace yX1_addPlace ∈ ALL := all_in (List.mem_append_left _ (List.mem_of_getElem? (i := 24) rfl)) rfl
theorem wp_25 : Cond.selects RX1 yX1_judge yX1_judge ∈ ALL := all_in (List.mem_append_left _ (List.mem_of_getElem? (i := 25) rfl)) rfl
theorem wp_26 : Cond.selects RX1 yX1_leastGuessed yX1_leastGuessed ∈ ALL := all_in (List.mem_append_left _ (List.mem_of_getElem? (i := 26) rfl)) rfl
theorem wp_27 : Cond.selects RX1 yX1_nextChoice yX1_nextChoice ∈ ALL := all_in (List.mem_append_left _ (List.mem_of_getElem? (i := 27) rfl)) rfl
theorem wp_28 : Cond.selects RX11 yX11_howMany yX11_howMany ∈ ALL := all_in (List.mem_append_left _ (List.mem_of_getElem? (i := 28) rfl)) rfl
theorem wp_29 : Cond.selects RX12 yX12_addPlace yX12_addPlace ∈ ALL := all_in (List.mem_append_left _ (List.mem_of_getElem? (i := 29) rfl)) rfl
theorem wp_30 : Cond.selects RX12 yX12_refuse yX12_refuse ∈ ALL := all_in (List.mem_append_left _ (List.mem_of_getElem? (i := 30) rfl)) rfl
theorem wp_31 : Cond.selects RX12 yX12_setWay yX12_setWay ∈ ALL := all_in (List.mem_append_left _ (List.mem_of_getElem? (i := 31) rfl)) rfl
theorem wp_32 : Cond.selects RX12 yX12_isPlace yX12_isPlace ∈ ALL := all_in (List.mem_append_left _ (List.mem_of_getElem? (i := 32) rfl)) rfl
theorem wp_33 : Cond.selects RX12 yX12_setSeen yX12_setSeen ∈ ALL := all_in (List.mem_append_left _ (List.mem_of_getElem? (i := 33) rfl)) rfl
theorem wp_34 : Cond.selects RX12 yX12_mark yX12_mark ∈ ALL := all_in (List.mem_append_left _ (List.mem_of_getElem? (i := 34) rfl)) rfl
theorem wp_35 : Cond.selects RX12 yX12_addChild yX12_addChild ∈ ALL := all_in (List.mem_append_left _ (List.mem_of_getElem? (i := 35) rfl)) rfl
theorem wp_36 : Cond.selects RX12 yX12_setBar yX12_setBar ∈ ALL := all_in (List.mem_append_left _ (List.mem_of_getElem? (i := 36) rfl)) rfl
theorem wp_37 : Cond.selects RX12 yX12_isChild yX12_isChild ∈ ALL := all_in (List.mem_append_left _ (List.mem_of_getElem? (i := 37) rfl)) rfl
theorem wp_38 : Cond.selects RX12 yX12_addSlip yX12_addSlip ∈ ALL := all_in (List.mem_append_left _ (List.mem_of_getElem? (i := 38) rfl)) rfl
theorem wp_39 : Cond.selects RX12 yX12_isSlip yX12_isSlip ∈ ALL := all_in (List.mem_append_left _ (List.mem_of_getElem? (i := 39) rfl)) rfl
theorem wp_40 : Cond.selects RX12 yX12_setMeans yX12_setMeans ∈ ALL := all_in (List.mem_append_left _ (List.mem_of_getElem? (i := 40) rfl)) rfl
theorem wp_41 : Cond.selects RX12 yX12_addRow yX12_addRow ∈ ALL := all_in (List.mem_append_left _ (List.mem_of_getElem? (i := 41) rfl)) rfl
theorem wp_42 : Cond.selects RX12 yX12_next yX12_next ∈ ALL := all_in (List.mem_append_left _ (List.mem_of_getElem? (i := 42) rfl)) rfl
theorem wp_43 : Cond.selects RX12 yX12_here yX12_here ∈ ALL := all_in (List.mem_append_left _ (List.mem_of_getElem? (i := 43) rfl)) rfl
theorem wp_44 : Cond.selects RX12 yX12_due yX12_due ∈ ALL := all_in (List.mem_append_left _ (List.mem_of_getElem? (i := 44) rfl)) rfl
theorem wp_45 : Cond.selects RX12 yX12_build yX12_build ∈ ALL := all_in (List.mem_append_left _ (List.mem_of_getElem? (i := 45) rfl)) rfl
theorem wp_46 : Cond.selects RX12 yX12_findWalks yX12_findWalks ∈ ALL := all_in (List.mem_append_left _ (List.mem_of_getElem? (i := 46) rfl)) rfl
theorem wp_47 : Cond.selects RX12 yX12_isHunt yX12_isHunt ∈ ALL := all_in (List.mem_append_left _ (List.mem_of_getElem? (i := 47) rfl)) rfl
theorem wp_48 : Cond.selects RX12 yX12_takeRow yX12_takeRow ∈ ALL := all_in (List.mem_append_left _ (List.mem_of_getElem? (i := 48) rfl)) rfl
theorem wp_49 : Cond.selects RX12 yX12_findHunt yX12_findHunt ∈ ALL := all_in (List.mem_append_left _ (List.mem_of_getElem? (i := 49) rfl)) rfl
theorem wp_50 : Cond.selects RX12 yX12_isSet yX12_isSet ∈ ALL := all_in (List.mem_append_left _ (List.mem_of_getElem? (i := 50) rfl)) rfl
theorem wp_51 : Cond.selects RX12 yX12_searchFor yX12_searchFor ∈ ALL := all_in (List.mem_append_left _ (List.mem_of_getElem? (i := 51) rfl)) rfl
theorem wp_52 : Cond.selects RX12 yX12_seePath yX12_seePath ∈ ALL := all_in (List.mem_append_left _ (List.mem_of_getElem? (i := 52) rfl)) rfl
theorem wp_53 : Cond.selects RX12 yX12_missesAt yX12_missesAt ∈ ALL := all_in (List.mem_append_left _ (List.mem_of_getElem? (i := 53) rfl)) rfl
theorem wp_54 : Cond.selects RX12 yX12_quickAt yX12_quickAt ∈ ALL := all_in (List.mem_append_left _ (List.mem_of_getElem? (i := 54) rfl)) rfl
theorem wp_55 : Cond.selects RX12 yX12_set yX12_set ∈ ALL := all_in (List.mem_append_left _ (List.mem_of_getElem? (i := 55) rfl)) rfl
theorem wp_56 : Cond.selects RX12 yX12_tell yX12_tell ∈ ALL := all_in (List.mem_append_left _ (List.mem_of_getElem? (i := 56) rfl)) rfl
theorem wp_57 : Cond.selects RX12 yX12_copy yX12_copy ∈ ALL := all_in (List.mem_append_left _ (List.mem_of_getElem? (i := 57) rfl)) rfl
theorem wp_58 : Cond.selects RX12 yX12_isNought yX12_isNought ∈ ALL := all_in (List.mem_append_left _ (List.mem_of_getElem? (i := 58) rfl)) rfl
theorem wp_59 : Cond.selects RX12 yX12_takeOut yX12_takeOut ∈ ALL := all_in (List.mem_append_left _ (List.mem_of_getElem? (i := 59) rfl)) rfl
theorem wp_60 : Cond.selects RX12 yX12_divide yX12_divide ∈ ALL := all_in (List.mem_append_left _ (List.mem_of_getElem? (i := 60) rfl)) rfl
theorem wp_61 : Cond.selects RX12 yX12_times yX12_times ∈ ALL := all_in (List.mem_append_left _ (List.mem_of_getElem? (i := 61) rfl)) rfl
theorem wp_62 : Cond.selects RX12 yX12_leastOf yX12_leastOf ∈ ALL := all_in (List.mem_append_left _ (List.mem_of_getElem? (i := 62) rfl)) rfl
theorem wp_63 : Cond.selects RX12 yX12_lengthTo yX12_lengthTo ∈ ALL := all_in (List.mem_append_left _ (List.mem_of_getElem? (i := 63) rfl)) rfl
theorem wp_64 : Cond.selects RX12 yX12_millions yX12_millions ∈ ALL := all_in (List.mem_append_left _ (List.mem_of_getElem? (i := 64) rfl)) rfl
theorem wp_65 : Cond.selects RX12 yX12_meanTo yX12_meanTo ∈ ALL := all_in (List.mem_append_left _ (List.mem_of_getElem? (i := 65) rfl)) rfl
theorem wp_66 : Cond.selects RX12 yX12_add yX12_add ∈ ALL := all_in (List.mem_append_left _ (List.mem_of_getElem? (i := 66) rfl)) rfl
theorem wp_67 : Cond.selects RX12 yX12_weighLengths yX12_weighLengths ∈ ALL := all_in (List.mem_append_left _ (List.mem_of_getElem? (i := 67) rfl)) rfl
theorem wp_68 : Cond.selects RX12 yX12_spread yX12_spread ∈ ALL := all_in (List.mem_append_left _ (List.mem_of_getElem? (i := 68) rfl)) rfl
theorem wp_69 : Cond.selects RX12 yX12_compare yX12_compare ∈ ALL := all_in (List.mem_append_left _ (List.mem_of_getElem? (i := 69) rfl)) rfl
theorem wp_70 : Cond.selects RX12 yX12_guessedTo yX12_guessedTo ∈ ALL := all_in (List.mem_append_left _ (List.mem_of_getElem? (i := 70) rfl)) rfl
theorem wp_71 : Cond.selects RX12 yX12_guessesAt yX12_guessesAt ∈ ALL := all_in (List.mem_append_left _ (List.mem_of_getElem? (i := 71) rfl)) rfl
theorem wp_72 : Cond.selects RX12 yX12_less yX12_less ∈ ALL := all_in (List.mem_append_left _ (List.mem_of_getElem? (i := 72) rfl)) rfl
theorem wp_73 : Cond.selects RX12 yX12_sortOrder yX12_sortOrder ∈ ALL := all_in (List.mem_append_left _ (List.mem_of_getElem? (i := 73) rfl)) rfl
theorem wp_74 : Cond.selects RX12 yX12_offTo yX12_offTo ∈ ALL := all_in (List.mem_append_left _ (List.mem_of_getElem? (i := 74) rfl)) rfl
theorem wp_75 : Cond.selects RX12 yX12_keepOrder yX12_keepOrder ∈ ALL := all_in (List.mem_append_left _ (List.mem_of_getElem? (i := 75) rfl)) rfl
theorem wp_76 : Cond.selects RX12 yX12_nextOrder yX12_nextOrder ∈ ALL := all_in (List.mem_append_left _ (List.mem_of_getElem? (i := 76) rfl)) rfl
theorem wp_77 : Cond.selects RX12 yX12_swap yX12_swap ∈ ALL := all_in (List.mem_append_left _ (List.mem_of_getElem? (i := 77) rfl)) rfl
theorem wp_78 : Cond.selects RX12 yX12_tryKinds yX12_tryKinds ∈ ALL := all_in (List.mem_append_left _ (List.mem_of_getElem? (i := 78) rfl)) rfl
theorem wp_79 : Cond.selects RX12 yX12_setKinds yX12_setKinds ∈ ALL := all_in (List.mem_append_left _ (List.mem_of_getElem? (i := 79) rfl)) rfl
theorem wp_80 : Cond.selects RX12 yX12_findTimes yX12_findTimes ∈ ALL := all_in (List.mem_append_left _ (List.mem_of_getElem? (i := 80) rfl)) rfl
theorem wp_81 : Cond.selects RX12 yX12_meetings yX12_meetings ∈ ALL := all_in (List.mem_append_left _ (List.mem_of_getElem? (i := 81) rfl)) rfl
theorem wp_82 : Cond.selects RX12 yX12_no yX12_no ∈ ALL := all_in (List.mem_append_left _ (List.mem_of_getElem? (i := 82) rfl)) rfl
theorem wp_83 : Cond.selects RX12 yX12_isSpare yX12_isSpare ∈ ALL := all_in (List.mem_append_left _ (List.mem_of_getElem? (i := 83) rfl)) rfl
theorem wp_84 : Cond.selects RX12 yX12_limbsOf yX12_limbsOf ∈ ALL := all_in (List.mem_append_left _ (List.mem_of_getElem? (i := 84) rfl)) rfl
theorem wp_85 : Cond.selects RX12 yX12_copyHouse yX12_copyHouse ∈ ALL := all_in (List.mem_append_left _ (List.mem_of_getElem? (i := 85) rfl)) rfl
theorem wp_86 : Cond.selects RX12 yX12_countOf yX12_countOf ∈ ALL := all_in (List.mem_append_left _ (List.mem_of_getElem? (i := 86) rfl)) rfl
theorem wp_87 : Cond.selects RX12 yX12_mix yX12_mix ∈ ALL := all_in (List.mem_append_left _ (List.mem_of_getElem? (i := 87) rfl)) rfl
theorem uX0 : ∀ w ∈ u_ws RX0 TX0 2, w ∈ ALL := (List.forall_mem_cons.mpr ⟨w2_21, (List.forall_mem_cons.mpr ⟨w2_23, (fun _ h => absurd h List.not_mem_nil)⟩)⟩)
theorem uX1 : ∀ w ∈ u_ws RX1 TX1 12, w ∈ ALL := (List.forall_mem_cons.mpr ⟨w2_146, (List.forall_mem_cons.mpr ⟨w2_148, (List.forall_mem_cons.mpr ⟨w2_150, (List.forall_mem_cons.mpr ⟨w2_152, (List.forall_mem_cons.mpr ⟨w2_154, (List.forall_mem_cons.mpr ⟨w2_156, (List.forall_mem_cons.mpr ⟨w2_158, (List.forall_mem_cons.mpr ⟨w2_160, (List.forall_mem_cons.mpr ⟨w2_162, (List.forall_mem_cons.mpr ⟨w2_164, (List.forall_mem_cons.mpr ⟨w2_166, (List.forall_mem_cons.mpr ⟨w2_168, (fun _ h => absurd h List.not_mem_nil)⟩)⟩)⟩)⟩)⟩)⟩)⟩)⟩)⟩)⟩)⟩)⟩)
theorem uX2 : ∀ w ∈ u_ws RX2 TX2 2, w ∈ ALL := (List.forall_mem_cons.mpr ⟨w2_195, (List.forall_mem_cons.mpr ⟨w2_197, (fun _ h => absurd h List.not_mem_nil)⟩)⟩)
theorem uX3 : ∀ w ∈ u_ws RX3 TX3 15, w ∈ ALL := (List.forall_mem_cons.mpr ⟨w1_68, (List.forall_mem_cons.mpr ⟨w1_70, (List.forall_mem_cons.mpr ⟨w1_72, (List.forall_mem_cons.mpr ⟨w1_74, (List.forall_mem_cons.mpr ⟨w1_76, (List.forall_mem_cons.mpr ⟨w1_78, (List.forall_mem_cons.mpr ⟨w1_80, (List.forall_mem_cons.mpr ⟨w1_82, (List.forall_mem_cons.mpr ⟨w1_84, (List.forall_mem_cons.mpr ⟨w1_86, (List.forall_mem_cons.mpr ⟨w1_88, (List.forall_mem_cons.mpr ⟨w1_90, (List.forall_mem_cons.mpr ⟨w1_92, (List.forall_mem_cons.mpr ⟨w1_94, (List.forall_mem_cons.mpr ⟨w1_96, (fun _ h => absurd h List.not_mem_nil)⟩)⟩)⟩)⟩)⟩)⟩)⟩)⟩)⟩)⟩)⟩)⟩)⟩)⟩)⟩)
theorem uX4 : ∀ w ∈ u_ws RX4 TX4 13, w ∈ ALL := (List.forall_mem_cons.mpr ⟨w1_217, (List.forall_mem_cons.mpr ⟨w1_219, (List.forall_mem_cons.mpr ⟨w1_221, (List.forall_mem_cons.mpr ⟨w1_223, (List.forall_mem_cons.mpr ⟨w1_225, (List.forall_mem_cons.mpr ⟨w1_227, (List.forall_mem_cons.mpr ⟨w1_229, (List.forall_mem_cons.mpr ⟨w1_231, (List.forall_mem_cons.mpr ⟨w1_233, (List.forall_mem_cons.mpr ⟨w1_235, (List.forall_mem_cons.mpr ⟨w1_237, (List.forall_mem_cons.mpr ⟨w1_239, (List.forall_mem_cons.mpr ⟨w2_1, (fun _ h => absurd h List.not_mem_nil)⟩)⟩)⟩)⟩)⟩)⟩)⟩)⟩)⟩)⟩)⟩)⟩)⟩)
theorem uX5 : ∀ w ∈ u_ws RX5 TX5 9, w ∈ ALL := (List.forall_mem_cons.mpr ⟨w2_40, (List.forall_mem_cons.mpr ⟨w2_42, (List.forall_mem_cons.mpr ⟨w2_44, (List.forall_mem_cons.mpr ⟨w2_46, (List.forall_mem_cons.mpr ⟨w2_48, (List.forall_mem_cons.mpr ⟨w2_50, (List.forall_mem_cons.mpr ⟨w2_52, (List.forall_mem_cons.mpr ⟨w2_54, (List.forall_mem_cons.mpr ⟨w2_56, (fun _ h => absurd h List.not_mem_nil)⟩)⟩)⟩)⟩)⟩)⟩)⟩)⟩)⟩)
theorem uX6 : ∀ w ∈ u_ws RX6 TX6 4, w ∈ ALL := (List.forall_mem_cons.mpr ⟨w1_116, (List.forall_mem_cons.mpr ⟨w1_118, (List.forall_mem_cons.mpr ⟨w1_120, (List.forall_mem_cons.mpr ⟨w1_122, (fun _ h => absurd h List.not_mem_nil)⟩)⟩)⟩)⟩)
theorem uX7 : ∀ w ∈ u_ws RX7 TX7 8, w ∈ ALL := (List.forall_mem_cons.mpr ⟨w2_107, (List.forall_mem_cons.mpr ⟨w2_109, (List.forall_mem_cons.mpr ⟨w2_111, (List.forall_mem_cons.mpr ⟨w2_113, (List.forall_mem_cons.mpr ⟨w2_115, (List.forall_mem_cons.mpr ⟨w2_117, (List.forall_mem_cons.mpr ⟨w2_119, (List.forall_mem_cons.mpr ⟨w2_121, (fun _ h => absurd h List.not_mem_nil)⟩)⟩)⟩)⟩)⟩)⟩)⟩)⟩)
theorem uX8 : ∀ w ∈ u_ws RX8 TX8 6, w ∈ ALL := (List.forall_mem_cons.mpr ⟨w2_75, (List.forall_mem_cons.mpr ⟨w2_77, (List.forall_mem_cons.mpr ⟨w2_79, (List.forall_mem_cons.mpr ⟨w2_81, (List.forall_mem_cons.mpr ⟨w2_83, (List.forall_mem_cons.mpr ⟨w2_85, (fun _ h => absurd h List.not_mem_nil)⟩)⟩)⟩)⟩)⟩)⟩)
theorem uX9 : ∀ w ∈ u_ws RX9 TX9 6, w ∈ ALL := (List.forall_mem_cons.mpr ⟨w1_139, (List.forall_mem_cons.mpr ⟨w1_141, (List.forall_mem_cons.mpr ⟨w1_143, (List.forall_mem_cons.mpr ⟨w1_145, (List.forall_mem_cons.mpr ⟨w1_147, (List.forall_mem_cons.mpr ⟨w1_149, (fun _ h => absurd h List.not_mem_nil)⟩)⟩)⟩)⟩)⟩)⟩)
theorem uX10 : ∀ w ∈ u_ws RX10 TX10 5, w ∈ ALL := (List.forall_mem_cons.mpr ⟨w1_165, (List.forall_mem_cons.mpr ⟨w1_167, (List.forall_mem_cons.mpr ⟨w1_169, (List.forall_mem_cons.mpr ⟨w1_171, (List.forall_mem_cons.mpr ⟨w1_173, (fun _ h => absurd h List.not_mem_nil)⟩)⟩)⟩)⟩)⟩)
theorem uX11 : ∀ w ∈ u_ws RX11 TX11 18, w ∈ ALL := (List.forall_mem_cons.mpr ⟨w2_220, (List.forall_mem_cons.mpr ⟨w2_222, (List.forall_mem_cons.mpr ⟨w2_224, (List.forall_mem_cons.mpr ⟨w2_226, (List.forall_mem_cons.mpr ⟨w2_228, (List.forall_mem_cons.mpr ⟨w2_230, (List.forall_mem_cons.mpr ⟨w2_232, (List.forall_mem_cons.mpr ⟨w2_234, (List.forall_mem_cons.mpr ⟨w2_236, (List.forall_mem_cons.mpr ⟨w2_238, (List.forall_mem_cons.mpr ⟨w3_0, (List.forall_mem_cons.mpr ⟨w3_2, (List.forall_mem_cons.mpr ⟨w3_4, (List.forall_mem_cons.mpr ⟨w3_6, (List.forall_mem_cons.mpr ⟨w3_8, (List.forall_mem_cons.mpr ⟨w3_10, (List.forall_mem_cons.mpr ⟨w3_12, (List.forall_mem_cons.mpr ⟨w3_14, (fun _ h => absurd h List.not_mem_nil)⟩)⟩)⟩)⟩)⟩)⟩)⟩)⟩)⟩)⟩)⟩)⟩)⟩)⟩)⟩)⟩)⟩)⟩)
theorem uX12 : ∀ w ∈ u_ws RX12 TX12 28, w ∈ ALL := (List.forall_mem_cons.mpr ⟨w5_226, (List.forall_mem_cons.mpr ⟨w5_228, (List.forall_mem_cons.mpr ⟨w5_230, (List.forall_mem_cons.mpr ⟨w5_232, (List.forall_mem_cons.mpr ⟨w5_234, (List.forall_mem_cons.mpr ⟨w5_236, (List.forall_mem_cons.mpr ⟨w5_238, (List.forall_mem_cons.mpr ⟨w6_0, (List.forall_mem_cons.mpr ⟨w6_2, (List.forall_mem_cons.mpr ⟨w6_4, (List.forall_mem_cons.mpr ⟨w6_6, (List.forall_mem_cons.mpr ⟨w6_8, (List.forall_mem_cons.mpr ⟨w6_10, (List.forall_mem_cons.mpr ⟨w6_12, (List.forall_mem_cons.mpr ⟨w6_14, (List.forall_mem_cons.mpr ⟨w6_16, (List.forall_mem_cons.mpr ⟨w6_18, (List.forall_mem_cons.mpr ⟨w6_20, (List.forall_mem_cons.mpr ⟨w6_22, (List.forall_mem_cons.mpr ⟨w6_24, (List.forall_mem_cons.mpr ⟨w6_26, (List.forall_mem_cons.mpr ⟨w6_28, (List.forall_mem_cons.mpr ⟨w6_30, (List.forall_mem_cons.mpr ⟨w6_32, (List.forall_mem_cons.mpr ⟨w6_34, (List.forall_mem_cons.mpr ⟨w6_36, (List.forall_mem_cons.mpr ⟨w6_38, (List.forall_mem_cons.mpr ⟨w6_40, (fun _ h => absurd h List.not_mem_nil)⟩)⟩)⟩)⟩)⟩)⟩)⟩)⟩)⟩)⟩)⟩)⟩)⟩)⟩)⟩)⟩)⟩)⟩)⟩)⟩)⟩)⟩)⟩)⟩)⟩)⟩)⟩)⟩)
theorem fs_X0_13 : FS RX0 13 0 1 := ⟨RX0, TX0, 2, rfl, uX0, by decide, w2_18, rfl⟩
theorem fs_X0_9 : FS RX0 9 0 0 := ⟨RX0, TX0, 2, rfl, uX0, by decide, w2_16, rfl⟩
theorem fs_X1_59 : FS RX1 59 4 4 := ⟨RX4, TX4, 13, rfl, uX4, by decide, w1_189, rfl⟩
theorem fs_X1_28 : FS RX1 28 1 6 := ⟨RX1, TX1, 12, rfl, uX1, by decide, w2_140, rfl⟩
theorem fs_X1_51 : FS RX1 51 1 1 := ⟨RX1, TX1, 12, rfl, uX1, by decide, w2_133, rfl⟩
theorem fs_X1_31 : FS RX1 31 1 7 := ⟨RX1, TX1, 12, rfl, uX1, by decide, w2_141, rfl⟩
theorem fs_X1_35 : FS RX1 35 1 8 := ⟨RX1, TX1, 12, rfl, uX1, by decide, w2_142, rfl⟩
theorem fs_X1_87 : FS RX1 87 4 8 := ⟨RX4, TX4, 13, rfl, uX4, by decide, w1_206, rfl⟩
theorem fs_X1_38 : FS RX1 38 1 9 := ⟨RX1, TX1, 12, rfl, uX1, by decide, w2_143, rfl⟩
theorem fs_X1_91 : FS RX1 91 5 3 := ⟨RX5, TX5, 9, rfl, uX5, by decide, w2_32, rfl⟩
theorem fs_X1_94 : FS RX1 94 4 11 := ⟨RX4, TX4, 13, rfl, uX4, by decide, w1_212, rfl⟩
theorem fs_X1_47 : FS RX1 47 1 0 := ⟨RX1, TX1, 12, rfl, uX1, by decide, w2_132, rfl⟩
theorem fs_X1_104 : FS RX1 104 3 3 := ⟨RX3, TX3, 15, rfl, uX3, by decide, w1_42, rfl⟩
theorem fs_X1_41 : FS RX1 41 1 10 := ⟨RX1, TX1, 12, rfl, uX1, by decide, w2_144, rfl⟩
theorem fs_X1_25 : FS RX1 25 1 5 := ⟨RX1, TX1, 12, rfl, uX1, by decide, w2_139, rfl⟩
theorem fs_X1_117 : FS RX1 117 5 4 := ⟨RX5, TX5, 9, rfl, uX5, by decide, w2_35, rfl⟩
theorem fs_X1_22 : FS RX1 22 1 4 := ⟨RX1, TX1, 12, rfl, uX1, by decide, w2_138, rfl⟩
theorem fs_X1_18 : FS RX1 18 1 3 := ⟨RX1, TX1, 12, rfl, uX1, by decide, w2_136, rfl⟩
theorem fs_X1_9 : FS RX1 9 1 2 := ⟨RX1, TX1, 12, rfl, uX1, by decide, w2_134, rfl⟩
theorem fs_X1_44 : FS RX1 44 1 11 := ⟨RX1, TX1, 12, rfl, uX1, by decide, w2_145, rfl⟩
theorem fs_X1_124 : FS RX1 124 3 7 := ⟨RX3, TX3, 15, rfl, uX3, by decide, w1_49, rfl⟩
theorem fs_X1_127 : FS RX1 127 4 3 := ⟨RX4, TX4, 13, rfl, uX4, by decide, w1_187, rfl⟩
theorem fs_X2_10 : FS RX2 10 2 0 := ⟨RX2, TX2, 2, rfl, uX2, by decide, w2_191, rfl⟩
theorem fs_X2_16 : FS RX2 16 2 1 := ⟨RX2, TX2, 2, rfl, uX2, by decide, w2_193, rfl⟩
theorem fs_X2_27 : FS RX2 27 0 1 := ⟨RX0, TX0, 2, rfl, uX0, by decide, w2_19, rfl⟩
theorem fs_X3_48 : FS RX3 48 3 0 := ⟨RX3, TX3, 15, rfl, uX3, by decide, w1_35, rfl⟩
theorem fs_X3_52 : FS RX3 52 3 3 := ⟨RX3, TX3, 15, rfl, uX3, by decide, w1_41, rfl⟩
theorem fs_X3_55 : FS RX3 55 3 8 := ⟨RX3, TX3, 15, rfl, uX3, by decide, w1_52, rfl⟩
theorem fs_X3_9 : FS RX3 9 3 1 := ⟨RX3, TX3, 15, rfl, uX3, by decide, w1_38, rfl⟩
theorem fs_X3_15 : FS RX3 15 3 2 := ⟨RX3, TX3, 15, rfl, uX3, by decide, w1_40, rfl⟩
theorem fs_X3_42 : FS RX3 42 3 13 := ⟨RX3, TX3, 15, rfl, uX3, by decide, w1_63, rfl⟩
theorem fs_X3_18 : FS RX3 18 3 4 := ⟨RX3, TX3, 15, rfl, uX3, by decide, w1_45, rfl⟩
theorem fs_X3_21 : FS RX3 21 3 5 := ⟨RX3, TX3, 15, rfl, uX3, by decide, w1_46, rfl⟩
theorem fs_X3_24 : FS RX3 24 3 6 := ⟨RX3, TX3, 15, rfl, uX3, by decide, w1_47, rfl⟩
theorem fs_X3_27 : FS RX3 27 3 7 := ⟨RX3, TX3, 15, rfl, uX3, by decide, w1_48, rfl⟩
theorem fs_X3_30 : FS RX3 30 3 9 := ⟨RX3, TX3, 15, rfl, uX3, by decide, w1_55, rfl⟩
theorem fs_X3_33 : FS RX3 33 3 10 := ⟨RX3, TX3, 15, rfl, uX3, by decide, w1_57, rfl⟩
theorem fs_X3_36 : FS RX3 36 3 11 := ⟨RX3, TX3, 15, rfl, uX3, by decide, w1_60, rfl⟩
theorem fs_X3_39 : FS RX3 39 3 12 := ⟨RX3, TX3, 15, rfl, uX3, by decide, w1_61, rfl⟩
theorem fs_X3_45 : FS RX3 45 3 14 := ⟨RX3, TX3, 15, rfl, uX3, by decide, w1_66, rfl⟩
theorem fs_X4_42 : FS RX4 42 4 3 := ⟨RX4, TX4, 13, rfl, uX4, by decide, w1_186, rfl⟩
theorem fs_X4_30 : FS RX4 30 4 0 := ⟨RX4, TX4, 13, rfl, uX4, by decide, w1_183, rfl⟩
theorem fs_X4_50 : FS RX4 50 3 13 := ⟨RX3, TX3, 15, rfl, uX3, by decide, w1_64, rfl⟩
theorem fs_X4_55 : FS RX4 55 4 4 := ⟨RX4, TX4, 13, rfl, uX4, by decide, w1_191, rfl⟩
theorem fs_X4_9 : FS RX4 9 4 5 := ⟨RX4, TX4, 13, rfl, uX4, by decide, w1_195, rfl⟩
theorem fs_X4_58 : FS RX4 58 3 14 := ⟨RX3, TX3, 15, rfl, uX3, by decide, w1_67, rfl⟩
theorem fs_X4_34 : FS RX4 34 4 1 := ⟨RX4, TX4, 13, rfl, uX4, by decide, w1_184, rfl⟩
theorem fs_X4_61 : FS RX4 61 6 0 := ⟨RX6, TX6, 4, rfl, uX6, by decide, w1_108, rfl⟩
theorem fs_X4_70 : FS RX4 70 4 11 := ⟨RX4, TX4, 13, rfl, uX4, by decide, w1_211, rfl⟩
theorem fs_X4_73 : FS RX4 73 4 12 := ⟨RX4, TX4, 13, rfl, uX4, by decide, w1_215, rfl⟩
theorem fs_X4_80 : FS RX4 80 3 9 := ⟨RX3, TX3, 15, rfl, uX3, by decide, w1_56, rfl⟩
theorem fs_X4_38 : FS RX4 38 4 2 := ⟨RX4, TX4, 13, rfl, uX4, by decide, w1_185, rfl⟩
theorem fs_X4_15 : FS RX4 15 4 6 := ⟨RX4, TX4, 13, rfl, uX4, by decide, w1_199, rfl⟩
theorem fs_X4_18 : FS RX4 18 4 7 := ⟨RX4, TX4, 13, rfl, uX4, by decide, w1_201, rfl⟩
theorem fs_X4_89 : FS RX4 89 3 10 := ⟨RX3, TX3, 15, rfl, uX3, by decide, w1_58, rfl⟩
theorem fs_X4_24 : FS RX4 24 4 9 := ⟨RX4, TX4, 13, rfl, uX4, by decide, w1_208, rfl⟩
theorem fs_X4_27 : FS RX4 27 4 10 := ⟨RX4, TX4, 13, rfl, uX4, by decide, w1_209, rfl⟩
theorem fs_X4_21 : FS RX4 21 4 8 := ⟨RX4, TX4, 13, rfl, uX4, by decide, w1_205, rfl⟩
theorem fs_X5_37 : FS RX5 37 5 1 := ⟨RX5, TX5, 9, rfl, uX5, by decide, w2_27, rfl⟩
theorem fs_X5_41 : FS RX5 41 6 0 := ⟨RX6, TX6, 4, rfl, uX6, by decide, w1_107, rfl⟩
theorem fs_X5_47 : FS RX5 47 5 2 := ⟨RX5, TX5, 9, rfl, uX5, by decide, w2_28, rfl⟩
theorem fs_X5_12 : FS RX5 12 5 3 := ⟨RX5, TX5, 9, rfl, uX5, by decide, w2_30, rfl⟩
theorem fs_X5_18 : FS RX5 18 5 4 := ⟨RX5, TX5, 9, rfl, uX5, by decide, w2_33, rfl⟩
theorem fs_X5_21 : FS RX5 21 5 5 := ⟨RX5, TX5, 9, rfl, uX5, by decide, w2_36, rfl⟩
theorem fs_X5_63 : FS RX5 63 4 4 := ⟨RX4, TX4, 13, rfl, uX4, by decide, w1_193, rfl⟩
theorem fs_X5_24 : FS RX5 24 5 6 := ⟨RX5, TX5, 9, rfl, uX5, by decide, w2_37, rfl⟩
theorem fs_X5_68 : FS RX5 68 4 7 := ⟨RX4, TX4, 13, rfl, uX4, by decide, w1_203, rfl⟩
theorem fs_X5_78 : FS RX5 78 4 11 := ⟨RX4, TX4, 13, rfl, uX4, by decide, w1_213, rfl⟩
theorem fs_X5_33 : FS RX5 33 5 0 := ⟨RX5, TX5, 9, rfl, uX5, by decide, w2_26, rfl⟩
theorem fs_X5_85 : FS RX5 85 3 10 := ⟨RX3, TX3, 15, rfl, uX3, by decide, w1_59, rfl⟩
theorem fs_X5_90 : FS RX5 90 4 5 := ⟨RX4, TX4, 13, rfl, uX4, by decide, w1_197, rfl⟩
theorem fs_X5_97 : FS RX5 97 4 8 := ⟨RX4, TX4, 13, rfl, uX4, by decide, w1_207, rfl⟩
theorem fs_X5_30 : FS RX5 30 5 8 := ⟨RX5, TX5, 9, rfl, uX5, by decide, w2_39, rfl⟩
theorem fs_X5_100 : FS RX5 100 3 3 := ⟨RX3, TX3, 15, rfl, uX3, by decide, w1_43, rfl⟩
theorem fs_X5_103 : FS RX5 103 3 7 := ⟨RX3, TX3, 15, rfl, uX3, by decide, w1_50, rfl⟩
theorem fs_X5_106 : FS RX5 106 4 3 := ⟨RX4, TX4, 13, rfl, uX4, by decide, w1_188, rfl⟩
theorem fs_X5_27 : FS RX5 27 5 7 := ⟨RX5, TX5, 9, rfl, uX5, by decide, w2_38, rfl⟩
theorem fs_X6_21 : FS RX6 21 6 1 := ⟨RX6, TX6, 4, rfl, uX6, by decide, w1_110, rfl⟩
theorem fs_X6_9 : FS RX6 9 6 0 := ⟨RX6, TX6, 4, rfl, uX6, by decide, w1_106, rfl⟩
theorem fs_X6_15 : FS RX6 15 6 2 := ⟨RX6, TX6, 4, rfl, uX6, by decide, w1_112, rfl⟩
theorem fs_X6_18 : FS RX6 18 6 3 := ⟨RX6, TX6, 4, rfl, uX6, by decide, w1_114, rfl⟩
theorem fs_X7_47 : FS RX7 47 4 5 := ⟨RX4, TX4, 13, rfl, uX4, by decide, w1_196, rfl⟩
theorem fs_X7_34 : FS RX7 34 7 0 := ⟨RX7, TX7, 8, rfl, uX7, by decide, w2_96, rfl⟩
theorem fs_X7_22 : FS RX7 22 7 4 := ⟨RX7, TX7, 8, rfl, uX7, by decide, w2_103, rfl⟩
theorem fs_X7_25 : FS RX7 25 7 5 := ⟨RX7, TX7, 8, rfl, uX7, by decide, w2_104, rfl⟩
theorem fs_X7_60 : FS RX7 60 5 3 := ⟨RX5, TX5, 9, rfl, uX5, by decide, w2_31, rfl⟩
theorem fs_X7_63 : FS RX7 63 4 11 := ⟨RX4, TX4, 13, rfl, uX4, by decide, w1_210, rfl⟩
theorem fs_X7_28 : FS RX7 28 7 6 := ⟨RX7, TX7, 8, rfl, uX7, by decide, w2_105, rfl⟩
theorem fs_X7_71 : FS RX7 71 5 4 := ⟨RX5, TX5, 9, rfl, uX5, by decide, w2_34, rfl⟩
theorem fs_X7_31 : FS RX7 31 7 7 := ⟨RX7, TX7, 8, rfl, uX7, by decide, w2_106, rfl⟩
theorem fs_X7_18 : FS RX7 18 7 3 := ⟨RX7, TX7, 8, rfl, uX7, by decide, w2_101, rfl⟩
theorem fs_X7_89 : FS RX7 89 7 2 := ⟨RX7, TX7, 8, rfl, uX7, by decide, w2_99, rfl⟩
theorem fs_X7_96 : FS RX7 96 4 4 := ⟨RX4, TX4, 13, rfl, uX4, by decide, w1_192, rfl⟩
theorem fs_X7_9 : FS RX7 9 7 1 := ⟨RX7, TX7, 8, rfl, uX7, by decide, w2_97, rfl⟩
theorem fs_X8_28 : FS RX8 28 8 1 := ⟨RX8, TX8, 6, rfl, uX8, by decide, w2_70, rfl⟩
theorem fs_X8_32 : FS RX8 32 8 0 := ⟨RX8, TX8, 6, rfl, uX8, by decide, w2_68, rfl⟩
theorem fs_X8_13 : FS RX8 13 8 2 := ⟨RX8, TX8, 6, rfl, uX8, by decide, w2_71, rfl⟩
theorem fs_X8_39 : FS RX8 39 4 4 := ⟨RX4, TX4, 13, rfl, uX4, by decide, w1_190, rfl⟩
theorem fs_X8_44 : FS RX8 44 4 7 := ⟨RX4, TX4, 13, rfl, uX4, by decide, w1_202, rfl⟩
theorem fs_X8_17 : FS RX8 17 8 3 := ⟨RX8, TX8, 6, rfl, uX8, by decide, w2_72, rfl⟩
theorem fs_X8_20 : FS RX8 20 8 4 := ⟨RX8, TX8, 6, rfl, uX8, by decide, w2_73, rfl⟩
theorem fs_X8_24 : FS RX8 24 8 5 := ⟨RX8, TX8, 6, rfl, uX8, by decide, w2_74, rfl⟩
theorem fs_X9_21 : FS RX9 21 9 1 := ⟨RX9, TX9, 6, rfl, uX9, by decide, w1_132, rfl⟩
theorem fs_X9_9 : FS RX9 9 9 0 := ⟨RX9, TX9, 6, rfl, uX9, by decide, w1_131, rfl⟩
theorem fs_X9_27 : FS RX9 27 9 2 := ⟨RX9, TX9, 6, rfl, uX9, by decide, w1_134, rfl⟩
theorem fs_X9_30 : FS RX9 30 9 5 := ⟨RX9, TX9, 6, rfl, uX9, by decide, w1_138, rfl⟩
theorem fs_X9_18 : FS RX9 18 9 4 := ⟨RX9, TX9, 6, rfl, uX9, by decide, w1_137, rfl⟩
theorem fs_X9_15 : FS RX9 15 9 3 := ⟨RX9, TX9, 6, rfl, uX9, by decide, w1_136, rfl⟩
theorem fs_X10_18 : FS RX10 18 10 3 := ⟨RX10, TX10, 5, rfl, uX10, by decide, w1_163, rfl⟩
theorem fs_X10_24 : FS RX10 24 10 0 := ⟨RX10, TX10, 5, rfl, uX10, by decide, w1_160, rfl⟩
theorem fs_X10_43 : FS RX10 43 3 0 := ⟨RX3, TX3, 15, rfl, uX3, by decide, w1_36, rfl⟩
theorem fs_X10_49 : FS RX10 49 3 1 := ⟨RX3, TX3, 15, rfl, uX3, by decide, w1_39, rfl⟩
theorem fs_X10_9 : FS RX10 9 10 1 := ⟨RX10, TX10, 5, rfl, uX10, by decide, w1_161, rfl⟩
theorem fs_X10_15 : FS RX10 15 10 2 := ⟨RX10, TX10, 5, rfl, uX10, by decide, w1_162, rfl⟩
theorem fs_X10_21 : FS RX10 21 10 4 := ⟨RX10, TX10, 5, rfl, uX10, by decide, w1_164, rfl⟩
theorem fs_X10_66 : FS RX10 66 3 8 := ⟨RX3, TX3, 15, rfl, uX3, by decide, w1_53, rfl⟩
theorem fs_X10_73 : FS RX10 73 3 12 := ⟨RX3, TX3, 15, rfl, uX3, by decide, w1_62, rfl⟩
theorem fs_X11_10 : FS RX11 10 11 0 := ⟨RX11, TX11, 18, rfl, uX11, by decide, w2_202, rfl⟩
theorem fs_X11_22 : FS RX11 22 11 2 := ⟨RX11, TX11, 18, rfl, uX11, by decide, w2_204, rfl⟩
theorem fs_X11_29 : FS RX11 29 11 3 := ⟨RX11, TX11, 18, rfl, uX11, by decide, w2_205, rfl⟩
theorem fs_X11_16 : FS RX11 16 11 1 := ⟨RX11, TX11, 18, rfl, uX11, by decide, w2_203, rfl⟩
theorem fs_X11_177 : FS RX11 177 9 2 := ⟨RX9, TX9, 6, rfl, uX9, by decide, w1_135, rfl⟩
theorem fs_X11_54 : FS RX11 54 11 8 := ⟨RX11, TX11, 18, rfl, uX11, by decide, w2_210, rfl⟩
theorem fs_X11_202 : FS RX11 202 3 13 := ⟨RX3, TX3, 15, rfl, uX3, by decide, w1_65, rfl⟩
theorem fs_X11_63 : FS RX11 63 11 9 := ⟨RX11, TX11, 18, rfl, uX11, by decide, w2_211, rfl⟩
theorem fs_X11_114 : FS RX11 114 11 16 := ⟨RX11, TX11, 18, rfl, uX11, by decide, w2_218, rfl⟩
theorem fs_X11_210 : FS RX11 210 4 7 := ⟨RX4, TX4, 13, rfl, uX4, by decide, w1_204, rfl⟩
theorem fs_X11_107 : FS RX11 107 11 15 := ⟨RX11, TX11, 18, rfl, uX11, by decide, w2_217, rfl⟩
theorem fs_X11_220 : FS RX11 220 4 11 := ⟨RX4, TX4, 13, rfl, uX4, by decide, w1_214, rfl⟩
theorem fs_X11_223 : FS RX11 223 4 12 := ⟨RX4, TX4, 13, rfl, uX4, by decide, w1_216, rfl⟩
theorem fs_X11_226 : FS RX11 226 4 4 := ⟨RX4, TX4, 13, rfl, uX4, by decide, w1_194, rfl⟩
theorem fs_X11_229 : FS RX11 229 6 0 := ⟨RX6, TX6, 4, rfl, uX6, by decide, w1_109, rfl⟩
theorem fs_X11_75 : FS RX11 75 11 11 := ⟨RX11, TX11, 18, rfl, uX11, by decide, w2_213, rfl⟩
theorem fs_X11_239 : FS RX11 239 5 2 := ⟨RX5, TX5, 9, rfl, uX5, by decide, w2_29, rfl⟩
theorem fs_X11_82 : FS RX11 82 11 12 := ⟨RX11, TX11, 18, rfl, uX11, by decide, w2_214, rfl⟩
theorem fs_X11_250 : FS RX11 250 8 0 := ⟨RX8, TX8, 6, rfl, uX8, by decide, w2_69, rfl⟩
theorem fs_X11_251 : FS RX11 251 3 3 := ⟨RX3, TX3, 15, rfl, uX3, by decide, w1_44, rfl⟩
theorem fs_X11_254 : FS RX11 254 3 7 := ⟨RX3, TX3, 15, rfl, uX3, by decide, w1_51, rfl⟩
theorem fs_X11_91 : FS RX11 91 11 13 := ⟨RX11, TX11, 18, rfl, uX11, by decide, w2_215, rfl⟩
theorem fs_X11_271 : FS RX11 271 7 3 := ⟨RX7, TX7, 8, rfl, uX7, by decide, w2_102, rfl⟩
theorem fs_X11_274 : FS RX11 274 7 1 := ⟨RX7, TX7, 8, rfl, uX7, by decide, w2_98, rfl⟩
theorem fs_X11_100 : FS RX11 100 11 14 := ⟨RX11, TX11, 18, rfl, uX11, by decide, w2_216, rfl⟩
theorem fs_X11_281 : FS RX11 281 1 3 := ⟨RX1, TX1, 12, rfl, uX1, by decide, w2_137, rfl⟩
theorem fs_X11_284 : FS RX11 284 1 2 := ⟨RX1, TX1, 12, rfl, uX1, by decide, w2_135, rfl⟩
theorem fs_X11_67 : FS RX11 67 11 10 := ⟨RX11, TX11, 18, rfl, uX11, by decide, w2_212, rfl⟩
theorem fs_X11_293 : FS RX11 293 7 2 := ⟨RX7, TX7, 8, rfl, uX7, by decide, w2_100, rfl⟩
theorem fs_X11_118 : FS RX11 118 11 17 := ⟨RX11, TX11, 18, rfl, uX11, by decide, w2_219, rfl⟩
theorem fs_X11_303 : FS RX11 303 4 5 := ⟨RX4, TX4, 13, rfl, uX4, by decide, w1_198, rfl⟩
theorem fs_X11_309 : FS RX11 309 4 6 := ⟨RX4, TX4, 13, rfl, uX4, by decide, w1_200, rfl⟩
theorem fs_X11_321 : FS RX11 321 6 1 := ⟨RX6, TX6, 4, rfl, uX6, by decide, w1_111, rfl⟩
theorem fs_X11_324 : FS RX11 324 6 2 := ⟨RX6, TX6, 4, rfl, uX6, by decide, w1_113, rfl⟩
theorem fs_X11_327 : FS RX11 327 6 3 := ⟨RX6, TX6, 4, rfl, uX6, by decide, w1_115, rfl⟩
theorem fs_X11_345 : FS RX11 345 2 0 := ⟨RX2, TX2, 2, rfl, uX2, by decide, w2_192, rfl⟩
theorem fs_X11_351 : FS RX11 351 0 1 := ⟨RX0, TX0, 2, rfl, uX0, by decide, w2_20, rfl⟩
theorem fs_X11_354 : FS RX11 354 0 0 := ⟨RX0, TX0, 2, rfl, uX0, by decide, w2_17, rfl⟩
theorem fs_X11_348 : FS RX11 348 2 1 := ⟨RX2, TX2, 2, rfl, uX2, by decide, w2_194, rfl⟩
theorem fs_X11_33 : FS RX11 33 11 4 := ⟨RX11, TX11, 18, rfl, uX11, by decide, w2_206, rfl⟩
theorem fs_X11_37 : FS RX11 37 11 5 := ⟨RX11, TX11, 18, rfl, uX11, by decide, w2_207, rfl⟩
theorem fs_X11_41 : FS RX11 41 11 6 := ⟨RX11, TX11, 18, rfl, uX11, by decide, w2_208, rfl⟩
theorem fs_X11_45 : FS RX11 45 11 7 := ⟨RX11, TX11, 18, rfl, uX11, by decide, w2_209, rfl⟩
theorem fs_X11_380 : FS RX11 380 3 8 := ⟨RX3, TX3, 15, rfl, uX3, by decide, w1_54, rfl⟩
theorem fs_X11_377 : FS RX11 377 3 0 := ⟨RX3, TX3, 15, rfl, uX3, by decide, w1_37, rfl⟩
theorem fs_X11_383 : FS RX11 383 9 1 := ⟨RX9, TX9, 6, rfl, uX9, by decide, w1_133, rfl⟩
theorem fs_X12_17 : FS RX12 17 12 2 := ⟨RX12, TX12, 28, rfl, uX12, by decide, w5_200, rfl⟩
theorem fs_X12_7 : FS RX12 7 12 0 := ⟨RX12, TX12, 28, rfl, uX12, by decide, w5_198, rfl⟩
theorem fs_X12_116 : FS RX12 116 12 4 := ⟨RX12, TX12, 28, rfl, uX12, by decide, w5_202, rfl⟩
theorem fs_X12_20 : FS RX12 20 12 3 := ⟨RX12, TX12, 28, rfl, uX12, by decide, w5_201, rfl⟩
theorem fs_X12_122 : FS RX12 122 12 5 := ⟨RX12, TX12, 28, rfl, uX12, by decide, w5_203, rfl⟩
theorem fs_X12_129 : FS RX12 129 12 6 := ⟨RX12, TX12, 28, rfl, uX12, by decide, w5_204, rfl⟩
theorem fs_X12_132 : FS RX12 132 12 8 := ⟨RX12, TX12, 28, rfl, uX12, by decide, w5_206, rfl⟩
theorem fs_X12_135 : FS RX12 135 12 7 := ⟨RX12, TX12, 28, rfl, uX12, by decide, w5_205, rfl⟩
theorem fs_X12_141 : FS RX12 141 12 9 := ⟨RX12, TX12, 28, rfl, uX12, by decide, w5_207, rfl⟩
theorem fs_X12_24 : FS RX12 24 12 10 := ⟨RX12, TX12, 28, rfl, uX12, by decide, w5_208, rfl⟩
theorem fs_X12_27 : FS RX12 27 12 11 := ⟨RX12, TX12, 28, rfl, uX12, by decide, w5_209, rfl⟩
theorem fs_X12_161 : FS RX12 161 12 12 := ⟨RX12, TX12, 28, rfl, uX12, by decide, w5_210, rfl⟩
theorem fs_X12_168 : FS RX12 168 12 13 := ⟨RX12, TX12, 28, rfl, uX12, by decide, w5_211, rfl⟩
theorem fs_X12_30 : FS RX12 30 12 14 := ⟨RX12, TX12, 28, rfl, uX12, by decide, w5_212, rfl⟩
theorem fs_X12_175 : FS RX12 175 12 17 := ⟨RX12, TX12, 28, rfl, uX12, by decide, w5_215, rfl⟩
theorem fs_X12_33 : FS RX12 33 12 15 := ⟨RX12, TX12, 28, rfl, uX12, by decide, w5_213, rfl⟩
theorem fs_X12_36 : FS RX12 36 12 16 := ⟨RX12, TX12, 28, rfl, uX12, by decide, w5_214, rfl⟩
theorem fs_X12_39 : FS RX12 39 12 18 := ⟨RX12, TX12, 28, rfl, uX12, by decide, w5_216, rfl⟩
theorem fs_X12_210 : FS RX12 210 12 19 := ⟨RX12, TX12, 28, rfl, uX12, by decide, w5_217, rfl⟩
theorem fs_X12_42 : FS RX12 42 12 20 := ⟨RX12, TX12, 28, rfl, uX12, by decide, w5_218, rfl⟩
theorem fs_X12_45 : FS RX12 45 12 21 := ⟨RX12, TX12, 28, rfl, uX12, by decide, w5_219, rfl⟩
theorem fs_X12_57 : FS RX12 57 12 25 := ⟨RX12, TX12, 28, rfl, uX12, by decide, w5_223, rfl⟩
theorem fs_X12_48 : FS RX12 48 12 22 := ⟨RX12, TX12, 28, rfl, uX12, by decide, w5_220, rfl⟩
theorem fs_X12_51 : FS RX12 51 12 23 := ⟨RX12, TX12, 28, rfl, uX12, by decide, w5_221, rfl⟩
theorem fs_X12_54 : FS RX12 54 12 24 := ⟨RX12, TX12, 28, rfl, uX12, by decide, w5_222, rfl⟩
theorem fs_X12_60 : FS RX12 60 12 26 := ⟨RX12, TX12, 28, rfl, uX12, by decide, w5_224, rfl⟩
theorem fs_X12_13 : FS RX12 13 12 1 := ⟨RX12, TX12, 28, rfl, uX12, by decide, w5_199, rfl⟩
theorem fs_X12_306 : FS RX12 306 12 27 := ⟨RX12, TX12, 28, rfl, uX12, by decide, w5_225, rfl⟩
theorem fp_X0_1 : FP 0 1 .int := fun C T N h => by cases h; exact ⟨⟨tyX0, tyX0_ok⟩, nmX0, rfl, tyX0_ok 1 (by decide), fun Z o r => by show 1 < 2; decide⟩
theorem fp_X3_0 : FP 3 0 .int := fun C T N h => by cases h; exact ⟨⟨tyX3, tyX3_ok⟩, nmX3, rfl, tyX3_ok 0 (by decide), fun Z o r => by show 0 < 15; decide⟩
theorem fp_X3_3 : FP 3 3 .int := fun C T N h => by cases h; exact ⟨⟨tyX3, tyX3_ok⟩, nmX3, rfl, tyX3_ok 3 (by decide), fun Z o r => by show 3 < 15; decide⟩
theorem fp_X3_8 : FP 3 8 .int := fun C T N h => by cases h; exact ⟨⟨tyX3, tyX3_ok⟩, nmX3, rfl, tyX3_ok 8 (by decide), fun Z o r => by show 8 < 15; decide⟩
theorem fp_X4_3 : FP 4 3 .int := fun C T N h => by cases h; exact ⟨⟨tyX4, tyX4_ok⟩, nmX4, rfl, tyX4_ok 3 (by decide), fun Z o r => by show 3 < 13; decide⟩
theorem fp_X4_4 : FP 4 4 .int := fun C T N h => by cases h; exact ⟨⟨tyX4, tyX4_ok⟩, nmX4, rfl, tyX4_ok 4 (by decide), fun Z o r => by show 4 < 13; decide⟩
theorem fp_X4_11 : FP 4 11 .int := fun C T N h => by cases h; exact ⟨⟨tyX4, tyX4_ok⟩, nmX4, rfl, tyX4_ok 11 (by decide), fun Z o r => by show 11 < 13; decide⟩
theorem fp_X4_12 : FP 4 12 .int := fun C T N h => by cases h; exact ⟨⟨tyX4, tyX4_ok⟩, nmX4, rfl, tyX4_ok 12 (by decide), fun Z o r => by show 12 < 13; decide⟩
theorem fp_X5_2 : FP 5 2 .int := fun C T N h => by cases h; exact ⟨⟨tyX5, tyX5_ok⟩, nmX5, rfl, tyX5_ok 2 (by decide), fun Z o r => by show 2 < 9; decide⟩
theorem fp_X6_1 : FP 6 1 .int := fun C T N h => by cases h; exact ⟨⟨tyX6, tyX6_ok⟩, nmX6, rfl, tyX6_ok 1 (by decide), fun Z o r => by show 1 < 4; decide⟩
theorem fp_X7_2 : FP 7 2 .int := fun C T N h => by cases h; exact ⟨⟨tyX7, tyX7_ok⟩, nmX7, rfl, tyX7_ok 2 (by decide), fun Z o r => by show 2 < 8; decide⟩
theorem fp_X8_1 : FP 8 1 .int := fun C T N h => by cases h; exact ⟨⟨tyX8, tyX8_ok⟩, nmX8, rfl, tyX8_ok 1 (by decide), fun Z o r => by show 1 < 6; decide⟩
theorem fp_X8_0 : FP 8 0 .int := fun C T N h => by cases h; exact ⟨⟨tyX8, tyX8_ok⟩, nmX8, rfl, tyX8_ok 0 (by decide), fun Z o r => by show 0 < 6; decide⟩
theorem fp_X8_2 : FP 8 2 (.array (.object "SlipHunt$Big")) := fun C T N h => by cases h; exact ⟨⟨tyX8, tyX8_ok⟩, nmX8, rfl, tyX8_ok 2 (by decide), fun Z o r => by show 2 < 6; decide⟩
theorem fp_X8_3 : FP 8 3 (.array (.object "SlipHunt$Big")) := fun C T N h => by cases h; exact ⟨⟨tyX8, tyX8_ok⟩, nmX8, rfl, tyX8_ok 3 (by decide), fun Z o r => by show 3 < 6; decide⟩
theorem fp_X9_1 : FP 9 1 .int := fun C T N h => by cases h; exact ⟨⟨tyX9, tyX9_ok⟩, nmX9, rfl, tyX9_ok 1 (by decide), fun Z o r => by show 1 < 6; decide⟩
theorem fp_X9_2 : FP 9 2 .int := fun C T N h => by cases h; exact ⟨⟨tyX9, tyX9_ok⟩, nmX9, rfl, tyX9_ok 2 (by decide), fun Z o r => by show 2 < 6; decide⟩
theorem fp_X9_5 : FP 9 5 .int := fun C T N h => by cases h; exact ⟨⟨tyX9, tyX9_ok⟩, nmX9, rfl, tyX9_ok 5 (by decide), fun Z o r => by show 5 < 6; decide⟩
theorem fp_X12_4 : FP 12 4 .int := fun C T N h => by cases h; exact ⟨⟨tyX12, tyX12_ok⟩, nmX12, rfl, tyX12_ok 4 (by decide), fun Z o r => by show 4 < 28; decide⟩
theorem fp_X12_5 : FP 12 5 .int := fun C T N h => by cases h; exact ⟨⟨tyX12, tyX12_ok⟩, nmX12, rfl, tyX12_ok 5 (by decide), fun Z o r => by show 5 < 28; decide⟩
theorem fp_X12_6 : FP 12 6 .int := fun C T N h => by cases h; exact ⟨⟨tyX12, tyX12_ok⟩, nmX12, rfl, tyX12_ok 6 (by decide), fun Z o r => by show 6 < 28; decide⟩
theorem fp_X12_8 : FP 12 8 .int := fun C T N h => by cases h; exact ⟨⟨tyX12, tyX12_ok⟩, nmX12, rfl, tyX12_ok 8 (by decide), fun Z o r => by show 8 < 28; decide⟩
theorem fp_X12_7 : FP 12 7 .int := fun C T N h => by cases h; exact ⟨⟨tyX12, tyX12_ok⟩, nmX12, rfl, tyX12_ok 7 (by decide), fun Z o r => by show 7 < 28; decide⟩
theorem fp_X12_9 : FP 12 9 .int := fun C T N h => by cases h; exact ⟨⟨tyX12, tyX12_ok⟩, nmX12, rfl, tyX12_ok 9 (by decide), fun Z o r => by show 9 < 28; decide⟩
theorem fp_X12_12 : FP 12 12 .int := fun C T N h => by cases h; exact ⟨⟨tyX12, tyX12_ok⟩, nmX12, rfl, tyX12_ok 12 (by decide), fun Z o r => by show 12 < 28; decide⟩
theorem fp_X12_13 : FP 12 13 .int := fun C T N h => by cases h; exact ⟨⟨tyX12, tyX12_ok⟩, nmX12, rfl, tyX12_ok 13 (by decide), fun Z o r => by show 13 < 28; decide⟩
theorem fp_X12_17 : FP 12 17 .int := fun C T N h => by cases h; exact ⟨⟨tyX12, tyX12_ok⟩, nmX12, rfl, tyX12_ok 17 (by decide), fun Z o r => by show 17 < 28; decide⟩
theorem fp_X12_19 : FP 12 19 .int := fun C T N h => by cases h; exact ⟨⟨tyX12, tyX12_ok⟩, nmX12, rfl, tyX12_ok 19 (by decide), fun Z o r => by show 19 < 28; decide⟩
theorem fp_X12_27 : FP 12 27 .long := fun C T N h => by cases h; exact ⟨⟨tyX12, tyX12_ok⟩, nmX12, rfl, tyX12_ok 27 (by decide), fun Z o r => by show 27 < 28; decide⟩
abbrev mJ7_fill_53178 : MT := (yJ7_fill_53178, cJ7_fill_53178, 4, none, 1, 40)
abbrev mX0_init : MT := (yX0_init, cX0_init, 1, none, 1, 40)
abbrev mX0_set : MT := (yX0_set, cX0_set, 3, none, 2, 62)
abbrev mX0_copy : MT := (yX0_copy, cX0_copy, 2, none, 1, 40)
abbrev mX0_times : MT := (yX0_times, cX0_times, 5, none, 2, 62)
abbrev mX0_addTimes : MT := (yX0_addTimes, cX0_addTimes, 7, none, 2, 62)
abbrev mX0_addProduct : MT := (yX0_addProduct, cX0_addProduct, 8, none, 2, 62)
abbrev mX0_setDifference : MT := (yX0_setDifference, cX0_setDifference, 10, none, 2, 62)
abbrev mX0_compare : MT := (yX0_compare, cX0_compare, 3, (some .int), 1, 40)
abbrev mX0_rest : MT := (yX0_rest, cX0_rest, 5, (some .int), 1, 40)
abbrev mX0_divide : MT := (yX0_divide, cX0_divide, 5, none, 2, 62)
abbrev mX0_trim : MT := (yX0_trim, cX0_trim, 3, none, 1, 40)
abbrev mX0_digestOnto : MT := (yX0_digestOnto, cX0_digestOnto, 6, (some .long), 1, 40)
abbrev mX1_init : MT := (yX1_init, cX1_init, 4, none, 2, 60)
abbrev mX1_find : MT := (yX1_find, cX1_find, 5, none, 5, 137)
abbrev mX1_prepare : MT := (yX1_prepare, cX1_prepare, 6, none, 4, 112)
abbrev mX1_addPlace : MT := (yX1_addPlace, cX1_addPlace, 5, none, 3, 88)
abbrev mX1_judge : MT := (yX1_judge, cX1_judge, 6, none, 3, 91)
abbrev mX1_leastGuessed : MT := (yX1_leastGuessed, cX1_leastGuessed, 6, (some (.object RX0)), 2, 62)
abbrev mX1_nextChoice : MT := (yX1_nextChoice, cX1_nextChoice, 3, (some .int), 1, 40)
abbrev mX2_init : MT := (yX2_init, cX2_init, 1, none, 3, 84)
abbrev mX2_set : MT := (yX2_set, cX2_set, 3, none, 4, 109)
abbrev mX2_reduce : MT := (yX2_reduce, cX2_reduce, 4, none, 3, 86)
abbrev mX2_setRatio : MT := (yX2_setRatio, cX2_setRatio, 5, none, 3, 84)
abbrev mX2_signOrSize : MT := (yX2_signOrSize, cX2_signOrSize, 2, (some .int), 1, 40)
abbrev mX2_digestOnto : MT := (yX2_digestOnto, cX2_digestOnto, 6, (some .long), 2, 65)
abbrev mX3_init : MT := (yX3_init, cX3_init, 1, none, 1, 40)
abbrev mX3_empty : MT := (yX3_empty, cX3_empty, 1, none, 2, 63)
abbrev mX3_copy : MT := (yX3_copy, cX3_copy, 2, none, 2, 61)
abbrev mX3_copyAll : MT := (yX3_copyAll, cX3_copyAll, 2, none, 1, 40)
abbrev mX3_hasPlace : MT := (yX3_hasPlace, cX3_hasPlace, 2, (some .boolean), 2, 61)
abbrev mX3_areTwoPlaces : MT := (yX3_areTwoPlaces, cX3_areTwoPlaces, 3, (some .boolean), 3, 82)
abbrev mX3_isQuick : MT := (yX3_isQuick, cX3_isQuick, 1, (some .boolean), 2, 61)
abbrev mX3_addPlace : MT := (yX3_addPlace, cX3_addPlace, 1, (some .int), 1, 40)
abbrev mX3_setWay : MT := (yX3_setWay, cX3_setWay, 5, (some .int), 4, 104)
abbrev mX3_addSight : MT := (yX3_addSight, cX3_addSight, 3, (some .int), 4, 104)
abbrev mX3_addChild : MT := (yX3_addChild, cX3_addChild, 7, (some .int), 3, 81)
abbrev mX3_addBar : MT := (yX3_addBar, cX3_addBar, 3, (some .int), 3, 82)
abbrev mX3_setLot : MT := (yX3_setLot, cX3_setLot, 4, (some .int), 2, 61)
abbrev mX3_addSlip : MT := (yX3_addSlip, cX3_addSlip, 3, (some .int), 3, 82)
abbrev mX3_setSpare : MT := (yX3_setSpare, cX3_setSpare, 2, (some .int), 2, 61)
abbrev mX3_addMistaken : MT := (yX3_addMistaken, cX3_addMistaken, 3, (some .int), 3, 82)
abbrev mX3_addToRow : MT := (yX3_addToRow, cX3_addToRow, 5, (some .int), 2, 61)
abbrev mX3_emptyRow : MT := (yX3_emptyRow, cX3_emptyRow, 3, (some .int), 2, 61)
abbrev mX3_isSpareAt : MT := (yX3_isSpareAt, cX3_isSpareAt, 3, (some .boolean), 2, 61)
abbrev mX3_seenFromAny : MT := (yX3_seenFromAny, cX3_seenFromAny, 4, (some .int), 1, 40)
abbrev mX3_quickAt : MT := (yX3_quickAt, cX3_quickAt, 6, (some .int), 2, 61)
abbrev mX3_digestOnto : MT := (yX3_digestOnto, cX3_digestOnto, 7, (some .long), 1, 40)
abbrev mX4_init : MT := (yX4_init, cX4_init, 4, none, 1, 40)
abbrev mX4_take : MT := (yX4_take, cX4_take, 3, none, 2, 61)
abbrev mX4_lay : MT := (yX4_lay, cX4_lay, 6, (some .boolean), 5, 142)
abbrev mX4_layRiddle : MT := (yX4_layRiddle, cX4_layRiddle, 4, none, 4, 112)
abbrev mX4_weigh : MT := (yX4_weigh, cX4_weigh, 7, (some .int), 3, 86)
abbrev mX4_meetings : MT := (yX4_meetings, cX4_meetings, 5, (some .int), 1, 40)
abbrev mX4_sortSlips : MT := (yX4_sortSlips, cX4_sortSlips, 3, none, 2, 63)
abbrev mX4_nextOrder : MT := (yX4_nextOrder, cX4_nextOrder, 5, (some .boolean), 2, 63)
abbrev mX4_exchange : MT := (yX4_exchange, cX4_exchange, 4, none, 1, 40)
abbrev mX5_init : MT := (yX5_init, cX5_init, 3, none, 2, 60)
abbrev mX5_begin : MT := (yX5_begin, cX5_begin, 3, none, 3, 88)
abbrev mX5_ofRiddle : MT := (yX5_ofRiddle, cX5_ofRiddle, 4, none, 3, 88)
abbrev mX5_ofRiddles : MT := (yX5_ofRiddles, cX5_ofRiddles, 4, none, 4, 111)
abbrev mX5_ofLength : MT := (yX5_ofLength, cX5_ofLength, 3, none, 5, 134)
abbrev mX5_ofGuessed : MT := (yX5_ofGuessed, cX5_ofGuessed, 5, none, 4, 112)
abbrev mX5_ofUnfairness : MT := (yX5_ofUnfairness, cX5_ofUnfairness, 5, none, 5, 136)
abbrev mX6_init : MT := (yX6_init, cX6_init, 1, none, 1, 40)
abbrev mX6_copy : MT := (yX6_copy, cX6_copy, 2, none, 1, 40)
abbrev mX6_setNumber : MT := (yX6_setNumber, cX6_setNumber, 4, (some .int), 2, 61)
abbrev mX6_addReport : MT := (yX6_addReport, cX6_addReport, 3, (some .int), 2, 61)
abbrev mX6_digestOnto : MT := (yX6_digestOnto, cX6_digestOnto, 6, (some .long), 1, 40)
abbrev mX7_init : MT := (yX7_init, cX7_init, 2, none, 2, 60)
abbrev mX7_findNearest : MT := (yX7_findNearest, cX7_findNearest, 5, (some .boolean), 6, 167)
abbrev mX7_findApart : MT := (yX7_findApart, cX7_findApart, 6, none, 6, 167)
abbrev mX7_keep : MT := (yX7_keep, cX7_keep, 3, none, 1, 40)
abbrev mX8_init : MT := (yX8_init, cX8_init, 2, none, 2, 60)
abbrev mX8_ofHunt : MT := (yX8_ofHunt, cX8_ofHunt, 5, none, 5, 134)
abbrev mX8_addRiddle : MT := (yX8_addRiddle, cX8_addRiddle, 5, none, 4, 110)
abbrev mX8_weigh : MT := (yX8_weigh, cX8_weigh, 5, none, 3, 86)
abbrev mX8_gather : MT := (yX8_gather, cX8_gather, 5, none, 3, 88)
abbrev mX9_init : MT := (yX9_init, cX9_init, 1, none, 1, 40)
abbrev mX9_addBytes : MT := (yX9_addBytes, cX9_addBytes, 5, (some .int), 1, 40)
abbrev mX9_empty : MT := (yX9_empty, cX9_empty, 2, (some .int), 1, 40)
abbrev mX9_findFault : MT := (yX9_findFault, cX9_findFault, 2, (some .int), 10, 238)
abbrev mX9_readItem : MT := (yX9_readItem, cX9_readItem, 4, (some .boolean), 9, 215)
abbrev mX9_skipBlanks : MT := (yX9_skipBlanks, cX9_skipBlanks, 1, none, 1, 40)
abbrev mX9_endOfRun : MT := (yX9_endOfRun, cX9_endOfRun, 4, (some .int), 1, 40)
abbrev mX9_valueTo : MT := (yX9_valueTo, cX9_valueTo, 4, (some .int), 1, 40)
abbrev mX9_kindTo : MT := (yX9_kindTo, cX9_kindTo, 2, (some .int), 8, 194)
abbrev mX9_spells : MT := (yX9_spells, cX9_spells, 4, (some .boolean), 7, 171)
abbrev mX9_tell : MT := (yX9_tell, cX9_tell, 7, (some .int), 5, 128)
abbrev mX10_init : MT := (yX10_init, cX10_init, 2, none, 1, 40)
abbrev mX10_measure : MT := (yX10_measure, cX10_measure, 1, none, 2, 64)
abbrev mX10_startWithWays : MT := (yX10_startWithWays, cX10_startWithWays, 4, none, 1, 40)
abbrev mX10_shortenByRounds : MT := (yX10_shortenByRounds, cX10_shortenByRounds, 5, none, 1, 40)
abbrev mX10_chooseSteps : MT := (yX10_chooseSteps, cX10_chooseSteps, 5, none, 1, 40)
abbrev mX10_between : MT := (yX10_between, cX10_between, 3, (some .int), 3, 82)
abbrev mX10_leg : MT := (yX10_leg, cX10_leg, 5, (some .int), 4, 118)
abbrev mX10_passed : MT := (yX10_passed, cX10_passed, 5, (some .int), 4, 118)
abbrev mX10_knownLeg : MT := (yX10_knownLeg, cX10_knownLeg, 5, (some .int), 3, 94)
abbrev mX10_goAlong : MT := (yX10_goAlong, cX10_goAlong, 10, none, 2, 65)
abbrev mX10_nearest : MT := (yX10_nearest, cX10_nearest, 6, (some .int), 1, 40)
abbrev mX10_path : MT := (yX10_path, cX10_path, 6, (some .int), 1, 40)
abbrev mX11_init : MT := (yX11_init, cX11_init, 2, none, 4, 104)
abbrev mX11_place : MT := (yX11_place, cX11_place, 1, (some .int), 2, 61)
abbrev mX11_way : MT := (yX11_way, cX11_way, 4, (some .int), 5, 128)
abbrev mX11_sees : MT := (yX11_sees, cX11_sees, 3, (some .int), 5, 126)
abbrev mX11_child : MT := (yX11_child, cX11_child, 6, (some .int), 4, 107)
abbrev mX11_bar : MT := (yX11_bar, cX11_bar, 3, (some .int), 4, 104)
abbrev mX11_join : MT := (yX11_join, cX11_join, 4, (some .int), 3, 84)
abbrev mX11_slip : MT := (yX11_slip, cX11_slip, 3, (some .int), 4, 104)
abbrev mX11_spare : MT := (yX11_spare, cX11_spare, 2, (some .int), 3, 82)
abbrev mX11_means : MT := (yX11_means, cX11_means, 3, (some .int), 4, 104)
abbrev mX11_row : MT := (yX11_row, cX11_row, 3, (some .int), 3, 85)
abbrev mX11_unrow : MT := (yX11_unrow, cX11_unrow, 2, (some .int), 3, 83)
abbrev mX11_put : MT := (yX11_put, cX11_put, 3, (some .int), 3, 84)
abbrev mX11_type : MT := (yX11_type, cX11_type, 4, (some .int), 2, 64)
abbrev mX11_clear : MT := (yX11_clear, cX11_clear, 1, (some .int), 2, 61)
abbrev mX11_house : MT := (yX11_house, cX11_house, 3, (some .int), 11, 259)
abbrev mX11_walk : MT := (yX11_walk, cX11_walk, 3, (some .int), 4, 104)
abbrev mX11_riddles : MT := (yX11_riddles, cX11_riddles, 3, (some .int), 7, 189)
abbrev mX11_length : MT := (yX11_length, cX11_length, 3, (some .int), 7, 189)
abbrev mX11_ends : MT := (yX11_ends, cX11_ends, 4, (some .int), 7, 189)
abbrev mX11_guessed : MT := (yX11_guessed, cX11_guessed, 3, (some .int), 7, 189)
abbrev mX11_fair : MT := (yX11_fair, cX11_fair, 2, (some .int), 7, 189)
abbrev mX11_order : MT := (yX11_order, cX11_order, 3, (some .int), 7, 191)
abbrev mX11_kinds : MT := (yX11_kinds, cX11_kinds, 3, (some .int), 7, 189)
abbrev mX11_meet : MT := (yX11_meet, cX11_meet, 1, (some .int), 7, 189)
abbrev mX11_apart : MT := (yX11_apart, cX11_apart, 2, (some .int), 7, 192)
abbrev mX11_sooner : MT := (yX11_sooner, cX11_sooner, 4, (some .int), 7, 189)
abbrev mX11_hangs : MT := (yX11_hangs, cX11_hangs, 4, (some .int), 3, 83)
abbrev mX11_bears : MT := (yX11_bears, cX11_bears, 8, (some .int), 5, 131)
abbrev mX11_soon : MT := (yX11_soon, cX11_soon, 6, (some .int), 7, 189)
abbrev mX11_report : MT := (yX11_report, cX11_report, 3, (some .int), 3, 83)
abbrev mX11_hard : MT := (yX11_hard, cX11_hard, 9, (some .int), 4, 108)
abbrev mX11_sign : MT := (yX11_sign, cX11_sign, 2, (some .int), 2, 61)
abbrev mX11_limb : MT := (yX11_limb, cX11_limb, 4, (some .int), 2, 61)
abbrev mX11_image : MT := (yX11_image, cX11_image, 2, (some .int), 3, 82)
abbrev mX11_from : MT := (yX11_from, cX11_from, 2, (some .int), 3, 82)
abbrev mX11_status : MT := (yX11_status, cX11_status, 2, (some .int), 2, 61)
abbrev mX11_count : MT := (yX11_count, cX11_count, 2, (some .int), 2, 61)
abbrev mX11_digest : MT := (yX11_digest, cX11_digest, 4, (some .long), 3, 90)
abbrev mX11_within : MT := (yX11_within, cX11_within, 2, (some .boolean), 1, 40)
abbrev mX11_counted : MT := (yX11_counted, cX11_counted, 2, (some .int), 1, 40)
abbrev mX11_canHunt : MT := (yX11_canHunt, cX11_canHunt, 3, (some .boolean), 6, 167)
abbrev mX11_howMany : MT := (yX11_howMany, cX11_howMany, 2, (some .int), 1, 40)
abbrev mX12_init : MT := (yX12_init, cX12_init, 1, none, 1, 40)
abbrev mX12_in : MT := (yX12_in, cX12_in, 3, (some .boolean), 1, 40)
abbrev mX12_refuse : MT := (yX12_refuse, cX12_refuse, 2, (some .int), 1, 40)
abbrev mX12_no : MT := (yX12_no, cX12_no, 2, (some .int), 2, 61)
abbrev mX12_isPlace : MT := (yX12_isPlace, cX12_isPlace, 3, (some .boolean), 2, 62)
abbrev mX12_isChild : MT := (yX12_isChild, cX12_isChild, 3, (some .boolean), 2, 62)
abbrev mX12_isSlip : MT := (yX12_isSlip, cX12_isSlip, 3, (some .boolean), 2, 62)
abbrev mX12_isLot : MT := (yX12_isLot, cX12_isLot, 1, (some .boolean), 2, 62)
abbrev mX12_addPlace : MT := (yX12_addPlace, cX12_addPlace, 4, (some .int), 1, 40)
abbrev mX12_setWay : MT := (yX12_setWay, cX12_setWay, 6, (some .int), 3, 84)
abbrev mX12_mark : MT := (yX12_mark, cX12_mark, 3, (some .int), 1, 40)
abbrev mX12_setSeen : MT := (yX12_setSeen, cX12_setSeen, 4, (some .int), 3, 84)
abbrev mX12_addChild : MT := (yX12_addChild, cX12_addChild, 8, (some .int), 2, 62)
abbrev mX12_setBar : MT := (yX12_setBar, cX12_setBar, 4, (some .int), 3, 84)
abbrev mX12_addSlip : MT := (yX12_addSlip, cX12_addSlip, 5, (some .int), 3, 84)
abbrev mX12_setMeans : MT := (yX12_setMeans, cX12_setMeans, 4, (some .int), 3, 84)
abbrev mX12_addRow : MT := (yX12_addRow, cX12_addRow, 6, (some .int), 3, 84)
abbrev mX12_place : MT := (yX12_place, cX12_place, 1, (some .int), 2, 63)
abbrev mX12_way : MT := (yX12_way, cX12_way, 4, (some .int), 4, 109)
abbrev mX12_sees : MT := (yX12_sees, cX12_sees, 3, (some .int), 4, 107)
abbrev mX12_child : MT := (yX12_child, cX12_child, 6, (some .int), 3, 89)
abbrev mX12_bar : MT := (yX12_bar, cX12_bar, 3, (some .int), 4, 107)
abbrev mX12_join : MT := (yX12_join, cX12_join, 4, (some .int), 3, 84)
abbrev mX12_slip : MT := (yX12_slip, cX12_slip, 3, (some .int), 4, 108)
abbrev mX12_spare : MT := (yX12_spare, cX12_spare, 2, (some .int), 3, 84)
abbrev mX12_means : MT := (yX12_means, cX12_means, 3, (some .int), 4, 107)
abbrev mX12_row : MT := (yX12_row, cX12_row, 3, (some .int), 4, 109)
abbrev mX12_unrow : MT := (yX12_unrow, cX12_unrow, 3, (some .int), 3, 82)
abbrev mX12_put : MT := (yX12_put, cX12_put, 6, (some .int), 2, 62)
abbrev mX12_type : MT := (yX12_type, cX12_type, 5, (some .int), 2, 62)
abbrev mX12_clear : MT := (yX12_clear, cX12_clear, 2, (some .int), 1, 40)
abbrev mX12_here : MT := (yX12_here, cX12_here, 1, (some .int), 1, 40)
abbrev mX12_meaning : MT := (yX12_meaning, cX12_meaning, 1, (some .int), 1, 40)
abbrev mX12_next : MT := (yX12_next, cX12_next, 3, none, 2, 62)
abbrev mX12_due : MT := (yX12_due, cX12_due, 3, (some .int), 3, 84)
abbrev mX12_numbersOf : MT := (yX12_numbersOf, cX12_numbersOf, 1, (some .int), 1, 40)
abbrev mX12_build : MT := (yX12_build, cX12_build, 4, (some .int), 4, 109)
abbrev mX12_house : MT := (yX12_house, cX12_house, 6, (some .int), 5, 132)
abbrev mX12_findWalks : MT := (yX12_findWalks, cX12_findWalks, 5, none, 1, 40)
abbrev mX12_walk : MT := (yX12_walk, cX12_walk, 3, (some .int), 3, 84)
abbrev mX12_seePath : MT := (yX12_seePath, cX12_seePath, 5, none, 1, 40)
abbrev mX12_searchFor : MT := (yX12_searchFor, cX12_searchFor, 11, (some .int), 2, 64)
abbrev mX12_isSet : MT := (yX12_isSet, cX12_isSet, 1, (some .boolean), 1, 40)
abbrev mX12_takeRow : MT := (yX12_takeRow, cX12_takeRow, 3, none, 1, 40)
abbrev mX12_findHunt : MT := (yX12_findHunt, cX12_findHunt, 2, (some .boolean), 3, 94)
abbrev mX12_isHunt : MT := (yX12_isHunt, cX12_isHunt, 2, (some .boolean), 4, 115)
abbrev mX12_quickAt : MT := (yX12_quickAt, cX12_quickAt, 5, (some .int), 1, 40)
abbrev mX12_missesAt : MT := (yX12_missesAt, cX12_missesAt, 7, (some .int), 2, 64)
abbrev mX12_guessesAt : MT := (yX12_guessesAt, cX12_guessesAt, 8, (some .int), 2, 64)
abbrev mX12_set : MT := (yX12_set, cX12_set, 4, none, 1, 40)
abbrev mX12_copy : MT := (yX12_copy, cX12_copy, 4, none, 1, 40)
abbrev mX12_times : MT := (yX12_times, cX12_times, 8, none, 1, 40)
abbrev mX12_millions : MT := (yX12_millions, cX12_millions, 4, none, 2, 67)
abbrev mX12_add : MT := (yX12_add, cX12_add, 7, none, 1, 40)
abbrev mX12_less : MT := (yX12_less, cX12_less, 6, none, 1, 40)
abbrev mX12_compare : MT := (yX12_compare, cX12_compare, 6, (some .int), 1, 40)
abbrev mX12_divide : MT := (yX12_divide, cX12_divide, 8, (some .int), 1, 40)
abbrev mX12_isNought : MT := (yX12_isNought, cX12_isNought, 4, (some .boolean), 1, 40)
abbrev mX12_limbsOf : MT := (yX12_limbsOf, cX12_limbsOf, 3, (some .int), 1, 40)
abbrev mX12_takeOut : MT := (yX12_takeOut, cX12_takeOut, 5, (some .int), 2, 67)
abbrev mX12_tell : MT := (yX12_tell, cX12_tell, 6, none, 3, 91)
abbrev mX12_meanTo : MT := (yX12_meanTo, cX12_meanTo, 6, none, 3, 90)
abbrev mX12_lengthTo : MT := (yX12_lengthTo, cX12_lengthTo, 4, none, 4, 115)
abbrev mX12_offTo : MT := (yX12_offTo, cX12_offTo, 3, none, 3, 90)
abbrev mX12_leastOf : MT := (yX12_leastOf, cX12_leastOf, 3, (some .int), 3, 90)
abbrev mX12_riddles : MT := (yX12_riddles, cX12_riddles, 3, (some .int), 5, 136)
abbrev mX12_length : MT := (yX12_length, cX12_length, 5, (some .int), 5, 138)
abbrev mX12_weighLengths : MT := (yX12_weighLengths, cX12_weighLengths, 8, (some .int), 4, 114)
abbrev mX12_spread : MT := (yX12_spread, cX12_spread, 5, none, 3, 90)
abbrev mX12_ends : MT := (yX12_ends, cX12_ends, 6, (some .int), 5, 141)
abbrev mX12_sooner : MT := (yX12_sooner, cX12_sooner, 6, (some .int), 5, 141)
abbrev mX12_guessedTo : MT := (yX12_guessedTo, cX12_guessedTo, 5, none, 4, 115)
abbrev mX12_guessed : MT := (yX12_guessed, cX12_guessed, 2, (some .int), 5, 139)
abbrev mX12_fair : MT := (yX12_fair, cX12_fair, 4, (some .int), 5, 139)
abbrev mX12_sortOrder : MT := (yX12_sortOrder, cX12_sortOrder, 4, none, 1, 40)
abbrev mX12_nextOrder : MT := (yX12_nextOrder, cX12_nextOrder, 5, (some .boolean), 2, 63)
abbrev mX12_swap : MT := (yX12_swap, cX12_swap, 4, none, 1, 40)
abbrev mX12_keepOrder : MT := (yX12_keepOrder, cX12_keepOrder, 2, none, 1, 40)
abbrev mX12_order : MT := (yX12_order, cX12_order, 5, (some .int), 5, 138)
abbrev mX12_kinds : MT := (yX12_kinds, cX12_kinds, 7, (some .int), 5, 137)
abbrev mX12_setKinds : MT := (yX12_setKinds, cX12_setKinds, 4, none, 1, 40)
abbrev mX12_tryKinds : MT := (yX12_tryKinds, cX12_tryKinds, 6, none, 4, 112)
abbrev mX12_findTimes : MT := (yX12_findTimes, cX12_findTimes, 5, none, 4, 112)
abbrev mX12_meetings : MT := (yX12_meetings, cX12_meetings, 4, (some .int), 1, 40)
abbrev mX12_meet : MT := (yX12_meet, cX12_meet, 2, (some .int), 5, 136)
abbrev mX12_apart : MT := (yX12_apart, cX12_apart, 5, (some .int), 5, 136)
abbrev mX12_isSpare : MT := (yX12_isSpare, cX12_isSpare, 2, (some .boolean), 1, 40)
abbrev mX12_hangs : MT := (yX12_hangs, cX12_hangs, 4, (some .int), 3, 82)
abbrev mX12_bears : MT := (yX12_bears, cX12_bears, 5, (some .int), 4, 116)
abbrev mX12_soon : MT := (yX12_soon, cX12_soon, 5, (some .int), 5, 136)
abbrev mX12_report : MT := (yX12_report, cX12_report, 4, (some .int), 2, 62)
abbrev mX12_common : MT := (yX12_common, cX12_common, 5, (some .int), 1, 40)
abbrev mX12_hard : MT := (yX12_hard, cX12_hard, 9, (some .int), 2, 64)
abbrev mX12_sign : MT := (yX12_sign, cX12_sign, 2, (some .int), 2, 62)
abbrev mX12_limb : MT := (yX12_limb, cX12_limb, 3, (some .int), 2, 62)
abbrev mX12_copyHouse : MT := (yX12_copyHouse, cX12_copyHouse, 4, none, 1, 40)
abbrev mX12_image : MT := (yX12_image, cX12_image, 2, (some .int), 2, 63)
abbrev mX12_from : MT := (yX12_from, cX12_from, 2, (some .int), 3, 82)
abbrev mX12_status : MT := (yX12_status, cX12_status, 2, (some .int), 2, 62)
abbrev mX12_countOf : MT := (yX12_countOf, cX12_countOf, 2, (some .int), 1, 40)
abbrev mX12_count : MT := (yX12_count, cX12_count, 2, (some .int), 2, 62)
abbrev mX12_mix : MT := (yX12_mix, cX12_mix, 2, none, 1, 40)
abbrev mX12_digest : MT := (yX12_digest, cX12_digest, 3, (some .long), 2, 62)
theorem kJ7_fill_53178 : okM mJ7_fill_53178 2 := ⟨w4_11, w1_19, by decide +kernel, by decide +kernel, by decide +kernel⟩
theorem kX0_init : okM mX0_init 0 := ⟨w2_14, w1_8, by decide +kernel, by decide +kernel, by decide +kernel⟩
theorem kX0_set : okM mX0_set 1 := ⟨w2_182, w1_8, by decide +kernel, by decide +kernel, by decide +kernel⟩
theorem kX0_copy : okM mX0_copy 1 := ⟨w4_129, w1_8, by decide +kernel, by decide +kernel, by decide +kernel⟩
theorem kX0_times : okM mX0_times 1 := ⟨w4_149, w1_8, by decide +kernel, by decide +kernel, by decide +kernel⟩
theorem kX0_addTimes : okM mX0_addTimes 2 := ⟨w4_165, w1_8, by decide +kernel, by decide +kernel, by decide +kernel⟩
theorem kX0_addProduct : okM mX0_addProduct 2 := ⟨w4_201, w1_8, by decide +kernel, by decide +kernel, by decide +kernel⟩
theorem kX0_setDifference : okM mX0_setDifference 2 := ⟨w4_236, w1_8, by decide +kernel, by decide +kernel, by decide +kernel⟩
theorem kX0_compare : okM mX0_compare 1 := ⟨w4_231, w1_8, by decide +kernel, by decide +kernel, by decide +kernel⟩
theorem kX0_rest : okM mX0_rest 1 := ⟨w4_141, w1_8, by decide +kernel, by decide +kernel, by decide +kernel⟩
theorem kX0_divide : okM mX0_divide 1 := ⟨w4_145, w1_8, by decide +kernel, by decide +kernel, by decide +kernel⟩
theorem kX0_trim : okM mX0_trim 1 := ⟨w2_187, w1_8, by decide +kernel, by decide +kernel, by decide +kernel⟩
theorem kX0_digestOnto : okM mX0_digestOnto 1 := ⟨w5_190, w1_8, by decide +kernel, by decide +kernel, by decide +kernel⟩
theorem kX1_init : okM mX1_init 2 := ⟨w2_128, w1_11, by decide +kernel, by decide +kernel, by decide +kernel⟩
theorem kX1_find : okM mX1_find 1 := ⟨w5_35, w1_11, by decide +kernel, by decide +kernel, by decide +kernel⟩
theorem kX1_prepare : okM mX1_prepare 1 := ⟨w5_39, w1_11, by decide +kernel, by decide +kernel, by decide +kernel⟩
theorem kX1_addPlace : okM mX1_addPlace 1 := ⟨w5_47, w1_11, by decide +kernel, by decide +kernel, by decide +kernel⟩
theorem kX1_judge : okM mX1_judge 2 := ⟨w5_52, w1_11, by decide +kernel, by decide +kernel, by decide +kernel⟩
theorem kX1_leastGuessed : okM mX1_leastGuessed 1 := ⟨w5_56, w1_11, by decide +kernel, by decide +kernel, by decide +kernel⟩
theorem kX1_nextChoice : okM mX1_nextChoice 1 := ⟨w5_62, w1_11, by decide +kernel, by decide +kernel, by decide +kernel⟩
theorem kX2_init : okM mX2_init 0 := ⟨w2_175, w1_12, by decide +kernel, by decide +kernel, by decide +kernel⟩
theorem kX2_set : okM mX2_set 2 := ⟨w4_125, w1_12, by decide +kernel, by decide +kernel, by decide +kernel⟩
theorem kX2_reduce : okM mX2_reduce 2 := ⟨w4_137, w1_12, by decide +kernel, by decide +kernel, by decide +kernel⟩
theorem kX2_setRatio : okM mX2_setRatio 2 := ⟨w5_127, w1_12, by decide +kernel, by decide +kernel, by decide +kernel⟩
theorem kX2_signOrSize : okM mX2_signOrSize 1 := ⟨w5_135, w1_12, by decide +kernel, by decide +kernel, by decide +kernel⟩
theorem kX2_digestOnto : okM mX2_digestOnto 1 := ⟨w5_184, w1_12, by decide +kernel, by decide +kernel, by decide +kernel⟩
theorem kX3_init : okM mX3_init 0 := ⟨w1_33, w1_2, by decide +kernel, by decide +kernel, by decide +kernel⟩
theorem kX3_empty : okM mX3_empty 0 := ⟨w4_8, w1_2, by decide +kernel, by decide +kernel, by decide +kernel⟩
theorem kX3_copy : okM mX3_copy 1 := ⟨w4_30, w1_2, by decide +kernel, by decide +kernel, by decide +kernel⟩
theorem kX3_copyAll : okM mX3_copyAll 2 := ⟨w4_33, w1_2, by decide +kernel, by decide +kernel, by decide +kernel⟩
theorem kX3_hasPlace : okM mX3_hasPlace 1 := ⟨w3_44, w1_2, by decide +kernel, by decide +kernel, by decide +kernel⟩
theorem kX3_areTwoPlaces : okM mX3_areTwoPlaces 2 := ⟨w3_40, w1_2, by decide +kernel, by decide +kernel, by decide +kernel⟩
theorem kX3_isQuick : okM mX3_isQuick 1 := ⟨w3_66, w1_2, by decide +kernel, by decide +kernel, by decide +kernel⟩
theorem kX3_addPlace : okM mX3_addPlace 0 := ⟨w3_24, w1_2, by decide +kernel, by decide +kernel, by decide +kernel⟩
theorem kX3_setWay : okM mX3_setWay 3 := ⟨w3_36, w1_2, by decide +kernel, by decide +kernel, by decide +kernel⟩
theorem kX3_addSight : okM mX3_addSight 2 := ⟨w3_55, w1_2, by decide +kernel, by decide +kernel, by decide +kernel⟩
theorem kX3_addChild : okM mX3_addChild 5 := ⟨w3_63, w1_2, by decide +kernel, by decide +kernel, by decide +kernel⟩
theorem kX3_addBar : okM mX3_addBar 2 := ⟨w3_74, w1_2, by decide +kernel, by decide +kernel, by decide +kernel⟩
theorem kX3_setLot : okM mX3_setLot 2 := ⟨w3_82, w1_2, by decide +kernel, by decide +kernel, by decide +kernel⟩
theorem kX3_addSlip : okM mX3_addSlip 2 := ⟨w3_90, w1_2, by decide +kernel, by decide +kernel, by decide +kernel⟩
theorem kX3_setSpare : okM mX3_setSpare 1 := ⟨w3_98, w1_2, by decide +kernel, by decide +kernel, by decide +kernel⟩
theorem kX3_addMistaken : okM mX3_addMistaken 2 := ⟨w3_106, w1_2, by decide +kernel, by decide +kernel, by decide +kernel⟩
theorem kX3_addToRow : okM mX3_addToRow 2 := ⟨w3_114, w1_2, by decide +kernel, by decide +kernel, by decide +kernel⟩
theorem kX3_emptyRow : okM mX3_emptyRow 1 := ⟨w3_122, w1_2, by decide +kernel, by decide +kernel, by decide +kernel⟩
theorem kX3_isSpareAt : okM mX3_isSpareAt 2 := ⟨w5_93, w1_2, by decide +kernel, by decide +kernel, by decide +kernel⟩
theorem kX3_seenFromAny : okM mX3_seenFromAny 1 := ⟨w5_109, w1_2, by decide +kernel, by decide +kernel, by decide +kernel⟩
theorem kX3_quickAt : okM mX3_quickAt 4 := ⟨w4_98, w1_2, by decide +kernel, by decide +kernel, by decide +kernel⟩
theorem kX3_digestOnto : okM mX3_digestOnto 1 := ⟨w5_174, w1_2, by decide +kernel, by decide +kernel, by decide +kernel⟩
theorem kX4_init : okM mX4_init 3 := ⟨w1_181, w1_6, by decide +kernel, by decide +kernel, by decide +kernel⟩
theorem kX4_take : okM mX4_take 1 := ⟨w4_79, w1_6, by decide +kernel, by decide +kernel, by decide +kernel⟩
theorem kX4_lay : okM mX4_lay 0 := ⟨w4_84, w1_6, by decide +kernel, by decide +kernel, by decide +kernel⟩
theorem kX4_layRiddle : okM mX4_layRiddle 2 := ⟨w4_89, w1_6, by decide +kernel, by decide +kernel, by decide +kernel⟩
theorem kX4_weigh : okM mX4_weigh 2 := ⟨w4_93, w1_6, by decide +kernel, by decide +kernel, by decide +kernel⟩
theorem kX4_meetings : okM mX4_meetings 1 := ⟨w5_70, w1_6, by decide +kernel, by decide +kernel, by decide +kernel⟩
theorem kX4_sortSlips : okM mX4_sortSlips 0 := ⟨w5_9, w1_6, by decide +kernel, by decide +kernel, by decide +kernel⟩
theorem kX4_nextOrder : okM mX4_nextOrder 0 := ⟨w5_27, w1_6, by decide +kernel, by decide +kernel, by decide +kernel⟩
theorem kX4_exchange : okM mX4_exchange 2 := ⟨w5_13, w1_6, by decide +kernel, by decide +kernel, by decide +kernel⟩
theorem kX5_init : okM mX5_init 2 := ⟨w2_8, w1_7, by decide +kernel, by decide +kernel, by decide +kernel⟩
theorem kX5_begin : okM mX5_begin 0 := ⟨w4_158, w1_7, by decide +kernel, by decide +kernel, by decide +kernel⟩
theorem kX5_ofRiddle : okM mX5_ofRiddle 2 := ⟨w4_177, w1_7, by decide +kernel, by decide +kernel, by decide +kernel⟩
theorem kX5_ofRiddles : okM mX5_ofRiddles 2 := ⟨w4_173, w1_7, by decide +kernel, by decide +kernel, by decide +kernel⟩
theorem kX5_ofLength : okM mX5_ofLength 2 := ⟨w4_169, w1_7, by decide +kernel, by decide +kernel, by decide +kernel⟩
theorem kX5_ofGuessed : okM mX5_ofGuessed 3 := ⟨w4_216, w1_7, by decide +kernel, by decide +kernel, by decide +kernel⟩
theorem kX5_ofUnfairness : okM mX5_ofUnfairness 2 := ⟨w4_226, w1_7, by decide +kernel, by decide +kernel, by decide +kernel⟩
theorem kX6_init : okM mX6_init 0 := ⟨w1_104, w1_3, by decide +kernel, by decide +kernel, by decide +kernel⟩
theorem kX6_copy : okM mX6_copy 1 := ⟨w5_147, w1_3, by decide +kernel, by decide +kernel, by decide +kernel⟩
theorem kX6_setNumber : okM mX6_setNumber 2 := ⟨w3_130, w1_3, by decide +kernel, by decide +kernel, by decide +kernel⟩
theorem kX6_addReport : okM mX6_addReport 2 := ⟨w5_117, w1_3, by decide +kernel, by decide +kernel, by decide +kernel⟩
theorem kX6_digestOnto : okM mX6_digestOnto 1 := ⟨w5_179, w1_3, by decide +kernel, by decide +kernel, by decide +kernel⟩
theorem kX7_init : okM mX7_init 1 := ⟨w2_92, w1_10, by decide +kernel, by decide +kernel, by decide +kernel⟩
theorem kX7_findNearest : okM mX7_findNearest 1 := ⟨w5_5, w1_10, by decide +kernel, by decide +kernel, by decide +kernel⟩
theorem kX7_findApart : okM mX7_findApart 2 := ⟨w5_78, w1_10, by decide +kernel, by decide +kernel, by decide +kernel⟩
theorem kX7_keep : okM mX7_keep 1 := ⟨w5_23, w1_10, by decide +kernel, by decide +kernel, by decide +kernel⟩
theorem kX8_init : okM mX8_init 0 := ⟨w2_63, w1_9, by decide +kernel, by decide +kernel, by decide +kernel⟩
theorem kX8_ofHunt : okM mX8_ofHunt 3 := ⟨w4_185, w1_9, by decide +kernel, by decide +kernel, by decide +kernel⟩
theorem kX8_addRiddle : okM mX8_addRiddle 2 := ⟨w4_190, w1_9, by decide +kernel, by decide +kernel, by decide +kernel⟩
theorem kX8_weigh : okM mX8_weigh 2 := ⟨w4_194, w1_9, by decide +kernel, by decide +kernel, by decide +kernel⟩
theorem kX8_gather : okM mX8_gather 3 := ⟨w4_205, w1_9, by decide +kernel, by decide +kernel, by decide +kernel⟩
theorem kX9_init : okM mX9_init 0 := ⟨w1_129, w1_4, by decide +kernel, by decide +kernel, by decide +kernel⟩
theorem kX9_addBytes : okM mX9_addBytes 2 := ⟨w3_143, w1_4, by decide +kernel, by decide +kernel, by decide +kernel⟩
theorem kX9_empty : okM mX9_empty 0 := ⟨w3_152, w1_4, by decide +kernel, by decide +kernel, by decide +kernel⟩
theorem kX9_findFault : okM mX9_findFault 0 := ⟨w3_160, w1_4, by decide +kernel, by decide +kernel, by decide +kernel⟩
theorem kX9_readItem : okM mX9_readItem 0 := ⟨w3_168, w1_4, by decide +kernel, by decide +kernel, by decide +kernel⟩
theorem kX9_skipBlanks : okM mX9_skipBlanks 0 := ⟨w3_164, w1_4, by decide +kernel, by decide +kernel, by decide +kernel⟩
theorem kX9_endOfRun : okM mX9_endOfRun 2 := ⟨w3_172, w1_4, by decide +kernel, by decide +kernel, by decide +kernel⟩
theorem kX9_valueTo : okM mX9_valueTo 1 := ⟨w4_4, w1_4, by decide +kernel, by decide +kernel, by decide +kernel⟩
theorem kX9_kindTo : okM mX9_kindTo 1 := ⟨w3_176, w1_4, by decide +kernel, by decide +kernel, by decide +kernel⟩
theorem kX9_spells : okM mX9_spells 2 := ⟨w3_181, w1_4, by decide +kernel, by decide +kernel, by decide +kernel⟩
theorem kX9_tell : okM mX9_tell 2 := ⟨w4_15, w1_4, by decide +kernel, by decide +kernel, by decide +kernel⟩
theorem kX10_init : okM mX10_init 1 := ⟨w1_158, w1_5, by decide +kernel, by decide +kernel, by decide +kernel⟩
theorem kX10_measure : okM mX10_measure 0 := ⟨w4_47, w1_5, by decide +kernel, by decide +kernel, by decide +kernel⟩
theorem kX10_startWithWays : okM mX10_startWithWays 0 := ⟨w4_51, w1_5, by decide +kernel, by decide +kernel, by decide +kernel⟩
theorem kX10_shortenByRounds : okM mX10_shortenByRounds 0 := ⟨w4_55, w1_5, by decide +kernel, by decide +kernel, by decide +kernel⟩
theorem kX10_chooseSteps : okM mX10_chooseSteps 0 := ⟨w4_60, w1_5, by decide +kernel, by decide +kernel, by decide +kernel⟩
theorem kX10_between : okM mX10_between 2 := ⟨w4_65, w1_5, by decide +kernel, by decide +kernel, by decide +kernel⟩
theorem kX10_leg : okM mX10_leg 3 := ⟨w4_102, w1_5, by decide +kernel, by decide +kernel, by decide +kernel⟩
theorem kX10_passed : okM mX10_passed 3 := ⟨w5_105, w1_5, by decide +kernel, by decide +kernel, by decide +kernel⟩
theorem kX10_knownLeg : okM mX10_knownLeg 3 := ⟨w4_106, w1_5, by decide +kernel, by decide +kernel, by decide +kernel⟩
theorem kX10_goAlong : okM mX10_goAlong 4 := ⟨w4_111, w1_5, by decide +kernel, by decide +kernel, by decide +kernel⟩
theorem kX10_nearest : okM mX10_nearest 2 := ⟨w4_115, w1_5, by decide +kernel, by decide +kernel, by decide +kernel⟩
theorem kX10_path : okM mX10_path 2 := ⟨w4_119, w1_5, by decide +kernel, by decide +kernel, by decide +kernel⟩
theorem kX11_init : okM mX11_init 0 := ⟨w1_25, w1_1, by decide +kernel, by decide +kernel, by decide +kernel⟩
theorem kX11_place : okM mX11_place 0 := ⟨w3_20, w1_1, by decide +kernel, by decide +kernel, by decide +kernel⟩
theorem kX11_way : okM mX11_way 3 := ⟨w3_32, w1_1, by decide +kernel, by decide +kernel, by decide +kernel⟩
theorem kX11_sees : okM mX11_sees 2 := ⟨w3_51, w1_1, by decide +kernel, by decide +kernel, by decide +kernel⟩
theorem kX11_child : okM mX11_child 5 := ⟨w3_59, w1_1, by decide +kernel, by decide +kernel, by decide +kernel⟩
theorem kX11_bar : okM mX11_bar 2 := ⟨w3_70, w1_1, by decide +kernel, by decide +kernel, by decide +kernel⟩
theorem kX11_join : okM mX11_join 2 := ⟨w3_78, w1_1, by decide +kernel, by decide +kernel, by decide +kernel⟩
theorem kX11_slip : okM mX11_slip 2 := ⟨w3_86, w1_1, by decide +kernel, by decide +kernel, by decide +kernel⟩
theorem kX11_spare : okM mX11_spare 1 := ⟨w3_94, w1_1, by decide +kernel, by decide +kernel, by decide +kernel⟩
theorem kX11_means : okM mX11_means 2 := ⟨w3_102, w1_1, by decide +kernel, by decide +kernel, by decide +kernel⟩
theorem kX11_row : okM mX11_row 2 := ⟨w3_110, w1_1, by decide +kernel, by decide +kernel, by decide +kernel⟩
theorem kX11_unrow : okM mX11_unrow 1 := ⟨w3_118, w1_1, by decide +kernel, by decide +kernel, by decide +kernel⟩
theorem kX11_put : okM mX11_put 2 := ⟨w3_126, w1_1, by decide +kernel, by decide +kernel, by decide +kernel⟩
theorem kX11_type : okM mX11_type 2 := ⟨w3_139, w1_1, by decide +kernel, by decide +kernel, by decide +kernel⟩
theorem kX11_clear : okM mX11_clear 0 := ⟨w3_148, w1_1, by decide +kernel, by decide +kernel, by decide +kernel⟩
theorem kX11_house : okM mX11_house 0 := ⟨w3_156, w1_1, by decide +kernel, by decide +kernel, by decide +kernel⟩
theorem kX11_walk : okM mX11_walk 2 := ⟨w4_42, w1_1, by decide +kernel, by decide +kernel, by decide +kernel⟩
theorem kX11_riddles : okM mX11_riddles 2 := ⟨w4_70, w1_1, by decide +kernel, by decide +kernel, by decide +kernel⟩
theorem kX11_length : okM mX11_length 2 := ⟨w4_154, w1_1, by decide +kernel, by decide +kernel, by decide +kernel⟩
theorem kX11_ends : okM mX11_ends 3 := ⟨w4_181, w1_1, by decide +kernel, by decide +kernel, by decide +kernel⟩
theorem kX11_guessed : okM mX11_guessed 1 := ⟨w4_212, w1_1, by decide +kernel, by decide +kernel, by decide +kernel⟩
theorem kX11_fair : okM mX11_fair 1 := ⟨w4_222, w1_1, by decide +kernel, by decide +kernel, by decide +kernel⟩
theorem kX11_order : okM mX11_order 2 := ⟨w5_1, w1_1, by decide +kernel, by decide +kernel, by decide +kernel⟩
theorem kX11_kinds : okM mX11_kinds 2 := ⟨w5_31, w1_1, by decide +kernel, by decide +kernel, by decide +kernel⟩
theorem kX11_meet : okM mX11_meet 0 := ⟨w5_66, w1_1, by decide +kernel, by decide +kernel, by decide +kernel⟩
theorem kX11_apart : okM mX11_apart 1 := ⟨w5_74, w1_1, by decide +kernel, by decide +kernel, by decide +kernel⟩
theorem kX11_sooner : okM mX11_sooner 1 := ⟨w5_83, w1_1, by decide +kernel, by decide +kernel, by decide +kernel⟩
theorem kX11_hangs : okM mX11_hangs 1 := ⟨w5_89, w1_1, by decide +kernel, by decide +kernel, by decide +kernel⟩
theorem kX11_bears : okM mX11_bears 1 := ⟨w5_97, w1_1, by decide +kernel, by decide +kernel, by decide +kernel⟩
theorem kX11_soon : okM mX11_soon 1 := ⟨w5_101, w1_1, by decide +kernel, by decide +kernel, by decide +kernel⟩
theorem kX11_report : okM mX11_report 2 := ⟨w5_113, w1_1, by decide +kernel, by decide +kernel, by decide +kernel⟩
theorem kX11_hard : okM mX11_hard 2 := ⟨w5_121, w1_1, by decide +kernel, by decide +kernel, by decide +kernel⟩
theorem kX11_sign : okM mX11_sign 1 := ⟨w5_131, w1_1, by decide +kernel, by decide +kernel, by decide +kernel⟩
theorem kX11_limb : okM mX11_limb 2 := ⟨w5_139, w1_1, by decide +kernel, by decide +kernel, by decide +kernel⟩
theorem kX11_image : okM mX11_image 1 := ⟨w5_143, w1_1, by decide +kernel, by decide +kernel, by decide +kernel⟩
theorem kX11_from : okM mX11_from 1 := ⟨w5_152, w1_1, by decide +kernel, by decide +kernel, by decide +kernel⟩
theorem kX11_status : okM mX11_status 1 := ⟨w5_156, w1_1, by decide +kernel, by decide +kernel, by decide +kernel⟩
theorem kX11_count : okM mX11_count 1 := ⟨w5_160, w1_1, by decide +kernel, by decide +kernel, by decide +kernel⟩
theorem kX11_digest : okM mX11_digest 0 := ⟨w5_168, w1_1, by decide +kernel, by decide +kernel, by decide +kernel⟩
theorem kX11_within : okM mX11_within 2 := ⟨w3_47, w1_1, by decide +kernel, by decide +kernel, by decide +kernel⟩
theorem kX11_counted : okM mX11_counted 1 := ⟨w3_28, w1_1, by decide +kernel, by decide +kernel, by decide +kernel⟩
theorem kX11_canHunt : okM mX11_canHunt 2 := ⟨w4_75, w1_1, by decide +kernel, by decide +kernel, by decide +kernel⟩
theorem kX11_howMany : okM mX11_howMany 1 := ⟨w5_164, w1_1, by decide +kernel, by decide +kernel, by decide +kernel⟩
theorem kX12_init : okM mX12_init 0 := ⟨w5_196, w1_14, by decide +kernel, by decide +kernel, by decide +kernel⟩
theorem kX12_in : okM mX12_in 3 := ⟨w6_69, w1_14, by decide +kernel, by decide +kernel, by decide +kernel⟩
theorem kX12_refuse : okM mX12_refuse 1 := ⟨w6_54, w1_14, by decide +kernel, by decide +kernel, by decide +kernel⟩
theorem kX12_no : okM mX12_no 1 := ⟨w7_143, w1_14, by decide +kernel, by decide +kernel, by decide +kernel⟩
theorem kX12_isPlace : okM mX12_isPlace 2 := ⟨w6_66, w1_14, by decide +kernel, by decide +kernel, by decide +kernel⟩
theorem kX12_isChild : okM mX12_isChild 2 := ⟨w6_101, w1_14, by decide +kernel, by decide +kernel, by decide +kernel⟩
theorem kX12_isSlip : okM mX12_isSlip 2 := ⟨w6_121, w1_14, by decide +kernel, by decide +kernel, by decide +kernel⟩
theorem kX12_isLot : okM mX12_isLot 1 := ⟨w6_140, w1_14, by decide +kernel, by decide +kernel, by decide +kernel⟩
theorem kX12_addPlace : okM mX12_addPlace 1 := ⟨w6_50, w1_14, by decide +kernel, by decide +kernel, by decide +kernel⟩
theorem kX12_setWay : okM mX12_setWay 4 := ⟨w6_62, w1_14, by decide +kernel, by decide +kernel, by decide +kernel⟩
theorem kX12_mark : okM mX12_mark 2 := ⟨w6_81, w1_14, by decide +kernel, by decide +kernel, by decide +kernel⟩
theorem kX12_setSeen : okM mX12_setSeen 3 := ⟨w6_77, w1_14, by decide +kernel, by decide +kernel, by decide +kernel⟩
theorem kX12_addChild : okM mX12_addChild 6 := ⟨w6_89, w1_14, by decide +kernel, by decide +kernel, by decide +kernel⟩
theorem kX12_setBar : okM mX12_setBar 3 := ⟨w6_97, w1_14, by decide +kernel, by decide +kernel, by decide +kernel⟩
theorem kX12_addSlip : okM mX12_addSlip 3 := ⟨w6_113, w1_14, by decide +kernel, by decide +kernel, by decide +kernel⟩
theorem kX12_setMeans : okM mX12_setMeans 3 := ⟨w6_129, w1_14, by decide +kernel, by decide +kernel, by decide +kernel⟩
theorem kX12_addRow : okM mX12_addRow 3 := ⟨w6_137, w1_14, by decide +kernel, by decide +kernel, by decide +kernel⟩
theorem kX12_place : okM mX12_place 0 := ⟨w6_46, w1_14, by decide +kernel, by decide +kernel, by decide +kernel⟩
theorem kX12_way : okM mX12_way 3 := ⟨w6_58, w1_14, by decide +kernel, by decide +kernel, by decide +kernel⟩
theorem kX12_sees : okM mX12_sees 2 := ⟨w6_73, w1_14, by decide +kernel, by decide +kernel, by decide +kernel⟩
theorem kX12_child : okM mX12_child 5 := ⟨w6_85, w1_14, by decide +kernel, by decide +kernel, by decide +kernel⟩
theorem kX12_bar : okM mX12_bar 2 := ⟨w6_93, w1_14, by decide +kernel, by decide +kernel, by decide +kernel⟩
theorem kX12_join : okM mX12_join 2 := ⟨w6_105, w1_14, by decide +kernel, by decide +kernel, by decide +kernel⟩
theorem kX12_slip : okM mX12_slip 2 := ⟨w6_109, w1_14, by decide +kernel, by decide +kernel, by decide +kernel⟩
theorem kX12_spare : okM mX12_spare 1 := ⟨w6_117, w1_14, by decide +kernel, by decide +kernel, by decide +kernel⟩
theorem kX12_means : okM mX12_means 2 := ⟨w6_125, w1_14, by decide +kernel, by decide +kernel, by decide +kernel⟩
theorem kX12_row : okM mX12_row 2 := ⟨w6_133, w1_14, by decide +kernel, by decide +kernel, by decide +kernel⟩
theorem kX12_unrow : okM mX12_unrow 1 := ⟨w6_144, w1_14, by decide +kernel, by decide +kernel, by decide +kernel⟩
theorem kX12_put : okM mX12_put 2 := ⟨w6_148, w1_14, by decide +kernel, by decide +kernel, by decide +kernel⟩
theorem kX12_type : okM mX12_type 2 := ⟨w6_152, w1_14, by decide +kernel, by decide +kernel, by decide +kernel⟩
theorem kX12_clear : okM mX12_clear 0 := ⟨w6_157, w1_14, by decide +kernel, by decide +kernel, by decide +kernel⟩
theorem kX12_here : okM mX12_here 0 := ⟨w6_169, w1_14, by decide +kernel, by decide +kernel, by decide +kernel⟩
theorem kX12_meaning : okM mX12_meaning 1 := ⟨w6_172, w1_14, by decide +kernel, by decide +kernel, by decide +kernel⟩
theorem kX12_next : okM mX12_next 0 := ⟨w6_165, w1_14, by decide +kernel, by decide +kernel, by decide +kernel⟩
theorem kX12_due : okM mX12_due 1 := ⟨w6_176, w1_14, by decide +kernel, by decide +kernel, by decide +kernel⟩
theorem kX12_numbersOf : okM mX12_numbersOf 1 := ⟨w6_179, w1_14, by decide +kernel, by decide +kernel, by decide +kernel⟩
theorem kX12_build : okM mX12_build 1 := ⟨w6_183, w1_14, by decide +kernel, by decide +kernel, by decide +kernel⟩
theorem kX12_house : okM mX12_house 0 := ⟨w6_161, w1_14, by decide +kernel, by decide +kernel, by decide +kernel⟩
theorem kX12_findWalks : okM mX12_findWalks 0 := ⟨w6_191, w1_14, by decide +kernel, by decide +kernel, by decide +kernel⟩
theorem kX12_walk : okM mX12_walk 2 := ⟨w6_187, w1_14, by decide +kernel, by decide +kernel, by decide +kernel⟩
theorem kX12_seePath : okM mX12_seePath 2 := ⟨w6_220, w1_14, by decide +kernel, by decide +kernel, by decide +kernel⟩
theorem kX12_searchFor : okM mX12_searchFor 3 := ⟨w6_216, w1_14, by decide +kernel, by decide +kernel, by decide +kernel⟩
theorem kX12_isSet : okM mX12_isSet 0 := ⟨w6_212, w1_14, by decide +kernel, by decide +kernel, by decide +kernel⟩
theorem kX12_takeRow : okM mX12_takeRow 1 := ⟨w6_204, w1_14, by decide +kernel, by decide +kernel, by decide +kernel⟩
theorem kX12_findHunt : okM mX12_findHunt 0 := ⟨w6_208, w1_14, by decide +kernel, by decide +kernel, by decide +kernel⟩
theorem kX12_isHunt : okM mX12_isHunt 1 := ⟨w6_200, w1_14, by decide +kernel, by decide +kernel, by decide +kernel⟩
theorem kX12_quickAt : okM mX12_quickAt 3 := ⟨w6_229, w1_14, by decide +kernel, by decide +kernel, by decide +kernel⟩
theorem kX12_missesAt : okM mX12_missesAt 3 := ⟨w6_225, w1_14, by decide +kernel, by decide +kernel, by decide +kernel⟩
theorem kX12_guessesAt : okM mX12_guessesAt 3 := ⟨w7_74, w1_14, by decide +kernel, by decide +kernel, by decide +kernel⟩
theorem kX12_set : okM mX12_set 2 := ⟨w6_233, w1_14, by decide +kernel, by decide +kernel, by decide +kernel⟩
theorem kX12_copy : okM mX12_copy 2 := ⟨w7_1, w1_14, by decide +kernel, by decide +kernel, by decide +kernel⟩
theorem kX12_times : okM mX12_times 2 := ⟨w7_18, w1_14, by decide +kernel, by decide +kernel, by decide +kernel⟩
theorem kX12_millions : okM mX12_millions 2 := ⟨w7_34, w1_14, by decide +kernel, by decide +kernel, by decide +kernel⟩
theorem kX12_add : okM mX12_add 2 := ⟨w7_42, w1_14, by decide +kernel, by decide +kernel, by decide +kernel⟩
theorem kX12_less : okM mX12_less 2 := ⟨w7_82, w1_14, by decide +kernel, by decide +kernel, by decide +kernel⟩
theorem kX12_compare : okM mX12_compare 2 := ⟨w7_62, w1_14, by decide +kernel, by decide +kernel, by decide +kernel⟩
theorem kX12_divide : okM mX12_divide 2 := ⟨w7_13, w1_14, by decide +kernel, by decide +kernel, by decide +kernel⟩
theorem kX12_isNought : okM mX12_isNought 1 := ⟨w7_5, w1_14, by decide +kernel, by decide +kernel, by decide +kernel⟩
theorem kX12_limbsOf : okM mX12_limbsOf 1 := ⟨w7_174, w1_14, by decide +kernel, by decide +kernel, by decide +kernel⟩
theorem kX12_takeOut : okM mX12_takeOut 2 := ⟨w7_9, w1_14, by decide +kernel, by decide +kernel, by decide +kernel⟩
theorem kX12_tell : okM mX12_tell 2 := ⟨w6_237, w1_14, by decide +kernel, by decide +kernel, by decide +kernel⟩
theorem kX12_meanTo : okM mX12_meanTo 3 := ⟨w7_38, w1_14, by decide +kernel, by decide +kernel, by decide +kernel⟩
theorem kX12_lengthTo : okM mX12_lengthTo 2 := ⟨w7_30, w1_14, by decide +kernel, by decide +kernel, by decide +kernel⟩
theorem kX12_offTo : okM mX12_offTo 2 := ⟨w7_95, w1_14, by decide +kernel, by decide +kernel, by decide +kernel⟩
theorem kX12_leastOf : okM mX12_leastOf 2 := ⟨w7_26, w1_14, by decide +kernel, by decide +kernel, by decide +kernel⟩
theorem kX12_riddles : okM mX12_riddles 2 := ⟨w6_196, w1_14, by decide +kernel, by decide +kernel, by decide +kernel⟩
theorem kX12_length : okM mX12_length 2 := ⟨w7_22, w1_14, by decide +kernel, by decide +kernel, by decide +kernel⟩
theorem kX12_weighLengths : okM mX12_weighLengths 2 := ⟨w7_50, w1_14, by decide +kernel, by decide +kernel, by decide +kernel⟩
theorem kX12_spread : okM mX12_spread 3 := ⟨w7_54, w1_14, by decide +kernel, by decide +kernel, by decide +kernel⟩
theorem kX12_ends : okM mX12_ends 3 := ⟨w7_46, w1_14, by decide +kernel, by decide +kernel, by decide +kernel⟩
theorem kX12_sooner : okM mX12_sooner 1 := ⟨w7_58, w1_14, by decide +kernel, by decide +kernel, by decide +kernel⟩
theorem kX12_guessedTo : okM mX12_guessedTo 2 := ⟨w7_70, w1_14, by decide +kernel, by decide +kernel, by decide +kernel⟩
theorem kX12_guessed : okM mX12_guessed 1 := ⟨w7_66, w1_14, by decide +kernel, by decide +kernel, by decide +kernel⟩
theorem kX12_fair : okM mX12_fair 1 := ⟨w7_78, w1_14, by decide +kernel, by decide +kernel, by decide +kernel⟩
theorem kX12_sortOrder : okM mX12_sortOrder 0 := ⟨w7_91, w1_14, by decide +kernel, by decide +kernel, by decide +kernel⟩
theorem kX12_nextOrder : okM mX12_nextOrder 0 := ⟨w7_103, w1_14, by decide +kernel, by decide +kernel, by decide +kernel⟩
theorem kX12_swap : okM mX12_swap 2 := ⟨w7_107, w1_14, by decide +kernel, by decide +kernel, by decide +kernel⟩
theorem kX12_keepOrder : okM mX12_keepOrder 0 := ⟨w7_99, w1_14, by decide +kernel, by decide +kernel, by decide +kernel⟩
theorem kX12_order : okM mX12_order 2 := ⟨w7_87, w1_14, by decide +kernel, by decide +kernel, by decide +kernel⟩
theorem kX12_kinds : okM mX12_kinds 2 := ⟨w7_111, w1_14, by decide +kernel, by decide +kernel, by decide +kernel⟩
theorem kX12_setKinds : okM mX12_setKinds 1 := ⟨w7_119, w1_14, by decide +kernel, by decide +kernel, by decide +kernel⟩
theorem kX12_tryKinds : okM mX12_tryKinds 2 := ⟨w7_115, w1_14, by decide +kernel, by decide +kernel, by decide +kernel⟩
theorem kX12_findTimes : okM mX12_findTimes 1 := ⟨w7_127, w1_14, by decide +kernel, by decide +kernel, by decide +kernel⟩
theorem kX12_meetings : okM mX12_meetings 0 := ⟨w7_131, w1_14, by decide +kernel, by decide +kernel, by decide +kernel⟩
theorem kX12_meet : okM mX12_meet 0 := ⟨w7_123, w1_14, by decide +kernel, by decide +kernel, by decide +kernel⟩
theorem kX12_apart : okM mX12_apart 1 := ⟨w7_135, w1_14, by decide +kernel, by decide +kernel, by decide +kernel⟩
theorem kX12_isSpare : okM mX12_isSpare 1 := ⟨w7_147, w1_14, by decide +kernel, by decide +kernel, by decide +kernel⟩
theorem kX12_hangs : okM mX12_hangs 1 := ⟨w7_139, w1_14, by decide +kernel, by decide +kernel, by decide +kernel⟩
theorem kX12_bears : okM mX12_bears 1 := ⟨w7_151, w1_14, by decide +kernel, by decide +kernel, by decide +kernel⟩
theorem kX12_soon : okM mX12_soon 1 := ⟨w7_155, w1_14, by decide +kernel, by decide +kernel, by decide +kernel⟩
theorem kX12_report : okM mX12_report 2 := ⟨w7_159, w1_14, by decide +kernel, by decide +kernel, by decide +kernel⟩
theorem kX12_common : okM mX12_common 2 := ⟨w7_166, w1_14, by decide +kernel, by decide +kernel, by decide +kernel⟩
theorem kX12_hard : okM mX12_hard 2 := ⟨w7_163, w1_14, by decide +kernel, by decide +kernel, by decide +kernel⟩
theorem kX12_sign : okM mX12_sign 1 := ⟨w7_170, w1_14, by decide +kernel, by decide +kernel, by decide +kernel⟩
theorem kX12_limb : okM mX12_limb 2 := ⟨w7_178, w1_14, by decide +kernel, by decide +kernel, by decide +kernel⟩
theorem kX12_copyHouse : okM mX12_copyHouse 2 := ⟨w7_186, w1_14, by decide +kernel, by decide +kernel, by decide +kernel⟩
theorem kX12_image : okM mX12_image 1 := ⟨w7_182, w1_14, by decide +kernel, by decide +kernel, by decide +kernel⟩
theorem kX12_from : okM mX12_from 1 := ⟨w7_190, w1_14, by decide +kernel, by decide +kernel, by decide +kernel⟩
theorem kX12_status : okM mX12_status 1 := ⟨w7_194, w1_14, by decide +kernel, by decide +kernel, by decide +kernel⟩
theorem kX12_countOf : okM mX12_countOf 1 := ⟨w7_202, w1_14, by decide +kernel, by decide +kernel, by decide +kernel⟩
theorem kX12_count : okM mX12_count 1 := ⟨w7_198, w1_14, by decide +kernel, by decide +kernel, by decide +kernel⟩
theorem kX12_mix : okM mX12_mix 1 := ⟨w7_211, w1_14, by decide +kernel, by decide +kernel, by decide +kernel⟩
theorem kX12_digest : okM mX12_digest 0 := ⟨w7_206, w1_14, by decide +kernel, by decide +kernel, by decide +kernel⟩
theorem vpl {x : Int32} {n : Nat} (h : vp_in x n) : ix x < n := Nat.not_le.mp fun q => h (Or.inr q)
theorem sw_ne {x y : Int32} {j : Int} (h : ¬ x = y) (hy : y.toInt = j) : j ≠ x.toInt := fun e => h (Int32.toInt_inj.mp (e.symm.trans hy.symm ▸ rfl))
theorem sw_le {x : Int32} {lo hi : Nat} : (x.toInt < lo ∨ hi < x.toInt) ∨ ∃ j : Nat, lo ≤ j ∧ j ≤ hi ∧ x = nI j := by
  by_cases h : x.toInt < lo
  · exact Or.inl (Or.inl h)
  · by_cases h1 : hi < x.toInt
    · exact Or.inl (Or.inr h1)
    · refine Or.inr ⟨x.toInt.toNat, by omega, by omega, ?_⟩
      have h2 : x.toInt < 2 ^ 31 := Int32.toInt_lt x
      apply Int32.toInt_inj.mp
      rw [nI_toInt (by omega)]
      omega
theorem S_putl {Z : ZT} {X : XT} {mt : MT} {pc i o q ci : Nat} {lv : List (Nat × Value)} {st : List Value} {μ : Mu} (E : Ent Z X mt 0 0) {x : Int64} (hd : decode mt.2.1 pc = .ok (.putfield i, 3)) (f : FS mt.1.cls i ci q) (g : FP ci q .long) (hs : SH o = .inl ci) (he : fieldsOf Z ci o (upd (upd (μ o) q (hiL x)) (q + 100) (loL x)) = (fieldsOf Z ci o (μ o)).set q (.long (mkL (hiL x) (loL x)))) (kk : JS Z X (pc + 3) lv st (uR μ o (upd (upd (μ o) q (hiL x)) (q + 100) (loL x)))) : JS Z X pc lv (.long x :: .ref (Z.2.2.1 + o) :: st) μ := by
  obtain ⟨C, T, N, h1, h2, h3, h4, h5⟩ := f
  obtain ⟨⟨ty0, g1⟩, g2, g3, g4, g5⟩ := g C T N h1
  rw [mkL_hl] at he
  refine J_put E hd (SH_lto hs) (WM_obj hs) h1 h2 ty0 g1 g2 q h3 h4 h5 g3 g4 rfl rfl (g5 Z o _) ?_
  rw [WM_up (r := upd (upd (μ o) q (hiL x)) (q + 100) (loL x)) (by simp only [WMr, hs, he])]
  exact kk
theorem S_putv {Z : ZT} {X : XT} {mt : MT} {pc i o o2 q ci : Nat} {lv : List (Nat × Value)} {st : List Value} {μ : Mu} (E : Ent Z X mt 0 0) (hd : decode mt.2.1 pc = .ok (.putfield i, 3)) (f : FS mt.1.cls i ci q) (g : FP ci q (.array (.object "SlipHunt$Big"))) (hs : SH o = .inl ci) (hc : ci = 8 ∧ (q = 2 ∨ q = 3)) (h2 : o2 < 2147483648) (kk : JS Z X (pc + 3) lv st (uR μ o (upd (μ o) q (nI o2)))) : JS Z X pc lv (.ref (Z.2.2.1 + o2) :: .ref (Z.2.2.1 + o) :: st) μ := by
  have he : fieldsOf Z ci o (upd (μ o) q (nI o2)) = (fieldsOf Z ci o (μ o)).set q (.ref (Z.2.2.1 + o2)) := by
    have h3 : ix (nI o2) = o2 := nI_clamp h2
    obtain ⟨rfl, rfl | rfl⟩ := hc
    · show [_, _, Value.ref (Z.2.2.1 + ix (nI o2)), _, _, _] = _
      rw [h3]; rfl
    · show [_, _, _, Value.ref (Z.2.2.1 + ix (nI o2)), _, _] = _
      rw [h3]; rfl
  obtain ⟨C, T, N, h1, h2, h3, h4, h5⟩ := f
  obtain ⟨⟨ty0, g1⟩, g2, g3, g4, g5⟩ := g C T N h1
  refine J_put E hd (SH_lto hs) (WM_obj hs) h1 h2 ty0 g1 g2 q h3 h4 h5 g3 g4 rfl rfl (g5 Z o _) ?_
  rw [WM_up (r := upd (μ o) q (nI o2)) (by simp only [WMr, hs, he])]
  exact kk
theorem lookup_none : ∀ {l : List (Int × Int)} {d k : Int}, (∀ q ∈ l, q.1 ≠ k) → Op.lookupswitch.offset l d k = d
  | [], _, _, _ => rfl
  | (a, o) :: r, d, k, h => by
    rw [Op.lookupswitch.offset_cons, if_neg (h (a, o) List.mem_cons_self)]
    exact lookup_none fun q hq => h q (List.mem_cons_of_mem _ hq)
