section
theorem we_1442 : Cond.methodLink "AngelTownModel" 1 ⟨"java/lang/Object", "<init>", "()V"⟩ ∈ lw_tbl := tb_6 (List.mem_of_getElem? (i := 68) (by decide +kernel))
theorem we_1443 : Cond.constant "AngelTownModel" 114 (65536) ∈ lw_tbl := tb_6 (List.mem_of_getElem? (i := 69) (by decide +kernel))
theorem we_1445 : Cond.fieldLink "AngelTownModel" 7 "AngelTownModel" "now" "[I" ∈ lw_tbl := tb_6 (List.mem_of_getElem? (i := 71) (by decide +kernel))
theorem we_1446 : Cond.fieldLink "AngelTownModel" 13 "AngelTownModel" "rows" "[I" ∈ lw_tbl := tb_6 (List.mem_of_getElem? (i := 72) (by decide +kernel))
theorem we_1448 : Cond.fieldLink "AngelTownModel" 16 "AngelTownModel" "waiting" "[I" ∈ lw_tbl := tb_6 (List.mem_of_getElem? (i := 74) (by decide +kernel))
theorem we_1453 : Cond.fieldLink "AngelTownModel" 19 "AngelTownModel" "pause" "[I" ∈ lw_tbl := tb_6 (List.mem_of_getElem? (i := 79) (by decide +kernel))
theorem we_1457 : Cond.fieldLink "AngelTownModel" 22 "AngelTownModel" "paceOf" "[I" ∈ lw_tbl := tb_6 (List.mem_of_getElem? (i := 83) (by decide +kernel))
theorem we_1458 : Cond.fieldLink "AngelTownModel" 25 "AngelTownModel" "otherAt" "[I" ∈ lw_tbl := tb_6 (List.mem_of_getElem? (i := 84) (by decide +kernel))
theorem we_1459 : Cond.fieldLink "AngelTownModel" 28 "AngelTownModel" "otherFrom" "[I" ∈ lw_tbl := tb_6 (List.mem_of_getElem? (i := 85) (by decide +kernel))
theorem we_1460 : Cond.fieldLink "AngelTownModel" 31 "AngelTownModel" "otherTo" "[I" ∈ lw_tbl := tb_6 (List.mem_of_getElem? (i := 86) (by decide +kernel))
theorem we_1461 : Cond.fieldLink "AngelTownModel" 34 "AngelTownModel" "book" "[I" ∈ lw_tbl := tb_6 (List.mem_of_getElem? (i := 87) (by decide +kernel))
theorem we_1462 : Cond.fieldLink "AngelTownModel" 37 "AngelTownModel" "tape" "[I" ∈ lw_tbl := tb_6 (List.mem_of_getElem? (i := 88) (by decide +kernel))
theorem we_1468 : Cond.fieldLink "AngelTownModel" 40 "AngelTownModel" "words" "[I" ∈ lw_tbl := tb_6 (List.mem_of_getElem? (i := 94) (by decide +kernel))
theorem we_1470 : Cond.fieldLink "AngelTownModel" 43 "AngelTownModel" "lineWord" "[I" ∈ lw_tbl := tb_6 (List.mem_of_getElem? (i := 96) (by decide +kernel))
theorem we_1471 : Cond.fieldLink "AngelTownModel" 46 "AngelTownModel" "lineFrom" "[I" ∈ lw_tbl := tb_6 (List.mem_of_getElem? (i := 97) (by decide +kernel))
theorem we_1472 : Cond.fieldLink "AngelTownModel" 49 "AngelTownModel" "lineTo" "[I" ∈ lw_tbl := tb_6 (List.mem_of_getElem? (i := 98) (by decide +kernel))
theorem we_1473 : Cond.fieldLink "AngelTownModel" 52 "AngelTownModel" "op" "[I" ∈ lw_tbl := tb_6 (List.mem_of_getElem? (i := 99) (by decide +kernel))
theorem we_1474 : Cond.fieldLink "AngelTownModel" 55 "AngelTownModel" "arg" "[I" ∈ lw_tbl := tb_6 (List.mem_of_getElem? (i := 100) (by decide +kernel))
theorem we_1477 : Cond.fieldLink "AngelTownModel" 58 "AngelTownModel" "pending" "[I" ∈ lw_tbl := tb_6 (List.mem_of_getElem? (i := 103) (by decide +kernel))
theorem we_1482 : Cond.fieldLink "AngelTownModel" 61 "AngelTownModel" "faultPlace" "I" ∈ lw_tbl := tb_6 (List.mem_of_getElem? (i := 108) (by decide +kernel))
theorem we_1483 : Cond.fieldLink "AngelTownModel" 65 "AngelTownModel" "wayOp" "[I" ∈ lw_tbl := tb_6 (List.mem_of_getElem? (i := 109) (by decide +kernel))
theorem we_1484 : Cond.fieldLink "AngelTownModel" 68 "AngelTownModel" "wayTimes" "[I" ∈ lw_tbl := tb_6 (List.mem_of_getElem? (i := 110) (by decide +kernel))
theorem we_1486 : Cond.fieldLink "AngelTownModel" 71 "AngelTownModel" "wayOf" "[I" ∈ lw_tbl := tb_6 (List.mem_of_getElem? (i := 112) (by decide +kernel))
theorem we_1487 : Cond.fieldLink "AngelTownModel" 74 "AngelTownModel" "wayLong" "[I" ∈ lw_tbl := tb_6 (List.mem_of_getElem? (i := 113) (by decide +kernel))
theorem we_1488 : Cond.fieldLink "AngelTownModel" 77 "AngelTownModel" "backTo" "[I" ∈ lw_tbl := tb_6 (List.mem_of_getElem? (i := 114) (by decide +kernel))
theorem we_1489 : Cond.fieldLink "AngelTownModel" 80 "AngelTownModel" "timesLeft" "[I" ∈ lw_tbl := tb_6 (List.mem_of_getElem? (i := 115) (by decide +kernel))
theorem we_1491 : Cond.fieldLink "AngelTownModel" 83 "AngelTownModel" "mishaps" "[I" ∈ lw_tbl := tb_6 (List.mem_of_getElem? (i := 117) (by decide +kernel))
theorem we_1492 : Cond.fieldLink "AngelTownModel" 86 "AngelTownModel" "planWhat" "[I" ∈ lw_tbl := tb_6 (List.mem_of_getElem? (i := 118) (by decide +kernel))
theorem we_1493 : Cond.fieldLink "AngelTownModel" 89 "AngelTownModel" "planHow" "[I" ∈ lw_tbl := tb_6 (List.mem_of_getElem? (i := 119) (by decide +kernel))
theorem we_1494 : Cond.fieldLink "AngelTownModel" 92 "AngelTownModel" "planLong" "[I" ∈ lw_tbl := tb_6 (List.mem_of_getElem? (i := 120) (by decide +kernel))
theorem we_1495 : Cond.fieldLink "AngelTownModel" 95 "AngelTownModel" "asked" "[I" ∈ lw_tbl := tb_6 (List.mem_of_getElem? (i := 121) (by decide +kernel))
theorem we_1496 : Cond.fieldLink "AngelTownModel" 98 "AngelTownModel" "stack" "[I" ∈ lw_tbl := tb_6 (List.mem_of_getElem? (i := 122) (by decide +kernel))
theorem we_1497 : Cond.fieldLink "AngelTownModel" 101 "AngelTownModel" "seenAt" "[I" ∈ lw_tbl := tb_6 (List.mem_of_getElem? (i := 123) (by decide +kernel))
theorem we_1498 : Cond.fieldLink "AngelTownModel" 104 "AngelTownModel" "canSee" "[Z" ∈ lw_tbl := tb_6 (List.mem_of_getElem? (i := 124) (by decide +kernel))
theorem we_1499 : Cond.fieldLink "AngelTownModel" 108 "AngelTownModel" "earliest" "[I" ∈ lw_tbl := tb_6 (List.mem_of_getElem? (i := 125) (by decide +kernel))
theorem we_1500 : Cond.fieldLink "AngelTownModel" 111 "AngelTownModel" "riskBy" "[I" ∈ lw_tbl := tb_6 (List.mem_of_getElem? (i := 126) (by decide +kernel))
theorem we_1501 : Cond.fieldLink "AngelTownModel" 115 "AngelTownModel" "mostSeen" "[I" ∈ lw_tbl := tb_6 (List.mem_of_getElem? (i := 127) (by decide +kernel))
theorem we_1502 : Cond.fieldLink "AngelTownModel" 118 "AngelTownModel" "harms" "[I" ∈ lw_tbl := tb_6 (List.mem_of_getElem? (i := 128) (by decide +kernel))
theorem we_1507 : Cond.fieldLink "AngelTownModel" 121 "AngelTownModel" "images" "[I" ∈ lw_tbl := tb_6 (List.mem_of_getElem? (i := 133) (by decide +kernel))
theorem dX12_init_0 : decode cX12_init 0 = .ok (.aload_n 0, 1) := by decide +kernel
theorem dX12_init_1 : decode cX12_init 1 = .ok (.invokespecial 1, 3) := by decide +kernel
theorem dX12_init_4 : decode cX12_init 4 = .ok (.aload_n 0, 1) := by decide +kernel
theorem dX12_init_5 : decode cX12_init 5 = .ok (.bipush 87, 2) := by decide +kernel
theorem dX12_init_7 : decode cX12_init 7 = .ok (.newarray .int, 2) := by decide +kernel
theorem dX12_init_9 : decode cX12_init 9 = .ok (.putfield 7, 3) := by decide +kernel
theorem dX12_init_12 : decode cX12_init 12 = .ok (.aload_n 0, 1) := by decide +kernel
theorem dX12_init_13 : decode cX12_init 13 = .ok (.sipush 522, 3) := by decide +kernel
theorem dX12_init_16 : decode cX12_init 16 = .ok (.newarray .int, 2) := by decide +kernel
theorem dX12_init_18 : decode cX12_init 18 = .ok (.putfield 13, 3) := by decide +kernel
theorem dX12_init_21 : decode cX12_init 21 = .ok (.aload_n 0, 1) := by decide +kernel
theorem dX12_init_22 : decode cX12_init 22 = .ok (.bipush 87, 2) := by decide +kernel
theorem dX12_init_24 : decode cX12_init 24 = .ok (.newarray .int, 2) := by decide +kernel
theorem dX12_init_26 : decode cX12_init 26 = .ok (.putfield 16, 3) := by decide +kernel
theorem dX12_init_29 : decode cX12_init 29 = .ok (.aload_n 0, 1) := by decide +kernel
theorem dX12_init_30 : decode cX12_init 30 = .ok (.iconst 5, 1) := by decide +kernel
theorem dX12_init_31 : decode cX12_init 31 = .ok (.newarray .int, 2) := by decide +kernel
theorem dX12_init_33 : decode cX12_init 33 = .ok (.putfield 19, 3) := by decide +kernel
theorem dX12_init_36 : decode cX12_init 36 = .ok (.aload_n 0, 1) := by decide +kernel
theorem dX12_init_37 : decode cX12_init 37 = .ok (.bipush 6, 2) := by decide +kernel
theorem dX12_init_39 : decode cX12_init 39 = .ok (.newarray .int, 2) := by decide +kernel
theorem dX12_init_41 : decode cX12_init 41 = .ok (.putfield 22, 3) := by decide +kernel
theorem dX12_init_44 : decode cX12_init 44 = .ok (.aload_n 0, 1) := by decide +kernel
theorem dX12_init_45 : decode cX12_init 45 = .ok (.bipush 6, 2) := by decide +kernel
theorem dX12_init_47 : decode cX12_init 47 = .ok (.newarray .int, 2) := by decide +kernel
theorem dX12_init_49 : decode cX12_init 49 = .ok (.putfield 25, 3) := by decide +kernel
theorem dX12_init_52 : decode cX12_init 52 = .ok (.aload_n 0, 1) := by decide +kernel
theorem dX12_init_53 : decode cX12_init 53 = .ok (.bipush 6, 2) := by decide +kernel
theorem dX12_init_55 : decode cX12_init 55 = .ok (.newarray .int, 2) := by decide +kernel
theorem dX12_init_57 : decode cX12_init 57 = .ok (.putfield 28, 3) := by decide +kernel
theorem dX12_init_60 : decode cX12_init 60 = .ok (.aload_n 0, 1) := by decide +kernel
theorem dX12_init_61 : decode cX12_init 61 = .ok (.bipush 6, 2) := by decide +kernel
theorem dX12_init_63 : decode cX12_init 63 = .ok (.newarray .int, 2) := by decide +kernel
theorem dX12_init_65 : decode cX12_init 65 = .ok (.putfield 31, 3) := by decide +kernel
theorem dX12_init_68 : decode cX12_init 68 = .ok (.aload_n 0, 1) := by decide +kernel
theorem dX12_init_69 : decode cX12_init 69 = .ok (.sipush 500, 3) := by decide +kernel
theorem dX12_init_72 : decode cX12_init 72 = .ok (.newarray .int, 2) := by decide +kernel
theorem dX12_init_74 : decode cX12_init 74 = .ok (.putfield 34, 3) := by decide +kernel
theorem dX12_init_77 : decode cX12_init 77 = .ok (.aload_n 0, 1) := by decide +kernel
theorem dX12_init_78 : decode cX12_init 78 = .ok (.sipush 400, 3) := by decide +kernel
theorem dX12_init_81 : decode cX12_init 81 = .ok (.newarray .int, 2) := by decide +kernel
theorem dX12_init_83 : decode cX12_init 83 = .ok (.putfield 37, 3) := by decide +kernel
theorem dX12_init_86 : decode cX12_init 86 = .ok (.aload_n 0, 1) := by decide +kernel
theorem dX12_init_87 : decode cX12_init 87 = .ok (.sipush 178, 3) := by decide +kernel
theorem dX12_init_90 : decode cX12_init 90 = .ok (.newarray .int, 2) := by decide +kernel
theorem dX12_init_92 : decode cX12_init 92 = .ok (.dup, 1) := by decide +kernel
theorem dX12_init_93 : decode cX12_init 93 = .ok (.iconst 0, 1) := by decide +kernel
theorem dX12_init_94 : decode cX12_init 94 = .ok (.bipush 32, 2) := by decide +kernel
theorem dX12_init_96 : decode cX12_init 96 = .ok (.iastore, 1) := by decide +kernel
theorem dX12_init_97 : decode cX12_init 97 = .ok (.dup, 1) := by decide +kernel
theorem dX12_init_98 : decode cX12_init 98 = .ok (.iconst 1, 1) := by decide +kernel
theorem dX12_init_99 : decode cX12_init 99 = .ok (.bipush 119, 2) := by decide +kernel
theorem dX12_init_101 : decode cX12_init 101 = .ok (.iastore, 1) := by decide +kernel
theorem dX12_init_102 : decode cX12_init 102 = .ok (.dup, 1) := by decide +kernel
theorem dX12_init_103 : decode cX12_init 103 = .ok (.iconst 2, 1) := by decide +kernel
theorem dX12_init_104 : decode cX12_init 104 = .ok (.bipush 111, 2) := by decide +kernel
theorem dX12_init_106 : decode cX12_init 106 = .ok (.iastore, 1) := by decide +kernel
theorem dX12_init_107 : decode cX12_init 107 = .ok (.dup, 1) := by decide +kernel
theorem dX12_init_108 : decode cX12_init 108 = .ok (.iconst 3, 1) := by decide +kernel
theorem dX12_init_109 : decode cX12_init 109 = .ok (.bipush 114, 2) := by decide +kernel
theorem dX12_init_111 : decode cX12_init 111 = .ok (.iastore, 1) := by decide +kernel
theorem dX12_init_112 : decode cX12_init 112 = .ok (.dup, 1) := by decide +kernel
theorem dX12_init_113 : decode cX12_init 113 = .ok (.iconst 4, 1) := by decide +kernel
theorem dX12_init_114 : decode cX12_init 114 = .ok (.bipush 107, 2) := by decide +kernel
theorem dX12_init_116 : decode cX12_init 116 = .ok (.iastore, 1) := by decide +kernel
theorem dX12_init_117 : decode cX12_init 117 = .ok (.dup, 1) := by decide +kernel
theorem dX12_init_118 : decode cX12_init 118 = .ok (.iconst 5, 1) := by decide +kernel
theorem dX12_init_119 : decode cX12_init 119 = .ok (.bipush 115, 2) := by decide +kernel
theorem dX12_init_121 : decode cX12_init 121 = .ok (.iastore, 1) := by decide +kernel
theorem dX12_init_122 : decode cX12_init 122 = .ok (.dup, 1) := by decide +kernel
theorem dX12_init_123 : decode cX12_init 123 = .ok (.bipush 6, 2) := by decide +kernel
theorem dX12_init_125 : decode cX12_init 125 = .ok (.bipush 32, 2) := by decide +kernel
theorem dX12_init_127 : decode cX12_init 127 = .ok (.iastore, 1) := by decide +kernel
theorem dX12_init_128 : decode cX12_init 128 = .ok (.dup, 1) := by decide +kernel
theorem dX12_init_129 : decode cX12_init 129 = .ok (.bipush 7, 2) := by decide +kernel
theorem dX12_init_131 : decode cX12_init 131 = .ok (.bipush 102, 2) := by decide +kernel
theorem dX12_init_133 : decode cX12_init 133 = .ok (.iastore, 1) := by decide +kernel
theorem dX12_init_134 : decode cX12_init 134 = .ok (.dup, 1) := by decide +kernel
theorem dX12_init_135 : decode cX12_init 135 = .ok (.bipush 8, 2) := by decide +kernel
theorem dX12_init_137 : decode cX12_init 137 = .ok (.bipush 97, 2) := by decide +kernel
theorem dX12_init_139 : decode cX12_init 139 = .ok (.iastore, 1) := by decide +kernel
theorem dX12_init_140 : decode cX12_init 140 = .ok (.dup, 1) := by decide +kernel
theorem dX12_init_141 : decode cX12_init 141 = .ok (.bipush 9, 2) := by decide +kernel
theorem dX12_init_143 : decode cX12_init 143 = .ok (.bipush 105, 2) := by decide +kernel
theorem dX12_init_145 : decode cX12_init 145 = .ok (.iastore, 1) := by decide +kernel
theorem dX12_init_146 : decode cX12_init 146 = .ok (.dup, 1) := by decide +kernel
theorem dX12_init_147 : decode cX12_init 147 = .ok (.bipush 10, 2) := by decide +kernel
theorem dX12_init_149 : decode cX12_init 149 = .ok (.bipush 108, 2) := by decide +kernel
theorem dX12_init_151 : decode cX12_init 151 = .ok (.iastore, 1) := by decide +kernel
theorem dX12_init_152 : decode cX12_init 152 = .ok (.dup, 1) := by decide +kernel
theorem dX12_init_153 : decode cX12_init 153 = .ok (.bipush 11, 2) := by decide +kernel
theorem dX12_init_155 : decode cX12_init 155 = .ok (.bipush 115, 2) := by decide +kernel
theorem dX12_init_157 : decode cX12_init 157 = .ok (.iastore, 1) := by decide +kernel
theorem dX12_init_158 : decode cX12_init 158 = .ok (.dup, 1) := by decide +kernel
theorem dX12_init_159 : decode cX12_init 159 = .ok (.bipush 12, 2) := by decide +kernel
theorem dX12_init_161 : decode cX12_init 161 = .ok (.bipush 32, 2) := by decide +kernel
theorem dX12_init_163 : decode cX12_init 163 = .ok (.iastore, 1) := by decide +kernel
theorem dX12_init_164 : decode cX12_init 164 = .ok (.dup, 1) := by decide +kernel
theorem dX12_init_165 : decode cX12_init 165 = .ok (.bipush 13, 2) := by decide +kernel
theorem dX12_init_167 : decode cX12_init 167 = .ok (.bipush 119, 2) := by decide +kernel
theorem dX12_init_169 : decode cX12_init 169 = .ok (.iastore, 1) := by decide +kernel
theorem dX12_init_170 : decode cX12_init 170 = .ok (.dup, 1) := by decide +kernel
theorem dX12_init_171 : decode cX12_init 171 = .ok (.bipush 14, 2) := by decide +kernel
theorem dX12_init_173 : decode cX12_init 173 = .ok (.bipush 104, 2) := by decide +kernel
theorem dX12_init_175 : decode cX12_init 175 = .ok (.iastore, 1) := by decide +kernel
theorem dX12_init_176 : decode cX12_init 176 = .ok (.dup, 1) := by decide +kernel
theorem dX12_init_177 : decode cX12_init 177 = .ok (.bipush 15, 2) := by decide +kernel
theorem dX12_init_179 : decode cX12_init 179 = .ok (.bipush 101, 2) := by decide +kernel
theorem dX12_init_181 : decode cX12_init 181 = .ok (.iastore, 1) := by decide +kernel
theorem dX12_init_182 : decode cX12_init 182 = .ok (.dup, 1) := by decide +kernel
theorem dX12_init_183 : decode cX12_init 183 = .ok (.bipush 16, 2) := by decide +kernel
theorem dX12_init_185 : decode cX12_init 185 = .ok (.bipush 110, 2) := by decide +kernel
theorem dX12_init_187 : decode cX12_init 187 = .ok (.iastore, 1) := by decide +kernel
theorem dX12_init_188 : decode cX12_init 188 = .ok (.dup, 1) := by decide +kernel
theorem dX12_init_189 : decode cX12_init 189 = .ok (.bipush 17, 2) := by decide +kernel
theorem dX12_init_191 : decode cX12_init 191 = .ok (.bipush 32, 2) := by decide +kernel
theorem dX12_init_193 : decode cX12_init 193 = .ok (.iastore, 1) := by decide +kernel
theorem dX12_init_194 : decode cX12_init 194 = .ok (.dup, 1) := by decide +kernel
theorem dX12_init_195 : decode cX12_init 195 = .ok (.bipush 18, 2) := by decide +kernel
theorem dX12_init_197 : decode cX12_init 197 = .ok (.bipush 111, 2) := by decide +kernel
theorem dX12_init_199 : decode cX12_init 199 = .ok (.iastore, 1) := by decide +kernel
theorem dX12_init_200 : decode cX12_init 200 = .ok (.dup, 1) := by decide +kernel
theorem dX12_init_201 : decode cX12_init 201 = .ok (.bipush 19, 2) := by decide +kernel
theorem dX12_init_203 : decode cX12_init 203 = .ok (.bipush 114, 2) := by decide +kernel
theorem dX12_init_205 : decode cX12_init 205 = .ok (.iastore, 1) := by decide +kernel
theorem dX12_init_206 : decode cX12_init 206 = .ok (.dup, 1) := by decide +kernel
theorem dX12_init_207 : decode cX12_init 207 = .ok (.bipush 20, 2) := by decide +kernel
theorem dX12_init_209 : decode cX12_init 209 = .ok (.bipush 32, 2) := by decide +kernel
theorem dX12_init_211 : decode cX12_init 211 = .ok (.iastore, 1) := by decide +kernel
theorem dX12_init_212 : decode cX12_init 212 = .ok (.dup, 1) := by decide +kernel
theorem dX12_init_213 : decode cX12_init 213 = .ok (.bipush 21, 2) := by decide +kernel
theorem dX12_init_215 : decode cX12_init 215 = .ok (.bipush 97, 2) := by decide +kernel
theorem dX12_init_217 : decode cX12_init 217 = .ok (.iastore, 1) := by decide +kernel
theorem dX12_init_218 : decode cX12_init 218 = .ok (.dup, 1) := by decide +kernel
theorem dX12_init_219 : decode cX12_init 219 = .ok (.bipush 22, 2) := by decide +kernel
theorem dX12_init_221 : decode cX12_init 221 = .ok (.bipush 110, 2) := by decide +kernel
theorem dX12_init_223 : decode cX12_init 223 = .ok (.iastore, 1) := by decide +kernel
theorem dX12_init_224 : decode cX12_init 224 = .ok (.dup, 1) := by decide +kernel
theorem dX12_init_225 : decode cX12_init 225 = .ok (.bipush 23, 2) := by decide +kernel
theorem dX12_init_227 : decode cX12_init 227 = .ok (.bipush 100, 2) := by decide +kernel
theorem dX12_init_229 : decode cX12_init 229 = .ok (.iastore, 1) := by decide +kernel
theorem dX12_init_230 : decode cX12_init 230 = .ok (.dup, 1) := by decide +kernel
theorem dX12_init_231 : decode cX12_init 231 = .ok (.bipush 24, 2) := by decide +kernel
theorem dX12_init_233 : decode cX12_init 233 = .ok (.bipush 32, 2) := by decide +kernel
theorem dX12_init_235 : decode cX12_init 235 = .ok (.iastore, 1) := by decide +kernel
theorem dX12_init_236 : decode cX12_init 236 = .ok (.dup, 1) := by decide +kernel
theorem dX12_init_237 : decode cX12_init 237 = .ok (.bipush 25, 2) := by decide +kernel
theorem dX12_init_239 : decode cX12_init 239 = .ok (.bipush 110, 2) := by decide +kernel
theorem dX12_init_241 : decode cX12_init 241 = .ok (.iastore, 1) := by decide +kernel
theorem dX12_init_242 : decode cX12_init 242 = .ok (.dup, 1) := by decide +kernel
theorem dX12_init_243 : decode cX12_init 243 = .ok (.bipush 26, 2) := by decide +kernel
theorem dX12_init_245 : decode cX12_init 245 = .ok (.bipush 111, 2) := by decide +kernel
theorem dX12_init_247 : decode cX12_init 247 = .ok (.iastore, 1) := by decide +kernel
theorem dX12_init_248 : decode cX12_init 248 = .ok (.dup, 1) := by decide +kernel
theorem dX12_init_249 : decode cX12_init 249 = .ok (.bipush 27, 2) := by decide +kernel
theorem dX12_init_251 : decode cX12_init 251 = .ok (.bipush 116, 2) := by decide +kernel
theorem dX12_init_253 : decode cX12_init 253 = .ok (.iastore, 1) := by decide +kernel
theorem dX12_init_254 : decode cX12_init 254 = .ok (.dup, 1) := by decide +kernel
theorem dX12_init_255 : decode cX12_init 255 = .ok (.bipush 28, 2) := by decide +kernel
theorem dX12_init_257 : decode cX12_init 257 = .ok (.bipush 32, 2) := by decide +kernel
theorem dX12_init_259 : decode cX12_init 259 = .ok (.iastore, 1) := by decide +kernel
theorem dX12_init_260 : decode cX12_init 260 = .ok (.dup, 1) := by decide +kernel
theorem dX12_init_261 : decode cX12_init 261 = .ok (.bipush 29, 2) := by decide +kernel
theorem dX12_init_263 : decode cX12_init 263 = .ok (.bipush 107, 2) := by decide +kernel
theorem dX12_init_265 : decode cX12_init 265 = .ok (.iastore, 1) := by decide +kernel
theorem dX12_init_266 : decode cX12_init 266 = .ok (.dup, 1) := by decide +kernel
theorem dX12_init_267 : decode cX12_init 267 = .ok (.bipush 30, 2) := by decide +kernel
theorem dX12_init_269 : decode cX12_init 269 = .ok (.bipush 105, 2) := by decide +kernel
theorem dX12_init_271 : decode cX12_init 271 = .ok (.iastore, 1) := by decide +kernel
theorem dX12_init_272 : decode cX12_init 272 = .ok (.dup, 1) := by decide +kernel
theorem dX12_init_273 : decode cX12_init 273 = .ok (.bipush 31, 2) := by decide +kernel
theorem dX12_init_275 : decode cX12_init 275 = .ok (.bipush 110, 2) := by decide +kernel
theorem dX12_init_277 : decode cX12_init 277 = .ok (.iastore, 1) := by decide +kernel
theorem dX12_init_278 : decode cX12_init 278 = .ok (.dup, 1) := by decide +kernel
theorem dX12_init_279 : decode cX12_init 279 = .ok (.bipush 32, 2) := by decide +kernel
theorem dX12_init_281 : decode cX12_init 281 = .ok (.bipush 100, 2) := by decide +kernel
theorem dX12_init_283 : decode cX12_init 283 = .ok (.iastore, 1) := by decide +kernel
theorem dX12_init_284 : decode cX12_init 284 = .ok (.dup, 1) := by decide +kernel
theorem dX12_init_285 : decode cX12_init 285 = .ok (.bipush 33, 2) := by decide +kernel
theorem dX12_init_287 : decode cX12_init 287 = .ok (.bipush 32, 2) := by decide +kernel
theorem dX12_init_289 : decode cX12_init 289 = .ok (.iastore, 1) := by decide +kernel
theorem dX12_init_290 : decode cX12_init 290 = .ok (.dup, 1) := by decide +kernel
theorem dX12_init_291 : decode cX12_init 291 = .ok (.bipush 34, 2) := by decide +kernel
theorem dX12_init_293 : decode cX12_init 293 = .ok (.bipush 115, 2) := by decide +kernel
theorem dX12_init_295 : decode cX12_init 295 = .ok (.iastore, 1) := by decide +kernel
theorem dX12_init_296 : decode cX12_init 296 = .ok (.dup, 1) := by decide +kernel
theorem dX12_init_297 : decode cX12_init 297 = .ok (.bipush 35, 2) := by decide +kernel
theorem dX12_init_299 : decode cX12_init 299 = .ok (.bipush 101, 2) := by decide +kernel
theorem dX12_init_301 : decode cX12_init 301 = .ok (.iastore, 1) := by decide +kernel
theorem dX12_init_302 : decode cX12_init 302 = .ok (.dup, 1) := by decide +kernel
theorem dX12_init_303 : decode cX12_init 303 = .ok (.bipush 36, 2) := by decide +kernel
theorem dX12_init_305 : decode cX12_init 305 = .ok (.bipush 99, 2) := by decide +kernel
theorem dX12_init_307 : decode cX12_init 307 = .ok (.iastore, 1) := by decide +kernel
theorem dX12_init_308 : decode cX12_init 308 = .ok (.dup, 1) := by decide +kernel
theorem dX12_init_309 : decode cX12_init 309 = .ok (.bipush 37, 2) := by decide +kernel
theorem dX12_init_311 : decode cX12_init 311 = .ok (.bipush 111, 2) := by decide +kernel
theorem dX12_init_313 : decode cX12_init 313 = .ok (.iastore, 1) := by decide +kernel
theorem dX12_init_314 : decode cX12_init 314 = .ok (.dup, 1) := by decide +kernel
theorem dX12_init_315 : decode cX12_init 315 = .ok (.bipush 38, 2) := by decide +kernel
theorem dX12_init_317 : decode cX12_init 317 = .ok (.bipush 110, 2) := by decide +kernel
theorem dX12_init_319 : decode cX12_init 319 = .ok (.iastore, 1) := by decide +kernel
theorem dX12_init_320 : decode cX12_init 320 = .ok (.dup, 1) := by decide +kernel
theorem dX12_init_321 : decode cX12_init 321 = .ok (.bipush 39, 2) := by decide +kernel
theorem dX12_init_323 : decode cX12_init 323 = .ok (.bipush 100, 2) := by decide +kernel
theorem dX12_init_325 : decode cX12_init 325 = .ok (.iastore, 1) := by decide +kernel
theorem dX12_init_326 : decode cX12_init 326 = .ok (.dup, 1) := by decide +kernel
theorem dX12_init_327 : decode cX12_init 327 = .ok (.bipush 40, 2) := by decide +kernel
theorem dX12_init_329 : decode cX12_init 329 = .ok (.bipush 32, 2) := by decide +kernel
theorem dX12_init_331 : decode cX12_init 331 = .ok (.iastore, 1) := by decide +kernel
theorem dX12_init_332 : decode cX12_init 332 = .ok (.dup, 1) := by decide +kernel
theorem dX12_init_333 : decode cX12_init 333 = .ok (.bipush 41, 2) := by decide +kernel
theorem dX12_init_335 : decode cX12_init 335 = .ok (.bipush 120, 2) := by decide +kernel
theorem dX12_init_337 : decode cX12_init 337 = .ok (.iastore, 1) := by decide +kernel
theorem dX12_init_338 : decode cX12_init 338 = .ok (.dup, 1) := by decide +kernel
theorem dX12_init_339 : decode cX12_init 339 = .ok (.bipush 42, 2) := by decide +kernel
theorem dX12_init_341 : decode cX12_init 341 = .ok (.bipush 32, 2) := by decide +kernel
theorem dX12_init_343 : decode cX12_init 343 = .ok (.iastore, 1) := by decide +kernel
theorem dX12_init_344 : decode cX12_init 344 = .ok (.dup, 1) := by decide +kernel
theorem dX12_init_345 : decode cX12_init 345 = .ok (.bipush 43, 2) := by decide +kernel
theorem dX12_init_347 : decode cX12_init 347 = .ok (.bipush 121, 2) := by decide +kernel
theorem dX12_init_349 : decode cX12_init 349 = .ok (.iastore, 1) := by decide +kernel
theorem dX12_init_350 : decode cX12_init 350 = .ok (.dup, 1) := by decide +kernel
theorem dX12_init_351 : decode cX12_init 351 = .ok (.bipush 44, 2) := by decide +kernel
theorem dX12_init_353 : decode cX12_init 353 = .ok (.bipush 32, 2) := by decide +kernel
theorem dX12_init_355 : decode cX12_init 355 = .ok (.iastore, 1) := by decide +kernel
theorem dX12_init_356 : decode cX12_init 356 = .ok (.dup, 1) := by decide +kernel
theorem dX12_init_357 : decode cX12_init 357 = .ok (.bipush 45, 2) := by decide +kernel
theorem dX12_init_359 : decode cX12_init 359 = .ok (.bipush 119, 2) := by decide +kernel
theorem dX12_init_361 : decode cX12_init 361 = .ok (.iastore, 1) := by decide +kernel
theorem dX12_init_362 : decode cX12_init 362 = .ok (.dup, 1) := by decide +kernel
theorem dX12_init_363 : decode cX12_init 363 = .ok (.bipush 46, 2) := by decide +kernel
theorem dX12_init_365 : decode cX12_init 365 = .ok (.bipush 97, 2) := by decide +kernel
theorem dX12_init_367 : decode cX12_init 367 = .ok (.iastore, 1) := by decide +kernel
theorem dX12_init_368 : decode cX12_init 368 = .ok (.dup, 1) := by decide +kernel
theorem dX12_init_369 : decode cX12_init 369 = .ok (.bipush 47, 2) := by decide +kernel
theorem dX12_init_371 : decode cX12_init 371 = .ok (.bipush 114, 2) := by decide +kernel
theorem dX12_init_373 : decode cX12_init 373 = .ok (.iastore, 1) := by decide +kernel
theorem dX12_init_374 : decode cX12_init 374 = .ok (.dup, 1) := by decide +kernel
theorem dX12_init_375 : decode cX12_init 375 = .ok (.bipush 48, 2) := by decide +kernel
theorem dX12_init_377 : decode cX12_init 377 = .ok (.bipush 100, 2) := by decide +kernel
theorem dX12_init_379 : decode cX12_init 379 = .ok (.iastore, 1) := by decide +kernel
theorem dX12_init_380 : decode cX12_init 380 = .ok (.dup, 1) := by decide +kernel
theorem dX12_init_381 : decode cX12_init 381 = .ok (.bipush 49, 2) := by decide +kernel
theorem dX12_init_383 : decode cX12_init 383 = .ok (.bipush 115, 2) := by decide +kernel
theorem dX12_init_385 : decode cX12_init 385 = .ok (.iastore, 1) := by decide +kernel
theorem dX12_init_386 : decode cX12_init 386 = .ok (.dup, 1) := by decide +kernel
theorem dX12_init_387 : decode cX12_init 387 = .ok (.bipush 50, 2) := by decide +kernel
theorem dX12_init_389 : decode cX12_init 389 = .ok (.bipush 32, 2) := by decide +kernel
theorem dX12_init_391 : decode cX12_init 391 = .ok (.iastore, 1) := by decide +kernel
theorem dX12_init_392 : decode cX12_init 392 = .ok (.dup, 1) := by decide +kernel
theorem dX12_init_393 : decode cX12_init 393 = .ok (.bipush 51, 2) := by decide +kernel
theorem dX12_init_395 : decode cX12_init 395 = .ok (.bipush 115, 2) := by decide +kernel
theorem dX12_init_397 : decode cX12_init 397 = .ok (.iastore, 1) := by decide +kernel
theorem dX12_init_398 : decode cX12_init 398 = .ok (.dup, 1) := by decide +kernel
theorem dX12_init_399 : decode cX12_init 399 = .ok (.bipush 52, 2) := by decide +kernel
theorem dX12_init_401 : decode cX12_init 401 = .ok (.bipush 112, 2) := by decide +kernel
theorem dX12_init_403 : decode cX12_init 403 = .ok (.iastore, 1) := by decide +kernel
theorem dX12_init_404 : decode cX12_init 404 = .ok (.dup, 1) := by decide +kernel
theorem dX12_init_405 : decode cX12_init 405 = .ok (.bipush 53, 2) := by decide +kernel
theorem dX12_init_407 : decode cX12_init 407 = .ok (.bipush 111, 2) := by decide +kernel
theorem dX12_init_409 : decode cX12_init 409 = .ok (.iastore, 1) := by decide +kernel
theorem dX12_init_410 : decode cX12_init 410 = .ok (.dup, 1) := by decide +kernel
theorem dX12_init_411 : decode cX12_init 411 = .ok (.bipush 54, 2) := by decide +kernel
theorem dX12_init_413 : decode cX12_init 413 = .ok (.bipush 105, 2) := by decide +kernel
theorem dX12_init_415 : decode cX12_init 415 = .ok (.iastore, 1) := by decide +kernel
theorem dX12_init_416 : decode cX12_init 416 = .ok (.dup, 1) := by decide +kernel
theorem dX12_init_417 : decode cX12_init 417 = .ok (.bipush 55, 2) := by decide +kernel
theorem dX12_init_419 : decode cX12_init 419 = .ok (.bipush 108, 2) := by decide +kernel
theorem dX12_init_421 : decode cX12_init 421 = .ok (.iastore, 1) := by decide +kernel
theorem dX12_init_422 : decode cX12_init 422 = .ok (.dup, 1) := by decide +kernel
theorem dX12_init_423 : decode cX12_init 423 = .ok (.bipush 56, 2) := by decide +kernel
theorem dX12_init_425 : decode cX12_init 425 = .ok (.bipush 116, 2) := by decide +kernel
theorem dX12_init_427 : decode cX12_init 427 = .ok (.iastore, 1) := by decide +kernel
theorem dX12_init_428 : decode cX12_init 428 = .ok (.dup, 1) := by decide +kernel
theorem dX12_init_429 : decode cX12_init 429 = .ok (.bipush 57, 2) := by decide +kernel
theorem dX12_init_431 : decode cX12_init 431 = .ok (.bipush 32, 2) := by decide +kernel
theorem dX12_init_433 : decode cX12_init 433 = .ok (.iastore, 1) := by decide +kernel
theorem dX12_init_434 : decode cX12_init 434 = .ok (.dup, 1) := by decide +kernel
theorem dX12_init_435 : decode cX12_init 435 = .ok (.bipush 58, 2) := by decide +kernel
theorem dX12_init_437 : decode cX12_init 437 = .ok (.bipush 97, 2) := by decide +kernel
theorem dX12_init_439 : decode cX12_init 439 = .ok (.iastore, 1) := by decide +kernel
theorem dX12_init_440 : decode cX12_init 440 = .ok (.dup, 1) := by decide +kernel
theorem dX12_init_441 : decode cX12_init 441 = .ok (.bipush 59, 2) := by decide +kernel
theorem dX12_init_443 : decode cX12_init 443 = .ok (.bipush 110, 2) := by decide +kernel
theorem dX12_init_445 : decode cX12_init 445 = .ok (.iastore, 1) := by decide +kernel
theorem dX12_init_446 : decode cX12_init 446 = .ok (.dup, 1) := by decide +kernel
theorem dX12_init_447 : decode cX12_init 447 = .ok (.bipush 60, 2) := by decide +kernel
theorem dX12_init_449 : decode cX12_init 449 = .ok (.bipush 103, 2) := by decide +kernel
theorem dX12_init_451 : decode cX12_init 451 = .ok (.iastore, 1) := by decide +kernel
theorem dX12_init_452 : decode cX12_init 452 = .ok (.dup, 1) := by decide +kernel
theorem dX12_init_453 : decode cX12_init 453 = .ok (.bipush 61, 2) := by decide +kernel
theorem dX12_init_455 : decode cX12_init 455 = .ok (.bipush 101, 2) := by decide +kernel
theorem dX12_init_457 : decode cX12_init 457 = .ok (.iastore, 1) := by decide +kernel
theorem dX12_init_458 : decode cX12_init 458 = .ok (.dup, 1) := by decide +kernel
theorem dX12_init_459 : decode cX12_init 459 = .ok (.bipush 62, 2) := by decide +kernel
theorem dX12_init_461 : decode cX12_init 461 = .ok (.bipush 108, 2) := by decide +kernel
theorem dX12_init_463 : decode cX12_init 463 = .ok (.iastore, 1) := by decide +kernel
theorem dX12_init_464 : decode cX12_init 464 = .ok (.dup, 1) := by decide +kernel
theorem dX12_init_465 : decode cX12_init 465 = .ok (.bipush 63, 2) := by decide +kernel
theorem dX12_init_467 : decode cX12_init 467 = .ok (.bipush 32, 2) := by decide +kernel
theorem dX12_init_469 : decode cX12_init 469 = .ok (.iastore, 1) := by decide +kernel
theorem dX12_init_470 : decode cX12_init 470 = .ok (.dup, 1) := by decide +kernel
theorem dX12_init_471 : decode cX12_init 471 = .ok (.bipush 64, 2) := by decide +kernel
theorem dX12_init_473 : decode cX12_init 473 = .ok (.bipush 100, 2) := by decide +kernel
theorem dX12_init_475 : decode cX12_init 475 = .ok (.iastore, 1) := by decide +kernel
theorem dX12_init_476 : decode cX12_init 476 = .ok (.dup, 1) := by decide +kernel
theorem dX12_init_477 : decode cX12_init 477 = .ok (.bipush 65, 2) := by decide +kernel
theorem dX12_init_479 : decode cX12_init 479 = .ok (.bipush 111, 2) := by decide +kernel
theorem dX12_init_481 : decode cX12_init 481 = .ok (.iastore, 1) := by decide +kernel
theorem dX12_init_482 : decode cX12_init 482 = .ok (.dup, 1) := by decide +kernel
theorem dX12_init_483 : decode cX12_init 483 = .ok (.bipush 66, 2) := by decide +kernel
theorem dX12_init_485 : decode cX12_init 485 = .ok (.bipush 110, 2) := by decide +kernel
theorem dX12_init_487 : decode cX12_init 487 = .ok (.iastore, 1) := by decide +kernel
theorem dX12_init_488 : decode cX12_init 488 = .ok (.dup, 1) := by decide +kernel
theorem dX12_init_489 : decode cX12_init 489 = .ok (.bipush 67, 2) := by decide +kernel
theorem dX12_init_491 : decode cX12_init 491 = .ok (.bipush 101, 2) := by decide +kernel
theorem dX12_init_493 : decode cX12_init 493 = .ok (.iastore, 1) := by decide +kernel
theorem dX12_init_494 : decode cX12_init 494 = .ok (.dup, 1) := by decide +kernel
theorem dX12_init_495 : decode cX12_init 495 = .ok (.bipush 68, 2) := by decide +kernel
theorem dX12_init_497 : decode cX12_init 497 = .ok (.bipush 32, 2) := by decide +kernel
theorem dX12_init_499 : decode cX12_init 499 = .ok (.iastore, 1) := by decide +kernel
theorem dX12_init_500 : decode cX12_init 500 = .ok (.dup, 1) := by decide +kernel
theorem dX12_init_501 : decode cX12_init 501 = .ok (.bipush 69, 2) := by decide +kernel
theorem dX12_init_503 : decode cX12_init 503 = .ok (.bipush 112, 2) := by decide +kernel
theorem dX12_init_505 : decode cX12_init 505 = .ok (.iastore, 1) := by decide +kernel
theorem dX12_init_506 : decode cX12_init 506 = .ok (.dup, 1) := by decide +kernel
theorem dX12_init_507 : decode cX12_init 507 = .ok (.bipush 70, 2) := by decide +kernel
theorem dX12_init_509 : decode cX12_init 509 = .ok (.bipush 97, 2) := by decide +kernel
theorem dX12_init_511 : decode cX12_init 511 = .ok (.iastore, 1) := by decide +kernel
theorem dX12_init_512 : decode cX12_init 512 = .ok (.dup, 1) := by decide +kernel
theorem dX12_init_513 : decode cX12_init 513 = .ok (.bipush 71, 2) := by decide +kernel
theorem dX12_init_515 : decode cX12_init 515 = .ok (.bipush 99, 2) := by decide +kernel
theorem dX12_init_517 : decode cX12_init 517 = .ok (.iastore, 1) := by decide +kernel
theorem dX12_init_518 : decode cX12_init 518 = .ok (.dup, 1) := by decide +kernel
theorem dX12_init_519 : decode cX12_init 519 = .ok (.bipush 72, 2) := by decide +kernel
theorem dX12_init_521 : decode cX12_init 521 = .ok (.bipush 101, 2) := by decide +kernel
theorem dX12_init_523 : decode cX12_init 523 = .ok (.iastore, 1) := by decide +kernel
theorem dX12_init_524 : decode cX12_init 524 = .ok (.dup, 1) := by decide +kernel
theorem dX12_init_525 : decode cX12_init 525 = .ok (.bipush 73, 2) := by decide +kernel
theorem dX12_init_527 : decode cX12_init 527 = .ok (.bipush 32, 2) := by decide +kernel
theorem dX12_init_529 : decode cX12_init 529 = .ok (.iastore, 1) := by decide +kernel
theorem dX12_init_530 : decode cX12_init 530 = .ok (.dup, 1) := by decide +kernel
theorem dX12_init_531 : decode cX12_init 531 = .ok (.bipush 74, 2) := by decide +kernel
theorem dX12_init_533 : decode cX12_init 533 = .ok (.bipush 115, 2) := by decide +kernel
theorem dX12_init_535 : decode cX12_init 535 = .ok (.iastore, 1) := by decide +kernel
theorem dX12_init_536 : decode cX12_init 536 = .ok (.dup, 1) := by decide +kernel
theorem dX12_init_537 : decode cX12_init 537 = .ok (.bipush 75, 2) := by decide +kernel
theorem dX12_init_539 : decode cX12_init 539 = .ok (.bipush 116, 2) := by decide +kernel
theorem dX12_init_541 : decode cX12_init 541 = .ok (.iastore, 1) := by decide +kernel
theorem dX12_init_542 : decode cX12_init 542 = .ok (.dup, 1) := by decide +kernel
theorem dX12_init_543 : decode cX12_init 543 = .ok (.bipush 76, 2) := by decide +kernel
theorem dX12_init_545 : decode cX12_init 545 = .ok (.bipush 97, 2) := by decide +kernel
theorem dX12_init_547 : decode cX12_init 547 = .ok (.iastore, 1) := by decide +kernel
theorem dX12_init_548 : decode cX12_init 548 = .ok (.dup, 1) := by decide +kernel
theorem dX12_init_549 : decode cX12_init 549 = .ok (.bipush 77, 2) := by decide +kernel
theorem dX12_init_551 : decode cX12_init 551 = .ok (.bipush 110, 2) := by decide +kernel
theorem dX12_init_553 : decode cX12_init 553 = .ok (.iastore, 1) := by decide +kernel
theorem dX12_init_554 : decode cX12_init 554 = .ok (.dup, 1) := by decide +kernel
theorem dX12_init_555 : decode cX12_init 555 = .ok (.bipush 78, 2) := by decide +kernel
theorem dX12_init_557 : decode cX12_init 557 = .ok (.bipush 100, 2) := by decide +kernel
theorem dX12_init_559 : decode cX12_init 559 = .ok (.iastore, 1) := by decide +kernel
theorem dX12_init_560 : decode cX12_init 560 = .ok (.dup, 1) := by decide +kernel
theorem dX12_init_561 : decode cX12_init 561 = .ok (.bipush 79, 2) := by decide +kernel
theorem dX12_init_563 : decode cX12_init 563 = .ok (.bipush 32, 2) := by decide +kernel
theorem dX12_init_565 : decode cX12_init 565 = .ok (.iastore, 1) := by decide +kernel
theorem dX12_init_566 : decode cX12_init 566 = .ok (.dup, 1) := by decide +kernel
theorem dX12_init_567 : decode cX12_init 567 = .ok (.bipush 80, 2) := by decide +kernel
theorem dX12_init_569 : decode cX12_init 569 = .ok (.bipush 110, 2) := by decide +kernel
theorem dX12_init_571 : decode cX12_init 571 = .ok (.iastore, 1) := by decide +kernel
theorem dX12_init_572 : decode cX12_init 572 = .ok (.dup, 1) := by decide +kernel
theorem dX12_init_573 : decode cX12_init 573 = .ok (.bipush 81, 2) := by decide +kernel
theorem dX12_init_575 : decode cX12_init 575 = .ok (.bipush 111, 2) := by decide +kernel
theorem dX12_init_577 : decode cX12_init 577 = .ok (.iastore, 1) := by decide +kernel
theorem dX12_init_578 : decode cX12_init 578 = .ok (.dup, 1) := by decide +kernel
theorem dX12_init_579 : decode cX12_init 579 = .ok (.bipush 82, 2) := by decide +kernel
theorem dX12_init_581 : decode cX12_init 581 = .ok (.bipush 114, 2) := by decide +kernel
theorem dX12_init_583 : decode cX12_init 583 = .ok (.iastore, 1) := by decide +kernel
theorem dX12_init_584 : decode cX12_init 584 = .ok (.dup, 1) := by decide +kernel
theorem dX12_init_585 : decode cX12_init 585 = .ok (.bipush 83, 2) := by decide +kernel
theorem dX12_init_587 : decode cX12_init 587 = .ok (.bipush 116, 2) := by decide +kernel
theorem dX12_init_589 : decode cX12_init 589 = .ok (.iastore, 1) := by decide +kernel
theorem dX12_init_590 : decode cX12_init 590 = .ok (.dup, 1) := by decide +kernel
theorem dX12_init_591 : decode cX12_init 591 = .ok (.bipush 84, 2) := by decide +kernel
theorem dX12_init_593 : decode cX12_init 593 = .ok (.bipush 104, 2) := by decide +kernel
theorem dX12_init_595 : decode cX12_init 595 = .ok (.iastore, 1) := by decide +kernel
theorem dX12_init_596 : decode cX12_init 596 = .ok (.dup, 1) := by decide +kernel
theorem dX12_init_597 : decode cX12_init 597 = .ok (.bipush 85, 2) := by decide +kernel
theorem dX12_init_599 : decode cX12_init 599 = .ok (.bipush 32, 2) := by decide +kernel
theorem dX12_init_601 : decode cX12_init 601 = .ok (.iastore, 1) := by decide +kernel
theorem dX12_init_602 : decode cX12_init 602 = .ok (.dup, 1) := by decide +kernel
theorem dX12_init_603 : decode cX12_init 603 = .ok (.bipush 86, 2) := by decide +kernel
theorem dX12_init_605 : decode cX12_init 605 = .ok (.bipush 101, 2) := by decide +kernel
theorem dX12_init_607 : decode cX12_init 607 = .ok (.iastore, 1) := by decide +kernel
theorem dX12_init_608 : decode cX12_init 608 = .ok (.dup, 1) := by decide +kernel
theorem dX12_init_609 : decode cX12_init 609 = .ok (.bipush 87, 2) := by decide +kernel
theorem dX12_init_611 : decode cX12_init 611 = .ok (.bipush 97, 2) := by decide +kernel
theorem dX12_init_613 : decode cX12_init 613 = .ok (.iastore, 1) := by decide +kernel
theorem dX12_init_614 : decode cX12_init 614 = .ok (.dup, 1) := by decide +kernel
theorem dX12_init_615 : decode cX12_init 615 = .ok (.bipush 88, 2) := by decide +kernel
theorem dX12_init_617 : decode cX12_init 617 = .ok (.bipush 115, 2) := by decide +kernel
theorem dX12_init_619 : decode cX12_init 619 = .ok (.iastore, 1) := by decide +kernel
theorem dX12_init_620 : decode cX12_init 620 = .ok (.dup, 1) := by decide +kernel
theorem dX12_init_621 : decode cX12_init 621 = .ok (.bipush 89, 2) := by decide +kernel
theorem dX12_init_623 : decode cX12_init 623 = .ok (.bipush 116, 2) := by decide +kernel
theorem dX12_init_625 : decode cX12_init 625 = .ok (.iastore, 1) := by decide +kernel
theorem dX12_init_626 : decode cX12_init 626 = .ok (.dup, 1) := by decide +kernel
theorem dX12_init_627 : decode cX12_init 627 = .ok (.bipush 90, 2) := by decide +kernel
theorem dX12_init_629 : decode cX12_init 629 = .ok (.bipush 32, 2) := by decide +kernel
theorem dX12_init_631 : decode cX12_init 631 = .ok (.iastore, 1) := by decide +kernel
theorem dX12_init_632 : decode cX12_init 632 = .ok (.dup, 1) := by decide +kernel
theorem dX12_init_633 : decode cX12_init 633 = .ok (.bipush 91, 2) := by decide +kernel
theorem dX12_init_635 : decode cX12_init 635 = .ok (.bipush 115, 2) := by decide +kernel
theorem dX12_init_637 : decode cX12_init 637 = .ok (.iastore, 1) := by decide +kernel
theorem dX12_init_638 : decode cX12_init 638 = .ok (.dup, 1) := by decide +kernel
theorem dX12_init_639 : decode cX12_init 639 = .ok (.bipush 92, 2) := by decide +kernel
theorem dX12_init_641 : decode cX12_init 641 = .ok (.bipush 111, 2) := by decide +kernel
theorem dX12_init_643 : decode cX12_init 643 = .ok (.iastore, 1) := by decide +kernel
theorem dX12_init_644 : decode cX12_init 644 = .ok (.dup, 1) := by decide +kernel
theorem dX12_init_645 : decode cX12_init 645 = .ok (.bipush 93, 2) := by decide +kernel
theorem dX12_init_647 : decode cX12_init 647 = .ok (.bipush 117, 2) := by decide +kernel
theorem dX12_init_649 : decode cX12_init 649 = .ok (.iastore, 1) := by decide +kernel
theorem dX12_init_650 : decode cX12_init 650 = .ok (.dup, 1) := by decide +kernel
theorem dX12_init_651 : decode cX12_init 651 = .ok (.bipush 94, 2) := by decide +kernel
theorem dX12_init_653 : decode cX12_init 653 = .ok (.bipush 116, 2) := by decide +kernel
theorem dX12_init_655 : decode cX12_init 655 = .ok (.iastore, 1) := by decide +kernel
theorem dX12_init_656 : decode cX12_init 656 = .ok (.dup, 1) := by decide +kernel
theorem dX12_init_657 : decode cX12_init 657 = .ok (.bipush 95, 2) := by decide +kernel
theorem dX12_init_659 : decode cX12_init 659 = .ok (.bipush 104, 2) := by decide +kernel
theorem dX12_init_661 : decode cX12_init 661 = .ok (.iastore, 1) := by decide +kernel
theorem dX12_init_662 : decode cX12_init 662 = .ok (.dup, 1) := by decide +kernel
theorem dX12_init_663 : decode cX12_init 663 = .ok (.bipush 96, 2) := by decide +kernel
theorem dX12_init_665 : decode cX12_init 665 = .ok (.bipush 32, 2) := by decide +kernel
theorem dX12_init_667 : decode cX12_init 667 = .ok (.iastore, 1) := by decide +kernel
theorem dX12_init_668 : decode cX12_init 668 = .ok (.dup, 1) := by decide +kernel
theorem dX12_init_669 : decode cX12_init 669 = .ok (.bipush 97, 2) := by decide +kernel
theorem dX12_init_671 : decode cX12_init 671 = .ok (.bipush 119, 2) := by decide +kernel
theorem dX12_init_673 : decode cX12_init 673 = .ok (.iastore, 1) := by decide +kernel
theorem dX12_init_674 : decode cX12_init 674 = .ok (.dup, 1) := by decide +kernel
theorem dX12_init_675 : decode cX12_init 675 = .ok (.bipush 98, 2) := by decide +kernel
theorem dX12_init_677 : decode cX12_init 677 = .ok (.bipush 101, 2) := by decide +kernel
theorem dX12_init_679 : decode cX12_init 679 = .ok (.iastore, 1) := by decide +kernel
theorem dX12_init_680 : decode cX12_init 680 = .ok (.dup, 1) := by decide +kernel
theorem dX12_init_681 : decode cX12_init 681 = .ok (.bipush 99, 2) := by decide +kernel
theorem dX12_init_683 : decode cX12_init 683 = .ok (.bipush 115, 2) := by decide +kernel
theorem dX12_init_685 : decode cX12_init 685 = .ok (.iastore, 1) := by decide +kernel
theorem dX12_init_686 : decode cX12_init 686 = .ok (.dup, 1) := by decide +kernel
theorem dX12_init_687 : decode cX12_init 687 = .ok (.bipush 100, 2) := by decide +kernel
theorem dX12_init_689 : decode cX12_init 689 = .ok (.bipush 116, 2) := by decide +kernel
theorem dX12_init_691 : decode cX12_init 691 = .ok (.iastore, 1) := by decide +kernel
theorem dX12_init_692 : decode cX12_init 692 = .ok (.dup, 1) := by decide +kernel
theorem dX12_init_693 : decode cX12_init 693 = .ok (.bipush 101, 2) := by decide +kernel
theorem dX12_init_695 : decode cX12_init 695 = .ok (.bipush 32, 2) := by decide +kernel
theorem dX12_init_697 : decode cX12_init 697 = .ok (.iastore, 1) := by decide +kernel
theorem dX12_init_698 : decode cX12_init 698 = .ok (.dup, 1) := by decide +kernel
theorem dX12_init_699 : decode cX12_init 699 = .ok (.bipush 102, 2) := by decide +kernel
theorem dX12_init_701 : decode cX12_init 701 = .ok (.bipush 97, 2) := by decide +kernel
theorem dX12_init_703 : decode cX12_init 703 = .ok (.iastore, 1) := by decide +kernel
theorem dX12_init_704 : decode cX12_init 704 = .ok (.dup, 1) := by decide +kernel
theorem dX12_init_705 : decode cX12_init 705 = .ok (.bipush 103, 2) := by decide +kernel
theorem dX12_init_707 : decode cX12_init 707 = .ok (.bipush 103, 2) := by decide +kernel
theorem dX12_init_709 : decode cX12_init 709 = .ok (.iastore, 1) := by decide +kernel
theorem dX12_init_710 : decode cX12_init 710 = .ok (.dup, 1) := by decide +kernel
theorem dX12_init_711 : decode cX12_init 711 = .ok (.bipush 104, 2) := by decide +kernel
theorem dX12_init_713 : decode cX12_init 713 = .ok (.bipush 97, 2) := by decide +kernel
theorem dX12_init_715 : decode cX12_init 715 = .ok (.iastore, 1) := by decide +kernel
theorem dX12_init_716 : decode cX12_init 716 = .ok (.dup, 1) := by decide +kernel
theorem dX12_init_717 : decode cX12_init 717 = .ok (.bipush 105, 2) := by decide +kernel
theorem dX12_init_719 : decode cX12_init 719 = .ok (.bipush 105, 2) := by decide +kernel
theorem dX12_init_721 : decode cX12_init 721 = .ok (.iastore, 1) := by decide +kernel
theorem dX12_init_722 : decode cX12_init 722 = .ok (.dup, 1) := by decide +kernel
theorem dX12_init_723 : decode cX12_init 723 = .ok (.bipush 106, 2) := by decide +kernel
theorem dX12_init_725 : decode cX12_init 725 = .ok (.bipush 110, 2) := by decide +kernel
theorem dX12_init_727 : decode cX12_init 727 = .ok (.iastore, 1) := by decide +kernel
theorem dX12_init_728 : decode cX12_init 728 = .ok (.dup, 1) := by decide +kernel
theorem dX12_init_729 : decode cX12_init 729 = .ok (.bipush 107, 2) := by decide +kernel
theorem dX12_init_731 : decode cX12_init 731 = .ok (.bipush 32, 2) := by decide +kernel
theorem dX12_init_733 : decode cX12_init 733 = .ok (.iastore, 1) := by decide +kernel
theorem dX12_init_734 : decode cX12_init 734 = .ok (.dup, 1) := by decide +kernel
theorem dX12_init_735 : decode cX12_init 735 = .ok (.bipush 108, 2) := by decide +kernel
theorem dX12_init_737 : decode cX12_init 737 = .ok (.bipush 109, 2) := by decide +kernel
theorem dX12_init_739 : decode cX12_init 739 = .ok (.iastore, 1) := by decide +kernel
theorem dX12_init_740 : decode cX12_init 740 = .ok (.dup, 1) := by decide +kernel
theorem dX12_init_741 : decode cX12_init 741 = .ok (.bipush 109, 2) := by decide +kernel
theorem dX12_init_743 : decode cX12_init 743 = .ok (.bipush 105, 2) := by decide +kernel
theorem dX12_init_745 : decode cX12_init 745 = .ok (.iastore, 1) := by decide +kernel
theorem dX12_init_746 : decode cX12_init 746 = .ok (.dup, 1) := by decide +kernel
theorem dX12_init_747 : decode cX12_init 747 = .ok (.bipush 110, 2) := by decide +kernel
theorem dX12_init_749 : decode cX12_init 749 = .ok (.bipush 115, 2) := by decide +kernel
theorem dX12_init_751 : decode cX12_init 751 = .ok (.iastore, 1) := by decide +kernel
theorem dX12_init_752 : decode cX12_init 752 = .ok (.dup, 1) := by decide +kernel
theorem dX12_init_753 : decode cX12_init 753 = .ok (.bipush 111, 2) := by decide +kernel
theorem dX12_init_755 : decode cX12_init 755 = .ok (.bipush 104, 2) := by decide +kernel
theorem dX12_init_757 : decode cX12_init 757 = .ok (.iastore, 1) := by decide +kernel
theorem dX12_init_758 : decode cX12_init 758 = .ok (.dup, 1) := by decide +kernel
theorem dX12_init_759 : decode cX12_init 759 = .ok (.bipush 112, 2) := by decide +kernel
theorem dX12_init_761 : decode cX12_init 761 = .ok (.bipush 97, 2) := by decide +kernel
theorem dX12_init_763 : decode cX12_init 763 = .ok (.iastore, 1) := by decide +kernel
theorem dX12_init_764 : decode cX12_init 764 = .ok (.dup, 1) := by decide +kernel
theorem dX12_init_765 : decode cX12_init 765 = .ok (.bipush 113, 2) := by decide +kernel
theorem dX12_init_767 : decode cX12_init 767 = .ok (.bipush 112, 2) := by decide +kernel
theorem dX12_init_769 : decode cX12_init 769 = .ok (.iastore, 1) := by decide +kernel
theorem dX12_init_770 : decode cX12_init 770 = .ok (.dup, 1) := by decide +kernel
theorem dX12_init_771 : decode cX12_init 771 = .ok (.bipush 114, 2) := by decide +kernel
theorem dX12_init_773 : decode cX12_init 773 = .ok (.bipush 32, 2) := by decide +kernel
theorem dX12_init_775 : decode cX12_init 775 = .ok (.iastore, 1) := by decide +kernel
theorem dX12_init_776 : decode cX12_init 776 = .ok (.dup, 1) := by decide +kernel
theorem dX12_init_777 : decode cX12_init 777 = .ok (.bipush 115, 2) := by decide +kernel
theorem dX12_init_779 : decode cX12_init 779 = .ok (.bipush 97, 2) := by decide +kernel
theorem dX12_init_781 : decode cX12_init 781 = .ok (.iastore, 1) := by decide +kernel
theorem dX12_init_782 : decode cX12_init 782 = .ok (.dup, 1) := by decide +kernel
theorem dX12_init_783 : decode cX12_init 783 = .ok (.bipush 116, 2) := by decide +kernel
theorem dX12_init_785 : decode cX12_init 785 = .ok (.bipush 116, 2) := by decide +kernel
theorem dX12_init_787 : decode cX12_init 787 = .ok (.iastore, 1) := by decide +kernel
theorem dX12_init_788 : decode cX12_init 788 = .ok (.dup, 1) := by decide +kernel
theorem dX12_init_789 : decode cX12_init 789 = .ok (.bipush 117, 2) := by decide +kernel
theorem dX12_init_791 : decode cX12_init 791 = .ok (.bipush 32, 2) := by decide +kernel
theorem dX12_init_793 : decode cX12_init 793 = .ok (.iastore, 1) := by decide +kernel
theorem dX12_init_794 : decode cX12_init 794 = .ok (.dup, 1) := by decide +kernel
theorem dX12_init_795 : decode cX12_init 795 = .ok (.bipush 118, 2) := by decide +kernel
theorem dX12_init_797 : decode cX12_init 797 = .ok (.bipush 102, 2) := by decide +kernel
theorem dX12_init_799 : decode cX12_init 799 = .ok (.iastore, 1) := by decide +kernel
theorem dX12_init_800 : decode cX12_init 800 = .ok (.dup, 1) := by decide +kernel
theorem dX12_init_801 : decode cX12_init 801 = .ok (.bipush 119, 2) := by decide +kernel
theorem dX12_init_803 : decode cX12_init 803 = .ok (.bipush 114, 2) := by decide +kernel
theorem dX12_init_805 : decode cX12_init 805 = .ok (.iastore, 1) := by decide +kernel
theorem dX12_init_806 : decode cX12_init 806 = .ok (.dup, 1) := by decide +kernel
theorem dX12_init_807 : decode cX12_init 807 = .ok (.bipush 120, 2) := by decide +kernel
theorem dX12_init_809 : decode cX12_init 809 = .ok (.bipush 111, 2) := by decide +kernel
theorem dX12_init_811 : decode cX12_init 811 = .ok (.iastore, 1) := by decide +kernel
theorem dX12_init_812 : decode cX12_init 812 = .ok (.dup, 1) := by decide +kernel
theorem dX12_init_813 : decode cX12_init 813 = .ok (.bipush 121, 2) := by decide +kernel
theorem dX12_init_815 : decode cX12_init 815 = .ok (.bipush 109, 2) := by decide +kernel
theorem dX12_init_817 : decode cX12_init 817 = .ok (.iastore, 1) := by decide +kernel
theorem dX12_init_818 : decode cX12_init 818 = .ok (.dup, 1) := by decide +kernel
theorem dX12_init_819 : decode cX12_init 819 = .ok (.bipush 122, 2) := by decide +kernel
theorem dX12_init_821 : decode cX12_init 821 = .ok (.bipush 32, 2) := by decide +kernel
theorem dX12_init_823 : decode cX12_init 823 = .ok (.iastore, 1) := by decide +kernel
theorem dX12_init_824 : decode cX12_init 824 = .ok (.dup, 1) := by decide +kernel
theorem dX12_init_825 : decode cX12_init 825 = .ok (.bipush 123, 2) := by decide +kernel
theorem dX12_init_827 : decode cX12_init 827 = .ok (.bipush 116, 2) := by decide +kernel
theorem dX12_init_829 : decode cX12_init 829 = .ok (.iastore, 1) := by decide +kernel
theorem dX12_init_830 : decode cX12_init 830 = .ok (.dup, 1) := by decide +kernel
theorem dX12_init_831 : decode cX12_init 831 = .ok (.bipush 124, 2) := by decide +kernel
theorem dX12_init_833 : decode cX12_init 833 = .ok (.bipush 111, 2) := by decide +kernel
theorem dX12_init_835 : decode cX12_init 835 = .ok (.iastore, 1) := by decide +kernel
theorem dX12_init_836 : decode cX12_init 836 = .ok (.dup, 1) := by decide +kernel
theorem dX12_init_837 : decode cX12_init 837 = .ok (.bipush 125, 2) := by decide +kernel
theorem dX12_init_839 : decode cX12_init 839 = .ok (.bipush 32, 2) := by decide +kernel
theorem dX12_init_841 : decode cX12_init 841 = .ok (.iastore, 1) := by decide +kernel
theorem dX12_init_842 : decode cX12_init 842 = .ok (.dup, 1) := by decide +kernel
theorem dX12_init_843 : decode cX12_init 843 = .ok (.bipush 126, 2) := by decide +kernel
theorem dX12_init_845 : decode cX12_init 845 = .ok (.bipush 119, 2) := by decide +kernel
theorem dX12_init_847 : decode cX12_init 847 = .ok (.iastore, 1) := by decide +kernel
theorem dX12_init_848 : decode cX12_init 848 = .ok (.dup, 1) := by decide +kernel
theorem dX12_init_849 : decode cX12_init 849 = .ok (.bipush 127, 2) := by decide +kernel
theorem dX12_init_851 : decode cX12_init 851 = .ok (.bipush 97, 2) := by decide +kernel
theorem dX12_init_853 : decode cX12_init 853 = .ok (.iastore, 1) := by decide +kernel
theorem dX12_init_854 : decode cX12_init 854 = .ok (.dup, 1) := by decide +kernel
theorem dX12_init_855 : decode cX12_init 855 = .ok (.sipush 128, 3) := by decide +kernel
theorem dX12_init_858 : decode cX12_init 858 = .ok (.bipush 114, 2) := by decide +kernel
theorem dX12_init_860 : decode cX12_init 860 = .ok (.iastore, 1) := by decide +kernel
theorem dX12_init_861 : decode cX12_init 861 = .ok (.dup, 1) := by decide +kernel
theorem dX12_init_862 : decode cX12_init 862 = .ok (.sipush 129, 3) := by decide +kernel
theorem dX12_init_865 : decode cX12_init 865 = .ok (.bipush 100, 2) := by decide +kernel
theorem dX12_init_867 : decode cX12_init 867 = .ok (.iastore, 1) := by decide +kernel
theorem dX12_init_868 : decode cX12_init 868 = .ok (.dup, 1) := by decide +kernel
theorem dX12_init_869 : decode cX12_init 869 = .ok (.sipush 130, 3) := by decide +kernel
theorem dX12_init_872 : decode cX12_init 872 = .ok (.bipush 32, 2) := by decide +kernel
theorem dX12_init_874 : decode cX12_init 874 = .ok (.iastore, 1) := by decide +kernel
theorem dX12_init_875 : decode cX12_init 875 = .ok (.dup, 1) := by decide +kernel
theorem dX12_init_876 : decode cX12_init 876 = .ok (.sipush 131, 3) := by decide +kernel
theorem dX12_init_879 : decode cX12_init 879 = .ok (.bipush 117, 2) := by decide +kernel
theorem dX12_init_881 : decode cX12_init 881 = .ok (.iastore, 1) := by decide +kernel
theorem dX12_init_882 : decode cX12_init 882 = .ok (.dup, 1) := by decide +kernel
theorem dX12_init_883 : decode cX12_init 883 = .ok (.sipush 132, 3) := by decide +kernel
theorem dX12_init_886 : decode cX12_init 886 = .ok (.bipush 110, 2) := by decide +kernel
theorem dX12_init_888 : decode cX12_init 888 = .ok (.iastore, 1) := by decide +kernel
theorem dX12_init_889 : decode cX12_init 889 = .ok (.dup, 1) := by decide +kernel
theorem dX12_init_890 : decode cX12_init 890 = .ok (.sipush 133, 3) := by decide +kernel
theorem dX12_init_893 : decode cX12_init 893 = .ok (.bipush 108, 2) := by decide +kernel
theorem dX12_init_895 : decode cX12_init 895 = .ok (.iastore, 1) := by decide +kernel
theorem dX12_init_896 : decode cX12_init 896 = .ok (.dup, 1) := by decide +kernel
theorem dX12_init_897 : decode cX12_init 897 = .ok (.sipush 134, 3) := by decide +kernel
theorem dX12_init_900 : decode cX12_init 900 = .ok (.bipush 101, 2) := by decide +kernel
theorem dX12_init_902 : decode cX12_init 902 = .ok (.iastore, 1) := by decide +kernel
theorem dX12_init_903 : decode cX12_init 903 = .ok (.dup, 1) := by decide +kernel
theorem dX12_init_904 : decode cX12_init 904 = .ok (.sipush 135, 3) := by decide +kernel
theorem dX12_init_907 : decode cX12_init 907 = .ok (.bipush 115, 2) := by decide +kernel
theorem dX12_init_909 : decode cX12_init 909 = .ok (.iastore, 1) := by decide +kernel
theorem dX12_init_910 : decode cX12_init 910 = .ok (.dup, 1) := by decide +kernel
theorem dX12_init_911 : decode cX12_init 911 = .ok (.sipush 136, 3) := by decide +kernel
theorem dX12_init_914 : decode cX12_init 914 = .ok (.bipush 115, 2) := by decide +kernel
theorem dX12_init_916 : decode cX12_init 916 = .ok (.iastore, 1) := by decide +kernel
theorem dX12_init_917 : decode cX12_init 917 = .ok (.dup, 1) := by decide +kernel
theorem dX12_init_918 : decode cX12_init 918 = .ok (.sipush 137, 3) := by decide +kernel
theorem dX12_init_921 : decode cX12_init 921 = .ok (.bipush 32, 2) := by decide +kernel
theorem dX12_init_923 : decode cX12_init 923 = .ok (.iastore, 1) := by decide +kernel
theorem dX12_init_924 : decode cX12_init 924 = .ok (.dup, 1) := by decide +kernel
theorem dX12_init_925 : decode cX12_init 925 = .ok (.sipush 138, 3) := by decide +kernel
theorem dX12_init_928 : decode cX12_init 928 = .ok (.bipush 99, 2) := by decide +kernel
theorem dX12_init_930 : decode cX12_init 930 = .ok (.iastore, 1) := by decide +kernel
theorem dX12_init_931 : decode cX12_init 931 = .ok (.dup, 1) := by decide +kernel
theorem dX12_init_932 : decode cX12_init 932 = .ok (.sipush 139, 3) := by decide +kernel
theorem dX12_init_935 : decode cX12_init 935 = .ok (.bipush 104, 2) := by decide +kernel
theorem dX12_init_937 : decode cX12_init 937 = .ok (.iastore, 1) := by decide +kernel
theorem dX12_init_938 : decode cX12_init 938 = .ok (.dup, 1) := by decide +kernel
theorem dX12_init_939 : decode cX12_init 939 = .ok (.sipush 140, 3) := by decide +kernel
theorem dX12_init_942 : decode cX12_init 942 = .ok (.bipush 97, 2) := by decide +kernel
theorem dX12_init_944 : decode cX12_init 944 = .ok (.iastore, 1) := by decide +kernel
theorem dX12_init_945 : decode cX12_init 945 = .ok (.dup, 1) := by decide +kernel
theorem dX12_init_946 : decode cX12_init 946 = .ok (.sipush 141, 3) := by decide +kernel
theorem dX12_init_949 : decode cX12_init 949 = .ok (.bipush 110, 2) := by decide +kernel
theorem dX12_init_951 : decode cX12_init 951 = .ok (.iastore, 1) := by decide +kernel
theorem dX12_init_952 : decode cX12_init 952 = .ok (.dup, 1) := by decide +kernel
theorem dX12_init_953 : decode cX12_init 953 = .ok (.sipush 142, 3) := by decide +kernel
theorem dX12_init_956 : decode cX12_init 956 = .ok (.bipush 99, 2) := by decide +kernel
theorem dX12_init_958 : decode cX12_init 958 = .ok (.iastore, 1) := by decide +kernel
theorem dX12_init_959 : decode cX12_init 959 = .ok (.dup, 1) := by decide +kernel
theorem dX12_init_960 : decode cX12_init 960 = .ok (.sipush 143, 3) := by decide +kernel
theorem dX12_init_963 : decode cX12_init 963 = .ok (.bipush 101, 2) := by decide +kernel
theorem dX12_init_965 : decode cX12_init 965 = .ok (.iastore, 1) := by decide +kernel
theorem dX12_init_966 : decode cX12_init 966 = .ok (.dup, 1) := by decide +kernel
theorem dX12_init_967 : decode cX12_init 967 = .ok (.sipush 144, 3) := by decide +kernel
theorem dX12_init_970 : decode cX12_init 970 = .ok (.bipush 32, 2) := by decide +kernel
theorem dX12_init_972 : decode cX12_init 972 = .ok (.iastore, 1) := by decide +kernel
theorem dX12_init_973 : decode cX12_init 973 = .ok (.dup, 1) := by decide +kernel
theorem dX12_init_974 : decode cX12_init 974 = .ok (.sipush 145, 3) := by decide +kernel
theorem dX12_init_977 : decode cX12_init 977 = .ok (.bipush 112, 2) := by decide +kernel
theorem dX12_init_979 : decode cX12_init 979 = .ok (.iastore, 1) := by decide +kernel
theorem dX12_init_980 : decode cX12_init 980 = .ok (.dup, 1) := by decide +kernel
theorem dX12_init_981 : decode cX12_init 981 = .ok (.sipush 146, 3) := by decide +kernel
theorem dX12_init_984 : decode cX12_init 984 = .ok (.bipush 117, 2) := by decide +kernel
theorem dX12_init_986 : decode cX12_init 986 = .ok (.iastore, 1) := by decide +kernel
theorem dX12_init_987 : decode cX12_init 987 = .ok (.dup, 1) := by decide +kernel
theorem dX12_init_988 : decode cX12_init 988 = .ok (.sipush 147, 3) := by decide +kernel
theorem dX12_init_991 : decode cX12_init 991 = .ok (.bipush 115, 2) := by decide +kernel
theorem dX12_init_993 : decode cX12_init 993 = .ok (.iastore, 1) := by decide +kernel
theorem dX12_init_994 : decode cX12_init 994 = .ok (.dup, 1) := by decide +kernel
theorem dX12_init_995 : decode cX12_init 995 = .ok (.sipush 148, 3) := by decide +kernel
theorem dX12_init_998 : decode cX12_init 998 = .ok (.bipush 104, 2) := by decide +kernel
theorem dX12_init_1000 : decode cX12_init 1000 = .ok (.iastore, 1) := by decide +kernel
theorem dX12_init_1001 : decode cX12_init 1001 = .ok (.dup, 1) := by decide +kernel
theorem dX12_init_1002 : decode cX12_init 1002 = .ok (.sipush 149, 3) := by decide +kernel
theorem dX12_init_1005 : decode cX12_init 1005 = .ok (.bipush 32, 2) := by decide +kernel
theorem dX12_init_1007 : decode cX12_init 1007 = .ok (.iastore, 1) := by decide +kernel
theorem dX12_init_1008 : decode cX12_init 1008 = .ok (.dup, 1) := by decide +kernel
theorem dX12_init_1009 : decode cX12_init 1009 = .ok (.sipush 150, 3) := by decide +kernel
theorem dX12_init_1012 : decode cX12_init 1012 = .ok (.bipush 103, 2) := by decide +kernel
theorem dX12_init_1014 : decode cX12_init 1014 = .ok (.iastore, 1) := by decide +kernel
theorem dX12_init_1015 : decode cX12_init 1015 = .ok (.dup, 1) := by decide +kernel
theorem dX12_init_1016 : decode cX12_init 1016 = .ok (.sipush 151, 3) := by decide +kernel
theorem dX12_init_1019 : decode cX12_init 1019 = .ok (.bipush 117, 2) := by decide +kernel
theorem dX12_init_1021 : decode cX12_init 1021 = .ok (.iastore, 1) := by decide +kernel
theorem dX12_init_1022 : decode cX12_init 1022 = .ok (.dup, 1) := by decide +kernel
theorem dX12_init_1023 : decode cX12_init 1023 = .ok (.sipush 152, 3) := by decide +kernel
theorem dX12_init_1026 : decode cX12_init 1026 = .ok (.bipush 115, 2) := by decide +kernel
theorem dX12_init_1028 : decode cX12_init 1028 = .ok (.iastore, 1) := by decide +kernel
theorem dX12_init_1029 : decode cX12_init 1029 = .ok (.dup, 1) := by decide +kernel
theorem dX12_init_1030 : decode cX12_init 1030 = .ok (.sipush 153, 3) := by decide +kernel
theorem dX12_init_1033 : decode cX12_init 1033 = .ok (.bipush 116, 2) := by decide +kernel
theorem dX12_init_1035 : decode cX12_init 1035 = .ok (.iastore, 1) := by decide +kernel
theorem dX12_init_1036 : decode cX12_init 1036 = .ok (.dup, 1) := by decide +kernel
theorem dX12_init_1037 : decode cX12_init 1037 = .ok (.sipush 154, 3) := by decide +kernel
theorem dX12_init_1040 : decode cX12_init 1040 = .ok (.bipush 32, 2) := by decide +kernel
theorem dX12_init_1042 : decode cX12_init 1042 = .ok (.iastore, 1) := by decide +kernel
theorem dX12_init_1043 : decode cX12_init 1043 = .ok (.dup, 1) := by decide +kernel
theorem dX12_init_1044 : decode cX12_init 1044 = .ok (.sipush 155, 3) := by decide +kernel
theorem dX12_init_1047 : decode cX12_init 1047 = .ok (.bipush 103, 2) := by decide +kernel
theorem dX12_init_1049 : decode cX12_init 1049 = .ok (.iastore, 1) := by decide +kernel
theorem dX12_init_1050 : decode cX12_init 1050 = .ok (.dup, 1) := by decide +kernel
theorem dX12_init_1051 : decode cX12_init 1051 = .ok (.sipush 156, 3) := by decide +kernel
theorem dX12_init_1054 : decode cX12_init 1054 = .ok (.bipush 108, 2) := by decide +kernel
theorem dX12_init_1056 : decode cX12_init 1056 = .ok (.iastore, 1) := by decide +kernel
theorem dX12_init_1057 : decode cX12_init 1057 = .ok (.dup, 1) := by decide +kernel
theorem dX12_init_1058 : decode cX12_init 1058 = .ok (.sipush 157, 3) := by decide +kernel
theorem dX12_init_1061 : decode cX12_init 1061 = .ok (.bipush 111, 2) := by decide +kernel
theorem dX12_init_1063 : decode cX12_init 1063 = .ok (.iastore, 1) := by decide +kernel
theorem dX12_init_1064 : decode cX12_init 1064 = .ok (.dup, 1) := by decide +kernel
theorem dX12_init_1065 : decode cX12_init 1065 = .ok (.sipush 158, 3) := by decide +kernel
theorem dX12_init_1068 : decode cX12_init 1068 = .ok (.bipush 118, 2) := by decide +kernel
theorem dX12_init_1070 : decode cX12_init 1070 = .ok (.iastore, 1) := by decide +kernel
theorem dX12_init_1071 : decode cX12_init 1071 = .ok (.dup, 1) := by decide +kernel
theorem dX12_init_1072 : decode cX12_init 1072 = .ok (.sipush 159, 3) := by decide +kernel
theorem dX12_init_1075 : decode cX12_init 1075 = .ok (.bipush 101, 2) := by decide +kernel
theorem dX12_init_1077 : decode cX12_init 1077 = .ok (.iastore, 1) := by decide +kernel
theorem dX12_init_1078 : decode cX12_init 1078 = .ok (.dup, 1) := by decide +kernel
theorem dX12_init_1079 : decode cX12_init 1079 = .ok (.sipush 160, 3) := by decide +kernel
theorem dX12_init_1082 : decode cX12_init 1082 = .ok (.bipush 32, 2) := by decide +kernel
theorem dX12_init_1084 : decode cX12_init 1084 = .ok (.iastore, 1) := by decide +kernel
theorem dX12_init_1085 : decode cX12_init 1085 = .ok (.dup, 1) := by decide +kernel
theorem dX12_init_1086 : decode cX12_init 1086 = .ok (.sipush 161, 3) := by decide +kernel
theorem dX12_init_1089 : decode cX12_init 1089 = .ok (.bipush 100, 2) := by decide +kernel
theorem dX12_init_1091 : decode cX12_init 1091 = .ok (.iastore, 1) := by decide +kernel
theorem dX12_init_1092 : decode cX12_init 1092 = .ok (.dup, 1) := by decide +kernel
theorem dX12_init_1093 : decode cX12_init 1093 = .ok (.sipush 162, 3) := by decide +kernel
theorem dX12_init_1096 : decode cX12_init 1096 = .ok (.bipush 111, 2) := by decide +kernel
theorem dX12_init_1098 : decode cX12_init 1098 = .ok (.iastore, 1) := by decide +kernel
theorem dX12_init_1099 : decode cX12_init 1099 = .ok (.dup, 1) := by decide +kernel
theorem dX12_init_1100 : decode cX12_init 1100 = .ok (.sipush 163, 3) := by decide +kernel
theorem dX12_init_1103 : decode cX12_init 1103 = .ok (.bipush 111, 2) := by decide +kernel
theorem dX12_init_1105 : decode cX12_init 1105 = .ok (.iastore, 1) := by decide +kernel
theorem dX12_init_1106 : decode cX12_init 1106 = .ok (.dup, 1) := by decide +kernel
theorem dX12_init_1107 : decode cX12_init 1107 = .ok (.sipush 164, 3) := by decide +kernel
theorem dX12_init_1110 : decode cX12_init 1110 = .ok (.bipush 114, 2) := by decide +kernel
theorem dX12_init_1112 : decode cX12_init 1112 = .ok (.iastore, 1) := by decide +kernel
theorem dX12_init_1113 : decode cX12_init 1113 = .ok (.dup, 1) := by decide +kernel
theorem dX12_init_1114 : decode cX12_init 1114 = .ok (.sipush 165, 3) := by decide +kernel
theorem dX12_init_1117 : decode cX12_init 1117 = .ok (.bipush 32, 2) := by decide +kernel
theorem dX12_init_1119 : decode cX12_init 1119 = .ok (.iastore, 1) := by decide +kernel
theorem dX12_init_1120 : decode cX12_init 1120 = .ok (.dup, 1) := by decide +kernel
theorem dX12_init_1121 : decode cX12_init 1121 = .ok (.sipush 166, 3) := by decide +kernel
theorem dX12_init_1124 : decode cX12_init 1124 = .ok (.bipush 99, 2) := by decide +kernel
theorem dX12_init_1126 : decode cX12_init 1126 = .ok (.iastore, 1) := by decide +kernel
theorem dX12_init_1127 : decode cX12_init 1127 = .ok (.dup, 1) := by decide +kernel
theorem dX12_init_1128 : decode cX12_init 1128 = .ok (.sipush 167, 3) := by decide +kernel
theorem dX12_init_1131 : decode cX12_init 1131 = .ok (.bipush 97, 2) := by decide +kernel
theorem dX12_init_1133 : decode cX12_init 1133 = .ok (.iastore, 1) := by decide +kernel
theorem dX12_init_1134 : decode cX12_init 1134 = .ok (.dup, 1) := by decide +kernel
theorem dX12_init_1135 : decode cX12_init 1135 = .ok (.sipush 168, 3) := by decide +kernel
theorem dX12_init_1138 : decode cX12_init 1138 = .ok (.bipush 116, 2) := by decide +kernel
theorem dX12_init_1140 : decode cX12_init 1140 = .ok (.iastore, 1) := by decide +kernel
theorem dX12_init_1141 : decode cX12_init 1141 = .ok (.dup, 1) := by decide +kernel
theorem dX12_init_1142 : decode cX12_init 1142 = .ok (.sipush 169, 3) := by decide +kernel
theorem dX12_init_1145 : decode cX12_init 1145 = .ok (.bipush 32, 2) := by decide +kernel
theorem dX12_init_1147 : decode cX12_init 1147 = .ok (.iastore, 1) := by decide +kernel
theorem dX12_init_1148 : decode cX12_init 1148 = .ok (.dup, 1) := by decide +kernel
theorem dX12_init_1149 : decode cX12_init 1149 = .ok (.sipush 170, 3) := by decide +kernel
theorem dX12_init_1152 : decode cX12_init 1152 = .ok (.bipush 103, 2) := by decide +kernel
theorem dX12_init_1154 : decode cX12_init 1154 = .ok (.iastore, 1) := by decide +kernel
theorem dX12_init_1155 : decode cX12_init 1155 = .ok (.dup, 1) := by decide +kernel
theorem dX12_init_1156 : decode cX12_init 1156 = .ok (.sipush 171, 3) := by decide +kernel
theorem dX12_init_1159 : decode cX12_init 1159 = .ok (.bipush 111, 2) := by decide +kernel
theorem dX12_init_1161 : decode cX12_init 1161 = .ok (.iastore, 1) := by decide +kernel
theorem dX12_init_1162 : decode cX12_init 1162 = .ok (.dup, 1) := by decide +kernel
theorem dX12_init_1163 : decode cX12_init 1163 = .ok (.sipush 172, 3) := by decide +kernel
theorem dX12_init_1166 : decode cX12_init 1166 = .ok (.bipush 32, 2) := by decide +kernel
theorem dX12_init_1168 : decode cX12_init 1168 = .ok (.iastore, 1) := by decide +kernel
theorem dX12_init_1169 : decode cX12_init 1169 = .ok (.dup, 1) := by decide +kernel
theorem dX12_init_1170 : decode cX12_init 1170 = .ok (.sipush 173, 3) := by decide +kernel
theorem dX12_init_1173 : decode cX12_init 1173 = .ok (.bipush 119, 2) := by decide +kernel
theorem dX12_init_1175 : decode cX12_init 1175 = .ok (.iastore, 1) := by decide +kernel
theorem dX12_init_1176 : decode cX12_init 1176 = .ok (.dup, 1) := by decide +kernel
theorem dX12_init_1177 : decode cX12_init 1177 = .ok (.sipush 174, 3) := by decide +kernel
theorem dX12_init_1180 : decode cX12_init 1180 = .ok (.bipush 97, 2) := by decide +kernel
theorem dX12_init_1182 : decode cX12_init 1182 = .ok (.iastore, 1) := by decide +kernel
theorem dX12_init_1183 : decode cX12_init 1183 = .ok (.dup, 1) := by decide +kernel
theorem dX12_init_1184 : decode cX12_init 1184 = .ok (.sipush 175, 3) := by decide +kernel
theorem dX12_init_1187 : decode cX12_init 1187 = .ok (.bipush 105, 2) := by decide +kernel
theorem dX12_init_1189 : decode cX12_init 1189 = .ok (.iastore, 1) := by decide +kernel
theorem dX12_init_1190 : decode cX12_init 1190 = .ok (.dup, 1) := by decide +kernel
theorem dX12_init_1191 : decode cX12_init 1191 = .ok (.sipush 176, 3) := by decide +kernel
theorem dX12_init_1194 : decode cX12_init 1194 = .ok (.bipush 116, 2) := by decide +kernel
theorem dX12_init_1196 : decode cX12_init 1196 = .ok (.iastore, 1) := by decide +kernel
theorem dX12_init_1197 : decode cX12_init 1197 = .ok (.dup, 1) := by decide +kernel
theorem dX12_init_1198 : decode cX12_init 1198 = .ok (.sipush 177, 3) := by decide +kernel
theorem dX12_init_1201 : decode cX12_init 1201 = .ok (.bipush 32, 2) := by decide +kernel
theorem dX12_init_1203 : decode cX12_init 1203 = .ok (.iastore, 1) := by decide +kernel
theorem dX12_init_1204 : decode cX12_init 1204 = .ok (.putfield 40, 3) := by decide +kernel
theorem dX12_init_1207 : decode cX12_init 1207 = .ok (.aload_n 0, 1) := by decide +kernel
theorem dX12_init_1208 : decode cX12_init 1208 = .ok (.bipush 32, 2) := by decide +kernel
theorem dX12_init_1210 : decode cX12_init 1210 = .ok (.newarray .int, 2) := by decide +kernel
theorem dX12_init_1212 : decode cX12_init 1212 = .ok (.putfield 43, 3) := by decide +kernel
theorem dX12_init_1215 : decode cX12_init 1215 = .ok (.aload_n 0, 1) := by decide +kernel
theorem dX12_init_1216 : decode cX12_init 1216 = .ok (.bipush 32, 2) := by decide +kernel
theorem dX12_init_1218 : decode cX12_init 1218 = .ok (.newarray .int, 2) := by decide +kernel
theorem dX12_init_1220 : decode cX12_init 1220 = .ok (.putfield 46, 3) := by decide +kernel
theorem dX12_init_1223 : decode cX12_init 1223 = .ok (.aload_n 0, 1) := by decide +kernel
theorem dX12_init_1224 : decode cX12_init 1224 = .ok (.bipush 32, 2) := by decide +kernel
theorem dX12_init_1226 : decode cX12_init 1226 = .ok (.newarray .int, 2) := by decide +kernel
theorem dX12_init_1228 : decode cX12_init 1228 = .ok (.putfield 49, 3) := by decide +kernel
theorem dX12_init_1231 : decode cX12_init 1231 = .ok (.aload_n 0, 1) := by decide +kernel
theorem dX12_init_1232 : decode cX12_init 1232 = .ok (.sipush 800, 3) := by decide +kernel
theorem dX12_init_1235 : decode cX12_init 1235 = .ok (.newarray .int, 2) := by decide +kernel
theorem dX12_init_1237 : decode cX12_init 1237 = .ok (.putfield 52, 3) := by decide +kernel
theorem dX12_init_1240 : decode cX12_init 1240 = .ok (.aload_n 0, 1) := by decide +kernel
theorem dX12_init_1241 : decode cX12_init 1241 = .ok (.sipush 800, 3) := by decide +kernel
theorem dX12_init_1244 : decode cX12_init 1244 = .ok (.newarray .int, 2) := by decide +kernel
theorem dX12_init_1246 : decode cX12_init 1246 = .ok (.putfield 55, 3) := by decide +kernel
theorem dX12_init_1249 : decode cX12_init 1249 = .ok (.aload_n 0, 1) := by decide +kernel
theorem dX12_init_1250 : decode cX12_init 1250 = .ok (.bipush 40, 2) := by decide +kernel
theorem dX12_init_1252 : decode cX12_init 1252 = .ok (.newarray .int, 2) := by decide +kernel
theorem dX12_init_1254 : decode cX12_init 1254 = .ok (.putfield 58, 3) := by decide +kernel
theorem dX12_init_1257 : decode cX12_init 1257 = .ok (.aload_n 0, 1) := by decide +kernel
theorem dX12_init_1258 : decode cX12_init 1258 = .ok (.iconst (-1), 1) := by decide +kernel
theorem dX12_init_1259 : decode cX12_init 1259 = .ok (.putfield 61, 3) := by decide +kernel
theorem dX12_init_1262 : decode cX12_init 1262 = .ok (.aload_n 0, 1) := by decide +kernel
theorem dX12_init_1263 : decode cX12_init 1263 = .ok (.bipush 100, 2) := by decide +kernel
theorem dX12_init_1265 : decode cX12_init 1265 = .ok (.newarray .int, 2) := by decide +kernel
theorem dX12_init_1267 : decode cX12_init 1267 = .ok (.putfield 65, 3) := by decide +kernel
theorem dX12_init_1270 : decode cX12_init 1270 = .ok (.aload_n 0, 1) := by decide +kernel
theorem dX12_init_1271 : decode cX12_init 1271 = .ok (.bipush 100, 2) := by decide +kernel
theorem dX12_init_1273 : decode cX12_init 1273 = .ok (.newarray .int, 2) := by decide +kernel
theorem dX12_init_1275 : decode cX12_init 1275 = .ok (.putfield 68, 3) := by decide +kernel
theorem dX12_init_1278 : decode cX12_init 1278 = .ok (.aload_n 0, 1) := by decide +kernel
theorem dX12_init_1279 : decode cX12_init 1279 = .ok (.sipush 5400, 3) := by decide +kernel
theorem dX12_init_1282 : decode cX12_init 1282 = .ok (.newarray .int, 2) := by decide +kernel
theorem dX12_init_1284 : decode cX12_init 1284 = .ok (.putfield 71, 3) := by decide +kernel
theorem dX12_init_1287 : decode cX12_init 1287 = .ok (.aload_n 0, 1) := by decide +kernel
theorem dX12_init_1288 : decode cX12_init 1288 = .ok (.bipush 8, 2) := by decide +kernel
theorem dX12_init_1290 : decode cX12_init 1290 = .ok (.newarray .int, 2) := by decide +kernel
theorem dX12_init_1292 : decode cX12_init 1292 = .ok (.putfield 74, 3) := by decide +kernel
theorem dX12_init_1295 : decode cX12_init 1295 = .ok (.aload_n 0, 1) := by decide +kernel
theorem dX12_init_1296 : decode cX12_init 1296 = .ok (.iconst 4, 1) := by decide +kernel
theorem dX12_init_1297 : decode cX12_init 1297 = .ok (.newarray .int, 2) := by decide +kernel
theorem dX12_init_1299 : decode cX12_init 1299 = .ok (.putfield 77, 3) := by decide +kernel
theorem dX12_init_1302 : decode cX12_init 1302 = .ok (.aload_n 0, 1) := by decide +kernel
theorem dX12_init_1303 : decode cX12_init 1303 = .ok (.iconst 4, 1) := by decide +kernel
theorem dX12_init_1304 : decode cX12_init 1304 = .ok (.newarray .int, 2) := by decide +kernel
theorem dX12_init_1306 : decode cX12_init 1306 = .ok (.putfield 80, 3) := by decide +kernel
theorem dX12_init_1309 : decode cX12_init 1309 = .ok (.aload_n 0, 1) := by decide +kernel
theorem dX12_init_1310 : decode cX12_init 1310 = .ok (.sipush 140, 3) := by decide +kernel
theorem dX12_init_1313 : decode cX12_init 1313 = .ok (.newarray .int, 2) := by decide +kernel
theorem dX12_init_1315 : decode cX12_init 1315 = .ok (.putfield 83, 3) := by decide +kernel
theorem dX12_init_1318 : decode cX12_init 1318 = .ok (.aload_n 0, 1) := by decide +kernel
theorem dX12_init_1319 : decode cX12_init 1319 = .ok (.sipush 280, 3) := by decide +kernel
theorem dX12_init_1322 : decode cX12_init 1322 = .ok (.newarray .int, 2) := by decide +kernel
theorem dX12_init_1324 : decode cX12_init 1324 = .ok (.putfield 86, 3) := by decide +kernel
theorem dX12_init_1327 : decode cX12_init 1327 = .ok (.aload_n 0, 1) := by decide +kernel
theorem dX12_init_1328 : decode cX12_init 1328 = .ok (.sipush 280, 3) := by decide +kernel
theorem dX12_init_1331 : decode cX12_init 1331 = .ok (.newarray .int, 2) := by decide +kernel
theorem dX12_init_1333 : decode cX12_init 1333 = .ok (.putfield 89, 3) := by decide +kernel
theorem dX12_init_1336 : decode cX12_init 1336 = .ok (.aload_n 0, 1) := by decide +kernel
theorem dX12_init_1337 : decode cX12_init 1337 = .ok (.bipush 6, 2) := by decide +kernel
theorem dX12_init_1339 : decode cX12_init 1339 = .ok (.newarray .int, 2) := by decide +kernel
theorem dX12_init_1341 : decode cX12_init 1341 = .ok (.putfield 92, 3) := by decide +kernel
theorem dX12_init_1344 : decode cX12_init 1344 = .ok (.aload_n 0, 1) := by decide +kernel
theorem dX12_init_1345 : decode cX12_init 1345 = .ok (.bipush 9, 2) := by decide +kernel
theorem dX12_init_1347 : decode cX12_init 1347 = .ok (.newarray .int, 2) := by decide +kernel
theorem dX12_init_1349 : decode cX12_init 1349 = .ok (.putfield 95, 3) := by decide +kernel
theorem dX12_init_1352 : decode cX12_init 1352 = .ok (.aload_n 0, 1) := by decide +kernel
theorem dX12_init_1353 : decode cX12_init 1353 = .ok (.sipush 420, 3) := by decide +kernel
theorem dX12_init_1356 : decode cX12_init 1356 = .ok (.newarray .int, 2) := by decide +kernel
theorem dX12_init_1358 : decode cX12_init 1358 = .ok (.putfield 98, 3) := by decide +kernel
theorem dX12_init_1361 : decode cX12_init 1361 = .ok (.aload_n 0, 1) := by decide +kernel
theorem dX12_init_1362 : decode cX12_init 1362 = .ok (.bipush 10, 2) := by decide +kernel
theorem dX12_init_1364 : decode cX12_init 1364 = .ok (.newarray .int, 2) := by decide +kernel
theorem dX12_init_1366 : decode cX12_init 1366 = .ok (.putfield 101, 3) := by decide +kernel
theorem dX12_init_1369 : decode cX12_init 1369 = .ok (.aload_n 0, 1) := by decide +kernel
theorem dX12_init_1370 : decode cX12_init 1370 = .ok (.sipush 6144, 3) := by decide +kernel
theorem dX12_init_1373 : decode cX12_init 1373 = .ok (.newarray .boolean, 2) := by decide +kernel
theorem dX12_init_1375 : decode cX12_init 1375 = .ok (.putfield 104, 3) := by decide +kernel
theorem dX12_init_1378 : decode cX12_init 1378 = .ok (.aload_n 0, 1) := by decide +kernel
theorem dX12_init_1379 : decode cX12_init 1379 = .ok (.sipush 10240, 3) := by decide +kernel
theorem dX12_init_1382 : decode cX12_init 1382 = .ok (.newarray .int, 2) := by decide +kernel
theorem dX12_init_1384 : decode cX12_init 1384 = .ok (.putfield 108, 3) := by decide +kernel
theorem dX12_init_1387 : decode cX12_init 1387 = .ok (.aload_n 0, 1) := by decide +kernel
theorem dX12_init_1388 : decode cX12_init 1388 = .ok (.sipush 1024, 3) := by decide +kernel
theorem dX12_init_1391 : decode cX12_init 1391 = .ok (.newarray .int, 2) := by decide +kernel
theorem dX12_init_1393 : decode cX12_init 1393 = .ok (.putfield 111, 3) := by decide +kernel
theorem dX12_init_1396 : decode cX12_init 1396 = .ok (.aload_n 0, 1) := by decide +kernel
theorem dX12_init_1397 : decode cX12_init 1397 = .ok (.ldc 114, 2) := by decide +kernel
theorem dX12_init_1399 : decode cX12_init 1399 = .ok (.newarray .int, 2) := by decide +kernel
theorem dX12_init_1401 : decode cX12_init 1401 = .ok (.putfield 115, 3) := by decide +kernel
theorem dX12_init_1404 : decode cX12_init 1404 = .ok (.aload_n 0, 1) := by decide +kernel
theorem dX12_init_1405 : decode cX12_init 1405 = .ok (.bipush 6, 2) := by decide +kernel
theorem dX12_init_1407 : decode cX12_init 1407 = .ok (.newarray .int, 2) := by decide +kernel
theorem dX12_init_1409 : decode cX12_init 1409 = .ok (.putfield 118, 3) := by decide +kernel
theorem dX12_init_1412 : decode cX12_init 1412 = .ok (.aload_n 0, 1) := by decide +kernel
theorem dX12_init_1413 : decode cX12_init 1413 = .ok (.sipush 7200, 3) := by decide +kernel
theorem dX12_init_1416 : decode cX12_init 1416 = .ok (.newarray .int, 2) := by decide +kernel
theorem dX12_init_1418 : decode cX12_init 1418 = .ok (.putfield 121, 3) := by decide +kernel
theorem dX12_init_1421 : decode cX12_init 1421 = .ok (.return_, 1) := by decide +kernel
theorem ct_0 {ct : Nat → ClassId} {R : Room} {lv : List (Nat × Value)} {st : List Value} {cells slots mc ms : Nat} {Q : va_W → Prop} {x0 : Nat × va_E} {tl : va_W} {q : Nat} (k : Cv ct M_X12_init R 266 lv (.ref q :: st) (x0 :: (tl ++ [(q, .inl (ct 0, 178, .inl (cv_f 30)))])) cells slots mc ms Q) : Cv ct M_X12_init R 92 lv (.ref q :: st) (x0 :: (tl ++ [(q, .inl (ct 0, 178, .inl (cv_f 0)))])) cells slots mc ms Q := by
  refine Cv_tabA 0 (Nat.le_of_ble_eq_true rfl) (Nat.le_of_ble_eq_true rfl) rfl (by decide +kernel) dX12_init_92 dX12_init_93 dX12_init_94 dX12_init_96 rfl ?_
  refine Cv_tabA 1 (Nat.le_of_ble_eq_true rfl) (Nat.le_of_ble_eq_true rfl) rfl (by decide +kernel) dX12_init_97 dX12_init_98 dX12_init_99 dX12_init_101 rfl ?_
  refine Cv_tabA 2 (Nat.le_of_ble_eq_true rfl) (Nat.le_of_ble_eq_true rfl) rfl (by decide +kernel) dX12_init_102 dX12_init_103 dX12_init_104 dX12_init_106 rfl ?_
  refine Cv_tabA 3 (Nat.le_of_ble_eq_true rfl) (Nat.le_of_ble_eq_true rfl) rfl (by decide +kernel) dX12_init_107 dX12_init_108 dX12_init_109 dX12_init_111 rfl ?_
  refine Cv_tabA 4 (Nat.le_of_ble_eq_true rfl) (Nat.le_of_ble_eq_true rfl) rfl (by decide +kernel) dX12_init_112 dX12_init_113 dX12_init_114 dX12_init_116 rfl ?_
  refine Cv_tabA 5 (Nat.le_of_ble_eq_true rfl) (Nat.le_of_ble_eq_true rfl) rfl (by decide +kernel) dX12_init_117 dX12_init_118 dX12_init_119 dX12_init_121 rfl ?_
  refine Cv_tabB 6 (Nat.le_of_ble_eq_true rfl) (Nat.le_of_ble_eq_true rfl) rfl (by decide +kernel) dX12_init_122 dX12_init_123 dX12_init_125 dX12_init_127 rfl rfl ?_
  refine Cv_tabB 7 (Nat.le_of_ble_eq_true rfl) (Nat.le_of_ble_eq_true rfl) rfl (by decide +kernel) dX12_init_128 dX12_init_129 dX12_init_131 dX12_init_133 rfl rfl ?_
  refine Cv_tabB 8 (Nat.le_of_ble_eq_true rfl) (Nat.le_of_ble_eq_true rfl) rfl (by decide +kernel) dX12_init_134 dX12_init_135 dX12_init_137 dX12_init_139 rfl rfl ?_
  refine Cv_tabB 9 (Nat.le_of_ble_eq_true rfl) (Nat.le_of_ble_eq_true rfl) rfl (by decide +kernel) dX12_init_140 dX12_init_141 dX12_init_143 dX12_init_145 rfl rfl ?_
  refine Cv_tabB 10 (Nat.le_of_ble_eq_true rfl) (Nat.le_of_ble_eq_true rfl) rfl (by decide +kernel) dX12_init_146 dX12_init_147 dX12_init_149 dX12_init_151 rfl rfl ?_
  refine Cv_tabB 11 (Nat.le_of_ble_eq_true rfl) (Nat.le_of_ble_eq_true rfl) rfl (by decide +kernel) dX12_init_152 dX12_init_153 dX12_init_155 dX12_init_157 rfl rfl ?_
  refine Cv_tabB 12 (Nat.le_of_ble_eq_true rfl) (Nat.le_of_ble_eq_true rfl) rfl (by decide +kernel) dX12_init_158 dX12_init_159 dX12_init_161 dX12_init_163 rfl rfl ?_
  refine Cv_tabB 13 (Nat.le_of_ble_eq_true rfl) (Nat.le_of_ble_eq_true rfl) rfl (by decide +kernel) dX12_init_164 dX12_init_165 dX12_init_167 dX12_init_169 rfl rfl ?_
  refine Cv_tabB 14 (Nat.le_of_ble_eq_true rfl) (Nat.le_of_ble_eq_true rfl) rfl (by decide +kernel) dX12_init_170 dX12_init_171 dX12_init_173 dX12_init_175 rfl rfl ?_
  refine Cv_tabB 15 (Nat.le_of_ble_eq_true rfl) (Nat.le_of_ble_eq_true rfl) rfl (by decide +kernel) dX12_init_176 dX12_init_177 dX12_init_179 dX12_init_181 rfl rfl ?_
  refine Cv_tabB 16 (Nat.le_of_ble_eq_true rfl) (Nat.le_of_ble_eq_true rfl) rfl (by decide +kernel) dX12_init_182 dX12_init_183 dX12_init_185 dX12_init_187 rfl rfl ?_
  refine Cv_tabB 17 (Nat.le_of_ble_eq_true rfl) (Nat.le_of_ble_eq_true rfl) rfl (by decide +kernel) dX12_init_188 dX12_init_189 dX12_init_191 dX12_init_193 rfl rfl ?_
  refine Cv_tabB 18 (Nat.le_of_ble_eq_true rfl) (Nat.le_of_ble_eq_true rfl) rfl (by decide +kernel) dX12_init_194 dX12_init_195 dX12_init_197 dX12_init_199 rfl rfl ?_
  refine Cv_tabB 19 (Nat.le_of_ble_eq_true rfl) (Nat.le_of_ble_eq_true rfl) rfl (by decide +kernel) dX12_init_200 dX12_init_201 dX12_init_203 dX12_init_205 rfl rfl ?_
  refine Cv_tabB 20 (Nat.le_of_ble_eq_true rfl) (Nat.le_of_ble_eq_true rfl) rfl (by decide +kernel) dX12_init_206 dX12_init_207 dX12_init_209 dX12_init_211 rfl rfl ?_
  refine Cv_tabB 21 (Nat.le_of_ble_eq_true rfl) (Nat.le_of_ble_eq_true rfl) rfl (by decide +kernel) dX12_init_212 dX12_init_213 dX12_init_215 dX12_init_217 rfl rfl ?_
  refine Cv_tabB 22 (Nat.le_of_ble_eq_true rfl) (Nat.le_of_ble_eq_true rfl) rfl (by decide +kernel) dX12_init_218 dX12_init_219 dX12_init_221 dX12_init_223 rfl rfl ?_
  refine Cv_tabB 23 (Nat.le_of_ble_eq_true rfl) (Nat.le_of_ble_eq_true rfl) rfl (by decide +kernel) dX12_init_224 dX12_init_225 dX12_init_227 dX12_init_229 rfl rfl ?_
  refine Cv_tabB 24 (Nat.le_of_ble_eq_true rfl) (Nat.le_of_ble_eq_true rfl) rfl (by decide +kernel) dX12_init_230 dX12_init_231 dX12_init_233 dX12_init_235 rfl rfl ?_
  refine Cv_tabB 25 (Nat.le_of_ble_eq_true rfl) (Nat.le_of_ble_eq_true rfl) rfl (by decide +kernel) dX12_init_236 dX12_init_237 dX12_init_239 dX12_init_241 rfl rfl ?_
  refine Cv_tabB 26 (Nat.le_of_ble_eq_true rfl) (Nat.le_of_ble_eq_true rfl) rfl (by decide +kernel) dX12_init_242 dX12_init_243 dX12_init_245 dX12_init_247 rfl rfl ?_
  refine Cv_tabB 27 (Nat.le_of_ble_eq_true rfl) (Nat.le_of_ble_eq_true rfl) rfl (by decide +kernel) dX12_init_248 dX12_init_249 dX12_init_251 dX12_init_253 rfl rfl ?_
  refine Cv_tabB 28 (Nat.le_of_ble_eq_true rfl) (Nat.le_of_ble_eq_true rfl) rfl (by decide +kernel) dX12_init_254 dX12_init_255 dX12_init_257 dX12_init_259 rfl rfl ?_
  refine Cv_tabB 29 (Nat.le_of_ble_eq_true rfl) (Nat.le_of_ble_eq_true rfl) rfl (by decide +kernel) dX12_init_260 dX12_init_261 dX12_init_263 dX12_init_265 rfl rfl ?_
  exact k
theorem ct_30 {ct : Nat → ClassId} {R : Room} {lv : List (Nat × Value)} {st : List Value} {cells slots mc ms : Nat} {Q : va_W → Prop} {x0 : Nat × va_E} {tl : va_W} {q : Nat} (k : Cv ct M_X12_init R 446 lv (.ref q :: st) (x0 :: (tl ++ [(q, .inl (ct 0, 178, .inl (cv_f 60)))])) cells slots mc ms Q) : Cv ct M_X12_init R 266 lv (.ref q :: st) (x0 :: (tl ++ [(q, .inl (ct 0, 178, .inl (cv_f 30)))])) cells slots mc ms Q := by
  refine Cv_tabB 30 (Nat.le_of_ble_eq_true rfl) (Nat.le_of_ble_eq_true rfl) rfl (by decide +kernel) dX12_init_266 dX12_init_267 dX12_init_269 dX12_init_271 rfl rfl ?_
  refine Cv_tabB 31 (Nat.le_of_ble_eq_true rfl) (Nat.le_of_ble_eq_true rfl) rfl (by decide +kernel) dX12_init_272 dX12_init_273 dX12_init_275 dX12_init_277 rfl rfl ?_
  refine Cv_tabB 32 (Nat.le_of_ble_eq_true rfl) (Nat.le_of_ble_eq_true rfl) rfl (by decide +kernel) dX12_init_278 dX12_init_279 dX12_init_281 dX12_init_283 rfl rfl ?_
  refine Cv_tabB 33 (Nat.le_of_ble_eq_true rfl) (Nat.le_of_ble_eq_true rfl) rfl (by decide +kernel) dX12_init_284 dX12_init_285 dX12_init_287 dX12_init_289 rfl rfl ?_
  refine Cv_tabB 34 (Nat.le_of_ble_eq_true rfl) (Nat.le_of_ble_eq_true rfl) rfl (by decide +kernel) dX12_init_290 dX12_init_291 dX12_init_293 dX12_init_295 rfl rfl ?_
  refine Cv_tabB 35 (Nat.le_of_ble_eq_true rfl) (Nat.le_of_ble_eq_true rfl) rfl (by decide +kernel) dX12_init_296 dX12_init_297 dX12_init_299 dX12_init_301 rfl rfl ?_
  refine Cv_tabB 36 (Nat.le_of_ble_eq_true rfl) (Nat.le_of_ble_eq_true rfl) rfl (by decide +kernel) dX12_init_302 dX12_init_303 dX12_init_305 dX12_init_307 rfl rfl ?_
  refine Cv_tabB 37 (Nat.le_of_ble_eq_true rfl) (Nat.le_of_ble_eq_true rfl) rfl (by decide +kernel) dX12_init_308 dX12_init_309 dX12_init_311 dX12_init_313 rfl rfl ?_
  refine Cv_tabB 38 (Nat.le_of_ble_eq_true rfl) (Nat.le_of_ble_eq_true rfl) rfl (by decide +kernel) dX12_init_314 dX12_init_315 dX12_init_317 dX12_init_319 rfl rfl ?_
  refine Cv_tabB 39 (Nat.le_of_ble_eq_true rfl) (Nat.le_of_ble_eq_true rfl) rfl (by decide +kernel) dX12_init_320 dX12_init_321 dX12_init_323 dX12_init_325 rfl rfl ?_
  refine Cv_tabB 40 (Nat.le_of_ble_eq_true rfl) (Nat.le_of_ble_eq_true rfl) rfl (by decide +kernel) dX12_init_326 dX12_init_327 dX12_init_329 dX12_init_331 rfl rfl ?_
  refine Cv_tabB 41 (Nat.le_of_ble_eq_true rfl) (Nat.le_of_ble_eq_true rfl) rfl (by decide +kernel) dX12_init_332 dX12_init_333 dX12_init_335 dX12_init_337 rfl rfl ?_
  refine Cv_tabB 42 (Nat.le_of_ble_eq_true rfl) (Nat.le_of_ble_eq_true rfl) rfl (by decide +kernel) dX12_init_338 dX12_init_339 dX12_init_341 dX12_init_343 rfl rfl ?_
  refine Cv_tabB 43 (Nat.le_of_ble_eq_true rfl) (Nat.le_of_ble_eq_true rfl) rfl (by decide +kernel) dX12_init_344 dX12_init_345 dX12_init_347 dX12_init_349 rfl rfl ?_
  refine Cv_tabB 44 (Nat.le_of_ble_eq_true rfl) (Nat.le_of_ble_eq_true rfl) rfl (by decide +kernel) dX12_init_350 dX12_init_351 dX12_init_353 dX12_init_355 rfl rfl ?_
  refine Cv_tabB 45 (Nat.le_of_ble_eq_true rfl) (Nat.le_of_ble_eq_true rfl) rfl (by decide +kernel) dX12_init_356 dX12_init_357 dX12_init_359 dX12_init_361 rfl rfl ?_
  refine Cv_tabB 46 (Nat.le_of_ble_eq_true rfl) (Nat.le_of_ble_eq_true rfl) rfl (by decide +kernel) dX12_init_362 dX12_init_363 dX12_init_365 dX12_init_367 rfl rfl ?_
  refine Cv_tabB 47 (Nat.le_of_ble_eq_true rfl) (Nat.le_of_ble_eq_true rfl) rfl (by decide +kernel) dX12_init_368 dX12_init_369 dX12_init_371 dX12_init_373 rfl rfl ?_
  refine Cv_tabB 48 (Nat.le_of_ble_eq_true rfl) (Nat.le_of_ble_eq_true rfl) rfl (by decide +kernel) dX12_init_374 dX12_init_375 dX12_init_377 dX12_init_379 rfl rfl ?_
  refine Cv_tabB 49 (Nat.le_of_ble_eq_true rfl) (Nat.le_of_ble_eq_true rfl) rfl (by decide +kernel) dX12_init_380 dX12_init_381 dX12_init_383 dX12_init_385 rfl rfl ?_
  refine Cv_tabB 50 (Nat.le_of_ble_eq_true rfl) (Nat.le_of_ble_eq_true rfl) rfl (by decide +kernel) dX12_init_386 dX12_init_387 dX12_init_389 dX12_init_391 rfl rfl ?_
  refine Cv_tabB 51 (Nat.le_of_ble_eq_true rfl) (Nat.le_of_ble_eq_true rfl) rfl (by decide +kernel) dX12_init_392 dX12_init_393 dX12_init_395 dX12_init_397 rfl rfl ?_
  refine Cv_tabB 52 (Nat.le_of_ble_eq_true rfl) (Nat.le_of_ble_eq_true rfl) rfl (by decide +kernel) dX12_init_398 dX12_init_399 dX12_init_401 dX12_init_403 rfl rfl ?_
  refine Cv_tabB 53 (Nat.le_of_ble_eq_true rfl) (Nat.le_of_ble_eq_true rfl) rfl (by decide +kernel) dX12_init_404 dX12_init_405 dX12_init_407 dX12_init_409 rfl rfl ?_
  refine Cv_tabB 54 (Nat.le_of_ble_eq_true rfl) (Nat.le_of_ble_eq_true rfl) rfl (by decide +kernel) dX12_init_410 dX12_init_411 dX12_init_413 dX12_init_415 rfl rfl ?_
  refine Cv_tabB 55 (Nat.le_of_ble_eq_true rfl) (Nat.le_of_ble_eq_true rfl) rfl (by decide +kernel) dX12_init_416 dX12_init_417 dX12_init_419 dX12_init_421 rfl rfl ?_
  refine Cv_tabB 56 (Nat.le_of_ble_eq_true rfl) (Nat.le_of_ble_eq_true rfl) rfl (by decide +kernel) dX12_init_422 dX12_init_423 dX12_init_425 dX12_init_427 rfl rfl ?_
  refine Cv_tabB 57 (Nat.le_of_ble_eq_true rfl) (Nat.le_of_ble_eq_true rfl) rfl (by decide +kernel) dX12_init_428 dX12_init_429 dX12_init_431 dX12_init_433 rfl rfl ?_
  refine Cv_tabB 58 (Nat.le_of_ble_eq_true rfl) (Nat.le_of_ble_eq_true rfl) rfl (by decide +kernel) dX12_init_434 dX12_init_435 dX12_init_437 dX12_init_439 rfl rfl ?_
  refine Cv_tabB 59 (Nat.le_of_ble_eq_true rfl) (Nat.le_of_ble_eq_true rfl) rfl (by decide +kernel) dX12_init_440 dX12_init_441 dX12_init_443 dX12_init_445 rfl rfl ?_
  exact k
theorem ct_60 {ct : Nat → ClassId} {R : Room} {lv : List (Nat × Value)} {st : List Value} {cells slots mc ms : Nat} {Q : va_W → Prop} {x0 : Nat × va_E} {tl : va_W} {q : Nat} (k : Cv ct M_X12_init R 626 lv (.ref q :: st) (x0 :: (tl ++ [(q, .inl (ct 0, 178, .inl (cv_f 90)))])) cells slots mc ms Q) : Cv ct M_X12_init R 446 lv (.ref q :: st) (x0 :: (tl ++ [(q, .inl (ct 0, 178, .inl (cv_f 60)))])) cells slots mc ms Q := by
  refine Cv_tabB 60 (Nat.le_of_ble_eq_true rfl) (Nat.le_of_ble_eq_true rfl) rfl (by decide +kernel) dX12_init_446 dX12_init_447 dX12_init_449 dX12_init_451 rfl rfl ?_
  refine Cv_tabB 61 (Nat.le_of_ble_eq_true rfl) (Nat.le_of_ble_eq_true rfl) rfl (by decide +kernel) dX12_init_452 dX12_init_453 dX12_init_455 dX12_init_457 rfl rfl ?_
  refine Cv_tabB 62 (Nat.le_of_ble_eq_true rfl) (Nat.le_of_ble_eq_true rfl) rfl (by decide +kernel) dX12_init_458 dX12_init_459 dX12_init_461 dX12_init_463 rfl rfl ?_
  refine Cv_tabB 63 (Nat.le_of_ble_eq_true rfl) (Nat.le_of_ble_eq_true rfl) rfl (by decide +kernel) dX12_init_464 dX12_init_465 dX12_init_467 dX12_init_469 rfl rfl ?_
  refine Cv_tabB 64 (Nat.le_of_ble_eq_true rfl) (Nat.le_of_ble_eq_true rfl) rfl (by decide +kernel) dX12_init_470 dX12_init_471 dX12_init_473 dX12_init_475 rfl rfl ?_
  refine Cv_tabB 65 (Nat.le_of_ble_eq_true rfl) (Nat.le_of_ble_eq_true rfl) rfl (by decide +kernel) dX12_init_476 dX12_init_477 dX12_init_479 dX12_init_481 rfl rfl ?_
  refine Cv_tabB 66 (Nat.le_of_ble_eq_true rfl) (Nat.le_of_ble_eq_true rfl) rfl (by decide +kernel) dX12_init_482 dX12_init_483 dX12_init_485 dX12_init_487 rfl rfl ?_
  refine Cv_tabB 67 (Nat.le_of_ble_eq_true rfl) (Nat.le_of_ble_eq_true rfl) rfl (by decide +kernel) dX12_init_488 dX12_init_489 dX12_init_491 dX12_init_493 rfl rfl ?_
  refine Cv_tabB 68 (Nat.le_of_ble_eq_true rfl) (Nat.le_of_ble_eq_true rfl) rfl (by decide +kernel) dX12_init_494 dX12_init_495 dX12_init_497 dX12_init_499 rfl rfl ?_
  refine Cv_tabB 69 (Nat.le_of_ble_eq_true rfl) (Nat.le_of_ble_eq_true rfl) rfl (by decide +kernel) dX12_init_500 dX12_init_501 dX12_init_503 dX12_init_505 rfl rfl ?_
  refine Cv_tabB 70 (Nat.le_of_ble_eq_true rfl) (Nat.le_of_ble_eq_true rfl) rfl (by decide +kernel) dX12_init_506 dX12_init_507 dX12_init_509 dX12_init_511 rfl rfl ?_
  refine Cv_tabB 71 (Nat.le_of_ble_eq_true rfl) (Nat.le_of_ble_eq_true rfl) rfl (by decide +kernel) dX12_init_512 dX12_init_513 dX12_init_515 dX12_init_517 rfl rfl ?_
  refine Cv_tabB 72 (Nat.le_of_ble_eq_true rfl) (Nat.le_of_ble_eq_true rfl) rfl (by decide +kernel) dX12_init_518 dX12_init_519 dX12_init_521 dX12_init_523 rfl rfl ?_
  refine Cv_tabB 73 (Nat.le_of_ble_eq_true rfl) (Nat.le_of_ble_eq_true rfl) rfl (by decide +kernel) dX12_init_524 dX12_init_525 dX12_init_527 dX12_init_529 rfl rfl ?_
  refine Cv_tabB 74 (Nat.le_of_ble_eq_true rfl) (Nat.le_of_ble_eq_true rfl) rfl (by decide +kernel) dX12_init_530 dX12_init_531 dX12_init_533 dX12_init_535 rfl rfl ?_
  refine Cv_tabB 75 (Nat.le_of_ble_eq_true rfl) (Nat.le_of_ble_eq_true rfl) rfl (by decide +kernel) dX12_init_536 dX12_init_537 dX12_init_539 dX12_init_541 rfl rfl ?_
  refine Cv_tabB 76 (Nat.le_of_ble_eq_true rfl) (Nat.le_of_ble_eq_true rfl) rfl (by decide +kernel) dX12_init_542 dX12_init_543 dX12_init_545 dX12_init_547 rfl rfl ?_
  refine Cv_tabB 77 (Nat.le_of_ble_eq_true rfl) (Nat.le_of_ble_eq_true rfl) rfl (by decide +kernel) dX12_init_548 dX12_init_549 dX12_init_551 dX12_init_553 rfl rfl ?_
  refine Cv_tabB 78 (Nat.le_of_ble_eq_true rfl) (Nat.le_of_ble_eq_true rfl) rfl (by decide +kernel) dX12_init_554 dX12_init_555 dX12_init_557 dX12_init_559 rfl rfl ?_
  refine Cv_tabB 79 (Nat.le_of_ble_eq_true rfl) (Nat.le_of_ble_eq_true rfl) rfl (by decide +kernel) dX12_init_560 dX12_init_561 dX12_init_563 dX12_init_565 rfl rfl ?_
  refine Cv_tabB 80 (Nat.le_of_ble_eq_true rfl) (Nat.le_of_ble_eq_true rfl) rfl (by decide +kernel) dX12_init_566 dX12_init_567 dX12_init_569 dX12_init_571 rfl rfl ?_
  refine Cv_tabB 81 (Nat.le_of_ble_eq_true rfl) (Nat.le_of_ble_eq_true rfl) rfl (by decide +kernel) dX12_init_572 dX12_init_573 dX12_init_575 dX12_init_577 rfl rfl ?_
  refine Cv_tabB 82 (Nat.le_of_ble_eq_true rfl) (Nat.le_of_ble_eq_true rfl) rfl (by decide +kernel) dX12_init_578 dX12_init_579 dX12_init_581 dX12_init_583 rfl rfl ?_
  refine Cv_tabB 83 (Nat.le_of_ble_eq_true rfl) (Nat.le_of_ble_eq_true rfl) rfl (by decide +kernel) dX12_init_584 dX12_init_585 dX12_init_587 dX12_init_589 rfl rfl ?_
  refine Cv_tabB 84 (Nat.le_of_ble_eq_true rfl) (Nat.le_of_ble_eq_true rfl) rfl (by decide +kernel) dX12_init_590 dX12_init_591 dX12_init_593 dX12_init_595 rfl rfl ?_
  refine Cv_tabB 85 (Nat.le_of_ble_eq_true rfl) (Nat.le_of_ble_eq_true rfl) rfl (by decide +kernel) dX12_init_596 dX12_init_597 dX12_init_599 dX12_init_601 rfl rfl ?_
  refine Cv_tabB 86 (Nat.le_of_ble_eq_true rfl) (Nat.le_of_ble_eq_true rfl) rfl (by decide +kernel) dX12_init_602 dX12_init_603 dX12_init_605 dX12_init_607 rfl rfl ?_
  refine Cv_tabB 87 (Nat.le_of_ble_eq_true rfl) (Nat.le_of_ble_eq_true rfl) rfl (by decide +kernel) dX12_init_608 dX12_init_609 dX12_init_611 dX12_init_613 rfl rfl ?_
  refine Cv_tabB 88 (Nat.le_of_ble_eq_true rfl) (Nat.le_of_ble_eq_true rfl) rfl (by decide +kernel) dX12_init_614 dX12_init_615 dX12_init_617 dX12_init_619 rfl rfl ?_
  refine Cv_tabB 89 (Nat.le_of_ble_eq_true rfl) (Nat.le_of_ble_eq_true rfl) rfl (by decide +kernel) dX12_init_620 dX12_init_621 dX12_init_623 dX12_init_625 rfl rfl ?_
  exact k
theorem ct_90 {ct : Nat → ClassId} {R : Room} {lv : List (Nat × Value)} {st : List Value} {cells slots mc ms : Nat} {Q : va_W → Prop} {x0 : Nat × va_E} {tl : va_W} {q : Nat} (k : Cv ct M_X12_init R 806 lv (.ref q :: st) (x0 :: (tl ++ [(q, .inl (ct 0, 178, .inl (cv_f 120)))])) cells slots mc ms Q) : Cv ct M_X12_init R 626 lv (.ref q :: st) (x0 :: (tl ++ [(q, .inl (ct 0, 178, .inl (cv_f 90)))])) cells slots mc ms Q := by
  refine Cv_tabB 90 (Nat.le_of_ble_eq_true rfl) (Nat.le_of_ble_eq_true rfl) rfl (by decide +kernel) dX12_init_626 dX12_init_627 dX12_init_629 dX12_init_631 rfl rfl ?_
  refine Cv_tabB 91 (Nat.le_of_ble_eq_true rfl) (Nat.le_of_ble_eq_true rfl) rfl (by decide +kernel) dX12_init_632 dX12_init_633 dX12_init_635 dX12_init_637 rfl rfl ?_
  refine Cv_tabB 92 (Nat.le_of_ble_eq_true rfl) (Nat.le_of_ble_eq_true rfl) rfl (by decide +kernel) dX12_init_638 dX12_init_639 dX12_init_641 dX12_init_643 rfl rfl ?_
  refine Cv_tabB 93 (Nat.le_of_ble_eq_true rfl) (Nat.le_of_ble_eq_true rfl) rfl (by decide +kernel) dX12_init_644 dX12_init_645 dX12_init_647 dX12_init_649 rfl rfl ?_
  refine Cv_tabB 94 (Nat.le_of_ble_eq_true rfl) (Nat.le_of_ble_eq_true rfl) rfl (by decide +kernel) dX12_init_650 dX12_init_651 dX12_init_653 dX12_init_655 rfl rfl ?_
  refine Cv_tabB 95 (Nat.le_of_ble_eq_true rfl) (Nat.le_of_ble_eq_true rfl) rfl (by decide +kernel) dX12_init_656 dX12_init_657 dX12_init_659 dX12_init_661 rfl rfl ?_
  refine Cv_tabB 96 (Nat.le_of_ble_eq_true rfl) (Nat.le_of_ble_eq_true rfl) rfl (by decide +kernel) dX12_init_662 dX12_init_663 dX12_init_665 dX12_init_667 rfl rfl ?_
  refine Cv_tabB 97 (Nat.le_of_ble_eq_true rfl) (Nat.le_of_ble_eq_true rfl) rfl (by decide +kernel) dX12_init_668 dX12_init_669 dX12_init_671 dX12_init_673 rfl rfl ?_
  refine Cv_tabB 98 (Nat.le_of_ble_eq_true rfl) (Nat.le_of_ble_eq_true rfl) rfl (by decide +kernel) dX12_init_674 dX12_init_675 dX12_init_677 dX12_init_679 rfl rfl ?_
  refine Cv_tabB 99 (Nat.le_of_ble_eq_true rfl) (Nat.le_of_ble_eq_true rfl) rfl (by decide +kernel) dX12_init_680 dX12_init_681 dX12_init_683 dX12_init_685 rfl rfl ?_
  refine Cv_tabB 100 (Nat.le_of_ble_eq_true rfl) (Nat.le_of_ble_eq_true rfl) rfl (by decide +kernel) dX12_init_686 dX12_init_687 dX12_init_689 dX12_init_691 rfl rfl ?_
  refine Cv_tabB 101 (Nat.le_of_ble_eq_true rfl) (Nat.le_of_ble_eq_true rfl) rfl (by decide +kernel) dX12_init_692 dX12_init_693 dX12_init_695 dX12_init_697 rfl rfl ?_
  refine Cv_tabB 102 (Nat.le_of_ble_eq_true rfl) (Nat.le_of_ble_eq_true rfl) rfl (by decide +kernel) dX12_init_698 dX12_init_699 dX12_init_701 dX12_init_703 rfl rfl ?_
  refine Cv_tabB 103 (Nat.le_of_ble_eq_true rfl) (Nat.le_of_ble_eq_true rfl) rfl (by decide +kernel) dX12_init_704 dX12_init_705 dX12_init_707 dX12_init_709 rfl rfl ?_
  refine Cv_tabB 104 (Nat.le_of_ble_eq_true rfl) (Nat.le_of_ble_eq_true rfl) rfl (by decide +kernel) dX12_init_710 dX12_init_711 dX12_init_713 dX12_init_715 rfl rfl ?_
  refine Cv_tabB 105 (Nat.le_of_ble_eq_true rfl) (Nat.le_of_ble_eq_true rfl) rfl (by decide +kernel) dX12_init_716 dX12_init_717 dX12_init_719 dX12_init_721 rfl rfl ?_
  refine Cv_tabB 106 (Nat.le_of_ble_eq_true rfl) (Nat.le_of_ble_eq_true rfl) rfl (by decide +kernel) dX12_init_722 dX12_init_723 dX12_init_725 dX12_init_727 rfl rfl ?_
  refine Cv_tabB 107 (Nat.le_of_ble_eq_true rfl) (Nat.le_of_ble_eq_true rfl) rfl (by decide +kernel) dX12_init_728 dX12_init_729 dX12_init_731 dX12_init_733 rfl rfl ?_
  refine Cv_tabB 108 (Nat.le_of_ble_eq_true rfl) (Nat.le_of_ble_eq_true rfl) rfl (by decide +kernel) dX12_init_734 dX12_init_735 dX12_init_737 dX12_init_739 rfl rfl ?_
  refine Cv_tabB 109 (Nat.le_of_ble_eq_true rfl) (Nat.le_of_ble_eq_true rfl) rfl (by decide +kernel) dX12_init_740 dX12_init_741 dX12_init_743 dX12_init_745 rfl rfl ?_
  refine Cv_tabB 110 (Nat.le_of_ble_eq_true rfl) (Nat.le_of_ble_eq_true rfl) rfl (by decide +kernel) dX12_init_746 dX12_init_747 dX12_init_749 dX12_init_751 rfl rfl ?_
  refine Cv_tabB 111 (Nat.le_of_ble_eq_true rfl) (Nat.le_of_ble_eq_true rfl) rfl (by decide +kernel) dX12_init_752 dX12_init_753 dX12_init_755 dX12_init_757 rfl rfl ?_
  refine Cv_tabB 112 (Nat.le_of_ble_eq_true rfl) (Nat.le_of_ble_eq_true rfl) rfl (by decide +kernel) dX12_init_758 dX12_init_759 dX12_init_761 dX12_init_763 rfl rfl ?_
  refine Cv_tabB 113 (Nat.le_of_ble_eq_true rfl) (Nat.le_of_ble_eq_true rfl) rfl (by decide +kernel) dX12_init_764 dX12_init_765 dX12_init_767 dX12_init_769 rfl rfl ?_
  refine Cv_tabB 114 (Nat.le_of_ble_eq_true rfl) (Nat.le_of_ble_eq_true rfl) rfl (by decide +kernel) dX12_init_770 dX12_init_771 dX12_init_773 dX12_init_775 rfl rfl ?_
  refine Cv_tabB 115 (Nat.le_of_ble_eq_true rfl) (Nat.le_of_ble_eq_true rfl) rfl (by decide +kernel) dX12_init_776 dX12_init_777 dX12_init_779 dX12_init_781 rfl rfl ?_
  refine Cv_tabB 116 (Nat.le_of_ble_eq_true rfl) (Nat.le_of_ble_eq_true rfl) rfl (by decide +kernel) dX12_init_782 dX12_init_783 dX12_init_785 dX12_init_787 rfl rfl ?_
  refine Cv_tabB 117 (Nat.le_of_ble_eq_true rfl) (Nat.le_of_ble_eq_true rfl) rfl (by decide +kernel) dX12_init_788 dX12_init_789 dX12_init_791 dX12_init_793 rfl rfl ?_
  refine Cv_tabB 118 (Nat.le_of_ble_eq_true rfl) (Nat.le_of_ble_eq_true rfl) rfl (by decide +kernel) dX12_init_794 dX12_init_795 dX12_init_797 dX12_init_799 rfl rfl ?_
  refine Cv_tabB 119 (Nat.le_of_ble_eq_true rfl) (Nat.le_of_ble_eq_true rfl) rfl (by decide +kernel) dX12_init_800 dX12_init_801 dX12_init_803 dX12_init_805 rfl rfl ?_
  exact k
theorem ct_120 {ct : Nat → ClassId} {R : Room} {lv : List (Nat × Value)} {st : List Value} {cells slots mc ms : Nat} {Q : va_W → Prop} {x0 : Nat × va_E} {tl : va_W} {q : Nat} (k : Cv ct M_X12_init R 1008 lv (.ref q :: st) (x0 :: (tl ++ [(q, .inl (ct 0, 178, .inl (cv_f 150)))])) cells slots mc ms Q) : Cv ct M_X12_init R 806 lv (.ref q :: st) (x0 :: (tl ++ [(q, .inl (ct 0, 178, .inl (cv_f 120)))])) cells slots mc ms Q := by
  refine Cv_tabB 120 (Nat.le_of_ble_eq_true rfl) (Nat.le_of_ble_eq_true rfl) rfl (by decide +kernel) dX12_init_806 dX12_init_807 dX12_init_809 dX12_init_811 rfl rfl ?_
  refine Cv_tabB 121 (Nat.le_of_ble_eq_true rfl) (Nat.le_of_ble_eq_true rfl) rfl (by decide +kernel) dX12_init_812 dX12_init_813 dX12_init_815 dX12_init_817 rfl rfl ?_
  refine Cv_tabB 122 (Nat.le_of_ble_eq_true rfl) (Nat.le_of_ble_eq_true rfl) rfl (by decide +kernel) dX12_init_818 dX12_init_819 dX12_init_821 dX12_init_823 rfl rfl ?_
  refine Cv_tabB 123 (Nat.le_of_ble_eq_true rfl) (Nat.le_of_ble_eq_true rfl) rfl (by decide +kernel) dX12_init_824 dX12_init_825 dX12_init_827 dX12_init_829 rfl rfl ?_
  refine Cv_tabB 124 (Nat.le_of_ble_eq_true rfl) (Nat.le_of_ble_eq_true rfl) rfl (by decide +kernel) dX12_init_830 dX12_init_831 dX12_init_833 dX12_init_835 rfl rfl ?_
  refine Cv_tabB 125 (Nat.le_of_ble_eq_true rfl) (Nat.le_of_ble_eq_true rfl) rfl (by decide +kernel) dX12_init_836 dX12_init_837 dX12_init_839 dX12_init_841 rfl rfl ?_
  refine Cv_tabB 126 (Nat.le_of_ble_eq_true rfl) (Nat.le_of_ble_eq_true rfl) rfl (by decide +kernel) dX12_init_842 dX12_init_843 dX12_init_845 dX12_init_847 rfl rfl ?_
  refine Cv_tabB 127 (Nat.le_of_ble_eq_true rfl) (Nat.le_of_ble_eq_true rfl) rfl (by decide +kernel) dX12_init_848 dX12_init_849 dX12_init_851 dX12_init_853 rfl rfl ?_
  refine Cv_tabC 128 (Nat.le_of_ble_eq_true rfl) (Nat.le_of_ble_eq_true rfl) rfl (by decide +kernel) dX12_init_854 dX12_init_855 dX12_init_858 dX12_init_860 rfl rfl ?_
  refine Cv_tabC 129 (Nat.le_of_ble_eq_true rfl) (Nat.le_of_ble_eq_true rfl) rfl (by decide +kernel) dX12_init_861 dX12_init_862 dX12_init_865 dX12_init_867 rfl rfl ?_
  refine Cv_tabC 130 (Nat.le_of_ble_eq_true rfl) (Nat.le_of_ble_eq_true rfl) rfl (by decide +kernel) dX12_init_868 dX12_init_869 dX12_init_872 dX12_init_874 rfl rfl ?_
  refine Cv_tabC 131 (Nat.le_of_ble_eq_true rfl) (Nat.le_of_ble_eq_true rfl) rfl (by decide +kernel) dX12_init_875 dX12_init_876 dX12_init_879 dX12_init_881 rfl rfl ?_
  refine Cv_tabC 132 (Nat.le_of_ble_eq_true rfl) (Nat.le_of_ble_eq_true rfl) rfl (by decide +kernel) dX12_init_882 dX12_init_883 dX12_init_886 dX12_init_888 rfl rfl ?_
  refine Cv_tabC 133 (Nat.le_of_ble_eq_true rfl) (Nat.le_of_ble_eq_true rfl) rfl (by decide +kernel) dX12_init_889 dX12_init_890 dX12_init_893 dX12_init_895 rfl rfl ?_
  refine Cv_tabC 134 (Nat.le_of_ble_eq_true rfl) (Nat.le_of_ble_eq_true rfl) rfl (by decide +kernel) dX12_init_896 dX12_init_897 dX12_init_900 dX12_init_902 rfl rfl ?_
  refine Cv_tabC 135 (Nat.le_of_ble_eq_true rfl) (Nat.le_of_ble_eq_true rfl) rfl (by decide +kernel) dX12_init_903 dX12_init_904 dX12_init_907 dX12_init_909 rfl rfl ?_
  refine Cv_tabC 136 (Nat.le_of_ble_eq_true rfl) (Nat.le_of_ble_eq_true rfl) rfl (by decide +kernel) dX12_init_910 dX12_init_911 dX12_init_914 dX12_init_916 rfl rfl ?_
  refine Cv_tabC 137 (Nat.le_of_ble_eq_true rfl) (Nat.le_of_ble_eq_true rfl) rfl (by decide +kernel) dX12_init_917 dX12_init_918 dX12_init_921 dX12_init_923 rfl rfl ?_
  refine Cv_tabC 138 (Nat.le_of_ble_eq_true rfl) (Nat.le_of_ble_eq_true rfl) rfl (by decide +kernel) dX12_init_924 dX12_init_925 dX12_init_928 dX12_init_930 rfl rfl ?_
  refine Cv_tabC 139 (Nat.le_of_ble_eq_true rfl) (Nat.le_of_ble_eq_true rfl) rfl (by decide +kernel) dX12_init_931 dX12_init_932 dX12_init_935 dX12_init_937 rfl rfl ?_
  refine Cv_tabC 140 (Nat.le_of_ble_eq_true rfl) (Nat.le_of_ble_eq_true rfl) rfl (by decide +kernel) dX12_init_938 dX12_init_939 dX12_init_942 dX12_init_944 rfl rfl ?_
  refine Cv_tabC 141 (Nat.le_of_ble_eq_true rfl) (Nat.le_of_ble_eq_true rfl) rfl (by decide +kernel) dX12_init_945 dX12_init_946 dX12_init_949 dX12_init_951 rfl rfl ?_
  refine Cv_tabC 142 (Nat.le_of_ble_eq_true rfl) (Nat.le_of_ble_eq_true rfl) rfl (by decide +kernel) dX12_init_952 dX12_init_953 dX12_init_956 dX12_init_958 rfl rfl ?_
  refine Cv_tabC 143 (Nat.le_of_ble_eq_true rfl) (Nat.le_of_ble_eq_true rfl) rfl (by decide +kernel) dX12_init_959 dX12_init_960 dX12_init_963 dX12_init_965 rfl rfl ?_
  refine Cv_tabC 144 (Nat.le_of_ble_eq_true rfl) (Nat.le_of_ble_eq_true rfl) rfl (by decide +kernel) dX12_init_966 dX12_init_967 dX12_init_970 dX12_init_972 rfl rfl ?_
  refine Cv_tabC 145 (Nat.le_of_ble_eq_true rfl) (Nat.le_of_ble_eq_true rfl) rfl (by decide +kernel) dX12_init_973 dX12_init_974 dX12_init_977 dX12_init_979 rfl rfl ?_
  refine Cv_tabC 146 (Nat.le_of_ble_eq_true rfl) (Nat.le_of_ble_eq_true rfl) rfl (by decide +kernel) dX12_init_980 dX12_init_981 dX12_init_984 dX12_init_986 rfl rfl ?_
  refine Cv_tabC 147 (Nat.le_of_ble_eq_true rfl) (Nat.le_of_ble_eq_true rfl) rfl (by decide +kernel) dX12_init_987 dX12_init_988 dX12_init_991 dX12_init_993 rfl rfl ?_
  refine Cv_tabC 148 (Nat.le_of_ble_eq_true rfl) (Nat.le_of_ble_eq_true rfl) rfl (by decide +kernel) dX12_init_994 dX12_init_995 dX12_init_998 dX12_init_1000 rfl rfl ?_
  refine Cv_tabC 149 (Nat.le_of_ble_eq_true rfl) (Nat.le_of_ble_eq_true rfl) rfl (by decide +kernel) dX12_init_1001 dX12_init_1002 dX12_init_1005 dX12_init_1007 rfl rfl ?_
  exact k
theorem ct_150 {ct : Nat → ClassId} {R : Room} {lv : List (Nat × Value)} {st : List Value} {cells slots mc ms : Nat} {Q : va_W → Prop} {x0 : Nat × va_E} {tl : va_W} {q : Nat} (k : Cv ct M_X12_init R 1204 lv (.ref q :: st) (x0 :: (tl ++ [(q, .inl (ct 0, 178, .inl (cv_f 178)))])) cells slots mc ms Q) : Cv ct M_X12_init R 1008 lv (.ref q :: st) (x0 :: (tl ++ [(q, .inl (ct 0, 178, .inl (cv_f 150)))])) cells slots mc ms Q := by
  refine Cv_tabC 150 (Nat.le_of_ble_eq_true rfl) (Nat.le_of_ble_eq_true rfl) rfl (by decide +kernel) dX12_init_1008 dX12_init_1009 dX12_init_1012 dX12_init_1014 rfl rfl ?_
  refine Cv_tabC 151 (Nat.le_of_ble_eq_true rfl) (Nat.le_of_ble_eq_true rfl) rfl (by decide +kernel) dX12_init_1015 dX12_init_1016 dX12_init_1019 dX12_init_1021 rfl rfl ?_
  refine Cv_tabC 152 (Nat.le_of_ble_eq_true rfl) (Nat.le_of_ble_eq_true rfl) rfl (by decide +kernel) dX12_init_1022 dX12_init_1023 dX12_init_1026 dX12_init_1028 rfl rfl ?_
  refine Cv_tabC 153 (Nat.le_of_ble_eq_true rfl) (Nat.le_of_ble_eq_true rfl) rfl (by decide +kernel) dX12_init_1029 dX12_init_1030 dX12_init_1033 dX12_init_1035 rfl rfl ?_
  refine Cv_tabC 154 (Nat.le_of_ble_eq_true rfl) (Nat.le_of_ble_eq_true rfl) rfl (by decide +kernel) dX12_init_1036 dX12_init_1037 dX12_init_1040 dX12_init_1042 rfl rfl ?_
  refine Cv_tabC 155 (Nat.le_of_ble_eq_true rfl) (Nat.le_of_ble_eq_true rfl) rfl (by decide +kernel) dX12_init_1043 dX12_init_1044 dX12_init_1047 dX12_init_1049 rfl rfl ?_
  refine Cv_tabC 156 (Nat.le_of_ble_eq_true rfl) (Nat.le_of_ble_eq_true rfl) rfl (by decide +kernel) dX12_init_1050 dX12_init_1051 dX12_init_1054 dX12_init_1056 rfl rfl ?_
  refine Cv_tabC 157 (Nat.le_of_ble_eq_true rfl) (Nat.le_of_ble_eq_true rfl) rfl (by decide +kernel) dX12_init_1057 dX12_init_1058 dX12_init_1061 dX12_init_1063 rfl rfl ?_
  refine Cv_tabC 158 (Nat.le_of_ble_eq_true rfl) (Nat.le_of_ble_eq_true rfl) rfl (by decide +kernel) dX12_init_1064 dX12_init_1065 dX12_init_1068 dX12_init_1070 rfl rfl ?_
  refine Cv_tabC 159 (Nat.le_of_ble_eq_true rfl) (Nat.le_of_ble_eq_true rfl) rfl (by decide +kernel) dX12_init_1071 dX12_init_1072 dX12_init_1075 dX12_init_1077 rfl rfl ?_
  refine Cv_tabC 160 (Nat.le_of_ble_eq_true rfl) (Nat.le_of_ble_eq_true rfl) rfl (by decide +kernel) dX12_init_1078 dX12_init_1079 dX12_init_1082 dX12_init_1084 rfl rfl ?_
  refine Cv_tabC 161 (Nat.le_of_ble_eq_true rfl) (Nat.le_of_ble_eq_true rfl) rfl (by decide +kernel) dX12_init_1085 dX12_init_1086 dX12_init_1089 dX12_init_1091 rfl rfl ?_
  refine Cv_tabC 162 (Nat.le_of_ble_eq_true rfl) (Nat.le_of_ble_eq_true rfl) rfl (by decide +kernel) dX12_init_1092 dX12_init_1093 dX12_init_1096 dX12_init_1098 rfl rfl ?_
  refine Cv_tabC 163 (Nat.le_of_ble_eq_true rfl) (Nat.le_of_ble_eq_true rfl) rfl (by decide +kernel) dX12_init_1099 dX12_init_1100 dX12_init_1103 dX12_init_1105 rfl rfl ?_
  refine Cv_tabC 164 (Nat.le_of_ble_eq_true rfl) (Nat.le_of_ble_eq_true rfl) rfl (by decide +kernel) dX12_init_1106 dX12_init_1107 dX12_init_1110 dX12_init_1112 rfl rfl ?_
  refine Cv_tabC 165 (Nat.le_of_ble_eq_true rfl) (Nat.le_of_ble_eq_true rfl) rfl (by decide +kernel) dX12_init_1113 dX12_init_1114 dX12_init_1117 dX12_init_1119 rfl rfl ?_
  refine Cv_tabC 166 (Nat.le_of_ble_eq_true rfl) (Nat.le_of_ble_eq_true rfl) rfl (by decide +kernel) dX12_init_1120 dX12_init_1121 dX12_init_1124 dX12_init_1126 rfl rfl ?_
  refine Cv_tabC 167 (Nat.le_of_ble_eq_true rfl) (Nat.le_of_ble_eq_true rfl) rfl (by decide +kernel) dX12_init_1127 dX12_init_1128 dX12_init_1131 dX12_init_1133 rfl rfl ?_
  refine Cv_tabC 168 (Nat.le_of_ble_eq_true rfl) (Nat.le_of_ble_eq_true rfl) rfl (by decide +kernel) dX12_init_1134 dX12_init_1135 dX12_init_1138 dX12_init_1140 rfl rfl ?_
  refine Cv_tabC 169 (Nat.le_of_ble_eq_true rfl) (Nat.le_of_ble_eq_true rfl) rfl (by decide +kernel) dX12_init_1141 dX12_init_1142 dX12_init_1145 dX12_init_1147 rfl rfl ?_
  refine Cv_tabC 170 (Nat.le_of_ble_eq_true rfl) (Nat.le_of_ble_eq_true rfl) rfl (by decide +kernel) dX12_init_1148 dX12_init_1149 dX12_init_1152 dX12_init_1154 rfl rfl ?_
  refine Cv_tabC 171 (Nat.le_of_ble_eq_true rfl) (Nat.le_of_ble_eq_true rfl) rfl (by decide +kernel) dX12_init_1155 dX12_init_1156 dX12_init_1159 dX12_init_1161 rfl rfl ?_
  refine Cv_tabC 172 (Nat.le_of_ble_eq_true rfl) (Nat.le_of_ble_eq_true rfl) rfl (by decide +kernel) dX12_init_1162 dX12_init_1163 dX12_init_1166 dX12_init_1168 rfl rfl ?_
  refine Cv_tabC 173 (Nat.le_of_ble_eq_true rfl) (Nat.le_of_ble_eq_true rfl) rfl (by decide +kernel) dX12_init_1169 dX12_init_1170 dX12_init_1173 dX12_init_1175 rfl rfl ?_
  refine Cv_tabC 174 (Nat.le_of_ble_eq_true rfl) (Nat.le_of_ble_eq_true rfl) rfl (by decide +kernel) dX12_init_1176 dX12_init_1177 dX12_init_1180 dX12_init_1182 rfl rfl ?_
  refine Cv_tabC 175 (Nat.le_of_ble_eq_true rfl) (Nat.le_of_ble_eq_true rfl) rfl (by decide +kernel) dX12_init_1183 dX12_init_1184 dX12_init_1187 dX12_init_1189 rfl rfl ?_
  refine Cv_tabC 176 (Nat.le_of_ble_eq_true rfl) (Nat.le_of_ble_eq_true rfl) rfl (by decide +kernel) dX12_init_1190 dX12_init_1191 dX12_init_1194 dX12_init_1196 rfl rfl ?_
  refine Cv_tabC 177 (Nat.le_of_ble_eq_true rfl) (Nat.le_of_ble_eq_true rfl) rfl (by decide +kernel) dX12_init_1197 dX12_init_1198 dX12_init_1201 dX12_init_1203 rfl rfl ?_
  exact k
abbrev cv_adM (q0 q1 q2 q3 q4 q5 q6 q7 q8 q9 q10 q11 q12 q13 q14 q15 q16 q17 q18 q19 q20 q21 q22 q23 q24 q25 q26 q27 q28 q29 q30 q31 q32 q33 q34 q35 q36 : Nat) : Nat → Nat := fun k => ([q0, q1, q2, q3, q4, q5, q6, q7, q8, q9, q10, q11, q12, q13, q14, q15, q16, q17, q18, q19, q20, q21, q22, q23, q24, q25, q26, q27, q28, q29, q30, q31, q32, q33, q34, q35, q36] : List Nat).getD k 0
set_option maxRecDepth 100000 in
set_option maxHeartbeats 4000000 in
theorem cv_asmM (ct : Nat → ClassId) (q0 q1 q2 q3 q4 q5 q6 q7 q8 q9 q10 q11 q12 q13 q14 q15 q16 q17 q18 q19 q20 q21 q22 q23 q24 q25 q26 q27 q28 q29 q30 q31 q32 q33 q34 q35 q36 : Nat) : ([(q0, .inr (12, [.int (Int32.ofInt 0), .ref q1, .ref q2, .int (Int32.ofInt 0), .ref q3, .int (Int32.ofInt 0), .int (Int32.ofInt 0), .int (Int32.ofInt 0), .int (Int32.ofInt 0), .ref q4, .int (Int32.ofInt 0), .int (Int32.ofInt 0), .int (Int32.ofInt 0), .ref q5, .ref q6, .ref q7, .ref q8, .ref q9, .ref q10, .int (Int32.ofInt 0), .int (Int32.ofInt 0), .int (Int32.ofInt 0), .int (Int32.ofInt 0), .int (Int32.ofInt 0), .ref q11, .int (Int32.ofInt 0), .ref q12, .ref q13, .ref q14, .ref q15, .ref q16, .int (Int32.ofInt 0), .int (Int32.ofInt 0), .ref q17, .int (Int32.ofInt 0), .int (Int32.ofInt 0), .int (Int32.ofInt 0), .int (Int32.ofInt 0), .int (Int32.ofInt (-1)), .ref q18, .ref q19, .int (Int32.ofInt 0), .ref q20, .ref q21, .ref q22, .ref q23, .int (Int32.ofInt 0), .ref q24, .ref q25, .ref q26, .ref q27, .ref q28, .ref q29, .ref q30, .ref q31, .ref q32, .ref q33, .ref q34, .ref q35, .int (Int32.ofInt 0), .int (Int32.ofInt 0), .int (Int32.ofInt 0), .int (Int32.ofInt 0), .ref q36])), (q1, .inl (ct 0, 87, .inl (fun _ => Int32.ofInt 0))), (q2, .inl (ct 0, 522, .inl (fun _ => Int32.ofInt 0))), (q3, .inl (ct 0, 87, .inl (fun _ => Int32.ofInt 0))), (q4, .inl (ct 0, 5, .inl (fun _ => Int32.ofInt 0))), (q5, .inl (ct 0, 6, .inl (fun _ => Int32.ofInt 0))), (q6, .inl (ct 0, 6, .inl (fun _ => Int32.ofInt 0))), (q7, .inl (ct 0, 6, .inl (fun _ => Int32.ofInt 0))), (q8, .inl (ct 0, 6, .inl (fun _ => Int32.ofInt 0))), (q9, .inl (ct 0, 500, .inl (fun _ => Int32.ofInt 0))), (q10, .inl (ct 0, 400, .inl (fun _ => Int32.ofInt 0))), (q11, .inl (ct 0, 178, .inl (cv_f 178))), (q12, .inl (ct 0, 32, .inl (fun _ => Int32.ofInt 0))), (q13, .inl (ct 0, 32, .inl (fun _ => Int32.ofInt 0))), (q14, .inl (ct 0, 32, .inl (fun _ => Int32.ofInt 0))), (q15, .inl (ct 0, 800, .inl (fun _ => Int32.ofInt 0))), (q16, .inl (ct 0, 800, .inl (fun _ => Int32.ofInt 0))), (q17, .inl (ct 0, 40, .inl (fun _ => Int32.ofInt 0))), (q18, .inl (ct 0, 100, .inl (fun _ => Int32.ofInt 0))), (q19, .inl (ct 0, 100, .inl (fun _ => Int32.ofInt 0))), (q20, .inl (ct 0, 5400, .inl (fun _ => Int32.ofInt 0))), (q21, .inl (ct 0, 8, .inl (fun _ => Int32.ofInt 0))), (q22, .inl (ct 0, 4, .inl (fun _ => Int32.ofInt 0))), (q23, .inl (ct 0, 4, .inl (fun _ => Int32.ofInt 0))), (q24, .inl (ct 0, 140, .inl (fun _ => Int32.ofInt 0))), (q25, .inl (ct 0, 280, .inl (fun _ => Int32.ofInt 0))), (q26, .inl (ct 0, 280, .inl (fun _ => Int32.ofInt 0))), (q27, .inl (ct 0, 6, .inl (fun _ => Int32.ofInt 0))), (q28, .inl (ct 0, 9, .inl (fun _ => Int32.ofInt 0))), (q29, .inl (ct 0, 420, .inl (fun _ => Int32.ofInt 0))), (q30, .inl (ct 0, 10, .inl (fun _ => Int32.ofInt 0))), (q31, .inl (ct 2, 6144, .inl (fun _ => Int32.ofInt 0))), (q32, .inl (ct 0, 10240, .inl (fun _ => Int32.ofInt 0))), (q33, .inl (ct 0, 1024, .inl (fun _ => Int32.ofInt 0))), (q34, .inl (ct 0, 65536, .inl (fun _ => Int32.ofInt 0))), (q35, .inl (ct 0, 6, .inl (fun _ => Int32.ofInt 0))), (q36, .inl (ct 0, 7200, .inl (fun _ => Int32.ofInt 0)))] : va_W) = ev_ws layM ct (cv_adM q0 q1 q2 q3 q4 q5 q6 q7 q8 q9 q10 q11 q12 q13 q14 q15 q16 q17 q18 q19 q20 q21 q22 q23 q24 q25 q26 q27 q28 q29 q30 q31 q32 q33 q34 q35 q36) cv_m0 := by
  rw [ev_ws_R]
  rfl
def cw_X12 (ct : Nat → ClassId) (h0 : Nat) (w : va_W) : Prop := ∃ ad : Nat → Nat, ad 0 = h0 ∧ w = ev_ws layM ct ad cv_m0
set_option maxRecDepth 100000 in
set_option maxHeartbeats 40000000 in
theorem ci_X12 {ct : Nat → ClassId} (h0 : Nat) : Cv ct M_X12_init (cv_rm 1 36 100450) 0 (lv_args 0 [.ref h0]) [] [(h0, .inr (12, fs0_X12))] 0 0 36 100450 (cw_X12 ct h0) := by
  show Cv ct M_X12_init (cv_rm 1 36 100450) 0 [(0, .ref h0)] [] [(h0, .inr (12, fs0_X12))] 0 0 36 100450 _
  refine Cv_aload 0 dX12_init_0 rfl rfl ?_
  refine Cv_obj we_1442 we_203 we_objcode dX12_init_1 (Nat.le_of_ble_eq_true rfl) (Nat.le_of_ble_eq_true rfl) ?_
  refine Cv_aload 0 dX12_init_4 rfl rfl ?_
  refine Cv_bipush dX12_init_5 rfl ?_
  refine Cv_newi 87 (Nat.le_of_ble_eq_true rfl) (Nat.le_of_ble_eq_true rfl) (Nat.le_of_ble_eq_true rfl) dX12_init_7 rfl (fun n0 => ?_)
  refine Cv_put (k := 1) (fs' := [.int (Int32.ofInt 0), .ref n0, .null, .int (Int32.ofInt 0), .null, .int (Int32.ofInt 0), .int (Int32.ofInt 0), .int (Int32.ofInt 0), .int (Int32.ofInt 0), .null, .int (Int32.ofInt 0), .int (Int32.ofInt 0), .int (Int32.ofInt 0), .null, .null, .null, .null, .null, .null, .int (Int32.ofInt 0), .int (Int32.ofInt 0), .int (Int32.ofInt 0), .int (Int32.ofInt 0), .int (Int32.ofInt 0), .null, .int (Int32.ofInt 0), .null, .null, .null, .null, .null, .int (Int32.ofInt 0), .int (Int32.ofInt 0), .null, .int (Int32.ofInt 0), .int (Int32.ofInt 0), .int (Int32.ofInt 0), .int (Int32.ofInt 0), .int (Int32.ofInt 0), .null, .null, .int (Int32.ofInt 0), .null, .null, .null, .null, .int (Int32.ofInt 0), .null, .null, .null, .null, .null, .null, .null, .null, .null, .null, .null, .null, .int (Int32.ofInt 0), .int (Int32.ofInt 0), .int (Int32.ofInt 0), .int (Int32.ofInt 0), .null]) cl_X12 (Nat.le_of_ble_eq_true rfl) rfl we_1445 rfl rfl (Nat.le_of_ble_eq_true rfl) rfl dX12_init_9 ?_
  refine Cv_aload 0 dX12_init_12 rfl rfl ?_
  refine Cv_sipush dX12_init_13 rfl ?_
  refine Cv_newi 522 (Nat.le_of_ble_eq_true rfl) (Nat.le_of_ble_eq_true rfl) (Nat.le_of_ble_eq_true rfl) dX12_init_16 rfl (fun n1 => ?_)
  refine Cv_put (k := 2) (fs' := [.int (Int32.ofInt 0), .ref n0, .ref n1, .int (Int32.ofInt 0), .null, .int (Int32.ofInt 0), .int (Int32.ofInt 0), .int (Int32.ofInt 0), .int (Int32.ofInt 0), .null, .int (Int32.ofInt 0), .int (Int32.ofInt 0), .int (Int32.ofInt 0), .null, .null, .null, .null, .null, .null, .int (Int32.ofInt 0), .int (Int32.ofInt 0), .int (Int32.ofInt 0), .int (Int32.ofInt 0), .int (Int32.ofInt 0), .null, .int (Int32.ofInt 0), .null, .null, .null, .null, .null, .int (Int32.ofInt 0), .int (Int32.ofInt 0), .null, .int (Int32.ofInt 0), .int (Int32.ofInt 0), .int (Int32.ofInt 0), .int (Int32.ofInt 0), .int (Int32.ofInt 0), .null, .null, .int (Int32.ofInt 0), .null, .null, .null, .null, .int (Int32.ofInt 0), .null, .null, .null, .null, .null, .null, .null, .null, .null, .null, .null, .null, .int (Int32.ofInt 0), .int (Int32.ofInt 0), .int (Int32.ofInt 0), .int (Int32.ofInt 0), .null]) cl_X12 (Nat.le_of_ble_eq_true rfl) rfl we_1446 rfl rfl (Nat.le_of_ble_eq_true rfl) rfl dX12_init_18 ?_
  refine Cv_aload 0 dX12_init_21 rfl rfl ?_
  refine Cv_bipush dX12_init_22 rfl ?_
  refine Cv_newi 87 (Nat.le_of_ble_eq_true rfl) (Nat.le_of_ble_eq_true rfl) (Nat.le_of_ble_eq_true rfl) dX12_init_24 rfl (fun n2 => ?_)
  refine Cv_put (k := 4) (fs' := [.int (Int32.ofInt 0), .ref n0, .ref n1, .int (Int32.ofInt 0), .ref n2, .int (Int32.ofInt 0), .int (Int32.ofInt 0), .int (Int32.ofInt 0), .int (Int32.ofInt 0), .null, .int (Int32.ofInt 0), .int (Int32.ofInt 0), .int (Int32.ofInt 0), .null, .null, .null, .null, .null, .null, .int (Int32.ofInt 0), .int (Int32.ofInt 0), .int (Int32.ofInt 0), .int (Int32.ofInt 0), .int (Int32.ofInt 0), .null, .int (Int32.ofInt 0), .null, .null, .null, .null, .null, .int (Int32.ofInt 0), .int (Int32.ofInt 0), .null, .int (Int32.ofInt 0), .int (Int32.ofInt 0), .int (Int32.ofInt 0), .int (Int32.ofInt 0), .int (Int32.ofInt 0), .null, .null, .int (Int32.ofInt 0), .null, .null, .null, .null, .int (Int32.ofInt 0), .null, .null, .null, .null, .null, .null, .null, .null, .null, .null, .null, .null, .int (Int32.ofInt 0), .int (Int32.ofInt 0), .int (Int32.ofInt 0), .int (Int32.ofInt 0), .null]) cl_X12 (Nat.le_of_ble_eq_true rfl) rfl we_1448 rfl rfl (Nat.le_of_ble_eq_true rfl) rfl dX12_init_26 ?_
  refine Cv_aload 0 dX12_init_29 rfl rfl ?_
  refine Cv_iconst dX12_init_30 ?_
  refine Cv_newi 5 (Nat.le_of_ble_eq_true rfl) (Nat.le_of_ble_eq_true rfl) (Nat.le_of_ble_eq_true rfl) dX12_init_31 rfl (fun n3 => ?_)
  refine Cv_put (k := 9) (fs' := [.int (Int32.ofInt 0), .ref n0, .ref n1, .int (Int32.ofInt 0), .ref n2, .int (Int32.ofInt 0), .int (Int32.ofInt 0), .int (Int32.ofInt 0), .int (Int32.ofInt 0), .ref n3, .int (Int32.ofInt 0), .int (Int32.ofInt 0), .int (Int32.ofInt 0), .null, .null, .null, .null, .null, .null, .int (Int32.ofInt 0), .int (Int32.ofInt 0), .int (Int32.ofInt 0), .int (Int32.ofInt 0), .int (Int32.ofInt 0), .null, .int (Int32.ofInt 0), .null, .null, .null, .null, .null, .int (Int32.ofInt 0), .int (Int32.ofInt 0), .null, .int (Int32.ofInt 0), .int (Int32.ofInt 0), .int (Int32.ofInt 0), .int (Int32.ofInt 0), .int (Int32.ofInt 0), .null, .null, .int (Int32.ofInt 0), .null, .null, .null, .null, .int (Int32.ofInt 0), .null, .null, .null, .null, .null, .null, .null, .null, .null, .null, .null, .null, .int (Int32.ofInt 0), .int (Int32.ofInt 0), .int (Int32.ofInt 0), .int (Int32.ofInt 0), .null]) cl_X12 (Nat.le_of_ble_eq_true rfl) rfl we_1453 rfl rfl (Nat.le_of_ble_eq_true rfl) rfl dX12_init_33 ?_
  refine Cv_w (w' := (h0, .inr (12, [.int (Int32.ofInt 0), .ref n0, .ref n1, .int (Int32.ofInt 0), .ref n2, .int (Int32.ofInt 0), .int (Int32.ofInt 0), .int (Int32.ofInt 0), .int (Int32.ofInt 0), .ref n3, .int (Int32.ofInt 0), .int (Int32.ofInt 0), .int (Int32.ofInt 0), .null, .null, .null, .null, .null, .null, .int (Int32.ofInt 0), .int (Int32.ofInt 0), .int (Int32.ofInt 0), .int (Int32.ofInt 0), .int (Int32.ofInt 0), .null, .int (Int32.ofInt 0), .null, .null, .null, .null, .null, .int (Int32.ofInt 0), .int (Int32.ofInt 0), .null, .int (Int32.ofInt 0), .int (Int32.ofInt 0), .int (Int32.ofInt 0), .int (Int32.ofInt 0), .int (Int32.ofInt 0), .null, .null, .int (Int32.ofInt 0), .null, .null, .null, .null, .int (Int32.ofInt 0), .null, .null, .null, .null, .null, .null, .null, .null, .null, .null, .null, .null, .int (Int32.ofInt 0), .int (Int32.ofInt 0), .int (Int32.ofInt 0), .int (Int32.ofInt 0), .null])) :: [(n0, .inl (ct 0, 87, .inl (fun _ => Int32.ofInt 0))), (n1, .inl (ct 0, 522, .inl (fun _ => Int32.ofInt 0))), (n2, .inl (ct 0, 87, .inl (fun _ => Int32.ofInt 0))), (n3, .inl (ct 0, 5, .inl (fun _ => Int32.ofInt 0)))]) rfl ?_
  refine Cv_aload 0 dX12_init_36 rfl rfl ?_
  refine Cv_bipush dX12_init_37 rfl ?_
  refine Cv_newi 6 (Nat.le_of_ble_eq_true rfl) (Nat.le_of_ble_eq_true rfl) (Nat.le_of_ble_eq_true rfl) dX12_init_39 rfl (fun n4 => ?_)
  refine Cv_put (k := 13) (fs' := [.int (Int32.ofInt 0), .ref n0, .ref n1, .int (Int32.ofInt 0), .ref n2, .int (Int32.ofInt 0), .int (Int32.ofInt 0), .int (Int32.ofInt 0), .int (Int32.ofInt 0), .ref n3, .int (Int32.ofInt 0), .int (Int32.ofInt 0), .int (Int32.ofInt 0), .ref n4, .null, .null, .null, .null, .null, .int (Int32.ofInt 0), .int (Int32.ofInt 0), .int (Int32.ofInt 0), .int (Int32.ofInt 0), .int (Int32.ofInt 0), .null, .int (Int32.ofInt 0), .null, .null, .null, .null, .null, .int (Int32.ofInt 0), .int (Int32.ofInt 0), .null, .int (Int32.ofInt 0), .int (Int32.ofInt 0), .int (Int32.ofInt 0), .int (Int32.ofInt 0), .int (Int32.ofInt 0), .null, .null, .int (Int32.ofInt 0), .null, .null, .null, .null, .int (Int32.ofInt 0), .null, .null, .null, .null, .null, .null, .null, .null, .null, .null, .null, .null, .int (Int32.ofInt 0), .int (Int32.ofInt 0), .int (Int32.ofInt 0), .int (Int32.ofInt 0), .null]) cl_X12 (Nat.le_of_ble_eq_true rfl) rfl we_1457 rfl rfl (Nat.le_of_ble_eq_true rfl) rfl dX12_init_41 ?_
  refine Cv_aload 0 dX12_init_44 rfl rfl ?_
  refine Cv_bipush dX12_init_45 rfl ?_
  refine Cv_newi 6 (Nat.le_of_ble_eq_true rfl) (Nat.le_of_ble_eq_true rfl) (Nat.le_of_ble_eq_true rfl) dX12_init_47 rfl (fun n5 => ?_)
  refine Cv_put (k := 14) (fs' := [.int (Int32.ofInt 0), .ref n0, .ref n1, .int (Int32.ofInt 0), .ref n2, .int (Int32.ofInt 0), .int (Int32.ofInt 0), .int (Int32.ofInt 0), .int (Int32.ofInt 0), .ref n3, .int (Int32.ofInt 0), .int (Int32.ofInt 0), .int (Int32.ofInt 0), .ref n4, .ref n5, .null, .null, .null, .null, .int (Int32.ofInt 0), .int (Int32.ofInt 0), .int (Int32.ofInt 0), .int (Int32.ofInt 0), .int (Int32.ofInt 0), .null, .int (Int32.ofInt 0), .null, .null, .null, .null, .null, .int (Int32.ofInt 0), .int (Int32.ofInt 0), .null, .int (Int32.ofInt 0), .int (Int32.ofInt 0), .int (Int32.ofInt 0), .int (Int32.ofInt 0), .int (Int32.ofInt 0), .null, .null, .int (Int32.ofInt 0), .null, .null, .null, .null, .int (Int32.ofInt 0), .null, .null, .null, .null, .null, .null, .null, .null, .null, .null, .null, .null, .int (Int32.ofInt 0), .int (Int32.ofInt 0), .int (Int32.ofInt 0), .int (Int32.ofInt 0), .null]) cl_X12 (Nat.le_of_ble_eq_true rfl) rfl we_1458 rfl rfl (Nat.le_of_ble_eq_true rfl) rfl dX12_init_49 ?_
  refine Cv_aload 0 dX12_init_52 rfl rfl ?_
  refine Cv_bipush dX12_init_53 rfl ?_
  refine Cv_newi 6 (Nat.le_of_ble_eq_true rfl) (Nat.le_of_ble_eq_true rfl) (Nat.le_of_ble_eq_true rfl) dX12_init_55 rfl (fun n6 => ?_)
  refine Cv_put (k := 15) (fs' := [.int (Int32.ofInt 0), .ref n0, .ref n1, .int (Int32.ofInt 0), .ref n2, .int (Int32.ofInt 0), .int (Int32.ofInt 0), .int (Int32.ofInt 0), .int (Int32.ofInt 0), .ref n3, .int (Int32.ofInt 0), .int (Int32.ofInt 0), .int (Int32.ofInt 0), .ref n4, .ref n5, .ref n6, .null, .null, .null, .int (Int32.ofInt 0), .int (Int32.ofInt 0), .int (Int32.ofInt 0), .int (Int32.ofInt 0), .int (Int32.ofInt 0), .null, .int (Int32.ofInt 0), .null, .null, .null, .null, .null, .int (Int32.ofInt 0), .int (Int32.ofInt 0), .null, .int (Int32.ofInt 0), .int (Int32.ofInt 0), .int (Int32.ofInt 0), .int (Int32.ofInt 0), .int (Int32.ofInt 0), .null, .null, .int (Int32.ofInt 0), .null, .null, .null, .null, .int (Int32.ofInt 0), .null, .null, .null, .null, .null, .null, .null, .null, .null, .null, .null, .null, .int (Int32.ofInt 0), .int (Int32.ofInt 0), .int (Int32.ofInt 0), .int (Int32.ofInt 0), .null]) cl_X12 (Nat.le_of_ble_eq_true rfl) rfl we_1459 rfl rfl (Nat.le_of_ble_eq_true rfl) rfl dX12_init_57 ?_
  refine Cv_aload 0 dX12_init_60 rfl rfl ?_
  refine Cv_bipush dX12_init_61 rfl ?_
  refine Cv_newi 6 (Nat.le_of_ble_eq_true rfl) (Nat.le_of_ble_eq_true rfl) (Nat.le_of_ble_eq_true rfl) dX12_init_63 rfl (fun n7 => ?_)
  refine Cv_put (k := 16) (fs' := [.int (Int32.ofInt 0), .ref n0, .ref n1, .int (Int32.ofInt 0), .ref n2, .int (Int32.ofInt 0), .int (Int32.ofInt 0), .int (Int32.ofInt 0), .int (Int32.ofInt 0), .ref n3, .int (Int32.ofInt 0), .int (Int32.ofInt 0), .int (Int32.ofInt 0), .ref n4, .ref n5, .ref n6, .ref n7, .null, .null, .int (Int32.ofInt 0), .int (Int32.ofInt 0), .int (Int32.ofInt 0), .int (Int32.ofInt 0), .int (Int32.ofInt 0), .null, .int (Int32.ofInt 0), .null, .null, .null, .null, .null, .int (Int32.ofInt 0), .int (Int32.ofInt 0), .null, .int (Int32.ofInt 0), .int (Int32.ofInt 0), .int (Int32.ofInt 0), .int (Int32.ofInt 0), .int (Int32.ofInt 0), .null, .null, .int (Int32.ofInt 0), .null, .null, .null, .null, .int (Int32.ofInt 0), .null, .null, .null, .null, .null, .null, .null, .null, .null, .null, .null, .null, .int (Int32.ofInt 0), .int (Int32.ofInt 0), .int (Int32.ofInt 0), .int (Int32.ofInt 0), .null]) cl_X12 (Nat.le_of_ble_eq_true rfl) rfl we_1460 rfl rfl (Nat.le_of_ble_eq_true rfl) rfl dX12_init_65 ?_
  refine Cv_w (w' := (h0, .inr (12, [.int (Int32.ofInt 0), .ref n0, .ref n1, .int (Int32.ofInt 0), .ref n2, .int (Int32.ofInt 0), .int (Int32.ofInt 0), .int (Int32.ofInt 0), .int (Int32.ofInt 0), .ref n3, .int (Int32.ofInt 0), .int (Int32.ofInt 0), .int (Int32.ofInt 0), .ref n4, .ref n5, .ref n6, .ref n7, .null, .null, .int (Int32.ofInt 0), .int (Int32.ofInt 0), .int (Int32.ofInt 0), .int (Int32.ofInt 0), .int (Int32.ofInt 0), .null, .int (Int32.ofInt 0), .null, .null, .null, .null, .null, .int (Int32.ofInt 0), .int (Int32.ofInt 0), .null, .int (Int32.ofInt 0), .int (Int32.ofInt 0), .int (Int32.ofInt 0), .int (Int32.ofInt 0), .int (Int32.ofInt 0), .null, .null, .int (Int32.ofInt 0), .null, .null, .null, .null, .int (Int32.ofInt 0), .null, .null, .null, .null, .null, .null, .null, .null, .null, .null, .null, .null, .int (Int32.ofInt 0), .int (Int32.ofInt 0), .int (Int32.ofInt 0), .int (Int32.ofInt 0), .null])) :: [(n0, .inl (ct 0, 87, .inl (fun _ => Int32.ofInt 0))), (n1, .inl (ct 0, 522, .inl (fun _ => Int32.ofInt 0))), (n2, .inl (ct 0, 87, .inl (fun _ => Int32.ofInt 0))), (n3, .inl (ct 0, 5, .inl (fun _ => Int32.ofInt 0))), (n4, .inl (ct 0, 6, .inl (fun _ => Int32.ofInt 0))), (n5, .inl (ct 0, 6, .inl (fun _ => Int32.ofInt 0))), (n6, .inl (ct 0, 6, .inl (fun _ => Int32.ofInt 0))), (n7, .inl (ct 0, 6, .inl (fun _ => Int32.ofInt 0)))]) rfl ?_
  refine Cv_aload 0 dX12_init_68 rfl rfl ?_
  refine Cv_sipush dX12_init_69 rfl ?_
  refine Cv_newi 500 (Nat.le_of_ble_eq_true rfl) (Nat.le_of_ble_eq_true rfl) (Nat.le_of_ble_eq_true rfl) dX12_init_72 rfl (fun n8 => ?_)
  refine Cv_put (k := 17) (fs' := [.int (Int32.ofInt 0), .ref n0, .ref n1, .int (Int32.ofInt 0), .ref n2, .int (Int32.ofInt 0), .int (Int32.ofInt 0), .int (Int32.ofInt 0), .int (Int32.ofInt 0), .ref n3, .int (Int32.ofInt 0), .int (Int32.ofInt 0), .int (Int32.ofInt 0), .ref n4, .ref n5, .ref n6, .ref n7, .ref n8, .null, .int (Int32.ofInt 0), .int (Int32.ofInt 0), .int (Int32.ofInt 0), .int (Int32.ofInt 0), .int (Int32.ofInt 0), .null, .int (Int32.ofInt 0), .null, .null, .null, .null, .null, .int (Int32.ofInt 0), .int (Int32.ofInt 0), .null, .int (Int32.ofInt 0), .int (Int32.ofInt 0), .int (Int32.ofInt 0), .int (Int32.ofInt 0), .int (Int32.ofInt 0), .null, .null, .int (Int32.ofInt 0), .null, .null, .null, .null, .int (Int32.ofInt 0), .null, .null, .null, .null, .null, .null, .null, .null, .null, .null, .null, .null, .int (Int32.ofInt 0), .int (Int32.ofInt 0), .int (Int32.ofInt 0), .int (Int32.ofInt 0), .null]) cl_X12 (Nat.le_of_ble_eq_true rfl) rfl we_1461 rfl rfl (Nat.le_of_ble_eq_true rfl) rfl dX12_init_74 ?_
  refine Cv_aload 0 dX12_init_77 rfl rfl ?_
  refine Cv_sipush dX12_init_78 rfl ?_
  refine Cv_newi 400 (Nat.le_of_ble_eq_true rfl) (Nat.le_of_ble_eq_true rfl) (Nat.le_of_ble_eq_true rfl) dX12_init_81 rfl (fun n9 => ?_)
  refine Cv_put (k := 18) (fs' := [.int (Int32.ofInt 0), .ref n0, .ref n1, .int (Int32.ofInt 0), .ref n2, .int (Int32.ofInt 0), .int (Int32.ofInt 0), .int (Int32.ofInt 0), .int (Int32.ofInt 0), .ref n3, .int (Int32.ofInt 0), .int (Int32.ofInt 0), .int (Int32.ofInt 0), .ref n4, .ref n5, .ref n6, .ref n7, .ref n8, .ref n9, .int (Int32.ofInt 0), .int (Int32.ofInt 0), .int (Int32.ofInt 0), .int (Int32.ofInt 0), .int (Int32.ofInt 0), .null, .int (Int32.ofInt 0), .null, .null, .null, .null, .null, .int (Int32.ofInt 0), .int (Int32.ofInt 0), .null, .int (Int32.ofInt 0), .int (Int32.ofInt 0), .int (Int32.ofInt 0), .int (Int32.ofInt 0), .int (Int32.ofInt 0), .null, .null, .int (Int32.ofInt 0), .null, .null, .null, .null, .int (Int32.ofInt 0), .null, .null, .null, .null, .null, .null, .null, .null, .null, .null, .null, .null, .int (Int32.ofInt 0), .int (Int32.ofInt 0), .int (Int32.ofInt 0), .int (Int32.ofInt 0), .null]) cl_X12 (Nat.le_of_ble_eq_true rfl) rfl we_1462 rfl rfl (Nat.le_of_ble_eq_true rfl) rfl dX12_init_83 ?_
  refine Cv_aload 0 dX12_init_86 rfl rfl ?_
  refine Cv_sipush dX12_init_87 rfl ?_
  refine Cv_newi 178 (Nat.le_of_ble_eq_true rfl) (Nat.le_of_ble_eq_true rfl) (Nat.le_of_ble_eq_true rfl) dX12_init_90 rfl (fun n10 => ?_)
  rw [← cv_f0]
  refine ct_0 ?_
  refine ct_30 ?_
  refine ct_60 ?_
  refine ct_90 ?_
  refine ct_120 ?_
  refine ct_150 ?_
  refine Cv_put (k := 24) (fs' := [.int (Int32.ofInt 0), .ref n0, .ref n1, .int (Int32.ofInt 0), .ref n2, .int (Int32.ofInt 0), .int (Int32.ofInt 0), .int (Int32.ofInt 0), .int (Int32.ofInt 0), .ref n3, .int (Int32.ofInt 0), .int (Int32.ofInt 0), .int (Int32.ofInt 0), .ref n4, .ref n5, .ref n6, .ref n7, .ref n8, .ref n9, .int (Int32.ofInt 0), .int (Int32.ofInt 0), .int (Int32.ofInt 0), .int (Int32.ofInt 0), .int (Int32.ofInt 0), .ref n10, .int (Int32.ofInt 0), .null, .null, .null, .null, .null, .int (Int32.ofInt 0), .int (Int32.ofInt 0), .null, .int (Int32.ofInt 0), .int (Int32.ofInt 0), .int (Int32.ofInt 0), .int (Int32.ofInt 0), .int (Int32.ofInt 0), .null, .null, .int (Int32.ofInt 0), .null, .null, .null, .null, .int (Int32.ofInt 0), .null, .null, .null, .null, .null, .null, .null, .null, .null, .null, .null, .null, .int (Int32.ofInt 0), .int (Int32.ofInt 0), .int (Int32.ofInt 0), .int (Int32.ofInt 0), .null]) cl_X12 (Nat.le_of_ble_eq_true rfl) rfl we_1468 rfl rfl (Nat.le_of_ble_eq_true rfl) rfl dX12_init_1204 ?_
  refine Cv_aload 0 dX12_init_1207 rfl rfl ?_
  refine Cv_bipush dX12_init_1208 rfl ?_
  refine Cv_newi 32 (Nat.le_of_ble_eq_true rfl) (Nat.le_of_ble_eq_true rfl) (Nat.le_of_ble_eq_true rfl) dX12_init_1210 rfl (fun n11 => ?_)
  refine Cv_put (k := 26) (fs' := [.int (Int32.ofInt 0), .ref n0, .ref n1, .int (Int32.ofInt 0), .ref n2, .int (Int32.ofInt 0), .int (Int32.ofInt 0), .int (Int32.ofInt 0), .int (Int32.ofInt 0), .ref n3, .int (Int32.ofInt 0), .int (Int32.ofInt 0), .int (Int32.ofInt 0), .ref n4, .ref n5, .ref n6, .ref n7, .ref n8, .ref n9, .int (Int32.ofInt 0), .int (Int32.ofInt 0), .int (Int32.ofInt 0), .int (Int32.ofInt 0), .int (Int32.ofInt 0), .ref n10, .int (Int32.ofInt 0), .ref n11, .null, .null, .null, .null, .int (Int32.ofInt 0), .int (Int32.ofInt 0), .null, .int (Int32.ofInt 0), .int (Int32.ofInt 0), .int (Int32.ofInt 0), .int (Int32.ofInt 0), .int (Int32.ofInt 0), .null, .null, .int (Int32.ofInt 0), .null, .null, .null, .null, .int (Int32.ofInt 0), .null, .null, .null, .null, .null, .null, .null, .null, .null, .null, .null, .null, .int (Int32.ofInt 0), .int (Int32.ofInt 0), .int (Int32.ofInt 0), .int (Int32.ofInt 0), .null]) cl_X12 (Nat.le_of_ble_eq_true rfl) rfl we_1470 rfl rfl (Nat.le_of_ble_eq_true rfl) rfl dX12_init_1212 ?_
  refine Cv_w (w' := (h0, .inr (12, [.int (Int32.ofInt 0), .ref n0, .ref n1, .int (Int32.ofInt 0), .ref n2, .int (Int32.ofInt 0), .int (Int32.ofInt 0), .int (Int32.ofInt 0), .int (Int32.ofInt 0), .ref n3, .int (Int32.ofInt 0), .int (Int32.ofInt 0), .int (Int32.ofInt 0), .ref n4, .ref n5, .ref n6, .ref n7, .ref n8, .ref n9, .int (Int32.ofInt 0), .int (Int32.ofInt 0), .int (Int32.ofInt 0), .int (Int32.ofInt 0), .int (Int32.ofInt 0), .ref n10, .int (Int32.ofInt 0), .ref n11, .null, .null, .null, .null, .int (Int32.ofInt 0), .int (Int32.ofInt 0), .null, .int (Int32.ofInt 0), .int (Int32.ofInt 0), .int (Int32.ofInt 0), .int (Int32.ofInt 0), .int (Int32.ofInt 0), .null, .null, .int (Int32.ofInt 0), .null, .null, .null, .null, .int (Int32.ofInt 0), .null, .null, .null, .null, .null, .null, .null, .null, .null, .null, .null, .null, .int (Int32.ofInt 0), .int (Int32.ofInt 0), .int (Int32.ofInt 0), .int (Int32.ofInt 0), .null])) :: [(n0, .inl (ct 0, 87, .inl (fun _ => Int32.ofInt 0))), (n1, .inl (ct 0, 522, .inl (fun _ => Int32.ofInt 0))), (n2, .inl (ct 0, 87, .inl (fun _ => Int32.ofInt 0))), (n3, .inl (ct 0, 5, .inl (fun _ => Int32.ofInt 0))), (n4, .inl (ct 0, 6, .inl (fun _ => Int32.ofInt 0))), (n5, .inl (ct 0, 6, .inl (fun _ => Int32.ofInt 0))), (n6, .inl (ct 0, 6, .inl (fun _ => Int32.ofInt 0))), (n7, .inl (ct 0, 6, .inl (fun _ => Int32.ofInt 0))), (n8, .inl (ct 0, 500, .inl (fun _ => Int32.ofInt 0))), (n9, .inl (ct 0, 400, .inl (fun _ => Int32.ofInt 0))), (n10, .inl (ct 0, 178, .inl (cv_f 178))), (n11, .inl (ct 0, 32, .inl (fun _ => Int32.ofInt 0)))]) rfl ?_
  refine Cv_aload 0 dX12_init_1215 rfl rfl ?_
  refine Cv_bipush dX12_init_1216 rfl ?_
  refine Cv_newi 32 (Nat.le_of_ble_eq_true rfl) (Nat.le_of_ble_eq_true rfl) (Nat.le_of_ble_eq_true rfl) dX12_init_1218 rfl (fun n12 => ?_)
  refine Cv_put (k := 27) (fs' := [.int (Int32.ofInt 0), .ref n0, .ref n1, .int (Int32.ofInt 0), .ref n2, .int (Int32.ofInt 0), .int (Int32.ofInt 0), .int (Int32.ofInt 0), .int (Int32.ofInt 0), .ref n3, .int (Int32.ofInt 0), .int (Int32.ofInt 0), .int (Int32.ofInt 0), .ref n4, .ref n5, .ref n6, .ref n7, .ref n8, .ref n9, .int (Int32.ofInt 0), .int (Int32.ofInt 0), .int (Int32.ofInt 0), .int (Int32.ofInt 0), .int (Int32.ofInt 0), .ref n10, .int (Int32.ofInt 0), .ref n11, .ref n12, .null, .null, .null, .int (Int32.ofInt 0), .int (Int32.ofInt 0), .null, .int (Int32.ofInt 0), .int (Int32.ofInt 0), .int (Int32.ofInt 0), .int (Int32.ofInt 0), .int (Int32.ofInt 0), .null, .null, .int (Int32.ofInt 0), .null, .null, .null, .null, .int (Int32.ofInt 0), .null, .null, .null, .null, .null, .null, .null, .null, .null, .null, .null, .null, .int (Int32.ofInt 0), .int (Int32.ofInt 0), .int (Int32.ofInt 0), .int (Int32.ofInt 0), .null]) cl_X12 (Nat.le_of_ble_eq_true rfl) rfl we_1471 rfl rfl (Nat.le_of_ble_eq_true rfl) rfl dX12_init_1220 ?_
  refine Cv_aload 0 dX12_init_1223 rfl rfl ?_
  refine Cv_bipush dX12_init_1224 rfl ?_
  refine Cv_newi 32 (Nat.le_of_ble_eq_true rfl) (Nat.le_of_ble_eq_true rfl) (Nat.le_of_ble_eq_true rfl) dX12_init_1226 rfl (fun n13 => ?_)
  refine Cv_put (k := 28) (fs' := [.int (Int32.ofInt 0), .ref n0, .ref n1, .int (Int32.ofInt 0), .ref n2, .int (Int32.ofInt 0), .int (Int32.ofInt 0), .int (Int32.ofInt 0), .int (Int32.ofInt 0), .ref n3, .int (Int32.ofInt 0), .int (Int32.ofInt 0), .int (Int32.ofInt 0), .ref n4, .ref n5, .ref n6, .ref n7, .ref n8, .ref n9, .int (Int32.ofInt 0), .int (Int32.ofInt 0), .int (Int32.ofInt 0), .int (Int32.ofInt 0), .int (Int32.ofInt 0), .ref n10, .int (Int32.ofInt 0), .ref n11, .ref n12, .ref n13, .null, .null, .int (Int32.ofInt 0), .int (Int32.ofInt 0), .null, .int (Int32.ofInt 0), .int (Int32.ofInt 0), .int (Int32.ofInt 0), .int (Int32.ofInt 0), .int (Int32.ofInt 0), .null, .null, .int (Int32.ofInt 0), .null, .null, .null, .null, .int (Int32.ofInt 0), .null, .null, .null, .null, .null, .null, .null, .null, .null, .null, .null, .null, .int (Int32.ofInt 0), .int (Int32.ofInt 0), .int (Int32.ofInt 0), .int (Int32.ofInt 0), .null]) cl_X12 (Nat.le_of_ble_eq_true rfl) rfl we_1472 rfl rfl (Nat.le_of_ble_eq_true rfl) rfl dX12_init_1228 ?_
  refine Cv_aload 0 dX12_init_1231 rfl rfl ?_
  refine Cv_sipush dX12_init_1232 rfl ?_
  refine Cv_newi 800 (Nat.le_of_ble_eq_true rfl) (Nat.le_of_ble_eq_true rfl) (Nat.le_of_ble_eq_true rfl) dX12_init_1235 rfl (fun n14 => ?_)
  refine Cv_put (k := 29) (fs' := [.int (Int32.ofInt 0), .ref n0, .ref n1, .int (Int32.ofInt 0), .ref n2, .int (Int32.ofInt 0), .int (Int32.ofInt 0), .int (Int32.ofInt 0), .int (Int32.ofInt 0), .ref n3, .int (Int32.ofInt 0), .int (Int32.ofInt 0), .int (Int32.ofInt 0), .ref n4, .ref n5, .ref n6, .ref n7, .ref n8, .ref n9, .int (Int32.ofInt 0), .int (Int32.ofInt 0), .int (Int32.ofInt 0), .int (Int32.ofInt 0), .int (Int32.ofInt 0), .ref n10, .int (Int32.ofInt 0), .ref n11, .ref n12, .ref n13, .ref n14, .null, .int (Int32.ofInt 0), .int (Int32.ofInt 0), .null, .int (Int32.ofInt 0), .int (Int32.ofInt 0), .int (Int32.ofInt 0), .int (Int32.ofInt 0), .int (Int32.ofInt 0), .null, .null, .int (Int32.ofInt 0), .null, .null, .null, .null, .int (Int32.ofInt 0), .null, .null, .null, .null, .null, .null, .null, .null, .null, .null, .null, .null, .int (Int32.ofInt 0), .int (Int32.ofInt 0), .int (Int32.ofInt 0), .int (Int32.ofInt 0), .null]) cl_X12 (Nat.le_of_ble_eq_true rfl) rfl we_1473 rfl rfl (Nat.le_of_ble_eq_true rfl) rfl dX12_init_1237 ?_
  refine Cv_aload 0 dX12_init_1240 rfl rfl ?_
  refine Cv_sipush dX12_init_1241 rfl ?_
  refine Cv_newi 800 (Nat.le_of_ble_eq_true rfl) (Nat.le_of_ble_eq_true rfl) (Nat.le_of_ble_eq_true rfl) dX12_init_1244 rfl (fun n15 => ?_)
  refine Cv_put (k := 30) (fs' := [.int (Int32.ofInt 0), .ref n0, .ref n1, .int (Int32.ofInt 0), .ref n2, .int (Int32.ofInt 0), .int (Int32.ofInt 0), .int (Int32.ofInt 0), .int (Int32.ofInt 0), .ref n3, .int (Int32.ofInt 0), .int (Int32.ofInt 0), .int (Int32.ofInt 0), .ref n4, .ref n5, .ref n6, .ref n7, .ref n8, .ref n9, .int (Int32.ofInt 0), .int (Int32.ofInt 0), .int (Int32.ofInt 0), .int (Int32.ofInt 0), .int (Int32.ofInt 0), .ref n10, .int (Int32.ofInt 0), .ref n11, .ref n12, .ref n13, .ref n14, .ref n15, .int (Int32.ofInt 0), .int (Int32.ofInt 0), .null, .int (Int32.ofInt 0), .int (Int32.ofInt 0), .int (Int32.ofInt 0), .int (Int32.ofInt 0), .int (Int32.ofInt 0), .null, .null, .int (Int32.ofInt 0), .null, .null, .null, .null, .int (Int32.ofInt 0), .null, .null, .null, .null, .null, .null, .null, .null, .null, .null, .null, .null, .int (Int32.ofInt 0), .int (Int32.ofInt 0), .int (Int32.ofInt 0), .int (Int32.ofInt 0), .null]) cl_X12 (Nat.le_of_ble_eq_true rfl) rfl we_1474 rfl rfl (Nat.le_of_ble_eq_true rfl) rfl dX12_init_1246 ?_
  refine Cv_w (w' := (h0, .inr (12, [.int (Int32.ofInt 0), .ref n0, .ref n1, .int (Int32.ofInt 0), .ref n2, .int (Int32.ofInt 0), .int (Int32.ofInt 0), .int (Int32.ofInt 0), .int (Int32.ofInt 0), .ref n3, .int (Int32.ofInt 0), .int (Int32.ofInt 0), .int (Int32.ofInt 0), .ref n4, .ref n5, .ref n6, .ref n7, .ref n8, .ref n9, .int (Int32.ofInt 0), .int (Int32.ofInt 0), .int (Int32.ofInt 0), .int (Int32.ofInt 0), .int (Int32.ofInt 0), .ref n10, .int (Int32.ofInt 0), .ref n11, .ref n12, .ref n13, .ref n14, .ref n15, .int (Int32.ofInt 0), .int (Int32.ofInt 0), .null, .int (Int32.ofInt 0), .int (Int32.ofInt 0), .int (Int32.ofInt 0), .int (Int32.ofInt 0), .int (Int32.ofInt 0), .null, .null, .int (Int32.ofInt 0), .null, .null, .null, .null, .int (Int32.ofInt 0), .null, .null, .null, .null, .null, .null, .null, .null, .null, .null, .null, .null, .int (Int32.ofInt 0), .int (Int32.ofInt 0), .int (Int32.ofInt 0), .int (Int32.ofInt 0), .null])) :: [(n0, .inl (ct 0, 87, .inl (fun _ => Int32.ofInt 0))), (n1, .inl (ct 0, 522, .inl (fun _ => Int32.ofInt 0))), (n2, .inl (ct 0, 87, .inl (fun _ => Int32.ofInt 0))), (n3, .inl (ct 0, 5, .inl (fun _ => Int32.ofInt 0))), (n4, .inl (ct 0, 6, .inl (fun _ => Int32.ofInt 0))), (n5, .inl (ct 0, 6, .inl (fun _ => Int32.ofInt 0))), (n6, .inl (ct 0, 6, .inl (fun _ => Int32.ofInt 0))), (n7, .inl (ct 0, 6, .inl (fun _ => Int32.ofInt 0))), (n8, .inl (ct 0, 500, .inl (fun _ => Int32.ofInt 0))), (n9, .inl (ct 0, 400, .inl (fun _ => Int32.ofInt 0))), (n10, .inl (ct 0, 178, .inl (cv_f 178))), (n11, .inl (ct 0, 32, .inl (fun _ => Int32.ofInt 0))), (n12, .inl (ct 0, 32, .inl (fun _ => Int32.ofInt 0))), (n13, .inl (ct 0, 32, .inl (fun _ => Int32.ofInt 0))), (n14, .inl (ct 0, 800, .inl (fun _ => Int32.ofInt 0))), (n15, .inl (ct 0, 800, .inl (fun _ => Int32.ofInt 0)))]) rfl ?_
  refine Cv_aload 0 dX12_init_1249 rfl rfl ?_
  refine Cv_bipush dX12_init_1250 rfl ?_
  refine Cv_newi 40 (Nat.le_of_ble_eq_true rfl) (Nat.le_of_ble_eq_true rfl) (Nat.le_of_ble_eq_true rfl) dX12_init_1252 rfl (fun n16 => ?_)
  refine Cv_put (k := 33) (fs' := [.int (Int32.ofInt 0), .ref n0, .ref n1, .int (Int32.ofInt 0), .ref n2, .int (Int32.ofInt 0), .int (Int32.ofInt 0), .int (Int32.ofInt 0), .int (Int32.ofInt 0), .ref n3, .int (Int32.ofInt 0), .int (Int32.ofInt 0), .int (Int32.ofInt 0), .ref n4, .ref n5, .ref n6, .ref n7, .ref n8, .ref n9, .int (Int32.ofInt 0), .int (Int32.ofInt 0), .int (Int32.ofInt 0), .int (Int32.ofInt 0), .int (Int32.ofInt 0), .ref n10, .int (Int32.ofInt 0), .ref n11, .ref n12, .ref n13, .ref n14, .ref n15, .int (Int32.ofInt 0), .int (Int32.ofInt 0), .ref n16, .int (Int32.ofInt 0), .int (Int32.ofInt 0), .int (Int32.ofInt 0), .int (Int32.ofInt 0), .int (Int32.ofInt 0), .null, .null, .int (Int32.ofInt 0), .null, .null, .null, .null, .int (Int32.ofInt 0), .null, .null, .null, .null, .null, .null, .null, .null, .null, .null, .null, .null, .int (Int32.ofInt 0), .int (Int32.ofInt 0), .int (Int32.ofInt 0), .int (Int32.ofInt 0), .null]) cl_X12 (Nat.le_of_ble_eq_true rfl) rfl we_1477 rfl rfl (Nat.le_of_ble_eq_true rfl) rfl dX12_init_1254 ?_
  refine Cv_aload 0 dX12_init_1257 rfl rfl ?_
  refine Cv_iconst dX12_init_1258 ?_
  refine Cv_put (k := 38) (fs' := [.int (Int32.ofInt 0), .ref n0, .ref n1, .int (Int32.ofInt 0), .ref n2, .int (Int32.ofInt 0), .int (Int32.ofInt 0), .int (Int32.ofInt 0), .int (Int32.ofInt 0), .ref n3, .int (Int32.ofInt 0), .int (Int32.ofInt 0), .int (Int32.ofInt 0), .ref n4, .ref n5, .ref n6, .ref n7, .ref n8, .ref n9, .int (Int32.ofInt 0), .int (Int32.ofInt 0), .int (Int32.ofInt 0), .int (Int32.ofInt 0), .int (Int32.ofInt 0), .ref n10, .int (Int32.ofInt 0), .ref n11, .ref n12, .ref n13, .ref n14, .ref n15, .int (Int32.ofInt 0), .int (Int32.ofInt 0), .ref n16, .int (Int32.ofInt 0), .int (Int32.ofInt 0), .int (Int32.ofInt 0), .int (Int32.ofInt 0), .int (Int32.ofInt (-1)), .null, .null, .int (Int32.ofInt 0), .null, .null, .null, .null, .int (Int32.ofInt 0), .null, .null, .null, .null, .null, .null, .null, .null, .null, .null, .null, .null, .int (Int32.ofInt 0), .int (Int32.ofInt 0), .int (Int32.ofInt 0), .int (Int32.ofInt 0), .null]) cl_X12 (Nat.le_of_ble_eq_true rfl) rfl we_1482 rfl rfl (Nat.le_of_ble_eq_true rfl) rfl dX12_init_1259 ?_
  refine Cv_aload 0 dX12_init_1262 rfl rfl ?_
  refine Cv_bipush dX12_init_1263 rfl ?_
  refine Cv_newi 100 (Nat.le_of_ble_eq_true rfl) (Nat.le_of_ble_eq_true rfl) (Nat.le_of_ble_eq_true rfl) dX12_init_1265 rfl (fun n17 => ?_)
  refine Cv_put (k := 39) (fs' := [.int (Int32.ofInt 0), .ref n0, .ref n1, .int (Int32.ofInt 0), .ref n2, .int (Int32.ofInt 0), .int (Int32.ofInt 0), .int (Int32.ofInt 0), .int (Int32.ofInt 0), .ref n3, .int (Int32.ofInt 0), .int (Int32.ofInt 0), .int (Int32.ofInt 0), .ref n4, .ref n5, .ref n6, .ref n7, .ref n8, .ref n9, .int (Int32.ofInt 0), .int (Int32.ofInt 0), .int (Int32.ofInt 0), .int (Int32.ofInt 0), .int (Int32.ofInt 0), .ref n10, .int (Int32.ofInt 0), .ref n11, .ref n12, .ref n13, .ref n14, .ref n15, .int (Int32.ofInt 0), .int (Int32.ofInt 0), .ref n16, .int (Int32.ofInt 0), .int (Int32.ofInt 0), .int (Int32.ofInt 0), .int (Int32.ofInt 0), .int (Int32.ofInt (-1)), .ref n17, .null, .int (Int32.ofInt 0), .null, .null, .null, .null, .int (Int32.ofInt 0), .null, .null, .null, .null, .null, .null, .null, .null, .null, .null, .null, .null, .int (Int32.ofInt 0), .int (Int32.ofInt 0), .int (Int32.ofInt 0), .int (Int32.ofInt 0), .null]) cl_X12 (Nat.le_of_ble_eq_true rfl) rfl we_1483 rfl rfl (Nat.le_of_ble_eq_true rfl) rfl dX12_init_1267 ?_
  refine Cv_aload 0 dX12_init_1270 rfl rfl ?_
  refine Cv_bipush dX12_init_1271 rfl ?_
  refine Cv_newi 100 (Nat.le_of_ble_eq_true rfl) (Nat.le_of_ble_eq_true rfl) (Nat.le_of_ble_eq_true rfl) dX12_init_1273 rfl (fun n18 => ?_)
  refine Cv_put (k := 40) (fs' := [.int (Int32.ofInt 0), .ref n0, .ref n1, .int (Int32.ofInt 0), .ref n2, .int (Int32.ofInt 0), .int (Int32.ofInt 0), .int (Int32.ofInt 0), .int (Int32.ofInt 0), .ref n3, .int (Int32.ofInt 0), .int (Int32.ofInt 0), .int (Int32.ofInt 0), .ref n4, .ref n5, .ref n6, .ref n7, .ref n8, .ref n9, .int (Int32.ofInt 0), .int (Int32.ofInt 0), .int (Int32.ofInt 0), .int (Int32.ofInt 0), .int (Int32.ofInt 0), .ref n10, .int (Int32.ofInt 0), .ref n11, .ref n12, .ref n13, .ref n14, .ref n15, .int (Int32.ofInt 0), .int (Int32.ofInt 0), .ref n16, .int (Int32.ofInt 0), .int (Int32.ofInt 0), .int (Int32.ofInt 0), .int (Int32.ofInt 0), .int (Int32.ofInt (-1)), .ref n17, .ref n18, .int (Int32.ofInt 0), .null, .null, .null, .null, .int (Int32.ofInt 0), .null, .null, .null, .null, .null, .null, .null, .null, .null, .null, .null, .null, .int (Int32.ofInt 0), .int (Int32.ofInt 0), .int (Int32.ofInt 0), .int (Int32.ofInt 0), .null]) cl_X12 (Nat.le_of_ble_eq_true rfl) rfl we_1484 rfl rfl (Nat.le_of_ble_eq_true rfl) rfl dX12_init_1275 ?_
  refine Cv_aload 0 dX12_init_1278 rfl rfl ?_
  refine Cv_sipush dX12_init_1279 rfl ?_
  refine Cv_newi 5400 (Nat.le_of_ble_eq_true rfl) (Nat.le_of_ble_eq_true rfl) (Nat.le_of_ble_eq_true rfl) dX12_init_1282 rfl (fun n19 => ?_)
  refine Cv_put (k := 42) (fs' := [.int (Int32.ofInt 0), .ref n0, .ref n1, .int (Int32.ofInt 0), .ref n2, .int (Int32.ofInt 0), .int (Int32.ofInt 0), .int (Int32.ofInt 0), .int (Int32.ofInt 0), .ref n3, .int (Int32.ofInt 0), .int (Int32.ofInt 0), .int (Int32.ofInt 0), .ref n4, .ref n5, .ref n6, .ref n7, .ref n8, .ref n9, .int (Int32.ofInt 0), .int (Int32.ofInt 0), .int (Int32.ofInt 0), .int (Int32.ofInt 0), .int (Int32.ofInt 0), .ref n10, .int (Int32.ofInt 0), .ref n11, .ref n12, .ref n13, .ref n14, .ref n15, .int (Int32.ofInt 0), .int (Int32.ofInt 0), .ref n16, .int (Int32.ofInt 0), .int (Int32.ofInt 0), .int (Int32.ofInt 0), .int (Int32.ofInt 0), .int (Int32.ofInt (-1)), .ref n17, .ref n18, .int (Int32.ofInt 0), .ref n19, .null, .null, .null, .int (Int32.ofInt 0), .null, .null, .null, .null, .null, .null, .null, .null, .null, .null, .null, .null, .int (Int32.ofInt 0), .int (Int32.ofInt 0), .int (Int32.ofInt 0), .int (Int32.ofInt 0), .null]) cl_X12 (Nat.le_of_ble_eq_true rfl) rfl we_1486 rfl rfl (Nat.le_of_ble_eq_true rfl) rfl dX12_init_1284 ?_
  refine Cv_w (w' := (h0, .inr (12, [.int (Int32.ofInt 0), .ref n0, .ref n1, .int (Int32.ofInt 0), .ref n2, .int (Int32.ofInt 0), .int (Int32.ofInt 0), .int (Int32.ofInt 0), .int (Int32.ofInt 0), .ref n3, .int (Int32.ofInt 0), .int (Int32.ofInt 0), .int (Int32.ofInt 0), .ref n4, .ref n5, .ref n6, .ref n7, .ref n8, .ref n9, .int (Int32.ofInt 0), .int (Int32.ofInt 0), .int (Int32.ofInt 0), .int (Int32.ofInt 0), .int (Int32.ofInt 0), .ref n10, .int (Int32.ofInt 0), .ref n11, .ref n12, .ref n13, .ref n14, .ref n15, .int (Int32.ofInt 0), .int (Int32.ofInt 0), .ref n16, .int (Int32.ofInt 0), .int (Int32.ofInt 0), .int (Int32.ofInt 0), .int (Int32.ofInt 0), .int (Int32.ofInt (-1)), .ref n17, .ref n18, .int (Int32.ofInt 0), .ref n19, .null, .null, .null, .int (Int32.ofInt 0), .null, .null, .null, .null, .null, .null, .null, .null, .null, .null, .null, .null, .int (Int32.ofInt 0), .int (Int32.ofInt 0), .int (Int32.ofInt 0), .int (Int32.ofInt 0), .null])) :: [(n0, .inl (ct 0, 87, .inl (fun _ => Int32.ofInt 0))), (n1, .inl (ct 0, 522, .inl (fun _ => Int32.ofInt 0))), (n2, .inl (ct 0, 87, .inl (fun _ => Int32.ofInt 0))), (n3, .inl (ct 0, 5, .inl (fun _ => Int32.ofInt 0))), (n4, .inl (ct 0, 6, .inl (fun _ => Int32.ofInt 0))), (n5, .inl (ct 0, 6, .inl (fun _ => Int32.ofInt 0))), (n6, .inl (ct 0, 6, .inl (fun _ => Int32.ofInt 0))), (n7, .inl (ct 0, 6, .inl (fun _ => Int32.ofInt 0))), (n8, .inl (ct 0, 500, .inl (fun _ => Int32.ofInt 0))), (n9, .inl (ct 0, 400, .inl (fun _ => Int32.ofInt 0))), (n10, .inl (ct 0, 178, .inl (cv_f 178))), (n11, .inl (ct 0, 32, .inl (fun _ => Int32.ofInt 0))), (n12, .inl (ct 0, 32, .inl (fun _ => Int32.ofInt 0))), (n13, .inl (ct 0, 32, .inl (fun _ => Int32.ofInt 0))), (n14, .inl (ct 0, 800, .inl (fun _ => Int32.ofInt 0))), (n15, .inl (ct 0, 800, .inl (fun _ => Int32.ofInt 0))), (n16, .inl (ct 0, 40, .inl (fun _ => Int32.ofInt 0))), (n17, .inl (ct 0, 100, .inl (fun _ => Int32.ofInt 0))), (n18, .inl (ct 0, 100, .inl (fun _ => Int32.ofInt 0))), (n19, .inl (ct 0, 5400, .inl (fun _ => Int32.ofInt 0)))]) rfl ?_
  refine Cv_aload 0 dX12_init_1287 rfl rfl ?_
  refine Cv_bipush dX12_init_1288 rfl ?_
  refine Cv_newi 8 (Nat.le_of_ble_eq_true rfl) (Nat.le_of_ble_eq_true rfl) (Nat.le_of_ble_eq_true rfl) dX12_init_1290 rfl (fun n20 => ?_)
  refine Cv_put (k := 43) (fs' := [.int (Int32.ofInt 0), .ref n0, .ref n1, .int (Int32.ofInt 0), .ref n2, .int (Int32.ofInt 0), .int (Int32.ofInt 0), .int (Int32.ofInt 0), .int (Int32.ofInt 0), .ref n3, .int (Int32.ofInt 0), .int (Int32.ofInt 0), .int (Int32.ofInt 0), .ref n4, .ref n5, .ref n6, .ref n7, .ref n8, .ref n9, .int (Int32.ofInt 0), .int (Int32.ofInt 0), .int (Int32.ofInt 0), .int (Int32.ofInt 0), .int (Int32.ofInt 0), .ref n10, .int (Int32.ofInt 0), .ref n11, .ref n12, .ref n13, .ref n14, .ref n15, .int (Int32.ofInt 0), .int (Int32.ofInt 0), .ref n16, .int (Int32.ofInt 0), .int (Int32.ofInt 0), .int (Int32.ofInt 0), .int (Int32.ofInt 0), .int (Int32.ofInt (-1)), .ref n17, .ref n18, .int (Int32.ofInt 0), .ref n19, .ref n20, .null, .null, .int (Int32.ofInt 0), .null, .null, .null, .null, .null, .null, .null, .null, .null, .null, .null, .null, .int (Int32.ofInt 0), .int (Int32.ofInt 0), .int (Int32.ofInt 0), .int (Int32.ofInt 0), .null]) cl_X12 (Nat.le_of_ble_eq_true rfl) rfl we_1487 rfl rfl (Nat.le_of_ble_eq_true rfl) rfl dX12_init_1292 ?_
  refine Cv_aload 0 dX12_init_1295 rfl rfl ?_
  refine Cv_iconst dX12_init_1296 ?_
  refine Cv_newi 4 (Nat.le_of_ble_eq_true rfl) (Nat.le_of_ble_eq_true rfl) (Nat.le_of_ble_eq_true rfl) dX12_init_1297 rfl (fun n21 => ?_)
  refine Cv_put (k := 44) (fs' := [.int (Int32.ofInt 0), .ref n0, .ref n1, .int (Int32.ofInt 0), .ref n2, .int (Int32.ofInt 0), .int (Int32.ofInt 0), .int (Int32.ofInt 0), .int (Int32.ofInt 0), .ref n3, .int (Int32.ofInt 0), .int (Int32.ofInt 0), .int (Int32.ofInt 0), .ref n4, .ref n5, .ref n6, .ref n7, .ref n8, .ref n9, .int (Int32.ofInt 0), .int (Int32.ofInt 0), .int (Int32.ofInt 0), .int (Int32.ofInt 0), .int (Int32.ofInt 0), .ref n10, .int (Int32.ofInt 0), .ref n11, .ref n12, .ref n13, .ref n14, .ref n15, .int (Int32.ofInt 0), .int (Int32.ofInt 0), .ref n16, .int (Int32.ofInt 0), .int (Int32.ofInt 0), .int (Int32.ofInt 0), .int (Int32.ofInt 0), .int (Int32.ofInt (-1)), .ref n17, .ref n18, .int (Int32.ofInt 0), .ref n19, .ref n20, .ref n21, .null, .int (Int32.ofInt 0), .null, .null, .null, .null, .null, .null, .null, .null, .null, .null, .null, .null, .int (Int32.ofInt 0), .int (Int32.ofInt 0), .int (Int32.ofInt 0), .int (Int32.ofInt 0), .null]) cl_X12 (Nat.le_of_ble_eq_true rfl) rfl we_1488 rfl rfl (Nat.le_of_ble_eq_true rfl) rfl dX12_init_1299 ?_
  refine Cv_aload 0 dX12_init_1302 rfl rfl ?_
  refine Cv_iconst dX12_init_1303 ?_
  refine Cv_newi 4 (Nat.le_of_ble_eq_true rfl) (Nat.le_of_ble_eq_true rfl) (Nat.le_of_ble_eq_true rfl) dX12_init_1304 rfl (fun n22 => ?_)
  refine Cv_put (k := 45) (fs' := [.int (Int32.ofInt 0), .ref n0, .ref n1, .int (Int32.ofInt 0), .ref n2, .int (Int32.ofInt 0), .int (Int32.ofInt 0), .int (Int32.ofInt 0), .int (Int32.ofInt 0), .ref n3, .int (Int32.ofInt 0), .int (Int32.ofInt 0), .int (Int32.ofInt 0), .ref n4, .ref n5, .ref n6, .ref n7, .ref n8, .ref n9, .int (Int32.ofInt 0), .int (Int32.ofInt 0), .int (Int32.ofInt 0), .int (Int32.ofInt 0), .int (Int32.ofInt 0), .ref n10, .int (Int32.ofInt 0), .ref n11, .ref n12, .ref n13, .ref n14, .ref n15, .int (Int32.ofInt 0), .int (Int32.ofInt 0), .ref n16, .int (Int32.ofInt 0), .int (Int32.ofInt 0), .int (Int32.ofInt 0), .int (Int32.ofInt 0), .int (Int32.ofInt (-1)), .ref n17, .ref n18, .int (Int32.ofInt 0), .ref n19, .ref n20, .ref n21, .ref n22, .int (Int32.ofInt 0), .null, .null, .null, .null, .null, .null, .null, .null, .null, .null, .null, .null, .int (Int32.ofInt 0), .int (Int32.ofInt 0), .int (Int32.ofInt 0), .int (Int32.ofInt 0), .null]) cl_X12 (Nat.le_of_ble_eq_true rfl) rfl we_1489 rfl rfl (Nat.le_of_ble_eq_true rfl) rfl dX12_init_1306 ?_
  refine Cv_aload 0 dX12_init_1309 rfl rfl ?_
  refine Cv_sipush dX12_init_1310 rfl ?_
  refine Cv_newi 140 (Nat.le_of_ble_eq_true rfl) (Nat.le_of_ble_eq_true rfl) (Nat.le_of_ble_eq_true rfl) dX12_init_1313 rfl (fun n23 => ?_)
  refine Cv_put (k := 47) (fs' := [.int (Int32.ofInt 0), .ref n0, .ref n1, .int (Int32.ofInt 0), .ref n2, .int (Int32.ofInt 0), .int (Int32.ofInt 0), .int (Int32.ofInt 0), .int (Int32.ofInt 0), .ref n3, .int (Int32.ofInt 0), .int (Int32.ofInt 0), .int (Int32.ofInt 0), .ref n4, .ref n5, .ref n6, .ref n7, .ref n8, .ref n9, .int (Int32.ofInt 0), .int (Int32.ofInt 0), .int (Int32.ofInt 0), .int (Int32.ofInt 0), .int (Int32.ofInt 0), .ref n10, .int (Int32.ofInt 0), .ref n11, .ref n12, .ref n13, .ref n14, .ref n15, .int (Int32.ofInt 0), .int (Int32.ofInt 0), .ref n16, .int (Int32.ofInt 0), .int (Int32.ofInt 0), .int (Int32.ofInt 0), .int (Int32.ofInt 0), .int (Int32.ofInt (-1)), .ref n17, .ref n18, .int (Int32.ofInt 0), .ref n19, .ref n20, .ref n21, .ref n22, .int (Int32.ofInt 0), .ref n23, .null, .null, .null, .null, .null, .null, .null, .null, .null, .null, .null, .int (Int32.ofInt 0), .int (Int32.ofInt 0), .int (Int32.ofInt 0), .int (Int32.ofInt 0), .null]) cl_X12 (Nat.le_of_ble_eq_true rfl) rfl we_1491 rfl rfl (Nat.le_of_ble_eq_true rfl) rfl dX12_init_1315 ?_
  refine Cv_w (w' := (h0, .inr (12, [.int (Int32.ofInt 0), .ref n0, .ref n1, .int (Int32.ofInt 0), .ref n2, .int (Int32.ofInt 0), .int (Int32.ofInt 0), .int (Int32.ofInt 0), .int (Int32.ofInt 0), .ref n3, .int (Int32.ofInt 0), .int (Int32.ofInt 0), .int (Int32.ofInt 0), .ref n4, .ref n5, .ref n6, .ref n7, .ref n8, .ref n9, .int (Int32.ofInt 0), .int (Int32.ofInt 0), .int (Int32.ofInt 0), .int (Int32.ofInt 0), .int (Int32.ofInt 0), .ref n10, .int (Int32.ofInt 0), .ref n11, .ref n12, .ref n13, .ref n14, .ref n15, .int (Int32.ofInt 0), .int (Int32.ofInt 0), .ref n16, .int (Int32.ofInt 0), .int (Int32.ofInt 0), .int (Int32.ofInt 0), .int (Int32.ofInt 0), .int (Int32.ofInt (-1)), .ref n17, .ref n18, .int (Int32.ofInt 0), .ref n19, .ref n20, .ref n21, .ref n22, .int (Int32.ofInt 0), .ref n23, .null, .null, .null, .null, .null, .null, .null, .null, .null, .null, .null, .int (Int32.ofInt 0), .int (Int32.ofInt 0), .int (Int32.ofInt 0), .int (Int32.ofInt 0), .null])) :: [(n0, .inl (ct 0, 87, .inl (fun _ => Int32.ofInt 0))), (n1, .inl (ct 0, 522, .inl (fun _ => Int32.ofInt 0))), (n2, .inl (ct 0, 87, .inl (fun _ => Int32.ofInt 0))), (n3, .inl (ct 0, 5, .inl (fun _ => Int32.ofInt 0))), (n4, .inl (ct 0, 6, .inl (fun _ => Int32.ofInt 0))), (n5, .inl (ct 0, 6, .inl (fun _ => Int32.ofInt 0))), (n6, .inl (ct 0, 6, .inl (fun _ => Int32.ofInt 0))), (n7, .inl (ct 0, 6, .inl (fun _ => Int32.ofInt 0))), (n8, .inl (ct 0, 500, .inl (fun _ => Int32.ofInt 0))), (n9, .inl (ct 0, 400, .inl (fun _ => Int32.ofInt 0))), (n10, .inl (ct 0, 178, .inl (cv_f 178))), (n11, .inl (ct 0, 32, .inl (fun _ => Int32.ofInt 0))), (n12, .inl (ct 0, 32, .inl (fun _ => Int32.ofInt 0))), (n13, .inl (ct 0, 32, .inl (fun _ => Int32.ofInt 0))), (n14, .inl (ct 0, 800, .inl (fun _ => Int32.ofInt 0))), (n15, .inl (ct 0, 800, .inl (fun _ => Int32.ofInt 0))), (n16, .inl (ct 0, 40, .inl (fun _ => Int32.ofInt 0))), (n17, .inl (ct 0, 100, .inl (fun _ => Int32.ofInt 0))), (n18, .inl (ct 0, 100, .inl (fun _ => Int32.ofInt 0))), (n19, .inl (ct 0, 5400, .inl (fun _ => Int32.ofInt 0))), (n20, .inl (ct 0, 8, .inl (fun _ => Int32.ofInt 0))), (n21, .inl (ct 0, 4, .inl (fun _ => Int32.ofInt 0))), (n22, .inl (ct 0, 4, .inl (fun _ => Int32.ofInt 0))), (n23, .inl (ct 0, 140, .inl (fun _ => Int32.ofInt 0)))]) rfl ?_
  refine Cv_aload 0 dX12_init_1318 rfl rfl ?_
  refine Cv_sipush dX12_init_1319 rfl ?_
  refine Cv_newi 280 (Nat.le_of_ble_eq_true rfl) (Nat.le_of_ble_eq_true rfl) (Nat.le_of_ble_eq_true rfl) dX12_init_1322 rfl (fun n24 => ?_)
  refine Cv_put (k := 48) (fs' := [.int (Int32.ofInt 0), .ref n0, .ref n1, .int (Int32.ofInt 0), .ref n2, .int (Int32.ofInt 0), .int (Int32.ofInt 0), .int (Int32.ofInt 0), .int (Int32.ofInt 0), .ref n3, .int (Int32.ofInt 0), .int (Int32.ofInt 0), .int (Int32.ofInt 0), .ref n4, .ref n5, .ref n6, .ref n7, .ref n8, .ref n9, .int (Int32.ofInt 0), .int (Int32.ofInt 0), .int (Int32.ofInt 0), .int (Int32.ofInt 0), .int (Int32.ofInt 0), .ref n10, .int (Int32.ofInt 0), .ref n11, .ref n12, .ref n13, .ref n14, .ref n15, .int (Int32.ofInt 0), .int (Int32.ofInt 0), .ref n16, .int (Int32.ofInt 0), .int (Int32.ofInt 0), .int (Int32.ofInt 0), .int (Int32.ofInt 0), .int (Int32.ofInt (-1)), .ref n17, .ref n18, .int (Int32.ofInt 0), .ref n19, .ref n20, .ref n21, .ref n22, .int (Int32.ofInt 0), .ref n23, .ref n24, .null, .null, .null, .null, .null, .null, .null, .null, .null, .null, .int (Int32.ofInt 0), .int (Int32.ofInt 0), .int (Int32.ofInt 0), .int (Int32.ofInt 0), .null]) cl_X12 (Nat.le_of_ble_eq_true rfl) rfl we_1492 rfl rfl (Nat.le_of_ble_eq_true rfl) rfl dX12_init_1324 ?_
  refine Cv_aload 0 dX12_init_1327 rfl rfl ?_
  refine Cv_sipush dX12_init_1328 rfl ?_
  refine Cv_newi 280 (Nat.le_of_ble_eq_true rfl) (Nat.le_of_ble_eq_true rfl) (Nat.le_of_ble_eq_true rfl) dX12_init_1331 rfl (fun n25 => ?_)
  refine Cv_put (k := 49) (fs' := [.int (Int32.ofInt 0), .ref n0, .ref n1, .int (Int32.ofInt 0), .ref n2, .int (Int32.ofInt 0), .int (Int32.ofInt 0), .int (Int32.ofInt 0), .int (Int32.ofInt 0), .ref n3, .int (Int32.ofInt 0), .int (Int32.ofInt 0), .int (Int32.ofInt 0), .ref n4, .ref n5, .ref n6, .ref n7, .ref n8, .ref n9, .int (Int32.ofInt 0), .int (Int32.ofInt 0), .int (Int32.ofInt 0), .int (Int32.ofInt 0), .int (Int32.ofInt 0), .ref n10, .int (Int32.ofInt 0), .ref n11, .ref n12, .ref n13, .ref n14, .ref n15, .int (Int32.ofInt 0), .int (Int32.ofInt 0), .ref n16, .int (Int32.ofInt 0), .int (Int32.ofInt 0), .int (Int32.ofInt 0), .int (Int32.ofInt 0), .int (Int32.ofInt (-1)), .ref n17, .ref n18, .int (Int32.ofInt 0), .ref n19, .ref n20, .ref n21, .ref n22, .int (Int32.ofInt 0), .ref n23, .ref n24, .ref n25, .null, .null, .null, .null, .null, .null, .null, .null, .null, .int (Int32.ofInt 0), .int (Int32.ofInt 0), .int (Int32.ofInt 0), .int (Int32.ofInt 0), .null]) cl_X12 (Nat.le_of_ble_eq_true rfl) rfl we_1493 rfl rfl (Nat.le_of_ble_eq_true rfl) rfl dX12_init_1333 ?_
  refine Cv_aload 0 dX12_init_1336 rfl rfl ?_
  refine Cv_bipush dX12_init_1337 rfl ?_
  refine Cv_newi 6 (Nat.le_of_ble_eq_true rfl) (Nat.le_of_ble_eq_true rfl) (Nat.le_of_ble_eq_true rfl) dX12_init_1339 rfl (fun n26 => ?_)
  refine Cv_put (k := 50) (fs' := [.int (Int32.ofInt 0), .ref n0, .ref n1, .int (Int32.ofInt 0), .ref n2, .int (Int32.ofInt 0), .int (Int32.ofInt 0), .int (Int32.ofInt 0), .int (Int32.ofInt 0), .ref n3, .int (Int32.ofInt 0), .int (Int32.ofInt 0), .int (Int32.ofInt 0), .ref n4, .ref n5, .ref n6, .ref n7, .ref n8, .ref n9, .int (Int32.ofInt 0), .int (Int32.ofInt 0), .int (Int32.ofInt 0), .int (Int32.ofInt 0), .int (Int32.ofInt 0), .ref n10, .int (Int32.ofInt 0), .ref n11, .ref n12, .ref n13, .ref n14, .ref n15, .int (Int32.ofInt 0), .int (Int32.ofInt 0), .ref n16, .int (Int32.ofInt 0), .int (Int32.ofInt 0), .int (Int32.ofInt 0), .int (Int32.ofInt 0), .int (Int32.ofInt (-1)), .ref n17, .ref n18, .int (Int32.ofInt 0), .ref n19, .ref n20, .ref n21, .ref n22, .int (Int32.ofInt 0), .ref n23, .ref n24, .ref n25, .ref n26, .null, .null, .null, .null, .null, .null, .null, .null, .int (Int32.ofInt 0), .int (Int32.ofInt 0), .int (Int32.ofInt 0), .int (Int32.ofInt 0), .null]) cl_X12 (Nat.le_of_ble_eq_true rfl) rfl we_1494 rfl rfl (Nat.le_of_ble_eq_true rfl) rfl dX12_init_1341 ?_
  refine Cv_aload 0 dX12_init_1344 rfl rfl ?_
  refine Cv_bipush dX12_init_1345 rfl ?_
  refine Cv_newi 9 (Nat.le_of_ble_eq_true rfl) (Nat.le_of_ble_eq_true rfl) (Nat.le_of_ble_eq_true rfl) dX12_init_1347 rfl (fun n27 => ?_)
  refine Cv_put (k := 51) (fs' := [.int (Int32.ofInt 0), .ref n0, .ref n1, .int (Int32.ofInt 0), .ref n2, .int (Int32.ofInt 0), .int (Int32.ofInt 0), .int (Int32.ofInt 0), .int (Int32.ofInt 0), .ref n3, .int (Int32.ofInt 0), .int (Int32.ofInt 0), .int (Int32.ofInt 0), .ref n4, .ref n5, .ref n6, .ref n7, .ref n8, .ref n9, .int (Int32.ofInt 0), .int (Int32.ofInt 0), .int (Int32.ofInt 0), .int (Int32.ofInt 0), .int (Int32.ofInt 0), .ref n10, .int (Int32.ofInt 0), .ref n11, .ref n12, .ref n13, .ref n14, .ref n15, .int (Int32.ofInt 0), .int (Int32.ofInt 0), .ref n16, .int (Int32.ofInt 0), .int (Int32.ofInt 0), .int (Int32.ofInt 0), .int (Int32.ofInt 0), .int (Int32.ofInt (-1)), .ref n17, .ref n18, .int (Int32.ofInt 0), .ref n19, .ref n20, .ref n21, .ref n22, .int (Int32.ofInt 0), .ref n23, .ref n24, .ref n25, .ref n26, .ref n27, .null, .null, .null, .null, .null, .null, .null, .int (Int32.ofInt 0), .int (Int32.ofInt 0), .int (Int32.ofInt 0), .int (Int32.ofInt 0), .null]) cl_X12 (Nat.le_of_ble_eq_true rfl) rfl we_1495 rfl rfl (Nat.le_of_ble_eq_true rfl) rfl dX12_init_1349 ?_
  refine Cv_w (w' := (h0, .inr (12, [.int (Int32.ofInt 0), .ref n0, .ref n1, .int (Int32.ofInt 0), .ref n2, .int (Int32.ofInt 0), .int (Int32.ofInt 0), .int (Int32.ofInt 0), .int (Int32.ofInt 0), .ref n3, .int (Int32.ofInt 0), .int (Int32.ofInt 0), .int (Int32.ofInt 0), .ref n4, .ref n5, .ref n6, .ref n7, .ref n8, .ref n9, .int (Int32.ofInt 0), .int (Int32.ofInt 0), .int (Int32.ofInt 0), .int (Int32.ofInt 0), .int (Int32.ofInt 0), .ref n10, .int (Int32.ofInt 0), .ref n11, .ref n12, .ref n13, .ref n14, .ref n15, .int (Int32.ofInt 0), .int (Int32.ofInt 0), .ref n16, .int (Int32.ofInt 0), .int (Int32.ofInt 0), .int (Int32.ofInt 0), .int (Int32.ofInt 0), .int (Int32.ofInt (-1)), .ref n17, .ref n18, .int (Int32.ofInt 0), .ref n19, .ref n20, .ref n21, .ref n22, .int (Int32.ofInt 0), .ref n23, .ref n24, .ref n25, .ref n26, .ref n27, .null, .null, .null, .null, .null, .null, .null, .int (Int32.ofInt 0), .int (Int32.ofInt 0), .int (Int32.ofInt 0), .int (Int32.ofInt 0), .null])) :: [(n0, .inl (ct 0, 87, .inl (fun _ => Int32.ofInt 0))), (n1, .inl (ct 0, 522, .inl (fun _ => Int32.ofInt 0))), (n2, .inl (ct 0, 87, .inl (fun _ => Int32.ofInt 0))), (n3, .inl (ct 0, 5, .inl (fun _ => Int32.ofInt 0))), (n4, .inl (ct 0, 6, .inl (fun _ => Int32.ofInt 0))), (n5, .inl (ct 0, 6, .inl (fun _ => Int32.ofInt 0))), (n6, .inl (ct 0, 6, .inl (fun _ => Int32.ofInt 0))), (n7, .inl (ct 0, 6, .inl (fun _ => Int32.ofInt 0))), (n8, .inl (ct 0, 500, .inl (fun _ => Int32.ofInt 0))), (n9, .inl (ct 0, 400, .inl (fun _ => Int32.ofInt 0))), (n10, .inl (ct 0, 178, .inl (cv_f 178))), (n11, .inl (ct 0, 32, .inl (fun _ => Int32.ofInt 0))), (n12, .inl (ct 0, 32, .inl (fun _ => Int32.ofInt 0))), (n13, .inl (ct 0, 32, .inl (fun _ => Int32.ofInt 0))), (n14, .inl (ct 0, 800, .inl (fun _ => Int32.ofInt 0))), (n15, .inl (ct 0, 800, .inl (fun _ => Int32.ofInt 0))), (n16, .inl (ct 0, 40, .inl (fun _ => Int32.ofInt 0))), (n17, .inl (ct 0, 100, .inl (fun _ => Int32.ofInt 0))), (n18, .inl (ct 0, 100, .inl (fun _ => Int32.ofInt 0))), (n19, .inl (ct 0, 5400, .inl (fun _ => Int32.ofInt 0))), (n20, .inl (ct 0, 8, .inl (fun _ => Int32.ofInt 0))), (n21, .inl (ct 0, 4, .inl (fun _ => Int32.ofInt 0))), (n22, .inl (ct 0, 4, .inl (fun _ => Int32.ofInt 0))), (n23, .inl (ct 0, 140, .inl (fun _ => Int32.ofInt 0))), (n24, .inl (ct 0, 280, .inl (fun _ => Int32.ofInt 0))), (n25, .inl (ct 0, 280, .inl (fun _ => Int32.ofInt 0))), (n26, .inl (ct 0, 6, .inl (fun _ => Int32.ofInt 0))), (n27, .inl (ct 0, 9, .inl (fun _ => Int32.ofInt 0)))]) rfl ?_
  refine Cv_aload 0 dX12_init_1352 rfl rfl ?_
  refine Cv_sipush dX12_init_1353 rfl ?_
  refine Cv_newi 420 (Nat.le_of_ble_eq_true rfl) (Nat.le_of_ble_eq_true rfl) (Nat.le_of_ble_eq_true rfl) dX12_init_1356 rfl (fun n28 => ?_)
  refine Cv_put (k := 52) (fs' := [.int (Int32.ofInt 0), .ref n0, .ref n1, .int (Int32.ofInt 0), .ref n2, .int (Int32.ofInt 0), .int (Int32.ofInt 0), .int (Int32.ofInt 0), .int (Int32.ofInt 0), .ref n3, .int (Int32.ofInt 0), .int (Int32.ofInt 0), .int (Int32.ofInt 0), .ref n4, .ref n5, .ref n6, .ref n7, .ref n8, .ref n9, .int (Int32.ofInt 0), .int (Int32.ofInt 0), .int (Int32.ofInt 0), .int (Int32.ofInt 0), .int (Int32.ofInt 0), .ref n10, .int (Int32.ofInt 0), .ref n11, .ref n12, .ref n13, .ref n14, .ref n15, .int (Int32.ofInt 0), .int (Int32.ofInt 0), .ref n16, .int (Int32.ofInt 0), .int (Int32.ofInt 0), .int (Int32.ofInt 0), .int (Int32.ofInt 0), .int (Int32.ofInt (-1)), .ref n17, .ref n18, .int (Int32.ofInt 0), .ref n19, .ref n20, .ref n21, .ref n22, .int (Int32.ofInt 0), .ref n23, .ref n24, .ref n25, .ref n26, .ref n27, .ref n28, .null, .null, .null, .null, .null, .null, .int (Int32.ofInt 0), .int (Int32.ofInt 0), .int (Int32.ofInt 0), .int (Int32.ofInt 0), .null]) cl_X12 (Nat.le_of_ble_eq_true rfl) rfl we_1496 rfl rfl (Nat.le_of_ble_eq_true rfl) rfl dX12_init_1358 ?_
  refine Cv_aload 0 dX12_init_1361 rfl rfl ?_
  refine Cv_bipush dX12_init_1362 rfl ?_
  refine Cv_newi 10 (Nat.le_of_ble_eq_true rfl) (Nat.le_of_ble_eq_true rfl) (Nat.le_of_ble_eq_true rfl) dX12_init_1364 rfl (fun n29 => ?_)
  refine Cv_put (k := 53) (fs' := [.int (Int32.ofInt 0), .ref n0, .ref n1, .int (Int32.ofInt 0), .ref n2, .int (Int32.ofInt 0), .int (Int32.ofInt 0), .int (Int32.ofInt 0), .int (Int32.ofInt 0), .ref n3, .int (Int32.ofInt 0), .int (Int32.ofInt 0), .int (Int32.ofInt 0), .ref n4, .ref n5, .ref n6, .ref n7, .ref n8, .ref n9, .int (Int32.ofInt 0), .int (Int32.ofInt 0), .int (Int32.ofInt 0), .int (Int32.ofInt 0), .int (Int32.ofInt 0), .ref n10, .int (Int32.ofInt 0), .ref n11, .ref n12, .ref n13, .ref n14, .ref n15, .int (Int32.ofInt 0), .int (Int32.ofInt 0), .ref n16, .int (Int32.ofInt 0), .int (Int32.ofInt 0), .int (Int32.ofInt 0), .int (Int32.ofInt 0), .int (Int32.ofInt (-1)), .ref n17, .ref n18, .int (Int32.ofInt 0), .ref n19, .ref n20, .ref n21, .ref n22, .int (Int32.ofInt 0), .ref n23, .ref n24, .ref n25, .ref n26, .ref n27, .ref n28, .ref n29, .null, .null, .null, .null, .null, .int (Int32.ofInt 0), .int (Int32.ofInt 0), .int (Int32.ofInt 0), .int (Int32.ofInt 0), .null]) cl_X12 (Nat.le_of_ble_eq_true rfl) rfl we_1497 rfl rfl (Nat.le_of_ble_eq_true rfl) rfl dX12_init_1366 ?_
  refine Cv_aload 0 dX12_init_1369 rfl rfl ?_
  refine Cv_sipush dX12_init_1370 rfl ?_
  refine Cv_newz 6144 (Nat.le_of_ble_eq_true rfl) (Nat.le_of_ble_eq_true rfl) (Nat.le_of_ble_eq_true rfl) dX12_init_1373 rfl (fun n30 => ?_)
  refine Cv_put (k := 54) (fs' := [.int (Int32.ofInt 0), .ref n0, .ref n1, .int (Int32.ofInt 0), .ref n2, .int (Int32.ofInt 0), .int (Int32.ofInt 0), .int (Int32.ofInt 0), .int (Int32.ofInt 0), .ref n3, .int (Int32.ofInt 0), .int (Int32.ofInt 0), .int (Int32.ofInt 0), .ref n4, .ref n5, .ref n6, .ref n7, .ref n8, .ref n9, .int (Int32.ofInt 0), .int (Int32.ofInt 0), .int (Int32.ofInt 0), .int (Int32.ofInt 0), .int (Int32.ofInt 0), .ref n10, .int (Int32.ofInt 0), .ref n11, .ref n12, .ref n13, .ref n14, .ref n15, .int (Int32.ofInt 0), .int (Int32.ofInt 0), .ref n16, .int (Int32.ofInt 0), .int (Int32.ofInt 0), .int (Int32.ofInt 0), .int (Int32.ofInt 0), .int (Int32.ofInt (-1)), .ref n17, .ref n18, .int (Int32.ofInt 0), .ref n19, .ref n20, .ref n21, .ref n22, .int (Int32.ofInt 0), .ref n23, .ref n24, .ref n25, .ref n26, .ref n27, .ref n28, .ref n29, .ref n30, .null, .null, .null, .null, .int (Int32.ofInt 0), .int (Int32.ofInt 0), .int (Int32.ofInt 0), .int (Int32.ofInt 0), .null]) cl_X12 (Nat.le_of_ble_eq_true rfl) rfl we_1498 rfl rfl (Nat.le_of_ble_eq_true rfl) rfl dX12_init_1375 ?_
  refine Cv_aload 0 dX12_init_1378 rfl rfl ?_
  refine Cv_sipush dX12_init_1379 rfl ?_
  refine Cv_newi 10240 (Nat.le_of_ble_eq_true rfl) (Nat.le_of_ble_eq_true rfl) (Nat.le_of_ble_eq_true rfl) dX12_init_1382 rfl (fun n31 => ?_)
  refine Cv_put (k := 55) (fs' := [.int (Int32.ofInt 0), .ref n0, .ref n1, .int (Int32.ofInt 0), .ref n2, .int (Int32.ofInt 0), .int (Int32.ofInt 0), .int (Int32.ofInt 0), .int (Int32.ofInt 0), .ref n3, .int (Int32.ofInt 0), .int (Int32.ofInt 0), .int (Int32.ofInt 0), .ref n4, .ref n5, .ref n6, .ref n7, .ref n8, .ref n9, .int (Int32.ofInt 0), .int (Int32.ofInt 0), .int (Int32.ofInt 0), .int (Int32.ofInt 0), .int (Int32.ofInt 0), .ref n10, .int (Int32.ofInt 0), .ref n11, .ref n12, .ref n13, .ref n14, .ref n15, .int (Int32.ofInt 0), .int (Int32.ofInt 0), .ref n16, .int (Int32.ofInt 0), .int (Int32.ofInt 0), .int (Int32.ofInt 0), .int (Int32.ofInt 0), .int (Int32.ofInt (-1)), .ref n17, .ref n18, .int (Int32.ofInt 0), .ref n19, .ref n20, .ref n21, .ref n22, .int (Int32.ofInt 0), .ref n23, .ref n24, .ref n25, .ref n26, .ref n27, .ref n28, .ref n29, .ref n30, .ref n31, .null, .null, .null, .int (Int32.ofInt 0), .int (Int32.ofInt 0), .int (Int32.ofInt 0), .int (Int32.ofInt 0), .null]) cl_X12 (Nat.le_of_ble_eq_true rfl) rfl we_1499 rfl rfl (Nat.le_of_ble_eq_true rfl) rfl dX12_init_1384 ?_
  refine Cv_w (w' := (h0, .inr (12, [.int (Int32.ofInt 0), .ref n0, .ref n1, .int (Int32.ofInt 0), .ref n2, .int (Int32.ofInt 0), .int (Int32.ofInt 0), .int (Int32.ofInt 0), .int (Int32.ofInt 0), .ref n3, .int (Int32.ofInt 0), .int (Int32.ofInt 0), .int (Int32.ofInt 0), .ref n4, .ref n5, .ref n6, .ref n7, .ref n8, .ref n9, .int (Int32.ofInt 0), .int (Int32.ofInt 0), .int (Int32.ofInt 0), .int (Int32.ofInt 0), .int (Int32.ofInt 0), .ref n10, .int (Int32.ofInt 0), .ref n11, .ref n12, .ref n13, .ref n14, .ref n15, .int (Int32.ofInt 0), .int (Int32.ofInt 0), .ref n16, .int (Int32.ofInt 0), .int (Int32.ofInt 0), .int (Int32.ofInt 0), .int (Int32.ofInt 0), .int (Int32.ofInt (-1)), .ref n17, .ref n18, .int (Int32.ofInt 0), .ref n19, .ref n20, .ref n21, .ref n22, .int (Int32.ofInt 0), .ref n23, .ref n24, .ref n25, .ref n26, .ref n27, .ref n28, .ref n29, .ref n30, .ref n31, .null, .null, .null, .int (Int32.ofInt 0), .int (Int32.ofInt 0), .int (Int32.ofInt 0), .int (Int32.ofInt 0), .null])) :: [(n0, .inl (ct 0, 87, .inl (fun _ => Int32.ofInt 0))), (n1, .inl (ct 0, 522, .inl (fun _ => Int32.ofInt 0))), (n2, .inl (ct 0, 87, .inl (fun _ => Int32.ofInt 0))), (n3, .inl (ct 0, 5, .inl (fun _ => Int32.ofInt 0))), (n4, .inl (ct 0, 6, .inl (fun _ => Int32.ofInt 0))), (n5, .inl (ct 0, 6, .inl (fun _ => Int32.ofInt 0))), (n6, .inl (ct 0, 6, .inl (fun _ => Int32.ofInt 0))), (n7, .inl (ct 0, 6, .inl (fun _ => Int32.ofInt 0))), (n8, .inl (ct 0, 500, .inl (fun _ => Int32.ofInt 0))), (n9, .inl (ct 0, 400, .inl (fun _ => Int32.ofInt 0))), (n10, .inl (ct 0, 178, .inl (cv_f 178))), (n11, .inl (ct 0, 32, .inl (fun _ => Int32.ofInt 0))), (n12, .inl (ct 0, 32, .inl (fun _ => Int32.ofInt 0))), (n13, .inl (ct 0, 32, .inl (fun _ => Int32.ofInt 0))), (n14, .inl (ct 0, 800, .inl (fun _ => Int32.ofInt 0))), (n15, .inl (ct 0, 800, .inl (fun _ => Int32.ofInt 0))), (n16, .inl (ct 0, 40, .inl (fun _ => Int32.ofInt 0))), (n17, .inl (ct 0, 100, .inl (fun _ => Int32.ofInt 0))), (n18, .inl (ct 0, 100, .inl (fun _ => Int32.ofInt 0))), (n19, .inl (ct 0, 5400, .inl (fun _ => Int32.ofInt 0))), (n20, .inl (ct 0, 8, .inl (fun _ => Int32.ofInt 0))), (n21, .inl (ct 0, 4, .inl (fun _ => Int32.ofInt 0))), (n22, .inl (ct 0, 4, .inl (fun _ => Int32.ofInt 0))), (n23, .inl (ct 0, 140, .inl (fun _ => Int32.ofInt 0))), (n24, .inl (ct 0, 280, .inl (fun _ => Int32.ofInt 0))), (n25, .inl (ct 0, 280, .inl (fun _ => Int32.ofInt 0))), (n26, .inl (ct 0, 6, .inl (fun _ => Int32.ofInt 0))), (n27, .inl (ct 0, 9, .inl (fun _ => Int32.ofInt 0))), (n28, .inl (ct 0, 420, .inl (fun _ => Int32.ofInt 0))), (n29, .inl (ct 0, 10, .inl (fun _ => Int32.ofInt 0))), (n30, .inl (ct 2, 6144, .inl (fun _ => Int32.ofInt 0))), (n31, .inl (ct 0, 10240, .inl (fun _ => Int32.ofInt 0)))]) rfl ?_
  refine Cv_aload 0 dX12_init_1387 rfl rfl ?_
  refine Cv_sipush dX12_init_1388 rfl ?_
  refine Cv_newi 1024 (Nat.le_of_ble_eq_true rfl) (Nat.le_of_ble_eq_true rfl) (Nat.le_of_ble_eq_true rfl) dX12_init_1391 rfl (fun n32 => ?_)
  refine Cv_put (k := 56) (fs' := [.int (Int32.ofInt 0), .ref n0, .ref n1, .int (Int32.ofInt 0), .ref n2, .int (Int32.ofInt 0), .int (Int32.ofInt 0), .int (Int32.ofInt 0), .int (Int32.ofInt 0), .ref n3, .int (Int32.ofInt 0), .int (Int32.ofInt 0), .int (Int32.ofInt 0), .ref n4, .ref n5, .ref n6, .ref n7, .ref n8, .ref n9, .int (Int32.ofInt 0), .int (Int32.ofInt 0), .int (Int32.ofInt 0), .int (Int32.ofInt 0), .int (Int32.ofInt 0), .ref n10, .int (Int32.ofInt 0), .ref n11, .ref n12, .ref n13, .ref n14, .ref n15, .int (Int32.ofInt 0), .int (Int32.ofInt 0), .ref n16, .int (Int32.ofInt 0), .int (Int32.ofInt 0), .int (Int32.ofInt 0), .int (Int32.ofInt 0), .int (Int32.ofInt (-1)), .ref n17, .ref n18, .int (Int32.ofInt 0), .ref n19, .ref n20, .ref n21, .ref n22, .int (Int32.ofInt 0), .ref n23, .ref n24, .ref n25, .ref n26, .ref n27, .ref n28, .ref n29, .ref n30, .ref n31, .ref n32, .null, .null, .int (Int32.ofInt 0), .int (Int32.ofInt 0), .int (Int32.ofInt 0), .int (Int32.ofInt 0), .null]) cl_X12 (Nat.le_of_ble_eq_true rfl) rfl we_1500 rfl rfl (Nat.le_of_ble_eq_true rfl) rfl dX12_init_1393 ?_
  refine Cv_aload 0 dX12_init_1396 rfl rfl ?_
  refine Cv_ldc (z := 65536) we_1443 dX12_init_1397 rfl ?_
  refine Cv_newi 65536 (Nat.le_of_ble_eq_true rfl) (Nat.le_of_ble_eq_true rfl) (Nat.le_of_ble_eq_true rfl) dX12_init_1399 rfl (fun n33 => ?_)
  refine Cv_put (k := 57) (fs' := [.int (Int32.ofInt 0), .ref n0, .ref n1, .int (Int32.ofInt 0), .ref n2, .int (Int32.ofInt 0), .int (Int32.ofInt 0), .int (Int32.ofInt 0), .int (Int32.ofInt 0), .ref n3, .int (Int32.ofInt 0), .int (Int32.ofInt 0), .int (Int32.ofInt 0), .ref n4, .ref n5, .ref n6, .ref n7, .ref n8, .ref n9, .int (Int32.ofInt 0), .int (Int32.ofInt 0), .int (Int32.ofInt 0), .int (Int32.ofInt 0), .int (Int32.ofInt 0), .ref n10, .int (Int32.ofInt 0), .ref n11, .ref n12, .ref n13, .ref n14, .ref n15, .int (Int32.ofInt 0), .int (Int32.ofInt 0), .ref n16, .int (Int32.ofInt 0), .int (Int32.ofInt 0), .int (Int32.ofInt 0), .int (Int32.ofInt 0), .int (Int32.ofInt (-1)), .ref n17, .ref n18, .int (Int32.ofInt 0), .ref n19, .ref n20, .ref n21, .ref n22, .int (Int32.ofInt 0), .ref n23, .ref n24, .ref n25, .ref n26, .ref n27, .ref n28, .ref n29, .ref n30, .ref n31, .ref n32, .ref n33, .null, .int (Int32.ofInt 0), .int (Int32.ofInt 0), .int (Int32.ofInt 0), .int (Int32.ofInt 0), .null]) cl_X12 (Nat.le_of_ble_eq_true rfl) rfl we_1501 rfl rfl (Nat.le_of_ble_eq_true rfl) rfl dX12_init_1401 ?_
  refine Cv_aload 0 dX12_init_1404 rfl rfl ?_
  refine Cv_bipush dX12_init_1405 rfl ?_
  refine Cv_newi 6 (Nat.le_of_ble_eq_true rfl) (Nat.le_of_ble_eq_true rfl) (Nat.le_of_ble_eq_true rfl) dX12_init_1407 rfl (fun n34 => ?_)
  refine Cv_put (k := 58) (fs' := [.int (Int32.ofInt 0), .ref n0, .ref n1, .int (Int32.ofInt 0), .ref n2, .int (Int32.ofInt 0), .int (Int32.ofInt 0), .int (Int32.ofInt 0), .int (Int32.ofInt 0), .ref n3, .int (Int32.ofInt 0), .int (Int32.ofInt 0), .int (Int32.ofInt 0), .ref n4, .ref n5, .ref n6, .ref n7, .ref n8, .ref n9, .int (Int32.ofInt 0), .int (Int32.ofInt 0), .int (Int32.ofInt 0), .int (Int32.ofInt 0), .int (Int32.ofInt 0), .ref n10, .int (Int32.ofInt 0), .ref n11, .ref n12, .ref n13, .ref n14, .ref n15, .int (Int32.ofInt 0), .int (Int32.ofInt 0), .ref n16, .int (Int32.ofInt 0), .int (Int32.ofInt 0), .int (Int32.ofInt 0), .int (Int32.ofInt 0), .int (Int32.ofInt (-1)), .ref n17, .ref n18, .int (Int32.ofInt 0), .ref n19, .ref n20, .ref n21, .ref n22, .int (Int32.ofInt 0), .ref n23, .ref n24, .ref n25, .ref n26, .ref n27, .ref n28, .ref n29, .ref n30, .ref n31, .ref n32, .ref n33, .ref n34, .int (Int32.ofInt 0), .int (Int32.ofInt 0), .int (Int32.ofInt 0), .int (Int32.ofInt 0), .null]) cl_X12 (Nat.le_of_ble_eq_true rfl) rfl we_1502 rfl rfl (Nat.le_of_ble_eq_true rfl) rfl dX12_init_1409 ?_
  refine Cv_aload 0 dX12_init_1412 rfl rfl ?_
  refine Cv_sipush dX12_init_1413 rfl ?_
  refine Cv_newi 7200 (Nat.le_of_ble_eq_true rfl) (Nat.le_of_ble_eq_true rfl) (Nat.le_of_ble_eq_true rfl) dX12_init_1416 rfl (fun n35 => ?_)
  refine Cv_put (k := 63) (fs' := [.int (Int32.ofInt 0), .ref n0, .ref n1, .int (Int32.ofInt 0), .ref n2, .int (Int32.ofInt 0), .int (Int32.ofInt 0), .int (Int32.ofInt 0), .int (Int32.ofInt 0), .ref n3, .int (Int32.ofInt 0), .int (Int32.ofInt 0), .int (Int32.ofInt 0), .ref n4, .ref n5, .ref n6, .ref n7, .ref n8, .ref n9, .int (Int32.ofInt 0), .int (Int32.ofInt 0), .int (Int32.ofInt 0), .int (Int32.ofInt 0), .int (Int32.ofInt 0), .ref n10, .int (Int32.ofInt 0), .ref n11, .ref n12, .ref n13, .ref n14, .ref n15, .int (Int32.ofInt 0), .int (Int32.ofInt 0), .ref n16, .int (Int32.ofInt 0), .int (Int32.ofInt 0), .int (Int32.ofInt 0), .int (Int32.ofInt 0), .int (Int32.ofInt (-1)), .ref n17, .ref n18, .int (Int32.ofInt 0), .ref n19, .ref n20, .ref n21, .ref n22, .int (Int32.ofInt 0), .ref n23, .ref n24, .ref n25, .ref n26, .ref n27, .ref n28, .ref n29, .ref n30, .ref n31, .ref n32, .ref n33, .ref n34, .int (Int32.ofInt 0), .int (Int32.ofInt 0), .int (Int32.ofInt 0), .int (Int32.ofInt 0), .ref n35]) cl_X12 (Nat.le_of_ble_eq_true rfl) rfl we_1507 rfl rfl (Nat.le_of_ble_eq_true rfl) rfl dX12_init_1418 ?_
  refine Cv_w (w' := (h0, .inr (12, [.int (Int32.ofInt 0), .ref n0, .ref n1, .int (Int32.ofInt 0), .ref n2, .int (Int32.ofInt 0), .int (Int32.ofInt 0), .int (Int32.ofInt 0), .int (Int32.ofInt 0), .ref n3, .int (Int32.ofInt 0), .int (Int32.ofInt 0), .int (Int32.ofInt 0), .ref n4, .ref n5, .ref n6, .ref n7, .ref n8, .ref n9, .int (Int32.ofInt 0), .int (Int32.ofInt 0), .int (Int32.ofInt 0), .int (Int32.ofInt 0), .int (Int32.ofInt 0), .ref n10, .int (Int32.ofInt 0), .ref n11, .ref n12, .ref n13, .ref n14, .ref n15, .int (Int32.ofInt 0), .int (Int32.ofInt 0), .ref n16, .int (Int32.ofInt 0), .int (Int32.ofInt 0), .int (Int32.ofInt 0), .int (Int32.ofInt 0), .int (Int32.ofInt (-1)), .ref n17, .ref n18, .int (Int32.ofInt 0), .ref n19, .ref n20, .ref n21, .ref n22, .int (Int32.ofInt 0), .ref n23, .ref n24, .ref n25, .ref n26, .ref n27, .ref n28, .ref n29, .ref n30, .ref n31, .ref n32, .ref n33, .ref n34, .int (Int32.ofInt 0), .int (Int32.ofInt 0), .int (Int32.ofInt 0), .int (Int32.ofInt 0), .ref n35])) :: [(n0, .inl (ct 0, 87, .inl (fun _ => Int32.ofInt 0))), (n1, .inl (ct 0, 522, .inl (fun _ => Int32.ofInt 0))), (n2, .inl (ct 0, 87, .inl (fun _ => Int32.ofInt 0))), (n3, .inl (ct 0, 5, .inl (fun _ => Int32.ofInt 0))), (n4, .inl (ct 0, 6, .inl (fun _ => Int32.ofInt 0))), (n5, .inl (ct 0, 6, .inl (fun _ => Int32.ofInt 0))), (n6, .inl (ct 0, 6, .inl (fun _ => Int32.ofInt 0))), (n7, .inl (ct 0, 6, .inl (fun _ => Int32.ofInt 0))), (n8, .inl (ct 0, 500, .inl (fun _ => Int32.ofInt 0))), (n9, .inl (ct 0, 400, .inl (fun _ => Int32.ofInt 0))), (n10, .inl (ct 0, 178, .inl (cv_f 178))), (n11, .inl (ct 0, 32, .inl (fun _ => Int32.ofInt 0))), (n12, .inl (ct 0, 32, .inl (fun _ => Int32.ofInt 0))), (n13, .inl (ct 0, 32, .inl (fun _ => Int32.ofInt 0))), (n14, .inl (ct 0, 800, .inl (fun _ => Int32.ofInt 0))), (n15, .inl (ct 0, 800, .inl (fun _ => Int32.ofInt 0))), (n16, .inl (ct 0, 40, .inl (fun _ => Int32.ofInt 0))), (n17, .inl (ct 0, 100, .inl (fun _ => Int32.ofInt 0))), (n18, .inl (ct 0, 100, .inl (fun _ => Int32.ofInt 0))), (n19, .inl (ct 0, 5400, .inl (fun _ => Int32.ofInt 0))), (n20, .inl (ct 0, 8, .inl (fun _ => Int32.ofInt 0))), (n21, .inl (ct 0, 4, .inl (fun _ => Int32.ofInt 0))), (n22, .inl (ct 0, 4, .inl (fun _ => Int32.ofInt 0))), (n23, .inl (ct 0, 140, .inl (fun _ => Int32.ofInt 0))), (n24, .inl (ct 0, 280, .inl (fun _ => Int32.ofInt 0))), (n25, .inl (ct 0, 280, .inl (fun _ => Int32.ofInt 0))), (n26, .inl (ct 0, 6, .inl (fun _ => Int32.ofInt 0))), (n27, .inl (ct 0, 9, .inl (fun _ => Int32.ofInt 0))), (n28, .inl (ct 0, 420, .inl (fun _ => Int32.ofInt 0))), (n29, .inl (ct 0, 10, .inl (fun _ => Int32.ofInt 0))), (n30, .inl (ct 2, 6144, .inl (fun _ => Int32.ofInt 0))), (n31, .inl (ct 0, 10240, .inl (fun _ => Int32.ofInt 0))), (n32, .inl (ct 0, 1024, .inl (fun _ => Int32.ofInt 0))), (n33, .inl (ct 0, 65536, .inl (fun _ => Int32.ofInt 0))), (n34, .inl (ct 0, 6, .inl (fun _ => Int32.ofInt 0))), (n35, .inl (ct 0, 7200, .inl (fun _ => Int32.ofInt 0)))]) rfl ?_
  refine Cv_w (cv_asmM ct h0 n0 n1 n2 n3 n4 n5 n6 n7 n8 n9 n10 n11 n12 n13 n14 n15 n16 n17 n18 n19 n20 n21 n22 n23 n24 n25 n26 n27 n28 n29 n30 n31 n32 n33 n34 n35) ?_
  exact Cv_ret rfl dX12_init_1421 (Nat.le_of_ble_eq_true rfl) (Nat.le_of_ble_eq_true rfl) ⟨cv_adM h0 n0 n1 n2 n3 n4 n5 n6 n7 n8 n9 n10 n11 n12 n13 n14 n15 n16 n17 n18 n19 n20 n21 n22 n23 n24 n25 n26 n27 n28 n29 n30 n31 n32 n33 n34 n35, rfl, rfl⟩
end
