section
theorem wj_189 : Cond.initialized "java/lang/String" ∈ lw_tbl := tb_1 (List.mem_of_getElem? (i := 15) (by decide +kernel))
theorem wj_190 : Cond.initialized "java/lang/StringLatin1" ∈ lw_tbl := tb_1 (List.mem_of_getElem? (i := 16) (by decide +kernel))
theorem wj_191 : Cond.initialized "jdk/internal/util/Preconditions" ∈ lw_tbl := tb_1 (List.mem_of_getElem? (i := 17) (by decide +kernel))
theorem wj_476 : Cond.fieldLink "AngelTown$Tape" 11 "AngelTown$Tape" "bytes" "[B" ∈ lw_tbl := tb_2 (List.mem_of_getElem? (i := 62) (by decide +kernel))
theorem wj_811 : Cond.methodLink "AngelTown$Tape" 53 ⟨"java/lang/String", "length", "()I"⟩ ∈ lw_tbl := tb_3 (List.mem_of_getElem? (i := 157) (by decide +kernel))
theorem wj_812 : Cond.instanceMethod ⟨"java/lang/String", "length", "()I"⟩ ∈ lw_tbl := tb_3 (List.mem_of_getElem? (i := 158) (by decide +kernel))
theorem wj_813 : Cond.selects "java/lang/String" ⟨"java/lang/String", "length", "()I"⟩ ⟨"java/lang/String", "length", "()I"⟩ ∈ lw_tbl := tb_3 (List.mem_of_getElem? (i := 159) (by decide +kernel))
theorem wj_814 : Cond.code ⟨"java/lang/String", "length", "()I"⟩ prog_18_method_54_code 1 (some .int) ∈ lw_tbl := tb_3 (List.mem_of_getElem? (i := 160) (by decide +kernel))
theorem wj_815 : Cond.methodLink "java/lang/String" 335 ⟨"java/lang/String", "coder", "()B"⟩ ∈ lw_tbl := tb_3 (List.mem_of_getElem? (i := 161) (by decide +kernel))
theorem wj_816 : Cond.instanceMethod ⟨"java/lang/String", "coder", "()B"⟩ ∈ lw_tbl := tb_3 (List.mem_of_getElem? (i := 162) (by decide +kernel))
theorem wj_817 : Cond.selects "java/lang/String" ⟨"java/lang/String", "coder", "()B"⟩ ⟨"java/lang/String", "coder", "()B"⟩ ∈ lw_tbl := tb_3 (List.mem_of_getElem? (i := 163) (by decide +kernel))
theorem wj_818 : Cond.code ⟨"java/lang/String", "coder", "()B"⟩ prog_18_method_152_code 1 (some .byte) ∈ lw_tbl := tb_3 (List.mem_of_getElem? (i := 164) (by decide +kernel))
theorem wj_819 : Cond.fieldLink "java/lang/String" 38 "java/lang/String" "COMPACT_STRINGS" "Z" ∈ lw_tbl := tb_3 (List.mem_of_getElem? (i := 165) (by decide +kernel))
theorem wj_821 : Cond.methodLink "AngelTown$Tape" 56 ⟨"java/lang/String", "charAt", "(I)C"⟩ ∈ lw_tbl := tb_3 (List.mem_of_getElem? (i := 167) (by decide +kernel))
theorem wj_822 : Cond.instanceMethod ⟨"java/lang/String", "charAt", "(I)C"⟩ ∈ lw_tbl := tb_3 (List.mem_of_getElem? (i := 168) (by decide +kernel))
theorem wj_823 : Cond.selects "java/lang/String" ⟨"java/lang/String", "charAt", "(I)C"⟩ ⟨"java/lang/String", "charAt", "(I)C"⟩ ∈ lw_tbl := tb_3 (List.mem_of_getElem? (i := 169) (by decide +kernel))
theorem wj_824 : Cond.code ⟨"java/lang/String", "charAt", "(I)C"⟩ prog_18_method_56_code 2 (some .char) ∈ lw_tbl := tb_3 (List.mem_of_getElem? (i := 170) (by decide +kernel))
theorem wj_825 : Cond.methodLink "java/lang/String" 492 ⟨"java/lang/String", "isLatin1", "()Z"⟩ ∈ lw_tbl := tb_3 (List.mem_of_getElem? (i := 171) (by decide +kernel))
theorem wj_826 : Cond.instanceMethod ⟨"java/lang/String", "isLatin1", "()Z"⟩ ∈ lw_tbl := tb_3 (List.mem_of_getElem? (i := 172) (by decide +kernel))
theorem wj_827 : Cond.selects "java/lang/String" ⟨"java/lang/String", "isLatin1", "()Z"⟩ ⟨"java/lang/String", "isLatin1", "()Z"⟩ ∈ lw_tbl := tb_3 (List.mem_of_getElem? (i := 173) (by decide +kernel))
theorem wj_828 : Cond.code ⟨"java/lang/String", "isLatin1", "()Z"⟩ prog_18_method_154_code 1 (some .boolean) ∈ lw_tbl := tb_3 (List.mem_of_getElem? (i := 174) (by decide +kernel))
theorem wj_829 : Cond.methodLink "java/lang/String" 495 ⟨"java/lang/StringLatin1", "charAt", "([BI)C"⟩ ∈ lw_tbl := tb_3 (List.mem_of_getElem? (i := 175) (by decide +kernel))
theorem wj_830 : Cond.static ⟨"java/lang/StringLatin1", "charAt", "([BI)C"⟩ ∈ lw_tbl := tb_3 (List.mem_of_getElem? (i := 176) (by decide +kernel))
theorem wj_831 : Cond.code ⟨"java/lang/StringLatin1", "charAt", "([BI)C"⟩ prog_19_method_2_code 2 (some .char) ∈ lw_tbl := tb_3 (List.mem_of_getElem? (i := 177) (by decide +kernel))
theorem wj_832 : Cond.methodLink "java/lang/StringLatin1" 9 ⟨"java/lang/String", "checkIndex", "(II)V"⟩ ∈ lw_tbl := tb_3 (List.mem_of_getElem? (i := 178) (by decide +kernel))
theorem wj_833 : Cond.static ⟨"java/lang/String", "checkIndex", "(II)V"⟩ ∈ lw_tbl := tb_3 (List.mem_of_getElem? (i := 179) (by decide +kernel))
theorem wj_834 : Cond.code ⟨"java/lang/String", "checkIndex", "(II)V"⟩ prog_18_method_155_code 2 none ∈ lw_tbl := tb_3 (List.mem_of_getElem? (i := 180) (by decide +kernel))
theorem wj_835 : Cond.fieldLink "java/lang/String" 1053 "jdk/internal/util/Preconditions" "SIOOBE_FORMATTER" "Ljava/util/function/BiFunction;" ∈ lw_tbl := tb_3 (List.mem_of_getElem? (i := 181) (by decide +kernel))
theorem wj_837 : Cond.methodLink "java/lang/String" 1059 ⟨"jdk/internal/util/Preconditions", "checkIndex", "(IILjava/util/function/BiFunction;)I"⟩ ∈ lw_tbl := tb_3 (List.mem_of_getElem? (i := 183) (by decide +kernel))
theorem wj_838 : Cond.static ⟨"jdk/internal/util/Preconditions", "checkIndex", "(IILjava/util/function/BiFunction;)I"⟩ ∈ lw_tbl := tb_3 (List.mem_of_getElem? (i := 184) (by decide +kernel))
theorem wj_839 : Cond.code ⟨"jdk/internal/util/Preconditions", "checkIndex", "(IILjava/util/function/BiFunction;)I"⟩ prog_23_method_11_code 3 (some .int) ∈ lw_tbl := tb_3 (List.mem_of_getElem? (i := 185) (by decide +kernel))
theorem wj_864 : Cond.methodLink "AngelTown$Tape" 46 ⟨"java/lang/String", "indexOf", "(I)I"⟩ ∈ lw_tbl := tb_3 (List.mem_of_getElem? (i := 210) (by decide +kernel))
theorem wj_865 : Cond.instanceMethod ⟨"java/lang/String", "indexOf", "(I)I"⟩ ∈ lw_tbl := tb_3 (List.mem_of_getElem? (i := 211) (by decide +kernel))
theorem wj_866 : Cond.selects "java/lang/String" ⟨"java/lang/String", "indexOf", "(I)I"⟩ ⟨"java/lang/String", "indexOf", "(I)I"⟩ ∈ lw_tbl := tb_3 (List.mem_of_getElem? (i := 212) (by decide +kernel))
theorem wj_867 : Cond.code ⟨"java/lang/String", "indexOf", "(I)I"⟩ prog_18_method_79_code 2 (some .int) ∈ lw_tbl := tb_3 (List.mem_of_getElem? (i := 213) (by decide +kernel))
theorem wj_868 : Cond.methodLink "java/lang/String" 633 ⟨"java/lang/String", "indexOf", "(II)I"⟩ ∈ lw_tbl := tb_3 (List.mem_of_getElem? (i := 214) (by decide +kernel))
theorem wj_869 : Cond.instanceMethod ⟨"java/lang/String", "indexOf", "(II)I"⟩ ∈ lw_tbl := tb_3 (List.mem_of_getElem? (i := 215) (by decide +kernel))
theorem wj_870 : Cond.selects "java/lang/String" ⟨"java/lang/String", "indexOf", "(II)I"⟩ ⟨"java/lang/String", "indexOf", "(II)I"⟩ ∈ lw_tbl := tb_3 (List.mem_of_getElem? (i := 216) (by decide +kernel))
theorem wj_871 : Cond.code ⟨"java/lang/String", "indexOf", "(II)I"⟩ prog_18_method_80_code 3 (some .int) ∈ lw_tbl := tb_3 (List.mem_of_getElem? (i := 217) (by decide +kernel))
theorem wj_872 : Cond.methodLink "java/lang/String" 505 ⟨"java/lang/String", "length", "()I"⟩ ∈ lw_tbl := tb_3 (List.mem_of_getElem? (i := 218) (by decide +kernel))
theorem wj_873 : Cond.methodLink "java/lang/String" 637 ⟨"java/lang/StringLatin1", "indexOf", "([BIII)I"⟩ ∈ lw_tbl := tb_3 (List.mem_of_getElem? (i := 219) (by decide +kernel))
theorem wj_874 : Cond.static ⟨"java/lang/StringLatin1", "indexOf", "([BIII)I"⟩ ∈ lw_tbl := tb_3 (List.mem_of_getElem? (i := 220) (by decide +kernel))
theorem wj_875 : Cond.code ⟨"java/lang/StringLatin1", "indexOf", "([BIII)I"⟩ prog_19_method_22_code 4 (some .int) ∈ lw_tbl := tb_3 (List.mem_of_getElem? (i := 221) (by decide +kernel))
theorem wj_876 : Cond.methodLink "java/lang/StringLatin1" 88 ⟨"java/lang/StringLatin1", "canEncode", "(I)Z"⟩ ∈ lw_tbl := tb_3 (List.mem_of_getElem? (i := 222) (by decide +kernel))
theorem wj_877 : Cond.static ⟨"java/lang/StringLatin1", "canEncode", "(I)Z"⟩ ∈ lw_tbl := tb_3 (List.mem_of_getElem? (i := 223) (by decide +kernel))
theorem wj_878 : Cond.code ⟨"java/lang/StringLatin1", "canEncode", "(I)Z"⟩ prog_19_method_4_code 1 (some .boolean) ∈ lw_tbl := tb_3 (List.mem_of_getElem? (i := 224) (by decide +kernel))
theorem wj_879 : Cond.methodLink "java/lang/StringLatin1" 92 ⟨"java/lang/Math", "max", "(II)I"⟩ ∈ lw_tbl := tb_3 (List.mem_of_getElem? (i := 225) (by decide +kernel))
theorem wj_882 : Cond.methodLink "java/lang/StringLatin1" 38 ⟨"java/lang/Math", "min", "(II)I"⟩ ∈ lw_tbl := tb_3 (List.mem_of_getElem? (i := 228) (by decide +kernel))
theorem wj_885 : Cond.methodLink "java/lang/StringLatin1" 95 ⟨"java/lang/StringLatin1", "indexOfChar", "([BIII)I"⟩ ∈ lw_tbl := tb_3 (List.mem_of_getElem? (i := 231) (by decide +kernel))
theorem wj_886 : Cond.static ⟨"java/lang/StringLatin1", "indexOfChar", "([BIII)I"⟩ ∈ lw_tbl := tb_3 (List.mem_of_getElem? (i := 232) (by decide +kernel))
theorem wj_887 : Cond.code ⟨"java/lang/StringLatin1", "indexOfChar", "([BIII)I"⟩ prog_19_method_23_code 6 (some .int) ∈ lw_tbl := tb_3 (List.mem_of_getElem? (i := 233) (by decide +kernel))
theorem wj_2158 : Cond.fieldLink "java/lang/String" 9 "java/lang/String" "value" "[B" ∈ lw_tbl := tb_9 (List.mem_of_getElem? (i := 64) (by decide +kernel))
theorem wj_2159 : Cond.fieldLink "java/lang/String" 15 "java/lang/String" "coder" "B" ∈ lw_tbl := tb_9 (List.mem_of_getElem? (i := 65) (by decide +kernel))
theorem dJ0_coder_7d493_0 : decode cJ0_coder_7d493 0 = .ok (.getstatic 38, 3) := by decide +kernel
theorem dJ0_coder_7d493_3 : decode cJ0_coder_7d493 3 = .ok (.ifCond .eq 10, 3) := by decide +kernel
theorem dJ0_coder_7d493_6 : decode cJ0_coder_7d493 6 = .ok (.aload_n 0, 1) := by decide +kernel
theorem dJ0_coder_7d493_7 : decode cJ0_coder_7d493 7 = .ok (.getfield 15, 3) := by decide +kernel
theorem dJ0_coder_7d493_10 : decode cJ0_coder_7d493 10 = .ok (.goto 4, 3) := by decide +kernel
theorem dJ0_coder_7d493_14 : decode cJ0_coder_7d493 14 = .ok (.ireturn, 1) := by decide +kernel
theorem dJ0_isLatin1_aae02_0 : decode cJ0_isLatin1_aae02 0 = .ok (.getstatic 38, 3) := by decide +kernel
theorem dJ0_isLatin1_aae02_3 : decode cJ0_isLatin1_aae02 3 = .ok (.ifCond .eq 14, 3) := by decide +kernel
theorem dJ0_isLatin1_aae02_6 : decode cJ0_isLatin1_aae02 6 = .ok (.aload_n 0, 1) := by decide +kernel
theorem dJ0_isLatin1_aae02_7 : decode cJ0_isLatin1_aae02 7 = .ok (.getfield 15, 3) := by decide +kernel
theorem dJ0_isLatin1_aae02_10 : decode cJ0_isLatin1_aae02 10 = .ok (.ifCond .ne 7, 3) := by decide +kernel
theorem dJ0_isLatin1_aae02_13 : decode cJ0_isLatin1_aae02 13 = .ok (.iconst 1, 1) := by decide +kernel
theorem dJ0_isLatin1_aae02_14 : decode cJ0_isLatin1_aae02 14 = .ok (.goto 4, 3) := by decide +kernel
theorem dJ0_isLatin1_aae02_18 : decode cJ0_isLatin1_aae02 18 = .ok (.ireturn, 1) := by decide +kernel
theorem dJ0_length_8abf5_0 : decode cJ0_length_8abf5 0 = .ok (.aload_n 0, 1) := by decide +kernel
theorem dJ0_length_8abf5_1 : decode cJ0_length_8abf5 1 = .ok (.getfield 9, 3) := by decide +kernel
theorem dJ0_length_8abf5_4 : decode cJ0_length_8abf5 4 = .ok (.arraylength, 1) := by decide +kernel
theorem dJ0_length_8abf5_5 : decode cJ0_length_8abf5 5 = .ok (.aload_n 0, 1) := by decide +kernel
theorem dJ0_length_8abf5_6 : decode cJ0_length_8abf5 6 = .ok (.invokevirtual 335, 3) := by decide +kernel
theorem dJ0_length_8abf5_9 : decode cJ0_length_8abf5 9 = .ok (.ishr, 1) := by decide +kernel
theorem dJ0_length_8abf5_10 : decode cJ0_length_8abf5 10 = .ok (.ireturn, 1) := by decide +kernel
theorem dJ3_checkIndex_8e157_0 : decode cJ3_checkIndex_8e157 0 = .ok (.iload_n 0, 1) := by decide +kernel
theorem dJ3_checkIndex_8e157_1 : decode cJ3_checkIndex_8e157 1 = .ok (.ifCond .lt 8, 3) := by decide +kernel
theorem dJ3_checkIndex_8e157_4 : decode cJ3_checkIndex_8e157 4 = .ok (.iload_n 0, 1) := by decide +kernel
theorem dJ3_checkIndex_8e157_5 : decode cJ3_checkIndex_8e157 5 = .ok (.iload_n 1, 1) := by decide +kernel
theorem dJ3_checkIndex_8e157_6 : decode cJ3_checkIndex_8e157 6 = .ok (.if_icmp .lt 10, 3) := by decide +kernel
theorem dJ3_checkIndex_8e157_16 : decode cJ3_checkIndex_8e157 16 = .ok (.iload_n 0, 1) := by decide +kernel
theorem dJ3_checkIndex_8e157_17 : decode cJ3_checkIndex_8e157 17 = .ok (.ireturn, 1) := by decide +kernel
theorem dJ0_checkIndex_df160_0 : decode cJ0_checkIndex_df160 0 = .ok (.iload_n 0, 1) := by decide +kernel
theorem dJ0_checkIndex_df160_1 : decode cJ0_checkIndex_df160 1 = .ok (.iload_n 1, 1) := by decide +kernel
theorem dJ0_checkIndex_df160_2 : decode cJ0_checkIndex_df160 2 = .ok (.getstatic 1053, 3) := by decide +kernel
theorem dJ0_checkIndex_df160_5 : decode cJ0_checkIndex_df160 5 = .ok (.invokestatic 1059, 3) := by decide +kernel
theorem dJ0_checkIndex_df160_8 : decode cJ0_checkIndex_df160 8 = .ok (.pop, 1) := by decide +kernel
theorem dJ0_checkIndex_df160_9 : decode cJ0_checkIndex_df160 9 = .ok (.return_, 1) := by decide +kernel
theorem dJ1_charAt_3b067_0 : decode cJ1_charAt_3b067 0 = .ok (.iload_n 1, 1) := by decide +kernel
theorem dJ1_charAt_3b067_1 : decode cJ1_charAt_3b067 1 = .ok (.aload_n 0, 1) := by decide +kernel
theorem dJ1_charAt_3b067_2 : decode cJ1_charAt_3b067 2 = .ok (.arraylength, 1) := by decide +kernel
theorem dJ1_charAt_3b067_3 : decode cJ1_charAt_3b067 3 = .ok (.invokestatic 9, 3) := by decide +kernel
theorem dJ1_charAt_3b067_6 : decode cJ1_charAt_3b067 6 = .ok (.aload_n 0, 1) := by decide +kernel
theorem dJ1_charAt_3b067_7 : decode cJ1_charAt_3b067 7 = .ok (.iload_n 1, 1) := by decide +kernel
theorem dJ1_charAt_3b067_8 : decode cJ1_charAt_3b067 8 = .ok (.baload, 1) := by decide +kernel
theorem dJ1_charAt_3b067_9 : decode cJ1_charAt_3b067 9 = .ok (.sipush 255, 3) := by decide +kernel
theorem dJ1_charAt_3b067_12 : decode cJ1_charAt_3b067 12 = .ok (.iand, 1) := by decide +kernel
theorem dJ1_charAt_3b067_13 : decode cJ1_charAt_3b067 13 = .ok (.i2c, 1) := by decide +kernel
theorem dJ1_charAt_3b067_14 : decode cJ1_charAt_3b067 14 = .ok (.ireturn, 1) := by decide +kernel
theorem dJ0_charAt_5068e_0 : decode cJ0_charAt_5068e 0 = .ok (.aload_n 0, 1) := by decide +kernel
theorem dJ0_charAt_5068e_1 : decode cJ0_charAt_5068e 1 = .ok (.invokevirtual 492, 3) := by decide +kernel
theorem dJ0_charAt_5068e_4 : decode cJ0_charAt_5068e 4 = .ok (.ifCond .eq 12, 3) := by decide +kernel
theorem dJ0_charAt_5068e_7 : decode cJ0_charAt_5068e 7 = .ok (.aload_n 0, 1) := by decide +kernel
theorem dJ0_charAt_5068e_8 : decode cJ0_charAt_5068e 8 = .ok (.getfield 9, 3) := by decide +kernel
theorem dJ0_charAt_5068e_11 : decode cJ0_charAt_5068e 11 = .ok (.iload_n 1, 1) := by decide +kernel
theorem dJ0_charAt_5068e_12 : decode cJ0_charAt_5068e 12 = .ok (.invokestatic 495, 3) := by decide +kernel
theorem dJ0_charAt_5068e_15 : decode cJ0_charAt_5068e 15 = .ok (.ireturn, 1) := by decide +kernel
theorem dJ1_canEncode_9a6ad_0 : decode cJ1_canEncode_9a6ad 0 = .ok (.iload_n 0, 1) := by decide +kernel
theorem dJ1_canEncode_9a6ad_1 : decode cJ1_canEncode_9a6ad 1 = .ok (.ifCond .lt 14, 3) := by decide +kernel
theorem dJ1_canEncode_9a6ad_4 : decode cJ1_canEncode_9a6ad 4 = .ok (.iload_n 0, 1) := by decide +kernel
theorem dJ1_canEncode_9a6ad_5 : decode cJ1_canEncode_9a6ad 5 = .ok (.sipush 255, 3) := by decide +kernel
theorem dJ1_canEncode_9a6ad_8 : decode cJ1_canEncode_9a6ad 8 = .ok (.if_icmp .gt 7, 3) := by decide +kernel
theorem dJ1_canEncode_9a6ad_11 : decode cJ1_canEncode_9a6ad 11 = .ok (.iconst 1, 1) := by decide +kernel
theorem dJ1_canEncode_9a6ad_12 : decode cJ1_canEncode_9a6ad 12 = .ok (.goto 4, 3) := by decide +kernel
theorem dJ1_canEncode_9a6ad_16 : decode cJ1_canEncode_9a6ad 16 = .ok (.ireturn, 1) := by decide +kernel
theorem dJ1_indexOfChar_4cfef_7 : decode cJ1_indexOfChar_4cfef 7 = .ok (.iload 5, 2) := by decide +kernel
theorem dJ1_indexOfChar_4cfef_9 : decode cJ1_indexOfChar_4cfef 9 = .ok (.iload_n 3, 1) := by decide +kernel
theorem dJ1_indexOfChar_4cfef_10 : decode cJ1_indexOfChar_4cfef 10 = .ok (.if_icmp .ge 21, 3) := by decide +kernel
theorem dJ1_indexOfChar_4cfef_31 : decode cJ1_indexOfChar_4cfef 31 = .ok (.iconst (-1), 1) := by decide +kernel
theorem dJ1_indexOfChar_4cfef_32 : decode cJ1_indexOfChar_4cfef 32 = .ok (.ireturn, 1) := by decide +kernel
theorem dJ1_indexOfChar_4cfef_13 : decode cJ1_indexOfChar_4cfef 13 = .ok (.aload_n 0, 1) := by decide +kernel
theorem dJ1_indexOfChar_4cfef_14 : decode cJ1_indexOfChar_4cfef 14 = .ok (.iload 5, 2) := by decide +kernel
theorem dJ1_indexOfChar_4cfef_16 : decode cJ1_indexOfChar_4cfef 16 = .ok (.baload, 1) := by decide +kernel
theorem dJ1_indexOfChar_4cfef_17 : decode cJ1_indexOfChar_4cfef 17 = .ok (.iload 4, 2) := by decide +kernel
theorem dJ1_indexOfChar_4cfef_19 : decode cJ1_indexOfChar_4cfef 19 = .ok (.if_icmp .ne 6, 3) := by decide +kernel
theorem dJ1_indexOfChar_4cfef_25 : decode cJ1_indexOfChar_4cfef 25 = .ok (.iinc 5 1, 3) := by decide +kernel
theorem dJ1_indexOfChar_4cfef_28 : decode cJ1_indexOfChar_4cfef 28 = .ok (.goto (-21), 3) := by decide +kernel
theorem dJ1_indexOfChar_4cfef_22 : decode cJ1_indexOfChar_4cfef 22 = .ok (.iload 5, 2) := by decide +kernel
theorem dJ1_indexOfChar_4cfef_24 : decode cJ1_indexOfChar_4cfef 24 = .ok (.ireturn, 1) := by decide +kernel
theorem dJ1_indexOfChar_4cfef_0 : decode cJ1_indexOfChar_4cfef 0 = .ok (.iload_n 1, 1) := by decide +kernel
theorem dJ1_indexOfChar_4cfef_1 : decode cJ1_indexOfChar_4cfef 1 = .ok (.i2b, 1) := by decide +kernel
theorem dJ1_indexOfChar_4cfef_2 : decode cJ1_indexOfChar_4cfef 2 = .ok (.istore 4, 2) := by decide +kernel
theorem dJ1_indexOfChar_4cfef_4 : decode cJ1_indexOfChar_4cfef 4 = .ok (.iload_n 2, 1) := by decide +kernel
theorem dJ1_indexOfChar_4cfef_5 : decode cJ1_indexOfChar_4cfef 5 = .ok (.istore 5, 2) := by decide +kernel
theorem dJ1_indexOf_4cfef_0 : decode cJ1_indexOf_4cfef 0 = .ok (.iload_n 1, 1) := by decide +kernel
theorem dJ1_indexOf_4cfef_1 : decode cJ1_indexOf_4cfef 1 = .ok (.invokestatic 88, 3) := by decide +kernel
theorem dJ1_indexOf_4cfef_4 : decode cJ1_indexOf_4cfef 4 = .ok (.ifCond .ne 5, 3) := by decide +kernel
theorem dJ1_indexOf_4cfef_9 : decode cJ1_indexOf_4cfef 9 = .ok (.iload_n 2, 1) := by decide +kernel
theorem dJ1_indexOf_4cfef_10 : decode cJ1_indexOf_4cfef 10 = .ok (.iconst 0, 1) := by decide +kernel
theorem dJ1_indexOf_4cfef_11 : decode cJ1_indexOf_4cfef 11 = .ok (.invokestatic 92, 3) := by decide +kernel
theorem dJ1_indexOf_4cfef_14 : decode cJ1_indexOf_4cfef 14 = .ok (.istore_n 2, 1) := by decide +kernel
theorem dJ1_indexOf_4cfef_15 : decode cJ1_indexOf_4cfef 15 = .ok (.iload_n 3, 1) := by decide +kernel
theorem dJ1_indexOf_4cfef_16 : decode cJ1_indexOf_4cfef 16 = .ok (.aload_n 0, 1) := by decide +kernel
theorem dJ1_indexOf_4cfef_17 : decode cJ1_indexOf_4cfef 17 = .ok (.arraylength, 1) := by decide +kernel
theorem dJ1_indexOf_4cfef_18 : decode cJ1_indexOf_4cfef 18 = .ok (.invokestatic 38, 3) := by decide +kernel
theorem dJ1_indexOf_4cfef_21 : decode cJ1_indexOf_4cfef 21 = .ok (.istore_n 3, 1) := by decide +kernel
theorem dJ1_indexOf_4cfef_22 : decode cJ1_indexOf_4cfef 22 = .ok (.iload_n 2, 1) := by decide +kernel
theorem dJ1_indexOf_4cfef_23 : decode cJ1_indexOf_4cfef 23 = .ok (.iload_n 3, 1) := by decide +kernel
theorem dJ1_indexOf_4cfef_24 : decode cJ1_indexOf_4cfef 24 = .ok (.if_icmp .lt 5, 3) := by decide +kernel
theorem dJ1_indexOf_4cfef_29 : decode cJ1_indexOf_4cfef 29 = .ok (.aload_n 0, 1) := by decide +kernel
theorem dJ1_indexOf_4cfef_30 : decode cJ1_indexOf_4cfef 30 = .ok (.iload_n 1, 1) := by decide +kernel
theorem dJ1_indexOf_4cfef_31 : decode cJ1_indexOf_4cfef 31 = .ok (.iload_n 2, 1) := by decide +kernel
theorem dJ1_indexOf_4cfef_32 : decode cJ1_indexOf_4cfef 32 = .ok (.iload_n 3, 1) := by decide +kernel
theorem dJ1_indexOf_4cfef_33 : decode cJ1_indexOf_4cfef 33 = .ok (.invokestatic 95, 3) := by decide +kernel
theorem dJ1_indexOf_4cfef_36 : decode cJ1_indexOf_4cfef 36 = .ok (.ireturn, 1) := by decide +kernel
theorem dJ0_indexOf_7cf53_0 : decode cJ0_indexOf_7cf53 0 = .ok (.aload_n 0, 1) := by decide +kernel
theorem dJ0_indexOf_7cf53_1 : decode cJ0_indexOf_7cf53 1 = .ok (.invokevirtual 492, 3) := by decide +kernel
theorem dJ0_indexOf_7cf53_4 : decode cJ0_indexOf_7cf53 4 = .ok (.ifCond .eq 19, 3) := by decide +kernel
theorem dJ0_indexOf_7cf53_7 : decode cJ0_indexOf_7cf53 7 = .ok (.aload_n 0, 1) := by decide +kernel
theorem dJ0_indexOf_7cf53_8 : decode cJ0_indexOf_7cf53 8 = .ok (.getfield 9, 3) := by decide +kernel
theorem dJ0_indexOf_7cf53_11 : decode cJ0_indexOf_7cf53 11 = .ok (.iload_n 1, 1) := by decide +kernel
theorem dJ0_indexOf_7cf53_12 : decode cJ0_indexOf_7cf53 12 = .ok (.iload_n 2, 1) := by decide +kernel
theorem dJ0_indexOf_7cf53_13 : decode cJ0_indexOf_7cf53 13 = .ok (.aload_n 0, 1) := by decide +kernel
theorem dJ0_indexOf_7cf53_14 : decode cJ0_indexOf_7cf53 14 = .ok (.invokevirtual 505, 3) := by decide +kernel
theorem dJ0_indexOf_7cf53_17 : decode cJ0_indexOf_7cf53 17 = .ok (.invokestatic 637, 3) := by decide +kernel
theorem dJ0_indexOf_7cf53_20 : decode cJ0_indexOf_7cf53 20 = .ok (.goto 16, 3) := by decide +kernel
theorem dJ0_indexOf_7cf53_36 : decode cJ0_indexOf_7cf53 36 = .ok (.ireturn, 1) := by decide +kernel
theorem dJ0_indexOf_0f7a4_0 : decode cJ0_indexOf_0f7a4 0 = .ok (.aload_n 0, 1) := by decide +kernel
theorem dJ0_indexOf_0f7a4_1 : decode cJ0_indexOf_0f7a4 1 = .ok (.iload_n 1, 1) := by decide +kernel
theorem dJ0_indexOf_0f7a4_2 : decode cJ0_indexOf_0f7a4 2 = .ok (.iconst 0, 1) := by decide +kernel
theorem dJ0_indexOf_0f7a4_3 : decode cJ0_indexOf_0f7a4 3 = .ok (.invokevirtual 633, 3) := by decide +kernel
theorem dJ0_indexOf_0f7a4_6 : decode cJ0_indexOf_0f7a4 6 = .ok (.ireturn, 1) := by decide +kernel
/-! String members over the class's two constants: the JDK's own methods, walked -/
abbrev jF : Nat → Prop := fun _ => False
def SJ (adK adV : Nat → Nat) (U : State) (H : Heap) : Prop := vk_S 2 ev_sl ev_sb adK adV jF U H ∧ va_Z "java/lang/String" "COMPACT_STRINGS" "Z" (.int 1) jF U H ∧ va_Zq "jdk/internal/util/Preconditions" "SIOOBE_FORMATTER" "Ljava/util/function/BiFunction;" jF U H
theorem SJ.kept {adK adV : Nat → Nat} {U : State} {H H1 : Heap} (h : SJ adK adV U H) (hq : ∀ a : Nat, a < H.size → H1[a]? = H[a]?) : SJ adK adV U H1 := ⟨h.1.kept (fun a ha _ => hq a ha), h.2.1.kept (fun a ha _ => hq a ha), h.2.2.kept (fun a ha _ => hq a ha)⟩
theorem SJ.moved {adK adV : Nat → Nat} {u U : State} {H : Heap} (hvm : u.vm.Alike U.vm) (h : SJ adK adV u H) : SJ adK adV U H := ⟨h.1.moved hvm, h.2.1.moved hvm, h.2.2.moved hvm⟩
def jX (M : ev_M) (p : Program) (s : State) (m : MethodId) (args : Array Value) (meth : Method) (c : Code) : Prop := p.tables.exec = Jvm.exec ∧ c.code = M.2.1 ∧ meth.sig.returnType = M.2.2.2.1 ∧ c.maxLocals = M.2.2.1 ∧ s.vm.findClass M.1 = some m.cls ∧ meth.locks = false ∧ ∀ w ∈ ev_tb, w.before args s = true
def jQ : Option Int32 → Array Value → State → Outcome → State → Prop
  | none => va_Qv (fun _ : Unit => True) (fun _ _ => True) jF
  | some x => va_Qi (fun y (_ : Unit) => y = x) (fun _ _ => True) jF
def Jv (adK adV : Nat → Nat) (M : ev_M) (d pc : Nat) (lv : List (Nat × Value)) (st : List Value) (r : Option Int32) : Prop :=
  ∀ (p : Program) (L : Launch) (e : Env) (s : State) (m : MethodId) (args : Array Value) (below : List Frame) (meth : Method) (c : Code) (H : Heap) (locs : List Loc) (ls : Array Slot),
    jX M p s m args meth c → SJ adK adV s s.heap → va_S jF s.heap H locs → lv_has ls M.2.2.1 lv → W p L e (ev_rm d) s m args below meth c H locs 0 0 (MQ below (jQ r) args s 0 0 jF) (F0 m pc ls st)
def jPc (adK adV : Nat → Nat) (As : List Value) : Array Value → State → Prop := va_Pc As (fun U => SJ adK adV U U.heap)
theorem j_blind {adK adV : Nat → Nat} {As : List Value} : FrameBlind (jPc adK adV As) := by
  intro a U g mk q
  exact ⟨q.1, SJ.moved (u := U) (U := U.calling g mk a) (Vm.Alike.refl U.vm) q.2⟩
theorem j_met {adK adV : Nat → Nat} {M : ev_M} {d : Nat} {r : Option Int32} {y : MethodName} {As : List Value} (h : Jv adK adV M d 0 (lv_args 0 As) [] r) (hy : plainName y.cls = true) (hown : y.cls = M.1) (hfit : (lg_sl As).length ≤ M.2.2.1) (L : Launch) :
    Met L y (ev_ws1 y M) (ev_rm d) (jPc adK adV As) (jQ r) 0 0 jF := by
  refine Met.ofW (cc := M.2.1) (maxL := M.2.2.1) (ret := M.2.2.2.1) hy rfl ?_
  intro p e s m args below meth c s₁ B hml hv
  obtain ⟨rfl, hJ⟩ := hv
  have hts := atoms_spec (ws := ev_ws1 y M) B.pre
  have hown2 : s.vm.findClass M.1 = some m.cls := hown ▸ findClass_of_methodNamed B.named
  have hl := lv_entry As (n := M.2.2.1) hfit
  rw [lg_entry_eq]
  exact h p L e s m _ below meth c s.heap [] _ ⟨B.exec, B.bytes, B.returns, hml, hown2, B.notSynchronized, fun w hw => hts w (List.mem_cons_of_mem _ hw)⟩ hJ va_S.rf hl
theorem j_ht {args : Array Value} {s : State} (hts : ∀ w ∈ ev_tb, w.before args s = true) {w : Cond} (hw : w ∈ lw_tbl) (hg : goodWord w = true) : w.before args s = true := hts w (List.mem_filter.mpr ⟨hw, hg⟩)
section
variable {p : Program} {L : Launch} {e : Env} {R : Room} {s : State} {m : MethodId} {args : Array Value} {below : List Frame} {meth : Method} {c : Code} {H : Heap} {locs : List Loc} {cells slots : Nat} {Q : State → Prop} {cc : ByteArray} {pc : Nat} {ls : Array Slot} {rest : List Value} {adK adV : Nat → Nat} {A : Nat → Prop}
theorem j_after {mc : Array Value} {st0 : List Value} {r : Option Int32} (hr : va_Run p L e R s m args below meth c H locs cells slots 0 0 (F0 m pc ls st0) rest (jQ r mc) jF) (hS : va_S A s.heap H locs)
    (kk : ∀ (H1 : Heap) (locs1 : List Loc), (∀ q : Nat, q < H.size → H1[q]? = H[q]?) → va_S A s.heap H1 locs1 → W p L e R s m args below meth c H1 locs1 cells slots Q (F0 m (pc + 3) ls ((r.map Value.int).toList ++ rest))) : W p L e R s m args below meth c H locs cells slots Q (F0 m pc ls st0) := by
  match r, hr, kk with
  | none, hr, kk =>
    refine va_callv (a := mc) hr hS (fun q _ h => h.elim) (fun q h => h.elim) (fun u t H1 locs1 ht hvm hw hB hz1 hk1 hS1 => ?_)
    exact kk H1 locs1 (fun q hq => hk1 q hq (fun h => h)) hS1
  | some x, hr, kk =>
    refine va_calli (a := mc) hr hS (fun q _ h => h.elim) (fun q h => h.elim) (fun y u t H1 locs1 ht hvm hw hB hz1 hk1 hS1 => ?_)
    subst hw
    exact kk H1 locs1 (fun q hq => hk1 q hq (fun h => h)) hS1
theorem j_callS {nL d' idx n : Nat} {own : String} {y : MethodName} {M' : ev_M} {As : List Value} {r : Option Int32} (hx : p.tables.exec = Jvm.exec) (hb : c.code = cc) (hml : c.maxLocals = nL) (hown : s.vm.findClass own = some m.cls) (hts : ∀ w ∈ ev_tb, w.before args s = true) (hJ : SJ adK adV s H) (hS : va_S A s.heap H locs) (hsz : ls.size = nL) (hm : ev_cm y M' n) (hlk : Cond.methodLink own idx y ∈ lw_tbl) (hst : Cond.static y ∈ lw_tbl) (hd : decode cc pc = .ok (.invokestatic idx, 3)) (hdd : d' + 1 ≤ R.frames) (hlo : 64 * d' + 64 ≤ R.locals) (hcs : cells ≤ R.cells ∧ slots ≤ R.slots) (hn : As.length = n) (hfit : (lg_sl As).length ≤ M'.2.2.1) (h8 : (rest.map fun v => v.category).sum ≤ 8) (hcal : Jv adK adV M' d' 0 (lv_args 0 As) [] r)
    (kk : ∀ (H1 : Heap) (locs1 : List Loc), (∀ q : Nat, q < H.size → H1[q]? = H[q]?) → va_S A s.heap H1 locs1 → W p L e R s m args below meth c H1 locs1 cells slots Q (F0 m (pc + 3) ls ((r.map Value.int).toList ++ rest))) : W p L e R s m args below meth c H locs cells slots Q (F0 m pc ls (As.reverse ++ rest)) := by
  obtain ⟨m1, m2, m3, m4, m5, m6⟩ := hm
  have hmet := j_met (y := y) hcal m1 m2 hfit L
  have hroom : (ev_rm d').frames + 1 ≤ R.frames ∧ 8 + (M'.2.2.1 + 11) + (ev_rm d').locals ≤ R.locals := ⟨hdd, by show 8 + (M'.2.2.1 + 11) + 64 * d' ≤ _; omega⟩
  exact j_after (va_runS (As := As) (rest := rest) ⟨hx, hb, hml, hown, hts⟩ hmet ⟨callB_of n hts (ev_good1 m3) rfl rfl rfl (j_ht hts m4 rfl) (j_ht hts hlk rfl) m5 hroom, j_ht hts hst rfl⟩ ⟨j_blind, fun U hU hW => ⟨rfl, by show SJ adK adV U U.heap; rw [hU]; exact hJ.moved hW.alike⟩⟩ rfl hn hsz rfl (lv_room h8) hd hcs) hS kk
theorem j_callV {nL d' idx n i : Nat} {own : String} {y : MethodName} {M' : ev_M} {As : List Value} {r : Option Int32} (hx : p.tables.exec = Jvm.exec) (hb : c.code = cc) (hml : c.maxLocals = nL) (hown : s.vm.findClass own = some m.cls) (hts : ∀ w ∈ ev_tb, w.before args s = true) (hJ : SJ adK adV s H) (hS : va_S A s.heap H locs) (hsz : ls.size = nL) (hi : i < 2) (hcl : y.cls = "java/lang/String") (hm : ev_cm y M' n) (hlk : Cond.methodLink own idx y ∈ lw_tbl) (hin : Cond.instanceMethod y ∈ lw_tbl) (hsel : Cond.selects y.cls y y ∈ lw_tbl) (hd : decode cc pc = .ok (.invokevirtual idx, 3)) (hdd : d' + 1 ≤ R.frames) (hlo : 64 * d' + 64 ≤ R.locals) (hcs : cells ≤ R.cells ∧ slots ≤ R.slots) (hn : As.length = n) (hfit : (lg_sl (.ref (adK i) :: As)).length ≤ M'.2.2.1) (h8 : (rest.map fun v => v.category).sum ≤ 8) (hcal : Jv adK adV M' d' 0 (lv_args 0 (.ref (adK i) :: As)) [] r)
    (kk : ∀ (H1 : Heap) (locs1 : List Loc), (∀ q : Nat, q < H.size → H1[q]? = H[q]?) → va_S A s.heap H1 locs1 → W p L e R s m args below meth c H1 locs1 cells slots Q (F0 m (pc + 3) ls ((r.map Value.int).toList ++ rest))) : W p L e R s m args below meth c H locs cells slots Q (F0 m pc ls (As.reverse ++ .ref (adK i) :: rest)) := by
  obtain ⟨m1, m2, m3, m4, m5, m6⟩ := hm
  have hmet := j_met (y := y) hcal m1 m2 hfit L
  have hroom : (ev_rm d').frames + 1 ≤ R.frames ∧ 8 + (M'.2.2.1 + 11) + (ev_rm d').locals ≤ R.locals := ⟨hdd, by show 8 + (M'.2.2.1 + 11) + 64 * d' ≤ _; omega⟩
  have hrec : ∃ cell : Cell, H[adK i]? = some cell ∧ cell.vm.isStatics = false ∧ s.vm.findClass y.cls = some cell.cls := by
    obtain ⟨cell, h1, h2, h3, -⟩ := (hJ.1.1 i hi).1
    exact ⟨cell, h1, h2, by rw [hcl]; exact h3⟩
  exact j_after (va_runV (As := As) (rest := rest) (b := adK i) ⟨hx, hb, hml, hown, hts⟩ hmet ⟨callB_of n hts (ev_good1 m3) rfl rfl rfl (j_ht hts m4 rfl) (j_ht hts hlk rfl) m5 hroom, j_ht hts hin rfl, j_ht hts hsel rfl⟩ ⟨j_blind, hrec, fun U hU hW => ⟨rfl, by show SJ adK adV U U.heap; rw [hU]; exact hJ.moved hW.alike⟩⟩ rfl hn hsz rfl (lv_room h8) hd hcs) hS kk
end
section
variable {adK adV : Nat → Nat}
abbrev M_J0_coder_7d493 : ev_M := (RJ0, cJ0_coder_7d493, 1, (some .byte), 1)
theorem cj_coder : ev_cm ⟨"java/lang/String", "coder", "()B"⟩ M_J0_coder_7d493 0 := ⟨by decide +kernel, rfl, wj_818, wj_189, ⟨by decide +kernel, by decide +kernel, by decide +kernel⟩, Nat.le_of_ble_eq_true rfl⟩
abbrev M_J0_isLatin1_aae02 : ev_M := (RJ0, cJ0_isLatin1_aae02, 1, (some .boolean), 1)
theorem cj_isLatin1 : ev_cm ⟨"java/lang/String", "isLatin1", "()Z"⟩ M_J0_isLatin1_aae02 0 := ⟨by decide +kernel, rfl, wj_828, wj_189, ⟨by decide +kernel, by decide +kernel, by decide +kernel⟩, Nat.le_of_ble_eq_true rfl⟩
abbrev M_J0_length_8abf5 : ev_M := (RJ0, cJ0_length_8abf5, 1, (some .int), 1)
theorem cj_length : ev_cm ⟨"java/lang/String", "length", "()I"⟩ M_J0_length_8abf5 0 := ⟨by decide +kernel, rfl, wj_814, wj_189, ⟨by decide +kernel, by decide +kernel, by decide +kernel⟩, Nat.le_of_ble_eq_true rfl⟩
abbrev M_J3_checkIndex_8e157 : ev_M := (RJ3, cJ3_checkIndex_8e157, 3, (some .int), 1)
theorem cj_pcheck : ev_cm ⟨"jdk/internal/util/Preconditions", "checkIndex", "(IILjava/util/function/BiFunction;)I"⟩ M_J3_checkIndex_8e157 3 := ⟨by decide +kernel, rfl, wj_839, wj_191, ⟨by decide +kernel, by decide +kernel, by decide +kernel⟩, Nat.le_of_ble_eq_true rfl⟩
abbrev M_J0_checkIndex_df160 : ev_M := (RJ0, cJ0_checkIndex_df160, 2, none, 0)
theorem cj_check : ev_cm ⟨"java/lang/String", "checkIndex", "(II)V"⟩ M_J0_checkIndex_df160 2 := ⟨by decide +kernel, rfl, wj_834, wj_189, ⟨by decide +kernel, by decide +kernel, by decide +kernel⟩, Nat.le_of_ble_eq_true rfl⟩
abbrev M_J1_charAt_3b067 : ev_M := (RJ1, cJ1_charAt_3b067, 2, (some .char), 1)
theorem cj_lchar : ev_cm ⟨"java/lang/StringLatin1", "charAt", "([BI)C"⟩ M_J1_charAt_3b067 2 := ⟨by decide +kernel, rfl, wj_831, wj_190, ⟨by decide +kernel, by decide +kernel, by decide +kernel⟩, Nat.le_of_ble_eq_true rfl⟩
abbrev M_J0_charAt_5068e : ev_M := (RJ0, cJ0_charAt_5068e, 2, (some .char), 1)
theorem cj_char : ev_cm ⟨"java/lang/String", "charAt", "(I)C"⟩ M_J0_charAt_5068e 1 := ⟨by decide +kernel, rfl, wj_824, wj_189, ⟨by decide +kernel, by decide +kernel, by decide +kernel⟩, Nat.le_of_ble_eq_true rfl⟩
abbrev M_J1_canEncode_9a6ad : ev_M := (RJ1, cJ1_canEncode_9a6ad, 1, (some .boolean), 1)
theorem cj_can : ev_cm ⟨"java/lang/StringLatin1", "canEncode", "(I)Z"⟩ M_J1_canEncode_9a6ad 1 := ⟨by decide +kernel, rfl, wj_878, wj_190, ⟨by decide +kernel, by decide +kernel, by decide +kernel⟩, Nat.le_of_ble_eq_true rfl⟩
abbrev M_J1_indexOfChar_4cfef : ev_M := (RJ1, cJ1_indexOfChar_4cfef, 6, (some .int), 1)
theorem cj_ioc : ev_cm ⟨"java/lang/StringLatin1", "indexOfChar", "([BIII)I"⟩ M_J1_indexOfChar_4cfef 4 := ⟨by decide +kernel, rfl, wj_887, wj_190, ⟨by decide +kernel, by decide +kernel, by decide +kernel⟩, Nat.le_of_ble_eq_true rfl⟩
abbrev M_J1_indexOf_4cfef : ev_M := (RJ1, cJ1_indexOf_4cfef, 4, (some .int), 1)
theorem cj_io4 : ev_cm ⟨"java/lang/StringLatin1", "indexOf", "([BIII)I"⟩ M_J1_indexOf_4cfef 4 := ⟨by decide +kernel, rfl, wj_875, wj_190, ⟨by decide +kernel, by decide +kernel, by decide +kernel⟩, Nat.le_of_ble_eq_true rfl⟩
abbrev M_J0_indexOf_7cf53 : ev_M := (RJ0, cJ0_indexOf_7cf53, 3, (some .int), 1)
theorem cj_io2 : ev_cm ⟨"java/lang/String", "indexOf", "(II)I"⟩ M_J0_indexOf_7cf53 2 := ⟨by decide +kernel, rfl, wj_871, wj_189, ⟨by decide +kernel, by decide +kernel, by decide +kernel⟩, Nat.le_of_ble_eq_true rfl⟩
abbrev M_J0_indexOf_0f7a4 : ev_M := (RJ0, cJ0_indexOf_0f7a4, 2, (some .int), 1)
theorem cj_io1 : ev_cm ⟨"java/lang/String", "indexOf", "(I)I"⟩ M_J0_indexOf_0f7a4 1 := ⟨by decide +kernel, rfl, wj_867, wj_189, ⟨by decide +kernel, by decide +kernel, by decide +kernel⟩, Nat.le_of_ble_eq_true rfl⟩
theorem jv_coder {i : Nat} (hi : i < 2) : Jv adK adV M_J0_coder_7d493 0 0 [(0, .ref (adK i))] [] (some 0) := by
  intro p L e s m args below meth c H locs ls X hJ hS hl
  obtain ⟨hx, hb, hr, hml, hown, hlk, hts⟩ := X
  have hJH : SJ adK adV s H := hJ.kept (fun a ha => hS.2.1 a ha (fun h => h))
  refine va_gets hx hb hJ.2.1 hS hown (j_ht hts wj_819 rfl) (fun _ h => h) dJ0_coder_7d493_0 ?_
  refine lv_if_eq (tgt := 13) hx hb dJ0_coder_7d493_3 (by decide) (fun h => absurd h (by decide)) (fun _ => ?_)
  refine lv_aload_n hx hb dJ0_coder_7d493_6 rfl (lv_at hl 0 rfl) ?_
  refine vk_getf hx hb (hJ.1.1 i hi).2.1 hS hown (j_ht hts wj_2159 rfl) (fun _ h => h) dJ0_coder_7d493_7 ?_
  refine lv_goto (tgt := 14) hx hb dJ0_coder_7d493_10 (by decide) ?_
  exact W.zret (ty := .byte) hx hb hr (by decide +kernel) (fun t ht hW => ⟨⟨_, (), rfl, rfl, trivial⟩, hS.F ht⟩) hS.2.2 dJ0_coder_7d493_14 hlk
theorem jv_isLatin1 {i : Nat} (hi : i < 2) : Jv adK adV M_J0_isLatin1_aae02 0 0 [(0, .ref (adK i))] [] (some 1) := by
  intro p L e s m args below meth c H locs ls X hJ hS hl
  obtain ⟨hx, hb, hr, hml, hown, hlk, hts⟩ := X
  have hJH : SJ adK adV s H := hJ.kept (fun a ha => hS.2.1 a ha (fun h => h))
  refine va_gets hx hb hJ.2.1 hS hown (j_ht hts wj_819 rfl) (fun _ h => h) dJ0_isLatin1_aae02_0 ?_
  refine lv_if_eq (tgt := 17) hx hb dJ0_isLatin1_aae02_3 (by decide) (fun h => absurd h (by decide)) (fun _ => ?_)
  refine lv_aload_n hx hb dJ0_isLatin1_aae02_6 rfl (lv_at hl 0 rfl) ?_
  refine vk_getf hx hb (hJ.1.1 i hi).2.1 hS hown (j_ht hts wj_2159 rfl) (fun _ h => h) dJ0_isLatin1_aae02_7 ?_
  refine lv_if_ne (tgt := 17) hx hb dJ0_isLatin1_aae02_10 (by decide) (fun h => absurd rfl h) (fun _ => ?_)
  refine lv_iconst (v := 1) hx hb dJ0_isLatin1_aae02_13 (by decide) ?_
  refine lv_goto (tgt := 18) hx hb dJ0_isLatin1_aae02_14 (by decide) ?_
  exact W.zret (ty := .boolean) hx hb hr (by decide +kernel) (fun t ht hW => ⟨⟨_, (), rfl, rfl, trivial⟩, hS.F ht⟩) hS.2.2 dJ0_isLatin1_aae02_18 hlk
theorem j_shr {i : Nat} (hi : i < 2) : Int32.ofNat (ev_sl.getD i 0) >>> ((0 : Int32) &&& 31) = Int32.ofNat (ev_sl.getD i 0) := by
  match i, hi with
  | 0, _ => decide +kernel
  | 1, _ => decide +kernel
theorem jv_length {i : Nat} (hi : i < 2) : Jv adK adV M_J0_length_8abf5 1 0 [(0, .ref (adK i))] [] (some (Int32.ofNat (ev_sl.getD i 0))) := by
  intro p L e s m args below meth c H locs ls X hJ hS hl
  obtain ⟨hx, hb, hr, hml, hown, hlk, hts⟩ := X
  have hJH : SJ adK adV s H := hJ.kept (fun a ha => hS.2.1 a ha (fun h => h))
  refine lv_aload_n hx hb dJ0_length_8abf5_0 rfl (lv_at hl 0 rfl) ?_
  refine vk_getf hx hb (hJ.1.1 i hi).2.2.1 hS hown (j_ht hts wj_2158 rfl) (fun _ h => h) dJ0_length_8abf5_1 ?_
  refine va_tlen hx hb (hJ.1.1 i hi).2.2.2 hS rfl dJ0_length_8abf5_4 ?_
  refine lv_aload_n hx hb dJ0_length_8abf5_5 rfl (lv_at hl 0 rfl) ?_
  refine j_callV (As := []) (rest := [.int (Int32.ofNat (ev_sl.getD i 0))]) (d' := 0) hx hb hml hown hts hJH hS hl.1 hi rfl cj_coder wj_815 wj_816 wj_817 dJ0_length_8abf5_6 (Nat.le_of_ble_eq_true rfl) (Nat.le_of_ble_eq_true rfl) ⟨Nat.le_refl 0, Nat.le_refl 0⟩ rfl (Nat.le_of_ble_eq_true rfl) (Nat.le_of_ble_eq_true rfl) (jv_coder hi) (fun H locs _ hS => ?_)
  refine lv_ishr hx hb dJ0_length_8abf5_9 ?_
  rw [j_shr hi]
  exact W.zret (ty := .int) hx hb hr (rfl) (fun t ht hW => ⟨⟨_, (), rfl, rfl, trivial⟩, hS.F ht⟩) hS.2.2 dJ0_length_8abf5_10 hlk
theorem jv_pcheck {a n : Int32} {v : Value} (h0 : ¬ a < 0) (h1 : a < n) : Jv adK adV M_J3_checkIndex_8e157 0 0 [(0, .int a), (1, .int n), (2, v)] [] (some a) := by
  intro p L e s m args below meth c H locs ls X hJ hS hl
  obtain ⟨hx, hb, hr, hml, hown, hlk, hts⟩ := X
  have hJH : SJ adK adV s H := hJ.kept (fun a ha => hS.2.1 a ha (fun h => h))
  refine lv_iload_n hx hb dJ3_checkIndex_8e157_0 rfl (lv_at hl 0 rfl) ?_
  refine lv_if_lt (tgt := 9) hx hb dJ3_checkIndex_8e157_1 (by decide) (fun h => absurd h h0) (fun _ => ?_)
  refine lv_iload_n hx hb dJ3_checkIndex_8e157_4 rfl (lv_at hl 0 rfl) ?_
  refine lv_iload_n hx hb dJ3_checkIndex_8e157_5 rfl (lv_at hl 1 rfl) ?_
  refine lv_icmp_lt (tgt := 16) hx hb dJ3_checkIndex_8e157_6 (by decide) (fun _ => ?_) (fun h => absurd h1 h)
  refine lv_iload_n hx hb dJ3_checkIndex_8e157_16 rfl (lv_at hl 0 rfl) ?_
  exact W.zret (ty := .int) hx hb hr (rfl) (fun t ht hW => ⟨⟨_, (), rfl, rfl, trivial⟩, hS.F ht⟩) hS.2.2 dJ3_checkIndex_8e157_17 hlk
theorem jv_check {a n : Int32} (h0 : ¬ a < 0) (h1 : a < n) : Jv adK adV M_J0_checkIndex_df160 1 0 [(0, .int a), (1, .int n)] [] none := by
  intro p L e s m args below meth c H locs ls X hJ hS hl
  obtain ⟨hx, hb, hr, hml, hown, hlk, hts⟩ := X
  have hJH : SJ adK adV s H := hJ.kept (fun a ha => hS.2.1 a ha (fun h => h))
  refine lv_iload_n hx hb dJ0_checkIndex_df160_0 rfl (lv_at hl 0 rfl) ?_
  refine lv_iload_n hx hb dJ0_checkIndex_df160_1 rfl (lv_at hl 1 rfl) ?_
  obtain ⟨v, hv, hZ⟩ : ∃ v : Value, (v.category = 1 ∧ lg_sl [v] = [.val v] ∧ lv_args 2 [v] = [(2, v)]) ∧ va_Z "jdk/internal/util/Preconditions" "SIOOBE_FORMATTER" "Ljava/util/function/BiFunction;" v jF s s.heap := by
    rcases hJ.2.2 with h | ⟨t, h⟩
    · exact ⟨.null, ⟨rfl, rfl, rfl⟩, h⟩
    · exact ⟨.ref t, ⟨rfl, rfl, rfl⟩, h⟩
  refine va_gets hx hb hZ hS hown (j_ht hts wj_835 rfl) (fun _ h => h) dJ0_checkIndex_df160_2 ?_
  refine j_callS (As := [.int a, .int n, v]) (rest := []) (d' := 0) (r := some a) hx hb hml hown hts hJH hS hl.1 cj_pcheck wj_837 wj_838 dJ0_checkIndex_df160_5 (Nat.le_of_ble_eq_true rfl) (Nat.le_of_ble_eq_true rfl) ⟨Nat.le_refl 0, Nat.le_refl 0⟩ rfl ?_ (Nat.le_of_ble_eq_true rfl) ?_ (fun H locs _ hS => ?_)
  · show (([Slot.val (.int a)] ++ ([Slot.val (.int n)] ++ lg_sl [v])) : List Slot).length ≤ 3
    rw [hv.2.1]
    exact Nat.le_refl 3
  · show Jv adK adV M_J3_checkIndex_8e157 0 0 ((0, .int a) :: (1, .int n) :: lv_args 2 [v]) [] (some a)
    rw [hv.2.2]
    exact jv_pcheck h0 h1
  refine lv_pop hx hb dJ0_checkIndex_df160_8 rfl ?_
  exact W.vret hx hb hr (fun t ht hW => ⟨⟨(), rfl, trivial, trivial⟩, hS.F ht⟩) hS.2.2 dJ0_checkIndex_df160_9 hlk
theorem j_chr : ∀ a : Fin 176, ((((ev_sb.getD 0 []).getD a.val 0) &&& 255).toUInt32 % 65536).toInt32 = Int32.ofInt (((ctab.getD a.val 0 : Nat)) : Int) ∧ narrow .char (.int (Int32.ofInt (((ctab.getD a.val 0 : Nat)) : Int))) = .int (Int32.ofInt (((ctab.getD a.val 0 : Nat)) : Int)) := by decide +kernel
theorem jv_lchar {a : Nat} (ha : a < 176) : Jv adK adV M_J1_charAt_3b067 2 0 [(0, .ref (adV 0)), (1, .int (Int32.ofInt (a : Int)))] [] (some (Int32.ofInt (((ctab.getD a 0 : Nat)) : Int))) := by
  intro p L e s m args below meth c H locs ls X hJ hS hl
  obtain ⟨hx, hb, hr, hml, hown, hlk, hts⟩ := X
  have hJH : SJ adK adV s H := hJ.kept (fun a ha => hS.2.1 a ha (fun h => h))
  have hr0 : ev_R (a : Int) := ⟨by omega, by omega⟩
  have h0 : ¬ (Int32.ofInt (a : Int) < 0) := fun q => by
    have := (ev_lt hr0 ev_R0).mp q
    omega
  have h1 : Int32.ofInt (a : Int) < Int32.ofNat (ev_sl.getD 0 0) := by
    have e9 : Int32.ofNat (ev_sl.getD 0 0) = Int32.ofInt 176 := by decide +kernel
    rw [e9]
    exact (ev_lt hr0 ⟨by omega, by omega⟩).mpr (by omega)
  refine lv_iload_n hx hb dJ1_charAt_3b067_0 rfl (lv_at hl 1 rfl) ?_
  refine lv_aload_n hx hb dJ1_charAt_3b067_1 rfl (lv_at hl 0 rfl) ?_
  refine va_tlen hx hb (hJ.1.1 0 (by omega)).2.2.2 hS rfl dJ1_charAt_3b067_2 ?_
  refine j_callS (As := [.int (Int32.ofInt (a : Int)), .int (Int32.ofNat (ev_sl.getD 0 0))]) (rest := []) (d' := 1) (r := none) hx hb hml hown hts hJH hS hl.1 cj_check wj_832 wj_833 dJ1_charAt_3b067_3 (Nat.le_of_ble_eq_true rfl) (Nat.le_of_ble_eq_true rfl) ⟨Nat.le_refl 0, Nat.le_refl 0⟩ rfl (Nat.le_of_ble_eq_true rfl) (Nat.le_of_ble_eq_true rfl) (jv_check h0 h1) (fun H locs _ hS => ?_)
  refine lv_aload_n hx hb dJ1_charAt_3b067_6 rfl (lv_at hl 0 rfl) ?_
  refine lv_iload_n hx hb dJ1_charAt_3b067_7 rfl (lv_at hl 1 rfl) ?_
  refine va_tb hx hb (hJ.1.1 0 (by omega)).2.2.2 hS (ev_vin hr0 ⟨by omega, by show (a : Int) < ((176 : Nat) : Int); omega⟩) rfl dJ1_charAt_3b067_8 ?_
  rw [ev_clamp hr0, Int.toNat_natCast]
  refine lv_sipush (v := 255) hx hb dJ1_charAt_3b067_9 (by decide +kernel) ?_
  refine lv_iand hx hb dJ1_charAt_3b067_12 ?_
  refine lv_i2c hx hb dJ1_charAt_3b067_13 (j_chr ⟨a, ha⟩).1 ?_
  exact W.zret (ty := .char) hx hb hr ((j_chr ⟨a, ha⟩).2) (fun t ht hW => ⟨⟨_, (), rfl, rfl, trivial⟩, hS.F ht⟩) hS.2.2 dJ1_charAt_3b067_14 hlk
theorem jv_char {a : Nat} (ha : a < 176) : Jv adK adV M_J0_charAt_5068e 3 0 [(0, .ref (adK 0)), (1, .int (Int32.ofInt (a : Int)))] [] (some (Int32.ofInt (((ctab.getD a 0 : Nat)) : Int))) := by
  intro p L e s m args below meth c H locs ls X hJ hS hl
  obtain ⟨hx, hb, hr, hml, hown, hlk, hts⟩ := X
  have hJH : SJ adK adV s H := hJ.kept (fun a ha => hS.2.1 a ha (fun h => h))
  refine lv_aload_n hx hb dJ0_charAt_5068e_0 rfl (lv_at hl 0 rfl) ?_
  refine j_callV (As := []) (rest := []) (i := 0) (d' := 0) hx hb hml hown hts hJH hS hl.1 (by omega) rfl cj_isLatin1 wj_825 wj_826 wj_827 dJ0_charAt_5068e_1 (Nat.le_of_ble_eq_true rfl) (Nat.le_of_ble_eq_true rfl) ⟨Nat.le_refl 0, Nat.le_refl 0⟩ rfl (Nat.le_of_ble_eq_true rfl) (Nat.le_of_ble_eq_true rfl) (jv_isLatin1 (by omega)) (fun H locs _ hS => ?_)
  have hJH : SJ adK adV s H := hJ.kept (fun a ha => hS.2.1 a ha (fun h => h))
  refine lv_if_eq (tgt := 16) hx hb dJ0_charAt_5068e_4 (by decide) (fun h => absurd h (by decide)) (fun _ => ?_)
  refine lv_aload_n hx hb dJ0_charAt_5068e_7 rfl (lv_at hl 0 rfl) ?_
  refine vk_getf hx hb (hJ.1.1 0 (by omega)).2.2.1 hS hown (j_ht hts wj_2158 rfl) (fun _ h => h) dJ0_charAt_5068e_8 ?_
  refine lv_iload_n hx hb dJ0_charAt_5068e_11 rfl (lv_at hl 1 rfl) ?_
  refine j_callS (As := [.ref (adV 0), .int (Int32.ofInt (a : Int))]) (rest := []) (d' := 2) hx hb hml hown hts hJH hS hl.1 cj_lchar wj_829 wj_830 dJ0_charAt_5068e_12 (Nat.le_of_ble_eq_true rfl) (Nat.le_of_ble_eq_true rfl) ⟨Nat.le_refl 0, Nat.le_refl 0⟩ rfl (Nat.le_of_ble_eq_true rfl) (Nat.le_of_ble_eq_true rfl) (jv_lchar ha) (fun H locs _ hS => ?_)
  exact W.zret (ty := .char) hx hb hr ((j_chr ⟨a, ha⟩).2) (fun t ht hW => ⟨⟨_, (), rfl, rfl, trivial⟩, hS.F ht⟩) hS.2.2 dJ0_charAt_5068e_15 hlk
theorem jv_can {a : Int32} (h0 : ¬ a < 0) (h1 : ¬ 255 < a) : Jv adK adV M_J1_canEncode_9a6ad 0 0 [(0, .int a)] [] (some 1) := by
  intro p L e s m args below meth c H locs ls X hJ hS hl
  obtain ⟨hx, hb, hr, hml, hown, hlk, hts⟩ := X
  have hJH : SJ adK adV s H := hJ.kept (fun a ha => hS.2.1 a ha (fun h => h))
  refine lv_iload_n hx hb dJ1_canEncode_9a6ad_0 rfl (lv_at hl 0 rfl) ?_
  refine lv_if_lt (tgt := 15) hx hb dJ1_canEncode_9a6ad_1 (by decide) (fun h => absurd h h0) (fun _ => ?_)
  refine lv_iload_n hx hb dJ1_canEncode_9a6ad_4 rfl (lv_at hl 0 rfl) ?_
  refine lv_sipush (v := 255) hx hb dJ1_canEncode_9a6ad_5 (by decide +kernel) ?_
  refine lv_icmp_gt (tgt := 15) hx hb dJ1_canEncode_9a6ad_8 (by decide) (fun h => absurd h h1) (fun _ => ?_)
  refine lv_iconst (v := 1) hx hb dJ1_canEncode_9a6ad_11 (by decide) ?_
  refine lv_goto (tgt := 16) hx hb dJ1_canEncode_9a6ad_12 (by decide) ?_
  exact W.zret (ty := .boolean) hx hb hr (by decide +kernel) (fun t ht hW => ⟨⟨_, (), rfl, rfl, trivial⟩, hS.F ht⟩) hS.2.2 dJ1_canEncode_9a6ad_16 hlk
/-- the place of c in what is left of the signs -/
def j_ix (c : Int32) : List Int32 → Nat → Int32
  | [], _ => -1
  | b :: l, k => if b = c then Int32.ofInt (k : Int) else j_ix c l (k + 1)
abbrev j_B : List Int32 := ev_sb.getD 1 []
theorem jv_iocL {c1 c0 z : Int32} : ∀ (l : List Int32) (k : Nat), j_B.drop k = l → k ≤ 10 → Jv adK adV M_J1_indexOfChar_4cfef 0 7 [(5, .int (Int32.ofInt (k : Int))), (4, .int c1), (0, .ref (adV 1)), (1, .int c0), (2, .int z), (3, .int (Int32.ofInt 10))] [] (some (j_ix c1 l k)) := by
  intro l
  induction l with
  | nil =>
    intro k e hk
    have q : 10 ≤ k := List.drop_eq_nil_iff.mp e
    have hk0 : ev_R (k : Int) := ⟨by omega, by omega⟩
    intro p L e s m args below meth c H locs ls X hJ hS hl
    obtain ⟨hx, hb, hr, hml, hown, hlk, hts⟩ := X
    have hJH : SJ adK adV s H := hJ.kept (fun a ha => hS.2.1 a ha (fun h => h))
    refine lv_iload hx hb dJ1_indexOfChar_4cfef_7 (lv_at hl 0 rfl) ?_
    refine lv_iload_n hx hb dJ1_indexOfChar_4cfef_9 rfl (lv_at hl 5 rfl) ?_
    refine lv_icmp_ge (tgt := 31) hx hb dJ1_indexOfChar_4cfef_10 (by decide) (fun _ => ?_) (fun h => absurd ((ev_le (ev_Rc rfl) hk0).mpr (by omega)) h)
    refine lv_iconst (v := -1) hx hb dJ1_indexOfChar_4cfef_31 (by decide) ?_
    exact W.zret (ty := .int) hx hb hr (rfl) (fun t ht hW => ⟨⟨_, (), rfl, rfl, trivial⟩, hS.F ht⟩) hS.2.2 dJ1_indexOfChar_4cfef_32 hlk
  | cons b l ih =>
    intro k e hk
    have q : k < 10 := by
      rcases Nat.lt_or_ge k 10 with h | h
      · exact h
      · rw [List.drop_eq_nil_of_le (show j_B.length ≤ k from h)] at e
        cases e
    have hk0 : ev_R (k : Int) := ⟨by omega, by omega⟩
    have hget : j_B.getD k 0 = b ∧ j_B.drop (k + 1) = l := by
      have h1 := List.drop_eq_getElem_cons (l := j_B) (i := k) (show k < j_B.length from q)
      rw [e] at h1
      injection h1 with h2 h3
      refine ⟨?_, h3.symm⟩
      rw [List.getD_eq_getElem?_getD, List.getElem?_eq_getElem (show k < j_B.length from q)]
      exact h2.symm
    intro p L e s m args below meth c H locs ls X hJ hS hl
    obtain ⟨hx, hb, hr, hml, hown, hlk, hts⟩ := X
    have hJH : SJ adK adV s H := hJ.kept (fun a ha => hS.2.1 a ha (fun h => h))
    refine lv_iload hx hb dJ1_indexOfChar_4cfef_7 (lv_at hl 0 rfl) ?_
    refine lv_iload_n hx hb dJ1_indexOfChar_4cfef_9 rfl (lv_at hl 5 rfl) ?_
    refine lv_icmp_ge (tgt := 31) hx hb dJ1_indexOfChar_4cfef_10 (by decide) (fun h => absurd ((ev_le (ev_Rc rfl) hk0).mp h) (by omega)) (fun _ => ?_)
    refine lv_aload_n hx hb dJ1_indexOfChar_4cfef_13 rfl (lv_at hl 2 rfl) ?_
    refine lv_iload hx hb dJ1_indexOfChar_4cfef_14 (lv_at hl 0 rfl) ?_
    refine va_tb (v := .int b) hx hb (hJ.1.1 1 (by omega)).2.2.2 hS (ev_vin hk0 ⟨by omega, by show (k : Int) < ((10 : Nat) : Int); omega⟩) (by rw [ev_clamp hk0, Int.toNat_natCast]; exact congrArg Value.int hget.1) dJ1_indexOfChar_4cfef_16 ?_
    refine lv_iload hx hb dJ1_indexOfChar_4cfef_17 (lv_at hl 1 rfl) ?_
    refine lv_icmp_ne (tgt := 25) hx hb dJ1_indexOfChar_4cfef_19 (by decide) (fun hne => ?_) (fun heq => ?_)
    · refine lv_iinc (k := 0) (v := Int32.ofInt ((k + 1 : Nat) : Int)) (lv' := [(5, .int (Int32.ofInt ((k + 1 : Nat) : Int))), (4, .int c1), (0, .ref (adV 1)), (1, .int c0), (2, .int z), (3, .int (Int32.ofInt 10))]) hx hb dJ1_indexOfChar_4cfef_25 hl rfl (by rw [← Int32.ofInt_add]; rfl) (Nat.le_of_ble_eq_true rfl) rfl (fun ls hl => ?_)
      refine lv_goto (tgt := 7) hx hb dJ1_indexOfChar_4cfef_28 (by decide) ?_
      have h := ih (k + 1) hget.2 (by omega) p L e s m args below meth c H locs ls ⟨hx, hb, hr, hml, hown, hlk, hts⟩ hJ hS hl
      rw [show j_ix c1 (b :: l) k = j_ix c1 l (k + 1) from if_neg hne]
      exact h
    · refine lv_iload hx hb dJ1_indexOfChar_4cfef_22 (lv_at hl 0 rfl) ?_
      rw [show j_ix c1 (b :: l) k = Int32.ofInt (k : Int) from if_pos heq]
      exact W.zret (ty := .int) hx hb hr (rfl) (fun t ht hW => ⟨⟨_, (), rfl, rfl, trivial⟩, hS.F ht⟩) hS.2.2 dJ1_indexOfChar_4cfef_24 hlk
theorem jv_ioc {c0 : Int32} : Jv adK adV M_J1_indexOfChar_4cfef 0 0 [(0, .ref (adV 1)), (1, .int c0), (2, .int (Int32.ofInt 0)), (3, .int (Int32.ofInt 10))] [] (some (j_ix c0.toInt8.toInt32 j_B 0)) := by
  intro p L e s m args below meth c H locs ls X hJ hS hl
  obtain ⟨hx, hb, hr, hml, hown, hlk, hts⟩ := X
  have hJH : SJ adK adV s H := hJ.kept (fun a ha => hS.2.1 a ha (fun h => h))
  refine lv_iload_n hx hb dJ1_indexOfChar_4cfef_0 rfl (lv_at hl 1 rfl) ?_
  refine lv_i2b hx hb dJ1_indexOfChar_4cfef_1 rfl ?_
  refine lv_istore (lv' := [(4, .int c0.toInt8.toInt32), (0, .ref (adV 1)), (1, .int c0), (2, .int (Int32.ofInt 0)), (3, .int (Int32.ofInt 10))]) hx hb dJ1_indexOfChar_4cfef_2 hl (Nat.le_of_ble_eq_true rfl) rfl (fun ls hl => ?_)
  refine lv_iload_n hx hb dJ1_indexOfChar_4cfef_4 rfl (lv_at hl 3 rfl) ?_
  refine lv_istore (lv' := [(5, .int (Int32.ofInt 0)), (4, .int c0.toInt8.toInt32), (0, .ref (adV 1)), (1, .int c0), (2, .int (Int32.ofInt 0)), (3, .int (Int32.ofInt 10))]) hx hb dJ1_indexOfChar_4cfef_5 hl (Nat.le_of_ble_eq_true rfl) rfl (fun ls hl => ?_)
  exact jv_iocL j_B 0 rfl (by omega) p L e s m args below meth c H locs ls ⟨hx, hb, hr, hml, hown, hlk, hts⟩ hJ hS hl
theorem jv_io4 {c0 : Int32} (h0 : ¬ c0 < 0) (h1 : ¬ 255 < c0) : Jv adK adV M_J1_indexOf_4cfef 1 0 [(0, .ref (adV 1)), (1, .int c0), (2, .int (Int32.ofInt 0)), (3, .int (Int32.ofInt 10))] [] (some (j_ix c0.toInt8.toInt32 j_B 0)) := by
  intro p L e s m args below meth c H locs ls X hJ hS hl
  obtain ⟨hx, hb, hr, hml, hown, hlk, hts⟩ := X
  have hJH : SJ adK adV s H := hJ.kept (fun a ha => hS.2.1 a ha (fun h => h))
  refine lv_iload_n hx hb dJ1_indexOf_4cfef_0 rfl (lv_at hl 1 rfl) ?_
  refine j_callS (As := [.int c0]) (rest := []) (d' := 0) hx hb hml hown hts hJH hS hl.1 cj_can wj_876 wj_877 dJ1_indexOf_4cfef_1 (Nat.le_of_ble_eq_true rfl) (Nat.le_of_ble_eq_true rfl) ⟨Nat.le_refl 0, Nat.le_refl 0⟩ rfl (Nat.le_of_ble_eq_true rfl) (Nat.le_of_ble_eq_true rfl) (jv_can h0 h1) (fun H locs _ hS => ?_)
  have hJH : SJ adK adV s H := hJ.kept (fun a ha => hS.2.1 a ha (fun h => h))
  refine lv_if_ne (tgt := 9) hx hb dJ1_indexOf_4cfef_4 (by decide) (fun _ => ?_) (fun h => absurd h (by decide))
  refine lv_iload_n hx hb dJ1_indexOf_4cfef_9 rfl (lv_at hl 2 rfl) ?_
  refine lv_iconst (v := 0) hx hb dJ1_indexOf_4cfef_10 (by decide) ?_
  refine va_mmax (rest := []) hx hb (by rw [hml, hl.1]) hown (j_ht hts wj_879 rfl) (j_ht hts mw_smax rfl) (j_ht hts mw_i rfl) (j_ht hts mw_cmax rfl) (Nat.le_of_ble_eq_true rfl) (Nat.le_of_ble_eq_true rfl) (Nat.le_refl 0) (Nat.le_refl 0) dJ1_indexOf_4cfef_11 ?_
  refine lv_istore_n (lv' := [(2, .int (Int32.ofInt 0)), (0, .ref (adV 1)), (1, .int c0), (3, .int (Int32.ofInt 10))]) hx hb dJ1_indexOf_4cfef_14 rfl hl (Nat.le_of_ble_eq_true rfl) rfl (fun ls hl => ?_)
  refine lv_iload_n hx hb dJ1_indexOf_4cfef_15 rfl (lv_at hl 3 rfl) ?_
  refine lv_aload_n hx hb dJ1_indexOf_4cfef_16 rfl (lv_at hl 1 rfl) ?_
  refine va_tlen (v := Int32.ofInt 10) hx hb (hJ.1.1 1 (by omega)).2.2.2 hS (by decide +kernel) dJ1_indexOf_4cfef_17 ?_
  refine va_mmin (rest := []) hx hb (by rw [hml, hl.1]) hown (j_ht hts wj_882 rfl) (j_ht hts mw_smin rfl) (j_ht hts mw_i rfl) (j_ht hts mw_cmin rfl) (Nat.le_of_ble_eq_true rfl) (Nat.le_of_ble_eq_true rfl) (Nat.le_refl 0) (Nat.le_refl 0) dJ1_indexOf_4cfef_18 ?_
  refine lv_istore_n (lv' := [(3, .int (Int32.ofInt 10)), (2, .int (Int32.ofInt 0)), (0, .ref (adV 1)), (1, .int c0)]) hx hb dJ1_indexOf_4cfef_21 rfl hl (Nat.le_of_ble_eq_true rfl) rfl (fun ls hl => ?_)
  refine lv_iload_n hx hb dJ1_indexOf_4cfef_22 rfl (lv_at hl 1 rfl) ?_
  refine lv_iload_n hx hb dJ1_indexOf_4cfef_23 rfl (lv_at hl 0 rfl) ?_
  refine lv_icmp_lt (tgt := 29) hx hb dJ1_indexOf_4cfef_24 (by decide) (fun _ => ?_) (fun h => absurd (by decide +kernel) h)
  refine lv_aload_n hx hb dJ1_indexOf_4cfef_29 rfl (lv_at hl 2 rfl) ?_
  refine lv_iload_n hx hb dJ1_indexOf_4cfef_30 rfl (lv_at hl 3 rfl) ?_
  refine lv_iload_n hx hb dJ1_indexOf_4cfef_31 rfl (lv_at hl 1 rfl) ?_
  refine lv_iload_n hx hb dJ1_indexOf_4cfef_32 rfl (lv_at hl 0 rfl) ?_
  refine j_callS (As := [.ref (adV 1), .int c0, .int (Int32.ofInt 0), .int (Int32.ofInt 10)]) (rest := []) (d' := 0) hx hb hml hown hts hJH hS hl.1 cj_ioc wj_885 wj_886 dJ1_indexOf_4cfef_33 (Nat.le_of_ble_eq_true rfl) (Nat.le_of_ble_eq_true rfl) ⟨Nat.le_refl 0, Nat.le_refl 0⟩ rfl (Nat.le_of_ble_eq_true rfl) (Nat.le_of_ble_eq_true rfl) jv_ioc (fun H locs _ hS => ?_)
  exact W.zret (ty := .int) hx hb hr (rfl) (fun t ht hW => ⟨⟨_, (), rfl, rfl, trivial⟩, hS.F ht⟩) hS.2.2 dJ1_indexOf_4cfef_36 hlk
theorem jv_io2 {c0 : Int32} (h0 : ¬ c0 < 0) (h1 : ¬ 255 < c0) : Jv adK adV M_J0_indexOf_7cf53 2 0 [(0, .ref (adK 1)), (1, .int c0), (2, .int (Int32.ofInt 0))] [] (some (j_ix c0.toInt8.toInt32 j_B 0)) := by
  intro p L e s m args below meth c H locs ls X hJ hS hl
  obtain ⟨hx, hb, hr, hml, hown, hlk, hts⟩ := X
  have hJH : SJ adK adV s H := hJ.kept (fun a ha => hS.2.1 a ha (fun h => h))
  refine lv_aload_n hx hb dJ0_indexOf_7cf53_0 rfl (lv_at hl 0 rfl) ?_
  refine j_callV (As := []) (rest := []) (i := 1) (d' := 0) hx hb hml hown hts hJH hS hl.1 (by omega) rfl cj_isLatin1 wj_825 wj_826 wj_827 dJ0_indexOf_7cf53_1 (Nat.le_of_ble_eq_true rfl) (Nat.le_of_ble_eq_true rfl) ⟨Nat.le_refl 0, Nat.le_refl 0⟩ rfl (Nat.le_of_ble_eq_true rfl) (Nat.le_of_ble_eq_true rfl) (jv_isLatin1 (by omega)) (fun H locs _ hS => ?_)
  have hJH : SJ adK adV s H := hJ.kept (fun a ha => hS.2.1 a ha (fun h => h))
  refine lv_if_eq (tgt := 23) hx hb dJ0_indexOf_7cf53_4 (by decide) (fun h => absurd h (by decide)) (fun _ => ?_)
  refine lv_aload_n hx hb dJ0_indexOf_7cf53_7 rfl (lv_at hl 0 rfl) ?_
  refine vk_getf hx hb (hJ.1.1 1 (by omega)).2.2.1 hS hown (j_ht hts wj_2158 rfl) (fun _ h => h) dJ0_indexOf_7cf53_8 ?_
  refine lv_iload_n hx hb dJ0_indexOf_7cf53_11 rfl (lv_at hl 1 rfl) ?_
  refine lv_iload_n hx hb dJ0_indexOf_7cf53_12 rfl (lv_at hl 2 rfl) ?_
  refine lv_aload_n hx hb dJ0_indexOf_7cf53_13 rfl (lv_at hl 0 rfl) ?_
  refine j_callV (As := []) (rest := [.int (Int32.ofInt 0), .int c0, .ref (adV 1)]) (i := 1) (d' := 1) hx hb hml hown hts hJH hS hl.1 (by omega) rfl cj_length wj_872 wj_812 wj_813 dJ0_indexOf_7cf53_14 (Nat.le_of_ble_eq_true rfl) (Nat.le_of_ble_eq_true rfl) ⟨Nat.le_refl 0, Nat.le_refl 0⟩ rfl (Nat.le_of_ble_eq_true rfl) (Nat.le_of_ble_eq_true rfl) (jv_length (by omega)) (fun H locs _ hS => ?_)
  have hJH : SJ adK adV s H := hJ.kept (fun a ha => hS.2.1 a ha (fun h => h))
  have e9 : Int32.ofNat (ev_sl.getD 1 0) = Int32.ofInt 10 := by decide +kernel
  rw [e9]
  refine j_callS (As := [.ref (adV 1), .int c0, .int (Int32.ofInt 0), .int (Int32.ofInt 10)]) (rest := []) (d' := 1) hx hb hml hown hts hJH hS hl.1 cj_io4 wj_873 wj_874 dJ0_indexOf_7cf53_17 (Nat.le_of_ble_eq_true rfl) (Nat.le_of_ble_eq_true rfl) ⟨Nat.le_refl 0, Nat.le_refl 0⟩ rfl (Nat.le_of_ble_eq_true rfl) (Nat.le_of_ble_eq_true rfl) (jv_io4 h0 h1) (fun H locs _ hS => ?_)
  refine lv_goto (tgt := 36) hx hb dJ0_indexOf_7cf53_20 (by decide) ?_
  exact W.zret (ty := .int) hx hb hr (rfl) (fun t ht hW => ⟨⟨_, (), rfl, rfl, trivial⟩, hS.F ht⟩) hS.2.2 dJ0_indexOf_7cf53_36 hlk
theorem jv_io1 {c0 : Int32} (h0 : ¬ c0 < 0) (h1 : ¬ 255 < c0) : Jv adK adV M_J0_indexOf_0f7a4 3 0 [(0, .ref (adK 1)), (1, .int c0)] [] (some (j_ix c0.toInt8.toInt32 j_B 0)) := by
  intro p L e s m args below meth c H locs ls X hJ hS hl
  obtain ⟨hx, hb, hr, hml, hown, hlk, hts⟩ := X
  have hJH : SJ adK adV s H := hJ.kept (fun a ha => hS.2.1 a ha (fun h => h))
  refine lv_aload_n hx hb dJ0_indexOf_0f7a4_0 rfl (lv_at hl 0 rfl) ?_
  refine lv_iload_n hx hb dJ0_indexOf_0f7a4_1 rfl (lv_at hl 1 rfl) ?_
  refine lv_iconst (v := Int32.ofInt 0) hx hb dJ0_indexOf_0f7a4_2 rfl ?_
  refine j_callV (As := [.int c0, .int (Int32.ofInt 0)]) (rest := []) (i := 1) (d' := 2) hx hb hml hown hts hJH hS hl.1 (by omega) rfl cj_io2 wj_868 wj_869 wj_870 dJ0_indexOf_0f7a4_3 (Nat.le_of_ble_eq_true rfl) (Nat.le_of_ble_eq_true rfl) ⟨Nat.le_refl 0, Nat.le_refl 0⟩ rfl (Nat.le_of_ble_eq_true rfl) (Nat.le_of_ble_eq_true rfl) (jv_io2 h0 h1) (fun H locs _ hS => ?_)
  exact W.zret (ty := .int) hx hb hr (rfl) (fun t ht hW => ⟨⟨_, (), rfl, rfl, trivial⟩, hS.F ht⟩) hS.2.2 dJ0_indexOf_0f7a4_6 hlk
end
/-! and at the class -/
theorem j_SJ {A : Nat → Prop} {s : State} {H : Heap} {adK adV : Nat → Nat} (h1 : vk_S 2 ev_sl ev_sb adK adV A s s.heap) (h2 : va_Z "java/lang/String" "COMPACT_STRINGS" "Z" (.int 1) A s s.heap) (h3 : va_Zq "jdk/internal/util/Preconditions" "SIOOBE_FORMATTER" "Ljava/util/function/BiFunction;" A s s.heap) (hq : ∀ a : Nat, a < s.heap.size → ¬ A a → H[a]? = s.heap[a]?) : SJ adK adV s H := ⟨(h1.kept hq).narrow (fun _ h => h.elim), (h2.kept hq).narrow (fun _ h => h.elim), (h3.kept hq).narrow (fun _ h => h.elim)⟩
theorem j_H {Y : List ev_C} {D : va_G} {ct : Nat → ClassId} {ad : Nat → Nat} {A : Nat → Prop} {s : State} {H H1 : Heap} {locs locs1 : List Loc} {σ : ev_S} (h : ev_H Y D ct ad A s H locs σ) (hk : ∀ q : Nat, q < H.size → H1[q]? = H[q]?) (hS : va_S A s.heap H1 locs1) : ev_H Y D ct ad A s H1 locs1 σ := ⟨h.1.kept (fun k x hx => hk x.1 ((h.1 k x hx).lt)), h.2.1, hS, h.2.2.2⟩
theorem Ev_slen {Y : List ev_C} {M : ev_M} {d pc : Nat} {l : List (Nat × ev_V)} {st : List ev_V} {σ : ev_S} {Q : Option ev_V → ev_S → Prop} (hM : M.1 = "AngelTown$Tape") (hd : decode M.2.1 pc = .ok (.ldc 51, 2)) (hd2 : decode M.2.1 (pc + 2) = .ok (.invokevirtual 53, 3)) (h8 : ev_st8 st) (k : Ev Y M (d + 6) (pc + 5) l (ev_i 176 :: st) σ Q) : Ev Y M (d + 6) pc l st σ Q := by
  intro p L e s m args below meth c D ct ad A H locs ls X hH hl ho hs
  obtain ⟨⟨adK, adV, t1, t2, t3⟩, t4, t5⟩ := X.2.2.2.2.2.2.2.2.2.2
  refine va_ldcS X.1 X.2.1 (hM ▸ X.2.2.2.2.1) t2 hd ?_
  refine j_callV (own := "AngelTown$Tape") (As := []) (rest := st.map (ev_v ad)) (i := 0) (d' := 1) X.1 X.2.1 X.2.2.2.1 (hM ▸ X.2.2.2.2.1) X.2.2.2.2.2.2.1 (j_SJ t1 t4 t5 hH.2.2.1.2.1) hH.2.2.1 hl.1 (by omega) rfl cj_length wj_811 wj_812 wj_813 hd2 (by show 2 ≤ d + 6; omega) (by show 128 ≤ 64 * (d + 6); omega) ⟨Nat.le_refl 0, Nat.le_refl 0⟩ rfl (Nat.le_of_ble_eq_true rfl) (ev_st8_ok h8) (jv_length (by omega)) (fun H1 locs1 hk hS1 => ?_)
  exact k p L e s m args below meth c D ct ad A H1 locs1 ls X (j_H hH hk hS1) hl ho (ev_oks_cons (show ev_R 176 from ev_Rc rfl) hs)
theorem Ev_schar {Y : List ev_C} {M : ev_M} {d pc : Nat} {l : List (Nat × ev_V)} {st : List ev_V} {σ : ev_S} {Q : Option ev_V → ev_S → Prop} {x : Int} {i : Nat} (j : Nat) (hM : M.1 = "AngelTown$Tape") (hd : decode M.2.1 pc = .ok (.ldc 51, 2)) (hd2 : decode M.2.1 (pc + 2) = .ok (.iload i, 2)) (hj : l[j]? = some (i, ev_i x)) (hd3 : decode M.2.1 (pc + 4) = .ok (.invokevirtual 56, 3)) (hx : 0 ≤ x ∧ x < 176) (h8 : ev_st8 st) (k : Ev Y M (d + 6) (pc + 7) l (ev_i (ev_ch x) :: st) σ Q) : Ev Y M (d + 6) pc l st σ Q := by
  obtain ⟨a, rfl⟩ := Int.eq_ofNat_of_zero_le hx.1
  intro p L e s m args below meth c D ct ad A H locs ls X hH hl ho hs
  obtain ⟨⟨adK, adV, t1, t2, t3⟩, t4, t5⟩ := X.2.2.2.2.2.2.2.2.2.2
  refine va_ldcS X.1 X.2.1 (hM ▸ X.2.2.2.2.1) t2 hd ?_
  refine lv_iload X.1 X.2.1 hd2 (ev_lat hl hj) ?_
  have hc : ev_R (ev_ch (a : Int)) := by
    have h : ∀ a : Fin 176, decide (((ctab.getD a.val 0 : Nat) : Int) ≤ 1000) = true := by decide +kernel
    have h2 := of_decide_eq_true (h ⟨a, by omega⟩)
    show ev_R ((ctab.getD ((a : Int).toNat) 0 : Nat) : Int)
    rw [Int.toNat_natCast]
    exact ⟨by omega, by simp only at h2; omega⟩
  refine j_callV (own := "AngelTown$Tape") (As := [.int (Int32.ofInt (a : Int))]) (rest := st.map (ev_v ad)) (i := 0) (d' := 3) X.1 X.2.1 X.2.2.2.1 (hM ▸ X.2.2.2.2.1) X.2.2.2.2.2.2.1 (j_SJ t1 t4 t5 hH.2.2.1.2.1) hH.2.2.1 hl.1 (by omega) rfl cj_char wj_821 wj_822 wj_823 hd3 (by show 4 ≤ d + 6; omega) (by show 256 ≤ 64 * (d + 6); omega) ⟨Nat.le_refl 0, Nat.le_refl 0⟩ rfl (Nat.le_of_ble_eq_true rfl) (ev_st8_ok h8) (jv_char (a := a) (by omega)) (fun H1 locs1 hk hS1 => ?_)
  exact k p L e s m args below meth c D ct ad A H1 locs1 ls X (j_H hH hk hS1) hl ho (ev_oks_cons hc hs)
theorem j_sign : ∀ c : Fin 128, (decide (0 ≤ (j_ix (Int32.ofInt (c.val : Int)).toInt8.toInt32 j_B 0).toInt) = cSi (c.val : Int)) := by decide +kernel
theorem Ev_sidx {d : Nat} {l : List (Nat × ev_V)} {s : ev_S} {Q : Option ev_V → ev_S → Prop} {x : Int} (j0 j2 : Nat) (hj0 : l[j0]? = some (0, ev_r 132)) (hj2 : l[j2]? = some (2, ev_i x)) (hx : 0 ≤ x ∧ x < (400 : Nat)) (hv : 0 < s 133 (Int.toNat x) ∧ s 133 (Int.toNat x) < 128) (k : ∀ r, (0 ≤ r ↔ cSi (s 133 (Int.toNat x)) = true) → Ev layX M_X9_note (d + 8) 100 l [ev_i r] s Q) : Ev layX M_X9_note (d + 8) 88 l [] s Q := by
  obtain ⟨c, hc⟩ := Int.eq_ofNat_of_zero_le (show 0 ≤ s 133 (Int.toNat x) by omega)
  rw [hc] at hv k
  have hcR : ev_R (c : Int) := ⟨by omega, by omega⟩
  have h0 : ¬ (Int32.ofInt (c : Int) < 0) := fun q => by
    have := (ev_lt hcR ev_R0).mp q
    omega
  have h1 : ¬ (255 < Int32.ofInt (c : Int)) := fun q => by
    have := (ev_lt (x := 255) (ev_Rc rfl) hcR).mp q
    omega
  have k1 := k (j_ix (Int32.ofInt (c : Int)).toInt8.toInt32 j_B 0).toInt (by
    have h := j_sign ⟨c, by omega⟩
    simp only at h
    rw [← h]
    exact (decide_eq_true_iff).symm)
  intro p L e s9 m args below meth cd D ct ad A H locs ls X hH hl ho hs
  obtain ⟨⟨adK, adV, t1, t2, t3⟩, t4, t5⟩ := X.2.2.2.2.2.2.2.2.2.2
  refine va_ldcS X.1 X.2.1 X.2.2.2.2.1 t3 dX9_note_88 ?_
  refine lv_aload_n X.1 X.2.1 dX9_note_90 rfl (ev_lat hl hj0) ?_
  refine va_get (v := .ref (ad 133)) X.1 X.2.1 X.2.2.2.2.2.2.1 cl_X9.2.1 X.2.2.2.2.1 X.2.2.2.2.2.2.2.1 hH.1 132 (ev_at yX_132) cl_X9.1 0 (Nat.le_of_ble_eq_true rfl) (ev_hts X wj_476 rfl) (fun _ h => h) (ev_fl_some rfl) dX9_note_91 ?_
  refine lv_iload_n X.1 X.2.1 dX9_note_94 rfl (ev_lat hl hj2) ?_
  have hxR : ev_R x := ⟨by omega, by omega⟩
  refine va_bald X.1 X.2.1 X.2.2.2.2.2.2.2.1 hH.1 133 1 (ev_at yX_133) rfl (ev_vin hxR hx) dX9_note_95 ?_
  rw [ev_clamp hxR]
  have e1 : ((Int32.ofInt (c : Int)).toUInt32 % 65536).toInt32 = Int32.ofInt (c : Int) := by
    have h : ∀ c : Fin 128, ((Int32.ofInt (c.val : Int)).toUInt32 % 65536).toInt32 = Int32.ofInt (c.val : Int) := by decide +kernel
    exact h ⟨c, by omega⟩
  refine lv_i2c X.1 X.2.1 dX9_note_96 (v := Int32.ofInt (c : Int)) (by rw [hc]; exact e1) ?_
  refine j_callV (own := "AngelTown$Tape") (As := [.int (Int32.ofInt (c : Int))]) (rest := []) (i := 1) (d' := 3) X.1 X.2.1 X.2.2.2.1 X.2.2.2.2.1 X.2.2.2.2.2.2.1 (j_SJ t1 t4 t5 hH.2.2.1.2.1) hH.2.2.1 hl.1 (by omega) rfl cj_io1 wj_864 wj_865 wj_866 dX9_note_97 (by show 4 ≤ d + 8; omega) (by show 256 ≤ 64 * (d + 8); omega) ⟨Nat.le_refl 0, Nat.le_refl 0⟩ rfl (Nat.le_of_ble_eq_true rfl) (Nat.le_of_ble_eq_true rfl) (jv_io1 h0 h1) (fun H1 locs1 hk hS1 => ?_)
  have k2 := k1 p L e s9 m args below meth cd D ct ad A H1 locs1 ls X (j_H hH hk hS1) hl ho (ev_oks_cons (ev_Rt _) hs)
  simp only [List.map_cons, List.map_nil, ev_v, ev_of] at k2
  exact k2
end
