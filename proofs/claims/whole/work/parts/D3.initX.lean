section
theorem we_175 : Cond.initialized "AngelTown" ∈ lw_tbl := tb_1 (List.mem_of_getElem? (i := 1) (by decide +kernel))
theorem we_188 : Cond.initialized "AngelTownModel" ∈ lw_tbl := tb_1 (List.mem_of_getElem? (i := 14) (by decide +kernel))
theorem we_200 : Cond.instanceMethod ⟨"AngelTown", "<init>", "()V"⟩ ∈ lw_tbl := tb_1 (List.mem_of_getElem? (i := 26) (by decide +kernel))
theorem we_201 : Cond.code ⟨"AngelTown", "<init>", "()V"⟩ prog_1_method_1_code 1 none ∈ lw_tbl := tb_1 (List.mem_of_getElem? (i := 27) rfl)
theorem we_202 : Cond.methodLink "AngelTown" 3 ⟨"java/lang/Object", "<init>", "()V"⟩ ∈ lw_tbl := tb_1 (List.mem_of_getElem? (i := 28) (by decide +kernel))
theorem we_205 : Cond.classLink "AngelTown" (9 : Nat) "AngelTown$Town" ∈ lw_tbl := tb_1 (List.mem_of_getElem? (i := 31) (by decide +kernel))
theorem we_207 : Cond.methodLinkNest "AngelTown" 11 ⟨"AngelTown$Town", "<init>", "()V"⟩ "AngelTown" ∈ lw_tbl := tb_1 (List.mem_of_getElem? (i := 33) (by decide +kernel))
theorem we_331 : Cond.classLink "AngelTown" (16 : Nat) "AngelTown$Course" ∈ lw_tbl := tb_1 (List.mem_of_getElem? (i := 157) (by decide +kernel))
theorem we_333 : Cond.methodLinkNest "AngelTown" 18 ⟨"AngelTown$Course", "<init>", "()V"⟩ "AngelTown" ∈ lw_tbl := tb_1 (List.mem_of_getElem? (i := 159) (by decide +kernel))
theorem we_413 : Cond.classLink "AngelTown" (23 : Nat) "AngelTown$Book" ∈ lw_tbl := tb_1 (List.mem_of_getElem? (i := 239) (by decide +kernel))
theorem we_415 : Cond.methodLinkNest "AngelTown" 25 ⟨"AngelTown$Book", "<init>", "()V"⟩ "AngelTown" ∈ lw_tbl := tb_2 (List.mem_of_getElem? (i := 1) (by decide +kernel))
theorem we_424 : Cond.classLink "AngelTown" (30 : Nat) "AngelTown$Past" ∈ lw_tbl := tb_2 (List.mem_of_getElem? (i := 10) (by decide +kernel))
theorem we_425 : Cond.instantiable "AngelTown$Past" (3 : Nat) ∈ lw_tbl := tb_2 (List.mem_of_getElem? (i := 11) (by decide +kernel))
theorem we_426 : Cond.methodLink "AngelTown" 32 ⟨"AngelTown$Past", "<init>", "()V"⟩ ∈ lw_tbl := tb_2 (List.mem_of_getElem? (i := 12) (by decide +kernel))
theorem we_444 : Cond.classLink "AngelTown" (37 : Nat) "AngelTown$Picture" ∈ lw_tbl := tb_2 (List.mem_of_getElem? (i := 30) (by decide +kernel))
theorem we_445 : Cond.instantiable "AngelTown$Picture" (4 : Nat) ∈ lw_tbl := tb_2 (List.mem_of_getElem? (i := 31) (by decide +kernel))
theorem we_446 : Cond.methodLinkNest "AngelTown" 39 ⟨"AngelTown$Picture", "<init>", "()V"⟩ "AngelTown" ∈ lw_tbl := tb_2 (List.mem_of_getElem? (i := 32) (by decide +kernel))
theorem we_470 : Cond.classLink "AngelTown" (44 : Nat) "AngelTown$Tape" ∈ lw_tbl := tb_2 (List.mem_of_getElem? (i := 56) (by decide +kernel))
theorem we_471 : Cond.instantiable "AngelTown$Tape" (6 : Nat) ∈ lw_tbl := tb_2 (List.mem_of_getElem? (i := 57) (by decide +kernel))
theorem we_472 : Cond.methodLinkNest "AngelTown" 46 ⟨"AngelTown$Tape", "<init>", "()V"⟩ "AngelTown" ∈ lw_tbl := tb_2 (List.mem_of_getElem? (i := 58) (by decide +kernel))
theorem we_501 : Cond.classLink "AngelTown" (51 : Nat) "AngelTown$Reader" ∈ lw_tbl := tb_2 (List.mem_of_getElem? (i := 87) (by decide +kernel))
theorem we_502 : Cond.instantiable "AngelTown$Reader" (10 : Nat) ∈ lw_tbl := tb_2 (List.mem_of_getElem? (i := 88) (by decide +kernel))
theorem we_503 : Cond.methodLink "AngelTown" 53 ⟨"AngelTown$Reader", "<init>", "(LAngelTown$Tape;LAngelTown$Town;)V"⟩ ∈ lw_tbl := tb_2 (List.mem_of_getElem? (i := 89) (by decide +kernel))
theorem we_546 : Cond.classLink "AngelTown" (60 : Nat) "AngelTown$Play" ∈ lw_tbl := tb_2 (List.mem_of_getElem? (i := 132) (by decide +kernel))
theorem we_547 : Cond.instantiable "AngelTown$Play" (3 : Nat) ∈ lw_tbl := tb_2 (List.mem_of_getElem? (i := 133) (by decide +kernel))
theorem we_548 : Cond.methodLink "AngelTown" 62 ⟨"AngelTown$Play", "<init>", "(LAngelTown$Town;LAngelTown$Book;)V"⟩ ∈ lw_tbl := tb_2 (List.mem_of_getElem? (i := 134) (by decide +kernel))
theorem we_562 : Cond.classLink "AngelTown" (69 : Nat) "AngelTown$Foresight" ∈ lw_tbl := tb_2 (List.mem_of_getElem? (i := 148) (by decide +kernel))
theorem we_563 : Cond.instantiable "AngelTown$Foresight" (12 : Nat) ∈ lw_tbl := tb_2 (List.mem_of_getElem? (i := 149) (by decide +kernel))
theorem we_564 : Cond.methodLink "AngelTown" 71 ⟨"AngelTown$Foresight", "<init>", "(LAngelTown$Town;LAngelTown$Course;LAngelTown$Play;)V"⟩ ∈ lw_tbl := tb_2 (List.mem_of_getElem? (i := 150) (by decide +kernel))
theorem we_612 : Cond.classLink "AngelTown" (78 : Nat) "AngelTown$Care" ∈ lw_tbl := tb_2 (List.mem_of_getElem? (i := 198) (by decide +kernel))
theorem we_613 : Cond.instantiable "AngelTown$Care" (20 : Nat) ∈ lw_tbl := tb_2 (List.mem_of_getElem? (i := 199) (by decide +kernel))
theorem we_614 : Cond.methodLink "AngelTown" 80 ⟨"AngelTown$Care", "<init>", "(LAngelTown$Town;LAngelTown$Course;LAngelTown$Foresight;)V"⟩ ∈ lw_tbl := tb_2 (List.mem_of_getElem? (i := 200) (by decide +kernel))
theorem we_680 : Cond.methodLink "AngelTown" 87 ⟨"AngelTown$Town", "clear", "(II)V"⟩ ∈ lw_tbl := tb_3 (List.mem_of_getElem? (i := 26) (by decide +kernel))
theorem we_681 : Cond.instanceMethod ⟨"AngelTown$Town", "clear", "(II)V"⟩ ∈ lw_tbl := tb_3 (List.mem_of_getElem? (i := 27) (by decide +kernel))
theorem we_682 : Cond.selects "AngelTown$Town" ⟨"AngelTown$Town", "clear", "(II)V"⟩ ⟨"AngelTown$Town", "clear", "(II)V"⟩ ∈ lw_tbl := tb_3 (List.mem_of_getElem? (i := 28) (by decide +kernel))
theorem we_691 : Cond.methodLink "AngelTown" 91 ⟨"AngelTown$Course", "clear", "()V"⟩ ∈ lw_tbl := tb_3 (List.mem_of_getElem? (i := 37) (by decide +kernel))
theorem we_692 : Cond.instanceMethod ⟨"AngelTown$Course", "clear", "()V"⟩ ∈ lw_tbl := tb_3 (List.mem_of_getElem? (i := 38) (by decide +kernel))
theorem we_693 : Cond.selects "AngelTown$Course" ⟨"AngelTown$Course", "clear", "()V"⟩ ⟨"AngelTown$Course", "clear", "()V"⟩ ∈ lw_tbl := tb_3 (List.mem_of_getElem? (i := 39) (by decide +kernel))
theorem we_700 : Cond.fieldLink "AngelTown" 12 "AngelTown" "town" "LAngelTown$Town;" ∈ lw_tbl := tb_3 (List.mem_of_getElem? (i := 46) (by decide +kernel))
theorem we_701 : Cond.fieldLink "AngelTown" 19 "AngelTown" "course" "LAngelTown$Course;" ∈ lw_tbl := tb_3 (List.mem_of_getElem? (i := 47) (by decide +kernel))
theorem we_702 : Cond.fieldLink "AngelTown" 26 "AngelTown" "lines" "LAngelTown$Book;" ∈ lw_tbl := tb_3 (List.mem_of_getElem? (i := 48) (by decide +kernel))
theorem we_703 : Cond.fieldLink "AngelTown" 33 "AngelTown" "past" "LAngelTown$Past;" ∈ lw_tbl := tb_3 (List.mem_of_getElem? (i := 49) (by decide +kernel))
theorem we_704 : Cond.fieldLink "AngelTown" 40 "AngelTown" "picture" "LAngelTown$Picture;" ∈ lw_tbl := tb_3 (List.mem_of_getElem? (i := 50) (by decide +kernel))
theorem we_705 : Cond.fieldLink "AngelTown" 47 "AngelTown" "tape" "LAngelTown$Tape;" ∈ lw_tbl := tb_3 (List.mem_of_getElem? (i := 51) (by decide +kernel))
theorem we_706 : Cond.fieldLink "AngelTown" 56 "AngelTown" "reader" "LAngelTown$Reader;" ∈ lw_tbl := tb_3 (List.mem_of_getElem? (i := 52) (by decide +kernel))
theorem we_707 : Cond.fieldLink "AngelTown" 65 "AngelTown" "play" "LAngelTown$Play;" ∈ lw_tbl := tb_3 (List.mem_of_getElem? (i := 53) (by decide +kernel))
theorem we_708 : Cond.fieldLink "AngelTown" 74 "AngelTown" "foresight" "LAngelTown$Foresight;" ∈ lw_tbl := tb_3 (List.mem_of_getElem? (i := 54) (by decide +kernel))
theorem we_709 : Cond.fieldLink "AngelTown" 83 "AngelTown" "care" "LAngelTown$Care;" ∈ lw_tbl := tb_3 (List.mem_of_getElem? (i := 55) (by decide +kernel))
theorem we_1440 : Cond.instanceMethod ⟨"AngelTownModel", "<init>", "()V"⟩ ∈ lw_tbl := tb_6 (List.mem_of_getElem? (i := 66) (by decide +kernel))
theorem we_1441 : Cond.code ⟨"AngelTownModel", "<init>", "()V"⟩ prog_14_method_1_code 1 none ∈ lw_tbl := tb_6 (List.mem_of_getElem? (i := 67) rfl)
theorem dX11_init_0 : decode cX11_init 0 = .ok (.aload_n 0, 1) := by decide +kernel
theorem dX11_init_1 : decode cX11_init 1 = .ok (.invokespecial 3, 3) := by decide +kernel
theorem dX11_init_4 : decode cX11_init 4 = .ok (.aload_n 0, 1) := by decide +kernel
theorem dX11_init_5 : decode cX11_init 5 = .ok (.new 9, 3) := by decide +kernel
theorem dX11_init_8 : decode cX11_init 8 = .ok (.dup, 1) := by decide +kernel
theorem dX11_init_9 : decode cX11_init 9 = .ok (.invokespecial 11, 3) := by decide +kernel
theorem dX11_init_12 : decode cX11_init 12 = .ok (.putfield 12, 3) := by decide +kernel
theorem dX11_init_15 : decode cX11_init 15 = .ok (.aload_n 0, 1) := by decide +kernel
theorem dX11_init_16 : decode cX11_init 16 = .ok (.new 16, 3) := by decide +kernel
theorem dX11_init_19 : decode cX11_init 19 = .ok (.dup, 1) := by decide +kernel
theorem dX11_init_20 : decode cX11_init 20 = .ok (.invokespecial 18, 3) := by decide +kernel
theorem dX11_init_23 : decode cX11_init 23 = .ok (.putfield 19, 3) := by decide +kernel
theorem dX11_init_26 : decode cX11_init 26 = .ok (.aload_n 0, 1) := by decide +kernel
theorem dX11_init_27 : decode cX11_init 27 = .ok (.new 23, 3) := by decide +kernel
theorem dX11_init_30 : decode cX11_init 30 = .ok (.dup, 1) := by decide +kernel
theorem dX11_init_31 : decode cX11_init 31 = .ok (.invokespecial 25, 3) := by decide +kernel
theorem dX11_init_34 : decode cX11_init 34 = .ok (.putfield 26, 3) := by decide +kernel
theorem dX11_init_37 : decode cX11_init 37 = .ok (.aload_n 0, 1) := by decide +kernel
theorem dX11_init_38 : decode cX11_init 38 = .ok (.new 30, 3) := by decide +kernel
theorem dX11_init_41 : decode cX11_init 41 = .ok (.dup, 1) := by decide +kernel
theorem dX11_init_42 : decode cX11_init 42 = .ok (.invokespecial 32, 3) := by decide +kernel
theorem dX11_init_45 : decode cX11_init 45 = .ok (.putfield 33, 3) := by decide +kernel
theorem dX11_init_48 : decode cX11_init 48 = .ok (.aload_n 0, 1) := by decide +kernel
theorem dX11_init_49 : decode cX11_init 49 = .ok (.new 37, 3) := by decide +kernel
theorem dX11_init_52 : decode cX11_init 52 = .ok (.dup, 1) := by decide +kernel
theorem dX11_init_53 : decode cX11_init 53 = .ok (.invokespecial 39, 3) := by decide +kernel
theorem dX11_init_56 : decode cX11_init 56 = .ok (.putfield 40, 3) := by decide +kernel
theorem dX11_init_59 : decode cX11_init 59 = .ok (.aload_n 0, 1) := by decide +kernel
theorem dX11_init_60 : decode cX11_init 60 = .ok (.new 44, 3) := by decide +kernel
theorem dX11_init_63 : decode cX11_init 63 = .ok (.dup, 1) := by decide +kernel
theorem dX11_init_64 : decode cX11_init 64 = .ok (.invokespecial 46, 3) := by decide +kernel
theorem dX11_init_67 : decode cX11_init 67 = .ok (.putfield 47, 3) := by decide +kernel
theorem dX11_init_70 : decode cX11_init 70 = .ok (.aload_n 0, 1) := by decide +kernel
theorem dX11_init_71 : decode cX11_init 71 = .ok (.new 51, 3) := by decide +kernel
theorem dX11_init_74 : decode cX11_init 74 = .ok (.dup, 1) := by decide +kernel
theorem dX11_init_75 : decode cX11_init 75 = .ok (.aload_n 0, 1) := by decide +kernel
theorem dX11_init_76 : decode cX11_init 76 = .ok (.getfield 47, 3) := by decide +kernel
theorem dX11_init_79 : decode cX11_init 79 = .ok (.aload_n 0, 1) := by decide +kernel
theorem dX11_init_80 : decode cX11_init 80 = .ok (.getfield 12, 3) := by decide +kernel
theorem dX11_init_83 : decode cX11_init 83 = .ok (.invokespecial 53, 3) := by decide +kernel
theorem dX11_init_86 : decode cX11_init 86 = .ok (.putfield 56, 3) := by decide +kernel
theorem dX11_init_89 : decode cX11_init 89 = .ok (.aload_n 0, 1) := by decide +kernel
theorem dX11_init_90 : decode cX11_init 90 = .ok (.new 60, 3) := by decide +kernel
theorem dX11_init_93 : decode cX11_init 93 = .ok (.dup, 1) := by decide +kernel
theorem dX11_init_94 : decode cX11_init 94 = .ok (.aload_n 0, 1) := by decide +kernel
theorem dX11_init_95 : decode cX11_init 95 = .ok (.getfield 12, 3) := by decide +kernel
theorem dX11_init_98 : decode cX11_init 98 = .ok (.aload_n 0, 1) := by decide +kernel
theorem dX11_init_99 : decode cX11_init 99 = .ok (.getfield 26, 3) := by decide +kernel
theorem dX11_init_102 : decode cX11_init 102 = .ok (.invokespecial 62, 3) := by decide +kernel
theorem dX11_init_105 : decode cX11_init 105 = .ok (.putfield 65, 3) := by decide +kernel
theorem dX11_init_108 : decode cX11_init 108 = .ok (.aload_n 0, 1) := by decide +kernel
theorem dX11_init_109 : decode cX11_init 109 = .ok (.new 69, 3) := by decide +kernel
theorem dX11_init_112 : decode cX11_init 112 = .ok (.dup, 1) := by decide +kernel
theorem dX11_init_113 : decode cX11_init 113 = .ok (.aload_n 0, 1) := by decide +kernel
theorem dX11_init_114 : decode cX11_init 114 = .ok (.getfield 12, 3) := by decide +kernel
theorem dX11_init_117 : decode cX11_init 117 = .ok (.aload_n 0, 1) := by decide +kernel
theorem dX11_init_118 : decode cX11_init 118 = .ok (.getfield 19, 3) := by decide +kernel
theorem dX11_init_121 : decode cX11_init 121 = .ok (.aload_n 0, 1) := by decide +kernel
theorem dX11_init_122 : decode cX11_init 122 = .ok (.getfield 65, 3) := by decide +kernel
theorem dX11_init_125 : decode cX11_init 125 = .ok (.invokespecial 71, 3) := by decide +kernel
theorem dX11_init_128 : decode cX11_init 128 = .ok (.putfield 74, 3) := by decide +kernel
theorem dX11_init_131 : decode cX11_init 131 = .ok (.aload_n 0, 1) := by decide +kernel
theorem dX11_init_132 : decode cX11_init 132 = .ok (.new 78, 3) := by decide +kernel
theorem dX11_init_135 : decode cX11_init 135 = .ok (.dup, 1) := by decide +kernel
theorem dX11_init_136 : decode cX11_init 136 = .ok (.aload_n 0, 1) := by decide +kernel
theorem dX11_init_137 : decode cX11_init 137 = .ok (.getfield 12, 3) := by decide +kernel
theorem dX11_init_140 : decode cX11_init 140 = .ok (.aload_n 0, 1) := by decide +kernel
theorem dX11_init_141 : decode cX11_init 141 = .ok (.getfield 19, 3) := by decide +kernel
theorem dX11_init_144 : decode cX11_init 144 = .ok (.aload_n 0, 1) := by decide +kernel
theorem dX11_init_145 : decode cX11_init 145 = .ok (.getfield 74, 3) := by decide +kernel
theorem dX11_init_148 : decode cX11_init 148 = .ok (.invokespecial 80, 3) := by decide +kernel
theorem dX11_init_151 : decode cX11_init 151 = .ok (.putfield 83, 3) := by decide +kernel
theorem dX11_init_154 : decode cX11_init 154 = .ok (.aload_n 0, 1) := by decide +kernel
theorem dX11_init_155 : decode cX11_init 155 = .ok (.getfield 12, 3) := by decide +kernel
theorem dX11_init_158 : decode cX11_init 158 = .ok (.bipush 8, 2) := by decide +kernel
theorem dX11_init_160 : decode cX11_init 160 = .ok (.bipush 8, 2) := by decide +kernel
theorem dX11_init_162 : decode cX11_init 162 = .ok (.invokevirtual 87, 3) := by decide +kernel
theorem dX11_init_165 : decode cX11_init 165 = .ok (.aload_n 0, 1) := by decide +kernel
theorem dX11_init_166 : decode cX11_init 166 = .ok (.getfield 19, 3) := by decide +kernel
theorem dX11_init_169 : decode cX11_init 169 = .ok (.invokevirtual 91, 3) := by decide +kernel
theorem dX11_init_172 : decode cX11_init 172 = .ok (.return_, 1) := by decide +kernel
abbrev fs0_X11 : List Value := [.null, .null, .null, .null, .null, .null, .null, .null, .null, .null]
theorem df_X11 : ∀ j, j < 10 → defaultValue (tyX11 j) = vp_V fs0_X11 j := by
  intro j hj
  match j, hj with
  | 0, _ => rfl
  | 1, _ => rfl
  | 2, _ => rfl
  | 3, _ => rfl
  | 4, _ => rfl
  | 5, _ => rfl
  | 6, _ => rfl
  | 7, _ => rfl
  | 8, _ => rfl
  | 9, _ => rfl
  | n + 10, h => exact absurd h (by omega)
abbrev M_X11_init : ev_M := (RX11, cX11_init, 1, none, 0)
theorem cv_cm_X11 : cv_cm ⟨"AngelTown", "<init>", "()V"⟩ M_X11_init 0 := ⟨⟨by decide +kernel, rfl, we_201, we_175, ⟨by decide +kernel, by decide +kernel, by decide +kernel⟩, Nat.le_of_ble_eq_true rfl⟩, rfl, we_200, rfl⟩
abbrev fs0_X12 : List Value := [.int (Int32.ofInt 0), .null, .null, .int (Int32.ofInt 0), .null, .int (Int32.ofInt 0), .int (Int32.ofInt 0), .int (Int32.ofInt 0), .int (Int32.ofInt 0), .null, .int (Int32.ofInt 0), .int (Int32.ofInt 0), .int (Int32.ofInt 0), .null, .null, .null, .null, .null, .null, .int (Int32.ofInt 0), .int (Int32.ofInt 0), .int (Int32.ofInt 0), .int (Int32.ofInt 0), .int (Int32.ofInt 0), .null, .int (Int32.ofInt 0), .null, .null, .null, .null, .null, .int (Int32.ofInt 0), .int (Int32.ofInt 0), .null, .int (Int32.ofInt 0), .int (Int32.ofInt 0), .int (Int32.ofInt 0), .int (Int32.ofInt 0), .int (Int32.ofInt 0), .null, .null, .int (Int32.ofInt 0), .null, .null, .null, .null, .int (Int32.ofInt 0), .null, .null, .null, .null, .null, .null, .null, .null, .null, .null, .null, .null, .int (Int32.ofInt 0), .int (Int32.ofInt 0), .int (Int32.ofInt 0), .int (Int32.ofInt 0), .null]
theorem df_X12 : ∀ j, j < 64 → defaultValue (tyX12 j) = vp_V fs0_X12 j := by
  intro j hj
  match j, hj with
  | 0, _ => rfl
  | 1, _ => rfl
  | 2, _ => rfl
  | 3, _ => rfl
  | 4, _ => rfl
  | 5, _ => rfl
  | 6, _ => rfl
  | 7, _ => rfl
  | 8, _ => rfl
  | 9, _ => rfl
  | 10, _ => rfl
  | 11, _ => rfl
  | 12, _ => rfl
  | 13, _ => rfl
  | 14, _ => rfl
  | 15, _ => rfl
  | 16, _ => rfl
  | 17, _ => rfl
  | 18, _ => rfl
  | 19, _ => rfl
  | 20, _ => rfl
  | 21, _ => rfl
  | 22, _ => rfl
  | 23, _ => rfl
  | 24, _ => rfl
  | 25, _ => rfl
  | 26, _ => rfl
  | 27, _ => rfl
  | 28, _ => rfl
  | 29, _ => rfl
  | 30, _ => rfl
  | 31, _ => rfl
  | 32, _ => rfl
  | 33, _ => rfl
  | 34, _ => rfl
  | 35, _ => rfl
  | 36, _ => rfl
  | 37, _ => rfl
  | 38, _ => rfl
  | 39, _ => rfl
  | 40, _ => rfl
  | 41, _ => rfl
  | 42, _ => rfl
  | 43, _ => rfl
  | 44, _ => rfl
  | 45, _ => rfl
  | 46, _ => rfl
  | 47, _ => rfl
  | 48, _ => rfl
  | 49, _ => rfl
  | 50, _ => rfl
  | 51, _ => rfl
  | 52, _ => rfl
  | 53, _ => rfl
  | 54, _ => rfl
  | 55, _ => rfl
  | 56, _ => rfl
  | 57, _ => rfl
  | 58, _ => rfl
  | 59, _ => rfl
  | 60, _ => rfl
  | 61, _ => rfl
  | 62, _ => rfl
  | 63, _ => rfl
  | n + 64, h => exact absurd h (by omega)
abbrev M_X12_init : ev_M := (RX12, cX12_init, 1, none, 0)
theorem cv_cm_X12 : cv_cm ⟨"AngelTownModel", "<init>", "()V"⟩ M_X12_init 0 := ⟨⟨by decide +kernel, rfl, we_1441, we_188, ⟨by decide +kernel, by decide +kernel, by decide +kernel⟩, Nat.le_of_ble_eq_true rfl⟩, rfl, we_1440, rfl⟩
def ev_wsR (ct : Nat → ClassId) (ad : Nat → Nat) (σ : ev_S) : Nat → List ev_C → va_W
  | _, [] => []
  | b, sh :: r => (ad b, ev_cell ct ad (σ b) sh) :: ev_wsR ct ad σ (b + 1) r
theorem ev_wsR_at (ct : Nat → ClassId) (ad : Nat → Nat) (σ : ev_S) : ∀ (Y : List ev_C) (b k : Nat), (ev_wsR ct ad σ b Y)[k]? = Y[k]?.map (fun sh => (ad (b + k), ev_cell ct ad (σ (b + k)) sh))
  | [], b, k => by simp [ev_wsR]
  | sh :: r, b, 0 => by simp [ev_wsR]
  | sh :: r, b, k + 1 => by
    simp only [ev_wsR, List.getElem?_cons_succ, ev_wsR_at ct ad σ r (b + 1) k, show b + 1 + k = b + (k + 1) by omega]
theorem ev_ws_R (Y : List ev_C) (ct : Nat → ClassId) (ad : Nat → Nat) (σ : ev_S) : ev_ws Y ct ad σ = ev_wsR ct ad σ 0 Y := by
  apply List.ext_getElem?
  intro k
  rw [ev_wsR_at]
  simp [ev_ws, List.getElem?_mapIdx]
def cv_s0 : ev_S := fun k i => if k = 137 then (if i = 9 then -1 else 0) else 0
def cv_m0 : ev_S := fun k i => if k = 11 then (if i < 178 then ((w_tab.getD i 0 : Nat) : Int) else 0) else if k = 0 then (if i = 38 then -1 else 0) else 0
theorem Cv_w {ct : Nat → ClassId} {M : ev_M} {R : Room} {pc : Nat} {lv : List (Nat × Value)} {st : List Value} {w w' : va_W} {cells slots mc ms : Nat} {Q : va_W → Prop} (h : w = w') (k : Cv ct M R pc lv st w' cells slots mc ms Q) : Cv ct M R pc lv st w cells slots mc ms Q := by
  subst h; exact k
abbrev cv_adX (q0 q1 q2 q3 q4 q5 q6 q7 q8 q9 q10 q11 q12 q13 q14 q15 q16 q17 q18 q19 q20 q21 q22 q23 q24 q25 q26 q27 q28 q29 q30 q31 q32 q33 q34 q35 q36 q37 q38 q39 q40 q41 q42 q43 q44 q45 q46 q47 q48 q49 q50 q51 q52 q53 q54 q55 q56 q57 q58 q59 q60 q61 q62 q63 q64 q65 q66 q67 q68 q69 q70 q71 q72 q73 q74 q75 q76 q77 q78 q79 q80 q81 q82 q83 q84 q85 q86 q87 q88 q89 q90 q91 q92 q93 q94 q95 q96 q97 q98 q99 q100 q101 q102 q103 q104 q105 q106 q107 q108 q109 q110 q111 q112 q113 q114 q115 q116 q117 q118 q119 q120 q121 q122 q123 q124 q125 q126 q127 q128 q129 q130 q131 q132 q133 q134 q135 q136 q137 q138 q139 q140 q141 q142 q143 q144 q145 q146 q147 q148 q149 q150 q151 q152 q153 q154 q155 q156 q157 q158 q159 q160 q161 q162 q163 q164 q165 q166 q167 q168 q169 q170 q171 q172 q173 q174 q175 : Nat) : Nat → Nat := fun k => ([q0, q1, q2, q3, q4, q5, q6, q7, q8, q9, q10, q11, q12, q13, q14, q15, q16, q17, q18, q19, q20, q21, q22, q23, q24, q25, q26, q27, q28, q29, q30, q31, q32, q33, q34, q35, q36, q37, q38, q39, q40, q41, q42, q43, q44, q45, q46, q47, q48, q49, q50, q51, q52, q53, q54, q55, q56, q57, q58, q59, q60, q61, q62, q63, q64, q65, q66, q67, q68, q69, q70, q71, q72, q73, q74, q75, q76, q77, q78, q79, q80, q81, q82, q83, q84, q85, q86, q87, q88, q89, q90, q91, q92, q93, q94, q95, q96, q97, q98, q99, q100, q101, q102, q103, q104, q105, q106, q107, q108, q109, q110, q111, q112, q113, q114, q115, q116, q117, q118, q119, q120, q121, q122, q123, q124, q125, q126, q127, q128, q129, q130, q131, q132, q133, q134, q135, q136, q137, q138, q139, q140, q141, q142, q143, q144, q145, q146, q147, q148, q149, q150, q151, q152, q153, q154, q155, q156, q157, q158, q159, q160, q161, q162, q163, q164, q165, q166, q167, q168, q169, q170, q171, q172, q173, q174, q175] : List Nat).getD k 0
set_option maxRecDepth 100000 in
set_option maxHeartbeats 4000000 in
theorem cv_asmX (ct : Nat → ClassId) (q0 q1 q2 q3 q4 q5 q6 q7 q8 q9 q10 q11 q12 q13 q14 q15 q16 q17 q18 q19 q20 q21 q22 q23 q24 q25 q26 q27 q28 q29 q30 q31 q32 q33 q34 q35 q36 q37 q38 q39 q40 q41 q42 q43 q44 q45 q46 q47 q48 q49 q50 q51 q52 q53 q54 q55 q56 q57 q58 q59 q60 q61 q62 q63 q64 q65 q66 q67 q68 q69 q70 q71 q72 q73 q74 q75 q76 q77 q78 q79 q80 q81 q82 q83 q84 q85 q86 q87 q88 q89 q90 q91 q92 q93 q94 q95 q96 q97 q98 q99 q100 q101 q102 q103 q104 q105 q106 q107 q108 q109 q110 q111 q112 q113 q114 q115 q116 q117 q118 q119 q120 q121 q122 q123 q124 q125 q126 q127 q128 q129 q130 q131 q132 q133 q134 q135 q136 q137 q138 q139 q140 q141 q142 q143 q144 q145 q146 q147 q148 q149 q150 q151 q152 q153 q154 q155 q156 q157 q158 q159 q160 q161 q162 q163 q164 q165 q166 q167 q168 q169 q170 q171 q172 q173 q174 q175 : Nat) : ([(q0, .inr (11, [.ref q1, .ref q15, .ref q27, .ref q29, .ref q103, .ref q132, .ref q137, .ref q144, .ref q146, .ref q162])), (q1, .inr (10, [.int (Int32.ofInt 0), .int (Int32.ofInt 0), .int (Int32.ofInt 0), .ref q2, .int (Int32.ofInt 0), .ref q3, .ref q4, .int (Int32.ofInt 0), .ref q5, .ref q6, .ref q7, .int (Int32.ofInt 0), .ref q8, .int (Int32.ofInt 0), .ref q9, .ref q10])), (q2, .inl (ct 0, 5, .inl (fun _ => Int32.ofInt 0))), (q3, .inl (ct 1, 4800, .inl (fun _ => Int32.ofInt 0))), (q4, .inl (ct 0, 8, .inl (fun _ => Int32.ofInt 0))), (q5, .inl (ct 0, 6, .inl (fun _ => Int32.ofInt 0))), (q6, .inl (ct 0, 480, .inl (fun _ => Int32.ofInt 0))), (q7, .inl (ct 0, 6, .inl (fun _ => Int32.ofInt 0))), (q8, .inl (ct 0, 18, .inl (fun _ => Int32.ofInt 0))), (q9, .inl (ct 0, 70, .inl (fun _ => Int32.ofInt 0))), (q10, .inr (4, [.ref q11, .ref q12, .ref q13, .ref q14, .int (Int32.ofInt 0), .int (Int32.ofInt 0)])), (q11, .inl (ct 0, 800, .inl (fun _ => Int32.ofInt 0))), (q12, .inl (ct 0, 17, .inl (fun _ => Int32.ofInt 0))), (q13, .inl (ct 0, 16, .inl (fun _ => Int32.ofInt 0))), (q14, .inl (ct 0, 32, .inl (fun _ => Int32.ofInt 0))), (q15, .inr (2, [.int (Int32.ofInt 0), .int (Int32.ofInt 0), .ref q16, .ref q17, .ref q18, .ref q19, .ref q20, .ref q21, .ref q22, .ref q23, .ref q24, .ref q25, .ref q26, .int (Int32.ofInt 0)])), (q16, .inl (ct 0, 8, .inl (fun _ => Int32.ofInt 0))), (q17, .inl (ct 0, 8, .inl (fun _ => Int32.ofInt 0))), (q18, .inl (ct 0, 8, .inl (fun _ => Int32.ofInt 0))), (q19, .inl (ct 0, 6, .inl (fun _ => Int32.ofInt 0))), (q20, .inl (ct 0, 6, .inl (fun _ => Int32.ofInt 0))), (q21, .inl (ct 0, 6, .inl (fun _ => Int32.ofInt 0))), (q22, .inl (ct 0, 6, .inl (fun _ => Int32.ofInt 0))), (q23, .inl (ct 0, 6, .inl (fun _ => Int32.ofInt 0))), (q24, .inl (ct 0, 10, .inl (fun _ => Int32.ofInt 0))), (q25, .inl (ct 0, 10, .inl (fun _ => Int32.ofInt 0))), (q26, .inl (ct 0, 10, .inl (fun _ => Int32.ofInt 0))), (q27, .inr (0, [.ref q28])), (q28, .inl (ct 0, 500, .inl (fun _ => Int32.ofInt 0))), (q29, .inr (5, [.ref q30, .int (Int32.ofInt 0), .int (Int32.ofInt 0)])), (q30, .inl (ct 3, 6, .inr (.inr (.inr (.inr (fun i => ([q31, q43, q55, q67, q79, q91] : List Nat)[i]?)))))), (q31, .inr (2, [.int (Int32.ofInt 0), .int (Int32.ofInt 0), .ref q32, .ref q33, .ref q34, .ref q35, .ref q36, .ref q37, .ref q38, .ref q39, .ref q40, .ref q41, .ref q42, .int (Int32.ofInt 0)])), (q32, .inl (ct 0, 8, .inl (fun _ => Int32.ofInt 0))), (q33, .inl (ct 0, 8, .inl (fun _ => Int32.ofInt 0))), (q34, .inl (ct 0, 8, .inl (fun _ => Int32.ofInt 0))), (q35, .inl (ct 0, 6, .inl (fun _ => Int32.ofInt 0))), (q36, .inl (ct 0, 6, .inl (fun _ => Int32.ofInt 0))), (q37, .inl (ct 0, 6, .inl (fun _ => Int32.ofInt 0))), (q38, .inl (ct 0, 6, .inl (fun _ => Int32.ofInt 0))), (q39, .inl (ct 0, 6, .inl (fun _ => Int32.ofInt 0))), (q40, .inl (ct 0, 10, .inl (fun _ => Int32.ofInt 0))), (q41, .inl (ct 0, 10, .inl (fun _ => Int32.ofInt 0))), (q42, .inl (ct 0, 10, .inl (fun _ => Int32.ofInt 0))), (q43, .inr (2, [.int (Int32.ofInt 0), .int (Int32.ofInt 0), .ref q44, .ref q45, .ref q46, .ref q47, .ref q48, .ref q49, .ref q50, .ref q51, .ref q52, .ref q53, .ref q54, .int (Int32.ofInt 0)])), (q44, .inl (ct 0, 8, .inl (fun _ => Int32.ofInt 0))), (q45, .inl (ct 0, 8, .inl (fun _ => Int32.ofInt 0))), (q46, .inl (ct 0, 8, .inl (fun _ => Int32.ofInt 0))), (q47, .inl (ct 0, 6, .inl (fun _ => Int32.ofInt 0))), (q48, .inl (ct 0, 6, .inl (fun _ => Int32.ofInt 0))), (q49, .inl (ct 0, 6, .inl (fun _ => Int32.ofInt 0))), (q50, .inl (ct 0, 6, .inl (fun _ => Int32.ofInt 0))), (q51, .inl (ct 0, 6, .inl (fun _ => Int32.ofInt 0))), (q52, .inl (ct 0, 10, .inl (fun _ => Int32.ofInt 0))), (q53, .inl (ct 0, 10, .inl (fun _ => Int32.ofInt 0))), (q54, .inl (ct 0, 10, .inl (fun _ => Int32.ofInt 0))), (q55, .inr (2, [.int (Int32.ofInt 0), .int (Int32.ofInt 0), .ref q56, .ref q57, .ref q58, .ref q59, .ref q60, .ref q61, .ref q62, .ref q63, .ref q64, .ref q65, .ref q66, .int (Int32.ofInt 0)])), (q56, .inl (ct 0, 8, .inl (fun _ => Int32.ofInt 0))), (q57, .inl (ct 0, 8, .inl (fun _ => Int32.ofInt 0))), (q58, .inl (ct 0, 8, .inl (fun _ => Int32.ofInt 0))), (q59, .inl (ct 0, 6, .inl (fun _ => Int32.ofInt 0))), (q60, .inl (ct 0, 6, .inl (fun _ => Int32.ofInt 0))), (q61, .inl (ct 0, 6, .inl (fun _ => Int32.ofInt 0))), (q62, .inl (ct 0, 6, .inl (fun _ => Int32.ofInt 0))), (q63, .inl (ct 0, 6, .inl (fun _ => Int32.ofInt 0))), (q64, .inl (ct 0, 10, .inl (fun _ => Int32.ofInt 0))), (q65, .inl (ct 0, 10, .inl (fun _ => Int32.ofInt 0))), (q66, .inl (ct 0, 10, .inl (fun _ => Int32.ofInt 0))), (q67, .inr (2, [.int (Int32.ofInt 0), .int (Int32.ofInt 0), .ref q68, .ref q69, .ref q70, .ref q71, .ref q72, .ref q73, .ref q74, .ref q75, .ref q76, .ref q77, .ref q78, .int (Int32.ofInt 0)])), (q68, .inl (ct 0, 8, .inl (fun _ => Int32.ofInt 0))), (q69, .inl (ct 0, 8, .inl (fun _ => Int32.ofInt 0))), (q70, .inl (ct 0, 8, .inl (fun _ => Int32.ofInt 0))), (q71, .inl (ct 0, 6, .inl (fun _ => Int32.ofInt 0))), (q72, .inl (ct 0, 6, .inl (fun _ => Int32.ofInt 0))), (q73, .inl (ct 0, 6, .inl (fun _ => Int32.ofInt 0))), (q74, .inl (ct 0, 6, .inl (fun _ => Int32.ofInt 0))), (q75, .inl (ct 0, 6, .inl (fun _ => Int32.ofInt 0))), (q76, .inl (ct 0, 10, .inl (fun _ => Int32.ofInt 0))), (q77, .inl (ct 0, 10, .inl (fun _ => Int32.ofInt 0))), (q78, .inl (ct 0, 10, .inl (fun _ => Int32.ofInt 0))), (q79, .inr (2, [.int (Int32.ofInt 0), .int (Int32.ofInt 0), .ref q80, .ref q81, .ref q82, .ref q83, .ref q84, .ref q85, .ref q86, .ref q87, .ref q88, .ref q89, .ref q90, .int (Int32.ofInt 0)])), (q80, .inl (ct 0, 8, .inl (fun _ => Int32.ofInt 0))), (q81, .inl (ct 0, 8, .inl (fun _ => Int32.ofInt 0))), (q82, .inl (ct 0, 8, .inl (fun _ => Int32.ofInt 0))), (q83, .inl (ct 0, 6, .inl (fun _ => Int32.ofInt 0))), (q84, .inl (ct 0, 6, .inl (fun _ => Int32.ofInt 0))), (q85, .inl (ct 0, 6, .inl (fun _ => Int32.ofInt 0))), (q86, .inl (ct 0, 6, .inl (fun _ => Int32.ofInt 0))), (q87, .inl (ct 0, 6, .inl (fun _ => Int32.ofInt 0))), (q88, .inl (ct 0, 10, .inl (fun _ => Int32.ofInt 0))), (q89, .inl (ct 0, 10, .inl (fun _ => Int32.ofInt 0))), (q90, .inl (ct 0, 10, .inl (fun _ => Int32.ofInt 0))), (q91, .inr (2, [.int (Int32.ofInt 0), .int (Int32.ofInt 0), .ref q92, .ref q93, .ref q94, .ref q95, .ref q96, .ref q97, .ref q98, .ref q99, .ref q100, .ref q101, .ref q102, .int (Int32.ofInt 0)])), (q92, .inl (ct 0, 8, .inl (fun _ => Int32.ofInt 0))), (q93, .inl (ct 0, 8, .inl (fun _ => Int32.ofInt 0))), (q94, .inl (ct 0, 8, .inl (fun _ => Int32.ofInt 0))), (q95, .inl (ct 0, 6, .inl (fun _ => Int32.ofInt 0))), (q96, .inl (ct 0, 6, .inl (fun _ => Int32.ofInt 0))), (q97, .inl (ct 0, 6, .inl (fun _ => Int32.ofInt 0))), (q98, .inl (ct 0, 6, .inl (fun _ => Int32.ofInt 0))), (q99, .inl (ct 0, 6, .inl (fun _ => Int32.ofInt 0))), (q100, .inl (ct 0, 10, .inl (fun _ => Int32.ofInt 0))), (q101, .inl (ct 0, 10, .inl (fun _ => Int32.ofInt 0))), (q102, .inl (ct 0, 10, .inl (fun _ => Int32.ofInt 0))), (q103, .inr (6, [.ref q104, .ref q118, .ref q130, .int (Int32.ofInt 0)])), (q104, .inr (10, [.int (Int32.ofInt 0), .int (Int32.ofInt 0), .int (Int32.ofInt 0), .ref q105, .int (Int32.ofInt 0), .ref q106, .ref q107, .int (Int32.ofInt 0), .ref q108, .ref q109, .ref q110, .int (Int32.ofInt 0), .ref q111, .int (Int32.ofInt 0), .ref q112, .ref q113])), (q105, .inl (ct 0, 5, .inl (fun _ => Int32.ofInt 0))), (q106, .inl (ct 1, 4800, .inl (fun _ => Int32.ofInt 0))), (q107, .inl (ct 0, 8, .inl (fun _ => Int32.ofInt 0))), (q108, .inl (ct 0, 6, .inl (fun _ => Int32.ofInt 0))), (q109, .inl (ct 0, 480, .inl (fun _ => Int32.ofInt 0))), (q110, .inl (ct 0, 6, .inl (fun _ => Int32.ofInt 0))), (q111, .inl (ct 0, 18, .inl (fun _ => Int32.ofInt 0))), (q112, .inl (ct 0, 70, .inl (fun _ => Int32.ofInt 0))), (q113, .inr (4, [.ref q114, .ref q115, .ref q116, .ref q117, .int (Int32.ofInt 0), .int (Int32.ofInt 0)])), (q114, .inl (ct 0, 800, .inl (fun _ => Int32.ofInt 0))), (q115, .inl (ct 0, 17, .inl (fun _ => Int32.ofInt 0))), (q116, .inl (ct 0, 16, .inl (fun _ => Int32.ofInt 0))), (q117, .inl (ct 0, 32, .inl (fun _ => Int32.ofInt 0))), (q118, .inr (2, [.int (Int32.ofInt 0), .int (Int32.ofInt 0), .ref q119, .ref q120, .ref q121, .ref q122, .ref q123, .ref q124, .ref q125, .ref q126, .ref q127, .ref q128, .ref q129, .int (Int32.ofInt 0)])), (q119, .inl (ct 0, 8, .inl (fun _ => Int32.ofInt 0))), (q120, .inl (ct 0, 8, .inl (fun _ => Int32.ofInt 0))), (q121, .inl (ct 0, 8, .inl (fun _ => Int32.ofInt 0))), (q122, .inl (ct 0, 6, .inl (fun _ => Int32.ofInt 0))), (q123, .inl (ct 0, 6, .inl (fun _ => Int32.ofInt 0))), (q124, .inl (ct 0, 6, .inl (fun _ => Int32.ofInt 0))), (q125, .inl (ct 0, 6, .inl (fun _ => Int32.ofInt 0))), (q126, .inl (ct 0, 6, .inl (fun _ => Int32.ofInt 0))), (q127, .inl (ct 0, 10, .inl (fun _ => Int32.ofInt 0))), (q128, .inl (ct 0, 10, .inl (fun _ => Int32.ofInt 0))), (q129, .inl (ct 0, 10, .inl (fun _ => Int32.ofInt 0))), (q130, .inr (0, [.ref q131])), (q131, .inl (ct 0, 500, .inl (fun _ => Int32.ofInt 0))), (q132, .inr (9, [.ref q133, .int (Int32.ofInt 0), .ref q134, .ref q135, .ref q136, .int (Int32.ofInt 0)])), (q133, .inl (ct 1, 400, .inl (fun _ => Int32.ofInt 0))), (q134, .inl (ct 0, 400, .inl (fun _ => Int32.ofInt 0))), (q135, .inl (ct 0, 400, .inl (fun _ => Int32.ofInt 0))), (q136, .inl (ct 0, 400, .inl (fun _ => Int32.ofInt 0))), (q137, .inr (8, [.ref q132, .ref q1, .ref q138, .int (Int32.ofInt 0), .int (Int32.ofInt 0), .ref q139, .int (Int32.ofInt 0), .int (Int32.ofInt 0), .int (Int32.ofInt 0), .int (Int32.ofInt (-1))])), (q138, .inl (ct 0, 600, .inl (fun _ => Int32.ofInt 0))), (q139, .inr (4, [.ref q140, .ref q141, .ref q142, .ref q143, .int (Int32.ofInt 0), .int (Int32.ofInt 0)])), (q140, .inl (ct 0, 800, .inl (fun _ => Int32.ofInt 0))), (q141, .inl (ct 0, 17, .inl (fun _ => Int32.ofInt 0))), (q142, .inl (ct 0, 16, .inl (fun _ => Int32.ofInt 0))), (q143, .inl (ct 0, 32, .inl (fun _ => Int32.ofInt 0))), (q144, .inr (7, [.ref q1, .ref q27, .ref q145])), (q145, .inl (ct 0, 9, .inl (fun _ => Int32.ofInt 0))), (q146, .inr (3, [.ref q1, .ref q15, .ref q144, .ref q147, .ref q159, .ref q160, .ref q161, .int (Int32.ofInt 0), .int (Int32.ofInt 0), .int (Int32.ofInt 0), .int (Int32.ofInt 0), .int (Int32.ofInt 0)])), (q147, .inr (2, [.int (Int32.ofInt 0), .int (Int32.ofInt 0), .ref q148, .ref q149, .ref q150, .ref q151, .ref q152, .ref q153, .ref q154, .ref q155, .ref q156, .ref q157, .ref q158, .int (Int32.ofInt 0)])), (q148, .inl (ct 0, 8, .inl (fun _ => Int32.ofInt 0))), (q149, .inl (ct 0, 8, .inl (fun _ => Int32.ofInt 0))), (q150, .inl (ct 0, 8, .inl (fun _ => Int32.ofInt 0))), (q151, .inl (ct 0, 6, .inl (fun _ => Int32.ofInt 0))), (q152, .inl (ct 0, 6, .inl (fun _ => Int32.ofInt 0))), (q153, .inl (ct 0, 6, .inl (fun _ => Int32.ofInt 0))), (q154, .inl (ct 0, 6, .inl (fun _ => Int32.ofInt 0))), (q155, .inl (ct 0, 6, .inl (fun _ => Int32.ofInt 0))), (q156, .inl (ct 0, 10, .inl (fun _ => Int32.ofInt 0))), (q157, .inl (ct 0, 10, .inl (fun _ => Int32.ofInt 0))), (q158, .inl (ct 0, 10, .inl (fun _ => Int32.ofInt 0))), (q159, .inl (ct 0, 10, .inl (fun _ => Int32.ofInt 0))), (q160, .inl (ct 0, 600, .inl (fun _ => Int32.ofInt 0))), (q161, .inl (ct 0, 600, .inl (fun _ => Int32.ofInt 0))), (q162, .inr (1, [.ref q1, .ref q15, .ref q146, .int (Int32.ofInt 0), .ref q163, .ref q164, .ref q165, .ref q166, .ref q167, .ref q168, .ref q169, .ref q170, .ref q171, .ref q172, .ref q173, .ref q174, .ref q175, .int (Int32.ofInt 0), .int (Int32.ofInt 0), .int (Int32.ofInt 0)])), (q163, .inl (ct 0, 10, .inl (fun _ => Int32.ofInt 0))), (q164, .inl (ct 0, 10, .inl (fun _ => Int32.ofInt 0))), (q165, .inl (ct 0, 100, .inl (fun _ => Int32.ofInt 0))), (q166, .inl (ct 0, 1024, .inl (fun _ => Int32.ofInt 0))), (q167, .inl (ct 0, 6, .inl (fun _ => Int32.ofInt 0))), (q168, .inl (ct 0, 192, .inl (fun _ => Int32.ofInt 0))), (q169, .inl (ct 0, 2048, .inl (fun _ => Int32.ofInt 0))), (q170, .inl (ct 0, 1512, .inl (fun _ => Int32.ofInt 0))), (q171, .inl (ct 0, 6, .inl (fun _ => Int32.ofInt 0))), (q172, .inl (ct 0, 64, .inl (fun _ => Int32.ofInt 0))), (q173, .inl (ct 0, 10240, .inl (fun _ => Int32.ofInt 0))), (q174, .inl (ct 0, 6, .inl (fun _ => Int32.ofInt 0))), (q175, .inl (ct 0, 6, .inl (fun _ => Int32.ofInt 0)))] : va_W) = ev_ws layX ct (cv_adX q0 q1 q2 q3 q4 q5 q6 q7 q8 q9 q10 q11 q12 q13 q14 q15 q16 q17 q18 q19 q20 q21 q22 q23 q24 q25 q26 q27 q28 q29 q30 q31 q32 q33 q34 q35 q36 q37 q38 q39 q40 q41 q42 q43 q44 q45 q46 q47 q48 q49 q50 q51 q52 q53 q54 q55 q56 q57 q58 q59 q60 q61 q62 q63 q64 q65 q66 q67 q68 q69 q70 q71 q72 q73 q74 q75 q76 q77 q78 q79 q80 q81 q82 q83 q84 q85 q86 q87 q88 q89 q90 q91 q92 q93 q94 q95 q96 q97 q98 q99 q100 q101 q102 q103 q104 q105 q106 q107 q108 q109 q110 q111 q112 q113 q114 q115 q116 q117 q118 q119 q120 q121 q122 q123 q124 q125 q126 q127 q128 q129 q130 q131 q132 q133 q134 q135 q136 q137 q138 q139 q140 q141 q142 q143 q144 q145 q146 q147 q148 q149 q150 q151 q152 q153 q154 q155 q156 q157 q158 q159 q160 q161 q162 q163 q164 q165 q166 q167 q168 q169 q170 q171 q172 q173 q174 q175) cv_s0 := by
  have hf : (fun i : Nat => ([q31, q43, q55, q67, q79, q91] : List Nat)[i]?) = fun i : Nat => ([31, 43, 55, 67, 79, 91] : List Nat)[i]?.map (cv_adX q0 q1 q2 q3 q4 q5 q6 q7 q8 q9 q10 q11 q12 q13 q14 q15 q16 q17 q18 q19 q20 q21 q22 q23 q24 q25 q26 q27 q28 q29 q30 q31 q32 q33 q34 q35 q36 q37 q38 q39 q40 q41 q42 q43 q44 q45 q46 q47 q48 q49 q50 q51 q52 q53 q54 q55 q56 q57 q58 q59 q60 q61 q62 q63 q64 q65 q66 q67 q68 q69 q70 q71 q72 q73 q74 q75 q76 q77 q78 q79 q80 q81 q82 q83 q84 q85 q86 q87 q88 q89 q90 q91 q92 q93 q94 q95 q96 q97 q98 q99 q100 q101 q102 q103 q104 q105 q106 q107 q108 q109 q110 q111 q112 q113 q114 q115 q116 q117 q118 q119 q120 q121 q122 q123 q124 q125 q126 q127 q128 q129 q130 q131 q132 q133 q134 q135 q136 q137 q138 q139 q140 q141 q142 q143 q144 q145 q146 q147 q148 q149 q150 q151 q152 q153 q154 q155 q156 q157 q158 q159 q160 q161 q162 q163 q164 q165 q166 q167 q168 q169 q170 q171 q172 q173 q174 q175) := by
    funext i
    match i with
    | 0 => rfl
    | 1 => rfl
    | 2 => rfl
    | 3 => rfl
    | 4 => rfl
    | 5 => rfl
    | n + 6 => rfl
  rw [hf, ev_ws_R]
  rfl
def XI (σ : ev_S) : Prop := (σ 1 0 = 8 ∧ σ 1 1 = 8 ∧ σ 1 2 = 3 ∧ σ 1 4 = 0 ∧ σ 1 7 = 0 ∧ σ 1 11 = 0 ∧ σ 1 13 = 0) ∧ (∀ i, i < 5 → σ 2 i = 0) ∧ σ 10 5 = 0 ∧ XC σ 15 (fun _ => 0) ∧ ∀ c, c ≠ 1 → c ≠ 2 → c ≠ 10 → (c < 15 ∨ 26 < c) → σ c = cv_s0 c
def cw_X11 (ct : Nat → ClassId) (h0 : Nat) (w : va_W) : Prop := ∃ (ad : Nat → Nat) (σ : ev_S), ad 0 = h0 ∧ ev_ok σ ∧ w = ev_ws layX ct ad σ ∧ XI σ
theorem Cv_getE {ct : Nat → ClassId} {M : ev_M} {R : Room} {pc : Nat} {lv : List (Nat × Value)} {st : List Value} {cells slots mc ms : Nat} {Q : va_W → Prop} {Y : List ev_C} {ad : Nat → Nat} {σ : ev_S} {k ci i idx N j : Nat} {C : String} {T : u_T} {ty0 : Nat → FieldType} {fs : List (Option Nat)} (hC : ev_cl ci C T N ty0) (hY : Y[k]? = some (.inr (.inl (ci, fs)))) (hi : i < N) (hf : fs[i]? = some (some j)) (hw : Cond.fieldLink M.1 idx (T i).1 (T i).2.1 (T i).2.2.1 ∈ lw_tbl) (hd : decode M.2.1 pc = .ok (.getfield idx, 3)) (kk : Cv ct M R (pc + 3) lv (.ref (ad j) :: st) (ev_ws Y ct ad σ) cells slots mc ms Q) : Cv ct M R pc lv (.ref (ad k) :: st) (ev_ws Y ct ad σ) cells slots mc ms Q := by
  intro p L e s m args below meth c D A H locs ls X hnm hO hP hD hS hl
  refine va_get (v := .ref (ad j)) X.1 X.2.1 X.2.2.2.2.2.2.1 hC.2.1 X.2.2.2.2.1 X.2.2.2.2.2.2.2.1 hP k (ev_at hY) hC.1 i hi (ev_hts X hw rfl) (fun _ h => h) (ev_fl_some hf) hd ?_
  exact kk p L e s m args below meth c D A H locs ls X hnm hO hP hD hS hl
theorem cv_s0_ok : ev_ok cv_s0 := by
  intro k i
  unfold cv_s0
  split
  · split
    · exact ⟨by omega, by omega⟩
    · exact ev_R0
  · exact ev_R0
theorem cv_tailX (ct : Nat → ClassId) (ad : Nat → Nat) (h0 : Nat) (h : ad 0 = h0) : Cv ct M_X11_init (cv_rm 6 175 34022) 154 [(0, .ref h0)] [] (ev_ws layX ct ad cv_s0) 175 34022 175 34022 (cw_X11 ct h0) := by
  subst h
  refine Cv_aload 0 dX11_init_154 rfl rfl ?_
  refine Cv_getE (k := 0) (i := 0) (j := 1) cl_X11 yX_0 (Nat.le_of_ble_eq_true rfl) rfl we_700 dX11_init_155 ?_
  refine Cv_bipush dX11_init_158 rfl ?_
  refine Cv_bipush dX11_init_160 rfl ?_
  refine Cv_callE (Q' := fun (_ : Option ev_V) s' => (s' 1 0 = 8 ∧ s' 1 1 = 8 ∧ s' 1 2 = 3 ∧ s' 1 4 = 0 ∧ s' 1 7 = 0 ∧ s' 1 11 = 0 ∧ s' 1 13 = 0) ∧ (∀ i, i < 5 → s' 2 i = 0) ∧ s' 10 5 = 0 ∧ ∀ c, c ≠ 1 → c ≠ 2 → c ≠ 10 → s' c = cv_s0 c) (st := []) (As := [ev_i 8, ev_i 8]) (b := 1) (d := 6) (d' := 3) cm_X10_clear rfl we_680 we_681 we_682 yX_1 cl_X10 rfl dX11_init_162 (Nat.le_of_ble_eq_true rfl) rfl rfl (Nat.le_of_ble_eq_true rfl) (Nat.le_of_ble_eq_true rfl) ?_ cv_s0_ok (Nat.le_of_ble_eq_true rfl) (Nat.le_of_ble_eq_true rfl) (sp_tclear (d := 2) (fun s' t1 t2 t3 t4 => ⟨t1, t2, t3, t4⟩)) (fun u hu hok => ?_)
  · intro v hv
    have e : v = ev_i 8 := by simpa using hv
    subst e
    exact ev_Rc rfl
  obtain ⟨t1, t2, t3, t4⟩ := hu
  refine Cv_aload 0 dX11_init_165 rfl rfl ?_
  refine Cv_getE (k := 0) (i := 1) (j := 15) cl_X11 yX_0 (Nat.le_of_ble_eq_true rfl) rfl we_701 dX11_init_166 ?_
  refine Cv_callE (Q' := fun (_ : Option ev_V) s' => XC s' 15 (fun _ => 0) ∧ frC 15 u s') (st := []) (As := []) (b := 15) (d := 6) (d' := 3) cm_X2_clear rfl we_691 we_692 we_693 yX_15 cl_X2 rfl dX11_init_169 (Nat.le_of_ble_eq_true rfl) rfl rfl (Nat.le_of_ble_eq_true rfl) (Nat.le_of_ble_eq_true rfl) (fun v hv => by cases hv) hok (Nat.le_of_ble_eq_true rfl) (Nat.le_of_ble_eq_true rfl) (sp_cclear (d := 1) (fun s' c1 c2 => ⟨c1, c2⟩)) (fun u2 hu2 hok2 => ?_)
  obtain ⟨c1, c2⟩ := hu2
  refine Cv_ret rfl dX11_init_172 (Nat.le_refl _) (Nat.le_refl _) ⟨ad, u2, rfl, hok2, rfl, ?_⟩
  have k1 : u2 1 = u 1 := c2 1 (by omega)
  have k2 : u2 2 = u 2 := c2 2 (by omega)
  have k3 : u2 10 = u 10 := c2 10 (by omega)
  refine ⟨by rw [k1]; exact t1, by rw [k2]; exact t2, by rw [k3]; exact t3, c1, fun c n1 n2 n3 n4 => ?_⟩
  rw [c2 c (by omega)]
  exact t4 c n1 n2 n3
set_option maxRecDepth 100000 in
set_option maxHeartbeats 4000000 in
theorem ci_X11 {ct : Nat → ClassId} (h0 : Nat) : Cv ct M_X11_init (cv_rm 6 175 34022) 0 (lv_args 0 [.ref h0]) [] [(h0, .inr (11, fs0_X11))] 0 0 175 34022 (cw_X11 ct h0) := by
  show Cv ct M_X11_init (cv_rm 6 175 34022) 0 [(0, .ref h0)] [] [(h0, .inr (11, fs0_X11))] 0 0 175 34022 _
  refine Cv_aload 0 dX11_init_0 rfl rfl ?_
  refine Cv_obj we_202 we_203 we_objcode dX11_init_1 (Nat.le_of_ble_eq_true rfl) (Nat.le_of_ble_eq_true rfl) ?_
  refine Cv_aload 0 dX11_init_4 rfl rfl ?_
  refine Cv_new (fs := fs0_X10) cl_X10 we_205 we_206 we_176 df_X10 (Nat.le_of_ble_eq_true rfl) (Nat.le_of_ble_eq_true rfl) dX11_init_5 (fun n0 => ?_)
  refine Cv_dup dX11_init_8 rfl ?_
  refine Cv_call (d := 6) (d' := 2) (mc' := 13) (ms' := 6264) (h0 := n0) (ci := 10) (As := []) (fs := fs0_X10) cv_cm_X10 (Or.inr ⟨_, we_207⟩) dX11_init_9 (Nat.le_of_ble_eq_true rfl) rfl rfl (Nat.le_of_ble_eq_true rfl) (Nat.le_of_ble_eq_true rfl) (Nat.le_of_ble_eq_true rfl) (Nat.le_of_ble_eq_true rfl) (ci_X10 n0) (fun w1 hw1 => ?_)
  refine Cv_put (k := 0) (fs' := [.ref n0, .null, .null, .null, .null, .null, .null, .null, .null, .null]) cl_X11 (Nat.le_of_ble_eq_true rfl) rfl we_700 rfl rfl (Nat.le_of_ble_eq_true rfl) rfl dX11_init_12 ?_
  refine Cv_aload 0 dX11_init_15 rfl rfl ?_
  refine Cv_new (fs := fs0_X2) cl_X2 we_331 we_332 we_178 df_X2 (Nat.le_of_ble_eq_true rfl) (Nat.le_of_ble_eq_true rfl) dX11_init_16 (fun n2 => ?_)
  refine Cv_dup dX11_init_19 rfl ?_
  refine Cv_call (d := 6) (d' := 1) (mc' := 11) (ms' := 84) (h0 := n2) (ci := 2) (As := []) (fs := fs0_X2) cv_cm_X2 (Or.inr ⟨_, we_333⟩) dX11_init_20 (Nat.le_of_ble_eq_true rfl) rfl rfl (Nat.le_of_ble_eq_true rfl) (Nat.le_of_ble_eq_true rfl) (Nat.le_of_ble_eq_true rfl) (Nat.le_of_ble_eq_true rfl) (ci_X2 n2) (fun w3 hw3 => ?_)
  refine Cv_put (k := 1) (fs' := [.ref n0, .ref n2, .null, .null, .null, .null, .null, .null, .null, .null]) cl_X11 (Nat.le_of_ble_eq_true rfl) rfl we_701 rfl rfl (Nat.le_of_ble_eq_true rfl) rfl dX11_init_23 ?_
  refine Cv_aload 0 dX11_init_26 rfl rfl ?_
  refine Cv_new (fs := fs0_X0) cl_X0 we_413 we_414 we_179 df_X0 (Nat.le_of_ble_eq_true rfl) (Nat.le_of_ble_eq_true rfl) dX11_init_27 (fun n4 => ?_)
  refine Cv_dup dX11_init_30 rfl ?_
  refine Cv_call (d := 6) (d' := 1) (mc' := 1) (ms' := 500) (h0 := n4) (ci := 0) (As := []) (fs := fs0_X0) cv_cm_X0 (Or.inr ⟨_, we_415⟩) dX11_init_31 (Nat.le_of_ble_eq_true rfl) rfl rfl (Nat.le_of_ble_eq_true rfl) (Nat.le_of_ble_eq_true rfl) (Nat.le_of_ble_eq_true rfl) (Nat.le_of_ble_eq_true rfl) (ci_X0 n4) (fun w5 hw5 => ?_)
  refine Cv_put (k := 2) (fs' := [.ref n0, .ref n2, .ref n4, .null, .null, .null, .null, .null, .null, .null]) cl_X11 (Nat.le_of_ble_eq_true rfl) rfl we_702 rfl rfl (Nat.le_of_ble_eq_true rfl) rfl dX11_init_34 ?_
  refine Cv_aload 0 dX11_init_37 rfl rfl ?_
  refine Cv_new (fs := fs0_X5) cl_X5 we_424 we_425 we_180 df_X5 (Nat.le_of_ble_eq_true rfl) (Nat.le_of_ble_eq_true rfl) dX11_init_38 (fun n6 => ?_)
  refine Cv_dup dX11_init_41 rfl ?_
  refine Cv_call (d := 6) (d' := 2) (mc' := 73) (ms' := 594) (h0 := n6) (ci := 5) (As := []) (fs := fs0_X5) cv_cm_X5 (Or.inl we_426) dX11_init_42 (Nat.le_of_ble_eq_true rfl) rfl rfl (Nat.le_of_ble_eq_true rfl) (Nat.le_of_ble_eq_true rfl) (Nat.le_of_ble_eq_true rfl) (Nat.le_of_ble_eq_true rfl) (ci_X5 n6) (fun w7 hw7 => ?_)
  refine Cv_put (k := 3) (fs' := [.ref n0, .ref n2, .ref n4, .ref n6, .null, .null, .null, .null, .null, .null]) cl_X11 (Nat.le_of_ble_eq_true rfl) rfl we_703 rfl rfl (Nat.le_of_ble_eq_true rfl) rfl dX11_init_45 ?_
  refine Cv_aload 0 dX11_init_48 rfl rfl ?_
  refine Cv_new (fs := fs0_X6) cl_X6 we_444 we_445 we_181 df_X6 (Nat.le_of_ble_eq_true rfl) (Nat.le_of_ble_eq_true rfl) dX11_init_49 (fun n8 => ?_)
  refine Cv_dup dX11_init_52 rfl ?_
  refine Cv_call (d := 6) (d' := 3) (mc' := 28) (ms' := 6879) (h0 := n8) (ci := 6) (As := []) (fs := fs0_X6) cv_cm_X6 (Or.inr ⟨_, we_446⟩) dX11_init_53 (Nat.le_of_ble_eq_true rfl) rfl rfl (Nat.le_of_ble_eq_true rfl) (Nat.le_of_ble_eq_true rfl) (Nat.le_of_ble_eq_true rfl) (Nat.le_of_ble_eq_true rfl) (ci_X6 n8) (fun w9 hw9 => ?_)
  refine Cv_put (k := 4) (fs' := [.ref n0, .ref n2, .ref n4, .ref n6, .ref n8, .null, .null, .null, .null, .null]) cl_X11 (Nat.le_of_ble_eq_true rfl) rfl we_704 rfl rfl (Nat.le_of_ble_eq_true rfl) rfl dX11_init_56 ?_
  refine Cv_aload 0 dX11_init_59 rfl rfl ?_
  refine Cv_new (fs := fs0_X9) cl_X9 we_470 we_471 we_182 df_X9 (Nat.le_of_ble_eq_true rfl) (Nat.le_of_ble_eq_true rfl) dX11_init_60 (fun n10 => ?_)
  refine Cv_dup dX11_init_63 rfl ?_
  refine Cv_call (d := 6) (d' := 1) (mc' := 4) (ms' := 1600) (h0 := n10) (ci := 9) (As := []) (fs := fs0_X9) cv_cm_X9 (Or.inr ⟨_, we_472⟩) dX11_init_64 (Nat.le_of_ble_eq_true rfl) rfl rfl (Nat.le_of_ble_eq_true rfl) (Nat.le_of_ble_eq_true rfl) (Nat.le_of_ble_eq_true rfl) (Nat.le_of_ble_eq_true rfl) (ci_X9 n10) (fun w11 hw11 => ?_)
  refine Cv_put (k := 5) (fs' := [.ref n0, .ref n2, .ref n4, .ref n6, .ref n8, .ref n10, .null, .null, .null, .null]) cl_X11 (Nat.le_of_ble_eq_true rfl) rfl we_705 rfl rfl (Nat.le_of_ble_eq_true rfl) rfl dX11_init_67 ?_
  refine Cv_aload 0 dX11_init_70 rfl rfl ?_
  refine Cv_new (fs := fs0_X8) cl_X8 we_501 we_502 we_183 df_X8 (Nat.le_of_ble_eq_true rfl) (Nat.le_of_ble_eq_true rfl) dX11_init_71 (fun n12 => ?_)
  refine Cv_dup dX11_init_74 rfl ?_
  refine Cv_aload 0 dX11_init_75 rfl rfl ?_
  refine Cv_get (k := 5) (v := .ref n10) cl_X11 (Nat.le_of_ble_eq_true rfl) we_705 rfl dX11_init_76 ?_
  refine Cv_aload 0 dX11_init_79 rfl rfl ?_
  refine Cv_get (k := 0) (v := .ref n0) cl_X11 (Nat.le_of_ble_eq_true rfl) we_700 rfl dX11_init_80 ?_
  refine Cv_call (d := 6) (d' := 2) (mc' := 6) (ms' := 1471) (h0 := n12) (ci := 8) (As := [.ref n10, .ref n0]) (fs := fs0_X8) cv_cm_X8 (Or.inl we_503) dX11_init_83 (Nat.le_of_ble_eq_true rfl) rfl rfl (Nat.le_of_ble_eq_true rfl) (Nat.le_of_ble_eq_true rfl) (Nat.le_of_ble_eq_true rfl) (Nat.le_of_ble_eq_true rfl) (ci_X8 n12 n10 n0) (fun w13 hw13 => ?_)
  refine Cv_put (k := 6) (fs' := [.ref n0, .ref n2, .ref n4, .ref n6, .ref n8, .ref n10, .ref n12, .null, .null, .null]) cl_X11 (Nat.le_of_ble_eq_true rfl) rfl we_706 rfl rfl (Nat.le_of_ble_eq_true rfl) rfl dX11_init_86 ?_
  refine Cv_aload 0 dX11_init_89 rfl rfl ?_
  refine Cv_new (fs := fs0_X7) cl_X7 we_546 we_547 we_184 df_X7 (Nat.le_of_ble_eq_true rfl) (Nat.le_of_ble_eq_true rfl) dX11_init_90 (fun n14 => ?_)
  refine Cv_dup dX11_init_93 rfl ?_
  refine Cv_aload 0 dX11_init_94 rfl rfl ?_
  refine Cv_get (k := 0) (v := .ref n0) cl_X11 (Nat.le_of_ble_eq_true rfl) we_700 rfl dX11_init_95 ?_
  refine Cv_aload 0 dX11_init_98 rfl rfl ?_
  refine Cv_get (k := 2) (v := .ref n4) cl_X11 (Nat.le_of_ble_eq_true rfl) we_702 rfl dX11_init_99 ?_
  refine Cv_call (d := 6) (d' := 1) (mc' := 1) (ms' := 9) (h0 := n14) (ci := 7) (As := [.ref n0, .ref n4]) (fs := fs0_X7) cv_cm_X7 (Or.inl we_548) dX11_init_102 (Nat.le_of_ble_eq_true rfl) rfl rfl (Nat.le_of_ble_eq_true rfl) (Nat.le_of_ble_eq_true rfl) (Nat.le_of_ble_eq_true rfl) (Nat.le_of_ble_eq_true rfl) (ci_X7 n14 n0 n4) (fun w15 hw15 => ?_)
  refine Cv_put (k := 7) (fs' := [.ref n0, .ref n2, .ref n4, .ref n6, .ref n8, .ref n10, .ref n12, .ref n14, .null, .null]) cl_X11 (Nat.le_of_ble_eq_true rfl) rfl we_707 rfl rfl (Nat.le_of_ble_eq_true rfl) rfl dX11_init_105 ?_
  refine Cv_aload 0 dX11_init_108 rfl rfl ?_
  refine Cv_new (fs := fs0_X3) cl_X3 we_562 we_563 we_185 df_X3 (Nat.le_of_ble_eq_true rfl) (Nat.le_of_ble_eq_true rfl) dX11_init_109 (fun n16 => ?_)
  refine Cv_dup dX11_init_112 rfl ?_
  refine Cv_aload 0 dX11_init_113 rfl rfl ?_
  refine Cv_get (k := 0) (v := .ref n0) cl_X11 (Nat.le_of_ble_eq_true rfl) we_700 rfl dX11_init_114 ?_
  refine Cv_aload 0 dX11_init_117 rfl rfl ?_
  refine Cv_get (k := 1) (v := .ref n2) cl_X11 (Nat.le_of_ble_eq_true rfl) we_701 rfl dX11_init_118 ?_
  refine Cv_aload 0 dX11_init_121 rfl rfl ?_
  refine Cv_get (k := 7) (v := .ref n14) cl_X11 (Nat.le_of_ble_eq_true rfl) we_707 rfl dX11_init_122 ?_
  refine Cv_call (d := 6) (d' := 2) (mc' := 15) (ms' := 1308) (h0 := n16) (ci := 3) (As := [.ref n0, .ref n2, .ref n14]) (fs := fs0_X3) cv_cm_X3 (Or.inl we_564) dX11_init_125 (Nat.le_of_ble_eq_true rfl) rfl rfl (Nat.le_of_ble_eq_true rfl) (Nat.le_of_ble_eq_true rfl) (Nat.le_of_ble_eq_true rfl) (Nat.le_of_ble_eq_true rfl) (ci_X3 n16 n0 n2 n14) (fun w17 hw17 => ?_)
  refine Cv_put (k := 8) (fs' := [.ref n0, .ref n2, .ref n4, .ref n6, .ref n8, .ref n10, .ref n12, .ref n14, .ref n16, .null]) cl_X11 (Nat.le_of_ble_eq_true rfl) rfl we_708 rfl rfl (Nat.le_of_ble_eq_true rfl) rfl dX11_init_128 ?_
  refine Cv_aload 0 dX11_init_131 rfl rfl ?_
  refine Cv_new (fs := fs0_X1) cl_X1 we_612 we_613 we_186 df_X1 (Nat.le_of_ble_eq_true rfl) (Nat.le_of_ble_eq_true rfl) dX11_init_132 (fun n18 => ?_)
  refine Cv_dup dX11_init_135 rfl ?_
  refine Cv_aload 0 dX11_init_136 rfl rfl ?_
  refine Cv_get (k := 0) (v := .ref n0) cl_X11 (Nat.le_of_ble_eq_true rfl) we_700 rfl dX11_init_137 ?_
  refine Cv_aload 0 dX11_init_140 rfl rfl ?_
  refine Cv_get (k := 1) (v := .ref n2) cl_X11 (Nat.le_of_ble_eq_true rfl) we_701 rfl dX11_init_141 ?_
  refine Cv_aload 0 dX11_init_144 rfl rfl ?_
  refine Cv_get (k := 8) (v := .ref n16) cl_X11 (Nat.le_of_ble_eq_true rfl) we_708 rfl dX11_init_145 ?_
  refine Cv_call (d := 6) (d' := 1) (mc' := 13) (ms' := 15224) (h0 := n18) (ci := 1) (As := [.ref n0, .ref n2, .ref n16]) (fs := fs0_X1) cv_cm_X1 (Or.inl we_614) dX11_init_148 (Nat.le_of_ble_eq_true rfl) rfl rfl (Nat.le_of_ble_eq_true rfl) (Nat.le_of_ble_eq_true rfl) (Nat.le_of_ble_eq_true rfl) (Nat.le_of_ble_eq_true rfl) (ci_X1 n18 n0 n2 n16) (fun w19 hw19 => ?_)
  refine Cv_put (k := 9) (fs' := [.ref n0, .ref n2, .ref n4, .ref n6, .ref n8, .ref n10, .ref n12, .ref n14, .ref n16, .ref n18]) cl_X11 (Nat.le_of_ble_eq_true rfl) rfl we_709 rfl rfl (Nat.le_of_ble_eq_true rfl) rfl dX11_init_151 ?_
  obtain ⟨n0_1, n0_2, n0_3, n0_4, n0_5, n0_6, n0_7, n0_8, n0_9, n0_10, n0_11, n0_12, n0_13, rfl⟩ := hw1
  obtain ⟨n2_1, n2_2, n2_3, n2_4, n2_5, n2_6, n2_7, n2_8, n2_9, n2_10, n2_11, rfl⟩ := hw3
  obtain ⟨n4_1, rfl⟩ := hw5
  obtain ⟨n6_1, n6_2, n6_3, n6_4, n6_5, n6_6, n6_7, n6_8, n6_9, n6_10, n6_11, n6_12, n6_13, n6_14, n6_15, n6_16, n6_17, n6_18, n6_19, n6_20, n6_21, n6_22, n6_23, n6_24, n6_25, n6_26, n6_27, n6_28, n6_29, n6_30, n6_31, n6_32, n6_33, n6_34, n6_35, n6_36, n6_37, n6_38, n6_39, n6_40, n6_41, n6_42, n6_43, n6_44, n6_45, n6_46, n6_47, n6_48, n6_49, n6_50, n6_51, n6_52, n6_53, n6_54, n6_55, n6_56, n6_57, n6_58, n6_59, n6_60, n6_61, n6_62, n6_63, n6_64, n6_65, n6_66, n6_67, n6_68, n6_69, n6_70, n6_71, n6_72, n6_73, rfl⟩ := hw7
  obtain ⟨n8_1, n8_2, n8_3, n8_4, n8_5, n8_6, n8_7, n8_8, n8_9, n8_10, n8_11, n8_12, n8_13, n8_14, n8_15, n8_16, n8_17, n8_18, n8_19, n8_20, n8_21, n8_22, n8_23, n8_24, n8_25, n8_26, n8_27, n8_28, rfl⟩ := hw9
  obtain ⟨n10_1, n10_2, n10_3, n10_4, rfl⟩ := hw11
  obtain ⟨n12_1, n12_2, n12_3, n12_4, n12_5, n12_6, rfl⟩ := hw13
  obtain ⟨n14_1, rfl⟩ := hw15
  obtain ⟨n16_1, n16_2, n16_3, n16_4, n16_5, n16_6, n16_7, n16_8, n16_9, n16_10, n16_11, n16_12, n16_13, n16_14, n16_15, rfl⟩ := hw17
  obtain ⟨n18_1, n18_2, n18_3, n18_4, n18_5, n18_6, n18_7, n18_8, n18_9, n18_10, n18_11, n18_12, n18_13, rfl⟩ := hw19
  exact Cv_w (cv_asmX ct h0 n0 n0_1 n0_2 n0_3 n0_4 n0_5 n0_6 n0_7 n0_8 n0_9 n0_10 n0_11 n0_12 n0_13 n2 n2_1 n2_2 n2_3 n2_4 n2_5 n2_6 n2_7 n2_8 n2_9 n2_10 n2_11 n4 n4_1 n6 n6_1 n6_2 n6_3 n6_4 n6_5 n6_6 n6_7 n6_8 n6_9 n6_10 n6_11 n6_12 n6_13 n6_14 n6_15 n6_16 n6_17 n6_18 n6_19 n6_20 n6_21 n6_22 n6_23 n6_24 n6_25 n6_26 n6_27 n6_28 n6_29 n6_30 n6_31 n6_32 n6_33 n6_34 n6_35 n6_36 n6_37 n6_38 n6_39 n6_40 n6_41 n6_42 n6_43 n6_44 n6_45 n6_46 n6_47 n6_48 n6_49 n6_50 n6_51 n6_52 n6_53 n6_54 n6_55 n6_56 n6_57 n6_58 n6_59 n6_60 n6_61 n6_62 n6_63 n6_64 n6_65 n6_66 n6_67 n6_68 n6_69 n6_70 n6_71 n6_72 n6_73 n8 n8_1 n8_2 n8_3 n8_4 n8_5 n8_6 n8_7 n8_8 n8_9 n8_10 n8_11 n8_12 n8_13 n8_14 n8_15 n8_16 n8_17 n8_18 n8_19 n8_20 n8_21 n8_22 n8_23 n8_24 n8_25 n8_26 n8_27 n8_28 n10 n10_1 n10_2 n10_3 n10_4 n12 n12_1 n12_2 n12_3 n12_4 n12_5 n12_6 n14 n14_1 n16 n16_1 n16_2 n16_3 n16_4 n16_5 n16_6 n16_7 n16_8 n16_9 n16_10 n16_11 n16_12 n16_13 n16_14 n16_15 n18 n18_1 n18_2 n18_3 n18_4 n18_5 n18_6 n18_7 n18_8 n18_9 n18_10 n18_11 n18_12 n18_13) (cv_tailX ct (cv_adX h0 n0 n0_1 n0_2 n0_3 n0_4 n0_5 n0_6 n0_7 n0_8 n0_9 n0_10 n0_11 n0_12 n0_13 n2 n2_1 n2_2 n2_3 n2_4 n2_5 n2_6 n2_7 n2_8 n2_9 n2_10 n2_11 n4 n4_1 n6 n6_1 n6_2 n6_3 n6_4 n6_5 n6_6 n6_7 n6_8 n6_9 n6_10 n6_11 n6_12 n6_13 n6_14 n6_15 n6_16 n6_17 n6_18 n6_19 n6_20 n6_21 n6_22 n6_23 n6_24 n6_25 n6_26 n6_27 n6_28 n6_29 n6_30 n6_31 n6_32 n6_33 n6_34 n6_35 n6_36 n6_37 n6_38 n6_39 n6_40 n6_41 n6_42 n6_43 n6_44 n6_45 n6_46 n6_47 n6_48 n6_49 n6_50 n6_51 n6_52 n6_53 n6_54 n6_55 n6_56 n6_57 n6_58 n6_59 n6_60 n6_61 n6_62 n6_63 n6_64 n6_65 n6_66 n6_67 n6_68 n6_69 n6_70 n6_71 n6_72 n6_73 n8 n8_1 n8_2 n8_3 n8_4 n8_5 n8_6 n8_7 n8_8 n8_9 n8_10 n8_11 n8_12 n8_13 n8_14 n8_15 n8_16 n8_17 n8_18 n8_19 n8_20 n8_21 n8_22 n8_23 n8_24 n8_25 n8_26 n8_27 n8_28 n10 n10_1 n10_2 n10_3 n10_4 n12 n12_1 n12_2 n12_3 n12_4 n12_5 n12_6 n14 n14_1 n16 n16_1 n16_2 n16_3 n16_4 n16_5 n16_6 n16_7 n16_8 n16_9 n16_10 n16_11 n16_12 n16_13 n16_14 n16_15 n18 n18_1 n18_2 n18_3 n18_4 n18_5 n18_6 n18_7 n18_8 n18_9 n18_10 n18_11 n18_12 n18_13) h0 rfl)
end
