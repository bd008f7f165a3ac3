section
theorem we_176 : Cond.initialized "AngelTown$Town" ∈ lw_tbl := tb_1 (List.mem_of_getElem? (i := 2) (by decide +kernel))
theorem we_177 : Cond.initialized "AngelTown$Law" ∈ lw_tbl := tb_1 (List.mem_of_getElem? (i := 3) (by decide +kernel))
theorem we_178 : Cond.initialized "AngelTown$Course" ∈ lw_tbl := tb_1 (List.mem_of_getElem? (i := 4) (by decide +kernel))
theorem we_179 : Cond.initialized "AngelTown$Book" ∈ lw_tbl := tb_1 (List.mem_of_getElem? (i := 5) (by decide +kernel))
theorem we_180 : Cond.initialized "AngelTown$Past" ∈ lw_tbl := tb_1 (List.mem_of_getElem? (i := 6) (by decide +kernel))
theorem we_181 : Cond.initialized "AngelTown$Picture" ∈ lw_tbl := tb_1 (List.mem_of_getElem? (i := 7) (by decide +kernel))
theorem we_182 : Cond.initialized "AngelTown$Tape" ∈ lw_tbl := tb_1 (List.mem_of_getElem? (i := 8) (by decide +kernel))
theorem we_183 : Cond.initialized "AngelTown$Reader" ∈ lw_tbl := tb_1 (List.mem_of_getElem? (i := 9) (by decide +kernel))
theorem we_184 : Cond.initialized "AngelTown$Play" ∈ lw_tbl := tb_1 (List.mem_of_getElem? (i := 10) (by decide +kernel))
theorem we_185 : Cond.initialized "AngelTown$Foresight" ∈ lw_tbl := tb_1 (List.mem_of_getElem? (i := 11) (by decide +kernel))
theorem we_186 : Cond.initialized "AngelTown$Care" ∈ lw_tbl := tb_1 (List.mem_of_getElem? (i := 12) (by decide +kernel))
theorem we_203 : Cond.instanceMethod ⟨"java/lang/Object", "<init>", "()V"⟩ ∈ lw_tbl := tb_1 (List.mem_of_getElem? (i := 29) (by decide +kernel))
theorem we_206 : Cond.instantiable "AngelTown$Town" (16 : Nat) ∈ lw_tbl := tb_1 (List.mem_of_getElem? (i := 32) (by decide +kernel))
theorem we_208 : Cond.instanceMethod ⟨"AngelTown$Town", "<init>", "()V"⟩ ∈ lw_tbl := tb_1 (List.mem_of_getElem? (i := 34) (by decide +kernel))
theorem we_209 : Cond.code ⟨"AngelTown$Town", "<init>", "()V"⟩ prog_12_method_1_code 1 none ∈ lw_tbl := tb_1 (List.mem_of_getElem? (i := 35) rfl)
theorem we_210 : Cond.methodLink "AngelTown$Town" 3 ⟨"java/lang/Object", "<init>", "()V"⟩ ∈ lw_tbl := tb_1 (List.mem_of_getElem? (i := 36) (by decide +kernel))
theorem we_211 : Cond.classLink "AngelTown$Town" (37 : Nat) "AngelTown$Law" ∈ lw_tbl := tb_1 (List.mem_of_getElem? (i := 37) (by decide +kernel))
theorem we_212 : Cond.instantiable "AngelTown$Law" (6 : Nat) ∈ lw_tbl := tb_1 (List.mem_of_getElem? (i := 38) (by decide +kernel))
theorem we_213 : Cond.methodLinkNest "AngelTown$Town" 39 ⟨"AngelTown$Law", "<init>", "()V"⟩ "AngelTown" ∈ lw_tbl := tb_1 (List.mem_of_getElem? (i := 39) (by decide +kernel))
theorem we_214 : Cond.instanceMethod ⟨"AngelTown$Law", "<init>", "()V"⟩ ∈ lw_tbl := tb_1 (List.mem_of_getElem? (i := 40) (by decide +kernel))
theorem we_215 : Cond.code ⟨"AngelTown$Law", "<init>", "()V"⟩ prog_6_method_1_code 1 none ∈ lw_tbl := tb_1 (List.mem_of_getElem? (i := 41) rfl)
theorem we_216 : Cond.methodLink "AngelTown$Law" 3 ⟨"java/lang/Object", "<init>", "()V"⟩ ∈ lw_tbl := tb_1 (List.mem_of_getElem? (i := 42) (by decide +kernel))
theorem we_217 : Cond.fieldLink "AngelTown$Law" 11 "AngelTown$Law" "code" "[I" ∈ lw_tbl := tb_1 (List.mem_of_getElem? (i := 43) (by decide +kernel))
theorem we_218 : Cond.fieldLink "AngelTown$Law" 15 "AngelTown$Law" "starts" "[I" ∈ lw_tbl := tb_1 (List.mem_of_getElem? (i := 44) (by decide +kernel))
theorem we_219 : Cond.fieldLink "AngelTown$Law" 18 "AngelTown$Law" "works" "[I" ∈ lw_tbl := tb_1 (List.mem_of_getElem? (i := 45) (by decide +kernel))
theorem we_220 : Cond.fieldLink "AngelTown$Law" 21 "AngelTown$Law" "stack" "[I" ∈ lw_tbl := tb_1 (List.mem_of_getElem? (i := 46) (by decide +kernel))
theorem we_250 : Cond.fieldLink "AngelTown$Town" 9 "AngelTown$Town" "pauses" "[I" ∈ lw_tbl := tb_1 (List.mem_of_getElem? (i := 76) (by decide +kernel))
theorem we_257 : Cond.fieldLink "AngelTown$Town" 15 "AngelTown$Town" "ways" "[B" ∈ lw_tbl := tb_1 (List.mem_of_getElem? (i := 83) (by decide +kernel))
theorem we_260 : Cond.fieldLink "AngelTown$Town" 19 "AngelTown$Town" "wayLengths" "[I" ∈ lw_tbl := tb_1 (List.mem_of_getElem? (i := 86) (by decide +kernel))
theorem we_268 : Cond.fieldLink "AngelTown$Town" 22 "AngelTown$Town" "paces" "[I" ∈ lw_tbl := tb_1 (List.mem_of_getElem? (i := 94) (by decide +kernel))
theorem we_273 : Cond.fieldLink "AngelTown$Town" 25 "AngelTown$Town" "plans" "[I" ∈ lw_tbl := tb_1 (List.mem_of_getElem? (i := 99) (by decide +kernel))
theorem we_276 : Cond.fieldLink "AngelTown$Town" 28 "AngelTown$Town" "planLengths" "[I" ∈ lw_tbl := tb_1 (List.mem_of_getElem? (i := 102) (by decide +kernel))
theorem we_282 : Cond.fieldLink "AngelTown$Town" 31 "AngelTown$Town" "otherRows" "[I" ∈ lw_tbl := tb_1 (List.mem_of_getElem? (i := 108) (by decide +kernel))
theorem we_290 : Cond.fieldLink "AngelTown$Town" 34 "AngelTown$Town" "mishapRows" "[I" ∈ lw_tbl := tb_1 (List.mem_of_getElem? (i := 116) (by decide +kernel))
theorem we_295 : Cond.fieldLink "AngelTown$Town" 40 "AngelTown$Town" "law" "LAngelTown$Law;" ∈ lw_tbl := tb_1 (List.mem_of_getElem? (i := 121) (by decide +kernel))
theorem we_332 : Cond.instantiable "AngelTown$Course" (14 : Nat) ∈ lw_tbl := tb_1 (List.mem_of_getElem? (i := 158) (by decide +kernel))
theorem we_334 : Cond.instanceMethod ⟨"AngelTown$Course", "<init>", "()V"⟩ ∈ lw_tbl := tb_1 (List.mem_of_getElem? (i := 160) (by decide +kernel))
theorem we_335 : Cond.code ⟨"AngelTown$Course", "<init>", "()V"⟩ prog_4_method_1_code 1 none ∈ lw_tbl := tb_1 (List.mem_of_getElem? (i := 161) rfl)
theorem we_336 : Cond.methodLink "AngelTown$Course" 3 ⟨"java/lang/Object", "<init>", "()V"⟩ ∈ lw_tbl := tb_1 (List.mem_of_getElem? (i := 162) (by decide +kernel))
theorem we_344 : Cond.fieldLink "AngelTown$Course" 9 "AngelTown$Course" "wardPlaces" "[I" ∈ lw_tbl := tb_1 (List.mem_of_getElem? (i := 170) (by decide +kernel))
theorem we_348 : Cond.fieldLink "AngelTown$Course" 15 "AngelTown$Course" "stills" "[I" ∈ lw_tbl := tb_1 (List.mem_of_getElem? (i := 174) (by decide +kernel))
theorem we_351 : Cond.fieldLink "AngelTown$Course" 18 "AngelTown$Course" "stepsTaken" "[I" ∈ lw_tbl := tb_1 (List.mem_of_getElem? (i := 177) (by decide +kernel))
theorem we_354 : Cond.fieldLink "AngelTown$Course" 21 "AngelTown$Course" "angelPlaces" "[I" ∈ lw_tbl := tb_1 (List.mem_of_getElem? (i := 180) (by decide +kernel))
theorem we_359 : Cond.fieldLink "AngelTown$Course" 24 "AngelTown$Course" "busy" "[I" ∈ lw_tbl := tb_1 (List.mem_of_getElem? (i := 185) (by decide +kernel))
theorem we_362 : Cond.fieldLink "AngelTown$Course" 27 "AngelTown$Course" "goals" "[I" ∈ lw_tbl := tb_1 (List.mem_of_getElem? (i := 188) (by decide +kernel))
theorem we_365 : Cond.fieldLink "AngelTown$Course" 30 "AngelTown$Course" "ordersTaken" "[I" ∈ lw_tbl := tb_1 (List.mem_of_getElem? (i := 191) (by decide +kernel))
theorem we_368 : Cond.fieldLink "AngelTown$Course" 33 "AngelTown$Course" "done" "[I" ∈ lw_tbl := tb_1 (List.mem_of_getElem? (i := 194) (by decide +kernel))
theorem we_371 : Cond.fieldLink "AngelTown$Course" 36 "AngelTown$Course" "over" "[I" ∈ lw_tbl := tb_1 (List.mem_of_getElem? (i := 197) (by decide +kernel))
theorem we_375 : Cond.fieldLink "AngelTown$Course" 39 "AngelTown$Course" "came" "[I" ∈ lw_tbl := tb_1 (List.mem_of_getElem? (i := 201) (by decide +kernel))
theorem we_378 : Cond.fieldLink "AngelTown$Course" 42 "AngelTown$Course" "avertedBy" "[I" ∈ lw_tbl := tb_1 (List.mem_of_getElem? (i := 204) (by decide +kernel))
theorem we_414 : Cond.instantiable "AngelTown$Book" (1 : Nat) ∈ lw_tbl := tb_2 (List.mem_of_getElem? (i := 0) (by decide +kernel))
theorem we_416 : Cond.instanceMethod ⟨"AngelTown$Book", "<init>", "()V"⟩ ∈ lw_tbl := tb_2 (List.mem_of_getElem? (i := 2) (by decide +kernel))
theorem we_417 : Cond.code ⟨"AngelTown$Book", "<init>", "()V"⟩ prog_2_method_1_code 1 none ∈ lw_tbl := tb_2 (List.mem_of_getElem? (i := 3) rfl)
theorem we_418 : Cond.methodLink "AngelTown$Book" 3 ⟨"java/lang/Object", "<init>", "()V"⟩ ∈ lw_tbl := tb_2 (List.mem_of_getElem? (i := 4) (by decide +kernel))
theorem we_419 : Cond.fieldLink "AngelTown$Book" 11 "AngelTown$Book" "rows" "[I" ∈ lw_tbl := tb_2 (List.mem_of_getElem? (i := 5) (by decide +kernel))
theorem we_427 : Cond.instanceMethod ⟨"AngelTown$Past", "<init>", "()V"⟩ ∈ lw_tbl := tb_2 (List.mem_of_getElem? (i := 13) (by decide +kernel))
theorem we_428 : Cond.code ⟨"AngelTown$Past", "<init>", "()V"⟩ prog_7_method_1_code 2 none ∈ lw_tbl := tb_2 (List.mem_of_getElem? (i := 14) rfl)
theorem we_429 : Cond.methodLink "AngelTown$Past" 3 ⟨"java/lang/Object", "<init>", "()V"⟩ ∈ lw_tbl := tb_2 (List.mem_of_getElem? (i := 15) (by decide +kernel))
theorem we_430 : Cond.classLink "AngelTown$Past" (9 : Nat) "AngelTown$Course" ∈ lw_tbl := tb_2 (List.mem_of_getElem? (i := 16) (by decide +kernel))
theorem we_432 : Cond.methodLinkNest "AngelTown$Past" 17 ⟨"AngelTown$Course", "<init>", "()V"⟩ "AngelTown" ∈ lw_tbl := tb_2 (List.mem_of_getElem? (i := 18) (by decide +kernel))
theorem we_433 : Cond.fieldLink "AngelTown$Past" 11 "AngelTown$Past" "kept" "[LAngelTown$Course;" ∈ lw_tbl := tb_2 (List.mem_of_getElem? (i := 19) (by decide +kernel))
theorem we_447 : Cond.instanceMethod ⟨"AngelTown$Picture", "<init>", "()V"⟩ ∈ lw_tbl := tb_2 (List.mem_of_getElem? (i := 33) (by decide +kernel))
theorem we_448 : Cond.code ⟨"AngelTown$Picture", "<init>", "()V"⟩ prog_8_method_1_code 1 none ∈ lw_tbl := tb_2 (List.mem_of_getElem? (i := 34) rfl)
theorem we_449 : Cond.methodLink "AngelTown$Picture" 1 ⟨"java/lang/Object", "<init>", "()V"⟩ ∈ lw_tbl := tb_2 (List.mem_of_getElem? (i := 35) (by decide +kernel))
theorem we_450 : Cond.classLink "AngelTown$Picture" (7 : Nat) "AngelTown$Town" ∈ lw_tbl := tb_2 (List.mem_of_getElem? (i := 36) (by decide +kernel))
theorem we_451 : Cond.methodLinkNest "AngelTown$Picture" 9 ⟨"AngelTown$Town", "<init>", "()V"⟩ "AngelTown" ∈ lw_tbl := tb_2 (List.mem_of_getElem? (i := 37) (by decide +kernel))
theorem we_452 : Cond.classLink "AngelTown$Picture" (16 : Nat) "AngelTown$Course" ∈ lw_tbl := tb_2 (List.mem_of_getElem? (i := 38) (by decide +kernel))
theorem we_453 : Cond.methodLinkNest "AngelTown$Picture" 18 ⟨"AngelTown$Course", "<init>", "()V"⟩ "AngelTown" ∈ lw_tbl := tb_2 (List.mem_of_getElem? (i := 39) (by decide +kernel))
theorem we_454 : Cond.classLink "AngelTown$Picture" (23 : Nat) "AngelTown$Book" ∈ lw_tbl := tb_2 (List.mem_of_getElem? (i := 40) (by decide +kernel))
theorem we_455 : Cond.methodLinkNest "AngelTown$Picture" 25 ⟨"AngelTown$Book", "<init>", "()V"⟩ "AngelTown" ∈ lw_tbl := tb_2 (List.mem_of_getElem? (i := 41) (by decide +kernel))
theorem we_456 : Cond.fieldLink "AngelTown$Picture" 10 "AngelTown$Picture" "town" "LAngelTown$Town;" ∈ lw_tbl := tb_2 (List.mem_of_getElem? (i := 42) (by decide +kernel))
theorem we_457 : Cond.fieldLink "AngelTown$Picture" 19 "AngelTown$Picture" "course" "LAngelTown$Course;" ∈ lw_tbl := tb_2 (List.mem_of_getElem? (i := 43) (by decide +kernel))
theorem we_458 : Cond.fieldLink "AngelTown$Picture" 26 "AngelTown$Picture" "lines" "LAngelTown$Book;" ∈ lw_tbl := tb_2 (List.mem_of_getElem? (i := 44) (by decide +kernel))
theorem we_473 : Cond.instanceMethod ⟨"AngelTown$Tape", "<init>", "()V"⟩ ∈ lw_tbl := tb_2 (List.mem_of_getElem? (i := 59) (by decide +kernel))
theorem we_474 : Cond.code ⟨"AngelTown$Tape", "<init>", "()V"⟩ prog_11_method_1_code 1 none ∈ lw_tbl := tb_2 (List.mem_of_getElem? (i := 60) rfl)
theorem we_475 : Cond.methodLink "AngelTown$Tape" 5 ⟨"java/lang/Object", "<init>", "()V"⟩ ∈ lw_tbl := tb_2 (List.mem_of_getElem? (i := 61) (by decide +kernel))
theorem we_476 : Cond.fieldLink "AngelTown$Tape" 11 "AngelTown$Tape" "bytes" "[B" ∈ lw_tbl := tb_2 (List.mem_of_getElem? (i := 62) (by decide +kernel))
theorem we_480 : Cond.fieldLink "AngelTown$Tape" 15 "AngelTown$Tape" "kinds" "[I" ∈ lw_tbl := tb_2 (List.mem_of_getElem? (i := 66) (by decide +kernel))
theorem we_482 : Cond.fieldLink "AngelTown$Tape" 19 "AngelTown$Tape" "numbers" "[I" ∈ lw_tbl := tb_2 (List.mem_of_getElem? (i := 68) (by decide +kernel))
theorem we_484 : Cond.fieldLink "AngelTown$Tape" 22 "AngelTown$Tape" "places" "[I" ∈ lw_tbl := tb_2 (List.mem_of_getElem? (i := 70) (by decide +kernel))
theorem we_504 : Cond.instanceMethod ⟨"AngelTown$Reader", "<init>", "(LAngelTown$Tape;LAngelTown$Town;)V"⟩ ∈ lw_tbl := tb_2 (List.mem_of_getElem? (i := 90) (by decide +kernel))
theorem we_505 : Cond.code ⟨"AngelTown$Reader", "<init>", "(LAngelTown$Tape;LAngelTown$Town;)V"⟩ prog_10_method_1_code 3 none ∈ lw_tbl := tb_2 (List.mem_of_getElem? (i := 91) rfl)
theorem we_506 : Cond.methodLink "AngelTown$Reader" 3 ⟨"java/lang/Object", "<init>", "()V"⟩ ∈ lw_tbl := tb_2 (List.mem_of_getElem? (i := 92) (by decide +kernel))
theorem we_507 : Cond.classLink "AngelTown$Reader" (15 : Nat) "AngelTown$Law" ∈ lw_tbl := tb_2 (List.mem_of_getElem? (i := 93) (by decide +kernel))
theorem we_508 : Cond.methodLinkNest "AngelTown$Reader" 17 ⟨"AngelTown$Law", "<init>", "()V"⟩ "AngelTown" ∈ lw_tbl := tb_2 (List.mem_of_getElem? (i := 94) (by decide +kernel))
theorem we_509 : Cond.fieldLink "AngelTown$Reader" 26 "AngelTown$Reader" "tape" "LAngelTown$Tape;" ∈ lw_tbl := tb_2 (List.mem_of_getElem? (i := 95) (by decide +kernel))
theorem we_510 : Cond.fieldLink "AngelTown$Reader" 30 "AngelTown$Reader" "town" "LAngelTown$Town;" ∈ lw_tbl := tb_2 (List.mem_of_getElem? (i := 96) (by decide +kernel))
theorem we_511 : Cond.fieldLink "AngelTown$Reader" 9 "AngelTown$Reader" "out" "[I" ∈ lw_tbl := tb_2 (List.mem_of_getElem? (i := 97) (by decide +kernel))
theorem we_517 : Cond.fieldLink "AngelTown$Reader" 18 "AngelTown$Reader" "law" "LAngelTown$Law;" ∈ lw_tbl := tb_2 (List.mem_of_getElem? (i := 103) (by decide +kernel))
theorem we_523 : Cond.fieldLink "AngelTown$Reader" 22 "AngelTown$Reader" "place" "I" ∈ lw_tbl := tb_2 (List.mem_of_getElem? (i := 109) (by decide +kernel))
theorem we_549 : Cond.instanceMethod ⟨"AngelTown$Play", "<init>", "(LAngelTown$Town;LAngelTown$Book;)V"⟩ ∈ lw_tbl := tb_2 (List.mem_of_getElem? (i := 135) (by decide +kernel))
theorem we_550 : Cond.code ⟨"AngelTown$Play", "<init>", "(LAngelTown$Town;LAngelTown$Book;)V"⟩ prog_9_method_1_code 3 none ∈ lw_tbl := tb_2 (List.mem_of_getElem? (i := 136) rfl)
theorem we_551 : Cond.methodLink "AngelTown$Play" 3 ⟨"java/lang/Object", "<init>", "()V"⟩ ∈ lw_tbl := tb_2 (List.mem_of_getElem? (i := 137) (by decide +kernel))
theorem we_552 : Cond.fieldLink "AngelTown$Play" 17 "AngelTown$Play" "town" "LAngelTown$Town;" ∈ lw_tbl := tb_2 (List.mem_of_getElem? (i := 138) (by decide +kernel))
theorem we_553 : Cond.fieldLink "AngelTown$Play" 21 "AngelTown$Play" "lines" "LAngelTown$Book;" ∈ lw_tbl := tb_2 (List.mem_of_getElem? (i := 139) (by decide +kernel))
theorem we_554 : Cond.fieldLink "AngelTown$Play" 11 "AngelTown$Play" "values" "[I" ∈ lw_tbl := tb_2 (List.mem_of_getElem? (i := 140) (by decide +kernel))
theorem we_565 : Cond.instanceMethod ⟨"AngelTown$Foresight", "<init>", "(LAngelTown$Town;LAngelTown$Course;LAngelTown$Play;)V"⟩ ∈ lw_tbl := tb_2 (List.mem_of_getElem? (i := 151) (by decide +kernel))
theorem we_566 : Cond.code ⟨"AngelTown$Foresight", "<init>", "(LAngelTown$Town;LAngelTown$Course;LAngelTown$Play;)V"⟩ prog_5_method_1_code 4 none ∈ lw_tbl := tb_2 (List.mem_of_getElem? (i := 152) rfl)
theorem we_567 : Cond.methodLink "AngelTown$Foresight" 3 ⟨"java/lang/Object", "<init>", "()V"⟩ ∈ lw_tbl := tb_2 (List.mem_of_getElem? (i := 153) (by decide +kernel))
theorem we_568 : Cond.classLink "AngelTown$Foresight" (9 : Nat) "AngelTown$Course" ∈ lw_tbl := tb_2 (List.mem_of_getElem? (i := 154) (by decide +kernel))
theorem we_569 : Cond.methodLinkNest "AngelTown$Foresight" 11 ⟨"AngelTown$Course", "<init>", "()V"⟩ "AngelTown" ∈ lw_tbl := tb_2 (List.mem_of_getElem? (i := 155) (by decide +kernel))
theorem we_570 : Cond.fieldLink "AngelTown$Foresight" 28 "AngelTown$Foresight" "town" "LAngelTown$Town;" ∈ lw_tbl := tb_2 (List.mem_of_getElem? (i := 156) (by decide +kernel))
theorem we_571 : Cond.fieldLink "AngelTown$Foresight" 32 "AngelTown$Foresight" "now" "LAngelTown$Course;" ∈ lw_tbl := tb_2 (List.mem_of_getElem? (i := 157) (by decide +kernel))
theorem we_572 : Cond.fieldLink "AngelTown$Foresight" 35 "AngelTown$Foresight" "play" "LAngelTown$Play;" ∈ lw_tbl := tb_2 (List.mem_of_getElem? (i := 158) (by decide +kernel))
theorem we_573 : Cond.fieldLink "AngelTown$Foresight" 12 "AngelTown$Foresight" "idea" "LAngelTown$Course;" ∈ lw_tbl := tb_2 (List.mem_of_getElem? (i := 159) (by decide +kernel))
theorem we_574 : Cond.fieldLink "AngelTown$Foresight" 18 "AngelTown$Foresight" "foreseen" "[I" ∈ lw_tbl := tb_2 (List.mem_of_getElem? (i := 160) (by decide +kernel))
theorem we_575 : Cond.fieldLink "AngelTown$Foresight" 22 "AngelTown$Foresight" "firstTrail" "[I" ∈ lw_tbl := tb_2 (List.mem_of_getElem? (i := 161) (by decide +kernel))
theorem we_576 : Cond.fieldLink "AngelTown$Foresight" 25 "AngelTown$Foresight" "secondTrail" "[I" ∈ lw_tbl := tb_2 (List.mem_of_getElem? (i := 162) (by decide +kernel))
theorem we_615 : Cond.instanceMethod ⟨"AngelTown$Care", "<init>", "(LAngelTown$Town;LAngelTown$Course;LAngelTown$Foresight;)V"⟩ ∈ lw_tbl := tb_2 (List.mem_of_getElem? (i := 201) (by decide +kernel))
theorem we_616 : Cond.code ⟨"AngelTown$Care", "<init>", "(LAngelTown$Town;LAngelTown$Course;LAngelTown$Foresight;)V"⟩ prog_3_method_1_code 4 none ∈ lw_tbl := tb_2 (List.mem_of_getElem? (i := 202) rfl)
theorem we_617 : Cond.methodLink "AngelTown$Care" 5 ⟨"java/lang/Object", "<init>", "()V"⟩ ∈ lw_tbl := tb_2 (List.mem_of_getElem? (i := 203) (by decide +kernel))
theorem we_618 : Cond.fieldLink "AngelTown$Care" 51 "AngelTown$Care" "town" "LAngelTown$Town;" ∈ lw_tbl := tb_2 (List.mem_of_getElem? (i := 204) (by decide +kernel))
theorem we_619 : Cond.fieldLink "AngelTown$Care" 55 "AngelTown$Care" "now" "LAngelTown$Course;" ∈ lw_tbl := tb_2 (List.mem_of_getElem? (i := 205) (by decide +kernel))
theorem we_620 : Cond.fieldLink "AngelTown$Care" 59 "AngelTown$Care" "foresight" "LAngelTown$Foresight;" ∈ lw_tbl := tb_2 (List.mem_of_getElem? (i := 206) (by decide +kernel))
theorem we_622 : Cond.fieldLink "AngelTown$Care" 11 "AngelTown$Care" "picked" "[I" ∈ lw_tbl := tb_2 (List.mem_of_getElem? (i := 208) (by decide +kernel))
theorem we_623 : Cond.fieldLink "AngelTown$Care" 15 "AngelTown$Care" "comes" "[I" ∈ lw_tbl := tb_2 (List.mem_of_getElem? (i := 209) (by decide +kernel))
theorem we_624 : Cond.fieldLink "AngelTown$Care" 18 "AngelTown$Care" "far" "[I" ∈ lw_tbl := tb_2 (List.mem_of_getElem? (i := 210) (by decide +kernel))
theorem we_625 : Cond.fieldLink "AngelTown$Care" 21 "AngelTown$Care" "risks" "[I" ∈ lw_tbl := tb_2 (List.mem_of_getElem? (i := 211) (by decide +kernel))
theorem we_626 : Cond.fieldLink "AngelTown$Care" 24 "AngelTown$Care" "alone" "[I" ∈ lw_tbl := tb_2 (List.mem_of_getElem? (i := 212) (by decide +kernel))
theorem we_627 : Cond.fieldLink "AngelTown$Care" 27 "AngelTown$Care" "able" "[I" ∈ lw_tbl := tb_2 (List.mem_of_getElem? (i := 213) (by decide +kernel))
theorem we_628 : Cond.fieldLink "AngelTown$Care" 30 "AngelTown$Care" "covered" "[I" ∈ lw_tbl := tb_2 (List.mem_of_getElem? (i := 214) (by decide +kernel))
theorem we_629 : Cond.fieldLink "AngelTown$Care" 33 "AngelTown$Care" "widest" "[I" ∈ lw_tbl := tb_2 (List.mem_of_getElem? (i := 215) (by decide +kernel))
theorem we_630 : Cond.fieldLink "AngelTown$Care" 36 "AngelTown$Care" "widestCounts" "[I" ∈ lw_tbl := tb_2 (List.mem_of_getElem? (i := 216) (by decide +kernel))
theorem we_631 : Cond.fieldLink "AngelTown$Care" 39 "AngelTown$Care" "known" "[I" ∈ lw_tbl := tb_2 (List.mem_of_getElem? (i := 217) (by decide +kernel))
theorem we_632 : Cond.fieldLink "AngelTown$Care" 42 "AngelTown$Care" "free" "[I" ∈ lw_tbl := tb_2 (List.mem_of_getElem? (i := 218) (by decide +kernel))
theorem we_633 : Cond.fieldLink "AngelTown$Care" 45 "AngelTown$Care" "chosen" "[I" ∈ lw_tbl := tb_2 (List.mem_of_getElem? (i := 219) (by decide +kernel))
theorem we_634 : Cond.fieldLink "AngelTown$Care" 48 "AngelTown$Care" "tried" "[I" ∈ lw_tbl := tb_2 (List.mem_of_getElem? (i := 220) (by decide +kernel))
theorem we_objcode : Cond.code Lib.objectInit ⟨#[0xb1]⟩ 1 none ∈ lw_tbl := tb_1 (List.mem_of_getElem? (i := 30) (by decide +kernel))
theorem dX4_init_0 : decode cX4_init 0 = .ok (.aload_n 0, 1) := by decide +kernel
theorem dX4_init_1 : decode cX4_init 1 = .ok (.invokespecial 3, 3) := by decide +kernel
theorem dX4_init_4 : decode cX4_init 4 = .ok (.aload_n 0, 1) := by decide +kernel
theorem dX4_init_5 : decode cX4_init 5 = .ok (.sipush 800, 3) := by decide +kernel
theorem dX4_init_8 : decode cX4_init 8 = .ok (.newarray .int, 2) := by decide +kernel
theorem dX4_init_10 : decode cX4_init 10 = .ok (.putfield 11, 3) := by decide +kernel
theorem dX4_init_13 : decode cX4_init 13 = .ok (.aload_n 0, 1) := by decide +kernel
theorem dX4_init_14 : decode cX4_init 14 = .ok (.bipush 17, 2) := by decide +kernel
theorem dX4_init_16 : decode cX4_init 16 = .ok (.newarray .int, 2) := by decide +kernel
theorem dX4_init_18 : decode cX4_init 18 = .ok (.putfield 15, 3) := by decide +kernel
theorem dX4_init_21 : decode cX4_init 21 = .ok (.aload_n 0, 1) := by decide +kernel
theorem dX4_init_22 : decode cX4_init 22 = .ok (.bipush 16, 2) := by decide +kernel
theorem dX4_init_24 : decode cX4_init 24 = .ok (.newarray .int, 2) := by decide +kernel
theorem dX4_init_26 : decode cX4_init 26 = .ok (.putfield 18, 3) := by decide +kernel
theorem dX4_init_29 : decode cX4_init 29 = .ok (.aload_n 0, 1) := by decide +kernel
theorem dX4_init_30 : decode cX4_init 30 = .ok (.bipush 32, 2) := by decide +kernel
theorem dX4_init_32 : decode cX4_init 32 = .ok (.newarray .int, 2) := by decide +kernel
theorem dX4_init_34 : decode cX4_init 34 = .ok (.putfield 21, 3) := by decide +kernel
theorem dX4_init_37 : decode cX4_init 37 = .ok (.return_, 1) := by decide +kernel
theorem dX2_init_0 : decode cX2_init 0 = .ok (.aload_n 0, 1) := by decide +kernel
theorem dX2_init_1 : decode cX2_init 1 = .ok (.invokespecial 3, 3) := by decide +kernel
theorem dX2_init_4 : decode cX2_init 4 = .ok (.aload_n 0, 1) := by decide +kernel
theorem dX2_init_5 : decode cX2_init 5 = .ok (.bipush 8, 2) := by decide +kernel
theorem dX2_init_7 : decode cX2_init 7 = .ok (.newarray .int, 2) := by decide +kernel
theorem dX2_init_9 : decode cX2_init 9 = .ok (.putfield 9, 3) := by decide +kernel
theorem dX2_init_12 : decode cX2_init 12 = .ok (.aload_n 0, 1) := by decide +kernel
theorem dX2_init_13 : decode cX2_init 13 = .ok (.bipush 8, 2) := by decide +kernel
theorem dX2_init_15 : decode cX2_init 15 = .ok (.newarray .int, 2) := by decide +kernel
theorem dX2_init_17 : decode cX2_init 17 = .ok (.putfield 15, 3) := by decide +kernel
theorem dX2_init_20 : decode cX2_init 20 = .ok (.aload_n 0, 1) := by decide +kernel
theorem dX2_init_21 : decode cX2_init 21 = .ok (.bipush 8, 2) := by decide +kernel
theorem dX2_init_23 : decode cX2_init 23 = .ok (.newarray .int, 2) := by decide +kernel
theorem dX2_init_25 : decode cX2_init 25 = .ok (.putfield 18, 3) := by decide +kernel
theorem dX2_init_28 : decode cX2_init 28 = .ok (.aload_n 0, 1) := by decide +kernel
theorem dX2_init_29 : decode cX2_init 29 = .ok (.bipush 6, 2) := by decide +kernel
theorem dX2_init_31 : decode cX2_init 31 = .ok (.newarray .int, 2) := by decide +kernel
theorem dX2_init_33 : decode cX2_init 33 = .ok (.putfield 21, 3) := by decide +kernel
theorem dX2_init_36 : decode cX2_init 36 = .ok (.aload_n 0, 1) := by decide +kernel
theorem dX2_init_37 : decode cX2_init 37 = .ok (.bipush 6, 2) := by decide +kernel
theorem dX2_init_39 : decode cX2_init 39 = .ok (.newarray .int, 2) := by decide +kernel
theorem dX2_init_41 : decode cX2_init 41 = .ok (.putfield 24, 3) := by decide +kernel
theorem dX2_init_44 : decode cX2_init 44 = .ok (.aload_n 0, 1) := by decide +kernel
theorem dX2_init_45 : decode cX2_init 45 = .ok (.bipush 6, 2) := by decide +kernel
theorem dX2_init_47 : decode cX2_init 47 = .ok (.newarray .int, 2) := by decide +kernel
theorem dX2_init_49 : decode cX2_init 49 = .ok (.putfield 27, 3) := by decide +kernel
theorem dX2_init_52 : decode cX2_init 52 = .ok (.aload_n 0, 1) := by decide +kernel
theorem dX2_init_53 : decode cX2_init 53 = .ok (.bipush 6, 2) := by decide +kernel
theorem dX2_init_55 : decode cX2_init 55 = .ok (.newarray .int, 2) := by decide +kernel
theorem dX2_init_57 : decode cX2_init 57 = .ok (.putfield 30, 3) := by decide +kernel
theorem dX2_init_60 : decode cX2_init 60 = .ok (.aload_n 0, 1) := by decide +kernel
theorem dX2_init_61 : decode cX2_init 61 = .ok (.bipush 6, 2) := by decide +kernel
theorem dX2_init_63 : decode cX2_init 63 = .ok (.newarray .int, 2) := by decide +kernel
theorem dX2_init_65 : decode cX2_init 65 = .ok (.putfield 33, 3) := by decide +kernel
theorem dX2_init_68 : decode cX2_init 68 = .ok (.aload_n 0, 1) := by decide +kernel
theorem dX2_init_69 : decode cX2_init 69 = .ok (.bipush 10, 2) := by decide +kernel
theorem dX2_init_71 : decode cX2_init 71 = .ok (.newarray .int, 2) := by decide +kernel
theorem dX2_init_73 : decode cX2_init 73 = .ok (.putfield 36, 3) := by decide +kernel
theorem dX2_init_76 : decode cX2_init 76 = .ok (.aload_n 0, 1) := by decide +kernel
theorem dX2_init_77 : decode cX2_init 77 = .ok (.bipush 10, 2) := by decide +kernel
theorem dX2_init_79 : decode cX2_init 79 = .ok (.newarray .int, 2) := by decide +kernel
theorem dX2_init_81 : decode cX2_init 81 = .ok (.putfield 39, 3) := by decide +kernel
theorem dX2_init_84 : decode cX2_init 84 = .ok (.aload_n 0, 1) := by decide +kernel
theorem dX2_init_85 : decode cX2_init 85 = .ok (.bipush 10, 2) := by decide +kernel
theorem dX2_init_87 : decode cX2_init 87 = .ok (.newarray .int, 2) := by decide +kernel
theorem dX2_init_89 : decode cX2_init 89 = .ok (.putfield 42, 3) := by decide +kernel
theorem dX2_init_92 : decode cX2_init 92 = .ok (.return_, 1) := by decide +kernel
theorem dX0_init_0 : decode cX0_init 0 = .ok (.aload_n 0, 1) := by decide +kernel
theorem dX0_init_1 : decode cX0_init 1 = .ok (.invokespecial 3, 3) := by decide +kernel
theorem dX0_init_4 : decode cX0_init 4 = .ok (.aload_n 0, 1) := by decide +kernel
theorem dX0_init_5 : decode cX0_init 5 = .ok (.sipush 500, 3) := by decide +kernel
theorem dX0_init_8 : decode cX0_init 8 = .ok (.newarray .int, 2) := by decide +kernel
theorem dX0_init_10 : decode cX0_init 10 = .ok (.putfield 11, 3) := by decide +kernel
theorem dX0_init_13 : decode cX0_init 13 = .ok (.return_, 1) := by decide +kernel
theorem dX10_init_0 : decode cX10_init 0 = .ok (.aload_n 0, 1) := by decide +kernel
theorem dX10_init_1 : decode cX10_init 1 = .ok (.invokespecial 3, 3) := by decide +kernel
theorem dX10_init_4 : decode cX10_init 4 = .ok (.aload_n 0, 1) := by decide +kernel
theorem dX10_init_5 : decode cX10_init 5 = .ok (.iconst 5, 1) := by decide +kernel
theorem dX10_init_6 : decode cX10_init 6 = .ok (.newarray .int, 2) := by decide +kernel
theorem dX10_init_8 : decode cX10_init 8 = .ok (.putfield 9, 3) := by decide +kernel
theorem dX10_init_11 : decode cX10_init 11 = .ok (.aload_n 0, 1) := by decide +kernel
theorem dX10_init_12 : decode cX10_init 12 = .ok (.sipush 4800, 3) := by decide +kernel
theorem dX10_init_15 : decode cX10_init 15 = .ok (.newarray .byte, 2) := by decide +kernel
theorem dX10_init_17 : decode cX10_init 17 = .ok (.putfield 15, 3) := by decide +kernel
theorem dX10_init_20 : decode cX10_init 20 = .ok (.aload_n 0, 1) := by decide +kernel
theorem dX10_init_21 : decode cX10_init 21 = .ok (.bipush 8, 2) := by decide +kernel
theorem dX10_init_23 : decode cX10_init 23 = .ok (.newarray .int, 2) := by decide +kernel
theorem dX10_init_25 : decode cX10_init 25 = .ok (.putfield 19, 3) := by decide +kernel
theorem dX10_init_28 : decode cX10_init 28 = .ok (.aload_n 0, 1) := by decide +kernel
theorem dX10_init_29 : decode cX10_init 29 = .ok (.bipush 6, 2) := by decide +kernel
theorem dX10_init_31 : decode cX10_init 31 = .ok (.newarray .int, 2) := by decide +kernel
theorem dX10_init_33 : decode cX10_init 33 = .ok (.putfield 22, 3) := by decide +kernel
theorem dX10_init_36 : decode cX10_init 36 = .ok (.aload_n 0, 1) := by decide +kernel
theorem dX10_init_37 : decode cX10_init 37 = .ok (.sipush 480, 3) := by decide +kernel
theorem dX10_init_40 : decode cX10_init 40 = .ok (.newarray .int, 2) := by decide +kernel
theorem dX10_init_42 : decode cX10_init 42 = .ok (.putfield 25, 3) := by decide +kernel
theorem dX10_init_45 : decode cX10_init 45 = .ok (.aload_n 0, 1) := by decide +kernel
theorem dX10_init_46 : decode cX10_init 46 = .ok (.bipush 6, 2) := by decide +kernel
theorem dX10_init_48 : decode cX10_init 48 = .ok (.newarray .int, 2) := by decide +kernel
theorem dX10_init_50 : decode cX10_init 50 = .ok (.putfield 28, 3) := by decide +kernel
theorem dX10_init_53 : decode cX10_init 53 = .ok (.aload_n 0, 1) := by decide +kernel
theorem dX10_init_54 : decode cX10_init 54 = .ok (.bipush 18, 2) := by decide +kernel
theorem dX10_init_56 : decode cX10_init 56 = .ok (.newarray .int, 2) := by decide +kernel
theorem dX10_init_58 : decode cX10_init 58 = .ok (.putfield 31, 3) := by decide +kernel
theorem dX10_init_61 : decode cX10_init 61 = .ok (.aload_n 0, 1) := by decide +kernel
theorem dX10_init_62 : decode cX10_init 62 = .ok (.bipush 70, 2) := by decide +kernel
theorem dX10_init_64 : decode cX10_init 64 = .ok (.newarray .int, 2) := by decide +kernel
theorem dX10_init_66 : decode cX10_init 66 = .ok (.putfield 34, 3) := by decide +kernel
theorem dX10_init_69 : decode cX10_init 69 = .ok (.aload_n 0, 1) := by decide +kernel
theorem dX10_init_70 : decode cX10_init 70 = .ok (.new 37, 3) := by decide +kernel
theorem dX10_init_73 : decode cX10_init 73 = .ok (.dup, 1) := by decide +kernel
theorem dX10_init_74 : decode cX10_init 74 = .ok (.invokespecial 39, 3) := by decide +kernel
theorem dX10_init_77 : decode cX10_init 77 = .ok (.putfield 40, 3) := by decide +kernel
theorem dX10_init_80 : decode cX10_init 80 = .ok (.return_, 1) := by decide +kernel
theorem dX5_init_0 : decode cX5_init 0 = .ok (.aload_n 0, 1) := by decide +kernel
theorem dX5_init_1 : decode cX5_init 1 = .ok (.invokespecial 3, 3) := by decide +kernel
theorem dX5_init_4 : decode cX5_init 4 = .ok (.aload_n 0, 1) := by decide +kernel
theorem dX5_init_5 : decode cX5_init 5 = .ok (.bipush 6, 2) := by decide +kernel
theorem dX5_init_7 : decode cX5_init 7 = .ok (.anewarray 9, 3) := by decide +kernel
theorem dX5_init_10 : decode cX5_init 10 = .ok (.putfield 11, 3) := by decide +kernel
theorem dX5_init_13 : decode cX5_init 13 = .ok (.iconst 0, 1) := by decide +kernel
theorem dX5_init_14 : decode cX5_init 14 = .ok (.istore_n 1, 1) := by decide +kernel
theorem dX5_init_15 : decode cX5_init 15 = .ok (.iload_n 1, 1) := by decide +kernel
theorem dX5_init_16 : decode cX5_init 16 = .ok (.bipush 6, 2) := by decide +kernel
theorem dX5_init_18 : decode cX5_init 18 = .ok (.if_icmp .ge 22, 3) := by decide +kernel
theorem dX5_init_21 : decode cX5_init 21 = .ok (.aload_n 0, 1) := by decide +kernel
theorem dX5_init_22 : decode cX5_init 22 = .ok (.getfield 11, 3) := by decide +kernel
theorem dX5_init_25 : decode cX5_init 25 = .ok (.iload_n 1, 1) := by decide +kernel
theorem dX5_init_26 : decode cX5_init 26 = .ok (.new 9, 3) := by decide +kernel
theorem dX5_init_29 : decode cX5_init 29 = .ok (.dup, 1) := by decide +kernel
theorem dX5_init_30 : decode cX5_init 30 = .ok (.invokespecial 17, 3) := by decide +kernel
theorem dX5_init_33 : decode cX5_init 33 = .ok (.aastore, 1) := by decide +kernel
theorem dX5_init_34 : decode cX5_init 34 = .ok (.iinc 1 1, 3) := by decide +kernel
theorem dX5_init_37 : decode cX5_init 37 = .ok (.goto (-22), 3) := by decide +kernel
theorem dX5_init_40 : decode cX5_init 40 = .ok (.return_, 1) := by decide +kernel
theorem dX6_init_0 : decode cX6_init 0 = .ok (.aload_n 0, 1) := by decide +kernel
theorem dX6_init_1 : decode cX6_init 1 = .ok (.invokespecial 1, 3) := by decide +kernel
theorem dX6_init_4 : decode cX6_init 4 = .ok (.aload_n 0, 1) := by decide +kernel
theorem dX6_init_5 : decode cX6_init 5 = .ok (.new 7, 3) := by decide +kernel
theorem dX6_init_8 : decode cX6_init 8 = .ok (.dup, 1) := by decide +kernel
theorem dX6_init_9 : decode cX6_init 9 = .ok (.invokespecial 9, 3) := by decide +kernel
theorem dX6_init_12 : decode cX6_init 12 = .ok (.putfield 10, 3) := by decide +kernel
theorem dX6_init_15 : decode cX6_init 15 = .ok (.aload_n 0, 1) := by decide +kernel
theorem dX6_init_16 : decode cX6_init 16 = .ok (.new 16, 3) := by decide +kernel
theorem dX6_init_19 : decode cX6_init 19 = .ok (.dup, 1) := by decide +kernel
theorem dX6_init_20 : decode cX6_init 20 = .ok (.invokespecial 18, 3) := by decide +kernel
theorem dX6_init_23 : decode cX6_init 23 = .ok (.putfield 19, 3) := by decide +kernel
theorem dX6_init_26 : decode cX6_init 26 = .ok (.aload_n 0, 1) := by decide +kernel
theorem dX6_init_27 : decode cX6_init 27 = .ok (.new 23, 3) := by decide +kernel
theorem dX6_init_30 : decode cX6_init 30 = .ok (.dup, 1) := by decide +kernel
theorem dX6_init_31 : decode cX6_init 31 = .ok (.invokespecial 25, 3) := by decide +kernel
theorem dX6_init_34 : decode cX6_init 34 = .ok (.putfield 26, 3) := by decide +kernel
theorem dX6_init_37 : decode cX6_init 37 = .ok (.return_, 1) := by decide +kernel
theorem dX9_init_0 : decode cX9_init 0 = .ok (.aload_n 0, 1) := by decide +kernel
theorem dX9_init_1 : decode cX9_init 1 = .ok (.invokespecial 5, 3) := by decide +kernel
theorem dX9_init_4 : decode cX9_init 4 = .ok (.aload_n 0, 1) := by decide +kernel
theorem dX9_init_5 : decode cX9_init 5 = .ok (.sipush 400, 3) := by decide +kernel
theorem dX9_init_8 : decode cX9_init 8 = .ok (.newarray .byte, 2) := by decide +kernel
theorem dX9_init_10 : decode cX9_init 10 = .ok (.putfield 11, 3) := by decide +kernel
theorem dX9_init_13 : decode cX9_init 13 = .ok (.aload_n 0, 1) := by decide +kernel
theorem dX9_init_14 : decode cX9_init 14 = .ok (.sipush 400, 3) := by decide +kernel
theorem dX9_init_17 : decode cX9_init 17 = .ok (.newarray .int, 2) := by decide +kernel
theorem dX9_init_19 : decode cX9_init 19 = .ok (.putfield 15, 3) := by decide +kernel
theorem dX9_init_22 : decode cX9_init 22 = .ok (.aload_n 0, 1) := by decide +kernel
theorem dX9_init_23 : decode cX9_init 23 = .ok (.sipush 400, 3) := by decide +kernel
theorem dX9_init_26 : decode cX9_init 26 = .ok (.newarray .int, 2) := by decide +kernel
theorem dX9_init_28 : decode cX9_init 28 = .ok (.putfield 19, 3) := by decide +kernel
theorem dX9_init_31 : decode cX9_init 31 = .ok (.aload_n 0, 1) := by decide +kernel
theorem dX9_init_32 : decode cX9_init 32 = .ok (.sipush 400, 3) := by decide +kernel
theorem dX9_init_35 : decode cX9_init 35 = .ok (.newarray .int, 2) := by decide +kernel
theorem dX9_init_37 : decode cX9_init 37 = .ok (.putfield 22, 3) := by decide +kernel
theorem dX9_init_40 : decode cX9_init 40 = .ok (.return_, 1) := by decide +kernel
theorem dX8_init_0 : decode cX8_init 0 = .ok (.aload_n 0, 1) := by decide +kernel
theorem dX8_init_1 : decode cX8_init 1 = .ok (.invokespecial 3, 3) := by decide +kernel
theorem dX8_init_4 : decode cX8_init 4 = .ok (.aload_n 0, 1) := by decide +kernel
theorem dX8_init_5 : decode cX8_init 5 = .ok (.sipush 600, 3) := by decide +kernel
theorem dX8_init_8 : decode cX8_init 8 = .ok (.newarray .int, 2) := by decide +kernel
theorem dX8_init_10 : decode cX8_init 10 = .ok (.putfield 9, 3) := by decide +kernel
theorem dX8_init_13 : decode cX8_init 13 = .ok (.aload_n 0, 1) := by decide +kernel
theorem dX8_init_14 : decode cX8_init 14 = .ok (.new 15, 3) := by decide +kernel
theorem dX8_init_17 : decode cX8_init 17 = .ok (.dup, 1) := by decide +kernel
theorem dX8_init_18 : decode cX8_init 18 = .ok (.invokespecial 17, 3) := by decide +kernel
theorem dX8_init_21 : decode cX8_init 21 = .ok (.putfield 18, 3) := by decide +kernel
theorem dX8_init_24 : decode cX8_init 24 = .ok (.aload_n 0, 1) := by decide +kernel
theorem dX8_init_25 : decode cX8_init 25 = .ok (.iconst (-1), 1) := by decide +kernel
theorem dX8_init_26 : decode cX8_init 26 = .ok (.putfield 22, 3) := by decide +kernel
theorem dX8_init_29 : decode cX8_init 29 = .ok (.aload_n 0, 1) := by decide +kernel
theorem dX8_init_30 : decode cX8_init 30 = .ok (.aload_n 1, 1) := by decide +kernel
theorem dX8_init_31 : decode cX8_init 31 = .ok (.putfield 26, 3) := by decide +kernel
theorem dX8_init_34 : decode cX8_init 34 = .ok (.aload_n 0, 1) := by decide +kernel
theorem dX8_init_35 : decode cX8_init 35 = .ok (.aload_n 2, 1) := by decide +kernel
theorem dX8_init_36 : decode cX8_init 36 = .ok (.putfield 30, 3) := by decide +kernel
theorem dX8_init_39 : decode cX8_init 39 = .ok (.return_, 1) := by decide +kernel
theorem dX7_init_0 : decode cX7_init 0 = .ok (.aload_n 0, 1) := by decide +kernel
theorem dX7_init_1 : decode cX7_init 1 = .ok (.invokespecial 3, 3) := by decide +kernel
theorem dX7_init_4 : decode cX7_init 4 = .ok (.aload_n 0, 1) := by decide +kernel
theorem dX7_init_5 : decode cX7_init 5 = .ok (.bipush 9, 2) := by decide +kernel
theorem dX7_init_7 : decode cX7_init 7 = .ok (.newarray .int, 2) := by decide +kernel
theorem dX7_init_9 : decode cX7_init 9 = .ok (.putfield 11, 3) := by decide +kernel
theorem dX7_init_12 : decode cX7_init 12 = .ok (.aload_n 0, 1) := by decide +kernel
theorem dX7_init_13 : decode cX7_init 13 = .ok (.aload_n 1, 1) := by decide +kernel
theorem dX7_init_14 : decode cX7_init 14 = .ok (.putfield 17, 3) := by decide +kernel
theorem dX7_init_17 : decode cX7_init 17 = .ok (.aload_n 0, 1) := by decide +kernel
theorem dX7_init_18 : decode cX7_init 18 = .ok (.aload_n 2, 1) := by decide +kernel
theorem dX7_init_19 : decode cX7_init 19 = .ok (.putfield 21, 3) := by decide +kernel
theorem dX7_init_22 : decode cX7_init 22 = .ok (.return_, 1) := by decide +kernel
theorem dX3_init_0 : decode cX3_init 0 = .ok (.aload_n 0, 1) := by decide +kernel
theorem dX3_init_1 : decode cX3_init 1 = .ok (.invokespecial 3, 3) := by decide +kernel
theorem dX3_init_4 : decode cX3_init 4 = .ok (.aload_n 0, 1) := by decide +kernel
theorem dX3_init_5 : decode cX3_init 5 = .ok (.new 9, 3) := by decide +kernel
theorem dX3_init_8 : decode cX3_init 8 = .ok (.dup, 1) := by decide +kernel
theorem dX3_init_9 : decode cX3_init 9 = .ok (.invokespecial 11, 3) := by decide +kernel
theorem dX3_init_12 : decode cX3_init 12 = .ok (.putfield 12, 3) := by decide +kernel
theorem dX3_init_15 : decode cX3_init 15 = .ok (.aload_n 0, 1) := by decide +kernel
theorem dX3_init_16 : decode cX3_init 16 = .ok (.bipush 10, 2) := by decide +kernel
theorem dX3_init_18 : decode cX3_init 18 = .ok (.newarray .int, 2) := by decide +kernel
theorem dX3_init_20 : decode cX3_init 20 = .ok (.putfield 18, 3) := by decide +kernel
theorem dX3_init_23 : decode cX3_init 23 = .ok (.aload_n 0, 1) := by decide +kernel
theorem dX3_init_24 : decode cX3_init 24 = .ok (.sipush 600, 3) := by decide +kernel
theorem dX3_init_27 : decode cX3_init 27 = .ok (.newarray .int, 2) := by decide +kernel
theorem dX3_init_29 : decode cX3_init 29 = .ok (.putfield 22, 3) := by decide +kernel
theorem dX3_init_32 : decode cX3_init 32 = .ok (.aload_n 0, 1) := by decide +kernel
theorem dX3_init_33 : decode cX3_init 33 = .ok (.sipush 600, 3) := by decide +kernel
theorem dX3_init_36 : decode cX3_init 36 = .ok (.newarray .int, 2) := by decide +kernel
theorem dX3_init_38 : decode cX3_init 38 = .ok (.putfield 25, 3) := by decide +kernel
theorem dX3_init_41 : decode cX3_init 41 = .ok (.aload_n 0, 1) := by decide +kernel
theorem dX3_init_42 : decode cX3_init 42 = .ok (.aload_n 1, 1) := by decide +kernel
theorem dX3_init_43 : decode cX3_init 43 = .ok (.putfield 28, 3) := by decide +kernel
theorem dX3_init_46 : decode cX3_init 46 = .ok (.aload_n 0, 1) := by decide +kernel
theorem dX3_init_47 : decode cX3_init 47 = .ok (.aload_n 2, 1) := by decide +kernel
theorem dX3_init_48 : decode cX3_init 48 = .ok (.putfield 32, 3) := by decide +kernel
theorem dX3_init_51 : decode cX3_init 51 = .ok (.aload_n 0, 1) := by decide +kernel
theorem dX3_init_52 : decode cX3_init 52 = .ok (.aload_n 3, 1) := by decide +kernel
theorem dX3_init_53 : decode cX3_init 53 = .ok (.putfield 35, 3) := by decide +kernel
theorem dX3_init_56 : decode cX3_init 56 = .ok (.return_, 1) := by decide +kernel
theorem dX1_init_0 : decode cX1_init 0 = .ok (.aload_n 0, 1) := by decide +kernel
theorem dX1_init_1 : decode cX1_init 1 = .ok (.invokespecial 5, 3) := by decide +kernel
theorem dX1_init_4 : decode cX1_init 4 = .ok (.aload_n 0, 1) := by decide +kernel
theorem dX1_init_5 : decode cX1_init 5 = .ok (.bipush 10, 2) := by decide +kernel
theorem dX1_init_7 : decode cX1_init 7 = .ok (.newarray .int, 2) := by decide +kernel
theorem dX1_init_9 : decode cX1_init 9 = .ok (.putfield 11, 3) := by decide +kernel
theorem dX1_init_12 : decode cX1_init 12 = .ok (.aload_n 0, 1) := by decide +kernel
theorem dX1_init_13 : decode cX1_init 13 = .ok (.bipush 10, 2) := by decide +kernel
theorem dX1_init_15 : decode cX1_init 15 = .ok (.newarray .int, 2) := by decide +kernel
theorem dX1_init_17 : decode cX1_init 17 = .ok (.putfield 15, 3) := by decide +kernel
theorem dX1_init_20 : decode cX1_init 20 = .ok (.aload_n 0, 1) := by decide +kernel
theorem dX1_init_21 : decode cX1_init 21 = .ok (.bipush 100, 2) := by decide +kernel
theorem dX1_init_23 : decode cX1_init 23 = .ok (.newarray .int, 2) := by decide +kernel
theorem dX1_init_25 : decode cX1_init 25 = .ok (.putfield 18, 3) := by decide +kernel
theorem dX1_init_28 : decode cX1_init 28 = .ok (.aload_n 0, 1) := by decide +kernel
theorem dX1_init_29 : decode cX1_init 29 = .ok (.sipush 1024, 3) := by decide +kernel
theorem dX1_init_32 : decode cX1_init 32 = .ok (.newarray .int, 2) := by decide +kernel
theorem dX1_init_34 : decode cX1_init 34 = .ok (.putfield 21, 3) := by decide +kernel
theorem dX1_init_37 : decode cX1_init 37 = .ok (.aload_n 0, 1) := by decide +kernel
theorem dX1_init_38 : decode cX1_init 38 = .ok (.bipush 6, 2) := by decide +kernel
theorem dX1_init_40 : decode cX1_init 40 = .ok (.newarray .int, 2) := by decide +kernel
theorem dX1_init_42 : decode cX1_init 42 = .ok (.putfield 24, 3) := by decide +kernel
theorem dX1_init_45 : decode cX1_init 45 = .ok (.aload_n 0, 1) := by decide +kernel
theorem dX1_init_46 : decode cX1_init 46 = .ok (.sipush 192, 3) := by decide +kernel
theorem dX1_init_49 : decode cX1_init 49 = .ok (.newarray .int, 2) := by decide +kernel
theorem dX1_init_51 : decode cX1_init 51 = .ok (.putfield 27, 3) := by decide +kernel
theorem dX1_init_54 : decode cX1_init 54 = .ok (.aload_n 0, 1) := by decide +kernel
theorem dX1_init_55 : decode cX1_init 55 = .ok (.sipush 2048, 3) := by decide +kernel
theorem dX1_init_58 : decode cX1_init 58 = .ok (.newarray .int, 2) := by decide +kernel
theorem dX1_init_60 : decode cX1_init 60 = .ok (.putfield 30, 3) := by decide +kernel
theorem dX1_init_63 : decode cX1_init 63 = .ok (.aload_n 0, 1) := by decide +kernel
theorem dX1_init_64 : decode cX1_init 64 = .ok (.sipush 1512, 3) := by decide +kernel
theorem dX1_init_67 : decode cX1_init 67 = .ok (.newarray .int, 2) := by decide +kernel
theorem dX1_init_69 : decode cX1_init 69 = .ok (.putfield 33, 3) := by decide +kernel
theorem dX1_init_72 : decode cX1_init 72 = .ok (.aload_n 0, 1) := by decide +kernel
theorem dX1_init_73 : decode cX1_init 73 = .ok (.bipush 6, 2) := by decide +kernel
theorem dX1_init_75 : decode cX1_init 75 = .ok (.newarray .int, 2) := by decide +kernel
theorem dX1_init_77 : decode cX1_init 77 = .ok (.putfield 36, 3) := by decide +kernel
theorem dX1_init_80 : decode cX1_init 80 = .ok (.aload_n 0, 1) := by decide +kernel
theorem dX1_init_81 : decode cX1_init 81 = .ok (.bipush 64, 2) := by decide +kernel
theorem dX1_init_83 : decode cX1_init 83 = .ok (.newarray .int, 2) := by decide +kernel
theorem dX1_init_85 : decode cX1_init 85 = .ok (.putfield 39, 3) := by decide +kernel
theorem dX1_init_88 : decode cX1_init 88 = .ok (.aload_n 0, 1) := by decide +kernel
theorem dX1_init_89 : decode cX1_init 89 = .ok (.sipush 10240, 3) := by decide +kernel
theorem dX1_init_92 : decode cX1_init 92 = .ok (.newarray .int, 2) := by decide +kernel
theorem dX1_init_94 : decode cX1_init 94 = .ok (.putfield 42, 3) := by decide +kernel
theorem dX1_init_97 : decode cX1_init 97 = .ok (.aload_n 0, 1) := by decide +kernel
theorem dX1_init_98 : decode cX1_init 98 = .ok (.bipush 6, 2) := by decide +kernel
theorem dX1_init_100 : decode cX1_init 100 = .ok (.newarray .int, 2) := by decide +kernel
theorem dX1_init_102 : decode cX1_init 102 = .ok (.putfield 45, 3) := by decide +kernel
theorem dX1_init_105 : decode cX1_init 105 = .ok (.aload_n 0, 1) := by decide +kernel
theorem dX1_init_106 : decode cX1_init 106 = .ok (.bipush 6, 2) := by decide +kernel
theorem dX1_init_108 : decode cX1_init 108 = .ok (.newarray .int, 2) := by decide +kernel
theorem dX1_init_110 : decode cX1_init 110 = .ok (.putfield 48, 3) := by decide +kernel
theorem dX1_init_113 : decode cX1_init 113 = .ok (.aload_n 0, 1) := by decide +kernel
theorem dX1_init_114 : decode cX1_init 114 = .ok (.aload_n 1, 1) := by decide +kernel
theorem dX1_init_115 : decode cX1_init 115 = .ok (.putfield 51, 3) := by decide +kernel
theorem dX1_init_118 : decode cX1_init 118 = .ok (.aload_n 0, 1) := by decide +kernel
theorem dX1_init_119 : decode cX1_init 119 = .ok (.aload_n 2, 1) := by decide +kernel
theorem dX1_init_120 : decode cX1_init 120 = .ok (.putfield 55, 3) := by decide +kernel
theorem dX1_init_123 : decode cX1_init 123 = .ok (.aload_n 0, 1) := by decide +kernel
theorem dX1_init_124 : decode cX1_init 124 = .ok (.aload_n 3, 1) := by decide +kernel
theorem dX1_init_125 : decode cX1_init 125 = .ok (.putfield 59, 3) := by decide +kernel
theorem dX1_init_128 : decode cX1_init 128 = .ok (.return_, 1) := by decide +kernel
theorem cv_arr6 (a b c d e f : Nat) : va_up (va_up (va_up (va_up (va_up (va_up (fun _ => (none : Option Nat)) 0 (some a)) 1 (some b)) 2 (some c)) 3 (some d)) 4 (some e)) 5 (some f) = fun i => ([a, b, c, d, e, f] : List Nat)[i]? := by
  funext i
  match i with
  | 0 => rfl
  | 1 => rfl
  | 2 => rfl
  | 3 => rfl
  | 4 => rfl
  | 5 => rfl
  | n + 6 => simp [va_up]
abbrev fs0_X4 : List Value := [.null, .null, .null, .null, .int (Int32.ofInt 0), .int (Int32.ofInt 0)]
theorem df_X4 : ∀ j, j < 6 → defaultValue (tyX4 j) = vp_V fs0_X4 j := by
  intro j hj
  match j, hj with
  | 0, _ => rfl
  | 1, _ => rfl
  | 2, _ => rfl
  | 3, _ => rfl
  | 4, _ => rfl
  | 5, _ => rfl
  | n + 6, h => exact absurd h (by omega)
abbrev M_X4_init : ev_M := (RX4, cX4_init, 1, none, 0)
theorem cv_cm_X4 : cv_cm ⟨"AngelTown$Law", "<init>", "()V"⟩ M_X4_init 0 := ⟨⟨by decide +kernel, rfl, we_215, we_177, ⟨by decide +kernel, by decide +kernel, by decide +kernel⟩, Nat.le_of_ble_eq_true rfl⟩, rfl, we_214, rfl⟩
def cw_X4 (ct : Nat → ClassId) (h0 : Nat) (w : va_W) : Prop := ∃ q1 q2 q3 q4 : Nat, w = [(h0, .inr (4, [.ref q1, .ref q2, .ref q3, .ref q4, .int (Int32.ofInt 0), .int (Int32.ofInt 0)])), (q1, .inl (ct 0, 800, .inl (fun _ => Int32.ofInt 0))), (q2, .inl (ct 0, 17, .inl (fun _ => Int32.ofInt 0))), (q3, .inl (ct 0, 16, .inl (fun _ => Int32.ofInt 0))), (q4, .inl (ct 0, 32, .inl (fun _ => Int32.ofInt 0)))]
set_option maxRecDepth 20000 in
theorem ci_X4 {ct : Nat → ClassId} (h0 : Nat) : Cv ct M_X4_init (cv_rm 1 4 865) 0 (lv_args 0 [.ref h0]) [] [(h0, .inr (4, fs0_X4))] 0 0 4 865 (cw_X4 ct h0) := by
  show Cv ct M_X4_init (cv_rm 1 4 865) 0 [(0, .ref h0)] [] [(h0, .inr (4, fs0_X4))] 0 0 4 865 _
  refine Cv_aload 0 dX4_init_0 rfl rfl ?_
  refine Cv_obj we_216 we_203 we_objcode dX4_init_1 (Nat.le_of_ble_eq_true rfl) (Nat.le_of_ble_eq_true rfl) ?_
  refine Cv_aload 0 dX4_init_4 rfl rfl ?_
  refine Cv_sipush dX4_init_5 rfl ?_
  refine Cv_newi 800 (Nat.le_of_ble_eq_true rfl) (Nat.le_of_ble_eq_true rfl) (Nat.le_of_ble_eq_true rfl) dX4_init_8 rfl (fun n0 => ?_)
  refine Cv_put (k := 0) (fs' := [.ref n0, .null, .null, .null, .int (Int32.ofInt 0), .int (Int32.ofInt 0)]) cl_X4 (Nat.le_of_ble_eq_true rfl) rfl we_217 rfl rfl (Nat.le_of_ble_eq_true rfl) rfl dX4_init_10 ?_
  refine Cv_aload 0 dX4_init_13 rfl rfl ?_
  refine Cv_bipush dX4_init_14 rfl ?_
  refine Cv_newi 17 (Nat.le_of_ble_eq_true rfl) (Nat.le_of_ble_eq_true rfl) (Nat.le_of_ble_eq_true rfl) dX4_init_16 rfl (fun n1 => ?_)
  refine Cv_put (k := 1) (fs' := [.ref n0, .ref n1, .null, .null, .int (Int32.ofInt 0), .int (Int32.ofInt 0)]) cl_X4 (Nat.le_of_ble_eq_true rfl) rfl we_218 rfl rfl (Nat.le_of_ble_eq_true rfl) rfl dX4_init_18 ?_
  refine Cv_aload 0 dX4_init_21 rfl rfl ?_
  refine Cv_bipush dX4_init_22 rfl ?_
  refine Cv_newi 16 (Nat.le_of_ble_eq_true rfl) (Nat.le_of_ble_eq_true rfl) (Nat.le_of_ble_eq_true rfl) dX4_init_24 rfl (fun n2 => ?_)
  refine Cv_put (k := 2) (fs' := [.ref n0, .ref n1, .ref n2, .null, .int (Int32.ofInt 0), .int (Int32.ofInt 0)]) cl_X4 (Nat.le_of_ble_eq_true rfl) rfl we_219 rfl rfl (Nat.le_of_ble_eq_true rfl) rfl dX4_init_26 ?_
  refine Cv_aload 0 dX4_init_29 rfl rfl ?_
  refine Cv_bipush dX4_init_30 rfl ?_
  refine Cv_newi 32 (Nat.le_of_ble_eq_true rfl) (Nat.le_of_ble_eq_true rfl) (Nat.le_of_ble_eq_true rfl) dX4_init_32 rfl (fun n3 => ?_)
  refine Cv_put (k := 3) (fs' := [.ref n0, .ref n1, .ref n2, .ref n3, .int (Int32.ofInt 0), .int (Int32.ofInt 0)]) cl_X4 (Nat.le_of_ble_eq_true rfl) rfl we_220 rfl rfl (Nat.le_of_ble_eq_true rfl) rfl dX4_init_34 ?_
  exact Cv_ret rfl dX4_init_37 (Nat.le_of_ble_eq_true rfl) (Nat.le_of_ble_eq_true rfl) ⟨n0, n1, n2, n3, rfl⟩
abbrev fs0_X2 : List Value := [.int (Int32.ofInt 0), .int (Int32.ofInt 0), .null, .null, .null, .null, .null, .null, .null, .null, .null, .null, .null, .int (Int32.ofInt 0)]
theorem df_X2 : ∀ j, j < 14 → defaultValue (tyX2 j) = vp_V fs0_X2 j := by
  intro j hj
  match j, hj with
  | 0, _ => rfl
  | 1, _ => rfl
  | 2, _ => rfl
  | 3, _ => rfl
  | 4, _ => rfl
  | 5, _ => rfl
  | 6, _ => rfl
  | 7, _ => rfl
  | 8, _ => rfl
  | 9, _ => rfl
  | 10, _ => rfl
  | 11, _ => rfl
  | 12, _ => rfl
  | 13, _ => rfl
  | n + 14, h => exact absurd h (by omega)
abbrev M_X2_init : ev_M := (RX2, cX2_init, 1, none, 0)
theorem cv_cm_X2 : cv_cm ⟨"AngelTown$Course", "<init>", "()V"⟩ M_X2_init 0 := ⟨⟨by decide +kernel, rfl, we_335, we_178, ⟨by decide +kernel, by decide +kernel, by decide +kernel⟩, Nat.le_of_ble_eq_true rfl⟩, rfl, we_334, rfl⟩
def cw_X2 (ct : Nat → ClassId) (h0 : Nat) (w : va_W) : Prop := ∃ q1 q2 q3 q4 q5 q6 q7 q8 q9 q10 q11 : Nat, w = [(h0, .inr (2, [.int (Int32.ofInt 0), .int (Int32.ofInt 0), .ref q1, .ref q2, .ref q3, .ref q4, .ref q5, .ref q6, .ref q7, .ref q8, .ref q9, .ref q10, .ref q11, .int (Int32.ofInt 0)])), (q1, .inl (ct 0, 8, .inl (fun _ => Int32.ofInt 0))), (q2, .inl (ct 0, 8, .inl (fun _ => Int32.ofInt 0))), (q3, .inl (ct 0, 8, .inl (fun _ => Int32.ofInt 0))), (q4, .inl (ct 0, 6, .inl (fun _ => Int32.ofInt 0))), (q5, .inl (ct 0, 6, .inl (fun _ => Int32.ofInt 0))), (q6, .inl (ct 0, 6, .inl (fun _ => Int32.ofInt 0))), (q7, .inl (ct 0, 6, .inl (fun _ => Int32.ofInt 0))), (q8, .inl (ct 0, 6, .inl (fun _ => Int32.ofInt 0))), (q9, .inl (ct 0, 10, .inl (fun _ => Int32.ofInt 0))), (q10, .inl (ct 0, 10, .inl (fun _ => Int32.ofInt 0))), (q11, .inl (ct 0, 10, .inl (fun _ => Int32.ofInt 0)))]
set_option maxRecDepth 20000 in
theorem ci_X2 {ct : Nat → ClassId} (h0 : Nat) : Cv ct M_X2_init (cv_rm 1 11 84) 0 (lv_args 0 [.ref h0]) [] [(h0, .inr (2, fs0_X2))] 0 0 11 84 (cw_X2 ct h0) := by
  show Cv ct M_X2_init (cv_rm 1 11 84) 0 [(0, .ref h0)] [] [(h0, .inr (2, fs0_X2))] 0 0 11 84 _
  refine Cv_aload 0 dX2_init_0 rfl rfl ?_
  refine Cv_obj we_336 we_203 we_objcode dX2_init_1 (Nat.le_of_ble_eq_true rfl) (Nat.le_of_ble_eq_true rfl) ?_
  refine Cv_aload 0 dX2_init_4 rfl rfl ?_
  refine Cv_bipush dX2_init_5 rfl ?_
  refine Cv_newi 8 (Nat.le_of_ble_eq_true rfl) (Nat.le_of_ble_eq_true rfl) (Nat.le_of_ble_eq_true rfl) dX2_init_7 rfl (fun n0 => ?_)
  refine Cv_put (k := 2) (fs' := [.int (Int32.ofInt 0), .int (Int32.ofInt 0), .ref n0, .null, .null, .null, .null, .null, .null, .null, .null, .null, .null, .int (Int32.ofInt 0)]) cl_X2 (Nat.le_of_ble_eq_true rfl) rfl we_344 rfl rfl (Nat.le_of_ble_eq_true rfl) rfl dX2_init_9 ?_
  refine Cv_aload 0 dX2_init_12 rfl rfl ?_
  refine Cv_bipush dX2_init_13 rfl ?_
  refine Cv_newi 8 (Nat.le_of_ble_eq_true rfl) (Nat.le_of_ble_eq_true rfl) (Nat.le_of_ble_eq_true rfl) dX2_init_15 rfl (fun n1 => ?_)
  refine Cv_put (k := 3) (fs' := [.int (Int32.ofInt 0), .int (Int32.ofInt 0), .ref n0, .ref n1, .null, .null, .null, .null, .null, .null, .null, .null, .null, .int (Int32.ofInt 0)]) cl_X2 (Nat.le_of_ble_eq_true rfl) rfl we_348 rfl rfl (Nat.le_of_ble_eq_true rfl) rfl dX2_init_17 ?_
  refine Cv_aload 0 dX2_init_20 rfl rfl ?_
  refine Cv_bipush dX2_init_21 rfl ?_
  refine Cv_newi 8 (Nat.le_of_ble_eq_true rfl) (Nat.le_of_ble_eq_true rfl) (Nat.le_of_ble_eq_true rfl) dX2_init_23 rfl (fun n2 => ?_)
  refine Cv_put (k := 4) (fs' := [.int (Int32.ofInt 0), .int (Int32.ofInt 0), .ref n0, .ref n1, .ref n2, .null, .null, .null, .null, .null, .null, .null, .null, .int (Int32.ofInt 0)]) cl_X2 (Nat.le_of_ble_eq_true rfl) rfl we_351 rfl rfl (Nat.le_of_ble_eq_true rfl) rfl dX2_init_25 ?_
  refine Cv_aload 0 dX2_init_28 rfl rfl ?_
  refine Cv_bipush dX2_init_29 rfl ?_
  refine Cv_newi 6 (Nat.le_of_ble_eq_true rfl) (Nat.le_of_ble_eq_true rfl) (Nat.le_of_ble_eq_true rfl) dX2_init_31 rfl (fun n3 => ?_)
  refine Cv_put (k := 5) (fs' := [.int (Int32.ofInt 0), .int (Int32.ofInt 0), .ref n0, .ref n1, .ref n2, .ref n3, .null, .null, .null, .null, .null, .null, .null, .int (Int32.ofInt 0)]) cl_X2 (Nat.le_of_ble_eq_true rfl) rfl we_354 rfl rfl (Nat.le_of_ble_eq_true rfl) rfl dX2_init_33 ?_
  refine Cv_aload 0 dX2_init_36 rfl rfl ?_
  refine Cv_bipush dX2_init_37 rfl ?_
  refine Cv_newi 6 (Nat.le_of_ble_eq_true rfl) (Nat.le_of_ble_eq_true rfl) (Nat.le_of_ble_eq_true rfl) dX2_init_39 rfl (fun n4 => ?_)
  refine Cv_put (k := 6) (fs' := [.int (Int32.ofInt 0), .int (Int32.ofInt 0), .ref n0, .ref n1, .ref n2, .ref n3, .ref n4, .null, .null, .null, .null, .null, .null, .int (Int32.ofInt 0)]) cl_X2 (Nat.le_of_ble_eq_true rfl) rfl we_359 rfl rfl (Nat.le_of_ble_eq_true rfl) rfl dX2_init_41 ?_
  refine Cv_aload 0 dX2_init_44 rfl rfl ?_
  refine Cv_bipush dX2_init_45 rfl ?_
  refine Cv_newi 6 (Nat.le_of_ble_eq_true rfl) (Nat.le_of_ble_eq_true rfl) (Nat.le_of_ble_eq_true rfl) dX2_init_47 rfl (fun n5 => ?_)
  refine Cv_put (k := 7) (fs' := [.int (Int32.ofInt 0), .int (Int32.ofInt 0), .ref n0, .ref n1, .ref n2, .ref n3, .ref n4, .ref n5, .null, .null, .null, .null, .null, .int (Int32.ofInt 0)]) cl_X2 (Nat.le_of_ble_eq_true rfl) rfl we_362 rfl rfl (Nat.le_of_ble_eq_true rfl) rfl dX2_init_49 ?_
  refine Cv_aload 0 dX2_init_52 rfl rfl ?_
  refine Cv_bipush dX2_init_53 rfl ?_
  refine Cv_newi 6 (Nat.le_of_ble_eq_true rfl) (Nat.le_of_ble_eq_true rfl) (Nat.le_of_ble_eq_true rfl) dX2_init_55 rfl (fun n6 => ?_)
  refine Cv_put (k := 8) (fs' := [.int (Int32.ofInt 0), .int (Int32.ofInt 0), .ref n0, .ref n1, .ref n2, .ref n3, .ref n4, .ref n5, .ref n6, .null, .null, .null, .null, .int (Int32.ofInt 0)]) cl_X2 (Nat.le_of_ble_eq_true rfl) rfl we_365 rfl rfl (Nat.le_of_ble_eq_true rfl) rfl dX2_init_57 ?_
  refine Cv_aload 0 dX2_init_60 rfl rfl ?_
  refine Cv_bipush dX2_init_61 rfl ?_
  refine Cv_newi 6 (Nat.le_of_ble_eq_true rfl) (Nat.le_of_ble_eq_true rfl) (Nat.le_of_ble_eq_true rfl) dX2_init_63 rfl (fun n7 => ?_)
  refine Cv_put (k := 9) (fs' := [.int (Int32.ofInt 0), .int (Int32.ofInt 0), .ref n0, .ref n1, .ref n2, .ref n3, .ref n4, .ref n5, .ref n6, .ref n7, .null, .null, .null, .int (Int32.ofInt 0)]) cl_X2 (Nat.le_of_ble_eq_true rfl) rfl we_368 rfl rfl (Nat.le_of_ble_eq_true rfl) rfl dX2_init_65 ?_
  refine Cv_aload 0 dX2_init_68 rfl rfl ?_
  refine Cv_bipush dX2_init_69 rfl ?_
  refine Cv_newi 10 (Nat.le_of_ble_eq_true rfl) (Nat.le_of_ble_eq_true rfl) (Nat.le_of_ble_eq_true rfl) dX2_init_71 rfl (fun n8 => ?_)
  refine Cv_put (k := 10) (fs' := [.int (Int32.ofInt 0), .int (Int32.ofInt 0), .ref n0, .ref n1, .ref n2, .ref n3, .ref n4, .ref n5, .ref n6, .ref n7, .ref n8, .null, .null, .int (Int32.ofInt 0)]) cl_X2 (Nat.le_of_ble_eq_true rfl) rfl we_371 rfl rfl (Nat.le_of_ble_eq_true rfl) rfl dX2_init_73 ?_
  refine Cv_aload 0 dX2_init_76 rfl rfl ?_
  refine Cv_bipush dX2_init_77 rfl ?_
  refine Cv_newi 10 (Nat.le_of_ble_eq_true rfl) (Nat.le_of_ble_eq_true rfl) (Nat.le_of_ble_eq_true rfl) dX2_init_79 rfl (fun n9 => ?_)
  refine Cv_put (k := 11) (fs' := [.int (Int32.ofInt 0), .int (Int32.ofInt 0), .ref n0, .ref n1, .ref n2, .ref n3, .ref n4, .ref n5, .ref n6, .ref n7, .ref n8, .ref n9, .null, .int (Int32.ofInt 0)]) cl_X2 (Nat.le_of_ble_eq_true rfl) rfl we_375 rfl rfl (Nat.le_of_ble_eq_true rfl) rfl dX2_init_81 ?_
  refine Cv_aload 0 dX2_init_84 rfl rfl ?_
  refine Cv_bipush dX2_init_85 rfl ?_
  refine Cv_newi 10 (Nat.le_of_ble_eq_true rfl) (Nat.le_of_ble_eq_true rfl) (Nat.le_of_ble_eq_true rfl) dX2_init_87 rfl (fun n10 => ?_)
  refine Cv_put (k := 12) (fs' := [.int (Int32.ofInt 0), .int (Int32.ofInt 0), .ref n0, .ref n1, .ref n2, .ref n3, .ref n4, .ref n5, .ref n6, .ref n7, .ref n8, .ref n9, .ref n10, .int (Int32.ofInt 0)]) cl_X2 (Nat.le_of_ble_eq_true rfl) rfl we_378 rfl rfl (Nat.le_of_ble_eq_true rfl) rfl dX2_init_89 ?_
  exact Cv_ret rfl dX2_init_92 (Nat.le_of_ble_eq_true rfl) (Nat.le_of_ble_eq_true rfl) ⟨n0, n1, n2, n3, n4, n5, n6, n7, n8, n9, n10, rfl⟩
abbrev fs0_X0 : List Value := [.null]
theorem df_X0 : ∀ j, j < 1 → defaultValue (tyX0 j) = vp_V fs0_X0 j := by
  intro j hj
  match j, hj with
  | 0, _ => rfl
  | n + 1, h => exact absurd h (by omega)
abbrev M_X0_init : ev_M := (RX0, cX0_init, 1, none, 0)
theorem cv_cm_X0 : cv_cm ⟨"AngelTown$Book", "<init>", "()V"⟩ M_X0_init 0 := ⟨⟨by decide +kernel, rfl, we_417, we_179, ⟨by decide +kernel, by decide +kernel, by decide +kernel⟩, Nat.le_of_ble_eq_true rfl⟩, rfl, we_416, rfl⟩
def cw_X0 (ct : Nat → ClassId) (h0 : Nat) (w : va_W) : Prop := ∃ q1 : Nat, w = [(h0, .inr (0, [.ref q1])), (q1, .inl (ct 0, 500, .inl (fun _ => Int32.ofInt 0)))]
set_option maxRecDepth 20000 in
theorem ci_X0 {ct : Nat → ClassId} (h0 : Nat) : Cv ct M_X0_init (cv_rm 1 1 500) 0 (lv_args 0 [.ref h0]) [] [(h0, .inr (0, fs0_X0))] 0 0 1 500 (cw_X0 ct h0) := by
  show Cv ct M_X0_init (cv_rm 1 1 500) 0 [(0, .ref h0)] [] [(h0, .inr (0, fs0_X0))] 0 0 1 500 _
  refine Cv_aload 0 dX0_init_0 rfl rfl ?_
  refine Cv_obj we_418 we_203 we_objcode dX0_init_1 (Nat.le_of_ble_eq_true rfl) (Nat.le_of_ble_eq_true rfl) ?_
  refine Cv_aload 0 dX0_init_4 rfl rfl ?_
  refine Cv_sipush dX0_init_5 rfl ?_
  refine Cv_newi 500 (Nat.le_of_ble_eq_true rfl) (Nat.le_of_ble_eq_true rfl) (Nat.le_of_ble_eq_true rfl) dX0_init_8 rfl (fun n0 => ?_)
  refine Cv_put (k := 0) (fs' := [.ref n0]) cl_X0 (Nat.le_of_ble_eq_true rfl) rfl we_419 rfl rfl (Nat.le_of_ble_eq_true rfl) rfl dX0_init_10 ?_
  exact Cv_ret rfl dX0_init_13 (Nat.le_of_ble_eq_true rfl) (Nat.le_of_ble_eq_true rfl) ⟨n0, rfl⟩
abbrev fs0_X10 : List Value := [.int (Int32.ofInt 0), .int (Int32.ofInt 0), .int (Int32.ofInt 0), .null, .int (Int32.ofInt 0), .null, .null, .int (Int32.ofInt 0), .null, .null, .null, .int (Int32.ofInt 0), .null, .int (Int32.ofInt 0), .null, .null]
theorem df_X10 : ∀ j, j < 16 → defaultValue (tyX10 j) = vp_V fs0_X10 j := by
  intro j hj
  match j, hj with
  | 0, _ => rfl
  | 1, _ => rfl
  | 2, _ => rfl
  | 3, _ => rfl
  | 4, _ => rfl
  | 5, _ => rfl
  | 6, _ => rfl
  | 7, _ => rfl
  | 8, _ => rfl
  | 9, _ => rfl
  | 10, _ => rfl
  | 11, _ => rfl
  | 12, _ => rfl
  | 13, _ => rfl
  | 14, _ => rfl
  | 15, _ => rfl
  | n + 16, h => exact absurd h (by omega)
abbrev M_X10_init : ev_M := (RX10, cX10_init, 1, none, 0)
theorem cv_cm_X10 : cv_cm ⟨"AngelTown$Town", "<init>", "()V"⟩ M_X10_init 0 := ⟨⟨by decide +kernel, rfl, we_209, we_176, ⟨by decide +kernel, by decide +kernel, by decide +kernel⟩, Nat.le_of_ble_eq_true rfl⟩, rfl, we_208, rfl⟩
def cw_X10 (ct : Nat → ClassId) (h0 : Nat) (w : va_W) : Prop := ∃ q1 q2 q3 q4 q5 q6 q7 q8 q9 q10 q11 q12 q13 : Nat, w = [(h0, .inr (10, [.int (Int32.ofInt 0), .int (Int32.ofInt 0), .int (Int32.ofInt 0), .ref q1, .int (Int32.ofInt 0), .ref q2, .ref q3, .int (Int32.ofInt 0), .ref q4, .ref q5, .ref q6, .int (Int32.ofInt 0), .ref q7, .int (Int32.ofInt 0), .ref q8, .ref q9])), (q1, .inl (ct 0, 5, .inl (fun _ => Int32.ofInt 0))), (q2, .inl (ct 1, 4800, .inl (fun _ => Int32.ofInt 0))), (q3, .inl (ct 0, 8, .inl (fun _ => Int32.ofInt 0))), (q4, .inl (ct 0, 6, .inl (fun _ => Int32.ofInt 0))), (q5, .inl (ct 0, 480, .inl (fun _ => Int32.ofInt 0))), (q6, .inl (ct 0, 6, .inl (fun _ => Int32.ofInt 0))), (q7, .inl (ct 0, 18, .inl (fun _ => Int32.ofInt 0))), (q8, .inl (ct 0, 70, .inl (fun _ => Int32.ofInt 0))), (q9, .inr (4, [.ref q10, .ref q11, .ref q12, .ref q13, .int (Int32.ofInt 0), .int (Int32.ofInt 0)])), (q10, .inl (ct 0, 800, .inl (fun _ => Int32.ofInt 0))), (q11, .inl (ct 0, 17, .inl (fun _ => Int32.ofInt 0))), (q12, .inl (ct 0, 16, .inl (fun _ => Int32.ofInt 0))), (q13, .inl (ct 0, 32, .inl (fun _ => Int32.ofInt 0)))]
set_option maxRecDepth 20000 in
theorem ci_X10 {ct : Nat → ClassId} (h0 : Nat) : Cv ct M_X10_init (cv_rm 2 13 6264) 0 (lv_args 0 [.ref h0]) [] [(h0, .inr (10, fs0_X10))] 0 0 13 6264 (cw_X10 ct h0) := by
  show Cv ct M_X10_init (cv_rm 2 13 6264) 0 [(0, .ref h0)] [] [(h0, .inr (10, fs0_X10))] 0 0 13 6264 _
  refine Cv_aload 0 dX10_init_0 rfl rfl ?_
  refine Cv_obj we_210 we_203 we_objcode dX10_init_1 (Nat.le_of_ble_eq_true rfl) (Nat.le_of_ble_eq_true rfl) ?_
  refine Cv_aload 0 dX10_init_4 rfl rfl ?_
  refine Cv_iconst dX10_init_5 ?_
  refine Cv_newi 5 (Nat.le_of_ble_eq_true rfl) (Nat.le_of_ble_eq_true rfl) (Nat.le_of_ble_eq_true rfl) dX10_init_6 rfl (fun n0 => ?_)
  refine Cv_put (k := 3) (fs' := [.int (Int32.ofInt 0), .int (Int32.ofInt 0), .int (Int32.ofInt 0), .ref n0, .int (Int32.ofInt 0), .null, .null, .int (Int32.ofInt 0), .null, .null, .null, .int (Int32.ofInt 0), .null, .int (Int32.ofInt 0), .null, .null]) cl_X10 (Nat.le_of_ble_eq_true rfl) rfl we_250 rfl rfl (Nat.le_of_ble_eq_true rfl) rfl dX10_init_8 ?_
  refine Cv_aload 0 dX10_init_11 rfl rfl ?_
  refine Cv_sipush dX10_init_12 rfl ?_
  refine Cv_newb 4800 (Nat.le_of_ble_eq_true rfl) (Nat.le_of_ble_eq_true rfl) (Nat.le_of_ble_eq_true rfl) dX10_init_15 rfl (fun n1 => ?_)
  refine Cv_put (k := 5) (fs' := [.int (Int32.ofInt 0), .int (Int32.ofInt 0), .int (Int32.ofInt 0), .ref n0, .int (Int32.ofInt 0), .ref n1, .null, .int (Int32.ofInt 0), .null, .null, .null, .int (Int32.ofInt 0), .null, .int (Int32.ofInt 0), .null, .null]) cl_X10 (Nat.le_of_ble_eq_true rfl) rfl we_257 rfl rfl (Nat.le_of_ble_eq_true rfl) rfl dX10_init_17 ?_
  refine Cv_aload 0 dX10_init_20 rfl rfl ?_
  refine Cv_bipush dX10_init_21 rfl ?_
  refine Cv_newi 8 (Nat.le_of_ble_eq_true rfl) (Nat.le_of_ble_eq_true rfl) (Nat.le_of_ble_eq_true rfl) dX10_init_23 rfl (fun n2 => ?_)
  refine Cv_put (k := 6) (fs' := [.int (Int32.ofInt 0), .int (Int32.ofInt 0), .int (Int32.ofInt 0), .ref n0, .int (Int32.ofInt 0), .ref n1, .ref n2, .int (Int32.ofInt 0), .null, .null, .null, .int (Int32.ofInt 0), .null, .int (Int32.ofInt 0), .null, .null]) cl_X10 (Nat.le_of_ble_eq_true rfl) rfl we_260 rfl rfl (Nat.le_of_ble_eq_true rfl) rfl dX10_init_25 ?_
  refine Cv_aload 0 dX10_init_28 rfl rfl ?_
  refine Cv_bipush dX10_init_29 rfl ?_
  refine Cv_newi 6 (Nat.le_of_ble_eq_true rfl) (Nat.le_of_ble_eq_true rfl) (Nat.le_of_ble_eq_true rfl) dX10_init_31 rfl (fun n3 => ?_)
  refine Cv_put (k := 8) (fs' := [.int (Int32.ofInt 0), .int (Int32.ofInt 0), .int (Int32.ofInt 0), .ref n0, .int (Int32.ofInt 0), .ref n1, .ref n2, .int (Int32.ofInt 0), .ref n3, .null, .null, .int (Int32.ofInt 0), .null, .int (Int32.ofInt 0), .null, .null]) cl_X10 (Nat.le_of_ble_eq_true rfl) rfl we_268 rfl rfl (Nat.le_of_ble_eq_true rfl) rfl dX10_init_33 ?_
  refine Cv_aload 0 dX10_init_36 rfl rfl ?_
  refine Cv_sipush dX10_init_37 rfl ?_
  refine Cv_newi 480 (Nat.le_of_ble_eq_true rfl) (Nat.le_of_ble_eq_true rfl) (Nat.le_of_ble_eq_true rfl) dX10_init_40 rfl (fun n4 => ?_)
  refine Cv_put (k := 9) (fs' := [.int (Int32.ofInt 0), .int (Int32.ofInt 0), .int (Int32.ofInt 0), .ref n0, .int (Int32.ofInt 0), .ref n1, .ref n2, .int (Int32.ofInt 0), .ref n3, .ref n4, .null, .int (Int32.ofInt 0), .null, .int (Int32.ofInt 0), .null, .null]) cl_X10 (Nat.le_of_ble_eq_true rfl) rfl we_273 rfl rfl (Nat.le_of_ble_eq_true rfl) rfl dX10_init_42 ?_
  refine Cv_aload 0 dX10_init_45 rfl rfl ?_
  refine Cv_bipush dX10_init_46 rfl ?_
  refine Cv_newi 6 (Nat.le_of_ble_eq_true rfl) (Nat.le_of_ble_eq_true rfl) (Nat.le_of_ble_eq_true rfl) dX10_init_48 rfl (fun n5 => ?_)
  refine Cv_put (k := 10) (fs' := [.int (Int32.ofInt 0), .int (Int32.ofInt 0), .int (Int32.ofInt 0), .ref n0, .int (Int32.ofInt 0), .ref n1, .ref n2, .int (Int32.ofInt 0), .ref n3, .ref n4, .ref n5, .int (Int32.ofInt 0), .null, .int (Int32.ofInt 0), .null, .null]) cl_X10 (Nat.le_of_ble_eq_true rfl) rfl we_276 rfl rfl (Nat.le_of_ble_eq_true rfl) rfl dX10_init_50 ?_
  refine Cv_aload 0 dX10_init_53 rfl rfl ?_
  refine Cv_bipush dX10_init_54 rfl ?_
  refine Cv_newi 18 (Nat.le_of_ble_eq_true rfl) (Nat.le_of_ble_eq_true rfl) (Nat.le_of_ble_eq_true rfl) dX10_init_56 rfl (fun n6 => ?_)
  refine Cv_put (k := 12) (fs' := [.int (Int32.ofInt 0), .int (Int32.ofInt 0), .int (Int32.ofInt 0), .ref n0, .int (Int32.ofInt 0), .ref n1, .ref n2, .int (Int32.ofInt 0), .ref n3, .ref n4, .ref n5, .int (Int32.ofInt 0), .ref n6, .int (Int32.ofInt 0), .null, .null]) cl_X10 (Nat.le_of_ble_eq_true rfl) rfl we_282 rfl rfl (Nat.le_of_ble_eq_true rfl) rfl dX10_init_58 ?_
  refine Cv_aload 0 dX10_init_61 rfl rfl ?_
  refine Cv_bipush dX10_init_62 rfl ?_
  refine Cv_newi 70 (Nat.le_of_ble_eq_true rfl) (Nat.le_of_ble_eq_true rfl) (Nat.le_of_ble_eq_true rfl) dX10_init_64 rfl (fun n7 => ?_)
  refine Cv_put (k := 14) (fs' := [.int (Int32.ofInt 0), .int (Int32.ofInt 0), .int (Int32.ofInt 0), .ref n0, .int (Int32.ofInt 0), .ref n1, .ref n2, .int (Int32.ofInt 0), .ref n3, .ref n4, .ref n5, .int (Int32.ofInt 0), .ref n6, .int (Int32.ofInt 0), .ref n7, .null]) cl_X10 (Nat.le_of_ble_eq_true rfl) rfl we_290 rfl rfl (Nat.le_of_ble_eq_true rfl) rfl dX10_init_66 ?_
  refine Cv_aload 0 dX10_init_69 rfl rfl ?_
  refine Cv_new (fs := fs0_X4) cl_X4 we_211 we_212 we_177 df_X4 (Nat.le_of_ble_eq_true rfl) (Nat.le_of_ble_eq_true rfl) dX10_init_70 (fun n8 => ?_)
  refine Cv_dup dX10_init_73 rfl ?_
  refine Cv_call (d := 2) (d' := 1) (mc' := 4) (ms' := 865) (h0 := n8) (ci := 4) (As := []) (fs := fs0_X4) cv_cm_X4 (Or.inr ⟨_, we_213⟩) dX10_init_74 (Nat.le_of_ble_eq_true rfl) rfl rfl (Nat.le_of_ble_eq_true rfl) (Nat.le_of_ble_eq_true rfl) (Nat.le_of_ble_eq_true rfl) (Nat.le_of_ble_eq_true rfl) (ci_X4 n8) (fun w9 hw9 => ?_)
  obtain ⟨n8_1, n8_2, n8_3, n8_4, rfl⟩ := hw9
  refine Cv_put (k := 15) (fs' := [.int (Int32.ofInt 0), .int (Int32.ofInt 0), .int (Int32.ofInt 0), .ref n0, .int (Int32.ofInt 0), .ref n1, .ref n2, .int (Int32.ofInt 0), .ref n3, .ref n4, .ref n5, .int (Int32.ofInt 0), .ref n6, .int (Int32.ofInt 0), .ref n7, .ref n8]) cl_X10 (Nat.le_of_ble_eq_true rfl) rfl we_295 rfl rfl (Nat.le_of_ble_eq_true rfl) rfl dX10_init_77 ?_
  exact Cv_ret rfl dX10_init_80 (Nat.le_of_ble_eq_true rfl) (Nat.le_of_ble_eq_true rfl) ⟨n0, n1, n2, n3, n4, n5, n6, n7, n8, n8_1, n8_2, n8_3, n8_4, rfl⟩
abbrev fs0_X5 : List Value := [.null, .int (Int32.ofInt 0), .int (Int32.ofInt 0)]
theorem df_X5 : ∀ j, j < 3 → defaultValue (tyX5 j) = vp_V fs0_X5 j := by
  intro j hj
  match j, hj with
  | 0, _ => rfl
  | 1, _ => rfl
  | 2, _ => rfl
  | n + 3, h => exact absurd h (by omega)
abbrev M_X5_init : ev_M := (RX5, cX5_init, 2, none, 0)
theorem cv_cm_X5 : cv_cm ⟨"AngelTown$Past", "<init>", "()V"⟩ M_X5_init 0 := ⟨⟨by decide +kernel, rfl, we_428, we_180, ⟨by decide +kernel, by decide +kernel, by decide +kernel⟩, Nat.le_of_ble_eq_true rfl⟩, rfl, we_427, rfl⟩
def cw_X5 (ct : Nat → ClassId) (h0 : Nat) (w : va_W) : Prop := ∃ q1 q2 q3 q4 q5 q6 q7 q8 q9 q10 q11 q12 q13 q14 q15 q16 q17 q18 q19 q20 q21 q22 q23 q24 q25 q26 q27 q28 q29 q30 q31 q32 q33 q34 q35 q36 q37 q38 q39 q40 q41 q42 q43 q44 q45 q46 q47 q48 q49 q50 q51 q52 q53 q54 q55 q56 q57 q58 q59 q60 q61 q62 q63 q64 q65 q66 q67 q68 q69 q70 q71 q72 q73 : Nat, w = [(h0, .inr (5, [.ref q1, .int (Int32.ofInt 0), .int (Int32.ofInt 0)])), (q1, .inl (ct 3, 6, .inr (.inr (.inr (.inr (fun i => ([q2, q14, q26, q38, q50, q62] : List Nat)[i]?)))))), (q2, .inr (2, [.int (Int32.ofInt 0), .int (Int32.ofInt 0), .ref q3, .ref q4, .ref q5, .ref q6, .ref q7, .ref q8, .ref q9, .ref q10, .ref q11, .ref q12, .ref q13, .int (Int32.ofInt 0)])), (q3, .inl (ct 0, 8, .inl (fun _ => Int32.ofInt 0))), (q4, .inl (ct 0, 8, .inl (fun _ => Int32.ofInt 0))), (q5, .inl (ct 0, 8, .inl (fun _ => Int32.ofInt 0))), (q6, .inl (ct 0, 6, .inl (fun _ => Int32.ofInt 0))), (q7, .inl (ct 0, 6, .inl (fun _ => Int32.ofInt 0))), (q8, .inl (ct 0, 6, .inl (fun _ => Int32.ofInt 0))), (q9, .inl (ct 0, 6, .inl (fun _ => Int32.ofInt 0))), (q10, .inl (ct 0, 6, .inl (fun _ => Int32.ofInt 0))), (q11, .inl (ct 0, 10, .inl (fun _ => Int32.ofInt 0))), (q12, .inl (ct 0, 10, .inl (fun _ => Int32.ofInt 0))), (q13, .inl (ct 0, 10, .inl (fun _ => Int32.ofInt 0))), (q14, .inr (2, [.int (Int32.ofInt 0), .int (Int32.ofInt 0), .ref q15, .ref q16, .ref q17, .ref q18, .ref q19, .ref q20, .ref q21, .ref q22, .ref q23, .ref q24, .ref q25, .int (Int32.ofInt 0)])), (q15, .inl (ct 0, 8, .inl (fun _ => Int32.ofInt 0))), (q16, .inl (ct 0, 8, .inl (fun _ => Int32.ofInt 0))), (q17, .inl (ct 0, 8, .inl (fun _ => Int32.ofInt 0))), (q18, .inl (ct 0, 6, .inl (fun _ => Int32.ofInt 0))), (q19, .inl (ct 0, 6, .inl (fun _ => Int32.ofInt 0))), (q20, .inl (ct 0, 6, .inl (fun _ => Int32.ofInt 0))), (q21, .inl (ct 0, 6, .inl (fun _ => Int32.ofInt 0))), (q22, .inl (ct 0, 6, .inl (fun _ => Int32.ofInt 0))), (q23, .inl (ct 0, 10, .inl (fun _ => Int32.ofInt 0))), (q24, .inl (ct 0, 10, .inl (fun _ => Int32.ofInt 0))), (q25, .inl (ct 0, 10, .inl (fun _ => Int32.ofInt 0))), (q26, .inr (2, [.int (Int32.ofInt 0), .int (Int32.ofInt 0), .ref q27, .ref q28, .ref q29, .ref q30, .ref q31, .ref q32, .ref q33, .ref q34, .ref q35, .ref q36, .ref q37, .int (Int32.ofInt 0)])), (q27, .inl (ct 0, 8, .inl (fun _ => Int32.ofInt 0))), (q28, .inl (ct 0, 8, .inl (fun _ => Int32.ofInt 0))), (q29, .inl (ct 0, 8, .inl (fun _ => Int32.ofInt 0))), (q30, .inl (ct 0, 6, .inl (fun _ => Int32.ofInt 0))), (q31, .inl (ct 0, 6, .inl (fun _ => Int32.ofInt 0))), (q32, .inl (ct 0, 6, .inl (fun _ => Int32.ofInt 0))), (q33, .inl (ct 0, 6, .inl (fun _ => Int32.ofInt 0))), (q34, .inl (ct 0, 6, .inl (fun _ => Int32.ofInt 0))), (q35, .inl (ct 0, 10, .inl (fun _ => Int32.ofInt 0))), (q36, .inl (ct 0, 10, .inl (fun _ => Int32.ofInt 0))), (q37, .inl (ct 0, 10, .inl (fun _ => Int32.ofInt 0))), (q38, .inr (2, [.int (Int32.ofInt 0), .int (Int32.ofInt 0), .ref q39, .ref q40, .ref q41, .ref q42, .ref q43, .ref q44, .ref q45, .ref q46, .ref q47, .ref q48, .ref q49, .int (Int32.ofInt 0)])), (q39, .inl (ct 0, 8, .inl (fun _ => Int32.ofInt 0))), (q40, .inl (ct 0, 8, .inl (fun _ => Int32.ofInt 0))), (q41, .inl (ct 0, 8, .inl (fun _ => Int32.ofInt 0))), (q42, .inl (ct 0, 6, .inl (fun _ => Int32.ofInt 0))), (q43, .inl (ct 0, 6, .inl (fun _ => Int32.ofInt 0))), (q44, .inl (ct 0, 6, .inl (fun _ => Int32.ofInt 0))), (q45, .inl (ct 0, 6, .inl (fun _ => Int32.ofInt 0))), (q46, .inl (ct 0, 6, .inl (fun _ => Int32.ofInt 0))), (q47, .inl (ct 0, 10, .inl (fun _ => Int32.ofInt 0))), (q48, .inl (ct 0, 10, .inl (fun _ => Int32.ofInt 0))), (q49, .inl (ct 0, 10, .inl (fun _ => Int32.ofInt 0))), (q50, .inr (2, [.int (Int32.ofInt 0), .int (Int32.ofInt 0), .ref q51, .ref q52, .ref q53, .ref q54, .ref q55, .ref q56, .ref q57, .ref q58, .ref q59, .ref q60, .ref q61, .int (Int32.ofInt 0)])), (q51, .inl (ct 0, 8, .inl (fun _ => Int32.ofInt 0))), (q52, .inl (ct 0, 8, .inl (fun _ => Int32.ofInt 0))), (q53, .inl (ct 0, 8, .inl (fun _ => Int32.ofInt 0))), (q54, .inl (ct 0, 6, .inl (fun _ => Int32.ofInt 0))), (q55, .inl (ct 0, 6, .inl (fun _ => Int32.ofInt 0))), (q56, .inl (ct 0, 6, .inl (fun _ => Int32.ofInt 0))), (q57, .inl (ct 0, 6, .inl (fun _ => Int32.ofInt 0))), (q58, .inl (ct 0, 6, .inl (fun _ => Int32.ofInt 0))), (q59, .inl (ct 0, 10, .inl (fun _ => Int32.ofInt 0))), (q60, .inl (ct 0, 10, .inl (fun _ => Int32.ofInt 0))), (q61, .inl (ct 0, 10, .inl (fun _ => Int32.ofInt 0))), (q62, .inr (2, [.int (Int32.ofInt 0), .int (Int32.ofInt 0), .ref q63, .ref q64, .ref q65, .ref q66, .ref q67, .ref q68, .ref q69, .ref q70, .ref q71, .ref q72, .ref q73, .int (Int32.ofInt 0)])), (q63, .inl (ct 0, 8, .inl (fun _ => Int32.ofInt 0))), (q64, .inl (ct 0, 8, .inl (fun _ => Int32.ofInt 0))), (q65, .inl (ct 0, 8, .inl (fun _ => Int32.ofInt 0))), (q66, .inl (ct 0, 6, .inl (fun _ => Int32.ofInt 0))), (q67, .inl (ct 0, 6, .inl (fun _ => Int32.ofInt 0))), (q68, .inl (ct 0, 6, .inl (fun _ => Int32.ofInt 0))), (q69, .inl (ct 0, 6, .inl (fun _ => Int32.ofInt 0))), (q70, .inl (ct 0, 6, .inl (fun _ => Int32.ofInt 0))), (q71, .inl (ct 0, 10, .inl (fun _ => Int32.ofInt 0))), (q72, .inl (ct 0, 10, .inl (fun _ => Int32.ofInt 0))), (q73, .inl (ct 0, 10, .inl (fun _ => Int32.ofInt 0)))]
set_option maxRecDepth 20000 in
theorem ci_X5 {ct : Nat → ClassId} (h0 : Nat) : Cv ct M_X5_init (cv_rm 2 73 594) 0 (lv_args 0 [.ref h0]) [] [(h0, .inr (5, fs0_X5))] 0 0 73 594 (cw_X5 ct h0) := by
  show Cv ct M_X5_init (cv_rm 2 73 594) 0 [(0, .ref h0)] [] [(h0, .inr (5, fs0_X5))] 0 0 73 594 _
  refine Cv_aload 0 dX5_init_0 rfl rfl ?_
  refine Cv_obj we_429 we_203 we_objcode dX5_init_1 (Nat.le_of_ble_eq_true rfl) (Nat.le_of_ble_eq_true rfl) ?_
  refine Cv_aload 0 dX5_init_4 rfl rfl ?_
  refine Cv_bipush dX5_init_5 rfl ?_
  refine Cv_anew 6 (Nat.le_of_ble_eq_true rfl) we_430 (Nat.le_of_ble_eq_true rfl) (Nat.le_of_ble_eq_true rfl) dX5_init_7 rfl (fun n0 => ?_)
  refine Cv_put (k := 0) (fs' := [.ref n0, .int (Int32.ofInt 0), .int (Int32.ofInt 0)]) cl_X5 (Nat.le_of_ble_eq_true rfl) rfl we_433 rfl rfl (Nat.le_of_ble_eq_true rfl) rfl dX5_init_10 ?_
  refine Cv_iconst dX5_init_13 ?_
  refine Cv_istore (lv' := [(1, .int (Int32.ofInt 0)), (0, .ref h0)]) dX5_init_14 rfl (Nat.le_of_ble_eq_true rfl) rfl ?_
  refine Cv_iload 0 dX5_init_15 rfl rfl ?_
  refine Cv_bipush dX5_init_16 rfl ?_
  refine Cv_geF (tgt := 40) dX5_init_18 (by decide) (by decide +kernel) ?_
  refine Cv_aload 1 dX5_init_21 rfl rfl ?_
  refine Cv_get (k := 0) (v := .ref n0) cl_X5 (Nat.le_of_ble_eq_true rfl) we_433 rfl dX5_init_22 ?_
  refine Cv_iload 0 dX5_init_25 rfl rfl ?_
  refine Cv_new (fs := fs0_X2) cl_X2 we_430 we_332 we_178 df_X2 (Nat.le_of_ble_eq_true rfl) (Nat.le_of_ble_eq_true rfl) dX5_init_26 (fun n1 => ?_)
  refine Cv_dup dX5_init_29 rfl ?_
  refine Cv_call (d := 2) (d' := 1) (mc' := 11) (ms' := 84) (h0 := n1) (ci := 2) (As := []) (fs := fs0_X2) cv_cm_X2 (Or.inr ⟨_, we_432⟩) dX5_init_30 (Nat.le_of_ble_eq_true rfl) rfl rfl (Nat.le_of_ble_eq_true rfl) (Nat.le_of_ble_eq_true rfl) (Nat.le_of_ble_eq_true rfl) (Nat.le_of_ble_eq_true rfl) (ci_X2 n1) (fun w2 hw2 => ?_)
  obtain ⟨n1_1, n1_2, n1_3, n1_4, n1_5, n1_6, n1_7, n1_8, n1_9, n1_10, n1_11, rfl⟩ := hw2
  refine Cv_astq (i0 := 0) (q0 := 1) (qk := 2) rfl rfl (by decide +kernel) (ev_vin (ev_Rc rfl) (by decide)) dX5_init_33 rfl ?_
  refine Cv_iinc (j := 0) (v := Int32.ofInt 1) (lv' := [(1, .int (Int32.ofInt 1)), (0, .ref h0)]) dX5_init_34 rfl (by decide +kernel) (Nat.le_of_ble_eq_true rfl) rfl ?_
  refine Cv_goto (tgt := 15) dX5_init_37 (by decide) ?_
  refine Cv_iload 0 dX5_init_15 rfl rfl ?_
  refine Cv_bipush dX5_init_16 rfl ?_
  refine Cv_geF (tgt := 40) dX5_init_18 (by decide) (by decide +kernel) ?_
  refine Cv_aload 1 dX5_init_21 rfl rfl ?_
  refine Cv_get (k := 0) (v := .ref n0) cl_X5 (Nat.le_of_ble_eq_true rfl) we_433 rfl dX5_init_22 ?_
  refine Cv_iload 0 dX5_init_25 rfl rfl ?_
  refine Cv_new (fs := fs0_X2) cl_X2 we_430 we_332 we_178 df_X2 (Nat.le_of_ble_eq_true rfl) (Nat.le_of_ble_eq_true rfl) dX5_init_26 (fun n3 => ?_)
  refine Cv_dup dX5_init_29 rfl ?_
  refine Cv_call (d := 2) (d' := 1) (mc' := 11) (ms' := 84) (h0 := n3) (ci := 2) (As := []) (fs := fs0_X2) cv_cm_X2 (Or.inr ⟨_, we_432⟩) dX5_init_30 (Nat.le_of_ble_eq_true rfl) rfl rfl (Nat.le_of_ble_eq_true rfl) (Nat.le_of_ble_eq_true rfl) (Nat.le_of_ble_eq_true rfl) (Nat.le_of_ble_eq_true rfl) (ci_X2 n3) (fun w4 hw4 => ?_)
  obtain ⟨n3_1, n3_2, n3_3, n3_4, n3_5, n3_6, n3_7, n3_8, n3_9, n3_10, n3_11, rfl⟩ := hw4
  refine Cv_astq (i0 := 1) (q0 := 1) (qk := 14) rfl rfl (by decide +kernel) (ev_vin (ev_Rc rfl) (by decide)) dX5_init_33 rfl ?_
  refine Cv_iinc (j := 0) (v := Int32.ofInt 2) (lv' := [(1, .int (Int32.ofInt 2)), (0, .ref h0)]) dX5_init_34 rfl (by decide +kernel) (Nat.le_of_ble_eq_true rfl) rfl ?_
  refine Cv_goto (tgt := 15) dX5_init_37 (by decide) ?_
  refine Cv_iload 0 dX5_init_15 rfl rfl ?_
  refine Cv_bipush dX5_init_16 rfl ?_
  refine Cv_geF (tgt := 40) dX5_init_18 (by decide) (by decide +kernel) ?_
  refine Cv_aload 1 dX5_init_21 rfl rfl ?_
  refine Cv_get (k := 0) (v := .ref n0) cl_X5 (Nat.le_of_ble_eq_true rfl) we_433 rfl dX5_init_22 ?_
  refine Cv_iload 0 dX5_init_25 rfl rfl ?_
  refine Cv_new (fs := fs0_X2) cl_X2 we_430 we_332 we_178 df_X2 (Nat.le_of_ble_eq_true rfl) (Nat.le_of_ble_eq_true rfl) dX5_init_26 (fun n5 => ?_)
  refine Cv_dup dX5_init_29 rfl ?_
  refine Cv_call (d := 2) (d' := 1) (mc' := 11) (ms' := 84) (h0 := n5) (ci := 2) (As := []) (fs := fs0_X2) cv_cm_X2 (Or.inr ⟨_, we_432⟩) dX5_init_30 (Nat.le_of_ble_eq_true rfl) rfl rfl (Nat.le_of_ble_eq_true rfl) (Nat.le_of_ble_eq_true rfl) (Nat.le_of_ble_eq_true rfl) (Nat.le_of_ble_eq_true rfl) (ci_X2 n5) (fun w6 hw6 => ?_)
  obtain ⟨n5_1, n5_2, n5_3, n5_4, n5_5, n5_6, n5_7, n5_8, n5_9, n5_10, n5_11, rfl⟩ := hw6
  refine Cv_astq (i0 := 2) (q0 := 1) (qk := 26) rfl rfl (by decide +kernel) (ev_vin (ev_Rc rfl) (by decide)) dX5_init_33 rfl ?_
  refine Cv_iinc (j := 0) (v := Int32.ofInt 3) (lv' := [(1, .int (Int32.ofInt 3)), (0, .ref h0)]) dX5_init_34 rfl (by decide +kernel) (Nat.le_of_ble_eq_true rfl) rfl ?_
  refine Cv_goto (tgt := 15) dX5_init_37 (by decide) ?_
  refine Cv_iload 0 dX5_init_15 rfl rfl ?_
  refine Cv_bipush dX5_init_16 rfl ?_
  refine Cv_geF (tgt := 40) dX5_init_18 (by decide) (by decide +kernel) ?_
  refine Cv_aload 1 dX5_init_21 rfl rfl ?_
  refine Cv_get (k := 0) (v := .ref n0) cl_X5 (Nat.le_of_ble_eq_true rfl) we_433 rfl dX5_init_22 ?_
  refine Cv_iload 0 dX5_init_25 rfl rfl ?_
  refine Cv_new (fs := fs0_X2) cl_X2 we_430 we_332 we_178 df_X2 (Nat.le_of_ble_eq_true rfl) (Nat.le_of_ble_eq_true rfl) dX5_init_26 (fun n7 => ?_)
  refine Cv_dup dX5_init_29 rfl ?_
  refine Cv_call (d := 2) (d' := 1) (mc' := 11) (ms' := 84) (h0 := n7) (ci := 2) (As := []) (fs := fs0_X2) cv_cm_X2 (Or.inr ⟨_, we_432⟩) dX5_init_30 (Nat.le_of_ble_eq_true rfl) rfl rfl (Nat.le_of_ble_eq_true rfl) (Nat.le_of_ble_eq_true rfl) (Nat.le_of_ble_eq_true rfl) (Nat.le_of_ble_eq_true rfl) (ci_X2 n7) (fun w8 hw8 => ?_)
  obtain ⟨n7_1, n7_2, n7_3, n7_4, n7_5, n7_6, n7_7, n7_8, n7_9, n7_10, n7_11, rfl⟩ := hw8
  refine Cv_astq (i0 := 3) (q0 := 1) (qk := 38) rfl rfl (by decide +kernel) (ev_vin (ev_Rc rfl) (by decide)) dX5_init_33 rfl ?_
  refine Cv_iinc (j := 0) (v := Int32.ofInt 4) (lv' := [(1, .int (Int32.ofInt 4)), (0, .ref h0)]) dX5_init_34 rfl (by decide +kernel) (Nat.le_of_ble_eq_true rfl) rfl ?_
  refine Cv_goto (tgt := 15) dX5_init_37 (by decide) ?_
  refine Cv_iload 0 dX5_init_15 rfl rfl ?_
  refine Cv_bipush dX5_init_16 rfl ?_
  refine Cv_geF (tgt := 40) dX5_init_18 (by decide) (by decide +kernel) ?_
  refine Cv_aload 1 dX5_init_21 rfl rfl ?_
  refine Cv_get (k := 0) (v := .ref n0) cl_X5 (Nat.le_of_ble_eq_true rfl) we_433 rfl dX5_init_22 ?_
  refine Cv_iload 0 dX5_init_25 rfl rfl ?_
  refine Cv_new (fs := fs0_X2) cl_X2 we_430 we_332 we_178 df_X2 (Nat.le_of_ble_eq_true rfl) (Nat.le_of_ble_eq_true rfl) dX5_init_26 (fun n9 => ?_)
  refine Cv_dup dX5_init_29 rfl ?_
  refine Cv_call (d := 2) (d' := 1) (mc' := 11) (ms' := 84) (h0 := n9) (ci := 2) (As := []) (fs := fs0_X2) cv_cm_X2 (Or.inr ⟨_, we_432⟩) dX5_init_30 (Nat.le_of_ble_eq_true rfl) rfl rfl (Nat.le_of_ble_eq_true rfl) (Nat.le_of_ble_eq_true rfl) (Nat.le_of_ble_eq_true rfl) (Nat.le_of_ble_eq_true rfl) (ci_X2 n9) (fun w10 hw10 => ?_)
  obtain ⟨n9_1, n9_2, n9_3, n9_4, n9_5, n9_6, n9_7, n9_8, n9_9, n9_10, n9_11, rfl⟩ := hw10
  refine Cv_astq (i0 := 4) (q0 := 1) (qk := 50) rfl rfl (by decide +kernel) (ev_vin (ev_Rc rfl) (by decide)) dX5_init_33 rfl ?_
  refine Cv_iinc (j := 0) (v := Int32.ofInt 5) (lv' := [(1, .int (Int32.ofInt 5)), (0, .ref h0)]) dX5_init_34 rfl (by decide +kernel) (Nat.le_of_ble_eq_true rfl) rfl ?_
  refine Cv_goto (tgt := 15) dX5_init_37 (by decide) ?_
  refine Cv_iload 0 dX5_init_15 rfl rfl ?_
  refine Cv_bipush dX5_init_16 rfl ?_
  refine Cv_geF (tgt := 40) dX5_init_18 (by decide) (by decide +kernel) ?_
  refine Cv_aload 1 dX5_init_21 rfl rfl ?_
  refine Cv_get (k := 0) (v := .ref n0) cl_X5 (Nat.le_of_ble_eq_true rfl) we_433 rfl dX5_init_22 ?_
  refine Cv_iload 0 dX5_init_25 rfl rfl ?_
  refine Cv_new (fs := fs0_X2) cl_X2 we_430 we_332 we_178 df_X2 (Nat.le_of_ble_eq_true rfl) (Nat.le_of_ble_eq_true rfl) dX5_init_26 (fun n11 => ?_)
  refine Cv_dup dX5_init_29 rfl ?_
  refine Cv_call (d := 2) (d' := 1) (mc' := 11) (ms' := 84) (h0 := n11) (ci := 2) (As := []) (fs := fs0_X2) cv_cm_X2 (Or.inr ⟨_, we_432⟩) dX5_init_30 (Nat.le_of_ble_eq_true rfl) rfl rfl (Nat.le_of_ble_eq_true rfl) (Nat.le_of_ble_eq_true rfl) (Nat.le_of_ble_eq_true rfl) (Nat.le_of_ble_eq_true rfl) (ci_X2 n11) (fun w12 hw12 => ?_)
  obtain ⟨n11_1, n11_2, n11_3, n11_4, n11_5, n11_6, n11_7, n11_8, n11_9, n11_10, n11_11, rfl⟩ := hw12
  refine Cv_astq (i0 := 5) (q0 := 1) (qk := 62) rfl rfl (by decide +kernel) (ev_vin (ev_Rc rfl) (by decide)) dX5_init_33 rfl ?_
  refine Cv_iinc (j := 0) (v := Int32.ofInt 6) (lv' := [(1, .int (Int32.ofInt 6)), (0, .ref h0)]) dX5_init_34 rfl (by decide +kernel) (Nat.le_of_ble_eq_true rfl) rfl ?_
  refine Cv_goto (tgt := 15) dX5_init_37 (by decide) ?_
  refine Cv_iload 0 dX5_init_15 rfl rfl ?_
  refine Cv_bipush dX5_init_16 rfl ?_
  refine Cv_geT (tgt := 40) dX5_init_18 (by decide) (by decide +kernel) ?_
  rw [cv_arr6]
  exact Cv_ret rfl dX5_init_40 (Nat.le_of_ble_eq_true rfl) (Nat.le_of_ble_eq_true rfl) ⟨n0, n1, n1_1, n1_2, n1_3, n1_4, n1_5, n1_6, n1_7, n1_8, n1_9, n1_10, n1_11, n3, n3_1, n3_2, n3_3, n3_4, n3_5, n3_6, n3_7, n3_8, n3_9, n3_10, n3_11, n5, n5_1, n5_2, n5_3, n5_4, n5_5, n5_6, n5_7, n5_8, n5_9, n5_10, n5_11, n7, n7_1, n7_2, n7_3, n7_4, n7_5, n7_6, n7_7, n7_8, n7_9, n7_10, n7_11, n9, n9_1, n9_2, n9_3, n9_4, n9_5, n9_6, n9_7, n9_8, n9_9, n9_10, n9_11, n11, n11_1, n11_2, n11_3, n11_4, n11_5, n11_6, n11_7, n11_8, n11_9, n11_10, n11_11, rfl⟩
abbrev fs0_X6 : List Value := [.null, .null, .null, .int (Int32.ofInt 0)]
theorem df_X6 : ∀ j, j < 4 → defaultValue (tyX6 j) = vp_V fs0_X6 j := by
  intro j hj
  match j, hj with
  | 0, _ => rfl
  | 1, _ => rfl
  | 2, _ => rfl
  | 3, _ => rfl
  | n + 4, h => exact absurd h (by omega)
abbrev M_X6_init : ev_M := (RX6, cX6_init, 1, none, 0)
theorem cv_cm_X6 : cv_cm ⟨"AngelTown$Picture", "<init>", "()V"⟩ M_X6_init 0 := ⟨⟨by decide +kernel, rfl, we_448, we_181, ⟨by decide +kernel, by decide +kernel, by decide +kernel⟩, Nat.le_of_ble_eq_true rfl⟩, rfl, we_447, rfl⟩
def cw_X6 (ct : Nat → ClassId) (h0 : Nat) (w : va_W) : Prop := ∃ q1 q2 q3 q4 q5 q6 q7 q8 q9 q10 q11 q12 q13 q14 q15 q16 q17 q18 q19 q20 q21 q22 q23 q24 q25 q26 q27 q28 : Nat, w = [(h0, .inr (6, [.ref q1, .ref q15, .ref q27, .int (Int32.ofInt 0)])), (q1, .inr (10, [.int (Int32.ofInt 0), .int (Int32.ofInt 0), .int (Int32.ofInt 0), .ref q2, .int (Int32.ofInt 0), .ref q3, .ref q4, .int (Int32.ofInt 0), .ref q5, .ref q6, .ref q7, .int (Int32.ofInt 0), .ref q8, .int (Int32.ofInt 0), .ref q9, .ref q10])), (q2, .inl (ct 0, 5, .inl (fun _ => Int32.ofInt 0))), (q3, .inl (ct 1, 4800, .inl (fun _ => Int32.ofInt 0))), (q4, .inl (ct 0, 8, .inl (fun _ => Int32.ofInt 0))), (q5, .inl (ct 0, 6, .inl (fun _ => Int32.ofInt 0))), (q6, .inl (ct 0, 480, .inl (fun _ => Int32.ofInt 0))), (q7, .inl (ct 0, 6, .inl (fun _ => Int32.ofInt 0))), (q8, .inl (ct 0, 18, .inl (fun _ => Int32.ofInt 0))), (q9, .inl (ct 0, 70, .inl (fun _ => Int32.ofInt 0))), (q10, .inr (4, [.ref q11, .ref q12, .ref q13, .ref q14, .int (Int32.ofInt 0), .int (Int32.ofInt 0)])), (q11, .inl (ct 0, 800, .inl (fun _ => Int32.ofInt 0))), (q12, .inl (ct 0, 17, .inl (fun _ => Int32.ofInt 0))), (q13, .inl (ct 0, 16, .inl (fun _ => Int32.ofInt 0))), (q14, .inl (ct 0, 32, .inl (fun _ => Int32.ofInt 0))), (q15, .inr (2, [.int (Int32.ofInt 0), .int (Int32.ofInt 0), .ref q16, .ref q17, .ref q18, .ref q19, .ref q20, .ref q21, .ref q22, .ref q23, .ref q24, .ref q25, .ref q26, .int (Int32.ofInt 0)])), (q16, .inl (ct 0, 8, .inl (fun _ => Int32.ofInt 0))), (q17, .inl (ct 0, 8, .inl (fun _ => Int32.ofInt 0))), (q18, .inl (ct 0, 8, .inl (fun _ => Int32.ofInt 0))), (q19, .inl (ct 0, 6, .inl (fun _ => Int32.ofInt 0))), (q20, .inl (ct 0, 6, .inl (fun _ => Int32.ofInt 0))), (q21, .inl (ct 0, 6, .inl (fun _ => Int32.ofInt 0))), (q22, .inl (ct 0, 6, .inl (fun _ => Int32.ofInt 0))), (q23, .inl (ct 0, 6, .inl (fun _ => Int32.ofInt 0))), (q24, .inl (ct 0, 10, .inl (fun _ => Int32.ofInt 0))), (q25, .inl (ct 0, 10, .inl (fun _ => Int32.ofInt 0))), (q26, .inl (ct 0, 10, .inl (fun _ => Int32.ofInt 0))), (q27, .inr (0, [.ref q28])), (q28, .inl (ct 0, 500, .inl (fun _ => Int32.ofInt 0)))]
set_option maxRecDepth 20000 in
theorem ci_X6 {ct : Nat → ClassId} (h0 : Nat) : Cv ct M_X6_init (cv_rm 3 28 6879) 0 (lv_args 0 [.ref h0]) [] [(h0, .inr (6, fs0_X6))] 0 0 28 6879 (cw_X6 ct h0) := by
  show Cv ct M_X6_init (cv_rm 3 28 6879) 0 [(0, .ref h0)] [] [(h0, .inr (6, fs0_X6))] 0 0 28 6879 _
  refine Cv_aload 0 dX6_init_0 rfl rfl ?_
  refine Cv_obj we_449 we_203 we_objcode dX6_init_1 (Nat.le_of_ble_eq_true rfl) (Nat.le_of_ble_eq_true rfl) ?_
  refine Cv_aload 0 dX6_init_4 rfl rfl ?_
  refine Cv_new (fs := fs0_X10) cl_X10 we_450 we_206 we_176 df_X10 (Nat.le_of_ble_eq_true rfl) (Nat.le_of_ble_eq_true rfl) dX6_init_5 (fun n0 => ?_)
  refine Cv_dup dX6_init_8 rfl ?_
  refine Cv_call (d := 3) (d' := 2) (mc' := 13) (ms' := 6264) (h0 := n0) (ci := 10) (As := []) (fs := fs0_X10) cv_cm_X10 (Or.inr ⟨_, we_451⟩) dX6_init_9 (Nat.le_of_ble_eq_true rfl) rfl rfl (Nat.le_of_ble_eq_true rfl) (Nat.le_of_ble_eq_true rfl) (Nat.le_of_ble_eq_true rfl) (Nat.le_of_ble_eq_true rfl) (ci_X10 n0) (fun w1 hw1 => ?_)
  obtain ⟨n0_1, n0_2, n0_3, n0_4, n0_5, n0_6, n0_7, n0_8, n0_9, n0_10, n0_11, n0_12, n0_13, rfl⟩ := hw1
  refine Cv_put (k := 0) (fs' := [.ref n0, .null, .null, .int (Int32.ofInt 0)]) cl_X6 (Nat.le_of_ble_eq_true rfl) rfl we_456 rfl rfl (Nat.le_of_ble_eq_true rfl) rfl dX6_init_12 ?_
  refine Cv_aload 0 dX6_init_15 rfl rfl ?_
  refine Cv_new (fs := fs0_X2) cl_X2 we_452 we_332 we_178 df_X2 (Nat.le_of_ble_eq_true rfl) (Nat.le_of_ble_eq_true rfl) dX6_init_16 (fun n2 => ?_)
  refine Cv_dup dX6_init_19 rfl ?_
  refine Cv_call (d := 3) (d' := 1) (mc' := 11) (ms' := 84) (h0 := n2) (ci := 2) (As := []) (fs := fs0_X2) cv_cm_X2 (Or.inr ⟨_, we_453⟩) dX6_init_20 (Nat.le_of_ble_eq_true rfl) rfl rfl (Nat.le_of_ble_eq_true rfl) (Nat.le_of_ble_eq_true rfl) (Nat.le_of_ble_eq_true rfl) (Nat.le_of_ble_eq_true rfl) (ci_X2 n2) (fun w3 hw3 => ?_)
  obtain ⟨n2_1, n2_2, n2_3, n2_4, n2_5, n2_6, n2_7, n2_8, n2_9, n2_10, n2_11, rfl⟩ := hw3
  refine Cv_put (k := 1) (fs' := [.ref n0, .ref n2, .null, .int (Int32.ofInt 0)]) cl_X6 (Nat.le_of_ble_eq_true rfl) rfl we_457 rfl rfl (Nat.le_of_ble_eq_true rfl) rfl dX6_init_23 ?_
  refine Cv_aload 0 dX6_init_26 rfl rfl ?_
  refine Cv_new (fs := fs0_X0) cl_X0 we_454 we_414 we_179 df_X0 (Nat.le_of_ble_eq_true rfl) (Nat.le_of_ble_eq_true rfl) dX6_init_27 (fun n4 => ?_)
  refine Cv_dup dX6_init_30 rfl ?_
  refine Cv_call (d := 3) (d' := 1) (mc' := 1) (ms' := 500) (h0 := n4) (ci := 0) (As := []) (fs := fs0_X0) cv_cm_X0 (Or.inr ⟨_, we_455⟩) dX6_init_31 (Nat.le_of_ble_eq_true rfl) rfl rfl (Nat.le_of_ble_eq_true rfl) (Nat.le_of_ble_eq_true rfl) (Nat.le_of_ble_eq_true rfl) (Nat.le_of_ble_eq_true rfl) (ci_X0 n4) (fun w5 hw5 => ?_)
  obtain ⟨n4_1, rfl⟩ := hw5
  refine Cv_put (k := 2) (fs' := [.ref n0, .ref n2, .ref n4, .int (Int32.ofInt 0)]) cl_X6 (Nat.le_of_ble_eq_true rfl) rfl we_458 rfl rfl (Nat.le_of_ble_eq_true rfl) rfl dX6_init_34 ?_
  exact Cv_ret rfl dX6_init_37 (Nat.le_of_ble_eq_true rfl) (Nat.le_of_ble_eq_true rfl) ⟨n0, n0_1, n0_2, n0_3, n0_4, n0_5, n0_6, n0_7, n0_8, n0_9, n0_10, n0_11, n0_12, n0_13, n2, n2_1, n2_2, n2_3, n2_4, n2_5, n2_6, n2_7, n2_8, n2_9, n2_10, n2_11, n4, n4_1, rfl⟩
abbrev fs0_X9 : List Value := [.null, .int (Int32.ofInt 0), .null, .null, .null, .int (Int32.ofInt 0)]
theorem df_X9 : ∀ j, j < 6 → defaultValue (tyX9 j) = vp_V fs0_X9 j := by
  intro j hj
  match j, hj with
  | 0, _ => rfl
  | 1, _ => rfl
  | 2, _ => rfl
  | 3, _ => rfl
  | 4, _ => rfl
  | 5, _ => rfl
  | n + 6, h => exact absurd h (by omega)
abbrev M_X9_init : ev_M := (RX9, cX9_init, 1, none, 0)
theorem cv_cm_X9 : cv_cm ⟨"AngelTown$Tape", "<init>", "()V"⟩ M_X9_init 0 := ⟨⟨by decide +kernel, rfl, we_474, we_182, ⟨by decide +kernel, by decide +kernel, by decide +kernel⟩, Nat.le_of_ble_eq_true rfl⟩, rfl, we_473, rfl⟩
def cw_X9 (ct : Nat → ClassId) (h0 : Nat) (w : va_W) : Prop := ∃ q1 q2 q3 q4 : Nat, w = [(h0, .inr (9, [.ref q1, .int (Int32.ofInt 0), .ref q2, .ref q3, .ref q4, .int (Int32.ofInt 0)])), (q1, .inl (ct 1, 400, .inl (fun _ => Int32.ofInt 0))), (q2, .inl (ct 0, 400, .inl (fun _ => Int32.ofInt 0))), (q3, .inl (ct 0, 400, .inl (fun _ => Int32.ofInt 0))), (q4, .inl (ct 0, 400, .inl (fun _ => Int32.ofInt 0)))]
set_option maxRecDepth 20000 in
theorem ci_X9 {ct : Nat → ClassId} (h0 : Nat) : Cv ct M_X9_init (cv_rm 1 4 1600) 0 (lv_args 0 [.ref h0]) [] [(h0, .inr (9, fs0_X9))] 0 0 4 1600 (cw_X9 ct h0) := by
  show Cv ct M_X9_init (cv_rm 1 4 1600) 0 [(0, .ref h0)] [] [(h0, .inr (9, fs0_X9))] 0 0 4 1600 _
  refine Cv_aload 0 dX9_init_0 rfl rfl ?_
  refine Cv_obj we_475 we_203 we_objcode dX9_init_1 (Nat.le_of_ble_eq_true rfl) (Nat.le_of_ble_eq_true rfl) ?_
  refine Cv_aload 0 dX9_init_4 rfl rfl ?_
  refine Cv_sipush dX9_init_5 rfl ?_
  refine Cv_newb 400 (Nat.le_of_ble_eq_true rfl) (Nat.le_of_ble_eq_true rfl) (Nat.le_of_ble_eq_true rfl) dX9_init_8 rfl (fun n0 => ?_)
  refine Cv_put (k := 0) (fs' := [.ref n0, .int (Int32.ofInt 0), .null, .null, .null, .int (Int32.ofInt 0)]) cl_X9 (Nat.le_of_ble_eq_true rfl) rfl we_476 rfl rfl (Nat.le_of_ble_eq_true rfl) rfl dX9_init_10 ?_
  refine Cv_aload 0 dX9_init_13 rfl rfl ?_
  refine Cv_sipush dX9_init_14 rfl ?_
  refine Cv_newi 400 (Nat.le_of_ble_eq_true rfl) (Nat.le_of_ble_eq_true rfl) (Nat.le_of_ble_eq_true rfl) dX9_init_17 rfl (fun n1 => ?_)
  refine Cv_put (k := 2) (fs' := [.ref n0, .int (Int32.ofInt 0), .ref n1, .null, .null, .int (Int32.ofInt 0)]) cl_X9 (Nat.le_of_ble_eq_true rfl) rfl we_480 rfl rfl (Nat.le_of_ble_eq_true rfl) rfl dX9_init_19 ?_
  refine Cv_aload 0 dX9_init_22 rfl rfl ?_
  refine Cv_sipush dX9_init_23 rfl ?_
  refine Cv_newi 400 (Nat.le_of_ble_eq_true rfl) (Nat.le_of_ble_eq_true rfl) (Nat.le_of_ble_eq_true rfl) dX9_init_26 rfl (fun n2 => ?_)
  refine Cv_put (k := 3) (fs' := [.ref n0, .int (Int32.ofInt 0), .ref n1, .ref n2, .null, .int (Int32.ofInt 0)]) cl_X9 (Nat.le_of_ble_eq_true rfl) rfl we_482 rfl rfl (Nat.le_of_ble_eq_true rfl) rfl dX9_init_28 ?_
  refine Cv_aload 0 dX9_init_31 rfl rfl ?_
  refine Cv_sipush dX9_init_32 rfl ?_
  refine Cv_newi 400 (Nat.le_of_ble_eq_true rfl) (Nat.le_of_ble_eq_true rfl) (Nat.le_of_ble_eq_true rfl) dX9_init_35 rfl (fun n3 => ?_)
  refine Cv_put (k := 4) (fs' := [.ref n0, .int (Int32.ofInt 0), .ref n1, .ref n2, .ref n3, .int (Int32.ofInt 0)]) cl_X9 (Nat.le_of_ble_eq_true rfl) rfl we_484 rfl rfl (Nat.le_of_ble_eq_true rfl) rfl dX9_init_37 ?_
  exact Cv_ret rfl dX9_init_40 (Nat.le_of_ble_eq_true rfl) (Nat.le_of_ble_eq_true rfl) ⟨n0, n1, n2, n3, rfl⟩
abbrev fs0_X8 : List Value := [.null, .null, .null, .int (Int32.ofInt 0), .int (Int32.ofInt 0), .null, .int (Int32.ofInt 0), .int (Int32.ofInt 0), .int (Int32.ofInt 0), .int (Int32.ofInt 0)]
theorem df_X8 : ∀ j, j < 10 → defaultValue (tyX8 j) = vp_V fs0_X8 j := by
  intro j hj
  match j, hj with
  | 0, _ => rfl
  | 1, _ => rfl
  | 2, _ => rfl
  | 3, _ => rfl
  | 4, _ => rfl
  | 5, _ => rfl
  | 6, _ => rfl
  | 7, _ => rfl
  | 8, _ => rfl
  | 9, _ => rfl
  | n + 10, h => exact absurd h (by omega)
abbrev M_X8_init : ev_M := (RX8, cX8_init, 3, none, 0)
theorem cv_cm_X8 : cv_cm ⟨"AngelTown$Reader", "<init>", "(LAngelTown$Tape;LAngelTown$Town;)V"⟩ M_X8_init 2 := ⟨⟨by decide +kernel, rfl, we_505, we_183, ⟨by decide +kernel, by decide +kernel, by decide +kernel⟩, Nat.le_of_ble_eq_true rfl⟩, rfl, we_504, rfl⟩
def cw_X8 (ct : Nat → ClassId) (h0 : Nat) (a1 a2 : Nat) (w : va_W) : Prop := ∃ q1 q2 q3 q4 q5 q6 : Nat, w = [(h0, .inr (8, [.ref a1, .ref a2, .ref q1, .int (Int32.ofInt 0), .int (Int32.ofInt 0), .ref q2, .int (Int32.ofInt 0), .int (Int32.ofInt 0), .int (Int32.ofInt 0), .int (Int32.ofInt (-1))])), (q1, .inl (ct 0, 600, .inl (fun _ => Int32.ofInt 0))), (q2, .inr (4, [.ref q3, .ref q4, .ref q5, .ref q6, .int (Int32.ofInt 0), .int (Int32.ofInt 0)])), (q3, .inl (ct 0, 800, .inl (fun _ => Int32.ofInt 0))), (q4, .inl (ct 0, 17, .inl (fun _ => Int32.ofInt 0))), (q5, .inl (ct 0, 16, .inl (fun _ => Int32.ofInt 0))), (q6, .inl (ct 0, 32, .inl (fun _ => Int32.ofInt 0)))]
set_option maxRecDepth 20000 in
theorem ci_X8 {ct : Nat → ClassId} (h0 : Nat) (a1 a2 : Nat) : Cv ct M_X8_init (cv_rm 2 6 1471) 0 (lv_args 0 [.ref h0, .ref a1, .ref a2]) [] [(h0, .inr (8, fs0_X8))] 0 0 6 1471 (cw_X8 ct h0 a1 a2) := by
  show Cv ct M_X8_init (cv_rm 2 6 1471) 0 [(0, .ref h0), (1, .ref a1), (2, .ref a2)] [] [(h0, .inr (8, fs0_X8))] 0 0 6 1471 _
  refine Cv_aload 0 dX8_init_0 rfl rfl ?_
  refine Cv_obj we_506 we_203 we_objcode dX8_init_1 (Nat.le_of_ble_eq_true rfl) (Nat.le_of_ble_eq_true rfl) ?_
  refine Cv_aload 0 dX8_init_4 rfl rfl ?_
  refine Cv_sipush dX8_init_5 rfl ?_
  refine Cv_newi 600 (Nat.le_of_ble_eq_true rfl) (Nat.le_of_ble_eq_true rfl) (Nat.le_of_ble_eq_true rfl) dX8_init_8 rfl (fun n0 => ?_)
  refine Cv_put (k := 2) (fs' := [.null, .null, .ref n0, .int (Int32.ofInt 0), .int (Int32.ofInt 0), .null, .int (Int32.ofInt 0), .int (Int32.ofInt 0), .int (Int32.ofInt 0), .int (Int32.ofInt 0)]) cl_X8 (Nat.le_of_ble_eq_true rfl) rfl we_511 rfl rfl (Nat.le_of_ble_eq_true rfl) rfl dX8_init_10 ?_
  refine Cv_aload 0 dX8_init_13 rfl rfl ?_
  refine Cv_new (fs := fs0_X4) cl_X4 we_507 we_212 we_177 df_X4 (Nat.le_of_ble_eq_true rfl) (Nat.le_of_ble_eq_true rfl) dX8_init_14 (fun n1 => ?_)
  refine Cv_dup dX8_init_17 rfl ?_
  refine Cv_call (d := 2) (d' := 1) (mc' := 4) (ms' := 865) (h0 := n1) (ci := 4) (As := []) (fs := fs0_X4) cv_cm_X4 (Or.inr ⟨_, we_508⟩) dX8_init_18 (Nat.le_of_ble_eq_true rfl) rfl rfl (Nat.le_of_ble_eq_true rfl) (Nat.le_of_ble_eq_true rfl) (Nat.le_of_ble_eq_true rfl) (Nat.le_of_ble_eq_true rfl) (ci_X4 n1) (fun w2 hw2 => ?_)
  obtain ⟨n1_1, n1_2, n1_3, n1_4, rfl⟩ := hw2
  refine Cv_put (k := 5) (fs' := [.null, .null, .ref n0, .int (Int32.ofInt 0), .int (Int32.ofInt 0), .ref n1, .int (Int32.ofInt 0), .int (Int32.ofInt 0), .int (Int32.ofInt 0), .int (Int32.ofInt 0)]) cl_X8 (Nat.le_of_ble_eq_true rfl) rfl we_517 rfl rfl (Nat.le_of_ble_eq_true rfl) rfl dX8_init_21 ?_
  refine Cv_aload 0 dX8_init_24 rfl rfl ?_
  refine Cv_iconst dX8_init_25 ?_
  refine Cv_put (k := 9) (fs' := [.null, .null, .ref n0, .int (Int32.ofInt 0), .int (Int32.ofInt 0), .ref n1, .int (Int32.ofInt 0), .int (Int32.ofInt 0), .int (Int32.ofInt 0), .int (Int32.ofInt (-1))]) cl_X8 (Nat.le_of_ble_eq_true rfl) rfl we_523 rfl rfl (Nat.le_of_ble_eq_true rfl) rfl dX8_init_26 ?_
  refine Cv_aload 0 dX8_init_29 rfl rfl ?_
  refine Cv_aload 1 dX8_init_30 rfl rfl ?_
  refine Cv_put (k := 0) (fs' := [.ref a1, .null, .ref n0, .int (Int32.ofInt 0), .int (Int32.ofInt 0), .ref n1, .int (Int32.ofInt 0), .int (Int32.ofInt 0), .int (Int32.ofInt 0), .int (Int32.ofInt (-1))]) cl_X8 (Nat.le_of_ble_eq_true rfl) rfl we_509 rfl rfl (Nat.le_of_ble_eq_true rfl) rfl dX8_init_31 ?_
  refine Cv_aload 0 dX8_init_34 rfl rfl ?_
  refine Cv_aload 2 dX8_init_35 rfl rfl ?_
  refine Cv_put (k := 1) (fs' := [.ref a1, .ref a2, .ref n0, .int (Int32.ofInt 0), .int (Int32.ofInt 0), .ref n1, .int (Int32.ofInt 0), .int (Int32.ofInt 0), .int (Int32.ofInt 0), .int (Int32.ofInt (-1))]) cl_X8 (Nat.le_of_ble_eq_true rfl) rfl we_510 rfl rfl (Nat.le_of_ble_eq_true rfl) rfl dX8_init_36 ?_
  exact Cv_ret rfl dX8_init_39 (Nat.le_of_ble_eq_true rfl) (Nat.le_of_ble_eq_true rfl) ⟨n0, n1, n1_1, n1_2, n1_3, n1_4, rfl⟩
abbrev fs0_X7 : List Value := [.null, .null, .null]
theorem df_X7 : ∀ j, j < 3 → defaultValue (tyX7 j) = vp_V fs0_X7 j := by
  intro j hj
  match j, hj with
  | 0, _ => rfl
  | 1, _ => rfl
  | 2, _ => rfl
  | n + 3, h => exact absurd h (by omega)
abbrev M_X7_init : ev_M := (RX7, cX7_init, 3, none, 0)
theorem cv_cm_X7 : cv_cm ⟨"AngelTown$Play", "<init>", "(LAngelTown$Town;LAngelTown$Book;)V"⟩ M_X7_init 2 := ⟨⟨by decide +kernel, rfl, we_550, we_184, ⟨by decide +kernel, by decide +kernel, by decide +kernel⟩, Nat.le_of_ble_eq_true rfl⟩, rfl, we_549, rfl⟩
def cw_X7 (ct : Nat → ClassId) (h0 : Nat) (a1 a2 : Nat) (w : va_W) : Prop := ∃ q1 : Nat, w = [(h0, .inr (7, [.ref a1, .ref a2, .ref q1])), (q1, .inl (ct 0, 9, .inl (fun _ => Int32.ofInt 0)))]
set_option maxRecDepth 20000 in
theorem ci_X7 {ct : Nat → ClassId} (h0 : Nat) (a1 a2 : Nat) : Cv ct M_X7_init (cv_rm 1 1 9) 0 (lv_args 0 [.ref h0, .ref a1, .ref a2]) [] [(h0, .inr (7, fs0_X7))] 0 0 1 9 (cw_X7 ct h0 a1 a2) := by
  show Cv ct M_X7_init (cv_rm 1 1 9) 0 [(0, .ref h0), (1, .ref a1), (2, .ref a2)] [] [(h0, .inr (7, fs0_X7))] 0 0 1 9 _
  refine Cv_aload 0 dX7_init_0 rfl rfl ?_
  refine Cv_obj we_551 we_203 we_objcode dX7_init_1 (Nat.le_of_ble_eq_true rfl) (Nat.le_of_ble_eq_true rfl) ?_
  refine Cv_aload 0 dX7_init_4 rfl rfl ?_
  refine Cv_bipush dX7_init_5 rfl ?_
  refine Cv_newi 9 (Nat.le_of_ble_eq_true rfl) (Nat.le_of_ble_eq_true rfl) (Nat.le_of_ble_eq_true rfl) dX7_init_7 rfl (fun n0 => ?_)
  refine Cv_put (k := 2) (fs' := [.null, .null, .ref n0]) cl_X7 (Nat.le_of_ble_eq_true rfl) rfl we_554 rfl rfl (Nat.le_of_ble_eq_true rfl) rfl dX7_init_9 ?_
  refine Cv_aload 0 dX7_init_12 rfl rfl ?_
  refine Cv_aload 1 dX7_init_13 rfl rfl ?_
  refine Cv_put (k := 0) (fs' := [.ref a1, .null, .ref n0]) cl_X7 (Nat.le_of_ble_eq_true rfl) rfl we_552 rfl rfl (Nat.le_of_ble_eq_true rfl) rfl dX7_init_14 ?_
  refine Cv_aload 0 dX7_init_17 rfl rfl ?_
  refine Cv_aload 2 dX7_init_18 rfl rfl ?_
  refine Cv_put (k := 1) (fs' := [.ref a1, .ref a2, .ref n0]) cl_X7 (Nat.le_of_ble_eq_true rfl) rfl we_553 rfl rfl (Nat.le_of_ble_eq_true rfl) rfl dX7_init_19 ?_
  exact Cv_ret rfl dX7_init_22 (Nat.le_of_ble_eq_true rfl) (Nat.le_of_ble_eq_true rfl) ⟨n0, rfl⟩
abbrev fs0_X3 : List Value := [.null, .null, .null, .null, .null, .null, .null, .int (Int32.ofInt 0), .int (Int32.ofInt 0), .int (Int32.ofInt 0), .int (Int32.ofInt 0), .int (Int32.ofInt 0)]
theorem df_X3 : ∀ j, j < 12 → defaultValue (tyX3 j) = vp_V fs0_X3 j := by
  intro j hj
  match j, hj with
  | 0, _ => rfl
  | 1, _ => rfl
  | 2, _ => rfl
  | 3, _ => rfl
  | 4, _ => rfl
  | 5, _ => rfl
  | 6, _ => rfl
  | 7, _ => rfl
  | 8, _ => rfl
  | 9, _ => rfl
  | 10, _ => rfl
  | 11, _ => rfl
  | n + 12, h => exact absurd h (by omega)
abbrev M_X3_init : ev_M := (RX3, cX3_init, 4, none, 0)
theorem cv_cm_X3 : cv_cm ⟨"AngelTown$Foresight", "<init>", "(LAngelTown$Town;LAngelTown$Course;LAngelTown$Play;)V"⟩ M_X3_init 3 := ⟨⟨by decide +kernel, rfl, we_566, we_185, ⟨by decide +kernel, by decide +kernel, by decide +kernel⟩, Nat.le_of_ble_eq_true rfl⟩, rfl, we_565, rfl⟩
def cw_X3 (ct : Nat → ClassId) (h0 : Nat) (a1 a2 a3 : Nat) (w : va_W) : Prop := ∃ q1 q2 q3 q4 q5 q6 q7 q8 q9 q10 q11 q12 q13 q14 q15 : Nat, w = [(h0, .inr (3, [.ref a1, .ref a2, .ref a3, .ref q1, .ref q13, .ref q14, .ref q15, .int (Int32.ofInt 0), .int (Int32.ofInt 0), .int (Int32.ofInt 0), .int (Int32.ofInt 0), .int (Int32.ofInt 0)])), (q1, .inr (2, [.int (Int32.ofInt 0), .int (Int32.ofInt 0), .ref q2, .ref q3, .ref q4, .ref q5, .ref q6, .ref q7, .ref q8, .ref q9, .ref q10, .ref q11, .ref q12, .int (Int32.ofInt 0)])), (q2, .inl (ct 0, 8, .inl (fun _ => Int32.ofInt 0))), (q3, .inl (ct 0, 8, .inl (fun _ => Int32.ofInt 0))), (q4, .inl (ct 0, 8, .inl (fun _ => Int32.ofInt 0))), (q5, .inl (ct 0, 6, .inl (fun _ => Int32.ofInt 0))), (q6, .inl (ct 0, 6, .inl (fun _ => Int32.ofInt 0))), (q7, .inl (ct 0, 6, .inl (fun _ => Int32.ofInt 0))), (q8, .inl (ct 0, 6, .inl (fun _ => Int32.ofInt 0))), (q9, .inl (ct 0, 6, .inl (fun _ => Int32.ofInt 0))), (q10, .inl (ct 0, 10, .inl (fun _ => Int32.ofInt 0))), (q11, .inl (ct 0, 10, .inl (fun _ => Int32.ofInt 0))), (q12, .inl (ct 0, 10, .inl (fun _ => Int32.ofInt 0))), (q13, .inl (ct 0, 10, .inl (fun _ => Int32.ofInt 0))), (q14, .inl (ct 0, 600, .inl (fun _ => Int32.ofInt 0))), (q15, .inl (ct 0, 600, .inl (fun _ => Int32.ofInt 0)))]
set_option maxRecDepth 20000 in
theorem ci_X3 {ct : Nat → ClassId} (h0 : Nat) (a1 a2 a3 : Nat) : Cv ct M_X3_init (cv_rm 2 15 1308) 0 (lv_args 0 [.ref h0, .ref a1, .ref a2, .ref a3]) [] [(h0, .inr (3, fs0_X3))] 0 0 15 1308 (cw_X3 ct h0 a1 a2 a3) := by
  show Cv ct M_X3_init (cv_rm 2 15 1308) 0 [(0, .ref h0), (1, .ref a1), (2, .ref a2), (3, .ref a3)] [] [(h0, .inr (3, fs0_X3))] 0 0 15 1308 _
  refine Cv_aload 0 dX3_init_0 rfl rfl ?_
  refine Cv_obj we_567 we_203 we_objcode dX3_init_1 (Nat.le_of_ble_eq_true rfl) (Nat.le_of_ble_eq_true rfl) ?_
  refine Cv_aload 0 dX3_init_4 rfl rfl ?_
  refine Cv_new (fs := fs0_X2) cl_X2 we_568 we_332 we_178 df_X2 (Nat.le_of_ble_eq_true rfl) (Nat.le_of_ble_eq_true rfl) dX3_init_5 (fun n0 => ?_)
  refine Cv_dup dX3_init_8 rfl ?_
  refine Cv_call (d := 2) (d' := 1) (mc' := 11) (ms' := 84) (h0 := n0) (ci := 2) (As := []) (fs := fs0_X2) cv_cm_X2 (Or.inr ⟨_, we_569⟩) dX3_init_9 (Nat.le_of_ble_eq_true rfl) rfl rfl (Nat.le_of_ble_eq_true rfl) (Nat.le_of_ble_eq_true rfl) (Nat.le_of_ble_eq_true rfl) (Nat.le_of_ble_eq_true rfl) (ci_X2 n0) (fun w1 hw1 => ?_)
  obtain ⟨n0_1, n0_2, n0_3, n0_4, n0_5, n0_6, n0_7, n0_8, n0_9, n0_10, n0_11, rfl⟩ := hw1
  refine Cv_put (k := 3) (fs' := [.null, .null, .null, .ref n0, .null, .null, .null, .int (Int32.ofInt 0), .int (Int32.ofInt 0), .int (Int32.ofInt 0), .int (Int32.ofInt 0), .int (Int32.ofInt 0)]) cl_X3 (Nat.le_of_ble_eq_true rfl) rfl we_573 rfl rfl (Nat.le_of_ble_eq_true rfl) rfl dX3_init_12 ?_
  refine Cv_aload 0 dX3_init_15 rfl rfl ?_
  refine Cv_bipush dX3_init_16 rfl ?_
  refine Cv_newi 10 (Nat.le_of_ble_eq_true rfl) (Nat.le_of_ble_eq_true rfl) (Nat.le_of_ble_eq_true rfl) dX3_init_18 rfl (fun n2 => ?_)
  refine Cv_put (k := 4) (fs' := [.null, .null, .null, .ref n0, .ref n2, .null, .null, .int (Int32.ofInt 0), .int (Int32.ofInt 0), .int (Int32.ofInt 0), .int (Int32.ofInt 0), .int (Int32.ofInt 0)]) cl_X3 (Nat.le_of_ble_eq_true rfl) rfl we_574 rfl rfl (Nat.le_of_ble_eq_true rfl) rfl dX3_init_20 ?_
  refine Cv_aload 0 dX3_init_23 rfl rfl ?_
  refine Cv_sipush dX3_init_24 rfl ?_
  refine Cv_newi 600 (Nat.le_of_ble_eq_true rfl) (Nat.le_of_ble_eq_true rfl) (Nat.le_of_ble_eq_true rfl) dX3_init_27 rfl (fun n3 => ?_)
  refine Cv_put (k := 5) (fs' := [.null, .null, .null, .ref n0, .ref n2, .ref n3, .null, .int (Int32.ofInt 0), .int (Int32.ofInt 0), .int (Int32.ofInt 0), .int (Int32.ofInt 0), .int (Int32.ofInt 0)]) cl_X3 (Nat.le_of_ble_eq_true rfl) rfl we_575 rfl rfl (Nat.le_of_ble_eq_true rfl) rfl dX3_init_29 ?_
  refine Cv_aload 0 dX3_init_32 rfl rfl ?_
  refine Cv_sipush dX3_init_33 rfl ?_
  refine Cv_newi 600 (Nat.le_of_ble_eq_true rfl) (Nat.le_of_ble_eq_true rfl) (Nat.le_of_ble_eq_true rfl) dX3_init_36 rfl (fun n4 => ?_)
  refine Cv_put (k := 6) (fs' := [.null, .null, .null, .ref n0, .ref n2, .ref n3, .ref n4, .int (Int32.ofInt 0), .int (Int32.ofInt 0), .int (Int32.ofInt 0), .int (Int32.ofInt 0), .int (Int32.ofInt 0)]) cl_X3 (Nat.le_of_ble_eq_true rfl) rfl we_576 rfl rfl (Nat.le_of_ble_eq_true rfl) rfl dX3_init_38 ?_
  refine Cv_aload 0 dX3_init_41 rfl rfl ?_
  refine Cv_aload 1 dX3_init_42 rfl rfl ?_
  refine Cv_put (k := 0) (fs' := [.ref a1, .null, .null, .ref n0, .ref n2, .ref n3, .ref n4, .int (Int32.ofInt 0), .int (Int32.ofInt 0), .int (Int32.ofInt 0), .int (Int32.ofInt 0), .int (Int32.ofInt 0)]) cl_X3 (Nat.le_of_ble_eq_true rfl) rfl we_570 rfl rfl (Nat.le_of_ble_eq_true rfl) rfl dX3_init_43 ?_
  refine Cv_aload 0 dX3_init_46 rfl rfl ?_
  refine Cv_aload 2 dX3_init_47 rfl rfl ?_
  refine Cv_put (k := 1) (fs' := [.ref a1, .ref a2, .null, .ref n0, .ref n2, .ref n3, .ref n4, .int (Int32.ofInt 0), .int (Int32.ofInt 0), .int (Int32.ofInt 0), .int (Int32.ofInt 0), .int (Int32.ofInt 0)]) cl_X3 (Nat.le_of_ble_eq_true rfl) rfl we_571 rfl rfl (Nat.le_of_ble_eq_true rfl) rfl dX3_init_48 ?_
  refine Cv_aload 0 dX3_init_51 rfl rfl ?_
  refine Cv_aload 3 dX3_init_52 rfl rfl ?_
  refine Cv_put (k := 2) (fs' := [.ref a1, .ref a2, .ref a3, .ref n0, .ref n2, .ref n3, .ref n4, .int (Int32.ofInt 0), .int (Int32.ofInt 0), .int (Int32.ofInt 0), .int (Int32.ofInt 0), .int (Int32.ofInt 0)]) cl_X3 (Nat.le_of_ble_eq_true rfl) rfl we_572 rfl rfl (Nat.le_of_ble_eq_true rfl) rfl dX3_init_53 ?_
  exact Cv_ret rfl dX3_init_56 (Nat.le_of_ble_eq_true rfl) (Nat.le_of_ble_eq_true rfl) ⟨n0, n0_1, n0_2, n0_3, n0_4, n0_5, n0_6, n0_7, n0_8, n0_9, n0_10, n0_11, n2, n3, n4, rfl⟩
abbrev fs0_X1 : List Value := [.null, .null, .null, .int (Int32.ofInt 0), .null, .null, .null, .null, .null, .null, .null, .null, .null, .null, .null, .null, .null, .int (Int32.ofInt 0), .int (Int32.ofInt 0), .int (Int32.ofInt 0)]
theorem df_X1 : ∀ j, j < 20 → defaultValue (tyX1 j) = vp_V fs0_X1 j := by
  intro j hj
  match j, hj with
  | 0, _ => rfl
  | 1, _ => rfl
  | 2, _ => rfl
  | 3, _ => rfl
  | 4, _ => rfl
  | 5, _ => rfl
  | 6, _ => rfl
  | 7, _ => rfl
  | 8, _ => rfl
  | 9, _ => rfl
  | 10, _ => rfl
  | 11, _ => rfl
  | 12, _ => rfl
  | 13, _ => rfl
  | 14, _ => rfl
  | 15, _ => rfl
  | 16, _ => rfl
  | 17, _ => rfl
  | 18, _ => rfl
  | 19, _ => rfl
  | n + 20, h => exact absurd h (by omega)
abbrev M_X1_init : ev_M := (RX1, cX1_init, 4, none, 0)
theorem cv_cm_X1 : cv_cm ⟨"AngelTown$Care", "<init>", "(LAngelTown$Town;LAngelTown$Course;LAngelTown$Foresight;)V"⟩ M_X1_init 3 := ⟨⟨by decide +kernel, rfl, we_616, we_186, ⟨by decide +kernel, by decide +kernel, by decide +kernel⟩, Nat.le_of_ble_eq_true rfl⟩, rfl, we_615, rfl⟩
def cw_X1 (ct : Nat → ClassId) (h0 : Nat) (a1 a2 a3 : Nat) (w : va_W) : Prop := ∃ q1 q2 q3 q4 q5 q6 q7 q8 q9 q10 q11 q12 q13 : Nat, w = [(h0, .inr (1, [.ref a1, .ref a2, .ref a3, .int (Int32.ofInt 0), .ref q1, .ref q2, .ref q3, .ref q4, .ref q5, .ref q6, .ref q7, .ref q8, .ref q9, .ref q10, .ref q11, .ref q12, .ref q13, .int (Int32.ofInt 0), .int (Int32.ofInt 0), .int (Int32.ofInt 0)])), (q1, .inl (ct 0, 10, .inl (fun _ => Int32.ofInt 0))), (q2, .inl (ct 0, 10, .inl (fun _ => Int32.ofInt 0))), (q3, .inl (ct 0, 100, .inl (fun _ => Int32.ofInt 0))), (q4, .inl (ct 0, 1024, .inl (fun _ => Int32.ofInt 0))), (q5, .inl (ct 0, 6, .inl (fun _ => Int32.ofInt 0))), (q6, .inl (ct 0, 192, .inl (fun _ => Int32.ofInt 0))), (q7, .inl (ct 0, 2048, .inl (fun _ => Int32.ofInt 0))), (q8, .inl (ct 0, 1512, .inl (fun _ => Int32.ofInt 0))), (q9, .inl (ct 0, 6, .inl (fun _ => Int32.ofInt 0))), (q10, .inl (ct 0, 64, .inl (fun _ => Int32.ofInt 0))), (q11, .inl (ct 0, 10240, .inl (fun _ => Int32.ofInt 0))), (q12, .inl (ct 0, 6, .inl (fun _ => Int32.ofInt 0))), (q13, .inl (ct 0, 6, .inl (fun _ => Int32.ofInt 0)))]
set_option maxRecDepth 20000 in
theorem ci_X1 {ct : Nat → ClassId} (h0 : Nat) (a1 a2 a3 : Nat) : Cv ct M_X1_init (cv_rm 1 13 15224) 0 (lv_args 0 [.ref h0, .ref a1, .ref a2, .ref a3]) [] [(h0, .inr (1, fs0_X1))] 0 0 13 15224 (cw_X1 ct h0 a1 a2 a3) := by
  show Cv ct M_X1_init (cv_rm 1 13 15224) 0 [(0, .ref h0), (1, .ref a1), (2, .ref a2), (3, .ref a3)] [] [(h0, .inr (1, fs0_X1))] 0 0 13 15224 _
  refine Cv_aload 0 dX1_init_0 rfl rfl ?_
  refine Cv_obj we_617 we_203 we_objcode dX1_init_1 (Nat.le_of_ble_eq_true rfl) (Nat.le_of_ble_eq_true rfl) ?_
  refine Cv_aload 0 dX1_init_4 rfl rfl ?_
  refine Cv_bipush dX1_init_5 rfl ?_
  refine Cv_newi 10 (Nat.le_of_ble_eq_true rfl) (Nat.le_of_ble_eq_true rfl) (Nat.le_of_ble_eq_true rfl) dX1_init_7 rfl (fun n0 => ?_)
  refine Cv_put (k := 4) (fs' := [.null, .null, .null, .int (Int32.ofInt 0), .ref n0, .null, .null, .null, .null, .null, .null, .null, .null, .null, .null, .null, .null, .int (Int32.ofInt 0), .int (Int32.ofInt 0), .int (Int32.ofInt 0)]) cl_X1 (Nat.le_of_ble_eq_true rfl) rfl we_622 rfl rfl (Nat.le_of_ble_eq_true rfl) rfl dX1_init_9 ?_
  refine Cv_aload 0 dX1_init_12 rfl rfl ?_
  refine Cv_bipush dX1_init_13 rfl ?_
  refine Cv_newi 10 (Nat.le_of_ble_eq_true rfl) (Nat.le_of_ble_eq_true rfl) (Nat.le_of_ble_eq_true rfl) dX1_init_15 rfl (fun n1 => ?_)
  refine Cv_put (k := 5) (fs' := [.null, .null, .null, .int (Int32.ofInt 0), .ref n0, .ref n1, .null, .null, .null, .null, .null, .null, .null, .null, .null, .null, .null, .int (Int32.ofInt 0), .int (Int32.ofInt 0), .int (Int32.ofInt 0)]) cl_X1 (Nat.le_of_ble_eq_true rfl) rfl we_623 rfl rfl (Nat.le_of_ble_eq_true rfl) rfl dX1_init_17 ?_
  refine Cv_aload 0 dX1_init_20 rfl rfl ?_
  refine Cv_bipush dX1_init_21 rfl ?_
  refine Cv_newi 100 (Nat.le_of_ble_eq_true rfl) (Nat.le_of_ble_eq_true rfl) (Nat.le_of_ble_eq_true rfl) dX1_init_23 rfl (fun n2 => ?_)
  refine Cv_put (k := 6) (fs' := [.null, .null, .null, .int (Int32.ofInt 0), .ref n0, .ref n1, .ref n2, .null, .null, .null, .null, .null, .null, .null, .null, .null, .null, .int (Int32.ofInt 0), .int (Int32.ofInt 0), .int (Int32.ofInt 0)]) cl_X1 (Nat.le_of_ble_eq_true rfl) rfl we_624 rfl rfl (Nat.le_of_ble_eq_true rfl) rfl dX1_init_25 ?_
  refine Cv_aload 0 dX1_init_28 rfl rfl ?_
  refine Cv_sipush dX1_init_29 rfl ?_
  refine Cv_newi 1024 (Nat.le_of_ble_eq_true rfl) (Nat.le_of_ble_eq_true rfl) (Nat.le_of_ble_eq_true rfl) dX1_init_32 rfl (fun n3 => ?_)
  refine Cv_put (k := 7) (fs' := [.null, .null, .null, .int (Int32.ofInt 0), .ref n0, .ref n1, .ref n2, .ref n3, .null, .null, .null, .null, .null, .null, .null, .null, .null, .int (Int32.ofInt 0), .int (Int32.ofInt 0), .int (Int32.ofInt 0)]) cl_X1 (Nat.le_of_ble_eq_true rfl) rfl we_625 rfl rfl (Nat.le_of_ble_eq_true rfl) rfl dX1_init_34 ?_
  refine Cv_aload 0 dX1_init_37 rfl rfl ?_
  refine Cv_bipush dX1_init_38 rfl ?_
  refine Cv_newi 6 (Nat.le_of_ble_eq_true rfl) (Nat.le_of_ble_eq_true rfl) (Nat.le_of_ble_eq_true rfl) dX1_init_40 rfl (fun n4 => ?_)
  refine Cv_put (k := 8) (fs' := [.null, .null, .null, .int (Int32.ofInt 0), .ref n0, .ref n1, .ref n2, .ref n3, .ref n4, .null, .null, .null, .null, .null, .null, .null, .null, .int (Int32.ofInt 0), .int (Int32.ofInt 0), .int (Int32.ofInt 0)]) cl_X1 (Nat.le_of_ble_eq_true rfl) rfl we_626 rfl rfl (Nat.le_of_ble_eq_true rfl) rfl dX1_init_42 ?_
  refine Cv_aload 0 dX1_init_45 rfl rfl ?_
  refine Cv_sipush dX1_init_46 rfl ?_
  refine Cv_newi 192 (Nat.le_of_ble_eq_true rfl) (Nat.le_of_ble_eq_true rfl) (Nat.le_of_ble_eq_true rfl) dX1_init_49 rfl (fun n5 => ?_)
  refine Cv_put (k := 9) (fs' := [.null, .null, .null, .int (Int32.ofInt 0), .ref n0, .ref n1, .ref n2, .ref n3, .ref n4, .ref n5, .null, .null, .null, .null, .null, .null, .null, .int (Int32.ofInt 0), .int (Int32.ofInt 0), .int (Int32.ofInt 0)]) cl_X1 (Nat.le_of_ble_eq_true rfl) rfl we_627 rfl rfl (Nat.le_of_ble_eq_true rfl) rfl dX1_init_51 ?_
  refine Cv_aload 0 dX1_init_54 rfl rfl ?_
  refine Cv_sipush dX1_init_55 rfl ?_
  refine Cv_newi 2048 (Nat.le_of_ble_eq_true rfl) (Nat.le_of_ble_eq_true rfl) (Nat.le_of_ble_eq_true rfl) dX1_init_58 rfl (fun n6 => ?_)
  refine Cv_put (k := 10) (fs' := [.null, .null, .null, .int (Int32.ofInt 0), .ref n0, .ref n1, .ref n2, .ref n3, .ref n4, .ref n5, .ref n6, .null, .null, .null, .null, .null, .null, .int (Int32.ofInt 0), .int (Int32.ofInt 0), .int (Int32.ofInt 0)]) cl_X1 (Nat.le_of_ble_eq_true rfl) rfl we_628 rfl rfl (Nat.le_of_ble_eq_true rfl) rfl dX1_init_60 ?_
  refine Cv_aload 0 dX1_init_63 rfl rfl ?_
  refine Cv_sipush dX1_init_64 rfl ?_
  refine Cv_newi 1512 (Nat.le_of_ble_eq_true rfl) (Nat.le_of_ble_eq_true rfl) (Nat.le_of_ble_eq_true rfl) dX1_init_67 rfl (fun n7 => ?_)
  refine Cv_put (k := 11) (fs' := [.null, .null, .null, .int (Int32.ofInt 0), .ref n0, .ref n1, .ref n2, .ref n3, .ref n4, .ref n5, .ref n6, .ref n7, .null, .null, .null, .null, .null, .int (Int32.ofInt 0), .int (Int32.ofInt 0), .int (Int32.ofInt 0)]) cl_X1 (Nat.le_of_ble_eq_true rfl) rfl we_629 rfl rfl (Nat.le_of_ble_eq_true rfl) rfl dX1_init_69 ?_
  refine Cv_aload 0 dX1_init_72 rfl rfl ?_
  refine Cv_bipush dX1_init_73 rfl ?_
  refine Cv_newi 6 (Nat.le_of_ble_eq_true rfl) (Nat.le_of_ble_eq_true rfl) (Nat.le_of_ble_eq_true rfl) dX1_init_75 rfl (fun n8 => ?_)
  refine Cv_put (k := 12) (fs' := [.null, .null, .null, .int (Int32.ofInt 0), .ref n0, .ref n1, .ref n2, .ref n3, .ref n4, .ref n5, .ref n6, .ref n7, .ref n8, .null, .null, .null, .null, .int (Int32.ofInt 0), .int (Int32.ofInt 0), .int (Int32.ofInt 0)]) cl_X1 (Nat.le_of_ble_eq_true rfl) rfl we_630 rfl rfl (Nat.le_of_ble_eq_true rfl) rfl dX1_init_77 ?_
  refine Cv_aload 0 dX1_init_80 rfl rfl ?_
  refine Cv_bipush dX1_init_81 rfl ?_
  refine Cv_newi 64 (Nat.le_of_ble_eq_true rfl) (Nat.le_of_ble_eq_true rfl) (Nat.le_of_ble_eq_true rfl) dX1_init_83 rfl (fun n9 => ?_)
  refine Cv_put (k := 13) (fs' := [.null, .null, .null, .int (Int32.ofInt 0), .ref n0, .ref n1, .ref n2, .ref n3, .ref n4, .ref n5, .ref n6, .ref n7, .ref n8, .ref n9, .null, .null, .null, .int (Int32.ofInt 0), .int (Int32.ofInt 0), .int (Int32.ofInt 0)]) cl_X1 (Nat.le_of_ble_eq_true rfl) rfl we_631 rfl rfl (Nat.le_of_ble_eq_true rfl) rfl dX1_init_85 ?_
  refine Cv_aload 0 dX1_init_88 rfl rfl ?_
  refine Cv_sipush dX1_init_89 rfl ?_
  refine Cv_newi 10240 (Nat.le_of_ble_eq_true rfl) (Nat.le_of_ble_eq_true rfl) (Nat.le_of_ble_eq_true rfl) dX1_init_92 rfl (fun n10 => ?_)
  refine Cv_put (k := 14) (fs' := [.null, .null, .null, .int (Int32.ofInt 0), .ref n0, .ref n1, .ref n2, .ref n3, .ref n4, .ref n5, .ref n6, .ref n7, .ref n8, .ref n9, .ref n10, .null, .null, .int (Int32.ofInt 0), .int (Int32.ofInt 0), .int (Int32.ofInt 0)]) cl_X1 (Nat.le_of_ble_eq_true rfl) rfl we_632 rfl rfl (Nat.le_of_ble_eq_true rfl) rfl dX1_init_94 ?_
  refine Cv_aload 0 dX1_init_97 rfl rfl ?_
  refine Cv_bipush dX1_init_98 rfl ?_
  refine Cv_newi 6 (Nat.le_of_ble_eq_true rfl) (Nat.le_of_ble_eq_true rfl) (Nat.le_of_ble_eq_true rfl) dX1_init_100 rfl (fun n11 => ?_)
  refine Cv_put (k := 15) (fs' := [.null, .null, .null, .int (Int32.ofInt 0), .ref n0, .ref n1, .ref n2, .ref n3, .ref n4, .ref n5, .ref n6, .ref n7, .ref n8, .ref n9, .ref n10, .ref n11, .null, .int (Int32.ofInt 0), .int (Int32.ofInt 0), .int (Int32.ofInt 0)]) cl_X1 (Nat.le_of_ble_eq_true rfl) rfl we_633 rfl rfl (Nat.le_of_ble_eq_true rfl) rfl dX1_init_102 ?_
  refine Cv_aload 0 dX1_init_105 rfl rfl ?_
  refine Cv_bipush dX1_init_106 rfl ?_
  refine Cv_newi 6 (Nat.le_of_ble_eq_true rfl) (Nat.le_of_ble_eq_true rfl) (Nat.le_of_ble_eq_true rfl) dX1_init_108 rfl (fun n12 => ?_)
  refine Cv_put (k := 16) (fs' := [.null, .null, .null, .int (Int32.ofInt 0), .ref n0, .ref n1, .ref n2, .ref n3, .ref n4, .ref n5, .ref n6, .ref n7, .ref n8, .ref n9, .ref n10, .ref n11, .ref n12, .int (Int32.ofInt 0), .int (Int32.ofInt 0), .int (Int32.ofInt 0)]) cl_X1 (Nat.le_of_ble_eq_true rfl) rfl we_634 rfl rfl (Nat.le_of_ble_eq_true rfl) rfl dX1_init_110 ?_
  refine Cv_aload 0 dX1_init_113 rfl rfl ?_
  refine Cv_aload 1 dX1_init_114 rfl rfl ?_
  refine Cv_put (k := 0) (fs' := [.ref a1, .null, .null, .int (Int32.ofInt 0), .ref n0, .ref n1, .ref n2, .ref n3, .ref n4, .ref n5, .ref n6, .ref n7, .ref n8, .ref n9, .ref n10, .ref n11, .ref n12, .int (Int32.ofInt 0), .int (Int32.ofInt 0), .int (Int32.ofInt 0)]) cl_X1 (Nat.le_of_ble_eq_true rfl) rfl we_618 rfl rfl (Nat.le_of_ble_eq_true rfl) rfl dX1_init_115 ?_
  refine Cv_aload 0 dX1_init_118 rfl rfl ?_
  refine Cv_aload 2 dX1_init_119 rfl rfl ?_
  refine Cv_put (k := 1) (fs' := [.ref a1, .ref a2, .null, .int (Int32.ofInt 0), .ref n0, .ref n1, .ref n2, .ref n3, .ref n4, .ref n5, .ref n6, .ref n7, .ref n8, .ref n9, .ref n10, .ref n11, .ref n12, .int (Int32.ofInt 0), .int (Int32.ofInt 0), .int (Int32.ofInt 0)]) cl_X1 (Nat.le_of_ble_eq_true rfl) rfl we_619 rfl rfl (Nat.le_of_ble_eq_true rfl) rfl dX1_init_120 ?_
  refine Cv_aload 0 dX1_init_123 rfl rfl ?_
  refine Cv_aload 3 dX1_init_124 rfl rfl ?_
  refine Cv_put (k := 2) (fs' := [.ref a1, .ref a2, .ref a3, .int (Int32.ofInt 0), .ref n0, .ref n1, .ref n2, .ref n3, .ref n4, .ref n5, .ref n6, .ref n7, .ref n8, .ref n9, .ref n10, .ref n11, .ref n12, .int (Int32.ofInt 0), .int (Int32.ofInt 0), .int (Int32.ofInt 0)]) cl_X1 (Nat.le_of_ble_eq_true rfl) rfl we_620 rfl rfl (Nat.le_of_ble_eq_true rfl) rfl dX1_init_125 ?_
  exact Cv_ret rfl dX1_init_128 (Nat.le_of_ble_eq_true rfl) (Nat.le_of_ble_eq_true rfl) ⟨n0, n1, n2, n3, n4, n5, n6, n7, n8, n9, n10, n11, n12, rfl⟩
end
