section
theorem wl_731 : Cond.methodLink "AngelTownLaw" 13 ⟨"AngelTown", "state", "(I)I"⟩ ∈ lw_tbl := tb_3 (List.mem_of_getElem? (i := 77) (by decide +kernel))
theorem wl_732 : Cond.instanceMethod ⟨"AngelTown", "state", "(I)I"⟩ ∈ lw_tbl := tb_3 (List.mem_of_getElem? (i := 78) (by decide +kernel))
theorem wl_733 : Cond.selects "AngelTown" ⟨"AngelTown", "state", "(I)I"⟩ ⟨"AngelTown", "state", "(I)I"⟩ ∈ lw_tbl := tb_3 (List.mem_of_getElem? (i := 79) (by decide +kernel))
theorem wl_743 : Cond.methodLink "AngelTownLaw" 18 ⟨"AngelTown", "town", "(II)Z"⟩ ∈ lw_tbl := tb_3 (List.mem_of_getElem? (i := 89) (by decide +kernel))
theorem wl_744 : Cond.instanceMethod ⟨"AngelTown", "town", "(II)Z"⟩ ∈ lw_tbl := tb_3 (List.mem_of_getElem? (i := 90) (by decide +kernel))
theorem wl_745 : Cond.selects "AngelTown" ⟨"AngelTown", "town", "(II)Z"⟩ ⟨"AngelTown", "town", "(II)Z"⟩ ∈ lw_tbl := tb_3 (List.mem_of_getElem? (i := 91) (by decide +kernel))
theorem wl_747 : Cond.methodLink "AngelTownLaw" 23 ⟨"AngelTown", "set", "(III)Z"⟩ ∈ lw_tbl := tb_3 (List.mem_of_getElem? (i := 93) (by decide +kernel))
theorem wl_748 : Cond.instanceMethod ⟨"AngelTown", "set", "(III)Z"⟩ ∈ lw_tbl := tb_3 (List.mem_of_getElem? (i := 94) (by decide +kernel))
theorem wl_749 : Cond.selects "AngelTown" ⟨"AngelTown", "set", "(III)Z"⟩ ⟨"AngelTown", "set", "(III)Z"⟩ ∈ lw_tbl := tb_3 (List.mem_of_getElem? (i := 95) (by decide +kernel))
theorem wl_755 : Cond.methodLink "AngelTownLaw" 28 ⟨"AngelTown", "ward", "(I)I"⟩ ∈ lw_tbl := tb_3 (List.mem_of_getElem? (i := 101) (by decide +kernel))
theorem wl_756 : Cond.instanceMethod ⟨"AngelTown", "ward", "(I)I"⟩ ∈ lw_tbl := tb_3 (List.mem_of_getElem? (i := 102) (by decide +kernel))
theorem wl_757 : Cond.selects "AngelTown" ⟨"AngelTown", "ward", "(I)I"⟩ ⟨"AngelTown", "ward", "(I)I"⟩ ∈ lw_tbl := tb_3 (List.mem_of_getElem? (i := 103) (by decide +kernel))
theorem wl_763 : Cond.methodLink "AngelTownLaw" 32 ⟨"AngelTown", "angel", "(II)I"⟩ ∈ lw_tbl := tb_3 (List.mem_of_getElem? (i := 109) (by decide +kernel))
theorem wl_764 : Cond.instanceMethod ⟨"AngelTown", "angel", "(II)I"⟩ ∈ lw_tbl := tb_3 (List.mem_of_getElem? (i := 110) (by decide +kernel))
theorem wl_765 : Cond.selects "AngelTown" ⟨"AngelTown", "angel", "(II)I"⟩ ⟨"AngelTown", "angel", "(II)I"⟩ ∈ lw_tbl := tb_3 (List.mem_of_getElem? (i := 111) (by decide +kernel))
theorem wl_767 : Cond.methodLink "AngelTownLaw" 37 ⟨"AngelTown", "other", "(III)I"⟩ ∈ lw_tbl := tb_3 (List.mem_of_getElem? (i := 113) (by decide +kernel))
theorem wl_768 : Cond.instanceMethod ⟨"AngelTown", "other", "(III)I"⟩ ∈ lw_tbl := tb_3 (List.mem_of_getElem? (i := 114) (by decide +kernel))
theorem wl_769 : Cond.selects "AngelTown" ⟨"AngelTown", "other", "(III)I"⟩ ⟨"AngelTown", "other", "(III)I"⟩ ∈ lw_tbl := tb_3 (List.mem_of_getElem? (i := 115) (by decide +kernel))
theorem wl_771 : Cond.methodLink "AngelTownLaw" 42 ⟨"AngelTown", "feed", "(IIIII)I"⟩ ∈ lw_tbl := tb_3 (List.mem_of_getElem? (i := 117) (by decide +kernel))
theorem wl_772 : Cond.instanceMethod ⟨"AngelTown", "feed", "(IIIII)I"⟩ ∈ lw_tbl := tb_3 (List.mem_of_getElem? (i := 118) (by decide +kernel))
theorem wl_773 : Cond.selects "AngelTown" ⟨"AngelTown", "feed", "(IIIII)I"⟩ ⟨"AngelTown", "feed", "(IIIII)I"⟩ ∈ lw_tbl := tb_3 (List.mem_of_getElem? (i := 119) (by decide +kernel))
theorem wl_779 : Cond.methodLink "AngelTownLaw" 47 ⟨"AngelTown", "end", "(I)Z"⟩ ∈ lw_tbl := tb_3 (List.mem_of_getElem? (i := 125) (by decide +kernel))
theorem wl_780 : Cond.instanceMethod ⟨"AngelTown", "end", "(I)Z"⟩ ∈ lw_tbl := tb_3 (List.mem_of_getElem? (i := 126) (by decide +kernel))
theorem wl_781 : Cond.selects "AngelTown" ⟨"AngelTown", "end", "(I)Z"⟩ ⟨"AngelTown", "end", "(I)Z"⟩ ∈ lw_tbl := tb_3 (List.mem_of_getElem? (i := 127) (by decide +kernel))
theorem wl_783 : Cond.methodLink "AngelTownLaw" 52 ⟨"AngelTown", "text", "(II)I"⟩ ∈ lw_tbl := tb_3 (List.mem_of_getElem? (i := 129) (by decide +kernel))
theorem wl_784 : Cond.instanceMethod ⟨"AngelTown", "text", "(II)I"⟩ ∈ lw_tbl := tb_3 (List.mem_of_getElem? (i := 130) (by decide +kernel))
theorem wl_785 : Cond.selects "AngelTown" ⟨"AngelTown", "text", "(II)I"⟩ ⟨"AngelTown", "text", "(II)I"⟩ ∈ lw_tbl := tb_3 (List.mem_of_getElem? (i := 131) (by decide +kernel))
theorem wl_1046 : Cond.methodLink "AngelTownLaw" 56 ⟨"AngelTown", "fault", "(I)I"⟩ ∈ lw_tbl := tb_4 (List.mem_of_getElem? (i := 152) (by decide +kernel))
theorem wl_1047 : Cond.instanceMethod ⟨"AngelTown", "fault", "(I)I"⟩ ∈ lw_tbl := tb_4 (List.mem_of_getElem? (i := 153) (by decide +kernel))
theorem wl_1048 : Cond.selects "AngelTown" ⟨"AngelTown", "fault", "(I)I"⟩ ⟨"AngelTown", "fault", "(I)I"⟩ ∈ lw_tbl := tb_4 (List.mem_of_getElem? (i := 154) (by decide +kernel))
theorem wl_1050 : Cond.methodLink "AngelTownLaw" 60 ⟨"AngelTown", "seconds", "(I)I"⟩ ∈ lw_tbl := tb_4 (List.mem_of_getElem? (i := 156) (by decide +kernel))
theorem wl_1051 : Cond.instanceMethod ⟨"AngelTown", "seconds", "(I)I"⟩ ∈ lw_tbl := tb_4 (List.mem_of_getElem? (i := 157) (by decide +kernel))
theorem wl_1052 : Cond.selects "AngelTown" ⟨"AngelTown", "seconds", "(I)I"⟩ ⟨"AngelTown", "seconds", "(I)I"⟩ ∈ lw_tbl := tb_4 (List.mem_of_getElem? (i := 158) (by decide +kernel))
theorem wl_1140 : Cond.methodLink "AngelTownLaw" 64 ⟨"AngelTown", "of", "(II)I"⟩ ∈ lw_tbl := tb_5 (List.mem_of_getElem? (i := 6) (by decide +kernel))
theorem wl_1141 : Cond.instanceMethod ⟨"AngelTown", "of", "(II)I"⟩ ∈ lw_tbl := tb_5 (List.mem_of_getElem? (i := 7) (by decide +kernel))
theorem wl_1142 : Cond.selects "AngelTown" ⟨"AngelTown", "of", "(II)I"⟩ ⟨"AngelTown", "of", "(II)I"⟩ ∈ lw_tbl := tb_5 (List.mem_of_getElem? (i := 8) (by decide +kernel))
theorem wl_1144 : Cond.methodLink "AngelTownLaw" 68 ⟨"AngelTown", "at", "(II)I"⟩ ∈ lw_tbl := tb_5 (List.mem_of_getElem? (i := 10) (by decide +kernel))
theorem wl_1145 : Cond.instanceMethod ⟨"AngelTown", "at", "(II)I"⟩ ∈ lw_tbl := tb_5 (List.mem_of_getElem? (i := 11) (by decide +kernel))
theorem wl_1146 : Cond.selects "AngelTown" ⟨"AngelTown", "at", "(II)I"⟩ ⟨"AngelTown", "at", "(II)I"⟩ ∈ lw_tbl := tb_5 (List.mem_of_getElem? (i := 12) (by decide +kernel))
theorem wl_1268 : Cond.methodLink "AngelTownLaw" 72 ⟨"AngelTown", "mishap", "(II)I"⟩ ∈ lw_tbl := tb_5 (List.mem_of_getElem? (i := 134) (by decide +kernel))
theorem wl_1269 : Cond.instanceMethod ⟨"AngelTown", "mishap", "(II)I"⟩ ∈ lw_tbl := tb_5 (List.mem_of_getElem? (i := 135) (by decide +kernel))
theorem wl_1270 : Cond.selects "AngelTown" ⟨"AngelTown", "mishap", "(II)I"⟩ ⟨"AngelTown", "mishap", "(II)I"⟩ ∈ lw_tbl := tb_5 (List.mem_of_getElem? (i := 136) (by decide +kernel))
theorem wl_1281 : Cond.methodLink "AngelTownLaw" 76 ⟨"AngelTown", "book", "(II)I"⟩ ∈ lw_tbl := tb_5 (List.mem_of_getElem? (i := 147) (by decide +kernel))
theorem wl_1282 : Cond.instanceMethod ⟨"AngelTown", "book", "(II)I"⟩ ∈ lw_tbl := tb_5 (List.mem_of_getElem? (i := 148) (by decide +kernel))
theorem wl_1283 : Cond.selects "AngelTown" ⟨"AngelTown", "book", "(II)I"⟩ ⟨"AngelTown", "book", "(II)I"⟩ ∈ lw_tbl := tb_5 (List.mem_of_getElem? (i := 149) (by decide +kernel))
theorem wl_1289 : Cond.methodLink "AngelTownLaw" 80 ⟨"AngelTown", "planned", "(I)I"⟩ ∈ lw_tbl := tb_5 (List.mem_of_getElem? (i := 155) (by decide +kernel))
theorem wl_1290 : Cond.instanceMethod ⟨"AngelTown", "planned", "(I)I"⟩ ∈ lw_tbl := tb_5 (List.mem_of_getElem? (i := 156) (by decide +kernel))
theorem wl_1291 : Cond.selects "AngelTown" ⟨"AngelTown", "planned", "(I)I"⟩ ⟨"AngelTown", "planned", "(I)I"⟩ ∈ lw_tbl := tb_5 (List.mem_of_getElem? (i := 157) (by decide +kernel))
theorem wl_1298 : Cond.methodLink "AngelTownLaw" 84 ⟨"AngelTown", "least", "(I)I"⟩ ∈ lw_tbl := tb_5 (List.mem_of_getElem? (i := 164) (by decide +kernel))
theorem wl_1299 : Cond.instanceMethod ⟨"AngelTown", "least", "(I)I"⟩ ∈ lw_tbl := tb_5 (List.mem_of_getElem? (i := 165) (by decide +kernel))
theorem wl_1300 : Cond.selects "AngelTown" ⟨"AngelTown", "least", "(I)I"⟩ ⟨"AngelTown", "least", "(I)I"⟩ ∈ lw_tbl := tb_5 (List.mem_of_getElem? (i := 166) (by decide +kernel))
theorem wl_1331 : Cond.methodLink "AngelTownLaw" 88 ⟨"AngelTown", "fewest", "(I)I"⟩ ∈ lw_tbl := tb_5 (List.mem_of_getElem? (i := 197) (by decide +kernel))
theorem wl_1332 : Cond.instanceMethod ⟨"AngelTown", "fewest", "(I)I"⟩ ∈ lw_tbl := tb_5 (List.mem_of_getElem? (i := 198) (by decide +kernel))
theorem wl_1333 : Cond.selects "AngelTown" ⟨"AngelTown", "fewest", "(I)I"⟩ ⟨"AngelTown", "fewest", "(I)I"⟩ ∈ lw_tbl := tb_5 (List.mem_of_getElem? (i := 199) (by decide +kernel))
theorem wl_1354 : Cond.methodLink "AngelTownLaw" 92 ⟨"AngelTown", "hopeless", "()I"⟩ ∈ lw_tbl := tb_5 (List.mem_of_getElem? (i := 220) (by decide +kernel))
theorem wl_1355 : Cond.instanceMethod ⟨"AngelTown", "hopeless", "()I"⟩ ∈ lw_tbl := tb_5 (List.mem_of_getElem? (i := 221) (by decide +kernel))
theorem wl_1356 : Cond.selects "AngelTown" ⟨"AngelTown", "hopeless", "()I"⟩ ⟨"AngelTown", "hopeless", "()I"⟩ ∈ lw_tbl := tb_5 (List.mem_of_getElem? (i := 222) (by decide +kernel))
theorem wl_1364 : Cond.methodLink "AngelTownLaw" 97 ⟨"AngelTown", "shows", "()I"⟩ ∈ lw_tbl := tb_5 (List.mem_of_getElem? (i := 230) (by decide +kernel))
theorem wl_1365 : Cond.instanceMethod ⟨"AngelTown", "shows", "()I"⟩ ∈ lw_tbl := tb_5 (List.mem_of_getElem? (i := 231) (by decide +kernel))
theorem wl_1366 : Cond.selects "AngelTown" ⟨"AngelTown", "shows", "()I"⟩ ⟨"AngelTown", "shows", "()I"⟩ ∈ lw_tbl := tb_5 (List.mem_of_getElem? (i := 232) (by decide +kernel))
theorem wl_1368 : Cond.methodLink "AngelTownLaw" 101 ⟨"AngelTown", "lot", "(II)J"⟩ ∈ lw_tbl := tb_5 (List.mem_of_getElem? (i := 234) (by decide +kernel))
theorem wl_1369 : Cond.instanceMethod ⟨"AngelTown", "lot", "(II)J"⟩ ∈ lw_tbl := tb_5 (List.mem_of_getElem? (i := 235) (by decide +kernel))
theorem wl_1370 : Cond.selects "AngelTown" ⟨"AngelTown", "lot", "(II)J"⟩ ⟨"AngelTown", "lot", "(II)J"⟩ ∈ lw_tbl := tb_5 (List.mem_of_getElem? (i := 236) (by decide +kernel))
theorem wl_1380 : Cond.methodLink "AngelTownLaw" 106 ⟨"AngelTown", "near", "(III)I"⟩ ∈ lw_tbl := tb_6 (List.mem_of_getElem? (i := 6) (by decide +kernel))
theorem wl_1381 : Cond.instanceMethod ⟨"AngelTown", "near", "(III)I"⟩ ∈ lw_tbl := tb_6 (List.mem_of_getElem? (i := 7) (by decide +kernel))
theorem wl_1382 : Cond.selects "AngelTown" ⟨"AngelTown", "near", "(III)I"⟩ ⟨"AngelTown", "near", "(III)I"⟩ ∈ lw_tbl := tb_6 (List.mem_of_getElem? (i := 8) (by decide +kernel))
theorem wl_1393 : Cond.methodLink "AngelTownLaw" 110 ⟨"AngelTown", "undo", "()Z"⟩ ∈ lw_tbl := tb_6 (List.mem_of_getElem? (i := 19) (by decide +kernel))
theorem wl_1394 : Cond.instanceMethod ⟨"AngelTown", "undo", "()Z"⟩ ∈ lw_tbl := tb_6 (List.mem_of_getElem? (i := 20) (by decide +kernel))
theorem wl_1395 : Cond.selects "AngelTown" ⟨"AngelTown", "undo", "()Z"⟩ ⟨"AngelTown", "undo", "()Z"⟩ ∈ lw_tbl := tb_6 (List.mem_of_getElem? (i := 21) (by decide +kernel))
theorem wl_1401 : Cond.methodLink "AngelTownLaw" 115 ⟨"AngelTown", "image", "(Z)Z"⟩ ∈ lw_tbl := tb_6 (List.mem_of_getElem? (i := 27) (by decide +kernel))
theorem wl_1402 : Cond.instanceMethod ⟨"AngelTown", "image", "(Z)Z"⟩ ∈ lw_tbl := tb_6 (List.mem_of_getElem? (i := 28) (by decide +kernel))
theorem wl_1403 : Cond.selects "AngelTown" ⟨"AngelTown", "image", "(Z)Z"⟩ ⟨"AngelTown", "image", "(Z)Z"⟩ ∈ lw_tbl := tb_6 (List.mem_of_getElem? (i := 29) (by decide +kernel))
theorem wl_1425 : Cond.methodLink "AngelTownLaw" 120 ⟨"AngelTown", "look", "(I)I"⟩ ∈ lw_tbl := tb_6 (List.mem_of_getElem? (i := 51) (by decide +kernel))
theorem wl_1426 : Cond.instanceMethod ⟨"AngelTown", "look", "(I)I"⟩ ∈ lw_tbl := tb_6 (List.mem_of_getElem? (i := 52) (by decide +kernel))
theorem wl_1427 : Cond.selects "AngelTown" ⟨"AngelTown", "look", "(I)I"⟩ ⟨"AngelTown", "look", "(I)I"⟩ ∈ lw_tbl := tb_6 (List.mem_of_getElem? (i := 53) (by decide +kernel))
theorem wl_1638 : Cond.methodLink "AngelTownLaw" 114 ⟨"AngelTownModel", "undo", "()Z"⟩ ∈ lw_tbl := tb_7 (List.mem_of_getElem? (i := 24) (by decide +kernel))
theorem wl_1639 : Cond.instanceMethod ⟨"AngelTownModel", "undo", "()Z"⟩ ∈ lw_tbl := tb_7 (List.mem_of_getElem? (i := 25) (by decide +kernel))
theorem wl_1640 : Cond.selects "AngelTownModel" ⟨"AngelTownModel", "undo", "()Z"⟩ ⟨"AngelTownModel", "undo", "()Z"⟩ ∈ lw_tbl := tb_7 (List.mem_of_getElem? (i := 26) (by decide +kernel))
theorem wl_1642 : Cond.methodLink "AngelTownLaw" 17 ⟨"AngelTownModel", "state", "(I)I"⟩ ∈ lw_tbl := tb_7 (List.mem_of_getElem? (i := 28) (by decide +kernel))
theorem wl_1643 : Cond.instanceMethod ⟨"AngelTownModel", "state", "(I)I"⟩ ∈ lw_tbl := tb_7 (List.mem_of_getElem? (i := 29) (by decide +kernel))
theorem wl_1644 : Cond.selects "AngelTownModel" ⟨"AngelTownModel", "state", "(I)I"⟩ ⟨"AngelTownModel", "state", "(I)I"⟩ ∈ lw_tbl := tb_7 (List.mem_of_getElem? (i := 30) (by decide +kernel))
theorem wl_1646 : Cond.methodLink "AngelTownLaw" 22 ⟨"AngelTownModel", "town", "(II)Z"⟩ ∈ lw_tbl := tb_7 (List.mem_of_getElem? (i := 32) (by decide +kernel))
theorem wl_1647 : Cond.instanceMethod ⟨"AngelTownModel", "town", "(II)Z"⟩ ∈ lw_tbl := tb_7 (List.mem_of_getElem? (i := 33) (by decide +kernel))
theorem wl_1648 : Cond.selects "AngelTownModel" ⟨"AngelTownModel", "town", "(II)Z"⟩ ⟨"AngelTownModel", "town", "(II)Z"⟩ ∈ lw_tbl := tb_7 (List.mem_of_getElem? (i := 34) (by decide +kernel))
theorem wl_1654 : Cond.methodLink "AngelTownLaw" 27 ⟨"AngelTownModel", "set", "(III)Z"⟩ ∈ lw_tbl := tb_7 (List.mem_of_getElem? (i := 40) (by decide +kernel))
theorem wl_1655 : Cond.instanceMethod ⟨"AngelTownModel", "set", "(III)Z"⟩ ∈ lw_tbl := tb_7 (List.mem_of_getElem? (i := 41) (by decide +kernel))
theorem wl_1656 : Cond.selects "AngelTownModel" ⟨"AngelTownModel", "set", "(III)Z"⟩ ⟨"AngelTownModel", "set", "(III)Z"⟩ ∈ lw_tbl := tb_7 (List.mem_of_getElem? (i := 42) (by decide +kernel))
theorem wl_1662 : Cond.methodLink "AngelTownLaw" 31 ⟨"AngelTownModel", "ward", "(I)I"⟩ ∈ lw_tbl := tb_7 (List.mem_of_getElem? (i := 48) (by decide +kernel))
theorem wl_1663 : Cond.instanceMethod ⟨"AngelTownModel", "ward", "(I)I"⟩ ∈ lw_tbl := tb_7 (List.mem_of_getElem? (i := 49) (by decide +kernel))
theorem wl_1664 : Cond.selects "AngelTownModel" ⟨"AngelTownModel", "ward", "(I)I"⟩ ⟨"AngelTownModel", "ward", "(I)I"⟩ ∈ lw_tbl := tb_7 (List.mem_of_getElem? (i := 50) (by decide +kernel))
theorem wl_1670 : Cond.methodLink "AngelTownLaw" 36 ⟨"AngelTownModel", "angel", "(II)I"⟩ ∈ lw_tbl := tb_7 (List.mem_of_getElem? (i := 56) (by decide +kernel))
theorem wl_1671 : Cond.instanceMethod ⟨"AngelTownModel", "angel", "(II)I"⟩ ∈ lw_tbl := tb_7 (List.mem_of_getElem? (i := 57) (by decide +kernel))
theorem wl_1672 : Cond.selects "AngelTownModel" ⟨"AngelTownModel", "angel", "(II)I"⟩ ⟨"AngelTownModel", "angel", "(II)I"⟩ ∈ lw_tbl := tb_7 (List.mem_of_getElem? (i := 58) (by decide +kernel))
theorem wl_1674 : Cond.methodLink "AngelTownLaw" 41 ⟨"AngelTownModel", "other", "(III)I"⟩ ∈ lw_tbl := tb_7 (List.mem_of_getElem? (i := 60) (by decide +kernel))
theorem wl_1675 : Cond.instanceMethod ⟨"AngelTownModel", "other", "(III)I"⟩ ∈ lw_tbl := tb_7 (List.mem_of_getElem? (i := 61) (by decide +kernel))
theorem wl_1676 : Cond.selects "AngelTownModel" ⟨"AngelTownModel", "other", "(III)I"⟩ ⟨"AngelTownModel", "other", "(III)I"⟩ ∈ lw_tbl := tb_7 (List.mem_of_getElem? (i := 62) (by decide +kernel))
theorem wl_1678 : Cond.methodLink "AngelTownLaw" 46 ⟨"AngelTownModel", "feed", "(IIIII)I"⟩ ∈ lw_tbl := tb_7 (List.mem_of_getElem? (i := 64) (by decide +kernel))
theorem wl_1679 : Cond.instanceMethod ⟨"AngelTownModel", "feed", "(IIIII)I"⟩ ∈ lw_tbl := tb_7 (List.mem_of_getElem? (i := 65) (by decide +kernel))
theorem wl_1680 : Cond.selects "AngelTownModel" ⟨"AngelTownModel", "feed", "(IIIII)I"⟩ ⟨"AngelTownModel", "feed", "(IIIII)I"⟩ ∈ lw_tbl := tb_7 (List.mem_of_getElem? (i := 66) (by decide +kernel))
theorem wl_1686 : Cond.methodLink "AngelTownLaw" 51 ⟨"AngelTownModel", "end", "(I)Z"⟩ ∈ lw_tbl := tb_7 (List.mem_of_getElem? (i := 72) (by decide +kernel))
theorem wl_1687 : Cond.instanceMethod ⟨"AngelTownModel", "end", "(I)Z"⟩ ∈ lw_tbl := tb_7 (List.mem_of_getElem? (i := 73) (by decide +kernel))
theorem wl_1688 : Cond.selects "AngelTownModel" ⟨"AngelTownModel", "end", "(I)Z"⟩ ⟨"AngelTownModel", "end", "(I)Z"⟩ ∈ lw_tbl := tb_7 (List.mem_of_getElem? (i := 74) (by decide +kernel))
theorem wl_1690 : Cond.methodLink "AngelTownLaw" 55 ⟨"AngelTownModel", "text", "(II)I"⟩ ∈ lw_tbl := tb_7 (List.mem_of_getElem? (i := 76) (by decide +kernel))
theorem wl_1691 : Cond.instanceMethod ⟨"AngelTownModel", "text", "(II)I"⟩ ∈ lw_tbl := tb_7 (List.mem_of_getElem? (i := 77) (by decide +kernel))
theorem wl_1692 : Cond.selects "AngelTownModel" ⟨"AngelTownModel", "text", "(II)I"⟩ ⟨"AngelTownModel", "text", "(II)I"⟩ ∈ lw_tbl := tb_7 (List.mem_of_getElem? (i := 78) (by decide +kernel))
theorem wl_1874 : Cond.methodLink "AngelTownLaw" 59 ⟨"AngelTownModel", "fault", "(I)I"⟩ ∈ lw_tbl := tb_8 (List.mem_of_getElem? (i := 20) (by decide +kernel))
theorem wl_1875 : Cond.instanceMethod ⟨"AngelTownModel", "fault", "(I)I"⟩ ∈ lw_tbl := tb_8 (List.mem_of_getElem? (i := 21) (by decide +kernel))
theorem wl_1876 : Cond.selects "AngelTownModel" ⟨"AngelTownModel", "fault", "(I)I"⟩ ⟨"AngelTownModel", "fault", "(I)I"⟩ ∈ lw_tbl := tb_8 (List.mem_of_getElem? (i := 22) (by decide +kernel))
theorem wl_1878 : Cond.methodLink "AngelTownLaw" 63 ⟨"AngelTownModel", "seconds", "(I)I"⟩ ∈ lw_tbl := tb_8 (List.mem_of_getElem? (i := 24) (by decide +kernel))
theorem wl_1879 : Cond.instanceMethod ⟨"AngelTownModel", "seconds", "(I)I"⟩ ∈ lw_tbl := tb_8 (List.mem_of_getElem? (i := 25) (by decide +kernel))
theorem wl_1880 : Cond.selects "AngelTownModel" ⟨"AngelTownModel", "seconds", "(I)I"⟩ ⟨"AngelTownModel", "seconds", "(I)I"⟩ ∈ lw_tbl := tb_8 (List.mem_of_getElem? (i := 26) (by decide +kernel))
theorem wl_1976 : Cond.methodLink "AngelTownLaw" 83 ⟨"AngelTownModel", "planned", "(I)I"⟩ ∈ lw_tbl := tb_8 (List.mem_of_getElem? (i := 122) (by decide +kernel))
theorem wl_1977 : Cond.instanceMethod ⟨"AngelTownModel", "planned", "(I)I"⟩ ∈ lw_tbl := tb_8 (List.mem_of_getElem? (i := 123) (by decide +kernel))
theorem wl_1978 : Cond.selects "AngelTownModel" ⟨"AngelTownModel", "planned", "(I)I"⟩ ⟨"AngelTownModel", "planned", "(I)I"⟩ ∈ lw_tbl := tb_8 (List.mem_of_getElem? (i := 124) (by decide +kernel))
theorem wl_1996 : Cond.methodLink "AngelTownLaw" 87 ⟨"AngelTownModel", "least", "(I)I"⟩ ∈ lw_tbl := tb_8 (List.mem_of_getElem? (i := 142) (by decide +kernel))
theorem wl_1997 : Cond.instanceMethod ⟨"AngelTownModel", "least", "(I)I"⟩ ∈ lw_tbl := tb_8 (List.mem_of_getElem? (i := 143) (by decide +kernel))
theorem wl_1998 : Cond.selects "AngelTownModel" ⟨"AngelTownModel", "least", "(I)I"⟩ ⟨"AngelTownModel", "least", "(I)I"⟩ ∈ lw_tbl := tb_8 (List.mem_of_getElem? (i := 144) (by decide +kernel))
theorem wl_2045 : Cond.methodLink "AngelTownLaw" 91 ⟨"AngelTownModel", "fewest", "(I)I"⟩ ∈ lw_tbl := tb_8 (List.mem_of_getElem? (i := 191) (by decide +kernel))
theorem wl_2046 : Cond.instanceMethod ⟨"AngelTownModel", "fewest", "(I)I"⟩ ∈ lw_tbl := tb_8 (List.mem_of_getElem? (i := 192) (by decide +kernel))
theorem wl_2047 : Cond.selects "AngelTownModel" ⟨"AngelTownModel", "fewest", "(I)I"⟩ ⟨"AngelTownModel", "fewest", "(I)I"⟩ ∈ lw_tbl := tb_8 (List.mem_of_getElem? (i := 193) (by decide +kernel))
theorem wl_2053 : Cond.methodLink "AngelTownLaw" 96 ⟨"AngelTownModel", "hopeless", "()I"⟩ ∈ lw_tbl := tb_8 (List.mem_of_getElem? (i := 199) (by decide +kernel))
theorem wl_2054 : Cond.instanceMethod ⟨"AngelTownModel", "hopeless", "()I"⟩ ∈ lw_tbl := tb_8 (List.mem_of_getElem? (i := 200) (by decide +kernel))
theorem wl_2055 : Cond.selects "AngelTownModel" ⟨"AngelTownModel", "hopeless", "()I"⟩ ⟨"AngelTownModel", "hopeless", "()I"⟩ ∈ lw_tbl := tb_8 (List.mem_of_getElem? (i := 201) (by decide +kernel))
theorem wl_2065 : Cond.methodLink "AngelTownLaw" 100 ⟨"AngelTownModel", "shows", "()I"⟩ ∈ lw_tbl := tb_8 (List.mem_of_getElem? (i := 211) (by decide +kernel))
theorem wl_2066 : Cond.instanceMethod ⟨"AngelTownModel", "shows", "()I"⟩ ∈ lw_tbl := tb_8 (List.mem_of_getElem? (i := 212) (by decide +kernel))
theorem wl_2067 : Cond.selects "AngelTownModel" ⟨"AngelTownModel", "shows", "()I"⟩ ⟨"AngelTownModel", "shows", "()I"⟩ ∈ lw_tbl := tb_8 (List.mem_of_getElem? (i := 213) (by decide +kernel))
theorem wl_2069 : Cond.methodLink "AngelTownLaw" 67 ⟨"AngelTownModel", "of", "(II)I"⟩ ∈ lw_tbl := tb_8 (List.mem_of_getElem? (i := 215) (by decide +kernel))
theorem wl_2070 : Cond.instanceMethod ⟨"AngelTownModel", "of", "(II)I"⟩ ∈ lw_tbl := tb_8 (List.mem_of_getElem? (i := 216) (by decide +kernel))
theorem wl_2071 : Cond.selects "AngelTownModel" ⟨"AngelTownModel", "of", "(II)I"⟩ ⟨"AngelTownModel", "of", "(II)I"⟩ ∈ lw_tbl := tb_8 (List.mem_of_getElem? (i := 217) (by decide +kernel))
theorem wl_2073 : Cond.methodLink "AngelTownLaw" 71 ⟨"AngelTownModel", "at", "(II)I"⟩ ∈ lw_tbl := tb_8 (List.mem_of_getElem? (i := 219) (by decide +kernel))
theorem wl_2074 : Cond.instanceMethod ⟨"AngelTownModel", "at", "(II)I"⟩ ∈ lw_tbl := tb_8 (List.mem_of_getElem? (i := 220) (by decide +kernel))
theorem wl_2075 : Cond.selects "AngelTownModel" ⟨"AngelTownModel", "at", "(II)I"⟩ ⟨"AngelTownModel", "at", "(II)I"⟩ ∈ lw_tbl := tb_8 (List.mem_of_getElem? (i := 221) (by decide +kernel))
theorem wl_2089 : Cond.methodLink "AngelTownLaw" 75 ⟨"AngelTownModel", "mishap", "(II)I"⟩ ∈ lw_tbl := tb_8 (List.mem_of_getElem? (i := 235) (by decide +kernel))
theorem wl_2090 : Cond.instanceMethod ⟨"AngelTownModel", "mishap", "(II)I"⟩ ∈ lw_tbl := tb_8 (List.mem_of_getElem? (i := 236) (by decide +kernel))
theorem wl_2091 : Cond.selects "AngelTownModel" ⟨"AngelTownModel", "mishap", "(II)I"⟩ ⟨"AngelTownModel", "mishap", "(II)I"⟩ ∈ lw_tbl := tb_8 (List.mem_of_getElem? (i := 237) (by decide +kernel))
theorem wl_2101 : Cond.methodLink "AngelTownLaw" 79 ⟨"AngelTownModel", "book", "(II)I"⟩ ∈ lw_tbl := tb_9 (List.mem_of_getElem? (i := 7) (by decide +kernel))
theorem wl_2102 : Cond.instanceMethod ⟨"AngelTownModel", "book", "(II)I"⟩ ∈ lw_tbl := tb_9 (List.mem_of_getElem? (i := 8) (by decide +kernel))
theorem wl_2103 : Cond.selects "AngelTownModel" ⟨"AngelTownModel", "book", "(II)I"⟩ ⟨"AngelTownModel", "book", "(II)I"⟩ ∈ lw_tbl := tb_9 (List.mem_of_getElem? (i := 9) (by decide +kernel))
theorem wl_2109 : Cond.methodLink "AngelTownLaw" 105 ⟨"AngelTownModel", "lot", "(II)J"⟩ ∈ lw_tbl := tb_9 (List.mem_of_getElem? (i := 15) (by decide +kernel))
theorem wl_2110 : Cond.instanceMethod ⟨"AngelTownModel", "lot", "(II)J"⟩ ∈ lw_tbl := tb_9 (List.mem_of_getElem? (i := 16) (by decide +kernel))
theorem wl_2111 : Cond.selects "AngelTownModel" ⟨"AngelTownModel", "lot", "(II)J"⟩ ⟨"AngelTownModel", "lot", "(II)J"⟩ ∈ lw_tbl := tb_9 (List.mem_of_getElem? (i := 17) (by decide +kernel))
theorem wl_2122 : Cond.methodLink "AngelTownLaw" 109 ⟨"AngelTownModel", "near", "(III)I"⟩ ∈ lw_tbl := tb_9 (List.mem_of_getElem? (i := 28) (by decide +kernel))
theorem wl_2123 : Cond.instanceMethod ⟨"AngelTownModel", "near", "(III)I"⟩ ∈ lw_tbl := tb_9 (List.mem_of_getElem? (i := 29) (by decide +kernel))
theorem wl_2124 : Cond.selects "AngelTownModel" ⟨"AngelTownModel", "near", "(III)I"⟩ ⟨"AngelTownModel", "near", "(III)I"⟩ ∈ lw_tbl := tb_9 (List.mem_of_getElem? (i := 30) (by decide +kernel))
theorem wl_2130 : Cond.methodLink "AngelTownLaw" 119 ⟨"AngelTownModel", "image", "(Z)Z"⟩ ∈ lw_tbl := tb_9 (List.mem_of_getElem? (i := 36) (by decide +kernel))
theorem wl_2131 : Cond.instanceMethod ⟨"AngelTownModel", "image", "(Z)Z"⟩ ∈ lw_tbl := tb_9 (List.mem_of_getElem? (i := 37) (by decide +kernel))
theorem wl_2132 : Cond.selects "AngelTownModel" ⟨"AngelTownModel", "image", "(Z)Z"⟩ ⟨"AngelTownModel", "image", "(Z)Z"⟩ ∈ lw_tbl := tb_9 (List.mem_of_getElem? (i := 38) (by decide +kernel))
theorem wl_2150 : Cond.methodLink "AngelTownLaw" 123 ⟨"AngelTownModel", "look", "(I)I"⟩ ∈ lw_tbl := tb_9 (List.mem_of_getElem? (i := 56) (by decide +kernel))
theorem wl_2151 : Cond.instanceMethod ⟨"AngelTownModel", "look", "(I)I"⟩ ∈ lw_tbl := tb_9 (List.mem_of_getElem? (i := 57) (by decide +kernel))
theorem wl_2152 : Cond.selects "AngelTownModel" ⟨"AngelTownModel", "look", "(I)I"⟩ ⟨"AngelTownModel", "look", "(I)I"⟩ ∈ lw_tbl := tb_9 (List.mem_of_getElem? (i := 58) (by decide +kernel))
theorem dL_law_148 : decode code 148 = .ok (.aload_n 1, 1) := by decide +kernel
theorem dL_law_149 : decode code 149 = .ok (.aload_n 0, 1) := by decide +kernel
theorem dL_law_150 : decode code 150 = .ok (.iload_n 3, 1) := by decide +kernel
theorem dL_law_151 : decode code 151 = .ok (.iconst 1, 1) := by decide +kernel
theorem dL_law_152 : decode code 152 = .ok (.iadd, 1) := by decide +kernel
theorem dL_law_153 : decode code 153 = .ok (.iaload, 1) := by decide +kernel
theorem dL_law_154 : decode code 154 = .ok (.invokevirtual 13, 3) := by decide +kernel
theorem dL_law_157 : decode code 157 = .ok (.aload_n 2, 1) := by decide +kernel
theorem dL_law_158 : decode code 158 = .ok (.aload_n 0, 1) := by decide +kernel
theorem dL_law_159 : decode code 159 = .ok (.iload_n 3, 1) := by decide +kernel
theorem dL_law_160 : decode code 160 = .ok (.iconst 1, 1) := by decide +kernel
theorem dL_law_161 : decode code 161 = .ok (.iadd, 1) := by decide +kernel
theorem dL_law_162 : decode code 162 = .ok (.iaload, 1) := by decide +kernel
theorem dL_law_163 : decode code 163 = .ok (.invokevirtual 17, 3) := by decide +kernel
theorem dL_law_166 : decode code 166 = .ok (.if_icmp .eq 724, 3) := by decide +kernel
theorem dL_law_171 : decode code 171 = .ok (.aload_n 1, 1) := by decide +kernel
theorem dL_law_172 : decode code 172 = .ok (.aload_n 0, 1) := by decide +kernel
theorem dL_law_173 : decode code 173 = .ok (.iload_n 3, 1) := by decide +kernel
theorem dL_law_174 : decode code 174 = .ok (.iconst 1, 1) := by decide +kernel
theorem dL_law_175 : decode code 175 = .ok (.iadd, 1) := by decide +kernel
theorem dL_law_176 : decode code 176 = .ok (.iaload, 1) := by decide +kernel
theorem dL_law_177 : decode code 177 = .ok (.aload_n 0, 1) := by decide +kernel
theorem dL_law_178 : decode code 178 = .ok (.iload_n 3, 1) := by decide +kernel
theorem dL_law_179 : decode code 179 = .ok (.iconst 2, 1) := by decide +kernel
theorem dL_law_180 : decode code 180 = .ok (.iadd, 1) := by decide +kernel
theorem dL_law_181 : decode code 181 = .ok (.iaload, 1) := by decide +kernel
theorem dL_law_182 : decode code 182 = .ok (.invokevirtual 18, 3) := by decide +kernel
theorem dL_law_185 : decode code 185 = .ok (.aload_n 2, 1) := by decide +kernel
theorem dL_law_186 : decode code 186 = .ok (.aload_n 0, 1) := by decide +kernel
theorem dL_law_187 : decode code 187 = .ok (.iload_n 3, 1) := by decide +kernel
theorem dL_law_188 : decode code 188 = .ok (.iconst 1, 1) := by decide +kernel
theorem dL_law_189 : decode code 189 = .ok (.iadd, 1) := by decide +kernel
theorem dL_law_190 : decode code 190 = .ok (.iaload, 1) := by decide +kernel
theorem dL_law_191 : decode code 191 = .ok (.aload_n 0, 1) := by decide +kernel
theorem dL_law_192 : decode code 192 = .ok (.iload_n 3, 1) := by decide +kernel
theorem dL_law_193 : decode code 193 = .ok (.iconst 2, 1) := by decide +kernel
theorem dL_law_194 : decode code 194 = .ok (.iadd, 1) := by decide +kernel
theorem dL_law_195 : decode code 195 = .ok (.iaload, 1) := by decide +kernel
theorem dL_law_196 : decode code 196 = .ok (.invokevirtual 22, 3) := by decide +kernel
theorem dL_law_199 : decode code 199 = .ok (.if_icmp .eq 691, 3) := by decide +kernel
theorem dL_law_204 : decode code 204 = .ok (.aload_n 1, 1) := by decide +kernel
theorem dL_law_205 : decode code 205 = .ok (.aload_n 0, 1) := by decide +kernel
theorem dL_law_206 : decode code 206 = .ok (.iload_n 3, 1) := by decide +kernel
theorem dL_law_207 : decode code 207 = .ok (.iconst 1, 1) := by decide +kernel
theorem dL_law_208 : decode code 208 = .ok (.iadd, 1) := by decide +kernel
theorem dL_law_209 : decode code 209 = .ok (.iaload, 1) := by decide +kernel
theorem dL_law_210 : decode code 210 = .ok (.aload_n 0, 1) := by decide +kernel
theorem dL_law_211 : decode code 211 = .ok (.iload_n 3, 1) := by decide +kernel
theorem dL_law_212 : decode code 212 = .ok (.iconst 2, 1) := by decide +kernel
theorem dL_law_213 : decode code 213 = .ok (.iadd, 1) := by decide +kernel
theorem dL_law_214 : decode code 214 = .ok (.iaload, 1) := by decide +kernel
theorem dL_law_215 : decode code 215 = .ok (.aload_n 0, 1) := by decide +kernel
theorem dL_law_216 : decode code 216 = .ok (.iload_n 3, 1) := by decide +kernel
theorem dL_law_217 : decode code 217 = .ok (.iconst 3, 1) := by decide +kernel
theorem dL_law_218 : decode code 218 = .ok (.iadd, 1) := by decide +kernel
theorem dL_law_219 : decode code 219 = .ok (.iaload, 1) := by decide +kernel
theorem dL_law_220 : decode code 220 = .ok (.invokevirtual 23, 3) := by decide +kernel
theorem dL_law_223 : decode code 223 = .ok (.aload_n 2, 1) := by decide +kernel
theorem dL_law_224 : decode code 224 = .ok (.aload_n 0, 1) := by decide +kernel
theorem dL_law_225 : decode code 225 = .ok (.iload_n 3, 1) := by decide +kernel
theorem dL_law_226 : decode code 226 = .ok (.iconst 1, 1) := by decide +kernel
theorem dL_law_227 : decode code 227 = .ok (.iadd, 1) := by decide +kernel
theorem dL_law_228 : decode code 228 = .ok (.iaload, 1) := by decide +kernel
theorem dL_law_229 : decode code 229 = .ok (.aload_n 0, 1) := by decide +kernel
theorem dL_law_230 : decode code 230 = .ok (.iload_n 3, 1) := by decide +kernel
theorem dL_law_231 : decode code 231 = .ok (.iconst 2, 1) := by decide +kernel
theorem dL_law_232 : decode code 232 = .ok (.iadd, 1) := by decide +kernel
theorem dL_law_233 : decode code 233 = .ok (.iaload, 1) := by decide +kernel
theorem dL_law_234 : decode code 234 = .ok (.aload_n 0, 1) := by decide +kernel
theorem dL_law_235 : decode code 235 = .ok (.iload_n 3, 1) := by decide +kernel
theorem dL_law_236 : decode code 236 = .ok (.iconst 3, 1) := by decide +kernel
theorem dL_law_237 : decode code 237 = .ok (.iadd, 1) := by decide +kernel
theorem dL_law_238 : decode code 238 = .ok (.iaload, 1) := by decide +kernel
theorem dL_law_239 : decode code 239 = .ok (.invokevirtual 27, 3) := by decide +kernel
theorem dL_law_242 : decode code 242 = .ok (.if_icmp .eq 648, 3) := by decide +kernel
theorem dL_law_247 : decode code 247 = .ok (.aload_n 1, 1) := by decide +kernel
theorem dL_law_248 : decode code 248 = .ok (.aload_n 0, 1) := by decide +kernel
theorem dL_law_249 : decode code 249 = .ok (.iload_n 3, 1) := by decide +kernel
theorem dL_law_250 : decode code 250 = .ok (.iconst 1, 1) := by decide +kernel
theorem dL_law_251 : decode code 251 = .ok (.iadd, 1) := by decide +kernel
theorem dL_law_252 : decode code 252 = .ok (.iaload, 1) := by decide +kernel
theorem dL_law_253 : decode code 253 = .ok (.invokevirtual 28, 3) := by decide +kernel
theorem dL_law_256 : decode code 256 = .ok (.aload_n 2, 1) := by decide +kernel
theorem dL_law_257 : decode code 257 = .ok (.aload_n 0, 1) := by decide +kernel
theorem dL_law_258 : decode code 258 = .ok (.iload_n 3, 1) := by decide +kernel
theorem dL_law_259 : decode code 259 = .ok (.iconst 1, 1) := by decide +kernel
theorem dL_law_260 : decode code 260 = .ok (.iadd, 1) := by decide +kernel
theorem dL_law_261 : decode code 261 = .ok (.iaload, 1) := by decide +kernel
theorem dL_law_262 : decode code 262 = .ok (.invokevirtual 31, 3) := by decide +kernel
theorem dL_law_265 : decode code 265 = .ok (.if_icmp .eq 625, 3) := by decide +kernel
theorem dL_law_270 : decode code 270 = .ok (.aload_n 1, 1) := by decide +kernel
theorem dL_law_271 : decode code 271 = .ok (.aload_n 0, 1) := by decide +kernel
theorem dL_law_272 : decode code 272 = .ok (.iload_n 3, 1) := by decide +kernel
theorem dL_law_273 : decode code 273 = .ok (.iconst 1, 1) := by decide +kernel
theorem dL_law_274 : decode code 274 = .ok (.iadd, 1) := by decide +kernel
theorem dL_law_275 : decode code 275 = .ok (.iaload, 1) := by decide +kernel
theorem dL_law_276 : decode code 276 = .ok (.aload_n 0, 1) := by decide +kernel
theorem dL_law_277 : decode code 277 = .ok (.iload_n 3, 1) := by decide +kernel
theorem dL_law_278 : decode code 278 = .ok (.iconst 2, 1) := by decide +kernel
theorem dL_law_279 : decode code 279 = .ok (.iadd, 1) := by decide +kernel
theorem dL_law_280 : decode code 280 = .ok (.iaload, 1) := by decide +kernel
theorem dL_law_281 : decode code 281 = .ok (.invokevirtual 32, 3) := by decide +kernel
theorem dL_law_284 : decode code 284 = .ok (.aload_n 2, 1) := by decide +kernel
theorem dL_law_285 : decode code 285 = .ok (.aload_n 0, 1) := by decide +kernel
theorem dL_law_286 : decode code 286 = .ok (.iload_n 3, 1) := by decide +kernel
theorem dL_law_287 : decode code 287 = .ok (.iconst 1, 1) := by decide +kernel
theorem dL_law_288 : decode code 288 = .ok (.iadd, 1) := by decide +kernel
theorem dL_law_289 : decode code 289 = .ok (.iaload, 1) := by decide +kernel
theorem dL_law_290 : decode code 290 = .ok (.aload_n 0, 1) := by decide +kernel
theorem dL_law_291 : decode code 291 = .ok (.iload_n 3, 1) := by decide +kernel
theorem dL_law_292 : decode code 292 = .ok (.iconst 2, 1) := by decide +kernel
theorem dL_law_293 : decode code 293 = .ok (.iadd, 1) := by decide +kernel
theorem dL_law_294 : decode code 294 = .ok (.iaload, 1) := by decide +kernel
theorem dL_law_295 : decode code 295 = .ok (.invokevirtual 36, 3) := by decide +kernel
theorem dL_law_298 : decode code 298 = .ok (.if_icmp .eq 592, 3) := by decide +kernel
theorem dL_law_303 : decode code 303 = .ok (.aload_n 1, 1) := by decide +kernel
theorem dL_law_304 : decode code 304 = .ok (.aload_n 0, 1) := by decide +kernel
theorem dL_law_305 : decode code 305 = .ok (.iload_n 3, 1) := by decide +kernel
theorem dL_law_306 : decode code 306 = .ok (.iconst 1, 1) := by decide +kernel
theorem dL_law_307 : decode code 307 = .ok (.iadd, 1) := by decide +kernel
theorem dL_law_308 : decode code 308 = .ok (.iaload, 1) := by decide +kernel
theorem dL_law_309 : decode code 309 = .ok (.aload_n 0, 1) := by decide +kernel
theorem dL_law_310 : decode code 310 = .ok (.iload_n 3, 1) := by decide +kernel
theorem dL_law_311 : decode code 311 = .ok (.iconst 2, 1) := by decide +kernel
theorem dL_law_312 : decode code 312 = .ok (.iadd, 1) := by decide +kernel
theorem dL_law_313 : decode code 313 = .ok (.iaload, 1) := by decide +kernel
theorem dL_law_314 : decode code 314 = .ok (.aload_n 0, 1) := by decide +kernel
theorem dL_law_315 : decode code 315 = .ok (.iload_n 3, 1) := by decide +kernel
theorem dL_law_316 : decode code 316 = .ok (.iconst 3, 1) := by decide +kernel
theorem dL_law_317 : decode code 317 = .ok (.iadd, 1) := by decide +kernel
theorem dL_law_318 : decode code 318 = .ok (.iaload, 1) := by decide +kernel
theorem dL_law_319 : decode code 319 = .ok (.invokevirtual 37, 3) := by decide +kernel
theorem dL_law_322 : decode code 322 = .ok (.aload_n 2, 1) := by decide +kernel
theorem dL_law_323 : decode code 323 = .ok (.aload_n 0, 1) := by decide +kernel
theorem dL_law_324 : decode code 324 = .ok (.iload_n 3, 1) := by decide +kernel
theorem dL_law_325 : decode code 325 = .ok (.iconst 1, 1) := by decide +kernel
theorem dL_law_326 : decode code 326 = .ok (.iadd, 1) := by decide +kernel
theorem dL_law_327 : decode code 327 = .ok (.iaload, 1) := by decide +kernel
theorem dL_law_328 : decode code 328 = .ok (.aload_n 0, 1) := by decide +kernel
theorem dL_law_329 : decode code 329 = .ok (.iload_n 3, 1) := by decide +kernel
theorem dL_law_330 : decode code 330 = .ok (.iconst 2, 1) := by decide +kernel
theorem dL_law_331 : decode code 331 = .ok (.iadd, 1) := by decide +kernel
theorem dL_law_332 : decode code 332 = .ok (.iaload, 1) := by decide +kernel
theorem dL_law_333 : decode code 333 = .ok (.aload_n 0, 1) := by decide +kernel
theorem dL_law_334 : decode code 334 = .ok (.iload_n 3, 1) := by decide +kernel
theorem dL_law_335 : decode code 335 = .ok (.iconst 3, 1) := by decide +kernel
theorem dL_law_336 : decode code 336 = .ok (.iadd, 1) := by decide +kernel
theorem dL_law_337 : decode code 337 = .ok (.iaload, 1) := by decide +kernel
theorem dL_law_338 : decode code 338 = .ok (.invokevirtual 41, 3) := by decide +kernel
theorem dL_law_341 : decode code 341 = .ok (.if_icmp .eq 549, 3) := by decide +kernel
theorem dL_law_346 : decode code 346 = .ok (.aload_n 1, 1) := by decide +kernel
theorem dL_law_347 : decode code 347 = .ok (.aload_n 0, 1) := by decide +kernel
theorem dL_law_348 : decode code 348 = .ok (.iload_n 3, 1) := by decide +kernel
theorem dL_law_349 : decode code 349 = .ok (.iconst 1, 1) := by decide +kernel
theorem dL_law_350 : decode code 350 = .ok (.iadd, 1) := by decide +kernel
theorem dL_law_351 : decode code 351 = .ok (.iaload, 1) := by decide +kernel
theorem dL_law_352 : decode code 352 = .ok (.aload_n 0, 1) := by decide +kernel
theorem dL_law_353 : decode code 353 = .ok (.iload_n 3, 1) := by decide +kernel
theorem dL_law_354 : decode code 354 = .ok (.iconst 2, 1) := by decide +kernel
theorem dL_law_355 : decode code 355 = .ok (.iadd, 1) := by decide +kernel
theorem dL_law_356 : decode code 356 = .ok (.iaload, 1) := by decide +kernel
theorem dL_law_357 : decode code 357 = .ok (.aload_n 0, 1) := by decide +kernel
theorem dL_law_358 : decode code 358 = .ok (.iload_n 3, 1) := by decide +kernel
theorem dL_law_359 : decode code 359 = .ok (.iconst 3, 1) := by decide +kernel
theorem dL_law_360 : decode code 360 = .ok (.iadd, 1) := by decide +kernel
theorem dL_law_361 : decode code 361 = .ok (.iaload, 1) := by decide +kernel
theorem dL_law_362 : decode code 362 = .ok (.aload_n 0, 1) := by decide +kernel
theorem dL_law_363 : decode code 363 = .ok (.iload_n 3, 1) := by decide +kernel
theorem dL_law_364 : decode code 364 = .ok (.iconst 4, 1) := by decide +kernel
theorem dL_law_365 : decode code 365 = .ok (.iadd, 1) := by decide +kernel
theorem dL_law_366 : decode code 366 = .ok (.iaload, 1) := by decide +kernel
theorem dL_law_367 : decode code 367 = .ok (.aload_n 0, 1) := by decide +kernel
theorem dL_law_368 : decode code 368 = .ok (.iload_n 3, 1) := by decide +kernel
theorem dL_law_369 : decode code 369 = .ok (.iconst 5, 1) := by decide +kernel
theorem dL_law_370 : decode code 370 = .ok (.iadd, 1) := by decide +kernel
theorem dL_law_371 : decode code 371 = .ok (.iaload, 1) := by decide +kernel
theorem dL_law_372 : decode code 372 = .ok (.invokevirtual 42, 3) := by decide +kernel
theorem dL_law_375 : decode code 375 = .ok (.aload_n 2, 1) := by decide +kernel
theorem dL_law_376 : decode code 376 = .ok (.aload_n 0, 1) := by decide +kernel
theorem dL_law_377 : decode code 377 = .ok (.iload_n 3, 1) := by decide +kernel
theorem dL_law_378 : decode code 378 = .ok (.iconst 1, 1) := by decide +kernel
theorem dL_law_379 : decode code 379 = .ok (.iadd, 1) := by decide +kernel
theorem dL_law_380 : decode code 380 = .ok (.iaload, 1) := by decide +kernel
theorem dL_law_381 : decode code 381 = .ok (.aload_n 0, 1) := by decide +kernel
theorem dL_law_382 : decode code 382 = .ok (.iload_n 3, 1) := by decide +kernel
theorem dL_law_383 : decode code 383 = .ok (.iconst 2, 1) := by decide +kernel
theorem dL_law_384 : decode code 384 = .ok (.iadd, 1) := by decide +kernel
theorem dL_law_385 : decode code 385 = .ok (.iaload, 1) := by decide +kernel
theorem dL_law_386 : decode code 386 = .ok (.aload_n 0, 1) := by decide +kernel
theorem dL_law_387 : decode code 387 = .ok (.iload_n 3, 1) := by decide +kernel
theorem dL_law_388 : decode code 388 = .ok (.iconst 3, 1) := by decide +kernel
theorem dL_law_389 : decode code 389 = .ok (.iadd, 1) := by decide +kernel
theorem dL_law_390 : decode code 390 = .ok (.iaload, 1) := by decide +kernel
theorem dL_law_391 : decode code 391 = .ok (.aload_n 0, 1) := by decide +kernel
theorem dL_law_392 : decode code 392 = .ok (.iload_n 3, 1) := by decide +kernel
theorem dL_law_393 : decode code 393 = .ok (.iconst 4, 1) := by decide +kernel
theorem dL_law_394 : decode code 394 = .ok (.iadd, 1) := by decide +kernel
theorem dL_law_395 : decode code 395 = .ok (.iaload, 1) := by decide +kernel
theorem dL_law_396 : decode code 396 = .ok (.aload_n 0, 1) := by decide +kernel
theorem dL_law_397 : decode code 397 = .ok (.iload_n 3, 1) := by decide +kernel
theorem dL_law_398 : decode code 398 = .ok (.iconst 5, 1) := by decide +kernel
theorem dL_law_399 : decode code 399 = .ok (.iadd, 1) := by decide +kernel
theorem dL_law_400 : decode code 400 = .ok (.iaload, 1) := by decide +kernel
theorem dL_law_401 : decode code 401 = .ok (.invokevirtual 46, 3) := by decide +kernel
theorem dL_law_404 : decode code 404 = .ok (.if_icmp .eq 486, 3) := by decide +kernel
theorem dL_law_409 : decode code 409 = .ok (.aload_n 1, 1) := by decide +kernel
theorem dL_law_410 : decode code 410 = .ok (.aload_n 0, 1) := by decide +kernel
theorem dL_law_411 : decode code 411 = .ok (.iload_n 3, 1) := by decide +kernel
theorem dL_law_412 : decode code 412 = .ok (.iconst 1, 1) := by decide +kernel
theorem dL_law_413 : decode code 413 = .ok (.iadd, 1) := by decide +kernel
theorem dL_law_414 : decode code 414 = .ok (.iaload, 1) := by decide +kernel
theorem dL_law_415 : decode code 415 = .ok (.invokevirtual 47, 3) := by decide +kernel
theorem dL_law_418 : decode code 418 = .ok (.aload_n 2, 1) := by decide +kernel
theorem dL_law_419 : decode code 419 = .ok (.aload_n 0, 1) := by decide +kernel
theorem dL_law_420 : decode code 420 = .ok (.iload_n 3, 1) := by decide +kernel
theorem dL_law_421 : decode code 421 = .ok (.iconst 1, 1) := by decide +kernel
theorem dL_law_422 : decode code 422 = .ok (.iadd, 1) := by decide +kernel
theorem dL_law_423 : decode code 423 = .ok (.iaload, 1) := by decide +kernel
theorem dL_law_424 : decode code 424 = .ok (.invokevirtual 51, 3) := by decide +kernel
theorem dL_law_427 : decode code 427 = .ok (.if_icmp .eq 463, 3) := by decide +kernel
theorem dL_law_432 : decode code 432 = .ok (.aload_n 1, 1) := by decide +kernel
theorem dL_law_433 : decode code 433 = .ok (.aload_n 0, 1) := by decide +kernel
theorem dL_law_434 : decode code 434 = .ok (.iload_n 3, 1) := by decide +kernel
theorem dL_law_435 : decode code 435 = .ok (.iconst 1, 1) := by decide +kernel
theorem dL_law_436 : decode code 436 = .ok (.iadd, 1) := by decide +kernel
theorem dL_law_437 : decode code 437 = .ok (.iaload, 1) := by decide +kernel
theorem dL_law_438 : decode code 438 = .ok (.aload_n 0, 1) := by decide +kernel
theorem dL_law_439 : decode code 439 = .ok (.iload_n 3, 1) := by decide +kernel
theorem dL_law_440 : decode code 440 = .ok (.iconst 2, 1) := by decide +kernel
theorem dL_law_441 : decode code 441 = .ok (.iadd, 1) := by decide +kernel
theorem dL_law_442 : decode code 442 = .ok (.iaload, 1) := by decide +kernel
theorem dL_law_443 : decode code 443 = .ok (.invokevirtual 52, 3) := by decide +kernel
theorem dL_law_446 : decode code 446 = .ok (.aload_n 2, 1) := by decide +kernel
theorem dL_law_447 : decode code 447 = .ok (.aload_n 0, 1) := by decide +kernel
theorem dL_law_448 : decode code 448 = .ok (.iload_n 3, 1) := by decide +kernel
theorem dL_law_449 : decode code 449 = .ok (.iconst 1, 1) := by decide +kernel
theorem dL_law_450 : decode code 450 = .ok (.iadd, 1) := by decide +kernel
theorem dL_law_451 : decode code 451 = .ok (.iaload, 1) := by decide +kernel
theorem dL_law_452 : decode code 452 = .ok (.aload_n 0, 1) := by decide +kernel
theorem dL_law_453 : decode code 453 = .ok (.iload_n 3, 1) := by decide +kernel
theorem dL_law_454 : decode code 454 = .ok (.iconst 2, 1) := by decide +kernel
theorem dL_law_455 : decode code 455 = .ok (.iadd, 1) := by decide +kernel
theorem dL_law_456 : decode code 456 = .ok (.iaload, 1) := by decide +kernel
theorem dL_law_457 : decode code 457 = .ok (.invokevirtual 55, 3) := by decide +kernel
theorem dL_law_460 : decode code 460 = .ok (.if_icmp .eq 430, 3) := by decide +kernel
theorem dL_law_465 : decode code 465 = .ok (.aload_n 1, 1) := by decide +kernel
theorem dL_law_466 : decode code 466 = .ok (.aload_n 0, 1) := by decide +kernel
theorem dL_law_467 : decode code 467 = .ok (.iload_n 3, 1) := by decide +kernel
theorem dL_law_468 : decode code 468 = .ok (.iconst 1, 1) := by decide +kernel
theorem dL_law_469 : decode code 469 = .ok (.iadd, 1) := by decide +kernel
theorem dL_law_470 : decode code 470 = .ok (.iaload, 1) := by decide +kernel
theorem dL_law_471 : decode code 471 = .ok (.invokevirtual 56, 3) := by decide +kernel
theorem dL_law_474 : decode code 474 = .ok (.aload_n 2, 1) := by decide +kernel
theorem dL_law_475 : decode code 475 = .ok (.aload_n 0, 1) := by decide +kernel
theorem dL_law_476 : decode code 476 = .ok (.iload_n 3, 1) := by decide +kernel
theorem dL_law_477 : decode code 477 = .ok (.iconst 1, 1) := by decide +kernel
theorem dL_law_478 : decode code 478 = .ok (.iadd, 1) := by decide +kernel
theorem dL_law_479 : decode code 479 = .ok (.iaload, 1) := by decide +kernel
theorem dL_law_480 : decode code 480 = .ok (.invokevirtual 59, 3) := by decide +kernel
theorem dL_law_483 : decode code 483 = .ok (.if_icmp .eq 407, 3) := by decide +kernel
theorem dL_law_488 : decode code 488 = .ok (.aload_n 1, 1) := by decide +kernel
theorem dL_law_489 : decode code 489 = .ok (.aload_n 0, 1) := by decide +kernel
theorem dL_law_490 : decode code 490 = .ok (.iload_n 3, 1) := by decide +kernel
theorem dL_law_491 : decode code 491 = .ok (.iconst 1, 1) := by decide +kernel
theorem dL_law_492 : decode code 492 = .ok (.iadd, 1) := by decide +kernel
theorem dL_law_493 : decode code 493 = .ok (.iaload, 1) := by decide +kernel
theorem dL_law_494 : decode code 494 = .ok (.invokevirtual 60, 3) := by decide +kernel
theorem dL_law_497 : decode code 497 = .ok (.aload_n 2, 1) := by decide +kernel
theorem dL_law_498 : decode code 498 = .ok (.aload_n 0, 1) := by decide +kernel
theorem dL_law_499 : decode code 499 = .ok (.iload_n 3, 1) := by decide +kernel
theorem dL_law_500 : decode code 500 = .ok (.iconst 1, 1) := by decide +kernel
theorem dL_law_501 : decode code 501 = .ok (.iadd, 1) := by decide +kernel
theorem dL_law_502 : decode code 502 = .ok (.iaload, 1) := by decide +kernel
theorem dL_law_503 : decode code 503 = .ok (.invokevirtual 63, 3) := by decide +kernel
theorem dL_law_506 : decode code 506 = .ok (.if_icmp .eq 384, 3) := by decide +kernel
theorem dL_law_511 : decode code 511 = .ok (.aload_n 1, 1) := by decide +kernel
theorem dL_law_512 : decode code 512 = .ok (.aload_n 0, 1) := by decide +kernel
theorem dL_law_513 : decode code 513 = .ok (.iload_n 3, 1) := by decide +kernel
theorem dL_law_514 : decode code 514 = .ok (.iconst 1, 1) := by decide +kernel
theorem dL_law_515 : decode code 515 = .ok (.iadd, 1) := by decide +kernel
theorem dL_law_516 : decode code 516 = .ok (.iaload, 1) := by decide +kernel
theorem dL_law_517 : decode code 517 = .ok (.aload_n 0, 1) := by decide +kernel
theorem dL_law_518 : decode code 518 = .ok (.iload_n 3, 1) := by decide +kernel
theorem dL_law_519 : decode code 519 = .ok (.iconst 2, 1) := by decide +kernel
theorem dL_law_520 : decode code 520 = .ok (.iadd, 1) := by decide +kernel
theorem dL_law_521 : decode code 521 = .ok (.iaload, 1) := by decide +kernel
theorem dL_law_522 : decode code 522 = .ok (.invokevirtual 64, 3) := by decide +kernel
theorem dL_law_525 : decode code 525 = .ok (.aload_n 2, 1) := by decide +kernel
theorem dL_law_526 : decode code 526 = .ok (.aload_n 0, 1) := by decide +kernel
theorem dL_law_527 : decode code 527 = .ok (.iload_n 3, 1) := by decide +kernel
theorem dL_law_528 : decode code 528 = .ok (.iconst 1, 1) := by decide +kernel
theorem dL_law_529 : decode code 529 = .ok (.iadd, 1) := by decide +kernel
theorem dL_law_530 : decode code 530 = .ok (.iaload, 1) := by decide +kernel
theorem dL_law_531 : decode code 531 = .ok (.aload_n 0, 1) := by decide +kernel
theorem dL_law_532 : decode code 532 = .ok (.iload_n 3, 1) := by decide +kernel
theorem dL_law_533 : decode code 533 = .ok (.iconst 2, 1) := by decide +kernel
theorem dL_law_534 : decode code 534 = .ok (.iadd, 1) := by decide +kernel
theorem dL_law_535 : decode code 535 = .ok (.iaload, 1) := by decide +kernel
theorem dL_law_536 : decode code 536 = .ok (.invokevirtual 67, 3) := by decide +kernel
theorem dL_law_539 : decode code 539 = .ok (.if_icmp .eq 351, 3) := by decide +kernel
theorem dL_law_544 : decode code 544 = .ok (.aload_n 1, 1) := by decide +kernel
theorem dL_law_545 : decode code 545 = .ok (.aload_n 0, 1) := by decide +kernel
theorem dL_law_546 : decode code 546 = .ok (.iload_n 3, 1) := by decide +kernel
theorem dL_law_547 : decode code 547 = .ok (.iconst 1, 1) := by decide +kernel
theorem dL_law_548 : decode code 548 = .ok (.iadd, 1) := by decide +kernel
theorem dL_law_549 : decode code 549 = .ok (.iaload, 1) := by decide +kernel
theorem dL_law_550 : decode code 550 = .ok (.aload_n 0, 1) := by decide +kernel
theorem dL_law_551 : decode code 551 = .ok (.iload_n 3, 1) := by decide +kernel
theorem dL_law_552 : decode code 552 = .ok (.iconst 2, 1) := by decide +kernel
theorem dL_law_553 : decode code 553 = .ok (.iadd, 1) := by decide +kernel
theorem dL_law_554 : decode code 554 = .ok (.iaload, 1) := by decide +kernel
theorem dL_law_555 : decode code 555 = .ok (.invokevirtual 68, 3) := by decide +kernel
theorem dL_law_558 : decode code 558 = .ok (.aload_n 2, 1) := by decide +kernel
theorem dL_law_559 : decode code 559 = .ok (.aload_n 0, 1) := by decide +kernel
theorem dL_law_560 : decode code 560 = .ok (.iload_n 3, 1) := by decide +kernel
theorem dL_law_561 : decode code 561 = .ok (.iconst 1, 1) := by decide +kernel
theorem dL_law_562 : decode code 562 = .ok (.iadd, 1) := by decide +kernel
theorem dL_law_563 : decode code 563 = .ok (.iaload, 1) := by decide +kernel
theorem dL_law_564 : decode code 564 = .ok (.aload_n 0, 1) := by decide +kernel
theorem dL_law_565 : decode code 565 = .ok (.iload_n 3, 1) := by decide +kernel
theorem dL_law_566 : decode code 566 = .ok (.iconst 2, 1) := by decide +kernel
theorem dL_law_567 : decode code 567 = .ok (.iadd, 1) := by decide +kernel
theorem dL_law_568 : decode code 568 = .ok (.iaload, 1) := by decide +kernel
theorem dL_law_569 : decode code 569 = .ok (.invokevirtual 71, 3) := by decide +kernel
theorem dL_law_572 : decode code 572 = .ok (.if_icmp .eq 318, 3) := by decide +kernel
theorem dL_law_577 : decode code 577 = .ok (.aload_n 1, 1) := by decide +kernel
theorem dL_law_578 : decode code 578 = .ok (.aload_n 0, 1) := by decide +kernel
theorem dL_law_579 : decode code 579 = .ok (.iload_n 3, 1) := by decide +kernel
theorem dL_law_580 : decode code 580 = .ok (.iconst 1, 1) := by decide +kernel
theorem dL_law_581 : decode code 581 = .ok (.iadd, 1) := by decide +kernel
theorem dL_law_582 : decode code 582 = .ok (.iaload, 1) := by decide +kernel
theorem dL_law_583 : decode code 583 = .ok (.aload_n 0, 1) := by decide +kernel
theorem dL_law_584 : decode code 584 = .ok (.iload_n 3, 1) := by decide +kernel
theorem dL_law_585 : decode code 585 = .ok (.iconst 2, 1) := by decide +kernel
theorem dL_law_586 : decode code 586 = .ok (.iadd, 1) := by decide +kernel
theorem dL_law_587 : decode code 587 = .ok (.iaload, 1) := by decide +kernel
theorem dL_law_588 : decode code 588 = .ok (.invokevirtual 72, 3) := by decide +kernel
theorem dL_law_591 : decode code 591 = .ok (.aload_n 2, 1) := by decide +kernel
theorem dL_law_592 : decode code 592 = .ok (.aload_n 0, 1) := by decide +kernel
theorem dL_law_593 : decode code 593 = .ok (.iload_n 3, 1) := by decide +kernel
theorem dL_law_594 : decode code 594 = .ok (.iconst 1, 1) := by decide +kernel
theorem dL_law_595 : decode code 595 = .ok (.iadd, 1) := by decide +kernel
theorem dL_law_596 : decode code 596 = .ok (.iaload, 1) := by decide +kernel
theorem dL_law_597 : decode code 597 = .ok (.aload_n 0, 1) := by decide +kernel
theorem dL_law_598 : decode code 598 = .ok (.iload_n 3, 1) := by decide +kernel
theorem dL_law_599 : decode code 599 = .ok (.iconst 2, 1) := by decide +kernel
theorem dL_law_600 : decode code 600 = .ok (.iadd, 1) := by decide +kernel
theorem dL_law_601 : decode code 601 = .ok (.iaload, 1) := by decide +kernel
theorem dL_law_602 : decode code 602 = .ok (.invokevirtual 75, 3) := by decide +kernel
theorem dL_law_605 : decode code 605 = .ok (.if_icmp .eq 285, 3) := by decide +kernel
theorem dL_law_610 : decode code 610 = .ok (.aload_n 1, 1) := by decide +kernel
theorem dL_law_611 : decode code 611 = .ok (.aload_n 0, 1) := by decide +kernel
theorem dL_law_612 : decode code 612 = .ok (.iload_n 3, 1) := by decide +kernel
theorem dL_law_613 : decode code 613 = .ok (.iconst 1, 1) := by decide +kernel
theorem dL_law_614 : decode code 614 = .ok (.iadd, 1) := by decide +kernel
theorem dL_law_615 : decode code 615 = .ok (.iaload, 1) := by decide +kernel
theorem dL_law_616 : decode code 616 = .ok (.aload_n 0, 1) := by decide +kernel
theorem dL_law_617 : decode code 617 = .ok (.iload_n 3, 1) := by decide +kernel
theorem dL_law_618 : decode code 618 = .ok (.iconst 2, 1) := by decide +kernel
theorem dL_law_619 : decode code 619 = .ok (.iadd, 1) := by decide +kernel
theorem dL_law_620 : decode code 620 = .ok (.iaload, 1) := by decide +kernel
theorem dL_law_621 : decode code 621 = .ok (.invokevirtual 76, 3) := by decide +kernel
theorem dL_law_624 : decode code 624 = .ok (.aload_n 2, 1) := by decide +kernel
theorem dL_law_625 : decode code 625 = .ok (.aload_n 0, 1) := by decide +kernel
theorem dL_law_626 : decode code 626 = .ok (.iload_n 3, 1) := by decide +kernel
theorem dL_law_627 : decode code 627 = .ok (.iconst 1, 1) := by decide +kernel
theorem dL_law_628 : decode code 628 = .ok (.iadd, 1) := by decide +kernel
theorem dL_law_629 : decode code 629 = .ok (.iaload, 1) := by decide +kernel
theorem dL_law_630 : decode code 630 = .ok (.aload_n 0, 1) := by decide +kernel
theorem dL_law_631 : decode code 631 = .ok (.iload_n 3, 1) := by decide +kernel
theorem dL_law_632 : decode code 632 = .ok (.iconst 2, 1) := by decide +kernel
theorem dL_law_633 : decode code 633 = .ok (.iadd, 1) := by decide +kernel
theorem dL_law_634 : decode code 634 = .ok (.iaload, 1) := by decide +kernel
theorem dL_law_635 : decode code 635 = .ok (.invokevirtual 79, 3) := by decide +kernel
theorem dL_law_638 : decode code 638 = .ok (.if_icmp .eq 252, 3) := by decide +kernel
theorem dL_law_643 : decode code 643 = .ok (.aload_n 1, 1) := by decide +kernel
theorem dL_law_644 : decode code 644 = .ok (.aload_n 0, 1) := by decide +kernel
theorem dL_law_645 : decode code 645 = .ok (.iload_n 3, 1) := by decide +kernel
theorem dL_law_646 : decode code 646 = .ok (.iconst 1, 1) := by decide +kernel
theorem dL_law_647 : decode code 647 = .ok (.iadd, 1) := by decide +kernel
theorem dL_law_648 : decode code 648 = .ok (.iaload, 1) := by decide +kernel
theorem dL_law_649 : decode code 649 = .ok (.invokevirtual 80, 3) := by decide +kernel
theorem dL_law_652 : decode code 652 = .ok (.aload_n 2, 1) := by decide +kernel
theorem dL_law_653 : decode code 653 = .ok (.aload_n 0, 1) := by decide +kernel
theorem dL_law_654 : decode code 654 = .ok (.iload_n 3, 1) := by decide +kernel
theorem dL_law_655 : decode code 655 = .ok (.iconst 1, 1) := by decide +kernel
theorem dL_law_656 : decode code 656 = .ok (.iadd, 1) := by decide +kernel
theorem dL_law_657 : decode code 657 = .ok (.iaload, 1) := by decide +kernel
theorem dL_law_658 : decode code 658 = .ok (.invokevirtual 83, 3) := by decide +kernel
theorem dL_law_661 : decode code 661 = .ok (.if_icmp .eq 229, 3) := by decide +kernel
theorem dL_law_666 : decode code 666 = .ok (.aload_n 1, 1) := by decide +kernel
theorem dL_law_667 : decode code 667 = .ok (.aload_n 0, 1) := by decide +kernel
theorem dL_law_668 : decode code 668 = .ok (.iload_n 3, 1) := by decide +kernel
theorem dL_law_669 : decode code 669 = .ok (.iconst 1, 1) := by decide +kernel
theorem dL_law_670 : decode code 670 = .ok (.iadd, 1) := by decide +kernel
theorem dL_law_671 : decode code 671 = .ok (.iaload, 1) := by decide +kernel
theorem dL_law_672 : decode code 672 = .ok (.invokevirtual 84, 3) := by decide +kernel
theorem dL_law_675 : decode code 675 = .ok (.aload_n 2, 1) := by decide +kernel
theorem dL_law_676 : decode code 676 = .ok (.aload_n 0, 1) := by decide +kernel
theorem dL_law_677 : decode code 677 = .ok (.iload_n 3, 1) := by decide +kernel
theorem dL_law_678 : decode code 678 = .ok (.iconst 1, 1) := by decide +kernel
theorem dL_law_679 : decode code 679 = .ok (.iadd, 1) := by decide +kernel
theorem dL_law_680 : decode code 680 = .ok (.iaload, 1) := by decide +kernel
theorem dL_law_681 : decode code 681 = .ok (.invokevirtual 87, 3) := by decide +kernel
theorem dL_law_684 : decode code 684 = .ok (.if_icmp .eq 206, 3) := by decide +kernel
theorem dL_law_689 : decode code 689 = .ok (.aload_n 1, 1) := by decide +kernel
theorem dL_law_690 : decode code 690 = .ok (.aload_n 0, 1) := by decide +kernel
theorem dL_law_691 : decode code 691 = .ok (.iload_n 3, 1) := by decide +kernel
theorem dL_law_692 : decode code 692 = .ok (.iconst 1, 1) := by decide +kernel
theorem dL_law_693 : decode code 693 = .ok (.iadd, 1) := by decide +kernel
theorem dL_law_694 : decode code 694 = .ok (.iaload, 1) := by decide +kernel
theorem dL_law_695 : decode code 695 = .ok (.invokevirtual 88, 3) := by decide +kernel
theorem dL_law_698 : decode code 698 = .ok (.aload_n 2, 1) := by decide +kernel
theorem dL_law_699 : decode code 699 = .ok (.aload_n 0, 1) := by decide +kernel
theorem dL_law_700 : decode code 700 = .ok (.iload_n 3, 1) := by decide +kernel
theorem dL_law_701 : decode code 701 = .ok (.iconst 1, 1) := by decide +kernel
theorem dL_law_702 : decode code 702 = .ok (.iadd, 1) := by decide +kernel
theorem dL_law_703 : decode code 703 = .ok (.iaload, 1) := by decide +kernel
theorem dL_law_704 : decode code 704 = .ok (.invokevirtual 91, 3) := by decide +kernel
theorem dL_law_707 : decode code 707 = .ok (.if_icmp .eq 183, 3) := by decide +kernel
theorem dL_law_712 : decode code 712 = .ok (.aload_n 1, 1) := by decide +kernel
theorem dL_law_713 : decode code 713 = .ok (.invokevirtual 92, 3) := by decide +kernel
theorem dL_law_716 : decode code 716 = .ok (.aload_n 2, 1) := by decide +kernel
theorem dL_law_717 : decode code 717 = .ok (.invokevirtual 96, 3) := by decide +kernel
theorem dL_law_720 : decode code 720 = .ok (.if_icmp .eq 170, 3) := by decide +kernel
theorem dL_law_725 : decode code 725 = .ok (.aload_n 1, 1) := by decide +kernel
theorem dL_law_726 : decode code 726 = .ok (.invokevirtual 97, 3) := by decide +kernel
theorem dL_law_729 : decode code 729 = .ok (.aload_n 2, 1) := by decide +kernel
theorem dL_law_730 : decode code 730 = .ok (.invokevirtual 100, 3) := by decide +kernel
theorem dL_law_733 : decode code 733 = .ok (.if_icmp .eq 157, 3) := by decide +kernel
theorem dL_law_738 : decode code 738 = .ok (.aload_n 1, 1) := by decide +kernel
theorem dL_law_739 : decode code 739 = .ok (.aload_n 0, 1) := by decide +kernel
theorem dL_law_740 : decode code 740 = .ok (.iload_n 3, 1) := by decide +kernel
theorem dL_law_741 : decode code 741 = .ok (.iconst 1, 1) := by decide +kernel
theorem dL_law_742 : decode code 742 = .ok (.iadd, 1) := by decide +kernel
theorem dL_law_743 : decode code 743 = .ok (.iaload, 1) := by decide +kernel
theorem dL_law_744 : decode code 744 = .ok (.aload_n 0, 1) := by decide +kernel
theorem dL_law_745 : decode code 745 = .ok (.iload_n 3, 1) := by decide +kernel
theorem dL_law_746 : decode code 746 = .ok (.iconst 2, 1) := by decide +kernel
theorem dL_law_747 : decode code 747 = .ok (.iadd, 1) := by decide +kernel
theorem dL_law_748 : decode code 748 = .ok (.iaload, 1) := by decide +kernel
theorem dL_law_749 : decode code 749 = .ok (.invokevirtual 101, 3) := by decide +kernel
theorem dL_law_752 : decode code 752 = .ok (.aload_n 2, 1) := by decide +kernel
theorem dL_law_753 : decode code 753 = .ok (.aload_n 0, 1) := by decide +kernel
theorem dL_law_754 : decode code 754 = .ok (.iload_n 3, 1) := by decide +kernel
theorem dL_law_755 : decode code 755 = .ok (.iconst 1, 1) := by decide +kernel
theorem dL_law_756 : decode code 756 = .ok (.iadd, 1) := by decide +kernel
theorem dL_law_757 : decode code 757 = .ok (.iaload, 1) := by decide +kernel
theorem dL_law_758 : decode code 758 = .ok (.aload_n 0, 1) := by decide +kernel
theorem dL_law_759 : decode code 759 = .ok (.iload_n 3, 1) := by decide +kernel
theorem dL_law_760 : decode code 760 = .ok (.iconst 2, 1) := by decide +kernel
theorem dL_law_761 : decode code 761 = .ok (.iadd, 1) := by decide +kernel
theorem dL_law_762 : decode code 762 = .ok (.iaload, 1) := by decide +kernel
theorem dL_law_763 : decode code 763 = .ok (.invokevirtual 105, 3) := by decide +kernel
theorem dL_law_766 : decode code 766 = .ok (.lcmp, 1) := by decide +kernel
theorem dL_law_767 : decode code 767 = .ok (.ifCond .eq 123, 3) := by decide +kernel
theorem dL_law_772 : decode code 772 = .ok (.aload_n 1, 1) := by decide +kernel
theorem dL_law_773 : decode code 773 = .ok (.aload_n 0, 1) := by decide +kernel
theorem dL_law_774 : decode code 774 = .ok (.iload_n 3, 1) := by decide +kernel
theorem dL_law_775 : decode code 775 = .ok (.iconst 1, 1) := by decide +kernel
theorem dL_law_776 : decode code 776 = .ok (.iadd, 1) := by decide +kernel
theorem dL_law_777 : decode code 777 = .ok (.iaload, 1) := by decide +kernel
theorem dL_law_778 : decode code 778 = .ok (.aload_n 0, 1) := by decide +kernel
theorem dL_law_779 : decode code 779 = .ok (.iload_n 3, 1) := by decide +kernel
theorem dL_law_780 : decode code 780 = .ok (.iconst 2, 1) := by decide +kernel
theorem dL_law_781 : decode code 781 = .ok (.iadd, 1) := by decide +kernel
theorem dL_law_782 : decode code 782 = .ok (.iaload, 1) := by decide +kernel
theorem dL_law_783 : decode code 783 = .ok (.aload_n 0, 1) := by decide +kernel
theorem dL_law_784 : decode code 784 = .ok (.iload_n 3, 1) := by decide +kernel
theorem dL_law_785 : decode code 785 = .ok (.iconst 3, 1) := by decide +kernel
theorem dL_law_786 : decode code 786 = .ok (.iadd, 1) := by decide +kernel
theorem dL_law_787 : decode code 787 = .ok (.iaload, 1) := by decide +kernel
theorem dL_law_788 : decode code 788 = .ok (.invokevirtual 106, 3) := by decide +kernel
theorem dL_law_791 : decode code 791 = .ok (.aload_n 2, 1) := by decide +kernel
theorem dL_law_792 : decode code 792 = .ok (.aload_n 0, 1) := by decide +kernel
theorem dL_law_793 : decode code 793 = .ok (.iload_n 3, 1) := by decide +kernel
theorem dL_law_794 : decode code 794 = .ok (.iconst 1, 1) := by decide +kernel
theorem dL_law_795 : decode code 795 = .ok (.iadd, 1) := by decide +kernel
theorem dL_law_796 : decode code 796 = .ok (.iaload, 1) := by decide +kernel
theorem dL_law_797 : decode code 797 = .ok (.aload_n 0, 1) := by decide +kernel
theorem dL_law_798 : decode code 798 = .ok (.iload_n 3, 1) := by decide +kernel
theorem dL_law_799 : decode code 799 = .ok (.iconst 2, 1) := by decide +kernel
theorem dL_law_800 : decode code 800 = .ok (.iadd, 1) := by decide +kernel
theorem dL_law_801 : decode code 801 = .ok (.iaload, 1) := by decide +kernel
theorem dL_law_802 : decode code 802 = .ok (.aload_n 0, 1) := by decide +kernel
theorem dL_law_803 : decode code 803 = .ok (.iload_n 3, 1) := by decide +kernel
theorem dL_law_804 : decode code 804 = .ok (.iconst 3, 1) := by decide +kernel
theorem dL_law_805 : decode code 805 = .ok (.iadd, 1) := by decide +kernel
theorem dL_law_806 : decode code 806 = .ok (.iaload, 1) := by decide +kernel
theorem dL_law_807 : decode code 807 = .ok (.invokevirtual 109, 3) := by decide +kernel
theorem dL_law_810 : decode code 810 = .ok (.if_icmp .eq 80, 3) := by decide +kernel
theorem dL_law_815 : decode code 815 = .ok (.aload_n 1, 1) := by decide +kernel
theorem dL_law_816 : decode code 816 = .ok (.invokevirtual 110, 3) := by decide +kernel
theorem dL_law_819 : decode code 819 = .ok (.aload_n 2, 1) := by decide +kernel
theorem dL_law_820 : decode code 820 = .ok (.invokevirtual 114, 3) := by decide +kernel
theorem dL_law_823 : decode code 823 = .ok (.if_icmp .eq 67, 3) := by decide +kernel
theorem dL_law_828 : decode code 828 = .ok (.aload_n 1, 1) := by decide +kernel
theorem dL_law_829 : decode code 829 = .ok (.aload_n 0, 1) := by decide +kernel
theorem dL_law_830 : decode code 830 = .ok (.iload_n 3, 1) := by decide +kernel
theorem dL_law_831 : decode code 831 = .ok (.iconst 1, 1) := by decide +kernel
theorem dL_law_832 : decode code 832 = .ok (.iadd, 1) := by decide +kernel
theorem dL_law_833 : decode code 833 = .ok (.iaload, 1) := by decide +kernel
theorem dL_law_834 : decode code 834 = .ok (.ifCond .eq 7, 3) := by decide +kernel
theorem dL_law_837 : decode code 837 = .ok (.iconst 1, 1) := by decide +kernel
theorem dL_law_838 : decode code 838 = .ok (.goto 4, 3) := by decide +kernel
theorem dL_law_841 : decode code 841 = .ok (.iconst 0, 1) := by decide +kernel
theorem dL_law_842 : decode code 842 = .ok (.invokevirtual 115, 3) := by decide +kernel
theorem dL_law_845 : decode code 845 = .ok (.aload_n 2, 1) := by decide +kernel
theorem dL_law_846 : decode code 846 = .ok (.aload_n 0, 1) := by decide +kernel
theorem dL_law_847 : decode code 847 = .ok (.iload_n 3, 1) := by decide +kernel
theorem dL_law_848 : decode code 848 = .ok (.iconst 1, 1) := by decide +kernel
theorem dL_law_849 : decode code 849 = .ok (.iadd, 1) := by decide +kernel
theorem dL_law_850 : decode code 850 = .ok (.iaload, 1) := by decide +kernel
theorem dL_law_851 : decode code 851 = .ok (.ifCond .eq 7, 3) := by decide +kernel
theorem dL_law_854 : decode code 854 = .ok (.iconst 1, 1) := by decide +kernel
theorem dL_law_855 : decode code 855 = .ok (.goto 4, 3) := by decide +kernel
theorem dL_law_858 : decode code 858 = .ok (.iconst 0, 1) := by decide +kernel
theorem dL_law_859 : decode code 859 = .ok (.invokevirtual 119, 3) := by decide +kernel
theorem dL_law_862 : decode code 862 = .ok (.if_icmp .eq 28, 3) := by decide +kernel
theorem dL_law_867 : decode code 867 = .ok (.aload_n 1, 1) := by decide +kernel
theorem dL_law_868 : decode code 868 = .ok (.aload_n 0, 1) := by decide +kernel
theorem dL_law_869 : decode code 869 = .ok (.iload_n 3, 1) := by decide +kernel
theorem dL_law_870 : decode code 870 = .ok (.iconst 1, 1) := by decide +kernel
theorem dL_law_871 : decode code 871 = .ok (.iadd, 1) := by decide +kernel
theorem dL_law_872 : decode code 872 = .ok (.iaload, 1) := by decide +kernel
theorem dL_law_873 : decode code 873 = .ok (.invokevirtual 120, 3) := by decide +kernel
theorem dL_law_876 : decode code 876 = .ok (.aload_n 2, 1) := by decide +kernel
theorem dL_law_877 : decode code 877 = .ok (.aload_n 0, 1) := by decide +kernel
theorem dL_law_878 : decode code 878 = .ok (.iload_n 3, 1) := by decide +kernel
theorem dL_law_879 : decode code 879 = .ok (.iconst 1, 1) := by decide +kernel
theorem dL_law_880 : decode code 880 = .ok (.iadd, 1) := by decide +kernel
theorem dL_law_881 : decode code 881 = .ok (.iaload, 1) := by decide +kernel
theorem dL_law_882 : decode code 882 = .ok (.invokevirtual 123, 3) := by decide +kernel
theorem dL_law_885 : decode code 885 = .ok (.if_icmp .eq 5, 3) := by decide +kernel
section
variable {p : Program} {l : Launch} {e : Env} {s : State} {m : MethodId} {below : List Frame} {meth : Method} {c : Code} {b L : Nat} {xs : Nat → Int32} {D : va_G} {ct : Nat → ClassId} {adX adM : Nat → Nat} {σ τ : ev_S} {H : Heap} {locs : List Loc} {ls : Array Slot} {cells slots pc i : Nat} {st : List Value}
theorem lc_0 (X : LX p s m meth c b L xs D ct) (hW : LW D ct adX adM σ τ s H locs) (hR : XR σ τ) (hl : lv_has ls 4 [(3, .int (Int32.ofInt (i : Int))), (1, .ref (adX 0)), (2, .ref (adM 0)), (0, .ref b)]) (hi : i + 6 ≤ L) (hc : cells ≤ 600000) (hs : slots ≤ 7302250) (kk : ∀ (σ' τ' : ev_S) (H1 : Heap) (locs1 : List Loc), XR σ' τ' → LW D ct adX adM σ' τ' s H1 locs1 → W p l e room_1 s m #[Value.ref b] below meth c H1 locs1 cells slots (lw_Z below #[Value.ref b] s) (F0 m 890 ls [])) : W p l e room_1 s m #[Value.ref b] below meth c H locs cells slots (lw_Z below #[Value.ref b] s) (F0 m 148 ls []) := by
  refine lv_aload_n X.1.1 X.1.2.1 dL_law_148 rfl (lv_at hl 1 rfl) ?_
  refine l_arg 1 X hW.2.2.2.1 hl rfl rfl (Nat.le_of_ble_eq_true rfl) rfl hi dL_law_149 dL_law_150 dL_law_151 dL_law_152 dL_law_153 ?_
  obtain ⟨v, P, P', hX, hM, hPP⟩ := sim_state ((xs (i + 1)).toInt) σ τ hW.2.2.2.2.1 hW.2.2.2.2.2 hR
  refine l_X (st := []) (As := [ev_i (xs (i + 1)).toInt]) X hW cm_X11_state rfl wl_731 wl_732 wl_733 rfl dL_law_154 hl.1 rfl (Nat.le_of_ble_eq_true rfl) (Nat.le_of_ble_eq_true rfl) (fun v hv => by simp only [List.mem_cons, List.not_mem_nil, or_false] at hv; rcases hv with rfl <;> exact ev_Rt _) hc hs hX (fun z σ' H1 locs1 hv hz hp hW1 => ?_)
  refine lv_aload_n X.1.1 X.1.2.1 dL_law_157 rfl (lv_at hl 2 rfl) ?_
  refine l_arg 1 X hW1.2.2.2.1 hl rfl rfl (Nat.le_of_ble_eq_true rfl) rfl hi dL_law_158 dL_law_159 dL_law_160 dL_law_161 dL_law_162 ?_
  refine l_M (st := [.int (Int32.ofInt z)]) (As := [ev_i (xs (i + 1)).toInt]) X hW1 cm_X12_state rfl wl_1642 wl_1643 wl_1644 rfl dL_law_163 hl.1 rfl (Nat.le_of_ble_eq_true rfl) (Nat.le_of_ble_eq_true rfl) (fun v hv => by simp only [List.mem_cons, List.not_mem_nil, or_false] at hv; rcases hv with rfl <;> exact ev_Rt _) hc hs hM (fun z2 τ' H2 locs2 hv2 hz2 hp2 hW2 => ?_)
  have e2 : z2 = z := by rw [hv] at hv2; exact (Sum.inl.inj hv2).symm
  subst e2
  exact lv_icmp_eq (tgt := 890) X.1.1 X.1.2.1 dL_law_166 (by decide) (fun _ => kk σ' τ' H2 locs2 (hPP σ' τ' hp hp2) hW2) (fun h => absurd rfl h)
theorem lc_1 (X : LX p s m meth c b L xs D ct) (hW : LW D ct adX adM σ τ s H locs) (hR : XR σ τ) (hl : lv_has ls 4 [(3, .int (Int32.ofInt (i : Int))), (1, .ref (adX 0)), (2, .ref (adM 0)), (0, .ref b)]) (hi : i + 6 ≤ L) (hc : cells ≤ 600000) (hs : slots ≤ 7302250) (kk : ∀ (σ' τ' : ev_S) (H1 : Heap) (locs1 : List Loc), XR σ' τ' → LW D ct adX adM σ' τ' s H1 locs1 → W p l e room_1 s m #[Value.ref b] below meth c H1 locs1 cells slots (lw_Z below #[Value.ref b] s) (F0 m 890 ls [])) : W p l e room_1 s m #[Value.ref b] below meth c H locs cells slots (lw_Z below #[Value.ref b] s) (F0 m 171 ls []) := by
  refine lv_aload_n X.1.1 X.1.2.1 dL_law_171 rfl (lv_at hl 1 rfl) ?_
  refine l_arg 1 X hW.2.2.2.1 hl rfl rfl (Nat.le_of_ble_eq_true rfl) rfl hi dL_law_172 dL_law_173 dL_law_174 dL_law_175 dL_law_176 ?_
  refine l_arg 2 X hW.2.2.2.1 hl rfl rfl (Nat.le_of_ble_eq_true rfl) rfl hi dL_law_177 dL_law_178 dL_law_179 dL_law_180 dL_law_181 ?_
  obtain ⟨v, P, P', hX, hM, hPP⟩ := sim_town ((xs (i + 1)).toInt) ((xs (i + 2)).toInt) σ τ hW.2.2.2.2.1 hW.2.2.2.2.2 hR
  refine l_X (st := []) (As := [ev_i (xs (i + 1)).toInt, ev_i (xs (i + 2)).toInt]) X hW cm_X11_town rfl wl_743 wl_744 wl_745 rfl dL_law_182 hl.1 rfl (Nat.le_of_ble_eq_true rfl) (Nat.le_of_ble_eq_true rfl) (fun v hv => by simp only [List.mem_cons, List.not_mem_nil, or_false] at hv; rcases hv with rfl | rfl <;> exact ev_Rt _) hc hs hX (fun z σ' H1 locs1 hv hz hp hW1 => ?_)
  refine lv_aload_n X.1.1 X.1.2.1 dL_law_185 rfl (lv_at hl 2 rfl) ?_
  refine l_arg 1 X hW1.2.2.2.1 hl rfl rfl (Nat.le_of_ble_eq_true rfl) rfl hi dL_law_186 dL_law_187 dL_law_188 dL_law_189 dL_law_190 ?_
  refine l_arg 2 X hW1.2.2.2.1 hl rfl rfl (Nat.le_of_ble_eq_true rfl) rfl hi dL_law_191 dL_law_192 dL_law_193 dL_law_194 dL_law_195 ?_
  refine l_M (st := [.int (Int32.ofInt z)]) (As := [ev_i (xs (i + 1)).toInt, ev_i (xs (i + 2)).toInt]) X hW1 cm_X12_town rfl wl_1646 wl_1647 wl_1648 rfl dL_law_196 hl.1 rfl (Nat.le_of_ble_eq_true rfl) (Nat.le_of_ble_eq_true rfl) (fun v hv => by simp only [List.mem_cons, List.not_mem_nil, or_false] at hv; rcases hv with rfl | rfl <;> exact ev_Rt _) hc hs hM (fun z2 τ' H2 locs2 hv2 hz2 hp2 hW2 => ?_)
  have e2 : z2 = z := by rw [hv] at hv2; exact (Sum.inl.inj hv2).symm
  subst e2
  exact lv_icmp_eq (tgt := 890) X.1.1 X.1.2.1 dL_law_199 (by decide) (fun _ => kk σ' τ' H2 locs2 (hPP σ' τ' hp hp2) hW2) (fun h => absurd rfl h)
theorem lc_2 (X : LX p s m meth c b L xs D ct) (hW : LW D ct adX adM σ τ s H locs) (hR : XR σ τ) (hl : lv_has ls 4 [(3, .int (Int32.ofInt (i : Int))), (1, .ref (adX 0)), (2, .ref (adM 0)), (0, .ref b)]) (hi : i + 6 ≤ L) (hc : cells ≤ 600000) (hs : slots ≤ 7302250) (kk : ∀ (σ' τ' : ev_S) (H1 : Heap) (locs1 : List Loc), XR σ' τ' → LW D ct adX adM σ' τ' s H1 locs1 → W p l e room_1 s m #[Value.ref b] below meth c H1 locs1 cells slots (lw_Z below #[Value.ref b] s) (F0 m 890 ls [])) : W p l e room_1 s m #[Value.ref b] below meth c H locs cells slots (lw_Z below #[Value.ref b] s) (F0 m 204 ls []) := by
  refine lv_aload_n X.1.1 X.1.2.1 dL_law_204 rfl (lv_at hl 1 rfl) ?_
  refine l_arg 1 X hW.2.2.2.1 hl rfl rfl (Nat.le_of_ble_eq_true rfl) rfl hi dL_law_205 dL_law_206 dL_law_207 dL_law_208 dL_law_209 ?_
  refine l_arg 2 X hW.2.2.2.1 hl rfl rfl (Nat.le_of_ble_eq_true rfl) rfl hi dL_law_210 dL_law_211 dL_law_212 dL_law_213 dL_law_214 ?_
  refine l_arg 3 X hW.2.2.2.1 hl rfl rfl (Nat.le_of_ble_eq_true rfl) rfl hi dL_law_215 dL_law_216 dL_law_217 dL_law_218 dL_law_219 ?_
  obtain ⟨v, P, P', hX, hM, hPP⟩ := sim_set ((xs (i + 1)).toInt) ((xs (i + 2)).toInt) ((xs (i + 3)).toInt) σ τ hW.2.2.2.2.1 hW.2.2.2.2.2 hR
  refine l_X (st := []) (As := [ev_i (xs (i + 1)).toInt, ev_i (xs (i + 2)).toInt, ev_i (xs (i + 3)).toInt]) X hW cm_X11_set rfl wl_747 wl_748 wl_749 rfl dL_law_220 hl.1 rfl (Nat.le_of_ble_eq_true rfl) (Nat.le_of_ble_eq_true rfl) (fun v hv => by simp only [List.mem_cons, List.not_mem_nil, or_false] at hv; rcases hv with rfl | rfl | rfl <;> exact ev_Rt _) hc hs hX (fun z σ' H1 locs1 hv hz hp hW1 => ?_)
  refine lv_aload_n X.1.1 X.1.2.1 dL_law_223 rfl (lv_at hl 2 rfl) ?_
  refine l_arg 1 X hW1.2.2.2.1 hl rfl rfl (Nat.le_of_ble_eq_true rfl) rfl hi dL_law_224 dL_law_225 dL_law_226 dL_law_227 dL_law_228 ?_
  refine l_arg 2 X hW1.2.2.2.1 hl rfl rfl (Nat.le_of_ble_eq_true rfl) rfl hi dL_law_229 dL_law_230 dL_law_231 dL_law_232 dL_law_233 ?_
  refine l_arg 3 X hW1.2.2.2.1 hl rfl rfl (Nat.le_of_ble_eq_true rfl) rfl hi dL_law_234 dL_law_235 dL_law_236 dL_law_237 dL_law_238 ?_
  refine l_M (st := [.int (Int32.ofInt z)]) (As := [ev_i (xs (i + 1)).toInt, ev_i (xs (i + 2)).toInt, ev_i (xs (i + 3)).toInt]) X hW1 cm_X12_set rfl wl_1654 wl_1655 wl_1656 rfl dL_law_239 hl.1 rfl (Nat.le_of_ble_eq_true rfl) (Nat.le_of_ble_eq_true rfl) (fun v hv => by simp only [List.mem_cons, List.not_mem_nil, or_false] at hv; rcases hv with rfl | rfl | rfl <;> exact ev_Rt _) hc hs hM (fun z2 τ' H2 locs2 hv2 hz2 hp2 hW2 => ?_)
  have e2 : z2 = z := by rw [hv] at hv2; exact (Sum.inl.inj hv2).symm
  subst e2
  exact lv_icmp_eq (tgt := 890) X.1.1 X.1.2.1 dL_law_242 (by decide) (fun _ => kk σ' τ' H2 locs2 (hPP σ' τ' hp hp2) hW2) (fun h => absurd rfl h)
theorem lc_3 (X : LX p s m meth c b L xs D ct) (hW : LW D ct adX adM σ τ s H locs) (hR : XR σ τ) (hl : lv_has ls 4 [(3, .int (Int32.ofInt (i : Int))), (1, .ref (adX 0)), (2, .ref (adM 0)), (0, .ref b)]) (hi : i + 6 ≤ L) (hc : cells ≤ 600000) (hs : slots ≤ 7302250) (kk : ∀ (σ' τ' : ev_S) (H1 : Heap) (locs1 : List Loc), XR σ' τ' → LW D ct adX adM σ' τ' s H1 locs1 → W p l e room_1 s m #[Value.ref b] below meth c H1 locs1 cells slots (lw_Z below #[Value.ref b] s) (F0 m 890 ls [])) : W p l e room_1 s m #[Value.ref b] below meth c H locs cells slots (lw_Z below #[Value.ref b] s) (F0 m 247 ls []) := by
  refine lv_aload_n X.1.1 X.1.2.1 dL_law_247 rfl (lv_at hl 1 rfl) ?_
  refine l_arg 1 X hW.2.2.2.1 hl rfl rfl (Nat.le_of_ble_eq_true rfl) rfl hi dL_law_248 dL_law_249 dL_law_250 dL_law_251 dL_law_252 ?_
  obtain ⟨v, P, P', hX, hM, hPP⟩ := sim_ward ((xs (i + 1)).toInt) (ev_Rt _) σ τ hW.2.2.2.2.1 hW.2.2.2.2.2 hR
  refine l_X (st := []) (As := [ev_i (xs (i + 1)).toInt]) X hW cm_X11_ward rfl wl_755 wl_756 wl_757 rfl dL_law_253 hl.1 rfl (Nat.le_of_ble_eq_true rfl) (Nat.le_of_ble_eq_true rfl) (fun v hv => by simp only [List.mem_cons, List.not_mem_nil, or_false] at hv; rcases hv with rfl <;> exact ev_Rt _) hc hs hX (fun z σ' H1 locs1 hv hz hp hW1 => ?_)
  refine lv_aload_n X.1.1 X.1.2.1 dL_law_256 rfl (lv_at hl 2 rfl) ?_
  refine l_arg 1 X hW1.2.2.2.1 hl rfl rfl (Nat.le_of_ble_eq_true rfl) rfl hi dL_law_257 dL_law_258 dL_law_259 dL_law_260 dL_law_261 ?_
  refine l_M (st := [.int (Int32.ofInt z)]) (As := [ev_i (xs (i + 1)).toInt]) X hW1 cm_X12_ward rfl wl_1662 wl_1663 wl_1664 rfl dL_law_262 hl.1 rfl (Nat.le_of_ble_eq_true rfl) (Nat.le_of_ble_eq_true rfl) (fun v hv => by simp only [List.mem_cons, List.not_mem_nil, or_false] at hv; rcases hv with rfl <;> exact ev_Rt _) hc hs hM (fun z2 τ' H2 locs2 hv2 hz2 hp2 hW2 => ?_)
  have e2 : z2 = z := by rw [hv] at hv2; exact (Sum.inl.inj hv2).symm
  subst e2
  exact lv_icmp_eq (tgt := 890) X.1.1 X.1.2.1 dL_law_265 (by decide) (fun _ => kk σ' τ' H2 locs2 (hPP σ' τ' hp hp2) hW2) (fun h => absurd rfl h)
theorem lc_4 (X : LX p s m meth c b L xs D ct) (hW : LW D ct adX adM σ τ s H locs) (hR : XR σ τ) (hl : lv_has ls 4 [(3, .int (Int32.ofInt (i : Int))), (1, .ref (adX 0)), (2, .ref (adM 0)), (0, .ref b)]) (hi : i + 6 ≤ L) (hc : cells ≤ 600000) (hs : slots ≤ 7302250) (kk : ∀ (σ' τ' : ev_S) (H1 : Heap) (locs1 : List Loc), XR σ' τ' → LW D ct adX adM σ' τ' s H1 locs1 → W p l e room_1 s m #[Value.ref b] below meth c H1 locs1 cells slots (lw_Z below #[Value.ref b] s) (F0 m 890 ls [])) : W p l e room_1 s m #[Value.ref b] below meth c H locs cells slots (lw_Z below #[Value.ref b] s) (F0 m 270 ls []) := by
  refine lv_aload_n X.1.1 X.1.2.1 dL_law_270 rfl (lv_at hl 1 rfl) ?_
  refine l_arg 1 X hW.2.2.2.1 hl rfl rfl (Nat.le_of_ble_eq_true rfl) rfl hi dL_law_271 dL_law_272 dL_law_273 dL_law_274 dL_law_275 ?_
  refine l_arg 2 X hW.2.2.2.1 hl rfl rfl (Nat.le_of_ble_eq_true rfl) rfl hi dL_law_276 dL_law_277 dL_law_278 dL_law_279 dL_law_280 ?_
  obtain ⟨v, P, P', hX, hM, hPP⟩ := sim_angel ((xs (i + 1)).toInt) ((xs (i + 2)).toInt) (ev_Rt _) σ τ hW.2.2.2.2.1 hW.2.2.2.2.2 hR
  refine l_X (st := []) (As := [ev_i (xs (i + 1)).toInt, ev_i (xs (i + 2)).toInt]) X hW cm_X11_angel rfl wl_763 wl_764 wl_765 rfl dL_law_281 hl.1 rfl (Nat.le_of_ble_eq_true rfl) (Nat.le_of_ble_eq_true rfl) (fun v hv => by simp only [List.mem_cons, List.not_mem_nil, or_false] at hv; rcases hv with rfl | rfl <;> exact ev_Rt _) hc hs hX (fun z σ' H1 locs1 hv hz hp hW1 => ?_)
  refine lv_aload_n X.1.1 X.1.2.1 dL_law_284 rfl (lv_at hl 2 rfl) ?_
  refine l_arg 1 X hW1.2.2.2.1 hl rfl rfl (Nat.le_of_ble_eq_true rfl) rfl hi dL_law_285 dL_law_286 dL_law_287 dL_law_288 dL_law_289 ?_
  refine l_arg 2 X hW1.2.2.2.1 hl rfl rfl (Nat.le_of_ble_eq_true rfl) rfl hi dL_law_290 dL_law_291 dL_law_292 dL_law_293 dL_law_294 ?_
  refine l_M (st := [.int (Int32.ofInt z)]) (As := [ev_i (xs (i + 1)).toInt, ev_i (xs (i + 2)).toInt]) X hW1 cm_X12_angel rfl wl_1670 wl_1671 wl_1672 rfl dL_law_295 hl.1 rfl (Nat.le_of_ble_eq_true rfl) (Nat.le_of_ble_eq_true rfl) (fun v hv => by simp only [List.mem_cons, List.not_mem_nil, or_false] at hv; rcases hv with rfl | rfl <;> exact ev_Rt _) hc hs hM (fun z2 τ' H2 locs2 hv2 hz2 hp2 hW2 => ?_)
  have e2 : z2 = z := by rw [hv] at hv2; exact (Sum.inl.inj hv2).symm
  subst e2
  exact lv_icmp_eq (tgt := 890) X.1.1 X.1.2.1 dL_law_298 (by decide) (fun _ => kk σ' τ' H2 locs2 (hPP σ' τ' hp hp2) hW2) (fun h => absurd rfl h)
theorem lc_5 (X : LX p s m meth c b L xs D ct) (hW : LW D ct adX adM σ τ s H locs) (hR : XR σ τ) (hl : lv_has ls 4 [(3, .int (Int32.ofInt (i : Int))), (1, .ref (adX 0)), (2, .ref (adM 0)), (0, .ref b)]) (hi : i + 6 ≤ L) (hc : cells ≤ 600000) (hs : slots ≤ 7302250) (kk : ∀ (σ' τ' : ev_S) (H1 : Heap) (locs1 : List Loc), XR σ' τ' → LW D ct adX adM σ' τ' s H1 locs1 → W p l e room_1 s m #[Value.ref b] below meth c H1 locs1 cells slots (lw_Z below #[Value.ref b] s) (F0 m 890 ls [])) : W p l e room_1 s m #[Value.ref b] below meth c H locs cells slots (lw_Z below #[Value.ref b] s) (F0 m 303 ls []) := by
  refine lv_aload_n X.1.1 X.1.2.1 dL_law_303 rfl (lv_at hl 1 rfl) ?_
  refine l_arg 1 X hW.2.2.2.1 hl rfl rfl (Nat.le_of_ble_eq_true rfl) rfl hi dL_law_304 dL_law_305 dL_law_306 dL_law_307 dL_law_308 ?_
  refine l_arg 2 X hW.2.2.2.1 hl rfl rfl (Nat.le_of_ble_eq_true rfl) rfl hi dL_law_309 dL_law_310 dL_law_311 dL_law_312 dL_law_313 ?_
  refine l_arg 3 X hW.2.2.2.1 hl rfl rfl (Nat.le_of_ble_eq_true rfl) rfl hi dL_law_314 dL_law_315 dL_law_316 dL_law_317 dL_law_318 ?_
  obtain ⟨v, P, P', hX, hM, hPP⟩ := sim_other ((xs (i + 1)).toInt) ((xs (i + 2)).toInt) ((xs (i + 3)).toInt) (ev_Rt _) σ τ hW.2.2.2.2.1 hW.2.2.2.2.2 hR
  refine l_X (st := []) (As := [ev_i (xs (i + 1)).toInt, ev_i (xs (i + 2)).toInt, ev_i (xs (i + 3)).toInt]) X hW cm_X11_other rfl wl_767 wl_768 wl_769 rfl dL_law_319 hl.1 rfl (Nat.le_of_ble_eq_true rfl) (Nat.le_of_ble_eq_true rfl) (fun v hv => by simp only [List.mem_cons, List.not_mem_nil, or_false] at hv; rcases hv with rfl | rfl | rfl <;> exact ev_Rt _) hc hs hX (fun z σ' H1 locs1 hv hz hp hW1 => ?_)
  refine lv_aload_n X.1.1 X.1.2.1 dL_law_322 rfl (lv_at hl 2 rfl) ?_
  refine l_arg 1 X hW1.2.2.2.1 hl rfl rfl (Nat.le_of_ble_eq_true rfl) rfl hi dL_law_323 dL_law_324 dL_law_325 dL_law_326 dL_law_327 ?_
  refine l_arg 2 X hW1.2.2.2.1 hl rfl rfl (Nat.le_of_ble_eq_true rfl) rfl hi dL_law_328 dL_law_329 dL_law_330 dL_law_331 dL_law_332 ?_
  refine l_arg 3 X hW1.2.2.2.1 hl rfl rfl (Nat.le_of_ble_eq_true rfl) rfl hi dL_law_333 dL_law_334 dL_law_335 dL_law_336 dL_law_337 ?_
  refine l_M (st := [.int (Int32.ofInt z)]) (As := [ev_i (xs (i + 1)).toInt, ev_i (xs (i + 2)).toInt, ev_i (xs (i + 3)).toInt]) X hW1 cm_X12_other rfl wl_1674 wl_1675 wl_1676 rfl dL_law_338 hl.1 rfl (Nat.le_of_ble_eq_true rfl) (Nat.le_of_ble_eq_true rfl) (fun v hv => by simp only [List.mem_cons, List.not_mem_nil, or_false] at hv; rcases hv with rfl | rfl | rfl <;> exact ev_Rt _) hc hs hM (fun z2 τ' H2 locs2 hv2 hz2 hp2 hW2 => ?_)
  have e2 : z2 = z := by rw [hv] at hv2; exact (Sum.inl.inj hv2).symm
  subst e2
  exact lv_icmp_eq (tgt := 890) X.1.1 X.1.2.1 dL_law_341 (by decide) (fun _ => kk σ' τ' H2 locs2 (hPP σ' τ' hp hp2) hW2) (fun h => absurd rfl h)
theorem lc_6 (X : LX p s m meth c b L xs D ct) (hW : LW D ct adX adM σ τ s H locs) (hR : XR σ τ) (hl : lv_has ls 4 [(3, .int (Int32.ofInt (i : Int))), (1, .ref (adX 0)), (2, .ref (adM 0)), (0, .ref b)]) (hi : i + 6 ≤ L) (hc : cells ≤ 600000) (hs : slots ≤ 7302250) (kk : ∀ (σ' τ' : ev_S) (H1 : Heap) (locs1 : List Loc), XR σ' τ' → LW D ct adX adM σ' τ' s H1 locs1 → W p l e room_1 s m #[Value.ref b] below meth c H1 locs1 cells slots (lw_Z below #[Value.ref b] s) (F0 m 890 ls [])) : W p l e room_1 s m #[Value.ref b] below meth c H locs cells slots (lw_Z below #[Value.ref b] s) (F0 m 346 ls []) := by
  refine lv_aload_n X.1.1 X.1.2.1 dL_law_346 rfl (lv_at hl 1 rfl) ?_
  refine l_arg 1 X hW.2.2.2.1 hl rfl rfl (Nat.le_of_ble_eq_true rfl) rfl hi dL_law_347 dL_law_348 dL_law_349 dL_law_350 dL_law_351 ?_
  refine l_arg 2 X hW.2.2.2.1 hl rfl rfl (Nat.le_of_ble_eq_true rfl) rfl hi dL_law_352 dL_law_353 dL_law_354 dL_law_355 dL_law_356 ?_
  refine l_arg 3 X hW.2.2.2.1 hl rfl rfl (Nat.le_of_ble_eq_true rfl) rfl hi dL_law_357 dL_law_358 dL_law_359 dL_law_360 dL_law_361 ?_
  refine l_arg 4 X hW.2.2.2.1 hl rfl rfl (Nat.le_of_ble_eq_true rfl) rfl hi dL_law_362 dL_law_363 dL_law_364 dL_law_365 dL_law_366 ?_
  refine l_arg 5 X hW.2.2.2.1 hl rfl rfl (Nat.le_of_ble_eq_true rfl) rfl hi dL_law_367 dL_law_368 dL_law_369 dL_law_370 dL_law_371 ?_
  obtain ⟨v, P, P', hX, hM, hPP⟩ := sim_feed ((xs (i + 1)).toInt) ((xs (i + 2)).toInt) ((xs (i + 3)).toInt) ((xs (i + 4)).toInt) ((xs (i + 5)).toInt) σ τ hW.2.2.2.2.1 hW.2.2.2.2.2 hR
  refine l_X (st := []) (As := [ev_i (xs (i + 1)).toInt, ev_i (xs (i + 2)).toInt, ev_i (xs (i + 3)).toInt, ev_i (xs (i + 4)).toInt, ev_i (xs (i + 5)).toInt]) X hW cm_X11_feed rfl wl_771 wl_772 wl_773 rfl dL_law_372 hl.1 rfl (Nat.le_of_ble_eq_true rfl) (Nat.le_of_ble_eq_true rfl) (fun v hv => by simp only [List.mem_cons, List.not_mem_nil, or_false] at hv; rcases hv with rfl | rfl | rfl | rfl | rfl <;> exact ev_Rt _) hc hs hX (fun z σ' H1 locs1 hv hz hp hW1 => ?_)
  refine lv_aload_n X.1.1 X.1.2.1 dL_law_375 rfl (lv_at hl 2 rfl) ?_
  refine l_arg 1 X hW1.2.2.2.1 hl rfl rfl (Nat.le_of_ble_eq_true rfl) rfl hi dL_law_376 dL_law_377 dL_law_378 dL_law_379 dL_law_380 ?_
  refine l_arg 2 X hW1.2.2.2.1 hl rfl rfl (Nat.le_of_ble_eq_true rfl) rfl hi dL_law_381 dL_law_382 dL_law_383 dL_law_384 dL_law_385 ?_
  refine l_arg 3 X hW1.2.2.2.1 hl rfl rfl (Nat.le_of_ble_eq_true rfl) rfl hi dL_law_386 dL_law_387 dL_law_388 dL_law_389 dL_law_390 ?_
  refine l_arg 4 X hW1.2.2.2.1 hl rfl rfl (Nat.le_of_ble_eq_true rfl) rfl hi dL_law_391 dL_law_392 dL_law_393 dL_law_394 dL_law_395 ?_
  refine l_arg 5 X hW1.2.2.2.1 hl rfl rfl (Nat.le_of_ble_eq_true rfl) rfl hi dL_law_396 dL_law_397 dL_law_398 dL_law_399 dL_law_400 ?_
  refine l_M (st := [.int (Int32.ofInt z)]) (As := [ev_i (xs (i + 1)).toInt, ev_i (xs (i + 2)).toInt, ev_i (xs (i + 3)).toInt, ev_i (xs (i + 4)).toInt, ev_i (xs (i + 5)).toInt]) X hW1 cm_X12_feed rfl wl_1678 wl_1679 wl_1680 rfl dL_law_401 hl.1 rfl (Nat.le_of_ble_eq_true rfl) (Nat.le_of_ble_eq_true rfl) (fun v hv => by simp only [List.mem_cons, List.not_mem_nil, or_false] at hv; rcases hv with rfl | rfl | rfl | rfl | rfl <;> exact ev_Rt _) hc hs hM (fun z2 τ' H2 locs2 hv2 hz2 hp2 hW2 => ?_)
  have e2 : z2 = z := by rw [hv] at hv2; exact (Sum.inl.inj hv2).symm
  subst e2
  exact lv_icmp_eq (tgt := 890) X.1.1 X.1.2.1 dL_law_404 (by decide) (fun _ => kk σ' τ' H2 locs2 (hPP σ' τ' hp hp2) hW2) (fun h => absurd rfl h)
theorem lc_7 (X : LX p s m meth c b L xs D ct) (hW : LW D ct adX adM σ τ s H locs) (hR : XR σ τ) (hl : lv_has ls 4 [(3, .int (Int32.ofInt (i : Int))), (1, .ref (adX 0)), (2, .ref (adM 0)), (0, .ref b)]) (hi : i + 6 ≤ L) (hc : cells ≤ 600000) (hs : slots ≤ 7302250) (kk : ∀ (σ' τ' : ev_S) (H1 : Heap) (locs1 : List Loc), XR σ' τ' → LW D ct adX adM σ' τ' s H1 locs1 → W p l e room_1 s m #[Value.ref b] below meth c H1 locs1 cells slots (lw_Z below #[Value.ref b] s) (F0 m 890 ls [])) : W p l e room_1 s m #[Value.ref b] below meth c H locs cells slots (lw_Z below #[Value.ref b] s) (F0 m 409 ls []) := by
  refine lv_aload_n X.1.1 X.1.2.1 dL_law_409 rfl (lv_at hl 1 rfl) ?_
  refine l_arg 1 X hW.2.2.2.1 hl rfl rfl (Nat.le_of_ble_eq_true rfl) rfl hi dL_law_410 dL_law_411 dL_law_412 dL_law_413 dL_law_414 ?_
  obtain ⟨v, P, P', hX, hM, hPP⟩ := sim_end ((xs (i + 1)).toInt) σ τ hW.2.2.2.2.1 hW.2.2.2.2.2 hR
  refine l_X (st := []) (As := [ev_i (xs (i + 1)).toInt]) X hW cm_X11_end rfl wl_779 wl_780 wl_781 rfl dL_law_415 hl.1 rfl (Nat.le_of_ble_eq_true rfl) (Nat.le_of_ble_eq_true rfl) (fun v hv => by simp only [List.mem_cons, List.not_mem_nil, or_false] at hv; rcases hv with rfl <;> exact ev_Rt _) hc hs hX (fun z σ' H1 locs1 hv hz hp hW1 => ?_)
  refine lv_aload_n X.1.1 X.1.2.1 dL_law_418 rfl (lv_at hl 2 rfl) ?_
  refine l_arg 1 X hW1.2.2.2.1 hl rfl rfl (Nat.le_of_ble_eq_true rfl) rfl hi dL_law_419 dL_law_420 dL_law_421 dL_law_422 dL_law_423 ?_
  refine l_M (st := [.int (Int32.ofInt z)]) (As := [ev_i (xs (i + 1)).toInt]) X hW1 cm_X12_end rfl wl_1686 wl_1687 wl_1688 rfl dL_law_424 hl.1 rfl (Nat.le_of_ble_eq_true rfl) (Nat.le_of_ble_eq_true rfl) (fun v hv => by simp only [List.mem_cons, List.not_mem_nil, or_false] at hv; rcases hv with rfl <;> exact ev_Rt _) hc hs hM (fun z2 τ' H2 locs2 hv2 hz2 hp2 hW2 => ?_)
  have e2 : z2 = z := by rw [hv] at hv2; exact (Sum.inl.inj hv2).symm
  subst e2
  exact lv_icmp_eq (tgt := 890) X.1.1 X.1.2.1 dL_law_427 (by decide) (fun _ => kk σ' τ' H2 locs2 (hPP σ' τ' hp hp2) hW2) (fun h => absurd rfl h)
theorem lc_8 (X : LX p s m meth c b L xs D ct) (hW : LW D ct adX adM σ τ s H locs) (hR : XR σ τ) (hl : lv_has ls 4 [(3, .int (Int32.ofInt (i : Int))), (1, .ref (adX 0)), (2, .ref (adM 0)), (0, .ref b)]) (hi : i + 6 ≤ L) (hc : cells ≤ 600000) (hs : slots ≤ 7302250) (kk : ∀ (σ' τ' : ev_S) (H1 : Heap) (locs1 : List Loc), XR σ' τ' → LW D ct adX adM σ' τ' s H1 locs1 → W p l e room_1 s m #[Value.ref b] below meth c H1 locs1 cells slots (lw_Z below #[Value.ref b] s) (F0 m 890 ls [])) : W p l e room_1 s m #[Value.ref b] below meth c H locs cells slots (lw_Z below #[Value.ref b] s) (F0 m 432 ls []) := by
  refine lv_aload_n X.1.1 X.1.2.1 dL_law_432 rfl (lv_at hl 1 rfl) ?_
  refine l_arg 1 X hW.2.2.2.1 hl rfl rfl (Nat.le_of_ble_eq_true rfl) rfl hi dL_law_433 dL_law_434 dL_law_435 dL_law_436 dL_law_437 ?_
  refine l_arg 2 X hW.2.2.2.1 hl rfl rfl (Nat.le_of_ble_eq_true rfl) rfl hi dL_law_438 dL_law_439 dL_law_440 dL_law_441 dL_law_442 ?_
  obtain ⟨v, P, P', hX, hM, hPP⟩ := sim_text ((xs (i + 1)).toInt) ((xs (i + 2)).toInt) σ τ hW.2.2.2.2.1 hW.2.2.2.2.2 hR
  refine l_X (st := []) (As := [ev_i (xs (i + 1)).toInt, ev_i (xs (i + 2)).toInt]) X hW cm_X11_text rfl wl_783 wl_784 wl_785 rfl dL_law_443 hl.1 rfl (Nat.le_of_ble_eq_true rfl) (Nat.le_of_ble_eq_true rfl) (fun v hv => by simp only [List.mem_cons, List.not_mem_nil, or_false] at hv; rcases hv with rfl | rfl <;> exact ev_Rt _) hc hs hX (fun z σ' H1 locs1 hv hz hp hW1 => ?_)
  refine lv_aload_n X.1.1 X.1.2.1 dL_law_446 rfl (lv_at hl 2 rfl) ?_
  refine l_arg 1 X hW1.2.2.2.1 hl rfl rfl (Nat.le_of_ble_eq_true rfl) rfl hi dL_law_447 dL_law_448 dL_law_449 dL_law_450 dL_law_451 ?_
  refine l_arg 2 X hW1.2.2.2.1 hl rfl rfl (Nat.le_of_ble_eq_true rfl) rfl hi dL_law_452 dL_law_453 dL_law_454 dL_law_455 dL_law_456 ?_
  refine l_M (st := [.int (Int32.ofInt z)]) (As := [ev_i (xs (i + 1)).toInt, ev_i (xs (i + 2)).toInt]) X hW1 cm_X12_text rfl wl_1690 wl_1691 wl_1692 rfl dL_law_457 hl.1 rfl (Nat.le_of_ble_eq_true rfl) (Nat.le_of_ble_eq_true rfl) (fun v hv => by simp only [List.mem_cons, List.not_mem_nil, or_false] at hv; rcases hv with rfl | rfl <;> exact ev_Rt _) hc hs hM (fun z2 τ' H2 locs2 hv2 hz2 hp2 hW2 => ?_)
  have e2 : z2 = z := by rw [hv] at hv2; exact (Sum.inl.inj hv2).symm
  subst e2
  exact lv_icmp_eq (tgt := 890) X.1.1 X.1.2.1 dL_law_460 (by decide) (fun _ => kk σ' τ' H2 locs2 (hPP σ' τ' hp hp2) hW2) (fun h => absurd rfl h)
theorem lc_9 (X : LX p s m meth c b L xs D ct) (hW : LW D ct adX adM σ τ s H locs) (hR : XR σ τ) (hl : lv_has ls 4 [(3, .int (Int32.ofInt (i : Int))), (1, .ref (adX 0)), (2, .ref (adM 0)), (0, .ref b)]) (hi : i + 6 ≤ L) (hc : cells ≤ 600000) (hs : slots ≤ 7302250) (kk : ∀ (σ' τ' : ev_S) (H1 : Heap) (locs1 : List Loc), XR σ' τ' → LW D ct adX adM σ' τ' s H1 locs1 → W p l e room_1 s m #[Value.ref b] below meth c H1 locs1 cells slots (lw_Z below #[Value.ref b] s) (F0 m 890 ls [])) : W p l e room_1 s m #[Value.ref b] below meth c H locs cells slots (lw_Z below #[Value.ref b] s) (F0 m 465 ls []) := by
  refine lv_aload_n X.1.1 X.1.2.1 dL_law_465 rfl (lv_at hl 1 rfl) ?_
  refine l_arg 1 X hW.2.2.2.1 hl rfl rfl (Nat.le_of_ble_eq_true rfl) rfl hi dL_law_466 dL_law_467 dL_law_468 dL_law_469 dL_law_470 ?_
  obtain ⟨v, P, P', hX, hM, hPP⟩ := sim_fault ((xs (i + 1)).toInt) σ τ hW.2.2.2.2.1 hW.2.2.2.2.2 hR
  refine l_X (st := []) (As := [ev_i (xs (i + 1)).toInt]) X hW cm_X11_fault rfl wl_1046 wl_1047 wl_1048 rfl dL_law_471 hl.1 rfl (Nat.le_of_ble_eq_true rfl) (Nat.le_of_ble_eq_true rfl) (fun v hv => by simp only [List.mem_cons, List.not_mem_nil, or_false] at hv; rcases hv with rfl <;> exact ev_Rt _) hc hs hX (fun z σ' H1 locs1 hv hz hp hW1 => ?_)
  refine lv_aload_n X.1.1 X.1.2.1 dL_law_474 rfl (lv_at hl 2 rfl) ?_
  refine l_arg 1 X hW1.2.2.2.1 hl rfl rfl (Nat.le_of_ble_eq_true rfl) rfl hi dL_law_475 dL_law_476 dL_law_477 dL_law_478 dL_law_479 ?_
  refine l_M (st := [.int (Int32.ofInt z)]) (As := [ev_i (xs (i + 1)).toInt]) X hW1 cm_X12_fault rfl wl_1874 wl_1875 wl_1876 rfl dL_law_480 hl.1 rfl (Nat.le_of_ble_eq_true rfl) (Nat.le_of_ble_eq_true rfl) (fun v hv => by simp only [List.mem_cons, List.not_mem_nil, or_false] at hv; rcases hv with rfl <;> exact ev_Rt _) hc hs hM (fun z2 τ' H2 locs2 hv2 hz2 hp2 hW2 => ?_)
  have e2 : z2 = z := by rw [hv] at hv2; exact (Sum.inl.inj hv2).symm
  subst e2
  exact lv_icmp_eq (tgt := 890) X.1.1 X.1.2.1 dL_law_483 (by decide) (fun _ => kk σ' τ' H2 locs2 (hPP σ' τ' hp hp2) hW2) (fun h => absurd rfl h)
theorem lc_10 (X : LX p s m meth c b L xs D ct) (hW : LW D ct adX adM σ τ s H locs) (hR : XR σ τ) (hl : lv_has ls 4 [(3, .int (Int32.ofInt (i : Int))), (1, .ref (adX 0)), (2, .ref (adM 0)), (0, .ref b)]) (hi : i + 6 ≤ L) (hc : cells ≤ 600000) (hs : slots ≤ 7302250) (kk : ∀ (σ' τ' : ev_S) (H1 : Heap) (locs1 : List Loc), XR σ' τ' → LW D ct adX adM σ' τ' s H1 locs1 → W p l e room_1 s m #[Value.ref b] below meth c H1 locs1 cells slots (lw_Z below #[Value.ref b] s) (F0 m 890 ls [])) : W p l e room_1 s m #[Value.ref b] below meth c H locs cells slots (lw_Z below #[Value.ref b] s) (F0 m 488 ls []) := by
  refine lv_aload_n X.1.1 X.1.2.1 dL_law_488 rfl (lv_at hl 1 rfl) ?_
  refine l_arg 1 X hW.2.2.2.1 hl rfl rfl (Nat.le_of_ble_eq_true rfl) rfl hi dL_law_489 dL_law_490 dL_law_491 dL_law_492 dL_law_493 ?_
  obtain ⟨v, P, P', hX, hM, hPP⟩ := sim_seconds ((xs (i + 1)).toInt) σ τ hW.2.2.2.2.1 hW.2.2.2.2.2 hR
  refine l_X (st := []) (As := [ev_i (xs (i + 1)).toInt]) X hW cm_X11_seconds rfl wl_1050 wl_1051 wl_1052 rfl dL_law_494 hl.1 rfl (Nat.le_of_ble_eq_true rfl) (Nat.le_of_ble_eq_true rfl) (fun v hv => by simp only [List.mem_cons, List.not_mem_nil, or_false] at hv; rcases hv with rfl <;> exact ev_Rt _) hc hs hX (fun z σ' H1 locs1 hv hz hp hW1 => ?_)
  refine lv_aload_n X.1.1 X.1.2.1 dL_law_497 rfl (lv_at hl 2 rfl) ?_
  refine l_arg 1 X hW1.2.2.2.1 hl rfl rfl (Nat.le_of_ble_eq_true rfl) rfl hi dL_law_498 dL_law_499 dL_law_500 dL_law_501 dL_law_502 ?_
  refine l_M (st := [.int (Int32.ofInt z)]) (As := [ev_i (xs (i + 1)).toInt]) X hW1 cm_X12_seconds rfl wl_1878 wl_1879 wl_1880 rfl dL_law_503 hl.1 rfl (Nat.le_of_ble_eq_true rfl) (Nat.le_of_ble_eq_true rfl) (fun v hv => by simp only [List.mem_cons, List.not_mem_nil, or_false] at hv; rcases hv with rfl <;> exact ev_Rt _) hc hs hM (fun z2 τ' H2 locs2 hv2 hz2 hp2 hW2 => ?_)
  have e2 : z2 = z := by rw [hv] at hv2; exact (Sum.inl.inj hv2).symm
  subst e2
  exact lv_icmp_eq (tgt := 890) X.1.1 X.1.2.1 dL_law_506 (by decide) (fun _ => kk σ' τ' H2 locs2 (hPP σ' τ' hp hp2) hW2) (fun h => absurd rfl h)
theorem lc_11 (X : LX p s m meth c b L xs D ct) (hW : LW D ct adX adM σ τ s H locs) (hR : XR σ τ) (hl : lv_has ls 4 [(3, .int (Int32.ofInt (i : Int))), (1, .ref (adX 0)), (2, .ref (adM 0)), (0, .ref b)]) (hi : i + 6 ≤ L) (hc : cells ≤ 600000) (hs : slots ≤ 7302250) (kk : ∀ (σ' τ' : ev_S) (H1 : Heap) (locs1 : List Loc), XR σ' τ' → LW D ct adX adM σ' τ' s H1 locs1 → W p l e room_1 s m #[Value.ref b] below meth c H1 locs1 cells slots (lw_Z below #[Value.ref b] s) (F0 m 890 ls [])) : W p l e room_1 s m #[Value.ref b] below meth c H locs cells slots (lw_Z below #[Value.ref b] s) (F0 m 511 ls []) := by
  refine lv_aload_n X.1.1 X.1.2.1 dL_law_511 rfl (lv_at hl 1 rfl) ?_
  refine l_arg 1 X hW.2.2.2.1 hl rfl rfl (Nat.le_of_ble_eq_true rfl) rfl hi dL_law_512 dL_law_513 dL_law_514 dL_law_515 dL_law_516 ?_
  refine l_arg 2 X hW.2.2.2.1 hl rfl rfl (Nat.le_of_ble_eq_true rfl) rfl hi dL_law_517 dL_law_518 dL_law_519 dL_law_520 dL_law_521 ?_
  obtain ⟨v, P, P', hX, hM, hPP⟩ := sim_ofq ((xs (i + 1)).toInt) ((xs (i + 2)).toInt) σ τ hW.2.2.2.2.1 hW.2.2.2.2.2 hR
  refine l_X (st := []) (As := [ev_i (xs (i + 1)).toInt, ev_i (xs (i + 2)).toInt]) X hW cm_X11_of rfl wl_1140 wl_1141 wl_1142 rfl dL_law_522 hl.1 rfl (Nat.le_of_ble_eq_true rfl) (Nat.le_of_ble_eq_true rfl) (fun v hv => by simp only [List.mem_cons, List.not_mem_nil, or_false] at hv; rcases hv with rfl | rfl <;> exact ev_Rt _) hc hs hX (fun z σ' H1 locs1 hv hz hp hW1 => ?_)
  refine lv_aload_n X.1.1 X.1.2.1 dL_law_525 rfl (lv_at hl 2 rfl) ?_
  refine l_arg 1 X hW1.2.2.2.1 hl rfl rfl (Nat.le_of_ble_eq_true rfl) rfl hi dL_law_526 dL_law_527 dL_law_528 dL_law_529 dL_law_530 ?_
  refine l_arg 2 X hW1.2.2.2.1 hl rfl rfl (Nat.le_of_ble_eq_true rfl) rfl hi dL_law_531 dL_law_532 dL_law_533 dL_law_534 dL_law_535 ?_
  refine l_M (st := [.int (Int32.ofInt z)]) (As := [ev_i (xs (i + 1)).toInt, ev_i (xs (i + 2)).toInt]) X hW1 cm_X12_of rfl wl_2069 wl_2070 wl_2071 rfl dL_law_536 hl.1 rfl (Nat.le_of_ble_eq_true rfl) (Nat.le_of_ble_eq_true rfl) (fun v hv => by simp only [List.mem_cons, List.not_mem_nil, or_false] at hv; rcases hv with rfl | rfl <;> exact ev_Rt _) hc hs hM (fun z2 τ' H2 locs2 hv2 hz2 hp2 hW2 => ?_)
  have e2 : z2 = z := by rw [hv] at hv2; exact (Sum.inl.inj hv2).symm
  subst e2
  exact lv_icmp_eq (tgt := 890) X.1.1 X.1.2.1 dL_law_539 (by decide) (fun _ => kk σ' τ' H2 locs2 (hPP σ' τ' hp hp2) hW2) (fun h => absurd rfl h)
theorem lc_12 (X : LX p s m meth c b L xs D ct) (hW : LW D ct adX adM σ τ s H locs) (hR : XR σ τ) (hl : lv_has ls 4 [(3, .int (Int32.ofInt (i : Int))), (1, .ref (adX 0)), (2, .ref (adM 0)), (0, .ref b)]) (hi : i + 6 ≤ L) (hc : cells ≤ 600000) (hs : slots ≤ 7302250) (kk : ∀ (σ' τ' : ev_S) (H1 : Heap) (locs1 : List Loc), XR σ' τ' → LW D ct adX adM σ' τ' s H1 locs1 → W p l e room_1 s m #[Value.ref b] below meth c H1 locs1 cells slots (lw_Z below #[Value.ref b] s) (F0 m 890 ls [])) : W p l e room_1 s m #[Value.ref b] below meth c H locs cells slots (lw_Z below #[Value.ref b] s) (F0 m 544 ls []) := by
  refine lv_aload_n X.1.1 X.1.2.1 dL_law_544 rfl (lv_at hl 1 rfl) ?_
  refine l_arg 1 X hW.2.2.2.1 hl rfl rfl (Nat.le_of_ble_eq_true rfl) rfl hi dL_law_545 dL_law_546 dL_law_547 dL_law_548 dL_law_549 ?_
  refine l_arg 2 X hW.2.2.2.1 hl rfl rfl (Nat.le_of_ble_eq_true rfl) rfl hi dL_law_550 dL_law_551 dL_law_552 dL_law_553 dL_law_554 ?_
  obtain ⟨v, P, P', hX, hM, hPP⟩ := sim_at ((xs (i + 1)).toInt) ((xs (i + 2)).toInt) σ τ hW.2.2.2.2.1 hW.2.2.2.2.2 hR
  refine l_X (st := []) (As := [ev_i (xs (i + 1)).toInt, ev_i (xs (i + 2)).toInt]) X hW cm_X11_at rfl wl_1144 wl_1145 wl_1146 rfl dL_law_555 hl.1 rfl (Nat.le_of_ble_eq_true rfl) (Nat.le_of_ble_eq_true rfl) (fun v hv => by simp only [List.mem_cons, List.not_mem_nil, or_false] at hv; rcases hv with rfl | rfl <;> exact ev_Rt _) hc hs hX (fun z σ' H1 locs1 hv hz hp hW1 => ?_)
  refine lv_aload_n X.1.1 X.1.2.1 dL_law_558 rfl (lv_at hl 2 rfl) ?_
  refine l_arg 1 X hW1.2.2.2.1 hl rfl rfl (Nat.le_of_ble_eq_true rfl) rfl hi dL_law_559 dL_law_560 dL_law_561 dL_law_562 dL_law_563 ?_
  refine l_arg 2 X hW1.2.2.2.1 hl rfl rfl (Nat.le_of_ble_eq_true rfl) rfl hi dL_law_564 dL_law_565 dL_law_566 dL_law_567 dL_law_568 ?_
  refine l_M (st := [.int (Int32.ofInt z)]) (As := [ev_i (xs (i + 1)).toInt, ev_i (xs (i + 2)).toInt]) X hW1 cm_X12_at rfl wl_2073 wl_2074 wl_2075 rfl dL_law_569 hl.1 rfl (Nat.le_of_ble_eq_true rfl) (Nat.le_of_ble_eq_true rfl) (fun v hv => by simp only [List.mem_cons, List.not_mem_nil, or_false] at hv; rcases hv with rfl | rfl <;> exact ev_Rt _) hc hs hM (fun z2 τ' H2 locs2 hv2 hz2 hp2 hW2 => ?_)
  have e2 : z2 = z := by rw [hv] at hv2; exact (Sum.inl.inj hv2).symm
  subst e2
  exact lv_icmp_eq (tgt := 890) X.1.1 X.1.2.1 dL_law_572 (by decide) (fun _ => kk σ' τ' H2 locs2 (hPP σ' τ' hp hp2) hW2) (fun h => absurd rfl h)
theorem lc_13 (X : LX p s m meth c b L xs D ct) (hW : LW D ct adX adM σ τ s H locs) (hR : XR σ τ) (hl : lv_has ls 4 [(3, .int (Int32.ofInt (i : Int))), (1, .ref (adX 0)), (2, .ref (adM 0)), (0, .ref b)]) (hi : i + 6 ≤ L) (hc : cells ≤ 600000) (hs : slots ≤ 7302250) (kk : ∀ (σ' τ' : ev_S) (H1 : Heap) (locs1 : List Loc), XR σ' τ' → LW D ct adX adM σ' τ' s H1 locs1 → W p l e room_1 s m #[Value.ref b] below meth c H1 locs1 cells slots (lw_Z below #[Value.ref b] s) (F0 m 890 ls [])) : W p l e room_1 s m #[Value.ref b] below meth c H locs cells slots (lw_Z below #[Value.ref b] s) (F0 m 577 ls []) := by
  refine lv_aload_n X.1.1 X.1.2.1 dL_law_577 rfl (lv_at hl 1 rfl) ?_
  refine l_arg 1 X hW.2.2.2.1 hl rfl rfl (Nat.le_of_ble_eq_true rfl) rfl hi dL_law_578 dL_law_579 dL_law_580 dL_law_581 dL_law_582 ?_
  refine l_arg 2 X hW.2.2.2.1 hl rfl rfl (Nat.le_of_ble_eq_true rfl) rfl hi dL_law_583 dL_law_584 dL_law_585 dL_law_586 dL_law_587 ?_
  obtain ⟨v, P, P', hX, hM, hPP⟩ := sim_mishap ((xs (i + 1)).toInt) ((xs (i + 2)).toInt) σ τ hW.2.2.2.2.1 hW.2.2.2.2.2 hR
  refine l_X (st := []) (As := [ev_i (xs (i + 1)).toInt, ev_i (xs (i + 2)).toInt]) X hW cm_X11_mishap rfl wl_1268 wl_1269 wl_1270 rfl dL_law_588 hl.1 rfl (Nat.le_of_ble_eq_true rfl) (Nat.le_of_ble_eq_true rfl) (fun v hv => by simp only [List.mem_cons, List.not_mem_nil, or_false] at hv; rcases hv with rfl | rfl <;> exact ev_Rt _) hc hs hX (fun z σ' H1 locs1 hv hz hp hW1 => ?_)
  refine lv_aload_n X.1.1 X.1.2.1 dL_law_591 rfl (lv_at hl 2 rfl) ?_
  refine l_arg 1 X hW1.2.2.2.1 hl rfl rfl (Nat.le_of_ble_eq_true rfl) rfl hi dL_law_592 dL_law_593 dL_law_594 dL_law_595 dL_law_596 ?_
  refine l_arg 2 X hW1.2.2.2.1 hl rfl rfl (Nat.le_of_ble_eq_true rfl) rfl hi dL_law_597 dL_law_598 dL_law_599 dL_law_600 dL_law_601 ?_
  refine l_M (st := [.int (Int32.ofInt z)]) (As := [ev_i (xs (i + 1)).toInt, ev_i (xs (i + 2)).toInt]) X hW1 cm_X12_mishap rfl wl_2089 wl_2090 wl_2091 rfl dL_law_602 hl.1 rfl (Nat.le_of_ble_eq_true rfl) (Nat.le_of_ble_eq_true rfl) (fun v hv => by simp only [List.mem_cons, List.not_mem_nil, or_false] at hv; rcases hv with rfl | rfl <;> exact ev_Rt _) hc hs hM (fun z2 τ' H2 locs2 hv2 hz2 hp2 hW2 => ?_)
  have e2 : z2 = z := by rw [hv] at hv2; exact (Sum.inl.inj hv2).symm
  subst e2
  exact lv_icmp_eq (tgt := 890) X.1.1 X.1.2.1 dL_law_605 (by decide) (fun _ => kk σ' τ' H2 locs2 (hPP σ' τ' hp hp2) hW2) (fun h => absurd rfl h)
theorem lc_14 (X : LX p s m meth c b L xs D ct) (hW : LW D ct adX adM σ τ s H locs) (hR : XR σ τ) (hl : lv_has ls 4 [(3, .int (Int32.ofInt (i : Int))), (1, .ref (adX 0)), (2, .ref (adM 0)), (0, .ref b)]) (hi : i + 6 ≤ L) (hc : cells ≤ 600000) (hs : slots ≤ 7302250) (kk : ∀ (σ' τ' : ev_S) (H1 : Heap) (locs1 : List Loc), XR σ' τ' → LW D ct adX adM σ' τ' s H1 locs1 → W p l e room_1 s m #[Value.ref b] below meth c H1 locs1 cells slots (lw_Z below #[Value.ref b] s) (F0 m 890 ls [])) : W p l e room_1 s m #[Value.ref b] below meth c H locs cells slots (lw_Z below #[Value.ref b] s) (F0 m 610 ls []) := by
  refine lv_aload_n X.1.1 X.1.2.1 dL_law_610 rfl (lv_at hl 1 rfl) ?_
  refine l_arg 1 X hW.2.2.2.1 hl rfl rfl (Nat.le_of_ble_eq_true rfl) rfl hi dL_law_611 dL_law_612 dL_law_613 dL_law_614 dL_law_615 ?_
  refine l_arg 2 X hW.2.2.2.1 hl rfl rfl (Nat.le_of_ble_eq_true rfl) rfl hi dL_law_616 dL_law_617 dL_law_618 dL_law_619 dL_law_620 ?_
  obtain ⟨v, P, P', hX, hM, hPP⟩ := sim_book ((xs (i + 1)).toInt) ((xs (i + 2)).toInt) σ τ hW.2.2.2.2.1 hW.2.2.2.2.2 hR
  refine l_X (st := []) (As := [ev_i (xs (i + 1)).toInt, ev_i (xs (i + 2)).toInt]) X hW cm_X11_book rfl wl_1281 wl_1282 wl_1283 rfl dL_law_621 hl.1 rfl (Nat.le_of_ble_eq_true rfl) (Nat.le_of_ble_eq_true rfl) (fun v hv => by simp only [List.mem_cons, List.not_mem_nil, or_false] at hv; rcases hv with rfl | rfl <;> exact ev_Rt _) hc hs hX (fun z σ' H1 locs1 hv hz hp hW1 => ?_)
  refine lv_aload_n X.1.1 X.1.2.1 dL_law_624 rfl (lv_at hl 2 rfl) ?_
  refine l_arg 1 X hW1.2.2.2.1 hl rfl rfl (Nat.le_of_ble_eq_true rfl) rfl hi dL_law_625 dL_law_626 dL_law_627 dL_law_628 dL_law_629 ?_
  refine l_arg 2 X hW1.2.2.2.1 hl rfl rfl (Nat.le_of_ble_eq_true rfl) rfl hi dL_law_630 dL_law_631 dL_law_632 dL_law_633 dL_law_634 ?_
  refine l_M (st := [.int (Int32.ofInt z)]) (As := [ev_i (xs (i + 1)).toInt, ev_i (xs (i + 2)).toInt]) X hW1 cm_X12_book rfl wl_2101 wl_2102 wl_2103 rfl dL_law_635 hl.1 rfl (Nat.le_of_ble_eq_true rfl) (Nat.le_of_ble_eq_true rfl) (fun v hv => by simp only [List.mem_cons, List.not_mem_nil, or_false] at hv; rcases hv with rfl | rfl <;> exact ev_Rt _) hc hs hM (fun z2 τ' H2 locs2 hv2 hz2 hp2 hW2 => ?_)
  have e2 : z2 = z := by rw [hv] at hv2; exact (Sum.inl.inj hv2).symm
  subst e2
  exact lv_icmp_eq (tgt := 890) X.1.1 X.1.2.1 dL_law_638 (by decide) (fun _ => kk σ' τ' H2 locs2 (hPP σ' τ' hp hp2) hW2) (fun h => absurd rfl h)
theorem lc_15 (X : LX p s m meth c b L xs D ct) (hW : LW D ct adX adM σ τ s H locs) (hR : XR σ τ) (hl : lv_has ls 4 [(3, .int (Int32.ofInt (i : Int))), (1, .ref (adX 0)), (2, .ref (adM 0)), (0, .ref b)]) (hi : i + 6 ≤ L) (hc : cells ≤ 600000) (hs : slots ≤ 7302250) (kk : ∀ (σ' τ' : ev_S) (H1 : Heap) (locs1 : List Loc), XR σ' τ' → LW D ct adX adM σ' τ' s H1 locs1 → W p l e room_1 s m #[Value.ref b] below meth c H1 locs1 cells slots (lw_Z below #[Value.ref b] s) (F0 m 890 ls [])) : W p l e room_1 s m #[Value.ref b] below meth c H locs cells slots (lw_Z below #[Value.ref b] s) (F0 m 643 ls []) := by
  refine lv_aload_n X.1.1 X.1.2.1 dL_law_643 rfl (lv_at hl 1 rfl) ?_
  refine l_arg 1 X hW.2.2.2.1 hl rfl rfl (Nat.le_of_ble_eq_true rfl) rfl hi dL_law_644 dL_law_645 dL_law_646 dL_law_647 dL_law_648 ?_
  obtain ⟨v, P, P', hX, hM, hPP⟩ := sim_planned ((xs (i + 1)).toInt) σ τ hW.2.2.2.2.1 hW.2.2.2.2.2 hR
  refine l_X (st := []) (As := [ev_i (xs (i + 1)).toInt]) X hW cm_X11_planned rfl wl_1289 wl_1290 wl_1291 rfl dL_law_649 hl.1 rfl (Nat.le_of_ble_eq_true rfl) (Nat.le_of_ble_eq_true rfl) (fun v hv => by simp only [List.mem_cons, List.not_mem_nil, or_false] at hv; rcases hv with rfl <;> exact ev_Rt _) hc hs hX (fun z σ' H1 locs1 hv hz hp hW1 => ?_)
  refine lv_aload_n X.1.1 X.1.2.1 dL_law_652 rfl (lv_at hl 2 rfl) ?_
  refine l_arg 1 X hW1.2.2.2.1 hl rfl rfl (Nat.le_of_ble_eq_true rfl) rfl hi dL_law_653 dL_law_654 dL_law_655 dL_law_656 dL_law_657 ?_
  refine l_M (st := [.int (Int32.ofInt z)]) (As := [ev_i (xs (i + 1)).toInt]) X hW1 cm_X12_planned rfl wl_1976 wl_1977 wl_1978 rfl dL_law_658 hl.1 rfl (Nat.le_of_ble_eq_true rfl) (Nat.le_of_ble_eq_true rfl) (fun v hv => by simp only [List.mem_cons, List.not_mem_nil, or_false] at hv; rcases hv with rfl <;> exact ev_Rt _) hc hs hM (fun z2 τ' H2 locs2 hv2 hz2 hp2 hW2 => ?_)
  have e2 : z2 = z := by rw [hv] at hv2; exact (Sum.inl.inj hv2).symm
  subst e2
  exact lv_icmp_eq (tgt := 890) X.1.1 X.1.2.1 dL_law_661 (by decide) (fun _ => kk σ' τ' H2 locs2 (hPP σ' τ' hp hp2) hW2) (fun h => absurd rfl h)
theorem lc_16 (X : LX p s m meth c b L xs D ct) (hW : LW D ct adX adM σ τ s H locs) (hR : XR σ τ) (hl : lv_has ls 4 [(3, .int (Int32.ofInt (i : Int))), (1, .ref (adX 0)), (2, .ref (adM 0)), (0, .ref b)]) (hi : i + 6 ≤ L) (hc : cells ≤ 600000) (hs : slots ≤ 7302250) (kk : ∀ (σ' τ' : ev_S) (H1 : Heap) (locs1 : List Loc), XR σ' τ' → LW D ct adX adM σ' τ' s H1 locs1 → W p l e room_1 s m #[Value.ref b] below meth c H1 locs1 cells slots (lw_Z below #[Value.ref b] s) (F0 m 890 ls [])) : W p l e room_1 s m #[Value.ref b] below meth c H locs cells slots (lw_Z below #[Value.ref b] s) (F0 m 666 ls []) := by
  refine lv_aload_n X.1.1 X.1.2.1 dL_law_666 rfl (lv_at hl 1 rfl) ?_
  refine l_arg 1 X hW.2.2.2.1 hl rfl rfl (Nat.le_of_ble_eq_true rfl) rfl hi dL_law_667 dL_law_668 dL_law_669 dL_law_670 dL_law_671 ?_
  obtain ⟨v, P, P', hX, hM, hPP⟩ := sim_least ((xs (i + 1)).toInt) (ev_Rt _) σ τ hW.2.2.2.2.1 hW.2.2.2.2.2 hR
  refine l_X (st := []) (As := [ev_i (xs (i + 1)).toInt]) X hW cm_X11_least rfl wl_1298 wl_1299 wl_1300 rfl dL_law_672 hl.1 rfl (Nat.le_of_ble_eq_true rfl) (Nat.le_of_ble_eq_true rfl) (fun v hv => by simp only [List.mem_cons, List.not_mem_nil, or_false] at hv; rcases hv with rfl <;> exact ev_Rt _) hc hs hX (fun z σ' H1 locs1 hv hz hp hW1 => ?_)
  refine lv_aload_n X.1.1 X.1.2.1 dL_law_675 rfl (lv_at hl 2 rfl) ?_
  refine l_arg 1 X hW1.2.2.2.1 hl rfl rfl (Nat.le_of_ble_eq_true rfl) rfl hi dL_law_676 dL_law_677 dL_law_678 dL_law_679 dL_law_680 ?_
  refine l_M (st := [.int (Int32.ofInt z)]) (As := [ev_i (xs (i + 1)).toInt]) X hW1 cm_X12_least rfl wl_1996 wl_1997 wl_1998 rfl dL_law_681 hl.1 rfl (Nat.le_of_ble_eq_true rfl) (Nat.le_of_ble_eq_true rfl) (fun v hv => by simp only [List.mem_cons, List.not_mem_nil, or_false] at hv; rcases hv with rfl <;> exact ev_Rt _) hc hs hM (fun z2 τ' H2 locs2 hv2 hz2 hp2 hW2 => ?_)
  have e2 : z2 = z := by rw [hv] at hv2; exact (Sum.inl.inj hv2).symm
  subst e2
  exact lv_icmp_eq (tgt := 890) X.1.1 X.1.2.1 dL_law_684 (by decide) (fun _ => kk σ' τ' H2 locs2 (hPP σ' τ' hp hp2) hW2) (fun h => absurd rfl h)
theorem lc_17 (X : LX p s m meth c b L xs D ct) (hW : LW D ct adX adM σ τ s H locs) (hR : XR σ τ) (hl : lv_has ls 4 [(3, .int (Int32.ofInt (i : Int))), (1, .ref (adX 0)), (2, .ref (adM 0)), (0, .ref b)]) (hi : i + 6 ≤ L) (hc : cells ≤ 600000) (hs : slots ≤ 7302250) (kk : ∀ (σ' τ' : ev_S) (H1 : Heap) (locs1 : List Loc), XR σ' τ' → LW D ct adX adM σ' τ' s H1 locs1 → W p l e room_1 s m #[Value.ref b] below meth c H1 locs1 cells slots (lw_Z below #[Value.ref b] s) (F0 m 890 ls [])) : W p l e room_1 s m #[Value.ref b] below meth c H locs cells slots (lw_Z below #[Value.ref b] s) (F0 m 689 ls []) := by
  refine lv_aload_n X.1.1 X.1.2.1 dL_law_689 rfl (lv_at hl 1 rfl) ?_
  refine l_arg 1 X hW.2.2.2.1 hl rfl rfl (Nat.le_of_ble_eq_true rfl) rfl hi dL_law_690 dL_law_691 dL_law_692 dL_law_693 dL_law_694 ?_
  obtain ⟨v, P, P', hX, hM, hPP⟩ := sim_fewest ((xs (i + 1)).toInt) σ τ hW.2.2.2.2.1 hW.2.2.2.2.2 hR
  refine l_X (st := []) (As := [ev_i (xs (i + 1)).toInt]) X hW cm_X11_fewest rfl wl_1331 wl_1332 wl_1333 rfl dL_law_695 hl.1 rfl (Nat.le_of_ble_eq_true rfl) (Nat.le_of_ble_eq_true rfl) (fun v hv => by simp only [List.mem_cons, List.not_mem_nil, or_false] at hv; rcases hv with rfl <;> exact ev_Rt _) hc hs hX (fun z σ' H1 locs1 hv hz hp hW1 => ?_)
  refine lv_aload_n X.1.1 X.1.2.1 dL_law_698 rfl (lv_at hl 2 rfl) ?_
  refine l_arg 1 X hW1.2.2.2.1 hl rfl rfl (Nat.le_of_ble_eq_true rfl) rfl hi dL_law_699 dL_law_700 dL_law_701 dL_law_702 dL_law_703 ?_
  refine l_M (st := [.int (Int32.ofInt z)]) (As := [ev_i (xs (i + 1)).toInt]) X hW1 cm_X12_fewest rfl wl_2045 wl_2046 wl_2047 rfl dL_law_704 hl.1 rfl (Nat.le_of_ble_eq_true rfl) (Nat.le_of_ble_eq_true rfl) (fun v hv => by simp only [List.mem_cons, List.not_mem_nil, or_false] at hv; rcases hv with rfl <;> exact ev_Rt _) hc hs hM (fun z2 τ' H2 locs2 hv2 hz2 hp2 hW2 => ?_)
  have e2 : z2 = z := by rw [hv] at hv2; exact (Sum.inl.inj hv2).symm
  subst e2
  exact lv_icmp_eq (tgt := 890) X.1.1 X.1.2.1 dL_law_707 (by decide) (fun _ => kk σ' τ' H2 locs2 (hPP σ' τ' hp hp2) hW2) (fun h => absurd rfl h)
theorem lc_18 (X : LX p s m meth c b L xs D ct) (hW : LW D ct adX adM σ τ s H locs) (hR : XR σ τ) (hl : lv_has ls 4 [(3, .int (Int32.ofInt (i : Int))), (1, .ref (adX 0)), (2, .ref (adM 0)), (0, .ref b)]) (hi : i + 6 ≤ L) (hc : cells ≤ 600000) (hs : slots ≤ 7302250) (kk : ∀ (σ' τ' : ev_S) (H1 : Heap) (locs1 : List Loc), XR σ' τ' → LW D ct adX adM σ' τ' s H1 locs1 → W p l e room_1 s m #[Value.ref b] below meth c H1 locs1 cells slots (lw_Z below #[Value.ref b] s) (F0 m 890 ls [])) : W p l e room_1 s m #[Value.ref b] below meth c H locs cells slots (lw_Z below #[Value.ref b] s) (F0 m 712 ls []) := by
  refine lv_aload_n X.1.1 X.1.2.1 dL_law_712 rfl (lv_at hl 1 rfl) ?_
  obtain ⟨v, P, P', hX, hM, hPP⟩ := sim_hopeless  σ τ hW.2.2.2.2.1 hW.2.2.2.2.2 hR
  refine l_X (st := []) (As := []) X hW cm_X11_hopeless rfl wl_1354 wl_1355 wl_1356 rfl dL_law_713 hl.1 rfl (Nat.le_of_ble_eq_true rfl) (Nat.le_of_ble_eq_true rfl) (fun v hv => by cases hv) hc hs hX (fun z σ' H1 locs1 hv hz hp hW1 => ?_)
  refine lv_aload_n X.1.1 X.1.2.1 dL_law_716 rfl (lv_at hl 2 rfl) ?_
  refine l_M (st := [.int (Int32.ofInt z)]) (As := []) X hW1 cm_X12_hopeless rfl wl_2053 wl_2054 wl_2055 rfl dL_law_717 hl.1 rfl (Nat.le_of_ble_eq_true rfl) (Nat.le_of_ble_eq_true rfl) (fun v hv => by cases hv) hc hs hM (fun z2 τ' H2 locs2 hv2 hz2 hp2 hW2 => ?_)
  have e2 : z2 = z := by rw [hv] at hv2; exact (Sum.inl.inj hv2).symm
  subst e2
  exact lv_icmp_eq (tgt := 890) X.1.1 X.1.2.1 dL_law_720 (by decide) (fun _ => kk σ' τ' H2 locs2 (hPP σ' τ' hp hp2) hW2) (fun h => absurd rfl h)
theorem lc_19 (X : LX p s m meth c b L xs D ct) (hW : LW D ct adX adM σ τ s H locs) (hR : XR σ τ) (hl : lv_has ls 4 [(3, .int (Int32.ofInt (i : Int))), (1, .ref (adX 0)), (2, .ref (adM 0)), (0, .ref b)]) (hi : i + 6 ≤ L) (hc : cells ≤ 600000) (hs : slots ≤ 7302250) (kk : ∀ (σ' τ' : ev_S) (H1 : Heap) (locs1 : List Loc), XR σ' τ' → LW D ct adX adM σ' τ' s H1 locs1 → W p l e room_1 s m #[Value.ref b] below meth c H1 locs1 cells slots (lw_Z below #[Value.ref b] s) (F0 m 890 ls [])) : W p l e room_1 s m #[Value.ref b] below meth c H locs cells slots (lw_Z below #[Value.ref b] s) (F0 m 725 ls []) := by
  refine lv_aload_n X.1.1 X.1.2.1 dL_law_725 rfl (lv_at hl 1 rfl) ?_
  obtain ⟨v, P, P', hX, hM, hPP⟩ := sim_shows  σ τ hW.2.2.2.2.1 hW.2.2.2.2.2 hR
  refine l_X (st := []) (As := []) X hW cm_X11_shows rfl wl_1364 wl_1365 wl_1366 rfl dL_law_726 hl.1 rfl (Nat.le_of_ble_eq_true rfl) (Nat.le_of_ble_eq_true rfl) (fun v hv => by cases hv) hc hs hX (fun z σ' H1 locs1 hv hz hp hW1 => ?_)
  refine lv_aload_n X.1.1 X.1.2.1 dL_law_729 rfl (lv_at hl 2 rfl) ?_
  refine l_M (st := [.int (Int32.ofInt z)]) (As := []) X hW1 cm_X12_shows rfl wl_2065 wl_2066 wl_2067 rfl dL_law_730 hl.1 rfl (Nat.le_of_ble_eq_true rfl) (Nat.le_of_ble_eq_true rfl) (fun v hv => by cases hv) hc hs hM (fun z2 τ' H2 locs2 hv2 hz2 hp2 hW2 => ?_)
  have e2 : z2 = z := by rw [hv] at hv2; exact (Sum.inl.inj hv2).symm
  subst e2
  exact lv_icmp_eq (tgt := 890) X.1.1 X.1.2.1 dL_law_733 (by decide) (fun _ => kk σ' τ' H2 locs2 (hPP σ' τ' hp hp2) hW2) (fun h => absurd rfl h)
theorem lc_20 (X : LX p s m meth c b L xs D ct) (hW : LW D ct adX adM σ τ s H locs) (hR : XR σ τ) (hl : lv_has ls 4 [(3, .int (Int32.ofInt (i : Int))), (1, .ref (adX 0)), (2, .ref (adM 0)), (0, .ref b)]) (hi : i + 6 ≤ L) (hc : cells ≤ 600000) (hs : slots ≤ 7302250) (kk : ∀ (σ' τ' : ev_S) (H1 : Heap) (locs1 : List Loc), XR σ' τ' → LW D ct adX adM σ' τ' s H1 locs1 → W p l e room_1 s m #[Value.ref b] below meth c H1 locs1 cells slots (lw_Z below #[Value.ref b] s) (F0 m 890 ls [])) : W p l e room_1 s m #[Value.ref b] below meth c H locs cells slots (lw_Z below #[Value.ref b] s) (F0 m 738 ls []) := by
  refine lv_aload_n X.1.1 X.1.2.1 dL_law_738 rfl (lv_at hl 1 rfl) ?_
  refine l_arg 1 X hW.2.2.2.1 hl rfl rfl (Nat.le_of_ble_eq_true rfl) rfl hi dL_law_739 dL_law_740 dL_law_741 dL_law_742 dL_law_743 ?_
  refine l_arg 2 X hW.2.2.2.1 hl rfl rfl (Nat.le_of_ble_eq_true rfl) rfl hi dL_law_744 dL_law_745 dL_law_746 dL_law_747 dL_law_748 ?_
  obtain ⟨v, P, P', hX, hM, hPP⟩ := sim_lot ((xs (i + 1)).toInt) ((xs (i + 2)).toInt) σ τ hW.2.2.2.2.1 hW.2.2.2.2.2 hR
  refine l_XL (st := []) (As := [ev_i (xs (i + 1)).toInt, ev_i (xs (i + 2)).toInt]) X hW cm_X11_lot rfl wl_1368 wl_1369 wl_1370 rfl dL_law_749 hl.1 rfl (Nat.le_of_ble_eq_true rfl) (Nat.le_of_ble_eq_true rfl) (fun v hv => by simp only [List.mem_cons, List.not_mem_nil, or_false] at hv; rcases hv with rfl | rfl <;> exact ev_Rt _) hc hs hX (fun z σ' H1 locs1 hv hz hp hW1 => ?_)
  refine lv_aload_n X.1.1 X.1.2.1 dL_law_752 rfl (lv_at hl 2 rfl) ?_
  refine l_arg 1 X hW1.2.2.2.1 hl rfl rfl (Nat.le_of_ble_eq_true rfl) rfl hi dL_law_753 dL_law_754 dL_law_755 dL_law_756 dL_law_757 ?_
  refine l_arg 2 X hW1.2.2.2.1 hl rfl rfl (Nat.le_of_ble_eq_true rfl) rfl hi dL_law_758 dL_law_759 dL_law_760 dL_law_761 dL_law_762 ?_
  refine l_ML (st := [.long (Int64.ofInt z)]) (As := [ev_i (xs (i + 1)).toInt, ev_i (xs (i + 2)).toInt]) X hW1 cm_X12_lot rfl wl_2109 wl_2110 wl_2111 rfl dL_law_763 hl.1 rfl (Nat.le_of_ble_eq_true rfl) (Nat.le_of_ble_eq_true rfl) (fun v hv => by simp only [List.mem_cons, List.not_mem_nil, or_false] at hv; rcases hv with rfl | rfl <;> exact ev_Rt _) hc hs hM (fun z2 τ' H2 locs2 hv2 hz2 hp2 hW2 => ?_)
  have e2 : z2 = z := by rw [hv] at hv2; exact (Sum.inl.inj (Sum.inr.inj hv2)).symm
  subst e2
  refine W.lcmp X.1.1 X.1.2.1 dL_law_766 ?_
  exact lv_if_eq (tgt := 890) X.1.1 X.1.2.1 dL_law_767 (by decide) (fun _ => kk σ' τ' H2 locs2 (hPP σ' τ' hp hp2) hW2) (fun h => absurd (by simp [lg_cmp]) h)
theorem lc_21 (X : LX p s m meth c b L xs D ct) (hW : LW D ct adX adM σ τ s H locs) (hR : XR σ τ) (hl : lv_has ls 4 [(3, .int (Int32.ofInt (i : Int))), (1, .ref (adX 0)), (2, .ref (adM 0)), (0, .ref b)]) (hi : i + 6 ≤ L) (hc : cells ≤ 600000) (hs : slots ≤ 7302250) (kk : ∀ (σ' τ' : ev_S) (H1 : Heap) (locs1 : List Loc), XR σ' τ' → LW D ct adX adM σ' τ' s H1 locs1 → W p l e room_1 s m #[Value.ref b] below meth c H1 locs1 cells slots (lw_Z below #[Value.ref b] s) (F0 m 890 ls [])) : W p l e room_1 s m #[Value.ref b] below meth c H locs cells slots (lw_Z below #[Value.ref b] s) (F0 m 772 ls []) := by
  refine lv_aload_n X.1.1 X.1.2.1 dL_law_772 rfl (lv_at hl 1 rfl) ?_
  refine l_arg 1 X hW.2.2.2.1 hl rfl rfl (Nat.le_of_ble_eq_true rfl) rfl hi dL_law_773 dL_law_774 dL_law_775 dL_law_776 dL_law_777 ?_
  refine l_arg 2 X hW.2.2.2.1 hl rfl rfl (Nat.le_of_ble_eq_true rfl) rfl hi dL_law_778 dL_law_779 dL_law_780 dL_law_781 dL_law_782 ?_
  refine l_arg 3 X hW.2.2.2.1 hl rfl rfl (Nat.le_of_ble_eq_true rfl) rfl hi dL_law_783 dL_law_784 dL_law_785 dL_law_786 dL_law_787 ?_
  obtain ⟨v, P, P', hX, hM, hPP⟩ := sim_near ((xs (i + 1)).toInt) ((xs (i + 2)).toInt) ((xs (i + 3)).toInt) σ τ hW.2.2.2.2.1 hW.2.2.2.2.2 hR
  refine l_X (st := []) (As := [ev_i (xs (i + 1)).toInt, ev_i (xs (i + 2)).toInt, ev_i (xs (i + 3)).toInt]) X hW cm_X11_near rfl wl_1380 wl_1381 wl_1382 rfl dL_law_788 hl.1 rfl (Nat.le_of_ble_eq_true rfl) (Nat.le_of_ble_eq_true rfl) (fun v hv => by simp only [List.mem_cons, List.not_mem_nil, or_false] at hv; rcases hv with rfl | rfl | rfl <;> exact ev_Rt _) hc hs hX (fun z σ' H1 locs1 hv hz hp hW1 => ?_)
  refine lv_aload_n X.1.1 X.1.2.1 dL_law_791 rfl (lv_at hl 2 rfl) ?_
  refine l_arg 1 X hW1.2.2.2.1 hl rfl rfl (Nat.le_of_ble_eq_true rfl) rfl hi dL_law_792 dL_law_793 dL_law_794 dL_law_795 dL_law_796 ?_
  refine l_arg 2 X hW1.2.2.2.1 hl rfl rfl (Nat.le_of_ble_eq_true rfl) rfl hi dL_law_797 dL_law_798 dL_law_799 dL_law_800 dL_law_801 ?_
  refine l_arg 3 X hW1.2.2.2.1 hl rfl rfl (Nat.le_of_ble_eq_true rfl) rfl hi dL_law_802 dL_law_803 dL_law_804 dL_law_805 dL_law_806 ?_
  refine l_M (st := [.int (Int32.ofInt z)]) (As := [ev_i (xs (i + 1)).toInt, ev_i (xs (i + 2)).toInt, ev_i (xs (i + 3)).toInt]) X hW1 cm_X12_near rfl wl_2122 wl_2123 wl_2124 rfl dL_law_807 hl.1 rfl (Nat.le_of_ble_eq_true rfl) (Nat.le_of_ble_eq_true rfl) (fun v hv => by simp only [List.mem_cons, List.not_mem_nil, or_false] at hv; rcases hv with rfl | rfl | rfl <;> exact ev_Rt _) hc hs hM (fun z2 τ' H2 locs2 hv2 hz2 hp2 hW2 => ?_)
  have e2 : z2 = z := by rw [hv] at hv2; exact (Sum.inl.inj hv2).symm
  subst e2
  exact lv_icmp_eq (tgt := 890) X.1.1 X.1.2.1 dL_law_810 (by decide) (fun _ => kk σ' τ' H2 locs2 (hPP σ' τ' hp hp2) hW2) (fun h => absurd rfl h)
theorem lc_22 (X : LX p s m meth c b L xs D ct) (hW : LW D ct adX adM σ τ s H locs) (hR : XR σ τ) (hl : lv_has ls 4 [(3, .int (Int32.ofInt (i : Int))), (1, .ref (adX 0)), (2, .ref (adM 0)), (0, .ref b)]) (hi : i + 6 ≤ L) (hc : cells ≤ 600000) (hs : slots ≤ 7302250) (kk : ∀ (σ' τ' : ev_S) (H1 : Heap) (locs1 : List Loc), XR σ' τ' → LW D ct adX adM σ' τ' s H1 locs1 → W p l e room_1 s m #[Value.ref b] below meth c H1 locs1 cells slots (lw_Z below #[Value.ref b] s) (F0 m 890 ls [])) : W p l e room_1 s m #[Value.ref b] below meth c H locs cells slots (lw_Z below #[Value.ref b] s) (F0 m 815 ls []) := by
  refine lv_aload_n X.1.1 X.1.2.1 dL_law_815 rfl (lv_at hl 1 rfl) ?_
  obtain ⟨v, P, P', hX, hM, hPP⟩ := sim_undo  σ τ hW.2.2.2.2.1 hW.2.2.2.2.2 hR
  refine l_X (st := []) (As := []) X hW cm_X11_undo rfl wl_1393 wl_1394 wl_1395 rfl dL_law_816 hl.1 rfl (Nat.le_of_ble_eq_true rfl) (Nat.le_of_ble_eq_true rfl) (fun v hv => by cases hv) hc hs hX (fun z σ' H1 locs1 hv hz hp hW1 => ?_)
  refine lv_aload_n X.1.1 X.1.2.1 dL_law_819 rfl (lv_at hl 2 rfl) ?_
  refine l_M (st := [.int (Int32.ofInt z)]) (As := []) X hW1 cm_X12_undo rfl wl_1638 wl_1639 wl_1640 rfl dL_law_820 hl.1 rfl (Nat.le_of_ble_eq_true rfl) (Nat.le_of_ble_eq_true rfl) (fun v hv => by cases hv) hc hs hM (fun z2 τ' H2 locs2 hv2 hz2 hp2 hW2 => ?_)
  have e2 : z2 = z := by rw [hv] at hv2; exact (Sum.inl.inj hv2).symm
  subst e2
  exact lv_icmp_eq (tgt := 890) X.1.1 X.1.2.1 dL_law_823 (by decide) (fun _ => kk σ' τ' H2 locs2 (hPP σ' τ' hp hp2) hW2) (fun h => absurd rfl h)
theorem lc_24 (X : LX p s m meth c b L xs D ct) (hW : LW D ct adX adM σ τ s H locs) (hR : XR σ τ) (hl : lv_has ls 4 [(3, .int (Int32.ofInt (i : Int))), (1, .ref (adX 0)), (2, .ref (adM 0)), (0, .ref b)]) (hi : i + 6 ≤ L) (hc : cells ≤ 600000) (hs : slots ≤ 7302250) (kk : ∀ (σ' τ' : ev_S) (H1 : Heap) (locs1 : List Loc), XR σ' τ' → LW D ct adX adM σ' τ' s H1 locs1 → W p l e room_1 s m #[Value.ref b] below meth c H1 locs1 cells slots (lw_Z below #[Value.ref b] s) (F0 m 890 ls [])) : W p l e room_1 s m #[Value.ref b] below meth c H locs cells slots (lw_Z below #[Value.ref b] s) (F0 m 867 ls []) := by
  refine lv_aload_n X.1.1 X.1.2.1 dL_law_867 rfl (lv_at hl 1 rfl) ?_
  refine l_arg 1 X hW.2.2.2.1 hl rfl rfl (Nat.le_of_ble_eq_true rfl) rfl hi dL_law_868 dL_law_869 dL_law_870 dL_law_871 dL_law_872 ?_
  obtain ⟨v, P, P', hX, hM, hPP⟩ := sim_look ((xs (i + 1)).toInt) (ev_Rt _) σ τ hW.2.2.2.2.1 hW.2.2.2.2.2 hR
  refine l_X (st := []) (As := [ev_i (xs (i + 1)).toInt]) X hW cm_X11_look rfl wl_1425 wl_1426 wl_1427 rfl dL_law_873 hl.1 rfl (Nat.le_of_ble_eq_true rfl) (Nat.le_of_ble_eq_true rfl) (fun v hv => by simp only [List.mem_cons, List.not_mem_nil, or_false] at hv; rcases hv with rfl <;> exact ev_Rt _) hc hs hX (fun z σ' H1 locs1 hv hz hp hW1 => ?_)
  refine lv_aload_n X.1.1 X.1.2.1 dL_law_876 rfl (lv_at hl 2 rfl) ?_
  refine l_arg 1 X hW1.2.2.2.1 hl rfl rfl (Nat.le_of_ble_eq_true rfl) rfl hi dL_law_877 dL_law_878 dL_law_879 dL_law_880 dL_law_881 ?_
  refine l_M (st := [.int (Int32.ofInt z)]) (As := [ev_i (xs (i + 1)).toInt]) X hW1 cm_X12_look rfl wl_2150 wl_2151 wl_2152 rfl dL_law_882 hl.1 rfl (Nat.le_of_ble_eq_true rfl) (Nat.le_of_ble_eq_true rfl) (fun v hv => by simp only [List.mem_cons, List.not_mem_nil, or_false] at hv; rcases hv with rfl <;> exact ev_Rt _) hc hs hM (fun z2 τ' H2 locs2 hv2 hz2 hp2 hW2 => ?_)
  have e2 : z2 = z := by rw [hv] at hv2; exact (Sum.inl.inj hv2).symm
  subst e2
  exact lv_icmp_eq (tgt := 890) X.1.1 X.1.2.1 dL_law_885 (by decide) (fun _ => kk σ' τ' H2 locs2 (hPP σ' τ' hp hp2) hW2) (fun h => absurd rfl h)
theorem lc_23 (X : LX p s m meth c b L xs D ct) (hW : LW D ct adX adM σ τ s H locs) (hR : XR σ τ) (hl : lv_has ls 4 [(3, .int (Int32.ofInt (i : Int))), (1, .ref (adX 0)), (2, .ref (adM 0)), (0, .ref b)]) (hi : i + 6 ≤ L) (hc : cells ≤ 600000) (hs : slots ≤ 7302250) (kk : ∀ (σ' τ' : ev_S) (H1 : Heap) (locs1 : List Loc), XR σ' τ' → LW D ct adX adM σ' τ' s H1 locs1 → W p l e room_1 s m #[Value.ref b] below meth c H1 locs1 cells slots (lw_Z below #[Value.ref b] s) (F0 m 890 ls [])) : W p l e room_1 s m #[Value.ref b] below meth c H locs cells slots (lw_Z below #[Value.ref b] s) (F0 m 828 ls []) := by
  have key : ∀ a : Int, (a = 0 ∨ a = 1) → (∀ {H2 : Heap} {locs2 : List Loc} {σ2 : ev_S} {z : Int}, LW D ct adX adM σ2 τ s H2 locs2 → W p l e room_1 s m #[Value.ref b] below meth c H2 locs2 cells slots (lw_Z below #[Value.ref b] s) (F0 m 859 ls (.int (Int32.ofInt a) :: .ref (adM 0) :: [.int (Int32.ofInt z)])) → W p l e room_1 s m #[Value.ref b] below meth c H2 locs2 cells slots (lw_Z below #[Value.ref b] s) (F0 m 851 ls (.int (Int32.ofInt (xs (i + 1)).toInt) :: .ref (adM 0) :: [.int (Int32.ofInt z)]))) → W p l e room_1 s m #[Value.ref b] below meth c H locs cells slots (lw_Z below #[Value.ref b] s) (F0 m 842 ls (.int (Int32.ofInt a) :: .ref (adX 0) :: [])) := by
    intro a ha hgo
    have haR : ev_R a := by rcases ha with rfl | rfl <;> exact ev_Rc rfl
    obtain ⟨v, P, P', hX, hM, hPP⟩ := sim_image a ha σ τ hW.2.2.2.2.1 hW.2.2.2.2.2 hR
    have okA : ∀ v ∈ [ev_i a], ev_okv v := by
      intro v hv
      simp only [List.mem_cons, List.not_mem_nil, or_false] at hv
      subst hv
      exact haR
    refine l_X (st := []) (As := [ev_i a]) X hW cm_X11_image rfl wl_1401 wl_1402 wl_1403 rfl dL_law_842 hl.1 rfl (Nat.le_of_ble_eq_true rfl) (Nat.le_of_ble_eq_true rfl) okA hc hs hX (fun z σ' H1 locs1 hv hz hp hW1 => ?_)
    refine lv_aload_n X.1.1 X.1.2.1 dL_law_845 rfl (lv_at hl 2 rfl) ?_
    refine l_arg 1 X hW1.2.2.2.1 hl rfl rfl (Nat.le_of_ble_eq_true rfl) rfl hi dL_law_846 dL_law_847 dL_law_848 dL_law_849 dL_law_850 ?_
    refine hgo hW1 ?_
    refine l_M (st := [.int (Int32.ofInt z)]) (As := [ev_i a]) X hW1 cm_X12_image rfl wl_2130 wl_2131 wl_2132 rfl dL_law_859 hl.1 rfl (Nat.le_of_ble_eq_true rfl) (Nat.le_of_ble_eq_true rfl) okA hc hs hM (fun z2 τ' H2 locs2 hv2 hz2 hp2 hW2 => ?_)
    have e2 : z2 = z := by rw [hv] at hv2; exact (Sum.inl.inj hv2).symm
    subst e2
    exact lv_icmp_eq (tgt := 890) X.1.1 X.1.2.1 dL_law_862 (by decide) (fun _ => kk σ' τ' H2 locs2 (hPP σ' τ' hp hp2) hW2) (fun h => absurd rfl h)
  refine lv_aload_n X.1.1 X.1.2.1 dL_law_828 rfl (lv_at hl 1 rfl) ?_
  refine l_arg 1 X hW.2.2.2.1 hl rfl rfl (Nat.le_of_ble_eq_true rfl) rfl hi dL_law_829 dL_law_830 dL_law_831 dL_law_832 dL_law_833 ?_
  refine lv_if_eq (tgt := 841) X.1.1 X.1.2.1 dL_law_834 (by decide) (fun h0 => ?_) (fun h0 => ?_)
  · refine lv_iconst (v := Int32.ofInt 0) X.1.1 X.1.2.1 dL_law_841 rfl ?_
    refine key 0 (Or.inl rfl) (fun hW1 hk => ?_)
    refine lv_if_eq (tgt := 858) X.1.1 X.1.2.1 dL_law_851 (by decide) (fun _ => ?_) (fun h1 => absurd h0 h1)
    exact lv_iconst (v := Int32.ofInt 0) X.1.1 X.1.2.1 dL_law_858 rfl hk
  · refine lv_iconst (v := Int32.ofInt 1) X.1.1 X.1.2.1 dL_law_837 rfl ?_
    refine lv_goto (tgt := 842) X.1.1 X.1.2.1 dL_law_838 (by decide) ?_
    refine key 1 (Or.inr rfl) (fun hW1 hk => ?_)
    refine lv_if_eq (tgt := 858) X.1.1 X.1.2.1 dL_law_851 (by decide) (fun h1 => absurd h1 h0) (fun _ => ?_)
    refine lv_iconst (v := Int32.ofInt 1) X.1.1 X.1.2.1 dL_law_854 rfl ?_
    exact lv_goto (tgt := 859) X.1.1 X.1.2.1 dL_law_855 (by decide) hk
end
end
