section
/-! members of String over constants: the rows -/
theorem wd_3 : Cond.selects "AngelTown$Tape" ⟨"AngelTown$Tape", "wordOf", "(II)I"⟩ ⟨"AngelTown$Tape", "wordOf", "(II)I"⟩ ∈ lw_tbl := tb_0 (List.mem_of_getElem? (i := 3) (by decide +kernel))
theorem wd_4 : Cond.selects "AngelTown$Tape" ⟨"AngelTown$Tape", "isSame", "(III)Z"⟩ ⟨"AngelTown$Tape", "isSame", "(III)Z"⟩ ∈ lw_tbl := tb_0 (List.mem_of_getElem? (i := 4) (by decide +kernel))
theorem wd_480 : Cond.fieldLink "AngelTown$Tape" 15 "AngelTown$Tape" "kinds" "[I" ∈ lw_tbl := tb_2 (List.mem_of_getElem? (i := 66) (by decide +kernel))
theorem wd_482 : Cond.fieldLink "AngelTown$Tape" 19 "AngelTown$Tape" "numbers" "[I" ∈ lw_tbl := tb_2 (List.mem_of_getElem? (i := 68) (by decide +kernel))
theorem wd_484 : Cond.fieldLink "AngelTown$Tape" 22 "AngelTown$Tape" "places" "[I" ∈ lw_tbl := tb_2 (List.mem_of_getElem? (i := 70) (by decide +kernel))
theorem wd_806 : Cond.methodLink "AngelTown$Tape" 40 ⟨"AngelTown$Tape", "wordOf", "(II)I"⟩ ∈ lw_tbl := tb_3 (List.mem_of_getElem? (i := 152) (by decide +kernel))
theorem wd_808 : Cond.instanceMethod ⟨"AngelTown$Tape", "wordOf", "(II)I"⟩ ∈ lw_tbl := tb_3 (List.mem_of_getElem? (i := 154) (by decide +kernel))
theorem wd_859 : Cond.methodLink "AngelTown$Tape" 60 ⟨"AngelTown$Tape", "isSame", "(III)Z"⟩ ∈ lw_tbl := tb_3 (List.mem_of_getElem? (i := 205) (by decide +kernel))
theorem wd_861 : Cond.instanceMethod ⟨"AngelTown$Tape", "isSame", "(III)Z"⟩ ∈ lw_tbl := tb_3 (List.mem_of_getElem? (i := 207) (by decide +kernel))
theorem wp_X9_isSame_0 {d : Nat} {s : ev_S} {Q : Option ev_V → ev_S → Prop} {a1 a2 a3 : Int}
    (h : Ev layX M_X9_isSame (d + 6) 3 [(0, ev_r 132), (1, ev_i a1), (2, ev_i a2), (3, ev_i a3), (4, ev_i a1)] [] s Q) :
    Ev layX M_X9_isSame (d + 6) 0 [(0, ev_r 132), (1, ev_i a1), (2, ev_i a2), (3, ev_i a3)] [] s Q := by
  refine Ev_iload_n 1 dX9_isSame_0 rfl rfl ?_
  refine Ev_istore (l' := [(4, ev_i a1), (0, ev_r 132), (1, ev_i a1), (2, ev_i a2), (3, ev_i a3)]) dX9_isSame_1 (Nat.le_of_ble_eq_true rfl) rfl ?_
  exact Ev_sub [1, 2, 3, 4, 0] rfl h
theorem wp_X9_isSame_3 {d : Nat} {s : ev_S} {Q : Option ev_V → ev_S → Prop} {a1 a2 a3 a4 : Int}
    (h : ((a2 ≤ a4 → Q (some (ev_i 1)) s) ∧ (a4 < a2 → ((176 ≤ (ev_sub (ev_add a3 a4) a1) → Q (some (ev_i 0)) s) ∧ ((ev_sub (ev_add a3 a4) a1) < 176 → ((0 ≤ a4 ∧ a4 < (400 : Nat)) ∧ ((0 ≤ (ev_sub (ev_add a3 a4) a1) ∧ (ev_sub (ev_add a3 a4) a1) < 176) ∧ (((s 133 (Int.toNat a4)) = (ev_ch (ev_sub (ev_add a3 a4) a1)) → Ev layX M_X9_isSame (d + 6) 3 [(0, ev_r 132), (1, ev_i a1), (2, ev_i a2), (3, ev_i a3), (4, ev_i (ev_add a4 1))] [] s Q) ∧ ((s 133 (Int.toNat a4)) ≠ (ev_ch (ev_sub (ev_add a3 a4) a1)) → Q (some (ev_i 0)) s))))))))) :
    Ev layX M_X9_isSame (d + 6) 3 [(0, ev_r 132), (1, ev_i a1), (2, ev_i a2), (3, ev_i a3), (4, ev_i a4)] [] s Q := by
  refine Ev_iload 4 dX9_isSame_3 rfl ?_
  refine Ev_iload_n 2 dX9_isSame_5 rfl rfl ?_
  refine Ev_icmp_ge (tgt := 52) dX9_isSame_6 rfl (fun c => ?_) (fun c => ?_)
  · replace h := h.1 c
    refine Ev_iconst dX9_isSame_52 rfl (ev_Rc rfl) ?_
    exact Ev_iret rfl dX9_isSame_53 (ev_nb (by decide)) h
  · replace h := h.2 c
    refine Ev_iload_n 3 dX9_isSame_9 rfl rfl ?_
    refine Ev_iload 4 dX9_isSame_10 rfl ?_
    refine Ev_iadd dX9_isSame_12 ?_
    refine Ev_iload_n 1 dX9_isSame_13 rfl rfl ?_
    refine Ev_isub dX9_isSame_14 ?_
    refine Ev_istore (l' := [(5, ev_i (ev_sub (ev_add a3 a4) a1)), (0, ev_r 132), (1, ev_i a1), (2, ev_i a2), (3, ev_i a3), (4, ev_i a4)]) dX9_isSame_15 (Nat.le_of_ble_eq_true rfl) rfl ?_
    refine Ev_iload 0 dX9_isSame_17 rfl ?_
    refine Ev_slen rfl dX9_isSame_19 dX9_isSame_21 (Nat.le_of_ble_eq_true rfl) ?_
    refine Ev_icmp_ge (tgt := 44) dX9_isSame_24 rfl (fun c => ?_) (fun c => ?_)
    · replace h := h.1 c
      refine Ev_iconst dX9_isSame_44 rfl (ev_Rc rfl) ?_
      exact Ev_iret rfl dX9_isSame_45 (ev_nb (by decide)) h
    · replace h := h.2 c
      refine Ev_aload_n 1 dX9_isSame_27 rfl rfl ?_
      refine Ev_getR (i := 0) cl_X9 yX_132 (Nat.le_of_ble_eq_true rfl) rfl wd_476 dX9_isSame_28 ?_
      refine Ev_iload 5 dX9_isSame_31 rfl ?_
      obtain ⟨h0, h⟩ := h
      refine Ev_bald yX_133 h0 dX9_isSame_33 ?_
      obtain ⟨h0, h⟩ := h
      refine Ev_schar 0 rfl dX9_isSame_34 dX9_isSame_36 rfl dX9_isSame_38 h0 (Nat.le_of_ble_eq_true rfl) ?_
      refine Ev_icmp_eq (tgt := 46) dX9_isSame_41 rfl (fun c => ?_) (fun c => ?_)
      · replace h := h.1 c
        refine Ev_iinc (j := 5) (l' := [(4, ev_i (ev_add a4 1)), (5, ev_i (ev_sub (ev_add a3 a4) a1)), (0, ev_r 132), (1, ev_i a1), (2, ev_i a2), (3, ev_i a3)]) dX9_isSame_46 rfl (Nat.le_of_ble_eq_true rfl) rfl ?_
        refine Ev_goto (tgt := 3) dX9_isSame_49 rfl ?_
        exact Ev_sub [2, 3, 4, 5, 0] rfl h
      · replace h := h.2 c
        refine Ev_iconst dX9_isSame_44 rfl (ev_Rc rfl) ?_
        exact Ev_iret rfl dX9_isSame_45 (ev_nb (by decide)) h
theorem wp_X9_wordOf_0 {d : Nat} {s : ev_S} {Q : Option ev_V → ev_S → Prop} {a1 a2 : Int}
    (h : Ev layX M_X9_wordOf (d + 7) 8 [(0, ev_r 132), (1, ev_i a1), (2, ev_i a2), (3, ev_i 0), (4, ev_i 0), (5, ev_i 0)] [] s Q) :
    Ev layX M_X9_wordOf (d + 7) 0 [(0, ev_r 132), (1, ev_i a1), (2, ev_i a2)] [] s Q := by
  refine Ev_iconst dX9_wordOf_0 rfl (ev_Rc rfl) ?_
  refine Ev_istore_n (l' := [(3, ev_i 0), (0, ev_r 132), (1, ev_i a1), (2, ev_i a2)]) dX9_wordOf_1 rfl (Nat.le_of_ble_eq_true rfl) rfl ?_
  refine Ev_iconst dX9_wordOf_2 rfl (ev_Rc rfl) ?_
  refine Ev_istore (l' := [(4, ev_i 0), (3, ev_i 0), (0, ev_r 132), (1, ev_i a1), (2, ev_i a2)]) dX9_wordOf_3 (Nat.le_of_ble_eq_true rfl) rfl ?_
  refine Ev_iconst dX9_wordOf_5 rfl (ev_Rc rfl) ?_
  refine Ev_istore (l' := [(5, ev_i 0), (4, ev_i 0), (3, ev_i 0), (0, ev_r 132), (1, ev_i a1), (2, ev_i a2)]) dX9_wordOf_6 (Nat.le_of_ble_eq_true rfl) rfl ?_
  exact Ev_sub [3, 4, 5, 2, 1, 0] rfl h
theorem wp_X9_wordOf_8 {d : Nat} {s : ev_S} {Q : Option ev_V → ev_S → Prop} {a1 a2 a3 a4 a5 : Int}
    (h : ((176 < a5 → Q (some (ev_i 52)) s) ∧ (a5 ≤ 176 → ((a5 = 176 → Ev layX M_X9_wordOf (d + 7) 40 [(0, ev_r 132), (1, ev_i a1), (2, ev_i a2), (3, ev_i a3), (4, ev_i a4), (5, ev_i a5)] [] s Q) ∧ (a5 ≠ 176 → ((0 ≤ a5 ∧ a5 < 176) ∧ (((ev_ch a5) ≠ 32 → Ev layX M_X9_wordOf (d + 7) 8 [(0, ev_r 132), (1, ev_i a1), (2, ev_i a2), (3, ev_i a3), (4, ev_i a4), (5, ev_i (ev_add a5 1))] [] s Q) ∧ ((ev_ch a5) = 32 → Ev layX M_X9_wordOf (d + 7) 40 [(0, ev_r 132), (1, ev_i a1), (2, ev_i a2), (3, ev_i a3), (4, ev_i a4), (5, ev_i a5)] [] s Q)))))))) :
    Ev layX M_X9_wordOf (d + 7) 8 [(0, ev_r 132), (1, ev_i a1), (2, ev_i a2), (3, ev_i a3), (4, ev_i a4), (5, ev_i a5)] [] s Q := by
  refine Ev_iload 5 dX9_wordOf_8 rfl ?_
  refine Ev_slen rfl dX9_wordOf_10 dX9_wordOf_12 (Nat.le_of_ble_eq_true rfl) ?_
  refine Ev_icmp_gt (tgt := 79) dX9_wordOf_15 rfl (fun c => ?_) (fun c => ?_)
  · replace h := h.1 c
    refine Ev_bipushC dX9_wordOf_79 rfl ?_
    exact Ev_iret rfl dX9_wordOf_81 rfl h
  · replace h := h.2 c
    refine Ev_iload 5 dX9_wordOf_18 rfl ?_
    refine Ev_slen rfl dX9_wordOf_20 dX9_wordOf_22 (Nat.le_of_ble_eq_true rfl) ?_
    refine Ev_icmp_eq (tgt := 40) dX9_wordOf_25 rfl (fun c => ?_) (fun c => ?_)
    · replace h := h.1 c
      exact Ev_sub [0, 1, 2, 3, 4, 5] rfl h
    · replace h := h.2 c
      obtain ⟨h0, h⟩ := h
      refine Ev_schar 5 rfl dX9_wordOf_28 dX9_wordOf_30 rfl dX9_wordOf_32 h0 (Nat.le_of_ble_eq_true rfl) ?_
      refine Ev_bipushC dX9_wordOf_35 rfl ?_
      refine Ev_icmp_ne (tgt := 73) dX9_wordOf_37 rfl (fun c => ?_) (fun c => ?_)
      · replace h := h.1 c
        refine Ev_iinc (j := 5) (l' := [(5, ev_i (ev_add a5 1)), (0, ev_r 132), (1, ev_i a1), (2, ev_i a2), (3, ev_i a3), (4, ev_i a4)]) dX9_wordOf_73 rfl (Nat.le_of_ble_eq_true rfl) rfl ?_
        refine Ev_goto (tgt := 8) dX9_wordOf_76 rfl ?_
        exact Ev_sub [1, 2, 3, 4, 5, 0] rfl h
      · replace h := h.2 c
        exact Ev_sub [0, 1, 2, 3, 4, 5] rfl h
theorem wp_X9_wordOf_40 {d : Nat} {s : ev_S} {Q : Option ev_V → ev_S → Prop} {a1 a2 a3 a4 a5 : Int}
    (h : (((ev_sub a5 a4) ≠ (ev_sub a2 a1) → Ev layX M_X9_wordOf (d + 7) 8 [(0, ev_r 132), (1, ev_i a1), (2, ev_i a2), (3, ev_i (ev_add a3 1)), (4, ev_i (ev_add a5 1)), (5, ev_i (ev_add a5 1))] [] s Q) ∧ ((ev_sub a5 a4) = (ev_sub a2 a1) → (Ev layX M_X9_isSame (d + 6) 0 [(0, ev_r 132), (1, ev_i a1), (2, ev_i a2), (3, ev_i a4)] [] s (ev_pi (fun r2 s1 => ((r2 = 0 → Ev layX M_X9_wordOf (d + 7) 8 [(0, ev_r 132), (1, ev_i a1), (2, ev_i a2), (3, ev_i (ev_add a3 1)), (4, ev_i (ev_add a5 1)), (5, ev_i (ev_add a5 1))] [] s1 Q) ∧ (r2 ≠ 0 → Q (some (ev_i a3)) s1)))))))) :
    Ev layX M_X9_wordOf (d + 7) 40 [(0, ev_r 132), (1, ev_i a1), (2, ev_i a2), (3, ev_i a3), (4, ev_i a4), (5, ev_i a5)] [] s Q := by
  refine Ev_iload 5 dX9_wordOf_40 rfl ?_
  refine Ev_iload 4 dX9_wordOf_42 rfl ?_
  refine Ev_isub dX9_wordOf_44 ?_
  refine Ev_iload_n 2 dX9_wordOf_45 rfl rfl ?_
  refine Ev_iload_n 1 dX9_wordOf_46 rfl rfl ?_
  refine Ev_isub dX9_wordOf_47 ?_
  refine Ev_icmp_ne (tgt := 64) dX9_wordOf_48 rfl (fun c => ?_) (fun c => ?_)
  · replace h := h.1 c
    refine Ev_iinc (j := 3) (l' := [(3, ev_i (ev_add a3 1)), (0, ev_r 132), (1, ev_i a1), (2, ev_i a2), (4, ev_i a4), (5, ev_i a5)]) dX9_wordOf_64 rfl (Nat.le_of_ble_eq_true rfl) rfl ?_
    refine Ev_iload 5 dX9_wordOf_67 rfl ?_
    refine Ev_iconst dX9_wordOf_69 rfl (ev_Rc rfl) ?_
    refine Ev_iadd dX9_wordOf_70 ?_
    refine Ev_istore (l' := [(4, ev_i (ev_add a5 1)), (3, ev_i (ev_add a3 1)), (0, ev_r 132), (1, ev_i a1), (2, ev_i a2), (5, ev_i a5)]) dX9_wordOf_71 (Nat.le_of_ble_eq_true rfl) rfl ?_
    refine Ev_iinc (j := 5) (l' := [(5, ev_i (ev_add a5 1)), (4, ev_i (ev_add a5 1)), (3, ev_i (ev_add a3 1)), (0, ev_r 132), (1, ev_i a1), (2, ev_i a2)]) dX9_wordOf_73 rfl (Nat.le_of_ble_eq_true rfl) rfl ?_
    refine Ev_goto (tgt := 8) dX9_wordOf_76 rfl ?_
    exact Ev_sub [3, 4, 5, 2, 1, 0] rfl h
  · replace h := h.2 c
    refine Ev_aload_n 0 dX9_wordOf_51 rfl rfl ?_
    refine Ev_iload_n 1 dX9_wordOf_52 rfl rfl ?_
    refine Ev_iload_n 2 dX9_wordOf_53 rfl rfl ?_
    refine Ev_iload 4 dX9_wordOf_54 rfl ?_
    refine Ev_callV (As := [ev_i a1, ev_i a2, ev_i a4]) (b := 132) (st := []) (M' := M_X9_isSame) cm_X9_isSame wd_859 wd_861 wd_4 yX_132 cl_X9 rfl dX9_wordOf_56 (Nat.le_refl _) rfl (Nat.le_of_ble_eq_true rfl) (Nat.le_of_ble_eq_true rfl) h (fun v u h hk => ?_)
    obtain ⟨r2, rfl⟩ := hk
    obtain ⟨s1, rfl⟩ : ∃ x, x = u := ⟨_, rfl⟩
    replace h := h r2 rfl
    refine Ev_if_eq (tgt := 64) dX9_wordOf_59 rfl (fun c => ?_) (fun c => ?_)
    · replace h := h.1 c
      refine Ev_iinc (j := 3) (l' := [(3, ev_i (ev_add a3 1)), (0, ev_r 132), (1, ev_i a1), (2, ev_i a2), (4, ev_i a4), (5, ev_i a5)]) dX9_wordOf_64 rfl (Nat.le_of_ble_eq_true rfl) rfl ?_
      refine Ev_iload 5 dX9_wordOf_67 rfl ?_
      refine Ev_iconst dX9_wordOf_69 rfl (ev_Rc rfl) ?_
      refine Ev_iadd dX9_wordOf_70 ?_
      refine Ev_istore (l' := [(4, ev_i (ev_add a5 1)), (3, ev_i (ev_add a3 1)), (0, ev_r 132), (1, ev_i a1), (2, ev_i a2), (5, ev_i a5)]) dX9_wordOf_71 (Nat.le_of_ble_eq_true rfl) rfl ?_
      refine Ev_iinc (j := 5) (l' := [(5, ev_i (ev_add a5 1)), (4, ev_i (ev_add a5 1)), (3, ev_i (ev_add a3 1)), (0, ev_r 132), (1, ev_i a1), (2, ev_i a2)]) dX9_wordOf_73 rfl (Nat.le_of_ble_eq_true rfl) rfl ?_
      refine Ev_goto (tgt := 8) dX9_wordOf_76 rfl ?_
      exact Ev_sub [3, 4, 5, 2, 1, 0] rfl h
    · replace h := h.2 c
      refine Ev_iload_n 3 dX9_wordOf_62 rfl rfl ?_
      exact Ev_iret rfl dX9_wordOf_63 rfl h
theorem wp_X9_note_0 {d : Nat} {s : ev_S} {Q : Option ev_V → ev_S → Prop} {a1 a2 a3 : Int}
    (h : ((a1 ≠ 1 → ((a1 ≠ 2 → Ev layX M_X9_note (d + 8) 75 [(0, ev_r 132), (1, ev_i a1), (2, ev_i a2), (4, ev_i 52), (5, ev_i 0)] [] s Q) ∧ (a1 = 2 → ((4 < (ev_sub a3 a2) → Ev layX M_X9_note (d + 8) 75 [(0, ev_r 132), (1, ev_i a1), (2, ev_i a2), (4, ev_i 52), (5, ev_i 0)] [] s Q) ∧ ((ev_sub a3 a2) ≤ 4 → Ev layX M_X9_note (d + 8) 42 [(0, ev_r 132), (2, ev_i a2), (3, ev_i a3), (4, ev_i 50), (5, ev_i 0), (6, ev_i a2)] [] s Q))))) ∧ (a1 = 1 → (Ev layX M_X9_wordOf (d + 7) 0 [(0, ev_r 132), (1, ev_i a2), (2, ev_i a3)] [] s (ev_pi (fun r2 s1 => Ev layX M_X9_note (d + 8) 114 [(0, ev_r 132), (2, ev_i a2), (4, ev_i r2), (5, ev_i 0)] [] s1 Q)))))) :
    Ev layX M_X9_note (d + 8) 0 [(0, ev_r 132), (1, ev_i a1), (2, ev_i a2), (3, ev_i a3)] [] s Q := by
  refine Ev_bipushC dX9_note_0 rfl ?_
  refine Ev_istore (l' := [(4, ev_i 52), (0, ev_r 132), (1, ev_i a1), (2, ev_i a2), (3, ev_i a3)]) dX9_note_2 (Nat.le_of_ble_eq_true rfl) rfl ?_
  refine Ev_iconst dX9_note_4 rfl (ev_Rc rfl) ?_
  refine Ev_istore (l' := [(5, ev_i 0), (4, ev_i 52), (0, ev_r 132), (1, ev_i a1), (2, ev_i a2), (3, ev_i a3)]) dX9_note_5 (Nat.le_of_ble_eq_true rfl) rfl ?_
  refine Ev_iload_n 3 dX9_note_7 rfl rfl ?_
  refine Ev_iconst dX9_note_8 rfl (ev_Rc rfl) ?_
  refine Ev_icmp_ne (tgt := 23) dX9_note_9 rfl (fun c => ?_) (fun c => ?_)
  · replace h := h.1 c
    refine Ev_iload_n 3 dX9_note_23 rfl rfl ?_
    refine Ev_iconst dX9_note_24 rfl (ev_Rc rfl) ?_
    refine Ev_icmp_ne (tgt := 75) dX9_note_25 rfl (fun c => ?_) (fun c => ?_)
    · replace h := h.1 c
      exact Ev_sub [2, 3, 4, 1, 0] rfl h
    · replace h := h.2 c
      refine Ev_iload_n 5 dX9_note_28 rfl rfl ?_
      refine Ev_iload_n 4 dX9_note_29 rfl rfl ?_
      refine Ev_isub dX9_note_30 ?_
      refine Ev_iconst dX9_note_31 rfl (ev_Rc rfl) ?_
      refine Ev_icmp_gt (tgt := 75) dX9_note_32 rfl (fun c => ?_) (fun c => ?_)
      · replace h := h.1 c
        exact Ev_sub [2, 3, 4, 1, 0] rfl h
      · replace h := h.2 c
        refine Ev_bipushC dX9_note_35 rfl ?_
        refine Ev_istore (l' := [(4, ev_i 50), (5, ev_i 0), (0, ev_r 132), (1, ev_i a1), (2, ev_i a2), (3, ev_i a3)]) dX9_note_37 (Nat.le_of_ble_eq_true rfl) rfl ?_
        refine Ev_iload_n 4 dX9_note_39 rfl rfl ?_
        refine Ev_istore (l' := [(6, ev_i a2), (4, ev_i 50), (5, ev_i 0), (0, ev_r 132), (1, ev_i a1), (2, ev_i a2), (3, ev_i a3)]) dX9_note_40 (Nat.le_of_ble_eq_true rfl) rfl ?_
        exact Ev_sub [3, 5, 6, 1, 2, 0] rfl h
  · replace h := h.2 c
    refine Ev_aload_n 2 dX9_note_12 rfl rfl ?_
    refine Ev_iload_n 4 dX9_note_13 rfl rfl ?_
    refine Ev_iload_n 5 dX9_note_14 rfl rfl ?_
    refine Ev_callV (As := [ev_i a2, ev_i a3]) (b := 132) (st := []) (M' := M_X9_wordOf) cm_X9_wordOf wd_806 wd_808 wd_3 yX_132 cl_X9 rfl dX9_note_15 (Nat.le_refl _) rfl (Nat.le_of_ble_eq_true rfl) (Nat.le_of_ble_eq_true rfl) h (fun v u h hk => ?_)
    obtain ⟨r2, rfl⟩ := hk
    obtain ⟨s1, rfl⟩ : ∃ x, x = u := ⟨_, rfl⟩
    replace h := h r2 rfl
    refine Ev_istore (l' := [(4, ev_i r2), (5, ev_i 0), (0, ev_r 132), (1, ev_i a1), (2, ev_i a2), (3, ev_i a3)]) dX9_note_18 (Nat.le_of_ble_eq_true rfl) rfl ?_
    refine Ev_goto (tgt := 114) dX9_note_20 rfl ?_
    exact Ev_sub [2, 4, 0, 1] rfl h
theorem wp_X9_note_42 {d : Nat} {s : ev_S} {Q : Option ev_V → ev_S → Prop} {a2 a3 a4 a5 a6 : Int}
    (h : ((a3 ≤ a6 → Ev layX M_X9_note (d + 8) 114 [(0, ev_r 132), (2, ev_i a2), (4, ev_i a4), (5, ev_i a5)] [] s Q) ∧ (a6 < a3 → ((0 ≤ a6 ∧ a6 < (400 : Nat)) ∧ Ev layX M_X9_note (d + 8) 42 [(0, ev_r 132), (2, ev_i a2), (3, ev_i a3), (4, ev_i a4), (5, ev_i (ev_sub (ev_add (ev_mul 10 a5) (s 133 (Int.toNat a6))) 48)), (6, ev_i (ev_add a6 1))] [] s Q)))) :
    Ev layX M_X9_note (d + 8) 42 [(0, ev_r 132), (2, ev_i a2), (3, ev_i a3), (4, ev_i a4), (5, ev_i a5), (6, ev_i a6)] [] s Q := by
  refine Ev_iload 5 dX9_note_42 rfl ?_
  refine Ev_iload_n 2 dX9_note_44 rfl rfl ?_
  refine Ev_icmp_ge (tgt := 72) dX9_note_45 rfl (fun c => ?_) (fun c => ?_)
  · replace h := h.1 c
    refine Ev_goto (tgt := 114) dX9_note_72 rfl ?_
    exact Ev_sub [0, 1, 3, 4] rfl h
  · replace h := h.2 c
    refine Ev_bipushC dX9_note_48 rfl ?_
    refine Ev_iload 4 dX9_note_50 rfl ?_
    refine Ev_imul dX9_note_52 ?_
    refine Ev_aload_n 0 dX9_note_53 rfl rfl ?_
    refine Ev_getR (i := 0) cl_X9 yX_132 (Nat.le_of_ble_eq_true rfl) rfl wd_476 dX9_note_54 ?_
    refine Ev_iload 5 dX9_note_57 rfl ?_
    obtain ⟨h0, h⟩ := h
    refine Ev_bald yX_133 h0 dX9_note_59 ?_
    refine Ev_iadd dX9_note_60 ?_
    refine Ev_bipushC dX9_note_61 rfl ?_
    refine Ev_isub dX9_note_63 ?_
    refine Ev_istore (l' := [(5, ev_i (ev_sub (ev_add (ev_mul 10 a5) (s 133 (Int.toNat a6))) 48)), (0, ev_r 132), (2, ev_i a2), (3, ev_i a3), (4, ev_i a4), (6, ev_i a6)]) dX9_note_64 (Nat.le_of_ble_eq_true rfl) rfl ?_
    refine Ev_iinc (j := 5) (l' := [(6, ev_i (ev_add a6 1)), (5, ev_i (ev_sub (ev_add (ev_mul 10 a5) (s 133 (Int.toNat a6))) 48)), (0, ev_r 132), (2, ev_i a2), (3, ev_i a3), (4, ev_i a4)]) dX9_note_66 rfl (Nat.le_of_ble_eq_true rfl) rfl ?_
    refine Ev_goto (tgt := 42) dX9_note_69 rfl ?_
    exact Ev_sub [2, 3, 4, 5, 1, 0] rfl h
theorem wp_X9_note_75 {d : Nat} {s : ev_S} {Q : Option ev_V → ev_S → Prop} {a1 a2 a4 a5 : Int}
    (h : ((a1 ≠ 0 → Ev layX M_X9_note (d + 8) 114 [(0, ev_r 132), (2, ev_i a2), (4, ev_i a4), (5, ev_i a5)] [] s Q) ∧ (a1 = 0 → ((0 ≤ a2 ∧ a2 < (400 : Nat)) ∧ (((s 133 (Int.toNat a2)) ≤ 0 → Ev layX M_X9_note (d + 8) 114 [(0, ev_r 132), (2, ev_i a2), (4, ev_i a4), (5, ev_i a5)] [] s Q) ∧ (0 < (s 133 (Int.toNat a2)) → ((0 ≤ a2 ∧ a2 < (400 : Nat)) ∧ (0 < (s 133 (Int.toNat a2)) ∧ (s 133 (Int.toNat a2)) < 128) ∧ ∀ r1 : Int, (0 ≤ r1 ↔ cSi (s 133 (Int.toNat a2)) = true) → ((r1 < 0 → Ev layX M_X9_note (d + 8) 114 [(0, ev_r 132), (2, ev_i a2), (4, ev_i a4), (5, ev_i a5)] [] s Q) ∧ (0 ≤ r1 → ((0 ≤ a2 ∧ a2 < (400 : Nat)) ∧ Ev layX M_X9_note (d + 8) 114 [(0, ev_r 132), (2, ev_i a2), (4, ev_i (ev_add 100 (s 133 (Int.toNat a2)))), (5, ev_i a5)] [] s Q)))))))))) :
    Ev layX M_X9_note (d + 8) 75 [(0, ev_r 132), (1, ev_i a1), (2, ev_i a2), (4, ev_i a4), (5, ev_i a5)] [] s Q := by
  refine Ev_iload_n 1 dX9_note_75 rfl rfl ?_
  refine Ev_if_ne (tgt := 114) dX9_note_76 rfl (fun c => ?_) (fun c => ?_)
  · replace h := h.1 c
    exact Ev_sub [0, 2, 3, 4] rfl h
  · replace h := h.2 c
    refine Ev_aload_n 0 dX9_note_79 rfl rfl ?_
    refine Ev_getR (i := 0) cl_X9 yX_132 (Nat.le_of_ble_eq_true rfl) rfl wd_476 dX9_note_80 ?_
    refine Ev_iload_n 2 dX9_note_83 rfl rfl ?_
    obtain ⟨h0, h⟩ := h
    refine Ev_bald yX_133 h0 dX9_note_84 ?_
    refine Ev_if_le (tgt := 114) dX9_note_85 rfl (fun c => ?_) (fun c => ?_)
    · replace h := h.1 c
      exact Ev_sub [0, 2, 3, 4] rfl h
    · replace h := h.2 c
      obtain ⟨h0, h1, h⟩ := h
      refine Ev_sidx 0 2 rfl rfl h0 h1 (fun r1 hr => ?_)
      replace h := h r1 hr
      refine Ev_if_lt (tgt := 114) dX9_note_100 rfl (fun c => ?_) (fun c => ?_)
      · replace h := h.1 c
        exact Ev_sub [0, 2, 3, 4] rfl h
      · replace h := h.2 c
        refine Ev_bipushC dX9_note_103 rfl ?_
        refine Ev_aload_n 0 dX9_note_105 rfl rfl ?_
        refine Ev_getR (i := 0) cl_X9 yX_132 (Nat.le_of_ble_eq_true rfl) rfl wd_476 dX9_note_106 ?_
        refine Ev_iload_n 2 dX9_note_109 rfl rfl ?_
        obtain ⟨h0, h⟩ := h
        refine Ev_bald yX_133 h0 dX9_note_110 ?_
        refine Ev_iadd dX9_note_111 ?_
        refine Ev_istore (l' := [(4, ev_i (ev_add 100 (s 133 (Int.toNat a2)))), (0, ev_r 132), (1, ev_i a1), (2, ev_i a2), (5, ev_i a5)]) dX9_note_112 (Nat.le_of_ble_eq_true rfl) rfl ?_
        exact Ev_sub [1, 3, 0, 4] rfl h
theorem wp_X9_note_114 {d : Nat} {s : ev_S} {Q : Option ev_V → ev_S → Prop} {a2 a4 a5 : Int}
    (h : ((400 ≤ (s 132 5) → Q none s) ∧ ((s 132 5) < 400 → ((0 ≤ (s 132 5) ∧ (s 132 5) < (400 : Nat)) ∧ ∀ s1, ev_up s 134 (Int.toNat (s 132 5)) a4 = s1 → ((0 ≤ (s1 132 5) ∧ (s1 132 5) < (400 : Nat)) ∧ ∀ s2, ev_up s1 135 (Int.toNat (s1 132 5)) a5 = s2 → ((0 ≤ (s2 132 5) ∧ (s2 132 5) < (400 : Nat)) ∧ ∀ s3, ev_up s2 136 (Int.toNat (s2 132 5)) a2 = s3 → (∀ s4, ev_up s3 132 5 (ev_add (s3 132 5) 1) = s4 → Q none s4))))))) :
    Ev layX M_X9_note (d + 8) 114 [(0, ev_r 132), (2, ev_i a2), (4, ev_i a4), (5, ev_i a5)] [] s Q := by
  refine Ev_aload_n 0 dX9_note_114 rfl rfl ?_
  refine Ev_get (i := 5) cl_X9 yX_132 (Nat.le_of_ble_eq_true rfl) rfl wd_486 dX9_note_115 ?_
  refine Ev_sipushC dX9_note_118 rfl ?_
  refine Ev_icmp_ge (tgt := 166) dX9_note_121 rfl (fun c => ?_) (fun c => ?_)
  · replace h := h.1 c
    exact Ev_vret rfl dX9_note_166 h
  · replace h := h.2 c
    refine Ev_aload_n 0 dX9_note_124 rfl rfl ?_
    refine Ev_getR (i := 2) cl_X9 yX_132 (Nat.le_of_ble_eq_true rfl) rfl wd_480 dX9_note_125 ?_
    refine Ev_aload_n 0 dX9_note_128 rfl rfl ?_
    refine Ev_get (i := 5) cl_X9 yX_132 (Nat.le_of_ble_eq_true rfl) rfl wd_486 dX9_note_129 ?_
    refine Ev_iload 2 dX9_note_132 rfl ?_
    obtain ⟨h0, h⟩ := h
    refine Ev_iast yX_134 h0 dX9_note_134 (Ev_nm (fun s1 es1 => ?_))
    replace h := h s1 es1
    refine Ev_aload_n 0 dX9_note_135 rfl rfl ?_
    refine Ev_getR (i := 3) cl_X9 yX_132 (Nat.le_of_ble_eq_true rfl) rfl wd_482 dX9_note_136 ?_
    refine Ev_aload_n 0 dX9_note_139 rfl rfl ?_
    refine Ev_get (i := 5) cl_X9 yX_132 (Nat.le_of_ble_eq_true rfl) rfl wd_486 dX9_note_140 ?_
    refine Ev_iload 3 dX9_note_143 rfl ?_
    obtain ⟨h0, h⟩ := h
    refine Ev_iast yX_135 h0 dX9_note_145 (Ev_nm (fun s2 es2 => ?_))
    replace h := h s2 es2
    refine Ev_aload_n 0 dX9_note_146 rfl rfl ?_
    refine Ev_getR (i := 4) cl_X9 yX_132 (Nat.le_of_ble_eq_true rfl) rfl wd_484 dX9_note_147 ?_
    refine Ev_aload_n 0 dX9_note_150 rfl rfl ?_
    refine Ev_get (i := 5) cl_X9 yX_132 (Nat.le_of_ble_eq_true rfl) rfl wd_486 dX9_note_151 ?_
    refine Ev_iload_n 1 dX9_note_154 rfl rfl ?_
    obtain ⟨h0, h⟩ := h
    refine Ev_iast yX_136 h0 dX9_note_155 (Ev_nm (fun s3 es3 => ?_))
    replace h := h s3 es3
    refine Ev_aload_n 0 dX9_note_156 rfl rfl ?_
    refine Ev_dup dX9_note_157 rfl ?_
    refine Ev_get (i := 5) cl_X9 yX_132 (Nat.le_of_ble_eq_true rfl) rfl wd_486 dX9_note_158 ?_
    refine Ev_iconst dX9_note_161 rfl (ev_Rc rfl) ?_
    refine Ev_iadd dX9_note_162 ?_
    refine Ev_put (i := 5) (ty := .int) cl_X9 yX_132 (Nat.le_of_ble_eq_true rfl) rfl rfl (by decide +kernel) rfl rfl wd_486 dX9_note_163 (Ev_nm (fun s4 es4 => ?_))
    replace h := h s4 es4
    exact Ev_vret rfl dX9_note_166 h
end
