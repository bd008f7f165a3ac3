theorem dX12_isIn_0 : decode cX12_isIn 0 = .ok (.iload_n 1, 1) := by decide +kernel
theorem dX12_isIn_1 : decode cX12_isIn 1 = .ok (.iload_n 2, 1) := by decide +kernel
theorem dX12_isIn_2 : decode cX12_isIn 2 = .ok (.if_icmp .lt 12, 3) := by decide +kernel
theorem dX12_isIn_5 : decode cX12_isIn 5 = .ok (.iload_n 1, 1) := by decide +kernel
theorem dX12_isIn_6 : decode cX12_isIn 6 = .ok (.iload_n 3, 1) := by decide +kernel
theorem dX12_isIn_7 : decode cX12_isIn 7 = .ok (.if_icmp .gt 7, 3) := by decide +kernel
theorem dX12_isIn_10 : decode cX12_isIn 10 = .ok (.iconst 1, 1) := by decide +kernel
theorem dX12_isIn_11 : decode cX12_isIn 11 = .ok (.goto 4, 3) := by decide +kernel
theorem dX12_isIn_14 : decode cX12_isIn 14 = .ok (.iconst 0, 1) := by decide +kernel
theorem dX12_isIn_15 : decode cX12_isIn 15 = .ok (.ireturn, 1) := by decide +kernel
theorem wp_X12_isIn_0 {d : Nat} {s : ev_S} {Q : Option ev_V → ev_S → Prop} {a1 a2 a3 : Int}
    (h : ((a1 < a2 → Q (some (ev_i 0)) s) ∧ (a2 ≤ a1 → ((a3 < a1 → Q (some (ev_i 0)) s) ∧ (a1 ≤ a3 → Q (some (ev_i 1)) s))))) :
    Ev layM M_X12_isIn d 0 [(0, ev_r 0), (1, ev_i a1), (2, ev_i a2), (3, ev_i a3)] [] s Q := by
  refine Ev_iload_n 1 dX12_isIn_0 rfl rfl ?_
  refine Ev_iload_n 2 dX12_isIn_1 rfl rfl ?_
  refine Ev_icmp_lt (tgt := 14) dX12_isIn_2 rfl (fun c => ?_) (fun c => ?_)
  · replace h := h.1 c
    refine Ev_iconst dX12_isIn_14 rfl (ev_Rc rfl) ?_
    exact Ev_iret rfl dX12_isIn_15 (ev_nb (by decide)) h
  · replace h := h.2 c
    refine Ev_iload_n 1 dX12_isIn_5 rfl rfl ?_
    refine Ev_iload_n 3 dX12_isIn_6 rfl rfl ?_
    refine Ev_icmp_gt (tgt := 14) dX12_isIn_7 rfl (fun c => ?_) (fun c => ?_)
    · replace h := h.1 c
      refine Ev_iconst dX12_isIn_14 rfl (ev_Rc rfl) ?_
      exact Ev_iret rfl dX12_isIn_15 (ev_nb (by decide)) h
    · replace h := h.2 c
      refine Ev_iconst dX12_isIn_10 rfl (ev_Rc rfl) ?_
      refine Ev_goto (tgt := 15) dX12_isIn_11 rfl ?_
      exact Ev_iret rfl dX12_isIn_15 (ev_nb (by decide)) h
theorem dX12_without_0 : decode cX12_without 0 = .ok (.iload_n 1, 1) := by decide +kernel
theorem dX12_without_1 : decode cX12_without 1 = .ok (.ifCond .ge 8, 3) := by decide +kernel
theorem dX12_without_4 : decode cX12_without 4 = .ok (.iload_n 1, 1) := by decide +kernel
theorem dX12_without_5 : decode cX12_without 5 = .ok (.ineg, 1) := by decide +kernel
theorem dX12_without_6 : decode cX12_without 6 = .ok (.goto 4, 3) := by decide +kernel
theorem dX12_without_9 : decode cX12_without 9 = .ok (.iload_n 1, 1) := by decide +kernel
theorem dX12_without_10 : decode cX12_without 10 = .ok (.ireturn, 1) := by decide +kernel
theorem wp_X12_without_0 {d : Nat} {s : ev_S} {Q : Option ev_V → ev_S → Prop} {a1 : Int}
    (h : ((0 ≤ a1 → Q (some (ev_i a1)) s) ∧ (a1 < 0 → Q (some (ev_i (ev_neg a1))) s))) :
    Ev layM M_X12_without d 0 [(0, ev_r 0), (1, ev_i a1)] [] s Q := by
  refine Ev_iload_n 1 dX12_without_0 rfl rfl ?_
  refine Ev_if_ge (tgt := 9) dX12_without_1 rfl (fun c => ?_) (fun c => ?_)
  · replace h := h.1 c
    refine Ev_iload_n 1 dX12_without_9 rfl rfl ?_
    exact Ev_iret rfl dX12_without_10 rfl h
  · replace h := h.2 c
    refine Ev_iload_n 1 dX12_without_4 rfl rfl ?_
    refine Ev_ineg dX12_without_5 ?_
    refine Ev_goto (tgt := 10) dX12_without_6 rfl ?_
    exact Ev_iret rfl dX12_without_10 rfl h
theorem dX12_greater_0 : decode cX12_greater 0 = .ok (.iload_n 1, 1) := by decide +kernel
theorem dX12_greater_1 : decode cX12_greater 1 = .ok (.iload_n 2, 1) := by decide +kernel
theorem dX12_greater_2 : decode cX12_greater 2 = .ok (.if_icmp .le 7, 3) := by decide +kernel
theorem dX12_greater_5 : decode cX12_greater 5 = .ok (.iload_n 1, 1) := by decide +kernel
theorem dX12_greater_6 : decode cX12_greater 6 = .ok (.goto 4, 3) := by decide +kernel
theorem dX12_greater_9 : decode cX12_greater 9 = .ok (.iload_n 2, 1) := by decide +kernel
theorem dX12_greater_10 : decode cX12_greater 10 = .ok (.ireturn, 1) := by decide +kernel
theorem wp_X12_greater_0 {d : Nat} {s : ev_S} {Q : Option ev_V → ev_S → Prop} {a1 a2 : Int}
    (h : ((a1 ≤ a2 → Q (some (ev_i a2)) s) ∧ (a2 < a1 → Q (some (ev_i a1)) s))) :
    Ev layM M_X12_greater d 0 [(0, ev_r 0), (1, ev_i a1), (2, ev_i a2)] [] s Q := by
  refine Ev_iload_n 1 dX12_greater_0 rfl rfl ?_
  refine Ev_iload_n 2 dX12_greater_1 rfl rfl ?_
  refine Ev_icmp_le (tgt := 9) dX12_greater_2 rfl (fun c => ?_) (fun c => ?_)
  · replace h := h.1 c
    refine Ev_iload_n 2 dX12_greater_9 rfl rfl ?_
    exact Ev_iret rfl dX12_greater_10 rfl h
  · replace h := h.2 c
    refine Ev_iload_n 1 dX12_greater_5 rfl rfl ?_
    refine Ev_goto (tgt := 10) dX12_greater_6 rfl ?_
    exact Ev_iret rfl dX12_greater_10 rfl h
theorem dX12_ones_0 : decode cX12_ones 0 = .ok (.iconst 0, 1) := by decide +kernel
theorem dX12_ones_1 : decode cX12_ones 1 = .ok (.istore_n 2, 1) := by decide +kernel
theorem dX12_ones_2 : decode cX12_ones 2 = .ok (.iload_n 1, 1) := by decide +kernel
theorem dX12_ones_3 : decode cX12_ones 3 = .ok (.istore_n 3, 1) := by decide +kernel
theorem dX12_ones_4 : decode cX12_ones 4 = .ok (.iload_n 3, 1) := by decide +kernel
theorem dX12_ones_5 : decode cX12_ones 5 = .ok (.ifCond .eq 16, 3) := by decide +kernel
theorem dX12_ones_8 : decode cX12_ones 8 = .ok (.iload_n 2, 1) := by decide +kernel
theorem dX12_ones_9 : decode cX12_ones 9 = .ok (.iconst 1, 1) := by decide +kernel
theorem dX12_ones_10 : decode cX12_ones 10 = .ok (.iadd, 1) := by decide +kernel
theorem dX12_ones_11 : decode cX12_ones 11 = .ok (.istore_n 2, 1) := by decide +kernel
theorem dX12_ones_12 : decode cX12_ones 12 = .ok (.iload_n 3, 1) := by decide +kernel
theorem dX12_ones_13 : decode cX12_ones 13 = .ok (.iload_n 3, 1) := by decide +kernel
theorem dX12_ones_14 : decode cX12_ones 14 = .ok (.iconst 1, 1) := by decide +kernel
theorem dX12_ones_15 : decode cX12_ones 15 = .ok (.isub, 1) := by decide +kernel
theorem dX12_ones_16 : decode cX12_ones 16 = .ok (.iand, 1) := by decide +kernel
theorem dX12_ones_17 : decode cX12_ones 17 = .ok (.istore_n 3, 1) := by decide +kernel
theorem dX12_ones_18 : decode cX12_ones 18 = .ok (.goto (-14), 3) := by decide +kernel
theorem dX12_ones_21 : decode cX12_ones 21 = .ok (.iload_n 2, 1) := by decide +kernel
theorem dX12_ones_22 : decode cX12_ones 22 = .ok (.ireturn, 1) := by decide +kernel
theorem wp_X12_ones_0 {d : Nat} {s : ev_S} {Q : Option ev_V → ev_S → Prop} {a1 : Int}
    (h : Ev layM M_X12_ones d 4 [(2, ev_i 0), (3, ev_i a1)] [] s Q) :
    Ev layM M_X12_ones d 0 [(0, ev_r 0), (1, ev_i a1)] [] s Q := by
  refine Ev_iconst dX12_ones_0 rfl (ev_Rc rfl) ?_
  refine Ev_istore_n (l' := [(2, ev_i 0), (0, ev_r 0), (1, ev_i a1)]) dX12_ones_1 rfl (Nat.le_of_ble_eq_true rfl) rfl ?_
  refine Ev_iload_n 2 dX12_ones_2 rfl rfl ?_
  refine Ev_istore_n (l' := [(3, ev_i a1), (2, ev_i 0), (0, ev_r 0), (1, ev_i a1)]) dX12_ones_3 rfl (Nat.le_of_ble_eq_true rfl) rfl ?_
  exact Ev_sub [1, 0] rfl h
theorem wp_X12_ones_4 {d : Nat} {s : ev_S} {Q : Option ev_V → ev_S → Prop} {a2 a3 : Int}
    (h : ((a3 = 0 → Q (some (ev_i a2)) s) ∧ (a3 ≠ 0 → Ev layM M_X12_ones d 4 [(2, ev_i (ev_add a2 1)), (3, ev_i (ev_and a3 (ev_sub a3 1)))] [] s Q))) :
    Ev layM M_X12_ones d 4 [(2, ev_i a2), (3, ev_i a3)] [] s Q := by
  refine Ev_iload_n 1 dX12_ones_4 rfl rfl ?_
  refine Ev_if_eq (tgt := 21) dX12_ones_5 rfl (fun c => ?_) (fun c => ?_)
  · replace h := h.1 c
    refine Ev_iload_n 0 dX12_ones_21 rfl rfl ?_
    exact Ev_iret rfl dX12_ones_22 rfl h
  · replace h := h.2 c
    refine Ev_iload_n 0 dX12_ones_8 rfl rfl ?_
    refine Ev_iconst dX12_ones_9 rfl (ev_Rc rfl) ?_
    refine Ev_iadd dX12_ones_10 ?_
    refine Ev_istore_n (l' := [(2, ev_i (ev_add a2 1)), (3, ev_i a3)]) dX12_ones_11 rfl (Nat.le_of_ble_eq_true rfl) rfl ?_
    refine Ev_iload_n 1 dX12_ones_12 rfl rfl ?_
    refine Ev_iload_n 1 dX12_ones_13 rfl rfl ?_
    refine Ev_iconst dX12_ones_14 rfl (ev_Rc rfl) ?_
    refine Ev_isub dX12_ones_15 ?_
    refine Ev_iand dX12_ones_16 ?_
    refine Ev_istore_n (l' := [(3, ev_i (ev_and a3 (ev_sub a3 1))), (2, ev_i (ev_add a2 1))]) dX12_ones_17 rfl (Nat.le_of_ble_eq_true rfl) rfl ?_
    refine Ev_goto (tgt := 4) dX12_ones_18 rfl ?_
    exact Ev_sub [1, 0] rfl h
theorem dX12_keepsAhead_0 : decode cX12_keepsAhead 0 = .ok (.aload_n 0, 1) := by decide +kernel
theorem dX12_keepsAhead_1 : decode cX12_keepsAhead 1 = .ok (.getfield 127, 3) := by decide +kernel
theorem dX12_keepsAhead_4 : decode cX12_keepsAhead 4 = .ok (.bipush 6, 2) := by decide +kernel
theorem dX12_keepsAhead_6 : decode cX12_keepsAhead 6 = .ok (.if_icmp .ne 47, 3) := by decide +kernel
theorem dX12_keepsAhead_9 : decode cX12_keepsAhead 9 = .ok (.aload_n 0, 1) := by decide +kernel
theorem dX12_keepsAhead_10 : decode cX12_keepsAhead 10 = .ok (.aload_n 0, 1) := by decide +kernel
theorem dX12_keepsAhead_11 : decode cX12_keepsAhead 11 = .ok (.getfield 127, 3) := by decide +kernel
theorem dX12_keepsAhead_14 : decode cX12_keepsAhead 14 = .ok (.iconst 1, 1) := by decide +kernel
theorem dX12_keepsAhead_15 : decode cX12_keepsAhead 15 = .ok (.isub, 1) := by decide +kernel
theorem dX12_keepsAhead_16 : decode cX12_keepsAhead 16 = .ok (.putfield 127, 3) := by decide +kernel
theorem dX12_keepsAhead_19 : decode cX12_keepsAhead 19 = .ok (.iconst 0, 1) := by decide +kernel
theorem dX12_keepsAhead_20 : decode cX12_keepsAhead 20 = .ok (.istore_n 1, 1) := by decide +kernel
theorem dX12_keepsAhead_21 : decode cX12_keepsAhead 21 = .ok (.iload_n 1, 1) := by decide +kernel
theorem dX12_keepsAhead_22 : decode cX12_keepsAhead 22 = .ok (.bipush 87, 2) := by decide +kernel
theorem dX12_keepsAhead_24 : decode cX12_keepsAhead 24 = .ok (.aload_n 0, 1) := by decide +kernel
theorem dX12_keepsAhead_25 : decode cX12_keepsAhead 25 = .ok (.getfield 127, 3) := by decide +kernel
theorem dX12_keepsAhead_28 : decode cX12_keepsAhead 28 = .ok (.imul, 1) := by decide +kernel
theorem dX12_keepsAhead_29 : decode cX12_keepsAhead 29 = .ok (.if_icmp .ge 24, 3) := by decide +kernel
theorem dX12_keepsAhead_32 : decode cX12_keepsAhead 32 = .ok (.aload_n 0, 1) := by decide +kernel
theorem dX12_keepsAhead_33 : decode cX12_keepsAhead 33 = .ok (.getfield 13, 3) := by decide +kernel
theorem dX12_keepsAhead_36 : decode cX12_keepsAhead 36 = .ok (.iload_n 1, 1) := by decide +kernel
theorem dX12_keepsAhead_37 : decode cX12_keepsAhead 37 = .ok (.aload_n 0, 1) := by decide +kernel
theorem dX12_keepsAhead_38 : decode cX12_keepsAhead 38 = .ok (.getfield 13, 3) := by decide +kernel
theorem dX12_keepsAhead_41 : decode cX12_keepsAhead 41 = .ok (.iload_n 1, 1) := by decide +kernel
theorem dX12_keepsAhead_42 : decode cX12_keepsAhead 42 = .ok (.bipush 87, 2) := by decide +kernel
theorem dX12_keepsAhead_44 : decode cX12_keepsAhead 44 = .ok (.iadd, 1) := by decide +kernel
theorem dX12_keepsAhead_45 : decode cX12_keepsAhead 45 = .ok (.iaload, 1) := by decide +kernel
theorem dX12_keepsAhead_46 : decode cX12_keepsAhead 46 = .ok (.iastore, 1) := by decide +kernel
theorem dX12_keepsAhead_47 : decode cX12_keepsAhead 47 = .ok (.iinc 1 1, 3) := by decide +kernel
theorem dX12_keepsAhead_50 : decode cX12_keepsAhead 50 = .ok (.goto (-29), 3) := by decide +kernel
theorem dX12_keepsAhead_53 : decode cX12_keepsAhead 53 = .ok (.iconst 0, 1) := by decide +kernel
theorem dX12_keepsAhead_54 : decode cX12_keepsAhead 54 = .ok (.istore_n 1, 1) := by decide +kernel
theorem dX12_keepsAhead_55 : decode cX12_keepsAhead 55 = .ok (.iload_n 1, 1) := by decide +kernel
theorem dX12_keepsAhead_56 : decode cX12_keepsAhead 56 = .ok (.bipush 87, 2) := by decide +kernel
theorem dX12_keepsAhead_58 : decode cX12_keepsAhead 58 = .ok (.if_icmp .ge 29, 3) := by decide +kernel
theorem dX12_keepsAhead_61 : decode cX12_keepsAhead 61 = .ok (.aload_n 0, 1) := by decide +kernel
theorem dX12_keepsAhead_62 : decode cX12_keepsAhead 62 = .ok (.getfield 13, 3) := by decide +kernel
theorem dX12_keepsAhead_65 : decode cX12_keepsAhead 65 = .ok (.bipush 87, 2) := by decide +kernel
theorem dX12_keepsAhead_67 : decode cX12_keepsAhead 67 = .ok (.aload_n 0, 1) := by decide +kernel
theorem dX12_keepsAhead_68 : decode cX12_keepsAhead 68 = .ok (.getfield 127, 3) := by decide +kernel
theorem dX12_keepsAhead_71 : decode cX12_keepsAhead 71 = .ok (.imul, 1) := by decide +kernel
theorem dX12_keepsAhead_72 : decode cX12_keepsAhead 72 = .ok (.iload_n 1, 1) := by decide +kernel
theorem dX12_keepsAhead_73 : decode cX12_keepsAhead 73 = .ok (.iadd, 1) := by decide +kernel
theorem dX12_keepsAhead_74 : decode cX12_keepsAhead 74 = .ok (.aload_n 0, 1) := by decide +kernel
theorem dX12_keepsAhead_75 : decode cX12_keepsAhead 75 = .ok (.getfield 7, 3) := by decide +kernel
theorem dX12_keepsAhead_78 : decode cX12_keepsAhead 78 = .ok (.iload_n 1, 1) := by decide +kernel
theorem dX12_keepsAhead_79 : decode cX12_keepsAhead 79 = .ok (.iaload, 1) := by decide +kernel
theorem dX12_keepsAhead_80 : decode cX12_keepsAhead 80 = .ok (.iastore, 1) := by decide +kernel
theorem dX12_keepsAhead_81 : decode cX12_keepsAhead 81 = .ok (.iinc 1 1, 3) := by decide +kernel
theorem dX12_keepsAhead_84 : decode cX12_keepsAhead 84 = .ok (.goto (-29), 3) := by decide +kernel
theorem dX12_keepsAhead_87 : decode cX12_keepsAhead 87 = .ok (.aload_n 0, 1) := by decide +kernel
theorem dX12_keepsAhead_88 : decode cX12_keepsAhead 88 = .ok (.aload_n 0, 1) := by decide +kernel
theorem dX12_keepsAhead_89 : decode cX12_keepsAhead 89 = .ok (.getfield 127, 3) := by decide +kernel
theorem dX12_keepsAhead_92 : decode cX12_keepsAhead 92 = .ok (.iconst 1, 1) := by decide +kernel
theorem dX12_keepsAhead_93 : decode cX12_keepsAhead 93 = .ok (.iadd, 1) := by decide +kernel
theorem dX12_keepsAhead_94 : decode cX12_keepsAhead 94 = .ok (.putfield 127, 3) := by decide +kernel
theorem dX12_keepsAhead_97 : decode cX12_keepsAhead 97 = .ok (.return_, 1) := by decide +kernel
theorem wp_X12_keepsAhead_0 {d : Nat} {s : ev_S} {Q : Option ev_V → ev_S → Prop}
    (h : (((s 0 3) ≠ 6 → Ev layM M_X12_keepsAhead d 55 [(0, ev_r 0), (1, ev_i 0)] [] s Q) ∧ ((s 0 3) = 6 → (∀ s1, ev_up s 0 3 (ev_sub (s 0 3) 1) = s1 → Ev layM M_X12_keepsAhead d 21 [(0, ev_r 0), (1, ev_i 0)] [] s1 Q)))) :
    Ev layM M_X12_keepsAhead d 0 [(0, ev_r 0)] [] s Q := by
  refine Ev_aload_n 0 dX12_keepsAhead_0 rfl rfl ?_
  refine Ev_get (i := 3) cl_X12 yM_0 (Nat.le_of_ble_eq_true rfl) rfl wd_1447 dX12_keepsAhead_1 ?_
  refine Ev_bipushC dX12_keepsAhead_4 rfl ?_
  refine Ev_icmp_ne (tgt := 53) dX12_keepsAhead_6 rfl (fun c => ?_) (fun c => ?_)
  · replace h := h.1 c
    refine Ev_iconst dX12_keepsAhead_53 rfl (ev_Rc rfl) ?_
    refine Ev_istore_n (l' := [(1, ev_i 0), (0, ev_r 0)]) dX12_keepsAhead_54 rfl (Nat.le_of_ble_eq_true rfl) rfl ?_
    exact Ev_sub [1, 0] rfl h
  · replace h := h.2 c
    refine Ev_aload_n 0 dX12_keepsAhead_9 rfl rfl ?_
    refine Ev_aload_n 0 dX12_keepsAhead_10 rfl rfl ?_
    refine Ev_get (i := 3) cl_X12 yM_0 (Nat.le_of_ble_eq_true rfl) rfl wd_1447 dX12_keepsAhead_11 ?_
    refine Ev_iconst dX12_keepsAhead_14 rfl (ev_Rc rfl) ?_
    refine Ev_isub dX12_keepsAhead_15 ?_
    refine Ev_put (i := 3) (ty := .int) cl_X12 yM_0 (Nat.le_of_ble_eq_true rfl) rfl rfl (by decide +kernel) rfl rfl wd_1447 dX12_keepsAhead_16 (Ev_nm (fun s1 es1 => ?_))
    replace h := h s1 es1
    refine Ev_iconst dX12_keepsAhead_19 rfl (ev_Rc rfl) ?_
    refine Ev_istore_n (l' := [(1, ev_i 0), (0, ev_r 0)]) dX12_keepsAhead_20 rfl (Nat.le_of_ble_eq_true rfl) rfl ?_
    exact Ev_sub [1, 0] rfl h
theorem wp_X12_keepsAhead_21 {d : Nat} {s : ev_S} {Q : Option ev_V → ev_S → Prop} {a1 : Int}
    (h : (((ev_mul 87 (s 0 3)) ≤ a1 → Ev layM M_X12_keepsAhead d 55 [(0, ev_r 0), (1, ev_i 0)] [] s Q) ∧ (a1 < (ev_mul 87 (s 0 3)) → ((0 ≤ (ev_add a1 87) ∧ (ev_add a1 87) < (522 : Nat)) ∧ ((0 ≤ a1 ∧ a1 < (522 : Nat)) ∧ ∀ s1, ev_up s 2 (Int.toNat a1) (s 2 (Int.toNat (ev_add a1 87))) = s1 → Ev layM M_X12_keepsAhead d 21 [(0, ev_r 0), (1, ev_i (ev_add a1 1))] [] s1 Q))))) :
    Ev layM M_X12_keepsAhead d 21 [(0, ev_r 0), (1, ev_i a1)] [] s Q := by
  refine Ev_iload_n 1 dX12_keepsAhead_21 rfl rfl ?_
  refine Ev_bipushC dX12_keepsAhead_22 rfl ?_
  refine Ev_aload_n 0 dX12_keepsAhead_24 rfl rfl ?_
  refine Ev_get (i := 3) cl_X12 yM_0 (Nat.le_of_ble_eq_true rfl) rfl wd_1447 dX12_keepsAhead_25 ?_
  refine Ev_imul dX12_keepsAhead_28 ?_
  refine Ev_icmp_ge (tgt := 53) dX12_keepsAhead_29 rfl (fun c => ?_) (fun c => ?_)
  · replace h := h.1 c
    refine Ev_iconst dX12_keepsAhead_53 rfl (ev_Rc rfl) ?_
    refine Ev_istore_n (l' := [(1, ev_i 0), (0, ev_r 0)]) dX12_keepsAhead_54 rfl (Nat.le_of_ble_eq_true rfl) rfl ?_
    exact Ev_sub [1, 0] rfl h
  · replace h := h.2 c
    refine Ev_aload_n 0 dX12_keepsAhead_32 rfl rfl ?_
    refine Ev_getR (i := 2) cl_X12 yM_0 (Nat.le_of_ble_eq_true rfl) rfl wd_1446 dX12_keepsAhead_33 ?_
    refine Ev_iload_n 1 dX12_keepsAhead_36 rfl rfl ?_
    refine Ev_aload_n 0 dX12_keepsAhead_37 rfl rfl ?_
    refine Ev_getR (i := 2) cl_X12 yM_0 (Nat.le_of_ble_eq_true rfl) rfl wd_1446 dX12_keepsAhead_38 ?_
    refine Ev_iload_n 1 dX12_keepsAhead_41 rfl rfl ?_
    refine Ev_bipushC dX12_keepsAhead_42 rfl ?_
    refine Ev_iadd dX12_keepsAhead_44 ?_
    obtain ⟨h0, h⟩ := h
    refine Ev_iald yM_2 h0 dX12_keepsAhead_45 ?_
    obtain ⟨h0, h⟩ := h
    refine Ev_iast yM_2 h0 dX12_keepsAhead_46 (Ev_nm (fun s1 es1 => ?_))
    replace h := h s1 es1
    refine Ev_iinc (j := 1) (l' := [(1, ev_i (ev_add a1 1)), (0, ev_r 0)]) dX12_keepsAhead_47 rfl (Nat.le_of_ble_eq_true rfl) rfl ?_
    refine Ev_goto (tgt := 21) dX12_keepsAhead_50 rfl ?_
    exact Ev_sub [1, 0] rfl h
theorem wp_X12_keepsAhead_55 {d : Nat} {s : ev_S} {Q : Option ev_V → ev_S → Prop} {a1 : Int}
    (h : ((87 ≤ a1 → (∀ s1, ev_up s 0 3 (ev_add (s 0 3) 1) = s1 → Q none s1)) ∧ (a1 < 87 → ((0 ≤ a1 ∧ a1 < (87 : Nat)) ∧ ((0 ≤ (ev_add (ev_mul 87 (s 0 3)) a1) ∧ (ev_add (ev_mul 87 (s 0 3)) a1) < (522 : Nat)) ∧ ∀ s2, ev_up s 2 (Int.toNat (ev_add (ev_mul 87 (s 0 3)) a1)) (s 1 (Int.toNat a1)) = s2 → Ev layM M_X12_keepsAhead d 55 [(0, ev_r 0), (1, ev_i (ev_add a1 1))] [] s2 Q))))) :
    Ev layM M_X12_keepsAhead d 55 [(0, ev_r 0), (1, ev_i a1)] [] s Q := by
  refine Ev_iload_n 1 dX12_keepsAhead_55 rfl rfl ?_
  refine Ev_bipushC dX12_keepsAhead_56 rfl ?_
  refine Ev_icmp_ge (tgt := 87) dX12_keepsAhead_58 rfl (fun c => ?_) (fun c => ?_)
  · replace h := h.1 c
    refine Ev_aload_n 0 dX12_keepsAhead_87 rfl rfl ?_
    refine Ev_aload_n 0 dX12_keepsAhead_88 rfl rfl ?_
    refine Ev_get (i := 3) cl_X12 yM_0 (Nat.le_of_ble_eq_true rfl) rfl wd_1447 dX12_keepsAhead_89 ?_
    refine Ev_iconst dX12_keepsAhead_92 rfl (ev_Rc rfl) ?_
    refine Ev_iadd dX12_keepsAhead_93 ?_
    refine Ev_put (i := 3) (ty := .int) cl_X12 yM_0 (Nat.le_of_ble_eq_true rfl) rfl rfl (by decide +kernel) rfl rfl wd_1447 dX12_keepsAhead_94 (Ev_nm (fun s1 es1 => ?_))
    replace h := h s1 es1
    exact Ev_vret rfl dX12_keepsAhead_97 h
  · replace h := h.2 c
    refine Ev_aload_n 0 dX12_keepsAhead_61 rfl rfl ?_
    refine Ev_getR (i := 2) cl_X12 yM_0 (Nat.le_of_ble_eq_true rfl) rfl wd_1446 dX12_keepsAhead_62 ?_
    refine Ev_bipushC dX12_keepsAhead_65 rfl ?_
    refine Ev_aload_n 0 dX12_keepsAhead_67 rfl rfl ?_
    refine Ev_get (i := 3) cl_X12 yM_0 (Nat.le_of_ble_eq_true rfl) rfl wd_1447 dX12_keepsAhead_68 ?_
    refine Ev_imul dX12_keepsAhead_71 ?_
    refine Ev_iload_n 1 dX12_keepsAhead_72 rfl rfl ?_
    refine Ev_iadd dX12_keepsAhead_73 ?_
    refine Ev_aload_n 0 dX12_keepsAhead_74 rfl rfl ?_
    refine Ev_getR (i := 1) cl_X12 yM_0 (Nat.le_of_ble_eq_true rfl) rfl wd_1445 dX12_keepsAhead_75 ?_
    refine Ev_iload_n 1 dX12_keepsAhead_78 rfl rfl ?_
    obtain ⟨h0, h⟩ := h
    refine Ev_iald yM_1 h0 dX12_keepsAhead_79 ?_
    obtain ⟨h0, h⟩ := h
    refine Ev_iast yM_2 h0 dX12_keepsAhead_80 (Ev_nm (fun s2 es2 => ?_))
    replace h := h s2 es2
    refine Ev_iinc (j := 1) (l' := [(1, ev_i (ev_add a1 1)), (0, ev_r 0)]) dX12_keepsAhead_81 rfl (Nat.le_of_ble_eq_true rfl) rfl ?_
    refine Ev_goto (tgt := 55) dX12_keepsAhead_84 rfl ?_
    exact Ev_sub [1, 0] rfl h
theorem dX12_undo_0 : decode cX12_undo 0 = .ok (.aload_n 0, 1) := by decide +kernel
theorem dX12_undo_1 : decode cX12_undo 1 = .ok (.iconst 0, 1) := by decide +kernel
theorem dX12_undo_2 : decode cX12_undo 2 = .ok (.putfield 124, 3) := by decide +kernel
theorem dX12_undo_5 : decode cX12_undo 5 = .ok (.aload_n 0, 1) := by decide +kernel
theorem dX12_undo_6 : decode cX12_undo 6 = .ok (.getfield 127, 3) := by decide +kernel
theorem dX12_undo_9 : decode cX12_undo 9 = .ok (.ifCond .ne 5, 3) := by decide +kernel
theorem dX12_undo_12 : decode cX12_undo 12 = .ok (.iconst 0, 1) := by decide +kernel
theorem dX12_undo_13 : decode cX12_undo 13 = .ok (.ireturn, 1) := by decide +kernel
theorem dX12_undo_14 : decode cX12_undo 14 = .ok (.aload_n 0, 1) := by decide +kernel
theorem dX12_undo_15 : decode cX12_undo 15 = .ok (.aload_n 0, 1) := by decide +kernel
theorem dX12_undo_16 : decode cX12_undo 16 = .ok (.getfield 127, 3) := by decide +kernel
theorem dX12_undo_19 : decode cX12_undo 19 = .ok (.iconst 1, 1) := by decide +kernel
theorem dX12_undo_20 : decode cX12_undo 20 = .ok (.isub, 1) := by decide +kernel
theorem dX12_undo_21 : decode cX12_undo 21 = .ok (.putfield 127, 3) := by decide +kernel
theorem dX12_undo_24 : decode cX12_undo 24 = .ok (.iconst 0, 1) := by decide +kernel
theorem dX12_undo_25 : decode cX12_undo 25 = .ok (.istore_n 1, 1) := by decide +kernel
theorem dX12_undo_26 : decode cX12_undo 26 = .ok (.iload_n 1, 1) := by decide +kernel
theorem dX12_undo_27 : decode cX12_undo 27 = .ok (.bipush 87, 2) := by decide +kernel
theorem dX12_undo_29 : decode cX12_undo 29 = .ok (.if_icmp .ge 29, 3) := by decide +kernel
theorem dX12_undo_32 : decode cX12_undo 32 = .ok (.aload_n 0, 1) := by decide +kernel
theorem dX12_undo_33 : decode cX12_undo 33 = .ok (.getfield 7, 3) := by decide +kernel
theorem dX12_undo_36 : decode cX12_undo 36 = .ok (.iload_n 1, 1) := by decide +kernel
theorem dX12_undo_37 : decode cX12_undo 37 = .ok (.aload_n 0, 1) := by decide +kernel
theorem dX12_undo_38 : decode cX12_undo 38 = .ok (.getfield 13, 3) := by decide +kernel
theorem dX12_undo_41 : decode cX12_undo 41 = .ok (.bipush 87, 2) := by decide +kernel
theorem dX12_undo_43 : decode cX12_undo 43 = .ok (.aload_n 0, 1) := by decide +kernel
theorem dX12_undo_44 : decode cX12_undo 44 = .ok (.getfield 127, 3) := by decide +kernel
theorem dX12_undo_47 : decode cX12_undo 47 = .ok (.imul, 1) := by decide +kernel
theorem dX12_undo_48 : decode cX12_undo 48 = .ok (.iload_n 1, 1) := by decide +kernel
theorem dX12_undo_49 : decode cX12_undo 49 = .ok (.iadd, 1) := by decide +kernel
theorem dX12_undo_50 : decode cX12_undo 50 = .ok (.iaload, 1) := by decide +kernel
theorem dX12_undo_51 : decode cX12_undo 51 = .ok (.iastore, 1) := by decide +kernel
theorem dX12_undo_52 : decode cX12_undo 52 = .ok (.iinc 1 1, 3) := by decide +kernel
theorem dX12_undo_55 : decode cX12_undo 55 = .ok (.goto (-29), 3) := by decide +kernel
theorem dX12_undo_58 : decode cX12_undo 58 = .ok (.iconst 1, 1) := by decide +kernel
theorem dX12_undo_59 : decode cX12_undo 59 = .ok (.ireturn, 1) := by decide +kernel
theorem wp_X12_undo_0 {d : Nat} {s : ev_S} {Q : Option ev_V → ev_S → Prop}
    (h : (∀ s1, ev_up s 0 0 0 = s1 → (((s1 0 3) ≠ 0 → (∀ s2, ev_up s1 0 3 (ev_sub (s1 0 3) 1) = s2 → Ev layM M_X12_undo d 26 [(0, ev_r 0), (1, ev_i 0)] [] s2 Q)) ∧ ((s1 0 3) = 0 → Q (some (ev_i 0)) s1)))) :
    Ev layM M_X12_undo d 0 [(0, ev_r 0)] [] s Q := by
  refine Ev_aload_n 0 dX12_undo_0 rfl rfl ?_
  refine Ev_iconst dX12_undo_1 rfl (ev_Rc rfl) ?_
  refine Ev_put (i := 0) (ty := .int) cl_X12 yM_0 (Nat.le_of_ble_eq_true rfl) rfl rfl (by decide +kernel) rfl rfl wd_1444 dX12_undo_2 (Ev_nm (fun s1 es1 => ?_))
  replace h := h s1 es1
  refine Ev_aload_n 0 dX12_undo_5 rfl rfl ?_
  refine Ev_get (i := 3) cl_X12 yM_0 (Nat.le_of_ble_eq_true rfl) rfl wd_1447 dX12_undo_6 ?_
  refine Ev_if_ne (tgt := 14) dX12_undo_9 rfl (fun c => ?_) (fun c => ?_)
  · replace h := h.1 c
    refine Ev_aload_n 0 dX12_undo_14 rfl rfl ?_
    refine Ev_aload_n 0 dX12_undo_15 rfl rfl ?_
    refine Ev_get (i := 3) cl_X12 yM_0 (Nat.le_of_ble_eq_true rfl) rfl wd_1447 dX12_undo_16 ?_
    refine Ev_iconst dX12_undo_19 rfl (ev_Rc rfl) ?_
    refine Ev_isub dX12_undo_20 ?_
    refine Ev_put (i := 3) (ty := .int) cl_X12 yM_0 (Nat.le_of_ble_eq_true rfl) rfl rfl (by decide +kernel) rfl rfl wd_1447 dX12_undo_21 (Ev_nm (fun s2 es2 => ?_))
    replace h := h s2 es2
    refine Ev_iconst dX12_undo_24 rfl (ev_Rc rfl) ?_
    refine Ev_istore_n (l' := [(1, ev_i 0), (0, ev_r 0)]) dX12_undo_25 rfl (Nat.le_of_ble_eq_true rfl) rfl ?_
    exact Ev_sub [1, 0] rfl h
  · replace h := h.2 c
    refine Ev_iconst dX12_undo_12 rfl (ev_Rc rfl) ?_
    exact Ev_iret rfl dX12_undo_13 (ev_nb (by decide)) h
theorem wp_X12_undo_26 {d : Nat} {s : ev_S} {Q : Option ev_V → ev_S → Prop} {a1 : Int}
    (h : ((87 ≤ a1 → Q (some (ev_i 1)) s) ∧ (a1 < 87 → ((0 ≤ (ev_add (ev_mul 87 (s 0 3)) a1) ∧ (ev_add (ev_mul 87 (s 0 3)) a1) < (522 : Nat)) ∧ ((0 ≤ a1 ∧ a1 < (87 : Nat)) ∧ ∀ s1, ev_up s 1 (Int.toNat a1) (s 2 (Int.toNat (ev_add (ev_mul 87 (s 0 3)) a1))) = s1 → Ev layM M_X12_undo d 26 [(0, ev_r 0), (1, ev_i (ev_add a1 1))] [] s1 Q))))) :
    Ev layM M_X12_undo d 26 [(0, ev_r 0), (1, ev_i a1)] [] s Q := by
  refine Ev_iload_n 1 dX12_undo_26 rfl rfl ?_
  refine Ev_bipushC dX12_undo_27 rfl ?_
  refine Ev_icmp_ge (tgt := 58) dX12_undo_29 rfl (fun c => ?_) (fun c => ?_)
  · replace h := h.1 c
    refine Ev_iconst dX12_undo_58 rfl (ev_Rc rfl) ?_
    exact Ev_iret rfl dX12_undo_59 (ev_nb (by decide)) h
  · replace h := h.2 c
    refine Ev_aload_n 0 dX12_undo_32 rfl rfl ?_
    refine Ev_getR (i := 1) cl_X12 yM_0 (Nat.le_of_ble_eq_true rfl) rfl wd_1445 dX12_undo_33 ?_
    refine Ev_iload_n 1 dX12_undo_36 rfl rfl ?_
    refine Ev_aload_n 0 dX12_undo_37 rfl rfl ?_
    refine Ev_getR (i := 2) cl_X12 yM_0 (Nat.le_of_ble_eq_true rfl) rfl wd_1446 dX12_undo_38 ?_
    refine Ev_bipushC dX12_undo_41 rfl ?_
    refine Ev_aload_n 0 dX12_undo_43 rfl rfl ?_
    refine Ev_get (i := 3) cl_X12 yM_0 (Nat.le_of_ble_eq_true rfl) rfl wd_1447 dX12_undo_44 ?_
    refine Ev_imul dX12_undo_47 ?_
    refine Ev_iload_n 1 dX12_undo_48 rfl rfl ?_
    refine Ev_iadd dX12_undo_49 ?_
    obtain ⟨h0, h⟩ := h
    refine Ev_iald yM_2 h0 dX12_undo_50 ?_
    obtain ⟨h0, h⟩ := h
    refine Ev_iast yM_1 h0 dX12_undo_51 (Ev_nm (fun s1 es1 => ?_))
    replace h := h s1 es1
    refine Ev_iinc (j := 1) (l' := [(1, ev_i (ev_add a1 1)), (0, ev_r 0)]) dX12_undo_52 rfl (Nat.le_of_ble_eq_true rfl) rfl ?_
    refine Ev_goto (tgt := 26) dX12_undo_55 rfl ?_
    exact Ev_sub [1, 0] rfl h
theorem dX12_thinks_0 : decode cX12_thinks 0 = .ok (.iconst 0, 1) := by decide +kernel
theorem dX12_thinks_1 : decode cX12_thinks 1 = .ok (.istore_n 1, 1) := by decide +kernel
theorem dX12_thinks_2 : decode cX12_thinks 2 = .ok (.iload_n 1, 1) := by decide +kernel
theorem dX12_thinks_3 : decode cX12_thinks 3 = .ok (.bipush 87, 2) := by decide +kernel
theorem dX12_thinks_5 : decode cX12_thinks 5 = .ok (.if_icmp .ge 21, 3) := by decide +kernel
theorem dX12_thinks_8 : decode cX12_thinks 8 = .ok (.aload_n 0, 1) := by decide +kernel
theorem dX12_thinks_9 : decode cX12_thinks 9 = .ok (.getfield 16, 3) := by decide +kernel
theorem dX12_thinks_12 : decode cX12_thinks 12 = .ok (.iload_n 1, 1) := by decide +kernel
theorem dX12_thinks_13 : decode cX12_thinks 13 = .ok (.aload_n 0, 1) := by decide +kernel
theorem dX12_thinks_14 : decode cX12_thinks 14 = .ok (.getfield 7, 3) := by decide +kernel
theorem dX12_thinks_17 : decode cX12_thinks 17 = .ok (.iload_n 1, 1) := by decide +kernel
theorem dX12_thinks_18 : decode cX12_thinks 18 = .ok (.iaload, 1) := by decide +kernel
theorem dX12_thinks_19 : decode cX12_thinks 19 = .ok (.iastore, 1) := by decide +kernel
theorem dX12_thinks_20 : decode cX12_thinks 20 = .ok (.iinc 1 1, 3) := by decide +kernel
theorem dX12_thinks_23 : decode cX12_thinks 23 = .ok (.goto (-21), 3) := by decide +kernel
theorem dX12_thinks_26 : decode cX12_thinks 26 = .ok (.aload_n 0, 1) := by decide +kernel
theorem dX12_thinks_27 : decode cX12_thinks 27 = .ok (.iconst 1, 1) := by decide +kernel
theorem dX12_thinks_28 : decode cX12_thinks 28 = .ok (.putfield 130, 3) := by decide +kernel
theorem dX12_thinks_31 : decode cX12_thinks 31 = .ok (.return_, 1) := by decide +kernel
theorem wp_X12_thinks_0 {d : Nat} {s : ev_S} {Q : Option ev_V → ev_S → Prop}
    (h : Ev layM M_X12_thinks d 2 [(0, ev_r 0), (1, ev_i 0)] [] s Q) :
    Ev layM M_X12_thinks d 0 [(0, ev_r 0)] [] s Q := by
  refine Ev_iconst dX12_thinks_0 rfl (ev_Rc rfl) ?_
  refine Ev_istore_n (l' := [(1, ev_i 0), (0, ev_r 0)]) dX12_thinks_1 rfl (Nat.le_of_ble_eq_true rfl) rfl ?_
  exact Ev_sub [1, 0] rfl h
theorem wp_X12_thinks_2 {d : Nat} {s : ev_S} {Q : Option ev_V → ev_S → Prop} {a1 : Int}
    (h : ((87 ≤ a1 → (∀ s1, ev_up s 0 5 1 = s1 → Q none s1)) ∧ (a1 < 87 → ((0 ≤ a1 ∧ a1 < (87 : Nat)) ∧ ((0 ≤ a1 ∧ a1 < (87 : Nat)) ∧ ∀ s2, ev_up s 3 (Int.toNat a1) (s 1 (Int.toNat a1)) = s2 → Ev layM M_X12_thinks d 2 [(0, ev_r 0), (1, ev_i (ev_add a1 1))] [] s2 Q))))) :
    Ev layM M_X12_thinks d 2 [(0, ev_r 0), (1, ev_i a1)] [] s Q := by
  refine Ev_iload_n 1 dX12_thinks_2 rfl rfl ?_
  refine Ev_bipushC dX12_thinks_3 rfl ?_
  refine Ev_icmp_ge (tgt := 26) dX12_thinks_5 rfl (fun c => ?_) (fun c => ?_)
  · replace h := h.1 c
    refine Ev_aload_n 0 dX12_thinks_26 rfl rfl ?_
    refine Ev_iconst dX12_thinks_27 rfl (ev_Rc rfl) ?_
    refine Ev_put (i := 5) (ty := .boolean) cl_X12 yM_0 (Nat.le_of_ble_eq_true rfl) rfl rfl (by decide +kernel) (ev_nb (by decide)) (ev_fb (by decide)) wd_1449 dX12_thinks_28 (Ev_nm (fun s1 es1 => ?_))
    replace h := h s1 es1
    exact Ev_vret rfl dX12_thinks_31 h
  · replace h := h.2 c
    refine Ev_aload_n 0 dX12_thinks_8 rfl rfl ?_
    refine Ev_getR (i := 4) cl_X12 yM_0 (Nat.le_of_ble_eq_true rfl) rfl wd_1448 dX12_thinks_9 ?_
    refine Ev_iload_n 1 dX12_thinks_12 rfl rfl ?_
    refine Ev_aload_n 0 dX12_thinks_13 rfl rfl ?_
    refine Ev_getR (i := 1) cl_X12 yM_0 (Nat.le_of_ble_eq_true rfl) rfl wd_1445 dX12_thinks_14 ?_
    refine Ev_iload_n 1 dX12_thinks_17 rfl rfl ?_
    obtain ⟨h0, h⟩ := h
    refine Ev_iald yM_1 h0 dX12_thinks_18 ?_
    obtain ⟨h0, h⟩ := h
    refine Ev_iast yM_3 h0 dX12_thinks_19 (Ev_nm (fun s2 es2 => ?_))
    replace h := h s2 es2
    refine Ev_iinc (j := 1) (l' := [(1, ev_i (ev_add a1 1)), (0, ev_r 0)]) dX12_thinks_20 rfl (Nat.le_of_ble_eq_true rfl) rfl ?_
    refine Ev_goto (tgt := 2) dX12_thinks_23 rfl ?_
    exact Ev_sub [1, 0] rfl h
theorem dX12_thinksAnew_0 : decode cX12_thinksAnew 0 = .ok (.iconst 0, 1) := by decide +kernel
theorem dX12_thinksAnew_1 : decode cX12_thinksAnew 1 = .ok (.istore_n 1, 1) := by decide +kernel
theorem dX12_thinksAnew_2 : decode cX12_thinksAnew 2 = .ok (.iload_n 1, 1) := by decide +kernel
theorem dX12_thinksAnew_3 : decode cX12_thinksAnew 3 = .ok (.bipush 87, 2) := by decide +kernel
theorem dX12_thinksAnew_5 : decode cX12_thinksAnew 5 = .ok (.if_icmp .ge 21, 3) := by decide +kernel
theorem dX12_thinksAnew_8 : decode cX12_thinksAnew 8 = .ok (.aload_n 0, 1) := by decide +kernel
theorem dX12_thinksAnew_9 : decode cX12_thinksAnew 9 = .ok (.getfield 7, 3) := by decide +kernel
theorem dX12_thinksAnew_12 : decode cX12_thinksAnew 12 = .ok (.iload_n 1, 1) := by decide +kernel
theorem dX12_thinksAnew_13 : decode cX12_thinksAnew 13 = .ok (.aload_n 0, 1) := by decide +kernel
theorem dX12_thinksAnew_14 : decode cX12_thinksAnew 14 = .ok (.getfield 16, 3) := by decide +kernel
theorem dX12_thinksAnew_17 : decode cX12_thinksAnew 17 = .ok (.iload_n 1, 1) := by decide +kernel
theorem dX12_thinksAnew_18 : decode cX12_thinksAnew 18 = .ok (.iaload, 1) := by decide +kernel
theorem dX12_thinksAnew_19 : decode cX12_thinksAnew 19 = .ok (.iastore, 1) := by decide +kernel
theorem dX12_thinksAnew_20 : decode cX12_thinksAnew 20 = .ok (.iinc 1 1, 3) := by decide +kernel
theorem dX12_thinksAnew_23 : decode cX12_thinksAnew 23 = .ok (.goto (-21), 3) := by decide +kernel
theorem dX12_thinksAnew_26 : decode cX12_thinksAnew 26 = .ok (.return_, 1) := by decide +kernel
theorem wp_X12_thinksAnew_0 {d : Nat} {s : ev_S} {Q : Option ev_V → ev_S → Prop}
    (h : Ev layM M_X12_thinksAnew d 2 [(0, ev_r 0), (1, ev_i 0)] [] s Q) :
    Ev layM M_X12_thinksAnew d 0 [(0, ev_r 0)] [] s Q := by
  refine Ev_iconst dX12_thinksAnew_0 rfl (ev_Rc rfl) ?_
  refine Ev_istore_n (l' := [(1, ev_i 0), (0, ev_r 0)]) dX12_thinksAnew_1 rfl (Nat.le_of_ble_eq_true rfl) rfl ?_
  exact Ev_sub [1, 0] rfl h
theorem wp_X12_thinksAnew_2 {d : Nat} {s : ev_S} {Q : Option ev_V → ev_S → Prop} {a1 : Int}
    (h : ((87 ≤ a1 → Q none s) ∧ (a1 < 87 → ((0 ≤ a1 ∧ a1 < (87 : Nat)) ∧ ((0 ≤ a1 ∧ a1 < (87 : Nat)) ∧ ∀ s1, ev_up s 1 (Int.toNat a1) (s 3 (Int.toNat a1)) = s1 → Ev layM M_X12_thinksAnew d 2 [(0, ev_r 0), (1, ev_i (ev_add a1 1))] [] s1 Q))))) :
    Ev layM M_X12_thinksAnew d 2 [(0, ev_r 0), (1, ev_i a1)] [] s Q := by
  refine Ev_iload_n 1 dX12_thinksAnew_2 rfl rfl ?_
  refine Ev_bipushC dX12_thinksAnew_3 rfl ?_
  refine Ev_icmp_ge (tgt := 26) dX12_thinksAnew_5 rfl (fun c => ?_) (fun c => ?_)
  · replace h := h.1 c
    exact Ev_vret rfl dX12_thinksAnew_26 h
  · replace h := h.2 c
    refine Ev_aload_n 0 dX12_thinksAnew_8 rfl rfl ?_
    refine Ev_getR (i := 1) cl_X12 yM_0 (Nat.le_of_ble_eq_true rfl) rfl wd_1445 dX12_thinksAnew_9 ?_
    refine Ev_iload_n 1 dX12_thinksAnew_12 rfl rfl ?_
    refine Ev_aload_n 0 dX12_thinksAnew_13 rfl rfl ?_
    refine Ev_getR (i := 4) cl_X12 yM_0 (Nat.le_of_ble_eq_true rfl) rfl wd_1448 dX12_thinksAnew_14 ?_
    refine Ev_iload_n 1 dX12_thinksAnew_17 rfl rfl ?_
    obtain ⟨h0, h⟩ := h
    refine Ev_iald yM_3 h0 dX12_thinksAnew_18 ?_
    obtain ⟨h0, h⟩ := h
    refine Ev_iast yM_1 h0 dX12_thinksAnew_19 (Ev_nm (fun s1 es1 => ?_))
    replace h := h s1 es1
    refine Ev_iinc (j := 1) (l' := [(1, ev_i (ev_add a1 1)), (0, ev_r 0)]) dX12_thinksAnew_20 rfl (Nat.le_of_ble_eq_true rfl) rfl ?_
    refine Ev_goto (tgt := 2) dX12_thinksAnew_23 rfl ?_
    exact Ev_sub [1, 0] rfl h
theorem dX12_endsThought_0 : decode cX12_endsThought 0 = .ok (.aload_n 0, 1) := by decide +kernel
theorem dX12_endsThought_1 : decode cX12_endsThought 1 = .ok (.invokevirtual 134, 3) := by decide +kernel
theorem dX12_endsThought_4 : decode cX12_endsThought 4 = .ok (.aload_n 0, 1) := by decide +kernel
theorem dX12_endsThought_5 : decode cX12_endsThought 5 = .ok (.iconst 0, 1) := by decide +kernel
theorem dX12_endsThought_6 : decode cX12_endsThought 6 = .ok (.putfield 130, 3) := by decide +kernel
theorem dX12_endsThought_9 : decode cX12_endsThought 9 = .ok (.return_, 1) := by decide +kernel
theorem wp_X12_endsThought_0 {d : Nat} {s : ev_S} {Q : Option ev_V → ev_S → Prop}
    (h : (Ev layM M_X12_thinksAnew d 0 [(0, ev_r 0)] [] s (fun _ s1 => (∀ s2, ev_up s1 0 5 0 = s2 → Q none s2)))) :
    Ev layM M_X12_endsThought (d + 1) 0 [(0, ev_r 0)] [] s Q := by
  refine Ev_aload_n 0 dX12_endsThought_0 rfl rfl ?_
  refine Ev_callV (As := []) (b := 0) (st := []) (M' := M_X12_thinksAnew) cm_X12_thinksAnew wd_1992 wd_1994 wd_145 yM_0 cl_X12 rfl dX12_endsThought_1 (Nat.le_refl _) rfl (Nat.le_of_ble_eq_true rfl) (Nat.le_of_ble_eq_true rfl) h (fun v u h hk => ?_)
  cases hk
  obtain ⟨s1, rfl⟩ : ∃ x, x = u := ⟨_, rfl⟩
  refine Ev_aload_n 0 dX12_endsThought_4 rfl rfl ?_
  refine Ev_iconst dX12_endsThought_5 rfl (ev_Rc rfl) ?_
  refine Ev_put (i := 5) (ty := .boolean) cl_X12 yM_0 (Nat.le_of_ble_eq_true rfl) rfl rfl (by decide +kernel) (ev_nb (by decide)) (ev_fb (by decide)) wd_1449 dX12_endsThought_6 (Ev_nm (fun s2 es2 => ?_))
  replace h := h s2 es2
  exact Ev_vret rfl dX12_endsThought_9 h
theorem dX12_state_0 : decode cX12_state 0 = .ok (.aload_n 0, 1) := by decide +kernel
theorem dX12_state_1 : decode cX12_state 1 = .ok (.iconst 0, 1) := by decide +kernel
theorem dX12_state_2 : decode cX12_state 2 = .ok (.putfield 124, 3) := by decide +kernel
theorem dX12_state_5 : decode cX12_state 5 = .ok (.aload_n 0, 1) := by decide +kernel
theorem dX12_state_6 : decode cX12_state 6 = .ok (.getfield 7, 3) := by decide +kernel
theorem dX12_state_9 : decode cX12_state 9 = .ok (.iconst 1, 1) := by decide +kernel
theorem dX12_state_10 : decode cX12_state 10 = .ok (.iaload, 1) := by decide +kernel
theorem dX12_state_11 : decode cX12_state 11 = .ok (.istore_n 2, 1) := by decide +kernel
theorem dX12_state_12 : decode cX12_state 12 = .ok (.aload_n 0, 1) := by decide +kernel
theorem dX12_state_13 : decode cX12_state 13 = .ok (.getfield 7, 3) := by decide +kernel
theorem dX12_state_16 : decode cX12_state 16 = .ok (.iconst 1, 1) := by decide +kernel
theorem dX12_state_17 : decode cX12_state 17 = .ok (.iload_n 1, 1) := by decide +kernel
theorem dX12_state_18 : decode cX12_state 18 = .ok (.iastore, 1) := by decide +kernel
theorem dX12_state_19 : decode cX12_state 19 = .ok (.aload_n 0, 1) := by decide +kernel
theorem dX12_state_20 : decode cX12_state 20 = .ok (.iconst 0, 1) := by decide +kernel
theorem dX12_state_21 : decode cX12_state 21 = .ok (.putfield 127, 3) := by decide +kernel
theorem dX12_state_24 : decode cX12_state 24 = .ok (.iload_n 2, 1) := by decide +kernel
theorem dX12_state_25 : decode cX12_state 25 = .ok (.ireturn, 1) := by decide +kernel
theorem wp_X12_state_0 {d : Nat} {s : ev_S} {Q : Option ev_V → ev_S → Prop} {a1 : Int}
    (h : (∀ s1, ev_up s 0 0 0 = s1 → (∀ s2, ev_up s1 1 1 a1 = s2 → (∀ s3, ev_up s2 0 3 0 = s3 → Q (some (ev_i (s1 1 1))) s3)))) :
    Ev layM M_X12_state d 0 [(0, ev_r 0), (1, ev_i a1)] [] s Q := by
  refine Ev_aload_n 0 dX12_state_0 rfl rfl ?_
  refine Ev_iconst dX12_state_1 rfl (ev_Rc rfl) ?_
  refine Ev_put (i := 0) (ty := .int) cl_X12 yM_0 (Nat.le_of_ble_eq_true rfl) rfl rfl (by decide +kernel) rfl rfl wd_1444 dX12_state_2 (Ev_nm (fun s1 es1 => ?_))
  replace h := h s1 es1
  refine Ev_aload_n 0 dX12_state_5 rfl rfl ?_
  refine Ev_getR (i := 1) cl_X12 yM_0 (Nat.le_of_ble_eq_true rfl) rfl wd_1445 dX12_state_6 ?_
  refine Ev_iconst dX12_state_9 rfl (ev_Rc rfl) ?_
  refine Ev_iald yM_1 (by decide) dX12_state_10 ?_
  refine Ev_istore_n (l' := [(2, ev_i (s1 1 1)), (0, ev_r 0), (1, ev_i a1)]) dX12_state_11 rfl (Nat.le_of_ble_eq_true rfl) rfl ?_
  refine Ev_aload_n 1 dX12_state_12 rfl rfl ?_
  refine Ev_getR (i := 1) cl_X12 yM_0 (Nat.le_of_ble_eq_true rfl) rfl wd_1445 dX12_state_13 ?_
  refine Ev_iconst dX12_state_16 rfl (ev_Rc rfl) ?_
  refine Ev_iload_n 2 dX12_state_17 rfl rfl ?_
  refine Ev_iast yM_1 (by decide) dX12_state_18 (Ev_nm (fun s2 es2 => ?_))
  replace h := h s2 es2
  refine Ev_aload_n 1 dX12_state_19 rfl rfl ?_
  refine Ev_iconst dX12_state_20 rfl (ev_Rc rfl) ?_
  refine Ev_put (i := 3) (ty := .int) cl_X12 yM_0 (Nat.le_of_ble_eq_true rfl) rfl rfl (by decide +kernel) rfl rfl wd_1447 dX12_state_21 (Ev_nm (fun s3 es3 => ?_))
  replace h := h s3 es3
  refine Ev_iload_n 0 dX12_state_24 rfl rfl ?_
  exact Ev_iret rfl dX12_state_25 rfl h
theorem dX12_draw_0 : decode cX12_draw 0 = .ok (.aload_n 0, 1) := by decide +kernel
theorem dX12_draw_1 : decode cX12_draw 1 = .ok (.getfield 7, 3) := by decide +kernel
theorem dX12_draw_4 : decode cX12_draw 4 = .ok (.iconst 1, 1) := by decide +kernel
theorem dX12_draw_5 : decode cX12_draw 5 = .ok (.ldc 137, 2) := by decide +kernel
theorem dX12_draw_7 : decode cX12_draw 7 = .ok (.aload_n 0, 1) := by decide +kernel
theorem dX12_draw_8 : decode cX12_draw 8 = .ok (.getfield 7, 3) := by decide +kernel
theorem dX12_draw_11 : decode cX12_draw 11 = .ok (.iconst 1, 1) := by decide +kernel
theorem dX12_draw_12 : decode cX12_draw 12 = .ok (.iaload, 1) := by decide +kernel
theorem dX12_draw_13 : decode cX12_draw 13 = .ok (.imul, 1) := by decide +kernel
theorem dX12_draw_14 : decode cX12_draw 14 = .ok (.ldc 138, 2) := by decide +kernel
theorem dX12_draw_16 : decode cX12_draw 16 = .ok (.iadd, 1) := by decide +kernel
theorem dX12_draw_17 : decode cX12_draw 17 = .ok (.iastore, 1) := by decide +kernel
theorem dX12_draw_18 : decode cX12_draw 18 = .ok (.aload_n 0, 1) := by decide +kernel
theorem dX12_draw_19 : decode cX12_draw 19 = .ok (.getfield 7, 3) := by decide +kernel
theorem dX12_draw_22 : decode cX12_draw 22 = .ok (.iconst 1, 1) := by decide +kernel
theorem dX12_draw_23 : decode cX12_draw 23 = .ok (.iaload, 1) := by decide +kernel
theorem dX12_draw_24 : decode cX12_draw 24 = .ok (.bipush 8, 2) := by decide +kernel
theorem dX12_draw_26 : decode cX12_draw 26 = .ok (.iushr, 1) := by decide +kernel
theorem dX12_draw_27 : decode cX12_draw 27 = .ok (.iload_n 1, 1) := by decide +kernel
theorem dX12_draw_28 : decode cX12_draw 28 = .ok (.irem, 1) := by decide +kernel
theorem dX12_draw_29 : decode cX12_draw 29 = .ok (.ireturn, 1) := by decide +kernel
theorem wp_X12_draw_0 {d : Nat} {s : ev_S} {Q : Option ev_V → ev_S → Prop} {a1 : Int}
    (h : (∀ s1, ev_up s 1 1 (ev_add (ev_mul 1664525 (s 1 1)) 1013904223) = s1 → (a1 ≠ 0 ∧ Q (some (ev_i (ev_rem (ev_ushr (s1 1 1) 8) a1))) s1))) :
    Ev layM M_X12_draw d 0 [(0, ev_r 0), (1, ev_i a1)] [] s Q := by
  refine Ev_aload_n 0 dX12_draw_0 rfl rfl ?_
  refine Ev_getR (i := 1) cl_X12 yM_0 (Nat.le_of_ble_eq_true rfl) rfl wd_1445 dX12_draw_1 ?_
  refine Ev_iconst dX12_draw_4 rfl (ev_Rc rfl) ?_
  refine Ev_ldc (z := 1664525) wd_1974 dX12_draw_5 rfl (ev_Rc rfl) ?_
  refine Ev_aload_n 0 dX12_draw_7 rfl rfl ?_
  refine Ev_getR (i := 1) cl_X12 yM_0 (Nat.le_of_ble_eq_true rfl) rfl wd_1445 dX12_draw_8 ?_
  refine Ev_iconst dX12_draw_11 rfl (ev_Rc rfl) ?_
  refine Ev_iald yM_1 (by decide) dX12_draw_12 ?_
  refine Ev_imul dX12_draw_13 ?_
  refine Ev_ldc (z := 1013904223) wd_1975 dX12_draw_14 rfl (ev_Rc rfl) ?_
  refine Ev_iadd dX12_draw_16 ?_
  refine Ev_iast yM_1 (by decide) dX12_draw_17 (Ev_nm (fun s1 es1 => ?_))
  replace h := h s1 es1
  refine Ev_aload_n 0 dX12_draw_18 rfl rfl ?_
  refine Ev_getR (i := 1) cl_X12 yM_0 (Nat.le_of_ble_eq_true rfl) rfl wd_1445 dX12_draw_19 ?_
  refine Ev_iconst dX12_draw_22 rfl (ev_Rc rfl) ?_
  refine Ev_iald yM_1 (by decide) dX12_draw_23 ?_
  refine Ev_bipushC dX12_draw_24 rfl ?_
  refine Ev_iushr dX12_draw_26 ?_
  refine Ev_iload_n 1 dX12_draw_27 rfl rfl ?_
  obtain ⟨h0, h⟩ := h
  refine Ev_irem dX12_draw_28 h0 ?_
  exact Ev_iret rfl dX12_draw_29 rfl h
theorem dX12_isPlace_0 : decode cX12_isPlace 0 = .ok (.iload_n 1, 1) := by decide +kernel
theorem dX12_isPlace_1 : decode cX12_isPlace 1 = .ok (.ifCond .lt 35, 3) := by decide +kernel
theorem dX12_isPlace_4 : decode cX12_isPlace 4 = .ok (.iload_n 1, 1) := by decide +kernel
theorem dX12_isPlace_5 : decode cX12_isPlace 5 = .ok (.bipush 8, 2) := by decide +kernel
theorem dX12_isPlace_7 : decode cX12_isPlace 7 = .ok (.irem, 1) := by decide +kernel
theorem dX12_isPlace_8 : decode cX12_isPlace 8 = .ok (.aload_n 0, 1) := by decide +kernel
theorem dX12_isPlace_9 : decode cX12_isPlace 9 = .ok (.getfield 139, 3) := by decide +kernel
theorem dX12_isPlace_12 : decode cX12_isPlace 12 = .ok (.bipush 8, 2) := by decide +kernel
theorem dX12_isPlace_14 : decode cX12_isPlace 14 = .ok (.iadd, 1) := by decide +kernel
theorem dX12_isPlace_15 : decode cX12_isPlace 15 = .ok (.if_icmp .ge 21, 3) := by decide +kernel
theorem dX12_isPlace_18 : decode cX12_isPlace 18 = .ok (.iload_n 1, 1) := by decide +kernel
theorem dX12_isPlace_19 : decode cX12_isPlace 19 = .ok (.bipush 8, 2) := by decide +kernel
theorem dX12_isPlace_21 : decode cX12_isPlace 21 = .ok (.idiv, 1) := by decide +kernel
theorem dX12_isPlace_22 : decode cX12_isPlace 22 = .ok (.aload_n 0, 1) := by decide +kernel
theorem dX12_isPlace_23 : decode cX12_isPlace 23 = .ok (.getfield 142, 3) := by decide +kernel
theorem dX12_isPlace_26 : decode cX12_isPlace 26 = .ok (.bipush 8, 2) := by decide +kernel
theorem dX12_isPlace_28 : decode cX12_isPlace 28 = .ok (.iadd, 1) := by decide +kernel
theorem dX12_isPlace_29 : decode cX12_isPlace 29 = .ok (.if_icmp .ge 7, 3) := by decide +kernel
theorem dX12_isPlace_32 : decode cX12_isPlace 32 = .ok (.iconst 1, 1) := by decide +kernel
theorem dX12_isPlace_33 : decode cX12_isPlace 33 = .ok (.goto 4, 3) := by decide +kernel
theorem dX12_isPlace_36 : decode cX12_isPlace 36 = .ok (.iconst 0, 1) := by decide +kernel
theorem dX12_isPlace_37 : decode cX12_isPlace 37 = .ok (.ireturn, 1) := by decide +kernel
theorem wp_X12_isPlace_0 {d : Nat} {s : ev_S} {Q : Option ev_V → ev_S → Prop} {a1 : Int}
    (h : ((a1 < 0 → Q (some (ev_i 0)) s) ∧ (0 ≤ a1 → (((ev_add (s 0 6) 8) ≤ (ev_rem a1 8) → Q (some (ev_i 0)) s) ∧ ((ev_rem a1 8) < (ev_add (s 0 6) 8) → (((ev_add (s 0 7) 8) ≤ (ev_div a1 8) → Q (some (ev_i 0)) s) ∧ ((ev_div a1 8) < (ev_add (s 0 7) 8) → Q (some (ev_i 1)) s))))))) :
    Ev layM M_X12_isPlace d 0 [(0, ev_r 0), (1, ev_i a1)] [] s Q := by
  refine Ev_iload_n 1 dX12_isPlace_0 rfl rfl ?_
  refine Ev_if_lt (tgt := 36) dX12_isPlace_1 rfl (fun c => ?_) (fun c => ?_)
  · replace h := h.1 c
    refine Ev_iconst dX12_isPlace_36 rfl (ev_Rc rfl) ?_
    exact Ev_iret rfl dX12_isPlace_37 (ev_nb (by decide)) h
  · replace h := h.2 c
    refine Ev_iload_n 1 dX12_isPlace_4 rfl rfl ?_
    refine Ev_bipushC dX12_isPlace_5 rfl ?_
    refine Ev_irem dX12_isPlace_7 (by decide) ?_
    refine Ev_aload_n 0 dX12_isPlace_8 rfl rfl ?_
    refine Ev_get (i := 6) cl_X12 yM_0 (Nat.le_of_ble_eq_true rfl) rfl wd_1450 dX12_isPlace_9 ?_
    refine Ev_bipushC dX12_isPlace_12 rfl ?_
    refine Ev_iadd dX12_isPlace_14 ?_
    refine Ev_icmp_ge (tgt := 36) dX12_isPlace_15 rfl (fun c => ?_) (fun c => ?_)
    · replace h := h.1 c
      refine Ev_iconst dX12_isPlace_36 rfl (ev_Rc rfl) ?_
      exact Ev_iret rfl dX12_isPlace_37 (ev_nb (by decide)) h
    · replace h := h.2 c
      refine Ev_iload_n 1 dX12_isPlace_18 rfl rfl ?_
      refine Ev_bipushC dX12_isPlace_19 rfl ?_
      refine Ev_idiv dX12_isPlace_21 (by decide) ?_
      refine Ev_aload_n 0 dX12_isPlace_22 rfl rfl ?_
      refine Ev_get (i := 7) cl_X12 yM_0 (Nat.le_of_ble_eq_true rfl) rfl wd_1451 dX12_isPlace_23 ?_
      refine Ev_bipushC dX12_isPlace_26 rfl ?_
      refine Ev_iadd dX12_isPlace_28 ?_
      refine Ev_icmp_ge (tgt := 36) dX12_isPlace_29 rfl (fun c => ?_) (fun c => ?_)
      · replace h := h.1 c
        refine Ev_iconst dX12_isPlace_36 rfl (ev_Rc rfl) ?_
        exact Ev_iret rfl dX12_isPlace_37 (ev_nb (by decide)) h
      · replace h := h.2 c
        refine Ev_iconst dX12_isPlace_32 rfl (ev_Rc rfl) ?_
        refine Ev_goto (tgt := 37) dX12_isPlace_33 rfl ?_
        exact Ev_iret rfl dX12_isPlace_37 (ev_nb (by decide)) h
theorem dX12_isWard_0 : decode cX12_isWard 0 = .ok (.iload_n 1, 1) := by decide +kernel
theorem dX12_isWard_1 : decode cX12_isWard 1 = .ok (.ifCond .lt 15, 3) := by decide +kernel
theorem dX12_isWard_4 : decode cX12_isWard 4 = .ok (.iload_n 1, 1) := by decide +kernel
theorem dX12_isWard_5 : decode cX12_isWard 5 = .ok (.aload_n 0, 1) := by decide +kernel
theorem dX12_isWard_6 : decode cX12_isWard 6 = .ok (.getfield 145, 3) := by decide +kernel
theorem dX12_isWard_9 : decode cX12_isWard 9 = .ok (.if_icmp .ge 7, 3) := by decide +kernel
theorem dX12_isWard_12 : decode cX12_isWard 12 = .ok (.iconst 1, 1) := by decide +kernel
theorem dX12_isWard_13 : decode cX12_isWard 13 = .ok (.goto 4, 3) := by decide +kernel
theorem dX12_isWard_16 : decode cX12_isWard 16 = .ok (.iconst 0, 1) := by decide +kernel
theorem dX12_isWard_17 : decode cX12_isWard 17 = .ok (.ireturn, 1) := by decide +kernel
theorem wp_X12_isWard_0 {d : Nat} {s : ev_S} {Q : Option ev_V → ev_S → Prop} {a1 : Int}
    (h : ((a1 < 0 → Q (some (ev_i 0)) s) ∧ (0 ≤ a1 → (((s 0 10) ≤ a1 → Q (some (ev_i 0)) s) ∧ (a1 < (s 0 10) → Q (some (ev_i 1)) s))))) :
    Ev layM M_X12_isWard d 0 [(0, ev_r 0), (1, ev_i a1)] [] s Q := by
  refine Ev_iload_n 1 dX12_isWard_0 rfl rfl ?_
  refine Ev_if_lt (tgt := 16) dX12_isWard_1 rfl (fun c => ?_) (fun c => ?_)
  · replace h := h.1 c
    refine Ev_iconst dX12_isWard_16 rfl (ev_Rc rfl) ?_
    exact Ev_iret rfl dX12_isWard_17 (ev_nb (by decide)) h
  · replace h := h.2 c
    refine Ev_iload_n 1 dX12_isWard_4 rfl rfl ?_
    refine Ev_aload_n 0 dX12_isWard_5 rfl rfl ?_
    refine Ev_get (i := 10) cl_X12 yM_0 (Nat.le_of_ble_eq_true rfl) rfl wd_1454 dX12_isWard_6 ?_
    refine Ev_icmp_ge (tgt := 16) dX12_isWard_9 rfl (fun c => ?_) (fun c => ?_)
    · replace h := h.1 c
      refine Ev_iconst dX12_isWard_16 rfl (ev_Rc rfl) ?_
      exact Ev_iret rfl dX12_isWard_17 (ev_nb (by decide)) h
    · replace h := h.2 c
      refine Ev_iconst dX12_isWard_12 rfl (ev_Rc rfl) ?_
      refine Ev_goto (tgt := 17) dX12_isWard_13 rfl ?_
      exact Ev_iret rfl dX12_isWard_17 (ev_nb (by decide)) h
theorem dX12_isAngel_0 : decode cX12_isAngel 0 = .ok (.iload_n 1, 1) := by decide +kernel
theorem dX12_isAngel_1 : decode cX12_isAngel 1 = .ok (.ifCond .lt 15, 3) := by decide +kernel
theorem dX12_isAngel_4 : decode cX12_isAngel 4 = .ok (.iload_n 1, 1) := by decide +kernel
theorem dX12_isAngel_5 : decode cX12_isAngel 5 = .ok (.aload_n 0, 1) := by decide +kernel
theorem dX12_isAngel_6 : decode cX12_isAngel 6 = .ok (.getfield 148, 3) := by decide +kernel
theorem dX12_isAngel_9 : decode cX12_isAngel 9 = .ok (.if_icmp .ge 7, 3) := by decide +kernel
theorem dX12_isAngel_12 : decode cX12_isAngel 12 = .ok (.iconst 1, 1) := by decide +kernel
theorem dX12_isAngel_13 : decode cX12_isAngel 13 = .ok (.goto 4, 3) := by decide +kernel
theorem dX12_isAngel_16 : decode cX12_isAngel 16 = .ok (.iconst 0, 1) := by decide +kernel
theorem dX12_isAngel_17 : decode cX12_isAngel 17 = .ok (.ireturn, 1) := by decide +kernel
theorem wp_X12_isAngel_0 {d : Nat} {s : ev_S} {Q : Option ev_V → ev_S → Prop} {a1 : Int}
    (h : ((a1 < 0 → Q (some (ev_i 0)) s) ∧ (0 ≤ a1 → (((s 0 11) ≤ a1 → Q (some (ev_i 0)) s) ∧ (a1 < (s 0 11) → Q (some (ev_i 1)) s))))) :
    Ev layM M_X12_isAngel d 0 [(0, ev_r 0), (1, ev_i a1)] [] s Q := by
  refine Ev_iload_n 1 dX12_isAngel_0 rfl rfl ?_
  refine Ev_if_lt (tgt := 16) dX12_isAngel_1 rfl (fun c => ?_) (fun c => ?_)
  · replace h := h.1 c
    refine Ev_iconst dX12_isAngel_16 rfl (ev_Rc rfl) ?_
    exact Ev_iret rfl dX12_isAngel_17 (ev_nb (by decide)) h
  · replace h := h.2 c
    refine Ev_iload_n 1 dX12_isAngel_4 rfl rfl ?_
    refine Ev_aload_n 0 dX12_isAngel_5 rfl rfl ?_
    refine Ev_get (i := 11) cl_X12 yM_0 (Nat.le_of_ble_eq_true rfl) rfl wd_1455 dX12_isAngel_6 ?_
    refine Ev_icmp_ge (tgt := 16) dX12_isAngel_9 rfl (fun c => ?_) (fun c => ?_)
    · replace h := h.1 c
      refine Ev_iconst dX12_isAngel_16 rfl (ev_Rc rfl) ?_
      exact Ev_iret rfl dX12_isAngel_17 (ev_nb (by decide)) h
    · replace h := h.2 c
      refine Ev_iconst dX12_isAngel_12 rfl (ev_Rc rfl) ?_
      refine Ev_goto (tgt := 17) dX12_isAngel_13 rfl ?_
      exact Ev_iret rfl dX12_isAngel_17 (ev_nb (by decide)) h
theorem dX12_guard_0 : decode cX12_guard 0 = .ok (.aload_n 0, 1) := by decide +kernel
theorem dX12_guard_1 : decode cX12_guard 1 = .ok (.getfield 151, 3) := by decide +kernel
theorem dX12_guard_4 : decode cX12_guard 4 = .ok (.iconst 3, 1) := by decide +kernel
theorem dX12_guard_5 : decode cX12_guard 5 = .ok (.iadd, 1) := by decide +kernel
theorem dX12_guard_6 : decode cX12_guard 6 = .ok (.ireturn, 1) := by decide +kernel
theorem wp_X12_guard_0 {d : Nat} {s : ev_S} {Q : Option ev_V → ev_S → Prop}
    (h : Q (some (ev_i (ev_add (s 0 8) 3))) s) :
    Ev layM M_X12_guard d 0 [(0, ev_r 0)] [] s Q := by
  refine Ev_aload_n 0 dX12_guard_0 rfl rfl ?_
  refine Ev_get (i := 8) cl_X12 yM_0 (Nat.le_of_ble_eq_true rfl) rfl wd_1452 dX12_guard_1 ?_
  refine Ev_iconst dX12_guard_4 rfl (ev_Rc rfl) ?_
  refine Ev_iadd dX12_guard_5 ?_
  exact Ev_iret rfl dX12_guard_6 rfl h
theorem dX12_farOf_0 : decode cX12_farOf 0 = .ok (.aload_n 0, 1) := by decide +kernel
theorem dX12_farOf_1 : decode cX12_farOf 1 = .ok (.iload_n 1, 1) := by decide +kernel
theorem dX12_farOf_2 : decode cX12_farOf 2 = .ok (.bipush 8, 2) := by decide +kernel
theorem dX12_farOf_4 : decode cX12_farOf 4 = .ok (.irem, 1) := by decide +kernel
theorem dX12_farOf_5 : decode cX12_farOf 5 = .ok (.iload_n 2, 1) := by decide +kernel
theorem dX12_farOf_6 : decode cX12_farOf 6 = .ok (.bipush 8, 2) := by decide +kernel
theorem dX12_farOf_8 : decode cX12_farOf 8 = .ok (.irem, 1) := by decide +kernel
theorem dX12_farOf_9 : decode cX12_farOf 9 = .ok (.isub, 1) := by decide +kernel
theorem dX12_farOf_10 : decode cX12_farOf 10 = .ok (.invokevirtual 154, 3) := by decide +kernel
theorem dX12_farOf_13 : decode cX12_farOf 13 = .ok (.aload_n 0, 1) := by decide +kernel
theorem dX12_farOf_14 : decode cX12_farOf 14 = .ok (.iload_n 1, 1) := by decide +kernel
theorem dX12_farOf_15 : decode cX12_farOf 15 = .ok (.bipush 8, 2) := by decide +kernel
theorem dX12_farOf_17 : decode cX12_farOf 17 = .ok (.idiv, 1) := by decide +kernel
theorem dX12_farOf_18 : decode cX12_farOf 18 = .ok (.iload_n 2, 1) := by decide +kernel
theorem dX12_farOf_19 : decode cX12_farOf 19 = .ok (.bipush 8, 2) := by decide +kernel
theorem dX12_farOf_21 : decode cX12_farOf 21 = .ok (.idiv, 1) := by decide +kernel
theorem dX12_farOf_22 : decode cX12_farOf 22 = .ok (.isub, 1) := by decide +kernel
theorem dX12_farOf_23 : decode cX12_farOf 23 = .ok (.invokevirtual 154, 3) := by decide +kernel
theorem dX12_farOf_26 : decode cX12_farOf 26 = .ok (.iadd, 1) := by decide +kernel
theorem dX12_farOf_27 : decode cX12_farOf 27 = .ok (.ireturn, 1) := by decide +kernel
theorem wp_X12_farOf_0 {d : Nat} {s : ev_S} {Q : Option ev_V → ev_S → Prop} {a1 a2 : Int}
    (h : (Ev layM M_X12_without d 0 [(0, ev_r 0), (1, ev_i (ev_sub (ev_rem a1 8) (ev_rem a2 8)))] [] s (ev_pi (fun r2 s1 => (Ev layM M_X12_without d 0 [(0, ev_r 0), (1, ev_i (ev_sub (ev_div a1 8) (ev_div a2 8)))] [] s1 (ev_pi (fun r4 s3 => Q (some (ev_i (ev_add r2 r4))) s3))))))) :
    Ev layM M_X12_farOf (d + 1) 0 [(0, ev_r 0), (1, ev_i a1), (2, ev_i a2)] [] s Q := by
  refine Ev_aload_n 0 dX12_farOf_0 rfl rfl ?_
  refine Ev_iload_n 1 dX12_farOf_1 rfl rfl ?_
  refine Ev_bipushC dX12_farOf_2 rfl ?_
  refine Ev_irem dX12_farOf_4 (by decide) ?_
  refine Ev_iload_n 2 dX12_farOf_5 rfl rfl ?_
  refine Ev_bipushC dX12_farOf_6 rfl ?_
  refine Ev_irem dX12_farOf_8 (by decide) ?_
  refine Ev_isub dX12_farOf_9 ?_
  refine Ev_callV (As := [ev_i (ev_sub (ev_rem a1 8) (ev_rem a2 8))]) (b := 0) (st := []) (M' := M_X12_without) cm_X12_without wd_1906 wd_1908 wd_125 yM_0 cl_X12 rfl dX12_farOf_10 (Nat.le_refl _) rfl (Nat.le_of_ble_eq_true rfl) (Nat.le_of_ble_eq_true rfl) h (fun v u h hk => ?_)
  obtain ⟨r2, rfl⟩ := hk
  obtain ⟨s1, rfl⟩ : ∃ x, x = u := ⟨_, rfl⟩
  replace h := h r2 rfl
  refine Ev_aload_n 0 dX12_farOf_13 rfl rfl ?_
  refine Ev_iload_n 1 dX12_farOf_14 rfl rfl ?_
  refine Ev_bipushC dX12_farOf_15 rfl ?_
  refine Ev_idiv dX12_farOf_17 (by decide) ?_
  refine Ev_iload_n 2 dX12_farOf_18 rfl rfl ?_
  refine Ev_bipushC dX12_farOf_19 rfl ?_
  refine Ev_idiv dX12_farOf_21 (by decide) ?_
  refine Ev_isub dX12_farOf_22 ?_
  refine Ev_callV (As := [ev_i (ev_sub (ev_div a1 8) (ev_div a2 8))]) (b := 0) (st := [ev_i r2]) (M' := M_X12_without) cm_X12_without wd_1906 wd_1908 wd_125 yM_0 cl_X12 rfl dX12_farOf_23 (Nat.le_refl _) rfl (Nat.le_of_ble_eq_true rfl) (Nat.le_of_ble_eq_true rfl) h (fun v u h hk => ?_)
  obtain ⟨r4, rfl⟩ := hk
  obtain ⟨s3, rfl⟩ : ∃ x, x = u := ⟨_, rfl⟩
  replace h := h r4 rfl
  refine Ev_iadd dX12_farOf_26 ?_
  exact Ev_iret rfl dX12_farOf_27 rfl h
theorem dX12_town_0 : decode cX12_town 0 = .ok (.aload_n 0, 1) := by decide +kernel
theorem dX12_town_1 : decode cX12_town 1 = .ok (.iconst 0, 1) := by decide +kernel
theorem dX12_town_2 : decode cX12_town 2 = .ok (.putfield 124, 3) := by decide +kernel
theorem dX12_town_5 : decode cX12_town 5 = .ok (.aload_n 0, 1) := by decide +kernel
theorem dX12_town_6 : decode cX12_town 6 = .ok (.iload_n 1, 1) := by decide +kernel
theorem dX12_town_7 : decode cX12_town 7 = .ok (.iconst 2, 1) := by decide +kernel
theorem dX12_town_8 : decode cX12_town 8 = .ok (.bipush 8, 2) := by decide +kernel
theorem dX12_town_10 : decode cX12_town 10 = .ok (.invokevirtual 158, 3) := by decide +kernel
theorem dX12_town_13 : decode cX12_town 13 = .ok (.ifCond .eq 14, 3) := by decide +kernel
theorem dX12_town_16 : decode cX12_town 16 = .ok (.aload_n 0, 1) := by decide +kernel
theorem dX12_town_17 : decode cX12_town 17 = .ok (.iload_n 2, 1) := by decide +kernel
theorem dX12_town_18 : decode cX12_town 18 = .ok (.iconst 2, 1) := by decide +kernel
theorem dX12_town_19 : decode cX12_town 19 = .ok (.bipush 8, 2) := by decide +kernel
theorem dX12_town_21 : decode cX12_town 21 = .ok (.invokevirtual 158, 3) := by decide +kernel
theorem dX12_town_24 : decode cX12_town 24 = .ok (.ifCond .ne 5, 3) := by decide +kernel
theorem dX12_town_27 : decode cX12_town 27 = .ok (.iconst 0, 1) := by decide +kernel
theorem dX12_town_28 : decode cX12_town 28 = .ok (.ireturn, 1) := by decide +kernel
theorem dX12_town_29 : decode cX12_town 29 = .ok (.aload_n 0, 1) := by decide +kernel
theorem dX12_town_30 : decode cX12_town 30 = .ok (.getfield 7, 3) := by decide +kernel
theorem dX12_town_33 : decode cX12_town 33 = .ok (.iconst 1, 1) := by decide +kernel
theorem dX12_town_34 : decode cX12_town 34 = .ok (.iaload, 1) := by decide +kernel
theorem dX12_town_35 : decode cX12_town 35 = .ok (.istore_n 3, 1) := by decide +kernel
theorem dX12_town_36 : decode cX12_town 36 = .ok (.iconst 0, 1) := by decide +kernel
theorem dX12_town_37 : decode cX12_town 37 = .ok (.istore 4, 2) := by decide +kernel
theorem dX12_town_39 : decode cX12_town 39 = .ok (.iload 4, 2) := by decide +kernel
theorem dX12_town_41 : decode cX12_town 41 = .ok (.bipush 87, 2) := by decide +kernel
theorem dX12_town_43 : decode cX12_town 43 = .ok (.if_icmp .ge 17, 3) := by decide +kernel
theorem dX12_town_46 : decode cX12_town 46 = .ok (.aload_n 0, 1) := by decide +kernel
theorem dX12_town_47 : decode cX12_town 47 = .ok (.getfield 7, 3) := by decide +kernel
theorem dX12_town_50 : decode cX12_town 50 = .ok (.iload 4, 2) := by decide +kernel
theorem dX12_town_52 : decode cX12_town 52 = .ok (.iconst 0, 1) := by decide +kernel
theorem dX12_town_53 : decode cX12_town 53 = .ok (.iastore, 1) := by decide +kernel
theorem dX12_town_54 : decode cX12_town 54 = .ok (.iinc 4 1, 3) := by decide +kernel
theorem dX12_town_57 : decode cX12_town 57 = .ok (.goto (-18), 3) := by decide +kernel
theorem dX12_town_60 : decode cX12_town 60 = .ok (.aload_n 0, 1) := by decide +kernel
theorem dX12_town_61 : decode cX12_town 61 = .ok (.getfield 7, 3) := by decide +kernel
theorem dX12_town_64 : decode cX12_town 64 = .ok (.iconst 1, 1) := by decide +kernel
theorem dX12_town_65 : decode cX12_town 65 = .ok (.iload_n 3, 1) := by decide +kernel
theorem dX12_town_66 : decode cX12_town 66 = .ok (.iastore, 1) := by decide +kernel
theorem dX12_town_67 : decode cX12_town 67 = .ok (.aload_n 0, 1) := by decide +kernel
theorem dX12_town_68 : decode cX12_town 68 = .ok (.iload_n 1, 1) := by decide +kernel
theorem dX12_town_69 : decode cX12_town 69 = .ok (.bipush 8, 2) := by decide +kernel
theorem dX12_town_71 : decode cX12_town 71 = .ok (.isub, 1) := by decide +kernel
theorem dX12_town_72 : decode cX12_town 72 = .ok (.putfield 139, 3) := by decide +kernel
theorem dX12_town_75 : decode cX12_town 75 = .ok (.aload_n 0, 1) := by decide +kernel
theorem dX12_town_76 : decode cX12_town 76 = .ok (.iload_n 2, 1) := by decide +kernel
theorem dX12_town_77 : decode cX12_town 77 = .ok (.bipush 8, 2) := by decide +kernel
theorem dX12_town_79 : decode cX12_town 79 = .ok (.isub, 1) := by decide +kernel
theorem dX12_town_80 : decode cX12_town 80 = .ok (.putfield 142, 3) := by decide +kernel
theorem dX12_town_83 : decode cX12_town 83 = .ok (.aload_n 0, 1) := by decide +kernel
theorem dX12_town_84 : decode cX12_town 84 = .ok (.iconst 0, 1) := by decide +kernel
theorem dX12_town_85 : decode cX12_town 85 = .ok (.putfield 151, 3) := by decide +kernel
theorem dX12_town_88 : decode cX12_town 88 = .ok (.iconst 0, 1) := by decide +kernel
theorem dX12_town_89 : decode cX12_town 89 = .ok (.istore 4, 2) := by decide +kernel
theorem dX12_town_91 : decode cX12_town 91 = .ok (.iload 4, 2) := by decide +kernel
theorem dX12_town_93 : decode cX12_town 93 = .ok (.iconst 5, 1) := by decide +kernel
theorem dX12_town_94 : decode cX12_town 94 = .ok (.if_icmp .ge 17, 3) := by decide +kernel
theorem dX12_town_97 : decode cX12_town 97 = .ok (.aload_n 0, 1) := by decide +kernel
theorem dX12_town_98 : decode cX12_town 98 = .ok (.getfield 19, 3) := by decide +kernel
theorem dX12_town_101 : decode cX12_town 101 = .ok (.iload 4, 2) := by decide +kernel
theorem dX12_town_103 : decode cX12_town 103 = .ok (.iconst 0, 1) := by decide +kernel
theorem dX12_town_104 : decode cX12_town 104 = .ok (.iastore, 1) := by decide +kernel
theorem dX12_town_105 : decode cX12_town 105 = .ok (.iinc 4 1, 3) := by decide +kernel
theorem dX12_town_108 : decode cX12_town 108 = .ok (.goto (-17), 3) := by decide +kernel
theorem dX12_town_111 : decode cX12_town 111 = .ok (.aload_n 0, 1) := by decide +kernel
theorem dX12_town_112 : decode cX12_town 112 = .ok (.iconst 0, 1) := by decide +kernel
theorem dX12_town_113 : decode cX12_town 113 = .ok (.putfield 145, 3) := by decide +kernel
theorem dX12_town_116 : decode cX12_town 116 = .ok (.aload_n 0, 1) := by decide +kernel
theorem dX12_town_117 : decode cX12_town 117 = .ok (.iconst 0, 1) := by decide +kernel
theorem dX12_town_118 : decode cX12_town 118 = .ok (.putfield 148, 3) := by decide +kernel
theorem dX12_town_121 : decode cX12_town 121 = .ok (.aload_n 0, 1) := by decide +kernel
theorem dX12_town_122 : decode cX12_town 122 = .ok (.iconst 0, 1) := by decide +kernel
theorem dX12_town_123 : decode cX12_town 123 = .ok (.putfield 162, 3) := by decide +kernel
theorem dX12_town_126 : decode cX12_town 126 = .ok (.aload_n 0, 1) := by decide +kernel
theorem dX12_town_127 : decode cX12_town 127 = .ok (.iconst 0, 1) := by decide +kernel
theorem dX12_town_128 : decode cX12_town 128 = .ok (.putfield 165, 3) := by decide +kernel
theorem dX12_town_131 : decode cX12_town 131 = .ok (.aload_n 0, 1) := by decide +kernel
theorem dX12_town_132 : decode cX12_town 132 = .ok (.iconst 0, 1) := by decide +kernel
theorem dX12_town_133 : decode cX12_town 133 = .ok (.putfield 168, 3) := by decide +kernel
theorem dX12_town_136 : decode cX12_town 136 = .ok (.aload_n 0, 1) := by decide +kernel
theorem dX12_town_137 : decode cX12_town 137 = .ok (.iconst 0, 1) := by decide +kernel
theorem dX12_town_138 : decode cX12_town 138 = .ok (.putfield 127, 3) := by decide +kernel
theorem dX12_town_141 : decode cX12_town 141 = .ok (.iconst 1, 1) := by decide +kernel
theorem dX12_town_142 : decode cX12_town 142 = .ok (.ireturn, 1) := by decide +kernel
theorem wp_X12_town_0 {d : Nat} {s : ev_S} {Q : Option ev_V → ev_S → Prop} {a1 a2 : Int}
    (h : (∀ s1, ev_up s 0 0 0 = s1 → (Ev layM M_X12_isIn d 0 [(0, ev_r 0), (1, ev_i a1), (2, ev_i 2), (3, ev_i 8)] [] s1 (ev_pi (fun r3 s2 => ((r3 = 0 → Q (some (ev_i 0)) s2) ∧ (r3 ≠ 0 → (Ev layM M_X12_isIn d 0 [(0, ev_r 0), (1, ev_i a2), (2, ev_i 2), (3, ev_i 8)] [] s2 (ev_pi (fun r5 s4 => ((r5 ≠ 0 → Ev layM M_X12_town (d + 1) 39 [(0, ev_r 0), (1, ev_i a1), (2, ev_i a2), (3, ev_i (s4 1 1)), (4, ev_i 0)] [] s4 Q) ∧ (r5 = 0 → Q (some (ev_i 0)) s4)))))))))))) :
    Ev layM M_X12_town (d + 1) 0 [(0, ev_r 0), (1, ev_i a1), (2, ev_i a2)] [] s Q := by
  refine Ev_aload_n 0 dX12_town_0 rfl rfl ?_
  refine Ev_iconst dX12_town_1 rfl (ev_Rc rfl) ?_
  refine Ev_put (i := 0) (ty := .int) cl_X12 yM_0 (Nat.le_of_ble_eq_true rfl) rfl rfl (by decide +kernel) rfl rfl wd_1444 dX12_town_2 (Ev_nm (fun s1 es1 => ?_))
  replace h := h s1 es1
  refine Ev_aload_n 0 dX12_town_5 rfl rfl ?_
  refine Ev_iload_n 1 dX12_town_6 rfl rfl ?_
  refine Ev_iconst dX12_town_7 rfl (ev_Rc rfl) ?_
  refine Ev_bipushC dX12_town_8 rfl ?_
  refine Ev_callV (As := [ev_i a1, ev_i 2, ev_i 8]) (b := 0) (st := []) (M' := M_X12_isIn) cm_X12_isIn wd_1650 wd_1652 wd_70 yM_0 cl_X12 rfl dX12_town_10 (Nat.le_refl _) rfl (Nat.le_of_ble_eq_true rfl) (Nat.le_of_ble_eq_true rfl) h (fun v u h hk => ?_)
  obtain ⟨r3, rfl⟩ := hk
  obtain ⟨s2, rfl⟩ : ∃ x, x = u := ⟨_, rfl⟩
  replace h := h r3 rfl
  refine Ev_if_eq (tgt := 27) dX12_town_13 rfl (fun c => ?_) (fun c => ?_)
  · replace h := h.1 c
    refine Ev_iconst dX12_town_27 rfl (ev_Rc rfl) ?_
    exact Ev_iret rfl dX12_town_28 (ev_nb (by decide)) h
  · replace h := h.2 c
    refine Ev_aload_n 0 dX12_town_16 rfl rfl ?_
    refine Ev_iload_n 2 dX12_town_17 rfl rfl ?_
    refine Ev_iconst dX12_town_18 rfl (ev_Rc rfl) ?_
    refine Ev_bipushC dX12_town_19 rfl ?_
    refine Ev_callV (As := [ev_i a2, ev_i 2, ev_i 8]) (b := 0) (st := []) (M' := M_X12_isIn) cm_X12_isIn wd_1650 wd_1652 wd_70 yM_0 cl_X12 rfl dX12_town_21 (Nat.le_refl _) rfl (Nat.le_of_ble_eq_true rfl) (Nat.le_of_ble_eq_true rfl) h (fun v u h hk => ?_)
    obtain ⟨r5, rfl⟩ := hk
    obtain ⟨s4, rfl⟩ : ∃ x, x = u := ⟨_, rfl⟩
    replace h := h r5 rfl
    refine Ev_if_ne (tgt := 29) dX12_town_24 rfl (fun c => ?_) (fun c => ?_)
    · replace h := h.1 c
      refine Ev_aload_n 0 dX12_town_29 rfl rfl ?_
      refine Ev_getR (i := 1) cl_X12 yM_0 (Nat.le_of_ble_eq_true rfl) rfl wd_1445 dX12_town_30 ?_
      refine Ev_iconst dX12_town_33 rfl (ev_Rc rfl) ?_
      refine Ev_iald yM_1 (by decide) dX12_town_34 ?_
      refine Ev_istore_n (l' := [(3, ev_i (s4 1 1)), (0, ev_r 0), (1, ev_i a1), (2, ev_i a2)]) dX12_town_35 rfl (Nat.le_of_ble_eq_true rfl) rfl ?_
      refine Ev_iconst dX12_town_36 rfl (ev_Rc rfl) ?_
      refine Ev_istore (l' := [(4, ev_i 0), (3, ev_i (s4 1 1)), (0, ev_r 0), (1, ev_i a1), (2, ev_i a2)]) dX12_town_37 (Nat.le_of_ble_eq_true rfl) rfl ?_
      exact Ev_sub [2, 3, 4, 1, 0] rfl h
    · replace h := h.2 c
      refine Ev_iconst dX12_town_27 rfl (ev_Rc rfl) ?_
      exact Ev_iret rfl dX12_town_28 (ev_nb (by decide)) h
theorem wp_X12_town_39 {d : Nat} {s : ev_S} {Q : Option ev_V → ev_S → Prop} {a1 a2 a3 a4 : Int}
    (h : ((87 ≤ a4 → (∀ s1, ev_up s 1 1 a3 = s1 → (∀ s2, ev_up s1 0 6 (ev_sub a1 8) = s2 → (∀ s3, ev_up s2 0 7 (ev_sub a2 8) = s3 → (∀ s4, ev_up s3 0 8 0 = s4 → Ev layM M_X12_town (d + 1) 91 [(0, ev_r 0), (4, ev_i 0)] [] s4 Q))))) ∧ (a4 < 87 → ((0 ≤ a4 ∧ a4 < (87 : Nat)) ∧ ∀ s5, ev_up s 1 (Int.toNat a4) 0 = s5 → Ev layM M_X12_town (d + 1) 39 [(0, ev_r 0), (1, ev_i a1), (2, ev_i a2), (3, ev_i a3), (4, ev_i (ev_add a4 1))] [] s5 Q)))) :
    Ev layM M_X12_town (d + 1) 39 [(0, ev_r 0), (1, ev_i a1), (2, ev_i a2), (3, ev_i a3), (4, ev_i a4)] [] s Q := by
  refine Ev_iload 4 dX12_town_39 rfl ?_
  refine Ev_bipushC dX12_town_41 rfl ?_
  refine Ev_icmp_ge (tgt := 60) dX12_town_43 rfl (fun c => ?_) (fun c => ?_)
  · replace h := h.1 c
    refine Ev_aload_n 0 dX12_town_60 rfl rfl ?_
    refine Ev_getR (i := 1) cl_X12 yM_0 (Nat.le_of_ble_eq_true rfl) rfl wd_1445 dX12_town_61 ?_
    refine Ev_iconst dX12_town_64 rfl (ev_Rc rfl) ?_
    refine Ev_iload_n 3 dX12_town_65 rfl rfl ?_
    refine Ev_iast yM_1 (by decide) dX12_town_66 (Ev_nm (fun s1 es1 => ?_))
    replace h := h s1 es1
    refine Ev_aload_n 0 dX12_town_67 rfl rfl ?_
    refine Ev_iload_n 1 dX12_town_68 rfl rfl ?_
    refine Ev_bipushC dX12_town_69 rfl ?_
    refine Ev_isub dX12_town_71 ?_
    refine Ev_put (i := 6) (ty := .int) cl_X12 yM_0 (Nat.le_of_ble_eq_true rfl) rfl rfl (by decide +kernel) rfl rfl wd_1450 dX12_town_72 (Ev_nm (fun s2 es2 => ?_))
    replace h := h s2 es2
    refine Ev_aload_n 0 dX12_town_75 rfl rfl ?_
    refine Ev_iload_n 2 dX12_town_76 rfl rfl ?_
    refine Ev_bipushC dX12_town_77 rfl ?_
    refine Ev_isub dX12_town_79 ?_
    refine Ev_put (i := 7) (ty := .int) cl_X12 yM_0 (Nat.le_of_ble_eq_true rfl) rfl rfl (by decide +kernel) rfl rfl wd_1451 dX12_town_80 (Ev_nm (fun s3 es3 => ?_))
    replace h := h s3 es3
    refine Ev_aload_n 0 dX12_town_83 rfl rfl ?_
    refine Ev_iconst dX12_town_84 rfl (ev_Rc rfl) ?_
    refine Ev_put (i := 8) (ty := .int) cl_X12 yM_0 (Nat.le_of_ble_eq_true rfl) rfl rfl (by decide +kernel) rfl rfl wd_1452 dX12_town_85 (Ev_nm (fun s4 es4 => ?_))
    replace h := h s4 es4
    refine Ev_iconst dX12_town_88 rfl (ev_Rc rfl) ?_
    refine Ev_istore (l' := [(4, ev_i 0), (0, ev_r 0), (1, ev_i a1), (2, ev_i a2), (3, ev_i a3)]) dX12_town_89 (Nat.le_of_ble_eq_true rfl) rfl ?_
    exact Ev_sub [1, 0] rfl h
  · replace h := h.2 c
    refine Ev_aload_n 0 dX12_town_46 rfl rfl ?_
    refine Ev_getR (i := 1) cl_X12 yM_0 (Nat.le_of_ble_eq_true rfl) rfl wd_1445 dX12_town_47 ?_
    refine Ev_iload 4 dX12_town_50 rfl ?_
    refine Ev_iconst dX12_town_52 rfl (ev_Rc rfl) ?_
    obtain ⟨h0, h⟩ := h
    refine Ev_iast yM_1 h0 dX12_town_53 (Ev_nm (fun s5 es5 => ?_))
    replace h := h s5 es5
    refine Ev_iinc (j := 4) (l' := [(4, ev_i (ev_add a4 1)), (0, ev_r 0), (1, ev_i a1), (2, ev_i a2), (3, ev_i a3)]) dX12_town_54 rfl (Nat.le_of_ble_eq_true rfl) rfl ?_
    refine Ev_goto (tgt := 39) dX12_town_57 rfl ?_
    exact Ev_sub [1, 2, 3, 4, 0] rfl h
theorem wp_X12_town_91 {d : Nat} {s : ev_S} {Q : Option ev_V → ev_S → Prop} {a4 : Int}
    (h : ((5 ≤ a4 → (∀ s1, ev_up s 0 10 0 = s1 → (∀ s2, ev_up s1 0 11 0 = s2 → (∀ s3, ev_up s2 0 12 0 = s3 → (∀ s4, ev_up s3 0 46 0 = s4 → (∀ s5, ev_up s4 0 25 0 = s5 → (∀ s6, ev_up s5 0 3 0 = s6 → Q (some (ev_i 1)) s6))))))) ∧ (a4 < 5 → ((0 ≤ a4 ∧ a4 < (5 : Nat)) ∧ ∀ s7, ev_up s 4 (Int.toNat a4) 0 = s7 → Ev layM M_X12_town (d + 1) 91 [(0, ev_r 0), (4, ev_i (ev_add a4 1))] [] s7 Q)))) :
    Ev layM M_X12_town (d + 1) 91 [(0, ev_r 0), (4, ev_i a4)] [] s Q := by
  refine Ev_iload 1 dX12_town_91 rfl ?_
  refine Ev_iconst dX12_town_93 rfl (ev_Rc rfl) ?_
  refine Ev_icmp_ge (tgt := 111) dX12_town_94 rfl (fun c => ?_) (fun c => ?_)
  · replace h := h.1 c
    refine Ev_aload_n 0 dX12_town_111 rfl rfl ?_
    refine Ev_iconst dX12_town_112 rfl (ev_Rc rfl) ?_
    refine Ev_put (i := 10) (ty := .int) cl_X12 yM_0 (Nat.le_of_ble_eq_true rfl) rfl rfl (by decide +kernel) rfl rfl wd_1454 dX12_town_113 (Ev_nm (fun s1 es1 => ?_))
    replace h := h s1 es1
    refine Ev_aload_n 0 dX12_town_116 rfl rfl ?_
    refine Ev_iconst dX12_town_117 rfl (ev_Rc rfl) ?_
    refine Ev_put (i := 11) (ty := .int) cl_X12 yM_0 (Nat.le_of_ble_eq_true rfl) rfl rfl (by decide +kernel) rfl rfl wd_1455 dX12_town_118 (Ev_nm (fun s2 es2 => ?_))
    replace h := h s2 es2
    refine Ev_aload_n 0 dX12_town_121 rfl rfl ?_
    refine Ev_iconst dX12_town_122 rfl (ev_Rc rfl) ?_
    refine Ev_put (i := 12) (ty := .int) cl_X12 yM_0 (Nat.le_of_ble_eq_true rfl) rfl rfl (by decide +kernel) rfl rfl wd_1456 dX12_town_123 (Ev_nm (fun s3 es3 => ?_))
    replace h := h s3 es3
    refine Ev_aload_n 0 dX12_town_126 rfl rfl ?_
    refine Ev_iconst dX12_town_127 rfl (ev_Rc rfl) ?_
    refine Ev_put (i := 46) (ty := .int) cl_X12 yM_0 (Nat.le_of_ble_eq_true rfl) rfl rfl (by decide +kernel) rfl rfl wd_1490 dX12_town_128 (Ev_nm (fun s4 es4 => ?_))
    replace h := h s4 es4
    refine Ev_aload_n 0 dX12_town_131 rfl rfl ?_
    refine Ev_iconst dX12_town_132 rfl (ev_Rc rfl) ?_
    refine Ev_put (i := 25) (ty := .int) cl_X12 yM_0 (Nat.le_of_ble_eq_true rfl) rfl rfl (by decide +kernel) rfl rfl wd_1469 dX12_town_133 (Ev_nm (fun s5 es5 => ?_))
    replace h := h s5 es5
    refine Ev_aload_n 0 dX12_town_136 rfl rfl ?_
    refine Ev_iconst dX12_town_137 rfl (ev_Rc rfl) ?_
    refine Ev_put (i := 3) (ty := .int) cl_X12 yM_0 (Nat.le_of_ble_eq_true rfl) rfl rfl (by decide +kernel) rfl rfl wd_1447 dX12_town_138 (Ev_nm (fun s6 es6 => ?_))
    replace h := h s6 es6
    refine Ev_iconst dX12_town_141 rfl (ev_Rc rfl) ?_
    exact Ev_iret rfl dX12_town_142 (ev_nb (by decide)) h
  · replace h := h.2 c
    refine Ev_aload_n 0 dX12_town_97 rfl rfl ?_
    refine Ev_getR (i := 9) cl_X12 yM_0 (Nat.le_of_ble_eq_true rfl) rfl wd_1453 dX12_town_98 ?_
    refine Ev_iload 1 dX12_town_101 rfl ?_
    refine Ev_iconst dX12_town_103 rfl (ev_Rc rfl) ?_
    obtain ⟨h0, h⟩ := h
    refine Ev_iast yM_4 h0 dX12_town_104 (Ev_nm (fun s7 es7 => ?_))
    replace h := h s7 es7
    refine Ev_iinc (j := 1) (l' := [(4, ev_i (ev_add a4 1)), (0, ev_r 0)]) dX12_town_105 rfl (Nat.le_of_ble_eq_true rfl) rfl ?_
    refine Ev_goto (tgt := 91) dX12_town_108 rfl ?_
    exact Ev_sub [1, 0] rfl h
theorem dX12_set_0 : decode cX12_set 0 = .ok (.aload_n 0, 1) := by decide +kernel
theorem dX12_set_1 : decode cX12_set 1 = .ok (.iconst 0, 1) := by decide +kernel
theorem dX12_set_2 : decode cX12_set 2 = .ok (.putfield 124, 3) := by decide +kernel
theorem dX12_set_5 : decode cX12_set 5 = .ok (.iload_n 1, 1) := by decide +kernel
theorem dX12_set_6 : decode cX12_set 6 = .ok (.iconst 2, 1) := by decide +kernel
theorem dX12_set_7 : decode cX12_set 7 = .ok (.if_icmp .ne 25, 3) := by decide +kernel
theorem dX12_set_10 : decode cX12_set 10 = .ok (.aload_n 0, 1) := by decide +kernel
theorem dX12_set_11 : decode cX12_set 11 = .ok (.iload_n 2, 1) := by decide +kernel
theorem dX12_set_12 : decode cX12_set 12 = .ok (.invokevirtual 171, 3) := by decide +kernel
theorem dX12_set_15 : decode cX12_set 15 = .ok (.ifCond .eq 61, 3) := by decide +kernel
theorem dX12_set_18 : decode cX12_set 18 = .ok (.aload_n 0, 1) := by decide +kernel
theorem dX12_set_19 : decode cX12_set 19 = .ok (.iload_n 3, 1) := by decide +kernel
theorem dX12_set_20 : decode cX12_set 20 = .ok (.iconst 1, 1) := by decide +kernel
theorem dX12_set_21 : decode cX12_set 21 = .ok (.bipush 9, 2) := by decide +kernel
theorem dX12_set_23 : decode cX12_set 23 = .ok (.invokevirtual 158, 3) := by decide +kernel
theorem dX12_set_26 : decode cX12_set 26 = .ok (.ifCond .ne 52, 3) := by decide +kernel
theorem dX12_set_29 : decode cX12_set 29 = .ok (.goto 47, 3) := by decide +kernel
theorem dX12_set_32 : decode cX12_set 32 = .ok (.iload_n 1, 1) := by decide +kernel
theorem dX12_set_33 : decode cX12_set 33 = .ok (.iconst 1, 1) := by decide +kernel
theorem dX12_set_34 : decode cX12_set 34 = .ok (.if_icmp .ne 27, 3) := by decide +kernel
theorem dX12_set_37 : decode cX12_set 37 = .ok (.aload_n 0, 1) := by decide +kernel
theorem dX12_set_38 : decode cX12_set 38 = .ok (.iload_n 2, 1) := by decide +kernel
theorem dX12_set_39 : decode cX12_set 39 = .ok (.iconst 0, 1) := by decide +kernel
theorem dX12_set_40 : decode cX12_set 40 = .ok (.iconst 4, 1) := by decide +kernel
theorem dX12_set_41 : decode cX12_set 41 = .ok (.invokevirtual 158, 3) := by decide +kernel
theorem dX12_set_44 : decode cX12_set 44 = .ok (.ifCond .eq 32, 3) := by decide +kernel
theorem dX12_set_47 : decode cX12_set 47 = .ok (.aload_n 0, 1) := by decide +kernel
theorem dX12_set_48 : decode cX12_set 48 = .ok (.iload_n 3, 1) := by decide +kernel
theorem dX12_set_49 : decode cX12_set 49 = .ok (.iconst 0, 1) := by decide +kernel
theorem dX12_set_50 : decode cX12_set 50 = .ok (.bipush 9, 2) := by decide +kernel
theorem dX12_set_52 : decode cX12_set 52 = .ok (.invokevirtual 158, 3) := by decide +kernel
theorem dX12_set_55 : decode cX12_set 55 = .ok (.ifCond .ne 23, 3) := by decide +kernel
theorem dX12_set_58 : decode cX12_set 58 = .ok (.goto 18, 3) := by decide +kernel
theorem dX12_set_61 : decode cX12_set 61 = .ok (.iload_n 1, 1) := by decide +kernel
theorem dX12_set_62 : decode cX12_set 62 = .ok (.ifCond .ne 14, 3) := by decide +kernel
theorem dX12_set_65 : decode cX12_set 65 = .ok (.aload_n 0, 1) := by decide +kernel
theorem dX12_set_66 : decode cX12_set 66 = .ok (.iload_n 3, 1) := by decide +kernel
theorem dX12_set_67 : decode cX12_set 67 = .ok (.iconst 0, 1) := by decide +kernel
theorem dX12_set_68 : decode cX12_set 68 = .ok (.bipush 9, 2) := by decide +kernel
theorem dX12_set_70 : decode cX12_set 70 = .ok (.invokevirtual 158, 3) := by decide +kernel
theorem dX12_set_73 : decode cX12_set 73 = .ok (.ifCond .ne 5, 3) := by decide +kernel
theorem dX12_set_76 : decode cX12_set 76 = .ok (.iconst 0, 1) := by decide +kernel
theorem dX12_set_77 : decode cX12_set 77 = .ok (.ireturn, 1) := by decide +kernel
theorem dX12_set_78 : decode cX12_set 78 = .ok (.iload_n 1, 1) := by decide +kernel
theorem dX12_set_79 : decode cX12_set 79 = .ok (.ifCond .ne 10, 3) := by decide +kernel
theorem dX12_set_82 : decode cX12_set 82 = .ok (.aload_n 0, 1) := by decide +kernel
theorem dX12_set_83 : decode cX12_set 83 = .ok (.iload_n 3, 1) := by decide +kernel
theorem dX12_set_84 : decode cX12_set 84 = .ok (.iconst 3, 1) := by decide +kernel
theorem dX12_set_85 : decode cX12_set 85 = .ok (.isub, 1) := by decide +kernel
theorem dX12_set_86 : decode cX12_set 86 = .ok (.putfield 151, 3) := by decide +kernel
theorem dX12_set_89 : decode cX12_set 89 = .ok (.iload_n 1, 1) := by decide +kernel
theorem dX12_set_90 : decode cX12_set 90 = .ok (.iconst 1, 1) := by decide +kernel
theorem dX12_set_91 : decode cX12_set 91 = .ok (.if_icmp .ne 10, 3) := by decide +kernel
theorem dX12_set_94 : decode cX12_set 94 = .ok (.aload_n 0, 1) := by decide +kernel
theorem dX12_set_95 : decode cX12_set 95 = .ok (.getfield 19, 3) := by decide +kernel
theorem dX12_set_98 : decode cX12_set 98 = .ok (.iload_n 2, 1) := by decide +kernel
theorem dX12_set_99 : decode cX12_set 99 = .ok (.iload_n 3, 1) := by decide +kernel
theorem dX12_set_100 : decode cX12_set 100 = .ok (.iastore, 1) := by decide +kernel
theorem dX12_set_101 : decode cX12_set 101 = .ok (.iload_n 1, 1) := by decide +kernel
theorem dX12_set_102 : decode cX12_set 102 = .ok (.iconst 2, 1) := by decide +kernel
theorem dX12_set_103 : decode cX12_set 103 = .ok (.if_icmp .ne 10, 3) := by decide +kernel
theorem dX12_set_106 : decode cX12_set 106 = .ok (.aload_n 0, 1) := by decide +kernel
theorem dX12_set_107 : decode cX12_set 107 = .ok (.getfield 22, 3) := by decide +kernel
theorem dX12_set_110 : decode cX12_set 110 = .ok (.iload_n 2, 1) := by decide +kernel
theorem dX12_set_111 : decode cX12_set 111 = .ok (.iload_n 3, 1) := by decide +kernel
theorem dX12_set_112 : decode cX12_set 112 = .ok (.iastore, 1) := by decide +kernel
theorem dX12_set_113 : decode cX12_set 113 = .ok (.aload_n 0, 1) := by decide +kernel
theorem dX12_set_114 : decode cX12_set 114 = .ok (.iconst 0, 1) := by decide +kernel
theorem dX12_set_115 : decode cX12_set 115 = .ok (.putfield 127, 3) := by decide +kernel
theorem dX12_set_118 : decode cX12_set 118 = .ok (.iconst 1, 1) := by decide +kernel
theorem dX12_set_119 : decode cX12_set 119 = .ok (.ireturn, 1) := by decide +kernel
theorem wp_X12_set_0 {d : Nat} {s : ev_S} {Q : Option ev_V → ev_S → Prop} {a1 a2 a3 : Int}
    (h : (∀ s1, ev_up s 0 0 0 = s1 → ((a1 ≠ 2 → ((a1 ≠ 1 → ((a1 ≠ 0 → Q (some (ev_i 0)) s1) ∧ (a1 = 0 → (Ev layM M_X12_isIn d 0 [(0, ev_r 0), (1, ev_i a3), (2, ev_i 0), (3, ev_i 9)] [] s1 (ev_pi (fun r3 s2 => ((r3 ≠ 0 → Ev layM M_X12_set (d + 1) 78 [(0, ev_r 0), (1, ev_i a1), (2, ev_i a2), (3, ev_i a3)] [] s2 Q) ∧ (r3 = 0 → Q (some (ev_i 0)) s2)))))))) ∧ (a1 = 1 → (Ev layM M_X12_isIn d 0 [(0, ev_r 0), (1, ev_i a2), (2, ev_i 0), (3, ev_i 4)] [] s1 (ev_pi (fun r5 s4 => ((r5 = 0 → Q (some (ev_i 0)) s4) ∧ (r5 ≠ 0 → (Ev layM M_X12_isIn d 0 [(0, ev_r 0), (1, ev_i a3), (2, ev_i 0), (3, ev_i 9)] [] s4 (ev_pi (fun r7 s6 => ((r7 ≠ 0 → Ev layM M_X12_set (d + 1) 78 [(0, ev_r 0), (1, ev_i a1), (2, ev_i a2), (3, ev_i a3)] [] s6 Q) ∧ (r7 = 0 → Q (some (ev_i 0)) s6))))))))))))) ∧ (a1 = 2 → (Ev layM M_X12_isAngel d 0 [(0, ev_r 0), (1, ev_i a2)] [] s1 (ev_pi (fun r9 s8 => ((r9 = 0 → Q (some (ev_i 0)) s8) ∧ (r9 ≠ 0 → (Ev layM M_X12_isIn d 0 [(0, ev_r 0), (1, ev_i a3), (2, ev_i 1), (3, ev_i 9)] [] s8 (ev_pi (fun r11 s10 => ((r11 ≠ 0 → Ev layM M_X12_set (d + 1) 78 [(0, ev_r 0), (1, ev_i a1), (2, ev_i a2), (3, ev_i a3)] [] s10 Q) ∧ (r11 = 0 → Q (some (ev_i 0)) s10)))))))))))))) :
    Ev layM M_X12_set (d + 1) 0 [(0, ev_r 0), (1, ev_i a1), (2, ev_i a2), (3, ev_i a3)] [] s Q := by
  refine Ev_aload_n 0 dX12_set_0 rfl rfl ?_
  refine Ev_iconst dX12_set_1 rfl (ev_Rc rfl) ?_
  refine Ev_put (i := 0) (ty := .int) cl_X12 yM_0 (Nat.le_of_ble_eq_true rfl) rfl rfl (by decide +kernel) rfl rfl wd_1444 dX12_set_2 (Ev_nm (fun s1 es1 => ?_))
  replace h := h s1 es1
  refine Ev_iload_n 1 dX12_set_5 rfl rfl ?_
  refine Ev_iconst dX12_set_6 rfl (ev_Rc rfl) ?_
  refine Ev_icmp_ne (tgt := 32) dX12_set_7 rfl (fun c => ?_) (fun c => ?_)
  · replace h := h.1 c
    refine Ev_iload_n 1 dX12_set_32 rfl rfl ?_
    refine Ev_iconst dX12_set_33 rfl (ev_Rc rfl) ?_
    refine Ev_icmp_ne (tgt := 61) dX12_set_34 rfl (fun c => ?_) (fun c => ?_)
    · replace h := h.1 c
      refine Ev_iload_n 1 dX12_set_61 rfl rfl ?_
      refine Ev_if_ne (tgt := 76) dX12_set_62 rfl (fun c => ?_) (fun c => ?_)
      · replace h := h.1 c
        refine Ev_iconst dX12_set_76 rfl (ev_Rc rfl) ?_
        exact Ev_iret rfl dX12_set_77 (ev_nb (by decide)) h
      · replace h := h.2 c
        refine Ev_aload_n 0 dX12_set_65 rfl rfl ?_
        refine Ev_iload_n 3 dX12_set_66 rfl rfl ?_
        refine Ev_iconst dX12_set_67 rfl (ev_Rc rfl) ?_
        refine Ev_bipushC dX12_set_68 rfl ?_
        refine Ev_callV (As := [ev_i a3, ev_i 0, ev_i 9]) (b := 0) (st := []) (M' := M_X12_isIn) cm_X12_isIn wd_1650 wd_1652 wd_70 yM_0 cl_X12 rfl dX12_set_70 (Nat.le_refl _) rfl (Nat.le_of_ble_eq_true rfl) (Nat.le_of_ble_eq_true rfl) h (fun v u h hk => ?_)
        obtain ⟨r3, rfl⟩ := hk
        obtain ⟨s2, rfl⟩ : ∃ x, x = u := ⟨_, rfl⟩
        replace h := h r3 rfl
        refine Ev_if_ne (tgt := 78) dX12_set_73 rfl (fun c => ?_) (fun c => ?_)
        · replace h := h.1 c
          exact Ev_sub [0, 1, 2, 3] rfl h
        · replace h := h.2 c
          refine Ev_iconst dX12_set_76 rfl (ev_Rc rfl) ?_
          exact Ev_iret rfl dX12_set_77 (ev_nb (by decide)) h
    · replace h := h.2 c
      refine Ev_aload_n 0 dX12_set_37 rfl rfl ?_
      refine Ev_iload_n 2 dX12_set_38 rfl rfl ?_
      refine Ev_iconst dX12_set_39 rfl (ev_Rc rfl) ?_
      refine Ev_iconst dX12_set_40 rfl (ev_Rc rfl) ?_
      refine Ev_callV (As := [ev_i a2, ev_i 0, ev_i 4]) (b := 0) (st := []) (M' := M_X12_isIn) cm_X12_isIn wd_1650 wd_1652 wd_70 yM_0 cl_X12 rfl dX12_set_41 (Nat.le_refl _) rfl (Nat.le_of_ble_eq_true rfl) (Nat.le_of_ble_eq_true rfl) h (fun v u h hk => ?_)
      obtain ⟨r5, rfl⟩ := hk
      obtain ⟨s4, rfl⟩ : ∃ x, x = u := ⟨_, rfl⟩
      replace h := h r5 rfl
      refine Ev_if_eq (tgt := 76) dX12_set_44 rfl (fun c => ?_) (fun c => ?_)
      · replace h := h.1 c
        refine Ev_iconst dX12_set_76 rfl (ev_Rc rfl) ?_
        exact Ev_iret rfl dX12_set_77 (ev_nb (by decide)) h
      · replace h := h.2 c
        refine Ev_aload_n 0 dX12_set_47 rfl rfl ?_
        refine Ev_iload_n 3 dX12_set_48 rfl rfl ?_
        refine Ev_iconst dX12_set_49 rfl (ev_Rc rfl) ?_
        refine Ev_bipushC dX12_set_50 rfl ?_
        refine Ev_callV (As := [ev_i a3, ev_i 0, ev_i 9]) (b := 0) (st := []) (M' := M_X12_isIn) cm_X12_isIn wd_1650 wd_1652 wd_70 yM_0 cl_X12 rfl dX12_set_52 (Nat.le_refl _) rfl (Nat.le_of_ble_eq_true rfl) (Nat.le_of_ble_eq_true rfl) h (fun v u h hk => ?_)
        obtain ⟨r7, rfl⟩ := hk
        obtain ⟨s6, rfl⟩ : ∃ x, x = u := ⟨_, rfl⟩
        replace h := h r7 rfl
        refine Ev_if_ne (tgt := 78) dX12_set_55 rfl (fun c => ?_) (fun c => ?_)
        · replace h := h.1 c
          exact Ev_sub [0, 1, 2, 3] rfl h
        · replace h := h.2 c
          refine Ev_goto (tgt := 76) dX12_set_58 rfl ?_
          refine Ev_iconst dX12_set_76 rfl (ev_Rc rfl) ?_
          exact Ev_iret rfl dX12_set_77 (ev_nb (by decide)) h
  · replace h := h.2 c
    refine Ev_aload_n 0 dX12_set_10 rfl rfl ?_
    refine Ev_iload_n 2 dX12_set_11 rfl rfl ?_
    refine Ev_callV (As := [ev_i a2]) (b := 0) (st := []) (M' := M_X12_isAngel) cm_X12_isAngel wd_1658 wd_1660 wd_71 yM_0 cl_X12 rfl dX12_set_12 (Nat.le_refl _) rfl (Nat.le_of_ble_eq_true rfl) (Nat.le_of_ble_eq_true rfl) h (fun v u h hk => ?_)
    obtain ⟨r9, rfl⟩ := hk
    obtain ⟨s8, rfl⟩ : ∃ x, x = u := ⟨_, rfl⟩
    replace h := h r9 rfl
    refine Ev_if_eq (tgt := 76) dX12_set_15 rfl (fun c => ?_) (fun c => ?_)
    · replace h := h.1 c
      refine Ev_iconst dX12_set_76 rfl (ev_Rc rfl) ?_
      exact Ev_iret rfl dX12_set_77 (ev_nb (by decide)) h
    · replace h := h.2 c
      refine Ev_aload_n 0 dX12_set_18 rfl rfl ?_
      refine Ev_iload_n 3 dX12_set_19 rfl rfl ?_
      refine Ev_iconst dX12_set_20 rfl (ev_Rc rfl) ?_
      refine Ev_bipushC dX12_set_21 rfl ?_
      refine Ev_callV (As := [ev_i a3, ev_i 1, ev_i 9]) (b := 0) (st := []) (M' := M_X12_isIn) cm_X12_isIn wd_1650 wd_1652 wd_70 yM_0 cl_X12 rfl dX12_set_23 (Nat.le_refl _) rfl (Nat.le_of_ble_eq_true rfl) (Nat.le_of_ble_eq_true rfl) h (fun v u h hk => ?_)
      obtain ⟨r11, rfl⟩ := hk
      obtain ⟨s10, rfl⟩ : ∃ x, x = u := ⟨_, rfl⟩
      replace h := h r11 rfl
      refine Ev_if_ne (tgt := 78) dX12_set_26 rfl (fun c => ?_) (fun c => ?_)
      · replace h := h.1 c
        exact Ev_sub [0, 1, 2, 3] rfl h
      · replace h := h.2 c
        refine Ev_goto (tgt := 76) dX12_set_29 rfl ?_
        refine Ev_iconst dX12_set_76 rfl (ev_Rc rfl) ?_
        exact Ev_iret rfl dX12_set_77 (ev_nb (by decide)) h
theorem wp_X12_set_78 {d : Nat} {s : ev_S} {Q : Option ev_V → ev_S → Prop} {a1 a2 a3 : Int}
    (h : ((a1 ≠ 0 → ((a1 ≠ 1 → Ev layM M_X12_set (d + 1) 101 [(0, ev_r 0), (1, ev_i a1), (2, ev_i a2), (3, ev_i a3)] [] s Q) ∧ (a1 = 1 → ((0 ≤ a2 ∧ a2 < (5 : Nat)) ∧ ∀ s1, ev_up s 4 (Int.toNat a2) a3 = s1 → Ev layM M_X12_set (d + 1) 101 [(0, ev_r 0), (1, ev_i a1), (2, ev_i a2), (3, ev_i a3)] [] s1 Q)))) ∧ (a1 = 0 → (∀ s2, ev_up s 0 8 (ev_sub a3 3) = s2 → ((a1 ≠ 1 → Ev layM M_X12_set (d + 1) 101 [(0, ev_r 0), (1, ev_i a1), (2, ev_i a2), (3, ev_i a3)] [] s2 Q) ∧ (a1 = 1 → ((0 ≤ a2 ∧ a2 < (5 : Nat)) ∧ ∀ s3, ev_up s2 4 (Int.toNat a2) a3 = s3 → Ev layM M_X12_set (d + 1) 101 [(0, ev_r 0), (1, ev_i a1), (2, ev_i a2), (3, ev_i a3)] [] s3 Q))))))) :
    Ev layM M_X12_set (d + 1) 78 [(0, ev_r 0), (1, ev_i a1), (2, ev_i a2), (3, ev_i a3)] [] s Q := by
  refine Ev_iload_n 1 dX12_set_78 rfl rfl ?_
  refine Ev_if_ne (tgt := 89) dX12_set_79 rfl (fun c => ?_) (fun c => ?_)
  · replace h := h.1 c
    refine Ev_iload_n 1 dX12_set_89 rfl rfl ?_
    refine Ev_iconst dX12_set_90 rfl (ev_Rc rfl) ?_
    refine Ev_icmp_ne (tgt := 101) dX12_set_91 rfl (fun c => ?_) (fun c => ?_)
    · replace h := h.1 c
      exact Ev_sub [0, 1, 2, 3] rfl h
    · replace h := h.2 c
      refine Ev_aload_n 0 dX12_set_94 rfl rfl ?_
      refine Ev_getR (i := 9) cl_X12 yM_0 (Nat.le_of_ble_eq_true rfl) rfl wd_1453 dX12_set_95 ?_
      refine Ev_iload_n 2 dX12_set_98 rfl rfl ?_
      refine Ev_iload_n 3 dX12_set_99 rfl rfl ?_
      obtain ⟨h0, h⟩ := h
      refine Ev_iast yM_4 h0 dX12_set_100 (Ev_nm (fun s1 es1 => ?_))
      replace h := h s1 es1
      exact Ev_sub [0, 1, 2, 3] rfl h
  · replace h := h.2 c
    refine Ev_aload_n 0 dX12_set_82 rfl rfl ?_
    refine Ev_iload_n 3 dX12_set_83 rfl rfl ?_
    refine Ev_iconst dX12_set_84 rfl (ev_Rc rfl) ?_
    refine Ev_isub dX12_set_85 ?_
    refine Ev_put (i := 8) (ty := .int) cl_X12 yM_0 (Nat.le_of_ble_eq_true rfl) rfl rfl (by decide +kernel) rfl rfl wd_1452 dX12_set_86 (Ev_nm (fun s2 es2 => ?_))
    replace h := h s2 es2
    refine Ev_iload_n 1 dX12_set_89 rfl rfl ?_
    refine Ev_iconst dX12_set_90 rfl (ev_Rc rfl) ?_
    refine Ev_icmp_ne (tgt := 101) dX12_set_91 rfl (fun c => ?_) (fun c => ?_)
    · replace h := h.1 c
      exact Ev_sub [0, 1, 2, 3] rfl h
    · replace h := h.2 c
      refine Ev_aload_n 0 dX12_set_94 rfl rfl ?_
      refine Ev_getR (i := 9) cl_X12 yM_0 (Nat.le_of_ble_eq_true rfl) rfl wd_1453 dX12_set_95 ?_
      refine Ev_iload_n 2 dX12_set_98 rfl rfl ?_
      refine Ev_iload_n 3 dX12_set_99 rfl rfl ?_
      obtain ⟨h0, h⟩ := h
      refine Ev_iast yM_4 h0 dX12_set_100 (Ev_nm (fun s3 es3 => ?_))
      replace h := h s3 es3
      exact Ev_sub [0, 1, 2, 3] rfl h
theorem wp_X12_set_101 {d : Nat} {s : ev_S} {Q : Option ev_V → ev_S → Prop} {a1 a2 a3 : Int}
    (h : ((a1 ≠ 2 → (∀ s1, ev_up s 0 3 0 = s1 → Q (some (ev_i 1)) s1)) ∧ (a1 = 2 → ((0 ≤ a2 ∧ a2 < (6 : Nat)) ∧ ∀ s2, ev_up s 5 (Int.toNat a2) a3 = s2 → (∀ s3, ev_up s2 0 3 0 = s3 → Q (some (ev_i 1)) s3))))) :
    Ev layM M_X12_set (d + 1) 101 [(0, ev_r 0), (1, ev_i a1), (2, ev_i a2), (3, ev_i a3)] [] s Q := by
  refine Ev_iload_n 1 dX12_set_101 rfl rfl ?_
  refine Ev_iconst dX12_set_102 rfl (ev_Rc rfl) ?_
  refine Ev_icmp_ne (tgt := 113) dX12_set_103 rfl (fun c => ?_) (fun c => ?_)
  · replace h := h.1 c
    refine Ev_aload_n 0 dX12_set_113 rfl rfl ?_
    refine Ev_iconst dX12_set_114 rfl (ev_Rc rfl) ?_
    refine Ev_put (i := 3) (ty := .int) cl_X12 yM_0 (Nat.le_of_ble_eq_true rfl) rfl rfl (by decide +kernel) rfl rfl wd_1447 dX12_set_115 (Ev_nm (fun s1 es1 => ?_))
    replace h := h s1 es1
    refine Ev_iconst dX12_set_118 rfl (ev_Rc rfl) ?_
    exact Ev_iret rfl dX12_set_119 (ev_nb (by decide)) h
  · replace h := h.2 c
    refine Ev_aload_n 0 dX12_set_106 rfl rfl ?_
    refine Ev_getR (i := 13) cl_X12 yM_0 (Nat.le_of_ble_eq_true rfl) rfl wd_1457 dX12_set_107 ?_
    refine Ev_iload_n 2 dX12_set_110 rfl rfl ?_
    refine Ev_iload_n 3 dX12_set_111 rfl rfl ?_
    obtain ⟨h0, h⟩ := h
    refine Ev_iast yM_5 h0 dX12_set_112 (Ev_nm (fun s2 es2 => ?_))
    replace h := h s2 es2
    refine Ev_aload_n 0 dX12_set_113 rfl rfl ?_
    refine Ev_iconst dX12_set_114 rfl (ev_Rc rfl) ?_
    refine Ev_put (i := 3) (ty := .int) cl_X12 yM_0 (Nat.le_of_ble_eq_true rfl) rfl rfl (by decide +kernel) rfl rfl wd_1447 dX12_set_115 (Ev_nm (fun s3 es3 => ?_))
    replace h := h s3 es3
    refine Ev_iconst dX12_set_118 rfl (ev_Rc rfl) ?_
    exact Ev_iret rfl dX12_set_119 (ev_nb (by decide)) h
theorem dX12_ward_0 : decode cX12_ward 0 = .ok (.aload_n 0, 1) := by decide +kernel
theorem dX12_ward_1 : decode cX12_ward 1 = .ok (.iconst 0, 1) := by decide +kernel
theorem dX12_ward_2 : decode cX12_ward 2 = .ok (.putfield 124, 3) := by decide +kernel
theorem dX12_ward_5 : decode cX12_ward 5 = .ok (.aload_n 0, 1) := by decide +kernel
theorem dX12_ward_6 : decode cX12_ward 6 = .ok (.iload_n 1, 1) := by decide +kernel
theorem dX12_ward_7 : decode cX12_ward 7 = .ok (.invokevirtual 175, 3) := by decide +kernel
theorem dX12_ward_10 : decode cX12_ward 10 = .ok (.ifCond .eq 12, 3) := by decide +kernel
theorem dX12_ward_13 : decode cX12_ward 13 = .ok (.aload_n 0, 1) := by decide +kernel
theorem dX12_ward_14 : decode cX12_ward 14 = .ok (.getfield 145, 3) := by decide +kernel
theorem dX12_ward_17 : decode cX12_ward 17 = .ok (.bipush 8, 2) := by decide +kernel
theorem dX12_ward_19 : decode cX12_ward 19 = .ok (.if_icmp .ne 5, 3) := by decide +kernel
theorem dX12_ward_22 : decode cX12_ward 22 = .ok (.iconst (-1), 1) := by decide +kernel
theorem dX12_ward_23 : decode cX12_ward 23 = .ok (.ireturn, 1) := by decide +kernel
theorem dX12_ward_24 : decode cX12_ward 24 = .ok (.aload_n 0, 1) := by decide +kernel
theorem dX12_ward_25 : decode cX12_ward 25 = .ok (.getfield 7, 3) := by decide +kernel
theorem dX12_ward_28 : decode cX12_ward 28 = .ok (.iconst 3, 1) := by decide +kernel
theorem dX12_ward_29 : decode cX12_ward 29 = .ok (.aload_n 0, 1) := by decide +kernel
theorem dX12_ward_30 : decode cX12_ward 30 = .ok (.getfield 145, 3) := by decide +kernel
theorem dX12_ward_33 : decode cX12_ward 33 = .ok (.iadd, 1) := by decide +kernel
theorem dX12_ward_34 : decode cX12_ward 34 = .ok (.iload_n 1, 1) := by decide +kernel
theorem dX12_ward_35 : decode cX12_ward 35 = .ok (.iastore, 1) := by decide +kernel
theorem dX12_ward_36 : decode cX12_ward 36 = .ok (.aload_n 0, 1) := by decide +kernel
theorem dX12_ward_37 : decode cX12_ward 37 = .ok (.getfield 7, 3) := by decide +kernel
theorem dX12_ward_40 : decode cX12_ward 40 = .ok (.bipush 11, 2) := by decide +kernel
theorem dX12_ward_42 : decode cX12_ward 42 = .ok (.aload_n 0, 1) := by decide +kernel
theorem dX12_ward_43 : decode cX12_ward 43 = .ok (.getfield 145, 3) := by decide +kernel
theorem dX12_ward_46 : decode cX12_ward 46 = .ok (.iadd, 1) := by decide +kernel
theorem dX12_ward_47 : decode cX12_ward 47 = .ok (.iconst 0, 1) := by decide +kernel
theorem dX12_ward_48 : decode cX12_ward 48 = .ok (.iastore, 1) := by decide +kernel
theorem dX12_ward_49 : decode cX12_ward 49 = .ok (.aload_n 0, 1) := by decide +kernel
theorem dX12_ward_50 : decode cX12_ward 50 = .ok (.getfield 7, 3) := by decide +kernel
theorem dX12_ward_53 : decode cX12_ward 53 = .ok (.bipush 19, 2) := by decide +kernel
theorem dX12_ward_55 : decode cX12_ward 55 = .ok (.aload_n 0, 1) := by decide +kernel
theorem dX12_ward_56 : decode cX12_ward 56 = .ok (.getfield 145, 3) := by decide +kernel
theorem dX12_ward_59 : decode cX12_ward 59 = .ok (.iadd, 1) := by decide +kernel
theorem dX12_ward_60 : decode cX12_ward 60 = .ok (.iconst 0, 1) := by decide +kernel
theorem dX12_ward_61 : decode cX12_ward 61 = .ok (.iastore, 1) := by decide +kernel
theorem dX12_ward_62 : decode cX12_ward 62 = .ok (.aload_n 0, 1) := by decide +kernel
theorem dX12_ward_63 : decode cX12_ward 63 = .ok (.getfield 74, 3) := by decide +kernel
theorem dX12_ward_66 : decode cX12_ward 66 = .ok (.aload_n 0, 1) := by decide +kernel
theorem dX12_ward_67 : decode cX12_ward 67 = .ok (.getfield 145, 3) := by decide +kernel
theorem dX12_ward_70 : decode cX12_ward 70 = .ok (.iconst 0, 1) := by decide +kernel
theorem dX12_ward_71 : decode cX12_ward 71 = .ok (.iastore, 1) := by decide +kernel
theorem dX12_ward_72 : decode cX12_ward 72 = .ok (.aload_n 0, 1) := by decide +kernel
theorem dX12_ward_73 : decode cX12_ward 73 = .ok (.aload_n 0, 1) := by decide +kernel
theorem dX12_ward_74 : decode cX12_ward 74 = .ok (.getfield 145, 3) := by decide +kernel
theorem dX12_ward_77 : decode cX12_ward 77 = .ok (.iconst 1, 1) := by decide +kernel
theorem dX12_ward_78 : decode cX12_ward 78 = .ok (.iadd, 1) := by decide +kernel
theorem dX12_ward_79 : decode cX12_ward 79 = .ok (.putfield 145, 3) := by decide +kernel
theorem dX12_ward_82 : decode cX12_ward 82 = .ok (.aload_n 0, 1) := by decide +kernel
theorem dX12_ward_83 : decode cX12_ward 83 = .ok (.iconst 0, 1) := by decide +kernel
theorem dX12_ward_84 : decode cX12_ward 84 = .ok (.putfield 127, 3) := by decide +kernel
theorem dX12_ward_87 : decode cX12_ward 87 = .ok (.aload_n 0, 1) := by decide +kernel
theorem dX12_ward_88 : decode cX12_ward 88 = .ok (.getfield 145, 3) := by decide +kernel
theorem dX12_ward_91 : decode cX12_ward 91 = .ok (.iconst 1, 1) := by decide +kernel
theorem dX12_ward_92 : decode cX12_ward 92 = .ok (.isub, 1) := by decide +kernel
theorem dX12_ward_93 : decode cX12_ward 93 = .ok (.ireturn, 1) := by decide +kernel
theorem wp_X12_ward_0 {d : Nat} {s : ev_S} {Q : Option ev_V → ev_S → Prop} {a1 : Int}
    (h : (∀ s1, ev_up s 0 0 0 = s1 → (Ev layM M_X12_isPlace d 0 [(0, ev_r 0), (1, ev_i a1)] [] s1 (ev_pi (fun r3 s2 => ((r3 = 0 → Q (some (ev_i (-1))) s2) ∧ (r3 ≠ 0 → (((s2 0 10) ≠ 8 → ((0 ≤ (ev_add 3 (s2 0 10)) ∧ (ev_add 3 (s2 0 10)) < (87 : Nat)) ∧ ∀ s4, ev_up s2 1 (Int.toNat (ev_add 3 (s2 0 10))) a1 = s4 → ((0 ≤ (ev_add 11 (s4 0 10)) ∧ (ev_add 11 (s4 0 10)) < (87 : Nat)) ∧ ∀ s5, ev_up s4 1 (Int.toNat (ev_add 11 (s4 0 10))) 0 = s5 → ((0 ≤ (ev_add 19 (s5 0 10)) ∧ (ev_add 19 (s5 0 10)) < (87 : Nat)) ∧ ∀ s6, ev_up s5 1 (Int.toNat (ev_add 19 (s5 0 10))) 0 = s6 → ((0 ≤ (s6 0 10) ∧ (s6 0 10) < (8 : Nat)) ∧ ∀ s7, ev_up s6 21 (Int.toNat (s6 0 10)) 0 = s7 → (∀ s8, ev_up s7 0 10 (ev_add (s7 0 10) 1) = s8 → (∀ s9, ev_up s8 0 3 0 = s9 → Q (some (ev_i (ev_sub (s9 0 10) 1))) s9))))))) ∧ ((s2 0 10) = 8 → Q (some (ev_i (-1))) s2))))))))) :
    Ev layM M_X12_ward (d + 1) 0 [(0, ev_r 0), (1, ev_i a1)] [] s Q := by
  refine Ev_aload_n 0 dX12_ward_0 rfl rfl ?_
  refine Ev_iconst dX12_ward_1 rfl (ev_Rc rfl) ?_
  refine Ev_put (i := 0) (ty := .int) cl_X12 yM_0 (Nat.le_of_ble_eq_true rfl) rfl rfl (by decide +kernel) rfl rfl wd_1444 dX12_ward_2 (Ev_nm (fun s1 es1 => ?_))
  replace h := h s1 es1
  refine Ev_aload_n 0 dX12_ward_5 rfl rfl ?_
  refine Ev_iload_n 1 dX12_ward_6 rfl rfl ?_
  refine Ev_callV (As := [ev_i a1]) (b := 0) (st := []) (M' := M_X12_isPlace) cm_X12_isPlace wd_1666 wd_1668 wd_72 yM_0 cl_X12 rfl dX12_ward_7 (Nat.le_refl _) rfl (Nat.le_of_ble_eq_true rfl) (Nat.le_of_ble_eq_true rfl) h (fun v u h hk => ?_)
  obtain ⟨r3, rfl⟩ := hk
  obtain ⟨s2, rfl⟩ : ∃ x, x = u := ⟨_, rfl⟩
  replace h := h r3 rfl
  refine Ev_if_eq (tgt := 22) dX12_ward_10 rfl (fun c => ?_) (fun c => ?_)
  · replace h := h.1 c
    refine Ev_iconst dX12_ward_22 rfl (ev_Rc rfl) ?_
    exact Ev_iret rfl dX12_ward_23 rfl h
  · replace h := h.2 c
    refine Ev_aload_n 0 dX12_ward_13 rfl rfl ?_
    refine Ev_get (i := 10) cl_X12 yM_0 (Nat.le_of_ble_eq_true rfl) rfl wd_1454 dX12_ward_14 ?_
    refine Ev_bipushC dX12_ward_17 rfl ?_
    refine Ev_icmp_ne (tgt := 24) dX12_ward_19 rfl (fun c => ?_) (fun c => ?_)
    · replace h := h.1 c
      refine Ev_aload_n 0 dX12_ward_24 rfl rfl ?_
      refine Ev_getR (i := 1) cl_X12 yM_0 (Nat.le_of_ble_eq_true rfl) rfl wd_1445 dX12_ward_25 ?_
      refine Ev_iconst dX12_ward_28 rfl (ev_Rc rfl) ?_
      refine Ev_aload_n 0 dX12_ward_29 rfl rfl ?_
      refine Ev_get (i := 10) cl_X12 yM_0 (Nat.le_of_ble_eq_true rfl) rfl wd_1454 dX12_ward_30 ?_
      refine Ev_iadd dX12_ward_33 ?_
      refine Ev_iload_n 1 dX12_ward_34 rfl rfl ?_
      obtain ⟨h0, h⟩ := h
      refine Ev_iast yM_1 h0 dX12_ward_35 (Ev_nm (fun s4 es4 => ?_))
      replace h := h s4 es4
      refine Ev_aload_n 0 dX12_ward_36 rfl rfl ?_
      refine Ev_getR (i := 1) cl_X12 yM_0 (Nat.le_of_ble_eq_true rfl) rfl wd_1445 dX12_ward_37 ?_
      refine Ev_bipushC dX12_ward_40 rfl ?_
      refine Ev_aload_n 0 dX12_ward_42 rfl rfl ?_
      refine Ev_get (i := 10) cl_X12 yM_0 (Nat.le_of_ble_eq_true rfl) rfl wd_1454 dX12_ward_43 ?_
      refine Ev_iadd dX12_ward_46 ?_
      refine Ev_iconst dX12_ward_47 rfl (ev_Rc rfl) ?_
      obtain ⟨h0, h⟩ := h
      refine Ev_iast yM_1 h0 dX12_ward_48 (Ev_nm (fun s5 es5 => ?_))
      replace h := h s5 es5
      refine Ev_aload_n 0 dX12_ward_49 rfl rfl ?_
      refine Ev_getR (i := 1) cl_X12 yM_0 (Nat.le_of_ble_eq_true rfl) rfl wd_1445 dX12_ward_50 ?_
      refine Ev_bipushC dX12_ward_53 rfl ?_
      refine Ev_aload_n 0 dX12_ward_55 rfl rfl ?_
      refine Ev_get (i := 10) cl_X12 yM_0 (Nat.le_of_ble_eq_true rfl) rfl wd_1454 dX12_ward_56 ?_
      refine Ev_iadd dX12_ward_59 ?_
      refine Ev_iconst dX12_ward_60 rfl (ev_Rc rfl) ?_
      obtain ⟨h0, h⟩ := h
      refine Ev_iast yM_1 h0 dX12_ward_61 (Ev_nm (fun s6 es6 => ?_))
      replace h := h s6 es6
      refine Ev_aload_n 0 dX12_ward_62 rfl rfl ?_
      refine Ev_getR (i := 43) cl_X12 yM_0 (Nat.le_of_ble_eq_true rfl) rfl wd_1487 dX12_ward_63 ?_
      refine Ev_aload_n 0 dX12_ward_66 rfl rfl ?_
      refine Ev_get (i := 10) cl_X12 yM_0 (Nat.le_of_ble_eq_true rfl) rfl wd_1454 dX12_ward_67 ?_
      refine Ev_iconst dX12_ward_70 rfl (ev_Rc rfl) ?_
      obtain ⟨h0, h⟩ := h
      refine Ev_iast yM_21 h0 dX12_ward_71 (Ev_nm (fun s7 es7 => ?_))
      replace h := h s7 es7
      refine Ev_aload_n 0 dX12_ward_72 rfl rfl ?_
      refine Ev_aload_n 0 dX12_ward_73 rfl rfl ?_
      refine Ev_get (i := 10) cl_X12 yM_0 (Nat.le_of_ble_eq_true rfl) rfl wd_1454 dX12_ward_74 ?_
      refine Ev_iconst dX12_ward_77 rfl (ev_Rc rfl) ?_
      refine Ev_iadd dX12_ward_78 ?_
      refine Ev_put (i := 10) (ty := .int) cl_X12 yM_0 (Nat.le_of_ble_eq_true rfl) rfl rfl (by decide +kernel) rfl rfl wd_1454 dX12_ward_79 (Ev_nm (fun s8 es8 => ?_))
      replace h := h s8 es8
      refine Ev_aload_n 0 dX12_ward_82 rfl rfl ?_
      refine Ev_iconst dX12_ward_83 rfl (ev_Rc rfl) ?_
      refine Ev_put (i := 3) (ty := .int) cl_X12 yM_0 (Nat.le_of_ble_eq_true rfl) rfl rfl (by decide +kernel) rfl rfl wd_1447 dX12_ward_84 (Ev_nm (fun s9 es9 => ?_))
      replace h := h s9 es9
      refine Ev_aload_n 0 dX12_ward_87 rfl rfl ?_
      refine Ev_get (i := 10) cl_X12 yM_0 (Nat.le_of_ble_eq_true rfl) rfl wd_1454 dX12_ward_88 ?_
      refine Ev_iconst dX12_ward_91 rfl (ev_Rc rfl) ?_
      refine Ev_isub dX12_ward_92 ?_
      exact Ev_iret rfl dX12_ward_93 rfl h
    · replace h := h.2 c
      refine Ev_iconst dX12_ward_22 rfl (ev_Rc rfl) ?_
      exact Ev_iret rfl dX12_ward_23 rfl h
theorem dX12_angel_0 : decode cX12_angel 0 = .ok (.aload_n 0, 1) := by decide +kernel
theorem dX12_angel_1 : decode cX12_angel 1 = .ok (.iconst 0, 1) := by decide +kernel
theorem dX12_angel_2 : decode cX12_angel 2 = .ok (.putfield 124, 3) := by decide +kernel
theorem dX12_angel_5 : decode cX12_angel 5 = .ok (.aload_n 0, 1) := by decide +kernel
theorem dX12_angel_6 : decode cX12_angel 6 = .ok (.iload_n 1, 1) := by decide +kernel
theorem dX12_angel_7 : decode cX12_angel 7 = .ok (.invokevirtual 175, 3) := by decide +kernel
theorem dX12_angel_10 : decode cX12_angel 10 = .ok (.ifCond .eq 23, 3) := by decide +kernel
theorem dX12_angel_13 : decode cX12_angel 13 = .ok (.aload_n 0, 1) := by decide +kernel
theorem dX12_angel_14 : decode cX12_angel 14 = .ok (.iload_n 2, 1) := by decide +kernel
theorem dX12_angel_15 : decode cX12_angel 15 = .ok (.iconst 1, 1) := by decide +kernel
theorem dX12_angel_16 : decode cX12_angel 16 = .ok (.bipush 9, 2) := by decide +kernel
theorem dX12_angel_18 : decode cX12_angel 18 = .ok (.invokevirtual 158, 3) := by decide +kernel
theorem dX12_angel_21 : decode cX12_angel 21 = .ok (.ifCond .eq 12, 3) := by decide +kernel
theorem dX12_angel_24 : decode cX12_angel 24 = .ok (.aload_n 0, 1) := by decide +kernel
theorem dX12_angel_25 : decode cX12_angel 25 = .ok (.getfield 148, 3) := by decide +kernel
theorem dX12_angel_28 : decode cX12_angel 28 = .ok (.bipush 6, 2) := by decide +kernel
theorem dX12_angel_30 : decode cX12_angel 30 = .ok (.if_icmp .ne 5, 3) := by decide +kernel
theorem dX12_angel_33 : decode cX12_angel 33 = .ok (.iconst (-1), 1) := by decide +kernel
theorem dX12_angel_34 : decode cX12_angel 34 = .ok (.ireturn, 1) := by decide +kernel
theorem dX12_angel_35 : decode cX12_angel 35 = .ok (.aload_n 0, 1) := by decide +kernel
theorem dX12_angel_36 : decode cX12_angel 36 = .ok (.getfield 7, 3) := by decide +kernel
theorem dX12_angel_39 : decode cX12_angel 39 = .ok (.bipush 27, 2) := by decide +kernel
theorem dX12_angel_41 : decode cX12_angel 41 = .ok (.aload_n 0, 1) := by decide +kernel
theorem dX12_angel_42 : decode cX12_angel 42 = .ok (.getfield 148, 3) := by decide +kernel
theorem dX12_angel_45 : decode cX12_angel 45 = .ok (.iadd, 1) := by decide +kernel
theorem dX12_angel_46 : decode cX12_angel 46 = .ok (.iload_n 1, 1) := by decide +kernel
theorem dX12_angel_47 : decode cX12_angel 47 = .ok (.iastore, 1) := by decide +kernel
theorem dX12_angel_48 : decode cX12_angel 48 = .ok (.aload_n 0, 1) := by decide +kernel
theorem dX12_angel_49 : decode cX12_angel 49 = .ok (.getfield 7, 3) := by decide +kernel
theorem dX12_angel_52 : decode cX12_angel 52 = .ok (.bipush 33, 2) := by decide +kernel
theorem dX12_angel_54 : decode cX12_angel 54 = .ok (.aload_n 0, 1) := by decide +kernel
theorem dX12_angel_55 : decode cX12_angel 55 = .ok (.getfield 148, 3) := by decide +kernel
theorem dX12_angel_58 : decode cX12_angel 58 = .ok (.iadd, 1) := by decide +kernel
theorem dX12_angel_59 : decode cX12_angel 59 = .ok (.iconst 0, 1) := by decide +kernel
theorem dX12_angel_60 : decode cX12_angel 60 = .ok (.iastore, 1) := by decide +kernel
theorem dX12_angel_61 : decode cX12_angel 61 = .ok (.aload_n 0, 1) := by decide +kernel
theorem dX12_angel_62 : decode cX12_angel 62 = .ok (.getfield 7, 3) := by decide +kernel
theorem dX12_angel_65 : decode cX12_angel 65 = .ok (.bipush 39, 2) := by decide +kernel
theorem dX12_angel_67 : decode cX12_angel 67 = .ok (.aload_n 0, 1) := by decide +kernel
theorem dX12_angel_68 : decode cX12_angel 68 = .ok (.getfield 148, 3) := by decide +kernel
theorem dX12_angel_71 : decode cX12_angel 71 = .ok (.iadd, 1) := by decide +kernel
theorem dX12_angel_72 : decode cX12_angel 72 = .ok (.iconst 0, 1) := by decide +kernel
theorem dX12_angel_73 : decode cX12_angel 73 = .ok (.iastore, 1) := by decide +kernel
theorem dX12_angel_74 : decode cX12_angel 74 = .ok (.aload_n 0, 1) := by decide +kernel
theorem dX12_angel_75 : decode cX12_angel 75 = .ok (.getfield 7, 3) := by decide +kernel
theorem dX12_angel_78 : decode cX12_angel 78 = .ok (.bipush 45, 2) := by decide +kernel
theorem dX12_angel_80 : decode cX12_angel 80 = .ok (.aload_n 0, 1) := by decide +kernel
theorem dX12_angel_81 : decode cX12_angel 81 = .ok (.getfield 148, 3) := by decide +kernel
theorem dX12_angel_84 : decode cX12_angel 84 = .ok (.iadd, 1) := by decide +kernel
theorem dX12_angel_85 : decode cX12_angel 85 = .ok (.iconst 0, 1) := by decide +kernel
theorem dX12_angel_86 : decode cX12_angel 86 = .ok (.iastore, 1) := by decide +kernel
theorem dX12_angel_87 : decode cX12_angel 87 = .ok (.aload_n 0, 1) := by decide +kernel
theorem dX12_angel_88 : decode cX12_angel 88 = .ok (.getfield 7, 3) := by decide +kernel
theorem dX12_angel_91 : decode cX12_angel 91 = .ok (.bipush 51, 2) := by decide +kernel
theorem dX12_angel_93 : decode cX12_angel 93 = .ok (.aload_n 0, 1) := by decide +kernel
theorem dX12_angel_94 : decode cX12_angel 94 = .ok (.getfield 148, 3) := by decide +kernel
theorem dX12_angel_97 : decode cX12_angel 97 = .ok (.iadd, 1) := by decide +kernel
theorem dX12_angel_98 : decode cX12_angel 98 = .ok (.iconst 0, 1) := by decide +kernel
theorem dX12_angel_99 : decode cX12_angel 99 = .ok (.iastore, 1) := by decide +kernel
theorem dX12_angel_100 : decode cX12_angel 100 = .ok (.aload_n 0, 1) := by decide +kernel
theorem dX12_angel_101 : decode cX12_angel 101 = .ok (.getfield 22, 3) := by decide +kernel
theorem dX12_angel_104 : decode cX12_angel 104 = .ok (.aload_n 0, 1) := by decide +kernel
theorem dX12_angel_105 : decode cX12_angel 105 = .ok (.getfield 148, 3) := by decide +kernel
theorem dX12_angel_108 : decode cX12_angel 108 = .ok (.iload_n 2, 1) := by decide +kernel
theorem dX12_angel_109 : decode cX12_angel 109 = .ok (.iastore, 1) := by decide +kernel
theorem dX12_angel_110 : decode cX12_angel 110 = .ok (.aload_n 0, 1) := by decide +kernel
theorem dX12_angel_111 : decode cX12_angel 111 = .ok (.getfield 92, 3) := by decide +kernel
theorem dX12_angel_114 : decode cX12_angel 114 = .ok (.aload_n 0, 1) := by decide +kernel
theorem dX12_angel_115 : decode cX12_angel 115 = .ok (.getfield 148, 3) := by decide +kernel
theorem dX12_angel_118 : decode cX12_angel 118 = .ok (.iconst 0, 1) := by decide +kernel
theorem dX12_angel_119 : decode cX12_angel 119 = .ok (.iastore, 1) := by decide +kernel
theorem dX12_angel_120 : decode cX12_angel 120 = .ok (.aload_n 0, 1) := by decide +kernel
theorem dX12_angel_121 : decode cX12_angel 121 = .ok (.aload_n 0, 1) := by decide +kernel
theorem dX12_angel_122 : decode cX12_angel 122 = .ok (.getfield 148, 3) := by decide +kernel
theorem dX12_angel_125 : decode cX12_angel 125 = .ok (.iconst 1, 1) := by decide +kernel
theorem dX12_angel_126 : decode cX12_angel 126 = .ok (.iadd, 1) := by decide +kernel
theorem dX12_angel_127 : decode cX12_angel 127 = .ok (.putfield 148, 3) := by decide +kernel
theorem dX12_angel_130 : decode cX12_angel 130 = .ok (.aload_n 0, 1) := by decide +kernel
theorem dX12_angel_131 : decode cX12_angel 131 = .ok (.iconst 0, 1) := by decide +kernel
theorem dX12_angel_132 : decode cX12_angel 132 = .ok (.putfield 127, 3) := by decide +kernel
theorem dX12_angel_135 : decode cX12_angel 135 = .ok (.aload_n 0, 1) := by decide +kernel
theorem dX12_angel_136 : decode cX12_angel 136 = .ok (.getfield 148, 3) := by decide +kernel
theorem dX12_angel_139 : decode cX12_angel 139 = .ok (.iconst 1, 1) := by decide +kernel
theorem dX12_angel_140 : decode cX12_angel 140 = .ok (.isub, 1) := by decide +kernel
theorem dX12_angel_141 : decode cX12_angel 141 = .ok (.ireturn, 1) := by decide +kernel
theorem wp_X12_angel_0 {d : Nat} {s : ev_S} {Q : Option ev_V → ev_S → Prop} {a1 a2 : Int}
    (h : (∀ s1, ev_up s 0 0 0 = s1 → (Ev layM M_X12_isPlace d 0 [(0, ev_r 0), (1, ev_i a1)] [] s1 (ev_pi (fun r3 s2 => ((r3 = 0 → Q (some (ev_i (-1))) s2) ∧ (r3 ≠ 0 → (Ev layM M_X12_isIn d 0 [(0, ev_r 0), (1, ev_i a2), (2, ev_i 1), (3, ev_i 9)] [] s2 (ev_pi (fun r5 s4 => ((r5 = 0 → Q (some (ev_i (-1))) s4) ∧ (r5 ≠ 0 → (((s4 0 11) ≠ 6 → ((0 ≤ (ev_add 27 (s4 0 11)) ∧ (ev_add 27 (s4 0 11)) < (87 : Nat)) ∧ ∀ s6, ev_up s4 1 (Int.toNat (ev_add 27 (s4 0 11))) a1 = s6 → ((0 ≤ (ev_add 33 (s6 0 11)) ∧ (ev_add 33 (s6 0 11)) < (87 : Nat)) ∧ ∀ s7, ev_up s6 1 (Int.toNat (ev_add 33 (s6 0 11))) 0 = s7 → ((0 ≤ (ev_add 39 (s7 0 11)) ∧ (ev_add 39 (s7 0 11)) < (87 : Nat)) ∧ ∀ s8, ev_up s7 1 (Int.toNat (ev_add 39 (s7 0 11))) 0 = s8 → ((0 ≤ (ev_add 45 (s8 0 11)) ∧ (ev_add 45 (s8 0 11)) < (87 : Nat)) ∧ ∀ s9, ev_up s8 1 (Int.toNat (ev_add 45 (s8 0 11))) 0 = s9 → ((0 ≤ (ev_add 51 (s9 0 11)) ∧ (ev_add 51 (s9 0 11)) < (87 : Nat)) ∧ ∀ s10, ev_up s9 1 (Int.toNat (ev_add 51 (s9 0 11))) 0 = s10 → ((0 ≤ (s10 0 11) ∧ (s10 0 11) < (6 : Nat)) ∧ ∀ s11, ev_up s10 5 (Int.toNat (s10 0 11)) a2 = s11 → ((0 ≤ (s11 0 11) ∧ (s11 0 11) < (6 : Nat)) ∧ ∀ s12, ev_up s11 27 (Int.toNat (s11 0 11)) 0 = s12 → (∀ s13, ev_up s12 0 11 (ev_add (s12 0 11) 1) = s13 → (∀ s14, ev_up s13 0 3 0 = s14 → Q (some (ev_i (ev_sub (s14 0 11) 1))) s14)))))))))) ∧ ((s4 0 11) = 6 → Q (some (ev_i (-1))) s4)))))))))))))) :
    Ev layM M_X12_angel (d + 1) 0 [(0, ev_r 0), (1, ev_i a1), (2, ev_i a2)] [] s Q := by
  refine Ev_aload_n 0 dX12_angel_0 rfl rfl ?_
  refine Ev_iconst dX12_angel_1 rfl (ev_Rc rfl) ?_
  refine Ev_put (i := 0) (ty := .int) cl_X12 yM_0 (Nat.le_of_ble_eq_true rfl) rfl rfl (by decide +kernel) rfl rfl wd_1444 dX12_angel_2 (Ev_nm (fun s1 es1 => ?_))
  replace h := h s1 es1
  refine Ev_aload_n 0 dX12_angel_5 rfl rfl ?_
  refine Ev_iload_n 1 dX12_angel_6 rfl rfl ?_
  refine Ev_callV (As := [ev_i a1]) (b := 0) (st := []) (M' := M_X12_isPlace) cm_X12_isPlace wd_1666 wd_1668 wd_72 yM_0 cl_X12 rfl dX12_angel_7 (Nat.le_refl _) rfl (Nat.le_of_ble_eq_true rfl) (Nat.le_of_ble_eq_true rfl) h (fun v u h hk => ?_)
  obtain ⟨r3, rfl⟩ := hk
  obtain ⟨s2, rfl⟩ : ∃ x, x = u := ⟨_, rfl⟩
  replace h := h r3 rfl
  refine Ev_if_eq (tgt := 33) dX12_angel_10 rfl (fun c => ?_) (fun c => ?_)
  · replace h := h.1 c
    refine Ev_iconst dX12_angel_33 rfl (ev_Rc rfl) ?_
    exact Ev_iret rfl dX12_angel_34 rfl h
  · replace h := h.2 c
    refine Ev_aload_n 0 dX12_angel_13 rfl rfl ?_
    refine Ev_iload_n 2 dX12_angel_14 rfl rfl ?_
    refine Ev_iconst dX12_angel_15 rfl (ev_Rc rfl) ?_
    refine Ev_bipushC dX12_angel_16 rfl ?_
    refine Ev_callV (As := [ev_i a2, ev_i 1, ev_i 9]) (b := 0) (st := []) (M' := M_X12_isIn) cm_X12_isIn wd_1650 wd_1652 wd_70 yM_0 cl_X12 rfl dX12_angel_18 (Nat.le_refl _) rfl (Nat.le_of_ble_eq_true rfl) (Nat.le_of_ble_eq_true rfl) h (fun v u h hk => ?_)
    obtain ⟨r5, rfl⟩ := hk
    obtain ⟨s4, rfl⟩ : ∃ x, x = u := ⟨_, rfl⟩
    replace h := h r5 rfl
    refine Ev_if_eq (tgt := 33) dX12_angel_21 rfl (fun c => ?_) (fun c => ?_)
    · replace h := h.1 c
      refine Ev_iconst dX12_angel_33 rfl (ev_Rc rfl) ?_
      exact Ev_iret rfl dX12_angel_34 rfl h
    · replace h := h.2 c
      refine Ev_aload_n 0 dX12_angel_24 rfl rfl ?_
      refine Ev_get (i := 11) cl_X12 yM_0 (Nat.le_of_ble_eq_true rfl) rfl wd_1455 dX12_angel_25 ?_
      refine Ev_bipushC dX12_angel_28 rfl ?_
      refine Ev_icmp_ne (tgt := 35) dX12_angel_30 rfl (fun c => ?_) (fun c => ?_)
      · replace h := h.1 c
        refine Ev_aload_n 0 dX12_angel_35 rfl rfl ?_
        refine Ev_getR (i := 1) cl_X12 yM_0 (Nat.le_of_ble_eq_true rfl) rfl wd_1445 dX12_angel_36 ?_
        refine Ev_bipushC dX12_angel_39 rfl ?_
        refine Ev_aload_n 0 dX12_angel_41 rfl rfl ?_
        refine Ev_get (i := 11) cl_X12 yM_0 (Nat.le_of_ble_eq_true rfl) rfl wd_1455 dX12_angel_42 ?_
        refine Ev_iadd dX12_angel_45 ?_
        refine Ev_iload_n 1 dX12_angel_46 rfl rfl ?_
        obtain ⟨h0, h⟩ := h
        refine Ev_iast yM_1 h0 dX12_angel_47 (Ev_nm (fun s6 es6 => ?_))
        replace h := h s6 es6
        refine Ev_aload_n 0 dX12_angel_48 rfl rfl ?_
        refine Ev_getR (i := 1) cl_X12 yM_0 (Nat.le_of_ble_eq_true rfl) rfl wd_1445 dX12_angel_49 ?_
        refine Ev_bipushC dX12_angel_52 rfl ?_
        refine Ev_aload_n 0 dX12_angel_54 rfl rfl ?_
        refine Ev_get (i := 11) cl_X12 yM_0 (Nat.le_of_ble_eq_true rfl) rfl wd_1455 dX12_angel_55 ?_
        refine Ev_iadd dX12_angel_58 ?_
        refine Ev_iconst dX12_angel_59 rfl (ev_Rc rfl) ?_
        obtain ⟨h0, h⟩ := h
        refine Ev_iast yM_1 h0 dX12_angel_60 (Ev_nm (fun s7 es7 => ?_))
        replace h := h s7 es7
        refine Ev_aload_n 0 dX12_angel_61 rfl rfl ?_
        refine Ev_getR (i := 1) cl_X12 yM_0 (Nat.le_of_ble_eq_true rfl) rfl wd_1445 dX12_angel_62 ?_
        refine Ev_bipushC dX12_angel_65 rfl ?_
        refine Ev_aload_n 0 dX12_angel_67 rfl rfl ?_
        refine Ev_get (i := 11) cl_X12 yM_0 (Nat.le_of_ble_eq_true rfl) rfl wd_1455 dX12_angel_68 ?_
        refine Ev_iadd dX12_angel_71 ?_
        refine Ev_iconst dX12_angel_72 rfl (ev_Rc rfl) ?_
        obtain ⟨h0, h⟩ := h
        refine Ev_iast yM_1 h0 dX12_angel_73 (Ev_nm (fun s8 es8 => ?_))
        replace h := h s8 es8
        refine Ev_aload_n 0 dX12_angel_74 rfl rfl ?_
        refine Ev_getR (i := 1) cl_X12 yM_0 (Nat.le_of_ble_eq_true rfl) rfl wd_1445 dX12_angel_75 ?_
        refine Ev_bipushC dX12_angel_78 rfl ?_
        refine Ev_aload_n 0 dX12_angel_80 rfl rfl ?_
        refine Ev_get (i := 11) cl_X12 yM_0 (Nat.le_of_ble_eq_true rfl) rfl wd_1455 dX12_angel_81 ?_
        refine Ev_iadd dX12_angel_84 ?_
        refine Ev_iconst dX12_angel_85 rfl (ev_Rc rfl) ?_
        obtain ⟨h0, h⟩ := h
        refine Ev_iast yM_1 h0 dX12_angel_86 (Ev_nm (fun s9 es9 => ?_))
        replace h := h s9 es9
        refine Ev_aload_n 0 dX12_angel_87 rfl rfl ?_
        refine Ev_getR (i := 1) cl_X12 yM_0 (Nat.le_of_ble_eq_true rfl) rfl wd_1445 dX12_angel_88 ?_
        refine Ev_bipushC dX12_angel_91 rfl ?_
        refine Ev_aload_n 0 dX12_angel_93 rfl rfl ?_
        refine Ev_get (i := 11) cl_X12 yM_0 (Nat.le_of_ble_eq_true rfl) rfl wd_1455 dX12_angel_94 ?_
        refine Ev_iadd dX12_angel_97 ?_
        refine Ev_iconst dX12_angel_98 rfl (ev_Rc rfl) ?_
        obtain ⟨h0, h⟩ := h
        refine Ev_iast yM_1 h0 dX12_angel_99 (Ev_nm (fun s10 es10 => ?_))
        replace h := h s10 es10
        refine Ev_aload_n 0 dX12_angel_100 rfl rfl ?_
        refine Ev_getR (i := 13) cl_X12 yM_0 (Nat.le_of_ble_eq_true rfl) rfl wd_1457 dX12_angel_101 ?_
        refine Ev_aload_n 0 dX12_angel_104 rfl rfl ?_
        refine Ev_get (i := 11) cl_X12 yM_0 (Nat.le_of_ble_eq_true rfl) rfl wd_1455 dX12_angel_105 ?_
        refine Ev_iload_n 2 dX12_angel_108 rfl rfl ?_
        obtain ⟨h0, h⟩ := h
        refine Ev_iast yM_5 h0 dX12_angel_109 (Ev_nm (fun s11 es11 => ?_))
        replace h := h s11 es11
        refine Ev_aload_n 0 dX12_angel_110 rfl rfl ?_
        refine Ev_getR (i := 50) cl_X12 yM_0 (Nat.le_of_ble_eq_true rfl) rfl wd_1494 dX12_angel_111 ?_
        refine Ev_aload_n 0 dX12_angel_114 rfl rfl ?_
        refine Ev_get (i := 11) cl_X12 yM_0 (Nat.le_of_ble_eq_true rfl) rfl wd_1455 dX12_angel_115 ?_
        refine Ev_iconst dX12_angel_118 rfl (ev_Rc rfl) ?_
        obtain ⟨h0, h⟩ := h
        refine Ev_iast yM_27 h0 dX12_angel_119 (Ev_nm (fun s12 es12 => ?_))
        replace h := h s12 es12
        refine Ev_aload_n 0 dX12_angel_120 rfl rfl ?_
        refine Ev_aload_n 0 dX12_angel_121 rfl rfl ?_
        refine Ev_get (i := 11) cl_X12 yM_0 (Nat.le_of_ble_eq_true rfl) rfl wd_1455 dX12_angel_122 ?_
        refine Ev_iconst dX12_angel_125 rfl (ev_Rc rfl) ?_
        refine Ev_iadd dX12_angel_126 ?_
        refine Ev_put (i := 11) (ty := .int) cl_X12 yM_0 (Nat.le_of_ble_eq_true rfl) rfl rfl (by decide +kernel) rfl rfl wd_1455 dX12_angel_127 (Ev_nm (fun s13 es13 => ?_))
        replace h := h s13 es13
        refine Ev_aload_n 0 dX12_angel_130 rfl rfl ?_
        refine Ev_iconst dX12_angel_131 rfl (ev_Rc rfl) ?_
        refine Ev_put (i := 3) (ty := .int) cl_X12 yM_0 (Nat.le_of_ble_eq_true rfl) rfl rfl (by decide +kernel) rfl rfl wd_1447 dX12_angel_132 (Ev_nm (fun s14 es14 => ?_))
        replace h := h s14 es14
        refine Ev_aload_n 0 dX12_angel_135 rfl rfl ?_
        refine Ev_get (i := 11) cl_X12 yM_0 (Nat.le_of_ble_eq_true rfl) rfl wd_1455 dX12_angel_136 ?_
        refine Ev_iconst dX12_angel_139 rfl (ev_Rc rfl) ?_
        refine Ev_isub dX12_angel_140 ?_
        exact Ev_iret rfl dX12_angel_141 rfl h
      · replace h := h.2 c
        refine Ev_iconst dX12_angel_33 rfl (ev_Rc rfl) ?_
        exact Ev_iret rfl dX12_angel_34 rfl h
theorem dX12_other_0 : decode cX12_other 0 = .ok (.aload_n 0, 1) := by decide +kernel
theorem dX12_other_1 : decode cX12_other 1 = .ok (.iconst 0, 1) := by decide +kernel
theorem dX12_other_2 : decode cX12_other 2 = .ok (.putfield 124, 3) := by decide +kernel
theorem dX12_other_5 : decode cX12_other 5 = .ok (.aload_n 0, 1) := by decide +kernel
theorem dX12_other_6 : decode cX12_other 6 = .ok (.iload_n 1, 1) := by decide +kernel
theorem dX12_other_7 : decode cX12_other 7 = .ok (.invokevirtual 175, 3) := by decide +kernel
theorem dX12_other_10 : decode cX12_other 10 = .ok (.ifCond .eq 36, 3) := by decide +kernel
theorem dX12_other_13 : decode cX12_other 13 = .ok (.aload_n 0, 1) := by decide +kernel
theorem dX12_other_14 : decode cX12_other 14 = .ok (.iload_n 2, 1) := by decide +kernel
theorem dX12_other_15 : decode cX12_other 15 = .ok (.iconst 0, 1) := by decide +kernel
theorem dX12_other_16 : decode cX12_other 16 = .ok (.sipush 599, 3) := by decide +kernel
theorem dX12_other_19 : decode cX12_other 19 = .ok (.invokevirtual 158, 3) := by decide +kernel
theorem dX12_other_22 : decode cX12_other 22 = .ok (.ifCond .eq 24, 3) := by decide +kernel
theorem dX12_other_25 : decode cX12_other 25 = .ok (.aload_n 0, 1) := by decide +kernel
theorem dX12_other_26 : decode cX12_other 26 = .ok (.iload_n 3, 1) := by decide +kernel
theorem dX12_other_27 : decode cX12_other 27 = .ok (.iload_n 2, 1) := by decide +kernel
theorem dX12_other_28 : decode cX12_other 28 = .ok (.sipush 599, 3) := by decide +kernel
theorem dX12_other_31 : decode cX12_other 31 = .ok (.invokevirtual 158, 3) := by decide +kernel
theorem dX12_other_34 : decode cX12_other 34 = .ok (.ifCond .eq 12, 3) := by decide +kernel
theorem dX12_other_37 : decode cX12_other 37 = .ok (.aload_n 0, 1) := by decide +kernel
theorem dX12_other_38 : decode cX12_other 38 = .ok (.getfield 162, 3) := by decide +kernel
theorem dX12_other_41 : decode cX12_other 41 = .ok (.bipush 6, 2) := by decide +kernel
theorem dX12_other_43 : decode cX12_other 43 = .ok (.if_icmp .ne 5, 3) := by decide +kernel
theorem dX12_other_46 : decode cX12_other 46 = .ok (.iconst (-1), 1) := by decide +kernel
theorem dX12_other_47 : decode cX12_other 47 = .ok (.ireturn, 1) := by decide +kernel
theorem dX12_other_48 : decode cX12_other 48 = .ok (.aload_n 0, 1) := by decide +kernel
theorem dX12_other_49 : decode cX12_other 49 = .ok (.getfield 25, 3) := by decide +kernel
theorem dX12_other_52 : decode cX12_other 52 = .ok (.aload_n 0, 1) := by decide +kernel
theorem dX12_other_53 : decode cX12_other 53 = .ok (.getfield 162, 3) := by decide +kernel
theorem dX12_other_56 : decode cX12_other 56 = .ok (.iload_n 1, 1) := by decide +kernel
theorem dX12_other_57 : decode cX12_other 57 = .ok (.iastore, 1) := by decide +kernel
theorem dX12_other_58 : decode cX12_other 58 = .ok (.aload_n 0, 1) := by decide +kernel
theorem dX12_other_59 : decode cX12_other 59 = .ok (.getfield 28, 3) := by decide +kernel
theorem dX12_other_62 : decode cX12_other 62 = .ok (.aload_n 0, 1) := by decide +kernel
theorem dX12_other_63 : decode cX12_other 63 = .ok (.getfield 162, 3) := by decide +kernel
theorem dX12_other_66 : decode cX12_other 66 = .ok (.iload_n 2, 1) := by decide +kernel
theorem dX12_other_67 : decode cX12_other 67 = .ok (.iastore, 1) := by decide +kernel
theorem dX12_other_68 : decode cX12_other 68 = .ok (.aload_n 0, 1) := by decide +kernel
theorem dX12_other_69 : decode cX12_other 69 = .ok (.getfield 31, 3) := by decide +kernel
theorem dX12_other_72 : decode cX12_other 72 = .ok (.aload_n 0, 1) := by decide +kernel
theorem dX12_other_73 : decode cX12_other 73 = .ok (.getfield 162, 3) := by decide +kernel
theorem dX12_other_76 : decode cX12_other 76 = .ok (.iload_n 3, 1) := by decide +kernel
theorem dX12_other_77 : decode cX12_other 77 = .ok (.iastore, 1) := by decide +kernel
theorem dX12_other_78 : decode cX12_other 78 = .ok (.aload_n 0, 1) := by decide +kernel
theorem dX12_other_79 : decode cX12_other 79 = .ok (.aload_n 0, 1) := by decide +kernel
theorem dX12_other_80 : decode cX12_other 80 = .ok (.getfield 162, 3) := by decide +kernel
theorem dX12_other_83 : decode cX12_other 83 = .ok (.iconst 1, 1) := by decide +kernel
theorem dX12_other_84 : decode cX12_other 84 = .ok (.iadd, 1) := by decide +kernel
theorem dX12_other_85 : decode cX12_other 85 = .ok (.putfield 162, 3) := by decide +kernel
theorem dX12_other_88 : decode cX12_other 88 = .ok (.aload_n 0, 1) := by decide +kernel
theorem dX12_other_89 : decode cX12_other 89 = .ok (.iconst 0, 1) := by decide +kernel
theorem dX12_other_90 : decode cX12_other 90 = .ok (.putfield 127, 3) := by decide +kernel
theorem dX12_other_93 : decode cX12_other 93 = .ok (.aload_n 0, 1) := by decide +kernel
theorem dX12_other_94 : decode cX12_other 94 = .ok (.getfield 162, 3) := by decide +kernel
theorem dX12_other_97 : decode cX12_other 97 = .ok (.iconst 1, 1) := by decide +kernel
theorem dX12_other_98 : decode cX12_other 98 = .ok (.isub, 1) := by decide +kernel
theorem dX12_other_99 : decode cX12_other 99 = .ok (.ireturn, 1) := by decide +kernel
theorem wp_X12_other_0 {d : Nat} {s : ev_S} {Q : Option ev_V → ev_S → Prop} {a1 a2 a3 : Int}
    (h : (∀ s1, ev_up s 0 0 0 = s1 → (Ev layM M_X12_isPlace d 0 [(0, ev_r 0), (1, ev_i a1)] [] s1 (ev_pi (fun r3 s2 => ((r3 = 0 → Q (some (ev_i (-1))) s2) ∧ (r3 ≠ 0 → (Ev layM M_X12_isIn d 0 [(0, ev_r 0), (1, ev_i a2), (2, ev_i 0), (3, ev_i 599)] [] s2 (ev_pi (fun r5 s4 => ((r5 = 0 → Q (some (ev_i (-1))) s4) ∧ (r5 ≠ 0 → (Ev layM M_X12_isIn d 0 [(0, ev_r 0), (1, ev_i a3), (2, ev_i a2), (3, ev_i 599)] [] s4 (ev_pi (fun r7 s6 => ((r7 = 0 → Q (some (ev_i (-1))) s6) ∧ (r7 ≠ 0 → (((s6 0 12) ≠ 6 → ((0 ≤ (s6 0 12) ∧ (s6 0 12) < (6 : Nat)) ∧ ∀ s8, ev_up s6 6 (Int.toNat (s6 0 12)) a1 = s8 → ((0 ≤ (s8 0 12) ∧ (s8 0 12) < (6 : Nat)) ∧ ∀ s9, ev_up s8 7 (Int.toNat (s8 0 12)) a2 = s9 → ((0 ≤ (s9 0 12) ∧ (s9 0 12) < (6 : Nat)) ∧ ∀ s10, ev_up s9 8 (Int.toNat (s9 0 12)) a3 = s10 → (∀ s11, ev_up s10 0 12 (ev_add (s10 0 12) 1) = s11 → (∀ s12, ev_up s11 0 3 0 = s12 → Q (some (ev_i (ev_sub (s12 0 12) 1))) s12)))))) ∧ ((s6 0 12) = 6 → Q (some (ev_i (-1))) s6))))))))))))))))))) :
    Ev layM M_X12_other (d + 1) 0 [(0, ev_r 0), (1, ev_i a1), (2, ev_i a2), (3, ev_i a3)] [] s Q := by
  refine Ev_aload_n 0 dX12_other_0 rfl rfl ?_
  refine Ev_iconst dX12_other_1 rfl (ev_Rc rfl) ?_
  refine Ev_put (i := 0) (ty := .int) cl_X12 yM_0 (Nat.le_of_ble_eq_true rfl) rfl rfl (by decide +kernel) rfl rfl wd_1444 dX12_other_2 (Ev_nm (fun s1 es1 => ?_))
  replace h := h s1 es1
  refine Ev_aload_n 0 dX12_other_5 rfl rfl ?_
  refine Ev_iload_n 1 dX12_other_6 rfl rfl ?_
  refine Ev_callV (As := [ev_i a1]) (b := 0) (st := []) (M' := M_X12_isPlace) cm_X12_isPlace wd_1666 wd_1668 wd_72 yM_0 cl_X12 rfl dX12_other_7 (Nat.le_refl _) rfl (Nat.le_of_ble_eq_true rfl) (Nat.le_of_ble_eq_true rfl) h (fun v u h hk => ?_)
  obtain ⟨r3, rfl⟩ := hk
  obtain ⟨s2, rfl⟩ : ∃ x, x = u := ⟨_, rfl⟩
  replace h := h r3 rfl
  refine Ev_if_eq (tgt := 46) dX12_other_10 rfl (fun c => ?_) (fun c => ?_)
  · replace h := h.1 c
    refine Ev_iconst dX12_other_46 rfl (ev_Rc rfl) ?_
    exact Ev_iret rfl dX12_other_47 rfl h
  · replace h := h.2 c
    refine Ev_aload_n 0 dX12_other_13 rfl rfl ?_
    refine Ev_iload_n 2 dX12_other_14 rfl rfl ?_
    refine Ev_iconst dX12_other_15 rfl (ev_Rc rfl) ?_
    refine Ev_sipushC dX12_other_16 rfl ?_
    refine Ev_callV (As := [ev_i a2, ev_i 0, ev_i 599]) (b := 0) (st := []) (M' := M_X12_isIn) cm_X12_isIn wd_1650 wd_1652 wd_70 yM_0 cl_X12 rfl dX12_other_19 (Nat.le_refl _) rfl (Nat.le_of_ble_eq_true rfl) (Nat.le_of_ble_eq_true rfl) h (fun v u h hk => ?_)
    obtain ⟨r5, rfl⟩ := hk
    obtain ⟨s4, rfl⟩ : ∃ x, x = u := ⟨_, rfl⟩
    replace h := h r5 rfl
    refine Ev_if_eq (tgt := 46) dX12_other_22 rfl (fun c => ?_) (fun c => ?_)
    · replace h := h.1 c
      refine Ev_iconst dX12_other_46 rfl (ev_Rc rfl) ?_
      exact Ev_iret rfl dX12_other_47 rfl h
    · replace h := h.2 c
      refine Ev_aload_n 0 dX12_other_25 rfl rfl ?_
      refine Ev_iload_n 3 dX12_other_26 rfl rfl ?_
      refine Ev_iload_n 2 dX12_other_27 rfl rfl ?_
      refine Ev_sipushC dX12_other_28 rfl ?_
      refine Ev_callV (As := [ev_i a3, ev_i a2, ev_i 599]) (b := 0) (st := []) (M' := M_X12_isIn) cm_X12_isIn wd_1650 wd_1652 wd_70 yM_0 cl_X12 rfl dX12_other_31 (Nat.le_refl _) rfl (Nat.le_of_ble_eq_true rfl) (Nat.le_of_ble_eq_true rfl) h (fun v u h hk => ?_)
      obtain ⟨r7, rfl⟩ := hk
      obtain ⟨s6, rfl⟩ : ∃ x, x = u := ⟨_, rfl⟩
      replace h := h r7 rfl
      refine Ev_if_eq (tgt := 46) dX12_other_34 rfl (fun c => ?_) (fun c => ?_)
      · replace h := h.1 c
        refine Ev_iconst dX12_other_46 rfl (ev_Rc rfl) ?_
        exact Ev_iret rfl dX12_other_47 rfl h
      · replace h := h.2 c
        refine Ev_aload_n 0 dX12_other_37 rfl rfl ?_
        refine Ev_get (i := 12) cl_X12 yM_0 (Nat.le_of_ble_eq_true rfl) rfl wd_1456 dX12_other_38 ?_
        refine Ev_bipushC dX12_other_41 rfl ?_
        refine Ev_icmp_ne (tgt := 48) dX12_other_43 rfl (fun c => ?_) (fun c => ?_)
        · replace h := h.1 c
          refine Ev_aload_n 0 dX12_other_48 rfl rfl ?_
          refine Ev_getR (i := 14) cl_X12 yM_0 (Nat.le_of_ble_eq_true rfl) rfl wd_1458 dX12_other_49 ?_
          refine Ev_aload_n 0 dX12_other_52 rfl rfl ?_
          refine Ev_get (i := 12) cl_X12 yM_0 (Nat.le_of_ble_eq_true rfl) rfl wd_1456 dX12_other_53 ?_
          refine Ev_iload_n 1 dX12_other_56 rfl rfl ?_
          obtain ⟨h0, h⟩ := h
          refine Ev_iast yM_6 h0 dX12_other_57 (Ev_nm (fun s8 es8 => ?_))
          replace h := h s8 es8
          refine Ev_aload_n 0 dX12_other_58 rfl rfl ?_
          refine Ev_getR (i := 15) cl_X12 yM_0 (Nat.le_of_ble_eq_true rfl) rfl wd_1459 dX12_other_59 ?_
          refine Ev_aload_n 0 dX12_other_62 rfl rfl ?_
          refine Ev_get (i := 12) cl_X12 yM_0 (Nat.le_of_ble_eq_true rfl) rfl wd_1456 dX12_other_63 ?_
          refine Ev_iload_n 2 dX12_other_66 rfl rfl ?_
          obtain ⟨h0, h⟩ := h
          refine Ev_iast yM_7 h0 dX12_other_67 (Ev_nm (fun s9 es9 => ?_))
          replace h := h s9 es9
          refine Ev_aload_n 0 dX12_other_68 rfl rfl ?_
          refine Ev_getR (i := 16) cl_X12 yM_0 (Nat.le_of_ble_eq_true rfl) rfl wd_1460 dX12_other_69 ?_
          refine Ev_aload_n 0 dX12_other_72 rfl rfl ?_
          refine Ev_get (i := 12) cl_X12 yM_0 (Nat.le_of_ble_eq_true rfl) rfl wd_1456 dX12_other_73 ?_
          refine Ev_iload_n 3 dX12_other_76 rfl rfl ?_
          obtain ⟨h0, h⟩ := h
          refine Ev_iast yM_8 h0 dX12_other_77 (Ev_nm (fun s10 es10 => ?_))
          replace h := h s10 es10
          refine Ev_aload_n 0 dX12_other_78 rfl rfl ?_
          refine Ev_aload_n 0 dX12_other_79 rfl rfl ?_
          refine Ev_get (i := 12) cl_X12 yM_0 (Nat.le_of_ble_eq_true rfl) rfl wd_1456 dX12_other_80 ?_
          refine Ev_iconst dX12_other_83 rfl (ev_Rc rfl) ?_
          refine Ev_iadd dX12_other_84 ?_
          refine Ev_put (i := 12) (ty := .int) cl_X12 yM_0 (Nat.le_of_ble_eq_true rfl) rfl rfl (by decide +kernel) rfl rfl wd_1456 dX12_other_85 (Ev_nm (fun s11 es11 => ?_))
          replace h := h s11 es11
          refine Ev_aload_n 0 dX12_other_88 rfl rfl ?_
          refine Ev_iconst dX12_other_89 rfl (ev_Rc rfl) ?_
          refine Ev_put (i := 3) (ty := .int) cl_X12 yM_0 (Nat.le_of_ble_eq_true rfl) rfl rfl (by decide +kernel) rfl rfl wd_1447 dX12_other_90 (Ev_nm (fun s12 es12 => ?_))
          replace h := h s12 es12
          refine Ev_aload_n 0 dX12_other_93 rfl rfl ?_
          refine Ev_get (i := 12) cl_X12 yM_0 (Nat.le_of_ble_eq_true rfl) rfl wd_1456 dX12_other_94 ?_
          refine Ev_iconst dX12_other_97 rfl (ev_Rc rfl) ?_
          refine Ev_isub dX12_other_98 ?_
          exact Ev_iret rfl dX12_other_99 rfl h
        · replace h := h.2 c
          refine Ev_iconst dX12_other_46 rfl (ev_Rc rfl) ?_
          exact Ev_iret rfl dX12_other_47 rfl h
theorem dX12_types_0 : decode cX12_types 0 = .ok (.bipush 24, 2) := by decide +kernel
theorem dX12_types_2 : decode cX12_types 2 = .ok (.istore_n 2, 1) := by decide +kernel
theorem dX12_types_3 : decode cX12_types 3 = .ok (.iload_n 2, 1) := by decide +kernel
theorem dX12_types_4 : decode cX12_types 4 = .ok (.ifCond .lt 35, 3) := by decide +kernel
theorem dX12_types_7 : decode cX12_types 7 = .ok (.aload_n 0, 1) := by decide +kernel
theorem dX12_types_8 : decode cX12_types 8 = .ok (.getfield 37, 3) := by decide +kernel
theorem dX12_types_11 : decode cX12_types 11 = .ok (.aload_n 0, 1) := by decide +kernel
theorem dX12_types_12 : decode cX12_types 12 = .ok (.getfield 178, 3) := by decide +kernel
theorem dX12_types_15 : decode cX12_types 15 = .ok (.iload_n 1, 1) := by decide +kernel
theorem dX12_types_16 : decode cX12_types 16 = .ok (.iload_n 2, 1) := by decide +kernel
theorem dX12_types_17 : decode cX12_types 17 = .ok (.ishr, 1) := by decide +kernel
theorem dX12_types_18 : decode cX12_types 18 = .ok (.sipush 255, 3) := by decide +kernel
theorem dX12_types_21 : decode cX12_types 21 = .ok (.iand, 1) := by decide +kernel
theorem dX12_types_22 : decode cX12_types 22 = .ok (.iastore, 1) := by decide +kernel
theorem dX12_types_23 : decode cX12_types 23 = .ok (.aload_n 0, 1) := by decide +kernel
theorem dX12_types_24 : decode cX12_types 24 = .ok (.aload_n 0, 1) := by decide +kernel
theorem dX12_types_25 : decode cX12_types 25 = .ok (.getfield 178, 3) := by decide +kernel
theorem dX12_types_28 : decode cX12_types 28 = .ok (.iconst 1, 1) := by decide +kernel
theorem dX12_types_29 : decode cX12_types 29 = .ok (.iadd, 1) := by decide +kernel
theorem dX12_types_30 : decode cX12_types 30 = .ok (.putfield 178, 3) := by decide +kernel
theorem dX12_types_33 : decode cX12_types 33 = .ok (.iinc 2 (-8), 3) := by decide +kernel
theorem dX12_types_36 : decode cX12_types 36 = .ok (.goto (-33), 3) := by decide +kernel
theorem dX12_types_39 : decode cX12_types 39 = .ok (.return_, 1) := by decide +kernel
theorem wp_X12_types_0 {d : Nat} {s : ev_S} {Q : Option ev_V → ev_S → Prop} {a1 : Int}
    (h : Ev layM M_X12_types d 3 [(0, ev_r 0), (1, ev_i a1), (2, ev_i 24)] [] s Q) :
    Ev layM M_X12_types d 0 [(0, ev_r 0), (1, ev_i a1)] [] s Q := by
  refine Ev_bipushC dX12_types_0 rfl ?_
  refine Ev_istore_n (l' := [(2, ev_i 24), (0, ev_r 0), (1, ev_i a1)]) dX12_types_2 rfl (Nat.le_of_ble_eq_true rfl) rfl ?_
  exact Ev_sub [1, 2, 0] rfl h
theorem wp_X12_types_3 {d : Nat} {s : ev_S} {Q : Option ev_V → ev_S → Prop} {a1 a2 : Int}
    (h : ((a2 < 0 → Q none s) ∧ (0 ≤ a2 → ((0 ≤ (s 0 19) ∧ (s 0 19) < (400 : Nat)) ∧ ∀ s1, ev_up s 10 (Int.toNat (s 0 19)) (ev_and (ev_shr a1 a2) 255) = s1 → (∀ s2, ev_up s1 0 19 (ev_add (s1 0 19) 1) = s2 → Ev layM M_X12_types d 3 [(0, ev_r 0), (1, ev_i a1), (2, ev_i (ev_add a2 (-8)))] [] s2 Q))))) :
    Ev layM M_X12_types d 3 [(0, ev_r 0), (1, ev_i a1), (2, ev_i a2)] [] s Q := by
  refine Ev_iload_n 2 dX12_types_3 rfl rfl ?_
  refine Ev_if_lt (tgt := 39) dX12_types_4 rfl (fun c => ?_) (fun c => ?_)
  · replace h := h.1 c
    exact Ev_vret rfl dX12_types_39 h
  · replace h := h.2 c
    refine Ev_aload_n 0 dX12_types_7 rfl rfl ?_
    refine Ev_getR (i := 18) cl_X12 yM_0 (Nat.le_of_ble_eq_true rfl) rfl wd_1462 dX12_types_8 ?_
    refine Ev_aload_n 0 dX12_types_11 rfl rfl ?_
    refine Ev_get (i := 19) cl_X12 yM_0 (Nat.le_of_ble_eq_true rfl) rfl wd_1463 dX12_types_12 ?_
    refine Ev_iload_n 1 dX12_types_15 rfl rfl ?_
    refine Ev_iload_n 2 dX12_types_16 rfl rfl ?_
    refine Ev_ishr dX12_types_17 ?_
    refine Ev_sipushC dX12_types_18 rfl ?_
    refine Ev_iand dX12_types_21 ?_
    obtain ⟨h0, h⟩ := h
    refine Ev_iast yM_10 h0 dX12_types_22 (Ev_nm (fun s1 es1 => ?_))
    replace h := h s1 es1
    refine Ev_aload_n 0 dX12_types_23 rfl rfl ?_
    refine Ev_aload_n 0 dX12_types_24 rfl rfl ?_
    refine Ev_get (i := 19) cl_X12 yM_0 (Nat.le_of_ble_eq_true rfl) rfl wd_1463 dX12_types_25 ?_
    refine Ev_iconst dX12_types_28 rfl (ev_Rc rfl) ?_
    refine Ev_iadd dX12_types_29 ?_
    refine Ev_put (i := 19) (ty := .int) cl_X12 yM_0 (Nat.le_of_ble_eq_true rfl) rfl rfl (by decide +kernel) rfl rfl wd_1463 dX12_types_30 (Ev_nm (fun s2 es2 => ?_))
    replace h := h s2 es2
    refine Ev_iinc (j := 2) (l' := [(2, ev_i (ev_add a2 (-8))), (0, ev_r 0), (1, ev_i a1)]) dX12_types_33 rfl (Nat.le_of_ble_eq_true rfl) rfl ?_
    refine Ev_goto (tgt := 3) dX12_types_36 rfl ?_
    exact Ev_sub [1, 2, 0] rfl h
theorem dX12_feed_0 : decode cX12_feed 0 = .ok (.aload_n 0, 1) := by decide +kernel
theorem dX12_feed_1 : decode cX12_feed 1 = .ok (.iconst 0, 1) := by decide +kernel
theorem dX12_feed_2 : decode cX12_feed 2 = .ok (.putfield 124, 3) := by decide +kernel
theorem dX12_feed_5 : decode cX12_feed 5 = .ok (.aload_n 0, 1) := by decide +kernel
theorem dX12_feed_6 : decode cX12_feed 6 = .ok (.getfield 178, 3) := by decide +kernel
theorem dX12_feed_9 : decode cX12_feed 9 = .ok (.sipush 380, 3) := by decide +kernel
theorem dX12_feed_12 : decode cX12_feed 12 = .ok (.if_icmp .le 5, 3) := by decide +kernel
theorem dX12_feed_15 : decode cX12_feed 15 = .ok (.iconst (-1), 1) := by decide +kernel
theorem dX12_feed_16 : decode cX12_feed 16 = .ok (.ireturn, 1) := by decide +kernel
theorem dX12_feed_17 : decode cX12_feed 17 = .ok (.aload_n 0, 1) := by decide +kernel
theorem dX12_feed_18 : decode cX12_feed 18 = .ok (.iload_n 1, 1) := by decide +kernel
theorem dX12_feed_19 : decode cX12_feed 19 = .ok (.invokevirtual 181, 3) := by decide +kernel
theorem dX12_feed_22 : decode cX12_feed 22 = .ok (.aload_n 0, 1) := by decide +kernel
theorem dX12_feed_23 : decode cX12_feed 23 = .ok (.iload_n 2, 1) := by decide +kernel
theorem dX12_feed_24 : decode cX12_feed 24 = .ok (.invokevirtual 181, 3) := by decide +kernel
theorem dX12_feed_27 : decode cX12_feed 27 = .ok (.aload_n 0, 1) := by decide +kernel
theorem dX12_feed_28 : decode cX12_feed 28 = .ok (.iload_n 3, 1) := by decide +kernel
theorem dX12_feed_29 : decode cX12_feed 29 = .ok (.invokevirtual 181, 3) := by decide +kernel
theorem dX12_feed_32 : decode cX12_feed 32 = .ok (.aload_n 0, 1) := by decide +kernel
theorem dX12_feed_33 : decode cX12_feed 33 = .ok (.iload 4, 2) := by decide +kernel
theorem dX12_feed_35 : decode cX12_feed 35 = .ok (.invokevirtual 181, 3) := by decide +kernel
theorem dX12_feed_38 : decode cX12_feed 38 = .ok (.aload_n 0, 1) := by decide +kernel
theorem dX12_feed_39 : decode cX12_feed 39 = .ok (.iload 5, 2) := by decide +kernel
theorem dX12_feed_41 : decode cX12_feed 41 = .ok (.invokevirtual 181, 3) := by decide +kernel
theorem dX12_feed_44 : decode cX12_feed 44 = .ok (.aload_n 0, 1) := by decide +kernel
theorem dX12_feed_45 : decode cX12_feed 45 = .ok (.getfield 178, 3) := by decide +kernel
theorem dX12_feed_48 : decode cX12_feed 48 = .ok (.ireturn, 1) := by decide +kernel
theorem wp_X12_feed_0 {d : Nat} {s : ev_S} {Q : Option ev_V → ev_S → Prop} {a1 a2 a3 a4 a5 : Int}
    (h : (∀ s1, ev_up s 0 0 0 = s1 → (((s1 0 19) ≤ 380 → (Ev layM M_X12_types d 0 [(0, ev_r 0), (1, ev_i a1)] [] s1 (fun _ s2 => (Ev layM M_X12_types d 0 [(0, ev_r 0), (1, ev_i a2)] [] s2 (fun _ s3 => (Ev layM M_X12_types d 0 [(0, ev_r 0), (1, ev_i a3)] [] s3 (fun _ s4 => (Ev layM M_X12_types d 0 [(0, ev_r 0), (1, ev_i a4)] [] s4 (fun _ s5 => (Ev layM M_X12_types d 0 [(0, ev_r 0), (1, ev_i a5)] [] s5 (fun _ s6 => Q (some (ev_i (s6 0 19))) s6))))))))))) ∧ (380 < (s1 0 19) → Q (some (ev_i (-1))) s1)))) :
    Ev layM M_X12_feed (d + 1) 0 [(0, ev_r 0), (1, ev_i a1), (2, ev_i a2), (3, ev_i a3), (4, ev_i a4), (5, ev_i a5)] [] s Q := by
  refine Ev_aload_n 0 dX12_feed_0 rfl rfl ?_
  refine Ev_iconst dX12_feed_1 rfl (ev_Rc rfl) ?_
  refine Ev_put (i := 0) (ty := .int) cl_X12 yM_0 (Nat.le_of_ble_eq_true rfl) rfl rfl (by decide +kernel) rfl rfl wd_1444 dX12_feed_2 (Ev_nm (fun s1 es1 => ?_))
  replace h := h s1 es1
  refine Ev_aload_n 0 dX12_feed_5 rfl rfl ?_
  refine Ev_get (i := 19) cl_X12 yM_0 (Nat.le_of_ble_eq_true rfl) rfl wd_1463 dX12_feed_6 ?_
  refine Ev_sipushC dX12_feed_9 rfl ?_
  refine Ev_icmp_le (tgt := 17) dX12_feed_12 rfl (fun c => ?_) (fun c => ?_)
  · replace h := h.1 c
    refine Ev_aload_n 0 dX12_feed_17 rfl rfl ?_
    refine Ev_iload_n 1 dX12_feed_18 rfl rfl ?_
    refine Ev_callV (As := [ev_i a1]) (b := 0) (st := []) (M' := M_X12_types) cm_X12_types wd_1682 wd_1684 wd_73 yM_0 cl_X12 rfl dX12_feed_19 (Nat.le_refl _) rfl (Nat.le_of_ble_eq_true rfl) (Nat.le_of_ble_eq_true rfl) h (fun v u h hk => ?_)
    cases hk
    obtain ⟨s2, rfl⟩ : ∃ x, x = u := ⟨_, rfl⟩
    refine Ev_aload_n 0 dX12_feed_22 rfl rfl ?_
    refine Ev_iload_n 2 dX12_feed_23 rfl rfl ?_
    refine Ev_callV (As := [ev_i a2]) (b := 0) (st := []) (M' := M_X12_types) cm_X12_types wd_1682 wd_1684 wd_73 yM_0 cl_X12 rfl dX12_feed_24 (Nat.le_refl _) rfl (Nat.le_of_ble_eq_true rfl) (Nat.le_of_ble_eq_true rfl) h (fun v u h hk => ?_)
    cases hk
    obtain ⟨s3, rfl⟩ : ∃ x, x = u := ⟨_, rfl⟩
    refine Ev_aload_n 0 dX12_feed_27 rfl rfl ?_
    refine Ev_iload_n 3 dX12_feed_28 rfl rfl ?_
    refine Ev_callV (As := [ev_i a3]) (b := 0) (st := []) (M' := M_X12_types) cm_X12_types wd_1682 wd_1684 wd_73 yM_0 cl_X12 rfl dX12_feed_29 (Nat.le_refl _) rfl (Nat.le_of_ble_eq_true rfl) (Nat.le_of_ble_eq_true rfl) h (fun v u h hk => ?_)
    cases hk
    obtain ⟨s4, rfl⟩ : ∃ x, x = u := ⟨_, rfl⟩
    refine Ev_aload_n 0 dX12_feed_32 rfl rfl ?_
    refine Ev_iload 4 dX12_feed_33 rfl ?_
    refine Ev_callV (As := [ev_i a4]) (b := 0) (st := []) (M' := M_X12_types) cm_X12_types wd_1682 wd_1684 wd_73 yM_0 cl_X12 rfl dX12_feed_35 (Nat.le_refl _) rfl (Nat.le_of_ble_eq_true rfl) (Nat.le_of_ble_eq_true rfl) h (fun v u h hk => ?_)
    cases hk
    obtain ⟨s5, rfl⟩ : ∃ x, x = u := ⟨_, rfl⟩
    refine Ev_aload_n 0 dX12_feed_38 rfl rfl ?_
    refine Ev_iload 5 dX12_feed_39 rfl ?_
    refine Ev_callV (As := [ev_i a5]) (b := 0) (st := []) (M' := M_X12_types) cm_X12_types wd_1682 wd_1684 wd_73 yM_0 cl_X12 rfl dX12_feed_41 (Nat.le_refl _) rfl (Nat.le_of_ble_eq_true rfl) (Nat.le_of_ble_eq_true rfl) h (fun v u h hk => ?_)
    cases hk
    obtain ⟨s6, rfl⟩ : ∃ x, x = u := ⟨_, rfl⟩
    refine Ev_aload_n 0 dX12_feed_44 rfl rfl ?_
    refine Ev_get (i := 19) cl_X12 yM_0 (Nat.le_of_ble_eq_true rfl) rfl wd_1463 dX12_feed_45 ?_
    exact Ev_iret rfl dX12_feed_48 rfl h
  · replace h := h.2 c
    refine Ev_iconst dX12_feed_15 rfl (ev_Rc rfl) ?_
    exact Ev_iret rfl dX12_feed_16 rfl h
theorem dX12_end_0 : decode cX12_end 0 = .ok (.aload_n 0, 1) := by decide +kernel
theorem dX12_end_1 : decode cX12_end 1 = .ok (.iconst 0, 1) := by decide +kernel
theorem dX12_end_2 : decode cX12_end 2 = .ok (.putfield 124, 3) := by decide +kernel
theorem dX12_end_5 : decode cX12_end 5 = .ok (.aload_n 0, 1) := by decide +kernel
theorem dX12_end_6 : decode cX12_end 6 = .ok (.iload_n 1, 1) := by decide +kernel
theorem dX12_end_7 : decode cX12_end 7 = .ok (.iconst 0, 1) := by decide +kernel
theorem dX12_end_8 : decode cX12_end 8 = .ok (.aload_n 0, 1) := by decide +kernel
theorem dX12_end_9 : decode cX12_end 9 = .ok (.getfield 178, 3) := by decide +kernel
theorem dX12_end_12 : decode cX12_end 12 = .ok (.invokevirtual 158, 3) := by decide +kernel
theorem dX12_end_15 : decode cX12_end 15 = .ok (.ifCond .ne 5, 3) := by decide +kernel
theorem dX12_end_18 : decode cX12_end 18 = .ok (.iconst 0, 1) := by decide +kernel
theorem dX12_end_19 : decode cX12_end 19 = .ok (.ireturn, 1) := by decide +kernel
theorem dX12_end_20 : decode cX12_end 20 = .ok (.aload_n 0, 1) := by decide +kernel
theorem dX12_end_21 : decode cX12_end 21 = .ok (.iload_n 1, 1) := by decide +kernel
theorem dX12_end_22 : decode cX12_end 22 = .ok (.putfield 178, 3) := by decide +kernel
theorem dX12_end_25 : decode cX12_end 25 = .ok (.iconst 1, 1) := by decide +kernel
theorem dX12_end_26 : decode cX12_end 26 = .ok (.ireturn, 1) := by decide +kernel
theorem wp_X12_end_0 {d : Nat} {s : ev_S} {Q : Option ev_V → ev_S → Prop} {a1 : Int}
    (h : (∀ s1, ev_up s 0 0 0 = s1 → (Ev layM M_X12_isIn d 0 [(0, ev_r 0), (1, ev_i a1), (2, ev_i 0), (3, ev_i (s1 0 19))] [] s1 (ev_pi (fun r3 s2 => ((r3 ≠ 0 → (∀ s4, ev_up s2 0 19 a1 = s4 → Q (some (ev_i 1)) s4)) ∧ (r3 = 0 → Q (some (ev_i 0)) s2))))))) :
    Ev layM M_X12_end (d + 1) 0 [(0, ev_r 0), (1, ev_i a1)] [] s Q := by
  refine Ev_aload_n 0 dX12_end_0 rfl rfl ?_
  refine Ev_iconst dX12_end_1 rfl (ev_Rc rfl) ?_
  refine Ev_put (i := 0) (ty := .int) cl_X12 yM_0 (Nat.le_of_ble_eq_true rfl) rfl rfl (by decide +kernel) rfl rfl wd_1444 dX12_end_2 (Ev_nm (fun s1 es1 => ?_))
  replace h := h s1 es1
  refine Ev_aload_n 0 dX12_end_5 rfl rfl ?_
  refine Ev_iload_n 1 dX12_end_6 rfl rfl ?_
  refine Ev_iconst dX12_end_7 rfl (ev_Rc rfl) ?_
  refine Ev_aload_n 0 dX12_end_8 rfl rfl ?_
  refine Ev_get (i := 19) cl_X12 yM_0 (Nat.le_of_ble_eq_true rfl) rfl wd_1463 dX12_end_9 ?_
  refine Ev_callV (As := [ev_i a1, ev_i 0, ev_i (s1 0 19)]) (b := 0) (st := []) (M' := M_X12_isIn) cm_X12_isIn wd_1650 wd_1652 wd_70 yM_0 cl_X12 rfl dX12_end_12 (Nat.le_refl _) rfl (Nat.le_of_ble_eq_true rfl) (Nat.le_of_ble_eq_true rfl) h (fun v u h hk => ?_)
  obtain ⟨r3, rfl⟩ := hk
  obtain ⟨s2, rfl⟩ : ∃ x, x = u := ⟨_, rfl⟩
  replace h := h r3 rfl
  refine Ev_if_ne (tgt := 20) dX12_end_15 rfl (fun c => ?_) (fun c => ?_)
  · replace h := h.1 c
    refine Ev_aload_n 0 dX12_end_20 rfl rfl ?_
    refine Ev_iload_n 1 dX12_end_21 rfl rfl ?_
    refine Ev_put (i := 19) (ty := .int) cl_X12 yM_0 (Nat.le_of_ble_eq_true rfl) rfl rfl (by decide +kernel) rfl rfl wd_1463 dX12_end_22 (Ev_nm (fun s4 es4 => ?_))
    replace h := h s4 es4
    refine Ev_iconst dX12_end_25 rfl (ev_Rc rfl) ?_
    exact Ev_iret rfl dX12_end_26 (ev_nb (by decide)) h
  · replace h := h.2 c
    refine Ev_iconst dX12_end_18 rfl (ev_Rc rfl) ?_
    exact Ev_iret rfl dX12_end_19 (ev_nb (by decide)) h
theorem dX12_raw_0 : decode cX12_raw 0 = .ok (.iload_n 1, 1) := by decide +kernel
theorem dX12_raw_1 : decode cX12_raw 1 = .ok (.aload_n 0, 1) := by decide +kernel
theorem dX12_raw_2 : decode cX12_raw 2 = .ok (.getfield 178, 3) := by decide +kernel
theorem dX12_raw_5 : decode cX12_raw 5 = .ok (.if_icmp .ge 12, 3) := by decide +kernel
theorem dX12_raw_8 : decode cX12_raw 8 = .ok (.aload_n 0, 1) := by decide +kernel
theorem dX12_raw_9 : decode cX12_raw 9 = .ok (.getfield 37, 3) := by decide +kernel
theorem dX12_raw_12 : decode cX12_raw 12 = .ok (.iload_n 1, 1) := by decide +kernel
theorem dX12_raw_13 : decode cX12_raw 13 = .ok (.iaload, 1) := by decide +kernel
theorem dX12_raw_14 : decode cX12_raw 14 = .ok (.goto 4, 3) := by decide +kernel
theorem dX12_raw_17 : decode cX12_raw 17 = .ok (.iconst (-1), 1) := by decide +kernel
theorem dX12_raw_18 : decode cX12_raw 18 = .ok (.ireturn, 1) := by decide +kernel
theorem wp_X12_raw_0 {d : Nat} {s : ev_S} {Q : Option ev_V → ev_S → Prop} {a1 : Int}
    (h : (((s 0 19) ≤ a1 → Q (some (ev_i (-1))) s) ∧ (a1 < (s 0 19) → ((0 ≤ a1 ∧ a1 < (400 : Nat)) ∧ Q (some (ev_i (s 10 (Int.toNat a1)))) s)))) :
    Ev layM M_X12_raw d 0 [(0, ev_r 0), (1, ev_i a1)] [] s Q := by
  refine Ev_iload_n 1 dX12_raw_0 rfl rfl ?_
  refine Ev_aload_n 0 dX12_raw_1 rfl rfl ?_
  refine Ev_get (i := 19) cl_X12 yM_0 (Nat.le_of_ble_eq_true rfl) rfl wd_1463 dX12_raw_2 ?_
  refine Ev_icmp_ge (tgt := 17) dX12_raw_5 rfl (fun c => ?_) (fun c => ?_)
  · replace h := h.1 c
    refine Ev_iconst dX12_raw_17 rfl (ev_Rc rfl) ?_
    exact Ev_iret rfl dX12_raw_18 rfl h
  · replace h := h.2 c
    refine Ev_aload_n 0 dX12_raw_8 rfl rfl ?_
    refine Ev_getR (i := 18) cl_X12 yM_0 (Nat.le_of_ble_eq_true rfl) rfl wd_1462 dX12_raw_9 ?_
    refine Ev_iload_n 1 dX12_raw_12 rfl rfl ?_
    obtain ⟨h0, h⟩ := h
    refine Ev_iald yM_10 h0 dX12_raw_13 ?_
    refine Ev_goto (tgt := 18) dX12_raw_14 rfl ?_
    exact Ev_iret rfl dX12_raw_18 rfl h
theorem dX12_isLetter_0 : decode cX12_isLetter 0 = .ok (.aload_n 0, 1) := by decide +kernel
theorem dX12_isLetter_1 : decode cX12_isLetter 1 = .ok (.iload_n 1, 1) := by decide +kernel
theorem dX12_isLetter_2 : decode cX12_isLetter 2 = .ok (.bipush 97, 2) := by decide +kernel
theorem dX12_isLetter_4 : decode cX12_isLetter 4 = .ok (.bipush 122, 2) := by decide +kernel
theorem dX12_isLetter_6 : decode cX12_isLetter 6 = .ok (.invokevirtual 158, 3) := by decide +kernel
theorem dX12_isLetter_9 : decode cX12_isLetter 9 = .ok (.ifCond .ne 15, 3) := by decide +kernel
theorem dX12_isLetter_12 : decode cX12_isLetter 12 = .ok (.aload_n 0, 1) := by decide +kernel
theorem dX12_isLetter_13 : decode cX12_isLetter 13 = .ok (.iload_n 1, 1) := by decide +kernel
theorem dX12_isLetter_14 : decode cX12_isLetter 14 = .ok (.bipush 65, 2) := by decide +kernel
theorem dX12_isLetter_16 : decode cX12_isLetter 16 = .ok (.bipush 90, 2) := by decide +kernel
theorem dX12_isLetter_18 : decode cX12_isLetter 18 = .ok (.invokevirtual 158, 3) := by decide +kernel
theorem dX12_isLetter_21 : decode cX12_isLetter 21 = .ok (.ifCond .eq 7, 3) := by decide +kernel
theorem dX12_isLetter_24 : decode cX12_isLetter 24 = .ok (.iconst 1, 1) := by decide +kernel
theorem dX12_isLetter_25 : decode cX12_isLetter 25 = .ok (.goto 4, 3) := by decide +kernel
theorem dX12_isLetter_28 : decode cX12_isLetter 28 = .ok (.iconst 0, 1) := by decide +kernel
theorem dX12_isLetter_29 : decode cX12_isLetter 29 = .ok (.ireturn, 1) := by decide +kernel
theorem wp_X12_isLetter_0 {d : Nat} {s : ev_S} {Q : Option ev_V → ev_S → Prop} {a1 : Int}
    (h : (Ev layM M_X12_isIn d 0 [(0, ev_r 0), (1, ev_i a1), (2, ev_i 97), (3, ev_i 122)] [] s (ev_pi (fun r2 s1 => ((r2 ≠ 0 → Q (some (ev_i 1)) s1) ∧ (r2 = 0 → (Ev layM M_X12_isIn d 0 [(0, ev_r 0), (1, ev_i a1), (2, ev_i 65), (3, ev_i 90)] [] s1 (ev_pi (fun r4 s3 => ((r4 = 0 → Q (some (ev_i 0)) s3) ∧ (r4 ≠ 0 → Q (some (ev_i 1)) s3))))))))))) :
    Ev layM M_X12_isLetter (d + 1) 0 [(0, ev_r 0), (1, ev_i a1)] [] s Q := by
  refine Ev_aload_n 0 dX12_isLetter_0 rfl rfl ?_
  refine Ev_iload_n 1 dX12_isLetter_1 rfl rfl ?_
  refine Ev_bipushC dX12_isLetter_2 rfl ?_
  refine Ev_bipushC dX12_isLetter_4 rfl ?_
  refine Ev_callV (As := [ev_i a1, ev_i 97, ev_i 122]) (b := 0) (st := []) (M' := M_X12_isIn) cm_X12_isIn wd_1650 wd_1652 wd_70 yM_0 cl_X12 rfl dX12_isLetter_6 (Nat.le_refl _) rfl (Nat.le_of_ble_eq_true rfl) (Nat.le_of_ble_eq_true rfl) h (fun v u h hk => ?_)
  obtain ⟨r2, rfl⟩ := hk
  obtain ⟨s1, rfl⟩ : ∃ x, x = u := ⟨_, rfl⟩
  replace h := h r2 rfl
  refine Ev_if_ne (tgt := 24) dX12_isLetter_9 rfl (fun c => ?_) (fun c => ?_)
  · replace h := h.1 c
    refine Ev_iconst dX12_isLetter_24 rfl (ev_Rc rfl) ?_
    refine Ev_goto (tgt := 29) dX12_isLetter_25 rfl ?_
    exact Ev_iret rfl dX12_isLetter_29 (ev_nb (by decide)) h
  · replace h := h.2 c
    refine Ev_aload_n 0 dX12_isLetter_12 rfl rfl ?_
    refine Ev_iload_n 1 dX12_isLetter_13 rfl rfl ?_
    refine Ev_bipushC dX12_isLetter_14 rfl ?_
    refine Ev_bipushC dX12_isLetter_16 rfl ?_
    refine Ev_callV (As := [ev_i a1, ev_i 65, ev_i 90]) (b := 0) (st := []) (M' := M_X12_isIn) cm_X12_isIn wd_1650 wd_1652 wd_70 yM_0 cl_X12 rfl dX12_isLetter_18 (Nat.le_refl _) rfl (Nat.le_of_ble_eq_true rfl) (Nat.le_of_ble_eq_true rfl) h (fun v u h hk => ?_)
    obtain ⟨r4, rfl⟩ := hk
    obtain ⟨s3, rfl⟩ : ∃ x, x = u := ⟨_, rfl⟩
    replace h := h r4 rfl
    refine Ev_if_eq (tgt := 28) dX12_isLetter_21 rfl (fun c => ?_) (fun c => ?_)
    · replace h := h.1 c
      refine Ev_iconst dX12_isLetter_28 rfl (ev_Rc rfl) ?_
      exact Ev_iret rfl dX12_isLetter_29 (ev_nb (by decide)) h
    · replace h := h.2 c
      refine Ev_iconst dX12_isLetter_24 rfl (ev_Rc rfl) ?_
      refine Ev_goto (tgt := 29) dX12_isLetter_25 rfl ?_
      exact Ev_iret rfl dX12_isLetter_29 (ev_nb (by decide)) h
theorem dX12_isDigit_0 : decode cX12_isDigit 0 = .ok (.aload_n 0, 1) := by decide +kernel
theorem dX12_isDigit_1 : decode cX12_isDigit 1 = .ok (.iload_n 1, 1) := by decide +kernel
theorem dX12_isDigit_2 : decode cX12_isDigit 2 = .ok (.bipush 48, 2) := by decide +kernel
theorem dX12_isDigit_4 : decode cX12_isDigit 4 = .ok (.bipush 57, 2) := by decide +kernel
theorem dX12_isDigit_6 : decode cX12_isDigit 6 = .ok (.invokevirtual 158, 3) := by decide +kernel
theorem dX12_isDigit_9 : decode cX12_isDigit 9 = .ok (.ireturn, 1) := by decide +kernel
theorem wp_X12_isDigit_0 {d : Nat} {s : ev_S} {Q : Option ev_V → ev_S → Prop} {a1 : Int}
    (h : (Ev layM M_X12_isIn d 0 [(0, ev_r 0), (1, ev_i a1), (2, ev_i 48), (3, ev_i 57)] [] s (ev_pi (fun r2 s1 => ((r2 = 0 ∨ r2 = 1) ∧ Q (some (ev_i r2)) s1))))) :
    Ev layM M_X12_isDigit (d + 1) 0 [(0, ev_r 0), (1, ev_i a1)] [] s Q := by
  refine Ev_aload_n 0 dX12_isDigit_0 rfl rfl ?_
  refine Ev_iload_n 1 dX12_isDigit_1 rfl rfl ?_
  refine Ev_bipushC dX12_isDigit_2 rfl ?_
  refine Ev_bipushC dX12_isDigit_4 rfl ?_
  refine Ev_callV (As := [ev_i a1, ev_i 48, ev_i 57]) (b := 0) (st := []) (M' := M_X12_isIn) cm_X12_isIn wd_1650 wd_1652 wd_70 yM_0 cl_X12 rfl dX12_isDigit_6 (Nat.le_refl _) rfl (Nat.le_of_ble_eq_true rfl) (Nat.le_of_ble_eq_true rfl) h (fun v u h hk => ?_)
  obtain ⟨r2, rfl⟩ := hk
  obtain ⟨s1, rfl⟩ : ∃ x, x = u := ⟨_, rfl⟩
  replace h := h r2 rfl
  exact Ev_iret rfl dX12_isDigit_9 (ev_nb h.1) h.2
theorem dX12_isMarkSign_0 : decode cX12_isMarkSign 0 = .ok (.iload_n 1, 1) := by decide +kernel
theorem dX12_isMarkSign_1 : decode cX12_isMarkSign 1 = .ok (.bipush 59, 2) := by decide +kernel
theorem dX12_isMarkSign_3 : decode cX12_isMarkSign 3 = .ok (.if_icmp .eq 57, 3) := by decide +kernel
theorem dX12_isMarkSign_6 : decode cX12_isMarkSign 6 = .ok (.iload_n 1, 1) := by decide +kernel
theorem dX12_isMarkSign_7 : decode cX12_isMarkSign 7 = .ok (.bipush 43, 2) := by decide +kernel
theorem dX12_isMarkSign_9 : decode cX12_isMarkSign 9 = .ok (.if_icmp .eq 51, 3) := by decide +kernel
theorem dX12_isMarkSign_12 : decode cX12_isMarkSign 12 = .ok (.iload_n 1, 1) := by decide +kernel
theorem dX12_isMarkSign_13 : decode cX12_isMarkSign 13 = .ok (.bipush 45, 2) := by decide +kernel
theorem dX12_isMarkSign_15 : decode cX12_isMarkSign 15 = .ok (.if_icmp .eq 45, 3) := by decide +kernel
theorem dX12_isMarkSign_18 : decode cX12_isMarkSign 18 = .ok (.iload_n 1, 1) := by decide +kernel
theorem dX12_isMarkSign_19 : decode cX12_isMarkSign 19 = .ok (.bipush 42, 2) := by decide +kernel
theorem dX12_isMarkSign_21 : decode cX12_isMarkSign 21 = .ok (.if_icmp .eq 39, 3) := by decide +kernel
theorem dX12_isMarkSign_24 : decode cX12_isMarkSign 24 = .ok (.iload_n 1, 1) := by decide +kernel
theorem dX12_isMarkSign_25 : decode cX12_isMarkSign 25 = .ok (.bipush 47, 2) := by decide +kernel
theorem dX12_isMarkSign_27 : decode cX12_isMarkSign 27 = .ok (.if_icmp .eq 33, 3) := by decide +kernel
theorem dX12_isMarkSign_30 : decode cX12_isMarkSign 30 = .ok (.iload_n 1, 1) := by decide +kernel
theorem dX12_isMarkSign_31 : decode cX12_isMarkSign 31 = .ok (.bipush 40, 2) := by decide +kernel
theorem dX12_isMarkSign_33 : decode cX12_isMarkSign 33 = .ok (.if_icmp .eq 27, 3) := by decide +kernel
theorem dX12_isMarkSign_36 : decode cX12_isMarkSign 36 = .ok (.iload_n 1, 1) := by decide +kernel
theorem dX12_isMarkSign_37 : decode cX12_isMarkSign 37 = .ok (.bipush 41, 2) := by decide +kernel
theorem dX12_isMarkSign_39 : decode cX12_isMarkSign 39 = .ok (.if_icmp .eq 21, 3) := by decide +kernel
theorem dX12_isMarkSign_42 : decode cX12_isMarkSign 42 = .ok (.iload_n 1, 1) := by decide +kernel
theorem dX12_isMarkSign_43 : decode cX12_isMarkSign 43 = .ok (.bipush 60, 2) := by decide +kernel
theorem dX12_isMarkSign_45 : decode cX12_isMarkSign 45 = .ok (.if_icmp .eq 15, 3) := by decide +kernel
theorem dX12_isMarkSign_48 : decode cX12_isMarkSign 48 = .ok (.iload_n 1, 1) := by decide +kernel
theorem dX12_isMarkSign_49 : decode cX12_isMarkSign 49 = .ok (.bipush 61, 2) := by decide +kernel
theorem dX12_isMarkSign_51 : decode cX12_isMarkSign 51 = .ok (.if_icmp .eq 9, 3) := by decide +kernel
theorem dX12_isMarkSign_54 : decode cX12_isMarkSign 54 = .ok (.iload_n 1, 1) := by decide +kernel
theorem dX12_isMarkSign_55 : decode cX12_isMarkSign 55 = .ok (.bipush 62, 2) := by decide +kernel
theorem dX12_isMarkSign_57 : decode cX12_isMarkSign 57 = .ok (.if_icmp .ne 7, 3) := by decide +kernel
theorem dX12_isMarkSign_60 : decode cX12_isMarkSign 60 = .ok (.iconst 1, 1) := by decide +kernel
theorem dX12_isMarkSign_61 : decode cX12_isMarkSign 61 = .ok (.goto 4, 3) := by decide +kernel
theorem dX12_isMarkSign_64 : decode cX12_isMarkSign 64 = .ok (.iconst 0, 1) := by decide +kernel
theorem dX12_isMarkSign_65 : decode cX12_isMarkSign 65 = .ok (.ireturn, 1) := by decide +kernel
theorem wp_X12_isMarkSign_0 {d : Nat} {s : ev_S} {Q : Option ev_V → ev_S → Prop} {a1 : Int}
    (h : ((a1 = 59 → Q (some (ev_i 1)) s) ∧ (a1 ≠ 59 → ((a1 = 43 → Q (some (ev_i 1)) s) ∧ (a1 ≠ 43 → ((a1 = 45 → Q (some (ev_i 1)) s) ∧ (a1 ≠ 45 → ((a1 = 42 → Q (some (ev_i 1)) s) ∧ (a1 ≠ 42 → ((a1 = 47 → Q (some (ev_i 1)) s) ∧ (a1 ≠ 47 → ((a1 = 40 → Q (some (ev_i 1)) s) ∧ (a1 ≠ 40 → ((a1 = 41 → Q (some (ev_i 1)) s) ∧ (a1 ≠ 41 → ((a1 = 60 → Q (some (ev_i 1)) s) ∧ (a1 ≠ 60 → ((a1 = 61 → Q (some (ev_i 1)) s) ∧ (a1 ≠ 61 → ((a1 ≠ 62 → Q (some (ev_i 0)) s) ∧ (a1 = 62 → Q (some (ev_i 1)) s))))))))))))))))))))) :
    Ev layM M_X12_isMarkSign d 0 [(0, ev_r 0), (1, ev_i a1)] [] s Q := by
  refine Ev_iload_n 1 dX12_isMarkSign_0 rfl rfl ?_
  refine Ev_bipushC dX12_isMarkSign_1 rfl ?_
  refine Ev_icmp_eq (tgt := 60) dX12_isMarkSign_3 rfl (fun c => ?_) (fun c => ?_)
  · replace h := h.1 c
    refine Ev_iconst dX12_isMarkSign_60 rfl (ev_Rc rfl) ?_
    refine Ev_goto (tgt := 65) dX12_isMarkSign_61 rfl ?_
    exact Ev_iret rfl dX12_isMarkSign_65 (ev_nb (by decide)) h
  · replace h := h.2 c
    refine Ev_iload_n 1 dX12_isMarkSign_6 rfl rfl ?_
    refine Ev_bipushC dX12_isMarkSign_7 rfl ?_
    refine Ev_icmp_eq (tgt := 60) dX12_isMarkSign_9 rfl (fun c => ?_) (fun c => ?_)
    · replace h := h.1 c
      refine Ev_iconst dX12_isMarkSign_60 rfl (ev_Rc rfl) ?_
      refine Ev_goto (tgt := 65) dX12_isMarkSign_61 rfl ?_
      exact Ev_iret rfl dX12_isMarkSign_65 (ev_nb (by decide)) h
    · replace h := h.2 c
      refine Ev_iload_n 1 dX12_isMarkSign_12 rfl rfl ?_
      refine Ev_bipushC dX12_isMarkSign_13 rfl ?_
      refine Ev_icmp_eq (tgt := 60) dX12_isMarkSign_15 rfl (fun c => ?_) (fun c => ?_)
      · replace h := h.1 c
        refine Ev_iconst dX12_isMarkSign_60 rfl (ev_Rc rfl) ?_
        refine Ev_goto (tgt := 65) dX12_isMarkSign_61 rfl ?_
        exact Ev_iret rfl dX12_isMarkSign_65 (ev_nb (by decide)) h
      · replace h := h.2 c
        refine Ev_iload_n 1 dX12_isMarkSign_18 rfl rfl ?_
        refine Ev_bipushC dX12_isMarkSign_19 rfl ?_
        refine Ev_icmp_eq (tgt := 60) dX12_isMarkSign_21 rfl (fun c => ?_) (fun c => ?_)
        · replace h := h.1 c
          refine Ev_iconst dX12_isMarkSign_60 rfl (ev_Rc rfl) ?_
          refine Ev_goto (tgt := 65) dX12_isMarkSign_61 rfl ?_
          exact Ev_iret rfl dX12_isMarkSign_65 (ev_nb (by decide)) h
        · replace h := h.2 c
          refine Ev_iload_n 1 dX12_isMarkSign_24 rfl rfl ?_
          refine Ev_bipushC dX12_isMarkSign_25 rfl ?_
          refine Ev_icmp_eq (tgt := 60) dX12_isMarkSign_27 rfl (fun c => ?_) (fun c => ?_)
          · replace h := h.1 c
            refine Ev_iconst dX12_isMarkSign_60 rfl (ev_Rc rfl) ?_
            refine Ev_goto (tgt := 65) dX12_isMarkSign_61 rfl ?_
            exact Ev_iret rfl dX12_isMarkSign_65 (ev_nb (by decide)) h
          · replace h := h.2 c
            refine Ev_iload_n 1 dX12_isMarkSign_30 rfl rfl ?_
            refine Ev_bipushC dX12_isMarkSign_31 rfl ?_
            refine Ev_icmp_eq (tgt := 60) dX12_isMarkSign_33 rfl (fun c => ?_) (fun c => ?_)
            · replace h := h.1 c
              refine Ev_iconst dX12_isMarkSign_60 rfl (ev_Rc rfl) ?_
              refine Ev_goto (tgt := 65) dX12_isMarkSign_61 rfl ?_
              exact Ev_iret rfl dX12_isMarkSign_65 (ev_nb (by decide)) h
            · replace h := h.2 c
              refine Ev_iload_n 1 dX12_isMarkSign_36 rfl rfl ?_
              refine Ev_bipushC dX12_isMarkSign_37 rfl ?_
              refine Ev_icmp_eq (tgt := 60) dX12_isMarkSign_39 rfl (fun c => ?_) (fun c => ?_)
              · replace h := h.1 c
                refine Ev_iconst dX12_isMarkSign_60 rfl (ev_Rc rfl) ?_
                refine Ev_goto (tgt := 65) dX12_isMarkSign_61 rfl ?_
                exact Ev_iret rfl dX12_isMarkSign_65 (ev_nb (by decide)) h
              · replace h := h.2 c
                refine Ev_iload_n 1 dX12_isMarkSign_42 rfl rfl ?_
                refine Ev_bipushC dX12_isMarkSign_43 rfl ?_
                refine Ev_icmp_eq (tgt := 60) dX12_isMarkSign_45 rfl (fun c => ?_) (fun c => ?_)
                · replace h := h.1 c
                  refine Ev_iconst dX12_isMarkSign_60 rfl (ev_Rc rfl) ?_
                  refine Ev_goto (tgt := 65) dX12_isMarkSign_61 rfl ?_
                  exact Ev_iret rfl dX12_isMarkSign_65 (ev_nb (by decide)) h
                · replace h := h.2 c
                  refine Ev_iload_n 1 dX12_isMarkSign_48 rfl rfl ?_
                  refine Ev_bipushC dX12_isMarkSign_49 rfl ?_
                  refine Ev_icmp_eq (tgt := 60) dX12_isMarkSign_51 rfl (fun c => ?_) (fun c => ?_)
                  · replace h := h.1 c
                    refine Ev_iconst dX12_isMarkSign_60 rfl (ev_Rc rfl) ?_
                    refine Ev_goto (tgt := 65) dX12_isMarkSign_61 rfl ?_
                    exact Ev_iret rfl dX12_isMarkSign_65 (ev_nb (by decide)) h
                  · replace h := h.2 c
                    refine Ev_iload_n 1 dX12_isMarkSign_54 rfl rfl ?_
                    refine Ev_bipushC dX12_isMarkSign_55 rfl ?_
                    refine Ev_icmp_ne (tgt := 64) dX12_isMarkSign_57 rfl (fun c => ?_) (fun c => ?_)
                    · replace h := h.1 c
                      refine Ev_iconst dX12_isMarkSign_64 rfl (ev_Rc rfl) ?_
                      exact Ev_iret rfl dX12_isMarkSign_65 (ev_nb (by decide)) h
                    · replace h := h.2 c
                      refine Ev_iconst dX12_isMarkSign_60 rfl (ev_Rc rfl) ?_
                      refine Ev_goto (tgt := 65) dX12_isMarkSign_61 rfl ?_
                      exact Ev_iret rfl dX12_isMarkSign_65 (ev_nb (by decide)) h
theorem dX12_wordAt_0 : decode cX12_wordAt 0 = .ok (.iconst (-1), 1) := by decide +kernel
theorem dX12_wordAt_1 : decode cX12_wordAt 1 = .ok (.istore_n 3, 1) := by decide +kernel
theorem dX12_wordAt_2 : decode cX12_wordAt 2 = .ok (.iconst 0, 1) := by decide +kernel
theorem dX12_wordAt_3 : decode cX12_wordAt 3 = .ok (.istore 4, 2) := by decide +kernel
theorem dX12_wordAt_5 : decode cX12_wordAt 5 = .ok (.iload 4, 2) := by decide +kernel
theorem dX12_wordAt_7 : decode cX12_wordAt 7 = .ok (.sipush 177, 3) := by decide +kernel
theorem dX12_wordAt_10 : decode cX12_wordAt 10 = .ok (.if_icmp .ge 108, 3) := by decide +kernel
theorem dX12_wordAt_13 : decode cX12_wordAt 13 = .ok (.iconst 0, 1) := by decide +kernel
theorem dX12_wordAt_14 : decode cX12_wordAt 14 = .ok (.istore 5, 2) := by decide +kernel
theorem dX12_wordAt_16 : decode cX12_wordAt 16 = .ok (.iload_n 3, 1) := by decide +kernel
theorem dX12_wordAt_17 : decode cX12_wordAt 17 = .ok (.iconst 1, 1) := by decide +kernel
theorem dX12_wordAt_18 : decode cX12_wordAt 18 = .ok (.iadd, 1) := by decide +kernel
theorem dX12_wordAt_19 : decode cX12_wordAt 19 = .ok (.istore_n 3, 1) := by decide +kernel
theorem dX12_wordAt_20 : decode cX12_wordAt 20 = .ok (.iload_n 1, 1) := by decide +kernel
theorem dX12_wordAt_21 : decode cX12_wordAt 21 = .ok (.iload 5, 2) := by decide +kernel
theorem dX12_wordAt_23 : decode cX12_wordAt 23 = .ok (.iadd, 1) := by decide +kernel
theorem dX12_wordAt_24 : decode cX12_wordAt 24 = .ok (.iload_n 2, 1) := by decide +kernel
theorem dX12_wordAt_25 : decode cX12_wordAt 25 = .ok (.if_icmp .ge 36, 3) := by decide +kernel
theorem dX12_wordAt_28 : decode cX12_wordAt 28 = .ok (.aload_n 0, 1) := by decide +kernel
theorem dX12_wordAt_29 : decode cX12_wordAt 29 = .ok (.getfield 40, 3) := by decide +kernel
theorem dX12_wordAt_32 : decode cX12_wordAt 32 = .ok (.iload 4, 2) := by decide +kernel
theorem dX12_wordAt_34 : decode cX12_wordAt 34 = .ok (.iconst 1, 1) := by decide +kernel
theorem dX12_wordAt_35 : decode cX12_wordAt 35 = .ok (.iadd, 1) := by decide +kernel
theorem dX12_wordAt_36 : decode cX12_wordAt 36 = .ok (.iload 5, 2) := by decide +kernel
theorem dX12_wordAt_38 : decode cX12_wordAt 38 = .ok (.iadd, 1) := by decide +kernel
theorem dX12_wordAt_39 : decode cX12_wordAt 39 = .ok (.iaload, 1) := by decide +kernel
theorem dX12_wordAt_40 : decode cX12_wordAt 40 = .ok (.aload_n 0, 1) := by decide +kernel
theorem dX12_wordAt_41 : decode cX12_wordAt 41 = .ok (.getfield 37, 3) := by decide +kernel
theorem dX12_wordAt_44 : decode cX12_wordAt 44 = .ok (.iload_n 1, 1) := by decide +kernel
theorem dX12_wordAt_45 : decode cX12_wordAt 45 = .ok (.iload 5, 2) := by decide +kernel
theorem dX12_wordAt_47 : decode cX12_wordAt 47 = .ok (.iadd, 1) := by decide +kernel
theorem dX12_wordAt_48 : decode cX12_wordAt 48 = .ok (.iaload, 1) := by decide +kernel
theorem dX12_wordAt_49 : decode cX12_wordAt 49 = .ok (.if_icmp .ne 12, 3) := by decide +kernel
theorem dX12_wordAt_52 : decode cX12_wordAt 52 = .ok (.iload 5, 2) := by decide +kernel
theorem dX12_wordAt_54 : decode cX12_wordAt 54 = .ok (.iconst 1, 1) := by decide +kernel
theorem dX12_wordAt_55 : decode cX12_wordAt 55 = .ok (.iadd, 1) := by decide +kernel
theorem dX12_wordAt_56 : decode cX12_wordAt 56 = .ok (.istore 5, 2) := by decide +kernel
theorem dX12_wordAt_58 : decode cX12_wordAt 58 = .ok (.goto (-38), 3) := by decide +kernel
theorem dX12_wordAt_61 : decode cX12_wordAt 61 = .ok (.iload_n 1, 1) := by decide +kernel
theorem dX12_wordAt_62 : decode cX12_wordAt 62 = .ok (.iload 5, 2) := by decide +kernel
theorem dX12_wordAt_64 : decode cX12_wordAt 64 = .ok (.iadd, 1) := by decide +kernel
theorem dX12_wordAt_65 : decode cX12_wordAt 65 = .ok (.iload_n 2, 1) := by decide +kernel
theorem dX12_wordAt_66 : decode cX12_wordAt 66 = .ok (.if_icmp .ne 22, 3) := by decide +kernel
theorem dX12_wordAt_69 : decode cX12_wordAt 69 = .ok (.aload_n 0, 1) := by decide +kernel
theorem dX12_wordAt_70 : decode cX12_wordAt 70 = .ok (.getfield 40, 3) := by decide +kernel
theorem dX12_wordAt_73 : decode cX12_wordAt 73 = .ok (.iload 4, 2) := by decide +kernel
theorem dX12_wordAt_75 : decode cX12_wordAt 75 = .ok (.iconst 1, 1) := by decide +kernel
theorem dX12_wordAt_76 : decode cX12_wordAt 76 = .ok (.iadd, 1) := by decide +kernel
theorem dX12_wordAt_77 : decode cX12_wordAt 77 = .ok (.iload 5, 2) := by decide +kernel
theorem dX12_wordAt_79 : decode cX12_wordAt 79 = .ok (.iadd, 1) := by decide +kernel
theorem dX12_wordAt_80 : decode cX12_wordAt 80 = .ok (.iaload, 1) := by decide +kernel
theorem dX12_wordAt_81 : decode cX12_wordAt 81 = .ok (.bipush 32, 2) := by decide +kernel
theorem dX12_wordAt_83 : decode cX12_wordAt 83 = .ok (.if_icmp .ne 5, 3) := by decide +kernel
theorem dX12_wordAt_86 : decode cX12_wordAt 86 = .ok (.iload_n 3, 1) := by decide +kernel
theorem dX12_wordAt_87 : decode cX12_wordAt 87 = .ok (.ireturn, 1) := by decide +kernel
theorem dX12_wordAt_88 : decode cX12_wordAt 88 = .ok (.iload 4, 2) := by decide +kernel
theorem dX12_wordAt_90 : decode cX12_wordAt 90 = .ok (.iconst 1, 1) := by decide +kernel
theorem dX12_wordAt_91 : decode cX12_wordAt 91 = .ok (.iadd, 1) := by decide +kernel
theorem dX12_wordAt_92 : decode cX12_wordAt 92 = .ok (.istore 4, 2) := by decide +kernel
theorem dX12_wordAt_94 : decode cX12_wordAt 94 = .ok (.aload_n 0, 1) := by decide +kernel
theorem dX12_wordAt_95 : decode cX12_wordAt 95 = .ok (.getfield 40, 3) := by decide +kernel
theorem dX12_wordAt_98 : decode cX12_wordAt 98 = .ok (.iload 4, 2) := by decide +kernel
theorem dX12_wordAt_100 : decode cX12_wordAt 100 = .ok (.iaload, 1) := by decide +kernel
theorem dX12_wordAt_101 : decode cX12_wordAt 101 = .ok (.bipush 32, 2) := by decide +kernel
theorem dX12_wordAt_103 : decode cX12_wordAt 103 = .ok (.if_icmp .eq 12, 3) := by decide +kernel
theorem dX12_wordAt_106 : decode cX12_wordAt 106 = .ok (.iload 4, 2) := by decide +kernel
theorem dX12_wordAt_108 : decode cX12_wordAt 108 = .ok (.iconst 1, 1) := by decide +kernel
theorem dX12_wordAt_109 : decode cX12_wordAt 109 = .ok (.iadd, 1) := by decide +kernel
theorem dX12_wordAt_110 : decode cX12_wordAt 110 = .ok (.istore 4, 2) := by decide +kernel
theorem dX12_wordAt_112 : decode cX12_wordAt 112 = .ok (.goto (-18), 3) := by decide +kernel
theorem dX12_wordAt_115 : decode cX12_wordAt 115 = .ok (.goto (-110), 3) := by decide +kernel
theorem dX12_wordAt_118 : decode cX12_wordAt 118 = .ok (.iconst (-1), 1) := by decide +kernel
theorem dX12_wordAt_119 : decode cX12_wordAt 119 = .ok (.ireturn, 1) := by decide +kernel
theorem wp_X12_wordAt_0 {d : Nat} {s : ev_S} {Q : Option ev_V → ev_S → Prop} {a1 a2 : Int}
    (h : Ev layM M_X12_wordAt d 5 [(0, ev_r 0), (1, ev_i a1), (2, ev_i a2), (3, ev_i (-1)), (4, ev_i 0)] [] s Q) :
    Ev layM M_X12_wordAt d 0 [(0, ev_r 0), (1, ev_i a1), (2, ev_i a2)] [] s Q := by
  refine Ev_iconst dX12_wordAt_0 rfl (ev_Rc rfl) ?_
  refine Ev_istore_n (l' := [(3, ev_i (-1)), (0, ev_r 0), (1, ev_i a1), (2, ev_i a2)]) dX12_wordAt_1 rfl (Nat.le_of_ble_eq_true rfl) rfl ?_
  refine Ev_iconst dX12_wordAt_2 rfl (ev_Rc rfl) ?_
  refine Ev_istore (l' := [(4, ev_i 0), (3, ev_i (-1)), (0, ev_r 0), (1, ev_i a1), (2, ev_i a2)]) dX12_wordAt_3 (Nat.le_of_ble_eq_true rfl) rfl ?_
  exact Ev_sub [2, 3, 4, 1, 0] rfl h
theorem wp_X12_wordAt_5 {d : Nat} {s : ev_S} {Q : Option ev_V → ev_S → Prop} {a1 a2 a3 a4 : Int}
    (h : ((177 ≤ a4 → Q (some (ev_i (-1))) s) ∧ (a4 < 177 → Ev layM M_X12_wordAt d 20 [(0, ev_r 0), (1, ev_i a1), (2, ev_i a2), (3, ev_i (ev_add a3 1)), (4, ev_i a4), (5, ev_i 0)] [] s Q))) :
    Ev layM M_X12_wordAt d 5 [(0, ev_r 0), (1, ev_i a1), (2, ev_i a2), (3, ev_i a3), (4, ev_i a4)] [] s Q := by
  refine Ev_iload 4 dX12_wordAt_5 rfl ?_
  refine Ev_sipushC dX12_wordAt_7 rfl ?_
  refine Ev_icmp_ge (tgt := 118) dX12_wordAt_10 rfl (fun c => ?_) (fun c => ?_)
  · replace h := h.1 c
    refine Ev_iconst dX12_wordAt_118 rfl (ev_Rc rfl) ?_
    exact Ev_iret rfl dX12_wordAt_119 rfl h
  · replace h := h.2 c
    refine Ev_iconst dX12_wordAt_13 rfl (ev_Rc rfl) ?_
    refine Ev_istore (l' := [(5, ev_i 0), (0, ev_r 0), (1, ev_i a1), (2, ev_i a2), (3, ev_i a3), (4, ev_i a4)]) dX12_wordAt_14 (Nat.le_of_ble_eq_true rfl) rfl ?_
    refine Ev_iload_n 4 dX12_wordAt_16 rfl rfl ?_
    refine Ev_iconst dX12_wordAt_17 rfl (ev_Rc rfl) ?_
    refine Ev_iadd dX12_wordAt_18 ?_
    refine Ev_istore_n (l' := [(3, ev_i (ev_add a3 1)), (5, ev_i 0), (0, ev_r 0), (1, ev_i a1), (2, ev_i a2), (4, ev_i a4)]) dX12_wordAt_19 rfl (Nat.le_of_ble_eq_true rfl) rfl ?_
    exact Ev_sub [2, 3, 4, 0, 5, 1] rfl h
theorem wp_X12_wordAt_20 {d : Nat} {s : ev_S} {Q : Option ev_V → ev_S → Prop} {a1 a2 a3 a4 a5 : Int}
    (h : ((a2 ≤ (ev_add a1 a5) → Ev layM M_X12_wordAt d 61 [(0, ev_r 0), (1, ev_i a1), (2, ev_i a2), (3, ev_i a3), (4, ev_i a4), (5, ev_i a5)] [] s Q) ∧ ((ev_add a1 a5) < a2 → ((0 ≤ (ev_add (ev_add a4 1) a5) ∧ (ev_add (ev_add a4 1) a5) < (178 : Nat)) ∧ ((0 ≤ (ev_add a1 a5) ∧ (ev_add a1 a5) < (400 : Nat)) ∧ (((s 11 (Int.toNat (ev_add (ev_add a4 1) a5))) ≠ (s 10 (Int.toNat (ev_add a1 a5))) → Ev layM M_X12_wordAt d 61 [(0, ev_r 0), (1, ev_i a1), (2, ev_i a2), (3, ev_i a3), (4, ev_i a4), (5, ev_i a5)] [] s Q) ∧ ((s 11 (Int.toNat (ev_add (ev_add a4 1) a5))) = (s 10 (Int.toNat (ev_add a1 a5))) → Ev layM M_X12_wordAt d 20 [(0, ev_r 0), (1, ev_i a1), (2, ev_i a2), (3, ev_i a3), (4, ev_i a4), (5, ev_i (ev_add a5 1))] [] s Q))))))) :
    Ev layM M_X12_wordAt d 20 [(0, ev_r 0), (1, ev_i a1), (2, ev_i a2), (3, ev_i a3), (4, ev_i a4), (5, ev_i a5)] [] s Q := by
  refine Ev_iload_n 1 dX12_wordAt_20 rfl rfl ?_
  refine Ev_iload 5 dX12_wordAt_21 rfl ?_
  refine Ev_iadd dX12_wordAt_23 ?_
  refine Ev_iload_n 2 dX12_wordAt_24 rfl rfl ?_
  refine Ev_icmp_ge (tgt := 61) dX12_wordAt_25 rfl (fun c => ?_) (fun c => ?_)
  · replace h := h.1 c
    exact Ev_sub [0, 1, 2, 3, 4, 5] rfl h
  · replace h := h.2 c
    refine Ev_aload_n 0 dX12_wordAt_28 rfl rfl ?_
    refine Ev_getR (i := 24) cl_X12 yM_0 (Nat.le_of_ble_eq_true rfl) rfl wd_1468 dX12_wordAt_29 ?_
    refine Ev_iload 4 dX12_wordAt_32 rfl ?_
    refine Ev_iconst dX12_wordAt_34 rfl (ev_Rc rfl) ?_
    refine Ev_iadd dX12_wordAt_35 ?_
    refine Ev_iload 5 dX12_wordAt_36 rfl ?_
    refine Ev_iadd dX12_wordAt_38 ?_
    obtain ⟨h0, h⟩ := h
    refine Ev_iald yM_11 h0 dX12_wordAt_39 ?_
    refine Ev_aload_n 0 dX12_wordAt_40 rfl rfl ?_
    refine Ev_getR (i := 18) cl_X12 yM_0 (Nat.le_of_ble_eq_true rfl) rfl wd_1462 dX12_wordAt_41 ?_
    refine Ev_iload_n 1 dX12_wordAt_44 rfl rfl ?_
    refine Ev_iload 5 dX12_wordAt_45 rfl ?_
    refine Ev_iadd dX12_wordAt_47 ?_
    obtain ⟨h0, h⟩ := h
    refine Ev_iald yM_10 h0 dX12_wordAt_48 ?_
    refine Ev_icmp_ne (tgt := 61) dX12_wordAt_49 rfl (fun c => ?_) (fun c => ?_)
    · replace h := h.1 c
      exact Ev_sub [0, 1, 2, 3, 4, 5] rfl h
    · replace h := h.2 c
      refine Ev_iload 5 dX12_wordAt_52 rfl ?_
      refine Ev_iconst dX12_wordAt_54 rfl (ev_Rc rfl) ?_
      refine Ev_iadd dX12_wordAt_55 ?_
      refine Ev_istore (l' := [(5, ev_i (ev_add a5 1)), (0, ev_r 0), (1, ev_i a1), (2, ev_i a2), (3, ev_i a3), (4, ev_i a4)]) dX12_wordAt_56 (Nat.le_of_ble_eq_true rfl) rfl ?_
      refine Ev_goto (tgt := 20) dX12_wordAt_58 rfl ?_
      exact Ev_sub [1, 2, 3, 4, 5, 0] rfl h
theorem wp_X12_wordAt_61 {d : Nat} {s : ev_S} {Q : Option ev_V → ev_S → Prop} {a1 a2 a3 a4 a5 : Int}
    (h : (((ev_add a1 a5) ≠ a2 → Ev layM M_X12_wordAt d 94 [(0, ev_r 0), (1, ev_i a1), (2, ev_i a2), (3, ev_i a3), (4, ev_i (ev_add a4 1))] [] s Q) ∧ ((ev_add a1 a5) = a2 → ((0 ≤ (ev_add (ev_add a4 1) a5) ∧ (ev_add (ev_add a4 1) a5) < (178 : Nat)) ∧ (((s 11 (Int.toNat (ev_add (ev_add a4 1) a5))) ≠ 32 → Ev layM M_X12_wordAt d 94 [(0, ev_r 0), (1, ev_i a1), (2, ev_i a2), (3, ev_i a3), (4, ev_i (ev_add a4 1))] [] s Q) ∧ ((s 11 (Int.toNat (ev_add (ev_add a4 1) a5))) = 32 → Q (some (ev_i a3)) s)))))) :
    Ev layM M_X12_wordAt d 61 [(0, ev_r 0), (1, ev_i a1), (2, ev_i a2), (3, ev_i a3), (4, ev_i a4), (5, ev_i a5)] [] s Q := by
  refine Ev_iload_n 1 dX12_wordAt_61 rfl rfl ?_
  refine Ev_iload 5 dX12_wordAt_62 rfl ?_
  refine Ev_iadd dX12_wordAt_64 ?_
  refine Ev_iload_n 2 dX12_wordAt_65 rfl rfl ?_
  refine Ev_icmp_ne (tgt := 88) dX12_wordAt_66 rfl (fun c => ?_) (fun c => ?_)
  · replace h := h.1 c
    refine Ev_iload 4 dX12_wordAt_88 rfl ?_
    refine Ev_iconst dX12_wordAt_90 rfl (ev_Rc rfl) ?_
    refine Ev_iadd dX12_wordAt_91 ?_
    refine Ev_istore (l' := [(4, ev_i (ev_add a4 1)), (0, ev_r 0), (1, ev_i a1), (2, ev_i a2), (3, ev_i a3), (5, ev_i a5)]) dX12_wordAt_92 (Nat.le_of_ble_eq_true rfl) rfl ?_
    exact Ev_sub [1, 2, 3, 4, 0] rfl h
  · replace h := h.2 c
    refine Ev_aload_n 0 dX12_wordAt_69 rfl rfl ?_
    refine Ev_getR (i := 24) cl_X12 yM_0 (Nat.le_of_ble_eq_true rfl) rfl wd_1468 dX12_wordAt_70 ?_
    refine Ev_iload 4 dX12_wordAt_73 rfl ?_
    refine Ev_iconst dX12_wordAt_75 rfl (ev_Rc rfl) ?_
    refine Ev_iadd dX12_wordAt_76 ?_
    refine Ev_iload 5 dX12_wordAt_77 rfl ?_
    refine Ev_iadd dX12_wordAt_79 ?_
    obtain ⟨h0, h⟩ := h
    refine Ev_iald yM_11 h0 dX12_wordAt_80 ?_
    refine Ev_bipushC dX12_wordAt_81 rfl ?_
    refine Ev_icmp_ne (tgt := 88) dX12_wordAt_83 rfl (fun c => ?_) (fun c => ?_)
    · replace h := h.1 c
      refine Ev_iload 4 dX12_wordAt_88 rfl ?_
      refine Ev_iconst dX12_wordAt_90 rfl (ev_Rc rfl) ?_
      refine Ev_iadd dX12_wordAt_91 ?_
      refine Ev_istore (l' := [(4, ev_i (ev_add a4 1)), (0, ev_r 0), (1, ev_i a1), (2, ev_i a2), (3, ev_i a3), (5, ev_i a5)]) dX12_wordAt_92 (Nat.le_of_ble_eq_true rfl) rfl ?_
      exact Ev_sub [1, 2, 3, 4, 0] rfl h
    · replace h := h.2 c
      refine Ev_iload_n 3 dX12_wordAt_86 rfl rfl ?_
      exact Ev_iret rfl dX12_wordAt_87 rfl h
theorem wp_X12_wordAt_94 {d : Nat} {s : ev_S} {Q : Option ev_V → ev_S → Prop} {a1 a2 a3 a4 : Int}
    (h : ((0 ≤ a4 ∧ a4 < (178 : Nat)) ∧ (((s 11 (Int.toNat a4)) = 32 → Ev layM M_X12_wordAt d 5 [(0, ev_r 0), (1, ev_i a1), (2, ev_i a2), (3, ev_i a3), (4, ev_i a4)] [] s Q) ∧ ((s 11 (Int.toNat a4)) ≠ 32 → Ev layM M_X12_wordAt d 94 [(0, ev_r 0), (1, ev_i a1), (2, ev_i a2), (3, ev_i a3), (4, ev_i (ev_add a4 1))] [] s Q)))) :
    Ev layM M_X12_wordAt d 94 [(0, ev_r 0), (1, ev_i a1), (2, ev_i a2), (3, ev_i a3), (4, ev_i a4)] [] s Q := by
  refine Ev_aload_n 0 dX12_wordAt_94 rfl rfl ?_
  refine Ev_getR (i := 24) cl_X12 yM_0 (Nat.le_of_ble_eq_true rfl) rfl wd_1468 dX12_wordAt_95 ?_
  refine Ev_iload 4 dX12_wordAt_98 rfl ?_
  obtain ⟨h0, h⟩ := h
  refine Ev_iald yM_11 h0 dX12_wordAt_100 ?_
  refine Ev_bipushC dX12_wordAt_101 rfl ?_
  refine Ev_icmp_eq (tgt := 115) dX12_wordAt_103 rfl (fun c => ?_) (fun c => ?_)
  · replace h := h.1 c
    refine Ev_goto (tgt := 5) dX12_wordAt_115 rfl ?_
    exact Ev_sub [0, 1, 2, 3, 4] rfl h
  · replace h := h.2 c
    refine Ev_iload 4 dX12_wordAt_106 rfl ?_
    refine Ev_iconst dX12_wordAt_108 rfl (ev_Rc rfl) ?_
    refine Ev_iadd dX12_wordAt_109 ?_
    refine Ev_istore (l' := [(4, ev_i (ev_add a4 1)), (0, ev_r 0), (1, ev_i a1), (2, ev_i a2), (3, ev_i a3)]) dX12_wordAt_110 (Nat.le_of_ble_eq_true rfl) rfl ?_
    refine Ev_goto (tgt := 94) dX12_wordAt_112 rfl ?_
    exact Ev_sub [1, 2, 3, 4, 0] rfl h
theorem dX12_reads_0 : decode cX12_reads 0 = .ok (.aload_n 0, 1) := by decide +kernel
theorem dX12_reads_1 : decode cX12_reads 1 = .ok (.aload_n 0, 1) := by decide +kernel
theorem dX12_reads_2 : decode cX12_reads 2 = .ok (.getfield 185, 3) := by decide +kernel
theorem dX12_reads_5 : decode cX12_reads 5 = .ok (.invokevirtual 188, 3) := by decide +kernel
theorem dX12_reads_8 : decode cX12_reads 8 = .ok (.bipush 32, 2) := by decide +kernel
theorem dX12_reads_10 : decode cX12_reads 10 = .ok (.if_icmp .eq 16, 3) := by decide +kernel
theorem dX12_reads_13 : decode cX12_reads 13 = .ok (.aload_n 0, 1) := by decide +kernel
theorem dX12_reads_14 : decode cX12_reads 14 = .ok (.aload_n 0, 1) := by decide +kernel
theorem dX12_reads_15 : decode cX12_reads 15 = .ok (.getfield 185, 3) := by decide +kernel
theorem dX12_reads_18 : decode cX12_reads 18 = .ok (.invokevirtual 188, 3) := by decide +kernel
theorem dX12_reads_21 : decode cX12_reads 21 = .ok (.bipush 10, 2) := by decide +kernel
theorem dX12_reads_23 : decode cX12_reads 23 = .ok (.if_icmp .ne 16, 3) := by decide +kernel
theorem dX12_reads_26 : decode cX12_reads 26 = .ok (.aload_n 0, 1) := by decide +kernel
theorem dX12_reads_27 : decode cX12_reads 27 = .ok (.aload_n 0, 1) := by decide +kernel
theorem dX12_reads_28 : decode cX12_reads 28 = .ok (.getfield 185, 3) := by decide +kernel
theorem dX12_reads_31 : decode cX12_reads 31 = .ok (.iconst 1, 1) := by decide +kernel
theorem dX12_reads_32 : decode cX12_reads 32 = .ok (.iadd, 1) := by decide +kernel
theorem dX12_reads_33 : decode cX12_reads 33 = .ok (.putfield 185, 3) := by decide +kernel
theorem dX12_reads_36 : decode cX12_reads 36 = .ok (.goto (-36), 3) := by decide +kernel
theorem dX12_reads_39 : decode cX12_reads 39 = .ok (.aload_n 0, 1) := by decide +kernel
theorem dX12_reads_40 : decode cX12_reads 40 = .ok (.aload_n 0, 1) := by decide +kernel
theorem dX12_reads_41 : decode cX12_reads 41 = .ok (.getfield 185, 3) := by decide +kernel
theorem dX12_reads_44 : decode cX12_reads 44 = .ok (.putfield 191, 3) := by decide +kernel
theorem dX12_reads_47 : decode cX12_reads 47 = .ok (.aload_n 0, 1) := by decide +kernel
theorem dX12_reads_48 : decode cX12_reads 48 = .ok (.iconst 1, 1) := by decide +kernel
theorem dX12_reads_49 : decode cX12_reads 49 = .ok (.putfield 194, 3) := by decide +kernel
theorem dX12_reads_52 : decode cX12_reads 52 = .ok (.aload_n 0, 1) := by decide +kernel
theorem dX12_reads_53 : decode cX12_reads 53 = .ok (.aload_n 0, 1) := by decide +kernel
theorem dX12_reads_54 : decode cX12_reads 54 = .ok (.getfield 185, 3) := by decide +kernel
theorem dX12_reads_57 : decode cX12_reads 57 = .ok (.invokevirtual 188, 3) := by decide +kernel
theorem dX12_reads_60 : decode cX12_reads 60 = .ok (.istore_n 1, 1) := by decide +kernel
theorem dX12_reads_61 : decode cX12_reads 61 = .ok (.iload_n 1, 1) := by decide +kernel
theorem dX12_reads_62 : decode cX12_reads 62 = .ok (.iconst (-1), 1) := by decide +kernel
theorem dX12_reads_63 : decode cX12_reads 63 = .ok (.if_icmp .ne 9, 3) := by decide +kernel
theorem dX12_reads_66 : decode cX12_reads 66 = .ok (.aload_n 0, 1) := by decide +kernel
theorem dX12_reads_67 : decode cX12_reads 67 = .ok (.iconst 0, 1) := by decide +kernel
theorem dX12_reads_68 : decode cX12_reads 68 = .ok (.putfield 194, 3) := by decide +kernel
theorem dX12_reads_71 : decode cX12_reads 71 = .ok (.return_, 1) := by decide +kernel
theorem dX12_reads_72 : decode cX12_reads 72 = .ok (.aload_n 0, 1) := by decide +kernel
theorem dX12_reads_73 : decode cX12_reads 73 = .ok (.aload_n 0, 1) := by decide +kernel
theorem dX12_reads_74 : decode cX12_reads 74 = .ok (.getfield 185, 3) := by decide +kernel
theorem dX12_reads_77 : decode cX12_reads 77 = .ok (.iconst 1, 1) := by decide +kernel
theorem dX12_reads_78 : decode cX12_reads 78 = .ok (.iadd, 1) := by decide +kernel
theorem dX12_reads_79 : decode cX12_reads 79 = .ok (.putfield 185, 3) := by decide +kernel
theorem dX12_reads_82 : decode cX12_reads 82 = .ok (.aload_n 0, 1) := by decide +kernel
theorem dX12_reads_83 : decode cX12_reads 83 = .ok (.iload_n 1, 1) := by decide +kernel
theorem dX12_reads_84 : decode cX12_reads 84 = .ok (.putfield 197, 3) := by decide +kernel
theorem dX12_reads_87 : decode cX12_reads 87 = .ok (.aload_n 0, 1) := by decide +kernel
theorem dX12_reads_88 : decode cX12_reads 88 = .ok (.iload_n 1, 1) := by decide +kernel
theorem dX12_reads_89 : decode cX12_reads 89 = .ok (.invokevirtual 200, 3) := by decide +kernel
theorem dX12_reads_92 : decode cX12_reads 92 = .ok (.ifCond .eq 63, 3) := by decide +kernel
theorem dX12_reads_95 : decode cX12_reads 95 = .ok (.aload_n 0, 1) := by decide +kernel
theorem dX12_reads_96 : decode cX12_reads 96 = .ok (.aload_n 0, 1) := by decide +kernel
theorem dX12_reads_97 : decode cX12_reads 97 = .ok (.aload_n 0, 1) := by decide +kernel
theorem dX12_reads_98 : decode cX12_reads 98 = .ok (.getfield 185, 3) := by decide +kernel
theorem dX12_reads_101 : decode cX12_reads 101 = .ok (.invokevirtual 188, 3) := by decide +kernel
theorem dX12_reads_104 : decode cX12_reads 104 = .ok (.invokevirtual 200, 3) := by decide +kernel
theorem dX12_reads_107 : decode cX12_reads 107 = .ok (.ifCond .eq 16, 3) := by decide +kernel
theorem dX12_reads_110 : decode cX12_reads 110 = .ok (.aload_n 0, 1) := by decide +kernel
theorem dX12_reads_111 : decode cX12_reads 111 = .ok (.aload_n 0, 1) := by decide +kernel
theorem dX12_reads_112 : decode cX12_reads 112 = .ok (.getfield 185, 3) := by decide +kernel
theorem dX12_reads_115 : decode cX12_reads 115 = .ok (.iconst 1, 1) := by decide +kernel
theorem dX12_reads_116 : decode cX12_reads 116 = .ok (.iadd, 1) := by decide +kernel
theorem dX12_reads_117 : decode cX12_reads 117 = .ok (.putfield 185, 3) := by decide +kernel
theorem dX12_reads_120 : decode cX12_reads 120 = .ok (.goto (-25), 3) := by decide +kernel
theorem dX12_reads_123 : decode cX12_reads 123 = .ok (.aload_n 0, 1) := by decide +kernel
theorem dX12_reads_124 : decode cX12_reads 124 = .ok (.aload_n 0, 1) := by decide +kernel
theorem dX12_reads_125 : decode cX12_reads 125 = .ok (.aload_n 0, 1) := by decide +kernel
theorem dX12_reads_126 : decode cX12_reads 126 = .ok (.getfield 191, 3) := by decide +kernel
theorem dX12_reads_129 : decode cX12_reads 129 = .ok (.aload_n 0, 1) := by decide +kernel
theorem dX12_reads_130 : decode cX12_reads 130 = .ok (.getfield 185, 3) := by decide +kernel
theorem dX12_reads_133 : decode cX12_reads 133 = .ok (.invokevirtual 203, 3) := by decide +kernel
theorem dX12_reads_136 : decode cX12_reads 136 = .ok (.putfield 197, 3) := by decide +kernel
theorem dX12_reads_139 : decode cX12_reads 139 = .ok (.aload_n 0, 1) := by decide +kernel
theorem dX12_reads_140 : decode cX12_reads 140 = .ok (.getfield 197, 3) := by decide +kernel
theorem dX12_reads_143 : decode cX12_reads 143 = .ok (.iconst (-1), 1) := by decide +kernel
theorem dX12_reads_144 : decode cX12_reads 144 = .ok (.if_icmp .eq 129, 3) := by decide +kernel
theorem dX12_reads_147 : decode cX12_reads 147 = .ok (.aload_n 0, 1) := by decide +kernel
theorem dX12_reads_148 : decode cX12_reads 148 = .ok (.iconst 2, 1) := by decide +kernel
theorem dX12_reads_149 : decode cX12_reads 149 = .ok (.putfield 194, 3) := by decide +kernel
theorem dX12_reads_152 : decode cX12_reads 152 = .ok (.goto 121, 3) := by decide +kernel
theorem dX12_reads_155 : decode cX12_reads 155 = .ok (.aload_n 0, 1) := by decide +kernel
theorem dX12_reads_156 : decode cX12_reads 156 = .ok (.iload_n 1, 1) := by decide +kernel
theorem dX12_reads_157 : decode cX12_reads 157 = .ok (.invokevirtual 207, 3) := by decide +kernel
theorem dX12_reads_160 : decode cX12_reads 160 = .ok (.ifCond .eq 100, 3) := by decide +kernel
theorem dX12_reads_163 : decode cX12_reads 163 = .ok (.aload_n 0, 1) := by decide +kernel
theorem dX12_reads_164 : decode cX12_reads 164 = .ok (.iload_n 1, 1) := by decide +kernel
theorem dX12_reads_165 : decode cX12_reads 165 = .ok (.bipush 48, 2) := by decide +kernel
theorem dX12_reads_167 : decode cX12_reads 167 = .ok (.isub, 1) := by decide +kernel
theorem dX12_reads_168 : decode cX12_reads 168 = .ok (.putfield 197, 3) := by decide +kernel
theorem dX12_reads_171 : decode cX12_reads 171 = .ok (.aload_n 0, 1) := by decide +kernel
theorem dX12_reads_172 : decode cX12_reads 172 = .ok (.aload_n 0, 1) := by decide +kernel
theorem dX12_reads_173 : decode cX12_reads 173 = .ok (.aload_n 0, 1) := by decide +kernel
theorem dX12_reads_174 : decode cX12_reads 174 = .ok (.getfield 185, 3) := by decide +kernel
theorem dX12_reads_177 : decode cX12_reads 177 = .ok (.invokevirtual 188, 3) := by decide +kernel
theorem dX12_reads_180 : decode cX12_reads 180 = .ok (.invokevirtual 207, 3) := by decide +kernel
theorem dX12_reads_183 : decode cX12_reads 183 = .ok (.ifCond .eq 56, 3) := by decide +kernel
theorem dX12_reads_186 : decode cX12_reads 186 = .ok (.aload_n 0, 1) := by decide +kernel
theorem dX12_reads_187 : decode cX12_reads 187 = .ok (.aload_n 0, 1) := by decide +kernel
theorem dX12_reads_188 : decode cX12_reads 188 = .ok (.getfield 197, 3) := by decide +kernel
theorem dX12_reads_191 : decode cX12_reads 191 = .ok (.sipush 10000, 3) := by decide +kernel
theorem dX12_reads_194 : decode cX12_reads 194 = .ok (.if_icmp .ge 25, 3) := by decide +kernel
theorem dX12_reads_197 : decode cX12_reads 197 = .ok (.bipush 10, 2) := by decide +kernel
theorem dX12_reads_199 : decode cX12_reads 199 = .ok (.aload_n 0, 1) := by decide +kernel
theorem dX12_reads_200 : decode cX12_reads 200 = .ok (.getfield 197, 3) := by decide +kernel
theorem dX12_reads_203 : decode cX12_reads 203 = .ok (.imul, 1) := by decide +kernel
theorem dX12_reads_204 : decode cX12_reads 204 = .ok (.aload_n 0, 1) := by decide +kernel
theorem dX12_reads_205 : decode cX12_reads 205 = .ok (.aload_n 0, 1) := by decide +kernel
theorem dX12_reads_206 : decode cX12_reads 206 = .ok (.getfield 185, 3) := by decide +kernel
theorem dX12_reads_209 : decode cX12_reads 209 = .ok (.invokevirtual 188, 3) := by decide +kernel
theorem dX12_reads_212 : decode cX12_reads 212 = .ok (.iadd, 1) := by decide +kernel
theorem dX12_reads_213 : decode cX12_reads 213 = .ok (.bipush 48, 2) := by decide +kernel
theorem dX12_reads_215 : decode cX12_reads 215 = .ok (.isub, 1) := by decide +kernel
theorem dX12_reads_216 : decode cX12_reads 216 = .ok (.goto 7, 3) := by decide +kernel
theorem dX12_reads_219 : decode cX12_reads 219 = .ok (.aload_n 0, 1) := by decide +kernel
theorem dX12_reads_220 : decode cX12_reads 220 = .ok (.getfield 197, 3) := by decide +kernel
theorem dX12_reads_223 : decode cX12_reads 223 = .ok (.putfield 197, 3) := by decide +kernel
theorem dX12_reads_226 : decode cX12_reads 226 = .ok (.aload_n 0, 1) := by decide +kernel
theorem dX12_reads_227 : decode cX12_reads 227 = .ok (.aload_n 0, 1) := by decide +kernel
theorem dX12_reads_228 : decode cX12_reads 228 = .ok (.getfield 185, 3) := by decide +kernel
theorem dX12_reads_231 : decode cX12_reads 231 = .ok (.iconst 1, 1) := by decide +kernel
theorem dX12_reads_232 : decode cX12_reads 232 = .ok (.iadd, 1) := by decide +kernel
theorem dX12_reads_233 : decode cX12_reads 233 = .ok (.putfield 185, 3) := by decide +kernel
theorem dX12_reads_236 : decode cX12_reads 236 = .ok (.goto (-65), 3) := by decide +kernel
theorem dX12_reads_239 : decode cX12_reads 239 = .ok (.aload_n 0, 1) := by decide +kernel
theorem dX12_reads_240 : decode cX12_reads 240 = .ok (.getfield 185, 3) := by decide +kernel
theorem dX12_reads_243 : decode cX12_reads 243 = .ok (.aload_n 0, 1) := by decide +kernel
theorem dX12_reads_244 : decode cX12_reads 244 = .ok (.getfield 191, 3) := by decide +kernel
theorem dX12_reads_247 : decode cX12_reads 247 = .ok (.isub, 1) := by decide +kernel
theorem dX12_reads_248 : decode cX12_reads 248 = .ok (.iconst 5, 1) := by decide +kernel
theorem dX12_reads_249 : decode cX12_reads 249 = .ok (.if_icmp .ge 24, 3) := by decide +kernel
theorem dX12_reads_252 : decode cX12_reads 252 = .ok (.aload_n 0, 1) := by decide +kernel
theorem dX12_reads_253 : decode cX12_reads 253 = .ok (.iconst 3, 1) := by decide +kernel
theorem dX12_reads_254 : decode cX12_reads 254 = .ok (.putfield 194, 3) := by decide +kernel
theorem dX12_reads_257 : decode cX12_reads 257 = .ok (.goto 16, 3) := by decide +kernel
theorem dX12_reads_260 : decode cX12_reads 260 = .ok (.aload_n 0, 1) := by decide +kernel
theorem dX12_reads_261 : decode cX12_reads 261 = .ok (.iload_n 1, 1) := by decide +kernel
theorem dX12_reads_262 : decode cX12_reads 262 = .ok (.invokevirtual 210, 3) := by decide +kernel
theorem dX12_reads_265 : decode cX12_reads 265 = .ok (.ifCond .eq 8, 3) := by decide +kernel
theorem dX12_reads_268 : decode cX12_reads 268 = .ok (.aload_n 0, 1) := by decide +kernel
theorem dX12_reads_269 : decode cX12_reads 269 = .ok (.iconst 4, 1) := by decide +kernel
theorem dX12_reads_270 : decode cX12_reads 270 = .ok (.putfield 194, 3) := by decide +kernel
theorem dX12_reads_273 : decode cX12_reads 273 = .ok (.return_, 1) := by decide +kernel
theorem wp_X12_reads_0 {d : Nat} {s : ev_S} {Q : Option ev_V → ev_S → Prop}
    (h : (Ev layM M_X12_raw d 0 [(0, ev_r 0), (1, ev_i (s 0 20))] [] s (ev_pi (fun r2 s1 => ((r2 = 32 → (∀ s3, ev_up s1 0 20 (ev_add (s1 0 20) 1) = s3 → Ev layM M_X12_reads (d + 1) 0 [(0, ev_r 0)] [] s3 Q)) ∧ (r2 ≠ 32 → (Ev layM M_X12_raw d 0 [(0, ev_r 0), (1, ev_i (s1 0 20))] [] s1 (ev_pi (fun r5 s4 => ((r5 ≠ 10 → (∀ s6, ev_up s4 0 21 (s4 0 20) = s6 → (∀ s7, ev_up s6 0 22 1 = s7 → (Ev layM M_X12_raw d 0 [(0, ev_r 0), (1, ev_i (s7 0 20))] [] s7 (ev_pi (fun r9 s8 => ((r9 ≠ (-1) → (∀ s10, ev_up s8 0 20 (ev_add (s8 0 20) 1) = s10 → (∀ s11, ev_up s10 0 23 r9 = s11 → (Ev layM M_X12_isLetter d 0 [(0, ev_r 0), (1, ev_i r9)] [] s11 (ev_pi (fun r13 s12 => ((r13 = 0 → (Ev layM M_X12_isDigit d 0 [(0, ev_r 0), (1, ev_i r9)] [] s12 (ev_pi (fun r15 s14 => ((r15 = 0 → (Ev layM M_X12_isMarkSign d 0 [(0, ev_r 0), (1, ev_i r9)] [] s14 (ev_pi (fun r17 s16 => ((r17 = 0 → Q none s16) ∧ (r17 ≠ 0 → (∀ s18, ev_up s16 0 22 4 = s18 → Q none s18))))))) ∧ (r15 ≠ 0 → (∀ s19, ev_up s14 0 23 (ev_sub r9 48) = s19 → Ev layM M_X12_reads (d + 1) 171 [(0, ev_r 0)] [] s19 Q))))))) ∧ (r13 ≠ 0 → Ev layM M_X12_reads (d + 1) 95 [(0, ev_r 0)] [] s12 Q)))))))) ∧ (r9 = (-1) → (∀ s20, ev_up s8 0 22 0 = s20 → Q none s20))))))))) ∧ (r5 = 10 → (∀ s21, ev_up s4 0 20 (ev_add (s4 0 20) 1) = s21 → Ev layM M_X12_reads (d + 1) 0 [(0, ev_r 0)] [] s21 Q)))))))))))) :
    Ev layM M_X12_reads (d + 1) 0 [(0, ev_r 0)] [] s Q := by
  refine Ev_aload_n 0 dX12_reads_0 rfl rfl ?_
  refine Ev_aload_n 0 dX12_reads_1 rfl rfl ?_
  refine Ev_get (i := 20) cl_X12 yM_0 (Nat.le_of_ble_eq_true rfl) rfl wd_1464 dX12_reads_2 ?_
  refine Ev_callV (As := [ev_i (s 0 20)]) (b := 0) (st := []) (M' := M_X12_raw) cm_X12_raw wd_1710 wd_1712 wd_78 yM_0 cl_X12 rfl dX12_reads_5 (Nat.le_refl _) rfl (Nat.le_of_ble_eq_true rfl) (Nat.le_of_ble_eq_true rfl) h (fun v u h hk => ?_)
  obtain ⟨r2, rfl⟩ := hk
  obtain ⟨s1, rfl⟩ : ∃ x, x = u := ⟨_, rfl⟩
  replace h := h r2 rfl
  refine Ev_bipushC dX12_reads_8 rfl ?_
  refine Ev_icmp_eq (tgt := 26) dX12_reads_10 rfl (fun c => ?_) (fun c => ?_)
  · replace h := h.1 c
    refine Ev_aload_n 0 dX12_reads_26 rfl rfl ?_
    refine Ev_aload_n 0 dX12_reads_27 rfl rfl ?_
    refine Ev_get (i := 20) cl_X12 yM_0 (Nat.le_of_ble_eq_true rfl) rfl wd_1464 dX12_reads_28 ?_
    refine Ev_iconst dX12_reads_31 rfl (ev_Rc rfl) ?_
    refine Ev_iadd dX12_reads_32 ?_
    refine Ev_put (i := 20) (ty := .int) cl_X12 yM_0 (Nat.le_of_ble_eq_true rfl) rfl rfl (by decide +kernel) rfl rfl wd_1464 dX12_reads_33 (Ev_nm (fun s3 es3 => ?_))
    replace h := h s3 es3
    refine Ev_goto (tgt := 0) dX12_reads_36 rfl ?_
    exact Ev_sub [0] rfl h
  · replace h := h.2 c
    refine Ev_aload_n 0 dX12_reads_13 rfl rfl ?_
    refine Ev_aload_n 0 dX12_reads_14 rfl rfl ?_
    refine Ev_get (i := 20) cl_X12 yM_0 (Nat.le_of_ble_eq_true rfl) rfl wd_1464 dX12_reads_15 ?_
    refine Ev_callV (As := [ev_i (s1 0 20)]) (b := 0) (st := []) (M' := M_X12_raw) cm_X12_raw wd_1710 wd_1712 wd_78 yM_0 cl_X12 rfl dX12_reads_18 (Nat.le_refl _) rfl (Nat.le_of_ble_eq_true rfl) (Nat.le_of_ble_eq_true rfl) h (fun v u h hk => ?_)
    obtain ⟨r5, rfl⟩ := hk
    obtain ⟨s4, rfl⟩ : ∃ x, x = u := ⟨_, rfl⟩
    replace h := h r5 rfl
    refine Ev_bipushC dX12_reads_21 rfl ?_
    refine Ev_icmp_ne (tgt := 39) dX12_reads_23 rfl (fun c => ?_) (fun c => ?_)
    · replace h := h.1 c
      refine Ev_aload_n 0 dX12_reads_39 rfl rfl ?_
      refine Ev_aload_n 0 dX12_reads_40 rfl rfl ?_
      refine Ev_get (i := 20) cl_X12 yM_0 (Nat.le_of_ble_eq_true rfl) rfl wd_1464 dX12_reads_41 ?_
      refine Ev_put (i := 21) (ty := .int) cl_X12 yM_0 (Nat.le_of_ble_eq_true rfl) rfl rfl (by decide +kernel) rfl rfl wd_1465 dX12_reads_44 (Ev_nm (fun s6 es6 => ?_))
      replace h := h s6 es6
      refine Ev_aload_n 0 dX12_reads_47 rfl rfl ?_
      refine Ev_iconst dX12_reads_48 rfl (ev_Rc rfl) ?_
      refine Ev_put (i := 22) (ty := .int) cl_X12 yM_0 (Nat.le_of_ble_eq_true rfl) rfl rfl (by decide +kernel) rfl rfl wd_1466 dX12_reads_49 (Ev_nm (fun s7 es7 => ?_))
      replace h := h s7 es7
      refine Ev_aload_n 0 dX12_reads_52 rfl rfl ?_
      refine Ev_aload_n 0 dX12_reads_53 rfl rfl ?_
      refine Ev_get (i := 20) cl_X12 yM_0 (Nat.le_of_ble_eq_true rfl) rfl wd_1464 dX12_reads_54 ?_
      refine Ev_callV (As := [ev_i (s7 0 20)]) (b := 0) (st := []) (M' := M_X12_raw) cm_X12_raw wd_1710 wd_1712 wd_78 yM_0 cl_X12 rfl dX12_reads_57 (Nat.le_refl _) rfl (Nat.le_of_ble_eq_true rfl) (Nat.le_of_ble_eq_true rfl) h (fun v u h hk => ?_)
      obtain ⟨r9, rfl⟩ := hk
      obtain ⟨s8, rfl⟩ : ∃ x, x = u := ⟨_, rfl⟩
      replace h := h r9 rfl
      refine Ev_istore_n (l' := [(1, ev_i r9), (0, ev_r 0)]) dX12_reads_60 rfl (Nat.le_of_ble_eq_true rfl) rfl ?_
      refine Ev_iload_n 0 dX12_reads_61 rfl rfl ?_
      refine Ev_iconst dX12_reads_62 rfl (ev_Rc rfl) ?_
      refine Ev_icmp_ne (tgt := 72) dX12_reads_63 rfl (fun c => ?_) (fun c => ?_)
      · replace h := h.1 c
        refine Ev_aload_n 1 dX12_reads_72 rfl rfl ?_
        refine Ev_aload_n 1 dX12_reads_73 rfl rfl ?_
        refine Ev_get (i := 20) cl_X12 yM_0 (Nat.le_of_ble_eq_true rfl) rfl wd_1464 dX12_reads_74 ?_
        refine Ev_iconst dX12_reads_77 rfl (ev_Rc rfl) ?_
        refine Ev_iadd dX12_reads_78 ?_
        refine Ev_put (i := 20) (ty := .int) cl_X12 yM_0 (Nat.le_of_ble_eq_true rfl) rfl rfl (by decide +kernel) rfl rfl wd_1464 dX12_reads_79 (Ev_nm (fun s10 es10 => ?_))
        replace h := h s10 es10
        refine Ev_aload_n 1 dX12_reads_82 rfl rfl ?_
        refine Ev_iload_n 0 dX12_reads_83 rfl rfl ?_
        refine Ev_put (i := 23) (ty := .int) cl_X12 yM_0 (Nat.le_of_ble_eq_true rfl) rfl rfl (by decide +kernel) rfl rfl wd_1467 dX12_reads_84 (Ev_nm (fun s11 es11 => ?_))
        replace h := h s11 es11
        refine Ev_aload_n 1 dX12_reads_87 rfl rfl ?_
        refine Ev_iload_n 0 dX12_reads_88 rfl rfl ?_
        refine Ev_callV (As := [ev_i r9]) (b := 0) (st := []) (M' := M_X12_isLetter) cm_X12_isLetter wd_1714 wd_1716 wd_79 yM_0 cl_X12 rfl dX12_reads_89 (Nat.le_refl _) rfl (Nat.le_of_ble_eq_true rfl) (Nat.le_of_ble_eq_true rfl) h (fun v u h hk => ?_)
        obtain ⟨r13, rfl⟩ := hk
        obtain ⟨s12, rfl⟩ : ∃ x, x = u := ⟨_, rfl⟩
        replace h := h r13 rfl
        refine Ev_if_eq (tgt := 155) dX12_reads_92 rfl (fun c => ?_) (fun c => ?_)
        · replace h := h.1 c
          refine Ev_aload_n 1 dX12_reads_155 rfl rfl ?_
          refine Ev_iload_n 0 dX12_reads_156 rfl rfl ?_
          refine Ev_callV (As := [ev_i r9]) (b := 0) (st := []) (M' := M_X12_isDigit) cm_X12_isDigit wd_1722 wd_1724 wd_81 yM_0 cl_X12 rfl dX12_reads_157 (Nat.le_refl _) rfl (Nat.le_of_ble_eq_true rfl) (Nat.le_of_ble_eq_true rfl) h (fun v u h hk => ?_)
          obtain ⟨r15, rfl⟩ := hk
          obtain ⟨s14, rfl⟩ : ∃ x, x = u := ⟨_, rfl⟩
          replace h := h r15 rfl
          refine Ev_if_eq (tgt := 260) dX12_reads_160 rfl (fun c => ?_) (fun c => ?_)
          · replace h := h.1 c
            refine Ev_aload_n 1 dX12_reads_260 rfl rfl ?_
            refine Ev_iload_n 0 dX12_reads_261 rfl rfl ?_
            refine Ev_callV (As := [ev_i r9]) (b := 0) (st := []) (M' := M_X12_isMarkSign) cm_X12_isMarkSign wd_1726 wd_1728 wd_82 yM_0 cl_X12 rfl dX12_reads_262 (Nat.le_refl _) rfl (Nat.le_of_ble_eq_true rfl) (Nat.le_of_ble_eq_true rfl) h (fun v u h hk => ?_)
            obtain ⟨r17, rfl⟩ := hk
            obtain ⟨s16, rfl⟩ : ∃ x, x = u := ⟨_, rfl⟩
            replace h := h r17 rfl
            refine Ev_if_eq (tgt := 273) dX12_reads_265 rfl (fun c => ?_) (fun c => ?_)
            · replace h := h.1 c
              exact Ev_vret rfl dX12_reads_273 h
            · replace h := h.2 c
              refine Ev_aload_n 1 dX12_reads_268 rfl rfl ?_
              refine Ev_iconst dX12_reads_269 rfl (ev_Rc rfl) ?_
              refine Ev_put (i := 22) (ty := .int) cl_X12 yM_0 (Nat.le_of_ble_eq_true rfl) rfl rfl (by decide +kernel) rfl rfl wd_1466 dX12_reads_270 (Ev_nm (fun s18 es18 => ?_))
              replace h := h s18 es18
              exact Ev_vret rfl dX12_reads_273 h
          · replace h := h.2 c
            refine Ev_aload_n 1 dX12_reads_163 rfl rfl ?_
            refine Ev_iload_n 0 dX12_reads_164 rfl rfl ?_
            refine Ev_bipushC dX12_reads_165 rfl ?_
            refine Ev_isub dX12_reads_167 ?_
            refine Ev_put (i := 23) (ty := .int) cl_X12 yM_0 (Nat.le_of_ble_eq_true rfl) rfl rfl (by decide +kernel) rfl rfl wd_1467 dX12_reads_168 (Ev_nm (fun s19 es19 => ?_))
            replace h := h s19 es19
            exact Ev_sub [1] rfl h
        · replace h := h.2 c
          exact Ev_sub [1] rfl h
      · replace h := h.2 c
        refine Ev_aload_n 1 dX12_reads_66 rfl rfl ?_
        refine Ev_iconst dX12_reads_67 rfl (ev_Rc rfl) ?_
        refine Ev_put (i := 22) (ty := .int) cl_X12 yM_0 (Nat.le_of_ble_eq_true rfl) rfl rfl (by decide +kernel) rfl rfl wd_1466 dX12_reads_68 (Ev_nm (fun s20 es20 => ?_))
        replace h := h s20 es20
        exact Ev_vret rfl dX12_reads_71 h
    · replace h := h.2 c
      refine Ev_aload_n 0 dX12_reads_26 rfl rfl ?_
      refine Ev_aload_n 0 dX12_reads_27 rfl rfl ?_
      refine Ev_get (i := 20) cl_X12 yM_0 (Nat.le_of_ble_eq_true rfl) rfl wd_1464 dX12_reads_28 ?_
      refine Ev_iconst dX12_reads_31 rfl (ev_Rc rfl) ?_
      refine Ev_iadd dX12_reads_32 ?_
      refine Ev_put (i := 20) (ty := .int) cl_X12 yM_0 (Nat.le_of_ble_eq_true rfl) rfl rfl (by decide +kernel) rfl rfl wd_1464 dX12_reads_33 (Ev_nm (fun s21 es21 => ?_))
      replace h := h s21 es21
      refine Ev_goto (tgt := 0) dX12_reads_36 rfl ?_
      exact Ev_sub [0] rfl h
theorem wp_X12_reads_95 {d : Nat} {s : ev_S} {Q : Option ev_V → ev_S → Prop}
    (h : (Ev layM M_X12_raw d 0 [(0, ev_r 0), (1, ev_i (s 0 20))] [] s (ev_pi (fun r2 s1 => (Ev layM M_X12_isLetter d 0 [(0, ev_r 0), (1, ev_i r2)] [] s1 (ev_pi (fun r4 s3 => ((r4 = 0 → (Ev layM M_X12_wordAt d 0 [(0, ev_r 0), (1, ev_i (s3 0 21)), (2, ev_i (s3 0 20))] [] s3 (ev_pi (fun r6 s5 => (∀ s7, ev_up s5 0 23 r6 = s7 → (((s7 0 23) = (-1) → Q none s7) ∧ ((s7 0 23) ≠ (-1) → (∀ s8, ev_up s7 0 22 2 = s8 → Q none s8)))))))) ∧ (r4 ≠ 0 → (∀ s9, ev_up s3 0 20 (ev_add (s3 0 20) 1) = s9 → Ev layM M_X12_reads (d + 1) 95 [(0, ev_r 0)] [] s9 Q)))))))))) :
    Ev layM M_X12_reads (d + 1) 95 [(0, ev_r 0)] [] s Q := by
  refine Ev_aload_n 0 dX12_reads_95 rfl rfl ?_
  refine Ev_aload_n 0 dX12_reads_96 rfl rfl ?_
  refine Ev_aload_n 0 dX12_reads_97 rfl rfl ?_
  refine Ev_get (i := 20) cl_X12 yM_0 (Nat.le_of_ble_eq_true rfl) rfl wd_1464 dX12_reads_98 ?_
  refine Ev_callV (As := [ev_i (s 0 20)]) (b := 0) (st := [ev_r 0]) (M' := M_X12_raw) cm_X12_raw wd_1710 wd_1712 wd_78 yM_0 cl_X12 rfl dX12_reads_101 (Nat.le_refl _) rfl (Nat.le_of_ble_eq_true rfl) (Nat.le_of_ble_eq_true rfl) h (fun v u h hk => ?_)
  obtain ⟨r2, rfl⟩ := hk
  obtain ⟨s1, rfl⟩ : ∃ x, x = u := ⟨_, rfl⟩
  replace h := h r2 rfl
  refine Ev_callV (As := [ev_i r2]) (b := 0) (st := []) (M' := M_X12_isLetter) cm_X12_isLetter wd_1714 wd_1716 wd_79 yM_0 cl_X12 rfl dX12_reads_104 (Nat.le_refl _) rfl (Nat.le_of_ble_eq_true rfl) (Nat.le_of_ble_eq_true rfl) h (fun v u h hk => ?_)
  obtain ⟨r4, rfl⟩ := hk
  obtain ⟨s3, rfl⟩ : ∃ x, x = u := ⟨_, rfl⟩
  replace h := h r4 rfl
  refine Ev_if_eq (tgt := 123) dX12_reads_107 rfl (fun c => ?_) (fun c => ?_)
  · replace h := h.1 c
    refine Ev_aload_n 0 dX12_reads_123 rfl rfl ?_
    refine Ev_aload_n 0 dX12_reads_124 rfl rfl ?_
    refine Ev_aload_n 0 dX12_reads_125 rfl rfl ?_
    refine Ev_get (i := 21) cl_X12 yM_0 (Nat.le_of_ble_eq_true rfl) rfl wd_1465 dX12_reads_126 ?_
    refine Ev_aload_n 0 dX12_reads_129 rfl rfl ?_
    refine Ev_get (i := 20) cl_X12 yM_0 (Nat.le_of_ble_eq_true rfl) rfl wd_1464 dX12_reads_130 ?_
    refine Ev_callV (As := [ev_i (s3 0 21), ev_i (s3 0 20)]) (b := 0) (st := [ev_r 0]) (M' := M_X12_wordAt) cm_X12_wordAt wd_1718 wd_1720 wd_80 yM_0 cl_X12 rfl dX12_reads_133 (Nat.le_refl _) rfl (Nat.le_of_ble_eq_true rfl) (Nat.le_of_ble_eq_true rfl) h (fun v u h hk => ?_)
    obtain ⟨r6, rfl⟩ := hk
    obtain ⟨s5, rfl⟩ : ∃ x, x = u := ⟨_, rfl⟩
    replace h := h r6 rfl
    refine Ev_put (i := 23) (ty := .int) cl_X12 yM_0 (Nat.le_of_ble_eq_true rfl) rfl rfl (by decide +kernel) rfl rfl wd_1467 dX12_reads_136 (Ev_nm (fun s7 es7 => ?_))
    replace h := h s7 es7
    refine Ev_aload_n 0 dX12_reads_139 rfl rfl ?_
    refine Ev_get (i := 23) cl_X12 yM_0 (Nat.le_of_ble_eq_true rfl) rfl wd_1467 dX12_reads_140 ?_
    refine Ev_iconst dX12_reads_143 rfl (ev_Rc rfl) ?_
    refine Ev_icmp_eq (tgt := 273) dX12_reads_144 rfl (fun c => ?_) (fun c => ?_)
    · replace h := h.1 c
      exact Ev_vret rfl dX12_reads_273 h
    · replace h := h.2 c
      refine Ev_aload_n 0 dX12_reads_147 rfl rfl ?_
      refine Ev_iconst dX12_reads_148 rfl (ev_Rc rfl) ?_
      refine Ev_put (i := 22) (ty := .int) cl_X12 yM_0 (Nat.le_of_ble_eq_true rfl) rfl rfl (by decide +kernel) rfl rfl wd_1466 dX12_reads_149 (Ev_nm (fun s8 es8 => ?_))
      replace h := h s8 es8
      refine Ev_goto (tgt := 273) dX12_reads_152 rfl ?_
      exact Ev_vret rfl dX12_reads_273 h
  · replace h := h.2 c
    refine Ev_aload_n 0 dX12_reads_110 rfl rfl ?_
    refine Ev_aload_n 0 dX12_reads_111 rfl rfl ?_
    refine Ev_get (i := 20) cl_X12 yM_0 (Nat.le_of_ble_eq_true rfl) rfl wd_1464 dX12_reads_112 ?_
    refine Ev_iconst dX12_reads_115 rfl (ev_Rc rfl) ?_
    refine Ev_iadd dX12_reads_116 ?_
    refine Ev_put (i := 20) (ty := .int) cl_X12 yM_0 (Nat.le_of_ble_eq_true rfl) rfl rfl (by decide +kernel) rfl rfl wd_1464 dX12_reads_117 (Ev_nm (fun s9 es9 => ?_))
    replace h := h s9 es9
    refine Ev_goto (tgt := 95) dX12_reads_120 rfl ?_
    exact Ev_sub [0] rfl h
theorem wp_X12_reads_171 {d : Nat} {s : ev_S} {Q : Option ev_V → ev_S → Prop}
    (h : (Ev layM M_X12_raw d 0 [(0, ev_r 0), (1, ev_i (s 0 20))] [] s (ev_pi (fun r2 s1 => (Ev layM M_X12_isDigit d 0 [(0, ev_r 0), (1, ev_i r2)] [] s1 (ev_pi (fun r4 s3 => ((r4 = 0 → ((5 ≤ (ev_sub (s3 0 20) (s3 0 21)) → Q none s3) ∧ ((ev_sub (s3 0 20) (s3 0 21)) < 5 → (∀ s5, ev_up s3 0 22 3 = s5 → Q none s5)))) ∧ (r4 ≠ 0 → ((10000 ≤ (s3 0 23) → (∀ s6, ev_up s3 0 23 (s3 0 23) = s6 → (∀ s7, ev_up s6 0 20 (ev_add (s6 0 20) 1) = s7 → Ev layM M_X12_reads (d + 1) 171 [(0, ev_r 0)] [] s7 Q))) ∧ ((s3 0 23) < 10000 → (Ev layM M_X12_raw d 0 [(0, ev_r 0), (1, ev_i (s3 0 20))] [] s3 (ev_pi (fun r9 s8 => (∀ s10, ev_up s8 0 23 (ev_sub (ev_add (ev_mul 10 (s3 0 23)) r9) 48) = s10 → (∀ s11, ev_up s10 0 20 (ev_add (s10 0 20) 1) = s11 → Ev layM M_X12_reads (d + 1) 171 [(0, ev_r 0)] [] s11 Q)))))))))))))))) :
    Ev layM M_X12_reads (d + 1) 171 [(0, ev_r 0)] [] s Q := by
  refine Ev_aload_n 0 dX12_reads_171 rfl rfl ?_
  refine Ev_aload_n 0 dX12_reads_172 rfl rfl ?_
  refine Ev_aload_n 0 dX12_reads_173 rfl rfl ?_
  refine Ev_get (i := 20) cl_X12 yM_0 (Nat.le_of_ble_eq_true rfl) rfl wd_1464 dX12_reads_174 ?_
  refine Ev_callV (As := [ev_i (s 0 20)]) (b := 0) (st := [ev_r 0]) (M' := M_X12_raw) cm_X12_raw wd_1710 wd_1712 wd_78 yM_0 cl_X12 rfl dX12_reads_177 (Nat.le_refl _) rfl (Nat.le_of_ble_eq_true rfl) (Nat.le_of_ble_eq_true rfl) h (fun v u h hk => ?_)
  obtain ⟨r2, rfl⟩ := hk
  obtain ⟨s1, rfl⟩ : ∃ x, x = u := ⟨_, rfl⟩
  replace h := h r2 rfl
  refine Ev_callV (As := [ev_i r2]) (b := 0) (st := []) (M' := M_X12_isDigit) cm_X12_isDigit wd_1722 wd_1724 wd_81 yM_0 cl_X12 rfl dX12_reads_180 (Nat.le_refl _) rfl (Nat.le_of_ble_eq_true rfl) (Nat.le_of_ble_eq_true rfl) h (fun v u h hk => ?_)
  obtain ⟨r4, rfl⟩ := hk
  obtain ⟨s3, rfl⟩ : ∃ x, x = u := ⟨_, rfl⟩
  replace h := h r4 rfl
  refine Ev_if_eq (tgt := 239) dX12_reads_183 rfl (fun c => ?_) (fun c => ?_)
  · replace h := h.1 c
    refine Ev_aload_n 0 dX12_reads_239 rfl rfl ?_
    refine Ev_get (i := 20) cl_X12 yM_0 (Nat.le_of_ble_eq_true rfl) rfl wd_1464 dX12_reads_240 ?_
    refine Ev_aload_n 0 dX12_reads_243 rfl rfl ?_
    refine Ev_get (i := 21) cl_X12 yM_0 (Nat.le_of_ble_eq_true rfl) rfl wd_1465 dX12_reads_244 ?_
    refine Ev_isub dX12_reads_247 ?_
    refine Ev_iconst dX12_reads_248 rfl (ev_Rc rfl) ?_
    refine Ev_icmp_ge (tgt := 273) dX12_reads_249 rfl (fun c => ?_) (fun c => ?_)
    · replace h := h.1 c
      exact Ev_vret rfl dX12_reads_273 h
    · replace h := h.2 c
      refine Ev_aload_n 0 dX12_reads_252 rfl rfl ?_
      refine Ev_iconst dX12_reads_253 rfl (ev_Rc rfl) ?_
      refine Ev_put (i := 22) (ty := .int) cl_X12 yM_0 (Nat.le_of_ble_eq_true rfl) rfl rfl (by decide +kernel) rfl rfl wd_1466 dX12_reads_254 (Ev_nm (fun s5 es5 => ?_))
      replace h := h s5 es5
      refine Ev_goto (tgt := 273) dX12_reads_257 rfl ?_
      exact Ev_vret rfl dX12_reads_273 h
  · replace h := h.2 c
    refine Ev_aload_n 0 dX12_reads_186 rfl rfl ?_
    refine Ev_aload_n 0 dX12_reads_187 rfl rfl ?_
    refine Ev_get (i := 23) cl_X12 yM_0 (Nat.le_of_ble_eq_true rfl) rfl wd_1467 dX12_reads_188 ?_
    refine Ev_sipushC dX12_reads_191 rfl ?_
    refine Ev_icmp_ge (tgt := 219) dX12_reads_194 rfl (fun c => ?_) (fun c => ?_)
    · replace h := h.1 c
      refine Ev_aload_n 0 dX12_reads_219 rfl rfl ?_
      refine Ev_get (i := 23) cl_X12 yM_0 (Nat.le_of_ble_eq_true rfl) rfl wd_1467 dX12_reads_220 ?_
      refine Ev_put (i := 23) (ty := .int) cl_X12 yM_0 (Nat.le_of_ble_eq_true rfl) rfl rfl (by decide +kernel) rfl rfl wd_1467 dX12_reads_223 (Ev_nm (fun s6 es6 => ?_))
      replace h := h s6 es6
      refine Ev_aload_n 0 dX12_reads_226 rfl rfl ?_
      refine Ev_aload_n 0 dX12_reads_227 rfl rfl ?_
      refine Ev_get (i := 20) cl_X12 yM_0 (Nat.le_of_ble_eq_true rfl) rfl wd_1464 dX12_reads_228 ?_
      refine Ev_iconst dX12_reads_231 rfl (ev_Rc rfl) ?_
      refine Ev_iadd dX12_reads_232 ?_
      refine Ev_put (i := 20) (ty := .int) cl_X12 yM_0 (Nat.le_of_ble_eq_true rfl) rfl rfl (by decide +kernel) rfl rfl wd_1464 dX12_reads_233 (Ev_nm (fun s7 es7 => ?_))
      replace h := h s7 es7
      refine Ev_goto (tgt := 171) dX12_reads_236 rfl ?_
      exact Ev_sub [0] rfl h
    · replace h := h.2 c
      refine Ev_bipushC dX12_reads_197 rfl ?_
      refine Ev_aload_n 0 dX12_reads_199 rfl rfl ?_
      refine Ev_get (i := 23) cl_X12 yM_0 (Nat.le_of_ble_eq_true rfl) rfl wd_1467 dX12_reads_200 ?_
      refine Ev_imul dX12_reads_203 ?_
      refine Ev_aload_n 0 dX12_reads_204 rfl rfl ?_
      refine Ev_aload_n 0 dX12_reads_205 rfl rfl ?_
      refine Ev_get (i := 20) cl_X12 yM_0 (Nat.le_of_ble_eq_true rfl) rfl wd_1464 dX12_reads_206 ?_
      refine Ev_callV (As := [ev_i (s3 0 20)]) (b := 0) (st := [ev_i (ev_mul 10 (s3 0 23)), ev_r 0]) (M' := M_X12_raw) cm_X12_raw wd_1710 wd_1712 wd_78 yM_0 cl_X12 rfl dX12_reads_209 (Nat.le_refl _) rfl (Nat.le_of_ble_eq_true rfl) (Nat.le_of_ble_eq_true rfl) h (fun v u h hk => ?_)
      obtain ⟨r9, rfl⟩ := hk
      obtain ⟨s8, rfl⟩ : ∃ x, x = u := ⟨_, rfl⟩
      replace h := h r9 rfl
      refine Ev_iadd dX12_reads_212 ?_
      refine Ev_bipushC dX12_reads_213 rfl ?_
      refine Ev_isub dX12_reads_215 ?_
      refine Ev_goto (tgt := 223) dX12_reads_216 rfl ?_
      refine Ev_put (i := 23) (ty := .int) cl_X12 yM_0 (Nat.le_of_ble_eq_true rfl) rfl rfl (by decide +kernel) rfl rfl wd_1467 dX12_reads_223 (Ev_nm (fun s10 es10 => ?_))
      replace h := h s10 es10
      refine Ev_aload_n 0 dX12_reads_226 rfl rfl ?_
      refine Ev_aload_n 0 dX12_reads_227 rfl rfl ?_
      refine Ev_get (i := 20) cl_X12 yM_0 (Nat.le_of_ble_eq_true rfl) rfl wd_1464 dX12_reads_228 ?_
      refine Ev_iconst dX12_reads_231 rfl (ev_Rc rfl) ?_
      refine Ev_iadd dX12_reads_232 ?_
      refine Ev_put (i := 20) (ty := .int) cl_X12 yM_0 (Nat.le_of_ble_eq_true rfl) rfl rfl (by decide +kernel) rfl rfl wd_1464 dX12_reads_233 (Ev_nm (fun s11 es11 => ?_))
      replace h := h s11 es11
      refine Ev_goto (tgt := 171) dX12_reads_236 rfl ?_
      exact Ev_sub [0] rfl h
theorem dX12_errs_0 : decode cX12_errs 0 = .ok (.aload_n 0, 1) := by decide +kernel
theorem dX12_errs_1 : decode cX12_errs 1 = .ok (.iload_n 1, 1) := by decide +kernel
theorem dX12_errs_2 : decode cX12_errs 2 = .ok (.putfield 213, 3) := by decide +kernel
theorem dX12_errs_5 : decode cX12_errs 5 = .ok (.aload_n 0, 1) := by decide +kernel
theorem dX12_errs_6 : decode cX12_errs 6 = .ok (.aload_n 0, 1) := by decide +kernel
theorem dX12_errs_7 : decode cX12_errs 7 = .ok (.getfield 191, 3) := by decide +kernel
theorem dX12_errs_10 : decode cX12_errs 10 = .ok (.putfield 216, 3) := by decide +kernel
theorem dX12_errs_13 : decode cX12_errs 13 = .ok (.iconst (-1), 1) := by decide +kernel
theorem dX12_errs_14 : decode cX12_errs 14 = .ok (.ireturn, 1) := by decide +kernel
theorem wp_X12_errs_0 {d : Nat} {s : ev_S} {Q : Option ev_V → ev_S → Prop} {a1 : Int}
    (h : (∀ s1, ev_up s 0 35 a1 = s1 → (∀ s2, ev_up s1 0 36 (s1 0 21) = s2 → Q (some (ev_i (-1))) s2))) :
    Ev layM M_X12_errs d 0 [(0, ev_r 0), (1, ev_i a1)] [] s Q := by
  refine Ev_aload_n 0 dX12_errs_0 rfl rfl ?_
  refine Ev_iload_n 1 dX12_errs_1 rfl rfl ?_
  refine Ev_put (i := 35) (ty := .int) cl_X12 yM_0 (Nat.le_of_ble_eq_true rfl) rfl rfl (by decide +kernel) rfl rfl wd_1479 dX12_errs_2 (Ev_nm (fun s1 es1 => ?_))
  replace h := h s1 es1
  refine Ev_aload_n 0 dX12_errs_5 rfl rfl ?_
  refine Ev_aload_n 0 dX12_errs_6 rfl rfl ?_
  refine Ev_get (i := 21) cl_X12 yM_0 (Nat.le_of_ble_eq_true rfl) rfl wd_1465 dX12_errs_7 ?_
  refine Ev_put (i := 36) (ty := .int) cl_X12 yM_0 (Nat.le_of_ble_eq_true rfl) rfl rfl (by decide +kernel) rfl rfl wd_1480 dX12_errs_10 (Ev_nm (fun s2 es2 => ?_))
  replace h := h s2 es2
  refine Ev_iconst dX12_errs_13 rfl (ev_Rc rfl) ?_
  exact Ev_iret rfl dX12_errs_14 rfl h
theorem dX12_isWord_0 : decode cX12_isWord 0 = .ok (.aload_n 0, 1) := by decide +kernel
theorem dX12_isWord_1 : decode cX12_isWord 1 = .ok (.getfield 194, 3) := by decide +kernel
theorem dX12_isWord_4 : decode cX12_isWord 4 = .ok (.iconst 2, 1) := by decide +kernel
theorem dX12_isWord_5 : decode cX12_isWord 5 = .ok (.if_icmp .ne 15, 3) := by decide +kernel
theorem dX12_isWord_8 : decode cX12_isWord 8 = .ok (.aload_n 0, 1) := by decide +kernel
theorem dX12_isWord_9 : decode cX12_isWord 9 = .ok (.getfield 197, 3) := by decide +kernel
theorem dX12_isWord_12 : decode cX12_isWord 12 = .ok (.iload_n 1, 1) := by decide +kernel
theorem dX12_isWord_13 : decode cX12_isWord 13 = .ok (.if_icmp .ne 7, 3) := by decide +kernel
theorem dX12_isWord_16 : decode cX12_isWord 16 = .ok (.iconst 1, 1) := by decide +kernel
theorem dX12_isWord_17 : decode cX12_isWord 17 = .ok (.goto 4, 3) := by decide +kernel
theorem dX12_isWord_20 : decode cX12_isWord 20 = .ok (.iconst 0, 1) := by decide +kernel
theorem dX12_isWord_21 : decode cX12_isWord 21 = .ok (.ireturn, 1) := by decide +kernel
theorem wp_X12_isWord_0 {d : Nat} {s : ev_S} {Q : Option ev_V → ev_S → Prop} {a1 : Int}
    (h : (((s 0 22) ≠ 2 → Q (some (ev_i 0)) s) ∧ ((s 0 22) = 2 → (((s 0 23) ≠ a1 → Q (some (ev_i 0)) s) ∧ ((s 0 23) = a1 → Q (some (ev_i 1)) s))))) :
    Ev layM M_X12_isWord d 0 [(0, ev_r 0), (1, ev_i a1)] [] s Q := by
  refine Ev_aload_n 0 dX12_isWord_0 rfl rfl ?_
  refine Ev_get (i := 22) cl_X12 yM_0 (Nat.le_of_ble_eq_true rfl) rfl wd_1466 dX12_isWord_1 ?_
  refine Ev_iconst dX12_isWord_4 rfl (ev_Rc rfl) ?_
  refine Ev_icmp_ne (tgt := 20) dX12_isWord_5 rfl (fun c => ?_) (fun c => ?_)
  · replace h := h.1 c
    refine Ev_iconst dX12_isWord_20 rfl (ev_Rc rfl) ?_
    exact Ev_iret rfl dX12_isWord_21 (ev_nb (by decide)) h
  · replace h := h.2 c
    refine Ev_aload_n 0 dX12_isWord_8 rfl rfl ?_
    refine Ev_get (i := 23) cl_X12 yM_0 (Nat.le_of_ble_eq_true rfl) rfl wd_1467 dX12_isWord_9 ?_
    refine Ev_iload_n 1 dX12_isWord_12 rfl rfl ?_
    refine Ev_icmp_ne (tgt := 20) dX12_isWord_13 rfl (fun c => ?_) (fun c => ?_)
    · replace h := h.1 c
      refine Ev_iconst dX12_isWord_20 rfl (ev_Rc rfl) ?_
      exact Ev_iret rfl dX12_isWord_21 (ev_nb (by decide)) h
    · replace h := h.2 c
      refine Ev_iconst dX12_isWord_16 rfl (ev_Rc rfl) ?_
      refine Ev_goto (tgt := 21) dX12_isWord_17 rfl ?_
      exact Ev_iret rfl dX12_isWord_21 (ev_nb (by decide)) h
theorem dX12_isSign_0 : decode cX12_isSign 0 = .ok (.aload_n 0, 1) := by decide +kernel
theorem dX12_isSign_1 : decode cX12_isSign 1 = .ok (.getfield 194, 3) := by decide +kernel
theorem dX12_isSign_4 : decode cX12_isSign 4 = .ok (.iconst 4, 1) := by decide +kernel
theorem dX12_isSign_5 : decode cX12_isSign 5 = .ok (.if_icmp .ne 15, 3) := by decide +kernel
theorem dX12_isSign_8 : decode cX12_isSign 8 = .ok (.aload_n 0, 1) := by decide +kernel
theorem dX12_isSign_9 : decode cX12_isSign 9 = .ok (.getfield 197, 3) := by decide +kernel
theorem dX12_isSign_12 : decode cX12_isSign 12 = .ok (.iload_n 1, 1) := by decide +kernel
theorem dX12_isSign_13 : decode cX12_isSign 13 = .ok (.if_icmp .ne 7, 3) := by decide +kernel
theorem dX12_isSign_16 : decode cX12_isSign 16 = .ok (.iconst 1, 1) := by decide +kernel
theorem dX12_isSign_17 : decode cX12_isSign 17 = .ok (.goto 4, 3) := by decide +kernel
theorem dX12_isSign_20 : decode cX12_isSign 20 = .ok (.iconst 0, 1) := by decide +kernel
theorem dX12_isSign_21 : decode cX12_isSign 21 = .ok (.ireturn, 1) := by decide +kernel
theorem wp_X12_isSign_0 {d : Nat} {s : ev_S} {Q : Option ev_V → ev_S → Prop} {a1 : Int}
    (h : (((s 0 22) ≠ 4 → Q (some (ev_i 0)) s) ∧ ((s 0 22) = 4 → (((s 0 23) ≠ a1 → Q (some (ev_i 0)) s) ∧ ((s 0 23) = a1 → Q (some (ev_i 1)) s))))) :
    Ev layM M_X12_isSign d 0 [(0, ev_r 0), (1, ev_i a1)] [] s Q := by
  refine Ev_aload_n 0 dX12_isSign_0 rfl rfl ?_
  refine Ev_get (i := 22) cl_X12 yM_0 (Nat.le_of_ble_eq_true rfl) rfl wd_1466 dX12_isSign_1 ?_
  refine Ev_iconst dX12_isSign_4 rfl (ev_Rc rfl) ?_
  refine Ev_icmp_ne (tgt := 20) dX12_isSign_5 rfl (fun c => ?_) (fun c => ?_)
  · replace h := h.1 c
    refine Ev_iconst dX12_isSign_20 rfl (ev_Rc rfl) ?_
    exact Ev_iret rfl dX12_isSign_21 (ev_nb (by decide)) h
  · replace h := h.2 c
    refine Ev_aload_n 0 dX12_isSign_8 rfl rfl ?_
    refine Ev_get (i := 23) cl_X12 yM_0 (Nat.le_of_ble_eq_true rfl) rfl wd_1467 dX12_isSign_9 ?_
    refine Ev_iload_n 1 dX12_isSign_12 rfl rfl ?_
    refine Ev_icmp_ne (tgt := 20) dX12_isSign_13 rfl (fun c => ?_) (fun c => ?_)
    · replace h := h.1 c
      refine Ev_iconst dX12_isSign_20 rfl (ev_Rc rfl) ?_
      exact Ev_iret rfl dX12_isSign_21 (ev_nb (by decide)) h
    · replace h := h.2 c
      refine Ev_iconst dX12_isSign_16 rfl (ev_Rc rfl) ?_
      refine Ev_goto (tgt := 21) dX12_isSign_17 rfl ?_
      exact Ev_iret rfl dX12_isSign_21 (ev_nb (by decide)) h
theorem dX12_emits_0 : decode cX12_emits 0 = .ok (.aload_n 0, 1) := by decide +kernel
theorem dX12_emits_1 : decode cX12_emits 1 = .ok (.getfield 52, 3) := by decide +kernel
theorem dX12_emits_4 : decode cX12_emits 4 = .ok (.sipush 400, 3) := by decide +kernel
theorem dX12_emits_7 : decode cX12_emits 7 = .ok (.aload_n 0, 1) := by decide +kernel
theorem dX12_emits_8 : decode cX12_emits 8 = .ok (.getfield 219, 3) := by decide +kernel
theorem dX12_emits_11 : decode cX12_emits 11 = .ok (.iadd, 1) := by decide +kernel
theorem dX12_emits_12 : decode cX12_emits 12 = .ok (.iload_n 1, 1) := by decide +kernel
theorem dX12_emits_13 : decode cX12_emits 13 = .ok (.iastore, 1) := by decide +kernel
theorem dX12_emits_14 : decode cX12_emits 14 = .ok (.aload_n 0, 1) := by decide +kernel
theorem dX12_emits_15 : decode cX12_emits 15 = .ok (.getfield 55, 3) := by decide +kernel
theorem dX12_emits_18 : decode cX12_emits 18 = .ok (.sipush 400, 3) := by decide +kernel
theorem dX12_emits_21 : decode cX12_emits 21 = .ok (.aload_n 0, 1) := by decide +kernel
theorem dX12_emits_22 : decode cX12_emits 22 = .ok (.getfield 219, 3) := by decide +kernel
theorem dX12_emits_25 : decode cX12_emits 25 = .ok (.iadd, 1) := by decide +kernel
theorem dX12_emits_26 : decode cX12_emits 26 = .ok (.iload_n 2, 1) := by decide +kernel
theorem dX12_emits_27 : decode cX12_emits 27 = .ok (.iastore, 1) := by decide +kernel
theorem dX12_emits_28 : decode cX12_emits 28 = .ok (.aload_n 0, 1) := by decide +kernel
theorem dX12_emits_29 : decode cX12_emits 29 = .ok (.aload_n 0, 1) := by decide +kernel
theorem dX12_emits_30 : decode cX12_emits 30 = .ok (.getfield 219, 3) := by decide +kernel
theorem dX12_emits_33 : decode cX12_emits 33 = .ok (.iconst 1, 1) := by decide +kernel
theorem dX12_emits_34 : decode cX12_emits 34 = .ok (.iadd, 1) := by decide +kernel
theorem dX12_emits_35 : decode cX12_emits 35 = .ok (.putfield 219, 3) := by decide +kernel
theorem dX12_emits_38 : decode cX12_emits 38 = .ok (.return_, 1) := by decide +kernel
theorem wp_X12_emits_0 {d : Nat} {s : ev_S} {Q : Option ev_V → ev_S → Prop} {a1 a2 : Int}
    (h : ((0 ≤ (ev_add 400 (s 0 31)) ∧ (ev_add 400 (s 0 31)) < (800 : Nat)) ∧ ∀ s1, ev_up s 15 (Int.toNat (ev_add 400 (s 0 31))) a1 = s1 → ((0 ≤ (ev_add 400 (s1 0 31)) ∧ (ev_add 400 (s1 0 31)) < (800 : Nat)) ∧ ∀ s2, ev_up s1 16 (Int.toNat (ev_add 400 (s1 0 31))) a2 = s2 → (∀ s3, ev_up s2 0 31 (ev_add (s2 0 31) 1) = s3 → Q none s3)))) :
    Ev layM M_X12_emits d 0 [(0, ev_r 0), (1, ev_i a1), (2, ev_i a2)] [] s Q := by
  refine Ev_aload_n 0 dX12_emits_0 rfl rfl ?_
  refine Ev_getR (i := 29) cl_X12 yM_0 (Nat.le_of_ble_eq_true rfl) rfl wd_1473 dX12_emits_1 ?_
  refine Ev_sipushC dX12_emits_4 rfl ?_
  refine Ev_aload_n 0 dX12_emits_7 rfl rfl ?_
  refine Ev_get (i := 31) cl_X12 yM_0 (Nat.le_of_ble_eq_true rfl) rfl wd_1475 dX12_emits_8 ?_
  refine Ev_iadd dX12_emits_11 ?_
  refine Ev_iload_n 1 dX12_emits_12 rfl rfl ?_
  obtain ⟨h0, h⟩ := h
  refine Ev_iast yM_15 h0 dX12_emits_13 (Ev_nm (fun s1 es1 => ?_))
  replace h := h s1 es1
  refine Ev_aload_n 0 dX12_emits_14 rfl rfl ?_
  refine Ev_getR (i := 30) cl_X12 yM_0 (Nat.le_of_ble_eq_true rfl) rfl wd_1474 dX12_emits_15 ?_
  refine Ev_sipushC dX12_emits_18 rfl ?_
  refine Ev_aload_n 0 dX12_emits_21 rfl rfl ?_
  refine Ev_get (i := 31) cl_X12 yM_0 (Nat.le_of_ble_eq_true rfl) rfl wd_1475 dX12_emits_22 ?_
  refine Ev_iadd dX12_emits_25 ?_
  refine Ev_iload_n 2 dX12_emits_26 rfl rfl ?_
  obtain ⟨h0, h⟩ := h
  refine Ev_iast yM_16 h0 dX12_emits_27 (Ev_nm (fun s2 es2 => ?_))
  replace h := h s2 es2
  refine Ev_aload_n 0 dX12_emits_28 rfl rfl ?_
  refine Ev_aload_n 0 dX12_emits_29 rfl rfl ?_
  refine Ev_get (i := 31) cl_X12 yM_0 (Nat.le_of_ble_eq_true rfl) rfl wd_1475 dX12_emits_30 ?_
  refine Ev_iconst dX12_emits_33 rfl (ev_Rc rfl) ?_
  refine Ev_iadd dX12_emits_34 ?_
  refine Ev_put (i := 31) (ty := .int) cl_X12 yM_0 (Nat.le_of_ble_eq_true rfl) rfl rfl (by decide +kernel) rfl rfl wd_1475 dX12_emits_35 (Ev_nm (fun s3 es3 => ?_))
  replace h := h s3 es3
  exact Ev_vret rfl dX12_emits_38 h
theorem dX12_readUnit_0 : decode cX12_readUnit 0 = .ok (.aload_n 0, 1) := by decide +kernel
theorem dX12_readUnit_1 : decode cX12_readUnit 1 = .ok (.getfield 194, 3) := by decide +kernel
theorem dX12_readUnit_4 : decode cX12_readUnit 4 = .ok (.iconst 2, 1) := by decide +kernel
theorem dX12_readUnit_5 : decode cX12_readUnit 5 = .ok (.if_icmp .ne 22, 3) := by decide +kernel
theorem dX12_readUnit_8 : decode cX12_readUnit 8 = .ok (.aload_n 0, 1) := by decide +kernel
theorem dX12_readUnit_9 : decode cX12_readUnit 9 = .ok (.aload_n 0, 1) := by decide +kernel
theorem dX12_readUnit_10 : decode cX12_readUnit 10 = .ok (.getfield 197, 3) := by decide +kernel
theorem dX12_readUnit_13 : decode cX12_readUnit 13 = .ok (.bipush 6, 2) := by decide +kernel
theorem dX12_readUnit_15 : decode cX12_readUnit 15 = .ok (.bipush 14, 2) := by decide +kernel
theorem dX12_readUnit_17 : decode cX12_readUnit 17 = .ok (.invokevirtual 158, 3) := by decide +kernel
theorem dX12_readUnit_20 : decode cX12_readUnit 20 = .ok (.ifCond .eq 7, 3) := by decide +kernel
theorem dX12_readUnit_23 : decode cX12_readUnit 23 = .ok (.iconst 1, 1) := by decide +kernel
theorem dX12_readUnit_24 : decode cX12_readUnit 24 = .ok (.goto 4, 3) := by decide +kernel
theorem dX12_readUnit_27 : decode cX12_readUnit 27 = .ok (.iconst 0, 1) := by decide +kernel
theorem dX12_readUnit_28 : decode cX12_readUnit 28 = .ok (.istore_n 1, 1) := by decide +kernel
theorem dX12_readUnit_29 : decode cX12_readUnit 29 = .ok (.iload_n 1, 1) := by decide +kernel
theorem dX12_readUnit_30 : decode cX12_readUnit 30 = .ok (.ifCond .ne 17, 3) := by decide +kernel
theorem dX12_readUnit_33 : decode cX12_readUnit 33 = .ok (.aload_n 0, 1) := by decide +kernel
theorem dX12_readUnit_34 : decode cX12_readUnit 34 = .ok (.getfield 194, 3) := by decide +kernel
theorem dX12_readUnit_37 : decode cX12_readUnit 37 = .ok (.iconst 3, 1) := by decide +kernel
theorem dX12_readUnit_38 : decode cX12_readUnit 38 = .ok (.if_icmp .eq 9, 3) := by decide +kernel
theorem dX12_readUnit_41 : decode cX12_readUnit 41 = .ok (.aload_n 0, 1) := by decide +kernel
theorem dX12_readUnit_42 : decode cX12_readUnit 42 = .ok (.iconst 1, 1) := by decide +kernel
theorem dX12_readUnit_43 : decode cX12_readUnit 43 = .ok (.invokevirtual 222, 3) := by decide +kernel
theorem dX12_readUnit_46 : decode cX12_readUnit 46 = .ok (.ireturn, 1) := by decide +kernel
theorem dX12_readUnit_47 : decode cX12_readUnit 47 = .ok (.aload_n 0, 1) := by decide +kernel
theorem dX12_readUnit_48 : decode cX12_readUnit 48 = .ok (.iload_n 1, 1) := by decide +kernel
theorem dX12_readUnit_49 : decode cX12_readUnit 49 = .ok (.ifCond .eq 7, 3) := by decide +kernel
theorem dX12_readUnit_52 : decode cX12_readUnit 52 = .ok (.iconst 1, 1) := by decide +kernel
theorem dX12_readUnit_53 : decode cX12_readUnit 53 = .ok (.goto 4, 3) := by decide +kernel
theorem dX12_readUnit_56 : decode cX12_readUnit 56 = .ok (.iconst 0, 1) := by decide +kernel
theorem dX12_readUnit_57 : decode cX12_readUnit 57 = .ok (.iload_n 1, 1) := by decide +kernel
theorem dX12_readUnit_58 : decode cX12_readUnit 58 = .ok (.ifCond .eq 13, 3) := by decide +kernel
theorem dX12_readUnit_61 : decode cX12_readUnit 61 = .ok (.aload_n 0, 1) := by decide +kernel
theorem dX12_readUnit_62 : decode cX12_readUnit 62 = .ok (.getfield 197, 3) := by decide +kernel
theorem dX12_readUnit_65 : decode cX12_readUnit 65 = .ok (.bipush 6, 2) := by decide +kernel
theorem dX12_readUnit_67 : decode cX12_readUnit 67 = .ok (.isub, 1) := by decide +kernel
theorem dX12_readUnit_68 : decode cX12_readUnit 68 = .ok (.goto 7, 3) := by decide +kernel
theorem dX12_readUnit_71 : decode cX12_readUnit 71 = .ok (.aload_n 0, 1) := by decide +kernel
theorem dX12_readUnit_72 : decode cX12_readUnit 72 = .ok (.getfield 197, 3) := by decide +kernel
theorem dX12_readUnit_75 : decode cX12_readUnit 75 = .ok (.invokevirtual 225, 3) := by decide +kernel
theorem dX12_readUnit_78 : decode cX12_readUnit 78 = .ok (.aload_n 0, 1) := by decide +kernel
theorem dX12_readUnit_79 : decode cX12_readUnit 79 = .ok (.invokevirtual 229, 3) := by decide +kernel
theorem dX12_readUnit_82 : decode cX12_readUnit 82 = .ok (.iconst 0, 1) := by decide +kernel
theorem dX12_readUnit_83 : decode cX12_readUnit 83 = .ok (.ireturn, 1) := by decide +kernel
theorem wp_X12_readUnit_0 {d : Nat} {s : ev_S} {Q : Option ev_V → ev_S → Prop}
    (h : (((s 0 22) ≠ 2 → Ev layM M_X12_readUnit (d + 1) 28 [(0, ev_r 0)] [ev_i 0] s Q) ∧ ((s 0 22) = 2 → (Ev layM M_X12_isIn d 0 [(0, ev_r 0), (1, ev_i (s 0 23)), (2, ev_i 6), (3, ev_i 14)] [] s (ev_pi (fun r2 s1 => ((r2 = 0 → Ev layM M_X12_readUnit (d + 1) 28 [(0, ev_r 0)] [ev_i 0] s1 Q) ∧ (r2 ≠ 0 → Ev layM M_X12_readUnit (d + 1) 28 [(0, ev_r 0)] [ev_i 1] s1 Q)))))))) :
    Ev layM M_X12_readUnit (d + 1) 0 [(0, ev_r 0)] [] s Q := by
  refine Ev_aload_n 0 dX12_readUnit_0 rfl rfl ?_
  refine Ev_get (i := 22) cl_X12 yM_0 (Nat.le_of_ble_eq_true rfl) rfl wd_1466 dX12_readUnit_1 ?_
  refine Ev_iconst dX12_readUnit_4 rfl (ev_Rc rfl) ?_
  refine Ev_icmp_ne (tgt := 27) dX12_readUnit_5 rfl (fun c => ?_) (fun c => ?_)
  · replace h := h.1 c
    refine Ev_iconst dX12_readUnit_27 rfl (ev_Rc rfl) ?_
    exact Ev_sub [0] rfl h
  · replace h := h.2 c
    refine Ev_aload_n 0 dX12_readUnit_8 rfl rfl ?_
    refine Ev_aload_n 0 dX12_readUnit_9 rfl rfl ?_
    refine Ev_get (i := 23) cl_X12 yM_0 (Nat.le_of_ble_eq_true rfl) rfl wd_1467 dX12_readUnit_10 ?_
    refine Ev_bipushC dX12_readUnit_13 rfl ?_
    refine Ev_bipushC dX12_readUnit_15 rfl ?_
    refine Ev_callV (As := [ev_i (s 0 23), ev_i 6, ev_i 14]) (b := 0) (st := []) (M' := M_X12_isIn) cm_X12_isIn wd_1650 wd_1652 wd_70 yM_0 cl_X12 rfl dX12_readUnit_17 (Nat.le_refl _) rfl (Nat.le_of_ble_eq_true rfl) (Nat.le_of_ble_eq_true rfl) h (fun v u h hk => ?_)
    obtain ⟨r2, rfl⟩ := hk
    obtain ⟨s1, rfl⟩ : ∃ x, x = u := ⟨_, rfl⟩
    replace h := h r2 rfl
    refine Ev_if_eq (tgt := 27) dX12_readUnit_20 rfl (fun c => ?_) (fun c => ?_)
    · replace h := h.1 c
      refine Ev_iconst dX12_readUnit_27 rfl (ev_Rc rfl) ?_
      exact Ev_sub [0] rfl h
    · replace h := h.2 c
      refine Ev_iconst dX12_readUnit_23 rfl (ev_Rc rfl) ?_
      refine Ev_goto (tgt := 28) dX12_readUnit_24 rfl ?_
      exact Ev_sub [0] rfl h
theorem wp_X12_readUnit_28 {d : Nat} {s : ev_S} {Q : Option ev_V → ev_S → Prop} {t0 : Int}
    (h : ((t0 ≠ 0 → Ev layM M_X12_readUnit (d + 1) 47 [(0, ev_r 0), (1, ev_i t0)] [] s Q) ∧ (t0 = 0 → (((s 0 22) = 3 → Ev layM M_X12_readUnit (d + 1) 47 [(0, ev_r 0), (1, ev_i t0)] [] s Q) ∧ ((s 0 22) ≠ 3 → (Ev layM M_X12_errs d 0 [(0, ev_r 0), (1, ev_i 1)] [] s (ev_pi (fun r2 s1 => Q (some (ev_i r2)) s1)))))))) :
    Ev layM M_X12_readUnit (d + 1) 28 [(0, ev_r 0)] [ev_i t0] s Q := by
  refine Ev_istore_n (l' := [(1, ev_i t0), (0, ev_r 0)]) dX12_readUnit_28 rfl (Nat.le_of_ble_eq_true rfl) rfl ?_
  refine Ev_iload_n 0 dX12_readUnit_29 rfl rfl ?_
  refine Ev_if_ne (tgt := 47) dX12_readUnit_30 rfl (fun c => ?_) (fun c => ?_)
  · replace h := h.1 c
    exact Ev_sub [1, 0] rfl h
  · replace h := h.2 c
    refine Ev_aload_n 1 dX12_readUnit_33 rfl rfl ?_
    refine Ev_get (i := 22) cl_X12 yM_0 (Nat.le_of_ble_eq_true rfl) rfl wd_1466 dX12_readUnit_34 ?_
    refine Ev_iconst dX12_readUnit_37 rfl (ev_Rc rfl) ?_
    refine Ev_icmp_eq (tgt := 47) dX12_readUnit_38 rfl (fun c => ?_) (fun c => ?_)
    · replace h := h.1 c
      exact Ev_sub [1, 0] rfl h
    · replace h := h.2 c
      refine Ev_aload_n 1 dX12_readUnit_41 rfl rfl ?_
      refine Ev_iconst dX12_readUnit_42 rfl (ev_Rc rfl) ?_
      refine Ev_callV (As := [ev_i 1]) (b := 0) (st := []) (M' := M_X12_errs) cm_X12_errs wd_1758 wd_1760 wd_90 yM_0 cl_X12 rfl dX12_readUnit_43 (Nat.le_refl _) rfl (Nat.le_of_ble_eq_true rfl) (Nat.le_of_ble_eq_true rfl) h (fun v u h hk => ?_)
      obtain ⟨r2, rfl⟩ := hk
      obtain ⟨s1, rfl⟩ : ∃ x, x = u := ⟨_, rfl⟩
      replace h := h r2 rfl
      exact Ev_iret rfl dX12_readUnit_46 rfl h
theorem wp_X12_readUnit_47 {d : Nat} {s : ev_S} {Q : Option ev_V → ev_S → Prop} {a1 : Int}
    (h : ((a1 = 0 → ((a1 = 0 → Ev layM M_X12_readUnit (d + 1) 75 [(0, ev_r 0)] [ev_i (s 0 23), ev_i 0, ev_r 0] s Q) ∧ (a1 ≠ 0 → Ev layM M_X12_readUnit (d + 1) 75 [(0, ev_r 0)] [ev_i (ev_sub (s 0 23) 6), ev_i 0, ev_r 0] s Q))) ∧ (a1 ≠ 0 → ((a1 = 0 → Ev layM M_X12_readUnit (d + 1) 75 [(0, ev_r 0)] [ev_i (s 0 23), ev_i 1, ev_r 0] s Q) ∧ (a1 ≠ 0 → Ev layM M_X12_readUnit (d + 1) 75 [(0, ev_r 0)] [ev_i (ev_sub (s 0 23) 6), ev_i 1, ev_r 0] s Q))))) :
    Ev layM M_X12_readUnit (d + 1) 47 [(0, ev_r 0), (1, ev_i a1)] [] s Q := by
  refine Ev_aload_n 0 dX12_readUnit_47 rfl rfl ?_
  refine Ev_iload_n 1 dX12_readUnit_48 rfl rfl ?_
  refine Ev_if_eq (tgt := 56) dX12_readUnit_49 rfl (fun c => ?_) (fun c => ?_)
  · replace h := h.1 c
    refine Ev_iconst dX12_readUnit_56 rfl (ev_Rc rfl) ?_
    refine Ev_iload_n 1 dX12_readUnit_57 rfl rfl ?_
    refine Ev_if_eq (tgt := 71) dX12_readUnit_58 rfl (fun c => ?_) (fun c => ?_)
    · replace h := h.1 c
      refine Ev_aload_n 0 dX12_readUnit_71 rfl rfl ?_
      refine Ev_get (i := 23) cl_X12 yM_0 (Nat.le_of_ble_eq_true rfl) rfl wd_1467 dX12_readUnit_72 ?_
      exact Ev_sub [0] rfl h
    · replace h := h.2 c
      refine Ev_aload_n 0 dX12_readUnit_61 rfl rfl ?_
      refine Ev_get (i := 23) cl_X12 yM_0 (Nat.le_of_ble_eq_true rfl) rfl wd_1467 dX12_readUnit_62 ?_
      refine Ev_bipushC dX12_readUnit_65 rfl ?_
      refine Ev_isub dX12_readUnit_67 ?_
      refine Ev_goto (tgt := 75) dX12_readUnit_68 rfl ?_
      exact Ev_sub [0] rfl h
  · replace h := h.2 c
    refine Ev_iconst dX12_readUnit_52 rfl (ev_Rc rfl) ?_
    refine Ev_goto (tgt := 57) dX12_readUnit_53 rfl ?_
    refine Ev_iload_n 1 dX12_readUnit_57 rfl rfl ?_
    refine Ev_if_eq (tgt := 71) dX12_readUnit_58 rfl (fun c => ?_) (fun c => ?_)
    · replace h := h.1 c
      refine Ev_aload_n 0 dX12_readUnit_71 rfl rfl ?_
      refine Ev_get (i := 23) cl_X12 yM_0 (Nat.le_of_ble_eq_true rfl) rfl wd_1467 dX12_readUnit_72 ?_
      exact Ev_sub [0] rfl h
    · replace h := h.2 c
      refine Ev_aload_n 0 dX12_readUnit_61 rfl rfl ?_
      refine Ev_get (i := 23) cl_X12 yM_0 (Nat.le_of_ble_eq_true rfl) rfl wd_1467 dX12_readUnit_62 ?_
      refine Ev_bipushC dX12_readUnit_65 rfl ?_
      refine Ev_isub dX12_readUnit_67 ?_
      refine Ev_goto (tgt := 75) dX12_readUnit_68 rfl ?_
      exact Ev_sub [0] rfl h
theorem wp_X12_readUnit_75 {d : Nat} {s : ev_S} {Q : Option ev_V → ev_S → Prop} {t0 t1 : Int}
    (h : (Ev layM M_X12_emits d 0 [(0, ev_r 0), (1, ev_i t1), (2, ev_i t0)] [] s (fun _ s1 => (Ev layM M_X12_reads d 0 [(0, ev_r 0)] [] s1 (fun _ s2 => Q (some (ev_i 0)) s2))))) :
    Ev layM M_X12_readUnit (d + 1) 75 [(0, ev_r 0)] [ev_i t0, ev_i t1, ev_r 0] s Q := by
  refine Ev_callV (As := [ev_i t1, ev_i t0]) (b := 0) (st := []) (M' := M_X12_emits) cm_X12_emits wd_1846 wd_1848 wd_112 yM_0 cl_X12 rfl dX12_readUnit_75 (Nat.le_refl _) rfl (Nat.le_of_ble_eq_true rfl) (Nat.le_of_ble_eq_true rfl) h (fun v u h hk => ?_)
  cases hk
  obtain ⟨s1, rfl⟩ : ∃ x, x = u := ⟨_, rfl⟩
  refine Ev_aload_n 0 dX12_readUnit_78 rfl rfl ?_
  refine Ev_callV (As := []) (b := 0) (st := []) (M' := M_X12_reads) cm_X12_reads wd_1706 wd_1708 wd_77 yM_0 cl_X12 rfl dX12_readUnit_79 (Nat.le_refl _) rfl (Nat.le_of_ble_eq_true rfl) (Nat.le_of_ble_eq_true rfl) h (fun v u h hk => ?_)
  cases hk
  obtain ⟨s2, rfl⟩ : ∃ x, x = u := ⟨_, rfl⟩
  refine Ev_iconst dX12_readUnit_82 rfl (ev_Rc rfl) ?_
  exact Ev_iret rfl dX12_readUnit_83 rfl h
theorem dX12_readProduct_0 : decode cX12_readProduct 0 = .ok (.aload_n 0, 1) := by decide +kernel
theorem dX12_readProduct_1 : decode cX12_readProduct 1 = .ok (.invokevirtual 232, 3) := by decide +kernel
theorem dX12_readProduct_4 : decode cX12_readProduct 4 = .ok (.iconst (-1), 1) := by decide +kernel
theorem dX12_readProduct_5 : decode cX12_readProduct 5 = .ok (.if_icmp .ne 5, 3) := by decide +kernel
theorem dX12_readProduct_8 : decode cX12_readProduct 8 = .ok (.iconst (-1), 1) := by decide +kernel
theorem dX12_readProduct_9 : decode cX12_readProduct 9 = .ok (.ireturn, 1) := by decide +kernel
theorem dX12_readProduct_10 : decode cX12_readProduct 10 = .ok (.aload_n 0, 1) := by decide +kernel
theorem dX12_readProduct_11 : decode cX12_readProduct 11 = .ok (.bipush 42, 2) := by decide +kernel
theorem dX12_readProduct_13 : decode cX12_readProduct 13 = .ok (.invokevirtual 236, 3) := by decide +kernel
theorem dX12_readProduct_16 : decode cX12_readProduct 16 = .ok (.ifCond .ne 12, 3) := by decide +kernel
theorem dX12_readProduct_19 : decode cX12_readProduct 19 = .ok (.aload_n 0, 1) := by decide +kernel
theorem dX12_readProduct_20 : decode cX12_readProduct 20 = .ok (.bipush 47, 2) := by decide +kernel
theorem dX12_readProduct_22 : decode cX12_readProduct 22 = .ok (.invokevirtual 236, 3) := by decide +kernel
theorem dX12_readProduct_25 : decode cX12_readProduct 25 = .ok (.ifCond .eq 76, 3) := by decide +kernel
theorem dX12_readProduct_28 : decode cX12_readProduct 28 = .ok (.aload_n 0, 1) := by decide +kernel
theorem dX12_readProduct_29 : decode cX12_readProduct 29 = .ok (.bipush 42, 2) := by decide +kernel
theorem dX12_readProduct_31 : decode cX12_readProduct 31 = .ok (.invokevirtual 236, 3) := by decide +kernel
theorem dX12_readProduct_34 : decode cX12_readProduct 34 = .ok (.istore_n 1, 1) := by decide +kernel
theorem dX12_readProduct_35 : decode cX12_readProduct 35 = .ok (.aload_n 0, 1) := by decide +kernel
theorem dX12_readProduct_36 : decode cX12_readProduct 36 = .ok (.invokevirtual 229, 3) := by decide +kernel
theorem dX12_readProduct_39 : decode cX12_readProduct 39 = .ok (.iload_n 1, 1) := by decide +kernel
theorem dX12_readProduct_40 : decode cX12_readProduct 40 = .ok (.ifCond .ne 17, 3) := by decide +kernel
theorem dX12_readProduct_43 : decode cX12_readProduct 43 = .ok (.aload_n 0, 1) := by decide +kernel
theorem dX12_readProduct_44 : decode cX12_readProduct 44 = .ok (.getfield 194, 3) := by decide +kernel
theorem dX12_readProduct_47 : decode cX12_readProduct 47 = .ok (.iconst 3, 1) := by decide +kernel
theorem dX12_readProduct_48 : decode cX12_readProduct 48 = .ok (.if_icmp .eq 9, 3) := by decide +kernel
theorem dX12_readProduct_51 : decode cX12_readProduct 51 = .ok (.aload_n 0, 1) := by decide +kernel
theorem dX12_readProduct_52 : decode cX12_readProduct 52 = .ok (.iconst 1, 1) := by decide +kernel
theorem dX12_readProduct_53 : decode cX12_readProduct 53 = .ok (.invokevirtual 222, 3) := by decide +kernel
theorem dX12_readProduct_56 : decode cX12_readProduct 56 = .ok (.ireturn, 1) := by decide +kernel
theorem dX12_readProduct_57 : decode cX12_readProduct 57 = .ok (.iload_n 1, 1) := by decide +kernel
theorem dX12_readProduct_58 : decode cX12_readProduct 58 = .ok (.ifCond .ne 16, 3) := by decide +kernel
theorem dX12_readProduct_61 : decode cX12_readProduct 61 = .ok (.aload_n 0, 1) := by decide +kernel
theorem dX12_readProduct_62 : decode cX12_readProduct 62 = .ok (.getfield 197, 3) := by decide +kernel
theorem dX12_readProduct_65 : decode cX12_readProduct 65 = .ok (.ifCond .ne 9, 3) := by decide +kernel
theorem dX12_readProduct_68 : decode cX12_readProduct 68 = .ok (.aload_n 0, 1) := by decide +kernel
theorem dX12_readProduct_69 : decode cX12_readProduct 69 = .ok (.iconst 2, 1) := by decide +kernel
theorem dX12_readProduct_70 : decode cX12_readProduct 70 = .ok (.invokevirtual 222, 3) := by decide +kernel
theorem dX12_readProduct_73 : decode cX12_readProduct 73 = .ok (.ireturn, 1) := by decide +kernel
theorem dX12_readProduct_74 : decode cX12_readProduct 74 = .ok (.aload_n 0, 1) := by decide +kernel
theorem dX12_readProduct_75 : decode cX12_readProduct 75 = .ok (.invokevirtual 232, 3) := by decide +kernel
theorem dX12_readProduct_78 : decode cX12_readProduct 78 = .ok (.iconst (-1), 1) := by decide +kernel
theorem dX12_readProduct_79 : decode cX12_readProduct 79 = .ok (.if_icmp .ne 5, 3) := by decide +kernel
theorem dX12_readProduct_82 : decode cX12_readProduct 82 = .ok (.iconst (-1), 1) := by decide +kernel
theorem dX12_readProduct_83 : decode cX12_readProduct 83 = .ok (.ireturn, 1) := by decide +kernel
theorem dX12_readProduct_84 : decode cX12_readProduct 84 = .ok (.aload_n 0, 1) := by decide +kernel
theorem dX12_readProduct_85 : decode cX12_readProduct 85 = .ok (.iload_n 1, 1) := by decide +kernel
theorem dX12_readProduct_86 : decode cX12_readProduct 86 = .ok (.ifCond .eq 7, 3) := by decide +kernel
theorem dX12_readProduct_89 : decode cX12_readProduct 89 = .ok (.iconst 4, 1) := by decide +kernel
theorem dX12_readProduct_90 : decode cX12_readProduct 90 = .ok (.goto 4, 3) := by decide +kernel
theorem dX12_readProduct_93 : decode cX12_readProduct 93 = .ok (.iconst 5, 1) := by decide +kernel
theorem dX12_readProduct_94 : decode cX12_readProduct 94 = .ok (.iconst 0, 1) := by decide +kernel
theorem dX12_readProduct_95 : decode cX12_readProduct 95 = .ok (.invokevirtual 225, 3) := by decide +kernel
theorem dX12_readProduct_98 : decode cX12_readProduct 98 = .ok (.goto (-88), 3) := by decide +kernel
theorem dX12_readProduct_101 : decode cX12_readProduct 101 = .ok (.iconst 0, 1) := by decide +kernel
theorem dX12_readProduct_102 : decode cX12_readProduct 102 = .ok (.ireturn, 1) := by decide +kernel
theorem wp_X12_readProduct_0 {d : Nat} {s : ev_S} {Q : Option ev_V → ev_S → Prop}
    (h : (Ev layM M_X12_readUnit d 0 [(0, ev_r 0)] [] s (ev_pi (fun r2 s1 => ((r2 ≠ (-1) → Ev layM M_X12_readProduct (d + 1) 10 [(0, ev_r 0)] [] s1 Q) ∧ (r2 = (-1) → Q (some (ev_i (-1))) s1)))))) :
    Ev layM M_X12_readProduct (d + 1) 0 [(0, ev_r 0)] [] s Q := by
  refine Ev_aload_n 0 dX12_readProduct_0 rfl rfl ?_
  refine Ev_callV (As := []) (b := 0) (st := []) (M' := M_X12_readUnit) cm_X12_readUnit wd_1842 wd_1844 wd_111 yM_0 cl_X12 rfl dX12_readProduct_1 (Nat.le_refl _) rfl (Nat.le_of_ble_eq_true rfl) (Nat.le_of_ble_eq_true rfl) h (fun v u h hk => ?_)
  obtain ⟨r2, rfl⟩ := hk
  obtain ⟨s1, rfl⟩ : ∃ x, x = u := ⟨_, rfl⟩
  replace h := h r2 rfl
  refine Ev_iconst dX12_readProduct_4 rfl (ev_Rc rfl) ?_
  refine Ev_icmp_ne (tgt := 10) dX12_readProduct_5 rfl (fun c => ?_) (fun c => ?_)
  · replace h := h.1 c
    exact Ev_sub [0] rfl h
  · replace h := h.2 c
    refine Ev_iconst dX12_readProduct_8 rfl (ev_Rc rfl) ?_
    exact Ev_iret rfl dX12_readProduct_9 rfl h
theorem wp_X12_readProduct_10 {d : Nat} {s : ev_S} {Q : Option ev_V → ev_S → Prop}
    (h : (Ev layM M_X12_isSign d 0 [(0, ev_r 0), (1, ev_i 42)] [] s (ev_pi (fun r2 s1 => ((r2 ≠ 0 → Ev layM M_X12_readProduct (d + 1) 28 [(0, ev_r 0)] [] s1 Q) ∧ (r2 = 0 → (Ev layM M_X12_isSign d 0 [(0, ev_r 0), (1, ev_i 47)] [] s1 (ev_pi (fun r4 s3 => ((r4 = 0 → Q (some (ev_i 0)) s3) ∧ (r4 ≠ 0 → Ev layM M_X12_readProduct (d + 1) 28 [(0, ev_r 0)] [] s3 Q))))))))))) :
    Ev layM M_X12_readProduct (d + 1) 10 [(0, ev_r 0)] [] s Q := by
  refine Ev_aload_n 0 dX12_readProduct_10 rfl rfl ?_
  refine Ev_bipushC dX12_readProduct_11 rfl ?_
  refine Ev_callV (As := [ev_i 42]) (b := 0) (st := []) (M' := M_X12_isSign) cm_X12_isSign wd_1746 wd_1748 wd_87 yM_0 cl_X12 rfl dX12_readProduct_13 (Nat.le_refl _) rfl (Nat.le_of_ble_eq_true rfl) (Nat.le_of_ble_eq_true rfl) h (fun v u h hk => ?_)
  obtain ⟨r2, rfl⟩ := hk
  obtain ⟨s1, rfl⟩ : ∃ x, x = u := ⟨_, rfl⟩
  replace h := h r2 rfl
  refine Ev_if_ne (tgt := 28) dX12_readProduct_16 rfl (fun c => ?_) (fun c => ?_)
  · replace h := h.1 c
    exact Ev_sub [0] rfl h
  · replace h := h.2 c
    refine Ev_aload_n 0 dX12_readProduct_19 rfl rfl ?_
    refine Ev_bipushC dX12_readProduct_20 rfl ?_
    refine Ev_callV (As := [ev_i 47]) (b := 0) (st := []) (M' := M_X12_isSign) cm_X12_isSign wd_1746 wd_1748 wd_87 yM_0 cl_X12 rfl dX12_readProduct_22 (Nat.le_refl _) rfl (Nat.le_of_ble_eq_true rfl) (Nat.le_of_ble_eq_true rfl) h (fun v u h hk => ?_)
    obtain ⟨r4, rfl⟩ := hk
    obtain ⟨s3, rfl⟩ : ∃ x, x = u := ⟨_, rfl⟩
    replace h := h r4 rfl
    refine Ev_if_eq (tgt := 101) dX12_readProduct_25 rfl (fun c => ?_) (fun c => ?_)
    · replace h := h.1 c
      refine Ev_iconst dX12_readProduct_101 rfl (ev_Rc rfl) ?_
      exact Ev_iret rfl dX12_readProduct_102 rfl h
    · replace h := h.2 c
      exact Ev_sub [0] rfl h
theorem wp_X12_readProduct_28 {d : Nat} {s : ev_S} {Q : Option ev_V → ev_S → Prop}
    (h : (Ev layM M_X12_isSign d 0 [(0, ev_r 0), (1, ev_i 42)] [] s (ev_pi (fun r2 s1 => (Ev layM M_X12_reads d 0 [(0, ev_r 0)] [] s1 (fun _ s3 => ((r2 ≠ 0 → Ev layM M_X12_readProduct (d + 1) 57 [(0, ev_r 0), (1, ev_i r2)] [] s3 Q) ∧ (r2 = 0 → (((s3 0 22) = 3 → Ev layM M_X12_readProduct (d + 1) 57 [(0, ev_r 0), (1, ev_i r2)] [] s3 Q) ∧ ((s3 0 22) ≠ 3 → (Ev layM M_X12_errs d 0 [(0, ev_r 0), (1, ev_i 1)] [] s3 (ev_pi (fun r5 s4 => Q (some (ev_i r5)) s4))))))))))))) :
    Ev layM M_X12_readProduct (d + 1) 28 [(0, ev_r 0)] [] s Q := by
  refine Ev_aload_n 0 dX12_readProduct_28 rfl rfl ?_
  refine Ev_bipushC dX12_readProduct_29 rfl ?_
  refine Ev_callV (As := [ev_i 42]) (b := 0) (st := []) (M' := M_X12_isSign) cm_X12_isSign wd_1746 wd_1748 wd_87 yM_0 cl_X12 rfl dX12_readProduct_31 (Nat.le_refl _) rfl (Nat.le_of_ble_eq_true rfl) (Nat.le_of_ble_eq_true rfl) h (fun v u h hk => ?_)
  obtain ⟨r2, rfl⟩ := hk
  obtain ⟨s1, rfl⟩ : ∃ x, x = u := ⟨_, rfl⟩
  replace h := h r2 rfl
  refine Ev_istore_n (l' := [(1, ev_i r2), (0, ev_r 0)]) dX12_readProduct_34 rfl (Nat.le_of_ble_eq_true rfl) rfl ?_
  refine Ev_aload_n 1 dX12_readProduct_35 rfl rfl ?_
  refine Ev_callV (As := []) (b := 0) (st := []) (M' := M_X12_reads) cm_X12_reads wd_1706 wd_1708 wd_77 yM_0 cl_X12 rfl dX12_readProduct_36 (Nat.le_refl _) rfl (Nat.le_of_ble_eq_true rfl) (Nat.le_of_ble_eq_true rfl) h (fun v u h hk => ?_)
  cases hk
  obtain ⟨s3, rfl⟩ : ∃ x, x = u := ⟨_, rfl⟩
  refine Ev_iload_n 0 dX12_readProduct_39 rfl rfl ?_
  refine Ev_if_ne (tgt := 57) dX12_readProduct_40 rfl (fun c => ?_) (fun c => ?_)
  · replace h := h.1 c
    exact Ev_sub [1, 0] rfl h
  · replace h := h.2 c
    refine Ev_aload_n 1 dX12_readProduct_43 rfl rfl ?_
    refine Ev_get (i := 22) cl_X12 yM_0 (Nat.le_of_ble_eq_true rfl) rfl wd_1466 dX12_readProduct_44 ?_
    refine Ev_iconst dX12_readProduct_47 rfl (ev_Rc rfl) ?_
    refine Ev_icmp_eq (tgt := 57) dX12_readProduct_48 rfl (fun c => ?_) (fun c => ?_)
    · replace h := h.1 c
      exact Ev_sub [1, 0] rfl h
    · replace h := h.2 c
      refine Ev_aload_n 1 dX12_readProduct_51 rfl rfl ?_
      refine Ev_iconst dX12_readProduct_52 rfl (ev_Rc rfl) ?_
      refine Ev_callV (As := [ev_i 1]) (b := 0) (st := []) (M' := M_X12_errs) cm_X12_errs wd_1758 wd_1760 wd_90 yM_0 cl_X12 rfl dX12_readProduct_53 (Nat.le_refl _) rfl (Nat.le_of_ble_eq_true rfl) (Nat.le_of_ble_eq_true rfl) h (fun v u h hk => ?_)
      obtain ⟨r5, rfl⟩ := hk
      obtain ⟨s4, rfl⟩ : ∃ x, x = u := ⟨_, rfl⟩
      replace h := h r5 rfl
      exact Ev_iret rfl dX12_readProduct_56 rfl h
theorem wp_X12_readProduct_57 {d : Nat} {s : ev_S} {Q : Option ev_V → ev_S → Prop} {a1 : Int}
    (h : ((a1 ≠ 0 → Ev layM M_X12_readProduct (d + 1) 74 [(0, ev_r 0), (1, ev_i a1)] [] s Q) ∧ (a1 = 0 → (((s 0 23) ≠ 0 → Ev layM M_X12_readProduct (d + 1) 74 [(0, ev_r 0), (1, ev_i a1)] [] s Q) ∧ ((s 0 23) = 0 → (Ev layM M_X12_errs d 0 [(0, ev_r 0), (1, ev_i 2)] [] s (ev_pi (fun r2 s1 => Q (some (ev_i r2)) s1)))))))) :
    Ev layM M_X12_readProduct (d + 1) 57 [(0, ev_r 0), (1, ev_i a1)] [] s Q := by
  refine Ev_iload_n 1 dX12_readProduct_57 rfl rfl ?_
  refine Ev_if_ne (tgt := 74) dX12_readProduct_58 rfl (fun c => ?_) (fun c => ?_)
  · replace h := h.1 c
    exact Ev_sub [0, 1] rfl h
  · replace h := h.2 c
    refine Ev_aload_n 0 dX12_readProduct_61 rfl rfl ?_
    refine Ev_get (i := 23) cl_X12 yM_0 (Nat.le_of_ble_eq_true rfl) rfl wd_1467 dX12_readProduct_62 ?_
    refine Ev_if_ne (tgt := 74) dX12_readProduct_65 rfl (fun c => ?_) (fun c => ?_)
    · replace h := h.1 c
      exact Ev_sub [0, 1] rfl h
    · replace h := h.2 c
      refine Ev_aload_n 0 dX12_readProduct_68 rfl rfl ?_
      refine Ev_iconst dX12_readProduct_69 rfl (ev_Rc rfl) ?_
      refine Ev_callV (As := [ev_i 2]) (b := 0) (st := []) (M' := M_X12_errs) cm_X12_errs wd_1758 wd_1760 wd_90 yM_0 cl_X12 rfl dX12_readProduct_70 (Nat.le_refl _) rfl (Nat.le_of_ble_eq_true rfl) (Nat.le_of_ble_eq_true rfl) h (fun v u h hk => ?_)
      obtain ⟨r2, rfl⟩ := hk
      obtain ⟨s1, rfl⟩ : ∃ x, x = u := ⟨_, rfl⟩
      replace h := h r2 rfl
      exact Ev_iret rfl dX12_readProduct_73 rfl h
theorem wp_X12_readProduct_74 {d : Nat} {s : ev_S} {Q : Option ev_V → ev_S → Prop} {a1 : Int}
    (h : (Ev layM M_X12_readUnit d 0 [(0, ev_r 0)] [] s (ev_pi (fun r2 s1 => ((r2 ≠ (-1) → ((a1 = 0 → (Ev layM M_X12_emits d 0 [(0, ev_r 0), (1, ev_i 5), (2, ev_i 0)] [] s1 (fun _ s3 => Ev layM M_X12_readProduct (d + 1) 10 [(0, ev_r 0)] [] s3 Q))) ∧ (a1 ≠ 0 → (Ev layM M_X12_emits d 0 [(0, ev_r 0), (1, ev_i 4), (2, ev_i 0)] [] s1 (fun _ s4 => Ev layM M_X12_readProduct (d + 1) 10 [(0, ev_r 0)] [] s4 Q))))) ∧ (r2 = (-1) → Q (some (ev_i (-1))) s1)))))) :
    Ev layM M_X12_readProduct (d + 1) 74 [(0, ev_r 0), (1, ev_i a1)] [] s Q := by
  refine Ev_aload_n 0 dX12_readProduct_74 rfl rfl ?_
  refine Ev_callV (As := []) (b := 0) (st := []) (M' := M_X12_readUnit) cm_X12_readUnit wd_1842 wd_1844 wd_111 yM_0 cl_X12 rfl dX12_readProduct_75 (Nat.le_refl _) rfl (Nat.le_of_ble_eq_true rfl) (Nat.le_of_ble_eq_true rfl) h (fun v u h hk => ?_)
  obtain ⟨r2, rfl⟩ := hk
  obtain ⟨s1, rfl⟩ : ∃ x, x = u := ⟨_, rfl⟩
  replace h := h r2 rfl
  refine Ev_iconst dX12_readProduct_78 rfl (ev_Rc rfl) ?_
  refine Ev_icmp_ne (tgt := 84) dX12_readProduct_79 rfl (fun c => ?_) (fun c => ?_)
  · replace h := h.1 c
    refine Ev_aload_n 0 dX12_readProduct_84 rfl rfl ?_
    refine Ev_iload_n 1 dX12_readProduct_85 rfl rfl ?_
    refine Ev_if_eq (tgt := 93) dX12_readProduct_86 rfl (fun c => ?_) (fun c => ?_)
    · replace h := h.1 c
      refine Ev_iconst dX12_readProduct_93 rfl (ev_Rc rfl) ?_
      refine Ev_iconst dX12_readProduct_94 rfl (ev_Rc rfl) ?_
      refine Ev_callV (As := [ev_i 5, ev_i 0]) (b := 0) (st := []) (M' := M_X12_emits) cm_X12_emits wd_1846 wd_1848 wd_112 yM_0 cl_X12 rfl dX12_readProduct_95 (Nat.le_refl _) rfl (Nat.le_of_ble_eq_true rfl) (Nat.le_of_ble_eq_true rfl) h (fun v u h hk => ?_)
      cases hk
      obtain ⟨s3, rfl⟩ : ∃ x, x = u := ⟨_, rfl⟩
      refine Ev_goto (tgt := 10) dX12_readProduct_98 rfl ?_
      exact Ev_sub [0] rfl h
    · replace h := h.2 c
      refine Ev_iconst dX12_readProduct_89 rfl (ev_Rc rfl) ?_
      refine Ev_goto (tgt := 94) dX12_readProduct_90 rfl ?_
      refine Ev_iconst dX12_readProduct_94 rfl (ev_Rc rfl) ?_
      refine Ev_callV (As := [ev_i 4, ev_i 0]) (b := 0) (st := []) (M' := M_X12_emits) cm_X12_emits wd_1846 wd_1848 wd_112 yM_0 cl_X12 rfl dX12_readProduct_95 (Nat.le_refl _) rfl (Nat.le_of_ble_eq_true rfl) (Nat.le_of_ble_eq_true rfl) h (fun v u h hk => ?_)
      cases hk
      obtain ⟨s4, rfl⟩ : ∃ x, x = u := ⟨_, rfl⟩
      refine Ev_goto (tgt := 10) dX12_readProduct_98 rfl ?_
      exact Ev_sub [0] rfl h
  · replace h := h.2 c
    refine Ev_iconst dX12_readProduct_82 rfl (ev_Rc rfl) ?_
    exact Ev_iret rfl dX12_readProduct_83 rfl h
theorem dX12_readSum_0 : decode cX12_readSum 0 = .ok (.aload_n 0, 1) := by decide +kernel
theorem dX12_readSum_1 : decode cX12_readSum 1 = .ok (.invokevirtual 239, 3) := by decide +kernel
theorem dX12_readSum_4 : decode cX12_readSum 4 = .ok (.iconst (-1), 1) := by decide +kernel
theorem dX12_readSum_5 : decode cX12_readSum 5 = .ok (.if_icmp .ne 5, 3) := by decide +kernel
theorem dX12_readSum_8 : decode cX12_readSum 8 = .ok (.iconst (-1), 1) := by decide +kernel
theorem dX12_readSum_9 : decode cX12_readSum 9 = .ok (.ireturn, 1) := by decide +kernel
theorem dX12_readSum_10 : decode cX12_readSum 10 = .ok (.aload_n 0, 1) := by decide +kernel
theorem dX12_readSum_11 : decode cX12_readSum 11 = .ok (.bipush 43, 2) := by decide +kernel
theorem dX12_readSum_13 : decode cX12_readSum 13 = .ok (.invokevirtual 236, 3) := by decide +kernel
theorem dX12_readSum_16 : decode cX12_readSum 16 = .ok (.ifCond .ne 12, 3) := by decide +kernel
theorem dX12_readSum_19 : decode cX12_readSum 19 = .ok (.aload_n 0, 1) := by decide +kernel
theorem dX12_readSum_20 : decode cX12_readSum 20 = .ok (.bipush 45, 2) := by decide +kernel
theorem dX12_readSum_22 : decode cX12_readSum 22 = .ok (.invokevirtual 236, 3) := by decide +kernel
theorem dX12_readSum_25 : decode cX12_readSum 25 = .ok (.ifCond .eq 41, 3) := by decide +kernel
theorem dX12_readSum_28 : decode cX12_readSum 28 = .ok (.aload_n 0, 1) := by decide +kernel
theorem dX12_readSum_29 : decode cX12_readSum 29 = .ok (.getfield 197, 3) := by decide +kernel
theorem dX12_readSum_32 : decode cX12_readSum 32 = .ok (.bipush 43, 2) := by decide +kernel
theorem dX12_readSum_34 : decode cX12_readSum 34 = .ok (.if_icmp .ne 7, 3) := by decide +kernel
theorem dX12_readSum_37 : decode cX12_readSum 37 = .ok (.iconst 2, 1) := by decide +kernel
theorem dX12_readSum_38 : decode cX12_readSum 38 = .ok (.goto 4, 3) := by decide +kernel
theorem dX12_readSum_41 : decode cX12_readSum 41 = .ok (.iconst 3, 1) := by decide +kernel
theorem dX12_readSum_42 : decode cX12_readSum 42 = .ok (.istore_n 1, 1) := by decide +kernel
theorem dX12_readSum_43 : decode cX12_readSum 43 = .ok (.aload_n 0, 1) := by decide +kernel
theorem dX12_readSum_44 : decode cX12_readSum 44 = .ok (.invokevirtual 229, 3) := by decide +kernel
theorem dX12_readSum_47 : decode cX12_readSum 47 = .ok (.aload_n 0, 1) := by decide +kernel
theorem dX12_readSum_48 : decode cX12_readSum 48 = .ok (.invokevirtual 239, 3) := by decide +kernel
theorem dX12_readSum_51 : decode cX12_readSum 51 = .ok (.iconst (-1), 1) := by decide +kernel
theorem dX12_readSum_52 : decode cX12_readSum 52 = .ok (.if_icmp .ne 5, 3) := by decide +kernel
theorem dX12_readSum_55 : decode cX12_readSum 55 = .ok (.iconst (-1), 1) := by decide +kernel
theorem dX12_readSum_56 : decode cX12_readSum 56 = .ok (.ireturn, 1) := by decide +kernel
theorem dX12_readSum_57 : decode cX12_readSum 57 = .ok (.aload_n 0, 1) := by decide +kernel
theorem dX12_readSum_58 : decode cX12_readSum 58 = .ok (.iload_n 1, 1) := by decide +kernel
theorem dX12_readSum_59 : decode cX12_readSum 59 = .ok (.iconst 0, 1) := by decide +kernel
theorem dX12_readSum_60 : decode cX12_readSum 60 = .ok (.invokevirtual 225, 3) := by decide +kernel
theorem dX12_readSum_63 : decode cX12_readSum 63 = .ok (.goto (-53), 3) := by decide +kernel
theorem dX12_readSum_66 : decode cX12_readSum 66 = .ok (.iconst 0, 1) := by decide +kernel
theorem dX12_readSum_67 : decode cX12_readSum 67 = .ok (.ireturn, 1) := by decide +kernel
theorem wp_X12_readSum_0 {d : Nat} {s : ev_S} {Q : Option ev_V → ev_S → Prop}
    (h : (Ev layM M_X12_readProduct d 0 [(0, ev_r 0)] [] s (ev_pi (fun r2 s1 => ((r2 ≠ (-1) → Ev layM M_X12_readSum (d + 1) 10 [(0, ev_r 0)] [] s1 Q) ∧ (r2 = (-1) → Q (some (ev_i (-1))) s1)))))) :
    Ev layM M_X12_readSum (d + 1) 0 [(0, ev_r 0)] [] s Q := by
  refine Ev_aload_n 0 dX12_readSum_0 rfl rfl ?_
  refine Ev_callV (As := []) (b := 0) (st := []) (M' := M_X12_readProduct) cm_X12_readProduct wd_1838 wd_1840 wd_110 yM_0 cl_X12 rfl dX12_readSum_1 (Nat.le_refl _) rfl (Nat.le_of_ble_eq_true rfl) (Nat.le_of_ble_eq_true rfl) h (fun v u h hk => ?_)
  obtain ⟨r2, rfl⟩ := hk
  obtain ⟨s1, rfl⟩ : ∃ x, x = u := ⟨_, rfl⟩
  replace h := h r2 rfl
  refine Ev_iconst dX12_readSum_4 rfl (ev_Rc rfl) ?_
  refine Ev_icmp_ne (tgt := 10) dX12_readSum_5 rfl (fun c => ?_) (fun c => ?_)
  · replace h := h.1 c
    exact Ev_sub [0] rfl h
  · replace h := h.2 c
    refine Ev_iconst dX12_readSum_8 rfl (ev_Rc rfl) ?_
    exact Ev_iret rfl dX12_readSum_9 rfl h
theorem wp_X12_readSum_10 {d : Nat} {s : ev_S} {Q : Option ev_V → ev_S → Prop}
    (h : (Ev layM M_X12_isSign d 0 [(0, ev_r 0), (1, ev_i 43)] [] s (ev_pi (fun r2 s1 => ((r2 ≠ 0 → (((s1 0 23) ≠ 43 → Ev layM M_X12_readSum (d + 1) 42 [(0, ev_r 0)] [ev_i 3] s1 Q) ∧ ((s1 0 23) = 43 → Ev layM M_X12_readSum (d + 1) 42 [(0, ev_r 0)] [ev_i 2] s1 Q))) ∧ (r2 = 0 → (Ev layM M_X12_isSign d 0 [(0, ev_r 0), (1, ev_i 45)] [] s1 (ev_pi (fun r4 s3 => ((r4 = 0 → Q (some (ev_i 0)) s3) ∧ (r4 ≠ 0 → (((s3 0 23) ≠ 43 → Ev layM M_X12_readSum (d + 1) 42 [(0, ev_r 0)] [ev_i 3] s3 Q) ∧ ((s3 0 23) = 43 → Ev layM M_X12_readSum (d + 1) 42 [(0, ev_r 0)] [ev_i 2] s3 Q))))))))))))) :
    Ev layM M_X12_readSum (d + 1) 10 [(0, ev_r 0)] [] s Q := by
  refine Ev_aload_n 0 dX12_readSum_10 rfl rfl ?_
  refine Ev_bipushC dX12_readSum_11 rfl ?_
  refine Ev_callV (As := [ev_i 43]) (b := 0) (st := []) (M' := M_X12_isSign) cm_X12_isSign wd_1746 wd_1748 wd_87 yM_0 cl_X12 rfl dX12_readSum_13 (Nat.le_refl _) rfl (Nat.le_of_ble_eq_true rfl) (Nat.le_of_ble_eq_true rfl) h (fun v u h hk => ?_)
  obtain ⟨r2, rfl⟩ := hk
  obtain ⟨s1, rfl⟩ : ∃ x, x = u := ⟨_, rfl⟩
  replace h := h r2 rfl
  refine Ev_if_ne (tgt := 28) dX12_readSum_16 rfl (fun c => ?_) (fun c => ?_)
  · replace h := h.1 c
    refine Ev_aload_n 0 dX12_readSum_28 rfl rfl ?_
    refine Ev_get (i := 23) cl_X12 yM_0 (Nat.le_of_ble_eq_true rfl) rfl wd_1467 dX12_readSum_29 ?_
    refine Ev_bipushC dX12_readSum_32 rfl ?_
    refine Ev_icmp_ne (tgt := 41) dX12_readSum_34 rfl (fun c => ?_) (fun c => ?_)
    · replace h := h.1 c
      refine Ev_iconst dX12_readSum_41 rfl (ev_Rc rfl) ?_
      exact Ev_sub [0] rfl h
    · replace h := h.2 c
      refine Ev_iconst dX12_readSum_37 rfl (ev_Rc rfl) ?_
      refine Ev_goto (tgt := 42) dX12_readSum_38 rfl ?_
      exact Ev_sub [0] rfl h
  · replace h := h.2 c
    refine Ev_aload_n 0 dX12_readSum_19 rfl rfl ?_
    refine Ev_bipushC dX12_readSum_20 rfl ?_
    refine Ev_callV (As := [ev_i 45]) (b := 0) (st := []) (M' := M_X12_isSign) cm_X12_isSign wd_1746 wd_1748 wd_87 yM_0 cl_X12 rfl dX12_readSum_22 (Nat.le_refl _) rfl (Nat.le_of_ble_eq_true rfl) (Nat.le_of_ble_eq_true rfl) h (fun v u h hk => ?_)
    obtain ⟨r4, rfl⟩ := hk
    obtain ⟨s3, rfl⟩ : ∃ x, x = u := ⟨_, rfl⟩
    replace h := h r4 rfl
    refine Ev_if_eq (tgt := 66) dX12_readSum_25 rfl (fun c => ?_) (fun c => ?_)
    · replace h := h.1 c
      refine Ev_iconst dX12_readSum_66 rfl (ev_Rc rfl) ?_
      exact Ev_iret rfl dX12_readSum_67 rfl h
    · replace h := h.2 c
      refine Ev_aload_n 0 dX12_readSum_28 rfl rfl ?_
      refine Ev_get (i := 23) cl_X12 yM_0 (Nat.le_of_ble_eq_true rfl) rfl wd_1467 dX12_readSum_29 ?_
      refine Ev_bipushC dX12_readSum_32 rfl ?_
      refine Ev_icmp_ne (tgt := 41) dX12_readSum_34 rfl (fun c => ?_) (fun c => ?_)
      · replace h := h.1 c
        refine Ev_iconst dX12_readSum_41 rfl (ev_Rc rfl) ?_
        exact Ev_sub [0] rfl h
      · replace h := h.2 c
        refine Ev_iconst dX12_readSum_37 rfl (ev_Rc rfl) ?_
        refine Ev_goto (tgt := 42) dX12_readSum_38 rfl ?_
        exact Ev_sub [0] rfl h
theorem wp_X12_readSum_42 {d : Nat} {s : ev_S} {Q : Option ev_V → ev_S → Prop} {t0 : Int}
    (h : (Ev layM M_X12_reads d 0 [(0, ev_r 0)] [] s (fun _ s1 => (Ev layM M_X12_readProduct d 0 [(0, ev_r 0)] [] s1 (ev_pi (fun r3 s2 => ((r3 ≠ (-1) → (Ev layM M_X12_emits d 0 [(0, ev_r 0), (1, ev_i t0), (2, ev_i 0)] [] s2 (fun _ s4 => Ev layM M_X12_readSum (d + 1) 10 [(0, ev_r 0)] [] s4 Q))) ∧ (r3 = (-1) → Q (some (ev_i (-1))) s2)))))))) :
    Ev layM M_X12_readSum (d + 1) 42 [(0, ev_r 0)] [ev_i t0] s Q := by
  refine Ev_istore_n (l' := [(1, ev_i t0), (0, ev_r 0)]) dX12_readSum_42 rfl (Nat.le_of_ble_eq_true rfl) rfl ?_
  refine Ev_aload_n 1 dX12_readSum_43 rfl rfl ?_
  refine Ev_callV (As := []) (b := 0) (st := []) (M' := M_X12_reads) cm_X12_reads wd_1706 wd_1708 wd_77 yM_0 cl_X12 rfl dX12_readSum_44 (Nat.le_refl _) rfl (Nat.le_of_ble_eq_true rfl) (Nat.le_of_ble_eq_true rfl) h (fun v u h hk => ?_)
  cases hk
  obtain ⟨s1, rfl⟩ : ∃ x, x = u := ⟨_, rfl⟩
  refine Ev_aload_n 1 dX12_readSum_47 rfl rfl ?_
  refine Ev_callV (As := []) (b := 0) (st := []) (M' := M_X12_readProduct) cm_X12_readProduct wd_1838 wd_1840 wd_110 yM_0 cl_X12 rfl dX12_readSum_48 (Nat.le_refl _) rfl (Nat.le_of_ble_eq_true rfl) (Nat.le_of_ble_eq_true rfl) h (fun v u h hk => ?_)
  obtain ⟨r3, rfl⟩ := hk
  obtain ⟨s2, rfl⟩ : ∃ x, x = u := ⟨_, rfl⟩
  replace h := h r3 rfl
  refine Ev_iconst dX12_readSum_51 rfl (ev_Rc rfl) ?_
  refine Ev_icmp_ne (tgt := 57) dX12_readSum_52 rfl (fun c => ?_) (fun c => ?_)
  · replace h := h.1 c
    refine Ev_aload_n 1 dX12_readSum_57 rfl rfl ?_
    refine Ev_iload_n 0 dX12_readSum_58 rfl rfl ?_
    refine Ev_iconst dX12_readSum_59 rfl (ev_Rc rfl) ?_
    refine Ev_callV (As := [ev_i t0, ev_i 0]) (b := 0) (st := []) (M' := M_X12_emits) cm_X12_emits wd_1846 wd_1848 wd_112 yM_0 cl_X12 rfl dX12_readSum_60 (Nat.le_refl _) rfl (Nat.le_of_ble_eq_true rfl) (Nat.le_of_ble_eq_true rfl) h (fun v u h hk => ?_)
    cases hk
    obtain ⟨s4, rfl⟩ : ∃ x, x = u := ⟨_, rfl⟩
    refine Ev_goto (tgt := 10) dX12_readSum_63 rfl ?_
    exact Ev_sub [1] rfl h
  · replace h := h.2 c
    refine Ev_iconst dX12_readSum_55 rfl (ev_Rc rfl) ?_
    exact Ev_iret rfl dX12_readSum_56 rfl h
theorem dX12_readCompared_0 : decode cX12_readCompared 0 = .ok (.aload_n 0, 1) := by decide +kernel
theorem dX12_readCompared_1 : decode cX12_readCompared 1 = .ok (.invokevirtual 242, 3) := by decide +kernel
theorem dX12_readCompared_4 : decode cX12_readCompared 4 = .ok (.iconst (-1), 1) := by decide +kernel
theorem dX12_readCompared_5 : decode cX12_readCompared 5 = .ok (.if_icmp .ne 5, 3) := by decide +kernel
theorem dX12_readCompared_8 : decode cX12_readCompared 8 = .ok (.iconst (-1), 1) := by decide +kernel
theorem dX12_readCompared_9 : decode cX12_readCompared 9 = .ok (.ireturn, 1) := by decide +kernel
theorem dX12_readCompared_10 : decode cX12_readCompared 10 = .ok (.aload_n 0, 1) := by decide +kernel
theorem dX12_readCompared_11 : decode cX12_readCompared 11 = .ok (.bipush 60, 2) := by decide +kernel
theorem dX12_readCompared_13 : decode cX12_readCompared 13 = .ok (.invokevirtual 236, 3) := by decide +kernel
theorem dX12_readCompared_16 : decode cX12_readCompared 16 = .ok (.ifCond .ne 27, 3) := by decide +kernel
theorem dX12_readCompared_19 : decode cX12_readCompared 19 = .ok (.aload_n 0, 1) := by decide +kernel
theorem dX12_readCompared_20 : decode cX12_readCompared 20 = .ok (.bipush 61, 2) := by decide +kernel
theorem dX12_readCompared_22 : decode cX12_readCompared 22 = .ok (.invokevirtual 236, 3) := by decide +kernel
theorem dX12_readCompared_25 : decode cX12_readCompared 25 = .ok (.ifCond .ne 18, 3) := by decide +kernel
theorem dX12_readCompared_28 : decode cX12_readCompared 28 = .ok (.aload_n 0, 1) := by decide +kernel
theorem dX12_readCompared_29 : decode cX12_readCompared 29 = .ok (.bipush 62, 2) := by decide +kernel
theorem dX12_readCompared_31 : decode cX12_readCompared 31 = .ok (.invokevirtual 236, 3) := by decide +kernel
theorem dX12_readCompared_34 : decode cX12_readCompared 34 = .ok (.ifCond .ne 9, 3) := by decide +kernel
theorem dX12_readCompared_37 : decode cX12_readCompared 37 = .ok (.aload_n 0, 1) := by decide +kernel
theorem dX12_readCompared_38 : decode cX12_readCompared 38 = .ok (.iconst 1, 1) := by decide +kernel
theorem dX12_readCompared_39 : decode cX12_readCompared 39 = .ok (.invokevirtual 222, 3) := by decide +kernel
theorem dX12_readCompared_42 : decode cX12_readCompared 42 = .ok (.ireturn, 1) := by decide +kernel
theorem dX12_readCompared_43 : decode cX12_readCompared 43 = .ok (.aload_n 0, 1) := by decide +kernel
theorem dX12_readCompared_44 : decode cX12_readCompared 44 = .ok (.getfield 197, 3) := by decide +kernel
theorem dX12_readCompared_47 : decode cX12_readCompared 47 = .ok (.bipush 60, 2) := by decide +kernel
theorem dX12_readCompared_49 : decode cX12_readCompared 49 = .ok (.if_icmp .ne 8, 3) := by decide +kernel
theorem dX12_readCompared_52 : decode cX12_readCompared 52 = .ok (.bipush 6, 2) := by decide +kernel
theorem dX12_readCompared_54 : decode cX12_readCompared 54 = .ok (.goto 19, 3) := by decide +kernel
theorem dX12_readCompared_57 : decode cX12_readCompared 57 = .ok (.aload_n 0, 1) := by decide +kernel
theorem dX12_readCompared_58 : decode cX12_readCompared 58 = .ok (.getfield 197, 3) := by decide +kernel
theorem dX12_readCompared_61 : decode cX12_readCompared 61 = .ok (.bipush 61, 2) := by decide +kernel
theorem dX12_readCompared_63 : decode cX12_readCompared 63 = .ok (.if_icmp .ne 8, 3) := by decide +kernel
theorem dX12_readCompared_66 : decode cX12_readCompared 66 = .ok (.bipush 7, 2) := by decide +kernel
theorem dX12_readCompared_68 : decode cX12_readCompared 68 = .ok (.goto 5, 3) := by decide +kernel
theorem dX12_readCompared_71 : decode cX12_readCompared 71 = .ok (.bipush 8, 2) := by decide +kernel
theorem dX12_readCompared_73 : decode cX12_readCompared 73 = .ok (.istore_n 1, 1) := by decide +kernel
theorem dX12_readCompared_74 : decode cX12_readCompared 74 = .ok (.aload_n 0, 1) := by decide +kernel
theorem dX12_readCompared_75 : decode cX12_readCompared 75 = .ok (.invokevirtual 229, 3) := by decide +kernel
theorem dX12_readCompared_78 : decode cX12_readCompared 78 = .ok (.aload_n 0, 1) := by decide +kernel
theorem dX12_readCompared_79 : decode cX12_readCompared 79 = .ok (.invokevirtual 242, 3) := by decide +kernel
theorem dX12_readCompared_82 : decode cX12_readCompared 82 = .ok (.iconst (-1), 1) := by decide +kernel
theorem dX12_readCompared_83 : decode cX12_readCompared 83 = .ok (.if_icmp .ne 5, 3) := by decide +kernel
theorem dX12_readCompared_86 : decode cX12_readCompared 86 = .ok (.iconst (-1), 1) := by decide +kernel
theorem dX12_readCompared_87 : decode cX12_readCompared 87 = .ok (.ireturn, 1) := by decide +kernel
theorem dX12_readCompared_88 : decode cX12_readCompared 88 = .ok (.aload_n 0, 1) := by decide +kernel
theorem dX12_readCompared_89 : decode cX12_readCompared 89 = .ok (.iload_n 1, 1) := by decide +kernel
theorem dX12_readCompared_90 : decode cX12_readCompared 90 = .ok (.iconst 0, 1) := by decide +kernel
theorem dX12_readCompared_91 : decode cX12_readCompared 91 = .ok (.invokevirtual 225, 3) := by decide +kernel
theorem dX12_readCompared_94 : decode cX12_readCompared 94 = .ok (.iconst 0, 1) := by decide +kernel
theorem dX12_readCompared_95 : decode cX12_readCompared 95 = .ok (.ireturn, 1) := by decide +kernel
theorem wp_X12_readCompared_0 {d : Nat} {s : ev_S} {Q : Option ev_V → ev_S → Prop}
    (h : (Ev layM M_X12_readSum d 0 [(0, ev_r 0)] [] s (ev_pi (fun r2 s1 => ((r2 ≠ (-1) → (Ev layM M_X12_isSign d 0 [(0, ev_r 0), (1, ev_i 60)] [] s1 (ev_pi (fun r4 s3 => ((r4 ≠ 0 → Ev layM M_X12_readCompared (d + 1) 43 [(0, ev_r 0)] [] s3 Q) ∧ (r4 = 0 → (Ev layM M_X12_isSign d 0 [(0, ev_r 0), (1, ev_i 61)] [] s3 (ev_pi (fun r6 s5 => ((r6 ≠ 0 → Ev layM M_X12_readCompared (d + 1) 43 [(0, ev_r 0)] [] s5 Q) ∧ (r6 = 0 → (Ev layM M_X12_isSign d 0 [(0, ev_r 0), (1, ev_i 62)] [] s5 (ev_pi (fun r8 s7 => ((r8 ≠ 0 → Ev layM M_X12_readCompared (d + 1) 43 [(0, ev_r 0)] [] s7 Q) ∧ (r8 = 0 → (Ev layM M_X12_errs d 0 [(0, ev_r 0), (1, ev_i 1)] [] s7 (ev_pi (fun r10 s9 => Q (some (ev_i r10)) s9))))))))))))))))))) ∧ (r2 = (-1) → Q (some (ev_i (-1))) s1)))))) :
    Ev layM M_X12_readCompared (d + 1) 0 [(0, ev_r 0)] [] s Q := by
  refine Ev_aload_n 0 dX12_readCompared_0 rfl rfl ?_
  refine Ev_callV (As := []) (b := 0) (st := []) (M' := M_X12_readSum) cm_X12_readSum wd_1834 wd_1836 wd_109 yM_0 cl_X12 rfl dX12_readCompared_1 (Nat.le_refl _) rfl (Nat.le_of_ble_eq_true rfl) (Nat.le_of_ble_eq_true rfl) h (fun v u h hk => ?_)
  obtain ⟨r2, rfl⟩ := hk
  obtain ⟨s1, rfl⟩ : ∃ x, x = u := ⟨_, rfl⟩
  replace h := h r2 rfl
  refine Ev_iconst dX12_readCompared_4 rfl (ev_Rc rfl) ?_
  refine Ev_icmp_ne (tgt := 10) dX12_readCompared_5 rfl (fun c => ?_) (fun c => ?_)
  · replace h := h.1 c
    refine Ev_aload_n 0 dX12_readCompared_10 rfl rfl ?_
    refine Ev_bipushC dX12_readCompared_11 rfl ?_
    refine Ev_callV (As := [ev_i 60]) (b := 0) (st := []) (M' := M_X12_isSign) cm_X12_isSign wd_1746 wd_1748 wd_87 yM_0 cl_X12 rfl dX12_readCompared_13 (Nat.le_refl _) rfl (Nat.le_of_ble_eq_true rfl) (Nat.le_of_ble_eq_true rfl) h (fun v u h hk => ?_)
    obtain ⟨r4, rfl⟩ := hk
    obtain ⟨s3, rfl⟩ : ∃ x, x = u := ⟨_, rfl⟩
    replace h := h r4 rfl
    refine Ev_if_ne (tgt := 43) dX12_readCompared_16 rfl (fun c => ?_) (fun c => ?_)
    · replace h := h.1 c
      exact Ev_sub [0] rfl h
    · replace h := h.2 c
      refine Ev_aload_n 0 dX12_readCompared_19 rfl rfl ?_
      refine Ev_bipushC dX12_readCompared_20 rfl ?_
      refine Ev_callV (As := [ev_i 61]) (b := 0) (st := []) (M' := M_X12_isSign) cm_X12_isSign wd_1746 wd_1748 wd_87 yM_0 cl_X12 rfl dX12_readCompared_22 (Nat.le_refl _) rfl (Nat.le_of_ble_eq_true rfl) (Nat.le_of_ble_eq_true rfl) h (fun v u h hk => ?_)
      obtain ⟨r6, rfl⟩ := hk
      obtain ⟨s5, rfl⟩ : ∃ x, x = u := ⟨_, rfl⟩
      replace h := h r6 rfl
      refine Ev_if_ne (tgt := 43) dX12_readCompared_25 rfl (fun c => ?_) (fun c => ?_)
      · replace h := h.1 c
        exact Ev_sub [0] rfl h
      · replace h := h.2 c
        refine Ev_aload_n 0 dX12_readCompared_28 rfl rfl ?_
        refine Ev_bipushC dX12_readCompared_29 rfl ?_
        refine Ev_callV (As := [ev_i 62]) (b := 0) (st := []) (M' := M_X12_isSign) cm_X12_isSign wd_1746 wd_1748 wd_87 yM_0 cl_X12 rfl dX12_readCompared_31 (Nat.le_refl _) rfl (Nat.le_of_ble_eq_true rfl) (Nat.le_of_ble_eq_true rfl) h (fun v u h hk => ?_)
        obtain ⟨r8, rfl⟩ := hk
        obtain ⟨s7, rfl⟩ : ∃ x, x = u := ⟨_, rfl⟩
        replace h := h r8 rfl
        refine Ev_if_ne (tgt := 43) dX12_readCompared_34 rfl (fun c => ?_) (fun c => ?_)
        · replace h := h.1 c
          exact Ev_sub [0] rfl h
        · replace h := h.2 c
          refine Ev_aload_n 0 dX12_readCompared_37 rfl rfl ?_
          refine Ev_iconst dX12_readCompared_38 rfl (ev_Rc rfl) ?_
          refine Ev_callV (As := [ev_i 1]) (b := 0) (st := []) (M' := M_X12_errs) cm_X12_errs wd_1758 wd_1760 wd_90 yM_0 cl_X12 rfl dX12_readCompared_39 (Nat.le_refl _) rfl (Nat.le_of_ble_eq_true rfl) (Nat.le_of_ble_eq_true rfl) h (fun v u h hk => ?_)
          obtain ⟨r10, rfl⟩ := hk
          obtain ⟨s9, rfl⟩ : ∃ x, x = u := ⟨_, rfl⟩
          replace h := h r10 rfl
          exact Ev_iret rfl dX12_readCompared_42 rfl h
  · replace h := h.2 c
    refine Ev_iconst dX12_readCompared_8 rfl (ev_Rc rfl) ?_
    exact Ev_iret rfl dX12_readCompared_9 rfl h
theorem wp_X12_readCompared_43 {d : Nat} {s : ev_S} {Q : Option ev_V → ev_S → Prop}
    (h : (((s 0 23) ≠ 60 → (((s 0 23) ≠ 61 → Ev layM M_X12_readCompared (d + 1) 73 [(0, ev_r 0)] [ev_i 8] s Q) ∧ ((s 0 23) = 61 → Ev layM M_X12_readCompared (d + 1) 73 [(0, ev_r 0)] [ev_i 7] s Q))) ∧ ((s 0 23) = 60 → Ev layM M_X12_readCompared (d + 1) 73 [(0, ev_r 0)] [ev_i 6] s Q))) :
    Ev layM M_X12_readCompared (d + 1) 43 [(0, ev_r 0)] [] s Q := by
  refine Ev_aload_n 0 dX12_readCompared_43 rfl rfl ?_
  refine Ev_get (i := 23) cl_X12 yM_0 (Nat.le_of_ble_eq_true rfl) rfl wd_1467 dX12_readCompared_44 ?_
  refine Ev_bipushC dX12_readCompared_47 rfl ?_
  refine Ev_icmp_ne (tgt := 57) dX12_readCompared_49 rfl (fun c => ?_) (fun c => ?_)
  · replace h := h.1 c
    refine Ev_aload_n 0 dX12_readCompared_57 rfl rfl ?_
    refine Ev_get (i := 23) cl_X12 yM_0 (Nat.le_of_ble_eq_true rfl) rfl wd_1467 dX12_readCompared_58 ?_
    refine Ev_bipushC dX12_readCompared_61 rfl ?_
    refine Ev_icmp_ne (tgt := 71) dX12_readCompared_63 rfl (fun c => ?_) (fun c => ?_)
    · replace h := h.1 c
      refine Ev_bipushC dX12_readCompared_71 rfl ?_
      exact Ev_sub [0] rfl h
    · replace h := h.2 c
      refine Ev_bipushC dX12_readCompared_66 rfl ?_
      refine Ev_goto (tgt := 73) dX12_readCompared_68 rfl ?_
      exact Ev_sub [0] rfl h
  · replace h := h.2 c
    refine Ev_bipushC dX12_readCompared_52 rfl ?_
    refine Ev_goto (tgt := 73) dX12_readCompared_54 rfl ?_
    exact Ev_sub [0] rfl h
theorem wp_X12_readCompared_73 {d : Nat} {s : ev_S} {Q : Option ev_V → ev_S → Prop} {t0 : Int}
    (h : (Ev layM M_X12_reads d 0 [(0, ev_r 0)] [] s (fun _ s1 => (Ev layM M_X12_readSum d 0 [(0, ev_r 0)] [] s1 (ev_pi (fun r3 s2 => ((r3 ≠ (-1) → (Ev layM M_X12_emits d 0 [(0, ev_r 0), (1, ev_i t0), (2, ev_i 0)] [] s2 (fun _ s4 => Q (some (ev_i 0)) s4))) ∧ (r3 = (-1) → Q (some (ev_i (-1))) s2)))))))) :
    Ev layM M_X12_readCompared (d + 1) 73 [(0, ev_r 0)] [ev_i t0] s Q := by
  refine Ev_istore_n (l' := [(1, ev_i t0), (0, ev_r 0)]) dX12_readCompared_73 rfl (Nat.le_of_ble_eq_true rfl) rfl ?_
  refine Ev_aload_n 1 dX12_readCompared_74 rfl rfl ?_
  refine Ev_callV (As := []) (b := 0) (st := []) (M' := M_X12_reads) cm_X12_reads wd_1706 wd_1708 wd_77 yM_0 cl_X12 rfl dX12_readCompared_75 (Nat.le_refl _) rfl (Nat.le_of_ble_eq_true rfl) (Nat.le_of_ble_eq_true rfl) h (fun v u h hk => ?_)
  cases hk
  obtain ⟨s1, rfl⟩ : ∃ x, x = u := ⟨_, rfl⟩
  refine Ev_aload_n 1 dX12_readCompared_78 rfl rfl ?_
  refine Ev_callV (As := []) (b := 0) (st := []) (M' := M_X12_readSum) cm_X12_readSum wd_1834 wd_1836 wd_109 yM_0 cl_X12 rfl dX12_readCompared_79 (Nat.le_refl _) rfl (Nat.le_of_ble_eq_true rfl) (Nat.le_of_ble_eq_true rfl) h (fun v u h hk => ?_)
  obtain ⟨r3, rfl⟩ := hk
  obtain ⟨s2, rfl⟩ : ∃ x, x = u := ⟨_, rfl⟩
  replace h := h r3 rfl
  refine Ev_iconst dX12_readCompared_82 rfl (ev_Rc rfl) ?_
  refine Ev_icmp_ne (tgt := 88) dX12_readCompared_83 rfl (fun c => ?_) (fun c => ?_)
  · replace h := h.1 c
    refine Ev_aload_n 1 dX12_readCompared_88 rfl rfl ?_
    refine Ev_iload_n 0 dX12_readCompared_89 rfl rfl ?_
    refine Ev_iconst dX12_readCompared_90 rfl (ev_Rc rfl) ?_
    refine Ev_callV (As := [ev_i t0, ev_i 0]) (b := 0) (st := []) (M' := M_X12_emits) cm_X12_emits wd_1846 wd_1848 wd_112 yM_0 cl_X12 rfl dX12_readCompared_91 (Nat.le_refl _) rfl (Nat.le_of_ble_eq_true rfl) (Nat.le_of_ble_eq_true rfl) h (fun v u h hk => ?_)
    cases hk
    obtain ⟨s4, rfl⟩ : ∃ x, x = u := ⟨_, rfl⟩
    refine Ev_iconst dX12_readCompared_94 rfl (ev_Rc rfl) ?_
    exact Ev_iret rfl dX12_readCompared_95 rfl h
  · replace h := h.2 c
    refine Ev_iconst dX12_readCompared_86 rfl (ev_Rc rfl) ?_
    exact Ev_iret rfl dX12_readCompared_87 rfl h
