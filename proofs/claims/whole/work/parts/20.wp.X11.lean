theorem dX11_state_0 : decode cX11_state 0 = .ok (.aload_n 0, 1) := by decide +kernel
theorem dX11_state_1 : decode cX11_state 1 = .ok (.getfield 19, 3) := by decide +kernel
theorem dX11_state_4 : decode cX11_state 4 = .ok (.getfield 93, 3) := by decide +kernel
theorem dX11_state_7 : decode cX11_state 7 = .ok (.istore_n 2, 1) := by decide +kernel
theorem dX11_state_8 : decode cX11_state 8 = .ok (.aload_n 0, 1) := by decide +kernel
theorem dX11_state_9 : decode cX11_state 9 = .ok (.getfield 19, 3) := by decide +kernel
theorem dX11_state_12 : decode cX11_state 12 = .ok (.iload_n 1, 1) := by decide +kernel
theorem dX11_state_13 : decode cX11_state 13 = .ok (.putfield 93, 3) := by decide +kernel
theorem dX11_state_16 : decode cX11_state 16 = .ok (.aload_n 0, 1) := by decide +kernel
theorem dX11_state_17 : decode cX11_state 17 = .ok (.invokevirtual 97, 3) := by decide +kernel
theorem dX11_state_20 : decode cX11_state 20 = .ok (.iload_n 2, 1) := by decide +kernel
theorem dX11_state_21 : decode cX11_state 21 = .ok (.ireturn, 1) := by decide +kernel
theorem wp_X11_state_0 {d : Nat} {s : ev_S} {Q : Option ev_V → ev_S → Prop} {a1 : Int}
    (h : (∀ s1, ev_up s 15 1 a1 = s1 → (Ev layX M_X11_isTold d 0 [(0, ev_r 0)] [] s1 (fun _ s2 => Q (some (ev_i (s 15 1))) s2)))) :
    Ev layX M_X11_state (d + 1) 0 [(0, ev_r 0), (1, ev_i a1)] [] s Q := by
  refine Ev_aload_n 0 dX11_state_0 rfl rfl ?_
  refine Ev_getR (i := 1) cl_X11 yX_0 (Nat.le_of_ble_eq_true rfl) rfl wd_701 dX11_state_1 ?_
  refine Ev_get (i := 1) cl_X2 yX_15 (Nat.le_of_ble_eq_true rfl) rfl wd_342 dX11_state_4 ?_
  refine Ev_istore_n (l' := [(2, ev_i (s 15 1)), (0, ev_r 0), (1, ev_i a1)]) dX11_state_7 rfl (Nat.le_of_ble_eq_true rfl) rfl ?_
  refine Ev_aload_n 1 dX11_state_8 rfl rfl ?_
  refine Ev_getR (i := 1) cl_X11 yX_0 (Nat.le_of_ble_eq_true rfl) rfl wd_701 dX11_state_9 ?_
  refine Ev_iload_n 2 dX11_state_12 rfl rfl ?_
  refine Ev_put (i := 1) (ty := .int) cl_X2 yX_15 (Nat.le_of_ble_eq_true rfl) rfl rfl (by decide +kernel) rfl rfl wd_342 dX11_state_13 (Ev_nm (fun s1 es1 => ?_))
  replace h := h s1 es1
  refine Ev_aload_n 1 dX11_state_16 rfl rfl ?_
  refine Ev_callV (As := []) (b := 0) (st := []) (M' := M_X11_isTold) cm_X11_isTold wd_735 wd_737 wd_0 yX_0 cl_X11 rfl dX11_state_17 (Nat.le_refl _) rfl (Nat.le_of_ble_eq_true rfl) (Nat.le_of_ble_eq_true rfl) h (fun v u h hk => ?_)
  cases hk
  obtain ⟨s2, rfl⟩ : ∃ x, x = u := ⟨_, rfl⟩
  refine Ev_iload_n 0 dX11_state_20 rfl rfl ?_
  exact Ev_iret rfl dX11_state_21 rfl h
theorem dX11_town_0 : decode cX11_town 0 = .ok (.iload_n 1, 1) := by decide +kernel
theorem dX11_town_1 : decode cX11_town 1 = .ok (.iconst 2, 1) := by decide +kernel
theorem dX11_town_2 : decode cX11_town 2 = .ok (.if_icmp .lt 20, 3) := by decide +kernel
theorem dX11_town_5 : decode cX11_town 5 = .ok (.iload_n 1, 1) := by decide +kernel
theorem dX11_town_6 : decode cX11_town 6 = .ok (.bipush 8, 2) := by decide +kernel
theorem dX11_town_8 : decode cX11_town 8 = .ok (.if_icmp .gt 14, 3) := by decide +kernel
theorem dX11_town_11 : decode cX11_town 11 = .ok (.iload_n 2, 1) := by decide +kernel
theorem dX11_town_12 : decode cX11_town 12 = .ok (.iconst 2, 1) := by decide +kernel
theorem dX11_town_13 : decode cX11_town 13 = .ok (.if_icmp .lt 9, 3) := by decide +kernel
theorem dX11_town_16 : decode cX11_town 16 = .ok (.iload_n 2, 1) := by decide +kernel
theorem dX11_town_17 : decode cX11_town 17 = .ok (.bipush 8, 2) := by decide +kernel
theorem dX11_town_19 : decode cX11_town 19 = .ok (.if_icmp .le 5, 3) := by decide +kernel
theorem dX11_town_22 : decode cX11_town 22 = .ok (.iconst 0, 1) := by decide +kernel
theorem dX11_town_23 : decode cX11_town 23 = .ok (.ireturn, 1) := by decide +kernel
theorem dX11_town_24 : decode cX11_town 24 = .ok (.aload_n 0, 1) := by decide +kernel
theorem dX11_town_25 : decode cX11_town 25 = .ok (.getfield 12, 3) := by decide +kernel
theorem dX11_town_28 : decode cX11_town 28 = .ok (.iload_n 1, 1) := by decide +kernel
theorem dX11_town_29 : decode cX11_town 29 = .ok (.iload_n 2, 1) := by decide +kernel
theorem dX11_town_30 : decode cX11_town 30 = .ok (.invokevirtual 87, 3) := by decide +kernel
theorem dX11_town_33 : decode cX11_town 33 = .ok (.aload_n 0, 1) := by decide +kernel
theorem dX11_town_34 : decode cX11_town 34 = .ok (.getfield 19, 3) := by decide +kernel
theorem dX11_town_37 : decode cX11_town 37 = .ok (.getfield 93, 3) := by decide +kernel
theorem dX11_town_40 : decode cX11_town 40 = .ok (.istore_n 3, 1) := by decide +kernel
theorem dX11_town_41 : decode cX11_town 41 = .ok (.aload_n 0, 1) := by decide +kernel
theorem dX11_town_42 : decode cX11_town 42 = .ok (.getfield 19, 3) := by decide +kernel
theorem dX11_town_45 : decode cX11_town 45 = .ok (.invokevirtual 91, 3) := by decide +kernel
theorem dX11_town_48 : decode cX11_town 48 = .ok (.aload_n 0, 1) := by decide +kernel
theorem dX11_town_49 : decode cX11_town 49 = .ok (.getfield 19, 3) := by decide +kernel
theorem dX11_town_52 : decode cX11_town 52 = .ok (.iload_n 3, 1) := by decide +kernel
theorem dX11_town_53 : decode cX11_town 53 = .ok (.putfield 93, 3) := by decide +kernel
theorem dX11_town_56 : decode cX11_town 56 = .ok (.aload_n 0, 1) := by decide +kernel
theorem dX11_town_57 : decode cX11_town 57 = .ok (.invokevirtual 97, 3) := by decide +kernel
theorem dX11_town_60 : decode cX11_town 60 = .ok (.iconst 1, 1) := by decide +kernel
theorem dX11_town_61 : decode cX11_town 61 = .ok (.ireturn, 1) := by decide +kernel
theorem wp_X11_town_0 {d : Nat} {s : ev_S} {Q : Option ev_V → ev_S → Prop} {a1 a2 : Int}
    (h : ((a1 < 2 → Q (some (ev_i 0)) s) ∧ (2 ≤ a1 → ((8 < a1 → Q (some (ev_i 0)) s) ∧ (a1 ≤ 8 → ((a2 < 2 → Q (some (ev_i 0)) s) ∧ (2 ≤ a2 → ((a2 ≤ 8 → (Ev layX M_X10_clear d 0 [(0, ev_r 1), (1, ev_i a1), (2, ev_i a2)] [] s (fun _ s1 => (Ev layX M_X2_clear d 0 [(0, ev_r 15)] [] s1 (fun _ s2 => (∀ s3, ev_up s2 15 1 (s1 15 1) = s3 → (Ev layX M_X11_isTold d 0 [(0, ev_r 0)] [] s3 (fun _ s4 => Q (some (ev_i 1)) s4)))))))) ∧ (8 < a2 → Q (some (ev_i 0)) s))))))))) :
    Ev layX M_X11_town (d + 1) 0 [(0, ev_r 0), (1, ev_i a1), (2, ev_i a2)] [] s Q := by
  refine Ev_iload_n 1 dX11_town_0 rfl rfl ?_
  refine Ev_iconst dX11_town_1 rfl (ev_Rc rfl) ?_
  refine Ev_icmp_lt (tgt := 22) dX11_town_2 rfl (fun c => ?_) (fun c => ?_)
  · replace h := h.1 c
    refine Ev_iconst dX11_town_22 rfl (ev_Rc rfl) ?_
    exact Ev_iret rfl dX11_town_23 (ev_nb (by decide)) h
  · replace h := h.2 c
    refine Ev_iload_n 1 dX11_town_5 rfl rfl ?_
    refine Ev_bipushC dX11_town_6 rfl ?_
    refine Ev_icmp_gt (tgt := 22) dX11_town_8 rfl (fun c => ?_) (fun c => ?_)
    · replace h := h.1 c
      refine Ev_iconst dX11_town_22 rfl (ev_Rc rfl) ?_
      exact Ev_iret rfl dX11_town_23 (ev_nb (by decide)) h
    · replace h := h.2 c
      refine Ev_iload_n 2 dX11_town_11 rfl rfl ?_
      refine Ev_iconst dX11_town_12 rfl (ev_Rc rfl) ?_
      refine Ev_icmp_lt (tgt := 22) dX11_town_13 rfl (fun c => ?_) (fun c => ?_)
      · replace h := h.1 c
        refine Ev_iconst dX11_town_22 rfl (ev_Rc rfl) ?_
        exact Ev_iret rfl dX11_town_23 (ev_nb (by decide)) h
      · replace h := h.2 c
        refine Ev_iload_n 2 dX11_town_16 rfl rfl ?_
        refine Ev_bipushC dX11_town_17 rfl ?_
        refine Ev_icmp_le (tgt := 24) dX11_town_19 rfl (fun c => ?_) (fun c => ?_)
        · replace h := h.1 c
          refine Ev_aload_n 0 dX11_town_24 rfl rfl ?_
          refine Ev_getR (i := 0) cl_X11 yX_0 (Nat.le_of_ble_eq_true rfl) rfl wd_700 dX11_town_25 ?_
          refine Ev_iload_n 1 dX11_town_28 rfl rfl ?_
          refine Ev_iload_n 2 dX11_town_29 rfl rfl ?_
          refine Ev_callV (As := [ev_i a1, ev_i a2]) (b := 1) (st := []) (M' := M_X10_clear) cm_X10_clear wd_680 wd_681 wd_682 yX_1 cl_X10 rfl dX11_town_30 (Nat.le_refl _) rfl (Nat.le_of_ble_eq_true rfl) (Nat.le_of_ble_eq_true rfl) h (fun v u h hk => ?_)
          cases hk
          obtain ⟨s1, rfl⟩ : ∃ x, x = u := ⟨_, rfl⟩
          refine Ev_aload_n 0 dX11_town_33 rfl rfl ?_
          refine Ev_getR (i := 1) cl_X11 yX_0 (Nat.le_of_ble_eq_true rfl) rfl wd_701 dX11_town_34 ?_
          refine Ev_get (i := 1) cl_X2 yX_15 (Nat.le_of_ble_eq_true rfl) rfl wd_342 dX11_town_37 ?_
          refine Ev_istore_n (l' := [(3, ev_i (s1 15 1)), (0, ev_r 0), (1, ev_i a1), (2, ev_i a2)]) dX11_town_40 rfl (Nat.le_of_ble_eq_true rfl) rfl ?_
          refine Ev_aload_n 1 dX11_town_41 rfl rfl ?_
          refine Ev_getR (i := 1) cl_X11 yX_0 (Nat.le_of_ble_eq_true rfl) rfl wd_701 dX11_town_42 ?_
          refine Ev_callV (As := []) (b := 15) (st := []) (M' := M_X2_clear) cm_X2_clear wd_691 wd_692 wd_693 yX_15 cl_X2 rfl dX11_town_45 (Nat.le_refl _) rfl (Nat.le_of_ble_eq_true rfl) (Nat.le_of_ble_eq_true rfl) h (fun v u h hk => ?_)
          cases hk
          obtain ⟨s2, rfl⟩ : ∃ x, x = u := ⟨_, rfl⟩
          refine Ev_aload_n 1 dX11_town_48 rfl rfl ?_
          refine Ev_getR (i := 1) cl_X11 yX_0 (Nat.le_of_ble_eq_true rfl) rfl wd_701 dX11_town_49 ?_
          refine Ev_iload_n 0 dX11_town_52 rfl rfl ?_
          refine Ev_put (i := 1) (ty := .int) cl_X2 yX_15 (Nat.le_of_ble_eq_true rfl) rfl rfl (by decide +kernel) rfl rfl wd_342 dX11_town_53 (Ev_nm (fun s3 es3 => ?_))
          replace h := h s3 es3
          refine Ev_aload_n 1 dX11_town_56 rfl rfl ?_
          refine Ev_callV (As := []) (b := 0) (st := []) (M' := M_X11_isTold) cm_X11_isTold wd_735 wd_737 wd_0 yX_0 cl_X11 rfl dX11_town_57 (Nat.le_refl _) rfl (Nat.le_of_ble_eq_true rfl) (Nat.le_of_ble_eq_true rfl) h (fun v u h hk => ?_)
          cases hk
          obtain ⟨s4, rfl⟩ : ∃ x, x = u := ⟨_, rfl⟩
          refine Ev_iconst dX11_town_60 rfl (ev_Rc rfl) ?_
          exact Ev_iret rfl dX11_town_61 (ev_nb (by decide)) h
        · replace h := h.2 c
          refine Ev_iconst dX11_town_22 rfl (ev_Rc rfl) ?_
          exact Ev_iret rfl dX11_town_23 (ev_nb (by decide)) h
theorem dX11_set_0 : decode cX11_set 0 = .ok (.iload_n 3, 1) := by decide +kernel
theorem dX11_set_1 : decode cX11_set 1 = .ok (.ifCond .lt 9, 3) := by decide +kernel
theorem dX11_set_4 : decode cX11_set 4 = .ok (.iload_n 3, 1) := by decide +kernel
theorem dX11_set_5 : decode cX11_set 5 = .ok (.bipush 9, 2) := by decide +kernel
theorem dX11_set_7 : decode cX11_set 7 = .ok (.if_icmp .le 5, 3) := by decide +kernel
theorem dX11_set_10 : decode cX11_set 10 = .ok (.iconst 0, 1) := by decide +kernel
theorem dX11_set_11 : decode cX11_set 11 = .ok (.ireturn, 1) := by decide +kernel
theorem dX11_set_12 : decode cX11_set 12 = .ok (.iload_n 1, 1) := by decide +kernel
theorem dX11_set_13 : decode cX11_set 13 = .ok (.ifCond .ne 14, 3) := by decide +kernel
theorem dX11_set_16 : decode cX11_set 16 = .ok (.aload_n 0, 1) := by decide +kernel
theorem dX11_set_17 : decode cX11_set 17 = .ok (.getfield 12, 3) := by decide +kernel
theorem dX11_set_20 : decode cX11_set 20 = .ok (.iload_n 3, 1) := by decide +kernel
theorem dX11_set_21 : decode cX11_set 21 = .ok (.putfield 100, 3) := by decide +kernel
theorem dX11_set_24 : decode cX11_set 24 = .ok (.goto 65, 3) := by decide +kernel
theorem dX11_set_27 : decode cX11_set 27 = .ok (.iload_n 1, 1) := by decide +kernel
theorem dX11_set_28 : decode cX11_set 28 = .ok (.iconst 1, 1) := by decide +kernel
theorem dX11_set_29 : decode cX11_set 29 = .ok (.if_icmp .ne 25, 3) := by decide +kernel
theorem dX11_set_32 : decode cX11_set 32 = .ok (.iload_n 2, 1) := by decide +kernel
theorem dX11_set_33 : decode cX11_set 33 = .ok (.ifCond .lt 21, 3) := by decide +kernel
theorem dX11_set_36 : decode cX11_set 36 = .ok (.iload_n 2, 1) := by decide +kernel
theorem dX11_set_37 : decode cX11_set 37 = .ok (.iconst 5, 1) := by decide +kernel
theorem dX11_set_38 : decode cX11_set 38 = .ok (.if_icmp .ge 16, 3) := by decide +kernel
theorem dX11_set_41 : decode cX11_set 41 = .ok (.aload_n 0, 1) := by decide +kernel
theorem dX11_set_42 : decode cX11_set 42 = .ok (.getfield 12, 3) := by decide +kernel
theorem dX11_set_45 : decode cX11_set 45 = .ok (.getfield 103, 3) := by decide +kernel
theorem dX11_set_48 : decode cX11_set 48 = .ok (.iload_n 2, 1) := by decide +kernel
theorem dX11_set_49 : decode cX11_set 49 = .ok (.iload_n 3, 1) := by decide +kernel
theorem dX11_set_50 : decode cX11_set 50 = .ok (.iastore, 1) := by decide +kernel
theorem dX11_set_51 : decode cX11_set 51 = .ok (.goto 38, 3) := by decide +kernel
theorem dX11_set_54 : decode cX11_set 54 = .ok (.iload_n 1, 1) := by decide +kernel
theorem dX11_set_55 : decode cX11_set 55 = .ok (.iconst 2, 1) := by decide +kernel
theorem dX11_set_56 : decode cX11_set 56 = .ok (.if_icmp .ne 31, 3) := by decide +kernel
theorem dX11_set_59 : decode cX11_set 59 = .ok (.aload_n 0, 1) := by decide +kernel
theorem dX11_set_60 : decode cX11_set 60 = .ok (.getfield 12, 3) := by decide +kernel
theorem dX11_set_63 : decode cX11_set 63 = .ok (.iload_n 2, 1) := by decide +kernel
theorem dX11_set_64 : decode cX11_set 64 = .ok (.invokevirtual 107, 3) := by decide +kernel
theorem dX11_set_67 : decode cX11_set 67 = .ok (.ifCond .eq 20, 3) := by decide +kernel
theorem dX11_set_70 : decode cX11_set 70 = .ok (.iload_n 3, 1) := by decide +kernel
theorem dX11_set_71 : decode cX11_set 71 = .ok (.ifCond .le 16, 3) := by decide +kernel
theorem dX11_set_74 : decode cX11_set 74 = .ok (.aload_n 0, 1) := by decide +kernel
theorem dX11_set_75 : decode cX11_set 75 = .ok (.getfield 12, 3) := by decide +kernel
theorem dX11_set_78 : decode cX11_set 78 = .ok (.getfield 111, 3) := by decide +kernel
theorem dX11_set_81 : decode cX11_set 81 = .ok (.iload_n 2, 1) := by decide +kernel
theorem dX11_set_82 : decode cX11_set 82 = .ok (.iload_n 3, 1) := by decide +kernel
theorem dX11_set_83 : decode cX11_set 83 = .ok (.iastore, 1) := by decide +kernel
theorem dX11_set_84 : decode cX11_set 84 = .ok (.goto 5, 3) := by decide +kernel
theorem dX11_set_87 : decode cX11_set 87 = .ok (.iconst 0, 1) := by decide +kernel
theorem dX11_set_88 : decode cX11_set 88 = .ok (.ireturn, 1) := by decide +kernel
theorem dX11_set_89 : decode cX11_set 89 = .ok (.aload_n 0, 1) := by decide +kernel
theorem dX11_set_90 : decode cX11_set 90 = .ok (.invokevirtual 97, 3) := by decide +kernel
theorem dX11_set_93 : decode cX11_set 93 = .ok (.iconst 1, 1) := by decide +kernel
theorem dX11_set_94 : decode cX11_set 94 = .ok (.ireturn, 1) := by decide +kernel
theorem wp_X11_set_0 {d : Nat} {s : ev_S} {Q : Option ev_V → ev_S → Prop} {a1 a2 a3 : Int}
    (h : ((a3 < 0 → Q (some (ev_i 0)) s) ∧ (0 ≤ a3 → ((a3 ≤ 9 → ((a1 ≠ 0 → ((a1 ≠ 1 → Ev layX M_X11_set (d + 1) 54 [(0, ev_r 0), (1, ev_i a1), (2, ev_i a2), (3, ev_i a3)] [] s Q) ∧ (a1 = 1 → ((a2 < 0 → Ev layX M_X11_set (d + 1) 54 [(0, ev_r 0), (1, ev_i a1), (2, ev_i a2), (3, ev_i a3)] [] s Q) ∧ (0 ≤ a2 → ((5 ≤ a2 → Ev layX M_X11_set (d + 1) 54 [(0, ev_r 0), (1, ev_i a1), (2, ev_i a2), (3, ev_i a3)] [] s Q) ∧ (a2 < 5 → ((0 ≤ a2 ∧ a2 < (5 : Nat)) ∧ ∀ s1, ev_up s 2 (Int.toNat a2) a3 = s1 → (Ev layX M_X11_isTold d 0 [(0, ev_r 0)] [] s1 (fun _ s2 => Q (some (ev_i 1)) s2)))))))))) ∧ (a1 = 0 → (∀ s3, ev_up s 1 2 a3 = s3 → (Ev layX M_X11_isTold d 0 [(0, ev_r 0)] [] s3 (fun _ s4 => Q (some (ev_i 1)) s4)))))) ∧ (9 < a3 → Q (some (ev_i 0)) s))))) :
    Ev layX M_X11_set (d + 1) 0 [(0, ev_r 0), (1, ev_i a1), (2, ev_i a2), (3, ev_i a3)] [] s Q := by
  refine Ev_iload_n 3 dX11_set_0 rfl rfl ?_
  refine Ev_if_lt (tgt := 10) dX11_set_1 rfl (fun c => ?_) (fun c => ?_)
  · replace h := h.1 c
    refine Ev_iconst dX11_set_10 rfl (ev_Rc rfl) ?_
    exact Ev_iret rfl dX11_set_11 (ev_nb (by decide)) h
  · replace h := h.2 c
    refine Ev_iload_n 3 dX11_set_4 rfl rfl ?_
    refine Ev_bipushC dX11_set_5 rfl ?_
    refine Ev_icmp_le (tgt := 12) dX11_set_7 rfl (fun c => ?_) (fun c => ?_)
    · replace h := h.1 c
      refine Ev_iload_n 1 dX11_set_12 rfl rfl ?_
      refine Ev_if_ne (tgt := 27) dX11_set_13 rfl (fun c => ?_) (fun c => ?_)
      · replace h := h.1 c
        refine Ev_iload_n 1 dX11_set_27 rfl rfl ?_
        refine Ev_iconst dX11_set_28 rfl (ev_Rc rfl) ?_
        refine Ev_icmp_ne (tgt := 54) dX11_set_29 rfl (fun c => ?_) (fun c => ?_)
        · replace h := h.1 c
          exact Ev_sub [0, 1, 2, 3] rfl h
        · replace h := h.2 c
          refine Ev_iload_n 2 dX11_set_32 rfl rfl ?_
          refine Ev_if_lt (tgt := 54) dX11_set_33 rfl (fun c => ?_) (fun c => ?_)
          · replace h := h.1 c
            exact Ev_sub [0, 1, 2, 3] rfl h
          · replace h := h.2 c
            refine Ev_iload_n 2 dX11_set_36 rfl rfl ?_
            refine Ev_iconst dX11_set_37 rfl (ev_Rc rfl) ?_
            refine Ev_icmp_ge (tgt := 54) dX11_set_38 rfl (fun c => ?_) (fun c => ?_)
            · replace h := h.1 c
              exact Ev_sub [0, 1, 2, 3] rfl h
            · replace h := h.2 c
              refine Ev_aload_n 0 dX11_set_41 rfl rfl ?_
              refine Ev_getR (i := 0) cl_X11 yX_0 (Nat.le_of_ble_eq_true rfl) rfl wd_700 dX11_set_42 ?_
              refine Ev_getR (i := 3) cl_X10 yX_1 (Nat.le_of_ble_eq_true rfl) rfl wd_251 dX11_set_45 ?_
              refine Ev_iload_n 2 dX11_set_48 rfl rfl ?_
              refine Ev_iload_n 3 dX11_set_49 rfl rfl ?_
              obtain ⟨h0, h⟩ := h
              refine Ev_iast yX_2 h0 dX11_set_50 (Ev_nm (fun s1 es1 => ?_))
              replace h := h s1 es1
              refine Ev_goto (tgt := 89) dX11_set_51 rfl ?_
              refine Ev_aload_n 0 dX11_set_89 rfl rfl ?_
              refine Ev_callV (As := []) (b := 0) (st := []) (M' := M_X11_isTold) cm_X11_isTold wd_735 wd_737 wd_0 yX_0 cl_X11 rfl dX11_set_90 (Nat.le_refl _) rfl (Nat.le_of_ble_eq_true rfl) (Nat.le_of_ble_eq_true rfl) h (fun v u h hk => ?_)
              cases hk
              obtain ⟨s2, rfl⟩ : ∃ x, x = u := ⟨_, rfl⟩
              refine Ev_iconst dX11_set_93 rfl (ev_Rc rfl) ?_
              exact Ev_iret rfl dX11_set_94 (ev_nb (by decide)) h
      · replace h := h.2 c
        refine Ev_aload_n 0 dX11_set_16 rfl rfl ?_
        refine Ev_getR (i := 0) cl_X11 yX_0 (Nat.le_of_ble_eq_true rfl) rfl wd_700 dX11_set_17 ?_
        refine Ev_iload_n 3 dX11_set_20 rfl rfl ?_
        refine Ev_put (i := 2) (ty := .int) cl_X10 yX_1 (Nat.le_of_ble_eq_true rfl) rfl rfl (by decide +kernel) rfl rfl wd_247 dX11_set_21 (Ev_nm (fun s3 es3 => ?_))
        replace h := h s3 es3
        refine Ev_goto (tgt := 89) dX11_set_24 rfl ?_
        refine Ev_aload_n 0 dX11_set_89 rfl rfl ?_
        refine Ev_callV (As := []) (b := 0) (st := []) (M' := M_X11_isTold) cm_X11_isTold wd_735 wd_737 wd_0 yX_0 cl_X11 rfl dX11_set_90 (Nat.le_refl _) rfl (Nat.le_of_ble_eq_true rfl) (Nat.le_of_ble_eq_true rfl) h (fun v u h hk => ?_)
        cases hk
        obtain ⟨s4, rfl⟩ : ∃ x, x = u := ⟨_, rfl⟩
        refine Ev_iconst dX11_set_93 rfl (ev_Rc rfl) ?_
        exact Ev_iret rfl dX11_set_94 (ev_nb (by decide)) h
    · replace h := h.2 c
      refine Ev_iconst dX11_set_10 rfl (ev_Rc rfl) ?_
      exact Ev_iret rfl dX11_set_11 (ev_nb (by decide)) h
theorem wp_X11_set_54 {d : Nat} {s : ev_S} {Q : Option ev_V → ev_S → Prop} {a1 a2 a3 : Int}
    (h : ((a1 ≠ 2 → Q (some (ev_i 0)) s) ∧ (a1 = 2 → (Ev layX M_X10_hasAngel d 0 [(0, ev_r 1), (1, ev_i a2)] [] s (ev_pi (fun r2 s1 => ((r2 = 0 → Q (some (ev_i 0)) s1) ∧ (r2 ≠ 0 → ((a3 ≤ 0 → Q (some (ev_i 0)) s1) ∧ (0 < a3 → ((0 ≤ a2 ∧ a2 < (6 : Nat)) ∧ ∀ s3, ev_up s1 5 (Int.toNat a2) a3 = s3 → (Ev layX M_X11_isTold d 0 [(0, ev_r 0)] [] s3 (fun _ s4 => Q (some (ev_i 1)) s4))))))))))))) :
    Ev layX M_X11_set (d + 1) 54 [(0, ev_r 0), (1, ev_i a1), (2, ev_i a2), (3, ev_i a3)] [] s Q := by
  refine Ev_iload_n 1 dX11_set_54 rfl rfl ?_
  refine Ev_iconst dX11_set_55 rfl (ev_Rc rfl) ?_
  refine Ev_icmp_ne (tgt := 87) dX11_set_56 rfl (fun c => ?_) (fun c => ?_)
  · replace h := h.1 c
    refine Ev_iconst dX11_set_87 rfl (ev_Rc rfl) ?_
    exact Ev_iret rfl dX11_set_88 (ev_nb (by decide)) h
  · replace h := h.2 c
    refine Ev_aload_n 0 dX11_set_59 rfl rfl ?_
    refine Ev_getR (i := 0) cl_X11 yX_0 (Nat.le_of_ble_eq_true rfl) rfl wd_700 dX11_set_60 ?_
    refine Ev_iload_n 2 dX11_set_63 rfl rfl ?_
    refine Ev_callV (As := [ev_i a2]) (b := 1) (st := []) (M' := M_X10_hasAngel) cm_X10_hasAngel wd_751 wd_752 wd_753 yX_1 cl_X10 rfl dX11_set_64 (Nat.le_refl _) rfl (Nat.le_of_ble_eq_true rfl) (Nat.le_of_ble_eq_true rfl) h (fun v u h hk => ?_)
    obtain ⟨r2, rfl⟩ := hk
    obtain ⟨s1, rfl⟩ : ∃ x, x = u := ⟨_, rfl⟩
    replace h := h r2 rfl
    refine Ev_if_eq (tgt := 87) dX11_set_67 rfl (fun c => ?_) (fun c => ?_)
    · replace h := h.1 c
      refine Ev_iconst dX11_set_87 rfl (ev_Rc rfl) ?_
      exact Ev_iret rfl dX11_set_88 (ev_nb (by decide)) h
    · replace h := h.2 c
      refine Ev_iload_n 3 dX11_set_70 rfl rfl ?_
      refine Ev_if_le (tgt := 87) dX11_set_71 rfl (fun c => ?_) (fun c => ?_)
      · replace h := h.1 c
        refine Ev_iconst dX11_set_87 rfl (ev_Rc rfl) ?_
        exact Ev_iret rfl dX11_set_88 (ev_nb (by decide)) h
      · replace h := h.2 c
        refine Ev_aload_n 0 dX11_set_74 rfl rfl ?_
        refine Ev_getR (i := 0) cl_X11 yX_0 (Nat.le_of_ble_eq_true rfl) rfl wd_700 dX11_set_75 ?_
        refine Ev_getR (i := 8) cl_X10 yX_1 (Nat.le_of_ble_eq_true rfl) rfl wd_270 dX11_set_78 ?_
        refine Ev_iload_n 2 dX11_set_81 rfl rfl ?_
        refine Ev_iload_n 3 dX11_set_82 rfl rfl ?_
        obtain ⟨h0, h⟩ := h
        refine Ev_iast yX_5 h0 dX11_set_83 (Ev_nm (fun s3 es3 => ?_))
        replace h := h s3 es3
        refine Ev_goto (tgt := 89) dX11_set_84 rfl ?_
        refine Ev_aload_n 0 dX11_set_89 rfl rfl ?_
        refine Ev_callV (As := []) (b := 0) (st := []) (M' := M_X11_isTold) cm_X11_isTold wd_735 wd_737 wd_0 yX_0 cl_X11 rfl dX11_set_90 (Nat.le_refl _) rfl (Nat.le_of_ble_eq_true rfl) (Nat.le_of_ble_eq_true rfl) h (fun v u h hk => ?_)
        cases hk
        obtain ⟨s4, rfl⟩ : ∃ x, x = u := ⟨_, rfl⟩
        refine Ev_iconst dX11_set_93 rfl (ev_Rc rfl) ?_
        exact Ev_iret rfl dX11_set_94 (ev_nb (by decide)) h
theorem dX11_ward_0 : decode cX11_ward 0 = .ok (.aload_n 0, 1) := by decide +kernel
theorem dX11_ward_1 : decode cX11_ward 1 = .ok (.getfield 12, 3) := by decide +kernel
theorem dX11_ward_4 : decode cX11_ward 4 = .ok (.iload_n 1, 1) := by decide +kernel
theorem dX11_ward_5 : decode cX11_ward 5 = .ok (.invokevirtual 114, 3) := by decide +kernel
theorem dX11_ward_8 : decode cX11_ward 8 = .ok (.ifCond .eq 15, 3) := by decide +kernel
theorem dX11_ward_11 : decode cX11_ward 11 = .ok (.aload_n 0, 1) := by decide +kernel
theorem dX11_ward_12 : decode cX11_ward 12 = .ok (.getfield 12, 3) := by decide +kernel
theorem dX11_ward_15 : decode cX11_ward 15 = .ok (.getfield 117, 3) := by decide +kernel
theorem dX11_ward_18 : decode cX11_ward 18 = .ok (.bipush 8, 2) := by decide +kernel
theorem dX11_ward_20 : decode cX11_ward 20 = .ok (.if_icmp .lt 5, 3) := by decide +kernel
theorem dX11_ward_23 : decode cX11_ward 23 = .ok (.iconst (-1), 1) := by decide +kernel
theorem dX11_ward_24 : decode cX11_ward 24 = .ok (.ireturn, 1) := by decide +kernel
theorem dX11_ward_25 : decode cX11_ward 25 = .ok (.aload_n 0, 1) := by decide +kernel
theorem dX11_ward_26 : decode cX11_ward 26 = .ok (.getfield 12, 3) := by decide +kernel
theorem dX11_ward_29 : decode cX11_ward 29 = .ok (.getfield 117, 3) := by decide +kernel
theorem dX11_ward_32 : decode cX11_ward 32 = .ok (.istore_n 2, 1) := by decide +kernel
theorem dX11_ward_33 : decode cX11_ward 33 = .ok (.aload_n 0, 1) := by decide +kernel
theorem dX11_ward_34 : decode cX11_ward 34 = .ok (.getfield 12, 3) := by decide +kernel
theorem dX11_ward_37 : decode cX11_ward 37 = .ok (.dup, 1) := by decide +kernel
theorem dX11_ward_38 : decode cX11_ward 38 = .ok (.getfield 117, 3) := by decide +kernel
theorem dX11_ward_41 : decode cX11_ward 41 = .ok (.iconst 1, 1) := by decide +kernel
theorem dX11_ward_42 : decode cX11_ward 42 = .ok (.iadd, 1) := by decide +kernel
theorem dX11_ward_43 : decode cX11_ward 43 = .ok (.putfield 117, 3) := by decide +kernel
theorem dX11_ward_46 : decode cX11_ward 46 = .ok (.aload_n 0, 1) := by decide +kernel
theorem dX11_ward_47 : decode cX11_ward 47 = .ok (.getfield 12, 3) := by decide +kernel
theorem dX11_ward_50 : decode cX11_ward 50 = .ok (.getfield 120, 3) := by decide +kernel
theorem dX11_ward_53 : decode cX11_ward 53 = .ok (.iload_n 2, 1) := by decide +kernel
theorem dX11_ward_54 : decode cX11_ward 54 = .ok (.iconst 0, 1) := by decide +kernel
theorem dX11_ward_55 : decode cX11_ward 55 = .ok (.iastore, 1) := by decide +kernel
theorem dX11_ward_56 : decode cX11_ward 56 = .ok (.aload_n 0, 1) := by decide +kernel
theorem dX11_ward_57 : decode cX11_ward 57 = .ok (.getfield 19, 3) := by decide +kernel
theorem dX11_ward_60 : decode cX11_ward 60 = .ok (.getfield 123, 3) := by decide +kernel
theorem dX11_ward_63 : decode cX11_ward 63 = .ok (.iload_n 2, 1) := by decide +kernel
theorem dX11_ward_64 : decode cX11_ward 64 = .ok (.iload_n 1, 1) := by decide +kernel
theorem dX11_ward_65 : decode cX11_ward 65 = .ok (.iastore, 1) := by decide +kernel
theorem dX11_ward_66 : decode cX11_ward 66 = .ok (.aload_n 0, 1) := by decide +kernel
theorem dX11_ward_67 : decode cX11_ward 67 = .ok (.invokevirtual 97, 3) := by decide +kernel
theorem dX11_ward_70 : decode cX11_ward 70 = .ok (.iload_n 2, 1) := by decide +kernel
theorem dX11_ward_71 : decode cX11_ward 71 = .ok (.ireturn, 1) := by decide +kernel
theorem wp_X11_ward_0 {d : Nat} {s : ev_S} {Q : Option ev_V → ev_S → Prop} {a1 : Int}
    (h : (Ev layX M_X10_hasPlace d 0 [(0, ev_r 1), (1, ev_i a1)] [] s (ev_pi (fun r2 s1 => ((r2 = 0 → Q (some (ev_i (-1))) s1) ∧ (r2 ≠ 0 → (((s1 1 4) < 8 → (∀ s3, ev_up s1 1 4 (ev_add (s1 1 4) 1) = s3 → ((0 ≤ (s1 1 4) ∧ (s1 1 4) < (8 : Nat)) ∧ ∀ s4, ev_up s3 4 (Int.toNat (s1 1 4)) 0 = s4 → ((0 ≤ (s1 1 4) ∧ (s1 1 4) < (8 : Nat)) ∧ ∀ s5, ev_up s4 16 (Int.toNat (s1 1 4)) a1 = s5 → (Ev layX M_X11_isTold d 0 [(0, ev_r 0)] [] s5 (fun _ s6 => Q (some (ev_i (s1 1 4))) s6)))))) ∧ (8 ≤ (s1 1 4) → Q (some (ev_i (-1))) s1)))))))) :
    Ev layX M_X11_ward (d + 1) 0 [(0, ev_r 0), (1, ev_i a1)] [] s Q := by
  refine Ev_aload_n 0 dX11_ward_0 rfl rfl ?_
  refine Ev_getR (i := 0) cl_X11 yX_0 (Nat.le_of_ble_eq_true rfl) rfl wd_700 dX11_ward_1 ?_
  refine Ev_iload_n 1 dX11_ward_4 rfl rfl ?_
  refine Ev_callV (As := [ev_i a1]) (b := 1) (st := []) (M' := M_X10_hasPlace) cm_X10_hasPlace wd_759 wd_760 wd_761 yX_1 cl_X10 rfl dX11_ward_5 (Nat.le_refl _) rfl (Nat.le_of_ble_eq_true rfl) (Nat.le_of_ble_eq_true rfl) h (fun v u h hk => ?_)
  obtain ⟨r2, rfl⟩ := hk
  obtain ⟨s1, rfl⟩ : ∃ x, x = u := ⟨_, rfl⟩
  replace h := h r2 rfl
  refine Ev_if_eq (tgt := 23) dX11_ward_8 rfl (fun c => ?_) (fun c => ?_)
  · replace h := h.1 c
    refine Ev_iconst dX11_ward_23 rfl (ev_Rc rfl) ?_
    exact Ev_iret rfl dX11_ward_24 rfl h
  · replace h := h.2 c
    refine Ev_aload_n 0 dX11_ward_11 rfl rfl ?_
    refine Ev_getR (i := 0) cl_X11 yX_0 (Nat.le_of_ble_eq_true rfl) rfl wd_700 dX11_ward_12 ?_
    refine Ev_get (i := 4) cl_X10 yX_1 (Nat.le_of_ble_eq_true rfl) rfl wd_255 dX11_ward_15 ?_
    refine Ev_bipushC dX11_ward_18 rfl ?_
    refine Ev_icmp_lt (tgt := 25) dX11_ward_20 rfl (fun c => ?_) (fun c => ?_)
    · replace h := h.1 c
      refine Ev_aload_n 0 dX11_ward_25 rfl rfl ?_
      refine Ev_getR (i := 0) cl_X11 yX_0 (Nat.le_of_ble_eq_true rfl) rfl wd_700 dX11_ward_26 ?_
      refine Ev_get (i := 4) cl_X10 yX_1 (Nat.le_of_ble_eq_true rfl) rfl wd_255 dX11_ward_29 ?_
      refine Ev_istore_n (l' := [(2, ev_i (s1 1 4)), (0, ev_r 0), (1, ev_i a1)]) dX11_ward_32 rfl (Nat.le_of_ble_eq_true rfl) rfl ?_
      refine Ev_aload_n 1 dX11_ward_33 rfl rfl ?_
      refine Ev_getR (i := 0) cl_X11 yX_0 (Nat.le_of_ble_eq_true rfl) rfl wd_700 dX11_ward_34 ?_
      refine Ev_dup dX11_ward_37 rfl ?_
      refine Ev_get (i := 4) cl_X10 yX_1 (Nat.le_of_ble_eq_true rfl) rfl wd_255 dX11_ward_38 ?_
      refine Ev_iconst dX11_ward_41 rfl (ev_Rc rfl) ?_
      refine Ev_iadd dX11_ward_42 ?_
      refine Ev_put (i := 4) (ty := .int) cl_X10 yX_1 (Nat.le_of_ble_eq_true rfl) rfl rfl (by decide +kernel) rfl rfl wd_255 dX11_ward_43 (Ev_nm (fun s3 es3 => ?_))
      replace h := h s3 es3
      refine Ev_aload_n 1 dX11_ward_46 rfl rfl ?_
      refine Ev_getR (i := 0) cl_X11 yX_0 (Nat.le_of_ble_eq_true rfl) rfl wd_700 dX11_ward_47 ?_
      refine Ev_getR (i := 6) cl_X10 yX_1 (Nat.le_of_ble_eq_true rfl) rfl wd_261 dX11_ward_50 ?_
      refine Ev_iload_n 0 dX11_ward_53 rfl rfl ?_
      refine Ev_iconst dX11_ward_54 rfl (ev_Rc rfl) ?_
      obtain ⟨h0, h⟩ := h
      refine Ev_iast yX_4 h0 dX11_ward_55 (Ev_nm (fun s4 es4 => ?_))
      replace h := h s4 es4
      refine Ev_aload_n 1 dX11_ward_56 rfl rfl ?_
      refine Ev_getR (i := 1) cl_X11 yX_0 (Nat.le_of_ble_eq_true rfl) rfl wd_701 dX11_ward_57 ?_
      refine Ev_getR (i := 2) cl_X2 yX_15 (Nat.le_of_ble_eq_true rfl) rfl wd_346 dX11_ward_60 ?_
      refine Ev_iload_n 0 dX11_ward_63 rfl rfl ?_
      refine Ev_iload_n 2 dX11_ward_64 rfl rfl ?_
      obtain ⟨h0, h⟩ := h
      refine Ev_iast yX_16 h0 dX11_ward_65 (Ev_nm (fun s5 es5 => ?_))
      replace h := h s5 es5
      refine Ev_aload_n 1 dX11_ward_66 rfl rfl ?_
      refine Ev_callV (As := []) (b := 0) (st := []) (M' := M_X11_isTold) cm_X11_isTold wd_735 wd_737 wd_0 yX_0 cl_X11 rfl dX11_ward_67 (Nat.le_refl _) rfl (Nat.le_of_ble_eq_true rfl) (Nat.le_of_ble_eq_true rfl) h (fun v u h hk => ?_)
      cases hk
      obtain ⟨s6, rfl⟩ : ∃ x, x = u := ⟨_, rfl⟩
      refine Ev_iload_n 0 dX11_ward_70 rfl rfl ?_
      exact Ev_iret rfl dX11_ward_71 rfl h
    · replace h := h.2 c
      refine Ev_iconst dX11_ward_23 rfl (ev_Rc rfl) ?_
      exact Ev_iret rfl dX11_ward_24 rfl h
theorem dX11_angel_0 : decode cX11_angel 0 = .ok (.aload_n 0, 1) := by decide +kernel
theorem dX11_angel_1 : decode cX11_angel 1 = .ok (.getfield 12, 3) := by decide +kernel
theorem dX11_angel_4 : decode cX11_angel 4 = .ok (.iload_n 1, 1) := by decide +kernel
theorem dX11_angel_5 : decode cX11_angel 5 = .ok (.invokevirtual 114, 3) := by decide +kernel
theorem dX11_angel_8 : decode cX11_angel 8 = .ok (.ifCond .eq 26, 3) := by decide +kernel
theorem dX11_angel_11 : decode cX11_angel 11 = .ok (.iload_n 2, 1) := by decide +kernel
theorem dX11_angel_12 : decode cX11_angel 12 = .ok (.iconst 1, 1) := by decide +kernel
theorem dX11_angel_13 : decode cX11_angel 13 = .ok (.if_icmp .lt 21, 3) := by decide +kernel
theorem dX11_angel_16 : decode cX11_angel 16 = .ok (.iload_n 2, 1) := by decide +kernel
theorem dX11_angel_17 : decode cX11_angel 17 = .ok (.bipush 9, 2) := by decide +kernel
theorem dX11_angel_19 : decode cX11_angel 19 = .ok (.if_icmp .gt 15, 3) := by decide +kernel
theorem dX11_angel_22 : decode cX11_angel 22 = .ok (.aload_n 0, 1) := by decide +kernel
theorem dX11_angel_23 : decode cX11_angel 23 = .ok (.getfield 12, 3) := by decide +kernel
theorem dX11_angel_26 : decode cX11_angel 26 = .ok (.getfield 126, 3) := by decide +kernel
theorem dX11_angel_29 : decode cX11_angel 29 = .ok (.bipush 6, 2) := by decide +kernel
theorem dX11_angel_31 : decode cX11_angel 31 = .ok (.if_icmp .lt 5, 3) := by decide +kernel
theorem dX11_angel_34 : decode cX11_angel 34 = .ok (.iconst (-1), 1) := by decide +kernel
theorem dX11_angel_35 : decode cX11_angel 35 = .ok (.ireturn, 1) := by decide +kernel
theorem dX11_angel_36 : decode cX11_angel 36 = .ok (.aload_n 0, 1) := by decide +kernel
theorem dX11_angel_37 : decode cX11_angel 37 = .ok (.getfield 12, 3) := by decide +kernel
theorem dX11_angel_40 : decode cX11_angel 40 = .ok (.getfield 126, 3) := by decide +kernel
theorem dX11_angel_43 : decode cX11_angel 43 = .ok (.istore_n 3, 1) := by decide +kernel
theorem dX11_angel_44 : decode cX11_angel 44 = .ok (.aload_n 0, 1) := by decide +kernel
theorem dX11_angel_45 : decode cX11_angel 45 = .ok (.getfield 12, 3) := by decide +kernel
theorem dX11_angel_48 : decode cX11_angel 48 = .ok (.dup, 1) := by decide +kernel
theorem dX11_angel_49 : decode cX11_angel 49 = .ok (.getfield 126, 3) := by decide +kernel
theorem dX11_angel_52 : decode cX11_angel 52 = .ok (.iconst 1, 1) := by decide +kernel
theorem dX11_angel_53 : decode cX11_angel 53 = .ok (.iadd, 1) := by decide +kernel
theorem dX11_angel_54 : decode cX11_angel 54 = .ok (.putfield 126, 3) := by decide +kernel
theorem dX11_angel_57 : decode cX11_angel 57 = .ok (.aload_n 0, 1) := by decide +kernel
theorem dX11_angel_58 : decode cX11_angel 58 = .ok (.getfield 12, 3) := by decide +kernel
theorem dX11_angel_61 : decode cX11_angel 61 = .ok (.getfield 111, 3) := by decide +kernel
theorem dX11_angel_64 : decode cX11_angel 64 = .ok (.iload_n 3, 1) := by decide +kernel
theorem dX11_angel_65 : decode cX11_angel 65 = .ok (.iload_n 2, 1) := by decide +kernel
theorem dX11_angel_66 : decode cX11_angel 66 = .ok (.iastore, 1) := by decide +kernel
theorem dX11_angel_67 : decode cX11_angel 67 = .ok (.aload_n 0, 1) := by decide +kernel
theorem dX11_angel_68 : decode cX11_angel 68 = .ok (.getfield 12, 3) := by decide +kernel
theorem dX11_angel_71 : decode cX11_angel 71 = .ok (.getfield 129, 3) := by decide +kernel
theorem dX11_angel_74 : decode cX11_angel 74 = .ok (.iload_n 3, 1) := by decide +kernel
theorem dX11_angel_75 : decode cX11_angel 75 = .ok (.iconst 0, 1) := by decide +kernel
theorem dX11_angel_76 : decode cX11_angel 76 = .ok (.iastore, 1) := by decide +kernel
theorem dX11_angel_77 : decode cX11_angel 77 = .ok (.aload_n 0, 1) := by decide +kernel
theorem dX11_angel_78 : decode cX11_angel 78 = .ok (.getfield 19, 3) := by decide +kernel
theorem dX11_angel_81 : decode cX11_angel 81 = .ok (.getfield 132, 3) := by decide +kernel
theorem dX11_angel_84 : decode cX11_angel 84 = .ok (.iload_n 3, 1) := by decide +kernel
theorem dX11_angel_85 : decode cX11_angel 85 = .ok (.iload_n 1, 1) := by decide +kernel
theorem dX11_angel_86 : decode cX11_angel 86 = .ok (.iastore, 1) := by decide +kernel
theorem dX11_angel_87 : decode cX11_angel 87 = .ok (.aload_n 0, 1) := by decide +kernel
theorem dX11_angel_88 : decode cX11_angel 88 = .ok (.invokevirtual 97, 3) := by decide +kernel
theorem dX11_angel_91 : decode cX11_angel 91 = .ok (.iload_n 3, 1) := by decide +kernel
theorem dX11_angel_92 : decode cX11_angel 92 = .ok (.ireturn, 1) := by decide +kernel
theorem wp_X11_angel_0 {d : Nat} {s : ev_S} {Q : Option ev_V → ev_S → Prop} {a1 a2 : Int}
    (h : (Ev layX M_X10_hasPlace d 0 [(0, ev_r 1), (1, ev_i a1)] [] s (ev_pi (fun r2 s1 => ((r2 = 0 → Q (some (ev_i (-1))) s1) ∧ (r2 ≠ 0 → ((a2 < 1 → Q (some (ev_i (-1))) s1) ∧ (1 ≤ a2 → ((9 < a2 → Q (some (ev_i (-1))) s1) ∧ (a2 ≤ 9 → (((s1 1 7) < 6 → (∀ s3, ev_up s1 1 7 (ev_add (s1 1 7) 1) = s3 → ((0 ≤ (s1 1 7) ∧ (s1 1 7) < (6 : Nat)) ∧ ∀ s4, ev_up s3 5 (Int.toNat (s1 1 7)) a2 = s4 → ((0 ≤ (s1 1 7) ∧ (s1 1 7) < (6 : Nat)) ∧ ∀ s5, ev_up s4 7 (Int.toNat (s1 1 7)) 0 = s5 → ((0 ≤ (s1 1 7) ∧ (s1 1 7) < (6 : Nat)) ∧ ∀ s6, ev_up s5 19 (Int.toNat (s1 1 7)) a1 = s6 → (Ev layX M_X11_isTold d 0 [(0, ev_r 0)] [] s6 (fun _ s7 => Q (some (ev_i (s1 1 7))) s7))))))) ∧ (6 ≤ (s1 1 7) → Q (some (ev_i (-1))) s1)))))))))))) :
    Ev layX M_X11_angel (d + 1) 0 [(0, ev_r 0), (1, ev_i a1), (2, ev_i a2)] [] s Q := by
  refine Ev_aload_n 0 dX11_angel_0 rfl rfl ?_
  refine Ev_getR (i := 0) cl_X11 yX_0 (Nat.le_of_ble_eq_true rfl) rfl wd_700 dX11_angel_1 ?_
  refine Ev_iload_n 1 dX11_angel_4 rfl rfl ?_
  refine Ev_callV (As := [ev_i a1]) (b := 1) (st := []) (M' := M_X10_hasPlace) cm_X10_hasPlace wd_759 wd_760 wd_761 yX_1 cl_X10 rfl dX11_angel_5 (Nat.le_refl _) rfl (Nat.le_of_ble_eq_true rfl) (Nat.le_of_ble_eq_true rfl) h (fun v u h hk => ?_)
  obtain ⟨r2, rfl⟩ := hk
  obtain ⟨s1, rfl⟩ : ∃ x, x = u := ⟨_, rfl⟩
  replace h := h r2 rfl
  refine Ev_if_eq (tgt := 34) dX11_angel_8 rfl (fun c => ?_) (fun c => ?_)
  · replace h := h.1 c
    refine Ev_iconst dX11_angel_34 rfl (ev_Rc rfl) ?_
    exact Ev_iret rfl dX11_angel_35 rfl h
  · replace h := h.2 c
    refine Ev_iload_n 2 dX11_angel_11 rfl rfl ?_
    refine Ev_iconst dX11_angel_12 rfl (ev_Rc rfl) ?_
    refine Ev_icmp_lt (tgt := 34) dX11_angel_13 rfl (fun c => ?_) (fun c => ?_)
    · replace h := h.1 c
      refine Ev_iconst dX11_angel_34 rfl (ev_Rc rfl) ?_
      exact Ev_iret rfl dX11_angel_35 rfl h
    · replace h := h.2 c
      refine Ev_iload_n 2 dX11_angel_16 rfl rfl ?_
      refine Ev_bipushC dX11_angel_17 rfl ?_
      refine Ev_icmp_gt (tgt := 34) dX11_angel_19 rfl (fun c => ?_) (fun c => ?_)
      · replace h := h.1 c
        refine Ev_iconst dX11_angel_34 rfl (ev_Rc rfl) ?_
        exact Ev_iret rfl dX11_angel_35 rfl h
      · replace h := h.2 c
        refine Ev_aload_n 0 dX11_angel_22 rfl rfl ?_
        refine Ev_getR (i := 0) cl_X11 yX_0 (Nat.le_of_ble_eq_true rfl) rfl wd_700 dX11_angel_23 ?_
        refine Ev_get (i := 7) cl_X10 yX_1 (Nat.le_of_ble_eq_true rfl) rfl wd_266 dX11_angel_26 ?_
        refine Ev_bipushC dX11_angel_29 rfl ?_
        refine Ev_icmp_lt (tgt := 36) dX11_angel_31 rfl (fun c => ?_) (fun c => ?_)
        · replace h := h.1 c
          refine Ev_aload_n 0 dX11_angel_36 rfl rfl ?_
          refine Ev_getR (i := 0) cl_X11 yX_0 (Nat.le_of_ble_eq_true rfl) rfl wd_700 dX11_angel_37 ?_
          refine Ev_get (i := 7) cl_X10 yX_1 (Nat.le_of_ble_eq_true rfl) rfl wd_266 dX11_angel_40 ?_
          refine Ev_istore_n (l' := [(3, ev_i (s1 1 7)), (0, ev_r 0), (1, ev_i a1), (2, ev_i a2)]) dX11_angel_43 rfl (Nat.le_of_ble_eq_true rfl) rfl ?_
          refine Ev_aload_n 1 dX11_angel_44 rfl rfl ?_
          refine Ev_getR (i := 0) cl_X11 yX_0 (Nat.le_of_ble_eq_true rfl) rfl wd_700 dX11_angel_45 ?_
          refine Ev_dup dX11_angel_48 rfl ?_
          refine Ev_get (i := 7) cl_X10 yX_1 (Nat.le_of_ble_eq_true rfl) rfl wd_266 dX11_angel_49 ?_
          refine Ev_iconst dX11_angel_52 rfl (ev_Rc rfl) ?_
          refine Ev_iadd dX11_angel_53 ?_
          refine Ev_put (i := 7) (ty := .int) cl_X10 yX_1 (Nat.le_of_ble_eq_true rfl) rfl rfl (by decide +kernel) rfl rfl wd_266 dX11_angel_54 (Ev_nm (fun s3 es3 => ?_))
          replace h := h s3 es3
          refine Ev_aload_n 1 dX11_angel_57 rfl rfl ?_
          refine Ev_getR (i := 0) cl_X11 yX_0 (Nat.le_of_ble_eq_true rfl) rfl wd_700 dX11_angel_58 ?_
          refine Ev_getR (i := 8) cl_X10 yX_1 (Nat.le_of_ble_eq_true rfl) rfl wd_270 dX11_angel_61 ?_
          refine Ev_iload_n 0 dX11_angel_64 rfl rfl ?_
          refine Ev_iload_n 3 dX11_angel_65 rfl rfl ?_
          obtain ⟨h0, h⟩ := h
          refine Ev_iast yX_5 h0 dX11_angel_66 (Ev_nm (fun s4 es4 => ?_))
          replace h := h s4 es4
          refine Ev_aload_n 1 dX11_angel_67 rfl rfl ?_
          refine Ev_getR (i := 0) cl_X11 yX_0 (Nat.le_of_ble_eq_true rfl) rfl wd_700 dX11_angel_68 ?_
          refine Ev_getR (i := 10) cl_X10 yX_1 (Nat.le_of_ble_eq_true rfl) rfl wd_278 dX11_angel_71 ?_
          refine Ev_iload_n 0 dX11_angel_74 rfl rfl ?_
          refine Ev_iconst dX11_angel_75 rfl (ev_Rc rfl) ?_
          obtain ⟨h0, h⟩ := h
          refine Ev_iast yX_7 h0 dX11_angel_76 (Ev_nm (fun s5 es5 => ?_))
          replace h := h s5 es5
          refine Ev_aload_n 1 dX11_angel_77 rfl rfl ?_
          refine Ev_getR (i := 1) cl_X11 yX_0 (Nat.le_of_ble_eq_true rfl) rfl wd_701 dX11_angel_78 ?_
          refine Ev_getR (i := 5) cl_X2 yX_15 (Nat.le_of_ble_eq_true rfl) rfl wd_357 dX11_angel_81 ?_
          refine Ev_iload_n 0 dX11_angel_84 rfl rfl ?_
          refine Ev_iload_n 2 dX11_angel_85 rfl rfl ?_
          obtain ⟨h0, h⟩ := h
          refine Ev_iast yX_19 h0 dX11_angel_86 (Ev_nm (fun s6 es6 => ?_))
          replace h := h s6 es6
          refine Ev_aload_n 1 dX11_angel_87 rfl rfl ?_
          refine Ev_callV (As := []) (b := 0) (st := []) (M' := M_X11_isTold) cm_X11_isTold wd_735 wd_737 wd_0 yX_0 cl_X11 rfl dX11_angel_88 (Nat.le_refl _) rfl (Nat.le_of_ble_eq_true rfl) (Nat.le_of_ble_eq_true rfl) h (fun v u h hk => ?_)
          cases hk
          obtain ⟨s7, rfl⟩ : ∃ x, x = u := ⟨_, rfl⟩
          refine Ev_iload_n 0 dX11_angel_91 rfl rfl ?_
          exact Ev_iret rfl dX11_angel_92 rfl h
        · replace h := h.2 c
          refine Ev_iconst dX11_angel_34 rfl (ev_Rc rfl) ?_
          exact Ev_iret rfl dX11_angel_35 rfl h
theorem dX11_other_0 : decode cX11_other 0 = .ok (.aload_n 0, 1) := by decide +kernel
theorem dX11_other_1 : decode cX11_other 1 = .ok (.getfield 12, 3) := by decide +kernel
theorem dX11_other_4 : decode cX11_other 4 = .ok (.iload_n 1, 1) := by decide +kernel
theorem dX11_other_5 : decode cX11_other 5 = .ok (.invokevirtual 114, 3) := by decide +kernel
theorem dX11_other_8 : decode cX11_other 8 = .ok (.ifCond .eq 31, 3) := by decide +kernel
theorem dX11_other_11 : decode cX11_other 11 = .ok (.iload_n 2, 1) := by decide +kernel
theorem dX11_other_12 : decode cX11_other 12 = .ok (.ifCond .lt 27, 3) := by decide +kernel
theorem dX11_other_15 : decode cX11_other 15 = .ok (.iload_n 3, 1) := by decide +kernel
theorem dX11_other_16 : decode cX11_other 16 = .ok (.iload_n 2, 1) := by decide +kernel
theorem dX11_other_17 : decode cX11_other 17 = .ok (.if_icmp .lt 22, 3) := by decide +kernel
theorem dX11_other_20 : decode cX11_other 20 = .ok (.iload_n 3, 1) := by decide +kernel
theorem dX11_other_21 : decode cX11_other 21 = .ok (.sipush 600, 3) := by decide +kernel
theorem dX11_other_24 : decode cX11_other 24 = .ok (.if_icmp .ge 15, 3) := by decide +kernel
theorem dX11_other_27 : decode cX11_other 27 = .ok (.aload_n 0, 1) := by decide +kernel
theorem dX11_other_28 : decode cX11_other 28 = .ok (.getfield 12, 3) := by decide +kernel
theorem dX11_other_31 : decode cX11_other 31 = .ok (.getfield 135, 3) := by decide +kernel
theorem dX11_other_34 : decode cX11_other 34 = .ok (.bipush 6, 2) := by decide +kernel
theorem dX11_other_36 : decode cX11_other 36 = .ok (.if_icmp .lt 5, 3) := by decide +kernel
theorem dX11_other_39 : decode cX11_other 39 = .ok (.iconst (-1), 1) := by decide +kernel
theorem dX11_other_40 : decode cX11_other 40 = .ok (.ireturn, 1) := by decide +kernel
theorem dX11_other_41 : decode cX11_other 41 = .ok (.aload_n 0, 1) := by decide +kernel
theorem dX11_other_42 : decode cX11_other 42 = .ok (.getfield 12, 3) := by decide +kernel
theorem dX11_other_45 : decode cX11_other 45 = .ok (.getfield 135, 3) := by decide +kernel
theorem dX11_other_48 : decode cX11_other 48 = .ok (.iconst 3, 1) := by decide +kernel
theorem dX11_other_49 : decode cX11_other 49 = .ok (.imul, 1) := by decide +kernel
theorem dX11_other_50 : decode cX11_other 50 = .ok (.istore 4, 2) := by decide +kernel
theorem dX11_other_52 : decode cX11_other 52 = .ok (.aload_n 0, 1) := by decide +kernel
theorem dX11_other_53 : decode cX11_other 53 = .ok (.getfield 12, 3) := by decide +kernel
theorem dX11_other_56 : decode cX11_other 56 = .ok (.getfield 138, 3) := by decide +kernel
theorem dX11_other_59 : decode cX11_other 59 = .ok (.iload 4, 2) := by decide +kernel
theorem dX11_other_61 : decode cX11_other 61 = .ok (.iload_n 1, 1) := by decide +kernel
theorem dX11_other_62 : decode cX11_other 62 = .ok (.iastore, 1) := by decide +kernel
theorem dX11_other_63 : decode cX11_other 63 = .ok (.aload_n 0, 1) := by decide +kernel
theorem dX11_other_64 : decode cX11_other 64 = .ok (.getfield 12, 3) := by decide +kernel
theorem dX11_other_67 : decode cX11_other 67 = .ok (.getfield 138, 3) := by decide +kernel
theorem dX11_other_70 : decode cX11_other 70 = .ok (.iload 4, 2) := by decide +kernel
theorem dX11_other_72 : decode cX11_other 72 = .ok (.iconst 1, 1) := by decide +kernel
theorem dX11_other_73 : decode cX11_other 73 = .ok (.iadd, 1) := by decide +kernel
theorem dX11_other_74 : decode cX11_other 74 = .ok (.iload_n 2, 1) := by decide +kernel
theorem dX11_other_75 : decode cX11_other 75 = .ok (.iastore, 1) := by decide +kernel
theorem dX11_other_76 : decode cX11_other 76 = .ok (.aload_n 0, 1) := by decide +kernel
theorem dX11_other_77 : decode cX11_other 77 = .ok (.getfield 12, 3) := by decide +kernel
theorem dX11_other_80 : decode cX11_other 80 = .ok (.getfield 138, 3) := by decide +kernel
theorem dX11_other_83 : decode cX11_other 83 = .ok (.iload 4, 2) := by decide +kernel
theorem dX11_other_85 : decode cX11_other 85 = .ok (.iconst 2, 1) := by decide +kernel
theorem dX11_other_86 : decode cX11_other 86 = .ok (.iadd, 1) := by decide +kernel
theorem dX11_other_87 : decode cX11_other 87 = .ok (.iload_n 3, 1) := by decide +kernel
theorem dX11_other_88 : decode cX11_other 88 = .ok (.iastore, 1) := by decide +kernel
theorem dX11_other_89 : decode cX11_other 89 = .ok (.aload_n 0, 1) := by decide +kernel
theorem dX11_other_90 : decode cX11_other 90 = .ok (.getfield 12, 3) := by decide +kernel
theorem dX11_other_93 : decode cX11_other 93 = .ok (.dup, 1) := by decide +kernel
theorem dX11_other_94 : decode cX11_other 94 = .ok (.getfield 135, 3) := by decide +kernel
theorem dX11_other_97 : decode cX11_other 97 = .ok (.iconst 1, 1) := by decide +kernel
theorem dX11_other_98 : decode cX11_other 98 = .ok (.iadd, 1) := by decide +kernel
theorem dX11_other_99 : decode cX11_other 99 = .ok (.putfield 135, 3) := by decide +kernel
theorem dX11_other_102 : decode cX11_other 102 = .ok (.aload_n 0, 1) := by decide +kernel
theorem dX11_other_103 : decode cX11_other 103 = .ok (.invokevirtual 97, 3) := by decide +kernel
theorem dX11_other_106 : decode cX11_other 106 = .ok (.aload_n 0, 1) := by decide +kernel
theorem dX11_other_107 : decode cX11_other 107 = .ok (.getfield 12, 3) := by decide +kernel
theorem dX11_other_110 : decode cX11_other 110 = .ok (.getfield 135, 3) := by decide +kernel
theorem dX11_other_113 : decode cX11_other 113 = .ok (.iconst 1, 1) := by decide +kernel
theorem dX11_other_114 : decode cX11_other 114 = .ok (.isub, 1) := by decide +kernel
theorem dX11_other_115 : decode cX11_other 115 = .ok (.ireturn, 1) := by decide +kernel
theorem wp_X11_other_0 {d : Nat} {s : ev_S} {Q : Option ev_V → ev_S → Prop} {a1 a2 a3 : Int}
    (h : (Ev layX M_X10_hasPlace d 0 [(0, ev_r 1), (1, ev_i a1)] [] s (ev_pi (fun r2 s1 => ((r2 = 0 → Q (some (ev_i (-1))) s1) ∧ (r2 ≠ 0 → ((a2 < 0 → Q (some (ev_i (-1))) s1) ∧ (0 ≤ a2 → ((a3 < a2 → Q (some (ev_i (-1))) s1) ∧ (a2 ≤ a3 → ((600 ≤ a3 → Q (some (ev_i (-1))) s1) ∧ (a3 < 600 → (((s1 1 11) < 6 → ((0 ≤ (ev_mul (s1 1 11) 3) ∧ (ev_mul (s1 1 11) 3) < (18 : Nat)) ∧ ∀ s3, ev_up s1 8 (Int.toNat (ev_mul (s1 1 11) 3)) a1 = s3 → ((0 ≤ (ev_add (ev_mul (s1 1 11) 3) 1) ∧ (ev_add (ev_mul (s1 1 11) 3) 1) < (18 : Nat)) ∧ ∀ s4, ev_up s3 8 (Int.toNat (ev_add (ev_mul (s1 1 11) 3) 1)) a2 = s4 → ((0 ≤ (ev_add (ev_mul (s1 1 11) 3) 2) ∧ (ev_add (ev_mul (s1 1 11) 3) 2) < (18 : Nat)) ∧ ∀ s5, ev_up s4 8 (Int.toNat (ev_add (ev_mul (s1 1 11) 3) 2)) a3 = s5 → (∀ s6, ev_up s5 1 11 (ev_add (s5 1 11) 1) = s6 → (Ev layX M_X11_isTold d 0 [(0, ev_r 0)] [] s6 (fun _ s7 => Q (some (ev_i (ev_sub (s7 1 11) 1))) s7))))))) ∧ (6 ≤ (s1 1 11) → Q (some (ev_i (-1))) s1)))))))))))))) :
    Ev layX M_X11_other (d + 1) 0 [(0, ev_r 0), (1, ev_i a1), (2, ev_i a2), (3, ev_i a3)] [] s Q := by
  refine Ev_aload_n 0 dX11_other_0 rfl rfl ?_
  refine Ev_getR (i := 0) cl_X11 yX_0 (Nat.le_of_ble_eq_true rfl) rfl wd_700 dX11_other_1 ?_
  refine Ev_iload_n 1 dX11_other_4 rfl rfl ?_
  refine Ev_callV (As := [ev_i a1]) (b := 1) (st := []) (M' := M_X10_hasPlace) cm_X10_hasPlace wd_759 wd_760 wd_761 yX_1 cl_X10 rfl dX11_other_5 (Nat.le_refl _) rfl (Nat.le_of_ble_eq_true rfl) (Nat.le_of_ble_eq_true rfl) h (fun v u h hk => ?_)
  obtain ⟨r2, rfl⟩ := hk
  obtain ⟨s1, rfl⟩ : ∃ x, x = u := ⟨_, rfl⟩
  replace h := h r2 rfl
  refine Ev_if_eq (tgt := 39) dX11_other_8 rfl (fun c => ?_) (fun c => ?_)
  · replace h := h.1 c
    refine Ev_iconst dX11_other_39 rfl (ev_Rc rfl) ?_
    exact Ev_iret rfl dX11_other_40 rfl h
  · replace h := h.2 c
    refine Ev_iload_n 2 dX11_other_11 rfl rfl ?_
    refine Ev_if_lt (tgt := 39) dX11_other_12 rfl (fun c => ?_) (fun c => ?_)
    · replace h := h.1 c
      refine Ev_iconst dX11_other_39 rfl (ev_Rc rfl) ?_
      exact Ev_iret rfl dX11_other_40 rfl h
    · replace h := h.2 c
      refine Ev_iload_n 3 dX11_other_15 rfl rfl ?_
      refine Ev_iload_n 2 dX11_other_16 rfl rfl ?_
      refine Ev_icmp_lt (tgt := 39) dX11_other_17 rfl (fun c => ?_) (fun c => ?_)
      · replace h := h.1 c
        refine Ev_iconst dX11_other_39 rfl (ev_Rc rfl) ?_
        exact Ev_iret rfl dX11_other_40 rfl h
      · replace h := h.2 c
        refine Ev_iload_n 3 dX11_other_20 rfl rfl ?_
        refine Ev_sipushC dX11_other_21 rfl ?_
        refine Ev_icmp_ge (tgt := 39) dX11_other_24 rfl (fun c => ?_) (fun c => ?_)
        · replace h := h.1 c
          refine Ev_iconst dX11_other_39 rfl (ev_Rc rfl) ?_
          exact Ev_iret rfl dX11_other_40 rfl h
        · replace h := h.2 c
          refine Ev_aload_n 0 dX11_other_27 rfl rfl ?_
          refine Ev_getR (i := 0) cl_X11 yX_0 (Nat.le_of_ble_eq_true rfl) rfl wd_700 dX11_other_28 ?_
          refine Ev_get (i := 11) cl_X10 yX_1 (Nat.le_of_ble_eq_true rfl) rfl wd_281 dX11_other_31 ?_
          refine Ev_bipushC dX11_other_34 rfl ?_
          refine Ev_icmp_lt (tgt := 41) dX11_other_36 rfl (fun c => ?_) (fun c => ?_)
          · replace h := h.1 c
            refine Ev_aload_n 0 dX11_other_41 rfl rfl ?_
            refine Ev_getR (i := 0) cl_X11 yX_0 (Nat.le_of_ble_eq_true rfl) rfl wd_700 dX11_other_42 ?_
            refine Ev_get (i := 11) cl_X10 yX_1 (Nat.le_of_ble_eq_true rfl) rfl wd_281 dX11_other_45 ?_
            refine Ev_iconst dX11_other_48 rfl (ev_Rc rfl) ?_
            refine Ev_imul dX11_other_49 ?_
            refine Ev_istore (l' := [(4, ev_i (ev_mul (s1 1 11) 3)), (0, ev_r 0), (1, ev_i a1), (2, ev_i a2), (3, ev_i a3)]) dX11_other_50 (Nat.le_of_ble_eq_true rfl) rfl ?_
            refine Ev_aload_n 1 dX11_other_52 rfl rfl ?_
            refine Ev_getR (i := 0) cl_X11 yX_0 (Nat.le_of_ble_eq_true rfl) rfl wd_700 dX11_other_53 ?_
            refine Ev_getR (i := 12) cl_X10 yX_1 (Nat.le_of_ble_eq_true rfl) rfl wd_284 dX11_other_56 ?_
            refine Ev_iload 0 dX11_other_59 rfl ?_
            refine Ev_iload_n 2 dX11_other_61 rfl rfl ?_
            obtain ⟨h0, h⟩ := h
            refine Ev_iast yX_8 h0 dX11_other_62 (Ev_nm (fun s3 es3 => ?_))
            replace h := h s3 es3
            refine Ev_aload_n 1 dX11_other_63 rfl rfl ?_
            refine Ev_getR (i := 0) cl_X11 yX_0 (Nat.le_of_ble_eq_true rfl) rfl wd_700 dX11_other_64 ?_
            refine Ev_getR (i := 12) cl_X10 yX_1 (Nat.le_of_ble_eq_true rfl) rfl wd_284 dX11_other_67 ?_
            refine Ev_iload 0 dX11_other_70 rfl ?_
            refine Ev_iconst dX11_other_72 rfl (ev_Rc rfl) ?_
            refine Ev_iadd dX11_other_73 ?_
            refine Ev_iload_n 3 dX11_other_74 rfl rfl ?_
            obtain ⟨h0, h⟩ := h
            refine Ev_iast yX_8 h0 dX11_other_75 (Ev_nm (fun s4 es4 => ?_))
            replace h := h s4 es4
            refine Ev_aload_n 1 dX11_other_76 rfl rfl ?_
            refine Ev_getR (i := 0) cl_X11 yX_0 (Nat.le_of_ble_eq_true rfl) rfl wd_700 dX11_other_77 ?_
            refine Ev_getR (i := 12) cl_X10 yX_1 (Nat.le_of_ble_eq_true rfl) rfl wd_284 dX11_other_80 ?_
            refine Ev_iload 0 dX11_other_83 rfl ?_
            refine Ev_iconst dX11_other_85 rfl (ev_Rc rfl) ?_
            refine Ev_iadd dX11_other_86 ?_
            refine Ev_iload_n 4 dX11_other_87 rfl rfl ?_
            obtain ⟨h0, h⟩ := h
            refine Ev_iast yX_8 h0 dX11_other_88 (Ev_nm (fun s5 es5 => ?_))
            replace h := h s5 es5
            refine Ev_aload_n 1 dX11_other_89 rfl rfl ?_
            refine Ev_getR (i := 0) cl_X11 yX_0 (Nat.le_of_ble_eq_true rfl) rfl wd_700 dX11_other_90 ?_
            refine Ev_dup dX11_other_93 rfl ?_
            refine Ev_get (i := 11) cl_X10 yX_1 (Nat.le_of_ble_eq_true rfl) rfl wd_281 dX11_other_94 ?_
            refine Ev_iconst dX11_other_97 rfl (ev_Rc rfl) ?_
            refine Ev_iadd dX11_other_98 ?_
            refine Ev_put (i := 11) (ty := .int) cl_X10 yX_1 (Nat.le_of_ble_eq_true rfl) rfl rfl (by decide +kernel) rfl rfl wd_281 dX11_other_99 (Ev_nm (fun s6 es6 => ?_))
            replace h := h s6 es6
            refine Ev_aload_n 1 dX11_other_102 rfl rfl ?_
            refine Ev_callV (As := []) (b := 0) (st := []) (M' := M_X11_isTold) cm_X11_isTold wd_735 wd_737 wd_0 yX_0 cl_X11 rfl dX11_other_103 (Nat.le_refl _) rfl (Nat.le_of_ble_eq_true rfl) (Nat.le_of_ble_eq_true rfl) h (fun v u h hk => ?_)
            cases hk
            obtain ⟨s7, rfl⟩ : ∃ x, x = u := ⟨_, rfl⟩
            refine Ev_aload_n 1 dX11_other_106 rfl rfl ?_
            refine Ev_getR (i := 0) cl_X11 yX_0 (Nat.le_of_ble_eq_true rfl) rfl wd_700 dX11_other_107 ?_
            refine Ev_get (i := 11) cl_X10 yX_1 (Nat.le_of_ble_eq_true rfl) rfl wd_281 dX11_other_110 ?_
            refine Ev_iconst dX11_other_113 rfl (ev_Rc rfl) ?_
            refine Ev_isub dX11_other_114 ?_
            exact Ev_iret rfl dX11_other_115 rfl h
          · replace h := h.2 c
            refine Ev_iconst dX11_other_39 rfl (ev_Rc rfl) ?_
            exact Ev_iret rfl dX11_other_40 rfl h
theorem dX11_feed_0 : decode cX11_feed 0 = .ok (.aload_n 0, 1) := by decide +kernel
theorem dX11_feed_1 : decode cX11_feed 1 = .ok (.getfield 47, 3) := by decide +kernel
theorem dX11_feed_4 : decode cX11_feed 4 = .ok (.getfield 141, 3) := by decide +kernel
theorem dX11_feed_7 : decode cX11_feed 7 = .ok (.bipush 20, 2) := by decide +kernel
theorem dX11_feed_9 : decode cX11_feed 9 = .ok (.iadd, 1) := by decide +kernel
theorem dX11_feed_10 : decode cX11_feed 10 = .ok (.sipush 400, 3) := by decide +kernel
theorem dX11_feed_13 : decode cX11_feed 13 = .ok (.if_icmp .le 5, 3) := by decide +kernel
theorem dX11_feed_16 : decode cX11_feed 16 = .ok (.iconst (-1), 1) := by decide +kernel
theorem dX11_feed_17 : decode cX11_feed 17 = .ok (.ireturn, 1) := by decide +kernel
theorem dX11_feed_18 : decode cX11_feed 18 = .ok (.aload_n 0, 1) := by decide +kernel
theorem dX11_feed_19 : decode cX11_feed 19 = .ok (.getfield 47, 3) := by decide +kernel
theorem dX11_feed_22 : decode cX11_feed 22 = .ok (.iload_n 1, 1) := by decide +kernel
theorem dX11_feed_23 : decode cX11_feed 23 = .ok (.invokevirtual 144, 3) := by decide +kernel
theorem dX11_feed_26 : decode cX11_feed 26 = .ok (.aload_n 0, 1) := by decide +kernel
theorem dX11_feed_27 : decode cX11_feed 27 = .ok (.getfield 47, 3) := by decide +kernel
theorem dX11_feed_30 : decode cX11_feed 30 = .ok (.iload_n 2, 1) := by decide +kernel
theorem dX11_feed_31 : decode cX11_feed 31 = .ok (.invokevirtual 144, 3) := by decide +kernel
theorem dX11_feed_34 : decode cX11_feed 34 = .ok (.aload_n 0, 1) := by decide +kernel
theorem dX11_feed_35 : decode cX11_feed 35 = .ok (.getfield 47, 3) := by decide +kernel
theorem dX11_feed_38 : decode cX11_feed 38 = .ok (.iload_n 3, 1) := by decide +kernel
theorem dX11_feed_39 : decode cX11_feed 39 = .ok (.invokevirtual 144, 3) := by decide +kernel
theorem dX11_feed_42 : decode cX11_feed 42 = .ok (.aload_n 0, 1) := by decide +kernel
theorem dX11_feed_43 : decode cX11_feed 43 = .ok (.getfield 47, 3) := by decide +kernel
theorem dX11_feed_46 : decode cX11_feed 46 = .ok (.iload 4, 2) := by decide +kernel
theorem dX11_feed_48 : decode cX11_feed 48 = .ok (.invokevirtual 144, 3) := by decide +kernel
theorem dX11_feed_51 : decode cX11_feed 51 = .ok (.aload_n 0, 1) := by decide +kernel
theorem dX11_feed_52 : decode cX11_feed 52 = .ok (.getfield 47, 3) := by decide +kernel
theorem dX11_feed_55 : decode cX11_feed 55 = .ok (.iload 5, 2) := by decide +kernel
theorem dX11_feed_57 : decode cX11_feed 57 = .ok (.invokevirtual 144, 3) := by decide +kernel
theorem dX11_feed_60 : decode cX11_feed 60 = .ok (.aload_n 0, 1) := by decide +kernel
theorem dX11_feed_61 : decode cX11_feed 61 = .ok (.getfield 47, 3) := by decide +kernel
theorem dX11_feed_64 : decode cX11_feed 64 = .ok (.getfield 141, 3) := by decide +kernel
theorem dX11_feed_67 : decode cX11_feed 67 = .ok (.ireturn, 1) := by decide +kernel
theorem wp_X11_feed_0 {d : Nat} {s : ev_S} {Q : Option ev_V → ev_S → Prop} {a1 a2 a3 a4 a5 : Int}
    (h : (((ev_add (s 132 1) 20) ≤ 400 → (Ev layX M_X9_append d 0 [(0, ev_r 132), (1, ev_i a1)] [] s (fun _ s1 => (Ev layX M_X9_append d 0 [(0, ev_r 132), (1, ev_i a2)] [] s1 (fun _ s2 => (Ev layX M_X9_append d 0 [(0, ev_r 132), (1, ev_i a3)] [] s2 (fun _ s3 => (Ev layX M_X9_append d 0 [(0, ev_r 132), (1, ev_i a4)] [] s3 (fun _ s4 => (Ev layX M_X9_append d 0 [(0, ev_r 132), (1, ev_i a5)] [] s4 (fun _ s5 => Q (some (ev_i (s5 132 1))) s5))))))))))) ∧ (400 < (ev_add (s 132 1) 20) → Q (some (ev_i (-1))) s))) :
    Ev layX M_X11_feed (d + 1) 0 [(0, ev_r 0), (1, ev_i a1), (2, ev_i a2), (3, ev_i a3), (4, ev_i a4), (5, ev_i a5)] [] s Q := by
  refine Ev_aload_n 0 dX11_feed_0 rfl rfl ?_
  refine Ev_getR (i := 5) cl_X11 yX_0 (Nat.le_of_ble_eq_true rfl) rfl wd_705 dX11_feed_1 ?_
  refine Ev_get (i := 1) cl_X9 yX_132 (Nat.le_of_ble_eq_true rfl) rfl wd_479 dX11_feed_4 ?_
  refine Ev_bipushC dX11_feed_7 rfl ?_
  refine Ev_iadd dX11_feed_9 ?_
  refine Ev_sipushC dX11_feed_10 rfl ?_
  refine Ev_icmp_le (tgt := 18) dX11_feed_13 rfl (fun c => ?_) (fun c => ?_)
  · replace h := h.1 c
    refine Ev_aload_n 0 dX11_feed_18 rfl rfl ?_
    refine Ev_getR (i := 5) cl_X11 yX_0 (Nat.le_of_ble_eq_true rfl) rfl wd_705 dX11_feed_19 ?_
    refine Ev_iload_n 1 dX11_feed_22 rfl rfl ?_
    refine Ev_callV (As := [ev_i a1]) (b := 132) (st := []) (M' := M_X9_append) cm_X9_append wd_775 wd_776 wd_777 yX_132 cl_X9 rfl dX11_feed_23 (Nat.le_refl _) rfl (Nat.le_of_ble_eq_true rfl) (Nat.le_of_ble_eq_true rfl) h (fun v u h hk => ?_)
    cases hk
    obtain ⟨s1, rfl⟩ : ∃ x, x = u := ⟨_, rfl⟩
    refine Ev_aload_n 0 dX11_feed_26 rfl rfl ?_
    refine Ev_getR (i := 5) cl_X11 yX_0 (Nat.le_of_ble_eq_true rfl) rfl wd_705 dX11_feed_27 ?_
    refine Ev_iload_n 2 dX11_feed_30 rfl rfl ?_
    refine Ev_callV (As := [ev_i a2]) (b := 132) (st := []) (M' := M_X9_append) cm_X9_append wd_775 wd_776 wd_777 yX_132 cl_X9 rfl dX11_feed_31 (Nat.le_refl _) rfl (Nat.le_of_ble_eq_true rfl) (Nat.le_of_ble_eq_true rfl) h (fun v u h hk => ?_)
    cases hk
    obtain ⟨s2, rfl⟩ : ∃ x, x = u := ⟨_, rfl⟩
    refine Ev_aload_n 0 dX11_feed_34 rfl rfl ?_
    refine Ev_getR (i := 5) cl_X11 yX_0 (Nat.le_of_ble_eq_true rfl) rfl wd_705 dX11_feed_35 ?_
    refine Ev_iload_n 3 dX11_feed_38 rfl rfl ?_
    refine Ev_callV (As := [ev_i a3]) (b := 132) (st := []) (M' := M_X9_append) cm_X9_append wd_775 wd_776 wd_777 yX_132 cl_X9 rfl dX11_feed_39 (Nat.le_refl _) rfl (Nat.le_of_ble_eq_true rfl) (Nat.le_of_ble_eq_true rfl) h (fun v u h hk => ?_)
    cases hk
    obtain ⟨s3, rfl⟩ : ∃ x, x = u := ⟨_, rfl⟩
    refine Ev_aload_n 0 dX11_feed_42 rfl rfl ?_
    refine Ev_getR (i := 5) cl_X11 yX_0 (Nat.le_of_ble_eq_true rfl) rfl wd_705 dX11_feed_43 ?_
    refine Ev_iload 4 dX11_feed_46 rfl ?_
    refine Ev_callV (As := [ev_i a4]) (b := 132) (st := []) (M' := M_X9_append) cm_X9_append wd_775 wd_776 wd_777 yX_132 cl_X9 rfl dX11_feed_48 (Nat.le_refl _) rfl (Nat.le_of_ble_eq_true rfl) (Nat.le_of_ble_eq_true rfl) h (fun v u h hk => ?_)
    cases hk
    obtain ⟨s4, rfl⟩ : ∃ x, x = u := ⟨_, rfl⟩
    refine Ev_aload_n 0 dX11_feed_51 rfl rfl ?_
    refine Ev_getR (i := 5) cl_X11 yX_0 (Nat.le_of_ble_eq_true rfl) rfl wd_705 dX11_feed_52 ?_
    refine Ev_iload 5 dX11_feed_55 rfl ?_
    refine Ev_callV (As := [ev_i a5]) (b := 132) (st := []) (M' := M_X9_append) cm_X9_append wd_775 wd_776 wd_777 yX_132 cl_X9 rfl dX11_feed_57 (Nat.le_refl _) rfl (Nat.le_of_ble_eq_true rfl) (Nat.le_of_ble_eq_true rfl) h (fun v u h hk => ?_)
    cases hk
    obtain ⟨s5, rfl⟩ : ∃ x, x = u := ⟨_, rfl⟩
    refine Ev_aload_n 0 dX11_feed_60 rfl rfl ?_
    refine Ev_getR (i := 5) cl_X11 yX_0 (Nat.le_of_ble_eq_true rfl) rfl wd_705 dX11_feed_61 ?_
    refine Ev_get (i := 1) cl_X9 yX_132 (Nat.le_of_ble_eq_true rfl) rfl wd_479 dX11_feed_64 ?_
    exact Ev_iret rfl dX11_feed_67 rfl h
  · replace h := h.2 c
    refine Ev_iconst dX11_feed_16 rfl (ev_Rc rfl) ?_
    exact Ev_iret rfl dX11_feed_17 rfl h
theorem dX11_end_0 : decode cX11_end 0 = .ok (.iload_n 1, 1) := by decide +kernel
theorem dX11_end_1 : decode cX11_end 1 = .ok (.ifCond .lt 14, 3) := by decide +kernel
theorem dX11_end_4 : decode cX11_end 4 = .ok (.iload_n 1, 1) := by decide +kernel
theorem dX11_end_5 : decode cX11_end 5 = .ok (.aload_n 0, 1) := by decide +kernel
theorem dX11_end_6 : decode cX11_end 6 = .ok (.getfield 47, 3) := by decide +kernel
theorem dX11_end_9 : decode cX11_end 9 = .ok (.getfield 141, 3) := by decide +kernel
theorem dX11_end_12 : decode cX11_end 12 = .ok (.if_icmp .le 5, 3) := by decide +kernel
theorem dX11_end_15 : decode cX11_end 15 = .ok (.iconst 0, 1) := by decide +kernel
theorem dX11_end_16 : decode cX11_end 16 = .ok (.ireturn, 1) := by decide +kernel
theorem dX11_end_17 : decode cX11_end 17 = .ok (.aload_n 0, 1) := by decide +kernel
theorem dX11_end_18 : decode cX11_end 18 = .ok (.getfield 47, 3) := by decide +kernel
theorem dX11_end_21 : decode cX11_end 21 = .ok (.iload_n 1, 1) := by decide +kernel
theorem dX11_end_22 : decode cX11_end 22 = .ok (.putfield 141, 3) := by decide +kernel
theorem dX11_end_25 : decode cX11_end 25 = .ok (.iconst 1, 1) := by decide +kernel
theorem dX11_end_26 : decode cX11_end 26 = .ok (.ireturn, 1) := by decide +kernel
theorem wp_X11_end_0 {d : Nat} {s : ev_S} {Q : Option ev_V → ev_S → Prop} {a1 : Int}
    (h : ((a1 < 0 → Q (some (ev_i 0)) s) ∧ (0 ≤ a1 → ((a1 ≤ (s 132 1) → (∀ s1, ev_up s 132 1 a1 = s1 → Q (some (ev_i 1)) s1)) ∧ ((s 132 1) < a1 → Q (some (ev_i 0)) s))))) :
    Ev layX M_X11_end d 0 [(0, ev_r 0), (1, ev_i a1)] [] s Q := by
  refine Ev_iload_n 1 dX11_end_0 rfl rfl ?_
  refine Ev_if_lt (tgt := 15) dX11_end_1 rfl (fun c => ?_) (fun c => ?_)
  · replace h := h.1 c
    refine Ev_iconst dX11_end_15 rfl (ev_Rc rfl) ?_
    exact Ev_iret rfl dX11_end_16 (ev_nb (by decide)) h
  · replace h := h.2 c
    refine Ev_iload_n 1 dX11_end_4 rfl rfl ?_
    refine Ev_aload_n 0 dX11_end_5 rfl rfl ?_
    refine Ev_getR (i := 5) cl_X11 yX_0 (Nat.le_of_ble_eq_true rfl) rfl wd_705 dX11_end_6 ?_
    refine Ev_get (i := 1) cl_X9 yX_132 (Nat.le_of_ble_eq_true rfl) rfl wd_479 dX11_end_9 ?_
    refine Ev_icmp_le (tgt := 17) dX11_end_12 rfl (fun c => ?_) (fun c => ?_)
    · replace h := h.1 c
      refine Ev_aload_n 0 dX11_end_17 rfl rfl ?_
      refine Ev_getR (i := 5) cl_X11 yX_0 (Nat.le_of_ble_eq_true rfl) rfl wd_705 dX11_end_18 ?_
      refine Ev_iload_n 1 dX11_end_21 rfl rfl ?_
      refine Ev_put (i := 1) (ty := .int) cl_X9 yX_132 (Nat.le_of_ble_eq_true rfl) rfl rfl (by decide +kernel) rfl rfl wd_479 dX11_end_22 (Ev_nm (fun s1 es1 => ?_))
      replace h := h s1 es1
      refine Ev_iconst dX11_end_25 rfl (ev_Rc rfl) ?_
      exact Ev_iret rfl dX11_end_26 (ev_nb (by decide)) h
    · replace h := h.2 c
      refine Ev_iconst dX11_end_15 rfl (ev_Rc rfl) ?_
      exact Ev_iret rfl dX11_end_16 (ev_nb (by decide)) h
theorem dX11_text_0 : decode cX11_text 0 = .ok (.iload_n 1, 1) := by decide +kernel
theorem dX11_text_1 : decode cX11_text 1 = .ok (.iconst 1, 1) := by decide +kernel
theorem dX11_text_2 : decode cX11_text 2 = .ok (.if_icmp .eq 39, 3) := by decide +kernel
theorem dX11_text_5 : decode cX11_text 5 = .ok (.iload_n 1, 1) := by decide +kernel
theorem dX11_text_6 : decode cX11_text 6 = .ok (.iconst 3, 1) := by decide +kernel
theorem dX11_text_7 : decode cX11_text 7 = .ok (.if_icmp .eq 34, 3) := by decide +kernel
theorem dX11_text_10 : decode cX11_text 10 = .ok (.iload_n 1, 1) := by decide +kernel
theorem dX11_text_11 : decode cX11_text 11 = .ok (.ifCond .ne 14, 3) := by decide +kernel
theorem dX11_text_14 : decode cX11_text 14 = .ok (.aload_n 0, 1) := by decide +kernel
theorem dX11_text_15 : decode cX11_text 15 = .ok (.getfield 12, 3) := by decide +kernel
theorem dX11_text_18 : decode cX11_text 18 = .ok (.iload_n 2, 1) := by decide +kernel
theorem dX11_text_19 : decode cX11_text 19 = .ok (.invokevirtual 148, 3) := by decide +kernel
theorem dX11_text_22 : decode cX11_text 22 = .ok (.ifCond .ne 19, 3) := by decide +kernel
theorem dX11_text_25 : decode cX11_text 25 = .ok (.iload_n 1, 1) := by decide +kernel
theorem dX11_text_26 : decode cX11_text 26 = .ok (.iconst 2, 1) := by decide +kernel
theorem dX11_text_27 : decode cX11_text 27 = .ok (.if_icmp .ne 18, 3) := by decide +kernel
theorem dX11_text_30 : decode cX11_text 30 = .ok (.aload_n 0, 1) := by decide +kernel
theorem dX11_text_31 : decode cX11_text 31 = .ok (.getfield 12, 3) := by decide +kernel
theorem dX11_text_34 : decode cX11_text 34 = .ok (.iload_n 2, 1) := by decide +kernel
theorem dX11_text_35 : decode cX11_text 35 = .ok (.invokevirtual 107, 3) := by decide +kernel
theorem dX11_text_38 : decode cX11_text 38 = .ok (.ifCond .eq 7, 3) := by decide +kernel
theorem dX11_text_41 : decode cX11_text 41 = .ok (.iconst 1, 1) := by decide +kernel
theorem dX11_text_42 : decode cX11_text 42 = .ok (.goto 4, 3) := by decide +kernel
theorem dX11_text_45 : decode cX11_text 45 = .ok (.iconst 0, 1) := by decide +kernel
theorem dX11_text_46 : decode cX11_text 46 = .ok (.istore_n 3, 1) := by decide +kernel
theorem dX11_text_47 : decode cX11_text 47 = .ok (.aload_n 0, 1) := by decide +kernel
theorem dX11_text_48 : decode cX11_text 48 = .ok (.getfield 56, 3) := by decide +kernel
theorem dX11_text_51 : decode cX11_text 51 = .ok (.iload_n 3, 1) := by decide +kernel
theorem dX11_text_52 : decode cX11_text 52 = .ok (.ifCond .eq 7, 3) := by decide +kernel
theorem dX11_text_55 : decode cX11_text 55 = .ok (.iload_n 1, 1) := by decide +kernel
theorem dX11_text_56 : decode cX11_text 56 = .ok (.goto 4, 3) := by decide +kernel
theorem dX11_text_59 : decode cX11_text 59 = .ok (.iconst (-1), 1) := by decide +kernel
theorem dX11_text_60 : decode cX11_text 60 = .ok (.invokevirtual 151, 3) := by decide +kernel
theorem dX11_text_63 : decode cX11_text 63 = .ok (.istore 4, 2) := by decide +kernel
theorem dX11_text_65 : decode cX11_text 65 = .ok (.iload 4, 2) := by decide +kernel
theorem dX11_text_67 : decode cX11_text 67 = .ok (.iconst (-1), 1) := by decide +kernel
theorem dX11_text_68 : decode cX11_text 68 = .ok (.if_icmp .ne 5, 3) := by decide +kernel
theorem dX11_text_71 : decode cX11_text 71 = .ok (.iconst (-1), 1) := by decide +kernel
theorem dX11_text_72 : decode cX11_text 72 = .ok (.ireturn, 1) := by decide +kernel
theorem dX11_text_73 : decode cX11_text 73 = .ok (.iload_n 1, 1) := by decide +kernel
theorem dX11_text_74 : decode cX11_text 74 = .ok (.ifCond .ne 11, 3) := by decide +kernel
theorem dX11_text_77 : decode cX11_text 77 = .ok (.aload_n 0, 1) := by decide +kernel
theorem dX11_text_78 : decode cX11_text 78 = .ok (.iload_n 2, 1) := by decide +kernel
theorem dX11_text_79 : decode cX11_text 79 = .ok (.invokevirtual 155, 3) := by decide +kernel
theorem dX11_text_82 : decode cX11_text 82 = .ok (.goto 45, 3) := by decide +kernel
theorem dX11_text_85 : decode cX11_text 85 = .ok (.iload_n 1, 1) := by decide +kernel
theorem dX11_text_86 : decode cX11_text 86 = .ok (.iconst 1, 1) := by decide +kernel
theorem dX11_text_87 : decode cX11_text 87 = .ok (.if_icmp .ne 10, 3) := by decide +kernel
theorem dX11_text_90 : decode cX11_text 90 = .ok (.aload_n 0, 1) := by decide +kernel
theorem dX11_text_91 : decode cX11_text 91 = .ok (.invokevirtual 158, 3) := by decide +kernel
theorem dX11_text_94 : decode cX11_text 94 = .ok (.goto 33, 3) := by decide +kernel
theorem dX11_text_97 : decode cX11_text 97 = .ok (.iload_n 1, 1) := by decide +kernel
theorem dX11_text_98 : decode cX11_text 98 = .ok (.iconst 2, 1) := by decide +kernel
theorem dX11_text_99 : decode cX11_text 99 = .ok (.if_icmp .ne 11, 3) := by decide +kernel
theorem dX11_text_102 : decode cX11_text 102 = .ok (.aload_n 0, 1) := by decide +kernel
theorem dX11_text_103 : decode cX11_text 103 = .ok (.iload_n 2, 1) := by decide +kernel
theorem dX11_text_104 : decode cX11_text 104 = .ok (.invokevirtual 161, 3) := by decide +kernel
theorem dX11_text_107 : decode cX11_text 107 = .ok (.goto 20, 3) := by decide +kernel
theorem dX11_text_110 : decode cX11_text 110 = .ok (.aload_n 0, 1) := by decide +kernel
theorem dX11_text_111 : decode cX11_text 111 = .ok (.getfield 12, 3) := by decide +kernel
theorem dX11_text_114 : decode cX11_text 114 = .ok (.getfield 164, 3) := by decide +kernel
theorem dX11_text_117 : decode cX11_text 117 = .ok (.aload_n 0, 1) := by decide +kernel
theorem dX11_text_118 : decode cX11_text 118 = .ok (.getfield 56, 3) := by decide +kernel
theorem dX11_text_121 : decode cX11_text 121 = .ok (.getfield 168, 3) := by decide +kernel
theorem dX11_text_124 : decode cX11_text 124 = .ok (.invokevirtual 169, 3) := by decide +kernel
theorem dX11_text_127 : decode cX11_text 127 = .ok (.iload_n 1, 1) := by decide +kernel
theorem dX11_text_128 : decode cX11_text 128 = .ok (.iconst 3, 1) := by decide +kernel
theorem dX11_text_129 : decode cX11_text 129 = .ok (.if_icmp .eq 7, 3) := by decide +kernel
theorem dX11_text_132 : decode cX11_text 132 = .ok (.aload_n 0, 1) := by decide +kernel
theorem dX11_text_133 : decode cX11_text 133 = .ok (.invokevirtual 97, 3) := by decide +kernel
theorem dX11_text_136 : decode cX11_text 136 = .ok (.iload 4, 2) := by decide +kernel
theorem dX11_text_138 : decode cX11_text 138 = .ok (.ireturn, 1) := by decide +kernel
theorem wp_X11_text_0 {d : Nat} {s : ev_S} {Q : Option ev_V → ev_S → Prop} {a1 a2 : Int}
    (h : ((a1 = 1 → Ev layX M_X11_text (d + 1) 41 [(0, ev_r 0), (1, ev_i a1), (2, ev_i a2)] [] s Q) ∧ (a1 ≠ 1 → ((a1 = 3 → Ev layX M_X11_text (d + 1) 41 [(0, ev_r 0), (1, ev_i a1), (2, ev_i a2)] [] s Q) ∧ (a1 ≠ 3 → ((a1 ≠ 0 → Ev layX M_X11_text (d + 1) 25 [(0, ev_r 0), (1, ev_i a1), (2, ev_i a2)] [] s Q) ∧ (a1 = 0 → (Ev layX M_X10_hasWard d 0 [(0, ev_r 1), (1, ev_i a2)] [] s (ev_pi (fun r2 s1 => ((r2 ≠ 0 → Ev layX M_X11_text (d + 1) 41 [(0, ev_r 0), (1, ev_i a1), (2, ev_i a2)] [] s1 Q) ∧ (r2 = 0 → Ev layX M_X11_text (d + 1) 25 [(0, ev_r 0), (1, ev_i a1), (2, ev_i a2)] [] s1 Q)))))))))))) :
    Ev layX M_X11_text (d + 1) 0 [(0, ev_r 0), (1, ev_i a1), (2, ev_i a2)] [] s Q := by
  refine Ev_iload_n 1 dX11_text_0 rfl rfl ?_
  refine Ev_iconst dX11_text_1 rfl (ev_Rc rfl) ?_
  refine Ev_icmp_eq (tgt := 41) dX11_text_2 rfl (fun c => ?_) (fun c => ?_)
  · replace h := h.1 c
    exact Ev_sub [0, 1, 2] rfl h
  · replace h := h.2 c
    refine Ev_iload_n 1 dX11_text_5 rfl rfl ?_
    refine Ev_iconst dX11_text_6 rfl (ev_Rc rfl) ?_
    refine Ev_icmp_eq (tgt := 41) dX11_text_7 rfl (fun c => ?_) (fun c => ?_)
    · replace h := h.1 c
      exact Ev_sub [0, 1, 2] rfl h
    · replace h := h.2 c
      refine Ev_iload_n 1 dX11_text_10 rfl rfl ?_
      refine Ev_if_ne (tgt := 25) dX11_text_11 rfl (fun c => ?_) (fun c => ?_)
      · replace h := h.1 c
        exact Ev_sub [0, 1, 2] rfl h
      · replace h := h.2 c
        refine Ev_aload_n 0 dX11_text_14 rfl rfl ?_
        refine Ev_getR (i := 0) cl_X11 yX_0 (Nat.le_of_ble_eq_true rfl) rfl wd_700 dX11_text_15 ?_
        refine Ev_iload_n 2 dX11_text_18 rfl rfl ?_
        refine Ev_callV (As := [ev_i a2]) (b := 1) (st := []) (M' := M_X10_hasWard) cm_X10_hasWard wd_787 wd_788 wd_789 yX_1 cl_X10 rfl dX11_text_19 (Nat.le_refl _) rfl (Nat.le_of_ble_eq_true rfl) (Nat.le_of_ble_eq_true rfl) h (fun v u h hk => ?_)
        obtain ⟨r2, rfl⟩ := hk
        obtain ⟨s1, rfl⟩ : ∃ x, x = u := ⟨_, rfl⟩
        replace h := h r2 rfl
        refine Ev_if_ne (tgt := 41) dX11_text_22 rfl (fun c => ?_) (fun c => ?_)
        · replace h := h.1 c
          exact Ev_sub [0, 1, 2] rfl h
        · replace h := h.2 c
          exact Ev_sub [0, 1, 2] rfl h
theorem wp_X11_text_25 {d : Nat} {s : ev_S} {Q : Option ev_V → ev_S → Prop} {a1 a2 : Int}
    (h : ((a1 ≠ 2 → (((0 : Int) = 0 → Ev layX M_X11_text (d + 1) 60 [(0, ev_r 0), (1, ev_i a1), (2, ev_i a2)] [ev_i (-1), ev_r 137] s Q) ∧ ((0 : Int) ≠ 0 → Ev layX M_X11_text (d + 1) 60 [(0, ev_r 0), (1, ev_i a1), (2, ev_i a2)] [ev_i a1, ev_r 137] s Q))) ∧ (a1 = 2 → (Ev layX M_X10_hasAngel d 0 [(0, ev_r 1), (1, ev_i a2)] [] s (ev_pi (fun r2 s1 => ((r2 = 0 → (((0 : Int) = 0 → Ev layX M_X11_text (d + 1) 60 [(0, ev_r 0), (1, ev_i a1), (2, ev_i a2)] [ev_i (-1), ev_r 137] s1 Q) ∧ ((0 : Int) ≠ 0 → Ev layX M_X11_text (d + 1) 60 [(0, ev_r 0), (1, ev_i a1), (2, ev_i a2)] [ev_i a1, ev_r 137] s1 Q))) ∧ (r2 ≠ 0 → Ev layX M_X11_text (d + 1) 41 [(0, ev_r 0), (1, ev_i a1), (2, ev_i a2)] [] s1 Q)))))))) :
    Ev layX M_X11_text (d + 1) 25 [(0, ev_r 0), (1, ev_i a1), (2, ev_i a2)] [] s Q := by
  refine Ev_iload_n 1 dX11_text_25 rfl rfl ?_
  refine Ev_iconst dX11_text_26 rfl (ev_Rc rfl) ?_
  refine Ev_icmp_ne (tgt := 45) dX11_text_27 rfl (fun c => ?_) (fun c => ?_)
  · replace h := h.1 c
    refine Ev_iconst dX11_text_45 rfl (ev_Rc rfl) ?_
    refine Ev_istore_n (l' := [(3, ev_i 0), (0, ev_r 0), (1, ev_i a1), (2, ev_i a2)]) dX11_text_46 rfl (Nat.le_of_ble_eq_true rfl) rfl ?_
    refine Ev_aload_n 1 dX11_text_47 rfl rfl ?_
    refine Ev_getR (i := 6) cl_X11 yX_0 (Nat.le_of_ble_eq_true rfl) rfl wd_706 dX11_text_48 ?_
    refine Ev_iload_n 0 dX11_text_51 rfl rfl ?_
    refine Ev_if_eq (tgt := 59) dX11_text_52 rfl (fun c => ?_) (fun c => ?_)
    · replace h := h.1 c
      refine Ev_iconst dX11_text_59 rfl (ev_Rc rfl) ?_
      exact Ev_sub [1, 2, 3] rfl h
    · replace h := h.2 c
      refine Ev_iload_n 2 dX11_text_55 rfl rfl ?_
      refine Ev_goto (tgt := 60) dX11_text_56 rfl ?_
      exact Ev_sub [1, 2, 3] rfl h
  · replace h := h.2 c
    refine Ev_aload_n 0 dX11_text_30 rfl rfl ?_
    refine Ev_getR (i := 0) cl_X11 yX_0 (Nat.le_of_ble_eq_true rfl) rfl wd_700 dX11_text_31 ?_
    refine Ev_iload_n 2 dX11_text_34 rfl rfl ?_
    refine Ev_callV (As := [ev_i a2]) (b := 1) (st := []) (M' := M_X10_hasAngel) cm_X10_hasAngel wd_751 wd_752 wd_753 yX_1 cl_X10 rfl dX11_text_35 (Nat.le_refl _) rfl (Nat.le_of_ble_eq_true rfl) (Nat.le_of_ble_eq_true rfl) h (fun v u h hk => ?_)
    obtain ⟨r2, rfl⟩ := hk
    obtain ⟨s1, rfl⟩ : ∃ x, x = u := ⟨_, rfl⟩
    replace h := h r2 rfl
    refine Ev_if_eq (tgt := 45) dX11_text_38 rfl (fun c => ?_) (fun c => ?_)
    · replace h := h.1 c
      refine Ev_iconst dX11_text_45 rfl (ev_Rc rfl) ?_
      refine Ev_istore_n (l' := [(3, ev_i 0), (0, ev_r 0), (1, ev_i a1), (2, ev_i a2)]) dX11_text_46 rfl (Nat.le_of_ble_eq_true rfl) rfl ?_
      refine Ev_aload_n 1 dX11_text_47 rfl rfl ?_
      refine Ev_getR (i := 6) cl_X11 yX_0 (Nat.le_of_ble_eq_true rfl) rfl wd_706 dX11_text_48 ?_
      refine Ev_iload_n 0 dX11_text_51 rfl rfl ?_
      refine Ev_if_eq (tgt := 59) dX11_text_52 rfl (fun c => ?_) (fun c => ?_)
      · replace h := h.1 c
        refine Ev_iconst dX11_text_59 rfl (ev_Rc rfl) ?_
        exact Ev_sub [1, 2, 3] rfl h
      · replace h := h.2 c
        refine Ev_iload_n 2 dX11_text_55 rfl rfl ?_
        refine Ev_goto (tgt := 60) dX11_text_56 rfl ?_
        exact Ev_sub [1, 2, 3] rfl h
    · replace h := h.2 c
      exact Ev_sub [0, 1, 2] rfl h
theorem wp_X11_text_41 {d : Nat} {s : ev_S} {Q : Option ev_V → ev_S → Prop} {a1 a2 : Int}
    (h : (((1 : Int) = 0 → Ev layX M_X11_text (d + 1) 60 [(0, ev_r 0), (1, ev_i a1), (2, ev_i a2)] [ev_i (-1), ev_r 137] s Q) ∧ ((1 : Int) ≠ 0 → Ev layX M_X11_text (d + 1) 60 [(0, ev_r 0), (1, ev_i a1), (2, ev_i a2)] [ev_i a1, ev_r 137] s Q))) :
    Ev layX M_X11_text (d + 1) 41 [(0, ev_r 0), (1, ev_i a1), (2, ev_i a2)] [] s Q := by
  refine Ev_iconst dX11_text_41 rfl (ev_Rc rfl) ?_
  refine Ev_goto (tgt := 46) dX11_text_42 rfl ?_
  refine Ev_istore_n (l' := [(3, ev_i 1), (0, ev_r 0), (1, ev_i a1), (2, ev_i a2)]) dX11_text_46 rfl (Nat.le_of_ble_eq_true rfl) rfl ?_
  refine Ev_aload_n 1 dX11_text_47 rfl rfl ?_
  refine Ev_getR (i := 6) cl_X11 yX_0 (Nat.le_of_ble_eq_true rfl) rfl wd_706 dX11_text_48 ?_
  refine Ev_iload_n 0 dX11_text_51 rfl rfl ?_
  refine Ev_if_eq (tgt := 59) dX11_text_52 rfl (fun c => ?_) (fun c => ?_)
  · replace h := h.1 c
    refine Ev_iconst dX11_text_59 rfl (ev_Rc rfl) ?_
    exact Ev_sub [1, 2, 3] rfl h
  · replace h := h.2 c
    refine Ev_iload_n 2 dX11_text_55 rfl rfl ?_
    refine Ev_goto (tgt := 60) dX11_text_56 rfl ?_
    exact Ev_sub [1, 2, 3] rfl h
theorem wp_X11_text_60 {d : Nat} {s : ev_S} {Q : Option ev_V → ev_S → Prop} {a1 a2 t0 : Int}
    (h : (Ev layX M_X8_read d 0 [(0, ev_r 137), (1, ev_i t0)] [] s (ev_pi (fun r2 s1 => ((r2 ≠ (-1) → ((a1 ≠ 0 → ((a1 ≠ 1 → ((a1 ≠ 2 → (Ev layX M_X4_copyFrom d 0 [(0, ev_r 10), (1, ev_r 139)] [] s1 (fun _ s3 => Ev layX M_X11_text (d + 1) 127 [(0, ev_r 0), (1, ev_i a1), (4, ev_i r2)] [] s3 Q))) ∧ (a1 = 2 → (Ev layX M_X11_takePlan d 0 [(0, ev_r 0), (1, ev_i a2)] [] s1 (fun _ s4 => Ev layX M_X11_text (d + 1) 127 [(0, ev_r 0), (1, ev_i a1), (4, ev_i r2)] [] s4 Q))))) ∧ (a1 = 1 → (Ev layX M_X11_takeMishaps d 0 [(0, ev_r 0)] [] s1 (fun _ s5 => Ev layX M_X11_text (d + 1) 127 [(0, ev_r 0), (1, ev_i a1), (4, ev_i r2)] [] s5 Q))))) ∧ (a1 = 0 → (Ev layX M_X11_takeWay d 0 [(0, ev_r 0), (1, ev_i a2)] [] s1 (fun _ s6 => Ev layX M_X11_text (d + 1) 127 [(0, ev_r 0), (1, ev_i a1), (4, ev_i r2)] [] s6 Q))))) ∧ (r2 = (-1) → Q (some (ev_i (-1))) s1)))))) :
    Ev layX M_X11_text (d + 1) 60 [(0, ev_r 0), (1, ev_i a1), (2, ev_i a2)] [ev_i t0, ev_r 137] s Q := by
  refine Ev_callV (As := [ev_i t0]) (b := 137) (st := []) (M' := M_X8_read) cm_X8_read wd_791 wd_792 wd_793 yX_137 cl_X8 rfl dX11_text_60 (Nat.le_refl _) rfl (Nat.le_of_ble_eq_true rfl) (Nat.le_of_ble_eq_true rfl) h (fun v u h hk => ?_)
  obtain ⟨r2, rfl⟩ := hk
  obtain ⟨s1, rfl⟩ : ∃ x, x = u := ⟨_, rfl⟩
  replace h := h r2 rfl
  refine Ev_istore (l' := [(4, ev_i r2), (0, ev_r 0), (1, ev_i a1), (2, ev_i a2)]) dX11_text_63 (Nat.le_of_ble_eq_true rfl) rfl ?_
  refine Ev_iload 0 dX11_text_65 rfl ?_
  refine Ev_iconst dX11_text_67 rfl (ev_Rc rfl) ?_
  refine Ev_icmp_ne (tgt := 73) dX11_text_68 rfl (fun c => ?_) (fun c => ?_)
  · replace h := h.1 c
    refine Ev_iload_n 2 dX11_text_73 rfl rfl ?_
    refine Ev_if_ne (tgt := 85) dX11_text_74 rfl (fun c => ?_) (fun c => ?_)
    · replace h := h.1 c
      refine Ev_iload_n 2 dX11_text_85 rfl rfl ?_
      refine Ev_iconst dX11_text_86 rfl (ev_Rc rfl) ?_
      refine Ev_icmp_ne (tgt := 97) dX11_text_87 rfl (fun c => ?_) (fun c => ?_)
      · replace h := h.1 c
        refine Ev_iload_n 2 dX11_text_97 rfl rfl ?_
        refine Ev_iconst dX11_text_98 rfl (ev_Rc rfl) ?_
        refine Ev_icmp_ne (tgt := 110) dX11_text_99 rfl (fun c => ?_) (fun c => ?_)
        · replace h := h.1 c
          refine Ev_aload_n 1 dX11_text_110 rfl rfl ?_
          refine Ev_getR (i := 0) cl_X11 yX_0 (Nat.le_of_ble_eq_true rfl) rfl wd_700 dX11_text_111 ?_
          refine Ev_getR (i := 15) cl_X10 yX_1 (Nat.le_of_ble_eq_true rfl) rfl wd_297 dX11_text_114 ?_
          refine Ev_aload_n 1 dX11_text_117 rfl rfl ?_
          refine Ev_getR (i := 6) cl_X11 yX_0 (Nat.le_of_ble_eq_true rfl) rfl wd_706 dX11_text_118 ?_
          refine Ev_getR (i := 5) cl_X8 yX_137 (Nat.le_of_ble_eq_true rfl) rfl wd_518 dX11_text_121 ?_
          refine Ev_callV (As := [ev_r 139]) (b := 10) (st := []) (M' := M_X4_copyFrom) cm_X4_copyFrom wd_1041 wd_1042 wd_1043 yX_10 cl_X4 rfl dX11_text_124 (Nat.le_refl _) rfl (Nat.le_of_ble_eq_true rfl) (Nat.le_of_ble_eq_true rfl) h (fun v u h hk => ?_)
          cases hk
          obtain ⟨s3, rfl⟩ : ∃ x, x = u := ⟨_, rfl⟩
          exact Ev_sub [1, 2, 0] rfl h
        · replace h := h.2 c
          refine Ev_aload_n 1 dX11_text_102 rfl rfl ?_
          refine Ev_iload_n 3 dX11_text_103 rfl rfl ?_
          refine Ev_callV (As := [ev_i a2]) (b := 0) (st := []) (M' := M_X11_takePlan) cm_X11_takePlan wd_1037 wd_1039 wd_30 yX_0 cl_X11 rfl dX11_text_104 (Nat.le_refl _) rfl (Nat.le_of_ble_eq_true rfl) (Nat.le_of_ble_eq_true rfl) h (fun v u h hk => ?_)
          cases hk
          obtain ⟨s4, rfl⟩ : ∃ x, x = u := ⟨_, rfl⟩
          refine Ev_goto (tgt := 127) dX11_text_107 rfl ?_
          exact Ev_sub [1, 2, 0] rfl h
      · replace h := h.2 c
        refine Ev_aload_n 1 dX11_text_90 rfl rfl ?_
        refine Ev_callV (As := []) (b := 0) (st := []) (M' := M_X11_takeMishaps) cm_X11_takeMishaps wd_1029 wd_1031 wd_29 yX_0 cl_X11 rfl dX11_text_91 (Nat.le_refl _) rfl (Nat.le_of_ble_eq_true rfl) (Nat.le_of_ble_eq_true rfl) h (fun v u h hk => ?_)
        cases hk
        obtain ⟨s5, rfl⟩ : ∃ x, x = u := ⟨_, rfl⟩
        refine Ev_goto (tgt := 127) dX11_text_94 rfl ?_
        exact Ev_sub [1, 2, 0] rfl h
    · replace h := h.2 c
      refine Ev_aload_n 1 dX11_text_77 rfl rfl ?_
      refine Ev_iload_n 3 dX11_text_78 rfl rfl ?_
      refine Ev_callV (As := [ev_i a2]) (b := 0) (st := []) (M' := M_X11_takeWay) cm_X11_takeWay wd_1025 wd_1027 wd_28 yX_0 cl_X11 rfl dX11_text_79 (Nat.le_refl _) rfl (Nat.le_of_ble_eq_true rfl) (Nat.le_of_ble_eq_true rfl) h (fun v u h hk => ?_)
      cases hk
      obtain ⟨s6, rfl⟩ : ∃ x, x = u := ⟨_, rfl⟩
      refine Ev_goto (tgt := 127) dX11_text_82 rfl ?_
      exact Ev_sub [1, 2, 0] rfl h
  · replace h := h.2 c
    refine Ev_iconst dX11_text_71 rfl (ev_Rc rfl) ?_
    exact Ev_iret rfl dX11_text_72 rfl h
theorem wp_X11_text_127 {d : Nat} {s : ev_S} {Q : Option ev_V → ev_S → Prop} {a1 a4 : Int}
    (h : ((a1 = 3 → Q (some (ev_i a4)) s) ∧ (a1 ≠ 3 → (Ev layX M_X11_isTold d 0 [(0, ev_r 0)] [] s (fun _ s1 => Q (some (ev_i a4)) s1))))) :
    Ev layX M_X11_text (d + 1) 127 [(0, ev_r 0), (1, ev_i a1), (4, ev_i a4)] [] s Q := by
  refine Ev_iload_n 1 dX11_text_127 rfl rfl ?_
  refine Ev_iconst dX11_text_128 rfl (ev_Rc rfl) ?_
  refine Ev_icmp_eq (tgt := 136) dX11_text_129 rfl (fun c => ?_) (fun c => ?_)
  · replace h := h.1 c
    refine Ev_iload 2 dX11_text_136 rfl ?_
    exact Ev_iret rfl dX11_text_138 rfl h
  · replace h := h.2 c
    refine Ev_aload_n 0 dX11_text_132 rfl rfl ?_
    refine Ev_callV (As := []) (b := 0) (st := []) (M' := M_X11_isTold) cm_X11_isTold wd_735 wd_737 wd_0 yX_0 cl_X11 rfl dX11_text_133 (Nat.le_refl _) rfl (Nat.le_of_ble_eq_true rfl) (Nat.le_of_ble_eq_true rfl) h (fun v u h hk => ?_)
    cases hk
    obtain ⟨s1, rfl⟩ : ∃ x, x = u := ⟨_, rfl⟩
    refine Ev_iload 2 dX11_text_136 rfl ?_
    exact Ev_iret rfl dX11_text_138 rfl h
theorem dX11_fault_0 : decode cX11_fault 0 = .ok (.iload_n 1, 1) := by decide +kernel
theorem dX11_fault_1 : decode cX11_fault 1 = .ok (.ifCond .ne 11, 3) := by decide +kernel
theorem dX11_fault_4 : decode cX11_fault 4 = .ok (.aload_n 0, 1) := by decide +kernel
theorem dX11_fault_5 : decode cX11_fault 5 = .ok (.getfield 56, 3) := by decide +kernel
theorem dX11_fault_8 : decode cX11_fault 8 = .ok (.getfield 175, 3) := by decide +kernel
theorem dX11_fault_11 : decode cX11_fault 11 = .ok (.ireturn, 1) := by decide +kernel
theorem dX11_fault_12 : decode cX11_fault 12 = .ok (.iload_n 1, 1) := by decide +kernel
theorem dX11_fault_13 : decode cX11_fault 13 = .ok (.iconst 1, 1) := by decide +kernel
theorem dX11_fault_14 : decode cX11_fault 14 = .ok (.if_icmp .ne 13, 3) := by decide +kernel
theorem dX11_fault_17 : decode cX11_fault 17 = .ok (.aload_n 0, 1) := by decide +kernel
theorem dX11_fault_18 : decode cX11_fault 18 = .ok (.getfield 56, 3) := by decide +kernel
theorem dX11_fault_21 : decode cX11_fault 21 = .ok (.getfield 178, 3) := by decide +kernel
theorem dX11_fault_24 : decode cX11_fault 24 = .ok (.goto 4, 3) := by decide +kernel
theorem dX11_fault_27 : decode cX11_fault 27 = .ok (.iconst (-1), 1) := by decide +kernel
theorem dX11_fault_28 : decode cX11_fault 28 = .ok (.ireturn, 1) := by decide +kernel
theorem wp_X11_fault_0 {d : Nat} {s : ev_S} {Q : Option ev_V → ev_S → Prop} {a1 : Int}
    (h : ((a1 ≠ 0 → ((a1 ≠ 1 → Q (some (ev_i (-1))) s) ∧ (a1 = 1 → Q (some (ev_i (s 137 9))) s))) ∧ (a1 = 0 → Q (some (ev_i (s 137 8))) s))) :
    Ev layX M_X11_fault d 0 [(0, ev_r 0), (1, ev_i a1)] [] s Q := by
  refine Ev_iload_n 1 dX11_fault_0 rfl rfl ?_
  refine Ev_if_ne (tgt := 12) dX11_fault_1 rfl (fun c => ?_) (fun c => ?_)
  · replace h := h.1 c
    refine Ev_iload_n 1 dX11_fault_12 rfl rfl ?_
    refine Ev_iconst dX11_fault_13 rfl (ev_Rc rfl) ?_
    refine Ev_icmp_ne (tgt := 27) dX11_fault_14 rfl (fun c => ?_) (fun c => ?_)
    · replace h := h.1 c
      refine Ev_iconst dX11_fault_27 rfl (ev_Rc rfl) ?_
      exact Ev_iret rfl dX11_fault_28 rfl h
    · replace h := h.2 c
      refine Ev_aload_n 0 dX11_fault_17 rfl rfl ?_
      refine Ev_getR (i := 6) cl_X11 yX_0 (Nat.le_of_ble_eq_true rfl) rfl wd_706 dX11_fault_18 ?_
      refine Ev_get (i := 9) cl_X8 yX_137 (Nat.le_of_ble_eq_true rfl) rfl wd_524 dX11_fault_21 ?_
      refine Ev_goto (tgt := 28) dX11_fault_24 rfl ?_
      exact Ev_iret rfl dX11_fault_28 rfl h
  · replace h := h.2 c
    refine Ev_aload_n 0 dX11_fault_4 rfl rfl ?_
    refine Ev_getR (i := 6) cl_X11 yX_0 (Nat.le_of_ble_eq_true rfl) rfl wd_706 dX11_fault_5 ?_
    refine Ev_get (i := 8) cl_X8 yX_137 (Nat.le_of_ble_eq_true rfl) rfl wd_522 dX11_fault_8 ?_
    exact Ev_iret rfl dX11_fault_11 rfl h
theorem dX11_seconds_0 : decode cX11_seconds 0 = .ok (.iload_n 1, 1) := by decide +kernel
theorem dX11_seconds_1 : decode cX11_seconds 1 = .ok (.iconst 1, 1) := by decide +kernel
theorem dX11_seconds_2 : decode cX11_seconds 2 = .ok (.if_icmp .lt 24, 3) := by decide +kernel
theorem dX11_seconds_5 : decode cX11_seconds 5 = .ok (.iload_n 1, 1) := by decide +kernel
theorem dX11_seconds_6 : decode cX11_seconds 6 = .ok (.bipush 60, 2) := by decide +kernel
theorem dX11_seconds_8 : decode cX11_seconds 8 = .ok (.if_icmp .gt 18, 3) := by decide +kernel
theorem dX11_seconds_11 : decode cX11_seconds 11 = .ok (.aload_n 0, 1) := by decide +kernel
theorem dX11_seconds_12 : decode cX11_seconds 12 = .ok (.getfield 19, 3) := by decide +kernel
theorem dX11_seconds_15 : decode cX11_seconds 15 = .ok (.getfield 181, 3) := by decide +kernel
theorem dX11_seconds_18 : decode cX11_seconds 18 = .ok (.iload_n 1, 1) := by decide +kernel
theorem dX11_seconds_19 : decode cX11_seconds 19 = .ok (.iadd, 1) := by decide +kernel
theorem dX11_seconds_20 : decode cX11_seconds 20 = .ok (.sipush 600, 3) := by decide +kernel
theorem dX11_seconds_23 : decode cX11_seconds 23 = .ok (.if_icmp .le 5, 3) := by decide +kernel
theorem dX11_seconds_26 : decode cX11_seconds 26 = .ok (.iconst (-1), 1) := by decide +kernel
theorem dX11_seconds_27 : decode cX11_seconds 27 = .ok (.ireturn, 1) := by decide +kernel
theorem dX11_seconds_28 : decode cX11_seconds 28 = .ok (.iconst 0, 1) := by decide +kernel
theorem dX11_seconds_29 : decode cX11_seconds 29 = .ok (.istore_n 2, 1) := by decide +kernel
theorem dX11_seconds_30 : decode cX11_seconds 30 = .ok (.iconst 0, 1) := by decide +kernel
theorem dX11_seconds_31 : decode cX11_seconds 31 = .ok (.istore_n 3, 1) := by decide +kernel
theorem dX11_seconds_32 : decode cX11_seconds 32 = .ok (.iload_n 3, 1) := by decide +kernel
theorem dX11_seconds_33 : decode cX11_seconds 33 = .ok (.iload_n 1, 1) := by decide +kernel
theorem dX11_seconds_34 : decode cX11_seconds 34 = .ok (.if_icmp .ge 35, 3) := by decide +kernel
theorem dX11_seconds_37 : decode cX11_seconds 37 = .ok (.aload_n 0, 1) := by decide +kernel
theorem dX11_seconds_38 : decode cX11_seconds 38 = .ok (.getfield 33, 3) := by decide +kernel
theorem dX11_seconds_41 : decode cX11_seconds 41 = .ok (.aload_n 0, 1) := by decide +kernel
theorem dX11_seconds_42 : decode cX11_seconds 42 = .ok (.getfield 19, 3) := by decide +kernel
theorem dX11_seconds_45 : decode cX11_seconds 45 = .ok (.invokevirtual 184, 3) := by decide +kernel
theorem dX11_seconds_48 : decode cX11_seconds 48 = .ok (.iload_n 2, 1) := by decide +kernel
theorem dX11_seconds_49 : decode cX11_seconds 49 = .ok (.aload_n 0, 1) := by decide +kernel
theorem dX11_seconds_50 : decode cX11_seconds 50 = .ok (.getfield 65, 3) := by decide +kernel
theorem dX11_seconds_53 : decode cX11_seconds 53 = .ok (.aload_n 0, 1) := by decide +kernel
theorem dX11_seconds_54 : decode cX11_seconds 54 = .ok (.getfield 19, 3) := by decide +kernel
theorem dX11_seconds_57 : decode cX11_seconds 57 = .ok (.iconst 0, 1) := by decide +kernel
theorem dX11_seconds_58 : decode cX11_seconds 58 = .ok (.invokevirtual 188, 3) := by decide +kernel
theorem dX11_seconds_61 : decode cX11_seconds 61 = .ok (.iadd, 1) := by decide +kernel
theorem dX11_seconds_62 : decode cX11_seconds 62 = .ok (.istore_n 2, 1) := by decide +kernel
theorem dX11_seconds_63 : decode cX11_seconds 63 = .ok (.iinc 3 1, 3) := by decide +kernel
theorem dX11_seconds_66 : decode cX11_seconds 66 = .ok (.goto (-34), 3) := by decide +kernel
theorem dX11_seconds_69 : decode cX11_seconds 69 = .ok (.aload_n 0, 1) := by decide +kernel
theorem dX11_seconds_70 : decode cX11_seconds 70 = .ok (.invokevirtual 192, 3) := by decide +kernel
theorem dX11_seconds_73 : decode cX11_seconds 73 = .ok (.iload_n 2, 1) := by decide +kernel
theorem dX11_seconds_74 : decode cX11_seconds 74 = .ok (.ireturn, 1) := by decide +kernel
theorem wp_X11_seconds_0 {d : Nat} {s : ev_S} {Q : Option ev_V → ev_S → Prop} {a1 : Int}
    (h : ((a1 < 1 → Q (some (ev_i (-1))) s) ∧ (1 ≤ a1 → ((60 < a1 → Q (some (ev_i (-1))) s) ∧ (a1 ≤ 60 → (((ev_add (s 15 0) a1) ≤ 600 → Ev layX M_X11_seconds (d + 1) 32 [(0, ev_r 0), (1, ev_i a1), (2, ev_i 0), (3, ev_i 0)] [] s Q) ∧ (600 < (ev_add (s 15 0) a1) → Q (some (ev_i (-1))) s))))))) :
    Ev layX M_X11_seconds (d + 1) 0 [(0, ev_r 0), (1, ev_i a1)] [] s Q := by
  refine Ev_iload_n 1 dX11_seconds_0 rfl rfl ?_
  refine Ev_iconst dX11_seconds_1 rfl (ev_Rc rfl) ?_
  refine Ev_icmp_lt (tgt := 26) dX11_seconds_2 rfl (fun c => ?_) (fun c => ?_)
  · replace h := h.1 c
    refine Ev_iconst dX11_seconds_26 rfl (ev_Rc rfl) ?_
    exact Ev_iret rfl dX11_seconds_27 rfl h
  · replace h := h.2 c
    refine Ev_iload_n 1 dX11_seconds_5 rfl rfl ?_
    refine Ev_bipushC dX11_seconds_6 rfl ?_
    refine Ev_icmp_gt (tgt := 26) dX11_seconds_8 rfl (fun c => ?_) (fun c => ?_)
    · replace h := h.1 c
      refine Ev_iconst dX11_seconds_26 rfl (ev_Rc rfl) ?_
      exact Ev_iret rfl dX11_seconds_27 rfl h
    · replace h := h.2 c
      refine Ev_aload_n 0 dX11_seconds_11 rfl rfl ?_
      refine Ev_getR (i := 1) cl_X11 yX_0 (Nat.le_of_ble_eq_true rfl) rfl wd_701 dX11_seconds_12 ?_
      refine Ev_get (i := 0) cl_X2 yX_15 (Nat.le_of_ble_eq_true rfl) rfl wd_340 dX11_seconds_15 ?_
      refine Ev_iload_n 1 dX11_seconds_18 rfl rfl ?_
      refine Ev_iadd dX11_seconds_19 ?_
      refine Ev_sipushC dX11_seconds_20 rfl ?_
      refine Ev_icmp_le (tgt := 28) dX11_seconds_23 rfl (fun c => ?_) (fun c => ?_)
      · replace h := h.1 c
        refine Ev_iconst dX11_seconds_28 rfl (ev_Rc rfl) ?_
        refine Ev_istore_n (l' := [(2, ev_i 0), (0, ev_r 0), (1, ev_i a1)]) dX11_seconds_29 rfl (Nat.le_of_ble_eq_true rfl) rfl ?_
        refine Ev_iconst dX11_seconds_30 rfl (ev_Rc rfl) ?_
        refine Ev_istore_n (l' := [(3, ev_i 0), (2, ev_i 0), (0, ev_r 0), (1, ev_i a1)]) dX11_seconds_31 rfl (Nat.le_of_ble_eq_true rfl) rfl ?_
        exact Ev_sub [2, 3, 1, 0] rfl h
      · replace h := h.2 c
        refine Ev_iconst dX11_seconds_26 rfl (ev_Rc rfl) ?_
        exact Ev_iret rfl dX11_seconds_27 rfl h
theorem wp_X11_seconds_32 {d : Nat} {s : ev_S} {Q : Option ev_V → ev_S → Prop} {a1 a2 a3 : Int}
    (h : ((a1 ≤ a3 → (Ev layX M_X11_isChanged d 0 [(0, ev_r 0)] [] s (fun _ s1 => Q (some (ev_i a2)) s1))) ∧ (a3 < a1 → (Ev layX M_X5_keep d 0 [(0, ev_r 29), (1, ev_r 15)] [] s (fun _ s2 => (Ev layX M_X7_goBy d 0 [(0, ev_r 144), (1, ev_r 15), (2, ev_i 0)] [] s2 (ev_pi (fun r4 s3 => Ev layX M_X11_seconds (d + 1) 32 [(0, ev_r 0), (1, ev_i a1), (2, ev_i (ev_add a2 r4)), (3, ev_i (ev_add a3 1))] [] s3 Q)))))))) :
    Ev layX M_X11_seconds (d + 1) 32 [(0, ev_r 0), (1, ev_i a1), (2, ev_i a2), (3, ev_i a3)] [] s Q := by
  refine Ev_iload_n 3 dX11_seconds_32 rfl rfl ?_
  refine Ev_iload_n 1 dX11_seconds_33 rfl rfl ?_
  refine Ev_icmp_ge (tgt := 69) dX11_seconds_34 rfl (fun c => ?_) (fun c => ?_)
  · replace h := h.1 c
    refine Ev_aload_n 0 dX11_seconds_69 rfl rfl ?_
    refine Ev_callV (As := []) (b := 0) (st := []) (M' := M_X11_isChanged) cm_X11_isChanged wd_739 wd_741 wd_1 yX_0 cl_X11 rfl dX11_seconds_70 (Nat.le_refl _) rfl (Nat.le_of_ble_eq_true rfl) (Nat.le_of_ble_eq_true rfl) h (fun v u h hk => ?_)
    cases hk
    obtain ⟨s1, rfl⟩ : ∃ x, x = u := ⟨_, rfl⟩
    refine Ev_iload_n 2 dX11_seconds_73 rfl rfl ?_
    exact Ev_iret rfl dX11_seconds_74 rfl h
  · replace h := h.2 c
    refine Ev_aload_n 0 dX11_seconds_37 rfl rfl ?_
    refine Ev_getR (i := 3) cl_X11 yX_0 (Nat.le_of_ble_eq_true rfl) rfl wd_703 dX11_seconds_38 ?_
    refine Ev_aload_n 0 dX11_seconds_41 rfl rfl ?_
    refine Ev_getR (i := 1) cl_X11 yX_0 (Nat.le_of_ble_eq_true rfl) rfl wd_701 dX11_seconds_42 ?_
    refine Ev_callV (As := [ev_r 15]) (b := 29) (st := []) (M' := M_X5_keep) cm_X5_keep wd_1054 wd_1055 wd_1056 yX_29 cl_X5 rfl dX11_seconds_45 (Nat.le_refl _) rfl (Nat.le_of_ble_eq_true rfl) (Nat.le_of_ble_eq_true rfl) h (fun v u h hk => ?_)
    cases hk
    obtain ⟨s2, rfl⟩ : ∃ x, x = u := ⟨_, rfl⟩
    refine Ev_iload_n 2 dX11_seconds_48 rfl rfl ?_
    refine Ev_aload_n 0 dX11_seconds_49 rfl rfl ?_
    refine Ev_getR (i := 7) cl_X11 yX_0 (Nat.le_of_ble_eq_true rfl) rfl wd_707 dX11_seconds_50 ?_
    refine Ev_aload_n 0 dX11_seconds_53 rfl rfl ?_
    refine Ev_getR (i := 1) cl_X11 yX_0 (Nat.le_of_ble_eq_true rfl) rfl wd_701 dX11_seconds_54 ?_
    refine Ev_iconst dX11_seconds_57 rfl (ev_Rc rfl) ?_
    refine Ev_callV (As := [ev_r 15, ev_i 0]) (b := 144) (st := [ev_i a2]) (M' := M_X7_goBy) cm_X7_goBy wd_1064 wd_1065 wd_1066 yX_144 cl_X7 rfl dX11_seconds_58 (Nat.le_refl _) rfl (Nat.le_of_ble_eq_true rfl) (Nat.le_of_ble_eq_true rfl) h (fun v u h hk => ?_)
    obtain ⟨r4, rfl⟩ := hk
    obtain ⟨s3, rfl⟩ : ∃ x, x = u := ⟨_, rfl⟩
    replace h := h r4 rfl
    refine Ev_iadd dX11_seconds_61 ?_
    refine Ev_istore_n (l' := [(2, ev_i (ev_add a2 r4)), (0, ev_r 0), (1, ev_i a1), (3, ev_i a3)]) dX11_seconds_62 rfl (Nat.le_of_ble_eq_true rfl) rfl ?_
    refine Ev_iinc (j := 3) (l' := [(3, ev_i (ev_add a3 1)), (2, ev_i (ev_add a2 r4)), (0, ev_r 0), (1, ev_i a1)]) dX11_seconds_63 rfl (Nat.le_of_ble_eq_true rfl) rfl ?_
    refine Ev_goto (tgt := 32) dX11_seconds_66 rfl ?_
    exact Ev_sub [2, 3, 1, 0] rfl h
theorem dX11_of_0 : decode cX11_of 0 = .ok (.aload_n 0, 1) := by decide +kernel
theorem dX11_of_1 : decode cX11_of 1 = .ok (.getfield 12, 3) := by decide +kernel
theorem dX11_of_4 : decode cX11_of 4 = .ok (.iload_n 1, 1) := by decide +kernel
theorem dX11_of_5 : decode cX11_of 5 = .ok (.invokevirtual 148, 3) := by decide +kernel
theorem dX11_of_8 : decode cX11_of 8 = .ok (.ifCond .ne 5, 3) := by decide +kernel
theorem dX11_of_11 : decode cX11_of 11 = .ok (.iconst (-1), 1) := by decide +kernel
theorem dX11_of_12 : decode cX11_of 12 = .ok (.ireturn, 1) := by decide +kernel
theorem dX11_of_13 : decode cX11_of 13 = .ok (.iload_n 2, 1) := by decide +kernel
theorem dX11_of_14 : decode cX11_of 14 = .ok (.tableswitch 66 0 2 #[26, 36, 46], 26) := by decide +kernel
theorem dX11_of_40 : decode cX11_of 40 = .ok (.aload_n 0, 1) := by decide +kernel
theorem dX11_of_41 : decode cX11_of 41 = .ok (.getfield 19, 3) := by decide +kernel
theorem dX11_of_44 : decode cX11_of 44 = .ok (.getfield 123, 3) := by decide +kernel
theorem dX11_of_47 : decode cX11_of 47 = .ok (.iload_n 1, 1) := by decide +kernel
theorem dX11_of_48 : decode cX11_of 48 = .ok (.iaload, 1) := by decide +kernel
theorem dX11_of_49 : decode cX11_of 49 = .ok (.ireturn, 1) := by decide +kernel
theorem dX11_of_50 : decode cX11_of 50 = .ok (.aload_n 0, 1) := by decide +kernel
theorem dX11_of_51 : decode cX11_of 51 = .ok (.getfield 19, 3) := by decide +kernel
theorem dX11_of_54 : decode cX11_of 54 = .ok (.getfield 195, 3) := by decide +kernel
theorem dX11_of_57 : decode cX11_of 57 = .ok (.iload_n 1, 1) := by decide +kernel
theorem dX11_of_58 : decode cX11_of 58 = .ok (.iaload, 1) := by decide +kernel
theorem dX11_of_59 : decode cX11_of 59 = .ok (.ireturn, 1) := by decide +kernel
theorem dX11_of_60 : decode cX11_of 60 = .ok (.aload_n 0, 1) := by decide +kernel
theorem dX11_of_61 : decode cX11_of 61 = .ok (.getfield 12, 3) := by decide +kernel
theorem dX11_of_64 : decode cX11_of 64 = .ok (.getfield 120, 3) := by decide +kernel
theorem dX11_of_67 : decode cX11_of 67 = .ok (.iload_n 1, 1) := by decide +kernel
theorem dX11_of_68 : decode cX11_of 68 = .ok (.iaload, 1) := by decide +kernel
theorem dX11_of_69 : decode cX11_of 69 = .ok (.aload_n 0, 1) := by decide +kernel
theorem dX11_of_70 : decode cX11_of 70 = .ok (.getfield 19, 3) := by decide +kernel
theorem dX11_of_73 : decode cX11_of 73 = .ok (.getfield 198, 3) := by decide +kernel
theorem dX11_of_76 : decode cX11_of 76 = .ok (.iload_n 1, 1) := by decide +kernel
theorem dX11_of_77 : decode cX11_of 77 = .ok (.iaload, 1) := by decide +kernel
theorem dX11_of_78 : decode cX11_of 78 = .ok (.isub, 1) := by decide +kernel
theorem dX11_of_79 : decode cX11_of 79 = .ok (.ireturn, 1) := by decide +kernel
theorem dX11_of_80 : decode cX11_of 80 = .ok (.iconst (-1), 1) := by decide +kernel
theorem dX11_of_81 : decode cX11_of 81 = .ok (.ireturn, 1) := by decide +kernel
theorem wp_X11_of_0 {d : Nat} {s : ev_S} {Q : Option ev_V → ev_S → Prop} {a1 a2 : Int}
    (h : (Ev layX M_X10_hasWard d 0 [(0, ev_r 1), (1, ev_i a1)] [] s (ev_pi (fun r2 s1 => ((r2 ≠ 0 → ((a2 < 0 ∨ 2 < a2 → Q (some (ev_i (-1))) s1) ∧ (a2 = 0 → ((0 ≤ a1 ∧ a1 < (8 : Nat)) ∧ Q (some (ev_i (s1 16 (Int.toNat a1)))) s1)) ∧ (a2 = 1 → ((0 ≤ a1 ∧ a1 < (8 : Nat)) ∧ Q (some (ev_i (s1 17 (Int.toNat a1)))) s1)) ∧ (a2 = 2 → ((0 ≤ a1 ∧ a1 < (8 : Nat)) ∧ ((0 ≤ a1 ∧ a1 < (8 : Nat)) ∧ Q (some (ev_i (ev_sub (s1 4 (Int.toNat a1)) (s1 18 (Int.toNat a1))))) s1))))) ∧ (r2 = 0 → Q (some (ev_i (-1))) s1)))))) :
    Ev layX M_X11_of (d + 1) 0 [(0, ev_r 0), (1, ev_i a1), (2, ev_i a2)] [] s Q := by
  refine Ev_aload_n 0 dX11_of_0 rfl rfl ?_
  refine Ev_getR (i := 0) cl_X11 yX_0 (Nat.le_of_ble_eq_true rfl) rfl wd_700 dX11_of_1 ?_
  refine Ev_iload_n 1 dX11_of_4 rfl rfl ?_
  refine Ev_callV (As := [ev_i a1]) (b := 1) (st := []) (M' := M_X10_hasWard) cm_X10_hasWard wd_787 wd_788 wd_789 yX_1 cl_X10 rfl dX11_of_5 (Nat.le_refl _) rfl (Nat.le_of_ble_eq_true rfl) (Nat.le_of_ble_eq_true rfl) h (fun v u h hk => ?_)
  obtain ⟨r2, rfl⟩ := hk
  obtain ⟨s1, rfl⟩ : ∃ x, x = u := ⟨_, rfl⟩
  replace h := h r2 rfl
  refine Ev_if_ne (tgt := 13) dX11_of_8 rfl (fun c => ?_) (fun c => ?_)
  · replace h := h.1 c
    refine Ev_iload_n 2 dX11_of_13 rfl rfl ?_
    by_cases g : a2 < 0 ∨ 2 < a2
    · replace h := h.1 g
      refine Ev_tabOut (tgt := 80) dX11_of_14 g rfl ?_
      refine Ev_iconst dX11_of_80 rfl (ev_Rc rfl) ?_
      exact Ev_iret rfl dX11_of_81 rfl h
    · replace h := h.2
      rcases (show a2 = 0 ∨ a2 = 1 ∨ a2 = 2 by omega) with g | g | g
      · replace h := h.1 g
        refine Ev_tabIn (tgt := 40) (off := 26) dX11_of_14 (by omega) (by omega) (by rw [g]; rfl) rfl ?_
        refine Ev_aload_n 0 dX11_of_40 rfl rfl ?_
        refine Ev_getR (i := 1) cl_X11 yX_0 (Nat.le_of_ble_eq_true rfl) rfl wd_701 dX11_of_41 ?_
        refine Ev_getR (i := 2) cl_X2 yX_15 (Nat.le_of_ble_eq_true rfl) rfl wd_346 dX11_of_44 ?_
        refine Ev_iload_n 1 dX11_of_47 rfl rfl ?_
        obtain ⟨h0, h⟩ := h
        refine Ev_iald yX_16 h0 dX11_of_48 ?_
        exact Ev_iret rfl dX11_of_49 rfl h
      · replace h := h.2.1 g
        refine Ev_tabIn (tgt := 50) (off := 36) dX11_of_14 (by omega) (by omega) (by rw [g]; rfl) rfl ?_
        refine Ev_aload_n 0 dX11_of_50 rfl rfl ?_
        refine Ev_getR (i := 1) cl_X11 yX_0 (Nat.le_of_ble_eq_true rfl) rfl wd_701 dX11_of_51 ?_
        refine Ev_getR (i := 3) cl_X2 yX_15 (Nat.le_of_ble_eq_true rfl) rfl wd_350 dX11_of_54 ?_
        refine Ev_iload_n 1 dX11_of_57 rfl rfl ?_
        obtain ⟨h0, h⟩ := h
        refine Ev_iald yX_17 h0 dX11_of_58 ?_
        exact Ev_iret rfl dX11_of_59 rfl h
      · replace h := h.2.2 g
        refine Ev_tabIn (tgt := 60) (off := 46) dX11_of_14 (by omega) (by omega) (by rw [g]; rfl) rfl ?_
        refine Ev_aload_n 0 dX11_of_60 rfl rfl ?_
        refine Ev_getR (i := 0) cl_X11 yX_0 (Nat.le_of_ble_eq_true rfl) rfl wd_700 dX11_of_61 ?_
        refine Ev_getR (i := 6) cl_X10 yX_1 (Nat.le_of_ble_eq_true rfl) rfl wd_261 dX11_of_64 ?_
        refine Ev_iload_n 1 dX11_of_67 rfl rfl ?_
        obtain ⟨h0, h⟩ := h
        refine Ev_iald yX_4 h0 dX11_of_68 ?_
        refine Ev_aload_n 0 dX11_of_69 rfl rfl ?_
        refine Ev_getR (i := 1) cl_X11 yX_0 (Nat.le_of_ble_eq_true rfl) rfl wd_701 dX11_of_70 ?_
        refine Ev_getR (i := 4) cl_X2 yX_15 (Nat.le_of_ble_eq_true rfl) rfl wd_353 dX11_of_73 ?_
        refine Ev_iload_n 1 dX11_of_76 rfl rfl ?_
        obtain ⟨h0, h⟩ := h
        refine Ev_iald yX_18 h0 dX11_of_77 ?_
        refine Ev_isub dX11_of_78 ?_
        exact Ev_iret rfl dX11_of_79 rfl h
  · replace h := h.2 c
    refine Ev_iconst dX11_of_11 rfl (ev_Rc rfl) ?_
    exact Ev_iret rfl dX11_of_12 rfl h
theorem dX11_at_0 : decode cX11_at 0 = .ok (.aload_n 0, 1) := by decide +kernel
theorem dX11_at_1 : decode cX11_at 1 = .ok (.getfield 12, 3) := by decide +kernel
theorem dX11_at_4 : decode cX11_at 4 = .ok (.iload_n 1, 1) := by decide +kernel
theorem dX11_at_5 : decode cX11_at 5 = .ok (.invokevirtual 107, 3) := by decide +kernel
theorem dX11_at_8 : decode cX11_at 8 = .ok (.ifCond .ne 5, 3) := by decide +kernel
theorem dX11_at_11 : decode cX11_at 11 = .ok (.iconst (-1), 1) := by decide +kernel
theorem dX11_at_12 : decode cX11_at 12 = .ok (.ireturn, 1) := by decide +kernel
theorem dX11_at_13 : decode cX11_at 13 = .ok (.iload_n 2, 1) := by decide +kernel
theorem dX11_at_14 : decode cX11_at 14 = .ok (.tableswitch 127 0 6 #[42, 52, 62, 72, 82, 102, 118], 42) := by decide +kernel
theorem dX11_at_56 : decode cX11_at 56 = .ok (.aload_n 0, 1) := by decide +kernel
theorem dX11_at_57 : decode cX11_at 57 = .ok (.getfield 19, 3) := by decide +kernel
theorem dX11_at_60 : decode cX11_at 60 = .ok (.getfield 132, 3) := by decide +kernel
theorem dX11_at_63 : decode cX11_at 63 = .ok (.iload_n 1, 1) := by decide +kernel
theorem dX11_at_64 : decode cX11_at 64 = .ok (.iaload, 1) := by decide +kernel
theorem dX11_at_65 : decode cX11_at 65 = .ok (.ireturn, 1) := by decide +kernel
theorem dX11_at_66 : decode cX11_at 66 = .ok (.aload_n 0, 1) := by decide +kernel
theorem dX11_at_67 : decode cX11_at 67 = .ok (.getfield 12, 3) := by decide +kernel
theorem dX11_at_70 : decode cX11_at 70 = .ok (.getfield 111, 3) := by decide +kernel
theorem dX11_at_73 : decode cX11_at 73 = .ok (.iload_n 1, 1) := by decide +kernel
theorem dX11_at_74 : decode cX11_at 74 = .ok (.iaload, 1) := by decide +kernel
theorem dX11_at_75 : decode cX11_at 75 = .ok (.ireturn, 1) := by decide +kernel
theorem dX11_at_76 : decode cX11_at 76 = .ok (.aload_n 0, 1) := by decide +kernel
theorem dX11_at_77 : decode cX11_at 77 = .ok (.getfield 19, 3) := by decide +kernel
theorem dX11_at_80 : decode cX11_at 80 = .ok (.getfield 201, 3) := by decide +kernel
theorem dX11_at_83 : decode cX11_at 83 = .ok (.iload_n 1, 1) := by decide +kernel
theorem dX11_at_84 : decode cX11_at 84 = .ok (.iaload, 1) := by decide +kernel
theorem dX11_at_85 : decode cX11_at 85 = .ok (.ireturn, 1) := by decide +kernel
theorem dX11_at_86 : decode cX11_at 86 = .ok (.aload_n 0, 1) := by decide +kernel
theorem dX11_at_87 : decode cX11_at 87 = .ok (.getfield 19, 3) := by decide +kernel
theorem dX11_at_90 : decode cX11_at 90 = .ok (.getfield 204, 3) := by decide +kernel
theorem dX11_at_93 : decode cX11_at 93 = .ok (.iload_n 1, 1) := by decide +kernel
theorem dX11_at_94 : decode cX11_at 94 = .ok (.iaload, 1) := by decide +kernel
theorem dX11_at_95 : decode cX11_at 95 = .ok (.ireturn, 1) := by decide +kernel
theorem dX11_at_96 : decode cX11_at 96 = .ok (.aload_n 0, 1) := by decide +kernel
theorem dX11_at_97 : decode cX11_at 97 = .ok (.getfield 12, 3) := by decide +kernel
theorem dX11_at_100 : decode cX11_at 100 = .ok (.getfield 129, 3) := by decide +kernel
theorem dX11_at_103 : decode cX11_at 103 = .ok (.iload_n 1, 1) := by decide +kernel
theorem dX11_at_104 : decode cX11_at 104 = .ok (.iaload, 1) := by decide +kernel
theorem dX11_at_105 : decode cX11_at 105 = .ok (.aload_n 0, 1) := by decide +kernel
theorem dX11_at_106 : decode cX11_at 106 = .ok (.getfield 19, 3) := by decide +kernel
theorem dX11_at_109 : decode cX11_at 109 = .ok (.getfield 207, 3) := by decide +kernel
theorem dX11_at_112 : decode cX11_at 112 = .ok (.iload_n 1, 1) := by decide +kernel
theorem dX11_at_113 : decode cX11_at 113 = .ok (.iaload, 1) := by decide +kernel
theorem dX11_at_114 : decode cX11_at 114 = .ok (.isub, 1) := by decide +kernel
theorem dX11_at_115 : decode cX11_at 115 = .ok (.ireturn, 1) := by decide +kernel
theorem dX11_at_116 : decode cX11_at 116 = .ok (.aload_n 0, 1) := by decide +kernel
theorem dX11_at_117 : decode cX11_at 117 = .ok (.getfield 83, 3) := by decide +kernel
theorem dX11_at_120 : decode cX11_at 120 = .ok (.invokevirtual 210, 3) := by decide +kernel
theorem dX11_at_123 : decode cX11_at 123 = .ok (.aload_n 0, 1) := by decide +kernel
theorem dX11_at_124 : decode cX11_at 124 = .ok (.getfield 83, 3) := by decide +kernel
theorem dX11_at_127 : decode cX11_at 127 = .ok (.iload_n 1, 1) := by decide +kernel
theorem dX11_at_128 : decode cX11_at 128 = .ok (.invokevirtual 213, 3) := by decide +kernel
theorem dX11_at_131 : decode cX11_at 131 = .ok (.ireturn, 1) := by decide +kernel
theorem dX11_at_132 : decode cX11_at 132 = .ok (.aload_n 0, 1) := by decide +kernel
theorem dX11_at_133 : decode cX11_at 133 = .ok (.getfield 74, 3) := by decide +kernel
theorem dX11_at_136 : decode cX11_at 136 = .ok (.iload_n 1, 1) := by decide +kernel
theorem dX11_at_137 : decode cX11_at 137 = .ok (.invokevirtual 216, 3) := by decide +kernel
theorem dX11_at_140 : decode cX11_at 140 = .ok (.ireturn, 1) := by decide +kernel
theorem dX11_at_141 : decode cX11_at 141 = .ok (.iconst (-1), 1) := by decide +kernel
theorem dX11_at_142 : decode cX11_at 142 = .ok (.ireturn, 1) := by decide +kernel
theorem wp_X11_at_0 {d : Nat} {s : ev_S} {Q : Option ev_V → ev_S → Prop} {a1 a2 : Int}
    (h : (Ev layX M_X10_hasAngel d 0 [(0, ev_r 1), (1, ev_i a1)] [] s (ev_pi (fun r2 s1 => ((r2 ≠ 0 → ((a2 < 0 ∨ 6 < a2 → Q (some (ev_i (-1))) s1) ∧ (a2 = 0 → ((0 ≤ a1 ∧ a1 < (6 : Nat)) ∧ Q (some (ev_i (s1 19 (Int.toNat a1)))) s1)) ∧ (a2 = 1 → ((0 ≤ a1 ∧ a1 < (6 : Nat)) ∧ Q (some (ev_i (s1 5 (Int.toNat a1)))) s1)) ∧ (a2 = 2 → ((0 ≤ a1 ∧ a1 < (6 : Nat)) ∧ Q (some (ev_i (s1 20 (Int.toNat a1)))) s1)) ∧ (a2 = 3 → ((0 ≤ a1 ∧ a1 < (6 : Nat)) ∧ Q (some (ev_i (s1 23 (Int.toNat a1)))) s1)) ∧ (a2 = 4 → ((0 ≤ a1 ∧ a1 < (6 : Nat)) ∧ ((0 ≤ a1 ∧ a1 < (6 : Nat)) ∧ Q (some (ev_i (ev_sub (s1 7 (Int.toNat a1)) (s1 22 (Int.toNat a1))))) s1))) ∧ (a2 = 5 → (Ev layX M_X1_prepare d 0 [(0, ev_r 162)] [] s1 (fun _ s3 => (Ev layX M_X1_worth d 0 [(0, ev_r 162), (1, ev_i a1)] [] s3 (ev_pi (fun r5 s4 => Q (some (ev_i r5)) s4)))))) ∧ (a2 = 6 → (Ev layX M_X3_bestWait d 0 [(0, ev_r 146), (1, ev_i a1)] [] s1 (ev_pi (fun r7 s6 => Q (some (ev_i r7)) s6)))))) ∧ (r2 = 0 → Q (some (ev_i (-1))) s1)))))) :
    Ev layX M_X11_at (d + 1) 0 [(0, ev_r 0), (1, ev_i a1), (2, ev_i a2)] [] s Q := by
  refine Ev_aload_n 0 dX11_at_0 rfl rfl ?_
  refine Ev_getR (i := 0) cl_X11 yX_0 (Nat.le_of_ble_eq_true rfl) rfl wd_700 dX11_at_1 ?_
  refine Ev_iload_n 1 dX11_at_4 rfl rfl ?_
  refine Ev_callV (As := [ev_i a1]) (b := 1) (st := []) (M' := M_X10_hasAngel) cm_X10_hasAngel wd_751 wd_752 wd_753 yX_1 cl_X10 rfl dX11_at_5 (Nat.le_refl _) rfl (Nat.le_of_ble_eq_true rfl) (Nat.le_of_ble_eq_true rfl) h (fun v u h hk => ?_)
  obtain ⟨r2, rfl⟩ := hk
  obtain ⟨s1, rfl⟩ : ∃ x, x = u := ⟨_, rfl⟩
  replace h := h r2 rfl
  refine Ev_if_ne (tgt := 13) dX11_at_8 rfl (fun c => ?_) (fun c => ?_)
  · replace h := h.1 c
    refine Ev_iload_n 2 dX11_at_13 rfl rfl ?_
    by_cases g : a2 < 0 ∨ 6 < a2
    · replace h := h.1 g
      refine Ev_tabOut (tgt := 141) dX11_at_14 g rfl ?_
      refine Ev_iconst dX11_at_141 rfl (ev_Rc rfl) ?_
      exact Ev_iret rfl dX11_at_142 rfl h
    · replace h := h.2
      rcases (show a2 = 0 ∨ a2 = 1 ∨ a2 = 2 ∨ a2 = 3 ∨ a2 = 4 ∨ a2 = 5 ∨ a2 = 6 by omega) with g | g | g | g | g | g | g
      · replace h := h.1 g
        refine Ev_tabIn (tgt := 56) (off := 42) dX11_at_14 (by omega) (by omega) (by rw [g]; rfl) rfl ?_
        refine Ev_aload_n 0 dX11_at_56 rfl rfl ?_
        refine Ev_getR (i := 1) cl_X11 yX_0 (Nat.le_of_ble_eq_true rfl) rfl wd_701 dX11_at_57 ?_
        refine Ev_getR (i := 5) cl_X2 yX_15 (Nat.le_of_ble_eq_true rfl) rfl wd_357 dX11_at_60 ?_
        refine Ev_iload_n 1 dX11_at_63 rfl rfl ?_
        obtain ⟨h0, h⟩ := h
        refine Ev_iald yX_19 h0 dX11_at_64 ?_
        exact Ev_iret rfl dX11_at_65 rfl h
      · replace h := h.2.1 g
        refine Ev_tabIn (tgt := 66) (off := 52) dX11_at_14 (by omega) (by omega) (by rw [g]; rfl) rfl ?_
        refine Ev_aload_n 0 dX11_at_66 rfl rfl ?_
        refine Ev_getR (i := 0) cl_X11 yX_0 (Nat.le_of_ble_eq_true rfl) rfl wd_700 dX11_at_67 ?_
        refine Ev_getR (i := 8) cl_X10 yX_1 (Nat.le_of_ble_eq_true rfl) rfl wd_270 dX11_at_70 ?_
        refine Ev_iload_n 1 dX11_at_73 rfl rfl ?_
        obtain ⟨h0, h⟩ := h
        refine Ev_iald yX_5 h0 dX11_at_74 ?_
        exact Ev_iret rfl dX11_at_75 rfl h
      · replace h := h.2.2.1 g
        refine Ev_tabIn (tgt := 76) (off := 62) dX11_at_14 (by omega) (by omega) (by rw [g]; rfl) rfl ?_
        refine Ev_aload_n 0 dX11_at_76 rfl rfl ?_
        refine Ev_getR (i := 1) cl_X11 yX_0 (Nat.le_of_ble_eq_true rfl) rfl wd_701 dX11_at_77 ?_
        refine Ev_getR (i := 6) cl_X2 yX_15 (Nat.le_of_ble_eq_true rfl) rfl wd_361 dX11_at_80 ?_
        refine Ev_iload_n 1 dX11_at_83 rfl rfl ?_
        obtain ⟨h0, h⟩ := h
        refine Ev_iald yX_20 h0 dX11_at_84 ?_
        exact Ev_iret rfl dX11_at_85 rfl h
      · replace h := h.2.2.2.1 g
        refine Ev_tabIn (tgt := 86) (off := 72) dX11_at_14 (by omega) (by omega) (by rw [g]; rfl) rfl ?_
        refine Ev_aload_n 0 dX11_at_86 rfl rfl ?_
        refine Ev_getR (i := 1) cl_X11 yX_0 (Nat.le_of_ble_eq_true rfl) rfl wd_701 dX11_at_87 ?_
        refine Ev_getR (i := 9) cl_X2 yX_15 (Nat.le_of_ble_eq_true rfl) rfl wd_370 dX11_at_90 ?_
        refine Ev_iload_n 1 dX11_at_93 rfl rfl ?_
        obtain ⟨h0, h⟩ := h
        refine Ev_iald yX_23 h0 dX11_at_94 ?_
        exact Ev_iret rfl dX11_at_95 rfl h
      · replace h := h.2.2.2.2.1 g
        refine Ev_tabIn (tgt := 96) (off := 82) dX11_at_14 (by omega) (by omega) (by rw [g]; rfl) rfl ?_
        refine Ev_aload_n 0 dX11_at_96 rfl rfl ?_
        refine Ev_getR (i := 0) cl_X11 yX_0 (Nat.le_of_ble_eq_true rfl) rfl wd_700 dX11_at_97 ?_
        refine Ev_getR (i := 10) cl_X10 yX_1 (Nat.le_of_ble_eq_true rfl) rfl wd_278 dX11_at_100 ?_
        refine Ev_iload_n 1 dX11_at_103 rfl rfl ?_
        obtain ⟨h0, h⟩ := h
        refine Ev_iald yX_7 h0 dX11_at_104 ?_
        refine Ev_aload_n 0 dX11_at_105 rfl rfl ?_
        refine Ev_getR (i := 1) cl_X11 yX_0 (Nat.le_of_ble_eq_true rfl) rfl wd_701 dX11_at_106 ?_
        refine Ev_getR (i := 8) cl_X2 yX_15 (Nat.le_of_ble_eq_true rfl) rfl wd_367 dX11_at_109 ?_
        refine Ev_iload_n 1 dX11_at_112 rfl rfl ?_
        obtain ⟨h0, h⟩ := h
        refine Ev_iald yX_22 h0 dX11_at_113 ?_
        refine Ev_isub dX11_at_114 ?_
        exact Ev_iret rfl dX11_at_115 rfl h
      · replace h := h.2.2.2.2.2.1 g
        refine Ev_tabIn (tgt := 116) (off := 102) dX11_at_14 (by omega) (by omega) (by rw [g]; rfl) rfl ?_
        refine Ev_aload_n 0 dX11_at_116 rfl rfl ?_
        refine Ev_getR (i := 9) cl_X11 yX_0 (Nat.le_of_ble_eq_true rfl) rfl wd_709 dX11_at_117 ?_
        refine Ev_callV (As := []) (b := 162) (st := []) (M' := M_X1_prepare) cm_X1_prepare wd_1148 wd_1149 wd_1150 yX_162 cl_X1 rfl dX11_at_120 (Nat.le_refl _) rfl (Nat.le_of_ble_eq_true rfl) (Nat.le_of_ble_eq_true rfl) h (fun v u h hk => ?_)
        cases hk
        obtain ⟨s3, rfl⟩ : ∃ x, x = u := ⟨_, rfl⟩
        refine Ev_aload_n 0 dX11_at_123 rfl rfl ?_
        refine Ev_getR (i := 9) cl_X11 yX_0 (Nat.le_of_ble_eq_true rfl) rfl wd_709 dX11_at_124 ?_
        refine Ev_iload_n 1 dX11_at_127 rfl rfl ?_
        refine Ev_callV (As := [ev_i a1]) (b := 162) (st := []) (M' := M_X1_worth) cm_X1_worth wd_1226 wd_1227 wd_1228 yX_162 cl_X1 rfl dX11_at_128 (Nat.le_refl _) rfl (Nat.le_of_ble_eq_true rfl) (Nat.le_of_ble_eq_true rfl) h (fun v u h hk => ?_)
        obtain ⟨r5, rfl⟩ := hk
        obtain ⟨s4, rfl⟩ : ∃ x, x = u := ⟨_, rfl⟩
        replace h := h r5 rfl
        exact Ev_iret rfl dX11_at_131 rfl h
      · replace h := h.2.2.2.2.2.2 g
        refine Ev_tabIn (tgt := 132) (off := 118) dX11_at_14 (by omega) (by omega) (by rw [g]; rfl) rfl ?_
        refine Ev_aload_n 0 dX11_at_132 rfl rfl ?_
        refine Ev_getR (i := 8) cl_X11 yX_0 (Nat.le_of_ble_eq_true rfl) rfl wd_708 dX11_at_133 ?_
        refine Ev_iload_n 1 dX11_at_136 rfl rfl ?_
        refine Ev_callV (As := [ev_i a1]) (b := 146) (st := []) (M' := M_X3_bestWait) cm_X3_bestWait wd_1254 wd_1255 wd_1256 yX_146 cl_X3 rfl dX11_at_137 (Nat.le_refl _) rfl (Nat.le_of_ble_eq_true rfl) (Nat.le_of_ble_eq_true rfl) h (fun v u h hk => ?_)
        obtain ⟨r7, rfl⟩ := hk
        obtain ⟨s6, rfl⟩ : ∃ x, x = u := ⟨_, rfl⟩
        replace h := h r7 rfl
        exact Ev_iret rfl dX11_at_140 rfl h
  · replace h := h.2 c
    refine Ev_iconst dX11_at_11 rfl (ev_Rc rfl) ?_
    exact Ev_iret rfl dX11_at_12 rfl h
theorem dX11_mishap_0 : decode cX11_mishap 0 = .ok (.aload_n 0, 1) := by decide +kernel
theorem dX11_mishap_1 : decode cX11_mishap 1 = .ok (.getfield 12, 3) := by decide +kernel
theorem dX11_mishap_4 : decode cX11_mishap 4 = .ok (.iload_n 1, 1) := by decide +kernel
theorem dX11_mishap_5 : decode cX11_mishap 5 = .ok (.invokevirtual 219, 3) := by decide +kernel
theorem dX11_mishap_8 : decode cX11_mishap 8 = .ok (.ifCond .ne 6, 3) := by decide +kernel
theorem dX11_mishap_11 : decode cX11_mishap 11 = .ok (.bipush (-2), 2) := by decide +kernel
theorem dX11_mishap_13 : decode cX11_mishap 13 = .ok (.ireturn, 1) := by decide +kernel
theorem dX11_mishap_14 : decode cX11_mishap 14 = .ok (.iload_n 2, 1) := by decide +kernel
theorem dX11_mishap_15 : decode cX11_mishap 15 = .ok (.ifCond .lt 24, 3) := by decide +kernel
theorem dX11_mishap_18 : decode cX11_mishap 18 = .ok (.iload_n 2, 1) := by decide +kernel
theorem dX11_mishap_19 : decode cX11_mishap 19 = .ok (.bipush 7, 2) := by decide +kernel
theorem dX11_mishap_21 : decode cX11_mishap 21 = .ok (.if_icmp .ge 18, 3) := by decide +kernel
theorem dX11_mishap_24 : decode cX11_mishap 24 = .ok (.aload_n 0, 1) := by decide +kernel
theorem dX11_mishap_25 : decode cX11_mishap 25 = .ok (.getfield 12, 3) := by decide +kernel
theorem dX11_mishap_28 : decode cX11_mishap 28 = .ok (.getfield 222, 3) := by decide +kernel
theorem dX11_mishap_31 : decode cX11_mishap 31 = .ok (.iload_n 1, 1) := by decide +kernel
theorem dX11_mishap_32 : decode cX11_mishap 32 = .ok (.bipush 7, 2) := by decide +kernel
theorem dX11_mishap_34 : decode cX11_mishap 34 = .ok (.imul, 1) := by decide +kernel
theorem dX11_mishap_35 : decode cX11_mishap 35 = .ok (.iload_n 2, 1) := by decide +kernel
theorem dX11_mishap_36 : decode cX11_mishap 36 = .ok (.iadd, 1) := by decide +kernel
theorem dX11_mishap_37 : decode cX11_mishap 37 = .ok (.iaload, 1) := by decide +kernel
theorem dX11_mishap_38 : decode cX11_mishap 38 = .ok (.ireturn, 1) := by decide +kernel
theorem dX11_mishap_39 : decode cX11_mishap 39 = .ok (.iload_n 2, 1) := by decide +kernel
theorem dX11_mishap_40 : decode cX11_mishap 40 = .ok (.tableswitch 94 7 10 #[32, 42, 75, 85], 32) := by decide +kernel
theorem dX11_mishap_72 : decode cX11_mishap 72 = .ok (.aload_n 0, 1) := by decide +kernel
theorem dX11_mishap_73 : decode cX11_mishap 73 = .ok (.getfield 19, 3) := by decide +kernel
theorem dX11_mishap_76 : decode cX11_mishap 76 = .ok (.getfield 225, 3) := by decide +kernel
theorem dX11_mishap_79 : decode cX11_mishap 79 = .ok (.iload_n 1, 1) := by decide +kernel
theorem dX11_mishap_80 : decode cX11_mishap 80 = .ok (.iaload, 1) := by decide +kernel
theorem dX11_mishap_81 : decode cX11_mishap 81 = .ok (.ireturn, 1) := by decide +kernel
theorem dX11_mishap_82 : decode cX11_mishap 82 = .ok (.aload_n 0, 1) := by decide +kernel
theorem dX11_mishap_83 : decode cX11_mishap 83 = .ok (.getfield 19, 3) := by decide +kernel
theorem dX11_mishap_86 : decode cX11_mishap 86 = .ok (.getfield 225, 3) := by decide +kernel
theorem dX11_mishap_89 : decode cX11_mishap 89 = .ok (.iload_n 1, 1) := by decide +kernel
theorem dX11_mishap_90 : decode cX11_mishap 90 = .ok (.iaload, 1) := by decide +kernel
theorem dX11_mishap_91 : decode cX11_mishap 91 = .ok (.ifCond .ne 14, 3) := by decide +kernel
theorem dX11_mishap_94 : decode cX11_mishap 94 = .ok (.aload_n 0, 1) := by decide +kernel
theorem dX11_mishap_95 : decode cX11_mishap 95 = .ok (.getfield 74, 3) := by decide +kernel
theorem dX11_mishap_98 : decode cX11_mishap 98 = .ok (.iload_n 1, 1) := by decide +kernel
theorem dX11_mishap_99 : decode cX11_mishap 99 = .ok (.invokevirtual 228, 3) := by decide +kernel
theorem dX11_mishap_102 : decode cX11_mishap 102 = .ok (.goto 12, 3) := by decide +kernel
theorem dX11_mishap_105 : decode cX11_mishap 105 = .ok (.aload_n 0, 1) := by decide +kernel
theorem dX11_mishap_106 : decode cX11_mishap 106 = .ok (.getfield 19, 3) := by decide +kernel
theorem dX11_mishap_109 : decode cX11_mishap 109 = .ok (.getfield 231, 3) := by decide +kernel
theorem dX11_mishap_112 : decode cX11_mishap 112 = .ok (.iload_n 1, 1) := by decide +kernel
theorem dX11_mishap_113 : decode cX11_mishap 113 = .ok (.iaload, 1) := by decide +kernel
theorem dX11_mishap_114 : decode cX11_mishap 114 = .ok (.ireturn, 1) := by decide +kernel
theorem dX11_mishap_115 : decode cX11_mishap 115 = .ok (.aload_n 0, 1) := by decide +kernel
theorem dX11_mishap_116 : decode cX11_mishap 116 = .ok (.getfield 19, 3) := by decide +kernel
theorem dX11_mishap_119 : decode cX11_mishap 119 = .ok (.getfield 234, 3) := by decide +kernel
theorem dX11_mishap_122 : decode cX11_mishap 122 = .ok (.iload_n 1, 1) := by decide +kernel
theorem dX11_mishap_123 : decode cX11_mishap 123 = .ok (.iaload, 1) := by decide +kernel
theorem dX11_mishap_124 : decode cX11_mishap 124 = .ok (.ireturn, 1) := by decide +kernel
theorem dX11_mishap_125 : decode cX11_mishap 125 = .ok (.aload_n 0, 1) := by decide +kernel
theorem dX11_mishap_126 : decode cX11_mishap 126 = .ok (.getfield 74, 3) := by decide +kernel
theorem dX11_mishap_129 : decode cX11_mishap 129 = .ok (.iload_n 1, 1) := by decide +kernel
theorem dX11_mishap_130 : decode cX11_mishap 130 = .ok (.invokevirtual 237, 3) := by decide +kernel
theorem dX11_mishap_133 : decode cX11_mishap 133 = .ok (.ireturn, 1) := by decide +kernel
theorem dX11_mishap_134 : decode cX11_mishap 134 = .ok (.bipush (-2), 2) := by decide +kernel
theorem dX11_mishap_136 : decode cX11_mishap 136 = .ok (.ireturn, 1) := by decide +kernel
theorem wp_X11_mishap_0 {d : Nat} {s : ev_S} {Q : Option ev_V → ev_S → Prop} {a1 a2 : Int}
    (h : (Ev layX M_X10_hasMishap d 0 [(0, ev_r 1), (1, ev_i a1)] [] s (ev_pi (fun r2 s1 => ((r2 ≠ 0 → ((a2 < 0 → Ev layX M_X11_mishap (d + 1) 39 [(0, ev_r 0), (1, ev_i a1), (2, ev_i a2)] [] s1 Q) ∧ (0 ≤ a2 → ((7 ≤ a2 → Ev layX M_X11_mishap (d + 1) 39 [(0, ev_r 0), (1, ev_i a1), (2, ev_i a2)] [] s1 Q) ∧ (a2 < 7 → ((0 ≤ (ev_add (ev_mul a1 7) a2) ∧ (ev_add (ev_mul a1 7) a2) < (70 : Nat)) ∧ Q (some (ev_i (s1 9 (Int.toNat (ev_add (ev_mul a1 7) a2))))) s1)))))) ∧ (r2 = 0 → Q (some (ev_i (-2))) s1)))))) :
    Ev layX M_X11_mishap (d + 1) 0 [(0, ev_r 0), (1, ev_i a1), (2, ev_i a2)] [] s Q := by
  refine Ev_aload_n 0 dX11_mishap_0 rfl rfl ?_
  refine Ev_getR (i := 0) cl_X11 yX_0 (Nat.le_of_ble_eq_true rfl) rfl wd_700 dX11_mishap_1 ?_
  refine Ev_iload_n 1 dX11_mishap_4 rfl rfl ?_
  refine Ev_callV (As := [ev_i a1]) (b := 1) (st := []) (M' := M_X10_hasMishap) cm_X10_hasMishap wd_1272 wd_1273 wd_1274 yX_1 cl_X10 rfl dX11_mishap_5 (Nat.le_refl _) rfl (Nat.le_of_ble_eq_true rfl) (Nat.le_of_ble_eq_true rfl) h (fun v u h hk => ?_)
  obtain ⟨r2, rfl⟩ := hk
  obtain ⟨s1, rfl⟩ : ∃ x, x = u := ⟨_, rfl⟩
  replace h := h r2 rfl
  refine Ev_if_ne (tgt := 14) dX11_mishap_8 rfl (fun c => ?_) (fun c => ?_)
  · replace h := h.1 c
    refine Ev_iload_n 2 dX11_mishap_14 rfl rfl ?_
    refine Ev_if_lt (tgt := 39) dX11_mishap_15 rfl (fun c => ?_) (fun c => ?_)
    · replace h := h.1 c
      exact Ev_sub [0, 1, 2] rfl h
    · replace h := h.2 c
      refine Ev_iload_n 2 dX11_mishap_18 rfl rfl ?_
      refine Ev_bipushC dX11_mishap_19 rfl ?_
      refine Ev_icmp_ge (tgt := 39) dX11_mishap_21 rfl (fun c => ?_) (fun c => ?_)
      · replace h := h.1 c
        exact Ev_sub [0, 1, 2] rfl h
      · replace h := h.2 c
        refine Ev_aload_n 0 dX11_mishap_24 rfl rfl ?_
        refine Ev_getR (i := 0) cl_X11 yX_0 (Nat.le_of_ble_eq_true rfl) rfl wd_700 dX11_mishap_25 ?_
        refine Ev_getR (i := 14) cl_X10 yX_1 (Nat.le_of_ble_eq_true rfl) rfl wd_293 dX11_mishap_28 ?_
        refine Ev_iload_n 1 dX11_mishap_31 rfl rfl ?_
        refine Ev_bipushC dX11_mishap_32 rfl ?_
        refine Ev_imul dX11_mishap_34 ?_
        refine Ev_iload_n 2 dX11_mishap_35 rfl rfl ?_
        refine Ev_iadd dX11_mishap_36 ?_
        obtain ⟨h0, h⟩ := h
        refine Ev_iald yX_9 h0 dX11_mishap_37 ?_
        exact Ev_iret rfl dX11_mishap_38 rfl h
  · replace h := h.2 c
    refine Ev_bipushC dX11_mishap_11 rfl ?_
    exact Ev_iret rfl dX11_mishap_13 rfl h
theorem wp_X11_mishap_39 {d : Nat} {s : ev_S} {Q : Option ev_V → ev_S → Prop} {a1 a2 : Int}
    (h : ((a2 < 7 ∨ 10 < a2 → Q (some (ev_i (-2))) s) ∧ (a2 = 7 → ((0 ≤ a1 ∧ a1 < (10 : Nat)) ∧ Q (some (ev_i (s 24 (Int.toNat a1)))) s)) ∧ (a2 = 8 → ((0 ≤ a1 ∧ a1 < (10 : Nat)) ∧ (((s 24 (Int.toNat a1)) ≠ 0 → ((0 ≤ a1 ∧ a1 < (10 : Nat)) ∧ Q (some (ev_i (s 25 (Int.toNat a1)))) s)) ∧ ((s 24 (Int.toNat a1)) = 0 → (Ev layX M_X3_comesIn d 0 [(0, ev_r 146), (1, ev_i a1)] [] s (ev_pi (fun r2 s1 => Q (some (ev_i r2)) s1))))))) ∧ (a2 = 9 → ((0 ≤ a1 ∧ a1 < (10 : Nat)) ∧ Q (some (ev_i (s 26 (Int.toNat a1)))) s)) ∧ (a2 = 10 → (Ev layX M_X3_whoCould d 0 [(0, ev_r 146), (1, ev_i a1)] [] s (ev_pi (fun r4 s3 => Q (some (ev_i r4)) s3)))))) :
    Ev layX M_X11_mishap (d + 1) 39 [(0, ev_r 0), (1, ev_i a1), (2, ev_i a2)] [] s Q := by
  refine Ev_iload_n 2 dX11_mishap_39 rfl rfl ?_
  by_cases g : a2 < 7 ∨ 10 < a2
  · replace h := h.1 g
    refine Ev_tabOut (tgt := 134) dX11_mishap_40 g rfl ?_
    refine Ev_bipushC dX11_mishap_134 rfl ?_
    exact Ev_iret rfl dX11_mishap_136 rfl h
  · replace h := h.2
    rcases (show a2 = 7 ∨ a2 = 8 ∨ a2 = 9 ∨ a2 = 10 by omega) with g | g | g | g
    · replace h := h.1 g
      refine Ev_tabIn (tgt := 72) (off := 32) dX11_mishap_40 (by omega) (by omega) (by rw [g]; rfl) rfl ?_
      refine Ev_aload_n 0 dX11_mishap_72 rfl rfl ?_
      refine Ev_getR (i := 1) cl_X11 yX_0 (Nat.le_of_ble_eq_true rfl) rfl wd_701 dX11_mishap_73 ?_
      refine Ev_getR (i := 10) cl_X2 yX_15 (Nat.le_of_ble_eq_true rfl) rfl wd_374 dX11_mishap_76 ?_
      refine Ev_iload_n 1 dX11_mishap_79 rfl rfl ?_
      obtain ⟨h0, h⟩ := h
      refine Ev_iald yX_24 h0 dX11_mishap_80 ?_
      exact Ev_iret rfl dX11_mishap_81 rfl h
    · replace h := h.2.1 g
      refine Ev_tabIn (tgt := 82) (off := 42) dX11_mishap_40 (by omega) (by omega) (by rw [g]; rfl) rfl ?_
      refine Ev_aload_n 0 dX11_mishap_82 rfl rfl ?_
      refine Ev_getR (i := 1) cl_X11 yX_0 (Nat.le_of_ble_eq_true rfl) rfl wd_701 dX11_mishap_83 ?_
      refine Ev_getR (i := 10) cl_X2 yX_15 (Nat.le_of_ble_eq_true rfl) rfl wd_374 dX11_mishap_86 ?_
      refine Ev_iload_n 1 dX11_mishap_89 rfl rfl ?_
      obtain ⟨h0, h⟩ := h
      refine Ev_iald yX_24 h0 dX11_mishap_90 ?_
      refine Ev_if_ne (tgt := 105) dX11_mishap_91 rfl (fun c => ?_) (fun c => ?_)
      · replace h := h.1 c
        refine Ev_aload_n 0 dX11_mishap_105 rfl rfl ?_
        refine Ev_getR (i := 1) cl_X11 yX_0 (Nat.le_of_ble_eq_true rfl) rfl wd_701 dX11_mishap_106 ?_
        refine Ev_getR (i := 11) cl_X2 yX_15 (Nat.le_of_ble_eq_true rfl) rfl wd_377 dX11_mishap_109 ?_
        refine Ev_iload_n 1 dX11_mishap_112 rfl rfl ?_
        obtain ⟨h0, h⟩ := h
        refine Ev_iald yX_25 h0 dX11_mishap_113 ?_
        exact Ev_iret rfl dX11_mishap_114 rfl h
      · replace h := h.2 c
        refine Ev_aload_n 0 dX11_mishap_94 rfl rfl ?_
        refine Ev_getR (i := 8) cl_X11 yX_0 (Nat.le_of_ble_eq_true rfl) rfl wd_708 dX11_mishap_95 ?_
        refine Ev_iload_n 1 dX11_mishap_98 rfl rfl ?_
        refine Ev_callV (As := [ev_i a1]) (b := 146) (st := []) (M' := M_X3_comesIn) cm_X3_comesIn wd_1276 wd_1157 wd_1158 yX_146 cl_X3 rfl dX11_mishap_99 (Nat.le_refl _) rfl (Nat.le_of_ble_eq_true rfl) (Nat.le_of_ble_eq_true rfl) h (fun v u h hk => ?_)
        obtain ⟨r2, rfl⟩ := hk
        obtain ⟨s1, rfl⟩ : ∃ x, x = u := ⟨_, rfl⟩
        replace h := h r2 rfl
        refine Ev_goto (tgt := 114) dX11_mishap_102 rfl ?_
        exact Ev_iret rfl dX11_mishap_114 rfl h
    · replace h := h.2.2.1 g
      refine Ev_tabIn (tgt := 115) (off := 75) dX11_mishap_40 (by omega) (by omega) (by rw [g]; rfl) rfl ?_
      refine Ev_aload_n 0 dX11_mishap_115 rfl rfl ?_
      refine Ev_getR (i := 1) cl_X11 yX_0 (Nat.le_of_ble_eq_true rfl) rfl wd_701 dX11_mishap_116 ?_
      refine Ev_getR (i := 12) cl_X2 yX_15 (Nat.le_of_ble_eq_true rfl) rfl wd_380 dX11_mishap_119 ?_
      refine Ev_iload_n 1 dX11_mishap_122 rfl rfl ?_
      obtain ⟨h0, h⟩ := h
      refine Ev_iald yX_26 h0 dX11_mishap_123 ?_
      exact Ev_iret rfl dX11_mishap_124 rfl h
    · replace h := h.2.2.2 g
      refine Ev_tabIn (tgt := 125) (off := 85) dX11_mishap_40 (by omega) (by omega) (by rw [g]; rfl) rfl ?_
      refine Ev_aload_n 0 dX11_mishap_125 rfl rfl ?_
      refine Ev_getR (i := 8) cl_X11 yX_0 (Nat.le_of_ble_eq_true rfl) rfl wd_708 dX11_mishap_126 ?_
      refine Ev_iload_n 1 dX11_mishap_129 rfl rfl ?_
      refine Ev_callV (As := [ev_i a1]) (b := 146) (st := []) (M' := M_X3_whoCould) cm_X3_whoCould wd_1277 wd_1278 wd_1279 yX_146 cl_X3 rfl dX11_mishap_130 (Nat.le_refl _) rfl (Nat.le_of_ble_eq_true rfl) (Nat.le_of_ble_eq_true rfl) h (fun v u h hk => ?_)
      obtain ⟨r4, rfl⟩ := hk
      obtain ⟨s3, rfl⟩ : ∃ x, x = u := ⟨_, rfl⟩
      replace h := h r4 rfl
      exact Ev_iret rfl dX11_mishap_133 rfl h
theorem dX11_book_0 : decode cX11_book 0 = .ok (.iload_n 1, 1) := by decide +kernel
theorem dX11_book_1 : decode cX11_book 1 = .ok (.ifCond .lt 14, 3) := by decide +kernel
theorem dX11_book_4 : decode cX11_book 4 = .ok (.iload_n 1, 1) := by decide +kernel
theorem dX11_book_5 : decode cX11_book 5 = .ok (.aload_n 0, 1) := by decide +kernel
theorem dX11_book_6 : decode cX11_book 6 = .ok (.getfield 19, 3) := by decide +kernel
theorem dX11_book_9 : decode cX11_book 9 = .ok (.getfield 240, 3) := by decide +kernel
theorem dX11_book_12 : decode cX11_book 12 = .ok (.if_icmp .lt 5, 3) := by decide +kernel
theorem dX11_book_15 : decode cX11_book 15 = .ok (.iconst (-1), 1) := by decide +kernel
theorem dX11_book_16 : decode cX11_book 16 = .ok (.ireturn, 1) := by decide +kernel
theorem dX11_book_17 : decode cX11_book 17 = .ok (.iload_n 2, 1) := by decide +kernel
theorem dX11_book_18 : decode cX11_book 18 = .ok (.ifCond .lt 22, 3) := by decide +kernel
theorem dX11_book_21 : decode cX11_book 21 = .ok (.iload_n 2, 1) := by decide +kernel
theorem dX11_book_22 : decode cX11_book 22 = .ok (.iconst 5, 1) := by decide +kernel
theorem dX11_book_23 : decode cX11_book 23 = .ok (.if_icmp .ge 17, 3) := by decide +kernel
theorem dX11_book_26 : decode cX11_book 26 = .ok (.aload_n 0, 1) := by decide +kernel
theorem dX11_book_27 : decode cX11_book 27 = .ok (.getfield 26, 3) := by decide +kernel
theorem dX11_book_30 : decode cX11_book 30 = .ok (.getfield 243, 3) := by decide +kernel
theorem dX11_book_33 : decode cX11_book 33 = .ok (.iload_n 1, 1) := by decide +kernel
theorem dX11_book_34 : decode cX11_book 34 = .ok (.iconst 5, 1) := by decide +kernel
theorem dX11_book_35 : decode cX11_book 35 = .ok (.imul, 1) := by decide +kernel
theorem dX11_book_36 : decode cX11_book 36 = .ok (.iload_n 2, 1) := by decide +kernel
theorem dX11_book_37 : decode cX11_book 37 = .ok (.iadd, 1) := by decide +kernel
theorem dX11_book_38 : decode cX11_book 38 = .ok (.iaload, 1) := by decide +kernel
theorem dX11_book_39 : decode cX11_book 39 = .ok (.ireturn, 1) := by decide +kernel
theorem dX11_book_40 : decode cX11_book 40 = .ok (.iload_n 2, 1) := by decide +kernel
theorem dX11_book_41 : decode cX11_book 41 = .ok (.iconst 5, 1) := by decide +kernel
theorem dX11_book_42 : decode cX11_book 42 = .ok (.if_icmp .ne 11, 3) := by decide +kernel
theorem dX11_book_45 : decode cX11_book 45 = .ok (.aload_n 0, 1) := by decide +kernel
theorem dX11_book_46 : decode cX11_book 46 = .ok (.iload_n 1, 1) := by decide +kernel
theorem dX11_book_47 : decode cX11_book 47 = .ok (.invokevirtual 246, 3) := by decide +kernel
theorem dX11_book_50 : decode cX11_book 50 = .ok (.goto 4, 3) := by decide +kernel
theorem dX11_book_53 : decode cX11_book 53 = .ok (.iconst (-1), 1) := by decide +kernel
theorem dX11_book_54 : decode cX11_book 54 = .ok (.ireturn, 1) := by decide +kernel
theorem wp_X11_book_0 {d : Nat} {s : ev_S} {Q : Option ev_V → ev_S → Prop} {a1 a2 : Int}
    (h : ((a1 < 0 → Q (some (ev_i (-1))) s) ∧ (0 ≤ a1 → ((a1 < (s 15 13) → ((a2 < 0 → Ev layX M_X11_book (d + 1) 40 [(0, ev_r 0), (1, ev_i a1), (2, ev_i a2)] [] s Q) ∧ (0 ≤ a2 → ((5 ≤ a2 → Ev layX M_X11_book (d + 1) 40 [(0, ev_r 0), (1, ev_i a1), (2, ev_i a2)] [] s Q) ∧ (a2 < 5 → ((0 ≤ (ev_add (ev_mul a1 5) a2) ∧ (ev_add (ev_mul a1 5) a2) < (500 : Nat)) ∧ Q (some (ev_i (s 28 (Int.toNat (ev_add (ev_mul a1 5) a2))))) s)))))) ∧ ((s 15 13) ≤ a1 → Q (some (ev_i (-1))) s))))) :
    Ev layX M_X11_book (d + 1) 0 [(0, ev_r 0), (1, ev_i a1), (2, ev_i a2)] [] s Q := by
  refine Ev_iload_n 1 dX11_book_0 rfl rfl ?_
  refine Ev_if_lt (tgt := 15) dX11_book_1 rfl (fun c => ?_) (fun c => ?_)
  · replace h := h.1 c
    refine Ev_iconst dX11_book_15 rfl (ev_Rc rfl) ?_
    exact Ev_iret rfl dX11_book_16 rfl h
  · replace h := h.2 c
    refine Ev_iload_n 1 dX11_book_4 rfl rfl ?_
    refine Ev_aload_n 0 dX11_book_5 rfl rfl ?_
    refine Ev_getR (i := 1) cl_X11 yX_0 (Nat.le_of_ble_eq_true rfl) rfl wd_701 dX11_book_6 ?_
    refine Ev_get (i := 13) cl_X2 yX_15 (Nat.le_of_ble_eq_true rfl) rfl wd_383 dX11_book_9 ?_
    refine Ev_icmp_lt (tgt := 17) dX11_book_12 rfl (fun c => ?_) (fun c => ?_)
    · replace h := h.1 c
      refine Ev_iload_n 2 dX11_book_17 rfl rfl ?_
      refine Ev_if_lt (tgt := 40) dX11_book_18 rfl (fun c => ?_) (fun c => ?_)
      · replace h := h.1 c
        exact Ev_sub [0, 1, 2] rfl h
      · replace h := h.2 c
        refine Ev_iload_n 2 dX11_book_21 rfl rfl ?_
        refine Ev_iconst dX11_book_22 rfl (ev_Rc rfl) ?_
        refine Ev_icmp_ge (tgt := 40) dX11_book_23 rfl (fun c => ?_) (fun c => ?_)
        · replace h := h.1 c
          exact Ev_sub [0, 1, 2] rfl h
        · replace h := h.2 c
          refine Ev_aload_n 0 dX11_book_26 rfl rfl ?_
          refine Ev_getR (i := 2) cl_X11 yX_0 (Nat.le_of_ble_eq_true rfl) rfl wd_702 dX11_book_27 ?_
          refine Ev_getR (i := 0) cl_X0 yX_27 (Nat.le_of_ble_eq_true rfl) rfl wd_420 dX11_book_30 ?_
          refine Ev_iload_n 1 dX11_book_33 rfl rfl ?_
          refine Ev_iconst dX11_book_34 rfl (ev_Rc rfl) ?_
          refine Ev_imul dX11_book_35 ?_
          refine Ev_iload_n 2 dX11_book_36 rfl rfl ?_
          refine Ev_iadd dX11_book_37 ?_
          obtain ⟨h0, h⟩ := h
          refine Ev_iald yX_28 h0 dX11_book_38 ?_
          exact Ev_iret rfl dX11_book_39 rfl h
    · replace h := h.2 c
      refine Ev_iconst dX11_book_15 rfl (ev_Rc rfl) ?_
      exact Ev_iret rfl dX11_book_16 rfl h
theorem wp_X11_book_40 {d : Nat} {s : ev_S} {Q : Option ev_V → ev_S → Prop} {a1 a2 : Int}
    (h : ((a2 ≠ 5 → Q (some (ev_i (-1))) s) ∧ (a2 = 5 → (Ev layX M_X11_avertedByLine d 0 [(0, ev_r 0), (1, ev_i a1)] [] s (ev_pi (fun r2 s1 => Q (some (ev_i r2)) s1)))))) :
    Ev layX M_X11_book (d + 1) 40 [(0, ev_r 0), (1, ev_i a1), (2, ev_i a2)] [] s Q := by
  refine Ev_iload_n 2 dX11_book_40 rfl rfl ?_
  refine Ev_iconst dX11_book_41 rfl (ev_Rc rfl) ?_
  refine Ev_icmp_ne (tgt := 53) dX11_book_42 rfl (fun c => ?_) (fun c => ?_)
  · replace h := h.1 c
    refine Ev_iconst dX11_book_53 rfl (ev_Rc rfl) ?_
    exact Ev_iret rfl dX11_book_54 rfl h
  · replace h := h.2 c
    refine Ev_aload_n 0 dX11_book_45 rfl rfl ?_
    refine Ev_iload_n 1 dX11_book_46 rfl rfl ?_
    refine Ev_callV (As := [ev_i a1]) (b := 0) (st := []) (M' := M_X11_avertedByLine) cm_X11_avertedByLine wd_1285 wd_1287 wd_59 yX_0 cl_X11 rfl dX11_book_47 (Nat.le_refl _) rfl (Nat.le_of_ble_eq_true rfl) (Nat.le_of_ble_eq_true rfl) h (fun v u h hk => ?_)
    obtain ⟨r2, rfl⟩ := hk
    obtain ⟨s1, rfl⟩ : ∃ x, x = u := ⟨_, rfl⟩
    replace h := h r2 rfl
    refine Ev_goto (tgt := 54) dX11_book_50 rfl ?_
    exact Ev_iret rfl dX11_book_54 rfl h
theorem dX11_planned_0 : decode cX11_planned 0 = .ok (.iload_n 1, 1) := by decide +kernel
theorem dX11_planned_1 : decode cX11_planned 1 = .ok (.ifCond .eq 10, 3) := by decide +kernel
theorem dX11_planned_4 : decode cX11_planned 4 = .ok (.iload_n 1, 1) := by decide +kernel
theorem dX11_planned_5 : decode cX11_planned 5 = .ok (.iconst 1, 1) := by decide +kernel
theorem dX11_planned_6 : decode cX11_planned 6 = .ok (.if_icmp .eq 5, 3) := by decide +kernel
theorem dX11_planned_9 : decode cX11_planned 9 = .ok (.iconst (-1), 1) := by decide +kernel
theorem dX11_planned_10 : decode cX11_planned 10 = .ok (.ireturn, 1) := by decide +kernel
theorem dX11_planned_11 : decode cX11_planned 11 = .ok (.aload_n 0, 1) := by decide +kernel
theorem dX11_planned_12 : decode cX11_planned 12 = .ok (.getfield 74, 3) := by decide +kernel
theorem dX11_planned_15 : decode cX11_planned 15 = .ok (.invokevirtual 249, 3) := by decide +kernel
theorem dX11_planned_18 : decode cX11_planned 18 = .ok (.iload_n 1, 1) := by decide +kernel
theorem dX11_planned_19 : decode cX11_planned 19 = .ok (.ifCond .ne 13, 3) := by decide +kernel
theorem dX11_planned_22 : decode cX11_planned 22 = .ok (.aload_n 0, 1) := by decide +kernel
theorem dX11_planned_23 : decode cX11_planned 23 = .ok (.getfield 74, 3) := by decide +kernel
theorem dX11_planned_26 : decode cX11_planned 26 = .ok (.getfield 252, 3) := by decide +kernel
theorem dX11_planned_29 : decode cX11_planned 29 = .ok (.goto 10, 3) := by decide +kernel
theorem dX11_planned_32 : decode cX11_planned 32 = .ok (.aload_n 0, 1) := by decide +kernel
theorem dX11_planned_33 : decode cX11_planned 33 = .ok (.getfield 74, 3) := by decide +kernel
theorem dX11_planned_36 : decode cX11_planned 36 = .ok (.getfield 255, 3) := by decide +kernel
theorem dX11_planned_39 : decode cX11_planned 39 = .ok (.ireturn, 1) := by decide +kernel
theorem wp_X11_planned_0 {d : Nat} {s : ev_S} {Q : Option ev_V → ev_S → Prop} {a1 : Int}
    (h : ((a1 = 0 → Ev layX M_X11_planned (d + 1) 11 [(0, ev_r 0), (1, ev_i a1)] [] s Q) ∧ (a1 ≠ 0 → ((a1 = 1 → Ev layX M_X11_planned (d + 1) 11 [(0, ev_r 0), (1, ev_i a1)] [] s Q) ∧ (a1 ≠ 1 → Q (some (ev_i (-1))) s))))) :
    Ev layX M_X11_planned (d + 1) 0 [(0, ev_r 0), (1, ev_i a1)] [] s Q := by
  refine Ev_iload_n 1 dX11_planned_0 rfl rfl ?_
  refine Ev_if_eq (tgt := 11) dX11_planned_1 rfl (fun c => ?_) (fun c => ?_)
  · replace h := h.1 c
    exact Ev_sub [0, 1] rfl h
  · replace h := h.2 c
    refine Ev_iload_n 1 dX11_planned_4 rfl rfl ?_
    refine Ev_iconst dX11_planned_5 rfl (ev_Rc rfl) ?_
    refine Ev_icmp_eq (tgt := 11) dX11_planned_6 rfl (fun c => ?_) (fun c => ?_)
    · replace h := h.1 c
      exact Ev_sub [0, 1] rfl h
    · replace h := h.2 c
      refine Ev_iconst dX11_planned_9 rfl (ev_Rc rfl) ?_
      exact Ev_iret rfl dX11_planned_10 rfl h
theorem wp_X11_planned_11 {d : Nat} {s : ev_S} {Q : Option ev_V → ev_S → Prop} {a1 : Int}
    (h : (Ev layX M_X3_plan d 0 [(0, ev_r 146)] [] s (fun _ s1 => ((a1 ≠ 0 → Q (some (ev_i (s1 146 9))) s1) ∧ (a1 = 0 → Q (some (ev_i (s1 146 8))) s1))))) :
    Ev layX M_X11_planned (d + 1) 11 [(0, ev_r 0), (1, ev_i a1)] [] s Q := by
  refine Ev_aload_n 0 dX11_planned_11 rfl rfl ?_
  refine Ev_getR (i := 8) cl_X11 yX_0 (Nat.le_of_ble_eq_true rfl) rfl wd_708 dX11_planned_12 ?_
  refine Ev_callV (As := []) (b := 146) (st := []) (M' := M_X3_plan) cm_X3_plan wd_1293 wd_1294 wd_1295 yX_146 cl_X3 rfl dX11_planned_15 (Nat.le_refl _) rfl (Nat.le_of_ble_eq_true rfl) (Nat.le_of_ble_eq_true rfl) h (fun v u h hk => ?_)
  cases hk
  obtain ⟨s1, rfl⟩ : ∃ x, x = u := ⟨_, rfl⟩
  refine Ev_iload_n 1 dX11_planned_18 rfl rfl ?_
  refine Ev_if_ne (tgt := 32) dX11_planned_19 rfl (fun c => ?_) (fun c => ?_)
  · replace h := h.1 c
    refine Ev_aload_n 0 dX11_planned_32 rfl rfl ?_
    refine Ev_getR (i := 8) cl_X11 yX_0 (Nat.le_of_ble_eq_true rfl) rfl wd_708 dX11_planned_33 ?_
    refine Ev_get (i := 9) cl_X3 yX_146 (Nat.le_of_ble_eq_true rfl) rfl wd_582 dX11_planned_36 ?_
    exact Ev_iret rfl dX11_planned_39 rfl h
  · replace h := h.2 c
    refine Ev_aload_n 0 dX11_planned_22 rfl rfl ?_
    refine Ev_getR (i := 8) cl_X11 yX_0 (Nat.le_of_ble_eq_true rfl) rfl wd_708 dX11_planned_23 ?_
    refine Ev_get (i := 8) cl_X3 yX_146 (Nat.le_of_ble_eq_true rfl) rfl wd_580 dX11_planned_26 ?_
    refine Ev_goto (tgt := 39) dX11_planned_29 rfl ?_
    exact Ev_iret rfl dX11_planned_39 rfl h
theorem dX11_least_0 : decode cX11_least 0 = .ok (.aload_n 0, 1) := by decide +kernel
theorem dX11_least_1 : decode cX11_least 1 = .ok (.getfield 83, 3) := by decide +kernel
theorem dX11_least_4 : decode cX11_least 4 = .ok (.invokevirtual 210, 3) := by decide +kernel
theorem dX11_least_7 : decode cX11_least 7 = .ok (.iload_n 1, 1) := by decide +kernel
theorem dX11_least_8 : decode cX11_least 8 = .ok (.ifCond .ne 11, 3) := by decide +kernel
theorem dX11_least_11 : decode cX11_least 11 = .ok (.aload_n 0, 1) := by decide +kernel
theorem dX11_least_12 : decode cX11_least 12 = .ok (.getfield 83, 3) := by decide +kernel
theorem dX11_least_15 : decode cX11_least 15 = .ok (.invokevirtual 258, 3) := by decide +kernel
theorem dX11_least_18 : decode cX11_least 18 = .ok (.ireturn, 1) := by decide +kernel
theorem dX11_least_19 : decode cX11_least 19 = .ok (.iload_n 1, 1) := by decide +kernel
theorem dX11_least_20 : decode cX11_least 20 = .ok (.iconst 1, 1) := by decide +kernel
theorem dX11_least_21 : decode cX11_least 21 = .ok (.if_icmp .ne 11, 3) := by decide +kernel
theorem dX11_least_24 : decode cX11_least 24 = .ok (.aload_n 0, 1) := by decide +kernel
theorem dX11_least_25 : decode cX11_least 25 = .ok (.getfield 83, 3) := by decide +kernel
theorem dX11_least_28 : decode cX11_least 28 = .ok (.invokevirtual 262, 3) := by decide +kernel
theorem dX11_least_31 : decode cX11_least 31 = .ok (.ireturn, 1) := by decide +kernel
theorem dX11_least_32 : decode cX11_least 32 = .ok (.iload_n 1, 1) := by decide +kernel
theorem dX11_least_33 : decode cX11_least 33 = .ok (.bipush 10, 2) := by decide +kernel
theorem dX11_least_35 : decode cX11_least 35 = .ok (.if_icmp .lt 31, 3) := by decide +kernel
theorem dX11_least_38 : decode cX11_least 38 = .ok (.aload_n 0, 1) := by decide +kernel
theorem dX11_least_39 : decode cX11_least 39 = .ok (.getfield 12, 3) := by decide +kernel
theorem dX11_least_42 : decode cX11_least 42 = .ok (.iload_n 1, 1) := by decide +kernel
theorem dX11_least_43 : decode cX11_least 43 = .ok (.bipush 10, 2) := by decide +kernel
theorem dX11_least_45 : decode cX11_least 45 = .ok (.isub, 1) := by decide +kernel
theorem dX11_least_46 : decode cX11_least 46 = .ok (.invokevirtual 107, 3) := by decide +kernel
theorem dX11_least_49 : decode cX11_least 49 = .ok (.ifCond .eq 17, 3) := by decide +kernel
theorem dX11_least_52 : decode cX11_least 52 = .ok (.aload_n 0, 1) := by decide +kernel
theorem dX11_least_53 : decode cX11_least 53 = .ok (.getfield 83, 3) := by decide +kernel
theorem dX11_least_56 : decode cX11_least 56 = .ok (.iload_n 1, 1) := by decide +kernel
theorem dX11_least_57 : decode cX11_least 57 = .ok (.bipush 10, 2) := by decide +kernel
theorem dX11_least_59 : decode cX11_least 59 = .ok (.isub, 1) := by decide +kernel
theorem dX11_least_60 : decode cX11_least 60 = .ok (.invokevirtual 265, 3) := by decide +kernel
theorem dX11_least_63 : decode cX11_least 63 = .ok (.goto 4, 3) := by decide +kernel
theorem dX11_least_66 : decode cX11_least 66 = .ok (.iconst (-1), 1) := by decide +kernel
theorem dX11_least_67 : decode cX11_least 67 = .ok (.ireturn, 1) := by decide +kernel
theorem wp_X11_least_0 {d : Nat} {s : ev_S} {Q : Option ev_V → ev_S → Prop} {a1 : Int}
    (h : (Ev layX M_X1_prepare d 0 [(0, ev_r 162)] [] s (fun _ s1 => ((a1 ≠ 0 → ((a1 ≠ 1 → ((a1 < 10 → Q (some (ev_i (-1))) s1) ∧ (10 ≤ a1 → (Ev layX M_X10_hasAngel d 0 [(0, ev_r 1), (1, ev_i (ev_sub a1 10))] [] s1 (ev_pi (fun r3 s2 => ((r3 = 0 → Q (some (ev_i (-1))) s2) ∧ (r3 ≠ 0 → (Ev layX M_X1_setOf d 0 [(0, ev_r 162), (1, ev_i (ev_sub a1 10))] [] s2 (ev_pi (fun r5 s4 => Q (some (ev_i r5)) s4))))))))))) ∧ (a1 = 1 → (Ev layX M_X1_setLeft d 0 [(0, ev_r 162)] [] s1 (ev_pi (fun r7 s6 => Q (some (ev_i r7)) s6)))))) ∧ (a1 = 0 → (Ev layX M_X1_riskLeft d 0 [(0, ev_r 162)] [] s1 (ev_pi (fun r9 s8 => Q (some (ev_i r9)) s8)))))))) :
    Ev layX M_X11_least (d + 1) 0 [(0, ev_r 0), (1, ev_i a1)] [] s Q := by
  refine Ev_aload_n 0 dX11_least_0 rfl rfl ?_
  refine Ev_getR (i := 9) cl_X11 yX_0 (Nat.le_of_ble_eq_true rfl) rfl wd_709 dX11_least_1 ?_
  refine Ev_callV (As := []) (b := 162) (st := []) (M' := M_X1_prepare) cm_X1_prepare wd_1148 wd_1149 wd_1150 yX_162 cl_X1 rfl dX11_least_4 (Nat.le_refl _) rfl (Nat.le_of_ble_eq_true rfl) (Nat.le_of_ble_eq_true rfl) h (fun v u h hk => ?_)
  cases hk
  obtain ⟨s1, rfl⟩ : ∃ x, x = u := ⟨_, rfl⟩
  refine Ev_iload_n 1 dX11_least_7 rfl rfl ?_
  refine Ev_if_ne (tgt := 19) dX11_least_8 rfl (fun c => ?_) (fun c => ?_)
  · replace h := h.1 c
    refine Ev_iload_n 1 dX11_least_19 rfl rfl ?_
    refine Ev_iconst dX11_least_20 rfl (ev_Rc rfl) ?_
    refine Ev_icmp_ne (tgt := 32) dX11_least_21 rfl (fun c => ?_) (fun c => ?_)
    · replace h := h.1 c
      refine Ev_iload_n 1 dX11_least_32 rfl rfl ?_
      refine Ev_bipushC dX11_least_33 rfl ?_
      refine Ev_icmp_lt (tgt := 66) dX11_least_35 rfl (fun c => ?_) (fun c => ?_)
      · replace h := h.1 c
        refine Ev_iconst dX11_least_66 rfl (ev_Rc rfl) ?_
        exact Ev_iret rfl dX11_least_67 rfl h
      · replace h := h.2 c
        refine Ev_aload_n 0 dX11_least_38 rfl rfl ?_
        refine Ev_getR (i := 0) cl_X11 yX_0 (Nat.le_of_ble_eq_true rfl) rfl wd_700 dX11_least_39 ?_
        refine Ev_iload_n 1 dX11_least_42 rfl rfl ?_
        refine Ev_bipushC dX11_least_43 rfl ?_
        refine Ev_isub dX11_least_45 ?_
        refine Ev_callV (As := [ev_i (ev_sub a1 10)]) (b := 1) (st := []) (M' := M_X10_hasAngel) cm_X10_hasAngel wd_751 wd_752 wd_753 yX_1 cl_X10 rfl dX11_least_46 (Nat.le_refl _) rfl (Nat.le_of_ble_eq_true rfl) (Nat.le_of_ble_eq_true rfl) h (fun v u h hk => ?_)
        obtain ⟨r3, rfl⟩ := hk
        obtain ⟨s2, rfl⟩ : ∃ x, x = u := ⟨_, rfl⟩
        replace h := h r3 rfl
        refine Ev_if_eq (tgt := 66) dX11_least_49 rfl (fun c => ?_) (fun c => ?_)
        · replace h := h.1 c
          refine Ev_iconst dX11_least_66 rfl (ev_Rc rfl) ?_
          exact Ev_iret rfl dX11_least_67 rfl h
        · replace h := h.2 c
          refine Ev_aload_n 0 dX11_least_52 rfl rfl ?_
          refine Ev_getR (i := 9) cl_X11 yX_0 (Nat.le_of_ble_eq_true rfl) rfl wd_709 dX11_least_53 ?_
          refine Ev_iload_n 1 dX11_least_56 rfl rfl ?_
          refine Ev_bipushC dX11_least_57 rfl ?_
          refine Ev_isub dX11_least_59 ?_
          refine Ev_callV (As := [ev_i (ev_sub a1 10)]) (b := 162) (st := []) (M' := M_X1_setOf) cm_X1_setOf wd_1327 wd_1328 wd_1329 yX_162 cl_X1 rfl dX11_least_60 (Nat.le_refl _) rfl (Nat.le_of_ble_eq_true rfl) (Nat.le_of_ble_eq_true rfl) h (fun v u h hk => ?_)
          obtain ⟨r5, rfl⟩ := hk
          obtain ⟨s4, rfl⟩ : ∃ x, x = u := ⟨_, rfl⟩
          replace h := h r5 rfl
          refine Ev_goto (tgt := 67) dX11_least_63 rfl ?_
          exact Ev_iret rfl dX11_least_67 rfl h
    · replace h := h.2 c
      refine Ev_aload_n 0 dX11_least_24 rfl rfl ?_
      refine Ev_getR (i := 9) cl_X11 yX_0 (Nat.le_of_ble_eq_true rfl) rfl wd_709 dX11_least_25 ?_
      refine Ev_callV (As := []) (b := 162) (st := []) (M' := M_X1_setLeft) cm_X1_setLeft wd_1306 wd_1307 wd_1308 yX_162 cl_X1 rfl dX11_least_28 (Nat.le_refl _) rfl (Nat.le_of_ble_eq_true rfl) (Nat.le_of_ble_eq_true rfl) h (fun v u h hk => ?_)
      obtain ⟨r7, rfl⟩ := hk
      obtain ⟨s6, rfl⟩ : ∃ x, x = u := ⟨_, rfl⟩
      replace h := h r7 rfl
      exact Ev_iret rfl dX11_least_31 rfl h
  · replace h := h.2 c
    refine Ev_aload_n 0 dX11_least_11 rfl rfl ?_
    refine Ev_getR (i := 9) cl_X11 yX_0 (Nat.le_of_ble_eq_true rfl) rfl wd_709 dX11_least_12 ?_
    refine Ev_callV (As := []) (b := 162) (st := []) (M' := M_X1_riskLeft) cm_X1_riskLeft wd_1302 wd_1303 wd_1304 yX_162 cl_X1 rfl dX11_least_15 (Nat.le_refl _) rfl (Nat.le_of_ble_eq_true rfl) (Nat.le_of_ble_eq_true rfl) h (fun v u h hk => ?_)
    obtain ⟨r9, rfl⟩ := hk
    obtain ⟨s8, rfl⟩ : ∃ x, x = u := ⟨_, rfl⟩
    replace h := h r9 rfl
    exact Ev_iret rfl dX11_least_18 rfl h
theorem dX11_fewest_0 : decode cX11_fewest 0 = .ok (.iload_n 1, 1) := by decide +kernel
theorem dX11_fewest_1 : decode cX11_fewest 1 = .ok (.ifCond .eq 10, 3) := by decide +kernel
theorem dX11_fewest_4 : decode cX11_fewest 4 = .ok (.iload_n 1, 1) := by decide +kernel
theorem dX11_fewest_5 : decode cX11_fewest 5 = .ok (.iconst 1, 1) := by decide +kernel
theorem dX11_fewest_6 : decode cX11_fewest 6 = .ok (.if_icmp .eq 5, 3) := by decide +kernel
theorem dX11_fewest_9 : decode cX11_fewest 9 = .ok (.iconst (-1), 1) := by decide +kernel
theorem dX11_fewest_10 : decode cX11_fewest 10 = .ok (.ireturn, 1) := by decide +kernel
theorem dX11_fewest_11 : decode cX11_fewest 11 = .ok (.aload_n 0, 1) := by decide +kernel
theorem dX11_fewest_12 : decode cX11_fewest 12 = .ok (.getfield 83, 3) := by decide +kernel
theorem dX11_fewest_15 : decode cX11_fewest 15 = .ok (.invokevirtual 210, 3) := by decide +kernel
theorem dX11_fewest_18 : decode cX11_fewest 18 = .ok (.aload_n 0, 1) := by decide +kernel
theorem dX11_fewest_19 : decode cX11_fewest 19 = .ok (.getfield 83, 3) := by decide +kernel
theorem dX11_fewest_22 : decode cX11_fewest 22 = .ok (.invokevirtual 268, 3) := by decide +kernel
theorem dX11_fewest_25 : decode cX11_fewest 25 = .ok (.istore_n 2, 1) := by decide +kernel
theorem dX11_fewest_26 : decode cX11_fewest 26 = .ok (.iload_n 1, 1) := by decide +kernel
theorem dX11_fewest_27 : decode cX11_fewest 27 = .ok (.ifCond .ne 10, 3) := by decide +kernel
theorem dX11_fewest_30 : decode cX11_fewest 30 = .ok (.iload_n 2, 1) := by decide +kernel
theorem dX11_fewest_31 : decode cX11_fewest 31 = .ok (.invokestatic 271, 3) := by decide +kernel
theorem dX11_fewest_34 : decode cX11_fewest 34 = .ok (.goto 4, 3) := by decide +kernel
theorem dX11_fewest_37 : decode cX11_fewest 37 = .ok (.iload_n 2, 1) := by decide +kernel
theorem dX11_fewest_38 : decode cX11_fewest 38 = .ok (.ireturn, 1) := by decide +kernel
theorem wp_X11_fewest_0 {d : Nat} {s : ev_S} {Q : Option ev_V → ev_S → Prop} {a1 : Int}
    (h : ((a1 = 0 → Ev layX M_X11_fewest (d + 1) 11 [(0, ev_r 0), (1, ev_i a1)] [] s Q) ∧ (a1 ≠ 0 → ((a1 = 1 → Ev layX M_X11_fewest (d + 1) 11 [(0, ev_r 0), (1, ev_i a1)] [] s Q) ∧ (a1 ≠ 1 → Q (some (ev_i (-1))) s))))) :
    Ev layX M_X11_fewest (d + 1) 0 [(0, ev_r 0), (1, ev_i a1)] [] s Q := by
  refine Ev_iload_n 1 dX11_fewest_0 rfl rfl ?_
  refine Ev_if_eq (tgt := 11) dX11_fewest_1 rfl (fun c => ?_) (fun c => ?_)
  · replace h := h.1 c
    exact Ev_sub [0, 1] rfl h
  · replace h := h.2 c
    refine Ev_iload_n 1 dX11_fewest_4 rfl rfl ?_
    refine Ev_iconst dX11_fewest_5 rfl (ev_Rc rfl) ?_
    refine Ev_icmp_eq (tgt := 11) dX11_fewest_6 rfl (fun c => ?_) (fun c => ?_)
    · replace h := h.1 c
      exact Ev_sub [0, 1] rfl h
    · replace h := h.2 c
      refine Ev_iconst dX11_fewest_9 rfl (ev_Rc rfl) ?_
      exact Ev_iret rfl dX11_fewest_10 rfl h
theorem wp_X11_fewest_11 {d : Nat} {s : ev_S} {Q : Option ev_V → ev_S → Prop} {a1 : Int}
    (h : (Ev layX M_X1_prepare d 0 [(0, ev_r 162)] [] s (fun _ s1 => (Ev layX M_X1_fewestGroup d 0 [(0, ev_r 162)] [] s1 (ev_pi (fun r3 s2 => ((a1 ≠ 0 → Q (some (ev_i r3)) s2) ∧ (a1 = 0 → (Ev layX M_J6_bitCount_0f7a4 d 0 [(0, ev_i r3)] [] s2 (ev_pi (fun r5 s4 => Q (some (ev_i r5)) s4))))))))))) :
    Ev layX M_X11_fewest (d + 1) 11 [(0, ev_r 0), (1, ev_i a1)] [] s Q := by
  refine Ev_aload_n 0 dX11_fewest_11 rfl rfl ?_
  refine Ev_getR (i := 9) cl_X11 yX_0 (Nat.le_of_ble_eq_true rfl) rfl wd_709 dX11_fewest_12 ?_
  refine Ev_callV (As := []) (b := 162) (st := []) (M' := M_X1_prepare) cm_X1_prepare wd_1148 wd_1149 wd_1150 yX_162 cl_X1 rfl dX11_fewest_15 (Nat.le_refl _) rfl (Nat.le_of_ble_eq_true rfl) (Nat.le_of_ble_eq_true rfl) h (fun v u h hk => ?_)
  cases hk
  obtain ⟨s1, rfl⟩ : ∃ x, x = u := ⟨_, rfl⟩
  refine Ev_aload_n 0 dX11_fewest_18 rfl rfl ?_
  refine Ev_getR (i := 9) cl_X11 yX_0 (Nat.le_of_ble_eq_true rfl) rfl wd_709 dX11_fewest_19 ?_
  refine Ev_callV (As := []) (b := 162) (st := []) (M' := M_X1_fewestGroup) cm_X1_fewestGroup wd_1335 wd_1336 wd_1337 yX_162 cl_X1 rfl dX11_fewest_22 (Nat.le_refl _) rfl (Nat.le_of_ble_eq_true rfl) (Nat.le_of_ble_eq_true rfl) h (fun v u h hk => ?_)
  obtain ⟨r3, rfl⟩ := hk
  obtain ⟨s2, rfl⟩ : ∃ x, x = u := ⟨_, rfl⟩
  replace h := h r3 rfl
  refine Ev_istore_n (l' := [(2, ev_i r3), (0, ev_r 0), (1, ev_i a1)]) dX11_fewest_25 rfl (Nat.le_of_ble_eq_true rfl) rfl ?_
  refine Ev_iload_n 2 dX11_fewest_26 rfl rfl ?_
  refine Ev_if_ne (tgt := 37) dX11_fewest_27 rfl (fun c => ?_) (fun c => ?_)
  · replace h := h.1 c
    refine Ev_iload_n 0 dX11_fewest_37 rfl rfl ?_
    exact Ev_iret rfl dX11_fewest_38 rfl h
  · replace h := h.2 c
    refine Ev_iload_n 0 dX11_fewest_30 rfl rfl ?_
    refine Ev_callS (As := [ev_i r3]) (st := []) (M' := M_J6_bitCount_0f7a4) cm_J6_bitCount_0f7a4 wd_1353 wd_1344 dX11_fewest_31 (Nat.le_refl _) rfl (Nat.le_of_ble_eq_true rfl) (Nat.le_of_ble_eq_true rfl) h (fun v u h hk => ?_)
    obtain ⟨r5, rfl⟩ := hk
    obtain ⟨s4, rfl⟩ : ∃ x, x = u := ⟨_, rfl⟩
    replace h := h r5 rfl
    refine Ev_goto (tgt := 38) dX11_fewest_34 rfl ?_
    exact Ev_iret rfl dX11_fewest_38 rfl h
theorem dX11_hopeless_0 : decode cX11_hopeless 0 = .ok (.aload_n 0, 1) := by decide +kernel
theorem dX11_hopeless_1 : decode cX11_hopeless 1 = .ok (.getfield 74, 3) := by decide +kernel
theorem dX11_hopeless_4 : decode cX11_hopeless 4 = .ok (.iconst 0, 1) := by decide +kernel
theorem dX11_hopeless_5 : decode cX11_hopeless 5 = .ok (.invokevirtual 276, 3) := by decide +kernel
theorem dX11_hopeless_8 : decode cX11_hopeless 8 = .ok (.ireturn, 1) := by decide +kernel
theorem wp_X11_hopeless_0 {d : Nat} {s : ev_S} {Q : Option ev_V → ev_S → Prop}
    (h : (Ev layX M_X3_seenToBy d 0 [(0, ev_r 146), (1, ev_i 0)] [] s (ev_pi (fun r2 s1 => Q (some (ev_i r2)) s1)))) :
    Ev layX M_X11_hopeless (d + 1) 0 [(0, ev_r 0)] [] s Q := by
  refine Ev_aload_n 0 dX11_hopeless_0 rfl rfl ?_
  refine Ev_getR (i := 8) cl_X11 yX_0 (Nat.le_of_ble_eq_true rfl) rfl wd_708 dX11_hopeless_1 ?_
  refine Ev_iconst dX11_hopeless_4 rfl (ev_Rc rfl) ?_
  refine Ev_callV (As := [ev_i 0]) (b := 146) (st := []) (M' := M_X3_seenToBy) cm_X3_seenToBy wd_1358 wd_1359 wd_1360 yX_146 cl_X3 rfl dX11_hopeless_5 (Nat.le_refl _) rfl (Nat.le_of_ble_eq_true rfl) (Nat.le_of_ble_eq_true rfl) h (fun v u h hk => ?_)
  obtain ⟨r2, rfl⟩ := hk
  obtain ⟨s1, rfl⟩ : ∃ x, x = u := ⟨_, rfl⟩
  replace h := h r2 rfl
  exact Ev_iret rfl dX11_hopeless_8 rfl h
theorem dX11_shows_0 : decode cX11_shows 0 = .ok (.aload_n 0, 1) := by decide +kernel
theorem dX11_shows_1 : decode cX11_shows 1 = .ok (.getfield 74, 3) := by decide +kernel
theorem dX11_shows_4 : decode cX11_shows 4 = .ok (.iconst 1, 1) := by decide +kernel
theorem dX11_shows_5 : decode cX11_shows 5 = .ok (.invokevirtual 276, 3) := by decide +kernel
theorem dX11_shows_8 : decode cX11_shows 8 = .ok (.ireturn, 1) := by decide +kernel
theorem wp_X11_shows_0 {d : Nat} {s : ev_S} {Q : Option ev_V → ev_S → Prop}
    (h : (Ev layX M_X3_seenToBy d 0 [(0, ev_r 146), (1, ev_i 1)] [] s (ev_pi (fun r2 s1 => Q (some (ev_i r2)) s1)))) :
    Ev layX M_X11_shows (d + 1) 0 [(0, ev_r 0)] [] s Q := by
  refine Ev_aload_n 0 dX11_shows_0 rfl rfl ?_
  refine Ev_getR (i := 8) cl_X11 yX_0 (Nat.le_of_ble_eq_true rfl) rfl wd_708 dX11_shows_1 ?_
  refine Ev_iconst dX11_shows_4 rfl (ev_Rc rfl) ?_
  refine Ev_callV (As := [ev_i 1]) (b := 146) (st := []) (M' := M_X3_seenToBy) cm_X3_seenToBy wd_1358 wd_1359 wd_1360 yX_146 cl_X3 rfl dX11_shows_5 (Nat.le_refl _) rfl (Nat.le_of_ble_eq_true rfl) (Nat.le_of_ble_eq_true rfl) h (fun v u h hk => ?_)
  obtain ⟨r2, rfl⟩ := hk
  obtain ⟨s1, rfl⟩ : ∃ x, x = u := ⟨_, rfl⟩
  replace h := h r2 rfl
  exact Ev_iret rfl dX11_shows_8 rfl h
theorem dX11_lot_0 : decode cX11_lot 0 = .ok (.iload_n 1, 1) := by decide +kernel
theorem dX11_lot_1 : decode cX11_lot 1 = .ok (.ifCond .le 29, 3) := by decide +kernel
theorem dX11_lot_4 : decode cX11_lot 4 = .ok (.iload_n 1, 1) := by decide +kernel
theorem dX11_lot_5 : decode cX11_lot 5 = .ok (.iconst 1, 1) := by decide +kernel
theorem dX11_lot_6 : decode cX11_lot 6 = .ok (.aload_n 0, 1) := by decide +kernel
theorem dX11_lot_7 : decode cX11_lot 7 = .ok (.getfield 12, 3) := by decide +kernel
theorem dX11_lot_10 : decode cX11_lot 10 = .ok (.getfield 279, 3) := by decide +kernel
theorem dX11_lot_13 : decode cX11_lot 13 = .ok (.ishl, 1) := by decide +kernel
theorem dX11_lot_14 : decode cX11_lot 14 = .ok (.if_icmp .ge 16, 3) := by decide +kernel
theorem dX11_lot_17 : decode cX11_lot 17 = .ok (.iload_n 1, 1) := by decide +kernel
theorem dX11_lot_18 : decode cX11_lot 18 = .ok (.invokestatic 271, 3) := by decide +kernel
theorem dX11_lot_21 : decode cX11_lot 21 = .ok (.bipush 6, 2) := by decide +kernel
theorem dX11_lot_23 : decode cX11_lot 23 = .ok (.if_icmp .gt 7, 3) := by decide +kernel
theorem dX11_lot_26 : decode cX11_lot 26 = .ok (.iconst 1, 1) := by decide +kernel
theorem dX11_lot_27 : decode cX11_lot 27 = .ok (.goto 4, 3) := by decide +kernel
theorem dX11_lot_30 : decode cX11_lot 30 = .ok (.iconst 0, 1) := by decide +kernel
theorem dX11_lot_31 : decode cX11_lot 31 = .ok (.istore_n 3, 1) := by decide +kernel
theorem dX11_lot_32 : decode cX11_lot 32 = .ok (.iload_n 3, 1) := by decide +kernel
theorem dX11_lot_33 : decode cX11_lot 33 = .ok (.ifCond .eq 12, 3) := by decide +kernel
theorem dX11_lot_36 : decode cX11_lot 36 = .ok (.iload_n 2, 1) := by decide +kernel
theorem dX11_lot_37 : decode cX11_lot 37 = .ok (.ifCond .eq 12, 3) := by decide +kernel
theorem dX11_lot_40 : decode cX11_lot 40 = .ok (.iload_n 2, 1) := by decide +kernel
theorem dX11_lot_41 : decode cX11_lot 41 = .ok (.iconst 1, 1) := by decide +kernel
theorem dX11_lot_42 : decode cX11_lot 42 = .ok (.if_icmp .eq 7, 3) := by decide +kernel
theorem dX11_lot_45 : decode cX11_lot 45 = .ok (.ldc2_w 282, 3) := by decide +kernel
theorem dX11_lot_48 : decode cX11_lot 48 = .ok (.lreturn, 1) := by decide +kernel
theorem dX11_lot_49 : decode cX11_lot 49 = .ok (.aload_n 0, 1) := by decide +kernel
theorem dX11_lot_50 : decode cX11_lot 50 = .ok (.iload_n 1, 1) := by decide +kernel
theorem dX11_lot_51 : decode cX11_lot 51 = .ok (.iload_n 2, 1) := by decide +kernel
theorem dX11_lot_52 : decode cX11_lot 52 = .ok (.ifCond .ne 7, 3) := by decide +kernel
theorem dX11_lot_55 : decode cX11_lot 55 = .ok (.iconst 1, 1) := by decide +kernel
theorem dX11_lot_56 : decode cX11_lot 56 = .ok (.goto 4, 3) := by decide +kernel
theorem dX11_lot_59 : decode cX11_lot 59 = .ok (.iconst 0, 1) := by decide +kernel
theorem dX11_lot_60 : decode cX11_lot 60 = .ok (.invokevirtual 284, 3) := by decide +kernel
theorem dX11_lot_63 : decode cX11_lot 63 = .ok (.lreturn, 1) := by decide +kernel
theorem wp_X11_lot_0 {d : Nat} {s : ev_S} {Q : Option ev_V → ev_S → Prop} {a1 a2 : Int}
    (h : ((a1 ≤ 0 → Ev layX M_X11_lot (d + 1) 31 [(0, ev_r 0), (1, ev_i a1), (2, ev_i a2)] [ev_i 0] s Q) ∧ (0 < a1 → (((ev_shl 1 (s 1 13)) ≤ a1 → Ev layX M_X11_lot (d + 1) 31 [(0, ev_r 0), (1, ev_i a1), (2, ev_i a2)] [ev_i 0] s Q) ∧ (a1 < (ev_shl 1 (s 1 13)) → (Ev layX M_J6_bitCount_0f7a4 d 0 [(0, ev_i a1)] [] s (ev_pi (fun r2 s1 => ((6 < r2 → Ev layX M_X11_lot (d + 1) 31 [(0, ev_r 0), (1, ev_i a1), (2, ev_i a2)] [ev_i 0] s1 Q) ∧ (r2 ≤ 6 → Ev layX M_X11_lot (d + 1) 31 [(0, ev_r 0), (1, ev_i a1), (2, ev_i a2)] [ev_i 1] s1 Q)))))))))) :
    Ev layX M_X11_lot (d + 1) 0 [(0, ev_r 0), (1, ev_i a1), (2, ev_i a2)] [] s Q := by
  refine Ev_iload_n 1 dX11_lot_0 rfl rfl ?_
  refine Ev_if_le (tgt := 30) dX11_lot_1 rfl (fun c => ?_) (fun c => ?_)
  · replace h := h.1 c
    refine Ev_iconst dX11_lot_30 rfl (ev_Rc rfl) ?_
    exact Ev_sub [0, 1, 2] rfl h
  · replace h := h.2 c
    refine Ev_iload_n 1 dX11_lot_4 rfl rfl ?_
    refine Ev_iconst dX11_lot_5 rfl (ev_Rc rfl) ?_
    refine Ev_aload_n 0 dX11_lot_6 rfl rfl ?_
    refine Ev_getR (i := 0) cl_X11 yX_0 (Nat.le_of_ble_eq_true rfl) rfl wd_700 dX11_lot_7 ?_
    refine Ev_get (i := 13) cl_X10 yX_1 (Nat.le_of_ble_eq_true rfl) rfl wd_289 dX11_lot_10 ?_
    refine Ev_ishl dX11_lot_13 ?_
    refine Ev_icmp_ge (tgt := 30) dX11_lot_14 rfl (fun c => ?_) (fun c => ?_)
    · replace h := h.1 c
      refine Ev_iconst dX11_lot_30 rfl (ev_Rc rfl) ?_
      exact Ev_sub [0, 1, 2] rfl h
    · replace h := h.2 c
      refine Ev_iload_n 1 dX11_lot_17 rfl rfl ?_
      refine Ev_callS (As := [ev_i a1]) (st := []) (M' := M_J6_bitCount_0f7a4) cm_J6_bitCount_0f7a4 wd_1353 wd_1344 dX11_lot_18 (Nat.le_refl _) rfl (Nat.le_of_ble_eq_true rfl) (Nat.le_of_ble_eq_true rfl) h (fun v u h hk => ?_)
      obtain ⟨r2, rfl⟩ := hk
      obtain ⟨s1, rfl⟩ : ∃ x, x = u := ⟨_, rfl⟩
      replace h := h r2 rfl
      refine Ev_bipushC dX11_lot_21 rfl ?_
      refine Ev_icmp_gt (tgt := 30) dX11_lot_23 rfl (fun c => ?_) (fun c => ?_)
      · replace h := h.1 c
        refine Ev_iconst dX11_lot_30 rfl (ev_Rc rfl) ?_
        exact Ev_sub [0, 1, 2] rfl h
      · replace h := h.2 c
        refine Ev_iconst dX11_lot_26 rfl (ev_Rc rfl) ?_
        refine Ev_goto (tgt := 31) dX11_lot_27 rfl ?_
        exact Ev_sub [0, 1, 2] rfl h
theorem wp_X11_lot_31 {d : Nat} {s : ev_S} {Q : Option ev_V → ev_S → Prop} {a1 a2 t0 : Int}
    (h : ((t0 = 0 → Q (some (ev_l (-1))) s) ∧ (t0 ≠ 0 → ((a2 = 0 → Ev layX M_X11_lot (d + 1) 49 [(0, ev_r 0), (1, ev_i a1), (2, ev_i a2)] [] s Q) ∧ (a2 ≠ 0 → ((a2 = 1 → Ev layX M_X11_lot (d + 1) 49 [(0, ev_r 0), (1, ev_i a1), (2, ev_i a2)] [] s Q) ∧ (a2 ≠ 1 → Q (some (ev_l (-1))) s))))))) :
    Ev layX M_X11_lot (d + 1) 31 [(0, ev_r 0), (1, ev_i a1), (2, ev_i a2)] [ev_i t0] s Q := by
  refine Ev_istore_n (l' := [(3, ev_i t0), (0, ev_r 0), (1, ev_i a1), (2, ev_i a2)]) dX11_lot_31 rfl (Nat.le_of_ble_eq_true rfl) rfl ?_
  refine Ev_iload_n 0 dX11_lot_32 rfl rfl ?_
  refine Ev_if_eq (tgt := 45) dX11_lot_33 rfl (fun c => ?_) (fun c => ?_)
  · replace h := h.1 c
    refine Ev_ldc2 (z := (-1)) wd_1372 dX11_lot_45 rfl (ev_RLc rfl) ?_
    exact Ev_lret rfl dX11_lot_48 h
  · replace h := h.2 c
    refine Ev_iload_n 3 dX11_lot_36 rfl rfl ?_
    refine Ev_if_eq (tgt := 49) dX11_lot_37 rfl (fun c => ?_) (fun c => ?_)
    · replace h := h.1 c
      exact Ev_sub [1, 2, 3] rfl h
    · replace h := h.2 c
      refine Ev_iload_n 3 dX11_lot_40 rfl rfl ?_
      refine Ev_iconst dX11_lot_41 rfl (ev_Rc rfl) ?_
      refine Ev_icmp_eq (tgt := 49) dX11_lot_42 rfl (fun c => ?_) (fun c => ?_)
      · replace h := h.1 c
        exact Ev_sub [1, 2, 3] rfl h
      · replace h := h.2 c
        refine Ev_ldc2 (z := (-1)) wd_1372 dX11_lot_45 rfl (ev_RLc rfl) ?_
        exact Ev_lret rfl dX11_lot_48 h
theorem wp_X11_lot_49 {d : Nat} {s : ev_S} {Q : Option ev_V → ev_S → Prop} {a1 a2 : Int}
    (h : ((a2 ≠ 0 → (Ev layX M_X11_lotOf d 0 [(0, ev_r 0), (1, ev_i a1), (2, ev_i 0)] [] s (ev_pl (fun r2 s1 => Q (some (ev_l r2)) s1)))) ∧ (a2 = 0 → (Ev layX M_X11_lotOf d 0 [(0, ev_r 0), (1, ev_i a1), (2, ev_i 1)] [] s (ev_pl (fun r4 s3 => Q (some (ev_l r4)) s3)))))) :
    Ev layX M_X11_lot (d + 1) 49 [(0, ev_r 0), (1, ev_i a1), (2, ev_i a2)] [] s Q := by
  refine Ev_aload_n 0 dX11_lot_49 rfl rfl ?_
  refine Ev_iload_n 1 dX11_lot_50 rfl rfl ?_
  refine Ev_iload_n 2 dX11_lot_51 rfl rfl ?_
  refine Ev_if_ne (tgt := 59) dX11_lot_52 rfl (fun c => ?_) (fun c => ?_)
  · replace h := h.1 c
    refine Ev_iconst dX11_lot_59 rfl (ev_Rc rfl) ?_
    refine Ev_callV (As := [ev_i a1, ev_i 0]) (b := 0) (st := []) (M' := M_X11_lotOf) cm_X11_lotOf wd_1373 wd_1375 wd_66 yX_0 cl_X11 rfl dX11_lot_60 (Nat.le_refl _) rfl (Nat.le_of_ble_eq_true rfl) (Nat.le_of_ble_eq_true rfl) h (fun v u h hk => ?_)
    obtain ⟨r2, rfl⟩ := hk
    obtain ⟨s1, rfl⟩ : ∃ x, x = u := ⟨_, rfl⟩
    replace h := h r2 rfl
    exact Ev_lret rfl dX11_lot_63 h
  · replace h := h.2 c
    refine Ev_iconst dX11_lot_55 rfl (ev_Rc rfl) ?_
    refine Ev_goto (tgt := 60) dX11_lot_56 rfl ?_
    refine Ev_callV (As := [ev_i a1, ev_i 1]) (b := 0) (st := []) (M' := M_X11_lotOf) cm_X11_lotOf wd_1373 wd_1375 wd_66 yX_0 cl_X11 rfl dX11_lot_60 (Nat.le_refl _) rfl (Nat.le_of_ble_eq_true rfl) (Nat.le_of_ble_eq_true rfl) h (fun v u h hk => ?_)
    obtain ⟨r4, rfl⟩ := hk
    obtain ⟨s3, rfl⟩ : ∃ x, x = u := ⟨_, rfl⟩
    replace h := h r4 rfl
    exact Ev_lret rfl dX11_lot_63 h
theorem dX11_near_0 : decode cX11_near 0 = .ok (.aload_n 0, 1) := by decide +kernel
theorem dX11_near_1 : decode cX11_near 1 = .ok (.getfield 12, 3) := by decide +kernel
theorem dX11_near_4 : decode cX11_near 4 = .ok (.iload_n 1, 1) := by decide +kernel
theorem dX11_near_5 : decode cX11_near 5 = .ok (.invokevirtual 148, 3) := by decide +kernel
theorem dX11_near_8 : decode cX11_near 8 = .ok (.ifCond .eq 28, 3) := by decide +kernel
theorem dX11_near_11 : decode cX11_near 11 = .ok (.aload_n 0, 1) := by decide +kernel
theorem dX11_near_12 : decode cX11_near 12 = .ok (.getfield 12, 3) := by decide +kernel
theorem dX11_near_15 : decode cX11_near 15 = .ok (.iload_n 2, 1) := by decide +kernel
theorem dX11_near_16 : decode cX11_near 16 = .ok (.invokevirtual 148, 3) := by decide +kernel
theorem dX11_near_19 : decode cX11_near 19 = .ok (.ifCond .eq 17, 3) := by decide +kernel
theorem dX11_near_22 : decode cX11_near 22 = .ok (.iload_n 1, 1) := by decide +kernel
theorem dX11_near_23 : decode cX11_near 23 = .ok (.iload_n 2, 1) := by decide +kernel
theorem dX11_near_24 : decode cX11_near 24 = .ok (.if_icmp .eq 12, 3) := by decide +kernel
theorem dX11_near_27 : decode cX11_near 27 = .ok (.iload_n 3, 1) := by decide +kernel
theorem dX11_near_28 : decode cX11_near 28 = .ok (.ifCond .eq 10, 3) := by decide +kernel
theorem dX11_near_31 : decode cX11_near 31 = .ok (.iload_n 3, 1) := by decide +kernel
theorem dX11_near_32 : decode cX11_near 32 = .ok (.iconst 1, 1) := by decide +kernel
theorem dX11_near_33 : decode cX11_near 33 = .ok (.if_icmp .eq 5, 3) := by decide +kernel
theorem dX11_near_36 : decode cX11_near 36 = .ok (.iconst (-1), 1) := by decide +kernel
theorem dX11_near_37 : decode cX11_near 37 = .ok (.ireturn, 1) := by decide +kernel
theorem dX11_near_38 : decode cX11_near 38 = .ok (.aload_n 0, 1) := by decide +kernel
theorem dX11_near_39 : decode cX11_near 39 = .ok (.getfield 74, 3) := by decide +kernel
theorem dX11_near_42 : decode cX11_near 42 = .ok (.iload_n 1, 1) := by decide +kernel
theorem dX11_near_43 : decode cX11_near 43 = .ok (.iload_n 2, 1) := by decide +kernel
theorem dX11_near_44 : decode cX11_near 44 = .ok (.invokevirtual 288, 3) := by decide +kernel
theorem dX11_near_47 : decode cX11_near 47 = .ok (.iload_n 3, 1) := by decide +kernel
theorem dX11_near_48 : decode cX11_near 48 = .ok (.ifCond .ne 13, 3) := by decide +kernel
theorem dX11_near_51 : decode cX11_near 51 = .ok (.aload_n 0, 1) := by decide +kernel
theorem dX11_near_52 : decode cX11_near 52 = .ok (.getfield 74, 3) := by decide +kernel
theorem dX11_near_55 : decode cX11_near 55 = .ok (.getfield 291, 3) := by decide +kernel
theorem dX11_near_58 : decode cX11_near 58 = .ok (.goto 10, 3) := by decide +kernel
theorem dX11_near_61 : decode cX11_near 61 = .ok (.aload_n 0, 1) := by decide +kernel
theorem dX11_near_62 : decode cX11_near 62 = .ok (.getfield 74, 3) := by decide +kernel
theorem dX11_near_65 : decode cX11_near 65 = .ok (.getfield 294, 3) := by decide +kernel
theorem dX11_near_68 : decode cX11_near 68 = .ok (.ireturn, 1) := by decide +kernel
theorem wp_X11_near_0 {d : Nat} {s : ev_S} {Q : Option ev_V → ev_S → Prop} {a1 a2 a3 : Int}
    (h : (Ev layX M_X10_hasWard d 0 [(0, ev_r 1), (1, ev_i a1)] [] s (ev_pi (fun r2 s1 => ((r2 = 0 → Q (some (ev_i (-1))) s1) ∧ (r2 ≠ 0 → (Ev layX M_X10_hasWard d 0 [(0, ev_r 1), (1, ev_i a2)] [] s1 (ev_pi (fun r4 s3 => ((r4 = 0 → Q (some (ev_i (-1))) s3) ∧ (r4 ≠ 0 → ((a1 = a2 → Q (some (ev_i (-1))) s3) ∧ (a1 ≠ a2 → ((a3 = 0 → Ev layX M_X11_near (d + 1) 38 [(0, ev_r 0), (1, ev_i a1), (2, ev_i a2), (3, ev_i a3)] [] s3 Q) ∧ (a3 ≠ 0 → ((a3 = 1 → Ev layX M_X11_near (d + 1) 38 [(0, ev_r 0), (1, ev_i a1), (2, ev_i a2), (3, ev_i a3)] [] s3 Q) ∧ (a3 ≠ 1 → Q (some (ev_i (-1))) s3))))))))))))))))) :
    Ev layX M_X11_near (d + 1) 0 [(0, ev_r 0), (1, ev_i a1), (2, ev_i a2), (3, ev_i a3)] [] s Q := by
  refine Ev_aload_n 0 dX11_near_0 rfl rfl ?_
  refine Ev_getR (i := 0) cl_X11 yX_0 (Nat.le_of_ble_eq_true rfl) rfl wd_700 dX11_near_1 ?_
  refine Ev_iload_n 1 dX11_near_4 rfl rfl ?_
  refine Ev_callV (As := [ev_i a1]) (b := 1) (st := []) (M' := M_X10_hasWard) cm_X10_hasWard wd_787 wd_788 wd_789 yX_1 cl_X10 rfl dX11_near_5 (Nat.le_refl _) rfl (Nat.le_of_ble_eq_true rfl) (Nat.le_of_ble_eq_true rfl) h (fun v u h hk => ?_)
  obtain ⟨r2, rfl⟩ := hk
  obtain ⟨s1, rfl⟩ : ∃ x, x = u := ⟨_, rfl⟩
  replace h := h r2 rfl
  refine Ev_if_eq (tgt := 36) dX11_near_8 rfl (fun c => ?_) (fun c => ?_)
  · replace h := h.1 c
    refine Ev_iconst dX11_near_36 rfl (ev_Rc rfl) ?_
    exact Ev_iret rfl dX11_near_37 rfl h
  · replace h := h.2 c
    refine Ev_aload_n 0 dX11_near_11 rfl rfl ?_
    refine Ev_getR (i := 0) cl_X11 yX_0 (Nat.le_of_ble_eq_true rfl) rfl wd_700 dX11_near_12 ?_
    refine Ev_iload_n 2 dX11_near_15 rfl rfl ?_
    refine Ev_callV (As := [ev_i a2]) (b := 1) (st := []) (M' := M_X10_hasWard) cm_X10_hasWard wd_787 wd_788 wd_789 yX_1 cl_X10 rfl dX11_near_16 (Nat.le_refl _) rfl (Nat.le_of_ble_eq_true rfl) (Nat.le_of_ble_eq_true rfl) h (fun v u h hk => ?_)
    obtain ⟨r4, rfl⟩ := hk
    obtain ⟨s3, rfl⟩ : ∃ x, x = u := ⟨_, rfl⟩
    replace h := h r4 rfl
    refine Ev_if_eq (tgt := 36) dX11_near_19 rfl (fun c => ?_) (fun c => ?_)
    · replace h := h.1 c
      refine Ev_iconst dX11_near_36 rfl (ev_Rc rfl) ?_
      exact Ev_iret rfl dX11_near_37 rfl h
    · replace h := h.2 c
      refine Ev_iload_n 1 dX11_near_22 rfl rfl ?_
      refine Ev_iload_n 2 dX11_near_23 rfl rfl ?_
      refine Ev_icmp_eq (tgt := 36) dX11_near_24 rfl (fun c => ?_) (fun c => ?_)
      · replace h := h.1 c
        refine Ev_iconst dX11_near_36 rfl (ev_Rc rfl) ?_
        exact Ev_iret rfl dX11_near_37 rfl h
      · replace h := h.2 c
        refine Ev_iload_n 3 dX11_near_27 rfl rfl ?_
        refine Ev_if_eq (tgt := 38) dX11_near_28 rfl (fun c => ?_) (fun c => ?_)
        · replace h := h.1 c
          exact Ev_sub [0, 1, 2, 3] rfl h
        · replace h := h.2 c
          refine Ev_iload_n 3 dX11_near_31 rfl rfl ?_
          refine Ev_iconst dX11_near_32 rfl (ev_Rc rfl) ?_
          refine Ev_icmp_eq (tgt := 38) dX11_near_33 rfl (fun c => ?_) (fun c => ?_)
          · replace h := h.1 c
            exact Ev_sub [0, 1, 2, 3] rfl h
          · replace h := h.2 c
            refine Ev_iconst dX11_near_36 rfl (ev_Rc rfl) ?_
            exact Ev_iret rfl dX11_near_37 rfl h
theorem wp_X11_near_38 {d : Nat} {s : ev_S} {Q : Option ev_V → ev_S → Prop} {a1 a2 a3 : Int}
    (h : (Ev layX M_X3_meet d 0 [(0, ev_r 146), (1, ev_i a1), (2, ev_i a2)] [] s (fun _ s1 => ((a3 ≠ 0 → Q (some (ev_i (s1 146 11))) s1) ∧ (a3 = 0 → Q (some (ev_i (s1 146 10))) s1))))) :
    Ev layX M_X11_near (d + 1) 38 [(0, ev_r 0), (1, ev_i a1), (2, ev_i a2), (3, ev_i a3)] [] s Q := by
  refine Ev_aload_n 0 dX11_near_38 rfl rfl ?_
  refine Ev_getR (i := 8) cl_X11 yX_0 (Nat.le_of_ble_eq_true rfl) rfl wd_708 dX11_near_39 ?_
  refine Ev_iload_n 1 dX11_near_42 rfl rfl ?_
  refine Ev_iload_n 2 dX11_near_43 rfl rfl ?_
  refine Ev_callV (As := [ev_i a1, ev_i a2]) (b := 146) (st := []) (M' := M_X3_meet) cm_X3_meet wd_1384 wd_1385 wd_1386 yX_146 cl_X3 rfl dX11_near_44 (Nat.le_refl _) rfl (Nat.le_of_ble_eq_true rfl) (Nat.le_of_ble_eq_true rfl) h (fun v u h hk => ?_)
  cases hk
  obtain ⟨s1, rfl⟩ : ∃ x, x = u := ⟨_, rfl⟩
  refine Ev_iload_n 3 dX11_near_47 rfl rfl ?_
  refine Ev_if_ne (tgt := 61) dX11_near_48 rfl (fun c => ?_) (fun c => ?_)
  · replace h := h.1 c
    refine Ev_aload_n 0 dX11_near_61 rfl rfl ?_
    refine Ev_getR (i := 8) cl_X11 yX_0 (Nat.le_of_ble_eq_true rfl) rfl wd_708 dX11_near_62 ?_
    refine Ev_get (i := 11) cl_X3 yX_146 (Nat.le_of_ble_eq_true rfl) rfl wd_586 dX11_near_65 ?_
    exact Ev_iret rfl dX11_near_68 rfl h
  · replace h := h.2 c
    refine Ev_aload_n 0 dX11_near_51 rfl rfl ?_
    refine Ev_getR (i := 8) cl_X11 yX_0 (Nat.le_of_ble_eq_true rfl) rfl wd_708 dX11_near_52 ?_
    refine Ev_get (i := 10) cl_X3 yX_146 (Nat.le_of_ble_eq_true rfl) rfl wd_584 dX11_near_55 ?_
    refine Ev_goto (tgt := 68) dX11_near_58 rfl ?_
    exact Ev_iret rfl dX11_near_68 rfl h
theorem dX11_undo_0 : decode cX11_undo 0 = .ok (.aload_n 0, 1) := by decide +kernel
theorem dX11_undo_1 : decode cX11_undo 1 = .ok (.getfield 33, 3) := by decide +kernel
theorem dX11_undo_4 : decode cX11_undo 4 = .ok (.aload_n 0, 1) := by decide +kernel
theorem dX11_undo_5 : decode cX11_undo 5 = .ok (.getfield 19, 3) := by decide +kernel
theorem dX11_undo_8 : decode cX11_undo 8 = .ok (.invokevirtual 297, 3) := by decide +kernel
theorem dX11_undo_11 : decode cX11_undo 11 = .ok (.ifCond .ne 5, 3) := by decide +kernel
theorem dX11_undo_14 : decode cX11_undo 14 = .ok (.iconst 0, 1) := by decide +kernel
theorem dX11_undo_15 : decode cX11_undo 15 = .ok (.ireturn, 1) := by decide +kernel
theorem dX11_undo_16 : decode cX11_undo 16 = .ok (.aload_n 0, 1) := by decide +kernel
theorem dX11_undo_17 : decode cX11_undo 17 = .ok (.invokevirtual 192, 3) := by decide +kernel
theorem dX11_undo_20 : decode cX11_undo 20 = .ok (.iconst 1, 1) := by decide +kernel
theorem dX11_undo_21 : decode cX11_undo 21 = .ok (.ireturn, 1) := by decide +kernel
theorem wp_X11_undo_0 {d : Nat} {s : ev_S} {Q : Option ev_V → ev_S → Prop}
    (h : (Ev layX M_X5_goBack d 0 [(0, ev_r 29), (1, ev_r 15)] [] s (ev_pi (fun r2 s1 => ((r2 ≠ 0 → (Ev layX M_X11_isChanged d 0 [(0, ev_r 0)] [] s1 (fun _ s3 => Q (some (ev_i 1)) s3))) ∧ (r2 = 0 → Q (some (ev_i 0)) s1)))))) :
    Ev layX M_X11_undo (d + 1) 0 [(0, ev_r 0)] [] s Q := by
  refine Ev_aload_n 0 dX11_undo_0 rfl rfl ?_
  refine Ev_getR (i := 3) cl_X11 yX_0 (Nat.le_of_ble_eq_true rfl) rfl wd_703 dX11_undo_1 ?_
  refine Ev_aload_n 0 dX11_undo_4 rfl rfl ?_
  refine Ev_getR (i := 1) cl_X11 yX_0 (Nat.le_of_ble_eq_true rfl) rfl wd_701 dX11_undo_5 ?_
  refine Ev_callV (As := [ev_r 15]) (b := 29) (st := []) (M' := M_X5_goBack) cm_X5_goBack wd_1397 wd_1398 wd_1399 yX_29 cl_X5 rfl dX11_undo_8 (Nat.le_refl _) rfl (Nat.le_of_ble_eq_true rfl) (Nat.le_of_ble_eq_true rfl) h (fun v u h hk => ?_)
  obtain ⟨r2, rfl⟩ := hk
  obtain ⟨s1, rfl⟩ : ∃ x, x = u := ⟨_, rfl⟩
  replace h := h r2 rfl
  refine Ev_if_ne (tgt := 16) dX11_undo_11 rfl (fun c => ?_) (fun c => ?_)
  · replace h := h.1 c
    refine Ev_aload_n 0 dX11_undo_16 rfl rfl ?_
    refine Ev_callV (As := []) (b := 0) (st := []) (M' := M_X11_isChanged) cm_X11_isChanged wd_739 wd_741 wd_1 yX_0 cl_X11 rfl dX11_undo_17 (Nat.le_refl _) rfl (Nat.le_of_ble_eq_true rfl) (Nat.le_of_ble_eq_true rfl) h (fun v u h hk => ?_)
    cases hk
    obtain ⟨s3, rfl⟩ : ∃ x, x = u := ⟨_, rfl⟩
    refine Ev_iconst dX11_undo_20 rfl (ev_Rc rfl) ?_
    exact Ev_iret rfl dX11_undo_21 (ev_nb (by decide)) h
  · replace h := h.2 c
    refine Ev_iconst dX11_undo_14 rfl (ev_Rc rfl) ?_
    exact Ev_iret rfl dX11_undo_15 (ev_nb (by decide)) h
theorem dX11_image_0 : decode cX11_image 0 = .ok (.iload_n 1, 1) := by decide +kernel
theorem dX11_image_1 : decode cX11_image 1 = .ok (.ifCond .eq 24, 3) := by decide +kernel
theorem dX11_image_4 : decode cX11_image 4 = .ok (.aload_n 0, 1) := by decide +kernel
theorem dX11_image_5 : decode cX11_image 5 = .ok (.getfield 40, 3) := by decide +kernel
theorem dX11_image_8 : decode cX11_image 8 = .ok (.aload_n 0, 1) := by decide +kernel
theorem dX11_image_9 : decode cX11_image 9 = .ok (.getfield 12, 3) := by decide +kernel
theorem dX11_image_12 : decode cX11_image 12 = .ok (.aload_n 0, 1) := by decide +kernel
theorem dX11_image_13 : decode cX11_image 13 = .ok (.getfield 19, 3) := by decide +kernel
theorem dX11_image_16 : decode cX11_image 16 = .ok (.aload_n 0, 1) := by decide +kernel
theorem dX11_image_17 : decode cX11_image 17 = .ok (.getfield 26, 3) := by decide +kernel
theorem dX11_image_20 : decode cX11_image 20 = .ok (.invokevirtual 301, 3) := by decide +kernel
theorem dX11_image_23 : decode cX11_image 23 = .ok (.iconst 1, 1) := by decide +kernel
theorem dX11_image_24 : decode cX11_image 24 = .ok (.ireturn, 1) := by decide +kernel
theorem dX11_image_25 : decode cX11_image 25 = .ok (.aload_n 0, 1) := by decide +kernel
theorem dX11_image_26 : decode cX11_image 26 = .ok (.getfield 40, 3) := by decide +kernel
theorem dX11_image_29 : decode cX11_image 29 = .ok (.getfield 305, 3) := by decide +kernel
theorem dX11_image_32 : decode cX11_image 32 = .ok (.ifCond .ne 5, 3) := by decide +kernel
theorem dX11_image_35 : decode cX11_image 35 = .ok (.iconst 0, 1) := by decide +kernel
theorem dX11_image_36 : decode cX11_image 36 = .ok (.ireturn, 1) := by decide +kernel
theorem dX11_image_37 : decode cX11_image 37 = .ok (.aload_n 0, 1) := by decide +kernel
theorem dX11_image_38 : decode cX11_image 38 = .ok (.getfield 40, 3) := by decide +kernel
theorem dX11_image_41 : decode cX11_image 41 = .ok (.aload_n 0, 1) := by decide +kernel
theorem dX11_image_42 : decode cX11_image 42 = .ok (.getfield 12, 3) := by decide +kernel
theorem dX11_image_45 : decode cX11_image 45 = .ok (.aload_n 0, 1) := by decide +kernel
theorem dX11_image_46 : decode cX11_image 46 = .ok (.getfield 19, 3) := by decide +kernel
theorem dX11_image_49 : decode cX11_image 49 = .ok (.aload_n 0, 1) := by decide +kernel
theorem dX11_image_50 : decode cX11_image 50 = .ok (.getfield 26, 3) := by decide +kernel
theorem dX11_image_53 : decode cX11_image 53 = .ok (.invokevirtual 309, 3) := by decide +kernel
theorem dX11_image_56 : decode cX11_image 56 = .ok (.aload_n 0, 1) := by decide +kernel
theorem dX11_image_57 : decode cX11_image 57 = .ok (.invokevirtual 97, 3) := by decide +kernel
theorem dX11_image_60 : decode cX11_image 60 = .ok (.iconst 1, 1) := by decide +kernel
theorem dX11_image_61 : decode cX11_image 61 = .ok (.ireturn, 1) := by decide +kernel
theorem wp_X11_image_0 {d : Nat} {s : ev_S} {Q : Option ev_V → ev_S → Prop} {a1 : Int}
    (h : ((a1 = 0 → (((s 103 3) ≠ 0 → (Ev layX M_X6_giveBack d 0 [(0, ev_r 103), (1, ev_r 1), (2, ev_r 15), (3, ev_r 27)] [] s (fun _ s1 => (Ev layX M_X11_isTold d 0 [(0, ev_r 0)] [] s1 (fun _ s2 => Q (some (ev_i 1)) s2))))) ∧ ((s 103 3) = 0 → Q (some (ev_i 0)) s))) ∧ (a1 ≠ 0 → (Ev layX M_X6_take d 0 [(0, ev_r 103), (1, ev_r 1), (2, ev_r 15), (3, ev_r 27)] [] s (fun _ s3 => Q (some (ev_i 1)) s3))))) :
    Ev layX M_X11_image (d + 1) 0 [(0, ev_r 0), (1, ev_i a1)] [] s Q := by
  refine Ev_iload_n 1 dX11_image_0 rfl rfl ?_
  refine Ev_if_eq (tgt := 25) dX11_image_1 rfl (fun c => ?_) (fun c => ?_)
  · replace h := h.1 c
    refine Ev_aload_n 0 dX11_image_25 rfl rfl ?_
    refine Ev_getR (i := 4) cl_X11 yX_0 (Nat.le_of_ble_eq_true rfl) rfl wd_704 dX11_image_26 ?_
    refine Ev_get (i := 3) cl_X6 yX_103 (Nat.le_of_ble_eq_true rfl) rfl wd_460 dX11_image_29 ?_
    refine Ev_if_ne (tgt := 37) dX11_image_32 rfl (fun c => ?_) (fun c => ?_)
    · replace h := h.1 c
      refine Ev_aload_n 0 dX11_image_37 rfl rfl ?_
      refine Ev_getR (i := 4) cl_X11 yX_0 (Nat.le_of_ble_eq_true rfl) rfl wd_704 dX11_image_38 ?_
      refine Ev_aload_n 0 dX11_image_41 rfl rfl ?_
      refine Ev_getR (i := 0) cl_X11 yX_0 (Nat.le_of_ble_eq_true rfl) rfl wd_700 dX11_image_42 ?_
      refine Ev_aload_n 0 dX11_image_45 rfl rfl ?_
      refine Ev_getR (i := 1) cl_X11 yX_0 (Nat.le_of_ble_eq_true rfl) rfl wd_701 dX11_image_46 ?_
      refine Ev_aload_n 0 dX11_image_49 rfl rfl ?_
      refine Ev_getR (i := 2) cl_X11 yX_0 (Nat.le_of_ble_eq_true rfl) rfl wd_702 dX11_image_50 ?_
      refine Ev_callV (As := [ev_r 1, ev_r 15, ev_r 27]) (b := 103) (st := []) (M' := M_X6_giveBack) cm_X6_giveBack wd_1421 wd_1422 wd_1423 yX_103 cl_X6 rfl dX11_image_53 (Nat.le_refl _) rfl (Nat.le_of_ble_eq_true rfl) (Nat.le_of_ble_eq_true rfl) h (fun v u h hk => ?_)
      cases hk
      obtain ⟨s1, rfl⟩ : ∃ x, x = u := ⟨_, rfl⟩
      refine Ev_aload_n 0 dX11_image_56 rfl rfl ?_
      refine Ev_callV (As := []) (b := 0) (st := []) (M' := M_X11_isTold) cm_X11_isTold wd_735 wd_737 wd_0 yX_0 cl_X11 rfl dX11_image_57 (Nat.le_refl _) rfl (Nat.le_of_ble_eq_true rfl) (Nat.le_of_ble_eq_true rfl) h (fun v u h hk => ?_)
      cases hk
      obtain ⟨s2, rfl⟩ : ∃ x, x = u := ⟨_, rfl⟩
      refine Ev_iconst dX11_image_60 rfl (ev_Rc rfl) ?_
      exact Ev_iret rfl dX11_image_61 (ev_nb (by decide)) h
    · replace h := h.2 c
      refine Ev_iconst dX11_image_35 rfl (ev_Rc rfl) ?_
      exact Ev_iret rfl dX11_image_36 (ev_nb (by decide)) h
  · replace h := h.2 c
    refine Ev_aload_n 0 dX11_image_4 rfl rfl ?_
    refine Ev_getR (i := 4) cl_X11 yX_0 (Nat.le_of_ble_eq_true rfl) rfl wd_704 dX11_image_5 ?_
    refine Ev_aload_n 0 dX11_image_8 rfl rfl ?_
    refine Ev_getR (i := 0) cl_X11 yX_0 (Nat.le_of_ble_eq_true rfl) rfl wd_700 dX11_image_9 ?_
    refine Ev_aload_n 0 dX11_image_12 rfl rfl ?_
    refine Ev_getR (i := 1) cl_X11 yX_0 (Nat.le_of_ble_eq_true rfl) rfl wd_701 dX11_image_13 ?_
    refine Ev_aload_n 0 dX11_image_16 rfl rfl ?_
    refine Ev_getR (i := 2) cl_X11 yX_0 (Nat.le_of_ble_eq_true rfl) rfl wd_702 dX11_image_17 ?_
    refine Ev_callV (As := [ev_r 1, ev_r 15, ev_r 27]) (b := 103) (st := []) (M' := M_X6_take) cm_X6_take wd_1405 wd_1406 wd_1407 yX_103 cl_X6 rfl dX11_image_20 (Nat.le_refl _) rfl (Nat.le_of_ble_eq_true rfl) (Nat.le_of_ble_eq_true rfl) h (fun v u h hk => ?_)
    cases hk
    obtain ⟨s3, rfl⟩ : ∃ x, x = u := ⟨_, rfl⟩
    refine Ev_iconst dX11_image_23 rfl (ev_Rc rfl) ?_
    exact Ev_iret rfl dX11_image_24 (ev_nb (by decide)) h
theorem dX11_look_0 : decode cX11_look 0 = .ok (.iload_n 1, 1) := by decide +kernel
theorem dX11_look_1 : decode cX11_look 1 = .ok (.tableswitch 180 0 13 #[71, 79, 87, 95, 103, 111, 119, 127, 135, 146, 154, 159, 164, 172], 71) := by decide +kernel
theorem dX11_look_72 : decode cX11_look 72 = .ok (.aload_n 0, 1) := by decide +kernel
theorem dX11_look_73 : decode cX11_look 73 = .ok (.getfield 12, 3) := by decide +kernel
theorem dX11_look_76 : decode cX11_look 76 = .ok (.getfield 312, 3) := by decide +kernel
theorem dX11_look_79 : decode cX11_look 79 = .ok (.ireturn, 1) := by decide +kernel
theorem dX11_look_80 : decode cX11_look 80 = .ok (.aload_n 0, 1) := by decide +kernel
theorem dX11_look_81 : decode cX11_look 81 = .ok (.getfield 12, 3) := by decide +kernel
theorem dX11_look_84 : decode cX11_look 84 = .ok (.getfield 315, 3) := by decide +kernel
theorem dX11_look_87 : decode cX11_look 87 = .ok (.ireturn, 1) := by decide +kernel
theorem dX11_look_88 : decode cX11_look 88 = .ok (.aload_n 0, 1) := by decide +kernel
theorem dX11_look_89 : decode cX11_look 89 = .ok (.getfield 19, 3) := by decide +kernel
theorem dX11_look_92 : decode cX11_look 92 = .ok (.getfield 181, 3) := by decide +kernel
theorem dX11_look_95 : decode cX11_look 95 = .ok (.ireturn, 1) := by decide +kernel
theorem dX11_look_96 : decode cX11_look 96 = .ok (.aload_n 0, 1) := by decide +kernel
theorem dX11_look_97 : decode cX11_look 97 = .ok (.getfield 12, 3) := by decide +kernel
theorem dX11_look_100 : decode cX11_look 100 = .ok (.getfield 117, 3) := by decide +kernel
theorem dX11_look_103 : decode cX11_look 103 = .ok (.ireturn, 1) := by decide +kernel
theorem dX11_look_104 : decode cX11_look 104 = .ok (.aload_n 0, 1) := by decide +kernel
theorem dX11_look_105 : decode cX11_look 105 = .ok (.getfield 12, 3) := by decide +kernel
theorem dX11_look_108 : decode cX11_look 108 = .ok (.getfield 126, 3) := by decide +kernel
theorem dX11_look_111 : decode cX11_look 111 = .ok (.ireturn, 1) := by decide +kernel
theorem dX11_look_112 : decode cX11_look 112 = .ok (.aload_n 0, 1) := by decide +kernel
theorem dX11_look_113 : decode cX11_look 113 = .ok (.getfield 12, 3) := by decide +kernel
theorem dX11_look_116 : decode cX11_look 116 = .ok (.getfield 135, 3) := by decide +kernel
theorem dX11_look_119 : decode cX11_look 119 = .ok (.ireturn, 1) := by decide +kernel
theorem dX11_look_120 : decode cX11_look 120 = .ok (.aload_n 0, 1) := by decide +kernel
theorem dX11_look_121 : decode cX11_look 121 = .ok (.getfield 12, 3) := by decide +kernel
theorem dX11_look_124 : decode cX11_look 124 = .ok (.getfield 279, 3) := by decide +kernel
theorem dX11_look_127 : decode cX11_look 127 = .ok (.ireturn, 1) := by decide +kernel
theorem dX11_look_128 : decode cX11_look 128 = .ok (.aload_n 0, 1) := by decide +kernel
theorem dX11_look_129 : decode cX11_look 129 = .ok (.getfield 19, 3) := by decide +kernel
theorem dX11_look_132 : decode cX11_look 132 = .ok (.getfield 240, 3) := by decide +kernel
theorem dX11_look_135 : decode cX11_look 135 = .ok (.ireturn, 1) := by decide +kernel
theorem dX11_look_136 : decode cX11_look 136 = .ok (.aload_n 0, 1) := by decide +kernel
theorem dX11_look_137 : decode cX11_look 137 = .ok (.getfield 12, 3) := by decide +kernel
theorem dX11_look_140 : decode cX11_look 140 = .ok (.getfield 164, 3) := by decide +kernel
theorem dX11_look_143 : decode cX11_look 143 = .ok (.getfield 318, 3) := by decide +kernel
theorem dX11_look_146 : decode cX11_look 146 = .ok (.ireturn, 1) := by decide +kernel
theorem dX11_look_147 : decode cX11_look 147 = .ok (.aload_n 0, 1) := by decide +kernel
theorem dX11_look_148 : decode cX11_look 148 = .ok (.getfield 19, 3) := by decide +kernel
theorem dX11_look_151 : decode cX11_look 151 = .ok (.getfield 93, 3) := by decide +kernel
theorem dX11_look_154 : decode cX11_look 154 = .ok (.ireturn, 1) := by decide +kernel
theorem dX11_look_155 : decode cX11_look 155 = .ok (.aload_n 0, 1) := by decide +kernel
theorem dX11_look_156 : decode cX11_look 156 = .ok (.invokevirtual 320, 3) := by decide +kernel
theorem dX11_look_159 : decode cX11_look 159 = .ok (.ireturn, 1) := by decide +kernel
theorem dX11_look_160 : decode cX11_look 160 = .ok (.aload_n 0, 1) := by decide +kernel
theorem dX11_look_161 : decode cX11_look 161 = .ok (.invokevirtual 323, 3) := by decide +kernel
theorem dX11_look_164 : decode cX11_look 164 = .ok (.ireturn, 1) := by decide +kernel
theorem dX11_look_165 : decode cX11_look 165 = .ok (.aload_n 0, 1) := by decide +kernel
theorem dX11_look_166 : decode cX11_look 166 = .ok (.getfield 33, 3) := by decide +kernel
theorem dX11_look_169 : decode cX11_look 169 = .ok (.getfield 326, 3) := by decide +kernel
theorem dX11_look_172 : decode cX11_look 172 = .ok (.ireturn, 1) := by decide +kernel
theorem dX11_look_173 : decode cX11_look 173 = .ok (.aload_n 0, 1) := by decide +kernel
theorem dX11_look_174 : decode cX11_look 174 = .ok (.getfield 12, 3) := by decide +kernel
theorem dX11_look_177 : decode cX11_look 177 = .ok (.getfield 100, 3) := by decide +kernel
theorem dX11_look_180 : decode cX11_look 180 = .ok (.ireturn, 1) := by decide +kernel
theorem dX11_look_181 : decode cX11_look 181 = .ok (.iload_n 1, 1) := by decide +kernel
theorem dX11_look_182 : decode cX11_look 182 = .ok (.bipush 20, 2) := by decide +kernel
theorem dX11_look_184 : decode cX11_look 184 = .ok (.if_icmp .lt 24, 3) := by decide +kernel
theorem dX11_look_187 : decode cX11_look 187 = .ok (.iload_n 1, 1) := by decide +kernel
theorem dX11_look_188 : decode cX11_look 188 = .ok (.bipush 25, 2) := by decide +kernel
theorem dX11_look_190 : decode cX11_look 190 = .ok (.if_icmp .ge 18, 3) := by decide +kernel
theorem dX11_look_193 : decode cX11_look 193 = .ok (.aload_n 0, 1) := by decide +kernel
theorem dX11_look_194 : decode cX11_look 194 = .ok (.getfield 12, 3) := by decide +kernel
theorem dX11_look_197 : decode cX11_look 197 = .ok (.getfield 103, 3) := by decide +kernel
theorem dX11_look_200 : decode cX11_look 200 = .ok (.iload_n 1, 1) := by decide +kernel
theorem dX11_look_201 : decode cX11_look 201 = .ok (.bipush 20, 2) := by decide +kernel
theorem dX11_look_203 : decode cX11_look 203 = .ok (.isub, 1) := by decide +kernel
theorem dX11_look_204 : decode cX11_look 204 = .ok (.iaload, 1) := by decide +kernel
theorem dX11_look_205 : decode cX11_look 205 = .ok (.goto 4, 3) := by decide +kernel
theorem dX11_look_208 : decode cX11_look 208 = .ok (.iconst (-1), 1) := by decide +kernel
theorem dX11_look_209 : decode cX11_look 209 = .ok (.ireturn, 1) := by decide +kernel
theorem wp_X11_look_0 {d : Nat} {s : ev_S} {Q : Option ev_V → ev_S → Prop} {a1 : Int}
    (h : ((a1 < 0 ∨ 13 < a1 → ((a1 < 20 → Q (some (ev_i (-1))) s) ∧ (20 ≤ a1 → ((25 ≤ a1 → Q (some (ev_i (-1))) s) ∧ (a1 < 25 → ((0 ≤ (ev_sub a1 20) ∧ (ev_sub a1 20) < (5 : Nat)) ∧ Q (some (ev_i (s 2 (Int.toNat (ev_sub a1 20))))) s)))))) ∧ (a1 = 0 → Q (some (ev_i (s 1 0))) s) ∧ (a1 = 1 → Q (some (ev_i (s 1 1))) s) ∧ (a1 = 2 → Q (some (ev_i (s 15 0))) s) ∧ (a1 = 3 → Q (some (ev_i (s 1 4))) s) ∧ (a1 = 4 → Q (some (ev_i (s 1 7))) s) ∧ (a1 = 5 → Q (some (ev_i (s 1 11))) s) ∧ (a1 = 6 → Q (some (ev_i (s 1 13))) s) ∧ (a1 = 7 → Q (some (ev_i (s 15 13))) s) ∧ (a1 = 8 → Q (some (ev_i (s 10 5))) s) ∧ (a1 = 9 → Q (some (ev_i (s 15 1))) s) ∧ (a1 = 10 → (Ev layX M_X11_harmHappened d 0 [(0, ev_r 0)] [] s (ev_pi (fun r2 s1 => Q (some (ev_i r2)) s1)))) ∧ (a1 = 11 → (Ev layX M_X11_howManyAverted d 0 [(0, ev_r 0)] [] s (ev_pi (fun r4 s3 => Q (some (ev_i r4)) s3)))) ∧ (a1 = 12 → Q (some (ev_i (s 29 2))) s) ∧ (a1 = 13 → Q (some (ev_i (s 1 2))) s))) :
    Ev layX M_X11_look (d + 1) 0 [(0, ev_r 0), (1, ev_i a1)] [] s Q := by
  refine Ev_iload_n 1 dX11_look_0 rfl rfl ?_
  by_cases g : a1 < 0 ∨ 13 < a1
  · replace h := h.1 g
    refine Ev_tabOut (tgt := 181) dX11_look_1 g rfl ?_
    refine Ev_iload_n 1 dX11_look_181 rfl rfl ?_
    refine Ev_bipushC dX11_look_182 rfl ?_
    refine Ev_icmp_lt (tgt := 208) dX11_look_184 rfl (fun c => ?_) (fun c => ?_)
    · replace h := h.1 c
      refine Ev_iconst dX11_look_208 rfl (ev_Rc rfl) ?_
      exact Ev_iret rfl dX11_look_209 rfl h
    · replace h := h.2 c
      refine Ev_iload_n 1 dX11_look_187 rfl rfl ?_
      refine Ev_bipushC dX11_look_188 rfl ?_
      refine Ev_icmp_ge (tgt := 208) dX11_look_190 rfl (fun c => ?_) (fun c => ?_)
      · replace h := h.1 c
        refine Ev_iconst dX11_look_208 rfl (ev_Rc rfl) ?_
        exact Ev_iret rfl dX11_look_209 rfl h
      · replace h := h.2 c
        refine Ev_aload_n 0 dX11_look_193 rfl rfl ?_
        refine Ev_getR (i := 0) cl_X11 yX_0 (Nat.le_of_ble_eq_true rfl) rfl wd_700 dX11_look_194 ?_
        refine Ev_getR (i := 3) cl_X10 yX_1 (Nat.le_of_ble_eq_true rfl) rfl wd_251 dX11_look_197 ?_
        refine Ev_iload_n 1 dX11_look_200 rfl rfl ?_
        refine Ev_bipushC dX11_look_201 rfl ?_
        refine Ev_isub dX11_look_203 ?_
        obtain ⟨h0, h⟩ := h
        refine Ev_iald yX_2 h0 dX11_look_204 ?_
        refine Ev_goto (tgt := 209) dX11_look_205 rfl ?_
        exact Ev_iret rfl dX11_look_209 rfl h
  · replace h := h.2
    rcases (show a1 = 0 ∨ a1 = 1 ∨ a1 = 2 ∨ a1 = 3 ∨ a1 = 4 ∨ a1 = 5 ∨ a1 = 6 ∨ a1 = 7 ∨ a1 = 8 ∨ a1 = 9 ∨ a1 = 10 ∨ a1 = 11 ∨ a1 = 12 ∨ a1 = 13 by omega) with g | g | g | g | g | g | g | g | g | g | g | g | g | g
    · replace h := h.1 g
      refine Ev_tabIn (tgt := 72) (off := 71) dX11_look_1 (by omega) (by omega) (by rw [g]; rfl) rfl ?_
      refine Ev_aload_n 0 dX11_look_72 rfl rfl ?_
      refine Ev_getR (i := 0) cl_X11 yX_0 (Nat.le_of_ble_eq_true rfl) rfl wd_700 dX11_look_73 ?_
      refine Ev_get (i := 0) cl_X10 yX_1 (Nat.le_of_ble_eq_true rfl) rfl wd_242 dX11_look_76 ?_
      exact Ev_iret rfl dX11_look_79 rfl h
    · replace h := h.2.1 g
      refine Ev_tabIn (tgt := 80) (off := 79) dX11_look_1 (by omega) (by omega) (by rw [g]; rfl) rfl ?_
      refine Ev_aload_n 0 dX11_look_80 rfl rfl ?_
      refine Ev_getR (i := 0) cl_X11 yX_0 (Nat.le_of_ble_eq_true rfl) rfl wd_700 dX11_look_81 ?_
      refine Ev_get (i := 1) cl_X10 yX_1 (Nat.le_of_ble_eq_true rfl) rfl wd_245 dX11_look_84 ?_
      exact Ev_iret rfl dX11_look_87 rfl h
    · replace h := h.2.2.1 g
      refine Ev_tabIn (tgt := 88) (off := 87) dX11_look_1 (by omega) (by omega) (by rw [g]; rfl) rfl ?_
      refine Ev_aload_n 0 dX11_look_88 rfl rfl ?_
      refine Ev_getR (i := 1) cl_X11 yX_0 (Nat.le_of_ble_eq_true rfl) rfl wd_701 dX11_look_89 ?_
      refine Ev_get (i := 0) cl_X2 yX_15 (Nat.le_of_ble_eq_true rfl) rfl wd_340 dX11_look_92 ?_
      exact Ev_iret rfl dX11_look_95 rfl h
    · replace h := h.2.2.2.1 g
      refine Ev_tabIn (tgt := 96) (off := 95) dX11_look_1 (by omega) (by omega) (by rw [g]; rfl) rfl ?_
      refine Ev_aload_n 0 dX11_look_96 rfl rfl ?_
      refine Ev_getR (i := 0) cl_X11 yX_0 (Nat.le_of_ble_eq_true rfl) rfl wd_700 dX11_look_97 ?_
      refine Ev_get (i := 4) cl_X10 yX_1 (Nat.le_of_ble_eq_true rfl) rfl wd_255 dX11_look_100 ?_
      exact Ev_iret rfl dX11_look_103 rfl h
    · replace h := h.2.2.2.2.1 g
      refine Ev_tabIn (tgt := 104) (off := 103) dX11_look_1 (by omega) (by omega) (by rw [g]; rfl) rfl ?_
      refine Ev_aload_n 0 dX11_look_104 rfl rfl ?_
      refine Ev_getR (i := 0) cl_X11 yX_0 (Nat.le_of_ble_eq_true rfl) rfl wd_700 dX11_look_105 ?_
      refine Ev_get (i := 7) cl_X10 yX_1 (Nat.le_of_ble_eq_true rfl) rfl wd_266 dX11_look_108 ?_
      exact Ev_iret rfl dX11_look_111 rfl h
    · replace h := h.2.2.2.2.2.1 g
      refine Ev_tabIn (tgt := 112) (off := 111) dX11_look_1 (by omega) (by omega) (by rw [g]; rfl) rfl ?_
      refine Ev_aload_n 0 dX11_look_112 rfl rfl ?_
      refine Ev_getR (i := 0) cl_X11 yX_0 (Nat.le_of_ble_eq_true rfl) rfl wd_700 dX11_look_113 ?_
      refine Ev_get (i := 11) cl_X10 yX_1 (Nat.le_of_ble_eq_true rfl) rfl wd_281 dX11_look_116 ?_
      exact Ev_iret rfl dX11_look_119 rfl h
    · replace h := h.2.2.2.2.2.2.1 g
      refine Ev_tabIn (tgt := 120) (off := 119) dX11_look_1 (by omega) (by omega) (by rw [g]; rfl) rfl ?_
      refine Ev_aload_n 0 dX11_look_120 rfl rfl ?_
      refine Ev_getR (i := 0) cl_X11 yX_0 (Nat.le_of_ble_eq_true rfl) rfl wd_700 dX11_look_121 ?_
      refine Ev_get (i := 13) cl_X10 yX_1 (Nat.le_of_ble_eq_true rfl) rfl wd_289 dX11_look_124 ?_
      exact Ev_iret rfl dX11_look_127 rfl h
    · replace h := h.2.2.2.2.2.2.2.1 g
      refine Ev_tabIn (tgt := 128) (off := 127) dX11_look_1 (by omega) (by omega) (by rw [g]; rfl) rfl ?_
      refine Ev_aload_n 0 dX11_look_128 rfl rfl ?_
      refine Ev_getR (i := 1) cl_X11 yX_0 (Nat.le_of_ble_eq_true rfl) rfl wd_701 dX11_look_129 ?_
      refine Ev_get (i := 13) cl_X2 yX_15 (Nat.le_of_ble_eq_true rfl) rfl wd_383 dX11_look_132 ?_
      exact Ev_iret rfl dX11_look_135 rfl h
    · replace h := h.2.2.2.2.2.2.2.2.1 g
      refine Ev_tabIn (tgt := 136) (off := 135) dX11_look_1 (by omega) (by omega) (by rw [g]; rfl) rfl ?_
      refine Ev_aload_n 0 dX11_look_136 rfl rfl ?_
      refine Ev_getR (i := 0) cl_X11 yX_0 (Nat.le_of_ble_eq_true rfl) rfl wd_700 dX11_look_137 ?_
      refine Ev_getR (i := 15) cl_X10 yX_1 (Nat.le_of_ble_eq_true rfl) rfl wd_297 dX11_look_140 ?_
      refine Ev_get (i := 5) cl_X4 yX_10 (Nat.le_of_ble_eq_true rfl) rfl wd_224 dX11_look_143 ?_
      exact Ev_iret rfl dX11_look_146 rfl h
    · replace h := h.2.2.2.2.2.2.2.2.2.1 g
      refine Ev_tabIn (tgt := 147) (off := 146) dX11_look_1 (by omega) (by omega) (by rw [g]; rfl) rfl ?_
      refine Ev_aload_n 0 dX11_look_147 rfl rfl ?_
      refine Ev_getR (i := 1) cl_X11 yX_0 (Nat.le_of_ble_eq_true rfl) rfl wd_701 dX11_look_148 ?_
      refine Ev_get (i := 1) cl_X2 yX_15 (Nat.le_of_ble_eq_true rfl) rfl wd_342 dX11_look_151 ?_
      exact Ev_iret rfl dX11_look_154 rfl h
    · replace h := h.2.2.2.2.2.2.2.2.2.2.1 g
      refine Ev_tabIn (tgt := 155) (off := 154) dX11_look_1 (by omega) (by omega) (by rw [g]; rfl) rfl ?_
      refine Ev_aload_n 0 dX11_look_155 rfl rfl ?_
      refine Ev_callV (As := []) (b := 0) (st := []) (M' := M_X11_harmHappened) cm_X11_harmHappened wd_1429 wd_1431 wd_68 yX_0 cl_X11 rfl dX11_look_156 (Nat.le_refl _) rfl (Nat.le_of_ble_eq_true rfl) (Nat.le_of_ble_eq_true rfl) h (fun v u h hk => ?_)
      obtain ⟨r2, rfl⟩ := hk
      obtain ⟨s1, rfl⟩ : ∃ x, x = u := ⟨_, rfl⟩
      replace h := h r2 rfl
      exact Ev_iret rfl dX11_look_159 rfl h
    · replace h := h.2.2.2.2.2.2.2.2.2.2.2.1 g
      refine Ev_tabIn (tgt := 160) (off := 159) dX11_look_1 (by omega) (by omega) (by rw [g]; rfl) rfl ?_
      refine Ev_aload_n 0 dX11_look_160 rfl rfl ?_
      refine Ev_callV (As := []) (b := 0) (st := []) (M' := M_X11_howManyAverted) cm_X11_howManyAverted wd_1433 wd_1435 wd_69 yX_0 cl_X11 rfl dX11_look_161 (Nat.le_refl _) rfl (Nat.le_of_ble_eq_true rfl) (Nat.le_of_ble_eq_true rfl) h (fun v u h hk => ?_)
      obtain ⟨r4, rfl⟩ := hk
      obtain ⟨s3, rfl⟩ : ∃ x, x = u := ⟨_, rfl⟩
      replace h := h r4 rfl
      exact Ev_iret rfl dX11_look_164 rfl h
    · replace h := h.2.2.2.2.2.2.2.2.2.2.2.2.1 g
      refine Ev_tabIn (tgt := 165) (off := 164) dX11_look_1 (by omega) (by omega) (by rw [g]; rfl) rfl ?_
      refine Ev_aload_n 0 dX11_look_165 rfl rfl ?_
      refine Ev_getR (i := 3) cl_X11 yX_0 (Nat.le_of_ble_eq_true rfl) rfl wd_703 dX11_look_166 ?_
      refine Ev_get (i := 2) cl_X5 yX_29 (Nat.le_of_ble_eq_true rfl) rfl wd_436 dX11_look_169 ?_
      exact Ev_iret rfl dX11_look_172 rfl h
    · replace h := h.2.2.2.2.2.2.2.2.2.2.2.2.2 g
      refine Ev_tabIn (tgt := 173) (off := 172) dX11_look_1 (by omega) (by omega) (by rw [g]; rfl) rfl ?_
      refine Ev_aload_n 0 dX11_look_173 rfl rfl ?_
      refine Ev_getR (i := 0) cl_X11 yX_0 (Nat.le_of_ble_eq_true rfl) rfl wd_700 dX11_look_174 ?_
      refine Ev_get (i := 2) cl_X10 yX_1 (Nat.le_of_ble_eq_true rfl) rfl wd_247 dX11_look_177 ?_
      exact Ev_iret rfl dX11_look_180 rfl h
theorem dX11_isTold_0 : decode cX11_isTold 0 = .ok (.aload_n 0, 1) := by decide +kernel
theorem dX11_isTold_1 : decode cX11_isTold 1 = .ok (.getfield 33, 3) := by decide +kernel
theorem dX11_isTold_4 : decode cX11_isTold 4 = .ok (.iconst 0, 1) := by decide +kernel
theorem dX11_isTold_5 : decode cX11_isTold 5 = .ok (.putfield 326, 3) := by decide +kernel
theorem dX11_isTold_8 : decode cX11_isTold 8 = .ok (.aload_n 0, 1) := by decide +kernel
theorem dX11_isTold_9 : decode cX11_isTold 9 = .ok (.invokevirtual 192, 3) := by decide +kernel
theorem dX11_isTold_12 : decode cX11_isTold 12 = .ok (.return_, 1) := by decide +kernel
theorem wp_X11_isTold_0 {d : Nat} {s : ev_S} {Q : Option ev_V → ev_S → Prop}
    (h : (∀ s1, ev_up s 29 2 0 = s1 → (Ev layX M_X11_isChanged d 0 [(0, ev_r 0)] [] s1 (fun _ s2 => Q none s2)))) :
    Ev layX M_X11_isTold (d + 1) 0 [(0, ev_r 0)] [] s Q := by
  refine Ev_aload_n 0 dX11_isTold_0 rfl rfl ?_
  refine Ev_getR (i := 3) cl_X11 yX_0 (Nat.le_of_ble_eq_true rfl) rfl wd_703 dX11_isTold_1 ?_
  refine Ev_iconst dX11_isTold_4 rfl (ev_Rc rfl) ?_
  refine Ev_put (i := 2) (ty := .int) cl_X5 yX_29 (Nat.le_of_ble_eq_true rfl) rfl rfl (by decide +kernel) rfl rfl wd_436 dX11_isTold_5 (Ev_nm (fun s1 es1 => ?_))
  replace h := h s1 es1
  refine Ev_aload_n 0 dX11_isTold_8 rfl rfl ?_
  refine Ev_callV (As := []) (b := 0) (st := []) (M' := M_X11_isChanged) cm_X11_isChanged wd_739 wd_741 wd_1 yX_0 cl_X11 rfl dX11_isTold_9 (Nat.le_refl _) rfl (Nat.le_of_ble_eq_true rfl) (Nat.le_of_ble_eq_true rfl) h (fun v u h hk => ?_)
  cases hk
  obtain ⟨s2, rfl⟩ : ∃ x, x = u := ⟨_, rfl⟩
  exact Ev_vret rfl dX11_isTold_12 h
theorem dX11_isChanged_0 : decode cX11_isChanged 0 = .ok (.aload_n 0, 1) := by decide +kernel
theorem dX11_isChanged_1 : decode cX11_isChanged 1 = .ok (.getfield 74, 3) := by decide +kernel
theorem dX11_isChanged_4 : decode cX11_isChanged 4 = .ok (.iconst 0, 1) := by decide +kernel
theorem dX11_isChanged_5 : decode cX11_isChanged 5 = .ok (.putfield 329, 3) := by decide +kernel
theorem dX11_isChanged_8 : decode cX11_isChanged 8 = .ok (.aload_n 0, 1) := by decide +kernel
theorem dX11_isChanged_9 : decode cX11_isChanged 9 = .ok (.getfield 83, 3) := by decide +kernel
theorem dX11_isChanged_12 : decode cX11_isChanged 12 = .ok (.iconst 0, 1) := by decide +kernel
theorem dX11_isChanged_13 : decode cX11_isChanged 13 = .ok (.putfield 332, 3) := by decide +kernel
theorem dX11_isChanged_16 : decode cX11_isChanged 16 = .ok (.return_, 1) := by decide +kernel
theorem wp_X11_isChanged_0 {d : Nat} {s : ev_S} {Q : Option ev_V → ev_S → Prop}
    (h : (∀ s1, ev_up s 146 7 0 = s1 → (∀ s2, ev_up s1 162 19 0 = s2 → Q none s2))) :
    Ev layX M_X11_isChanged d 0 [(0, ev_r 0)] [] s Q := by
  refine Ev_aload_n 0 dX11_isChanged_0 rfl rfl ?_
  refine Ev_getR (i := 8) cl_X11 yX_0 (Nat.le_of_ble_eq_true rfl) rfl wd_708 dX11_isChanged_1 ?_
  refine Ev_iconst dX11_isChanged_4 rfl (ev_Rc rfl) ?_
  refine Ev_put (i := 7) (ty := .boolean) cl_X3 yX_146 (Nat.le_of_ble_eq_true rfl) rfl rfl (by decide +kernel) (ev_nb (by decide)) (ev_fb (by decide)) wd_578 dX11_isChanged_5 (Ev_nm (fun s1 es1 => ?_))
  replace h := h s1 es1
  refine Ev_aload_n 0 dX11_isChanged_8 rfl rfl ?_
  refine Ev_getR (i := 9) cl_X11 yX_0 (Nat.le_of_ble_eq_true rfl) rfl wd_709 dX11_isChanged_9 ?_
  refine Ev_iconst dX11_isChanged_12 rfl (ev_Rc rfl) ?_
  refine Ev_put (i := 19) (ty := .boolean) cl_X1 yX_162 (Nat.le_of_ble_eq_true rfl) rfl rfl (by decide +kernel) (ev_nb (by decide)) (ev_fb (by decide)) wd_638 dX11_isChanged_13 (Ev_nm (fun s2 es2 => ?_))
  replace h := h s2 es2
  exact Ev_vret rfl dX11_isChanged_16 h
theorem dX11_takeWay_0 : decode cX11_takeWay 0 = .ok (.iconst 0, 1) := by decide +kernel
theorem dX11_takeWay_1 : decode cX11_takeWay 1 = .ok (.istore_n 2, 1) := by decide +kernel
theorem dX11_takeWay_2 : decode cX11_takeWay 2 = .ok (.iload_n 2, 1) := by decide +kernel
theorem dX11_takeWay_3 : decode cX11_takeWay 3 = .ok (.aload_n 0, 1) := by decide +kernel
theorem dX11_takeWay_4 : decode cX11_takeWay 4 = .ok (.getfield 56, 3) := by decide +kernel
theorem dX11_takeWay_7 : decode cX11_takeWay 7 = .ok (.getfield 333, 3) := by decide +kernel
theorem dX11_takeWay_10 : decode cX11_takeWay 10 = .ok (.if_icmp .ge 41, 3) := by decide +kernel
theorem dX11_takeWay_13 : decode cX11_takeWay 13 = .ok (.iload_n 2, 1) := by decide +kernel
theorem dX11_takeWay_14 : decode cX11_takeWay 14 = .ok (.sipush 600, 3) := by decide +kernel
theorem dX11_takeWay_17 : decode cX11_takeWay 17 = .ok (.if_icmp .ge 34, 3) := by decide +kernel
theorem dX11_takeWay_20 : decode cX11_takeWay 20 = .ok (.aload_n 0, 1) := by decide +kernel
theorem dX11_takeWay_21 : decode cX11_takeWay 21 = .ok (.getfield 12, 3) := by decide +kernel
theorem dX11_takeWay_24 : decode cX11_takeWay 24 = .ok (.getfield 334, 3) := by decide +kernel
theorem dX11_takeWay_27 : decode cX11_takeWay 27 = .ok (.iload_n 1, 1) := by decide +kernel
theorem dX11_takeWay_28 : decode cX11_takeWay 28 = .ok (.sipush 600, 3) := by decide +kernel
theorem dX11_takeWay_31 : decode cX11_takeWay 31 = .ok (.imul, 1) := by decide +kernel
theorem dX11_takeWay_32 : decode cX11_takeWay 32 = .ok (.iload_n 2, 1) := by decide +kernel
theorem dX11_takeWay_33 : decode cX11_takeWay 33 = .ok (.iadd, 1) := by decide +kernel
theorem dX11_takeWay_34 : decode cX11_takeWay 34 = .ok (.aload_n 0, 1) := by decide +kernel
theorem dX11_takeWay_35 : decode cX11_takeWay 35 = .ok (.getfield 56, 3) := by decide +kernel
theorem dX11_takeWay_38 : decode cX11_takeWay 38 = .ok (.getfield 338, 3) := by decide +kernel
theorem dX11_takeWay_41 : decode cX11_takeWay 41 = .ok (.iload_n 2, 1) := by decide +kernel
theorem dX11_takeWay_42 : decode cX11_takeWay 42 = .ok (.iaload, 1) := by decide +kernel
theorem dX11_takeWay_43 : decode cX11_takeWay 43 = .ok (.i2b, 1) := by decide +kernel
theorem dX11_takeWay_44 : decode cX11_takeWay 44 = .ok (.bastore, 1) := by decide +kernel
theorem dX11_takeWay_45 : decode cX11_takeWay 45 = .ok (.iinc 2 1, 3) := by decide +kernel
theorem dX11_takeWay_48 : decode cX11_takeWay 48 = .ok (.goto (-46), 3) := by decide +kernel
theorem dX11_takeWay_51 : decode cX11_takeWay 51 = .ok (.aload_n 0, 1) := by decide +kernel
theorem dX11_takeWay_52 : decode cX11_takeWay 52 = .ok (.getfield 12, 3) := by decide +kernel
theorem dX11_takeWay_55 : decode cX11_takeWay 55 = .ok (.getfield 120, 3) := by decide +kernel
theorem dX11_takeWay_58 : decode cX11_takeWay 58 = .ok (.iload_n 1, 1) := by decide +kernel
theorem dX11_takeWay_59 : decode cX11_takeWay 59 = .ok (.aload_n 0, 1) := by decide +kernel
theorem dX11_takeWay_60 : decode cX11_takeWay 60 = .ok (.getfield 56, 3) := by decide +kernel
theorem dX11_takeWay_63 : decode cX11_takeWay 63 = .ok (.getfield 333, 3) := by decide +kernel
theorem dX11_takeWay_66 : decode cX11_takeWay 66 = .ok (.iastore, 1) := by decide +kernel
theorem dX11_takeWay_67 : decode cX11_takeWay 67 = .ok (.aload_n 0, 1) := by decide +kernel
theorem dX11_takeWay_68 : decode cX11_takeWay 68 = .ok (.getfield 19, 3) := by decide +kernel
theorem dX11_takeWay_71 : decode cX11_takeWay 71 = .ok (.getfield 198, 3) := by decide +kernel
theorem dX11_takeWay_74 : decode cX11_takeWay 74 = .ok (.iload_n 1, 1) := by decide +kernel
theorem dX11_takeWay_75 : decode cX11_takeWay 75 = .ok (.iconst 0, 1) := by decide +kernel
theorem dX11_takeWay_76 : decode cX11_takeWay 76 = .ok (.iastore, 1) := by decide +kernel
theorem dX11_takeWay_77 : decode cX11_takeWay 77 = .ok (.aload_n 0, 1) := by decide +kernel
theorem dX11_takeWay_78 : decode cX11_takeWay 78 = .ok (.getfield 19, 3) := by decide +kernel
theorem dX11_takeWay_81 : decode cX11_takeWay 81 = .ok (.getfield 195, 3) := by decide +kernel
theorem dX11_takeWay_84 : decode cX11_takeWay 84 = .ok (.iload_n 1, 1) := by decide +kernel
theorem dX11_takeWay_85 : decode cX11_takeWay 85 = .ok (.iconst 0, 1) := by decide +kernel
theorem dX11_takeWay_86 : decode cX11_takeWay 86 = .ok (.iastore, 1) := by decide +kernel
theorem dX11_takeWay_87 : decode cX11_takeWay 87 = .ok (.return_, 1) := by decide +kernel
theorem wp_X11_takeWay_0 {d : Nat} {s : ev_S} {Q : Option ev_V → ev_S → Prop} {a1 : Int}
    (h : Ev layX M_X11_takeWay d 2 [(0, ev_r 0), (1, ev_i a1), (2, ev_i 0)] [] s Q) :
    Ev layX M_X11_takeWay d 0 [(0, ev_r 0), (1, ev_i a1)] [] s Q := by
  refine Ev_iconst dX11_takeWay_0 rfl (ev_Rc rfl) ?_
  refine Ev_istore_n (l' := [(2, ev_i 0), (0, ev_r 0), (1, ev_i a1)]) dX11_takeWay_1 rfl (Nat.le_of_ble_eq_true rfl) rfl ?_
  exact Ev_sub [1, 2, 0] rfl h
theorem wp_X11_takeWay_2 {d : Nat} {s : ev_S} {Q : Option ev_V → ev_S → Prop} {a1 a2 : Int}
    (h : (((s 137 3) ≤ a2 → Ev layX M_X11_takeWay d 51 [(0, ev_r 0), (1, ev_i a1)] [] s Q) ∧ (a2 < (s 137 3) → ((600 ≤ a2 → Ev layX M_X11_takeWay d 51 [(0, ev_r 0), (1, ev_i a1)] [] s Q) ∧ (a2 < 600 → ((0 ≤ a2 ∧ a2 < (600 : Nat)) ∧ ((0 ≤ (ev_add (ev_mul a1 600) a2) ∧ (ev_add (ev_mul a1 600) a2) < (4800 : Nat)) ∧ ∀ s1, ev_up s 3 (Int.toNat (ev_add (ev_mul a1 600) a2)) (ev_nar .byte (ev_i2b (s 138 (Int.toNat a2)))) = s1 → Ev layX M_X11_takeWay d 2 [(0, ev_r 0), (1, ev_i a1), (2, ev_i (ev_add a2 1))] [] s1 Q))))))) :
    Ev layX M_X11_takeWay d 2 [(0, ev_r 0), (1, ev_i a1), (2, ev_i a2)] [] s Q := by
  refine Ev_iload_n 2 dX11_takeWay_2 rfl rfl ?_
  refine Ev_aload_n 0 dX11_takeWay_3 rfl rfl ?_
  refine Ev_getR (i := 6) cl_X11 yX_0 (Nat.le_of_ble_eq_true rfl) rfl wd_706 dX11_takeWay_4 ?_
  refine Ev_get (i := 3) cl_X8 yX_137 (Nat.le_of_ble_eq_true rfl) rfl wd_514 dX11_takeWay_7 ?_
  refine Ev_icmp_ge (tgt := 51) dX11_takeWay_10 rfl (fun c => ?_) (fun c => ?_)
  · replace h := h.1 c
    exact Ev_sub [0, 1] rfl h
  · replace h := h.2 c
    refine Ev_iload_n 2 dX11_takeWay_13 rfl rfl ?_
    refine Ev_sipushC dX11_takeWay_14 rfl ?_
    refine Ev_icmp_ge (tgt := 51) dX11_takeWay_17 rfl (fun c => ?_) (fun c => ?_)
    · replace h := h.1 c
      exact Ev_sub [0, 1] rfl h
    · replace h := h.2 c
      refine Ev_aload_n 0 dX11_takeWay_20 rfl rfl ?_
      refine Ev_getR (i := 0) cl_X11 yX_0 (Nat.le_of_ble_eq_true rfl) rfl wd_700 dX11_takeWay_21 ?_
      refine Ev_getR (i := 5) cl_X10 yX_1 (Nat.le_of_ble_eq_true rfl) rfl wd_259 dX11_takeWay_24 ?_
      refine Ev_iload_n 1 dX11_takeWay_27 rfl rfl ?_
      refine Ev_sipushC dX11_takeWay_28 rfl ?_
      refine Ev_imul dX11_takeWay_31 ?_
      refine Ev_iload_n 2 dX11_takeWay_32 rfl rfl ?_
      refine Ev_iadd dX11_takeWay_33 ?_
      refine Ev_aload_n 0 dX11_takeWay_34 rfl rfl ?_
      refine Ev_getR (i := 6) cl_X11 yX_0 (Nat.le_of_ble_eq_true rfl) rfl wd_706 dX11_takeWay_35 ?_
      refine Ev_getR (i := 2) cl_X8 yX_137 (Nat.le_of_ble_eq_true rfl) rfl wd_512 dX11_takeWay_38 ?_
      refine Ev_iload_n 2 dX11_takeWay_41 rfl rfl ?_
      obtain ⟨h0, h⟩ := h
      refine Ev_iald yX_138 h0 dX11_takeWay_42 ?_
      refine Ev_i2b dX11_takeWay_43 ?_
      obtain ⟨h0, h⟩ := h
      refine Ev_bast yX_3 h0 dX11_takeWay_44 (Ev_nm (fun s1 es1 => ?_))
      replace h := h s1 es1
      refine Ev_iinc (j := 2) (l' := [(2, ev_i (ev_add a2 1)), (0, ev_r 0), (1, ev_i a1)]) dX11_takeWay_45 rfl (Nat.le_of_ble_eq_true rfl) rfl ?_
      refine Ev_goto (tgt := 2) dX11_takeWay_48 rfl ?_
      exact Ev_sub [1, 2, 0] rfl h
theorem wp_X11_takeWay_51 {d : Nat} {s : ev_S} {Q : Option ev_V → ev_S → Prop} {a1 : Int}
    (h : ((0 ≤ a1 ∧ a1 < (8 : Nat)) ∧ ∀ s1, ev_up s 4 (Int.toNat a1) (s 137 3) = s1 → ((0 ≤ a1 ∧ a1 < (8 : Nat)) ∧ ∀ s2, ev_up s1 18 (Int.toNat a1) 0 = s2 → ((0 ≤ a1 ∧ a1 < (8 : Nat)) ∧ ∀ s3, ev_up s2 17 (Int.toNat a1) 0 = s3 → Q none s3)))) :
    Ev layX M_X11_takeWay d 51 [(0, ev_r 0), (1, ev_i a1)] [] s Q := by
  refine Ev_aload_n 0 dX11_takeWay_51 rfl rfl ?_
  refine Ev_getR (i := 0) cl_X11 yX_0 (Nat.le_of_ble_eq_true rfl) rfl wd_700 dX11_takeWay_52 ?_
  refine Ev_getR (i := 6) cl_X10 yX_1 (Nat.le_of_ble_eq_true rfl) rfl wd_261 dX11_takeWay_55 ?_
  refine Ev_iload_n 1 dX11_takeWay_58 rfl rfl ?_
  refine Ev_aload_n 0 dX11_takeWay_59 rfl rfl ?_
  refine Ev_getR (i := 6) cl_X11 yX_0 (Nat.le_of_ble_eq_true rfl) rfl wd_706 dX11_takeWay_60 ?_
  refine Ev_get (i := 3) cl_X8 yX_137 (Nat.le_of_ble_eq_true rfl) rfl wd_514 dX11_takeWay_63 ?_
  obtain ⟨h0, h⟩ := h
  refine Ev_iast yX_4 h0 dX11_takeWay_66 (Ev_nm (fun s1 es1 => ?_))
  replace h := h s1 es1
  refine Ev_aload_n 0 dX11_takeWay_67 rfl rfl ?_
  refine Ev_getR (i := 1) cl_X11 yX_0 (Nat.le_of_ble_eq_true rfl) rfl wd_701 dX11_takeWay_68 ?_
  refine Ev_getR (i := 4) cl_X2 yX_15 (Nat.le_of_ble_eq_true rfl) rfl wd_353 dX11_takeWay_71 ?_
  refine Ev_iload_n 1 dX11_takeWay_74 rfl rfl ?_
  refine Ev_iconst dX11_takeWay_75 rfl (ev_Rc rfl) ?_
  obtain ⟨h0, h⟩ := h
  refine Ev_iast yX_18 h0 dX11_takeWay_76 (Ev_nm (fun s2 es2 => ?_))
  replace h := h s2 es2
  refine Ev_aload_n 0 dX11_takeWay_77 rfl rfl ?_
  refine Ev_getR (i := 1) cl_X11 yX_0 (Nat.le_of_ble_eq_true rfl) rfl wd_701 dX11_takeWay_78 ?_
  refine Ev_getR (i := 3) cl_X2 yX_15 (Nat.le_of_ble_eq_true rfl) rfl wd_350 dX11_takeWay_81 ?_
  refine Ev_iload_n 1 dX11_takeWay_84 rfl rfl ?_
  refine Ev_iconst dX11_takeWay_85 rfl (ev_Rc rfl) ?_
  obtain ⟨h0, h⟩ := h
  refine Ev_iast yX_17 h0 dX11_takeWay_86 (Ev_nm (fun s3 es3 => ?_))
  replace h := h s3 es3
  exact Ev_vret rfl dX11_takeWay_87 h
theorem dX11_takeMishaps_0 : decode cX11_takeMishaps 0 = .ok (.aload_n 0, 1) := by decide +kernel
theorem dX11_takeMishaps_1 : decode cX11_takeMishaps 1 = .ok (.getfield 56, 3) := by decide +kernel
theorem dX11_takeMishaps_4 : decode cX11_takeMishaps 4 = .ok (.getfield 338, 3) := by decide +kernel
theorem dX11_takeMishaps_7 : decode cX11_takeMishaps 7 = .ok (.iconst 0, 1) := by decide +kernel
theorem dX11_takeMishaps_8 : decode cX11_takeMishaps 8 = .ok (.aload_n 0, 1) := by decide +kernel
theorem dX11_takeMishaps_9 : decode cX11_takeMishaps 9 = .ok (.getfield 12, 3) := by decide +kernel
theorem dX11_takeMishaps_12 : decode cX11_takeMishaps 12 = .ok (.getfield 222, 3) := by decide +kernel
theorem dX11_takeMishaps_15 : decode cX11_takeMishaps 15 = .ok (.iconst 0, 1) := by decide +kernel
theorem dX11_takeMishaps_16 : decode cX11_takeMishaps 16 = .ok (.aload_n 0, 1) := by decide +kernel
theorem dX11_takeMishaps_17 : decode cX11_takeMishaps 17 = .ok (.getfield 56, 3) := by decide +kernel
theorem dX11_takeMishaps_20 : decode cX11_takeMishaps 20 = .ok (.getfield 333, 3) := by decide +kernel
theorem dX11_takeMishaps_23 : decode cX11_takeMishaps 23 = .ok (.invokestatic 341, 3) := by decide +kernel
theorem dX11_takeMishaps_26 : decode cX11_takeMishaps 26 = .ok (.aload_n 0, 1) := by decide +kernel
theorem dX11_takeMishaps_27 : decode cX11_takeMishaps 27 = .ok (.getfield 12, 3) := by decide +kernel
theorem dX11_takeMishaps_30 : decode cX11_takeMishaps 30 = .ok (.aload_n 0, 1) := by decide +kernel
theorem dX11_takeMishaps_31 : decode cX11_takeMishaps 31 = .ok (.getfield 56, 3) := by decide +kernel
theorem dX11_takeMishaps_34 : decode cX11_takeMishaps 34 = .ok (.getfield 347, 3) := by decide +kernel
theorem dX11_takeMishaps_37 : decode cX11_takeMishaps 37 = .ok (.putfield 279, 3) := by decide +kernel
theorem dX11_takeMishaps_40 : decode cX11_takeMishaps 40 = .ok (.aload_n 0, 1) := by decide +kernel
theorem dX11_takeMishaps_41 : decode cX11_takeMishaps 41 = .ok (.getfield 19, 3) := by decide +kernel
theorem dX11_takeMishaps_44 : decode cX11_takeMishaps 44 = .ok (.invokevirtual 350, 3) := by decide +kernel
theorem dX11_takeMishaps_47 : decode cX11_takeMishaps 47 = .ok (.return_, 1) := by decide +kernel
theorem wp_X11_takeMishaps_0 {d : Nat} {s : ev_S} {Q : Option ev_V → ev_S → Prop}
    (h : ((0 ≤ (0 : Int) ∧ 0 ≤ (0 : Int) ∧ 0 ≤ ((s 137 3) : Int) ∧ (0 : Int) + (s 137 3) ≤ (600 : Nat) ∧ (0 : Int) + (s 137 3) ≤ (70 : Nat)) ∧ ∀ s1, ev_cp s 138 (Int.toNat 0) 9 (Int.toNat 0) (Int.toNat (s 137 3)) = s1 → (∀ s2, ev_up s1 1 13 (s1 137 4) = s2 → (Ev layX M_X2_clearMishaps d 0 [(0, ev_r 15)] [] s2 (fun _ s3 => Q none s3))))) :
    Ev layX M_X11_takeMishaps (d + 1) 0 [(0, ev_r 0)] [] s Q := by
  refine Ev_aload_n 0 dX11_takeMishaps_0 rfl rfl ?_
  refine Ev_getR (i := 6) cl_X11 yX_0 (Nat.le_of_ble_eq_true rfl) rfl wd_706 dX11_takeMishaps_1 ?_
  refine Ev_getR (i := 2) cl_X8 yX_137 (Nat.le_of_ble_eq_true rfl) rfl wd_512 dX11_takeMishaps_4 ?_
  refine Ev_iconst dX11_takeMishaps_7 rfl (ev_Rc rfl) ?_
  refine Ev_aload_n 0 dX11_takeMishaps_8 rfl rfl ?_
  refine Ev_getR (i := 0) cl_X11 yX_0 (Nat.le_of_ble_eq_true rfl) rfl wd_700 dX11_takeMishaps_9 ?_
  refine Ev_getR (i := 14) cl_X10 yX_1 (Nat.le_of_ble_eq_true rfl) rfl wd_293 dX11_takeMishaps_12 ?_
  refine Ev_iconst dX11_takeMishaps_15 rfl (ev_Rc rfl) ?_
  refine Ev_aload_n 0 dX11_takeMishaps_16 rfl rfl ?_
  refine Ev_getR (i := 6) cl_X11 yX_0 (Nat.le_of_ble_eq_true rfl) rfl wd_706 dX11_takeMishaps_17 ?_
  refine Ev_get (i := 3) cl_X8 yX_137 (Nat.le_of_ble_eq_true rfl) rfl wd_514 dX11_takeMishaps_20 ?_
  obtain ⟨h0, h⟩ := h
  refine Ev_copyi yX_138 yX_9 h0 wd_1033 dX11_takeMishaps_23 (Nat.le_of_ble_eq_true rfl) (Ev_nm (fun s1 es1 => ?_))
  replace h := h s1 es1
  refine Ev_aload_n 0 dX11_takeMishaps_26 rfl rfl ?_
  refine Ev_getR (i := 0) cl_X11 yX_0 (Nat.le_of_ble_eq_true rfl) rfl wd_700 dX11_takeMishaps_27 ?_
  refine Ev_aload_n 0 dX11_takeMishaps_30 rfl rfl ?_
  refine Ev_getR (i := 6) cl_X11 yX_0 (Nat.le_of_ble_eq_true rfl) rfl wd_706 dX11_takeMishaps_31 ?_
  refine Ev_get (i := 4) cl_X8 yX_137 (Nat.le_of_ble_eq_true rfl) rfl wd_516 dX11_takeMishaps_34 ?_
  refine Ev_put (i := 13) (ty := .int) cl_X10 yX_1 (Nat.le_of_ble_eq_true rfl) rfl rfl (by decide +kernel) rfl rfl wd_289 dX11_takeMishaps_37 (Ev_nm (fun s2 es2 => ?_))
  replace h := h s2 es2
  refine Ev_aload_n 0 dX11_takeMishaps_40 rfl rfl ?_
  refine Ev_getR (i := 1) cl_X11 yX_0 (Nat.le_of_ble_eq_true rfl) rfl wd_701 dX11_takeMishaps_41 ?_
  refine Ev_callV (As := []) (b := 15) (st := []) (M' := M_X2_clearMishaps) cm_X2_clearMishaps wd_1036 wd_697 wd_698 yX_15 cl_X2 rfl dX11_takeMishaps_44 (Nat.le_refl _) rfl (Nat.le_of_ble_eq_true rfl) (Nat.le_of_ble_eq_true rfl) h (fun v u h hk => ?_)
  cases hk
  obtain ⟨s3, rfl⟩ : ∃ x, x = u := ⟨_, rfl⟩
  exact Ev_vret rfl dX11_takeMishaps_47 h
theorem dX11_takePlan_0 : decode cX11_takePlan 0 = .ok (.aload_n 0, 1) := by decide +kernel
theorem dX11_takePlan_1 : decode cX11_takePlan 1 = .ok (.getfield 56, 3) := by decide +kernel
theorem dX11_takePlan_4 : decode cX11_takePlan 4 = .ok (.getfield 338, 3) := by decide +kernel
theorem dX11_takePlan_7 : decode cX11_takePlan 7 = .ok (.iconst 0, 1) := by decide +kernel
theorem dX11_takePlan_8 : decode cX11_takePlan 8 = .ok (.aload_n 0, 1) := by decide +kernel
theorem dX11_takePlan_9 : decode cX11_takePlan 9 = .ok (.getfield 12, 3) := by decide +kernel
theorem dX11_takePlan_12 : decode cX11_takePlan 12 = .ok (.getfield 353, 3) := by decide +kernel
theorem dX11_takePlan_15 : decode cX11_takePlan 15 = .ok (.iload_n 1, 1) := by decide +kernel
theorem dX11_takePlan_16 : decode cX11_takePlan 16 = .ok (.bipush 40, 2) := by decide +kernel
theorem dX11_takePlan_18 : decode cX11_takePlan 18 = .ok (.imul, 1) := by decide +kernel
theorem dX11_takePlan_19 : decode cX11_takePlan 19 = .ok (.iconst 2, 1) := by decide +kernel
theorem dX11_takePlan_20 : decode cX11_takePlan 20 = .ok (.imul, 1) := by decide +kernel
theorem dX11_takePlan_21 : decode cX11_takePlan 21 = .ok (.aload_n 0, 1) := by decide +kernel
theorem dX11_takePlan_22 : decode cX11_takePlan 22 = .ok (.getfield 56, 3) := by decide +kernel
theorem dX11_takePlan_25 : decode cX11_takePlan 25 = .ok (.getfield 333, 3) := by decide +kernel
theorem dX11_takePlan_28 : decode cX11_takePlan 28 = .ok (.invokestatic 341, 3) := by decide +kernel
theorem dX11_takePlan_31 : decode cX11_takePlan 31 = .ok (.aload_n 0, 1) := by decide +kernel
theorem dX11_takePlan_32 : decode cX11_takePlan 32 = .ok (.getfield 12, 3) := by decide +kernel
theorem dX11_takePlan_35 : decode cX11_takePlan 35 = .ok (.getfield 129, 3) := by decide +kernel
theorem dX11_takePlan_38 : decode cX11_takePlan 38 = .ok (.iload_n 1, 1) := by decide +kernel
theorem dX11_takePlan_39 : decode cX11_takePlan 39 = .ok (.aload_n 0, 1) := by decide +kernel
theorem dX11_takePlan_40 : decode cX11_takePlan 40 = .ok (.getfield 56, 3) := by decide +kernel
theorem dX11_takePlan_43 : decode cX11_takePlan 43 = .ok (.getfield 347, 3) := by decide +kernel
theorem dX11_takePlan_46 : decode cX11_takePlan 46 = .ok (.iastore, 1) := by decide +kernel
theorem dX11_takePlan_47 : decode cX11_takePlan 47 = .ok (.aload_n 0, 1) := by decide +kernel
theorem dX11_takePlan_48 : decode cX11_takePlan 48 = .ok (.getfield 19, 3) := by decide +kernel
theorem dX11_takePlan_51 : decode cX11_takePlan 51 = .ok (.getfield 207, 3) := by decide +kernel
theorem dX11_takePlan_54 : decode cX11_takePlan 54 = .ok (.iload_n 1, 1) := by decide +kernel
theorem dX11_takePlan_55 : decode cX11_takePlan 55 = .ok (.iconst 0, 1) := by decide +kernel
theorem dX11_takePlan_56 : decode cX11_takePlan 56 = .ok (.iastore, 1) := by decide +kernel
theorem dX11_takePlan_57 : decode cX11_takePlan 57 = .ok (.aload_n 0, 1) := by decide +kernel
theorem dX11_takePlan_58 : decode cX11_takePlan 58 = .ok (.getfield 19, 3) := by decide +kernel
theorem dX11_takePlan_61 : decode cX11_takePlan 61 = .ok (.getfield 201, 3) := by decide +kernel
theorem dX11_takePlan_64 : decode cX11_takePlan 64 = .ok (.iload_n 1, 1) := by decide +kernel
theorem dX11_takePlan_65 : decode cX11_takePlan 65 = .ok (.iconst 0, 1) := by decide +kernel
theorem dX11_takePlan_66 : decode cX11_takePlan 66 = .ok (.iastore, 1) := by decide +kernel
theorem dX11_takePlan_67 : decode cX11_takePlan 67 = .ok (.aload_n 0, 1) := by decide +kernel
theorem dX11_takePlan_68 : decode cX11_takePlan 68 = .ok (.getfield 19, 3) := by decide +kernel
theorem dX11_takePlan_71 : decode cX11_takePlan 71 = .ok (.getfield 356, 3) := by decide +kernel
theorem dX11_takePlan_74 : decode cX11_takePlan 74 = .ok (.iload_n 1, 1) := by decide +kernel
theorem dX11_takePlan_75 : decode cX11_takePlan 75 = .ok (.iconst (-1), 1) := by decide +kernel
theorem dX11_takePlan_76 : decode cX11_takePlan 76 = .ok (.iastore, 1) := by decide +kernel
theorem dX11_takePlan_77 : decode cX11_takePlan 77 = .ok (.return_, 1) := by decide +kernel
theorem wp_X11_takePlan_0 {d : Nat} {s : ev_S} {Q : Option ev_V → ev_S → Prop} {a1 : Int}
    (h : ((0 ≤ (0 : Int) ∧ 0 ≤ ((ev_mul (ev_mul a1 40) 2) : Int) ∧ 0 ≤ ((s 137 3) : Int) ∧ (0 : Int) + (s 137 3) ≤ (600 : Nat) ∧ ((ev_mul (ev_mul a1 40) 2) : Int) + (s 137 3) ≤ (480 : Nat)) ∧ ∀ s1, ev_cp s 138 (Int.toNat 0) 6 (Int.toNat (ev_mul (ev_mul a1 40) 2)) (Int.toNat (s 137 3)) = s1 → ((0 ≤ a1 ∧ a1 < (6 : Nat)) ∧ ∀ s2, ev_up s1 7 (Int.toNat a1) (s1 137 4) = s2 → ((0 ≤ a1 ∧ a1 < (6 : Nat)) ∧ ∀ s3, ev_up s2 22 (Int.toNat a1) 0 = s3 → ((0 ≤ a1 ∧ a1 < (6 : Nat)) ∧ ∀ s4, ev_up s3 20 (Int.toNat a1) 0 = s4 → ((0 ≤ a1 ∧ a1 < (6 : Nat)) ∧ ∀ s5, ev_up s4 21 (Int.toNat a1) (-1) = s5 → Q none s5)))))) :
    Ev layX M_X11_takePlan (d + 1) 0 [(0, ev_r 0), (1, ev_i a1)] [] s Q := by
  refine Ev_aload_n 0 dX11_takePlan_0 rfl rfl ?_
  refine Ev_getR (i := 6) cl_X11 yX_0 (Nat.le_of_ble_eq_true rfl) rfl wd_706 dX11_takePlan_1 ?_
  refine Ev_getR (i := 2) cl_X8 yX_137 (Nat.le_of_ble_eq_true rfl) rfl wd_512 dX11_takePlan_4 ?_
  refine Ev_iconst dX11_takePlan_7 rfl (ev_Rc rfl) ?_
  refine Ev_aload_n 0 dX11_takePlan_8 rfl rfl ?_
  refine Ev_getR (i := 0) cl_X11 yX_0 (Nat.le_of_ble_eq_true rfl) rfl wd_700 dX11_takePlan_9 ?_
  refine Ev_getR (i := 9) cl_X10 yX_1 (Nat.le_of_ble_eq_true rfl) rfl wd_275 dX11_takePlan_12 ?_
  refine Ev_iload_n 1 dX11_takePlan_15 rfl rfl ?_
  refine Ev_bipushC dX11_takePlan_16 rfl ?_
  refine Ev_imul dX11_takePlan_18 ?_
  refine Ev_iconst dX11_takePlan_19 rfl (ev_Rc rfl) ?_
  refine Ev_imul dX11_takePlan_20 ?_
  refine Ev_aload_n 0 dX11_takePlan_21 rfl rfl ?_
  refine Ev_getR (i := 6) cl_X11 yX_0 (Nat.le_of_ble_eq_true rfl) rfl wd_706 dX11_takePlan_22 ?_
  refine Ev_get (i := 3) cl_X8 yX_137 (Nat.le_of_ble_eq_true rfl) rfl wd_514 dX11_takePlan_25 ?_
  obtain ⟨h0, h⟩ := h
  refine Ev_copyi yX_138 yX_6 h0 wd_1033 dX11_takePlan_28 (Nat.le_of_ble_eq_true rfl) (Ev_nm (fun s1 es1 => ?_))
  replace h := h s1 es1
  refine Ev_aload_n 0 dX11_takePlan_31 rfl rfl ?_
  refine Ev_getR (i := 0) cl_X11 yX_0 (Nat.le_of_ble_eq_true rfl) rfl wd_700 dX11_takePlan_32 ?_
  refine Ev_getR (i := 10) cl_X10 yX_1 (Nat.le_of_ble_eq_true rfl) rfl wd_278 dX11_takePlan_35 ?_
  refine Ev_iload_n 1 dX11_takePlan_38 rfl rfl ?_
  refine Ev_aload_n 0 dX11_takePlan_39 rfl rfl ?_
  refine Ev_getR (i := 6) cl_X11 yX_0 (Nat.le_of_ble_eq_true rfl) rfl wd_706 dX11_takePlan_40 ?_
  refine Ev_get (i := 4) cl_X8 yX_137 (Nat.le_of_ble_eq_true rfl) rfl wd_516 dX11_takePlan_43 ?_
  obtain ⟨h0, h⟩ := h
  refine Ev_iast yX_7 h0 dX11_takePlan_46 (Ev_nm (fun s2 es2 => ?_))
  replace h := h s2 es2
  refine Ev_aload_n 0 dX11_takePlan_47 rfl rfl ?_
  refine Ev_getR (i := 1) cl_X11 yX_0 (Nat.le_of_ble_eq_true rfl) rfl wd_701 dX11_takePlan_48 ?_
  refine Ev_getR (i := 8) cl_X2 yX_15 (Nat.le_of_ble_eq_true rfl) rfl wd_367 dX11_takePlan_51 ?_
  refine Ev_iload_n 1 dX11_takePlan_54 rfl rfl ?_
  refine Ev_iconst dX11_takePlan_55 rfl (ev_Rc rfl) ?_
  obtain ⟨h0, h⟩ := h
  refine Ev_iast yX_22 h0 dX11_takePlan_56 (Ev_nm (fun s3 es3 => ?_))
  replace h := h s3 es3
  refine Ev_aload_n 0 dX11_takePlan_57 rfl rfl ?_
  refine Ev_getR (i := 1) cl_X11 yX_0 (Nat.le_of_ble_eq_true rfl) rfl wd_701 dX11_takePlan_58 ?_
  refine Ev_getR (i := 6) cl_X2 yX_15 (Nat.le_of_ble_eq_true rfl) rfl wd_361 dX11_takePlan_61 ?_
  refine Ev_iload_n 1 dX11_takePlan_64 rfl rfl ?_
  refine Ev_iconst dX11_takePlan_65 rfl (ev_Rc rfl) ?_
  obtain ⟨h0, h⟩ := h
  refine Ev_iast yX_20 h0 dX11_takePlan_66 (Ev_nm (fun s4 es4 => ?_))
  replace h := h s4 es4
  refine Ev_aload_n 0 dX11_takePlan_67 rfl rfl ?_
  refine Ev_getR (i := 1) cl_X11 yX_0 (Nat.le_of_ble_eq_true rfl) rfl wd_701 dX11_takePlan_68 ?_
  refine Ev_getR (i := 7) cl_X2 yX_15 (Nat.le_of_ble_eq_true rfl) rfl wd_364 dX11_takePlan_71 ?_
  refine Ev_iload_n 1 dX11_takePlan_74 rfl rfl ?_
  refine Ev_iconst dX11_takePlan_75 rfl (ev_Rc rfl) ?_
  obtain ⟨h0, h⟩ := h
  refine Ev_iast yX_21 h0 dX11_takePlan_76 (Ev_nm (fun s5 es5 => ?_))
  replace h := h s5 es5
  exact Ev_vret rfl dX11_takePlan_77 h
theorem dX11_avertedByLine_0 : decode cX11_avertedByLine 0 = .ok (.iconst 0, 1) := by decide +kernel
theorem dX11_avertedByLine_1 : decode cX11_avertedByLine 1 = .ok (.istore_n 2, 1) := by decide +kernel
theorem dX11_avertedByLine_2 : decode cX11_avertedByLine 2 = .ok (.iconst 0, 1) := by decide +kernel
theorem dX11_avertedByLine_3 : decode cX11_avertedByLine 3 = .ok (.istore_n 3, 1) := by decide +kernel
theorem dX11_avertedByLine_4 : decode cX11_avertedByLine 4 = .ok (.iload_n 3, 1) := by decide +kernel
theorem dX11_avertedByLine_5 : decode cX11_avertedByLine 5 = .ok (.aload_n 0, 1) := by decide +kernel
theorem dX11_avertedByLine_6 : decode cX11_avertedByLine 6 = .ok (.getfield 12, 3) := by decide +kernel
theorem dX11_avertedByLine_9 : decode cX11_avertedByLine 9 = .ok (.getfield 279, 3) := by decide +kernel
theorem dX11_avertedByLine_12 : decode cX11_avertedByLine 12 = .ok (.if_icmp .ge 28, 3) := by decide +kernel
theorem dX11_avertedByLine_15 : decode cX11_avertedByLine 15 = .ok (.aload_n 0, 1) := by decide +kernel
theorem dX11_avertedByLine_16 : decode cX11_avertedByLine 16 = .ok (.getfield 19, 3) := by decide +kernel
theorem dX11_avertedByLine_19 : decode cX11_avertedByLine 19 = .ok (.getfield 234, 3) := by decide +kernel
theorem dX11_avertedByLine_22 : decode cX11_avertedByLine 22 = .ok (.iload_n 3, 1) := by decide +kernel
theorem dX11_avertedByLine_23 : decode cX11_avertedByLine 23 = .ok (.iaload, 1) := by decide +kernel
theorem dX11_avertedByLine_24 : decode cX11_avertedByLine 24 = .ok (.iload_n 1, 1) := by decide +kernel
theorem dX11_avertedByLine_25 : decode cX11_avertedByLine 25 = .ok (.if_icmp .ne 9, 3) := by decide +kernel
theorem dX11_avertedByLine_28 : decode cX11_avertedByLine 28 = .ok (.iload_n 2, 1) := by decide +kernel
theorem dX11_avertedByLine_29 : decode cX11_avertedByLine 29 = .ok (.iconst 1, 1) := by decide +kernel
theorem dX11_avertedByLine_30 : decode cX11_avertedByLine 30 = .ok (.iload_n 3, 1) := by decide +kernel
theorem dX11_avertedByLine_31 : decode cX11_avertedByLine 31 = .ok (.ishl, 1) := by decide +kernel
theorem dX11_avertedByLine_32 : decode cX11_avertedByLine 32 = .ok (.ior, 1) := by decide +kernel
theorem dX11_avertedByLine_33 : decode cX11_avertedByLine 33 = .ok (.istore_n 2, 1) := by decide +kernel
theorem dX11_avertedByLine_34 : decode cX11_avertedByLine 34 = .ok (.iinc 3 1, 3) := by decide +kernel
theorem dX11_avertedByLine_37 : decode cX11_avertedByLine 37 = .ok (.goto (-33), 3) := by decide +kernel
theorem dX11_avertedByLine_40 : decode cX11_avertedByLine 40 = .ok (.iload_n 2, 1) := by decide +kernel
theorem dX11_avertedByLine_41 : decode cX11_avertedByLine 41 = .ok (.ireturn, 1) := by decide +kernel
theorem wp_X11_avertedByLine_0 {d : Nat} {s : ev_S} {Q : Option ev_V → ev_S → Prop} {a1 : Int}
    (h : Ev layX M_X11_avertedByLine d 4 [(0, ev_r 0), (1, ev_i a1), (2, ev_i 0), (3, ev_i 0)] [] s Q) :
    Ev layX M_X11_avertedByLine d 0 [(0, ev_r 0), (1, ev_i a1)] [] s Q := by
  refine Ev_iconst dX11_avertedByLine_0 rfl (ev_Rc rfl) ?_
  refine Ev_istore_n (l' := [(2, ev_i 0), (0, ev_r 0), (1, ev_i a1)]) dX11_avertedByLine_1 rfl (Nat.le_of_ble_eq_true rfl) rfl ?_
  refine Ev_iconst dX11_avertedByLine_2 rfl (ev_Rc rfl) ?_
  refine Ev_istore_n (l' := [(3, ev_i 0), (2, ev_i 0), (0, ev_r 0), (1, ev_i a1)]) dX11_avertedByLine_3 rfl (Nat.le_of_ble_eq_true rfl) rfl ?_
  exact Ev_sub [2, 3, 1, 0] rfl h
theorem wp_X11_avertedByLine_4 {d : Nat} {s : ev_S} {Q : Option ev_V → ev_S → Prop} {a1 a2 a3 : Int}
    (h : (((s 1 13) ≤ a3 → Q (some (ev_i a2)) s) ∧ (a3 < (s 1 13) → ((0 ≤ a3 ∧ a3 < (10 : Nat)) ∧ (((s 26 (Int.toNat a3)) ≠ a1 → Ev layX M_X11_avertedByLine d 4 [(0, ev_r 0), (1, ev_i a1), (2, ev_i a2), (3, ev_i (ev_add a3 1))] [] s Q) ∧ ((s 26 (Int.toNat a3)) = a1 → Ev layX M_X11_avertedByLine d 4 [(0, ev_r 0), (1, ev_i a1), (2, ev_i (ev_or a2 (ev_shl 1 a3))), (3, ev_i (ev_add a3 1))] [] s Q)))))) :
    Ev layX M_X11_avertedByLine d 4 [(0, ev_r 0), (1, ev_i a1), (2, ev_i a2), (3, ev_i a3)] [] s Q := by
  refine Ev_iload_n 3 dX11_avertedByLine_4 rfl rfl ?_
  refine Ev_aload_n 0 dX11_avertedByLine_5 rfl rfl ?_
  refine Ev_getR (i := 0) cl_X11 yX_0 (Nat.le_of_ble_eq_true rfl) rfl wd_700 dX11_avertedByLine_6 ?_
  refine Ev_get (i := 13) cl_X10 yX_1 (Nat.le_of_ble_eq_true rfl) rfl wd_289 dX11_avertedByLine_9 ?_
  refine Ev_icmp_ge (tgt := 40) dX11_avertedByLine_12 rfl (fun c => ?_) (fun c => ?_)
  · replace h := h.1 c
    refine Ev_iload_n 2 dX11_avertedByLine_40 rfl rfl ?_
    exact Ev_iret rfl dX11_avertedByLine_41 rfl h
  · replace h := h.2 c
    refine Ev_aload_n 0 dX11_avertedByLine_15 rfl rfl ?_
    refine Ev_getR (i := 1) cl_X11 yX_0 (Nat.le_of_ble_eq_true rfl) rfl wd_701 dX11_avertedByLine_16 ?_
    refine Ev_getR (i := 12) cl_X2 yX_15 (Nat.le_of_ble_eq_true rfl) rfl wd_380 dX11_avertedByLine_19 ?_
    refine Ev_iload_n 3 dX11_avertedByLine_22 rfl rfl ?_
    obtain ⟨h0, h⟩ := h
    refine Ev_iald yX_26 h0 dX11_avertedByLine_23 ?_
    refine Ev_iload_n 1 dX11_avertedByLine_24 rfl rfl ?_
    refine Ev_icmp_ne (tgt := 34) dX11_avertedByLine_25 rfl (fun c => ?_) (fun c => ?_)
    · replace h := h.1 c
      refine Ev_iinc (j := 3) (l' := [(3, ev_i (ev_add a3 1)), (0, ev_r 0), (1, ev_i a1), (2, ev_i a2)]) dX11_avertedByLine_34 rfl (Nat.le_of_ble_eq_true rfl) rfl ?_
      refine Ev_goto (tgt := 4) dX11_avertedByLine_37 rfl ?_
      exact Ev_sub [1, 2, 3, 0] rfl h
    · replace h := h.2 c
      refine Ev_iload_n 2 dX11_avertedByLine_28 rfl rfl ?_
      refine Ev_iconst dX11_avertedByLine_29 rfl (ev_Rc rfl) ?_
      refine Ev_iload_n 3 dX11_avertedByLine_30 rfl rfl ?_
      refine Ev_ishl dX11_avertedByLine_31 ?_
      refine Ev_ior dX11_avertedByLine_32 ?_
      refine Ev_istore_n (l' := [(2, ev_i (ev_or a2 (ev_shl 1 a3))), (0, ev_r 0), (1, ev_i a1), (3, ev_i a3)]) dX11_avertedByLine_33 rfl (Nat.le_of_ble_eq_true rfl) rfl ?_
      refine Ev_iinc (j := 3) (l' := [(3, ev_i (ev_add a3 1)), (2, ev_i (ev_or a2 (ev_shl 1 a3))), (0, ev_r 0), (1, ev_i a1)]) dX11_avertedByLine_34 rfl (Nat.le_of_ble_eq_true rfl) rfl ?_
      refine Ev_goto (tgt := 4) dX11_avertedByLine_37 rfl ?_
      exact Ev_sub [2, 3, 1, 0] rfl h
theorem dX11_harmHappened_0 : decode cX11_harmHappened 0 = .ok (.iconst 0, 1) := by decide +kernel
theorem dX11_harmHappened_1 : decode cX11_harmHappened 1 = .ok (.istore_n 1, 1) := by decide +kernel
theorem dX11_harmHappened_2 : decode cX11_harmHappened 2 = .ok (.iconst 0, 1) := by decide +kernel
theorem dX11_harmHappened_3 : decode cX11_harmHappened 3 = .ok (.istore_n 2, 1) := by decide +kernel
theorem dX11_harmHappened_4 : decode cX11_harmHappened 4 = .ok (.iload_n 2, 1) := by decide +kernel
theorem dX11_harmHappened_5 : decode cX11_harmHappened 5 = .ok (.aload_n 0, 1) := by decide +kernel
theorem dX11_harmHappened_6 : decode cX11_harmHappened 6 = .ok (.getfield 12, 3) := by decide +kernel
theorem dX11_harmHappened_9 : decode cX11_harmHappened 9 = .ok (.getfield 279, 3) := by decide +kernel
theorem dX11_harmHappened_12 : decode cX11_harmHappened 12 = .ok (.if_icmp .ge 39, 3) := by decide +kernel
theorem dX11_harmHappened_15 : decode cX11_harmHappened 15 = .ok (.aload_n 0, 1) := by decide +kernel
theorem dX11_harmHappened_16 : decode cX11_harmHappened 16 = .ok (.getfield 19, 3) := by decide +kernel
theorem dX11_harmHappened_19 : decode cX11_harmHappened 19 = .ok (.getfield 225, 3) := by decide +kernel
theorem dX11_harmHappened_22 : decode cX11_harmHappened 22 = .ok (.iload_n 2, 1) := by decide +kernel
theorem dX11_harmHappened_23 : decode cX11_harmHappened 23 = .ok (.iaload, 1) := by decide +kernel
theorem dX11_harmHappened_24 : decode cX11_harmHappened 24 = .ok (.iconst 2, 1) := by decide +kernel
theorem dX11_harmHappened_25 : decode cX11_harmHappened 25 = .ok (.if_icmp .ne 20, 3) := by decide +kernel
theorem dX11_harmHappened_28 : decode cX11_harmHappened 28 = .ok (.iload_n 1, 1) := by decide +kernel
theorem dX11_harmHappened_29 : decode cX11_harmHappened 29 = .ok (.aload_n 0, 1) := by decide +kernel
theorem dX11_harmHappened_30 : decode cX11_harmHappened 30 = .ok (.getfield 12, 3) := by decide +kernel
theorem dX11_harmHappened_33 : decode cX11_harmHappened 33 = .ok (.getfield 222, 3) := by decide +kernel
theorem dX11_harmHappened_36 : decode cX11_harmHappened 36 = .ok (.iload_n 2, 1) := by decide +kernel
theorem dX11_harmHappened_37 : decode cX11_harmHappened 37 = .ok (.bipush 7, 2) := by decide +kernel
theorem dX11_harmHappened_39 : decode cX11_harmHappened 39 = .ok (.imul, 1) := by decide +kernel
theorem dX11_harmHappened_40 : decode cX11_harmHappened 40 = .ok (.iconst 0, 1) := by decide +kernel
theorem dX11_harmHappened_41 : decode cX11_harmHappened 41 = .ok (.iadd, 1) := by decide +kernel
theorem dX11_harmHappened_42 : decode cX11_harmHappened 42 = .ok (.iaload, 1) := by decide +kernel
theorem dX11_harmHappened_43 : decode cX11_harmHappened 43 = .ok (.iadd, 1) := by decide +kernel
theorem dX11_harmHappened_44 : decode cX11_harmHappened 44 = .ok (.istore_n 1, 1) := by decide +kernel
theorem dX11_harmHappened_45 : decode cX11_harmHappened 45 = .ok (.iinc 2 1, 3) := by decide +kernel
theorem dX11_harmHappened_48 : decode cX11_harmHappened 48 = .ok (.goto (-44), 3) := by decide +kernel
theorem dX11_harmHappened_51 : decode cX11_harmHappened 51 = .ok (.iload_n 1, 1) := by decide +kernel
theorem dX11_harmHappened_52 : decode cX11_harmHappened 52 = .ok (.ireturn, 1) := by decide +kernel
theorem wp_X11_harmHappened_0 {d : Nat} {s : ev_S} {Q : Option ev_V → ev_S → Prop}
    (h : Ev layX M_X11_harmHappened d 4 [(0, ev_r 0), (1, ev_i 0), (2, ev_i 0)] [] s Q) :
    Ev layX M_X11_harmHappened d 0 [(0, ev_r 0)] [] s Q := by
  refine Ev_iconst dX11_harmHappened_0 rfl (ev_Rc rfl) ?_
  refine Ev_istore_n (l' := [(1, ev_i 0), (0, ev_r 0)]) dX11_harmHappened_1 rfl (Nat.le_of_ble_eq_true rfl) rfl ?_
  refine Ev_iconst dX11_harmHappened_2 rfl (ev_Rc rfl) ?_
  refine Ev_istore_n (l' := [(2, ev_i 0), (1, ev_i 0), (0, ev_r 0)]) dX11_harmHappened_3 rfl (Nat.le_of_ble_eq_true rfl) rfl ?_
  exact Ev_sub [2, 1, 0] rfl h
theorem wp_X11_harmHappened_4 {d : Nat} {s : ev_S} {Q : Option ev_V → ev_S → Prop} {a1 a2 : Int}
    (h : (((s 1 13) ≤ a2 → Q (some (ev_i a1)) s) ∧ (a2 < (s 1 13) → ((0 ≤ a2 ∧ a2 < (10 : Nat)) ∧ (((s 24 (Int.toNat a2)) ≠ 2 → Ev layX M_X11_harmHappened d 4 [(0, ev_r 0), (1, ev_i a1), (2, ev_i (ev_add a2 1))] [] s Q) ∧ ((s 24 (Int.toNat a2)) = 2 → ((0 ≤ (ev_add (ev_mul a2 7) 0) ∧ (ev_add (ev_mul a2 7) 0) < (70 : Nat)) ∧ Ev layX M_X11_harmHappened d 4 [(0, ev_r 0), (1, ev_i (ev_add a1 (s 9 (Int.toNat (ev_add (ev_mul a2 7) 0))))), (2, ev_i (ev_add a2 1))] [] s Q))))))) :
    Ev layX M_X11_harmHappened d 4 [(0, ev_r 0), (1, ev_i a1), (2, ev_i a2)] [] s Q := by
  refine Ev_iload_n 2 dX11_harmHappened_4 rfl rfl ?_
  refine Ev_aload_n 0 dX11_harmHappened_5 rfl rfl ?_
  refine Ev_getR (i := 0) cl_X11 yX_0 (Nat.le_of_ble_eq_true rfl) rfl wd_700 dX11_harmHappened_6 ?_
  refine Ev_get (i := 13) cl_X10 yX_1 (Nat.le_of_ble_eq_true rfl) rfl wd_289 dX11_harmHappened_9 ?_
  refine Ev_icmp_ge (tgt := 51) dX11_harmHappened_12 rfl (fun c => ?_) (fun c => ?_)
  · replace h := h.1 c
    refine Ev_iload_n 1 dX11_harmHappened_51 rfl rfl ?_
    exact Ev_iret rfl dX11_harmHappened_52 rfl h
  · replace h := h.2 c
    refine Ev_aload_n 0 dX11_harmHappened_15 rfl rfl ?_
    refine Ev_getR (i := 1) cl_X11 yX_0 (Nat.le_of_ble_eq_true rfl) rfl wd_701 dX11_harmHappened_16 ?_
    refine Ev_getR (i := 10) cl_X2 yX_15 (Nat.le_of_ble_eq_true rfl) rfl wd_374 dX11_harmHappened_19 ?_
    refine Ev_iload_n 2 dX11_harmHappened_22 rfl rfl ?_
    obtain ⟨h0, h⟩ := h
    refine Ev_iald yX_24 h0 dX11_harmHappened_23 ?_
    refine Ev_iconst dX11_harmHappened_24 rfl (ev_Rc rfl) ?_
    refine Ev_icmp_ne (tgt := 45) dX11_harmHappened_25 rfl (fun c => ?_) (fun c => ?_)
    · replace h := h.1 c
      refine Ev_iinc (j := 2) (l' := [(2, ev_i (ev_add a2 1)), (0, ev_r 0), (1, ev_i a1)]) dX11_harmHappened_45 rfl (Nat.le_of_ble_eq_true rfl) rfl ?_
      refine Ev_goto (tgt := 4) dX11_harmHappened_48 rfl ?_
      exact Ev_sub [1, 2, 0] rfl h
    · replace h := h.2 c
      refine Ev_iload_n 1 dX11_harmHappened_28 rfl rfl ?_
      refine Ev_aload_n 0 dX11_harmHappened_29 rfl rfl ?_
      refine Ev_getR (i := 0) cl_X11 yX_0 (Nat.le_of_ble_eq_true rfl) rfl wd_700 dX11_harmHappened_30 ?_
      refine Ev_getR (i := 14) cl_X10 yX_1 (Nat.le_of_ble_eq_true rfl) rfl wd_293 dX11_harmHappened_33 ?_
      refine Ev_iload_n 2 dX11_harmHappened_36 rfl rfl ?_
      refine Ev_bipushC dX11_harmHappened_37 rfl ?_
      refine Ev_imul dX11_harmHappened_39 ?_
      refine Ev_iconst dX11_harmHappened_40 rfl (ev_Rc rfl) ?_
      refine Ev_iadd dX11_harmHappened_41 ?_
      obtain ⟨h0, h⟩ := h
      refine Ev_iald yX_9 h0 dX11_harmHappened_42 ?_
      refine Ev_iadd dX11_harmHappened_43 ?_
      refine Ev_istore_n (l' := [(1, ev_i (ev_add a1 (s 9 (Int.toNat (ev_add (ev_mul a2 7) 0))))), (0, ev_r 0), (2, ev_i a2)]) dX11_harmHappened_44 rfl (Nat.le_of_ble_eq_true rfl) rfl ?_
      refine Ev_iinc (j := 2) (l' := [(2, ev_i (ev_add a2 1)), (1, ev_i (ev_add a1 (s 9 (Int.toNat (ev_add (ev_mul a2 7) 0))))), (0, ev_r 0)]) dX11_harmHappened_45 rfl (Nat.le_of_ble_eq_true rfl) rfl ?_
      refine Ev_goto (tgt := 4) dX11_harmHappened_48 rfl ?_
      exact Ev_sub [2, 1, 0] rfl h
theorem dX11_howManyAverted_0 : decode cX11_howManyAverted 0 = .ok (.iconst 0, 1) := by decide +kernel
theorem dX11_howManyAverted_1 : decode cX11_howManyAverted 1 = .ok (.istore_n 1, 1) := by decide +kernel
theorem dX11_howManyAverted_2 : decode cX11_howManyAverted 2 = .ok (.iconst 0, 1) := by decide +kernel
theorem dX11_howManyAverted_3 : decode cX11_howManyAverted 3 = .ok (.istore_n 2, 1) := by decide +kernel
theorem dX11_howManyAverted_4 : decode cX11_howManyAverted 4 = .ok (.iload_n 2, 1) := by decide +kernel
theorem dX11_howManyAverted_5 : decode cX11_howManyAverted 5 = .ok (.aload_n 0, 1) := by decide +kernel
theorem dX11_howManyAverted_6 : decode cX11_howManyAverted 6 = .ok (.getfield 12, 3) := by decide +kernel
theorem dX11_howManyAverted_9 : decode cX11_howManyAverted 9 = .ok (.getfield 279, 3) := by decide +kernel
theorem dX11_howManyAverted_12 : decode cX11_howManyAverted 12 = .ok (.if_icmp .ge 25, 3) := by decide +kernel
theorem dX11_howManyAverted_15 : decode cX11_howManyAverted 15 = .ok (.aload_n 0, 1) := by decide +kernel
theorem dX11_howManyAverted_16 : decode cX11_howManyAverted 16 = .ok (.getfield 19, 3) := by decide +kernel
theorem dX11_howManyAverted_19 : decode cX11_howManyAverted 19 = .ok (.getfield 225, 3) := by decide +kernel
theorem dX11_howManyAverted_22 : decode cX11_howManyAverted 22 = .ok (.iload_n 2, 1) := by decide +kernel
theorem dX11_howManyAverted_23 : decode cX11_howManyAverted 23 = .ok (.iaload, 1) := by decide +kernel
theorem dX11_howManyAverted_24 : decode cX11_howManyAverted 24 = .ok (.iconst 1, 1) := by decide +kernel
theorem dX11_howManyAverted_25 : decode cX11_howManyAverted 25 = .ok (.if_icmp .ne 6, 3) := by decide +kernel
theorem dX11_howManyAverted_28 : decode cX11_howManyAverted 28 = .ok (.iinc 1 1, 3) := by decide +kernel
theorem dX11_howManyAverted_31 : decode cX11_howManyAverted 31 = .ok (.iinc 2 1, 3) := by decide +kernel
theorem dX11_howManyAverted_34 : decode cX11_howManyAverted 34 = .ok (.goto (-30), 3) := by decide +kernel
theorem dX11_howManyAverted_37 : decode cX11_howManyAverted 37 = .ok (.iload_n 1, 1) := by decide +kernel
theorem dX11_howManyAverted_38 : decode cX11_howManyAverted 38 = .ok (.ireturn, 1) := by decide +kernel
theorem wp_X11_howManyAverted_0 {d : Nat} {s : ev_S} {Q : Option ev_V → ev_S → Prop}
    (h : Ev layX M_X11_howManyAverted d 4 [(0, ev_r 0), (1, ev_i 0), (2, ev_i 0)] [] s Q) :
    Ev layX M_X11_howManyAverted d 0 [(0, ev_r 0)] [] s Q := by
  refine Ev_iconst dX11_howManyAverted_0 rfl (ev_Rc rfl) ?_
  refine Ev_istore_n (l' := [(1, ev_i 0), (0, ev_r 0)]) dX11_howManyAverted_1 rfl (Nat.le_of_ble_eq_true rfl) rfl ?_
  refine Ev_iconst dX11_howManyAverted_2 rfl (ev_Rc rfl) ?_
  refine Ev_istore_n (l' := [(2, ev_i 0), (1, ev_i 0), (0, ev_r 0)]) dX11_howManyAverted_3 rfl (Nat.le_of_ble_eq_true rfl) rfl ?_
  exact Ev_sub [2, 1, 0] rfl h
theorem wp_X11_howManyAverted_4 {d : Nat} {s : ev_S} {Q : Option ev_V → ev_S → Prop} {a1 a2 : Int}
    (h : (((s 1 13) ≤ a2 → Q (some (ev_i a1)) s) ∧ (a2 < (s 1 13) → ((0 ≤ a2 ∧ a2 < (10 : Nat)) ∧ (((s 24 (Int.toNat a2)) ≠ 1 → Ev layX M_X11_howManyAverted d 4 [(0, ev_r 0), (1, ev_i a1), (2, ev_i (ev_add a2 1))] [] s Q) ∧ ((s 24 (Int.toNat a2)) = 1 → Ev layX M_X11_howManyAverted d 4 [(0, ev_r 0), (1, ev_i (ev_add a1 1)), (2, ev_i (ev_add a2 1))] [] s Q)))))) :
    Ev layX M_X11_howManyAverted d 4 [(0, ev_r 0), (1, ev_i a1), (2, ev_i a2)] [] s Q := by
  refine Ev_iload_n 2 dX11_howManyAverted_4 rfl rfl ?_
  refine Ev_aload_n 0 dX11_howManyAverted_5 rfl rfl ?_
  refine Ev_getR (i := 0) cl_X11 yX_0 (Nat.le_of_ble_eq_true rfl) rfl wd_700 dX11_howManyAverted_6 ?_
  refine Ev_get (i := 13) cl_X10 yX_1 (Nat.le_of_ble_eq_true rfl) rfl wd_289 dX11_howManyAverted_9 ?_
  refine Ev_icmp_ge (tgt := 37) dX11_howManyAverted_12 rfl (fun c => ?_) (fun c => ?_)
  · replace h := h.1 c
    refine Ev_iload_n 1 dX11_howManyAverted_37 rfl rfl ?_
    exact Ev_iret rfl dX11_howManyAverted_38 rfl h
  · replace h := h.2 c
    refine Ev_aload_n 0 dX11_howManyAverted_15 rfl rfl ?_
    refine Ev_getR (i := 1) cl_X11 yX_0 (Nat.le_of_ble_eq_true rfl) rfl wd_701 dX11_howManyAverted_16 ?_
    refine Ev_getR (i := 10) cl_X2 yX_15 (Nat.le_of_ble_eq_true rfl) rfl wd_374 dX11_howManyAverted_19 ?_
    refine Ev_iload_n 2 dX11_howManyAverted_22 rfl rfl ?_
    obtain ⟨h0, h⟩ := h
    refine Ev_iald yX_24 h0 dX11_howManyAverted_23 ?_
    refine Ev_iconst dX11_howManyAverted_24 rfl (ev_Rc rfl) ?_
    refine Ev_icmp_ne (tgt := 31) dX11_howManyAverted_25 rfl (fun c => ?_) (fun c => ?_)
    · replace h := h.1 c
      refine Ev_iinc (j := 2) (l' := [(2, ev_i (ev_add a2 1)), (0, ev_r 0), (1, ev_i a1)]) dX11_howManyAverted_31 rfl (Nat.le_of_ble_eq_true rfl) rfl ?_
      refine Ev_goto (tgt := 4) dX11_howManyAverted_34 rfl ?_
      exact Ev_sub [1, 2, 0] rfl h
    · replace h := h.2 c
      refine Ev_iinc (j := 1) (l' := [(1, ev_i (ev_add a1 1)), (0, ev_r 0), (2, ev_i a2)]) dX11_howManyAverted_28 rfl (Nat.le_of_ble_eq_true rfl) rfl ?_
      refine Ev_iinc (j := 2) (l' := [(2, ev_i (ev_add a2 1)), (1, ev_i (ev_add a1 1)), (0, ev_r 0)]) dX11_howManyAverted_31 rfl (Nat.le_of_ble_eq_true rfl) rfl ?_
      refine Ev_goto (tgt := 4) dX11_howManyAverted_34 rfl ?_
      exact Ev_sub [2, 1, 0] rfl h
theorem dX11_lotOf_0 : decode cX11_lotOf 0 = .ok (.lconst 0, 1) := by decide +kernel
theorem dX11_lotOf_1 : decode cX11_lotOf 1 = .ok (.lstore_n 3, 1) := by decide +kernel
theorem dX11_lotOf_2 : decode cX11_lotOf 2 = .ok (.lconst 1, 1) := by decide +kernel
theorem dX11_lotOf_3 : decode cX11_lotOf 3 = .ok (.lstore 5, 2) := by decide +kernel
theorem dX11_lotOf_5 : decode cX11_lotOf 5 = .ok (.iconst 0, 1) := by decide +kernel
theorem dX11_lotOf_6 : decode cX11_lotOf 6 = .ok (.istore 7, 2) := by decide +kernel
theorem dX11_lotOf_8 : decode cX11_lotOf 8 = .ok (.bipush 99, 2) := by decide +kernel
theorem dX11_lotOf_10 : decode cX11_lotOf 10 = .ok (.istore 8, 2) := by decide +kernel
theorem dX11_lotOf_12 : decode cX11_lotOf 12 = .ok (.iload 8, 2) := by decide +kernel
theorem dX11_lotOf_14 : decode cX11_lotOf 14 = .ok (.ifCond .le 113, 3) := by decide +kernel
theorem dX11_lotOf_17 : decode cX11_lotOf 17 = .ok (.iconst 0, 1) := by decide +kernel
theorem dX11_lotOf_18 : decode cX11_lotOf 18 = .ok (.istore 9, 2) := by decide +kernel
theorem dX11_lotOf_20 : decode cX11_lotOf 20 = .ok (.iload 9, 2) := by decide +kernel
theorem dX11_lotOf_22 : decode cX11_lotOf 22 = .ok (.aload_n 0, 1) := by decide +kernel
theorem dX11_lotOf_23 : decode cX11_lotOf 23 = .ok (.getfield 12, 3) := by decide +kernel
theorem dX11_lotOf_26 : decode cX11_lotOf 26 = .ok (.getfield 279, 3) := by decide +kernel
theorem dX11_lotOf_29 : decode cX11_lotOf 29 = .ok (.if_icmp .ge 92, 3) := by decide +kernel
theorem dX11_lotOf_32 : decode cX11_lotOf 32 = .ok (.iload_n 1, 1) := by decide +kernel
theorem dX11_lotOf_33 : decode cX11_lotOf 33 = .ok (.iload 9, 2) := by decide +kernel
theorem dX11_lotOf_35 : decode cX11_lotOf 35 = .ok (.ishr, 1) := by decide +kernel
theorem dX11_lotOf_36 : decode cX11_lotOf 36 = .ok (.iconst 1, 1) := by decide +kernel
theorem dX11_lotOf_37 : decode cX11_lotOf 37 = .ok (.iand, 1) := by decide +kernel
theorem dX11_lotOf_38 : decode cX11_lotOf 38 = .ok (.ifCond .eq 27, 3) := by decide +kernel
theorem dX11_lotOf_41 : decode cX11_lotOf 41 = .ok (.aload_n 0, 1) := by decide +kernel
theorem dX11_lotOf_42 : decode cX11_lotOf 42 = .ok (.getfield 12, 3) := by decide +kernel
theorem dX11_lotOf_45 : decode cX11_lotOf 45 = .ok (.getfield 222, 3) := by decide +kernel
theorem dX11_lotOf_48 : decode cX11_lotOf 48 = .ok (.iload 9, 2) := by decide +kernel
theorem dX11_lotOf_50 : decode cX11_lotOf 50 = .ok (.bipush 7, 2) := by decide +kernel
theorem dX11_lotOf_52 : decode cX11_lotOf 52 = .ok (.imul, 1) := by decide +kernel
theorem dX11_lotOf_53 : decode cX11_lotOf 53 = .ok (.iconst 0, 1) := by decide +kernel
theorem dX11_lotOf_54 : decode cX11_lotOf 54 = .ok (.iadd, 1) := by decide +kernel
theorem dX11_lotOf_55 : decode cX11_lotOf 55 = .ok (.iaload, 1) := by decide +kernel
theorem dX11_lotOf_56 : decode cX11_lotOf 56 = .ok (.iload 8, 2) := by decide +kernel
theorem dX11_lotOf_58 : decode cX11_lotOf 58 = .ok (.if_icmp .ne 7, 3) := by decide +kernel
theorem dX11_lotOf_61 : decode cX11_lotOf 61 = .ok (.iconst 1, 1) := by decide +kernel
theorem dX11_lotOf_62 : decode cX11_lotOf 62 = .ok (.goto 4, 3) := by decide +kernel
theorem dX11_lotOf_65 : decode cX11_lotOf 65 = .ok (.iconst 0, 1) := by decide +kernel
theorem dX11_lotOf_66 : decode cX11_lotOf 66 = .ok (.istore 10, 2) := by decide +kernel
theorem dX11_lotOf_68 : decode cX11_lotOf 68 = .ok (.iload 10, 2) := by decide +kernel
theorem dX11_lotOf_70 : decode cX11_lotOf 70 = .ok (.ifCond .eq 45, 3) := by decide +kernel
theorem dX11_lotOf_73 : decode cX11_lotOf 73 = .ok (.iload 7, 2) := by decide +kernel
theorem dX11_lotOf_75 : decode cX11_lotOf 75 = .ok (.ifCond .eq 20, 3) := by decide +kernel
theorem dX11_lotOf_78 : decode cX11_lotOf 78 = .ok (.iload 8, 2) := by decide +kernel
theorem dX11_lotOf_80 : decode cX11_lotOf 80 = .ok (.i2l, 1) := by decide +kernel
theorem dX11_lotOf_81 : decode cX11_lotOf 81 = .ok (.lload_n 3, 1) := by decide +kernel
theorem dX11_lotOf_82 : decode cX11_lotOf 82 = .ok (.lmul, 1) := by decide +kernel
theorem dX11_lotOf_83 : decode cX11_lotOf 83 = .ok (.iload 7, 2) := by decide +kernel
theorem dX11_lotOf_85 : decode cX11_lotOf 85 = .ok (.iconst 1, 1) := by decide +kernel
theorem dX11_lotOf_86 : decode cX11_lotOf 86 = .ok (.isub, 1) := by decide +kernel
theorem dX11_lotOf_87 : decode cX11_lotOf 87 = .ok (.i2l, 1) := by decide +kernel
theorem dX11_lotOf_88 : decode cX11_lotOf 88 = .ok (.lload 5, 2) := by decide +kernel
theorem dX11_lotOf_90 : decode cX11_lotOf 90 = .ok (.lmul, 1) := by decide +kernel
theorem dX11_lotOf_91 : decode cX11_lotOf 91 = .ok (.lcmp, 1) := by decide +kernel
theorem dX11_lotOf_92 : decode cX11_lotOf 92 = .ok (.ifCond .le 23, 3) := by decide +kernel
theorem dX11_lotOf_95 : decode cX11_lotOf 95 = .ok (.lload_n 3, 1) := by decide +kernel
theorem dX11_lotOf_96 : decode cX11_lotOf 96 = .ok (.iload 8, 2) := by decide +kernel
theorem dX11_lotOf_98 : decode cX11_lotOf 98 = .ok (.i2l, 1) := by decide +kernel
theorem dX11_lotOf_99 : decode cX11_lotOf 99 = .ok (.lmul, 1) := by decide +kernel
theorem dX11_lotOf_100 : decode cX11_lotOf 100 = .ok (.lload 5, 2) := by decide +kernel
theorem dX11_lotOf_102 : decode cX11_lotOf 102 = .ok (.ladd, 1) := by decide +kernel
theorem dX11_lotOf_103 : decode cX11_lotOf 103 = .ok (.lstore_n 3, 1) := by decide +kernel
theorem dX11_lotOf_104 : decode cX11_lotOf 104 = .ok (.lload 5, 2) := by decide +kernel
theorem dX11_lotOf_106 : decode cX11_lotOf 106 = .ok (.iload 8, 2) := by decide +kernel
theorem dX11_lotOf_108 : decode cX11_lotOf 108 = .ok (.i2l, 1) := by decide +kernel
theorem dX11_lotOf_109 : decode cX11_lotOf 109 = .ok (.lmul, 1) := by decide +kernel
theorem dX11_lotOf_110 : decode cX11_lotOf 110 = .ok (.lstore 5, 2) := by decide +kernel
theorem dX11_lotOf_112 : decode cX11_lotOf 112 = .ok (.iinc 7 1, 3) := by decide +kernel
theorem dX11_lotOf_115 : decode cX11_lotOf 115 = .ok (.iinc 9 1, 3) := by decide +kernel
theorem dX11_lotOf_118 : decode cX11_lotOf 118 = .ok (.goto (-98), 3) := by decide +kernel
theorem dX11_lotOf_121 : decode cX11_lotOf 121 = .ok (.iinc 8 (-1), 3) := by decide +kernel
theorem dX11_lotOf_124 : decode cX11_lotOf 124 = .ok (.goto (-112), 3) := by decide +kernel
theorem dX11_lotOf_127 : decode cX11_lotOf 127 = .ok (.iload 7, 2) := by decide +kernel
theorem dX11_lotOf_129 : decode cX11_lotOf 129 = .ok (.iconst 1, 1) := by decide +kernel
theorem dX11_lotOf_130 : decode cX11_lotOf 130 = .ok (.isub, 1) := by decide +kernel
theorem dX11_lotOf_131 : decode cX11_lotOf 131 = .ok (.i2l, 1) := by decide +kernel
theorem dX11_lotOf_132 : decode cX11_lotOf 132 = .ok (.lload 5, 2) := by decide +kernel
theorem dX11_lotOf_134 : decode cX11_lotOf 134 = .ok (.lmul, 1) := by decide +kernel
theorem dX11_lotOf_135 : decode cX11_lotOf 135 = .ok (.lstore 8, 2) := by decide +kernel
theorem dX11_lotOf_137 : decode cX11_lotOf 137 = .ok (.lload 8, 2) := by decide +kernel
theorem dX11_lotOf_139 : decode cX11_lotOf 139 = .ok (.lload_n 3, 1) := by decide +kernel
theorem dX11_lotOf_140 : decode cX11_lotOf 140 = .ok (.invokestatic 359, 3) := by decide +kernel
theorem dX11_lotOf_143 : decode cX11_lotOf 143 = .ok (.lstore 10, 2) := by decide +kernel
theorem dX11_lotOf_145 : decode cX11_lotOf 145 = .ok (.lload 10, 2) := by decide +kernel
theorem dX11_lotOf_147 : decode cX11_lotOf 147 = .ok (.lconst 0, 1) := by decide +kernel
theorem dX11_lotOf_148 : decode cX11_lotOf 148 = .ok (.lcmp, 1) := by decide +kernel
theorem dX11_lotOf_149 : decode cX11_lotOf 149 = .ok (.ifCond .gt 7, 3) := by decide +kernel
theorem dX11_lotOf_152 : decode cX11_lotOf 152 = .ok (.ldc2_w 282, 3) := by decide +kernel
theorem dX11_lotOf_155 : decode cX11_lotOf 155 = .ok (.lreturn, 1) := by decide +kernel
theorem dX11_lotOf_156 : decode cX11_lotOf 156 = .ok (.iload_n 2, 1) := by decide +kernel
theorem dX11_lotOf_157 : decode cX11_lotOf 157 = .ok (.ifCond .eq 11, 3) := by decide +kernel
theorem dX11_lotOf_160 : decode cX11_lotOf 160 = .ok (.lload 8, 2) := by decide +kernel
theorem dX11_lotOf_162 : decode cX11_lotOf 162 = .ok (.lload 10, 2) := by decide +kernel
theorem dX11_lotOf_164 : decode cX11_lotOf 164 = .ok (.ldiv, 1) := by decide +kernel
theorem dX11_lotOf_165 : decode cX11_lotOf 165 = .ok (.goto 7, 3) := by decide +kernel
theorem dX11_lotOf_168 : decode cX11_lotOf 168 = .ok (.lload_n 3, 1) := by decide +kernel
theorem dX11_lotOf_169 : decode cX11_lotOf 169 = .ok (.lload 10, 2) := by decide +kernel
theorem dX11_lotOf_171 : decode cX11_lotOf 171 = .ok (.ldiv, 1) := by decide +kernel
theorem dX11_lotOf_172 : decode cX11_lotOf 172 = .ok (.lreturn, 1) := by decide +kernel
theorem wp_X11_lotOf_0 {d : Nat} {s : ev_S} {Q : Option ev_V → ev_S → Prop} {a1 a2 : Int}
    (h : Ev layX M_X11_lotOf (d + 1) 12 [(0, ev_r 0), (1, ev_i a1), (2, ev_i a2), (3, ev_l 0), (5, ev_l 1), (7, ev_i 0), (8, ev_i 99)] [] s Q) :
    Ev layX M_X11_lotOf (d + 1) 0 [(0, ev_r 0), (1, ev_i a1), (2, ev_i a2)] [] s Q := by
  refine Ev_lconst (z := 0) dX11_lotOf_0 rfl (ev_RLc rfl) ?_
  refine Ev_lstore_n (l' := [(3, ev_l 0), (0, ev_r 0), (1, ev_i a1), (2, ev_i a2)]) dX11_lotOf_1 rfl (Nat.le_of_ble_eq_true rfl) rfl ?_
  refine Ev_lconst (z := 1) dX11_lotOf_2 rfl (ev_RLc rfl) ?_
  refine Ev_lstore (l' := [(5, ev_l 1), (3, ev_l 0), (0, ev_r 0), (1, ev_i a1), (2, ev_i a2)]) dX11_lotOf_3 (Nat.le_of_ble_eq_true rfl) rfl ?_
  refine Ev_iconst dX11_lotOf_5 rfl (ev_Rc rfl) ?_
  refine Ev_istore (l' := [(7, ev_i 0), (5, ev_l 1), (3, ev_l 0), (0, ev_r 0), (1, ev_i a1), (2, ev_i a2)]) dX11_lotOf_6 (Nat.le_of_ble_eq_true rfl) rfl ?_
  refine Ev_bipushC dX11_lotOf_8 rfl ?_
  refine Ev_istore (l' := [(8, ev_i 99), (7, ev_i 0), (5, ev_l 1), (3, ev_l 0), (0, ev_r 0), (1, ev_i a1), (2, ev_i a2)]) dX11_lotOf_10 (Nat.le_of_ble_eq_true rfl) rfl ?_
  exact Ev_sub [4, 5, 6, 3, 2, 1, 0] rfl h
theorem wp_X11_lotOf_12 {d : Nat} {s : ev_S} {Q : Option ev_V → ev_S → Prop} {a1 a2 a3 a5 a7 a8 : Int}
    (h : ((a8 ≤ 0 → (Ev layX M_X11_commonPart d 0 [(0, ev_l (ev_lmul (ev_sub a7 1) a5)), (2, ev_l a3)] [] s (ev_pl (fun r2 s1 => ((0 < (ev_lcmp r2 0) → ((a2 = 0 → (r2 ≠ 0 ∧ Q (some (ev_l (ev_ldiv a3 r2))) s1)) ∧ (a2 ≠ 0 → (r2 ≠ 0 ∧ Q (some (ev_l (ev_ldiv (ev_lmul (ev_sub a7 1) a5) r2))) s1)))) ∧ ((ev_lcmp r2 0) ≤ 0 → Q (some (ev_l (-1))) s1)))))) ∧ (0 < a8 → Ev layX M_X11_lotOf (d + 1) 20 [(0, ev_r 0), (1, ev_i a1), (2, ev_i a2), (3, ev_l a3), (5, ev_l a5), (7, ev_i a7), (8, ev_i a8), (9, ev_i 0)] [] s Q))) :
    Ev layX M_X11_lotOf (d + 1) 12 [(0, ev_r 0), (1, ev_i a1), (2, ev_i a2), (3, ev_l a3), (5, ev_l a5), (7, ev_i a7), (8, ev_i a8)] [] s Q := by
  refine Ev_iload 6 dX11_lotOf_12 rfl ?_
  refine Ev_if_le (tgt := 127) dX11_lotOf_14 rfl (fun c => ?_) (fun c => ?_)
  · replace h := h.1 c
    refine Ev_iload 5 dX11_lotOf_127 rfl ?_
    refine Ev_iconst dX11_lotOf_129 rfl (ev_Rc rfl) ?_
    refine Ev_isub dX11_lotOf_130 ?_
    refine Ev_i2l dX11_lotOf_131 ?_
    refine Ev_lload 4 dX11_lotOf_132 rfl ?_
    refine Ev_lmul dX11_lotOf_134 ?_
    refine Ev_lstore (l' := [(8, ev_l (ev_lmul (ev_sub a7 1) a5)), (0, ev_r 0), (1, ev_i a1), (2, ev_i a2), (3, ev_l a3), (5, ev_l a5), (7, ev_i a7)]) dX11_lotOf_135 (Nat.le_of_ble_eq_true rfl) rfl ?_
    refine Ev_lload 0 dX11_lotOf_137 rfl ?_
    refine Ev_lload_n 4 dX11_lotOf_139 rfl rfl ?_
    refine Ev_callS (As := [ev_l (ev_lmul (ev_sub a7 1) a5), ev_l a3]) (st := []) (M' := M_X11_commonPart) cm_X11_commonPart wd_1377 wd_1378 dX11_lotOf_140 (Nat.le_refl _) rfl (Nat.le_of_ble_eq_true rfl) (Nat.le_of_ble_eq_true rfl) h (fun v u h hk => ?_)
    obtain ⟨r2, rfl⟩ := hk
    obtain ⟨s1, rfl⟩ : ∃ x, x = u := ⟨_, rfl⟩
    replace h := h r2 rfl
    refine Ev_lstore (l' := [(10, ev_l r2), (8, ev_l (ev_lmul (ev_sub a7 1) a5)), (0, ev_r 0), (1, ev_i a1), (2, ev_i a2), (3, ev_l a3), (5, ev_l a5), (7, ev_i a7)]) dX11_lotOf_143 (Nat.le_of_ble_eq_true rfl) rfl ?_
    refine Ev_lload 0 dX11_lotOf_145 rfl ?_
    refine Ev_lconst (z := 0) dX11_lotOf_147 rfl (ev_RLc rfl) ?_
    refine Ev_lcmp dX11_lotOf_148 ?_
    refine Ev_if_gt (tgt := 156) dX11_lotOf_149 rfl (fun c => ?_) (fun c => ?_)
    · replace h := h.1 c
      refine Ev_iload_n 4 dX11_lotOf_156 rfl rfl ?_
      refine Ev_if_eq (tgt := 168) dX11_lotOf_157 rfl (fun c => ?_) (fun c => ?_)
      · replace h := h.1 c
        refine Ev_lload_n 5 dX11_lotOf_168 rfl rfl ?_
        refine Ev_lload 0 dX11_lotOf_169 rfl ?_
        obtain ⟨h0, h⟩ := h
        refine Ev_ldiv dX11_lotOf_171 h0 ?_
        exact Ev_lret rfl dX11_lotOf_172 h
      · replace h := h.2 c
        refine Ev_lload 1 dX11_lotOf_160 rfl ?_
        refine Ev_lload 0 dX11_lotOf_162 rfl ?_
        obtain ⟨h0, h⟩ := h
        refine Ev_ldiv dX11_lotOf_164 h0 ?_
        refine Ev_goto (tgt := 172) dX11_lotOf_165 rfl ?_
        exact Ev_lret rfl dX11_lotOf_172 h
    · replace h := h.2 c
      refine Ev_ldc2 (z := (-1)) wd_1372 dX11_lotOf_152 rfl (ev_RLc rfl) ?_
      exact Ev_lret rfl dX11_lotOf_155 h
  · replace h := h.2 c
    refine Ev_iconst dX11_lotOf_17 rfl (ev_Rc rfl) ?_
    refine Ev_istore (l' := [(9, ev_i 0), (0, ev_r 0), (1, ev_i a1), (2, ev_i a2), (3, ev_l a3), (5, ev_l a5), (7, ev_i a7), (8, ev_i a8)]) dX11_lotOf_18 (Nat.le_of_ble_eq_true rfl) rfl ?_
    exact Ev_sub [1, 2, 3, 4, 5, 6, 7, 0] rfl h
theorem wp_X11_lotOf_20 {d : Nat} {s : ev_S} {Q : Option ev_V → ev_S → Prop} {a1 a2 a3 a5 a7 a8 a9 : Int}
    (h : (((s 1 13) ≤ a9 → Ev layX M_X11_lotOf (d + 1) 12 [(0, ev_r 0), (1, ev_i a1), (2, ev_i a2), (3, ev_l a3), (5, ev_l a5), (7, ev_i a7), (8, ev_i (ev_add a8 (-1)))] [] s Q) ∧ (a9 < (s 1 13) → (((ev_and (ev_shr a1 a9) 1) = 0 → Ev layX M_X11_lotOf (d + 1) 66 [(0, ev_r 0), (1, ev_i a1), (2, ev_i a2), (3, ev_l a3), (5, ev_l a5), (7, ev_i a7), (8, ev_i a8), (9, ev_i a9)] [ev_i 0] s Q) ∧ ((ev_and (ev_shr a1 a9) 1) ≠ 0 → ((0 ≤ (ev_add (ev_mul a9 7) 0) ∧ (ev_add (ev_mul a9 7) 0) < (70 : Nat)) ∧ (((s 9 (Int.toNat (ev_add (ev_mul a9 7) 0))) ≠ a8 → Ev layX M_X11_lotOf (d + 1) 66 [(0, ev_r 0), (1, ev_i a1), (2, ev_i a2), (3, ev_l a3), (5, ev_l a5), (7, ev_i a7), (8, ev_i a8), (9, ev_i a9)] [ev_i 0] s Q) ∧ ((s 9 (Int.toNat (ev_add (ev_mul a9 7) 0))) = a8 → Ev layX M_X11_lotOf (d + 1) 66 [(0, ev_r 0), (1, ev_i a1), (2, ev_i a2), (3, ev_l a3), (5, ev_l a5), (7, ev_i a7), (8, ev_i a8), (9, ev_i a9)] [ev_i 1] s Q)))))))) :
    Ev layX M_X11_lotOf (d + 1) 20 [(0, ev_r 0), (1, ev_i a1), (2, ev_i a2), (3, ev_l a3), (5, ev_l a5), (7, ev_i a7), (8, ev_i a8), (9, ev_i a9)] [] s Q := by
  refine Ev_iload 7 dX11_lotOf_20 rfl ?_
  refine Ev_aload_n 0 dX11_lotOf_22 rfl rfl ?_
  refine Ev_getR (i := 0) cl_X11 yX_0 (Nat.le_of_ble_eq_true rfl) rfl wd_700 dX11_lotOf_23 ?_
  refine Ev_get (i := 13) cl_X10 yX_1 (Nat.le_of_ble_eq_true rfl) rfl wd_289 dX11_lotOf_26 ?_
  refine Ev_icmp_ge (tgt := 121) dX11_lotOf_29 rfl (fun c => ?_) (fun c => ?_)
  · replace h := h.1 c
    refine Ev_iinc (j := 6) (l' := [(8, ev_i (ev_add a8 (-1))), (0, ev_r 0), (1, ev_i a1), (2, ev_i a2), (3, ev_l a3), (5, ev_l a5), (7, ev_i a7), (9, ev_i a9)]) dX11_lotOf_121 rfl (Nat.le_of_ble_eq_true rfl) rfl ?_
    refine Ev_goto (tgt := 12) dX11_lotOf_124 rfl ?_
    exact Ev_sub [1, 2, 3, 4, 5, 6, 0] rfl h
  · replace h := h.2 c
    refine Ev_iload_n 1 dX11_lotOf_32 rfl rfl ?_
    refine Ev_iload 7 dX11_lotOf_33 rfl ?_
    refine Ev_ishr dX11_lotOf_35 ?_
    refine Ev_iconst dX11_lotOf_36 rfl (ev_Rc rfl) ?_
    refine Ev_iand dX11_lotOf_37 ?_
    refine Ev_if_eq (tgt := 65) dX11_lotOf_38 rfl (fun c => ?_) (fun c => ?_)
    · replace h := h.1 c
      refine Ev_iconst dX11_lotOf_65 rfl (ev_Rc rfl) ?_
      exact Ev_sub [0, 1, 2, 3, 4, 5, 6, 7] rfl h
    · replace h := h.2 c
      refine Ev_aload_n 0 dX11_lotOf_41 rfl rfl ?_
      refine Ev_getR (i := 0) cl_X11 yX_0 (Nat.le_of_ble_eq_true rfl) rfl wd_700 dX11_lotOf_42 ?_
      refine Ev_getR (i := 14) cl_X10 yX_1 (Nat.le_of_ble_eq_true rfl) rfl wd_293 dX11_lotOf_45 ?_
      refine Ev_iload 7 dX11_lotOf_48 rfl ?_
      refine Ev_bipushC dX11_lotOf_50 rfl ?_
      refine Ev_imul dX11_lotOf_52 ?_
      refine Ev_iconst dX11_lotOf_53 rfl (ev_Rc rfl) ?_
      refine Ev_iadd dX11_lotOf_54 ?_
      obtain ⟨h0, h⟩ := h
      refine Ev_iald yX_9 h0 dX11_lotOf_55 ?_
      refine Ev_iload 6 dX11_lotOf_56 rfl ?_
      refine Ev_icmp_ne (tgt := 65) dX11_lotOf_58 rfl (fun c => ?_) (fun c => ?_)
      · replace h := h.1 c
        refine Ev_iconst dX11_lotOf_65 rfl (ev_Rc rfl) ?_
        exact Ev_sub [0, 1, 2, 3, 4, 5, 6, 7] rfl h
      · replace h := h.2 c
        refine Ev_iconst dX11_lotOf_61 rfl (ev_Rc rfl) ?_
        refine Ev_goto (tgt := 66) dX11_lotOf_62 rfl ?_
        exact Ev_sub [0, 1, 2, 3, 4, 5, 6, 7] rfl h
theorem wp_X11_lotOf_66 {d : Nat} {s : ev_S} {Q : Option ev_V → ev_S → Prop} {a1 a2 a3 a5 a7 a8 a9 t0 : Int}
    (h : ((t0 = 0 → Ev layX M_X11_lotOf (d + 1) 20 [(0, ev_r 0), (1, ev_i a1), (2, ev_i a2), (3, ev_l a3), (5, ev_l a5), (7, ev_i a7), (8, ev_i a8), (9, ev_i (ev_add a9 1))] [] s Q) ∧ (t0 ≠ 0 → ((a7 = 0 → Ev layX M_X11_lotOf (d + 1) 95 [(0, ev_r 0), (1, ev_i a1), (2, ev_i a2), (3, ev_l a3), (5, ev_l a5), (7, ev_i a7), (8, ev_i a8), (9, ev_i a9)] [] s Q) ∧ (a7 ≠ 0 → (((ev_lcmp (ev_lmul a8 a3) (ev_lmul (ev_sub a7 1) a5)) ≤ 0 → Ev layX M_X11_lotOf (d + 1) 20 [(0, ev_r 0), (1, ev_i a1), (2, ev_i a2), (3, ev_l a3), (5, ev_l a5), (7, ev_i a7), (8, ev_i a8), (9, ev_i (ev_add a9 1))] [] s Q) ∧ (0 < (ev_lcmp (ev_lmul a8 a3) (ev_lmul (ev_sub a7 1) a5)) → Ev layX M_X11_lotOf (d + 1) 95 [(0, ev_r 0), (1, ev_i a1), (2, ev_i a2), (3, ev_l a3), (5, ev_l a5), (7, ev_i a7), (8, ev_i a8), (9, ev_i a9)] [] s Q))))))) :
    Ev layX M_X11_lotOf (d + 1) 66 [(0, ev_r 0), (1, ev_i a1), (2, ev_i a2), (3, ev_l a3), (5, ev_l a5), (7, ev_i a7), (8, ev_i a8), (9, ev_i a9)] [ev_i t0] s Q := by
  refine Ev_istore (l' := [(10, ev_i t0), (0, ev_r 0), (1, ev_i a1), (2, ev_i a2), (3, ev_l a3), (5, ev_l a5), (7, ev_i a7), (8, ev_i a8), (9, ev_i a9)]) dX11_lotOf_66 (Nat.le_of_ble_eq_true rfl) rfl ?_
  refine Ev_iload 0 dX11_lotOf_68 rfl ?_
  refine Ev_if_eq (tgt := 115) dX11_lotOf_70 rfl (fun c => ?_) (fun c => ?_)
  · replace h := h.1 c
    refine Ev_iinc (j := 8) (l' := [(9, ev_i (ev_add a9 1)), (10, ev_i t0), (0, ev_r 0), (1, ev_i a1), (2, ev_i a2), (3, ev_l a3), (5, ev_l a5), (7, ev_i a7), (8, ev_i a8)]) dX11_lotOf_115 rfl (Nat.le_of_ble_eq_true rfl) rfl ?_
    refine Ev_goto (tgt := 20) dX11_lotOf_118 rfl ?_
    exact Ev_sub [2, 3, 4, 5, 6, 7, 8, 0] rfl h
  · replace h := h.2 c
    refine Ev_iload 6 dX11_lotOf_73 rfl ?_
    refine Ev_if_eq (tgt := 95) dX11_lotOf_75 rfl (fun c => ?_) (fun c => ?_)
    · replace h := h.1 c
      exact Ev_sub [1, 2, 3, 4, 5, 6, 7, 8] rfl h
    · replace h := h.2 c
      refine Ev_iload 7 dX11_lotOf_78 rfl ?_
      refine Ev_i2l dX11_lotOf_80 ?_
      refine Ev_lload_n 4 dX11_lotOf_81 rfl rfl ?_
      refine Ev_lmul dX11_lotOf_82 ?_
      refine Ev_iload 6 dX11_lotOf_83 rfl ?_
      refine Ev_iconst dX11_lotOf_85 rfl (ev_Rc rfl) ?_
      refine Ev_isub dX11_lotOf_86 ?_
      refine Ev_i2l dX11_lotOf_87 ?_
      refine Ev_lload 5 dX11_lotOf_88 rfl ?_
      refine Ev_lmul dX11_lotOf_90 ?_
      refine Ev_lcmp dX11_lotOf_91 ?_
      refine Ev_if_le (tgt := 115) dX11_lotOf_92 rfl (fun c => ?_) (fun c => ?_)
      · replace h := h.1 c
        refine Ev_iinc (j := 8) (l' := [(9, ev_i (ev_add a9 1)), (10, ev_i t0), (0, ev_r 0), (1, ev_i a1), (2, ev_i a2), (3, ev_l a3), (5, ev_l a5), (7, ev_i a7), (8, ev_i a8)]) dX11_lotOf_115 rfl (Nat.le_of_ble_eq_true rfl) rfl ?_
        refine Ev_goto (tgt := 20) dX11_lotOf_118 rfl ?_
        exact Ev_sub [2, 3, 4, 5, 6, 7, 8, 0] rfl h
      · replace h := h.2 c
        exact Ev_sub [1, 2, 3, 4, 5, 6, 7, 8] rfl h
theorem wp_X11_lotOf_95 {d : Nat} {s : ev_S} {Q : Option ev_V → ev_S → Prop} {a1 a2 a3 a5 a7 a8 a9 : Int}
    (h : Ev layX M_X11_lotOf (d + 1) 20 [(0, ev_r 0), (1, ev_i a1), (2, ev_i a2), (3, ev_l (ev_ladd (ev_lmul a3 a8) a5)), (5, ev_l (ev_lmul a5 a8)), (7, ev_i (ev_add a7 1)), (8, ev_i a8), (9, ev_i (ev_add a9 1))] [] s Q) :
    Ev layX M_X11_lotOf (d + 1) 95 [(0, ev_r 0), (1, ev_i a1), (2, ev_i a2), (3, ev_l a3), (5, ev_l a5), (7, ev_i a7), (8, ev_i a8), (9, ev_i a9)] [] s Q := by
  refine Ev_lload_n 3 dX11_lotOf_95 rfl rfl ?_
  refine Ev_iload 6 dX11_lotOf_96 rfl ?_
  refine Ev_i2l dX11_lotOf_98 ?_
  refine Ev_lmul dX11_lotOf_99 ?_
  refine Ev_lload 4 dX11_lotOf_100 rfl ?_
  refine Ev_ladd dX11_lotOf_102 ?_
  refine Ev_lstore_n (l' := [(3, ev_l (ev_ladd (ev_lmul a3 a8) a5)), (0, ev_r 0), (1, ev_i a1), (2, ev_i a2), (5, ev_l a5), (7, ev_i a7), (8, ev_i a8), (9, ev_i a9)]) dX11_lotOf_103 rfl (Nat.le_of_ble_eq_true rfl) rfl ?_
  refine Ev_lload 4 dX11_lotOf_104 rfl ?_
  refine Ev_iload 6 dX11_lotOf_106 rfl ?_
  refine Ev_i2l dX11_lotOf_108 ?_
  refine Ev_lmul dX11_lotOf_109 ?_
  refine Ev_lstore (l' := [(5, ev_l (ev_lmul a5 a8)), (3, ev_l (ev_ladd (ev_lmul a3 a8) a5)), (0, ev_r 0), (1, ev_i a1), (2, ev_i a2), (7, ev_i a7), (8, ev_i a8), (9, ev_i a9)]) dX11_lotOf_110 (Nat.le_of_ble_eq_true rfl) rfl ?_
  refine Ev_iinc (j := 5) (l' := [(7, ev_i (ev_add a7 1)), (5, ev_l (ev_lmul a5 a8)), (3, ev_l (ev_ladd (ev_lmul a3 a8) a5)), (0, ev_r 0), (1, ev_i a1), (2, ev_i a2), (8, ev_i a8), (9, ev_i a9)]) dX11_lotOf_112 rfl (Nat.le_of_ble_eq_true rfl) rfl ?_
  refine Ev_iinc (j := 7) (l' := [(9, ev_i (ev_add a9 1)), (7, ev_i (ev_add a7 1)), (5, ev_l (ev_lmul a5 a8)), (3, ev_l (ev_ladd (ev_lmul a3 a8) a5)), (0, ev_r 0), (1, ev_i a1), (2, ev_i a2), (8, ev_i a8)]) dX11_lotOf_115 rfl (Nat.le_of_ble_eq_true rfl) rfl ?_
  refine Ev_goto (tgt := 20) dX11_lotOf_118 rfl ?_
  exact Ev_sub [4, 5, 6, 3, 2, 1, 7, 0] rfl h
theorem dX11_commonPart_0 : decode cX11_commonPart 0 = .ok (.lload_n 0, 1) := by decide +kernel
theorem dX11_commonPart_1 : decode cX11_commonPart 1 = .ok (.lstore 4, 2) := by decide +kernel
theorem dX11_commonPart_3 : decode cX11_commonPart 3 = .ok (.lload_n 2, 1) := by decide +kernel
theorem dX11_commonPart_4 : decode cX11_commonPart 4 = .ok (.lstore 6, 2) := by decide +kernel
theorem dX11_commonPart_6 : decode cX11_commonPart 6 = .ok (.iconst 0, 1) := by decide +kernel
theorem dX11_commonPart_7 : decode cX11_commonPart 7 = .ok (.istore 8, 2) := by decide +kernel
theorem dX11_commonPart_9 : decode cX11_commonPart 9 = .ok (.iload 8, 2) := by decide +kernel
theorem dX11_commonPart_11 : decode cX11_commonPart 11 = .ok (.sipush 200, 3) := by decide +kernel
theorem dX11_commonPart_14 : decode cX11_commonPart 14 = .ok (.if_icmp .ge 31, 3) := by decide +kernel
theorem dX11_commonPart_17 : decode cX11_commonPart 17 = .ok (.lload 6, 2) := by decide +kernel
theorem dX11_commonPart_19 : decode cX11_commonPart 19 = .ok (.lconst 0, 1) := by decide +kernel
theorem dX11_commonPart_20 : decode cX11_commonPart 20 = .ok (.lcmp, 1) := by decide +kernel
theorem dX11_commonPart_21 : decode cX11_commonPart 21 = .ok (.ifCond .eq 24, 3) := by decide +kernel
theorem dX11_commonPart_24 : decode cX11_commonPart 24 = .ok (.lload 4, 2) := by decide +kernel
theorem dX11_commonPart_26 : decode cX11_commonPart 26 = .ok (.lload 6, 2) := by decide +kernel
theorem dX11_commonPart_28 : decode cX11_commonPart 28 = .ok (.lrem, 1) := by decide +kernel
theorem dX11_commonPart_29 : decode cX11_commonPart 29 = .ok (.lstore 9, 2) := by decide +kernel
theorem dX11_commonPart_31 : decode cX11_commonPart 31 = .ok (.lload 6, 2) := by decide +kernel
theorem dX11_commonPart_33 : decode cX11_commonPart 33 = .ok (.lstore 4, 2) := by decide +kernel
theorem dX11_commonPart_35 : decode cX11_commonPart 35 = .ok (.lload 9, 2) := by decide +kernel
theorem dX11_commonPart_37 : decode cX11_commonPart 37 = .ok (.lstore 6, 2) := by decide +kernel
theorem dX11_commonPart_39 : decode cX11_commonPart 39 = .ok (.iinc 8 1, 3) := by decide +kernel
theorem dX11_commonPart_42 : decode cX11_commonPart 42 = .ok (.goto (-33), 3) := by decide +kernel
theorem dX11_commonPart_45 : decode cX11_commonPart 45 = .ok (.lload 4, 2) := by decide +kernel
theorem dX11_commonPart_47 : decode cX11_commonPart 47 = .ok (.lreturn, 1) := by decide +kernel
theorem wp_X11_commonPart_0 {d : Nat} {s : ev_S} {Q : Option ev_V → ev_S → Prop} {a0 a2 : Int}
    (h : Ev layX M_X11_commonPart d 9 [(4, ev_l a0), (6, ev_l a2), (8, ev_i 0)] [] s Q) :
    Ev layX M_X11_commonPart d 0 [(0, ev_l a0), (2, ev_l a2)] [] s Q := by
  refine Ev_lload_n 0 dX11_commonPart_0 rfl rfl ?_
  refine Ev_lstore (l' := [(4, ev_l a0), (0, ev_l a0), (2, ev_l a2)]) dX11_commonPart_1 (Nat.le_of_ble_eq_true rfl) rfl ?_
  refine Ev_lload_n 2 dX11_commonPart_3 rfl rfl ?_
  refine Ev_lstore (l' := [(6, ev_l a2), (4, ev_l a0), (0, ev_l a0), (2, ev_l a2)]) dX11_commonPart_4 (Nat.le_of_ble_eq_true rfl) rfl ?_
  refine Ev_iconst dX11_commonPart_6 rfl (ev_Rc rfl) ?_
  refine Ev_istore (l' := [(8, ev_i 0), (6, ev_l a2), (4, ev_l a0), (0, ev_l a0), (2, ev_l a2)]) dX11_commonPart_7 (Nat.le_of_ble_eq_true rfl) rfl ?_
  exact Ev_sub [2, 1, 0] rfl h
theorem wp_X11_commonPart_9 {d : Nat} {s : ev_S} {Q : Option ev_V → ev_S → Prop} {a4 a6 a8 : Int}
    (h : ((200 ≤ a8 → Q (some (ev_l a4)) s) ∧ (a8 < 200 → (((ev_lcmp a6 0) = 0 → Q (some (ev_l a4)) s) ∧ ((ev_lcmp a6 0) ≠ 0 → (a6 ≠ 0 ∧ Ev layX M_X11_commonPart d 9 [(4, ev_l a6), (6, ev_l (ev_lrem a4 a6)), (8, ev_i (ev_add a8 1))] [] s Q)))))) :
    Ev layX M_X11_commonPart d 9 [(4, ev_l a4), (6, ev_l a6), (8, ev_i a8)] [] s Q := by
  refine Ev_iload 2 dX11_commonPart_9 rfl ?_
  refine Ev_sipushC dX11_commonPart_11 rfl ?_
  refine Ev_icmp_ge (tgt := 45) dX11_commonPart_14 rfl (fun c => ?_) (fun c => ?_)
  · replace h := h.1 c
    refine Ev_lload 0 dX11_commonPart_45 rfl ?_
    exact Ev_lret rfl dX11_commonPart_47 h
  · replace h := h.2 c
    refine Ev_lload 1 dX11_commonPart_17 rfl ?_
    refine Ev_lconst (z := 0) dX11_commonPart_19 rfl (ev_RLc rfl) ?_
    refine Ev_lcmp dX11_commonPart_20 ?_
    refine Ev_if_eq (tgt := 45) dX11_commonPart_21 rfl (fun c => ?_) (fun c => ?_)
    · replace h := h.1 c
      refine Ev_lload 0 dX11_commonPart_45 rfl ?_
      exact Ev_lret rfl dX11_commonPart_47 h
    · replace h := h.2 c
      refine Ev_lload 0 dX11_commonPart_24 rfl ?_
      refine Ev_lload 1 dX11_commonPart_26 rfl ?_
      obtain ⟨h0, h⟩ := h
      refine Ev_lrem dX11_commonPart_28 h0 ?_
      refine Ev_lstore (l' := [(9, ev_l (ev_lrem a4 a6)), (4, ev_l a4), (6, ev_l a6), (8, ev_i a8)]) dX11_commonPart_29 (Nat.le_of_ble_eq_true rfl) rfl ?_
      refine Ev_lload 2 dX11_commonPart_31 rfl ?_
      refine Ev_lstore (l' := [(4, ev_l a6), (9, ev_l (ev_lrem a4 a6)), (6, ev_l a6), (8, ev_i a8)]) dX11_commonPart_33 (Nat.le_of_ble_eq_true rfl) rfl ?_
      refine Ev_lload 1 dX11_commonPart_35 rfl ?_
      refine Ev_lstore (l' := [(6, ev_l (ev_lrem a4 a6)), (4, ev_l a6), (9, ev_l (ev_lrem a4 a6)), (8, ev_i a8)]) dX11_commonPart_37 (Nat.le_of_ble_eq_true rfl) rfl ?_
      refine Ev_iinc (j := 3) (l' := [(8, ev_i (ev_add a8 1)), (6, ev_l (ev_lrem a4 a6)), (4, ev_l a6), (9, ev_l (ev_lrem a4 a6))]) dX11_commonPart_39 rfl (Nat.le_of_ble_eq_true rfl) rfl ?_
      refine Ev_goto (tgt := 9) dX11_commonPart_42 rfl ?_
      exact Ev_sub [2, 1, 0] rfl h
theorem dX11_stepsBetween_0 : decode cX11_stepsBetween 0 = .ok (.iload_n 0, 1) := by decide +kernel
theorem dX11_stepsBetween_1 : decode cX11_stepsBetween 1 = .ok (.bipush 8, 2) := by decide +kernel
theorem dX11_stepsBetween_3 : decode cX11_stepsBetween 3 = .ok (.irem, 1) := by decide +kernel
theorem dX11_stepsBetween_4 : decode cX11_stepsBetween 4 = .ok (.iload_n 1, 1) := by decide +kernel
theorem dX11_stepsBetween_5 : decode cX11_stepsBetween 5 = .ok (.bipush 8, 2) := by decide +kernel
theorem dX11_stepsBetween_7 : decode cX11_stepsBetween 7 = .ok (.irem, 1) := by decide +kernel
theorem dX11_stepsBetween_8 : decode cX11_stepsBetween 8 = .ok (.isub, 1) := by decide +kernel
theorem dX11_stepsBetween_9 : decode cX11_stepsBetween 9 = .ok (.invokestatic 363, 3) := by decide +kernel
theorem dX11_stepsBetween_12 : decode cX11_stepsBetween 12 = .ok (.iload_n 0, 1) := by decide +kernel
theorem dX11_stepsBetween_13 : decode cX11_stepsBetween 13 = .ok (.bipush 8, 2) := by decide +kernel
theorem dX11_stepsBetween_15 : decode cX11_stepsBetween 15 = .ok (.idiv, 1) := by decide +kernel
theorem dX11_stepsBetween_16 : decode cX11_stepsBetween 16 = .ok (.iload_n 1, 1) := by decide +kernel
theorem dX11_stepsBetween_17 : decode cX11_stepsBetween 17 = .ok (.bipush 8, 2) := by decide +kernel
theorem dX11_stepsBetween_19 : decode cX11_stepsBetween 19 = .ok (.idiv, 1) := by decide +kernel
theorem dX11_stepsBetween_20 : decode cX11_stepsBetween 20 = .ok (.isub, 1) := by decide +kernel
theorem dX11_stepsBetween_21 : decode cX11_stepsBetween 21 = .ok (.invokestatic 363, 3) := by decide +kernel
theorem dX11_stepsBetween_24 : decode cX11_stepsBetween 24 = .ok (.iadd, 1) := by decide +kernel
theorem dX11_stepsBetween_25 : decode cX11_stepsBetween 25 = .ok (.ireturn, 1) := by decide +kernel
theorem wp_X11_stepsBetween_0 {d : Nat} {s : ev_S} {Q : Option ev_V → ev_S → Prop} {a0 a1 : Int}
    (h : Q (some (ev_i (ev_add (ev_abs (ev_sub (ev_rem a0 8) (ev_rem a1 8))) (ev_abs (ev_sub (ev_div a0 8) (ev_div a1 8)))))) s) :
    Ev layX M_X11_stepsBetween (d + 1) 0 [(0, ev_i a0), (1, ev_i a1)] [] s Q := by
  refine Ev_iload_n 0 dX11_stepsBetween_0 rfl rfl ?_
  refine Ev_bipushC dX11_stepsBetween_1 rfl ?_
  refine Ev_irem dX11_stepsBetween_3 (by decide) ?_
  refine Ev_iload_n 1 dX11_stepsBetween_4 rfl rfl ?_
  refine Ev_bipushC dX11_stepsBetween_5 rfl ?_
  refine Ev_irem dX11_stepsBetween_7 (by decide) ?_
  refine Ev_isub dX11_stepsBetween_8 ?_
  refine Ev_mabs wd_1108 dX11_stepsBetween_9 (Nat.le_of_ble_eq_true rfl) ?_
  refine Ev_iload_n 0 dX11_stepsBetween_12 rfl rfl ?_
  refine Ev_bipushC dX11_stepsBetween_13 rfl ?_
  refine Ev_idiv dX11_stepsBetween_15 (by decide) ?_
  refine Ev_iload_n 1 dX11_stepsBetween_16 rfl rfl ?_
  refine Ev_bipushC dX11_stepsBetween_17 rfl ?_
  refine Ev_idiv dX11_stepsBetween_19 (by decide) ?_
  refine Ev_isub dX11_stepsBetween_20 ?_
  refine Ev_mabs wd_1108 dX11_stepsBetween_21 (Nat.le_of_ble_eq_true rfl) ?_
  refine Ev_iadd dX11_stepsBetween_24 ?_
  exact Ev_iret rfl dX11_stepsBetween_25 rfl h
