theorem dX12_avertedBy_0 : decode cX12_avertedBy 0 = .ok (.iconst 0, 1) := by decide +kernel
theorem dX12_avertedBy_1 : decode cX12_avertedBy 1 = .ok (.istore_n 2, 1) := by decide +kernel
theorem dX12_avertedBy_2 : decode cX12_avertedBy 2 = .ok (.iconst 0, 1) := by decide +kernel
theorem dX12_avertedBy_3 : decode cX12_avertedBy 3 = .ok (.istore_n 3, 1) := by decide +kernel
theorem dX12_avertedBy_4 : decode cX12_avertedBy 4 = .ok (.iload_n 3, 1) := by decide +kernel
theorem dX12_avertedBy_5 : decode cX12_avertedBy 5 = .ok (.aload_n 0, 1) := by decide +kernel
theorem dX12_avertedBy_6 : decode cX12_avertedBy 6 = .ok (.getfield 165, 3) := by decide +kernel
theorem dX12_avertedBy_9 : decode cX12_avertedBy 9 = .ok (.if_icmp .ge 30, 3) := by decide +kernel
theorem dX12_avertedBy_12 : decode cX12_avertedBy 12 = .ok (.aload_n 0, 1) := by decide +kernel
theorem dX12_avertedBy_13 : decode cX12_avertedBy 13 = .ok (.getfield 7, 3) := by decide +kernel
theorem dX12_avertedBy_16 : decode cX12_avertedBy 16 = .ok (.bipush 77, 2) := by decide +kernel
theorem dX12_avertedBy_18 : decode cX12_avertedBy 18 = .ok (.iload_n 3, 1) := by decide +kernel
theorem dX12_avertedBy_19 : decode cX12_avertedBy 19 = .ok (.iadd, 1) := by decide +kernel
theorem dX12_avertedBy_20 : decode cX12_avertedBy 20 = .ok (.iaload, 1) := by decide +kernel
theorem dX12_avertedBy_21 : decode cX12_avertedBy 21 = .ok (.iload_n 1, 1) := by decide +kernel
theorem dX12_avertedBy_22 : decode cX12_avertedBy 22 = .ok (.iconst 1, 1) := by decide +kernel
theorem dX12_avertedBy_23 : decode cX12_avertedBy 23 = .ok (.iadd, 1) := by decide +kernel
theorem dX12_avertedBy_24 : decode cX12_avertedBy 24 = .ok (.if_icmp .ne 9, 3) := by decide +kernel
theorem dX12_avertedBy_27 : decode cX12_avertedBy 27 = .ok (.iload_n 2, 1) := by decide +kernel
theorem dX12_avertedBy_28 : decode cX12_avertedBy 28 = .ok (.iconst 1, 1) := by decide +kernel
theorem dX12_avertedBy_29 : decode cX12_avertedBy 29 = .ok (.iload_n 3, 1) := by decide +kernel
theorem dX12_avertedBy_30 : decode cX12_avertedBy 30 = .ok (.ishl, 1) := by decide +kernel
theorem dX12_avertedBy_31 : decode cX12_avertedBy 31 = .ok (.ior, 1) := by decide +kernel
theorem dX12_avertedBy_32 : decode cX12_avertedBy 32 = .ok (.istore_n 2, 1) := by decide +kernel
theorem dX12_avertedBy_33 : decode cX12_avertedBy 33 = .ok (.iinc 3 1, 3) := by decide +kernel
theorem dX12_avertedBy_36 : decode cX12_avertedBy 36 = .ok (.goto (-32), 3) := by decide +kernel
theorem dX12_avertedBy_39 : decode cX12_avertedBy 39 = .ok (.iload_n 2, 1) := by decide +kernel
theorem dX12_avertedBy_40 : decode cX12_avertedBy 40 = .ok (.ireturn, 1) := by decide +kernel
theorem wp_X12_avertedBy_0 {d : Nat} {s : ev_S} {Q : Option ev_V → ev_S → Prop} {a1 : Int}
    (h : Ev layM M_X12_avertedBy d 4 [(0, ev_r 0), (1, ev_i a1), (2, ev_i 0), (3, ev_i 0)] [] s Q) :
    Ev layM M_X12_avertedBy d 0 [(0, ev_r 0), (1, ev_i a1)] [] s Q := by
  refine Ev_iconst dX12_avertedBy_0 rfl (ev_Rc rfl) ?_
  refine Ev_istore_n (l' := [(2, ev_i 0), (0, ev_r 0), (1, ev_i a1)]) dX12_avertedBy_1 rfl (Nat.le_of_ble_eq_true rfl) rfl ?_
  refine Ev_iconst dX12_avertedBy_2 rfl (ev_Rc rfl) ?_
  refine Ev_istore_n (l' := [(3, ev_i 0), (2, ev_i 0), (0, ev_r 0), (1, ev_i a1)]) dX12_avertedBy_3 rfl (Nat.le_of_ble_eq_true rfl) rfl ?_
  exact Ev_sub [2, 3, 1, 0] rfl h
theorem wp_X12_avertedBy_4 {d : Nat} {s : ev_S} {Q : Option ev_V → ev_S → Prop} {a1 a2 a3 : Int}
    (h : (((s 0 46) ≤ a3 → Q (some (ev_i a2)) s) ∧ (a3 < (s 0 46) → ((0 ≤ (ev_add 77 a3) ∧ (ev_add 77 a3) < (87 : Nat)) ∧ (((s 1 (Int.toNat (ev_add 77 a3))) ≠ (ev_add a1 1) → Ev layM M_X12_avertedBy d 4 [(0, ev_r 0), (1, ev_i a1), (2, ev_i a2), (3, ev_i (ev_add a3 1))] [] s Q) ∧ ((s 1 (Int.toNat (ev_add 77 a3))) = (ev_add a1 1) → Ev layM M_X12_avertedBy d 4 [(0, ev_r 0), (1, ev_i a1), (2, ev_i (ev_or a2 (ev_shl 1 a3))), (3, ev_i (ev_add a3 1))] [] s Q)))))) :
    Ev layM M_X12_avertedBy d 4 [(0, ev_r 0), (1, ev_i a1), (2, ev_i a2), (3, ev_i a3)] [] s Q := by
  refine Ev_iload_n 3 dX12_avertedBy_4 rfl rfl ?_
  refine Ev_aload_n 0 dX12_avertedBy_5 rfl rfl ?_
  refine Ev_get (i := 46) cl_X12 yM_0 (Nat.le_of_ble_eq_true rfl) rfl wd_1490 dX12_avertedBy_6 ?_
  refine Ev_icmp_ge (tgt := 39) dX12_avertedBy_9 rfl (fun c => ?_) (fun c => ?_)
  · replace h := h.1 c
    refine Ev_iload_n 2 dX12_avertedBy_39 rfl rfl ?_
    exact Ev_iret rfl dX12_avertedBy_40 rfl h
  · replace h := h.2 c
    refine Ev_aload_n 0 dX12_avertedBy_12 rfl rfl ?_
    refine Ev_getR (i := 1) cl_X12 yM_0 (Nat.le_of_ble_eq_true rfl) rfl wd_1445 dX12_avertedBy_13 ?_
    refine Ev_bipushC dX12_avertedBy_16 rfl ?_
    refine Ev_iload_n 3 dX12_avertedBy_18 rfl rfl ?_
    refine Ev_iadd dX12_avertedBy_19 ?_
    obtain ⟨h0, h⟩ := h
    refine Ev_iald yM_1 h0 dX12_avertedBy_20 ?_
    refine Ev_iload_n 1 dX12_avertedBy_21 rfl rfl ?_
    refine Ev_iconst dX12_avertedBy_22 rfl (ev_Rc rfl) ?_
    refine Ev_iadd dX12_avertedBy_23 ?_
    refine Ev_icmp_ne (tgt := 33) dX12_avertedBy_24 rfl (fun c => ?_) (fun c => ?_)
    · replace h := h.1 c
      refine Ev_iinc (j := 3) (l' := [(3, ev_i (ev_add a3 1)), (0, ev_r 0), (1, ev_i a1), (2, ev_i a2)]) dX12_avertedBy_33 rfl (Nat.le_of_ble_eq_true rfl) rfl ?_
      refine Ev_goto (tgt := 4) dX12_avertedBy_36 rfl ?_
      exact Ev_sub [1, 2, 3, 0] rfl h
    · replace h := h.2 c
      refine Ev_iload_n 2 dX12_avertedBy_27 rfl rfl ?_
      refine Ev_iconst dX12_avertedBy_28 rfl (ev_Rc rfl) ?_
      refine Ev_iload_n 3 dX12_avertedBy_29 rfl rfl ?_
      refine Ev_ishl dX12_avertedBy_30 ?_
      refine Ev_ior dX12_avertedBy_31 ?_
      refine Ev_istore_n (l' := [(2, ev_i (ev_or a2 (ev_shl 1 a3))), (0, ev_r 0), (1, ev_i a1), (3, ev_i a3)]) dX12_avertedBy_32 rfl (Nat.le_of_ble_eq_true rfl) rfl ?_
      refine Ev_iinc (j := 3) (l' := [(3, ev_i (ev_add a3 1)), (2, ev_i (ev_or a2 (ev_shl 1 a3))), (0, ev_r 0), (1, ev_i a1)]) dX12_avertedBy_33 rfl (Nat.le_of_ble_eq_true rfl) rfl ?_
      refine Ev_goto (tgt := 4) dX12_avertedBy_36 rfl ?_
      exact Ev_sub [2, 3, 1, 0] rfl h
theorem dX12_book_0 : decode cX12_book 0 = .ok (.aload_n 0, 1) := by decide +kernel
theorem dX12_book_1 : decode cX12_book 1 = .ok (.iconst 0, 1) := by decide +kernel
theorem dX12_book_2 : decode cX12_book 2 = .ok (.putfield 124, 3) := by decide +kernel
theorem dX12_book_5 : decode cX12_book 5 = .ok (.aload_n 0, 1) := by decide +kernel
theorem dX12_book_6 : decode cX12_book 6 = .ok (.iload_n 1, 1) := by decide +kernel
theorem dX12_book_7 : decode cX12_book 7 = .ok (.iconst 0, 1) := by decide +kernel
theorem dX12_book_8 : decode cX12_book 8 = .ok (.aload_n 0, 1) := by decide +kernel
theorem dX12_book_9 : decode cX12_book 9 = .ok (.getfield 7, 3) := by decide +kernel
theorem dX12_book_12 : decode cX12_book 12 = .ok (.iconst 2, 1) := by decide +kernel
theorem dX12_book_13 : decode cX12_book 13 = .ok (.iaload, 1) := by decide +kernel
theorem dX12_book_14 : decode cX12_book 14 = .ok (.iconst 1, 1) := by decide +kernel
theorem dX12_book_15 : decode cX12_book 15 = .ok (.isub, 1) := by decide +kernel
theorem dX12_book_16 : decode cX12_book 16 = .ok (.invokevirtual 158, 3) := by decide +kernel
theorem dX12_book_19 : decode cX12_book 19 = .ok (.ifCond .eq 13, 3) := by decide +kernel
theorem dX12_book_22 : decode cX12_book 22 = .ok (.aload_n 0, 1) := by decide +kernel
theorem dX12_book_23 : decode cX12_book 23 = .ok (.iload_n 2, 1) := by decide +kernel
theorem dX12_book_24 : decode cX12_book 24 = .ok (.iconst 0, 1) := by decide +kernel
theorem dX12_book_25 : decode cX12_book 25 = .ok (.iconst 5, 1) := by decide +kernel
theorem dX12_book_26 : decode cX12_book 26 = .ok (.invokevirtual 158, 3) := by decide +kernel
theorem dX12_book_29 : decode cX12_book 29 = .ok (.ifCond .ne 5, 3) := by decide +kernel
theorem dX12_book_32 : decode cX12_book 32 = .ok (.iconst (-1), 1) := by decide +kernel
theorem dX12_book_33 : decode cX12_book 33 = .ok (.ireturn, 1) := by decide +kernel
theorem dX12_book_34 : decode cX12_book 34 = .ok (.iload_n 2, 1) := by decide +kernel
theorem dX12_book_35 : decode cX12_book 35 = .ok (.iconst 5, 1) := by decide +kernel
theorem dX12_book_36 : decode cX12_book 36 = .ok (.if_icmp .ne 11, 3) := by decide +kernel
theorem dX12_book_39 : decode cX12_book 39 = .ok (.aload_n 0, 1) := by decide +kernel
theorem dX12_book_40 : decode cX12_book 40 = .ok (.iload_n 1, 1) := by decide +kernel
theorem dX12_book_41 : decode cX12_book 41 = .ok (.invokevirtual 493, 3) := by decide +kernel
theorem dX12_book_44 : decode cX12_book 44 = .ok (.goto 13, 3) := by decide +kernel
theorem dX12_book_47 : decode cX12_book 47 = .ok (.aload_n 0, 1) := by decide +kernel
theorem dX12_book_48 : decode cX12_book 48 = .ok (.getfield 34, 3) := by decide +kernel
theorem dX12_book_51 : decode cX12_book 51 = .ok (.iconst 5, 1) := by decide +kernel
theorem dX12_book_52 : decode cX12_book 52 = .ok (.iload_n 1, 1) := by decide +kernel
theorem dX12_book_53 : decode cX12_book 53 = .ok (.imul, 1) := by decide +kernel
theorem dX12_book_54 : decode cX12_book 54 = .ok (.iload_n 2, 1) := by decide +kernel
theorem dX12_book_55 : decode cX12_book 55 = .ok (.iadd, 1) := by decide +kernel
theorem dX12_book_56 : decode cX12_book 56 = .ok (.iaload, 1) := by decide +kernel
theorem dX12_book_57 : decode cX12_book 57 = .ok (.ireturn, 1) := by decide +kernel
theorem wp_X12_book_0 {d : Nat} {s : ev_S} {Q : Option ev_V → ev_S → Prop} {a1 a2 : Int}
    (h : (∀ s1, ev_up s 0 0 0 = s1 → (Ev layM M_X12_isIn d 0 [(0, ev_r 0), (1, ev_i a1), (2, ev_i 0), (3, ev_i (ev_sub (s1 1 2) 1))] [] s1 (ev_pi (fun r3 s2 => ((r3 = 0 → Q (some (ev_i (-1))) s2) ∧ (r3 ≠ 0 → (Ev layM M_X12_isIn d 0 [(0, ev_r 0), (1, ev_i a2), (2, ev_i 0), (3, ev_i 5)] [] s2 (ev_pi (fun r5 s4 => ((r5 ≠ 0 → ((a2 ≠ 5 → ((0 ≤ (ev_add (ev_mul 5 a1) a2) ∧ (ev_add (ev_mul 5 a1) a2) < (500 : Nat)) ∧ Q (some (ev_i (s4 9 (Int.toNat (ev_add (ev_mul 5 a1) a2))))) s4)) ∧ (a2 = 5 → (Ev layM M_X12_avertedBy d 0 [(0, ev_r 0), (1, ev_i a1)] [] s4 (ev_pi (fun r7 s6 => Q (some (ev_i r7)) s6)))))) ∧ (r5 = 0 → Q (some (ev_i (-1))) s4)))))))))))) :
    Ev layM M_X12_book (d + 1) 0 [(0, ev_r 0), (1, ev_i a1), (2, ev_i a2)] [] s Q := by
  refine Ev_aload_n 0 dX12_book_0 rfl rfl ?_
  refine Ev_iconst dX12_book_1 rfl (ev_Rc rfl) ?_
  refine Ev_put (i := 0) (ty := .int) cl_X12 yM_0 (Nat.le_of_ble_eq_true rfl) rfl rfl (by decide +kernel) rfl rfl wd_1444 dX12_book_2 (Ev_nm (fun s1 es1 => ?_))
  replace h := h s1 es1
  refine Ev_aload_n 0 dX12_book_5 rfl rfl ?_
  refine Ev_iload_n 1 dX12_book_6 rfl rfl ?_
  refine Ev_iconst dX12_book_7 rfl (ev_Rc rfl) ?_
  refine Ev_aload_n 0 dX12_book_8 rfl rfl ?_
  refine Ev_getR (i := 1) cl_X12 yM_0 (Nat.le_of_ble_eq_true rfl) rfl wd_1445 dX12_book_9 ?_
  refine Ev_iconst dX12_book_12 rfl (ev_Rc rfl) ?_
  refine Ev_iald yM_1 (by decide) dX12_book_13 ?_
  refine Ev_iconst dX12_book_14 rfl (ev_Rc rfl) ?_
  refine Ev_isub dX12_book_15 ?_
  refine Ev_callV (As := [ev_i a1, ev_i 0, ev_i (ev_sub (s1 1 2) 1)]) (b := 0) (st := []) (M' := M_X12_isIn) cm_X12_isIn wd_1650 wd_1652 wd_70 yM_0 cl_X12 rfl dX12_book_16 (Nat.le_refl _) rfl (Nat.le_of_ble_eq_true rfl) (Nat.le_of_ble_eq_true rfl) h (fun v u h hk => ?_)
  obtain ⟨r3, rfl⟩ := hk
  obtain ⟨s2, rfl⟩ : ∃ x, x = u := ⟨_, rfl⟩
  replace h := h r3 rfl
  refine Ev_if_eq (tgt := 32) dX12_book_19 rfl (fun c => ?_) (fun c => ?_)
  · replace h := h.1 c
    refine Ev_iconst dX12_book_32 rfl (ev_Rc rfl) ?_
    exact Ev_iret rfl dX12_book_33 rfl h
  · replace h := h.2 c
    refine Ev_aload_n 0 dX12_book_22 rfl rfl ?_
    refine Ev_iload_n 2 dX12_book_23 rfl rfl ?_
    refine Ev_iconst dX12_book_24 rfl (ev_Rc rfl) ?_
    refine Ev_iconst dX12_book_25 rfl (ev_Rc rfl) ?_
    refine Ev_callV (As := [ev_i a2, ev_i 0, ev_i 5]) (b := 0) (st := []) (M' := M_X12_isIn) cm_X12_isIn wd_1650 wd_1652 wd_70 yM_0 cl_X12 rfl dX12_book_26 (Nat.le_refl _) rfl (Nat.le_of_ble_eq_true rfl) (Nat.le_of_ble_eq_true rfl) h (fun v u h hk => ?_)
    obtain ⟨r5, rfl⟩ := hk
    obtain ⟨s4, rfl⟩ : ∃ x, x = u := ⟨_, rfl⟩
    replace h := h r5 rfl
    refine Ev_if_ne (tgt := 34) dX12_book_29 rfl (fun c => ?_) (fun c => ?_)
    · replace h := h.1 c
      refine Ev_iload_n 2 dX12_book_34 rfl rfl ?_
      refine Ev_iconst dX12_book_35 rfl (ev_Rc rfl) ?_
      refine Ev_icmp_ne (tgt := 47) dX12_book_36 rfl (fun c => ?_) (fun c => ?_)
      · replace h := h.1 c
        refine Ev_aload_n 0 dX12_book_47 rfl rfl ?_
        refine Ev_getR (i := 17) cl_X12 yM_0 (Nat.le_of_ble_eq_true rfl) rfl wd_1461 dX12_book_48 ?_
        refine Ev_iconst dX12_book_51 rfl (ev_Rc rfl) ?_
        refine Ev_iload_n 1 dX12_book_52 rfl rfl ?_
        refine Ev_imul dX12_book_53 ?_
        refine Ev_iload_n 2 dX12_book_54 rfl rfl ?_
        refine Ev_iadd dX12_book_55 ?_
        obtain ⟨h0, h⟩ := h
        refine Ev_iald yM_9 h0 dX12_book_56 ?_
        exact Ev_iret rfl dX12_book_57 rfl h
      · replace h := h.2 c
        refine Ev_aload_n 0 dX12_book_39 rfl rfl ?_
        refine Ev_iload_n 1 dX12_book_40 rfl rfl ?_
        refine Ev_callV (As := [ev_i a1]) (b := 0) (st := []) (M' := M_X12_avertedBy) cm_X12_avertedBy wd_2105 wd_2107 wd_165 yM_0 cl_X12 rfl dX12_book_41 (Nat.le_refl _) rfl (Nat.le_of_ble_eq_true rfl) (Nat.le_of_ble_eq_true rfl) h (fun v u h hk => ?_)
        obtain ⟨r7, rfl⟩ := hk
        obtain ⟨s6, rfl⟩ : ∃ x, x = u := ⟨_, rfl⟩
        replace h := h r7 rfl
        refine Ev_goto (tgt := 57) dX12_book_44 rfl ?_
        exact Ev_iret rfl dX12_book_57 rfl h
    · replace h := h.2 c
      refine Ev_iconst dX12_book_32 rfl (ev_Rc rfl) ?_
      exact Ev_iret rfl dX12_book_33 rfl h
theorem dX12_sortsHarms_0 : decode cX12_sortsHarms 0 = .ok (.iconst 0, 1) := by decide +kernel
theorem dX12_sortsHarms_1 : decode cX12_sortsHarms 1 = .ok (.istore_n 2, 1) := by decide +kernel
theorem dX12_sortsHarms_2 : decode cX12_sortsHarms 2 = .ok (.iconst 0, 1) := by decide +kernel
theorem dX12_sortsHarms_3 : decode cX12_sortsHarms 3 = .ok (.istore_n 3, 1) := by decide +kernel
theorem dX12_sortsHarms_4 : decode cX12_sortsHarms 4 = .ok (.iload_n 3, 1) := by decide +kernel
theorem dX12_sortsHarms_5 : decode cX12_sortsHarms 5 = .ok (.aload_n 0, 1) := by decide +kernel
theorem dX12_sortsHarms_6 : decode cX12_sortsHarms 6 = .ok (.getfield 165, 3) := by decide +kernel
theorem dX12_sortsHarms_9 : decode cX12_sortsHarms 9 = .ok (.if_icmp .ge 88, 3) := by decide +kernel
theorem dX12_sortsHarms_12 : decode cX12_sortsHarms 12 = .ok (.iload_n 1, 1) := by decide +kernel
theorem dX12_sortsHarms_13 : decode cX12_sortsHarms 13 = .ok (.iload_n 3, 1) := by decide +kernel
theorem dX12_sortsHarms_14 : decode cX12_sortsHarms 14 = .ok (.ishr, 1) := by decide +kernel
theorem dX12_sortsHarms_15 : decode cX12_sortsHarms 15 = .ok (.iconst 1, 1) := by decide +kernel
theorem dX12_sortsHarms_16 : decode cX12_sortsHarms 16 = .ok (.iand, 1) := by decide +kernel
theorem dX12_sortsHarms_17 : decode cX12_sortsHarms 17 = .ok (.ifCond .ne 6, 3) := by decide +kernel
theorem dX12_sortsHarms_20 : decode cX12_sortsHarms 20 = .ok (.goto 71, 3) := by decide +kernel
theorem dX12_sortsHarms_23 : decode cX12_sortsHarms 23 = .ok (.iload_n 2, 1) := by decide +kernel
theorem dX12_sortsHarms_24 : decode cX12_sortsHarms 24 = .ok (.istore 4, 2) := by decide +kernel
theorem dX12_sortsHarms_26 : decode cX12_sortsHarms 26 = .ok (.iload 4, 2) := by decide +kernel
theorem dX12_sortsHarms_28 : decode cX12_sortsHarms 28 = .ok (.ifCond .le 46, 3) := by decide +kernel
theorem dX12_sortsHarms_31 : decode cX12_sortsHarms 31 = .ok (.aload_n 0, 1) := by decide +kernel
theorem dX12_sortsHarms_32 : decode cX12_sortsHarms 32 = .ok (.getfield 118, 3) := by decide +kernel
theorem dX12_sortsHarms_35 : decode cX12_sortsHarms 35 = .ok (.iload 4, 2) := by decide +kernel
theorem dX12_sortsHarms_37 : decode cX12_sortsHarms 37 = .ok (.iconst 1, 1) := by decide +kernel
theorem dX12_sortsHarms_38 : decode cX12_sortsHarms 38 = .ok (.isub, 1) := by decide +kernel
theorem dX12_sortsHarms_39 : decode cX12_sortsHarms 39 = .ok (.iaload, 1) := by decide +kernel
theorem dX12_sortsHarms_40 : decode cX12_sortsHarms 40 = .ok (.aload_n 0, 1) := by decide +kernel
theorem dX12_sortsHarms_41 : decode cX12_sortsHarms 41 = .ok (.iload_n 3, 1) := by decide +kernel
theorem dX12_sortsHarms_42 : decode cX12_sortsHarms 42 = .ok (.iconst 0, 1) := by decide +kernel
theorem dX12_sortsHarms_43 : decode cX12_sortsHarms 43 = .ok (.invokevirtual 396, 3) := by decide +kernel
theorem dX12_sortsHarms_46 : decode cX12_sortsHarms 46 = .ok (.if_icmp .ge 28, 3) := by decide +kernel
theorem dX12_sortsHarms_49 : decode cX12_sortsHarms 49 = .ok (.aload_n 0, 1) := by decide +kernel
theorem dX12_sortsHarms_50 : decode cX12_sortsHarms 50 = .ok (.getfield 118, 3) := by decide +kernel
theorem dX12_sortsHarms_53 : decode cX12_sortsHarms 53 = .ok (.iload 4, 2) := by decide +kernel
theorem dX12_sortsHarms_55 : decode cX12_sortsHarms 55 = .ok (.aload_n 0, 1) := by decide +kernel
theorem dX12_sortsHarms_56 : decode cX12_sortsHarms 56 = .ok (.getfield 118, 3) := by decide +kernel
theorem dX12_sortsHarms_59 : decode cX12_sortsHarms 59 = .ok (.iload 4, 2) := by decide +kernel
theorem dX12_sortsHarms_61 : decode cX12_sortsHarms 61 = .ok (.iconst 1, 1) := by decide +kernel
theorem dX12_sortsHarms_62 : decode cX12_sortsHarms 62 = .ok (.isub, 1) := by decide +kernel
theorem dX12_sortsHarms_63 : decode cX12_sortsHarms 63 = .ok (.iaload, 1) := by decide +kernel
theorem dX12_sortsHarms_64 : decode cX12_sortsHarms 64 = .ok (.iastore, 1) := by decide +kernel
theorem dX12_sortsHarms_65 : decode cX12_sortsHarms 65 = .ok (.iload 4, 2) := by decide +kernel
theorem dX12_sortsHarms_67 : decode cX12_sortsHarms 67 = .ok (.iconst 1, 1) := by decide +kernel
theorem dX12_sortsHarms_68 : decode cX12_sortsHarms 68 = .ok (.isub, 1) := by decide +kernel
theorem dX12_sortsHarms_69 : decode cX12_sortsHarms 69 = .ok (.istore 4, 2) := by decide +kernel
theorem dX12_sortsHarms_71 : decode cX12_sortsHarms 71 = .ok (.goto (-45), 3) := by decide +kernel
theorem dX12_sortsHarms_74 : decode cX12_sortsHarms 74 = .ok (.aload_n 0, 1) := by decide +kernel
theorem dX12_sortsHarms_75 : decode cX12_sortsHarms 75 = .ok (.getfield 118, 3) := by decide +kernel
theorem dX12_sortsHarms_78 : decode cX12_sortsHarms 78 = .ok (.iload 4, 2) := by decide +kernel
theorem dX12_sortsHarms_80 : decode cX12_sortsHarms 80 = .ok (.aload_n 0, 1) := by decide +kernel
theorem dX12_sortsHarms_81 : decode cX12_sortsHarms 81 = .ok (.iload_n 3, 1) := by decide +kernel
theorem dX12_sortsHarms_82 : decode cX12_sortsHarms 82 = .ok (.iconst 0, 1) := by decide +kernel
theorem dX12_sortsHarms_83 : decode cX12_sortsHarms 83 = .ok (.invokevirtual 396, 3) := by decide +kernel
theorem dX12_sortsHarms_86 : decode cX12_sortsHarms 86 = .ok (.iastore, 1) := by decide +kernel
theorem dX12_sortsHarms_87 : decode cX12_sortsHarms 87 = .ok (.iload_n 2, 1) := by decide +kernel
theorem dX12_sortsHarms_88 : decode cX12_sortsHarms 88 = .ok (.iconst 1, 1) := by decide +kernel
theorem dX12_sortsHarms_89 : decode cX12_sortsHarms 89 = .ok (.iadd, 1) := by decide +kernel
theorem dX12_sortsHarms_90 : decode cX12_sortsHarms 90 = .ok (.istore_n 2, 1) := by decide +kernel
theorem dX12_sortsHarms_91 : decode cX12_sortsHarms 91 = .ok (.iinc 3 1, 3) := by decide +kernel
theorem dX12_sortsHarms_94 : decode cX12_sortsHarms 94 = .ok (.goto (-90), 3) := by decide +kernel
theorem dX12_sortsHarms_97 : decode cX12_sortsHarms 97 = .ok (.iload_n 2, 1) := by decide +kernel
theorem dX12_sortsHarms_98 : decode cX12_sortsHarms 98 = .ok (.ireturn, 1) := by decide +kernel
theorem wp_X12_sortsHarms_0 {d : Nat} {s : ev_S} {Q : Option ev_V → ev_S → Prop} {a1 : Int}
    (h : Ev layM M_X12_sortsHarms (d + 1) 4 [(0, ev_r 0), (1, ev_i a1), (2, ev_i 0), (3, ev_i 0)] [] s Q) :
    Ev layM M_X12_sortsHarms (d + 1) 0 [(0, ev_r 0), (1, ev_i a1)] [] s Q := by
  refine Ev_iconst dX12_sortsHarms_0 rfl (ev_Rc rfl) ?_
  refine Ev_istore_n (l' := [(2, ev_i 0), (0, ev_r 0), (1, ev_i a1)]) dX12_sortsHarms_1 rfl (Nat.le_of_ble_eq_true rfl) rfl ?_
  refine Ev_iconst dX12_sortsHarms_2 rfl (ev_Rc rfl) ?_
  refine Ev_istore_n (l' := [(3, ev_i 0), (2, ev_i 0), (0, ev_r 0), (1, ev_i a1)]) dX12_sortsHarms_3 rfl (Nat.le_of_ble_eq_true rfl) rfl ?_
  exact Ev_sub [2, 3, 1, 0] rfl h
theorem wp_X12_sortsHarms_4 {d : Nat} {s : ev_S} {Q : Option ev_V → ev_S → Prop} {a1 a2 a3 : Int}
    (h : (((s 0 46) ≤ a3 → Q (some (ev_i a2)) s) ∧ (a3 < (s 0 46) → (((ev_and (ev_shr a1 a3) 1) ≠ 0 → Ev layM M_X12_sortsHarms (d + 1) 26 [(0, ev_r 0), (1, ev_i a1), (2, ev_i a2), (3, ev_i a3), (4, ev_i a2)] [] s Q) ∧ ((ev_and (ev_shr a1 a3) 1) = 0 → Ev layM M_X12_sortsHarms (d + 1) 4 [(0, ev_r 0), (1, ev_i a1), (2, ev_i a2), (3, ev_i (ev_add a3 1))] [] s Q))))) :
    Ev layM M_X12_sortsHarms (d + 1) 4 [(0, ev_r 0), (1, ev_i a1), (2, ev_i a2), (3, ev_i a3)] [] s Q := by
  refine Ev_iload_n 3 dX12_sortsHarms_4 rfl rfl ?_
  refine Ev_aload_n 0 dX12_sortsHarms_5 rfl rfl ?_
  refine Ev_get (i := 46) cl_X12 yM_0 (Nat.le_of_ble_eq_true rfl) rfl wd_1490 dX12_sortsHarms_6 ?_
  refine Ev_icmp_ge (tgt := 97) dX12_sortsHarms_9 rfl (fun c => ?_) (fun c => ?_)
  · replace h := h.1 c
    refine Ev_iload_n 2 dX12_sortsHarms_97 rfl rfl ?_
    exact Ev_iret rfl dX12_sortsHarms_98 rfl h
  · replace h := h.2 c
    refine Ev_iload_n 1 dX12_sortsHarms_12 rfl rfl ?_
    refine Ev_iload_n 3 dX12_sortsHarms_13 rfl rfl ?_
    refine Ev_ishr dX12_sortsHarms_14 ?_
    refine Ev_iconst dX12_sortsHarms_15 rfl (ev_Rc rfl) ?_
    refine Ev_iand dX12_sortsHarms_16 ?_
    refine Ev_if_ne (tgt := 23) dX12_sortsHarms_17 rfl (fun c => ?_) (fun c => ?_)
    · replace h := h.1 c
      refine Ev_iload_n 2 dX12_sortsHarms_23 rfl rfl ?_
      refine Ev_istore (l' := [(4, ev_i a2), (0, ev_r 0), (1, ev_i a1), (2, ev_i a2), (3, ev_i a3)]) dX12_sortsHarms_24 (Nat.le_of_ble_eq_true rfl) rfl ?_
      exact Ev_sub [1, 2, 3, 4, 0] rfl h
    · replace h := h.2 c
      refine Ev_goto (tgt := 91) dX12_sortsHarms_20 rfl ?_
      refine Ev_iinc (j := 3) (l' := [(3, ev_i (ev_add a3 1)), (0, ev_r 0), (1, ev_i a1), (2, ev_i a2)]) dX12_sortsHarms_91 rfl (Nat.le_of_ble_eq_true rfl) rfl ?_
      refine Ev_goto (tgt := 4) dX12_sortsHarms_94 rfl ?_
      exact Ev_sub [1, 2, 3, 0] rfl h
theorem wp_X12_sortsHarms_26 {d : Nat} {s : ev_S} {Q : Option ev_V → ev_S → Prop} {a1 a2 a3 a4 : Int}
    (h : ((a4 ≤ 0 → Ev layM M_X12_sortsHarms (d + 1) 74 [(0, ev_r 0), (1, ev_i a1), (2, ev_i a2), (3, ev_i a3), (4, ev_i a4)] [] s Q) ∧ (0 < a4 → ((0 ≤ (ev_sub a4 1) ∧ (ev_sub a4 1) < (6 : Nat)) ∧ (Ev layM M_X12_ofMishap d 0 [(0, ev_r 0), (1, ev_i a3), (2, ev_i 0)] [] s (ev_pi (fun r2 s1 => ((r2 ≤ (s 35 (Int.toNat (ev_sub a4 1))) → Ev layM M_X12_sortsHarms (d + 1) 74 [(0, ev_r 0), (1, ev_i a1), (2, ev_i a2), (3, ev_i a3), (4, ev_i a4)] [] s1 Q) ∧ ((s 35 (Int.toNat (ev_sub a4 1))) < r2 → ((0 ≤ (ev_sub a4 1) ∧ (ev_sub a4 1) < (6 : Nat)) ∧ ((0 ≤ a4 ∧ a4 < (6 : Nat)) ∧ ∀ s3, ev_up s1 35 (Int.toNat a4) (s1 35 (Int.toNat (ev_sub a4 1))) = s3 → Ev layM M_X12_sortsHarms (d + 1) 26 [(0, ev_r 0), (1, ev_i a1), (2, ev_i a2), (3, ev_i a3), (4, ev_i (ev_sub a4 1))] [] s3 Q))))))))))) :
    Ev layM M_X12_sortsHarms (d + 1) 26 [(0, ev_r 0), (1, ev_i a1), (2, ev_i a2), (3, ev_i a3), (4, ev_i a4)] [] s Q := by
  refine Ev_iload 4 dX12_sortsHarms_26 rfl ?_
  refine Ev_if_le (tgt := 74) dX12_sortsHarms_28 rfl (fun c => ?_) (fun c => ?_)
  · replace h := h.1 c
    exact Ev_sub [0, 1, 2, 3, 4] rfl h
  · replace h := h.2 c
    refine Ev_aload_n 0 dX12_sortsHarms_31 rfl rfl ?_
    refine Ev_getR (i := 58) cl_X12 yM_0 (Nat.le_of_ble_eq_true rfl) rfl wd_1502 dX12_sortsHarms_32 ?_
    refine Ev_iload 4 dX12_sortsHarms_35 rfl ?_
    refine Ev_iconst dX12_sortsHarms_37 rfl (ev_Rc rfl) ?_
    refine Ev_isub dX12_sortsHarms_38 ?_
    obtain ⟨h0, h⟩ := h
    refine Ev_iald yM_35 h0 dX12_sortsHarms_39 ?_
    refine Ev_aload_n 0 dX12_sortsHarms_40 rfl rfl ?_
    refine Ev_iload_n 3 dX12_sortsHarms_41 rfl rfl ?_
    refine Ev_iconst dX12_sortsHarms_42 rfl (ev_Rc rfl) ?_
    refine Ev_callV (As := [ev_i a3, ev_i 0]) (b := 0) (st := [ev_i (s 35 (Int.toNat (ev_sub a4 1)))]) (M' := M_X12_ofMishap) cm_X12_ofMishap wd_1954 wd_1956 wd_137 yM_0 cl_X12 rfl dX12_sortsHarms_43 (Nat.le_refl _) rfl (Nat.le_of_ble_eq_true rfl) (Nat.le_of_ble_eq_true rfl) h (fun v u h hk => ?_)
    obtain ⟨r2, rfl⟩ := hk
    obtain ⟨s1, rfl⟩ : ∃ x, x = u := ⟨_, rfl⟩
    replace h := h r2 rfl
    refine Ev_icmp_ge (tgt := 74) dX12_sortsHarms_46 rfl (fun c => ?_) (fun c => ?_)
    · replace h := h.1 c
      exact Ev_sub [0, 1, 2, 3, 4] rfl h
    · replace h := h.2 c
      refine Ev_aload_n 0 dX12_sortsHarms_49 rfl rfl ?_
      refine Ev_getR (i := 58) cl_X12 yM_0 (Nat.le_of_ble_eq_true rfl) rfl wd_1502 dX12_sortsHarms_50 ?_
      refine Ev_iload 4 dX12_sortsHarms_53 rfl ?_
      refine Ev_aload_n 0 dX12_sortsHarms_55 rfl rfl ?_
      refine Ev_getR (i := 58) cl_X12 yM_0 (Nat.le_of_ble_eq_true rfl) rfl wd_1502 dX12_sortsHarms_56 ?_
      refine Ev_iload 4 dX12_sortsHarms_59 rfl ?_
      refine Ev_iconst dX12_sortsHarms_61 rfl (ev_Rc rfl) ?_
      refine Ev_isub dX12_sortsHarms_62 ?_
      obtain ⟨h0, h⟩ := h
      refine Ev_iald yM_35 h0 dX12_sortsHarms_63 ?_
      obtain ⟨h0, h⟩ := h
      refine Ev_iast yM_35 h0 dX12_sortsHarms_64 (Ev_nm (fun s3 es3 => ?_))
      replace h := h s3 es3
      refine Ev_iload 4 dX12_sortsHarms_65 rfl ?_
      refine Ev_iconst dX12_sortsHarms_67 rfl (ev_Rc rfl) ?_
      refine Ev_isub dX12_sortsHarms_68 ?_
      refine Ev_istore (l' := [(4, ev_i (ev_sub a4 1)), (0, ev_r 0), (1, ev_i a1), (2, ev_i a2), (3, ev_i a3)]) dX12_sortsHarms_69 (Nat.le_of_ble_eq_true rfl) rfl ?_
      refine Ev_goto (tgt := 26) dX12_sortsHarms_71 rfl ?_
      exact Ev_sub [1, 2, 3, 4, 0] rfl h
theorem wp_X12_sortsHarms_74 {d : Nat} {s : ev_S} {Q : Option ev_V → ev_S → Prop} {a1 a2 a3 a4 : Int}
    (h : (Ev layM M_X12_ofMishap d 0 [(0, ev_r 0), (1, ev_i a3), (2, ev_i 0)] [] s (ev_pi (fun r2 s1 => ((0 ≤ a4 ∧ a4 < (6 : Nat)) ∧ ∀ s3, ev_up s1 35 (Int.toNat a4) r2 = s3 → Ev layM M_X12_sortsHarms (d + 1) 4 [(0, ev_r 0), (1, ev_i a1), (2, ev_i (ev_add a2 1)), (3, ev_i (ev_add a3 1))] [] s3 Q))))) :
    Ev layM M_X12_sortsHarms (d + 1) 74 [(0, ev_r 0), (1, ev_i a1), (2, ev_i a2), (3, ev_i a3), (4, ev_i a4)] [] s Q := by
  refine Ev_aload_n 0 dX12_sortsHarms_74 rfl rfl ?_
  refine Ev_getR (i := 58) cl_X12 yM_0 (Nat.le_of_ble_eq_true rfl) rfl wd_1502 dX12_sortsHarms_75 ?_
  refine Ev_iload 4 dX12_sortsHarms_78 rfl ?_
  refine Ev_aload_n 0 dX12_sortsHarms_80 rfl rfl ?_
  refine Ev_iload_n 3 dX12_sortsHarms_81 rfl rfl ?_
  refine Ev_iconst dX12_sortsHarms_82 rfl (ev_Rc rfl) ?_
  refine Ev_callV (As := [ev_i a3, ev_i 0]) (b := 0) (st := [ev_i a4, ev_r 35]) (M' := M_X12_ofMishap) cm_X12_ofMishap wd_1954 wd_1956 wd_137 yM_0 cl_X12 rfl dX12_sortsHarms_83 (Nat.le_refl _) rfl (Nat.le_of_ble_eq_true rfl) (Nat.le_of_ble_eq_true rfl) h (fun v u h hk => ?_)
  obtain ⟨r2, rfl⟩ := hk
  obtain ⟨s1, rfl⟩ : ∃ x, x = u := ⟨_, rfl⟩
  replace h := h r2 rfl
  obtain ⟨h0, h⟩ := h
  refine Ev_iast yM_35 h0 dX12_sortsHarms_86 (Ev_nm (fun s3 es3 => ?_))
  replace h := h s3 es3
  refine Ev_iload_n 2 dX12_sortsHarms_87 rfl rfl ?_
  refine Ev_iconst dX12_sortsHarms_88 rfl (ev_Rc rfl) ?_
  refine Ev_iadd dX12_sortsHarms_89 ?_
  refine Ev_istore_n (l' := [(2, ev_i (ev_add a2 1)), (0, ev_r 0), (1, ev_i a1), (3, ev_i a3), (4, ev_i a4)]) dX12_sortsHarms_90 rfl (Nat.le_of_ble_eq_true rfl) rfl ?_
  refine Ev_iinc (j := 3) (l' := [(3, ev_i (ev_add a3 1)), (2, ev_i (ev_add a2 1)), (0, ev_r 0), (1, ev_i a1), (4, ev_i a4)]) dX12_sortsHarms_91 rfl (Nat.le_of_ble_eq_true rfl) rfl ?_
  refine Ev_goto (tgt := 4) dX12_sortsHarms_94 rfl ?_
  exact Ev_sub [2, 3, 1, 0] rfl h
theorem dX12_partOf_0 : decode cX12_partOf 0 = .ok (.lload_n 1, 1) := by decide +kernel
theorem dX12_partOf_1 : decode cX12_partOf 1 = .ok (.lstore 5, 2) := by decide +kernel
theorem dX12_partOf_3 : decode cX12_partOf 3 = .ok (.lload_n 3, 1) := by decide +kernel
theorem dX12_partOf_4 : decode cX12_partOf 4 = .ok (.lstore 7, 2) := by decide +kernel
theorem dX12_partOf_6 : decode cX12_partOf 6 = .ok (.lload 7, 2) := by decide +kernel
theorem dX12_partOf_8 : decode cX12_partOf 8 = .ok (.lconst 0, 1) := by decide +kernel
theorem dX12_partOf_9 : decode cX12_partOf 9 = .ok (.lcmp, 1) := by decide +kernel
theorem dX12_partOf_10 : decode cX12_partOf 10 = .ok (.ifCond .eq 21, 3) := by decide +kernel
theorem dX12_partOf_13 : decode cX12_partOf 13 = .ok (.lload 5, 2) := by decide +kernel
theorem dX12_partOf_15 : decode cX12_partOf 15 = .ok (.lload 7, 2) := by decide +kernel
theorem dX12_partOf_17 : decode cX12_partOf 17 = .ok (.lrem, 1) := by decide +kernel
theorem dX12_partOf_18 : decode cX12_partOf 18 = .ok (.lstore 9, 2) := by decide +kernel
theorem dX12_partOf_20 : decode cX12_partOf 20 = .ok (.lload 7, 2) := by decide +kernel
theorem dX12_partOf_22 : decode cX12_partOf 22 = .ok (.lstore 5, 2) := by decide +kernel
theorem dX12_partOf_24 : decode cX12_partOf 24 = .ok (.lload 9, 2) := by decide +kernel
theorem dX12_partOf_26 : decode cX12_partOf 26 = .ok (.lstore 7, 2) := by decide +kernel
theorem dX12_partOf_28 : decode cX12_partOf 28 = .ok (.goto (-22), 3) := by decide +kernel
theorem dX12_partOf_31 : decode cX12_partOf 31 = .ok (.lload 5, 2) := by decide +kernel
theorem dX12_partOf_33 : decode cX12_partOf 33 = .ok (.lreturn, 1) := by decide +kernel
theorem wp_X12_partOf_0 {d : Nat} {s : ev_S} {Q : Option ev_V → ev_S → Prop} {a1 a3 : Int}
    (h : Ev layM M_X12_partOf d 6 [(5, ev_l a1), (7, ev_l a3)] [] s Q) :
    Ev layM M_X12_partOf d 0 [(0, ev_r 0), (1, ev_l a1), (3, ev_l a3)] [] s Q := by
  refine Ev_lload_n 1 dX12_partOf_0 rfl rfl ?_
  refine Ev_lstore (l' := [(5, ev_l a1), (0, ev_r 0), (1, ev_l a1), (3, ev_l a3)]) dX12_partOf_1 (Nat.le_of_ble_eq_true rfl) rfl ?_
  refine Ev_lload_n 3 dX12_partOf_3 rfl rfl ?_
  refine Ev_lstore (l' := [(7, ev_l a3), (5, ev_l a1), (0, ev_r 0), (1, ev_l a1), (3, ev_l a3)]) dX12_partOf_4 (Nat.le_of_ble_eq_true rfl) rfl ?_
  exact Ev_sub [1, 0] rfl h
theorem wp_X12_partOf_6 {d : Nat} {s : ev_S} {Q : Option ev_V → ev_S → Prop} {a5 a7 : Int}
    (h : (((ev_lcmp a7 0) = 0 → Q (some (ev_l a5)) s) ∧ ((ev_lcmp a7 0) ≠ 0 → (a7 ≠ 0 ∧ Ev layM M_X12_partOf d 6 [(5, ev_l a7), (7, ev_l (ev_lrem a5 a7))] [] s Q)))) :
    Ev layM M_X12_partOf d 6 [(5, ev_l a5), (7, ev_l a7)] [] s Q := by
  refine Ev_lload 1 dX12_partOf_6 rfl ?_
  refine Ev_lconst (z := 0) dX12_partOf_8 rfl (ev_RLc rfl) ?_
  refine Ev_lcmp dX12_partOf_9 ?_
  refine Ev_if_eq (tgt := 31) dX12_partOf_10 rfl (fun c => ?_) (fun c => ?_)
  · replace h := h.1 c
    refine Ev_lload 0 dX12_partOf_31 rfl ?_
    exact Ev_lret rfl dX12_partOf_33 h
  · replace h := h.2 c
    refine Ev_lload 0 dX12_partOf_13 rfl ?_
    refine Ev_lload 1 dX12_partOf_15 rfl ?_
    obtain ⟨h0, h⟩ := h
    refine Ev_lrem dX12_partOf_17 h0 ?_
    refine Ev_lstore (l' := [(9, ev_l (ev_lrem a5 a7)), (5, ev_l a5), (7, ev_l a7)]) dX12_partOf_18 (Nat.le_of_ble_eq_true rfl) rfl ?_
    refine Ev_lload 2 dX12_partOf_20 rfl ?_
    refine Ev_lstore (l' := [(5, ev_l a7), (9, ev_l (ev_lrem a5 a7)), (7, ev_l a7)]) dX12_partOf_22 (Nat.le_of_ble_eq_true rfl) rfl ?_
    refine Ev_lload 1 dX12_partOf_24 rfl ?_
    refine Ev_lstore (l' := [(7, ev_l (ev_lrem a5 a7)), (5, ev_l a7), (9, ev_l (ev_lrem a5 a7))]) dX12_partOf_26 (Nat.le_of_ble_eq_true rfl) rfl ?_
    refine Ev_goto (tgt := 6) dX12_partOf_28 rfl ?_
    exact Ev_sub [1, 0] rfl h
theorem dX12_lot_0 : decode cX12_lot 0 = .ok (.aload_n 0, 1) := by decide +kernel
theorem dX12_lot_1 : decode cX12_lot 1 = .ok (.iconst 0, 1) := by decide +kernel
theorem dX12_lot_2 : decode cX12_lot 2 = .ok (.putfield 124, 3) := by decide +kernel
theorem dX12_lot_5 : decode cX12_lot 5 = .ok (.iload_n 1, 1) := by decide +kernel
theorem dX12_lot_6 : decode cX12_lot 6 = .ok (.iconst 1, 1) := by decide +kernel
theorem dX12_lot_7 : decode cX12_lot 7 = .ok (.if_icmp .lt 33, 3) := by decide +kernel
theorem dX12_lot_10 : decode cX12_lot 10 = .ok (.iload_n 1, 1) := by decide +kernel
theorem dX12_lot_11 : decode cX12_lot 11 = .ok (.iconst 1, 1) := by decide +kernel
theorem dX12_lot_12 : decode cX12_lot 12 = .ok (.aload_n 0, 1) := by decide +kernel
theorem dX12_lot_13 : decode cX12_lot 13 = .ok (.getfield 165, 3) := by decide +kernel
theorem dX12_lot_16 : decode cX12_lot 16 = .ok (.ishl, 1) := by decide +kernel
theorem dX12_lot_17 : decode cX12_lot 17 = .ok (.if_icmp .ge 23, 3) := by decide +kernel
theorem dX12_lot_20 : decode cX12_lot 20 = .ok (.aload_n 0, 1) := by decide +kernel
theorem dX12_lot_21 : decode cX12_lot 21 = .ok (.iload_n 1, 1) := by decide +kernel
theorem dX12_lot_22 : decode cX12_lot 22 = .ok (.invokevirtual 469, 3) := by decide +kernel
theorem dX12_lot_25 : decode cX12_lot 25 = .ok (.bipush 6, 2) := by decide +kernel
theorem dX12_lot_27 : decode cX12_lot 27 = .ok (.if_icmp .gt 13, 3) := by decide +kernel
theorem dX12_lot_30 : decode cX12_lot 30 = .ok (.aload_n 0, 1) := by decide +kernel
theorem dX12_lot_31 : decode cX12_lot 31 = .ok (.iload_n 2, 1) := by decide +kernel
theorem dX12_lot_32 : decode cX12_lot 32 = .ok (.iconst 0, 1) := by decide +kernel
theorem dX12_lot_33 : decode cX12_lot 33 = .ok (.iconst 1, 1) := by decide +kernel
theorem dX12_lot_34 : decode cX12_lot 34 = .ok (.invokevirtual 158, 3) := by decide +kernel
theorem dX12_lot_37 : decode cX12_lot 37 = .ok (.ifCond .ne 7, 3) := by decide +kernel
theorem dX12_lot_40 : decode cX12_lot 40 = .ok (.ldc2_w 496, 3) := by decide +kernel
theorem dX12_lot_43 : decode cX12_lot 43 = .ok (.lreturn, 1) := by decide +kernel
theorem dX12_lot_44 : decode cX12_lot 44 = .ok (.aload_n 0, 1) := by decide +kernel
theorem dX12_lot_45 : decode cX12_lot 45 = .ok (.iload_n 1, 1) := by decide +kernel
theorem dX12_lot_46 : decode cX12_lot 46 = .ok (.invokevirtual 498, 3) := by decide +kernel
theorem dX12_lot_49 : decode cX12_lot 49 = .ok (.istore_n 3, 1) := by decide +kernel
theorem dX12_lot_50 : decode cX12_lot 50 = .ok (.aload_n 0, 1) := by decide +kernel
theorem dX12_lot_51 : decode cX12_lot 51 = .ok (.getfield 118, 3) := by decide +kernel
theorem dX12_lot_54 : decode cX12_lot 54 = .ok (.iconst 0, 1) := by decide +kernel
theorem dX12_lot_55 : decode cX12_lot 55 = .ok (.iaload, 1) := by decide +kernel
theorem dX12_lot_56 : decode cX12_lot 56 = .ok (.i2l, 1) := by decide +kernel
theorem dX12_lot_57 : decode cX12_lot 57 = .ok (.lstore 4, 2) := by decide +kernel
theorem dX12_lot_59 : decode cX12_lot 59 = .ok (.lconst 1, 1) := by decide +kernel
theorem dX12_lot_60 : decode cX12_lot 60 = .ok (.lstore 6, 2) := by decide +kernel
theorem dX12_lot_62 : decode cX12_lot 62 = .ok (.lconst 0, 1) := by decide +kernel
theorem dX12_lot_63 : decode cX12_lot 63 = .ok (.lstore 8, 2) := by decide +kernel
theorem dX12_lot_65 : decode cX12_lot 65 = .ok (.lconst 1, 1) := by decide +kernel
theorem dX12_lot_66 : decode cX12_lot 66 = .ok (.lstore 10, 2) := by decide +kernel
theorem dX12_lot_68 : decode cX12_lot 68 = .ok (.iconst 2, 1) := by decide +kernel
theorem dX12_lot_69 : decode cX12_lot 69 = .ok (.istore 12, 2) := by decide +kernel
theorem dX12_lot_71 : decode cX12_lot 71 = .ok (.iload 12, 2) := by decide +kernel
theorem dX12_lot_73 : decode cX12_lot 73 = .ok (.iload_n 3, 1) := by decide +kernel
theorem dX12_lot_74 : decode cX12_lot 74 = .ok (.if_icmp .gt 90, 3) := by decide +kernel
theorem dX12_lot_77 : decode cX12_lot 77 = .ok (.aload_n 0, 1) := by decide +kernel
theorem dX12_lot_78 : decode cX12_lot 78 = .ok (.getfield 118, 3) := by decide +kernel
theorem dX12_lot_81 : decode cX12_lot 81 = .ok (.iload 12, 2) := by decide +kernel
theorem dX12_lot_83 : decode cX12_lot 83 = .ok (.iconst 1, 1) := by decide +kernel
theorem dX12_lot_84 : decode cX12_lot 84 = .ok (.isub, 1) := by decide +kernel
theorem dX12_lot_85 : decode cX12_lot 85 = .ok (.iaload, 1) := by decide +kernel
theorem dX12_lot_86 : decode cX12_lot 86 = .ok (.i2l, 1) := by decide +kernel
theorem dX12_lot_87 : decode cX12_lot 87 = .ok (.lstore 13, 2) := by decide +kernel
theorem dX12_lot_89 : decode cX12_lot 89 = .ok (.lload 13, 2) := by decide +kernel
theorem dX12_lot_91 : decode cX12_lot 91 = .ok (.lload 10, 2) := by decide +kernel
theorem dX12_lot_93 : decode cX12_lot 93 = .ok (.lmul, 1) := by decide +kernel
theorem dX12_lot_94 : decode cX12_lot 94 = .ok (.lload 8, 2) := by decide +kernel
theorem dX12_lot_96 : decode cX12_lot 96 = .ok (.lcmp, 1) := by decide +kernel
theorem dX12_lot_97 : decode cX12_lot 97 = .ok (.ifCond .gt 6, 3) := by decide +kernel
theorem dX12_lot_100 : decode cX12_lot 100 = .ok (.goto 64, 3) := by decide +kernel
theorem dX12_lot_103 : decode cX12_lot 103 = .ok (.lload 6, 2) := by decide +kernel
theorem dX12_lot_105 : decode cX12_lot 105 = .ok (.lload 13, 2) := by decide +kernel
theorem dX12_lot_107 : decode cX12_lot 107 = .ok (.lmul, 1) := by decide +kernel
theorem dX12_lot_108 : decode cX12_lot 108 = .ok (.lload 4, 2) := by decide +kernel
theorem dX12_lot_110 : decode cX12_lot 110 = .ok (.ladd, 1) := by decide +kernel
theorem dX12_lot_111 : decode cX12_lot 111 = .ok (.lstore 6, 2) := by decide +kernel
theorem dX12_lot_113 : decode cX12_lot 113 = .ok (.lload 4, 2) := by decide +kernel
theorem dX12_lot_115 : decode cX12_lot 115 = .ok (.lload 13, 2) := by decide +kernel
theorem dX12_lot_117 : decode cX12_lot 117 = .ok (.lmul, 1) := by decide +kernel
theorem dX12_lot_118 : decode cX12_lot 118 = .ok (.lstore 4, 2) := by decide +kernel
theorem dX12_lot_120 : decode cX12_lot 120 = .ok (.iload 12, 2) := by decide +kernel
theorem dX12_lot_122 : decode cX12_lot 122 = .ok (.iconst 1, 1) := by decide +kernel
theorem dX12_lot_123 : decode cX12_lot 123 = .ok (.isub, 1) := by decide +kernel
theorem dX12_lot_124 : decode cX12_lot 124 = .ok (.i2l, 1) := by decide +kernel
theorem dX12_lot_125 : decode cX12_lot 125 = .ok (.lload 4, 2) := by decide +kernel
theorem dX12_lot_127 : decode cX12_lot 127 = .ok (.lmul, 1) := by decide +kernel
theorem dX12_lot_128 : decode cX12_lot 128 = .ok (.lstore 8, 2) := by decide +kernel
theorem dX12_lot_130 : decode cX12_lot 130 = .ok (.lload 6, 2) := by decide +kernel
theorem dX12_lot_132 : decode cX12_lot 132 = .ok (.lstore 10, 2) := by decide +kernel
theorem dX12_lot_134 : decode cX12_lot 134 = .ok (.aload_n 0, 1) := by decide +kernel
theorem dX12_lot_135 : decode cX12_lot 135 = .ok (.lload 8, 2) := by decide +kernel
theorem dX12_lot_137 : decode cX12_lot 137 = .ok (.lload 10, 2) := by decide +kernel
theorem dX12_lot_139 : decode cX12_lot 139 = .ok (.invokevirtual 501, 3) := by decide +kernel
theorem dX12_lot_142 : decode cX12_lot 142 = .ok (.lstore 15, 2) := by decide +kernel
theorem dX12_lot_144 : decode cX12_lot 144 = .ok (.lload 8, 2) := by decide +kernel
theorem dX12_lot_146 : decode cX12_lot 146 = .ok (.lload 15, 2) := by decide +kernel
theorem dX12_lot_148 : decode cX12_lot 148 = .ok (.ldiv, 1) := by decide +kernel
theorem dX12_lot_149 : decode cX12_lot 149 = .ok (.lstore 8, 2) := by decide +kernel
theorem dX12_lot_151 : decode cX12_lot 151 = .ok (.lload 10, 2) := by decide +kernel
theorem dX12_lot_153 : decode cX12_lot 153 = .ok (.lload 15, 2) := by decide +kernel
theorem dX12_lot_155 : decode cX12_lot 155 = .ok (.ldiv, 1) := by decide +kernel
theorem dX12_lot_156 : decode cX12_lot 156 = .ok (.lstore 10, 2) := by decide +kernel
theorem dX12_lot_158 : decode cX12_lot 158 = .ok (.iinc 12 1, 3) := by decide +kernel
theorem dX12_lot_161 : decode cX12_lot 161 = .ok (.goto (-90), 3) := by decide +kernel
theorem dX12_lot_164 : decode cX12_lot 164 = .ok (.iload_n 2, 1) := by decide +kernel
theorem dX12_lot_165 : decode cX12_lot 165 = .ok (.ifCond .ne 8, 3) := by decide +kernel
theorem dX12_lot_168 : decode cX12_lot 168 = .ok (.lload 8, 2) := by decide +kernel
theorem dX12_lot_170 : decode cX12_lot 170 = .ok (.goto 5, 3) := by decide +kernel
theorem dX12_lot_173 : decode cX12_lot 173 = .ok (.lload 10, 2) := by decide +kernel
theorem dX12_lot_175 : decode cX12_lot 175 = .ok (.lreturn, 1) := by decide +kernel
theorem wp_X12_lot_0 {d : Nat} {s : ev_S} {Q : Option ev_V → ev_S → Prop} {a1 a2 : Int}
    (h : (∀ s1, ev_up s 0 0 0 = s1 → ((a1 < 1 → Q (some (ev_l (-1))) s1) ∧ (1 ≤ a1 → (((ev_shl 1 (s1 0 46)) ≤ a1 → Q (some (ev_l (-1))) s1) ∧ (a1 < (ev_shl 1 (s1 0 46)) → (Ev layM M_X12_ones d 0 [(0, ev_r 0), (1, ev_i a1)] [] s1 (ev_pi (fun r3 s2 => ((6 < r3 → Q (some (ev_l (-1))) s2) ∧ (r3 ≤ 6 → (Ev layM M_X12_isIn d 0 [(0, ev_r 0), (1, ev_i a2), (2, ev_i 0), (3, ev_i 1)] [] s2 (ev_pi (fun r5 s4 => ((r5 ≠ 0 → (Ev layM M_X12_sortsHarms d 0 [(0, ev_r 0), (1, ev_i a1)] [] s4 (ev_pi (fun r7 s6 => Ev layM M_X12_lot (d + 1) 71 [(0, ev_r 0), (2, ev_i a2), (3, ev_i r7), (4, ev_l (s6 35 0)), (6, ev_l 1), (8, ev_l 0), (10, ev_l 1), (12, ev_i 2)] [] s6 Q)))) ∧ (r5 = 0 → Q (some (ev_l (-1))) s4)))))))))))))))) :
    Ev layM M_X12_lot (d + 1) 0 [(0, ev_r 0), (1, ev_i a1), (2, ev_i a2)] [] s Q := by
  refine Ev_aload_n 0 dX12_lot_0 rfl rfl ?_
  refine Ev_iconst dX12_lot_1 rfl (ev_Rc rfl) ?_
  refine Ev_put (i := 0) (ty := .int) cl_X12 yM_0 (Nat.le_of_ble_eq_true rfl) rfl rfl (by decide +kernel) rfl rfl wd_1444 dX12_lot_2 (Ev_nm (fun s1 es1 => ?_))
  replace h := h s1 es1
  refine Ev_iload_n 1 dX12_lot_5 rfl rfl ?_
  refine Ev_iconst dX12_lot_6 rfl (ev_Rc rfl) ?_
  refine Ev_icmp_lt (tgt := 40) dX12_lot_7 rfl (fun c => ?_) (fun c => ?_)
  · replace h := h.1 c
    refine Ev_ldc2 (z := (-1)) wd_2113 dX12_lot_40 rfl (ev_RLc rfl) ?_
    exact Ev_lret rfl dX12_lot_43 h
  · replace h := h.2 c
    refine Ev_iload_n 1 dX12_lot_10 rfl rfl ?_
    refine Ev_iconst dX12_lot_11 rfl (ev_Rc rfl) ?_
    refine Ev_aload_n 0 dX12_lot_12 rfl rfl ?_
    refine Ev_get (i := 46) cl_X12 yM_0 (Nat.le_of_ble_eq_true rfl) rfl wd_1490 dX12_lot_13 ?_
    refine Ev_ishl dX12_lot_16 ?_
    refine Ev_icmp_ge (tgt := 40) dX12_lot_17 rfl (fun c => ?_) (fun c => ?_)
    · replace h := h.1 c
      refine Ev_ldc2 (z := (-1)) wd_2113 dX12_lot_40 rfl (ev_RLc rfl) ?_
      exact Ev_lret rfl dX12_lot_43 h
    · replace h := h.2 c
      refine Ev_aload_n 0 dX12_lot_20 rfl rfl ?_
      refine Ev_iload_n 1 dX12_lot_21 rfl rfl ?_
      refine Ev_callV (As := [ev_i a1]) (b := 0) (st := []) (M' := M_X12_ones) cm_X12_ones wd_2049 wd_2051 wd_157 yM_0 cl_X12 rfl dX12_lot_22 (Nat.le_refl _) rfl (Nat.le_of_ble_eq_true rfl) (Nat.le_of_ble_eq_true rfl) h (fun v u h hk => ?_)
      obtain ⟨r3, rfl⟩ := hk
      obtain ⟨s2, rfl⟩ : ∃ x, x = u := ⟨_, rfl⟩
      replace h := h r3 rfl
      refine Ev_bipushC dX12_lot_25 rfl ?_
      refine Ev_icmp_gt (tgt := 40) dX12_lot_27 rfl (fun c => ?_) (fun c => ?_)
      · replace h := h.1 c
        refine Ev_ldc2 (z := (-1)) wd_2113 dX12_lot_40 rfl (ev_RLc rfl) ?_
        exact Ev_lret rfl dX12_lot_43 h
      · replace h := h.2 c
        refine Ev_aload_n 0 dX12_lot_30 rfl rfl ?_
        refine Ev_iload_n 2 dX12_lot_31 rfl rfl ?_
        refine Ev_iconst dX12_lot_32 rfl (ev_Rc rfl) ?_
        refine Ev_iconst dX12_lot_33 rfl (ev_Rc rfl) ?_
        refine Ev_callV (As := [ev_i a2, ev_i 0, ev_i 1]) (b := 0) (st := []) (M' := M_X12_isIn) cm_X12_isIn wd_1650 wd_1652 wd_70 yM_0 cl_X12 rfl dX12_lot_34 (Nat.le_refl _) rfl (Nat.le_of_ble_eq_true rfl) (Nat.le_of_ble_eq_true rfl) h (fun v u h hk => ?_)
        obtain ⟨r5, rfl⟩ := hk
        obtain ⟨s4, rfl⟩ : ∃ x, x = u := ⟨_, rfl⟩
        replace h := h r5 rfl
        refine Ev_if_ne (tgt := 44) dX12_lot_37 rfl (fun c => ?_) (fun c => ?_)
        · replace h := h.1 c
          refine Ev_aload_n 0 dX12_lot_44 rfl rfl ?_
          refine Ev_iload_n 1 dX12_lot_45 rfl rfl ?_
          refine Ev_callV (As := [ev_i a1]) (b := 0) (st := []) (M' := M_X12_sortsHarms) cm_X12_sortsHarms wd_2114 wd_2116 wd_166 yM_0 cl_X12 rfl dX12_lot_46 (Nat.le_refl _) rfl (Nat.le_of_ble_eq_true rfl) (Nat.le_of_ble_eq_true rfl) h (fun v u h hk => ?_)
          obtain ⟨r7, rfl⟩ := hk
          obtain ⟨s6, rfl⟩ : ∃ x, x = u := ⟨_, rfl⟩
          replace h := h r7 rfl
          refine Ev_istore_n (l' := [(3, ev_i r7), (0, ev_r 0), (1, ev_i a1), (2, ev_i a2)]) dX12_lot_49 rfl (Nat.le_of_ble_eq_true rfl) rfl ?_
          refine Ev_aload_n 1 dX12_lot_50 rfl rfl ?_
          refine Ev_getR (i := 58) cl_X12 yM_0 (Nat.le_of_ble_eq_true rfl) rfl wd_1502 dX12_lot_51 ?_
          refine Ev_iconst dX12_lot_54 rfl (ev_Rc rfl) ?_
          refine Ev_iald yM_35 (by decide) dX12_lot_55 ?_
          refine Ev_i2l dX12_lot_56 ?_
          refine Ev_lstore (l' := [(4, ev_l (s6 35 0)), (3, ev_i r7), (0, ev_r 0), (1, ev_i a1), (2, ev_i a2)]) dX12_lot_57 (Nat.le_of_ble_eq_true rfl) rfl ?_
          refine Ev_lconst (z := 1) dX12_lot_59 rfl (ev_RLc rfl) ?_
          refine Ev_lstore (l' := [(6, ev_l 1), (4, ev_l (s6 35 0)), (3, ev_i r7), (0, ev_r 0), (1, ev_i a1), (2, ev_i a2)]) dX12_lot_60 (Nat.le_of_ble_eq_true rfl) rfl ?_
          refine Ev_lconst (z := 0) dX12_lot_62 rfl (ev_RLc rfl) ?_
          refine Ev_lstore (l' := [(8, ev_l 0), (6, ev_l 1), (4, ev_l (s6 35 0)), (3, ev_i r7), (0, ev_r 0), (1, ev_i a1), (2, ev_i a2)]) dX12_lot_63 (Nat.le_of_ble_eq_true rfl) rfl ?_
          refine Ev_lconst (z := 1) dX12_lot_65 rfl (ev_RLc rfl) ?_
          refine Ev_lstore (l' := [(10, ev_l 1), (8, ev_l 0), (6, ev_l 1), (4, ev_l (s6 35 0)), (3, ev_i r7), (0, ev_r 0), (1, ev_i a1), (2, ev_i a2)]) dX12_lot_66 (Nat.le_of_ble_eq_true rfl) rfl ?_
          refine Ev_iconst dX12_lot_68 rfl (ev_Rc rfl) ?_
          refine Ev_istore (l' := [(12, ev_i 2), (10, ev_l 1), (8, ev_l 0), (6, ev_l 1), (4, ev_l (s6 35 0)), (3, ev_i r7), (0, ev_r 0), (1, ev_i a1), (2, ev_i a2)]) dX12_lot_69 (Nat.le_of_ble_eq_true rfl) rfl ?_
          exact Ev_sub [6, 8, 5, 4, 3, 2, 1, 0] rfl h
        · replace h := h.2 c
          refine Ev_ldc2 (z := (-1)) wd_2113 dX12_lot_40 rfl (ev_RLc rfl) ?_
          exact Ev_lret rfl dX12_lot_43 h
theorem wp_X12_lot_71 {d : Nat} {s : ev_S} {Q : Option ev_V → ev_S → Prop} {a2 a3 a4 a6 a8 a10 a12 : Int}
    (h : ((a3 < a12 → ((a2 ≠ 0 → Q (some (ev_l a10)) s) ∧ (a2 = 0 → Q (some (ev_l a8)) s))) ∧ (a12 ≤ a3 → ((0 ≤ (ev_sub a12 1) ∧ (ev_sub a12 1) < (6 : Nat)) ∧ ((0 < (ev_lcmp (ev_lmul (s 35 (Int.toNat (ev_sub a12 1))) a10) a8) → (Ev layM M_X12_partOf d 0 [(0, ev_r 0), (1, ev_l (ev_lmul (ev_sub a12 1) (ev_lmul a4 (s 35 (Int.toNat (ev_sub a12 1)))))), (3, ev_l (ev_ladd (ev_lmul a6 (s 35 (Int.toNat (ev_sub a12 1)))) a4))] [] s (ev_pl (fun r2 s1 => (r2 ≠ 0 ∧ (r2 ≠ 0 ∧ Ev layM M_X12_lot (d + 1) 71 [(0, ev_r 0), (2, ev_i a2), (3, ev_i a3), (4, ev_l (ev_lmul a4 (s 35 (Int.toNat (ev_sub a12 1))))), (6, ev_l (ev_ladd (ev_lmul a6 (s 35 (Int.toNat (ev_sub a12 1)))) a4)), (8, ev_l (ev_ldiv (ev_lmul (ev_sub a12 1) (ev_lmul a4 (s 35 (Int.toNat (ev_sub a12 1))))) r2)), (10, ev_l (ev_ldiv (ev_ladd (ev_lmul a6 (s 35 (Int.toNat (ev_sub a12 1)))) a4) r2)), (12, ev_i (ev_add a12 1))] [] s1 Q)))))) ∧ ((ev_lcmp (ev_lmul (s 35 (Int.toNat (ev_sub a12 1))) a10) a8) ≤ 0 → ((a2 ≠ 0 → Q (some (ev_l a10)) s) ∧ (a2 = 0 → Q (some (ev_l a8)) s)))))))) :
    Ev layM M_X12_lot (d + 1) 71 [(0, ev_r 0), (2, ev_i a2), (3, ev_i a3), (4, ev_l a4), (6, ev_l a6), (8, ev_l a8), (10, ev_l a10), (12, ev_i a12)] [] s Q := by
  refine Ev_iload 7 dX12_lot_71 rfl ?_
  refine Ev_iload_n 2 dX12_lot_73 rfl rfl ?_
  refine Ev_icmp_gt (tgt := 164) dX12_lot_74 rfl (fun c => ?_) (fun c => ?_)
  · replace h := h.1 c
    refine Ev_iload_n 1 dX12_lot_164 rfl rfl ?_
    refine Ev_if_ne (tgt := 173) dX12_lot_165 rfl (fun c => ?_) (fun c => ?_)
    · replace h := h.1 c
      refine Ev_lload 6 dX12_lot_173 rfl ?_
      exact Ev_lret rfl dX12_lot_175 h
    · replace h := h.2 c
      refine Ev_lload 5 dX12_lot_168 rfl ?_
      refine Ev_goto (tgt := 175) dX12_lot_170 rfl ?_
      exact Ev_lret rfl dX12_lot_175 h
  · replace h := h.2 c
    refine Ev_aload_n 0 dX12_lot_77 rfl rfl ?_
    refine Ev_getR (i := 58) cl_X12 yM_0 (Nat.le_of_ble_eq_true rfl) rfl wd_1502 dX12_lot_78 ?_
    refine Ev_iload 7 dX12_lot_81 rfl ?_
    refine Ev_iconst dX12_lot_83 rfl (ev_Rc rfl) ?_
    refine Ev_isub dX12_lot_84 ?_
    obtain ⟨h0, h⟩ := h
    refine Ev_iald yM_35 h0 dX12_lot_85 ?_
    refine Ev_i2l dX12_lot_86 ?_
    refine Ev_lstore (l' := [(13, ev_l (s 35 (Int.toNat (ev_sub a12 1)))), (0, ev_r 0), (2, ev_i a2), (3, ev_i a3), (4, ev_l a4), (6, ev_l a6), (8, ev_l a8), (10, ev_l a10), (12, ev_i a12)]) dX12_lot_87 (Nat.le_of_ble_eq_true rfl) rfl ?_
    refine Ev_lload 0 dX12_lot_89 rfl ?_
    refine Ev_lload 7 dX12_lot_91 rfl ?_
    refine Ev_lmul dX12_lot_93 ?_
    refine Ev_lload 6 dX12_lot_94 rfl ?_
    refine Ev_lcmp dX12_lot_96 ?_
    refine Ev_if_gt (tgt := 103) dX12_lot_97 rfl (fun c => ?_) (fun c => ?_)
    · replace h := h.1 c
      refine Ev_lload 5 dX12_lot_103 rfl ?_
      refine Ev_lload 0 dX12_lot_105 rfl ?_
      refine Ev_lmul dX12_lot_107 ?_
      refine Ev_lload 4 dX12_lot_108 rfl ?_
      refine Ev_ladd dX12_lot_110 ?_
      refine Ev_lstore (l' := [(6, ev_l (ev_ladd (ev_lmul a6 (s 35 (Int.toNat (ev_sub a12 1)))) a4)), (13, ev_l (s 35 (Int.toNat (ev_sub a12 1)))), (0, ev_r 0), (2, ev_i a2), (3, ev_i a3), (4, ev_l a4), (8, ev_l a8), (10, ev_l a10), (12, ev_i a12)]) dX12_lot_111 (Nat.le_of_ble_eq_true rfl) rfl ?_
      refine Ev_lload 5 dX12_lot_113 rfl ?_
      refine Ev_lload 1 dX12_lot_115 rfl ?_
      refine Ev_lmul dX12_lot_117 ?_
      refine Ev_lstore (l' := [(4, ev_l (ev_lmul a4 (s 35 (Int.toNat (ev_sub a12 1))))), (6, ev_l (ev_ladd (ev_lmul a6 (s 35 (Int.toNat (ev_sub a12 1)))) a4)), (13, ev_l (s 35 (Int.toNat (ev_sub a12 1)))), (0, ev_r 0), (2, ev_i a2), (3, ev_i a3), (8, ev_l a8), (10, ev_l a10), (12, ev_i a12)]) dX12_lot_118 (Nat.le_of_ble_eq_true rfl) rfl ?_
      refine Ev_iload 8 dX12_lot_120 rfl ?_
      refine Ev_iconst dX12_lot_122 rfl (ev_Rc rfl) ?_
      refine Ev_isub dX12_lot_123 ?_
      refine Ev_i2l dX12_lot_124 ?_
      refine Ev_lload 0 dX12_lot_125 rfl ?_
      refine Ev_lmul dX12_lot_127 ?_
      refine Ev_lstore (l' := [(8, ev_l (ev_lmul (ev_sub a12 1) (ev_lmul a4 (s 35 (Int.toNat (ev_sub a12 1)))))), (4, ev_l (ev_lmul a4 (s 35 (Int.toNat (ev_sub a12 1))))), (6, ev_l (ev_ladd (ev_lmul a6 (s 35 (Int.toNat (ev_sub a12 1)))) a4)), (13, ev_l (s 35 (Int.toNat (ev_sub a12 1)))), (0, ev_r 0), (2, ev_i a2), (3, ev_i a3), (10, ev_l a10), (12, ev_i a12)]) dX12_lot_128 (Nat.le_of_ble_eq_true rfl) rfl ?_
      refine Ev_lload 2 dX12_lot_130 rfl ?_
      refine Ev_lstore (l' := [(10, ev_l (ev_ladd (ev_lmul a6 (s 35 (Int.toNat (ev_sub a12 1)))) a4)), (8, ev_l (ev_lmul (ev_sub a12 1) (ev_lmul a4 (s 35 (Int.toNat (ev_sub a12 1)))))), (4, ev_l (ev_lmul a4 (s 35 (Int.toNat (ev_sub a12 1))))), (6, ev_l (ev_ladd (ev_lmul a6 (s 35 (Int.toNat (ev_sub a12 1)))) a4)), (13, ev_l (s 35 (Int.toNat (ev_sub a12 1)))), (0, ev_r 0), (2, ev_i a2), (3, ev_i a3), (12, ev_i a12)]) dX12_lot_132 (Nat.le_of_ble_eq_true rfl) rfl ?_
      refine Ev_aload_n 5 dX12_lot_134 rfl rfl ?_
      refine Ev_lload 1 dX12_lot_135 rfl ?_
      refine Ev_lload 0 dX12_lot_137 rfl ?_
      refine Ev_callV (As := [ev_l (ev_lmul (ev_sub a12 1) (ev_lmul a4 (s 35 (Int.toNat (ev_sub a12 1))))), ev_l (ev_ladd (ev_lmul a6 (s 35 (Int.toNat (ev_sub a12 1)))) a4)]) (b := 0) (st := []) (M' := M_X12_partOf) cm_X12_partOf wd_2118 wd_2120 wd_167 yM_0 cl_X12 rfl dX12_lot_139 (Nat.le_refl _) rfl (Nat.le_of_ble_eq_true rfl) (Nat.le_of_ble_eq_true rfl) h (fun v u h hk => ?_)
      obtain ⟨r2, rfl⟩ := hk
      obtain ⟨s1, rfl⟩ : ∃ x, x = u := ⟨_, rfl⟩
      replace h := h r2 rfl
      refine Ev_lstore (l' := [(15, ev_l r2), (10, ev_l (ev_ladd (ev_lmul a6 (s 35 (Int.toNat (ev_sub a12 1)))) a4)), (8, ev_l (ev_lmul (ev_sub a12 1) (ev_lmul a4 (s 35 (Int.toNat (ev_sub a12 1)))))), (4, ev_l (ev_lmul a4 (s 35 (Int.toNat (ev_sub a12 1))))), (6, ev_l (ev_ladd (ev_lmul a6 (s 35 (Int.toNat (ev_sub a12 1)))) a4)), (13, ev_l (s 35 (Int.toNat (ev_sub a12 1)))), (0, ev_r 0), (2, ev_i a2), (3, ev_i a3), (12, ev_i a12)]) dX12_lot_142 (Nat.le_of_ble_eq_true rfl) rfl ?_
      refine Ev_lload 2 dX12_lot_144 rfl ?_
      refine Ev_lload 0 dX12_lot_146 rfl ?_
      obtain ⟨h0, h⟩ := h
      refine Ev_ldiv dX12_lot_148 h0 ?_
      refine Ev_lstore (l' := [(8, ev_l (ev_ldiv (ev_lmul (ev_sub a12 1) (ev_lmul a4 (s 35 (Int.toNat (ev_sub a12 1))))) r2)), (15, ev_l r2), (10, ev_l (ev_ladd (ev_lmul a6 (s 35 (Int.toNat (ev_sub a12 1)))) a4)), (4, ev_l (ev_lmul a4 (s 35 (Int.toNat (ev_sub a12 1))))), (6, ev_l (ev_ladd (ev_lmul a6 (s 35 (Int.toNat (ev_sub a12 1)))) a4)), (13, ev_l (s 35 (Int.toNat (ev_sub a12 1)))), (0, ev_r 0), (2, ev_i a2), (3, ev_i a3), (12, ev_i a12)]) dX12_lot_149 (Nat.le_of_ble_eq_true rfl) rfl ?_
      refine Ev_lload 2 dX12_lot_151 rfl ?_
      refine Ev_lload 1 dX12_lot_153 rfl ?_
      obtain ⟨h0, h⟩ := h
      refine Ev_ldiv dX12_lot_155 h0 ?_
      refine Ev_lstore (l' := [(10, ev_l (ev_ldiv (ev_ladd (ev_lmul a6 (s 35 (Int.toNat (ev_sub a12 1)))) a4) r2)), (8, ev_l (ev_ldiv (ev_lmul (ev_sub a12 1) (ev_lmul a4 (s 35 (Int.toNat (ev_sub a12 1))))) r2)), (15, ev_l r2), (4, ev_l (ev_lmul a4 (s 35 (Int.toNat (ev_sub a12 1))))), (6, ev_l (ev_ladd (ev_lmul a6 (s 35 (Int.toNat (ev_sub a12 1)))) a4)), (13, ev_l (s 35 (Int.toNat (ev_sub a12 1)))), (0, ev_r 0), (2, ev_i a2), (3, ev_i a3), (12, ev_i a12)]) dX12_lot_156 (Nat.le_of_ble_eq_true rfl) rfl ?_
      refine Ev_iinc (j := 9) (l' := [(12, ev_i (ev_add a12 1)), (10, ev_l (ev_ldiv (ev_ladd (ev_lmul a6 (s 35 (Int.toNat (ev_sub a12 1)))) a4) r2)), (8, ev_l (ev_ldiv (ev_lmul (ev_sub a12 1) (ev_lmul a4 (s 35 (Int.toNat (ev_sub a12 1))))) r2)), (15, ev_l r2), (4, ev_l (ev_lmul a4 (s 35 (Int.toNat (ev_sub a12 1))))), (6, ev_l (ev_ladd (ev_lmul a6 (s 35 (Int.toNat (ev_sub a12 1)))) a4)), (13, ev_l (s 35 (Int.toNat (ev_sub a12 1)))), (0, ev_r 0), (2, ev_i a2), (3, ev_i a3)]) dX12_lot_158 rfl (Nat.le_of_ble_eq_true rfl) rfl ?_
      refine Ev_goto (tgt := 71) dX12_lot_161 rfl ?_
      exact Ev_sub [7, 8, 9, 4, 5, 2, 1, 0] rfl h
    · replace h := h.2 c
      refine Ev_goto (tgt := 164) dX12_lot_100 rfl ?_
      refine Ev_iload_n 2 dX12_lot_164 rfl rfl ?_
      refine Ev_if_ne (tgt := 173) dX12_lot_165 rfl (fun c => ?_) (fun c => ?_)
      · replace h := h.1 c
        refine Ev_lload 7 dX12_lot_173 rfl ?_
        exact Ev_lret rfl dX12_lot_175 h
      · replace h := h.2 c
        refine Ev_lload 6 dX12_lot_168 rfl ?_
        refine Ev_goto (tgt := 175) dX12_lot_170 rfl ?_
        exact Ev_lret rfl dX12_lot_175 h
theorem dX12_doMeet_0 : decode cX12_doMeet 0 = .ok (.aload_n 0, 1) := by decide +kernel
theorem dX12_doMeet_1 : decode cX12_doMeet 1 = .ok (.getfield 7, 3) := by decide +kernel
theorem dX12_doMeet_4 : decode cX12_doMeet 4 = .ok (.bipush 11, 2) := by decide +kernel
theorem dX12_doMeet_6 : decode cX12_doMeet 6 = .ok (.iload_n 1, 1) := by decide +kernel
theorem dX12_doMeet_7 : decode cX12_doMeet 7 = .ok (.iadd, 1) := by decide +kernel
theorem dX12_doMeet_8 : decode cX12_doMeet 8 = .ok (.aload_n 0, 1) := by decide +kernel
theorem dX12_doMeet_9 : decode cX12_doMeet 9 = .ok (.getfield 7, 3) := by decide +kernel
theorem dX12_doMeet_12 : decode cX12_doMeet 12 = .ok (.bipush 11, 2) := by decide +kernel
theorem dX12_doMeet_14 : decode cX12_doMeet 14 = .ok (.iload_n 1, 1) := by decide +kernel
theorem dX12_doMeet_15 : decode cX12_doMeet 15 = .ok (.iadd, 1) := by decide +kernel
theorem dX12_doMeet_16 : decode cX12_doMeet 16 = .ok (.iaload, 1) := by decide +kernel
theorem dX12_doMeet_17 : decode cX12_doMeet 17 = .ok (.iload_n 3, 1) := by decide +kernel
theorem dX12_doMeet_18 : decode cX12_doMeet 18 = .ok (.iadd, 1) := by decide +kernel
theorem dX12_doMeet_19 : decode cX12_doMeet 19 = .ok (.iastore, 1) := by decide +kernel
theorem dX12_doMeet_20 : decode cX12_doMeet 20 = .ok (.aload_n 0, 1) := by decide +kernel
theorem dX12_doMeet_21 : decode cX12_doMeet 21 = .ok (.iconst (-1), 1) := by decide +kernel
theorem dX12_doMeet_22 : decode cX12_doMeet 22 = .ok (.putfield 505, 3) := by decide +kernel
theorem dX12_doMeet_25 : decode cX12_doMeet 25 = .ok (.aload_n 0, 1) := by decide +kernel
theorem dX12_doMeet_26 : decode cX12_doMeet 26 = .ok (.getfield 7, 3) := by decide +kernel
theorem dX12_doMeet_29 : decode cX12_doMeet 29 = .ok (.iconst 0, 1) := by decide +kernel
theorem dX12_doMeet_30 : decode cX12_doMeet 30 = .ok (.iaload, 1) := by decide +kernel
theorem dX12_doMeet_31 : decode cX12_doMeet 31 = .ok (.sipush 600, 3) := by decide +kernel
theorem dX12_doMeet_34 : decode cX12_doMeet 34 = .ok (.if_icmp .ge 67, 3) := by decide +kernel
theorem dX12_doMeet_37 : decode cX12_doMeet 37 = .ok (.aload_n 0, 1) := by decide +kernel
theorem dX12_doMeet_38 : decode cX12_doMeet 38 = .ok (.getfield 505, 3) := by decide +kernel
theorem dX12_doMeet_41 : decode cX12_doMeet 41 = .ok (.iconst (-1), 1) := by decide +kernel
theorem dX12_doMeet_42 : decode cX12_doMeet 42 = .ok (.if_icmp .ne 59, 3) := by decide +kernel
theorem dX12_doMeet_45 : decode cX12_doMeet 45 = .ok (.aload_n 0, 1) := by decide +kernel
theorem dX12_doMeet_46 : decode cX12_doMeet 46 = .ok (.iload_n 1, 1) := by decide +kernel
theorem dX12_doMeet_47 : decode cX12_doMeet 47 = .ok (.invokevirtual 393, 3) := by decide +kernel
theorem dX12_doMeet_50 : decode cX12_doMeet 50 = .ok (.aload_n 0, 1) := by decide +kernel
theorem dX12_doMeet_51 : decode cX12_doMeet 51 = .ok (.iload_n 2, 1) := by decide +kernel
theorem dX12_doMeet_52 : decode cX12_doMeet 52 = .ok (.invokevirtual 393, 3) := by decide +kernel
theorem dX12_doMeet_55 : decode cX12_doMeet 55 = .ok (.aload_n 0, 1) := by decide +kernel
theorem dX12_doMeet_56 : decode cX12_doMeet 56 = .ok (.getfield 7, 3) := by decide +kernel
theorem dX12_doMeet_59 : decode cX12_doMeet 59 = .ok (.iconst 3, 1) := by decide +kernel
theorem dX12_doMeet_60 : decode cX12_doMeet 60 = .ok (.iload_n 1, 1) := by decide +kernel
theorem dX12_doMeet_61 : decode cX12_doMeet 61 = .ok (.iadd, 1) := by decide +kernel
theorem dX12_doMeet_62 : decode cX12_doMeet 62 = .ok (.iaload, 1) := by decide +kernel
theorem dX12_doMeet_63 : decode cX12_doMeet 63 = .ok (.aload_n 0, 1) := by decide +kernel
theorem dX12_doMeet_64 : decode cX12_doMeet 64 = .ok (.getfield 7, 3) := by decide +kernel
theorem dX12_doMeet_67 : decode cX12_doMeet 67 = .ok (.iconst 3, 1) := by decide +kernel
theorem dX12_doMeet_68 : decode cX12_doMeet 68 = .ok (.iload_n 2, 1) := by decide +kernel
theorem dX12_doMeet_69 : decode cX12_doMeet 69 = .ok (.iadd, 1) := by decide +kernel
theorem dX12_doMeet_70 : decode cX12_doMeet 70 = .ok (.iaload, 1) := by decide +kernel
theorem dX12_doMeet_71 : decode cX12_doMeet 71 = .ok (.if_icmp .ne 13, 3) := by decide +kernel
theorem dX12_doMeet_74 : decode cX12_doMeet 74 = .ok (.aload_n 0, 1) := by decide +kernel
theorem dX12_doMeet_75 : decode cX12_doMeet 75 = .ok (.aload_n 0, 1) := by decide +kernel
theorem dX12_doMeet_76 : decode cX12_doMeet 76 = .ok (.getfield 7, 3) := by decide +kernel
theorem dX12_doMeet_79 : decode cX12_doMeet 79 = .ok (.iconst 0, 1) := by decide +kernel
theorem dX12_doMeet_80 : decode cX12_doMeet 80 = .ok (.iaload, 1) := by decide +kernel
theorem dX12_doMeet_81 : decode cX12_doMeet 81 = .ok (.putfield 505, 3) := by decide +kernel
theorem dX12_doMeet_84 : decode cX12_doMeet 84 = .ok (.aload_n 0, 1) := by decide +kernel
theorem dX12_doMeet_85 : decode cX12_doMeet 85 = .ok (.getfield 7, 3) := by decide +kernel
theorem dX12_doMeet_88 : decode cX12_doMeet 88 = .ok (.iconst 0, 1) := by decide +kernel
theorem dX12_doMeet_89 : decode cX12_doMeet 89 = .ok (.aload_n 0, 1) := by decide +kernel
theorem dX12_doMeet_90 : decode cX12_doMeet 90 = .ok (.getfield 7, 3) := by decide +kernel
theorem dX12_doMeet_93 : decode cX12_doMeet 93 = .ok (.iconst 0, 1) := by decide +kernel
theorem dX12_doMeet_94 : decode cX12_doMeet 94 = .ok (.iaload, 1) := by decide +kernel
theorem dX12_doMeet_95 : decode cX12_doMeet 95 = .ok (.iconst 1, 1) := by decide +kernel
theorem dX12_doMeet_96 : decode cX12_doMeet 96 = .ok (.iadd, 1) := by decide +kernel
theorem dX12_doMeet_97 : decode cX12_doMeet 97 = .ok (.iastore, 1) := by decide +kernel
theorem dX12_doMeet_98 : decode cX12_doMeet 98 = .ok (.goto (-73), 3) := by decide +kernel
theorem dX12_doMeet_101 : decode cX12_doMeet 101 = .ok (.aload_n 0, 1) := by decide +kernel
theorem dX12_doMeet_102 : decode cX12_doMeet 102 = .ok (.invokevirtual 134, 3) := by decide +kernel
theorem dX12_doMeet_105 : decode cX12_doMeet 105 = .ok (.aload_n 0, 1) := by decide +kernel
theorem dX12_doMeet_106 : decode cX12_doMeet 106 = .ok (.getfield 505, 3) := by decide +kernel
theorem dX12_doMeet_109 : decode cX12_doMeet 109 = .ok (.iconst (-1), 1) := by decide +kernel
theorem dX12_doMeet_110 : decode cX12_doMeet 110 = .ok (.if_icmp .eq 7, 3) := by decide +kernel
theorem dX12_doMeet_113 : decode cX12_doMeet 113 = .ok (.iconst 1, 1) := by decide +kernel
theorem dX12_doMeet_114 : decode cX12_doMeet 114 = .ok (.goto 4, 3) := by decide +kernel
theorem dX12_doMeet_117 : decode cX12_doMeet 117 = .ok (.iconst 0, 1) := by decide +kernel
theorem dX12_doMeet_118 : decode cX12_doMeet 118 = .ok (.ireturn, 1) := by decide +kernel
theorem wp_X12_doMeet_0 {d : Nat} {s : ev_S} {Q : Option ev_V → ev_S → Prop} {a1 a2 a3 : Int}
    (h : ((0 ≤ (ev_add 11 a1) ∧ (ev_add 11 a1) < (87 : Nat)) ∧ ((0 ≤ (ev_add 11 a1) ∧ (ev_add 11 a1) < (87 : Nat)) ∧ ∀ s1, ev_up s 1 (Int.toNat (ev_add 11 a1)) (ev_add (s 1 (Int.toNat (ev_add 11 a1))) a3) = s1 → (∀ s2, ev_up s1 0 59 (-1) = s2 → Ev layM M_X12_doMeet (d + 1) 25 [(0, ev_r 0), (1, ev_i a1), (2, ev_i a2)] [] s2 Q)))) :
    Ev layM M_X12_doMeet (d + 1) 0 [(0, ev_r 0), (1, ev_i a1), (2, ev_i a2), (3, ev_i a3)] [] s Q := by
  refine Ev_aload_n 0 dX12_doMeet_0 rfl rfl ?_
  refine Ev_getR (i := 1) cl_X12 yM_0 (Nat.le_of_ble_eq_true rfl) rfl wd_1445 dX12_doMeet_1 ?_
  refine Ev_bipushC dX12_doMeet_4 rfl ?_
  refine Ev_iload_n 1 dX12_doMeet_6 rfl rfl ?_
  refine Ev_iadd dX12_doMeet_7 ?_
  refine Ev_aload_n 0 dX12_doMeet_8 rfl rfl ?_
  refine Ev_getR (i := 1) cl_X12 yM_0 (Nat.le_of_ble_eq_true rfl) rfl wd_1445 dX12_doMeet_9 ?_
  refine Ev_bipushC dX12_doMeet_12 rfl ?_
  refine Ev_iload_n 1 dX12_doMeet_14 rfl rfl ?_
  refine Ev_iadd dX12_doMeet_15 ?_
  obtain ⟨h0, h⟩ := h
  refine Ev_iald yM_1 h0 dX12_doMeet_16 ?_
  refine Ev_iload_n 3 dX12_doMeet_17 rfl rfl ?_
  refine Ev_iadd dX12_doMeet_18 ?_
  obtain ⟨h0, h⟩ := h
  refine Ev_iast yM_1 h0 dX12_doMeet_19 (Ev_nm (fun s1 es1 => ?_))
  replace h := h s1 es1
  refine Ev_aload_n 0 dX12_doMeet_20 rfl rfl ?_
  refine Ev_iconst dX12_doMeet_21 rfl (ev_Rc rfl) ?_
  refine Ev_put (i := 59) (ty := .int) cl_X12 yM_0 (Nat.le_of_ble_eq_true rfl) rfl rfl (by decide +kernel) rfl rfl wd_1503 dX12_doMeet_22 (Ev_nm (fun s2 es2 => ?_))
  replace h := h s2 es2
  exact Ev_sub [0, 1, 2] rfl h
theorem wp_X12_doMeet_25 {d : Nat} {s : ev_S} {Q : Option ev_V → ev_S → Prop} {a1 a2 : Int}
    (h : ((600 ≤ (s 1 0) → Ev layM M_X12_doMeet (d + 1) 101 [(0, ev_r 0)] [] s Q) ∧ ((s 1 0) < 600 → (((s 0 59) ≠ (-1) → Ev layM M_X12_doMeet (d + 1) 101 [(0, ev_r 0)] [] s Q) ∧ ((s 0 59) = (-1) → (Ev layM M_X12_wardGoesOn d 0 [(0, ev_r 0), (1, ev_i a1)] [] s (fun _ s1 => (Ev layM M_X12_wardGoesOn d 0 [(0, ev_r 0), (1, ev_i a2)] [] s1 (fun _ s2 => ((0 ≤ (ev_add 3 a1) ∧ (ev_add 3 a1) < (87 : Nat)) ∧ ((0 ≤ (ev_add 3 a2) ∧ (ev_add 3 a2) < (87 : Nat)) ∧ (((s2 1 (Int.toNat (ev_add 3 a1))) ≠ (s2 1 (Int.toNat (ev_add 3 a2))) → Ev layM M_X12_doMeet (d + 1) 84 [(0, ev_r 0), (1, ev_i a1), (2, ev_i a2)] [] s2 Q) ∧ ((s2 1 (Int.toNat (ev_add 3 a1))) = (s2 1 (Int.toNat (ev_add 3 a2))) → (∀ s3, ev_up s2 0 59 (s2 1 0) = s3 → Ev layM M_X12_doMeet (d + 1) 84 [(0, ev_r 0), (1, ev_i a1), (2, ev_i a2)] [] s3 Q)))))))))))))) :
    Ev layM M_X12_doMeet (d + 1) 25 [(0, ev_r 0), (1, ev_i a1), (2, ev_i a2)] [] s Q := by
  refine Ev_aload_n 0 dX12_doMeet_25 rfl rfl ?_
  refine Ev_getR (i := 1) cl_X12 yM_0 (Nat.le_of_ble_eq_true rfl) rfl wd_1445 dX12_doMeet_26 ?_
  refine Ev_iconst dX12_doMeet_29 rfl (ev_Rc rfl) ?_
  refine Ev_iald yM_1 (by decide) dX12_doMeet_30 ?_
  refine Ev_sipushC dX12_doMeet_31 rfl ?_
  refine Ev_icmp_ge (tgt := 101) dX12_doMeet_34 rfl (fun c => ?_) (fun c => ?_)
  · replace h := h.1 c
    exact Ev_sub [0] rfl h
  · replace h := h.2 c
    refine Ev_aload_n 0 dX12_doMeet_37 rfl rfl ?_
    refine Ev_get (i := 59) cl_X12 yM_0 (Nat.le_of_ble_eq_true rfl) rfl wd_1503 dX12_doMeet_38 ?_
    refine Ev_iconst dX12_doMeet_41 rfl (ev_Rc rfl) ?_
    refine Ev_icmp_ne (tgt := 101) dX12_doMeet_42 rfl (fun c => ?_) (fun c => ?_)
    · replace h := h.1 c
      exact Ev_sub [0] rfl h
    · replace h := h.2 c
      refine Ev_aload_n 0 dX12_doMeet_45 rfl rfl ?_
      refine Ev_iload_n 1 dX12_doMeet_46 rfl rfl ?_
      refine Ev_callV (As := [ev_i a1]) (b := 0) (st := []) (M' := M_X12_wardGoesOn) cm_X12_wardGoesOn wd_1942 wd_1944 wd_134 yM_0 cl_X12 rfl dX12_doMeet_47 (Nat.le_refl _) rfl (Nat.le_of_ble_eq_true rfl) (Nat.le_of_ble_eq_true rfl) h (fun v u h hk => ?_)
      cases hk
      obtain ⟨s1, rfl⟩ : ∃ x, x = u := ⟨_, rfl⟩
      refine Ev_aload_n 0 dX12_doMeet_50 rfl rfl ?_
      refine Ev_iload_n 2 dX12_doMeet_51 rfl rfl ?_
      refine Ev_callV (As := [ev_i a2]) (b := 0) (st := []) (M' := M_X12_wardGoesOn) cm_X12_wardGoesOn wd_1942 wd_1944 wd_134 yM_0 cl_X12 rfl dX12_doMeet_52 (Nat.le_refl _) rfl (Nat.le_of_ble_eq_true rfl) (Nat.le_of_ble_eq_true rfl) h (fun v u h hk => ?_)
      cases hk
      obtain ⟨s2, rfl⟩ : ∃ x, x = u := ⟨_, rfl⟩
      refine Ev_aload_n 0 dX12_doMeet_55 rfl rfl ?_
      refine Ev_getR (i := 1) cl_X12 yM_0 (Nat.le_of_ble_eq_true rfl) rfl wd_1445 dX12_doMeet_56 ?_
      refine Ev_iconst dX12_doMeet_59 rfl (ev_Rc rfl) ?_
      refine Ev_iload_n 1 dX12_doMeet_60 rfl rfl ?_
      refine Ev_iadd dX12_doMeet_61 ?_
      obtain ⟨h0, h⟩ := h
      refine Ev_iald yM_1 h0 dX12_doMeet_62 ?_
      refine Ev_aload_n 0 dX12_doMeet_63 rfl rfl ?_
      refine Ev_getR (i := 1) cl_X12 yM_0 (Nat.le_of_ble_eq_true rfl) rfl wd_1445 dX12_doMeet_64 ?_
      refine Ev_iconst dX12_doMeet_67 rfl (ev_Rc rfl) ?_
      refine Ev_iload_n 2 dX12_doMeet_68 rfl rfl ?_
      refine Ev_iadd dX12_doMeet_69 ?_
      obtain ⟨h0, h⟩ := h
      refine Ev_iald yM_1 h0 dX12_doMeet_70 ?_
      refine Ev_icmp_ne (tgt := 84) dX12_doMeet_71 rfl (fun c => ?_) (fun c => ?_)
      · replace h := h.1 c
        exact Ev_sub [0, 1, 2] rfl h
      · replace h := h.2 c
        refine Ev_aload_n 0 dX12_doMeet_74 rfl rfl ?_
        refine Ev_aload_n 0 dX12_doMeet_75 rfl rfl ?_
        refine Ev_getR (i := 1) cl_X12 yM_0 (Nat.le_of_ble_eq_true rfl) rfl wd_1445 dX12_doMeet_76 ?_
        refine Ev_iconst dX12_doMeet_79 rfl (ev_Rc rfl) ?_
        refine Ev_iald yM_1 (by decide) dX12_doMeet_80 ?_
        refine Ev_put (i := 59) (ty := .int) cl_X12 yM_0 (Nat.le_of_ble_eq_true rfl) rfl rfl (by decide +kernel) rfl rfl wd_1503 dX12_doMeet_81 (Ev_nm (fun s3 es3 => ?_))
        replace h := h s3 es3
        exact Ev_sub [0, 1, 2] rfl h
theorem wp_X12_doMeet_84 {d : Nat} {s : ev_S} {Q : Option ev_V → ev_S → Prop} {a1 a2 : Int}
    (h : (∀ s1, ev_up s 1 0 (ev_add (s 1 0) 1) = s1 → Ev layM M_X12_doMeet (d + 1) 25 [(0, ev_r 0), (1, ev_i a1), (2, ev_i a2)] [] s1 Q)) :
    Ev layM M_X12_doMeet (d + 1) 84 [(0, ev_r 0), (1, ev_i a1), (2, ev_i a2)] [] s Q := by
  refine Ev_aload_n 0 dX12_doMeet_84 rfl rfl ?_
  refine Ev_getR (i := 1) cl_X12 yM_0 (Nat.le_of_ble_eq_true rfl) rfl wd_1445 dX12_doMeet_85 ?_
  refine Ev_iconst dX12_doMeet_88 rfl (ev_Rc rfl) ?_
  refine Ev_aload_n 0 dX12_doMeet_89 rfl rfl ?_
  refine Ev_getR (i := 1) cl_X12 yM_0 (Nat.le_of_ble_eq_true rfl) rfl wd_1445 dX12_doMeet_90 ?_
  refine Ev_iconst dX12_doMeet_93 rfl (ev_Rc rfl) ?_
  refine Ev_iald yM_1 (by decide) dX12_doMeet_94 ?_
  refine Ev_iconst dX12_doMeet_95 rfl (ev_Rc rfl) ?_
  refine Ev_iadd dX12_doMeet_96 ?_
  refine Ev_iast yM_1 (by decide) dX12_doMeet_97 (Ev_nm (fun s1 es1 => ?_))
  replace h := h s1 es1
  refine Ev_goto (tgt := 25) dX12_doMeet_98 rfl ?_
  exact Ev_sub [0, 1, 2] rfl h
theorem wp_X12_doMeet_101 {d : Nat} {s : ev_S} {Q : Option ev_V → ev_S → Prop}
    (h : (Ev layM M_X12_thinksAnew d 0 [(0, ev_r 0)] [] s (fun _ s1 => (((s1 0 59) = (-1) → Q (some (ev_i 0)) s1) ∧ ((s1 0 59) ≠ (-1) → Q (some (ev_i 1)) s1))))) :
    Ev layM M_X12_doMeet (d + 1) 101 [(0, ev_r 0)] [] s Q := by
  refine Ev_aload_n 0 dX12_doMeet_101 rfl rfl ?_
  refine Ev_callV (As := []) (b := 0) (st := []) (M' := M_X12_thinksAnew) cm_X12_thinksAnew wd_1992 wd_1994 wd_145 yM_0 cl_X12 rfl dX12_doMeet_102 (Nat.le_refl _) rfl (Nat.le_of_ble_eq_true rfl) (Nat.le_of_ble_eq_true rfl) h (fun v u h hk => ?_)
  cases hk
  obtain ⟨s1, rfl⟩ : ∃ x, x = u := ⟨_, rfl⟩
  refine Ev_aload_n 0 dX12_doMeet_105 rfl rfl ?_
  refine Ev_get (i := 59) cl_X12 yM_0 (Nat.le_of_ble_eq_true rfl) rfl wd_1503 dX12_doMeet_106 ?_
  refine Ev_iconst dX12_doMeet_109 rfl (ev_Rc rfl) ?_
  refine Ev_icmp_eq (tgt := 117) dX12_doMeet_110 rfl (fun c => ?_) (fun c => ?_)
  · replace h := h.1 c
    refine Ev_iconst dX12_doMeet_117 rfl (ev_Rc rfl) ?_
    exact Ev_iret rfl dX12_doMeet_118 (ev_nb (by decide)) h
  · replace h := h.2 c
    refine Ev_iconst dX12_doMeet_113 rfl (ev_Rc rfl) ?_
    refine Ev_goto (tgt := 118) dX12_doMeet_114 rfl ?_
    exact Ev_iret rfl dX12_doMeet_118 (ev_nb (by decide)) h
theorem dX12_near_0 : decode cX12_near 0 = .ok (.aload_n 0, 1) := by decide +kernel
theorem dX12_near_1 : decode cX12_near 1 = .ok (.iconst 0, 1) := by decide +kernel
theorem dX12_near_2 : decode cX12_near 2 = .ok (.putfield 124, 3) := by decide +kernel
theorem dX12_near_5 : decode cX12_near 5 = .ok (.aload_n 0, 1) := by decide +kernel
theorem dX12_near_6 : decode cX12_near 6 = .ok (.iload_n 1, 1) := by decide +kernel
theorem dX12_near_7 : decode cX12_near 7 = .ok (.invokevirtual 318, 3) := by decide +kernel
theorem dX12_near_10 : decode cX12_near 10 = .ok (.ifCond .eq 26, 3) := by decide +kernel
theorem dX12_near_13 : decode cX12_near 13 = .ok (.aload_n 0, 1) := by decide +kernel
theorem dX12_near_14 : decode cX12_near 14 = .ok (.iload_n 2, 1) := by decide +kernel
theorem dX12_near_15 : decode cX12_near 15 = .ok (.invokevirtual 318, 3) := by decide +kernel
theorem dX12_near_18 : decode cX12_near 18 = .ok (.ifCond .eq 18, 3) := by decide +kernel
theorem dX12_near_21 : decode cX12_near 21 = .ok (.iload_n 1, 1) := by decide +kernel
theorem dX12_near_22 : decode cX12_near 22 = .ok (.iload_n 2, 1) := by decide +kernel
theorem dX12_near_23 : decode cX12_near 23 = .ok (.if_icmp .eq 13, 3) := by decide +kernel
theorem dX12_near_26 : decode cX12_near 26 = .ok (.aload_n 0, 1) := by decide +kernel
theorem dX12_near_27 : decode cX12_near 27 = .ok (.iload_n 3, 1) := by decide +kernel
theorem dX12_near_28 : decode cX12_near 28 = .ok (.iconst 0, 1) := by decide +kernel
theorem dX12_near_29 : decode cX12_near 29 = .ok (.iconst 1, 1) := by decide +kernel
theorem dX12_near_30 : decode cX12_near 30 = .ok (.invokevirtual 158, 3) := by decide +kernel
theorem dX12_near_33 : decode cX12_near 33 = .ok (.ifCond .ne 5, 3) := by decide +kernel
theorem dX12_near_36 : decode cX12_near 36 = .ok (.iconst (-1), 1) := by decide +kernel
theorem dX12_near_37 : decode cX12_near 37 = .ok (.ireturn, 1) := by decide +kernel
theorem dX12_near_38 : decode cX12_near 38 = .ok (.aload_n 0, 1) := by decide +kernel
theorem dX12_near_39 : decode cX12_near 39 = .ok (.invokevirtual 426, 3) := by decide +kernel
theorem dX12_near_42 : decode cX12_near 42 = .ok (.iconst 0, 1) := by decide +kernel
theorem dX12_near_43 : decode cX12_near 43 = .ok (.istore 4, 2) := by decide +kernel
theorem dX12_near_45 : decode cX12_near 45 = .ok (.iload 4, 2) := by decide +kernel
theorem dX12_near_47 : decode cX12_near 47 = .ok (.bipush 60, 2) := by decide +kernel
theorem dX12_near_49 : decode cX12_near 49 = .ok (.if_icmp .gt 23, 3) := by decide +kernel
theorem dX12_near_52 : decode cX12_near 52 = .ok (.aload_n 0, 1) := by decide +kernel
theorem dX12_near_53 : decode cX12_near 53 = .ok (.iload_n 1, 1) := by decide +kernel
theorem dX12_near_54 : decode cX12_near 54 = .ok (.iload_n 2, 1) := by decide +kernel
theorem dX12_near_55 : decode cX12_near 55 = .ok (.iload 4, 2) := by decide +kernel
theorem dX12_near_57 : decode cX12_near 57 = .ok (.invokevirtual 508, 3) := by decide +kernel
theorem dX12_near_60 : decode cX12_near 60 = .ok (.ifCond .ne 12, 3) := by decide +kernel
theorem dX12_near_63 : decode cX12_near 63 = .ok (.iload 4, 2) := by decide +kernel
theorem dX12_near_65 : decode cX12_near 65 = .ok (.iconst 1, 1) := by decide +kernel
theorem dX12_near_66 : decode cX12_near 66 = .ok (.iadd, 1) := by decide +kernel
theorem dX12_near_67 : decode cX12_near 67 = .ok (.istore 4, 2) := by decide +kernel
theorem dX12_near_69 : decode cX12_near 69 = .ok (.goto (-24), 3) := by decide +kernel
theorem dX12_near_72 : decode cX12_near 72 = .ok (.aload_n 0, 1) := by decide +kernel
theorem dX12_near_73 : decode cX12_near 73 = .ok (.invokevirtual 429, 3) := by decide +kernel
theorem dX12_near_76 : decode cX12_near 76 = .ok (.iload 4, 2) := by decide +kernel
theorem dX12_near_78 : decode cX12_near 78 = .ok (.bipush 60, 2) := by decide +kernel
theorem dX12_near_80 : decode cX12_near 80 = .ok (.if_icmp .le 7, 3) := by decide +kernel
theorem dX12_near_83 : decode cX12_near 83 = .ok (.iconst (-1), 1) := by decide +kernel
theorem dX12_near_84 : decode cX12_near 84 = .ok (.goto 16, 3) := by decide +kernel
theorem dX12_near_87 : decode cX12_near 87 = .ok (.iload_n 3, 1) := by decide +kernel
theorem dX12_near_88 : decode cX12_near 88 = .ok (.ifCond .ne 8, 3) := by decide +kernel
theorem dX12_near_91 : decode cX12_near 91 = .ok (.iload 4, 2) := by decide +kernel
theorem dX12_near_93 : decode cX12_near 93 = .ok (.goto 7, 3) := by decide +kernel
theorem dX12_near_96 : decode cX12_near 96 = .ok (.aload_n 0, 1) := by decide +kernel
theorem dX12_near_97 : decode cX12_near 97 = .ok (.getfield 505, 3) := by decide +kernel
theorem dX12_near_100 : decode cX12_near 100 = .ok (.ireturn, 1) := by decide +kernel
theorem wp_X12_near_0 {d : Nat} {s : ev_S} {Q : Option ev_V → ev_S → Prop} {a1 a2 a3 : Int}
    (h : (∀ s1, ev_up s 0 0 0 = s1 → (Ev layM M_X12_isWard d 0 [(0, ev_r 0), (1, ev_i a1)] [] s1 (ev_pi (fun r3 s2 => ((r3 = 0 → Q (some (ev_i (-1))) s2) ∧ (r3 ≠ 0 → (Ev layM M_X12_isWard d 0 [(0, ev_r 0), (1, ev_i a2)] [] s2 (ev_pi (fun r5 s4 => ((r5 = 0 → Q (some (ev_i (-1))) s4) ∧ (r5 ≠ 0 → ((a1 = a2 → Q (some (ev_i (-1))) s4) ∧ (a1 ≠ a2 → (Ev layM M_X12_isIn d 0 [(0, ev_r 0), (1, ev_i a3), (2, ev_i 0), (3, ev_i 1)] [] s4 (ev_pi (fun r7 s6 => ((r7 ≠ 0 → (Ev layM M_X12_thinks d 0 [(0, ev_r 0)] [] s6 (fun _ s8 => Ev layM M_X12_near (d + 1) 45 [(0, ev_r 0), (1, ev_i a1), (2, ev_i a2), (3, ev_i a3), (4, ev_i 0)] [] s8 Q))) ∧ (r7 = 0 → Q (some (ev_i (-1))) s6))))))))))))))))))) :
    Ev layM M_X12_near (d + 1) 0 [(0, ev_r 0), (1, ev_i a1), (2, ev_i a2), (3, ev_i a3)] [] s Q := by
  refine Ev_aload_n 0 dX12_near_0 rfl rfl ?_
  refine Ev_iconst dX12_near_1 rfl (ev_Rc rfl) ?_
  refine Ev_put (i := 0) (ty := .int) cl_X12 yM_0 (Nat.le_of_ble_eq_true rfl) rfl rfl (by decide +kernel) rfl rfl wd_1444 dX12_near_2 (Ev_nm (fun s1 es1 => ?_))
  replace h := h s1 es1
  refine Ev_aload_n 0 dX12_near_5 rfl rfl ?_
  refine Ev_iload_n 1 dX12_near_6 rfl rfl ?_
  refine Ev_callV (As := [ev_i a1]) (b := 0) (st := []) (M' := M_X12_isWard) cm_X12_isWard wd_1698 wd_1700 wd_75 yM_0 cl_X12 rfl dX12_near_7 (Nat.le_refl _) rfl (Nat.le_of_ble_eq_true rfl) (Nat.le_of_ble_eq_true rfl) h (fun v u h hk => ?_)
  obtain ⟨r3, rfl⟩ := hk
  obtain ⟨s2, rfl⟩ : ∃ x, x = u := ⟨_, rfl⟩
  replace h := h r3 rfl
  refine Ev_if_eq (tgt := 36) dX12_near_10 rfl (fun c => ?_) (fun c => ?_)
  · replace h := h.1 c
    refine Ev_iconst dX12_near_36 rfl (ev_Rc rfl) ?_
    exact Ev_iret rfl dX12_near_37 rfl h
  · replace h := h.2 c
    refine Ev_aload_n 0 dX12_near_13 rfl rfl ?_
    refine Ev_iload_n 2 dX12_near_14 rfl rfl ?_
    refine Ev_callV (As := [ev_i a2]) (b := 0) (st := []) (M' := M_X12_isWard) cm_X12_isWard wd_1698 wd_1700 wd_75 yM_0 cl_X12 rfl dX12_near_15 (Nat.le_refl _) rfl (Nat.le_of_ble_eq_true rfl) (Nat.le_of_ble_eq_true rfl) h (fun v u h hk => ?_)
    obtain ⟨r5, rfl⟩ := hk
    obtain ⟨s4, rfl⟩ : ∃ x, x = u := ⟨_, rfl⟩
    replace h := h r5 rfl
    refine Ev_if_eq (tgt := 36) dX12_near_18 rfl (fun c => ?_) (fun c => ?_)
    · replace h := h.1 c
      refine Ev_iconst dX12_near_36 rfl (ev_Rc rfl) ?_
      exact Ev_iret rfl dX12_near_37 rfl h
    · replace h := h.2 c
      refine Ev_iload_n 1 dX12_near_21 rfl rfl ?_
      refine Ev_iload_n 2 dX12_near_22 rfl rfl ?_
      refine Ev_icmp_eq (tgt := 36) dX12_near_23 rfl (fun c => ?_) (fun c => ?_)
      · replace h := h.1 c
        refine Ev_iconst dX12_near_36 rfl (ev_Rc rfl) ?_
        exact Ev_iret rfl dX12_near_37 rfl h
      · replace h := h.2 c
        refine Ev_aload_n 0 dX12_near_26 rfl rfl ?_
        refine Ev_iload_n 3 dX12_near_27 rfl rfl ?_
        refine Ev_iconst dX12_near_28 rfl (ev_Rc rfl) ?_
        refine Ev_iconst dX12_near_29 rfl (ev_Rc rfl) ?_
        refine Ev_callV (As := [ev_i a3, ev_i 0, ev_i 1]) (b := 0) (st := []) (M' := M_X12_isIn) cm_X12_isIn wd_1650 wd_1652 wd_70 yM_0 cl_X12 rfl dX12_near_30 (Nat.le_refl _) rfl (Nat.le_of_ble_eq_true rfl) (Nat.le_of_ble_eq_true rfl) h (fun v u h hk => ?_)
        obtain ⟨r7, rfl⟩ := hk
        obtain ⟨s6, rfl⟩ : ∃ x, x = u := ⟨_, rfl⟩
        replace h := h r7 rfl
        refine Ev_if_ne (tgt := 38) dX12_near_33 rfl (fun c => ?_) (fun c => ?_)
        · replace h := h.1 c
          refine Ev_aload_n 0 dX12_near_38 rfl rfl ?_
          refine Ev_callV (As := []) (b := 0) (st := []) (M' := M_X12_thinks) cm_X12_thinks wd_1980 wd_1982 wd_142 yM_0 cl_X12 rfl dX12_near_39 (Nat.le_refl _) rfl (Nat.le_of_ble_eq_true rfl) (Nat.le_of_ble_eq_true rfl) h (fun v u h hk => ?_)
          cases hk
          obtain ⟨s8, rfl⟩ : ∃ x, x = u := ⟨_, rfl⟩
          refine Ev_iconst dX12_near_42 rfl (ev_Rc rfl) ?_
          refine Ev_istore (l' := [(4, ev_i 0), (0, ev_r 0), (1, ev_i a1), (2, ev_i a2), (3, ev_i a3)]) dX12_near_43 (Nat.le_of_ble_eq_true rfl) rfl ?_
          exact Ev_sub [1, 2, 3, 4, 0] rfl h
        · replace h := h.2 c
          refine Ev_iconst dX12_near_36 rfl (ev_Rc rfl) ?_
          exact Ev_iret rfl dX12_near_37 rfl h
theorem wp_X12_near_45 {d : Nat} {s : ev_S} {Q : Option ev_V → ev_S → Prop} {a1 a2 a3 a4 : Int}
    (h : ((60 < a4 → Ev layM M_X12_near (d + 1) 72 [(0, ev_r 0), (3, ev_i a3), (4, ev_i a4)] [] s Q) ∧ (a4 ≤ 60 → (Ev layM M_X12_doMeet d 0 [(0, ev_r 0), (1, ev_i a1), (2, ev_i a2), (3, ev_i a4)] [] s (ev_pi (fun r2 s1 => ((r2 ≠ 0 → Ev layM M_X12_near (d + 1) 72 [(0, ev_r 0), (3, ev_i a3), (4, ev_i a4)] [] s1 Q) ∧ (r2 = 0 → Ev layM M_X12_near (d + 1) 45 [(0, ev_r 0), (1, ev_i a1), (2, ev_i a2), (3, ev_i a3), (4, ev_i (ev_add a4 1))] [] s1 Q)))))))) :
    Ev layM M_X12_near (d + 1) 45 [(0, ev_r 0), (1, ev_i a1), (2, ev_i a2), (3, ev_i a3), (4, ev_i a4)] [] s Q := by
  refine Ev_iload 4 dX12_near_45 rfl ?_
  refine Ev_bipushC dX12_near_47 rfl ?_
  refine Ev_icmp_gt (tgt := 72) dX12_near_49 rfl (fun c => ?_) (fun c => ?_)
  · replace h := h.1 c
    exact Ev_sub [0, 3, 4] rfl h
  · replace h := h.2 c
    refine Ev_aload_n 0 dX12_near_52 rfl rfl ?_
    refine Ev_iload_n 1 dX12_near_53 rfl rfl ?_
    refine Ev_iload_n 2 dX12_near_54 rfl rfl ?_
    refine Ev_iload 4 dX12_near_55 rfl ?_
    refine Ev_callV (As := [ev_i a1, ev_i a2, ev_i a4]) (b := 0) (st := []) (M' := M_X12_doMeet) cm_X12_doMeet wd_2126 wd_2128 wd_168 yM_0 cl_X12 rfl dX12_near_57 (Nat.le_refl _) rfl (Nat.le_of_ble_eq_true rfl) (Nat.le_of_ble_eq_true rfl) h (fun v u h hk => ?_)
    obtain ⟨r2, rfl⟩ := hk
    obtain ⟨s1, rfl⟩ : ∃ x, x = u := ⟨_, rfl⟩
    replace h := h r2 rfl
    refine Ev_if_ne (tgt := 72) dX12_near_60 rfl (fun c => ?_) (fun c => ?_)
    · replace h := h.1 c
      exact Ev_sub [0, 3, 4] rfl h
    · replace h := h.2 c
      refine Ev_iload 4 dX12_near_63 rfl ?_
      refine Ev_iconst dX12_near_65 rfl (ev_Rc rfl) ?_
      refine Ev_iadd dX12_near_66 ?_
      refine Ev_istore (l' := [(4, ev_i (ev_add a4 1)), (0, ev_r 0), (1, ev_i a1), (2, ev_i a2), (3, ev_i a3)]) dX12_near_67 (Nat.le_of_ble_eq_true rfl) rfl ?_
      refine Ev_goto (tgt := 45) dX12_near_69 rfl ?_
      exact Ev_sub [1, 2, 3, 4, 0] rfl h
theorem wp_X12_near_72 {d : Nat} {s : ev_S} {Q : Option ev_V → ev_S → Prop} {a3 a4 : Int}
    (h : (Ev layM M_X12_endsThought d 0 [(0, ev_r 0)] [] s (fun _ s1 => ((a4 ≤ 60 → ((a3 ≠ 0 → Q (some (ev_i (s1 0 59))) s1) ∧ (a3 = 0 → Q (some (ev_i a4)) s1))) ∧ (60 < a4 → Q (some (ev_i (-1))) s1))))) :
    Ev layM M_X12_near (d + 1) 72 [(0, ev_r 0), (3, ev_i a3), (4, ev_i a4)] [] s Q := by
  refine Ev_aload_n 0 dX12_near_72 rfl rfl ?_
  refine Ev_callV (As := []) (b := 0) (st := []) (M' := M_X12_endsThought) cm_X12_endsThought wd_1988 wd_1990 wd_144 yM_0 cl_X12 rfl dX12_near_73 (Nat.le_refl _) rfl (Nat.le_of_ble_eq_true rfl) (Nat.le_of_ble_eq_true rfl) h (fun v u h hk => ?_)
  cases hk
  obtain ⟨s1, rfl⟩ : ∃ x, x = u := ⟨_, rfl⟩
  refine Ev_iload 2 dX12_near_76 rfl ?_
  refine Ev_bipushC dX12_near_78 rfl ?_
  refine Ev_icmp_le (tgt := 87) dX12_near_80 rfl (fun c => ?_) (fun c => ?_)
  · replace h := h.1 c
    refine Ev_iload_n 1 dX12_near_87 rfl rfl ?_
    refine Ev_if_ne (tgt := 96) dX12_near_88 rfl (fun c => ?_) (fun c => ?_)
    · replace h := h.1 c
      refine Ev_aload_n 0 dX12_near_96 rfl rfl ?_
      refine Ev_get (i := 59) cl_X12 yM_0 (Nat.le_of_ble_eq_true rfl) rfl wd_1503 dX12_near_97 ?_
      exact Ev_iret rfl dX12_near_100 rfl h
    · replace h := h.2 c
      refine Ev_iload 2 dX12_near_91 rfl ?_
      refine Ev_goto (tgt := 100) dX12_near_93 rfl ?_
      exact Ev_iret rfl dX12_near_100 rfl h
  · replace h := h.2 c
    refine Ev_iconst dX12_near_83 rfl (ev_Rc rfl) ?_
    refine Ev_goto (tgt := 100) dX12_near_84 rfl ?_
    exact Ev_iret rfl dX12_near_100 rfl h
theorem dX12_kept_0 : decode cX12_kept 0 = .ok (.aload_n 0, 1) := by decide +kernel
theorem dX12_kept_1 : decode cX12_kept 1 = .ok (.aload_n 0, 1) := by decide +kernel
theorem dX12_kept_2 : decode cX12_kept 2 = .ok (.getfield 511, 3) := by decide +kernel
theorem dX12_kept_5 : decode cX12_kept 5 = .ok (.iconst 1, 1) := by decide +kernel
theorem dX12_kept_6 : decode cX12_kept 6 = .ok (.iadd, 1) := by decide +kernel
theorem dX12_kept_7 : decode cX12_kept 7 = .ok (.putfield 511, 3) := by decide +kernel
theorem dX12_kept_10 : decode cX12_kept 10 = .ok (.aload_n 0, 1) := by decide +kernel
theorem dX12_kept_11 : decode cX12_kept 11 = .ok (.getfield 514, 3) := by decide +kernel
theorem dX12_kept_14 : decode cX12_kept 14 = .ok (.ifCond .ne 15, 3) := by decide +kernel
theorem dX12_kept_17 : decode cX12_kept 17 = .ok (.aload_n 0, 1) := by decide +kernel
theorem dX12_kept_18 : decode cX12_kept 18 = .ok (.getfield 121, 3) := by decide +kernel
theorem dX12_kept_21 : decode cX12_kept 21 = .ok (.aload_n 0, 1) := by decide +kernel
theorem dX12_kept_22 : decode cX12_kept 22 = .ok (.getfield 511, 3) := by decide +kernel
theorem dX12_kept_25 : decode cX12_kept 25 = .ok (.iconst 1, 1) := by decide +kernel
theorem dX12_kept_26 : decode cX12_kept 26 = .ok (.isub, 1) := by decide +kernel
theorem dX12_kept_27 : decode cX12_kept 27 = .ok (.iaload, 1) := by decide +kernel
theorem dX12_kept_28 : decode cX12_kept 28 = .ok (.ireturn, 1) := by decide +kernel
theorem dX12_kept_29 : decode cX12_kept 29 = .ok (.aload_n 0, 1) := by decide +kernel
theorem dX12_kept_30 : decode cX12_kept 30 = .ok (.getfield 121, 3) := by decide +kernel
theorem dX12_kept_33 : decode cX12_kept 33 = .ok (.aload_n 0, 1) := by decide +kernel
theorem dX12_kept_34 : decode cX12_kept 34 = .ok (.getfield 511, 3) := by decide +kernel
theorem dX12_kept_37 : decode cX12_kept 37 = .ok (.iconst 1, 1) := by decide +kernel
theorem dX12_kept_38 : decode cX12_kept 38 = .ok (.isub, 1) := by decide +kernel
theorem dX12_kept_39 : decode cX12_kept 39 = .ok (.iload_n 1, 1) := by decide +kernel
theorem dX12_kept_40 : decode cX12_kept 40 = .ok (.iastore, 1) := by decide +kernel
theorem dX12_kept_41 : decode cX12_kept 41 = .ok (.iload_n 1, 1) := by decide +kernel
theorem dX12_kept_42 : decode cX12_kept 42 = .ok (.ireturn, 1) := by decide +kernel
theorem wp_X12_kept_0 {d : Nat} {s : ev_S} {Q : Option ev_V → ev_S → Prop} {a1 : Int}
    (h : (∀ s1, ev_up s 0 62 (ev_add (s 0 62) 1) = s1 → (((s1 0 60) ≠ 0 → ((0 ≤ (ev_sub (s1 0 62) 1) ∧ (ev_sub (s1 0 62) 1) < (7200 : Nat)) ∧ ∀ s2, ev_up s1 36 (Int.toNat (ev_sub (s1 0 62) 1)) a1 = s2 → Q (some (ev_i a1)) s2)) ∧ ((s1 0 60) = 0 → ((0 ≤ (ev_sub (s1 0 62) 1) ∧ (ev_sub (s1 0 62) 1) < (7200 : Nat)) ∧ Q (some (ev_i (s1 36 (Int.toNat (ev_sub (s1 0 62) 1))))) s1))))) :
    Ev layM M_X12_kept d 0 [(0, ev_r 0), (1, ev_i a1)] [] s Q := by
  refine Ev_aload_n 0 dX12_kept_0 rfl rfl ?_
  refine Ev_aload_n 0 dX12_kept_1 rfl rfl ?_
  refine Ev_get (i := 62) cl_X12 yM_0 (Nat.le_of_ble_eq_true rfl) rfl wd_1506 dX12_kept_2 ?_
  refine Ev_iconst dX12_kept_5 rfl (ev_Rc rfl) ?_
  refine Ev_iadd dX12_kept_6 ?_
  refine Ev_put (i := 62) (ty := .int) cl_X12 yM_0 (Nat.le_of_ble_eq_true rfl) rfl rfl (by decide +kernel) rfl rfl wd_1506 dX12_kept_7 (Ev_nm (fun s1 es1 => ?_))
  replace h := h s1 es1
  refine Ev_aload_n 0 dX12_kept_10 rfl rfl ?_
  refine Ev_get (i := 60) cl_X12 yM_0 (Nat.le_of_ble_eq_true rfl) rfl wd_1504 dX12_kept_11 ?_
  refine Ev_if_ne (tgt := 29) dX12_kept_14 rfl (fun c => ?_) (fun c => ?_)
  · replace h := h.1 c
    refine Ev_aload_n 0 dX12_kept_29 rfl rfl ?_
    refine Ev_getR (i := 63) cl_X12 yM_0 (Nat.le_of_ble_eq_true rfl) rfl wd_1507 dX12_kept_30 ?_
    refine Ev_aload_n 0 dX12_kept_33 rfl rfl ?_
    refine Ev_get (i := 62) cl_X12 yM_0 (Nat.le_of_ble_eq_true rfl) rfl wd_1506 dX12_kept_34 ?_
    refine Ev_iconst dX12_kept_37 rfl (ev_Rc rfl) ?_
    refine Ev_isub dX12_kept_38 ?_
    refine Ev_iload_n 1 dX12_kept_39 rfl rfl ?_
    obtain ⟨h0, h⟩ := h
    refine Ev_iast yM_36 h0 dX12_kept_40 (Ev_nm (fun s2 es2 => ?_))
    replace h := h s2 es2
    refine Ev_iload_n 1 dX12_kept_41 rfl rfl ?_
    exact Ev_iret rfl dX12_kept_42 rfl h
  · replace h := h.2 c
    refine Ev_aload_n 0 dX12_kept_17 rfl rfl ?_
    refine Ev_getR (i := 63) cl_X12 yM_0 (Nat.le_of_ble_eq_true rfl) rfl wd_1507 dX12_kept_18 ?_
    refine Ev_aload_n 0 dX12_kept_21 rfl rfl ?_
    refine Ev_get (i := 62) cl_X12 yM_0 (Nat.le_of_ble_eq_true rfl) rfl wd_1506 dX12_kept_22 ?_
    refine Ev_iconst dX12_kept_25 rfl (ev_Rc rfl) ?_
    refine Ev_isub dX12_kept_26 ?_
    obtain ⟨h0, h⟩ := h
    refine Ev_iald yM_36 h0 dX12_kept_27 ?_
    exact Ev_iret rfl dX12_kept_28 rfl h
theorem dX12_keepsLaw_0 : decode cX12_keepsLaw 0 = .ok (.aload_n 0, 1) := by decide +kernel
theorem dX12_keepsLaw_1 : decode cX12_keepsLaw 1 = .ok (.aload_n 0, 1) := by decide +kernel
theorem dX12_keepsLaw_2 : decode cX12_keepsLaw 2 = .ok (.aload_n 0, 1) := by decide +kernel
theorem dX12_keepsLaw_3 : decode cX12_keepsLaw 3 = .ok (.getfield 168, 3) := by decide +kernel
theorem dX12_keepsLaw_6 : decode cX12_keepsLaw 6 = .ok (.invokevirtual 517, 3) := by decide +kernel
theorem dX12_keepsLaw_9 : decode cX12_keepsLaw 9 = .ok (.putfield 168, 3) := by decide +kernel
theorem dX12_keepsLaw_12 : decode cX12_keepsLaw 12 = .ok (.iconst 0, 1) := by decide +kernel
theorem dX12_keepsLaw_13 : decode cX12_keepsLaw 13 = .ok (.istore_n 1, 1) := by decide +kernel
theorem dX12_keepsLaw_14 : decode cX12_keepsLaw 14 = .ok (.iload_n 1, 1) := by decide +kernel
theorem dX12_keepsLaw_15 : decode cX12_keepsLaw 15 = .ok (.bipush 16, 2) := by decide +kernel
theorem dX12_keepsLaw_17 : decode cX12_keepsLaw 17 = .ok (.if_icmp .ge 57, 3) := by decide +kernel
theorem dX12_keepsLaw_20 : decode cX12_keepsLaw 20 = .ok (.aload_n 0, 1) := by decide +kernel
theorem dX12_keepsLaw_21 : decode cX12_keepsLaw 21 = .ok (.getfield 43, 3) := by decide +kernel
theorem dX12_keepsLaw_24 : decode cX12_keepsLaw 24 = .ok (.iload_n 1, 1) := by decide +kernel
theorem dX12_keepsLaw_25 : decode cX12_keepsLaw 25 = .ok (.aload_n 0, 1) := by decide +kernel
theorem dX12_keepsLaw_26 : decode cX12_keepsLaw 26 = .ok (.aload_n 0, 1) := by decide +kernel
theorem dX12_keepsLaw_27 : decode cX12_keepsLaw 27 = .ok (.getfield 43, 3) := by decide +kernel
theorem dX12_keepsLaw_30 : decode cX12_keepsLaw 30 = .ok (.iload_n 1, 1) := by decide +kernel
theorem dX12_keepsLaw_31 : decode cX12_keepsLaw 31 = .ok (.iaload, 1) := by decide +kernel
theorem dX12_keepsLaw_32 : decode cX12_keepsLaw 32 = .ok (.invokevirtual 517, 3) := by decide +kernel
theorem dX12_keepsLaw_35 : decode cX12_keepsLaw 35 = .ok (.iastore, 1) := by decide +kernel
theorem dX12_keepsLaw_36 : decode cX12_keepsLaw 36 = .ok (.aload_n 0, 1) := by decide +kernel
theorem dX12_keepsLaw_37 : decode cX12_keepsLaw 37 = .ok (.getfield 46, 3) := by decide +kernel
theorem dX12_keepsLaw_40 : decode cX12_keepsLaw 40 = .ok (.iload_n 1, 1) := by decide +kernel
theorem dX12_keepsLaw_41 : decode cX12_keepsLaw 41 = .ok (.aload_n 0, 1) := by decide +kernel
theorem dX12_keepsLaw_42 : decode cX12_keepsLaw 42 = .ok (.aload_n 0, 1) := by decide +kernel
theorem dX12_keepsLaw_43 : decode cX12_keepsLaw 43 = .ok (.getfield 46, 3) := by decide +kernel
theorem dX12_keepsLaw_46 : decode cX12_keepsLaw 46 = .ok (.iload_n 1, 1) := by decide +kernel
theorem dX12_keepsLaw_47 : decode cX12_keepsLaw 47 = .ok (.iaload, 1) := by decide +kernel
theorem dX12_keepsLaw_48 : decode cX12_keepsLaw 48 = .ok (.invokevirtual 517, 3) := by decide +kernel
theorem dX12_keepsLaw_51 : decode cX12_keepsLaw 51 = .ok (.iastore, 1) := by decide +kernel
theorem dX12_keepsLaw_52 : decode cX12_keepsLaw 52 = .ok (.aload_n 0, 1) := by decide +kernel
theorem dX12_keepsLaw_53 : decode cX12_keepsLaw 53 = .ok (.getfield 49, 3) := by decide +kernel
theorem dX12_keepsLaw_56 : decode cX12_keepsLaw 56 = .ok (.iload_n 1, 1) := by decide +kernel
theorem dX12_keepsLaw_57 : decode cX12_keepsLaw 57 = .ok (.aload_n 0, 1) := by decide +kernel
theorem dX12_keepsLaw_58 : decode cX12_keepsLaw 58 = .ok (.aload_n 0, 1) := by decide +kernel
theorem dX12_keepsLaw_59 : decode cX12_keepsLaw 59 = .ok (.getfield 49, 3) := by decide +kernel
theorem dX12_keepsLaw_62 : decode cX12_keepsLaw 62 = .ok (.iload_n 1, 1) := by decide +kernel
theorem dX12_keepsLaw_63 : decode cX12_keepsLaw 63 = .ok (.iaload, 1) := by decide +kernel
theorem dX12_keepsLaw_64 : decode cX12_keepsLaw 64 = .ok (.invokevirtual 517, 3) := by decide +kernel
theorem dX12_keepsLaw_67 : decode cX12_keepsLaw 67 = .ok (.iastore, 1) := by decide +kernel
theorem dX12_keepsLaw_68 : decode cX12_keepsLaw 68 = .ok (.iinc 1 1, 3) := by decide +kernel
theorem dX12_keepsLaw_71 : decode cX12_keepsLaw 71 = .ok (.goto (-57), 3) := by decide +kernel
theorem dX12_keepsLaw_74 : decode cX12_keepsLaw 74 = .ok (.iconst 0, 1) := by decide +kernel
theorem dX12_keepsLaw_75 : decode cX12_keepsLaw 75 = .ok (.istore_n 1, 1) := by decide +kernel
theorem dX12_keepsLaw_76 : decode cX12_keepsLaw 76 = .ok (.iload_n 1, 1) := by decide +kernel
theorem dX12_keepsLaw_77 : decode cX12_keepsLaw 77 = .ok (.sipush 400, 3) := by decide +kernel
theorem dX12_keepsLaw_80 : decode cX12_keepsLaw 80 = .ok (.if_icmp .ge 41, 3) := by decide +kernel
theorem dX12_keepsLaw_83 : decode cX12_keepsLaw 83 = .ok (.aload_n 0, 1) := by decide +kernel
theorem dX12_keepsLaw_84 : decode cX12_keepsLaw 84 = .ok (.getfield 52, 3) := by decide +kernel
theorem dX12_keepsLaw_87 : decode cX12_keepsLaw 87 = .ok (.iload_n 1, 1) := by decide +kernel
theorem dX12_keepsLaw_88 : decode cX12_keepsLaw 88 = .ok (.aload_n 0, 1) := by decide +kernel
theorem dX12_keepsLaw_89 : decode cX12_keepsLaw 89 = .ok (.aload_n 0, 1) := by decide +kernel
theorem dX12_keepsLaw_90 : decode cX12_keepsLaw 90 = .ok (.getfield 52, 3) := by decide +kernel
theorem dX12_keepsLaw_93 : decode cX12_keepsLaw 93 = .ok (.iload_n 1, 1) := by decide +kernel
theorem dX12_keepsLaw_94 : decode cX12_keepsLaw 94 = .ok (.iaload, 1) := by decide +kernel
theorem dX12_keepsLaw_95 : decode cX12_keepsLaw 95 = .ok (.invokevirtual 517, 3) := by decide +kernel
theorem dX12_keepsLaw_98 : decode cX12_keepsLaw 98 = .ok (.iastore, 1) := by decide +kernel
theorem dX12_keepsLaw_99 : decode cX12_keepsLaw 99 = .ok (.aload_n 0, 1) := by decide +kernel
theorem dX12_keepsLaw_100 : decode cX12_keepsLaw 100 = .ok (.getfield 55, 3) := by decide +kernel
theorem dX12_keepsLaw_103 : decode cX12_keepsLaw 103 = .ok (.iload_n 1, 1) := by decide +kernel
theorem dX12_keepsLaw_104 : decode cX12_keepsLaw 104 = .ok (.aload_n 0, 1) := by decide +kernel
theorem dX12_keepsLaw_105 : decode cX12_keepsLaw 105 = .ok (.aload_n 0, 1) := by decide +kernel
theorem dX12_keepsLaw_106 : decode cX12_keepsLaw 106 = .ok (.getfield 55, 3) := by decide +kernel
theorem dX12_keepsLaw_109 : decode cX12_keepsLaw 109 = .ok (.iload_n 1, 1) := by decide +kernel
theorem dX12_keepsLaw_110 : decode cX12_keepsLaw 110 = .ok (.iaload, 1) := by decide +kernel
theorem dX12_keepsLaw_111 : decode cX12_keepsLaw 111 = .ok (.invokevirtual 517, 3) := by decide +kernel
theorem dX12_keepsLaw_114 : decode cX12_keepsLaw 114 = .ok (.iastore, 1) := by decide +kernel
theorem dX12_keepsLaw_115 : decode cX12_keepsLaw 115 = .ok (.iinc 1 1, 3) := by decide +kernel
theorem dX12_keepsLaw_118 : decode cX12_keepsLaw 118 = .ok (.goto (-42), 3) := by decide +kernel
theorem dX12_keepsLaw_121 : decode cX12_keepsLaw 121 = .ok (.return_, 1) := by decide +kernel
theorem wp_X12_keepsLaw_0 {d : Nat} {s : ev_S} {Q : Option ev_V → ev_S → Prop}
    (h : (Ev layM M_X12_kept d 0 [(0, ev_r 0), (1, ev_i (s 0 25))] [] s (ev_pi (fun r2 s1 => (∀ s3, ev_up s1 0 25 r2 = s3 → Ev layM M_X12_keepsLaw (d + 1) 14 [(0, ev_r 0), (1, ev_i 0)] [] s3 Q))))) :
    Ev layM M_X12_keepsLaw (d + 1) 0 [(0, ev_r 0)] [] s Q := by
  refine Ev_aload_n 0 dX12_keepsLaw_0 rfl rfl ?_
  refine Ev_aload_n 0 dX12_keepsLaw_1 rfl rfl ?_
  refine Ev_aload_n 0 dX12_keepsLaw_2 rfl rfl ?_
  refine Ev_get (i := 25) cl_X12 yM_0 (Nat.le_of_ble_eq_true rfl) rfl wd_1469 dX12_keepsLaw_3 ?_
  refine Ev_callV (As := [ev_i (s 0 25)]) (b := 0) (st := [ev_r 0]) (M' := M_X12_kept) cm_X12_kept wd_2134 wd_2136 wd_169 yM_0 cl_X12 rfl dX12_keepsLaw_6 (Nat.le_refl _) rfl (Nat.le_of_ble_eq_true rfl) (Nat.le_of_ble_eq_true rfl) h (fun v u h hk => ?_)
  obtain ⟨r2, rfl⟩ := hk
  obtain ⟨s1, rfl⟩ : ∃ x, x = u := ⟨_, rfl⟩
  replace h := h r2 rfl
  refine Ev_put (i := 25) (ty := .int) cl_X12 yM_0 (Nat.le_of_ble_eq_true rfl) rfl rfl (by decide +kernel) rfl rfl wd_1469 dX12_keepsLaw_9 (Ev_nm (fun s3 es3 => ?_))
  replace h := h s3 es3
  refine Ev_iconst dX12_keepsLaw_12 rfl (ev_Rc rfl) ?_
  refine Ev_istore_n (l' := [(1, ev_i 0), (0, ev_r 0)]) dX12_keepsLaw_13 rfl (Nat.le_of_ble_eq_true rfl) rfl ?_
  exact Ev_sub [1, 0] rfl h
theorem wp_X12_keepsLaw_14 {d : Nat} {s : ev_S} {Q : Option ev_V → ev_S → Prop} {a1 : Int}
    (h : ((16 ≤ a1 → Ev layM M_X12_keepsLaw (d + 1) 76 [(0, ev_r 0), (1, ev_i 0)] [] s Q) ∧ (a1 < 16 → ((0 ≤ a1 ∧ a1 < (32 : Nat)) ∧ (Ev layM M_X12_kept d 0 [(0, ev_r 0), (1, ev_i (s 12 (Int.toNat a1)))] [] s (ev_pi (fun r2 s1 => ((0 ≤ a1 ∧ a1 < (32 : Nat)) ∧ ∀ s3, ev_up s1 12 (Int.toNat a1) r2 = s3 → ((0 ≤ a1 ∧ a1 < (32 : Nat)) ∧ (Ev layM M_X12_kept d 0 [(0, ev_r 0), (1, ev_i (s3 13 (Int.toNat a1)))] [] s3 (ev_pi (fun r5 s4 => ((0 ≤ a1 ∧ a1 < (32 : Nat)) ∧ ∀ s6, ev_up s4 13 (Int.toNat a1) r5 = s6 → ((0 ≤ a1 ∧ a1 < (32 : Nat)) ∧ (Ev layM M_X12_kept d 0 [(0, ev_r 0), (1, ev_i (s6 14 (Int.toNat a1)))] [] s6 (ev_pi (fun r8 s7 => ((0 ≤ a1 ∧ a1 < (32 : Nat)) ∧ ∀ s9, ev_up s7 14 (Int.toNat a1) r8 = s9 → Ev layM M_X12_keepsLaw (d + 1) 14 [(0, ev_r 0), (1, ev_i (ev_add a1 1))] [] s9 Q)))))))))))))))))) :
    Ev layM M_X12_keepsLaw (d + 1) 14 [(0, ev_r 0), (1, ev_i a1)] [] s Q := by
  refine Ev_iload_n 1 dX12_keepsLaw_14 rfl rfl ?_
  refine Ev_bipushC dX12_keepsLaw_15 rfl ?_
  refine Ev_icmp_ge (tgt := 74) dX12_keepsLaw_17 rfl (fun c => ?_) (fun c => ?_)
  · replace h := h.1 c
    refine Ev_iconst dX12_keepsLaw_74 rfl (ev_Rc rfl) ?_
    refine Ev_istore_n (l' := [(1, ev_i 0), (0, ev_r 0)]) dX12_keepsLaw_75 rfl (Nat.le_of_ble_eq_true rfl) rfl ?_
    exact Ev_sub [1, 0] rfl h
  · replace h := h.2 c
    refine Ev_aload_n 0 dX12_keepsLaw_20 rfl rfl ?_
    refine Ev_getR (i := 26) cl_X12 yM_0 (Nat.le_of_ble_eq_true rfl) rfl wd_1470 dX12_keepsLaw_21 ?_
    refine Ev_iload_n 1 dX12_keepsLaw_24 rfl rfl ?_
    refine Ev_aload_n 0 dX12_keepsLaw_25 rfl rfl ?_
    refine Ev_aload_n 0 dX12_keepsLaw_26 rfl rfl ?_
    refine Ev_getR (i := 26) cl_X12 yM_0 (Nat.le_of_ble_eq_true rfl) rfl wd_1470 dX12_keepsLaw_27 ?_
    refine Ev_iload_n 1 dX12_keepsLaw_30 rfl rfl ?_
    obtain ⟨h0, h⟩ := h
    refine Ev_iald yM_12 h0 dX12_keepsLaw_31 ?_
    refine Ev_callV (As := [ev_i (s 12 (Int.toNat a1))]) (b := 0) (st := [ev_i a1, ev_r 12]) (M' := M_X12_kept) cm_X12_kept wd_2134 wd_2136 wd_169 yM_0 cl_X12 rfl dX12_keepsLaw_32 (Nat.le_refl _) rfl (Nat.le_of_ble_eq_true rfl) (Nat.le_of_ble_eq_true rfl) h (fun v u h hk => ?_)
    obtain ⟨r2, rfl⟩ := hk
    obtain ⟨s1, rfl⟩ : ∃ x, x = u := ⟨_, rfl⟩
    replace h := h r2 rfl
    obtain ⟨h0, h⟩ := h
    refine Ev_iast yM_12 h0 dX12_keepsLaw_35 (Ev_nm (fun s3 es3 => ?_))
    replace h := h s3 es3
    refine Ev_aload_n 0 dX12_keepsLaw_36 rfl rfl ?_
    refine Ev_getR (i := 27) cl_X12 yM_0 (Nat.le_of_ble_eq_true rfl) rfl wd_1471 dX12_keepsLaw_37 ?_
    refine Ev_iload_n 1 dX12_keepsLaw_40 rfl rfl ?_
    refine Ev_aload_n 0 dX12_keepsLaw_41 rfl rfl ?_
    refine Ev_aload_n 0 dX12_keepsLaw_42 rfl rfl ?_
    refine Ev_getR (i := 27) cl_X12 yM_0 (Nat.le_of_ble_eq_true rfl) rfl wd_1471 dX12_keepsLaw_43 ?_
    refine Ev_iload_n 1 dX12_keepsLaw_46 rfl rfl ?_
    obtain ⟨h0, h⟩ := h
    refine Ev_iald yM_13 h0 dX12_keepsLaw_47 ?_
    refine Ev_callV (As := [ev_i (s3 13 (Int.toNat a1))]) (b := 0) (st := [ev_i a1, ev_r 13]) (M' := M_X12_kept) cm_X12_kept wd_2134 wd_2136 wd_169 yM_0 cl_X12 rfl dX12_keepsLaw_48 (Nat.le_refl _) rfl (Nat.le_of_ble_eq_true rfl) (Nat.le_of_ble_eq_true rfl) h (fun v u h hk => ?_)
    obtain ⟨r5, rfl⟩ := hk
    obtain ⟨s4, rfl⟩ : ∃ x, x = u := ⟨_, rfl⟩
    replace h := h r5 rfl
    obtain ⟨h0, h⟩ := h
    refine Ev_iast yM_13 h0 dX12_keepsLaw_51 (Ev_nm (fun s6 es6 => ?_))
    replace h := h s6 es6
    refine Ev_aload_n 0 dX12_keepsLaw_52 rfl rfl ?_
    refine Ev_getR (i := 28) cl_X12 yM_0 (Nat.le_of_ble_eq_true rfl) rfl wd_1472 dX12_keepsLaw_53 ?_
    refine Ev_iload_n 1 dX12_keepsLaw_56 rfl rfl ?_
    refine Ev_aload_n 0 dX12_keepsLaw_57 rfl rfl ?_
    refine Ev_aload_n 0 dX12_keepsLaw_58 rfl rfl ?_
    refine Ev_getR (i := 28) cl_X12 yM_0 (Nat.le_of_ble_eq_true rfl) rfl wd_1472 dX12_keepsLaw_59 ?_
    refine Ev_iload_n 1 dX12_keepsLaw_62 rfl rfl ?_
    obtain ⟨h0, h⟩ := h
    refine Ev_iald yM_14 h0 dX12_keepsLaw_63 ?_
    refine Ev_callV (As := [ev_i (s6 14 (Int.toNat a1))]) (b := 0) (st := [ev_i a1, ev_r 14]) (M' := M_X12_kept) cm_X12_kept wd_2134 wd_2136 wd_169 yM_0 cl_X12 rfl dX12_keepsLaw_64 (Nat.le_refl _) rfl (Nat.le_of_ble_eq_true rfl) (Nat.le_of_ble_eq_true rfl) h (fun v u h hk => ?_)
    obtain ⟨r8, rfl⟩ := hk
    obtain ⟨s7, rfl⟩ : ∃ x, x = u := ⟨_, rfl⟩
    replace h := h r8 rfl
    obtain ⟨h0, h⟩ := h
    refine Ev_iast yM_14 h0 dX12_keepsLaw_67 (Ev_nm (fun s9 es9 => ?_))
    replace h := h s9 es9
    refine Ev_iinc (j := 1) (l' := [(1, ev_i (ev_add a1 1)), (0, ev_r 0)]) dX12_keepsLaw_68 rfl (Nat.le_of_ble_eq_true rfl) rfl ?_
    refine Ev_goto (tgt := 14) dX12_keepsLaw_71 rfl ?_
    exact Ev_sub [1, 0] rfl h
theorem wp_X12_keepsLaw_76 {d : Nat} {s : ev_S} {Q : Option ev_V → ev_S → Prop} {a1 : Int}
    (h : ((400 ≤ a1 → Q none s) ∧ (a1 < 400 → ((0 ≤ a1 ∧ a1 < (800 : Nat)) ∧ (Ev layM M_X12_kept d 0 [(0, ev_r 0), (1, ev_i (s 15 (Int.toNat a1)))] [] s (ev_pi (fun r2 s1 => ((0 ≤ a1 ∧ a1 < (800 : Nat)) ∧ ∀ s3, ev_up s1 15 (Int.toNat a1) r2 = s3 → ((0 ≤ a1 ∧ a1 < (800 : Nat)) ∧ (Ev layM M_X12_kept d 0 [(0, ev_r 0), (1, ev_i (s3 16 (Int.toNat a1)))] [] s3 (ev_pi (fun r5 s4 => ((0 ≤ a1 ∧ a1 < (800 : Nat)) ∧ ∀ s6, ev_up s4 16 (Int.toNat a1) r5 = s6 → Ev layM M_X12_keepsLaw (d + 1) 76 [(0, ev_r 0), (1, ev_i (ev_add a1 1))] [] s6 Q))))))))))))) :
    Ev layM M_X12_keepsLaw (d + 1) 76 [(0, ev_r 0), (1, ev_i a1)] [] s Q := by
  refine Ev_iload_n 1 dX12_keepsLaw_76 rfl rfl ?_
  refine Ev_sipushC dX12_keepsLaw_77 rfl ?_
  refine Ev_icmp_ge (tgt := 121) dX12_keepsLaw_80 rfl (fun c => ?_) (fun c => ?_)
  · replace h := h.1 c
    exact Ev_vret rfl dX12_keepsLaw_121 h
  · replace h := h.2 c
    refine Ev_aload_n 0 dX12_keepsLaw_83 rfl rfl ?_
    refine Ev_getR (i := 29) cl_X12 yM_0 (Nat.le_of_ble_eq_true rfl) rfl wd_1473 dX12_keepsLaw_84 ?_
    refine Ev_iload_n 1 dX12_keepsLaw_87 rfl rfl ?_
    refine Ev_aload_n 0 dX12_keepsLaw_88 rfl rfl ?_
    refine Ev_aload_n 0 dX12_keepsLaw_89 rfl rfl ?_
    refine Ev_getR (i := 29) cl_X12 yM_0 (Nat.le_of_ble_eq_true rfl) rfl wd_1473 dX12_keepsLaw_90 ?_
    refine Ev_iload_n 1 dX12_keepsLaw_93 rfl rfl ?_
    obtain ⟨h0, h⟩ := h
    refine Ev_iald yM_15 h0 dX12_keepsLaw_94 ?_
    refine Ev_callV (As := [ev_i (s 15 (Int.toNat a1))]) (b := 0) (st := [ev_i a1, ev_r 15]) (M' := M_X12_kept) cm_X12_kept wd_2134 wd_2136 wd_169 yM_0 cl_X12 rfl dX12_keepsLaw_95 (Nat.le_refl _) rfl (Nat.le_of_ble_eq_true rfl) (Nat.le_of_ble_eq_true rfl) h (fun v u h hk => ?_)
    obtain ⟨r2, rfl⟩ := hk
    obtain ⟨s1, rfl⟩ : ∃ x, x = u := ⟨_, rfl⟩
    replace h := h r2 rfl
    obtain ⟨h0, h⟩ := h
    refine Ev_iast yM_15 h0 dX12_keepsLaw_98 (Ev_nm (fun s3 es3 => ?_))
    replace h := h s3 es3
    refine Ev_aload_n 0 dX12_keepsLaw_99 rfl rfl ?_
    refine Ev_getR (i := 30) cl_X12 yM_0 (Nat.le_of_ble_eq_true rfl) rfl wd_1474 dX12_keepsLaw_100 ?_
    refine Ev_iload_n 1 dX12_keepsLaw_103 rfl rfl ?_
    refine Ev_aload_n 0 dX12_keepsLaw_104 rfl rfl ?_
    refine Ev_aload_n 0 dX12_keepsLaw_105 rfl rfl ?_
    refine Ev_getR (i := 30) cl_X12 yM_0 (Nat.le_of_ble_eq_true rfl) rfl wd_1474 dX12_keepsLaw_106 ?_
    refine Ev_iload_n 1 dX12_keepsLaw_109 rfl rfl ?_
    obtain ⟨h0, h⟩ := h
    refine Ev_iald yM_16 h0 dX12_keepsLaw_110 ?_
    refine Ev_callV (As := [ev_i (s3 16 (Int.toNat a1))]) (b := 0) (st := [ev_i a1, ev_r 16]) (M' := M_X12_kept) cm_X12_kept wd_2134 wd_2136 wd_169 yM_0 cl_X12 rfl dX12_keepsLaw_111 (Nat.le_refl _) rfl (Nat.le_of_ble_eq_true rfl) (Nat.le_of_ble_eq_true rfl) h (fun v u h hk => ?_)
    obtain ⟨r5, rfl⟩ := hk
    obtain ⟨s4, rfl⟩ : ∃ x, x = u := ⟨_, rfl⟩
    replace h := h r5 rfl
    obtain ⟨h0, h⟩ := h
    refine Ev_iast yM_16 h0 dX12_keepsLaw_114 (Ev_nm (fun s6 es6 => ?_))
    replace h := h s6 es6
    refine Ev_iinc (j := 1) (l' := [(1, ev_i (ev_add a1 1)), (0, ev_r 0)]) dX12_keepsLaw_115 rfl (Nat.le_of_ble_eq_true rfl) rfl ?_
    refine Ev_goto (tgt := 76) dX12_keepsLaw_118 rfl ?_
    exact Ev_sub [1, 0] rfl h
theorem dX12_keepsTown_0 : decode cX12_keepsTown 0 = .ok (.aload_n 0, 1) := by decide +kernel
theorem dX12_keepsTown_1 : decode cX12_keepsTown 1 = .ok (.aload_n 0, 1) := by decide +kernel
theorem dX12_keepsTown_2 : decode cX12_keepsTown 2 = .ok (.aload_n 0, 1) := by decide +kernel
theorem dX12_keepsTown_3 : decode cX12_keepsTown 3 = .ok (.getfield 139, 3) := by decide +kernel
theorem dX12_keepsTown_6 : decode cX12_keepsTown 6 = .ok (.invokevirtual 517, 3) := by decide +kernel
theorem dX12_keepsTown_9 : decode cX12_keepsTown 9 = .ok (.putfield 139, 3) := by decide +kernel
theorem dX12_keepsTown_12 : decode cX12_keepsTown 12 = .ok (.aload_n 0, 1) := by decide +kernel
theorem dX12_keepsTown_13 : decode cX12_keepsTown 13 = .ok (.aload_n 0, 1) := by decide +kernel
theorem dX12_keepsTown_14 : decode cX12_keepsTown 14 = .ok (.aload_n 0, 1) := by decide +kernel
theorem dX12_keepsTown_15 : decode cX12_keepsTown 15 = .ok (.getfield 142, 3) := by decide +kernel
theorem dX12_keepsTown_18 : decode cX12_keepsTown 18 = .ok (.invokevirtual 517, 3) := by decide +kernel
theorem dX12_keepsTown_21 : decode cX12_keepsTown 21 = .ok (.putfield 142, 3) := by decide +kernel
theorem dX12_keepsTown_24 : decode cX12_keepsTown 24 = .ok (.aload_n 0, 1) := by decide +kernel
theorem dX12_keepsTown_25 : decode cX12_keepsTown 25 = .ok (.aload_n 0, 1) := by decide +kernel
theorem dX12_keepsTown_26 : decode cX12_keepsTown 26 = .ok (.aload_n 0, 1) := by decide +kernel
theorem dX12_keepsTown_27 : decode cX12_keepsTown 27 = .ok (.getfield 151, 3) := by decide +kernel
theorem dX12_keepsTown_30 : decode cX12_keepsTown 30 = .ok (.invokevirtual 517, 3) := by decide +kernel
theorem dX12_keepsTown_33 : decode cX12_keepsTown 33 = .ok (.putfield 151, 3) := by decide +kernel
theorem dX12_keepsTown_36 : decode cX12_keepsTown 36 = .ok (.iconst 0, 1) := by decide +kernel
theorem dX12_keepsTown_37 : decode cX12_keepsTown 37 = .ok (.istore_n 1, 1) := by decide +kernel
theorem dX12_keepsTown_38 : decode cX12_keepsTown 38 = .ok (.iload_n 1, 1) := by decide +kernel
theorem dX12_keepsTown_39 : decode cX12_keepsTown 39 = .ok (.iconst 5, 1) := by decide +kernel
theorem dX12_keepsTown_40 : decode cX12_keepsTown 40 = .ok (.if_icmp .ge 25, 3) := by decide +kernel
theorem dX12_keepsTown_43 : decode cX12_keepsTown 43 = .ok (.aload_n 0, 1) := by decide +kernel
theorem dX12_keepsTown_44 : decode cX12_keepsTown 44 = .ok (.getfield 19, 3) := by decide +kernel
theorem dX12_keepsTown_47 : decode cX12_keepsTown 47 = .ok (.iload_n 1, 1) := by decide +kernel
theorem dX12_keepsTown_48 : decode cX12_keepsTown 48 = .ok (.aload_n 0, 1) := by decide +kernel
theorem dX12_keepsTown_49 : decode cX12_keepsTown 49 = .ok (.aload_n 0, 1) := by decide +kernel
theorem dX12_keepsTown_50 : decode cX12_keepsTown 50 = .ok (.getfield 19, 3) := by decide +kernel
theorem dX12_keepsTown_53 : decode cX12_keepsTown 53 = .ok (.iload_n 1, 1) := by decide +kernel
theorem dX12_keepsTown_54 : decode cX12_keepsTown 54 = .ok (.iaload, 1) := by decide +kernel
theorem dX12_keepsTown_55 : decode cX12_keepsTown 55 = .ok (.invokevirtual 517, 3) := by decide +kernel
theorem dX12_keepsTown_58 : decode cX12_keepsTown 58 = .ok (.iastore, 1) := by decide +kernel
theorem dX12_keepsTown_59 : decode cX12_keepsTown 59 = .ok (.iinc 1 1, 3) := by decide +kernel
theorem dX12_keepsTown_62 : decode cX12_keepsTown 62 = .ok (.goto (-24), 3) := by decide +kernel
theorem dX12_keepsTown_65 : decode cX12_keepsTown 65 = .ok (.aload_n 0, 1) := by decide +kernel
theorem dX12_keepsTown_66 : decode cX12_keepsTown 66 = .ok (.aload_n 0, 1) := by decide +kernel
theorem dX12_keepsTown_67 : decode cX12_keepsTown 67 = .ok (.aload_n 0, 1) := by decide +kernel
theorem dX12_keepsTown_68 : decode cX12_keepsTown 68 = .ok (.getfield 145, 3) := by decide +kernel
theorem dX12_keepsTown_71 : decode cX12_keepsTown 71 = .ok (.invokevirtual 517, 3) := by decide +kernel
theorem dX12_keepsTown_74 : decode cX12_keepsTown 74 = .ok (.putfield 145, 3) := by decide +kernel
theorem dX12_keepsTown_77 : decode cX12_keepsTown 77 = .ok (.aload_n 0, 1) := by decide +kernel
theorem dX12_keepsTown_78 : decode cX12_keepsTown 78 = .ok (.aload_n 0, 1) := by decide +kernel
theorem dX12_keepsTown_79 : decode cX12_keepsTown 79 = .ok (.aload_n 0, 1) := by decide +kernel
theorem dX12_keepsTown_80 : decode cX12_keepsTown 80 = .ok (.getfield 148, 3) := by decide +kernel
theorem dX12_keepsTown_83 : decode cX12_keepsTown 83 = .ok (.invokevirtual 517, 3) := by decide +kernel
theorem dX12_keepsTown_86 : decode cX12_keepsTown 86 = .ok (.putfield 148, 3) := by decide +kernel
theorem dX12_keepsTown_89 : decode cX12_keepsTown 89 = .ok (.aload_n 0, 1) := by decide +kernel
theorem dX12_keepsTown_90 : decode cX12_keepsTown 90 = .ok (.aload_n 0, 1) := by decide +kernel
theorem dX12_keepsTown_91 : decode cX12_keepsTown 91 = .ok (.aload_n 0, 1) := by decide +kernel
theorem dX12_keepsTown_92 : decode cX12_keepsTown 92 = .ok (.getfield 162, 3) := by decide +kernel
theorem dX12_keepsTown_95 : decode cX12_keepsTown 95 = .ok (.invokevirtual 517, 3) := by decide +kernel
theorem dX12_keepsTown_98 : decode cX12_keepsTown 98 = .ok (.putfield 162, 3) := by decide +kernel
theorem dX12_keepsTown_101 : decode cX12_keepsTown 101 = .ok (.iconst 0, 1) := by decide +kernel
theorem dX12_keepsTown_102 : decode cX12_keepsTown 102 = .ok (.istore_n 1, 1) := by decide +kernel
theorem dX12_keepsTown_103 : decode cX12_keepsTown 103 = .ok (.iload_n 1, 1) := by decide +kernel
theorem dX12_keepsTown_104 : decode cX12_keepsTown 104 = .ok (.bipush 6, 2) := by decide +kernel
theorem dX12_keepsTown_106 : decode cX12_keepsTown 106 = .ok (.if_icmp .ge 57, 3) := by decide +kernel
theorem dX12_keepsTown_109 : decode cX12_keepsTown 109 = .ok (.aload_n 0, 1) := by decide +kernel
theorem dX12_keepsTown_110 : decode cX12_keepsTown 110 = .ok (.getfield 25, 3) := by decide +kernel
theorem dX12_keepsTown_113 : decode cX12_keepsTown 113 = .ok (.iload_n 1, 1) := by decide +kernel
theorem dX12_keepsTown_114 : decode cX12_keepsTown 114 = .ok (.aload_n 0, 1) := by decide +kernel
theorem dX12_keepsTown_115 : decode cX12_keepsTown 115 = .ok (.aload_n 0, 1) := by decide +kernel
theorem dX12_keepsTown_116 : decode cX12_keepsTown 116 = .ok (.getfield 25, 3) := by decide +kernel
theorem dX12_keepsTown_119 : decode cX12_keepsTown 119 = .ok (.iload_n 1, 1) := by decide +kernel
theorem dX12_keepsTown_120 : decode cX12_keepsTown 120 = .ok (.iaload, 1) := by decide +kernel
theorem dX12_keepsTown_121 : decode cX12_keepsTown 121 = .ok (.invokevirtual 517, 3) := by decide +kernel
theorem dX12_keepsTown_124 : decode cX12_keepsTown 124 = .ok (.iastore, 1) := by decide +kernel
theorem dX12_keepsTown_125 : decode cX12_keepsTown 125 = .ok (.aload_n 0, 1) := by decide +kernel
theorem dX12_keepsTown_126 : decode cX12_keepsTown 126 = .ok (.getfield 28, 3) := by decide +kernel
theorem dX12_keepsTown_129 : decode cX12_keepsTown 129 = .ok (.iload_n 1, 1) := by decide +kernel
theorem dX12_keepsTown_130 : decode cX12_keepsTown 130 = .ok (.aload_n 0, 1) := by decide +kernel
theorem dX12_keepsTown_131 : decode cX12_keepsTown 131 = .ok (.aload_n 0, 1) := by decide +kernel
theorem dX12_keepsTown_132 : decode cX12_keepsTown 132 = .ok (.getfield 28, 3) := by decide +kernel
theorem dX12_keepsTown_135 : decode cX12_keepsTown 135 = .ok (.iload_n 1, 1) := by decide +kernel
theorem dX12_keepsTown_136 : decode cX12_keepsTown 136 = .ok (.iaload, 1) := by decide +kernel
theorem dX12_keepsTown_137 : decode cX12_keepsTown 137 = .ok (.invokevirtual 517, 3) := by decide +kernel
theorem dX12_keepsTown_140 : decode cX12_keepsTown 140 = .ok (.iastore, 1) := by decide +kernel
theorem dX12_keepsTown_141 : decode cX12_keepsTown 141 = .ok (.aload_n 0, 1) := by decide +kernel
theorem dX12_keepsTown_142 : decode cX12_keepsTown 142 = .ok (.getfield 31, 3) := by decide +kernel
theorem dX12_keepsTown_145 : decode cX12_keepsTown 145 = .ok (.iload_n 1, 1) := by decide +kernel
theorem dX12_keepsTown_146 : decode cX12_keepsTown 146 = .ok (.aload_n 0, 1) := by decide +kernel
theorem dX12_keepsTown_147 : decode cX12_keepsTown 147 = .ok (.aload_n 0, 1) := by decide +kernel
theorem dX12_keepsTown_148 : decode cX12_keepsTown 148 = .ok (.getfield 31, 3) := by decide +kernel
theorem dX12_keepsTown_151 : decode cX12_keepsTown 151 = .ok (.iload_n 1, 1) := by decide +kernel
theorem dX12_keepsTown_152 : decode cX12_keepsTown 152 = .ok (.iaload, 1) := by decide +kernel
theorem dX12_keepsTown_153 : decode cX12_keepsTown 153 = .ok (.invokevirtual 517, 3) := by decide +kernel
theorem dX12_keepsTown_156 : decode cX12_keepsTown 156 = .ok (.iastore, 1) := by decide +kernel
theorem dX12_keepsTown_157 : decode cX12_keepsTown 157 = .ok (.iinc 1 1, 3) := by decide +kernel
theorem dX12_keepsTown_160 : decode cX12_keepsTown 160 = .ok (.goto (-57), 3) := by decide +kernel
theorem dX12_keepsTown_163 : decode cX12_keepsTown 163 = .ok (.return_, 1) := by decide +kernel
theorem wp_X12_keepsTown_0 {d : Nat} {s : ev_S} {Q : Option ev_V → ev_S → Prop}
    (h : (Ev layM M_X12_kept d 0 [(0, ev_r 0), (1, ev_i (s 0 6))] [] s (ev_pi (fun r2 s1 => (∀ s3, ev_up s1 0 6 r2 = s3 → (Ev layM M_X12_kept d 0 [(0, ev_r 0), (1, ev_i (s3 0 7))] [] s3 (ev_pi (fun r5 s4 => (∀ s6, ev_up s4 0 7 r5 = s6 → (Ev layM M_X12_kept d 0 [(0, ev_r 0), (1, ev_i (s6 0 8))] [] s6 (ev_pi (fun r8 s7 => (∀ s9, ev_up s7 0 8 r8 = s9 → Ev layM M_X12_keepsTown (d + 1) 38 [(0, ev_r 0), (1, ev_i 0)] [] s9 Q))))))))))))) :
    Ev layM M_X12_keepsTown (d + 1) 0 [(0, ev_r 0)] [] s Q := by
  refine Ev_aload_n 0 dX12_keepsTown_0 rfl rfl ?_
  refine Ev_aload_n 0 dX12_keepsTown_1 rfl rfl ?_
  refine Ev_aload_n 0 dX12_keepsTown_2 rfl rfl ?_
  refine Ev_get (i := 6) cl_X12 yM_0 (Nat.le_of_ble_eq_true rfl) rfl wd_1450 dX12_keepsTown_3 ?_
  refine Ev_callV (As := [ev_i (s 0 6)]) (b := 0) (st := [ev_r 0]) (M' := M_X12_kept) cm_X12_kept wd_2134 wd_2136 wd_169 yM_0 cl_X12 rfl dX12_keepsTown_6 (Nat.le_refl _) rfl (Nat.le_of_ble_eq_true rfl) (Nat.le_of_ble_eq_true rfl) h (fun v u h hk => ?_)
  obtain ⟨r2, rfl⟩ := hk
  obtain ⟨s1, rfl⟩ : ∃ x, x = u := ⟨_, rfl⟩
  replace h := h r2 rfl
  refine Ev_put (i := 6) (ty := .int) cl_X12 yM_0 (Nat.le_of_ble_eq_true rfl) rfl rfl (by decide +kernel) rfl rfl wd_1450 dX12_keepsTown_9 (Ev_nm (fun s3 es3 => ?_))
  replace h := h s3 es3
  refine Ev_aload_n 0 dX12_keepsTown_12 rfl rfl ?_
  refine Ev_aload_n 0 dX12_keepsTown_13 rfl rfl ?_
  refine Ev_aload_n 0 dX12_keepsTown_14 rfl rfl ?_
  refine Ev_get (i := 7) cl_X12 yM_0 (Nat.le_of_ble_eq_true rfl) rfl wd_1451 dX12_keepsTown_15 ?_
  refine Ev_callV (As := [ev_i (s3 0 7)]) (b := 0) (st := [ev_r 0]) (M' := M_X12_kept) cm_X12_kept wd_2134 wd_2136 wd_169 yM_0 cl_X12 rfl dX12_keepsTown_18 (Nat.le_refl _) rfl (Nat.le_of_ble_eq_true rfl) (Nat.le_of_ble_eq_true rfl) h (fun v u h hk => ?_)
  obtain ⟨r5, rfl⟩ := hk
  obtain ⟨s4, rfl⟩ : ∃ x, x = u := ⟨_, rfl⟩
  replace h := h r5 rfl
  refine Ev_put (i := 7) (ty := .int) cl_X12 yM_0 (Nat.le_of_ble_eq_true rfl) rfl rfl (by decide +kernel) rfl rfl wd_1451 dX12_keepsTown_21 (Ev_nm (fun s6 es6 => ?_))
  replace h := h s6 es6
  refine Ev_aload_n 0 dX12_keepsTown_24 rfl rfl ?_
  refine Ev_aload_n 0 dX12_keepsTown_25 rfl rfl ?_
  refine Ev_aload_n 0 dX12_keepsTown_26 rfl rfl ?_
  refine Ev_get (i := 8) cl_X12 yM_0 (Nat.le_of_ble_eq_true rfl) rfl wd_1452 dX12_keepsTown_27 ?_
  refine Ev_callV (As := [ev_i (s6 0 8)]) (b := 0) (st := [ev_r 0]) (M' := M_X12_kept) cm_X12_kept wd_2134 wd_2136 wd_169 yM_0 cl_X12 rfl dX12_keepsTown_30 (Nat.le_refl _) rfl (Nat.le_of_ble_eq_true rfl) (Nat.le_of_ble_eq_true rfl) h (fun v u h hk => ?_)
  obtain ⟨r8, rfl⟩ := hk
  obtain ⟨s7, rfl⟩ : ∃ x, x = u := ⟨_, rfl⟩
  replace h := h r8 rfl
  refine Ev_put (i := 8) (ty := .int) cl_X12 yM_0 (Nat.le_of_ble_eq_true rfl) rfl rfl (by decide +kernel) rfl rfl wd_1452 dX12_keepsTown_33 (Ev_nm (fun s9 es9 => ?_))
  replace h := h s9 es9
  refine Ev_iconst dX12_keepsTown_36 rfl (ev_Rc rfl) ?_
  refine Ev_istore_n (l' := [(1, ev_i 0), (0, ev_r 0)]) dX12_keepsTown_37 rfl (Nat.le_of_ble_eq_true rfl) rfl ?_
  exact Ev_sub [1, 0] rfl h
theorem wp_X12_keepsTown_38 {d : Nat} {s : ev_S} {Q : Option ev_V → ev_S → Prop} {a1 : Int}
    (h : ((5 ≤ a1 → (Ev layM M_X12_kept d 0 [(0, ev_r 0), (1, ev_i (s 0 10))] [] s (ev_pi (fun r2 s1 => (∀ s3, ev_up s1 0 10 r2 = s3 → (Ev layM M_X12_kept d 0 [(0, ev_r 0), (1, ev_i (s3 0 11))] [] s3 (ev_pi (fun r5 s4 => (∀ s6, ev_up s4 0 11 r5 = s6 → (Ev layM M_X12_kept d 0 [(0, ev_r 0), (1, ev_i (s6 0 12))] [] s6 (ev_pi (fun r8 s7 => (∀ s9, ev_up s7 0 12 r8 = s9 → Ev layM M_X12_keepsTown (d + 1) 103 [(0, ev_r 0), (1, ev_i 0)] [] s9 Q))))))))))))) ∧ (a1 < 5 → ((0 ≤ a1 ∧ a1 < (5 : Nat)) ∧ (Ev layM M_X12_kept d 0 [(0, ev_r 0), (1, ev_i (s 4 (Int.toNat a1)))] [] s (ev_pi (fun r11 s10 => ((0 ≤ a1 ∧ a1 < (5 : Nat)) ∧ ∀ s12, ev_up s10 4 (Int.toNat a1) r11 = s12 → Ev layM M_X12_keepsTown (d + 1) 38 [(0, ev_r 0), (1, ev_i (ev_add a1 1))] [] s12 Q)))))))) :
    Ev layM M_X12_keepsTown (d + 1) 38 [(0, ev_r 0), (1, ev_i a1)] [] s Q := by
  refine Ev_iload_n 1 dX12_keepsTown_38 rfl rfl ?_
  refine Ev_iconst dX12_keepsTown_39 rfl (ev_Rc rfl) ?_
  refine Ev_icmp_ge (tgt := 65) dX12_keepsTown_40 rfl (fun c => ?_) (fun c => ?_)
  · replace h := h.1 c
    refine Ev_aload_n 0 dX12_keepsTown_65 rfl rfl ?_
    refine Ev_aload_n 0 dX12_keepsTown_66 rfl rfl ?_
    refine Ev_aload_n 0 dX12_keepsTown_67 rfl rfl ?_
    refine Ev_get (i := 10) cl_X12 yM_0 (Nat.le_of_ble_eq_true rfl) rfl wd_1454 dX12_keepsTown_68 ?_
    refine Ev_callV (As := [ev_i (s 0 10)]) (b := 0) (st := [ev_r 0]) (M' := M_X12_kept) cm_X12_kept wd_2134 wd_2136 wd_169 yM_0 cl_X12 rfl dX12_keepsTown_71 (Nat.le_refl _) rfl (Nat.le_of_ble_eq_true rfl) (Nat.le_of_ble_eq_true rfl) h (fun v u h hk => ?_)
    obtain ⟨r2, rfl⟩ := hk
    obtain ⟨s1, rfl⟩ : ∃ x, x = u := ⟨_, rfl⟩
    replace h := h r2 rfl
    refine Ev_put (i := 10) (ty := .int) cl_X12 yM_0 (Nat.le_of_ble_eq_true rfl) rfl rfl (by decide +kernel) rfl rfl wd_1454 dX12_keepsTown_74 (Ev_nm (fun s3 es3 => ?_))
    replace h := h s3 es3
    refine Ev_aload_n 0 dX12_keepsTown_77 rfl rfl ?_
    refine Ev_aload_n 0 dX12_keepsTown_78 rfl rfl ?_
    refine Ev_aload_n 0 dX12_keepsTown_79 rfl rfl ?_
    refine Ev_get (i := 11) cl_X12 yM_0 (Nat.le_of_ble_eq_true rfl) rfl wd_1455 dX12_keepsTown_80 ?_
    refine Ev_callV (As := [ev_i (s3 0 11)]) (b := 0) (st := [ev_r 0]) (M' := M_X12_kept) cm_X12_kept wd_2134 wd_2136 wd_169 yM_0 cl_X12 rfl dX12_keepsTown_83 (Nat.le_refl _) rfl (Nat.le_of_ble_eq_true rfl) (Nat.le_of_ble_eq_true rfl) h (fun v u h hk => ?_)
    obtain ⟨r5, rfl⟩ := hk
    obtain ⟨s4, rfl⟩ : ∃ x, x = u := ⟨_, rfl⟩
    replace h := h r5 rfl
    refine Ev_put (i := 11) (ty := .int) cl_X12 yM_0 (Nat.le_of_ble_eq_true rfl) rfl rfl (by decide +kernel) rfl rfl wd_1455 dX12_keepsTown_86 (Ev_nm (fun s6 es6 => ?_))
    replace h := h s6 es6
    refine Ev_aload_n 0 dX12_keepsTown_89 rfl rfl ?_
    refine Ev_aload_n 0 dX12_keepsTown_90 rfl rfl ?_
    refine Ev_aload_n 0 dX12_keepsTown_91 rfl rfl ?_
    refine Ev_get (i := 12) cl_X12 yM_0 (Nat.le_of_ble_eq_true rfl) rfl wd_1456 dX12_keepsTown_92 ?_
    refine Ev_callV (As := [ev_i (s6 0 12)]) (b := 0) (st := [ev_r 0]) (M' := M_X12_kept) cm_X12_kept wd_2134 wd_2136 wd_169 yM_0 cl_X12 rfl dX12_keepsTown_95 (Nat.le_refl _) rfl (Nat.le_of_ble_eq_true rfl) (Nat.le_of_ble_eq_true rfl) h (fun v u h hk => ?_)
    obtain ⟨r8, rfl⟩ := hk
    obtain ⟨s7, rfl⟩ : ∃ x, x = u := ⟨_, rfl⟩
    replace h := h r8 rfl
    refine Ev_put (i := 12) (ty := .int) cl_X12 yM_0 (Nat.le_of_ble_eq_true rfl) rfl rfl (by decide +kernel) rfl rfl wd_1456 dX12_keepsTown_98 (Ev_nm (fun s9 es9 => ?_))
    replace h := h s9 es9
    refine Ev_iconst dX12_keepsTown_101 rfl (ev_Rc rfl) ?_
    refine Ev_istore_n (l' := [(1, ev_i 0), (0, ev_r 0)]) dX12_keepsTown_102 rfl (Nat.le_of_ble_eq_true rfl) rfl ?_
    exact Ev_sub [1, 0] rfl h
  · replace h := h.2 c
    refine Ev_aload_n 0 dX12_keepsTown_43 rfl rfl ?_
    refine Ev_getR (i := 9) cl_X12 yM_0 (Nat.le_of_ble_eq_true rfl) rfl wd_1453 dX12_keepsTown_44 ?_
    refine Ev_iload_n 1 dX12_keepsTown_47 rfl rfl ?_
    refine Ev_aload_n 0 dX12_keepsTown_48 rfl rfl ?_
    refine Ev_aload_n 0 dX12_keepsTown_49 rfl rfl ?_
    refine Ev_getR (i := 9) cl_X12 yM_0 (Nat.le_of_ble_eq_true rfl) rfl wd_1453 dX12_keepsTown_50 ?_
    refine Ev_iload_n 1 dX12_keepsTown_53 rfl rfl ?_
    obtain ⟨h0, h⟩ := h
    refine Ev_iald yM_4 h0 dX12_keepsTown_54 ?_
    refine Ev_callV (As := [ev_i (s 4 (Int.toNat a1))]) (b := 0) (st := [ev_i a1, ev_r 4]) (M' := M_X12_kept) cm_X12_kept wd_2134 wd_2136 wd_169 yM_0 cl_X12 rfl dX12_keepsTown_55 (Nat.le_refl _) rfl (Nat.le_of_ble_eq_true rfl) (Nat.le_of_ble_eq_true rfl) h (fun v u h hk => ?_)
    obtain ⟨r11, rfl⟩ := hk
    obtain ⟨s10, rfl⟩ : ∃ x, x = u := ⟨_, rfl⟩
    replace h := h r11 rfl
    obtain ⟨h0, h⟩ := h
    refine Ev_iast yM_4 h0 dX12_keepsTown_58 (Ev_nm (fun s12 es12 => ?_))
    replace h := h s12 es12
    refine Ev_iinc (j := 1) (l' := [(1, ev_i (ev_add a1 1)), (0, ev_r 0)]) dX12_keepsTown_59 rfl (Nat.le_of_ble_eq_true rfl) rfl ?_
    refine Ev_goto (tgt := 38) dX12_keepsTown_62 rfl ?_
    exact Ev_sub [1, 0] rfl h
theorem wp_X12_keepsTown_103 {d : Nat} {s : ev_S} {Q : Option ev_V → ev_S → Prop} {a1 : Int}
    (h : ((6 ≤ a1 → Q none s) ∧ (a1 < 6 → ((0 ≤ a1 ∧ a1 < (6 : Nat)) ∧ (Ev layM M_X12_kept d 0 [(0, ev_r 0), (1, ev_i (s 6 (Int.toNat a1)))] [] s (ev_pi (fun r2 s1 => ((0 ≤ a1 ∧ a1 < (6 : Nat)) ∧ ∀ s3, ev_up s1 6 (Int.toNat a1) r2 = s3 → ((0 ≤ a1 ∧ a1 < (6 : Nat)) ∧ (Ev layM M_X12_kept d 0 [(0, ev_r 0), (1, ev_i (s3 7 (Int.toNat a1)))] [] s3 (ev_pi (fun r5 s4 => ((0 ≤ a1 ∧ a1 < (6 : Nat)) ∧ ∀ s6, ev_up s4 7 (Int.toNat a1) r5 = s6 → ((0 ≤ a1 ∧ a1 < (6 : Nat)) ∧ (Ev layM M_X12_kept d 0 [(0, ev_r 0), (1, ev_i (s6 8 (Int.toNat a1)))] [] s6 (ev_pi (fun r8 s7 => ((0 ≤ a1 ∧ a1 < (6 : Nat)) ∧ ∀ s9, ev_up s7 8 (Int.toNat a1) r8 = s9 → Ev layM M_X12_keepsTown (d + 1) 103 [(0, ev_r 0), (1, ev_i (ev_add a1 1))] [] s9 Q)))))))))))))))))) :
    Ev layM M_X12_keepsTown (d + 1) 103 [(0, ev_r 0), (1, ev_i a1)] [] s Q := by
  refine Ev_iload_n 1 dX12_keepsTown_103 rfl rfl ?_
  refine Ev_bipushC dX12_keepsTown_104 rfl ?_
  refine Ev_icmp_ge (tgt := 163) dX12_keepsTown_106 rfl (fun c => ?_) (fun c => ?_)
  · replace h := h.1 c
    exact Ev_vret rfl dX12_keepsTown_163 h
  · replace h := h.2 c
    refine Ev_aload_n 0 dX12_keepsTown_109 rfl rfl ?_
    refine Ev_getR (i := 14) cl_X12 yM_0 (Nat.le_of_ble_eq_true rfl) rfl wd_1458 dX12_keepsTown_110 ?_
    refine Ev_iload_n 1 dX12_keepsTown_113 rfl rfl ?_
    refine Ev_aload_n 0 dX12_keepsTown_114 rfl rfl ?_
    refine Ev_aload_n 0 dX12_keepsTown_115 rfl rfl ?_
    refine Ev_getR (i := 14) cl_X12 yM_0 (Nat.le_of_ble_eq_true rfl) rfl wd_1458 dX12_keepsTown_116 ?_
    refine Ev_iload_n 1 dX12_keepsTown_119 rfl rfl ?_
    obtain ⟨h0, h⟩ := h
    refine Ev_iald yM_6 h0 dX12_keepsTown_120 ?_
    refine Ev_callV (As := [ev_i (s 6 (Int.toNat a1))]) (b := 0) (st := [ev_i a1, ev_r 6]) (M' := M_X12_kept) cm_X12_kept wd_2134 wd_2136 wd_169 yM_0 cl_X12 rfl dX12_keepsTown_121 (Nat.le_refl _) rfl (Nat.le_of_ble_eq_true rfl) (Nat.le_of_ble_eq_true rfl) h (fun v u h hk => ?_)
    obtain ⟨r2, rfl⟩ := hk
    obtain ⟨s1, rfl⟩ : ∃ x, x = u := ⟨_, rfl⟩
    replace h := h r2 rfl
    obtain ⟨h0, h⟩ := h
    refine Ev_iast yM_6 h0 dX12_keepsTown_124 (Ev_nm (fun s3 es3 => ?_))
    replace h := h s3 es3
    refine Ev_aload_n 0 dX12_keepsTown_125 rfl rfl ?_
    refine Ev_getR (i := 15) cl_X12 yM_0 (Nat.le_of_ble_eq_true rfl) rfl wd_1459 dX12_keepsTown_126 ?_
    refine Ev_iload_n 1 dX12_keepsTown_129 rfl rfl ?_
    refine Ev_aload_n 0 dX12_keepsTown_130 rfl rfl ?_
    refine Ev_aload_n 0 dX12_keepsTown_131 rfl rfl ?_
    refine Ev_getR (i := 15) cl_X12 yM_0 (Nat.le_of_ble_eq_true rfl) rfl wd_1459 dX12_keepsTown_132 ?_
    refine Ev_iload_n 1 dX12_keepsTown_135 rfl rfl ?_
    obtain ⟨h0, h⟩ := h
    refine Ev_iald yM_7 h0 dX12_keepsTown_136 ?_
    refine Ev_callV (As := [ev_i (s3 7 (Int.toNat a1))]) (b := 0) (st := [ev_i a1, ev_r 7]) (M' := M_X12_kept) cm_X12_kept wd_2134 wd_2136 wd_169 yM_0 cl_X12 rfl dX12_keepsTown_137 (Nat.le_refl _) rfl (Nat.le_of_ble_eq_true rfl) (Nat.le_of_ble_eq_true rfl) h (fun v u h hk => ?_)
    obtain ⟨r5, rfl⟩ := hk
    obtain ⟨s4, rfl⟩ : ∃ x, x = u := ⟨_, rfl⟩
    replace h := h r5 rfl
    obtain ⟨h0, h⟩ := h
    refine Ev_iast yM_7 h0 dX12_keepsTown_140 (Ev_nm (fun s6 es6 => ?_))
    replace h := h s6 es6
    refine Ev_aload_n 0 dX12_keepsTown_141 rfl rfl ?_
    refine Ev_getR (i := 16) cl_X12 yM_0 (Nat.le_of_ble_eq_true rfl) rfl wd_1460 dX12_keepsTown_142 ?_
    refine Ev_iload_n 1 dX12_keepsTown_145 rfl rfl ?_
    refine Ev_aload_n 0 dX12_keepsTown_146 rfl rfl ?_
    refine Ev_aload_n 0 dX12_keepsTown_147 rfl rfl ?_
    refine Ev_getR (i := 16) cl_X12 yM_0 (Nat.le_of_ble_eq_true rfl) rfl wd_1460 dX12_keepsTown_148 ?_
    refine Ev_iload_n 1 dX12_keepsTown_151 rfl rfl ?_
    obtain ⟨h0, h⟩ := h
    refine Ev_iald yM_8 h0 dX12_keepsTown_152 ?_
    refine Ev_callV (As := [ev_i (s6 8 (Int.toNat a1))]) (b := 0) (st := [ev_i a1, ev_r 8]) (M' := M_X12_kept) cm_X12_kept wd_2134 wd_2136 wd_169 yM_0 cl_X12 rfl dX12_keepsTown_153 (Nat.le_refl _) rfl (Nat.le_of_ble_eq_true rfl) (Nat.le_of_ble_eq_true rfl) h (fun v u h hk => ?_)
    obtain ⟨r8, rfl⟩ := hk
    obtain ⟨s7, rfl⟩ : ∃ x, x = u := ⟨_, rfl⟩
    replace h := h r8 rfl
    obtain ⟨h0, h⟩ := h
    refine Ev_iast yM_8 h0 dX12_keepsTown_156 (Ev_nm (fun s9 es9 => ?_))
    replace h := h s9 es9
    refine Ev_iinc (j := 1) (l' := [(1, ev_i (ev_add a1 1)), (0, ev_r 0)]) dX12_keepsTown_157 rfl (Nat.le_of_ble_eq_true rfl) rfl ?_
    refine Ev_goto (tgt := 103) dX12_keepsTown_160 rfl ?_
    exact Ev_sub [1, 0] rfl h
theorem dX12_keepsTexts_0 : decode cX12_keepsTexts 0 = .ok (.iconst 0, 1) := by decide +kernel
theorem dX12_keepsTexts_1 : decode cX12_keepsTexts 1 = .ok (.istore_n 1, 1) := by decide +kernel
theorem dX12_keepsTexts_2 : decode cX12_keepsTexts 2 = .ok (.iload_n 1, 1) := by decide +kernel
theorem dX12_keepsTexts_3 : decode cX12_keepsTexts 3 = .ok (.bipush 8, 2) := by decide +kernel
theorem dX12_keepsTexts_5 : decode cX12_keepsTexts 5 = .ok (.if_icmp .ge 25, 3) := by decide +kernel
theorem dX12_keepsTexts_8 : decode cX12_keepsTexts 8 = .ok (.aload_n 0, 1) := by decide +kernel
theorem dX12_keepsTexts_9 : decode cX12_keepsTexts 9 = .ok (.getfield 74, 3) := by decide +kernel
theorem dX12_keepsTexts_12 : decode cX12_keepsTexts 12 = .ok (.iload_n 1, 1) := by decide +kernel
theorem dX12_keepsTexts_13 : decode cX12_keepsTexts 13 = .ok (.aload_n 0, 1) := by decide +kernel
theorem dX12_keepsTexts_14 : decode cX12_keepsTexts 14 = .ok (.aload_n 0, 1) := by decide +kernel
theorem dX12_keepsTexts_15 : decode cX12_keepsTexts 15 = .ok (.getfield 74, 3) := by decide +kernel
theorem dX12_keepsTexts_18 : decode cX12_keepsTexts 18 = .ok (.iload_n 1, 1) := by decide +kernel
theorem dX12_keepsTexts_19 : decode cX12_keepsTexts 19 = .ok (.iaload, 1) := by decide +kernel
theorem dX12_keepsTexts_20 : decode cX12_keepsTexts 20 = .ok (.invokevirtual 517, 3) := by decide +kernel
theorem dX12_keepsTexts_23 : decode cX12_keepsTexts 23 = .ok (.iastore, 1) := by decide +kernel
theorem dX12_keepsTexts_24 : decode cX12_keepsTexts 24 = .ok (.iinc 1 1, 3) := by decide +kernel
theorem dX12_keepsTexts_27 : decode cX12_keepsTexts 27 = .ok (.goto (-25), 3) := by decide +kernel
theorem dX12_keepsTexts_30 : decode cX12_keepsTexts 30 = .ok (.iconst 0, 1) := by decide +kernel
theorem dX12_keepsTexts_31 : decode cX12_keepsTexts 31 = .ok (.istore_n 1, 1) := by decide +kernel
theorem dX12_keepsTexts_32 : decode cX12_keepsTexts 32 = .ok (.iload_n 1, 1) := by decide +kernel
theorem dX12_keepsTexts_33 : decode cX12_keepsTexts 33 = .ok (.sipush 4800, 3) := by decide +kernel
theorem dX12_keepsTexts_36 : decode cX12_keepsTexts 36 = .ok (.if_icmp .ge 25, 3) := by decide +kernel
theorem dX12_keepsTexts_39 : decode cX12_keepsTexts 39 = .ok (.aload_n 0, 1) := by decide +kernel
theorem dX12_keepsTexts_40 : decode cX12_keepsTexts 40 = .ok (.getfield 71, 3) := by decide +kernel
theorem dX12_keepsTexts_43 : decode cX12_keepsTexts 43 = .ok (.iload_n 1, 1) := by decide +kernel
theorem dX12_keepsTexts_44 : decode cX12_keepsTexts 44 = .ok (.aload_n 0, 1) := by decide +kernel
theorem dX12_keepsTexts_45 : decode cX12_keepsTexts 45 = .ok (.aload_n 0, 1) := by decide +kernel
theorem dX12_keepsTexts_46 : decode cX12_keepsTexts 46 = .ok (.getfield 71, 3) := by decide +kernel
theorem dX12_keepsTexts_49 : decode cX12_keepsTexts 49 = .ok (.iload_n 1, 1) := by decide +kernel
theorem dX12_keepsTexts_50 : decode cX12_keepsTexts 50 = .ok (.iaload, 1) := by decide +kernel
theorem dX12_keepsTexts_51 : decode cX12_keepsTexts 51 = .ok (.invokevirtual 517, 3) := by decide +kernel
theorem dX12_keepsTexts_54 : decode cX12_keepsTexts 54 = .ok (.iastore, 1) := by decide +kernel
theorem dX12_keepsTexts_55 : decode cX12_keepsTexts 55 = .ok (.iinc 1 1, 3) := by decide +kernel
theorem dX12_keepsTexts_58 : decode cX12_keepsTexts 58 = .ok (.goto (-26), 3) := by decide +kernel
theorem dX12_keepsTexts_61 : decode cX12_keepsTexts 61 = .ok (.iconst 0, 1) := by decide +kernel
theorem dX12_keepsTexts_62 : decode cX12_keepsTexts 62 = .ok (.istore_n 1, 1) := by decide +kernel
theorem dX12_keepsTexts_63 : decode cX12_keepsTexts 63 = .ok (.iload_n 1, 1) := by decide +kernel
theorem dX12_keepsTexts_64 : decode cX12_keepsTexts 64 = .ok (.bipush 6, 2) := by decide +kernel
theorem dX12_keepsTexts_66 : decode cX12_keepsTexts 66 = .ok (.if_icmp .ge 41, 3) := by decide +kernel
theorem dX12_keepsTexts_69 : decode cX12_keepsTexts 69 = .ok (.aload_n 0, 1) := by decide +kernel
theorem dX12_keepsTexts_70 : decode cX12_keepsTexts 70 = .ok (.getfield 22, 3) := by decide +kernel
theorem dX12_keepsTexts_73 : decode cX12_keepsTexts 73 = .ok (.iload_n 1, 1) := by decide +kernel
theorem dX12_keepsTexts_74 : decode cX12_keepsTexts 74 = .ok (.aload_n 0, 1) := by decide +kernel
theorem dX12_keepsTexts_75 : decode cX12_keepsTexts 75 = .ok (.aload_n 0, 1) := by decide +kernel
theorem dX12_keepsTexts_76 : decode cX12_keepsTexts 76 = .ok (.getfield 22, 3) := by decide +kernel
theorem dX12_keepsTexts_79 : decode cX12_keepsTexts 79 = .ok (.iload_n 1, 1) := by decide +kernel
theorem dX12_keepsTexts_80 : decode cX12_keepsTexts 80 = .ok (.iaload, 1) := by decide +kernel
theorem dX12_keepsTexts_81 : decode cX12_keepsTexts 81 = .ok (.invokevirtual 517, 3) := by decide +kernel
theorem dX12_keepsTexts_84 : decode cX12_keepsTexts 84 = .ok (.iastore, 1) := by decide +kernel
theorem dX12_keepsTexts_85 : decode cX12_keepsTexts 85 = .ok (.aload_n 0, 1) := by decide +kernel
theorem dX12_keepsTexts_86 : decode cX12_keepsTexts 86 = .ok (.getfield 92, 3) := by decide +kernel
theorem dX12_keepsTexts_89 : decode cX12_keepsTexts 89 = .ok (.iload_n 1, 1) := by decide +kernel
theorem dX12_keepsTexts_90 : decode cX12_keepsTexts 90 = .ok (.aload_n 0, 1) := by decide +kernel
theorem dX12_keepsTexts_91 : decode cX12_keepsTexts 91 = .ok (.aload_n 0, 1) := by decide +kernel
theorem dX12_keepsTexts_92 : decode cX12_keepsTexts 92 = .ok (.getfield 92, 3) := by decide +kernel
theorem dX12_keepsTexts_95 : decode cX12_keepsTexts 95 = .ok (.iload_n 1, 1) := by decide +kernel
theorem dX12_keepsTexts_96 : decode cX12_keepsTexts 96 = .ok (.iaload, 1) := by decide +kernel
theorem dX12_keepsTexts_97 : decode cX12_keepsTexts 97 = .ok (.invokevirtual 517, 3) := by decide +kernel
theorem dX12_keepsTexts_100 : decode cX12_keepsTexts 100 = .ok (.iastore, 1) := by decide +kernel
theorem dX12_keepsTexts_101 : decode cX12_keepsTexts 101 = .ok (.iinc 1 1, 3) := by decide +kernel
theorem dX12_keepsTexts_104 : decode cX12_keepsTexts 104 = .ok (.goto (-41), 3) := by decide +kernel
theorem dX12_keepsTexts_107 : decode cX12_keepsTexts 107 = .ok (.iconst 0, 1) := by decide +kernel
theorem dX12_keepsTexts_108 : decode cX12_keepsTexts 108 = .ok (.istore_n 1, 1) := by decide +kernel
theorem dX12_keepsTexts_109 : decode cX12_keepsTexts 109 = .ok (.iload_n 1, 1) := by decide +kernel
theorem dX12_keepsTexts_110 : decode cX12_keepsTexts 110 = .ok (.sipush 240, 3) := by decide +kernel
theorem dX12_keepsTexts_113 : decode cX12_keepsTexts 113 = .ok (.if_icmp .ge 41, 3) := by decide +kernel
theorem dX12_keepsTexts_116 : decode cX12_keepsTexts 116 = .ok (.aload_n 0, 1) := by decide +kernel
theorem dX12_keepsTexts_117 : decode cX12_keepsTexts 117 = .ok (.getfield 86, 3) := by decide +kernel
theorem dX12_keepsTexts_120 : decode cX12_keepsTexts 120 = .ok (.iload_n 1, 1) := by decide +kernel
theorem dX12_keepsTexts_121 : decode cX12_keepsTexts 121 = .ok (.aload_n 0, 1) := by decide +kernel
theorem dX12_keepsTexts_122 : decode cX12_keepsTexts 122 = .ok (.aload_n 0, 1) := by decide +kernel
theorem dX12_keepsTexts_123 : decode cX12_keepsTexts 123 = .ok (.getfield 86, 3) := by decide +kernel
theorem dX12_keepsTexts_126 : decode cX12_keepsTexts 126 = .ok (.iload_n 1, 1) := by decide +kernel
theorem dX12_keepsTexts_127 : decode cX12_keepsTexts 127 = .ok (.iaload, 1) := by decide +kernel
theorem dX12_keepsTexts_128 : decode cX12_keepsTexts 128 = .ok (.invokevirtual 517, 3) := by decide +kernel
theorem dX12_keepsTexts_131 : decode cX12_keepsTexts 131 = .ok (.iastore, 1) := by decide +kernel
theorem dX12_keepsTexts_132 : decode cX12_keepsTexts 132 = .ok (.aload_n 0, 1) := by decide +kernel
theorem dX12_keepsTexts_133 : decode cX12_keepsTexts 133 = .ok (.getfield 89, 3) := by decide +kernel
theorem dX12_keepsTexts_136 : decode cX12_keepsTexts 136 = .ok (.iload_n 1, 1) := by decide +kernel
theorem dX12_keepsTexts_137 : decode cX12_keepsTexts 137 = .ok (.aload_n 0, 1) := by decide +kernel
theorem dX12_keepsTexts_138 : decode cX12_keepsTexts 138 = .ok (.aload_n 0, 1) := by decide +kernel
theorem dX12_keepsTexts_139 : decode cX12_keepsTexts 139 = .ok (.getfield 89, 3) := by decide +kernel
theorem dX12_keepsTexts_142 : decode cX12_keepsTexts 142 = .ok (.iload_n 1, 1) := by decide +kernel
theorem dX12_keepsTexts_143 : decode cX12_keepsTexts 143 = .ok (.iaload, 1) := by decide +kernel
theorem dX12_keepsTexts_144 : decode cX12_keepsTexts 144 = .ok (.invokevirtual 517, 3) := by decide +kernel
theorem dX12_keepsTexts_147 : decode cX12_keepsTexts 147 = .ok (.iastore, 1) := by decide +kernel
theorem dX12_keepsTexts_148 : decode cX12_keepsTexts 148 = .ok (.iinc 1 1, 3) := by decide +kernel
theorem dX12_keepsTexts_151 : decode cX12_keepsTexts 151 = .ok (.goto (-42), 3) := by decide +kernel
theorem dX12_keepsTexts_154 : decode cX12_keepsTexts 154 = .ok (.aload_n 0, 1) := by decide +kernel
theorem dX12_keepsTexts_155 : decode cX12_keepsTexts 155 = .ok (.aload_n 0, 1) := by decide +kernel
theorem dX12_keepsTexts_156 : decode cX12_keepsTexts 156 = .ok (.aload_n 0, 1) := by decide +kernel
theorem dX12_keepsTexts_157 : decode cX12_keepsTexts 157 = .ok (.getfield 165, 3) := by decide +kernel
theorem dX12_keepsTexts_160 : decode cX12_keepsTexts 160 = .ok (.invokevirtual 517, 3) := by decide +kernel
theorem dX12_keepsTexts_163 : decode cX12_keepsTexts 163 = .ok (.putfield 165, 3) := by decide +kernel
theorem dX12_keepsTexts_166 : decode cX12_keepsTexts 166 = .ok (.iconst 0, 1) := by decide +kernel
theorem dX12_keepsTexts_167 : decode cX12_keepsTexts 167 = .ok (.istore_n 1, 1) := by decide +kernel
theorem dX12_keepsTexts_168 : decode cX12_keepsTexts 168 = .ok (.iload_n 1, 1) := by decide +kernel
theorem dX12_keepsTexts_169 : decode cX12_keepsTexts 169 = .ok (.bipush 70, 2) := by decide +kernel
theorem dX12_keepsTexts_171 : decode cX12_keepsTexts 171 = .ok (.if_icmp .ge 25, 3) := by decide +kernel
theorem dX12_keepsTexts_174 : decode cX12_keepsTexts 174 = .ok (.aload_n 0, 1) := by decide +kernel
theorem dX12_keepsTexts_175 : decode cX12_keepsTexts 175 = .ok (.getfield 83, 3) := by decide +kernel
theorem dX12_keepsTexts_178 : decode cX12_keepsTexts 178 = .ok (.iload_n 1, 1) := by decide +kernel
theorem dX12_keepsTexts_179 : decode cX12_keepsTexts 179 = .ok (.aload_n 0, 1) := by decide +kernel
theorem dX12_keepsTexts_180 : decode cX12_keepsTexts 180 = .ok (.aload_n 0, 1) := by decide +kernel
theorem dX12_keepsTexts_181 : decode cX12_keepsTexts 181 = .ok (.getfield 83, 3) := by decide +kernel
theorem dX12_keepsTexts_184 : decode cX12_keepsTexts 184 = .ok (.iload_n 1, 1) := by decide +kernel
theorem dX12_keepsTexts_185 : decode cX12_keepsTexts 185 = .ok (.iaload, 1) := by decide +kernel
theorem dX12_keepsTexts_186 : decode cX12_keepsTexts 186 = .ok (.invokevirtual 517, 3) := by decide +kernel
theorem dX12_keepsTexts_189 : decode cX12_keepsTexts 189 = .ok (.iastore, 1) := by decide +kernel
theorem dX12_keepsTexts_190 : decode cX12_keepsTexts 190 = .ok (.iinc 1 1, 3) := by decide +kernel
theorem dX12_keepsTexts_193 : decode cX12_keepsTexts 193 = .ok (.goto (-25), 3) := by decide +kernel
theorem dX12_keepsTexts_196 : decode cX12_keepsTexts 196 = .ok (.return_, 1) := by decide +kernel
theorem wp_X12_keepsTexts_0 {d : Nat} {s : ev_S} {Q : Option ev_V → ev_S → Prop}
    (h : Ev layM M_X12_keepsTexts (d + 1) 2 [(0, ev_r 0), (1, ev_i 0)] [] s Q) :
    Ev layM M_X12_keepsTexts (d + 1) 0 [(0, ev_r 0)] [] s Q := by
  refine Ev_iconst dX12_keepsTexts_0 rfl (ev_Rc rfl) ?_
  refine Ev_istore_n (l' := [(1, ev_i 0), (0, ev_r 0)]) dX12_keepsTexts_1 rfl (Nat.le_of_ble_eq_true rfl) rfl ?_
  exact Ev_sub [1, 0] rfl h
theorem wp_X12_keepsTexts_2 {d : Nat} {s : ev_S} {Q : Option ev_V → ev_S → Prop} {a1 : Int}
    (h : ((8 ≤ a1 → Ev layM M_X12_keepsTexts (d + 1) 32 [(0, ev_r 0), (1, ev_i 0)] [] s Q) ∧ (a1 < 8 → ((0 ≤ a1 ∧ a1 < (8 : Nat)) ∧ (Ev layM M_X12_kept d 0 [(0, ev_r 0), (1, ev_i (s 21 (Int.toNat a1)))] [] s (ev_pi (fun r2 s1 => ((0 ≤ a1 ∧ a1 < (8 : Nat)) ∧ ∀ s3, ev_up s1 21 (Int.toNat a1) r2 = s3 → Ev layM M_X12_keepsTexts (d + 1) 2 [(0, ev_r 0), (1, ev_i (ev_add a1 1))] [] s3 Q)))))))) :
    Ev layM M_X12_keepsTexts (d + 1) 2 [(0, ev_r 0), (1, ev_i a1)] [] s Q := by
  refine Ev_iload_n 1 dX12_keepsTexts_2 rfl rfl ?_
  refine Ev_bipushC dX12_keepsTexts_3 rfl ?_
  refine Ev_icmp_ge (tgt := 30) dX12_keepsTexts_5 rfl (fun c => ?_) (fun c => ?_)
  · replace h := h.1 c
    refine Ev_iconst dX12_keepsTexts_30 rfl (ev_Rc rfl) ?_
    refine Ev_istore_n (l' := [(1, ev_i 0), (0, ev_r 0)]) dX12_keepsTexts_31 rfl (Nat.le_of_ble_eq_true rfl) rfl ?_
    exact Ev_sub [1, 0] rfl h
  · replace h := h.2 c
    refine Ev_aload_n 0 dX12_keepsTexts_8 rfl rfl ?_
    refine Ev_getR (i := 43) cl_X12 yM_0 (Nat.le_of_ble_eq_true rfl) rfl wd_1487 dX12_keepsTexts_9 ?_
    refine Ev_iload_n 1 dX12_keepsTexts_12 rfl rfl ?_
    refine Ev_aload_n 0 dX12_keepsTexts_13 rfl rfl ?_
    refine Ev_aload_n 0 dX12_keepsTexts_14 rfl rfl ?_
    refine Ev_getR (i := 43) cl_X12 yM_0 (Nat.le_of_ble_eq_true rfl) rfl wd_1487 dX12_keepsTexts_15 ?_
    refine Ev_iload_n 1 dX12_keepsTexts_18 rfl rfl ?_
    obtain ⟨h0, h⟩ := h
    refine Ev_iald yM_21 h0 dX12_keepsTexts_19 ?_
    refine Ev_callV (As := [ev_i (s 21 (Int.toNat a1))]) (b := 0) (st := [ev_i a1, ev_r 21]) (M' := M_X12_kept) cm_X12_kept wd_2134 wd_2136 wd_169 yM_0 cl_X12 rfl dX12_keepsTexts_20 (Nat.le_refl _) rfl (Nat.le_of_ble_eq_true rfl) (Nat.le_of_ble_eq_true rfl) h (fun v u h hk => ?_)
    obtain ⟨r2, rfl⟩ := hk
    obtain ⟨s1, rfl⟩ : ∃ x, x = u := ⟨_, rfl⟩
    replace h := h r2 rfl
    obtain ⟨h0, h⟩ := h
    refine Ev_iast yM_21 h0 dX12_keepsTexts_23 (Ev_nm (fun s3 es3 => ?_))
    replace h := h s3 es3
    refine Ev_iinc (j := 1) (l' := [(1, ev_i (ev_add a1 1)), (0, ev_r 0)]) dX12_keepsTexts_24 rfl (Nat.le_of_ble_eq_true rfl) rfl ?_
    refine Ev_goto (tgt := 2) dX12_keepsTexts_27 rfl ?_
    exact Ev_sub [1, 0] rfl h
theorem wp_X12_keepsTexts_32 {d : Nat} {s : ev_S} {Q : Option ev_V → ev_S → Prop} {a1 : Int}
    (h : ((4800 ≤ a1 → Ev layM M_X12_keepsTexts (d + 1) 63 [(0, ev_r 0), (1, ev_i 0)] [] s Q) ∧ (a1 < 4800 → ((0 ≤ a1 ∧ a1 < (5400 : Nat)) ∧ (Ev layM M_X12_kept d 0 [(0, ev_r 0), (1, ev_i (s 20 (Int.toNat a1)))] [] s (ev_pi (fun r2 s1 => ((0 ≤ a1 ∧ a1 < (5400 : Nat)) ∧ ∀ s3, ev_up s1 20 (Int.toNat a1) r2 = s3 → Ev layM M_X12_keepsTexts (d + 1) 32 [(0, ev_r 0), (1, ev_i (ev_add a1 1))] [] s3 Q)))))))) :
    Ev layM M_X12_keepsTexts (d + 1) 32 [(0, ev_r 0), (1, ev_i a1)] [] s Q := by
  refine Ev_iload_n 1 dX12_keepsTexts_32 rfl rfl ?_
  refine Ev_sipushC dX12_keepsTexts_33 rfl ?_
  refine Ev_icmp_ge (tgt := 61) dX12_keepsTexts_36 rfl (fun c => ?_) (fun c => ?_)
  · replace h := h.1 c
    refine Ev_iconst dX12_keepsTexts_61 rfl (ev_Rc rfl) ?_
    refine Ev_istore_n (l' := [(1, ev_i 0), (0, ev_r 0)]) dX12_keepsTexts_62 rfl (Nat.le_of_ble_eq_true rfl) rfl ?_
    exact Ev_sub [1, 0] rfl h
  · replace h := h.2 c
    refine Ev_aload_n 0 dX12_keepsTexts_39 rfl rfl ?_
    refine Ev_getR (i := 42) cl_X12 yM_0 (Nat.le_of_ble_eq_true rfl) rfl wd_1486 dX12_keepsTexts_40 ?_
    refine Ev_iload_n 1 dX12_keepsTexts_43 rfl rfl ?_
    refine Ev_aload_n 0 dX12_keepsTexts_44 rfl rfl ?_
    refine Ev_aload_n 0 dX12_keepsTexts_45 rfl rfl ?_
    refine Ev_getR (i := 42) cl_X12 yM_0 (Nat.le_of_ble_eq_true rfl) rfl wd_1486 dX12_keepsTexts_46 ?_
    refine Ev_iload_n 1 dX12_keepsTexts_49 rfl rfl ?_
    obtain ⟨h0, h⟩ := h
    refine Ev_iald yM_20 h0 dX12_keepsTexts_50 ?_
    refine Ev_callV (As := [ev_i (s 20 (Int.toNat a1))]) (b := 0) (st := [ev_i a1, ev_r 20]) (M' := M_X12_kept) cm_X12_kept wd_2134 wd_2136 wd_169 yM_0 cl_X12 rfl dX12_keepsTexts_51 (Nat.le_refl _) rfl (Nat.le_of_ble_eq_true rfl) (Nat.le_of_ble_eq_true rfl) h (fun v u h hk => ?_)
    obtain ⟨r2, rfl⟩ := hk
    obtain ⟨s1, rfl⟩ : ∃ x, x = u := ⟨_, rfl⟩
    replace h := h r2 rfl
    obtain ⟨h0, h⟩ := h
    refine Ev_iast yM_20 h0 dX12_keepsTexts_54 (Ev_nm (fun s3 es3 => ?_))
    replace h := h s3 es3
    refine Ev_iinc (j := 1) (l' := [(1, ev_i (ev_add a1 1)), (0, ev_r 0)]) dX12_keepsTexts_55 rfl (Nat.le_of_ble_eq_true rfl) rfl ?_
    refine Ev_goto (tgt := 32) dX12_keepsTexts_58 rfl ?_
    exact Ev_sub [1, 0] rfl h
theorem wp_X12_keepsTexts_63 {d : Nat} {s : ev_S} {Q : Option ev_V → ev_S → Prop} {a1 : Int}
    (h : ((6 ≤ a1 → Ev layM M_X12_keepsTexts (d + 1) 109 [(0, ev_r 0), (1, ev_i 0)] [] s Q) ∧ (a1 < 6 → ((0 ≤ a1 ∧ a1 < (6 : Nat)) ∧ (Ev layM M_X12_kept d 0 [(0, ev_r 0), (1, ev_i (s 5 (Int.toNat a1)))] [] s (ev_pi (fun r2 s1 => ((0 ≤ a1 ∧ a1 < (6 : Nat)) ∧ ∀ s3, ev_up s1 5 (Int.toNat a1) r2 = s3 → ((0 ≤ a1 ∧ a1 < (6 : Nat)) ∧ (Ev layM M_X12_kept d 0 [(0, ev_r 0), (1, ev_i (s3 27 (Int.toNat a1)))] [] s3 (ev_pi (fun r5 s4 => ((0 ≤ a1 ∧ a1 < (6 : Nat)) ∧ ∀ s6, ev_up s4 27 (Int.toNat a1) r5 = s6 → Ev layM M_X12_keepsTexts (d + 1) 63 [(0, ev_r 0), (1, ev_i (ev_add a1 1))] [] s6 Q))))))))))))) :
    Ev layM M_X12_keepsTexts (d + 1) 63 [(0, ev_r 0), (1, ev_i a1)] [] s Q := by
  refine Ev_iload_n 1 dX12_keepsTexts_63 rfl rfl ?_
  refine Ev_bipushC dX12_keepsTexts_64 rfl ?_
  refine Ev_icmp_ge (tgt := 107) dX12_keepsTexts_66 rfl (fun c => ?_) (fun c => ?_)
  · replace h := h.1 c
    refine Ev_iconst dX12_keepsTexts_107 rfl (ev_Rc rfl) ?_
    refine Ev_istore_n (l' := [(1, ev_i 0), (0, ev_r 0)]) dX12_keepsTexts_108 rfl (Nat.le_of_ble_eq_true rfl) rfl ?_
    exact Ev_sub [1, 0] rfl h
  · replace h := h.2 c
    refine Ev_aload_n 0 dX12_keepsTexts_69 rfl rfl ?_
    refine Ev_getR (i := 13) cl_X12 yM_0 (Nat.le_of_ble_eq_true rfl) rfl wd_1457 dX12_keepsTexts_70 ?_
    refine Ev_iload_n 1 dX12_keepsTexts_73 rfl rfl ?_
    refine Ev_aload_n 0 dX12_keepsTexts_74 rfl rfl ?_
    refine Ev_aload_n 0 dX12_keepsTexts_75 rfl rfl ?_
    refine Ev_getR (i := 13) cl_X12 yM_0 (Nat.le_of_ble_eq_true rfl) rfl wd_1457 dX12_keepsTexts_76 ?_
    refine Ev_iload_n 1 dX12_keepsTexts_79 rfl rfl ?_
    obtain ⟨h0, h⟩ := h
    refine Ev_iald yM_5 h0 dX12_keepsTexts_80 ?_
    refine Ev_callV (As := [ev_i (s 5 (Int.toNat a1))]) (b := 0) (st := [ev_i a1, ev_r 5]) (M' := M_X12_kept) cm_X12_kept wd_2134 wd_2136 wd_169 yM_0 cl_X12 rfl dX12_keepsTexts_81 (Nat.le_refl _) rfl (Nat.le_of_ble_eq_true rfl) (Nat.le_of_ble_eq_true rfl) h (fun v u h hk => ?_)
    obtain ⟨r2, rfl⟩ := hk
    obtain ⟨s1, rfl⟩ : ∃ x, x = u := ⟨_, rfl⟩
    replace h := h r2 rfl
    obtain ⟨h0, h⟩ := h
    refine Ev_iast yM_5 h0 dX12_keepsTexts_84 (Ev_nm (fun s3 es3 => ?_))
    replace h := h s3 es3
    refine Ev_aload_n 0 dX12_keepsTexts_85 rfl rfl ?_
    refine Ev_getR (i := 50) cl_X12 yM_0 (Nat.le_of_ble_eq_true rfl) rfl wd_1494 dX12_keepsTexts_86 ?_
    refine Ev_iload_n 1 dX12_keepsTexts_89 rfl rfl ?_
    refine Ev_aload_n 0 dX12_keepsTexts_90 rfl rfl ?_
    refine Ev_aload_n 0 dX12_keepsTexts_91 rfl rfl ?_
    refine Ev_getR (i := 50) cl_X12 yM_0 (Nat.le_of_ble_eq_true rfl) rfl wd_1494 dX12_keepsTexts_92 ?_
    refine Ev_iload_n 1 dX12_keepsTexts_95 rfl rfl ?_
    obtain ⟨h0, h⟩ := h
    refine Ev_iald yM_27 h0 dX12_keepsTexts_96 ?_
    refine Ev_callV (As := [ev_i (s3 27 (Int.toNat a1))]) (b := 0) (st := [ev_i a1, ev_r 27]) (M' := M_X12_kept) cm_X12_kept wd_2134 wd_2136 wd_169 yM_0 cl_X12 rfl dX12_keepsTexts_97 (Nat.le_refl _) rfl (Nat.le_of_ble_eq_true rfl) (Nat.le_of_ble_eq_true rfl) h (fun v u h hk => ?_)
    obtain ⟨r5, rfl⟩ := hk
    obtain ⟨s4, rfl⟩ : ∃ x, x = u := ⟨_, rfl⟩
    replace h := h r5 rfl
    obtain ⟨h0, h⟩ := h
    refine Ev_iast yM_27 h0 dX12_keepsTexts_100 (Ev_nm (fun s6 es6 => ?_))
    replace h := h s6 es6
    refine Ev_iinc (j := 1) (l' := [(1, ev_i (ev_add a1 1)), (0, ev_r 0)]) dX12_keepsTexts_101 rfl (Nat.le_of_ble_eq_true rfl) rfl ?_
    refine Ev_goto (tgt := 63) dX12_keepsTexts_104 rfl ?_
    exact Ev_sub [1, 0] rfl h
theorem wp_X12_keepsTexts_109 {d : Nat} {s : ev_S} {Q : Option ev_V → ev_S → Prop} {a1 : Int}
    (h : ((240 ≤ a1 → (Ev layM M_X12_kept d 0 [(0, ev_r 0), (1, ev_i (s 0 46))] [] s (ev_pi (fun r2 s1 => (∀ s3, ev_up s1 0 46 r2 = s3 → Ev layM M_X12_keepsTexts (d + 1) 168 [(0, ev_r 0), (1, ev_i 0)] [] s3 Q))))) ∧ (a1 < 240 → ((0 ≤ a1 ∧ a1 < (280 : Nat)) ∧ (Ev layM M_X12_kept d 0 [(0, ev_r 0), (1, ev_i (s 25 (Int.toNat a1)))] [] s (ev_pi (fun r5 s4 => ((0 ≤ a1 ∧ a1 < (280 : Nat)) ∧ ∀ s6, ev_up s4 25 (Int.toNat a1) r5 = s6 → ((0 ≤ a1 ∧ a1 < (280 : Nat)) ∧ (Ev layM M_X12_kept d 0 [(0, ev_r 0), (1, ev_i (s6 26 (Int.toNat a1)))] [] s6 (ev_pi (fun r8 s7 => ((0 ≤ a1 ∧ a1 < (280 : Nat)) ∧ ∀ s9, ev_up s7 26 (Int.toNat a1) r8 = s9 → Ev layM M_X12_keepsTexts (d + 1) 109 [(0, ev_r 0), (1, ev_i (ev_add a1 1))] [] s9 Q))))))))))))) :
    Ev layM M_X12_keepsTexts (d + 1) 109 [(0, ev_r 0), (1, ev_i a1)] [] s Q := by
  refine Ev_iload_n 1 dX12_keepsTexts_109 rfl rfl ?_
  refine Ev_sipushC dX12_keepsTexts_110 rfl ?_
  refine Ev_icmp_ge (tgt := 154) dX12_keepsTexts_113 rfl (fun c => ?_) (fun c => ?_)
  · replace h := h.1 c
    refine Ev_aload_n 0 dX12_keepsTexts_154 rfl rfl ?_
    refine Ev_aload_n 0 dX12_keepsTexts_155 rfl rfl ?_
    refine Ev_aload_n 0 dX12_keepsTexts_156 rfl rfl ?_
    refine Ev_get (i := 46) cl_X12 yM_0 (Nat.le_of_ble_eq_true rfl) rfl wd_1490 dX12_keepsTexts_157 ?_
    refine Ev_callV (As := [ev_i (s 0 46)]) (b := 0) (st := [ev_r 0]) (M' := M_X12_kept) cm_X12_kept wd_2134 wd_2136 wd_169 yM_0 cl_X12 rfl dX12_keepsTexts_160 (Nat.le_refl _) rfl (Nat.le_of_ble_eq_true rfl) (Nat.le_of_ble_eq_true rfl) h (fun v u h hk => ?_)
    obtain ⟨r2, rfl⟩ := hk
    obtain ⟨s1, rfl⟩ : ∃ x, x = u := ⟨_, rfl⟩
    replace h := h r2 rfl
    refine Ev_put (i := 46) (ty := .int) cl_X12 yM_0 (Nat.le_of_ble_eq_true rfl) rfl rfl (by decide +kernel) rfl rfl wd_1490 dX12_keepsTexts_163 (Ev_nm (fun s3 es3 => ?_))
    replace h := h s3 es3
    refine Ev_iconst dX12_keepsTexts_166 rfl (ev_Rc rfl) ?_
    refine Ev_istore_n (l' := [(1, ev_i 0), (0, ev_r 0)]) dX12_keepsTexts_167 rfl (Nat.le_of_ble_eq_true rfl) rfl ?_
    exact Ev_sub [1, 0] rfl h
  · replace h := h.2 c
    refine Ev_aload_n 0 dX12_keepsTexts_116 rfl rfl ?_
    refine Ev_getR (i := 48) cl_X12 yM_0 (Nat.le_of_ble_eq_true rfl) rfl wd_1492 dX12_keepsTexts_117 ?_
    refine Ev_iload_n 1 dX12_keepsTexts_120 rfl rfl ?_
    refine Ev_aload_n 0 dX12_keepsTexts_121 rfl rfl ?_
    refine Ev_aload_n 0 dX12_keepsTexts_122 rfl rfl ?_
    refine Ev_getR (i := 48) cl_X12 yM_0 (Nat.le_of_ble_eq_true rfl) rfl wd_1492 dX12_keepsTexts_123 ?_
    refine Ev_iload_n 1 dX12_keepsTexts_126 rfl rfl ?_
    obtain ⟨h0, h⟩ := h
    refine Ev_iald yM_25 h0 dX12_keepsTexts_127 ?_
    refine Ev_callV (As := [ev_i (s 25 (Int.toNat a1))]) (b := 0) (st := [ev_i a1, ev_r 25]) (M' := M_X12_kept) cm_X12_kept wd_2134 wd_2136 wd_169 yM_0 cl_X12 rfl dX12_keepsTexts_128 (Nat.le_refl _) rfl (Nat.le_of_ble_eq_true rfl) (Nat.le_of_ble_eq_true rfl) h (fun v u h hk => ?_)
    obtain ⟨r5, rfl⟩ := hk
    obtain ⟨s4, rfl⟩ : ∃ x, x = u := ⟨_, rfl⟩
    replace h := h r5 rfl
    obtain ⟨h0, h⟩ := h
    refine Ev_iast yM_25 h0 dX12_keepsTexts_131 (Ev_nm (fun s6 es6 => ?_))
    replace h := h s6 es6
    refine Ev_aload_n 0 dX12_keepsTexts_132 rfl rfl ?_
    refine Ev_getR (i := 49) cl_X12 yM_0 (Nat.le_of_ble_eq_true rfl) rfl wd_1493 dX12_keepsTexts_133 ?_
    refine Ev_iload_n 1 dX12_keepsTexts_136 rfl rfl ?_
    refine Ev_aload_n 0 dX12_keepsTexts_137 rfl rfl ?_
    refine Ev_aload_n 0 dX12_keepsTexts_138 rfl rfl ?_
    refine Ev_getR (i := 49) cl_X12 yM_0 (Nat.le_of_ble_eq_true rfl) rfl wd_1493 dX12_keepsTexts_139 ?_
    refine Ev_iload_n 1 dX12_keepsTexts_142 rfl rfl ?_
    obtain ⟨h0, h⟩ := h
    refine Ev_iald yM_26 h0 dX12_keepsTexts_143 ?_
    refine Ev_callV (As := [ev_i (s6 26 (Int.toNat a1))]) (b := 0) (st := [ev_i a1, ev_r 26]) (M' := M_X12_kept) cm_X12_kept wd_2134 wd_2136 wd_169 yM_0 cl_X12 rfl dX12_keepsTexts_144 (Nat.le_refl _) rfl (Nat.le_of_ble_eq_true rfl) (Nat.le_of_ble_eq_true rfl) h (fun v u h hk => ?_)
    obtain ⟨r8, rfl⟩ := hk
    obtain ⟨s7, rfl⟩ : ∃ x, x = u := ⟨_, rfl⟩
    replace h := h r8 rfl
    obtain ⟨h0, h⟩ := h
    refine Ev_iast yM_26 h0 dX12_keepsTexts_147 (Ev_nm (fun s9 es9 => ?_))
    replace h := h s9 es9
    refine Ev_iinc (j := 1) (l' := [(1, ev_i (ev_add a1 1)), (0, ev_r 0)]) dX12_keepsTexts_148 rfl (Nat.le_of_ble_eq_true rfl) rfl ?_
    refine Ev_goto (tgt := 109) dX12_keepsTexts_151 rfl ?_
    exact Ev_sub [1, 0] rfl h
theorem wp_X12_keepsTexts_168 {d : Nat} {s : ev_S} {Q : Option ev_V → ev_S → Prop} {a1 : Int}
    (h : ((70 ≤ a1 → Q none s) ∧ (a1 < 70 → ((0 ≤ a1 ∧ a1 < (140 : Nat)) ∧ (Ev layM M_X12_kept d 0 [(0, ev_r 0), (1, ev_i (s 24 (Int.toNat a1)))] [] s (ev_pi (fun r2 s1 => ((0 ≤ a1 ∧ a1 < (140 : Nat)) ∧ ∀ s3, ev_up s1 24 (Int.toNat a1) r2 = s3 → Ev layM M_X12_keepsTexts (d + 1) 168 [(0, ev_r 0), (1, ev_i (ev_add a1 1))] [] s3 Q)))))))) :
    Ev layM M_X12_keepsTexts (d + 1) 168 [(0, ev_r 0), (1, ev_i a1)] [] s Q := by
  refine Ev_iload_n 1 dX12_keepsTexts_168 rfl rfl ?_
  refine Ev_bipushC dX12_keepsTexts_169 rfl ?_
  refine Ev_icmp_ge (tgt := 196) dX12_keepsTexts_171 rfl (fun c => ?_) (fun c => ?_)
  · replace h := h.1 c
    exact Ev_vret rfl dX12_keepsTexts_196 h
  · replace h := h.2 c
    refine Ev_aload_n 0 dX12_keepsTexts_174 rfl rfl ?_
    refine Ev_getR (i := 47) cl_X12 yM_0 (Nat.le_of_ble_eq_true rfl) rfl wd_1491 dX12_keepsTexts_175 ?_
    refine Ev_iload_n 1 dX12_keepsTexts_178 rfl rfl ?_
    refine Ev_aload_n 0 dX12_keepsTexts_179 rfl rfl ?_
    refine Ev_aload_n 0 dX12_keepsTexts_180 rfl rfl ?_
    refine Ev_getR (i := 47) cl_X12 yM_0 (Nat.le_of_ble_eq_true rfl) rfl wd_1491 dX12_keepsTexts_181 ?_
    refine Ev_iload_n 1 dX12_keepsTexts_184 rfl rfl ?_
    obtain ⟨h0, h⟩ := h
    refine Ev_iald yM_24 h0 dX12_keepsTexts_185 ?_
    refine Ev_callV (As := [ev_i (s 24 (Int.toNat a1))]) (b := 0) (st := [ev_i a1, ev_r 24]) (M' := M_X12_kept) cm_X12_kept wd_2134 wd_2136 wd_169 yM_0 cl_X12 rfl dX12_keepsTexts_186 (Nat.le_refl _) rfl (Nat.le_of_ble_eq_true rfl) (Nat.le_of_ble_eq_true rfl) h (fun v u h hk => ?_)
    obtain ⟨r2, rfl⟩ := hk
    obtain ⟨s1, rfl⟩ : ∃ x, x = u := ⟨_, rfl⟩
    replace h := h r2 rfl
    obtain ⟨h0, h⟩ := h
    refine Ev_iast yM_24 h0 dX12_keepsTexts_189 (Ev_nm (fun s3 es3 => ?_))
    replace h := h s3 es3
    refine Ev_iinc (j := 1) (l' := [(1, ev_i (ev_add a1 1)), (0, ev_r 0)]) dX12_keepsTexts_190 rfl (Nat.le_of_ble_eq_true rfl) rfl ?_
    refine Ev_goto (tgt := 168) dX12_keepsTexts_193 rfl ?_
    exact Ev_sub [1, 0] rfl h
theorem dX12_image_0 : decode cX12_image 0 = .ok (.aload_n 0, 1) := by decide +kernel
theorem dX12_image_1 : decode cX12_image 1 = .ok (.iconst 0, 1) := by decide +kernel
theorem dX12_image_2 : decode cX12_image 2 = .ok (.putfield 124, 3) := by decide +kernel
theorem dX12_image_5 : decode cX12_image 5 = .ok (.iload_n 1, 1) := by decide +kernel
theorem dX12_image_6 : decode cX12_image 6 = .ok (.ifCond .ne 12, 3) := by decide +kernel
theorem dX12_image_9 : decode cX12_image 9 = .ok (.aload_n 0, 1) := by decide +kernel
theorem dX12_image_10 : decode cX12_image 10 = .ok (.getfield 520, 3) := by decide +kernel
theorem dX12_image_13 : decode cX12_image 13 = .ok (.ifCond .ne 5, 3) := by decide +kernel
theorem dX12_image_16 : decode cX12_image 16 = .ok (.iconst 0, 1) := by decide +kernel
theorem dX12_image_17 : decode cX12_image 17 = .ok (.ireturn, 1) := by decide +kernel
theorem dX12_image_18 : decode cX12_image 18 = .ok (.aload_n 0, 1) := by decide +kernel
theorem dX12_image_19 : decode cX12_image 19 = .ok (.iload_n 1, 1) := by decide +kernel
theorem dX12_image_20 : decode cX12_image 20 = .ok (.putfield 514, 3) := by decide +kernel
theorem dX12_image_23 : decode cX12_image 23 = .ok (.aload_n 0, 1) := by decide +kernel
theorem dX12_image_24 : decode cX12_image 24 = .ok (.iconst 1, 1) := by decide +kernel
theorem dX12_image_25 : decode cX12_image 25 = .ok (.putfield 520, 3) := by decide +kernel
theorem dX12_image_28 : decode cX12_image 28 = .ok (.aload_n 0, 1) := by decide +kernel
theorem dX12_image_29 : decode cX12_image 29 = .ok (.iconst 0, 1) := by decide +kernel
theorem dX12_image_30 : decode cX12_image 30 = .ok (.putfield 511, 3) := by decide +kernel
theorem dX12_image_33 : decode cX12_image 33 = .ok (.iconst 0, 1) := by decide +kernel
theorem dX12_image_34 : decode cX12_image 34 = .ok (.istore_n 2, 1) := by decide +kernel
theorem dX12_image_35 : decode cX12_image 35 = .ok (.iload_n 2, 1) := by decide +kernel
theorem dX12_image_36 : decode cX12_image 36 = .ok (.bipush 87, 2) := by decide +kernel
theorem dX12_image_38 : decode cX12_image 38 = .ok (.if_icmp .ge 25, 3) := by decide +kernel
theorem dX12_image_41 : decode cX12_image 41 = .ok (.aload_n 0, 1) := by decide +kernel
theorem dX12_image_42 : decode cX12_image 42 = .ok (.getfield 7, 3) := by decide +kernel
theorem dX12_image_45 : decode cX12_image 45 = .ok (.iload_n 2, 1) := by decide +kernel
theorem dX12_image_46 : decode cX12_image 46 = .ok (.aload_n 0, 1) := by decide +kernel
theorem dX12_image_47 : decode cX12_image 47 = .ok (.aload_n 0, 1) := by decide +kernel
theorem dX12_image_48 : decode cX12_image 48 = .ok (.getfield 7, 3) := by decide +kernel
theorem dX12_image_51 : decode cX12_image 51 = .ok (.iload_n 2, 1) := by decide +kernel
theorem dX12_image_52 : decode cX12_image 52 = .ok (.iaload, 1) := by decide +kernel
theorem dX12_image_53 : decode cX12_image 53 = .ok (.invokevirtual 517, 3) := by decide +kernel
theorem dX12_image_56 : decode cX12_image 56 = .ok (.iastore, 1) := by decide +kernel
theorem dX12_image_57 : decode cX12_image 57 = .ok (.iinc 2 1, 3) := by decide +kernel
theorem dX12_image_60 : decode cX12_image 60 = .ok (.goto (-25), 3) := by decide +kernel
theorem dX12_image_63 : decode cX12_image 63 = .ok (.aload_n 0, 1) := by decide +kernel
theorem dX12_image_64 : decode cX12_image 64 = .ok (.invokevirtual 523, 3) := by decide +kernel
theorem dX12_image_67 : decode cX12_image 67 = .ok (.aload_n 0, 1) := by decide +kernel
theorem dX12_image_68 : decode cX12_image 68 = .ok (.invokevirtual 526, 3) := by decide +kernel
theorem dX12_image_71 : decode cX12_image 71 = .ok (.iconst 0, 1) := by decide +kernel
theorem dX12_image_72 : decode cX12_image 72 = .ok (.istore_n 2, 1) := by decide +kernel
theorem dX12_image_73 : decode cX12_image 73 = .ok (.iload_n 2, 1) := by decide +kernel
theorem dX12_image_74 : decode cX12_image 74 = .ok (.sipush 500, 3) := by decide +kernel
theorem dX12_image_77 : decode cX12_image 77 = .ok (.if_icmp .ge 25, 3) := by decide +kernel
theorem dX12_image_80 : decode cX12_image 80 = .ok (.aload_n 0, 1) := by decide +kernel
theorem dX12_image_81 : decode cX12_image 81 = .ok (.getfield 34, 3) := by decide +kernel
theorem dX12_image_84 : decode cX12_image 84 = .ok (.iload_n 2, 1) := by decide +kernel
theorem dX12_image_85 : decode cX12_image 85 = .ok (.aload_n 0, 1) := by decide +kernel
theorem dX12_image_86 : decode cX12_image 86 = .ok (.aload_n 0, 1) := by decide +kernel
theorem dX12_image_87 : decode cX12_image 87 = .ok (.getfield 34, 3) := by decide +kernel
theorem dX12_image_90 : decode cX12_image 90 = .ok (.iload_n 2, 1) := by decide +kernel
theorem dX12_image_91 : decode cX12_image 91 = .ok (.iaload, 1) := by decide +kernel
theorem dX12_image_92 : decode cX12_image 92 = .ok (.invokevirtual 517, 3) := by decide +kernel
theorem dX12_image_95 : decode cX12_image 95 = .ok (.iastore, 1) := by decide +kernel
theorem dX12_image_96 : decode cX12_image 96 = .ok (.iinc 2 1, 3) := by decide +kernel
theorem dX12_image_99 : decode cX12_image 99 = .ok (.goto (-26), 3) := by decide +kernel
theorem dX12_image_102 : decode cX12_image 102 = .ok (.aload_n 0, 1) := by decide +kernel
theorem dX12_image_103 : decode cX12_image 103 = .ok (.invokevirtual 529, 3) := by decide +kernel
theorem dX12_image_106 : decode cX12_image 106 = .ok (.iload_n 1, 1) := by decide +kernel
theorem dX12_image_107 : decode cX12_image 107 = .ok (.ifCond .ne 8, 3) := by decide +kernel
theorem dX12_image_110 : decode cX12_image 110 = .ok (.aload_n 0, 1) := by decide +kernel
theorem dX12_image_111 : decode cX12_image 111 = .ok (.iconst 0, 1) := by decide +kernel
theorem dX12_image_112 : decode cX12_image 112 = .ok (.putfield 127, 3) := by decide +kernel
theorem dX12_image_115 : decode cX12_image 115 = .ok (.iconst 1, 1) := by decide +kernel
theorem dX12_image_116 : decode cX12_image 116 = .ok (.ireturn, 1) := by decide +kernel
theorem wp_X12_image_0 {d : Nat} {s : ev_S} {Q : Option ev_V → ev_S → Prop} {a1 : Int}
    (h : (∀ s1, ev_up s 0 0 0 = s1 → ((a1 ≠ 0 → Ev layM M_X12_image (d + 1) 18 [(0, ev_r 0), (1, ev_i a1)] [] s1 Q) ∧ (a1 = 0 → (((s1 0 61) ≠ 0 → Ev layM M_X12_image (d + 1) 18 [(0, ev_r 0), (1, ev_i a1)] [] s1 Q) ∧ ((s1 0 61) = 0 → Q (some (ev_i 0)) s1)))))) :
    Ev layM M_X12_image (d + 1) 0 [(0, ev_r 0), (1, ev_i a1)] [] s Q := by
  refine Ev_aload_n 0 dX12_image_0 rfl rfl ?_
  refine Ev_iconst dX12_image_1 rfl (ev_Rc rfl) ?_
  refine Ev_put (i := 0) (ty := .int) cl_X12 yM_0 (Nat.le_of_ble_eq_true rfl) rfl rfl (by decide +kernel) rfl rfl wd_1444 dX12_image_2 (Ev_nm (fun s1 es1 => ?_))
  replace h := h s1 es1
  refine Ev_iload_n 1 dX12_image_5 rfl rfl ?_
  refine Ev_if_ne (tgt := 18) dX12_image_6 rfl (fun c => ?_) (fun c => ?_)
  · replace h := h.1 c
    exact Ev_sub [0, 1] rfl h
  · replace h := h.2 c
    refine Ev_aload_n 0 dX12_image_9 rfl rfl ?_
    refine Ev_get (i := 61) cl_X12 yM_0 (Nat.le_of_ble_eq_true rfl) rfl wd_1505 dX12_image_10 ?_
    refine Ev_if_ne (tgt := 18) dX12_image_13 rfl (fun c => ?_) (fun c => ?_)
    · replace h := h.1 c
      exact Ev_sub [0, 1] rfl h
    · replace h := h.2 c
      refine Ev_iconst dX12_image_16 rfl (ev_Rc rfl) ?_
      exact Ev_iret rfl dX12_image_17 (ev_nb (by decide)) h
theorem wp_X12_image_18 {d : Nat} {s : ev_S} {Q : Option ev_V → ev_S → Prop} {a1 : Int}
    (h : ((a1 = 0 ∨ a1 = 1) ∧ ∀ s1, ev_up s 0 60 a1 = s1 → (∀ s2, ev_up s1 0 61 1 = s2 → (∀ s3, ev_up s2 0 62 0 = s3 → Ev layM M_X12_image (d + 1) 35 [(0, ev_r 0), (1, ev_i a1), (2, ev_i 0)] [] s3 Q)))) :
    Ev layM M_X12_image (d + 1) 18 [(0, ev_r 0), (1, ev_i a1)] [] s Q := by
  refine Ev_aload_n 0 dX12_image_18 rfl rfl ?_
  refine Ev_iload_n 1 dX12_image_19 rfl rfl ?_
  obtain ⟨h0, h⟩ := h
  refine Ev_put (i := 60) (ty := .boolean) cl_X12 yM_0 (Nat.le_of_ble_eq_true rfl) rfl rfl (by decide +kernel) (ev_nb h0) (ev_fb h0) wd_1504 dX12_image_20 (Ev_nm (fun s1 es1 => ?_))
  replace h := h s1 es1
  refine Ev_aload_n 0 dX12_image_23 rfl rfl ?_
  refine Ev_iconst dX12_image_24 rfl (ev_Rc rfl) ?_
  refine Ev_put (i := 61) (ty := .boolean) cl_X12 yM_0 (Nat.le_of_ble_eq_true rfl) rfl rfl (by decide +kernel) (ev_nb (by decide)) (ev_fb (by decide)) wd_1505 dX12_image_25 (Ev_nm (fun s2 es2 => ?_))
  replace h := h s2 es2
  refine Ev_aload_n 0 dX12_image_28 rfl rfl ?_
  refine Ev_iconst dX12_image_29 rfl (ev_Rc rfl) ?_
  refine Ev_put (i := 62) (ty := .int) cl_X12 yM_0 (Nat.le_of_ble_eq_true rfl) rfl rfl (by decide +kernel) rfl rfl wd_1506 dX12_image_30 (Ev_nm (fun s3 es3 => ?_))
  replace h := h s3 es3
  refine Ev_iconst dX12_image_33 rfl (ev_Rc rfl) ?_
  refine Ev_istore_n (l' := [(2, ev_i 0), (0, ev_r 0), (1, ev_i a1)]) dX12_image_34 rfl (Nat.le_of_ble_eq_true rfl) rfl ?_
  exact Ev_sub [1, 2, 0] rfl h
theorem wp_X12_image_35 {d : Nat} {s : ev_S} {Q : Option ev_V → ev_S → Prop} {a1 a2 : Int}
    (h : ((87 ≤ a2 → (Ev layM M_X12_keepsTown d 0 [(0, ev_r 0)] [] s (fun _ s1 => (Ev layM M_X12_keepsTexts d 0 [(0, ev_r 0)] [] s1 (fun _ s2 => Ev layM M_X12_image (d + 1) 73 [(0, ev_r 0), (1, ev_i a1), (2, ev_i 0)] [] s2 Q))))) ∧ (a2 < 87 → ((0 ≤ a2 ∧ a2 < (87 : Nat)) ∧ (Ev layM M_X12_kept d 0 [(0, ev_r 0), (1, ev_i (s 1 (Int.toNat a2)))] [] s (ev_pi (fun r4 s3 => ((0 ≤ a2 ∧ a2 < (87 : Nat)) ∧ ∀ s5, ev_up s3 1 (Int.toNat a2) r4 = s5 → Ev layM M_X12_image (d + 1) 35 [(0, ev_r 0), (1, ev_i a1), (2, ev_i (ev_add a2 1))] [] s5 Q)))))))) :
    Ev layM M_X12_image (d + 1) 35 [(0, ev_r 0), (1, ev_i a1), (2, ev_i a2)] [] s Q := by
  refine Ev_iload_n 2 dX12_image_35 rfl rfl ?_
  refine Ev_bipushC dX12_image_36 rfl ?_
  refine Ev_icmp_ge (tgt := 63) dX12_image_38 rfl (fun c => ?_) (fun c => ?_)
  · replace h := h.1 c
    refine Ev_aload_n 0 dX12_image_63 rfl rfl ?_
    refine Ev_callV (As := []) (b := 0) (st := []) (M' := M_X12_keepsTown) cm_X12_keepsTown wd_2138 wd_2140 wd_170 yM_0 cl_X12 rfl dX12_image_64 (Nat.le_refl _) rfl (Nat.le_of_ble_eq_true rfl) (Nat.le_of_ble_eq_true rfl) h (fun v u h hk => ?_)
    cases hk
    obtain ⟨s1, rfl⟩ : ∃ x, x = u := ⟨_, rfl⟩
    refine Ev_aload_n 0 dX12_image_67 rfl rfl ?_
    refine Ev_callV (As := []) (b := 0) (st := []) (M' := M_X12_keepsTexts) cm_X12_keepsTexts wd_2142 wd_2144 wd_171 yM_0 cl_X12 rfl dX12_image_68 (Nat.le_refl _) rfl (Nat.le_of_ble_eq_true rfl) (Nat.le_of_ble_eq_true rfl) h (fun v u h hk => ?_)
    cases hk
    obtain ⟨s2, rfl⟩ : ∃ x, x = u := ⟨_, rfl⟩
    refine Ev_iconst dX12_image_71 rfl (ev_Rc rfl) ?_
    refine Ev_istore_n (l' := [(2, ev_i 0), (0, ev_r 0), (1, ev_i a1)]) dX12_image_72 rfl (Nat.le_of_ble_eq_true rfl) rfl ?_
    exact Ev_sub [1, 2, 0] rfl h
  · replace h := h.2 c
    refine Ev_aload_n 0 dX12_image_41 rfl rfl ?_
    refine Ev_getR (i := 1) cl_X12 yM_0 (Nat.le_of_ble_eq_true rfl) rfl wd_1445 dX12_image_42 ?_
    refine Ev_iload_n 2 dX12_image_45 rfl rfl ?_
    refine Ev_aload_n 0 dX12_image_46 rfl rfl ?_
    refine Ev_aload_n 0 dX12_image_47 rfl rfl ?_
    refine Ev_getR (i := 1) cl_X12 yM_0 (Nat.le_of_ble_eq_true rfl) rfl wd_1445 dX12_image_48 ?_
    refine Ev_iload_n 2 dX12_image_51 rfl rfl ?_
    obtain ⟨h0, h⟩ := h
    refine Ev_iald yM_1 h0 dX12_image_52 ?_
    refine Ev_callV (As := [ev_i (s 1 (Int.toNat a2))]) (b := 0) (st := [ev_i a2, ev_r 1]) (M' := M_X12_kept) cm_X12_kept wd_2134 wd_2136 wd_169 yM_0 cl_X12 rfl dX12_image_53 (Nat.le_refl _) rfl (Nat.le_of_ble_eq_true rfl) (Nat.le_of_ble_eq_true rfl) h (fun v u h hk => ?_)
    obtain ⟨r4, rfl⟩ := hk
    obtain ⟨s3, rfl⟩ : ∃ x, x = u := ⟨_, rfl⟩
    replace h := h r4 rfl
    obtain ⟨h0, h⟩ := h
    refine Ev_iast yM_1 h0 dX12_image_56 (Ev_nm (fun s5 es5 => ?_))
    replace h := h s5 es5
    refine Ev_iinc (j := 2) (l' := [(2, ev_i (ev_add a2 1)), (0, ev_r 0), (1, ev_i a1)]) dX12_image_57 rfl (Nat.le_of_ble_eq_true rfl) rfl ?_
    refine Ev_goto (tgt := 35) dX12_image_60 rfl ?_
    exact Ev_sub [1, 2, 0] rfl h
theorem wp_X12_image_73 {d : Nat} {s : ev_S} {Q : Option ev_V → ev_S → Prop} {a1 a2 : Int}
    (h : ((500 ≤ a2 → (Ev layM M_X12_keepsLaw d 0 [(0, ev_r 0)] [] s (fun _ s1 => ((a1 ≠ 0 → Q (some (ev_i 1)) s1) ∧ (a1 = 0 → (∀ s2, ev_up s1 0 3 0 = s2 → Q (some (ev_i 1)) s2)))))) ∧ (a2 < 500 → ((0 ≤ a2 ∧ a2 < (500 : Nat)) ∧ (Ev layM M_X12_kept d 0 [(0, ev_r 0), (1, ev_i (s 9 (Int.toNat a2)))] [] s (ev_pi (fun r4 s3 => ((0 ≤ a2 ∧ a2 < (500 : Nat)) ∧ ∀ s5, ev_up s3 9 (Int.toNat a2) r4 = s5 → Ev layM M_X12_image (d + 1) 73 [(0, ev_r 0), (1, ev_i a1), (2, ev_i (ev_add a2 1))] [] s5 Q)))))))) :
    Ev layM M_X12_image (d + 1) 73 [(0, ev_r 0), (1, ev_i a1), (2, ev_i a2)] [] s Q := by
  refine Ev_iload_n 2 dX12_image_73 rfl rfl ?_
  refine Ev_sipushC dX12_image_74 rfl ?_
  refine Ev_icmp_ge (tgt := 102) dX12_image_77 rfl (fun c => ?_) (fun c => ?_)
  · replace h := h.1 c
    refine Ev_aload_n 0 dX12_image_102 rfl rfl ?_
    refine Ev_callV (As := []) (b := 0) (st := []) (M' := M_X12_keepsLaw) cm_X12_keepsLaw wd_2146 wd_2148 wd_172 yM_0 cl_X12 rfl dX12_image_103 (Nat.le_refl _) rfl (Nat.le_of_ble_eq_true rfl) (Nat.le_of_ble_eq_true rfl) h (fun v u h hk => ?_)
    cases hk
    obtain ⟨s1, rfl⟩ : ∃ x, x = u := ⟨_, rfl⟩
    refine Ev_iload_n 1 dX12_image_106 rfl rfl ?_
    refine Ev_if_ne (tgt := 115) dX12_image_107 rfl (fun c => ?_) (fun c => ?_)
    · replace h := h.1 c
      refine Ev_iconst dX12_image_115 rfl (ev_Rc rfl) ?_
      exact Ev_iret rfl dX12_image_116 (ev_nb (by decide)) h
    · replace h := h.2 c
      refine Ev_aload_n 0 dX12_image_110 rfl rfl ?_
      refine Ev_iconst dX12_image_111 rfl (ev_Rc rfl) ?_
      refine Ev_put (i := 3) (ty := .int) cl_X12 yM_0 (Nat.le_of_ble_eq_true rfl) rfl rfl (by decide +kernel) rfl rfl wd_1447 dX12_image_112 (Ev_nm (fun s2 es2 => ?_))
      replace h := h s2 es2
      refine Ev_iconst dX12_image_115 rfl (ev_Rc rfl) ?_
      exact Ev_iret rfl dX12_image_116 (ev_nb (by decide)) h
  · replace h := h.2 c
    refine Ev_aload_n 0 dX12_image_80 rfl rfl ?_
    refine Ev_getR (i := 17) cl_X12 yM_0 (Nat.le_of_ble_eq_true rfl) rfl wd_1461 dX12_image_81 ?_
    refine Ev_iload_n 2 dX12_image_84 rfl rfl ?_
    refine Ev_aload_n 0 dX12_image_85 rfl rfl ?_
    refine Ev_aload_n 0 dX12_image_86 rfl rfl ?_
    refine Ev_getR (i := 17) cl_X12 yM_0 (Nat.le_of_ble_eq_true rfl) rfl wd_1461 dX12_image_87 ?_
    refine Ev_iload_n 2 dX12_image_90 rfl rfl ?_
    obtain ⟨h0, h⟩ := h
    refine Ev_iald yM_9 h0 dX12_image_91 ?_
    refine Ev_callV (As := [ev_i (s 9 (Int.toNat a2))]) (b := 0) (st := [ev_i a2, ev_r 9]) (M' := M_X12_kept) cm_X12_kept wd_2134 wd_2136 wd_169 yM_0 cl_X12 rfl dX12_image_92 (Nat.le_refl _) rfl (Nat.le_of_ble_eq_true rfl) (Nat.le_of_ble_eq_true rfl) h (fun v u h hk => ?_)
    obtain ⟨r4, rfl⟩ := hk
    obtain ⟨s3, rfl⟩ : ∃ x, x = u := ⟨_, rfl⟩
    replace h := h r4 rfl
    obtain ⟨h0, h⟩ := h
    refine Ev_iast yM_9 h0 dX12_image_95 (Ev_nm (fun s5 es5 => ?_))
    replace h := h s5 es5
    refine Ev_iinc (j := 2) (l' := [(2, ev_i (ev_add a2 1)), (0, ev_r 0), (1, ev_i a1)]) dX12_image_96 rfl (Nat.le_of_ble_eq_true rfl) rfl ?_
    refine Ev_goto (tgt := 73) dX12_image_99 rfl ?_
    exact Ev_sub [1, 2, 0] rfl h
theorem dX12_allOver_0 : decode cX12_allOver 0 = .ok (.iconst 0, 1) := by decide +kernel
theorem dX12_allOver_1 : decode cX12_allOver 1 = .ok (.istore_n 3, 1) := by decide +kernel
theorem dX12_allOver_2 : decode cX12_allOver 2 = .ok (.iconst 0, 1) := by decide +kernel
theorem dX12_allOver_3 : decode cX12_allOver 3 = .ok (.istore 4, 2) := by decide +kernel
theorem dX12_allOver_5 : decode cX12_allOver 5 = .ok (.iload 4, 2) := by decide +kernel
theorem dX12_allOver_7 : decode cX12_allOver 7 = .ok (.aload_n 0, 1) := by decide +kernel
theorem dX12_allOver_8 : decode cX12_allOver 8 = .ok (.getfield 165, 3) := by decide +kernel
theorem dX12_allOver_11 : decode cX12_allOver 11 = .ok (.if_icmp .ge 41, 3) := by decide +kernel
theorem dX12_allOver_14 : decode cX12_allOver 14 = .ok (.aload_n 0, 1) := by decide +kernel
theorem dX12_allOver_15 : decode cX12_allOver 15 = .ok (.getfield 7, 3) := by decide +kernel
theorem dX12_allOver_18 : decode cX12_allOver 18 = .ok (.bipush 57, 2) := by decide +kernel
theorem dX12_allOver_20 : decode cX12_allOver 20 = .ok (.iload 4, 2) := by decide +kernel
theorem dX12_allOver_22 : decode cX12_allOver 22 = .ok (.iadd, 1) := by decide +kernel
theorem dX12_allOver_23 : decode cX12_allOver 23 = .ok (.iaload, 1) := by decide +kernel
theorem dX12_allOver_24 : decode cX12_allOver 24 = .ok (.iload_n 1, 1) := by decide +kernel
theorem dX12_allOver_25 : decode cX12_allOver 25 = .ok (.if_icmp .ne 21, 3) := by decide +kernel
theorem dX12_allOver_28 : decode cX12_allOver 28 = .ok (.iload_n 3, 1) := by decide +kernel
theorem dX12_allOver_29 : decode cX12_allOver 29 = .ok (.iload_n 2, 1) := by decide +kernel
theorem dX12_allOver_30 : decode cX12_allOver 30 = .ok (.ifCond .eq 13, 3) := by decide +kernel
theorem dX12_allOver_33 : decode cX12_allOver 33 = .ok (.aload_n 0, 1) := by decide +kernel
theorem dX12_allOver_34 : decode cX12_allOver 34 = .ok (.iload 4, 2) := by decide +kernel
theorem dX12_allOver_36 : decode cX12_allOver 36 = .ok (.iconst 0, 1) := by decide +kernel
theorem dX12_allOver_37 : decode cX12_allOver 37 = .ok (.invokevirtual 396, 3) := by decide +kernel
theorem dX12_allOver_40 : decode cX12_allOver 40 = .ok (.goto 4, 3) := by decide +kernel
theorem dX12_allOver_43 : decode cX12_allOver 43 = .ok (.iconst 1, 1) := by decide +kernel
theorem dX12_allOver_44 : decode cX12_allOver 44 = .ok (.iadd, 1) := by decide +kernel
theorem dX12_allOver_45 : decode cX12_allOver 45 = .ok (.istore_n 3, 1) := by decide +kernel
theorem dX12_allOver_46 : decode cX12_allOver 46 = .ok (.iinc 4 1, 3) := by decide +kernel
theorem dX12_allOver_49 : decode cX12_allOver 49 = .ok (.goto (-44), 3) := by decide +kernel
theorem dX12_allOver_52 : decode cX12_allOver 52 = .ok (.iload_n 3, 1) := by decide +kernel
theorem dX12_allOver_53 : decode cX12_allOver 53 = .ok (.ireturn, 1) := by decide +kernel
theorem wp_X12_allOver_0 {d : Nat} {s : ev_S} {Q : Option ev_V → ev_S → Prop} {a1 a2 : Int}
    (h : Ev layM M_X12_allOver (d + 1) 5 [(0, ev_r 0), (1, ev_i a1), (2, ev_i a2), (3, ev_i 0), (4, ev_i 0)] [] s Q) :
    Ev layM M_X12_allOver (d + 1) 0 [(0, ev_r 0), (1, ev_i a1), (2, ev_i a2)] [] s Q := by
  refine Ev_iconst dX12_allOver_0 rfl (ev_Rc rfl) ?_
  refine Ev_istore_n (l' := [(3, ev_i 0), (0, ev_r 0), (1, ev_i a1), (2, ev_i a2)]) dX12_allOver_1 rfl (Nat.le_of_ble_eq_true rfl) rfl ?_
  refine Ev_iconst dX12_allOver_2 rfl (ev_Rc rfl) ?_
  refine Ev_istore (l' := [(4, ev_i 0), (3, ev_i 0), (0, ev_r 0), (1, ev_i a1), (2, ev_i a2)]) dX12_allOver_3 (Nat.le_of_ble_eq_true rfl) rfl ?_
  exact Ev_sub [2, 3, 4, 1, 0] rfl h
theorem wp_X12_allOver_5 {d : Nat} {s : ev_S} {Q : Option ev_V → ev_S → Prop} {a1 a2 a3 a4 : Int}
    (h : (((s 0 46) ≤ a4 → Q (some (ev_i a3)) s) ∧ (a4 < (s 0 46) → ((0 ≤ (ev_add 57 a4) ∧ (ev_add 57 a4) < (87 : Nat)) ∧ (((s 1 (Int.toNat (ev_add 57 a4))) ≠ a1 → Ev layM M_X12_allOver (d + 1) 5 [(0, ev_r 0), (1, ev_i a1), (2, ev_i a2), (3, ev_i a3), (4, ev_i (ev_add a4 1))] [] s Q) ∧ ((s 1 (Int.toNat (ev_add 57 a4))) = a1 → ((a2 = 0 → Ev layM M_X12_allOver (d + 1) 5 [(0, ev_r 0), (1, ev_i a1), (2, ev_i a2), (3, ev_i (ev_add a3 1)), (4, ev_i (ev_add a4 1))] [] s Q) ∧ (a2 ≠ 0 → (Ev layM M_X12_ofMishap d 0 [(0, ev_r 0), (1, ev_i a4), (2, ev_i 0)] [] s (ev_pi (fun r2 s1 => Ev layM M_X12_allOver (d + 1) 5 [(0, ev_r 0), (1, ev_i a1), (2, ev_i a2), (3, ev_i (ev_add a3 r2)), (4, ev_i (ev_add a4 1))] [] s1 Q))))))))))) :
    Ev layM M_X12_allOver (d + 1) 5 [(0, ev_r 0), (1, ev_i a1), (2, ev_i a2), (3, ev_i a3), (4, ev_i a4)] [] s Q := by
  refine Ev_iload 4 dX12_allOver_5 rfl ?_
  refine Ev_aload_n 0 dX12_allOver_7 rfl rfl ?_
  refine Ev_get (i := 46) cl_X12 yM_0 (Nat.le_of_ble_eq_true rfl) rfl wd_1490 dX12_allOver_8 ?_
  refine Ev_icmp_ge (tgt := 52) dX12_allOver_11 rfl (fun c => ?_) (fun c => ?_)
  · replace h := h.1 c
    refine Ev_iload_n 3 dX12_allOver_52 rfl rfl ?_
    exact Ev_iret rfl dX12_allOver_53 rfl h
  · replace h := h.2 c
    refine Ev_aload_n 0 dX12_allOver_14 rfl rfl ?_
    refine Ev_getR (i := 1) cl_X12 yM_0 (Nat.le_of_ble_eq_true rfl) rfl wd_1445 dX12_allOver_15 ?_
    refine Ev_bipushC dX12_allOver_18 rfl ?_
    refine Ev_iload 4 dX12_allOver_20 rfl ?_
    refine Ev_iadd dX12_allOver_22 ?_
    obtain ⟨h0, h⟩ := h
    refine Ev_iald yM_1 h0 dX12_allOver_23 ?_
    refine Ev_iload_n 1 dX12_allOver_24 rfl rfl ?_
    refine Ev_icmp_ne (tgt := 46) dX12_allOver_25 rfl (fun c => ?_) (fun c => ?_)
    · replace h := h.1 c
      refine Ev_iinc (j := 4) (l' := [(4, ev_i (ev_add a4 1)), (0, ev_r 0), (1, ev_i a1), (2, ev_i a2), (3, ev_i a3)]) dX12_allOver_46 rfl (Nat.le_of_ble_eq_true rfl) rfl ?_
      refine Ev_goto (tgt := 5) dX12_allOver_49 rfl ?_
      exact Ev_sub [1, 2, 3, 4, 0] rfl h
    · replace h := h.2 c
      refine Ev_iload_n 3 dX12_allOver_28 rfl rfl ?_
      refine Ev_iload_n 2 dX12_allOver_29 rfl rfl ?_
      refine Ev_if_eq (tgt := 43) dX12_allOver_30 rfl (fun c => ?_) (fun c => ?_)
      · replace h := h.1 c
        refine Ev_iconst dX12_allOver_43 rfl (ev_Rc rfl) ?_
        refine Ev_iadd dX12_allOver_44 ?_
        refine Ev_istore_n (l' := [(3, ev_i (ev_add a3 1)), (0, ev_r 0), (1, ev_i a1), (2, ev_i a2), (4, ev_i a4)]) dX12_allOver_45 rfl (Nat.le_of_ble_eq_true rfl) rfl ?_
        refine Ev_iinc (j := 4) (l' := [(4, ev_i (ev_add a4 1)), (3, ev_i (ev_add a3 1)), (0, ev_r 0), (1, ev_i a1), (2, ev_i a2)]) dX12_allOver_46 rfl (Nat.le_of_ble_eq_true rfl) rfl ?_
        refine Ev_goto (tgt := 5) dX12_allOver_49 rfl ?_
        exact Ev_sub [2, 3, 4, 1, 0] rfl h
      · replace h := h.2 c
        refine Ev_aload_n 0 dX12_allOver_33 rfl rfl ?_
        refine Ev_iload 4 dX12_allOver_34 rfl ?_
        refine Ev_iconst dX12_allOver_36 rfl (ev_Rc rfl) ?_
        refine Ev_callV (As := [ev_i a4, ev_i 0]) (b := 0) (st := [ev_i a3]) (M' := M_X12_ofMishap) cm_X12_ofMishap wd_1954 wd_1956 wd_137 yM_0 cl_X12 rfl dX12_allOver_37 (Nat.le_refl _) rfl (Nat.le_of_ble_eq_true rfl) (Nat.le_of_ble_eq_true rfl) h (fun v u h hk => ?_)
        obtain ⟨r2, rfl⟩ := hk
        obtain ⟨s1, rfl⟩ : ∃ x, x = u := ⟨_, rfl⟩
        replace h := h r2 rfl
        refine Ev_goto (tgt := 44) dX12_allOver_40 rfl ?_
        refine Ev_iadd dX12_allOver_44 ?_
        refine Ev_istore_n (l' := [(3, ev_i (ev_add a3 r2)), (0, ev_r 0), (1, ev_i a1), (2, ev_i a2), (4, ev_i a4)]) dX12_allOver_45 rfl (Nat.le_of_ble_eq_true rfl) rfl ?_
        refine Ev_iinc (j := 4) (l' := [(4, ev_i (ev_add a4 1)), (3, ev_i (ev_add a3 r2)), (0, ev_r 0), (1, ev_i a1), (2, ev_i a2)]) dX12_allOver_46 rfl (Nat.le_of_ble_eq_true rfl) rfl ?_
        refine Ev_goto (tgt := 5) dX12_allOver_49 rfl ?_
        exact Ev_sub [2, 3, 4, 1, 0] rfl h
theorem dX12_look_0 : decode cX12_look 0 = .ok (.aload_n 0, 1) := by decide +kernel
theorem dX12_look_1 : decode cX12_look 1 = .ok (.iconst 0, 1) := by decide +kernel
theorem dX12_look_2 : decode cX12_look 2 = .ok (.putfield 124, 3) := by decide +kernel
theorem dX12_look_5 : decode cX12_look 5 = .ok (.iload_n 1, 1) := by decide +kernel
theorem dX12_look_6 : decode cX12_look 6 = .ok (.ifCond .ne 11, 3) := by decide +kernel
theorem dX12_look_9 : decode cX12_look 9 = .ok (.aload_n 0, 1) := by decide +kernel
theorem dX12_look_10 : decode cX12_look 10 = .ok (.getfield 139, 3) := by decide +kernel
theorem dX12_look_13 : decode cX12_look 13 = .ok (.bipush 8, 2) := by decide +kernel
theorem dX12_look_15 : decode cX12_look 15 = .ok (.iadd, 1) := by decide +kernel
theorem dX12_look_16 : decode cX12_look 16 = .ok (.ireturn, 1) := by decide +kernel
theorem dX12_look_17 : decode cX12_look 17 = .ok (.iload_n 1, 1) := by decide +kernel
theorem dX12_look_18 : decode cX12_look 18 = .ok (.iconst 1, 1) := by decide +kernel
theorem dX12_look_19 : decode cX12_look 19 = .ok (.if_icmp .ne 11, 3) := by decide +kernel
theorem dX12_look_22 : decode cX12_look 22 = .ok (.aload_n 0, 1) := by decide +kernel
theorem dX12_look_23 : decode cX12_look 23 = .ok (.getfield 142, 3) := by decide +kernel
theorem dX12_look_26 : decode cX12_look 26 = .ok (.bipush 8, 2) := by decide +kernel
theorem dX12_look_28 : decode cX12_look 28 = .ok (.iadd, 1) := by decide +kernel
theorem dX12_look_29 : decode cX12_look 29 = .ok (.ireturn, 1) := by decide +kernel
theorem dX12_look_30 : decode cX12_look 30 = .ok (.iload_n 1, 1) := by decide +kernel
theorem dX12_look_31 : decode cX12_look 31 = .ok (.iconst 2, 1) := by decide +kernel
theorem dX12_look_32 : decode cX12_look 32 = .ok (.if_icmp .ne 10, 3) := by decide +kernel
theorem dX12_look_35 : decode cX12_look 35 = .ok (.aload_n 0, 1) := by decide +kernel
theorem dX12_look_36 : decode cX12_look 36 = .ok (.getfield 7, 3) := by decide +kernel
theorem dX12_look_39 : decode cX12_look 39 = .ok (.iconst 0, 1) := by decide +kernel
theorem dX12_look_40 : decode cX12_look 40 = .ok (.iaload, 1) := by decide +kernel
theorem dX12_look_41 : decode cX12_look 41 = .ok (.ireturn, 1) := by decide +kernel
theorem dX12_look_42 : decode cX12_look 42 = .ok (.iload_n 1, 1) := by decide +kernel
theorem dX12_look_43 : decode cX12_look 43 = .ok (.iconst 3, 1) := by decide +kernel
theorem dX12_look_44 : decode cX12_look 44 = .ok (.if_icmp .ne 8, 3) := by decide +kernel
theorem dX12_look_47 : decode cX12_look 47 = .ok (.aload_n 0, 1) := by decide +kernel
theorem dX12_look_48 : decode cX12_look 48 = .ok (.getfield 145, 3) := by decide +kernel
theorem dX12_look_51 : decode cX12_look 51 = .ok (.ireturn, 1) := by decide +kernel
theorem dX12_look_52 : decode cX12_look 52 = .ok (.iload_n 1, 1) := by decide +kernel
theorem dX12_look_53 : decode cX12_look 53 = .ok (.iconst 4, 1) := by decide +kernel
theorem dX12_look_54 : decode cX12_look 54 = .ok (.if_icmp .ne 8, 3) := by decide +kernel
theorem dX12_look_57 : decode cX12_look 57 = .ok (.aload_n 0, 1) := by decide +kernel
theorem dX12_look_58 : decode cX12_look 58 = .ok (.getfield 148, 3) := by decide +kernel
theorem dX12_look_61 : decode cX12_look 61 = .ok (.ireturn, 1) := by decide +kernel
theorem dX12_look_62 : decode cX12_look 62 = .ok (.iload_n 1, 1) := by decide +kernel
theorem dX12_look_63 : decode cX12_look 63 = .ok (.iconst 5, 1) := by decide +kernel
theorem dX12_look_64 : decode cX12_look 64 = .ok (.if_icmp .ne 8, 3) := by decide +kernel
theorem dX12_look_67 : decode cX12_look 67 = .ok (.aload_n 0, 1) := by decide +kernel
theorem dX12_look_68 : decode cX12_look 68 = .ok (.getfield 162, 3) := by decide +kernel
theorem dX12_look_71 : decode cX12_look 71 = .ok (.ireturn, 1) := by decide +kernel
theorem dX12_look_72 : decode cX12_look 72 = .ok (.iload_n 1, 1) := by decide +kernel
theorem dX12_look_73 : decode cX12_look 73 = .ok (.bipush 6, 2) := by decide +kernel
theorem dX12_look_75 : decode cX12_look 75 = .ok (.if_icmp .ne 8, 3) := by decide +kernel
theorem dX12_look_78 : decode cX12_look 78 = .ok (.aload_n 0, 1) := by decide +kernel
theorem dX12_look_79 : decode cX12_look 79 = .ok (.getfield 165, 3) := by decide +kernel
theorem dX12_look_82 : decode cX12_look 82 = .ok (.ireturn, 1) := by decide +kernel
theorem dX12_look_83 : decode cX12_look 83 = .ok (.iload_n 1, 1) := by decide +kernel
theorem dX12_look_84 : decode cX12_look 84 = .ok (.bipush 7, 2) := by decide +kernel
theorem dX12_look_86 : decode cX12_look 86 = .ok (.if_icmp .ne 10, 3) := by decide +kernel
theorem dX12_look_89 : decode cX12_look 89 = .ok (.aload_n 0, 1) := by decide +kernel
theorem dX12_look_90 : decode cX12_look 90 = .ok (.getfield 7, 3) := by decide +kernel
theorem dX12_look_93 : decode cX12_look 93 = .ok (.iconst 2, 1) := by decide +kernel
theorem dX12_look_94 : decode cX12_look 94 = .ok (.iaload, 1) := by decide +kernel
theorem dX12_look_95 : decode cX12_look 95 = .ok (.ireturn, 1) := by decide +kernel
theorem dX12_look_96 : decode cX12_look 96 = .ok (.iload_n 1, 1) := by decide +kernel
theorem dX12_look_97 : decode cX12_look 97 = .ok (.bipush 8, 2) := by decide +kernel
theorem dX12_look_99 : decode cX12_look 99 = .ok (.if_icmp .ne 8, 3) := by decide +kernel
theorem dX12_look_102 : decode cX12_look 102 = .ok (.aload_n 0, 1) := by decide +kernel
theorem dX12_look_103 : decode cX12_look 103 = .ok (.getfield 168, 3) := by decide +kernel
theorem dX12_look_106 : decode cX12_look 106 = .ok (.ireturn, 1) := by decide +kernel
theorem dX12_look_107 : decode cX12_look 107 = .ok (.iload_n 1, 1) := by decide +kernel
theorem dX12_look_108 : decode cX12_look 108 = .ok (.bipush 9, 2) := by decide +kernel
theorem dX12_look_110 : decode cX12_look 110 = .ok (.if_icmp .ne 10, 3) := by decide +kernel
theorem dX12_look_113 : decode cX12_look 113 = .ok (.aload_n 0, 1) := by decide +kernel
theorem dX12_look_114 : decode cX12_look 114 = .ok (.getfield 7, 3) := by decide +kernel
theorem dX12_look_117 : decode cX12_look 117 = .ok (.iconst 1, 1) := by decide +kernel
theorem dX12_look_118 : decode cX12_look 118 = .ok (.iaload, 1) := by decide +kernel
theorem dX12_look_119 : decode cX12_look 119 = .ok (.ireturn, 1) := by decide +kernel
theorem dX12_look_120 : decode cX12_look 120 = .ok (.iload_n 1, 1) := by decide +kernel
theorem dX12_look_121 : decode cX12_look 121 = .ok (.bipush 10, 2) := by decide +kernel
theorem dX12_look_123 : decode cX12_look 123 = .ok (.if_icmp .ne 10, 3) := by decide +kernel
theorem dX12_look_126 : decode cX12_look 126 = .ok (.aload_n 0, 1) := by decide +kernel
theorem dX12_look_127 : decode cX12_look 127 = .ok (.iconst 2, 1) := by decide +kernel
theorem dX12_look_128 : decode cX12_look 128 = .ok (.iconst 1, 1) := by decide +kernel
theorem dX12_look_129 : decode cX12_look 129 = .ok (.invokevirtual 532, 3) := by decide +kernel
theorem dX12_look_132 : decode cX12_look 132 = .ok (.ireturn, 1) := by decide +kernel
theorem dX12_look_133 : decode cX12_look 133 = .ok (.iload_n 1, 1) := by decide +kernel
theorem dX12_look_134 : decode cX12_look 134 = .ok (.bipush 11, 2) := by decide +kernel
theorem dX12_look_136 : decode cX12_look 136 = .ok (.if_icmp .ne 10, 3) := by decide +kernel
theorem dX12_look_139 : decode cX12_look 139 = .ok (.aload_n 0, 1) := by decide +kernel
theorem dX12_look_140 : decode cX12_look 140 = .ok (.iconst 1, 1) := by decide +kernel
theorem dX12_look_141 : decode cX12_look 141 = .ok (.iconst 0, 1) := by decide +kernel
theorem dX12_look_142 : decode cX12_look 142 = .ok (.invokevirtual 532, 3) := by decide +kernel
theorem dX12_look_145 : decode cX12_look 145 = .ok (.ireturn, 1) := by decide +kernel
theorem dX12_look_146 : decode cX12_look 146 = .ok (.iload_n 1, 1) := by decide +kernel
theorem dX12_look_147 : decode cX12_look 147 = .ok (.bipush 12, 2) := by decide +kernel
theorem dX12_look_149 : decode cX12_look 149 = .ok (.if_icmp .ne 8, 3) := by decide +kernel
theorem dX12_look_152 : decode cX12_look 152 = .ok (.aload_n 0, 1) := by decide +kernel
theorem dX12_look_153 : decode cX12_look 153 = .ok (.getfield 127, 3) := by decide +kernel
theorem dX12_look_156 : decode cX12_look 156 = .ok (.ireturn, 1) := by decide +kernel
theorem dX12_look_157 : decode cX12_look 157 = .ok (.iload_n 1, 1) := by decide +kernel
theorem dX12_look_158 : decode cX12_look 158 = .ok (.bipush 13, 2) := by decide +kernel
theorem dX12_look_160 : decode cX12_look 160 = .ok (.if_icmp .ne 10, 3) := by decide +kernel
theorem dX12_look_163 : decode cX12_look 163 = .ok (.aload_n 0, 1) := by decide +kernel
theorem dX12_look_164 : decode cX12_look 164 = .ok (.invokevirtual 399, 3) := by decide +kernel
theorem dX12_look_167 : decode cX12_look 167 = .ok (.goto 28, 3) := by decide +kernel
theorem dX12_look_170 : decode cX12_look 170 = .ok (.aload_n 0, 1) := by decide +kernel
theorem dX12_look_171 : decode cX12_look 171 = .ok (.iload_n 1, 1) := by decide +kernel
theorem dX12_look_172 : decode cX12_look 172 = .ok (.bipush 20, 2) := by decide +kernel
theorem dX12_look_174 : decode cX12_look 174 = .ok (.bipush 24, 2) := by decide +kernel
theorem dX12_look_176 : decode cX12_look 176 = .ok (.invokevirtual 158, 3) := by decide +kernel
theorem dX12_look_179 : decode cX12_look 179 = .ok (.ifCond .eq 15, 3) := by decide +kernel
theorem dX12_look_182 : decode cX12_look 182 = .ok (.aload_n 0, 1) := by decide +kernel
theorem dX12_look_183 : decode cX12_look 183 = .ok (.getfield 19, 3) := by decide +kernel
theorem dX12_look_186 : decode cX12_look 186 = .ok (.iload_n 1, 1) := by decide +kernel
theorem dX12_look_187 : decode cX12_look 187 = .ok (.bipush 20, 2) := by decide +kernel
theorem dX12_look_189 : decode cX12_look 189 = .ok (.isub, 1) := by decide +kernel
theorem dX12_look_190 : decode cX12_look 190 = .ok (.iaload, 1) := by decide +kernel
theorem dX12_look_191 : decode cX12_look 191 = .ok (.goto 4, 3) := by decide +kernel
theorem dX12_look_194 : decode cX12_look 194 = .ok (.iconst (-1), 1) := by decide +kernel
theorem dX12_look_195 : decode cX12_look 195 = .ok (.ireturn, 1) := by decide +kernel
theorem wp_X12_look_0 {d : Nat} {s : ev_S} {Q : Option ev_V → ev_S → Prop} {a1 : Int}
    (h : (∀ s1, ev_up s 0 0 0 = s1 → ((a1 ≠ 0 → ((a1 ≠ 1 → ((a1 ≠ 2 → ((a1 ≠ 3 → ((a1 ≠ 4 → ((a1 ≠ 5 → ((a1 ≠ 6 → ((a1 ≠ 7 → ((a1 ≠ 8 → ((a1 ≠ 9 → ((a1 ≠ 10 → ((a1 ≠ 11 → ((a1 ≠ 12 → ((a1 ≠ 13 → (Ev layM M_X12_isIn d 0 [(0, ev_r 0), (1, ev_i a1), (2, ev_i 20), (3, ev_i 24)] [] s1 (ev_pi (fun r3 s2 => ((r3 = 0 → Q (some (ev_i (-1))) s2) ∧ (r3 ≠ 0 → ((0 ≤ (ev_sub a1 20) ∧ (ev_sub a1 20) < (5 : Nat)) ∧ Q (some (ev_i (s2 4 (Int.toNat (ev_sub a1 20))))) s2))))))) ∧ (a1 = 13 → (Ev layM M_X12_guard d 0 [(0, ev_r 0)] [] s1 (ev_pi (fun r5 s4 => Q (some (ev_i r5)) s4)))))) ∧ (a1 = 12 → Q (some (ev_i (s1 0 3))) s1))) ∧ (a1 = 11 → (Ev layM M_X12_allOver d 0 [(0, ev_r 0), (1, ev_i 1), (2, ev_i 0)] [] s1 (ev_pi (fun r7 s6 => Q (some (ev_i r7)) s6)))))) ∧ (a1 = 10 → (Ev layM M_X12_allOver d 0 [(0, ev_r 0), (1, ev_i 2), (2, ev_i 1)] [] s1 (ev_pi (fun r9 s8 => Q (some (ev_i r9)) s8)))))) ∧ (a1 = 9 → Q (some (ev_i (s1 1 1))) s1))) ∧ (a1 = 8 → Q (some (ev_i (s1 0 25))) s1))) ∧ (a1 = 7 → Q (some (ev_i (s1 1 2))) s1))) ∧ (a1 = 6 → Q (some (ev_i (s1 0 46))) s1))) ∧ (a1 = 5 → Q (some (ev_i (s1 0 12))) s1))) ∧ (a1 = 4 → Q (some (ev_i (s1 0 11))) s1))) ∧ (a1 = 3 → Q (some (ev_i (s1 0 10))) s1))) ∧ (a1 = 2 → Q (some (ev_i (s1 1 0))) s1))) ∧ (a1 = 1 → Q (some (ev_i (ev_add (s1 0 7) 8))) s1))) ∧ (a1 = 0 → Q (some (ev_i (ev_add (s1 0 6) 8))) s1)))) :
    Ev layM M_X12_look (d + 1) 0 [(0, ev_r 0), (1, ev_i a1)] [] s Q := by
  refine Ev_aload_n 0 dX12_look_0 rfl rfl ?_
  refine Ev_iconst dX12_look_1 rfl (ev_Rc rfl) ?_
  refine Ev_put (i := 0) (ty := .int) cl_X12 yM_0 (Nat.le_of_ble_eq_true rfl) rfl rfl (by decide +kernel) rfl rfl wd_1444 dX12_look_2 (Ev_nm (fun s1 es1 => ?_))
  replace h := h s1 es1
  refine Ev_iload_n 1 dX12_look_5 rfl rfl ?_
  refine Ev_if_ne (tgt := 17) dX12_look_6 rfl (fun c => ?_) (fun c => ?_)
  · replace h := h.1 c
    refine Ev_iload_n 1 dX12_look_17 rfl rfl ?_
    refine Ev_iconst dX12_look_18 rfl (ev_Rc rfl) ?_
    refine Ev_icmp_ne (tgt := 30) dX12_look_19 rfl (fun c => ?_) (fun c => ?_)
    · replace h := h.1 c
      refine Ev_iload_n 1 dX12_look_30 rfl rfl ?_
      refine Ev_iconst dX12_look_31 rfl (ev_Rc rfl) ?_
      refine Ev_icmp_ne (tgt := 42) dX12_look_32 rfl (fun c => ?_) (fun c => ?_)
      · replace h := h.1 c
        refine Ev_iload_n 1 dX12_look_42 rfl rfl ?_
        refine Ev_iconst dX12_look_43 rfl (ev_Rc rfl) ?_
        refine Ev_icmp_ne (tgt := 52) dX12_look_44 rfl (fun c => ?_) (fun c => ?_)
        · replace h := h.1 c
          refine Ev_iload_n 1 dX12_look_52 rfl rfl ?_
          refine Ev_iconst dX12_look_53 rfl (ev_Rc rfl) ?_
          refine Ev_icmp_ne (tgt := 62) dX12_look_54 rfl (fun c => ?_) (fun c => ?_)
          · replace h := h.1 c
            refine Ev_iload_n 1 dX12_look_62 rfl rfl ?_
            refine Ev_iconst dX12_look_63 rfl (ev_Rc rfl) ?_
            refine Ev_icmp_ne (tgt := 72) dX12_look_64 rfl (fun c => ?_) (fun c => ?_)
            · replace h := h.1 c
              refine Ev_iload_n 1 dX12_look_72 rfl rfl ?_
              refine Ev_bipushC dX12_look_73 rfl ?_
              refine Ev_icmp_ne (tgt := 83) dX12_look_75 rfl (fun c => ?_) (fun c => ?_)
              · replace h := h.1 c
                refine Ev_iload_n 1 dX12_look_83 rfl rfl ?_
                refine Ev_bipushC dX12_look_84 rfl ?_
                refine Ev_icmp_ne (tgt := 96) dX12_look_86 rfl (fun c => ?_) (fun c => ?_)
                · replace h := h.1 c
                  refine Ev_iload_n 1 dX12_look_96 rfl rfl ?_
                  refine Ev_bipushC dX12_look_97 rfl ?_
                  refine Ev_icmp_ne (tgt := 107) dX12_look_99 rfl (fun c => ?_) (fun c => ?_)
                  · replace h := h.1 c
                    refine Ev_iload_n 1 dX12_look_107 rfl rfl ?_
                    refine Ev_bipushC dX12_look_108 rfl ?_
                    refine Ev_icmp_ne (tgt := 120) dX12_look_110 rfl (fun c => ?_) (fun c => ?_)
                    · replace h := h.1 c
                      refine Ev_iload_n 1 dX12_look_120 rfl rfl ?_
                      refine Ev_bipushC dX12_look_121 rfl ?_
                      refine Ev_icmp_ne (tgt := 133) dX12_look_123 rfl (fun c => ?_) (fun c => ?_)
                      · replace h := h.1 c
                        refine Ev_iload_n 1 dX12_look_133 rfl rfl ?_
                        refine Ev_bipushC dX12_look_134 rfl ?_
                        refine Ev_icmp_ne (tgt := 146) dX12_look_136 rfl (fun c => ?_) (fun c => ?_)
                        · replace h := h.1 c
                          refine Ev_iload_n 1 dX12_look_146 rfl rfl ?_
                          refine Ev_bipushC dX12_look_147 rfl ?_
                          refine Ev_icmp_ne (tgt := 157) dX12_look_149 rfl (fun c => ?_) (fun c => ?_)
                          · replace h := h.1 c
                            refine Ev_iload_n 1 dX12_look_157 rfl rfl ?_
                            refine Ev_bipushC dX12_look_158 rfl ?_
                            refine Ev_icmp_ne (tgt := 170) dX12_look_160 rfl (fun c => ?_) (fun c => ?_)
                            · replace h := h.1 c
                              refine Ev_aload_n 0 dX12_look_170 rfl rfl ?_
                              refine Ev_iload_n 1 dX12_look_171 rfl rfl ?_
                              refine Ev_bipushC dX12_look_172 rfl ?_
                              refine Ev_bipushC dX12_look_174 rfl ?_
                              refine Ev_callV (As := [ev_i a1, ev_i 20, ev_i 24]) (b := 0) (st := []) (M' := M_X12_isIn) cm_X12_isIn wd_1650 wd_1652 wd_70 yM_0 cl_X12 rfl dX12_look_176 (Nat.le_refl _) rfl (Nat.le_of_ble_eq_true rfl) (Nat.le_of_ble_eq_true rfl) h (fun v u h hk => ?_)
                              obtain ⟨r3, rfl⟩ := hk
                              obtain ⟨s2, rfl⟩ : ∃ x, x = u := ⟨_, rfl⟩
                              replace h := h r3 rfl
                              refine Ev_if_eq (tgt := 194) dX12_look_179 rfl (fun c => ?_) (fun c => ?_)
                              · replace h := h.1 c
                                refine Ev_iconst dX12_look_194 rfl (ev_Rc rfl) ?_
                                exact Ev_iret rfl dX12_look_195 rfl h
                              · replace h := h.2 c
                                refine Ev_aload_n 0 dX12_look_182 rfl rfl ?_
                                refine Ev_getR (i := 9) cl_X12 yM_0 (Nat.le_of_ble_eq_true rfl) rfl wd_1453 dX12_look_183 ?_
                                refine Ev_iload_n 1 dX12_look_186 rfl rfl ?_
                                refine Ev_bipushC dX12_look_187 rfl ?_
                                refine Ev_isub dX12_look_189 ?_
                                obtain ⟨h0, h⟩ := h
                                refine Ev_iald yM_4 h0 dX12_look_190 ?_
                                refine Ev_goto (tgt := 195) dX12_look_191 rfl ?_
                                exact Ev_iret rfl dX12_look_195 rfl h
                            · replace h := h.2 c
                              refine Ev_aload_n 0 dX12_look_163 rfl rfl ?_
                              refine Ev_callV (As := []) (b := 0) (st := []) (M' := M_X12_guard) cm_X12_guard wd_1966 wd_1968 wd_140 yM_0 cl_X12 rfl dX12_look_164 (Nat.le_refl _) rfl (Nat.le_of_ble_eq_true rfl) (Nat.le_of_ble_eq_true rfl) h (fun v u h hk => ?_)
                              obtain ⟨r5, rfl⟩ := hk
                              obtain ⟨s4, rfl⟩ : ∃ x, x = u := ⟨_, rfl⟩
                              replace h := h r5 rfl
                              refine Ev_goto (tgt := 195) dX12_look_167 rfl ?_
                              exact Ev_iret rfl dX12_look_195 rfl h
                          · replace h := h.2 c
                            refine Ev_aload_n 0 dX12_look_152 rfl rfl ?_
                            refine Ev_get (i := 3) cl_X12 yM_0 (Nat.le_of_ble_eq_true rfl) rfl wd_1447 dX12_look_153 ?_
                            exact Ev_iret rfl dX12_look_156 rfl h
                        · replace h := h.2 c
                          refine Ev_aload_n 0 dX12_look_139 rfl rfl ?_
                          refine Ev_iconst dX12_look_140 rfl (ev_Rc rfl) ?_
                          refine Ev_iconst dX12_look_141 rfl (ev_Rc rfl) ?_
                          refine Ev_callV (As := [ev_i 1, ev_i 0]) (b := 0) (st := []) (M' := M_X12_allOver) cm_X12_allOver wd_2154 wd_2156 wd_173 yM_0 cl_X12 rfl dX12_look_142 (Nat.le_refl _) rfl (Nat.le_of_ble_eq_true rfl) (Nat.le_of_ble_eq_true rfl) h (fun v u h hk => ?_)
                          obtain ⟨r7, rfl⟩ := hk
                          obtain ⟨s6, rfl⟩ : ∃ x, x = u := ⟨_, rfl⟩
                          replace h := h r7 rfl
                          exact Ev_iret rfl dX12_look_145 rfl h
                      · replace h := h.2 c
                        refine Ev_aload_n 0 dX12_look_126 rfl rfl ?_
                        refine Ev_iconst dX12_look_127 rfl (ev_Rc rfl) ?_
                        refine Ev_iconst dX12_look_128 rfl (ev_Rc rfl) ?_
                        refine Ev_callV (As := [ev_i 2, ev_i 1]) (b := 0) (st := []) (M' := M_X12_allOver) cm_X12_allOver wd_2154 wd_2156 wd_173 yM_0 cl_X12 rfl dX12_look_129 (Nat.le_refl _) rfl (Nat.le_of_ble_eq_true rfl) (Nat.le_of_ble_eq_true rfl) h (fun v u h hk => ?_)
                        obtain ⟨r9, rfl⟩ := hk
                        obtain ⟨s8, rfl⟩ : ∃ x, x = u := ⟨_, rfl⟩
                        replace h := h r9 rfl
                        exact Ev_iret rfl dX12_look_132 rfl h
                    · replace h := h.2 c
                      refine Ev_aload_n 0 dX12_look_113 rfl rfl ?_
                      refine Ev_getR (i := 1) cl_X12 yM_0 (Nat.le_of_ble_eq_true rfl) rfl wd_1445 dX12_look_114 ?_
                      refine Ev_iconst dX12_look_117 rfl (ev_Rc rfl) ?_
                      refine Ev_iald yM_1 (by decide) dX12_look_118 ?_
                      exact Ev_iret rfl dX12_look_119 rfl h
                  · replace h := h.2 c
                    refine Ev_aload_n 0 dX12_look_102 rfl rfl ?_
                    refine Ev_get (i := 25) cl_X12 yM_0 (Nat.le_of_ble_eq_true rfl) rfl wd_1469 dX12_look_103 ?_
                    exact Ev_iret rfl dX12_look_106 rfl h
                · replace h := h.2 c
                  refine Ev_aload_n 0 dX12_look_89 rfl rfl ?_
                  refine Ev_getR (i := 1) cl_X12 yM_0 (Nat.le_of_ble_eq_true rfl) rfl wd_1445 dX12_look_90 ?_
                  refine Ev_iconst dX12_look_93 rfl (ev_Rc rfl) ?_
                  refine Ev_iald yM_1 (by decide) dX12_look_94 ?_
                  exact Ev_iret rfl dX12_look_95 rfl h
              · replace h := h.2 c
                refine Ev_aload_n 0 dX12_look_78 rfl rfl ?_
                refine Ev_get (i := 46) cl_X12 yM_0 (Nat.le_of_ble_eq_true rfl) rfl wd_1490 dX12_look_79 ?_
                exact Ev_iret rfl dX12_look_82 rfl h
            · replace h := h.2 c
              refine Ev_aload_n 0 dX12_look_67 rfl rfl ?_
              refine Ev_get (i := 12) cl_X12 yM_0 (Nat.le_of_ble_eq_true rfl) rfl wd_1456 dX12_look_68 ?_
              exact Ev_iret rfl dX12_look_71 rfl h
          · replace h := h.2 c
            refine Ev_aload_n 0 dX12_look_57 rfl rfl ?_
            refine Ev_get (i := 11) cl_X12 yM_0 (Nat.le_of_ble_eq_true rfl) rfl wd_1455 dX12_look_58 ?_
            exact Ev_iret rfl dX12_look_61 rfl h
        · replace h := h.2 c
          refine Ev_aload_n 0 dX12_look_47 rfl rfl ?_
          refine Ev_get (i := 10) cl_X12 yM_0 (Nat.le_of_ble_eq_true rfl) rfl wd_1454 dX12_look_48 ?_
          exact Ev_iret rfl dX12_look_51 rfl h
      · replace h := h.2 c
        refine Ev_aload_n 0 dX12_look_35 rfl rfl ?_
        refine Ev_getR (i := 1) cl_X12 yM_0 (Nat.le_of_ble_eq_true rfl) rfl wd_1445 dX12_look_36 ?_
        refine Ev_iconst dX12_look_39 rfl (ev_Rc rfl) ?_
        refine Ev_iald yM_1 (by decide) dX12_look_40 ?_
        exact Ev_iret rfl dX12_look_41 rfl h
    · replace h := h.2 c
      refine Ev_aload_n 0 dX12_look_22 rfl rfl ?_
      refine Ev_get (i := 7) cl_X12 yM_0 (Nat.le_of_ble_eq_true rfl) rfl wd_1451 dX12_look_23 ?_
      refine Ev_bipushC dX12_look_26 rfl ?_
      refine Ev_iadd dX12_look_28 ?_
      exact Ev_iret rfl dX12_look_29 rfl h
  · replace h := h.2 c
    refine Ev_aload_n 0 dX12_look_9 rfl rfl ?_
    refine Ev_get (i := 6) cl_X12 yM_0 (Nat.le_of_ble_eq_true rfl) rfl wd_1450 dX12_look_10 ?_
    refine Ev_bipushC dX12_look_13 rfl ?_
    refine Ev_iadd dX12_look_15 ?_
    exact Ev_iret rfl dX12_look_16 rfl h
