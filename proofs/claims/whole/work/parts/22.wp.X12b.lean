theorem dX12_waits_0 : decode cX12_waits 0 = .ok (.aload_n 0, 1) := by decide +kernel
theorem dX12_waits_1 : decode cX12_waits 1 = .ok (.getfield 58, 3) := by decide +kernel
theorem dX12_waits_4 : decode cX12_waits 4 = .ok (.aload_n 0, 1) := by decide +kernel
theorem dX12_waits_5 : decode cX12_waits 5 = .ok (.getfield 245, 3) := by decide +kernel
theorem dX12_waits_8 : decode cX12_waits 8 = .ok (.iload_n 1, 1) := by decide +kernel
theorem dX12_waits_9 : decode cX12_waits 9 = .ok (.iastore, 1) := by decide +kernel
theorem dX12_waits_10 : decode cX12_waits 10 = .ok (.aload_n 0, 1) := by decide +kernel
theorem dX12_waits_11 : decode cX12_waits 11 = .ok (.aload_n 0, 1) := by decide +kernel
theorem dX12_waits_12 : decode cX12_waits 12 = .ok (.getfield 245, 3) := by decide +kernel
theorem dX12_waits_15 : decode cX12_waits 15 = .ok (.iconst 1, 1) := by decide +kernel
theorem dX12_waits_16 : decode cX12_waits 16 = .ok (.iadd, 1) := by decide +kernel
theorem dX12_waits_17 : decode cX12_waits 17 = .ok (.putfield 245, 3) := by decide +kernel
theorem dX12_waits_20 : decode cX12_waits 20 = .ok (.return_, 1) := by decide +kernel
theorem wp_X12_waits_0 {d : Nat} {s : ev_S} {Q : Option ev_V → ev_S → Prop} {a1 : Int}
    (h : ((0 ≤ (s 0 34) ∧ (s 0 34) < (40 : Nat)) ∧ ∀ s1, ev_up s 17 (Int.toNat (s 0 34)) a1 = s1 → (∀ s2, ev_up s1 0 34 (ev_add (s1 0 34) 1) = s2 → Q none s2))) :
    Ev layM M_X12_waits d 0 [(0, ev_r 0), (1, ev_i a1)] [] s Q := by
  refine Ev_aload_n 0 dX12_waits_0 rfl rfl ?_
  refine Ev_getR (i := 33) cl_X12 yM_0 (Nat.le_of_ble_eq_true rfl) rfl wd_1477 dX12_waits_1 ?_
  refine Ev_aload_n 0 dX12_waits_4 rfl rfl ?_
  refine Ev_get (i := 34) cl_X12 yM_0 (Nat.le_of_ble_eq_true rfl) rfl wd_1478 dX12_waits_5 ?_
  refine Ev_iload_n 1 dX12_waits_8 rfl rfl ?_
  obtain ⟨h0, h⟩ := h
  refine Ev_iast yM_17 h0 dX12_waits_9 (Ev_nm (fun s1 es1 => ?_))
  replace h := h s1 es1
  refine Ev_aload_n 0 dX12_waits_10 rfl rfl ?_
  refine Ev_aload_n 0 dX12_waits_11 rfl rfl ?_
  refine Ev_get (i := 34) cl_X12 yM_0 (Nat.le_of_ble_eq_true rfl) rfl wd_1478 dX12_waits_12 ?_
  refine Ev_iconst dX12_waits_15 rfl (ev_Rc rfl) ?_
  refine Ev_iadd dX12_waits_16 ?_
  refine Ev_put (i := 34) (ty := .int) cl_X12 yM_0 (Nat.le_of_ble_eq_true rfl) rfl rfl (by decide +kernel) rfl rfl wd_1478 dX12_waits_17 (Ev_nm (fun s2 es2 => ?_))
  replace h := h s2 es2
  exact Ev_vret rfl dX12_waits_20 h
theorem dX12_settles_0 : decode cX12_settles 0 = .ok (.aload_n 0, 1) := by decide +kernel
theorem dX12_settles_1 : decode cX12_settles 1 = .ok (.getfield 245, 3) := by decide +kernel
theorem dX12_settles_4 : decode cX12_settles 4 = .ok (.ifCond .le 53, 3) := by decide +kernel
theorem dX12_settles_7 : decode cX12_settles 7 = .ok (.aload_n 0, 1) := by decide +kernel
theorem dX12_settles_8 : decode cX12_settles 8 = .ok (.getfield 58, 3) := by decide +kernel
theorem dX12_settles_11 : decode cX12_settles 11 = .ok (.aload_n 0, 1) := by decide +kernel
theorem dX12_settles_12 : decode cX12_settles 12 = .ok (.getfield 245, 3) := by decide +kernel
theorem dX12_settles_15 : decode cX12_settles 15 = .ok (.iconst 1, 1) := by decide +kernel
theorem dX12_settles_16 : decode cX12_settles 16 = .ok (.isub, 1) := by decide +kernel
theorem dX12_settles_17 : decode cX12_settles 17 = .ok (.iaload, 1) := by decide +kernel
theorem dX12_settles_18 : decode cX12_settles 18 = .ok (.iload_n 1, 1) := by decide +kernel
theorem dX12_settles_19 : decode cX12_settles 19 = .ok (.if_icmp .ne 38, 3) := by decide +kernel
theorem dX12_settles_22 : decode cX12_settles 22 = .ok (.aload_n 0, 1) := by decide +kernel
theorem dX12_settles_23 : decode cX12_settles 23 = .ok (.aload_n 0, 1) := by decide +kernel
theorem dX12_settles_24 : decode cX12_settles 24 = .ok (.getfield 245, 3) := by decide +kernel
theorem dX12_settles_27 : decode cX12_settles 27 = .ok (.iconst 1, 1) := by decide +kernel
theorem dX12_settles_28 : decode cX12_settles 28 = .ok (.isub, 1) := by decide +kernel
theorem dX12_settles_29 : decode cX12_settles 29 = .ok (.putfield 245, 3) := by decide +kernel
theorem dX12_settles_32 : decode cX12_settles 32 = .ok (.aload_n 0, 1) := by decide +kernel
theorem dX12_settles_33 : decode cX12_settles 33 = .ok (.iload_n 1, 1) := by decide +kernel
theorem dX12_settles_34 : decode cX12_settles 34 = .ok (.iconst 0, 1) := by decide +kernel
theorem dX12_settles_35 : decode cX12_settles 35 = .ok (.invokevirtual 225, 3) := by decide +kernel
theorem dX12_settles_38 : decode cX12_settles 38 = .ok (.iload_n 1, 1) := by decide +kernel
theorem dX12_settles_39 : decode cX12_settles 39 = .ok (.bipush 9, 2) := by decide +kernel
theorem dX12_settles_41 : decode cX12_settles 41 = .ok (.if_icmp .ne (-41), 3) := by decide +kernel
theorem dX12_settles_44 : decode cX12_settles 44 = .ok (.aload_n 0, 1) := by decide +kernel
theorem dX12_settles_45 : decode cX12_settles 45 = .ok (.aload_n 0, 1) := by decide +kernel
theorem dX12_settles_46 : decode cX12_settles 46 = .ok (.getfield 248, 3) := by decide +kernel
theorem dX12_settles_49 : decode cX12_settles 49 = .ok (.iconst 1, 1) := by decide +kernel
theorem dX12_settles_50 : decode cX12_settles 50 = .ok (.isub, 1) := by decide +kernel
theorem dX12_settles_51 : decode cX12_settles 51 = .ok (.putfield 248, 3) := by decide +kernel
theorem dX12_settles_54 : decode cX12_settles 54 = .ok (.goto (-54), 3) := by decide +kernel
theorem dX12_settles_57 : decode cX12_settles 57 = .ok (.return_, 1) := by decide +kernel
theorem wp_X12_settles_0 {d : Nat} {s : ev_S} {Q : Option ev_V → ev_S → Prop} {a1 : Int}
    (h : (((s 0 34) ≤ 0 → Q none s) ∧ (0 < (s 0 34) → ((0 ≤ (ev_sub (s 0 34) 1) ∧ (ev_sub (s 0 34) 1) < (40 : Nat)) ∧ (((s 17 (Int.toNat (ev_sub (s 0 34) 1))) ≠ a1 → Q none s) ∧ ((s 17 (Int.toNat (ev_sub (s 0 34) 1))) = a1 → (∀ s1, ev_up s 0 34 (ev_sub (s 0 34) 1) = s1 → (Ev layM M_X12_emits d 0 [(0, ev_r 0), (1, ev_i a1), (2, ev_i 0)] [] s1 (fun _ s2 => ((a1 ≠ 9 → Ev layM M_X12_settles (d + 1) 0 [(0, ev_r 0), (1, ev_i a1)] [] s2 Q) ∧ (a1 = 9 → (∀ s3, ev_up s2 0 32 (ev_sub (s2 0 32) 1) = s3 → Ev layM M_X12_settles (d + 1) 0 [(0, ev_r 0), (1, ev_i a1)] [] s3 Q)))))))))))) :
    Ev layM M_X12_settles (d + 1) 0 [(0, ev_r 0), (1, ev_i a1)] [] s Q := by
  refine Ev_aload_n 0 dX12_settles_0 rfl rfl ?_
  refine Ev_get (i := 34) cl_X12 yM_0 (Nat.le_of_ble_eq_true rfl) rfl wd_1478 dX12_settles_1 ?_
  refine Ev_if_le (tgt := 57) dX12_settles_4 rfl (fun c => ?_) (fun c => ?_)
  · replace h := h.1 c
    exact Ev_vret rfl dX12_settles_57 h
  · replace h := h.2 c
    refine Ev_aload_n 0 dX12_settles_7 rfl rfl ?_
    refine Ev_getR (i := 33) cl_X12 yM_0 (Nat.le_of_ble_eq_true rfl) rfl wd_1477 dX12_settles_8 ?_
    refine Ev_aload_n 0 dX12_settles_11 rfl rfl ?_
    refine Ev_get (i := 34) cl_X12 yM_0 (Nat.le_of_ble_eq_true rfl) rfl wd_1478 dX12_settles_12 ?_
    refine Ev_iconst dX12_settles_15 rfl (ev_Rc rfl) ?_
    refine Ev_isub dX12_settles_16 ?_
    obtain ⟨h0, h⟩ := h
    refine Ev_iald yM_17 h0 dX12_settles_17 ?_
    refine Ev_iload_n 1 dX12_settles_18 rfl rfl ?_
    refine Ev_icmp_ne (tgt := 57) dX12_settles_19 rfl (fun c => ?_) (fun c => ?_)
    · replace h := h.1 c
      exact Ev_vret rfl dX12_settles_57 h
    · replace h := h.2 c
      refine Ev_aload_n 0 dX12_settles_22 rfl rfl ?_
      refine Ev_aload_n 0 dX12_settles_23 rfl rfl ?_
      refine Ev_get (i := 34) cl_X12 yM_0 (Nat.le_of_ble_eq_true rfl) rfl wd_1478 dX12_settles_24 ?_
      refine Ev_iconst dX12_settles_27 rfl (ev_Rc rfl) ?_
      refine Ev_isub dX12_settles_28 ?_
      refine Ev_put (i := 34) (ty := .int) cl_X12 yM_0 (Nat.le_of_ble_eq_true rfl) rfl rfl (by decide +kernel) rfl rfl wd_1478 dX12_settles_29 (Ev_nm (fun s1 es1 => ?_))
      replace h := h s1 es1
      refine Ev_aload_n 0 dX12_settles_32 rfl rfl ?_
      refine Ev_iload_n 1 dX12_settles_33 rfl rfl ?_
      refine Ev_iconst dX12_settles_34 rfl (ev_Rc rfl) ?_
      refine Ev_callV (As := [ev_i a1, ev_i 0]) (b := 0) (st := []) (M' := M_X12_emits) cm_X12_emits wd_1846 wd_1848 wd_112 yM_0 cl_X12 rfl dX12_settles_35 (Nat.le_refl _) rfl (Nat.le_of_ble_eq_true rfl) (Nat.le_of_ble_eq_true rfl) h (fun v u h hk => ?_)
      cases hk
      obtain ⟨s2, rfl⟩ : ∃ x, x = u := ⟨_, rfl⟩
      refine Ev_iload_n 1 dX12_settles_38 rfl rfl ?_
      refine Ev_bipushC dX12_settles_39 rfl ?_
      refine Ev_icmp_ne (tgt := 0) dX12_settles_41 rfl (fun c => ?_) (fun c => ?_)
      · replace h := h.1 c
        exact Ev_sub [0, 1] rfl h
      · replace h := h.2 c
        refine Ev_aload_n 0 dX12_settles_44 rfl rfl ?_
        refine Ev_aload_n 0 dX12_settles_45 rfl rfl ?_
        refine Ev_get (i := 32) cl_X12 yM_0 (Nat.le_of_ble_eq_true rfl) rfl wd_1476 dX12_settles_46 ?_
        refine Ev_iconst dX12_settles_49 rfl (ev_Rc rfl) ?_
        refine Ev_isub dX12_settles_50 ?_
        refine Ev_put (i := 32) (ty := .int) cl_X12 yM_0 (Nat.le_of_ble_eq_true rfl) rfl rfl (by decide +kernel) rfl rfl wd_1476 dX12_settles_51 (Ev_nm (fun s3 es3 => ?_))
        replace h := h s3 es3
        refine Ev_goto (tgt := 0) dX12_settles_54 rfl ?_
        exact Ev_sub [0, 1] rfl h
theorem dX12_readAny_0 : decode cX12_readAny 0 = .ok (.iconst 0, 1) := by decide +kernel
theorem dX12_readAny_1 : decode cX12_readAny 1 = .ok (.istore_n 1, 1) := by decide +kernel
theorem dX12_readAny_2 : decode cX12_readAny 2 = .ok (.aload_n 0, 1) := by decide +kernel
theorem dX12_readAny_3 : decode cX12_readAny 3 = .ok (.iconst 0, 1) := by decide +kernel
theorem dX12_readAny_4 : decode cX12_readAny 4 = .ok (.putfield 245, 3) := by decide +kernel
theorem dX12_readAny_7 : decode cX12_readAny 7 = .ok (.iconst 1, 1) := by decide +kernel
theorem dX12_readAny_8 : decode cX12_readAny 8 = .ok (.istore_n 2, 1) := by decide +kernel
theorem dX12_readAny_9 : decode cX12_readAny 9 = .ok (.iload_n 2, 1) := by decide +kernel
theorem dX12_readAny_10 : decode cX12_readAny 10 = .ok (.ifCond .eq 98, 3) := by decide +kernel
theorem dX12_readAny_13 : decode cX12_readAny 13 = .ok (.aload_n 0, 1) := by decide +kernel
theorem dX12_readAny_14 : decode cX12_readAny 14 = .ok (.iconst 5, 1) := by decide +kernel
theorem dX12_readAny_15 : decode cX12_readAny 15 = .ok (.invokevirtual 251, 3) := by decide +kernel
theorem dX12_readAny_18 : decode cX12_readAny 18 = .ok (.istore_n 3, 1) := by decide +kernel
theorem dX12_readAny_19 : decode cX12_readAny 19 = .ok (.iload_n 3, 1) := by decide +kernel
theorem dX12_readAny_20 : decode cX12_readAny 20 = .ok (.ifCond .ne 12, 3) := by decide +kernel
theorem dX12_readAny_23 : decode cX12_readAny 23 = .ok (.aload_n 0, 1) := by decide +kernel
theorem dX12_readAny_24 : decode cX12_readAny 24 = .ok (.bipush 40, 2) := by decide +kernel
theorem dX12_readAny_26 : decode cX12_readAny 26 = .ok (.invokevirtual 236, 3) := by decide +kernel
theorem dX12_readAny_29 : decode cX12_readAny 29 = .ok (.ifCond .eq 58, 3) := by decide +kernel
theorem dX12_readAny_32 : decode cX12_readAny 32 = .ok (.aload_n 0, 1) := by decide +kernel
theorem dX12_readAny_33 : decode cX12_readAny 33 = .ok (.getfield 248, 3) := by decide +kernel
theorem dX12_readAny_36 : decode cX12_readAny 36 = .ok (.bipush 8, 2) := by decide +kernel
theorem dX12_readAny_38 : decode cX12_readAny 38 = .ok (.if_icmp .ne 9, 3) := by decide +kernel
theorem dX12_readAny_41 : decode cX12_readAny 41 = .ok (.aload_n 0, 1) := by decide +kernel
theorem dX12_readAny_42 : decode cX12_readAny 42 = .ok (.iconst 3, 1) := by decide +kernel
theorem dX12_readAny_43 : decode cX12_readAny 43 = .ok (.invokevirtual 222, 3) := by decide +kernel
theorem dX12_readAny_46 : decode cX12_readAny 46 = .ok (.ireturn, 1) := by decide +kernel
theorem dX12_readAny_47 : decode cX12_readAny 47 = .ok (.aload_n 0, 1) := by decide +kernel
theorem dX12_readAny_48 : decode cX12_readAny 48 = .ok (.aload_n 0, 1) := by decide +kernel
theorem dX12_readAny_49 : decode cX12_readAny 49 = .ok (.getfield 248, 3) := by decide +kernel
theorem dX12_readAny_52 : decode cX12_readAny 52 = .ok (.iconst 1, 1) := by decide +kernel
theorem dX12_readAny_53 : decode cX12_readAny 53 = .ok (.iadd, 1) := by decide +kernel
theorem dX12_readAny_54 : decode cX12_readAny 54 = .ok (.putfield 248, 3) := by decide +kernel
theorem dX12_readAny_57 : decode cX12_readAny 57 = .ok (.iload_n 3, 1) := by decide +kernel
theorem dX12_readAny_58 : decode cX12_readAny 58 = .ok (.ifCond .ne 7, 3) := by decide +kernel
theorem dX12_readAny_61 : decode cX12_readAny 61 = .ok (.iload_n 1, 1) := by decide +kernel
theorem dX12_readAny_62 : decode cX12_readAny 62 = .ok (.iconst 1, 1) := by decide +kernel
theorem dX12_readAny_63 : decode cX12_readAny 63 = .ok (.iadd, 1) := by decide +kernel
theorem dX12_readAny_64 : decode cX12_readAny 64 = .ok (.istore_n 1, 1) := by decide +kernel
theorem dX12_readAny_65 : decode cX12_readAny 65 = .ok (.aload_n 0, 1) := by decide +kernel
theorem dX12_readAny_66 : decode cX12_readAny 66 = .ok (.iload_n 3, 1) := by decide +kernel
theorem dX12_readAny_67 : decode cX12_readAny 67 = .ok (.ifCond .eq 8, 3) := by decide +kernel
theorem dX12_readAny_70 : decode cX12_readAny 70 = .ok (.bipush 9, 2) := by decide +kernel
theorem dX12_readAny_72 : decode cX12_readAny 72 = .ok (.goto 5, 3) := by decide +kernel
theorem dX12_readAny_75 : decode cX12_readAny 75 = .ok (.bipush 12, 2) := by decide +kernel
theorem dX12_readAny_77 : decode cX12_readAny 77 = .ok (.invokevirtual 254, 3) := by decide +kernel
theorem dX12_readAny_80 : decode cX12_readAny 80 = .ok (.aload_n 0, 1) := by decide +kernel
theorem dX12_readAny_81 : decode cX12_readAny 81 = .ok (.invokevirtual 229, 3) := by decide +kernel
theorem dX12_readAny_84 : decode cX12_readAny 84 = .ok (.goto (-75), 3) := by decide +kernel
theorem dX12_readAny_87 : decode cX12_readAny 87 = .ok (.aload_n 0, 1) := by decide +kernel
theorem dX12_readAny_88 : decode cX12_readAny 88 = .ok (.invokevirtual 257, 3) := by decide +kernel
theorem dX12_readAny_91 : decode cX12_readAny 91 = .ok (.iconst (-1), 1) := by decide +kernel
theorem dX12_readAny_92 : decode cX12_readAny 92 = .ok (.if_icmp .ne 5, 3) := by decide +kernel
theorem dX12_readAny_95 : decode cX12_readAny 95 = .ok (.iconst (-1), 1) := by decide +kernel
theorem dX12_readAny_96 : decode cX12_readAny 96 = .ok (.ireturn, 1) := by decide +kernel
theorem dX12_readAny_97 : decode cX12_readAny 97 = .ok (.aload_n 0, 1) := by decide +kernel
theorem dX12_readAny_98 : decode cX12_readAny 98 = .ok (.bipush 9, 2) := by decide +kernel
theorem dX12_readAny_100 : decode cX12_readAny 100 = .ok (.invokevirtual 260, 3) := by decide +kernel
theorem dX12_readAny_103 : decode cX12_readAny 103 = .ok (.iconst 0, 1) := by decide +kernel
theorem dX12_readAny_104 : decode cX12_readAny 104 = .ok (.istore_n 2, 1) := by decide +kernel
theorem dX12_readAny_105 : decode cX12_readAny 105 = .ok (.goto (-96), 3) := by decide +kernel
theorem dX12_readAny_108 : decode cX12_readAny 108 = .ok (.aload_n 0, 1) := by decide +kernel
theorem dX12_readAny_109 : decode cX12_readAny 109 = .ok (.iconst 4, 1) := by decide +kernel
theorem dX12_readAny_110 : decode cX12_readAny 110 = .ok (.invokevirtual 251, 3) := by decide +kernel
theorem dX12_readAny_113 : decode cX12_readAny 113 = .ok (.ifCond .eq 24, 3) := by decide +kernel
theorem dX12_readAny_116 : decode cX12_readAny 116 = .ok (.aload_n 0, 1) := by decide +kernel
theorem dX12_readAny_117 : decode cX12_readAny 117 = .ok (.bipush 10, 2) := by decide +kernel
theorem dX12_readAny_119 : decode cX12_readAny 119 = .ok (.invokevirtual 260, 3) := by decide +kernel
theorem dX12_readAny_122 : decode cX12_readAny 122 = .ok (.aload_n 0, 1) := by decide +kernel
theorem dX12_readAny_123 : decode cX12_readAny 123 = .ok (.bipush 10, 2) := by decide +kernel
theorem dX12_readAny_125 : decode cX12_readAny 125 = .ok (.invokevirtual 254, 3) := by decide +kernel
theorem dX12_readAny_128 : decode cX12_readAny 128 = .ok (.aload_n 0, 1) := by decide +kernel
theorem dX12_readAny_129 : decode cX12_readAny 129 = .ok (.invokevirtual 229, 3) := by decide +kernel
theorem dX12_readAny_132 : decode cX12_readAny 132 = .ok (.iconst 1, 1) := by decide +kernel
theorem dX12_readAny_133 : decode cX12_readAny 133 = .ok (.istore_n 2, 1) := by decide +kernel
theorem dX12_readAny_134 : decode cX12_readAny 134 = .ok (.goto (-125), 3) := by decide +kernel
theorem dX12_readAny_137 : decode cX12_readAny 137 = .ok (.aload_n 0, 1) := by decide +kernel
theorem dX12_readAny_138 : decode cX12_readAny 138 = .ok (.iconst 3, 1) := by decide +kernel
theorem dX12_readAny_139 : decode cX12_readAny 139 = .ok (.invokevirtual 251, 3) := by decide +kernel
theorem dX12_readAny_142 : decode cX12_readAny 142 = .ok (.ifCond .eq 30, 3) := by decide +kernel
theorem dX12_readAny_145 : decode cX12_readAny 145 = .ok (.aload_n 0, 1) := by decide +kernel
theorem dX12_readAny_146 : decode cX12_readAny 146 = .ok (.bipush 10, 2) := by decide +kernel
theorem dX12_readAny_148 : decode cX12_readAny 148 = .ok (.invokevirtual 260, 3) := by decide +kernel
theorem dX12_readAny_151 : decode cX12_readAny 151 = .ok (.aload_n 0, 1) := by decide +kernel
theorem dX12_readAny_152 : decode cX12_readAny 152 = .ok (.bipush 11, 2) := by decide +kernel
theorem dX12_readAny_154 : decode cX12_readAny 154 = .ok (.invokevirtual 260, 3) := by decide +kernel
theorem dX12_readAny_157 : decode cX12_readAny 157 = .ok (.aload_n 0, 1) := by decide +kernel
theorem dX12_readAny_158 : decode cX12_readAny 158 = .ok (.bipush 11, 2) := by decide +kernel
theorem dX12_readAny_160 : decode cX12_readAny 160 = .ok (.invokevirtual 254, 3) := by decide +kernel
theorem dX12_readAny_163 : decode cX12_readAny 163 = .ok (.aload_n 0, 1) := by decide +kernel
theorem dX12_readAny_164 : decode cX12_readAny 164 = .ok (.invokevirtual 229, 3) := by decide +kernel
theorem dX12_readAny_167 : decode cX12_readAny 167 = .ok (.iconst 1, 1) := by decide +kernel
theorem dX12_readAny_168 : decode cX12_readAny 168 = .ok (.istore_n 2, 1) := by decide +kernel
theorem dX12_readAny_169 : decode cX12_readAny 169 = .ok (.goto (-160), 3) := by decide +kernel
theorem dX12_readAny_172 : decode cX12_readAny 172 = .ok (.aload_n 0, 1) := by decide +kernel
theorem dX12_readAny_173 : decode cX12_readAny 173 = .ok (.bipush 10, 2) := by decide +kernel
theorem dX12_readAny_175 : decode cX12_readAny 175 = .ok (.invokevirtual 260, 3) := by decide +kernel
theorem dX12_readAny_178 : decode cX12_readAny 178 = .ok (.aload_n 0, 1) := by decide +kernel
theorem dX12_readAny_179 : decode cX12_readAny 179 = .ok (.bipush 11, 2) := by decide +kernel
theorem dX12_readAny_181 : decode cX12_readAny 181 = .ok (.invokevirtual 260, 3) := by decide +kernel
theorem dX12_readAny_184 : decode cX12_readAny 184 = .ok (.iload_n 1, 1) := by decide +kernel
theorem dX12_readAny_185 : decode cX12_readAny 185 = .ok (.ifCond .ne 5, 3) := by decide +kernel
theorem dX12_readAny_188 : decode cX12_readAny 188 = .ok (.iconst 0, 1) := by decide +kernel
theorem dX12_readAny_189 : decode cX12_readAny 189 = .ok (.ireturn, 1) := by decide +kernel
theorem dX12_readAny_190 : decode cX12_readAny 190 = .ok (.aload_n 0, 1) := by decide +kernel
theorem dX12_readAny_191 : decode cX12_readAny 191 = .ok (.bipush 41, 2) := by decide +kernel
theorem dX12_readAny_193 : decode cX12_readAny 193 = .ok (.invokevirtual 236, 3) := by decide +kernel
theorem dX12_readAny_196 : decode cX12_readAny 196 = .ok (.ifCond .ne 9, 3) := by decide +kernel
theorem dX12_readAny_199 : decode cX12_readAny 199 = .ok (.aload_n 0, 1) := by decide +kernel
theorem dX12_readAny_200 : decode cX12_readAny 200 = .ok (.iconst 1, 1) := by decide +kernel
theorem dX12_readAny_201 : decode cX12_readAny 201 = .ok (.invokevirtual 222, 3) := by decide +kernel
theorem dX12_readAny_204 : decode cX12_readAny 204 = .ok (.ireturn, 1) := by decide +kernel
theorem dX12_readAny_205 : decode cX12_readAny 205 = .ok (.aload_n 0, 1) := by decide +kernel
theorem dX12_readAny_206 : decode cX12_readAny 206 = .ok (.aload_n 0, 1) := by decide +kernel
theorem dX12_readAny_207 : decode cX12_readAny 207 = .ok (.getfield 245, 3) := by decide +kernel
theorem dX12_readAny_210 : decode cX12_readAny 210 = .ok (.iconst 1, 1) := by decide +kernel
theorem dX12_readAny_211 : decode cX12_readAny 211 = .ok (.isub, 1) := by decide +kernel
theorem dX12_readAny_212 : decode cX12_readAny 212 = .ok (.putfield 245, 3) := by decide +kernel
theorem dX12_readAny_215 : decode cX12_readAny 215 = .ok (.iload_n 1, 1) := by decide +kernel
theorem dX12_readAny_216 : decode cX12_readAny 216 = .ok (.iconst 1, 1) := by decide +kernel
theorem dX12_readAny_217 : decode cX12_readAny 217 = .ok (.isub, 1) := by decide +kernel
theorem dX12_readAny_218 : decode cX12_readAny 218 = .ok (.istore_n 1, 1) := by decide +kernel
theorem dX12_readAny_219 : decode cX12_readAny 219 = .ok (.aload_n 0, 1) := by decide +kernel
theorem dX12_readAny_220 : decode cX12_readAny 220 = .ok (.aload_n 0, 1) := by decide +kernel
theorem dX12_readAny_221 : decode cX12_readAny 221 = .ok (.getfield 248, 3) := by decide +kernel
theorem dX12_readAny_224 : decode cX12_readAny 224 = .ok (.iconst 1, 1) := by decide +kernel
theorem dX12_readAny_225 : decode cX12_readAny 225 = .ok (.isub, 1) := by decide +kernel
theorem dX12_readAny_226 : decode cX12_readAny 226 = .ok (.putfield 248, 3) := by decide +kernel
theorem dX12_readAny_229 : decode cX12_readAny 229 = .ok (.aload_n 0, 1) := by decide +kernel
theorem dX12_readAny_230 : decode cX12_readAny 230 = .ok (.bipush 9, 2) := by decide +kernel
theorem dX12_readAny_232 : decode cX12_readAny 232 = .ok (.invokevirtual 260, 3) := by decide +kernel
theorem dX12_readAny_235 : decode cX12_readAny 235 = .ok (.aload_n 0, 1) := by decide +kernel
theorem dX12_readAny_236 : decode cX12_readAny 236 = .ok (.invokevirtual 229, 3) := by decide +kernel
theorem dX12_readAny_239 : decode cX12_readAny 239 = .ok (.goto (-230), 3) := by decide +kernel
theorem wp_X12_readAny_0 {d : Nat} {s : ev_S} {Q : Option ev_V → ev_S → Prop}
    (h : (∀ s1, ev_up s 0 34 0 = s1 → Ev layM M_X12_readAny (d + 1) 9 [(0, ev_r 0), (1, ev_i 0), (2, ev_i 1)] [] s1 Q)) :
    Ev layM M_X12_readAny (d + 1) 0 [(0, ev_r 0)] [] s Q := by
  refine Ev_iconst dX12_readAny_0 rfl (ev_Rc rfl) ?_
  refine Ev_istore_n (l' := [(1, ev_i 0), (0, ev_r 0)]) dX12_readAny_1 rfl (Nat.le_of_ble_eq_true rfl) rfl ?_
  refine Ev_aload_n 1 dX12_readAny_2 rfl rfl ?_
  refine Ev_iconst dX12_readAny_3 rfl (ev_Rc rfl) ?_
  refine Ev_put (i := 34) (ty := .int) cl_X12 yM_0 (Nat.le_of_ble_eq_true rfl) rfl rfl (by decide +kernel) rfl rfl wd_1478 dX12_readAny_4 (Ev_nm (fun s1 es1 => ?_))
  replace h := h s1 es1
  refine Ev_iconst dX12_readAny_7 rfl (ev_Rc rfl) ?_
  refine Ev_istore_n (l' := [(2, ev_i 1), (1, ev_i 0), (0, ev_r 0)]) dX12_readAny_8 rfl (Nat.le_of_ble_eq_true rfl) rfl ?_
  exact Ev_sub [2, 1, 0] rfl h
theorem wp_X12_readAny_9 {d : Nat} {s : ev_S} {Q : Option ev_V → ev_S → Prop} {a1 a2 : Int}
    (h : ((a2 = 0 → (Ev layM M_X12_isWord d 0 [(0, ev_r 0), (1, ev_i 4)] [] s (ev_pi (fun r2 s1 => ((r2 = 0 → (Ev layM M_X12_isWord d 0 [(0, ev_r 0), (1, ev_i 3)] [] s1 (ev_pi (fun r4 s3 => ((r4 = 0 → (Ev layM M_X12_settles d 0 [(0, ev_r 0), (1, ev_i 10)] [] s3 (fun _ s5 => (Ev layM M_X12_settles d 0 [(0, ev_r 0), (1, ev_i 11)] [] s5 (fun _ s6 => ((a1 ≠ 0 → (Ev layM M_X12_isSign d 0 [(0, ev_r 0), (1, ev_i 41)] [] s6 (ev_pi (fun r8 s7 => ((r8 ≠ 0 → (∀ s9, ev_up s7 0 34 (ev_sub (s7 0 34) 1) = s9 → (∀ s10, ev_up s9 0 32 (ev_sub (s9 0 32) 1) = s10 → (Ev layM M_X12_settles d 0 [(0, ev_r 0), (1, ev_i 9)] [] s10 (fun _ s11 => (Ev layM M_X12_reads d 0 [(0, ev_r 0)] [] s11 (fun _ s12 => Ev layM M_X12_readAny (d + 1) 9 [(0, ev_r 0), (1, ev_i (ev_sub a1 1)), (2, ev_i a2)] [] s12 Q))))))) ∧ (r8 = 0 → (Ev layM M_X12_errs d 0 [(0, ev_r 0), (1, ev_i 1)] [] s7 (ev_pi (fun r14 s13 => Q (some (ev_i r14)) s13))))))))) ∧ (a1 = 0 → Q (some (ev_i 0)) s6))))))) ∧ (r4 ≠ 0 → (Ev layM M_X12_settles d 0 [(0, ev_r 0), (1, ev_i 10)] [] s3 (fun _ s15 => (Ev layM M_X12_settles d 0 [(0, ev_r 0), (1, ev_i 11)] [] s15 (fun _ s16 => (Ev layM M_X12_waits d 0 [(0, ev_r 0), (1, ev_i 11)] [] s16 (fun _ s17 => (Ev layM M_X12_reads d 0 [(0, ev_r 0)] [] s17 (fun _ s18 => Ev layM M_X12_readAny (d + 1) 9 [(0, ev_r 0), (1, ev_i a1), (2, ev_i 1)] [] s18 Q)))))))))))))) ∧ (r2 ≠ 0 → (Ev layM M_X12_settles d 0 [(0, ev_r 0), (1, ev_i 10)] [] s1 (fun _ s19 => (Ev layM M_X12_waits d 0 [(0, ev_r 0), (1, ev_i 10)] [] s19 (fun _ s20 => (Ev layM M_X12_reads d 0 [(0, ev_r 0)] [] s20 (fun _ s21 => Ev layM M_X12_readAny (d + 1) 9 [(0, ev_r 0), (1, ev_i a1), (2, ev_i 1)] [] s21 Q)))))))))))) ∧ (a2 ≠ 0 → (Ev layM M_X12_isWord d 0 [(0, ev_r 0), (1, ev_i 5)] [] s (ev_pi (fun r23 s22 => ((r23 ≠ 0 → Ev layM M_X12_readAny (d + 1) 32 [(0, ev_r 0), (1, ev_i a1), (2, ev_i a2), (3, ev_i r23)] [] s22 Q) ∧ (r23 = 0 → (Ev layM M_X12_isSign d 0 [(0, ev_r 0), (1, ev_i 40)] [] s22 (ev_pi (fun r25 s24 => ((r25 = 0 → (Ev layM M_X12_readCompared d 0 [(0, ev_r 0)] [] s24 (ev_pi (fun r27 s26 => ((r27 ≠ (-1) → (Ev layM M_X12_settles d 0 [(0, ev_r 0), (1, ev_i 9)] [] s26 (fun _ s28 => Ev layM M_X12_readAny (d + 1) 9 [(0, ev_r 0), (1, ev_i a1), (2, ev_i 0)] [] s28 Q))) ∧ (r27 = (-1) → Q (some (ev_i (-1))) s26)))))) ∧ (r25 ≠ 0 → Ev layM M_X12_readAny (d + 1) 32 [(0, ev_r 0), (1, ev_i a1), (2, ev_i a2), (3, ev_i r23)] [] s24 Q))))))))))))) :
    Ev layM M_X12_readAny (d + 1) 9 [(0, ev_r 0), (1, ev_i a1), (2, ev_i a2)] [] s Q := by
  refine Ev_iload_n 2 dX12_readAny_9 rfl rfl ?_
  refine Ev_if_eq (tgt := 108) dX12_readAny_10 rfl (fun c => ?_) (fun c => ?_)
  · replace h := h.1 c
    refine Ev_aload_n 0 dX12_readAny_108 rfl rfl ?_
    refine Ev_iconst dX12_readAny_109 rfl (ev_Rc rfl) ?_
    refine Ev_callV (As := [ev_i 4]) (b := 0) (st := []) (M' := M_X12_isWord) cm_X12_isWord wd_1742 wd_1744 wd_86 yM_0 cl_X12 rfl dX12_readAny_110 (Nat.le_refl _) rfl (Nat.le_of_ble_eq_true rfl) (Nat.le_of_ble_eq_true rfl) h (fun v u h hk => ?_)
    obtain ⟨r2, rfl⟩ := hk
    obtain ⟨s1, rfl⟩ : ∃ x, x = u := ⟨_, rfl⟩
    replace h := h r2 rfl
    refine Ev_if_eq (tgt := 137) dX12_readAny_113 rfl (fun c => ?_) (fun c => ?_)
    · replace h := h.1 c
      refine Ev_aload_n 0 dX12_readAny_137 rfl rfl ?_
      refine Ev_iconst dX12_readAny_138 rfl (ev_Rc rfl) ?_
      refine Ev_callV (As := [ev_i 3]) (b := 0) (st := []) (M' := M_X12_isWord) cm_X12_isWord wd_1742 wd_1744 wd_86 yM_0 cl_X12 rfl dX12_readAny_139 (Nat.le_refl _) rfl (Nat.le_of_ble_eq_true rfl) (Nat.le_of_ble_eq_true rfl) h (fun v u h hk => ?_)
      obtain ⟨r4, rfl⟩ := hk
      obtain ⟨s3, rfl⟩ : ∃ x, x = u := ⟨_, rfl⟩
      replace h := h r4 rfl
      refine Ev_if_eq (tgt := 172) dX12_readAny_142 rfl (fun c => ?_) (fun c => ?_)
      · replace h := h.1 c
        refine Ev_aload_n 0 dX12_readAny_172 rfl rfl ?_
        refine Ev_bipushC dX12_readAny_173 rfl ?_
        refine Ev_callV (As := [ev_i 10]) (b := 0) (st := []) (M' := M_X12_settles) cm_X12_settles wd_1850 wd_1852 wd_113 yM_0 cl_X12 rfl dX12_readAny_175 (Nat.le_refl _) rfl (Nat.le_of_ble_eq_true rfl) (Nat.le_of_ble_eq_true rfl) h (fun v u h hk => ?_)
        cases hk
        obtain ⟨s5, rfl⟩ : ∃ x, x = u := ⟨_, rfl⟩
        refine Ev_aload_n 0 dX12_readAny_178 rfl rfl ?_
        refine Ev_bipushC dX12_readAny_179 rfl ?_
        refine Ev_callV (As := [ev_i 11]) (b := 0) (st := []) (M' := M_X12_settles) cm_X12_settles wd_1850 wd_1852 wd_113 yM_0 cl_X12 rfl dX12_readAny_181 (Nat.le_refl _) rfl (Nat.le_of_ble_eq_true rfl) (Nat.le_of_ble_eq_true rfl) h (fun v u h hk => ?_)
        cases hk
        obtain ⟨s6, rfl⟩ : ∃ x, x = u := ⟨_, rfl⟩
        refine Ev_iload_n 1 dX12_readAny_184 rfl rfl ?_
        refine Ev_if_ne (tgt := 190) dX12_readAny_185 rfl (fun c => ?_) (fun c => ?_)
        · replace h := h.1 c
          refine Ev_aload_n 0 dX12_readAny_190 rfl rfl ?_
          refine Ev_bipushC dX12_readAny_191 rfl ?_
          refine Ev_callV (As := [ev_i 41]) (b := 0) (st := []) (M' := M_X12_isSign) cm_X12_isSign wd_1746 wd_1748 wd_87 yM_0 cl_X12 rfl dX12_readAny_193 (Nat.le_refl _) rfl (Nat.le_of_ble_eq_true rfl) (Nat.le_of_ble_eq_true rfl) h (fun v u h hk => ?_)
          obtain ⟨r8, rfl⟩ := hk
          obtain ⟨s7, rfl⟩ : ∃ x, x = u := ⟨_, rfl⟩
          replace h := h r8 rfl
          refine Ev_if_ne (tgt := 205) dX12_readAny_196 rfl (fun c => ?_) (fun c => ?_)
          · replace h := h.1 c
            refine Ev_aload_n 0 dX12_readAny_205 rfl rfl ?_
            refine Ev_aload_n 0 dX12_readAny_206 rfl rfl ?_
            refine Ev_get (i := 34) cl_X12 yM_0 (Nat.le_of_ble_eq_true rfl) rfl wd_1478 dX12_readAny_207 ?_
            refine Ev_iconst dX12_readAny_210 rfl (ev_Rc rfl) ?_
            refine Ev_isub dX12_readAny_211 ?_
            refine Ev_put (i := 34) (ty := .int) cl_X12 yM_0 (Nat.le_of_ble_eq_true rfl) rfl rfl (by decide +kernel) rfl rfl wd_1478 dX12_readAny_212 (Ev_nm (fun s9 es9 => ?_))
            replace h := h s9 es9
            refine Ev_iload_n 1 dX12_readAny_215 rfl rfl ?_
            refine Ev_iconst dX12_readAny_216 rfl (ev_Rc rfl) ?_
            refine Ev_isub dX12_readAny_217 ?_
            refine Ev_istore_n (l' := [(1, ev_i (ev_sub a1 1)), (0, ev_r 0), (2, ev_i a2)]) dX12_readAny_218 rfl (Nat.le_of_ble_eq_true rfl) rfl ?_
            refine Ev_aload_n 1 dX12_readAny_219 rfl rfl ?_
            refine Ev_aload_n 1 dX12_readAny_220 rfl rfl ?_
            refine Ev_get (i := 32) cl_X12 yM_0 (Nat.le_of_ble_eq_true rfl) rfl wd_1476 dX12_readAny_221 ?_
            refine Ev_iconst dX12_readAny_224 rfl (ev_Rc rfl) ?_
            refine Ev_isub dX12_readAny_225 ?_
            refine Ev_put (i := 32) (ty := .int) cl_X12 yM_0 (Nat.le_of_ble_eq_true rfl) rfl rfl (by decide +kernel) rfl rfl wd_1476 dX12_readAny_226 (Ev_nm (fun s10 es10 => ?_))
            replace h := h s10 es10
            refine Ev_aload_n 1 dX12_readAny_229 rfl rfl ?_
            refine Ev_bipushC dX12_readAny_230 rfl ?_
            refine Ev_callV (As := [ev_i 9]) (b := 0) (st := []) (M' := M_X12_settles) cm_X12_settles wd_1850 wd_1852 wd_113 yM_0 cl_X12 rfl dX12_readAny_232 (Nat.le_refl _) rfl (Nat.le_of_ble_eq_true rfl) (Nat.le_of_ble_eq_true rfl) h (fun v u h hk => ?_)
            cases hk
            obtain ⟨s11, rfl⟩ : ∃ x, x = u := ⟨_, rfl⟩
            refine Ev_aload_n 1 dX12_readAny_235 rfl rfl ?_
            refine Ev_callV (As := []) (b := 0) (st := []) (M' := M_X12_reads) cm_X12_reads wd_1706 wd_1708 wd_77 yM_0 cl_X12 rfl dX12_readAny_236 (Nat.le_refl _) rfl (Nat.le_of_ble_eq_true rfl) (Nat.le_of_ble_eq_true rfl) h (fun v u h hk => ?_)
            cases hk
            obtain ⟨s12, rfl⟩ : ∃ x, x = u := ⟨_, rfl⟩
            refine Ev_goto (tgt := 9) dX12_readAny_239 rfl ?_
            exact Ev_sub [1, 0, 2] rfl h
          · replace h := h.2 c
            refine Ev_aload_n 0 dX12_readAny_199 rfl rfl ?_
            refine Ev_iconst dX12_readAny_200 rfl (ev_Rc rfl) ?_
            refine Ev_callV (As := [ev_i 1]) (b := 0) (st := []) (M' := M_X12_errs) cm_X12_errs wd_1758 wd_1760 wd_90 yM_0 cl_X12 rfl dX12_readAny_201 (Nat.le_refl _) rfl (Nat.le_of_ble_eq_true rfl) (Nat.le_of_ble_eq_true rfl) h (fun v u h hk => ?_)
            obtain ⟨r14, rfl⟩ := hk
            obtain ⟨s13, rfl⟩ : ∃ x, x = u := ⟨_, rfl⟩
            replace h := h r14 rfl
            exact Ev_iret rfl dX12_readAny_204 rfl h
        · replace h := h.2 c
          refine Ev_iconst dX12_readAny_188 rfl (ev_Rc rfl) ?_
          exact Ev_iret rfl dX12_readAny_189 rfl h
      · replace h := h.2 c
        refine Ev_aload_n 0 dX12_readAny_145 rfl rfl ?_
        refine Ev_bipushC dX12_readAny_146 rfl ?_
        refine Ev_callV (As := [ev_i 10]) (b := 0) (st := []) (M' := M_X12_settles) cm_X12_settles wd_1850 wd_1852 wd_113 yM_0 cl_X12 rfl dX12_readAny_148 (Nat.le_refl _) rfl (Nat.le_of_ble_eq_true rfl) (Nat.le_of_ble_eq_true rfl) h (fun v u h hk => ?_)
        cases hk
        obtain ⟨s15, rfl⟩ : ∃ x, x = u := ⟨_, rfl⟩
        refine Ev_aload_n 0 dX12_readAny_151 rfl rfl ?_
        refine Ev_bipushC dX12_readAny_152 rfl ?_
        refine Ev_callV (As := [ev_i 11]) (b := 0) (st := []) (M' := M_X12_settles) cm_X12_settles wd_1850 wd_1852 wd_113 yM_0 cl_X12 rfl dX12_readAny_154 (Nat.le_refl _) rfl (Nat.le_of_ble_eq_true rfl) (Nat.le_of_ble_eq_true rfl) h (fun v u h hk => ?_)
        cases hk
        obtain ⟨s16, rfl⟩ : ∃ x, x = u := ⟨_, rfl⟩
        refine Ev_aload_n 0 dX12_readAny_157 rfl rfl ?_
        refine Ev_bipushC dX12_readAny_158 rfl ?_
        refine Ev_callV (As := [ev_i 11]) (b := 0) (st := []) (M' := M_X12_waits) cm_X12_waits wd_1826 wd_1828 wd_107 yM_0 cl_X12 rfl dX12_readAny_160 (Nat.le_refl _) rfl (Nat.le_of_ble_eq_true rfl) (Nat.le_of_ble_eq_true rfl) h (fun v u h hk => ?_)
        cases hk
        obtain ⟨s17, rfl⟩ : ∃ x, x = u := ⟨_, rfl⟩
        refine Ev_aload_n 0 dX12_readAny_163 rfl rfl ?_
        refine Ev_callV (As := []) (b := 0) (st := []) (M' := M_X12_reads) cm_X12_reads wd_1706 wd_1708 wd_77 yM_0 cl_X12 rfl dX12_readAny_164 (Nat.le_refl _) rfl (Nat.le_of_ble_eq_true rfl) (Nat.le_of_ble_eq_true rfl) h (fun v u h hk => ?_)
        cases hk
        obtain ⟨s18, rfl⟩ : ∃ x, x = u := ⟨_, rfl⟩
        refine Ev_iconst dX12_readAny_167 rfl (ev_Rc rfl) ?_
        refine Ev_istore_n (l' := [(2, ev_i 1), (0, ev_r 0), (1, ev_i a1)]) dX12_readAny_168 rfl (Nat.le_of_ble_eq_true rfl) rfl ?_
        refine Ev_goto (tgt := 9) dX12_readAny_169 rfl ?_
        exact Ev_sub [1, 2, 0] rfl h
    · replace h := h.2 c
      refine Ev_aload_n 0 dX12_readAny_116 rfl rfl ?_
      refine Ev_bipushC dX12_readAny_117 rfl ?_
      refine Ev_callV (As := [ev_i 10]) (b := 0) (st := []) (M' := M_X12_settles) cm_X12_settles wd_1850 wd_1852 wd_113 yM_0 cl_X12 rfl dX12_readAny_119 (Nat.le_refl _) rfl (Nat.le_of_ble_eq_true rfl) (Nat.le_of_ble_eq_true rfl) h (fun v u h hk => ?_)
      cases hk
      obtain ⟨s19, rfl⟩ : ∃ x, x = u := ⟨_, rfl⟩
      refine Ev_aload_n 0 dX12_readAny_122 rfl rfl ?_
      refine Ev_bipushC dX12_readAny_123 rfl ?_
      refine Ev_callV (As := [ev_i 10]) (b := 0) (st := []) (M' := M_X12_waits) cm_X12_waits wd_1826 wd_1828 wd_107 yM_0 cl_X12 rfl dX12_readAny_125 (Nat.le_refl _) rfl (Nat.le_of_ble_eq_true rfl) (Nat.le_of_ble_eq_true rfl) h (fun v u h hk => ?_)
      cases hk
      obtain ⟨s20, rfl⟩ : ∃ x, x = u := ⟨_, rfl⟩
      refine Ev_aload_n 0 dX12_readAny_128 rfl rfl ?_
      refine Ev_callV (As := []) (b := 0) (st := []) (M' := M_X12_reads) cm_X12_reads wd_1706 wd_1708 wd_77 yM_0 cl_X12 rfl dX12_readAny_129 (Nat.le_refl _) rfl (Nat.le_of_ble_eq_true rfl) (Nat.le_of_ble_eq_true rfl) h (fun v u h hk => ?_)
      cases hk
      obtain ⟨s21, rfl⟩ : ∃ x, x = u := ⟨_, rfl⟩
      refine Ev_iconst dX12_readAny_132 rfl (ev_Rc rfl) ?_
      refine Ev_istore_n (l' := [(2, ev_i 1), (0, ev_r 0), (1, ev_i a1)]) dX12_readAny_133 rfl (Nat.le_of_ble_eq_true rfl) rfl ?_
      refine Ev_goto (tgt := 9) dX12_readAny_134 rfl ?_
      exact Ev_sub [1, 2, 0] rfl h
  · replace h := h.2 c
    refine Ev_aload_n 0 dX12_readAny_13 rfl rfl ?_
    refine Ev_iconst dX12_readAny_14 rfl (ev_Rc rfl) ?_
    refine Ev_callV (As := [ev_i 5]) (b := 0) (st := []) (M' := M_X12_isWord) cm_X12_isWord wd_1742 wd_1744 wd_86 yM_0 cl_X12 rfl dX12_readAny_15 (Nat.le_refl _) rfl (Nat.le_of_ble_eq_true rfl) (Nat.le_of_ble_eq_true rfl) h (fun v u h hk => ?_)
    obtain ⟨r23, rfl⟩ := hk
    obtain ⟨s22, rfl⟩ : ∃ x, x = u := ⟨_, rfl⟩
    replace h := h r23 rfl
    refine Ev_istore_n (l' := [(3, ev_i r23), (0, ev_r 0), (1, ev_i a1), (2, ev_i a2)]) dX12_readAny_18 rfl (Nat.le_of_ble_eq_true rfl) rfl ?_
    refine Ev_iload_n 0 dX12_readAny_19 rfl rfl ?_
    refine Ev_if_ne (tgt := 32) dX12_readAny_20 rfl (fun c => ?_) (fun c => ?_)
    · replace h := h.1 c
      exact Ev_sub [1, 2, 3, 0] rfl h
    · replace h := h.2 c
      refine Ev_aload_n 1 dX12_readAny_23 rfl rfl ?_
      refine Ev_bipushC dX12_readAny_24 rfl ?_
      refine Ev_callV (As := [ev_i 40]) (b := 0) (st := []) (M' := M_X12_isSign) cm_X12_isSign wd_1746 wd_1748 wd_87 yM_0 cl_X12 rfl dX12_readAny_26 (Nat.le_refl _) rfl (Nat.le_of_ble_eq_true rfl) (Nat.le_of_ble_eq_true rfl) h (fun v u h hk => ?_)
      obtain ⟨r25, rfl⟩ := hk
      obtain ⟨s24, rfl⟩ : ∃ x, x = u := ⟨_, rfl⟩
      replace h := h r25 rfl
      refine Ev_if_eq (tgt := 87) dX12_readAny_29 rfl (fun c => ?_) (fun c => ?_)
      · replace h := h.1 c
        refine Ev_aload_n 1 dX12_readAny_87 rfl rfl ?_
        refine Ev_callV (As := []) (b := 0) (st := []) (M' := M_X12_readCompared) cm_X12_readCompared wd_1830 wd_1832 wd_108 yM_0 cl_X12 rfl dX12_readAny_88 (Nat.le_refl _) rfl (Nat.le_of_ble_eq_true rfl) (Nat.le_of_ble_eq_true rfl) h (fun v u h hk => ?_)
        obtain ⟨r27, rfl⟩ := hk
        obtain ⟨s26, rfl⟩ : ∃ x, x = u := ⟨_, rfl⟩
        replace h := h r27 rfl
        refine Ev_iconst dX12_readAny_91 rfl (ev_Rc rfl) ?_
        refine Ev_icmp_ne (tgt := 97) dX12_readAny_92 rfl (fun c => ?_) (fun c => ?_)
        · replace h := h.1 c
          refine Ev_aload_n 1 dX12_readAny_97 rfl rfl ?_
          refine Ev_bipushC dX12_readAny_98 rfl ?_
          refine Ev_callV (As := [ev_i 9]) (b := 0) (st := []) (M' := M_X12_settles) cm_X12_settles wd_1850 wd_1852 wd_113 yM_0 cl_X12 rfl dX12_readAny_100 (Nat.le_refl _) rfl (Nat.le_of_ble_eq_true rfl) (Nat.le_of_ble_eq_true rfl) h (fun v u h hk => ?_)
          cases hk
          obtain ⟨s28, rfl⟩ : ∃ x, x = u := ⟨_, rfl⟩
          refine Ev_iconst dX12_readAny_103 rfl (ev_Rc rfl) ?_
          refine Ev_istore_n (l' := [(2, ev_i 0), (3, ev_i r23), (0, ev_r 0), (1, ev_i a1)]) dX12_readAny_104 rfl (Nat.le_of_ble_eq_true rfl) rfl ?_
          refine Ev_goto (tgt := 9) dX12_readAny_105 rfl ?_
          exact Ev_sub [2, 3, 0] rfl h
        · replace h := h.2 c
          refine Ev_iconst dX12_readAny_95 rfl (ev_Rc rfl) ?_
          exact Ev_iret rfl dX12_readAny_96 rfl h
      · replace h := h.2 c
        exact Ev_sub [1, 2, 3, 0] rfl h
theorem wp_X12_readAny_32 {d : Nat} {s : ev_S} {Q : Option ev_V → ev_S → Prop} {a1 a2 a3 : Int}
    (h : (((s 0 32) ≠ 8 → (∀ s1, ev_up s 0 32 (ev_add (s 0 32) 1) = s1 → ((a3 ≠ 0 → ((a3 = 0 → Ev layM M_X12_readAny (d + 1) 77 [(0, ev_r 0), (1, ev_i a1), (2, ev_i a2)] [ev_i 12, ev_r 0] s1 Q) ∧ (a3 ≠ 0 → Ev layM M_X12_readAny (d + 1) 77 [(0, ev_r 0), (1, ev_i a1), (2, ev_i a2)] [ev_i 9, ev_r 0] s1 Q))) ∧ (a3 = 0 → ((a3 = 0 → Ev layM M_X12_readAny (d + 1) 77 [(0, ev_r 0), (1, ev_i (ev_add a1 1)), (2, ev_i a2)] [ev_i 12, ev_r 0] s1 Q) ∧ (a3 ≠ 0 → Ev layM M_X12_readAny (d + 1) 77 [(0, ev_r 0), (1, ev_i (ev_add a1 1)), (2, ev_i a2)] [ev_i 9, ev_r 0] s1 Q)))))) ∧ ((s 0 32) = 8 → (Ev layM M_X12_errs d 0 [(0, ev_r 0), (1, ev_i 3)] [] s (ev_pi (fun r3 s2 => Q (some (ev_i r3)) s2)))))) :
    Ev layM M_X12_readAny (d + 1) 32 [(0, ev_r 0), (1, ev_i a1), (2, ev_i a2), (3, ev_i a3)] [] s Q := by
  refine Ev_aload_n 0 dX12_readAny_32 rfl rfl ?_
  refine Ev_get (i := 32) cl_X12 yM_0 (Nat.le_of_ble_eq_true rfl) rfl wd_1476 dX12_readAny_33 ?_
  refine Ev_bipushC dX12_readAny_36 rfl ?_
  refine Ev_icmp_ne (tgt := 47) dX12_readAny_38 rfl (fun c => ?_) (fun c => ?_)
  · replace h := h.1 c
    refine Ev_aload_n 0 dX12_readAny_47 rfl rfl ?_
    refine Ev_aload_n 0 dX12_readAny_48 rfl rfl ?_
    refine Ev_get (i := 32) cl_X12 yM_0 (Nat.le_of_ble_eq_true rfl) rfl wd_1476 dX12_readAny_49 ?_
    refine Ev_iconst dX12_readAny_52 rfl (ev_Rc rfl) ?_
    refine Ev_iadd dX12_readAny_53 ?_
    refine Ev_put (i := 32) (ty := .int) cl_X12 yM_0 (Nat.le_of_ble_eq_true rfl) rfl rfl (by decide +kernel) rfl rfl wd_1476 dX12_readAny_54 (Ev_nm (fun s1 es1 => ?_))
    replace h := h s1 es1
    refine Ev_iload_n 3 dX12_readAny_57 rfl rfl ?_
    refine Ev_if_ne (tgt := 65) dX12_readAny_58 rfl (fun c => ?_) (fun c => ?_)
    · replace h := h.1 c
      refine Ev_aload_n 0 dX12_readAny_65 rfl rfl ?_
      refine Ev_iload_n 3 dX12_readAny_66 rfl rfl ?_
      refine Ev_if_eq (tgt := 75) dX12_readAny_67 rfl (fun c => ?_) (fun c => ?_)
      · replace h := h.1 c
        refine Ev_bipushC dX12_readAny_75 rfl ?_
        exact Ev_sub [0, 1, 2] rfl h
      · replace h := h.2 c
        refine Ev_bipushC dX12_readAny_70 rfl ?_
        refine Ev_goto (tgt := 77) dX12_readAny_72 rfl ?_
        exact Ev_sub [0, 1, 2] rfl h
    · replace h := h.2 c
      refine Ev_iload_n 1 dX12_readAny_61 rfl rfl ?_
      refine Ev_iconst dX12_readAny_62 rfl (ev_Rc rfl) ?_
      refine Ev_iadd dX12_readAny_63 ?_
      refine Ev_istore_n (l' := [(1, ev_i (ev_add a1 1)), (0, ev_r 0), (2, ev_i a2), (3, ev_i a3)]) dX12_readAny_64 rfl (Nat.le_of_ble_eq_true rfl) rfl ?_
      refine Ev_aload_n 1 dX12_readAny_65 rfl rfl ?_
      refine Ev_iload_n 3 dX12_readAny_66 rfl rfl ?_
      refine Ev_if_eq (tgt := 75) dX12_readAny_67 rfl (fun c => ?_) (fun c => ?_)
      · replace h := h.1 c
        refine Ev_bipushC dX12_readAny_75 rfl ?_
        exact Ev_sub [1, 0, 2] rfl h
      · replace h := h.2 c
        refine Ev_bipushC dX12_readAny_70 rfl ?_
        refine Ev_goto (tgt := 77) dX12_readAny_72 rfl ?_
        exact Ev_sub [1, 0, 2] rfl h
  · replace h := h.2 c
    refine Ev_aload_n 0 dX12_readAny_41 rfl rfl ?_
    refine Ev_iconst dX12_readAny_42 rfl (ev_Rc rfl) ?_
    refine Ev_callV (As := [ev_i 3]) (b := 0) (st := []) (M' := M_X12_errs) cm_X12_errs wd_1758 wd_1760 wd_90 yM_0 cl_X12 rfl dX12_readAny_43 (Nat.le_refl _) rfl (Nat.le_of_ble_eq_true rfl) (Nat.le_of_ble_eq_true rfl) h (fun v u h hk => ?_)
    obtain ⟨r3, rfl⟩ := hk
    obtain ⟨s2, rfl⟩ : ∃ x, x = u := ⟨_, rfl⟩
    replace h := h r3 rfl
    exact Ev_iret rfl dX12_readAny_46 rfl h
theorem wp_X12_readAny_77 {d : Nat} {s : ev_S} {Q : Option ev_V → ev_S → Prop} {a1 a2 t0 : Int}
    (h : (Ev layM M_X12_waits d 0 [(0, ev_r 0), (1, ev_i t0)] [] s (fun _ s1 => (Ev layM M_X12_reads d 0 [(0, ev_r 0)] [] s1 (fun _ s2 => Ev layM M_X12_readAny (d + 1) 9 [(0, ev_r 0), (1, ev_i a1), (2, ev_i a2)] [] s2 Q))))) :
    Ev layM M_X12_readAny (d + 1) 77 [(0, ev_r 0), (1, ev_i a1), (2, ev_i a2)] [ev_i t0, ev_r 0] s Q := by
  refine Ev_callV (As := [ev_i t0]) (b := 0) (st := []) (M' := M_X12_waits) cm_X12_waits wd_1826 wd_1828 wd_107 yM_0 cl_X12 rfl dX12_readAny_77 (Nat.le_refl _) rfl (Nat.le_of_ble_eq_true rfl) (Nat.le_of_ble_eq_true rfl) h (fun v u h hk => ?_)
  cases hk
  obtain ⟨s1, rfl⟩ : ∃ x, x = u := ⟨_, rfl⟩
  refine Ev_aload_n 0 dX12_readAny_80 rfl rfl ?_
  refine Ev_callV (As := []) (b := 0) (st := []) (M' := M_X12_reads) cm_X12_reads wd_1706 wd_1708 wd_77 yM_0 cl_X12 rfl dX12_readAny_81 (Nat.le_refl _) rfl (Nat.le_of_ble_eq_true rfl) (Nat.le_of_ble_eq_true rfl) h (fun v u h hk => ?_)
  cases hk
  obtain ⟨s2, rfl⟩ : ∃ x, x = u := ⟨_, rfl⟩
  refine Ev_goto (tgt := 9) dX12_readAny_84 rfl ?_
  exact Ev_sub [0, 1, 2] rfl h
theorem dX12_readText_0 : decode cX12_readText 0 = .ok (.iconst 0, 1) := by decide +kernel
theorem dX12_readText_1 : decode cX12_readText 1 = .ok (.istore_n 1, 1) := by decide +kernel
theorem dX12_readText_2 : decode cX12_readText 2 = .ok (.aload_n 0, 1) := by decide +kernel
theorem dX12_readText_3 : decode cX12_readText 3 = .ok (.getfield 194, 3) := by decide +kernel
theorem dX12_readText_6 : decode cX12_readText 6 = .ok (.iconst 2, 1) := by decide +kernel
theorem dX12_readText_7 : decode cX12_readText 7 = .ok (.if_icmp .ne 110, 3) := by decide +kernel
theorem dX12_readText_10 : decode cX12_readText 10 = .ok (.aload_n 0, 1) := by decide +kernel
theorem dX12_readText_11 : decode cX12_readText 11 = .ok (.getfield 197, 3) := by decide +kernel
theorem dX12_readText_14 : decode cX12_readText 14 = .ok (.iconst 1, 1) := by decide +kernel
theorem dX12_readText_15 : decode cX12_readText 15 = .ok (.if_icmp .gt 102, 3) := by decide +kernel
theorem dX12_readText_18 : decode cX12_readText 18 = .ok (.iload_n 1, 1) := by decide +kernel
theorem dX12_readText_19 : decode cX12_readText 19 = .ok (.bipush 16, 2) := by decide +kernel
theorem dX12_readText_21 : decode cX12_readText 21 = .ok (.if_icmp .ne 9, 3) := by decide +kernel
theorem dX12_readText_24 : decode cX12_readText 24 = .ok (.aload_n 0, 1) := by decide +kernel
theorem dX12_readText_25 : decode cX12_readText 25 = .ok (.iconst 3, 1) := by decide +kernel
theorem dX12_readText_26 : decode cX12_readText 26 = .ok (.invokevirtual 222, 3) := by decide +kernel
theorem dX12_readText_29 : decode cX12_readText 29 = .ok (.ireturn, 1) := by decide +kernel
theorem dX12_readText_30 : decode cX12_readText 30 = .ok (.bipush 16, 2) := by decide +kernel
theorem dX12_readText_32 : decode cX12_readText 32 = .ok (.iload_n 1, 1) := by decide +kernel
theorem dX12_readText_33 : decode cX12_readText 33 = .ok (.iadd, 1) := by decide +kernel
theorem dX12_readText_34 : decode cX12_readText 34 = .ok (.istore_n 2, 1) := by decide +kernel
theorem dX12_readText_35 : decode cX12_readText 35 = .ok (.aload_n 0, 1) := by decide +kernel
theorem dX12_readText_36 : decode cX12_readText 36 = .ok (.getfield 43, 3) := by decide +kernel
theorem dX12_readText_39 : decode cX12_readText 39 = .ok (.iload_n 2, 1) := by decide +kernel
theorem dX12_readText_40 : decode cX12_readText 40 = .ok (.aload_n 0, 1) := by decide +kernel
theorem dX12_readText_41 : decode cX12_readText 41 = .ok (.getfield 197, 3) := by decide +kernel
theorem dX12_readText_44 : decode cX12_readText 44 = .ok (.iastore, 1) := by decide +kernel
theorem dX12_readText_45 : decode cX12_readText 45 = .ok (.aload_n 0, 1) := by decide +kernel
theorem dX12_readText_46 : decode cX12_readText 46 = .ok (.invokevirtual 229, 3) := by decide +kernel
theorem dX12_readText_49 : decode cX12_readText 49 = .ok (.aload_n 0, 1) := by decide +kernel
theorem dX12_readText_50 : decode cX12_readText 50 = .ok (.getfield 46, 3) := by decide +kernel
theorem dX12_readText_53 : decode cX12_readText 53 = .ok (.iload_n 2, 1) := by decide +kernel
theorem dX12_readText_54 : decode cX12_readText 54 = .ok (.aload_n 0, 1) := by decide +kernel
theorem dX12_readText_55 : decode cX12_readText 55 = .ok (.getfield 219, 3) := by decide +kernel
theorem dX12_readText_58 : decode cX12_readText 58 = .ok (.iastore, 1) := by decide +kernel
theorem dX12_readText_59 : decode cX12_readText 59 = .ok (.aload_n 0, 1) := by decide +kernel
theorem dX12_readText_60 : decode cX12_readText 60 = .ok (.iconst 2, 1) := by decide +kernel
theorem dX12_readText_61 : decode cX12_readText 61 = .ok (.invokevirtual 251, 3) := by decide +kernel
theorem dX12_readText_64 : decode cX12_readText 64 = .ok (.ifCond .eq 17, 3) := by decide +kernel
theorem dX12_readText_67 : decode cX12_readText 67 = .ok (.aload_n 0, 1) := by decide +kernel
theorem dX12_readText_68 : decode cX12_readText 68 = .ok (.invokevirtual 229, 3) := by decide +kernel
theorem dX12_readText_71 : decode cX12_readText 71 = .ok (.aload_n 0, 1) := by decide +kernel
theorem dX12_readText_72 : decode cX12_readText 72 = .ok (.invokevirtual 263, 3) := by decide +kernel
theorem dX12_readText_75 : decode cX12_readText 75 = .ok (.iconst (-1), 1) := by decide +kernel
theorem dX12_readText_76 : decode cX12_readText 76 = .ok (.if_icmp .ne 5, 3) := by decide +kernel
theorem dX12_readText_79 : decode cX12_readText 79 = .ok (.iconst (-1), 1) := by decide +kernel
theorem dX12_readText_80 : decode cX12_readText 80 = .ok (.ireturn, 1) := by decide +kernel
theorem dX12_readText_81 : decode cX12_readText 81 = .ok (.aload_n 0, 1) := by decide +kernel
theorem dX12_readText_82 : decode cX12_readText 82 = .ok (.getfield 49, 3) := by decide +kernel
theorem dX12_readText_85 : decode cX12_readText 85 = .ok (.iload_n 2, 1) := by decide +kernel
theorem dX12_readText_86 : decode cX12_readText 86 = .ok (.aload_n 0, 1) := by decide +kernel
theorem dX12_readText_87 : decode cX12_readText 87 = .ok (.getfield 219, 3) := by decide +kernel
theorem dX12_readText_90 : decode cX12_readText 90 = .ok (.iastore, 1) := by decide +kernel
theorem dX12_readText_91 : decode cX12_readText 91 = .ok (.aload_n 0, 1) := by decide +kernel
theorem dX12_readText_92 : decode cX12_readText 92 = .ok (.bipush 59, 2) := by decide +kernel
theorem dX12_readText_94 : decode cX12_readText 94 = .ok (.invokevirtual 236, 3) := by decide +kernel
theorem dX12_readText_97 : decode cX12_readText 97 = .ok (.ifCond .ne 9, 3) := by decide +kernel
theorem dX12_readText_100 : decode cX12_readText 100 = .ok (.aload_n 0, 1) := by decide +kernel
theorem dX12_readText_101 : decode cX12_readText 101 = .ok (.iconst 1, 1) := by decide +kernel
theorem dX12_readText_102 : decode cX12_readText 102 = .ok (.invokevirtual 222, 3) := by decide +kernel
theorem dX12_readText_105 : decode cX12_readText 105 = .ok (.ireturn, 1) := by decide +kernel
theorem dX12_readText_106 : decode cX12_readText 106 = .ok (.aload_n 0, 1) := by decide +kernel
theorem dX12_readText_107 : decode cX12_readText 107 = .ok (.invokevirtual 229, 3) := by decide +kernel
theorem dX12_readText_110 : decode cX12_readText 110 = .ok (.iload_n 1, 1) := by decide +kernel
theorem dX12_readText_111 : decode cX12_readText 111 = .ok (.iconst 1, 1) := by decide +kernel
theorem dX12_readText_112 : decode cX12_readText 112 = .ok (.iadd, 1) := by decide +kernel
theorem dX12_readText_113 : decode cX12_readText 113 = .ok (.istore_n 1, 1) := by decide +kernel
theorem dX12_readText_114 : decode cX12_readText 114 = .ok (.goto (-112), 3) := by decide +kernel
theorem dX12_readText_117 : decode cX12_readText 117 = .ok (.aload_n 0, 1) := by decide +kernel
theorem dX12_readText_118 : decode cX12_readText 118 = .ok (.getfield 194, 3) := by decide +kernel
theorem dX12_readText_121 : decode cX12_readText 121 = .ok (.ifCond .ne 7, 3) := by decide +kernel
theorem dX12_readText_124 : decode cX12_readText 124 = .ok (.iload_n 1, 1) := by decide +kernel
theorem dX12_readText_125 : decode cX12_readText 125 = .ok (.goto 8, 3) := by decide +kernel
theorem dX12_readText_128 : decode cX12_readText 128 = .ok (.aload_n 0, 1) := by decide +kernel
theorem dX12_readText_129 : decode cX12_readText 129 = .ok (.iconst 1, 1) := by decide +kernel
theorem dX12_readText_130 : decode cX12_readText 130 = .ok (.invokevirtual 222, 3) := by decide +kernel
theorem dX12_readText_133 : decode cX12_readText 133 = .ok (.ireturn, 1) := by decide +kernel
theorem wp_X12_readText_0 {d : Nat} {s : ev_S} {Q : Option ev_V → ev_S → Prop}
    (h : Ev layM M_X12_readText (d + 1) 2 [(0, ev_r 0), (1, ev_i 0)] [] s Q) :
    Ev layM M_X12_readText (d + 1) 0 [(0, ev_r 0)] [] s Q := by
  refine Ev_iconst dX12_readText_0 rfl (ev_Rc rfl) ?_
  refine Ev_istore_n (l' := [(1, ev_i 0), (0, ev_r 0)]) dX12_readText_1 rfl (Nat.le_of_ble_eq_true rfl) rfl ?_
  exact Ev_sub [1, 0] rfl h
theorem wp_X12_readText_2 {d : Nat} {s : ev_S} {Q : Option ev_V → ev_S → Prop} {a1 : Int}
    (h : (((s 0 22) ≠ 2 → Ev layM M_X12_readText (d + 1) 117 [(0, ev_r 0), (1, ev_i a1)] [] s Q) ∧ ((s 0 22) = 2 → ((1 < (s 0 23) → Ev layM M_X12_readText (d + 1) 117 [(0, ev_r 0), (1, ev_i a1)] [] s Q) ∧ ((s 0 23) ≤ 1 → ((a1 ≠ 16 → ((0 ≤ (ev_add 16 a1) ∧ (ev_add 16 a1) < (32 : Nat)) ∧ ∀ s1, ev_up s 12 (Int.toNat (ev_add 16 a1)) (s 0 23) = s1 → (Ev layM M_X12_reads d 0 [(0, ev_r 0)] [] s1 (fun _ s2 => ((0 ≤ (ev_add 16 a1) ∧ (ev_add 16 a1) < (32 : Nat)) ∧ ∀ s3, ev_up s2 13 (Int.toNat (ev_add 16 a1)) (s2 0 31) = s3 → (Ev layM M_X12_isWord d 0 [(0, ev_r 0), (1, ev_i 2)] [] s3 (ev_pi (fun r5 s4 => ((r5 = 0 → Ev layM M_X12_readText (d + 1) 81 [(0, ev_r 0), (1, ev_i a1), (2, ev_i (ev_add 16 a1))] [] s4 Q) ∧ (r5 ≠ 0 → (Ev layM M_X12_reads d 0 [(0, ev_r 0)] [] s4 (fun _ s6 => (Ev layM M_X12_readAny d 0 [(0, ev_r 0)] [] s6 (ev_pi (fun r8 s7 => ((r8 ≠ (-1) → Ev layM M_X12_readText (d + 1) 81 [(0, ev_r 0), (1, ev_i a1), (2, ev_i (ev_add 16 a1))] [] s7 Q) ∧ (r8 = (-1) → Q (some (ev_i (-1))) s7))))))))))))))))) ∧ (a1 = 16 → (Ev layM M_X12_errs d 0 [(0, ev_r 0), (1, ev_i 3)] [] s (ev_pi (fun r10 s9 => Q (some (ev_i r10)) s9)))))))))) :
    Ev layM M_X12_readText (d + 1) 2 [(0, ev_r 0), (1, ev_i a1)] [] s Q := by
  refine Ev_aload_n 0 dX12_readText_2 rfl rfl ?_
  refine Ev_get (i := 22) cl_X12 yM_0 (Nat.le_of_ble_eq_true rfl) rfl wd_1466 dX12_readText_3 ?_
  refine Ev_iconst dX12_readText_6 rfl (ev_Rc rfl) ?_
  refine Ev_icmp_ne (tgt := 117) dX12_readText_7 rfl (fun c => ?_) (fun c => ?_)
  · replace h := h.1 c
    exact Ev_sub [0, 1] rfl h
  · replace h := h.2 c
    refine Ev_aload_n 0 dX12_readText_10 rfl rfl ?_
    refine Ev_get (i := 23) cl_X12 yM_0 (Nat.le_of_ble_eq_true rfl) rfl wd_1467 dX12_readText_11 ?_
    refine Ev_iconst dX12_readText_14 rfl (ev_Rc rfl) ?_
    refine Ev_icmp_gt (tgt := 117) dX12_readText_15 rfl (fun c => ?_) (fun c => ?_)
    · replace h := h.1 c
      exact Ev_sub [0, 1] rfl h
    · replace h := h.2 c
      refine Ev_iload_n 1 dX12_readText_18 rfl rfl ?_
      refine Ev_bipushC dX12_readText_19 rfl ?_
      refine Ev_icmp_ne (tgt := 30) dX12_readText_21 rfl (fun c => ?_) (fun c => ?_)
      · replace h := h.1 c
        refine Ev_bipushC dX12_readText_30 rfl ?_
        refine Ev_iload_n 1 dX12_readText_32 rfl rfl ?_
        refine Ev_iadd dX12_readText_33 ?_
        refine Ev_istore_n (l' := [(2, ev_i (ev_add 16 a1)), (0, ev_r 0), (1, ev_i a1)]) dX12_readText_34 rfl (Nat.le_of_ble_eq_true rfl) rfl ?_
        refine Ev_aload_n 1 dX12_readText_35 rfl rfl ?_
        refine Ev_getR (i := 26) cl_X12 yM_0 (Nat.le_of_ble_eq_true rfl) rfl wd_1470 dX12_readText_36 ?_
        refine Ev_iload_n 0 dX12_readText_39 rfl rfl ?_
        refine Ev_aload_n 1 dX12_readText_40 rfl rfl ?_
        refine Ev_get (i := 23) cl_X12 yM_0 (Nat.le_of_ble_eq_true rfl) rfl wd_1467 dX12_readText_41 ?_
        obtain ⟨h0, h⟩ := h
        refine Ev_iast yM_12 h0 dX12_readText_44 (Ev_nm (fun s1 es1 => ?_))
        replace h := h s1 es1
        refine Ev_aload_n 1 dX12_readText_45 rfl rfl ?_
        refine Ev_callV (As := []) (b := 0) (st := []) (M' := M_X12_reads) cm_X12_reads wd_1706 wd_1708 wd_77 yM_0 cl_X12 rfl dX12_readText_46 (Nat.le_refl _) rfl (Nat.le_of_ble_eq_true rfl) (Nat.le_of_ble_eq_true rfl) h (fun v u h hk => ?_)
        cases hk
        obtain ⟨s2, rfl⟩ : ∃ x, x = u := ⟨_, rfl⟩
        refine Ev_aload_n 1 dX12_readText_49 rfl rfl ?_
        refine Ev_getR (i := 27) cl_X12 yM_0 (Nat.le_of_ble_eq_true rfl) rfl wd_1471 dX12_readText_50 ?_
        refine Ev_iload_n 0 dX12_readText_53 rfl rfl ?_
        refine Ev_aload_n 1 dX12_readText_54 rfl rfl ?_
        refine Ev_get (i := 31) cl_X12 yM_0 (Nat.le_of_ble_eq_true rfl) rfl wd_1475 dX12_readText_55 ?_
        obtain ⟨h0, h⟩ := h
        refine Ev_iast yM_13 h0 dX12_readText_58 (Ev_nm (fun s3 es3 => ?_))
        replace h := h s3 es3
        refine Ev_aload_n 1 dX12_readText_59 rfl rfl ?_
        refine Ev_iconst dX12_readText_60 rfl (ev_Rc rfl) ?_
        refine Ev_callV (As := [ev_i 2]) (b := 0) (st := []) (M' := M_X12_isWord) cm_X12_isWord wd_1742 wd_1744 wd_86 yM_0 cl_X12 rfl dX12_readText_61 (Nat.le_refl _) rfl (Nat.le_of_ble_eq_true rfl) (Nat.le_of_ble_eq_true rfl) h (fun v u h hk => ?_)
        obtain ⟨r5, rfl⟩ := hk
        obtain ⟨s4, rfl⟩ : ∃ x, x = u := ⟨_, rfl⟩
        replace h := h r5 rfl
        refine Ev_if_eq (tgt := 81) dX12_readText_64 rfl (fun c => ?_) (fun c => ?_)
        · replace h := h.1 c
          exact Ev_sub [1, 2, 0] rfl h
        · replace h := h.2 c
          refine Ev_aload_n 1 dX12_readText_67 rfl rfl ?_
          refine Ev_callV (As := []) (b := 0) (st := []) (M' := M_X12_reads) cm_X12_reads wd_1706 wd_1708 wd_77 yM_0 cl_X12 rfl dX12_readText_68 (Nat.le_refl _) rfl (Nat.le_of_ble_eq_true rfl) (Nat.le_of_ble_eq_true rfl) h (fun v u h hk => ?_)
          cases hk
          obtain ⟨s6, rfl⟩ : ∃ x, x = u := ⟨_, rfl⟩
          refine Ev_aload_n 1 dX12_readText_71 rfl rfl ?_
          refine Ev_callV (As := []) (b := 0) (st := []) (M' := M_X12_readAny) cm_X12_readAny wd_1822 wd_1824 wd_106 yM_0 cl_X12 rfl dX12_readText_72 (Nat.le_refl _) rfl (Nat.le_of_ble_eq_true rfl) (Nat.le_of_ble_eq_true rfl) h (fun v u h hk => ?_)
          obtain ⟨r8, rfl⟩ := hk
          obtain ⟨s7, rfl⟩ : ∃ x, x = u := ⟨_, rfl⟩
          replace h := h r8 rfl
          refine Ev_iconst dX12_readText_75 rfl (ev_Rc rfl) ?_
          refine Ev_icmp_ne (tgt := 81) dX12_readText_76 rfl (fun c => ?_) (fun c => ?_)
          · replace h := h.1 c
            exact Ev_sub [1, 2, 0] rfl h
          · replace h := h.2 c
            refine Ev_iconst dX12_readText_79 rfl (ev_Rc rfl) ?_
            exact Ev_iret rfl dX12_readText_80 rfl h
      · replace h := h.2 c
        refine Ev_aload_n 0 dX12_readText_24 rfl rfl ?_
        refine Ev_iconst dX12_readText_25 rfl (ev_Rc rfl) ?_
        refine Ev_callV (As := [ev_i 3]) (b := 0) (st := []) (M' := M_X12_errs) cm_X12_errs wd_1758 wd_1760 wd_90 yM_0 cl_X12 rfl dX12_readText_26 (Nat.le_refl _) rfl (Nat.le_of_ble_eq_true rfl) (Nat.le_of_ble_eq_true rfl) h (fun v u h hk => ?_)
        obtain ⟨r10, rfl⟩ := hk
        obtain ⟨s9, rfl⟩ : ∃ x, x = u := ⟨_, rfl⟩
        replace h := h r10 rfl
        exact Ev_iret rfl dX12_readText_29 rfl h
theorem wp_X12_readText_81 {d : Nat} {s : ev_S} {Q : Option ev_V → ev_S → Prop} {a1 a2 : Int}
    (h : ((0 ≤ a2 ∧ a2 < (32 : Nat)) ∧ ∀ s1, ev_up s 14 (Int.toNat a2) (s 0 31) = s1 → (Ev layM M_X12_isSign d 0 [(0, ev_r 0), (1, ev_i 59)] [] s1 (ev_pi (fun r3 s2 => ((r3 ≠ 0 → (Ev layM M_X12_reads d 0 [(0, ev_r 0)] [] s2 (fun _ s4 => Ev layM M_X12_readText (d + 1) 2 [(0, ev_r 0), (1, ev_i (ev_add a1 1))] [] s4 Q))) ∧ (r3 = 0 → (Ev layM M_X12_errs d 0 [(0, ev_r 0), (1, ev_i 1)] [] s2 (ev_pi (fun r6 s5 => Q (some (ev_i r6)) s5)))))))))) :
    Ev layM M_X12_readText (d + 1) 81 [(0, ev_r 0), (1, ev_i a1), (2, ev_i a2)] [] s Q := by
  refine Ev_aload_n 0 dX12_readText_81 rfl rfl ?_
  refine Ev_getR (i := 28) cl_X12 yM_0 (Nat.le_of_ble_eq_true rfl) rfl wd_1472 dX12_readText_82 ?_
  refine Ev_iload_n 2 dX12_readText_85 rfl rfl ?_
  refine Ev_aload_n 0 dX12_readText_86 rfl rfl ?_
  refine Ev_get (i := 31) cl_X12 yM_0 (Nat.le_of_ble_eq_true rfl) rfl wd_1475 dX12_readText_87 ?_
  obtain ⟨h0, h⟩ := h
  refine Ev_iast yM_14 h0 dX12_readText_90 (Ev_nm (fun s1 es1 => ?_))
  replace h := h s1 es1
  refine Ev_aload_n 0 dX12_readText_91 rfl rfl ?_
  refine Ev_bipushC dX12_readText_92 rfl ?_
  refine Ev_callV (As := [ev_i 59]) (b := 0) (st := []) (M' := M_X12_isSign) cm_X12_isSign wd_1746 wd_1748 wd_87 yM_0 cl_X12 rfl dX12_readText_94 (Nat.le_refl _) rfl (Nat.le_of_ble_eq_true rfl) (Nat.le_of_ble_eq_true rfl) h (fun v u h hk => ?_)
  obtain ⟨r3, rfl⟩ := hk
  obtain ⟨s2, rfl⟩ : ∃ x, x = u := ⟨_, rfl⟩
  replace h := h r3 rfl
  refine Ev_if_ne (tgt := 106) dX12_readText_97 rfl (fun c => ?_) (fun c => ?_)
  · replace h := h.1 c
    refine Ev_aload_n 0 dX12_readText_106 rfl rfl ?_
    refine Ev_callV (As := []) (b := 0) (st := []) (M' := M_X12_reads) cm_X12_reads wd_1706 wd_1708 wd_77 yM_0 cl_X12 rfl dX12_readText_107 (Nat.le_refl _) rfl (Nat.le_of_ble_eq_true rfl) (Nat.le_of_ble_eq_true rfl) h (fun v u h hk => ?_)
    cases hk
    obtain ⟨s4, rfl⟩ : ∃ x, x = u := ⟨_, rfl⟩
    refine Ev_iload_n 1 dX12_readText_110 rfl rfl ?_
    refine Ev_iconst dX12_readText_111 rfl (ev_Rc rfl) ?_
    refine Ev_iadd dX12_readText_112 ?_
    refine Ev_istore_n (l' := [(1, ev_i (ev_add a1 1)), (0, ev_r 0), (2, ev_i a2)]) dX12_readText_113 rfl (Nat.le_of_ble_eq_true rfl) rfl ?_
    refine Ev_goto (tgt := 2) dX12_readText_114 rfl ?_
    exact Ev_sub [1, 0] rfl h
  · replace h := h.2 c
    refine Ev_aload_n 0 dX12_readText_100 rfl rfl ?_
    refine Ev_iconst dX12_readText_101 rfl (ev_Rc rfl) ?_
    refine Ev_callV (As := [ev_i 1]) (b := 0) (st := []) (M' := M_X12_errs) cm_X12_errs wd_1758 wd_1760 wd_90 yM_0 cl_X12 rfl dX12_readText_102 (Nat.le_refl _) rfl (Nat.le_of_ble_eq_true rfl) (Nat.le_of_ble_eq_true rfl) h (fun v u h hk => ?_)
    obtain ⟨r6, rfl⟩ := hk
    obtain ⟨s5, rfl⟩ : ∃ x, x = u := ⟨_, rfl⟩
    replace h := h r6 rfl
    exact Ev_iret rfl dX12_readText_105 rfl h
theorem wp_X12_readText_117 {d : Nat} {s : ev_S} {Q : Option ev_V → ev_S → Prop} {a1 : Int}
    (h : (((s 0 22) ≠ 0 → (Ev layM M_X12_errs d 0 [(0, ev_r 0), (1, ev_i 1)] [] s (ev_pi (fun r2 s1 => Q (some (ev_i r2)) s1)))) ∧ ((s 0 22) = 0 → Q (some (ev_i a1)) s))) :
    Ev layM M_X12_readText (d + 1) 117 [(0, ev_r 0), (1, ev_i a1)] [] s Q := by
  refine Ev_aload_n 0 dX12_readText_117 rfl rfl ?_
  refine Ev_get (i := 22) cl_X12 yM_0 (Nat.le_of_ble_eq_true rfl) rfl wd_1466 dX12_readText_118 ?_
  refine Ev_if_ne (tgt := 128) dX12_readText_121 rfl (fun c => ?_) (fun c => ?_)
  · replace h := h.1 c
    refine Ev_aload_n 0 dX12_readText_128 rfl rfl ?_
    refine Ev_iconst dX12_readText_129 rfl (ev_Rc rfl) ?_
    refine Ev_callV (As := [ev_i 1]) (b := 0) (st := []) (M' := M_X12_errs) cm_X12_errs wd_1758 wd_1760 wd_90 yM_0 cl_X12 rfl dX12_readText_130 (Nat.le_refl _) rfl (Nat.le_of_ble_eq_true rfl) (Nat.le_of_ble_eq_true rfl) h (fun v u h hk => ?_)
    obtain ⟨r2, rfl⟩ := hk
    obtain ⟨s1, rfl⟩ : ∃ x, x = u := ⟨_, rfl⟩
    replace h := h r2 rfl
    exact Ev_iret rfl dX12_readText_133 rfl h
  · replace h := h.2 c
    refine Ev_iload_n 1 dX12_readText_124 rfl rfl ?_
    refine Ev_goto (tgt := 133) dX12_readText_125 rfl ?_
    exact Ev_iret rfl dX12_readText_133 rfl h
theorem dX12_takesLaw_0 : decode cX12_takesLaw 0 = .ok (.iconst 0, 1) := by decide +kernel
theorem dX12_takesLaw_1 : decode cX12_takesLaw 1 = .ok (.istore_n 2, 1) := by decide +kernel
theorem dX12_takesLaw_2 : decode cX12_takesLaw 2 = .ok (.iload_n 2, 1) := by decide +kernel
theorem dX12_takesLaw_3 : decode cX12_takesLaw 3 = .ok (.iload_n 1, 1) := by decide +kernel
theorem dX12_takesLaw_4 : decode cX12_takesLaw 4 = .ok (.if_icmp .ge 54, 3) := by decide +kernel
theorem dX12_takesLaw_7 : decode cX12_takesLaw 7 = .ok (.aload_n 0, 1) := by decide +kernel
theorem dX12_takesLaw_8 : decode cX12_takesLaw 8 = .ok (.getfield 43, 3) := by decide +kernel
theorem dX12_takesLaw_11 : decode cX12_takesLaw 11 = .ok (.iload_n 2, 1) := by decide +kernel
theorem dX12_takesLaw_12 : decode cX12_takesLaw 12 = .ok (.aload_n 0, 1) := by decide +kernel
theorem dX12_takesLaw_13 : decode cX12_takesLaw 13 = .ok (.getfield 43, 3) := by decide +kernel
theorem dX12_takesLaw_16 : decode cX12_takesLaw 16 = .ok (.bipush 16, 2) := by decide +kernel
theorem dX12_takesLaw_18 : decode cX12_takesLaw 18 = .ok (.iload_n 2, 1) := by decide +kernel
theorem dX12_takesLaw_19 : decode cX12_takesLaw 19 = .ok (.iadd, 1) := by decide +kernel
theorem dX12_takesLaw_20 : decode cX12_takesLaw 20 = .ok (.iaload, 1) := by decide +kernel
theorem dX12_takesLaw_21 : decode cX12_takesLaw 21 = .ok (.iastore, 1) := by decide +kernel
theorem dX12_takesLaw_22 : decode cX12_takesLaw 22 = .ok (.aload_n 0, 1) := by decide +kernel
theorem dX12_takesLaw_23 : decode cX12_takesLaw 23 = .ok (.getfield 46, 3) := by decide +kernel
theorem dX12_takesLaw_26 : decode cX12_takesLaw 26 = .ok (.iload_n 2, 1) := by decide +kernel
theorem dX12_takesLaw_27 : decode cX12_takesLaw 27 = .ok (.aload_n 0, 1) := by decide +kernel
theorem dX12_takesLaw_28 : decode cX12_takesLaw 28 = .ok (.getfield 46, 3) := by decide +kernel
theorem dX12_takesLaw_31 : decode cX12_takesLaw 31 = .ok (.bipush 16, 2) := by decide +kernel
theorem dX12_takesLaw_33 : decode cX12_takesLaw 33 = .ok (.iload_n 2, 1) := by decide +kernel
theorem dX12_takesLaw_34 : decode cX12_takesLaw 34 = .ok (.iadd, 1) := by decide +kernel
theorem dX12_takesLaw_35 : decode cX12_takesLaw 35 = .ok (.iaload, 1) := by decide +kernel
theorem dX12_takesLaw_36 : decode cX12_takesLaw 36 = .ok (.iastore, 1) := by decide +kernel
theorem dX12_takesLaw_37 : decode cX12_takesLaw 37 = .ok (.aload_n 0, 1) := by decide +kernel
theorem dX12_takesLaw_38 : decode cX12_takesLaw 38 = .ok (.getfield 49, 3) := by decide +kernel
theorem dX12_takesLaw_41 : decode cX12_takesLaw 41 = .ok (.iload_n 2, 1) := by decide +kernel
theorem dX12_takesLaw_42 : decode cX12_takesLaw 42 = .ok (.aload_n 0, 1) := by decide +kernel
theorem dX12_takesLaw_43 : decode cX12_takesLaw 43 = .ok (.getfield 49, 3) := by decide +kernel
theorem dX12_takesLaw_46 : decode cX12_takesLaw 46 = .ok (.bipush 16, 2) := by decide +kernel
theorem dX12_takesLaw_48 : decode cX12_takesLaw 48 = .ok (.iload_n 2, 1) := by decide +kernel
theorem dX12_takesLaw_49 : decode cX12_takesLaw 49 = .ok (.iadd, 1) := by decide +kernel
theorem dX12_takesLaw_50 : decode cX12_takesLaw 50 = .ok (.iaload, 1) := by decide +kernel
theorem dX12_takesLaw_51 : decode cX12_takesLaw 51 = .ok (.iastore, 1) := by decide +kernel
theorem dX12_takesLaw_52 : decode cX12_takesLaw 52 = .ok (.iinc 2 1, 3) := by decide +kernel
theorem dX12_takesLaw_55 : decode cX12_takesLaw 55 = .ok (.goto (-53), 3) := by decide +kernel
theorem dX12_takesLaw_58 : decode cX12_takesLaw 58 = .ok (.iconst 0, 1) := by decide +kernel
theorem dX12_takesLaw_59 : decode cX12_takesLaw 59 = .ok (.istore_n 2, 1) := by decide +kernel
theorem dX12_takesLaw_60 : decode cX12_takesLaw 60 = .ok (.iload_n 2, 1) := by decide +kernel
theorem dX12_takesLaw_61 : decode cX12_takesLaw 61 = .ok (.aload_n 0, 1) := by decide +kernel
theorem dX12_takesLaw_62 : decode cX12_takesLaw 62 = .ok (.getfield 219, 3) := by decide +kernel
theorem dX12_takesLaw_65 : decode cX12_takesLaw 65 = .ok (.if_icmp .ge 41, 3) := by decide +kernel
theorem dX12_takesLaw_68 : decode cX12_takesLaw 68 = .ok (.aload_n 0, 1) := by decide +kernel
theorem dX12_takesLaw_69 : decode cX12_takesLaw 69 = .ok (.getfield 52, 3) := by decide +kernel
theorem dX12_takesLaw_72 : decode cX12_takesLaw 72 = .ok (.iload_n 2, 1) := by decide +kernel
theorem dX12_takesLaw_73 : decode cX12_takesLaw 73 = .ok (.aload_n 0, 1) := by decide +kernel
theorem dX12_takesLaw_74 : decode cX12_takesLaw 74 = .ok (.getfield 52, 3) := by decide +kernel
theorem dX12_takesLaw_77 : decode cX12_takesLaw 77 = .ok (.sipush 400, 3) := by decide +kernel
theorem dX12_takesLaw_80 : decode cX12_takesLaw 80 = .ok (.iload_n 2, 1) := by decide +kernel
theorem dX12_takesLaw_81 : decode cX12_takesLaw 81 = .ok (.iadd, 1) := by decide +kernel
theorem dX12_takesLaw_82 : decode cX12_takesLaw 82 = .ok (.iaload, 1) := by decide +kernel
theorem dX12_takesLaw_83 : decode cX12_takesLaw 83 = .ok (.iastore, 1) := by decide +kernel
theorem dX12_takesLaw_84 : decode cX12_takesLaw 84 = .ok (.aload_n 0, 1) := by decide +kernel
theorem dX12_takesLaw_85 : decode cX12_takesLaw 85 = .ok (.getfield 55, 3) := by decide +kernel
theorem dX12_takesLaw_88 : decode cX12_takesLaw 88 = .ok (.iload_n 2, 1) := by decide +kernel
theorem dX12_takesLaw_89 : decode cX12_takesLaw 89 = .ok (.aload_n 0, 1) := by decide +kernel
theorem dX12_takesLaw_90 : decode cX12_takesLaw 90 = .ok (.getfield 55, 3) := by decide +kernel
theorem dX12_takesLaw_93 : decode cX12_takesLaw 93 = .ok (.sipush 400, 3) := by decide +kernel
theorem dX12_takesLaw_96 : decode cX12_takesLaw 96 = .ok (.iload_n 2, 1) := by decide +kernel
theorem dX12_takesLaw_97 : decode cX12_takesLaw 97 = .ok (.iadd, 1) := by decide +kernel
theorem dX12_takesLaw_98 : decode cX12_takesLaw 98 = .ok (.iaload, 1) := by decide +kernel
theorem dX12_takesLaw_99 : decode cX12_takesLaw 99 = .ok (.iastore, 1) := by decide +kernel
theorem dX12_takesLaw_100 : decode cX12_takesLaw 100 = .ok (.iinc 2 1, 3) := by decide +kernel
theorem dX12_takesLaw_103 : decode cX12_takesLaw 103 = .ok (.goto (-43), 3) := by decide +kernel
theorem dX12_takesLaw_106 : decode cX12_takesLaw 106 = .ok (.aload_n 0, 1) := by decide +kernel
theorem dX12_takesLaw_107 : decode cX12_takesLaw 107 = .ok (.iload_n 1, 1) := by decide +kernel
theorem dX12_takesLaw_108 : decode cX12_takesLaw 108 = .ok (.putfield 168, 3) := by decide +kernel
theorem dX12_takesLaw_111 : decode cX12_takesLaw 111 = .ok (.return_, 1) := by decide +kernel
theorem wp_X12_takesLaw_0 {d : Nat} {s : ev_S} {Q : Option ev_V → ev_S → Prop} {a1 : Int}
    (h : Ev layM M_X12_takesLaw d 2 [(0, ev_r 0), (1, ev_i a1), (2, ev_i 0)] [] s Q) :
    Ev layM M_X12_takesLaw d 0 [(0, ev_r 0), (1, ev_i a1)] [] s Q := by
  refine Ev_iconst dX12_takesLaw_0 rfl (ev_Rc rfl) ?_
  refine Ev_istore_n (l' := [(2, ev_i 0), (0, ev_r 0), (1, ev_i a1)]) dX12_takesLaw_1 rfl (Nat.le_of_ble_eq_true rfl) rfl ?_
  exact Ev_sub [1, 2, 0] rfl h
theorem wp_X12_takesLaw_2 {d : Nat} {s : ev_S} {Q : Option ev_V → ev_S → Prop} {a1 a2 : Int}
    (h : ((a1 ≤ a2 → Ev layM M_X12_takesLaw d 60 [(0, ev_r 0), (1, ev_i a1), (2, ev_i 0)] [] s Q) ∧ (a2 < a1 → ((0 ≤ (ev_add 16 a2) ∧ (ev_add 16 a2) < (32 : Nat)) ∧ ((0 ≤ a2 ∧ a2 < (32 : Nat)) ∧ ∀ s1, ev_up s 12 (Int.toNat a2) (s 12 (Int.toNat (ev_add 16 a2))) = s1 → ((0 ≤ (ev_add 16 a2) ∧ (ev_add 16 a2) < (32 : Nat)) ∧ ((0 ≤ a2 ∧ a2 < (32 : Nat)) ∧ ∀ s2, ev_up s1 13 (Int.toNat a2) (s1 13 (Int.toNat (ev_add 16 a2))) = s2 → ((0 ≤ (ev_add 16 a2) ∧ (ev_add 16 a2) < (32 : Nat)) ∧ ((0 ≤ a2 ∧ a2 < (32 : Nat)) ∧ ∀ s3, ev_up s2 14 (Int.toNat a2) (s2 14 (Int.toNat (ev_add 16 a2))) = s3 → Ev layM M_X12_takesLaw d 2 [(0, ev_r 0), (1, ev_i a1), (2, ev_i (ev_add a2 1))] [] s3 Q))))))))) :
    Ev layM M_X12_takesLaw d 2 [(0, ev_r 0), (1, ev_i a1), (2, ev_i a2)] [] s Q := by
  refine Ev_iload_n 2 dX12_takesLaw_2 rfl rfl ?_
  refine Ev_iload_n 1 dX12_takesLaw_3 rfl rfl ?_
  refine Ev_icmp_ge (tgt := 58) dX12_takesLaw_4 rfl (fun c => ?_) (fun c => ?_)
  · replace h := h.1 c
    refine Ev_iconst dX12_takesLaw_58 rfl (ev_Rc rfl) ?_
    refine Ev_istore_n (l' := [(2, ev_i 0), (0, ev_r 0), (1, ev_i a1)]) dX12_takesLaw_59 rfl (Nat.le_of_ble_eq_true rfl) rfl ?_
    exact Ev_sub [1, 2, 0] rfl h
  · replace h := h.2 c
    refine Ev_aload_n 0 dX12_takesLaw_7 rfl rfl ?_
    refine Ev_getR (i := 26) cl_X12 yM_0 (Nat.le_of_ble_eq_true rfl) rfl wd_1470 dX12_takesLaw_8 ?_
    refine Ev_iload_n 2 dX12_takesLaw_11 rfl rfl ?_
    refine Ev_aload_n 0 dX12_takesLaw_12 rfl rfl ?_
    refine Ev_getR (i := 26) cl_X12 yM_0 (Nat.le_of_ble_eq_true rfl) rfl wd_1470 dX12_takesLaw_13 ?_
    refine Ev_bipushC dX12_takesLaw_16 rfl ?_
    refine Ev_iload_n 2 dX12_takesLaw_18 rfl rfl ?_
    refine Ev_iadd dX12_takesLaw_19 ?_
    obtain ⟨h0, h⟩ := h
    refine Ev_iald yM_12 h0 dX12_takesLaw_20 ?_
    obtain ⟨h0, h⟩ := h
    refine Ev_iast yM_12 h0 dX12_takesLaw_21 (Ev_nm (fun s1 es1 => ?_))
    replace h := h s1 es1
    refine Ev_aload_n 0 dX12_takesLaw_22 rfl rfl ?_
    refine Ev_getR (i := 27) cl_X12 yM_0 (Nat.le_of_ble_eq_true rfl) rfl wd_1471 dX12_takesLaw_23 ?_
    refine Ev_iload_n 2 dX12_takesLaw_26 rfl rfl ?_
    refine Ev_aload_n 0 dX12_takesLaw_27 rfl rfl ?_
    refine Ev_getR (i := 27) cl_X12 yM_0 (Nat.le_of_ble_eq_true rfl) rfl wd_1471 dX12_takesLaw_28 ?_
    refine Ev_bipushC dX12_takesLaw_31 rfl ?_
    refine Ev_iload_n 2 dX12_takesLaw_33 rfl rfl ?_
    refine Ev_iadd dX12_takesLaw_34 ?_
    obtain ⟨h0, h⟩ := h
    refine Ev_iald yM_13 h0 dX12_takesLaw_35 ?_
    obtain ⟨h0, h⟩ := h
    refine Ev_iast yM_13 h0 dX12_takesLaw_36 (Ev_nm (fun s2 es2 => ?_))
    replace h := h s2 es2
    refine Ev_aload_n 0 dX12_takesLaw_37 rfl rfl ?_
    refine Ev_getR (i := 28) cl_X12 yM_0 (Nat.le_of_ble_eq_true rfl) rfl wd_1472 dX12_takesLaw_38 ?_
    refine Ev_iload_n 2 dX12_takesLaw_41 rfl rfl ?_
    refine Ev_aload_n 0 dX12_takesLaw_42 rfl rfl ?_
    refine Ev_getR (i := 28) cl_X12 yM_0 (Nat.le_of_ble_eq_true rfl) rfl wd_1472 dX12_takesLaw_43 ?_
    refine Ev_bipushC dX12_takesLaw_46 rfl ?_
    refine Ev_iload_n 2 dX12_takesLaw_48 rfl rfl ?_
    refine Ev_iadd dX12_takesLaw_49 ?_
    obtain ⟨h0, h⟩ := h
    refine Ev_iald yM_14 h0 dX12_takesLaw_50 ?_
    obtain ⟨h0, h⟩ := h
    refine Ev_iast yM_14 h0 dX12_takesLaw_51 (Ev_nm (fun s3 es3 => ?_))
    replace h := h s3 es3
    refine Ev_iinc (j := 2) (l' := [(2, ev_i (ev_add a2 1)), (0, ev_r 0), (1, ev_i a1)]) dX12_takesLaw_52 rfl (Nat.le_of_ble_eq_true rfl) rfl ?_
    refine Ev_goto (tgt := 2) dX12_takesLaw_55 rfl ?_
    exact Ev_sub [1, 2, 0] rfl h
theorem wp_X12_takesLaw_60 {d : Nat} {s : ev_S} {Q : Option ev_V → ev_S → Prop} {a1 a2 : Int}
    (h : (((s 0 31) ≤ a2 → (∀ s1, ev_up s 0 25 a1 = s1 → Q none s1)) ∧ (a2 < (s 0 31) → ((0 ≤ (ev_add 400 a2) ∧ (ev_add 400 a2) < (800 : Nat)) ∧ ((0 ≤ a2 ∧ a2 < (800 : Nat)) ∧ ∀ s2, ev_up s 15 (Int.toNat a2) (s 15 (Int.toNat (ev_add 400 a2))) = s2 → ((0 ≤ (ev_add 400 a2) ∧ (ev_add 400 a2) < (800 : Nat)) ∧ ((0 ≤ a2 ∧ a2 < (800 : Nat)) ∧ ∀ s3, ev_up s2 16 (Int.toNat a2) (s2 16 (Int.toNat (ev_add 400 a2))) = s3 → Ev layM M_X12_takesLaw d 60 [(0, ev_r 0), (1, ev_i a1), (2, ev_i (ev_add a2 1))] [] s3 Q))))))) :
    Ev layM M_X12_takesLaw d 60 [(0, ev_r 0), (1, ev_i a1), (2, ev_i a2)] [] s Q := by
  refine Ev_iload_n 2 dX12_takesLaw_60 rfl rfl ?_
  refine Ev_aload_n 0 dX12_takesLaw_61 rfl rfl ?_
  refine Ev_get (i := 31) cl_X12 yM_0 (Nat.le_of_ble_eq_true rfl) rfl wd_1475 dX12_takesLaw_62 ?_
  refine Ev_icmp_ge (tgt := 106) dX12_takesLaw_65 rfl (fun c => ?_) (fun c => ?_)
  · replace h := h.1 c
    refine Ev_aload_n 0 dX12_takesLaw_106 rfl rfl ?_
    refine Ev_iload_n 1 dX12_takesLaw_107 rfl rfl ?_
    refine Ev_put (i := 25) (ty := .int) cl_X12 yM_0 (Nat.le_of_ble_eq_true rfl) rfl rfl (by decide +kernel) rfl rfl wd_1469 dX12_takesLaw_108 (Ev_nm (fun s1 es1 => ?_))
    replace h := h s1 es1
    exact Ev_vret rfl dX12_takesLaw_111 h
  · replace h := h.2 c
    refine Ev_aload_n 0 dX12_takesLaw_68 rfl rfl ?_
    refine Ev_getR (i := 29) cl_X12 yM_0 (Nat.le_of_ble_eq_true rfl) rfl wd_1473 dX12_takesLaw_69 ?_
    refine Ev_iload_n 2 dX12_takesLaw_72 rfl rfl ?_
    refine Ev_aload_n 0 dX12_takesLaw_73 rfl rfl ?_
    refine Ev_getR (i := 29) cl_X12 yM_0 (Nat.le_of_ble_eq_true rfl) rfl wd_1473 dX12_takesLaw_74 ?_
    refine Ev_sipushC dX12_takesLaw_77 rfl ?_
    refine Ev_iload_n 2 dX12_takesLaw_80 rfl rfl ?_
    refine Ev_iadd dX12_takesLaw_81 ?_
    obtain ⟨h0, h⟩ := h
    refine Ev_iald yM_15 h0 dX12_takesLaw_82 ?_
    obtain ⟨h0, h⟩ := h
    refine Ev_iast yM_15 h0 dX12_takesLaw_83 (Ev_nm (fun s2 es2 => ?_))
    replace h := h s2 es2
    refine Ev_aload_n 0 dX12_takesLaw_84 rfl rfl ?_
    refine Ev_getR (i := 30) cl_X12 yM_0 (Nat.le_of_ble_eq_true rfl) rfl wd_1474 dX12_takesLaw_85 ?_
    refine Ev_iload_n 2 dX12_takesLaw_88 rfl rfl ?_
    refine Ev_aload_n 0 dX12_takesLaw_89 rfl rfl ?_
    refine Ev_getR (i := 30) cl_X12 yM_0 (Nat.le_of_ble_eq_true rfl) rfl wd_1474 dX12_takesLaw_90 ?_
    refine Ev_sipushC dX12_takesLaw_93 rfl ?_
    refine Ev_iload_n 2 dX12_takesLaw_96 rfl rfl ?_
    refine Ev_iadd dX12_takesLaw_97 ?_
    obtain ⟨h0, h⟩ := h
    refine Ev_iald yM_16 h0 dX12_takesLaw_98 ?_
    obtain ⟨h0, h⟩ := h
    refine Ev_iast yM_16 h0 dX12_takesLaw_99 (Ev_nm (fun s3 es3 => ?_))
    replace h := h s3 es3
    refine Ev_iinc (j := 2) (l' := [(2, ev_i (ev_add a2 1)), (0, ev_r 0), (1, ev_i a1)]) dX12_takesLaw_100 rfl (Nat.le_of_ble_eq_true rfl) rfl ?_
    refine Ev_goto (tgt := 60) dX12_takesLaw_103 rfl ?_
    exact Ev_sub [1, 2, 0] rfl h
theorem dX12_readNumber_0 : decode cX12_readNumber 0 = .ok (.aload_n 0, 1) := by decide +kernel
theorem dX12_readNumber_1 : decode cX12_readNumber 1 = .ok (.getfield 194, 3) := by decide +kernel
theorem dX12_readNumber_4 : decode cX12_readNumber 4 = .ok (.iconst 3, 1) := by decide +kernel
theorem dX12_readNumber_5 : decode cX12_readNumber 5 = .ok (.if_icmp .eq 9, 3) := by decide +kernel
theorem dX12_readNumber_8 : decode cX12_readNumber 8 = .ok (.aload_n 0, 1) := by decide +kernel
theorem dX12_readNumber_9 : decode cX12_readNumber 9 = .ok (.iconst 1, 1) := by decide +kernel
theorem dX12_readNumber_10 : decode cX12_readNumber 10 = .ok (.invokevirtual 222, 3) := by decide +kernel
theorem dX12_readNumber_13 : decode cX12_readNumber 13 = .ok (.ireturn, 1) := by decide +kernel
theorem dX12_readNumber_14 : decode cX12_readNumber 14 = .ok (.aload_n 0, 1) := by decide +kernel
theorem dX12_readNumber_15 : decode cX12_readNumber 15 = .ok (.aload_n 0, 1) := by decide +kernel
theorem dX12_readNumber_16 : decode cX12_readNumber 16 = .ok (.getfield 197, 3) := by decide +kernel
theorem dX12_readNumber_19 : decode cX12_readNumber 19 = .ok (.iload_n 1, 1) := by decide +kernel
theorem dX12_readNumber_20 : decode cX12_readNumber 20 = .ok (.iload_n 2, 1) := by decide +kernel
theorem dX12_readNumber_21 : decode cX12_readNumber 21 = .ok (.invokevirtual 158, 3) := by decide +kernel
theorem dX12_readNumber_24 : decode cX12_readNumber 24 = .ok (.ifCond .ne 9, 3) := by decide +kernel
theorem dX12_readNumber_27 : decode cX12_readNumber 27 = .ok (.aload_n 0, 1) := by decide +kernel
theorem dX12_readNumber_28 : decode cX12_readNumber 28 = .ok (.iconst 2, 1) := by decide +kernel
theorem dX12_readNumber_29 : decode cX12_readNumber 29 = .ok (.invokevirtual 222, 3) := by decide +kernel
theorem dX12_readNumber_32 : decode cX12_readNumber 32 = .ok (.ireturn, 1) := by decide +kernel
theorem dX12_readNumber_33 : decode cX12_readNumber 33 = .ok (.aload_n 0, 1) := by decide +kernel
theorem dX12_readNumber_34 : decode cX12_readNumber 34 = .ok (.getfield 197, 3) := by decide +kernel
theorem dX12_readNumber_37 : decode cX12_readNumber 37 = .ok (.istore_n 3, 1) := by decide +kernel
theorem dX12_readNumber_38 : decode cX12_readNumber 38 = .ok (.aload_n 0, 1) := by decide +kernel
theorem dX12_readNumber_39 : decode cX12_readNumber 39 = .ok (.invokevirtual 229, 3) := by decide +kernel
theorem dX12_readNumber_42 : decode cX12_readNumber 42 = .ok (.iload_n 3, 1) := by decide +kernel
theorem dX12_readNumber_43 : decode cX12_readNumber 43 = .ok (.ireturn, 1) := by decide +kernel
theorem wp_X12_readNumber_0 {d : Nat} {s : ev_S} {Q : Option ev_V → ev_S → Prop} {a1 a2 : Int}
    (h : (((s 0 22) = 3 → (Ev layM M_X12_isIn d 0 [(0, ev_r 0), (1, ev_i (s 0 23)), (2, ev_i a1), (3, ev_i a2)] [] s (ev_pi (fun r2 s1 => ((r2 ≠ 0 → (Ev layM M_X12_reads d 0 [(0, ev_r 0)] [] s1 (fun _ s3 => Q (some (ev_i (s1 0 23))) s3))) ∧ (r2 = 0 → (Ev layM M_X12_errs d 0 [(0, ev_r 0), (1, ev_i 2)] [] s1 (ev_pi (fun r5 s4 => Q (some (ev_i r5)) s4))))))))) ∧ ((s 0 22) ≠ 3 → (Ev layM M_X12_errs d 0 [(0, ev_r 0), (1, ev_i 1)] [] s (ev_pi (fun r7 s6 => Q (some (ev_i r7)) s6)))))) :
    Ev layM M_X12_readNumber (d + 1) 0 [(0, ev_r 0), (1, ev_i a1), (2, ev_i a2)] [] s Q := by
  refine Ev_aload_n 0 dX12_readNumber_0 rfl rfl ?_
  refine Ev_get (i := 22) cl_X12 yM_0 (Nat.le_of_ble_eq_true rfl) rfl wd_1466 dX12_readNumber_1 ?_
  refine Ev_iconst dX12_readNumber_4 rfl (ev_Rc rfl) ?_
  refine Ev_icmp_eq (tgt := 14) dX12_readNumber_5 rfl (fun c => ?_) (fun c => ?_)
  · replace h := h.1 c
    refine Ev_aload_n 0 dX12_readNumber_14 rfl rfl ?_
    refine Ev_aload_n 0 dX12_readNumber_15 rfl rfl ?_
    refine Ev_get (i := 23) cl_X12 yM_0 (Nat.le_of_ble_eq_true rfl) rfl wd_1467 dX12_readNumber_16 ?_
    refine Ev_iload_n 1 dX12_readNumber_19 rfl rfl ?_
    refine Ev_iload_n 2 dX12_readNumber_20 rfl rfl ?_
    refine Ev_callV (As := [ev_i (s 0 23), ev_i a1, ev_i a2]) (b := 0) (st := []) (M' := M_X12_isIn) cm_X12_isIn wd_1650 wd_1652 wd_70 yM_0 cl_X12 rfl dX12_readNumber_21 (Nat.le_refl _) rfl (Nat.le_of_ble_eq_true rfl) (Nat.le_of_ble_eq_true rfl) h (fun v u h hk => ?_)
    obtain ⟨r2, rfl⟩ := hk
    obtain ⟨s1, rfl⟩ : ∃ x, x = u := ⟨_, rfl⟩
    replace h := h r2 rfl
    refine Ev_if_ne (tgt := 33) dX12_readNumber_24 rfl (fun c => ?_) (fun c => ?_)
    · replace h := h.1 c
      refine Ev_aload_n 0 dX12_readNumber_33 rfl rfl ?_
      refine Ev_get (i := 23) cl_X12 yM_0 (Nat.le_of_ble_eq_true rfl) rfl wd_1467 dX12_readNumber_34 ?_
      refine Ev_istore_n (l' := [(3, ev_i (s1 0 23)), (0, ev_r 0), (1, ev_i a1), (2, ev_i a2)]) dX12_readNumber_37 rfl (Nat.le_of_ble_eq_true rfl) rfl ?_
      refine Ev_aload_n 1 dX12_readNumber_38 rfl rfl ?_
      refine Ev_callV (As := []) (b := 0) (st := []) (M' := M_X12_reads) cm_X12_reads wd_1706 wd_1708 wd_77 yM_0 cl_X12 rfl dX12_readNumber_39 (Nat.le_refl _) rfl (Nat.le_of_ble_eq_true rfl) (Nat.le_of_ble_eq_true rfl) h (fun v u h hk => ?_)
      cases hk
      obtain ⟨s3, rfl⟩ : ∃ x, x = u := ⟨_, rfl⟩
      refine Ev_iload_n 0 dX12_readNumber_42 rfl rfl ?_
      exact Ev_iret rfl dX12_readNumber_43 rfl h
    · replace h := h.2 c
      refine Ev_aload_n 0 dX12_readNumber_27 rfl rfl ?_
      refine Ev_iconst dX12_readNumber_28 rfl (ev_Rc rfl) ?_
      refine Ev_callV (As := [ev_i 2]) (b := 0) (st := []) (M' := M_X12_errs) cm_X12_errs wd_1758 wd_1760 wd_90 yM_0 cl_X12 rfl dX12_readNumber_29 (Nat.le_refl _) rfl (Nat.le_of_ble_eq_true rfl) (Nat.le_of_ble_eq_true rfl) h (fun v u h hk => ?_)
      obtain ⟨r5, rfl⟩ := hk
      obtain ⟨s4, rfl⟩ : ∃ x, x = u := ⟨_, rfl⟩
      replace h := h r5 rfl
      exact Ev_iret rfl dX12_readNumber_32 rfl h
  · replace h := h.2 c
    refine Ev_aload_n 0 dX12_readNumber_8 rfl rfl ?_
    refine Ev_iconst dX12_readNumber_9 rfl (ev_Rc rfl) ?_
    refine Ev_callV (As := [ev_i 1]) (b := 0) (st := []) (M' := M_X12_errs) cm_X12_errs wd_1758 wd_1760 wd_90 yM_0 cl_X12 rfl dX12_readNumber_10 (Nat.le_refl _) rfl (Nat.le_of_ble_eq_true rfl) (Nat.le_of_ble_eq_true rfl) h (fun v u h hk => ?_)
    obtain ⟨r7, rfl⟩ := hk
    obtain ⟨s6, rfl⟩ : ∃ x, x = u := ⟨_, rfl⟩
    replace h := h r7 rfl
    exact Ev_iret rfl dX12_readNumber_13 rfl h
theorem dX12_readWord_0 : decode cX12_readWord 0 = .ok (.aload_n 0, 1) := by decide +kernel
theorem dX12_readWord_1 : decode cX12_readWord 1 = .ok (.iload_n 1, 1) := by decide +kernel
theorem dX12_readWord_2 : decode cX12_readWord 2 = .ok (.invokevirtual 251, 3) := by decide +kernel
theorem dX12_readWord_5 : decode cX12_readWord 5 = .ok (.ifCond .ne 9, 3) := by decide +kernel
theorem dX12_readWord_8 : decode cX12_readWord 8 = .ok (.aload_n 0, 1) := by decide +kernel
theorem dX12_readWord_9 : decode cX12_readWord 9 = .ok (.iconst 1, 1) := by decide +kernel
theorem dX12_readWord_10 : decode cX12_readWord 10 = .ok (.invokevirtual 222, 3) := by decide +kernel
theorem dX12_readWord_13 : decode cX12_readWord 13 = .ok (.ireturn, 1) := by decide +kernel
theorem dX12_readWord_14 : decode cX12_readWord 14 = .ok (.aload_n 0, 1) := by decide +kernel
theorem dX12_readWord_15 : decode cX12_readWord 15 = .ok (.invokevirtual 229, 3) := by decide +kernel
theorem dX12_readWord_18 : decode cX12_readWord 18 = .ok (.iconst 0, 1) := by decide +kernel
theorem dX12_readWord_19 : decode cX12_readWord 19 = .ok (.ireturn, 1) := by decide +kernel
theorem wp_X12_readWord_0 {d : Nat} {s : ev_S} {Q : Option ev_V → ev_S → Prop} {a1 : Int}
    (h : (Ev layM M_X12_isWord d 0 [(0, ev_r 0), (1, ev_i a1)] [] s (ev_pi (fun r2 s1 => ((r2 ≠ 0 → (Ev layM M_X12_reads d 0 [(0, ev_r 0)] [] s1 (fun _ s3 => Q (some (ev_i 0)) s3))) ∧ (r2 = 0 → (Ev layM M_X12_errs d 0 [(0, ev_r 0), (1, ev_i 1)] [] s1 (ev_pi (fun r5 s4 => Q (some (ev_i r5)) s4))))))))) :
    Ev layM M_X12_readWord (d + 1) 0 [(0, ev_r 0), (1, ev_i a1)] [] s Q := by
  refine Ev_aload_n 0 dX12_readWord_0 rfl rfl ?_
  refine Ev_iload_n 1 dX12_readWord_1 rfl rfl ?_
  refine Ev_callV (As := [ev_i a1]) (b := 0) (st := []) (M' := M_X12_isWord) cm_X12_isWord wd_1742 wd_1744 wd_86 yM_0 cl_X12 rfl dX12_readWord_2 (Nat.le_refl _) rfl (Nat.le_of_ble_eq_true rfl) (Nat.le_of_ble_eq_true rfl) h (fun v u h hk => ?_)
  obtain ⟨r2, rfl⟩ := hk
  obtain ⟨s1, rfl⟩ : ∃ x, x = u := ⟨_, rfl⟩
  replace h := h r2 rfl
  refine Ev_if_ne (tgt := 14) dX12_readWord_5 rfl (fun c => ?_) (fun c => ?_)
  · replace h := h.1 c
    refine Ev_aload_n 0 dX12_readWord_14 rfl rfl ?_
    refine Ev_callV (As := []) (b := 0) (st := []) (M' := M_X12_reads) cm_X12_reads wd_1706 wd_1708 wd_77 yM_0 cl_X12 rfl dX12_readWord_15 (Nat.le_refl _) rfl (Nat.le_of_ble_eq_true rfl) (Nat.le_of_ble_eq_true rfl) h (fun v u h hk => ?_)
    cases hk
    obtain ⟨s3, rfl⟩ : ∃ x, x = u := ⟨_, rfl⟩
    refine Ev_iconst dX12_readWord_18 rfl (ev_Rc rfl) ?_
    exact Ev_iret rfl dX12_readWord_19 rfl h
  · replace h := h.2 c
    refine Ev_aload_n 0 dX12_readWord_8 rfl rfl ?_
    refine Ev_iconst dX12_readWord_9 rfl (ev_Rc rfl) ?_
    refine Ev_callV (As := [ev_i 1]) (b := 0) (st := []) (M' := M_X12_errs) cm_X12_errs wd_1758 wd_1760 wd_90 yM_0 cl_X12 rfl dX12_readWord_10 (Nat.le_refl _) rfl (Nat.le_of_ble_eq_true rfl) (Nat.le_of_ble_eq_true rfl) h (fun v u h hk => ?_)
    obtain ⟨r5, rfl⟩ := hk
    obtain ⟨s4, rfl⟩ : ∃ x, x = u := ⟨_, rfl⟩
    replace h := h r5 rfl
    exact Ev_iret rfl dX12_readWord_13 rfl h
theorem dX12_readMark_0 : decode cX12_readMark 0 = .ok (.aload_n 0, 1) := by decide +kernel
theorem dX12_readMark_1 : decode cX12_readMark 1 = .ok (.iload_n 1, 1) := by decide +kernel
theorem dX12_readMark_2 : decode cX12_readMark 2 = .ok (.invokevirtual 236, 3) := by decide +kernel
theorem dX12_readMark_5 : decode cX12_readMark 5 = .ok (.ifCond .ne 9, 3) := by decide +kernel
theorem dX12_readMark_8 : decode cX12_readMark 8 = .ok (.aload_n 0, 1) := by decide +kernel
theorem dX12_readMark_9 : decode cX12_readMark 9 = .ok (.iconst 1, 1) := by decide +kernel
theorem dX12_readMark_10 : decode cX12_readMark 10 = .ok (.invokevirtual 222, 3) := by decide +kernel
theorem dX12_readMark_13 : decode cX12_readMark 13 = .ok (.ireturn, 1) := by decide +kernel
theorem dX12_readMark_14 : decode cX12_readMark 14 = .ok (.aload_n 0, 1) := by decide +kernel
theorem dX12_readMark_15 : decode cX12_readMark 15 = .ok (.invokevirtual 229, 3) := by decide +kernel
theorem dX12_readMark_18 : decode cX12_readMark 18 = .ok (.iconst 0, 1) := by decide +kernel
theorem dX12_readMark_19 : decode cX12_readMark 19 = .ok (.ireturn, 1) := by decide +kernel
theorem wp_X12_readMark_0 {d : Nat} {s : ev_S} {Q : Option ev_V → ev_S → Prop} {a1 : Int}
    (h : (Ev layM M_X12_isSign d 0 [(0, ev_r 0), (1, ev_i a1)] [] s (ev_pi (fun r2 s1 => ((r2 ≠ 0 → (Ev layM M_X12_reads d 0 [(0, ev_r 0)] [] s1 (fun _ s3 => Q (some (ev_i 0)) s3))) ∧ (r2 = 0 → (Ev layM M_X12_errs d 0 [(0, ev_r 0), (1, ev_i 1)] [] s1 (ev_pi (fun r5 s4 => Q (some (ev_i r5)) s4))))))))) :
    Ev layM M_X12_readMark (d + 1) 0 [(0, ev_r 0), (1, ev_i a1)] [] s Q := by
  refine Ev_aload_n 0 dX12_readMark_0 rfl rfl ?_
  refine Ev_iload_n 1 dX12_readMark_1 rfl rfl ?_
  refine Ev_callV (As := [ev_i a1]) (b := 0) (st := []) (M' := M_X12_isSign) cm_X12_isSign wd_1746 wd_1748 wd_87 yM_0 cl_X12 rfl dX12_readMark_2 (Nat.le_refl _) rfl (Nat.le_of_ble_eq_true rfl) (Nat.le_of_ble_eq_true rfl) h (fun v u h hk => ?_)
  obtain ⟨r2, rfl⟩ := hk
  obtain ⟨s1, rfl⟩ : ∃ x, x = u := ⟨_, rfl⟩
  replace h := h r2 rfl
  refine Ev_if_ne (tgt := 14) dX12_readMark_5 rfl (fun c => ?_) (fun c => ?_)
  · replace h := h.1 c
    refine Ev_aload_n 0 dX12_readMark_14 rfl rfl ?_
    refine Ev_callV (As := []) (b := 0) (st := []) (M' := M_X12_reads) cm_X12_reads wd_1706 wd_1708 wd_77 yM_0 cl_X12 rfl dX12_readMark_15 (Nat.le_refl _) rfl (Nat.le_of_ble_eq_true rfl) (Nat.le_of_ble_eq_true rfl) h (fun v u h hk => ?_)
    cases hk
    obtain ⟨s3, rfl⟩ : ∃ x, x = u := ⟨_, rfl⟩
    refine Ev_iconst dX12_readMark_18 rfl (ev_Rc rfl) ?_
    exact Ev_iret rfl dX12_readMark_19 rfl h
  · replace h := h.2 c
    refine Ev_aload_n 0 dX12_readMark_8 rfl rfl ?_
    refine Ev_iconst dX12_readMark_9 rfl (ev_Rc rfl) ?_
    refine Ev_callV (As := [ev_i 1]) (b := 0) (st := []) (M' := M_X12_errs) cm_X12_errs wd_1758 wd_1760 wd_90 yM_0 cl_X12 rfl dX12_readMark_10 (Nat.le_refl _) rfl (Nat.le_of_ble_eq_true rfl) (Nat.le_of_ble_eq_true rfl) h (fun v u h hk => ?_)
    obtain ⟨r5, rfl⟩ := hk
    obtain ⟨s4, rfl⟩ : ∃ x, x = u := ⟨_, rfl⟩
    replace h := h r5 rfl
    exact Ev_iret rfl dX12_readMark_13 rfl h
theorem dX12_readPlace2_0 : decode cX12_readPlace2 0 = .ok (.aload_n 0, 1) := by decide +kernel
theorem dX12_readPlace2_1 : decode cX12_readPlace2 1 = .ok (.getfield 194, 3) := by decide +kernel
theorem dX12_readPlace2_4 : decode cX12_readPlace2 4 = .ok (.iconst 3, 1) := by decide +kernel
theorem dX12_readPlace2_5 : decode cX12_readPlace2 5 = .ok (.if_icmp .eq 9, 3) := by decide +kernel
theorem dX12_readPlace2_8 : decode cX12_readPlace2 8 = .ok (.aload_n 0, 1) := by decide +kernel
theorem dX12_readPlace2_9 : decode cX12_readPlace2 9 = .ok (.iconst 1, 1) := by decide +kernel
theorem dX12_readPlace2_10 : decode cX12_readPlace2 10 = .ok (.invokevirtual 222, 3) := by decide +kernel
theorem dX12_readPlace2_13 : decode cX12_readPlace2 13 = .ok (.ireturn, 1) := by decide +kernel
theorem dX12_readPlace2_14 : decode cX12_readPlace2 14 = .ok (.aload_n 0, 1) := by decide +kernel
theorem dX12_readPlace2_15 : decode cX12_readPlace2 15 = .ok (.aload_n 0, 1) := by decide +kernel
theorem dX12_readPlace2_16 : decode cX12_readPlace2 16 = .ok (.getfield 197, 3) := by decide +kernel
theorem dX12_readPlace2_19 : decode cX12_readPlace2 19 = .ok (.invokevirtual 175, 3) := by decide +kernel
theorem dX12_readPlace2_22 : decode cX12_readPlace2 22 = .ok (.ifCond .ne 9, 3) := by decide +kernel
theorem dX12_readPlace2_25 : decode cX12_readPlace2 25 = .ok (.aload_n 0, 1) := by decide +kernel
theorem dX12_readPlace2_26 : decode cX12_readPlace2 26 = .ok (.iconst 2, 1) := by decide +kernel
theorem dX12_readPlace2_27 : decode cX12_readPlace2 27 = .ok (.invokevirtual 222, 3) := by decide +kernel
theorem dX12_readPlace2_30 : decode cX12_readPlace2 30 = .ok (.ireturn, 1) := by decide +kernel
theorem dX12_readPlace2_31 : decode cX12_readPlace2 31 = .ok (.aload_n 0, 1) := by decide +kernel
theorem dX12_readPlace2_32 : decode cX12_readPlace2 32 = .ok (.getfield 197, 3) := by decide +kernel
theorem dX12_readPlace2_35 : decode cX12_readPlace2 35 = .ok (.istore_n 1, 1) := by decide +kernel
theorem dX12_readPlace2_36 : decode cX12_readPlace2 36 = .ok (.aload_n 0, 1) := by decide +kernel
theorem dX12_readPlace2_37 : decode cX12_readPlace2 37 = .ok (.invokevirtual 229, 3) := by decide +kernel
theorem dX12_readPlace2_40 : decode cX12_readPlace2 40 = .ok (.iload_n 1, 1) := by decide +kernel
theorem dX12_readPlace2_41 : decode cX12_readPlace2 41 = .ok (.ireturn, 1) := by decide +kernel
theorem wp_X12_readPlace2_0 {d : Nat} {s : ev_S} {Q : Option ev_V → ev_S → Prop}
    (h : (((s 0 22) = 3 → (Ev layM M_X12_isPlace d 0 [(0, ev_r 0), (1, ev_i (s 0 23))] [] s (ev_pi (fun r2 s1 => ((r2 ≠ 0 → (Ev layM M_X12_reads d 0 [(0, ev_r 0)] [] s1 (fun _ s3 => Q (some (ev_i (s1 0 23))) s3))) ∧ (r2 = 0 → (Ev layM M_X12_errs d 0 [(0, ev_r 0), (1, ev_i 2)] [] s1 (ev_pi (fun r5 s4 => Q (some (ev_i r5)) s4))))))))) ∧ ((s 0 22) ≠ 3 → (Ev layM M_X12_errs d 0 [(0, ev_r 0), (1, ev_i 1)] [] s (ev_pi (fun r7 s6 => Q (some (ev_i r7)) s6)))))) :
    Ev layM M_X12_readPlace2 (d + 1) 0 [(0, ev_r 0)] [] s Q := by
  refine Ev_aload_n 0 dX12_readPlace2_0 rfl rfl ?_
  refine Ev_get (i := 22) cl_X12 yM_0 (Nat.le_of_ble_eq_true rfl) rfl wd_1466 dX12_readPlace2_1 ?_
  refine Ev_iconst dX12_readPlace2_4 rfl (ev_Rc rfl) ?_
  refine Ev_icmp_eq (tgt := 14) dX12_readPlace2_5 rfl (fun c => ?_) (fun c => ?_)
  · replace h := h.1 c
    refine Ev_aload_n 0 dX12_readPlace2_14 rfl rfl ?_
    refine Ev_aload_n 0 dX12_readPlace2_15 rfl rfl ?_
    refine Ev_get (i := 23) cl_X12 yM_0 (Nat.le_of_ble_eq_true rfl) rfl wd_1467 dX12_readPlace2_16 ?_
    refine Ev_callV (As := [ev_i (s 0 23)]) (b := 0) (st := []) (M' := M_X12_isPlace) cm_X12_isPlace wd_1666 wd_1668 wd_72 yM_0 cl_X12 rfl dX12_readPlace2_19 (Nat.le_refl _) rfl (Nat.le_of_ble_eq_true rfl) (Nat.le_of_ble_eq_true rfl) h (fun v u h hk => ?_)
    obtain ⟨r2, rfl⟩ := hk
    obtain ⟨s1, rfl⟩ : ∃ x, x = u := ⟨_, rfl⟩
    replace h := h r2 rfl
    refine Ev_if_ne (tgt := 31) dX12_readPlace2_22 rfl (fun c => ?_) (fun c => ?_)
    · replace h := h.1 c
      refine Ev_aload_n 0 dX12_readPlace2_31 rfl rfl ?_
      refine Ev_get (i := 23) cl_X12 yM_0 (Nat.le_of_ble_eq_true rfl) rfl wd_1467 dX12_readPlace2_32 ?_
      refine Ev_istore_n (l' := [(1, ev_i (s1 0 23)), (0, ev_r 0)]) dX12_readPlace2_35 rfl (Nat.le_of_ble_eq_true rfl) rfl ?_
      refine Ev_aload_n 1 dX12_readPlace2_36 rfl rfl ?_
      refine Ev_callV (As := []) (b := 0) (st := []) (M' := M_X12_reads) cm_X12_reads wd_1706 wd_1708 wd_77 yM_0 cl_X12 rfl dX12_readPlace2_37 (Nat.le_refl _) rfl (Nat.le_of_ble_eq_true rfl) (Nat.le_of_ble_eq_true rfl) h (fun v u h hk => ?_)
      cases hk
      obtain ⟨s3, rfl⟩ : ∃ x, x = u := ⟨_, rfl⟩
      refine Ev_iload_n 0 dX12_readPlace2_40 rfl rfl ?_
      exact Ev_iret rfl dX12_readPlace2_41 rfl h
    · replace h := h.2 c
      refine Ev_aload_n 0 dX12_readPlace2_25 rfl rfl ?_
      refine Ev_iconst dX12_readPlace2_26 rfl (ev_Rc rfl) ?_
      refine Ev_callV (As := [ev_i 2]) (b := 0) (st := []) (M' := M_X12_errs) cm_X12_errs wd_1758 wd_1760 wd_90 yM_0 cl_X12 rfl dX12_readPlace2_27 (Nat.le_refl _) rfl (Nat.le_of_ble_eq_true rfl) (Nat.le_of_ble_eq_true rfl) h (fun v u h hk => ?_)
      obtain ⟨r5, rfl⟩ := hk
      obtain ⟨s4, rfl⟩ : ∃ x, x = u := ⟨_, rfl⟩
      replace h := h r5 rfl
      exact Ev_iret rfl dX12_readPlace2_30 rfl h
  · replace h := h.2 c
    refine Ev_aload_n 0 dX12_readPlace2_8 rfl rfl ?_
    refine Ev_iconst dX12_readPlace2_9 rfl (ev_Rc rfl) ?_
    refine Ev_callV (As := [ev_i 1]) (b := 0) (st := []) (M' := M_X12_errs) cm_X12_errs wd_1758 wd_1760 wd_90 yM_0 cl_X12 rfl dX12_readPlace2_10 (Nat.le_refl _) rfl (Nat.le_of_ble_eq_true rfl) (Nat.le_of_ble_eq_true rfl) h (fun v u h hk => ?_)
    obtain ⟨r7, rfl⟩ := hk
    obtain ⟨s6, rfl⟩ : ∃ x, x = u := ⟨_, rfl⟩
    replace h := h r7 rfl
    exact Ev_iret rfl dX12_readPlace2_13 rfl h
theorem dX12_emitsStep_0 : decode cX12_emitsStep 0 = .ok (.aload_n 0, 1) := by decide +kernel
theorem dX12_emitsStep_1 : decode cX12_emitsStep 1 = .ok (.getfield 65, 3) := by decide +kernel
theorem dX12_emitsStep_4 : decode cX12_emitsStep 4 = .ok (.aload_n 0, 1) := by decide +kernel
theorem dX12_emitsStep_5 : decode cX12_emitsStep 5 = .ok (.getfield 266, 3) := by decide +kernel
theorem dX12_emitsStep_8 : decode cX12_emitsStep 8 = .ok (.iload_n 1, 1) := by decide +kernel
theorem dX12_emitsStep_9 : decode cX12_emitsStep 9 = .ok (.iastore, 1) := by decide +kernel
theorem dX12_emitsStep_10 : decode cX12_emitsStep 10 = .ok (.aload_n 0, 1) := by decide +kernel
theorem dX12_emitsStep_11 : decode cX12_emitsStep 11 = .ok (.getfield 68, 3) := by decide +kernel
theorem dX12_emitsStep_14 : decode cX12_emitsStep 14 = .ok (.aload_n 0, 1) := by decide +kernel
theorem dX12_emitsStep_15 : decode cX12_emitsStep 15 = .ok (.getfield 266, 3) := by decide +kernel
theorem dX12_emitsStep_18 : decode cX12_emitsStep 18 = .ok (.iload_n 2, 1) := by decide +kernel
theorem dX12_emitsStep_19 : decode cX12_emitsStep 19 = .ok (.iastore, 1) := by decide +kernel
theorem dX12_emitsStep_20 : decode cX12_emitsStep 20 = .ok (.aload_n 0, 1) := by decide +kernel
theorem dX12_emitsStep_21 : decode cX12_emitsStep 21 = .ok (.aload_n 0, 1) := by decide +kernel
theorem dX12_emitsStep_22 : decode cX12_emitsStep 22 = .ok (.getfield 266, 3) := by decide +kernel
theorem dX12_emitsStep_25 : decode cX12_emitsStep 25 = .ok (.iconst 1, 1) := by decide +kernel
theorem dX12_emitsStep_26 : decode cX12_emitsStep 26 = .ok (.iadd, 1) := by decide +kernel
theorem dX12_emitsStep_27 : decode cX12_emitsStep 27 = .ok (.putfield 266, 3) := by decide +kernel
theorem dX12_emitsStep_30 : decode cX12_emitsStep 30 = .ok (.return_, 1) := by decide +kernel
theorem wp_X12_emitsStep_0 {d : Nat} {s : ev_S} {Q : Option ev_V → ev_S → Prop} {a1 a2 : Int}
    (h : ((0 ≤ (s 0 41) ∧ (s 0 41) < (100 : Nat)) ∧ ∀ s1, ev_up s 18 (Int.toNat (s 0 41)) a1 = s1 → ((0 ≤ (s1 0 41) ∧ (s1 0 41) < (100 : Nat)) ∧ ∀ s2, ev_up s1 19 (Int.toNat (s1 0 41)) a2 = s2 → (∀ s3, ev_up s2 0 41 (ev_add (s2 0 41) 1) = s3 → Q none s3)))) :
    Ev layM M_X12_emitsStep d 0 [(0, ev_r 0), (1, ev_i a1), (2, ev_i a2)] [] s Q := by
  refine Ev_aload_n 0 dX12_emitsStep_0 rfl rfl ?_
  refine Ev_getR (i := 39) cl_X12 yM_0 (Nat.le_of_ble_eq_true rfl) rfl wd_1483 dX12_emitsStep_1 ?_
  refine Ev_aload_n 0 dX12_emitsStep_4 rfl rfl ?_
  refine Ev_get (i := 41) cl_X12 yM_0 (Nat.le_of_ble_eq_true rfl) rfl wd_1485 dX12_emitsStep_5 ?_
  refine Ev_iload_n 1 dX12_emitsStep_8 rfl rfl ?_
  obtain ⟨h0, h⟩ := h
  refine Ev_iast yM_18 h0 dX12_emitsStep_9 (Ev_nm (fun s1 es1 => ?_))
  replace h := h s1 es1
  refine Ev_aload_n 0 dX12_emitsStep_10 rfl rfl ?_
  refine Ev_getR (i := 40) cl_X12 yM_0 (Nat.le_of_ble_eq_true rfl) rfl wd_1484 dX12_emitsStep_11 ?_
  refine Ev_aload_n 0 dX12_emitsStep_14 rfl rfl ?_
  refine Ev_get (i := 41) cl_X12 yM_0 (Nat.le_of_ble_eq_true rfl) rfl wd_1485 dX12_emitsStep_15 ?_
  refine Ev_iload_n 2 dX12_emitsStep_18 rfl rfl ?_
  obtain ⟨h0, h⟩ := h
  refine Ev_iast yM_19 h0 dX12_emitsStep_19 (Ev_nm (fun s2 es2 => ?_))
  replace h := h s2 es2
  refine Ev_aload_n 0 dX12_emitsStep_20 rfl rfl ?_
  refine Ev_aload_n 0 dX12_emitsStep_21 rfl rfl ?_
  refine Ev_get (i := 41) cl_X12 yM_0 (Nat.le_of_ble_eq_true rfl) rfl wd_1485 dX12_emitsStep_22 ?_
  refine Ev_iconst dX12_emitsStep_25 rfl (ev_Rc rfl) ?_
  refine Ev_iadd dX12_emitsStep_26 ?_
  refine Ev_put (i := 41) (ty := .int) cl_X12 yM_0 (Nat.le_of_ble_eq_true rfl) rfl rfl (by decide +kernel) rfl rfl wd_1485 dX12_emitsStep_27 (Ev_nm (fun s3 es3 => ?_))
  replace h := h s3 es3
  exact Ev_vret rfl dX12_emitsStep_30 h
theorem dX12_readStep_0 : decode cX12_readStep 0 = .ok (.aload_n 0, 1) := by decide +kernel
theorem dX12_readStep_1 : decode cX12_readStep 1 = .ok (.getfield 197, 3) := by decide +kernel
theorem dX12_readStep_4 : decode cX12_readStep 4 = .ok (.bipush 15, 2) := by decide +kernel
theorem dX12_readStep_6 : decode cX12_readStep 6 = .ok (.isub, 1) := by decide +kernel
theorem dX12_readStep_7 : decode cX12_readStep 7 = .ok (.istore_n 1, 1) := by decide +kernel
theorem dX12_readStep_8 : decode cX12_readStep 8 = .ok (.aload_n 0, 1) := by decide +kernel
theorem dX12_readStep_9 : decode cX12_readStep 9 = .ok (.invokevirtual 229, 3) := by decide +kernel
theorem dX12_readStep_12 : decode cX12_readStep 12 = .ok (.aload_n 0, 1) := by decide +kernel
theorem dX12_readStep_13 : decode cX12_readStep 13 = .ok (.iconst 1, 1) := by decide +kernel
theorem dX12_readStep_14 : decode cX12_readStep 14 = .ok (.bipush 60, 2) := by decide +kernel
theorem dX12_readStep_16 : decode cX12_readStep 16 = .ok (.invokevirtual 269, 3) := by decide +kernel
theorem dX12_readStep_19 : decode cX12_readStep 19 = .ok (.istore_n 2, 1) := by decide +kernel
theorem dX12_readStep_20 : decode cX12_readStep 20 = .ok (.iload_n 2, 1) := by decide +kernel
theorem dX12_readStep_21 : decode cX12_readStep 21 = .ok (.iconst (-1), 1) := by decide +kernel
theorem dX12_readStep_22 : decode cX12_readStep 22 = .ok (.if_icmp .eq 13, 3) := by decide +kernel
theorem dX12_readStep_25 : decode cX12_readStep 25 = .ok (.aload_n 0, 1) := by decide +kernel
theorem dX12_readStep_26 : decode cX12_readStep 26 = .ok (.bipush 59, 2) := by decide +kernel
theorem dX12_readStep_28 : decode cX12_readStep 28 = .ok (.invokevirtual 272, 3) := by decide +kernel
theorem dX12_readStep_31 : decode cX12_readStep 31 = .ok (.iconst (-1), 1) := by decide +kernel
theorem dX12_readStep_32 : decode cX12_readStep 32 = .ok (.if_icmp .ne 5, 3) := by decide +kernel
theorem dX12_readStep_35 : decode cX12_readStep 35 = .ok (.iconst (-1), 1) := by decide +kernel
theorem dX12_readStep_36 : decode cX12_readStep 36 = .ok (.ireturn, 1) := by decide +kernel
theorem dX12_readStep_37 : decode cX12_readStep 37 = .ok (.aload_n 0, 1) := by decide +kernel
theorem dX12_readStep_38 : decode cX12_readStep 38 = .ok (.iload_n 1, 1) := by decide +kernel
theorem dX12_readStep_39 : decode cX12_readStep 39 = .ok (.iload_n 2, 1) := by decide +kernel
theorem dX12_readStep_40 : decode cX12_readStep 40 = .ok (.invokevirtual 275, 3) := by decide +kernel
theorem dX12_readStep_43 : decode cX12_readStep 43 = .ok (.iconst 0, 1) := by decide +kernel
theorem dX12_readStep_44 : decode cX12_readStep 44 = .ok (.ireturn, 1) := by decide +kernel
theorem wp_X12_readStep_0 {d : Nat} {s : ev_S} {Q : Option ev_V → ev_S → Prop}
    (h : (Ev layM M_X12_reads d 0 [(0, ev_r 0)] [] s (fun _ s1 => (Ev layM M_X12_readNumber d 0 [(0, ev_r 0), (1, ev_i 1), (2, ev_i 60)] [] s1 (ev_pi (fun r3 s2 => ((r3 = (-1) → Q (some (ev_i (-1))) s2) ∧ (r3 ≠ (-1) → (Ev layM M_X12_readMark d 0 [(0, ev_r 0), (1, ev_i 59)] [] s2 (ev_pi (fun r5 s4 => ((r5 ≠ (-1) → (Ev layM M_X12_emitsStep d 0 [(0, ev_r 0), (1, ev_i (ev_sub (s 0 23) 15)), (2, ev_i r3)] [] s4 (fun _ s6 => Q (some (ev_i 0)) s6))) ∧ (r5 = (-1) → Q (some (ev_i (-1))) s4))))))))))))) :
    Ev layM M_X12_readStep (d + 1) 0 [(0, ev_r 0)] [] s Q := by
  refine Ev_aload_n 0 dX12_readStep_0 rfl rfl ?_
  refine Ev_get (i := 23) cl_X12 yM_0 (Nat.le_of_ble_eq_true rfl) rfl wd_1467 dX12_readStep_1 ?_
  refine Ev_bipushC dX12_readStep_4 rfl ?_
  refine Ev_isub dX12_readStep_6 ?_
  refine Ev_istore_n (l' := [(1, ev_i (ev_sub (s 0 23) 15)), (0, ev_r 0)]) dX12_readStep_7 rfl (Nat.le_of_ble_eq_true rfl) rfl ?_
  refine Ev_aload_n 1 dX12_readStep_8 rfl rfl ?_
  refine Ev_callV (As := []) (b := 0) (st := []) (M' := M_X12_reads) cm_X12_reads wd_1706 wd_1708 wd_77 yM_0 cl_X12 rfl dX12_readStep_9 (Nat.le_refl _) rfl (Nat.le_of_ble_eq_true rfl) (Nat.le_of_ble_eq_true rfl) h (fun v u h hk => ?_)
  cases hk
  obtain ⟨s1, rfl⟩ : ∃ x, x = u := ⟨_, rfl⟩
  refine Ev_aload_n 1 dX12_readStep_12 rfl rfl ?_
  refine Ev_iconst dX12_readStep_13 rfl (ev_Rc rfl) ?_
  refine Ev_bipushC dX12_readStep_14 rfl ?_
  refine Ev_callV (As := [ev_i 1, ev_i 60]) (b := 0) (st := []) (M' := M_X12_readNumber) cm_X12_readNumber wd_1754 wd_1756 wd_89 yM_0 cl_X12 rfl dX12_readStep_16 (Nat.le_refl _) rfl (Nat.le_of_ble_eq_true rfl) (Nat.le_of_ble_eq_true rfl) h (fun v u h hk => ?_)
  obtain ⟨r3, rfl⟩ := hk
  obtain ⟨s2, rfl⟩ : ∃ x, x = u := ⟨_, rfl⟩
  replace h := h r3 rfl
  refine Ev_istore_n (l' := [(2, ev_i r3), (1, ev_i (ev_sub (s 0 23) 15)), (0, ev_r 0)]) dX12_readStep_19 rfl (Nat.le_of_ble_eq_true rfl) rfl ?_
  refine Ev_iload_n 0 dX12_readStep_20 rfl rfl ?_
  refine Ev_iconst dX12_readStep_21 rfl (ev_Rc rfl) ?_
  refine Ev_icmp_eq (tgt := 35) dX12_readStep_22 rfl (fun c => ?_) (fun c => ?_)
  · replace h := h.1 c
    refine Ev_iconst dX12_readStep_35 rfl (ev_Rc rfl) ?_
    exact Ev_iret rfl dX12_readStep_36 rfl h
  · replace h := h.2 c
    refine Ev_aload_n 2 dX12_readStep_25 rfl rfl ?_
    refine Ev_bipushC dX12_readStep_26 rfl ?_
    refine Ev_callV (As := [ev_i 59]) (b := 0) (st := []) (M' := M_X12_readMark) cm_X12_readMark wd_1762 wd_1764 wd_91 yM_0 cl_X12 rfl dX12_readStep_28 (Nat.le_refl _) rfl (Nat.le_of_ble_eq_true rfl) (Nat.le_of_ble_eq_true rfl) h (fun v u h hk => ?_)
    obtain ⟨r5, rfl⟩ := hk
    obtain ⟨s4, rfl⟩ : ∃ x, x = u := ⟨_, rfl⟩
    replace h := h r5 rfl
    refine Ev_iconst dX12_readStep_31 rfl (ev_Rc rfl) ?_
    refine Ev_icmp_ne (tgt := 37) dX12_readStep_32 rfl (fun c => ?_) (fun c => ?_)
    · replace h := h.1 c
      refine Ev_aload_n 2 dX12_readStep_37 rfl rfl ?_
      refine Ev_iload_n 1 dX12_readStep_38 rfl rfl ?_
      refine Ev_iload_n 0 dX12_readStep_39 rfl rfl ?_
      refine Ev_callV (As := [ev_i (ev_sub (s 0 23) 15), ev_i r3]) (b := 0) (st := []) (M' := M_X12_emitsStep) cm_X12_emitsStep wd_1766 wd_1768 wd_92 yM_0 cl_X12 rfl dX12_readStep_40 (Nat.le_refl _) rfl (Nat.le_of_ble_eq_true rfl) (Nat.le_of_ble_eq_true rfl) h (fun v u h hk => ?_)
      cases hk
      obtain ⟨s6, rfl⟩ : ∃ x, x = u := ⟨_, rfl⟩
      refine Ev_iconst dX12_readStep_43 rfl (ev_Rc rfl) ?_
      exact Ev_iret rfl dX12_readStep_44 rfl h
    · replace h := h.2 c
      refine Ev_iconst dX12_readStep_35 rfl (ev_Rc rfl) ?_
      exact Ev_iret rfl dX12_readStep_36 rfl h
theorem dX12_readAgain_0 : decode cX12_readAgain 0 = .ok (.aload_n 0, 1) := by decide +kernel
theorem dX12_readAgain_1 : decode cX12_readAgain 1 = .ok (.getfield 248, 3) := by decide +kernel
theorem dX12_readAgain_4 : decode cX12_readAgain 4 = .ok (.iconst 4, 1) := by decide +kernel
theorem dX12_readAgain_5 : decode cX12_readAgain 5 = .ok (.if_icmp .ne 9, 3) := by decide +kernel
theorem dX12_readAgain_8 : decode cX12_readAgain 8 = .ok (.aload_n 0, 1) := by decide +kernel
theorem dX12_readAgain_9 : decode cX12_readAgain 9 = .ok (.iconst 3, 1) := by decide +kernel
theorem dX12_readAgain_10 : decode cX12_readAgain 10 = .ok (.invokevirtual 222, 3) := by decide +kernel
theorem dX12_readAgain_13 : decode cX12_readAgain 13 = .ok (.ireturn, 1) := by decide +kernel
theorem dX12_readAgain_14 : decode cX12_readAgain 14 = .ok (.aload_n 0, 1) := by decide +kernel
theorem dX12_readAgain_15 : decode cX12_readAgain 15 = .ok (.aload_n 0, 1) := by decide +kernel
theorem dX12_readAgain_16 : decode cX12_readAgain 16 = .ok (.getfield 248, 3) := by decide +kernel
theorem dX12_readAgain_19 : decode cX12_readAgain 19 = .ok (.iconst 1, 1) := by decide +kernel
theorem dX12_readAgain_20 : decode cX12_readAgain 20 = .ok (.iadd, 1) := by decide +kernel
theorem dX12_readAgain_21 : decode cX12_readAgain 21 = .ok (.putfield 248, 3) := by decide +kernel
theorem dX12_readAgain_24 : decode cX12_readAgain 24 = .ok (.aload_n 0, 1) := by decide +kernel
theorem dX12_readAgain_25 : decode cX12_readAgain 25 = .ok (.invokevirtual 229, 3) := by decide +kernel
theorem dX12_readAgain_28 : decode cX12_readAgain 28 = .ok (.aload_n 0, 1) := by decide +kernel
theorem dX12_readAgain_29 : decode cX12_readAgain 29 = .ok (.iconst 1, 1) := by decide +kernel
theorem dX12_readAgain_30 : decode cX12_readAgain 30 = .ok (.bipush 9, 2) := by decide +kernel
theorem dX12_readAgain_32 : decode cX12_readAgain 32 = .ok (.invokevirtual 269, 3) := by decide +kernel
theorem dX12_readAgain_35 : decode cX12_readAgain 35 = .ok (.istore_n 1, 1) := by decide +kernel
theorem dX12_readAgain_36 : decode cX12_readAgain 36 = .ok (.iload_n 1, 1) := by decide +kernel
theorem dX12_readAgain_37 : decode cX12_readAgain 37 = .ok (.iconst (-1), 1) := by decide +kernel
theorem dX12_readAgain_38 : decode cX12_readAgain 38 = .ok (.if_icmp .eq 13, 3) := by decide +kernel
theorem dX12_readAgain_41 : decode cX12_readAgain 41 = .ok (.aload_n 0, 1) := by decide +kernel
theorem dX12_readAgain_42 : decode cX12_readAgain 42 = .ok (.bipush 40, 2) := by decide +kernel
theorem dX12_readAgain_44 : decode cX12_readAgain 44 = .ok (.invokevirtual 272, 3) := by decide +kernel
theorem dX12_readAgain_47 : decode cX12_readAgain 47 = .ok (.iconst (-1), 1) := by decide +kernel
theorem dX12_readAgain_48 : decode cX12_readAgain 48 = .ok (.if_icmp .ne 5, 3) := by decide +kernel
theorem dX12_readAgain_51 : decode cX12_readAgain 51 = .ok (.iconst (-1), 1) := by decide +kernel
theorem dX12_readAgain_52 : decode cX12_readAgain 52 = .ok (.ireturn, 1) := by decide +kernel
theorem dX12_readAgain_53 : decode cX12_readAgain 53 = .ok (.aload_n 0, 1) := by decide +kernel
theorem dX12_readAgain_54 : decode cX12_readAgain 54 = .ok (.iconst 5, 1) := by decide +kernel
theorem dX12_readAgain_55 : decode cX12_readAgain 55 = .ok (.iload_n 1, 1) := by decide +kernel
theorem dX12_readAgain_56 : decode cX12_readAgain 56 = .ok (.invokevirtual 275, 3) := by decide +kernel
theorem dX12_readAgain_59 : decode cX12_readAgain 59 = .ok (.iconst 0, 1) := by decide +kernel
theorem dX12_readAgain_60 : decode cX12_readAgain 60 = .ok (.ireturn, 1) := by decide +kernel
theorem wp_X12_readAgain_0 {d : Nat} {s : ev_S} {Q : Option ev_V → ev_S → Prop}
    (h : (((s 0 32) ≠ 4 → (∀ s1, ev_up s 0 32 (ev_add (s 0 32) 1) = s1 → (Ev layM M_X12_reads d 0 [(0, ev_r 0)] [] s1 (fun _ s2 => (Ev layM M_X12_readNumber d 0 [(0, ev_r 0), (1, ev_i 1), (2, ev_i 9)] [] s2 (ev_pi (fun r4 s3 => ((r4 = (-1) → Q (some (ev_i (-1))) s3) ∧ (r4 ≠ (-1) → (Ev layM M_X12_readMark d 0 [(0, ev_r 0), (1, ev_i 40)] [] s3 (ev_pi (fun r6 s5 => ((r6 ≠ (-1) → (Ev layM M_X12_emitsStep d 0 [(0, ev_r 0), (1, ev_i 5), (2, ev_i r4)] [] s5 (fun _ s7 => Q (some (ev_i 0)) s7))) ∧ (r6 = (-1) → Q (some (ev_i (-1))) s5)))))))))))))) ∧ ((s 0 32) = 4 → (Ev layM M_X12_errs d 0 [(0, ev_r 0), (1, ev_i 3)] [] s (ev_pi (fun r9 s8 => Q (some (ev_i r9)) s8)))))) :
    Ev layM M_X12_readAgain (d + 1) 0 [(0, ev_r 0)] [] s Q := by
  refine Ev_aload_n 0 dX12_readAgain_0 rfl rfl ?_
  refine Ev_get (i := 32) cl_X12 yM_0 (Nat.le_of_ble_eq_true rfl) rfl wd_1476 dX12_readAgain_1 ?_
  refine Ev_iconst dX12_readAgain_4 rfl (ev_Rc rfl) ?_
  refine Ev_icmp_ne (tgt := 14) dX12_readAgain_5 rfl (fun c => ?_) (fun c => ?_)
  · replace h := h.1 c
    refine Ev_aload_n 0 dX12_readAgain_14 rfl rfl ?_
    refine Ev_aload_n 0 dX12_readAgain_15 rfl rfl ?_
    refine Ev_get (i := 32) cl_X12 yM_0 (Nat.le_of_ble_eq_true rfl) rfl wd_1476 dX12_readAgain_16 ?_
    refine Ev_iconst dX12_readAgain_19 rfl (ev_Rc rfl) ?_
    refine Ev_iadd dX12_readAgain_20 ?_
    refine Ev_put (i := 32) (ty := .int) cl_X12 yM_0 (Nat.le_of_ble_eq_true rfl) rfl rfl (by decide +kernel) rfl rfl wd_1476 dX12_readAgain_21 (Ev_nm (fun s1 es1 => ?_))
    replace h := h s1 es1
    refine Ev_aload_n 0 dX12_readAgain_24 rfl rfl ?_
    refine Ev_callV (As := []) (b := 0) (st := []) (M' := M_X12_reads) cm_X12_reads wd_1706 wd_1708 wd_77 yM_0 cl_X12 rfl dX12_readAgain_25 (Nat.le_refl _) rfl (Nat.le_of_ble_eq_true rfl) (Nat.le_of_ble_eq_true rfl) h (fun v u h hk => ?_)
    cases hk
    obtain ⟨s2, rfl⟩ : ∃ x, x = u := ⟨_, rfl⟩
    refine Ev_aload_n 0 dX12_readAgain_28 rfl rfl ?_
    refine Ev_iconst dX12_readAgain_29 rfl (ev_Rc rfl) ?_
    refine Ev_bipushC dX12_readAgain_30 rfl ?_
    refine Ev_callV (As := [ev_i 1, ev_i 9]) (b := 0) (st := []) (M' := M_X12_readNumber) cm_X12_readNumber wd_1754 wd_1756 wd_89 yM_0 cl_X12 rfl dX12_readAgain_32 (Nat.le_refl _) rfl (Nat.le_of_ble_eq_true rfl) (Nat.le_of_ble_eq_true rfl) h (fun v u h hk => ?_)
    obtain ⟨r4, rfl⟩ := hk
    obtain ⟨s3, rfl⟩ : ∃ x, x = u := ⟨_, rfl⟩
    replace h := h r4 rfl
    refine Ev_istore_n (l' := [(1, ev_i r4), (0, ev_r 0)]) dX12_readAgain_35 rfl (Nat.le_of_ble_eq_true rfl) rfl ?_
    refine Ev_iload_n 0 dX12_readAgain_36 rfl rfl ?_
    refine Ev_iconst dX12_readAgain_37 rfl (ev_Rc rfl) ?_
    refine Ev_icmp_eq (tgt := 51) dX12_readAgain_38 rfl (fun c => ?_) (fun c => ?_)
    · replace h := h.1 c
      refine Ev_iconst dX12_readAgain_51 rfl (ev_Rc rfl) ?_
      exact Ev_iret rfl dX12_readAgain_52 rfl h
    · replace h := h.2 c
      refine Ev_aload_n 1 dX12_readAgain_41 rfl rfl ?_
      refine Ev_bipushC dX12_readAgain_42 rfl ?_
      refine Ev_callV (As := [ev_i 40]) (b := 0) (st := []) (M' := M_X12_readMark) cm_X12_readMark wd_1762 wd_1764 wd_91 yM_0 cl_X12 rfl dX12_readAgain_44 (Nat.le_refl _) rfl (Nat.le_of_ble_eq_true rfl) (Nat.le_of_ble_eq_true rfl) h (fun v u h hk => ?_)
      obtain ⟨r6, rfl⟩ := hk
      obtain ⟨s5, rfl⟩ : ∃ x, x = u := ⟨_, rfl⟩
      replace h := h r6 rfl
      refine Ev_iconst dX12_readAgain_47 rfl (ev_Rc rfl) ?_
      refine Ev_icmp_ne (tgt := 53) dX12_readAgain_48 rfl (fun c => ?_) (fun c => ?_)
      · replace h := h.1 c
        refine Ev_aload_n 1 dX12_readAgain_53 rfl rfl ?_
        refine Ev_iconst dX12_readAgain_54 rfl (ev_Rc rfl) ?_
        refine Ev_iload_n 0 dX12_readAgain_55 rfl rfl ?_
        refine Ev_callV (As := [ev_i 5, ev_i r4]) (b := 0) (st := []) (M' := M_X12_emitsStep) cm_X12_emitsStep wd_1766 wd_1768 wd_92 yM_0 cl_X12 rfl dX12_readAgain_56 (Nat.le_refl _) rfl (Nat.le_of_ble_eq_true rfl) (Nat.le_of_ble_eq_true rfl) h (fun v u h hk => ?_)
        cases hk
        obtain ⟨s7, rfl⟩ : ∃ x, x = u := ⟨_, rfl⟩
        refine Ev_iconst dX12_readAgain_59 rfl (ev_Rc rfl) ?_
        exact Ev_iret rfl dX12_readAgain_60 rfl h
      · replace h := h.2 c
        refine Ev_iconst dX12_readAgain_51 rfl (ev_Rc rfl) ?_
        exact Ev_iret rfl dX12_readAgain_52 rfl h
  · replace h := h.2 c
    refine Ev_aload_n 0 dX12_readAgain_8 rfl rfl ?_
    refine Ev_iconst dX12_readAgain_9 rfl (ev_Rc rfl) ?_
    refine Ev_callV (As := [ev_i 3]) (b := 0) (st := []) (M' := M_X12_errs) cm_X12_errs wd_1758 wd_1760 wd_90 yM_0 cl_X12 rfl dX12_readAgain_10 (Nat.le_refl _) rfl (Nat.le_of_ble_eq_true rfl) (Nat.le_of_ble_eq_true rfl) h (fun v u h hk => ?_)
    obtain ⟨r9, rfl⟩ := hk
    obtain ⟨s8, rfl⟩ : ∃ x, x = u := ⟨_, rfl⟩
    replace h := h r9 rfl
    exact Ev_iret rfl dX12_readAgain_13 rfl h
theorem dX12_readAgainEnd_0 : decode cX12_readAgainEnd 0 = .ok (.aload_n 0, 1) := by decide +kernel
theorem dX12_readAgainEnd_1 : decode cX12_readAgainEnd 1 = .ok (.aload_n 0, 1) := by decide +kernel
theorem dX12_readAgainEnd_2 : decode cX12_readAgainEnd 2 = .ok (.getfield 248, 3) := by decide +kernel
theorem dX12_readAgainEnd_5 : decode cX12_readAgainEnd 5 = .ok (.iconst 1, 1) := by decide +kernel
theorem dX12_readAgainEnd_6 : decode cX12_readAgainEnd 6 = .ok (.isub, 1) := by decide +kernel
theorem dX12_readAgainEnd_7 : decode cX12_readAgainEnd 7 = .ok (.putfield 248, 3) := by decide +kernel
theorem dX12_readAgainEnd_10 : decode cX12_readAgainEnd 10 = .ok (.aload_n 0, 1) := by decide +kernel
theorem dX12_readAgainEnd_11 : decode cX12_readAgainEnd 11 = .ok (.invokevirtual 229, 3) := by decide +kernel
theorem dX12_readAgainEnd_14 : decode cX12_readAgainEnd 14 = .ok (.aload_n 0, 1) := by decide +kernel
theorem dX12_readAgainEnd_15 : decode cX12_readAgainEnd 15 = .ok (.bipush 6, 2) := by decide +kernel
theorem dX12_readAgainEnd_17 : decode cX12_readAgainEnd 17 = .ok (.iconst 0, 1) := by decide +kernel
theorem dX12_readAgainEnd_18 : decode cX12_readAgainEnd 18 = .ok (.invokevirtual 275, 3) := by decide +kernel
theorem dX12_readAgainEnd_21 : decode cX12_readAgainEnd 21 = .ok (.iconst 0, 1) := by decide +kernel
theorem dX12_readAgainEnd_22 : decode cX12_readAgainEnd 22 = .ok (.ireturn, 1) := by decide +kernel
theorem wp_X12_readAgainEnd_0 {d : Nat} {s : ev_S} {Q : Option ev_V → ev_S → Prop}
    (h : (∀ s1, ev_up s 0 32 (ev_sub (s 0 32) 1) = s1 → (Ev layM M_X12_reads d 0 [(0, ev_r 0)] [] s1 (fun _ s2 => (Ev layM M_X12_emitsStep d 0 [(0, ev_r 0), (1, ev_i 6), (2, ev_i 0)] [] s2 (fun _ s3 => Q (some (ev_i 0)) s3)))))) :
    Ev layM M_X12_readAgainEnd (d + 1) 0 [(0, ev_r 0)] [] s Q := by
  refine Ev_aload_n 0 dX12_readAgainEnd_0 rfl rfl ?_
  refine Ev_aload_n 0 dX12_readAgainEnd_1 rfl rfl ?_
  refine Ev_get (i := 32) cl_X12 yM_0 (Nat.le_of_ble_eq_true rfl) rfl wd_1476 dX12_readAgainEnd_2 ?_
  refine Ev_iconst dX12_readAgainEnd_5 rfl (ev_Rc rfl) ?_
  refine Ev_isub dX12_readAgainEnd_6 ?_
  refine Ev_put (i := 32) (ty := .int) cl_X12 yM_0 (Nat.le_of_ble_eq_true rfl) rfl rfl (by decide +kernel) rfl rfl wd_1476 dX12_readAgainEnd_7 (Ev_nm (fun s1 es1 => ?_))
  replace h := h s1 es1
  refine Ev_aload_n 0 dX12_readAgainEnd_10 rfl rfl ?_
  refine Ev_callV (As := []) (b := 0) (st := []) (M' := M_X12_reads) cm_X12_reads wd_1706 wd_1708 wd_77 yM_0 cl_X12 rfl dX12_readAgainEnd_11 (Nat.le_refl _) rfl (Nat.le_of_ble_eq_true rfl) (Nat.le_of_ble_eq_true rfl) h (fun v u h hk => ?_)
  cases hk
  obtain ⟨s2, rfl⟩ : ∃ x, x = u := ⟨_, rfl⟩
  refine Ev_aload_n 0 dX12_readAgainEnd_14 rfl rfl ?_
  refine Ev_bipushC dX12_readAgainEnd_15 rfl ?_
  refine Ev_iconst dX12_readAgainEnd_17 rfl (ev_Rc rfl) ?_
  refine Ev_callV (As := [ev_i 6, ev_i 0]) (b := 0) (st := []) (M' := M_X12_emitsStep) cm_X12_emitsStep wd_1766 wd_1768 wd_92 yM_0 cl_X12 rfl dX12_readAgainEnd_18 (Nat.le_refl _) rfl (Nat.le_of_ble_eq_true rfl) (Nat.le_of_ble_eq_true rfl) h (fun v u h hk => ?_)
  cases hk
  obtain ⟨s3, rfl⟩ : ∃ x, x = u := ⟨_, rfl⟩
  refine Ev_iconst dX12_readAgainEnd_21 rfl (ev_Rc rfl) ?_
  exact Ev_iret rfl dX12_readAgainEnd_22 rfl h
theorem dX12_isStep_0 : decode cX12_isStep 0 = .ok (.aload_n 0, 1) := by decide +kernel
theorem dX12_isStep_1 : decode cX12_isStep 1 = .ok (.getfield 194, 3) := by decide +kernel
theorem dX12_isStep_4 : decode cX12_isStep 4 = .ok (.iconst 2, 1) := by decide +kernel
theorem dX12_isStep_5 : decode cX12_isStep 5 = .ok (.if_icmp .ne 22, 3) := by decide +kernel
theorem dX12_isStep_8 : decode cX12_isStep 8 = .ok (.aload_n 0, 1) := by decide +kernel
theorem dX12_isStep_9 : decode cX12_isStep 9 = .ok (.aload_n 0, 1) := by decide +kernel
theorem dX12_isStep_10 : decode cX12_isStep 10 = .ok (.getfield 197, 3) := by decide +kernel
theorem dX12_isStep_13 : decode cX12_isStep 13 = .ok (.bipush 15, 2) := by decide +kernel
theorem dX12_isStep_15 : decode cX12_isStep 15 = .ok (.bipush 19, 2) := by decide +kernel
theorem dX12_isStep_17 : decode cX12_isStep 17 = .ok (.invokevirtual 158, 3) := by decide +kernel
theorem dX12_isStep_20 : decode cX12_isStep 20 = .ok (.ifCond .eq 7, 3) := by decide +kernel
theorem dX12_isStep_23 : decode cX12_isStep 23 = .ok (.iconst 1, 1) := by decide +kernel
theorem dX12_isStep_24 : decode cX12_isStep 24 = .ok (.goto 4, 3) := by decide +kernel
theorem dX12_isStep_27 : decode cX12_isStep 27 = .ok (.iconst 0, 1) := by decide +kernel
theorem dX12_isStep_28 : decode cX12_isStep 28 = .ok (.ireturn, 1) := by decide +kernel
theorem wp_X12_isStep_0 {d : Nat} {s : ev_S} {Q : Option ev_V → ev_S → Prop}
    (h : (((s 0 22) ≠ 2 → Q (some (ev_i 0)) s) ∧ ((s 0 22) = 2 → (Ev layM M_X12_isIn d 0 [(0, ev_r 0), (1, ev_i (s 0 23)), (2, ev_i 15), (3, ev_i 19)] [] s (ev_pi (fun r2 s1 => ((r2 = 0 → Q (some (ev_i 0)) s1) ∧ (r2 ≠ 0 → Q (some (ev_i 1)) s1)))))))) :
    Ev layM M_X12_isStep (d + 1) 0 [(0, ev_r 0)] [] s Q := by
  refine Ev_aload_n 0 dX12_isStep_0 rfl rfl ?_
  refine Ev_get (i := 22) cl_X12 yM_0 (Nat.le_of_ble_eq_true rfl) rfl wd_1466 dX12_isStep_1 ?_
  refine Ev_iconst dX12_isStep_4 rfl (ev_Rc rfl) ?_
  refine Ev_icmp_ne (tgt := 27) dX12_isStep_5 rfl (fun c => ?_) (fun c => ?_)
  · replace h := h.1 c
    refine Ev_iconst dX12_isStep_27 rfl (ev_Rc rfl) ?_
    exact Ev_iret rfl dX12_isStep_28 (ev_nb (by decide)) h
  · replace h := h.2 c
    refine Ev_aload_n 0 dX12_isStep_8 rfl rfl ?_
    refine Ev_aload_n 0 dX12_isStep_9 rfl rfl ?_
    refine Ev_get (i := 23) cl_X12 yM_0 (Nat.le_of_ble_eq_true rfl) rfl wd_1467 dX12_isStep_10 ?_
    refine Ev_bipushC dX12_isStep_13 rfl ?_
    refine Ev_bipushC dX12_isStep_15 rfl ?_
    refine Ev_callV (As := [ev_i (s 0 23), ev_i 15, ev_i 19]) (b := 0) (st := []) (M' := M_X12_isIn) cm_X12_isIn wd_1650 wd_1652 wd_70 yM_0 cl_X12 rfl dX12_isStep_17 (Nat.le_refl _) rfl (Nat.le_of_ble_eq_true rfl) (Nat.le_of_ble_eq_true rfl) h (fun v u h hk => ?_)
    obtain ⟨r2, rfl⟩ := hk
    obtain ⟨s1, rfl⟩ : ∃ x, x = u := ⟨_, rfl⟩
    replace h := h r2 rfl
    refine Ev_if_eq (tgt := 27) dX12_isStep_20 rfl (fun c => ?_) (fun c => ?_)
    · replace h := h.1 c
      refine Ev_iconst dX12_isStep_27 rfl (ev_Rc rfl) ?_
      exact Ev_iret rfl dX12_isStep_28 (ev_nb (by decide)) h
    · replace h := h.2 c
      refine Ev_iconst dX12_isStep_23 rfl (ev_Rc rfl) ?_
      refine Ev_goto (tgt := 28) dX12_isStep_24 rfl ?_
      exact Ev_iret rfl dX12_isStep_28 (ev_nb (by decide)) h
theorem dX12_readSteps_0 : decode cX12_readSteps 0 = .ok (.aload_n 0, 1) := by decide +kernel
theorem dX12_readSteps_1 : decode cX12_readSteps 1 = .ok (.iconst 0, 1) := by decide +kernel
theorem dX12_readSteps_2 : decode cX12_readSteps 2 = .ok (.putfield 266, 3) := by decide +kernel
theorem dX12_readSteps_5 : decode cX12_readSteps 5 = .ok (.aload_n 0, 1) := by decide +kernel
theorem dX12_readSteps_6 : decode cX12_readSteps 6 = .ok (.invokevirtual 278, 3) := by decide +kernel
theorem dX12_readSteps_9 : decode cX12_readSteps 9 = .ok (.ifCond .ne 28, 3) := by decide +kernel
theorem dX12_readSteps_12 : decode cX12_readSteps 12 = .ok (.aload_n 0, 1) := by decide +kernel
theorem dX12_readSteps_13 : decode cX12_readSteps 13 = .ok (.bipush 20, 2) := by decide +kernel
theorem dX12_readSteps_15 : decode cX12_readSteps 15 = .ok (.invokevirtual 251, 3) := by decide +kernel
theorem dX12_readSteps_18 : decode cX12_readSteps 18 = .ok (.ifCond .ne 19, 3) := by decide +kernel
theorem dX12_readSteps_21 : decode cX12_readSteps 21 = .ok (.aload_n 0, 1) := by decide +kernel
theorem dX12_readSteps_22 : decode cX12_readSteps 22 = .ok (.getfield 248, 3) := by decide +kernel
theorem dX12_readSteps_25 : decode cX12_readSteps 25 = .ok (.ifCond .le 57, 3) := by decide +kernel
theorem dX12_readSteps_28 : decode cX12_readSteps 28 = .ok (.aload_n 0, 1) := by decide +kernel
theorem dX12_readSteps_29 : decode cX12_readSteps 29 = .ok (.bipush 41, 2) := by decide +kernel
theorem dX12_readSteps_31 : decode cX12_readSteps 31 = .ok (.invokevirtual 236, 3) := by decide +kernel
theorem dX12_readSteps_34 : decode cX12_readSteps 34 = .ok (.ifCond .eq 48, 3) := by decide +kernel
theorem dX12_readSteps_37 : decode cX12_readSteps 37 = .ok (.aload_n 0, 1) := by decide +kernel
theorem dX12_readSteps_38 : decode cX12_readSteps 38 = .ok (.invokevirtual 278, 3) := by decide +kernel
theorem dX12_readSteps_41 : decode cX12_readSteps 41 = .ok (.ifCond .eq 10, 3) := by decide +kernel
theorem dX12_readSteps_44 : decode cX12_readSteps 44 = .ok (.aload_n 0, 1) := by decide +kernel
theorem dX12_readSteps_45 : decode cX12_readSteps 45 = .ok (.invokevirtual 282, 3) := by decide +kernel
theorem dX12_readSteps_48 : decode cX12_readSteps 48 = .ok (.goto 23, 3) := by decide +kernel
theorem dX12_readSteps_51 : decode cX12_readSteps 51 = .ok (.aload_n 0, 1) := by decide +kernel
theorem dX12_readSteps_52 : decode cX12_readSteps 52 = .ok (.bipush 20, 2) := by decide +kernel
theorem dX12_readSteps_54 : decode cX12_readSteps 54 = .ok (.invokevirtual 251, 3) := by decide +kernel
theorem dX12_readSteps_57 : decode cX12_readSteps 57 = .ok (.ifCond .eq 10, 3) := by decide +kernel
theorem dX12_readSteps_60 : decode cX12_readSteps 60 = .ok (.aload_n 0, 1) := by decide +kernel
theorem dX12_readSteps_61 : decode cX12_readSteps 61 = .ok (.invokevirtual 285, 3) := by decide +kernel
theorem dX12_readSteps_64 : decode cX12_readSteps 64 = .ok (.goto 7, 3) := by decide +kernel
theorem dX12_readSteps_67 : decode cX12_readSteps 67 = .ok (.aload_n 0, 1) := by decide +kernel
theorem dX12_readSteps_68 : decode cX12_readSteps 68 = .ok (.invokevirtual 288, 3) := by decide +kernel
theorem dX12_readSteps_71 : decode cX12_readSteps 71 = .ok (.istore_n 1, 1) := by decide +kernel
theorem dX12_readSteps_72 : decode cX12_readSteps 72 = .ok (.iload_n 1, 1) := by decide +kernel
theorem dX12_readSteps_73 : decode cX12_readSteps 73 = .ok (.iconst (-1), 1) := by decide +kernel
theorem dX12_readSteps_74 : decode cX12_readSteps 74 = .ok (.if_icmp .ne 5, 3) := by decide +kernel
theorem dX12_readSteps_77 : decode cX12_readSteps 77 = .ok (.iconst (-1), 1) := by decide +kernel
theorem dX12_readSteps_78 : decode cX12_readSteps 78 = .ok (.ireturn, 1) := by decide +kernel
theorem dX12_readSteps_79 : decode cX12_readSteps 79 = .ok (.goto (-74), 3) := by decide +kernel
theorem dX12_readSteps_82 : decode cX12_readSteps 82 = .ok (.aload_n 0, 1) := by decide +kernel
theorem dX12_readSteps_83 : decode cX12_readSteps 83 = .ok (.getfield 248, 3) := by decide +kernel
theorem dX12_readSteps_86 : decode cX12_readSteps 86 = .ok (.ifCond .ne 14, 3) := by decide +kernel
theorem dX12_readSteps_89 : decode cX12_readSteps 89 = .ok (.aload_n 0, 1) := by decide +kernel
theorem dX12_readSteps_90 : decode cX12_readSteps 90 = .ok (.getfield 194, 3) := by decide +kernel
theorem dX12_readSteps_93 : decode cX12_readSteps 93 = .ok (.ifCond .ne 7, 3) := by decide +kernel
theorem dX12_readSteps_96 : decode cX12_readSteps 96 = .ok (.iconst 0, 1) := by decide +kernel
theorem dX12_readSteps_97 : decode cX12_readSteps 97 = .ok (.goto 8, 3) := by decide +kernel
theorem dX12_readSteps_100 : decode cX12_readSteps 100 = .ok (.aload_n 0, 1) := by decide +kernel
theorem dX12_readSteps_101 : decode cX12_readSteps 101 = .ok (.iconst 1, 1) := by decide +kernel
theorem dX12_readSteps_102 : decode cX12_readSteps 102 = .ok (.invokevirtual 222, 3) := by decide +kernel
theorem dX12_readSteps_105 : decode cX12_readSteps 105 = .ok (.ireturn, 1) := by decide +kernel
theorem wp_X12_readSteps_0 {d : Nat} {s : ev_S} {Q : Option ev_V → ev_S → Prop}
    (h : (∀ s1, ev_up s 0 41 0 = s1 → Ev layM M_X12_readSteps (d + 1) 5 [(0, ev_r 0)] [] s1 Q)) :
    Ev layM M_X12_readSteps (d + 1) 0 [(0, ev_r 0)] [] s Q := by
  refine Ev_aload_n 0 dX12_readSteps_0 rfl rfl ?_
  refine Ev_iconst dX12_readSteps_1 rfl (ev_Rc rfl) ?_
  refine Ev_put (i := 41) (ty := .int) cl_X12 yM_0 (Nat.le_of_ble_eq_true rfl) rfl rfl (by decide +kernel) rfl rfl wd_1485 dX12_readSteps_2 (Ev_nm (fun s1 es1 => ?_))
  replace h := h s1 es1
  exact Ev_sub [0] rfl h
theorem wp_X12_readSteps_5 {d : Nat} {s : ev_S} {Q : Option ev_V → ev_S → Prop}
    (h : (Ev layM M_X12_isStep d 0 [(0, ev_r 0)] [] s (ev_pi (fun r2 s1 => ((r2 ≠ 0 → Ev layM M_X12_readSteps (d + 1) 37 [(0, ev_r 0)] [] s1 Q) ∧ (r2 = 0 → (Ev layM M_X12_isWord d 0 [(0, ev_r 0), (1, ev_i 20)] [] s1 (ev_pi (fun r4 s3 => ((r4 ≠ 0 → Ev layM M_X12_readSteps (d + 1) 37 [(0, ev_r 0)] [] s3 Q) ∧ (r4 = 0 → (((s3 0 32) ≤ 0 → Ev layM M_X12_readSteps (d + 1) 82 [(0, ev_r 0)] [] s3 Q) ∧ (0 < (s3 0 32) → (Ev layM M_X12_isSign d 0 [(0, ev_r 0), (1, ev_i 41)] [] s3 (ev_pi (fun r6 s5 => ((r6 = 0 → Ev layM M_X12_readSteps (d + 1) 82 [(0, ev_r 0)] [] s5 Q) ∧ (r6 ≠ 0 → Ev layM M_X12_readSteps (d + 1) 37 [(0, ev_r 0)] [] s5 Q)))))))))))))))))) :
    Ev layM M_X12_readSteps (d + 1) 5 [(0, ev_r 0)] [] s Q := by
  refine Ev_aload_n 0 dX12_readSteps_5 rfl rfl ?_
  refine Ev_callV (As := []) (b := 0) (st := []) (M' := M_X12_isStep) cm_X12_isStep wd_1738 wd_1740 wd_85 yM_0 cl_X12 rfl dX12_readSteps_6 (Nat.le_refl _) rfl (Nat.le_of_ble_eq_true rfl) (Nat.le_of_ble_eq_true rfl) h (fun v u h hk => ?_)
  obtain ⟨r2, rfl⟩ := hk
  obtain ⟨s1, rfl⟩ : ∃ x, x = u := ⟨_, rfl⟩
  replace h := h r2 rfl
  refine Ev_if_ne (tgt := 37) dX12_readSteps_9 rfl (fun c => ?_) (fun c => ?_)
  · replace h := h.1 c
    exact Ev_sub [0] rfl h
  · replace h := h.2 c
    refine Ev_aload_n 0 dX12_readSteps_12 rfl rfl ?_
    refine Ev_bipushC dX12_readSteps_13 rfl ?_
    refine Ev_callV (As := [ev_i 20]) (b := 0) (st := []) (M' := M_X12_isWord) cm_X12_isWord wd_1742 wd_1744 wd_86 yM_0 cl_X12 rfl dX12_readSteps_15 (Nat.le_refl _) rfl (Nat.le_of_ble_eq_true rfl) (Nat.le_of_ble_eq_true rfl) h (fun v u h hk => ?_)
    obtain ⟨r4, rfl⟩ := hk
    obtain ⟨s3, rfl⟩ : ∃ x, x = u := ⟨_, rfl⟩
    replace h := h r4 rfl
    refine Ev_if_ne (tgt := 37) dX12_readSteps_18 rfl (fun c => ?_) (fun c => ?_)
    · replace h := h.1 c
      exact Ev_sub [0] rfl h
    · replace h := h.2 c
      refine Ev_aload_n 0 dX12_readSteps_21 rfl rfl ?_
      refine Ev_get (i := 32) cl_X12 yM_0 (Nat.le_of_ble_eq_true rfl) rfl wd_1476 dX12_readSteps_22 ?_
      refine Ev_if_le (tgt := 82) dX12_readSteps_25 rfl (fun c => ?_) (fun c => ?_)
      · replace h := h.1 c
        exact Ev_sub [0] rfl h
      · replace h := h.2 c
        refine Ev_aload_n 0 dX12_readSteps_28 rfl rfl ?_
        refine Ev_bipushC dX12_readSteps_29 rfl ?_
        refine Ev_callV (As := [ev_i 41]) (b := 0) (st := []) (M' := M_X12_isSign) cm_X12_isSign wd_1746 wd_1748 wd_87 yM_0 cl_X12 rfl dX12_readSteps_31 (Nat.le_refl _) rfl (Nat.le_of_ble_eq_true rfl) (Nat.le_of_ble_eq_true rfl) h (fun v u h hk => ?_)
        obtain ⟨r6, rfl⟩ := hk
        obtain ⟨s5, rfl⟩ : ∃ x, x = u := ⟨_, rfl⟩
        replace h := h r6 rfl
        refine Ev_if_eq (tgt := 82) dX12_readSteps_34 rfl (fun c => ?_) (fun c => ?_)
        · replace h := h.1 c
          exact Ev_sub [0] rfl h
        · replace h := h.2 c
          exact Ev_sub [0] rfl h
theorem wp_X12_readSteps_37 {d : Nat} {s : ev_S} {Q : Option ev_V → ev_S → Prop}
    (h : (Ev layM M_X12_isStep d 0 [(0, ev_r 0)] [] s (ev_pi (fun r2 s1 => ((r2 = 0 → (Ev layM M_X12_isWord d 0 [(0, ev_r 0), (1, ev_i 20)] [] s1 (ev_pi (fun r4 s3 => ((r4 = 0 → (Ev layM M_X12_readAgainEnd d 0 [(0, ev_r 0)] [] s3 (ev_pi (fun r6 s5 => ((r6 ≠ (-1) → Ev layM M_X12_readSteps (d + 1) 5 [(0, ev_r 0)] [] s5 Q) ∧ (r6 = (-1) → Q (some (ev_i (-1))) s5)))))) ∧ (r4 ≠ 0 → (Ev layM M_X12_readAgain d 0 [(0, ev_r 0)] [] s3 (ev_pi (fun r8 s7 => ((r8 ≠ (-1) → Ev layM M_X12_readSteps (d + 1) 5 [(0, ev_r 0)] [] s7 Q) ∧ (r8 = (-1) → Q (some (ev_i (-1))) s7))))))))))) ∧ (r2 ≠ 0 → (Ev layM M_X12_readStep d 0 [(0, ev_r 0)] [] s1 (ev_pi (fun r10 s9 => ((r10 ≠ (-1) → Ev layM M_X12_readSteps (d + 1) 5 [(0, ev_r 0)] [] s9 Q) ∧ (r10 = (-1) → Q (some (ev_i (-1))) s9))))))))))) :
    Ev layM M_X12_readSteps (d + 1) 37 [(0, ev_r 0)] [] s Q := by
  refine Ev_aload_n 0 dX12_readSteps_37 rfl rfl ?_
  refine Ev_callV (As := []) (b := 0) (st := []) (M' := M_X12_isStep) cm_X12_isStep wd_1738 wd_1740 wd_85 yM_0 cl_X12 rfl dX12_readSteps_38 (Nat.le_refl _) rfl (Nat.le_of_ble_eq_true rfl) (Nat.le_of_ble_eq_true rfl) h (fun v u h hk => ?_)
  obtain ⟨r2, rfl⟩ := hk
  obtain ⟨s1, rfl⟩ : ∃ x, x = u := ⟨_, rfl⟩
  replace h := h r2 rfl
  refine Ev_if_eq (tgt := 51) dX12_readSteps_41 rfl (fun c => ?_) (fun c => ?_)
  · replace h := h.1 c
    refine Ev_aload_n 0 dX12_readSteps_51 rfl rfl ?_
    refine Ev_bipushC dX12_readSteps_52 rfl ?_
    refine Ev_callV (As := [ev_i 20]) (b := 0) (st := []) (M' := M_X12_isWord) cm_X12_isWord wd_1742 wd_1744 wd_86 yM_0 cl_X12 rfl dX12_readSteps_54 (Nat.le_refl _) rfl (Nat.le_of_ble_eq_true rfl) (Nat.le_of_ble_eq_true rfl) h (fun v u h hk => ?_)
    obtain ⟨r4, rfl⟩ := hk
    obtain ⟨s3, rfl⟩ : ∃ x, x = u := ⟨_, rfl⟩
    replace h := h r4 rfl
    refine Ev_if_eq (tgt := 67) dX12_readSteps_57 rfl (fun c => ?_) (fun c => ?_)
    · replace h := h.1 c
      refine Ev_aload_n 0 dX12_readSteps_67 rfl rfl ?_
      refine Ev_callV (As := []) (b := 0) (st := []) (M' := M_X12_readAgainEnd) cm_X12_readAgainEnd wd_1774 wd_1776 wd_94 yM_0 cl_X12 rfl dX12_readSteps_68 (Nat.le_refl _) rfl (Nat.le_of_ble_eq_true rfl) (Nat.le_of_ble_eq_true rfl) h (fun v u h hk => ?_)
      obtain ⟨r6, rfl⟩ := hk
      obtain ⟨s5, rfl⟩ : ∃ x, x = u := ⟨_, rfl⟩
      replace h := h r6 rfl
      refine Ev_istore_n (l' := [(1, ev_i r6), (0, ev_r 0)]) dX12_readSteps_71 rfl (Nat.le_of_ble_eq_true rfl) rfl ?_
      refine Ev_iload_n 0 dX12_readSteps_72 rfl rfl ?_
      refine Ev_iconst dX12_readSteps_73 rfl (ev_Rc rfl) ?_
      refine Ev_icmp_ne (tgt := 79) dX12_readSteps_74 rfl (fun c => ?_) (fun c => ?_)
      · replace h := h.1 c
        refine Ev_goto (tgt := 5) dX12_readSteps_79 rfl ?_
        exact Ev_sub [1] rfl h
      · replace h := h.2 c
        refine Ev_iconst dX12_readSteps_77 rfl (ev_Rc rfl) ?_
        exact Ev_iret rfl dX12_readSteps_78 rfl h
    · replace h := h.2 c
      refine Ev_aload_n 0 dX12_readSteps_60 rfl rfl ?_
      refine Ev_callV (As := []) (b := 0) (st := []) (M' := M_X12_readAgain) cm_X12_readAgain wd_1770 wd_1772 wd_93 yM_0 cl_X12 rfl dX12_readSteps_61 (Nat.le_refl _) rfl (Nat.le_of_ble_eq_true rfl) (Nat.le_of_ble_eq_true rfl) h (fun v u h hk => ?_)
      obtain ⟨r8, rfl⟩ := hk
      obtain ⟨s7, rfl⟩ : ∃ x, x = u := ⟨_, rfl⟩
      replace h := h r8 rfl
      refine Ev_goto (tgt := 71) dX12_readSteps_64 rfl ?_
      refine Ev_istore_n (l' := [(1, ev_i r8), (0, ev_r 0)]) dX12_readSteps_71 rfl (Nat.le_of_ble_eq_true rfl) rfl ?_
      refine Ev_iload_n 0 dX12_readSteps_72 rfl rfl ?_
      refine Ev_iconst dX12_readSteps_73 rfl (ev_Rc rfl) ?_
      refine Ev_icmp_ne (tgt := 79) dX12_readSteps_74 rfl (fun c => ?_) (fun c => ?_)
      · replace h := h.1 c
        refine Ev_goto (tgt := 5) dX12_readSteps_79 rfl ?_
        exact Ev_sub [1] rfl h
      · replace h := h.2 c
        refine Ev_iconst dX12_readSteps_77 rfl (ev_Rc rfl) ?_
        exact Ev_iret rfl dX12_readSteps_78 rfl h
  · replace h := h.2 c
    refine Ev_aload_n 0 dX12_readSteps_44 rfl rfl ?_
    refine Ev_callV (As := []) (b := 0) (st := []) (M' := M_X12_readStep) cm_X12_readStep wd_1750 wd_1752 wd_88 yM_0 cl_X12 rfl dX12_readSteps_45 (Nat.le_refl _) rfl (Nat.le_of_ble_eq_true rfl) (Nat.le_of_ble_eq_true rfl) h (fun v u h hk => ?_)
    obtain ⟨r10, rfl⟩ := hk
    obtain ⟨s9, rfl⟩ : ∃ x, x = u := ⟨_, rfl⟩
    replace h := h r10 rfl
    refine Ev_goto (tgt := 71) dX12_readSteps_48 rfl ?_
    refine Ev_istore_n (l' := [(1, ev_i r10), (0, ev_r 0)]) dX12_readSteps_71 rfl (Nat.le_of_ble_eq_true rfl) rfl ?_
    refine Ev_iload_n 0 dX12_readSteps_72 rfl rfl ?_
    refine Ev_iconst dX12_readSteps_73 rfl (ev_Rc rfl) ?_
    refine Ev_icmp_ne (tgt := 79) dX12_readSteps_74 rfl (fun c => ?_) (fun c => ?_)
    · replace h := h.1 c
      refine Ev_goto (tgt := 5) dX12_readSteps_79 rfl ?_
      exact Ev_sub [1] rfl h
    · replace h := h.2 c
      refine Ev_iconst dX12_readSteps_77 rfl (ev_Rc rfl) ?_
      exact Ev_iret rfl dX12_readSteps_78 rfl h
theorem wp_X12_readSteps_82 {d : Nat} {s : ev_S} {Q : Option ev_V → ev_S → Prop}
    (h : (((s 0 32) ≠ 0 → (Ev layM M_X12_errs d 0 [(0, ev_r 0), (1, ev_i 1)] [] s (ev_pi (fun r2 s1 => Q (some (ev_i r2)) s1)))) ∧ ((s 0 32) = 0 → (((s 0 22) ≠ 0 → (Ev layM M_X12_errs d 0 [(0, ev_r 0), (1, ev_i 1)] [] s (ev_pi (fun r4 s3 => Q (some (ev_i r4)) s3)))) ∧ ((s 0 22) = 0 → Q (some (ev_i 0)) s))))) :
    Ev layM M_X12_readSteps (d + 1) 82 [(0, ev_r 0)] [] s Q := by
  refine Ev_aload_n 0 dX12_readSteps_82 rfl rfl ?_
  refine Ev_get (i := 32) cl_X12 yM_0 (Nat.le_of_ble_eq_true rfl) rfl wd_1476 dX12_readSteps_83 ?_
  refine Ev_if_ne (tgt := 100) dX12_readSteps_86 rfl (fun c => ?_) (fun c => ?_)
  · replace h := h.1 c
    refine Ev_aload_n 0 dX12_readSteps_100 rfl rfl ?_
    refine Ev_iconst dX12_readSteps_101 rfl (ev_Rc rfl) ?_
    refine Ev_callV (As := [ev_i 1]) (b := 0) (st := []) (M' := M_X12_errs) cm_X12_errs wd_1758 wd_1760 wd_90 yM_0 cl_X12 rfl dX12_readSteps_102 (Nat.le_refl _) rfl (Nat.le_of_ble_eq_true rfl) (Nat.le_of_ble_eq_true rfl) h (fun v u h hk => ?_)
    obtain ⟨r2, rfl⟩ := hk
    obtain ⟨s1, rfl⟩ : ∃ x, x = u := ⟨_, rfl⟩
    replace h := h r2 rfl
    exact Ev_iret rfl dX12_readSteps_105 rfl h
  · replace h := h.2 c
    refine Ev_aload_n 0 dX12_readSteps_89 rfl rfl ?_
    refine Ev_get (i := 22) cl_X12 yM_0 (Nat.le_of_ble_eq_true rfl) rfl wd_1466 dX12_readSteps_90 ?_
    refine Ev_if_ne (tgt := 100) dX12_readSteps_93 rfl (fun c => ?_) (fun c => ?_)
    · replace h := h.1 c
      refine Ev_aload_n 0 dX12_readSteps_100 rfl rfl ?_
      refine Ev_iconst dX12_readSteps_101 rfl (ev_Rc rfl) ?_
      refine Ev_callV (As := [ev_i 1]) (b := 0) (st := []) (M' := M_X12_errs) cm_X12_errs wd_1758 wd_1760 wd_90 yM_0 cl_X12 rfl dX12_readSteps_102 (Nat.le_refl _) rfl (Nat.le_of_ble_eq_true rfl) (Nat.le_of_ble_eq_true rfl) h (fun v u h hk => ?_)
      obtain ⟨r4, rfl⟩ := hk
      obtain ⟨s3, rfl⟩ : ∃ x, x = u := ⟨_, rfl⟩
      replace h := h r4 rfl
      exact Ev_iret rfl dX12_readSteps_105 rfl h
    · replace h := h.2 c
      refine Ev_iconst dX12_readSteps_96 rfl (ev_Rc rfl) ?_
      refine Ev_goto (tgt := 105) dX12_readSteps_97 rfl ?_
      exact Ev_iret rfl dX12_readSteps_105 rfl h
theorem dX12_laysWay_0 : decode cX12_laysWay 0 = .ok (.iconst 0, 1) := by decide +kernel
theorem dX12_laysWay_1 : decode cX12_laysWay 1 = .ok (.istore_n 1, 1) := by decide +kernel
theorem dX12_laysWay_2 : decode cX12_laysWay 2 = .ok (.iconst 0, 1) := by decide +kernel
theorem dX12_laysWay_3 : decode cX12_laysWay 3 = .ok (.istore_n 2, 1) := by decide +kernel
theorem dX12_laysWay_4 : decode cX12_laysWay 4 = .ok (.iconst 0, 1) := by decide +kernel
theorem dX12_laysWay_5 : decode cX12_laysWay 5 = .ok (.istore_n 3, 1) := by decide +kernel
theorem dX12_laysWay_6 : decode cX12_laysWay 6 = .ok (.iload_n 3, 1) := by decide +kernel
theorem dX12_laysWay_7 : decode cX12_laysWay 7 = .ok (.aload_n 0, 1) := by decide +kernel
theorem dX12_laysWay_8 : decode cX12_laysWay 8 = .ok (.getfield 266, 3) := by decide +kernel
theorem dX12_laysWay_11 : decode cX12_laysWay 11 = .ok (.if_icmp .ge 172, 3) := by decide +kernel
theorem dX12_laysWay_14 : decode cX12_laysWay 14 = .ok (.aload_n 0, 1) := by decide +kernel
theorem dX12_laysWay_15 : decode cX12_laysWay 15 = .ok (.getfield 65, 3) := by decide +kernel
theorem dX12_laysWay_18 : decode cX12_laysWay 18 = .ok (.iload_n 3, 1) := by decide +kernel
theorem dX12_laysWay_19 : decode cX12_laysWay 19 = .ok (.iaload, 1) := by decide +kernel
theorem dX12_laysWay_20 : decode cX12_laysWay 20 = .ok (.iconst 5, 1) := by decide +kernel
theorem dX12_laysWay_21 : decode cX12_laysWay 21 = .ok (.if_icmp .ne 29, 3) := by decide +kernel
theorem dX12_laysWay_24 : decode cX12_laysWay 24 = .ok (.aload_n 0, 1) := by decide +kernel
theorem dX12_laysWay_25 : decode cX12_laysWay 25 = .ok (.getfield 77, 3) := by decide +kernel
theorem dX12_laysWay_28 : decode cX12_laysWay 28 = .ok (.iload_n 2, 1) := by decide +kernel
theorem dX12_laysWay_29 : decode cX12_laysWay 29 = .ok (.iload_n 3, 1) := by decide +kernel
theorem dX12_laysWay_30 : decode cX12_laysWay 30 = .ok (.iastore, 1) := by decide +kernel
theorem dX12_laysWay_31 : decode cX12_laysWay 31 = .ok (.aload_n 0, 1) := by decide +kernel
theorem dX12_laysWay_32 : decode cX12_laysWay 32 = .ok (.getfield 80, 3) := by decide +kernel
theorem dX12_laysWay_35 : decode cX12_laysWay 35 = .ok (.iload_n 2, 1) := by decide +kernel
theorem dX12_laysWay_36 : decode cX12_laysWay 36 = .ok (.aload_n 0, 1) := by decide +kernel
theorem dX12_laysWay_37 : decode cX12_laysWay 37 = .ok (.getfield 68, 3) := by decide +kernel
theorem dX12_laysWay_40 : decode cX12_laysWay 40 = .ok (.iload_n 3, 1) := by decide +kernel
theorem dX12_laysWay_41 : decode cX12_laysWay 41 = .ok (.iaload, 1) := by decide +kernel
theorem dX12_laysWay_42 : decode cX12_laysWay 42 = .ok (.iastore, 1) := by decide +kernel
theorem dX12_laysWay_43 : decode cX12_laysWay 43 = .ok (.iload_n 2, 1) := by decide +kernel
theorem dX12_laysWay_44 : decode cX12_laysWay 44 = .ok (.iconst 1, 1) := by decide +kernel
theorem dX12_laysWay_45 : decode cX12_laysWay 45 = .ok (.iadd, 1) := by decide +kernel
theorem dX12_laysWay_46 : decode cX12_laysWay 46 = .ok (.istore_n 2, 1) := by decide +kernel
theorem dX12_laysWay_47 : decode cX12_laysWay 47 = .ok (.goto 130, 3) := by decide +kernel
theorem dX12_laysWay_50 : decode cX12_laysWay 50 = .ok (.aload_n 0, 1) := by decide +kernel
theorem dX12_laysWay_51 : decode cX12_laysWay 51 = .ok (.getfield 65, 3) := by decide +kernel
theorem dX12_laysWay_54 : decode cX12_laysWay 54 = .ok (.iload_n 3, 1) := by decide +kernel
theorem dX12_laysWay_55 : decode cX12_laysWay 55 = .ok (.iaload, 1) := by decide +kernel
theorem dX12_laysWay_56 : decode cX12_laysWay 56 = .ok (.bipush 6, 2) := by decide +kernel
theorem dX12_laysWay_58 : decode cX12_laysWay 58 = .ok (.if_icmp .ne 51, 3) := by decide +kernel
theorem dX12_laysWay_61 : decode cX12_laysWay 61 = .ok (.aload_n 0, 1) := by decide +kernel
theorem dX12_laysWay_62 : decode cX12_laysWay 62 = .ok (.getfield 80, 3) := by decide +kernel
theorem dX12_laysWay_65 : decode cX12_laysWay 65 = .ok (.iload_n 2, 1) := by decide +kernel
theorem dX12_laysWay_66 : decode cX12_laysWay 66 = .ok (.iconst 1, 1) := by decide +kernel
theorem dX12_laysWay_67 : decode cX12_laysWay 67 = .ok (.isub, 1) := by decide +kernel
theorem dX12_laysWay_68 : decode cX12_laysWay 68 = .ok (.aload_n 0, 1) := by decide +kernel
theorem dX12_laysWay_69 : decode cX12_laysWay 69 = .ok (.getfield 80, 3) := by decide +kernel
theorem dX12_laysWay_72 : decode cX12_laysWay 72 = .ok (.iload_n 2, 1) := by decide +kernel
theorem dX12_laysWay_73 : decode cX12_laysWay 73 = .ok (.iconst 1, 1) := by decide +kernel
theorem dX12_laysWay_74 : decode cX12_laysWay 74 = .ok (.isub, 1) := by decide +kernel
theorem dX12_laysWay_75 : decode cX12_laysWay 75 = .ok (.iaload, 1) := by decide +kernel
theorem dX12_laysWay_76 : decode cX12_laysWay 76 = .ok (.iconst 1, 1) := by decide +kernel
theorem dX12_laysWay_77 : decode cX12_laysWay 77 = .ok (.isub, 1) := by decide +kernel
theorem dX12_laysWay_78 : decode cX12_laysWay 78 = .ok (.iastore, 1) := by decide +kernel
theorem dX12_laysWay_79 : decode cX12_laysWay 79 = .ok (.aload_n 0, 1) := by decide +kernel
theorem dX12_laysWay_80 : decode cX12_laysWay 80 = .ok (.getfield 80, 3) := by decide +kernel
theorem dX12_laysWay_83 : decode cX12_laysWay 83 = .ok (.iload_n 2, 1) := by decide +kernel
theorem dX12_laysWay_84 : decode cX12_laysWay 84 = .ok (.iconst 1, 1) := by decide +kernel
theorem dX12_laysWay_85 : decode cX12_laysWay 85 = .ok (.isub, 1) := by decide +kernel
theorem dX12_laysWay_86 : decode cX12_laysWay 86 = .ok (.iaload, 1) := by decide +kernel
theorem dX12_laysWay_87 : decode cX12_laysWay 87 = .ok (.ifCond .le 15, 3) := by decide +kernel
theorem dX12_laysWay_90 : decode cX12_laysWay 90 = .ok (.aload_n 0, 1) := by decide +kernel
theorem dX12_laysWay_91 : decode cX12_laysWay 91 = .ok (.getfield 77, 3) := by decide +kernel
theorem dX12_laysWay_94 : decode cX12_laysWay 94 = .ok (.iload_n 2, 1) := by decide +kernel
theorem dX12_laysWay_95 : decode cX12_laysWay 95 = .ok (.iconst 1, 1) := by decide +kernel
theorem dX12_laysWay_96 : decode cX12_laysWay 96 = .ok (.isub, 1) := by decide +kernel
theorem dX12_laysWay_97 : decode cX12_laysWay 97 = .ok (.iaload, 1) := by decide +kernel
theorem dX12_laysWay_98 : decode cX12_laysWay 98 = .ok (.istore_n 3, 1) := by decide +kernel
theorem dX12_laysWay_99 : decode cX12_laysWay 99 = .ok (.goto 78, 3) := by decide +kernel
theorem dX12_laysWay_102 : decode cX12_laysWay 102 = .ok (.iload_n 2, 1) := by decide +kernel
theorem dX12_laysWay_103 : decode cX12_laysWay 103 = .ok (.iconst 1, 1) := by decide +kernel
theorem dX12_laysWay_104 : decode cX12_laysWay 104 = .ok (.isub, 1) := by decide +kernel
theorem dX12_laysWay_105 : decode cX12_laysWay 105 = .ok (.istore_n 2, 1) := by decide +kernel
theorem dX12_laysWay_106 : decode cX12_laysWay 106 = .ok (.goto 71, 3) := by decide +kernel
theorem dX12_laysWay_109 : decode cX12_laysWay 109 = .ok (.iload_n 1, 1) := by decide +kernel
theorem dX12_laysWay_110 : decode cX12_laysWay 110 = .ok (.aload_n 0, 1) := by decide +kernel
theorem dX12_laysWay_111 : decode cX12_laysWay 111 = .ok (.getfield 68, 3) := by decide +kernel
theorem dX12_laysWay_114 : decode cX12_laysWay 114 = .ok (.iload_n 3, 1) := by decide +kernel
theorem dX12_laysWay_115 : decode cX12_laysWay 115 = .ok (.iaload, 1) := by decide +kernel
theorem dX12_laysWay_116 : decode cX12_laysWay 116 = .ok (.iadd, 1) := by decide +kernel
theorem dX12_laysWay_117 : decode cX12_laysWay 117 = .ok (.sipush 600, 3) := by decide +kernel
theorem dX12_laysWay_120 : decode cX12_laysWay 120 = .ok (.if_icmp .le 9, 3) := by decide +kernel
theorem dX12_laysWay_123 : decode cX12_laysWay 123 = .ok (.aload_n 0, 1) := by decide +kernel
theorem dX12_laysWay_124 : decode cX12_laysWay 124 = .ok (.iconst 4, 1) := by decide +kernel
theorem dX12_laysWay_125 : decode cX12_laysWay 125 = .ok (.invokevirtual 222, 3) := by decide +kernel
theorem dX12_laysWay_128 : decode cX12_laysWay 128 = .ok (.ireturn, 1) := by decide +kernel
theorem dX12_laysWay_129 : decode cX12_laysWay 129 = .ok (.iconst 0, 1) := by decide +kernel
theorem dX12_laysWay_130 : decode cX12_laysWay 130 = .ok (.istore 4, 2) := by decide +kernel
theorem dX12_laysWay_132 : decode cX12_laysWay 132 = .ok (.iload 4, 2) := by decide +kernel
theorem dX12_laysWay_134 : decode cX12_laysWay 134 = .ok (.aload_n 0, 1) := by decide +kernel
theorem dX12_laysWay_135 : decode cX12_laysWay 135 = .ok (.getfield 68, 3) := by decide +kernel
theorem dX12_laysWay_138 : decode cX12_laysWay 138 = .ok (.iload_n 3, 1) := by decide +kernel
theorem dX12_laysWay_139 : decode cX12_laysWay 139 = .ok (.iaload, 1) := by decide +kernel
theorem dX12_laysWay_140 : decode cX12_laysWay 140 = .ok (.if_icmp .ge 28, 3) := by decide +kernel
theorem dX12_laysWay_143 : decode cX12_laysWay 143 = .ok (.aload_n 0, 1) := by decide +kernel
theorem dX12_laysWay_144 : decode cX12_laysWay 144 = .ok (.getfield 71, 3) := by decide +kernel
theorem dX12_laysWay_147 : decode cX12_laysWay 147 = .ok (.sipush 4800, 3) := by decide +kernel
theorem dX12_laysWay_150 : decode cX12_laysWay 150 = .ok (.iload_n 1, 1) := by decide +kernel
theorem dX12_laysWay_151 : decode cX12_laysWay 151 = .ok (.iadd, 1) := by decide +kernel
theorem dX12_laysWay_152 : decode cX12_laysWay 152 = .ok (.iload 4, 2) := by decide +kernel
theorem dX12_laysWay_154 : decode cX12_laysWay 154 = .ok (.iadd, 1) := by decide +kernel
theorem dX12_laysWay_155 : decode cX12_laysWay 155 = .ok (.aload_n 0, 1) := by decide +kernel
theorem dX12_laysWay_156 : decode cX12_laysWay 156 = .ok (.getfield 65, 3) := by decide +kernel
theorem dX12_laysWay_159 : decode cX12_laysWay 159 = .ok (.iload_n 3, 1) := by decide +kernel
theorem dX12_laysWay_160 : decode cX12_laysWay 160 = .ok (.iaload, 1) := by decide +kernel
theorem dX12_laysWay_161 : decode cX12_laysWay 161 = .ok (.iastore, 1) := by decide +kernel
theorem dX12_laysWay_162 : decode cX12_laysWay 162 = .ok (.iinc 4 1, 3) := by decide +kernel
theorem dX12_laysWay_165 : decode cX12_laysWay 165 = .ok (.goto (-33), 3) := by decide +kernel
theorem dX12_laysWay_168 : decode cX12_laysWay 168 = .ok (.iload_n 1, 1) := by decide +kernel
theorem dX12_laysWay_169 : decode cX12_laysWay 169 = .ok (.aload_n 0, 1) := by decide +kernel
theorem dX12_laysWay_170 : decode cX12_laysWay 170 = .ok (.getfield 68, 3) := by decide +kernel
theorem dX12_laysWay_173 : decode cX12_laysWay 173 = .ok (.iload_n 3, 1) := by decide +kernel
theorem dX12_laysWay_174 : decode cX12_laysWay 174 = .ok (.iaload, 1) := by decide +kernel
theorem dX12_laysWay_175 : decode cX12_laysWay 175 = .ok (.iadd, 1) := by decide +kernel
theorem dX12_laysWay_176 : decode cX12_laysWay 176 = .ok (.istore_n 1, 1) := by decide +kernel
theorem dX12_laysWay_177 : decode cX12_laysWay 177 = .ok (.iinc 3 1, 3) := by decide +kernel
theorem dX12_laysWay_180 : decode cX12_laysWay 180 = .ok (.goto (-174), 3) := by decide +kernel
theorem dX12_laysWay_183 : decode cX12_laysWay 183 = .ok (.iload_n 1, 1) := by decide +kernel
theorem dX12_laysWay_184 : decode cX12_laysWay 184 = .ok (.ireturn, 1) := by decide +kernel
theorem wp_X12_laysWay_0 {d : Nat} {s : ev_S} {Q : Option ev_V → ev_S → Prop}
    (h : Ev layM M_X12_laysWay (d + 1) 6 [(0, ev_r 0), (1, ev_i 0), (2, ev_i 0), (3, ev_i 0)] [] s Q) :
    Ev layM M_X12_laysWay (d + 1) 0 [(0, ev_r 0)] [] s Q := by
  refine Ev_iconst dX12_laysWay_0 rfl (ev_Rc rfl) ?_
  refine Ev_istore_n (l' := [(1, ev_i 0), (0, ev_r 0)]) dX12_laysWay_1 rfl (Nat.le_of_ble_eq_true rfl) rfl ?_
  refine Ev_iconst dX12_laysWay_2 rfl (ev_Rc rfl) ?_
  refine Ev_istore_n (l' := [(2, ev_i 0), (1, ev_i 0), (0, ev_r 0)]) dX12_laysWay_3 rfl (Nat.le_of_ble_eq_true rfl) rfl ?_
  refine Ev_iconst dX12_laysWay_4 rfl (ev_Rc rfl) ?_
  refine Ev_istore_n (l' := [(3, ev_i 0), (2, ev_i 0), (1, ev_i 0), (0, ev_r 0)]) dX12_laysWay_5 rfl (Nat.le_of_ble_eq_true rfl) rfl ?_
  exact Ev_sub [3, 2, 1, 0] rfl h
theorem wp_X12_laysWay_6 {d : Nat} {s : ev_S} {Q : Option ev_V → ev_S → Prop} {a1 a2 a3 : Int}
    (h : (((s 0 41) ≤ a3 → Q (some (ev_i a1)) s) ∧ (a3 < (s 0 41) → ((0 ≤ a3 ∧ a3 < (100 : Nat)) ∧ (((s 18 (Int.toNat a3)) ≠ 5 → ((0 ≤ a3 ∧ a3 < (100 : Nat)) ∧ (((s 18 (Int.toNat a3)) ≠ 6 → ((0 ≤ a3 ∧ a3 < (100 : Nat)) ∧ (((ev_add a1 (s 19 (Int.toNat a3))) ≤ 600 → Ev layM M_X12_laysWay (d + 1) 132 [(0, ev_r 0), (1, ev_i a1), (2, ev_i a2), (3, ev_i a3), (4, ev_i 0)] [] s Q) ∧ (600 < (ev_add a1 (s 19 (Int.toNat a3))) → (Ev layM M_X12_errs d 0 [(0, ev_r 0), (1, ev_i 4)] [] s (ev_pi (fun r2 s1 => Q (some (ev_i r2)) s1))))))) ∧ ((s 18 (Int.toNat a3)) = 6 → ((0 ≤ (ev_sub a2 1) ∧ (ev_sub a2 1) < (4 : Nat)) ∧ ((0 ≤ (ev_sub a2 1) ∧ (ev_sub a2 1) < (4 : Nat)) ∧ ∀ s3, ev_up s 23 (Int.toNat (ev_sub a2 1)) (ev_sub (s 23 (Int.toNat (ev_sub a2 1))) 1) = s3 → ((0 ≤ (ev_sub a2 1) ∧ (ev_sub a2 1) < (4 : Nat)) ∧ (((s3 23 (Int.toNat (ev_sub a2 1))) ≤ 0 → Ev layM M_X12_laysWay (d + 1) 6 [(0, ev_r 0), (1, ev_i a1), (2, ev_i (ev_sub a2 1)), (3, ev_i (ev_add a3 1))] [] s3 Q) ∧ (0 < (s3 23 (Int.toNat (ev_sub a2 1))) → ((0 ≤ (ev_sub a2 1) ∧ (ev_sub a2 1) < (4 : Nat)) ∧ Ev layM M_X12_laysWay (d + 1) 6 [(0, ev_r 0), (1, ev_i a1), (2, ev_i a2), (3, ev_i (ev_add (s3 22 (Int.toNat (ev_sub a2 1))) 1))] [] s3 Q)))))))))) ∧ ((s 18 (Int.toNat a3)) = 5 → ((0 ≤ a2 ∧ a2 < (4 : Nat)) ∧ ∀ s4, ev_up s 22 (Int.toNat a2) a3 = s4 → ((0 ≤ a3 ∧ a3 < (100 : Nat)) ∧ ((0 ≤ a2 ∧ a2 < (4 : Nat)) ∧ ∀ s5, ev_up s4 23 (Int.toNat a2) (s4 19 (Int.toNat a3)) = s5 → Ev layM M_X12_laysWay (d + 1) 6 [(0, ev_r 0), (1, ev_i a1), (2, ev_i (ev_add a2 1)), (3, ev_i (ev_add a3 1))] [] s5 Q))))))))) :
    Ev layM M_X12_laysWay (d + 1) 6 [(0, ev_r 0), (1, ev_i a1), (2, ev_i a2), (3, ev_i a3)] [] s Q := by
  refine Ev_iload_n 3 dX12_laysWay_6 rfl rfl ?_
  refine Ev_aload_n 0 dX12_laysWay_7 rfl rfl ?_
  refine Ev_get (i := 41) cl_X12 yM_0 (Nat.le_of_ble_eq_true rfl) rfl wd_1485 dX12_laysWay_8 ?_
  refine Ev_icmp_ge (tgt := 183) dX12_laysWay_11 rfl (fun c => ?_) (fun c => ?_)
  · replace h := h.1 c
    refine Ev_iload_n 1 dX12_laysWay_183 rfl rfl ?_
    exact Ev_iret rfl dX12_laysWay_184 rfl h
  · replace h := h.2 c
    refine Ev_aload_n 0 dX12_laysWay_14 rfl rfl ?_
    refine Ev_getR (i := 39) cl_X12 yM_0 (Nat.le_of_ble_eq_true rfl) rfl wd_1483 dX12_laysWay_15 ?_
    refine Ev_iload_n 3 dX12_laysWay_18 rfl rfl ?_
    obtain ⟨h0, h⟩ := h
    refine Ev_iald yM_18 h0 dX12_laysWay_19 ?_
    refine Ev_iconst dX12_laysWay_20 rfl (ev_Rc rfl) ?_
    refine Ev_icmp_ne (tgt := 50) dX12_laysWay_21 rfl (fun c => ?_) (fun c => ?_)
    · replace h := h.1 c
      refine Ev_aload_n 0 dX12_laysWay_50 rfl rfl ?_
      refine Ev_getR (i := 39) cl_X12 yM_0 (Nat.le_of_ble_eq_true rfl) rfl wd_1483 dX12_laysWay_51 ?_
      refine Ev_iload_n 3 dX12_laysWay_54 rfl rfl ?_
      obtain ⟨h0, h⟩ := h
      refine Ev_iald yM_18 h0 dX12_laysWay_55 ?_
      refine Ev_bipushC dX12_laysWay_56 rfl ?_
      refine Ev_icmp_ne (tgt := 109) dX12_laysWay_58 rfl (fun c => ?_) (fun c => ?_)
      · replace h := h.1 c
        refine Ev_iload_n 1 dX12_laysWay_109 rfl rfl ?_
        refine Ev_aload_n 0 dX12_laysWay_110 rfl rfl ?_
        refine Ev_getR (i := 40) cl_X12 yM_0 (Nat.le_of_ble_eq_true rfl) rfl wd_1484 dX12_laysWay_111 ?_
        refine Ev_iload_n 3 dX12_laysWay_114 rfl rfl ?_
        obtain ⟨h0, h⟩ := h
        refine Ev_iald yM_19 h0 dX12_laysWay_115 ?_
        refine Ev_iadd dX12_laysWay_116 ?_
        refine Ev_sipushC dX12_laysWay_117 rfl ?_
        refine Ev_icmp_le (tgt := 129) dX12_laysWay_120 rfl (fun c => ?_) (fun c => ?_)
        · replace h := h.1 c
          refine Ev_iconst dX12_laysWay_129 rfl (ev_Rc rfl) ?_
          refine Ev_istore (l' := [(4, ev_i 0), (0, ev_r 0), (1, ev_i a1), (2, ev_i a2), (3, ev_i a3)]) dX12_laysWay_130 (Nat.le_of_ble_eq_true rfl) rfl ?_
          exact Ev_sub [1, 2, 3, 4, 0] rfl h
        · replace h := h.2 c
          refine Ev_aload_n 0 dX12_laysWay_123 rfl rfl ?_
          refine Ev_iconst dX12_laysWay_124 rfl (ev_Rc rfl) ?_
          refine Ev_callV (As := [ev_i 4]) (b := 0) (st := []) (M' := M_X12_errs) cm_X12_errs wd_1758 wd_1760 wd_90 yM_0 cl_X12 rfl dX12_laysWay_125 (Nat.le_refl _) rfl (Nat.le_of_ble_eq_true rfl) (Nat.le_of_ble_eq_true rfl) h (fun v u h hk => ?_)
          obtain ⟨r2, rfl⟩ := hk
          obtain ⟨s1, rfl⟩ : ∃ x, x = u := ⟨_, rfl⟩
          replace h := h r2 rfl
          exact Ev_iret rfl dX12_laysWay_128 rfl h
      · replace h := h.2 c
        refine Ev_aload_n 0 dX12_laysWay_61 rfl rfl ?_
        refine Ev_getR (i := 45) cl_X12 yM_0 (Nat.le_of_ble_eq_true rfl) rfl wd_1489 dX12_laysWay_62 ?_
        refine Ev_iload_n 2 dX12_laysWay_65 rfl rfl ?_
        refine Ev_iconst dX12_laysWay_66 rfl (ev_Rc rfl) ?_
        refine Ev_isub dX12_laysWay_67 ?_
        refine Ev_aload_n 0 dX12_laysWay_68 rfl rfl ?_
        refine Ev_getR (i := 45) cl_X12 yM_0 (Nat.le_of_ble_eq_true rfl) rfl wd_1489 dX12_laysWay_69 ?_
        refine Ev_iload_n 2 dX12_laysWay_72 rfl rfl ?_
        refine Ev_iconst dX12_laysWay_73 rfl (ev_Rc rfl) ?_
        refine Ev_isub dX12_laysWay_74 ?_
        obtain ⟨h0, h⟩ := h
        refine Ev_iald yM_23 h0 dX12_laysWay_75 ?_
        refine Ev_iconst dX12_laysWay_76 rfl (ev_Rc rfl) ?_
        refine Ev_isub dX12_laysWay_77 ?_
        obtain ⟨h0, h⟩ := h
        refine Ev_iast yM_23 h0 dX12_laysWay_78 (Ev_nm (fun s3 es3 => ?_))
        replace h := h s3 es3
        refine Ev_aload_n 0 dX12_laysWay_79 rfl rfl ?_
        refine Ev_getR (i := 45) cl_X12 yM_0 (Nat.le_of_ble_eq_true rfl) rfl wd_1489 dX12_laysWay_80 ?_
        refine Ev_iload_n 2 dX12_laysWay_83 rfl rfl ?_
        refine Ev_iconst dX12_laysWay_84 rfl (ev_Rc rfl) ?_
        refine Ev_isub dX12_laysWay_85 ?_
        obtain ⟨h0, h⟩ := h
        refine Ev_iald yM_23 h0 dX12_laysWay_86 ?_
        refine Ev_if_le (tgt := 102) dX12_laysWay_87 rfl (fun c => ?_) (fun c => ?_)
        · replace h := h.1 c
          refine Ev_iload_n 2 dX12_laysWay_102 rfl rfl ?_
          refine Ev_iconst dX12_laysWay_103 rfl (ev_Rc rfl) ?_
          refine Ev_isub dX12_laysWay_104 ?_
          refine Ev_istore_n (l' := [(2, ev_i (ev_sub a2 1)), (0, ev_r 0), (1, ev_i a1), (3, ev_i a3)]) dX12_laysWay_105 rfl (Nat.le_of_ble_eq_true rfl) rfl ?_
          refine Ev_goto (tgt := 177) dX12_laysWay_106 rfl ?_
          refine Ev_iinc (j := 3) (l' := [(3, ev_i (ev_add a3 1)), (2, ev_i (ev_sub a2 1)), (0, ev_r 0), (1, ev_i a1)]) dX12_laysWay_177 rfl (Nat.le_of_ble_eq_true rfl) rfl ?_
          refine Ev_goto (tgt := 6) dX12_laysWay_180 rfl ?_
          exact Ev_sub [2, 3, 1, 0] rfl h
        · replace h := h.2 c
          refine Ev_aload_n 0 dX12_laysWay_90 rfl rfl ?_
          refine Ev_getR (i := 44) cl_X12 yM_0 (Nat.le_of_ble_eq_true rfl) rfl wd_1488 dX12_laysWay_91 ?_
          refine Ev_iload_n 2 dX12_laysWay_94 rfl rfl ?_
          refine Ev_iconst dX12_laysWay_95 rfl (ev_Rc rfl) ?_
          refine Ev_isub dX12_laysWay_96 ?_
          obtain ⟨h0, h⟩ := h
          refine Ev_iald yM_22 h0 dX12_laysWay_97 ?_
          refine Ev_istore_n (l' := [(3, ev_i (s3 22 (Int.toNat (ev_sub a2 1)))), (0, ev_r 0), (1, ev_i a1), (2, ev_i a2)]) dX12_laysWay_98 rfl (Nat.le_of_ble_eq_true rfl) rfl ?_
          refine Ev_goto (tgt := 177) dX12_laysWay_99 rfl ?_
          refine Ev_iinc (j := 0) (l' := [(3, ev_i (ev_add (s3 22 (Int.toNat (ev_sub a2 1))) 1)), (0, ev_r 0), (1, ev_i a1), (2, ev_i a2)]) dX12_laysWay_177 rfl (Nat.le_of_ble_eq_true rfl) rfl ?_
          refine Ev_goto (tgt := 6) dX12_laysWay_180 rfl ?_
          exact Ev_sub [1, 2, 3, 0] rfl h
    · replace h := h.2 c
      refine Ev_aload_n 0 dX12_laysWay_24 rfl rfl ?_
      refine Ev_getR (i := 44) cl_X12 yM_0 (Nat.le_of_ble_eq_true rfl) rfl wd_1488 dX12_laysWay_25 ?_
      refine Ev_iload_n 2 dX12_laysWay_28 rfl rfl ?_
      refine Ev_iload_n 3 dX12_laysWay_29 rfl rfl ?_
      obtain ⟨h0, h⟩ := h
      refine Ev_iast yM_22 h0 dX12_laysWay_30 (Ev_nm (fun s4 es4 => ?_))
      replace h := h s4 es4
      refine Ev_aload_n 0 dX12_laysWay_31 rfl rfl ?_
      refine Ev_getR (i := 45) cl_X12 yM_0 (Nat.le_of_ble_eq_true rfl) rfl wd_1489 dX12_laysWay_32 ?_
      refine Ev_iload_n 2 dX12_laysWay_35 rfl rfl ?_
      refine Ev_aload_n 0 dX12_laysWay_36 rfl rfl ?_
      refine Ev_getR (i := 40) cl_X12 yM_0 (Nat.le_of_ble_eq_true rfl) rfl wd_1484 dX12_laysWay_37 ?_
      refine Ev_iload_n 3 dX12_laysWay_40 rfl rfl ?_
      obtain ⟨h0, h⟩ := h
      refine Ev_iald yM_19 h0 dX12_laysWay_41 ?_
      obtain ⟨h0, h⟩ := h
      refine Ev_iast yM_23 h0 dX12_laysWay_42 (Ev_nm (fun s5 es5 => ?_))
      replace h := h s5 es5
      refine Ev_iload_n 2 dX12_laysWay_43 rfl rfl ?_
      refine Ev_iconst dX12_laysWay_44 rfl (ev_Rc rfl) ?_
      refine Ev_iadd dX12_laysWay_45 ?_
      refine Ev_istore_n (l' := [(2, ev_i (ev_add a2 1)), (0, ev_r 0), (1, ev_i a1), (3, ev_i a3)]) dX12_laysWay_46 rfl (Nat.le_of_ble_eq_true rfl) rfl ?_
      refine Ev_goto (tgt := 177) dX12_laysWay_47 rfl ?_
      refine Ev_iinc (j := 3) (l' := [(3, ev_i (ev_add a3 1)), (2, ev_i (ev_add a2 1)), (0, ev_r 0), (1, ev_i a1)]) dX12_laysWay_177 rfl (Nat.le_of_ble_eq_true rfl) rfl ?_
      refine Ev_goto (tgt := 6) dX12_laysWay_180 rfl ?_
      exact Ev_sub [2, 3, 1, 0] rfl h
theorem wp_X12_laysWay_132 {d : Nat} {s : ev_S} {Q : Option ev_V → ev_S → Prop} {a1 a2 a3 a4 : Int}
    (h : ((0 ≤ a3 ∧ a3 < (100 : Nat)) ∧ (((s 19 (Int.toNat a3)) ≤ a4 → ((0 ≤ a3 ∧ a3 < (100 : Nat)) ∧ Ev layM M_X12_laysWay (d + 1) 6 [(0, ev_r 0), (1, ev_i (ev_add a1 (s 19 (Int.toNat a3)))), (2, ev_i a2), (3, ev_i (ev_add a3 1))] [] s Q)) ∧ (a4 < (s 19 (Int.toNat a3)) → ((0 ≤ a3 ∧ a3 < (100 : Nat)) ∧ ((0 ≤ (ev_add (ev_add 4800 a1) a4) ∧ (ev_add (ev_add 4800 a1) a4) < (5400 : Nat)) ∧ ∀ s1, ev_up s 20 (Int.toNat (ev_add (ev_add 4800 a1) a4)) (s 18 (Int.toNat a3)) = s1 → Ev layM M_X12_laysWay (d + 1) 132 [(0, ev_r 0), (1, ev_i a1), (2, ev_i a2), (3, ev_i a3), (4, ev_i (ev_add a4 1))] [] s1 Q)))))) :
    Ev layM M_X12_laysWay (d + 1) 132 [(0, ev_r 0), (1, ev_i a1), (2, ev_i a2), (3, ev_i a3), (4, ev_i a4)] [] s Q := by
  refine Ev_iload 4 dX12_laysWay_132 rfl ?_
  refine Ev_aload_n 0 dX12_laysWay_134 rfl rfl ?_
  refine Ev_getR (i := 40) cl_X12 yM_0 (Nat.le_of_ble_eq_true rfl) rfl wd_1484 dX12_laysWay_135 ?_
  refine Ev_iload_n 3 dX12_laysWay_138 rfl rfl ?_
  obtain ⟨h0, h⟩ := h
  refine Ev_iald yM_19 h0 dX12_laysWay_139 ?_
  refine Ev_icmp_ge (tgt := 168) dX12_laysWay_140 rfl (fun c => ?_) (fun c => ?_)
  · replace h := h.1 c
    refine Ev_iload_n 1 dX12_laysWay_168 rfl rfl ?_
    refine Ev_aload_n 0 dX12_laysWay_169 rfl rfl ?_
    refine Ev_getR (i := 40) cl_X12 yM_0 (Nat.le_of_ble_eq_true rfl) rfl wd_1484 dX12_laysWay_170 ?_
    refine Ev_iload_n 3 dX12_laysWay_173 rfl rfl ?_
    obtain ⟨h0, h⟩ := h
    refine Ev_iald yM_19 h0 dX12_laysWay_174 ?_
    refine Ev_iadd dX12_laysWay_175 ?_
    refine Ev_istore_n (l' := [(1, ev_i (ev_add a1 (s 19 (Int.toNat a3)))), (0, ev_r 0), (2, ev_i a2), (3, ev_i a3), (4, ev_i a4)]) dX12_laysWay_176 rfl (Nat.le_of_ble_eq_true rfl) rfl ?_
    refine Ev_iinc (j := 3) (l' := [(3, ev_i (ev_add a3 1)), (1, ev_i (ev_add a1 (s 19 (Int.toNat a3)))), (0, ev_r 0), (2, ev_i a2), (4, ev_i a4)]) dX12_laysWay_177 rfl (Nat.le_of_ble_eq_true rfl) rfl ?_
    refine Ev_goto (tgt := 6) dX12_laysWay_180 rfl ?_
    exact Ev_sub [2, 1, 3, 0] rfl h
  · replace h := h.2 c
    refine Ev_aload_n 0 dX12_laysWay_143 rfl rfl ?_
    refine Ev_getR (i := 42) cl_X12 yM_0 (Nat.le_of_ble_eq_true rfl) rfl wd_1486 dX12_laysWay_144 ?_
    refine Ev_sipushC dX12_laysWay_147 rfl ?_
    refine Ev_iload_n 1 dX12_laysWay_150 rfl rfl ?_
    refine Ev_iadd dX12_laysWay_151 ?_
    refine Ev_iload 4 dX12_laysWay_152 rfl ?_
    refine Ev_iadd dX12_laysWay_154 ?_
    refine Ev_aload_n 0 dX12_laysWay_155 rfl rfl ?_
    refine Ev_getR (i := 39) cl_X12 yM_0 (Nat.le_of_ble_eq_true rfl) rfl wd_1483 dX12_laysWay_156 ?_
    refine Ev_iload_n 3 dX12_laysWay_159 rfl rfl ?_
    obtain ⟨h0, h⟩ := h
    refine Ev_iald yM_18 h0 dX12_laysWay_160 ?_
    obtain ⟨h0, h⟩ := h
    refine Ev_iast yM_20 h0 dX12_laysWay_161 (Ev_nm (fun s1 es1 => ?_))
    replace h := h s1 es1
    refine Ev_iinc (j := 4) (l' := [(4, ev_i (ev_add a4 1)), (0, ev_r 0), (1, ev_i a1), (2, ev_i a2), (3, ev_i a3)]) dX12_laysWay_162 rfl (Nat.le_of_ble_eq_true rfl) rfl ?_
    refine Ev_goto (tgt := 132) dX12_laysWay_165 rfl ?_
    exact Ev_sub [1, 2, 3, 4, 0] rfl h
theorem dX12_readWay_0 : decode cX12_readWay 0 = .ok (.aload_n 0, 1) := by decide +kernel
theorem dX12_readWay_1 : decode cX12_readWay 1 = .ok (.invokevirtual 291, 3) := by decide +kernel
theorem dX12_readWay_4 : decode cX12_readWay 4 = .ok (.iconst (-1), 1) := by decide +kernel
theorem dX12_readWay_5 : decode cX12_readWay 5 = .ok (.if_icmp .ne 7, 3) := by decide +kernel
theorem dX12_readWay_8 : decode cX12_readWay 8 = .ok (.iconst (-1), 1) := by decide +kernel
theorem dX12_readWay_9 : decode cX12_readWay 9 = .ok (.goto 7, 3) := by decide +kernel
theorem dX12_readWay_12 : decode cX12_readWay 12 = .ok (.aload_n 0, 1) := by decide +kernel
theorem dX12_readWay_13 : decode cX12_readWay 13 = .ok (.invokevirtual 294, 3) := by decide +kernel
theorem dX12_readWay_16 : decode cX12_readWay 16 = .ok (.ireturn, 1) := by decide +kernel
theorem wp_X12_readWay_0 {d : Nat} {s : ev_S} {Q : Option ev_V → ev_S → Prop}
    (h : (Ev layM M_X12_readSteps d 0 [(0, ev_r 0)] [] s (ev_pi (fun r2 s1 => ((r2 ≠ (-1) → (Ev layM M_X12_laysWay d 0 [(0, ev_r 0)] [] s1 (ev_pi (fun r4 s3 => Q (some (ev_i r4)) s3)))) ∧ (r2 = (-1) → Q (some (ev_i (-1))) s1)))))) :
    Ev layM M_X12_readWay (d + 1) 0 [(0, ev_r 0)] [] s Q := by
  refine Ev_aload_n 0 dX12_readWay_0 rfl rfl ?_
  refine Ev_callV (As := []) (b := 0) (st := []) (M' := M_X12_readSteps) cm_X12_readSteps wd_1734 wd_1736 wd_84 yM_0 cl_X12 rfl dX12_readWay_1 (Nat.le_refl _) rfl (Nat.le_of_ble_eq_true rfl) (Nat.le_of_ble_eq_true rfl) h (fun v u h hk => ?_)
  obtain ⟨r2, rfl⟩ := hk
  obtain ⟨s1, rfl⟩ : ∃ x, x = u := ⟨_, rfl⟩
  replace h := h r2 rfl
  refine Ev_iconst dX12_readWay_4 rfl (ev_Rc rfl) ?_
  refine Ev_icmp_ne (tgt := 12) dX12_readWay_5 rfl (fun c => ?_) (fun c => ?_)
  · replace h := h.1 c
    refine Ev_aload_n 0 dX12_readWay_12 rfl rfl ?_
    refine Ev_callV (As := []) (b := 0) (st := []) (M' := M_X12_laysWay) cm_X12_laysWay wd_1778 wd_1780 wd_95 yM_0 cl_X12 rfl dX12_readWay_13 (Nat.le_refl _) rfl (Nat.le_of_ble_eq_true rfl) (Nat.le_of_ble_eq_true rfl) h (fun v u h hk => ?_)
    obtain ⟨r4, rfl⟩ := hk
    obtain ⟨s3, rfl⟩ : ∃ x, x = u := ⟨_, rfl⟩
    replace h := h r4 rfl
    exact Ev_iret rfl dX12_readWay_16 rfl h
  · replace h := h.2 c
    refine Ev_iconst dX12_readWay_8 rfl (ev_Rc rfl) ?_
    refine Ev_goto (tgt := 16) dX12_readWay_9 rfl ?_
    exact Ev_iret rfl dX12_readWay_16 rfl h
theorem dX12_takesWay_0 : decode cX12_takesWay 0 = .ok (.iconst 0, 1) := by decide +kernel
theorem dX12_takesWay_1 : decode cX12_takesWay 1 = .ok (.istore_n 3, 1) := by decide +kernel
theorem dX12_takesWay_2 : decode cX12_takesWay 2 = .ok (.iload_n 3, 1) := by decide +kernel
theorem dX12_takesWay_3 : decode cX12_takesWay 3 = .ok (.iload_n 2, 1) := by decide +kernel
theorem dX12_takesWay_4 : decode cX12_takesWay 4 = .ok (.if_icmp .ge 31, 3) := by decide +kernel
theorem dX12_takesWay_7 : decode cX12_takesWay 7 = .ok (.aload_n 0, 1) := by decide +kernel
theorem dX12_takesWay_8 : decode cX12_takesWay 8 = .ok (.getfield 71, 3) := by decide +kernel
theorem dX12_takesWay_11 : decode cX12_takesWay 11 = .ok (.sipush 600, 3) := by decide +kernel
theorem dX12_takesWay_14 : decode cX12_takesWay 14 = .ok (.iload_n 1, 1) := by decide +kernel
theorem dX12_takesWay_15 : decode cX12_takesWay 15 = .ok (.imul, 1) := by decide +kernel
theorem dX12_takesWay_16 : decode cX12_takesWay 16 = .ok (.iload_n 3, 1) := by decide +kernel
theorem dX12_takesWay_17 : decode cX12_takesWay 17 = .ok (.iadd, 1) := by decide +kernel
theorem dX12_takesWay_18 : decode cX12_takesWay 18 = .ok (.aload_n 0, 1) := by decide +kernel
theorem dX12_takesWay_19 : decode cX12_takesWay 19 = .ok (.getfield 71, 3) := by decide +kernel
theorem dX12_takesWay_22 : decode cX12_takesWay 22 = .ok (.sipush 4800, 3) := by decide +kernel
theorem dX12_takesWay_25 : decode cX12_takesWay 25 = .ok (.iload_n 3, 1) := by decide +kernel
theorem dX12_takesWay_26 : decode cX12_takesWay 26 = .ok (.iadd, 1) := by decide +kernel
theorem dX12_takesWay_27 : decode cX12_takesWay 27 = .ok (.iaload, 1) := by decide +kernel
theorem dX12_takesWay_28 : decode cX12_takesWay 28 = .ok (.iastore, 1) := by decide +kernel
theorem dX12_takesWay_29 : decode cX12_takesWay 29 = .ok (.iinc 3 1, 3) := by decide +kernel
theorem dX12_takesWay_32 : decode cX12_takesWay 32 = .ok (.goto (-30), 3) := by decide +kernel
theorem dX12_takesWay_35 : decode cX12_takesWay 35 = .ok (.aload_n 0, 1) := by decide +kernel
theorem dX12_takesWay_36 : decode cX12_takesWay 36 = .ok (.getfield 74, 3) := by decide +kernel
theorem dX12_takesWay_39 : decode cX12_takesWay 39 = .ok (.iload_n 1, 1) := by decide +kernel
theorem dX12_takesWay_40 : decode cX12_takesWay 40 = .ok (.iload_n 2, 1) := by decide +kernel
theorem dX12_takesWay_41 : decode cX12_takesWay 41 = .ok (.iastore, 1) := by decide +kernel
theorem dX12_takesWay_42 : decode cX12_takesWay 42 = .ok (.aload_n 0, 1) := by decide +kernel
theorem dX12_takesWay_43 : decode cX12_takesWay 43 = .ok (.getfield 7, 3) := by decide +kernel
theorem dX12_takesWay_46 : decode cX12_takesWay 46 = .ok (.bipush 19, 2) := by decide +kernel
theorem dX12_takesWay_48 : decode cX12_takesWay 48 = .ok (.iload_n 1, 1) := by decide +kernel
theorem dX12_takesWay_49 : decode cX12_takesWay 49 = .ok (.iadd, 1) := by decide +kernel
theorem dX12_takesWay_50 : decode cX12_takesWay 50 = .ok (.iconst 0, 1) := by decide +kernel
theorem dX12_takesWay_51 : decode cX12_takesWay 51 = .ok (.iastore, 1) := by decide +kernel
theorem dX12_takesWay_52 : decode cX12_takesWay 52 = .ok (.aload_n 0, 1) := by decide +kernel
theorem dX12_takesWay_53 : decode cX12_takesWay 53 = .ok (.getfield 7, 3) := by decide +kernel
theorem dX12_takesWay_56 : decode cX12_takesWay 56 = .ok (.bipush 11, 2) := by decide +kernel
theorem dX12_takesWay_58 : decode cX12_takesWay 58 = .ok (.iload_n 1, 1) := by decide +kernel
theorem dX12_takesWay_59 : decode cX12_takesWay 59 = .ok (.iadd, 1) := by decide +kernel
theorem dX12_takesWay_60 : decode cX12_takesWay 60 = .ok (.iconst 0, 1) := by decide +kernel
theorem dX12_takesWay_61 : decode cX12_takesWay 61 = .ok (.iastore, 1) := by decide +kernel
theorem dX12_takesWay_62 : decode cX12_takesWay 62 = .ok (.return_, 1) := by decide +kernel
theorem wp_X12_takesWay_0 {d : Nat} {s : ev_S} {Q : Option ev_V → ev_S → Prop} {a1 a2 : Int}
    (h : Ev layM M_X12_takesWay d 2 [(0, ev_r 0), (1, ev_i a1), (2, ev_i a2), (3, ev_i 0)] [] s Q) :
    Ev layM M_X12_takesWay d 0 [(0, ev_r 0), (1, ev_i a1), (2, ev_i a2)] [] s Q := by
  refine Ev_iconst dX12_takesWay_0 rfl (ev_Rc rfl) ?_
  refine Ev_istore_n (l' := [(3, ev_i 0), (0, ev_r 0), (1, ev_i a1), (2, ev_i a2)]) dX12_takesWay_1 rfl (Nat.le_of_ble_eq_true rfl) rfl ?_
  exact Ev_sub [1, 2, 3, 0] rfl h
theorem wp_X12_takesWay_2 {d : Nat} {s : ev_S} {Q : Option ev_V → ev_S → Prop} {a1 a2 a3 : Int}
    (h : ((a2 ≤ a3 → ((0 ≤ a1 ∧ a1 < (8 : Nat)) ∧ ∀ s1, ev_up s 21 (Int.toNat a1) a2 = s1 → ((0 ≤ (ev_add 19 a1) ∧ (ev_add 19 a1) < (87 : Nat)) ∧ ∀ s2, ev_up s1 1 (Int.toNat (ev_add 19 a1)) 0 = s2 → ((0 ≤ (ev_add 11 a1) ∧ (ev_add 11 a1) < (87 : Nat)) ∧ ∀ s3, ev_up s2 1 (Int.toNat (ev_add 11 a1)) 0 = s3 → Q none s3)))) ∧ (a3 < a2 → ((0 ≤ (ev_add 4800 a3) ∧ (ev_add 4800 a3) < (5400 : Nat)) ∧ ((0 ≤ (ev_add (ev_mul 600 a1) a3) ∧ (ev_add (ev_mul 600 a1) a3) < (5400 : Nat)) ∧ ∀ s4, ev_up s 20 (Int.toNat (ev_add (ev_mul 600 a1) a3)) (s 20 (Int.toNat (ev_add 4800 a3))) = s4 → Ev layM M_X12_takesWay d 2 [(0, ev_r 0), (1, ev_i a1), (2, ev_i a2), (3, ev_i (ev_add a3 1))] [] s4 Q))))) :
    Ev layM M_X12_takesWay d 2 [(0, ev_r 0), (1, ev_i a1), (2, ev_i a2), (3, ev_i a3)] [] s Q := by
  refine Ev_iload_n 3 dX12_takesWay_2 rfl rfl ?_
  refine Ev_iload_n 2 dX12_takesWay_3 rfl rfl ?_
  refine Ev_icmp_ge (tgt := 35) dX12_takesWay_4 rfl (fun c => ?_) (fun c => ?_)
  · replace h := h.1 c
    refine Ev_aload_n 0 dX12_takesWay_35 rfl rfl ?_
    refine Ev_getR (i := 43) cl_X12 yM_0 (Nat.le_of_ble_eq_true rfl) rfl wd_1487 dX12_takesWay_36 ?_
    refine Ev_iload_n 1 dX12_takesWay_39 rfl rfl ?_
    refine Ev_iload_n 2 dX12_takesWay_40 rfl rfl ?_
    obtain ⟨h0, h⟩ := h
    refine Ev_iast yM_21 h0 dX12_takesWay_41 (Ev_nm (fun s1 es1 => ?_))
    replace h := h s1 es1
    refine Ev_aload_n 0 dX12_takesWay_42 rfl rfl ?_
    refine Ev_getR (i := 1) cl_X12 yM_0 (Nat.le_of_ble_eq_true rfl) rfl wd_1445 dX12_takesWay_43 ?_
    refine Ev_bipushC dX12_takesWay_46 rfl ?_
    refine Ev_iload_n 1 dX12_takesWay_48 rfl rfl ?_
    refine Ev_iadd dX12_takesWay_49 ?_
    refine Ev_iconst dX12_takesWay_50 rfl (ev_Rc rfl) ?_
    obtain ⟨h0, h⟩ := h
    refine Ev_iast yM_1 h0 dX12_takesWay_51 (Ev_nm (fun s2 es2 => ?_))
    replace h := h s2 es2
    refine Ev_aload_n 0 dX12_takesWay_52 rfl rfl ?_
    refine Ev_getR (i := 1) cl_X12 yM_0 (Nat.le_of_ble_eq_true rfl) rfl wd_1445 dX12_takesWay_53 ?_
    refine Ev_bipushC dX12_takesWay_56 rfl ?_
    refine Ev_iload_n 1 dX12_takesWay_58 rfl rfl ?_
    refine Ev_iadd dX12_takesWay_59 ?_
    refine Ev_iconst dX12_takesWay_60 rfl (ev_Rc rfl) ?_
    obtain ⟨h0, h⟩ := h
    refine Ev_iast yM_1 h0 dX12_takesWay_61 (Ev_nm (fun s3 es3 => ?_))
    replace h := h s3 es3
    exact Ev_vret rfl dX12_takesWay_62 h
  · replace h := h.2 c
    refine Ev_aload_n 0 dX12_takesWay_7 rfl rfl ?_
    refine Ev_getR (i := 42) cl_X12 yM_0 (Nat.le_of_ble_eq_true rfl) rfl wd_1486 dX12_takesWay_8 ?_
    refine Ev_sipushC dX12_takesWay_11 rfl ?_
    refine Ev_iload_n 1 dX12_takesWay_14 rfl rfl ?_
    refine Ev_imul dX12_takesWay_15 ?_
    refine Ev_iload_n 3 dX12_takesWay_16 rfl rfl ?_
    refine Ev_iadd dX12_takesWay_17 ?_
    refine Ev_aload_n 0 dX12_takesWay_18 rfl rfl ?_
    refine Ev_getR (i := 42) cl_X12 yM_0 (Nat.le_of_ble_eq_true rfl) rfl wd_1486 dX12_takesWay_19 ?_
    refine Ev_sipushC dX12_takesWay_22 rfl ?_
    refine Ev_iload_n 3 dX12_takesWay_25 rfl rfl ?_
    refine Ev_iadd dX12_takesWay_26 ?_
    obtain ⟨h0, h⟩ := h
    refine Ev_iald yM_20 h0 dX12_takesWay_27 ?_
    obtain ⟨h0, h⟩ := h
    refine Ev_iast yM_20 h0 dX12_takesWay_28 (Ev_nm (fun s4 es4 => ?_))
    replace h := h s4 es4
    refine Ev_iinc (j := 3) (l' := [(3, ev_i (ev_add a3 1)), (0, ev_r 0), (1, ev_i a1), (2, ev_i a2)]) dX12_takesWay_29 rfl (Nat.le_of_ble_eq_true rfl) rfl ?_
    refine Ev_goto (tgt := 2) dX12_takesWay_32 rfl ?_
    exact Ev_sub [1, 2, 3, 0] rfl h
theorem dX12_ofMishap_0 : decode cX12_ofMishap 0 = .ok (.aload_n 0, 1) := by decide +kernel
theorem dX12_ofMishap_1 : decode cX12_ofMishap 1 = .ok (.getfield 83, 3) := by decide +kernel
theorem dX12_ofMishap_4 : decode cX12_ofMishap 4 = .ok (.bipush 7, 2) := by decide +kernel
theorem dX12_ofMishap_6 : decode cX12_ofMishap 6 = .ok (.iload_n 1, 1) := by decide +kernel
theorem dX12_ofMishap_7 : decode cX12_ofMishap 7 = .ok (.imul, 1) := by decide +kernel
theorem dX12_ofMishap_8 : decode cX12_ofMishap 8 = .ok (.iload_n 2, 1) := by decide +kernel
theorem dX12_ofMishap_9 : decode cX12_ofMishap 9 = .ok (.iadd, 1) := by decide +kernel
theorem dX12_ofMishap_10 : decode cX12_ofMishap 10 = .ok (.iaload, 1) := by decide +kernel
theorem dX12_ofMishap_11 : decode cX12_ofMishap 11 = .ok (.ireturn, 1) := by decide +kernel
theorem wp_X12_ofMishap_0 {d : Nat} {s : ev_S} {Q : Option ev_V → ev_S → Prop} {a1 a2 : Int}
    (h : ((0 ≤ (ev_add (ev_mul 7 a1) a2) ∧ (ev_add (ev_mul 7 a1) a2) < (140 : Nat)) ∧ Q (some (ev_i (s 24 (Int.toNat (ev_add (ev_mul 7 a1) a2))))) s)) :
    Ev layM M_X12_ofMishap d 0 [(0, ev_r 0), (1, ev_i a1), (2, ev_i a2)] [] s Q := by
  refine Ev_aload_n 0 dX12_ofMishap_0 rfl rfl ?_
  refine Ev_getR (i := 47) cl_X12 yM_0 (Nat.le_of_ble_eq_true rfl) rfl wd_1491 dX12_ofMishap_1 ?_
  refine Ev_bipushC dX12_ofMishap_4 rfl ?_
  refine Ev_iload_n 1 dX12_ofMishap_6 rfl rfl ?_
  refine Ev_imul dX12_ofMishap_7 ?_
  refine Ev_iload_n 2 dX12_ofMishap_8 rfl rfl ?_
  refine Ev_iadd dX12_ofMishap_9 ?_
  obtain ⟨h0, h⟩ := h
  refine Ev_iald yM_24 h0 dX12_ofMishap_10 ?_
  exact Ev_iret rfl dX12_ofMishap_11 rfl h
theorem dX12_readKind_0 : decode cX12_readKind 0 = .ok (.aload_n 0, 1) := by decide +kernel
theorem dX12_readKind_1 : decode cX12_readKind 1 = .ok (.getfield 194, 3) := by decide +kernel
theorem dX12_readKind_4 : decode cX12_readKind 4 = .ok (.iconst 2, 1) := by decide +kernel
theorem dX12_readKind_5 : decode cX12_readKind 5 = .ok (.if_icmp .ne 18, 3) := by decide +kernel
theorem dX12_readKind_8 : decode cX12_readKind 8 = .ok (.aload_n 0, 1) := by decide +kernel
theorem dX12_readKind_9 : decode cX12_readKind 9 = .ok (.aload_n 0, 1) := by decide +kernel
theorem dX12_readKind_10 : decode cX12_readKind 10 = .ok (.getfield 197, 3) := by decide +kernel
theorem dX12_readKind_13 : decode cX12_readKind 13 = .ok (.bipush 28, 2) := by decide +kernel
theorem dX12_readKind_15 : decode cX12_readKind 15 = .ok (.bipush 32, 2) := by decide +kernel
theorem dX12_readKind_17 : decode cX12_readKind 17 = .ok (.invokevirtual 158, 3) := by decide +kernel
theorem dX12_readKind_20 : decode cX12_readKind 20 = .ok (.ifCond .ne 9, 3) := by decide +kernel
theorem dX12_readKind_23 : decode cX12_readKind 23 = .ok (.aload_n 0, 1) := by decide +kernel
theorem dX12_readKind_24 : decode cX12_readKind 24 = .ok (.iconst 1, 1) := by decide +kernel
theorem dX12_readKind_25 : decode cX12_readKind 25 = .ok (.invokevirtual 222, 3) := by decide +kernel
theorem dX12_readKind_28 : decode cX12_readKind 28 = .ok (.ireturn, 1) := by decide +kernel
theorem dX12_readKind_29 : decode cX12_readKind 29 = .ok (.aload_n 0, 1) := by decide +kernel
theorem dX12_readKind_30 : decode cX12_readKind 30 = .ok (.getfield 197, 3) := by decide +kernel
theorem dX12_readKind_33 : decode cX12_readKind 33 = .ok (.bipush 28, 2) := by decide +kernel
theorem dX12_readKind_35 : decode cX12_readKind 35 = .ok (.isub, 1) := by decide +kernel
theorem dX12_readKind_36 : decode cX12_readKind 36 = .ok (.istore_n 1, 1) := by decide +kernel
theorem dX12_readKind_37 : decode cX12_readKind 37 = .ok (.aload_n 0, 1) := by decide +kernel
theorem dX12_readKind_38 : decode cX12_readKind 38 = .ok (.invokevirtual 229, 3) := by decide +kernel
theorem dX12_readKind_41 : decode cX12_readKind 41 = .ok (.iload_n 1, 1) := by decide +kernel
theorem dX12_readKind_42 : decode cX12_readKind 42 = .ok (.ireturn, 1) := by decide +kernel
theorem wp_X12_readKind_0 {d : Nat} {s : ev_S} {Q : Option ev_V → ev_S → Prop}
    (h : (((s 0 22) ≠ 2 → (Ev layM M_X12_errs d 0 [(0, ev_r 0), (1, ev_i 1)] [] s (ev_pi (fun r2 s1 => Q (some (ev_i r2)) s1)))) ∧ ((s 0 22) = 2 → (Ev layM M_X12_isIn d 0 [(0, ev_r 0), (1, ev_i (s 0 23)), (2, ev_i 28), (3, ev_i 32)] [] s (ev_pi (fun r4 s3 => ((r4 ≠ 0 → (Ev layM M_X12_reads d 0 [(0, ev_r 0)] [] s3 (fun _ s5 => Q (some (ev_i (ev_sub (s3 0 23) 28))) s5))) ∧ (r4 = 0 → (Ev layM M_X12_errs d 0 [(0, ev_r 0), (1, ev_i 1)] [] s3 (ev_pi (fun r7 s6 => Q (some (ev_i r7)) s6))))))))))) :
    Ev layM M_X12_readKind (d + 1) 0 [(0, ev_r 0)] [] s Q := by
  refine Ev_aload_n 0 dX12_readKind_0 rfl rfl ?_
  refine Ev_get (i := 22) cl_X12 yM_0 (Nat.le_of_ble_eq_true rfl) rfl wd_1466 dX12_readKind_1 ?_
  refine Ev_iconst dX12_readKind_4 rfl (ev_Rc rfl) ?_
  refine Ev_icmp_ne (tgt := 23) dX12_readKind_5 rfl (fun c => ?_) (fun c => ?_)
  · replace h := h.1 c
    refine Ev_aload_n 0 dX12_readKind_23 rfl rfl ?_
    refine Ev_iconst dX12_readKind_24 rfl (ev_Rc rfl) ?_
    refine Ev_callV (As := [ev_i 1]) (b := 0) (st := []) (M' := M_X12_errs) cm_X12_errs wd_1758 wd_1760 wd_90 yM_0 cl_X12 rfl dX12_readKind_25 (Nat.le_refl _) rfl (Nat.le_of_ble_eq_true rfl) (Nat.le_of_ble_eq_true rfl) h (fun v u h hk => ?_)
    obtain ⟨r2, rfl⟩ := hk
    obtain ⟨s1, rfl⟩ : ∃ x, x = u := ⟨_, rfl⟩
    replace h := h r2 rfl
    exact Ev_iret rfl dX12_readKind_28 rfl h
  · replace h := h.2 c
    refine Ev_aload_n 0 dX12_readKind_8 rfl rfl ?_
    refine Ev_aload_n 0 dX12_readKind_9 rfl rfl ?_
    refine Ev_get (i := 23) cl_X12 yM_0 (Nat.le_of_ble_eq_true rfl) rfl wd_1467 dX12_readKind_10 ?_
    refine Ev_bipushC dX12_readKind_13 rfl ?_
    refine Ev_bipushC dX12_readKind_15 rfl ?_
    refine Ev_callV (As := [ev_i (s 0 23), ev_i 28, ev_i 32]) (b := 0) (st := []) (M' := M_X12_isIn) cm_X12_isIn wd_1650 wd_1652 wd_70 yM_0 cl_X12 rfl dX12_readKind_17 (Nat.le_refl _) rfl (Nat.le_of_ble_eq_true rfl) (Nat.le_of_ble_eq_true rfl) h (fun v u h hk => ?_)
    obtain ⟨r4, rfl⟩ := hk
    obtain ⟨s3, rfl⟩ : ∃ x, x = u := ⟨_, rfl⟩
    replace h := h r4 rfl
    refine Ev_if_ne (tgt := 29) dX12_readKind_20 rfl (fun c => ?_) (fun c => ?_)
    · replace h := h.1 c
      refine Ev_aload_n 0 dX12_readKind_29 rfl rfl ?_
      refine Ev_get (i := 23) cl_X12 yM_0 (Nat.le_of_ble_eq_true rfl) rfl wd_1467 dX12_readKind_30 ?_
      refine Ev_bipushC dX12_readKind_33 rfl ?_
      refine Ev_isub dX12_readKind_35 ?_
      refine Ev_istore_n (l' := [(1, ev_i (ev_sub (s3 0 23) 28)), (0, ev_r 0)]) dX12_readKind_36 rfl (Nat.le_of_ble_eq_true rfl) rfl ?_
      refine Ev_aload_n 1 dX12_readKind_37 rfl rfl ?_
      refine Ev_callV (As := []) (b := 0) (st := []) (M' := M_X12_reads) cm_X12_reads wd_1706 wd_1708 wd_77 yM_0 cl_X12 rfl dX12_readKind_38 (Nat.le_refl _) rfl (Nat.le_of_ble_eq_true rfl) (Nat.le_of_ble_eq_true rfl) h (fun v u h hk => ?_)
      cases hk
      obtain ⟨s5, rfl⟩ : ∃ x, x = u := ⟨_, rfl⟩
      refine Ev_iload_n 0 dX12_readKind_41 rfl rfl ?_
      exact Ev_iret rfl dX12_readKind_42 rfl h
    · replace h := h.2 c
      refine Ev_aload_n 0 dX12_readKind_23 rfl rfl ?_
      refine Ev_iconst dX12_readKind_24 rfl (ev_Rc rfl) ?_
      refine Ev_callV (As := [ev_i 1]) (b := 0) (st := []) (M' := M_X12_errs) cm_X12_errs wd_1758 wd_1760 wd_90 yM_0 cl_X12 rfl dX12_readKind_25 (Nat.le_refl _) rfl (Nat.le_of_ble_eq_true rfl) (Nat.le_of_ble_eq_true rfl) h (fun v u h hk => ?_)
      obtain ⟨r7, rfl⟩ := hk
      obtain ⟨s6, rfl⟩ : ∃ x, x = u := ⟨_, rfl⟩
      replace h := h r7 rfl
      exact Ev_iret rfl dX12_readKind_28 rfl h
theorem dX12_readRest_0 : decode cX12_readRest 0 = .ok (.aload_n 0, 1) := by decide +kernel
theorem dX12_readRest_1 : decode cX12_readRest 1 = .ok (.getfield 83, 3) := by decide +kernel
theorem dX12_readRest_4 : decode cX12_readRest 4 = .ok (.iload_n 1, 1) := by decide +kernel
theorem dX12_readRest_5 : decode cX12_readRest 5 = .ok (.iconst 4, 1) := by decide +kernel
theorem dX12_readRest_6 : decode cX12_readRest 6 = .ok (.iadd, 1) := by decide +kernel
theorem dX12_readRest_7 : decode cX12_readRest 7 = .ok (.iconst (-1), 1) := by decide +kernel
theorem dX12_readRest_8 : decode cX12_readRest 8 = .ok (.iastore, 1) := by decide +kernel
theorem dX12_readRest_9 : decode cX12_readRest 9 = .ok (.aload_n 0, 1) := by decide +kernel
theorem dX12_readRest_10 : decode cX12_readRest 10 = .ok (.getfield 83, 3) := by decide +kernel
theorem dX12_readRest_13 : decode cX12_readRest 13 = .ok (.iload_n 1, 1) := by decide +kernel
theorem dX12_readRest_14 : decode cX12_readRest 14 = .ok (.iconst 5, 1) := by decide +kernel
theorem dX12_readRest_15 : decode cX12_readRest 15 = .ok (.iadd, 1) := by decide +kernel
theorem dX12_readRest_16 : decode cX12_readRest 16 = .ok (.iconst (-1), 1) := by decide +kernel
theorem dX12_readRest_17 : decode cX12_readRest 17 = .ok (.iastore, 1) := by decide +kernel
theorem dX12_readRest_18 : decode cX12_readRest 18 = .ok (.aload_n 0, 1) := by decide +kernel
theorem dX12_readRest_19 : decode cX12_readRest 19 = .ok (.getfield 83, 3) := by decide +kernel
theorem dX12_readRest_22 : decode cX12_readRest 22 = .ok (.iload_n 1, 1) := by decide +kernel
theorem dX12_readRest_23 : decode cX12_readRest 23 = .ok (.bipush 6, 2) := by decide +kernel
theorem dX12_readRest_25 : decode cX12_readRest 25 = .ok (.iadd, 1) := by decide +kernel
theorem dX12_readRest_26 : decode cX12_readRest 26 = .ok (.bipush 100, 2) := by decide +kernel
theorem dX12_readRest_28 : decode cX12_readRest 28 = .ok (.iastore, 1) := by decide +kernel
theorem dX12_readRest_29 : decode cX12_readRest 29 = .ok (.aload_n 0, 1) := by decide +kernel
theorem dX12_readRest_30 : decode cX12_readRest 30 = .ok (.bipush 25, 2) := by decide +kernel
theorem dX12_readRest_32 : decode cX12_readRest 32 = .ok (.invokevirtual 251, 3) := by decide +kernel
theorem dX12_readRest_35 : decode cX12_readRest 35 = .ok (.ifCond .eq 40, 3) := by decide +kernel
theorem dX12_readRest_38 : decode cX12_readRest 38 = .ok (.aload_n 0, 1) := by decide +kernel
theorem dX12_readRest_39 : decode cX12_readRest 39 = .ok (.invokevirtual 229, 3) := by decide +kernel
theorem dX12_readRest_42 : decode cX12_readRest 42 = .ok (.aload_n 0, 1) := by decide +kernel
theorem dX12_readRest_43 : decode cX12_readRest 43 = .ok (.getfield 83, 3) := by decide +kernel
theorem dX12_readRest_46 : decode cX12_readRest 46 = .ok (.iload_n 1, 1) := by decide +kernel
theorem dX12_readRest_47 : decode cX12_readRest 47 = .ok (.iconst 4, 1) := by decide +kernel
theorem dX12_readRest_48 : decode cX12_readRest 48 = .ok (.iadd, 1) := by decide +kernel
theorem dX12_readRest_49 : decode cX12_readRest 49 = .ok (.aload_n 0, 1) := by decide +kernel
theorem dX12_readRest_50 : decode cX12_readRest 50 = .ok (.iconst 0, 1) := by decide +kernel
theorem dX12_readRest_51 : decode cX12_readRest 51 = .ok (.aload_n 0, 1) := by decide +kernel
theorem dX12_readRest_52 : decode cX12_readRest 52 = .ok (.getfield 145, 3) := by decide +kernel
theorem dX12_readRest_55 : decode cX12_readRest 55 = .ok (.iconst 1, 1) := by decide +kernel
theorem dX12_readRest_56 : decode cX12_readRest 56 = .ok (.isub, 1) := by decide +kernel
theorem dX12_readRest_57 : decode cX12_readRest 57 = .ok (.invokevirtual 269, 3) := by decide +kernel
theorem dX12_readRest_60 : decode cX12_readRest 60 = .ok (.iastore, 1) := by decide +kernel
theorem dX12_readRest_61 : decode cX12_readRest 61 = .ok (.aload_n 0, 1) := by decide +kernel
theorem dX12_readRest_62 : decode cX12_readRest 62 = .ok (.getfield 83, 3) := by decide +kernel
theorem dX12_readRest_65 : decode cX12_readRest 65 = .ok (.iload_n 1, 1) := by decide +kernel
theorem dX12_readRest_66 : decode cX12_readRest 66 = .ok (.iconst 4, 1) := by decide +kernel
theorem dX12_readRest_67 : decode cX12_readRest 67 = .ok (.iadd, 1) := by decide +kernel
theorem dX12_readRest_68 : decode cX12_readRest 68 = .ok (.iaload, 1) := by decide +kernel
theorem dX12_readRest_69 : decode cX12_readRest 69 = .ok (.iconst (-1), 1) := by decide +kernel
theorem dX12_readRest_70 : decode cX12_readRest 70 = .ok (.if_icmp .ne 5, 3) := by decide +kernel
theorem dX12_readRest_73 : decode cX12_readRest 73 = .ok (.iconst (-1), 1) := by decide +kernel
theorem dX12_readRest_74 : decode cX12_readRest 74 = .ok (.ireturn, 1) := by decide +kernel
theorem dX12_readRest_75 : decode cX12_readRest 75 = .ok (.aload_n 0, 1) := by decide +kernel
theorem dX12_readRest_76 : decode cX12_readRest 76 = .ok (.bipush 26, 2) := by decide +kernel
theorem dX12_readRest_78 : decode cX12_readRest 78 = .ok (.invokevirtual 251, 3) := by decide +kernel
theorem dX12_readRest_81 : decode cX12_readRest 81 = .ok (.ifCond .eq 33, 3) := by decide +kernel
theorem dX12_readRest_84 : decode cX12_readRest 84 = .ok (.aload_n 0, 1) := by decide +kernel
theorem dX12_readRest_85 : decode cX12_readRest 85 = .ok (.invokevirtual 229, 3) := by decide +kernel
theorem dX12_readRest_88 : decode cX12_readRest 88 = .ok (.aload_n 0, 1) := by decide +kernel
theorem dX12_readRest_89 : decode cX12_readRest 89 = .ok (.getfield 83, 3) := by decide +kernel
theorem dX12_readRest_92 : decode cX12_readRest 92 = .ok (.iload_n 1, 1) := by decide +kernel
theorem dX12_readRest_93 : decode cX12_readRest 93 = .ok (.iconst 5, 1) := by decide +kernel
theorem dX12_readRest_94 : decode cX12_readRest 94 = .ok (.iadd, 1) := by decide +kernel
theorem dX12_readRest_95 : decode cX12_readRest 95 = .ok (.aload_n 0, 1) := by decide +kernel
theorem dX12_readRest_96 : decode cX12_readRest 96 = .ok (.invokevirtual 297, 3) := by decide +kernel
theorem dX12_readRest_99 : decode cX12_readRest 99 = .ok (.iastore, 1) := by decide +kernel
theorem dX12_readRest_100 : decode cX12_readRest 100 = .ok (.aload_n 0, 1) := by decide +kernel
theorem dX12_readRest_101 : decode cX12_readRest 101 = .ok (.getfield 83, 3) := by decide +kernel
theorem dX12_readRest_104 : decode cX12_readRest 104 = .ok (.iload_n 1, 1) := by decide +kernel
theorem dX12_readRest_105 : decode cX12_readRest 105 = .ok (.iconst 5, 1) := by decide +kernel
theorem dX12_readRest_106 : decode cX12_readRest 106 = .ok (.iadd, 1) := by decide +kernel
theorem dX12_readRest_107 : decode cX12_readRest 107 = .ok (.iaload, 1) := by decide +kernel
theorem dX12_readRest_108 : decode cX12_readRest 108 = .ok (.iconst (-1), 1) := by decide +kernel
theorem dX12_readRest_109 : decode cX12_readRest 109 = .ok (.if_icmp .ne 5, 3) := by decide +kernel
theorem dX12_readRest_112 : decode cX12_readRest 112 = .ok (.iconst (-1), 1) := by decide +kernel
theorem dX12_readRest_113 : decode cX12_readRest 113 = .ok (.ireturn, 1) := by decide +kernel
theorem dX12_readRest_114 : decode cX12_readRest 114 = .ok (.aload_n 0, 1) := by decide +kernel
theorem dX12_readRest_115 : decode cX12_readRest 115 = .ok (.bipush 27, 2) := by decide +kernel
theorem dX12_readRest_117 : decode cX12_readRest 117 = .ok (.invokevirtual 251, 3) := by decide +kernel
theorem dX12_readRest_120 : decode cX12_readRest 120 = .ok (.ifCond .eq 38, 3) := by decide +kernel
theorem dX12_readRest_123 : decode cX12_readRest 123 = .ok (.aload_n 0, 1) := by decide +kernel
theorem dX12_readRest_124 : decode cX12_readRest 124 = .ok (.invokevirtual 229, 3) := by decide +kernel
theorem dX12_readRest_127 : decode cX12_readRest 127 = .ok (.aload_n 0, 1) := by decide +kernel
theorem dX12_readRest_128 : decode cX12_readRest 128 = .ok (.getfield 83, 3) := by decide +kernel
theorem dX12_readRest_131 : decode cX12_readRest 131 = .ok (.iload_n 1, 1) := by decide +kernel
theorem dX12_readRest_132 : decode cX12_readRest 132 = .ok (.bipush 6, 2) := by decide +kernel
theorem dX12_readRest_134 : decode cX12_readRest 134 = .ok (.iadd, 1) := by decide +kernel
theorem dX12_readRest_135 : decode cX12_readRest 135 = .ok (.aload_n 0, 1) := by decide +kernel
theorem dX12_readRest_136 : decode cX12_readRest 136 = .ok (.iconst 1, 1) := by decide +kernel
theorem dX12_readRest_137 : decode cX12_readRest 137 = .ok (.bipush 100, 2) := by decide +kernel
theorem dX12_readRest_139 : decode cX12_readRest 139 = .ok (.invokevirtual 269, 3) := by decide +kernel
theorem dX12_readRest_142 : decode cX12_readRest 142 = .ok (.iastore, 1) := by decide +kernel
theorem dX12_readRest_143 : decode cX12_readRest 143 = .ok (.aload_n 0, 1) := by decide +kernel
theorem dX12_readRest_144 : decode cX12_readRest 144 = .ok (.getfield 83, 3) := by decide +kernel
theorem dX12_readRest_147 : decode cX12_readRest 147 = .ok (.iload_n 1, 1) := by decide +kernel
theorem dX12_readRest_148 : decode cX12_readRest 148 = .ok (.bipush 6, 2) := by decide +kernel
theorem dX12_readRest_150 : decode cX12_readRest 150 = .ok (.iadd, 1) := by decide +kernel
theorem dX12_readRest_151 : decode cX12_readRest 151 = .ok (.iaload, 1) := by decide +kernel
theorem dX12_readRest_152 : decode cX12_readRest 152 = .ok (.iconst (-1), 1) := by decide +kernel
theorem dX12_readRest_153 : decode cX12_readRest 153 = .ok (.if_icmp .ne 5, 3) := by decide +kernel
theorem dX12_readRest_156 : decode cX12_readRest 156 = .ok (.iconst (-1), 1) := by decide +kernel
theorem dX12_readRest_157 : decode cX12_readRest 157 = .ok (.ireturn, 1) := by decide +kernel
theorem dX12_readRest_158 : decode cX12_readRest 158 = .ok (.aload_n 0, 1) := by decide +kernel
theorem dX12_readRest_159 : decode cX12_readRest 159 = .ok (.bipush 59, 2) := by decide +kernel
theorem dX12_readRest_161 : decode cX12_readRest 161 = .ok (.invokevirtual 272, 3) := by decide +kernel
theorem dX12_readRest_164 : decode cX12_readRest 164 = .ok (.ireturn, 1) := by decide +kernel
theorem wp_X12_readRest_0 {d : Nat} {s : ev_S} {Q : Option ev_V → ev_S → Prop} {a1 : Int}
    (h : ((0 ≤ (ev_add a1 4) ∧ (ev_add a1 4) < (140 : Nat)) ∧ ∀ s1, ev_up s 24 (Int.toNat (ev_add a1 4)) (-1) = s1 → ((0 ≤ (ev_add a1 5) ∧ (ev_add a1 5) < (140 : Nat)) ∧ ∀ s2, ev_up s1 24 (Int.toNat (ev_add a1 5)) (-1) = s2 → ((0 ≤ (ev_add a1 6) ∧ (ev_add a1 6) < (140 : Nat)) ∧ ∀ s3, ev_up s2 24 (Int.toNat (ev_add a1 6)) 100 = s3 → (Ev layM M_X12_isWord d 0 [(0, ev_r 0), (1, ev_i 25)] [] s3 (ev_pi (fun r5 s4 => ((r5 = 0 → Ev layM M_X12_readRest (d + 1) 75 [(0, ev_r 0), (1, ev_i a1)] [] s4 Q) ∧ (r5 ≠ 0 → (Ev layM M_X12_reads d 0 [(0, ev_r 0)] [] s4 (fun _ s6 => (Ev layM M_X12_readNumber d 0 [(0, ev_r 0), (1, ev_i 0), (2, ev_i (ev_sub (s6 0 10) 1))] [] s6 (ev_pi (fun r8 s7 => ((0 ≤ (ev_add a1 4) ∧ (ev_add a1 4) < (140 : Nat)) ∧ ∀ s9, ev_up s7 24 (Int.toNat (ev_add a1 4)) r8 = s9 → ((0 ≤ (ev_add a1 4) ∧ (ev_add a1 4) < (140 : Nat)) ∧ (((s9 24 (Int.toNat (ev_add a1 4))) ≠ (-1) → Ev layM M_X12_readRest (d + 1) 75 [(0, ev_r 0), (1, ev_i a1)] [] s9 Q) ∧ ((s9 24 (Int.toNat (ev_add a1 4))) = (-1) → Q (some (ev_i (-1))) s9)))))))))))))))))) :
    Ev layM M_X12_readRest (d + 1) 0 [(0, ev_r 0), (1, ev_i a1)] [] s Q := by
  refine Ev_aload_n 0 dX12_readRest_0 rfl rfl ?_
  refine Ev_getR (i := 47) cl_X12 yM_0 (Nat.le_of_ble_eq_true rfl) rfl wd_1491 dX12_readRest_1 ?_
  refine Ev_iload_n 1 dX12_readRest_4 rfl rfl ?_
  refine Ev_iconst dX12_readRest_5 rfl (ev_Rc rfl) ?_
  refine Ev_iadd dX12_readRest_6 ?_
  refine Ev_iconst dX12_readRest_7 rfl (ev_Rc rfl) ?_
  obtain ⟨h0, h⟩ := h
  refine Ev_iast yM_24 h0 dX12_readRest_8 (Ev_nm (fun s1 es1 => ?_))
  replace h := h s1 es1
  refine Ev_aload_n 0 dX12_readRest_9 rfl rfl ?_
  refine Ev_getR (i := 47) cl_X12 yM_0 (Nat.le_of_ble_eq_true rfl) rfl wd_1491 dX12_readRest_10 ?_
  refine Ev_iload_n 1 dX12_readRest_13 rfl rfl ?_
  refine Ev_iconst dX12_readRest_14 rfl (ev_Rc rfl) ?_
  refine Ev_iadd dX12_readRest_15 ?_
  refine Ev_iconst dX12_readRest_16 rfl (ev_Rc rfl) ?_
  obtain ⟨h0, h⟩ := h
  refine Ev_iast yM_24 h0 dX12_readRest_17 (Ev_nm (fun s2 es2 => ?_))
  replace h := h s2 es2
  refine Ev_aload_n 0 dX12_readRest_18 rfl rfl ?_
  refine Ev_getR (i := 47) cl_X12 yM_0 (Nat.le_of_ble_eq_true rfl) rfl wd_1491 dX12_readRest_19 ?_
  refine Ev_iload_n 1 dX12_readRest_22 rfl rfl ?_
  refine Ev_bipushC dX12_readRest_23 rfl ?_
  refine Ev_iadd dX12_readRest_25 ?_
  refine Ev_bipushC dX12_readRest_26 rfl ?_
  obtain ⟨h0, h⟩ := h
  refine Ev_iast yM_24 h0 dX12_readRest_28 (Ev_nm (fun s3 es3 => ?_))
  replace h := h s3 es3
  refine Ev_aload_n 0 dX12_readRest_29 rfl rfl ?_
  refine Ev_bipushC dX12_readRest_30 rfl ?_
  refine Ev_callV (As := [ev_i 25]) (b := 0) (st := []) (M' := M_X12_isWord) cm_X12_isWord wd_1742 wd_1744 wd_86 yM_0 cl_X12 rfl dX12_readRest_32 (Nat.le_refl _) rfl (Nat.le_of_ble_eq_true rfl) (Nat.le_of_ble_eq_true rfl) h (fun v u h hk => ?_)
  obtain ⟨r5, rfl⟩ := hk
  obtain ⟨s4, rfl⟩ : ∃ x, x = u := ⟨_, rfl⟩
  replace h := h r5 rfl
  refine Ev_if_eq (tgt := 75) dX12_readRest_35 rfl (fun c => ?_) (fun c => ?_)
  · replace h := h.1 c
    exact Ev_sub [0, 1] rfl h
  · replace h := h.2 c
    refine Ev_aload_n 0 dX12_readRest_38 rfl rfl ?_
    refine Ev_callV (As := []) (b := 0) (st := []) (M' := M_X12_reads) cm_X12_reads wd_1706 wd_1708 wd_77 yM_0 cl_X12 rfl dX12_readRest_39 (Nat.le_refl _) rfl (Nat.le_of_ble_eq_true rfl) (Nat.le_of_ble_eq_true rfl) h (fun v u h hk => ?_)
    cases hk
    obtain ⟨s6, rfl⟩ : ∃ x, x = u := ⟨_, rfl⟩
    refine Ev_aload_n 0 dX12_readRest_42 rfl rfl ?_
    refine Ev_getR (i := 47) cl_X12 yM_0 (Nat.le_of_ble_eq_true rfl) rfl wd_1491 dX12_readRest_43 ?_
    refine Ev_iload_n 1 dX12_readRest_46 rfl rfl ?_
    refine Ev_iconst dX12_readRest_47 rfl (ev_Rc rfl) ?_
    refine Ev_iadd dX12_readRest_48 ?_
    refine Ev_aload_n 0 dX12_readRest_49 rfl rfl ?_
    refine Ev_iconst dX12_readRest_50 rfl (ev_Rc rfl) ?_
    refine Ev_aload_n 0 dX12_readRest_51 rfl rfl ?_
    refine Ev_get (i := 10) cl_X12 yM_0 (Nat.le_of_ble_eq_true rfl) rfl wd_1454 dX12_readRest_52 ?_
    refine Ev_iconst dX12_readRest_55 rfl (ev_Rc rfl) ?_
    refine Ev_isub dX12_readRest_56 ?_
    refine Ev_callV (As := [ev_i 0, ev_i (ev_sub (s6 0 10) 1)]) (b := 0) (st := [ev_i (ev_add a1 4), ev_r 24]) (M' := M_X12_readNumber) cm_X12_readNumber wd_1754 wd_1756 wd_89 yM_0 cl_X12 rfl dX12_readRest_57 (Nat.le_refl _) rfl (Nat.le_of_ble_eq_true rfl) (Nat.le_of_ble_eq_true rfl) h (fun v u h hk => ?_)
    obtain ⟨r8, rfl⟩ := hk
    obtain ⟨s7, rfl⟩ : ∃ x, x = u := ⟨_, rfl⟩
    replace h := h r8 rfl
    obtain ⟨h0, h⟩ := h
    refine Ev_iast yM_24 h0 dX12_readRest_60 (Ev_nm (fun s9 es9 => ?_))
    replace h := h s9 es9
    refine Ev_aload_n 0 dX12_readRest_61 rfl rfl ?_
    refine Ev_getR (i := 47) cl_X12 yM_0 (Nat.le_of_ble_eq_true rfl) rfl wd_1491 dX12_readRest_62 ?_
    refine Ev_iload_n 1 dX12_readRest_65 rfl rfl ?_
    refine Ev_iconst dX12_readRest_66 rfl (ev_Rc rfl) ?_
    refine Ev_iadd dX12_readRest_67 ?_
    obtain ⟨h0, h⟩ := h
    refine Ev_iald yM_24 h0 dX12_readRest_68 ?_
    refine Ev_iconst dX12_readRest_69 rfl (ev_Rc rfl) ?_
    refine Ev_icmp_ne (tgt := 75) dX12_readRest_70 rfl (fun c => ?_) (fun c => ?_)
    · replace h := h.1 c
      exact Ev_sub [0, 1] rfl h
    · replace h := h.2 c
      refine Ev_iconst dX12_readRest_73 rfl (ev_Rc rfl) ?_
      exact Ev_iret rfl dX12_readRest_74 rfl h
theorem wp_X12_readRest_75 {d : Nat} {s : ev_S} {Q : Option ev_V → ev_S → Prop} {a1 : Int}
    (h : (Ev layM M_X12_isWord d 0 [(0, ev_r 0), (1, ev_i 26)] [] s (ev_pi (fun r2 s1 => ((r2 = 0 → Ev layM M_X12_readRest (d + 1) 114 [(0, ev_r 0), (1, ev_i a1)] [] s1 Q) ∧ (r2 ≠ 0 → (Ev layM M_X12_reads d 0 [(0, ev_r 0)] [] s1 (fun _ s3 => (Ev layM M_X12_readKind d 0 [(0, ev_r 0)] [] s3 (ev_pi (fun r5 s4 => ((0 ≤ (ev_add a1 5) ∧ (ev_add a1 5) < (140 : Nat)) ∧ ∀ s6, ev_up s4 24 (Int.toNat (ev_add a1 5)) r5 = s6 → ((0 ≤ (ev_add a1 5) ∧ (ev_add a1 5) < (140 : Nat)) ∧ (((s6 24 (Int.toNat (ev_add a1 5))) ≠ (-1) → Ev layM M_X12_readRest (d + 1) 114 [(0, ev_r 0), (1, ev_i a1)] [] s6 Q) ∧ ((s6 24 (Int.toNat (ev_add a1 5))) = (-1) → Q (some (ev_i (-1))) s6))))))))))))))) :
    Ev layM M_X12_readRest (d + 1) 75 [(0, ev_r 0), (1, ev_i a1)] [] s Q := by
  refine Ev_aload_n 0 dX12_readRest_75 rfl rfl ?_
  refine Ev_bipushC dX12_readRest_76 rfl ?_
  refine Ev_callV (As := [ev_i 26]) (b := 0) (st := []) (M' := M_X12_isWord) cm_X12_isWord wd_1742 wd_1744 wd_86 yM_0 cl_X12 rfl dX12_readRest_78 (Nat.le_refl _) rfl (Nat.le_of_ble_eq_true rfl) (Nat.le_of_ble_eq_true rfl) h (fun v u h hk => ?_)
  obtain ⟨r2, rfl⟩ := hk
  obtain ⟨s1, rfl⟩ : ∃ x, x = u := ⟨_, rfl⟩
  replace h := h r2 rfl
  refine Ev_if_eq (tgt := 114) dX12_readRest_81 rfl (fun c => ?_) (fun c => ?_)
  · replace h := h.1 c
    exact Ev_sub [0, 1] rfl h
  · replace h := h.2 c
    refine Ev_aload_n 0 dX12_readRest_84 rfl rfl ?_
    refine Ev_callV (As := []) (b := 0) (st := []) (M' := M_X12_reads) cm_X12_reads wd_1706 wd_1708 wd_77 yM_0 cl_X12 rfl dX12_readRest_85 (Nat.le_refl _) rfl (Nat.le_of_ble_eq_true rfl) (Nat.le_of_ble_eq_true rfl) h (fun v u h hk => ?_)
    cases hk
    obtain ⟨s3, rfl⟩ : ∃ x, x = u := ⟨_, rfl⟩
    refine Ev_aload_n 0 dX12_readRest_88 rfl rfl ?_
    refine Ev_getR (i := 47) cl_X12 yM_0 (Nat.le_of_ble_eq_true rfl) rfl wd_1491 dX12_readRest_89 ?_
    refine Ev_iload_n 1 dX12_readRest_92 rfl rfl ?_
    refine Ev_iconst dX12_readRest_93 rfl (ev_Rc rfl) ?_
    refine Ev_iadd dX12_readRest_94 ?_
    refine Ev_aload_n 0 dX12_readRest_95 rfl rfl ?_
    refine Ev_callV (As := []) (b := 0) (st := [ev_i (ev_add a1 5), ev_r 24]) (M' := M_X12_readKind) cm_X12_readKind wd_1802 wd_1804 wd_101 yM_0 cl_X12 rfl dX12_readRest_96 (Nat.le_refl _) rfl (Nat.le_of_ble_eq_true rfl) (Nat.le_of_ble_eq_true rfl) h (fun v u h hk => ?_)
    obtain ⟨r5, rfl⟩ := hk
    obtain ⟨s4, rfl⟩ : ∃ x, x = u := ⟨_, rfl⟩
    replace h := h r5 rfl
    obtain ⟨h0, h⟩ := h
    refine Ev_iast yM_24 h0 dX12_readRest_99 (Ev_nm (fun s6 es6 => ?_))
    replace h := h s6 es6
    refine Ev_aload_n 0 dX12_readRest_100 rfl rfl ?_
    refine Ev_getR (i := 47) cl_X12 yM_0 (Nat.le_of_ble_eq_true rfl) rfl wd_1491 dX12_readRest_101 ?_
    refine Ev_iload_n 1 dX12_readRest_104 rfl rfl ?_
    refine Ev_iconst dX12_readRest_105 rfl (ev_Rc rfl) ?_
    refine Ev_iadd dX12_readRest_106 ?_
    obtain ⟨h0, h⟩ := h
    refine Ev_iald yM_24 h0 dX12_readRest_107 ?_
    refine Ev_iconst dX12_readRest_108 rfl (ev_Rc rfl) ?_
    refine Ev_icmp_ne (tgt := 114) dX12_readRest_109 rfl (fun c => ?_) (fun c => ?_)
    · replace h := h.1 c
      exact Ev_sub [0, 1] rfl h
    · replace h := h.2 c
      refine Ev_iconst dX12_readRest_112 rfl (ev_Rc rfl) ?_
      exact Ev_iret rfl dX12_readRest_113 rfl h
theorem wp_X12_readRest_114 {d : Nat} {s : ev_S} {Q : Option ev_V → ev_S → Prop} {a1 : Int}
    (h : (Ev layM M_X12_isWord d 0 [(0, ev_r 0), (1, ev_i 27)] [] s (ev_pi (fun r2 s1 => ((r2 = 0 → (Ev layM M_X12_readMark d 0 [(0, ev_r 0), (1, ev_i 59)] [] s1 (ev_pi (fun r4 s3 => Q (some (ev_i r4)) s3)))) ∧ (r2 ≠ 0 → (Ev layM M_X12_reads d 0 [(0, ev_r 0)] [] s1 (fun _ s5 => (Ev layM M_X12_readNumber d 0 [(0, ev_r 0), (1, ev_i 1), (2, ev_i 100)] [] s5 (ev_pi (fun r7 s6 => ((0 ≤ (ev_add a1 6) ∧ (ev_add a1 6) < (140 : Nat)) ∧ ∀ s8, ev_up s6 24 (Int.toNat (ev_add a1 6)) r7 = s8 → ((0 ≤ (ev_add a1 6) ∧ (ev_add a1 6) < (140 : Nat)) ∧ (((s8 24 (Int.toNat (ev_add a1 6))) ≠ (-1) → (Ev layM M_X12_readMark d 0 [(0, ev_r 0), (1, ev_i 59)] [] s8 (ev_pi (fun r10 s9 => Q (some (ev_i r10)) s9)))) ∧ ((s8 24 (Int.toNat (ev_add a1 6))) = (-1) → Q (some (ev_i (-1))) s8))))))))))))))) :
    Ev layM M_X12_readRest (d + 1) 114 [(0, ev_r 0), (1, ev_i a1)] [] s Q := by
  refine Ev_aload_n 0 dX12_readRest_114 rfl rfl ?_
  refine Ev_bipushC dX12_readRest_115 rfl ?_
  refine Ev_callV (As := [ev_i 27]) (b := 0) (st := []) (M' := M_X12_isWord) cm_X12_isWord wd_1742 wd_1744 wd_86 yM_0 cl_X12 rfl dX12_readRest_117 (Nat.le_refl _) rfl (Nat.le_of_ble_eq_true rfl) (Nat.le_of_ble_eq_true rfl) h (fun v u h hk => ?_)
  obtain ⟨r2, rfl⟩ := hk
  obtain ⟨s1, rfl⟩ : ∃ x, x = u := ⟨_, rfl⟩
  replace h := h r2 rfl
  refine Ev_if_eq (tgt := 158) dX12_readRest_120 rfl (fun c => ?_) (fun c => ?_)
  · replace h := h.1 c
    refine Ev_aload_n 0 dX12_readRest_158 rfl rfl ?_
    refine Ev_bipushC dX12_readRest_159 rfl ?_
    refine Ev_callV (As := [ev_i 59]) (b := 0) (st := []) (M' := M_X12_readMark) cm_X12_readMark wd_1762 wd_1764 wd_91 yM_0 cl_X12 rfl dX12_readRest_161 (Nat.le_refl _) rfl (Nat.le_of_ble_eq_true rfl) (Nat.le_of_ble_eq_true rfl) h (fun v u h hk => ?_)
    obtain ⟨r4, rfl⟩ := hk
    obtain ⟨s3, rfl⟩ : ∃ x, x = u := ⟨_, rfl⟩
    replace h := h r4 rfl
    exact Ev_iret rfl dX12_readRest_164 rfl h
  · replace h := h.2 c
    refine Ev_aload_n 0 dX12_readRest_123 rfl rfl ?_
    refine Ev_callV (As := []) (b := 0) (st := []) (M' := M_X12_reads) cm_X12_reads wd_1706 wd_1708 wd_77 yM_0 cl_X12 rfl dX12_readRest_124 (Nat.le_refl _) rfl (Nat.le_of_ble_eq_true rfl) (Nat.le_of_ble_eq_true rfl) h (fun v u h hk => ?_)
    cases hk
    obtain ⟨s5, rfl⟩ : ∃ x, x = u := ⟨_, rfl⟩
    refine Ev_aload_n 0 dX12_readRest_127 rfl rfl ?_
    refine Ev_getR (i := 47) cl_X12 yM_0 (Nat.le_of_ble_eq_true rfl) rfl wd_1491 dX12_readRest_128 ?_
    refine Ev_iload_n 1 dX12_readRest_131 rfl rfl ?_
    refine Ev_bipushC dX12_readRest_132 rfl ?_
    refine Ev_iadd dX12_readRest_134 ?_
    refine Ev_aload_n 0 dX12_readRest_135 rfl rfl ?_
    refine Ev_iconst dX12_readRest_136 rfl (ev_Rc rfl) ?_
    refine Ev_bipushC dX12_readRest_137 rfl ?_
    refine Ev_callV (As := [ev_i 1, ev_i 100]) (b := 0) (st := [ev_i (ev_add a1 6), ev_r 24]) (M' := M_X12_readNumber) cm_X12_readNumber wd_1754 wd_1756 wd_89 yM_0 cl_X12 rfl dX12_readRest_139 (Nat.le_refl _) rfl (Nat.le_of_ble_eq_true rfl) (Nat.le_of_ble_eq_true rfl) h (fun v u h hk => ?_)
    obtain ⟨r7, rfl⟩ := hk
    obtain ⟨s6, rfl⟩ : ∃ x, x = u := ⟨_, rfl⟩
    replace h := h r7 rfl
    obtain ⟨h0, h⟩ := h
    refine Ev_iast yM_24 h0 dX12_readRest_142 (Ev_nm (fun s8 es8 => ?_))
    replace h := h s8 es8
    refine Ev_aload_n 0 dX12_readRest_143 rfl rfl ?_
    refine Ev_getR (i := 47) cl_X12 yM_0 (Nat.le_of_ble_eq_true rfl) rfl wd_1491 dX12_readRest_144 ?_
    refine Ev_iload_n 1 dX12_readRest_147 rfl rfl ?_
    refine Ev_bipushC dX12_readRest_148 rfl ?_
    refine Ev_iadd dX12_readRest_150 ?_
    obtain ⟨h0, h⟩ := h
    refine Ev_iald yM_24 h0 dX12_readRest_151 ?_
    refine Ev_iconst dX12_readRest_152 rfl (ev_Rc rfl) ?_
    refine Ev_icmp_ne (tgt := 158) dX12_readRest_153 rfl (fun c => ?_) (fun c => ?_)
    · replace h := h.1 c
      refine Ev_aload_n 0 dX12_readRest_158 rfl rfl ?_
      refine Ev_bipushC dX12_readRest_159 rfl ?_
      refine Ev_callV (As := [ev_i 59]) (b := 0) (st := []) (M' := M_X12_readMark) cm_X12_readMark wd_1762 wd_1764 wd_91 yM_0 cl_X12 rfl dX12_readRest_161 (Nat.le_refl _) rfl (Nat.le_of_ble_eq_true rfl) (Nat.le_of_ble_eq_true rfl) h (fun v u h hk => ?_)
      obtain ⟨r10, rfl⟩ := hk
      obtain ⟨s9, rfl⟩ : ∃ x, x = u := ⟨_, rfl⟩
      replace h := h r10 rfl
      exact Ev_iret rfl dX12_readRest_164 rfl h
    · replace h := h.2 c
      refine Ev_iconst dX12_readRest_156 rfl (ev_Rc rfl) ?_
      exact Ev_iret rfl dX12_readRest_157 rfl h
theorem dX12_readMishap_0 : decode cX12_readMishap 0 = .ok (.aload_n 0, 1) := by decide +kernel
theorem dX12_readMishap_1 : decode cX12_readMishap 1 = .ok (.getfield 83, 3) := by decide +kernel
theorem dX12_readMishap_4 : decode cX12_readMishap 4 = .ok (.iload_n 1, 1) := by decide +kernel
theorem dX12_readMishap_5 : decode cX12_readMishap 5 = .ok (.iconst 0, 1) := by decide +kernel
theorem dX12_readMishap_6 : decode cX12_readMishap 6 = .ok (.iadd, 1) := by decide +kernel
theorem dX12_readMishap_7 : decode cX12_readMishap 7 = .ok (.aload_n 0, 1) := by decide +kernel
theorem dX12_readMishap_8 : decode cX12_readMishap 8 = .ok (.iconst 1, 1) := by decide +kernel
theorem dX12_readMishap_9 : decode cX12_readMishap 9 = .ok (.bipush 99, 2) := by decide +kernel
theorem dX12_readMishap_11 : decode cX12_readMishap 11 = .ok (.invokevirtual 269, 3) := by decide +kernel
theorem dX12_readMishap_14 : decode cX12_readMishap 14 = .ok (.iastore, 1) := by decide +kernel
theorem dX12_readMishap_15 : decode cX12_readMishap 15 = .ok (.aload_n 0, 1) := by decide +kernel
theorem dX12_readMishap_16 : decode cX12_readMishap 16 = .ok (.getfield 83, 3) := by decide +kernel
theorem dX12_readMishap_19 : decode cX12_readMishap 19 = .ok (.iload_n 1, 1) := by decide +kernel
theorem dX12_readMishap_20 : decode cX12_readMishap 20 = .ok (.iconst 0, 1) := by decide +kernel
theorem dX12_readMishap_21 : decode cX12_readMishap 21 = .ok (.iadd, 1) := by decide +kernel
theorem dX12_readMishap_22 : decode cX12_readMishap 22 = .ok (.iaload, 1) := by decide +kernel
theorem dX12_readMishap_23 : decode cX12_readMishap 23 = .ok (.iconst (-1), 1) := by decide +kernel
theorem dX12_readMishap_24 : decode cX12_readMishap 24 = .ok (.if_icmp .eq 13, 3) := by decide +kernel
theorem dX12_readMishap_27 : decode cX12_readMishap 27 = .ok (.aload_n 0, 1) := by decide +kernel
theorem dX12_readMishap_28 : decode cX12_readMishap 28 = .ok (.bipush 22, 2) := by decide +kernel
theorem dX12_readMishap_30 : decode cX12_readMishap 30 = .ok (.invokevirtual 300, 3) := by decide +kernel
theorem dX12_readMishap_33 : decode cX12_readMishap 33 = .ok (.iconst (-1), 1) := by decide +kernel
theorem dX12_readMishap_34 : decode cX12_readMishap 34 = .ok (.if_icmp .ne 5, 3) := by decide +kernel
theorem dX12_readMishap_37 : decode cX12_readMishap 37 = .ok (.iconst (-1), 1) := by decide +kernel
theorem dX12_readMishap_38 : decode cX12_readMishap 38 = .ok (.ireturn, 1) := by decide +kernel
theorem dX12_readMishap_39 : decode cX12_readMishap 39 = .ok (.aload_n 0, 1) := by decide +kernel
theorem dX12_readMishap_40 : decode cX12_readMishap 40 = .ok (.getfield 83, 3) := by decide +kernel
theorem dX12_readMishap_43 : decode cX12_readMishap 43 = .ok (.iload_n 1, 1) := by decide +kernel
theorem dX12_readMishap_44 : decode cX12_readMishap 44 = .ok (.iconst 1, 1) := by decide +kernel
theorem dX12_readMishap_45 : decode cX12_readMishap 45 = .ok (.iadd, 1) := by decide +kernel
theorem dX12_readMishap_46 : decode cX12_readMishap 46 = .ok (.aload_n 0, 1) := by decide +kernel
theorem dX12_readMishap_47 : decode cX12_readMishap 47 = .ok (.invokevirtual 303, 3) := by decide +kernel
theorem dX12_readMishap_50 : decode cX12_readMishap 50 = .ok (.iastore, 1) := by decide +kernel
theorem dX12_readMishap_51 : decode cX12_readMishap 51 = .ok (.aload_n 0, 1) := by decide +kernel
theorem dX12_readMishap_52 : decode cX12_readMishap 52 = .ok (.getfield 83, 3) := by decide +kernel
theorem dX12_readMishap_55 : decode cX12_readMishap 55 = .ok (.iload_n 1, 1) := by decide +kernel
theorem dX12_readMishap_56 : decode cX12_readMishap 56 = .ok (.iconst 1, 1) := by decide +kernel
theorem dX12_readMishap_57 : decode cX12_readMishap 57 = .ok (.iadd, 1) := by decide +kernel
theorem dX12_readMishap_58 : decode cX12_readMishap 58 = .ok (.iaload, 1) := by decide +kernel
theorem dX12_readMishap_59 : decode cX12_readMishap 59 = .ok (.iconst (-1), 1) := by decide +kernel
theorem dX12_readMishap_60 : decode cX12_readMishap 60 = .ok (.if_icmp .eq 13, 3) := by decide +kernel
theorem dX12_readMishap_63 : decode cX12_readMishap 63 = .ok (.aload_n 0, 1) := by decide +kernel
theorem dX12_readMishap_64 : decode cX12_readMishap 64 = .ok (.bipush 23, 2) := by decide +kernel
theorem dX12_readMishap_66 : decode cX12_readMishap 66 = .ok (.invokevirtual 300, 3) := by decide +kernel
theorem dX12_readMishap_69 : decode cX12_readMishap 69 = .ok (.iconst (-1), 1) := by decide +kernel
theorem dX12_readMishap_70 : decode cX12_readMishap 70 = .ok (.if_icmp .ne 5, 3) := by decide +kernel
theorem dX12_readMishap_73 : decode cX12_readMishap 73 = .ok (.iconst (-1), 1) := by decide +kernel
theorem dX12_readMishap_74 : decode cX12_readMishap 74 = .ok (.ireturn, 1) := by decide +kernel
theorem dX12_readMishap_75 : decode cX12_readMishap 75 = .ok (.aload_n 0, 1) := by decide +kernel
theorem dX12_readMishap_76 : decode cX12_readMishap 76 = .ok (.getfield 83, 3) := by decide +kernel
theorem dX12_readMishap_79 : decode cX12_readMishap 79 = .ok (.iload_n 1, 1) := by decide +kernel
theorem dX12_readMishap_80 : decode cX12_readMishap 80 = .ok (.iconst 2, 1) := by decide +kernel
theorem dX12_readMishap_81 : decode cX12_readMishap 81 = .ok (.iadd, 1) := by decide +kernel
theorem dX12_readMishap_82 : decode cX12_readMishap 82 = .ok (.aload_n 0, 1) := by decide +kernel
theorem dX12_readMishap_83 : decode cX12_readMishap 83 = .ok (.iconst 0, 1) := by decide +kernel
theorem dX12_readMishap_84 : decode cX12_readMishap 84 = .ok (.sipush 599, 3) := by decide +kernel
theorem dX12_readMishap_87 : decode cX12_readMishap 87 = .ok (.invokevirtual 269, 3) := by decide +kernel
theorem dX12_readMishap_90 : decode cX12_readMishap 90 = .ok (.iastore, 1) := by decide +kernel
theorem dX12_readMishap_91 : decode cX12_readMishap 91 = .ok (.aload_n 0, 1) := by decide +kernel
theorem dX12_readMishap_92 : decode cX12_readMishap 92 = .ok (.getfield 83, 3) := by decide +kernel
theorem dX12_readMishap_95 : decode cX12_readMishap 95 = .ok (.iload_n 1, 1) := by decide +kernel
theorem dX12_readMishap_96 : decode cX12_readMishap 96 = .ok (.iconst 2, 1) := by decide +kernel
theorem dX12_readMishap_97 : decode cX12_readMishap 97 = .ok (.iadd, 1) := by decide +kernel
theorem dX12_readMishap_98 : decode cX12_readMishap 98 = .ok (.iaload, 1) := by decide +kernel
theorem dX12_readMishap_99 : decode cX12_readMishap 99 = .ok (.iconst (-1), 1) := by decide +kernel
theorem dX12_readMishap_100 : decode cX12_readMishap 100 = .ok (.if_icmp .eq 13, 3) := by decide +kernel
theorem dX12_readMishap_103 : decode cX12_readMishap 103 = .ok (.aload_n 0, 1) := by decide +kernel
theorem dX12_readMishap_104 : decode cX12_readMishap 104 = .ok (.bipush 24, 2) := by decide +kernel
theorem dX12_readMishap_106 : decode cX12_readMishap 106 = .ok (.invokevirtual 300, 3) := by decide +kernel
theorem dX12_readMishap_109 : decode cX12_readMishap 109 = .ok (.iconst (-1), 1) := by decide +kernel
theorem dX12_readMishap_110 : decode cX12_readMishap 110 = .ok (.if_icmp .ne 5, 3) := by decide +kernel
theorem dX12_readMishap_113 : decode cX12_readMishap 113 = .ok (.iconst (-1), 1) := by decide +kernel
theorem dX12_readMishap_114 : decode cX12_readMishap 114 = .ok (.ireturn, 1) := by decide +kernel
theorem dX12_readMishap_115 : decode cX12_readMishap 115 = .ok (.aload_n 0, 1) := by decide +kernel
theorem dX12_readMishap_116 : decode cX12_readMishap 116 = .ok (.getfield 83, 3) := by decide +kernel
theorem dX12_readMishap_119 : decode cX12_readMishap 119 = .ok (.iload_n 1, 1) := by decide +kernel
theorem dX12_readMishap_120 : decode cX12_readMishap 120 = .ok (.iconst 3, 1) := by decide +kernel
theorem dX12_readMishap_121 : decode cX12_readMishap 121 = .ok (.iadd, 1) := by decide +kernel
theorem dX12_readMishap_122 : decode cX12_readMishap 122 = .ok (.aload_n 0, 1) := by decide +kernel
theorem dX12_readMishap_123 : decode cX12_readMishap 123 = .ok (.aload_n 0, 1) := by decide +kernel
theorem dX12_readMishap_124 : decode cX12_readMishap 124 = .ok (.getfield 83, 3) := by decide +kernel
theorem dX12_readMishap_127 : decode cX12_readMishap 127 = .ok (.iload_n 1, 1) := by decide +kernel
theorem dX12_readMishap_128 : decode cX12_readMishap 128 = .ok (.iconst 2, 1) := by decide +kernel
theorem dX12_readMishap_129 : decode cX12_readMishap 129 = .ok (.iadd, 1) := by decide +kernel
theorem dX12_readMishap_130 : decode cX12_readMishap 130 = .ok (.iaload, 1) := by decide +kernel
theorem dX12_readMishap_131 : decode cX12_readMishap 131 = .ok (.sipush 599, 3) := by decide +kernel
theorem dX12_readMishap_134 : decode cX12_readMishap 134 = .ok (.invokevirtual 269, 3) := by decide +kernel
theorem dX12_readMishap_137 : decode cX12_readMishap 137 = .ok (.iastore, 1) := by decide +kernel
theorem dX12_readMishap_138 : decode cX12_readMishap 138 = .ok (.aload_n 0, 1) := by decide +kernel
theorem dX12_readMishap_139 : decode cX12_readMishap 139 = .ok (.getfield 83, 3) := by decide +kernel
theorem dX12_readMishap_142 : decode cX12_readMishap 142 = .ok (.iload_n 1, 1) := by decide +kernel
theorem dX12_readMishap_143 : decode cX12_readMishap 143 = .ok (.iconst 3, 1) := by decide +kernel
theorem dX12_readMishap_144 : decode cX12_readMishap 144 = .ok (.iadd, 1) := by decide +kernel
theorem dX12_readMishap_145 : decode cX12_readMishap 145 = .ok (.iaload, 1) := by decide +kernel
theorem dX12_readMishap_146 : decode cX12_readMishap 146 = .ok (.iconst (-1), 1) := by decide +kernel
theorem dX12_readMishap_147 : decode cX12_readMishap 147 = .ok (.if_icmp .ne 7, 3) := by decide +kernel
theorem dX12_readMishap_150 : decode cX12_readMishap 150 = .ok (.iconst (-1), 1) := by decide +kernel
theorem dX12_readMishap_151 : decode cX12_readMishap 151 = .ok (.goto 8, 3) := by decide +kernel
theorem dX12_readMishap_154 : decode cX12_readMishap 154 = .ok (.aload_n 0, 1) := by decide +kernel
theorem dX12_readMishap_155 : decode cX12_readMishap 155 = .ok (.iload_n 1, 1) := by decide +kernel
theorem dX12_readMishap_156 : decode cX12_readMishap 156 = .ok (.invokevirtual 306, 3) := by decide +kernel
theorem dX12_readMishap_159 : decode cX12_readMishap 159 = .ok (.ireturn, 1) := by decide +kernel
theorem wp_X12_readMishap_0 {d : Nat} {s : ev_S} {Q : Option ev_V → ev_S → Prop} {a1 : Int}
    (h : (Ev layM M_X12_readNumber d 0 [(0, ev_r 0), (1, ev_i 1), (2, ev_i 99)] [] s (ev_pi (fun r2 s1 => ((0 ≤ (ev_add a1 0) ∧ (ev_add a1 0) < (140 : Nat)) ∧ ∀ s3, ev_up s1 24 (Int.toNat (ev_add a1 0)) r2 = s3 → ((0 ≤ (ev_add a1 0) ∧ (ev_add a1 0) < (140 : Nat)) ∧ (((s3 24 (Int.toNat (ev_add a1 0))) = (-1) → Q (some (ev_i (-1))) s3) ∧ ((s3 24 (Int.toNat (ev_add a1 0))) ≠ (-1) → (Ev layM M_X12_readWord d 0 [(0, ev_r 0), (1, ev_i 22)] [] s3 (ev_pi (fun r5 s4 => ((r5 ≠ (-1) → (Ev layM M_X12_readPlace2 d 0 [(0, ev_r 0)] [] s4 (ev_pi (fun r7 s6 => ((0 ≤ (ev_add a1 1) ∧ (ev_add a1 1) < (140 : Nat)) ∧ ∀ s8, ev_up s6 24 (Int.toNat (ev_add a1 1)) r7 = s8 → ((0 ≤ (ev_add a1 1) ∧ (ev_add a1 1) < (140 : Nat)) ∧ (((s8 24 (Int.toNat (ev_add a1 1))) = (-1) → Q (some (ev_i (-1))) s8) ∧ ((s8 24 (Int.toNat (ev_add a1 1))) ≠ (-1) → (Ev layM M_X12_readWord d 0 [(0, ev_r 0), (1, ev_i 23)] [] s8 (ev_pi (fun r10 s9 => ((r10 ≠ (-1) → (Ev layM M_X12_readNumber d 0 [(0, ev_r 0), (1, ev_i 0), (2, ev_i 599)] [] s9 (ev_pi (fun r12 s11 => ((0 ≤ (ev_add a1 2) ∧ (ev_add a1 2) < (140 : Nat)) ∧ ∀ s13, ev_up s11 24 (Int.toNat (ev_add a1 2)) r12 = s13 → ((0 ≤ (ev_add a1 2) ∧ (ev_add a1 2) < (140 : Nat)) ∧ (((s13 24 (Int.toNat (ev_add a1 2))) = (-1) → Q (some (ev_i (-1))) s13) ∧ ((s13 24 (Int.toNat (ev_add a1 2))) ≠ (-1) → (Ev layM M_X12_readWord d 0 [(0, ev_r 0), (1, ev_i 24)] [] s13 (ev_pi (fun r15 s14 => ((r15 ≠ (-1) → ((0 ≤ (ev_add a1 2) ∧ (ev_add a1 2) < (140 : Nat)) ∧ (Ev layM M_X12_readNumber d 0 [(0, ev_r 0), (1, ev_i (s14 24 (Int.toNat (ev_add a1 2)))), (2, ev_i 599)] [] s14 (ev_pi (fun r17 s16 => ((0 ≤ (ev_add a1 3) ∧ (ev_add a1 3) < (140 : Nat)) ∧ ∀ s18, ev_up s16 24 (Int.toNat (ev_add a1 3)) r17 = s18 → ((0 ≤ (ev_add a1 3) ∧ (ev_add a1 3) < (140 : Nat)) ∧ (((s18 24 (Int.toNat (ev_add a1 3))) ≠ (-1) → (Ev layM M_X12_readRest d 0 [(0, ev_r 0), (1, ev_i a1)] [] s18 (ev_pi (fun r20 s19 => Q (some (ev_i r20)) s19)))) ∧ ((s18 24 (Int.toNat (ev_add a1 3))) = (-1) → Q (some (ev_i (-1))) s18))))))))) ∧ (r15 = (-1) → Q (some (ev_i (-1))) s14))))))))))))) ∧ (r10 = (-1) → Q (some (ev_i (-1))) s9))))))))))))) ∧ (r5 = (-1) → Q (some (ev_i (-1))) s4))))))))))))) :
    Ev layM M_X12_readMishap (d + 1) 0 [(0, ev_r 0), (1, ev_i a1)] [] s Q := by
  refine Ev_aload_n 0 dX12_readMishap_0 rfl rfl ?_
  refine Ev_getR (i := 47) cl_X12 yM_0 (Nat.le_of_ble_eq_true rfl) rfl wd_1491 dX12_readMishap_1 ?_
  refine Ev_iload_n 1 dX12_readMishap_4 rfl rfl ?_
  refine Ev_iconst dX12_readMishap_5 rfl (ev_Rc rfl) ?_
  refine Ev_iadd dX12_readMishap_6 ?_
  refine Ev_aload_n 0 dX12_readMishap_7 rfl rfl ?_
  refine Ev_iconst dX12_readMishap_8 rfl (ev_Rc rfl) ?_
  refine Ev_bipushC dX12_readMishap_9 rfl ?_
  refine Ev_callV (As := [ev_i 1, ev_i 99]) (b := 0) (st := [ev_i (ev_add a1 0), ev_r 24]) (M' := M_X12_readNumber) cm_X12_readNumber wd_1754 wd_1756 wd_89 yM_0 cl_X12 rfl dX12_readMishap_11 (Nat.le_refl _) rfl (Nat.le_of_ble_eq_true rfl) (Nat.le_of_ble_eq_true rfl) h (fun v u h hk => ?_)
  obtain ⟨r2, rfl⟩ := hk
  obtain ⟨s1, rfl⟩ : ∃ x, x = u := ⟨_, rfl⟩
  replace h := h r2 rfl
  obtain ⟨h0, h⟩ := h
  refine Ev_iast yM_24 h0 dX12_readMishap_14 (Ev_nm (fun s3 es3 => ?_))
  replace h := h s3 es3
  refine Ev_aload_n 0 dX12_readMishap_15 rfl rfl ?_
  refine Ev_getR (i := 47) cl_X12 yM_0 (Nat.le_of_ble_eq_true rfl) rfl wd_1491 dX12_readMishap_16 ?_
  refine Ev_iload_n 1 dX12_readMishap_19 rfl rfl ?_
  refine Ev_iconst dX12_readMishap_20 rfl (ev_Rc rfl) ?_
  refine Ev_iadd dX12_readMishap_21 ?_
  obtain ⟨h0, h⟩ := h
  refine Ev_iald yM_24 h0 dX12_readMishap_22 ?_
  refine Ev_iconst dX12_readMishap_23 rfl (ev_Rc rfl) ?_
  refine Ev_icmp_eq (tgt := 37) dX12_readMishap_24 rfl (fun c => ?_) (fun c => ?_)
  · replace h := h.1 c
    refine Ev_iconst dX12_readMishap_37 rfl (ev_Rc rfl) ?_
    exact Ev_iret rfl dX12_readMishap_38 rfl h
  · replace h := h.2 c
    refine Ev_aload_n 0 dX12_readMishap_27 rfl rfl ?_
    refine Ev_bipushC dX12_readMishap_28 rfl ?_
    refine Ev_callV (As := [ev_i 22]) (b := 0) (st := []) (M' := M_X12_readWord) cm_X12_readWord wd_1790 wd_1792 wd_98 yM_0 cl_X12 rfl dX12_readMishap_30 (Nat.le_refl _) rfl (Nat.le_of_ble_eq_true rfl) (Nat.le_of_ble_eq_true rfl) h (fun v u h hk => ?_)
    obtain ⟨r5, rfl⟩ := hk
    obtain ⟨s4, rfl⟩ : ∃ x, x = u := ⟨_, rfl⟩
    replace h := h r5 rfl
    refine Ev_iconst dX12_readMishap_33 rfl (ev_Rc rfl) ?_
    refine Ev_icmp_ne (tgt := 39) dX12_readMishap_34 rfl (fun c => ?_) (fun c => ?_)
    · replace h := h.1 c
      refine Ev_aload_n 0 dX12_readMishap_39 rfl rfl ?_
      refine Ev_getR (i := 47) cl_X12 yM_0 (Nat.le_of_ble_eq_true rfl) rfl wd_1491 dX12_readMishap_40 ?_
      refine Ev_iload_n 1 dX12_readMishap_43 rfl rfl ?_
      refine Ev_iconst dX12_readMishap_44 rfl (ev_Rc rfl) ?_
      refine Ev_iadd dX12_readMishap_45 ?_
      refine Ev_aload_n 0 dX12_readMishap_46 rfl rfl ?_
      refine Ev_callV (As := []) (b := 0) (st := [ev_i (ev_add a1 1), ev_r 24]) (M' := M_X12_readPlace2) cm_X12_readPlace2 wd_1794 wd_1796 wd_99 yM_0 cl_X12 rfl dX12_readMishap_47 (Nat.le_refl _) rfl (Nat.le_of_ble_eq_true rfl) (Nat.le_of_ble_eq_true rfl) h (fun v u h hk => ?_)
      obtain ⟨r7, rfl⟩ := hk
      obtain ⟨s6, rfl⟩ : ∃ x, x = u := ⟨_, rfl⟩
      replace h := h r7 rfl
      obtain ⟨h0, h⟩ := h
      refine Ev_iast yM_24 h0 dX12_readMishap_50 (Ev_nm (fun s8 es8 => ?_))
      replace h := h s8 es8
      refine Ev_aload_n 0 dX12_readMishap_51 rfl rfl ?_
      refine Ev_getR (i := 47) cl_X12 yM_0 (Nat.le_of_ble_eq_true rfl) rfl wd_1491 dX12_readMishap_52 ?_
      refine Ev_iload_n 1 dX12_readMishap_55 rfl rfl ?_
      refine Ev_iconst dX12_readMishap_56 rfl (ev_Rc rfl) ?_
      refine Ev_iadd dX12_readMishap_57 ?_
      obtain ⟨h0, h⟩ := h
      refine Ev_iald yM_24 h0 dX12_readMishap_58 ?_
      refine Ev_iconst dX12_readMishap_59 rfl (ev_Rc rfl) ?_
      refine Ev_icmp_eq (tgt := 73) dX12_readMishap_60 rfl (fun c => ?_) (fun c => ?_)
      · replace h := h.1 c
        refine Ev_iconst dX12_readMishap_73 rfl (ev_Rc rfl) ?_
        exact Ev_iret rfl dX12_readMishap_74 rfl h
      · replace h := h.2 c
        refine Ev_aload_n 0 dX12_readMishap_63 rfl rfl ?_
        refine Ev_bipushC dX12_readMishap_64 rfl ?_
        refine Ev_callV (As := [ev_i 23]) (b := 0) (st := []) (M' := M_X12_readWord) cm_X12_readWord wd_1790 wd_1792 wd_98 yM_0 cl_X12 rfl dX12_readMishap_66 (Nat.le_refl _) rfl (Nat.le_of_ble_eq_true rfl) (Nat.le_of_ble_eq_true rfl) h (fun v u h hk => ?_)
        obtain ⟨r10, rfl⟩ := hk
        obtain ⟨s9, rfl⟩ : ∃ x, x = u := ⟨_, rfl⟩
        replace h := h r10 rfl
        refine Ev_iconst dX12_readMishap_69 rfl (ev_Rc rfl) ?_
        refine Ev_icmp_ne (tgt := 75) dX12_readMishap_70 rfl (fun c => ?_) (fun c => ?_)
        · replace h := h.1 c
          refine Ev_aload_n 0 dX12_readMishap_75 rfl rfl ?_
          refine Ev_getR (i := 47) cl_X12 yM_0 (Nat.le_of_ble_eq_true rfl) rfl wd_1491 dX12_readMishap_76 ?_
          refine Ev_iload_n 1 dX12_readMishap_79 rfl rfl ?_
          refine Ev_iconst dX12_readMishap_80 rfl (ev_Rc rfl) ?_
          refine Ev_iadd dX12_readMishap_81 ?_
          refine Ev_aload_n 0 dX12_readMishap_82 rfl rfl ?_
          refine Ev_iconst dX12_readMishap_83 rfl (ev_Rc rfl) ?_
          refine Ev_sipushC dX12_readMishap_84 rfl ?_
          refine Ev_callV (As := [ev_i 0, ev_i 599]) (b := 0) (st := [ev_i (ev_add a1 2), ev_r 24]) (M' := M_X12_readNumber) cm_X12_readNumber wd_1754 wd_1756 wd_89 yM_0 cl_X12 rfl dX12_readMishap_87 (Nat.le_refl _) rfl (Nat.le_of_ble_eq_true rfl) (Nat.le_of_ble_eq_true rfl) h (fun v u h hk => ?_)
          obtain ⟨r12, rfl⟩ := hk
          obtain ⟨s11, rfl⟩ : ∃ x, x = u := ⟨_, rfl⟩
          replace h := h r12 rfl
          obtain ⟨h0, h⟩ := h
          refine Ev_iast yM_24 h0 dX12_readMishap_90 (Ev_nm (fun s13 es13 => ?_))
          replace h := h s13 es13
          refine Ev_aload_n 0 dX12_readMishap_91 rfl rfl ?_
          refine Ev_getR (i := 47) cl_X12 yM_0 (Nat.le_of_ble_eq_true rfl) rfl wd_1491 dX12_readMishap_92 ?_
          refine Ev_iload_n 1 dX12_readMishap_95 rfl rfl ?_
          refine Ev_iconst dX12_readMishap_96 rfl (ev_Rc rfl) ?_
          refine Ev_iadd dX12_readMishap_97 ?_
          obtain ⟨h0, h⟩ := h
          refine Ev_iald yM_24 h0 dX12_readMishap_98 ?_
          refine Ev_iconst dX12_readMishap_99 rfl (ev_Rc rfl) ?_
          refine Ev_icmp_eq (tgt := 113) dX12_readMishap_100 rfl (fun c => ?_) (fun c => ?_)
          · replace h := h.1 c
            refine Ev_iconst dX12_readMishap_113 rfl (ev_Rc rfl) ?_
            exact Ev_iret rfl dX12_readMishap_114 rfl h
          · replace h := h.2 c
            refine Ev_aload_n 0 dX12_readMishap_103 rfl rfl ?_
            refine Ev_bipushC dX12_readMishap_104 rfl ?_
            refine Ev_callV (As := [ev_i 24]) (b := 0) (st := []) (M' := M_X12_readWord) cm_X12_readWord wd_1790 wd_1792 wd_98 yM_0 cl_X12 rfl dX12_readMishap_106 (Nat.le_refl _) rfl (Nat.le_of_ble_eq_true rfl) (Nat.le_of_ble_eq_true rfl) h (fun v u h hk => ?_)
            obtain ⟨r15, rfl⟩ := hk
            obtain ⟨s14, rfl⟩ : ∃ x, x = u := ⟨_, rfl⟩
            replace h := h r15 rfl
            refine Ev_iconst dX12_readMishap_109 rfl (ev_Rc rfl) ?_
            refine Ev_icmp_ne (tgt := 115) dX12_readMishap_110 rfl (fun c => ?_) (fun c => ?_)
            · replace h := h.1 c
              refine Ev_aload_n 0 dX12_readMishap_115 rfl rfl ?_
              refine Ev_getR (i := 47) cl_X12 yM_0 (Nat.le_of_ble_eq_true rfl) rfl wd_1491 dX12_readMishap_116 ?_
              refine Ev_iload_n 1 dX12_readMishap_119 rfl rfl ?_
              refine Ev_iconst dX12_readMishap_120 rfl (ev_Rc rfl) ?_
              refine Ev_iadd dX12_readMishap_121 ?_
              refine Ev_aload_n 0 dX12_readMishap_122 rfl rfl ?_
              refine Ev_aload_n 0 dX12_readMishap_123 rfl rfl ?_
              refine Ev_getR (i := 47) cl_X12 yM_0 (Nat.le_of_ble_eq_true rfl) rfl wd_1491 dX12_readMishap_124 ?_
              refine Ev_iload_n 1 dX12_readMishap_127 rfl rfl ?_
              refine Ev_iconst dX12_readMishap_128 rfl (ev_Rc rfl) ?_
              refine Ev_iadd dX12_readMishap_129 ?_
              obtain ⟨h0, h⟩ := h
              refine Ev_iald yM_24 h0 dX12_readMishap_130 ?_
              refine Ev_sipushC dX12_readMishap_131 rfl ?_
              refine Ev_callV (As := [ev_i (s14 24 (Int.toNat (ev_add a1 2))), ev_i 599]) (b := 0) (st := [ev_i (ev_add a1 3), ev_r 24]) (M' := M_X12_readNumber) cm_X12_readNumber wd_1754 wd_1756 wd_89 yM_0 cl_X12 rfl dX12_readMishap_134 (Nat.le_refl _) rfl (Nat.le_of_ble_eq_true rfl) (Nat.le_of_ble_eq_true rfl) h (fun v u h hk => ?_)
              obtain ⟨r17, rfl⟩ := hk
              obtain ⟨s16, rfl⟩ : ∃ x, x = u := ⟨_, rfl⟩
              replace h := h r17 rfl
              obtain ⟨h0, h⟩ := h
              refine Ev_iast yM_24 h0 dX12_readMishap_137 (Ev_nm (fun s18 es18 => ?_))
              replace h := h s18 es18
              refine Ev_aload_n 0 dX12_readMishap_138 rfl rfl ?_
              refine Ev_getR (i := 47) cl_X12 yM_0 (Nat.le_of_ble_eq_true rfl) rfl wd_1491 dX12_readMishap_139 ?_
              refine Ev_iload_n 1 dX12_readMishap_142 rfl rfl ?_
              refine Ev_iconst dX12_readMishap_143 rfl (ev_Rc rfl) ?_
              refine Ev_iadd dX12_readMishap_144 ?_
              obtain ⟨h0, h⟩ := h
              refine Ev_iald yM_24 h0 dX12_readMishap_145 ?_
              refine Ev_iconst dX12_readMishap_146 rfl (ev_Rc rfl) ?_
              refine Ev_icmp_ne (tgt := 154) dX12_readMishap_147 rfl (fun c => ?_) (fun c => ?_)
              · replace h := h.1 c
                refine Ev_aload_n 0 dX12_readMishap_154 rfl rfl ?_
                refine Ev_iload_n 1 dX12_readMishap_155 rfl rfl ?_
                refine Ev_callV (As := [ev_i a1]) (b := 0) (st := []) (M' := M_X12_readRest) cm_X12_readRest wd_1798 wd_1800 wd_100 yM_0 cl_X12 rfl dX12_readMishap_156 (Nat.le_refl _) rfl (Nat.le_of_ble_eq_true rfl) (Nat.le_of_ble_eq_true rfl) h (fun v u h hk => ?_)
                obtain ⟨r20, rfl⟩ := hk
                obtain ⟨s19, rfl⟩ : ∃ x, x = u := ⟨_, rfl⟩
                replace h := h r20 rfl
                exact Ev_iret rfl dX12_readMishap_159 rfl h
              · replace h := h.2 c
                refine Ev_iconst dX12_readMishap_150 rfl (ev_Rc rfl) ?_
                refine Ev_goto (tgt := 159) dX12_readMishap_151 rfl ?_
                exact Ev_iret rfl dX12_readMishap_159 rfl h
            · replace h := h.2 c
              refine Ev_iconst dX12_readMishap_113 rfl (ev_Rc rfl) ?_
              exact Ev_iret rfl dX12_readMishap_114 rfl h
        · replace h := h.2 c
          refine Ev_iconst dX12_readMishap_73 rfl (ev_Rc rfl) ?_
          exact Ev_iret rfl dX12_readMishap_74 rfl h
    · replace h := h.2 c
      refine Ev_iconst dX12_readMishap_37 rfl (ev_Rc rfl) ?_
      exact Ev_iret rfl dX12_readMishap_38 rfl h
theorem dX12_readMishaps_0 : decode cX12_readMishaps 0 = .ok (.iconst 0, 1) := by decide +kernel
theorem dX12_readMishaps_1 : decode cX12_readMishaps 1 = .ok (.istore_n 1, 1) := by decide +kernel
theorem dX12_readMishaps_2 : decode cX12_readMishaps 2 = .ok (.aload_n 0, 1) := by decide +kernel
theorem dX12_readMishaps_3 : decode cX12_readMishaps 3 = .ok (.bipush 21, 2) := by decide +kernel
theorem dX12_readMishaps_5 : decode cX12_readMishaps 5 = .ok (.invokevirtual 251, 3) := by decide +kernel
theorem dX12_readMishaps_8 : decode cX12_readMishaps 8 = .ok (.ifCond .eq 43, 3) := by decide +kernel
theorem dX12_readMishaps_11 : decode cX12_readMishaps 11 = .ok (.iload_n 1, 1) := by decide +kernel
theorem dX12_readMishaps_12 : decode cX12_readMishaps 12 = .ok (.bipush 10, 2) := by decide +kernel
theorem dX12_readMishaps_14 : decode cX12_readMishaps 14 = .ok (.if_icmp .ne 9, 3) := by decide +kernel
theorem dX12_readMishaps_17 : decode cX12_readMishaps 17 = .ok (.aload_n 0, 1) := by decide +kernel
theorem dX12_readMishaps_18 : decode cX12_readMishaps 18 = .ok (.iconst 3, 1) := by decide +kernel
theorem dX12_readMishaps_19 : decode cX12_readMishaps 19 = .ok (.invokevirtual 222, 3) := by decide +kernel
theorem dX12_readMishaps_22 : decode cX12_readMishaps 22 = .ok (.ireturn, 1) := by decide +kernel
theorem dX12_readMishaps_23 : decode cX12_readMishaps 23 = .ok (.aload_n 0, 1) := by decide +kernel
theorem dX12_readMishaps_24 : decode cX12_readMishaps 24 = .ok (.invokevirtual 229, 3) := by decide +kernel
theorem dX12_readMishaps_27 : decode cX12_readMishaps 27 = .ok (.aload_n 0, 1) := by decide +kernel
theorem dX12_readMishaps_28 : decode cX12_readMishaps 28 = .ok (.bipush 70, 2) := by decide +kernel
theorem dX12_readMishaps_30 : decode cX12_readMishaps 30 = .ok (.bipush 7, 2) := by decide +kernel
theorem dX12_readMishaps_32 : decode cX12_readMishaps 32 = .ok (.iload_n 1, 1) := by decide +kernel
theorem dX12_readMishaps_33 : decode cX12_readMishaps 33 = .ok (.imul, 1) := by decide +kernel
theorem dX12_readMishaps_34 : decode cX12_readMishaps 34 = .ok (.iadd, 1) := by decide +kernel
theorem dX12_readMishaps_35 : decode cX12_readMishaps 35 = .ok (.invokevirtual 309, 3) := by decide +kernel
theorem dX12_readMishaps_38 : decode cX12_readMishaps 38 = .ok (.iconst (-1), 1) := by decide +kernel
theorem dX12_readMishaps_39 : decode cX12_readMishaps 39 = .ok (.if_icmp .ne 5, 3) := by decide +kernel
theorem dX12_readMishaps_42 : decode cX12_readMishaps 42 = .ok (.iconst (-1), 1) := by decide +kernel
theorem dX12_readMishaps_43 : decode cX12_readMishaps 43 = .ok (.ireturn, 1) := by decide +kernel
theorem dX12_readMishaps_44 : decode cX12_readMishaps 44 = .ok (.iload_n 1, 1) := by decide +kernel
theorem dX12_readMishaps_45 : decode cX12_readMishaps 45 = .ok (.iconst 1, 1) := by decide +kernel
theorem dX12_readMishaps_46 : decode cX12_readMishaps 46 = .ok (.iadd, 1) := by decide +kernel
theorem dX12_readMishaps_47 : decode cX12_readMishaps 47 = .ok (.istore_n 1, 1) := by decide +kernel
theorem dX12_readMishaps_48 : decode cX12_readMishaps 48 = .ok (.goto (-46), 3) := by decide +kernel
theorem dX12_readMishaps_51 : decode cX12_readMishaps 51 = .ok (.aload_n 0, 1) := by decide +kernel
theorem dX12_readMishaps_52 : decode cX12_readMishaps 52 = .ok (.getfield 194, 3) := by decide +kernel
theorem dX12_readMishaps_55 : decode cX12_readMishaps 55 = .ok (.ifCond .ne 7, 3) := by decide +kernel
theorem dX12_readMishaps_58 : decode cX12_readMishaps 58 = .ok (.iload_n 1, 1) := by decide +kernel
theorem dX12_readMishaps_59 : decode cX12_readMishaps 59 = .ok (.goto 8, 3) := by decide +kernel
theorem dX12_readMishaps_62 : decode cX12_readMishaps 62 = .ok (.aload_n 0, 1) := by decide +kernel
theorem dX12_readMishaps_63 : decode cX12_readMishaps 63 = .ok (.iconst 1, 1) := by decide +kernel
theorem dX12_readMishaps_64 : decode cX12_readMishaps 64 = .ok (.invokevirtual 222, 3) := by decide +kernel
theorem dX12_readMishaps_67 : decode cX12_readMishaps 67 = .ok (.ireturn, 1) := by decide +kernel
theorem wp_X12_readMishaps_0 {d : Nat} {s : ev_S} {Q : Option ev_V → ev_S → Prop}
    (h : Ev layM M_X12_readMishaps (d + 1) 2 [(0, ev_r 0), (1, ev_i 0)] [] s Q) :
    Ev layM M_X12_readMishaps (d + 1) 0 [(0, ev_r 0)] [] s Q := by
  refine Ev_iconst dX12_readMishaps_0 rfl (ev_Rc rfl) ?_
  refine Ev_istore_n (l' := [(1, ev_i 0), (0, ev_r 0)]) dX12_readMishaps_1 rfl (Nat.le_of_ble_eq_true rfl) rfl ?_
  exact Ev_sub [1, 0] rfl h
theorem wp_X12_readMishaps_2 {d : Nat} {s : ev_S} {Q : Option ev_V → ev_S → Prop} {a1 : Int}
    (h : (Ev layM M_X12_isWord d 0 [(0, ev_r 0), (1, ev_i 21)] [] s (ev_pi (fun r2 s1 => ((r2 = 0 → (((s1 0 22) ≠ 0 → (Ev layM M_X12_errs d 0 [(0, ev_r 0), (1, ev_i 1)] [] s1 (ev_pi (fun r4 s3 => Q (some (ev_i r4)) s3)))) ∧ ((s1 0 22) = 0 → Q (some (ev_i a1)) s1))) ∧ (r2 ≠ 0 → ((a1 ≠ 10 → (Ev layM M_X12_reads d 0 [(0, ev_r 0)] [] s1 (fun _ s5 => (Ev layM M_X12_readMishap d 0 [(0, ev_r 0), (1, ev_i (ev_add 70 (ev_mul 7 a1)))] [] s5 (ev_pi (fun r7 s6 => ((r7 ≠ (-1) → Ev layM M_X12_readMishaps (d + 1) 2 [(0, ev_r 0), (1, ev_i (ev_add a1 1))] [] s6 Q) ∧ (r7 = (-1) → Q (some (ev_i (-1))) s6)))))))) ∧ (a1 = 10 → (Ev layM M_X12_errs d 0 [(0, ev_r 0), (1, ev_i 3)] [] s1 (ev_pi (fun r9 s8 => Q (some (ev_i r9)) s8))))))))))) :
    Ev layM M_X12_readMishaps (d + 1) 2 [(0, ev_r 0), (1, ev_i a1)] [] s Q := by
  refine Ev_aload_n 0 dX12_readMishaps_2 rfl rfl ?_
  refine Ev_bipushC dX12_readMishaps_3 rfl ?_
  refine Ev_callV (As := [ev_i 21]) (b := 0) (st := []) (M' := M_X12_isWord) cm_X12_isWord wd_1742 wd_1744 wd_86 yM_0 cl_X12 rfl dX12_readMishaps_5 (Nat.le_refl _) rfl (Nat.le_of_ble_eq_true rfl) (Nat.le_of_ble_eq_true rfl) h (fun v u h hk => ?_)
  obtain ⟨r2, rfl⟩ := hk
  obtain ⟨s1, rfl⟩ : ∃ x, x = u := ⟨_, rfl⟩
  replace h := h r2 rfl
  refine Ev_if_eq (tgt := 51) dX12_readMishaps_8 rfl (fun c => ?_) (fun c => ?_)
  · replace h := h.1 c
    refine Ev_aload_n 0 dX12_readMishaps_51 rfl rfl ?_
    refine Ev_get (i := 22) cl_X12 yM_0 (Nat.le_of_ble_eq_true rfl) rfl wd_1466 dX12_readMishaps_52 ?_
    refine Ev_if_ne (tgt := 62) dX12_readMishaps_55 rfl (fun c => ?_) (fun c => ?_)
    · replace h := h.1 c
      refine Ev_aload_n 0 dX12_readMishaps_62 rfl rfl ?_
      refine Ev_iconst dX12_readMishaps_63 rfl (ev_Rc rfl) ?_
      refine Ev_callV (As := [ev_i 1]) (b := 0) (st := []) (M' := M_X12_errs) cm_X12_errs wd_1758 wd_1760 wd_90 yM_0 cl_X12 rfl dX12_readMishaps_64 (Nat.le_refl _) rfl (Nat.le_of_ble_eq_true rfl) (Nat.le_of_ble_eq_true rfl) h (fun v u h hk => ?_)
      obtain ⟨r4, rfl⟩ := hk
      obtain ⟨s3, rfl⟩ : ∃ x, x = u := ⟨_, rfl⟩
      replace h := h r4 rfl
      exact Ev_iret rfl dX12_readMishaps_67 rfl h
    · replace h := h.2 c
      refine Ev_iload_n 1 dX12_readMishaps_58 rfl rfl ?_
      refine Ev_goto (tgt := 67) dX12_readMishaps_59 rfl ?_
      exact Ev_iret rfl dX12_readMishaps_67 rfl h
  · replace h := h.2 c
    refine Ev_iload_n 1 dX12_readMishaps_11 rfl rfl ?_
    refine Ev_bipushC dX12_readMishaps_12 rfl ?_
    refine Ev_icmp_ne (tgt := 23) dX12_readMishaps_14 rfl (fun c => ?_) (fun c => ?_)
    · replace h := h.1 c
      refine Ev_aload_n 0 dX12_readMishaps_23 rfl rfl ?_
      refine Ev_callV (As := []) (b := 0) (st := []) (M' := M_X12_reads) cm_X12_reads wd_1706 wd_1708 wd_77 yM_0 cl_X12 rfl dX12_readMishaps_24 (Nat.le_refl _) rfl (Nat.le_of_ble_eq_true rfl) (Nat.le_of_ble_eq_true rfl) h (fun v u h hk => ?_)
      cases hk
      obtain ⟨s5, rfl⟩ : ∃ x, x = u := ⟨_, rfl⟩
      refine Ev_aload_n 0 dX12_readMishaps_27 rfl rfl ?_
      refine Ev_bipushC dX12_readMishaps_28 rfl ?_
      refine Ev_bipushC dX12_readMishaps_30 rfl ?_
      refine Ev_iload_n 1 dX12_readMishaps_32 rfl rfl ?_
      refine Ev_imul dX12_readMishaps_33 ?_
      refine Ev_iadd dX12_readMishaps_34 ?_
      refine Ev_callV (As := [ev_i (ev_add 70 (ev_mul 7 a1))]) (b := 0) (st := []) (M' := M_X12_readMishap) cm_X12_readMishap wd_1786 wd_1788 wd_97 yM_0 cl_X12 rfl dX12_readMishaps_35 (Nat.le_refl _) rfl (Nat.le_of_ble_eq_true rfl) (Nat.le_of_ble_eq_true rfl) h (fun v u h hk => ?_)
      obtain ⟨r7, rfl⟩ := hk
      obtain ⟨s6, rfl⟩ : ∃ x, x = u := ⟨_, rfl⟩
      replace h := h r7 rfl
      refine Ev_iconst dX12_readMishaps_38 rfl (ev_Rc rfl) ?_
      refine Ev_icmp_ne (tgt := 44) dX12_readMishaps_39 rfl (fun c => ?_) (fun c => ?_)
      · replace h := h.1 c
        refine Ev_iload_n 1 dX12_readMishaps_44 rfl rfl ?_
        refine Ev_iconst dX12_readMishaps_45 rfl (ev_Rc rfl) ?_
        refine Ev_iadd dX12_readMishaps_46 ?_
        refine Ev_istore_n (l' := [(1, ev_i (ev_add a1 1)), (0, ev_r 0)]) dX12_readMishaps_47 rfl (Nat.le_of_ble_eq_true rfl) rfl ?_
        refine Ev_goto (tgt := 2) dX12_readMishaps_48 rfl ?_
        exact Ev_sub [1, 0] rfl h
      · replace h := h.2 c
        refine Ev_iconst dX12_readMishaps_42 rfl (ev_Rc rfl) ?_
        exact Ev_iret rfl dX12_readMishaps_43 rfl h
    · replace h := h.2 c
      refine Ev_aload_n 0 dX12_readMishaps_17 rfl rfl ?_
      refine Ev_iconst dX12_readMishaps_18 rfl (ev_Rc rfl) ?_
      refine Ev_callV (As := [ev_i 3]) (b := 0) (st := []) (M' := M_X12_errs) cm_X12_errs wd_1758 wd_1760 wd_90 yM_0 cl_X12 rfl dX12_readMishaps_19 (Nat.le_refl _) rfl (Nat.le_of_ble_eq_true rfl) (Nat.le_of_ble_eq_true rfl) h (fun v u h hk => ?_)
      obtain ⟨r9, rfl⟩ := hk
      obtain ⟨s8, rfl⟩ : ∃ x, x = u := ⟨_, rfl⟩
      replace h := h r9 rfl
      exact Ev_iret rfl dX12_readMishaps_22 rfl h
theorem dX12_takesMishaps_0 : decode cX12_takesMishaps 0 = .ok (.iconst 0, 1) := by decide +kernel
theorem dX12_takesMishaps_1 : decode cX12_takesMishaps 1 = .ok (.istore_n 2, 1) := by decide +kernel
theorem dX12_takesMishaps_2 : decode cX12_takesMishaps 2 = .ok (.iload_n 2, 1) := by decide +kernel
theorem dX12_takesMishaps_3 : decode cX12_takesMishaps 3 = .ok (.bipush 7, 2) := by decide +kernel
theorem dX12_takesMishaps_5 : decode cX12_takesMishaps 5 = .ok (.iload_n 1, 1) := by decide +kernel
theorem dX12_takesMishaps_6 : decode cX12_takesMishaps 6 = .ok (.imul, 1) := by decide +kernel
theorem dX12_takesMishaps_7 : decode cX12_takesMishaps 7 = .ok (.if_icmp .ge 24, 3) := by decide +kernel
theorem dX12_takesMishaps_10 : decode cX12_takesMishaps 10 = .ok (.aload_n 0, 1) := by decide +kernel
theorem dX12_takesMishaps_11 : decode cX12_takesMishaps 11 = .ok (.getfield 83, 3) := by decide +kernel
theorem dX12_takesMishaps_14 : decode cX12_takesMishaps 14 = .ok (.iload_n 2, 1) := by decide +kernel
theorem dX12_takesMishaps_15 : decode cX12_takesMishaps 15 = .ok (.aload_n 0, 1) := by decide +kernel
theorem dX12_takesMishaps_16 : decode cX12_takesMishaps 16 = .ok (.getfield 83, 3) := by decide +kernel
theorem dX12_takesMishaps_19 : decode cX12_takesMishaps 19 = .ok (.bipush 70, 2) := by decide +kernel
theorem dX12_takesMishaps_21 : decode cX12_takesMishaps 21 = .ok (.iload_n 2, 1) := by decide +kernel
theorem dX12_takesMishaps_22 : decode cX12_takesMishaps 22 = .ok (.iadd, 1) := by decide +kernel
theorem dX12_takesMishaps_23 : decode cX12_takesMishaps 23 = .ok (.iaload, 1) := by decide +kernel
theorem dX12_takesMishaps_24 : decode cX12_takesMishaps 24 = .ok (.iastore, 1) := by decide +kernel
theorem dX12_takesMishaps_25 : decode cX12_takesMishaps 25 = .ok (.iinc 2 1, 3) := by decide +kernel
theorem dX12_takesMishaps_28 : decode cX12_takesMishaps 28 = .ok (.goto (-26), 3) := by decide +kernel
theorem dX12_takesMishaps_31 : decode cX12_takesMishaps 31 = .ok (.aload_n 0, 1) := by decide +kernel
theorem dX12_takesMishaps_32 : decode cX12_takesMishaps 32 = .ok (.iload_n 1, 1) := by decide +kernel
theorem dX12_takesMishaps_33 : decode cX12_takesMishaps 33 = .ok (.putfield 165, 3) := by decide +kernel
theorem dX12_takesMishaps_36 : decode cX12_takesMishaps 36 = .ok (.iconst 0, 1) := by decide +kernel
theorem dX12_takesMishaps_37 : decode cX12_takesMishaps 37 = .ok (.istore_n 2, 1) := by decide +kernel
theorem dX12_takesMishaps_38 : decode cX12_takesMishaps 38 = .ok (.iload_n 2, 1) := by decide +kernel
theorem dX12_takesMishaps_39 : decode cX12_takesMishaps 39 = .ok (.bipush 10, 2) := by decide +kernel
theorem dX12_takesMishaps_41 : decode cX12_takesMishaps 41 = .ok (.if_icmp .ge 39, 3) := by decide +kernel
theorem dX12_takesMishaps_44 : decode cX12_takesMishaps 44 = .ok (.aload_n 0, 1) := by decide +kernel
theorem dX12_takesMishaps_45 : decode cX12_takesMishaps 45 = .ok (.getfield 7, 3) := by decide +kernel
theorem dX12_takesMishaps_48 : decode cX12_takesMishaps 48 = .ok (.bipush 57, 2) := by decide +kernel
theorem dX12_takesMishaps_50 : decode cX12_takesMishaps 50 = .ok (.iload_n 2, 1) := by decide +kernel
theorem dX12_takesMishaps_51 : decode cX12_takesMishaps 51 = .ok (.iadd, 1) := by decide +kernel
theorem dX12_takesMishaps_52 : decode cX12_takesMishaps 52 = .ok (.iconst 0, 1) := by decide +kernel
theorem dX12_takesMishaps_53 : decode cX12_takesMishaps 53 = .ok (.iastore, 1) := by decide +kernel
theorem dX12_takesMishaps_54 : decode cX12_takesMishaps 54 = .ok (.aload_n 0, 1) := by decide +kernel
theorem dX12_takesMishaps_55 : decode cX12_takesMishaps 55 = .ok (.getfield 7, 3) := by decide +kernel
theorem dX12_takesMishaps_58 : decode cX12_takesMishaps 58 = .ok (.bipush 67, 2) := by decide +kernel
theorem dX12_takesMishaps_60 : decode cX12_takesMishaps 60 = .ok (.iload_n 2, 1) := by decide +kernel
theorem dX12_takesMishaps_61 : decode cX12_takesMishaps 61 = .ok (.iadd, 1) := by decide +kernel
theorem dX12_takesMishaps_62 : decode cX12_takesMishaps 62 = .ok (.iconst 0, 1) := by decide +kernel
theorem dX12_takesMishaps_63 : decode cX12_takesMishaps 63 = .ok (.iastore, 1) := by decide +kernel
theorem dX12_takesMishaps_64 : decode cX12_takesMishaps 64 = .ok (.aload_n 0, 1) := by decide +kernel
theorem dX12_takesMishaps_65 : decode cX12_takesMishaps 65 = .ok (.getfield 7, 3) := by decide +kernel
theorem dX12_takesMishaps_68 : decode cX12_takesMishaps 68 = .ok (.bipush 77, 2) := by decide +kernel
theorem dX12_takesMishaps_70 : decode cX12_takesMishaps 70 = .ok (.iload_n 2, 1) := by decide +kernel
theorem dX12_takesMishaps_71 : decode cX12_takesMishaps 71 = .ok (.iadd, 1) := by decide +kernel
theorem dX12_takesMishaps_72 : decode cX12_takesMishaps 72 = .ok (.iconst 0, 1) := by decide +kernel
theorem dX12_takesMishaps_73 : decode cX12_takesMishaps 73 = .ok (.iastore, 1) := by decide +kernel
theorem dX12_takesMishaps_74 : decode cX12_takesMishaps 74 = .ok (.iinc 2 1, 3) := by decide +kernel
theorem dX12_takesMishaps_77 : decode cX12_takesMishaps 77 = .ok (.goto (-39), 3) := by decide +kernel
theorem dX12_takesMishaps_80 : decode cX12_takesMishaps 80 = .ok (.return_, 1) := by decide +kernel
theorem wp_X12_takesMishaps_0 {d : Nat} {s : ev_S} {Q : Option ev_V → ev_S → Prop} {a1 : Int}
    (h : Ev layM M_X12_takesMishaps d 2 [(0, ev_r 0), (1, ev_i a1), (2, ev_i 0)] [] s Q) :
    Ev layM M_X12_takesMishaps d 0 [(0, ev_r 0), (1, ev_i a1)] [] s Q := by
  refine Ev_iconst dX12_takesMishaps_0 rfl (ev_Rc rfl) ?_
  refine Ev_istore_n (l' := [(2, ev_i 0), (0, ev_r 0), (1, ev_i a1)]) dX12_takesMishaps_1 rfl (Nat.le_of_ble_eq_true rfl) rfl ?_
  exact Ev_sub [1, 2, 0] rfl h
theorem wp_X12_takesMishaps_2 {d : Nat} {s : ev_S} {Q : Option ev_V → ev_S → Prop} {a1 a2 : Int}
    (h : (((ev_mul 7 a1) ≤ a2 → (∀ s1, ev_up s 0 46 a1 = s1 → Ev layM M_X12_takesMishaps d 38 [(0, ev_r 0), (2, ev_i 0)] [] s1 Q)) ∧ (a2 < (ev_mul 7 a1) → ((0 ≤ (ev_add 70 a2) ∧ (ev_add 70 a2) < (140 : Nat)) ∧ ((0 ≤ a2 ∧ a2 < (140 : Nat)) ∧ ∀ s2, ev_up s 24 (Int.toNat a2) (s 24 (Int.toNat (ev_add 70 a2))) = s2 → Ev layM M_X12_takesMishaps d 2 [(0, ev_r 0), (1, ev_i a1), (2, ev_i (ev_add a2 1))] [] s2 Q))))) :
    Ev layM M_X12_takesMishaps d 2 [(0, ev_r 0), (1, ev_i a1), (2, ev_i a2)] [] s Q := by
  refine Ev_iload_n 2 dX12_takesMishaps_2 rfl rfl ?_
  refine Ev_bipushC dX12_takesMishaps_3 rfl ?_
  refine Ev_iload_n 1 dX12_takesMishaps_5 rfl rfl ?_
  refine Ev_imul dX12_takesMishaps_6 ?_
  refine Ev_icmp_ge (tgt := 31) dX12_takesMishaps_7 rfl (fun c => ?_) (fun c => ?_)
  · replace h := h.1 c
    refine Ev_aload_n 0 dX12_takesMishaps_31 rfl rfl ?_
    refine Ev_iload_n 1 dX12_takesMishaps_32 rfl rfl ?_
    refine Ev_put (i := 46) (ty := .int) cl_X12 yM_0 (Nat.le_of_ble_eq_true rfl) rfl rfl (by decide +kernel) rfl rfl wd_1490 dX12_takesMishaps_33 (Ev_nm (fun s1 es1 => ?_))
    replace h := h s1 es1
    refine Ev_iconst dX12_takesMishaps_36 rfl (ev_Rc rfl) ?_
    refine Ev_istore_n (l' := [(2, ev_i 0), (0, ev_r 0), (1, ev_i a1)]) dX12_takesMishaps_37 rfl (Nat.le_of_ble_eq_true rfl) rfl ?_
    exact Ev_sub [1, 0] rfl h
  · replace h := h.2 c
    refine Ev_aload_n 0 dX12_takesMishaps_10 rfl rfl ?_
    refine Ev_getR (i := 47) cl_X12 yM_0 (Nat.le_of_ble_eq_true rfl) rfl wd_1491 dX12_takesMishaps_11 ?_
    refine Ev_iload_n 2 dX12_takesMishaps_14 rfl rfl ?_
    refine Ev_aload_n 0 dX12_takesMishaps_15 rfl rfl ?_
    refine Ev_getR (i := 47) cl_X12 yM_0 (Nat.le_of_ble_eq_true rfl) rfl wd_1491 dX12_takesMishaps_16 ?_
    refine Ev_bipushC dX12_takesMishaps_19 rfl ?_
    refine Ev_iload_n 2 dX12_takesMishaps_21 rfl rfl ?_
    refine Ev_iadd dX12_takesMishaps_22 ?_
    obtain ⟨h0, h⟩ := h
    refine Ev_iald yM_24 h0 dX12_takesMishaps_23 ?_
    obtain ⟨h0, h⟩ := h
    refine Ev_iast yM_24 h0 dX12_takesMishaps_24 (Ev_nm (fun s2 es2 => ?_))
    replace h := h s2 es2
    refine Ev_iinc (j := 2) (l' := [(2, ev_i (ev_add a2 1)), (0, ev_r 0), (1, ev_i a1)]) dX12_takesMishaps_25 rfl (Nat.le_of_ble_eq_true rfl) rfl ?_
    refine Ev_goto (tgt := 2) dX12_takesMishaps_28 rfl ?_
    exact Ev_sub [1, 2, 0] rfl h
theorem wp_X12_takesMishaps_38 {d : Nat} {s : ev_S} {Q : Option ev_V → ev_S → Prop} {a2 : Int}
    (h : ((10 ≤ a2 → Q none s) ∧ (a2 < 10 → ((0 ≤ (ev_add 57 a2) ∧ (ev_add 57 a2) < (87 : Nat)) ∧ ∀ s1, ev_up s 1 (Int.toNat (ev_add 57 a2)) 0 = s1 → ((0 ≤ (ev_add 67 a2) ∧ (ev_add 67 a2) < (87 : Nat)) ∧ ∀ s2, ev_up s1 1 (Int.toNat (ev_add 67 a2)) 0 = s2 → ((0 ≤ (ev_add 77 a2) ∧ (ev_add 77 a2) < (87 : Nat)) ∧ ∀ s3, ev_up s2 1 (Int.toNat (ev_add 77 a2)) 0 = s3 → Ev layM M_X12_takesMishaps d 38 [(0, ev_r 0), (2, ev_i (ev_add a2 1))] [] s3 Q)))))) :
    Ev layM M_X12_takesMishaps d 38 [(0, ev_r 0), (2, ev_i a2)] [] s Q := by
  refine Ev_iload_n 1 dX12_takesMishaps_38 rfl rfl ?_
  refine Ev_bipushC dX12_takesMishaps_39 rfl ?_
  refine Ev_icmp_ge (tgt := 80) dX12_takesMishaps_41 rfl (fun c => ?_) (fun c => ?_)
  · replace h := h.1 c
    exact Ev_vret rfl dX12_takesMishaps_80 h
  · replace h := h.2 c
    refine Ev_aload_n 0 dX12_takesMishaps_44 rfl rfl ?_
    refine Ev_getR (i := 1) cl_X12 yM_0 (Nat.le_of_ble_eq_true rfl) rfl wd_1445 dX12_takesMishaps_45 ?_
    refine Ev_bipushC dX12_takesMishaps_48 rfl ?_
    refine Ev_iload_n 1 dX12_takesMishaps_50 rfl rfl ?_
    refine Ev_iadd dX12_takesMishaps_51 ?_
    refine Ev_iconst dX12_takesMishaps_52 rfl (ev_Rc rfl) ?_
    obtain ⟨h0, h⟩ := h
    refine Ev_iast yM_1 h0 dX12_takesMishaps_53 (Ev_nm (fun s1 es1 => ?_))
    replace h := h s1 es1
    refine Ev_aload_n 0 dX12_takesMishaps_54 rfl rfl ?_
    refine Ev_getR (i := 1) cl_X12 yM_0 (Nat.le_of_ble_eq_true rfl) rfl wd_1445 dX12_takesMishaps_55 ?_
    refine Ev_bipushC dX12_takesMishaps_58 rfl ?_
    refine Ev_iload_n 1 dX12_takesMishaps_60 rfl rfl ?_
    refine Ev_iadd dX12_takesMishaps_61 ?_
    refine Ev_iconst dX12_takesMishaps_62 rfl (ev_Rc rfl) ?_
    obtain ⟨h0, h⟩ := h
    refine Ev_iast yM_1 h0 dX12_takesMishaps_63 (Ev_nm (fun s2 es2 => ?_))
    replace h := h s2 es2
    refine Ev_aload_n 0 dX12_takesMishaps_64 rfl rfl ?_
    refine Ev_getR (i := 1) cl_X12 yM_0 (Nat.le_of_ble_eq_true rfl) rfl wd_1445 dX12_takesMishaps_65 ?_
    refine Ev_bipushC dX12_takesMishaps_68 rfl ?_
    refine Ev_iload_n 1 dX12_takesMishaps_70 rfl rfl ?_
    refine Ev_iadd dX12_takesMishaps_71 ?_
    refine Ev_iconst dX12_takesMishaps_72 rfl (ev_Rc rfl) ?_
    obtain ⟨h0, h⟩ := h
    refine Ev_iast yM_1 h0 dX12_takesMishaps_73 (Ev_nm (fun s3 es3 => ?_))
    replace h := h s3 es3
    refine Ev_iinc (j := 1) (l' := [(2, ev_i (ev_add a2 1)), (0, ev_r 0)]) dX12_takesMishaps_74 rfl (Nat.le_of_ble_eq_true rfl) rfl ?_
    refine Ev_goto (tgt := 38) dX12_takesMishaps_77 rfl ?_
    exact Ev_sub [1, 0] rfl h
theorem dX12_readOrder_0 : decode cX12_readOrder 0 = .ok (.aload_n 0, 1) := by decide +kernel
theorem dX12_readOrder_1 : decode cX12_readOrder 1 = .ok (.bipush 33, 2) := by decide +kernel
theorem dX12_readOrder_3 : decode cX12_readOrder 3 = .ok (.invokevirtual 251, 3) := by decide +kernel
theorem dX12_readOrder_6 : decode cX12_readOrder 6 = .ok (.istore_n 2, 1) := by decide +kernel
theorem dX12_readOrder_7 : decode cX12_readOrder 7 = .ok (.aload_n 0, 1) := by decide +kernel
theorem dX12_readOrder_8 : decode cX12_readOrder 8 = .ok (.bipush 34, 2) := by decide +kernel
theorem dX12_readOrder_10 : decode cX12_readOrder 10 = .ok (.invokevirtual 251, 3) := by decide +kernel
theorem dX12_readOrder_13 : decode cX12_readOrder 13 = .ok (.istore_n 3, 1) := by decide +kernel
theorem dX12_readOrder_14 : decode cX12_readOrder 14 = .ok (.aload_n 0, 1) := by decide +kernel
theorem dX12_readOrder_15 : decode cX12_readOrder 15 = .ok (.getfield 86, 3) := by decide +kernel
theorem dX12_readOrder_18 : decode cX12_readOrder 18 = .ok (.iload_n 1, 1) := by decide +kernel
theorem dX12_readOrder_19 : decode cX12_readOrder 19 = .ok (.iload_n 2, 1) := by decide +kernel
theorem dX12_readOrder_20 : decode cX12_readOrder 20 = .ok (.ifCond .eq 7, 3) := by decide +kernel
theorem dX12_readOrder_23 : decode cX12_readOrder 23 = .ok (.iconst 5, 1) := by decide +kernel
theorem dX12_readOrder_24 : decode cX12_readOrder 24 = .ok (.goto 19, 3) := by decide +kernel
theorem dX12_readOrder_27 : decode cX12_readOrder 27 = .ok (.iload_n 3, 1) := by decide +kernel
theorem dX12_readOrder_28 : decode cX12_readOrder 28 = .ok (.ifCond .eq 8, 3) := by decide +kernel
theorem dX12_readOrder_31 : decode cX12_readOrder 31 = .ok (.bipush 6, 2) := by decide +kernel
theorem dX12_readOrder_33 : decode cX12_readOrder 33 = .ok (.goto 10, 3) := by decide +kernel
theorem dX12_readOrder_36 : decode cX12_readOrder 36 = .ok (.aload_n 0, 1) := by decide +kernel
theorem dX12_readOrder_37 : decode cX12_readOrder 37 = .ok (.getfield 197, 3) := by decide +kernel
theorem dX12_readOrder_40 : decode cX12_readOrder 40 = .ok (.bipush 28, 2) := by decide +kernel
theorem dX12_readOrder_42 : decode cX12_readOrder 42 = .ok (.isub, 1) := by decide +kernel
theorem dX12_readOrder_43 : decode cX12_readOrder 43 = .ok (.iastore, 1) := by decide +kernel
theorem dX12_readOrder_44 : decode cX12_readOrder 44 = .ok (.aload_n 0, 1) := by decide +kernel
theorem dX12_readOrder_45 : decode cX12_readOrder 45 = .ok (.getfield 89, 3) := by decide +kernel
theorem dX12_readOrder_48 : decode cX12_readOrder 48 = .ok (.iload_n 1, 1) := by decide +kernel
theorem dX12_readOrder_49 : decode cX12_readOrder 49 = .ok (.iconst 0, 1) := by decide +kernel
theorem dX12_readOrder_50 : decode cX12_readOrder 50 = .ok (.iastore, 1) := by decide +kernel
theorem dX12_readOrder_51 : decode cX12_readOrder 51 = .ok (.aload_n 0, 1) := by decide +kernel
theorem dX12_readOrder_52 : decode cX12_readOrder 52 = .ok (.invokevirtual 229, 3) := by decide +kernel
theorem dX12_readOrder_55 : decode cX12_readOrder 55 = .ok (.iload_n 2, 1) := by decide +kernel
theorem dX12_readOrder_56 : decode cX12_readOrder 56 = .ok (.ifCond .eq 13, 3) := by decide +kernel
theorem dX12_readOrder_59 : decode cX12_readOrder 59 = .ok (.aload_n 0, 1) := by decide +kernel
theorem dX12_readOrder_60 : decode cX12_readOrder 60 = .ok (.getfield 89, 3) := by decide +kernel
theorem dX12_readOrder_63 : decode cX12_readOrder 63 = .ok (.iload_n 1, 1) := by decide +kernel
theorem dX12_readOrder_64 : decode cX12_readOrder 64 = .ok (.aload_n 0, 1) := by decide +kernel
theorem dX12_readOrder_65 : decode cX12_readOrder 65 = .ok (.invokevirtual 303, 3) := by decide +kernel
theorem dX12_readOrder_68 : decode cX12_readOrder 68 = .ok (.iastore, 1) := by decide +kernel
theorem dX12_readOrder_69 : decode cX12_readOrder 69 = .ok (.iload_n 3, 1) := by decide +kernel
theorem dX12_readOrder_70 : decode cX12_readOrder 70 = .ok (.ifCond .eq 16, 3) := by decide +kernel
theorem dX12_readOrder_73 : decode cX12_readOrder 73 = .ok (.aload_n 0, 1) := by decide +kernel
theorem dX12_readOrder_74 : decode cX12_readOrder 74 = .ok (.getfield 89, 3) := by decide +kernel
theorem dX12_readOrder_77 : decode cX12_readOrder 77 = .ok (.iload_n 1, 1) := by decide +kernel
theorem dX12_readOrder_78 : decode cX12_readOrder 78 = .ok (.aload_n 0, 1) := by decide +kernel
theorem dX12_readOrder_79 : decode cX12_readOrder 79 = .ok (.iconst 1, 1) := by decide +kernel
theorem dX12_readOrder_80 : decode cX12_readOrder 80 = .ok (.bipush 60, 2) := by decide +kernel
theorem dX12_readOrder_82 : decode cX12_readOrder 82 = .ok (.invokevirtual 269, 3) := by decide +kernel
theorem dX12_readOrder_85 : decode cX12_readOrder 85 = .ok (.iastore, 1) := by decide +kernel
theorem dX12_readOrder_86 : decode cX12_readOrder 86 = .ok (.aload_n 0, 1) := by decide +kernel
theorem dX12_readOrder_87 : decode cX12_readOrder 87 = .ok (.getfield 89, 3) := by decide +kernel
theorem dX12_readOrder_90 : decode cX12_readOrder 90 = .ok (.iload_n 1, 1) := by decide +kernel
theorem dX12_readOrder_91 : decode cX12_readOrder 91 = .ok (.iaload, 1) := by decide +kernel
theorem dX12_readOrder_92 : decode cX12_readOrder 92 = .ok (.iconst (-1), 1) := by decide +kernel
theorem dX12_readOrder_93 : decode cX12_readOrder 93 = .ok (.if_icmp .ne 7, 3) := by decide +kernel
theorem dX12_readOrder_96 : decode cX12_readOrder 96 = .ok (.iconst (-1), 1) := by decide +kernel
theorem dX12_readOrder_97 : decode cX12_readOrder 97 = .ok (.goto 9, 3) := by decide +kernel
theorem dX12_readOrder_100 : decode cX12_readOrder 100 = .ok (.aload_n 0, 1) := by decide +kernel
theorem dX12_readOrder_101 : decode cX12_readOrder 101 = .ok (.bipush 59, 2) := by decide +kernel
theorem dX12_readOrder_103 : decode cX12_readOrder 103 = .ok (.invokevirtual 272, 3) := by decide +kernel
theorem dX12_readOrder_106 : decode cX12_readOrder 106 = .ok (.ireturn, 1) := by decide +kernel
theorem wp_X12_readOrder_0 {d : Nat} {s : ev_S} {Q : Option ev_V → ev_S → Prop} {a1 : Int}
    (h : (Ev layM M_X12_isWord d 0 [(0, ev_r 0), (1, ev_i 33)] [] s (ev_pi (fun r2 s1 => (Ev layM M_X12_isWord d 0 [(0, ev_r 0), (1, ev_i 34)] [] s1 (ev_pi (fun r4 s3 => ((r2 = 0 → ((r4 = 0 → Ev layM M_X12_readOrder (d + 1) 43 [(0, ev_r 0), (1, ev_i a1), (2, ev_i r2), (3, ev_i r4)] [ev_i (ev_sub (s3 0 23) 28), ev_i a1, ev_r 25] s3 Q) ∧ (r4 ≠ 0 → Ev layM M_X12_readOrder (d + 1) 43 [(0, ev_r 0), (1, ev_i a1), (2, ev_i r2), (3, ev_i r4)] [ev_i 6, ev_i a1, ev_r 25] s3 Q))) ∧ (r2 ≠ 0 → Ev layM M_X12_readOrder (d + 1) 43 [(0, ev_r 0), (1, ev_i a1), (2, ev_i r2), (3, ev_i r4)] [ev_i 5, ev_i a1, ev_r 25] s3 Q))))))))) :
    Ev layM M_X12_readOrder (d + 1) 0 [(0, ev_r 0), (1, ev_i a1)] [] s Q := by
  refine Ev_aload_n 0 dX12_readOrder_0 rfl rfl ?_
  refine Ev_bipushC dX12_readOrder_1 rfl ?_
  refine Ev_callV (As := [ev_i 33]) (b := 0) (st := []) (M' := M_X12_isWord) cm_X12_isWord wd_1742 wd_1744 wd_86 yM_0 cl_X12 rfl dX12_readOrder_3 (Nat.le_refl _) rfl (Nat.le_of_ble_eq_true rfl) (Nat.le_of_ble_eq_true rfl) h (fun v u h hk => ?_)
  obtain ⟨r2, rfl⟩ := hk
  obtain ⟨s1, rfl⟩ : ∃ x, x = u := ⟨_, rfl⟩
  replace h := h r2 rfl
  refine Ev_istore_n (l' := [(2, ev_i r2), (0, ev_r 0), (1, ev_i a1)]) dX12_readOrder_6 rfl (Nat.le_of_ble_eq_true rfl) rfl ?_
  refine Ev_aload_n 1 dX12_readOrder_7 rfl rfl ?_
  refine Ev_bipushC dX12_readOrder_8 rfl ?_
  refine Ev_callV (As := [ev_i 34]) (b := 0) (st := []) (M' := M_X12_isWord) cm_X12_isWord wd_1742 wd_1744 wd_86 yM_0 cl_X12 rfl dX12_readOrder_10 (Nat.le_refl _) rfl (Nat.le_of_ble_eq_true rfl) (Nat.le_of_ble_eq_true rfl) h (fun v u h hk => ?_)
  obtain ⟨r4, rfl⟩ := hk
  obtain ⟨s3, rfl⟩ : ∃ x, x = u := ⟨_, rfl⟩
  replace h := h r4 rfl
  refine Ev_istore_n (l' := [(3, ev_i r4), (2, ev_i r2), (0, ev_r 0), (1, ev_i a1)]) dX12_readOrder_13 rfl (Nat.le_of_ble_eq_true rfl) rfl ?_
  refine Ev_aload_n 2 dX12_readOrder_14 rfl rfl ?_
  refine Ev_getR (i := 48) cl_X12 yM_0 (Nat.le_of_ble_eq_true rfl) rfl wd_1492 dX12_readOrder_15 ?_
  refine Ev_iload_n 3 dX12_readOrder_18 rfl rfl ?_
  refine Ev_iload_n 1 dX12_readOrder_19 rfl rfl ?_
  refine Ev_if_eq (tgt := 27) dX12_readOrder_20 rfl (fun c => ?_) (fun c => ?_)
  · replace h := h.1 c
    refine Ev_iload_n 0 dX12_readOrder_27 rfl rfl ?_
    refine Ev_if_eq (tgt := 36) dX12_readOrder_28 rfl (fun c => ?_) (fun c => ?_)
    · replace h := h.1 c
      refine Ev_aload_n 2 dX12_readOrder_36 rfl rfl ?_
      refine Ev_get (i := 23) cl_X12 yM_0 (Nat.le_of_ble_eq_true rfl) rfl wd_1467 dX12_readOrder_37 ?_
      refine Ev_bipushC dX12_readOrder_40 rfl ?_
      refine Ev_isub dX12_readOrder_42 ?_
      exact Ev_sub [2, 3, 1, 0] rfl h
    · replace h := h.2 c
      refine Ev_bipushC dX12_readOrder_31 rfl ?_
      refine Ev_goto (tgt := 43) dX12_readOrder_33 rfl ?_
      exact Ev_sub [2, 3, 1, 0] rfl h
  · replace h := h.2 c
    refine Ev_iconst dX12_readOrder_23 rfl (ev_Rc rfl) ?_
    refine Ev_goto (tgt := 43) dX12_readOrder_24 rfl ?_
    exact Ev_sub [2, 3, 1, 0] rfl h
theorem wp_X12_readOrder_43 {d : Nat} {s : ev_S} {Q : Option ev_V → ev_S → Prop} {a1 a2 a3 t0 t1 : Int}
    (h : ((0 ≤ t1 ∧ t1 < (280 : Nat)) ∧ ∀ s1, ev_up s 25 (Int.toNat t1) t0 = s1 → ((0 ≤ a1 ∧ a1 < (280 : Nat)) ∧ ∀ s2, ev_up s1 26 (Int.toNat a1) 0 = s2 → (Ev layM M_X12_reads d 0 [(0, ev_r 0)] [] s2 (fun _ s3 => ((a2 = 0 → Ev layM M_X12_readOrder (d + 1) 69 [(0, ev_r 0), (1, ev_i a1), (3, ev_i a3)] [] s3 Q) ∧ (a2 ≠ 0 → (Ev layM M_X12_readPlace2 d 0 [(0, ev_r 0)] [] s3 (ev_pi (fun r5 s4 => ((0 ≤ a1 ∧ a1 < (280 : Nat)) ∧ ∀ s6, ev_up s4 26 (Int.toNat a1) r5 = s6 → Ev layM M_X12_readOrder (d + 1) 69 [(0, ev_r 0), (1, ev_i a1), (3, ev_i a3)] [] s6 Q))))))))))) :
    Ev layM M_X12_readOrder (d + 1) 43 [(0, ev_r 0), (1, ev_i a1), (2, ev_i a2), (3, ev_i a3)] [ev_i t0, ev_i t1, ev_r 25] s Q := by
  obtain ⟨h0, h⟩ := h
  refine Ev_iast yM_25 h0 dX12_readOrder_43 (Ev_nm (fun s1 es1 => ?_))
  replace h := h s1 es1
  refine Ev_aload_n 0 dX12_readOrder_44 rfl rfl ?_
  refine Ev_getR (i := 49) cl_X12 yM_0 (Nat.le_of_ble_eq_true rfl) rfl wd_1493 dX12_readOrder_45 ?_
  refine Ev_iload_n 1 dX12_readOrder_48 rfl rfl ?_
  refine Ev_iconst dX12_readOrder_49 rfl (ev_Rc rfl) ?_
  obtain ⟨h0, h⟩ := h
  refine Ev_iast yM_26 h0 dX12_readOrder_50 (Ev_nm (fun s2 es2 => ?_))
  replace h := h s2 es2
  refine Ev_aload_n 0 dX12_readOrder_51 rfl rfl ?_
  refine Ev_callV (As := []) (b := 0) (st := []) (M' := M_X12_reads) cm_X12_reads wd_1706 wd_1708 wd_77 yM_0 cl_X12 rfl dX12_readOrder_52 (Nat.le_refl _) rfl (Nat.le_of_ble_eq_true rfl) (Nat.le_of_ble_eq_true rfl) h (fun v u h hk => ?_)
  cases hk
  obtain ⟨s3, rfl⟩ : ∃ x, x = u := ⟨_, rfl⟩
  refine Ev_iload_n 2 dX12_readOrder_55 rfl rfl ?_
  refine Ev_if_eq (tgt := 69) dX12_readOrder_56 rfl (fun c => ?_) (fun c => ?_)
  · replace h := h.1 c
    exact Ev_sub [0, 1, 3] rfl h
  · replace h := h.2 c
    refine Ev_aload_n 0 dX12_readOrder_59 rfl rfl ?_
    refine Ev_getR (i := 49) cl_X12 yM_0 (Nat.le_of_ble_eq_true rfl) rfl wd_1493 dX12_readOrder_60 ?_
    refine Ev_iload_n 1 dX12_readOrder_63 rfl rfl ?_
    refine Ev_aload_n 0 dX12_readOrder_64 rfl rfl ?_
    refine Ev_callV (As := []) (b := 0) (st := [ev_i a1, ev_r 26]) (M' := M_X12_readPlace2) cm_X12_readPlace2 wd_1794 wd_1796 wd_99 yM_0 cl_X12 rfl dX12_readOrder_65 (Nat.le_refl _) rfl (Nat.le_of_ble_eq_true rfl) (Nat.le_of_ble_eq_true rfl) h (fun v u h hk => ?_)
    obtain ⟨r5, rfl⟩ := hk
    obtain ⟨s4, rfl⟩ : ∃ x, x = u := ⟨_, rfl⟩
    replace h := h r5 rfl
    obtain ⟨h0, h⟩ := h
    refine Ev_iast yM_26 h0 dX12_readOrder_68 (Ev_nm (fun s6 es6 => ?_))
    replace h := h s6 es6
    exact Ev_sub [0, 1, 3] rfl h
theorem wp_X12_readOrder_69 {d : Nat} {s : ev_S} {Q : Option ev_V → ev_S → Prop} {a1 a3 : Int}
    (h : ((a3 = 0 → Ev layM M_X12_readOrder (d + 1) 86 [(0, ev_r 0), (1, ev_i a1)] [] s Q) ∧ (a3 ≠ 0 → (Ev layM M_X12_readNumber d 0 [(0, ev_r 0), (1, ev_i 1), (2, ev_i 60)] [] s (ev_pi (fun r2 s1 => ((0 ≤ a1 ∧ a1 < (280 : Nat)) ∧ ∀ s3, ev_up s1 26 (Int.toNat a1) r2 = s3 → Ev layM M_X12_readOrder (d + 1) 86 [(0, ev_r 0), (1, ev_i a1)] [] s3 Q))))))) :
    Ev layM M_X12_readOrder (d + 1) 69 [(0, ev_r 0), (1, ev_i a1), (3, ev_i a3)] [] s Q := by
  refine Ev_iload_n 2 dX12_readOrder_69 rfl rfl ?_
  refine Ev_if_eq (tgt := 86) dX12_readOrder_70 rfl (fun c => ?_) (fun c => ?_)
  · replace h := h.1 c
    exact Ev_sub [0, 1] rfl h
  · replace h := h.2 c
    refine Ev_aload_n 0 dX12_readOrder_73 rfl rfl ?_
    refine Ev_getR (i := 49) cl_X12 yM_0 (Nat.le_of_ble_eq_true rfl) rfl wd_1493 dX12_readOrder_74 ?_
    refine Ev_iload_n 1 dX12_readOrder_77 rfl rfl ?_
    refine Ev_aload_n 0 dX12_readOrder_78 rfl rfl ?_
    refine Ev_iconst dX12_readOrder_79 rfl (ev_Rc rfl) ?_
    refine Ev_bipushC dX12_readOrder_80 rfl ?_
    refine Ev_callV (As := [ev_i 1, ev_i 60]) (b := 0) (st := [ev_i a1, ev_r 26]) (M' := M_X12_readNumber) cm_X12_readNumber wd_1754 wd_1756 wd_89 yM_0 cl_X12 rfl dX12_readOrder_82 (Nat.le_refl _) rfl (Nat.le_of_ble_eq_true rfl) (Nat.le_of_ble_eq_true rfl) h (fun v u h hk => ?_)
    obtain ⟨r2, rfl⟩ := hk
    obtain ⟨s1, rfl⟩ : ∃ x, x = u := ⟨_, rfl⟩
    replace h := h r2 rfl
    obtain ⟨h0, h⟩ := h
    refine Ev_iast yM_26 h0 dX12_readOrder_85 (Ev_nm (fun s3 es3 => ?_))
    replace h := h s3 es3
    exact Ev_sub [0, 1] rfl h
theorem wp_X12_readOrder_86 {d : Nat} {s : ev_S} {Q : Option ev_V → ev_S → Prop} {a1 : Int}
    (h : ((0 ≤ a1 ∧ a1 < (280 : Nat)) ∧ (((s 26 (Int.toNat a1)) ≠ (-1) → (Ev layM M_X12_readMark d 0 [(0, ev_r 0), (1, ev_i 59)] [] s (ev_pi (fun r2 s1 => Q (some (ev_i r2)) s1)))) ∧ ((s 26 (Int.toNat a1)) = (-1) → Q (some (ev_i (-1))) s)))) :
    Ev layM M_X12_readOrder (d + 1) 86 [(0, ev_r 0), (1, ev_i a1)] [] s Q := by
  refine Ev_aload_n 0 dX12_readOrder_86 rfl rfl ?_
  refine Ev_getR (i := 49) cl_X12 yM_0 (Nat.le_of_ble_eq_true rfl) rfl wd_1493 dX12_readOrder_87 ?_
  refine Ev_iload_n 1 dX12_readOrder_90 rfl rfl ?_
  obtain ⟨h0, h⟩ := h
  refine Ev_iald yM_26 h0 dX12_readOrder_91 ?_
  refine Ev_iconst dX12_readOrder_92 rfl (ev_Rc rfl) ?_
  refine Ev_icmp_ne (tgt := 100) dX12_readOrder_93 rfl (fun c => ?_) (fun c => ?_)
  · replace h := h.1 c
    refine Ev_aload_n 0 dX12_readOrder_100 rfl rfl ?_
    refine Ev_bipushC dX12_readOrder_101 rfl ?_
    refine Ev_callV (As := [ev_i 59]) (b := 0) (st := []) (M' := M_X12_readMark) cm_X12_readMark wd_1762 wd_1764 wd_91 yM_0 cl_X12 rfl dX12_readOrder_103 (Nat.le_refl _) rfl (Nat.le_of_ble_eq_true rfl) (Nat.le_of_ble_eq_true rfl) h (fun v u h hk => ?_)
    obtain ⟨r2, rfl⟩ := hk
    obtain ⟨s1, rfl⟩ : ∃ x, x = u := ⟨_, rfl⟩
    replace h := h r2 rfl
    exact Ev_iret rfl dX12_readOrder_106 rfl h
  · replace h := h.2 c
    refine Ev_iconst dX12_readOrder_96 rfl (ev_Rc rfl) ?_
    refine Ev_goto (tgt := 106) dX12_readOrder_97 rfl ?_
    exact Ev_iret rfl dX12_readOrder_106 rfl h
theorem dX12_isOrder_0 : decode cX12_isOrder 0 = .ok (.aload_n 0, 1) := by decide +kernel
theorem dX12_isOrder_1 : decode cX12_isOrder 1 = .ok (.getfield 194, 3) := by decide +kernel
theorem dX12_isOrder_4 : decode cX12_isOrder 4 = .ok (.iconst 2, 1) := by decide +kernel
theorem dX12_isOrder_5 : decode cX12_isOrder 5 = .ok (.if_icmp .ne 40, 3) := by decide +kernel
theorem dX12_isOrder_8 : decode cX12_isOrder 8 = .ok (.aload_n 0, 1) := by decide +kernel
theorem dX12_isOrder_9 : decode cX12_isOrder 9 = .ok (.aload_n 0, 1) := by decide +kernel
theorem dX12_isOrder_10 : decode cX12_isOrder 10 = .ok (.getfield 197, 3) := by decide +kernel
theorem dX12_isOrder_13 : decode cX12_isOrder 13 = .ok (.bipush 28, 2) := by decide +kernel
theorem dX12_isOrder_15 : decode cX12_isOrder 15 = .ok (.bipush 32, 2) := by decide +kernel
theorem dX12_isOrder_17 : decode cX12_isOrder 17 = .ok (.invokevirtual 158, 3) := by decide +kernel
theorem dX12_isOrder_20 : decode cX12_isOrder 20 = .ok (.ifCond .ne 21, 3) := by decide +kernel
theorem dX12_isOrder_23 : decode cX12_isOrder 23 = .ok (.aload_n 0, 1) := by decide +kernel
theorem dX12_isOrder_24 : decode cX12_isOrder 24 = .ok (.getfield 197, 3) := by decide +kernel
theorem dX12_isOrder_27 : decode cX12_isOrder 27 = .ok (.bipush 33, 2) := by decide +kernel
theorem dX12_isOrder_29 : decode cX12_isOrder 29 = .ok (.if_icmp .eq 12, 3) := by decide +kernel
theorem dX12_isOrder_32 : decode cX12_isOrder 32 = .ok (.aload_n 0, 1) := by decide +kernel
theorem dX12_isOrder_33 : decode cX12_isOrder 33 = .ok (.getfield 197, 3) := by decide +kernel
theorem dX12_isOrder_36 : decode cX12_isOrder 36 = .ok (.bipush 34, 2) := by decide +kernel
theorem dX12_isOrder_38 : decode cX12_isOrder 38 = .ok (.if_icmp .ne 7, 3) := by decide +kernel
theorem dX12_isOrder_41 : decode cX12_isOrder 41 = .ok (.iconst 1, 1) := by decide +kernel
theorem dX12_isOrder_42 : decode cX12_isOrder 42 = .ok (.goto 4, 3) := by decide +kernel
theorem dX12_isOrder_45 : decode cX12_isOrder 45 = .ok (.iconst 0, 1) := by decide +kernel
theorem dX12_isOrder_46 : decode cX12_isOrder 46 = .ok (.ireturn, 1) := by decide +kernel
theorem wp_X12_isOrder_0 {d : Nat} {s : ev_S} {Q : Option ev_V → ev_S → Prop}
    (h : (((s 0 22) ≠ 2 → Q (some (ev_i 0)) s) ∧ ((s 0 22) = 2 → (Ev layM M_X12_isIn d 0 [(0, ev_r 0), (1, ev_i (s 0 23)), (2, ev_i 28), (3, ev_i 32)] [] s (ev_pi (fun r2 s1 => ((r2 ≠ 0 → Q (some (ev_i 1)) s1) ∧ (r2 = 0 → (((s1 0 23) = 33 → Q (some (ev_i 1)) s1) ∧ ((s1 0 23) ≠ 33 → (((s1 0 23) ≠ 34 → Q (some (ev_i 0)) s1) ∧ ((s1 0 23) = 34 → Q (some (ev_i 1)) s1)))))))))))) :
    Ev layM M_X12_isOrder (d + 1) 0 [(0, ev_r 0)] [] s Q := by
  refine Ev_aload_n 0 dX12_isOrder_0 rfl rfl ?_
  refine Ev_get (i := 22) cl_X12 yM_0 (Nat.le_of_ble_eq_true rfl) rfl wd_1466 dX12_isOrder_1 ?_
  refine Ev_iconst dX12_isOrder_4 rfl (ev_Rc rfl) ?_
  refine Ev_icmp_ne (tgt := 45) dX12_isOrder_5 rfl (fun c => ?_) (fun c => ?_)
  · replace h := h.1 c
    refine Ev_iconst dX12_isOrder_45 rfl (ev_Rc rfl) ?_
    exact Ev_iret rfl dX12_isOrder_46 (ev_nb (by decide)) h
  · replace h := h.2 c
    refine Ev_aload_n 0 dX12_isOrder_8 rfl rfl ?_
    refine Ev_aload_n 0 dX12_isOrder_9 rfl rfl ?_
    refine Ev_get (i := 23) cl_X12 yM_0 (Nat.le_of_ble_eq_true rfl) rfl wd_1467 dX12_isOrder_10 ?_
    refine Ev_bipushC dX12_isOrder_13 rfl ?_
    refine Ev_bipushC dX12_isOrder_15 rfl ?_
    refine Ev_callV (As := [ev_i (s 0 23), ev_i 28, ev_i 32]) (b := 0) (st := []) (M' := M_X12_isIn) cm_X12_isIn wd_1650 wd_1652 wd_70 yM_0 cl_X12 rfl dX12_isOrder_17 (Nat.le_refl _) rfl (Nat.le_of_ble_eq_true rfl) (Nat.le_of_ble_eq_true rfl) h (fun v u h hk => ?_)
    obtain ⟨r2, rfl⟩ := hk
    obtain ⟨s1, rfl⟩ : ∃ x, x = u := ⟨_, rfl⟩
    replace h := h r2 rfl
    refine Ev_if_ne (tgt := 41) dX12_isOrder_20 rfl (fun c => ?_) (fun c => ?_)
    · replace h := h.1 c
      refine Ev_iconst dX12_isOrder_41 rfl (ev_Rc rfl) ?_
      refine Ev_goto (tgt := 46) dX12_isOrder_42 rfl ?_
      exact Ev_iret rfl dX12_isOrder_46 (ev_nb (by decide)) h
    · replace h := h.2 c
      refine Ev_aload_n 0 dX12_isOrder_23 rfl rfl ?_
      refine Ev_get (i := 23) cl_X12 yM_0 (Nat.le_of_ble_eq_true rfl) rfl wd_1467 dX12_isOrder_24 ?_
      refine Ev_bipushC dX12_isOrder_27 rfl ?_
      refine Ev_icmp_eq (tgt := 41) dX12_isOrder_29 rfl (fun c => ?_) (fun c => ?_)
      · replace h := h.1 c
        refine Ev_iconst dX12_isOrder_41 rfl (ev_Rc rfl) ?_
        refine Ev_goto (tgt := 46) dX12_isOrder_42 rfl ?_
        exact Ev_iret rfl dX12_isOrder_46 (ev_nb (by decide)) h
      · replace h := h.2 c
        refine Ev_aload_n 0 dX12_isOrder_32 rfl rfl ?_
        refine Ev_get (i := 23) cl_X12 yM_0 (Nat.le_of_ble_eq_true rfl) rfl wd_1467 dX12_isOrder_33 ?_
        refine Ev_bipushC dX12_isOrder_36 rfl ?_
        refine Ev_icmp_ne (tgt := 45) dX12_isOrder_38 rfl (fun c => ?_) (fun c => ?_)
        · replace h := h.1 c
          refine Ev_iconst dX12_isOrder_45 rfl (ev_Rc rfl) ?_
          exact Ev_iret rfl dX12_isOrder_46 (ev_nb (by decide)) h
        · replace h := h.2 c
          refine Ev_iconst dX12_isOrder_41 rfl (ev_Rc rfl) ?_
          refine Ev_goto (tgt := 46) dX12_isOrder_42 rfl ?_
          exact Ev_iret rfl dX12_isOrder_46 (ev_nb (by decide)) h
theorem dX12_readPlan_0 : decode cX12_readPlan 0 = .ok (.iconst 0, 1) := by decide +kernel
theorem dX12_readPlan_1 : decode cX12_readPlan 1 = .ok (.istore_n 1, 1) := by decide +kernel
theorem dX12_readPlan_2 : decode cX12_readPlan 2 = .ok (.aload_n 0, 1) := by decide +kernel
theorem dX12_readPlan_3 : decode cX12_readPlan 3 = .ok (.invokevirtual 312, 3) := by decide +kernel
theorem dX12_readPlan_6 : decode cX12_readPlan 6 = .ok (.ifCond .eq 37, 3) := by decide +kernel
theorem dX12_readPlan_9 : decode cX12_readPlan 9 = .ok (.iload_n 1, 1) := by decide +kernel
theorem dX12_readPlan_10 : decode cX12_readPlan 10 = .ok (.bipush 40, 2) := by decide +kernel
theorem dX12_readPlan_12 : decode cX12_readPlan 12 = .ok (.if_icmp .ne 9, 3) := by decide +kernel
theorem dX12_readPlan_15 : decode cX12_readPlan 15 = .ok (.aload_n 0, 1) := by decide +kernel
theorem dX12_readPlan_16 : decode cX12_readPlan 16 = .ok (.iconst 3, 1) := by decide +kernel
theorem dX12_readPlan_17 : decode cX12_readPlan 17 = .ok (.invokevirtual 222, 3) := by decide +kernel
theorem dX12_readPlan_20 : decode cX12_readPlan 20 = .ok (.ireturn, 1) := by decide +kernel
theorem dX12_readPlan_21 : decode cX12_readPlan 21 = .ok (.aload_n 0, 1) := by decide +kernel
theorem dX12_readPlan_22 : decode cX12_readPlan 22 = .ok (.sipush 240, 3) := by decide +kernel
theorem dX12_readPlan_25 : decode cX12_readPlan 25 = .ok (.iload_n 1, 1) := by decide +kernel
theorem dX12_readPlan_26 : decode cX12_readPlan 26 = .ok (.iadd, 1) := by decide +kernel
theorem dX12_readPlan_27 : decode cX12_readPlan 27 = .ok (.invokevirtual 315, 3) := by decide +kernel
theorem dX12_readPlan_30 : decode cX12_readPlan 30 = .ok (.iconst (-1), 1) := by decide +kernel
theorem dX12_readPlan_31 : decode cX12_readPlan 31 = .ok (.if_icmp .ne 5, 3) := by decide +kernel
theorem dX12_readPlan_34 : decode cX12_readPlan 34 = .ok (.iconst (-1), 1) := by decide +kernel
theorem dX12_readPlan_35 : decode cX12_readPlan 35 = .ok (.ireturn, 1) := by decide +kernel
theorem dX12_readPlan_36 : decode cX12_readPlan 36 = .ok (.iload_n 1, 1) := by decide +kernel
theorem dX12_readPlan_37 : decode cX12_readPlan 37 = .ok (.iconst 1, 1) := by decide +kernel
theorem dX12_readPlan_38 : decode cX12_readPlan 38 = .ok (.iadd, 1) := by decide +kernel
theorem dX12_readPlan_39 : decode cX12_readPlan 39 = .ok (.istore_n 1, 1) := by decide +kernel
theorem dX12_readPlan_40 : decode cX12_readPlan 40 = .ok (.goto (-38), 3) := by decide +kernel
theorem dX12_readPlan_43 : decode cX12_readPlan 43 = .ok (.aload_n 0, 1) := by decide +kernel
theorem dX12_readPlan_44 : decode cX12_readPlan 44 = .ok (.getfield 194, 3) := by decide +kernel
theorem dX12_readPlan_47 : decode cX12_readPlan 47 = .ok (.ifCond .ne 7, 3) := by decide +kernel
theorem dX12_readPlan_50 : decode cX12_readPlan 50 = .ok (.iload_n 1, 1) := by decide +kernel
theorem dX12_readPlan_51 : decode cX12_readPlan 51 = .ok (.goto 8, 3) := by decide +kernel
theorem dX12_readPlan_54 : decode cX12_readPlan 54 = .ok (.aload_n 0, 1) := by decide +kernel
theorem dX12_readPlan_55 : decode cX12_readPlan 55 = .ok (.iconst 1, 1) := by decide +kernel
theorem dX12_readPlan_56 : decode cX12_readPlan 56 = .ok (.invokevirtual 222, 3) := by decide +kernel
theorem dX12_readPlan_59 : decode cX12_readPlan 59 = .ok (.ireturn, 1) := by decide +kernel
theorem wp_X12_readPlan_0 {d : Nat} {s : ev_S} {Q : Option ev_V → ev_S → Prop}
    (h : Ev layM M_X12_readPlan (d + 1) 2 [(0, ev_r 0), (1, ev_i 0)] [] s Q) :
    Ev layM M_X12_readPlan (d + 1) 0 [(0, ev_r 0)] [] s Q := by
  refine Ev_iconst dX12_readPlan_0 rfl (ev_Rc rfl) ?_
  refine Ev_istore_n (l' := [(1, ev_i 0), (0, ev_r 0)]) dX12_readPlan_1 rfl (Nat.le_of_ble_eq_true rfl) rfl ?_
  exact Ev_sub [1, 0] rfl h
theorem wp_X12_readPlan_2 {d : Nat} {s : ev_S} {Q : Option ev_V → ev_S → Prop} {a1 : Int}
    (h : (Ev layM M_X12_isOrder d 0 [(0, ev_r 0)] [] s (ev_pi (fun r2 s1 => ((r2 = 0 → (((s1 0 22) ≠ 0 → (Ev layM M_X12_errs d 0 [(0, ev_r 0), (1, ev_i 1)] [] s1 (ev_pi (fun r4 s3 => Q (some (ev_i r4)) s3)))) ∧ ((s1 0 22) = 0 → Q (some (ev_i a1)) s1))) ∧ (r2 ≠ 0 → ((a1 ≠ 40 → (Ev layM M_X12_readOrder d 0 [(0, ev_r 0), (1, ev_i (ev_add 240 a1))] [] s1 (ev_pi (fun r6 s5 => ((r6 ≠ (-1) → Ev layM M_X12_readPlan (d + 1) 2 [(0, ev_r 0), (1, ev_i (ev_add a1 1))] [] s5 Q) ∧ (r6 = (-1) → Q (some (ev_i (-1))) s5)))))) ∧ (a1 = 40 → (Ev layM M_X12_errs d 0 [(0, ev_r 0), (1, ev_i 3)] [] s1 (ev_pi (fun r8 s7 => Q (some (ev_i r8)) s7))))))))))) :
    Ev layM M_X12_readPlan (d + 1) 2 [(0, ev_r 0), (1, ev_i a1)] [] s Q := by
  refine Ev_aload_n 0 dX12_readPlan_2 rfl rfl ?_
  refine Ev_callV (As := []) (b := 0) (st := []) (M' := M_X12_isOrder) cm_X12_isOrder wd_1810 wd_1812 wd_103 yM_0 cl_X12 rfl dX12_readPlan_3 (Nat.le_refl _) rfl (Nat.le_of_ble_eq_true rfl) (Nat.le_of_ble_eq_true rfl) h (fun v u h hk => ?_)
  obtain ⟨r2, rfl⟩ := hk
  obtain ⟨s1, rfl⟩ : ∃ x, x = u := ⟨_, rfl⟩
  replace h := h r2 rfl
  refine Ev_if_eq (tgt := 43) dX12_readPlan_6 rfl (fun c => ?_) (fun c => ?_)
  · replace h := h.1 c
    refine Ev_aload_n 0 dX12_readPlan_43 rfl rfl ?_
    refine Ev_get (i := 22) cl_X12 yM_0 (Nat.le_of_ble_eq_true rfl) rfl wd_1466 dX12_readPlan_44 ?_
    refine Ev_if_ne (tgt := 54) dX12_readPlan_47 rfl (fun c => ?_) (fun c => ?_)
    · replace h := h.1 c
      refine Ev_aload_n 0 dX12_readPlan_54 rfl rfl ?_
      refine Ev_iconst dX12_readPlan_55 rfl (ev_Rc rfl) ?_
      refine Ev_callV (As := [ev_i 1]) (b := 0) (st := []) (M' := M_X12_errs) cm_X12_errs wd_1758 wd_1760 wd_90 yM_0 cl_X12 rfl dX12_readPlan_56 (Nat.le_refl _) rfl (Nat.le_of_ble_eq_true rfl) (Nat.le_of_ble_eq_true rfl) h (fun v u h hk => ?_)
      obtain ⟨r4, rfl⟩ := hk
      obtain ⟨s3, rfl⟩ : ∃ x, x = u := ⟨_, rfl⟩
      replace h := h r4 rfl
      exact Ev_iret rfl dX12_readPlan_59 rfl h
    · replace h := h.2 c
      refine Ev_iload_n 1 dX12_readPlan_50 rfl rfl ?_
      refine Ev_goto (tgt := 59) dX12_readPlan_51 rfl ?_
      exact Ev_iret rfl dX12_readPlan_59 rfl h
  · replace h := h.2 c
    refine Ev_iload_n 1 dX12_readPlan_9 rfl rfl ?_
    refine Ev_bipushC dX12_readPlan_10 rfl ?_
    refine Ev_icmp_ne (tgt := 21) dX12_readPlan_12 rfl (fun c => ?_) (fun c => ?_)
    · replace h := h.1 c
      refine Ev_aload_n 0 dX12_readPlan_21 rfl rfl ?_
      refine Ev_sipushC dX12_readPlan_22 rfl ?_
      refine Ev_iload_n 1 dX12_readPlan_25 rfl rfl ?_
      refine Ev_iadd dX12_readPlan_26 ?_
      refine Ev_callV (As := [ev_i (ev_add 240 a1)]) (b := 0) (st := []) (M' := M_X12_readOrder) cm_X12_readOrder wd_1814 wd_1816 wd_104 yM_0 cl_X12 rfl dX12_readPlan_27 (Nat.le_refl _) rfl (Nat.le_of_ble_eq_true rfl) (Nat.le_of_ble_eq_true rfl) h (fun v u h hk => ?_)
      obtain ⟨r6, rfl⟩ := hk
      obtain ⟨s5, rfl⟩ : ∃ x, x = u := ⟨_, rfl⟩
      replace h := h r6 rfl
      refine Ev_iconst dX12_readPlan_30 rfl (ev_Rc rfl) ?_
      refine Ev_icmp_ne (tgt := 36) dX12_readPlan_31 rfl (fun c => ?_) (fun c => ?_)
      · replace h := h.1 c
        refine Ev_iload_n 1 dX12_readPlan_36 rfl rfl ?_
        refine Ev_iconst dX12_readPlan_37 rfl (ev_Rc rfl) ?_
        refine Ev_iadd dX12_readPlan_38 ?_
        refine Ev_istore_n (l' := [(1, ev_i (ev_add a1 1)), (0, ev_r 0)]) dX12_readPlan_39 rfl (Nat.le_of_ble_eq_true rfl) rfl ?_
        refine Ev_goto (tgt := 2) dX12_readPlan_40 rfl ?_
        exact Ev_sub [1, 0] rfl h
      · replace h := h.2 c
        refine Ev_iconst dX12_readPlan_34 rfl (ev_Rc rfl) ?_
        exact Ev_iret rfl dX12_readPlan_35 rfl h
    · replace h := h.2 c
      refine Ev_aload_n 0 dX12_readPlan_15 rfl rfl ?_
      refine Ev_iconst dX12_readPlan_16 rfl (ev_Rc rfl) ?_
      refine Ev_callV (As := [ev_i 3]) (b := 0) (st := []) (M' := M_X12_errs) cm_X12_errs wd_1758 wd_1760 wd_90 yM_0 cl_X12 rfl dX12_readPlan_17 (Nat.le_refl _) rfl (Nat.le_of_ble_eq_true rfl) (Nat.le_of_ble_eq_true rfl) h (fun v u h hk => ?_)
      obtain ⟨r8, rfl⟩ := hk
      obtain ⟨s7, rfl⟩ : ∃ x, x = u := ⟨_, rfl⟩
      replace h := h r8 rfl
      exact Ev_iret rfl dX12_readPlan_20 rfl h
theorem dX12_takesPlan_0 : decode cX12_takesPlan 0 = .ok (.iconst 0, 1) := by decide +kernel
theorem dX12_takesPlan_1 : decode cX12_takesPlan 1 = .ok (.istore_n 3, 1) := by decide +kernel
theorem dX12_takesPlan_2 : decode cX12_takesPlan 2 = .ok (.iload_n 3, 1) := by decide +kernel
theorem dX12_takesPlan_3 : decode cX12_takesPlan 3 = .ok (.iload_n 2, 1) := by decide +kernel
theorem dX12_takesPlan_4 : decode cX12_takesPlan 4 = .ok (.if_icmp .ge 51, 3) := by decide +kernel
theorem dX12_takesPlan_7 : decode cX12_takesPlan 7 = .ok (.aload_n 0, 1) := by decide +kernel
theorem dX12_takesPlan_8 : decode cX12_takesPlan 8 = .ok (.getfield 86, 3) := by decide +kernel
theorem dX12_takesPlan_11 : decode cX12_takesPlan 11 = .ok (.bipush 40, 2) := by decide +kernel
theorem dX12_takesPlan_13 : decode cX12_takesPlan 13 = .ok (.iload_n 1, 1) := by decide +kernel
theorem dX12_takesPlan_14 : decode cX12_takesPlan 14 = .ok (.imul, 1) := by decide +kernel
theorem dX12_takesPlan_15 : decode cX12_takesPlan 15 = .ok (.iload_n 3, 1) := by decide +kernel
theorem dX12_takesPlan_16 : decode cX12_takesPlan 16 = .ok (.iadd, 1) := by decide +kernel
theorem dX12_takesPlan_17 : decode cX12_takesPlan 17 = .ok (.aload_n 0, 1) := by decide +kernel
theorem dX12_takesPlan_18 : decode cX12_takesPlan 18 = .ok (.getfield 86, 3) := by decide +kernel
theorem dX12_takesPlan_21 : decode cX12_takesPlan 21 = .ok (.sipush 240, 3) := by decide +kernel
theorem dX12_takesPlan_24 : decode cX12_takesPlan 24 = .ok (.iload_n 3, 1) := by decide +kernel
theorem dX12_takesPlan_25 : decode cX12_takesPlan 25 = .ok (.iadd, 1) := by decide +kernel
theorem dX12_takesPlan_26 : decode cX12_takesPlan 26 = .ok (.iaload, 1) := by decide +kernel
theorem dX12_takesPlan_27 : decode cX12_takesPlan 27 = .ok (.iastore, 1) := by decide +kernel
theorem dX12_takesPlan_28 : decode cX12_takesPlan 28 = .ok (.aload_n 0, 1) := by decide +kernel
theorem dX12_takesPlan_29 : decode cX12_takesPlan 29 = .ok (.getfield 89, 3) := by decide +kernel
theorem dX12_takesPlan_32 : decode cX12_takesPlan 32 = .ok (.bipush 40, 2) := by decide +kernel
theorem dX12_takesPlan_34 : decode cX12_takesPlan 34 = .ok (.iload_n 1, 1) := by decide +kernel
theorem dX12_takesPlan_35 : decode cX12_takesPlan 35 = .ok (.imul, 1) := by decide +kernel
theorem dX12_takesPlan_36 : decode cX12_takesPlan 36 = .ok (.iload_n 3, 1) := by decide +kernel
theorem dX12_takesPlan_37 : decode cX12_takesPlan 37 = .ok (.iadd, 1) := by decide +kernel
theorem dX12_takesPlan_38 : decode cX12_takesPlan 38 = .ok (.aload_n 0, 1) := by decide +kernel
theorem dX12_takesPlan_39 : decode cX12_takesPlan 39 = .ok (.getfield 89, 3) := by decide +kernel
theorem dX12_takesPlan_42 : decode cX12_takesPlan 42 = .ok (.sipush 240, 3) := by decide +kernel
theorem dX12_takesPlan_45 : decode cX12_takesPlan 45 = .ok (.iload_n 3, 1) := by decide +kernel
theorem dX12_takesPlan_46 : decode cX12_takesPlan 46 = .ok (.iadd, 1) := by decide +kernel
theorem dX12_takesPlan_47 : decode cX12_takesPlan 47 = .ok (.iaload, 1) := by decide +kernel
theorem dX12_takesPlan_48 : decode cX12_takesPlan 48 = .ok (.iastore, 1) := by decide +kernel
theorem dX12_takesPlan_49 : decode cX12_takesPlan 49 = .ok (.iinc 3 1, 3) := by decide +kernel
theorem dX12_takesPlan_52 : decode cX12_takesPlan 52 = .ok (.goto (-50), 3) := by decide +kernel
theorem dX12_takesPlan_55 : decode cX12_takesPlan 55 = .ok (.aload_n 0, 1) := by decide +kernel
theorem dX12_takesPlan_56 : decode cX12_takesPlan 56 = .ok (.getfield 92, 3) := by decide +kernel
theorem dX12_takesPlan_59 : decode cX12_takesPlan 59 = .ok (.iload_n 1, 1) := by decide +kernel
theorem dX12_takesPlan_60 : decode cX12_takesPlan 60 = .ok (.iload_n 2, 1) := by decide +kernel
theorem dX12_takesPlan_61 : decode cX12_takesPlan 61 = .ok (.iastore, 1) := by decide +kernel
theorem dX12_takesPlan_62 : decode cX12_takesPlan 62 = .ok (.aload_n 0, 1) := by decide +kernel
theorem dX12_takesPlan_63 : decode cX12_takesPlan 63 = .ok (.getfield 7, 3) := by decide +kernel
theorem dX12_takesPlan_66 : decode cX12_takesPlan 66 = .ok (.bipush 39, 2) := by decide +kernel
theorem dX12_takesPlan_68 : decode cX12_takesPlan 68 = .ok (.iload_n 1, 1) := by decide +kernel
theorem dX12_takesPlan_69 : decode cX12_takesPlan 69 = .ok (.iadd, 1) := by decide +kernel
theorem dX12_takesPlan_70 : decode cX12_takesPlan 70 = .ok (.iconst 0, 1) := by decide +kernel
theorem dX12_takesPlan_71 : decode cX12_takesPlan 71 = .ok (.iastore, 1) := by decide +kernel
theorem dX12_takesPlan_72 : decode cX12_takesPlan 72 = .ok (.aload_n 0, 1) := by decide +kernel
theorem dX12_takesPlan_73 : decode cX12_takesPlan 73 = .ok (.getfield 7, 3) := by decide +kernel
theorem dX12_takesPlan_76 : decode cX12_takesPlan 76 = .ok (.bipush 33, 2) := by decide +kernel
theorem dX12_takesPlan_78 : decode cX12_takesPlan 78 = .ok (.iload_n 1, 1) := by decide +kernel
theorem dX12_takesPlan_79 : decode cX12_takesPlan 79 = .ok (.iadd, 1) := by decide +kernel
theorem dX12_takesPlan_80 : decode cX12_takesPlan 80 = .ok (.iconst 0, 1) := by decide +kernel
theorem dX12_takesPlan_81 : decode cX12_takesPlan 81 = .ok (.iastore, 1) := by decide +kernel
theorem dX12_takesPlan_82 : decode cX12_takesPlan 82 = .ok (.aload_n 0, 1) := by decide +kernel
theorem dX12_takesPlan_83 : decode cX12_takesPlan 83 = .ok (.getfield 7, 3) := by decide +kernel
theorem dX12_takesPlan_86 : decode cX12_takesPlan 86 = .ok (.bipush 45, 2) := by decide +kernel
theorem dX12_takesPlan_88 : decode cX12_takesPlan 88 = .ok (.iload_n 1, 1) := by decide +kernel
theorem dX12_takesPlan_89 : decode cX12_takesPlan 89 = .ok (.iadd, 1) := by decide +kernel
theorem dX12_takesPlan_90 : decode cX12_takesPlan 90 = .ok (.iconst 0, 1) := by decide +kernel
theorem dX12_takesPlan_91 : decode cX12_takesPlan 91 = .ok (.iastore, 1) := by decide +kernel
theorem dX12_takesPlan_92 : decode cX12_takesPlan 92 = .ok (.return_, 1) := by decide +kernel
theorem wp_X12_takesPlan_0 {d : Nat} {s : ev_S} {Q : Option ev_V → ev_S → Prop} {a1 a2 : Int}
    (h : Ev layM M_X12_takesPlan d 2 [(0, ev_r 0), (1, ev_i a1), (2, ev_i a2), (3, ev_i 0)] [] s Q) :
    Ev layM M_X12_takesPlan d 0 [(0, ev_r 0), (1, ev_i a1), (2, ev_i a2)] [] s Q := by
  refine Ev_iconst dX12_takesPlan_0 rfl (ev_Rc rfl) ?_
  refine Ev_istore_n (l' := [(3, ev_i 0), (0, ev_r 0), (1, ev_i a1), (2, ev_i a2)]) dX12_takesPlan_1 rfl (Nat.le_of_ble_eq_true rfl) rfl ?_
  exact Ev_sub [1, 2, 3, 0] rfl h
theorem wp_X12_takesPlan_2 {d : Nat} {s : ev_S} {Q : Option ev_V → ev_S → Prop} {a1 a2 a3 : Int}
    (h : ((a2 ≤ a3 → ((0 ≤ a1 ∧ a1 < (6 : Nat)) ∧ ∀ s1, ev_up s 27 (Int.toNat a1) a2 = s1 → ((0 ≤ (ev_add 39 a1) ∧ (ev_add 39 a1) < (87 : Nat)) ∧ ∀ s2, ev_up s1 1 (Int.toNat (ev_add 39 a1)) 0 = s2 → ((0 ≤ (ev_add 33 a1) ∧ (ev_add 33 a1) < (87 : Nat)) ∧ ∀ s3, ev_up s2 1 (Int.toNat (ev_add 33 a1)) 0 = s3 → ((0 ≤ (ev_add 45 a1) ∧ (ev_add 45 a1) < (87 : Nat)) ∧ ∀ s4, ev_up s3 1 (Int.toNat (ev_add 45 a1)) 0 = s4 → Q none s4))))) ∧ (a3 < a2 → ((0 ≤ (ev_add 240 a3) ∧ (ev_add 240 a3) < (280 : Nat)) ∧ ((0 ≤ (ev_add (ev_mul 40 a1) a3) ∧ (ev_add (ev_mul 40 a1) a3) < (280 : Nat)) ∧ ∀ s5, ev_up s 25 (Int.toNat (ev_add (ev_mul 40 a1) a3)) (s 25 (Int.toNat (ev_add 240 a3))) = s5 → ((0 ≤ (ev_add 240 a3) ∧ (ev_add 240 a3) < (280 : Nat)) ∧ ((0 ≤ (ev_add (ev_mul 40 a1) a3) ∧ (ev_add (ev_mul 40 a1) a3) < (280 : Nat)) ∧ ∀ s6, ev_up s5 26 (Int.toNat (ev_add (ev_mul 40 a1) a3)) (s5 26 (Int.toNat (ev_add 240 a3))) = s6 → Ev layM M_X12_takesPlan d 2 [(0, ev_r 0), (1, ev_i a1), (2, ev_i a2), (3, ev_i (ev_add a3 1))] [] s6 Q))))))) :
    Ev layM M_X12_takesPlan d 2 [(0, ev_r 0), (1, ev_i a1), (2, ev_i a2), (3, ev_i a3)] [] s Q := by
  refine Ev_iload_n 3 dX12_takesPlan_2 rfl rfl ?_
  refine Ev_iload_n 2 dX12_takesPlan_3 rfl rfl ?_
  refine Ev_icmp_ge (tgt := 55) dX12_takesPlan_4 rfl (fun c => ?_) (fun c => ?_)
  · replace h := h.1 c
    refine Ev_aload_n 0 dX12_takesPlan_55 rfl rfl ?_
    refine Ev_getR (i := 50) cl_X12 yM_0 (Nat.le_of_ble_eq_true rfl) rfl wd_1494 dX12_takesPlan_56 ?_
    refine Ev_iload_n 1 dX12_takesPlan_59 rfl rfl ?_
    refine Ev_iload_n 2 dX12_takesPlan_60 rfl rfl ?_
    obtain ⟨h0, h⟩ := h
    refine Ev_iast yM_27 h0 dX12_takesPlan_61 (Ev_nm (fun s1 es1 => ?_))
    replace h := h s1 es1
    refine Ev_aload_n 0 dX12_takesPlan_62 rfl rfl ?_
    refine Ev_getR (i := 1) cl_X12 yM_0 (Nat.le_of_ble_eq_true rfl) rfl wd_1445 dX12_takesPlan_63 ?_
    refine Ev_bipushC dX12_takesPlan_66 rfl ?_
    refine Ev_iload_n 1 dX12_takesPlan_68 rfl rfl ?_
    refine Ev_iadd dX12_takesPlan_69 ?_
    refine Ev_iconst dX12_takesPlan_70 rfl (ev_Rc rfl) ?_
    obtain ⟨h0, h⟩ := h
    refine Ev_iast yM_1 h0 dX12_takesPlan_71 (Ev_nm (fun s2 es2 => ?_))
    replace h := h s2 es2
    refine Ev_aload_n 0 dX12_takesPlan_72 rfl rfl ?_
    refine Ev_getR (i := 1) cl_X12 yM_0 (Nat.le_of_ble_eq_true rfl) rfl wd_1445 dX12_takesPlan_73 ?_
    refine Ev_bipushC dX12_takesPlan_76 rfl ?_
    refine Ev_iload_n 1 dX12_takesPlan_78 rfl rfl ?_
    refine Ev_iadd dX12_takesPlan_79 ?_
    refine Ev_iconst dX12_takesPlan_80 rfl (ev_Rc rfl) ?_
    obtain ⟨h0, h⟩ := h
    refine Ev_iast yM_1 h0 dX12_takesPlan_81 (Ev_nm (fun s3 es3 => ?_))
    replace h := h s3 es3
    refine Ev_aload_n 0 dX12_takesPlan_82 rfl rfl ?_
    refine Ev_getR (i := 1) cl_X12 yM_0 (Nat.le_of_ble_eq_true rfl) rfl wd_1445 dX12_takesPlan_83 ?_
    refine Ev_bipushC dX12_takesPlan_86 rfl ?_
    refine Ev_iload_n 1 dX12_takesPlan_88 rfl rfl ?_
    refine Ev_iadd dX12_takesPlan_89 ?_
    refine Ev_iconst dX12_takesPlan_90 rfl (ev_Rc rfl) ?_
    obtain ⟨h0, h⟩ := h
    refine Ev_iast yM_1 h0 dX12_takesPlan_91 (Ev_nm (fun s4 es4 => ?_))
    replace h := h s4 es4
    exact Ev_vret rfl dX12_takesPlan_92 h
  · replace h := h.2 c
    refine Ev_aload_n 0 dX12_takesPlan_7 rfl rfl ?_
    refine Ev_getR (i := 48) cl_X12 yM_0 (Nat.le_of_ble_eq_true rfl) rfl wd_1492 dX12_takesPlan_8 ?_
    refine Ev_bipushC dX12_takesPlan_11 rfl ?_
    refine Ev_iload_n 1 dX12_takesPlan_13 rfl rfl ?_
    refine Ev_imul dX12_takesPlan_14 ?_
    refine Ev_iload_n 3 dX12_takesPlan_15 rfl rfl ?_
    refine Ev_iadd dX12_takesPlan_16 ?_
    refine Ev_aload_n 0 dX12_takesPlan_17 rfl rfl ?_
    refine Ev_getR (i := 48) cl_X12 yM_0 (Nat.le_of_ble_eq_true rfl) rfl wd_1492 dX12_takesPlan_18 ?_
    refine Ev_sipushC dX12_takesPlan_21 rfl ?_
    refine Ev_iload_n 3 dX12_takesPlan_24 rfl rfl ?_
    refine Ev_iadd dX12_takesPlan_25 ?_
    obtain ⟨h0, h⟩ := h
    refine Ev_iald yM_25 h0 dX12_takesPlan_26 ?_
    obtain ⟨h0, h⟩ := h
    refine Ev_iast yM_25 h0 dX12_takesPlan_27 (Ev_nm (fun s5 es5 => ?_))
    replace h := h s5 es5
    refine Ev_aload_n 0 dX12_takesPlan_28 rfl rfl ?_
    refine Ev_getR (i := 49) cl_X12 yM_0 (Nat.le_of_ble_eq_true rfl) rfl wd_1493 dX12_takesPlan_29 ?_
    refine Ev_bipushC dX12_takesPlan_32 rfl ?_
    refine Ev_iload_n 1 dX12_takesPlan_34 rfl rfl ?_
    refine Ev_imul dX12_takesPlan_35 ?_
    refine Ev_iload_n 3 dX12_takesPlan_36 rfl rfl ?_
    refine Ev_iadd dX12_takesPlan_37 ?_
    refine Ev_aload_n 0 dX12_takesPlan_38 rfl rfl ?_
    refine Ev_getR (i := 49) cl_X12 yM_0 (Nat.le_of_ble_eq_true rfl) rfl wd_1493 dX12_takesPlan_39 ?_
    refine Ev_sipushC dX12_takesPlan_42 rfl ?_
    refine Ev_iload_n 3 dX12_takesPlan_45 rfl rfl ?_
    refine Ev_iadd dX12_takesPlan_46 ?_
    obtain ⟨h0, h⟩ := h
    refine Ev_iald yM_26 h0 dX12_takesPlan_47 ?_
    obtain ⟨h0, h⟩ := h
    refine Ev_iast yM_26 h0 dX12_takesPlan_48 (Ev_nm (fun s6 es6 => ?_))
    replace h := h s6 es6
    refine Ev_iinc (j := 3) (l' := [(3, ev_i (ev_add a3 1)), (0, ev_r 0), (1, ev_i a1), (2, ev_i a2)]) dX12_takesPlan_49 rfl (Nat.le_of_ble_eq_true rfl) rfl ?_
    refine Ev_goto (tgt := 2) dX12_takesPlan_52 rfl ?_
    exact Ev_sub [1, 2, 3, 0] rfl h
