theorem dX12_seconds_0 : decode cX12_seconds 0 = .ok (.aload_n 0, 1) := by decide +kernel
theorem dX12_seconds_1 : decode cX12_seconds 1 = .ok (.iconst 0, 1) := by decide +kernel
theorem dX12_seconds_2 : decode cX12_seconds 2 = .ok (.putfield 124, 3) := by decide +kernel
theorem dX12_seconds_5 : decode cX12_seconds 5 = .ok (.aload_n 0, 1) := by decide +kernel
theorem dX12_seconds_6 : decode cX12_seconds 6 = .ok (.iload_n 1, 1) := by decide +kernel
theorem dX12_seconds_7 : decode cX12_seconds 7 = .ok (.iconst 1, 1) := by decide +kernel
theorem dX12_seconds_8 : decode cX12_seconds 8 = .ok (.bipush 60, 2) := by decide +kernel
theorem dX12_seconds_10 : decode cX12_seconds 10 = .ok (.invokevirtual 158, 3) := by decide +kernel
theorem dX12_seconds_13 : decode cX12_seconds 13 = .ok (.ifCond .eq 17, 3) := by decide +kernel
theorem dX12_seconds_16 : decode cX12_seconds 16 = .ok (.aload_n 0, 1) := by decide +kernel
theorem dX12_seconds_17 : decode cX12_seconds 17 = .ok (.getfield 7, 3) := by decide +kernel
theorem dX12_seconds_20 : decode cX12_seconds 20 = .ok (.iconst 0, 1) := by decide +kernel
theorem dX12_seconds_21 : decode cX12_seconds 21 = .ok (.iaload, 1) := by decide +kernel
theorem dX12_seconds_22 : decode cX12_seconds 22 = .ok (.iload_n 1, 1) := by decide +kernel
theorem dX12_seconds_23 : decode cX12_seconds 23 = .ok (.iadd, 1) := by decide +kernel
theorem dX12_seconds_24 : decode cX12_seconds 24 = .ok (.sipush 600, 3) := by decide +kernel
theorem dX12_seconds_27 : decode cX12_seconds 27 = .ok (.if_icmp .le 5, 3) := by decide +kernel
theorem dX12_seconds_30 : decode cX12_seconds 30 = .ok (.iconst (-1), 1) := by decide +kernel
theorem dX12_seconds_31 : decode cX12_seconds 31 = .ok (.ireturn, 1) := by decide +kernel
theorem dX12_seconds_32 : decode cX12_seconds 32 = .ok (.iconst 0, 1) := by decide +kernel
theorem dX12_seconds_33 : decode cX12_seconds 33 = .ok (.istore_n 2, 1) := by decide +kernel
theorem dX12_seconds_34 : decode cX12_seconds 34 = .ok (.iconst 0, 1) := by decide +kernel
theorem dX12_seconds_35 : decode cX12_seconds 35 = .ok (.istore_n 3, 1) := by decide +kernel
theorem dX12_seconds_36 : decode cX12_seconds 36 = .ok (.iload_n 3, 1) := by decide +kernel
theorem dX12_seconds_37 : decode cX12_seconds 37 = .ok (.iload_n 1, 1) := by decide +kernel
theorem dX12_seconds_38 : decode cX12_seconds 38 = .ok (.if_icmp .ge 20, 3) := by decide +kernel
theorem dX12_seconds_41 : decode cX12_seconds 41 = .ok (.aload_n 0, 1) := by decide +kernel
theorem dX12_seconds_42 : decode cX12_seconds 42 = .ok (.invokevirtual 420, 3) := by decide +kernel
theorem dX12_seconds_45 : decode cX12_seconds 45 = .ok (.iload_n 2, 1) := by decide +kernel
theorem dX12_seconds_46 : decode cX12_seconds 46 = .ok (.aload_n 0, 1) := by decide +kernel
theorem dX12_seconds_47 : decode cX12_seconds 47 = .ok (.invokevirtual 423, 3) := by decide +kernel
theorem dX12_seconds_50 : decode cX12_seconds 50 = .ok (.iadd, 1) := by decide +kernel
theorem dX12_seconds_51 : decode cX12_seconds 51 = .ok (.istore_n 2, 1) := by decide +kernel
theorem dX12_seconds_52 : decode cX12_seconds 52 = .ok (.iinc 3 1, 3) := by decide +kernel
theorem dX12_seconds_55 : decode cX12_seconds 55 = .ok (.goto (-19), 3) := by decide +kernel
theorem dX12_seconds_58 : decode cX12_seconds 58 = .ok (.iload_n 2, 1) := by decide +kernel
theorem dX12_seconds_59 : decode cX12_seconds 59 = .ok (.ireturn, 1) := by decide +kernel
theorem wp_X12_seconds_0 {d : Nat} {s : ev_S} {Q : Option ev_V → ev_S → Prop} {a1 : Int}
    (h : (∀ s1, ev_up s 0 0 0 = s1 → (Ev layM M_X12_isIn d 0 [(0, ev_r 0), (1, ev_i a1), (2, ev_i 1), (3, ev_i 60)] [] s1 (ev_pi (fun r3 s2 => ((r3 = 0 → Q (some (ev_i (-1))) s2) ∧ (r3 ≠ 0 → (((ev_add (s2 1 0) a1) ≤ 600 → Ev layM M_X12_seconds (d + 1) 36 [(0, ev_r 0), (1, ev_i a1), (2, ev_i 0), (3, ev_i 0)] [] s2 Q) ∧ (600 < (ev_add (s2 1 0) a1) → Q (some (ev_i (-1))) s2))))))))) :
    Ev layM M_X12_seconds (d + 1) 0 [(0, ev_r 0), (1, ev_i a1)] [] s Q := by
  refine Ev_aload_n 0 dX12_seconds_0 rfl rfl ?_
  refine Ev_iconst dX12_seconds_1 rfl (ev_Rc rfl) ?_
  refine Ev_put (i := 0) (ty := .int) cl_X12 yM_0 (Nat.le_of_ble_eq_true rfl) rfl rfl (by decide +kernel) rfl rfl wd_1444 dX12_seconds_2 (Ev_nm (fun s1 es1 => ?_))
  replace h := h s1 es1
  refine Ev_aload_n 0 dX12_seconds_5 rfl rfl ?_
  refine Ev_iload_n 1 dX12_seconds_6 rfl rfl ?_
  refine Ev_iconst dX12_seconds_7 rfl (ev_Rc rfl) ?_
  refine Ev_bipushC dX12_seconds_8 rfl ?_
  refine Ev_callV (As := [ev_i a1, ev_i 1, ev_i 60]) (b := 0) (st := []) (M' := M_X12_isIn) cm_X12_isIn wd_1650 wd_1652 wd_70 yM_0 cl_X12 rfl dX12_seconds_10 (Nat.le_refl _) rfl (Nat.le_of_ble_eq_true rfl) (Nat.le_of_ble_eq_true rfl) h (fun v u h hk => ?_)
  obtain ⟨r3, rfl⟩ := hk
  obtain ⟨s2, rfl⟩ : ∃ x, x = u := ⟨_, rfl⟩
  replace h := h r3 rfl
  refine Ev_if_eq (tgt := 30) dX12_seconds_13 rfl (fun c => ?_) (fun c => ?_)
  · replace h := h.1 c
    refine Ev_iconst dX12_seconds_30 rfl (ev_Rc rfl) ?_
    exact Ev_iret rfl dX12_seconds_31 rfl h
  · replace h := h.2 c
    refine Ev_aload_n 0 dX12_seconds_16 rfl rfl ?_
    refine Ev_getR (i := 1) cl_X12 yM_0 (Nat.le_of_ble_eq_true rfl) rfl wd_1445 dX12_seconds_17 ?_
    refine Ev_iconst dX12_seconds_20 rfl (ev_Rc rfl) ?_
    refine Ev_iald yM_1 (by decide) dX12_seconds_21 ?_
    refine Ev_iload_n 1 dX12_seconds_22 rfl rfl ?_
    refine Ev_iadd dX12_seconds_23 ?_
    refine Ev_sipushC dX12_seconds_24 rfl ?_
    refine Ev_icmp_le (tgt := 32) dX12_seconds_27 rfl (fun c => ?_) (fun c => ?_)
    · replace h := h.1 c
      refine Ev_iconst dX12_seconds_32 rfl (ev_Rc rfl) ?_
      refine Ev_istore_n (l' := [(2, ev_i 0), (0, ev_r 0), (1, ev_i a1)]) dX12_seconds_33 rfl (Nat.le_of_ble_eq_true rfl) rfl ?_
      refine Ev_iconst dX12_seconds_34 rfl (ev_Rc rfl) ?_
      refine Ev_istore_n (l' := [(3, ev_i 0), (2, ev_i 0), (0, ev_r 0), (1, ev_i a1)]) dX12_seconds_35 rfl (Nat.le_of_ble_eq_true rfl) rfl ?_
      exact Ev_sub [2, 3, 1, 0] rfl h
    · replace h := h.2 c
      refine Ev_iconst dX12_seconds_30 rfl (ev_Rc rfl) ?_
      exact Ev_iret rfl dX12_seconds_31 rfl h
theorem wp_X12_seconds_36 {d : Nat} {s : ev_S} {Q : Option ev_V → ev_S → Prop} {a1 a2 a3 : Int}
    (h : ((a1 ≤ a3 → Q (some (ev_i a2)) s) ∧ (a3 < a1 → (Ev layM M_X12_keepsAhead d 0 [(0, ev_r 0)] [] s (fun _ s1 => (Ev layM M_X12_goesBy d 0 [(0, ev_r 0)] [] s1 (ev_pi (fun r3 s2 => Ev layM M_X12_seconds (d + 1) 36 [(0, ev_r 0), (1, ev_i a1), (2, ev_i (ev_add a2 r3)), (3, ev_i (ev_add a3 1))] [] s2 Q)))))))) :
    Ev layM M_X12_seconds (d + 1) 36 [(0, ev_r 0), (1, ev_i a1), (2, ev_i a2), (3, ev_i a3)] [] s Q := by
  refine Ev_iload_n 3 dX12_seconds_36 rfl rfl ?_
  refine Ev_iload_n 1 dX12_seconds_37 rfl rfl ?_
  refine Ev_icmp_ge (tgt := 58) dX12_seconds_38 rfl (fun c => ?_) (fun c => ?_)
  · replace h := h.1 c
    refine Ev_iload_n 2 dX12_seconds_58 rfl rfl ?_
    exact Ev_iret rfl dX12_seconds_59 rfl h
  · replace h := h.2 c
    refine Ev_aload_n 0 dX12_seconds_41 rfl rfl ?_
    refine Ev_callV (As := []) (b := 0) (st := []) (M' := M_X12_keepsAhead) cm_X12_keepsAhead wd_1882 wd_1884 wd_119 yM_0 cl_X12 rfl dX12_seconds_42 (Nat.le_refl _) rfl (Nat.le_of_ble_eq_true rfl) (Nat.le_of_ble_eq_true rfl) h (fun v u h hk => ?_)
    cases hk
    obtain ⟨s1, rfl⟩ : ∃ x, x = u := ⟨_, rfl⟩
    refine Ev_iload_n 2 dX12_seconds_45 rfl rfl ?_
    refine Ev_aload_n 0 dX12_seconds_46 rfl rfl ?_
    refine Ev_callV (As := []) (b := 0) (st := [ev_i a2]) (M' := M_X12_goesBy) cm_X12_goesBy wd_1886 wd_1888 wd_120 yM_0 cl_X12 rfl dX12_seconds_47 (Nat.le_refl _) rfl (Nat.le_of_ble_eq_true rfl) (Nat.le_of_ble_eq_true rfl) h (fun v u h hk => ?_)
    obtain ⟨r3, rfl⟩ := hk
    obtain ⟨s2, rfl⟩ : ∃ x, x = u := ⟨_, rfl⟩
    replace h := h r3 rfl
    refine Ev_iadd dX12_seconds_50 ?_
    refine Ev_istore_n (l' := [(2, ev_i (ev_add a2 r3)), (0, ev_r 0), (1, ev_i a1), (3, ev_i a3)]) dX12_seconds_51 rfl (Nat.le_of_ble_eq_true rfl) rfl ?_
    refine Ev_iinc (j := 3) (l' := [(3, ev_i (ev_add a3 1)), (2, ev_i (ev_add a2 r3)), (0, ev_r 0), (1, ev_i a1)]) dX12_seconds_52 rfl (Nat.le_of_ble_eq_true rfl) rfl ?_
    refine Ev_goto (tgt := 36) dX12_seconds_55 rfl ?_
    exact Ev_sub [2, 3, 1, 0] rfl h
theorem dX12_riskOf_0 : decode cX12_riskOf 0 = .ok (.aload_n 0, 1) := by decide +kernel
theorem dX12_riskOf_1 : decode cX12_riskOf 1 = .ok (.iload_n 1, 1) := by decide +kernel
theorem dX12_riskOf_2 : decode cX12_riskOf 2 = .ok (.iconst 0, 1) := by decide +kernel
theorem dX12_riskOf_3 : decode cX12_riskOf 3 = .ok (.invokevirtual 396, 3) := by decide +kernel
theorem dX12_riskOf_6 : decode cX12_riskOf 6 = .ok (.aload_n 0, 1) := by decide +kernel
theorem dX12_riskOf_7 : decode cX12_riskOf 7 = .ok (.iload_n 1, 1) := by decide +kernel
theorem dX12_riskOf_8 : decode cX12_riskOf 8 = .ok (.bipush 6, 2) := by decide +kernel
theorem dX12_riskOf_10 : decode cX12_riskOf 10 = .ok (.invokevirtual 396, 3) := by decide +kernel
theorem dX12_riskOf_13 : decode cX12_riskOf 13 = .ok (.imul, 1) := by decide +kernel
theorem dX12_riskOf_14 : decode cX12_riskOf 14 = .ok (.ireturn, 1) := by decide +kernel
theorem wp_X12_riskOf_0 {d : Nat} {s : ev_S} {Q : Option ev_V → ev_S → Prop} {a1 : Int}
    (h : (Ev layM M_X12_ofMishap d 0 [(0, ev_r 0), (1, ev_i a1), (2, ev_i 0)] [] s (ev_pi (fun r2 s1 => (Ev layM M_X12_ofMishap d 0 [(0, ev_r 0), (1, ev_i a1), (2, ev_i 6)] [] s1 (ev_pi (fun r4 s3 => Q (some (ev_i (ev_mul r2 r4))) s3))))))) :
    Ev layM M_X12_riskOf (d + 1) 0 [(0, ev_r 0), (1, ev_i a1)] [] s Q := by
  refine Ev_aload_n 0 dX12_riskOf_0 rfl rfl ?_
  refine Ev_iload_n 1 dX12_riskOf_1 rfl rfl ?_
  refine Ev_iconst dX12_riskOf_2 rfl (ev_Rc rfl) ?_
  refine Ev_callV (As := [ev_i a1, ev_i 0]) (b := 0) (st := []) (M' := M_X12_ofMishap) cm_X12_ofMishap wd_1954 wd_1956 wd_137 yM_0 cl_X12 rfl dX12_riskOf_3 (Nat.le_refl _) rfl (Nat.le_of_ble_eq_true rfl) (Nat.le_of_ble_eq_true rfl) h (fun v u h hk => ?_)
  obtain ⟨r2, rfl⟩ := hk
  obtain ⟨s1, rfl⟩ : ∃ x, x = u := ⟨_, rfl⟩
  replace h := h r2 rfl
  refine Ev_aload_n 0 dX12_riskOf_6 rfl rfl ?_
  refine Ev_iload_n 1 dX12_riskOf_7 rfl rfl ?_
  refine Ev_bipushC dX12_riskOf_8 rfl ?_
  refine Ev_callV (As := [ev_i a1, ev_i 6]) (b := 0) (st := [ev_i r2]) (M' := M_X12_ofMishap) cm_X12_ofMishap wd_1954 wd_1956 wd_137 yM_0 cl_X12 rfl dX12_riskOf_10 (Nat.le_refl _) rfl (Nat.le_of_ble_eq_true rfl) (Nat.le_of_ble_eq_true rfl) h (fun v u h hk => ?_)
  obtain ⟨r4, rfl⟩ := hk
  obtain ⟨s3, rfl⟩ : ∃ x, x = u := ⟨_, rfl⟩
  replace h := h r4 rfl
  refine Ev_imul dX12_riskOf_13 ?_
  exact Ev_iret rfl dX12_riskOf_14 rfl h
theorem dX12_foresees_0 : decode cX12_foresees 0 = .ok (.iconst 0, 1) := by decide +kernel
theorem dX12_foresees_1 : decode cX12_foresees 1 = .ok (.istore_n 1, 1) := by decide +kernel
theorem dX12_foresees_2 : decode cX12_foresees 2 = .ok (.iload_n 1, 1) := by decide +kernel
theorem dX12_foresees_3 : decode cX12_foresees 3 = .ok (.bipush 10, 2) := by decide +kernel
theorem dX12_foresees_5 : decode cX12_foresees 5 = .ok (.if_icmp .ge 16, 3) := by decide +kernel
theorem dX12_foresees_8 : decode cX12_foresees 8 = .ok (.aload_n 0, 1) := by decide +kernel
theorem dX12_foresees_9 : decode cX12_foresees 9 = .ok (.getfield 101, 3) := by decide +kernel
theorem dX12_foresees_12 : decode cX12_foresees 12 = .ok (.iload_n 1, 1) := by decide +kernel
theorem dX12_foresees_13 : decode cX12_foresees 13 = .ok (.iconst (-1), 1) := by decide +kernel
theorem dX12_foresees_14 : decode cX12_foresees 14 = .ok (.iastore, 1) := by decide +kernel
theorem dX12_foresees_15 : decode cX12_foresees 15 = .ok (.iinc 1 1, 3) := by decide +kernel
theorem dX12_foresees_18 : decode cX12_foresees 18 = .ok (.goto (-16), 3) := by decide +kernel
theorem dX12_foresees_21 : decode cX12_foresees 21 = .ok (.aload_n 0, 1) := by decide +kernel
theorem dX12_foresees_22 : decode cX12_foresees 22 = .ok (.invokevirtual 426, 3) := by decide +kernel
theorem dX12_foresees_25 : decode cX12_foresees 25 = .ok (.aload_n 0, 1) := by decide +kernel
theorem dX12_foresees_26 : decode cX12_foresees 26 = .ok (.getfield 7, 3) := by decide +kernel
theorem dX12_foresees_29 : decode cX12_foresees 29 = .ok (.iconst 0, 1) := by decide +kernel
theorem dX12_foresees_30 : decode cX12_foresees 30 = .ok (.iaload, 1) := by decide +kernel
theorem dX12_foresees_31 : decode cX12_foresees 31 = .ok (.sipush 600, 3) := by decide +kernel
theorem dX12_foresees_34 : decode cX12_foresees 34 = .ok (.if_icmp .ge 70, 3) := by decide +kernel
theorem dX12_foresees_37 : decode cX12_foresees 37 = .ok (.aload_n 0, 1) := by decide +kernel
theorem dX12_foresees_38 : decode cX12_foresees 38 = .ok (.invokevirtual 411, 3) := by decide +kernel
theorem dX12_foresees_41 : decode cX12_foresees 41 = .ok (.iconst 0, 1) := by decide +kernel
theorem dX12_foresees_42 : decode cX12_foresees 42 = .ok (.istore_n 1, 1) := by decide +kernel
theorem dX12_foresees_43 : decode cX12_foresees 43 = .ok (.iload_n 1, 1) := by decide +kernel
theorem dX12_foresees_44 : decode cX12_foresees 44 = .ok (.aload_n 0, 1) := by decide +kernel
theorem dX12_foresees_45 : decode cX12_foresees 45 = .ok (.getfield 165, 3) := by decide +kernel
theorem dX12_foresees_48 : decode cX12_foresees 48 = .ok (.if_icmp .ge 39, 3) := by decide +kernel
theorem dX12_foresees_51 : decode cX12_foresees 51 = .ok (.aload_n 0, 1) := by decide +kernel
theorem dX12_foresees_52 : decode cX12_foresees 52 = .ok (.getfield 101, 3) := by decide +kernel
theorem dX12_foresees_55 : decode cX12_foresees 55 = .ok (.iload_n 1, 1) := by decide +kernel
theorem dX12_foresees_56 : decode cX12_foresees 56 = .ok (.iaload, 1) := by decide +kernel
theorem dX12_foresees_57 : decode cX12_foresees 57 = .ok (.iconst (-1), 1) := by decide +kernel
theorem dX12_foresees_58 : decode cX12_foresees 58 = .ok (.if_icmp .ne 23, 3) := by decide +kernel
theorem dX12_foresees_61 : decode cX12_foresees 61 = .ok (.aload_n 0, 1) := by decide +kernel
theorem dX12_foresees_62 : decode cX12_foresees 62 = .ok (.iload_n 1, 1) := by decide +kernel
theorem dX12_foresees_63 : decode cX12_foresees 63 = .ok (.invokevirtual 414, 3) := by decide +kernel
theorem dX12_foresees_66 : decode cX12_foresees 66 = .ok (.ifCond .eq 15, 3) := by decide +kernel
theorem dX12_foresees_69 : decode cX12_foresees 69 = .ok (.aload_n 0, 1) := by decide +kernel
theorem dX12_foresees_70 : decode cX12_foresees 70 = .ok (.getfield 101, 3) := by decide +kernel
theorem dX12_foresees_73 : decode cX12_foresees 73 = .ok (.iload_n 1, 1) := by decide +kernel
theorem dX12_foresees_74 : decode cX12_foresees 74 = .ok (.aload_n 0, 1) := by decide +kernel
theorem dX12_foresees_75 : decode cX12_foresees 75 = .ok (.getfield 7, 3) := by decide +kernel
theorem dX12_foresees_78 : decode cX12_foresees 78 = .ok (.iconst 0, 1) := by decide +kernel
theorem dX12_foresees_79 : decode cX12_foresees 79 = .ok (.iaload, 1) := by decide +kernel
theorem dX12_foresees_80 : decode cX12_foresees 80 = .ok (.iastore, 1) := by decide +kernel
theorem dX12_foresees_81 : decode cX12_foresees 81 = .ok (.iinc 1 1, 3) := by decide +kernel
theorem dX12_foresees_84 : decode cX12_foresees 84 = .ok (.goto (-41), 3) := by decide +kernel
theorem dX12_foresees_87 : decode cX12_foresees 87 = .ok (.aload_n 0, 1) := by decide +kernel
theorem dX12_foresees_88 : decode cX12_foresees 88 = .ok (.getfield 7, 3) := by decide +kernel
theorem dX12_foresees_91 : decode cX12_foresees 91 = .ok (.iconst 0, 1) := by decide +kernel
theorem dX12_foresees_92 : decode cX12_foresees 92 = .ok (.aload_n 0, 1) := by decide +kernel
theorem dX12_foresees_93 : decode cX12_foresees 93 = .ok (.getfield 7, 3) := by decide +kernel
theorem dX12_foresees_96 : decode cX12_foresees 96 = .ok (.iconst 0, 1) := by decide +kernel
theorem dX12_foresees_97 : decode cX12_foresees 97 = .ok (.iaload, 1) := by decide +kernel
theorem dX12_foresees_98 : decode cX12_foresees 98 = .ok (.iconst 1, 1) := by decide +kernel
theorem dX12_foresees_99 : decode cX12_foresees 99 = .ok (.iadd, 1) := by decide +kernel
theorem dX12_foresees_100 : decode cX12_foresees 100 = .ok (.iastore, 1) := by decide +kernel
theorem dX12_foresees_101 : decode cX12_foresees 101 = .ok (.goto (-76), 3) := by decide +kernel
theorem dX12_foresees_104 : decode cX12_foresees 104 = .ok (.aload_n 0, 1) := by decide +kernel
theorem dX12_foresees_105 : decode cX12_foresees 105 = .ok (.invokevirtual 429, 3) := by decide +kernel
theorem dX12_foresees_108 : decode cX12_foresees 108 = .ok (.return_, 1) := by decide +kernel
theorem wp_X12_foresees_0 {d : Nat} {s : ev_S} {Q : Option ev_V → ev_S → Prop}
    (h : Ev layM M_X12_foresees (d + 1) 2 [(0, ev_r 0), (1, ev_i 0)] [] s Q) :
    Ev layM M_X12_foresees (d + 1) 0 [(0, ev_r 0)] [] s Q := by
  refine Ev_iconst dX12_foresees_0 rfl (ev_Rc rfl) ?_
  refine Ev_istore_n (l' := [(1, ev_i 0), (0, ev_r 0)]) dX12_foresees_1 rfl (Nat.le_of_ble_eq_true rfl) rfl ?_
  exact Ev_sub [1, 0] rfl h
theorem wp_X12_foresees_2 {d : Nat} {s : ev_S} {Q : Option ev_V → ev_S → Prop} {a1 : Int}
    (h : ((10 ≤ a1 → (Ev layM M_X12_thinks d 0 [(0, ev_r 0)] [] s (fun _ s1 => Ev layM M_X12_foresees (d + 1) 25 [(0, ev_r 0)] [] s1 Q))) ∧ (a1 < 10 → ((0 ≤ a1 ∧ a1 < (10 : Nat)) ∧ ∀ s2, ev_up s 30 (Int.toNat a1) (-1) = s2 → Ev layM M_X12_foresees (d + 1) 2 [(0, ev_r 0), (1, ev_i (ev_add a1 1))] [] s2 Q)))) :
    Ev layM M_X12_foresees (d + 1) 2 [(0, ev_r 0), (1, ev_i a1)] [] s Q := by
  refine Ev_iload_n 1 dX12_foresees_2 rfl rfl ?_
  refine Ev_bipushC dX12_foresees_3 rfl ?_
  refine Ev_icmp_ge (tgt := 21) dX12_foresees_5 rfl (fun c => ?_) (fun c => ?_)
  · replace h := h.1 c
    refine Ev_aload_n 0 dX12_foresees_21 rfl rfl ?_
    refine Ev_callV (As := []) (b := 0) (st := []) (M' := M_X12_thinks) cm_X12_thinks wd_1980 wd_1982 wd_142 yM_0 cl_X12 rfl dX12_foresees_22 (Nat.le_refl _) rfl (Nat.le_of_ble_eq_true rfl) (Nat.le_of_ble_eq_true rfl) h (fun v u h hk => ?_)
    cases hk
    obtain ⟨s1, rfl⟩ : ∃ x, x = u := ⟨_, rfl⟩
    exact Ev_sub [0] rfl h
  · replace h := h.2 c
    refine Ev_aload_n 0 dX12_foresees_8 rfl rfl ?_
    refine Ev_getR (i := 53) cl_X12 yM_0 (Nat.le_of_ble_eq_true rfl) rfl wd_1497 dX12_foresees_9 ?_
    refine Ev_iload_n 1 dX12_foresees_12 rfl rfl ?_
    refine Ev_iconst dX12_foresees_13 rfl (ev_Rc rfl) ?_
    obtain ⟨h0, h⟩ := h
    refine Ev_iast yM_30 h0 dX12_foresees_14 (Ev_nm (fun s2 es2 => ?_))
    replace h := h s2 es2
    refine Ev_iinc (j := 1) (l' := [(1, ev_i (ev_add a1 1)), (0, ev_r 0)]) dX12_foresees_15 rfl (Nat.le_of_ble_eq_true rfl) rfl ?_
    refine Ev_goto (tgt := 2) dX12_foresees_18 rfl ?_
    exact Ev_sub [1, 0] rfl h
theorem wp_X12_foresees_25 {d : Nat} {s : ev_S} {Q : Option ev_V → ev_S → Prop}
    (h : ((600 ≤ (s 1 0) → (Ev layM M_X12_endsThought d 0 [(0, ev_r 0)] [] s (fun _ s1 => Q none s1))) ∧ ((s 1 0) < 600 → (Ev layM M_X12_wardsGoOn d 0 [(0, ev_r 0)] [] s (fun _ s2 => Ev layM M_X12_foresees (d + 1) 43 [(0, ev_r 0), (1, ev_i 0)] [] s2 Q))))) :
    Ev layM M_X12_foresees (d + 1) 25 [(0, ev_r 0)] [] s Q := by
  refine Ev_aload_n 0 dX12_foresees_25 rfl rfl ?_
  refine Ev_getR (i := 1) cl_X12 yM_0 (Nat.le_of_ble_eq_true rfl) rfl wd_1445 dX12_foresees_26 ?_
  refine Ev_iconst dX12_foresees_29 rfl (ev_Rc rfl) ?_
  refine Ev_iald yM_1 (by decide) dX12_foresees_30 ?_
  refine Ev_sipushC dX12_foresees_31 rfl ?_
  refine Ev_icmp_ge (tgt := 104) dX12_foresees_34 rfl (fun c => ?_) (fun c => ?_)
  · replace h := h.1 c
    refine Ev_aload_n 0 dX12_foresees_104 rfl rfl ?_
    refine Ev_callV (As := []) (b := 0) (st := []) (M' := M_X12_endsThought) cm_X12_endsThought wd_1988 wd_1990 wd_144 yM_0 cl_X12 rfl dX12_foresees_105 (Nat.le_refl _) rfl (Nat.le_of_ble_eq_true rfl) (Nat.le_of_ble_eq_true rfl) h (fun v u h hk => ?_)
    cases hk
    obtain ⟨s1, rfl⟩ : ∃ x, x = u := ⟨_, rfl⟩
    exact Ev_vret rfl dX12_foresees_108 h
  · replace h := h.2 c
    refine Ev_aload_n 0 dX12_foresees_37 rfl rfl ?_
    refine Ev_callV (As := []) (b := 0) (st := []) (M' := M_X12_wardsGoOn) cm_X12_wardsGoOn wd_1938 wd_1940 wd_133 yM_0 cl_X12 rfl dX12_foresees_38 (Nat.le_refl _) rfl (Nat.le_of_ble_eq_true rfl) (Nat.le_of_ble_eq_true rfl) h (fun v u h hk => ?_)
    cases hk
    obtain ⟨s2, rfl⟩ : ∃ x, x = u := ⟨_, rfl⟩
    refine Ev_iconst dX12_foresees_41 rfl (ev_Rc rfl) ?_
    refine Ev_istore_n (l' := [(1, ev_i 0), (0, ev_r 0)]) dX12_foresees_42 rfl (Nat.le_of_ble_eq_true rfl) rfl ?_
    exact Ev_sub [1, 0] rfl h
theorem wp_X12_foresees_43 {d : Nat} {s : ev_S} {Q : Option ev_V → ev_S → Prop} {a1 : Int}
    (h : (((s 0 46) ≤ a1 → (∀ s1, ev_up s 1 0 (ev_add (s 1 0) 1) = s1 → Ev layM M_X12_foresees (d + 1) 25 [(0, ev_r 0)] [] s1 Q)) ∧ (a1 < (s 0 46) → ((0 ≤ a1 ∧ a1 < (10 : Nat)) ∧ (((s 30 (Int.toNat a1)) ≠ (-1) → Ev layM M_X12_foresees (d + 1) 43 [(0, ev_r 0), (1, ev_i (ev_add a1 1))] [] s Q) ∧ ((s 30 (Int.toNat a1)) = (-1) → (Ev layM M_X12_doesCome d 0 [(0, ev_r 0), (1, ev_i a1)] [] s (ev_pi (fun r3 s2 => ((r3 = 0 → Ev layM M_X12_foresees (d + 1) 43 [(0, ev_r 0), (1, ev_i (ev_add a1 1))] [] s2 Q) ∧ (r3 ≠ 0 → ((0 ≤ a1 ∧ a1 < (10 : Nat)) ∧ ∀ s4, ev_up s2 30 (Int.toNat a1) (s2 1 0) = s4 → Ev layM M_X12_foresees (d + 1) 43 [(0, ev_r 0), (1, ev_i (ev_add a1 1))] [] s4 Q)))))))))))) :
    Ev layM M_X12_foresees (d + 1) 43 [(0, ev_r 0), (1, ev_i a1)] [] s Q := by
  refine Ev_iload_n 1 dX12_foresees_43 rfl rfl ?_
  refine Ev_aload_n 0 dX12_foresees_44 rfl rfl ?_
  refine Ev_get (i := 46) cl_X12 yM_0 (Nat.le_of_ble_eq_true rfl) rfl wd_1490 dX12_foresees_45 ?_
  refine Ev_icmp_ge (tgt := 87) dX12_foresees_48 rfl (fun c => ?_) (fun c => ?_)
  · replace h := h.1 c
    refine Ev_aload_n 0 dX12_foresees_87 rfl rfl ?_
    refine Ev_getR (i := 1) cl_X12 yM_0 (Nat.le_of_ble_eq_true rfl) rfl wd_1445 dX12_foresees_88 ?_
    refine Ev_iconst dX12_foresees_91 rfl (ev_Rc rfl) ?_
    refine Ev_aload_n 0 dX12_foresees_92 rfl rfl ?_
    refine Ev_getR (i := 1) cl_X12 yM_0 (Nat.le_of_ble_eq_true rfl) rfl wd_1445 dX12_foresees_93 ?_
    refine Ev_iconst dX12_foresees_96 rfl (ev_Rc rfl) ?_
    refine Ev_iald yM_1 (by decide) dX12_foresees_97 ?_
    refine Ev_iconst dX12_foresees_98 rfl (ev_Rc rfl) ?_
    refine Ev_iadd dX12_foresees_99 ?_
    refine Ev_iast yM_1 (by decide) dX12_foresees_100 (Ev_nm (fun s1 es1 => ?_))
    replace h := h s1 es1
    refine Ev_goto (tgt := 25) dX12_foresees_101 rfl ?_
    exact Ev_sub [0] rfl h
  · replace h := h.2 c
    refine Ev_aload_n 0 dX12_foresees_51 rfl rfl ?_
    refine Ev_getR (i := 53) cl_X12 yM_0 (Nat.le_of_ble_eq_true rfl) rfl wd_1497 dX12_foresees_52 ?_
    refine Ev_iload_n 1 dX12_foresees_55 rfl rfl ?_
    obtain ⟨h0, h⟩ := h
    refine Ev_iald yM_30 h0 dX12_foresees_56 ?_
    refine Ev_iconst dX12_foresees_57 rfl (ev_Rc rfl) ?_
    refine Ev_icmp_ne (tgt := 81) dX12_foresees_58 rfl (fun c => ?_) (fun c => ?_)
    · replace h := h.1 c
      refine Ev_iinc (j := 1) (l' := [(1, ev_i (ev_add a1 1)), (0, ev_r 0)]) dX12_foresees_81 rfl (Nat.le_of_ble_eq_true rfl) rfl ?_
      refine Ev_goto (tgt := 43) dX12_foresees_84 rfl ?_
      exact Ev_sub [1, 0] rfl h
    · replace h := h.2 c
      refine Ev_aload_n 0 dX12_foresees_61 rfl rfl ?_
      refine Ev_iload_n 1 dX12_foresees_62 rfl rfl ?_
      refine Ev_callV (As := [ev_i a1]) (b := 0) (st := []) (M' := M_X12_doesCome) cm_X12_doesCome wd_1950 wd_1952 wd_136 yM_0 cl_X12 rfl dX12_foresees_63 (Nat.le_refl _) rfl (Nat.le_of_ble_eq_true rfl) (Nat.le_of_ble_eq_true rfl) h (fun v u h hk => ?_)
      obtain ⟨r3, rfl⟩ := hk
      obtain ⟨s2, rfl⟩ : ∃ x, x = u := ⟨_, rfl⟩
      replace h := h r3 rfl
      refine Ev_if_eq (tgt := 81) dX12_foresees_66 rfl (fun c => ?_) (fun c => ?_)
      · replace h := h.1 c
        refine Ev_iinc (j := 1) (l' := [(1, ev_i (ev_add a1 1)), (0, ev_r 0)]) dX12_foresees_81 rfl (Nat.le_of_ble_eq_true rfl) rfl ?_
        refine Ev_goto (tgt := 43) dX12_foresees_84 rfl ?_
        exact Ev_sub [1, 0] rfl h
      · replace h := h.2 c
        refine Ev_aload_n 0 dX12_foresees_69 rfl rfl ?_
        refine Ev_getR (i := 53) cl_X12 yM_0 (Nat.le_of_ble_eq_true rfl) rfl wd_1497 dX12_foresees_70 ?_
        refine Ev_iload_n 1 dX12_foresees_73 rfl rfl ?_
        refine Ev_aload_n 0 dX12_foresees_74 rfl rfl ?_
        refine Ev_getR (i := 1) cl_X12 yM_0 (Nat.le_of_ble_eq_true rfl) rfl wd_1445 dX12_foresees_75 ?_
        refine Ev_iconst dX12_foresees_78 rfl (ev_Rc rfl) ?_
        refine Ev_iald yM_1 (by decide) dX12_foresees_79 ?_
        obtain ⟨h0, h⟩ := h
        refine Ev_iast yM_30 h0 dX12_foresees_80 (Ev_nm (fun s4 es4 => ?_))
        replace h := h s4 es4
        refine Ev_iinc (j := 1) (l' := [(1, ev_i (ev_add a1 1)), (0, ev_r 0)]) dX12_foresees_81 rfl (Nat.le_of_ble_eq_true rfl) rfl ?_
        refine Ev_goto (tgt := 43) dX12_foresees_84 rfl ?_
        exact Ev_sub [1, 0] rfl h
theorem dX12_foreseenSet_0 : decode cX12_foreseenSet 0 = .ok (.iconst 0, 1) := by decide +kernel
theorem dX12_foreseenSet_1 : decode cX12_foreseenSet 1 = .ok (.istore_n 1, 1) := by decide +kernel
theorem dX12_foreseenSet_2 : decode cX12_foreseenSet 2 = .ok (.iconst 0, 1) := by decide +kernel
theorem dX12_foreseenSet_3 : decode cX12_foreseenSet 3 = .ok (.istore_n 2, 1) := by decide +kernel
theorem dX12_foreseenSet_4 : decode cX12_foreseenSet 4 = .ok (.iload_n 2, 1) := by decide +kernel
theorem dX12_foreseenSet_5 : decode cX12_foreseenSet 5 = .ok (.aload_n 0, 1) := by decide +kernel
theorem dX12_foreseenSet_6 : decode cX12_foreseenSet 6 = .ok (.getfield 165, 3) := by decide +kernel
theorem dX12_foreseenSet_9 : decode cX12_foreseenSet 9 = .ok (.if_icmp .ge 25, 3) := by decide +kernel
theorem dX12_foreseenSet_12 : decode cX12_foreseenSet 12 = .ok (.aload_n 0, 1) := by decide +kernel
theorem dX12_foreseenSet_13 : decode cX12_foreseenSet 13 = .ok (.getfield 101, 3) := by decide +kernel
theorem dX12_foreseenSet_16 : decode cX12_foreseenSet 16 = .ok (.iload_n 2, 1) := by decide +kernel
theorem dX12_foreseenSet_17 : decode cX12_foreseenSet 17 = .ok (.iaload, 1) := by decide +kernel
theorem dX12_foreseenSet_18 : decode cX12_foreseenSet 18 = .ok (.iconst (-1), 1) := by decide +kernel
theorem dX12_foreseenSet_19 : decode cX12_foreseenSet 19 = .ok (.if_icmp .eq 9, 3) := by decide +kernel
theorem dX12_foreseenSet_22 : decode cX12_foreseenSet 22 = .ok (.iload_n 1, 1) := by decide +kernel
theorem dX12_foreseenSet_23 : decode cX12_foreseenSet 23 = .ok (.iconst 1, 1) := by decide +kernel
theorem dX12_foreseenSet_24 : decode cX12_foreseenSet 24 = .ok (.iload_n 2, 1) := by decide +kernel
theorem dX12_foreseenSet_25 : decode cX12_foreseenSet 25 = .ok (.ishl, 1) := by decide +kernel
theorem dX12_foreseenSet_26 : decode cX12_foreseenSet 26 = .ok (.ior, 1) := by decide +kernel
theorem dX12_foreseenSet_27 : decode cX12_foreseenSet 27 = .ok (.istore_n 1, 1) := by decide +kernel
theorem dX12_foreseenSet_28 : decode cX12_foreseenSet 28 = .ok (.iinc 2 1, 3) := by decide +kernel
theorem dX12_foreseenSet_31 : decode cX12_foreseenSet 31 = .ok (.goto (-27), 3) := by decide +kernel
theorem dX12_foreseenSet_34 : decode cX12_foreseenSet 34 = .ok (.iload_n 1, 1) := by decide +kernel
theorem dX12_foreseenSet_35 : decode cX12_foreseenSet 35 = .ok (.ireturn, 1) := by decide +kernel
theorem wp_X12_foreseenSet_0 {d : Nat} {s : ev_S} {Q : Option ev_V → ev_S → Prop}
    (h : Ev layM M_X12_foreseenSet d 4 [(0, ev_r 0), (1, ev_i 0), (2, ev_i 0)] [] s Q) :
    Ev layM M_X12_foreseenSet d 0 [(0, ev_r 0)] [] s Q := by
  refine Ev_iconst dX12_foreseenSet_0 rfl (ev_Rc rfl) ?_
  refine Ev_istore_n (l' := [(1, ev_i 0), (0, ev_r 0)]) dX12_foreseenSet_1 rfl (Nat.le_of_ble_eq_true rfl) rfl ?_
  refine Ev_iconst dX12_foreseenSet_2 rfl (ev_Rc rfl) ?_
  refine Ev_istore_n (l' := [(2, ev_i 0), (1, ev_i 0), (0, ev_r 0)]) dX12_foreseenSet_3 rfl (Nat.le_of_ble_eq_true rfl) rfl ?_
  exact Ev_sub [2, 1, 0] rfl h
theorem wp_X12_foreseenSet_4 {d : Nat} {s : ev_S} {Q : Option ev_V → ev_S → Prop} {a1 a2 : Int}
    (h : (((s 0 46) ≤ a2 → Q (some (ev_i a1)) s) ∧ (a2 < (s 0 46) → ((0 ≤ a2 ∧ a2 < (10 : Nat)) ∧ (((s 30 (Int.toNat a2)) = (-1) → Ev layM M_X12_foreseenSet d 4 [(0, ev_r 0), (1, ev_i a1), (2, ev_i (ev_add a2 1))] [] s Q) ∧ ((s 30 (Int.toNat a2)) ≠ (-1) → Ev layM M_X12_foreseenSet d 4 [(0, ev_r 0), (1, ev_i (ev_or a1 (ev_shl 1 a2))), (2, ev_i (ev_add a2 1))] [] s Q)))))) :
    Ev layM M_X12_foreseenSet d 4 [(0, ev_r 0), (1, ev_i a1), (2, ev_i a2)] [] s Q := by
  refine Ev_iload_n 2 dX12_foreseenSet_4 rfl rfl ?_
  refine Ev_aload_n 0 dX12_foreseenSet_5 rfl rfl ?_
  refine Ev_get (i := 46) cl_X12 yM_0 (Nat.le_of_ble_eq_true rfl) rfl wd_1490 dX12_foreseenSet_6 ?_
  refine Ev_icmp_ge (tgt := 34) dX12_foreseenSet_9 rfl (fun c => ?_) (fun c => ?_)
  · replace h := h.1 c
    refine Ev_iload_n 1 dX12_foreseenSet_34 rfl rfl ?_
    exact Ev_iret rfl dX12_foreseenSet_35 rfl h
  · replace h := h.2 c
    refine Ev_aload_n 0 dX12_foreseenSet_12 rfl rfl ?_
    refine Ev_getR (i := 53) cl_X12 yM_0 (Nat.le_of_ble_eq_true rfl) rfl wd_1497 dX12_foreseenSet_13 ?_
    refine Ev_iload_n 2 dX12_foreseenSet_16 rfl rfl ?_
    obtain ⟨h0, h⟩ := h
    refine Ev_iald yM_30 h0 dX12_foreseenSet_17 ?_
    refine Ev_iconst dX12_foreseenSet_18 rfl (ev_Rc rfl) ?_
    refine Ev_icmp_eq (tgt := 28) dX12_foreseenSet_19 rfl (fun c => ?_) (fun c => ?_)
    · replace h := h.1 c
      refine Ev_iinc (j := 2) (l' := [(2, ev_i (ev_add a2 1)), (0, ev_r 0), (1, ev_i a1)]) dX12_foreseenSet_28 rfl (Nat.le_of_ble_eq_true rfl) rfl ?_
      refine Ev_goto (tgt := 4) dX12_foreseenSet_31 rfl ?_
      exact Ev_sub [1, 2, 0] rfl h
    · replace h := h.2 c
      refine Ev_iload_n 1 dX12_foreseenSet_22 rfl rfl ?_
      refine Ev_iconst dX12_foreseenSet_23 rfl (ev_Rc rfl) ?_
      refine Ev_iload_n 2 dX12_foreseenSet_24 rfl rfl ?_
      refine Ev_ishl dX12_foreseenSet_25 ?_
      refine Ev_ior dX12_foreseenSet_26 ?_
      refine Ev_istore_n (l' := [(1, ev_i (ev_or a1 (ev_shl 1 a2))), (0, ev_r 0), (2, ev_i a2)]) dX12_foreseenSet_27 rfl (Nat.le_of_ble_eq_true rfl) rfl ?_
      refine Ev_iinc (j := 2) (l' := [(2, ev_i (ev_add a2 1)), (1, ev_i (ev_or a1 (ev_shl 1 a2))), (0, ev_r 0)]) dX12_foreseenSet_28 rfl (Nat.le_of_ble_eq_true rfl) rfl ?_
      refine Ev_goto (tgt := 4) dX12_foreseenSet_31 rfl ?_
      exact Ev_sub [2, 1, 0] rfl h
theorem dX12_planned_0 : decode cX12_planned 0 = .ok (.aload_n 0, 1) := by decide +kernel
theorem dX12_planned_1 : decode cX12_planned 1 = .ok (.iconst 0, 1) := by decide +kernel
theorem dX12_planned_2 : decode cX12_planned 2 = .ok (.putfield 124, 3) := by decide +kernel
theorem dX12_planned_5 : decode cX12_planned 5 = .ok (.aload_n 0, 1) := by decide +kernel
theorem dX12_planned_6 : decode cX12_planned 6 = .ok (.iload_n 1, 1) := by decide +kernel
theorem dX12_planned_7 : decode cX12_planned 7 = .ok (.iconst 0, 1) := by decide +kernel
theorem dX12_planned_8 : decode cX12_planned 8 = .ok (.iconst 1, 1) := by decide +kernel
theorem dX12_planned_9 : decode cX12_planned 9 = .ok (.invokevirtual 158, 3) := by decide +kernel
theorem dX12_planned_12 : decode cX12_planned 12 = .ok (.ifCond .ne 5, 3) := by decide +kernel
theorem dX12_planned_15 : decode cX12_planned 15 = .ok (.iconst (-1), 1) := by decide +kernel
theorem dX12_planned_16 : decode cX12_planned 16 = .ok (.ireturn, 1) := by decide +kernel
theorem dX12_planned_17 : decode cX12_planned 17 = .ok (.aload_n 0, 1) := by decide +kernel
theorem dX12_planned_18 : decode cX12_planned 18 = .ok (.invokevirtual 426, 3) := by decide +kernel
theorem dX12_planned_21 : decode cX12_planned 21 = .ok (.aload_n 0, 1) := by decide +kernel
theorem dX12_planned_22 : decode cX12_planned 22 = .ok (.getfield 7, 3) := by decide +kernel
theorem dX12_planned_25 : decode cX12_planned 25 = .ok (.iconst 0, 1) := by decide +kernel
theorem dX12_planned_26 : decode cX12_planned 26 = .ok (.iaload, 1) := by decide +kernel
theorem dX12_planned_27 : decode cX12_planned 27 = .ok (.sipush 600, 3) := by decide +kernel
theorem dX12_planned_30 : decode cX12_planned 30 = .ok (.if_icmp .ge 11, 3) := by decide +kernel
theorem dX12_planned_33 : decode cX12_planned 33 = .ok (.aload_n 0, 1) := by decide +kernel
theorem dX12_planned_34 : decode cX12_planned 34 = .ok (.invokevirtual 423, 3) := by decide +kernel
theorem dX12_planned_37 : decode cX12_planned 37 = .ok (.pop, 1) := by decide +kernel
theorem dX12_planned_38 : decode cX12_planned 38 = .ok (.goto (-17), 3) := by decide +kernel
theorem dX12_planned_41 : decode cX12_planned 41 = .ok (.iconst 0, 1) := by decide +kernel
theorem dX12_planned_42 : decode cX12_planned 42 = .ok (.istore_n 2, 1) := by decide +kernel
theorem dX12_planned_43 : decode cX12_planned 43 = .ok (.iconst 0, 1) := by decide +kernel
theorem dX12_planned_44 : decode cX12_planned 44 = .ok (.istore_n 3, 1) := by decide +kernel
theorem dX12_planned_45 : decode cX12_planned 45 = .ok (.iconst 0, 1) := by decide +kernel
theorem dX12_planned_46 : decode cX12_planned 46 = .ok (.istore 4, 2) := by decide +kernel
theorem dX12_planned_48 : decode cX12_planned 48 = .ok (.iload 4, 2) := by decide +kernel
theorem dX12_planned_50 : decode cX12_planned 50 = .ok (.aload_n 0, 1) := by decide +kernel
theorem dX12_planned_51 : decode cX12_planned 51 = .ok (.getfield 165, 3) := by decide +kernel
theorem dX12_planned_54 : decode cX12_planned 54 = .ok (.if_icmp .ge 66, 3) := by decide +kernel
theorem dX12_planned_57 : decode cX12_planned 57 = .ok (.aload_n 0, 1) := by decide +kernel
theorem dX12_planned_58 : decode cX12_planned 58 = .ok (.getfield 16, 3) := by decide +kernel
theorem dX12_planned_61 : decode cX12_planned 61 = .ok (.bipush 57, 2) := by decide +kernel
theorem dX12_planned_63 : decode cX12_planned 63 = .ok (.iload 4, 2) := by decide +kernel
theorem dX12_planned_65 : decode cX12_planned 65 = .ok (.iadd, 1) := by decide +kernel
theorem dX12_planned_66 : decode cX12_planned 66 = .ok (.iaload, 1) := by decide +kernel
theorem dX12_planned_67 : decode cX12_planned 67 = .ok (.ifCond .eq 6, 3) := by decide +kernel
theorem dX12_planned_70 : decode cX12_planned 70 = .ok (.goto 44, 3) := by decide +kernel
theorem dX12_planned_73 : decode cX12_planned 73 = .ok (.aload_n 0, 1) := by decide +kernel
theorem dX12_planned_74 : decode cX12_planned 74 = .ok (.getfield 7, 3) := by decide +kernel
theorem dX12_planned_77 : decode cX12_planned 77 = .ok (.bipush 57, 2) := by decide +kernel
theorem dX12_planned_79 : decode cX12_planned 79 = .ok (.iload 4, 2) := by decide +kernel
theorem dX12_planned_81 : decode cX12_planned 81 = .ok (.iadd, 1) := by decide +kernel
theorem dX12_planned_82 : decode cX12_planned 82 = .ok (.iaload, 1) := by decide +kernel
theorem dX12_planned_83 : decode cX12_planned 83 = .ok (.iconst 1, 1) := by decide +kernel
theorem dX12_planned_84 : decode cX12_planned 84 = .ok (.if_icmp .ne 7, 3) := by decide +kernel
theorem dX12_planned_87 : decode cX12_planned 87 = .ok (.iload_n 3, 1) := by decide +kernel
theorem dX12_planned_88 : decode cX12_planned 88 = .ok (.iconst 1, 1) := by decide +kernel
theorem dX12_planned_89 : decode cX12_planned 89 = .ok (.iadd, 1) := by decide +kernel
theorem dX12_planned_90 : decode cX12_planned 90 = .ok (.istore_n 3, 1) := by decide +kernel
theorem dX12_planned_91 : decode cX12_planned 91 = .ok (.aload_n 0, 1) := by decide +kernel
theorem dX12_planned_92 : decode cX12_planned 92 = .ok (.getfield 7, 3) := by decide +kernel
theorem dX12_planned_95 : decode cX12_planned 95 = .ok (.bipush 57, 2) := by decide +kernel
theorem dX12_planned_97 : decode cX12_planned 97 = .ok (.iload 4, 2) := by decide +kernel
theorem dX12_planned_99 : decode cX12_planned 99 = .ok (.iadd, 1) := by decide +kernel
theorem dX12_planned_100 : decode cX12_planned 100 = .ok (.iaload, 1) := by decide +kernel
theorem dX12_planned_101 : decode cX12_planned 101 = .ok (.iconst 2, 1) := by decide +kernel
theorem dX12_planned_102 : decode cX12_planned 102 = .ok (.if_icmp .ne 12, 3) := by decide +kernel
theorem dX12_planned_105 : decode cX12_planned 105 = .ok (.iload_n 2, 1) := by decide +kernel
theorem dX12_planned_106 : decode cX12_planned 106 = .ok (.aload_n 0, 1) := by decide +kernel
theorem dX12_planned_107 : decode cX12_planned 107 = .ok (.iload 4, 2) := by decide +kernel
theorem dX12_planned_109 : decode cX12_planned 109 = .ok (.invokevirtual 432, 3) := by decide +kernel
theorem dX12_planned_112 : decode cX12_planned 112 = .ok (.iadd, 1) := by decide +kernel
theorem dX12_planned_113 : decode cX12_planned 113 = .ok (.istore_n 2, 1) := by decide +kernel
theorem dX12_planned_114 : decode cX12_planned 114 = .ok (.iinc 4 1, 3) := by decide +kernel
theorem dX12_planned_117 : decode cX12_planned 117 = .ok (.goto (-69), 3) := by decide +kernel
theorem dX12_planned_120 : decode cX12_planned 120 = .ok (.aload_n 0, 1) := by decide +kernel
theorem dX12_planned_121 : decode cX12_planned 121 = .ok (.invokevirtual 429, 3) := by decide +kernel
theorem dX12_planned_124 : decode cX12_planned 124 = .ok (.iload_n 1, 1) := by decide +kernel
theorem dX12_planned_125 : decode cX12_planned 125 = .ok (.ifCond .ne 7, 3) := by decide +kernel
theorem dX12_planned_128 : decode cX12_planned 128 = .ok (.iload_n 2, 1) := by decide +kernel
theorem dX12_planned_129 : decode cX12_planned 129 = .ok (.goto 4, 3) := by decide +kernel
theorem dX12_planned_132 : decode cX12_planned 132 = .ok (.iload_n 3, 1) := by decide +kernel
theorem dX12_planned_133 : decode cX12_planned 133 = .ok (.ireturn, 1) := by decide +kernel
theorem wp_X12_planned_0 {d : Nat} {s : ev_S} {Q : Option ev_V → ev_S → Prop} {a1 : Int}
    (h : (∀ s1, ev_up s 0 0 0 = s1 → (Ev layM M_X12_isIn d 0 [(0, ev_r 0), (1, ev_i a1), (2, ev_i 0), (3, ev_i 1)] [] s1 (ev_pi (fun r3 s2 => ((r3 ≠ 0 → (Ev layM M_X12_thinks d 0 [(0, ev_r 0)] [] s2 (fun _ s4 => Ev layM M_X12_planned (d + 1) 21 [(0, ev_r 0), (1, ev_i a1)] [] s4 Q))) ∧ (r3 = 0 → Q (some (ev_i (-1))) s2))))))) :
    Ev layM M_X12_planned (d + 1) 0 [(0, ev_r 0), (1, ev_i a1)] [] s Q := by
  refine Ev_aload_n 0 dX12_planned_0 rfl rfl ?_
  refine Ev_iconst dX12_planned_1 rfl (ev_Rc rfl) ?_
  refine Ev_put (i := 0) (ty := .int) cl_X12 yM_0 (Nat.le_of_ble_eq_true rfl) rfl rfl (by decide +kernel) rfl rfl wd_1444 dX12_planned_2 (Ev_nm (fun s1 es1 => ?_))
  replace h := h s1 es1
  refine Ev_aload_n 0 dX12_planned_5 rfl rfl ?_
  refine Ev_iload_n 1 dX12_planned_6 rfl rfl ?_
  refine Ev_iconst dX12_planned_7 rfl (ev_Rc rfl) ?_
  refine Ev_iconst dX12_planned_8 rfl (ev_Rc rfl) ?_
  refine Ev_callV (As := [ev_i a1, ev_i 0, ev_i 1]) (b := 0) (st := []) (M' := M_X12_isIn) cm_X12_isIn wd_1650 wd_1652 wd_70 yM_0 cl_X12 rfl dX12_planned_9 (Nat.le_refl _) rfl (Nat.le_of_ble_eq_true rfl) (Nat.le_of_ble_eq_true rfl) h (fun v u h hk => ?_)
  obtain ⟨r3, rfl⟩ := hk
  obtain ⟨s2, rfl⟩ : ∃ x, x = u := ⟨_, rfl⟩
  replace h := h r3 rfl
  refine Ev_if_ne (tgt := 17) dX12_planned_12 rfl (fun c => ?_) (fun c => ?_)
  · replace h := h.1 c
    refine Ev_aload_n 0 dX12_planned_17 rfl rfl ?_
    refine Ev_callV (As := []) (b := 0) (st := []) (M' := M_X12_thinks) cm_X12_thinks wd_1980 wd_1982 wd_142 yM_0 cl_X12 rfl dX12_planned_18 (Nat.le_refl _) rfl (Nat.le_of_ble_eq_true rfl) (Nat.le_of_ble_eq_true rfl) h (fun v u h hk => ?_)
    cases hk
    obtain ⟨s4, rfl⟩ : ∃ x, x = u := ⟨_, rfl⟩
    exact Ev_sub [0, 1] rfl h
  · replace h := h.2 c
    refine Ev_iconst dX12_planned_15 rfl (ev_Rc rfl) ?_
    exact Ev_iret rfl dX12_planned_16 rfl h
theorem wp_X12_planned_21 {d : Nat} {s : ev_S} {Q : Option ev_V → ev_S → Prop} {a1 : Int}
    (h : ((600 ≤ (s 1 0) → Ev layM M_X12_planned (d + 1) 48 [(0, ev_r 0), (1, ev_i a1), (2, ev_i 0), (3, ev_i 0), (4, ev_i 0)] [] s Q) ∧ ((s 1 0) < 600 → (Ev layM M_X12_goesBy d 0 [(0, ev_r 0)] [] s (ev_pi (fun r2 s1 => Ev layM M_X12_planned (d + 1) 21 [(0, ev_r 0), (1, ev_i a1)] [] s1 Q)))))) :
    Ev layM M_X12_planned (d + 1) 21 [(0, ev_r 0), (1, ev_i a1)] [] s Q := by
  refine Ev_aload_n 0 dX12_planned_21 rfl rfl ?_
  refine Ev_getR (i := 1) cl_X12 yM_0 (Nat.le_of_ble_eq_true rfl) rfl wd_1445 dX12_planned_22 ?_
  refine Ev_iconst dX12_planned_25 rfl (ev_Rc rfl) ?_
  refine Ev_iald yM_1 (by decide) dX12_planned_26 ?_
  refine Ev_sipushC dX12_planned_27 rfl ?_
  refine Ev_icmp_ge (tgt := 41) dX12_planned_30 rfl (fun c => ?_) (fun c => ?_)
  · replace h := h.1 c
    refine Ev_iconst dX12_planned_41 rfl (ev_Rc rfl) ?_
    refine Ev_istore_n (l' := [(2, ev_i 0), (0, ev_r 0), (1, ev_i a1)]) dX12_planned_42 rfl (Nat.le_of_ble_eq_true rfl) rfl ?_
    refine Ev_iconst dX12_planned_43 rfl (ev_Rc rfl) ?_
    refine Ev_istore_n (l' := [(3, ev_i 0), (2, ev_i 0), (0, ev_r 0), (1, ev_i a1)]) dX12_planned_44 rfl (Nat.le_of_ble_eq_true rfl) rfl ?_
    refine Ev_iconst dX12_planned_45 rfl (ev_Rc rfl) ?_
    refine Ev_istore (l' := [(4, ev_i 0), (3, ev_i 0), (2, ev_i 0), (0, ev_r 0), (1, ev_i a1)]) dX12_planned_46 (Nat.le_of_ble_eq_true rfl) rfl ?_
    exact Ev_sub [3, 4, 2, 1, 0] rfl h
  · replace h := h.2 c
    refine Ev_aload_n 0 dX12_planned_33 rfl rfl ?_
    refine Ev_callV (As := []) (b := 0) (st := []) (M' := M_X12_goesBy) cm_X12_goesBy wd_1886 wd_1888 wd_120 yM_0 cl_X12 rfl dX12_planned_34 (Nat.le_refl _) rfl (Nat.le_of_ble_eq_true rfl) (Nat.le_of_ble_eq_true rfl) h (fun v u h hk => ?_)
    obtain ⟨r2, rfl⟩ := hk
    obtain ⟨s1, rfl⟩ : ∃ x, x = u := ⟨_, rfl⟩
    replace h := h r2 rfl
    refine Ev_pop dX12_planned_37 rfl ?_
    refine Ev_goto (tgt := 21) dX12_planned_38 rfl ?_
    exact Ev_sub [0, 1] rfl h
theorem wp_X12_planned_48 {d : Nat} {s : ev_S} {Q : Option ev_V → ev_S → Prop} {a1 a2 a3 a4 : Int}
    (h : (((s 0 46) ≤ a4 → (Ev layM M_X12_endsThought d 0 [(0, ev_r 0)] [] s (fun _ s1 => ((a1 ≠ 0 → Q (some (ev_i a3)) s1) ∧ (a1 = 0 → Q (some (ev_i a2)) s1))))) ∧ (a4 < (s 0 46) → ((0 ≤ (ev_add 57 a4) ∧ (ev_add 57 a4) < (87 : Nat)) ∧ (((s 3 (Int.toNat (ev_add 57 a4))) = 0 → ((0 ≤ (ev_add 57 a4) ∧ (ev_add 57 a4) < (87 : Nat)) ∧ (((s 1 (Int.toNat (ev_add 57 a4))) ≠ 1 → Ev layM M_X12_planned (d + 1) 91 [(0, ev_r 0), (1, ev_i a1), (2, ev_i a2), (3, ev_i a3), (4, ev_i a4)] [] s Q) ∧ ((s 1 (Int.toNat (ev_add 57 a4))) = 1 → Ev layM M_X12_planned (d + 1) 91 [(0, ev_r 0), (1, ev_i a1), (2, ev_i a2), (3, ev_i (ev_add a3 1)), (4, ev_i a4)] [] s Q)))) ∧ ((s 3 (Int.toNat (ev_add 57 a4))) ≠ 0 → Ev layM M_X12_planned (d + 1) 48 [(0, ev_r 0), (1, ev_i a1), (2, ev_i a2), (3, ev_i a3), (4, ev_i (ev_add a4 1))] [] s Q)))))) :
    Ev layM M_X12_planned (d + 1) 48 [(0, ev_r 0), (1, ev_i a1), (2, ev_i a2), (3, ev_i a3), (4, ev_i a4)] [] s Q := by
  refine Ev_iload 4 dX12_planned_48 rfl ?_
  refine Ev_aload_n 0 dX12_planned_50 rfl rfl ?_
  refine Ev_get (i := 46) cl_X12 yM_0 (Nat.le_of_ble_eq_true rfl) rfl wd_1490 dX12_planned_51 ?_
  refine Ev_icmp_ge (tgt := 120) dX12_planned_54 rfl (fun c => ?_) (fun c => ?_)
  · replace h := h.1 c
    refine Ev_aload_n 0 dX12_planned_120 rfl rfl ?_
    refine Ev_callV (As := []) (b := 0) (st := []) (M' := M_X12_endsThought) cm_X12_endsThought wd_1988 wd_1990 wd_144 yM_0 cl_X12 rfl dX12_planned_121 (Nat.le_refl _) rfl (Nat.le_of_ble_eq_true rfl) (Nat.le_of_ble_eq_true rfl) h (fun v u h hk => ?_)
    cases hk
    obtain ⟨s1, rfl⟩ : ∃ x, x = u := ⟨_, rfl⟩
    refine Ev_iload_n 1 dX12_planned_124 rfl rfl ?_
    refine Ev_if_ne (tgt := 132) dX12_planned_125 rfl (fun c => ?_) (fun c => ?_)
    · replace h := h.1 c
      refine Ev_iload_n 3 dX12_planned_132 rfl rfl ?_
      exact Ev_iret rfl dX12_planned_133 rfl h
    · replace h := h.2 c
      refine Ev_iload_n 2 dX12_planned_128 rfl rfl ?_
      refine Ev_goto (tgt := 133) dX12_planned_129 rfl ?_
      exact Ev_iret rfl dX12_planned_133 rfl h
  · replace h := h.2 c
    refine Ev_aload_n 0 dX12_planned_57 rfl rfl ?_
    refine Ev_getR (i := 4) cl_X12 yM_0 (Nat.le_of_ble_eq_true rfl) rfl wd_1448 dX12_planned_58 ?_
    refine Ev_bipushC dX12_planned_61 rfl ?_
    refine Ev_iload 4 dX12_planned_63 rfl ?_
    refine Ev_iadd dX12_planned_65 ?_
    obtain ⟨h0, h⟩ := h
    refine Ev_iald yM_3 h0 dX12_planned_66 ?_
    refine Ev_if_eq (tgt := 73) dX12_planned_67 rfl (fun c => ?_) (fun c => ?_)
    · replace h := h.1 c
      refine Ev_aload_n 0 dX12_planned_73 rfl rfl ?_
      refine Ev_getR (i := 1) cl_X12 yM_0 (Nat.le_of_ble_eq_true rfl) rfl wd_1445 dX12_planned_74 ?_
      refine Ev_bipushC dX12_planned_77 rfl ?_
      refine Ev_iload 4 dX12_planned_79 rfl ?_
      refine Ev_iadd dX12_planned_81 ?_
      obtain ⟨h0, h⟩ := h
      refine Ev_iald yM_1 h0 dX12_planned_82 ?_
      refine Ev_iconst dX12_planned_83 rfl (ev_Rc rfl) ?_
      refine Ev_icmp_ne (tgt := 91) dX12_planned_84 rfl (fun c => ?_) (fun c => ?_)
      · replace h := h.1 c
        exact Ev_sub [0, 1, 2, 3, 4] rfl h
      · replace h := h.2 c
        refine Ev_iload_n 3 dX12_planned_87 rfl rfl ?_
        refine Ev_iconst dX12_planned_88 rfl (ev_Rc rfl) ?_
        refine Ev_iadd dX12_planned_89 ?_
        refine Ev_istore_n (l' := [(3, ev_i (ev_add a3 1)), (0, ev_r 0), (1, ev_i a1), (2, ev_i a2), (4, ev_i a4)]) dX12_planned_90 rfl (Nat.le_of_ble_eq_true rfl) rfl ?_
        exact Ev_sub [1, 2, 3, 0, 4] rfl h
    · replace h := h.2 c
      refine Ev_goto (tgt := 114) dX12_planned_70 rfl ?_
      refine Ev_iinc (j := 4) (l' := [(4, ev_i (ev_add a4 1)), (0, ev_r 0), (1, ev_i a1), (2, ev_i a2), (3, ev_i a3)]) dX12_planned_114 rfl (Nat.le_of_ble_eq_true rfl) rfl ?_
      refine Ev_goto (tgt := 48) dX12_planned_117 rfl ?_
      exact Ev_sub [1, 2, 3, 4, 0] rfl h
theorem wp_X12_planned_91 {d : Nat} {s : ev_S} {Q : Option ev_V → ev_S → Prop} {a1 a2 a3 a4 : Int}
    (h : ((0 ≤ (ev_add 57 a4) ∧ (ev_add 57 a4) < (87 : Nat)) ∧ (((s 1 (Int.toNat (ev_add 57 a4))) ≠ 2 → Ev layM M_X12_planned (d + 1) 48 [(0, ev_r 0), (1, ev_i a1), (2, ev_i a2), (3, ev_i a3), (4, ev_i (ev_add a4 1))] [] s Q) ∧ ((s 1 (Int.toNat (ev_add 57 a4))) = 2 → (Ev layM M_X12_riskOf d 0 [(0, ev_r 0), (1, ev_i a4)] [] s (ev_pi (fun r2 s1 => Ev layM M_X12_planned (d + 1) 48 [(0, ev_r 0), (1, ev_i a1), (2, ev_i (ev_add a2 r2)), (3, ev_i a3), (4, ev_i (ev_add a4 1))] [] s1 Q))))))) :
    Ev layM M_X12_planned (d + 1) 91 [(0, ev_r 0), (1, ev_i a1), (2, ev_i a2), (3, ev_i a3), (4, ev_i a4)] [] s Q := by
  refine Ev_aload_n 0 dX12_planned_91 rfl rfl ?_
  refine Ev_getR (i := 1) cl_X12 yM_0 (Nat.le_of_ble_eq_true rfl) rfl wd_1445 dX12_planned_92 ?_
  refine Ev_bipushC dX12_planned_95 rfl ?_
  refine Ev_iload 4 dX12_planned_97 rfl ?_
  refine Ev_iadd dX12_planned_99 ?_
  obtain ⟨h0, h⟩ := h
  refine Ev_iald yM_1 h0 dX12_planned_100 ?_
  refine Ev_iconst dX12_planned_101 rfl (ev_Rc rfl) ?_
  refine Ev_icmp_ne (tgt := 114) dX12_planned_102 rfl (fun c => ?_) (fun c => ?_)
  · replace h := h.1 c
    refine Ev_iinc (j := 4) (l' := [(4, ev_i (ev_add a4 1)), (0, ev_r 0), (1, ev_i a1), (2, ev_i a2), (3, ev_i a3)]) dX12_planned_114 rfl (Nat.le_of_ble_eq_true rfl) rfl ?_
    refine Ev_goto (tgt := 48) dX12_planned_117 rfl ?_
    exact Ev_sub [1, 2, 3, 4, 0] rfl h
  · replace h := h.2 c
    refine Ev_iload_n 2 dX12_planned_105 rfl rfl ?_
    refine Ev_aload_n 0 dX12_planned_106 rfl rfl ?_
    refine Ev_iload 4 dX12_planned_107 rfl ?_
    refine Ev_callV (As := [ev_i a4]) (b := 0) (st := [ev_i a2]) (M' := M_X12_riskOf) cm_X12_riskOf wd_1984 wd_1986 wd_143 yM_0 cl_X12 rfl dX12_planned_109 (Nat.le_refl _) rfl (Nat.le_of_ble_eq_true rfl) (Nat.le_of_ble_eq_true rfl) h (fun v u h hk => ?_)
    obtain ⟨r2, rfl⟩ := hk
    obtain ⟨s1, rfl⟩ : ∃ x, x = u := ⟨_, rfl⟩
    replace h := h r2 rfl
    refine Ev_iadd dX12_planned_112 ?_
    refine Ev_istore_n (l' := [(2, ev_i (ev_add a2 r2)), (0, ev_r 0), (1, ev_i a1), (3, ev_i a3), (4, ev_i a4)]) dX12_planned_113 rfl (Nat.le_of_ble_eq_true rfl) rfl ?_
    refine Ev_iinc (j := 4) (l' := [(4, ev_i (ev_add a4 1)), (2, ev_i (ev_add a2 r2)), (0, ev_r 0), (1, ev_i a1), (3, ev_i a3)]) dX12_planned_114 rfl (Nat.le_of_ble_eq_true rfl) rfl ?_
    refine Ev_goto (tgt := 48) dX12_planned_117 rfl ?_
    exact Ev_sub [2, 3, 1, 4, 0] rfl h
theorem dX12_timeFor_0 : decode cX12_timeFor 0 = .ok (.aload_n 0, 1) := by decide +kernel
theorem dX12_timeFor_1 : decode cX12_timeFor 1 = .ok (.iload_n 2, 1) := by decide +kernel
theorem dX12_timeFor_2 : decode cX12_timeFor 2 = .ok (.aload_n 0, 1) := by decide +kernel
theorem dX12_timeFor_3 : decode cX12_timeFor 3 = .ok (.getfield 101, 3) := by decide +kernel
theorem dX12_timeFor_6 : decode cX12_timeFor 6 = .ok (.iload_n 1, 1) := by decide +kernel
theorem dX12_timeFor_7 : decode cX12_timeFor 7 = .ok (.iaload, 1) := by decide +kernel
theorem dX12_timeFor_8 : decode cX12_timeFor 8 = .ok (.aload_n 0, 1) := by decide +kernel
theorem dX12_timeFor_9 : decode cX12_timeFor 9 = .ok (.invokevirtual 399, 3) := by decide +kernel
theorem dX12_timeFor_12 : decode cX12_timeFor 12 = .ok (.isub, 1) := by decide +kernel
theorem dX12_timeFor_13 : decode cX12_timeFor 13 = .ok (.invokevirtual 375, 3) := by decide +kernel
theorem dX12_timeFor_16 : decode cX12_timeFor 16 = .ok (.istore_n 3, 1) := by decide +kernel
theorem dX12_timeFor_17 : decode cX12_timeFor 17 = .ok (.iload_n 3, 1) := by decide +kernel
theorem dX12_timeFor_18 : decode cX12_timeFor 18 = .ok (.aload_n 0, 1) := by decide +kernel
theorem dX12_timeFor_19 : decode cX12_timeFor 19 = .ok (.getfield 101, 3) := by decide +kernel
theorem dX12_timeFor_22 : decode cX12_timeFor 22 = .ok (.iload_n 1, 1) := by decide +kernel
theorem dX12_timeFor_23 : decode cX12_timeFor 23 = .ok (.iaload, 1) := by decide +kernel
theorem dX12_timeFor_24 : decode cX12_timeFor 24 = .ok (.if_icmp .gt 7, 3) := by decide +kernel
theorem dX12_timeFor_27 : decode cX12_timeFor 27 = .ok (.iload_n 3, 1) := by decide +kernel
theorem dX12_timeFor_28 : decode cX12_timeFor 28 = .ok (.goto 6, 3) := by decide +kernel
theorem dX12_timeFor_31 : decode cX12_timeFor 31 = .ok (.ldc_w 435, 3) := by decide +kernel
theorem dX12_timeFor_34 : decode cX12_timeFor 34 = .ok (.ireturn, 1) := by decide +kernel
theorem wp_X12_timeFor_0 {d : Nat} {s : ev_S} {Q : Option ev_V → ev_S → Prop} {a1 a2 : Int}
    (h : ((0 ≤ a1 ∧ a1 < (10 : Nat)) ∧ (Ev layM M_X12_guard d 0 [(0, ev_r 0)] [] s (ev_pi (fun r2 s1 => (Ev layM M_X12_greater d 0 [(0, ev_r 0), (1, ev_i a2), (2, ev_i (ev_sub (s 30 (Int.toNat a1)) r2))] [] s1 (ev_pi (fun r4 s3 => ((0 ≤ a1 ∧ a1 < (10 : Nat)) ∧ (((s3 30 (Int.toNat a1)) < r4 → Q (some (ev_i 1000000)) s3) ∧ (r4 ≤ (s3 30 (Int.toNat a1)) → Q (some (ev_i r4)) s3))))))))))) :
    Ev layM M_X12_timeFor (d + 1) 0 [(0, ev_r 0), (1, ev_i a1), (2, ev_i a2)] [] s Q := by
  refine Ev_aload_n 0 dX12_timeFor_0 rfl rfl ?_
  refine Ev_iload_n 2 dX12_timeFor_1 rfl rfl ?_
  refine Ev_aload_n 0 dX12_timeFor_2 rfl rfl ?_
  refine Ev_getR (i := 53) cl_X12 yM_0 (Nat.le_of_ble_eq_true rfl) rfl wd_1497 dX12_timeFor_3 ?_
  refine Ev_iload_n 1 dX12_timeFor_6 rfl rfl ?_
  obtain ⟨h0, h⟩ := h
  refine Ev_iald yM_30 h0 dX12_timeFor_7 ?_
  refine Ev_aload_n 0 dX12_timeFor_8 rfl rfl ?_
  refine Ev_callV (As := []) (b := 0) (st := [ev_i (s 30 (Int.toNat a1)), ev_i a2, ev_r 0]) (M' := M_X12_guard) cm_X12_guard wd_1966 wd_1968 wd_140 yM_0 cl_X12 rfl dX12_timeFor_9 (Nat.le_refl _) rfl (Nat.le_of_ble_eq_true rfl) (Nat.le_of_ble_eq_true rfl) h (fun v u h hk => ?_)
  obtain ⟨r2, rfl⟩ := hk
  obtain ⟨s1, rfl⟩ : ∃ x, x = u := ⟨_, rfl⟩
  replace h := h r2 rfl
  refine Ev_isub dX12_timeFor_12 ?_
  refine Ev_callV (As := [ev_i a2, ev_i (ev_sub (s 30 (Int.toNat a1)) r2)]) (b := 0) (st := []) (M' := M_X12_greater) cm_X12_greater wd_1934 wd_1936 wd_132 yM_0 cl_X12 rfl dX12_timeFor_13 (Nat.le_refl _) rfl (Nat.le_of_ble_eq_true rfl) (Nat.le_of_ble_eq_true rfl) h (fun v u h hk => ?_)
  obtain ⟨r4, rfl⟩ := hk
  obtain ⟨s3, rfl⟩ : ∃ x, x = u := ⟨_, rfl⟩
  replace h := h r4 rfl
  refine Ev_istore_n (l' := [(3, ev_i r4), (0, ev_r 0), (1, ev_i a1), (2, ev_i a2)]) dX12_timeFor_16 rfl (Nat.le_of_ble_eq_true rfl) rfl ?_
  refine Ev_iload_n 0 dX12_timeFor_17 rfl rfl ?_
  refine Ev_aload_n 1 dX12_timeFor_18 rfl rfl ?_
  refine Ev_getR (i := 53) cl_X12 yM_0 (Nat.le_of_ble_eq_true rfl) rfl wd_1497 dX12_timeFor_19 ?_
  refine Ev_iload_n 2 dX12_timeFor_22 rfl rfl ?_
  obtain ⟨h0, h⟩ := h
  refine Ev_iald yM_30 h0 dX12_timeFor_23 ?_
  refine Ev_icmp_gt (tgt := 31) dX12_timeFor_24 rfl (fun c => ?_) (fun c => ?_)
  · replace h := h.1 c
    refine Ev_ldcw (z := 1000000) wd_2024 dX12_timeFor_31 rfl (ev_Rc rfl) ?_
    exact Ev_iret rfl dX12_timeFor_34 rfl h
  · replace h := h.2 c
    refine Ev_iload_n 0 dX12_timeFor_27 rfl rfl ?_
    refine Ev_goto (tgt := 34) dX12_timeFor_28 rfl ?_
    exact Ev_iret rfl dX12_timeFor_34 rfl h
theorem dX12_earliestOf_0 : decode cX12_earliestOf 0 = .ok (.iload_n 2, 1) := by decide +kernel
theorem dX12_earliestOf_1 : decode cX12_earliestOf 1 = .ok (.iconst 1, 1) := by decide +kernel
theorem dX12_earliestOf_2 : decode cX12_earliestOf 2 = .ok (.iload_n 3, 1) := by decide +kernel
theorem dX12_earliestOf_3 : decode cX12_earliestOf 3 = .ok (.ishl, 1) := by decide +kernel
theorem dX12_earliestOf_4 : decode cX12_earliestOf 4 = .ok (.iconst (-1), 1) := by decide +kernel
theorem dX12_earliestOf_5 : decode cX12_earliestOf 5 = .ok (.ixor, 1) := by decide +kernel
theorem dX12_earliestOf_6 : decode cX12_earliestOf 6 = .ok (.iand, 1) := by decide +kernel
theorem dX12_earliestOf_7 : decode cX12_earliestOf 7 = .ok (.istore 4, 2) := by decide +kernel
theorem dX12_earliestOf_9 : decode cX12_earliestOf 9 = .ok (.aload_n 0, 1) := by decide +kernel
theorem dX12_earliestOf_10 : decode cX12_earliestOf 10 = .ok (.iload_n 3, 1) := by decide +kernel
theorem dX12_earliestOf_11 : decode cX12_earliestOf 11 = .ok (.iconst 1, 1) := by decide +kernel
theorem dX12_earliestOf_12 : decode cX12_earliestOf 12 = .ok (.invokevirtual 396, 3) := by decide +kernel
theorem dX12_earliestOf_15 : decode cX12_earliestOf 15 = .ok (.istore 5, 2) := by decide +kernel
theorem dX12_earliestOf_17 : decode cX12_earliestOf 17 = .ok (.iload 4, 2) := by decide +kernel
theorem dX12_earliestOf_19 : decode cX12_earliestOf 19 = .ok (.ifCond .ne 38, 3) := by decide +kernel
theorem dX12_earliestOf_22 : decode cX12_earliestOf 22 = .ok (.aload_n 0, 1) := by decide +kernel
theorem dX12_earliestOf_23 : decode cX12_earliestOf 23 = .ok (.iload_n 3, 1) := by decide +kernel
theorem dX12_earliestOf_24 : decode cX12_earliestOf 24 = .ok (.aload_n 0, 1) := by decide +kernel
theorem dX12_earliestOf_25 : decode cX12_earliestOf 25 = .ok (.getfield 7, 3) := by decide +kernel
theorem dX12_earliestOf_28 : decode cX12_earliestOf 28 = .ok (.iconst 0, 1) := by decide +kernel
theorem dX12_earliestOf_29 : decode cX12_earliestOf 29 = .ok (.iaload, 1) := by decide +kernel
theorem dX12_earliestOf_30 : decode cX12_earliestOf 30 = .ok (.aload_n 0, 1) := by decide +kernel
theorem dX12_earliestOf_31 : decode cX12_earliestOf 31 = .ok (.aload_n 0, 1) := by decide +kernel
theorem dX12_earliestOf_32 : decode cX12_earliestOf 32 = .ok (.getfield 7, 3) := by decide +kernel
theorem dX12_earliestOf_35 : decode cX12_earliestOf 35 = .ok (.bipush 27, 2) := by decide +kernel
theorem dX12_earliestOf_37 : decode cX12_earliestOf 37 = .ok (.iload_n 1, 1) := by decide +kernel
theorem dX12_earliestOf_38 : decode cX12_earliestOf 38 = .ok (.iadd, 1) := by decide +kernel
theorem dX12_earliestOf_39 : decode cX12_earliestOf 39 = .ok (.iaload, 1) := by decide +kernel
theorem dX12_earliestOf_40 : decode cX12_earliestOf 40 = .ok (.iload 5, 2) := by decide +kernel
theorem dX12_earliestOf_42 : decode cX12_earliestOf 42 = .ok (.invokevirtual 378, 3) := by decide +kernel
theorem dX12_earliestOf_45 : decode cX12_earliestOf 45 = .ok (.aload_n 0, 1) := by decide +kernel
theorem dX12_earliestOf_46 : decode cX12_earliestOf 46 = .ok (.getfield 22, 3) := by decide +kernel
theorem dX12_earliestOf_49 : decode cX12_earliestOf 49 = .ok (.iload_n 1, 1) := by decide +kernel
theorem dX12_earliestOf_50 : decode cX12_earliestOf 50 = .ok (.iaload, 1) := by decide +kernel
theorem dX12_earliestOf_51 : decode cX12_earliestOf 51 = .ok (.imul, 1) := by decide +kernel
theorem dX12_earliestOf_52 : decode cX12_earliestOf 52 = .ok (.iadd, 1) := by decide +kernel
theorem dX12_earliestOf_53 : decode cX12_earliestOf 53 = .ok (.invokevirtual 436, 3) := by decide +kernel
theorem dX12_earliestOf_56 : decode cX12_earliestOf 56 = .ok (.ireturn, 1) := by decide +kernel
theorem dX12_earliestOf_57 : decode cX12_earliestOf 57 = .ok (.ldc_w 435, 3) := by decide +kernel
theorem dX12_earliestOf_60 : decode cX12_earliestOf 60 = .ok (.istore 6, 2) := by decide +kernel
theorem dX12_earliestOf_62 : decode cX12_earliestOf 62 = .ok (.iconst 0, 1) := by decide +kernel
theorem dX12_earliestOf_63 : decode cX12_earliestOf 63 = .ok (.istore 7, 2) := by decide +kernel
theorem dX12_earliestOf_65 : decode cX12_earliestOf 65 = .ok (.iload 7, 2) := by decide +kernel
theorem dX12_earliestOf_67 : decode cX12_earliestOf 67 = .ok (.aload_n 0, 1) := by decide +kernel
theorem dX12_earliestOf_68 : decode cX12_earliestOf 68 = .ok (.getfield 165, 3) := by decide +kernel
theorem dX12_earliestOf_71 : decode cX12_earliestOf 71 = .ok (.if_icmp .ge 100, 3) := by decide +kernel
theorem dX12_earliestOf_74 : decode cX12_earliestOf 74 = .ok (.iload 4, 2) := by decide +kernel
theorem dX12_earliestOf_76 : decode cX12_earliestOf 76 = .ok (.iload 7, 2) := by decide +kernel
theorem dX12_earliestOf_78 : decode cX12_earliestOf 78 = .ok (.ishr, 1) := by decide +kernel
theorem dX12_earliestOf_79 : decode cX12_earliestOf 79 = .ok (.iconst 1, 1) := by decide +kernel
theorem dX12_earliestOf_80 : decode cX12_earliestOf 80 = .ok (.iand, 1) := by decide +kernel
theorem dX12_earliestOf_81 : decode cX12_earliestOf 81 = .ok (.ifCond .eq 84, 3) := by decide +kernel
theorem dX12_earliestOf_84 : decode cX12_earliestOf 84 = .ok (.aload_n 0, 1) := by decide +kernel
theorem dX12_earliestOf_85 : decode cX12_earliestOf 85 = .ok (.getfield 108, 3) := by decide +kernel
theorem dX12_earliestOf_88 : decode cX12_earliestOf 88 = .ok (.bipush 10, 2) := by decide +kernel
theorem dX12_earliestOf_90 : decode cX12_earliestOf 90 = .ok (.iload 4, 2) := by decide +kernel
theorem dX12_earliestOf_92 : decode cX12_earliestOf 92 = .ok (.imul, 1) := by decide +kernel
theorem dX12_earliestOf_93 : decode cX12_earliestOf 93 = .ok (.iload 7, 2) := by decide +kernel
theorem dX12_earliestOf_95 : decode cX12_earliestOf 95 = .ok (.iadd, 1) := by decide +kernel
theorem dX12_earliestOf_96 : decode cX12_earliestOf 96 = .ok (.iaload, 1) := by decide +kernel
theorem dX12_earliestOf_97 : decode cX12_earliestOf 97 = .ok (.ldc_w 435, 3) := by decide +kernel
theorem dX12_earliestOf_100 : decode cX12_earliestOf 100 = .ok (.if_icmp .ne 6, 3) := by decide +kernel
theorem dX12_earliestOf_103 : decode cX12_earliestOf 103 = .ok (.goto 62, 3) := by decide +kernel
theorem dX12_earliestOf_106 : decode cX12_earliestOf 106 = .ok (.aload_n 0, 1) := by decide +kernel
theorem dX12_earliestOf_107 : decode cX12_earliestOf 107 = .ok (.iload_n 3, 1) := by decide +kernel
theorem dX12_earliestOf_108 : decode cX12_earliestOf 108 = .ok (.aload_n 0, 1) := by decide +kernel
theorem dX12_earliestOf_109 : decode cX12_earliestOf 109 = .ok (.getfield 108, 3) := by decide +kernel
theorem dX12_earliestOf_112 : decode cX12_earliestOf 112 = .ok (.bipush 10, 2) := by decide +kernel
theorem dX12_earliestOf_114 : decode cX12_earliestOf 114 = .ok (.iload 4, 2) := by decide +kernel
theorem dX12_earliestOf_116 : decode cX12_earliestOf 116 = .ok (.imul, 1) := by decide +kernel
theorem dX12_earliestOf_117 : decode cX12_earliestOf 117 = .ok (.iload 7, 2) := by decide +kernel
theorem dX12_earliestOf_119 : decode cX12_earliestOf 119 = .ok (.iadd, 1) := by decide +kernel
theorem dX12_earliestOf_120 : decode cX12_earliestOf 120 = .ok (.iaload, 1) := by decide +kernel
theorem dX12_earliestOf_121 : decode cX12_earliestOf 121 = .ok (.iconst 1, 1) := by decide +kernel
theorem dX12_earliestOf_122 : decode cX12_earliestOf 122 = .ok (.iadd, 1) := by decide +kernel
theorem dX12_earliestOf_123 : decode cX12_earliestOf 123 = .ok (.aload_n 0, 1) := by decide +kernel
theorem dX12_earliestOf_124 : decode cX12_earliestOf 124 = .ok (.aload_n 0, 1) := by decide +kernel
theorem dX12_earliestOf_125 : decode cX12_earliestOf 125 = .ok (.iload 7, 2) := by decide +kernel
theorem dX12_earliestOf_127 : decode cX12_earliestOf 127 = .ok (.iconst 1, 1) := by decide +kernel
theorem dX12_earliestOf_128 : decode cX12_earliestOf 128 = .ok (.invokevirtual 396, 3) := by decide +kernel
theorem dX12_earliestOf_131 : decode cX12_earliestOf 131 = .ok (.iload 5, 2) := by decide +kernel
theorem dX12_earliestOf_133 : decode cX12_earliestOf 133 = .ok (.invokevirtual 378, 3) := by decide +kernel
theorem dX12_earliestOf_136 : decode cX12_earliestOf 136 = .ok (.aload_n 0, 1) := by decide +kernel
theorem dX12_earliestOf_137 : decode cX12_earliestOf 137 = .ok (.getfield 22, 3) := by decide +kernel
theorem dX12_earliestOf_140 : decode cX12_earliestOf 140 = .ok (.iload_n 1, 1) := by decide +kernel
theorem dX12_earliestOf_141 : decode cX12_earliestOf 141 = .ok (.iaload, 1) := by decide +kernel
theorem dX12_earliestOf_142 : decode cX12_earliestOf 142 = .ok (.imul, 1) := by decide +kernel
theorem dX12_earliestOf_143 : decode cX12_earliestOf 143 = .ok (.iadd, 1) := by decide +kernel
theorem dX12_earliestOf_144 : decode cX12_earliestOf 144 = .ok (.invokevirtual 436, 3) := by decide +kernel
theorem dX12_earliestOf_147 : decode cX12_earliestOf 147 = .ok (.istore 8, 2) := by decide +kernel
theorem dX12_earliestOf_149 : decode cX12_earliestOf 149 = .ok (.iload 8, 2) := by decide +kernel
theorem dX12_earliestOf_151 : decode cX12_earliestOf 151 = .ok (.iload 6, 2) := by decide +kernel
theorem dX12_earliestOf_153 : decode cX12_earliestOf 153 = .ok (.if_icmp .ge 8, 3) := by decide +kernel
theorem dX12_earliestOf_156 : decode cX12_earliestOf 156 = .ok (.iload 8, 2) := by decide +kernel
theorem dX12_earliestOf_158 : decode cX12_earliestOf 158 = .ok (.goto 5, 3) := by decide +kernel
theorem dX12_earliestOf_161 : decode cX12_earliestOf 161 = .ok (.iload 6, 2) := by decide +kernel
theorem dX12_earliestOf_163 : decode cX12_earliestOf 163 = .ok (.istore 6, 2) := by decide +kernel
theorem dX12_earliestOf_165 : decode cX12_earliestOf 165 = .ok (.iinc 7 1, 3) := by decide +kernel
theorem dX12_earliestOf_168 : decode cX12_earliestOf 168 = .ok (.goto (-103), 3) := by decide +kernel
theorem dX12_earliestOf_171 : decode cX12_earliestOf 171 = .ok (.iload 6, 2) := by decide +kernel
theorem dX12_earliestOf_173 : decode cX12_earliestOf 173 = .ok (.ireturn, 1) := by decide +kernel
theorem wp_X12_earliestOf_0 {d : Nat} {s : ev_S} {Q : Option ev_V → ev_S → Prop} {a1 a2 a3 : Int}
    (h : (Ev layM M_X12_ofMishap d 0 [(0, ev_r 0), (1, ev_i a3), (2, ev_i 1)] [] s (ev_pi (fun r2 s1 => (((ev_and a2 (ev_xor (ev_shl 1 a3) (-1))) ≠ 0 → Ev layM M_X12_earliestOf (d + 1) 65 [(0, ev_r 0), (1, ev_i a1), (3, ev_i a3), (4, ev_i (ev_and a2 (ev_xor (ev_shl 1 a3) (-1)))), (5, ev_i r2), (6, ev_i 1000000), (7, ev_i 0)] [] s1 Q) ∧ ((ev_and a2 (ev_xor (ev_shl 1 a3) (-1))) = 0 → ((0 ≤ (ev_add 27 a1) ∧ (ev_add 27 a1) < (87 : Nat)) ∧ (Ev layM M_X12_farOf d 0 [(0, ev_r 0), (1, ev_i (s1 1 (Int.toNat (ev_add 27 a1)))), (2, ev_i r2)] [] s1 (ev_pi (fun r4 s3 => ((0 ≤ a1 ∧ a1 < (6 : Nat)) ∧ (Ev layM M_X12_timeFor d 0 [(0, ev_r 0), (1, ev_i a3), (2, ev_i (ev_add (s1 1 0) (ev_mul r4 (s3 5 (Int.toNat a1)))))] [] s3 (ev_pi (fun r6 s5 => Q (some (ev_i r6)) s5)))))))))))))) :
    Ev layM M_X12_earliestOf (d + 1) 0 [(0, ev_r 0), (1, ev_i a1), (2, ev_i a2), (3, ev_i a3)] [] s Q := by
  refine Ev_iload_n 2 dX12_earliestOf_0 rfl rfl ?_
  refine Ev_iconst dX12_earliestOf_1 rfl (ev_Rc rfl) ?_
  refine Ev_iload_n 3 dX12_earliestOf_2 rfl rfl ?_
  refine Ev_ishl dX12_earliestOf_3 ?_
  refine Ev_iconst dX12_earliestOf_4 rfl (ev_Rc rfl) ?_
  refine Ev_ixor dX12_earliestOf_5 ?_
  refine Ev_iand dX12_earliestOf_6 ?_
  refine Ev_istore (l' := [(4, ev_i (ev_and a2 (ev_xor (ev_shl 1 a3) (-1)))), (0, ev_r 0), (1, ev_i a1), (2, ev_i a2), (3, ev_i a3)]) dX12_earliestOf_7 (Nat.le_of_ble_eq_true rfl) rfl ?_
  refine Ev_aload_n 1 dX12_earliestOf_9 rfl rfl ?_
  refine Ev_iload_n 4 dX12_earliestOf_10 rfl rfl ?_
  refine Ev_iconst dX12_earliestOf_11 rfl (ev_Rc rfl) ?_
  refine Ev_callV (As := [ev_i a3, ev_i 1]) (b := 0) (st := []) (M' := M_X12_ofMishap) cm_X12_ofMishap wd_1954 wd_1956 wd_137 yM_0 cl_X12 rfl dX12_earliestOf_12 (Nat.le_refl _) rfl (Nat.le_of_ble_eq_true rfl) (Nat.le_of_ble_eq_true rfl) h (fun v u h hk => ?_)
  obtain ⟨r2, rfl⟩ := hk
  obtain ⟨s1, rfl⟩ : ∃ x, x = u := ⟨_, rfl⟩
  replace h := h r2 rfl
  refine Ev_istore (l' := [(5, ev_i r2), (4, ev_i (ev_and a2 (ev_xor (ev_shl 1 a3) (-1)))), (0, ev_r 0), (1, ev_i a1), (2, ev_i a2), (3, ev_i a3)]) dX12_earliestOf_15 (Nat.le_of_ble_eq_true rfl) rfl ?_
  refine Ev_iload 1 dX12_earliestOf_17 rfl ?_
  refine Ev_if_ne (tgt := 57) dX12_earliestOf_19 rfl (fun c => ?_) (fun c => ?_)
  · replace h := h.1 c
    refine Ev_ldcw (z := 1000000) wd_2024 dX12_earliestOf_57 rfl (ev_Rc rfl) ?_
    refine Ev_istore (l' := [(6, ev_i 1000000), (5, ev_i r2), (4, ev_i (ev_and a2 (ev_xor (ev_shl 1 a3) (-1)))), (0, ev_r 0), (1, ev_i a1), (2, ev_i a2), (3, ev_i a3)]) dX12_earliestOf_60 (Nat.le_of_ble_eq_true rfl) rfl ?_
    refine Ev_iconst dX12_earliestOf_62 rfl (ev_Rc rfl) ?_
    refine Ev_istore (l' := [(7, ev_i 0), (6, ev_i 1000000), (5, ev_i r2), (4, ev_i (ev_and a2 (ev_xor (ev_shl 1 a3) (-1)))), (0, ev_r 0), (1, ev_i a1), (2, ev_i a2), (3, ev_i a3)]) dX12_earliestOf_63 (Nat.le_of_ble_eq_true rfl) rfl ?_
    exact Ev_sub [4, 5, 7, 3, 2, 1, 0] rfl h
  · replace h := h.2 c
    refine Ev_aload_n 2 dX12_earliestOf_22 rfl rfl ?_
    refine Ev_iload_n 5 dX12_earliestOf_23 rfl rfl ?_
    refine Ev_aload_n 2 dX12_earliestOf_24 rfl rfl ?_
    refine Ev_getR (i := 1) cl_X12 yM_0 (Nat.le_of_ble_eq_true rfl) rfl wd_1445 dX12_earliestOf_25 ?_
    refine Ev_iconst dX12_earliestOf_28 rfl (ev_Rc rfl) ?_
    refine Ev_iald yM_1 (by decide) dX12_earliestOf_29 ?_
    refine Ev_aload_n 2 dX12_earliestOf_30 rfl rfl ?_
    refine Ev_aload_n 2 dX12_earliestOf_31 rfl rfl ?_
    refine Ev_getR (i := 1) cl_X12 yM_0 (Nat.le_of_ble_eq_true rfl) rfl wd_1445 dX12_earliestOf_32 ?_
    refine Ev_bipushC dX12_earliestOf_35 rfl ?_
    refine Ev_iload_n 3 dX12_earliestOf_37 rfl rfl ?_
    refine Ev_iadd dX12_earliestOf_38 ?_
    obtain ⟨h0, h⟩ := h
    refine Ev_iald yM_1 h0 dX12_earliestOf_39 ?_
    refine Ev_iload 0 dX12_earliestOf_40 rfl ?_
    refine Ev_callV (As := [ev_i (s1 1 (Int.toNat (ev_add 27 a1))), ev_i r2]) (b := 0) (st := [ev_i (s1 1 0), ev_i a3, ev_r 0]) (M' := M_X12_farOf) cm_X12_farOf wd_1902 wd_1904 wd_124 yM_0 cl_X12 rfl dX12_earliestOf_42 (Nat.le_refl _) rfl (Nat.le_of_ble_eq_true rfl) (Nat.le_of_ble_eq_true rfl) h (fun v u h hk => ?_)
    obtain ⟨r4, rfl⟩ := hk
    obtain ⟨s3, rfl⟩ : ∃ x, x = u := ⟨_, rfl⟩
    replace h := h r4 rfl
    refine Ev_aload_n 2 dX12_earliestOf_45 rfl rfl ?_
    refine Ev_getR (i := 13) cl_X12 yM_0 (Nat.le_of_ble_eq_true rfl) rfl wd_1457 dX12_earliestOf_46 ?_
    refine Ev_iload_n 3 dX12_earliestOf_49 rfl rfl ?_
    obtain ⟨h0, h⟩ := h
    refine Ev_iald yM_5 h0 dX12_earliestOf_50 ?_
    refine Ev_imul dX12_earliestOf_51 ?_
    refine Ev_iadd dX12_earliestOf_52 ?_
    refine Ev_callV (As := [ev_i a3, ev_i (ev_add (s1 1 0) (ev_mul r4 (s3 5 (Int.toNat a1))))]) (b := 0) (st := []) (M' := M_X12_timeFor) cm_X12_timeFor wd_2020 wd_2022 wd_151 yM_0 cl_X12 rfl dX12_earliestOf_53 (Nat.le_refl _) rfl (Nat.le_of_ble_eq_true rfl) (Nat.le_of_ble_eq_true rfl) h (fun v u h hk => ?_)
    obtain ⟨r6, rfl⟩ := hk
    obtain ⟨s5, rfl⟩ : ∃ x, x = u := ⟨_, rfl⟩
    replace h := h r6 rfl
    exact Ev_iret rfl dX12_earliestOf_56 rfl h
theorem wp_X12_earliestOf_65 {d : Nat} {s : ev_S} {Q : Option ev_V → ev_S → Prop} {a1 a3 a4 a5 a6 a7 : Int}
    (h : (((s 0 46) ≤ a7 → Q (some (ev_i a6)) s) ∧ (a7 < (s 0 46) → (((ev_and (ev_shr a4 a7) 1) = 0 → Ev layM M_X12_earliestOf (d + 1) 65 [(0, ev_r 0), (1, ev_i a1), (3, ev_i a3), (4, ev_i a4), (5, ev_i a5), (6, ev_i a6), (7, ev_i (ev_add a7 1))] [] s Q) ∧ ((ev_and (ev_shr a4 a7) 1) ≠ 0 → ((0 ≤ (ev_add (ev_mul 10 a4) a7) ∧ (ev_add (ev_mul 10 a4) a7) < (10240 : Nat)) ∧ (((s 32 (Int.toNat (ev_add (ev_mul 10 a4) a7))) ≠ 1000000 → ((0 ≤ (ev_add (ev_mul 10 a4) a7) ∧ (ev_add (ev_mul 10 a4) a7) < (10240 : Nat)) ∧ (Ev layM M_X12_ofMishap d 0 [(0, ev_r 0), (1, ev_i a7), (2, ev_i 1)] [] s (ev_pi (fun r2 s1 => (Ev layM M_X12_farOf d 0 [(0, ev_r 0), (1, ev_i r2), (2, ev_i a5)] [] s1 (ev_pi (fun r4 s3 => ((0 ≤ a1 ∧ a1 < (6 : Nat)) ∧ (Ev layM M_X12_timeFor d 0 [(0, ev_r 0), (1, ev_i a3), (2, ev_i (ev_add (ev_add (s 32 (Int.toNat (ev_add (ev_mul 10 a4) a7))) 1) (ev_mul r4 (s3 5 (Int.toNat a1)))))] [] s3 (ev_pi (fun r6 s5 => ((a6 ≤ r6 → Ev layM M_X12_earliestOf (d + 1) 65 [(0, ev_r 0), (1, ev_i a1), (3, ev_i a3), (4, ev_i a4), (5, ev_i a5), (6, ev_i a6), (7, ev_i (ev_add a7 1))] [] s5 Q) ∧ (r6 < a6 → Ev layM M_X12_earliestOf (d + 1) 65 [(0, ev_r 0), (1, ev_i a1), (3, ev_i a3), (4, ev_i a4), (5, ev_i a5), (6, ev_i r6), (7, ev_i (ev_add a7 1))] [] s5 Q)))))))))))))) ∧ ((s 32 (Int.toNat (ev_add (ev_mul 10 a4) a7))) = 1000000 → Ev layM M_X12_earliestOf (d + 1) 65 [(0, ev_r 0), (1, ev_i a1), (3, ev_i a3), (4, ev_i a4), (5, ev_i a5), (6, ev_i a6), (7, ev_i (ev_add a7 1))] [] s Q)))))))) :
    Ev layM M_X12_earliestOf (d + 1) 65 [(0, ev_r 0), (1, ev_i a1), (3, ev_i a3), (4, ev_i a4), (5, ev_i a5), (6, ev_i a6), (7, ev_i a7)] [] s Q := by
  refine Ev_iload 6 dX12_earliestOf_65 rfl ?_
  refine Ev_aload_n 0 dX12_earliestOf_67 rfl rfl ?_
  refine Ev_get (i := 46) cl_X12 yM_0 (Nat.le_of_ble_eq_true rfl) rfl wd_1490 dX12_earliestOf_68 ?_
  refine Ev_icmp_ge (tgt := 171) dX12_earliestOf_71 rfl (fun c => ?_) (fun c => ?_)
  · replace h := h.1 c
    refine Ev_iload 5 dX12_earliestOf_171 rfl ?_
    exact Ev_iret rfl dX12_earliestOf_173 rfl h
  · replace h := h.2 c
    refine Ev_iload 3 dX12_earliestOf_74 rfl ?_
    refine Ev_iload 6 dX12_earliestOf_76 rfl ?_
    refine Ev_ishr dX12_earliestOf_78 ?_
    refine Ev_iconst dX12_earliestOf_79 rfl (ev_Rc rfl) ?_
    refine Ev_iand dX12_earliestOf_80 ?_
    refine Ev_if_eq (tgt := 165) dX12_earliestOf_81 rfl (fun c => ?_) (fun c => ?_)
    · replace h := h.1 c
      refine Ev_iinc (j := 6) (l' := [(7, ev_i (ev_add a7 1)), (0, ev_r 0), (1, ev_i a1), (3, ev_i a3), (4, ev_i a4), (5, ev_i a5), (6, ev_i a6)]) dX12_earliestOf_165 rfl (Nat.le_of_ble_eq_true rfl) rfl ?_
      refine Ev_goto (tgt := 65) dX12_earliestOf_168 rfl ?_
      exact Ev_sub [1, 2, 3, 4, 5, 6, 0] rfl h
    · replace h := h.2 c
      refine Ev_aload_n 0 dX12_earliestOf_84 rfl rfl ?_
      refine Ev_getR (i := 55) cl_X12 yM_0 (Nat.le_of_ble_eq_true rfl) rfl wd_1499 dX12_earliestOf_85 ?_
      refine Ev_bipushC dX12_earliestOf_88 rfl ?_
      refine Ev_iload 3 dX12_earliestOf_90 rfl ?_
      refine Ev_imul dX12_earliestOf_92 ?_
      refine Ev_iload 6 dX12_earliestOf_93 rfl ?_
      refine Ev_iadd dX12_earliestOf_95 ?_
      obtain ⟨h0, h⟩ := h
      refine Ev_iald yM_32 h0 dX12_earliestOf_96 ?_
      refine Ev_ldcw (z := 1000000) wd_2024 dX12_earliestOf_97 rfl (ev_Rc rfl) ?_
      refine Ev_icmp_ne (tgt := 106) dX12_earliestOf_100 rfl (fun c => ?_) (fun c => ?_)
      · replace h := h.1 c
        refine Ev_aload_n 0 dX12_earliestOf_106 rfl rfl ?_
        refine Ev_iload_n 2 dX12_earliestOf_107 rfl rfl ?_
        refine Ev_aload_n 0 dX12_earliestOf_108 rfl rfl ?_
        refine Ev_getR (i := 55) cl_X12 yM_0 (Nat.le_of_ble_eq_true rfl) rfl wd_1499 dX12_earliestOf_109 ?_
        refine Ev_bipushC dX12_earliestOf_112 rfl ?_
        refine Ev_iload 3 dX12_earliestOf_114 rfl ?_
        refine Ev_imul dX12_earliestOf_116 ?_
        refine Ev_iload 6 dX12_earliestOf_117 rfl ?_
        refine Ev_iadd dX12_earliestOf_119 ?_
        obtain ⟨h0, h⟩ := h
        refine Ev_iald yM_32 h0 dX12_earliestOf_120 ?_
        refine Ev_iconst dX12_earliestOf_121 rfl (ev_Rc rfl) ?_
        refine Ev_iadd dX12_earliestOf_122 ?_
        refine Ev_aload_n 0 dX12_earliestOf_123 rfl rfl ?_
        refine Ev_aload_n 0 dX12_earliestOf_124 rfl rfl ?_
        refine Ev_iload 6 dX12_earliestOf_125 rfl ?_
        refine Ev_iconst dX12_earliestOf_127 rfl (ev_Rc rfl) ?_
        refine Ev_callV (As := [ev_i a7, ev_i 1]) (b := 0) (st := [ev_r 0, ev_i (ev_add (s 32 (Int.toNat (ev_add (ev_mul 10 a4) a7))) 1), ev_i a3, ev_r 0]) (M' := M_X12_ofMishap) cm_X12_ofMishap wd_1954 wd_1956 wd_137 yM_0 cl_X12 rfl dX12_earliestOf_128 (Nat.le_refl _) rfl (Nat.le_of_ble_eq_true rfl) (Nat.le_of_ble_eq_true rfl) h (fun v u h hk => ?_)
        obtain ⟨r2, rfl⟩ := hk
        obtain ⟨s1, rfl⟩ : ∃ x, x = u := ⟨_, rfl⟩
        replace h := h r2 rfl
        refine Ev_iload 4 dX12_earliestOf_131 rfl ?_
        refine Ev_callV (As := [ev_i r2, ev_i a5]) (b := 0) (st := [ev_i (ev_add (s 32 (Int.toNat (ev_add (ev_mul 10 a4) a7))) 1), ev_i a3, ev_r 0]) (M' := M_X12_farOf) cm_X12_farOf wd_1902 wd_1904 wd_124 yM_0 cl_X12 rfl dX12_earliestOf_133 (Nat.le_refl _) rfl (Nat.le_of_ble_eq_true rfl) (Nat.le_of_ble_eq_true rfl) h (fun v u h hk => ?_)
        obtain ⟨r4, rfl⟩ := hk
        obtain ⟨s3, rfl⟩ : ∃ x, x = u := ⟨_, rfl⟩
        replace h := h r4 rfl
        refine Ev_aload_n 0 dX12_earliestOf_136 rfl rfl ?_
        refine Ev_getR (i := 13) cl_X12 yM_0 (Nat.le_of_ble_eq_true rfl) rfl wd_1457 dX12_earliestOf_137 ?_
        refine Ev_iload_n 1 dX12_earliestOf_140 rfl rfl ?_
        obtain ⟨h0, h⟩ := h
        refine Ev_iald yM_5 h0 dX12_earliestOf_141 ?_
        refine Ev_imul dX12_earliestOf_142 ?_
        refine Ev_iadd dX12_earliestOf_143 ?_
        refine Ev_callV (As := [ev_i a3, ev_i (ev_add (ev_add (s 32 (Int.toNat (ev_add (ev_mul 10 a4) a7))) 1) (ev_mul r4 (s3 5 (Int.toNat a1))))]) (b := 0) (st := []) (M' := M_X12_timeFor) cm_X12_timeFor wd_2020 wd_2022 wd_151 yM_0 cl_X12 rfl dX12_earliestOf_144 (Nat.le_refl _) rfl (Nat.le_of_ble_eq_true rfl) (Nat.le_of_ble_eq_true rfl) h (fun v u h hk => ?_)
        obtain ⟨r6, rfl⟩ := hk
        obtain ⟨s5, rfl⟩ : ∃ x, x = u := ⟨_, rfl⟩
        replace h := h r6 rfl
        refine Ev_istore (l' := [(8, ev_i r6), (0, ev_r 0), (1, ev_i a1), (3, ev_i a3), (4, ev_i a4), (5, ev_i a5), (6, ev_i a6), (7, ev_i a7)]) dX12_earliestOf_147 (Nat.le_of_ble_eq_true rfl) rfl ?_
        refine Ev_iload 0 dX12_earliestOf_149 rfl ?_
        refine Ev_iload 6 dX12_earliestOf_151 rfl ?_
        refine Ev_icmp_ge (tgt := 161) dX12_earliestOf_153 rfl (fun c => ?_) (fun c => ?_)
        · replace h := h.1 c
          refine Ev_iload 6 dX12_earliestOf_161 rfl ?_
          refine Ev_istore (l' := [(6, ev_i a6), (8, ev_i r6), (0, ev_r 0), (1, ev_i a1), (3, ev_i a3), (4, ev_i a4), (5, ev_i a5), (7, ev_i a7)]) dX12_earliestOf_163 (Nat.le_of_ble_eq_true rfl) rfl ?_
          refine Ev_iinc (j := 7) (l' := [(7, ev_i (ev_add a7 1)), (6, ev_i a6), (8, ev_i r6), (0, ev_r 0), (1, ev_i a1), (3, ev_i a3), (4, ev_i a4), (5, ev_i a5)]) dX12_earliestOf_165 rfl (Nat.le_of_ble_eq_true rfl) rfl ?_
          refine Ev_goto (tgt := 65) dX12_earliestOf_168 rfl ?_
          exact Ev_sub [3, 4, 5, 6, 7, 1, 0] rfl h
        · replace h := h.2 c
          refine Ev_iload 0 dX12_earliestOf_156 rfl ?_
          refine Ev_goto (tgt := 163) dX12_earliestOf_158 rfl ?_
          refine Ev_istore (l' := [(6, ev_i r6), (8, ev_i r6), (0, ev_r 0), (1, ev_i a1), (3, ev_i a3), (4, ev_i a4), (5, ev_i a5), (7, ev_i a7)]) dX12_earliestOf_163 (Nat.le_of_ble_eq_true rfl) rfl ?_
          refine Ev_iinc (j := 7) (l' := [(7, ev_i (ev_add a7 1)), (6, ev_i r6), (8, ev_i r6), (0, ev_r 0), (1, ev_i a1), (3, ev_i a3), (4, ev_i a4), (5, ev_i a5)]) dX12_earliestOf_165 rfl (Nat.le_of_ble_eq_true rfl) rfl ?_
          refine Ev_goto (tgt := 65) dX12_earliestOf_168 rfl ?_
          exact Ev_sub [3, 4, 5, 6, 7, 1, 0] rfl h
      · replace h := h.2 c
        refine Ev_goto (tgt := 165) dX12_earliestOf_103 rfl ?_
        refine Ev_iinc (j := 6) (l' := [(7, ev_i (ev_add a7 1)), (0, ev_r 0), (1, ev_i a1), (3, ev_i a3), (4, ev_i a4), (5, ev_i a5), (6, ev_i a6)]) dX12_earliestOf_165 rfl (Nat.le_of_ble_eq_true rfl) rfl ?_
        refine Ev_goto (tgt := 65) dX12_earliestOf_168 rfl ?_
        exact Ev_sub [1, 2, 3, 4, 5, 6, 0] rfl h
theorem dX12_findsSets_0 : decode cX12_findsSets 0 = .ok (.iconst 0, 1) := by decide +kernel
theorem dX12_findsSets_1 : decode cX12_findsSets 1 = .ok (.istore_n 3, 1) := by decide +kernel
theorem dX12_findsSets_2 : decode cX12_findsSets 2 = .ok (.iload_n 3, 1) := by decide +kernel
theorem dX12_findsSets_3 : decode cX12_findsSets 3 = .ok (.iconst 1, 1) := by decide +kernel
theorem dX12_findsSets_4 : decode cX12_findsSets 4 = .ok (.aload_n 0, 1) := by decide +kernel
theorem dX12_findsSets_5 : decode cX12_findsSets 5 = .ok (.getfield 165, 3) := by decide +kernel
theorem dX12_findsSets_8 : decode cX12_findsSets 8 = .ok (.ishl, 1) := by decide +kernel
theorem dX12_findsSets_9 : decode cX12_findsSets 9 = .ok (.if_icmp .ge 119, 3) := by decide +kernel
theorem dX12_findsSets_12 : decode cX12_findsSets 12 = .ok (.iload_n 3, 1) := by decide +kernel
theorem dX12_findsSets_13 : decode cX12_findsSets 13 = .ok (.ifCond .ne 7, 3) := by decide +kernel
theorem dX12_findsSets_16 : decode cX12_findsSets 16 = .ok (.iconst 1, 1) := by decide +kernel
theorem dX12_findsSets_17 : decode cX12_findsSets 17 = .ok (.goto 4, 3) := by decide +kernel
theorem dX12_findsSets_20 : decode cX12_findsSets 20 = .ok (.iconst 0, 1) := by decide +kernel
theorem dX12_findsSets_21 : decode cX12_findsSets 21 = .ok (.istore 4, 2) := by decide +kernel
theorem dX12_findsSets_23 : decode cX12_findsSets 23 = .ok (.iconst 0, 1) := by decide +kernel
theorem dX12_findsSets_24 : decode cX12_findsSets 24 = .ok (.istore 5, 2) := by decide +kernel
theorem dX12_findsSets_26 : decode cX12_findsSets 26 = .ok (.iload 5, 2) := by decide +kernel
theorem dX12_findsSets_28 : decode cX12_findsSets 28 = .ok (.aload_n 0, 1) := by decide +kernel
theorem dX12_findsSets_29 : decode cX12_findsSets 29 = .ok (.getfield 165, 3) := by decide +kernel
theorem dX12_findsSets_32 : decode cX12_findsSets 32 = .ok (.if_icmp .ge 76, 3) := by decide +kernel
theorem dX12_findsSets_35 : decode cX12_findsSets 35 = .ok (.iload_n 3, 1) := by decide +kernel
theorem dX12_findsSets_36 : decode cX12_findsSets 36 = .ok (.iload 5, 2) := by decide +kernel
theorem dX12_findsSets_38 : decode cX12_findsSets 38 = .ok (.ishr, 1) := by decide +kernel
theorem dX12_findsSets_39 : decode cX12_findsSets 39 = .ok (.iconst 1, 1) := by decide +kernel
theorem dX12_findsSets_40 : decode cX12_findsSets 40 = .ok (.iand, 1) := by decide +kernel
theorem dX12_findsSets_41 : decode cX12_findsSets 41 = .ok (.ifCond .ne 6, 3) := by decide +kernel
theorem dX12_findsSets_44 : decode cX12_findsSets 44 = .ok (.goto 58, 3) := by decide +kernel
theorem dX12_findsSets_47 : decode cX12_findsSets 47 = .ok (.aload_n 0, 1) := by decide +kernel
theorem dX12_findsSets_48 : decode cX12_findsSets 48 = .ok (.getfield 108, 3) := by decide +kernel
theorem dX12_findsSets_51 : decode cX12_findsSets 51 = .ok (.bipush 10, 2) := by decide +kernel
theorem dX12_findsSets_53 : decode cX12_findsSets 53 = .ok (.iload_n 3, 1) := by decide +kernel
theorem dX12_findsSets_54 : decode cX12_findsSets 54 = .ok (.imul, 1) := by decide +kernel
theorem dX12_findsSets_55 : decode cX12_findsSets 55 = .ok (.iload 5, 2) := by decide +kernel
theorem dX12_findsSets_57 : decode cX12_findsSets 57 = .ok (.iadd, 1) := by decide +kernel
theorem dX12_findsSets_58 : decode cX12_findsSets 58 = .ok (.iload_n 3, 1) := by decide +kernel
theorem dX12_findsSets_59 : decode cX12_findsSets 59 = .ok (.iload_n 2, 1) := by decide +kernel
theorem dX12_findsSets_60 : decode cX12_findsSets 60 = .ok (.iconst (-1), 1) := by decide +kernel
theorem dX12_findsSets_61 : decode cX12_findsSets 61 = .ok (.ixor, 1) := by decide +kernel
theorem dX12_findsSets_62 : decode cX12_findsSets 62 = .ok (.iand, 1) := by decide +kernel
theorem dX12_findsSets_63 : decode cX12_findsSets 63 = .ok (.ifCond .ne 14, 3) := by decide +kernel
theorem dX12_findsSets_66 : decode cX12_findsSets 66 = .ok (.aload_n 0, 1) := by decide +kernel
theorem dX12_findsSets_67 : decode cX12_findsSets 67 = .ok (.iload_n 1, 1) := by decide +kernel
theorem dX12_findsSets_68 : decode cX12_findsSets 68 = .ok (.iload_n 3, 1) := by decide +kernel
theorem dX12_findsSets_69 : decode cX12_findsSets 69 = .ok (.iload 5, 2) := by decide +kernel
theorem dX12_findsSets_71 : decode cX12_findsSets 71 = .ok (.invokevirtual 439, 3) := by decide +kernel
theorem dX12_findsSets_74 : decode cX12_findsSets 74 = .ok (.goto 6, 3) := by decide +kernel
theorem dX12_findsSets_77 : decode cX12_findsSets 77 = .ok (.ldc_w 435, 3) := by decide +kernel
theorem dX12_findsSets_80 : decode cX12_findsSets 80 = .ok (.iastore, 1) := by decide +kernel
theorem dX12_findsSets_81 : decode cX12_findsSets 81 = .ok (.aload_n 0, 1) := by decide +kernel
theorem dX12_findsSets_82 : decode cX12_findsSets 82 = .ok (.getfield 108, 3) := by decide +kernel
theorem dX12_findsSets_85 : decode cX12_findsSets 85 = .ok (.bipush 10, 2) := by decide +kernel
theorem dX12_findsSets_87 : decode cX12_findsSets 87 = .ok (.iload_n 3, 1) := by decide +kernel
theorem dX12_findsSets_88 : decode cX12_findsSets 88 = .ok (.imul, 1) := by decide +kernel
theorem dX12_findsSets_89 : decode cX12_findsSets 89 = .ok (.iload 5, 2) := by decide +kernel
theorem dX12_findsSets_91 : decode cX12_findsSets 91 = .ok (.iadd, 1) := by decide +kernel
theorem dX12_findsSets_92 : decode cX12_findsSets 92 = .ok (.iaload, 1) := by decide +kernel
theorem dX12_findsSets_93 : decode cX12_findsSets 93 = .ok (.ldc_w 435, 3) := by decide +kernel
theorem dX12_findsSets_96 : decode cX12_findsSets 96 = .ok (.if_icmp .eq 6, 3) := by decide +kernel
theorem dX12_findsSets_99 : decode cX12_findsSets 99 = .ok (.iconst 1, 1) := by decide +kernel
theorem dX12_findsSets_100 : decode cX12_findsSets 100 = .ok (.istore 4, 2) := by decide +kernel
theorem dX12_findsSets_102 : decode cX12_findsSets 102 = .ok (.iinc 5 1, 3) := by decide +kernel
theorem dX12_findsSets_105 : decode cX12_findsSets 105 = .ok (.goto (-79), 3) := by decide +kernel
theorem dX12_findsSets_108 : decode cX12_findsSets 108 = .ok (.aload_n 0, 1) := by decide +kernel
theorem dX12_findsSets_109 : decode cX12_findsSets 109 = .ok (.getfield 104, 3) := by decide +kernel
theorem dX12_findsSets_112 : decode cX12_findsSets 112 = .ok (.sipush 1024, 3) := by decide +kernel
theorem dX12_findsSets_115 : decode cX12_findsSets 115 = .ok (.iload_n 1, 1) := by decide +kernel
theorem dX12_findsSets_116 : decode cX12_findsSets 116 = .ok (.imul, 1) := by decide +kernel
theorem dX12_findsSets_117 : decode cX12_findsSets 117 = .ok (.iload_n 3, 1) := by decide +kernel
theorem dX12_findsSets_118 : decode cX12_findsSets 118 = .ok (.iadd, 1) := by decide +kernel
theorem dX12_findsSets_119 : decode cX12_findsSets 119 = .ok (.iload 4, 2) := by decide +kernel
theorem dX12_findsSets_121 : decode cX12_findsSets 121 = .ok (.bastore, 1) := by decide +kernel
theorem dX12_findsSets_122 : decode cX12_findsSets 122 = .ok (.iinc 3 1, 3) := by decide +kernel
theorem dX12_findsSets_125 : decode cX12_findsSets 125 = .ok (.goto (-123), 3) := by decide +kernel
theorem dX12_findsSets_128 : decode cX12_findsSets 128 = .ok (.return_, 1) := by decide +kernel
theorem wp_X12_findsSets_0 {d : Nat} {s : ev_S} {Q : Option ev_V → ev_S → Prop} {a1 a2 : Int}
    (h : Ev layM M_X12_findsSets (d + 1) 2 [(0, ev_r 0), (1, ev_i a1), (2, ev_i a2), (3, ev_i 0)] [] s Q) :
    Ev layM M_X12_findsSets (d + 1) 0 [(0, ev_r 0), (1, ev_i a1), (2, ev_i a2)] [] s Q := by
  refine Ev_iconst dX12_findsSets_0 rfl (ev_Rc rfl) ?_
  refine Ev_istore_n (l' := [(3, ev_i 0), (0, ev_r 0), (1, ev_i a1), (2, ev_i a2)]) dX12_findsSets_1 rfl (Nat.le_of_ble_eq_true rfl) rfl ?_
  exact Ev_sub [1, 2, 3, 0] rfl h
theorem wp_X12_findsSets_2 {d : Nat} {s : ev_S} {Q : Option ev_V → ev_S → Prop} {a1 a2 a3 : Int}
    (h : (((ev_shl 1 (s 0 46)) ≤ a3 → Q none s) ∧ (a3 < (ev_shl 1 (s 0 46)) → ((a3 ≠ 0 → Ev layM M_X12_findsSets (d + 1) 26 [(0, ev_r 0), (1, ev_i a1), (2, ev_i a2), (3, ev_i a3), (4, ev_i 0), (5, ev_i 0)] [] s Q) ∧ (a3 = 0 → Ev layM M_X12_findsSets (d + 1) 26 [(0, ev_r 0), (1, ev_i a1), (2, ev_i a2), (3, ev_i a3), (4, ev_i 1), (5, ev_i 0)] [] s Q))))) :
    Ev layM M_X12_findsSets (d + 1) 2 [(0, ev_r 0), (1, ev_i a1), (2, ev_i a2), (3, ev_i a3)] [] s Q := by
  refine Ev_iload_n 3 dX12_findsSets_2 rfl rfl ?_
  refine Ev_iconst dX12_findsSets_3 rfl (ev_Rc rfl) ?_
  refine Ev_aload_n 0 dX12_findsSets_4 rfl rfl ?_
  refine Ev_get (i := 46) cl_X12 yM_0 (Nat.le_of_ble_eq_true rfl) rfl wd_1490 dX12_findsSets_5 ?_
  refine Ev_ishl dX12_findsSets_8 ?_
  refine Ev_icmp_ge (tgt := 128) dX12_findsSets_9 rfl (fun c => ?_) (fun c => ?_)
  · replace h := h.1 c
    exact Ev_vret rfl dX12_findsSets_128 h
  · replace h := h.2 c
    refine Ev_iload_n 3 dX12_findsSets_12 rfl rfl ?_
    refine Ev_if_ne (tgt := 20) dX12_findsSets_13 rfl (fun c => ?_) (fun c => ?_)
    · replace h := h.1 c
      refine Ev_iconst dX12_findsSets_20 rfl (ev_Rc rfl) ?_
      refine Ev_istore (l' := [(4, ev_i 0), (0, ev_r 0), (1, ev_i a1), (2, ev_i a2), (3, ev_i a3)]) dX12_findsSets_21 (Nat.le_of_ble_eq_true rfl) rfl ?_
      refine Ev_iconst dX12_findsSets_23 rfl (ev_Rc rfl) ?_
      refine Ev_istore (l' := [(5, ev_i 0), (4, ev_i 0), (0, ev_r 0), (1, ev_i a1), (2, ev_i a2), (3, ev_i a3)]) dX12_findsSets_24 (Nat.le_of_ble_eq_true rfl) rfl ?_
      exact Ev_sub [2, 3, 4, 5, 1, 0] rfl h
    · replace h := h.2 c
      refine Ev_iconst dX12_findsSets_16 rfl (ev_Rc rfl) ?_
      refine Ev_goto (tgt := 21) dX12_findsSets_17 rfl ?_
      refine Ev_istore (l' := [(4, ev_i 1), (0, ev_r 0), (1, ev_i a1), (2, ev_i a2), (3, ev_i a3)]) dX12_findsSets_21 (Nat.le_of_ble_eq_true rfl) rfl ?_
      refine Ev_iconst dX12_findsSets_23 rfl (ev_Rc rfl) ?_
      refine Ev_istore (l' := [(5, ev_i 0), (4, ev_i 1), (0, ev_r 0), (1, ev_i a1), (2, ev_i a2), (3, ev_i a3)]) dX12_findsSets_24 (Nat.le_of_ble_eq_true rfl) rfl ?_
      exact Ev_sub [2, 3, 4, 5, 1, 0] rfl h
theorem wp_X12_findsSets_26 {d : Nat} {s : ev_S} {Q : Option ev_V → ev_S → Prop} {a1 a2 a3 a4 a5 : Int}
    (h : (((s 0 46) ≤ a5 → ((0 ≤ (ev_add (ev_mul 1024 a1) a3) ∧ (ev_add (ev_mul 1024 a1) a3) < (6144 : Nat)) ∧ ∀ s1, ev_up s 31 (Int.toNat (ev_add (ev_mul 1024 a1) a3)) (ev_nar .boolean a4) = s1 → Ev layM M_X12_findsSets (d + 1) 2 [(0, ev_r 0), (1, ev_i a1), (2, ev_i a2), (3, ev_i (ev_add a3 1))] [] s1 Q)) ∧ (a5 < (s 0 46) → (((ev_and (ev_shr a3 a5) 1) ≠ 0 → (((ev_and a3 (ev_xor a2 (-1))) ≠ 0 → Ev layM M_X12_findsSets (d + 1) 80 [(0, ev_r 0), (1, ev_i a1), (2, ev_i a2), (3, ev_i a3), (4, ev_i a4), (5, ev_i a5)] [ev_i 1000000, ev_i (ev_add (ev_mul 10 a3) a5), ev_r 32] s Q) ∧ ((ev_and a3 (ev_xor a2 (-1))) = 0 → (Ev layM M_X12_earliestOf d 0 [(0, ev_r 0), (1, ev_i a1), (2, ev_i a3), (3, ev_i a5)] [] s (ev_pi (fun r3 s2 => Ev layM M_X12_findsSets (d + 1) 80 [(0, ev_r 0), (1, ev_i a1), (2, ev_i a2), (3, ev_i a3), (4, ev_i a4), (5, ev_i a5)] [ev_i r3, ev_i (ev_add (ev_mul 10 a3) a5), ev_r 32] s2 Q)))))) ∧ ((ev_and (ev_shr a3 a5) 1) = 0 → Ev layM M_X12_findsSets (d + 1) 26 [(0, ev_r 0), (1, ev_i a1), (2, ev_i a2), (3, ev_i a3), (4, ev_i a4), (5, ev_i (ev_add a5 1))] [] s Q))))) :
    Ev layM M_X12_findsSets (d + 1) 26 [(0, ev_r 0), (1, ev_i a1), (2, ev_i a2), (3, ev_i a3), (4, ev_i a4), (5, ev_i a5)] [] s Q := by
  refine Ev_iload 5 dX12_findsSets_26 rfl ?_
  refine Ev_aload_n 0 dX12_findsSets_28 rfl rfl ?_
  refine Ev_get (i := 46) cl_X12 yM_0 (Nat.le_of_ble_eq_true rfl) rfl wd_1490 dX12_findsSets_29 ?_
  refine Ev_icmp_ge (tgt := 108) dX12_findsSets_32 rfl (fun c => ?_) (fun c => ?_)
  · replace h := h.1 c
    refine Ev_aload_n 0 dX12_findsSets_108 rfl rfl ?_
    refine Ev_getR (i := 54) cl_X12 yM_0 (Nat.le_of_ble_eq_true rfl) rfl wd_1498 dX12_findsSets_109 ?_
    refine Ev_sipushC dX12_findsSets_112 rfl ?_
    refine Ev_iload_n 1 dX12_findsSets_115 rfl rfl ?_
    refine Ev_imul dX12_findsSets_116 ?_
    refine Ev_iload_n 3 dX12_findsSets_117 rfl rfl ?_
    refine Ev_iadd dX12_findsSets_118 ?_
    refine Ev_iload 4 dX12_findsSets_119 rfl ?_
    obtain ⟨h0, h⟩ := h
    refine Ev_zast yM_31 h0 dX12_findsSets_121 (Ev_nm (fun s1 es1 => ?_))
    replace h := h s1 es1
    refine Ev_iinc (j := 3) (l' := [(3, ev_i (ev_add a3 1)), (0, ev_r 0), (1, ev_i a1), (2, ev_i a2), (4, ev_i a4), (5, ev_i a5)]) dX12_findsSets_122 rfl (Nat.le_of_ble_eq_true rfl) rfl ?_
    refine Ev_goto (tgt := 2) dX12_findsSets_125 rfl ?_
    exact Ev_sub [1, 2, 3, 0] rfl h
  · replace h := h.2 c
    refine Ev_iload_n 3 dX12_findsSets_35 rfl rfl ?_
    refine Ev_iload 5 dX12_findsSets_36 rfl ?_
    refine Ev_ishr dX12_findsSets_38 ?_
    refine Ev_iconst dX12_findsSets_39 rfl (ev_Rc rfl) ?_
    refine Ev_iand dX12_findsSets_40 ?_
    refine Ev_if_ne (tgt := 47) dX12_findsSets_41 rfl (fun c => ?_) (fun c => ?_)
    · replace h := h.1 c
      refine Ev_aload_n 0 dX12_findsSets_47 rfl rfl ?_
      refine Ev_getR (i := 55) cl_X12 yM_0 (Nat.le_of_ble_eq_true rfl) rfl wd_1499 dX12_findsSets_48 ?_
      refine Ev_bipushC dX12_findsSets_51 rfl ?_
      refine Ev_iload_n 3 dX12_findsSets_53 rfl rfl ?_
      refine Ev_imul dX12_findsSets_54 ?_
      refine Ev_iload 5 dX12_findsSets_55 rfl ?_
      refine Ev_iadd dX12_findsSets_57 ?_
      refine Ev_iload_n 3 dX12_findsSets_58 rfl rfl ?_
      refine Ev_iload_n 2 dX12_findsSets_59 rfl rfl ?_
      refine Ev_iconst dX12_findsSets_60 rfl (ev_Rc rfl) ?_
      refine Ev_ixor dX12_findsSets_61 ?_
      refine Ev_iand dX12_findsSets_62 ?_
      refine Ev_if_ne (tgt := 77) dX12_findsSets_63 rfl (fun c => ?_) (fun c => ?_)
      · replace h := h.1 c
        refine Ev_ldcw (z := 1000000) wd_2024 dX12_findsSets_77 rfl (ev_Rc rfl) ?_
        exact Ev_sub [0, 1, 2, 3, 4, 5] rfl h
      · replace h := h.2 c
        refine Ev_aload_n 0 dX12_findsSets_66 rfl rfl ?_
        refine Ev_iload_n 1 dX12_findsSets_67 rfl rfl ?_
        refine Ev_iload_n 3 dX12_findsSets_68 rfl rfl ?_
        refine Ev_iload 5 dX12_findsSets_69 rfl ?_
        refine Ev_callV (As := [ev_i a1, ev_i a3, ev_i a5]) (b := 0) (st := [ev_i (ev_add (ev_mul 10 a3) a5), ev_r 32]) (M' := M_X12_earliestOf) cm_X12_earliestOf wd_2016 wd_2018 wd_150 yM_0 cl_X12 rfl dX12_findsSets_71 (Nat.le_refl _) rfl (Nat.le_of_ble_eq_true rfl) (Nat.le_of_ble_eq_true rfl) h (fun v u h hk => ?_)
        obtain ⟨r3, rfl⟩ := hk
        obtain ⟨s2, rfl⟩ : ∃ x, x = u := ⟨_, rfl⟩
        replace h := h r3 rfl
        refine Ev_goto (tgt := 80) dX12_findsSets_74 rfl ?_
        exact Ev_sub [0, 1, 2, 3, 4, 5] rfl h
    · replace h := h.2 c
      refine Ev_goto (tgt := 102) dX12_findsSets_44 rfl ?_
      refine Ev_iinc (j := 5) (l' := [(5, ev_i (ev_add a5 1)), (0, ev_r 0), (1, ev_i a1), (2, ev_i a2), (3, ev_i a3), (4, ev_i a4)]) dX12_findsSets_102 rfl (Nat.le_of_ble_eq_true rfl) rfl ?_
      refine Ev_goto (tgt := 26) dX12_findsSets_105 rfl ?_
      exact Ev_sub [1, 2, 3, 4, 5, 0] rfl h
theorem wp_X12_findsSets_80 {d : Nat} {s : ev_S} {Q : Option ev_V → ev_S → Prop} {a1 a2 a3 a4 a5 t0 t1 : Int}
    (h : ((0 ≤ t1 ∧ t1 < (10240 : Nat)) ∧ ∀ s1, ev_up s 32 (Int.toNat t1) t0 = s1 → ((0 ≤ (ev_add (ev_mul 10 a3) a5) ∧ (ev_add (ev_mul 10 a3) a5) < (10240 : Nat)) ∧ (((s1 32 (Int.toNat (ev_add (ev_mul 10 a3) a5))) = 1000000 → Ev layM M_X12_findsSets (d + 1) 26 [(0, ev_r 0), (1, ev_i a1), (2, ev_i a2), (3, ev_i a3), (4, ev_i a4), (5, ev_i (ev_add a5 1))] [] s1 Q) ∧ ((s1 32 (Int.toNat (ev_add (ev_mul 10 a3) a5))) ≠ 1000000 → Ev layM M_X12_findsSets (d + 1) 26 [(0, ev_r 0), (1, ev_i a1), (2, ev_i a2), (3, ev_i a3), (4, ev_i 1), (5, ev_i (ev_add a5 1))] [] s1 Q))))) :
    Ev layM M_X12_findsSets (d + 1) 80 [(0, ev_r 0), (1, ev_i a1), (2, ev_i a2), (3, ev_i a3), (4, ev_i a4), (5, ev_i a5)] [ev_i t0, ev_i t1, ev_r 32] s Q := by
  obtain ⟨h0, h⟩ := h
  refine Ev_iast yM_32 h0 dX12_findsSets_80 (Ev_nm (fun s1 es1 => ?_))
  replace h := h s1 es1
  refine Ev_aload_n 0 dX12_findsSets_81 rfl rfl ?_
  refine Ev_getR (i := 55) cl_X12 yM_0 (Nat.le_of_ble_eq_true rfl) rfl wd_1499 dX12_findsSets_82 ?_
  refine Ev_bipushC dX12_findsSets_85 rfl ?_
  refine Ev_iload_n 3 dX12_findsSets_87 rfl rfl ?_
  refine Ev_imul dX12_findsSets_88 ?_
  refine Ev_iload 5 dX12_findsSets_89 rfl ?_
  refine Ev_iadd dX12_findsSets_91 ?_
  obtain ⟨h0, h⟩ := h
  refine Ev_iald yM_32 h0 dX12_findsSets_92 ?_
  refine Ev_ldcw (z := 1000000) wd_2024 dX12_findsSets_93 rfl (ev_Rc rfl) ?_
  refine Ev_icmp_eq (tgt := 102) dX12_findsSets_96 rfl (fun c => ?_) (fun c => ?_)
  · replace h := h.1 c
    refine Ev_iinc (j := 5) (l' := [(5, ev_i (ev_add a5 1)), (0, ev_r 0), (1, ev_i a1), (2, ev_i a2), (3, ev_i a3), (4, ev_i a4)]) dX12_findsSets_102 rfl (Nat.le_of_ble_eq_true rfl) rfl ?_
    refine Ev_goto (tgt := 26) dX12_findsSets_105 rfl ?_
    exact Ev_sub [1, 2, 3, 4, 5, 0] rfl h
  · replace h := h.2 c
    refine Ev_iconst dX12_findsSets_99 rfl (ev_Rc rfl) ?_
    refine Ev_istore (l' := [(4, ev_i 1), (0, ev_r 0), (1, ev_i a1), (2, ev_i a2), (3, ev_i a3), (5, ev_i a5)]) dX12_findsSets_100 (Nat.le_of_ble_eq_true rfl) rfl ?_
    refine Ev_iinc (j := 5) (l' := [(5, ev_i (ev_add a5 1)), (4, ev_i 1), (0, ev_r 0), (1, ev_i a1), (2, ev_i a2), (3, ev_i a3)]) dX12_findsSets_102 rfl (Nat.le_of_ble_eq_true rfl) rfl ?_
    refine Ev_goto (tgt := 26) dX12_findsSets_105 rfl ?_
    exact Ev_sub [2, 3, 4, 5, 1, 0] rfl h
theorem dX12_lowest_0 : decode cX12_lowest 0 = .ok (.iconst 0, 1) := by decide +kernel
theorem dX12_lowest_1 : decode cX12_lowest 1 = .ok (.istore_n 2, 1) := by decide +kernel
theorem dX12_lowest_2 : decode cX12_lowest 2 = .ok (.iload_n 1, 1) := by decide +kernel
theorem dX12_lowest_3 : decode cX12_lowest 3 = .ok (.iload_n 2, 1) := by decide +kernel
theorem dX12_lowest_4 : decode cX12_lowest 4 = .ok (.ishr, 1) := by decide +kernel
theorem dX12_lowest_5 : decode cX12_lowest 5 = .ok (.iconst 1, 1) := by decide +kernel
theorem dX12_lowest_6 : decode cX12_lowest 6 = .ok (.iand, 1) := by decide +kernel
theorem dX12_lowest_7 : decode cX12_lowest 7 = .ok (.ifCond .ne 10, 3) := by decide +kernel
theorem dX12_lowest_10 : decode cX12_lowest 10 = .ok (.iload_n 2, 1) := by decide +kernel
theorem dX12_lowest_11 : decode cX12_lowest 11 = .ok (.iconst 1, 1) := by decide +kernel
theorem dX12_lowest_12 : decode cX12_lowest 12 = .ok (.iadd, 1) := by decide +kernel
theorem dX12_lowest_13 : decode cX12_lowest 13 = .ok (.istore_n 2, 1) := by decide +kernel
theorem dX12_lowest_14 : decode cX12_lowest 14 = .ok (.goto (-12), 3) := by decide +kernel
theorem dX12_lowest_17 : decode cX12_lowest 17 = .ok (.iload_n 2, 1) := by decide +kernel
theorem dX12_lowest_18 : decode cX12_lowest 18 = .ok (.ireturn, 1) := by decide +kernel
theorem wp_X12_lowest_0 {d : Nat} {s : ev_S} {Q : Option ev_V → ev_S → Prop} {a1 : Int}
    (h : Ev layM M_X12_lowest d 2 [(1, ev_i a1), (2, ev_i 0)] [] s Q) :
    Ev layM M_X12_lowest d 0 [(0, ev_r 0), (1, ev_i a1)] [] s Q := by
  refine Ev_iconst dX12_lowest_0 rfl (ev_Rc rfl) ?_
  refine Ev_istore_n (l' := [(2, ev_i 0), (0, ev_r 0), (1, ev_i a1)]) dX12_lowest_1 rfl (Nat.le_of_ble_eq_true rfl) rfl ?_
  exact Ev_sub [2, 0] rfl h
theorem wp_X12_lowest_2 {d : Nat} {s : ev_S} {Q : Option ev_V → ev_S → Prop} {a1 a2 : Int}
    (h : (((ev_and (ev_shr a1 a2) 1) ≠ 0 → Q (some (ev_i a2)) s) ∧ ((ev_and (ev_shr a1 a2) 1) = 0 → Ev layM M_X12_lowest d 2 [(1, ev_i a1), (2, ev_i (ev_add a2 1))] [] s Q))) :
    Ev layM M_X12_lowest d 2 [(1, ev_i a1), (2, ev_i a2)] [] s Q := by
  refine Ev_iload_n 0 dX12_lowest_2 rfl rfl ?_
  refine Ev_iload_n 1 dX12_lowest_3 rfl rfl ?_
  refine Ev_ishr dX12_lowest_4 ?_
  refine Ev_iconst dX12_lowest_5 rfl (ev_Rc rfl) ?_
  refine Ev_iand dX12_lowest_6 ?_
  refine Ev_if_ne (tgt := 17) dX12_lowest_7 rfl (fun c => ?_) (fun c => ?_)
  · replace h := h.1 c
    refine Ev_iload_n 1 dX12_lowest_17 rfl rfl ?_
    exact Ev_iret rfl dX12_lowest_18 rfl h
  · replace h := h.2 c
    refine Ev_iload_n 1 dX12_lowest_10 rfl rfl ?_
    refine Ev_iconst dX12_lowest_11 rfl (ev_Rc rfl) ?_
    refine Ev_iadd dX12_lowest_12 ?_
    refine Ev_istore_n (l' := [(2, ev_i (ev_add a2 1)), (1, ev_i a1)]) dX12_lowest_13 rfl (Nat.le_of_ble_eq_true rfl) rfl ?_
    refine Ev_goto (tgt := 2) dX12_lowest_14 rfl ?_
    exact Ev_sub [1, 0] rfl h
theorem dX12_bestBy_0 : decode cX12_bestBy 0 = .ok (.aload_n 0, 1) := by decide +kernel
theorem dX12_bestBy_1 : decode cX12_bestBy 1 = .ok (.iload_n 1, 1) := by decide +kernel
theorem dX12_bestBy_2 : decode cX12_bestBy 2 = .ok (.invokevirtual 442, 3) := by decide +kernel
theorem dX12_bestBy_5 : decode cX12_bestBy 5 = .ok (.istore 4, 2) := by decide +kernel
theorem dX12_bestBy_7 : decode cX12_bestBy 7 = .ok (.iload_n 1, 1) := by decide +kernel
theorem dX12_bestBy_8 : decode cX12_bestBy 8 = .ok (.iload_n 1, 1) := by decide +kernel
theorem dX12_bestBy_9 : decode cX12_bestBy 9 = .ok (.iconst 1, 1) := by decide +kernel
theorem dX12_bestBy_10 : decode cX12_bestBy 10 = .ok (.isub, 1) := by decide +kernel
theorem dX12_bestBy_11 : decode cX12_bestBy 11 = .ok (.iand, 1) := by decide +kernel
theorem dX12_bestBy_12 : decode cX12_bestBy 12 = .ok (.istore 5, 2) := by decide +kernel
theorem dX12_bestBy_14 : decode cX12_bestBy 14 = .ok (.iload_n 3, 1) := by decide +kernel
theorem dX12_bestBy_15 : decode cX12_bestBy 15 = .ok (.iload_n 2, 1) := by decide +kernel
theorem dX12_bestBy_16 : decode cX12_bestBy 16 = .ok (.iconst (-1), 1) := by decide +kernel
theorem dX12_bestBy_17 : decode cX12_bestBy 17 = .ok (.ixor, 1) := by decide +kernel
theorem dX12_bestBy_18 : decode cX12_bestBy 18 = .ok (.iand, 1) := by decide +kernel
theorem dX12_bestBy_19 : decode cX12_bestBy 19 = .ok (.istore 6, 2) := by decide +kernel
theorem dX12_bestBy_21 : decode cX12_bestBy 21 = .ok (.aload_n 0, 1) := by decide +kernel
theorem dX12_bestBy_22 : decode cX12_bestBy 22 = .ok (.getfield 115, 3) := by decide +kernel
theorem dX12_bestBy_25 : decode cX12_bestBy 25 = .ok (.sipush 1024, 3) := by decide +kernel
theorem dX12_bestBy_28 : decode cX12_bestBy 28 = .ok (.iload 5, 2) := by decide +kernel
theorem dX12_bestBy_30 : decode cX12_bestBy 30 = .ok (.imul, 1) := by decide +kernel
theorem dX12_bestBy_31 : decode cX12_bestBy 31 = .ok (.iload_n 2, 1) := by decide +kernel
theorem dX12_bestBy_32 : decode cX12_bestBy 32 = .ok (.iadd, 1) := by decide +kernel
theorem dX12_bestBy_33 : decode cX12_bestBy 33 = .ok (.iaload, 1) := by decide +kernel
theorem dX12_bestBy_34 : decode cX12_bestBy 34 = .ok (.istore 7, 2) := by decide +kernel
theorem dX12_bestBy_36 : decode cX12_bestBy 36 = .ok (.iload 6, 2) := by decide +kernel
theorem dX12_bestBy_38 : decode cX12_bestBy 38 = .ok (.istore 8, 2) := by decide +kernel
theorem dX12_bestBy_40 : decode cX12_bestBy 40 = .ok (.iload 8, 2) := by decide +kernel
theorem dX12_bestBy_42 : decode cX12_bestBy 42 = .ok (.ifCond .le 77, 3) := by decide +kernel
theorem dX12_bestBy_45 : decode cX12_bestBy 45 = .ok (.aload_n 0, 1) := by decide +kernel
theorem dX12_bestBy_46 : decode cX12_bestBy 46 = .ok (.getfield 104, 3) := by decide +kernel
theorem dX12_bestBy_49 : decode cX12_bestBy 49 = .ok (.sipush 1024, 3) := by decide +kernel
theorem dX12_bestBy_52 : decode cX12_bestBy 52 = .ok (.iload 4, 2) := by decide +kernel
theorem dX12_bestBy_54 : decode cX12_bestBy 54 = .ok (.imul, 1) := by decide +kernel
theorem dX12_bestBy_55 : decode cX12_bestBy 55 = .ok (.iload 8, 2) := by decide +kernel
theorem dX12_bestBy_57 : decode cX12_bestBy 57 = .ok (.iadd, 1) := by decide +kernel
theorem dX12_bestBy_58 : decode cX12_bestBy 58 = .ok (.baload, 1) := by decide +kernel
theorem dX12_bestBy_59 : decode cX12_bestBy 59 = .ok (.ifCond .ne 6, 3) := by decide +kernel
theorem dX12_bestBy_62 : decode cX12_bestBy 62 = .ok (.goto 45, 3) := by decide +kernel
theorem dX12_bestBy_65 : decode cX12_bestBy 65 = .ok (.aload_n 0, 1) := by decide +kernel
theorem dX12_bestBy_66 : decode cX12_bestBy 66 = .ok (.getfield 111, 3) := by decide +kernel
theorem dX12_bestBy_69 : decode cX12_bestBy 69 = .ok (.iload 8, 2) := by decide +kernel
theorem dX12_bestBy_71 : decode cX12_bestBy 71 = .ok (.iaload, 1) := by decide +kernel
theorem dX12_bestBy_72 : decode cX12_bestBy 72 = .ok (.aload_n 0, 1) := by decide +kernel
theorem dX12_bestBy_73 : decode cX12_bestBy 73 = .ok (.getfield 115, 3) := by decide +kernel
theorem dX12_bestBy_76 : decode cX12_bestBy 76 = .ok (.sipush 1024, 3) := by decide +kernel
theorem dX12_bestBy_79 : decode cX12_bestBy 79 = .ok (.iload 5, 2) := by decide +kernel
theorem dX12_bestBy_81 : decode cX12_bestBy 81 = .ok (.imul, 1) := by decide +kernel
theorem dX12_bestBy_82 : decode cX12_bestBy 82 = .ok (.iload_n 2, 1) := by decide +kernel
theorem dX12_bestBy_83 : decode cX12_bestBy 83 = .ok (.iload 8, 2) := by decide +kernel
theorem dX12_bestBy_85 : decode cX12_bestBy 85 = .ok (.ior, 1) := by decide +kernel
theorem dX12_bestBy_86 : decode cX12_bestBy 86 = .ok (.iadd, 1) := by decide +kernel
theorem dX12_bestBy_87 : decode cX12_bestBy 87 = .ok (.iaload, 1) := by decide +kernel
theorem dX12_bestBy_88 : decode cX12_bestBy 88 = .ok (.iadd, 1) := by decide +kernel
theorem dX12_bestBy_89 : decode cX12_bestBy 89 = .ok (.istore 9, 2) := by decide +kernel
theorem dX12_bestBy_91 : decode cX12_bestBy 91 = .ok (.iload 9, 2) := by decide +kernel
theorem dX12_bestBy_93 : decode cX12_bestBy 93 = .ok (.iload 7, 2) := by decide +kernel
theorem dX12_bestBy_95 : decode cX12_bestBy 95 = .ok (.if_icmp .le 8, 3) := by decide +kernel
theorem dX12_bestBy_98 : decode cX12_bestBy 98 = .ok (.iload 9, 2) := by decide +kernel
theorem dX12_bestBy_100 : decode cX12_bestBy 100 = .ok (.goto 5, 3) := by decide +kernel
theorem dX12_bestBy_103 : decode cX12_bestBy 103 = .ok (.iload 7, 2) := by decide +kernel
theorem dX12_bestBy_105 : decode cX12_bestBy 105 = .ok (.istore 7, 2) := by decide +kernel
theorem dX12_bestBy_107 : decode cX12_bestBy 107 = .ok (.iload 8, 2) := by decide +kernel
theorem dX12_bestBy_109 : decode cX12_bestBy 109 = .ok (.iconst 1, 1) := by decide +kernel
theorem dX12_bestBy_110 : decode cX12_bestBy 110 = .ok (.isub, 1) := by decide +kernel
theorem dX12_bestBy_111 : decode cX12_bestBy 111 = .ok (.iload 6, 2) := by decide +kernel
theorem dX12_bestBy_113 : decode cX12_bestBy 113 = .ok (.iand, 1) := by decide +kernel
theorem dX12_bestBy_114 : decode cX12_bestBy 114 = .ok (.istore 8, 2) := by decide +kernel
theorem dX12_bestBy_116 : decode cX12_bestBy 116 = .ok (.goto (-76), 3) := by decide +kernel
theorem dX12_bestBy_119 : decode cX12_bestBy 119 = .ok (.iload 7, 2) := by decide +kernel
theorem dX12_bestBy_121 : decode cX12_bestBy 121 = .ok (.ireturn, 1) := by decide +kernel
theorem wp_X12_bestBy_0 {d : Nat} {s : ev_S} {Q : Option ev_V → ev_S → Prop} {a1 a2 a3 : Int}
    (h : (Ev layM M_X12_lowest d 0 [(0, ev_r 0), (1, ev_i a1)] [] s (ev_pi (fun r2 s1 => ((0 ≤ (ev_add (ev_mul 1024 (ev_and a1 (ev_sub a1 1))) a2) ∧ (ev_add (ev_mul 1024 (ev_and a1 (ev_sub a1 1))) a2) < (65536 : Nat)) ∧ Ev layM M_X12_bestBy (d + 1) 40 [(0, ev_r 0), (2, ev_i a2), (4, ev_i r2), (5, ev_i (ev_and a1 (ev_sub a1 1))), (6, ev_i (ev_and a3 (ev_xor a2 (-1)))), (7, ev_i (s1 34 (Int.toNat (ev_add (ev_mul 1024 (ev_and a1 (ev_sub a1 1))) a2)))), (8, ev_i (ev_and a3 (ev_xor a2 (-1))))] [] s1 Q))))) :
    Ev layM M_X12_bestBy (d + 1) 0 [(0, ev_r 0), (1, ev_i a1), (2, ev_i a2), (3, ev_i a3)] [] s Q := by
  refine Ev_aload_n 0 dX12_bestBy_0 rfl rfl ?_
  refine Ev_iload_n 1 dX12_bestBy_1 rfl rfl ?_
  refine Ev_callV (As := [ev_i a1]) (b := 0) (st := []) (M' := M_X12_lowest) cm_X12_lowest wd_2033 wd_2035 wd_154 yM_0 cl_X12 rfl dX12_bestBy_2 (Nat.le_refl _) rfl (Nat.le_of_ble_eq_true rfl) (Nat.le_of_ble_eq_true rfl) h (fun v u h hk => ?_)
  obtain ⟨r2, rfl⟩ := hk
  obtain ⟨s1, rfl⟩ : ∃ x, x = u := ⟨_, rfl⟩
  replace h := h r2 rfl
  refine Ev_istore (l' := [(4, ev_i r2), (0, ev_r 0), (1, ev_i a1), (2, ev_i a2), (3, ev_i a3)]) dX12_bestBy_5 (Nat.le_of_ble_eq_true rfl) rfl ?_
  refine Ev_iload_n 2 dX12_bestBy_7 rfl rfl ?_
  refine Ev_iload_n 2 dX12_bestBy_8 rfl rfl ?_
  refine Ev_iconst dX12_bestBy_9 rfl (ev_Rc rfl) ?_
  refine Ev_isub dX12_bestBy_10 ?_
  refine Ev_iand dX12_bestBy_11 ?_
  refine Ev_istore (l' := [(5, ev_i (ev_and a1 (ev_sub a1 1))), (4, ev_i r2), (0, ev_r 0), (1, ev_i a1), (2, ev_i a2), (3, ev_i a3)]) dX12_bestBy_12 (Nat.le_of_ble_eq_true rfl) rfl ?_
  refine Ev_iload_n 5 dX12_bestBy_14 rfl rfl ?_
  refine Ev_iload_n 4 dX12_bestBy_15 rfl rfl ?_
  refine Ev_iconst dX12_bestBy_16 rfl (ev_Rc rfl) ?_
  refine Ev_ixor dX12_bestBy_17 ?_
  refine Ev_iand dX12_bestBy_18 ?_
  refine Ev_istore (l' := [(6, ev_i (ev_and a3 (ev_xor a2 (-1)))), (5, ev_i (ev_and a1 (ev_sub a1 1))), (4, ev_i r2), (0, ev_r 0), (1, ev_i a1), (2, ev_i a2), (3, ev_i a3)]) dX12_bestBy_19 (Nat.le_of_ble_eq_true rfl) rfl ?_
  refine Ev_aload_n 3 dX12_bestBy_21 rfl rfl ?_
  refine Ev_getR (i := 57) cl_X12 yM_0 (Nat.le_of_ble_eq_true rfl) rfl wd_1501 dX12_bestBy_22 ?_
  refine Ev_sipushC dX12_bestBy_25 rfl ?_
  refine Ev_iload 1 dX12_bestBy_28 rfl ?_
  refine Ev_imul dX12_bestBy_30 ?_
  refine Ev_iload_n 5 dX12_bestBy_31 rfl rfl ?_
  refine Ev_iadd dX12_bestBy_32 ?_
  obtain ⟨h0, h⟩ := h
  refine Ev_iald yM_34 h0 dX12_bestBy_33 ?_
  refine Ev_istore (l' := [(7, ev_i (s1 34 (Int.toNat (ev_add (ev_mul 1024 (ev_and a1 (ev_sub a1 1))) a2)))), (6, ev_i (ev_and a3 (ev_xor a2 (-1)))), (5, ev_i (ev_and a1 (ev_sub a1 1))), (4, ev_i r2), (0, ev_r 0), (1, ev_i a1), (2, ev_i a2), (3, ev_i a3)]) dX12_bestBy_34 (Nat.le_of_ble_eq_true rfl) rfl ?_
  refine Ev_iload 1 dX12_bestBy_36 rfl ?_
  refine Ev_istore (l' := [(8, ev_i (ev_and a3 (ev_xor a2 (-1)))), (7, ev_i (s1 34 (Int.toNat (ev_add (ev_mul 1024 (ev_and a1 (ev_sub a1 1))) a2)))), (6, ev_i (ev_and a3 (ev_xor a2 (-1)))), (5, ev_i (ev_and a1 (ev_sub a1 1))), (4, ev_i r2), (0, ev_r 0), (1, ev_i a1), (2, ev_i a2), (3, ev_i a3)]) dX12_bestBy_38 (Nat.le_of_ble_eq_true rfl) rfl ?_
  exact Ev_sub [5, 7, 4, 3, 2, 1, 0] rfl h
theorem wp_X12_bestBy_40 {d : Nat} {s : ev_S} {Q : Option ev_V → ev_S → Prop} {a2 a4 a5 a6 a7 a8 : Int}
    (h : ((a8 ≤ 0 → Q (some (ev_i a7)) s) ∧ (0 < a8 → ((0 ≤ (ev_add (ev_mul 1024 a4) a8) ∧ (ev_add (ev_mul 1024 a4) a8) < (6144 : Nat)) ∧ (((s 31 (Int.toNat (ev_add (ev_mul 1024 a4) a8))) ≠ 0 → ((0 ≤ a8 ∧ a8 < (1024 : Nat)) ∧ ((0 ≤ (ev_add (ev_mul 1024 a5) (ev_or a2 a8)) ∧ (ev_add (ev_mul 1024 a5) (ev_or a2 a8)) < (65536 : Nat)) ∧ (((ev_add (s 33 (Int.toNat a8)) (s 34 (Int.toNat (ev_add (ev_mul 1024 a5) (ev_or a2 a8))))) ≤ a7 → Ev layM M_X12_bestBy (d + 1) 40 [(0, ev_r 0), (2, ev_i a2), (4, ev_i a4), (5, ev_i a5), (6, ev_i a6), (7, ev_i a7), (8, ev_i (ev_and (ev_sub a8 1) a6))] [] s Q) ∧ (a7 < (ev_add (s 33 (Int.toNat a8)) (s 34 (Int.toNat (ev_add (ev_mul 1024 a5) (ev_or a2 a8))))) → Ev layM M_X12_bestBy (d + 1) 40 [(0, ev_r 0), (2, ev_i a2), (4, ev_i a4), (5, ev_i a5), (6, ev_i a6), (7, ev_i (ev_add (s 33 (Int.toNat a8)) (s 34 (Int.toNat (ev_add (ev_mul 1024 a5) (ev_or a2 a8)))))), (8, ev_i (ev_and (ev_sub a8 1) a6))] [] s Q))))) ∧ ((s 31 (Int.toNat (ev_add (ev_mul 1024 a4) a8))) = 0 → Ev layM M_X12_bestBy (d + 1) 40 [(0, ev_r 0), (2, ev_i a2), (4, ev_i a4), (5, ev_i a5), (6, ev_i a6), (7, ev_i a7), (8, ev_i (ev_and (ev_sub a8 1) a6))] [] s Q)))))) :
    Ev layM M_X12_bestBy (d + 1) 40 [(0, ev_r 0), (2, ev_i a2), (4, ev_i a4), (5, ev_i a5), (6, ev_i a6), (7, ev_i a7), (8, ev_i a8)] [] s Q := by
  refine Ev_iload 6 dX12_bestBy_40 rfl ?_
  refine Ev_if_le (tgt := 119) dX12_bestBy_42 rfl (fun c => ?_) (fun c => ?_)
  · replace h := h.1 c
    refine Ev_iload 5 dX12_bestBy_119 rfl ?_
    exact Ev_iret rfl dX12_bestBy_121 rfl h
  · replace h := h.2 c
    refine Ev_aload_n 0 dX12_bestBy_45 rfl rfl ?_
    refine Ev_getR (i := 54) cl_X12 yM_0 (Nat.le_of_ble_eq_true rfl) rfl wd_1498 dX12_bestBy_46 ?_
    refine Ev_sipushC dX12_bestBy_49 rfl ?_
    refine Ev_iload 2 dX12_bestBy_52 rfl ?_
    refine Ev_imul dX12_bestBy_54 ?_
    refine Ev_iload 6 dX12_bestBy_55 rfl ?_
    refine Ev_iadd dX12_bestBy_57 ?_
    obtain ⟨h0, h⟩ := h
    refine Ev_zald yM_31 h0 dX12_bestBy_58 ?_
    refine Ev_if_ne (tgt := 65) dX12_bestBy_59 rfl (fun c => ?_) (fun c => ?_)
    · replace h := h.1 c
      refine Ev_aload_n 0 dX12_bestBy_65 rfl rfl ?_
      refine Ev_getR (i := 56) cl_X12 yM_0 (Nat.le_of_ble_eq_true rfl) rfl wd_1500 dX12_bestBy_66 ?_
      refine Ev_iload 6 dX12_bestBy_69 rfl ?_
      obtain ⟨h0, h⟩ := h
      refine Ev_iald yM_33 h0 dX12_bestBy_71 ?_
      refine Ev_aload_n 0 dX12_bestBy_72 rfl rfl ?_
      refine Ev_getR (i := 57) cl_X12 yM_0 (Nat.le_of_ble_eq_true rfl) rfl wd_1501 dX12_bestBy_73 ?_
      refine Ev_sipushC dX12_bestBy_76 rfl ?_
      refine Ev_iload 3 dX12_bestBy_79 rfl ?_
      refine Ev_imul dX12_bestBy_81 ?_
      refine Ev_iload_n 1 dX12_bestBy_82 rfl rfl ?_
      refine Ev_iload 6 dX12_bestBy_83 rfl ?_
      refine Ev_ior dX12_bestBy_85 ?_
      refine Ev_iadd dX12_bestBy_86 ?_
      obtain ⟨h0, h⟩ := h
      refine Ev_iald yM_34 h0 dX12_bestBy_87 ?_
      refine Ev_iadd dX12_bestBy_88 ?_
      refine Ev_istore (l' := [(9, ev_i (ev_add (s 33 (Int.toNat a8)) (s 34 (Int.toNat (ev_add (ev_mul 1024 a5) (ev_or a2 a8)))))), (0, ev_r 0), (2, ev_i a2), (4, ev_i a4), (5, ev_i a5), (6, ev_i a6), (7, ev_i a7), (8, ev_i a8)]) dX12_bestBy_89 (Nat.le_of_ble_eq_true rfl) rfl ?_
      refine Ev_iload 0 dX12_bestBy_91 rfl ?_
      refine Ev_iload 6 dX12_bestBy_93 rfl ?_
      refine Ev_icmp_le (tgt := 103) dX12_bestBy_95 rfl (fun c => ?_) (fun c => ?_)
      · replace h := h.1 c
        refine Ev_iload 6 dX12_bestBy_103 rfl ?_
        refine Ev_istore (l' := [(7, ev_i a7), (9, ev_i (ev_add (s 33 (Int.toNat a8)) (s 34 (Int.toNat (ev_add (ev_mul 1024 a5) (ev_or a2 a8)))))), (0, ev_r 0), (2, ev_i a2), (4, ev_i a4), (5, ev_i a5), (6, ev_i a6), (8, ev_i a8)]) dX12_bestBy_105 (Nat.le_of_ble_eq_true rfl) rfl ?_
        refine Ev_iload 7 dX12_bestBy_107 rfl ?_
        refine Ev_iconst dX12_bestBy_109 rfl (ev_Rc rfl) ?_
        refine Ev_isub dX12_bestBy_110 ?_
        refine Ev_iload 6 dX12_bestBy_111 rfl ?_
        refine Ev_iand dX12_bestBy_113 ?_
        refine Ev_istore (l' := [(8, ev_i (ev_and (ev_sub a8 1) a6)), (7, ev_i a7), (9, ev_i (ev_add (s 33 (Int.toNat a8)) (s 34 (Int.toNat (ev_add (ev_mul 1024 a5) (ev_or a2 a8)))))), (0, ev_r 0), (2, ev_i a2), (4, ev_i a4), (5, ev_i a5), (6, ev_i a6)]) dX12_bestBy_114 (Nat.le_of_ble_eq_true rfl) rfl ?_
        refine Ev_goto (tgt := 40) dX12_bestBy_116 rfl ?_
        exact Ev_sub [3, 4, 5, 6, 7, 1, 0] rfl h
      · replace h := h.2 c
        refine Ev_iload 0 dX12_bestBy_98 rfl ?_
        refine Ev_goto (tgt := 105) dX12_bestBy_100 rfl ?_
        refine Ev_istore (l' := [(7, ev_i (ev_add (s 33 (Int.toNat a8)) (s 34 (Int.toNat (ev_add (ev_mul 1024 a5) (ev_or a2 a8)))))), (9, ev_i (ev_add (s 33 (Int.toNat a8)) (s 34 (Int.toNat (ev_add (ev_mul 1024 a5) (ev_or a2 a8)))))), (0, ev_r 0), (2, ev_i a2), (4, ev_i a4), (5, ev_i a5), (6, ev_i a6), (8, ev_i a8)]) dX12_bestBy_105 (Nat.le_of_ble_eq_true rfl) rfl ?_
        refine Ev_iload 7 dX12_bestBy_107 rfl ?_
        refine Ev_iconst dX12_bestBy_109 rfl (ev_Rc rfl) ?_
        refine Ev_isub dX12_bestBy_110 ?_
        refine Ev_iload 6 dX12_bestBy_111 rfl ?_
        refine Ev_iand dX12_bestBy_113 ?_
        refine Ev_istore (l' := [(8, ev_i (ev_and (ev_sub a8 1) a6)), (7, ev_i (ev_add (s 33 (Int.toNat a8)) (s 34 (Int.toNat (ev_add (ev_mul 1024 a5) (ev_or a2 a8)))))), (9, ev_i (ev_add (s 33 (Int.toNat a8)) (s 34 (Int.toNat (ev_add (ev_mul 1024 a5) (ev_or a2 a8)))))), (0, ev_r 0), (2, ev_i a2), (4, ev_i a4), (5, ev_i a5), (6, ev_i a6)]) dX12_bestBy_114 (Nat.le_of_ble_eq_true rfl) rfl ?_
        refine Ev_goto (tgt := 40) dX12_bestBy_116 rfl ?_
        exact Ev_sub [3, 4, 5, 6, 7, 1, 0] rfl h
    · replace h := h.2 c
      refine Ev_goto (tgt := 107) dX12_bestBy_62 rfl ?_
      refine Ev_iload 6 dX12_bestBy_107 rfl ?_
      refine Ev_iconst dX12_bestBy_109 rfl (ev_Rc rfl) ?_
      refine Ev_isub dX12_bestBy_110 ?_
      refine Ev_iload 4 dX12_bestBy_111 rfl ?_
      refine Ev_iand dX12_bestBy_113 ?_
      refine Ev_istore (l' := [(8, ev_i (ev_and (ev_sub a8 1) a6)), (0, ev_r 0), (2, ev_i a2), (4, ev_i a4), (5, ev_i a5), (6, ev_i a6), (7, ev_i a7)]) dX12_bestBy_114 (Nat.le_of_ble_eq_true rfl) rfl ?_
      refine Ev_goto (tgt := 40) dX12_bestBy_116 rfl ?_
      exact Ev_sub [1, 2, 3, 4, 5, 6, 0] rfl h
theorem dX12_findsAll_0 : decode cX12_findsAll 0 = .ok (.aload_n 0, 1) := by decide +kernel
theorem dX12_findsAll_1 : decode cX12_findsAll 1 = .ok (.invokevirtual 445, 3) := by decide +kernel
theorem dX12_findsAll_4 : decode cX12_findsAll 4 = .ok (.aload_n 0, 1) := by decide +kernel
theorem dX12_findsAll_5 : decode cX12_findsAll 5 = .ok (.invokevirtual 448, 3) := by decide +kernel
theorem dX12_findsAll_8 : decode cX12_findsAll 8 = .ok (.istore_n 1, 1) := by decide +kernel
theorem dX12_findsAll_9 : decode cX12_findsAll 9 = .ok (.iconst 0, 1) := by decide +kernel
theorem dX12_findsAll_10 : decode cX12_findsAll 10 = .ok (.istore_n 2, 1) := by decide +kernel
theorem dX12_findsAll_11 : decode cX12_findsAll 11 = .ok (.iload_n 2, 1) := by decide +kernel
theorem dX12_findsAll_12 : decode cX12_findsAll 12 = .ok (.iconst 1, 1) := by decide +kernel
theorem dX12_findsAll_13 : decode cX12_findsAll 13 = .ok (.aload_n 0, 1) := by decide +kernel
theorem dX12_findsAll_14 : decode cX12_findsAll 14 = .ok (.getfield 165, 3) := by decide +kernel
theorem dX12_findsAll_17 : decode cX12_findsAll 17 = .ok (.ishl, 1) := by decide +kernel
theorem dX12_findsAll_18 : decode cX12_findsAll 18 = .ok (.if_icmp .ge 66, 3) := by decide +kernel
theorem dX12_findsAll_21 : decode cX12_findsAll 21 = .ok (.aload_n 0, 1) := by decide +kernel
theorem dX12_findsAll_22 : decode cX12_findsAll 22 = .ok (.getfield 111, 3) := by decide +kernel
theorem dX12_findsAll_25 : decode cX12_findsAll 25 = .ok (.iload_n 2, 1) := by decide +kernel
theorem dX12_findsAll_26 : decode cX12_findsAll 26 = .ok (.iconst 0, 1) := by decide +kernel
theorem dX12_findsAll_27 : decode cX12_findsAll 27 = .ok (.iastore, 1) := by decide +kernel
theorem dX12_findsAll_28 : decode cX12_findsAll 28 = .ok (.aload_n 0, 1) := by decide +kernel
theorem dX12_findsAll_29 : decode cX12_findsAll 29 = .ok (.getfield 115, 3) := by decide +kernel
theorem dX12_findsAll_32 : decode cX12_findsAll 32 = .ok (.iload_n 2, 1) := by decide +kernel
theorem dX12_findsAll_33 : decode cX12_findsAll 33 = .ok (.iconst 0, 1) := by decide +kernel
theorem dX12_findsAll_34 : decode cX12_findsAll 34 = .ok (.iastore, 1) := by decide +kernel
theorem dX12_findsAll_35 : decode cX12_findsAll 35 = .ok (.iconst 0, 1) := by decide +kernel
theorem dX12_findsAll_36 : decode cX12_findsAll 36 = .ok (.istore_n 3, 1) := by decide +kernel
theorem dX12_findsAll_37 : decode cX12_findsAll 37 = .ok (.iload_n 3, 1) := by decide +kernel
theorem dX12_findsAll_38 : decode cX12_findsAll 38 = .ok (.aload_n 0, 1) := by decide +kernel
theorem dX12_findsAll_39 : decode cX12_findsAll 39 = .ok (.getfield 165, 3) := by decide +kernel
theorem dX12_findsAll_42 : decode cX12_findsAll 42 = .ok (.if_icmp .ge 36, 3) := by decide +kernel
theorem dX12_findsAll_45 : decode cX12_findsAll 45 = .ok (.iload_n 2, 1) := by decide +kernel
theorem dX12_findsAll_46 : decode cX12_findsAll 46 = .ok (.iload_n 3, 1) := by decide +kernel
theorem dX12_findsAll_47 : decode cX12_findsAll 47 = .ok (.ishr, 1) := by decide +kernel
theorem dX12_findsAll_48 : decode cX12_findsAll 48 = .ok (.iconst 1, 1) := by decide +kernel
theorem dX12_findsAll_49 : decode cX12_findsAll 49 = .ok (.iand, 1) := by decide +kernel
theorem dX12_findsAll_50 : decode cX12_findsAll 50 = .ok (.iconst 1, 1) := by decide +kernel
theorem dX12_findsAll_51 : decode cX12_findsAll 51 = .ok (.if_icmp .ne 21, 3) := by decide +kernel
theorem dX12_findsAll_54 : decode cX12_findsAll 54 = .ok (.aload_n 0, 1) := by decide +kernel
theorem dX12_findsAll_55 : decode cX12_findsAll 55 = .ok (.getfield 111, 3) := by decide +kernel
theorem dX12_findsAll_58 : decode cX12_findsAll 58 = .ok (.iload_n 2, 1) := by decide +kernel
theorem dX12_findsAll_59 : decode cX12_findsAll 59 = .ok (.aload_n 0, 1) := by decide +kernel
theorem dX12_findsAll_60 : decode cX12_findsAll 60 = .ok (.getfield 111, 3) := by decide +kernel
theorem dX12_findsAll_63 : decode cX12_findsAll 63 = .ok (.iload_n 2, 1) := by decide +kernel
theorem dX12_findsAll_64 : decode cX12_findsAll 64 = .ok (.iaload, 1) := by decide +kernel
theorem dX12_findsAll_65 : decode cX12_findsAll 65 = .ok (.aload_n 0, 1) := by decide +kernel
theorem dX12_findsAll_66 : decode cX12_findsAll 66 = .ok (.iload_n 3, 1) := by decide +kernel
theorem dX12_findsAll_67 : decode cX12_findsAll 67 = .ok (.invokevirtual 432, 3) := by decide +kernel
theorem dX12_findsAll_70 : decode cX12_findsAll 70 = .ok (.iadd, 1) := by decide +kernel
theorem dX12_findsAll_71 : decode cX12_findsAll 71 = .ok (.iastore, 1) := by decide +kernel
theorem dX12_findsAll_72 : decode cX12_findsAll 72 = .ok (.iinc 3 1, 3) := by decide +kernel
theorem dX12_findsAll_75 : decode cX12_findsAll 75 = .ok (.goto (-38), 3) := by decide +kernel
theorem dX12_findsAll_78 : decode cX12_findsAll 78 = .ok (.iinc 2 1, 3) := by decide +kernel
theorem dX12_findsAll_81 : decode cX12_findsAll 81 = .ok (.goto (-70), 3) := by decide +kernel
theorem dX12_findsAll_84 : decode cX12_findsAll 84 = .ok (.iconst 0, 1) := by decide +kernel
theorem dX12_findsAll_85 : decode cX12_findsAll 85 = .ok (.istore_n 2, 1) := by decide +kernel
theorem dX12_findsAll_86 : decode cX12_findsAll 86 = .ok (.iload_n 2, 1) := by decide +kernel
theorem dX12_findsAll_87 : decode cX12_findsAll 87 = .ok (.aload_n 0, 1) := by decide +kernel
theorem dX12_findsAll_88 : decode cX12_findsAll 88 = .ok (.getfield 148, 3) := by decide +kernel
theorem dX12_findsAll_91 : decode cX12_findsAll 91 = .ok (.if_icmp .ge 15, 3) := by decide +kernel
theorem dX12_findsAll_94 : decode cX12_findsAll 94 = .ok (.aload_n 0, 1) := by decide +kernel
theorem dX12_findsAll_95 : decode cX12_findsAll 95 = .ok (.iload_n 2, 1) := by decide +kernel
theorem dX12_findsAll_96 : decode cX12_findsAll 96 = .ok (.iload_n 1, 1) := by decide +kernel
theorem dX12_findsAll_97 : decode cX12_findsAll 97 = .ok (.invokevirtual 451, 3) := by decide +kernel
theorem dX12_findsAll_100 : decode cX12_findsAll 100 = .ok (.iinc 2 1, 3) := by decide +kernel
theorem dX12_findsAll_103 : decode cX12_findsAll 103 = .ok (.goto (-17), 3) := by decide +kernel
theorem dX12_findsAll_106 : decode cX12_findsAll 106 = .ok (.iload_n 1, 1) := by decide +kernel
theorem dX12_findsAll_107 : decode cX12_findsAll 107 = .ok (.ireturn, 1) := by decide +kernel
theorem wp_X12_findsAll_0 {d : Nat} {s : ev_S} {Q : Option ev_V → ev_S → Prop}
    (h : (Ev layM M_X12_foresees d 0 [(0, ev_r 0)] [] s (fun _ s1 => (Ev layM M_X12_foreseenSet d 0 [(0, ev_r 0)] [] s1 (ev_pi (fun r3 s2 => Ev layM M_X12_findsAll (d + 1) 11 [(0, ev_r 0), (1, ev_i r3), (2, ev_i 0)] [] s2 Q)))))) :
    Ev layM M_X12_findsAll (d + 1) 0 [(0, ev_r 0)] [] s Q := by
  refine Ev_aload_n 0 dX12_findsAll_0 rfl rfl ?_
  refine Ev_callV (As := []) (b := 0) (st := []) (M' := M_X12_foresees) cm_X12_foresees wd_2004 wd_2006 wd_147 yM_0 cl_X12 rfl dX12_findsAll_1 (Nat.le_refl _) rfl (Nat.le_of_ble_eq_true rfl) (Nat.le_of_ble_eq_true rfl) h (fun v u h hk => ?_)
  cases hk
  obtain ⟨s1, rfl⟩ : ∃ x, x = u := ⟨_, rfl⟩
  refine Ev_aload_n 0 dX12_findsAll_4 rfl rfl ?_
  refine Ev_callV (As := []) (b := 0) (st := []) (M' := M_X12_foreseenSet) cm_X12_foreseenSet wd_2008 wd_2010 wd_148 yM_0 cl_X12 rfl dX12_findsAll_5 (Nat.le_refl _) rfl (Nat.le_of_ble_eq_true rfl) (Nat.le_of_ble_eq_true rfl) h (fun v u h hk => ?_)
  obtain ⟨r3, rfl⟩ := hk
  obtain ⟨s2, rfl⟩ : ∃ x, x = u := ⟨_, rfl⟩
  replace h := h r3 rfl
  refine Ev_istore_n (l' := [(1, ev_i r3), (0, ev_r 0)]) dX12_findsAll_8 rfl (Nat.le_of_ble_eq_true rfl) rfl ?_
  refine Ev_iconst dX12_findsAll_9 rfl (ev_Rc rfl) ?_
  refine Ev_istore_n (l' := [(2, ev_i 0), (1, ev_i r3), (0, ev_r 0)]) dX12_findsAll_10 rfl (Nat.le_of_ble_eq_true rfl) rfl ?_
  exact Ev_sub [2, 1, 0] rfl h
theorem wp_X12_findsAll_11 {d : Nat} {s : ev_S} {Q : Option ev_V → ev_S → Prop} {a1 a2 : Int}
    (h : (((ev_shl 1 (s 0 46)) ≤ a2 → Ev layM M_X12_findsAll (d + 1) 86 [(0, ev_r 0), (1, ev_i a1), (2, ev_i 0)] [] s Q) ∧ (a2 < (ev_shl 1 (s 0 46)) → ((0 ≤ a2 ∧ a2 < (1024 : Nat)) ∧ ∀ s1, ev_up s 33 (Int.toNat a2) 0 = s1 → ((0 ≤ a2 ∧ a2 < (65536 : Nat)) ∧ ∀ s2, ev_up s1 34 (Int.toNat a2) 0 = s2 → Ev layM M_X12_findsAll (d + 1) 37 [(0, ev_r 0), (1, ev_i a1), (2, ev_i a2), (3, ev_i 0)] [] s2 Q))))) :
    Ev layM M_X12_findsAll (d + 1) 11 [(0, ev_r 0), (1, ev_i a1), (2, ev_i a2)] [] s Q := by
  refine Ev_iload_n 2 dX12_findsAll_11 rfl rfl ?_
  refine Ev_iconst dX12_findsAll_12 rfl (ev_Rc rfl) ?_
  refine Ev_aload_n 0 dX12_findsAll_13 rfl rfl ?_
  refine Ev_get (i := 46) cl_X12 yM_0 (Nat.le_of_ble_eq_true rfl) rfl wd_1490 dX12_findsAll_14 ?_
  refine Ev_ishl dX12_findsAll_17 ?_
  refine Ev_icmp_ge (tgt := 84) dX12_findsAll_18 rfl (fun c => ?_) (fun c => ?_)
  · replace h := h.1 c
    refine Ev_iconst dX12_findsAll_84 rfl (ev_Rc rfl) ?_
    refine Ev_istore_n (l' := [(2, ev_i 0), (0, ev_r 0), (1, ev_i a1)]) dX12_findsAll_85 rfl (Nat.le_of_ble_eq_true rfl) rfl ?_
    exact Ev_sub [1, 2, 0] rfl h
  · replace h := h.2 c
    refine Ev_aload_n 0 dX12_findsAll_21 rfl rfl ?_
    refine Ev_getR (i := 56) cl_X12 yM_0 (Nat.le_of_ble_eq_true rfl) rfl wd_1500 dX12_findsAll_22 ?_
    refine Ev_iload_n 2 dX12_findsAll_25 rfl rfl ?_
    refine Ev_iconst dX12_findsAll_26 rfl (ev_Rc rfl) ?_
    obtain ⟨h0, h⟩ := h
    refine Ev_iast yM_33 h0 dX12_findsAll_27 (Ev_nm (fun s1 es1 => ?_))
    replace h := h s1 es1
    refine Ev_aload_n 0 dX12_findsAll_28 rfl rfl ?_
    refine Ev_getR (i := 57) cl_X12 yM_0 (Nat.le_of_ble_eq_true rfl) rfl wd_1501 dX12_findsAll_29 ?_
    refine Ev_iload_n 2 dX12_findsAll_32 rfl rfl ?_
    refine Ev_iconst dX12_findsAll_33 rfl (ev_Rc rfl) ?_
    obtain ⟨h0, h⟩ := h
    refine Ev_iast yM_34 h0 dX12_findsAll_34 (Ev_nm (fun s2 es2 => ?_))
    replace h := h s2 es2
    refine Ev_iconst dX12_findsAll_35 rfl (ev_Rc rfl) ?_
    refine Ev_istore_n (l' := [(3, ev_i 0), (0, ev_r 0), (1, ev_i a1), (2, ev_i a2)]) dX12_findsAll_36 rfl (Nat.le_of_ble_eq_true rfl) rfl ?_
    exact Ev_sub [1, 2, 3, 0] rfl h
theorem wp_X12_findsAll_37 {d : Nat} {s : ev_S} {Q : Option ev_V → ev_S → Prop} {a1 a2 a3 : Int}
    (h : (((s 0 46) ≤ a3 → Ev layM M_X12_findsAll (d + 1) 11 [(0, ev_r 0), (1, ev_i a1), (2, ev_i (ev_add a2 1))] [] s Q) ∧ (a3 < (s 0 46) → (((ev_and (ev_shr a2 a3) 1) ≠ 1 → Ev layM M_X12_findsAll (d + 1) 37 [(0, ev_r 0), (1, ev_i a1), (2, ev_i a2), (3, ev_i (ev_add a3 1))] [] s Q) ∧ ((ev_and (ev_shr a2 a3) 1) = 1 → ((0 ≤ a2 ∧ a2 < (1024 : Nat)) ∧ (Ev layM M_X12_riskOf d 0 [(0, ev_r 0), (1, ev_i a3)] [] s (ev_pi (fun r2 s1 => ((0 ≤ a2 ∧ a2 < (1024 : Nat)) ∧ ∀ s3, ev_up s1 33 (Int.toNat a2) (ev_add (s 33 (Int.toNat a2)) r2) = s3 → Ev layM M_X12_findsAll (d + 1) 37 [(0, ev_r 0), (1, ev_i a1), (2, ev_i a2), (3, ev_i (ev_add a3 1))] [] s3 Q)))))))))) :
    Ev layM M_X12_findsAll (d + 1) 37 [(0, ev_r 0), (1, ev_i a1), (2, ev_i a2), (3, ev_i a3)] [] s Q := by
  refine Ev_iload_n 3 dX12_findsAll_37 rfl rfl ?_
  refine Ev_aload_n 0 dX12_findsAll_38 rfl rfl ?_
  refine Ev_get (i := 46) cl_X12 yM_0 (Nat.le_of_ble_eq_true rfl) rfl wd_1490 dX12_findsAll_39 ?_
  refine Ev_icmp_ge (tgt := 78) dX12_findsAll_42 rfl (fun c => ?_) (fun c => ?_)
  · replace h := h.1 c
    refine Ev_iinc (j := 2) (l' := [(2, ev_i (ev_add a2 1)), (0, ev_r 0), (1, ev_i a1), (3, ev_i a3)]) dX12_findsAll_78 rfl (Nat.le_of_ble_eq_true rfl) rfl ?_
    refine Ev_goto (tgt := 11) dX12_findsAll_81 rfl ?_
    exact Ev_sub [1, 2, 0] rfl h
  · replace h := h.2 c
    refine Ev_iload_n 2 dX12_findsAll_45 rfl rfl ?_
    refine Ev_iload_n 3 dX12_findsAll_46 rfl rfl ?_
    refine Ev_ishr dX12_findsAll_47 ?_
    refine Ev_iconst dX12_findsAll_48 rfl (ev_Rc rfl) ?_
    refine Ev_iand dX12_findsAll_49 ?_
    refine Ev_iconst dX12_findsAll_50 rfl (ev_Rc rfl) ?_
    refine Ev_icmp_ne (tgt := 72) dX12_findsAll_51 rfl (fun c => ?_) (fun c => ?_)
    · replace h := h.1 c
      refine Ev_iinc (j := 3) (l' := [(3, ev_i (ev_add a3 1)), (0, ev_r 0), (1, ev_i a1), (2, ev_i a2)]) dX12_findsAll_72 rfl (Nat.le_of_ble_eq_true rfl) rfl ?_
      refine Ev_goto (tgt := 37) dX12_findsAll_75 rfl ?_
      exact Ev_sub [1, 2, 3, 0] rfl h
    · replace h := h.2 c
      refine Ev_aload_n 0 dX12_findsAll_54 rfl rfl ?_
      refine Ev_getR (i := 56) cl_X12 yM_0 (Nat.le_of_ble_eq_true rfl) rfl wd_1500 dX12_findsAll_55 ?_
      refine Ev_iload_n 2 dX12_findsAll_58 rfl rfl ?_
      refine Ev_aload_n 0 dX12_findsAll_59 rfl rfl ?_
      refine Ev_getR (i := 56) cl_X12 yM_0 (Nat.le_of_ble_eq_true rfl) rfl wd_1500 dX12_findsAll_60 ?_
      refine Ev_iload_n 2 dX12_findsAll_63 rfl rfl ?_
      obtain ⟨h0, h⟩ := h
      refine Ev_iald yM_33 h0 dX12_findsAll_64 ?_
      refine Ev_aload_n 0 dX12_findsAll_65 rfl rfl ?_
      refine Ev_iload_n 3 dX12_findsAll_66 rfl rfl ?_
      refine Ev_callV (As := [ev_i a3]) (b := 0) (st := [ev_i (s 33 (Int.toNat a2)), ev_i a2, ev_r 33]) (M' := M_X12_riskOf) cm_X12_riskOf wd_1984 wd_1986 wd_143 yM_0 cl_X12 rfl dX12_findsAll_67 (Nat.le_refl _) rfl (Nat.le_of_ble_eq_true rfl) (Nat.le_of_ble_eq_true rfl) h (fun v u h hk => ?_)
      obtain ⟨r2, rfl⟩ := hk
      obtain ⟨s1, rfl⟩ : ∃ x, x = u := ⟨_, rfl⟩
      replace h := h r2 rfl
      refine Ev_iadd dX12_findsAll_70 ?_
      obtain ⟨h0, h⟩ := h
      refine Ev_iast yM_33 h0 dX12_findsAll_71 (Ev_nm (fun s3 es3 => ?_))
      replace h := h s3 es3
      refine Ev_iinc (j := 3) (l' := [(3, ev_i (ev_add a3 1)), (0, ev_r 0), (1, ev_i a1), (2, ev_i a2)]) dX12_findsAll_72 rfl (Nat.le_of_ble_eq_true rfl) rfl ?_
      refine Ev_goto (tgt := 37) dX12_findsAll_75 rfl ?_
      exact Ev_sub [1, 2, 3, 0] rfl h
theorem wp_X12_findsAll_86 {d : Nat} {s : ev_S} {Q : Option ev_V → ev_S → Prop} {a1 a2 : Int}
    (h : (((s 0 11) ≤ a2 → Q (some (ev_i a1)) s) ∧ (a2 < (s 0 11) → (Ev layM M_X12_findsSets d 0 [(0, ev_r 0), (1, ev_i a2), (2, ev_i a1)] [] s (fun _ s1 => Ev layM M_X12_findsAll (d + 1) 86 [(0, ev_r 0), (1, ev_i a1), (2, ev_i (ev_add a2 1))] [] s1 Q))))) :
    Ev layM M_X12_findsAll (d + 1) 86 [(0, ev_r 0), (1, ev_i a1), (2, ev_i a2)] [] s Q := by
  refine Ev_iload_n 2 dX12_findsAll_86 rfl rfl ?_
  refine Ev_aload_n 0 dX12_findsAll_87 rfl rfl ?_
  refine Ev_get (i := 11) cl_X12 yM_0 (Nat.le_of_ble_eq_true rfl) rfl wd_1455 dX12_findsAll_88 ?_
  refine Ev_icmp_ge (tgt := 106) dX12_findsAll_91 rfl (fun c => ?_) (fun c => ?_)
  · replace h := h.1 c
    refine Ev_iload_n 1 dX12_findsAll_106 rfl rfl ?_
    exact Ev_iret rfl dX12_findsAll_107 rfl h
  · replace h := h.2 c
    refine Ev_aload_n 0 dX12_findsAll_94 rfl rfl ?_
    refine Ev_iload_n 2 dX12_findsAll_95 rfl rfl ?_
    refine Ev_iload_n 1 dX12_findsAll_96 rfl rfl ?_
    refine Ev_callV (As := [ev_i a2, ev_i a1]) (b := 0) (st := []) (M' := M_X12_findsSets) cm_X12_findsSets wd_2012 wd_2014 wd_149 yM_0 cl_X12 rfl dX12_findsAll_97 (Nat.le_refl _) rfl (Nat.le_of_ble_eq_true rfl) (Nat.le_of_ble_eq_true rfl) h (fun v u h hk => ?_)
    cases hk
    obtain ⟨s1, rfl⟩ : ∃ x, x = u := ⟨_, rfl⟩
    refine Ev_iinc (j := 2) (l' := [(2, ev_i (ev_add a2 1)), (0, ev_r 0), (1, ev_i a1)]) dX12_findsAll_100 rfl (Nat.le_of_ble_eq_true rfl) rfl ?_
    refine Ev_goto (tgt := 86) dX12_findsAll_103 rfl ?_
    exact Ev_sub [1, 2, 0] rfl h
theorem dX12_findsMost_0 : decode cX12_findsMost 0 = .ok (.iconst 1, 1) := by decide +kernel
theorem dX12_findsMost_1 : decode cX12_findsMost 1 = .ok (.istore_n 2, 1) := by decide +kernel
theorem dX12_findsMost_2 : decode cX12_findsMost 2 = .ok (.iload_n 2, 1) := by decide +kernel
theorem dX12_findsMost_3 : decode cX12_findsMost 3 = .ok (.iconst 1, 1) := by decide +kernel
theorem dX12_findsMost_4 : decode cX12_findsMost 4 = .ok (.aload_n 0, 1) := by decide +kernel
theorem dX12_findsMost_5 : decode cX12_findsMost 5 = .ok (.getfield 148, 3) := by decide +kernel
theorem dX12_findsMost_8 : decode cX12_findsMost 8 = .ok (.ishl, 1) := by decide +kernel
theorem dX12_findsMost_9 : decode cX12_findsMost 9 = .ok (.if_icmp .ge 54, 3) := by decide +kernel
theorem dX12_findsMost_12 : decode cX12_findsMost 12 = .ok (.iconst 0, 1) := by decide +kernel
theorem dX12_findsMost_13 : decode cX12_findsMost 13 = .ok (.istore_n 3, 1) := by decide +kernel
theorem dX12_findsMost_14 : decode cX12_findsMost 14 = .ok (.iload_n 3, 1) := by decide +kernel
theorem dX12_findsMost_15 : decode cX12_findsMost 15 = .ok (.iconst 1, 1) := by decide +kernel
theorem dX12_findsMost_16 : decode cX12_findsMost 16 = .ok (.aload_n 0, 1) := by decide +kernel
theorem dX12_findsMost_17 : decode cX12_findsMost 17 = .ok (.getfield 165, 3) := by decide +kernel
theorem dX12_findsMost_20 : decode cX12_findsMost 20 = .ok (.ishl, 1) := by decide +kernel
theorem dX12_findsMost_21 : decode cX12_findsMost 21 = .ok (.if_icmp .ge 36, 3) := by decide +kernel
theorem dX12_findsMost_24 : decode cX12_findsMost 24 = .ok (.iload_n 3, 1) := by decide +kernel
theorem dX12_findsMost_25 : decode cX12_findsMost 25 = .ok (.iload_n 1, 1) := by decide +kernel
theorem dX12_findsMost_26 : decode cX12_findsMost 26 = .ok (.iconst (-1), 1) := by decide +kernel
theorem dX12_findsMost_27 : decode cX12_findsMost 27 = .ok (.ixor, 1) := by decide +kernel
theorem dX12_findsMost_28 : decode cX12_findsMost 28 = .ok (.iand, 1) := by decide +kernel
theorem dX12_findsMost_29 : decode cX12_findsMost 29 = .ok (.ifCond .ne 22, 3) := by decide +kernel
theorem dX12_findsMost_32 : decode cX12_findsMost 32 = .ok (.aload_n 0, 1) := by decide +kernel
theorem dX12_findsMost_33 : decode cX12_findsMost 33 = .ok (.getfield 115, 3) := by decide +kernel
theorem dX12_findsMost_36 : decode cX12_findsMost 36 = .ok (.sipush 1024, 3) := by decide +kernel
theorem dX12_findsMost_39 : decode cX12_findsMost 39 = .ok (.iload_n 2, 1) := by decide +kernel
theorem dX12_findsMost_40 : decode cX12_findsMost 40 = .ok (.imul, 1) := by decide +kernel
theorem dX12_findsMost_41 : decode cX12_findsMost 41 = .ok (.iload_n 3, 1) := by decide +kernel
theorem dX12_findsMost_42 : decode cX12_findsMost 42 = .ok (.iadd, 1) := by decide +kernel
theorem dX12_findsMost_43 : decode cX12_findsMost 43 = .ok (.aload_n 0, 1) := by decide +kernel
theorem dX12_findsMost_44 : decode cX12_findsMost 44 = .ok (.iload_n 2, 1) := by decide +kernel
theorem dX12_findsMost_45 : decode cX12_findsMost 45 = .ok (.iload_n 3, 1) := by decide +kernel
theorem dX12_findsMost_46 : decode cX12_findsMost 46 = .ok (.iload_n 1, 1) := by decide +kernel
theorem dX12_findsMost_47 : decode cX12_findsMost 47 = .ok (.invokevirtual 454, 3) := by decide +kernel
theorem dX12_findsMost_50 : decode cX12_findsMost 50 = .ok (.iastore, 1) := by decide +kernel
theorem dX12_findsMost_51 : decode cX12_findsMost 51 = .ok (.iinc 3 1, 3) := by decide +kernel
theorem dX12_findsMost_54 : decode cX12_findsMost 54 = .ok (.goto (-40), 3) := by decide +kernel
theorem dX12_findsMost_57 : decode cX12_findsMost 57 = .ok (.iinc 2 1, 3) := by decide +kernel
theorem dX12_findsMost_60 : decode cX12_findsMost 60 = .ok (.goto (-58), 3) := by decide +kernel
theorem dX12_findsMost_63 : decode cX12_findsMost 63 = .ok (.return_, 1) := by decide +kernel
theorem wp_X12_findsMost_0 {d : Nat} {s : ev_S} {Q : Option ev_V → ev_S → Prop} {a1 : Int}
    (h : Ev layM M_X12_findsMost (d + 1) 2 [(0, ev_r 0), (1, ev_i a1), (2, ev_i 1)] [] s Q) :
    Ev layM M_X12_findsMost (d + 1) 0 [(0, ev_r 0), (1, ev_i a1)] [] s Q := by
  refine Ev_iconst dX12_findsMost_0 rfl (ev_Rc rfl) ?_
  refine Ev_istore_n (l' := [(2, ev_i 1), (0, ev_r 0), (1, ev_i a1)]) dX12_findsMost_1 rfl (Nat.le_of_ble_eq_true rfl) rfl ?_
  exact Ev_sub [1, 2, 0] rfl h
theorem wp_X12_findsMost_2 {d : Nat} {s : ev_S} {Q : Option ev_V → ev_S → Prop} {a1 a2 : Int}
    (h : (((ev_shl 1 (s 0 11)) ≤ a2 → Q none s) ∧ (a2 < (ev_shl 1 (s 0 11)) → Ev layM M_X12_findsMost (d + 1) 14 [(0, ev_r 0), (1, ev_i a1), (2, ev_i a2), (3, ev_i 0)] [] s Q))) :
    Ev layM M_X12_findsMost (d + 1) 2 [(0, ev_r 0), (1, ev_i a1), (2, ev_i a2)] [] s Q := by
  refine Ev_iload_n 2 dX12_findsMost_2 rfl rfl ?_
  refine Ev_iconst dX12_findsMost_3 rfl (ev_Rc rfl) ?_
  refine Ev_aload_n 0 dX12_findsMost_4 rfl rfl ?_
  refine Ev_get (i := 11) cl_X12 yM_0 (Nat.le_of_ble_eq_true rfl) rfl wd_1455 dX12_findsMost_5 ?_
  refine Ev_ishl dX12_findsMost_8 ?_
  refine Ev_icmp_ge (tgt := 63) dX12_findsMost_9 rfl (fun c => ?_) (fun c => ?_)
  · replace h := h.1 c
    exact Ev_vret rfl dX12_findsMost_63 h
  · replace h := h.2 c
    refine Ev_iconst dX12_findsMost_12 rfl (ev_Rc rfl) ?_
    refine Ev_istore_n (l' := [(3, ev_i 0), (0, ev_r 0), (1, ev_i a1), (2, ev_i a2)]) dX12_findsMost_13 rfl (Nat.le_of_ble_eq_true rfl) rfl ?_
    exact Ev_sub [1, 2, 3, 0] rfl h
theorem wp_X12_findsMost_14 {d : Nat} {s : ev_S} {Q : Option ev_V → ev_S → Prop} {a1 a2 a3 : Int}
    (h : (((ev_shl 1 (s 0 46)) ≤ a3 → Ev layM M_X12_findsMost (d + 1) 2 [(0, ev_r 0), (1, ev_i a1), (2, ev_i (ev_add a2 1))] [] s Q) ∧ (a3 < (ev_shl 1 (s 0 46)) → (((ev_and a3 (ev_xor a1 (-1))) ≠ 0 → Ev layM M_X12_findsMost (d + 1) 14 [(0, ev_r 0), (1, ev_i a1), (2, ev_i a2), (3, ev_i (ev_add a3 1))] [] s Q) ∧ ((ev_and a3 (ev_xor a1 (-1))) = 0 → (Ev layM M_X12_bestBy d 0 [(0, ev_r 0), (1, ev_i a2), (2, ev_i a3), (3, ev_i a1)] [] s (ev_pi (fun r2 s1 => ((0 ≤ (ev_add (ev_mul 1024 a2) a3) ∧ (ev_add (ev_mul 1024 a2) a3) < (65536 : Nat)) ∧ ∀ s3, ev_up s1 34 (Int.toNat (ev_add (ev_mul 1024 a2) a3)) r2 = s3 → Ev layM M_X12_findsMost (d + 1) 14 [(0, ev_r 0), (1, ev_i a1), (2, ev_i a2), (3, ev_i (ev_add a3 1))] [] s3 Q))))))))) :
    Ev layM M_X12_findsMost (d + 1) 14 [(0, ev_r 0), (1, ev_i a1), (2, ev_i a2), (3, ev_i a3)] [] s Q := by
  refine Ev_iload_n 3 dX12_findsMost_14 rfl rfl ?_
  refine Ev_iconst dX12_findsMost_15 rfl (ev_Rc rfl) ?_
  refine Ev_aload_n 0 dX12_findsMost_16 rfl rfl ?_
  refine Ev_get (i := 46) cl_X12 yM_0 (Nat.le_of_ble_eq_true rfl) rfl wd_1490 dX12_findsMost_17 ?_
  refine Ev_ishl dX12_findsMost_20 ?_
  refine Ev_icmp_ge (tgt := 57) dX12_findsMost_21 rfl (fun c => ?_) (fun c => ?_)
  · replace h := h.1 c
    refine Ev_iinc (j := 2) (l' := [(2, ev_i (ev_add a2 1)), (0, ev_r 0), (1, ev_i a1), (3, ev_i a3)]) dX12_findsMost_57 rfl (Nat.le_of_ble_eq_true rfl) rfl ?_
    refine Ev_goto (tgt := 2) dX12_findsMost_60 rfl ?_
    exact Ev_sub [1, 2, 0] rfl h
  · replace h := h.2 c
    refine Ev_iload_n 3 dX12_findsMost_24 rfl rfl ?_
    refine Ev_iload_n 1 dX12_findsMost_25 rfl rfl ?_
    refine Ev_iconst dX12_findsMost_26 rfl (ev_Rc rfl) ?_
    refine Ev_ixor dX12_findsMost_27 ?_
    refine Ev_iand dX12_findsMost_28 ?_
    refine Ev_if_ne (tgt := 51) dX12_findsMost_29 rfl (fun c => ?_) (fun c => ?_)
    · replace h := h.1 c
      refine Ev_iinc (j := 3) (l' := [(3, ev_i (ev_add a3 1)), (0, ev_r 0), (1, ev_i a1), (2, ev_i a2)]) dX12_findsMost_51 rfl (Nat.le_of_ble_eq_true rfl) rfl ?_
      refine Ev_goto (tgt := 14) dX12_findsMost_54 rfl ?_
      exact Ev_sub [1, 2, 3, 0] rfl h
    · replace h := h.2 c
      refine Ev_aload_n 0 dX12_findsMost_32 rfl rfl ?_
      refine Ev_getR (i := 57) cl_X12 yM_0 (Nat.le_of_ble_eq_true rfl) rfl wd_1501 dX12_findsMost_33 ?_
      refine Ev_sipushC dX12_findsMost_36 rfl ?_
      refine Ev_iload_n 2 dX12_findsMost_39 rfl rfl ?_
      refine Ev_imul dX12_findsMost_40 ?_
      refine Ev_iload_n 3 dX12_findsMost_41 rfl rfl ?_
      refine Ev_iadd dX12_findsMost_42 ?_
      refine Ev_aload_n 0 dX12_findsMost_43 rfl rfl ?_
      refine Ev_iload_n 2 dX12_findsMost_44 rfl rfl ?_
      refine Ev_iload_n 3 dX12_findsMost_45 rfl rfl ?_
      refine Ev_iload_n 1 dX12_findsMost_46 rfl rfl ?_
      refine Ev_callV (As := [ev_i a2, ev_i a3, ev_i a1]) (b := 0) (st := [ev_i (ev_add (ev_mul 1024 a2) a3), ev_r 34]) (M' := M_X12_bestBy) cm_X12_bestBy wd_2029 wd_2031 wd_153 yM_0 cl_X12 rfl dX12_findsMost_47 (Nat.le_refl _) rfl (Nat.le_of_ble_eq_true rfl) (Nat.le_of_ble_eq_true rfl) h (fun v u h hk => ?_)
      obtain ⟨r2, rfl⟩ := hk
      obtain ⟨s1, rfl⟩ : ∃ x, x = u := ⟨_, rfl⟩
      replace h := h r2 rfl
      obtain ⟨h0, h⟩ := h
      refine Ev_iast yM_34 h0 dX12_findsMost_50 (Ev_nm (fun s3 es3 => ?_))
      replace h := h s3 es3
      refine Ev_iinc (j := 3) (l' := [(3, ev_i (ev_add a3 1)), (0, ev_r 0), (1, ev_i a1), (2, ev_i a2)]) dX12_findsMost_51 rfl (Nat.le_of_ble_eq_true rfl) rfl ?_
      refine Ev_goto (tgt := 14) dX12_findsMost_54 rfl ?_
      exact Ev_sub [1, 2, 3, 0] rfl h
theorem dX12_everyone_0 : decode cX12_everyone 0 = .ok (.iconst 1, 1) := by decide +kernel
theorem dX12_everyone_1 : decode cX12_everyone 1 = .ok (.aload_n 0, 1) := by decide +kernel
theorem dX12_everyone_2 : decode cX12_everyone 2 = .ok (.getfield 148, 3) := by decide +kernel
theorem dX12_everyone_5 : decode cX12_everyone 5 = .ok (.ishl, 1) := by decide +kernel
theorem dX12_everyone_6 : decode cX12_everyone 6 = .ok (.iconst 1, 1) := by decide +kernel
theorem dX12_everyone_7 : decode cX12_everyone 7 = .ok (.isub, 1) := by decide +kernel
theorem dX12_everyone_8 : decode cX12_everyone 8 = .ok (.ireturn, 1) := by decide +kernel
theorem wp_X12_everyone_0 {d : Nat} {s : ev_S} {Q : Option ev_V → ev_S → Prop}
    (h : Q (some (ev_i (ev_sub (ev_shl 1 (s 0 11)) 1))) s) :
    Ev layM M_X12_everyone d 0 [(0, ev_r 0)] [] s Q := by
  refine Ev_iconst dX12_everyone_0 rfl (ev_Rc rfl) ?_
  refine Ev_aload_n 0 dX12_everyone_1 rfl rfl ?_
  refine Ev_get (i := 11) cl_X12 yM_0 (Nat.le_of_ble_eq_true rfl) rfl wd_1455 dX12_everyone_2 ?_
  refine Ev_ishl dX12_everyone_5 ?_
  refine Ev_iconst dX12_everyone_6 rfl (ev_Rc rfl) ?_
  refine Ev_isub dX12_everyone_7 ?_
  exact Ev_iret rfl dX12_everyone_8 rfl h
theorem dX12_setOf_0 : decode cX12_setOf 0 = .ok (.aload_n 0, 1) := by decide +kernel
theorem dX12_setOf_1 : decode cX12_setOf 1 = .ok (.iload_n 1, 1) := by decide +kernel
theorem dX12_setOf_2 : decode cX12_setOf 2 = .ok (.invokevirtual 442, 3) := by decide +kernel
theorem dX12_setOf_5 : decode cX12_setOf 5 = .ok (.istore 4, 2) := by decide +kernel
theorem dX12_setOf_7 : decode cX12_setOf 7 = .ok (.iload_n 1, 1) := by decide +kernel
theorem dX12_setOf_8 : decode cX12_setOf 8 = .ok (.iload_n 1, 1) := by decide +kernel
theorem dX12_setOf_9 : decode cX12_setOf 9 = .ok (.iconst 1, 1) := by decide +kernel
theorem dX12_setOf_10 : decode cX12_setOf 10 = .ok (.isub, 1) := by decide +kernel
theorem dX12_setOf_11 : decode cX12_setOf 11 = .ok (.iand, 1) := by decide +kernel
theorem dX12_setOf_12 : decode cX12_setOf 12 = .ok (.istore 5, 2) := by decide +kernel
theorem dX12_setOf_14 : decode cX12_setOf 14 = .ok (.iconst 0, 1) := by decide +kernel
theorem dX12_setOf_15 : decode cX12_setOf 15 = .ok (.istore 6, 2) := by decide +kernel
theorem dX12_setOf_17 : decode cX12_setOf 17 = .ok (.iload 6, 2) := by decide +kernel
theorem dX12_setOf_19 : decode cX12_setOf 19 = .ok (.iload_n 3, 1) := by decide +kernel
theorem dX12_setOf_20 : decode cX12_setOf 20 = .ok (.iload_n 2, 1) := by decide +kernel
theorem dX12_setOf_21 : decode cX12_setOf 21 = .ok (.iconst (-1), 1) := by decide +kernel
theorem dX12_setOf_22 : decode cX12_setOf 22 = .ok (.ixor, 1) := by decide +kernel
theorem dX12_setOf_23 : decode cX12_setOf 23 = .ok (.iand, 1) := by decide +kernel
theorem dX12_setOf_24 : decode cX12_setOf 24 = .ok (.iconst (-1), 1) := by decide +kernel
theorem dX12_setOf_25 : decode cX12_setOf 25 = .ok (.ixor, 1) := by decide +kernel
theorem dX12_setOf_26 : decode cX12_setOf 26 = .ok (.iand, 1) := by decide +kernel
theorem dX12_setOf_27 : decode cX12_setOf 27 = .ok (.ifCond .ne 59, 3) := by decide +kernel
theorem dX12_setOf_30 : decode cX12_setOf 30 = .ok (.aload_n 0, 1) := by decide +kernel
theorem dX12_setOf_31 : decode cX12_setOf 31 = .ok (.getfield 104, 3) := by decide +kernel
theorem dX12_setOf_34 : decode cX12_setOf 34 = .ok (.sipush 1024, 3) := by decide +kernel
theorem dX12_setOf_37 : decode cX12_setOf 37 = .ok (.iload 4, 2) := by decide +kernel
theorem dX12_setOf_39 : decode cX12_setOf 39 = .ok (.imul, 1) := by decide +kernel
theorem dX12_setOf_40 : decode cX12_setOf 40 = .ok (.iload 6, 2) := by decide +kernel
theorem dX12_setOf_42 : decode cX12_setOf 42 = .ok (.iadd, 1) := by decide +kernel
theorem dX12_setOf_43 : decode cX12_setOf 43 = .ok (.baload, 1) := by decide +kernel
theorem dX12_setOf_44 : decode cX12_setOf 44 = .ok (.ifCond .eq 42, 3) := by decide +kernel
theorem dX12_setOf_47 : decode cX12_setOf 47 = .ok (.aload_n 0, 1) := by decide +kernel
theorem dX12_setOf_48 : decode cX12_setOf 48 = .ok (.getfield 111, 3) := by decide +kernel
theorem dX12_setOf_51 : decode cX12_setOf 51 = .ok (.iload 6, 2) := by decide +kernel
theorem dX12_setOf_53 : decode cX12_setOf 53 = .ok (.iaload, 1) := by decide +kernel
theorem dX12_setOf_54 : decode cX12_setOf 54 = .ok (.aload_n 0, 1) := by decide +kernel
theorem dX12_setOf_55 : decode cX12_setOf 55 = .ok (.getfield 115, 3) := by decide +kernel
theorem dX12_setOf_58 : decode cX12_setOf 58 = .ok (.sipush 1024, 3) := by decide +kernel
theorem dX12_setOf_61 : decode cX12_setOf 61 = .ok (.iload 5, 2) := by decide +kernel
theorem dX12_setOf_63 : decode cX12_setOf 63 = .ok (.imul, 1) := by decide +kernel
theorem dX12_setOf_64 : decode cX12_setOf 64 = .ok (.iload_n 2, 1) := by decide +kernel
theorem dX12_setOf_65 : decode cX12_setOf 65 = .ok (.iload 6, 2) := by decide +kernel
theorem dX12_setOf_67 : decode cX12_setOf 67 = .ok (.ior, 1) := by decide +kernel
theorem dX12_setOf_68 : decode cX12_setOf 68 = .ok (.iadd, 1) := by decide +kernel
theorem dX12_setOf_69 : decode cX12_setOf 69 = .ok (.iaload, 1) := by decide +kernel
theorem dX12_setOf_70 : decode cX12_setOf 70 = .ok (.iadd, 1) := by decide +kernel
theorem dX12_setOf_71 : decode cX12_setOf 71 = .ok (.aload_n 0, 1) := by decide +kernel
theorem dX12_setOf_72 : decode cX12_setOf 72 = .ok (.getfield 115, 3) := by decide +kernel
theorem dX12_setOf_75 : decode cX12_setOf 75 = .ok (.sipush 1024, 3) := by decide +kernel
theorem dX12_setOf_78 : decode cX12_setOf 78 = .ok (.iload_n 1, 1) := by decide +kernel
theorem dX12_setOf_79 : decode cX12_setOf 79 = .ok (.imul, 1) := by decide +kernel
theorem dX12_setOf_80 : decode cX12_setOf 80 = .ok (.iload_n 2, 1) := by decide +kernel
theorem dX12_setOf_81 : decode cX12_setOf 81 = .ok (.iadd, 1) := by decide +kernel
theorem dX12_setOf_82 : decode cX12_setOf 82 = .ok (.iaload, 1) := by decide +kernel
theorem dX12_setOf_83 : decode cX12_setOf 83 = .ok (.if_icmp .eq 12, 3) := by decide +kernel
theorem dX12_setOf_86 : decode cX12_setOf 86 = .ok (.iload 6, 2) := by decide +kernel
theorem dX12_setOf_88 : decode cX12_setOf 88 = .ok (.iconst 1, 1) := by decide +kernel
theorem dX12_setOf_89 : decode cX12_setOf 89 = .ok (.iadd, 1) := by decide +kernel
theorem dX12_setOf_90 : decode cX12_setOf 90 = .ok (.istore 6, 2) := by decide +kernel
theorem dX12_setOf_92 : decode cX12_setOf 92 = .ok (.goto (-75), 3) := by decide +kernel
theorem dX12_setOf_95 : decode cX12_setOf 95 = .ok (.iload 6, 2) := by decide +kernel
theorem dX12_setOf_97 : decode cX12_setOf 97 = .ok (.ireturn, 1) := by decide +kernel
theorem wp_X12_setOf_0 {d : Nat} {s : ev_S} {Q : Option ev_V → ev_S → Prop} {a1 a2 a3 : Int}
    (h : (Ev layM M_X12_lowest d 0 [(0, ev_r 0), (1, ev_i a1)] [] s (ev_pi (fun r2 s1 => Ev layM M_X12_setOf (d + 1) 17 [(0, ev_r 0), (1, ev_i a1), (2, ev_i a2), (3, ev_i a3), (4, ev_i r2), (5, ev_i (ev_and a1 (ev_sub a1 1))), (6, ev_i 0)] [] s1 Q)))) :
    Ev layM M_X12_setOf (d + 1) 0 [(0, ev_r 0), (1, ev_i a1), (2, ev_i a2), (3, ev_i a3)] [] s Q := by
  refine Ev_aload_n 0 dX12_setOf_0 rfl rfl ?_
  refine Ev_iload_n 1 dX12_setOf_1 rfl rfl ?_
  refine Ev_callV (As := [ev_i a1]) (b := 0) (st := []) (M' := M_X12_lowest) cm_X12_lowest wd_2033 wd_2035 wd_154 yM_0 cl_X12 rfl dX12_setOf_2 (Nat.le_refl _) rfl (Nat.le_of_ble_eq_true rfl) (Nat.le_of_ble_eq_true rfl) h (fun v u h hk => ?_)
  obtain ⟨r2, rfl⟩ := hk
  obtain ⟨s1, rfl⟩ : ∃ x, x = u := ⟨_, rfl⟩
  replace h := h r2 rfl
  refine Ev_istore (l' := [(4, ev_i r2), (0, ev_r 0), (1, ev_i a1), (2, ev_i a2), (3, ev_i a3)]) dX12_setOf_5 (Nat.le_of_ble_eq_true rfl) rfl ?_
  refine Ev_iload_n 2 dX12_setOf_7 rfl rfl ?_
  refine Ev_iload_n 2 dX12_setOf_8 rfl rfl ?_
  refine Ev_iconst dX12_setOf_9 rfl (ev_Rc rfl) ?_
  refine Ev_isub dX12_setOf_10 ?_
  refine Ev_iand dX12_setOf_11 ?_
  refine Ev_istore (l' := [(5, ev_i (ev_and a1 (ev_sub a1 1))), (4, ev_i r2), (0, ev_r 0), (1, ev_i a1), (2, ev_i a2), (3, ev_i a3)]) dX12_setOf_12 (Nat.le_of_ble_eq_true rfl) rfl ?_
  refine Ev_iconst dX12_setOf_14 rfl (ev_Rc rfl) ?_
  refine Ev_istore (l' := [(6, ev_i 0), (5, ev_i (ev_and a1 (ev_sub a1 1))), (4, ev_i r2), (0, ev_r 0), (1, ev_i a1), (2, ev_i a2), (3, ev_i a3)]) dX12_setOf_15 (Nat.le_of_ble_eq_true rfl) rfl ?_
  exact Ev_sub [3, 4, 5, 6, 2, 1, 0] rfl h
theorem wp_X12_setOf_17 {d : Nat} {s : ev_S} {Q : Option ev_V → ev_S → Prop} {a1 a2 a3 a4 a5 a6 : Int}
    (h : (((ev_and a6 (ev_xor (ev_and a3 (ev_xor a2 (-1))) (-1))) ≠ 0 → Ev layM M_X12_setOf (d + 1) 17 [(0, ev_r 0), (1, ev_i a1), (2, ev_i a2), (3, ev_i a3), (4, ev_i a4), (5, ev_i a5), (6, ev_i (ev_add a6 1))] [] s Q) ∧ ((ev_and a6 (ev_xor (ev_and a3 (ev_xor a2 (-1))) (-1))) = 0 → ((0 ≤ (ev_add (ev_mul 1024 a4) a6) ∧ (ev_add (ev_mul 1024 a4) a6) < (6144 : Nat)) ∧ (((s 31 (Int.toNat (ev_add (ev_mul 1024 a4) a6))) = 0 → Ev layM M_X12_setOf (d + 1) 17 [(0, ev_r 0), (1, ev_i a1), (2, ev_i a2), (3, ev_i a3), (4, ev_i a4), (5, ev_i a5), (6, ev_i (ev_add a6 1))] [] s Q) ∧ ((s 31 (Int.toNat (ev_add (ev_mul 1024 a4) a6))) ≠ 0 → ((0 ≤ a6 ∧ a6 < (1024 : Nat)) ∧ ((0 ≤ (ev_add (ev_mul 1024 a5) (ev_or a2 a6)) ∧ (ev_add (ev_mul 1024 a5) (ev_or a2 a6)) < (65536 : Nat)) ∧ ((0 ≤ (ev_add (ev_mul 1024 a1) a2) ∧ (ev_add (ev_mul 1024 a1) a2) < (65536 : Nat)) ∧ (((ev_add (s 33 (Int.toNat a6)) (s 34 (Int.toNat (ev_add (ev_mul 1024 a5) (ev_or a2 a6))))) = (s 34 (Int.toNat (ev_add (ev_mul 1024 a1) a2))) → Q (some (ev_i a6)) s) ∧ ((ev_add (s 33 (Int.toNat a6)) (s 34 (Int.toNat (ev_add (ev_mul 1024 a5) (ev_or a2 a6))))) ≠ (s 34 (Int.toNat (ev_add (ev_mul 1024 a1) a2))) → Ev layM M_X12_setOf (d + 1) 17 [(0, ev_r 0), (1, ev_i a1), (2, ev_i a2), (3, ev_i a3), (4, ev_i a4), (5, ev_i a5), (6, ev_i (ev_add a6 1))] [] s Q))))))))))) :
    Ev layM M_X12_setOf (d + 1) 17 [(0, ev_r 0), (1, ev_i a1), (2, ev_i a2), (3, ev_i a3), (4, ev_i a4), (5, ev_i a5), (6, ev_i a6)] [] s Q := by
  refine Ev_iload 6 dX12_setOf_17 rfl ?_
  refine Ev_iload_n 3 dX12_setOf_19 rfl rfl ?_
  refine Ev_iload_n 2 dX12_setOf_20 rfl rfl ?_
  refine Ev_iconst dX12_setOf_21 rfl (ev_Rc rfl) ?_
  refine Ev_ixor dX12_setOf_22 ?_
  refine Ev_iand dX12_setOf_23 ?_
  refine Ev_iconst dX12_setOf_24 rfl (ev_Rc rfl) ?_
  refine Ev_ixor dX12_setOf_25 ?_
  refine Ev_iand dX12_setOf_26 ?_
  refine Ev_if_ne (tgt := 86) dX12_setOf_27 rfl (fun c => ?_) (fun c => ?_)
  · replace h := h.1 c
    refine Ev_iload 6 dX12_setOf_86 rfl ?_
    refine Ev_iconst dX12_setOf_88 rfl (ev_Rc rfl) ?_
    refine Ev_iadd dX12_setOf_89 ?_
    refine Ev_istore (l' := [(6, ev_i (ev_add a6 1)), (0, ev_r 0), (1, ev_i a1), (2, ev_i a2), (3, ev_i a3), (4, ev_i a4), (5, ev_i a5)]) dX12_setOf_90 (Nat.le_of_ble_eq_true rfl) rfl ?_
    refine Ev_goto (tgt := 17) dX12_setOf_92 rfl ?_
    exact Ev_sub [1, 2, 3, 4, 5, 6, 0] rfl h
  · replace h := h.2 c
    refine Ev_aload_n 0 dX12_setOf_30 rfl rfl ?_
    refine Ev_getR (i := 54) cl_X12 yM_0 (Nat.le_of_ble_eq_true rfl) rfl wd_1498 dX12_setOf_31 ?_
    refine Ev_sipushC dX12_setOf_34 rfl ?_
    refine Ev_iload 4 dX12_setOf_37 rfl ?_
    refine Ev_imul dX12_setOf_39 ?_
    refine Ev_iload 6 dX12_setOf_40 rfl ?_
    refine Ev_iadd dX12_setOf_42 ?_
    obtain ⟨h0, h⟩ := h
    refine Ev_zald yM_31 h0 dX12_setOf_43 ?_
    refine Ev_if_eq (tgt := 86) dX12_setOf_44 rfl (fun c => ?_) (fun c => ?_)
    · replace h := h.1 c
      refine Ev_iload 6 dX12_setOf_86 rfl ?_
      refine Ev_iconst dX12_setOf_88 rfl (ev_Rc rfl) ?_
      refine Ev_iadd dX12_setOf_89 ?_
      refine Ev_istore (l' := [(6, ev_i (ev_add a6 1)), (0, ev_r 0), (1, ev_i a1), (2, ev_i a2), (3, ev_i a3), (4, ev_i a4), (5, ev_i a5)]) dX12_setOf_90 (Nat.le_of_ble_eq_true rfl) rfl ?_
      refine Ev_goto (tgt := 17) dX12_setOf_92 rfl ?_
      exact Ev_sub [1, 2, 3, 4, 5, 6, 0] rfl h
    · replace h := h.2 c
      refine Ev_aload_n 0 dX12_setOf_47 rfl rfl ?_
      refine Ev_getR (i := 56) cl_X12 yM_0 (Nat.le_of_ble_eq_true rfl) rfl wd_1500 dX12_setOf_48 ?_
      refine Ev_iload 6 dX12_setOf_51 rfl ?_
      obtain ⟨h0, h⟩ := h
      refine Ev_iald yM_33 h0 dX12_setOf_53 ?_
      refine Ev_aload_n 0 dX12_setOf_54 rfl rfl ?_
      refine Ev_getR (i := 57) cl_X12 yM_0 (Nat.le_of_ble_eq_true rfl) rfl wd_1501 dX12_setOf_55 ?_
      refine Ev_sipushC dX12_setOf_58 rfl ?_
      refine Ev_iload 5 dX12_setOf_61 rfl ?_
      refine Ev_imul dX12_setOf_63 ?_
      refine Ev_iload_n 2 dX12_setOf_64 rfl rfl ?_
      refine Ev_iload 6 dX12_setOf_65 rfl ?_
      refine Ev_ior dX12_setOf_67 ?_
      refine Ev_iadd dX12_setOf_68 ?_
      obtain ⟨h0, h⟩ := h
      refine Ev_iald yM_34 h0 dX12_setOf_69 ?_
      refine Ev_iadd dX12_setOf_70 ?_
      refine Ev_aload_n 0 dX12_setOf_71 rfl rfl ?_
      refine Ev_getR (i := 57) cl_X12 yM_0 (Nat.le_of_ble_eq_true rfl) rfl wd_1501 dX12_setOf_72 ?_
      refine Ev_sipushC dX12_setOf_75 rfl ?_
      refine Ev_iload_n 1 dX12_setOf_78 rfl rfl ?_
      refine Ev_imul dX12_setOf_79 ?_
      refine Ev_iload_n 2 dX12_setOf_80 rfl rfl ?_
      refine Ev_iadd dX12_setOf_81 ?_
      obtain ⟨h0, h⟩ := h
      refine Ev_iald yM_34 h0 dX12_setOf_82 ?_
      refine Ev_icmp_eq (tgt := 95) dX12_setOf_83 rfl (fun c => ?_) (fun c => ?_)
      · replace h := h.1 c
        refine Ev_iload 6 dX12_setOf_95 rfl ?_
        exact Ev_iret rfl dX12_setOf_97 rfl h
      · replace h := h.2 c
        refine Ev_iload 6 dX12_setOf_86 rfl ?_
        refine Ev_iconst dX12_setOf_88 rfl (ev_Rc rfl) ?_
        refine Ev_iadd dX12_setOf_89 ?_
        refine Ev_istore (l' := [(6, ev_i (ev_add a6 1)), (0, ev_r 0), (1, ev_i a1), (2, ev_i a2), (3, ev_i a3), (4, ev_i a4), (5, ev_i a5)]) dX12_setOf_90 (Nat.le_of_ble_eq_true rfl) rfl ?_
        refine Ev_goto (tgt := 17) dX12_setOf_92 rfl ?_
        exact Ev_sub [1, 2, 3, 4, 5, 6, 0] rfl h
theorem dX12_least_0 : decode cX12_least 0 = .ok (.aload_n 0, 1) := by decide +kernel
theorem dX12_least_1 : decode cX12_least 1 = .ok (.iconst 0, 1) := by decide +kernel
theorem dX12_least_2 : decode cX12_least 2 = .ok (.putfield 124, 3) := by decide +kernel
theorem dX12_least_5 : decode cX12_least 5 = .ok (.aload_n 0, 1) := by decide +kernel
theorem dX12_least_6 : decode cX12_least 6 = .ok (.iload_n 1, 1) := by decide +kernel
theorem dX12_least_7 : decode cX12_least 7 = .ok (.iconst 0, 1) := by decide +kernel
theorem dX12_least_8 : decode cX12_least 8 = .ok (.iconst 1, 1) := by decide +kernel
theorem dX12_least_9 : decode cX12_least 9 = .ok (.invokevirtual 158, 3) := by decide +kernel
theorem dX12_least_12 : decode cX12_least 12 = .ok (.ifCond .ne 22, 3) := by decide +kernel
theorem dX12_least_15 : decode cX12_least 15 = .ok (.aload_n 0, 1) := by decide +kernel
theorem dX12_least_16 : decode cX12_least 16 = .ok (.iload_n 1, 1) := by decide +kernel
theorem dX12_least_17 : decode cX12_least 17 = .ok (.bipush 10, 2) := by decide +kernel
theorem dX12_least_19 : decode cX12_least 19 = .ok (.bipush 9, 2) := by decide +kernel
theorem dX12_least_21 : decode cX12_least 21 = .ok (.aload_n 0, 1) := by decide +kernel
theorem dX12_least_22 : decode cX12_least 22 = .ok (.getfield 148, 3) := by decide +kernel
theorem dX12_least_25 : decode cX12_least 25 = .ok (.iadd, 1) := by decide +kernel
theorem dX12_least_26 : decode cX12_least 26 = .ok (.invokevirtual 158, 3) := by decide +kernel
theorem dX12_least_29 : decode cX12_least 29 = .ok (.ifCond .ne 5, 3) := by decide +kernel
theorem dX12_least_32 : decode cX12_least 32 = .ok (.iconst (-1), 1) := by decide +kernel
theorem dX12_least_33 : decode cX12_least 33 = .ok (.ireturn, 1) := by decide +kernel
theorem dX12_least_34 : decode cX12_least 34 = .ok (.aload_n 0, 1) := by decide +kernel
theorem dX12_least_35 : decode cX12_least 35 = .ok (.invokevirtual 457, 3) := by decide +kernel
theorem dX12_least_38 : decode cX12_least 38 = .ok (.istore_n 2, 1) := by decide +kernel
theorem dX12_least_39 : decode cX12_least 39 = .ok (.aload_n 0, 1) := by decide +kernel
theorem dX12_least_40 : decode cX12_least 40 = .ok (.iload_n 2, 1) := by decide +kernel
theorem dX12_least_41 : decode cX12_least 41 = .ok (.invokevirtual 460, 3) := by decide +kernel
theorem dX12_least_44 : decode cX12_least 44 = .ok (.iload_n 1, 1) := by decide +kernel
theorem dX12_least_45 : decode cX12_least 45 = .ok (.ifCond .ne 24, 3) := by decide +kernel
theorem dX12_least_48 : decode cX12_least 48 = .ok (.aload_n 0, 1) := by decide +kernel
theorem dX12_least_49 : decode cX12_least 49 = .ok (.getfield 111, 3) := by decide +kernel
theorem dX12_least_52 : decode cX12_least 52 = .ok (.iload_n 2, 1) := by decide +kernel
theorem dX12_least_53 : decode cX12_least 53 = .ok (.iaload, 1) := by decide +kernel
theorem dX12_least_54 : decode cX12_least 54 = .ok (.aload_n 0, 1) := by decide +kernel
theorem dX12_least_55 : decode cX12_least 55 = .ok (.getfield 115, 3) := by decide +kernel
theorem dX12_least_58 : decode cX12_least 58 = .ok (.sipush 1024, 3) := by decide +kernel
theorem dX12_least_61 : decode cX12_least 61 = .ok (.aload_n 0, 1) := by decide +kernel
theorem dX12_least_62 : decode cX12_least 62 = .ok (.invokevirtual 463, 3) := by decide +kernel
theorem dX12_least_65 : decode cX12_least 65 = .ok (.imul, 1) := by decide +kernel
theorem dX12_least_66 : decode cX12_least 66 = .ok (.iaload, 1) := by decide +kernel
theorem dX12_least_67 : decode cX12_least 67 = .ok (.isub, 1) := by decide +kernel
theorem dX12_least_68 : decode cX12_least 68 = .ok (.ireturn, 1) := by decide +kernel
theorem dX12_least_69 : decode cX12_least 69 = .ok (.iconst 0, 1) := by decide +kernel
theorem dX12_least_70 : decode cX12_least 70 = .ok (.istore_n 3, 1) := by decide +kernel
theorem dX12_least_71 : decode cX12_least 71 = .ok (.iconst 0, 1) := by decide +kernel
theorem dX12_least_72 : decode cX12_least 72 = .ok (.istore 4, 2) := by decide +kernel
theorem dX12_least_74 : decode cX12_least 74 = .ok (.iconst 0, 1) := by decide +kernel
theorem dX12_least_75 : decode cX12_least 75 = .ok (.istore 5, 2) := by decide +kernel
theorem dX12_least_77 : decode cX12_least 77 = .ok (.iload 5, 2) := by decide +kernel
theorem dX12_least_79 : decode cX12_least 79 = .ok (.aload_n 0, 1) := by decide +kernel
theorem dX12_least_80 : decode cX12_least 80 = .ok (.getfield 148, 3) := by decide +kernel
theorem dX12_least_83 : decode cX12_least 83 = .ok (.if_icmp .ge 47, 3) := by decide +kernel
theorem dX12_least_86 : decode cX12_least 86 = .ok (.aload_n 0, 1) := by decide +kernel
theorem dX12_least_87 : decode cX12_least 87 = .ok (.aload_n 0, 1) := by decide +kernel
theorem dX12_least_88 : decode cX12_least 88 = .ok (.invokevirtual 463, 3) := by decide +kernel
theorem dX12_least_91 : decode cX12_least 91 = .ok (.iconst 1, 1) := by decide +kernel
theorem dX12_least_92 : decode cX12_least 92 = .ok (.iload 5, 2) := by decide +kernel
theorem dX12_least_94 : decode cX12_least 94 = .ok (.ishl, 1) := by decide +kernel
theorem dX12_least_95 : decode cX12_least 95 = .ok (.iconst 1, 1) := by decide +kernel
theorem dX12_least_96 : decode cX12_least 96 = .ok (.isub, 1) := by decide +kernel
theorem dX12_least_97 : decode cX12_least 97 = .ok (.iconst (-1), 1) := by decide +kernel
theorem dX12_least_98 : decode cX12_least 98 = .ok (.ixor, 1) := by decide +kernel
theorem dX12_least_99 : decode cX12_least 99 = .ok (.iand, 1) := by decide +kernel
theorem dX12_least_100 : decode cX12_least 100 = .ok (.iload_n 3, 1) := by decide +kernel
theorem dX12_least_101 : decode cX12_least 101 = .ok (.iload_n 2, 1) := by decide +kernel
theorem dX12_least_102 : decode cX12_least 102 = .ok (.invokevirtual 466, 3) := by decide +kernel
theorem dX12_least_105 : decode cX12_least 105 = .ok (.istore 4, 2) := by decide +kernel
theorem dX12_least_107 : decode cX12_least 107 = .ok (.iload_n 3, 1) := by decide +kernel
theorem dX12_least_108 : decode cX12_least 108 = .ok (.iload 4, 2) := by decide +kernel
theorem dX12_least_110 : decode cX12_least 110 = .ok (.ior, 1) := by decide +kernel
theorem dX12_least_111 : decode cX12_least 111 = .ok (.istore_n 3, 1) := by decide +kernel
theorem dX12_least_112 : decode cX12_least 112 = .ok (.iload_n 1, 1) := by decide +kernel
theorem dX12_least_113 : decode cX12_least 113 = .ok (.bipush 10, 2) := by decide +kernel
theorem dX12_least_115 : decode cX12_least 115 = .ok (.iload 5, 2) := by decide +kernel
theorem dX12_least_117 : decode cX12_least 117 = .ok (.iadd, 1) := by decide +kernel
theorem dX12_least_118 : decode cX12_least 118 = .ok (.if_icmp .ne 6, 3) := by decide +kernel
theorem dX12_least_121 : decode cX12_least 121 = .ok (.iload 4, 2) := by decide +kernel
theorem dX12_least_123 : decode cX12_least 123 = .ok (.ireturn, 1) := by decide +kernel
theorem dX12_least_124 : decode cX12_least 124 = .ok (.iinc 5 1, 3) := by decide +kernel
theorem dX12_least_127 : decode cX12_least 127 = .ok (.goto (-50), 3) := by decide +kernel
theorem dX12_least_130 : decode cX12_least 130 = .ok (.iload_n 2, 1) := by decide +kernel
theorem dX12_least_131 : decode cX12_least 131 = .ok (.iload_n 3, 1) := by decide +kernel
theorem dX12_least_132 : decode cX12_least 132 = .ok (.iconst (-1), 1) := by decide +kernel
theorem dX12_least_133 : decode cX12_least 133 = .ok (.ixor, 1) := by decide +kernel
theorem dX12_least_134 : decode cX12_least 134 = .ok (.iand, 1) := by decide +kernel
theorem dX12_least_135 : decode cX12_least 135 = .ok (.ireturn, 1) := by decide +kernel
theorem wp_X12_least_0 {d : Nat} {s : ev_S} {Q : Option ev_V → ev_S → Prop} {a1 : Int}
    (h : (∀ s1, ev_up s 0 0 0 = s1 → (Ev layM M_X12_isIn d 0 [(0, ev_r 0), (1, ev_i a1), (2, ev_i 0), (3, ev_i 1)] [] s1 (ev_pi (fun r3 s2 => ((r3 ≠ 0 → Ev layM M_X12_least (d + 1) 34 [(0, ev_r 0), (1, ev_i a1)] [] s2 Q) ∧ (r3 = 0 → (Ev layM M_X12_isIn d 0 [(0, ev_r 0), (1, ev_i a1), (2, ev_i 10), (3, ev_i (ev_add 9 (s2 0 11)))] [] s2 (ev_pi (fun r5 s4 => ((r5 ≠ 0 → Ev layM M_X12_least (d + 1) 34 [(0, ev_r 0), (1, ev_i a1)] [] s4 Q) ∧ (r5 = 0 → Q (some (ev_i (-1))) s4)))))))))))) :
    Ev layM M_X12_least (d + 1) 0 [(0, ev_r 0), (1, ev_i a1)] [] s Q := by
  refine Ev_aload_n 0 dX12_least_0 rfl rfl ?_
  refine Ev_iconst dX12_least_1 rfl (ev_Rc rfl) ?_
  refine Ev_put (i := 0) (ty := .int) cl_X12 yM_0 (Nat.le_of_ble_eq_true rfl) rfl rfl (by decide +kernel) rfl rfl wd_1444 dX12_least_2 (Ev_nm (fun s1 es1 => ?_))
  replace h := h s1 es1
  refine Ev_aload_n 0 dX12_least_5 rfl rfl ?_
  refine Ev_iload_n 1 dX12_least_6 rfl rfl ?_
  refine Ev_iconst dX12_least_7 rfl (ev_Rc rfl) ?_
  refine Ev_iconst dX12_least_8 rfl (ev_Rc rfl) ?_
  refine Ev_callV (As := [ev_i a1, ev_i 0, ev_i 1]) (b := 0) (st := []) (M' := M_X12_isIn) cm_X12_isIn wd_1650 wd_1652 wd_70 yM_0 cl_X12 rfl dX12_least_9 (Nat.le_refl _) rfl (Nat.le_of_ble_eq_true rfl) (Nat.le_of_ble_eq_true rfl) h (fun v u h hk => ?_)
  obtain ⟨r3, rfl⟩ := hk
  obtain ⟨s2, rfl⟩ : ∃ x, x = u := ⟨_, rfl⟩
  replace h := h r3 rfl
  refine Ev_if_ne (tgt := 34) dX12_least_12 rfl (fun c => ?_) (fun c => ?_)
  · replace h := h.1 c
    exact Ev_sub [0, 1] rfl h
  · replace h := h.2 c
    refine Ev_aload_n 0 dX12_least_15 rfl rfl ?_
    refine Ev_iload_n 1 dX12_least_16 rfl rfl ?_
    refine Ev_bipushC dX12_least_17 rfl ?_
    refine Ev_bipushC dX12_least_19 rfl ?_
    refine Ev_aload_n 0 dX12_least_21 rfl rfl ?_
    refine Ev_get (i := 11) cl_X12 yM_0 (Nat.le_of_ble_eq_true rfl) rfl wd_1455 dX12_least_22 ?_
    refine Ev_iadd dX12_least_25 ?_
    refine Ev_callV (As := [ev_i a1, ev_i 10, ev_i (ev_add 9 (s2 0 11))]) (b := 0) (st := []) (M' := M_X12_isIn) cm_X12_isIn wd_1650 wd_1652 wd_70 yM_0 cl_X12 rfl dX12_least_26 (Nat.le_refl _) rfl (Nat.le_of_ble_eq_true rfl) (Nat.le_of_ble_eq_true rfl) h (fun v u h hk => ?_)
    obtain ⟨r5, rfl⟩ := hk
    obtain ⟨s4, rfl⟩ : ∃ x, x = u := ⟨_, rfl⟩
    replace h := h r5 rfl
    refine Ev_if_ne (tgt := 34) dX12_least_29 rfl (fun c => ?_) (fun c => ?_)
    · replace h := h.1 c
      exact Ev_sub [0, 1] rfl h
    · replace h := h.2 c
      refine Ev_iconst dX12_least_32 rfl (ev_Rc rfl) ?_
      exact Ev_iret rfl dX12_least_33 rfl h
theorem wp_X12_least_34 {d : Nat} {s : ev_S} {Q : Option ev_V → ev_S → Prop} {a1 : Int}
    (h : (Ev layM M_X12_findsAll d 0 [(0, ev_r 0)] [] s (ev_pi (fun r2 s1 => (Ev layM M_X12_findsMost d 0 [(0, ev_r 0), (1, ev_i r2)] [] s1 (fun _ s3 => ((a1 ≠ 0 → Ev layM M_X12_least (d + 1) 77 [(0, ev_r 0), (1, ev_i a1), (2, ev_i r2), (3, ev_i 0), (5, ev_i 0)] [] s3 Q) ∧ (a1 = 0 → ((0 ≤ r2 ∧ r2 < (1024 : Nat)) ∧ (Ev layM M_X12_everyone d 0 [(0, ev_r 0)] [] s3 (ev_pi (fun r5 s4 => ((0 ≤ (ev_mul 1024 r5) ∧ (ev_mul 1024 r5) < (65536 : Nat)) ∧ Q (some (ev_i (ev_sub (s3 33 (Int.toNat r2)) (s4 34 (Int.toNat (ev_mul 1024 r5)))))) s4))))))))))))) :
    Ev layM M_X12_least (d + 1) 34 [(0, ev_r 0), (1, ev_i a1)] [] s Q := by
  refine Ev_aload_n 0 dX12_least_34 rfl rfl ?_
  refine Ev_callV (As := []) (b := 0) (st := []) (M' := M_X12_findsAll) cm_X12_findsAll wd_2000 wd_2002 wd_146 yM_0 cl_X12 rfl dX12_least_35 (Nat.le_refl _) rfl (Nat.le_of_ble_eq_true rfl) (Nat.le_of_ble_eq_true rfl) h (fun v u h hk => ?_)
  obtain ⟨r2, rfl⟩ := hk
  obtain ⟨s1, rfl⟩ : ∃ x, x = u := ⟨_, rfl⟩
  replace h := h r2 rfl
  refine Ev_istore_n (l' := [(2, ev_i r2), (0, ev_r 0), (1, ev_i a1)]) dX12_least_38 rfl (Nat.le_of_ble_eq_true rfl) rfl ?_
  refine Ev_aload_n 1 dX12_least_39 rfl rfl ?_
  refine Ev_iload_n 0 dX12_least_40 rfl rfl ?_
  refine Ev_callV (As := [ev_i r2]) (b := 0) (st := []) (M' := M_X12_findsMost) cm_X12_findsMost wd_2025 wd_2027 wd_152 yM_0 cl_X12 rfl dX12_least_41 (Nat.le_refl _) rfl (Nat.le_of_ble_eq_true rfl) (Nat.le_of_ble_eq_true rfl) h (fun v u h hk => ?_)
  cases hk
  obtain ⟨s3, rfl⟩ : ∃ x, x = u := ⟨_, rfl⟩
  refine Ev_iload_n 2 dX12_least_44 rfl rfl ?_
  refine Ev_if_ne (tgt := 69) dX12_least_45 rfl (fun c => ?_) (fun c => ?_)
  · replace h := h.1 c
    refine Ev_iconst dX12_least_69 rfl (ev_Rc rfl) ?_
    refine Ev_istore_n (l' := [(3, ev_i 0), (2, ev_i r2), (0, ev_r 0), (1, ev_i a1)]) dX12_least_70 rfl (Nat.le_of_ble_eq_true rfl) rfl ?_
    refine Ev_iconst dX12_least_71 rfl (ev_Rc rfl) ?_
    refine Ev_istore (l' := [(4, ev_i 0), (3, ev_i 0), (2, ev_i r2), (0, ev_r 0), (1, ev_i a1)]) dX12_least_72 (Nat.le_of_ble_eq_true rfl) rfl ?_
    refine Ev_iconst dX12_least_74 rfl (ev_Rc rfl) ?_
    refine Ev_istore (l' := [(5, ev_i 0), (4, ev_i 0), (3, ev_i 0), (2, ev_i r2), (0, ev_r 0), (1, ev_i a1)]) dX12_least_75 (Nat.le_of_ble_eq_true rfl) rfl ?_
    exact Ev_sub [4, 5, 3, 2, 0] rfl h
  · replace h := h.2 c
    refine Ev_aload_n 1 dX12_least_48 rfl rfl ?_
    refine Ev_getR (i := 56) cl_X12 yM_0 (Nat.le_of_ble_eq_true rfl) rfl wd_1500 dX12_least_49 ?_
    refine Ev_iload_n 0 dX12_least_52 rfl rfl ?_
    obtain ⟨h0, h⟩ := h
    refine Ev_iald yM_33 h0 dX12_least_53 ?_
    refine Ev_aload_n 1 dX12_least_54 rfl rfl ?_
    refine Ev_getR (i := 57) cl_X12 yM_0 (Nat.le_of_ble_eq_true rfl) rfl wd_1501 dX12_least_55 ?_
    refine Ev_sipushC dX12_least_58 rfl ?_
    refine Ev_aload_n 1 dX12_least_61 rfl rfl ?_
    refine Ev_callV (As := []) (b := 0) (st := [ev_i 1024, ev_r 34, ev_i (s3 33 (Int.toNat r2))]) (M' := M_X12_everyone) cm_X12_everyone wd_2037 wd_2039 wd_155 yM_0 cl_X12 rfl dX12_least_62 (Nat.le_refl _) rfl (Nat.le_of_ble_eq_true rfl) (Nat.le_of_ble_eq_true rfl) h (fun v u h hk => ?_)
    obtain ⟨r5, rfl⟩ := hk
    obtain ⟨s4, rfl⟩ : ∃ x, x = u := ⟨_, rfl⟩
    replace h := h r5 rfl
    refine Ev_imul dX12_least_65 ?_
    obtain ⟨h0, h⟩ := h
    refine Ev_iald yM_34 h0 dX12_least_66 ?_
    refine Ev_isub dX12_least_67 ?_
    exact Ev_iret rfl dX12_least_68 rfl h
theorem wp_X12_least_77 {d : Nat} {s : ev_S} {Q : Option ev_V → ev_S → Prop} {a1 a2 a3 a5 : Int}
    (h : (((s 0 11) ≤ a5 → Q (some (ev_i (ev_and a2 (ev_xor a3 (-1))))) s) ∧ (a5 < (s 0 11) → (Ev layM M_X12_everyone d 0 [(0, ev_r 0)] [] s (ev_pi (fun r2 s1 => (Ev layM M_X12_setOf d 0 [(0, ev_r 0), (1, ev_i (ev_and r2 (ev_xor (ev_sub (ev_shl 1 a5) 1) (-1)))), (2, ev_i a3), (3, ev_i a2)] [] s1 (ev_pi (fun r4 s3 => ((a1 ≠ (ev_add 10 a5) → Ev layM M_X12_least (d + 1) 77 [(0, ev_r 0), (1, ev_i a1), (2, ev_i a2), (3, ev_i (ev_or a3 r4)), (5, ev_i (ev_add a5 1))] [] s3 Q) ∧ (a1 = (ev_add 10 a5) → Q (some (ev_i r4)) s3))))))))))) :
    Ev layM M_X12_least (d + 1) 77 [(0, ev_r 0), (1, ev_i a1), (2, ev_i a2), (3, ev_i a3), (5, ev_i a5)] [] s Q := by
  refine Ev_iload 4 dX12_least_77 rfl ?_
  refine Ev_aload_n 0 dX12_least_79 rfl rfl ?_
  refine Ev_get (i := 11) cl_X12 yM_0 (Nat.le_of_ble_eq_true rfl) rfl wd_1455 dX12_least_80 ?_
  refine Ev_icmp_ge (tgt := 130) dX12_least_83 rfl (fun c => ?_) (fun c => ?_)
  · replace h := h.1 c
    refine Ev_iload_n 2 dX12_least_130 rfl rfl ?_
    refine Ev_iload_n 3 dX12_least_131 rfl rfl ?_
    refine Ev_iconst dX12_least_132 rfl (ev_Rc rfl) ?_
    refine Ev_ixor dX12_least_133 ?_
    refine Ev_iand dX12_least_134 ?_
    exact Ev_iret rfl dX12_least_135 rfl h
  · replace h := h.2 c
    refine Ev_aload_n 0 dX12_least_86 rfl rfl ?_
    refine Ev_aload_n 0 dX12_least_87 rfl rfl ?_
    refine Ev_callV (As := []) (b := 0) (st := [ev_r 0]) (M' := M_X12_everyone) cm_X12_everyone wd_2037 wd_2039 wd_155 yM_0 cl_X12 rfl dX12_least_88 (Nat.le_refl _) rfl (Nat.le_of_ble_eq_true rfl) (Nat.le_of_ble_eq_true rfl) h (fun v u h hk => ?_)
    obtain ⟨r2, rfl⟩ := hk
    obtain ⟨s1, rfl⟩ : ∃ x, x = u := ⟨_, rfl⟩
    replace h := h r2 rfl
    refine Ev_iconst dX12_least_91 rfl (ev_Rc rfl) ?_
    refine Ev_iload 4 dX12_least_92 rfl ?_
    refine Ev_ishl dX12_least_94 ?_
    refine Ev_iconst dX12_least_95 rfl (ev_Rc rfl) ?_
    refine Ev_isub dX12_least_96 ?_
    refine Ev_iconst dX12_least_97 rfl (ev_Rc rfl) ?_
    refine Ev_ixor dX12_least_98 ?_
    refine Ev_iand dX12_least_99 ?_
    refine Ev_iload_n 3 dX12_least_100 rfl rfl ?_
    refine Ev_iload_n 2 dX12_least_101 rfl rfl ?_
    refine Ev_callV (As := [ev_i (ev_and r2 (ev_xor (ev_sub (ev_shl 1 a5) 1) (-1))), ev_i a3, ev_i a2]) (b := 0) (st := []) (M' := M_X12_setOf) cm_X12_setOf wd_2041 wd_2043 wd_156 yM_0 cl_X12 rfl dX12_least_102 (Nat.le_refl _) rfl (Nat.le_of_ble_eq_true rfl) (Nat.le_of_ble_eq_true rfl) h (fun v u h hk => ?_)
    obtain ⟨r4, rfl⟩ := hk
    obtain ⟨s3, rfl⟩ : ∃ x, x = u := ⟨_, rfl⟩
    replace h := h r4 rfl
    refine Ev_istore (l' := [(4, ev_i r4), (0, ev_r 0), (1, ev_i a1), (2, ev_i a2), (3, ev_i a3), (5, ev_i a5)]) dX12_least_105 (Nat.le_of_ble_eq_true rfl) rfl ?_
    refine Ev_iload_n 4 dX12_least_107 rfl rfl ?_
    refine Ev_iload 0 dX12_least_108 rfl ?_
    refine Ev_ior dX12_least_110 ?_
    refine Ev_istore_n (l' := [(3, ev_i (ev_or a3 r4)), (4, ev_i r4), (0, ev_r 0), (1, ev_i a1), (2, ev_i a2), (5, ev_i a5)]) dX12_least_111 rfl (Nat.le_of_ble_eq_true rfl) rfl ?_
    refine Ev_iload_n 3 dX12_least_112 rfl rfl ?_
    refine Ev_bipushC dX12_least_113 rfl ?_
    refine Ev_iload 5 dX12_least_115 rfl ?_
    refine Ev_iadd dX12_least_117 ?_
    refine Ev_icmp_ne (tgt := 124) dX12_least_118 rfl (fun c => ?_) (fun c => ?_)
    · replace h := h.1 c
      refine Ev_iinc (j := 5) (l' := [(5, ev_i (ev_add a5 1)), (3, ev_i (ev_or a3 r4)), (4, ev_i r4), (0, ev_r 0), (1, ev_i a1), (2, ev_i a2)]) dX12_least_124 rfl (Nat.le_of_ble_eq_true rfl) rfl ?_
      refine Ev_goto (tgt := 77) dX12_least_127 rfl ?_
      exact Ev_sub [3, 4, 5, 1, 0] rfl h
    · replace h := h.2 c
      refine Ev_iload 1 dX12_least_121 rfl ?_
      exact Ev_iret rfl dX12_least_123 rfl h
theorem dX12_fewest_0 : decode cX12_fewest 0 = .ok (.aload_n 0, 1) := by decide +kernel
theorem dX12_fewest_1 : decode cX12_fewest 1 = .ok (.iconst 0, 1) := by decide +kernel
theorem dX12_fewest_2 : decode cX12_fewest 2 = .ok (.putfield 124, 3) := by decide +kernel
theorem dX12_fewest_5 : decode cX12_fewest 5 = .ok (.aload_n 0, 1) := by decide +kernel
theorem dX12_fewest_6 : decode cX12_fewest 6 = .ok (.iload_n 1, 1) := by decide +kernel
theorem dX12_fewest_7 : decode cX12_fewest 7 = .ok (.iconst 0, 1) := by decide +kernel
theorem dX12_fewest_8 : decode cX12_fewest 8 = .ok (.iconst 1, 1) := by decide +kernel
theorem dX12_fewest_9 : decode cX12_fewest 9 = .ok (.invokevirtual 158, 3) := by decide +kernel
theorem dX12_fewest_12 : decode cX12_fewest 12 = .ok (.ifCond .ne 5, 3) := by decide +kernel
theorem dX12_fewest_15 : decode cX12_fewest 15 = .ok (.iconst (-1), 1) := by decide +kernel
theorem dX12_fewest_16 : decode cX12_fewest 16 = .ok (.ireturn, 1) := by decide +kernel
theorem dX12_fewest_17 : decode cX12_fewest 17 = .ok (.aload_n 0, 1) := by decide +kernel
theorem dX12_fewest_18 : decode cX12_fewest 18 = .ok (.aload_n 0, 1) := by decide +kernel
theorem dX12_fewest_19 : decode cX12_fewest 19 = .ok (.invokevirtual 457, 3) := by decide +kernel
theorem dX12_fewest_22 : decode cX12_fewest 22 = .ok (.invokevirtual 460, 3) := by decide +kernel
theorem dX12_fewest_25 : decode cX12_fewest 25 = .ok (.aload_n 0, 1) := by decide +kernel
theorem dX12_fewest_26 : decode cX12_fewest 26 = .ok (.invokevirtual 463, 3) := by decide +kernel
theorem dX12_fewest_29 : decode cX12_fewest 29 = .ok (.istore_n 2, 1) := by decide +kernel
theorem dX12_fewest_30 : decode cX12_fewest 30 = .ok (.aload_n 0, 1) := by decide +kernel
theorem dX12_fewest_31 : decode cX12_fewest 31 = .ok (.invokevirtual 463, 3) := by decide +kernel
theorem dX12_fewest_34 : decode cX12_fewest 34 = .ok (.istore_n 3, 1) := by decide +kernel
theorem dX12_fewest_35 : decode cX12_fewest 35 = .ok (.iload_n 3, 1) := by decide +kernel
theorem dX12_fewest_36 : decode cX12_fewest 36 = .ok (.ifCond .lt 50, 3) := by decide +kernel
theorem dX12_fewest_39 : decode cX12_fewest 39 = .ok (.aload_n 0, 1) := by decide +kernel
theorem dX12_fewest_40 : decode cX12_fewest 40 = .ok (.getfield 115, 3) := by decide +kernel
theorem dX12_fewest_43 : decode cX12_fewest 43 = .ok (.sipush 1024, 3) := by decide +kernel
theorem dX12_fewest_46 : decode cX12_fewest 46 = .ok (.iload_n 3, 1) := by decide +kernel
theorem dX12_fewest_47 : decode cX12_fewest 47 = .ok (.imul, 1) := by decide +kernel
theorem dX12_fewest_48 : decode cX12_fewest 48 = .ok (.iaload, 1) := by decide +kernel
theorem dX12_fewest_49 : decode cX12_fewest 49 = .ok (.aload_n 0, 1) := by decide +kernel
theorem dX12_fewest_50 : decode cX12_fewest 50 = .ok (.getfield 115, 3) := by decide +kernel
theorem dX12_fewest_53 : decode cX12_fewest 53 = .ok (.sipush 1024, 3) := by decide +kernel
theorem dX12_fewest_56 : decode cX12_fewest 56 = .ok (.aload_n 0, 1) := by decide +kernel
theorem dX12_fewest_57 : decode cX12_fewest 57 = .ok (.invokevirtual 463, 3) := by decide +kernel
theorem dX12_fewest_60 : decode cX12_fewest 60 = .ok (.imul, 1) := by decide +kernel
theorem dX12_fewest_61 : decode cX12_fewest 61 = .ok (.iaload, 1) := by decide +kernel
theorem dX12_fewest_62 : decode cX12_fewest 62 = .ok (.if_icmp .ne 18, 3) := by decide +kernel
theorem dX12_fewest_65 : decode cX12_fewest 65 = .ok (.aload_n 0, 1) := by decide +kernel
theorem dX12_fewest_66 : decode cX12_fewest 66 = .ok (.iload_n 3, 1) := by decide +kernel
theorem dX12_fewest_67 : decode cX12_fewest 67 = .ok (.invokevirtual 469, 3) := by decide +kernel
theorem dX12_fewest_70 : decode cX12_fewest 70 = .ok (.aload_n 0, 1) := by decide +kernel
theorem dX12_fewest_71 : decode cX12_fewest 71 = .ok (.iload_n 2, 1) := by decide +kernel
theorem dX12_fewest_72 : decode cX12_fewest 72 = .ok (.invokevirtual 469, 3) := by decide +kernel
theorem dX12_fewest_75 : decode cX12_fewest 75 = .ok (.if_icmp .gt 5, 3) := by decide +kernel
theorem dX12_fewest_78 : decode cX12_fewest 78 = .ok (.iload_n 3, 1) := by decide +kernel
theorem dX12_fewest_79 : decode cX12_fewest 79 = .ok (.istore_n 2, 1) := by decide +kernel
theorem dX12_fewest_80 : decode cX12_fewest 80 = .ok (.iinc 3 (-1), 3) := by decide +kernel
theorem dX12_fewest_83 : decode cX12_fewest 83 = .ok (.goto (-48), 3) := by decide +kernel
theorem dX12_fewest_86 : decode cX12_fewest 86 = .ok (.iload_n 1, 1) := by decide +kernel
theorem dX12_fewest_87 : decode cX12_fewest 87 = .ok (.ifCond .ne 11, 3) := by decide +kernel
theorem dX12_fewest_90 : decode cX12_fewest 90 = .ok (.aload_n 0, 1) := by decide +kernel
theorem dX12_fewest_91 : decode cX12_fewest 91 = .ok (.iload_n 2, 1) := by decide +kernel
theorem dX12_fewest_92 : decode cX12_fewest 92 = .ok (.invokevirtual 469, 3) := by decide +kernel
theorem dX12_fewest_95 : decode cX12_fewest 95 = .ok (.goto 4, 3) := by decide +kernel
theorem dX12_fewest_98 : decode cX12_fewest 98 = .ok (.iload_n 2, 1) := by decide +kernel
theorem dX12_fewest_99 : decode cX12_fewest 99 = .ok (.ireturn, 1) := by decide +kernel
theorem wp_X12_fewest_0 {d : Nat} {s : ev_S} {Q : Option ev_V → ev_S → Prop} {a1 : Int}
    (h : (∀ s1, ev_up s 0 0 0 = s1 → (Ev layM M_X12_isIn d 0 [(0, ev_r 0), (1, ev_i a1), (2, ev_i 0), (3, ev_i 1)] [] s1 (ev_pi (fun r3 s2 => ((r3 ≠ 0 → (Ev layM M_X12_findsAll d 0 [(0, ev_r 0)] [] s2 (ev_pi (fun r5 s4 => (Ev layM M_X12_findsMost d 0 [(0, ev_r 0), (1, ev_i r5)] [] s4 (fun _ s6 => (Ev layM M_X12_everyone d 0 [(0, ev_r 0)] [] s6 (ev_pi (fun r8 s7 => (Ev layM M_X12_everyone d 0 [(0, ev_r 0)] [] s7 (ev_pi (fun r10 s9 => Ev layM M_X12_fewest (d + 1) 35 [(0, ev_r 0), (1, ev_i a1), (2, ev_i r8), (3, ev_i r10)] [] s9 Q)))))))))))) ∧ (r3 = 0 → Q (some (ev_i (-1))) s2))))))) :
    Ev layM M_X12_fewest (d + 1) 0 [(0, ev_r 0), (1, ev_i a1)] [] s Q := by
  refine Ev_aload_n 0 dX12_fewest_0 rfl rfl ?_
  refine Ev_iconst dX12_fewest_1 rfl (ev_Rc rfl) ?_
  refine Ev_put (i := 0) (ty := .int) cl_X12 yM_0 (Nat.le_of_ble_eq_true rfl) rfl rfl (by decide +kernel) rfl rfl wd_1444 dX12_fewest_2 (Ev_nm (fun s1 es1 => ?_))
  replace h := h s1 es1
  refine Ev_aload_n 0 dX12_fewest_5 rfl rfl ?_
  refine Ev_iload_n 1 dX12_fewest_6 rfl rfl ?_
  refine Ev_iconst dX12_fewest_7 rfl (ev_Rc rfl) ?_
  refine Ev_iconst dX12_fewest_8 rfl (ev_Rc rfl) ?_
  refine Ev_callV (As := [ev_i a1, ev_i 0, ev_i 1]) (b := 0) (st := []) (M' := M_X12_isIn) cm_X12_isIn wd_1650 wd_1652 wd_70 yM_0 cl_X12 rfl dX12_fewest_9 (Nat.le_refl _) rfl (Nat.le_of_ble_eq_true rfl) (Nat.le_of_ble_eq_true rfl) h (fun v u h hk => ?_)
  obtain ⟨r3, rfl⟩ := hk
  obtain ⟨s2, rfl⟩ : ∃ x, x = u := ⟨_, rfl⟩
  replace h := h r3 rfl
  refine Ev_if_ne (tgt := 17) dX12_fewest_12 rfl (fun c => ?_) (fun c => ?_)
  · replace h := h.1 c
    refine Ev_aload_n 0 dX12_fewest_17 rfl rfl ?_
    refine Ev_aload_n 0 dX12_fewest_18 rfl rfl ?_
    refine Ev_callV (As := []) (b := 0) (st := [ev_r 0]) (M' := M_X12_findsAll) cm_X12_findsAll wd_2000 wd_2002 wd_146 yM_0 cl_X12 rfl dX12_fewest_19 (Nat.le_refl _) rfl (Nat.le_of_ble_eq_true rfl) (Nat.le_of_ble_eq_true rfl) h (fun v u h hk => ?_)
    obtain ⟨r5, rfl⟩ := hk
    obtain ⟨s4, rfl⟩ : ∃ x, x = u := ⟨_, rfl⟩
    replace h := h r5 rfl
    refine Ev_callV (As := [ev_i r5]) (b := 0) (st := []) (M' := M_X12_findsMost) cm_X12_findsMost wd_2025 wd_2027 wd_152 yM_0 cl_X12 rfl dX12_fewest_22 (Nat.le_refl _) rfl (Nat.le_of_ble_eq_true rfl) (Nat.le_of_ble_eq_true rfl) h (fun v u h hk => ?_)
    cases hk
    obtain ⟨s6, rfl⟩ : ∃ x, x = u := ⟨_, rfl⟩
    refine Ev_aload_n 0 dX12_fewest_25 rfl rfl ?_
    refine Ev_callV (As := []) (b := 0) (st := []) (M' := M_X12_everyone) cm_X12_everyone wd_2037 wd_2039 wd_155 yM_0 cl_X12 rfl dX12_fewest_26 (Nat.le_refl _) rfl (Nat.le_of_ble_eq_true rfl) (Nat.le_of_ble_eq_true rfl) h (fun v u h hk => ?_)
    obtain ⟨r8, rfl⟩ := hk
    obtain ⟨s7, rfl⟩ : ∃ x, x = u := ⟨_, rfl⟩
    replace h := h r8 rfl
    refine Ev_istore_n (l' := [(2, ev_i r8), (0, ev_r 0), (1, ev_i a1)]) dX12_fewest_29 rfl (Nat.le_of_ble_eq_true rfl) rfl ?_
    refine Ev_aload_n 1 dX12_fewest_30 rfl rfl ?_
    refine Ev_callV (As := []) (b := 0) (st := []) (M' := M_X12_everyone) cm_X12_everyone wd_2037 wd_2039 wd_155 yM_0 cl_X12 rfl dX12_fewest_31 (Nat.le_refl _) rfl (Nat.le_of_ble_eq_true rfl) (Nat.le_of_ble_eq_true rfl) h (fun v u h hk => ?_)
    obtain ⟨r10, rfl⟩ := hk
    obtain ⟨s9, rfl⟩ : ∃ x, x = u := ⟨_, rfl⟩
    replace h := h r10 rfl
    refine Ev_istore_n (l' := [(3, ev_i r10), (2, ev_i r8), (0, ev_r 0), (1, ev_i a1)]) dX12_fewest_34 rfl (Nat.le_of_ble_eq_true rfl) rfl ?_
    exact Ev_sub [2, 3, 1, 0] rfl h
  · replace h := h.2 c
    refine Ev_iconst dX12_fewest_15 rfl (ev_Rc rfl) ?_
    exact Ev_iret rfl dX12_fewest_16 rfl h
theorem wp_X12_fewest_35 {d : Nat} {s : ev_S} {Q : Option ev_V → ev_S → Prop} {a1 a2 a3 : Int}
    (h : ((a3 < 0 → ((a1 ≠ 0 → Q (some (ev_i a2)) s) ∧ (a1 = 0 → (Ev layM M_X12_ones d 0 [(0, ev_r 0), (1, ev_i a2)] [] s (ev_pi (fun r2 s1 => Q (some (ev_i r2)) s1)))))) ∧ (0 ≤ a3 → ((0 ≤ (ev_mul 1024 a3) ∧ (ev_mul 1024 a3) < (65536 : Nat)) ∧ (Ev layM M_X12_everyone d 0 [(0, ev_r 0)] [] s (ev_pi (fun r4 s3 => ((0 ≤ (ev_mul 1024 r4) ∧ (ev_mul 1024 r4) < (65536 : Nat)) ∧ (((s 34 (Int.toNat (ev_mul 1024 a3))) ≠ (s3 34 (Int.toNat (ev_mul 1024 r4))) → Ev layM M_X12_fewest (d + 1) 35 [(0, ev_r 0), (1, ev_i a1), (2, ev_i a2), (3, ev_i (ev_add a3 (-1)))] [] s3 Q) ∧ ((s 34 (Int.toNat (ev_mul 1024 a3))) = (s3 34 (Int.toNat (ev_mul 1024 r4))) → (Ev layM M_X12_ones d 0 [(0, ev_r 0), (1, ev_i a3)] [] s3 (ev_pi (fun r6 s5 => (Ev layM M_X12_ones d 0 [(0, ev_r 0), (1, ev_i a2)] [] s5 (ev_pi (fun r8 s7 => ((r8 < r6 → Ev layM M_X12_fewest (d + 1) 35 [(0, ev_r 0), (1, ev_i a1), (2, ev_i a2), (3, ev_i (ev_add a3 (-1)))] [] s7 Q) ∧ (r6 ≤ r8 → Ev layM M_X12_fewest (d + 1) 35 [(0, ev_r 0), (1, ev_i a1), (2, ev_i a3), (3, ev_i (ev_add a3 (-1)))] [] s7 Q)))))))))))))))))) :
    Ev layM M_X12_fewest (d + 1) 35 [(0, ev_r 0), (1, ev_i a1), (2, ev_i a2), (3, ev_i a3)] [] s Q := by
  refine Ev_iload_n 3 dX12_fewest_35 rfl rfl ?_
  refine Ev_if_lt (tgt := 86) dX12_fewest_36 rfl (fun c => ?_) (fun c => ?_)
  · replace h := h.1 c
    refine Ev_iload_n 1 dX12_fewest_86 rfl rfl ?_
    refine Ev_if_ne (tgt := 98) dX12_fewest_87 rfl (fun c => ?_) (fun c => ?_)
    · replace h := h.1 c
      refine Ev_iload_n 2 dX12_fewest_98 rfl rfl ?_
      exact Ev_iret rfl dX12_fewest_99 rfl h
    · replace h := h.2 c
      refine Ev_aload_n 0 dX12_fewest_90 rfl rfl ?_
      refine Ev_iload_n 2 dX12_fewest_91 rfl rfl ?_
      refine Ev_callV (As := [ev_i a2]) (b := 0) (st := []) (M' := M_X12_ones) cm_X12_ones wd_2049 wd_2051 wd_157 yM_0 cl_X12 rfl dX12_fewest_92 (Nat.le_refl _) rfl (Nat.le_of_ble_eq_true rfl) (Nat.le_of_ble_eq_true rfl) h (fun v u h hk => ?_)
      obtain ⟨r2, rfl⟩ := hk
      obtain ⟨s1, rfl⟩ : ∃ x, x = u := ⟨_, rfl⟩
      replace h := h r2 rfl
      refine Ev_goto (tgt := 99) dX12_fewest_95 rfl ?_
      exact Ev_iret rfl dX12_fewest_99 rfl h
  · replace h := h.2 c
    refine Ev_aload_n 0 dX12_fewest_39 rfl rfl ?_
    refine Ev_getR (i := 57) cl_X12 yM_0 (Nat.le_of_ble_eq_true rfl) rfl wd_1501 dX12_fewest_40 ?_
    refine Ev_sipushC dX12_fewest_43 rfl ?_
    refine Ev_iload_n 3 dX12_fewest_46 rfl rfl ?_
    refine Ev_imul dX12_fewest_47 ?_
    obtain ⟨h0, h⟩ := h
    refine Ev_iald yM_34 h0 dX12_fewest_48 ?_
    refine Ev_aload_n 0 dX12_fewest_49 rfl rfl ?_
    refine Ev_getR (i := 57) cl_X12 yM_0 (Nat.le_of_ble_eq_true rfl) rfl wd_1501 dX12_fewest_50 ?_
    refine Ev_sipushC dX12_fewest_53 rfl ?_
    refine Ev_aload_n 0 dX12_fewest_56 rfl rfl ?_
    refine Ev_callV (As := []) (b := 0) (st := [ev_i 1024, ev_r 34, ev_i (s 34 (Int.toNat (ev_mul 1024 a3)))]) (M' := M_X12_everyone) cm_X12_everyone wd_2037 wd_2039 wd_155 yM_0 cl_X12 rfl dX12_fewest_57 (Nat.le_refl _) rfl (Nat.le_of_ble_eq_true rfl) (Nat.le_of_ble_eq_true rfl) h (fun v u h hk => ?_)
    obtain ⟨r4, rfl⟩ := hk
    obtain ⟨s3, rfl⟩ : ∃ x, x = u := ⟨_, rfl⟩
    replace h := h r4 rfl
    refine Ev_imul dX12_fewest_60 ?_
    obtain ⟨h0, h⟩ := h
    refine Ev_iald yM_34 h0 dX12_fewest_61 ?_
    refine Ev_icmp_ne (tgt := 80) dX12_fewest_62 rfl (fun c => ?_) (fun c => ?_)
    · replace h := h.1 c
      refine Ev_iinc (j := 3) (l' := [(3, ev_i (ev_add a3 (-1))), (0, ev_r 0), (1, ev_i a1), (2, ev_i a2)]) dX12_fewest_80 rfl (Nat.le_of_ble_eq_true rfl) rfl ?_
      refine Ev_goto (tgt := 35) dX12_fewest_83 rfl ?_
      exact Ev_sub [1, 2, 3, 0] rfl h
    · replace h := h.2 c
      refine Ev_aload_n 0 dX12_fewest_65 rfl rfl ?_
      refine Ev_iload_n 3 dX12_fewest_66 rfl rfl ?_
      refine Ev_callV (As := [ev_i a3]) (b := 0) (st := []) (M' := M_X12_ones) cm_X12_ones wd_2049 wd_2051 wd_157 yM_0 cl_X12 rfl dX12_fewest_67 (Nat.le_refl _) rfl (Nat.le_of_ble_eq_true rfl) (Nat.le_of_ble_eq_true rfl) h (fun v u h hk => ?_)
      obtain ⟨r6, rfl⟩ := hk
      obtain ⟨s5, rfl⟩ : ∃ x, x = u := ⟨_, rfl⟩
      replace h := h r6 rfl
      refine Ev_aload_n 0 dX12_fewest_70 rfl rfl ?_
      refine Ev_iload_n 2 dX12_fewest_71 rfl rfl ?_
      refine Ev_callV (As := [ev_i a2]) (b := 0) (st := [ev_i r6]) (M' := M_X12_ones) cm_X12_ones wd_2049 wd_2051 wd_157 yM_0 cl_X12 rfl dX12_fewest_72 (Nat.le_refl _) rfl (Nat.le_of_ble_eq_true rfl) (Nat.le_of_ble_eq_true rfl) h (fun v u h hk => ?_)
      obtain ⟨r8, rfl⟩ := hk
      obtain ⟨s7, rfl⟩ : ∃ x, x = u := ⟨_, rfl⟩
      replace h := h r8 rfl
      refine Ev_icmp_gt (tgt := 80) dX12_fewest_75 rfl (fun c => ?_) (fun c => ?_)
      · replace h := h.1 c
        refine Ev_iinc (j := 3) (l' := [(3, ev_i (ev_add a3 (-1))), (0, ev_r 0), (1, ev_i a1), (2, ev_i a2)]) dX12_fewest_80 rfl (Nat.le_of_ble_eq_true rfl) rfl ?_
        refine Ev_goto (tgt := 35) dX12_fewest_83 rfl ?_
        exact Ev_sub [1, 2, 3, 0] rfl h
      · replace h := h.2 c
        refine Ev_iload_n 3 dX12_fewest_78 rfl rfl ?_
        refine Ev_istore_n (l' := [(2, ev_i a3), (0, ev_r 0), (1, ev_i a1), (3, ev_i a3)]) dX12_fewest_79 rfl (Nat.le_of_ble_eq_true rfl) rfl ?_
        refine Ev_iinc (j := 3) (l' := [(3, ev_i (ev_add a3 (-1))), (2, ev_i a3), (0, ev_r 0), (1, ev_i a1)]) dX12_fewest_80 rfl (Nat.le_of_ble_eq_true rfl) rfl ?_
        refine Ev_goto (tgt := 35) dX12_fewest_83 rfl ?_
        exact Ev_sub [2, 3, 1, 0] rfl h
theorem dX12_seersOf_0 : decode cX12_seersOf 0 = .ok (.iconst 0, 1) := by decide +kernel
theorem dX12_seersOf_1 : decode cX12_seersOf 1 = .ok (.istore_n 2, 1) := by decide +kernel
theorem dX12_seersOf_2 : decode cX12_seersOf 2 = .ok (.iconst 0, 1) := by decide +kernel
theorem dX12_seersOf_3 : decode cX12_seersOf 3 = .ok (.istore_n 3, 1) := by decide +kernel
theorem dX12_seersOf_4 : decode cX12_seersOf 4 = .ok (.iload_n 3, 1) := by decide +kernel
theorem dX12_seersOf_5 : decode cX12_seersOf 5 = .ok (.aload_n 0, 1) := by decide +kernel
theorem dX12_seersOf_6 : decode cX12_seersOf 6 = .ok (.getfield 148, 3) := by decide +kernel
theorem dX12_seersOf_9 : decode cX12_seersOf 9 = .ok (.if_icmp .ge 32, 3) := by decide +kernel
theorem dX12_seersOf_12 : decode cX12_seersOf 12 = .ok (.aload_n 0, 1) := by decide +kernel
theorem dX12_seersOf_13 : decode cX12_seersOf 13 = .ok (.getfield 104, 3) := by decide +kernel
theorem dX12_seersOf_16 : decode cX12_seersOf 16 = .ok (.sipush 1024, 3) := by decide +kernel
theorem dX12_seersOf_19 : decode cX12_seersOf 19 = .ok (.iload_n 3, 1) := by decide +kernel
theorem dX12_seersOf_20 : decode cX12_seersOf 20 = .ok (.imul, 1) := by decide +kernel
theorem dX12_seersOf_21 : decode cX12_seersOf 21 = .ok (.iconst 1, 1) := by decide +kernel
theorem dX12_seersOf_22 : decode cX12_seersOf 22 = .ok (.iload_n 1, 1) := by decide +kernel
theorem dX12_seersOf_23 : decode cX12_seersOf 23 = .ok (.ishl, 1) := by decide +kernel
theorem dX12_seersOf_24 : decode cX12_seersOf 24 = .ok (.iadd, 1) := by decide +kernel
theorem dX12_seersOf_25 : decode cX12_seersOf 25 = .ok (.baload, 1) := by decide +kernel
theorem dX12_seersOf_26 : decode cX12_seersOf 26 = .ok (.ifCond .eq 9, 3) := by decide +kernel
theorem dX12_seersOf_29 : decode cX12_seersOf 29 = .ok (.iload_n 2, 1) := by decide +kernel
theorem dX12_seersOf_30 : decode cX12_seersOf 30 = .ok (.iconst 1, 1) := by decide +kernel
theorem dX12_seersOf_31 : decode cX12_seersOf 31 = .ok (.iload_n 3, 1) := by decide +kernel
theorem dX12_seersOf_32 : decode cX12_seersOf 32 = .ok (.ishl, 1) := by decide +kernel
theorem dX12_seersOf_33 : decode cX12_seersOf 33 = .ok (.ior, 1) := by decide +kernel
theorem dX12_seersOf_34 : decode cX12_seersOf 34 = .ok (.istore_n 2, 1) := by decide +kernel
theorem dX12_seersOf_35 : decode cX12_seersOf 35 = .ok (.iinc 3 1, 3) := by decide +kernel
theorem dX12_seersOf_38 : decode cX12_seersOf 38 = .ok (.goto (-34), 3) := by decide +kernel
theorem dX12_seersOf_41 : decode cX12_seersOf 41 = .ok (.iload_n 2, 1) := by decide +kernel
theorem dX12_seersOf_42 : decode cX12_seersOf 42 = .ok (.ireturn, 1) := by decide +kernel
theorem wp_X12_seersOf_0 {d : Nat} {s : ev_S} {Q : Option ev_V → ev_S → Prop} {a1 : Int}
    (h : Ev layM M_X12_seersOf d 4 [(0, ev_r 0), (1, ev_i a1), (2, ev_i 0), (3, ev_i 0)] [] s Q) :
    Ev layM M_X12_seersOf d 0 [(0, ev_r 0), (1, ev_i a1)] [] s Q := by
  refine Ev_iconst dX12_seersOf_0 rfl (ev_Rc rfl) ?_
  refine Ev_istore_n (l' := [(2, ev_i 0), (0, ev_r 0), (1, ev_i a1)]) dX12_seersOf_1 rfl (Nat.le_of_ble_eq_true rfl) rfl ?_
  refine Ev_iconst dX12_seersOf_2 rfl (ev_Rc rfl) ?_
  refine Ev_istore_n (l' := [(3, ev_i 0), (2, ev_i 0), (0, ev_r 0), (1, ev_i a1)]) dX12_seersOf_3 rfl (Nat.le_of_ble_eq_true rfl) rfl ?_
  exact Ev_sub [2, 3, 1, 0] rfl h
theorem wp_X12_seersOf_4 {d : Nat} {s : ev_S} {Q : Option ev_V → ev_S → Prop} {a1 a2 a3 : Int}
    (h : (((s 0 11) ≤ a3 → Q (some (ev_i a2)) s) ∧ (a3 < (s 0 11) → ((0 ≤ (ev_add (ev_mul 1024 a3) (ev_shl 1 a1)) ∧ (ev_add (ev_mul 1024 a3) (ev_shl 1 a1)) < (6144 : Nat)) ∧ (((s 31 (Int.toNat (ev_add (ev_mul 1024 a3) (ev_shl 1 a1)))) = 0 → Ev layM M_X12_seersOf d 4 [(0, ev_r 0), (1, ev_i a1), (2, ev_i a2), (3, ev_i (ev_add a3 1))] [] s Q) ∧ ((s 31 (Int.toNat (ev_add (ev_mul 1024 a3) (ev_shl 1 a1)))) ≠ 0 → Ev layM M_X12_seersOf d 4 [(0, ev_r 0), (1, ev_i a1), (2, ev_i (ev_or a2 (ev_shl 1 a3))), (3, ev_i (ev_add a3 1))] [] s Q)))))) :
    Ev layM M_X12_seersOf d 4 [(0, ev_r 0), (1, ev_i a1), (2, ev_i a2), (3, ev_i a3)] [] s Q := by
  refine Ev_iload_n 3 dX12_seersOf_4 rfl rfl ?_
  refine Ev_aload_n 0 dX12_seersOf_5 rfl rfl ?_
  refine Ev_get (i := 11) cl_X12 yM_0 (Nat.le_of_ble_eq_true rfl) rfl wd_1455 dX12_seersOf_6 ?_
  refine Ev_icmp_ge (tgt := 41) dX12_seersOf_9 rfl (fun c => ?_) (fun c => ?_)
  · replace h := h.1 c
    refine Ev_iload_n 2 dX12_seersOf_41 rfl rfl ?_
    exact Ev_iret rfl dX12_seersOf_42 rfl h
  · replace h := h.2 c
    refine Ev_aload_n 0 dX12_seersOf_12 rfl rfl ?_
    refine Ev_getR (i := 54) cl_X12 yM_0 (Nat.le_of_ble_eq_true rfl) rfl wd_1498 dX12_seersOf_13 ?_
    refine Ev_sipushC dX12_seersOf_16 rfl ?_
    refine Ev_iload_n 3 dX12_seersOf_19 rfl rfl ?_
    refine Ev_imul dX12_seersOf_20 ?_
    refine Ev_iconst dX12_seersOf_21 rfl (ev_Rc rfl) ?_
    refine Ev_iload_n 1 dX12_seersOf_22 rfl rfl ?_
    refine Ev_ishl dX12_seersOf_23 ?_
    refine Ev_iadd dX12_seersOf_24 ?_
    obtain ⟨h0, h⟩ := h
    refine Ev_zald yM_31 h0 dX12_seersOf_25 ?_
    refine Ev_if_eq (tgt := 35) dX12_seersOf_26 rfl (fun c => ?_) (fun c => ?_)
    · replace h := h.1 c
      refine Ev_iinc (j := 3) (l' := [(3, ev_i (ev_add a3 1)), (0, ev_r 0), (1, ev_i a1), (2, ev_i a2)]) dX12_seersOf_35 rfl (Nat.le_of_ble_eq_true rfl) rfl ?_
      refine Ev_goto (tgt := 4) dX12_seersOf_38 rfl ?_
      exact Ev_sub [1, 2, 3, 0] rfl h
    · replace h := h.2 c
      refine Ev_iload_n 2 dX12_seersOf_29 rfl rfl ?_
      refine Ev_iconst dX12_seersOf_30 rfl (ev_Rc rfl) ?_
      refine Ev_iload_n 3 dX12_seersOf_31 rfl rfl ?_
      refine Ev_ishl dX12_seersOf_32 ?_
      refine Ev_ior dX12_seersOf_33 ?_
      refine Ev_istore_n (l' := [(2, ev_i (ev_or a2 (ev_shl 1 a3))), (0, ev_r 0), (1, ev_i a1), (3, ev_i a3)]) dX12_seersOf_34 rfl (Nat.le_of_ble_eq_true rfl) rfl ?_
      refine Ev_iinc (j := 3) (l' := [(3, ev_i (ev_add a3 1)), (2, ev_i (ev_or a2 (ev_shl 1 a3))), (0, ev_r 0), (1, ev_i a1)]) dX12_seersOf_35 rfl (Nat.le_of_ble_eq_true rfl) rfl ?_
      refine Ev_goto (tgt := 4) dX12_seersOf_38 rfl ?_
      exact Ev_sub [2, 3, 1, 0] rfl h
theorem dX12_seenBy_0 : decode cX12_seenBy 0 = .ok (.aload_n 0, 1) := by decide +kernel
theorem dX12_seenBy_1 : decode cX12_seenBy 1 = .ok (.invokevirtual 457, 3) := by decide +kernel
theorem dX12_seenBy_4 : decode cX12_seenBy 4 = .ok (.istore_n 2, 1) := by decide +kernel
theorem dX12_seenBy_5 : decode cX12_seenBy 5 = .ok (.iconst 0, 1) := by decide +kernel
theorem dX12_seenBy_6 : decode cX12_seenBy 6 = .ok (.istore_n 3, 1) := by decide +kernel
theorem dX12_seenBy_7 : decode cX12_seenBy 7 = .ok (.iconst 0, 1) := by decide +kernel
theorem dX12_seenBy_8 : decode cX12_seenBy 8 = .ok (.istore 4, 2) := by decide +kernel
theorem dX12_seenBy_10 : decode cX12_seenBy 10 = .ok (.iload 4, 2) := by decide +kernel
theorem dX12_seenBy_12 : decode cX12_seenBy 12 = .ok (.aload_n 0, 1) := by decide +kernel
theorem dX12_seenBy_13 : decode cX12_seenBy 13 = .ok (.getfield 165, 3) := by decide +kernel
theorem dX12_seenBy_16 : decode cX12_seenBy 16 = .ok (.if_icmp .ge 40, 3) := by decide +kernel
theorem dX12_seenBy_19 : decode cX12_seenBy 19 = .ok (.iload_n 2, 1) := by decide +kernel
theorem dX12_seenBy_20 : decode cX12_seenBy 20 = .ok (.iload 4, 2) := by decide +kernel
theorem dX12_seenBy_22 : decode cX12_seenBy 22 = .ok (.ishr, 1) := by decide +kernel
theorem dX12_seenBy_23 : decode cX12_seenBy 23 = .ok (.iconst 1, 1) := by decide +kernel
theorem dX12_seenBy_24 : decode cX12_seenBy 24 = .ok (.iand, 1) := by decide +kernel
theorem dX12_seenBy_25 : decode cX12_seenBy 25 = .ok (.iconst 1, 1) := by decide +kernel
theorem dX12_seenBy_26 : decode cX12_seenBy 26 = .ok (.if_icmp .ne 24, 3) := by decide +kernel
theorem dX12_seenBy_29 : decode cX12_seenBy 29 = .ok (.aload_n 0, 1) := by decide +kernel
theorem dX12_seenBy_30 : decode cX12_seenBy 30 = .ok (.aload_n 0, 1) := by decide +kernel
theorem dX12_seenBy_31 : decode cX12_seenBy 31 = .ok (.iload 4, 2) := by decide +kernel
theorem dX12_seenBy_33 : decode cX12_seenBy 33 = .ok (.invokevirtual 472, 3) := by decide +kernel
theorem dX12_seenBy_36 : decode cX12_seenBy 36 = .ok (.invokevirtual 469, 3) := by decide +kernel
theorem dX12_seenBy_39 : decode cX12_seenBy 39 = .ok (.iload_n 1, 1) := by decide +kernel
theorem dX12_seenBy_40 : decode cX12_seenBy 40 = .ok (.if_icmp .ne 10, 3) := by decide +kernel
theorem dX12_seenBy_43 : decode cX12_seenBy 43 = .ok (.iload_n 3, 1) := by decide +kernel
theorem dX12_seenBy_44 : decode cX12_seenBy 44 = .ok (.iconst 1, 1) := by decide +kernel
theorem dX12_seenBy_45 : decode cX12_seenBy 45 = .ok (.iload 4, 2) := by decide +kernel
theorem dX12_seenBy_47 : decode cX12_seenBy 47 = .ok (.ishl, 1) := by decide +kernel
theorem dX12_seenBy_48 : decode cX12_seenBy 48 = .ok (.ior, 1) := by decide +kernel
theorem dX12_seenBy_49 : decode cX12_seenBy 49 = .ok (.istore_n 3, 1) := by decide +kernel
theorem dX12_seenBy_50 : decode cX12_seenBy 50 = .ok (.iinc 4 1, 3) := by decide +kernel
theorem dX12_seenBy_53 : decode cX12_seenBy 53 = .ok (.goto (-43), 3) := by decide +kernel
theorem dX12_seenBy_56 : decode cX12_seenBy 56 = .ok (.iload_n 3, 1) := by decide +kernel
theorem dX12_seenBy_57 : decode cX12_seenBy 57 = .ok (.ireturn, 1) := by decide +kernel
theorem wp_X12_seenBy_0 {d : Nat} {s : ev_S} {Q : Option ev_V → ev_S → Prop} {a1 : Int}
    (h : (Ev layM M_X12_findsAll d 0 [(0, ev_r 0)] [] s (ev_pi (fun r2 s1 => Ev layM M_X12_seenBy (d + 1) 10 [(0, ev_r 0), (1, ev_i a1), (2, ev_i r2), (3, ev_i 0), (4, ev_i 0)] [] s1 Q)))) :
    Ev layM M_X12_seenBy (d + 1) 0 [(0, ev_r 0), (1, ev_i a1)] [] s Q := by
  refine Ev_aload_n 0 dX12_seenBy_0 rfl rfl ?_
  refine Ev_callV (As := []) (b := 0) (st := []) (M' := M_X12_findsAll) cm_X12_findsAll wd_2000 wd_2002 wd_146 yM_0 cl_X12 rfl dX12_seenBy_1 (Nat.le_refl _) rfl (Nat.le_of_ble_eq_true rfl) (Nat.le_of_ble_eq_true rfl) h (fun v u h hk => ?_)
  obtain ⟨r2, rfl⟩ := hk
  obtain ⟨s1, rfl⟩ : ∃ x, x = u := ⟨_, rfl⟩
  replace h := h r2 rfl
  refine Ev_istore_n (l' := [(2, ev_i r2), (0, ev_r 0), (1, ev_i a1)]) dX12_seenBy_4 rfl (Nat.le_of_ble_eq_true rfl) rfl ?_
  refine Ev_iconst dX12_seenBy_5 rfl (ev_Rc rfl) ?_
  refine Ev_istore_n (l' := [(3, ev_i 0), (2, ev_i r2), (0, ev_r 0), (1, ev_i a1)]) dX12_seenBy_6 rfl (Nat.le_of_ble_eq_true rfl) rfl ?_
  refine Ev_iconst dX12_seenBy_7 rfl (ev_Rc rfl) ?_
  refine Ev_istore (l' := [(4, ev_i 0), (3, ev_i 0), (2, ev_i r2), (0, ev_r 0), (1, ev_i a1)]) dX12_seenBy_8 (Nat.le_of_ble_eq_true rfl) rfl ?_
  exact Ev_sub [3, 4, 2, 1, 0] rfl h
theorem wp_X12_seenBy_10 {d : Nat} {s : ev_S} {Q : Option ev_V → ev_S → Prop} {a1 a2 a3 a4 : Int}
    (h : (((s 0 46) ≤ a4 → Q (some (ev_i a3)) s) ∧ (a4 < (s 0 46) → (((ev_and (ev_shr a2 a4) 1) ≠ 1 → Ev layM M_X12_seenBy (d + 1) 10 [(0, ev_r 0), (1, ev_i a1), (2, ev_i a2), (3, ev_i a3), (4, ev_i (ev_add a4 1))] [] s Q) ∧ ((ev_and (ev_shr a2 a4) 1) = 1 → (Ev layM M_X12_seersOf d 0 [(0, ev_r 0), (1, ev_i a4)] [] s (ev_pi (fun r2 s1 => (Ev layM M_X12_ones d 0 [(0, ev_r 0), (1, ev_i r2)] [] s1 (ev_pi (fun r4 s3 => ((r4 ≠ a1 → Ev layM M_X12_seenBy (d + 1) 10 [(0, ev_r 0), (1, ev_i a1), (2, ev_i a2), (3, ev_i a3), (4, ev_i (ev_add a4 1))] [] s3 Q) ∧ (r4 = a1 → Ev layM M_X12_seenBy (d + 1) 10 [(0, ev_r 0), (1, ev_i a1), (2, ev_i a2), (3, ev_i (ev_or a3 (ev_shl 1 a4))), (4, ev_i (ev_add a4 1))] [] s3 Q))))))))))))) :
    Ev layM M_X12_seenBy (d + 1) 10 [(0, ev_r 0), (1, ev_i a1), (2, ev_i a2), (3, ev_i a3), (4, ev_i a4)] [] s Q := by
  refine Ev_iload 4 dX12_seenBy_10 rfl ?_
  refine Ev_aload_n 0 dX12_seenBy_12 rfl rfl ?_
  refine Ev_get (i := 46) cl_X12 yM_0 (Nat.le_of_ble_eq_true rfl) rfl wd_1490 dX12_seenBy_13 ?_
  refine Ev_icmp_ge (tgt := 56) dX12_seenBy_16 rfl (fun c => ?_) (fun c => ?_)
  · replace h := h.1 c
    refine Ev_iload_n 3 dX12_seenBy_56 rfl rfl ?_
    exact Ev_iret rfl dX12_seenBy_57 rfl h
  · replace h := h.2 c
    refine Ev_iload_n 2 dX12_seenBy_19 rfl rfl ?_
    refine Ev_iload 4 dX12_seenBy_20 rfl ?_
    refine Ev_ishr dX12_seenBy_22 ?_
    refine Ev_iconst dX12_seenBy_23 rfl (ev_Rc rfl) ?_
    refine Ev_iand dX12_seenBy_24 ?_
    refine Ev_iconst dX12_seenBy_25 rfl (ev_Rc rfl) ?_
    refine Ev_icmp_ne (tgt := 50) dX12_seenBy_26 rfl (fun c => ?_) (fun c => ?_)
    · replace h := h.1 c
      refine Ev_iinc (j := 4) (l' := [(4, ev_i (ev_add a4 1)), (0, ev_r 0), (1, ev_i a1), (2, ev_i a2), (3, ev_i a3)]) dX12_seenBy_50 rfl (Nat.le_of_ble_eq_true rfl) rfl ?_
      refine Ev_goto (tgt := 10) dX12_seenBy_53 rfl ?_
      exact Ev_sub [1, 2, 3, 4, 0] rfl h
    · replace h := h.2 c
      refine Ev_aload_n 0 dX12_seenBy_29 rfl rfl ?_
      refine Ev_aload_n 0 dX12_seenBy_30 rfl rfl ?_
      refine Ev_iload 4 dX12_seenBy_31 rfl ?_
      refine Ev_callV (As := [ev_i a4]) (b := 0) (st := [ev_r 0]) (M' := M_X12_seersOf) cm_X12_seersOf wd_2061 wd_2063 wd_159 yM_0 cl_X12 rfl dX12_seenBy_33 (Nat.le_refl _) rfl (Nat.le_of_ble_eq_true rfl) (Nat.le_of_ble_eq_true rfl) h (fun v u h hk => ?_)
      obtain ⟨r2, rfl⟩ := hk
      obtain ⟨s1, rfl⟩ : ∃ x, x = u := ⟨_, rfl⟩
      replace h := h r2 rfl
      refine Ev_callV (As := [ev_i r2]) (b := 0) (st := []) (M' := M_X12_ones) cm_X12_ones wd_2049 wd_2051 wd_157 yM_0 cl_X12 rfl dX12_seenBy_36 (Nat.le_refl _) rfl (Nat.le_of_ble_eq_true rfl) (Nat.le_of_ble_eq_true rfl) h (fun v u h hk => ?_)
      obtain ⟨r4, rfl⟩ := hk
      obtain ⟨s3, rfl⟩ : ∃ x, x = u := ⟨_, rfl⟩
      replace h := h r4 rfl
      refine Ev_iload_n 1 dX12_seenBy_39 rfl rfl ?_
      refine Ev_icmp_ne (tgt := 50) dX12_seenBy_40 rfl (fun c => ?_) (fun c => ?_)
      · replace h := h.1 c
        refine Ev_iinc (j := 4) (l' := [(4, ev_i (ev_add a4 1)), (0, ev_r 0), (1, ev_i a1), (2, ev_i a2), (3, ev_i a3)]) dX12_seenBy_50 rfl (Nat.le_of_ble_eq_true rfl) rfl ?_
        refine Ev_goto (tgt := 10) dX12_seenBy_53 rfl ?_
        exact Ev_sub [1, 2, 3, 4, 0] rfl h
      · replace h := h.2 c
        refine Ev_iload_n 3 dX12_seenBy_43 rfl rfl ?_
        refine Ev_iconst dX12_seenBy_44 rfl (ev_Rc rfl) ?_
        refine Ev_iload 4 dX12_seenBy_45 rfl ?_
        refine Ev_ishl dX12_seenBy_47 ?_
        refine Ev_ior dX12_seenBy_48 ?_
        refine Ev_istore_n (l' := [(3, ev_i (ev_or a3 (ev_shl 1 a4))), (0, ev_r 0), (1, ev_i a1), (2, ev_i a2), (4, ev_i a4)]) dX12_seenBy_49 rfl (Nat.le_of_ble_eq_true rfl) rfl ?_
        refine Ev_iinc (j := 4) (l' := [(4, ev_i (ev_add a4 1)), (3, ev_i (ev_or a3 (ev_shl 1 a4))), (0, ev_r 0), (1, ev_i a1), (2, ev_i a2)]) dX12_seenBy_50 rfl (Nat.le_of_ble_eq_true rfl) rfl ?_
        refine Ev_goto (tgt := 10) dX12_seenBy_53 rfl ?_
        exact Ev_sub [2, 3, 4, 1, 0] rfl h
theorem dX12_hopeless_0 : decode cX12_hopeless 0 = .ok (.aload_n 0, 1) := by decide +kernel
theorem dX12_hopeless_1 : decode cX12_hopeless 1 = .ok (.iconst 0, 1) := by decide +kernel
theorem dX12_hopeless_2 : decode cX12_hopeless 2 = .ok (.putfield 124, 3) := by decide +kernel
theorem dX12_hopeless_5 : decode cX12_hopeless 5 = .ok (.aload_n 0, 1) := by decide +kernel
theorem dX12_hopeless_6 : decode cX12_hopeless 6 = .ok (.iconst 0, 1) := by decide +kernel
theorem dX12_hopeless_7 : decode cX12_hopeless 7 = .ok (.invokevirtual 475, 3) := by decide +kernel
theorem dX12_hopeless_10 : decode cX12_hopeless 10 = .ok (.ireturn, 1) := by decide +kernel
theorem wp_X12_hopeless_0 {d : Nat} {s : ev_S} {Q : Option ev_V → ev_S → Prop}
    (h : (∀ s1, ev_up s 0 0 0 = s1 → (Ev layM M_X12_seenBy d 0 [(0, ev_r 0), (1, ev_i 0)] [] s1 (ev_pi (fun r3 s2 => Q (some (ev_i r3)) s2))))) :
    Ev layM M_X12_hopeless (d + 1) 0 [(0, ev_r 0)] [] s Q := by
  refine Ev_aload_n 0 dX12_hopeless_0 rfl rfl ?_
  refine Ev_iconst dX12_hopeless_1 rfl (ev_Rc rfl) ?_
  refine Ev_put (i := 0) (ty := .int) cl_X12 yM_0 (Nat.le_of_ble_eq_true rfl) rfl rfl (by decide +kernel) rfl rfl wd_1444 dX12_hopeless_2 (Ev_nm (fun s1 es1 => ?_))
  replace h := h s1 es1
  refine Ev_aload_n 0 dX12_hopeless_5 rfl rfl ?_
  refine Ev_iconst dX12_hopeless_6 rfl (ev_Rc rfl) ?_
  refine Ev_callV (As := [ev_i 0]) (b := 0) (st := []) (M' := M_X12_seenBy) cm_X12_seenBy wd_2057 wd_2059 wd_158 yM_0 cl_X12 rfl dX12_hopeless_7 (Nat.le_refl _) rfl (Nat.le_of_ble_eq_true rfl) (Nat.le_of_ble_eq_true rfl) h (fun v u h hk => ?_)
  obtain ⟨r3, rfl⟩ := hk
  obtain ⟨s2, rfl⟩ : ∃ x, x = u := ⟨_, rfl⟩
  replace h := h r3 rfl
  exact Ev_iret rfl dX12_hopeless_10 rfl h
theorem dX12_shows_0 : decode cX12_shows 0 = .ok (.aload_n 0, 1) := by decide +kernel
theorem dX12_shows_1 : decode cX12_shows 1 = .ok (.iconst 0, 1) := by decide +kernel
theorem dX12_shows_2 : decode cX12_shows 2 = .ok (.putfield 124, 3) := by decide +kernel
theorem dX12_shows_5 : decode cX12_shows 5 = .ok (.aload_n 0, 1) := by decide +kernel
theorem dX12_shows_6 : decode cX12_shows 6 = .ok (.iconst 1, 1) := by decide +kernel
theorem dX12_shows_7 : decode cX12_shows 7 = .ok (.invokevirtual 475, 3) := by decide +kernel
theorem dX12_shows_10 : decode cX12_shows 10 = .ok (.ireturn, 1) := by decide +kernel
theorem wp_X12_shows_0 {d : Nat} {s : ev_S} {Q : Option ev_V → ev_S → Prop}
    (h : (∀ s1, ev_up s 0 0 0 = s1 → (Ev layM M_X12_seenBy d 0 [(0, ev_r 0), (1, ev_i 1)] [] s1 (ev_pi (fun r3 s2 => Q (some (ev_i r3)) s2))))) :
    Ev layM M_X12_shows (d + 1) 0 [(0, ev_r 0)] [] s Q := by
  refine Ev_aload_n 0 dX12_shows_0 rfl rfl ?_
  refine Ev_iconst dX12_shows_1 rfl (ev_Rc rfl) ?_
  refine Ev_put (i := 0) (ty := .int) cl_X12 yM_0 (Nat.le_of_ble_eq_true rfl) rfl rfl (by decide +kernel) rfl rfl wd_1444 dX12_shows_2 (Ev_nm (fun s1 es1 => ?_))
  replace h := h s1 es1
  refine Ev_aload_n 0 dX12_shows_5 rfl rfl ?_
  refine Ev_iconst dX12_shows_6 rfl (ev_Rc rfl) ?_
  refine Ev_callV (As := [ev_i 1]) (b := 0) (st := []) (M' := M_X12_seenBy) cm_X12_seenBy wd_2057 wd_2059 wd_158 yM_0 cl_X12 rfl dX12_shows_7 (Nat.le_refl _) rfl (Nat.le_of_ble_eq_true rfl) (Nat.le_of_ble_eq_true rfl) h (fun v u h hk => ?_)
  obtain ⟨r3, rfl⟩ := hk
  obtain ⟨s2, rfl⟩ : ∃ x, x = u := ⟨_, rfl⟩
  replace h := h r3 rfl
  exact Ev_iret rfl dX12_shows_10 rfl h
theorem dX12_worthOf_0 : decode cX12_worthOf 0 = .ok (.aload_n 0, 1) := by decide +kernel
theorem dX12_worthOf_1 : decode cX12_worthOf 1 = .ok (.aload_n 0, 1) := by decide +kernel
theorem dX12_worthOf_2 : decode cX12_worthOf 2 = .ok (.invokevirtual 457, 3) := by decide +kernel
theorem dX12_worthOf_5 : decode cX12_worthOf 5 = .ok (.invokevirtual 460, 3) := by decide +kernel
theorem dX12_worthOf_8 : decode cX12_worthOf 8 = .ok (.aload_n 0, 1) := by decide +kernel
theorem dX12_worthOf_9 : decode cX12_worthOf 9 = .ok (.getfield 115, 3) := by decide +kernel
theorem dX12_worthOf_12 : decode cX12_worthOf 12 = .ok (.sipush 1024, 3) := by decide +kernel
theorem dX12_worthOf_15 : decode cX12_worthOf 15 = .ok (.aload_n 0, 1) := by decide +kernel
theorem dX12_worthOf_16 : decode cX12_worthOf 16 = .ok (.invokevirtual 463, 3) := by decide +kernel
theorem dX12_worthOf_19 : decode cX12_worthOf 19 = .ok (.imul, 1) := by decide +kernel
theorem dX12_worthOf_20 : decode cX12_worthOf 20 = .ok (.iaload, 1) := by decide +kernel
theorem dX12_worthOf_21 : decode cX12_worthOf 21 = .ok (.aload_n 0, 1) := by decide +kernel
theorem dX12_worthOf_22 : decode cX12_worthOf 22 = .ok (.getfield 115, 3) := by decide +kernel
theorem dX12_worthOf_25 : decode cX12_worthOf 25 = .ok (.sipush 1024, 3) := by decide +kernel
theorem dX12_worthOf_28 : decode cX12_worthOf 28 = .ok (.aload_n 0, 1) := by decide +kernel
theorem dX12_worthOf_29 : decode cX12_worthOf 29 = .ok (.invokevirtual 463, 3) := by decide +kernel
theorem dX12_worthOf_32 : decode cX12_worthOf 32 = .ok (.iconst 1, 1) := by decide +kernel
theorem dX12_worthOf_33 : decode cX12_worthOf 33 = .ok (.iload_n 1, 1) := by decide +kernel
theorem dX12_worthOf_34 : decode cX12_worthOf 34 = .ok (.ishl, 1) := by decide +kernel
theorem dX12_worthOf_35 : decode cX12_worthOf 35 = .ok (.iconst (-1), 1) := by decide +kernel
theorem dX12_worthOf_36 : decode cX12_worthOf 36 = .ok (.ixor, 1) := by decide +kernel
theorem dX12_worthOf_37 : decode cX12_worthOf 37 = .ok (.iand, 1) := by decide +kernel
theorem dX12_worthOf_38 : decode cX12_worthOf 38 = .ok (.imul, 1) := by decide +kernel
theorem dX12_worthOf_39 : decode cX12_worthOf 39 = .ok (.iaload, 1) := by decide +kernel
theorem dX12_worthOf_40 : decode cX12_worthOf 40 = .ok (.isub, 1) := by decide +kernel
theorem dX12_worthOf_41 : decode cX12_worthOf 41 = .ok (.ireturn, 1) := by decide +kernel
theorem wp_X12_worthOf_0 {d : Nat} {s : ev_S} {Q : Option ev_V → ev_S → Prop} {a1 : Int}
    (h : (Ev layM M_X12_findsAll d 0 [(0, ev_r 0)] [] s (ev_pi (fun r2 s1 => (Ev layM M_X12_findsMost d 0 [(0, ev_r 0), (1, ev_i r2)] [] s1 (fun _ s3 => (Ev layM M_X12_everyone d 0 [(0, ev_r 0)] [] s3 (ev_pi (fun r5 s4 => ((0 ≤ (ev_mul 1024 r5) ∧ (ev_mul 1024 r5) < (65536 : Nat)) ∧ (Ev layM M_X12_everyone d 0 [(0, ev_r 0)] [] s4 (ev_pi (fun r7 s6 => ((0 ≤ (ev_mul 1024 (ev_and r7 (ev_xor (ev_shl 1 a1) (-1)))) ∧ (ev_mul 1024 (ev_and r7 (ev_xor (ev_shl 1 a1) (-1)))) < (65536 : Nat)) ∧ Q (some (ev_i (ev_sub (s4 34 (Int.toNat (ev_mul 1024 r5))) (s6 34 (Int.toNat (ev_mul 1024 (ev_and r7 (ev_xor (ev_shl 1 a1) (-1))))))))) s6)))))))))))))) :
    Ev layM M_X12_worthOf (d + 1) 0 [(0, ev_r 0), (1, ev_i a1)] [] s Q := by
  refine Ev_aload_n 0 dX12_worthOf_0 rfl rfl ?_
  refine Ev_aload_n 0 dX12_worthOf_1 rfl rfl ?_
  refine Ev_callV (As := []) (b := 0) (st := [ev_r 0]) (M' := M_X12_findsAll) cm_X12_findsAll wd_2000 wd_2002 wd_146 yM_0 cl_X12 rfl dX12_worthOf_2 (Nat.le_refl _) rfl (Nat.le_of_ble_eq_true rfl) (Nat.le_of_ble_eq_true rfl) h (fun v u h hk => ?_)
  obtain ⟨r2, rfl⟩ := hk
  obtain ⟨s1, rfl⟩ : ∃ x, x = u := ⟨_, rfl⟩
  replace h := h r2 rfl
  refine Ev_callV (As := [ev_i r2]) (b := 0) (st := []) (M' := M_X12_findsMost) cm_X12_findsMost wd_2025 wd_2027 wd_152 yM_0 cl_X12 rfl dX12_worthOf_5 (Nat.le_refl _) rfl (Nat.le_of_ble_eq_true rfl) (Nat.le_of_ble_eq_true rfl) h (fun v u h hk => ?_)
  cases hk
  obtain ⟨s3, rfl⟩ : ∃ x, x = u := ⟨_, rfl⟩
  refine Ev_aload_n 0 dX12_worthOf_8 rfl rfl ?_
  refine Ev_getR (i := 57) cl_X12 yM_0 (Nat.le_of_ble_eq_true rfl) rfl wd_1501 dX12_worthOf_9 ?_
  refine Ev_sipushC dX12_worthOf_12 rfl ?_
  refine Ev_aload_n 0 dX12_worthOf_15 rfl rfl ?_
  refine Ev_callV (As := []) (b := 0) (st := [ev_i 1024, ev_r 34]) (M' := M_X12_everyone) cm_X12_everyone wd_2037 wd_2039 wd_155 yM_0 cl_X12 rfl dX12_worthOf_16 (Nat.le_refl _) rfl (Nat.le_of_ble_eq_true rfl) (Nat.le_of_ble_eq_true rfl) h (fun v u h hk => ?_)
  obtain ⟨r5, rfl⟩ := hk
  obtain ⟨s4, rfl⟩ : ∃ x, x = u := ⟨_, rfl⟩
  replace h := h r5 rfl
  refine Ev_imul dX12_worthOf_19 ?_
  obtain ⟨h0, h⟩ := h
  refine Ev_iald yM_34 h0 dX12_worthOf_20 ?_
  refine Ev_aload_n 0 dX12_worthOf_21 rfl rfl ?_
  refine Ev_getR (i := 57) cl_X12 yM_0 (Nat.le_of_ble_eq_true rfl) rfl wd_1501 dX12_worthOf_22 ?_
  refine Ev_sipushC dX12_worthOf_25 rfl ?_
  refine Ev_aload_n 0 dX12_worthOf_28 rfl rfl ?_
  refine Ev_callV (As := []) (b := 0) (st := [ev_i 1024, ev_r 34, ev_i (s4 34 (Int.toNat (ev_mul 1024 r5)))]) (M' := M_X12_everyone) cm_X12_everyone wd_2037 wd_2039 wd_155 yM_0 cl_X12 rfl dX12_worthOf_29 (Nat.le_refl _) rfl (Nat.le_of_ble_eq_true rfl) (Nat.le_of_ble_eq_true rfl) h (fun v u h hk => ?_)
  obtain ⟨r7, rfl⟩ := hk
  obtain ⟨s6, rfl⟩ : ∃ x, x = u := ⟨_, rfl⟩
  replace h := h r7 rfl
  refine Ev_iconst dX12_worthOf_32 rfl (ev_Rc rfl) ?_
  refine Ev_iload_n 1 dX12_worthOf_33 rfl rfl ?_
  refine Ev_ishl dX12_worthOf_34 ?_
  refine Ev_iconst dX12_worthOf_35 rfl (ev_Rc rfl) ?_
  refine Ev_ixor dX12_worthOf_36 ?_
  refine Ev_iand dX12_worthOf_37 ?_
  refine Ev_imul dX12_worthOf_38 ?_
  obtain ⟨h0, h⟩ := h
  refine Ev_iald yM_34 h0 dX12_worthOf_39 ?_
  refine Ev_isub dX12_worthOf_40 ?_
  exact Ev_iret rfl dX12_worthOf_41 rfl h
theorem dX12_riskAt_0 : decode cX12_riskAt 0 = .ok (.aload_n 0, 1) := by decide +kernel
theorem dX12_riskAt_1 : decode cX12_riskAt 1 = .ok (.getfield 7, 3) := by decide +kernel
theorem dX12_riskAt_4 : decode cX12_riskAt 4 = .ok (.iconst 0, 1) := by decide +kernel
theorem dX12_riskAt_5 : decode cX12_riskAt 5 = .ok (.iaload, 1) := by decide +kernel
theorem dX12_riskAt_6 : decode cX12_riskAt 6 = .ok (.aload_n 0, 1) := by decide +kernel
theorem dX12_riskAt_7 : decode cX12_riskAt 7 = .ok (.aload_n 0, 1) := by decide +kernel
theorem dX12_riskAt_8 : decode cX12_riskAt 8 = .ok (.getfield 7, 3) := by decide +kernel
theorem dX12_riskAt_11 : decode cX12_riskAt 11 = .ok (.bipush 27, 2) := by decide +kernel
theorem dX12_riskAt_13 : decode cX12_riskAt 13 = .ok (.iload_n 1, 1) := by decide +kernel
theorem dX12_riskAt_14 : decode cX12_riskAt 14 = .ok (.iadd, 1) := by decide +kernel
theorem dX12_riskAt_15 : decode cX12_riskAt 15 = .ok (.iaload, 1) := by decide +kernel
theorem dX12_riskAt_16 : decode cX12_riskAt 16 = .ok (.iload_n 2, 1) := by decide +kernel
theorem dX12_riskAt_17 : decode cX12_riskAt 17 = .ok (.invokevirtual 378, 3) := by decide +kernel
theorem dX12_riskAt_20 : decode cX12_riskAt 20 = .ok (.aload_n 0, 1) := by decide +kernel
theorem dX12_riskAt_21 : decode cX12_riskAt 21 = .ok (.getfield 22, 3) := by decide +kernel
theorem dX12_riskAt_24 : decode cX12_riskAt 24 = .ok (.iload_n 1, 1) := by decide +kernel
theorem dX12_riskAt_25 : decode cX12_riskAt 25 = .ok (.iaload, 1) := by decide +kernel
theorem dX12_riskAt_26 : decode cX12_riskAt 26 = .ok (.imul, 1) := by decide +kernel
theorem dX12_riskAt_27 : decode cX12_riskAt 27 = .ok (.iadd, 1) := by decide +kernel
theorem dX12_riskAt_28 : decode cX12_riskAt 28 = .ok (.istore_n 3, 1) := by decide +kernel
theorem dX12_riskAt_29 : decode cX12_riskAt 29 = .ok (.iconst 0, 1) := by decide +kernel
theorem dX12_riskAt_30 : decode cX12_riskAt 30 = .ok (.istore 4, 2) := by decide +kernel
theorem dX12_riskAt_32 : decode cX12_riskAt 32 = .ok (.iconst 0, 1) := by decide +kernel
theorem dX12_riskAt_33 : decode cX12_riskAt 33 = .ok (.istore 5, 2) := by decide +kernel
theorem dX12_riskAt_35 : decode cX12_riskAt 35 = .ok (.iload 5, 2) := by decide +kernel
theorem dX12_riskAt_37 : decode cX12_riskAt 37 = .ok (.aload_n 0, 1) := by decide +kernel
theorem dX12_riskAt_38 : decode cX12_riskAt 38 = .ok (.getfield 165, 3) := by decide +kernel
theorem dX12_riskAt_41 : decode cX12_riskAt 41 = .ok (.if_icmp .ge 53, 3) := by decide +kernel
theorem dX12_riskAt_44 : decode cX12_riskAt 44 = .ok (.aload_n 0, 1) := by decide +kernel
theorem dX12_riskAt_45 : decode cX12_riskAt 45 = .ok (.getfield 101, 3) := by decide +kernel
theorem dX12_riskAt_48 : decode cX12_riskAt 48 = .ok (.iload 5, 2) := by decide +kernel
theorem dX12_riskAt_50 : decode cX12_riskAt 50 = .ok (.iaload, 1) := by decide +kernel
theorem dX12_riskAt_51 : decode cX12_riskAt 51 = .ok (.iconst (-1), 1) := by decide +kernel
theorem dX12_riskAt_52 : decode cX12_riskAt 52 = .ok (.if_icmp .eq 36, 3) := by decide +kernel
theorem dX12_riskAt_55 : decode cX12_riskAt 55 = .ok (.aload_n 0, 1) := by decide +kernel
theorem dX12_riskAt_56 : decode cX12_riskAt 56 = .ok (.iload 5, 2) := by decide +kernel
theorem dX12_riskAt_58 : decode cX12_riskAt 58 = .ok (.iconst 1, 1) := by decide +kernel
theorem dX12_riskAt_59 : decode cX12_riskAt 59 = .ok (.invokevirtual 396, 3) := by decide +kernel
theorem dX12_riskAt_62 : decode cX12_riskAt 62 = .ok (.iload_n 2, 1) := by decide +kernel
theorem dX12_riskAt_63 : decode cX12_riskAt 63 = .ok (.if_icmp .ne 25, 3) := by decide +kernel
theorem dX12_riskAt_66 : decode cX12_riskAt 66 = .ok (.iload_n 3, 1) := by decide +kernel
theorem dX12_riskAt_67 : decode cX12_riskAt 67 = .ok (.aload_n 0, 1) := by decide +kernel
theorem dX12_riskAt_68 : decode cX12_riskAt 68 = .ok (.getfield 101, 3) := by decide +kernel
theorem dX12_riskAt_71 : decode cX12_riskAt 71 = .ok (.iload 5, 2) := by decide +kernel
theorem dX12_riskAt_73 : decode cX12_riskAt 73 = .ok (.iaload, 1) := by decide +kernel
theorem dX12_riskAt_74 : decode cX12_riskAt 74 = .ok (.if_icmp .gt 14, 3) := by decide +kernel
theorem dX12_riskAt_77 : decode cX12_riskAt 77 = .ok (.iload 4, 2) := by decide +kernel
theorem dX12_riskAt_79 : decode cX12_riskAt 79 = .ok (.aload_n 0, 1) := by decide +kernel
theorem dX12_riskAt_80 : decode cX12_riskAt 80 = .ok (.iload 5, 2) := by decide +kernel
theorem dX12_riskAt_82 : decode cX12_riskAt 82 = .ok (.invokevirtual 432, 3) := by decide +kernel
theorem dX12_riskAt_85 : decode cX12_riskAt 85 = .ok (.iadd, 1) := by decide +kernel
theorem dX12_riskAt_86 : decode cX12_riskAt 86 = .ok (.istore 4, 2) := by decide +kernel
theorem dX12_riskAt_88 : decode cX12_riskAt 88 = .ok (.iinc 5 1, 3) := by decide +kernel
theorem dX12_riskAt_91 : decode cX12_riskAt 91 = .ok (.goto (-56), 3) := by decide +kernel
theorem dX12_riskAt_94 : decode cX12_riskAt 94 = .ok (.iload 4, 2) := by decide +kernel
theorem dX12_riskAt_96 : decode cX12_riskAt 96 = .ok (.ireturn, 1) := by decide +kernel
theorem wp_X12_riskAt_0 {d : Nat} {s : ev_S} {Q : Option ev_V → ev_S → Prop} {a1 a2 : Int}
    (h : ((0 ≤ (ev_add 27 a1) ∧ (ev_add 27 a1) < (87 : Nat)) ∧ (Ev layM M_X12_farOf d 0 [(0, ev_r 0), (1, ev_i (s 1 (Int.toNat (ev_add 27 a1)))), (2, ev_i a2)] [] s (ev_pi (fun r2 s1 => ((0 ≤ a1 ∧ a1 < (6 : Nat)) ∧ Ev layM M_X12_riskAt (d + 1) 35 [(0, ev_r 0), (2, ev_i a2), (3, ev_i (ev_add (s 1 0) (ev_mul r2 (s1 5 (Int.toNat a1))))), (4, ev_i 0), (5, ev_i 0)] [] s1 Q)))))) :
    Ev layM M_X12_riskAt (d + 1) 0 [(0, ev_r 0), (1, ev_i a1), (2, ev_i a2)] [] s Q := by
  refine Ev_aload_n 0 dX12_riskAt_0 rfl rfl ?_
  refine Ev_getR (i := 1) cl_X12 yM_0 (Nat.le_of_ble_eq_true rfl) rfl wd_1445 dX12_riskAt_1 ?_
  refine Ev_iconst dX12_riskAt_4 rfl (ev_Rc rfl) ?_
  refine Ev_iald yM_1 (by decide) dX12_riskAt_5 ?_
  refine Ev_aload_n 0 dX12_riskAt_6 rfl rfl ?_
  refine Ev_aload_n 0 dX12_riskAt_7 rfl rfl ?_
  refine Ev_getR (i := 1) cl_X12 yM_0 (Nat.le_of_ble_eq_true rfl) rfl wd_1445 dX12_riskAt_8 ?_
  refine Ev_bipushC dX12_riskAt_11 rfl ?_
  refine Ev_iload_n 1 dX12_riskAt_13 rfl rfl ?_
  refine Ev_iadd dX12_riskAt_14 ?_
  obtain ⟨h0, h⟩ := h
  refine Ev_iald yM_1 h0 dX12_riskAt_15 ?_
  refine Ev_iload_n 2 dX12_riskAt_16 rfl rfl ?_
  refine Ev_callV (As := [ev_i (s 1 (Int.toNat (ev_add 27 a1))), ev_i a2]) (b := 0) (st := [ev_i (s 1 0)]) (M' := M_X12_farOf) cm_X12_farOf wd_1902 wd_1904 wd_124 yM_0 cl_X12 rfl dX12_riskAt_17 (Nat.le_refl _) rfl (Nat.le_of_ble_eq_true rfl) (Nat.le_of_ble_eq_true rfl) h (fun v u h hk => ?_)
  obtain ⟨r2, rfl⟩ := hk
  obtain ⟨s1, rfl⟩ : ∃ x, x = u := ⟨_, rfl⟩
  replace h := h r2 rfl
  refine Ev_aload_n 0 dX12_riskAt_20 rfl rfl ?_
  refine Ev_getR (i := 13) cl_X12 yM_0 (Nat.le_of_ble_eq_true rfl) rfl wd_1457 dX12_riskAt_21 ?_
  refine Ev_iload_n 1 dX12_riskAt_24 rfl rfl ?_
  obtain ⟨h0, h⟩ := h
  refine Ev_iald yM_5 h0 dX12_riskAt_25 ?_
  refine Ev_imul dX12_riskAt_26 ?_
  refine Ev_iadd dX12_riskAt_27 ?_
  refine Ev_istore_n (l' := [(3, ev_i (ev_add (s 1 0) (ev_mul r2 (s1 5 (Int.toNat a1))))), (0, ev_r 0), (1, ev_i a1), (2, ev_i a2)]) dX12_riskAt_28 rfl (Nat.le_of_ble_eq_true rfl) rfl ?_
  refine Ev_iconst dX12_riskAt_29 rfl (ev_Rc rfl) ?_
  refine Ev_istore (l' := [(4, ev_i 0), (3, ev_i (ev_add (s 1 0) (ev_mul r2 (s1 5 (Int.toNat a1))))), (0, ev_r 0), (1, ev_i a1), (2, ev_i a2)]) dX12_riskAt_30 (Nat.le_of_ble_eq_true rfl) rfl ?_
  refine Ev_iconst dX12_riskAt_32 rfl (ev_Rc rfl) ?_
  refine Ev_istore (l' := [(5, ev_i 0), (4, ev_i 0), (3, ev_i (ev_add (s 1 0) (ev_mul r2 (s1 5 (Int.toNat a1))))), (0, ev_r 0), (1, ev_i a1), (2, ev_i a2)]) dX12_riskAt_33 (Nat.le_of_ble_eq_true rfl) rfl ?_
  exact Ev_sub [3, 5, 2, 1, 0] rfl h
theorem wp_X12_riskAt_35 {d : Nat} {s : ev_S} {Q : Option ev_V → ev_S → Prop} {a2 a3 a4 a5 : Int}
    (h : (((s 0 46) ≤ a5 → Q (some (ev_i a4)) s) ∧ (a5 < (s 0 46) → ((0 ≤ a5 ∧ a5 < (10 : Nat)) ∧ (((s 30 (Int.toNat a5)) = (-1) → Ev layM M_X12_riskAt (d + 1) 35 [(0, ev_r 0), (2, ev_i a2), (3, ev_i a3), (4, ev_i a4), (5, ev_i (ev_add a5 1))] [] s Q) ∧ ((s 30 (Int.toNat a5)) ≠ (-1) → (Ev layM M_X12_ofMishap d 0 [(0, ev_r 0), (1, ev_i a5), (2, ev_i 1)] [] s (ev_pi (fun r2 s1 => ((r2 ≠ a2 → Ev layM M_X12_riskAt (d + 1) 35 [(0, ev_r 0), (2, ev_i a2), (3, ev_i a3), (4, ev_i a4), (5, ev_i (ev_add a5 1))] [] s1 Q) ∧ (r2 = a2 → ((0 ≤ a5 ∧ a5 < (10 : Nat)) ∧ (((s1 30 (Int.toNat a5)) < a3 → Ev layM M_X12_riskAt (d + 1) 35 [(0, ev_r 0), (2, ev_i a2), (3, ev_i a3), (4, ev_i a4), (5, ev_i (ev_add a5 1))] [] s1 Q) ∧ (a3 ≤ (s1 30 (Int.toNat a5)) → (Ev layM M_X12_riskOf d 0 [(0, ev_r 0), (1, ev_i a5)] [] s1 (ev_pi (fun r4 s3 => Ev layM M_X12_riskAt (d + 1) 35 [(0, ev_r 0), (2, ev_i a2), (3, ev_i a3), (4, ev_i (ev_add a4 r4)), (5, ev_i (ev_add a5 1))] [] s3 Q))))))))))))))))) :
    Ev layM M_X12_riskAt (d + 1) 35 [(0, ev_r 0), (2, ev_i a2), (3, ev_i a3), (4, ev_i a4), (5, ev_i a5)] [] s Q := by
  refine Ev_iload 4 dX12_riskAt_35 rfl ?_
  refine Ev_aload_n 0 dX12_riskAt_37 rfl rfl ?_
  refine Ev_get (i := 46) cl_X12 yM_0 (Nat.le_of_ble_eq_true rfl) rfl wd_1490 dX12_riskAt_38 ?_
  refine Ev_icmp_ge (tgt := 94) dX12_riskAt_41 rfl (fun c => ?_) (fun c => ?_)
  · replace h := h.1 c
    refine Ev_iload 3 dX12_riskAt_94 rfl ?_
    exact Ev_iret rfl dX12_riskAt_96 rfl h
  · replace h := h.2 c
    refine Ev_aload_n 0 dX12_riskAt_44 rfl rfl ?_
    refine Ev_getR (i := 53) cl_X12 yM_0 (Nat.le_of_ble_eq_true rfl) rfl wd_1497 dX12_riskAt_45 ?_
    refine Ev_iload 4 dX12_riskAt_48 rfl ?_
    obtain ⟨h0, h⟩ := h
    refine Ev_iald yM_30 h0 dX12_riskAt_50 ?_
    refine Ev_iconst dX12_riskAt_51 rfl (ev_Rc rfl) ?_
    refine Ev_icmp_eq (tgt := 88) dX12_riskAt_52 rfl (fun c => ?_) (fun c => ?_)
    · replace h := h.1 c
      refine Ev_iinc (j := 4) (l' := [(5, ev_i (ev_add a5 1)), (0, ev_r 0), (2, ev_i a2), (3, ev_i a3), (4, ev_i a4)]) dX12_riskAt_88 rfl (Nat.le_of_ble_eq_true rfl) rfl ?_
      refine Ev_goto (tgt := 35) dX12_riskAt_91 rfl ?_
      exact Ev_sub [1, 2, 3, 4, 0] rfl h
    · replace h := h.2 c
      refine Ev_aload_n 0 dX12_riskAt_55 rfl rfl ?_
      refine Ev_iload 4 dX12_riskAt_56 rfl ?_
      refine Ev_iconst dX12_riskAt_58 rfl (ev_Rc rfl) ?_
      refine Ev_callV (As := [ev_i a5, ev_i 1]) (b := 0) (st := []) (M' := M_X12_ofMishap) cm_X12_ofMishap wd_1954 wd_1956 wd_137 yM_0 cl_X12 rfl dX12_riskAt_59 (Nat.le_refl _) rfl (Nat.le_of_ble_eq_true rfl) (Nat.le_of_ble_eq_true rfl) h (fun v u h hk => ?_)
      obtain ⟨r2, rfl⟩ := hk
      obtain ⟨s1, rfl⟩ : ∃ x, x = u := ⟨_, rfl⟩
      replace h := h r2 rfl
      refine Ev_iload_n 1 dX12_riskAt_62 rfl rfl ?_
      refine Ev_icmp_ne (tgt := 88) dX12_riskAt_63 rfl (fun c => ?_) (fun c => ?_)
      · replace h := h.1 c
        refine Ev_iinc (j := 4) (l' := [(5, ev_i (ev_add a5 1)), (0, ev_r 0), (2, ev_i a2), (3, ev_i a3), (4, ev_i a4)]) dX12_riskAt_88 rfl (Nat.le_of_ble_eq_true rfl) rfl ?_
        refine Ev_goto (tgt := 35) dX12_riskAt_91 rfl ?_
        exact Ev_sub [1, 2, 3, 4, 0] rfl h
      · replace h := h.2 c
        refine Ev_iload_n 2 dX12_riskAt_66 rfl rfl ?_
        refine Ev_aload_n 0 dX12_riskAt_67 rfl rfl ?_
        refine Ev_getR (i := 53) cl_X12 yM_0 (Nat.le_of_ble_eq_true rfl) rfl wd_1497 dX12_riskAt_68 ?_
        refine Ev_iload 4 dX12_riskAt_71 rfl ?_
        obtain ⟨h0, h⟩ := h
        refine Ev_iald yM_30 h0 dX12_riskAt_73 ?_
        refine Ev_icmp_gt (tgt := 88) dX12_riskAt_74 rfl (fun c => ?_) (fun c => ?_)
        · replace h := h.1 c
          refine Ev_iinc (j := 4) (l' := [(5, ev_i (ev_add a5 1)), (0, ev_r 0), (2, ev_i a2), (3, ev_i a3), (4, ev_i a4)]) dX12_riskAt_88 rfl (Nat.le_of_ble_eq_true rfl) rfl ?_
          refine Ev_goto (tgt := 35) dX12_riskAt_91 rfl ?_
          exact Ev_sub [1, 2, 3, 4, 0] rfl h
        · replace h := h.2 c
          refine Ev_iload 3 dX12_riskAt_77 rfl ?_
          refine Ev_aload_n 0 dX12_riskAt_79 rfl rfl ?_
          refine Ev_iload 4 dX12_riskAt_80 rfl ?_
          refine Ev_callV (As := [ev_i a5]) (b := 0) (st := [ev_i a4]) (M' := M_X12_riskOf) cm_X12_riskOf wd_1984 wd_1986 wd_143 yM_0 cl_X12 rfl dX12_riskAt_82 (Nat.le_refl _) rfl (Nat.le_of_ble_eq_true rfl) (Nat.le_of_ble_eq_true rfl) h (fun v u h hk => ?_)
          obtain ⟨r4, rfl⟩ := hk
          obtain ⟨s3, rfl⟩ : ∃ x, x = u := ⟨_, rfl⟩
          replace h := h r4 rfl
          refine Ev_iadd dX12_riskAt_85 ?_
          refine Ev_istore (l' := [(4, ev_i (ev_add a4 r4)), (0, ev_r 0), (2, ev_i a2), (3, ev_i a3), (5, ev_i a5)]) dX12_riskAt_86 (Nat.le_of_ble_eq_true rfl) rfl ?_
          refine Ev_iinc (j := 4) (l' := [(5, ev_i (ev_add a5 1)), (4, ev_i (ev_add a4 r4)), (0, ev_r 0), (2, ev_i a2), (3, ev_i a3)]) dX12_riskAt_88 rfl (Nat.le_of_ble_eq_true rfl) rfl ?_
          refine Ev_goto (tgt := 35) dX12_riskAt_91 rfl ?_
          exact Ev_sub [2, 3, 4, 1, 0] rfl h
theorem dX12_waitOf_0 : decode cX12_waitOf 0 = .ok (.aload_n 0, 1) := by decide +kernel
theorem dX12_waitOf_1 : decode cX12_waitOf 1 = .ok (.invokevirtual 445, 3) := by decide +kernel
theorem dX12_waitOf_4 : decode cX12_waitOf 4 = .ok (.iconst 0, 1) := by decide +kernel
theorem dX12_waitOf_5 : decode cX12_waitOf 5 = .ok (.istore_n 2, 1) := by decide +kernel
theorem dX12_waitOf_6 : decode cX12_waitOf 6 = .ok (.iconst 1, 1) := by decide +kernel
theorem dX12_waitOf_7 : decode cX12_waitOf 7 = .ok (.istore_n 3, 1) := by decide +kernel
theorem dX12_waitOf_8 : decode cX12_waitOf 8 = .ok (.iload_n 3, 1) := by decide +kernel
theorem dX12_waitOf_9 : decode cX12_waitOf 9 = .ok (.bipush 64, 2) := by decide +kernel
theorem dX12_waitOf_11 : decode cX12_waitOf 11 = .ok (.if_icmp .ge 34, 3) := by decide +kernel
theorem dX12_waitOf_14 : decode cX12_waitOf 14 = .ok (.aload_n 0, 1) := by decide +kernel
theorem dX12_waitOf_15 : decode cX12_waitOf 15 = .ok (.iload_n 3, 1) := by decide +kernel
theorem dX12_waitOf_16 : decode cX12_waitOf 16 = .ok (.invokevirtual 175, 3) := by decide +kernel
theorem dX12_waitOf_19 : decode cX12_waitOf 19 = .ok (.ifCond .eq 20, 3) := by decide +kernel
theorem dX12_waitOf_22 : decode cX12_waitOf 22 = .ok (.aload_n 0, 1) := by decide +kernel
theorem dX12_waitOf_23 : decode cX12_waitOf 23 = .ok (.iload_n 1, 1) := by decide +kernel
theorem dX12_waitOf_24 : decode cX12_waitOf 24 = .ok (.iload_n 3, 1) := by decide +kernel
theorem dX12_waitOf_25 : decode cX12_waitOf 25 = .ok (.invokevirtual 478, 3) := by decide +kernel
theorem dX12_waitOf_28 : decode cX12_waitOf 28 = .ok (.aload_n 0, 1) := by decide +kernel
theorem dX12_waitOf_29 : decode cX12_waitOf 29 = .ok (.iload_n 1, 1) := by decide +kernel
theorem dX12_waitOf_30 : decode cX12_waitOf 30 = .ok (.iload_n 2, 1) := by decide +kernel
theorem dX12_waitOf_31 : decode cX12_waitOf 31 = .ok (.invokevirtual 478, 3) := by decide +kernel
theorem dX12_waitOf_34 : decode cX12_waitOf 34 = .ok (.if_icmp .le 5, 3) := by decide +kernel
theorem dX12_waitOf_37 : decode cX12_waitOf 37 = .ok (.iload_n 3, 1) := by decide +kernel
theorem dX12_waitOf_38 : decode cX12_waitOf 38 = .ok (.istore_n 2, 1) := by decide +kernel
theorem dX12_waitOf_39 : decode cX12_waitOf 39 = .ok (.iinc 3 1, 3) := by decide +kernel
theorem dX12_waitOf_42 : decode cX12_waitOf 42 = .ok (.goto (-34), 3) := by decide +kernel
theorem dX12_waitOf_45 : decode cX12_waitOf 45 = .ok (.iload_n 2, 1) := by decide +kernel
theorem dX12_waitOf_46 : decode cX12_waitOf 46 = .ok (.ireturn, 1) := by decide +kernel
theorem wp_X12_waitOf_0 {d : Nat} {s : ev_S} {Q : Option ev_V → ev_S → Prop} {a1 : Int}
    (h : (Ev layM M_X12_foresees d 0 [(0, ev_r 0)] [] s (fun _ s1 => Ev layM M_X12_waitOf (d + 1) 8 [(0, ev_r 0), (1, ev_i a1), (2, ev_i 0), (3, ev_i 1)] [] s1 Q))) :
    Ev layM M_X12_waitOf (d + 1) 0 [(0, ev_r 0), (1, ev_i a1)] [] s Q := by
  refine Ev_aload_n 0 dX12_waitOf_0 rfl rfl ?_
  refine Ev_callV (As := []) (b := 0) (st := []) (M' := M_X12_foresees) cm_X12_foresees wd_2004 wd_2006 wd_147 yM_0 cl_X12 rfl dX12_waitOf_1 (Nat.le_refl _) rfl (Nat.le_of_ble_eq_true rfl) (Nat.le_of_ble_eq_true rfl) h (fun v u h hk => ?_)
  cases hk
  obtain ⟨s1, rfl⟩ : ∃ x, x = u := ⟨_, rfl⟩
  refine Ev_iconst dX12_waitOf_4 rfl (ev_Rc rfl) ?_
  refine Ev_istore_n (l' := [(2, ev_i 0), (0, ev_r 0), (1, ev_i a1)]) dX12_waitOf_5 rfl (Nat.le_of_ble_eq_true rfl) rfl ?_
  refine Ev_iconst dX12_waitOf_6 rfl (ev_Rc rfl) ?_
  refine Ev_istore_n (l' := [(3, ev_i 1), (2, ev_i 0), (0, ev_r 0), (1, ev_i a1)]) dX12_waitOf_7 rfl (Nat.le_of_ble_eq_true rfl) rfl ?_
  exact Ev_sub [2, 3, 1, 0] rfl h
theorem wp_X12_waitOf_8 {d : Nat} {s : ev_S} {Q : Option ev_V → ev_S → Prop} {a1 a2 a3 : Int}
    (h : ((64 ≤ a3 → Q (some (ev_i a2)) s) ∧ (a3 < 64 → (Ev layM M_X12_isPlace d 0 [(0, ev_r 0), (1, ev_i a3)] [] s (ev_pi (fun r2 s1 => ((r2 = 0 → Ev layM M_X12_waitOf (d + 1) 8 [(0, ev_r 0), (1, ev_i a1), (2, ev_i a2), (3, ev_i (ev_add a3 1))] [] s1 Q) ∧ (r2 ≠ 0 → (Ev layM M_X12_riskAt d 0 [(0, ev_r 0), (1, ev_i a1), (2, ev_i a3)] [] s1 (ev_pi (fun r4 s3 => (Ev layM M_X12_riskAt d 0 [(0, ev_r 0), (1, ev_i a1), (2, ev_i a2)] [] s3 (ev_pi (fun r6 s5 => ((r4 ≤ r6 → Ev layM M_X12_waitOf (d + 1) 8 [(0, ev_r 0), (1, ev_i a1), (2, ev_i a2), (3, ev_i (ev_add a3 1))] [] s5 Q) ∧ (r6 < r4 → Ev layM M_X12_waitOf (d + 1) 8 [(0, ev_r 0), (1, ev_i a1), (2, ev_i a3), (3, ev_i (ev_add a3 1))] [] s5 Q)))))))))))))))) :
    Ev layM M_X12_waitOf (d + 1) 8 [(0, ev_r 0), (1, ev_i a1), (2, ev_i a2), (3, ev_i a3)] [] s Q := by
  refine Ev_iload_n 3 dX12_waitOf_8 rfl rfl ?_
  refine Ev_bipushC dX12_waitOf_9 rfl ?_
  refine Ev_icmp_ge (tgt := 45) dX12_waitOf_11 rfl (fun c => ?_) (fun c => ?_)
  · replace h := h.1 c
    refine Ev_iload_n 2 dX12_waitOf_45 rfl rfl ?_
    exact Ev_iret rfl dX12_waitOf_46 rfl h
  · replace h := h.2 c
    refine Ev_aload_n 0 dX12_waitOf_14 rfl rfl ?_
    refine Ev_iload_n 3 dX12_waitOf_15 rfl rfl ?_
    refine Ev_callV (As := [ev_i a3]) (b := 0) (st := []) (M' := M_X12_isPlace) cm_X12_isPlace wd_1666 wd_1668 wd_72 yM_0 cl_X12 rfl dX12_waitOf_16 (Nat.le_refl _) rfl (Nat.le_of_ble_eq_true rfl) (Nat.le_of_ble_eq_true rfl) h (fun v u h hk => ?_)
    obtain ⟨r2, rfl⟩ := hk
    obtain ⟨s1, rfl⟩ : ∃ x, x = u := ⟨_, rfl⟩
    replace h := h r2 rfl
    refine Ev_if_eq (tgt := 39) dX12_waitOf_19 rfl (fun c => ?_) (fun c => ?_)
    · replace h := h.1 c
      refine Ev_iinc (j := 3) (l' := [(3, ev_i (ev_add a3 1)), (0, ev_r 0), (1, ev_i a1), (2, ev_i a2)]) dX12_waitOf_39 rfl (Nat.le_of_ble_eq_true rfl) rfl ?_
      refine Ev_goto (tgt := 8) dX12_waitOf_42 rfl ?_
      exact Ev_sub [1, 2, 3, 0] rfl h
    · replace h := h.2 c
      refine Ev_aload_n 0 dX12_waitOf_22 rfl rfl ?_
      refine Ev_iload_n 1 dX12_waitOf_23 rfl rfl ?_
      refine Ev_iload_n 3 dX12_waitOf_24 rfl rfl ?_
      refine Ev_callV (As := [ev_i a1, ev_i a3]) (b := 0) (st := []) (M' := M_X12_riskAt) cm_X12_riskAt wd_2085 wd_2087 wd_162 yM_0 cl_X12 rfl dX12_waitOf_25 (Nat.le_refl _) rfl (Nat.le_of_ble_eq_true rfl) (Nat.le_of_ble_eq_true rfl) h (fun v u h hk => ?_)
      obtain ⟨r4, rfl⟩ := hk
      obtain ⟨s3, rfl⟩ : ∃ x, x = u := ⟨_, rfl⟩
      replace h := h r4 rfl
      refine Ev_aload_n 0 dX12_waitOf_28 rfl rfl ?_
      refine Ev_iload_n 1 dX12_waitOf_29 rfl rfl ?_
      refine Ev_iload_n 2 dX12_waitOf_30 rfl rfl ?_
      refine Ev_callV (As := [ev_i a1, ev_i a2]) (b := 0) (st := [ev_i r4]) (M' := M_X12_riskAt) cm_X12_riskAt wd_2085 wd_2087 wd_162 yM_0 cl_X12 rfl dX12_waitOf_31 (Nat.le_refl _) rfl (Nat.le_of_ble_eq_true rfl) (Nat.le_of_ble_eq_true rfl) h (fun v u h hk => ?_)
      obtain ⟨r6, rfl⟩ := hk
      obtain ⟨s5, rfl⟩ : ∃ x, x = u := ⟨_, rfl⟩
      replace h := h r6 rfl
      refine Ev_icmp_le (tgt := 39) dX12_waitOf_34 rfl (fun c => ?_) (fun c => ?_)
      · replace h := h.1 c
        refine Ev_iinc (j := 3) (l' := [(3, ev_i (ev_add a3 1)), (0, ev_r 0), (1, ev_i a1), (2, ev_i a2)]) dX12_waitOf_39 rfl (Nat.le_of_ble_eq_true rfl) rfl ?_
        refine Ev_goto (tgt := 8) dX12_waitOf_42 rfl ?_
        exact Ev_sub [1, 2, 3, 0] rfl h
      · replace h := h.2 c
        refine Ev_iload_n 3 dX12_waitOf_37 rfl rfl ?_
        refine Ev_istore_n (l' := [(2, ev_i a3), (0, ev_r 0), (1, ev_i a1), (3, ev_i a3)]) dX12_waitOf_38 rfl (Nat.le_of_ble_eq_true rfl) rfl ?_
        refine Ev_iinc (j := 3) (l' := [(3, ev_i (ev_add a3 1)), (2, ev_i a3), (0, ev_r 0), (1, ev_i a1)]) dX12_waitOf_39 rfl (Nat.le_of_ble_eq_true rfl) rfl ?_
        refine Ev_goto (tgt := 8) dX12_waitOf_42 rfl ?_
        exact Ev_sub [2, 3, 1, 0] rfl h
theorem dX12_of_0 : decode cX12_of 0 = .ok (.aload_n 0, 1) := by decide +kernel
theorem dX12_of_1 : decode cX12_of 1 = .ok (.iconst 0, 1) := by decide +kernel
theorem dX12_of_2 : decode cX12_of 2 = .ok (.putfield 124, 3) := by decide +kernel
theorem dX12_of_5 : decode cX12_of 5 = .ok (.aload_n 0, 1) := by decide +kernel
theorem dX12_of_6 : decode cX12_of 6 = .ok (.iload_n 1, 1) := by decide +kernel
theorem dX12_of_7 : decode cX12_of 7 = .ok (.invokevirtual 318, 3) := by decide +kernel
theorem dX12_of_10 : decode cX12_of 10 = .ok (.ifCond .ne 5, 3) := by decide +kernel
theorem dX12_of_13 : decode cX12_of 13 = .ok (.iconst (-1), 1) := by decide +kernel
theorem dX12_of_14 : decode cX12_of 14 = .ok (.ireturn, 1) := by decide +kernel
theorem dX12_of_15 : decode cX12_of 15 = .ok (.iload_n 2, 1) := by decide +kernel
theorem dX12_of_16 : decode cX12_of 16 = .ok (.ifCond .ne 12, 3) := by decide +kernel
theorem dX12_of_19 : decode cX12_of 19 = .ok (.aload_n 0, 1) := by decide +kernel
theorem dX12_of_20 : decode cX12_of 20 = .ok (.getfield 7, 3) := by decide +kernel
theorem dX12_of_23 : decode cX12_of 23 = .ok (.iconst 3, 1) := by decide +kernel
theorem dX12_of_24 : decode cX12_of 24 = .ok (.iload_n 1, 1) := by decide +kernel
theorem dX12_of_25 : decode cX12_of 25 = .ok (.iadd, 1) := by decide +kernel
theorem dX12_of_26 : decode cX12_of 26 = .ok (.iaload, 1) := by decide +kernel
theorem dX12_of_27 : decode cX12_of 27 = .ok (.ireturn, 1) := by decide +kernel
theorem dX12_of_28 : decode cX12_of 28 = .ok (.iload_n 2, 1) := by decide +kernel
theorem dX12_of_29 : decode cX12_of 29 = .ok (.iconst 1, 1) := by decide +kernel
theorem dX12_of_30 : decode cX12_of 30 = .ok (.if_icmp .ne 15, 3) := by decide +kernel
theorem dX12_of_33 : decode cX12_of 33 = .ok (.aload_n 0, 1) := by decide +kernel
theorem dX12_of_34 : decode cX12_of 34 = .ok (.getfield 7, 3) := by decide +kernel
theorem dX12_of_37 : decode cX12_of 37 = .ok (.bipush 11, 2) := by decide +kernel
theorem dX12_of_39 : decode cX12_of 39 = .ok (.iload_n 1, 1) := by decide +kernel
theorem dX12_of_40 : decode cX12_of 40 = .ok (.iadd, 1) := by decide +kernel
theorem dX12_of_41 : decode cX12_of 41 = .ok (.iaload, 1) := by decide +kernel
theorem dX12_of_42 : decode cX12_of 42 = .ok (.goto 28, 3) := by decide +kernel
theorem dX12_of_45 : decode cX12_of 45 = .ok (.iload_n 2, 1) := by decide +kernel
theorem dX12_of_46 : decode cX12_of 46 = .ok (.iconst 2, 1) := by decide +kernel
theorem dX12_of_47 : decode cX12_of 47 = .ok (.if_icmp .ne 22, 3) := by decide +kernel
theorem dX12_of_50 : decode cX12_of 50 = .ok (.aload_n 0, 1) := by decide +kernel
theorem dX12_of_51 : decode cX12_of 51 = .ok (.getfield 74, 3) := by decide +kernel
theorem dX12_of_54 : decode cX12_of 54 = .ok (.iload_n 1, 1) := by decide +kernel
theorem dX12_of_55 : decode cX12_of 55 = .ok (.iaload, 1) := by decide +kernel
theorem dX12_of_56 : decode cX12_of 56 = .ok (.aload_n 0, 1) := by decide +kernel
theorem dX12_of_57 : decode cX12_of 57 = .ok (.getfield 7, 3) := by decide +kernel
theorem dX12_of_60 : decode cX12_of 60 = .ok (.bipush 19, 2) := by decide +kernel
theorem dX12_of_62 : decode cX12_of 62 = .ok (.iload_n 1, 1) := by decide +kernel
theorem dX12_of_63 : decode cX12_of 63 = .ok (.iadd, 1) := by decide +kernel
theorem dX12_of_64 : decode cX12_of 64 = .ok (.iaload, 1) := by decide +kernel
theorem dX12_of_65 : decode cX12_of 65 = .ok (.isub, 1) := by decide +kernel
theorem dX12_of_66 : decode cX12_of 66 = .ok (.goto 4, 3) := by decide +kernel
theorem dX12_of_69 : decode cX12_of 69 = .ok (.iconst (-1), 1) := by decide +kernel
theorem dX12_of_70 : decode cX12_of 70 = .ok (.ireturn, 1) := by decide +kernel
theorem wp_X12_of_0 {d : Nat} {s : ev_S} {Q : Option ev_V → ev_S → Prop} {a1 a2 : Int}
    (h : (∀ s1, ev_up s 0 0 0 = s1 → (Ev layM M_X12_isWard d 0 [(0, ev_r 0), (1, ev_i a1)] [] s1 (ev_pi (fun r3 s2 => ((r3 ≠ 0 → ((a2 ≠ 0 → ((a2 ≠ 1 → ((a2 ≠ 2 → Q (some (ev_i (-1))) s2) ∧ (a2 = 2 → ((0 ≤ a1 ∧ a1 < (8 : Nat)) ∧ ((0 ≤ (ev_add 19 a1) ∧ (ev_add 19 a1) < (87 : Nat)) ∧ Q (some (ev_i (ev_sub (s2 21 (Int.toNat a1)) (s2 1 (Int.toNat (ev_add 19 a1)))))) s2))))) ∧ (a2 = 1 → ((0 ≤ (ev_add 11 a1) ∧ (ev_add 11 a1) < (87 : Nat)) ∧ Q (some (ev_i (s2 1 (Int.toNat (ev_add 11 a1))))) s2)))) ∧ (a2 = 0 → ((0 ≤ (ev_add 3 a1) ∧ (ev_add 3 a1) < (87 : Nat)) ∧ Q (some (ev_i (s2 1 (Int.toNat (ev_add 3 a1))))) s2)))) ∧ (r3 = 0 → Q (some (ev_i (-1))) s2))))))) :
    Ev layM M_X12_of (d + 1) 0 [(0, ev_r 0), (1, ev_i a1), (2, ev_i a2)] [] s Q := by
  refine Ev_aload_n 0 dX12_of_0 rfl rfl ?_
  refine Ev_iconst dX12_of_1 rfl (ev_Rc rfl) ?_
  refine Ev_put (i := 0) (ty := .int) cl_X12 yM_0 (Nat.le_of_ble_eq_true rfl) rfl rfl (by decide +kernel) rfl rfl wd_1444 dX12_of_2 (Ev_nm (fun s1 es1 => ?_))
  replace h := h s1 es1
  refine Ev_aload_n 0 dX12_of_5 rfl rfl ?_
  refine Ev_iload_n 1 dX12_of_6 rfl rfl ?_
  refine Ev_callV (As := [ev_i a1]) (b := 0) (st := []) (M' := M_X12_isWard) cm_X12_isWard wd_1698 wd_1700 wd_75 yM_0 cl_X12 rfl dX12_of_7 (Nat.le_refl _) rfl (Nat.le_of_ble_eq_true rfl) (Nat.le_of_ble_eq_true rfl) h (fun v u h hk => ?_)
  obtain ⟨r3, rfl⟩ := hk
  obtain ⟨s2, rfl⟩ : ∃ x, x = u := ⟨_, rfl⟩
  replace h := h r3 rfl
  refine Ev_if_ne (tgt := 15) dX12_of_10 rfl (fun c => ?_) (fun c => ?_)
  · replace h := h.1 c
    refine Ev_iload_n 2 dX12_of_15 rfl rfl ?_
    refine Ev_if_ne (tgt := 28) dX12_of_16 rfl (fun c => ?_) (fun c => ?_)
    · replace h := h.1 c
      refine Ev_iload_n 2 dX12_of_28 rfl rfl ?_
      refine Ev_iconst dX12_of_29 rfl (ev_Rc rfl) ?_
      refine Ev_icmp_ne (tgt := 45) dX12_of_30 rfl (fun c => ?_) (fun c => ?_)
      · replace h := h.1 c
        refine Ev_iload_n 2 dX12_of_45 rfl rfl ?_
        refine Ev_iconst dX12_of_46 rfl (ev_Rc rfl) ?_
        refine Ev_icmp_ne (tgt := 69) dX12_of_47 rfl (fun c => ?_) (fun c => ?_)
        · replace h := h.1 c
          refine Ev_iconst dX12_of_69 rfl (ev_Rc rfl) ?_
          exact Ev_iret rfl dX12_of_70 rfl h
        · replace h := h.2 c
          refine Ev_aload_n 0 dX12_of_50 rfl rfl ?_
          refine Ev_getR (i := 43) cl_X12 yM_0 (Nat.le_of_ble_eq_true rfl) rfl wd_1487 dX12_of_51 ?_
          refine Ev_iload_n 1 dX12_of_54 rfl rfl ?_
          obtain ⟨h0, h⟩ := h
          refine Ev_iald yM_21 h0 dX12_of_55 ?_
          refine Ev_aload_n 0 dX12_of_56 rfl rfl ?_
          refine Ev_getR (i := 1) cl_X12 yM_0 (Nat.le_of_ble_eq_true rfl) rfl wd_1445 dX12_of_57 ?_
          refine Ev_bipushC dX12_of_60 rfl ?_
          refine Ev_iload_n 1 dX12_of_62 rfl rfl ?_
          refine Ev_iadd dX12_of_63 ?_
          obtain ⟨h0, h⟩ := h
          refine Ev_iald yM_1 h0 dX12_of_64 ?_
          refine Ev_isub dX12_of_65 ?_
          refine Ev_goto (tgt := 70) dX12_of_66 rfl ?_
          exact Ev_iret rfl dX12_of_70 rfl h
      · replace h := h.2 c
        refine Ev_aload_n 0 dX12_of_33 rfl rfl ?_
        refine Ev_getR (i := 1) cl_X12 yM_0 (Nat.le_of_ble_eq_true rfl) rfl wd_1445 dX12_of_34 ?_
        refine Ev_bipushC dX12_of_37 rfl ?_
        refine Ev_iload_n 1 dX12_of_39 rfl rfl ?_
        refine Ev_iadd dX12_of_40 ?_
        obtain ⟨h0, h⟩ := h
        refine Ev_iald yM_1 h0 dX12_of_41 ?_
        refine Ev_goto (tgt := 70) dX12_of_42 rfl ?_
        exact Ev_iret rfl dX12_of_70 rfl h
    · replace h := h.2 c
      refine Ev_aload_n 0 dX12_of_19 rfl rfl ?_
      refine Ev_getR (i := 1) cl_X12 yM_0 (Nat.le_of_ble_eq_true rfl) rfl wd_1445 dX12_of_20 ?_
      refine Ev_iconst dX12_of_23 rfl (ev_Rc rfl) ?_
      refine Ev_iload_n 1 dX12_of_24 rfl rfl ?_
      refine Ev_iadd dX12_of_25 ?_
      obtain ⟨h0, h⟩ := h
      refine Ev_iald yM_1 h0 dX12_of_26 ?_
      exact Ev_iret rfl dX12_of_27 rfl h
  · replace h := h.2 c
    refine Ev_iconst dX12_of_13 rfl (ev_Rc rfl) ?_
    exact Ev_iret rfl dX12_of_14 rfl h
theorem dX12_at_0 : decode cX12_at 0 = .ok (.aload_n 0, 1) := by decide +kernel
theorem dX12_at_1 : decode cX12_at 1 = .ok (.iconst 0, 1) := by decide +kernel
theorem dX12_at_2 : decode cX12_at 2 = .ok (.putfield 124, 3) := by decide +kernel
theorem dX12_at_5 : decode cX12_at 5 = .ok (.aload_n 0, 1) := by decide +kernel
theorem dX12_at_6 : decode cX12_at 6 = .ok (.iload_n 1, 1) := by decide +kernel
theorem dX12_at_7 : decode cX12_at 7 = .ok (.invokevirtual 171, 3) := by decide +kernel
theorem dX12_at_10 : decode cX12_at 10 = .ok (.ifCond .ne 5, 3) := by decide +kernel
theorem dX12_at_13 : decode cX12_at 13 = .ok (.iconst (-1), 1) := by decide +kernel
theorem dX12_at_14 : decode cX12_at 14 = .ok (.ireturn, 1) := by decide +kernel
theorem dX12_at_15 : decode cX12_at 15 = .ok (.iload_n 2, 1) := by decide +kernel
theorem dX12_at_16 : decode cX12_at 16 = .ok (.ifCond .ne 13, 3) := by decide +kernel
theorem dX12_at_19 : decode cX12_at 19 = .ok (.aload_n 0, 1) := by decide +kernel
theorem dX12_at_20 : decode cX12_at 20 = .ok (.getfield 7, 3) := by decide +kernel
theorem dX12_at_23 : decode cX12_at 23 = .ok (.bipush 27, 2) := by decide +kernel
theorem dX12_at_25 : decode cX12_at 25 = .ok (.iload_n 1, 1) := by decide +kernel
theorem dX12_at_26 : decode cX12_at 26 = .ok (.iadd, 1) := by decide +kernel
theorem dX12_at_27 : decode cX12_at 27 = .ok (.iaload, 1) := by decide +kernel
theorem dX12_at_28 : decode cX12_at 28 = .ok (.ireturn, 1) := by decide +kernel
theorem dX12_at_29 : decode cX12_at 29 = .ok (.iload_n 2, 1) := by decide +kernel
theorem dX12_at_30 : decode cX12_at 30 = .ok (.iconst 1, 1) := by decide +kernel
theorem dX12_at_31 : decode cX12_at 31 = .ok (.if_icmp .ne 10, 3) := by decide +kernel
theorem dX12_at_34 : decode cX12_at 34 = .ok (.aload_n 0, 1) := by decide +kernel
theorem dX12_at_35 : decode cX12_at 35 = .ok (.getfield 22, 3) := by decide +kernel
theorem dX12_at_38 : decode cX12_at 38 = .ok (.iload_n 1, 1) := by decide +kernel
theorem dX12_at_39 : decode cX12_at 39 = .ok (.iaload, 1) := by decide +kernel
theorem dX12_at_40 : decode cX12_at 40 = .ok (.ireturn, 1) := by decide +kernel
theorem dX12_at_41 : decode cX12_at 41 = .ok (.iload_n 2, 1) := by decide +kernel
theorem dX12_at_42 : decode cX12_at 42 = .ok (.iconst 2, 1) := by decide +kernel
theorem dX12_at_43 : decode cX12_at 43 = .ok (.if_icmp .ne 13, 3) := by decide +kernel
theorem dX12_at_46 : decode cX12_at 46 = .ok (.aload_n 0, 1) := by decide +kernel
theorem dX12_at_47 : decode cX12_at 47 = .ok (.getfield 7, 3) := by decide +kernel
theorem dX12_at_50 : decode cX12_at 50 = .ok (.bipush 33, 2) := by decide +kernel
theorem dX12_at_52 : decode cX12_at 52 = .ok (.iload_n 1, 1) := by decide +kernel
theorem dX12_at_53 : decode cX12_at 53 = .ok (.iadd, 1) := by decide +kernel
theorem dX12_at_54 : decode cX12_at 54 = .ok (.iaload, 1) := by decide +kernel
theorem dX12_at_55 : decode cX12_at 55 = .ok (.ireturn, 1) := by decide +kernel
theorem dX12_at_56 : decode cX12_at 56 = .ok (.iload_n 2, 1) := by decide +kernel
theorem dX12_at_57 : decode cX12_at 57 = .ok (.iconst 3, 1) := by decide +kernel
theorem dX12_at_58 : decode cX12_at 58 = .ok (.if_icmp .ne 13, 3) := by decide +kernel
theorem dX12_at_61 : decode cX12_at 61 = .ok (.aload_n 0, 1) := by decide +kernel
theorem dX12_at_62 : decode cX12_at 62 = .ok (.getfield 7, 3) := by decide +kernel
theorem dX12_at_65 : decode cX12_at 65 = .ok (.bipush 51, 2) := by decide +kernel
theorem dX12_at_67 : decode cX12_at 67 = .ok (.iload_n 1, 1) := by decide +kernel
theorem dX12_at_68 : decode cX12_at 68 = .ok (.iadd, 1) := by decide +kernel
theorem dX12_at_69 : decode cX12_at 69 = .ok (.iaload, 1) := by decide +kernel
theorem dX12_at_70 : decode cX12_at 70 = .ok (.ireturn, 1) := by decide +kernel
theorem dX12_at_71 : decode cX12_at 71 = .ok (.iload_n 2, 1) := by decide +kernel
theorem dX12_at_72 : decode cX12_at 72 = .ok (.iconst 4, 1) := by decide +kernel
theorem dX12_at_73 : decode cX12_at 73 = .ok (.if_icmp .ne 20, 3) := by decide +kernel
theorem dX12_at_76 : decode cX12_at 76 = .ok (.aload_n 0, 1) := by decide +kernel
theorem dX12_at_77 : decode cX12_at 77 = .ok (.getfield 92, 3) := by decide +kernel
theorem dX12_at_80 : decode cX12_at 80 = .ok (.iload_n 1, 1) := by decide +kernel
theorem dX12_at_81 : decode cX12_at 81 = .ok (.iaload, 1) := by decide +kernel
theorem dX12_at_82 : decode cX12_at 82 = .ok (.aload_n 0, 1) := by decide +kernel
theorem dX12_at_83 : decode cX12_at 83 = .ok (.getfield 7, 3) := by decide +kernel
theorem dX12_at_86 : decode cX12_at 86 = .ok (.bipush 39, 2) := by decide +kernel
theorem dX12_at_88 : decode cX12_at 88 = .ok (.iload_n 1, 1) := by decide +kernel
theorem dX12_at_89 : decode cX12_at 89 = .ok (.iadd, 1) := by decide +kernel
theorem dX12_at_90 : decode cX12_at 90 = .ok (.iaload, 1) := by decide +kernel
theorem dX12_at_91 : decode cX12_at 91 = .ok (.isub, 1) := by decide +kernel
theorem dX12_at_92 : decode cX12_at 92 = .ok (.ireturn, 1) := by decide +kernel
theorem dX12_at_93 : decode cX12_at 93 = .ok (.iload_n 2, 1) := by decide +kernel
theorem dX12_at_94 : decode cX12_at 94 = .ok (.iconst 5, 1) := by decide +kernel
theorem dX12_at_95 : decode cX12_at 95 = .ok (.if_icmp .ne 11, 3) := by decide +kernel
theorem dX12_at_98 : decode cX12_at 98 = .ok (.aload_n 0, 1) := by decide +kernel
theorem dX12_at_99 : decode cX12_at 99 = .ok (.iload_n 1, 1) := by decide +kernel
theorem dX12_at_100 : decode cX12_at 100 = .ok (.invokevirtual 481, 3) := by decide +kernel
theorem dX12_at_103 : decode cX12_at 103 = .ok (.goto 18, 3) := by decide +kernel
theorem dX12_at_106 : decode cX12_at 106 = .ok (.iload_n 2, 1) := by decide +kernel
theorem dX12_at_107 : decode cX12_at 107 = .ok (.bipush 6, 2) := by decide +kernel
theorem dX12_at_109 : decode cX12_at 109 = .ok (.if_icmp .ne 11, 3) := by decide +kernel
theorem dX12_at_112 : decode cX12_at 112 = .ok (.aload_n 0, 1) := by decide +kernel
theorem dX12_at_113 : decode cX12_at 113 = .ok (.iload_n 1, 1) := by decide +kernel
theorem dX12_at_114 : decode cX12_at 114 = .ok (.invokevirtual 484, 3) := by decide +kernel
theorem dX12_at_117 : decode cX12_at 117 = .ok (.goto 4, 3) := by decide +kernel
theorem dX12_at_120 : decode cX12_at 120 = .ok (.iconst (-1), 1) := by decide +kernel
theorem dX12_at_121 : decode cX12_at 121 = .ok (.ireturn, 1) := by decide +kernel
theorem wp_X12_at_0 {d : Nat} {s : ev_S} {Q : Option ev_V → ev_S → Prop} {a1 a2 : Int}
    (h : (∀ s1, ev_up s 0 0 0 = s1 → (Ev layM M_X12_isAngel d 0 [(0, ev_r 0), (1, ev_i a1)] [] s1 (ev_pi (fun r3 s2 => ((r3 ≠ 0 → ((a2 ≠ 0 → ((a2 ≠ 1 → ((a2 ≠ 2 → ((a2 ≠ 3 → ((a2 ≠ 4 → ((a2 ≠ 5 → ((a2 ≠ 6 → Q (some (ev_i (-1))) s2) ∧ (a2 = 6 → (Ev layM M_X12_waitOf d 0 [(0, ev_r 0), (1, ev_i a1)] [] s2 (ev_pi (fun r5 s4 => Q (some (ev_i r5)) s4)))))) ∧ (a2 = 5 → (Ev layM M_X12_worthOf d 0 [(0, ev_r 0), (1, ev_i a1)] [] s2 (ev_pi (fun r7 s6 => Q (some (ev_i r7)) s6)))))) ∧ (a2 = 4 → ((0 ≤ a1 ∧ a1 < (6 : Nat)) ∧ ((0 ≤ (ev_add 39 a1) ∧ (ev_add 39 a1) < (87 : Nat)) ∧ Q (some (ev_i (ev_sub (s2 27 (Int.toNat a1)) (s2 1 (Int.toNat (ev_add 39 a1)))))) s2))))) ∧ (a2 = 3 → ((0 ≤ (ev_add 51 a1) ∧ (ev_add 51 a1) < (87 : Nat)) ∧ Q (some (ev_i (s2 1 (Int.toNat (ev_add 51 a1))))) s2)))) ∧ (a2 = 2 → ((0 ≤ (ev_add 33 a1) ∧ (ev_add 33 a1) < (87 : Nat)) ∧ Q (some (ev_i (s2 1 (Int.toNat (ev_add 33 a1))))) s2)))) ∧ (a2 = 1 → ((0 ≤ a1 ∧ a1 < (6 : Nat)) ∧ Q (some (ev_i (s2 5 (Int.toNat a1)))) s2)))) ∧ (a2 = 0 → ((0 ≤ (ev_add 27 a1) ∧ (ev_add 27 a1) < (87 : Nat)) ∧ Q (some (ev_i (s2 1 (Int.toNat (ev_add 27 a1))))) s2)))) ∧ (r3 = 0 → Q (some (ev_i (-1))) s2))))))) :
    Ev layM M_X12_at (d + 1) 0 [(0, ev_r 0), (1, ev_i a1), (2, ev_i a2)] [] s Q := by
  refine Ev_aload_n 0 dX12_at_0 rfl rfl ?_
  refine Ev_iconst dX12_at_1 rfl (ev_Rc rfl) ?_
  refine Ev_put (i := 0) (ty := .int) cl_X12 yM_0 (Nat.le_of_ble_eq_true rfl) rfl rfl (by decide +kernel) rfl rfl wd_1444 dX12_at_2 (Ev_nm (fun s1 es1 => ?_))
  replace h := h s1 es1
  refine Ev_aload_n 0 dX12_at_5 rfl rfl ?_
  refine Ev_iload_n 1 dX12_at_6 rfl rfl ?_
  refine Ev_callV (As := [ev_i a1]) (b := 0) (st := []) (M' := M_X12_isAngel) cm_X12_isAngel wd_1658 wd_1660 wd_71 yM_0 cl_X12 rfl dX12_at_7 (Nat.le_refl _) rfl (Nat.le_of_ble_eq_true rfl) (Nat.le_of_ble_eq_true rfl) h (fun v u h hk => ?_)
  obtain ⟨r3, rfl⟩ := hk
  obtain ⟨s2, rfl⟩ : ∃ x, x = u := ⟨_, rfl⟩
  replace h := h r3 rfl
  refine Ev_if_ne (tgt := 15) dX12_at_10 rfl (fun c => ?_) (fun c => ?_)
  · replace h := h.1 c
    refine Ev_iload_n 2 dX12_at_15 rfl rfl ?_
    refine Ev_if_ne (tgt := 29) dX12_at_16 rfl (fun c => ?_) (fun c => ?_)
    · replace h := h.1 c
      refine Ev_iload_n 2 dX12_at_29 rfl rfl ?_
      refine Ev_iconst dX12_at_30 rfl (ev_Rc rfl) ?_
      refine Ev_icmp_ne (tgt := 41) dX12_at_31 rfl (fun c => ?_) (fun c => ?_)
      · replace h := h.1 c
        refine Ev_iload_n 2 dX12_at_41 rfl rfl ?_
        refine Ev_iconst dX12_at_42 rfl (ev_Rc rfl) ?_
        refine Ev_icmp_ne (tgt := 56) dX12_at_43 rfl (fun c => ?_) (fun c => ?_)
        · replace h := h.1 c
          refine Ev_iload_n 2 dX12_at_56 rfl rfl ?_
          refine Ev_iconst dX12_at_57 rfl (ev_Rc rfl) ?_
          refine Ev_icmp_ne (tgt := 71) dX12_at_58 rfl (fun c => ?_) (fun c => ?_)
          · replace h := h.1 c
            refine Ev_iload_n 2 dX12_at_71 rfl rfl ?_
            refine Ev_iconst dX12_at_72 rfl (ev_Rc rfl) ?_
            refine Ev_icmp_ne (tgt := 93) dX12_at_73 rfl (fun c => ?_) (fun c => ?_)
            · replace h := h.1 c
              refine Ev_iload_n 2 dX12_at_93 rfl rfl ?_
              refine Ev_iconst dX12_at_94 rfl (ev_Rc rfl) ?_
              refine Ev_icmp_ne (tgt := 106) dX12_at_95 rfl (fun c => ?_) (fun c => ?_)
              · replace h := h.1 c
                refine Ev_iload_n 2 dX12_at_106 rfl rfl ?_
                refine Ev_bipushC dX12_at_107 rfl ?_
                refine Ev_icmp_ne (tgt := 120) dX12_at_109 rfl (fun c => ?_) (fun c => ?_)
                · replace h := h.1 c
                  refine Ev_iconst dX12_at_120 rfl (ev_Rc rfl) ?_
                  exact Ev_iret rfl dX12_at_121 rfl h
                · replace h := h.2 c
                  refine Ev_aload_n 0 dX12_at_112 rfl rfl ?_
                  refine Ev_iload_n 1 dX12_at_113 rfl rfl ?_
                  refine Ev_callV (As := [ev_i a1]) (b := 0) (st := []) (M' := M_X12_waitOf) cm_X12_waitOf wd_2081 wd_2083 wd_161 yM_0 cl_X12 rfl dX12_at_114 (Nat.le_refl _) rfl (Nat.le_of_ble_eq_true rfl) (Nat.le_of_ble_eq_true rfl) h (fun v u h hk => ?_)
                  obtain ⟨r5, rfl⟩ := hk
                  obtain ⟨s4, rfl⟩ : ∃ x, x = u := ⟨_, rfl⟩
                  replace h := h r5 rfl
                  refine Ev_goto (tgt := 121) dX12_at_117 rfl ?_
                  exact Ev_iret rfl dX12_at_121 rfl h
              · replace h := h.2 c
                refine Ev_aload_n 0 dX12_at_98 rfl rfl ?_
                refine Ev_iload_n 1 dX12_at_99 rfl rfl ?_
                refine Ev_callV (As := [ev_i a1]) (b := 0) (st := []) (M' := M_X12_worthOf) cm_X12_worthOf wd_2077 wd_2079 wd_160 yM_0 cl_X12 rfl dX12_at_100 (Nat.le_refl _) rfl (Nat.le_of_ble_eq_true rfl) (Nat.le_of_ble_eq_true rfl) h (fun v u h hk => ?_)
                obtain ⟨r7, rfl⟩ := hk
                obtain ⟨s6, rfl⟩ : ∃ x, x = u := ⟨_, rfl⟩
                replace h := h r7 rfl
                refine Ev_goto (tgt := 121) dX12_at_103 rfl ?_
                exact Ev_iret rfl dX12_at_121 rfl h
            · replace h := h.2 c
              refine Ev_aload_n 0 dX12_at_76 rfl rfl ?_
              refine Ev_getR (i := 50) cl_X12 yM_0 (Nat.le_of_ble_eq_true rfl) rfl wd_1494 dX12_at_77 ?_
              refine Ev_iload_n 1 dX12_at_80 rfl rfl ?_
              obtain ⟨h0, h⟩ := h
              refine Ev_iald yM_27 h0 dX12_at_81 ?_
              refine Ev_aload_n 0 dX12_at_82 rfl rfl ?_
              refine Ev_getR (i := 1) cl_X12 yM_0 (Nat.le_of_ble_eq_true rfl) rfl wd_1445 dX12_at_83 ?_
              refine Ev_bipushC dX12_at_86 rfl ?_
              refine Ev_iload_n 1 dX12_at_88 rfl rfl ?_
              refine Ev_iadd dX12_at_89 ?_
              obtain ⟨h0, h⟩ := h
              refine Ev_iald yM_1 h0 dX12_at_90 ?_
              refine Ev_isub dX12_at_91 ?_
              exact Ev_iret rfl dX12_at_92 rfl h
          · replace h := h.2 c
            refine Ev_aload_n 0 dX12_at_61 rfl rfl ?_
            refine Ev_getR (i := 1) cl_X12 yM_0 (Nat.le_of_ble_eq_true rfl) rfl wd_1445 dX12_at_62 ?_
            refine Ev_bipushC dX12_at_65 rfl ?_
            refine Ev_iload_n 1 dX12_at_67 rfl rfl ?_
            refine Ev_iadd dX12_at_68 ?_
            obtain ⟨h0, h⟩ := h
            refine Ev_iald yM_1 h0 dX12_at_69 ?_
            exact Ev_iret rfl dX12_at_70 rfl h
        · replace h := h.2 c
          refine Ev_aload_n 0 dX12_at_46 rfl rfl ?_
          refine Ev_getR (i := 1) cl_X12 yM_0 (Nat.le_of_ble_eq_true rfl) rfl wd_1445 dX12_at_47 ?_
          refine Ev_bipushC dX12_at_50 rfl ?_
          refine Ev_iload_n 1 dX12_at_52 rfl rfl ?_
          refine Ev_iadd dX12_at_53 ?_
          obtain ⟨h0, h⟩ := h
          refine Ev_iald yM_1 h0 dX12_at_54 ?_
          exact Ev_iret rfl dX12_at_55 rfl h
      · replace h := h.2 c
        refine Ev_aload_n 0 dX12_at_34 rfl rfl ?_
        refine Ev_getR (i := 13) cl_X12 yM_0 (Nat.le_of_ble_eq_true rfl) rfl wd_1457 dX12_at_35 ?_
        refine Ev_iload_n 1 dX12_at_38 rfl rfl ?_
        obtain ⟨h0, h⟩ := h
        refine Ev_iald yM_5 h0 dX12_at_39 ?_
        exact Ev_iret rfl dX12_at_40 rfl h
    · replace h := h.2 c
      refine Ev_aload_n 0 dX12_at_19 rfl rfl ?_
      refine Ev_getR (i := 1) cl_X12 yM_0 (Nat.le_of_ble_eq_true rfl) rfl wd_1445 dX12_at_20 ?_
      refine Ev_bipushC dX12_at_23 rfl ?_
      refine Ev_iload_n 1 dX12_at_25 rfl rfl ?_
      refine Ev_iadd dX12_at_26 ?_
      obtain ⟨h0, h⟩ := h
      refine Ev_iald yM_1 h0 dX12_at_27 ?_
      exact Ev_iret rfl dX12_at_28 rfl h
  · replace h := h.2 c
    refine Ev_iconst dX12_at_13 rfl (ev_Rc rfl) ?_
    exact Ev_iret rfl dX12_at_14 rfl h
theorem dX12_secondOf_0 : decode cX12_secondOf 0 = .ok (.aload_n 0, 1) := by decide +kernel
theorem dX12_secondOf_1 : decode cX12_secondOf 1 = .ok (.getfield 7, 3) := by decide +kernel
theorem dX12_secondOf_4 : decode cX12_secondOf 4 = .ok (.bipush 57, 2) := by decide +kernel
theorem dX12_secondOf_6 : decode cX12_secondOf 6 = .ok (.iload_n 1, 1) := by decide +kernel
theorem dX12_secondOf_7 : decode cX12_secondOf 7 = .ok (.iadd, 1) := by decide +kernel
theorem dX12_secondOf_8 : decode cX12_secondOf 8 = .ok (.iaload, 1) := by decide +kernel
theorem dX12_secondOf_9 : decode cX12_secondOf 9 = .ok (.ifCond .eq 15, 3) := by decide +kernel
theorem dX12_secondOf_12 : decode cX12_secondOf 12 = .ok (.aload_n 0, 1) := by decide +kernel
theorem dX12_secondOf_13 : decode cX12_secondOf 13 = .ok (.getfield 7, 3) := by decide +kernel
theorem dX12_secondOf_16 : decode cX12_secondOf 16 = .ok (.bipush 67, 2) := by decide +kernel
theorem dX12_secondOf_18 : decode cX12_secondOf 18 = .ok (.iload_n 1, 1) := by decide +kernel
theorem dX12_secondOf_19 : decode cX12_secondOf 19 = .ok (.iadd, 1) := by decide +kernel
theorem dX12_secondOf_20 : decode cX12_secondOf 20 = .ok (.iaload, 1) := by decide +kernel
theorem dX12_secondOf_21 : decode cX12_secondOf 21 = .ok (.iconst 1, 1) := by decide +kernel
theorem dX12_secondOf_22 : decode cX12_secondOf 22 = .ok (.isub, 1) := by decide +kernel
theorem dX12_secondOf_23 : decode cX12_secondOf 23 = .ok (.ireturn, 1) := by decide +kernel
theorem dX12_secondOf_24 : decode cX12_secondOf 24 = .ok (.aload_n 0, 1) := by decide +kernel
theorem dX12_secondOf_25 : decode cX12_secondOf 25 = .ok (.invokevirtual 445, 3) := by decide +kernel
theorem dX12_secondOf_28 : decode cX12_secondOf 28 = .ok (.aload_n 0, 1) := by decide +kernel
theorem dX12_secondOf_29 : decode cX12_secondOf 29 = .ok (.getfield 101, 3) := by decide +kernel
theorem dX12_secondOf_32 : decode cX12_secondOf 32 = .ok (.iload_n 1, 1) := by decide +kernel
theorem dX12_secondOf_33 : decode cX12_secondOf 33 = .ok (.iaload, 1) := by decide +kernel
theorem dX12_secondOf_34 : decode cX12_secondOf 34 = .ok (.ireturn, 1) := by decide +kernel
theorem wp_X12_secondOf_0 {d : Nat} {s : ev_S} {Q : Option ev_V → ev_S → Prop} {a1 : Int}
    (h : ((0 ≤ (ev_add 57 a1) ∧ (ev_add 57 a1) < (87 : Nat)) ∧ (((s 1 (Int.toNat (ev_add 57 a1))) = 0 → (Ev layM M_X12_foresees d 0 [(0, ev_r 0)] [] s (fun _ s1 => ((0 ≤ a1 ∧ a1 < (10 : Nat)) ∧ Q (some (ev_i (s1 30 (Int.toNat a1)))) s1)))) ∧ ((s 1 (Int.toNat (ev_add 57 a1))) ≠ 0 → ((0 ≤ (ev_add 67 a1) ∧ (ev_add 67 a1) < (87 : Nat)) ∧ Q (some (ev_i (ev_sub (s 1 (Int.toNat (ev_add 67 a1))) 1))) s))))) :
    Ev layM M_X12_secondOf (d + 1) 0 [(0, ev_r 0), (1, ev_i a1)] [] s Q := by
  refine Ev_aload_n 0 dX12_secondOf_0 rfl rfl ?_
  refine Ev_getR (i := 1) cl_X12 yM_0 (Nat.le_of_ble_eq_true rfl) rfl wd_1445 dX12_secondOf_1 ?_
  refine Ev_bipushC dX12_secondOf_4 rfl ?_
  refine Ev_iload_n 1 dX12_secondOf_6 rfl rfl ?_
  refine Ev_iadd dX12_secondOf_7 ?_
  obtain ⟨h0, h⟩ := h
  refine Ev_iald yM_1 h0 dX12_secondOf_8 ?_
  refine Ev_if_eq (tgt := 24) dX12_secondOf_9 rfl (fun c => ?_) (fun c => ?_)
  · replace h := h.1 c
    refine Ev_aload_n 0 dX12_secondOf_24 rfl rfl ?_
    refine Ev_callV (As := []) (b := 0) (st := []) (M' := M_X12_foresees) cm_X12_foresees wd_2004 wd_2006 wd_147 yM_0 cl_X12 rfl dX12_secondOf_25 (Nat.le_refl _) rfl (Nat.le_of_ble_eq_true rfl) (Nat.le_of_ble_eq_true rfl) h (fun v u h hk => ?_)
    cases hk
    obtain ⟨s1, rfl⟩ : ∃ x, x = u := ⟨_, rfl⟩
    refine Ev_aload_n 0 dX12_secondOf_28 rfl rfl ?_
    refine Ev_getR (i := 53) cl_X12 yM_0 (Nat.le_of_ble_eq_true rfl) rfl wd_1497 dX12_secondOf_29 ?_
    refine Ev_iload_n 1 dX12_secondOf_32 rfl rfl ?_
    obtain ⟨h0, h⟩ := h
    refine Ev_iald yM_30 h0 dX12_secondOf_33 ?_
    exact Ev_iret rfl dX12_secondOf_34 rfl h
  · replace h := h.2 c
    refine Ev_aload_n 0 dX12_secondOf_12 rfl rfl ?_
    refine Ev_getR (i := 1) cl_X12 yM_0 (Nat.le_of_ble_eq_true rfl) rfl wd_1445 dX12_secondOf_13 ?_
    refine Ev_bipushC dX12_secondOf_16 rfl ?_
    refine Ev_iload_n 1 dX12_secondOf_18 rfl rfl ?_
    refine Ev_iadd dX12_secondOf_19 ?_
    obtain ⟨h0, h⟩ := h
    refine Ev_iald yM_1 h0 dX12_secondOf_20 ?_
    refine Ev_iconst dX12_secondOf_21 rfl (ev_Rc rfl) ?_
    refine Ev_isub dX12_secondOf_22 ?_
    exact Ev_iret rfl dX12_secondOf_23 rfl h
theorem dX12_seersNow_0 : decode cX12_seersNow 0 = .ok (.aload_n 0, 1) := by decide +kernel
theorem dX12_seersNow_1 : decode cX12_seersNow 1 = .ok (.getfield 7, 3) := by decide +kernel
theorem dX12_seersNow_4 : decode cX12_seersNow 4 = .ok (.bipush 57, 2) := by decide +kernel
theorem dX12_seersNow_6 : decode cX12_seersNow 6 = .ok (.iload_n 1, 1) := by decide +kernel
theorem dX12_seersNow_7 : decode cX12_seersNow 7 = .ok (.iadd, 1) := by decide +kernel
theorem dX12_seersNow_8 : decode cX12_seersNow 8 = .ok (.iaload, 1) := by decide +kernel
theorem dX12_seersNow_9 : decode cX12_seersNow 9 = .ok (.ifCond .eq 5, 3) := by decide +kernel
theorem dX12_seersNow_12 : decode cX12_seersNow 12 = .ok (.iconst 0, 1) := by decide +kernel
theorem dX12_seersNow_13 : decode cX12_seersNow 13 = .ok (.ireturn, 1) := by decide +kernel
theorem dX12_seersNow_14 : decode cX12_seersNow 14 = .ok (.aload_n 0, 1) := by decide +kernel
theorem dX12_seersNow_15 : decode cX12_seersNow 15 = .ok (.invokevirtual 457, 3) := by decide +kernel
theorem dX12_seersNow_18 : decode cX12_seersNow 18 = .ok (.istore_n 2, 1) := by decide +kernel
theorem dX12_seersNow_19 : decode cX12_seersNow 19 = .ok (.iload_n 2, 1) := by decide +kernel
theorem dX12_seersNow_20 : decode cX12_seersNow 20 = .ok (.iload_n 1, 1) := by decide +kernel
theorem dX12_seersNow_21 : decode cX12_seersNow 21 = .ok (.ishr, 1) := by decide +kernel
theorem dX12_seersNow_22 : decode cX12_seersNow 22 = .ok (.iconst 1, 1) := by decide +kernel
theorem dX12_seersNow_23 : decode cX12_seersNow 23 = .ok (.iand, 1) := by decide +kernel
theorem dX12_seersNow_24 : decode cX12_seersNow 24 = .ok (.iconst 1, 1) := by decide +kernel
theorem dX12_seersNow_25 : decode cX12_seersNow 25 = .ok (.if_icmp .ne 11, 3) := by decide +kernel
theorem dX12_seersNow_28 : decode cX12_seersNow 28 = .ok (.aload_n 0, 1) := by decide +kernel
theorem dX12_seersNow_29 : decode cX12_seersNow 29 = .ok (.iload_n 1, 1) := by decide +kernel
theorem dX12_seersNow_30 : decode cX12_seersNow 30 = .ok (.invokevirtual 472, 3) := by decide +kernel
theorem dX12_seersNow_33 : decode cX12_seersNow 33 = .ok (.goto 4, 3) := by decide +kernel
theorem dX12_seersNow_36 : decode cX12_seersNow 36 = .ok (.iconst 0, 1) := by decide +kernel
theorem dX12_seersNow_37 : decode cX12_seersNow 37 = .ok (.ireturn, 1) := by decide +kernel
theorem wp_X12_seersNow_0 {d : Nat} {s : ev_S} {Q : Option ev_V → ev_S → Prop} {a1 : Int}
    (h : ((0 ≤ (ev_add 57 a1) ∧ (ev_add 57 a1) < (87 : Nat)) ∧ (((s 1 (Int.toNat (ev_add 57 a1))) = 0 → (Ev layM M_X12_findsAll d 0 [(0, ev_r 0)] [] s (ev_pi (fun r2 s1 => (((ev_and (ev_shr r2 a1) 1) ≠ 1 → Q (some (ev_i 0)) s1) ∧ ((ev_and (ev_shr r2 a1) 1) = 1 → (Ev layM M_X12_seersOf d 0 [(0, ev_r 0), (1, ev_i a1)] [] s1 (ev_pi (fun r4 s3 => Q (some (ev_i r4)) s3))))))))) ∧ ((s 1 (Int.toNat (ev_add 57 a1))) ≠ 0 → Q (some (ev_i 0)) s)))) :
    Ev layM M_X12_seersNow (d + 1) 0 [(0, ev_r 0), (1, ev_i a1)] [] s Q := by
  refine Ev_aload_n 0 dX12_seersNow_0 rfl rfl ?_
  refine Ev_getR (i := 1) cl_X12 yM_0 (Nat.le_of_ble_eq_true rfl) rfl wd_1445 dX12_seersNow_1 ?_
  refine Ev_bipushC dX12_seersNow_4 rfl ?_
  refine Ev_iload_n 1 dX12_seersNow_6 rfl rfl ?_
  refine Ev_iadd dX12_seersNow_7 ?_
  obtain ⟨h0, h⟩ := h
  refine Ev_iald yM_1 h0 dX12_seersNow_8 ?_
  refine Ev_if_eq (tgt := 14) dX12_seersNow_9 rfl (fun c => ?_) (fun c => ?_)
  · replace h := h.1 c
    refine Ev_aload_n 0 dX12_seersNow_14 rfl rfl ?_
    refine Ev_callV (As := []) (b := 0) (st := []) (M' := M_X12_findsAll) cm_X12_findsAll wd_2000 wd_2002 wd_146 yM_0 cl_X12 rfl dX12_seersNow_15 (Nat.le_refl _) rfl (Nat.le_of_ble_eq_true rfl) (Nat.le_of_ble_eq_true rfl) h (fun v u h hk => ?_)
    obtain ⟨r2, rfl⟩ := hk
    obtain ⟨s1, rfl⟩ : ∃ x, x = u := ⟨_, rfl⟩
    replace h := h r2 rfl
    refine Ev_istore_n (l' := [(2, ev_i r2), (0, ev_r 0), (1, ev_i a1)]) dX12_seersNow_18 rfl (Nat.le_of_ble_eq_true rfl) rfl ?_
    refine Ev_iload_n 0 dX12_seersNow_19 rfl rfl ?_
    refine Ev_iload_n 2 dX12_seersNow_20 rfl rfl ?_
    refine Ev_ishr dX12_seersNow_21 ?_
    refine Ev_iconst dX12_seersNow_22 rfl (ev_Rc rfl) ?_
    refine Ev_iand dX12_seersNow_23 ?_
    refine Ev_iconst dX12_seersNow_24 rfl (ev_Rc rfl) ?_
    refine Ev_icmp_ne (tgt := 36) dX12_seersNow_25 rfl (fun c => ?_) (fun c => ?_)
    · replace h := h.1 c
      refine Ev_iconst dX12_seersNow_36 rfl (ev_Rc rfl) ?_
      exact Ev_iret rfl dX12_seersNow_37 rfl h
    · replace h := h.2 c
      refine Ev_aload_n 1 dX12_seersNow_28 rfl rfl ?_
      refine Ev_iload_n 2 dX12_seersNow_29 rfl rfl ?_
      refine Ev_callV (As := [ev_i a1]) (b := 0) (st := []) (M' := M_X12_seersOf) cm_X12_seersOf wd_2061 wd_2063 wd_159 yM_0 cl_X12 rfl dX12_seersNow_30 (Nat.le_refl _) rfl (Nat.le_of_ble_eq_true rfl) (Nat.le_of_ble_eq_true rfl) h (fun v u h hk => ?_)
      obtain ⟨r4, rfl⟩ := hk
      obtain ⟨s3, rfl⟩ : ∃ x, x = u := ⟨_, rfl⟩
      replace h := h r4 rfl
      refine Ev_goto (tgt := 37) dX12_seersNow_33 rfl ?_
      exact Ev_iret rfl dX12_seersNow_37 rfl h
  · replace h := h.2 c
    refine Ev_iconst dX12_seersNow_12 rfl (ev_Rc rfl) ?_
    exact Ev_iret rfl dX12_seersNow_13 rfl h
theorem dX12_mishap_0 : decode cX12_mishap 0 = .ok (.aload_n 0, 1) := by decide +kernel
theorem dX12_mishap_1 : decode cX12_mishap 1 = .ok (.iconst 0, 1) := by decide +kernel
theorem dX12_mishap_2 : decode cX12_mishap 2 = .ok (.putfield 124, 3) := by decide +kernel
theorem dX12_mishap_5 : decode cX12_mishap 5 = .ok (.aload_n 0, 1) := by decide +kernel
theorem dX12_mishap_6 : decode cX12_mishap 6 = .ok (.iload_n 1, 1) := by decide +kernel
theorem dX12_mishap_7 : decode cX12_mishap 7 = .ok (.iconst 0, 1) := by decide +kernel
theorem dX12_mishap_8 : decode cX12_mishap 8 = .ok (.aload_n 0, 1) := by decide +kernel
theorem dX12_mishap_9 : decode cX12_mishap 9 = .ok (.getfield 165, 3) := by decide +kernel
theorem dX12_mishap_12 : decode cX12_mishap 12 = .ok (.iconst 1, 1) := by decide +kernel
theorem dX12_mishap_13 : decode cX12_mishap 13 = .ok (.isub, 1) := by decide +kernel
theorem dX12_mishap_14 : decode cX12_mishap 14 = .ok (.invokevirtual 158, 3) := by decide +kernel
theorem dX12_mishap_17 : decode cX12_mishap 17 = .ok (.ifCond .ne 6, 3) := by decide +kernel
theorem dX12_mishap_20 : decode cX12_mishap 20 = .ok (.bipush (-2), 2) := by decide +kernel
theorem dX12_mishap_22 : decode cX12_mishap 22 = .ok (.ireturn, 1) := by decide +kernel
theorem dX12_mishap_23 : decode cX12_mishap 23 = .ok (.aload_n 0, 1) := by decide +kernel
theorem dX12_mishap_24 : decode cX12_mishap 24 = .ok (.iload_n 2, 1) := by decide +kernel
theorem dX12_mishap_25 : decode cX12_mishap 25 = .ok (.iconst 0, 1) := by decide +kernel
theorem dX12_mishap_26 : decode cX12_mishap 26 = .ok (.bipush 6, 2) := by decide +kernel
theorem dX12_mishap_28 : decode cX12_mishap 28 = .ok (.invokevirtual 158, 3) := by decide +kernel
theorem dX12_mishap_31 : decode cX12_mishap 31 = .ok (.ifCond .eq 10, 3) := by decide +kernel
theorem dX12_mishap_34 : decode cX12_mishap 34 = .ok (.aload_n 0, 1) := by decide +kernel
theorem dX12_mishap_35 : decode cX12_mishap 35 = .ok (.iload_n 1, 1) := by decide +kernel
theorem dX12_mishap_36 : decode cX12_mishap 36 = .ok (.iload_n 2, 1) := by decide +kernel
theorem dX12_mishap_37 : decode cX12_mishap 37 = .ok (.invokevirtual 396, 3) := by decide +kernel
theorem dX12_mishap_40 : decode cX12_mishap 40 = .ok (.ireturn, 1) := by decide +kernel
theorem dX12_mishap_41 : decode cX12_mishap 41 = .ok (.iload_n 2, 1) := by decide +kernel
theorem dX12_mishap_42 : decode cX12_mishap 42 = .ok (.bipush 7, 2) := by decide +kernel
theorem dX12_mishap_44 : decode cX12_mishap 44 = .ok (.if_icmp .ne 13, 3) := by decide +kernel
theorem dX12_mishap_47 : decode cX12_mishap 47 = .ok (.aload_n 0, 1) := by decide +kernel
theorem dX12_mishap_48 : decode cX12_mishap 48 = .ok (.getfield 7, 3) := by decide +kernel
theorem dX12_mishap_51 : decode cX12_mishap 51 = .ok (.bipush 57, 2) := by decide +kernel
theorem dX12_mishap_53 : decode cX12_mishap 53 = .ok (.iload_n 1, 1) := by decide +kernel
theorem dX12_mishap_54 : decode cX12_mishap 54 = .ok (.iadd, 1) := by decide +kernel
theorem dX12_mishap_55 : decode cX12_mishap 55 = .ok (.iaload, 1) := by decide +kernel
theorem dX12_mishap_56 : decode cX12_mishap 56 = .ok (.ireturn, 1) := by decide +kernel
theorem dX12_mishap_57 : decode cX12_mishap 57 = .ok (.iload_n 2, 1) := by decide +kernel
theorem dX12_mishap_58 : decode cX12_mishap 58 = .ok (.bipush 8, 2) := by decide +kernel
theorem dX12_mishap_60 : decode cX12_mishap 60 = .ok (.if_icmp .ne 9, 3) := by decide +kernel
theorem dX12_mishap_63 : decode cX12_mishap 63 = .ok (.aload_n 0, 1) := by decide +kernel
theorem dX12_mishap_64 : decode cX12_mishap 64 = .ok (.iload_n 1, 1) := by decide +kernel
theorem dX12_mishap_65 : decode cX12_mishap 65 = .ok (.invokevirtual 487, 3) := by decide +kernel
theorem dX12_mishap_68 : decode cX12_mishap 68 = .ok (.ireturn, 1) := by decide +kernel
theorem dX12_mishap_69 : decode cX12_mishap 69 = .ok (.iload_n 2, 1) := by decide +kernel
theorem dX12_mishap_70 : decode cX12_mishap 70 = .ok (.bipush 9, 2) := by decide +kernel
theorem dX12_mishap_72 : decode cX12_mishap 72 = .ok (.if_icmp .ne 17, 3) := by decide +kernel
theorem dX12_mishap_75 : decode cX12_mishap 75 = .ok (.aload_n 0, 1) := by decide +kernel
theorem dX12_mishap_76 : decode cX12_mishap 76 = .ok (.getfield 7, 3) := by decide +kernel
theorem dX12_mishap_79 : decode cX12_mishap 79 = .ok (.bipush 77, 2) := by decide +kernel
theorem dX12_mishap_81 : decode cX12_mishap 81 = .ok (.iload_n 1, 1) := by decide +kernel
theorem dX12_mishap_82 : decode cX12_mishap 82 = .ok (.iadd, 1) := by decide +kernel
theorem dX12_mishap_83 : decode cX12_mishap 83 = .ok (.iaload, 1) := by decide +kernel
theorem dX12_mishap_84 : decode cX12_mishap 84 = .ok (.iconst 1, 1) := by decide +kernel
theorem dX12_mishap_85 : decode cX12_mishap 85 = .ok (.isub, 1) := by decide +kernel
theorem dX12_mishap_86 : decode cX12_mishap 86 = .ok (.goto 19, 3) := by decide +kernel
theorem dX12_mishap_89 : decode cX12_mishap 89 = .ok (.iload_n 2, 1) := by decide +kernel
theorem dX12_mishap_90 : decode cX12_mishap 90 = .ok (.bipush 10, 2) := by decide +kernel
theorem dX12_mishap_92 : decode cX12_mishap 92 = .ok (.if_icmp .ne 11, 3) := by decide +kernel
theorem dX12_mishap_95 : decode cX12_mishap 95 = .ok (.aload_n 0, 1) := by decide +kernel
theorem dX12_mishap_96 : decode cX12_mishap 96 = .ok (.iload_n 1, 1) := by decide +kernel
theorem dX12_mishap_97 : decode cX12_mishap 97 = .ok (.invokevirtual 490, 3) := by decide +kernel
theorem dX12_mishap_100 : decode cX12_mishap 100 = .ok (.goto 5, 3) := by decide +kernel
theorem dX12_mishap_103 : decode cX12_mishap 103 = .ok (.bipush (-2), 2) := by decide +kernel
theorem dX12_mishap_105 : decode cX12_mishap 105 = .ok (.ireturn, 1) := by decide +kernel
theorem wp_X12_mishap_0 {d : Nat} {s : ev_S} {Q : Option ev_V → ev_S → Prop} {a1 a2 : Int}
    (h : (∀ s1, ev_up s 0 0 0 = s1 → (Ev layM M_X12_isIn d 0 [(0, ev_r 0), (1, ev_i a1), (2, ev_i 0), (3, ev_i (ev_sub (s1 0 46) 1))] [] s1 (ev_pi (fun r3 s2 => ((r3 ≠ 0 → (Ev layM M_X12_isIn d 0 [(0, ev_r 0), (1, ev_i a2), (2, ev_i 0), (3, ev_i 6)] [] s2 (ev_pi (fun r5 s4 => ((r5 = 0 → ((a2 ≠ 7 → ((a2 ≠ 8 → ((a2 ≠ 9 → ((a2 ≠ 10 → Q (some (ev_i (-2))) s4) ∧ (a2 = 10 → (Ev layM M_X12_seersNow d 0 [(0, ev_r 0), (1, ev_i a1)] [] s4 (ev_pi (fun r7 s6 => Q (some (ev_i r7)) s6)))))) ∧ (a2 = 9 → ((0 ≤ (ev_add 77 a1) ∧ (ev_add 77 a1) < (87 : Nat)) ∧ Q (some (ev_i (ev_sub (s4 1 (Int.toNat (ev_add 77 a1))) 1))) s4)))) ∧ (a2 = 8 → (Ev layM M_X12_secondOf d 0 [(0, ev_r 0), (1, ev_i a1)] [] s4 (ev_pi (fun r9 s8 => Q (some (ev_i r9)) s8)))))) ∧ (a2 = 7 → ((0 ≤ (ev_add 57 a1) ∧ (ev_add 57 a1) < (87 : Nat)) ∧ Q (some (ev_i (s4 1 (Int.toNat (ev_add 57 a1))))) s4)))) ∧ (r5 ≠ 0 → (Ev layM M_X12_ofMishap d 0 [(0, ev_r 0), (1, ev_i a1), (2, ev_i a2)] [] s4 (ev_pi (fun r11 s10 => Q (some (ev_i r11)) s10))))))))) ∧ (r3 = 0 → Q (some (ev_i (-2))) s2))))))) :
    Ev layM M_X12_mishap (d + 1) 0 [(0, ev_r 0), (1, ev_i a1), (2, ev_i a2)] [] s Q := by
  refine Ev_aload_n 0 dX12_mishap_0 rfl rfl ?_
  refine Ev_iconst dX12_mishap_1 rfl (ev_Rc rfl) ?_
  refine Ev_put (i := 0) (ty := .int) cl_X12 yM_0 (Nat.le_of_ble_eq_true rfl) rfl rfl (by decide +kernel) rfl rfl wd_1444 dX12_mishap_2 (Ev_nm (fun s1 es1 => ?_))
  replace h := h s1 es1
  refine Ev_aload_n 0 dX12_mishap_5 rfl rfl ?_
  refine Ev_iload_n 1 dX12_mishap_6 rfl rfl ?_
  refine Ev_iconst dX12_mishap_7 rfl (ev_Rc rfl) ?_
  refine Ev_aload_n 0 dX12_mishap_8 rfl rfl ?_
  refine Ev_get (i := 46) cl_X12 yM_0 (Nat.le_of_ble_eq_true rfl) rfl wd_1490 dX12_mishap_9 ?_
  refine Ev_iconst dX12_mishap_12 rfl (ev_Rc rfl) ?_
  refine Ev_isub dX12_mishap_13 ?_
  refine Ev_callV (As := [ev_i a1, ev_i 0, ev_i (ev_sub (s1 0 46) 1)]) (b := 0) (st := []) (M' := M_X12_isIn) cm_X12_isIn wd_1650 wd_1652 wd_70 yM_0 cl_X12 rfl dX12_mishap_14 (Nat.le_refl _) rfl (Nat.le_of_ble_eq_true rfl) (Nat.le_of_ble_eq_true rfl) h (fun v u h hk => ?_)
  obtain ⟨r3, rfl⟩ := hk
  obtain ⟨s2, rfl⟩ : ∃ x, x = u := ⟨_, rfl⟩
  replace h := h r3 rfl
  refine Ev_if_ne (tgt := 23) dX12_mishap_17 rfl (fun c => ?_) (fun c => ?_)
  · replace h := h.1 c
    refine Ev_aload_n 0 dX12_mishap_23 rfl rfl ?_
    refine Ev_iload_n 2 dX12_mishap_24 rfl rfl ?_
    refine Ev_iconst dX12_mishap_25 rfl (ev_Rc rfl) ?_
    refine Ev_bipushC dX12_mishap_26 rfl ?_
    refine Ev_callV (As := [ev_i a2, ev_i 0, ev_i 6]) (b := 0) (st := []) (M' := M_X12_isIn) cm_X12_isIn wd_1650 wd_1652 wd_70 yM_0 cl_X12 rfl dX12_mishap_28 (Nat.le_refl _) rfl (Nat.le_of_ble_eq_true rfl) (Nat.le_of_ble_eq_true rfl) h (fun v u h hk => ?_)
    obtain ⟨r5, rfl⟩ := hk
    obtain ⟨s4, rfl⟩ : ∃ x, x = u := ⟨_, rfl⟩
    replace h := h r5 rfl
    refine Ev_if_eq (tgt := 41) dX12_mishap_31 rfl (fun c => ?_) (fun c => ?_)
    · replace h := h.1 c
      refine Ev_iload_n 2 dX12_mishap_41 rfl rfl ?_
      refine Ev_bipushC dX12_mishap_42 rfl ?_
      refine Ev_icmp_ne (tgt := 57) dX12_mishap_44 rfl (fun c => ?_) (fun c => ?_)
      · replace h := h.1 c
        refine Ev_iload_n 2 dX12_mishap_57 rfl rfl ?_
        refine Ev_bipushC dX12_mishap_58 rfl ?_
        refine Ev_icmp_ne (tgt := 69) dX12_mishap_60 rfl (fun c => ?_) (fun c => ?_)
        · replace h := h.1 c
          refine Ev_iload_n 2 dX12_mishap_69 rfl rfl ?_
          refine Ev_bipushC dX12_mishap_70 rfl ?_
          refine Ev_icmp_ne (tgt := 89) dX12_mishap_72 rfl (fun c => ?_) (fun c => ?_)
          · replace h := h.1 c
            refine Ev_iload_n 2 dX12_mishap_89 rfl rfl ?_
            refine Ev_bipushC dX12_mishap_90 rfl ?_
            refine Ev_icmp_ne (tgt := 103) dX12_mishap_92 rfl (fun c => ?_) (fun c => ?_)
            · replace h := h.1 c
              refine Ev_bipushC dX12_mishap_103 rfl ?_
              exact Ev_iret rfl dX12_mishap_105 rfl h
            · replace h := h.2 c
              refine Ev_aload_n 0 dX12_mishap_95 rfl rfl ?_
              refine Ev_iload_n 1 dX12_mishap_96 rfl rfl ?_
              refine Ev_callV (As := [ev_i a1]) (b := 0) (st := []) (M' := M_X12_seersNow) cm_X12_seersNow wd_2097 wd_2099 wd_164 yM_0 cl_X12 rfl dX12_mishap_97 (Nat.le_refl _) rfl (Nat.le_of_ble_eq_true rfl) (Nat.le_of_ble_eq_true rfl) h (fun v u h hk => ?_)
              obtain ⟨r7, rfl⟩ := hk
              obtain ⟨s6, rfl⟩ : ∃ x, x = u := ⟨_, rfl⟩
              replace h := h r7 rfl
              refine Ev_goto (tgt := 105) dX12_mishap_100 rfl ?_
              exact Ev_iret rfl dX12_mishap_105 rfl h
          · replace h := h.2 c
            refine Ev_aload_n 0 dX12_mishap_75 rfl rfl ?_
            refine Ev_getR (i := 1) cl_X12 yM_0 (Nat.le_of_ble_eq_true rfl) rfl wd_1445 dX12_mishap_76 ?_
            refine Ev_bipushC dX12_mishap_79 rfl ?_
            refine Ev_iload_n 1 dX12_mishap_81 rfl rfl ?_
            refine Ev_iadd dX12_mishap_82 ?_
            obtain ⟨h0, h⟩ := h
            refine Ev_iald yM_1 h0 dX12_mishap_83 ?_
            refine Ev_iconst dX12_mishap_84 rfl (ev_Rc rfl) ?_
            refine Ev_isub dX12_mishap_85 ?_
            refine Ev_goto (tgt := 105) dX12_mishap_86 rfl ?_
            exact Ev_iret rfl dX12_mishap_105 rfl h
        · replace h := h.2 c
          refine Ev_aload_n 0 dX12_mishap_63 rfl rfl ?_
          refine Ev_iload_n 1 dX12_mishap_64 rfl rfl ?_
          refine Ev_callV (As := [ev_i a1]) (b := 0) (st := []) (M' := M_X12_secondOf) cm_X12_secondOf wd_2093 wd_2095 wd_163 yM_0 cl_X12 rfl dX12_mishap_65 (Nat.le_refl _) rfl (Nat.le_of_ble_eq_true rfl) (Nat.le_of_ble_eq_true rfl) h (fun v u h hk => ?_)
          obtain ⟨r9, rfl⟩ := hk
          obtain ⟨s8, rfl⟩ : ∃ x, x = u := ⟨_, rfl⟩
          replace h := h r9 rfl
          exact Ev_iret rfl dX12_mishap_68 rfl h
      · replace h := h.2 c
        refine Ev_aload_n 0 dX12_mishap_47 rfl rfl ?_
        refine Ev_getR (i := 1) cl_X12 yM_0 (Nat.le_of_ble_eq_true rfl) rfl wd_1445 dX12_mishap_48 ?_
        refine Ev_bipushC dX12_mishap_51 rfl ?_
        refine Ev_iload_n 1 dX12_mishap_53 rfl rfl ?_
        refine Ev_iadd dX12_mishap_54 ?_
        obtain ⟨h0, h⟩ := h
        refine Ev_iald yM_1 h0 dX12_mishap_55 ?_
        exact Ev_iret rfl dX12_mishap_56 rfl h
    · replace h := h.2 c
      refine Ev_aload_n 0 dX12_mishap_34 rfl rfl ?_
      refine Ev_iload_n 1 dX12_mishap_35 rfl rfl ?_
      refine Ev_iload_n 2 dX12_mishap_36 rfl rfl ?_
      refine Ev_callV (As := [ev_i a1, ev_i a2]) (b := 0) (st := []) (M' := M_X12_ofMishap) cm_X12_ofMishap wd_1954 wd_1956 wd_137 yM_0 cl_X12 rfl dX12_mishap_37 (Nat.le_refl _) rfl (Nat.le_of_ble_eq_true rfl) (Nat.le_of_ble_eq_true rfl) h (fun v u h hk => ?_)
      obtain ⟨r11, rfl⟩ := hk
      obtain ⟨s10, rfl⟩ : ∃ x, x = u := ⟨_, rfl⟩
      replace h := h r11 rfl
      exact Ev_iret rfl dX12_mishap_40 rfl h
  · replace h := h.2 c
    refine Ev_bipushC dX12_mishap_20 rfl ?_
    exact Ev_iret rfl dX12_mishap_22 rfl h
