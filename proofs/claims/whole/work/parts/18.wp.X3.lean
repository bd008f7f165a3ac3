theorem dX3_comesIn_0 : decode cX3_comesIn 0 = .ok (.aload_n 0, 1) := by decide +kernel
theorem dX3_comesIn_1 : decode cX3_comesIn 1 = .ok (.invokevirtual 39, 3) := by decide +kernel
theorem dX3_comesIn_4 : decode cX3_comesIn 4 = .ok (.iload_n 1, 1) := by decide +kernel
theorem dX3_comesIn_5 : decode cX3_comesIn 5 = .ok (.ifCond .lt 18, 3) := by decide +kernel
theorem dX3_comesIn_8 : decode cX3_comesIn 8 = .ok (.iload_n 1, 1) := by decide +kernel
theorem dX3_comesIn_9 : decode cX3_comesIn 9 = .ok (.bipush 10, 2) := by decide +kernel
theorem dX3_comesIn_11 : decode cX3_comesIn 11 = .ok (.if_icmp .ge 12, 3) := by decide +kernel
theorem dX3_comesIn_14 : decode cX3_comesIn 14 = .ok (.aload_n 0, 1) := by decide +kernel
theorem dX3_comesIn_15 : decode cX3_comesIn 15 = .ok (.getfield 18, 3) := by decide +kernel
theorem dX3_comesIn_18 : decode cX3_comesIn 18 = .ok (.iload_n 1, 1) := by decide +kernel
theorem dX3_comesIn_19 : decode cX3_comesIn 19 = .ok (.iaload, 1) := by decide +kernel
theorem dX3_comesIn_20 : decode cX3_comesIn 20 = .ok (.goto 4, 3) := by decide +kernel
theorem dX3_comesIn_23 : decode cX3_comesIn 23 = .ok (.iconst (-1), 1) := by decide +kernel
theorem dX3_comesIn_24 : decode cX3_comesIn 24 = .ok (.ireturn, 1) := by decide +kernel
theorem wp_X3_comesIn_0 {d : Nat} {s : ev_S} {Q : Option ev_V → ev_S → Prop} {a1 : Int}
    (h : (Ev layX M_X3_foresee d 0 [(0, ev_r 146)] [] s (fun _ s1 => ((a1 < 0 → Q (some (ev_i (-1))) s1) ∧ (0 ≤ a1 → ((10 ≤ a1 → Q (some (ev_i (-1))) s1) ∧ (a1 < 10 → ((0 ≤ a1 ∧ a1 < (10 : Nat)) ∧ Q (some (ev_i (s1 159 (Int.toNat a1)))) s1)))))))) :
    Ev layX M_X3_comesIn (d + 1) 0 [(0, ev_r 146), (1, ev_i a1)] [] s Q := by
  refine Ev_aload_n 0 dX3_comesIn_0 rfl rfl ?_
  refine Ev_callV (As := []) (b := 146) (st := []) (M' := M_X3_foresee) cm_X3_foresee wd_1160 wd_1162 wd_39 yX_146 cl_X3 rfl dX3_comesIn_1 (Nat.le_refl _) rfl (Nat.le_of_ble_eq_true rfl) (Nat.le_of_ble_eq_true rfl) h (fun v u h hk => ?_)
  cases hk
  obtain ⟨s1, rfl⟩ : ∃ x, x = u := ⟨_, rfl⟩
  refine Ev_iload_n 1 dX3_comesIn_4 rfl rfl ?_
  refine Ev_if_lt (tgt := 23) dX3_comesIn_5 rfl (fun c => ?_) (fun c => ?_)
  · replace h := h.1 c
    refine Ev_iconst dX3_comesIn_23 rfl (ev_Rc rfl) ?_
    exact Ev_iret rfl dX3_comesIn_24 rfl h
  · replace h := h.2 c
    refine Ev_iload_n 1 dX3_comesIn_8 rfl rfl ?_
    refine Ev_bipushC dX3_comesIn_9 rfl ?_
    refine Ev_icmp_ge (tgt := 23) dX3_comesIn_11 rfl (fun c => ?_) (fun c => ?_)
    · replace h := h.1 c
      refine Ev_iconst dX3_comesIn_23 rfl (ev_Rc rfl) ?_
      exact Ev_iret rfl dX3_comesIn_24 rfl h
    · replace h := h.2 c
      refine Ev_aload_n 0 dX3_comesIn_14 rfl rfl ?_
      refine Ev_getR (i := 4) cl_X3 yX_146 (Nat.le_of_ble_eq_true rfl) rfl wd_574 dX3_comesIn_15 ?_
      refine Ev_iload_n 1 dX3_comesIn_18 rfl rfl ?_
      obtain ⟨h0, h⟩ := h
      refine Ev_iald yX_159 h0 dX3_comesIn_19 ?_
      refine Ev_goto (tgt := 24) dX3_comesIn_20 rfl ?_
      exact Ev_iret rfl dX3_comesIn_24 rfl h
theorem dX3_foresee_0 : decode cX3_foresee 0 = .ok (.aload_n 0, 1) := by decide +kernel
theorem dX3_foresee_1 : decode cX3_foresee 1 = .ok (.getfield 42, 3) := by decide +kernel
theorem dX3_foresee_4 : decode cX3_foresee 4 = .ok (.ifCond .eq 4, 3) := by decide +kernel
theorem dX3_foresee_7 : decode cX3_foresee 7 = .ok (.return_, 1) := by decide +kernel
theorem dX3_foresee_8 : decode cX3_foresee 8 = .ok (.aload_n 0, 1) := by decide +kernel
theorem dX3_foresee_9 : decode cX3_foresee 9 = .ok (.iconst 1, 1) := by decide +kernel
theorem dX3_foresee_10 : decode cX3_foresee 10 = .ok (.putfield 42, 3) := by decide +kernel
theorem dX3_foresee_13 : decode cX3_foresee 13 = .ok (.aload_n 0, 1) := by decide +kernel
theorem dX3_foresee_14 : decode cX3_foresee 14 = .ok (.getfield 18, 3) := by decide +kernel
theorem dX3_foresee_17 : decode cX3_foresee 17 = .ok (.iconst (-1), 1) := by decide +kernel
theorem dX3_foresee_18 : decode cX3_foresee 18 = .ok (.invokestatic 46, 3) := by decide +kernel
theorem dX3_foresee_21 : decode cX3_foresee 21 = .ok (.aload_n 0, 1) := by decide +kernel
theorem dX3_foresee_22 : decode cX3_foresee 22 = .ok (.getfield 12, 3) := by decide +kernel
theorem dX3_foresee_25 : decode cX3_foresee 25 = .ok (.aload_n 0, 1) := by decide +kernel
theorem dX3_foresee_26 : decode cX3_foresee 26 = .ok (.getfield 32, 3) := by decide +kernel
theorem dX3_foresee_29 : decode cX3_foresee 29 = .ok (.invokevirtual 52, 3) := by decide +kernel
theorem dX3_foresee_32 : decode cX3_foresee 32 = .ok (.aload_n 0, 1) := by decide +kernel
theorem dX3_foresee_33 : decode cX3_foresee 33 = .ok (.invokevirtual 56, 3) := by decide +kernel
theorem dX3_foresee_36 : decode cX3_foresee 36 = .ok (.istore_n 1, 1) := by decide +kernel
theorem dX3_foresee_37 : decode cX3_foresee 37 = .ok (.aload_n 0, 1) := by decide +kernel
theorem dX3_foresee_38 : decode cX3_foresee 38 = .ok (.getfield 32, 3) := by decide +kernel
theorem dX3_foresee_41 : decode cX3_foresee 41 = .ok (.getfield 60, 3) := by decide +kernel
theorem dX3_foresee_44 : decode cX3_foresee 44 = .ok (.istore_n 2, 1) := by decide +kernel
theorem dX3_foresee_45 : decode cX3_foresee 45 = .ok (.iload_n 2, 1) := by decide +kernel
theorem dX3_foresee_46 : decode cX3_foresee 46 = .ok (.iload_n 1, 1) := by decide +kernel
theorem dX3_foresee_47 : decode cX3_foresee 47 = .ok (.if_icmp .gt 91, 3) := by decide +kernel
theorem dX3_foresee_50 : decode cX3_foresee 50 = .ok (.aload_n 0, 1) := by decide +kernel
theorem dX3_foresee_51 : decode cX3_foresee 51 = .ok (.getfield 12, 3) := by decide +kernel
theorem dX3_foresee_54 : decode cX3_foresee 54 = .ok (.iload_n 2, 1) := by decide +kernel
theorem dX3_foresee_55 : decode cX3_foresee 55 = .ok (.putfield 60, 3) := by decide +kernel
theorem dX3_foresee_58 : decode cX3_foresee 58 = .ok (.aload_n 0, 1) := by decide +kernel
theorem dX3_foresee_59 : decode cX3_foresee 59 = .ok (.getfield 35, 3) := by decide +kernel
theorem dX3_foresee_62 : decode cX3_foresee 62 = .ok (.aload_n 0, 1) := by decide +kernel
theorem dX3_foresee_63 : decode cX3_foresee 63 = .ok (.getfield 12, 3) := by decide +kernel
theorem dX3_foresee_66 : decode cX3_foresee 66 = .ok (.invokevirtual 64, 3) := by decide +kernel
theorem dX3_foresee_69 : decode cX3_foresee 69 = .ok (.iconst 0, 1) := by decide +kernel
theorem dX3_foresee_70 : decode cX3_foresee 70 = .ok (.istore_n 3, 1) := by decide +kernel
theorem dX3_foresee_71 : decode cX3_foresee 71 = .ok (.iload_n 3, 1) := by decide +kernel
theorem dX3_foresee_72 : decode cX3_foresee 72 = .ok (.aload_n 0, 1) := by decide +kernel
theorem dX3_foresee_73 : decode cX3_foresee 73 = .ok (.getfield 28, 3) := by decide +kernel
theorem dX3_foresee_76 : decode cX3_foresee 76 = .ok (.getfield 69, 3) := by decide +kernel
theorem dX3_foresee_79 : decode cX3_foresee 79 = .ok (.if_icmp .ge 53, 3) := by decide +kernel
theorem dX3_foresee_82 : decode cX3_foresee 82 = .ok (.aload_n 0, 1) := by decide +kernel
theorem dX3_foresee_83 : decode cX3_foresee 83 = .ok (.getfield 12, 3) := by decide +kernel
theorem dX3_foresee_86 : decode cX3_foresee 86 = .ok (.getfield 74, 3) := by decide +kernel
theorem dX3_foresee_89 : decode cX3_foresee 89 = .ok (.iload_n 3, 1) := by decide +kernel
theorem dX3_foresee_90 : decode cX3_foresee 90 = .ok (.iaload, 1) := by decide +kernel
theorem dX3_foresee_91 : decode cX3_foresee 91 = .ok (.ifCond .ne 35, 3) := by decide +kernel
theorem dX3_foresee_94 : decode cX3_foresee 94 = .ok (.aload_n 0, 1) := by decide +kernel
theorem dX3_foresee_95 : decode cX3_foresee 95 = .ok (.getfield 35, 3) := by decide +kernel
theorem dX3_foresee_98 : decode cX3_foresee 98 = .ok (.aload_n 0, 1) := by decide +kernel
theorem dX3_foresee_99 : decode cX3_foresee 99 = .ok (.getfield 12, 3) := by decide +kernel
theorem dX3_foresee_102 : decode cX3_foresee 102 = .ok (.iload_n 3, 1) := by decide +kernel
theorem dX3_foresee_103 : decode cX3_foresee 103 = .ok (.invokevirtual 77, 3) := by decide +kernel
theorem dX3_foresee_106 : decode cX3_foresee 106 = .ok (.ifCond .eq 20, 3) := by decide +kernel
theorem dX3_foresee_109 : decode cX3_foresee 109 = .ok (.aload_n 0, 1) := by decide +kernel
theorem dX3_foresee_110 : decode cX3_foresee 110 = .ok (.getfield 12, 3) := by decide +kernel
theorem dX3_foresee_113 : decode cX3_foresee 113 = .ok (.getfield 74, 3) := by decide +kernel
theorem dX3_foresee_116 : decode cX3_foresee 116 = .ok (.iload_n 3, 1) := by decide +kernel
theorem dX3_foresee_117 : decode cX3_foresee 117 = .ok (.iconst 2, 1) := by decide +kernel
theorem dX3_foresee_118 : decode cX3_foresee 118 = .ok (.iastore, 1) := by decide +kernel
theorem dX3_foresee_119 : decode cX3_foresee 119 = .ok (.aload_n 0, 1) := by decide +kernel
theorem dX3_foresee_120 : decode cX3_foresee 120 = .ok (.getfield 18, 3) := by decide +kernel
theorem dX3_foresee_123 : decode cX3_foresee 123 = .ok (.iload_n 3, 1) := by decide +kernel
theorem dX3_foresee_124 : decode cX3_foresee 124 = .ok (.iload_n 2, 1) := by decide +kernel
theorem dX3_foresee_125 : decode cX3_foresee 125 = .ok (.iastore, 1) := by decide +kernel
theorem dX3_foresee_126 : decode cX3_foresee 126 = .ok (.iinc 3 1, 3) := by decide +kernel
theorem dX3_foresee_129 : decode cX3_foresee 129 = .ok (.goto (-58), 3) := by decide +kernel
theorem dX3_foresee_132 : decode cX3_foresee 132 = .ok (.iinc 2 1, 3) := by decide +kernel
theorem dX3_foresee_135 : decode cX3_foresee 135 = .ok (.goto (-90), 3) := by decide +kernel
theorem dX3_foresee_138 : decode cX3_foresee 138 = .ok (.return_, 1) := by decide +kernel
theorem wp_X3_foresee_0 {d : Nat} {s : ev_S} {Q : Option ev_V → ev_S → Prop}
    (h : (((s 146 7) = 0 → (∀ s1, ev_up s 146 7 1 = s1 → (Ev layX M_J7_fill_53178 d 0 [(0, ev_r 159), (1, ev_i (-1))] [] s1 (fun _ s2 => (Ev layX M_X2_copyFrom d 0 [(0, ev_r 147), (1, ev_r 15)] [] s2 (fun _ s3 => (Ev layX M_X3_lastSecond d 0 [(0, ev_r 146)] [] s3 (ev_pi (fun r5 s4 => Ev layX M_X3_foresee (d + 1) 45 [(0, ev_r 146), (1, ev_i r5), (2, ev_i (s4 15 0))] [] s4 Q))))))))) ∧ ((s 146 7) ≠ 0 → Q none s))) :
    Ev layX M_X3_foresee (d + 1) 0 [(0, ev_r 146)] [] s Q := by
  refine Ev_aload_n 0 dX3_foresee_0 rfl rfl ?_
  refine Ev_get (i := 7) cl_X3 yX_146 (Nat.le_of_ble_eq_true rfl) rfl wd_577 dX3_foresee_1 ?_
  refine Ev_if_eq (tgt := 8) dX3_foresee_4 rfl (fun c => ?_) (fun c => ?_)
  · replace h := h.1 c
    refine Ev_aload_n 0 dX3_foresee_8 rfl rfl ?_
    refine Ev_iconst dX3_foresee_9 rfl (ev_Rc rfl) ?_
    refine Ev_put (i := 7) (ty := .boolean) cl_X3 yX_146 (Nat.le_of_ble_eq_true rfl) rfl rfl (by decide +kernel) (ev_nb (by decide)) (ev_fb (by decide)) wd_577 dX3_foresee_10 (Ev_nm (fun s1 es1 => ?_))
    replace h := h s1 es1
    refine Ev_aload_n 0 dX3_foresee_13 rfl rfl ?_
    refine Ev_getR (i := 4) cl_X3 yX_146 (Nat.le_of_ble_eq_true rfl) rfl wd_574 dX3_foresee_14 ?_
    refine Ev_iconst dX3_foresee_17 rfl (ev_Rc rfl) ?_
    refine Ev_callS (As := [ev_r 159, ev_i (-1)]) (st := []) (M' := M_J7_fill_53178) cm_J7_fill_53178 wd_1164 wd_685 dX3_foresee_18 (Nat.le_refl _) rfl (Nat.le_of_ble_eq_true rfl) (Nat.le_of_ble_eq_true rfl) h (fun v u h hk => ?_)
    cases hk
    obtain ⟨s2, rfl⟩ : ∃ x, x = u := ⟨_, rfl⟩
    refine Ev_aload_n 0 dX3_foresee_21 rfl rfl ?_
    refine Ev_getR (i := 3) cl_X3 yX_146 (Nat.le_of_ble_eq_true rfl) rfl wd_573 dX3_foresee_22 ?_
    refine Ev_aload_n 0 dX3_foresee_25 rfl rfl ?_
    refine Ev_getR (i := 1) cl_X3 yX_146 (Nat.le_of_ble_eq_true rfl) rfl wd_571 dX3_foresee_26 ?_
    refine Ev_callV (As := [ev_r 15]) (b := 147) (st := []) (M' := M_X2_copyFrom) cm_X2_copyFrom wd_1165 wd_1059 wd_1060 yX_147 cl_X2 rfl dX3_foresee_29 (Nat.le_refl _) rfl (Nat.le_of_ble_eq_true rfl) (Nat.le_of_ble_eq_true rfl) h (fun v u h hk => ?_)
    cases hk
    obtain ⟨s3, rfl⟩ : ∃ x, x = u := ⟨_, rfl⟩
    refine Ev_aload_n 0 dX3_foresee_32 rfl rfl ?_
    refine Ev_callV (As := []) (b := 146) (st := []) (M' := M_X3_lastSecond) cm_X3_lastSecond wd_1166 wd_1168 wd_40 yX_146 cl_X3 rfl dX3_foresee_33 (Nat.le_refl _) rfl (Nat.le_of_ble_eq_true rfl) (Nat.le_of_ble_eq_true rfl) h (fun v u h hk => ?_)
    obtain ⟨r5, rfl⟩ := hk
    obtain ⟨s4, rfl⟩ : ∃ x, x = u := ⟨_, rfl⟩
    replace h := h r5 rfl
    refine Ev_istore_n (l' := [(1, ev_i r5), (0, ev_r 146)]) dX3_foresee_36 rfl (Nat.le_of_ble_eq_true rfl) rfl ?_
    refine Ev_aload_n 1 dX3_foresee_37 rfl rfl ?_
    refine Ev_getR (i := 1) cl_X3 yX_146 (Nat.le_of_ble_eq_true rfl) rfl wd_571 dX3_foresee_38 ?_
    refine Ev_get (i := 0) cl_X2 yX_15 (Nat.le_of_ble_eq_true rfl) rfl wd_339 dX3_foresee_41 ?_
    refine Ev_istore_n (l' := [(2, ev_i (s4 15 0)), (1, ev_i r5), (0, ev_r 146)]) dX3_foresee_44 rfl (Nat.le_of_ble_eq_true rfl) rfl ?_
    exact Ev_sub [2, 1, 0] rfl h
  · replace h := h.2 c
    exact Ev_vret rfl dX3_foresee_7 h
theorem wp_X3_foresee_45 {d : Nat} {s : ev_S} {Q : Option ev_V → ev_S → Prop} {a1 a2 : Int}
    (h : ((a1 < a2 → Q none s) ∧ (a2 ≤ a1 → (∀ s1, ev_up s 147 0 a2 = s1 → (Ev layX M_X7_moveWards d 0 [(0, ev_r 144), (1, ev_r 147)] [] s1 (fun _ s2 => Ev layX M_X3_foresee (d + 1) 71 [(0, ev_r 146), (1, ev_i a1), (2, ev_i a2), (3, ev_i 0)] [] s2 Q)))))) :
    Ev layX M_X3_foresee (d + 1) 45 [(0, ev_r 146), (1, ev_i a1), (2, ev_i a2)] [] s Q := by
  refine Ev_iload_n 2 dX3_foresee_45 rfl rfl ?_
  refine Ev_iload_n 1 dX3_foresee_46 rfl rfl ?_
  refine Ev_icmp_gt (tgt := 138) dX3_foresee_47 rfl (fun c => ?_) (fun c => ?_)
  · replace h := h.1 c
    exact Ev_vret rfl dX3_foresee_138 h
  · replace h := h.2 c
    refine Ev_aload_n 0 dX3_foresee_50 rfl rfl ?_
    refine Ev_getR (i := 3) cl_X3 yX_146 (Nat.le_of_ble_eq_true rfl) rfl wd_573 dX3_foresee_51 ?_
    refine Ev_iload_n 2 dX3_foresee_54 rfl rfl ?_
    refine Ev_put (i := 0) (ty := .int) cl_X2 yX_147 (Nat.le_of_ble_eq_true rfl) rfl rfl (by decide +kernel) rfl rfl wd_339 dX3_foresee_55 (Ev_nm (fun s1 es1 => ?_))
    replace h := h s1 es1
    refine Ev_aload_n 0 dX3_foresee_58 rfl rfl ?_
    refine Ev_getR (i := 2) cl_X3 yX_146 (Nat.le_of_ble_eq_true rfl) rfl wd_572 dX3_foresee_59 ?_
    refine Ev_aload_n 0 dX3_foresee_62 rfl rfl ?_
    refine Ev_getR (i := 3) cl_X3 yX_146 (Nat.le_of_ble_eq_true rfl) rfl wd_573 dX3_foresee_63 ?_
    refine Ev_callV (As := [ev_r 147]) (b := 144) (st := []) (M' := M_X7_moveWards) cm_X7_moveWards wd_1171 wd_1112 wd_1113 yX_144 cl_X7 rfl dX3_foresee_66 (Nat.le_refl _) rfl (Nat.le_of_ble_eq_true rfl) (Nat.le_of_ble_eq_true rfl) h (fun v u h hk => ?_)
    cases hk
    obtain ⟨s2, rfl⟩ : ∃ x, x = u := ⟨_, rfl⟩
    refine Ev_iconst dX3_foresee_69 rfl (ev_Rc rfl) ?_
    refine Ev_istore_n (l' := [(3, ev_i 0), (0, ev_r 146), (1, ev_i a1), (2, ev_i a2)]) dX3_foresee_70 rfl (Nat.le_of_ble_eq_true rfl) rfl ?_
    exact Ev_sub [1, 2, 3, 0] rfl h
theorem wp_X3_foresee_71 {d : Nat} {s : ev_S} {Q : Option ev_V → ev_S → Prop} {a1 a2 a3 : Int}
    (h : (((s 1 13) ≤ a3 → Ev layX M_X3_foresee (d + 1) 45 [(0, ev_r 146), (1, ev_i a1), (2, ev_i (ev_add a2 1))] [] s Q) ∧ (a3 < (s 1 13) → ((0 ≤ a3 ∧ a3 < (10 : Nat)) ∧ (((s 156 (Int.toNat a3)) ≠ 0 → Ev layX M_X3_foresee (d + 1) 71 [(0, ev_r 146), (1, ev_i a1), (2, ev_i a2), (3, ev_i (ev_add a3 1))] [] s Q) ∧ ((s 156 (Int.toNat a3)) = 0 → (Ev layX M_X7_comesNow d 0 [(0, ev_r 144), (1, ev_r 147), (2, ev_i a3)] [] s (ev_pi (fun r2 s1 => ((r2 = 0 → Ev layX M_X3_foresee (d + 1) 71 [(0, ev_r 146), (1, ev_i a1), (2, ev_i a2), (3, ev_i (ev_add a3 1))] [] s1 Q) ∧ (r2 ≠ 0 → ((0 ≤ a3 ∧ a3 < (10 : Nat)) ∧ ∀ s3, ev_up s1 156 (Int.toNat a3) 2 = s3 → ((0 ≤ a3 ∧ a3 < (10 : Nat)) ∧ ∀ s4, ev_up s3 159 (Int.toNat a3) a2 = s4 → Ev layX M_X3_foresee (d + 1) 71 [(0, ev_r 146), (1, ev_i a1), (2, ev_i a2), (3, ev_i (ev_add a3 1))] [] s4 Q))))))))))))) :
    Ev layX M_X3_foresee (d + 1) 71 [(0, ev_r 146), (1, ev_i a1), (2, ev_i a2), (3, ev_i a3)] [] s Q := by
  refine Ev_iload_n 3 dX3_foresee_71 rfl rfl ?_
  refine Ev_aload_n 0 dX3_foresee_72 rfl rfl ?_
  refine Ev_getR (i := 0) cl_X3 yX_146 (Nat.le_of_ble_eq_true rfl) rfl wd_570 dX3_foresee_73 ?_
  refine Ev_get (i := 13) cl_X10 yX_1 (Nat.le_of_ble_eq_true rfl) rfl wd_287 dX3_foresee_76 ?_
  refine Ev_icmp_ge (tgt := 132) dX3_foresee_79 rfl (fun c => ?_) (fun c => ?_)
  · replace h := h.1 c
    refine Ev_iinc (j := 2) (l' := [(2, ev_i (ev_add a2 1)), (0, ev_r 146), (1, ev_i a1), (3, ev_i a3)]) dX3_foresee_132 rfl (Nat.le_of_ble_eq_true rfl) rfl ?_
    refine Ev_goto (tgt := 45) dX3_foresee_135 rfl ?_
    exact Ev_sub [1, 2, 0] rfl h
  · replace h := h.2 c
    refine Ev_aload_n 0 dX3_foresee_82 rfl rfl ?_
    refine Ev_getR (i := 3) cl_X3 yX_146 (Nat.le_of_ble_eq_true rfl) rfl wd_573 dX3_foresee_83 ?_
    refine Ev_getR (i := 10) cl_X2 yX_147 (Nat.le_of_ble_eq_true rfl) rfl wd_373 dX3_foresee_86 ?_
    refine Ev_iload_n 3 dX3_foresee_89 rfl rfl ?_
    obtain ⟨h0, h⟩ := h
    refine Ev_iald yX_156 h0 dX3_foresee_90 ?_
    refine Ev_if_ne (tgt := 126) dX3_foresee_91 rfl (fun c => ?_) (fun c => ?_)
    · replace h := h.1 c
      refine Ev_iinc (j := 3) (l' := [(3, ev_i (ev_add a3 1)), (0, ev_r 146), (1, ev_i a1), (2, ev_i a2)]) dX3_foresee_126 rfl (Nat.le_of_ble_eq_true rfl) rfl ?_
      refine Ev_goto (tgt := 71) dX3_foresee_129 rfl ?_
      exact Ev_sub [1, 2, 3, 0] rfl h
    · replace h := h.2 c
      refine Ev_aload_n 0 dX3_foresee_94 rfl rfl ?_
      refine Ev_getR (i := 2) cl_X3 yX_146 (Nat.le_of_ble_eq_true rfl) rfl wd_572 dX3_foresee_95 ?_
      refine Ev_aload_n 0 dX3_foresee_98 rfl rfl ?_
      refine Ev_getR (i := 3) cl_X3 yX_146 (Nat.le_of_ble_eq_true rfl) rfl wd_573 dX3_foresee_99 ?_
      refine Ev_iload_n 3 dX3_foresee_102 rfl rfl ?_
      refine Ev_callV (As := [ev_r 147, ev_i a3]) (b := 144) (st := []) (M' := M_X7_comesNow) cm_X7_comesNow wd_1172 wd_1121 wd_1122 yX_144 cl_X7 rfl dX3_foresee_103 (Nat.le_refl _) rfl (Nat.le_of_ble_eq_true rfl) (Nat.le_of_ble_eq_true rfl) h (fun v u h hk => ?_)
      obtain ⟨r2, rfl⟩ := hk
      obtain ⟨s1, rfl⟩ : ∃ x, x = u := ⟨_, rfl⟩
      replace h := h r2 rfl
      refine Ev_if_eq (tgt := 126) dX3_foresee_106 rfl (fun c => ?_) (fun c => ?_)
      · replace h := h.1 c
        refine Ev_iinc (j := 3) (l' := [(3, ev_i (ev_add a3 1)), (0, ev_r 146), (1, ev_i a1), (2, ev_i a2)]) dX3_foresee_126 rfl (Nat.le_of_ble_eq_true rfl) rfl ?_
        refine Ev_goto (tgt := 71) dX3_foresee_129 rfl ?_
        exact Ev_sub [1, 2, 3, 0] rfl h
      · replace h := h.2 c
        refine Ev_aload_n 0 dX3_foresee_109 rfl rfl ?_
        refine Ev_getR (i := 3) cl_X3 yX_146 (Nat.le_of_ble_eq_true rfl) rfl wd_573 dX3_foresee_110 ?_
        refine Ev_getR (i := 10) cl_X2 yX_147 (Nat.le_of_ble_eq_true rfl) rfl wd_373 dX3_foresee_113 ?_
        refine Ev_iload_n 3 dX3_foresee_116 rfl rfl ?_
        refine Ev_iconst dX3_foresee_117 rfl (ev_Rc rfl) ?_
        obtain ⟨h0, h⟩ := h
        refine Ev_iast yX_156 h0 dX3_foresee_118 (Ev_nm (fun s3 es3 => ?_))
        replace h := h s3 es3
        refine Ev_aload_n 0 dX3_foresee_119 rfl rfl ?_
        refine Ev_getR (i := 4) cl_X3 yX_146 (Nat.le_of_ble_eq_true rfl) rfl wd_574 dX3_foresee_120 ?_
        refine Ev_iload_n 3 dX3_foresee_123 rfl rfl ?_
        refine Ev_iload_n 2 dX3_foresee_124 rfl rfl ?_
        obtain ⟨h0, h⟩ := h
        refine Ev_iast yX_159 h0 dX3_foresee_125 (Ev_nm (fun s4 es4 => ?_))
        replace h := h s4 es4
        refine Ev_iinc (j := 3) (l' := [(3, ev_i (ev_add a3 1)), (0, ev_r 146), (1, ev_i a1), (2, ev_i a2)]) dX3_foresee_126 rfl (Nat.le_of_ble_eq_true rfl) rfl ?_
        refine Ev_goto (tgt := 71) dX3_foresee_129 rfl ?_
        exact Ev_sub [1, 2, 3, 0] rfl h
theorem dX3_lastSecond_0 : decode cX3_lastSecond 0 = .ok (.iconst (-1), 1) := by decide +kernel
theorem dX3_lastSecond_1 : decode cX3_lastSecond 1 = .ok (.istore_n 1, 1) := by decide +kernel
theorem dX3_lastSecond_2 : decode cX3_lastSecond 2 = .ok (.iconst 0, 1) := by decide +kernel
theorem dX3_lastSecond_3 : decode cX3_lastSecond 3 = .ok (.istore_n 2, 1) := by decide +kernel
theorem dX3_lastSecond_4 : decode cX3_lastSecond 4 = .ok (.iload_n 2, 1) := by decide +kernel
theorem dX3_lastSecond_5 : decode cX3_lastSecond 5 = .ok (.aload_n 0, 1) := by decide +kernel
theorem dX3_lastSecond_6 : decode cX3_lastSecond 6 = .ok (.getfield 28, 3) := by decide +kernel
theorem dX3_lastSecond_9 : decode cX3_lastSecond 9 = .ok (.getfield 69, 3) := by decide +kernel
theorem dX3_lastSecond_12 : decode cX3_lastSecond 12 = .ok (.if_icmp .ge 40, 3) := by decide +kernel
theorem dX3_lastSecond_15 : decode cX3_lastSecond 15 = .ok (.aload_n 0, 1) := by decide +kernel
theorem dX3_lastSecond_16 : decode cX3_lastSecond 16 = .ok (.getfield 32, 3) := by decide +kernel
theorem dX3_lastSecond_19 : decode cX3_lastSecond 19 = .ok (.getfield 74, 3) := by decide +kernel
theorem dX3_lastSecond_22 : decode cX3_lastSecond 22 = .ok (.iload_n 2, 1) := by decide +kernel
theorem dX3_lastSecond_23 : decode cX3_lastSecond 23 = .ok (.iaload, 1) := by decide +kernel
theorem dX3_lastSecond_24 : decode cX3_lastSecond 24 = .ok (.ifCond .ne 22, 3) := by decide +kernel
theorem dX3_lastSecond_27 : decode cX3_lastSecond 27 = .ok (.iload_n 1, 1) := by decide +kernel
theorem dX3_lastSecond_28 : decode cX3_lastSecond 28 = .ok (.aload_n 0, 1) := by decide +kernel
theorem dX3_lastSecond_29 : decode cX3_lastSecond 29 = .ok (.getfield 28, 3) := by decide +kernel
theorem dX3_lastSecond_32 : decode cX3_lastSecond 32 = .ok (.getfield 81, 3) := by decide +kernel
theorem dX3_lastSecond_35 : decode cX3_lastSecond 35 = .ok (.iload_n 2, 1) := by decide +kernel
theorem dX3_lastSecond_36 : decode cX3_lastSecond 36 = .ok (.bipush 7, 2) := by decide +kernel
theorem dX3_lastSecond_38 : decode cX3_lastSecond 38 = .ok (.imul, 1) := by decide +kernel
theorem dX3_lastSecond_39 : decode cX3_lastSecond 39 = .ok (.iconst 3, 1) := by decide +kernel
theorem dX3_lastSecond_40 : decode cX3_lastSecond 40 = .ok (.iadd, 1) := by decide +kernel
theorem dX3_lastSecond_41 : decode cX3_lastSecond 41 = .ok (.iaload, 1) := by decide +kernel
theorem dX3_lastSecond_42 : decode cX3_lastSecond 42 = .ok (.invokestatic 84, 3) := by decide +kernel
theorem dX3_lastSecond_45 : decode cX3_lastSecond 45 = .ok (.istore_n 1, 1) := by decide +kernel
theorem dX3_lastSecond_46 : decode cX3_lastSecond 46 = .ok (.iinc 2 1, 3) := by decide +kernel
theorem dX3_lastSecond_49 : decode cX3_lastSecond 49 = .ok (.goto (-45), 3) := by decide +kernel
theorem dX3_lastSecond_52 : decode cX3_lastSecond 52 = .ok (.iload_n 1, 1) := by decide +kernel
theorem dX3_lastSecond_53 : decode cX3_lastSecond 53 = .ok (.ireturn, 1) := by decide +kernel
theorem wp_X3_lastSecond_0 {d : Nat} {s : ev_S} {Q : Option ev_V → ev_S → Prop}
    (h : Ev layX M_X3_lastSecond (d + 1) 4 [(0, ev_r 146), (1, ev_i (-1)), (2, ev_i 0)] [] s Q) :
    Ev layX M_X3_lastSecond (d + 1) 0 [(0, ev_r 146)] [] s Q := by
  refine Ev_iconst dX3_lastSecond_0 rfl (ev_Rc rfl) ?_
  refine Ev_istore_n (l' := [(1, ev_i (-1)), (0, ev_r 146)]) dX3_lastSecond_1 rfl (Nat.le_of_ble_eq_true rfl) rfl ?_
  refine Ev_iconst dX3_lastSecond_2 rfl (ev_Rc rfl) ?_
  refine Ev_istore_n (l' := [(2, ev_i 0), (1, ev_i (-1)), (0, ev_r 146)]) dX3_lastSecond_3 rfl (Nat.le_of_ble_eq_true rfl) rfl ?_
  exact Ev_sub [2, 1, 0] rfl h
theorem wp_X3_lastSecond_4 {d : Nat} {s : ev_S} {Q : Option ev_V → ev_S → Prop} {a1 a2 : Int}
    (h : (((s 1 13) ≤ a2 → Q (some (ev_i a1)) s) ∧ (a2 < (s 1 13) → ((0 ≤ a2 ∧ a2 < (10 : Nat)) ∧ (((s 24 (Int.toNat a2)) ≠ 0 → Ev layX M_X3_lastSecond (d + 1) 4 [(0, ev_r 146), (1, ev_i a1), (2, ev_i (ev_add a2 1))] [] s Q) ∧ ((s 24 (Int.toNat a2)) = 0 → ((0 ≤ (ev_add (ev_mul a2 7) 3) ∧ (ev_add (ev_mul a2 7) 3) < (70 : Nat)) ∧ Ev layX M_X3_lastSecond (d + 1) 4 [(0, ev_r 146), (1, ev_i (max a1 (s 9 (Int.toNat (ev_add (ev_mul a2 7) 3))))), (2, ev_i (ev_add a2 1))] [] s Q))))))) :
    Ev layX M_X3_lastSecond (d + 1) 4 [(0, ev_r 146), (1, ev_i a1), (2, ev_i a2)] [] s Q := by
  refine Ev_iload_n 2 dX3_lastSecond_4 rfl rfl ?_
  refine Ev_aload_n 0 dX3_lastSecond_5 rfl rfl ?_
  refine Ev_getR (i := 0) cl_X3 yX_146 (Nat.le_of_ble_eq_true rfl) rfl wd_570 dX3_lastSecond_6 ?_
  refine Ev_get (i := 13) cl_X10 yX_1 (Nat.le_of_ble_eq_true rfl) rfl wd_287 dX3_lastSecond_9 ?_
  refine Ev_icmp_ge (tgt := 52) dX3_lastSecond_12 rfl (fun c => ?_) (fun c => ?_)
  · replace h := h.1 c
    refine Ev_iload_n 1 dX3_lastSecond_52 rfl rfl ?_
    exact Ev_iret rfl dX3_lastSecond_53 rfl h
  · replace h := h.2 c
    refine Ev_aload_n 0 dX3_lastSecond_15 rfl rfl ?_
    refine Ev_getR (i := 1) cl_X3 yX_146 (Nat.le_of_ble_eq_true rfl) rfl wd_571 dX3_lastSecond_16 ?_
    refine Ev_getR (i := 10) cl_X2 yX_15 (Nat.le_of_ble_eq_true rfl) rfl wd_373 dX3_lastSecond_19 ?_
    refine Ev_iload_n 2 dX3_lastSecond_22 rfl rfl ?_
    obtain ⟨h0, h⟩ := h
    refine Ev_iald yX_24 h0 dX3_lastSecond_23 ?_
    refine Ev_if_ne (tgt := 46) dX3_lastSecond_24 rfl (fun c => ?_) (fun c => ?_)
    · replace h := h.1 c
      refine Ev_iinc (j := 2) (l' := [(2, ev_i (ev_add a2 1)), (0, ev_r 146), (1, ev_i a1)]) dX3_lastSecond_46 rfl (Nat.le_of_ble_eq_true rfl) rfl ?_
      refine Ev_goto (tgt := 4) dX3_lastSecond_49 rfl ?_
      exact Ev_sub [1, 2, 0] rfl h
    · replace h := h.2 c
      refine Ev_iload_n 1 dX3_lastSecond_27 rfl rfl ?_
      refine Ev_aload_n 0 dX3_lastSecond_28 rfl rfl ?_
      refine Ev_getR (i := 0) cl_X3 yX_146 (Nat.le_of_ble_eq_true rfl) rfl wd_570 dX3_lastSecond_29 ?_
      refine Ev_getR (i := 14) cl_X10 yX_1 (Nat.le_of_ble_eq_true rfl) rfl wd_291 dX3_lastSecond_32 ?_
      refine Ev_iload_n 2 dX3_lastSecond_35 rfl rfl ?_
      refine Ev_bipushC dX3_lastSecond_36 rfl ?_
      refine Ev_imul dX3_lastSecond_38 ?_
      refine Ev_iconst dX3_lastSecond_39 rfl (ev_Rc rfl) ?_
      refine Ev_iadd dX3_lastSecond_40 ?_
      obtain ⟨h0, h⟩ := h
      refine Ev_iald yX_9 h0 dX3_lastSecond_41 ?_
      refine Ev_mmax wd_1170 dX3_lastSecond_42 (Nat.le_of_ble_eq_true rfl) ?_
      refine Ev_istore_n (l' := [(1, ev_i (max a1 (s 9 (Int.toNat (ev_add (ev_mul a2 7) 3))))), (0, ev_r 146), (2, ev_i a2)]) dX3_lastSecond_45 rfl (Nat.le_of_ble_eq_true rfl) rfl ?_
      refine Ev_iinc (j := 2) (l' := [(2, ev_i (ev_add a2 1)), (1, ev_i (max a1 (s 9 (Int.toNat (ev_add (ev_mul a2 7) 3))))), (0, ev_r 146)]) dX3_lastSecond_46 rfl (Nat.le_of_ble_eq_true rfl) rfl ?_
      refine Ev_goto (tgt := 4) dX3_lastSecond_49 rfl ?_
      exact Ev_sub [2, 1, 0] rfl h
theorem dX3_plan_0 : decode cX3_plan 0 = .ok (.aload_n 0, 1) := by decide +kernel
theorem dX3_plan_1 : decode cX3_plan 1 = .ok (.getfield 12, 3) := by decide +kernel
theorem dX3_plan_4 : decode cX3_plan 4 = .ok (.aload_n 0, 1) := by decide +kernel
theorem dX3_plan_5 : decode cX3_plan 5 = .ok (.getfield 32, 3) := by decide +kernel
theorem dX3_plan_8 : decode cX3_plan 8 = .ok (.invokevirtual 52, 3) := by decide +kernel
theorem dX3_plan_11 : decode cX3_plan 11 = .ok (.aload_n 0, 1) := by decide +kernel
theorem dX3_plan_12 : decode cX3_plan 12 = .ok (.invokevirtual 56, 3) := by decide +kernel
theorem dX3_plan_15 : decode cX3_plan 15 = .ok (.istore_n 1, 1) := by decide +kernel
theorem dX3_plan_16 : decode cX3_plan 16 = .ok (.aload_n 0, 1) := by decide +kernel
theorem dX3_plan_17 : decode cX3_plan 17 = .ok (.getfield 32, 3) := by decide +kernel
theorem dX3_plan_20 : decode cX3_plan 20 = .ok (.getfield 60, 3) := by decide +kernel
theorem dX3_plan_23 : decode cX3_plan 23 = .ok (.istore_n 2, 1) := by decide +kernel
theorem dX3_plan_24 : decode cX3_plan 24 = .ok (.iload_n 2, 1) := by decide +kernel
theorem dX3_plan_25 : decode cX3_plan 25 = .ok (.iload_n 1, 1) := by decide +kernel
theorem dX3_plan_26 : decode cX3_plan 26 = .ok (.if_icmp .gt 22, 3) := by decide +kernel
theorem dX3_plan_29 : decode cX3_plan 29 = .ok (.aload_n 0, 1) := by decide +kernel
theorem dX3_plan_30 : decode cX3_plan 30 = .ok (.getfield 35, 3) := by decide +kernel
theorem dX3_plan_33 : decode cX3_plan 33 = .ok (.aload_n 0, 1) := by decide +kernel
theorem dX3_plan_34 : decode cX3_plan 34 = .ok (.getfield 12, 3) := by decide +kernel
theorem dX3_plan_37 : decode cX3_plan 37 = .ok (.iconst 1, 1) := by decide +kernel
theorem dX3_plan_38 : decode cX3_plan 38 = .ok (.invokevirtual 90, 3) := by decide +kernel
theorem dX3_plan_41 : decode cX3_plan 41 = .ok (.pop, 1) := by decide +kernel
theorem dX3_plan_42 : decode cX3_plan 42 = .ok (.iinc 2 1, 3) := by decide +kernel
theorem dX3_plan_45 : decode cX3_plan 45 = .ok (.goto (-21), 3) := by decide +kernel
theorem dX3_plan_48 : decode cX3_plan 48 = .ok (.aload_n 0, 1) := by decide +kernel
theorem dX3_plan_49 : decode cX3_plan 49 = .ok (.iconst 0, 1) := by decide +kernel
theorem dX3_plan_50 : decode cX3_plan 50 = .ok (.putfield 94, 3) := by decide +kernel
theorem dX3_plan_53 : decode cX3_plan 53 = .ok (.aload_n 0, 1) := by decide +kernel
theorem dX3_plan_54 : decode cX3_plan 54 = .ok (.iconst 0, 1) := by decide +kernel
theorem dX3_plan_55 : decode cX3_plan 55 = .ok (.putfield 97, 3) := by decide +kernel
theorem dX3_plan_58 : decode cX3_plan 58 = .ok (.iconst 0, 1) := by decide +kernel
theorem dX3_plan_59 : decode cX3_plan 59 = .ok (.istore_n 2, 1) := by decide +kernel
theorem dX3_plan_60 : decode cX3_plan 60 = .ok (.iload_n 2, 1) := by decide +kernel
theorem dX3_plan_61 : decode cX3_plan 61 = .ok (.aload_n 0, 1) := by decide +kernel
theorem dX3_plan_62 : decode cX3_plan 62 = .ok (.getfield 28, 3) := by decide +kernel
theorem dX3_plan_65 : decode cX3_plan 65 = .ok (.getfield 69, 3) := by decide +kernel
theorem dX3_plan_68 : decode cX3_plan 68 = .ok (.if_icmp .ge 89, 3) := by decide +kernel
theorem dX3_plan_71 : decode cX3_plan 71 = .ok (.aload_n 0, 1) := by decide +kernel
theorem dX3_plan_72 : decode cX3_plan 72 = .ok (.getfield 32, 3) := by decide +kernel
theorem dX3_plan_75 : decode cX3_plan 75 = .ok (.getfield 74, 3) := by decide +kernel
theorem dX3_plan_78 : decode cX3_plan 78 = .ok (.iload_n 2, 1) := by decide +kernel
theorem dX3_plan_79 : decode cX3_plan 79 = .ok (.iaload, 1) := by decide +kernel
theorem dX3_plan_80 : decode cX3_plan 80 = .ok (.ifCond .ne 36, 3) := by decide +kernel
theorem dX3_plan_83 : decode cX3_plan 83 = .ok (.aload_n 0, 1) := by decide +kernel
theorem dX3_plan_84 : decode cX3_plan 84 = .ok (.getfield 12, 3) := by decide +kernel
theorem dX3_plan_87 : decode cX3_plan 87 = .ok (.getfield 74, 3) := by decide +kernel
theorem dX3_plan_90 : decode cX3_plan 90 = .ok (.iload_n 2, 1) := by decide +kernel
theorem dX3_plan_91 : decode cX3_plan 91 = .ok (.iaload, 1) := by decide +kernel
theorem dX3_plan_92 : decode cX3_plan 92 = .ok (.iconst 2, 1) := by decide +kernel
theorem dX3_plan_93 : decode cX3_plan 93 = .ok (.if_icmp .ne 23, 3) := by decide +kernel
theorem dX3_plan_96 : decode cX3_plan 96 = .ok (.aload_n 0, 1) := by decide +kernel
theorem dX3_plan_97 : decode cX3_plan 97 = .ok (.dup, 1) := by decide +kernel
theorem dX3_plan_98 : decode cX3_plan 98 = .ok (.getfield 94, 3) := by decide +kernel
theorem dX3_plan_101 : decode cX3_plan 101 = .ok (.aload_n 0, 1) := by decide +kernel
theorem dX3_plan_102 : decode cX3_plan 102 = .ok (.getfield 28, 3) := by decide +kernel
theorem dX3_plan_105 : decode cX3_plan 105 = .ok (.iload_n 2, 1) := by decide +kernel
theorem dX3_plan_106 : decode cX3_plan 106 = .ok (.invokevirtual 100, 3) := by decide +kernel
theorem dX3_plan_109 : decode cX3_plan 109 = .ok (.iadd, 1) := by decide +kernel
theorem dX3_plan_110 : decode cX3_plan 110 = .ok (.putfield 94, 3) := by decide +kernel
theorem dX3_plan_113 : decode cX3_plan 113 = .ok (.goto 38, 3) := by decide +kernel
theorem dX3_plan_116 : decode cX3_plan 116 = .ok (.aload_n 0, 1) := by decide +kernel
theorem dX3_plan_117 : decode cX3_plan 117 = .ok (.getfield 32, 3) := by decide +kernel
theorem dX3_plan_120 : decode cX3_plan 120 = .ok (.getfield 74, 3) := by decide +kernel
theorem dX3_plan_123 : decode cX3_plan 123 = .ok (.iload_n 2, 1) := by decide +kernel
theorem dX3_plan_124 : decode cX3_plan 124 = .ok (.iaload, 1) := by decide +kernel
theorem dX3_plan_125 : decode cX3_plan 125 = .ok (.ifCond .ne 26, 3) := by decide +kernel
theorem dX3_plan_128 : decode cX3_plan 128 = .ok (.aload_n 0, 1) := by decide +kernel
theorem dX3_plan_129 : decode cX3_plan 129 = .ok (.getfield 12, 3) := by decide +kernel
theorem dX3_plan_132 : decode cX3_plan 132 = .ok (.getfield 74, 3) := by decide +kernel
theorem dX3_plan_135 : decode cX3_plan 135 = .ok (.iload_n 2, 1) := by decide +kernel
theorem dX3_plan_136 : decode cX3_plan 136 = .ok (.iaload, 1) := by decide +kernel
theorem dX3_plan_137 : decode cX3_plan 137 = .ok (.iconst 1, 1) := by decide +kernel
theorem dX3_plan_138 : decode cX3_plan 138 = .ok (.if_icmp .ne 13, 3) := by decide +kernel
theorem dX3_plan_141 : decode cX3_plan 141 = .ok (.aload_n 0, 1) := by decide +kernel
theorem dX3_plan_142 : decode cX3_plan 142 = .ok (.dup, 1) := by decide +kernel
theorem dX3_plan_143 : decode cX3_plan 143 = .ok (.getfield 97, 3) := by decide +kernel
theorem dX3_plan_146 : decode cX3_plan 146 = .ok (.iconst 1, 1) := by decide +kernel
theorem dX3_plan_147 : decode cX3_plan 147 = .ok (.iadd, 1) := by decide +kernel
theorem dX3_plan_148 : decode cX3_plan 148 = .ok (.putfield 97, 3) := by decide +kernel
theorem dX3_plan_151 : decode cX3_plan 151 = .ok (.iinc 2 1, 3) := by decide +kernel
theorem dX3_plan_154 : decode cX3_plan 154 = .ok (.goto (-94), 3) := by decide +kernel
theorem dX3_plan_157 : decode cX3_plan 157 = .ok (.return_, 1) := by decide +kernel
theorem wp_X3_plan_0 {d : Nat} {s : ev_S} {Q : Option ev_V → ev_S → Prop}
    (h : (Ev layX M_X2_copyFrom d 0 [(0, ev_r 147), (1, ev_r 15)] [] s (fun _ s1 => (Ev layX M_X3_lastSecond d 0 [(0, ev_r 146)] [] s1 (ev_pi (fun r3 s2 => Ev layX M_X3_plan (d + 1) 24 [(0, ev_r 146), (1, ev_i r3), (2, ev_i (s2 15 0))] [] s2 Q)))))) :
    Ev layX M_X3_plan (d + 1) 0 [(0, ev_r 146)] [] s Q := by
  refine Ev_aload_n 0 dX3_plan_0 rfl rfl ?_
  refine Ev_getR (i := 3) cl_X3 yX_146 (Nat.le_of_ble_eq_true rfl) rfl wd_573 dX3_plan_1 ?_
  refine Ev_aload_n 0 dX3_plan_4 rfl rfl ?_
  refine Ev_getR (i := 1) cl_X3 yX_146 (Nat.le_of_ble_eq_true rfl) rfl wd_571 dX3_plan_5 ?_
  refine Ev_callV (As := [ev_r 15]) (b := 147) (st := []) (M' := M_X2_copyFrom) cm_X2_copyFrom wd_1165 wd_1059 wd_1060 yX_147 cl_X2 rfl dX3_plan_8 (Nat.le_refl _) rfl (Nat.le_of_ble_eq_true rfl) (Nat.le_of_ble_eq_true rfl) h (fun v u h hk => ?_)
  cases hk
  obtain ⟨s1, rfl⟩ : ∃ x, x = u := ⟨_, rfl⟩
  refine Ev_aload_n 0 dX3_plan_11 rfl rfl ?_
  refine Ev_callV (As := []) (b := 146) (st := []) (M' := M_X3_lastSecond) cm_X3_lastSecond wd_1166 wd_1168 wd_40 yX_146 cl_X3 rfl dX3_plan_12 (Nat.le_refl _) rfl (Nat.le_of_ble_eq_true rfl) (Nat.le_of_ble_eq_true rfl) h (fun v u h hk => ?_)
  obtain ⟨r3, rfl⟩ := hk
  obtain ⟨s2, rfl⟩ : ∃ x, x = u := ⟨_, rfl⟩
  replace h := h r3 rfl
  refine Ev_istore_n (l' := [(1, ev_i r3), (0, ev_r 146)]) dX3_plan_15 rfl (Nat.le_of_ble_eq_true rfl) rfl ?_
  refine Ev_aload_n 1 dX3_plan_16 rfl rfl ?_
  refine Ev_getR (i := 1) cl_X3 yX_146 (Nat.le_of_ble_eq_true rfl) rfl wd_571 dX3_plan_17 ?_
  refine Ev_get (i := 0) cl_X2 yX_15 (Nat.le_of_ble_eq_true rfl) rfl wd_339 dX3_plan_20 ?_
  refine Ev_istore_n (l' := [(2, ev_i (s2 15 0)), (1, ev_i r3), (0, ev_r 146)]) dX3_plan_23 rfl (Nat.le_of_ble_eq_true rfl) rfl ?_
  exact Ev_sub [2, 1, 0] rfl h
theorem wp_X3_plan_24 {d : Nat} {s : ev_S} {Q : Option ev_V → ev_S → Prop} {a1 a2 : Int}
    (h : ((a1 < a2 → (∀ s1, ev_up s 146 8 0 = s1 → (∀ s2, ev_up s1 146 9 0 = s2 → Ev layX M_X3_plan (d + 1) 60 [(0, ev_r 146), (2, ev_i 0)] [] s2 Q))) ∧ (a2 ≤ a1 → (Ev layX M_X7_goBy d 0 [(0, ev_r 144), (1, ev_r 147), (2, ev_i 1)] [] s (ev_pi (fun r4 s3 => Ev layX M_X3_plan (d + 1) 24 [(0, ev_r 146), (1, ev_i a1), (2, ev_i (ev_add a2 1))] [] s3 Q)))))) :
    Ev layX M_X3_plan (d + 1) 24 [(0, ev_r 146), (1, ev_i a1), (2, ev_i a2)] [] s Q := by
  refine Ev_iload_n 2 dX3_plan_24 rfl rfl ?_
  refine Ev_iload_n 1 dX3_plan_25 rfl rfl ?_
  refine Ev_icmp_gt (tgt := 48) dX3_plan_26 rfl (fun c => ?_) (fun c => ?_)
  · replace h := h.1 c
    refine Ev_aload_n 0 dX3_plan_48 rfl rfl ?_
    refine Ev_iconst dX3_plan_49 rfl (ev_Rc rfl) ?_
    refine Ev_put (i := 8) (ty := .int) cl_X3 yX_146 (Nat.le_of_ble_eq_true rfl) rfl rfl (by decide +kernel) rfl rfl wd_579 dX3_plan_50 (Ev_nm (fun s1 es1 => ?_))
    replace h := h s1 es1
    refine Ev_aload_n 0 dX3_plan_53 rfl rfl ?_
    refine Ev_iconst dX3_plan_54 rfl (ev_Rc rfl) ?_
    refine Ev_put (i := 9) (ty := .int) cl_X3 yX_146 (Nat.le_of_ble_eq_true rfl) rfl rfl (by decide +kernel) rfl rfl wd_581 dX3_plan_55 (Ev_nm (fun s2 es2 => ?_))
    replace h := h s2 es2
    refine Ev_iconst dX3_plan_58 rfl (ev_Rc rfl) ?_
    refine Ev_istore_n (l' := [(2, ev_i 0), (0, ev_r 146), (1, ev_i a1)]) dX3_plan_59 rfl (Nat.le_of_ble_eq_true rfl) rfl ?_
    exact Ev_sub [1, 0] rfl h
  · replace h := h.2 c
    refine Ev_aload_n 0 dX3_plan_29 rfl rfl ?_
    refine Ev_getR (i := 2) cl_X3 yX_146 (Nat.le_of_ble_eq_true rfl) rfl wd_572 dX3_plan_30 ?_
    refine Ev_aload_n 0 dX3_plan_33 rfl rfl ?_
    refine Ev_getR (i := 3) cl_X3 yX_146 (Nat.le_of_ble_eq_true rfl) rfl wd_573 dX3_plan_34 ?_
    refine Ev_iconst dX3_plan_37 rfl (ev_Rc rfl) ?_
    refine Ev_callV (As := [ev_r 147, ev_i 1]) (b := 144) (st := []) (M' := M_X7_goBy) cm_X7_goBy wd_1297 wd_1065 wd_1066 yX_144 cl_X7 rfl dX3_plan_38 (Nat.le_refl _) rfl (Nat.le_of_ble_eq_true rfl) (Nat.le_of_ble_eq_true rfl) h (fun v u h hk => ?_)
    obtain ⟨r4, rfl⟩ := hk
    obtain ⟨s3, rfl⟩ : ∃ x, x = u := ⟨_, rfl⟩
    replace h := h r4 rfl
    refine Ev_pop dX3_plan_41 rfl ?_
    refine Ev_iinc (j := 2) (l' := [(2, ev_i (ev_add a2 1)), (0, ev_r 146), (1, ev_i a1)]) dX3_plan_42 rfl (Nat.le_of_ble_eq_true rfl) rfl ?_
    refine Ev_goto (tgt := 24) dX3_plan_45 rfl ?_
    exact Ev_sub [1, 2, 0] rfl h
theorem wp_X3_plan_60 {d : Nat} {s : ev_S} {Q : Option ev_V → ev_S → Prop} {a2 : Int}
    (h : (((s 1 13) ≤ a2 → Q none s) ∧ (a2 < (s 1 13) → ((0 ≤ a2 ∧ a2 < (10 : Nat)) ∧ (((s 24 (Int.toNat a2)) ≠ 0 → Ev layX M_X3_plan (d + 1) 116 [(0, ev_r 146), (2, ev_i a2)] [] s Q) ∧ ((s 24 (Int.toNat a2)) = 0 → ((0 ≤ a2 ∧ a2 < (10 : Nat)) ∧ (((s 156 (Int.toNat a2)) ≠ 2 → Ev layX M_X3_plan (d + 1) 116 [(0, ev_r 146), (2, ev_i a2)] [] s Q) ∧ ((s 156 (Int.toNat a2)) = 2 → (Ev layX M_X10_risk d 0 [(0, ev_r 1), (1, ev_i a2)] [] s (ev_pi (fun r2 s1 => (∀ s3, ev_up s1 146 8 (ev_add (s 146 8) r2) = s3 → Ev layX M_X3_plan (d + 1) 60 [(0, ev_r 146), (2, ev_i (ev_add a2 1))] [] s3 Q))))))))))))) :
    Ev layX M_X3_plan (d + 1) 60 [(0, ev_r 146), (2, ev_i a2)] [] s Q := by
  refine Ev_iload_n 1 dX3_plan_60 rfl rfl ?_
  refine Ev_aload_n 0 dX3_plan_61 rfl rfl ?_
  refine Ev_getR (i := 0) cl_X3 yX_146 (Nat.le_of_ble_eq_true rfl) rfl wd_570 dX3_plan_62 ?_
  refine Ev_get (i := 13) cl_X10 yX_1 (Nat.le_of_ble_eq_true rfl) rfl wd_287 dX3_plan_65 ?_
  refine Ev_icmp_ge (tgt := 157) dX3_plan_68 rfl (fun c => ?_) (fun c => ?_)
  · replace h := h.1 c
    exact Ev_vret rfl dX3_plan_157 h
  · replace h := h.2 c
    refine Ev_aload_n 0 dX3_plan_71 rfl rfl ?_
    refine Ev_getR (i := 1) cl_X3 yX_146 (Nat.le_of_ble_eq_true rfl) rfl wd_571 dX3_plan_72 ?_
    refine Ev_getR (i := 10) cl_X2 yX_15 (Nat.le_of_ble_eq_true rfl) rfl wd_373 dX3_plan_75 ?_
    refine Ev_iload_n 1 dX3_plan_78 rfl rfl ?_
    obtain ⟨h0, h⟩ := h
    refine Ev_iald yX_24 h0 dX3_plan_79 ?_
    refine Ev_if_ne (tgt := 116) dX3_plan_80 rfl (fun c => ?_) (fun c => ?_)
    · replace h := h.1 c
      exact Ev_sub [0, 1] rfl h
    · replace h := h.2 c
      refine Ev_aload_n 0 dX3_plan_83 rfl rfl ?_
      refine Ev_getR (i := 3) cl_X3 yX_146 (Nat.le_of_ble_eq_true rfl) rfl wd_573 dX3_plan_84 ?_
      refine Ev_getR (i := 10) cl_X2 yX_147 (Nat.le_of_ble_eq_true rfl) rfl wd_373 dX3_plan_87 ?_
      refine Ev_iload_n 1 dX3_plan_90 rfl rfl ?_
      obtain ⟨h0, h⟩ := h
      refine Ev_iald yX_156 h0 dX3_plan_91 ?_
      refine Ev_iconst dX3_plan_92 rfl (ev_Rc rfl) ?_
      refine Ev_icmp_ne (tgt := 116) dX3_plan_93 rfl (fun c => ?_) (fun c => ?_)
      · replace h := h.1 c
        exact Ev_sub [0, 1] rfl h
      · replace h := h.2 c
        refine Ev_aload_n 0 dX3_plan_96 rfl rfl ?_
        refine Ev_dup dX3_plan_97 rfl ?_
        refine Ev_get (i := 8) cl_X3 yX_146 (Nat.le_of_ble_eq_true rfl) rfl wd_579 dX3_plan_98 ?_
        refine Ev_aload_n 0 dX3_plan_101 rfl rfl ?_
        refine Ev_getR (i := 0) cl_X3 yX_146 (Nat.le_of_ble_eq_true rfl) rfl wd_570 dX3_plan_102 ?_
        refine Ev_iload_n 1 dX3_plan_105 rfl rfl ?_
        refine Ev_callV (As := [ev_i a2]) (b := 1) (st := [ev_i (s 146 8), ev_r 146]) (M' := M_X10_risk) cm_X10_risk wd_1267 wd_1187 wd_1188 yX_1 cl_X10 rfl dX3_plan_106 (Nat.le_refl _) rfl (Nat.le_of_ble_eq_true rfl) (Nat.le_of_ble_eq_true rfl) h (fun v u h hk => ?_)
        obtain ⟨r2, rfl⟩ := hk
        obtain ⟨s1, rfl⟩ : ∃ x, x = u := ⟨_, rfl⟩
        replace h := h r2 rfl
        refine Ev_iadd dX3_plan_109 ?_
        refine Ev_put (i := 8) (ty := .int) cl_X3 yX_146 (Nat.le_of_ble_eq_true rfl) rfl rfl (by decide +kernel) rfl rfl wd_579 dX3_plan_110 (Ev_nm (fun s3 es3 => ?_))
        replace h := h s3 es3
        refine Ev_goto (tgt := 151) dX3_plan_113 rfl ?_
        refine Ev_iinc (j := 1) (l' := [(2, ev_i (ev_add a2 1)), (0, ev_r 146)]) dX3_plan_151 rfl (Nat.le_of_ble_eq_true rfl) rfl ?_
        refine Ev_goto (tgt := 60) dX3_plan_154 rfl ?_
        exact Ev_sub [1, 0] rfl h
theorem wp_X3_plan_116 {d : Nat} {s : ev_S} {Q : Option ev_V → ev_S → Prop} {a2 : Int}
    (h : ((0 ≤ a2 ∧ a2 < (10 : Nat)) ∧ (((s 24 (Int.toNat a2)) ≠ 0 → Ev layX M_X3_plan (d + 1) 60 [(0, ev_r 146), (2, ev_i (ev_add a2 1))] [] s Q) ∧ ((s 24 (Int.toNat a2)) = 0 → ((0 ≤ a2 ∧ a2 < (10 : Nat)) ∧ (((s 156 (Int.toNat a2)) ≠ 1 → Ev layX M_X3_plan (d + 1) 60 [(0, ev_r 146), (2, ev_i (ev_add a2 1))] [] s Q) ∧ ((s 156 (Int.toNat a2)) = 1 → (∀ s1, ev_up s 146 9 (ev_add (s 146 9) 1) = s1 → Ev layX M_X3_plan (d + 1) 60 [(0, ev_r 146), (2, ev_i (ev_add a2 1))] [] s1 Q)))))))) :
    Ev layX M_X3_plan (d + 1) 116 [(0, ev_r 146), (2, ev_i a2)] [] s Q := by
  refine Ev_aload_n 0 dX3_plan_116 rfl rfl ?_
  refine Ev_getR (i := 1) cl_X3 yX_146 (Nat.le_of_ble_eq_true rfl) rfl wd_571 dX3_plan_117 ?_
  refine Ev_getR (i := 10) cl_X2 yX_15 (Nat.le_of_ble_eq_true rfl) rfl wd_373 dX3_plan_120 ?_
  refine Ev_iload_n 1 dX3_plan_123 rfl rfl ?_
  obtain ⟨h0, h⟩ := h
  refine Ev_iald yX_24 h0 dX3_plan_124 ?_
  refine Ev_if_ne (tgt := 151) dX3_plan_125 rfl (fun c => ?_) (fun c => ?_)
  · replace h := h.1 c
    refine Ev_iinc (j := 1) (l' := [(2, ev_i (ev_add a2 1)), (0, ev_r 146)]) dX3_plan_151 rfl (Nat.le_of_ble_eq_true rfl) rfl ?_
    refine Ev_goto (tgt := 60) dX3_plan_154 rfl ?_
    exact Ev_sub [1, 0] rfl h
  · replace h := h.2 c
    refine Ev_aload_n 0 dX3_plan_128 rfl rfl ?_
    refine Ev_getR (i := 3) cl_X3 yX_146 (Nat.le_of_ble_eq_true rfl) rfl wd_573 dX3_plan_129 ?_
    refine Ev_getR (i := 10) cl_X2 yX_147 (Nat.le_of_ble_eq_true rfl) rfl wd_373 dX3_plan_132 ?_
    refine Ev_iload_n 1 dX3_plan_135 rfl rfl ?_
    obtain ⟨h0, h⟩ := h
    refine Ev_iald yX_156 h0 dX3_plan_136 ?_
    refine Ev_iconst dX3_plan_137 rfl (ev_Rc rfl) ?_
    refine Ev_icmp_ne (tgt := 151) dX3_plan_138 rfl (fun c => ?_) (fun c => ?_)
    · replace h := h.1 c
      refine Ev_iinc (j := 1) (l' := [(2, ev_i (ev_add a2 1)), (0, ev_r 146)]) dX3_plan_151 rfl (Nat.le_of_ble_eq_true rfl) rfl ?_
      refine Ev_goto (tgt := 60) dX3_plan_154 rfl ?_
      exact Ev_sub [1, 0] rfl h
    · replace h := h.2 c
      refine Ev_aload_n 0 dX3_plan_141 rfl rfl ?_
      refine Ev_dup dX3_plan_142 rfl ?_
      refine Ev_get (i := 9) cl_X3 yX_146 (Nat.le_of_ble_eq_true rfl) rfl wd_581 dX3_plan_143 ?_
      refine Ev_iconst dX3_plan_146 rfl (ev_Rc rfl) ?_
      refine Ev_iadd dX3_plan_147 ?_
      refine Ev_put (i := 9) (ty := .int) cl_X3 yX_146 (Nat.le_of_ble_eq_true rfl) rfl rfl (by decide +kernel) rfl rfl wd_581 dX3_plan_148 (Ev_nm (fun s1 es1 => ?_))
      replace h := h s1 es1
      refine Ev_iinc (j := 1) (l' := [(2, ev_i (ev_add a2 1)), (0, ev_r 146)]) dX3_plan_151 rfl (Nat.le_of_ble_eq_true rfl) rfl ?_
      refine Ev_goto (tgt := 60) dX3_plan_154 rfl ?_
      exact Ev_sub [1, 0] rfl h
theorem dX3_arrival_0 : decode cX3_arrival 0 = .ok (.aload_n 0, 1) := by decide +kernel
theorem dX3_arrival_1 : decode cX3_arrival 1 = .ok (.getfield 32, 3) := by decide +kernel
theorem dX3_arrival_4 : decode cX3_arrival 4 = .ok (.getfield 60, 3) := by decide +kernel
theorem dX3_arrival_7 : decode cX3_arrival 7 = .ok (.aload_n 0, 1) := by decide +kernel
theorem dX3_arrival_8 : decode cX3_arrival 8 = .ok (.getfield 32, 3) := by decide +kernel
theorem dX3_arrival_11 : decode cX3_arrival 11 = .ok (.getfield 104, 3) := by decide +kernel
theorem dX3_arrival_14 : decode cX3_arrival 14 = .ok (.iload_n 1, 1) := by decide +kernel
theorem dX3_arrival_15 : decode cX3_arrival 15 = .ok (.iaload, 1) := by decide +kernel
theorem dX3_arrival_16 : decode cX3_arrival 16 = .ok (.iload_n 2, 1) := by decide +kernel
theorem dX3_arrival_17 : decode cX3_arrival 17 = .ok (.invokestatic 107, 3) := by decide +kernel
theorem dX3_arrival_20 : decode cX3_arrival 20 = .ok (.aload_n 0, 1) := by decide +kernel
theorem dX3_arrival_21 : decode cX3_arrival 21 = .ok (.getfield 28, 3) := by decide +kernel
theorem dX3_arrival_24 : decode cX3_arrival 24 = .ok (.getfield 110, 3) := by decide +kernel
theorem dX3_arrival_27 : decode cX3_arrival 27 = .ok (.iload_n 1, 1) := by decide +kernel
theorem dX3_arrival_28 : decode cX3_arrival 28 = .ok (.iaload, 1) := by decide +kernel
theorem dX3_arrival_29 : decode cX3_arrival 29 = .ok (.imul, 1) := by decide +kernel
theorem dX3_arrival_30 : decode cX3_arrival 30 = .ok (.iadd, 1) := by decide +kernel
theorem dX3_arrival_31 : decode cX3_arrival 31 = .ok (.ireturn, 1) := by decide +kernel
theorem wp_X3_arrival_0 {d : Nat} {s : ev_S} {Q : Option ev_V → ev_S → Prop} {a1 a2 : Int}
    (h : ((0 ≤ a1 ∧ a1 < (6 : Nat)) ∧ (Ev layX M_X11_stepsBetween d 0 [(0, ev_i (s 19 (Int.toNat a1))), (1, ev_i a2)] [] s (ev_pi (fun r2 s1 => ((0 ≤ a1 ∧ a1 < (6 : Nat)) ∧ Q (some (ev_i (ev_add (s 15 0) (ev_mul r2 (s1 5 (Int.toNat a1)))))) s1)))))) :
    Ev layX M_X3_arrival (d + 1) 0 [(0, ev_r 146), (1, ev_i a1), (2, ev_i a2)] [] s Q := by
  refine Ev_aload_n 0 dX3_arrival_0 rfl rfl ?_
  refine Ev_getR (i := 1) cl_X3 yX_146 (Nat.le_of_ble_eq_true rfl) rfl wd_571 dX3_arrival_1 ?_
  refine Ev_get (i := 0) cl_X2 yX_15 (Nat.le_of_ble_eq_true rfl) rfl wd_339 dX3_arrival_4 ?_
  refine Ev_aload_n 0 dX3_arrival_7 rfl rfl ?_
  refine Ev_getR (i := 1) cl_X3 yX_146 (Nat.le_of_ble_eq_true rfl) rfl wd_571 dX3_arrival_8 ?_
  refine Ev_getR (i := 5) cl_X2 yX_15 (Nat.le_of_ble_eq_true rfl) rfl wd_356 dX3_arrival_11 ?_
  refine Ev_iload_n 1 dX3_arrival_14 rfl rfl ?_
  obtain ⟨h0, h⟩ := h
  refine Ev_iald yX_19 h0 dX3_arrival_15 ?_
  refine Ev_iload_n 2 dX3_arrival_16 rfl rfl ?_
  refine Ev_callSN (As := [ev_i (s 19 (Int.toNat a1)), ev_i a2]) (st := [ev_i (s 15 0)]) (M' := M_X11_stepsBetween) cm_X11_stepsBetween wd_1266 wd_1106 dX3_arrival_17 (Nat.le_refl _) rfl (Nat.le_of_ble_eq_true rfl) (Nat.le_of_ble_eq_true rfl) h (fun v u h hk => ?_)
  obtain ⟨r2, rfl⟩ := hk
  obtain ⟨s1, rfl⟩ : ∃ x, x = u := ⟨_, rfl⟩
  replace h := h r2 rfl
  refine Ev_aload_n 0 dX3_arrival_20 rfl rfl ?_
  refine Ev_getR (i := 0) cl_X3 yX_146 (Nat.le_of_ble_eq_true rfl) rfl wd_570 dX3_arrival_21 ?_
  refine Ev_getR (i := 8) cl_X10 yX_1 (Nat.le_of_ble_eq_true rfl) rfl wd_271 dX3_arrival_24 ?_
  refine Ev_iload_n 1 dX3_arrival_27 rfl rfl ?_
  obtain ⟨h0, h⟩ := h
  refine Ev_iald yX_5 h0 dX3_arrival_28 ?_
  refine Ev_imul dX3_arrival_29 ?_
  refine Ev_iadd dX3_arrival_30 ?_
  exact Ev_iret rfl dX3_arrival_31 rfl h
theorem dX3_couldAlone_0 : decode cX3_couldAlone 0 = .ok (.aload_n 0, 1) := by decide +kernel
theorem dX3_couldAlone_1 : decode cX3_couldAlone 1 = .ok (.getfield 18, 3) := by decide +kernel
theorem dX3_couldAlone_4 : decode cX3_couldAlone 4 = .ok (.iload_n 2, 1) := by decide +kernel
theorem dX3_couldAlone_5 : decode cX3_couldAlone 5 = .ok (.iaload, 1) := by decide +kernel
theorem dX3_couldAlone_6 : decode cX3_couldAlone 6 = .ok (.iconst (-1), 1) := by decide +kernel
theorem dX3_couldAlone_7 : decode cX3_couldAlone 7 = .ok (.if_icmp .eq 35, 3) := by decide +kernel
theorem dX3_couldAlone_10 : decode cX3_couldAlone 10 = .ok (.aload_n 0, 1) := by decide +kernel
theorem dX3_couldAlone_11 : decode cX3_couldAlone 11 = .ok (.iload_n 1, 1) := by decide +kernel
theorem dX3_couldAlone_12 : decode cX3_couldAlone 12 = .ok (.aload_n 0, 1) := by decide +kernel
theorem dX3_couldAlone_13 : decode cX3_couldAlone 13 = .ok (.getfield 28, 3) := by decide +kernel
theorem dX3_couldAlone_16 : decode cX3_couldAlone 16 = .ok (.getfield 81, 3) := by decide +kernel
theorem dX3_couldAlone_19 : decode cX3_couldAlone 19 = .ok (.iload_n 2, 1) := by decide +kernel
theorem dX3_couldAlone_20 : decode cX3_couldAlone 20 = .ok (.bipush 7, 2) := by decide +kernel
theorem dX3_couldAlone_22 : decode cX3_couldAlone 22 = .ok (.imul, 1) := by decide +kernel
theorem dX3_couldAlone_23 : decode cX3_couldAlone 23 = .ok (.iconst 1, 1) := by decide +kernel
theorem dX3_couldAlone_24 : decode cX3_couldAlone 24 = .ok (.iadd, 1) := by decide +kernel
theorem dX3_couldAlone_25 : decode cX3_couldAlone 25 = .ok (.iaload, 1) := by decide +kernel
theorem dX3_couldAlone_26 : decode cX3_couldAlone 26 = .ok (.invokevirtual 113, 3) := by decide +kernel
theorem dX3_couldAlone_29 : decode cX3_couldAlone 29 = .ok (.aload_n 0, 1) := by decide +kernel
theorem dX3_couldAlone_30 : decode cX3_couldAlone 30 = .ok (.getfield 18, 3) := by decide +kernel
theorem dX3_couldAlone_33 : decode cX3_couldAlone 33 = .ok (.iload_n 2, 1) := by decide +kernel
theorem dX3_couldAlone_34 : decode cX3_couldAlone 34 = .ok (.iaload, 1) := by decide +kernel
theorem dX3_couldAlone_35 : decode cX3_couldAlone 35 = .ok (.if_icmp .gt 7, 3) := by decide +kernel
theorem dX3_couldAlone_38 : decode cX3_couldAlone 38 = .ok (.iconst 1, 1) := by decide +kernel
theorem dX3_couldAlone_39 : decode cX3_couldAlone 39 = .ok (.goto 4, 3) := by decide +kernel
theorem dX3_couldAlone_42 : decode cX3_couldAlone 42 = .ok (.iconst 0, 1) := by decide +kernel
theorem dX3_couldAlone_43 : decode cX3_couldAlone 43 = .ok (.ireturn, 1) := by decide +kernel
theorem wp_X3_couldAlone_0 {d : Nat} {s : ev_S} {Q : Option ev_V → ev_S → Prop} {a1 a2 : Int}
    (h : ((0 ≤ a2 ∧ a2 < (10 : Nat)) ∧ (((s 159 (Int.toNat a2)) = (-1) → Q (some (ev_i 0)) s) ∧ ((s 159 (Int.toNat a2)) ≠ (-1) → ((0 ≤ (ev_add (ev_mul a2 7) 1) ∧ (ev_add (ev_mul a2 7) 1) < (70 : Nat)) ∧ (Ev layX M_X3_arrival d 0 [(0, ev_r 146), (1, ev_i a1), (2, ev_i (s 9 (Int.toNat (ev_add (ev_mul a2 7) 1))))] [] s (ev_pi (fun r2 s1 => ((0 ≤ a2 ∧ a2 < (10 : Nat)) ∧ (((s1 159 (Int.toNat a2)) < r2 → Q (some (ev_i 0)) s1) ∧ (r2 ≤ (s1 159 (Int.toNat a2)) → Q (some (ev_i 1)) s1))))))))))) :
    Ev layX M_X3_couldAlone (d + 1) 0 [(0, ev_r 146), (1, ev_i a1), (2, ev_i a2)] [] s Q := by
  refine Ev_aload_n 0 dX3_couldAlone_0 rfl rfl ?_
  refine Ev_getR (i := 4) cl_X3 yX_146 (Nat.le_of_ble_eq_true rfl) rfl wd_574 dX3_couldAlone_1 ?_
  refine Ev_iload_n 2 dX3_couldAlone_4 rfl rfl ?_
  obtain ⟨h0, h⟩ := h
  refine Ev_iald yX_159 h0 dX3_couldAlone_5 ?_
  refine Ev_iconst dX3_couldAlone_6 rfl (ev_Rc rfl) ?_
  refine Ev_icmp_eq (tgt := 42) dX3_couldAlone_7 rfl (fun c => ?_) (fun c => ?_)
  · replace h := h.1 c
    refine Ev_iconst dX3_couldAlone_42 rfl (ev_Rc rfl) ?_
    exact Ev_iret rfl dX3_couldAlone_43 (ev_nb (by decide)) h
  · replace h := h.2 c
    refine Ev_aload_n 0 dX3_couldAlone_10 rfl rfl ?_
    refine Ev_iload_n 1 dX3_couldAlone_11 rfl rfl ?_
    refine Ev_aload_n 0 dX3_couldAlone_12 rfl rfl ?_
    refine Ev_getR (i := 0) cl_X3 yX_146 (Nat.le_of_ble_eq_true rfl) rfl wd_570 dX3_couldAlone_13 ?_
    refine Ev_getR (i := 14) cl_X10 yX_1 (Nat.le_of_ble_eq_true rfl) rfl wd_291 dX3_couldAlone_16 ?_
    refine Ev_iload_n 2 dX3_couldAlone_19 rfl rfl ?_
    refine Ev_bipushC dX3_couldAlone_20 rfl ?_
    refine Ev_imul dX3_couldAlone_22 ?_
    refine Ev_iconst dX3_couldAlone_23 rfl (ev_Rc rfl) ?_
    refine Ev_iadd dX3_couldAlone_24 ?_
    obtain ⟨h0, h⟩ := h
    refine Ev_iald yX_9 h0 dX3_couldAlone_25 ?_
    refine Ev_callV (As := [ev_i a1, ev_i (s 9 (Int.toNat (ev_add (ev_mul a2 7) 1)))]) (b := 146) (st := []) (M' := M_X3_arrival) cm_X3_arrival wd_1262 wd_1264 wd_58 yX_146 cl_X3 rfl dX3_couldAlone_26 (Nat.le_refl _) rfl (Nat.le_of_ble_eq_true rfl) (Nat.le_of_ble_eq_true rfl) h (fun v u h hk => ?_)
    obtain ⟨r2, rfl⟩ := hk
    obtain ⟨s1, rfl⟩ : ∃ x, x = u := ⟨_, rfl⟩
    replace h := h r2 rfl
    refine Ev_aload_n 0 dX3_couldAlone_29 rfl rfl ?_
    refine Ev_getR (i := 4) cl_X3 yX_146 (Nat.le_of_ble_eq_true rfl) rfl wd_574 dX3_couldAlone_30 ?_
    refine Ev_iload_n 2 dX3_couldAlone_33 rfl rfl ?_
    obtain ⟨h0, h⟩ := h
    refine Ev_iald yX_159 h0 dX3_couldAlone_34 ?_
    refine Ev_icmp_gt (tgt := 42) dX3_couldAlone_35 rfl (fun c => ?_) (fun c => ?_)
    · replace h := h.1 c
      refine Ev_iconst dX3_couldAlone_42 rfl (ev_Rc rfl) ?_
      exact Ev_iret rfl dX3_couldAlone_43 (ev_nb (by decide)) h
    · replace h := h.2 c
      refine Ev_iconst dX3_couldAlone_38 rfl (ev_Rc rfl) ?_
      refine Ev_goto (tgt := 43) dX3_couldAlone_39 rfl ?_
      exact Ev_iret rfl dX3_couldAlone_43 (ev_nb (by decide)) h
theorem dX3_whoCould_0 : decode cX3_whoCould 0 = .ok (.aload_n 0, 1) := by decide +kernel
theorem dX3_whoCould_1 : decode cX3_whoCould 1 = .ok (.invokevirtual 39, 3) := by decide +kernel
theorem dX3_whoCould_4 : decode cX3_whoCould 4 = .ok (.iconst 0, 1) := by decide +kernel
theorem dX3_whoCould_5 : decode cX3_whoCould 5 = .ok (.istore_n 2, 1) := by decide +kernel
theorem dX3_whoCould_6 : decode cX3_whoCould 6 = .ok (.iconst 0, 1) := by decide +kernel
theorem dX3_whoCould_7 : decode cX3_whoCould 7 = .ok (.istore_n 3, 1) := by decide +kernel
theorem dX3_whoCould_8 : decode cX3_whoCould 8 = .ok (.iload_n 3, 1) := by decide +kernel
theorem dX3_whoCould_9 : decode cX3_whoCould 9 = .ok (.aload_n 0, 1) := by decide +kernel
theorem dX3_whoCould_10 : decode cX3_whoCould 10 = .ok (.getfield 28, 3) := by decide +kernel
theorem dX3_whoCould_13 : decode cX3_whoCould 13 = .ok (.getfield 116, 3) := by decide +kernel
theorem dX3_whoCould_16 : decode cX3_whoCould 16 = .ok (.if_icmp .ge 24, 3) := by decide +kernel
theorem dX3_whoCould_19 : decode cX3_whoCould 19 = .ok (.aload_n 0, 1) := by decide +kernel
theorem dX3_whoCould_20 : decode cX3_whoCould 20 = .ok (.iload_n 3, 1) := by decide +kernel
theorem dX3_whoCould_21 : decode cX3_whoCould 21 = .ok (.iload_n 1, 1) := by decide +kernel
theorem dX3_whoCould_22 : decode cX3_whoCould 22 = .ok (.invokevirtual 119, 3) := by decide +kernel
theorem dX3_whoCould_25 : decode cX3_whoCould 25 = .ok (.ifCond .eq 9, 3) := by decide +kernel
theorem dX3_whoCould_28 : decode cX3_whoCould 28 = .ok (.iload_n 2, 1) := by decide +kernel
theorem dX3_whoCould_29 : decode cX3_whoCould 29 = .ok (.iconst 1, 1) := by decide +kernel
theorem dX3_whoCould_30 : decode cX3_whoCould 30 = .ok (.iload_n 3, 1) := by decide +kernel
theorem dX3_whoCould_31 : decode cX3_whoCould 31 = .ok (.ishl, 1) := by decide +kernel
theorem dX3_whoCould_32 : decode cX3_whoCould 32 = .ok (.ior, 1) := by decide +kernel
theorem dX3_whoCould_33 : decode cX3_whoCould 33 = .ok (.istore_n 2, 1) := by decide +kernel
theorem dX3_whoCould_34 : decode cX3_whoCould 34 = .ok (.iinc 3 1, 3) := by decide +kernel
theorem dX3_whoCould_37 : decode cX3_whoCould 37 = .ok (.goto (-29), 3) := by decide +kernel
theorem dX3_whoCould_40 : decode cX3_whoCould 40 = .ok (.iload_n 2, 1) := by decide +kernel
theorem dX3_whoCould_41 : decode cX3_whoCould 41 = .ok (.ireturn, 1) := by decide +kernel
theorem wp_X3_whoCould_0 {d : Nat} {s : ev_S} {Q : Option ev_V → ev_S → Prop} {a1 : Int}
    (h : (Ev layX M_X3_foresee d 0 [(0, ev_r 146)] [] s (fun _ s1 => Ev layX M_X3_whoCould (d + 1) 8 [(0, ev_r 146), (1, ev_i a1), (2, ev_i 0), (3, ev_i 0)] [] s1 Q))) :
    Ev layX M_X3_whoCould (d + 1) 0 [(0, ev_r 146), (1, ev_i a1)] [] s Q := by
  refine Ev_aload_n 0 dX3_whoCould_0 rfl rfl ?_
  refine Ev_callV (As := []) (b := 146) (st := []) (M' := M_X3_foresee) cm_X3_foresee wd_1160 wd_1162 wd_39 yX_146 cl_X3 rfl dX3_whoCould_1 (Nat.le_refl _) rfl (Nat.le_of_ble_eq_true rfl) (Nat.le_of_ble_eq_true rfl) h (fun v u h hk => ?_)
  cases hk
  obtain ⟨s1, rfl⟩ : ∃ x, x = u := ⟨_, rfl⟩
  refine Ev_iconst dX3_whoCould_4 rfl (ev_Rc rfl) ?_
  refine Ev_istore_n (l' := [(2, ev_i 0), (0, ev_r 146), (1, ev_i a1)]) dX3_whoCould_5 rfl (Nat.le_of_ble_eq_true rfl) rfl ?_
  refine Ev_iconst dX3_whoCould_6 rfl (ev_Rc rfl) ?_
  refine Ev_istore_n (l' := [(3, ev_i 0), (2, ev_i 0), (0, ev_r 146), (1, ev_i a1)]) dX3_whoCould_7 rfl (Nat.le_of_ble_eq_true rfl) rfl ?_
  exact Ev_sub [2, 3, 1, 0] rfl h
theorem wp_X3_whoCould_8 {d : Nat} {s : ev_S} {Q : Option ev_V → ev_S → Prop} {a1 a2 a3 : Int}
    (h : (((s 1 7) ≤ a3 → Q (some (ev_i a2)) s) ∧ (a3 < (s 1 7) → (Ev layX M_X3_couldAlone d 0 [(0, ev_r 146), (1, ev_i a3), (2, ev_i a1)] [] s (ev_pi (fun r2 s1 => ((r2 = 0 → Ev layX M_X3_whoCould (d + 1) 8 [(0, ev_r 146), (1, ev_i a1), (2, ev_i a2), (3, ev_i (ev_add a3 1))] [] s1 Q) ∧ (r2 ≠ 0 → Ev layX M_X3_whoCould (d + 1) 8 [(0, ev_r 146), (1, ev_i a1), (2, ev_i (ev_or a2 (ev_shl 1 a3))), (3, ev_i (ev_add a3 1))] [] s1 Q)))))))) :
    Ev layX M_X3_whoCould (d + 1) 8 [(0, ev_r 146), (1, ev_i a1), (2, ev_i a2), (3, ev_i a3)] [] s Q := by
  refine Ev_iload_n 3 dX3_whoCould_8 rfl rfl ?_
  refine Ev_aload_n 0 dX3_whoCould_9 rfl rfl ?_
  refine Ev_getR (i := 0) cl_X3 yX_146 (Nat.le_of_ble_eq_true rfl) rfl wd_570 dX3_whoCould_10 ?_
  refine Ev_get (i := 7) cl_X10 yX_1 (Nat.le_of_ble_eq_true rfl) rfl wd_267 dX3_whoCould_13 ?_
  refine Ev_icmp_ge (tgt := 40) dX3_whoCould_16 rfl (fun c => ?_) (fun c => ?_)
  · replace h := h.1 c
    refine Ev_iload_n 2 dX3_whoCould_40 rfl rfl ?_
    exact Ev_iret rfl dX3_whoCould_41 rfl h
  · replace h := h.2 c
    refine Ev_aload_n 0 dX3_whoCould_19 rfl rfl ?_
    refine Ev_iload_n 3 dX3_whoCould_20 rfl rfl ?_
    refine Ev_iload_n 1 dX3_whoCould_21 rfl rfl ?_
    refine Ev_callV (As := [ev_i a3, ev_i a1]) (b := 146) (st := []) (M' := M_X3_couldAlone) cm_X3_couldAlone wd_1258 wd_1260 wd_57 yX_146 cl_X3 rfl dX3_whoCould_22 (Nat.le_refl _) rfl (Nat.le_of_ble_eq_true rfl) (Nat.le_of_ble_eq_true rfl) h (fun v u h hk => ?_)
    obtain ⟨r2, rfl⟩ := hk
    obtain ⟨s1, rfl⟩ : ∃ x, x = u := ⟨_, rfl⟩
    replace h := h r2 rfl
    refine Ev_if_eq (tgt := 34) dX3_whoCould_25 rfl (fun c => ?_) (fun c => ?_)
    · replace h := h.1 c
      refine Ev_iinc (j := 3) (l' := [(3, ev_i (ev_add a3 1)), (0, ev_r 146), (1, ev_i a1), (2, ev_i a2)]) dX3_whoCould_34 rfl (Nat.le_of_ble_eq_true rfl) rfl ?_
      refine Ev_goto (tgt := 8) dX3_whoCould_37 rfl ?_
      exact Ev_sub [1, 2, 3, 0] rfl h
    · replace h := h.2 c
      refine Ev_iload_n 2 dX3_whoCould_28 rfl rfl ?_
      refine Ev_iconst dX3_whoCould_29 rfl (ev_Rc rfl) ?_
      refine Ev_iload_n 3 dX3_whoCould_30 rfl rfl ?_
      refine Ev_ishl dX3_whoCould_31 ?_
      refine Ev_ior dX3_whoCould_32 ?_
      refine Ev_istore_n (l' := [(2, ev_i (ev_or a2 (ev_shl 1 a3))), (0, ev_r 146), (1, ev_i a1), (3, ev_i a3)]) dX3_whoCould_33 rfl (Nat.le_of_ble_eq_true rfl) rfl ?_
      refine Ev_iinc (j := 3) (l' := [(3, ev_i (ev_add a3 1)), (2, ev_i (ev_or a2 (ev_shl 1 a3))), (0, ev_r 146), (1, ev_i a1)]) dX3_whoCould_34 rfl (Nat.le_of_ble_eq_true rfl) rfl ?_
      refine Ev_goto (tgt := 8) dX3_whoCould_37 rfl ?_
      exact Ev_sub [2, 3, 1, 0] rfl h
theorem dX3_seenToBy_0 : decode cX3_seenToBy 0 = .ok (.aload_n 0, 1) := by decide +kernel
theorem dX3_seenToBy_1 : decode cX3_seenToBy 1 = .ok (.invokevirtual 39, 3) := by decide +kernel
theorem dX3_seenToBy_4 : decode cX3_seenToBy 4 = .ok (.iconst 0, 1) := by decide +kernel
theorem dX3_seenToBy_5 : decode cX3_seenToBy 5 = .ok (.istore_n 2, 1) := by decide +kernel
theorem dX3_seenToBy_6 : decode cX3_seenToBy 6 = .ok (.iconst 0, 1) := by decide +kernel
theorem dX3_seenToBy_7 : decode cX3_seenToBy 7 = .ok (.istore_n 3, 1) := by decide +kernel
theorem dX3_seenToBy_8 : decode cX3_seenToBy 8 = .ok (.iload_n 3, 1) := by decide +kernel
theorem dX3_seenToBy_9 : decode cX3_seenToBy 9 = .ok (.aload_n 0, 1) := by decide +kernel
theorem dX3_seenToBy_10 : decode cX3_seenToBy 10 = .ok (.getfield 28, 3) := by decide +kernel
theorem dX3_seenToBy_13 : decode cX3_seenToBy 13 = .ok (.getfield 69, 3) := by decide +kernel
theorem dX3_seenToBy_16 : decode cX3_seenToBy 16 = .ok (.if_icmp .ge 37, 3) := by decide +kernel
theorem dX3_seenToBy_19 : decode cX3_seenToBy 19 = .ok (.aload_n 0, 1) := by decide +kernel
theorem dX3_seenToBy_20 : decode cX3_seenToBy 20 = .ok (.getfield 18, 3) := by decide +kernel
theorem dX3_seenToBy_23 : decode cX3_seenToBy 23 = .ok (.iload_n 3, 1) := by decide +kernel
theorem dX3_seenToBy_24 : decode cX3_seenToBy 24 = .ok (.iaload, 1) := by decide +kernel
theorem dX3_seenToBy_25 : decode cX3_seenToBy 25 = .ok (.iconst (-1), 1) := by decide +kernel
theorem dX3_seenToBy_26 : decode cX3_seenToBy 26 = .ok (.if_icmp .eq 21, 3) := by decide +kernel
theorem dX3_seenToBy_29 : decode cX3_seenToBy 29 = .ok (.aload_n 0, 1) := by decide +kernel
theorem dX3_seenToBy_30 : decode cX3_seenToBy 30 = .ok (.iload_n 3, 1) := by decide +kernel
theorem dX3_seenToBy_31 : decode cX3_seenToBy 31 = .ok (.invokevirtual 123, 3) := by decide +kernel
theorem dX3_seenToBy_34 : decode cX3_seenToBy 34 = .ok (.invokestatic 126, 3) := by decide +kernel
theorem dX3_seenToBy_37 : decode cX3_seenToBy 37 = .ok (.iload_n 1, 1) := by decide +kernel
theorem dX3_seenToBy_38 : decode cX3_seenToBy 38 = .ok (.if_icmp .ne 9, 3) := by decide +kernel
theorem dX3_seenToBy_41 : decode cX3_seenToBy 41 = .ok (.iload_n 2, 1) := by decide +kernel
theorem dX3_seenToBy_42 : decode cX3_seenToBy 42 = .ok (.iconst 1, 1) := by decide +kernel
theorem dX3_seenToBy_43 : decode cX3_seenToBy 43 = .ok (.iload_n 3, 1) := by decide +kernel
theorem dX3_seenToBy_44 : decode cX3_seenToBy 44 = .ok (.ishl, 1) := by decide +kernel
theorem dX3_seenToBy_45 : decode cX3_seenToBy 45 = .ok (.ior, 1) := by decide +kernel
theorem dX3_seenToBy_46 : decode cX3_seenToBy 46 = .ok (.istore_n 2, 1) := by decide +kernel
theorem dX3_seenToBy_47 : decode cX3_seenToBy 47 = .ok (.iinc 3 1, 3) := by decide +kernel
theorem dX3_seenToBy_50 : decode cX3_seenToBy 50 = .ok (.goto (-42), 3) := by decide +kernel
theorem dX3_seenToBy_53 : decode cX3_seenToBy 53 = .ok (.iload_n 2, 1) := by decide +kernel
theorem dX3_seenToBy_54 : decode cX3_seenToBy 54 = .ok (.ireturn, 1) := by decide +kernel
theorem wp_X3_seenToBy_0 {d : Nat} {s : ev_S} {Q : Option ev_V → ev_S → Prop} {a1 : Int}
    (h : (Ev layX M_X3_foresee d 0 [(0, ev_r 146)] [] s (fun _ s1 => Ev layX M_X3_seenToBy (d + 1) 8 [(0, ev_r 146), (1, ev_i a1), (2, ev_i 0), (3, ev_i 0)] [] s1 Q))) :
    Ev layX M_X3_seenToBy (d + 1) 0 [(0, ev_r 146), (1, ev_i a1)] [] s Q := by
  refine Ev_aload_n 0 dX3_seenToBy_0 rfl rfl ?_
  refine Ev_callV (As := []) (b := 146) (st := []) (M' := M_X3_foresee) cm_X3_foresee wd_1160 wd_1162 wd_39 yX_146 cl_X3 rfl dX3_seenToBy_1 (Nat.le_refl _) rfl (Nat.le_of_ble_eq_true rfl) (Nat.le_of_ble_eq_true rfl) h (fun v u h hk => ?_)
  cases hk
  obtain ⟨s1, rfl⟩ : ∃ x, x = u := ⟨_, rfl⟩
  refine Ev_iconst dX3_seenToBy_4 rfl (ev_Rc rfl) ?_
  refine Ev_istore_n (l' := [(2, ev_i 0), (0, ev_r 146), (1, ev_i a1)]) dX3_seenToBy_5 rfl (Nat.le_of_ble_eq_true rfl) rfl ?_
  refine Ev_iconst dX3_seenToBy_6 rfl (ev_Rc rfl) ?_
  refine Ev_istore_n (l' := [(3, ev_i 0), (2, ev_i 0), (0, ev_r 146), (1, ev_i a1)]) dX3_seenToBy_7 rfl (Nat.le_of_ble_eq_true rfl) rfl ?_
  exact Ev_sub [2, 3, 1, 0] rfl h
theorem wp_X3_seenToBy_8 {d : Nat} {s : ev_S} {Q : Option ev_V → ev_S → Prop} {a1 a2 a3 : Int}
    (h : (((s 1 13) ≤ a3 → Q (some (ev_i a2)) s) ∧ (a3 < (s 1 13) → ((0 ≤ a3 ∧ a3 < (10 : Nat)) ∧ (((s 159 (Int.toNat a3)) = (-1) → Ev layX M_X3_seenToBy (d + 1) 8 [(0, ev_r 146), (1, ev_i a1), (2, ev_i a2), (3, ev_i (ev_add a3 1))] [] s Q) ∧ ((s 159 (Int.toNat a3)) ≠ (-1) → (Ev layX M_X3_whoCould d 0 [(0, ev_r 146), (1, ev_i a3)] [] s (ev_pi (fun r2 s1 => (Ev layX M_J6_bitCount_0f7a4 d 0 [(0, ev_i r2)] [] s1 (ev_pi (fun r4 s3 => ((r4 ≠ a1 → Ev layX M_X3_seenToBy (d + 1) 8 [(0, ev_r 146), (1, ev_i a1), (2, ev_i a2), (3, ev_i (ev_add a3 1))] [] s3 Q) ∧ (r4 = a1 → Ev layX M_X3_seenToBy (d + 1) 8 [(0, ev_r 146), (1, ev_i a1), (2, ev_i (ev_or a2 (ev_shl 1 a3))), (3, ev_i (ev_add a3 1))] [] s3 Q)))))))))))))) :
    Ev layX M_X3_seenToBy (d + 1) 8 [(0, ev_r 146), (1, ev_i a1), (2, ev_i a2), (3, ev_i a3)] [] s Q := by
  refine Ev_iload_n 3 dX3_seenToBy_8 rfl rfl ?_
  refine Ev_aload_n 0 dX3_seenToBy_9 rfl rfl ?_
  refine Ev_getR (i := 0) cl_X3 yX_146 (Nat.le_of_ble_eq_true rfl) rfl wd_570 dX3_seenToBy_10 ?_
  refine Ev_get (i := 13) cl_X10 yX_1 (Nat.le_of_ble_eq_true rfl) rfl wd_287 dX3_seenToBy_13 ?_
  refine Ev_icmp_ge (tgt := 53) dX3_seenToBy_16 rfl (fun c => ?_) (fun c => ?_)
  · replace h := h.1 c
    refine Ev_iload_n 2 dX3_seenToBy_53 rfl rfl ?_
    exact Ev_iret rfl dX3_seenToBy_54 rfl h
  · replace h := h.2 c
    refine Ev_aload_n 0 dX3_seenToBy_19 rfl rfl ?_
    refine Ev_getR (i := 4) cl_X3 yX_146 (Nat.le_of_ble_eq_true rfl) rfl wd_574 dX3_seenToBy_20 ?_
    refine Ev_iload_n 3 dX3_seenToBy_23 rfl rfl ?_
    obtain ⟨h0, h⟩ := h
    refine Ev_iald yX_159 h0 dX3_seenToBy_24 ?_
    refine Ev_iconst dX3_seenToBy_25 rfl (ev_Rc rfl) ?_
    refine Ev_icmp_eq (tgt := 47) dX3_seenToBy_26 rfl (fun c => ?_) (fun c => ?_)
    · replace h := h.1 c
      refine Ev_iinc (j := 3) (l' := [(3, ev_i (ev_add a3 1)), (0, ev_r 146), (1, ev_i a1), (2, ev_i a2)]) dX3_seenToBy_47 rfl (Nat.le_of_ble_eq_true rfl) rfl ?_
      refine Ev_goto (tgt := 8) dX3_seenToBy_50 rfl ?_
      exact Ev_sub [1, 2, 3, 0] rfl h
    · replace h := h.2 c
      refine Ev_aload_n 0 dX3_seenToBy_29 rfl rfl ?_
      refine Ev_iload_n 3 dX3_seenToBy_30 rfl rfl ?_
      refine Ev_callV (As := [ev_i a3]) (b := 146) (st := []) (M' := M_X3_whoCould) cm_X3_whoCould wd_1362 wd_1278 wd_1279 yX_146 cl_X3 rfl dX3_seenToBy_31 (Nat.le_refl _) rfl (Nat.le_of_ble_eq_true rfl) (Nat.le_of_ble_eq_true rfl) h (fun v u h hk => ?_)
      obtain ⟨r2, rfl⟩ := hk
      obtain ⟨s1, rfl⟩ : ∃ x, x = u := ⟨_, rfl⟩
      replace h := h r2 rfl
      refine Ev_callS (As := [ev_i r2]) (st := []) (M' := M_J6_bitCount_0f7a4) cm_J6_bitCount_0f7a4 wd_1363 wd_1344 dX3_seenToBy_34 (Nat.le_refl _) rfl (Nat.le_of_ble_eq_true rfl) (Nat.le_of_ble_eq_true rfl) h (fun v u h hk => ?_)
      obtain ⟨r4, rfl⟩ := hk
      obtain ⟨s3, rfl⟩ : ∃ x, x = u := ⟨_, rfl⟩
      replace h := h r4 rfl
      refine Ev_iload_n 1 dX3_seenToBy_37 rfl rfl ?_
      refine Ev_icmp_ne (tgt := 47) dX3_seenToBy_38 rfl (fun c => ?_) (fun c => ?_)
      · replace h := h.1 c
        refine Ev_iinc (j := 3) (l' := [(3, ev_i (ev_add a3 1)), (0, ev_r 146), (1, ev_i a1), (2, ev_i a2)]) dX3_seenToBy_47 rfl (Nat.le_of_ble_eq_true rfl) rfl ?_
        refine Ev_goto (tgt := 8) dX3_seenToBy_50 rfl ?_
        exact Ev_sub [1, 2, 3, 0] rfl h
      · replace h := h.2 c
        refine Ev_iload_n 2 dX3_seenToBy_41 rfl rfl ?_
        refine Ev_iconst dX3_seenToBy_42 rfl (ev_Rc rfl) ?_
        refine Ev_iload_n 3 dX3_seenToBy_43 rfl rfl ?_
        refine Ev_ishl dX3_seenToBy_44 ?_
        refine Ev_ior dX3_seenToBy_45 ?_
        refine Ev_istore_n (l' := [(2, ev_i (ev_or a2 (ev_shl 1 a3))), (0, ev_r 146), (1, ev_i a1), (3, ev_i a3)]) dX3_seenToBy_46 rfl (Nat.le_of_ble_eq_true rfl) rfl ?_
        refine Ev_iinc (j := 3) (l' := [(3, ev_i (ev_add a3 1)), (2, ev_i (ev_or a2 (ev_shl 1 a3))), (0, ev_r 146), (1, ev_i a1)]) dX3_seenToBy_47 rfl (Nat.le_of_ble_eq_true rfl) rfl ?_
        refine Ev_goto (tgt := 8) dX3_seenToBy_50 rfl ?_
        exact Ev_sub [2, 3, 1, 0] rfl h
theorem dX3_bestWait_0 : decode cX3_bestWait 0 = .ok (.aload_n 0, 1) := by decide +kernel
theorem dX3_bestWait_1 : decode cX3_bestWait 1 = .ok (.invokevirtual 39, 3) := by decide +kernel
theorem dX3_bestWait_4 : decode cX3_bestWait 4 = .ok (.iconst 0, 1) := by decide +kernel
theorem dX3_bestWait_5 : decode cX3_bestWait 5 = .ok (.istore_n 2, 1) := by decide +kernel
theorem dX3_bestWait_6 : decode cX3_bestWait 6 = .ok (.iconst 0, 1) := by decide +kernel
theorem dX3_bestWait_7 : decode cX3_bestWait 7 = .ok (.istore_n 3, 1) := by decide +kernel
theorem dX3_bestWait_8 : decode cX3_bestWait 8 = .ok (.iconst 0, 1) := by decide +kernel
theorem dX3_bestWait_9 : decode cX3_bestWait 9 = .ok (.istore 4, 2) := by decide +kernel
theorem dX3_bestWait_11 : decode cX3_bestWait 11 = .ok (.iload 4, 2) := by decide +kernel
theorem dX3_bestWait_13 : decode cX3_bestWait 13 = .ok (.bipush 64, 2) := by decide +kernel
theorem dX3_bestWait_15 : decode cX3_bestWait 15 = .ok (.if_icmp .ge 89, 3) := by decide +kernel
theorem dX3_bestWait_18 : decode cX3_bestWait 18 = .ok (.iconst 0, 1) := by decide +kernel
theorem dX3_bestWait_19 : decode cX3_bestWait 19 = .ok (.istore 5, 2) := by decide +kernel
theorem dX3_bestWait_21 : decode cX3_bestWait 21 = .ok (.iconst 0, 1) := by decide +kernel
theorem dX3_bestWait_22 : decode cX3_bestWait 22 = .ok (.istore 6, 2) := by decide +kernel
theorem dX3_bestWait_24 : decode cX3_bestWait 24 = .ok (.iload 6, 2) := by decide +kernel
theorem dX3_bestWait_26 : decode cX3_bestWait 26 = .ok (.aload_n 0, 1) := by decide +kernel
theorem dX3_bestWait_27 : decode cX3_bestWait 27 = .ok (.getfield 28, 3) := by decide +kernel
theorem dX3_bestWait_30 : decode cX3_bestWait 30 = .ok (.getfield 69, 3) := by decide +kernel
theorem dX3_bestWait_33 : decode cX3_bestWait 33 = .ok (.if_icmp .ge 53, 3) := by decide +kernel
theorem dX3_bestWait_36 : decode cX3_bestWait 36 = .ok (.aload_n 0, 1) := by decide +kernel
theorem dX3_bestWait_37 : decode cX3_bestWait 37 = .ok (.getfield 28, 3) := by decide +kernel
theorem dX3_bestWait_40 : decode cX3_bestWait 40 = .ok (.getfield 81, 3) := by decide +kernel
theorem dX3_bestWait_43 : decode cX3_bestWait 43 = .ok (.iload 6, 2) := by decide +kernel
theorem dX3_bestWait_45 : decode cX3_bestWait 45 = .ok (.bipush 7, 2) := by decide +kernel
theorem dX3_bestWait_47 : decode cX3_bestWait 47 = .ok (.imul, 1) := by decide +kernel
theorem dX3_bestWait_48 : decode cX3_bestWait 48 = .ok (.iconst 1, 1) := by decide +kernel
theorem dX3_bestWait_49 : decode cX3_bestWait 49 = .ok (.iadd, 1) := by decide +kernel
theorem dX3_bestWait_50 : decode cX3_bestWait 50 = .ok (.iaload, 1) := by decide +kernel
theorem dX3_bestWait_51 : decode cX3_bestWait 51 = .ok (.iload 4, 2) := by decide +kernel
theorem dX3_bestWait_53 : decode cX3_bestWait 53 = .ok (.if_icmp .ne 27, 3) := by decide +kernel
theorem dX3_bestWait_56 : decode cX3_bestWait 56 = .ok (.aload_n 0, 1) := by decide +kernel
theorem dX3_bestWait_57 : decode cX3_bestWait 57 = .ok (.iload_n 1, 1) := by decide +kernel
theorem dX3_bestWait_58 : decode cX3_bestWait 58 = .ok (.iload 6, 2) := by decide +kernel
theorem dX3_bestWait_60 : decode cX3_bestWait 60 = .ok (.invokevirtual 119, 3) := by decide +kernel
theorem dX3_bestWait_63 : decode cX3_bestWait 63 = .ok (.ifCond .eq 17, 3) := by decide +kernel
theorem dX3_bestWait_66 : decode cX3_bestWait 66 = .ok (.iload 5, 2) := by decide +kernel
theorem dX3_bestWait_68 : decode cX3_bestWait 68 = .ok (.aload_n 0, 1) := by decide +kernel
theorem dX3_bestWait_69 : decode cX3_bestWait 69 = .ok (.getfield 28, 3) := by decide +kernel
theorem dX3_bestWait_72 : decode cX3_bestWait 72 = .ok (.iload 6, 2) := by decide +kernel
theorem dX3_bestWait_74 : decode cX3_bestWait 74 = .ok (.invokevirtual 100, 3) := by decide +kernel
theorem dX3_bestWait_77 : decode cX3_bestWait 77 = .ok (.iadd, 1) := by decide +kernel
theorem dX3_bestWait_78 : decode cX3_bestWait 78 = .ok (.istore 5, 2) := by decide +kernel
theorem dX3_bestWait_80 : decode cX3_bestWait 80 = .ok (.iinc 6 1, 3) := by decide +kernel
theorem dX3_bestWait_83 : decode cX3_bestWait 83 = .ok (.goto (-59), 3) := by decide +kernel
theorem dX3_bestWait_86 : decode cX3_bestWait 86 = .ok (.iload 5, 2) := by decide +kernel
theorem dX3_bestWait_88 : decode cX3_bestWait 88 = .ok (.iload_n 3, 1) := by decide +kernel
theorem dX3_bestWait_89 : decode cX3_bestWait 89 = .ok (.if_icmp .le 9, 3) := by decide +kernel
theorem dX3_bestWait_92 : decode cX3_bestWait 92 = .ok (.iload 5, 2) := by decide +kernel
theorem dX3_bestWait_94 : decode cX3_bestWait 94 = .ok (.istore_n 3, 1) := by decide +kernel
theorem dX3_bestWait_95 : decode cX3_bestWait 95 = .ok (.iload 4, 2) := by decide +kernel
theorem dX3_bestWait_97 : decode cX3_bestWait 97 = .ok (.istore_n 2, 1) := by decide +kernel
theorem dX3_bestWait_98 : decode cX3_bestWait 98 = .ok (.iinc 4 1, 3) := by decide +kernel
theorem dX3_bestWait_101 : decode cX3_bestWait 101 = .ok (.goto (-90), 3) := by decide +kernel
theorem dX3_bestWait_104 : decode cX3_bestWait 104 = .ok (.iload_n 2, 1) := by decide +kernel
theorem dX3_bestWait_105 : decode cX3_bestWait 105 = .ok (.ireturn, 1) := by decide +kernel
theorem wp_X3_bestWait_0 {d : Nat} {s : ev_S} {Q : Option ev_V → ev_S → Prop} {a1 : Int}
    (h : (Ev layX M_X3_foresee d 0 [(0, ev_r 146)] [] s (fun _ s1 => Ev layX M_X3_bestWait (d + 1) 11 [(0, ev_r 146), (1, ev_i a1), (2, ev_i 0), (3, ev_i 0), (4, ev_i 0)] [] s1 Q))) :
    Ev layX M_X3_bestWait (d + 1) 0 [(0, ev_r 146), (1, ev_i a1)] [] s Q := by
  refine Ev_aload_n 0 dX3_bestWait_0 rfl rfl ?_
  refine Ev_callV (As := []) (b := 146) (st := []) (M' := M_X3_foresee) cm_X3_foresee wd_1160 wd_1162 wd_39 yX_146 cl_X3 rfl dX3_bestWait_1 (Nat.le_refl _) rfl (Nat.le_of_ble_eq_true rfl) (Nat.le_of_ble_eq_true rfl) h (fun v u h hk => ?_)
  cases hk
  obtain ⟨s1, rfl⟩ : ∃ x, x = u := ⟨_, rfl⟩
  refine Ev_iconst dX3_bestWait_4 rfl (ev_Rc rfl) ?_
  refine Ev_istore_n (l' := [(2, ev_i 0), (0, ev_r 146), (1, ev_i a1)]) dX3_bestWait_5 rfl (Nat.le_of_ble_eq_true rfl) rfl ?_
  refine Ev_iconst dX3_bestWait_6 rfl (ev_Rc rfl) ?_
  refine Ev_istore_n (l' := [(3, ev_i 0), (2, ev_i 0), (0, ev_r 146), (1, ev_i a1)]) dX3_bestWait_7 rfl (Nat.le_of_ble_eq_true rfl) rfl ?_
  refine Ev_iconst dX3_bestWait_8 rfl (ev_Rc rfl) ?_
  refine Ev_istore (l' := [(4, ev_i 0), (3, ev_i 0), (2, ev_i 0), (0, ev_r 146), (1, ev_i a1)]) dX3_bestWait_9 (Nat.le_of_ble_eq_true rfl) rfl ?_
  exact Ev_sub [3, 4, 2, 1, 0] rfl h
theorem wp_X3_bestWait_11 {d : Nat} {s : ev_S} {Q : Option ev_V → ev_S → Prop} {a1 a2 a3 a4 : Int}
    (h : ((64 ≤ a4 → Q (some (ev_i a2)) s) ∧ (a4 < 64 → Ev layX M_X3_bestWait (d + 1) 24 [(0, ev_r 146), (1, ev_i a1), (2, ev_i a2), (3, ev_i a3), (4, ev_i a4), (5, ev_i 0), (6, ev_i 0)] [] s Q))) :
    Ev layX M_X3_bestWait (d + 1) 11 [(0, ev_r 146), (1, ev_i a1), (2, ev_i a2), (3, ev_i a3), (4, ev_i a4)] [] s Q := by
  refine Ev_iload 4 dX3_bestWait_11 rfl ?_
  refine Ev_bipushC dX3_bestWait_13 rfl ?_
  refine Ev_icmp_ge (tgt := 104) dX3_bestWait_15 rfl (fun c => ?_) (fun c => ?_)
  · replace h := h.1 c
    refine Ev_iload_n 2 dX3_bestWait_104 rfl rfl ?_
    exact Ev_iret rfl dX3_bestWait_105 rfl h
  · replace h := h.2 c
    refine Ev_iconst dX3_bestWait_18 rfl (ev_Rc rfl) ?_
    refine Ev_istore (l' := [(5, ev_i 0), (0, ev_r 146), (1, ev_i a1), (2, ev_i a2), (3, ev_i a3), (4, ev_i a4)]) dX3_bestWait_19 (Nat.le_of_ble_eq_true rfl) rfl ?_
    refine Ev_iconst dX3_bestWait_21 rfl (ev_Rc rfl) ?_
    refine Ev_istore (l' := [(6, ev_i 0), (5, ev_i 0), (0, ev_r 146), (1, ev_i a1), (2, ev_i a2), (3, ev_i a3), (4, ev_i a4)]) dX3_bestWait_22 (Nat.le_of_ble_eq_true rfl) rfl ?_
    exact Ev_sub [2, 3, 4, 5, 6, 1, 0] rfl h
theorem wp_X3_bestWait_24 {d : Nat} {s : ev_S} {Q : Option ev_V → ev_S → Prop} {a1 a2 a3 a4 a5 a6 : Int}
    (h : (((s 1 13) ≤ a6 → ((a5 ≤ a3 → Ev layX M_X3_bestWait (d + 1) 11 [(0, ev_r 146), (1, ev_i a1), (2, ev_i a2), (3, ev_i a3), (4, ev_i (ev_add a4 1))] [] s Q) ∧ (a3 < a5 → Ev layX M_X3_bestWait (d + 1) 11 [(0, ev_r 146), (1, ev_i a1), (2, ev_i a4), (3, ev_i a5), (4, ev_i (ev_add a4 1))] [] s Q))) ∧ (a6 < (s 1 13) → ((0 ≤ (ev_add (ev_mul a6 7) 1) ∧ (ev_add (ev_mul a6 7) 1) < (70 : Nat)) ∧ (((s 9 (Int.toNat (ev_add (ev_mul a6 7) 1))) ≠ a4 → Ev layX M_X3_bestWait (d + 1) 24 [(0, ev_r 146), (1, ev_i a1), (2, ev_i a2), (3, ev_i a3), (4, ev_i a4), (5, ev_i a5), (6, ev_i (ev_add a6 1))] [] s Q) ∧ ((s 9 (Int.toNat (ev_add (ev_mul a6 7) 1))) = a4 → (Ev layX M_X3_couldAlone d 0 [(0, ev_r 146), (1, ev_i a1), (2, ev_i a6)] [] s (ev_pi (fun r2 s1 => ((r2 = 0 → Ev layX M_X3_bestWait (d + 1) 24 [(0, ev_r 146), (1, ev_i a1), (2, ev_i a2), (3, ev_i a3), (4, ev_i a4), (5, ev_i a5), (6, ev_i (ev_add a6 1))] [] s1 Q) ∧ (r2 ≠ 0 → (Ev layX M_X10_risk d 0 [(0, ev_r 1), (1, ev_i a6)] [] s1 (ev_pi (fun r4 s3 => Ev layX M_X3_bestWait (d + 1) 24 [(0, ev_r 146), (1, ev_i a1), (2, ev_i a2), (3, ev_i a3), (4, ev_i a4), (5, ev_i (ev_add a5 r4)), (6, ev_i (ev_add a6 1))] [] s3 Q)))))))))))))) :
    Ev layX M_X3_bestWait (d + 1) 24 [(0, ev_r 146), (1, ev_i a1), (2, ev_i a2), (3, ev_i a3), (4, ev_i a4), (5, ev_i a5), (6, ev_i a6)] [] s Q := by
  refine Ev_iload 6 dX3_bestWait_24 rfl ?_
  refine Ev_aload_n 0 dX3_bestWait_26 rfl rfl ?_
  refine Ev_getR (i := 0) cl_X3 yX_146 (Nat.le_of_ble_eq_true rfl) rfl wd_570 dX3_bestWait_27 ?_
  refine Ev_get (i := 13) cl_X10 yX_1 (Nat.le_of_ble_eq_true rfl) rfl wd_287 dX3_bestWait_30 ?_
  refine Ev_icmp_ge (tgt := 86) dX3_bestWait_33 rfl (fun c => ?_) (fun c => ?_)
  · replace h := h.1 c
    refine Ev_iload 5 dX3_bestWait_86 rfl ?_
    refine Ev_iload_n 3 dX3_bestWait_88 rfl rfl ?_
    refine Ev_icmp_le (tgt := 98) dX3_bestWait_89 rfl (fun c => ?_) (fun c => ?_)
    · replace h := h.1 c
      refine Ev_iinc (j := 4) (l' := [(4, ev_i (ev_add a4 1)), (0, ev_r 146), (1, ev_i a1), (2, ev_i a2), (3, ev_i a3), (5, ev_i a5), (6, ev_i a6)]) dX3_bestWait_98 rfl (Nat.le_of_ble_eq_true rfl) rfl ?_
      refine Ev_goto (tgt := 11) dX3_bestWait_101 rfl ?_
      exact Ev_sub [1, 2, 3, 4, 0] rfl h
    · replace h := h.2 c
      refine Ev_iload 5 dX3_bestWait_92 rfl ?_
      refine Ev_istore_n (l' := [(3, ev_i a5), (0, ev_r 146), (1, ev_i a1), (2, ev_i a2), (4, ev_i a4), (5, ev_i a5), (6, ev_i a6)]) dX3_bestWait_94 rfl (Nat.le_of_ble_eq_true rfl) rfl ?_
      refine Ev_iload 4 dX3_bestWait_95 rfl ?_
      refine Ev_istore_n (l' := [(2, ev_i a4), (3, ev_i a5), (0, ev_r 146), (1, ev_i a1), (4, ev_i a4), (5, ev_i a5), (6, ev_i a6)]) dX3_bestWait_97 rfl (Nat.le_of_ble_eq_true rfl) rfl ?_
      refine Ev_iinc (j := 4) (l' := [(4, ev_i (ev_add a4 1)), (2, ev_i a4), (3, ev_i a5), (0, ev_r 146), (1, ev_i a1), (5, ev_i a5), (6, ev_i a6)]) dX3_bestWait_98 rfl (Nat.le_of_ble_eq_true rfl) rfl ?_
      refine Ev_goto (tgt := 11) dX3_bestWait_101 rfl ?_
      exact Ev_sub [3, 4, 1, 2, 0] rfl h
  · replace h := h.2 c
    refine Ev_aload_n 0 dX3_bestWait_36 rfl rfl ?_
    refine Ev_getR (i := 0) cl_X3 yX_146 (Nat.le_of_ble_eq_true rfl) rfl wd_570 dX3_bestWait_37 ?_
    refine Ev_getR (i := 14) cl_X10 yX_1 (Nat.le_of_ble_eq_true rfl) rfl wd_291 dX3_bestWait_40 ?_
    refine Ev_iload 6 dX3_bestWait_43 rfl ?_
    refine Ev_bipushC dX3_bestWait_45 rfl ?_
    refine Ev_imul dX3_bestWait_47 ?_
    refine Ev_iconst dX3_bestWait_48 rfl (ev_Rc rfl) ?_
    refine Ev_iadd dX3_bestWait_49 ?_
    obtain ⟨h0, h⟩ := h
    refine Ev_iald yX_9 h0 dX3_bestWait_50 ?_
    refine Ev_iload 4 dX3_bestWait_51 rfl ?_
    refine Ev_icmp_ne (tgt := 80) dX3_bestWait_53 rfl (fun c => ?_) (fun c => ?_)
    · replace h := h.1 c
      refine Ev_iinc (j := 6) (l' := [(6, ev_i (ev_add a6 1)), (0, ev_r 146), (1, ev_i a1), (2, ev_i a2), (3, ev_i a3), (4, ev_i a4), (5, ev_i a5)]) dX3_bestWait_80 rfl (Nat.le_of_ble_eq_true rfl) rfl ?_
      refine Ev_goto (tgt := 24) dX3_bestWait_83 rfl ?_
      exact Ev_sub [1, 2, 3, 4, 5, 6, 0] rfl h
    · replace h := h.2 c
      refine Ev_aload_n 0 dX3_bestWait_56 rfl rfl ?_
      refine Ev_iload_n 1 dX3_bestWait_57 rfl rfl ?_
      refine Ev_iload 6 dX3_bestWait_58 rfl ?_
      refine Ev_callV (As := [ev_i a1, ev_i a6]) (b := 146) (st := []) (M' := M_X3_couldAlone) cm_X3_couldAlone wd_1258 wd_1260 wd_57 yX_146 cl_X3 rfl dX3_bestWait_60 (Nat.le_refl _) rfl (Nat.le_of_ble_eq_true rfl) (Nat.le_of_ble_eq_true rfl) h (fun v u h hk => ?_)
      obtain ⟨r2, rfl⟩ := hk
      obtain ⟨s1, rfl⟩ : ∃ x, x = u := ⟨_, rfl⟩
      replace h := h r2 rfl
      refine Ev_if_eq (tgt := 80) dX3_bestWait_63 rfl (fun c => ?_) (fun c => ?_)
      · replace h := h.1 c
        refine Ev_iinc (j := 6) (l' := [(6, ev_i (ev_add a6 1)), (0, ev_r 146), (1, ev_i a1), (2, ev_i a2), (3, ev_i a3), (4, ev_i a4), (5, ev_i a5)]) dX3_bestWait_80 rfl (Nat.le_of_ble_eq_true rfl) rfl ?_
        refine Ev_goto (tgt := 24) dX3_bestWait_83 rfl ?_
        exact Ev_sub [1, 2, 3, 4, 5, 6, 0] rfl h
      · replace h := h.2 c
        refine Ev_iload 5 dX3_bestWait_66 rfl ?_
        refine Ev_aload_n 0 dX3_bestWait_68 rfl rfl ?_
        refine Ev_getR (i := 0) cl_X3 yX_146 (Nat.le_of_ble_eq_true rfl) rfl wd_570 dX3_bestWait_69 ?_
        refine Ev_iload 6 dX3_bestWait_72 rfl ?_
        refine Ev_callV (As := [ev_i a6]) (b := 1) (st := [ev_i a5]) (M' := M_X10_risk) cm_X10_risk wd_1267 wd_1187 wd_1188 yX_1 cl_X10 rfl dX3_bestWait_74 (Nat.le_refl _) rfl (Nat.le_of_ble_eq_true rfl) (Nat.le_of_ble_eq_true rfl) h (fun v u h hk => ?_)
        obtain ⟨r4, rfl⟩ := hk
        obtain ⟨s3, rfl⟩ : ∃ x, x = u := ⟨_, rfl⟩
        replace h := h r4 rfl
        refine Ev_iadd dX3_bestWait_77 ?_
        refine Ev_istore (l' := [(5, ev_i (ev_add a5 r4)), (0, ev_r 146), (1, ev_i a1), (2, ev_i a2), (3, ev_i a3), (4, ev_i a4), (6, ev_i a6)]) dX3_bestWait_78 (Nat.le_of_ble_eq_true rfl) rfl ?_
        refine Ev_iinc (j := 6) (l' := [(6, ev_i (ev_add a6 1)), (5, ev_i (ev_add a5 r4)), (0, ev_r 146), (1, ev_i a1), (2, ev_i a2), (3, ev_i a3), (4, ev_i a4)]) dX3_bestWait_80 rfl (Nat.le_of_ble_eq_true rfl) rfl ?_
        refine Ev_goto (tgt := 24) dX3_bestWait_83 rfl ?_
        exact Ev_sub [2, 3, 4, 5, 6, 1, 0] rfl h
theorem dX3_meet_0 : decode cX3_meet 0 = .ok (.aload_n 0, 1) := by decide +kernel
theorem dX3_meet_1 : decode cX3_meet 1 = .ok (.iload_n 1, 1) := by decide +kernel
theorem dX3_meet_2 : decode cX3_meet 2 = .ok (.iload_n 2, 1) := by decide +kernel
theorem dX3_meet_3 : decode cX3_meet 3 = .ok (.invokevirtual 131, 3) := by decide +kernel
theorem dX3_meet_6 : decode cX3_meet 6 = .ok (.istore_n 3, 1) := by decide +kernel
theorem dX3_meet_7 : decode cX3_meet 7 = .ok (.aload_n 0, 1) := by decide +kernel
theorem dX3_meet_8 : decode cX3_meet 8 = .ok (.iconst (-1), 1) := by decide +kernel
theorem dX3_meet_9 : decode cX3_meet 9 = .ok (.putfield 134, 3) := by decide +kernel
theorem dX3_meet_12 : decode cX3_meet 12 = .ok (.aload_n 0, 1) := by decide +kernel
theorem dX3_meet_13 : decode cX3_meet 13 = .ok (.iconst (-1), 1) := by decide +kernel
theorem dX3_meet_14 : decode cX3_meet 14 = .ok (.putfield 137, 3) := by decide +kernel
theorem dX3_meet_17 : decode cX3_meet 17 = .ok (.iconst 0, 1) := by decide +kernel
theorem dX3_meet_18 : decode cX3_meet 18 = .ok (.istore 4, 2) := by decide +kernel
theorem dX3_meet_20 : decode cX3_meet 20 = .ok (.iload 4, 2) := by decide +kernel
theorem dX3_meet_22 : decode cX3_meet 22 = .ok (.bipush 60, 2) := by decide +kernel
theorem dX3_meet_24 : decode cX3_meet 24 = .ok (.if_icmp .gt 103, 3) := by decide +kernel
theorem dX3_meet_27 : decode cX3_meet 27 = .ok (.aload_n 0, 1) := by decide +kernel
theorem dX3_meet_28 : decode cX3_meet 28 = .ok (.getfield 134, 3) := by decide +kernel
theorem dX3_meet_31 : decode cX3_meet 31 = .ok (.iconst (-1), 1) := by decide +kernel
theorem dX3_meet_32 : decode cX3_meet 32 = .ok (.if_icmp .ne 95, 3) := by decide +kernel
theorem dX3_meet_35 : decode cX3_meet 35 = .ok (.iconst 0, 1) := by decide +kernel
theorem dX3_meet_36 : decode cX3_meet 36 = .ok (.istore 5, 2) := by decide +kernel
theorem dX3_meet_38 : decode cX3_meet 38 = .ok (.iload 5, 2) := by decide +kernel
theorem dX3_meet_40 : decode cX3_meet 40 = .ok (.iload_n 3, 1) := by decide +kernel
theorem dX3_meet_41 : decode cX3_meet 41 = .ok (.if_icmp .ge 80, 3) := by decide +kernel
theorem dX3_meet_44 : decode cX3_meet 44 = .ok (.aload_n 0, 1) := by decide +kernel
theorem dX3_meet_45 : decode cX3_meet 45 = .ok (.getfield 134, 3) := by decide +kernel
theorem dX3_meet_48 : decode cX3_meet 48 = .ok (.iconst (-1), 1) := by decide +kernel
theorem dX3_meet_49 : decode cX3_meet 49 = .ok (.if_icmp .ne 72, 3) := by decide +kernel
theorem dX3_meet_52 : decode cX3_meet 52 = .ok (.iload 5, 2) := by decide +kernel
theorem dX3_meet_54 : decode cX3_meet 54 = .ok (.iload 4, 2) := by decide +kernel
theorem dX3_meet_56 : decode cX3_meet 56 = .ok (.if_icmp .ge 15, 3) := by decide +kernel
theorem dX3_meet_59 : decode cX3_meet 59 = .ok (.aload_n 0, 1) := by decide +kernel
theorem dX3_meet_60 : decode cX3_meet 60 = .ok (.getfield 32, 3) := by decide +kernel
theorem dX3_meet_63 : decode cX3_meet 63 = .ok (.getfield 140, 3) := by decide +kernel
theorem dX3_meet_66 : decode cX3_meet 66 = .ok (.iload_n 1, 1) := by decide +kernel
theorem dX3_meet_67 : decode cX3_meet 67 = .ok (.iaload, 1) := by decide +kernel
theorem dX3_meet_68 : decode cX3_meet 68 = .ok (.goto 13, 3) := by decide +kernel
theorem dX3_meet_71 : decode cX3_meet 71 = .ok (.aload_n 0, 1) := by decide +kernel
theorem dX3_meet_72 : decode cX3_meet 72 = .ok (.getfield 22, 3) := by decide +kernel
theorem dX3_meet_75 : decode cX3_meet 75 = .ok (.iload 5, 2) := by decide +kernel
theorem dX3_meet_77 : decode cX3_meet 77 = .ok (.iload 4, 2) := by decide +kernel
theorem dX3_meet_79 : decode cX3_meet 79 = .ok (.isub, 1) := by decide +kernel
theorem dX3_meet_80 : decode cX3_meet 80 = .ok (.iaload, 1) := by decide +kernel
theorem dX3_meet_81 : decode cX3_meet 81 = .ok (.istore 6, 2) := by decide +kernel
theorem dX3_meet_83 : decode cX3_meet 83 = .ok (.iload 6, 2) := by decide +kernel
theorem dX3_meet_85 : decode cX3_meet 85 = .ok (.aload_n 0, 1) := by decide +kernel
theorem dX3_meet_86 : decode cX3_meet 86 = .ok (.getfield 25, 3) := by decide +kernel
theorem dX3_meet_89 : decode cX3_meet 89 = .ok (.iload 5, 2) := by decide +kernel
theorem dX3_meet_91 : decode cX3_meet 91 = .ok (.iaload, 1) := by decide +kernel
theorem dX3_meet_92 : decode cX3_meet 92 = .ok (.if_icmp .ne 23, 3) := by decide +kernel
theorem dX3_meet_95 : decode cX3_meet 95 = .ok (.aload_n 0, 1) := by decide +kernel
theorem dX3_meet_96 : decode cX3_meet 96 = .ok (.iload 4, 2) := by decide +kernel
theorem dX3_meet_98 : decode cX3_meet 98 = .ok (.putfield 134, 3) := by decide +kernel
theorem dX3_meet_101 : decode cX3_meet 101 = .ok (.aload_n 0, 1) := by decide +kernel
theorem dX3_meet_102 : decode cX3_meet 102 = .ok (.aload_n 0, 1) := by decide +kernel
theorem dX3_meet_103 : decode cX3_meet 103 = .ok (.getfield 32, 3) := by decide +kernel
theorem dX3_meet_106 : decode cX3_meet 106 = .ok (.getfield 60, 3) := by decide +kernel
theorem dX3_meet_109 : decode cX3_meet 109 = .ok (.iload 5, 2) := by decide +kernel
theorem dX3_meet_111 : decode cX3_meet 111 = .ok (.iadd, 1) := by decide +kernel
theorem dX3_meet_112 : decode cX3_meet 112 = .ok (.putfield 137, 3) := by decide +kernel
theorem dX3_meet_115 : decode cX3_meet 115 = .ok (.iinc 5 1, 3) := by decide +kernel
theorem dX3_meet_118 : decode cX3_meet 118 = .ok (.goto (-80), 3) := by decide +kernel
theorem dX3_meet_121 : decode cX3_meet 121 = .ok (.iinc 4 1, 3) := by decide +kernel
theorem dX3_meet_124 : decode cX3_meet 124 = .ok (.goto (-104), 3) := by decide +kernel
theorem dX3_meet_127 : decode cX3_meet 127 = .ok (.return_, 1) := by decide +kernel
theorem wp_X3_meet_0 {d : Nat} {s : ev_S} {Q : Option ev_V → ev_S → Prop} {a1 a2 : Int}
    (h : (Ev layX M_X3_walk d 0 [(0, ev_r 146), (1, ev_i a1), (2, ev_i a2)] [] s (ev_pi (fun r2 s1 => (∀ s3, ev_up s1 146 10 (-1) = s3 → (∀ s4, ev_up s3 146 11 (-1) = s4 → Ev layX M_X3_meet (d + 1) 20 [(0, ev_r 146), (1, ev_i a1), (3, ev_i r2), (4, ev_i 0)] [] s4 Q)))))) :
    Ev layX M_X3_meet (d + 1) 0 [(0, ev_r 146), (1, ev_i a1), (2, ev_i a2)] [] s Q := by
  refine Ev_aload_n 0 dX3_meet_0 rfl rfl ?_
  refine Ev_iload_n 1 dX3_meet_1 rfl rfl ?_
  refine Ev_iload_n 2 dX3_meet_2 rfl rfl ?_
  refine Ev_callV (As := [ev_i a1, ev_i a2]) (b := 146) (st := []) (M' := M_X3_walk) cm_X3_walk wd_1388 wd_1390 wd_67 yX_146 cl_X3 rfl dX3_meet_3 (Nat.le_refl _) rfl (Nat.le_of_ble_eq_true rfl) (Nat.le_of_ble_eq_true rfl) h (fun v u h hk => ?_)
  obtain ⟨r2, rfl⟩ := hk
  obtain ⟨s1, rfl⟩ : ∃ x, x = u := ⟨_, rfl⟩
  replace h := h r2 rfl
  refine Ev_istore_n (l' := [(3, ev_i r2), (0, ev_r 146), (1, ev_i a1), (2, ev_i a2)]) dX3_meet_6 rfl (Nat.le_of_ble_eq_true rfl) rfl ?_
  refine Ev_aload_n 1 dX3_meet_7 rfl rfl ?_
  refine Ev_iconst dX3_meet_8 rfl (ev_Rc rfl) ?_
  refine Ev_put (i := 10) (ty := .int) cl_X3 yX_146 (Nat.le_of_ble_eq_true rfl) rfl rfl (by decide +kernel) rfl rfl wd_583 dX3_meet_9 (Ev_nm (fun s3 es3 => ?_))
  replace h := h s3 es3
  refine Ev_aload_n 1 dX3_meet_12 rfl rfl ?_
  refine Ev_iconst dX3_meet_13 rfl (ev_Rc rfl) ?_
  refine Ev_put (i := 11) (ty := .int) cl_X3 yX_146 (Nat.le_of_ble_eq_true rfl) rfl rfl (by decide +kernel) rfl rfl wd_585 dX3_meet_14 (Ev_nm (fun s4 es4 => ?_))
  replace h := h s4 es4
  refine Ev_iconst dX3_meet_17 rfl (ev_Rc rfl) ?_
  refine Ev_istore (l' := [(4, ev_i 0), (3, ev_i r2), (0, ev_r 146), (1, ev_i a1), (2, ev_i a2)]) dX3_meet_18 (Nat.le_of_ble_eq_true rfl) rfl ?_
  exact Ev_sub [2, 3, 1, 0] rfl h
theorem wp_X3_meet_20 {d : Nat} {s : ev_S} {Q : Option ev_V → ev_S → Prop} {a1 a3 a4 : Int}
    (h : ((60 < a4 → Q none s) ∧ (a4 ≤ 60 → (((s 146 10) ≠ (-1) → Q none s) ∧ ((s 146 10) = (-1) → Ev layX M_X3_meet (d + 1) 38 [(0, ev_r 146), (1, ev_i a1), (3, ev_i a3), (4, ev_i a4), (5, ev_i 0)] [] s Q))))) :
    Ev layX M_X3_meet (d + 1) 20 [(0, ev_r 146), (1, ev_i a1), (3, ev_i a3), (4, ev_i a4)] [] s Q := by
  refine Ev_iload 3 dX3_meet_20 rfl ?_
  refine Ev_bipushC dX3_meet_22 rfl ?_
  refine Ev_icmp_gt (tgt := 127) dX3_meet_24 rfl (fun c => ?_) (fun c => ?_)
  · replace h := h.1 c
    exact Ev_vret rfl dX3_meet_127 h
  · replace h := h.2 c
    refine Ev_aload_n 0 dX3_meet_27 rfl rfl ?_
    refine Ev_get (i := 10) cl_X3 yX_146 (Nat.le_of_ble_eq_true rfl) rfl wd_583 dX3_meet_28 ?_
    refine Ev_iconst dX3_meet_31 rfl (ev_Rc rfl) ?_
    refine Ev_icmp_ne (tgt := 127) dX3_meet_32 rfl (fun c => ?_) (fun c => ?_)
    · replace h := h.1 c
      exact Ev_vret rfl dX3_meet_127 h
    · replace h := h.2 c
      refine Ev_iconst dX3_meet_35 rfl (ev_Rc rfl) ?_
      refine Ev_istore (l' := [(5, ev_i 0), (0, ev_r 146), (1, ev_i a1), (3, ev_i a3), (4, ev_i a4)]) dX3_meet_36 (Nat.le_of_ble_eq_true rfl) rfl ?_
      exact Ev_sub [1, 2, 3, 4, 0] rfl h
theorem wp_X3_meet_38 {d : Nat} {s : ev_S} {Q : Option ev_V → ev_S → Prop} {a1 a3 a4 a5 : Int}
    (h : ((a3 ≤ a5 → Ev layX M_X3_meet (d + 1) 20 [(0, ev_r 146), (1, ev_i a1), (3, ev_i a3), (4, ev_i (ev_add a4 1))] [] s Q) ∧ (a5 < a3 → (((s 146 10) ≠ (-1) → Ev layX M_X3_meet (d + 1) 20 [(0, ev_r 146), (1, ev_i a1), (3, ev_i a3), (4, ev_i (ev_add a4 1))] [] s Q) ∧ ((s 146 10) = (-1) → ((a4 ≤ a5 → ((0 ≤ (ev_sub a5 a4) ∧ (ev_sub a5 a4) < (600 : Nat)) ∧ Ev layX M_X3_meet (d + 1) 81 [(0, ev_r 146), (1, ev_i a1), (3, ev_i a3), (4, ev_i a4), (5, ev_i a5)] [ev_i (s 160 (Int.toNat (ev_sub a5 a4)))] s Q)) ∧ (a5 < a4 → ((0 ≤ a1 ∧ a1 < (8 : Nat)) ∧ Ev layX M_X3_meet (d + 1) 81 [(0, ev_r 146), (1, ev_i a1), (3, ev_i a3), (4, ev_i a4), (5, ev_i a5)] [ev_i (s 16 (Int.toNat a1))] s Q)))))))) :
    Ev layX M_X3_meet (d + 1) 38 [(0, ev_r 146), (1, ev_i a1), (3, ev_i a3), (4, ev_i a4), (5, ev_i a5)] [] s Q := by
  refine Ev_iload 4 dX3_meet_38 rfl ?_
  refine Ev_iload_n 2 dX3_meet_40 rfl rfl ?_
  refine Ev_icmp_ge (tgt := 121) dX3_meet_41 rfl (fun c => ?_) (fun c => ?_)
  · replace h := h.1 c
    refine Ev_iinc (j := 3) (l' := [(4, ev_i (ev_add a4 1)), (0, ev_r 146), (1, ev_i a1), (3, ev_i a3), (5, ev_i a5)]) dX3_meet_121 rfl (Nat.le_of_ble_eq_true rfl) rfl ?_
    refine Ev_goto (tgt := 20) dX3_meet_124 rfl ?_
    exact Ev_sub [1, 2, 3, 0] rfl h
  · replace h := h.2 c
    refine Ev_aload_n 0 dX3_meet_44 rfl rfl ?_
    refine Ev_get (i := 10) cl_X3 yX_146 (Nat.le_of_ble_eq_true rfl) rfl wd_583 dX3_meet_45 ?_
    refine Ev_iconst dX3_meet_48 rfl (ev_Rc rfl) ?_
    refine Ev_icmp_ne (tgt := 121) dX3_meet_49 rfl (fun c => ?_) (fun c => ?_)
    · replace h := h.1 c
      refine Ev_iinc (j := 3) (l' := [(4, ev_i (ev_add a4 1)), (0, ev_r 146), (1, ev_i a1), (3, ev_i a3), (5, ev_i a5)]) dX3_meet_121 rfl (Nat.le_of_ble_eq_true rfl) rfl ?_
      refine Ev_goto (tgt := 20) dX3_meet_124 rfl ?_
      exact Ev_sub [1, 2, 3, 0] rfl h
    · replace h := h.2 c
      refine Ev_iload 4 dX3_meet_52 rfl ?_
      refine Ev_iload 3 dX3_meet_54 rfl ?_
      refine Ev_icmp_ge (tgt := 71) dX3_meet_56 rfl (fun c => ?_) (fun c => ?_)
      · replace h := h.1 c
        refine Ev_aload_n 0 dX3_meet_71 rfl rfl ?_
        refine Ev_getR (i := 5) cl_X3 yX_146 (Nat.le_of_ble_eq_true rfl) rfl wd_575 dX3_meet_72 ?_
        refine Ev_iload 4 dX3_meet_75 rfl ?_
        refine Ev_iload 3 dX3_meet_77 rfl ?_
        refine Ev_isub dX3_meet_79 ?_
        obtain ⟨h0, h⟩ := h
        refine Ev_iald yX_160 h0 dX3_meet_80 ?_
        exact Ev_sub [0, 1, 2, 3, 4] rfl h
      · replace h := h.2 c
        refine Ev_aload_n 0 dX3_meet_59 rfl rfl ?_
        refine Ev_getR (i := 1) cl_X3 yX_146 (Nat.le_of_ble_eq_true rfl) rfl wd_571 dX3_meet_60 ?_
        refine Ev_getR (i := 2) cl_X2 yX_15 (Nat.le_of_ble_eq_true rfl) rfl wd_347 dX3_meet_63 ?_
        refine Ev_iload_n 1 dX3_meet_66 rfl rfl ?_
        obtain ⟨h0, h⟩ := h
        refine Ev_iald yX_16 h0 dX3_meet_67 ?_
        refine Ev_goto (tgt := 81) dX3_meet_68 rfl ?_
        exact Ev_sub [0, 1, 2, 3, 4] rfl h
theorem wp_X3_meet_81 {d : Nat} {s : ev_S} {Q : Option ev_V → ev_S → Prop} {a1 a3 a4 a5 t0 : Int}
    (h : ((0 ≤ a5 ∧ a5 < (600 : Nat)) ∧ ((t0 ≠ (s 161 (Int.toNat a5)) → Ev layX M_X3_meet (d + 1) 38 [(0, ev_r 146), (1, ev_i a1), (3, ev_i a3), (4, ev_i a4), (5, ev_i (ev_add a5 1))] [] s Q) ∧ (t0 = (s 161 (Int.toNat a5)) → (∀ s1, ev_up s 146 10 a4 = s1 → (∀ s2, ev_up s1 146 11 (ev_add (s1 15 0) a5) = s2 → Ev layX M_X3_meet (d + 1) 38 [(0, ev_r 146), (1, ev_i a1), (3, ev_i a3), (4, ev_i a4), (5, ev_i (ev_add a5 1))] [] s2 Q)))))) :
    Ev layX M_X3_meet (d + 1) 81 [(0, ev_r 146), (1, ev_i a1), (3, ev_i a3), (4, ev_i a4), (5, ev_i a5)] [ev_i t0] s Q := by
  refine Ev_istore (l' := [(6, ev_i t0), (0, ev_r 146), (1, ev_i a1), (3, ev_i a3), (4, ev_i a4), (5, ev_i a5)]) dX3_meet_81 (Nat.le_of_ble_eq_true rfl) rfl ?_
  refine Ev_iload 0 dX3_meet_83 rfl ?_
  refine Ev_aload_n 1 dX3_meet_85 rfl rfl ?_
  refine Ev_getR (i := 6) cl_X3 yX_146 (Nat.le_of_ble_eq_true rfl) rfl wd_576 dX3_meet_86 ?_
  refine Ev_iload 5 dX3_meet_89 rfl ?_
  obtain ⟨h0, h⟩ := h
  refine Ev_iald yX_161 h0 dX3_meet_91 ?_
  refine Ev_icmp_ne (tgt := 115) dX3_meet_92 rfl (fun c => ?_) (fun c => ?_)
  · replace h := h.1 c
    refine Ev_iinc (j := 5) (l' := [(5, ev_i (ev_add a5 1)), (6, ev_i t0), (0, ev_r 146), (1, ev_i a1), (3, ev_i a3), (4, ev_i a4)]) dX3_meet_115 rfl (Nat.le_of_ble_eq_true rfl) rfl ?_
    refine Ev_goto (tgt := 38) dX3_meet_118 rfl ?_
    exact Ev_sub [2, 3, 4, 5, 0] rfl h
  · replace h := h.2 c
    refine Ev_aload_n 1 dX3_meet_95 rfl rfl ?_
    refine Ev_iload 4 dX3_meet_96 rfl ?_
    refine Ev_put (i := 10) (ty := .int) cl_X3 yX_146 (Nat.le_of_ble_eq_true rfl) rfl rfl (by decide +kernel) rfl rfl wd_583 dX3_meet_98 (Ev_nm (fun s1 es1 => ?_))
    replace h := h s1 es1
    refine Ev_aload_n 1 dX3_meet_101 rfl rfl ?_
    refine Ev_aload_n 1 dX3_meet_102 rfl rfl ?_
    refine Ev_getR (i := 1) cl_X3 yX_146 (Nat.le_of_ble_eq_true rfl) rfl wd_571 dX3_meet_103 ?_
    refine Ev_get (i := 0) cl_X2 yX_15 (Nat.le_of_ble_eq_true rfl) rfl wd_339 dX3_meet_106 ?_
    refine Ev_iload 5 dX3_meet_109 rfl ?_
    refine Ev_iadd dX3_meet_111 ?_
    refine Ev_put (i := 11) (ty := .int) cl_X3 yX_146 (Nat.le_of_ble_eq_true rfl) rfl rfl (by decide +kernel) rfl rfl wd_585 dX3_meet_112 (Ev_nm (fun s2 es2 => ?_))
    replace h := h s2 es2
    refine Ev_iinc (j := 5) (l' := [(5, ev_i (ev_add a5 1)), (6, ev_i t0), (0, ev_r 146), (1, ev_i a1), (3, ev_i a3), (4, ev_i a4)]) dX3_meet_115 rfl (Nat.le_of_ble_eq_true rfl) rfl ?_
    refine Ev_goto (tgt := 38) dX3_meet_118 rfl ?_
    exact Ev_sub [2, 3, 4, 5, 0] rfl h
theorem dX3_walk_0 : decode cX3_walk 0 = .ok (.aload_n 0, 1) := by decide +kernel
theorem dX3_walk_1 : decode cX3_walk 1 = .ok (.getfield 12, 3) := by decide +kernel
theorem dX3_walk_4 : decode cX3_walk 4 = .ok (.aload_n 0, 1) := by decide +kernel
theorem dX3_walk_5 : decode cX3_walk 5 = .ok (.getfield 32, 3) := by decide +kernel
theorem dX3_walk_8 : decode cX3_walk 8 = .ok (.invokevirtual 52, 3) := by decide +kernel
theorem dX3_walk_11 : decode cX3_walk 11 = .ok (.sipush 600, 3) := by decide +kernel
theorem dX3_walk_14 : decode cX3_walk 14 = .ok (.aload_n 0, 1) := by decide +kernel
theorem dX3_walk_15 : decode cX3_walk 15 = .ok (.getfield 32, 3) := by decide +kernel
theorem dX3_walk_18 : decode cX3_walk 18 = .ok (.getfield 60, 3) := by decide +kernel
theorem dX3_walk_21 : decode cX3_walk 21 = .ok (.isub, 1) := by decide +kernel
theorem dX3_walk_22 : decode cX3_walk 22 = .ok (.sipush 600, 3) := by decide +kernel
theorem dX3_walk_25 : decode cX3_walk 25 = .ok (.invokestatic 143, 3) := by decide +kernel
theorem dX3_walk_28 : decode cX3_walk 28 = .ok (.istore_n 3, 1) := by decide +kernel
theorem dX3_walk_29 : decode cX3_walk 29 = .ok (.iconst 0, 1) := by decide +kernel
theorem dX3_walk_30 : decode cX3_walk 30 = .ok (.istore 4, 2) := by decide +kernel
theorem dX3_walk_32 : decode cX3_walk 32 = .ok (.iload 4, 2) := by decide +kernel
theorem dX3_walk_34 : decode cX3_walk 34 = .ok (.iload_n 3, 1) := by decide +kernel
theorem dX3_walk_35 : decode cX3_walk 35 = .ok (.if_icmp .ge 52, 3) := by decide +kernel
theorem dX3_walk_38 : decode cX3_walk 38 = .ok (.aload_n 0, 1) := by decide +kernel
theorem dX3_walk_39 : decode cX3_walk 39 = .ok (.getfield 35, 3) := by decide +kernel
theorem dX3_walk_42 : decode cX3_walk 42 = .ok (.aload_n 0, 1) := by decide +kernel
theorem dX3_walk_43 : decode cX3_walk 43 = .ok (.getfield 12, 3) := by decide +kernel
theorem dX3_walk_46 : decode cX3_walk 46 = .ok (.invokevirtual 64, 3) := by decide +kernel
theorem dX3_walk_49 : decode cX3_walk 49 = .ok (.aload_n 0, 1) := by decide +kernel
theorem dX3_walk_50 : decode cX3_walk 50 = .ok (.getfield 22, 3) := by decide +kernel
theorem dX3_walk_53 : decode cX3_walk 53 = .ok (.iload 4, 2) := by decide +kernel
theorem dX3_walk_55 : decode cX3_walk 55 = .ok (.aload_n 0, 1) := by decide +kernel
theorem dX3_walk_56 : decode cX3_walk 56 = .ok (.getfield 12, 3) := by decide +kernel
theorem dX3_walk_59 : decode cX3_walk 59 = .ok (.getfield 140, 3) := by decide +kernel
theorem dX3_walk_62 : decode cX3_walk 62 = .ok (.iload_n 1, 1) := by decide +kernel
theorem dX3_walk_63 : decode cX3_walk 63 = .ok (.iaload, 1) := by decide +kernel
theorem dX3_walk_64 : decode cX3_walk 64 = .ok (.iastore, 1) := by decide +kernel
theorem dX3_walk_65 : decode cX3_walk 65 = .ok (.aload_n 0, 1) := by decide +kernel
theorem dX3_walk_66 : decode cX3_walk 66 = .ok (.getfield 25, 3) := by decide +kernel
theorem dX3_walk_69 : decode cX3_walk 69 = .ok (.iload 4, 2) := by decide +kernel
theorem dX3_walk_71 : decode cX3_walk 71 = .ok (.aload_n 0, 1) := by decide +kernel
theorem dX3_walk_72 : decode cX3_walk 72 = .ok (.getfield 12, 3) := by decide +kernel
theorem dX3_walk_75 : decode cX3_walk 75 = .ok (.getfield 140, 3) := by decide +kernel
theorem dX3_walk_78 : decode cX3_walk 78 = .ok (.iload_n 2, 1) := by decide +kernel
theorem dX3_walk_79 : decode cX3_walk 79 = .ok (.iaload, 1) := by decide +kernel
theorem dX3_walk_80 : decode cX3_walk 80 = .ok (.iastore, 1) := by decide +kernel
theorem dX3_walk_81 : decode cX3_walk 81 = .ok (.iinc 4 1, 3) := by decide +kernel
theorem dX3_walk_84 : decode cX3_walk 84 = .ok (.goto (-52), 3) := by decide +kernel
theorem dX3_walk_87 : decode cX3_walk 87 = .ok (.iload_n 3, 1) := by decide +kernel
theorem dX3_walk_88 : decode cX3_walk 88 = .ok (.ireturn, 1) := by decide +kernel
theorem wp_X3_walk_0 {d : Nat} {s : ev_S} {Q : Option ev_V → ev_S → Prop} {a1 a2 : Int}
    (h : (Ev layX M_X2_copyFrom d 0 [(0, ev_r 147), (1, ev_r 15)] [] s (fun _ s1 => Ev layX M_X3_walk (d + 1) 32 [(0, ev_r 146), (1, ev_i a1), (2, ev_i a2), (3, ev_i (min (ev_sub 600 (s1 15 0)) 600)), (4, ev_i 0)] [] s1 Q))) :
    Ev layX M_X3_walk (d + 1) 0 [(0, ev_r 146), (1, ev_i a1), (2, ev_i a2)] [] s Q := by
  refine Ev_aload_n 0 dX3_walk_0 rfl rfl ?_
  refine Ev_getR (i := 3) cl_X3 yX_146 (Nat.le_of_ble_eq_true rfl) rfl wd_573 dX3_walk_1 ?_
  refine Ev_aload_n 0 dX3_walk_4 rfl rfl ?_
  refine Ev_getR (i := 1) cl_X3 yX_146 (Nat.le_of_ble_eq_true rfl) rfl wd_571 dX3_walk_5 ?_
  refine Ev_callV (As := [ev_r 15]) (b := 147) (st := []) (M' := M_X2_copyFrom) cm_X2_copyFrom wd_1165 wd_1059 wd_1060 yX_147 cl_X2 rfl dX3_walk_8 (Nat.le_refl _) rfl (Nat.le_of_ble_eq_true rfl) (Nat.le_of_ble_eq_true rfl) h (fun v u h hk => ?_)
  cases hk
  obtain ⟨s1, rfl⟩ : ∃ x, x = u := ⟨_, rfl⟩
  refine Ev_sipushC dX3_walk_11 rfl ?_
  refine Ev_aload_n 0 dX3_walk_14 rfl rfl ?_
  refine Ev_getR (i := 1) cl_X3 yX_146 (Nat.le_of_ble_eq_true rfl) rfl wd_571 dX3_walk_15 ?_
  refine Ev_get (i := 0) cl_X2 yX_15 (Nat.le_of_ble_eq_true rfl) rfl wd_339 dX3_walk_18 ?_
  refine Ev_isub dX3_walk_21 ?_
  refine Ev_sipushC dX3_walk_22 rfl ?_
  refine Ev_mmin wd_1392 dX3_walk_25 (Nat.le_of_ble_eq_true rfl) ?_
  refine Ev_istore_n (l' := [(3, ev_i (min (ev_sub 600 (s1 15 0)) 600)), (0, ev_r 146), (1, ev_i a1), (2, ev_i a2)]) dX3_walk_28 rfl (Nat.le_of_ble_eq_true rfl) rfl ?_
  refine Ev_iconst dX3_walk_29 rfl (ev_Rc rfl) ?_
  refine Ev_istore (l' := [(4, ev_i 0), (3, ev_i (min (ev_sub 600 (s1 15 0)) 600)), (0, ev_r 146), (1, ev_i a1), (2, ev_i a2)]) dX3_walk_30 (Nat.le_of_ble_eq_true rfl) rfl ?_
  exact Ev_sub [2, 3, 4, 1, 0] rfl h
theorem wp_X3_walk_32 {d : Nat} {s : ev_S} {Q : Option ev_V → ev_S → Prop} {a1 a2 a3 a4 : Int}
    (h : ((a3 ≤ a4 → Q (some (ev_i a3)) s) ∧ (a4 < a3 → (Ev layX M_X7_moveWards d 0 [(0, ev_r 144), (1, ev_r 147)] [] s (fun _ s1 => ((0 ≤ a1 ∧ a1 < (8 : Nat)) ∧ ((0 ≤ a4 ∧ a4 < (600 : Nat)) ∧ ∀ s2, ev_up s1 160 (Int.toNat a4) (s1 148 (Int.toNat a1)) = s2 → ((0 ≤ a2 ∧ a2 < (8 : Nat)) ∧ ((0 ≤ a4 ∧ a4 < (600 : Nat)) ∧ ∀ s3, ev_up s2 161 (Int.toNat a4) (s2 148 (Int.toNat a2)) = s3 → Ev layX M_X3_walk (d + 1) 32 [(0, ev_r 146), (1, ev_i a1), (2, ev_i a2), (3, ev_i a3), (4, ev_i (ev_add a4 1))] [] s3 Q))))))))) :
    Ev layX M_X3_walk (d + 1) 32 [(0, ev_r 146), (1, ev_i a1), (2, ev_i a2), (3, ev_i a3), (4, ev_i a4)] [] s Q := by
  refine Ev_iload 4 dX3_walk_32 rfl ?_
  refine Ev_iload_n 3 dX3_walk_34 rfl rfl ?_
  refine Ev_icmp_ge (tgt := 87) dX3_walk_35 rfl (fun c => ?_) (fun c => ?_)
  · replace h := h.1 c
    refine Ev_iload_n 3 dX3_walk_87 rfl rfl ?_
    exact Ev_iret rfl dX3_walk_88 rfl h
  · replace h := h.2 c
    refine Ev_aload_n 0 dX3_walk_38 rfl rfl ?_
    refine Ev_getR (i := 2) cl_X3 yX_146 (Nat.le_of_ble_eq_true rfl) rfl wd_572 dX3_walk_39 ?_
    refine Ev_aload_n 0 dX3_walk_42 rfl rfl ?_
    refine Ev_getR (i := 3) cl_X3 yX_146 (Nat.le_of_ble_eq_true rfl) rfl wd_573 dX3_walk_43 ?_
    refine Ev_callV (As := [ev_r 147]) (b := 144) (st := []) (M' := M_X7_moveWards) cm_X7_moveWards wd_1171 wd_1112 wd_1113 yX_144 cl_X7 rfl dX3_walk_46 (Nat.le_refl _) rfl (Nat.le_of_ble_eq_true rfl) (Nat.le_of_ble_eq_true rfl) h (fun v u h hk => ?_)
    cases hk
    obtain ⟨s1, rfl⟩ : ∃ x, x = u := ⟨_, rfl⟩
    refine Ev_aload_n 0 dX3_walk_49 rfl rfl ?_
    refine Ev_getR (i := 5) cl_X3 yX_146 (Nat.le_of_ble_eq_true rfl) rfl wd_575 dX3_walk_50 ?_
    refine Ev_iload 4 dX3_walk_53 rfl ?_
    refine Ev_aload_n 0 dX3_walk_55 rfl rfl ?_
    refine Ev_getR (i := 3) cl_X3 yX_146 (Nat.le_of_ble_eq_true rfl) rfl wd_573 dX3_walk_56 ?_
    refine Ev_getR (i := 2) cl_X2 yX_147 (Nat.le_of_ble_eq_true rfl) rfl wd_347 dX3_walk_59 ?_
    refine Ev_iload_n 1 dX3_walk_62 rfl rfl ?_
    obtain ⟨h0, h⟩ := h
    refine Ev_iald yX_148 h0 dX3_walk_63 ?_
    obtain ⟨h0, h⟩ := h
    refine Ev_iast yX_160 h0 dX3_walk_64 (Ev_nm (fun s2 es2 => ?_))
    replace h := h s2 es2
    refine Ev_aload_n 0 dX3_walk_65 rfl rfl ?_
    refine Ev_getR (i := 6) cl_X3 yX_146 (Nat.le_of_ble_eq_true rfl) rfl wd_576 dX3_walk_66 ?_
    refine Ev_iload 4 dX3_walk_69 rfl ?_
    refine Ev_aload_n 0 dX3_walk_71 rfl rfl ?_
    refine Ev_getR (i := 3) cl_X3 yX_146 (Nat.le_of_ble_eq_true rfl) rfl wd_573 dX3_walk_72 ?_
    refine Ev_getR (i := 2) cl_X2 yX_147 (Nat.le_of_ble_eq_true rfl) rfl wd_347 dX3_walk_75 ?_
    refine Ev_iload_n 2 dX3_walk_78 rfl rfl ?_
    obtain ⟨h0, h⟩ := h
    refine Ev_iald yX_148 h0 dX3_walk_79 ?_
    obtain ⟨h0, h⟩ := h
    refine Ev_iast yX_161 h0 dX3_walk_80 (Ev_nm (fun s3 es3 => ?_))
    replace h := h s3 es3
    refine Ev_iinc (j := 4) (l' := [(4, ev_i (ev_add a4 1)), (0, ev_r 146), (1, ev_i a1), (2, ev_i a2), (3, ev_i a3)]) dX3_walk_81 rfl (Nat.le_of_ble_eq_true rfl) rfl ?_
    refine Ev_goto (tgt := 32) dX3_walk_84 rfl ?_
    exact Ev_sub [1, 2, 3, 4, 0] rfl h
