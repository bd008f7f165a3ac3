theorem dX12_canText_0 : decode cX12_canText 0 = .ok (.iload_n 1, 1) := by decide +kernel
theorem dX12_canText_1 : decode cX12_canText 1 = .ok (.ifCond .ne 9, 3) := by decide +kernel
theorem dX12_canText_4 : decode cX12_canText 4 = .ok (.aload_n 0, 1) := by decide +kernel
theorem dX12_canText_5 : decode cX12_canText 5 = .ok (.iload_n 2, 1) := by decide +kernel
theorem dX12_canText_6 : decode cX12_canText 6 = .ok (.invokevirtual 318, 3) := by decide +kernel
theorem dX12_canText_9 : decode cX12_canText 9 = .ok (.ireturn, 1) := by decide +kernel
theorem dX12_canText_10 : decode cX12_canText 10 = .ok (.iload_n 1, 1) := by decide +kernel
theorem dX12_canText_11 : decode cX12_canText 11 = .ok (.iconst 2, 1) := by decide +kernel
theorem dX12_canText_12 : decode cX12_canText 12 = .ok (.if_icmp .ne 11, 3) := by decide +kernel
theorem dX12_canText_15 : decode cX12_canText 15 = .ok (.aload_n 0, 1) := by decide +kernel
theorem dX12_canText_16 : decode cX12_canText 16 = .ok (.iload_n 2, 1) := by decide +kernel
theorem dX12_canText_17 : decode cX12_canText 17 = .ok (.invokevirtual 171, 3) := by decide +kernel
theorem dX12_canText_20 : decode cX12_canText 20 = .ok (.goto 18, 3) := by decide +kernel
theorem dX12_canText_23 : decode cX12_canText 23 = .ok (.iload_n 1, 1) := by decide +kernel
theorem dX12_canText_24 : decode cX12_canText 24 = .ok (.iconst 1, 1) := by decide +kernel
theorem dX12_canText_25 : decode cX12_canText 25 = .ok (.if_icmp .eq 8, 3) := by decide +kernel
theorem dX12_canText_28 : decode cX12_canText 28 = .ok (.iload_n 1, 1) := by decide +kernel
theorem dX12_canText_29 : decode cX12_canText 29 = .ok (.iconst 3, 1) := by decide +kernel
theorem dX12_canText_30 : decode cX12_canText 30 = .ok (.if_icmp .ne 7, 3) := by decide +kernel
theorem dX12_canText_33 : decode cX12_canText 33 = .ok (.iconst 1, 1) := by decide +kernel
theorem dX12_canText_34 : decode cX12_canText 34 = .ok (.goto 4, 3) := by decide +kernel
theorem dX12_canText_37 : decode cX12_canText 37 = .ok (.iconst 0, 1) := by decide +kernel
theorem dX12_canText_38 : decode cX12_canText 38 = .ok (.ireturn, 1) := by decide +kernel
theorem wp_X12_canText_0 {d : Nat} {s : ev_S} {Q : Option ev_V → ev_S → Prop} {a1 a2 : Int}
    (h : ((a1 ≠ 0 → ((a1 ≠ 2 → ((a1 = 1 → Q (some (ev_i 1)) s) ∧ (a1 ≠ 1 → ((a1 ≠ 3 → Q (some (ev_i 0)) s) ∧ (a1 = 3 → Q (some (ev_i 1)) s))))) ∧ (a1 = 2 → (Ev layM M_X12_isAngel d 0 [(0, ev_r 0), (1, ev_i a2)] [] s (ev_pi (fun r2 s1 => ((r2 = 0 ∨ r2 = 1) ∧ Q (some (ev_i r2)) s1))))))) ∧ (a1 = 0 → (Ev layM M_X12_isWard d 0 [(0, ev_r 0), (1, ev_i a2)] [] s (ev_pi (fun r4 s3 => ((r4 = 0 ∨ r4 = 1) ∧ Q (some (ev_i r4)) s3))))))) :
    Ev layM M_X12_canText (d + 1) 0 [(0, ev_r 0), (1, ev_i a1), (2, ev_i a2)] [] s Q := by
  refine Ev_iload_n 1 dX12_canText_0 rfl rfl ?_
  refine Ev_if_ne (tgt := 10) dX12_canText_1 rfl (fun c => ?_) (fun c => ?_)
  · replace h := h.1 c
    refine Ev_iload_n 1 dX12_canText_10 rfl rfl ?_
    refine Ev_iconst dX12_canText_11 rfl (ev_Rc rfl) ?_
    refine Ev_icmp_ne (tgt := 23) dX12_canText_12 rfl (fun c => ?_) (fun c => ?_)
    · replace h := h.1 c
      refine Ev_iload_n 1 dX12_canText_23 rfl rfl ?_
      refine Ev_iconst dX12_canText_24 rfl (ev_Rc rfl) ?_
      refine Ev_icmp_eq (tgt := 33) dX12_canText_25 rfl (fun c => ?_) (fun c => ?_)
      · replace h := h.1 c
        refine Ev_iconst dX12_canText_33 rfl (ev_Rc rfl) ?_
        refine Ev_goto (tgt := 38) dX12_canText_34 rfl ?_
        exact Ev_iret rfl dX12_canText_38 (ev_nb (by decide)) h
      · replace h := h.2 c
        refine Ev_iload_n 1 dX12_canText_28 rfl rfl ?_
        refine Ev_iconst dX12_canText_29 rfl (ev_Rc rfl) ?_
        refine Ev_icmp_ne (tgt := 37) dX12_canText_30 rfl (fun c => ?_) (fun c => ?_)
        · replace h := h.1 c
          refine Ev_iconst dX12_canText_37 rfl (ev_Rc rfl) ?_
          exact Ev_iret rfl dX12_canText_38 (ev_nb (by decide)) h
        · replace h := h.2 c
          refine Ev_iconst dX12_canText_33 rfl (ev_Rc rfl) ?_
          refine Ev_goto (tgt := 38) dX12_canText_34 rfl ?_
          exact Ev_iret rfl dX12_canText_38 (ev_nb (by decide)) h
    · replace h := h.2 c
      refine Ev_aload_n 0 dX12_canText_15 rfl rfl ?_
      refine Ev_iload_n 2 dX12_canText_16 rfl rfl ?_
      refine Ev_callV (As := [ev_i a2]) (b := 0) (st := []) (M' := M_X12_isAngel) cm_X12_isAngel wd_1658 wd_1660 wd_71 yM_0 cl_X12 rfl dX12_canText_17 (Nat.le_refl _) rfl (Nat.le_of_ble_eq_true rfl) (Nat.le_of_ble_eq_true rfl) h (fun v u h hk => ?_)
      obtain ⟨r2, rfl⟩ := hk
      obtain ⟨s1, rfl⟩ : ∃ x, x = u := ⟨_, rfl⟩
      replace h := h r2 rfl
      refine Ev_goto (tgt := 38) dX12_canText_20 rfl ?_
      exact Ev_iret rfl dX12_canText_38 (ev_nb h.1) h.2
  · replace h := h.2 c
    refine Ev_aload_n 0 dX12_canText_4 rfl rfl ?_
    refine Ev_iload_n 2 dX12_canText_5 rfl rfl ?_
    refine Ev_callV (As := [ev_i a2]) (b := 0) (st := []) (M' := M_X12_isWard) cm_X12_isWard wd_1698 wd_1700 wd_75 yM_0 cl_X12 rfl dX12_canText_6 (Nat.le_refl _) rfl (Nat.le_of_ble_eq_true rfl) (Nat.le_of_ble_eq_true rfl) h (fun v u h hk => ?_)
    obtain ⟨r4, rfl⟩ := hk
    obtain ⟨s3, rfl⟩ : ∃ x, x = u := ⟨_, rfl⟩
    replace h := h r4 rfl
    exact Ev_iret rfl dX12_canText_9 (ev_nb h.1) h.2
theorem dX12_readsText_0 : decode cX12_readsText 0 = .ok (.aload_n 0, 1) := by decide +kernel
theorem dX12_readsText_1 : decode cX12_readsText 1 = .ok (.invokevirtual 229, 3) := by decide +kernel
theorem dX12_readsText_4 : decode cX12_readsText 4 = .ok (.iload_n 1, 1) := by decide +kernel
theorem dX12_readsText_5 : decode cX12_readsText 5 = .ok (.ifCond .ne 8, 3) := by decide +kernel
theorem dX12_readsText_8 : decode cX12_readsText 8 = .ok (.aload_n 0, 1) := by decide +kernel
theorem dX12_readsText_9 : decode cX12_readsText 9 = .ok (.invokevirtual 321, 3) := by decide +kernel
theorem dX12_readsText_12 : decode cX12_readsText 12 = .ok (.ireturn, 1) := by decide +kernel
theorem dX12_readsText_13 : decode cX12_readsText 13 = .ok (.iload_n 1, 1) := by decide +kernel
theorem dX12_readsText_14 : decode cX12_readsText 14 = .ok (.iconst 1, 1) := by decide +kernel
theorem dX12_readsText_15 : decode cX12_readsText 15 = .ok (.if_icmp .ne 8, 3) := by decide +kernel
theorem dX12_readsText_18 : decode cX12_readsText 18 = .ok (.aload_n 0, 1) := by decide +kernel
theorem dX12_readsText_19 : decode cX12_readsText 19 = .ok (.invokevirtual 324, 3) := by decide +kernel
theorem dX12_readsText_22 : decode cX12_readsText 22 = .ok (.ireturn, 1) := by decide +kernel
theorem dX12_readsText_23 : decode cX12_readsText 23 = .ok (.iload_n 1, 1) := by decide +kernel
theorem dX12_readsText_24 : decode cX12_readsText 24 = .ok (.iconst 2, 1) := by decide +kernel
theorem dX12_readsText_25 : decode cX12_readsText 25 = .ok (.if_icmp .ne 10, 3) := by decide +kernel
theorem dX12_readsText_28 : decode cX12_readsText 28 = .ok (.aload_n 0, 1) := by decide +kernel
theorem dX12_readsText_29 : decode cX12_readsText 29 = .ok (.invokevirtual 327, 3) := by decide +kernel
theorem dX12_readsText_32 : decode cX12_readsText 32 = .ok (.goto 7, 3) := by decide +kernel
theorem dX12_readsText_35 : decode cX12_readsText 35 = .ok (.aload_n 0, 1) := by decide +kernel
theorem dX12_readsText_36 : decode cX12_readsText 36 = .ok (.invokevirtual 330, 3) := by decide +kernel
theorem dX12_readsText_39 : decode cX12_readsText 39 = .ok (.ireturn, 1) := by decide +kernel
theorem wp_X12_readsText_0 {d : Nat} {s : ev_S} {Q : Option ev_V → ev_S → Prop} {a1 : Int}
    (h : (Ev layM M_X12_reads d 0 [(0, ev_r 0)] [] s (fun _ s1 => ((a1 ≠ 0 → ((a1 ≠ 1 → ((a1 ≠ 2 → (Ev layM M_X12_readText d 0 [(0, ev_r 0)] [] s1 (ev_pi (fun r3 s2 => Q (some (ev_i r3)) s2)))) ∧ (a1 = 2 → (Ev layM M_X12_readPlan d 0 [(0, ev_r 0)] [] s1 (ev_pi (fun r5 s4 => Q (some (ev_i r5)) s4)))))) ∧ (a1 = 1 → (Ev layM M_X12_readMishaps d 0 [(0, ev_r 0)] [] s1 (ev_pi (fun r7 s6 => Q (some (ev_i r7)) s6)))))) ∧ (a1 = 0 → (Ev layM M_X12_readWay d 0 [(0, ev_r 0)] [] s1 (ev_pi (fun r9 s8 => Q (some (ev_i r9)) s8)))))))) :
    Ev layM M_X12_readsText (d + 1) 0 [(0, ev_r 0), (1, ev_i a1)] [] s Q := by
  refine Ev_aload_n 0 dX12_readsText_0 rfl rfl ?_
  refine Ev_callV (As := []) (b := 0) (st := []) (M' := M_X12_reads) cm_X12_reads wd_1706 wd_1708 wd_77 yM_0 cl_X12 rfl dX12_readsText_1 (Nat.le_refl _) rfl (Nat.le_of_ble_eq_true rfl) (Nat.le_of_ble_eq_true rfl) h (fun v u h hk => ?_)
  cases hk
  obtain ⟨s1, rfl⟩ : ∃ x, x = u := ⟨_, rfl⟩
  refine Ev_iload_n 1 dX12_readsText_4 rfl rfl ?_
  refine Ev_if_ne (tgt := 13) dX12_readsText_5 rfl (fun c => ?_) (fun c => ?_)
  · replace h := h.1 c
    refine Ev_iload_n 1 dX12_readsText_13 rfl rfl ?_
    refine Ev_iconst dX12_readsText_14 rfl (ev_Rc rfl) ?_
    refine Ev_icmp_ne (tgt := 23) dX12_readsText_15 rfl (fun c => ?_) (fun c => ?_)
    · replace h := h.1 c
      refine Ev_iload_n 1 dX12_readsText_23 rfl rfl ?_
      refine Ev_iconst dX12_readsText_24 rfl (ev_Rc rfl) ?_
      refine Ev_icmp_ne (tgt := 35) dX12_readsText_25 rfl (fun c => ?_) (fun c => ?_)
      · replace h := h.1 c
        refine Ev_aload_n 0 dX12_readsText_35 rfl rfl ?_
        refine Ev_callV (As := []) (b := 0) (st := []) (M' := M_X12_readText) cm_X12_readText wd_1818 wd_1820 wd_105 yM_0 cl_X12 rfl dX12_readsText_36 (Nat.le_refl _) rfl (Nat.le_of_ble_eq_true rfl) (Nat.le_of_ble_eq_true rfl) h (fun v u h hk => ?_)
        obtain ⟨r3, rfl⟩ := hk
        obtain ⟨s2, rfl⟩ : ∃ x, x = u := ⟨_, rfl⟩
        replace h := h r3 rfl
        exact Ev_iret rfl dX12_readsText_39 rfl h
      · replace h := h.2 c
        refine Ev_aload_n 0 dX12_readsText_28 rfl rfl ?_
        refine Ev_callV (As := []) (b := 0) (st := []) (M' := M_X12_readPlan) cm_X12_readPlan wd_1806 wd_1808 wd_102 yM_0 cl_X12 rfl dX12_readsText_29 (Nat.le_refl _) rfl (Nat.le_of_ble_eq_true rfl) (Nat.le_of_ble_eq_true rfl) h (fun v u h hk => ?_)
        obtain ⟨r5, rfl⟩ := hk
        obtain ⟨s4, rfl⟩ : ∃ x, x = u := ⟨_, rfl⟩
        replace h := h r5 rfl
        refine Ev_goto (tgt := 39) dX12_readsText_32 rfl ?_
        exact Ev_iret rfl dX12_readsText_39 rfl h
    · replace h := h.2 c
      refine Ev_aload_n 0 dX12_readsText_18 rfl rfl ?_
      refine Ev_callV (As := []) (b := 0) (st := []) (M' := M_X12_readMishaps) cm_X12_readMishaps wd_1782 wd_1784 wd_96 yM_0 cl_X12 rfl dX12_readsText_19 (Nat.le_refl _) rfl (Nat.le_of_ble_eq_true rfl) (Nat.le_of_ble_eq_true rfl) h (fun v u h hk => ?_)
      obtain ⟨r7, rfl⟩ := hk
      obtain ⟨s6, rfl⟩ : ∃ x, x = u := ⟨_, rfl⟩
      replace h := h r7 rfl
      exact Ev_iret rfl dX12_readsText_22 rfl h
  · replace h := h.2 c
    refine Ev_aload_n 0 dX12_readsText_8 rfl rfl ?_
    refine Ev_callV (As := []) (b := 0) (st := []) (M' := M_X12_readWay) cm_X12_readWay wd_1730 wd_1732 wd_83 yM_0 cl_X12 rfl dX12_readsText_9 (Nat.le_refl _) rfl (Nat.le_of_ble_eq_true rfl) (Nat.le_of_ble_eq_true rfl) h (fun v u h hk => ?_)
    obtain ⟨r9, rfl⟩ := hk
    obtain ⟨s8, rfl⟩ : ∃ x, x = u := ⟨_, rfl⟩
    replace h := h r9 rfl
    exact Ev_iret rfl dX12_readsText_12 rfl h
theorem dX12_takes_0 : decode cX12_takes 0 = .ok (.iload_n 1, 1) := by decide +kernel
theorem dX12_takes_1 : decode cX12_takes 1 = .ok (.ifCond .ne 9, 3) := by decide +kernel
theorem dX12_takes_4 : decode cX12_takes 4 = .ok (.aload_n 0, 1) := by decide +kernel
theorem dX12_takes_5 : decode cX12_takes 5 = .ok (.iload_n 2, 1) := by decide +kernel
theorem dX12_takes_6 : decode cX12_takes 6 = .ok (.iload_n 3, 1) := by decide +kernel
theorem dX12_takes_7 : decode cX12_takes 7 = .ok (.invokevirtual 333, 3) := by decide +kernel
theorem dX12_takes_10 : decode cX12_takes 10 = .ok (.iload_n 1, 1) := by decide +kernel
theorem dX12_takes_11 : decode cX12_takes 11 = .ok (.iconst 1, 1) := by decide +kernel
theorem dX12_takes_12 : decode cX12_takes 12 = .ok (.if_icmp .ne 8, 3) := by decide +kernel
theorem dX12_takes_15 : decode cX12_takes 15 = .ok (.aload_n 0, 1) := by decide +kernel
theorem dX12_takes_16 : decode cX12_takes 16 = .ok (.iload_n 3, 1) := by decide +kernel
theorem dX12_takes_17 : decode cX12_takes 17 = .ok (.invokevirtual 336, 3) := by decide +kernel
theorem dX12_takes_20 : decode cX12_takes 20 = .ok (.iload_n 1, 1) := by decide +kernel
theorem dX12_takes_21 : decode cX12_takes 21 = .ok (.iconst 2, 1) := by decide +kernel
theorem dX12_takes_22 : decode cX12_takes 22 = .ok (.if_icmp .ne 9, 3) := by decide +kernel
theorem dX12_takes_25 : decode cX12_takes 25 = .ok (.aload_n 0, 1) := by decide +kernel
theorem dX12_takes_26 : decode cX12_takes 26 = .ok (.iload_n 2, 1) := by decide +kernel
theorem dX12_takes_27 : decode cX12_takes 27 = .ok (.iload_n 3, 1) := by decide +kernel
theorem dX12_takes_28 : decode cX12_takes 28 = .ok (.invokevirtual 339, 3) := by decide +kernel
theorem dX12_takes_31 : decode cX12_takes 31 = .ok (.iload_n 1, 1) := by decide +kernel
theorem dX12_takes_32 : decode cX12_takes 32 = .ok (.iconst 3, 1) := by decide +kernel
theorem dX12_takes_33 : decode cX12_takes 33 = .ok (.if_icmp .ne 11, 3) := by decide +kernel
theorem dX12_takes_36 : decode cX12_takes 36 = .ok (.aload_n 0, 1) := by decide +kernel
theorem dX12_takes_37 : decode cX12_takes 37 = .ok (.iload_n 3, 1) := by decide +kernel
theorem dX12_takes_38 : decode cX12_takes 38 = .ok (.invokevirtual 342, 3) := by decide +kernel
theorem dX12_takes_41 : decode cX12_takes 41 = .ok (.goto 8, 3) := by decide +kernel
theorem dX12_takes_44 : decode cX12_takes 44 = .ok (.aload_n 0, 1) := by decide +kernel
theorem dX12_takes_45 : decode cX12_takes 45 = .ok (.iconst 0, 1) := by decide +kernel
theorem dX12_takes_46 : decode cX12_takes 46 = .ok (.putfield 127, 3) := by decide +kernel
theorem dX12_takes_49 : decode cX12_takes 49 = .ok (.return_, 1) := by decide +kernel
theorem wp_X12_takes_0 {d : Nat} {s : ev_S} {Q : Option ev_V → ev_S → Prop} {a1 a2 a3 : Int}
    (h : ((a1 ≠ 0 → ((a1 ≠ 1 → Ev layM M_X12_takes (d + 1) 20 [(0, ev_r 0), (1, ev_i a1), (2, ev_i a2), (3, ev_i a3)] [] s Q) ∧ (a1 = 1 → (Ev layM M_X12_takesMishaps d 0 [(0, ev_r 0), (1, ev_i a3)] [] s (fun _ s1 => Ev layM M_X12_takes (d + 1) 20 [(0, ev_r 0), (1, ev_i a1), (2, ev_i a2), (3, ev_i a3)] [] s1 Q))))) ∧ (a1 = 0 → (Ev layM M_X12_takesWay d 0 [(0, ev_r 0), (1, ev_i a2), (2, ev_i a3)] [] s (fun _ s2 => ((a1 ≠ 1 → Ev layM M_X12_takes (d + 1) 20 [(0, ev_r 0), (1, ev_i a1), (2, ev_i a2), (3, ev_i a3)] [] s2 Q) ∧ (a1 = 1 → (Ev layM M_X12_takesMishaps d 0 [(0, ev_r 0), (1, ev_i a3)] [] s2 (fun _ s3 => Ev layM M_X12_takes (d + 1) 20 [(0, ev_r 0), (1, ev_i a1), (2, ev_i a2), (3, ev_i a3)] [] s3 Q))))))))) :
    Ev layM M_X12_takes (d + 1) 0 [(0, ev_r 0), (1, ev_i a1), (2, ev_i a2), (3, ev_i a3)] [] s Q := by
  refine Ev_iload_n 1 dX12_takes_0 rfl rfl ?_
  refine Ev_if_ne (tgt := 10) dX12_takes_1 rfl (fun c => ?_) (fun c => ?_)
  · replace h := h.1 c
    refine Ev_iload_n 1 dX12_takes_10 rfl rfl ?_
    refine Ev_iconst dX12_takes_11 rfl (ev_Rc rfl) ?_
    refine Ev_icmp_ne (tgt := 20) dX12_takes_12 rfl (fun c => ?_) (fun c => ?_)
    · replace h := h.1 c
      exact Ev_sub [0, 1, 2, 3] rfl h
    · replace h := h.2 c
      refine Ev_aload_n 0 dX12_takes_15 rfl rfl ?_
      refine Ev_iload_n 3 dX12_takes_16 rfl rfl ?_
      refine Ev_callV (As := [ev_i a3]) (b := 0) (st := []) (M' := M_X12_takesMishaps) cm_X12_takesMishaps wd_1862 wd_1864 wd_116 yM_0 cl_X12 rfl dX12_takes_17 (Nat.le_refl _) rfl (Nat.le_of_ble_eq_true rfl) (Nat.le_of_ble_eq_true rfl) h (fun v u h hk => ?_)
      cases hk
      obtain ⟨s1, rfl⟩ : ∃ x, x = u := ⟨_, rfl⟩
      exact Ev_sub [0, 1, 2, 3] rfl h
  · replace h := h.2 c
    refine Ev_aload_n 0 dX12_takes_4 rfl rfl ?_
    refine Ev_iload_n 2 dX12_takes_5 rfl rfl ?_
    refine Ev_iload_n 3 dX12_takes_6 rfl rfl ?_
    refine Ev_callV (As := [ev_i a2, ev_i a3]) (b := 0) (st := []) (M' := M_X12_takesWay) cm_X12_takesWay wd_1858 wd_1860 wd_115 yM_0 cl_X12 rfl dX12_takes_7 (Nat.le_refl _) rfl (Nat.le_of_ble_eq_true rfl) (Nat.le_of_ble_eq_true rfl) h (fun v u h hk => ?_)
    cases hk
    obtain ⟨s2, rfl⟩ : ∃ x, x = u := ⟨_, rfl⟩
    refine Ev_iload_n 1 dX12_takes_10 rfl rfl ?_
    refine Ev_iconst dX12_takes_11 rfl (ev_Rc rfl) ?_
    refine Ev_icmp_ne (tgt := 20) dX12_takes_12 rfl (fun c => ?_) (fun c => ?_)
    · replace h := h.1 c
      exact Ev_sub [0, 1, 2, 3] rfl h
    · replace h := h.2 c
      refine Ev_aload_n 0 dX12_takes_15 rfl rfl ?_
      refine Ev_iload_n 3 dX12_takes_16 rfl rfl ?_
      refine Ev_callV (As := [ev_i a3]) (b := 0) (st := []) (M' := M_X12_takesMishaps) cm_X12_takesMishaps wd_1862 wd_1864 wd_116 yM_0 cl_X12 rfl dX12_takes_17 (Nat.le_refl _) rfl (Nat.le_of_ble_eq_true rfl) (Nat.le_of_ble_eq_true rfl) h (fun v u h hk => ?_)
      cases hk
      obtain ⟨s3, rfl⟩ : ∃ x, x = u := ⟨_, rfl⟩
      exact Ev_sub [0, 1, 2, 3] rfl h
theorem wp_X12_takes_20 {d : Nat} {s : ev_S} {Q : Option ev_V → ev_S → Prop} {a1 a2 a3 : Int}
    (h : ((a1 ≠ 2 → Ev layM M_X12_takes (d + 1) 31 [(0, ev_r 0), (1, ev_i a1), (3, ev_i a3)] [] s Q) ∧ (a1 = 2 → (Ev layM M_X12_takesPlan d 0 [(0, ev_r 0), (1, ev_i a2), (2, ev_i a3)] [] s (fun _ s1 => Ev layM M_X12_takes (d + 1) 31 [(0, ev_r 0), (1, ev_i a1), (3, ev_i a3)] [] s1 Q))))) :
    Ev layM M_X12_takes (d + 1) 20 [(0, ev_r 0), (1, ev_i a1), (2, ev_i a2), (3, ev_i a3)] [] s Q := by
  refine Ev_iload_n 1 dX12_takes_20 rfl rfl ?_
  refine Ev_iconst dX12_takes_21 rfl (ev_Rc rfl) ?_
  refine Ev_icmp_ne (tgt := 31) dX12_takes_22 rfl (fun c => ?_) (fun c => ?_)
  · replace h := h.1 c
    exact Ev_sub [0, 1, 3] rfl h
  · replace h := h.2 c
    refine Ev_aload_n 0 dX12_takes_25 rfl rfl ?_
    refine Ev_iload_n 2 dX12_takes_26 rfl rfl ?_
    refine Ev_iload_n 3 dX12_takes_27 rfl rfl ?_
    refine Ev_callV (As := [ev_i a2, ev_i a3]) (b := 0) (st := []) (M' := M_X12_takesPlan) cm_X12_takesPlan wd_1866 wd_1868 wd_117 yM_0 cl_X12 rfl dX12_takes_28 (Nat.le_refl _) rfl (Nat.le_of_ble_eq_true rfl) (Nat.le_of_ble_eq_true rfl) h (fun v u h hk => ?_)
    cases hk
    obtain ⟨s1, rfl⟩ : ∃ x, x = u := ⟨_, rfl⟩
    exact Ev_sub [0, 1, 3] rfl h
theorem wp_X12_takes_31 {d : Nat} {s : ev_S} {Q : Option ev_V → ev_S → Prop} {a1 a3 : Int}
    (h : ((a1 ≠ 3 → (∀ s1, ev_up s 0 3 0 = s1 → Q none s1)) ∧ (a1 = 3 → (Ev layM M_X12_takesLaw d 0 [(0, ev_r 0), (1, ev_i a3)] [] s (fun _ s2 => Q none s2))))) :
    Ev layM M_X12_takes (d + 1) 31 [(0, ev_r 0), (1, ev_i a1), (3, ev_i a3)] [] s Q := by
  refine Ev_iload_n 1 dX12_takes_31 rfl rfl ?_
  refine Ev_iconst dX12_takes_32 rfl (ev_Rc rfl) ?_
  refine Ev_icmp_ne (tgt := 44) dX12_takes_33 rfl (fun c => ?_) (fun c => ?_)
  · replace h := h.1 c
    refine Ev_aload_n 0 dX12_takes_44 rfl rfl ?_
    refine Ev_iconst dX12_takes_45 rfl (ev_Rc rfl) ?_
    refine Ev_put (i := 3) (ty := .int) cl_X12 yM_0 (Nat.le_of_ble_eq_true rfl) rfl rfl (by decide +kernel) rfl rfl wd_1447 dX12_takes_46 (Ev_nm (fun s1 es1 => ?_))
    replace h := h s1 es1
    exact Ev_vret rfl dX12_takes_49 h
  · replace h := h.2 c
    refine Ev_aload_n 0 dX12_takes_36 rfl rfl ?_
    refine Ev_iload_n 2 dX12_takes_37 rfl rfl ?_
    refine Ev_callV (As := [ev_i a3]) (b := 0) (st := []) (M' := M_X12_takesLaw) cm_X12_takesLaw wd_1870 wd_1872 wd_118 yM_0 cl_X12 rfl dX12_takes_38 (Nat.le_refl _) rfl (Nat.le_of_ble_eq_true rfl) (Nat.le_of_ble_eq_true rfl) h (fun v u h hk => ?_)
    cases hk
    obtain ⟨s2, rfl⟩ : ∃ x, x = u := ⟨_, rfl⟩
    refine Ev_goto (tgt := 49) dX12_takes_41 rfl ?_
    exact Ev_vret rfl dX12_takes_49 h
theorem dX12_text_0 : decode cX12_text 0 = .ok (.aload_n 0, 1) := by decide +kernel
theorem dX12_text_1 : decode cX12_text 1 = .ok (.iconst 0, 1) := by decide +kernel
theorem dX12_text_2 : decode cX12_text 2 = .ok (.putfield 124, 3) := by decide +kernel
theorem dX12_text_5 : decode cX12_text 5 = .ok (.aload_n 0, 1) := by decide +kernel
theorem dX12_text_6 : decode cX12_text 6 = .ok (.iconst 0, 1) := by decide +kernel
theorem dX12_text_7 : decode cX12_text 7 = .ok (.putfield 345, 3) := by decide +kernel
theorem dX12_text_10 : decode cX12_text 10 = .ok (.aload_n 0, 1) := by decide +kernel
theorem dX12_text_11 : decode cX12_text 11 = .ok (.iconst (-1), 1) := by decide +kernel
theorem dX12_text_12 : decode cX12_text 12 = .ok (.putfield 61, 3) := by decide +kernel
theorem dX12_text_15 : decode cX12_text 15 = .ok (.aload_n 0, 1) := by decide +kernel
theorem dX12_text_16 : decode cX12_text 16 = .ok (.iconst 0, 1) := by decide +kernel
theorem dX12_text_17 : decode cX12_text 17 = .ok (.putfield 185, 3) := by decide +kernel
theorem dX12_text_20 : decode cX12_text 20 = .ok (.aload_n 0, 1) := by decide +kernel
theorem dX12_text_21 : decode cX12_text 21 = .ok (.iconst 0, 1) := by decide +kernel
theorem dX12_text_22 : decode cX12_text 22 = .ok (.putfield 219, 3) := by decide +kernel
theorem dX12_text_25 : decode cX12_text 25 = .ok (.aload_n 0, 1) := by decide +kernel
theorem dX12_text_26 : decode cX12_text 26 = .ok (.iconst 0, 1) := by decide +kernel
theorem dX12_text_27 : decode cX12_text 27 = .ok (.putfield 248, 3) := by decide +kernel
theorem dX12_text_30 : decode cX12_text 30 = .ok (.iconst (-1), 1) := by decide +kernel
theorem dX12_text_31 : decode cX12_text 31 = .ok (.istore_n 3, 1) := by decide +kernel
theorem dX12_text_32 : decode cX12_text 32 = .ok (.aload_n 0, 1) := by decide +kernel
theorem dX12_text_33 : decode cX12_text 33 = .ok (.iload_n 1, 1) := by decide +kernel
theorem dX12_text_34 : decode cX12_text 34 = .ok (.iload_n 2, 1) := by decide +kernel
theorem dX12_text_35 : decode cX12_text 35 = .ok (.invokevirtual 348, 3) := by decide +kernel
theorem dX12_text_38 : decode cX12_text 38 = .ok (.ifCond .eq 30, 3) := by decide +kernel
theorem dX12_text_41 : decode cX12_text 41 = .ok (.aload_n 0, 1) := by decide +kernel
theorem dX12_text_42 : decode cX12_text 42 = .ok (.iload_n 1, 1) := by decide +kernel
theorem dX12_text_43 : decode cX12_text 43 = .ok (.invokevirtual 352, 3) := by decide +kernel
theorem dX12_text_46 : decode cX12_text 46 = .ok (.istore_n 3, 1) := by decide +kernel
theorem dX12_text_47 : decode cX12_text 47 = .ok (.iload_n 3, 1) := by decide +kernel
theorem dX12_text_48 : decode cX12_text 48 = .ok (.iconst (-1), 1) := by decide +kernel
theorem dX12_text_49 : decode cX12_text 49 = .ok (.if_icmp .ne 19, 3) := by decide +kernel
theorem dX12_text_52 : decode cX12_text 52 = .ok (.aload_n 0, 1) := by decide +kernel
theorem dX12_text_53 : decode cX12_text 53 = .ok (.aload_n 0, 1) := by decide +kernel
theorem dX12_text_54 : decode cX12_text 54 = .ok (.getfield 213, 3) := by decide +kernel
theorem dX12_text_57 : decode cX12_text 57 = .ok (.putfield 345, 3) := by decide +kernel
theorem dX12_text_60 : decode cX12_text 60 = .ok (.aload_n 0, 1) := by decide +kernel
theorem dX12_text_61 : decode cX12_text 61 = .ok (.aload_n 0, 1) := by decide +kernel
theorem dX12_text_62 : decode cX12_text 62 = .ok (.getfield 216, 3) := by decide +kernel
theorem dX12_text_65 : decode cX12_text 65 = .ok (.putfield 61, 3) := by decide +kernel
theorem dX12_text_68 : decode cX12_text 68 = .ok (.aload_n 0, 1) := by decide +kernel
theorem dX12_text_69 : decode cX12_text 69 = .ok (.iconst 0, 1) := by decide +kernel
theorem dX12_text_70 : decode cX12_text 70 = .ok (.putfield 178, 3) := by decide +kernel
theorem dX12_text_73 : decode cX12_text 73 = .ok (.iload_n 3, 1) := by decide +kernel
theorem dX12_text_74 : decode cX12_text 74 = .ok (.iconst (-1), 1) := by decide +kernel
theorem dX12_text_75 : decode cX12_text 75 = .ok (.if_icmp .eq 10, 3) := by decide +kernel
theorem dX12_text_78 : decode cX12_text 78 = .ok (.aload_n 0, 1) := by decide +kernel
theorem dX12_text_79 : decode cX12_text 79 = .ok (.iload_n 1, 1) := by decide +kernel
theorem dX12_text_80 : decode cX12_text 80 = .ok (.iload_n 2, 1) := by decide +kernel
theorem dX12_text_81 : decode cX12_text 81 = .ok (.iload_n 3, 1) := by decide +kernel
theorem dX12_text_82 : decode cX12_text 82 = .ok (.invokevirtual 355, 3) := by decide +kernel
theorem dX12_text_85 : decode cX12_text 85 = .ok (.iload_n 3, 1) := by decide +kernel
theorem dX12_text_86 : decode cX12_text 86 = .ok (.ireturn, 1) := by decide +kernel
theorem wp_X12_text_0 {d : Nat} {s : ev_S} {Q : Option ev_V → ev_S → Prop} {a1 a2 : Int}
    (h : (∀ s1, ev_up s 0 0 0 = s1 → (∀ s2, ev_up s1 0 37 0 = s2 → (∀ s3, ev_up s2 0 38 (-1) = s3 → (∀ s4, ev_up s3 0 20 0 = s4 → (∀ s5, ev_up s4 0 31 0 = s5 → (∀ s6, ev_up s5 0 32 0 = s6 → (Ev layM M_X12_canText d 0 [(0, ev_r 0), (1, ev_i a1), (2, ev_i a2)] [] s6 (ev_pi (fun r8 s7 => ((r8 = 0 → Ev layM M_X12_text (d + 1) 68 [(0, ev_r 0), (1, ev_i a1), (2, ev_i a2), (3, ev_i (-1))] [] s7 Q) ∧ (r8 ≠ 0 → (Ev layM M_X12_readsText d 0 [(0, ev_r 0), (1, ev_i a1)] [] s7 (ev_pi (fun r10 s9 => ((r10 ≠ (-1) → Ev layM M_X12_text (d + 1) 68 [(0, ev_r 0), (1, ev_i a1), (2, ev_i a2), (3, ev_i r10)] [] s9 Q) ∧ (r10 = (-1) → (∀ s11, ev_up s9 0 37 (s9 0 35) = s11 → (∀ s12, ev_up s11 0 38 (s11 0 36) = s12 → Ev layM M_X12_text (d + 1) 68 [(0, ev_r 0), (1, ev_i a1), (2, ev_i a2), (3, ev_i r10)] [] s12 Q))))))))))))))))))) :
    Ev layM M_X12_text (d + 1) 0 [(0, ev_r 0), (1, ev_i a1), (2, ev_i a2)] [] s Q := by
  refine Ev_aload_n 0 dX12_text_0 rfl rfl ?_
  refine Ev_iconst dX12_text_1 rfl (ev_Rc rfl) ?_
  refine Ev_put (i := 0) (ty := .int) cl_X12 yM_0 (Nat.le_of_ble_eq_true rfl) rfl rfl (by decide +kernel) rfl rfl wd_1444 dX12_text_2 (Ev_nm (fun s1 es1 => ?_))
  replace h := h s1 es1
  refine Ev_aload_n 0 dX12_text_5 rfl rfl ?_
  refine Ev_iconst dX12_text_6 rfl (ev_Rc rfl) ?_
  refine Ev_put (i := 37) (ty := .int) cl_X12 yM_0 (Nat.le_of_ble_eq_true rfl) rfl rfl (by decide +kernel) rfl rfl wd_1481 dX12_text_7 (Ev_nm (fun s2 es2 => ?_))
  replace h := h s2 es2
  refine Ev_aload_n 0 dX12_text_10 rfl rfl ?_
  refine Ev_iconst dX12_text_11 rfl (ev_Rc rfl) ?_
  refine Ev_put (i := 38) (ty := .int) cl_X12 yM_0 (Nat.le_of_ble_eq_true rfl) rfl rfl (by decide +kernel) rfl rfl wd_1482 dX12_text_12 (Ev_nm (fun s3 es3 => ?_))
  replace h := h s3 es3
  refine Ev_aload_n 0 dX12_text_15 rfl rfl ?_
  refine Ev_iconst dX12_text_16 rfl (ev_Rc rfl) ?_
  refine Ev_put (i := 20) (ty := .int) cl_X12 yM_0 (Nat.le_of_ble_eq_true rfl) rfl rfl (by decide +kernel) rfl rfl wd_1464 dX12_text_17 (Ev_nm (fun s4 es4 => ?_))
  replace h := h s4 es4
  refine Ev_aload_n 0 dX12_text_20 rfl rfl ?_
  refine Ev_iconst dX12_text_21 rfl (ev_Rc rfl) ?_
  refine Ev_put (i := 31) (ty := .int) cl_X12 yM_0 (Nat.le_of_ble_eq_true rfl) rfl rfl (by decide +kernel) rfl rfl wd_1475 dX12_text_22 (Ev_nm (fun s5 es5 => ?_))
  replace h := h s5 es5
  refine Ev_aload_n 0 dX12_text_25 rfl rfl ?_
  refine Ev_iconst dX12_text_26 rfl (ev_Rc rfl) ?_
  refine Ev_put (i := 32) (ty := .int) cl_X12 yM_0 (Nat.le_of_ble_eq_true rfl) rfl rfl (by decide +kernel) rfl rfl wd_1476 dX12_text_27 (Ev_nm (fun s6 es6 => ?_))
  replace h := h s6 es6
  refine Ev_iconst dX12_text_30 rfl (ev_Rc rfl) ?_
  refine Ev_istore_n (l' := [(3, ev_i (-1)), (0, ev_r 0), (1, ev_i a1), (2, ev_i a2)]) dX12_text_31 rfl (Nat.le_of_ble_eq_true rfl) rfl ?_
  refine Ev_aload_n 1 dX12_text_32 rfl rfl ?_
  refine Ev_iload_n 2 dX12_text_33 rfl rfl ?_
  refine Ev_iload_n 3 dX12_text_34 rfl rfl ?_
  refine Ev_callV (As := [ev_i a1, ev_i a2]) (b := 0) (st := []) (M' := M_X12_canText) cm_X12_canText wd_1694 wd_1696 wd_74 yM_0 cl_X12 rfl dX12_text_35 (Nat.le_refl _) rfl (Nat.le_of_ble_eq_true rfl) (Nat.le_of_ble_eq_true rfl) h (fun v u h hk => ?_)
  obtain ⟨r8, rfl⟩ := hk
  obtain ⟨s7, rfl⟩ : ∃ x, x = u := ⟨_, rfl⟩
  replace h := h r8 rfl
  refine Ev_if_eq (tgt := 68) dX12_text_38 rfl (fun c => ?_) (fun c => ?_)
  · replace h := h.1 c
    exact Ev_sub [1, 2, 3, 0] rfl h
  · replace h := h.2 c
    refine Ev_aload_n 1 dX12_text_41 rfl rfl ?_
    refine Ev_iload_n 2 dX12_text_42 rfl rfl ?_
    refine Ev_callV (As := [ev_i a1]) (b := 0) (st := []) (M' := M_X12_readsText) cm_X12_readsText wd_1702 wd_1704 wd_76 yM_0 cl_X12 rfl dX12_text_43 (Nat.le_refl _) rfl (Nat.le_of_ble_eq_true rfl) (Nat.le_of_ble_eq_true rfl) h (fun v u h hk => ?_)
    obtain ⟨r10, rfl⟩ := hk
    obtain ⟨s9, rfl⟩ : ∃ x, x = u := ⟨_, rfl⟩
    replace h := h r10 rfl
    refine Ev_istore_n (l' := [(3, ev_i r10), (0, ev_r 0), (1, ev_i a1), (2, ev_i a2)]) dX12_text_46 rfl (Nat.le_of_ble_eq_true rfl) rfl ?_
    refine Ev_iload_n 0 dX12_text_47 rfl rfl ?_
    refine Ev_iconst dX12_text_48 rfl (ev_Rc rfl) ?_
    refine Ev_icmp_ne (tgt := 68) dX12_text_49 rfl (fun c => ?_) (fun c => ?_)
    · replace h := h.1 c
      exact Ev_sub [1, 2, 3, 0] rfl h
    · replace h := h.2 c
      refine Ev_aload_n 1 dX12_text_52 rfl rfl ?_
      refine Ev_aload_n 1 dX12_text_53 rfl rfl ?_
      refine Ev_get (i := 35) cl_X12 yM_0 (Nat.le_of_ble_eq_true rfl) rfl wd_1479 dX12_text_54 ?_
      refine Ev_put (i := 37) (ty := .int) cl_X12 yM_0 (Nat.le_of_ble_eq_true rfl) rfl rfl (by decide +kernel) rfl rfl wd_1481 dX12_text_57 (Ev_nm (fun s11 es11 => ?_))
      replace h := h s11 es11
      refine Ev_aload_n 1 dX12_text_60 rfl rfl ?_
      refine Ev_aload_n 1 dX12_text_61 rfl rfl ?_
      refine Ev_get (i := 36) cl_X12 yM_0 (Nat.le_of_ble_eq_true rfl) rfl wd_1480 dX12_text_62 ?_
      refine Ev_put (i := 38) (ty := .int) cl_X12 yM_0 (Nat.le_of_ble_eq_true rfl) rfl rfl (by decide +kernel) rfl rfl wd_1482 dX12_text_65 (Ev_nm (fun s12 es12 => ?_))
      replace h := h s12 es12
      exact Ev_sub [1, 2, 3, 0] rfl h
theorem wp_X12_text_68 {d : Nat} {s : ev_S} {Q : Option ev_V → ev_S → Prop} {a1 a2 a3 : Int}
    (h : (∀ s1, ev_up s 0 19 0 = s1 → ((a3 = (-1) → Q (some (ev_i a3)) s1) ∧ (a3 ≠ (-1) → (Ev layM M_X12_takes d 0 [(0, ev_r 0), (1, ev_i a1), (2, ev_i a2), (3, ev_i a3)] [] s1 (fun _ s2 => Q (some (ev_i a3)) s2)))))) :
    Ev layM M_X12_text (d + 1) 68 [(0, ev_r 0), (1, ev_i a1), (2, ev_i a2), (3, ev_i a3)] [] s Q := by
  refine Ev_aload_n 0 dX12_text_68 rfl rfl ?_
  refine Ev_iconst dX12_text_69 rfl (ev_Rc rfl) ?_
  refine Ev_put (i := 19) (ty := .int) cl_X12 yM_0 (Nat.le_of_ble_eq_true rfl) rfl rfl (by decide +kernel) rfl rfl wd_1463 dX12_text_70 (Ev_nm (fun s1 es1 => ?_))
  replace h := h s1 es1
  refine Ev_iload_n 3 dX12_text_73 rfl rfl ?_
  refine Ev_iconst dX12_text_74 rfl (ev_Rc rfl) ?_
  refine Ev_icmp_eq (tgt := 85) dX12_text_75 rfl (fun c => ?_) (fun c => ?_)
  · replace h := h.1 c
    refine Ev_iload_n 3 dX12_text_85 rfl rfl ?_
    exact Ev_iret rfl dX12_text_86 rfl h
  · replace h := h.2 c
    refine Ev_aload_n 0 dX12_text_78 rfl rfl ?_
    refine Ev_iload_n 1 dX12_text_79 rfl rfl ?_
    refine Ev_iload_n 2 dX12_text_80 rfl rfl ?_
    refine Ev_iload_n 3 dX12_text_81 rfl rfl ?_
    refine Ev_callV (As := [ev_i a1, ev_i a2, ev_i a3]) (b := 0) (st := []) (M' := M_X12_takes) cm_X12_takes wd_1854 wd_1856 wd_114 yM_0 cl_X12 rfl dX12_text_82 (Nat.le_refl _) rfl (Nat.le_of_ble_eq_true rfl) (Nat.le_of_ble_eq_true rfl) h (fun v u h hk => ?_)
    cases hk
    obtain ⟨s2, rfl⟩ : ∃ x, x = u := ⟨_, rfl⟩
    refine Ev_iload_n 3 dX12_text_85 rfl rfl ?_
    exact Ev_iret rfl dX12_text_86 rfl h
theorem dX12_fault_0 : decode cX12_fault 0 = .ok (.aload_n 0, 1) := by decide +kernel
theorem dX12_fault_1 : decode cX12_fault 1 = .ok (.iconst 0, 1) := by decide +kernel
theorem dX12_fault_2 : decode cX12_fault 2 = .ok (.putfield 124, 3) := by decide +kernel
theorem dX12_fault_5 : decode cX12_fault 5 = .ok (.iload_n 1, 1) := by decide +kernel
theorem dX12_fault_6 : decode cX12_fault 6 = .ok (.ifCond .ne 10, 3) := by decide +kernel
theorem dX12_fault_9 : decode cX12_fault 9 = .ok (.aload_n 0, 1) := by decide +kernel
theorem dX12_fault_10 : decode cX12_fault 10 = .ok (.getfield 345, 3) := by decide +kernel
theorem dX12_fault_13 : decode cX12_fault 13 = .ok (.goto 16, 3) := by decide +kernel
theorem dX12_fault_16 : decode cX12_fault 16 = .ok (.iload_n 1, 1) := by decide +kernel
theorem dX12_fault_17 : decode cX12_fault 17 = .ok (.iconst 1, 1) := by decide +kernel
theorem dX12_fault_18 : decode cX12_fault 18 = .ok (.if_icmp .ne 10, 3) := by decide +kernel
theorem dX12_fault_21 : decode cX12_fault 21 = .ok (.aload_n 0, 1) := by decide +kernel
theorem dX12_fault_22 : decode cX12_fault 22 = .ok (.getfield 61, 3) := by decide +kernel
theorem dX12_fault_25 : decode cX12_fault 25 = .ok (.goto 4, 3) := by decide +kernel
theorem dX12_fault_28 : decode cX12_fault 28 = .ok (.iconst (-1), 1) := by decide +kernel
theorem dX12_fault_29 : decode cX12_fault 29 = .ok (.ireturn, 1) := by decide +kernel
theorem wp_X12_fault_0 {d : Nat} {s : ev_S} {Q : Option ev_V → ev_S → Prop} {a1 : Int}
    (h : (∀ s1, ev_up s 0 0 0 = s1 → ((a1 ≠ 0 → ((a1 ≠ 1 → Q (some (ev_i (-1))) s1) ∧ (a1 = 1 → Q (some (ev_i (s1 0 38))) s1))) ∧ (a1 = 0 → Q (some (ev_i (s1 0 37))) s1)))) :
    Ev layM M_X12_fault d 0 [(0, ev_r 0), (1, ev_i a1)] [] s Q := by
  refine Ev_aload_n 0 dX12_fault_0 rfl rfl ?_
  refine Ev_iconst dX12_fault_1 rfl (ev_Rc rfl) ?_
  refine Ev_put (i := 0) (ty := .int) cl_X12 yM_0 (Nat.le_of_ble_eq_true rfl) rfl rfl (by decide +kernel) rfl rfl wd_1444 dX12_fault_2 (Ev_nm (fun s1 es1 => ?_))
  replace h := h s1 es1
  refine Ev_iload_n 1 dX12_fault_5 rfl rfl ?_
  refine Ev_if_ne (tgt := 16) dX12_fault_6 rfl (fun c => ?_) (fun c => ?_)
  · replace h := h.1 c
    refine Ev_iload_n 1 dX12_fault_16 rfl rfl ?_
    refine Ev_iconst dX12_fault_17 rfl (ev_Rc rfl) ?_
    refine Ev_icmp_ne (tgt := 28) dX12_fault_18 rfl (fun c => ?_) (fun c => ?_)
    · replace h := h.1 c
      refine Ev_iconst dX12_fault_28 rfl (ev_Rc rfl) ?_
      exact Ev_iret rfl dX12_fault_29 rfl h
    · replace h := h.2 c
      refine Ev_aload_n 0 dX12_fault_21 rfl rfl ?_
      refine Ev_get (i := 38) cl_X12 yM_0 (Nat.le_of_ble_eq_true rfl) rfl wd_1482 dX12_fault_22 ?_
      refine Ev_goto (tgt := 29) dX12_fault_25 rfl ?_
      exact Ev_iret rfl dX12_fault_29 rfl h
  · replace h := h.2 c
    refine Ev_aload_n 0 dX12_fault_9 rfl rfl ?_
    refine Ev_get (i := 37) cl_X12 yM_0 (Nat.le_of_ble_eq_true rfl) rfl wd_1481 dX12_fault_10 ?_
    refine Ev_goto (tgt := 29) dX12_fault_13 rfl ?_
    exact Ev_iret rfl dX12_fault_29 rfl h
theorem dX12_twoOf_0 : decode cX12_twoOf 0 = .ok (.iload_n 1, 1) := by decide +kernel
theorem dX12_twoOf_1 : decode cX12_twoOf 1 = .ok (.iconst 2, 1) := by decide +kernel
theorem dX12_twoOf_2 : decode cX12_twoOf 2 = .ok (.if_icmp .ne 7, 3) := by decide +kernel
theorem dX12_twoOf_5 : decode cX12_twoOf 5 = .ok (.iload_n 2, 1) := by decide +kernel
theorem dX12_twoOf_6 : decode cX12_twoOf 6 = .ok (.iload_n 3, 1) := by decide +kernel
theorem dX12_twoOf_7 : decode cX12_twoOf 7 = .ok (.iadd, 1) := by decide +kernel
theorem dX12_twoOf_8 : decode cX12_twoOf 8 = .ok (.ireturn, 1) := by decide +kernel
theorem dX12_twoOf_9 : decode cX12_twoOf 9 = .ok (.iload_n 1, 1) := by decide +kernel
theorem dX12_twoOf_10 : decode cX12_twoOf 10 = .ok (.iconst 3, 1) := by decide +kernel
theorem dX12_twoOf_11 : decode cX12_twoOf 11 = .ok (.if_icmp .ne 7, 3) := by decide +kernel
theorem dX12_twoOf_14 : decode cX12_twoOf 14 = .ok (.iload_n 2, 1) := by decide +kernel
theorem dX12_twoOf_15 : decode cX12_twoOf 15 = .ok (.iload_n 3, 1) := by decide +kernel
theorem dX12_twoOf_16 : decode cX12_twoOf 16 = .ok (.isub, 1) := by decide +kernel
theorem dX12_twoOf_17 : decode cX12_twoOf 17 = .ok (.ireturn, 1) := by decide +kernel
theorem dX12_twoOf_18 : decode cX12_twoOf 18 = .ok (.iload_n 1, 1) := by decide +kernel
theorem dX12_twoOf_19 : decode cX12_twoOf 19 = .ok (.iconst 4, 1) := by decide +kernel
theorem dX12_twoOf_20 : decode cX12_twoOf 20 = .ok (.if_icmp .ne 7, 3) := by decide +kernel
theorem dX12_twoOf_23 : decode cX12_twoOf 23 = .ok (.iload_n 2, 1) := by decide +kernel
theorem dX12_twoOf_24 : decode cX12_twoOf 24 = .ok (.iload_n 3, 1) := by decide +kernel
theorem dX12_twoOf_25 : decode cX12_twoOf 25 = .ok (.imul, 1) := by decide +kernel
theorem dX12_twoOf_26 : decode cX12_twoOf 26 = .ok (.ireturn, 1) := by decide +kernel
theorem dX12_twoOf_27 : decode cX12_twoOf 27 = .ok (.iload_n 1, 1) := by decide +kernel
theorem dX12_twoOf_28 : decode cX12_twoOf 28 = .ok (.iconst 5, 1) := by decide +kernel
theorem dX12_twoOf_29 : decode cX12_twoOf 29 = .ok (.if_icmp .ne 7, 3) := by decide +kernel
theorem dX12_twoOf_32 : decode cX12_twoOf 32 = .ok (.iload_n 2, 1) := by decide +kernel
theorem dX12_twoOf_33 : decode cX12_twoOf 33 = .ok (.iload_n 3, 1) := by decide +kernel
theorem dX12_twoOf_34 : decode cX12_twoOf 34 = .ok (.idiv, 1) := by decide +kernel
theorem dX12_twoOf_35 : decode cX12_twoOf 35 = .ok (.ireturn, 1) := by decide +kernel
theorem dX12_twoOf_36 : decode cX12_twoOf 36 = .ok (.iload_n 1, 1) := by decide +kernel
theorem dX12_twoOf_37 : decode cX12_twoOf 37 = .ok (.bipush 6, 2) := by decide +kernel
theorem dX12_twoOf_39 : decode cX12_twoOf 39 = .ok (.if_icmp .ne 14, 3) := by decide +kernel
theorem dX12_twoOf_42 : decode cX12_twoOf 42 = .ok (.iload_n 2, 1) := by decide +kernel
theorem dX12_twoOf_43 : decode cX12_twoOf 43 = .ok (.iload_n 3, 1) := by decide +kernel
theorem dX12_twoOf_44 : decode cX12_twoOf 44 = .ok (.if_icmp .ge 7, 3) := by decide +kernel
theorem dX12_twoOf_47 : decode cX12_twoOf 47 = .ok (.iconst 1, 1) := by decide +kernel
theorem dX12_twoOf_48 : decode cX12_twoOf 48 = .ok (.goto 4, 3) := by decide +kernel
theorem dX12_twoOf_51 : decode cX12_twoOf 51 = .ok (.iconst 0, 1) := by decide +kernel
theorem dX12_twoOf_52 : decode cX12_twoOf 52 = .ok (.ireturn, 1) := by decide +kernel
theorem dX12_twoOf_53 : decode cX12_twoOf 53 = .ok (.iload_n 1, 1) := by decide +kernel
theorem dX12_twoOf_54 : decode cX12_twoOf 54 = .ok (.bipush 7, 2) := by decide +kernel
theorem dX12_twoOf_56 : decode cX12_twoOf 56 = .ok (.if_icmp .ne 14, 3) := by decide +kernel
theorem dX12_twoOf_59 : decode cX12_twoOf 59 = .ok (.iload_n 2, 1) := by decide +kernel
theorem dX12_twoOf_60 : decode cX12_twoOf 60 = .ok (.iload_n 3, 1) := by decide +kernel
theorem dX12_twoOf_61 : decode cX12_twoOf 61 = .ok (.if_icmp .ne 7, 3) := by decide +kernel
theorem dX12_twoOf_64 : decode cX12_twoOf 64 = .ok (.iconst 1, 1) := by decide +kernel
theorem dX12_twoOf_65 : decode cX12_twoOf 65 = .ok (.goto 4, 3) := by decide +kernel
theorem dX12_twoOf_68 : decode cX12_twoOf 68 = .ok (.iconst 0, 1) := by decide +kernel
theorem dX12_twoOf_69 : decode cX12_twoOf 69 = .ok (.ireturn, 1) := by decide +kernel
theorem dX12_twoOf_70 : decode cX12_twoOf 70 = .ok (.iload_n 1, 1) := by decide +kernel
theorem dX12_twoOf_71 : decode cX12_twoOf 71 = .ok (.bipush 8, 2) := by decide +kernel
theorem dX12_twoOf_73 : decode cX12_twoOf 73 = .ok (.if_icmp .ne 14, 3) := by decide +kernel
theorem dX12_twoOf_76 : decode cX12_twoOf 76 = .ok (.iload_n 2, 1) := by decide +kernel
theorem dX12_twoOf_77 : decode cX12_twoOf 77 = .ok (.iload_n 3, 1) := by decide +kernel
theorem dX12_twoOf_78 : decode cX12_twoOf 78 = .ok (.if_icmp .le 7, 3) := by decide +kernel
theorem dX12_twoOf_81 : decode cX12_twoOf 81 = .ok (.iconst 1, 1) := by decide +kernel
theorem dX12_twoOf_82 : decode cX12_twoOf 82 = .ok (.goto 4, 3) := by decide +kernel
theorem dX12_twoOf_85 : decode cX12_twoOf 85 = .ok (.iconst 0, 1) := by decide +kernel
theorem dX12_twoOf_86 : decode cX12_twoOf 86 = .ok (.ireturn, 1) := by decide +kernel
theorem dX12_twoOf_87 : decode cX12_twoOf 87 = .ok (.iload_n 1, 1) := by decide +kernel
theorem dX12_twoOf_88 : decode cX12_twoOf 88 = .ok (.bipush 10, 2) := by decide +kernel
theorem dX12_twoOf_90 : decode cX12_twoOf 90 = .ok (.if_icmp .ne 9, 3) := by decide +kernel
theorem dX12_twoOf_93 : decode cX12_twoOf 93 = .ok (.iload_n 2, 1) := by decide +kernel
theorem dX12_twoOf_94 : decode cX12_twoOf 94 = .ok (.iload_n 3, 1) := by decide +kernel
theorem dX12_twoOf_95 : decode cX12_twoOf 95 = .ok (.imul, 1) := by decide +kernel
theorem dX12_twoOf_96 : decode cX12_twoOf 96 = .ok (.goto 14, 3) := by decide +kernel
theorem dX12_twoOf_99 : decode cX12_twoOf 99 = .ok (.iload_n 2, 1) := by decide +kernel
theorem dX12_twoOf_100 : decode cX12_twoOf 100 = .ok (.iload_n 3, 1) := by decide +kernel
theorem dX12_twoOf_101 : decode cX12_twoOf 101 = .ok (.iadd, 1) := by decide +kernel
theorem dX12_twoOf_102 : decode cX12_twoOf 102 = .ok (.ifCond .le 7, 3) := by decide +kernel
theorem dX12_twoOf_105 : decode cX12_twoOf 105 = .ok (.iconst 1, 1) := by decide +kernel
theorem dX12_twoOf_106 : decode cX12_twoOf 106 = .ok (.goto 4, 3) := by decide +kernel
theorem dX12_twoOf_109 : decode cX12_twoOf 109 = .ok (.iconst 0, 1) := by decide +kernel
theorem dX12_twoOf_110 : decode cX12_twoOf 110 = .ok (.ireturn, 1) := by decide +kernel
theorem wp_X12_twoOf_0 {d : Nat} {s : ev_S} {Q : Option ev_V → ev_S → Prop} {a1 a2 a3 : Int}
    (h : ((a1 ≠ 2 → ((a1 ≠ 3 → ((a1 ≠ 4 → ((a1 ≠ 5 → ((a1 ≠ 6 → ((a1 ≠ 7 → ((a1 ≠ 8 → ((a1 ≠ 10 → (((ev_add a2 a3) ≤ 0 → Q (some (ev_i 0)) s) ∧ (0 < (ev_add a2 a3) → Q (some (ev_i 1)) s))) ∧ (a1 = 10 → Q (some (ev_i (ev_mul a2 a3))) s))) ∧ (a1 = 8 → ((a2 ≤ a3 → Q (some (ev_i 0)) s) ∧ (a3 < a2 → Q (some (ev_i 1)) s))))) ∧ (a1 = 7 → ((a2 ≠ a3 → Q (some (ev_i 0)) s) ∧ (a2 = a3 → Q (some (ev_i 1)) s))))) ∧ (a1 = 6 → ((a3 ≤ a2 → Q (some (ev_i 0)) s) ∧ (a2 < a3 → Q (some (ev_i 1)) s))))) ∧ (a1 = 5 → (a3 ≠ 0 ∧ Q (some (ev_i (ev_div a2 a3))) s)))) ∧ (a1 = 4 → Q (some (ev_i (ev_mul a2 a3))) s))) ∧ (a1 = 3 → Q (some (ev_i (ev_sub a2 a3))) s))) ∧ (a1 = 2 → Q (some (ev_i (ev_add a2 a3))) s))) :
    Ev layM M_X12_twoOf d 0 [(0, ev_r 0), (1, ev_i a1), (2, ev_i a2), (3, ev_i a3)] [] s Q := by
  refine Ev_iload_n 1 dX12_twoOf_0 rfl rfl ?_
  refine Ev_iconst dX12_twoOf_1 rfl (ev_Rc rfl) ?_
  refine Ev_icmp_ne (tgt := 9) dX12_twoOf_2 rfl (fun c => ?_) (fun c => ?_)
  · replace h := h.1 c
    refine Ev_iload_n 1 dX12_twoOf_9 rfl rfl ?_
    refine Ev_iconst dX12_twoOf_10 rfl (ev_Rc rfl) ?_
    refine Ev_icmp_ne (tgt := 18) dX12_twoOf_11 rfl (fun c => ?_) (fun c => ?_)
    · replace h := h.1 c
      refine Ev_iload_n 1 dX12_twoOf_18 rfl rfl ?_
      refine Ev_iconst dX12_twoOf_19 rfl (ev_Rc rfl) ?_
      refine Ev_icmp_ne (tgt := 27) dX12_twoOf_20 rfl (fun c => ?_) (fun c => ?_)
      · replace h := h.1 c
        refine Ev_iload_n 1 dX12_twoOf_27 rfl rfl ?_
        refine Ev_iconst dX12_twoOf_28 rfl (ev_Rc rfl) ?_
        refine Ev_icmp_ne (tgt := 36) dX12_twoOf_29 rfl (fun c => ?_) (fun c => ?_)
        · replace h := h.1 c
          refine Ev_iload_n 1 dX12_twoOf_36 rfl rfl ?_
          refine Ev_bipushC dX12_twoOf_37 rfl ?_
          refine Ev_icmp_ne (tgt := 53) dX12_twoOf_39 rfl (fun c => ?_) (fun c => ?_)
          · replace h := h.1 c
            refine Ev_iload_n 1 dX12_twoOf_53 rfl rfl ?_
            refine Ev_bipushC dX12_twoOf_54 rfl ?_
            refine Ev_icmp_ne (tgt := 70) dX12_twoOf_56 rfl (fun c => ?_) (fun c => ?_)
            · replace h := h.1 c
              refine Ev_iload_n 1 dX12_twoOf_70 rfl rfl ?_
              refine Ev_bipushC dX12_twoOf_71 rfl ?_
              refine Ev_icmp_ne (tgt := 87) dX12_twoOf_73 rfl (fun c => ?_) (fun c => ?_)
              · replace h := h.1 c
                refine Ev_iload_n 1 dX12_twoOf_87 rfl rfl ?_
                refine Ev_bipushC dX12_twoOf_88 rfl ?_
                refine Ev_icmp_ne (tgt := 99) dX12_twoOf_90 rfl (fun c => ?_) (fun c => ?_)
                · replace h := h.1 c
                  refine Ev_iload_n 2 dX12_twoOf_99 rfl rfl ?_
                  refine Ev_iload_n 3 dX12_twoOf_100 rfl rfl ?_
                  refine Ev_iadd dX12_twoOf_101 ?_
                  refine Ev_if_le (tgt := 109) dX12_twoOf_102 rfl (fun c => ?_) (fun c => ?_)
                  · replace h := h.1 c
                    refine Ev_iconst dX12_twoOf_109 rfl (ev_Rc rfl) ?_
                    exact Ev_iret rfl dX12_twoOf_110 rfl h
                  · replace h := h.2 c
                    refine Ev_iconst dX12_twoOf_105 rfl (ev_Rc rfl) ?_
                    refine Ev_goto (tgt := 110) dX12_twoOf_106 rfl ?_
                    exact Ev_iret rfl dX12_twoOf_110 rfl h
                · replace h := h.2 c
                  refine Ev_iload_n 2 dX12_twoOf_93 rfl rfl ?_
                  refine Ev_iload_n 3 dX12_twoOf_94 rfl rfl ?_
                  refine Ev_imul dX12_twoOf_95 ?_
                  refine Ev_goto (tgt := 110) dX12_twoOf_96 rfl ?_
                  exact Ev_iret rfl dX12_twoOf_110 rfl h
              · replace h := h.2 c
                refine Ev_iload_n 2 dX12_twoOf_76 rfl rfl ?_
                refine Ev_iload_n 3 dX12_twoOf_77 rfl rfl ?_
                refine Ev_icmp_le (tgt := 85) dX12_twoOf_78 rfl (fun c => ?_) (fun c => ?_)
                · replace h := h.1 c
                  refine Ev_iconst dX12_twoOf_85 rfl (ev_Rc rfl) ?_
                  exact Ev_iret rfl dX12_twoOf_86 rfl h
                · replace h := h.2 c
                  refine Ev_iconst dX12_twoOf_81 rfl (ev_Rc rfl) ?_
                  refine Ev_goto (tgt := 86) dX12_twoOf_82 rfl ?_
                  exact Ev_iret rfl dX12_twoOf_86 rfl h
            · replace h := h.2 c
              refine Ev_iload_n 2 dX12_twoOf_59 rfl rfl ?_
              refine Ev_iload_n 3 dX12_twoOf_60 rfl rfl ?_
              refine Ev_icmp_ne (tgt := 68) dX12_twoOf_61 rfl (fun c => ?_) (fun c => ?_)
              · replace h := h.1 c
                refine Ev_iconst dX12_twoOf_68 rfl (ev_Rc rfl) ?_
                exact Ev_iret rfl dX12_twoOf_69 rfl h
              · replace h := h.2 c
                refine Ev_iconst dX12_twoOf_64 rfl (ev_Rc rfl) ?_
                refine Ev_goto (tgt := 69) dX12_twoOf_65 rfl ?_
                exact Ev_iret rfl dX12_twoOf_69 rfl h
          · replace h := h.2 c
            refine Ev_iload_n 2 dX12_twoOf_42 rfl rfl ?_
            refine Ev_iload_n 3 dX12_twoOf_43 rfl rfl ?_
            refine Ev_icmp_ge (tgt := 51) dX12_twoOf_44 rfl (fun c => ?_) (fun c => ?_)
            · replace h := h.1 c
              refine Ev_iconst dX12_twoOf_51 rfl (ev_Rc rfl) ?_
              exact Ev_iret rfl dX12_twoOf_52 rfl h
            · replace h := h.2 c
              refine Ev_iconst dX12_twoOf_47 rfl (ev_Rc rfl) ?_
              refine Ev_goto (tgt := 52) dX12_twoOf_48 rfl ?_
              exact Ev_iret rfl dX12_twoOf_52 rfl h
        · replace h := h.2 c
          refine Ev_iload_n 2 dX12_twoOf_32 rfl rfl ?_
          refine Ev_iload_n 3 dX12_twoOf_33 rfl rfl ?_
          obtain ⟨h0, h⟩ := h
          refine Ev_idiv dX12_twoOf_34 h0 ?_
          exact Ev_iret rfl dX12_twoOf_35 rfl h
      · replace h := h.2 c
        refine Ev_iload_n 2 dX12_twoOf_23 rfl rfl ?_
        refine Ev_iload_n 3 dX12_twoOf_24 rfl rfl ?_
        refine Ev_imul dX12_twoOf_25 ?_
        exact Ev_iret rfl dX12_twoOf_26 rfl h
    · replace h := h.2 c
      refine Ev_iload_n 2 dX12_twoOf_14 rfl rfl ?_
      refine Ev_iload_n 3 dX12_twoOf_15 rfl rfl ?_
      refine Ev_isub dX12_twoOf_16 ?_
      exact Ev_iret rfl dX12_twoOf_17 rfl h
  · replace h := h.2 c
    refine Ev_iload_n 2 dX12_twoOf_5 rfl rfl ?_
    refine Ev_iload_n 3 dX12_twoOf_6 rfl rfl ?_
    refine Ev_iadd dX12_twoOf_7 ?_
    exact Ev_iret rfl dX12_twoOf_8 rfl h
theorem dX12_isSo_0 : decode cX12_isSo 0 = .ok (.aload_n 0, 1) := by decide +kernel
theorem dX12_isSo_1 : decode cX12_isSo 1 = .ok (.getfield 46, 3) := by decide +kernel
theorem dX12_isSo_4 : decode cX12_isSo 4 = .ok (.iload_n 2, 1) := by decide +kernel
theorem dX12_isSo_5 : decode cX12_isSo 5 = .ok (.iaload, 1) := by decide +kernel
theorem dX12_isSo_6 : decode cX12_isSo 6 = .ok (.aload_n 0, 1) := by decide +kernel
theorem dX12_isSo_7 : decode cX12_isSo 7 = .ok (.getfield 49, 3) := by decide +kernel
theorem dX12_isSo_10 : decode cX12_isSo 10 = .ok (.iload_n 2, 1) := by decide +kernel
theorem dX12_isSo_11 : decode cX12_isSo 11 = .ok (.iaload, 1) := by decide +kernel
theorem dX12_isSo_12 : decode cX12_isSo 12 = .ok (.if_icmp .ne 5, 3) := by decide +kernel
theorem dX12_isSo_15 : decode cX12_isSo 15 = .ok (.iconst 1, 1) := by decide +kernel
theorem dX12_isSo_16 : decode cX12_isSo 16 = .ok (.ireturn, 1) := by decide +kernel
theorem dX12_isSo_17 : decode cX12_isSo 17 = .ok (.iconst 0, 1) := by decide +kernel
theorem dX12_isSo_18 : decode cX12_isSo 18 = .ok (.istore_n 3, 1) := by decide +kernel
theorem dX12_isSo_19 : decode cX12_isSo 19 = .ok (.sipush 400, 3) := by decide +kernel
theorem dX12_isSo_22 : decode cX12_isSo 22 = .ok (.iload_n 1, 1) := by decide +kernel
theorem dX12_isSo_23 : decode cX12_isSo 23 = .ok (.imul, 1) := by decide +kernel
theorem dX12_isSo_24 : decode cX12_isSo 24 = .ok (.aload_n 0, 1) := by decide +kernel
theorem dX12_isSo_25 : decode cX12_isSo 25 = .ok (.getfield 46, 3) := by decide +kernel
theorem dX12_isSo_28 : decode cX12_isSo 28 = .ok (.iload_n 2, 1) := by decide +kernel
theorem dX12_isSo_29 : decode cX12_isSo 29 = .ok (.iaload, 1) := by decide +kernel
theorem dX12_isSo_30 : decode cX12_isSo 30 = .ok (.iadd, 1) := by decide +kernel
theorem dX12_isSo_31 : decode cX12_isSo 31 = .ok (.istore 4, 2) := by decide +kernel
theorem dX12_isSo_33 : decode cX12_isSo 33 = .ok (.iload 4, 2) := by decide +kernel
theorem dX12_isSo_35 : decode cX12_isSo 35 = .ok (.sipush 400, 3) := by decide +kernel
theorem dX12_isSo_38 : decode cX12_isSo 38 = .ok (.iload_n 1, 1) := by decide +kernel
theorem dX12_isSo_39 : decode cX12_isSo 39 = .ok (.imul, 1) := by decide +kernel
theorem dX12_isSo_40 : decode cX12_isSo 40 = .ok (.aload_n 0, 1) := by decide +kernel
theorem dX12_isSo_41 : decode cX12_isSo 41 = .ok (.getfield 49, 3) := by decide +kernel
theorem dX12_isSo_44 : decode cX12_isSo 44 = .ok (.iload_n 2, 1) := by decide +kernel
theorem dX12_isSo_45 : decode cX12_isSo 45 = .ok (.iaload, 1) := by decide +kernel
theorem dX12_isSo_46 : decode cX12_isSo 46 = .ok (.iadd, 1) := by decide +kernel
theorem dX12_isSo_47 : decode cX12_isSo 47 = .ok (.if_icmp .ge 145, 3) := by decide +kernel
theorem dX12_isSo_50 : decode cX12_isSo 50 = .ok (.aload_n 0, 1) := by decide +kernel
theorem dX12_isSo_51 : decode cX12_isSo 51 = .ok (.getfield 52, 3) := by decide +kernel
theorem dX12_isSo_54 : decode cX12_isSo 54 = .ok (.iload 4, 2) := by decide +kernel
theorem dX12_isSo_56 : decode cX12_isSo 56 = .ok (.iaload, 1) := by decide +kernel
theorem dX12_isSo_57 : decode cX12_isSo 57 = .ok (.ifCond .eq 14, 3) := by decide +kernel
theorem dX12_isSo_60 : decode cX12_isSo 60 = .ok (.aload_n 0, 1) := by decide +kernel
theorem dX12_isSo_61 : decode cX12_isSo 61 = .ok (.getfield 52, 3) := by decide +kernel
theorem dX12_isSo_64 : decode cX12_isSo 64 = .ok (.iload 4, 2) := by decide +kernel
theorem dX12_isSo_66 : decode cX12_isSo 66 = .ok (.iaload, 1) := by decide +kernel
theorem dX12_isSo_67 : decode cX12_isSo 67 = .ok (.iconst 1, 1) := by decide +kernel
theorem dX12_isSo_68 : decode cX12_isSo 68 = .ok (.if_icmp .ne 48, 3) := by decide +kernel
theorem dX12_isSo_71 : decode cX12_isSo 71 = .ok (.aload_n 0, 1) := by decide +kernel
theorem dX12_isSo_72 : decode cX12_isSo 72 = .ok (.getfield 98, 3) := by decide +kernel
theorem dX12_isSo_75 : decode cX12_isSo 75 = .ok (.iload_n 3, 1) := by decide +kernel
theorem dX12_isSo_76 : decode cX12_isSo 76 = .ok (.aload_n 0, 1) := by decide +kernel
theorem dX12_isSo_77 : decode cX12_isSo 77 = .ok (.getfield 52, 3) := by decide +kernel
theorem dX12_isSo_80 : decode cX12_isSo 80 = .ok (.iload 4, 2) := by decide +kernel
theorem dX12_isSo_82 : decode cX12_isSo 82 = .ok (.iaload, 1) := by decide +kernel
theorem dX12_isSo_83 : decode cX12_isSo 83 = .ok (.ifCond .ne 13, 3) := by decide +kernel
theorem dX12_isSo_86 : decode cX12_isSo 86 = .ok (.aload_n 0, 1) := by decide +kernel
theorem dX12_isSo_87 : decode cX12_isSo 87 = .ok (.getfield 55, 3) := by decide +kernel
theorem dX12_isSo_90 : decode cX12_isSo 90 = .ok (.iload 4, 2) := by decide +kernel
theorem dX12_isSo_92 : decode cX12_isSo 92 = .ok (.iaload, 1) := by decide +kernel
theorem dX12_isSo_93 : decode cX12_isSo 93 = .ok (.goto 15, 3) := by decide +kernel
theorem dX12_isSo_96 : decode cX12_isSo 96 = .ok (.aload_n 0, 1) := by decide +kernel
theorem dX12_isSo_97 : decode cX12_isSo 97 = .ok (.getfield 95, 3) := by decide +kernel
theorem dX12_isSo_100 : decode cX12_isSo 100 = .ok (.aload_n 0, 1) := by decide +kernel
theorem dX12_isSo_101 : decode cX12_isSo 101 = .ok (.getfield 55, 3) := by decide +kernel
theorem dX12_isSo_104 : decode cX12_isSo 104 = .ok (.iload 4, 2) := by decide +kernel
theorem dX12_isSo_106 : decode cX12_isSo 106 = .ok (.iaload, 1) := by decide +kernel
theorem dX12_isSo_107 : decode cX12_isSo 107 = .ok (.iaload, 1) := by decide +kernel
theorem dX12_isSo_108 : decode cX12_isSo 108 = .ok (.iastore, 1) := by decide +kernel
theorem dX12_isSo_109 : decode cX12_isSo 109 = .ok (.iload_n 3, 1) := by decide +kernel
theorem dX12_isSo_110 : decode cX12_isSo 110 = .ok (.iconst 1, 1) := by decide +kernel
theorem dX12_isSo_111 : decode cX12_isSo 111 = .ok (.iadd, 1) := by decide +kernel
theorem dX12_isSo_112 : decode cX12_isSo 112 = .ok (.istore_n 3, 1) := by decide +kernel
theorem dX12_isSo_113 : decode cX12_isSo 113 = .ok (.goto 73, 3) := by decide +kernel
theorem dX12_isSo_116 : decode cX12_isSo 116 = .ok (.aload_n 0, 1) := by decide +kernel
theorem dX12_isSo_117 : decode cX12_isSo 117 = .ok (.getfield 52, 3) := by decide +kernel
theorem dX12_isSo_120 : decode cX12_isSo 120 = .ok (.iload 4, 2) := by decide +kernel
theorem dX12_isSo_122 : decode cX12_isSo 122 = .ok (.iaload, 1) := by decide +kernel
theorem dX12_isSo_123 : decode cX12_isSo 123 = .ok (.bipush 9, 2) := by decide +kernel
theorem dX12_isSo_125 : decode cX12_isSo 125 = .ok (.if_icmp .ne 24, 3) := by decide +kernel
theorem dX12_isSo_128 : decode cX12_isSo 128 = .ok (.aload_n 0, 1) := by decide +kernel
theorem dX12_isSo_129 : decode cX12_isSo 129 = .ok (.getfield 98, 3) := by decide +kernel
theorem dX12_isSo_132 : decode cX12_isSo 132 = .ok (.iload_n 3, 1) := by decide +kernel
theorem dX12_isSo_133 : decode cX12_isSo 133 = .ok (.iconst 1, 1) := by decide +kernel
theorem dX12_isSo_134 : decode cX12_isSo 134 = .ok (.isub, 1) := by decide +kernel
theorem dX12_isSo_135 : decode cX12_isSo 135 = .ok (.iconst 1, 1) := by decide +kernel
theorem dX12_isSo_136 : decode cX12_isSo 136 = .ok (.aload_n 0, 1) := by decide +kernel
theorem dX12_isSo_137 : decode cX12_isSo 137 = .ok (.getfield 98, 3) := by decide +kernel
theorem dX12_isSo_140 : decode cX12_isSo 140 = .ok (.iload_n 3, 1) := by decide +kernel
theorem dX12_isSo_141 : decode cX12_isSo 141 = .ok (.iconst 1, 1) := by decide +kernel
theorem dX12_isSo_142 : decode cX12_isSo 142 = .ok (.isub, 1) := by decide +kernel
theorem dX12_isSo_143 : decode cX12_isSo 143 = .ok (.iaload, 1) := by decide +kernel
theorem dX12_isSo_144 : decode cX12_isSo 144 = .ok (.isub, 1) := by decide +kernel
theorem dX12_isSo_145 : decode cX12_isSo 145 = .ok (.iastore, 1) := by decide +kernel
theorem dX12_isSo_146 : decode cX12_isSo 146 = .ok (.goto 40, 3) := by decide +kernel
theorem dX12_isSo_149 : decode cX12_isSo 149 = .ok (.iload_n 3, 1) := by decide +kernel
theorem dX12_isSo_150 : decode cX12_isSo 150 = .ok (.iconst 1, 1) := by decide +kernel
theorem dX12_isSo_151 : decode cX12_isSo 151 = .ok (.isub, 1) := by decide +kernel
theorem dX12_isSo_152 : decode cX12_isSo 152 = .ok (.istore_n 3, 1) := by decide +kernel
theorem dX12_isSo_153 : decode cX12_isSo 153 = .ok (.aload_n 0, 1) := by decide +kernel
theorem dX12_isSo_154 : decode cX12_isSo 154 = .ok (.getfield 98, 3) := by decide +kernel
theorem dX12_isSo_157 : decode cX12_isSo 157 = .ok (.iload_n 3, 1) := by decide +kernel
theorem dX12_isSo_158 : decode cX12_isSo 158 = .ok (.iconst 1, 1) := by decide +kernel
theorem dX12_isSo_159 : decode cX12_isSo 159 = .ok (.isub, 1) := by decide +kernel
theorem dX12_isSo_160 : decode cX12_isSo 160 = .ok (.aload_n 0, 1) := by decide +kernel
theorem dX12_isSo_161 : decode cX12_isSo 161 = .ok (.aload_n 0, 1) := by decide +kernel
theorem dX12_isSo_162 : decode cX12_isSo 162 = .ok (.getfield 52, 3) := by decide +kernel
theorem dX12_isSo_165 : decode cX12_isSo 165 = .ok (.iload 4, 2) := by decide +kernel
theorem dX12_isSo_167 : decode cX12_isSo 167 = .ok (.iaload, 1) := by decide +kernel
theorem dX12_isSo_168 : decode cX12_isSo 168 = .ok (.aload_n 0, 1) := by decide +kernel
theorem dX12_isSo_169 : decode cX12_isSo 169 = .ok (.getfield 98, 3) := by decide +kernel
theorem dX12_isSo_172 : decode cX12_isSo 172 = .ok (.iload_n 3, 1) := by decide +kernel
theorem dX12_isSo_173 : decode cX12_isSo 173 = .ok (.iconst 1, 1) := by decide +kernel
theorem dX12_isSo_174 : decode cX12_isSo 174 = .ok (.isub, 1) := by decide +kernel
theorem dX12_isSo_175 : decode cX12_isSo 175 = .ok (.iaload, 1) := by decide +kernel
theorem dX12_isSo_176 : decode cX12_isSo 176 = .ok (.aload_n 0, 1) := by decide +kernel
theorem dX12_isSo_177 : decode cX12_isSo 177 = .ok (.getfield 98, 3) := by decide +kernel
theorem dX12_isSo_180 : decode cX12_isSo 180 = .ok (.iload_n 3, 1) := by decide +kernel
theorem dX12_isSo_181 : decode cX12_isSo 181 = .ok (.iaload, 1) := by decide +kernel
theorem dX12_isSo_182 : decode cX12_isSo 182 = .ok (.invokevirtual 359, 3) := by decide +kernel
theorem dX12_isSo_185 : decode cX12_isSo 185 = .ok (.iastore, 1) := by decide +kernel
theorem dX12_isSo_186 : decode cX12_isSo 186 = .ok (.iinc 4 1, 3) := by decide +kernel
theorem dX12_isSo_189 : decode cX12_isSo 189 = .ok (.goto (-156), 3) := by decide +kernel
theorem dX12_isSo_192 : decode cX12_isSo 192 = .ok (.aload_n 0, 1) := by decide +kernel
theorem dX12_isSo_193 : decode cX12_isSo 193 = .ok (.getfield 98, 3) := by decide +kernel
theorem dX12_isSo_196 : decode cX12_isSo 196 = .ok (.iconst 0, 1) := by decide +kernel
theorem dX12_isSo_197 : decode cX12_isSo 197 = .ok (.iaload, 1) := by decide +kernel
theorem dX12_isSo_198 : decode cX12_isSo 198 = .ok (.ifCond .eq 7, 3) := by decide +kernel
theorem dX12_isSo_201 : decode cX12_isSo 201 = .ok (.iconst 1, 1) := by decide +kernel
theorem dX12_isSo_202 : decode cX12_isSo 202 = .ok (.goto 4, 3) := by decide +kernel
theorem dX12_isSo_205 : decode cX12_isSo 205 = .ok (.iconst 0, 1) := by decide +kernel
theorem dX12_isSo_206 : decode cX12_isSo 206 = .ok (.ireturn, 1) := by decide +kernel
theorem wp_X12_isSo_0 {d : Nat} {s : ev_S} {Q : Option ev_V → ev_S → Prop} {a1 a2 : Int}
    (h : ((0 ≤ a2 ∧ a2 < (32 : Nat)) ∧ ((0 ≤ a2 ∧ a2 < (32 : Nat)) ∧ (((s 13 (Int.toNat a2)) ≠ (s 14 (Int.toNat a2)) → ((0 ≤ a2 ∧ a2 < (32 : Nat)) ∧ Ev layM M_X12_isSo (d + 1) 33 [(0, ev_r 0), (1, ev_i a1), (2, ev_i a2), (3, ev_i 0), (4, ev_i (ev_add (ev_mul 400 a1) (s 13 (Int.toNat a2))))] [] s Q)) ∧ ((s 13 (Int.toNat a2)) = (s 14 (Int.toNat a2)) → Q (some (ev_i 1)) s))))) :
    Ev layM M_X12_isSo (d + 1) 0 [(0, ev_r 0), (1, ev_i a1), (2, ev_i a2)] [] s Q := by
  refine Ev_aload_n 0 dX12_isSo_0 rfl rfl ?_
  refine Ev_getR (i := 27) cl_X12 yM_0 (Nat.le_of_ble_eq_true rfl) rfl wd_1471 dX12_isSo_1 ?_
  refine Ev_iload_n 2 dX12_isSo_4 rfl rfl ?_
  obtain ⟨h0, h⟩ := h
  refine Ev_iald yM_13 h0 dX12_isSo_5 ?_
  refine Ev_aload_n 0 dX12_isSo_6 rfl rfl ?_
  refine Ev_getR (i := 28) cl_X12 yM_0 (Nat.le_of_ble_eq_true rfl) rfl wd_1472 dX12_isSo_7 ?_
  refine Ev_iload_n 2 dX12_isSo_10 rfl rfl ?_
  obtain ⟨h0, h⟩ := h
  refine Ev_iald yM_14 h0 dX12_isSo_11 ?_
  refine Ev_icmp_ne (tgt := 17) dX12_isSo_12 rfl (fun c => ?_) (fun c => ?_)
  · replace h := h.1 c
    refine Ev_iconst dX12_isSo_17 rfl (ev_Rc rfl) ?_
    refine Ev_istore_n (l' := [(3, ev_i 0), (0, ev_r 0), (1, ev_i a1), (2, ev_i a2)]) dX12_isSo_18 rfl (Nat.le_of_ble_eq_true rfl) rfl ?_
    refine Ev_sipushC dX12_isSo_19 rfl ?_
    refine Ev_iload_n 2 dX12_isSo_22 rfl rfl ?_
    refine Ev_imul dX12_isSo_23 ?_
    refine Ev_aload_n 1 dX12_isSo_24 rfl rfl ?_
    refine Ev_getR (i := 27) cl_X12 yM_0 (Nat.le_of_ble_eq_true rfl) rfl wd_1471 dX12_isSo_25 ?_
    refine Ev_iload_n 3 dX12_isSo_28 rfl rfl ?_
    obtain ⟨h0, h⟩ := h
    refine Ev_iald yM_13 h0 dX12_isSo_29 ?_
    refine Ev_iadd dX12_isSo_30 ?_
    refine Ev_istore (l' := [(4, ev_i (ev_add (ev_mul 400 a1) (s 13 (Int.toNat a2)))), (3, ev_i 0), (0, ev_r 0), (1, ev_i a1), (2, ev_i a2)]) dX12_isSo_31 (Nat.le_of_ble_eq_true rfl) rfl ?_
    exact Ev_sub [2, 3, 4, 1, 0] rfl h
  · replace h := h.2 c
    refine Ev_iconst dX12_isSo_15 rfl (ev_Rc rfl) ?_
    exact Ev_iret rfl dX12_isSo_16 (ev_nb (by decide)) h
theorem wp_X12_isSo_33 {d : Nat} {s : ev_S} {Q : Option ev_V → ev_S → Prop} {a1 a2 a3 a4 : Int}
    (h : ((0 ≤ a2 ∧ a2 < (32 : Nat)) ∧ (((ev_add (ev_mul 400 a1) (s 14 (Int.toNat a2))) ≤ a4 → (((s 29 0) = 0 → Q (some (ev_i 0)) s) ∧ ((s 29 0) ≠ 0 → Q (some (ev_i 1)) s))) ∧ (a4 < (ev_add (ev_mul 400 a1) (s 14 (Int.toNat a2))) → ((0 ≤ a4 ∧ a4 < (800 : Nat)) ∧ (((s 15 (Int.toNat a4)) = 0 → Ev layM M_X12_isSo (d + 1) 71 [(0, ev_r 0), (1, ev_i a1), (2, ev_i a2), (3, ev_i a3), (4, ev_i a4)] [] s Q) ∧ ((s 15 (Int.toNat a4)) ≠ 0 → ((0 ≤ a4 ∧ a4 < (800 : Nat)) ∧ (((s 15 (Int.toNat a4)) ≠ 1 → ((0 ≤ a4 ∧ a4 < (800 : Nat)) ∧ (((s 15 (Int.toNat a4)) ≠ 9 → ((0 ≤ a4 ∧ a4 < (800 : Nat)) ∧ ((0 ≤ (ev_sub (ev_sub a3 1) 1) ∧ (ev_sub (ev_sub a3 1) 1) < (420 : Nat)) ∧ ((0 ≤ (ev_sub a3 1) ∧ (ev_sub a3 1) < (420 : Nat)) ∧ (Ev layM M_X12_twoOf d 0 [(0, ev_r 0), (1, ev_i (s 15 (Int.toNat a4))), (2, ev_i (s 29 (Int.toNat (ev_sub (ev_sub a3 1) 1)))), (3, ev_i (s 29 (Int.toNat (ev_sub a3 1))))] [] s (ev_pi (fun r2 s1 => ((0 ≤ (ev_sub (ev_sub a3 1) 1) ∧ (ev_sub (ev_sub a3 1) 1) < (420 : Nat)) ∧ ∀ s3, ev_up s1 29 (Int.toNat (ev_sub (ev_sub a3 1) 1)) r2 = s3 → Ev layM M_X12_isSo (d + 1) 33 [(0, ev_r 0), (1, ev_i a1), (2, ev_i a2), (3, ev_i (ev_sub a3 1)), (4, ev_i (ev_add a4 1))] [] s3 Q)))))))) ∧ ((s 15 (Int.toNat a4)) = 9 → ((0 ≤ (ev_sub a3 1) ∧ (ev_sub a3 1) < (420 : Nat)) ∧ ((0 ≤ (ev_sub a3 1) ∧ (ev_sub a3 1) < (420 : Nat)) ∧ ∀ s4, ev_up s 29 (Int.toNat (ev_sub a3 1)) (ev_sub 1 (s 29 (Int.toNat (ev_sub a3 1)))) = s4 → Ev layM M_X12_isSo (d + 1) 33 [(0, ev_r 0), (1, ev_i a1), (2, ev_i a2), (3, ev_i a3), (4, ev_i (ev_add a4 1))] [] s4 Q)))))) ∧ ((s 15 (Int.toNat a4)) = 1 → Ev layM M_X12_isSo (d + 1) 71 [(0, ev_r 0), (1, ev_i a1), (2, ev_i a2), (3, ev_i a3), (4, ev_i a4)] [] s Q)))))))))) :
    Ev layM M_X12_isSo (d + 1) 33 [(0, ev_r 0), (1, ev_i a1), (2, ev_i a2), (3, ev_i a3), (4, ev_i a4)] [] s Q := by
  refine Ev_iload 4 dX12_isSo_33 rfl ?_
  refine Ev_sipushC dX12_isSo_35 rfl ?_
  refine Ev_iload_n 1 dX12_isSo_38 rfl rfl ?_
  refine Ev_imul dX12_isSo_39 ?_
  refine Ev_aload_n 0 dX12_isSo_40 rfl rfl ?_
  refine Ev_getR (i := 28) cl_X12 yM_0 (Nat.le_of_ble_eq_true rfl) rfl wd_1472 dX12_isSo_41 ?_
  refine Ev_iload_n 2 dX12_isSo_44 rfl rfl ?_
  obtain ⟨h0, h⟩ := h
  refine Ev_iald yM_14 h0 dX12_isSo_45 ?_
  refine Ev_iadd dX12_isSo_46 ?_
  refine Ev_icmp_ge (tgt := 192) dX12_isSo_47 rfl (fun c => ?_) (fun c => ?_)
  · replace h := h.1 c
    refine Ev_aload_n 0 dX12_isSo_192 rfl rfl ?_
    refine Ev_getR (i := 52) cl_X12 yM_0 (Nat.le_of_ble_eq_true rfl) rfl wd_1496 dX12_isSo_193 ?_
    refine Ev_iconst dX12_isSo_196 rfl (ev_Rc rfl) ?_
    refine Ev_iald yM_29 (by decide) dX12_isSo_197 ?_
    refine Ev_if_eq (tgt := 205) dX12_isSo_198 rfl (fun c => ?_) (fun c => ?_)
    · replace h := h.1 c
      refine Ev_iconst dX12_isSo_205 rfl (ev_Rc rfl) ?_
      exact Ev_iret rfl dX12_isSo_206 (ev_nb (by decide)) h
    · replace h := h.2 c
      refine Ev_iconst dX12_isSo_201 rfl (ev_Rc rfl) ?_
      refine Ev_goto (tgt := 206) dX12_isSo_202 rfl ?_
      exact Ev_iret rfl dX12_isSo_206 (ev_nb (by decide)) h
  · replace h := h.2 c
    refine Ev_aload_n 0 dX12_isSo_50 rfl rfl ?_
    refine Ev_getR (i := 29) cl_X12 yM_0 (Nat.le_of_ble_eq_true rfl) rfl wd_1473 dX12_isSo_51 ?_
    refine Ev_iload 4 dX12_isSo_54 rfl ?_
    obtain ⟨h0, h⟩ := h
    refine Ev_iald yM_15 h0 dX12_isSo_56 ?_
    refine Ev_if_eq (tgt := 71) dX12_isSo_57 rfl (fun c => ?_) (fun c => ?_)
    · replace h := h.1 c
      exact Ev_sub [0, 1, 2, 3, 4] rfl h
    · replace h := h.2 c
      refine Ev_aload_n 0 dX12_isSo_60 rfl rfl ?_
      refine Ev_getR (i := 29) cl_X12 yM_0 (Nat.le_of_ble_eq_true rfl) rfl wd_1473 dX12_isSo_61 ?_
      refine Ev_iload 4 dX12_isSo_64 rfl ?_
      obtain ⟨h0, h⟩ := h
      refine Ev_iald yM_15 h0 dX12_isSo_66 ?_
      refine Ev_iconst dX12_isSo_67 rfl (ev_Rc rfl) ?_
      refine Ev_icmp_ne (tgt := 116) dX12_isSo_68 rfl (fun c => ?_) (fun c => ?_)
      · replace h := h.1 c
        refine Ev_aload_n 0 dX12_isSo_116 rfl rfl ?_
        refine Ev_getR (i := 29) cl_X12 yM_0 (Nat.le_of_ble_eq_true rfl) rfl wd_1473 dX12_isSo_117 ?_
        refine Ev_iload 4 dX12_isSo_120 rfl ?_
        obtain ⟨h0, h⟩ := h
        refine Ev_iald yM_15 h0 dX12_isSo_122 ?_
        refine Ev_bipushC dX12_isSo_123 rfl ?_
        refine Ev_icmp_ne (tgt := 149) dX12_isSo_125 rfl (fun c => ?_) (fun c => ?_)
        · replace h := h.1 c
          refine Ev_iload_n 3 dX12_isSo_149 rfl rfl ?_
          refine Ev_iconst dX12_isSo_150 rfl (ev_Rc rfl) ?_
          refine Ev_isub dX12_isSo_151 ?_
          refine Ev_istore_n (l' := [(3, ev_i (ev_sub a3 1)), (0, ev_r 0), (1, ev_i a1), (2, ev_i a2), (4, ev_i a4)]) dX12_isSo_152 rfl (Nat.le_of_ble_eq_true rfl) rfl ?_
          refine Ev_aload_n 1 dX12_isSo_153 rfl rfl ?_
          refine Ev_getR (i := 52) cl_X12 yM_0 (Nat.le_of_ble_eq_true rfl) rfl wd_1496 dX12_isSo_154 ?_
          refine Ev_iload_n 0 dX12_isSo_157 rfl rfl ?_
          refine Ev_iconst dX12_isSo_158 rfl (ev_Rc rfl) ?_
          refine Ev_isub dX12_isSo_159 ?_
          refine Ev_aload_n 1 dX12_isSo_160 rfl rfl ?_
          refine Ev_aload_n 1 dX12_isSo_161 rfl rfl ?_
          refine Ev_getR (i := 29) cl_X12 yM_0 (Nat.le_of_ble_eq_true rfl) rfl wd_1473 dX12_isSo_162 ?_
          refine Ev_iload 4 dX12_isSo_165 rfl ?_
          obtain ⟨h0, h⟩ := h
          refine Ev_iald yM_15 h0 dX12_isSo_167 ?_
          refine Ev_aload_n 1 dX12_isSo_168 rfl rfl ?_
          refine Ev_getR (i := 52) cl_X12 yM_0 (Nat.le_of_ble_eq_true rfl) rfl wd_1496 dX12_isSo_169 ?_
          refine Ev_iload_n 0 dX12_isSo_172 rfl rfl ?_
          refine Ev_iconst dX12_isSo_173 rfl (ev_Rc rfl) ?_
          refine Ev_isub dX12_isSo_174 ?_
          obtain ⟨h0, h⟩ := h
          refine Ev_iald yM_29 h0 dX12_isSo_175 ?_
          refine Ev_aload_n 1 dX12_isSo_176 rfl rfl ?_
          refine Ev_getR (i := 52) cl_X12 yM_0 (Nat.le_of_ble_eq_true rfl) rfl wd_1496 dX12_isSo_177 ?_
          refine Ev_iload_n 0 dX12_isSo_180 rfl rfl ?_
          obtain ⟨h0, h⟩ := h
          refine Ev_iald yM_29 h0 dX12_isSo_181 ?_
          refine Ev_callV (As := [ev_i (s 15 (Int.toNat a4)), ev_i (s 29 (Int.toNat (ev_sub (ev_sub a3 1) 1))), ev_i (s 29 (Int.toNat (ev_sub a3 1)))]) (b := 0) (st := [ev_i (ev_sub (ev_sub a3 1) 1), ev_r 29]) (M' := M_X12_twoOf) cm_X12_twoOf wd_1930 wd_1932 wd_131 yM_0 cl_X12 rfl dX12_isSo_182 (Nat.le_refl _) rfl (Nat.le_of_ble_eq_true rfl) (Nat.le_of_ble_eq_true rfl) h (fun v u h hk => ?_)
          obtain ⟨r2, rfl⟩ := hk
          obtain ⟨s1, rfl⟩ : ∃ x, x = u := ⟨_, rfl⟩
          replace h := h r2 rfl
          obtain ⟨h0, h⟩ := h
          refine Ev_iast yM_29 h0 dX12_isSo_185 (Ev_nm (fun s3 es3 => ?_))
          replace h := h s3 es3
          refine Ev_iinc (j := 4) (l' := [(4, ev_i (ev_add a4 1)), (3, ev_i (ev_sub a3 1)), (0, ev_r 0), (1, ev_i a1), (2, ev_i a2)]) dX12_isSo_186 rfl (Nat.le_of_ble_eq_true rfl) rfl ?_
          refine Ev_goto (tgt := 33) dX12_isSo_189 rfl ?_
          exact Ev_sub [2, 3, 4, 1, 0] rfl h
        · replace h := h.2 c
          refine Ev_aload_n 0 dX12_isSo_128 rfl rfl ?_
          refine Ev_getR (i := 52) cl_X12 yM_0 (Nat.le_of_ble_eq_true rfl) rfl wd_1496 dX12_isSo_129 ?_
          refine Ev_iload_n 3 dX12_isSo_132 rfl rfl ?_
          refine Ev_iconst dX12_isSo_133 rfl (ev_Rc rfl) ?_
          refine Ev_isub dX12_isSo_134 ?_
          refine Ev_iconst dX12_isSo_135 rfl (ev_Rc rfl) ?_
          refine Ev_aload_n 0 dX12_isSo_136 rfl rfl ?_
          refine Ev_getR (i := 52) cl_X12 yM_0 (Nat.le_of_ble_eq_true rfl) rfl wd_1496 dX12_isSo_137 ?_
          refine Ev_iload_n 3 dX12_isSo_140 rfl rfl ?_
          refine Ev_iconst dX12_isSo_141 rfl (ev_Rc rfl) ?_
          refine Ev_isub dX12_isSo_142 ?_
          obtain ⟨h0, h⟩ := h
          refine Ev_iald yM_29 h0 dX12_isSo_143 ?_
          refine Ev_isub dX12_isSo_144 ?_
          obtain ⟨h0, h⟩ := h
          refine Ev_iast yM_29 h0 dX12_isSo_145 (Ev_nm (fun s4 es4 => ?_))
          replace h := h s4 es4
          refine Ev_goto (tgt := 186) dX12_isSo_146 rfl ?_
          refine Ev_iinc (j := 4) (l' := [(4, ev_i (ev_add a4 1)), (0, ev_r 0), (1, ev_i a1), (2, ev_i a2), (3, ev_i a3)]) dX12_isSo_186 rfl (Nat.le_of_ble_eq_true rfl) rfl ?_
          refine Ev_goto (tgt := 33) dX12_isSo_189 rfl ?_
          exact Ev_sub [1, 2, 3, 4, 0] rfl h
      · replace h := h.2 c
        exact Ev_sub [0, 1, 2, 3, 4] rfl h
theorem wp_X12_isSo_71 {d : Nat} {s : ev_S} {Q : Option ev_V → ev_S → Prop} {a1 a2 a3 a4 : Int}
    (h : ((0 ≤ a4 ∧ a4 < (800 : Nat)) ∧ (((s 15 (Int.toNat a4)) ≠ 0 → ((0 ≤ a4 ∧ a4 < (800 : Nat)) ∧ ((0 ≤ (s 16 (Int.toNat a4)) ∧ (s 16 (Int.toNat a4)) < (9 : Nat)) ∧ ((0 ≤ a3 ∧ a3 < (420 : Nat)) ∧ ∀ s1, ev_up s 29 (Int.toNat a3) (s 28 (Int.toNat (s 16 (Int.toNat a4)))) = s1 → Ev layM M_X12_isSo (d + 1) 33 [(0, ev_r 0), (1, ev_i a1), (2, ev_i a2), (3, ev_i (ev_add a3 1)), (4, ev_i (ev_add a4 1))] [] s1 Q)))) ∧ ((s 15 (Int.toNat a4)) = 0 → ((0 ≤ a4 ∧ a4 < (800 : Nat)) ∧ ((0 ≤ a3 ∧ a3 < (420 : Nat)) ∧ ∀ s2, ev_up s 29 (Int.toNat a3) (s 16 (Int.toNat a4)) = s2 → Ev layM M_X12_isSo (d + 1) 33 [(0, ev_r 0), (1, ev_i a1), (2, ev_i a2), (3, ev_i (ev_add a3 1)), (4, ev_i (ev_add a4 1))] [] s2 Q)))))) :
    Ev layM M_X12_isSo (d + 1) 71 [(0, ev_r 0), (1, ev_i a1), (2, ev_i a2), (3, ev_i a3), (4, ev_i a4)] [] s Q := by
  refine Ev_aload_n 0 dX12_isSo_71 rfl rfl ?_
  refine Ev_getR (i := 52) cl_X12 yM_0 (Nat.le_of_ble_eq_true rfl) rfl wd_1496 dX12_isSo_72 ?_
  refine Ev_iload_n 3 dX12_isSo_75 rfl rfl ?_
  refine Ev_aload_n 0 dX12_isSo_76 rfl rfl ?_
  refine Ev_getR (i := 29) cl_X12 yM_0 (Nat.le_of_ble_eq_true rfl) rfl wd_1473 dX12_isSo_77 ?_
  refine Ev_iload 4 dX12_isSo_80 rfl ?_
  obtain ⟨h0, h⟩ := h
  refine Ev_iald yM_15 h0 dX12_isSo_82 ?_
  refine Ev_if_ne (tgt := 96) dX12_isSo_83 rfl (fun c => ?_) (fun c => ?_)
  · replace h := h.1 c
    refine Ev_aload_n 0 dX12_isSo_96 rfl rfl ?_
    refine Ev_getR (i := 51) cl_X12 yM_0 (Nat.le_of_ble_eq_true rfl) rfl wd_1495 dX12_isSo_97 ?_
    refine Ev_aload_n 0 dX12_isSo_100 rfl rfl ?_
    refine Ev_getR (i := 30) cl_X12 yM_0 (Nat.le_of_ble_eq_true rfl) rfl wd_1474 dX12_isSo_101 ?_
    refine Ev_iload 4 dX12_isSo_104 rfl ?_
    obtain ⟨h0, h⟩ := h
    refine Ev_iald yM_16 h0 dX12_isSo_106 ?_
    obtain ⟨h0, h⟩ := h
    refine Ev_iald yM_28 h0 dX12_isSo_107 ?_
    obtain ⟨h0, h⟩ := h
    refine Ev_iast yM_29 h0 dX12_isSo_108 (Ev_nm (fun s1 es1 => ?_))
    replace h := h s1 es1
    refine Ev_iload_n 3 dX12_isSo_109 rfl rfl ?_
    refine Ev_iconst dX12_isSo_110 rfl (ev_Rc rfl) ?_
    refine Ev_iadd dX12_isSo_111 ?_
    refine Ev_istore_n (l' := [(3, ev_i (ev_add a3 1)), (0, ev_r 0), (1, ev_i a1), (2, ev_i a2), (4, ev_i a4)]) dX12_isSo_112 rfl (Nat.le_of_ble_eq_true rfl) rfl ?_
    refine Ev_goto (tgt := 186) dX12_isSo_113 rfl ?_
    refine Ev_iinc (j := 4) (l' := [(4, ev_i (ev_add a4 1)), (3, ev_i (ev_add a3 1)), (0, ev_r 0), (1, ev_i a1), (2, ev_i a2)]) dX12_isSo_186 rfl (Nat.le_of_ble_eq_true rfl) rfl ?_
    refine Ev_goto (tgt := 33) dX12_isSo_189 rfl ?_
    exact Ev_sub [2, 3, 4, 1, 0] rfl h
  · replace h := h.2 c
    refine Ev_aload_n 0 dX12_isSo_86 rfl rfl ?_
    refine Ev_getR (i := 30) cl_X12 yM_0 (Nat.le_of_ble_eq_true rfl) rfl wd_1474 dX12_isSo_87 ?_
    refine Ev_iload 4 dX12_isSo_90 rfl ?_
    obtain ⟨h0, h⟩ := h
    refine Ev_iald yM_16 h0 dX12_isSo_92 ?_
    refine Ev_goto (tgt := 108) dX12_isSo_93 rfl ?_
    obtain ⟨h0, h⟩ := h
    refine Ev_iast yM_29 h0 dX12_isSo_108 (Ev_nm (fun s2 es2 => ?_))
    replace h := h s2 es2
    refine Ev_iload_n 3 dX12_isSo_109 rfl rfl ?_
    refine Ev_iconst dX12_isSo_110 rfl (ev_Rc rfl) ?_
    refine Ev_iadd dX12_isSo_111 ?_
    refine Ev_istore_n (l' := [(3, ev_i (ev_add a3 1)), (0, ev_r 0), (1, ev_i a1), (2, ev_i a2), (4, ev_i a4)]) dX12_isSo_112 rfl (Nat.le_of_ble_eq_true rfl) rfl ?_
    refine Ev_goto (tgt := 186) dX12_isSo_113 rfl ?_
    refine Ev_iinc (j := 4) (l' := [(4, ev_i (ev_add a4 1)), (3, ev_i (ev_add a3 1)), (0, ev_r 0), (1, ev_i a1), (2, ev_i a2)]) dX12_isSo_186 rfl (Nat.le_of_ble_eq_true rfl) rfl ?_
    refine Ev_goto (tgt := 33) dX12_isSo_189 rfl ?_
    exact Ev_sub [2, 3, 4, 1, 0] rfl h
theorem dX12_isSpoilt_0 : decode cX12_isSpoilt 0 = .ok (.iconst 0, 1) := by decide +kernel
theorem dX12_isSpoilt_1 : decode cX12_isSpoilt 1 = .ok (.istore_n 2, 1) := by decide +kernel
theorem dX12_isSpoilt_2 : decode cX12_isSpoilt 2 = .ok (.iload_n 2, 1) := by decide +kernel
theorem dX12_isSpoilt_3 : decode cX12_isSpoilt 3 = .ok (.aload_n 0, 1) := by decide +kernel
theorem dX12_isSpoilt_4 : decode cX12_isSpoilt 4 = .ok (.getfield 162, 3) := by decide +kernel
theorem dX12_isSpoilt_7 : decode cX12_isSpoilt 7 = .ok (.if_icmp .ge 46, 3) := by decide +kernel
theorem dX12_isSpoilt_10 : decode cX12_isSpoilt 10 = .ok (.aload_n 0, 1) := by decide +kernel
theorem dX12_isSpoilt_11 : decode cX12_isSpoilt 11 = .ok (.getfield 25, 3) := by decide +kernel
theorem dX12_isSpoilt_14 : decode cX12_isSpoilt 14 = .ok (.iload_n 2, 1) := by decide +kernel
theorem dX12_isSpoilt_15 : decode cX12_isSpoilt 15 = .ok (.iaload, 1) := by decide +kernel
theorem dX12_isSpoilt_16 : decode cX12_isSpoilt 16 = .ok (.iload_n 1, 1) := by decide +kernel
theorem dX12_isSpoilt_17 : decode cX12_isSpoilt 17 = .ok (.if_icmp .ne 30, 3) := by decide +kernel
theorem dX12_isSpoilt_20 : decode cX12_isSpoilt 20 = .ok (.aload_n 0, 1) := by decide +kernel
theorem dX12_isSpoilt_21 : decode cX12_isSpoilt 21 = .ok (.aload_n 0, 1) := by decide +kernel
theorem dX12_isSpoilt_22 : decode cX12_isSpoilt 22 = .ok (.getfield 7, 3) := by decide +kernel
theorem dX12_isSpoilt_25 : decode cX12_isSpoilt 25 = .ok (.iconst 0, 1) := by decide +kernel
theorem dX12_isSpoilt_26 : decode cX12_isSpoilt 26 = .ok (.iaload, 1) := by decide +kernel
theorem dX12_isSpoilt_27 : decode cX12_isSpoilt 27 = .ok (.aload_n 0, 1) := by decide +kernel
theorem dX12_isSpoilt_28 : decode cX12_isSpoilt 28 = .ok (.getfield 28, 3) := by decide +kernel
theorem dX12_isSpoilt_31 : decode cX12_isSpoilt 31 = .ok (.iload_n 2, 1) := by decide +kernel
theorem dX12_isSpoilt_32 : decode cX12_isSpoilt 32 = .ok (.iaload, 1) := by decide +kernel
theorem dX12_isSpoilt_33 : decode cX12_isSpoilt 33 = .ok (.aload_n 0, 1) := by decide +kernel
theorem dX12_isSpoilt_34 : decode cX12_isSpoilt 34 = .ok (.getfield 31, 3) := by decide +kernel
theorem dX12_isSpoilt_37 : decode cX12_isSpoilt 37 = .ok (.iload_n 2, 1) := by decide +kernel
theorem dX12_isSpoilt_38 : decode cX12_isSpoilt 38 = .ok (.iaload, 1) := by decide +kernel
theorem dX12_isSpoilt_39 : decode cX12_isSpoilt 39 = .ok (.invokevirtual 158, 3) := by decide +kernel
theorem dX12_isSpoilt_42 : decode cX12_isSpoilt 42 = .ok (.ifCond .eq 5, 3) := by decide +kernel
theorem dX12_isSpoilt_45 : decode cX12_isSpoilt 45 = .ok (.iconst 1, 1) := by decide +kernel
theorem dX12_isSpoilt_46 : decode cX12_isSpoilt 46 = .ok (.ireturn, 1) := by decide +kernel
theorem dX12_isSpoilt_47 : decode cX12_isSpoilt 47 = .ok (.iinc 2 1, 3) := by decide +kernel
theorem dX12_isSpoilt_50 : decode cX12_isSpoilt 50 = .ok (.goto (-48), 3) := by decide +kernel
theorem dX12_isSpoilt_53 : decode cX12_isSpoilt 53 = .ok (.iconst 0, 1) := by decide +kernel
theorem dX12_isSpoilt_54 : decode cX12_isSpoilt 54 = .ok (.ireturn, 1) := by decide +kernel
theorem wp_X12_isSpoilt_0 {d : Nat} {s : ev_S} {Q : Option ev_V → ev_S → Prop} {a1 : Int}
    (h : Ev layM M_X12_isSpoilt (d + 1) 2 [(0, ev_r 0), (1, ev_i a1), (2, ev_i 0)] [] s Q) :
    Ev layM M_X12_isSpoilt (d + 1) 0 [(0, ev_r 0), (1, ev_i a1)] [] s Q := by
  refine Ev_iconst dX12_isSpoilt_0 rfl (ev_Rc rfl) ?_
  refine Ev_istore_n (l' := [(2, ev_i 0), (0, ev_r 0), (1, ev_i a1)]) dX12_isSpoilt_1 rfl (Nat.le_of_ble_eq_true rfl) rfl ?_
  exact Ev_sub [1, 2, 0] rfl h
theorem wp_X12_isSpoilt_2 {d : Nat} {s : ev_S} {Q : Option ev_V → ev_S → Prop} {a1 a2 : Int}
    (h : (((s 0 12) ≤ a2 → Q (some (ev_i 0)) s) ∧ (a2 < (s 0 12) → ((0 ≤ a2 ∧ a2 < (6 : Nat)) ∧ (((s 6 (Int.toNat a2)) ≠ a1 → Ev layM M_X12_isSpoilt (d + 1) 2 [(0, ev_r 0), (1, ev_i a1), (2, ev_i (ev_add a2 1))] [] s Q) ∧ ((s 6 (Int.toNat a2)) = a1 → ((0 ≤ a2 ∧ a2 < (6 : Nat)) ∧ ((0 ≤ a2 ∧ a2 < (6 : Nat)) ∧ (Ev layM M_X12_isIn d 0 [(0, ev_r 0), (1, ev_i (s 1 0)), (2, ev_i (s 7 (Int.toNat a2))), (3, ev_i (s 8 (Int.toNat a2)))] [] s (ev_pi (fun r2 s1 => ((r2 = 0 → Ev layM M_X12_isSpoilt (d + 1) 2 [(0, ev_r 0), (1, ev_i a1), (2, ev_i (ev_add a2 1))] [] s1 Q) ∧ (r2 ≠ 0 → Q (some (ev_i 1)) s1))))))))))))) :
    Ev layM M_X12_isSpoilt (d + 1) 2 [(0, ev_r 0), (1, ev_i a1), (2, ev_i a2)] [] s Q := by
  refine Ev_iload_n 2 dX12_isSpoilt_2 rfl rfl ?_
  refine Ev_aload_n 0 dX12_isSpoilt_3 rfl rfl ?_
  refine Ev_get (i := 12) cl_X12 yM_0 (Nat.le_of_ble_eq_true rfl) rfl wd_1456 dX12_isSpoilt_4 ?_
  refine Ev_icmp_ge (tgt := 53) dX12_isSpoilt_7 rfl (fun c => ?_) (fun c => ?_)
  · replace h := h.1 c
    refine Ev_iconst dX12_isSpoilt_53 rfl (ev_Rc rfl) ?_
    exact Ev_iret rfl dX12_isSpoilt_54 (ev_nb (by decide)) h
  · replace h := h.2 c
    refine Ev_aload_n 0 dX12_isSpoilt_10 rfl rfl ?_
    refine Ev_getR (i := 14) cl_X12 yM_0 (Nat.le_of_ble_eq_true rfl) rfl wd_1458 dX12_isSpoilt_11 ?_
    refine Ev_iload_n 2 dX12_isSpoilt_14 rfl rfl ?_
    obtain ⟨h0, h⟩ := h
    refine Ev_iald yM_6 h0 dX12_isSpoilt_15 ?_
    refine Ev_iload_n 1 dX12_isSpoilt_16 rfl rfl ?_
    refine Ev_icmp_ne (tgt := 47) dX12_isSpoilt_17 rfl (fun c => ?_) (fun c => ?_)
    · replace h := h.1 c
      refine Ev_iinc (j := 2) (l' := [(2, ev_i (ev_add a2 1)), (0, ev_r 0), (1, ev_i a1)]) dX12_isSpoilt_47 rfl (Nat.le_of_ble_eq_true rfl) rfl ?_
      refine Ev_goto (tgt := 2) dX12_isSpoilt_50 rfl ?_
      exact Ev_sub [1, 2, 0] rfl h
    · replace h := h.2 c
      refine Ev_aload_n 0 dX12_isSpoilt_20 rfl rfl ?_
      refine Ev_aload_n 0 dX12_isSpoilt_21 rfl rfl ?_
      refine Ev_getR (i := 1) cl_X12 yM_0 (Nat.le_of_ble_eq_true rfl) rfl wd_1445 dX12_isSpoilt_22 ?_
      refine Ev_iconst dX12_isSpoilt_25 rfl (ev_Rc rfl) ?_
      refine Ev_iald yM_1 (by decide) dX12_isSpoilt_26 ?_
      refine Ev_aload_n 0 dX12_isSpoilt_27 rfl rfl ?_
      refine Ev_getR (i := 15) cl_X12 yM_0 (Nat.le_of_ble_eq_true rfl) rfl wd_1459 dX12_isSpoilt_28 ?_
      refine Ev_iload_n 2 dX12_isSpoilt_31 rfl rfl ?_
      obtain ⟨h0, h⟩ := h
      refine Ev_iald yM_7 h0 dX12_isSpoilt_32 ?_
      refine Ev_aload_n 0 dX12_isSpoilt_33 rfl rfl ?_
      refine Ev_getR (i := 16) cl_X12 yM_0 (Nat.le_of_ble_eq_true rfl) rfl wd_1460 dX12_isSpoilt_34 ?_
      refine Ev_iload_n 2 dX12_isSpoilt_37 rfl rfl ?_
      obtain ⟨h0, h⟩ := h
      refine Ev_iald yM_8 h0 dX12_isSpoilt_38 ?_
      refine Ev_callV (As := [ev_i (s 1 0), ev_i (s 7 (Int.toNat a2)), ev_i (s 8 (Int.toNat a2))]) (b := 0) (st := []) (M' := M_X12_isIn) cm_X12_isIn wd_1650 wd_1652 wd_70 yM_0 cl_X12 rfl dX12_isSpoilt_39 (Nat.le_refl _) rfl (Nat.le_of_ble_eq_true rfl) (Nat.le_of_ble_eq_true rfl) h (fun v u h hk => ?_)
      obtain ⟨r2, rfl⟩ := hk
      obtain ⟨s1, rfl⟩ : ∃ x, x = u := ⟨_, rfl⟩
      replace h := h r2 rfl
      refine Ev_if_eq (tgt := 47) dX12_isSpoilt_42 rfl (fun c => ?_) (fun c => ?_)
      · replace h := h.1 c
        refine Ev_iinc (j := 2) (l' := [(2, ev_i (ev_add a2 1)), (0, ev_r 0), (1, ev_i a1)]) dX12_isSpoilt_47 rfl (Nat.le_of_ble_eq_true rfl) rfl ?_
        refine Ev_goto (tgt := 2) dX12_isSpoilt_50 rfl ?_
        exact Ev_sub [1, 2, 0] rfl h
      · replace h := h.2 c
        refine Ev_iconst dX12_isSpoilt_45 rfl (ev_Rc rfl) ?_
        exact Ev_iret rfl dX12_isSpoilt_46 (ev_nb (by decide)) h
theorem dX12_wardsAt_0 : decode cX12_wardsAt 0 = .ok (.iconst 0, 1) := by decide +kernel
theorem dX12_wardsAt_1 : decode cX12_wardsAt 1 = .ok (.istore_n 2, 1) := by decide +kernel
theorem dX12_wardsAt_2 : decode cX12_wardsAt 2 = .ok (.iconst 0, 1) := by decide +kernel
theorem dX12_wardsAt_3 : decode cX12_wardsAt 3 = .ok (.istore_n 3, 1) := by decide +kernel
theorem dX12_wardsAt_4 : decode cX12_wardsAt 4 = .ok (.iload_n 3, 1) := by decide +kernel
theorem dX12_wardsAt_5 : decode cX12_wardsAt 5 = .ok (.aload_n 0, 1) := by decide +kernel
theorem dX12_wardsAt_6 : decode cX12_wardsAt 6 = .ok (.getfield 145, 3) := by decide +kernel
theorem dX12_wardsAt_9 : decode cX12_wardsAt 9 = .ok (.if_icmp .ge 25, 3) := by decide +kernel
theorem dX12_wardsAt_12 : decode cX12_wardsAt 12 = .ok (.aload_n 0, 1) := by decide +kernel
theorem dX12_wardsAt_13 : decode cX12_wardsAt 13 = .ok (.getfield 7, 3) := by decide +kernel
theorem dX12_wardsAt_16 : decode cX12_wardsAt 16 = .ok (.iconst 3, 1) := by decide +kernel
theorem dX12_wardsAt_17 : decode cX12_wardsAt 17 = .ok (.iload_n 3, 1) := by decide +kernel
theorem dX12_wardsAt_18 : decode cX12_wardsAt 18 = .ok (.iadd, 1) := by decide +kernel
theorem dX12_wardsAt_19 : decode cX12_wardsAt 19 = .ok (.iaload, 1) := by decide +kernel
theorem dX12_wardsAt_20 : decode cX12_wardsAt 20 = .ok (.iload_n 1, 1) := by decide +kernel
theorem dX12_wardsAt_21 : decode cX12_wardsAt 21 = .ok (.if_icmp .ne 7, 3) := by decide +kernel
theorem dX12_wardsAt_24 : decode cX12_wardsAt 24 = .ok (.iload_n 2, 1) := by decide +kernel
theorem dX12_wardsAt_25 : decode cX12_wardsAt 25 = .ok (.iconst 1, 1) := by decide +kernel
theorem dX12_wardsAt_26 : decode cX12_wardsAt 26 = .ok (.iadd, 1) := by decide +kernel
theorem dX12_wardsAt_27 : decode cX12_wardsAt 27 = .ok (.istore_n 2, 1) := by decide +kernel
theorem dX12_wardsAt_28 : decode cX12_wardsAt 28 = .ok (.iinc 3 1, 3) := by decide +kernel
theorem dX12_wardsAt_31 : decode cX12_wardsAt 31 = .ok (.goto (-27), 3) := by decide +kernel
theorem dX12_wardsAt_34 : decode cX12_wardsAt 34 = .ok (.iload_n 2, 1) := by decide +kernel
theorem dX12_wardsAt_35 : decode cX12_wardsAt 35 = .ok (.ireturn, 1) := by decide +kernel
theorem wp_X12_wardsAt_0 {d : Nat} {s : ev_S} {Q : Option ev_V → ev_S → Prop} {a1 : Int}
    (h : Ev layM M_X12_wardsAt d 4 [(0, ev_r 0), (1, ev_i a1), (2, ev_i 0), (3, ev_i 0)] [] s Q) :
    Ev layM M_X12_wardsAt d 0 [(0, ev_r 0), (1, ev_i a1)] [] s Q := by
  refine Ev_iconst dX12_wardsAt_0 rfl (ev_Rc rfl) ?_
  refine Ev_istore_n (l' := [(2, ev_i 0), (0, ev_r 0), (1, ev_i a1)]) dX12_wardsAt_1 rfl (Nat.le_of_ble_eq_true rfl) rfl ?_
  refine Ev_iconst dX12_wardsAt_2 rfl (ev_Rc rfl) ?_
  refine Ev_istore_n (l' := [(3, ev_i 0), (2, ev_i 0), (0, ev_r 0), (1, ev_i a1)]) dX12_wardsAt_3 rfl (Nat.le_of_ble_eq_true rfl) rfl ?_
  exact Ev_sub [2, 3, 1, 0] rfl h
theorem wp_X12_wardsAt_4 {d : Nat} {s : ev_S} {Q : Option ev_V → ev_S → Prop} {a1 a2 a3 : Int}
    (h : (((s 0 10) ≤ a3 → Q (some (ev_i a2)) s) ∧ (a3 < (s 0 10) → ((0 ≤ (ev_add 3 a3) ∧ (ev_add 3 a3) < (87 : Nat)) ∧ (((s 1 (Int.toNat (ev_add 3 a3))) ≠ a1 → Ev layM M_X12_wardsAt d 4 [(0, ev_r 0), (1, ev_i a1), (2, ev_i a2), (3, ev_i (ev_add a3 1))] [] s Q) ∧ ((s 1 (Int.toNat (ev_add 3 a3))) = a1 → Ev layM M_X12_wardsAt d 4 [(0, ev_r 0), (1, ev_i a1), (2, ev_i (ev_add a2 1)), (3, ev_i (ev_add a3 1))] [] s Q)))))) :
    Ev layM M_X12_wardsAt d 4 [(0, ev_r 0), (1, ev_i a1), (2, ev_i a2), (3, ev_i a3)] [] s Q := by
  refine Ev_iload_n 3 dX12_wardsAt_4 rfl rfl ?_
  refine Ev_aload_n 0 dX12_wardsAt_5 rfl rfl ?_
  refine Ev_get (i := 10) cl_X12 yM_0 (Nat.le_of_ble_eq_true rfl) rfl wd_1454 dX12_wardsAt_6 ?_
  refine Ev_icmp_ge (tgt := 34) dX12_wardsAt_9 rfl (fun c => ?_) (fun c => ?_)
  · replace h := h.1 c
    refine Ev_iload_n 2 dX12_wardsAt_34 rfl rfl ?_
    exact Ev_iret rfl dX12_wardsAt_35 rfl h
  · replace h := h.2 c
    refine Ev_aload_n 0 dX12_wardsAt_12 rfl rfl ?_
    refine Ev_getR (i := 1) cl_X12 yM_0 (Nat.le_of_ble_eq_true rfl) rfl wd_1445 dX12_wardsAt_13 ?_
    refine Ev_iconst dX12_wardsAt_16 rfl (ev_Rc rfl) ?_
    refine Ev_iload_n 3 dX12_wardsAt_17 rfl rfl ?_
    refine Ev_iadd dX12_wardsAt_18 ?_
    obtain ⟨h0, h⟩ := h
    refine Ev_iald yM_1 h0 dX12_wardsAt_19 ?_
    refine Ev_iload_n 1 dX12_wardsAt_20 rfl rfl ?_
    refine Ev_icmp_ne (tgt := 28) dX12_wardsAt_21 rfl (fun c => ?_) (fun c => ?_)
    · replace h := h.1 c
      refine Ev_iinc (j := 3) (l' := [(3, ev_i (ev_add a3 1)), (0, ev_r 0), (1, ev_i a1), (2, ev_i a2)]) dX12_wardsAt_28 rfl (Nat.le_of_ble_eq_true rfl) rfl ?_
      refine Ev_goto (tgt := 4) dX12_wardsAt_31 rfl ?_
      exact Ev_sub [1, 2, 3, 0] rfl h
    · replace h := h.2 c
      refine Ev_iload_n 2 dX12_wardsAt_24 rfl rfl ?_
      refine Ev_iconst dX12_wardsAt_25 rfl (ev_Rc rfl) ?_
      refine Ev_iadd dX12_wardsAt_26 ?_
      refine Ev_istore_n (l' := [(2, ev_i (ev_add a2 1)), (0, ev_r 0), (1, ev_i a1), (3, ev_i a3)]) dX12_wardsAt_27 rfl (Nat.le_of_ble_eq_true rfl) rfl ?_
      refine Ev_iinc (j := 3) (l' := [(3, ev_i (ev_add a3 1)), (2, ev_i (ev_add a2 1)), (0, ev_r 0), (1, ev_i a1)]) dX12_wardsAt_28 rfl (Nat.le_of_ble_eq_true rfl) rfl ?_
      refine Ev_goto (tgt := 4) dX12_wardsAt_31 rfl ?_
      exact Ev_sub [2, 3, 1, 0] rfl h
theorem dX12_doesWork_0 : decode cX12_doesWork 0 = .ok (.aload_n 0, 1) := by decide +kernel
theorem dX12_doesWork_1 : decode cX12_doesWork 1 = .ok (.iload_n 3, 1) := by decide +kernel
theorem dX12_doesWork_2 : decode cX12_doesWork 2 = .ok (.invokevirtual 363, 3) := by decide +kernel
theorem dX12_doesWork_5 : decode cX12_doesWork 5 = .ok (.istore 4, 2) := by decide +kernel
theorem dX12_doesWork_7 : decode cX12_doesWork 7 = .ok (.aload_n 0, 1) := by decide +kernel
theorem dX12_doesWork_8 : decode cX12_doesWork 8 = .ok (.getfield 168, 3) := by decide +kernel
theorem dX12_doesWork_11 : decode cX12_doesWork 11 = .ok (.ifCond .ne 14, 3) := by decide +kernel
theorem dX12_doesWork_14 : decode cX12_doesWork 14 = .ok (.iload 4, 2) := by decide +kernel
theorem dX12_doesWork_16 : decode cX12_doesWork 16 = .ok (.ifCond .ne 7, 3) := by decide +kernel
theorem dX12_doesWork_19 : decode cX12_doesWork 19 = .ok (.iconst 1, 1) := by decide +kernel
theorem dX12_doesWork_20 : decode cX12_doesWork 20 = .ok (.goto 4, 3) := by decide +kernel
theorem dX12_doesWork_23 : decode cX12_doesWork 23 = .ok (.iconst 0, 1) := by decide +kernel
theorem dX12_doesWork_24 : decode cX12_doesWork 24 = .ok (.ireturn, 1) := by decide +kernel
theorem dX12_doesWork_25 : decode cX12_doesWork 25 = .ok (.aload_n 0, 1) := by decide +kernel
theorem dX12_doesWork_26 : decode cX12_doesWork 26 = .ok (.getfield 95, 3) := by decide +kernel
theorem dX12_doesWork_29 : decode cX12_doesWork 29 = .ok (.iconst 0, 1) := by decide +kernel
theorem dX12_doesWork_30 : decode cX12_doesWork 30 = .ok (.iload_n 2, 1) := by decide +kernel
theorem dX12_doesWork_31 : decode cX12_doesWork 31 = .ok (.iastore, 1) := by decide +kernel
theorem dX12_doesWork_32 : decode cX12_doesWork 32 = .ok (.aload_n 0, 1) := by decide +kernel
theorem dX12_doesWork_33 : decode cX12_doesWork 33 = .ok (.getfield 95, 3) := by decide +kernel
theorem dX12_doesWork_36 : decode cX12_doesWork 36 = .ok (.iconst 1, 1) := by decide +kernel
theorem dX12_doesWork_37 : decode cX12_doesWork 37 = .ok (.aload_n 0, 1) := by decide +kernel
theorem dX12_doesWork_38 : decode cX12_doesWork 38 = .ok (.getfield 7, 3) := by decide +kernel
theorem dX12_doesWork_41 : decode cX12_doesWork 41 = .ok (.iconst 0, 1) := by decide +kernel
theorem dX12_doesWork_42 : decode cX12_doesWork 42 = .ok (.iaload, 1) := by decide +kernel
theorem dX12_doesWork_43 : decode cX12_doesWork 43 = .ok (.iastore, 1) := by decide +kernel
theorem dX12_doesWork_44 : decode cX12_doesWork 44 = .ok (.aload_n 0, 1) := by decide +kernel
theorem dX12_doesWork_45 : decode cX12_doesWork 45 = .ok (.getfield 95, 3) := by decide +kernel
theorem dX12_doesWork_48 : decode cX12_doesWork 48 = .ok (.iconst 2, 1) := by decide +kernel
theorem dX12_doesWork_49 : decode cX12_doesWork 49 = .ok (.iload_n 3, 1) := by decide +kernel
theorem dX12_doesWork_50 : decode cX12_doesWork 50 = .ok (.bipush 8, 2) := by decide +kernel
theorem dX12_doesWork_52 : decode cX12_doesWork 52 = .ok (.irem, 1) := by decide +kernel
theorem dX12_doesWork_53 : decode cX12_doesWork 53 = .ok (.iastore, 1) := by decide +kernel
theorem dX12_doesWork_54 : decode cX12_doesWork 54 = .ok (.aload_n 0, 1) := by decide +kernel
theorem dX12_doesWork_55 : decode cX12_doesWork 55 = .ok (.getfield 95, 3) := by decide +kernel
theorem dX12_doesWork_58 : decode cX12_doesWork 58 = .ok (.iconst 3, 1) := by decide +kernel
theorem dX12_doesWork_59 : decode cX12_doesWork 59 = .ok (.iload_n 3, 1) := by decide +kernel
theorem dX12_doesWork_60 : decode cX12_doesWork 60 = .ok (.bipush 8, 2) := by decide +kernel
theorem dX12_doesWork_62 : decode cX12_doesWork 62 = .ok (.idiv, 1) := by decide +kernel
theorem dX12_doesWork_63 : decode cX12_doesWork 63 = .ok (.iastore, 1) := by decide +kernel
theorem dX12_doesWork_64 : decode cX12_doesWork 64 = .ok (.aload_n 0, 1) := by decide +kernel
theorem dX12_doesWork_65 : decode cX12_doesWork 65 = .ok (.getfield 95, 3) := by decide +kernel
theorem dX12_doesWork_68 : decode cX12_doesWork 68 = .ok (.iconst 4, 1) := by decide +kernel
theorem dX12_doesWork_69 : decode cX12_doesWork 69 = .ok (.aload_n 0, 1) := by decide +kernel
theorem dX12_doesWork_70 : decode cX12_doesWork 70 = .ok (.iload_n 3, 1) := by decide +kernel
theorem dX12_doesWork_71 : decode cX12_doesWork 71 = .ok (.invokevirtual 366, 3) := by decide +kernel
theorem dX12_doesWork_74 : decode cX12_doesWork 74 = .ok (.iastore, 1) := by decide +kernel
theorem dX12_doesWork_75 : decode cX12_doesWork 75 = .ok (.aload_n 0, 1) := by decide +kernel
theorem dX12_doesWork_76 : decode cX12_doesWork 76 = .ok (.getfield 95, 3) := by decide +kernel
theorem dX12_doesWork_79 : decode cX12_doesWork 79 = .ok (.iconst 5, 1) := by decide +kernel
theorem dX12_doesWork_80 : decode cX12_doesWork 80 = .ok (.iload 4, 2) := by decide +kernel
theorem dX12_doesWork_82 : decode cX12_doesWork 82 = .ok (.ifCond .eq 7, 3) := by decide +kernel
theorem dX12_doesWork_85 : decode cX12_doesWork 85 = .ok (.iconst 1, 1) := by decide +kernel
theorem dX12_doesWork_86 : decode cX12_doesWork 86 = .ok (.goto 4, 3) := by decide +kernel
theorem dX12_doesWork_89 : decode cX12_doesWork 89 = .ok (.iconst 0, 1) := by decide +kernel
theorem dX12_doesWork_90 : decode cX12_doesWork 90 = .ok (.iastore, 1) := by decide +kernel
theorem dX12_doesWork_91 : decode cX12_doesWork 91 = .ok (.aload_n 0, 1) := by decide +kernel
theorem dX12_doesWork_92 : decode cX12_doesWork 92 = .ok (.getfield 95, 3) := by decide +kernel
theorem dX12_doesWork_95 : decode cX12_doesWork 95 = .ok (.bipush 6, 2) := by decide +kernel
theorem dX12_doesWork_97 : decode cX12_doesWork 97 = .ok (.iload_n 1, 1) := by decide +kernel
theorem dX12_doesWork_98 : decode cX12_doesWork 98 = .ok (.iastore, 1) := by decide +kernel
theorem dX12_doesWork_99 : decode cX12_doesWork 99 = .ok (.aload_n 0, 1) := by decide +kernel
theorem dX12_doesWork_100 : decode cX12_doesWork 100 = .ok (.getfield 95, 3) := by decide +kernel
theorem dX12_doesWork_103 : decode cX12_doesWork 103 = .ok (.bipush 7, 2) := by decide +kernel
theorem dX12_doesWork_105 : decode cX12_doesWork 105 = .ok (.aload_n 0, 1) := by decide +kernel
theorem dX12_doesWork_106 : decode cX12_doesWork 106 = .ok (.getfield 7, 3) := by decide +kernel
theorem dX12_doesWork_109 : decode cX12_doesWork 109 = .ok (.bipush 51, 2) := by decide +kernel
theorem dX12_doesWork_111 : decode cX12_doesWork 111 = .ok (.iload_n 1, 1) := by decide +kernel
theorem dX12_doesWork_112 : decode cX12_doesWork 112 = .ok (.iadd, 1) := by decide +kernel
theorem dX12_doesWork_113 : decode cX12_doesWork 113 = .ok (.iaload, 1) := by decide +kernel
theorem dX12_doesWork_114 : decode cX12_doesWork 114 = .ok (.iastore, 1) := by decide +kernel
theorem dX12_doesWork_115 : decode cX12_doesWork 115 = .ok (.aload_n 0, 1) := by decide +kernel
theorem dX12_doesWork_116 : decode cX12_doesWork 116 = .ok (.getfield 95, 3) := by decide +kernel
theorem dX12_doesWork_119 : decode cX12_doesWork 119 = .ok (.bipush 8, 2) := by decide +kernel
theorem dX12_doesWork_121 : decode cX12_doesWork 121 = .ok (.aload_n 0, 1) := by decide +kernel
theorem dX12_doesWork_122 : decode cX12_doesWork 122 = .ok (.getfield 22, 3) := by decide +kernel
theorem dX12_doesWork_125 : decode cX12_doesWork 125 = .ok (.iload_n 1, 1) := by decide +kernel
theorem dX12_doesWork_126 : decode cX12_doesWork 126 = .ok (.iaload, 1) := by decide +kernel
theorem dX12_doesWork_127 : decode cX12_doesWork 127 = .ok (.iastore, 1) := by decide +kernel
theorem dX12_doesWork_128 : decode cX12_doesWork 128 = .ok (.iconst 0, 1) := by decide +kernel
theorem dX12_doesWork_129 : decode cX12_doesWork 129 = .ok (.istore 5, 2) := by decide +kernel
theorem dX12_doesWork_131 : decode cX12_doesWork 131 = .ok (.iload 5, 2) := by decide +kernel
theorem dX12_doesWork_133 : decode cX12_doesWork 133 = .ok (.aload_n 0, 1) := by decide +kernel
theorem dX12_doesWork_134 : decode cX12_doesWork 134 = .ok (.getfield 168, 3) := by decide +kernel
theorem dX12_doesWork_137 : decode cX12_doesWork 137 = .ok (.if_icmp .ge 35, 3) := by decide +kernel
theorem dX12_doesWork_140 : decode cX12_doesWork 140 = .ok (.aload_n 0, 1) := by decide +kernel
theorem dX12_doesWork_141 : decode cX12_doesWork 141 = .ok (.iconst 0, 1) := by decide +kernel
theorem dX12_doesWork_142 : decode cX12_doesWork 142 = .ok (.iload 5, 2) := by decide +kernel
theorem dX12_doesWork_144 : decode cX12_doesWork 144 = .ok (.invokevirtual 369, 3) := by decide +kernel
theorem dX12_doesWork_147 : decode cX12_doesWork 147 = .ok (.ifCond .eq 19, 3) := by decide +kernel
theorem dX12_doesWork_150 : decode cX12_doesWork 150 = .ok (.aload_n 0, 1) := by decide +kernel
theorem dX12_doesWork_151 : decode cX12_doesWork 151 = .ok (.getfield 43, 3) := by decide +kernel
theorem dX12_doesWork_154 : decode cX12_doesWork 154 = .ok (.iload 5, 2) := by decide +kernel
theorem dX12_doesWork_156 : decode cX12_doesWork 156 = .ok (.iaload, 1) := by decide +kernel
theorem dX12_doesWork_157 : decode cX12_doesWork 157 = .ok (.ifCond .ne 7, 3) := by decide +kernel
theorem dX12_doesWork_160 : decode cX12_doesWork 160 = .ok (.iconst 1, 1) := by decide +kernel
theorem dX12_doesWork_161 : decode cX12_doesWork 161 = .ok (.goto 4, 3) := by decide +kernel
theorem dX12_doesWork_164 : decode cX12_doesWork 164 = .ok (.iconst 0, 1) := by decide +kernel
theorem dX12_doesWork_165 : decode cX12_doesWork 165 = .ok (.ireturn, 1) := by decide +kernel
theorem dX12_doesWork_166 : decode cX12_doesWork 166 = .ok (.iinc 5 1, 3) := by decide +kernel
theorem dX12_doesWork_169 : decode cX12_doesWork 169 = .ok (.goto (-38), 3) := by decide +kernel
theorem dX12_doesWork_172 : decode cX12_doesWork 172 = .ok (.iload 4, 2) := by decide +kernel
theorem dX12_doesWork_174 : decode cX12_doesWork 174 = .ok (.ifCond .ne 7, 3) := by decide +kernel
theorem dX12_doesWork_177 : decode cX12_doesWork 177 = .ok (.iconst 1, 1) := by decide +kernel
theorem dX12_doesWork_178 : decode cX12_doesWork 178 = .ok (.goto 4, 3) := by decide +kernel
theorem dX12_doesWork_181 : decode cX12_doesWork 181 = .ok (.iconst 0, 1) := by decide +kernel
theorem dX12_doesWork_182 : decode cX12_doesWork 182 = .ok (.ireturn, 1) := by decide +kernel
theorem wp_X12_doesWork_0 {d : Nat} {s : ev_S} {Q : Option ev_V → ev_S → Prop} {a1 a2 a3 : Int}
    (h : (Ev layM M_X12_isSpoilt d 0 [(0, ev_r 0), (1, ev_i a3)] [] s (ev_pi (fun r2 s1 => (((s1 0 25) ≠ 0 → (∀ s3, ev_up s1 28 0 a2 = s3 → (∀ s4, ev_up s3 28 1 (s3 1 0) = s4 → (∀ s5, ev_up s4 28 2 (ev_rem a3 8) = s5 → (∀ s6, ev_up s5 28 3 (ev_div a3 8) = s6 → (Ev layM M_X12_wardsAt d 0 [(0, ev_r 0), (1, ev_i a3)] [] s6 (ev_pi (fun r8 s7 => (∀ s9, ev_up s7 28 4 r8 = s9 → ((r2 = 0 → Ev layM M_X12_doesWork (d + 1) 90 [(0, ev_r 0), (1, ev_i a1), (4, ev_i r2)] [ev_i 0, ev_i 5, ev_r 28] s9 Q) ∧ (r2 ≠ 0 → Ev layM M_X12_doesWork (d + 1) 90 [(0, ev_r 0), (1, ev_i a1), (4, ev_i r2)] [ev_i 1, ev_i 5, ev_r 28] s9 Q))))))))))) ∧ ((s1 0 25) = 0 → ((r2 ≠ 0 → Q (some (ev_i 0)) s1) ∧ (r2 = 0 → Q (some (ev_i 1)) s1)))))))) :
    Ev layM M_X12_doesWork (d + 1) 0 [(0, ev_r 0), (1, ev_i a1), (2, ev_i a2), (3, ev_i a3)] [] s Q := by
  refine Ev_aload_n 0 dX12_doesWork_0 rfl rfl ?_
  refine Ev_iload_n 3 dX12_doesWork_1 rfl rfl ?_
  refine Ev_callV (As := [ev_i a3]) (b := 0) (st := []) (M' := M_X12_isSpoilt) cm_X12_isSpoilt wd_1918 wd_1920 wd_128 yM_0 cl_X12 rfl dX12_doesWork_2 (Nat.le_refl _) rfl (Nat.le_of_ble_eq_true rfl) (Nat.le_of_ble_eq_true rfl) h (fun v u h hk => ?_)
  obtain ⟨r2, rfl⟩ := hk
  obtain ⟨s1, rfl⟩ : ∃ x, x = u := ⟨_, rfl⟩
  replace h := h r2 rfl
  refine Ev_istore (l' := [(4, ev_i r2), (0, ev_r 0), (1, ev_i a1), (2, ev_i a2), (3, ev_i a3)]) dX12_doesWork_5 (Nat.le_of_ble_eq_true rfl) rfl ?_
  refine Ev_aload_n 1 dX12_doesWork_7 rfl rfl ?_
  refine Ev_get (i := 25) cl_X12 yM_0 (Nat.le_of_ble_eq_true rfl) rfl wd_1469 dX12_doesWork_8 ?_
  refine Ev_if_ne (tgt := 25) dX12_doesWork_11 rfl (fun c => ?_) (fun c => ?_)
  · replace h := h.1 c
    refine Ev_aload_n 1 dX12_doesWork_25 rfl rfl ?_
    refine Ev_getR (i := 51) cl_X12 yM_0 (Nat.le_of_ble_eq_true rfl) rfl wd_1495 dX12_doesWork_26 ?_
    refine Ev_iconst dX12_doesWork_29 rfl (ev_Rc rfl) ?_
    refine Ev_iload_n 3 dX12_doesWork_30 rfl rfl ?_
    refine Ev_iast yM_28 (by decide) dX12_doesWork_31 (Ev_nm (fun s3 es3 => ?_))
    replace h := h s3 es3
    refine Ev_aload_n 1 dX12_doesWork_32 rfl rfl ?_
    refine Ev_getR (i := 51) cl_X12 yM_0 (Nat.le_of_ble_eq_true rfl) rfl wd_1495 dX12_doesWork_33 ?_
    refine Ev_iconst dX12_doesWork_36 rfl (ev_Rc rfl) ?_
    refine Ev_aload_n 1 dX12_doesWork_37 rfl rfl ?_
    refine Ev_getR (i := 1) cl_X12 yM_0 (Nat.le_of_ble_eq_true rfl) rfl wd_1445 dX12_doesWork_38 ?_
    refine Ev_iconst dX12_doesWork_41 rfl (ev_Rc rfl) ?_
    refine Ev_iald yM_1 (by decide) dX12_doesWork_42 ?_
    refine Ev_iast yM_28 (by decide) dX12_doesWork_43 (Ev_nm (fun s4 es4 => ?_))
    replace h := h s4 es4
    refine Ev_aload_n 1 dX12_doesWork_44 rfl rfl ?_
    refine Ev_getR (i := 51) cl_X12 yM_0 (Nat.le_of_ble_eq_true rfl) rfl wd_1495 dX12_doesWork_45 ?_
    refine Ev_iconst dX12_doesWork_48 rfl (ev_Rc rfl) ?_
    refine Ev_iload_n 4 dX12_doesWork_49 rfl rfl ?_
    refine Ev_bipushC dX12_doesWork_50 rfl ?_
    refine Ev_irem dX12_doesWork_52 (by decide) ?_
    refine Ev_iast yM_28 (by decide) dX12_doesWork_53 (Ev_nm (fun s5 es5 => ?_))
    replace h := h s5 es5
    refine Ev_aload_n 1 dX12_doesWork_54 rfl rfl ?_
    refine Ev_getR (i := 51) cl_X12 yM_0 (Nat.le_of_ble_eq_true rfl) rfl wd_1495 dX12_doesWork_55 ?_
    refine Ev_iconst dX12_doesWork_58 rfl (ev_Rc rfl) ?_
    refine Ev_iload_n 4 dX12_doesWork_59 rfl rfl ?_
    refine Ev_bipushC dX12_doesWork_60 rfl ?_
    refine Ev_idiv dX12_doesWork_62 (by decide) ?_
    refine Ev_iast yM_28 (by decide) dX12_doesWork_63 (Ev_nm (fun s6 es6 => ?_))
    replace h := h s6 es6
    refine Ev_aload_n 1 dX12_doesWork_64 rfl rfl ?_
    refine Ev_getR (i := 51) cl_X12 yM_0 (Nat.le_of_ble_eq_true rfl) rfl wd_1495 dX12_doesWork_65 ?_
    refine Ev_iconst dX12_doesWork_68 rfl (ev_Rc rfl) ?_
    refine Ev_aload_n 1 dX12_doesWork_69 rfl rfl ?_
    refine Ev_iload_n 4 dX12_doesWork_70 rfl rfl ?_
    refine Ev_callV (As := [ev_i a3]) (b := 0) (st := [ev_i 4, ev_r 28]) (M' := M_X12_wardsAt) cm_X12_wardsAt wd_1922 wd_1924 wd_129 yM_0 cl_X12 rfl dX12_doesWork_71 (Nat.le_refl _) rfl (Nat.le_of_ble_eq_true rfl) (Nat.le_of_ble_eq_true rfl) h (fun v u h hk => ?_)
    obtain ⟨r8, rfl⟩ := hk
    obtain ⟨s7, rfl⟩ : ∃ x, x = u := ⟨_, rfl⟩
    replace h := h r8 rfl
    refine Ev_iast yM_28 (by decide) dX12_doesWork_74 (Ev_nm (fun s9 es9 => ?_))
    replace h := h s9 es9
    refine Ev_aload_n 1 dX12_doesWork_75 rfl rfl ?_
    refine Ev_getR (i := 51) cl_X12 yM_0 (Nat.le_of_ble_eq_true rfl) rfl wd_1495 dX12_doesWork_76 ?_
    refine Ev_iconst dX12_doesWork_79 rfl (ev_Rc rfl) ?_
    refine Ev_iload 0 dX12_doesWork_80 rfl ?_
    refine Ev_if_eq (tgt := 89) dX12_doesWork_82 rfl (fun c => ?_) (fun c => ?_)
    · replace h := h.1 c
      refine Ev_iconst dX12_doesWork_89 rfl (ev_Rc rfl) ?_
      exact Ev_sub [1, 2, 0] rfl h
    · replace h := h.2 c
      refine Ev_iconst dX12_doesWork_85 rfl (ev_Rc rfl) ?_
      refine Ev_goto (tgt := 90) dX12_doesWork_86 rfl ?_
      exact Ev_sub [1, 2, 0] rfl h
  · replace h := h.2 c
    refine Ev_iload 0 dX12_doesWork_14 rfl ?_
    refine Ev_if_ne (tgt := 23) dX12_doesWork_16 rfl (fun c => ?_) (fun c => ?_)
    · replace h := h.1 c
      refine Ev_iconst dX12_doesWork_23 rfl (ev_Rc rfl) ?_
      exact Ev_iret rfl dX12_doesWork_24 (ev_nb (by decide)) h
    · replace h := h.2 c
      refine Ev_iconst dX12_doesWork_19 rfl (ev_Rc rfl) ?_
      refine Ev_goto (tgt := 24) dX12_doesWork_20 rfl ?_
      exact Ev_iret rfl dX12_doesWork_24 (ev_nb (by decide)) h
theorem wp_X12_doesWork_90 {d : Nat} {s : ev_S} {Q : Option ev_V → ev_S → Prop} {a1 a4 t0 t1 : Int}
    (h : ((0 ≤ t1 ∧ t1 < (9 : Nat)) ∧ ∀ s1, ev_up s 28 (Int.toNat t1) t0 = s1 → (∀ s2, ev_up s1 28 6 a1 = s2 → ((0 ≤ (ev_add 51 a1) ∧ (ev_add 51 a1) < (87 : Nat)) ∧ (∀ s3, ev_up s2 28 7 (s2 1 (Int.toNat (ev_add 51 a1))) = s3 → ((0 ≤ a1 ∧ a1 < (6 : Nat)) ∧ (∀ s4, ev_up s3 28 8 (s3 5 (Int.toNat a1)) = s4 → Ev layM M_X12_doesWork (d + 1) 131 [(0, ev_r 0), (4, ev_i a4), (5, ev_i 0)] [] s4 Q))))))) :
    Ev layM M_X12_doesWork (d + 1) 90 [(0, ev_r 0), (1, ev_i a1), (4, ev_i a4)] [ev_i t0, ev_i t1, ev_r 28] s Q := by
  obtain ⟨h0, h⟩ := h
  refine Ev_iast yM_28 h0 dX12_doesWork_90 (Ev_nm (fun s1 es1 => ?_))
  replace h := h s1 es1
  refine Ev_aload_n 0 dX12_doesWork_91 rfl rfl ?_
  refine Ev_getR (i := 51) cl_X12 yM_0 (Nat.le_of_ble_eq_true rfl) rfl wd_1495 dX12_doesWork_92 ?_
  refine Ev_bipushC dX12_doesWork_95 rfl ?_
  refine Ev_iload_n 1 dX12_doesWork_97 rfl rfl ?_
  refine Ev_iast yM_28 (by decide) dX12_doesWork_98 (Ev_nm (fun s2 es2 => ?_))
  replace h := h s2 es2
  refine Ev_aload_n 0 dX12_doesWork_99 rfl rfl ?_
  refine Ev_getR (i := 51) cl_X12 yM_0 (Nat.le_of_ble_eq_true rfl) rfl wd_1495 dX12_doesWork_100 ?_
  refine Ev_bipushC dX12_doesWork_103 rfl ?_
  refine Ev_aload_n 0 dX12_doesWork_105 rfl rfl ?_
  refine Ev_getR (i := 1) cl_X12 yM_0 (Nat.le_of_ble_eq_true rfl) rfl wd_1445 dX12_doesWork_106 ?_
  refine Ev_bipushC dX12_doesWork_109 rfl ?_
  refine Ev_iload_n 1 dX12_doesWork_111 rfl rfl ?_
  refine Ev_iadd dX12_doesWork_112 ?_
  obtain ⟨h0, h⟩ := h
  refine Ev_iald yM_1 h0 dX12_doesWork_113 ?_
  refine Ev_iast yM_28 (by decide) dX12_doesWork_114 (Ev_nm (fun s3 es3 => ?_))
  replace h := h s3 es3
  refine Ev_aload_n 0 dX12_doesWork_115 rfl rfl ?_
  refine Ev_getR (i := 51) cl_X12 yM_0 (Nat.le_of_ble_eq_true rfl) rfl wd_1495 dX12_doesWork_116 ?_
  refine Ev_bipushC dX12_doesWork_119 rfl ?_
  refine Ev_aload_n 0 dX12_doesWork_121 rfl rfl ?_
  refine Ev_getR (i := 13) cl_X12 yM_0 (Nat.le_of_ble_eq_true rfl) rfl wd_1457 dX12_doesWork_122 ?_
  refine Ev_iload_n 1 dX12_doesWork_125 rfl rfl ?_
  obtain ⟨h0, h⟩ := h
  refine Ev_iald yM_5 h0 dX12_doesWork_126 ?_
  refine Ev_iast yM_28 (by decide) dX12_doesWork_127 (Ev_nm (fun s4 es4 => ?_))
  replace h := h s4 es4
  refine Ev_iconst dX12_doesWork_128 rfl (ev_Rc rfl) ?_
  refine Ev_istore (l' := [(5, ev_i 0), (0, ev_r 0), (1, ev_i a1), (4, ev_i a4)]) dX12_doesWork_129 (Nat.le_of_ble_eq_true rfl) rfl ?_
  exact Ev_sub [1, 3, 0] rfl h
theorem wp_X12_doesWork_131 {d : Nat} {s : ev_S} {Q : Option ev_V → ev_S → Prop} {a4 a5 : Int}
    (h : (((s 0 25) ≤ a5 → ((a4 ≠ 0 → Q (some (ev_i 0)) s) ∧ (a4 = 0 → Q (some (ev_i 1)) s))) ∧ (a5 < (s 0 25) → (Ev layM M_X12_isSo d 0 [(0, ev_r 0), (1, ev_i 0), (2, ev_i a5)] [] s (ev_pi (fun r2 s1 => ((r2 = 0 → Ev layM M_X12_doesWork (d + 1) 131 [(0, ev_r 0), (4, ev_i a4), (5, ev_i (ev_add a5 1))] [] s1 Q) ∧ (r2 ≠ 0 → ((0 ≤ a5 ∧ a5 < (32 : Nat)) ∧ (((s1 12 (Int.toNat a5)) ≠ 0 → Q (some (ev_i 0)) s1) ∧ ((s1 12 (Int.toNat a5)) = 0 → Q (some (ev_i 1)) s1))))))))))) :
    Ev layM M_X12_doesWork (d + 1) 131 [(0, ev_r 0), (4, ev_i a4), (5, ev_i a5)] [] s Q := by
  refine Ev_iload 2 dX12_doesWork_131 rfl ?_
  refine Ev_aload_n 0 dX12_doesWork_133 rfl rfl ?_
  refine Ev_get (i := 25) cl_X12 yM_0 (Nat.le_of_ble_eq_true rfl) rfl wd_1469 dX12_doesWork_134 ?_
  refine Ev_icmp_ge (tgt := 172) dX12_doesWork_137 rfl (fun c => ?_) (fun c => ?_)
  · replace h := h.1 c
    refine Ev_iload 1 dX12_doesWork_172 rfl ?_
    refine Ev_if_ne (tgt := 181) dX12_doesWork_174 rfl (fun c => ?_) (fun c => ?_)
    · replace h := h.1 c
      refine Ev_iconst dX12_doesWork_181 rfl (ev_Rc rfl) ?_
      exact Ev_iret rfl dX12_doesWork_182 (ev_nb (by decide)) h
    · replace h := h.2 c
      refine Ev_iconst dX12_doesWork_177 rfl (ev_Rc rfl) ?_
      refine Ev_goto (tgt := 182) dX12_doesWork_178 rfl ?_
      exact Ev_iret rfl dX12_doesWork_182 (ev_nb (by decide)) h
  · replace h := h.2 c
    refine Ev_aload_n 0 dX12_doesWork_140 rfl rfl ?_
    refine Ev_iconst dX12_doesWork_141 rfl (ev_Rc rfl) ?_
    refine Ev_iload 2 dX12_doesWork_142 rfl ?_
    refine Ev_callV (As := [ev_i 0, ev_i a5]) (b := 0) (st := []) (M' := M_X12_isSo) cm_X12_isSo wd_1926 wd_1928 wd_130 yM_0 cl_X12 rfl dX12_doesWork_144 (Nat.le_refl _) rfl (Nat.le_of_ble_eq_true rfl) (Nat.le_of_ble_eq_true rfl) h (fun v u h hk => ?_)
    obtain ⟨r2, rfl⟩ := hk
    obtain ⟨s1, rfl⟩ : ∃ x, x = u := ⟨_, rfl⟩
    replace h := h r2 rfl
    refine Ev_if_eq (tgt := 166) dX12_doesWork_147 rfl (fun c => ?_) (fun c => ?_)
    · replace h := h.1 c
      refine Ev_iinc (j := 2) (l' := [(5, ev_i (ev_add a5 1)), (0, ev_r 0), (4, ev_i a4)]) dX12_doesWork_166 rfl (Nat.le_of_ble_eq_true rfl) rfl ?_
      refine Ev_goto (tgt := 131) dX12_doesWork_169 rfl ?_
      exact Ev_sub [1, 2, 0] rfl h
    · replace h := h.2 c
      refine Ev_aload_n 0 dX12_doesWork_150 rfl rfl ?_
      refine Ev_getR (i := 26) cl_X12 yM_0 (Nat.le_of_ble_eq_true rfl) rfl wd_1470 dX12_doesWork_151 ?_
      refine Ev_iload 2 dX12_doesWork_154 rfl ?_
      obtain ⟨h0, h⟩ := h
      refine Ev_iald yM_12 h0 dX12_doesWork_156 ?_
      refine Ev_if_ne (tgt := 164) dX12_doesWork_157 rfl (fun c => ?_) (fun c => ?_)
      · replace h := h.1 c
        refine Ev_iconst dX12_doesWork_164 rfl (ev_Rc rfl) ?_
        exact Ev_iret rfl dX12_doesWork_165 (ev_nb (by decide)) h
      · replace h := h.2 c
        refine Ev_iconst dX12_doesWork_160 rfl (ev_Rc rfl) ?_
        refine Ev_goto (tgt := 165) dX12_doesWork_161 rfl ?_
        exact Ev_iret rfl dX12_doesWork_165 (ev_nb (by decide)) h
theorem dX12_does_0 : decode cX12_does 0 = .ok (.aload_n 0, 1) := by decide +kernel
theorem dX12_does_1 : decode cX12_does 1 = .ok (.getfield 7, 3) := by decide +kernel
theorem dX12_does_4 : decode cX12_does 4 = .ok (.bipush 27, 2) := by decide +kernel
theorem dX12_does_6 : decode cX12_does 6 = .ok (.iload_n 1, 1) := by decide +kernel
theorem dX12_does_7 : decode cX12_does 7 = .ok (.iadd, 1) := by decide +kernel
theorem dX12_does_8 : decode cX12_does 8 = .ok (.iaload, 1) := by decide +kernel
theorem dX12_does_9 : decode cX12_does 9 = .ok (.istore_n 3, 1) := by decide +kernel
theorem dX12_does_10 : decode cX12_does 10 = .ok (.aload_n 0, 1) := by decide +kernel
theorem dX12_does_11 : decode cX12_does 11 = .ok (.iload_n 1, 1) := by decide +kernel
theorem dX12_does_12 : decode cX12_does 12 = .ok (.iload_n 2, 1) := by decide +kernel
theorem dX12_does_13 : decode cX12_does 13 = .ok (.iload_n 3, 1) := by decide +kernel
theorem dX12_does_14 : decode cX12_does 14 = .ok (.invokevirtual 372, 3) := by decide +kernel
theorem dX12_does_17 : decode cX12_does 17 = .ok (.istore 4, 2) := by decide +kernel
theorem dX12_does_19 : decode cX12_does 19 = .ok (.aload_n 0, 1) := by decide +kernel
theorem dX12_does_20 : decode cX12_does 20 = .ok (.getfield 7, 3) := by decide +kernel
theorem dX12_does_23 : decode cX12_does 23 = .ok (.bipush 51, 2) := by decide +kernel
theorem dX12_does_25 : decode cX12_does 25 = .ok (.iload_n 1, 1) := by decide +kernel
theorem dX12_does_26 : decode cX12_does 26 = .ok (.iadd, 1) := by decide +kernel
theorem dX12_does_27 : decode cX12_does 27 = .ok (.aload_n 0, 1) := by decide +kernel
theorem dX12_does_28 : decode cX12_does 28 = .ok (.getfield 7, 3) := by decide +kernel
theorem dX12_does_31 : decode cX12_does 31 = .ok (.bipush 51, 2) := by decide +kernel
theorem dX12_does_33 : decode cX12_does 33 = .ok (.iload_n 1, 1) := by decide +kernel
theorem dX12_does_34 : decode cX12_does 34 = .ok (.iadd, 1) := by decide +kernel
theorem dX12_does_35 : decode cX12_does 35 = .ok (.iaload, 1) := by decide +kernel
theorem dX12_does_36 : decode cX12_does 36 = .ok (.iconst 1, 1) := by decide +kernel
theorem dX12_does_37 : decode cX12_does 37 = .ok (.iadd, 1) := by decide +kernel
theorem dX12_does_38 : decode cX12_does 38 = .ok (.iastore, 1) := by decide +kernel
theorem dX12_does_39 : decode cX12_does 39 = .ok (.iconst 0, 1) := by decide +kernel
theorem dX12_does_40 : decode cX12_does 40 = .ok (.istore 5, 2) := by decide +kernel
theorem dX12_does_42 : decode cX12_does 42 = .ok (.iload 5, 2) := by decide +kernel
theorem dX12_does_44 : decode cX12_does 44 = .ok (.aload_n 0, 1) := by decide +kernel
theorem dX12_does_45 : decode cX12_does 45 = .ok (.getfield 145, 3) := by decide +kernel
theorem dX12_does_48 : decode cX12_does 48 = .ok (.if_icmp .ge 95, 3) := by decide +kernel
theorem dX12_does_51 : decode cX12_does 51 = .ok (.iload 4, 2) := by decide +kernel
theorem dX12_does_53 : decode cX12_does 53 = .ok (.ifCond .eq 90, 3) := by decide +kernel
theorem dX12_does_56 : decode cX12_does 56 = .ok (.aload_n 0, 1) := by decide +kernel
theorem dX12_does_57 : decode cX12_does 57 = .ok (.getfield 7, 3) := by decide +kernel
theorem dX12_does_60 : decode cX12_does 60 = .ok (.iconst 3, 1) := by decide +kernel
theorem dX12_does_61 : decode cX12_does 61 = .ok (.iload 5, 2) := by decide +kernel
theorem dX12_does_63 : decode cX12_does 63 = .ok (.iadd, 1) := by decide +kernel
theorem dX12_does_64 : decode cX12_does 64 = .ok (.iaload, 1) := by decide +kernel
theorem dX12_does_65 : decode cX12_does 65 = .ok (.iload_n 3, 1) := by decide +kernel
theorem dX12_does_66 : decode cX12_does 66 = .ok (.if_icmp .ne 71, 3) := by decide +kernel
theorem dX12_does_69 : decode cX12_does 69 = .ok (.aload_n 0, 1) := by decide +kernel
theorem dX12_does_70 : decode cX12_does 70 = .ok (.getfield 7, 3) := by decide +kernel
theorem dX12_does_73 : decode cX12_does 73 = .ok (.bipush 11, 2) := by decide +kernel
theorem dX12_does_75 : decode cX12_does 75 = .ok (.iload 5, 2) := by decide +kernel
theorem dX12_does_77 : decode cX12_does 77 = .ok (.iadd, 1) := by decide +kernel
theorem dX12_does_78 : decode cX12_does 78 = .ok (.aload_n 0, 1) := by decide +kernel
theorem dX12_does_79 : decode cX12_does 79 = .ok (.getfield 7, 3) := by decide +kernel
theorem dX12_does_82 : decode cX12_does 82 = .ok (.bipush 11, 2) := by decide +kernel
theorem dX12_does_84 : decode cX12_does 84 = .ok (.iload 5, 2) := by decide +kernel
theorem dX12_does_86 : decode cX12_does 86 = .ok (.iadd, 1) := by decide +kernel
theorem dX12_does_87 : decode cX12_does 87 = .ok (.iaload, 1) := by decide +kernel
theorem dX12_does_88 : decode cX12_does 88 = .ok (.aload_n 0, 1) := by decide +kernel
theorem dX12_does_89 : decode cX12_does 89 = .ok (.getfield 19, 3) := by decide +kernel
theorem dX12_does_92 : decode cX12_does 92 = .ok (.iload_n 2, 1) := by decide +kernel
theorem dX12_does_93 : decode cX12_does 93 = .ok (.iaload, 1) := by decide +kernel
theorem dX12_does_94 : decode cX12_does 94 = .ok (.iadd, 1) := by decide +kernel
theorem dX12_does_95 : decode cX12_does 95 = .ok (.bipush 99, 2) := by decide +kernel
theorem dX12_does_97 : decode cX12_does 97 = .ok (.if_icmp .le 22, 3) := by decide +kernel
theorem dX12_does_100 : decode cX12_does 100 = .ok (.aload_n 0, 1) := by decide +kernel
theorem dX12_does_101 : decode cX12_does 101 = .ok (.bipush 99, 2) := by decide +kernel
theorem dX12_does_103 : decode cX12_does 103 = .ok (.aload_n 0, 1) := by decide +kernel
theorem dX12_does_104 : decode cX12_does 104 = .ok (.getfield 7, 3) := by decide +kernel
theorem dX12_does_107 : decode cX12_does 107 = .ok (.bipush 11, 2) := by decide +kernel
theorem dX12_does_109 : decode cX12_does 109 = .ok (.iload 5, 2) := by decide +kernel
theorem dX12_does_111 : decode cX12_does 111 = .ok (.iadd, 1) := by decide +kernel
theorem dX12_does_112 : decode cX12_does 112 = .ok (.iaload, 1) := by decide +kernel
theorem dX12_does_113 : decode cX12_does 113 = .ok (.invokevirtual 375, 3) := by decide +kernel
theorem dX12_does_116 : decode cX12_does 116 = .ok (.goto 20, 3) := by decide +kernel
theorem dX12_does_119 : decode cX12_does 119 = .ok (.aload_n 0, 1) := by decide +kernel
theorem dX12_does_120 : decode cX12_does 120 = .ok (.getfield 7, 3) := by decide +kernel
theorem dX12_does_123 : decode cX12_does 123 = .ok (.bipush 11, 2) := by decide +kernel
theorem dX12_does_125 : decode cX12_does 125 = .ok (.iload 5, 2) := by decide +kernel
theorem dX12_does_127 : decode cX12_does 127 = .ok (.iadd, 1) := by decide +kernel
theorem dX12_does_128 : decode cX12_does 128 = .ok (.iaload, 1) := by decide +kernel
theorem dX12_does_129 : decode cX12_does 129 = .ok (.aload_n 0, 1) := by decide +kernel
theorem dX12_does_130 : decode cX12_does 130 = .ok (.getfield 19, 3) := by decide +kernel
theorem dX12_does_133 : decode cX12_does 133 = .ok (.iload_n 2, 1) := by decide +kernel
theorem dX12_does_134 : decode cX12_does 134 = .ok (.iaload, 1) := by decide +kernel
theorem dX12_does_135 : decode cX12_does 135 = .ok (.iadd, 1) := by decide +kernel
theorem dX12_does_136 : decode cX12_does 136 = .ok (.iastore, 1) := by decide +kernel
theorem dX12_does_137 : decode cX12_does 137 = .ok (.iinc 5 1, 3) := by decide +kernel
theorem dX12_does_140 : decode cX12_does 140 = .ok (.goto (-98), 3) := by decide +kernel
theorem dX12_does_143 : decode cX12_does 143 = .ok (.aload_n 0, 1) := by decide +kernel
theorem dX12_does_144 : decode cX12_does 144 = .ok (.getfield 7, 3) := by decide +kernel
theorem dX12_does_147 : decode cX12_does 147 = .ok (.iconst 2, 1) := by decide +kernel
theorem dX12_does_148 : decode cX12_does 148 = .ok (.iaload, 1) := by decide +kernel
theorem dX12_does_149 : decode cX12_does 149 = .ok (.bipush 100, 2) := by decide +kernel
theorem dX12_does_151 : decode cX12_does 151 = .ok (.if_icmp .ne 4, 3) := by decide +kernel
theorem dX12_does_154 : decode cX12_does 154 = .ok (.return_, 1) := by decide +kernel
theorem dX12_does_155 : decode cX12_does 155 = .ok (.iconst 5, 1) := by decide +kernel
theorem dX12_does_156 : decode cX12_does 156 = .ok (.aload_n 0, 1) := by decide +kernel
theorem dX12_does_157 : decode cX12_does 157 = .ok (.getfield 7, 3) := by decide +kernel
theorem dX12_does_160 : decode cX12_does 160 = .ok (.iconst 2, 1) := by decide +kernel
theorem dX12_does_161 : decode cX12_does 161 = .ok (.iaload, 1) := by decide +kernel
theorem dX12_does_162 : decode cX12_does 162 = .ok (.imul, 1) := by decide +kernel
theorem dX12_does_163 : decode cX12_does 163 = .ok (.istore 5, 2) := by decide +kernel
theorem dX12_does_165 : decode cX12_does 165 = .ok (.aload_n 0, 1) := by decide +kernel
theorem dX12_does_166 : decode cX12_does 166 = .ok (.getfield 34, 3) := by decide +kernel
theorem dX12_does_169 : decode cX12_does 169 = .ok (.iload 5, 2) := by decide +kernel
theorem dX12_does_171 : decode cX12_does 171 = .ok (.aload_n 0, 1) := by decide +kernel
theorem dX12_does_172 : decode cX12_does 172 = .ok (.getfield 7, 3) := by decide +kernel
theorem dX12_does_175 : decode cX12_does 175 = .ok (.iconst 0, 1) := by decide +kernel
theorem dX12_does_176 : decode cX12_does 176 = .ok (.iaload, 1) := by decide +kernel
theorem dX12_does_177 : decode cX12_does 177 = .ok (.iastore, 1) := by decide +kernel
theorem dX12_does_178 : decode cX12_does 178 = .ok (.aload_n 0, 1) := by decide +kernel
theorem dX12_does_179 : decode cX12_does 179 = .ok (.getfield 34, 3) := by decide +kernel
theorem dX12_does_182 : decode cX12_does 182 = .ok (.iload 5, 2) := by decide +kernel
theorem dX12_does_184 : decode cX12_does 184 = .ok (.iconst 1, 1) := by decide +kernel
theorem dX12_does_185 : decode cX12_does 185 = .ok (.iadd, 1) := by decide +kernel
theorem dX12_does_186 : decode cX12_does 186 = .ok (.iload_n 1, 1) := by decide +kernel
theorem dX12_does_187 : decode cX12_does 187 = .ok (.iastore, 1) := by decide +kernel
theorem dX12_does_188 : decode cX12_does 188 = .ok (.aload_n 0, 1) := by decide +kernel
theorem dX12_does_189 : decode cX12_does 189 = .ok (.getfield 34, 3) := by decide +kernel
theorem dX12_does_192 : decode cX12_does 192 = .ok (.iload 5, 2) := by decide +kernel
theorem dX12_does_194 : decode cX12_does 194 = .ok (.iconst 2, 1) := by decide +kernel
theorem dX12_does_195 : decode cX12_does 195 = .ok (.iadd, 1) := by decide +kernel
theorem dX12_does_196 : decode cX12_does 196 = .ok (.iload_n 2, 1) := by decide +kernel
theorem dX12_does_197 : decode cX12_does 197 = .ok (.iastore, 1) := by decide +kernel
theorem dX12_does_198 : decode cX12_does 198 = .ok (.aload_n 0, 1) := by decide +kernel
theorem dX12_does_199 : decode cX12_does 199 = .ok (.getfield 34, 3) := by decide +kernel
theorem dX12_does_202 : decode cX12_does 202 = .ok (.iload 5, 2) := by decide +kernel
theorem dX12_does_204 : decode cX12_does 204 = .ok (.iconst 3, 1) := by decide +kernel
theorem dX12_does_205 : decode cX12_does 205 = .ok (.iadd, 1) := by decide +kernel
theorem dX12_does_206 : decode cX12_does 206 = .ok (.iload_n 3, 1) := by decide +kernel
theorem dX12_does_207 : decode cX12_does 207 = .ok (.iastore, 1) := by decide +kernel
theorem dX12_does_208 : decode cX12_does 208 = .ok (.aload_n 0, 1) := by decide +kernel
theorem dX12_does_209 : decode cX12_does 209 = .ok (.getfield 34, 3) := by decide +kernel
theorem dX12_does_212 : decode cX12_does 212 = .ok (.iload 5, 2) := by decide +kernel
theorem dX12_does_214 : decode cX12_does 214 = .ok (.iconst 4, 1) := by decide +kernel
theorem dX12_does_215 : decode cX12_does 215 = .ok (.iadd, 1) := by decide +kernel
theorem dX12_does_216 : decode cX12_does 216 = .ok (.iload 4, 2) := by decide +kernel
theorem dX12_does_218 : decode cX12_does 218 = .ok (.ifCond .eq 7, 3) := by decide +kernel
theorem dX12_does_221 : decode cX12_does 221 = .ok (.iconst 1, 1) := by decide +kernel
theorem dX12_does_222 : decode cX12_does 222 = .ok (.goto 4, 3) := by decide +kernel
theorem dX12_does_225 : decode cX12_does 225 = .ok (.iconst 0, 1) := by decide +kernel
theorem dX12_does_226 : decode cX12_does 226 = .ok (.iastore, 1) := by decide +kernel
theorem dX12_does_227 : decode cX12_does 227 = .ok (.aload_n 0, 1) := by decide +kernel
theorem dX12_does_228 : decode cX12_does 228 = .ok (.getfield 7, 3) := by decide +kernel
theorem dX12_does_231 : decode cX12_does 231 = .ok (.iconst 2, 1) := by decide +kernel
theorem dX12_does_232 : decode cX12_does 232 = .ok (.aload_n 0, 1) := by decide +kernel
theorem dX12_does_233 : decode cX12_does 233 = .ok (.getfield 7, 3) := by decide +kernel
theorem dX12_does_236 : decode cX12_does 236 = .ok (.iconst 2, 1) := by decide +kernel
theorem dX12_does_237 : decode cX12_does 237 = .ok (.iaload, 1) := by decide +kernel
theorem dX12_does_238 : decode cX12_does 238 = .ok (.iconst 1, 1) := by decide +kernel
theorem dX12_does_239 : decode cX12_does 239 = .ok (.iadd, 1) := by decide +kernel
theorem dX12_does_240 : decode cX12_does 240 = .ok (.iastore, 1) := by decide +kernel
theorem dX12_does_241 : decode cX12_does 241 = .ok (.return_, 1) := by decide +kernel
theorem wp_X12_does_0 {d : Nat} {s : ev_S} {Q : Option ev_V → ev_S → Prop} {a1 a2 : Int}
    (h : ((0 ≤ (ev_add 27 a1) ∧ (ev_add 27 a1) < (87 : Nat)) ∧ (Ev layM M_X12_doesWork d 0 [(0, ev_r 0), (1, ev_i a1), (2, ev_i a2), (3, ev_i (s 1 (Int.toNat (ev_add 27 a1))))] [] s (ev_pi (fun r2 s1 => ((0 ≤ (ev_add 51 a1) ∧ (ev_add 51 a1) < (87 : Nat)) ∧ ((0 ≤ (ev_add 51 a1) ∧ (ev_add 51 a1) < (87 : Nat)) ∧ ∀ s3, ev_up s1 1 (Int.toNat (ev_add 51 a1)) (ev_add (s1 1 (Int.toNat (ev_add 51 a1))) 1) = s3 → Ev layM M_X12_does (d + 1) 42 [(0, ev_r 0), (1, ev_i a1), (2, ev_i a2), (3, ev_i (s 1 (Int.toNat (ev_add 27 a1)))), (4, ev_i r2), (5, ev_i 0)] [] s3 Q))))))) :
    Ev layM M_X12_does (d + 1) 0 [(0, ev_r 0), (1, ev_i a1), (2, ev_i a2)] [] s Q := by
  refine Ev_aload_n 0 dX12_does_0 rfl rfl ?_
  refine Ev_getR (i := 1) cl_X12 yM_0 (Nat.le_of_ble_eq_true rfl) rfl wd_1445 dX12_does_1 ?_
  refine Ev_bipushC dX12_does_4 rfl ?_
  refine Ev_iload_n 1 dX12_does_6 rfl rfl ?_
  refine Ev_iadd dX12_does_7 ?_
  obtain ⟨h0, h⟩ := h
  refine Ev_iald yM_1 h0 dX12_does_8 ?_
  refine Ev_istore_n (l' := [(3, ev_i (s 1 (Int.toNat (ev_add 27 a1)))), (0, ev_r 0), (1, ev_i a1), (2, ev_i a2)]) dX12_does_9 rfl (Nat.le_of_ble_eq_true rfl) rfl ?_
  refine Ev_aload_n 1 dX12_does_10 rfl rfl ?_
  refine Ev_iload_n 2 dX12_does_11 rfl rfl ?_
  refine Ev_iload_n 3 dX12_does_12 rfl rfl ?_
  refine Ev_iload_n 0 dX12_does_13 rfl rfl ?_
  refine Ev_callV (As := [ev_i a1, ev_i a2, ev_i (s 1 (Int.toNat (ev_add 27 a1)))]) (b := 0) (st := []) (M' := M_X12_doesWork) cm_X12_doesWork wd_1914 wd_1916 wd_127 yM_0 cl_X12 rfl dX12_does_14 (Nat.le_refl _) rfl (Nat.le_of_ble_eq_true rfl) (Nat.le_of_ble_eq_true rfl) h (fun v u h hk => ?_)
  obtain ⟨r2, rfl⟩ := hk
  obtain ⟨s1, rfl⟩ : ∃ x, x = u := ⟨_, rfl⟩
  replace h := h r2 rfl
  refine Ev_istore (l' := [(4, ev_i r2), (3, ev_i (s 1 (Int.toNat (ev_add 27 a1)))), (0, ev_r 0), (1, ev_i a1), (2, ev_i a2)]) dX12_does_17 (Nat.le_of_ble_eq_true rfl) rfl ?_
  refine Ev_aload_n 2 dX12_does_19 rfl rfl ?_
  refine Ev_getR (i := 1) cl_X12 yM_0 (Nat.le_of_ble_eq_true rfl) rfl wd_1445 dX12_does_20 ?_
  refine Ev_bipushC dX12_does_23 rfl ?_
  refine Ev_iload_n 3 dX12_does_25 rfl rfl ?_
  refine Ev_iadd dX12_does_26 ?_
  refine Ev_aload_n 2 dX12_does_27 rfl rfl ?_
  refine Ev_getR (i := 1) cl_X12 yM_0 (Nat.le_of_ble_eq_true rfl) rfl wd_1445 dX12_does_28 ?_
  refine Ev_bipushC dX12_does_31 rfl ?_
  refine Ev_iload_n 3 dX12_does_33 rfl rfl ?_
  refine Ev_iadd dX12_does_34 ?_
  obtain ⟨h0, h⟩ := h
  refine Ev_iald yM_1 h0 dX12_does_35 ?_
  refine Ev_iconst dX12_does_36 rfl (ev_Rc rfl) ?_
  refine Ev_iadd dX12_does_37 ?_
  obtain ⟨h0, h⟩ := h
  refine Ev_iast yM_1 h0 dX12_does_38 (Ev_nm (fun s3 es3 => ?_))
  replace h := h s3 es3
  refine Ev_iconst dX12_does_39 rfl (ev_Rc rfl) ?_
  refine Ev_istore (l' := [(5, ev_i 0), (4, ev_i r2), (3, ev_i (s 1 (Int.toNat (ev_add 27 a1)))), (0, ev_r 0), (1, ev_i a1), (2, ev_i a2)]) dX12_does_40 (Nat.le_of_ble_eq_true rfl) rfl ?_
  exact Ev_sub [3, 4, 5, 2, 1, 0] rfl h
theorem wp_X12_does_42 {d : Nat} {s : ev_S} {Q : Option ev_V → ev_S → Prop} {a1 a2 a3 a4 a5 : Int}
    (h : (((s 0 10) ≤ a5 → Ev layM M_X12_does (d + 1) 143 [(0, ev_r 0), (1, ev_i a1), (2, ev_i a2), (3, ev_i a3), (4, ev_i a4)] [] s Q) ∧ (a5 < (s 0 10) → ((a4 = 0 → Ev layM M_X12_does (d + 1) 143 [(0, ev_r 0), (1, ev_i a1), (2, ev_i a2), (3, ev_i a3), (4, ev_i a4)] [] s Q) ∧ (a4 ≠ 0 → ((0 ≤ (ev_add 3 a5) ∧ (ev_add 3 a5) < (87 : Nat)) ∧ (((s 1 (Int.toNat (ev_add 3 a5))) ≠ a3 → Ev layM M_X12_does (d + 1) 42 [(0, ev_r 0), (1, ev_i a1), (2, ev_i a2), (3, ev_i a3), (4, ev_i a4), (5, ev_i (ev_add a5 1))] [] s Q) ∧ ((s 1 (Int.toNat (ev_add 3 a5))) = a3 → ((0 ≤ (ev_add 11 a5) ∧ (ev_add 11 a5) < (87 : Nat)) ∧ ((0 ≤ a2 ∧ a2 < (5 : Nat)) ∧ (((ev_add (s 1 (Int.toNat (ev_add 11 a5))) (s 4 (Int.toNat a2))) ≤ 99 → ((0 ≤ (ev_add 11 a5) ∧ (ev_add 11 a5) < (87 : Nat)) ∧ ((0 ≤ a2 ∧ a2 < (5 : Nat)) ∧ ((0 ≤ (ev_add 11 a5) ∧ (ev_add 11 a5) < (87 : Nat)) ∧ ∀ s1, ev_up s 1 (Int.toNat (ev_add 11 a5)) (ev_add (s 1 (Int.toNat (ev_add 11 a5))) (s 4 (Int.toNat a2))) = s1 → Ev layM M_X12_does (d + 1) 42 [(0, ev_r 0), (1, ev_i a1), (2, ev_i a2), (3, ev_i a3), (4, ev_i a4), (5, ev_i (ev_add a5 1))] [] s1 Q)))) ∧ (99 < (ev_add (s 1 (Int.toNat (ev_add 11 a5))) (s 4 (Int.toNat a2))) → ((0 ≤ (ev_add 11 a5) ∧ (ev_add 11 a5) < (87 : Nat)) ∧ (Ev layM M_X12_greater d 0 [(0, ev_r 0), (1, ev_i 99), (2, ev_i (s 1 (Int.toNat (ev_add 11 a5))))] [] s (ev_pi (fun r3 s2 => ((0 ≤ (ev_add 11 a5) ∧ (ev_add 11 a5) < (87 : Nat)) ∧ ∀ s4, ev_up s2 1 (Int.toNat (ev_add 11 a5)) r3 = s4 → Ev layM M_X12_does (d + 1) 42 [(0, ev_r 0), (1, ev_i a1), (2, ev_i a2), (3, ev_i a3), (4, ev_i a4), (5, ev_i (ev_add a5 1))] [] s4 Q))))))))))))))))) :
    Ev layM M_X12_does (d + 1) 42 [(0, ev_r 0), (1, ev_i a1), (2, ev_i a2), (3, ev_i a3), (4, ev_i a4), (5, ev_i a5)] [] s Q := by
  refine Ev_iload 5 dX12_does_42 rfl ?_
  refine Ev_aload_n 0 dX12_does_44 rfl rfl ?_
  refine Ev_get (i := 10) cl_X12 yM_0 (Nat.le_of_ble_eq_true rfl) rfl wd_1454 dX12_does_45 ?_
  refine Ev_icmp_ge (tgt := 143) dX12_does_48 rfl (fun c => ?_) (fun c => ?_)
  · replace h := h.1 c
    exact Ev_sub [0, 1, 2, 3, 4] rfl h
  · replace h := h.2 c
    refine Ev_iload 4 dX12_does_51 rfl ?_
    refine Ev_if_eq (tgt := 143) dX12_does_53 rfl (fun c => ?_) (fun c => ?_)
    · replace h := h.1 c
      exact Ev_sub [0, 1, 2, 3, 4] rfl h
    · replace h := h.2 c
      refine Ev_aload_n 0 dX12_does_56 rfl rfl ?_
      refine Ev_getR (i := 1) cl_X12 yM_0 (Nat.le_of_ble_eq_true rfl) rfl wd_1445 dX12_does_57 ?_
      refine Ev_iconst dX12_does_60 rfl (ev_Rc rfl) ?_
      refine Ev_iload 5 dX12_does_61 rfl ?_
      refine Ev_iadd dX12_does_63 ?_
      obtain ⟨h0, h⟩ := h
      refine Ev_iald yM_1 h0 dX12_does_64 ?_
      refine Ev_iload_n 3 dX12_does_65 rfl rfl ?_
      refine Ev_icmp_ne (tgt := 137) dX12_does_66 rfl (fun c => ?_) (fun c => ?_)
      · replace h := h.1 c
        refine Ev_iinc (j := 5) (l' := [(5, ev_i (ev_add a5 1)), (0, ev_r 0), (1, ev_i a1), (2, ev_i a2), (3, ev_i a3), (4, ev_i a4)]) dX12_does_137 rfl (Nat.le_of_ble_eq_true rfl) rfl ?_
        refine Ev_goto (tgt := 42) dX12_does_140 rfl ?_
        exact Ev_sub [1, 2, 3, 4, 5, 0] rfl h
      · replace h := h.2 c
        refine Ev_aload_n 0 dX12_does_69 rfl rfl ?_
        refine Ev_getR (i := 1) cl_X12 yM_0 (Nat.le_of_ble_eq_true rfl) rfl wd_1445 dX12_does_70 ?_
        refine Ev_bipushC dX12_does_73 rfl ?_
        refine Ev_iload 5 dX12_does_75 rfl ?_
        refine Ev_iadd dX12_does_77 ?_
        refine Ev_aload_n 0 dX12_does_78 rfl rfl ?_
        refine Ev_getR (i := 1) cl_X12 yM_0 (Nat.le_of_ble_eq_true rfl) rfl wd_1445 dX12_does_79 ?_
        refine Ev_bipushC dX12_does_82 rfl ?_
        refine Ev_iload 5 dX12_does_84 rfl ?_
        refine Ev_iadd dX12_does_86 ?_
        obtain ⟨h0, h⟩ := h
        refine Ev_iald yM_1 h0 dX12_does_87 ?_
        refine Ev_aload_n 0 dX12_does_88 rfl rfl ?_
        refine Ev_getR (i := 9) cl_X12 yM_0 (Nat.le_of_ble_eq_true rfl) rfl wd_1453 dX12_does_89 ?_
        refine Ev_iload_n 2 dX12_does_92 rfl rfl ?_
        obtain ⟨h0, h⟩ := h
        refine Ev_iald yM_4 h0 dX12_does_93 ?_
        refine Ev_iadd dX12_does_94 ?_
        refine Ev_bipushC dX12_does_95 rfl ?_
        refine Ev_icmp_le (tgt := 119) dX12_does_97 rfl (fun c => ?_) (fun c => ?_)
        · replace h := h.1 c
          refine Ev_aload_n 0 dX12_does_119 rfl rfl ?_
          refine Ev_getR (i := 1) cl_X12 yM_0 (Nat.le_of_ble_eq_true rfl) rfl wd_1445 dX12_does_120 ?_
          refine Ev_bipushC dX12_does_123 rfl ?_
          refine Ev_iload 5 dX12_does_125 rfl ?_
          refine Ev_iadd dX12_does_127 ?_
          obtain ⟨h0, h⟩ := h
          refine Ev_iald yM_1 h0 dX12_does_128 ?_
          refine Ev_aload_n 0 dX12_does_129 rfl rfl ?_
          refine Ev_getR (i := 9) cl_X12 yM_0 (Nat.le_of_ble_eq_true rfl) rfl wd_1453 dX12_does_130 ?_
          refine Ev_iload_n 2 dX12_does_133 rfl rfl ?_
          obtain ⟨h0, h⟩ := h
          refine Ev_iald yM_4 h0 dX12_does_134 ?_
          refine Ev_iadd dX12_does_135 ?_
          obtain ⟨h0, h⟩ := h
          refine Ev_iast yM_1 h0 dX12_does_136 (Ev_nm (fun s1 es1 => ?_))
          replace h := h s1 es1
          refine Ev_iinc (j := 5) (l' := [(5, ev_i (ev_add a5 1)), (0, ev_r 0), (1, ev_i a1), (2, ev_i a2), (3, ev_i a3), (4, ev_i a4)]) dX12_does_137 rfl (Nat.le_of_ble_eq_true rfl) rfl ?_
          refine Ev_goto (tgt := 42) dX12_does_140 rfl ?_
          exact Ev_sub [1, 2, 3, 4, 5, 0] rfl h
        · replace h := h.2 c
          refine Ev_aload_n 0 dX12_does_100 rfl rfl ?_
          refine Ev_bipushC dX12_does_101 rfl ?_
          refine Ev_aload_n 0 dX12_does_103 rfl rfl ?_
          refine Ev_getR (i := 1) cl_X12 yM_0 (Nat.le_of_ble_eq_true rfl) rfl wd_1445 dX12_does_104 ?_
          refine Ev_bipushC dX12_does_107 rfl ?_
          refine Ev_iload 5 dX12_does_109 rfl ?_
          refine Ev_iadd dX12_does_111 ?_
          obtain ⟨h0, h⟩ := h
          refine Ev_iald yM_1 h0 dX12_does_112 ?_
          refine Ev_callV (As := [ev_i 99, ev_i (s 1 (Int.toNat (ev_add 11 a5)))]) (b := 0) (st := [ev_i (ev_add 11 a5), ev_r 1]) (M' := M_X12_greater) cm_X12_greater wd_1934 wd_1936 wd_132 yM_0 cl_X12 rfl dX12_does_113 (Nat.le_refl _) rfl (Nat.le_of_ble_eq_true rfl) (Nat.le_of_ble_eq_true rfl) h (fun v u h hk => ?_)
          obtain ⟨r3, rfl⟩ := hk
          obtain ⟨s2, rfl⟩ : ∃ x, x = u := ⟨_, rfl⟩
          replace h := h r3 rfl
          refine Ev_goto (tgt := 136) dX12_does_116 rfl ?_
          obtain ⟨h0, h⟩ := h
          refine Ev_iast yM_1 h0 dX12_does_136 (Ev_nm (fun s4 es4 => ?_))
          replace h := h s4 es4
          refine Ev_iinc (j := 5) (l' := [(5, ev_i (ev_add a5 1)), (0, ev_r 0), (1, ev_i a1), (2, ev_i a2), (3, ev_i a3), (4, ev_i a4)]) dX12_does_137 rfl (Nat.le_of_ble_eq_true rfl) rfl ?_
          refine Ev_goto (tgt := 42) dX12_does_140 rfl ?_
          exact Ev_sub [1, 2, 3, 4, 5, 0] rfl h
theorem wp_X12_does_143 {d : Nat} {s : ev_S} {Q : Option ev_V → ev_S → Prop} {a1 a2 a3 a4 : Int}
    (h : (((s 1 2) ≠ 100 → ((0 ≤ (ev_mul 5 (s 1 2)) ∧ (ev_mul 5 (s 1 2)) < (500 : Nat)) ∧ ∀ s1, ev_up s 9 (Int.toNat (ev_mul 5 (s 1 2))) (s 1 0) = s1 → ((0 ≤ (ev_add (ev_mul 5 (s 1 2)) 1) ∧ (ev_add (ev_mul 5 (s 1 2)) 1) < (500 : Nat)) ∧ ∀ s2, ev_up s1 9 (Int.toNat (ev_add (ev_mul 5 (s 1 2)) 1)) a1 = s2 → ((0 ≤ (ev_add (ev_mul 5 (s 1 2)) 2) ∧ (ev_add (ev_mul 5 (s 1 2)) 2) < (500 : Nat)) ∧ ∀ s3, ev_up s2 9 (Int.toNat (ev_add (ev_mul 5 (s 1 2)) 2)) a2 = s3 → ((0 ≤ (ev_add (ev_mul 5 (s 1 2)) 3) ∧ (ev_add (ev_mul 5 (s 1 2)) 3) < (500 : Nat)) ∧ ∀ s4, ev_up s3 9 (Int.toNat (ev_add (ev_mul 5 (s 1 2)) 3)) a3 = s4 → ((a4 = 0 → Ev layM M_X12_does (d + 1) 226 [(0, ev_r 0)] [ev_i 0, ev_i (ev_add (ev_mul 5 (s 1 2)) 4), ev_r 9] s4 Q) ∧ (a4 ≠ 0 → Ev layM M_X12_does (d + 1) 226 [(0, ev_r 0)] [ev_i 1, ev_i (ev_add (ev_mul 5 (s 1 2)) 4), ev_r 9] s4 Q))))))) ∧ ((s 1 2) = 100 → Q none s))) :
    Ev layM M_X12_does (d + 1) 143 [(0, ev_r 0), (1, ev_i a1), (2, ev_i a2), (3, ev_i a3), (4, ev_i a4)] [] s Q := by
  refine Ev_aload_n 0 dX12_does_143 rfl rfl ?_
  refine Ev_getR (i := 1) cl_X12 yM_0 (Nat.le_of_ble_eq_true rfl) rfl wd_1445 dX12_does_144 ?_
  refine Ev_iconst dX12_does_147 rfl (ev_Rc rfl) ?_
  refine Ev_iald yM_1 (by decide) dX12_does_148 ?_
  refine Ev_bipushC dX12_does_149 rfl ?_
  refine Ev_icmp_ne (tgt := 155) dX12_does_151 rfl (fun c => ?_) (fun c => ?_)
  · replace h := h.1 c
    refine Ev_iconst dX12_does_155 rfl (ev_Rc rfl) ?_
    refine Ev_aload_n 0 dX12_does_156 rfl rfl ?_
    refine Ev_getR (i := 1) cl_X12 yM_0 (Nat.le_of_ble_eq_true rfl) rfl wd_1445 dX12_does_157 ?_
    refine Ev_iconst dX12_does_160 rfl (ev_Rc rfl) ?_
    refine Ev_iald yM_1 (by decide) dX12_does_161 ?_
    refine Ev_imul dX12_does_162 ?_
    refine Ev_istore (l' := [(5, ev_i (ev_mul 5 (s 1 2))), (0, ev_r 0), (1, ev_i a1), (2, ev_i a2), (3, ev_i a3), (4, ev_i a4)]) dX12_does_163 (Nat.le_of_ble_eq_true rfl) rfl ?_
    refine Ev_aload_n 1 dX12_does_165 rfl rfl ?_
    refine Ev_getR (i := 17) cl_X12 yM_0 (Nat.le_of_ble_eq_true rfl) rfl wd_1461 dX12_does_166 ?_
    refine Ev_iload 0 dX12_does_169 rfl ?_
    refine Ev_aload_n 1 dX12_does_171 rfl rfl ?_
    refine Ev_getR (i := 1) cl_X12 yM_0 (Nat.le_of_ble_eq_true rfl) rfl wd_1445 dX12_does_172 ?_
    refine Ev_iconst dX12_does_175 rfl (ev_Rc rfl) ?_
    refine Ev_iald yM_1 (by decide) dX12_does_176 ?_
    obtain ⟨h0, h⟩ := h
    refine Ev_iast yM_9 h0 dX12_does_177 (Ev_nm (fun s1 es1 => ?_))
    replace h := h s1 es1
    refine Ev_aload_n 1 dX12_does_178 rfl rfl ?_
    refine Ev_getR (i := 17) cl_X12 yM_0 (Nat.le_of_ble_eq_true rfl) rfl wd_1461 dX12_does_179 ?_
    refine Ev_iload 0 dX12_does_182 rfl ?_
    refine Ev_iconst dX12_does_184 rfl (ev_Rc rfl) ?_
    refine Ev_iadd dX12_does_185 ?_
    refine Ev_iload_n 2 dX12_does_186 rfl rfl ?_
    obtain ⟨h0, h⟩ := h
    refine Ev_iast yM_9 h0 dX12_does_187 (Ev_nm (fun s2 es2 => ?_))
    replace h := h s2 es2
    refine Ev_aload_n 1 dX12_does_188 rfl rfl ?_
    refine Ev_getR (i := 17) cl_X12 yM_0 (Nat.le_of_ble_eq_true rfl) rfl wd_1461 dX12_does_189 ?_
    refine Ev_iload 0 dX12_does_192 rfl ?_
    refine Ev_iconst dX12_does_194 rfl (ev_Rc rfl) ?_
    refine Ev_iadd dX12_does_195 ?_
    refine Ev_iload_n 3 dX12_does_196 rfl rfl ?_
    obtain ⟨h0, h⟩ := h
    refine Ev_iast yM_9 h0 dX12_does_197 (Ev_nm (fun s3 es3 => ?_))
    replace h := h s3 es3
    refine Ev_aload_n 1 dX12_does_198 rfl rfl ?_
    refine Ev_getR (i := 17) cl_X12 yM_0 (Nat.le_of_ble_eq_true rfl) rfl wd_1461 dX12_does_199 ?_
    refine Ev_iload 0 dX12_does_202 rfl ?_
    refine Ev_iconst dX12_does_204 rfl (ev_Rc rfl) ?_
    refine Ev_iadd dX12_does_205 ?_
    refine Ev_iload_n 4 dX12_does_206 rfl rfl ?_
    obtain ⟨h0, h⟩ := h
    refine Ev_iast yM_9 h0 dX12_does_207 (Ev_nm (fun s4 es4 => ?_))
    replace h := h s4 es4
    refine Ev_aload_n 1 dX12_does_208 rfl rfl ?_
    refine Ev_getR (i := 17) cl_X12 yM_0 (Nat.le_of_ble_eq_true rfl) rfl wd_1461 dX12_does_209 ?_
    refine Ev_iload 0 dX12_does_212 rfl ?_
    refine Ev_iconst dX12_does_214 rfl (ev_Rc rfl) ?_
    refine Ev_iadd dX12_does_215 ?_
    refine Ev_iload 5 dX12_does_216 rfl ?_
    refine Ev_if_eq (tgt := 225) dX12_does_218 rfl (fun c => ?_) (fun c => ?_)
    · replace h := h.1 c
      refine Ev_iconst dX12_does_225 rfl (ev_Rc rfl) ?_
      exact Ev_sub [1] rfl h
    · replace h := h.2 c
      refine Ev_iconst dX12_does_221 rfl (ev_Rc rfl) ?_
      refine Ev_goto (tgt := 226) dX12_does_222 rfl ?_
      exact Ev_sub [1] rfl h
  · replace h := h.2 c
    exact Ev_vret rfl dX12_does_154 h
theorem wp_X12_does_226 {d : Nat} {s : ev_S} {Q : Option ev_V → ev_S → Prop} {t0 t1 : Int}
    (h : ((0 ≤ t1 ∧ t1 < (500 : Nat)) ∧ ∀ s1, ev_up s 9 (Int.toNat t1) t0 = s1 → (∀ s2, ev_up s1 1 2 (ev_add (s1 1 2) 1) = s2 → Q none s2))) :
    Ev layM M_X12_does (d + 1) 226 [(0, ev_r 0)] [ev_i t0, ev_i t1, ev_r 9] s Q := by
  obtain ⟨h0, h⟩ := h
  refine Ev_iast yM_9 h0 dX12_does_226 (Ev_nm (fun s1 es1 => ?_))
  replace h := h s1 es1
  refine Ev_aload_n 0 dX12_does_227 rfl rfl ?_
  refine Ev_getR (i := 1) cl_X12 yM_0 (Nat.le_of_ble_eq_true rfl) rfl wd_1445 dX12_does_228 ?_
  refine Ev_iconst dX12_does_231 rfl (ev_Rc rfl) ?_
  refine Ev_aload_n 0 dX12_does_232 rfl rfl ?_
  refine Ev_getR (i := 1) cl_X12 yM_0 (Nat.le_of_ble_eq_true rfl) rfl wd_1445 dX12_does_233 ?_
  refine Ev_iconst dX12_does_236 rfl (ev_Rc rfl) ?_
  refine Ev_iald yM_1 (by decide) dX12_does_237 ?_
  refine Ev_iconst dX12_does_238 rfl (ev_Rc rfl) ?_
  refine Ev_iadd dX12_does_239 ?_
  refine Ev_iast yM_1 (by decide) dX12_does_240 (Ev_nm (fun s2 es2 => ?_))
  replace h := h s2 es2
  exact Ev_vret rfl dX12_does_241 h
theorem dX12_isBusy_0 : decode cX12_isBusy 0 = .ok (.aload_n 0, 1) := by decide +kernel
theorem dX12_isBusy_1 : decode cX12_isBusy 1 = .ok (.getfield 7, 3) := by decide +kernel
theorem dX12_isBusy_4 : decode cX12_isBusy 4 = .ok (.bipush 33, 2) := by decide +kernel
theorem dX12_isBusy_6 : decode cX12_isBusy 6 = .ok (.iload_n 1, 1) := by decide +kernel
theorem dX12_isBusy_7 : decode cX12_isBusy 7 = .ok (.iadd, 1) := by decide +kernel
theorem dX12_isBusy_8 : decode cX12_isBusy 8 = .ok (.iload_n 2, 1) := by decide +kernel
theorem dX12_isBusy_9 : decode cX12_isBusy 9 = .ok (.iconst 1, 1) := by decide +kernel
theorem dX12_isBusy_10 : decode cX12_isBusy 10 = .ok (.isub, 1) := by decide +kernel
theorem dX12_isBusy_11 : decode cX12_isBusy 11 = .ok (.iastore, 1) := by decide +kernel
theorem dX12_isBusy_12 : decode cX12_isBusy 12 = .ok (.iload_n 2, 1) := by decide +kernel
theorem dX12_isBusy_13 : decode cX12_isBusy 13 = .ok (.iconst 1, 1) := by decide +kernel
theorem dX12_isBusy_14 : decode cX12_isBusy 14 = .ok (.if_icmp .gt 15, 3) := by decide +kernel
theorem dX12_isBusy_17 : decode cX12_isBusy 17 = .ok (.aload_n 0, 1) := by decide +kernel
theorem dX12_isBusy_18 : decode cX12_isBusy 18 = .ok (.getfield 7, 3) := by decide +kernel
theorem dX12_isBusy_21 : decode cX12_isBusy 21 = .ok (.bipush 45, 2) := by decide +kernel
theorem dX12_isBusy_23 : decode cX12_isBusy 23 = .ok (.iload_n 1, 1) := by decide +kernel
theorem dX12_isBusy_24 : decode cX12_isBusy 24 = .ok (.iadd, 1) := by decide +kernel
theorem dX12_isBusy_25 : decode cX12_isBusy 25 = .ok (.iaload, 1) := by decide +kernel
theorem dX12_isBusy_26 : decode cX12_isBusy 26 = .ok (.ifCond .ne 4, 3) := by decide +kernel
theorem dX12_isBusy_29 : decode cX12_isBusy 29 = .ok (.return_, 1) := by decide +kernel
theorem dX12_isBusy_30 : decode cX12_isBusy 30 = .ok (.aload_n 0, 1) := by decide +kernel
theorem dX12_isBusy_31 : decode cX12_isBusy 31 = .ok (.getfield 7, 3) := by decide +kernel
theorem dX12_isBusy_34 : decode cX12_isBusy 34 = .ok (.bipush 27, 2) := by decide +kernel
theorem dX12_isBusy_36 : decode cX12_isBusy 36 = .ok (.iload_n 1, 1) := by decide +kernel
theorem dX12_isBusy_37 : decode cX12_isBusy 37 = .ok (.iadd, 1) := by decide +kernel
theorem dX12_isBusy_38 : decode cX12_isBusy 38 = .ok (.aload_n 0, 1) := by decide +kernel
theorem dX12_isBusy_39 : decode cX12_isBusy 39 = .ok (.getfield 7, 3) := by decide +kernel
theorem dX12_isBusy_42 : decode cX12_isBusy 42 = .ok (.bipush 45, 2) := by decide +kernel
theorem dX12_isBusy_44 : decode cX12_isBusy 44 = .ok (.iload_n 1, 1) := by decide +kernel
theorem dX12_isBusy_45 : decode cX12_isBusy 45 = .ok (.iadd, 1) := by decide +kernel
theorem dX12_isBusy_46 : decode cX12_isBusy 46 = .ok (.iaload, 1) := by decide +kernel
theorem dX12_isBusy_47 : decode cX12_isBusy 47 = .ok (.iconst 1, 1) := by decide +kernel
theorem dX12_isBusy_48 : decode cX12_isBusy 48 = .ok (.isub, 1) := by decide +kernel
theorem dX12_isBusy_49 : decode cX12_isBusy 49 = .ok (.iastore, 1) := by decide +kernel
theorem dX12_isBusy_50 : decode cX12_isBusy 50 = .ok (.aload_n 0, 1) := by decide +kernel
theorem dX12_isBusy_51 : decode cX12_isBusy 51 = .ok (.getfield 7, 3) := by decide +kernel
theorem dX12_isBusy_54 : decode cX12_isBusy 54 = .ok (.bipush 45, 2) := by decide +kernel
theorem dX12_isBusy_56 : decode cX12_isBusy 56 = .ok (.iload_n 1, 1) := by decide +kernel
theorem dX12_isBusy_57 : decode cX12_isBusy 57 = .ok (.iadd, 1) := by decide +kernel
theorem dX12_isBusy_58 : decode cX12_isBusy 58 = .ok (.iconst 0, 1) := by decide +kernel
theorem dX12_isBusy_59 : decode cX12_isBusy 59 = .ok (.iastore, 1) := by decide +kernel
theorem dX12_isBusy_60 : decode cX12_isBusy 60 = .ok (.return_, 1) := by decide +kernel
theorem wp_X12_isBusy_0 {d : Nat} {s : ev_S} {Q : Option ev_V → ev_S → Prop} {a1 a2 : Int}
    (h : ((0 ≤ (ev_add 33 a1) ∧ (ev_add 33 a1) < (87 : Nat)) ∧ ∀ s1, ev_up s 1 (Int.toNat (ev_add 33 a1)) (ev_sub a2 1) = s1 → ((1 < a2 → Q none s1) ∧ (a2 ≤ 1 → ((0 ≤ (ev_add 45 a1) ∧ (ev_add 45 a1) < (87 : Nat)) ∧ (((s1 1 (Int.toNat (ev_add 45 a1))) ≠ 0 → ((0 ≤ (ev_add 45 a1) ∧ (ev_add 45 a1) < (87 : Nat)) ∧ ((0 ≤ (ev_add 27 a1) ∧ (ev_add 27 a1) < (87 : Nat)) ∧ ∀ s2, ev_up s1 1 (Int.toNat (ev_add 27 a1)) (ev_sub (s1 1 (Int.toNat (ev_add 45 a1))) 1) = s2 → ((0 ≤ (ev_add 45 a1) ∧ (ev_add 45 a1) < (87 : Nat)) ∧ ∀ s3, ev_up s2 1 (Int.toNat (ev_add 45 a1)) 0 = s3 → Q none s3)))) ∧ ((s1 1 (Int.toNat (ev_add 45 a1))) = 0 → Q none s1))))))) :
    Ev layM M_X12_isBusy d 0 [(0, ev_r 0), (1, ev_i a1), (2, ev_i a2)] [] s Q := by
  refine Ev_aload_n 0 dX12_isBusy_0 rfl rfl ?_
  refine Ev_getR (i := 1) cl_X12 yM_0 (Nat.le_of_ble_eq_true rfl) rfl wd_1445 dX12_isBusy_1 ?_
  refine Ev_bipushC dX12_isBusy_4 rfl ?_
  refine Ev_iload_n 1 dX12_isBusy_6 rfl rfl ?_
  refine Ev_iadd dX12_isBusy_7 ?_
  refine Ev_iload_n 2 dX12_isBusy_8 rfl rfl ?_
  refine Ev_iconst dX12_isBusy_9 rfl (ev_Rc rfl) ?_
  refine Ev_isub dX12_isBusy_10 ?_
  obtain ⟨h0, h⟩ := h
  refine Ev_iast yM_1 h0 dX12_isBusy_11 (Ev_nm (fun s1 es1 => ?_))
  replace h := h s1 es1
  refine Ev_iload_n 2 dX12_isBusy_12 rfl rfl ?_
  refine Ev_iconst dX12_isBusy_13 rfl (ev_Rc rfl) ?_
  refine Ev_icmp_gt (tgt := 29) dX12_isBusy_14 rfl (fun c => ?_) (fun c => ?_)
  · replace h := h.1 c
    exact Ev_vret rfl dX12_isBusy_29 h
  · replace h := h.2 c
    refine Ev_aload_n 0 dX12_isBusy_17 rfl rfl ?_
    refine Ev_getR (i := 1) cl_X12 yM_0 (Nat.le_of_ble_eq_true rfl) rfl wd_1445 dX12_isBusy_18 ?_
    refine Ev_bipushC dX12_isBusy_21 rfl ?_
    refine Ev_iload_n 1 dX12_isBusy_23 rfl rfl ?_
    refine Ev_iadd dX12_isBusy_24 ?_
    obtain ⟨h0, h⟩ := h
    refine Ev_iald yM_1 h0 dX12_isBusy_25 ?_
    refine Ev_if_ne (tgt := 30) dX12_isBusy_26 rfl (fun c => ?_) (fun c => ?_)
    · replace h := h.1 c
      refine Ev_aload_n 0 dX12_isBusy_30 rfl rfl ?_
      refine Ev_getR (i := 1) cl_X12 yM_0 (Nat.le_of_ble_eq_true rfl) rfl wd_1445 dX12_isBusy_31 ?_
      refine Ev_bipushC dX12_isBusy_34 rfl ?_
      refine Ev_iload_n 1 dX12_isBusy_36 rfl rfl ?_
      refine Ev_iadd dX12_isBusy_37 ?_
      refine Ev_aload_n 0 dX12_isBusy_38 rfl rfl ?_
      refine Ev_getR (i := 1) cl_X12 yM_0 (Nat.le_of_ble_eq_true rfl) rfl wd_1445 dX12_isBusy_39 ?_
      refine Ev_bipushC dX12_isBusy_42 rfl ?_
      refine Ev_iload_n 1 dX12_isBusy_44 rfl rfl ?_
      refine Ev_iadd dX12_isBusy_45 ?_
      obtain ⟨h0, h⟩ := h
      refine Ev_iald yM_1 h0 dX12_isBusy_46 ?_
      refine Ev_iconst dX12_isBusy_47 rfl (ev_Rc rfl) ?_
      refine Ev_isub dX12_isBusy_48 ?_
      obtain ⟨h0, h⟩ := h
      refine Ev_iast yM_1 h0 dX12_isBusy_49 (Ev_nm (fun s2 es2 => ?_))
      replace h := h s2 es2
      refine Ev_aload_n 0 dX12_isBusy_50 rfl rfl ?_
      refine Ev_getR (i := 1) cl_X12 yM_0 (Nat.le_of_ble_eq_true rfl) rfl wd_1445 dX12_isBusy_51 ?_
      refine Ev_bipushC dX12_isBusy_54 rfl ?_
      refine Ev_iload_n 1 dX12_isBusy_56 rfl rfl ?_
      refine Ev_iadd dX12_isBusy_57 ?_
      refine Ev_iconst dX12_isBusy_58 rfl (ev_Rc rfl) ?_
      obtain ⟨h0, h⟩ := h
      refine Ev_iast yM_1 h0 dX12_isBusy_59 (Ev_nm (fun s3 es3 => ?_))
      replace h := h s3 es3
      exact Ev_vret rfl dX12_isBusy_60 h
    · replace h := h.2 c
      exact Ev_vret rfl dX12_isBusy_29 h
theorem dX12_obeys_0 : decode cX12_obeys 0 = .ok (.bipush 40, 2) := by decide +kernel
theorem dX12_obeys_2 : decode cX12_obeys 2 = .ok (.iload_n 1, 1) := by decide +kernel
theorem dX12_obeys_3 : decode cX12_obeys 3 = .ok (.imul, 1) := by decide +kernel
theorem dX12_obeys_4 : decode cX12_obeys 4 = .ok (.aload_n 0, 1) := by decide +kernel
theorem dX12_obeys_5 : decode cX12_obeys 5 = .ok (.getfield 7, 3) := by decide +kernel
theorem dX12_obeys_8 : decode cX12_obeys 8 = .ok (.bipush 39, 2) := by decide +kernel
theorem dX12_obeys_10 : decode cX12_obeys 10 = .ok (.iload_n 1, 1) := by decide +kernel
theorem dX12_obeys_11 : decode cX12_obeys 11 = .ok (.iadd, 1) := by decide +kernel
theorem dX12_obeys_12 : decode cX12_obeys 12 = .ok (.iaload, 1) := by decide +kernel
theorem dX12_obeys_13 : decode cX12_obeys 13 = .ok (.iadd, 1) := by decide +kernel
theorem dX12_obeys_14 : decode cX12_obeys 14 = .ok (.istore_n 2, 1) := by decide +kernel
theorem dX12_obeys_15 : decode cX12_obeys 15 = .ok (.aload_n 0, 1) := by decide +kernel
theorem dX12_obeys_16 : decode cX12_obeys 16 = .ok (.getfield 7, 3) := by decide +kernel
theorem dX12_obeys_19 : decode cX12_obeys 19 = .ok (.bipush 39, 2) := by decide +kernel
theorem dX12_obeys_21 : decode cX12_obeys 21 = .ok (.iload_n 1, 1) := by decide +kernel
theorem dX12_obeys_22 : decode cX12_obeys 22 = .ok (.iadd, 1) := by decide +kernel
theorem dX12_obeys_23 : decode cX12_obeys 23 = .ok (.aload_n 0, 1) := by decide +kernel
theorem dX12_obeys_24 : decode cX12_obeys 24 = .ok (.getfield 7, 3) := by decide +kernel
theorem dX12_obeys_27 : decode cX12_obeys 27 = .ok (.bipush 39, 2) := by decide +kernel
theorem dX12_obeys_29 : decode cX12_obeys 29 = .ok (.iload_n 1, 1) := by decide +kernel
theorem dX12_obeys_30 : decode cX12_obeys 30 = .ok (.iadd, 1) := by decide +kernel
theorem dX12_obeys_31 : decode cX12_obeys 31 = .ok (.iaload, 1) := by decide +kernel
theorem dX12_obeys_32 : decode cX12_obeys 32 = .ok (.iconst 1, 1) := by decide +kernel
theorem dX12_obeys_33 : decode cX12_obeys 33 = .ok (.iadd, 1) := by decide +kernel
theorem dX12_obeys_34 : decode cX12_obeys 34 = .ok (.iastore, 1) := by decide +kernel
theorem dX12_obeys_35 : decode cX12_obeys 35 = .ok (.aload_n 0, 1) := by decide +kernel
theorem dX12_obeys_36 : decode cX12_obeys 36 = .ok (.getfield 86, 3) := by decide +kernel
theorem dX12_obeys_39 : decode cX12_obeys 39 = .ok (.iload_n 2, 1) := by decide +kernel
theorem dX12_obeys_40 : decode cX12_obeys 40 = .ok (.iaload, 1) := by decide +kernel
theorem dX12_obeys_41 : decode cX12_obeys 41 = .ok (.iconst 5, 1) := by decide +kernel
theorem dX12_obeys_42 : decode cX12_obeys 42 = .ok (.if_icmp .ne 62, 3) := by decide +kernel
theorem dX12_obeys_45 : decode cX12_obeys 45 = .ok (.aload_n 0, 1) := by decide +kernel
theorem dX12_obeys_46 : decode cX12_obeys 46 = .ok (.aload_n 0, 1) := by decide +kernel
theorem dX12_obeys_47 : decode cX12_obeys 47 = .ok (.getfield 7, 3) := by decide +kernel
theorem dX12_obeys_50 : decode cX12_obeys 50 = .ok (.bipush 27, 2) := by decide +kernel
theorem dX12_obeys_52 : decode cX12_obeys 52 = .ok (.iload_n 1, 1) := by decide +kernel
theorem dX12_obeys_53 : decode cX12_obeys 53 = .ok (.iadd, 1) := by decide +kernel
theorem dX12_obeys_54 : decode cX12_obeys 54 = .ok (.iaload, 1) := by decide +kernel
theorem dX12_obeys_55 : decode cX12_obeys 55 = .ok (.aload_n 0, 1) := by decide +kernel
theorem dX12_obeys_56 : decode cX12_obeys 56 = .ok (.getfield 89, 3) := by decide +kernel
theorem dX12_obeys_59 : decode cX12_obeys 59 = .ok (.iload_n 2, 1) := by decide +kernel
theorem dX12_obeys_60 : decode cX12_obeys 60 = .ok (.iaload, 1) := by decide +kernel
theorem dX12_obeys_61 : decode cX12_obeys 61 = .ok (.invokevirtual 378, 3) := by decide +kernel
theorem dX12_obeys_64 : decode cX12_obeys 64 = .ok (.aload_n 0, 1) := by decide +kernel
theorem dX12_obeys_65 : decode cX12_obeys 65 = .ok (.getfield 22, 3) := by decide +kernel
theorem dX12_obeys_68 : decode cX12_obeys 68 = .ok (.iload_n 1, 1) := by decide +kernel
theorem dX12_obeys_69 : decode cX12_obeys 69 = .ok (.iaload, 1) := by decide +kernel
theorem dX12_obeys_70 : decode cX12_obeys 70 = .ok (.imul, 1) := by decide +kernel
theorem dX12_obeys_71 : decode cX12_obeys 71 = .ok (.istore_n 3, 1) := by decide +kernel
theorem dX12_obeys_72 : decode cX12_obeys 72 = .ok (.iload_n 3, 1) := by decide +kernel
theorem dX12_obeys_73 : decode cX12_obeys 73 = .ok (.ifCond .ne 5, 3) := by decide +kernel
theorem dX12_obeys_76 : decode cX12_obeys 76 = .ok (.iconst 1, 1) := by decide +kernel
theorem dX12_obeys_77 : decode cX12_obeys 77 = .ok (.ireturn, 1) := by decide +kernel
theorem dX12_obeys_78 : decode cX12_obeys 78 = .ok (.aload_n 0, 1) := by decide +kernel
theorem dX12_obeys_79 : decode cX12_obeys 79 = .ok (.getfield 7, 3) := by decide +kernel
theorem dX12_obeys_82 : decode cX12_obeys 82 = .ok (.bipush 45, 2) := by decide +kernel
theorem dX12_obeys_84 : decode cX12_obeys 84 = .ok (.iload_n 1, 1) := by decide +kernel
theorem dX12_obeys_85 : decode cX12_obeys 85 = .ok (.iadd, 1) := by decide +kernel
theorem dX12_obeys_86 : decode cX12_obeys 86 = .ok (.aload_n 0, 1) := by decide +kernel
theorem dX12_obeys_87 : decode cX12_obeys 87 = .ok (.getfield 89, 3) := by decide +kernel
theorem dX12_obeys_90 : decode cX12_obeys 90 = .ok (.iload_n 2, 1) := by decide +kernel
theorem dX12_obeys_91 : decode cX12_obeys 91 = .ok (.iaload, 1) := by decide +kernel
theorem dX12_obeys_92 : decode cX12_obeys 92 = .ok (.iconst 1, 1) := by decide +kernel
theorem dX12_obeys_93 : decode cX12_obeys 93 = .ok (.iadd, 1) := by decide +kernel
theorem dX12_obeys_94 : decode cX12_obeys 94 = .ok (.iastore, 1) := by decide +kernel
theorem dX12_obeys_95 : decode cX12_obeys 95 = .ok (.aload_n 0, 1) := by decide +kernel
theorem dX12_obeys_96 : decode cX12_obeys 96 = .ok (.iload_n 1, 1) := by decide +kernel
theorem dX12_obeys_97 : decode cX12_obeys 97 = .ok (.iload_n 3, 1) := by decide +kernel
theorem dX12_obeys_98 : decode cX12_obeys 98 = .ok (.invokevirtual 381, 3) := by decide +kernel
theorem dX12_obeys_101 : decode cX12_obeys 101 = .ok (.goto 39, 3) := by decide +kernel
theorem dX12_obeys_104 : decode cX12_obeys 104 = .ok (.aload_n 0, 1) := by decide +kernel
theorem dX12_obeys_105 : decode cX12_obeys 105 = .ok (.getfield 86, 3) := by decide +kernel
theorem dX12_obeys_108 : decode cX12_obeys 108 = .ok (.iload_n 2, 1) := by decide +kernel
theorem dX12_obeys_109 : decode cX12_obeys 109 = .ok (.iaload, 1) := by decide +kernel
theorem dX12_obeys_110 : decode cX12_obeys 110 = .ok (.bipush 6, 2) := by decide +kernel
theorem dX12_obeys_112 : decode cX12_obeys 112 = .ok (.if_icmp .ne 17, 3) := by decide +kernel
theorem dX12_obeys_115 : decode cX12_obeys 115 = .ok (.aload_n 0, 1) := by decide +kernel
theorem dX12_obeys_116 : decode cX12_obeys 116 = .ok (.iload_n 1, 1) := by decide +kernel
theorem dX12_obeys_117 : decode cX12_obeys 117 = .ok (.aload_n 0, 1) := by decide +kernel
theorem dX12_obeys_118 : decode cX12_obeys 118 = .ok (.getfield 89, 3) := by decide +kernel
theorem dX12_obeys_121 : decode cX12_obeys 121 = .ok (.iload_n 2, 1) := by decide +kernel
theorem dX12_obeys_122 : decode cX12_obeys 122 = .ok (.iaload, 1) := by decide +kernel
theorem dX12_obeys_123 : decode cX12_obeys 123 = .ok (.invokevirtual 381, 3) := by decide +kernel
theorem dX12_obeys_126 : decode cX12_obeys 126 = .ok (.goto 14, 3) := by decide +kernel
theorem dX12_obeys_129 : decode cX12_obeys 129 = .ok (.aload_n 0, 1) := by decide +kernel
theorem dX12_obeys_130 : decode cX12_obeys 130 = .ok (.iload_n 1, 1) := by decide +kernel
theorem dX12_obeys_131 : decode cX12_obeys 131 = .ok (.aload_n 0, 1) := by decide +kernel
theorem dX12_obeys_132 : decode cX12_obeys 132 = .ok (.getfield 86, 3) := by decide +kernel
theorem dX12_obeys_135 : decode cX12_obeys 135 = .ok (.iload_n 2, 1) := by decide +kernel
theorem dX12_obeys_136 : decode cX12_obeys 136 = .ok (.iaload, 1) := by decide +kernel
theorem dX12_obeys_137 : decode cX12_obeys 137 = .ok (.invokevirtual 384, 3) := by decide +kernel
theorem dX12_obeys_140 : decode cX12_obeys 140 = .ok (.iconst 0, 1) := by decide +kernel
theorem dX12_obeys_141 : decode cX12_obeys 141 = .ok (.ireturn, 1) := by decide +kernel
theorem wp_X12_obeys_0 {d : Nat} {s : ev_S} {Q : Option ev_V → ev_S → Prop} {a1 : Int}
    (h : ((0 ≤ (ev_add 39 a1) ∧ (ev_add 39 a1) < (87 : Nat)) ∧ ((0 ≤ (ev_add 39 a1) ∧ (ev_add 39 a1) < (87 : Nat)) ∧ ((0 ≤ (ev_add 39 a1) ∧ (ev_add 39 a1) < (87 : Nat)) ∧ ∀ s1, ev_up s 1 (Int.toNat (ev_add 39 a1)) (ev_add (s 1 (Int.toNat (ev_add 39 a1))) 1) = s1 → ((0 ≤ (ev_add (ev_mul 40 a1) (s 1 (Int.toNat (ev_add 39 a1)))) ∧ (ev_add (ev_mul 40 a1) (s 1 (Int.toNat (ev_add 39 a1)))) < (280 : Nat)) ∧ (((s1 25 (Int.toNat (ev_add (ev_mul 40 a1) (s 1 (Int.toNat (ev_add 39 a1)))))) ≠ 5 → ((0 ≤ (ev_add (ev_mul 40 a1) (s 1 (Int.toNat (ev_add 39 a1)))) ∧ (ev_add (ev_mul 40 a1) (s 1 (Int.toNat (ev_add 39 a1)))) < (280 : Nat)) ∧ (((s1 25 (Int.toNat (ev_add (ev_mul 40 a1) (s 1 (Int.toNat (ev_add 39 a1)))))) ≠ 6 → ((0 ≤ (ev_add (ev_mul 40 a1) (s 1 (Int.toNat (ev_add 39 a1)))) ∧ (ev_add (ev_mul 40 a1) (s 1 (Int.toNat (ev_add 39 a1)))) < (280 : Nat)) ∧ (Ev layM M_X12_does d 0 [(0, ev_r 0), (1, ev_i a1), (2, ev_i (s1 25 (Int.toNat (ev_add (ev_mul 40 a1) (s 1 (Int.toNat (ev_add 39 a1)))))))] [] s1 (fun _ s2 => Q (some (ev_i 0)) s2)))) ∧ ((s1 25 (Int.toNat (ev_add (ev_mul 40 a1) (s 1 (Int.toNat (ev_add 39 a1)))))) = 6 → ((0 ≤ (ev_add (ev_mul 40 a1) (s 1 (Int.toNat (ev_add 39 a1)))) ∧ (ev_add (ev_mul 40 a1) (s 1 (Int.toNat (ev_add 39 a1)))) < (280 : Nat)) ∧ (Ev layM M_X12_isBusy d 0 [(0, ev_r 0), (1, ev_i a1), (2, ev_i (s1 26 (Int.toNat (ev_add (ev_mul 40 a1) (s 1 (Int.toNat (ev_add 39 a1)))))))] [] s1 (fun _ s3 => Q (some (ev_i 0)) s3))))))) ∧ ((s1 25 (Int.toNat (ev_add (ev_mul 40 a1) (s 1 (Int.toNat (ev_add 39 a1)))))) = 5 → ((0 ≤ (ev_add 27 a1) ∧ (ev_add 27 a1) < (87 : Nat)) ∧ ((0 ≤ (ev_add (ev_mul 40 a1) (s 1 (Int.toNat (ev_add 39 a1)))) ∧ (ev_add (ev_mul 40 a1) (s 1 (Int.toNat (ev_add 39 a1)))) < (280 : Nat)) ∧ (Ev layM M_X12_farOf d 0 [(0, ev_r 0), (1, ev_i (s1 1 (Int.toNat (ev_add 27 a1)))), (2, ev_i (s1 26 (Int.toNat (ev_add (ev_mul 40 a1) (s 1 (Int.toNat (ev_add 39 a1)))))))] [] s1 (ev_pi (fun r5 s4 => ((0 ≤ a1 ∧ a1 < (6 : Nat)) ∧ (((ev_mul r5 (s4 5 (Int.toNat a1))) ≠ 0 → ((0 ≤ (ev_add (ev_mul 40 a1) (s 1 (Int.toNat (ev_add 39 a1)))) ∧ (ev_add (ev_mul 40 a1) (s 1 (Int.toNat (ev_add 39 a1)))) < (280 : Nat)) ∧ ((0 ≤ (ev_add 45 a1) ∧ (ev_add 45 a1) < (87 : Nat)) ∧ ∀ s6, ev_up s4 1 (Int.toNat (ev_add 45 a1)) (ev_add (s4 26 (Int.toNat (ev_add (ev_mul 40 a1) (s 1 (Int.toNat (ev_add 39 a1)))))) 1) = s6 → (Ev layM M_X12_isBusy d 0 [(0, ev_r 0), (1, ev_i a1), (2, ev_i (ev_mul r5 (s4 5 (Int.toNat a1))))] [] s6 (fun _ s7 => Q (some (ev_i 0)) s7))))) ∧ ((ev_mul r5 (s4 5 (Int.toNat a1))) = 0 → Q (some (ev_i 1)) s4))))))))))))))) :
    Ev layM M_X12_obeys (d + 1) 0 [(0, ev_r 0), (1, ev_i a1)] [] s Q := by
  refine Ev_bipushC dX12_obeys_0 rfl ?_
  refine Ev_iload_n 1 dX12_obeys_2 rfl rfl ?_
  refine Ev_imul dX12_obeys_3 ?_
  refine Ev_aload_n 0 dX12_obeys_4 rfl rfl ?_
  refine Ev_getR (i := 1) cl_X12 yM_0 (Nat.le_of_ble_eq_true rfl) rfl wd_1445 dX12_obeys_5 ?_
  refine Ev_bipushC dX12_obeys_8 rfl ?_
  refine Ev_iload_n 1 dX12_obeys_10 rfl rfl ?_
  refine Ev_iadd dX12_obeys_11 ?_
  obtain ⟨h0, h⟩ := h
  refine Ev_iald yM_1 h0 dX12_obeys_12 ?_
  refine Ev_iadd dX12_obeys_13 ?_
  refine Ev_istore_n (l' := [(2, ev_i (ev_add (ev_mul 40 a1) (s 1 (Int.toNat (ev_add 39 a1))))), (0, ev_r 0), (1, ev_i a1)]) dX12_obeys_14 rfl (Nat.le_of_ble_eq_true rfl) rfl ?_
  refine Ev_aload_n 1 dX12_obeys_15 rfl rfl ?_
  refine Ev_getR (i := 1) cl_X12 yM_0 (Nat.le_of_ble_eq_true rfl) rfl wd_1445 dX12_obeys_16 ?_
  refine Ev_bipushC dX12_obeys_19 rfl ?_
  refine Ev_iload_n 2 dX12_obeys_21 rfl rfl ?_
  refine Ev_iadd dX12_obeys_22 ?_
  refine Ev_aload_n 1 dX12_obeys_23 rfl rfl ?_
  refine Ev_getR (i := 1) cl_X12 yM_0 (Nat.le_of_ble_eq_true rfl) rfl wd_1445 dX12_obeys_24 ?_
  refine Ev_bipushC dX12_obeys_27 rfl ?_
  refine Ev_iload_n 2 dX12_obeys_29 rfl rfl ?_
  refine Ev_iadd dX12_obeys_30 ?_
  obtain ⟨h0, h⟩ := h
  refine Ev_iald yM_1 h0 dX12_obeys_31 ?_
  refine Ev_iconst dX12_obeys_32 rfl (ev_Rc rfl) ?_
  refine Ev_iadd dX12_obeys_33 ?_
  obtain ⟨h0, h⟩ := h
  refine Ev_iast yM_1 h0 dX12_obeys_34 (Ev_nm (fun s1 es1 => ?_))
  replace h := h s1 es1
  refine Ev_aload_n 1 dX12_obeys_35 rfl rfl ?_
  refine Ev_getR (i := 48) cl_X12 yM_0 (Nat.le_of_ble_eq_true rfl) rfl wd_1492 dX12_obeys_36 ?_
  refine Ev_iload_n 0 dX12_obeys_39 rfl rfl ?_
  obtain ⟨h0, h⟩ := h
  refine Ev_iald yM_25 h0 dX12_obeys_40 ?_
  refine Ev_iconst dX12_obeys_41 rfl (ev_Rc rfl) ?_
  refine Ev_icmp_ne (tgt := 104) dX12_obeys_42 rfl (fun c => ?_) (fun c => ?_)
  · replace h := h.1 c
    refine Ev_aload_n 1 dX12_obeys_104 rfl rfl ?_
    refine Ev_getR (i := 48) cl_X12 yM_0 (Nat.le_of_ble_eq_true rfl) rfl wd_1492 dX12_obeys_105 ?_
    refine Ev_iload_n 0 dX12_obeys_108 rfl rfl ?_
    obtain ⟨h0, h⟩ := h
    refine Ev_iald yM_25 h0 dX12_obeys_109 ?_
    refine Ev_bipushC dX12_obeys_110 rfl ?_
    refine Ev_icmp_ne (tgt := 129) dX12_obeys_112 rfl (fun c => ?_) (fun c => ?_)
    · replace h := h.1 c
      refine Ev_aload_n 1 dX12_obeys_129 rfl rfl ?_
      refine Ev_iload_n 2 dX12_obeys_130 rfl rfl ?_
      refine Ev_aload_n 1 dX12_obeys_131 rfl rfl ?_
      refine Ev_getR (i := 48) cl_X12 yM_0 (Nat.le_of_ble_eq_true rfl) rfl wd_1492 dX12_obeys_132 ?_
      refine Ev_iload_n 0 dX12_obeys_135 rfl rfl ?_
      obtain ⟨h0, h⟩ := h
      refine Ev_iald yM_25 h0 dX12_obeys_136 ?_
      refine Ev_callV (As := [ev_i a1, ev_i (s1 25 (Int.toNat (ev_add (ev_mul 40 a1) (s 1 (Int.toNat (ev_add 39 a1))))))]) (b := 0) (st := []) (M' := M_X12_does) cm_X12_does wd_1910 wd_1912 wd_126 yM_0 cl_X12 rfl dX12_obeys_137 (Nat.le_refl _) rfl (Nat.le_of_ble_eq_true rfl) (Nat.le_of_ble_eq_true rfl) h (fun v u h hk => ?_)
      cases hk
      obtain ⟨s2, rfl⟩ : ∃ x, x = u := ⟨_, rfl⟩
      refine Ev_iconst dX12_obeys_140 rfl (ev_Rc rfl) ?_
      exact Ev_iret rfl dX12_obeys_141 (ev_nb (by decide)) h
    · replace h := h.2 c
      refine Ev_aload_n 1 dX12_obeys_115 rfl rfl ?_
      refine Ev_iload_n 2 dX12_obeys_116 rfl rfl ?_
      refine Ev_aload_n 1 dX12_obeys_117 rfl rfl ?_
      refine Ev_getR (i := 49) cl_X12 yM_0 (Nat.le_of_ble_eq_true rfl) rfl wd_1493 dX12_obeys_118 ?_
      refine Ev_iload_n 0 dX12_obeys_121 rfl rfl ?_
      obtain ⟨h0, h⟩ := h
      refine Ev_iald yM_26 h0 dX12_obeys_122 ?_
      refine Ev_callV (As := [ev_i a1, ev_i (s1 26 (Int.toNat (ev_add (ev_mul 40 a1) (s 1 (Int.toNat (ev_add 39 a1))))))]) (b := 0) (st := []) (M' := M_X12_isBusy) cm_X12_isBusy wd_1894 wd_1896 wd_122 yM_0 cl_X12 rfl dX12_obeys_123 (Nat.le_refl _) rfl (Nat.le_of_ble_eq_true rfl) (Nat.le_of_ble_eq_true rfl) h (fun v u h hk => ?_)
      cases hk
      obtain ⟨s3, rfl⟩ : ∃ x, x = u := ⟨_, rfl⟩
      refine Ev_goto (tgt := 140) dX12_obeys_126 rfl ?_
      refine Ev_iconst dX12_obeys_140 rfl (ev_Rc rfl) ?_
      exact Ev_iret rfl dX12_obeys_141 (ev_nb (by decide)) h
  · replace h := h.2 c
    refine Ev_aload_n 1 dX12_obeys_45 rfl rfl ?_
    refine Ev_aload_n 1 dX12_obeys_46 rfl rfl ?_
    refine Ev_getR (i := 1) cl_X12 yM_0 (Nat.le_of_ble_eq_true rfl) rfl wd_1445 dX12_obeys_47 ?_
    refine Ev_bipushC dX12_obeys_50 rfl ?_
    refine Ev_iload_n 2 dX12_obeys_52 rfl rfl ?_
    refine Ev_iadd dX12_obeys_53 ?_
    obtain ⟨h0, h⟩ := h
    refine Ev_iald yM_1 h0 dX12_obeys_54 ?_
    refine Ev_aload_n 1 dX12_obeys_55 rfl rfl ?_
    refine Ev_getR (i := 49) cl_X12 yM_0 (Nat.le_of_ble_eq_true rfl) rfl wd_1493 dX12_obeys_56 ?_
    refine Ev_iload_n 0 dX12_obeys_59 rfl rfl ?_
    obtain ⟨h0, h⟩ := h
    refine Ev_iald yM_26 h0 dX12_obeys_60 ?_
    refine Ev_callV (As := [ev_i (s1 1 (Int.toNat (ev_add 27 a1))), ev_i (s1 26 (Int.toNat (ev_add (ev_mul 40 a1) (s 1 (Int.toNat (ev_add 39 a1))))))]) (b := 0) (st := []) (M' := M_X12_farOf) cm_X12_farOf wd_1902 wd_1904 wd_124 yM_0 cl_X12 rfl dX12_obeys_61 (Nat.le_refl _) rfl (Nat.le_of_ble_eq_true rfl) (Nat.le_of_ble_eq_true rfl) h (fun v u h hk => ?_)
    obtain ⟨r5, rfl⟩ := hk
    obtain ⟨s4, rfl⟩ : ∃ x, x = u := ⟨_, rfl⟩
    replace h := h r5 rfl
    refine Ev_aload_n 1 dX12_obeys_64 rfl rfl ?_
    refine Ev_getR (i := 13) cl_X12 yM_0 (Nat.le_of_ble_eq_true rfl) rfl wd_1457 dX12_obeys_65 ?_
    refine Ev_iload_n 2 dX12_obeys_68 rfl rfl ?_
    obtain ⟨h0, h⟩ := h
    refine Ev_iald yM_5 h0 dX12_obeys_69 ?_
    refine Ev_imul dX12_obeys_70 ?_
    refine Ev_istore_n (l' := [(3, ev_i (ev_mul r5 (s4 5 (Int.toNat a1)))), (2, ev_i (ev_add (ev_mul 40 a1) (s 1 (Int.toNat (ev_add 39 a1))))), (0, ev_r 0), (1, ev_i a1)]) dX12_obeys_71 rfl (Nat.le_of_ble_eq_true rfl) rfl ?_
    refine Ev_iload_n 0 dX12_obeys_72 rfl rfl ?_
    refine Ev_if_ne (tgt := 78) dX12_obeys_73 rfl (fun c => ?_) (fun c => ?_)
    · replace h := h.1 c
      refine Ev_aload_n 2 dX12_obeys_78 rfl rfl ?_
      refine Ev_getR (i := 1) cl_X12 yM_0 (Nat.le_of_ble_eq_true rfl) rfl wd_1445 dX12_obeys_79 ?_
      refine Ev_bipushC dX12_obeys_82 rfl ?_
      refine Ev_iload_n 3 dX12_obeys_84 rfl rfl ?_
      refine Ev_iadd dX12_obeys_85 ?_
      refine Ev_aload_n 2 dX12_obeys_86 rfl rfl ?_
      refine Ev_getR (i := 49) cl_X12 yM_0 (Nat.le_of_ble_eq_true rfl) rfl wd_1493 dX12_obeys_87 ?_
      refine Ev_iload_n 1 dX12_obeys_90 rfl rfl ?_
      obtain ⟨h0, h⟩ := h
      refine Ev_iald yM_26 h0 dX12_obeys_91 ?_
      refine Ev_iconst dX12_obeys_92 rfl (ev_Rc rfl) ?_
      refine Ev_iadd dX12_obeys_93 ?_
      obtain ⟨h0, h⟩ := h
      refine Ev_iast yM_1 h0 dX12_obeys_94 (Ev_nm (fun s6 es6 => ?_))
      replace h := h s6 es6
      refine Ev_aload_n 2 dX12_obeys_95 rfl rfl ?_
      refine Ev_iload_n 3 dX12_obeys_96 rfl rfl ?_
      refine Ev_iload_n 0 dX12_obeys_97 rfl rfl ?_
      refine Ev_callV (As := [ev_i a1, ev_i (ev_mul r5 (s4 5 (Int.toNat a1)))]) (b := 0) (st := []) (M' := M_X12_isBusy) cm_X12_isBusy wd_1894 wd_1896 wd_122 yM_0 cl_X12 rfl dX12_obeys_98 (Nat.le_refl _) rfl (Nat.le_of_ble_eq_true rfl) (Nat.le_of_ble_eq_true rfl) h (fun v u h hk => ?_)
      cases hk
      obtain ⟨s7, rfl⟩ : ∃ x, x = u := ⟨_, rfl⟩
      refine Ev_goto (tgt := 140) dX12_obeys_101 rfl ?_
      refine Ev_iconst dX12_obeys_140 rfl (ev_Rc rfl) ?_
      exact Ev_iret rfl dX12_obeys_141 (ev_nb (by decide)) h
    · replace h := h.2 c
      refine Ev_iconst dX12_obeys_76 rfl (ev_Rc rfl) ?_
      exact Ev_iret rfl dX12_obeys_77 (ev_nb (by decide)) h
theorem dX12_angelGoesOn_0 : decode cX12_angelGoesOn 0 = .ok (.aload_n 0, 1) := by decide +kernel
theorem dX12_angelGoesOn_1 : decode cX12_angelGoesOn 1 = .ok (.getfield 7, 3) := by decide +kernel
theorem dX12_angelGoesOn_4 : decode cX12_angelGoesOn 4 = .ok (.bipush 33, 2) := by decide +kernel
theorem dX12_angelGoesOn_6 : decode cX12_angelGoesOn 6 = .ok (.iload_n 1, 1) := by decide +kernel
theorem dX12_angelGoesOn_7 : decode cX12_angelGoesOn 7 = .ok (.iadd, 1) := by decide +kernel
theorem dX12_angelGoesOn_8 : decode cX12_angelGoesOn 8 = .ok (.iaload, 1) := by decide +kernel
theorem dX12_angelGoesOn_9 : decode cX12_angelGoesOn 9 = .ok (.ifCond .le 18, 3) := by decide +kernel
theorem dX12_angelGoesOn_12 : decode cX12_angelGoesOn 12 = .ok (.aload_n 0, 1) := by decide +kernel
theorem dX12_angelGoesOn_13 : decode cX12_angelGoesOn 13 = .ok (.iload_n 1, 1) := by decide +kernel
theorem dX12_angelGoesOn_14 : decode cX12_angelGoesOn 14 = .ok (.aload_n 0, 1) := by decide +kernel
theorem dX12_angelGoesOn_15 : decode cX12_angelGoesOn 15 = .ok (.getfield 7, 3) := by decide +kernel
theorem dX12_angelGoesOn_18 : decode cX12_angelGoesOn 18 = .ok (.bipush 33, 2) := by decide +kernel
theorem dX12_angelGoesOn_20 : decode cX12_angelGoesOn 20 = .ok (.iload_n 1, 1) := by decide +kernel
theorem dX12_angelGoesOn_21 : decode cX12_angelGoesOn 21 = .ok (.iadd, 1) := by decide +kernel
theorem dX12_angelGoesOn_22 : decode cX12_angelGoesOn 22 = .ok (.iaload, 1) := by decide +kernel
theorem dX12_angelGoesOn_23 : decode cX12_angelGoesOn 23 = .ok (.invokevirtual 381, 3) := by decide +kernel
theorem dX12_angelGoesOn_26 : decode cX12_angelGoesOn 26 = .ok (.return_, 1) := by decide +kernel
theorem dX12_angelGoesOn_27 : decode cX12_angelGoesOn 27 = .ok (.iconst 1, 1) := by decide +kernel
theorem dX12_angelGoesOn_28 : decode cX12_angelGoesOn 28 = .ok (.istore_n 2, 1) := by decide +kernel
theorem dX12_angelGoesOn_29 : decode cX12_angelGoesOn 29 = .ok (.iload_n 2, 1) := by decide +kernel
theorem dX12_angelGoesOn_30 : decode cX12_angelGoesOn 30 = .ok (.ifCond .eq 30, 3) := by decide +kernel
theorem dX12_angelGoesOn_33 : decode cX12_angelGoesOn 33 = .ok (.aload_n 0, 1) := by decide +kernel
theorem dX12_angelGoesOn_34 : decode cX12_angelGoesOn 34 = .ok (.getfield 7, 3) := by decide +kernel
theorem dX12_angelGoesOn_37 : decode cX12_angelGoesOn 37 = .ok (.bipush 39, 2) := by decide +kernel
theorem dX12_angelGoesOn_39 : decode cX12_angelGoesOn 39 = .ok (.iload_n 1, 1) := by decide +kernel
theorem dX12_angelGoesOn_40 : decode cX12_angelGoesOn 40 = .ok (.iadd, 1) := by decide +kernel
theorem dX12_angelGoesOn_41 : decode cX12_angelGoesOn 41 = .ok (.iaload, 1) := by decide +kernel
theorem dX12_angelGoesOn_42 : decode cX12_angelGoesOn 42 = .ok (.aload_n 0, 1) := by decide +kernel
theorem dX12_angelGoesOn_43 : decode cX12_angelGoesOn 43 = .ok (.getfield 92, 3) := by decide +kernel
theorem dX12_angelGoesOn_46 : decode cX12_angelGoesOn 46 = .ok (.iload_n 1, 1) := by decide +kernel
theorem dX12_angelGoesOn_47 : decode cX12_angelGoesOn 47 = .ok (.iaload, 1) := by decide +kernel
theorem dX12_angelGoesOn_48 : decode cX12_angelGoesOn 48 = .ok (.if_icmp .ge 12, 3) := by decide +kernel
theorem dX12_angelGoesOn_51 : decode cX12_angelGoesOn 51 = .ok (.aload_n 0, 1) := by decide +kernel
theorem dX12_angelGoesOn_52 : decode cX12_angelGoesOn 52 = .ok (.iload_n 1, 1) := by decide +kernel
theorem dX12_angelGoesOn_53 : decode cX12_angelGoesOn 53 = .ok (.invokevirtual 387, 3) := by decide +kernel
theorem dX12_angelGoesOn_56 : decode cX12_angelGoesOn 56 = .ok (.istore_n 2, 1) := by decide +kernel
theorem dX12_angelGoesOn_57 : decode cX12_angelGoesOn 57 = .ok (.goto (-28), 3) := by decide +kernel
theorem dX12_angelGoesOn_60 : decode cX12_angelGoesOn 60 = .ok (.return_, 1) := by decide +kernel
theorem wp_X12_angelGoesOn_0 {d : Nat} {s : ev_S} {Q : Option ev_V → ev_S → Prop} {a1 : Int}
    (h : ((0 ≤ (ev_add 33 a1) ∧ (ev_add 33 a1) < (87 : Nat)) ∧ (((s 1 (Int.toNat (ev_add 33 a1))) ≤ 0 → Ev layM M_X12_angelGoesOn (d + 1) 29 [(0, ev_r 0), (1, ev_i a1), (2, ev_i 1)] [] s Q) ∧ (0 < (s 1 (Int.toNat (ev_add 33 a1))) → ((0 ≤ (ev_add 33 a1) ∧ (ev_add 33 a1) < (87 : Nat)) ∧ (Ev layM M_X12_isBusy d 0 [(0, ev_r 0), (1, ev_i a1), (2, ev_i (s 1 (Int.toNat (ev_add 33 a1))))] [] s (fun _ s1 => Q none s1))))))) :
    Ev layM M_X12_angelGoesOn (d + 1) 0 [(0, ev_r 0), (1, ev_i a1)] [] s Q := by
  refine Ev_aload_n 0 dX12_angelGoesOn_0 rfl rfl ?_
  refine Ev_getR (i := 1) cl_X12 yM_0 (Nat.le_of_ble_eq_true rfl) rfl wd_1445 dX12_angelGoesOn_1 ?_
  refine Ev_bipushC dX12_angelGoesOn_4 rfl ?_
  refine Ev_iload_n 1 dX12_angelGoesOn_6 rfl rfl ?_
  refine Ev_iadd dX12_angelGoesOn_7 ?_
  obtain ⟨h0, h⟩ := h
  refine Ev_iald yM_1 h0 dX12_angelGoesOn_8 ?_
  refine Ev_if_le (tgt := 27) dX12_angelGoesOn_9 rfl (fun c => ?_) (fun c => ?_)
  · replace h := h.1 c
    refine Ev_iconst dX12_angelGoesOn_27 rfl (ev_Rc rfl) ?_
    refine Ev_istore_n (l' := [(2, ev_i 1), (0, ev_r 0), (1, ev_i a1)]) dX12_angelGoesOn_28 rfl (Nat.le_of_ble_eq_true rfl) rfl ?_
    exact Ev_sub [1, 2, 0] rfl h
  · replace h := h.2 c
    refine Ev_aload_n 0 dX12_angelGoesOn_12 rfl rfl ?_
    refine Ev_iload_n 1 dX12_angelGoesOn_13 rfl rfl ?_
    refine Ev_aload_n 0 dX12_angelGoesOn_14 rfl rfl ?_
    refine Ev_getR (i := 1) cl_X12 yM_0 (Nat.le_of_ble_eq_true rfl) rfl wd_1445 dX12_angelGoesOn_15 ?_
    refine Ev_bipushC dX12_angelGoesOn_18 rfl ?_
    refine Ev_iload_n 1 dX12_angelGoesOn_20 rfl rfl ?_
    refine Ev_iadd dX12_angelGoesOn_21 ?_
    obtain ⟨h0, h⟩ := h
    refine Ev_iald yM_1 h0 dX12_angelGoesOn_22 ?_
    refine Ev_callV (As := [ev_i a1, ev_i (s 1 (Int.toNat (ev_add 33 a1)))]) (b := 0) (st := []) (M' := M_X12_isBusy) cm_X12_isBusy wd_1894 wd_1896 wd_122 yM_0 cl_X12 rfl dX12_angelGoesOn_23 (Nat.le_refl _) rfl (Nat.le_of_ble_eq_true rfl) (Nat.le_of_ble_eq_true rfl) h (fun v u h hk => ?_)
    cases hk
    obtain ⟨s1, rfl⟩ : ∃ x, x = u := ⟨_, rfl⟩
    exact Ev_vret rfl dX12_angelGoesOn_26 h
theorem wp_X12_angelGoesOn_29 {d : Nat} {s : ev_S} {Q : Option ev_V → ev_S → Prop} {a1 a2 : Int}
    (h : ((a2 = 0 → Q none s) ∧ (a2 ≠ 0 → ((0 ≤ (ev_add 39 a1) ∧ (ev_add 39 a1) < (87 : Nat)) ∧ ((0 ≤ a1 ∧ a1 < (6 : Nat)) ∧ (((s 27 (Int.toNat a1)) ≤ (s 1 (Int.toNat (ev_add 39 a1))) → Q none s) ∧ ((s 1 (Int.toNat (ev_add 39 a1))) < (s 27 (Int.toNat a1)) → (Ev layM M_X12_obeys d 0 [(0, ev_r 0), (1, ev_i a1)] [] s (ev_pi (fun r2 s1 => Ev layM M_X12_angelGoesOn (d + 1) 29 [(0, ev_r 0), (1, ev_i a1), (2, ev_i r2)] [] s1 Q)))))))))) :
    Ev layM M_X12_angelGoesOn (d + 1) 29 [(0, ev_r 0), (1, ev_i a1), (2, ev_i a2)] [] s Q := by
  refine Ev_iload_n 2 dX12_angelGoesOn_29 rfl rfl ?_
  refine Ev_if_eq (tgt := 60) dX12_angelGoesOn_30 rfl (fun c => ?_) (fun c => ?_)
  · replace h := h.1 c
    exact Ev_vret rfl dX12_angelGoesOn_60 h
  · replace h := h.2 c
    refine Ev_aload_n 0 dX12_angelGoesOn_33 rfl rfl ?_
    refine Ev_getR (i := 1) cl_X12 yM_0 (Nat.le_of_ble_eq_true rfl) rfl wd_1445 dX12_angelGoesOn_34 ?_
    refine Ev_bipushC dX12_angelGoesOn_37 rfl ?_
    refine Ev_iload_n 1 dX12_angelGoesOn_39 rfl rfl ?_
    refine Ev_iadd dX12_angelGoesOn_40 ?_
    obtain ⟨h0, h⟩ := h
    refine Ev_iald yM_1 h0 dX12_angelGoesOn_41 ?_
    refine Ev_aload_n 0 dX12_angelGoesOn_42 rfl rfl ?_
    refine Ev_getR (i := 50) cl_X12 yM_0 (Nat.le_of_ble_eq_true rfl) rfl wd_1494 dX12_angelGoesOn_43 ?_
    refine Ev_iload_n 1 dX12_angelGoesOn_46 rfl rfl ?_
    obtain ⟨h0, h⟩ := h
    refine Ev_iald yM_27 h0 dX12_angelGoesOn_47 ?_
    refine Ev_icmp_ge (tgt := 60) dX12_angelGoesOn_48 rfl (fun c => ?_) (fun c => ?_)
    · replace h := h.1 c
      exact Ev_vret rfl dX12_angelGoesOn_60 h
    · replace h := h.2 c
      refine Ev_aload_n 0 dX12_angelGoesOn_51 rfl rfl ?_
      refine Ev_iload_n 1 dX12_angelGoesOn_52 rfl rfl ?_
      refine Ev_callV (As := [ev_i a1]) (b := 0) (st := []) (M' := M_X12_obeys) cm_X12_obeys wd_1898 wd_1900 wd_123 yM_0 cl_X12 rfl dX12_angelGoesOn_53 (Nat.le_refl _) rfl (Nat.le_of_ble_eq_true rfl) (Nat.le_of_ble_eq_true rfl) h (fun v u h hk => ?_)
      obtain ⟨r2, rfl⟩ := hk
      obtain ⟨s1, rfl⟩ : ∃ x, x = u := ⟨_, rfl⟩
      replace h := h r2 rfl
      refine Ev_istore_n (l' := [(2, ev_i r2), (0, ev_r 0), (1, ev_i a1)]) dX12_angelGoesOn_56 rfl (Nat.le_of_ble_eq_true rfl) rfl ?_
      refine Ev_goto (tgt := 29) dX12_angelGoesOn_57 rfl ?_
      exact Ev_sub [1, 2, 0] rfl h
theorem dX12_stepFrom_0 : decode cX12_stepFrom 0 = .ok (.iload_n 1, 1) := by decide +kernel
theorem dX12_stepFrom_1 : decode cX12_stepFrom 1 = .ok (.bipush 8, 2) := by decide +kernel
theorem dX12_stepFrom_3 : decode cX12_stepFrom 3 = .ok (.irem, 1) := by decide +kernel
theorem dX12_stepFrom_4 : decode cX12_stepFrom 4 = .ok (.iload_n 2, 1) := by decide +kernel
theorem dX12_stepFrom_5 : decode cX12_stepFrom 5 = .ok (.iconst 2, 1) := by decide +kernel
theorem dX12_stepFrom_6 : decode cX12_stepFrom 6 = .ok (.if_icmp .ne 7, 3) := by decide +kernel
theorem dX12_stepFrom_9 : decode cX12_stepFrom 9 = .ok (.iconst 1, 1) := by decide +kernel
theorem dX12_stepFrom_10 : decode cX12_stepFrom 10 = .ok (.goto 13, 3) := by decide +kernel
theorem dX12_stepFrom_13 : decode cX12_stepFrom 13 = .ok (.iload_n 2, 1) := by decide +kernel
theorem dX12_stepFrom_14 : decode cX12_stepFrom 14 = .ok (.iconst 4, 1) := by decide +kernel
theorem dX12_stepFrom_15 : decode cX12_stepFrom 15 = .ok (.if_icmp .ne 7, 3) := by decide +kernel
theorem dX12_stepFrom_18 : decode cX12_stepFrom 18 = .ok (.iconst (-1), 1) := by decide +kernel
theorem dX12_stepFrom_19 : decode cX12_stepFrom 19 = .ok (.goto 4, 3) := by decide +kernel
theorem dX12_stepFrom_22 : decode cX12_stepFrom 22 = .ok (.iconst 0, 1) := by decide +kernel
theorem dX12_stepFrom_23 : decode cX12_stepFrom 23 = .ok (.iadd, 1) := by decide +kernel
theorem dX12_stepFrom_24 : decode cX12_stepFrom 24 = .ok (.istore_n 3, 1) := by decide +kernel
theorem dX12_stepFrom_25 : decode cX12_stepFrom 25 = .ok (.iload_n 1, 1) := by decide +kernel
theorem dX12_stepFrom_26 : decode cX12_stepFrom 26 = .ok (.bipush 8, 2) := by decide +kernel
theorem dX12_stepFrom_28 : decode cX12_stepFrom 28 = .ok (.idiv, 1) := by decide +kernel
theorem dX12_stepFrom_29 : decode cX12_stepFrom 29 = .ok (.iload_n 2, 1) := by decide +kernel
theorem dX12_stepFrom_30 : decode cX12_stepFrom 30 = .ok (.iconst 1, 1) := by decide +kernel
theorem dX12_stepFrom_31 : decode cX12_stepFrom 31 = .ok (.if_icmp .ne 7, 3) := by decide +kernel
theorem dX12_stepFrom_34 : decode cX12_stepFrom 34 = .ok (.iconst (-1), 1) := by decide +kernel
theorem dX12_stepFrom_35 : decode cX12_stepFrom 35 = .ok (.goto 13, 3) := by decide +kernel
theorem dX12_stepFrom_38 : decode cX12_stepFrom 38 = .ok (.iload_n 2, 1) := by decide +kernel
theorem dX12_stepFrom_39 : decode cX12_stepFrom 39 = .ok (.iconst 3, 1) := by decide +kernel
theorem dX12_stepFrom_40 : decode cX12_stepFrom 40 = .ok (.if_icmp .ne 7, 3) := by decide +kernel
theorem dX12_stepFrom_43 : decode cX12_stepFrom 43 = .ok (.iconst 1, 1) := by decide +kernel
theorem dX12_stepFrom_44 : decode cX12_stepFrom 44 = .ok (.goto 4, 3) := by decide +kernel
theorem dX12_stepFrom_47 : decode cX12_stepFrom 47 = .ok (.iconst 0, 1) := by decide +kernel
theorem dX12_stepFrom_48 : decode cX12_stepFrom 48 = .ok (.iadd, 1) := by decide +kernel
theorem dX12_stepFrom_49 : decode cX12_stepFrom 49 = .ok (.istore 4, 2) := by decide +kernel
theorem dX12_stepFrom_51 : decode cX12_stepFrom 51 = .ok (.aload_n 0, 1) := by decide +kernel
theorem dX12_stepFrom_52 : decode cX12_stepFrom 52 = .ok (.iload_n 3, 1) := by decide +kernel
theorem dX12_stepFrom_53 : decode cX12_stepFrom 53 = .ok (.iconst 0, 1) := by decide +kernel
theorem dX12_stepFrom_54 : decode cX12_stepFrom 54 = .ok (.aload_n 0, 1) := by decide +kernel
theorem dX12_stepFrom_55 : decode cX12_stepFrom 55 = .ok (.getfield 139, 3) := by decide +kernel
theorem dX12_stepFrom_58 : decode cX12_stepFrom 58 = .ok (.bipush 7, 2) := by decide +kernel
theorem dX12_stepFrom_60 : decode cX12_stepFrom 60 = .ok (.iadd, 1) := by decide +kernel
theorem dX12_stepFrom_61 : decode cX12_stepFrom 61 = .ok (.invokevirtual 158, 3) := by decide +kernel
theorem dX12_stepFrom_64 : decode cX12_stepFrom 64 = .ok (.ifCond .eq 30, 3) := by decide +kernel
theorem dX12_stepFrom_67 : decode cX12_stepFrom 67 = .ok (.aload_n 0, 1) := by decide +kernel
theorem dX12_stepFrom_68 : decode cX12_stepFrom 68 = .ok (.iload 4, 2) := by decide +kernel
theorem dX12_stepFrom_70 : decode cX12_stepFrom 70 = .ok (.iconst 0, 1) := by decide +kernel
theorem dX12_stepFrom_71 : decode cX12_stepFrom 71 = .ok (.aload_n 0, 1) := by decide +kernel
theorem dX12_stepFrom_72 : decode cX12_stepFrom 72 = .ok (.getfield 142, 3) := by decide +kernel
theorem dX12_stepFrom_75 : decode cX12_stepFrom 75 = .ok (.bipush 7, 2) := by decide +kernel
theorem dX12_stepFrom_77 : decode cX12_stepFrom 77 = .ok (.iadd, 1) := by decide +kernel
theorem dX12_stepFrom_78 : decode cX12_stepFrom 78 = .ok (.invokevirtual 158, 3) := by decide +kernel
theorem dX12_stepFrom_81 : decode cX12_stepFrom 81 = .ok (.ifCond .eq 13, 3) := by decide +kernel
theorem dX12_stepFrom_84 : decode cX12_stepFrom 84 = .ok (.bipush 8, 2) := by decide +kernel
theorem dX12_stepFrom_86 : decode cX12_stepFrom 86 = .ok (.iload 4, 2) := by decide +kernel
theorem dX12_stepFrom_88 : decode cX12_stepFrom 88 = .ok (.imul, 1) := by decide +kernel
theorem dX12_stepFrom_89 : decode cX12_stepFrom 89 = .ok (.iload_n 3, 1) := by decide +kernel
theorem dX12_stepFrom_90 : decode cX12_stepFrom 90 = .ok (.iadd, 1) := by decide +kernel
theorem dX12_stepFrom_91 : decode cX12_stepFrom 91 = .ok (.goto 4, 3) := by decide +kernel
theorem dX12_stepFrom_94 : decode cX12_stepFrom 94 = .ok (.iload_n 1, 1) := by decide +kernel
theorem dX12_stepFrom_95 : decode cX12_stepFrom 95 = .ok (.ireturn, 1) := by decide +kernel
theorem wp_X12_stepFrom_0 {d : Nat} {s : ev_S} {Q : Option ev_V → ev_S → Prop} {a1 a2 : Int}
    (h : ((a2 ≠ 2 → ((a2 ≠ 4 → Ev layM M_X12_stepFrom (d + 1) 23 [(0, ev_r 0), (1, ev_i a1), (2, ev_i a2)] [ev_i 0, ev_i (ev_rem a1 8)] s Q) ∧ (a2 = 4 → Ev layM M_X12_stepFrom (d + 1) 23 [(0, ev_r 0), (1, ev_i a1), (2, ev_i a2)] [ev_i (-1), ev_i (ev_rem a1 8)] s Q))) ∧ (a2 = 2 → Ev layM M_X12_stepFrom (d + 1) 23 [(0, ev_r 0), (1, ev_i a1), (2, ev_i a2)] [ev_i 1, ev_i (ev_rem a1 8)] s Q))) :
    Ev layM M_X12_stepFrom (d + 1) 0 [(0, ev_r 0), (1, ev_i a1), (2, ev_i a2)] [] s Q := by
  refine Ev_iload_n 1 dX12_stepFrom_0 rfl rfl ?_
  refine Ev_bipushC dX12_stepFrom_1 rfl ?_
  refine Ev_irem dX12_stepFrom_3 (by decide) ?_
  refine Ev_iload_n 2 dX12_stepFrom_4 rfl rfl ?_
  refine Ev_iconst dX12_stepFrom_5 rfl (ev_Rc rfl) ?_
  refine Ev_icmp_ne (tgt := 13) dX12_stepFrom_6 rfl (fun c => ?_) (fun c => ?_)
  · replace h := h.1 c
    refine Ev_iload_n 2 dX12_stepFrom_13 rfl rfl ?_
    refine Ev_iconst dX12_stepFrom_14 rfl (ev_Rc rfl) ?_
    refine Ev_icmp_ne (tgt := 22) dX12_stepFrom_15 rfl (fun c => ?_) (fun c => ?_)
    · replace h := h.1 c
      refine Ev_iconst dX12_stepFrom_22 rfl (ev_Rc rfl) ?_
      exact Ev_sub [0, 1, 2] rfl h
    · replace h := h.2 c
      refine Ev_iconst dX12_stepFrom_18 rfl (ev_Rc rfl) ?_
      refine Ev_goto (tgt := 23) dX12_stepFrom_19 rfl ?_
      exact Ev_sub [0, 1, 2] rfl h
  · replace h := h.2 c
    refine Ev_iconst dX12_stepFrom_9 rfl (ev_Rc rfl) ?_
    refine Ev_goto (tgt := 23) dX12_stepFrom_10 rfl ?_
    exact Ev_sub [0, 1, 2] rfl h
theorem wp_X12_stepFrom_23 {d : Nat} {s : ev_S} {Q : Option ev_V → ev_S → Prop} {a1 a2 t0 t1 : Int}
    (h : ((a2 ≠ 1 → ((a2 ≠ 3 → Ev layM M_X12_stepFrom (d + 1) 48 [(0, ev_r 0), (1, ev_i a1), (3, ev_i (ev_add t1 t0))] [ev_i 0, ev_i (ev_div a1 8)] s Q) ∧ (a2 = 3 → Ev layM M_X12_stepFrom (d + 1) 48 [(0, ev_r 0), (1, ev_i a1), (3, ev_i (ev_add t1 t0))] [ev_i 1, ev_i (ev_div a1 8)] s Q))) ∧ (a2 = 1 → Ev layM M_X12_stepFrom (d + 1) 48 [(0, ev_r 0), (1, ev_i a1), (3, ev_i (ev_add t1 t0))] [ev_i (-1), ev_i (ev_div a1 8)] s Q))) :
    Ev layM M_X12_stepFrom (d + 1) 23 [(0, ev_r 0), (1, ev_i a1), (2, ev_i a2)] [ev_i t0, ev_i t1] s Q := by
  refine Ev_iadd dX12_stepFrom_23 ?_
  refine Ev_istore_n (l' := [(3, ev_i (ev_add t1 t0)), (0, ev_r 0), (1, ev_i a1), (2, ev_i a2)]) dX12_stepFrom_24 rfl (Nat.le_of_ble_eq_true rfl) rfl ?_
  refine Ev_iload_n 2 dX12_stepFrom_25 rfl rfl ?_
  refine Ev_bipushC dX12_stepFrom_26 rfl ?_
  refine Ev_idiv dX12_stepFrom_28 (by decide) ?_
  refine Ev_iload_n 3 dX12_stepFrom_29 rfl rfl ?_
  refine Ev_iconst dX12_stepFrom_30 rfl (ev_Rc rfl) ?_
  refine Ev_icmp_ne (tgt := 38) dX12_stepFrom_31 rfl (fun c => ?_) (fun c => ?_)
  · replace h := h.1 c
    refine Ev_iload_n 3 dX12_stepFrom_38 rfl rfl ?_
    refine Ev_iconst dX12_stepFrom_39 rfl (ev_Rc rfl) ?_
    refine Ev_icmp_ne (tgt := 47) dX12_stepFrom_40 rfl (fun c => ?_) (fun c => ?_)
    · replace h := h.1 c
      refine Ev_iconst dX12_stepFrom_47 rfl (ev_Rc rfl) ?_
      exact Ev_sub [1, 2, 0] rfl h
    · replace h := h.2 c
      refine Ev_iconst dX12_stepFrom_43 rfl (ev_Rc rfl) ?_
      refine Ev_goto (tgt := 48) dX12_stepFrom_44 rfl ?_
      exact Ev_sub [1, 2, 0] rfl h
  · replace h := h.2 c
    refine Ev_iconst dX12_stepFrom_34 rfl (ev_Rc rfl) ?_
    refine Ev_goto (tgt := 48) dX12_stepFrom_35 rfl ?_
    exact Ev_sub [1, 2, 0] rfl h
theorem wp_X12_stepFrom_48 {d : Nat} {s : ev_S} {Q : Option ev_V → ev_S → Prop} {a1 a3 t0 t1 : Int}
    (h : (Ev layM M_X12_isIn d 0 [(0, ev_r 0), (1, ev_i a3), (2, ev_i 0), (3, ev_i (ev_add (s 0 6) 7))] [] s (ev_pi (fun r2 s1 => ((r2 = 0 → Q (some (ev_i a1)) s1) ∧ (r2 ≠ 0 → (Ev layM M_X12_isIn d 0 [(0, ev_r 0), (1, ev_i (ev_add t1 t0)), (2, ev_i 0), (3, ev_i (ev_add (s1 0 7) 7))] [] s1 (ev_pi (fun r4 s3 => ((r4 = 0 → Q (some (ev_i a1)) s3) ∧ (r4 ≠ 0 → Q (some (ev_i (ev_add (ev_mul 8 (ev_add t1 t0)) a3))) s3))))))))))) :
    Ev layM M_X12_stepFrom (d + 1) 48 [(0, ev_r 0), (1, ev_i a1), (3, ev_i a3)] [ev_i t0, ev_i t1] s Q := by
  refine Ev_iadd dX12_stepFrom_48 ?_
  refine Ev_istore (l' := [(4, ev_i (ev_add t1 t0)), (0, ev_r 0), (1, ev_i a1), (3, ev_i a3)]) dX12_stepFrom_49 (Nat.le_of_ble_eq_true rfl) rfl ?_
  refine Ev_aload_n 1 dX12_stepFrom_51 rfl rfl ?_
  refine Ev_iload_n 3 dX12_stepFrom_52 rfl rfl ?_
  refine Ev_iconst dX12_stepFrom_53 rfl (ev_Rc rfl) ?_
  refine Ev_aload_n 1 dX12_stepFrom_54 rfl rfl ?_
  refine Ev_get (i := 6) cl_X12 yM_0 (Nat.le_of_ble_eq_true rfl) rfl wd_1450 dX12_stepFrom_55 ?_
  refine Ev_bipushC dX12_stepFrom_58 rfl ?_
  refine Ev_iadd dX12_stepFrom_60 ?_
  refine Ev_callV (As := [ev_i a3, ev_i 0, ev_i (ev_add (s 0 6) 7)]) (b := 0) (st := []) (M' := M_X12_isIn) cm_X12_isIn wd_1650 wd_1652 wd_70 yM_0 cl_X12 rfl dX12_stepFrom_61 (Nat.le_refl _) rfl (Nat.le_of_ble_eq_true rfl) (Nat.le_of_ble_eq_true rfl) h (fun v u h hk => ?_)
  obtain ⟨r2, rfl⟩ := hk
  obtain ⟨s1, rfl⟩ : ∃ x, x = u := ⟨_, rfl⟩
  replace h := h r2 rfl
  refine Ev_if_eq (tgt := 94) dX12_stepFrom_64 rfl (fun c => ?_) (fun c => ?_)
  · replace h := h.1 c
    refine Ev_iload_n 2 dX12_stepFrom_94 rfl rfl ?_
    exact Ev_iret rfl dX12_stepFrom_95 rfl h
  · replace h := h.2 c
    refine Ev_aload_n 1 dX12_stepFrom_67 rfl rfl ?_
    refine Ev_iload 0 dX12_stepFrom_68 rfl ?_
    refine Ev_iconst dX12_stepFrom_70 rfl (ev_Rc rfl) ?_
    refine Ev_aload_n 1 dX12_stepFrom_71 rfl rfl ?_
    refine Ev_get (i := 7) cl_X12 yM_0 (Nat.le_of_ble_eq_true rfl) rfl wd_1451 dX12_stepFrom_72 ?_
    refine Ev_bipushC dX12_stepFrom_75 rfl ?_
    refine Ev_iadd dX12_stepFrom_77 ?_
    refine Ev_callV (As := [ev_i (ev_add t1 t0), ev_i 0, ev_i (ev_add (s1 0 7) 7)]) (b := 0) (st := []) (M' := M_X12_isIn) cm_X12_isIn wd_1650 wd_1652 wd_70 yM_0 cl_X12 rfl dX12_stepFrom_78 (Nat.le_refl _) rfl (Nat.le_of_ble_eq_true rfl) (Nat.le_of_ble_eq_true rfl) h (fun v u h hk => ?_)
    obtain ⟨r4, rfl⟩ := hk
    obtain ⟨s3, rfl⟩ : ∃ x, x = u := ⟨_, rfl⟩
    replace h := h r4 rfl
    refine Ev_if_eq (tgt := 94) dX12_stepFrom_81 rfl (fun c => ?_) (fun c => ?_)
    · replace h := h.1 c
      refine Ev_iload_n 2 dX12_stepFrom_94 rfl rfl ?_
      exact Ev_iret rfl dX12_stepFrom_95 rfl h
    · replace h := h.2 c
      refine Ev_bipushC dX12_stepFrom_84 rfl ?_
      refine Ev_iload 0 dX12_stepFrom_86 rfl ?_
      refine Ev_imul dX12_stepFrom_88 ?_
      refine Ev_iload_n 3 dX12_stepFrom_89 rfl rfl ?_
      refine Ev_iadd dX12_stepFrom_90 ?_
      refine Ev_goto (tgt := 95) dX12_stepFrom_91 rfl ?_
      exact Ev_iret rfl dX12_stepFrom_95 rfl h
theorem dX12_wardGoesOn_0 : decode cX12_wardGoesOn 0 = .ok (.aload_n 0, 1) := by decide +kernel
theorem dX12_wardGoesOn_1 : decode cX12_wardGoesOn 1 = .ok (.getfield 7, 3) := by decide +kernel
theorem dX12_wardGoesOn_4 : decode cX12_wardGoesOn 4 = .ok (.bipush 11, 2) := by decide +kernel
theorem dX12_wardGoesOn_6 : decode cX12_wardGoesOn 6 = .ok (.iload_n 1, 1) := by decide +kernel
theorem dX12_wardGoesOn_7 : decode cX12_wardGoesOn 7 = .ok (.iadd, 1) := by decide +kernel
theorem dX12_wardGoesOn_8 : decode cX12_wardGoesOn 8 = .ok (.iaload, 1) := by decide +kernel
theorem dX12_wardGoesOn_9 : decode cX12_wardGoesOn 9 = .ok (.ifCond .le 26, 3) := by decide +kernel
theorem dX12_wardGoesOn_12 : decode cX12_wardGoesOn 12 = .ok (.aload_n 0, 1) := by decide +kernel
theorem dX12_wardGoesOn_13 : decode cX12_wardGoesOn 13 = .ok (.getfield 7, 3) := by decide +kernel
theorem dX12_wardGoesOn_16 : decode cX12_wardGoesOn 16 = .ok (.bipush 11, 2) := by decide +kernel
theorem dX12_wardGoesOn_18 : decode cX12_wardGoesOn 18 = .ok (.iload_n 1, 1) := by decide +kernel
theorem dX12_wardGoesOn_19 : decode cX12_wardGoesOn 19 = .ok (.iadd, 1) := by decide +kernel
theorem dX12_wardGoesOn_20 : decode cX12_wardGoesOn 20 = .ok (.aload_n 0, 1) := by decide +kernel
theorem dX12_wardGoesOn_21 : decode cX12_wardGoesOn 21 = .ok (.getfield 7, 3) := by decide +kernel
theorem dX12_wardGoesOn_24 : decode cX12_wardGoesOn 24 = .ok (.bipush 11, 2) := by decide +kernel
theorem dX12_wardGoesOn_26 : decode cX12_wardGoesOn 26 = .ok (.iload_n 1, 1) := by decide +kernel
theorem dX12_wardGoesOn_27 : decode cX12_wardGoesOn 27 = .ok (.iadd, 1) := by decide +kernel
theorem dX12_wardGoesOn_28 : decode cX12_wardGoesOn 28 = .ok (.iaload, 1) := by decide +kernel
theorem dX12_wardGoesOn_29 : decode cX12_wardGoesOn 29 = .ok (.iconst 1, 1) := by decide +kernel
theorem dX12_wardGoesOn_30 : decode cX12_wardGoesOn 30 = .ok (.isub, 1) := by decide +kernel
theorem dX12_wardGoesOn_31 : decode cX12_wardGoesOn 31 = .ok (.iastore, 1) := by decide +kernel
theorem dX12_wardGoesOn_32 : decode cX12_wardGoesOn 32 = .ok (.goto 81, 3) := by decide +kernel
theorem dX12_wardGoesOn_35 : decode cX12_wardGoesOn 35 = .ok (.aload_n 0, 1) := by decide +kernel
theorem dX12_wardGoesOn_36 : decode cX12_wardGoesOn 36 = .ok (.getfield 7, 3) := by decide +kernel
theorem dX12_wardGoesOn_39 : decode cX12_wardGoesOn 39 = .ok (.bipush 19, 2) := by decide +kernel
theorem dX12_wardGoesOn_41 : decode cX12_wardGoesOn 41 = .ok (.iload_n 1, 1) := by decide +kernel
theorem dX12_wardGoesOn_42 : decode cX12_wardGoesOn 42 = .ok (.iadd, 1) := by decide +kernel
theorem dX12_wardGoesOn_43 : decode cX12_wardGoesOn 43 = .ok (.iaload, 1) := by decide +kernel
theorem dX12_wardGoesOn_44 : decode cX12_wardGoesOn 44 = .ok (.aload_n 0, 1) := by decide +kernel
theorem dX12_wardGoesOn_45 : decode cX12_wardGoesOn 45 = .ok (.getfield 74, 3) := by decide +kernel
theorem dX12_wardGoesOn_48 : decode cX12_wardGoesOn 48 = .ok (.iload_n 1, 1) := by decide +kernel
theorem dX12_wardGoesOn_49 : decode cX12_wardGoesOn 49 = .ok (.iaload, 1) := by decide +kernel
theorem dX12_wardGoesOn_50 : decode cX12_wardGoesOn 50 = .ok (.if_icmp .ge 63, 3) := by decide +kernel
theorem dX12_wardGoesOn_53 : decode cX12_wardGoesOn 53 = .ok (.aload_n 0, 1) := by decide +kernel
theorem dX12_wardGoesOn_54 : decode cX12_wardGoesOn 54 = .ok (.getfield 7, 3) := by decide +kernel
theorem dX12_wardGoesOn_57 : decode cX12_wardGoesOn 57 = .ok (.iconst 3, 1) := by decide +kernel
theorem dX12_wardGoesOn_58 : decode cX12_wardGoesOn 58 = .ok (.iload_n 1, 1) := by decide +kernel
theorem dX12_wardGoesOn_59 : decode cX12_wardGoesOn 59 = .ok (.iadd, 1) := by decide +kernel
theorem dX12_wardGoesOn_60 : decode cX12_wardGoesOn 60 = .ok (.aload_n 0, 1) := by decide +kernel
theorem dX12_wardGoesOn_61 : decode cX12_wardGoesOn 61 = .ok (.aload_n 0, 1) := by decide +kernel
theorem dX12_wardGoesOn_62 : decode cX12_wardGoesOn 62 = .ok (.getfield 7, 3) := by decide +kernel
theorem dX12_wardGoesOn_65 : decode cX12_wardGoesOn 65 = .ok (.iconst 3, 1) := by decide +kernel
theorem dX12_wardGoesOn_66 : decode cX12_wardGoesOn 66 = .ok (.iload_n 1, 1) := by decide +kernel
theorem dX12_wardGoesOn_67 : decode cX12_wardGoesOn 67 = .ok (.iadd, 1) := by decide +kernel
theorem dX12_wardGoesOn_68 : decode cX12_wardGoesOn 68 = .ok (.iaload, 1) := by decide +kernel
theorem dX12_wardGoesOn_69 : decode cX12_wardGoesOn 69 = .ok (.aload_n 0, 1) := by decide +kernel
theorem dX12_wardGoesOn_70 : decode cX12_wardGoesOn 70 = .ok (.getfield 71, 3) := by decide +kernel
theorem dX12_wardGoesOn_73 : decode cX12_wardGoesOn 73 = .ok (.sipush 600, 3) := by decide +kernel
theorem dX12_wardGoesOn_76 : decode cX12_wardGoesOn 76 = .ok (.iload_n 1, 1) := by decide +kernel
theorem dX12_wardGoesOn_77 : decode cX12_wardGoesOn 77 = .ok (.imul, 1) := by decide +kernel
theorem dX12_wardGoesOn_78 : decode cX12_wardGoesOn 78 = .ok (.aload_n 0, 1) := by decide +kernel
theorem dX12_wardGoesOn_79 : decode cX12_wardGoesOn 79 = .ok (.getfield 7, 3) := by decide +kernel
theorem dX12_wardGoesOn_82 : decode cX12_wardGoesOn 82 = .ok (.bipush 19, 2) := by decide +kernel
theorem dX12_wardGoesOn_84 : decode cX12_wardGoesOn 84 = .ok (.iload_n 1, 1) := by decide +kernel
theorem dX12_wardGoesOn_85 : decode cX12_wardGoesOn 85 = .ok (.iadd, 1) := by decide +kernel
theorem dX12_wardGoesOn_86 : decode cX12_wardGoesOn 86 = .ok (.iaload, 1) := by decide +kernel
theorem dX12_wardGoesOn_87 : decode cX12_wardGoesOn 87 = .ok (.iadd, 1) := by decide +kernel
theorem dX12_wardGoesOn_88 : decode cX12_wardGoesOn 88 = .ok (.iaload, 1) := by decide +kernel
theorem dX12_wardGoesOn_89 : decode cX12_wardGoesOn 89 = .ok (.invokevirtual 390, 3) := by decide +kernel
theorem dX12_wardGoesOn_92 : decode cX12_wardGoesOn 92 = .ok (.iastore, 1) := by decide +kernel
theorem dX12_wardGoesOn_93 : decode cX12_wardGoesOn 93 = .ok (.aload_n 0, 1) := by decide +kernel
theorem dX12_wardGoesOn_94 : decode cX12_wardGoesOn 94 = .ok (.getfield 7, 3) := by decide +kernel
theorem dX12_wardGoesOn_97 : decode cX12_wardGoesOn 97 = .ok (.bipush 19, 2) := by decide +kernel
theorem dX12_wardGoesOn_99 : decode cX12_wardGoesOn 99 = .ok (.iload_n 1, 1) := by decide +kernel
theorem dX12_wardGoesOn_100 : decode cX12_wardGoesOn 100 = .ok (.iadd, 1) := by decide +kernel
theorem dX12_wardGoesOn_101 : decode cX12_wardGoesOn 101 = .ok (.aload_n 0, 1) := by decide +kernel
theorem dX12_wardGoesOn_102 : decode cX12_wardGoesOn 102 = .ok (.getfield 7, 3) := by decide +kernel
theorem dX12_wardGoesOn_105 : decode cX12_wardGoesOn 105 = .ok (.bipush 19, 2) := by decide +kernel
theorem dX12_wardGoesOn_107 : decode cX12_wardGoesOn 107 = .ok (.iload_n 1, 1) := by decide +kernel
theorem dX12_wardGoesOn_108 : decode cX12_wardGoesOn 108 = .ok (.iadd, 1) := by decide +kernel
theorem dX12_wardGoesOn_109 : decode cX12_wardGoesOn 109 = .ok (.iaload, 1) := by decide +kernel
theorem dX12_wardGoesOn_110 : decode cX12_wardGoesOn 110 = .ok (.iconst 1, 1) := by decide +kernel
theorem dX12_wardGoesOn_111 : decode cX12_wardGoesOn 111 = .ok (.iadd, 1) := by decide +kernel
theorem dX12_wardGoesOn_112 : decode cX12_wardGoesOn 112 = .ok (.iastore, 1) := by decide +kernel
theorem dX12_wardGoesOn_113 : decode cX12_wardGoesOn 113 = .ok (.return_, 1) := by decide +kernel
theorem wp_X12_wardGoesOn_0 {d : Nat} {s : ev_S} {Q : Option ev_V → ev_S → Prop} {a1 : Int}
    (h : ((0 ≤ (ev_add 11 a1) ∧ (ev_add 11 a1) < (87 : Nat)) ∧ (((s 1 (Int.toNat (ev_add 11 a1))) ≤ 0 → ((0 ≤ (ev_add 19 a1) ∧ (ev_add 19 a1) < (87 : Nat)) ∧ ((0 ≤ a1 ∧ a1 < (8 : Nat)) ∧ (((s 21 (Int.toNat a1)) ≤ (s 1 (Int.toNat (ev_add 19 a1))) → Q none s) ∧ ((s 1 (Int.toNat (ev_add 19 a1))) < (s 21 (Int.toNat a1)) → ((0 ≤ (ev_add 3 a1) ∧ (ev_add 3 a1) < (87 : Nat)) ∧ ((0 ≤ (ev_add 19 a1) ∧ (ev_add 19 a1) < (87 : Nat)) ∧ ((0 ≤ (ev_add (ev_mul 600 a1) (s 1 (Int.toNat (ev_add 19 a1)))) ∧ (ev_add (ev_mul 600 a1) (s 1 (Int.toNat (ev_add 19 a1)))) < (5400 : Nat)) ∧ (Ev layM M_X12_stepFrom d 0 [(0, ev_r 0), (1, ev_i (s 1 (Int.toNat (ev_add 3 a1)))), (2, ev_i (s 20 (Int.toNat (ev_add (ev_mul 600 a1) (s 1 (Int.toNat (ev_add 19 a1)))))))] [] s (ev_pi (fun r2 s1 => ((0 ≤ (ev_add 3 a1) ∧ (ev_add 3 a1) < (87 : Nat)) ∧ ∀ s3, ev_up s1 1 (Int.toNat (ev_add 3 a1)) r2 = s3 → ((0 ≤ (ev_add 19 a1) ∧ (ev_add 19 a1) < (87 : Nat)) ∧ ((0 ≤ (ev_add 19 a1) ∧ (ev_add 19 a1) < (87 : Nat)) ∧ ∀ s4, ev_up s3 1 (Int.toNat (ev_add 19 a1)) (ev_add (s3 1 (Int.toNat (ev_add 19 a1))) 1) = s4 → Q none s4)))))))))))))) ∧ (0 < (s 1 (Int.toNat (ev_add 11 a1))) → ((0 ≤ (ev_add 11 a1) ∧ (ev_add 11 a1) < (87 : Nat)) ∧ ((0 ≤ (ev_add 11 a1) ∧ (ev_add 11 a1) < (87 : Nat)) ∧ ∀ s5, ev_up s 1 (Int.toNat (ev_add 11 a1)) (ev_sub (s 1 (Int.toNat (ev_add 11 a1))) 1) = s5 → Q none s5)))))) :
    Ev layM M_X12_wardGoesOn (d + 1) 0 [(0, ev_r 0), (1, ev_i a1)] [] s Q := by
  refine Ev_aload_n 0 dX12_wardGoesOn_0 rfl rfl ?_
  refine Ev_getR (i := 1) cl_X12 yM_0 (Nat.le_of_ble_eq_true rfl) rfl wd_1445 dX12_wardGoesOn_1 ?_
  refine Ev_bipushC dX12_wardGoesOn_4 rfl ?_
  refine Ev_iload_n 1 dX12_wardGoesOn_6 rfl rfl ?_
  refine Ev_iadd dX12_wardGoesOn_7 ?_
  obtain ⟨h0, h⟩ := h
  refine Ev_iald yM_1 h0 dX12_wardGoesOn_8 ?_
  refine Ev_if_le (tgt := 35) dX12_wardGoesOn_9 rfl (fun c => ?_) (fun c => ?_)
  · replace h := h.1 c
    refine Ev_aload_n 0 dX12_wardGoesOn_35 rfl rfl ?_
    refine Ev_getR (i := 1) cl_X12 yM_0 (Nat.le_of_ble_eq_true rfl) rfl wd_1445 dX12_wardGoesOn_36 ?_
    refine Ev_bipushC dX12_wardGoesOn_39 rfl ?_
    refine Ev_iload_n 1 dX12_wardGoesOn_41 rfl rfl ?_
    refine Ev_iadd dX12_wardGoesOn_42 ?_
    obtain ⟨h0, h⟩ := h
    refine Ev_iald yM_1 h0 dX12_wardGoesOn_43 ?_
    refine Ev_aload_n 0 dX12_wardGoesOn_44 rfl rfl ?_
    refine Ev_getR (i := 43) cl_X12 yM_0 (Nat.le_of_ble_eq_true rfl) rfl wd_1487 dX12_wardGoesOn_45 ?_
    refine Ev_iload_n 1 dX12_wardGoesOn_48 rfl rfl ?_
    obtain ⟨h0, h⟩ := h
    refine Ev_iald yM_21 h0 dX12_wardGoesOn_49 ?_
    refine Ev_icmp_ge (tgt := 113) dX12_wardGoesOn_50 rfl (fun c => ?_) (fun c => ?_)
    · replace h := h.1 c
      exact Ev_vret rfl dX12_wardGoesOn_113 h
    · replace h := h.2 c
      refine Ev_aload_n 0 dX12_wardGoesOn_53 rfl rfl ?_
      refine Ev_getR (i := 1) cl_X12 yM_0 (Nat.le_of_ble_eq_true rfl) rfl wd_1445 dX12_wardGoesOn_54 ?_
      refine Ev_iconst dX12_wardGoesOn_57 rfl (ev_Rc rfl) ?_
      refine Ev_iload_n 1 dX12_wardGoesOn_58 rfl rfl ?_
      refine Ev_iadd dX12_wardGoesOn_59 ?_
      refine Ev_aload_n 0 dX12_wardGoesOn_60 rfl rfl ?_
      refine Ev_aload_n 0 dX12_wardGoesOn_61 rfl rfl ?_
      refine Ev_getR (i := 1) cl_X12 yM_0 (Nat.le_of_ble_eq_true rfl) rfl wd_1445 dX12_wardGoesOn_62 ?_
      refine Ev_iconst dX12_wardGoesOn_65 rfl (ev_Rc rfl) ?_
      refine Ev_iload_n 1 dX12_wardGoesOn_66 rfl rfl ?_
      refine Ev_iadd dX12_wardGoesOn_67 ?_
      obtain ⟨h0, h⟩ := h
      refine Ev_iald yM_1 h0 dX12_wardGoesOn_68 ?_
      refine Ev_aload_n 0 dX12_wardGoesOn_69 rfl rfl ?_
      refine Ev_getR (i := 42) cl_X12 yM_0 (Nat.le_of_ble_eq_true rfl) rfl wd_1486 dX12_wardGoesOn_70 ?_
      refine Ev_sipushC dX12_wardGoesOn_73 rfl ?_
      refine Ev_iload_n 1 dX12_wardGoesOn_76 rfl rfl ?_
      refine Ev_imul dX12_wardGoesOn_77 ?_
      refine Ev_aload_n 0 dX12_wardGoesOn_78 rfl rfl ?_
      refine Ev_getR (i := 1) cl_X12 yM_0 (Nat.le_of_ble_eq_true rfl) rfl wd_1445 dX12_wardGoesOn_79 ?_
      refine Ev_bipushC dX12_wardGoesOn_82 rfl ?_
      refine Ev_iload_n 1 dX12_wardGoesOn_84 rfl rfl ?_
      refine Ev_iadd dX12_wardGoesOn_85 ?_
      obtain ⟨h0, h⟩ := h
      refine Ev_iald yM_1 h0 dX12_wardGoesOn_86 ?_
      refine Ev_iadd dX12_wardGoesOn_87 ?_
      obtain ⟨h0, h⟩ := h
      refine Ev_iald yM_20 h0 dX12_wardGoesOn_88 ?_
      refine Ev_callV (As := [ev_i (s 1 (Int.toNat (ev_add 3 a1))), ev_i (s 20 (Int.toNat (ev_add (ev_mul 600 a1) (s 1 (Int.toNat (ev_add 19 a1))))))]) (b := 0) (st := [ev_i (ev_add 3 a1), ev_r 1]) (M' := M_X12_stepFrom) cm_X12_stepFrom wd_1946 wd_1948 wd_135 yM_0 cl_X12 rfl dX12_wardGoesOn_89 (Nat.le_refl _) rfl (Nat.le_of_ble_eq_true rfl) (Nat.le_of_ble_eq_true rfl) h (fun v u h hk => ?_)
      obtain ⟨r2, rfl⟩ := hk
      obtain ⟨s1, rfl⟩ : ∃ x, x = u := ⟨_, rfl⟩
      replace h := h r2 rfl
      obtain ⟨h0, h⟩ := h
      refine Ev_iast yM_1 h0 dX12_wardGoesOn_92 (Ev_nm (fun s3 es3 => ?_))
      replace h := h s3 es3
      refine Ev_aload_n 0 dX12_wardGoesOn_93 rfl rfl ?_
      refine Ev_getR (i := 1) cl_X12 yM_0 (Nat.le_of_ble_eq_true rfl) rfl wd_1445 dX12_wardGoesOn_94 ?_
      refine Ev_bipushC dX12_wardGoesOn_97 rfl ?_
      refine Ev_iload_n 1 dX12_wardGoesOn_99 rfl rfl ?_
      refine Ev_iadd dX12_wardGoesOn_100 ?_
      refine Ev_aload_n 0 dX12_wardGoesOn_101 rfl rfl ?_
      refine Ev_getR (i := 1) cl_X12 yM_0 (Nat.le_of_ble_eq_true rfl) rfl wd_1445 dX12_wardGoesOn_102 ?_
      refine Ev_bipushC dX12_wardGoesOn_105 rfl ?_
      refine Ev_iload_n 1 dX12_wardGoesOn_107 rfl rfl ?_
      refine Ev_iadd dX12_wardGoesOn_108 ?_
      obtain ⟨h0, h⟩ := h
      refine Ev_iald yM_1 h0 dX12_wardGoesOn_109 ?_
      refine Ev_iconst dX12_wardGoesOn_110 rfl (ev_Rc rfl) ?_
      refine Ev_iadd dX12_wardGoesOn_111 ?_
      obtain ⟨h0, h⟩ := h
      refine Ev_iast yM_1 h0 dX12_wardGoesOn_112 (Ev_nm (fun s4 es4 => ?_))
      replace h := h s4 es4
      exact Ev_vret rfl dX12_wardGoesOn_113 h
  · replace h := h.2 c
    refine Ev_aload_n 0 dX12_wardGoesOn_12 rfl rfl ?_
    refine Ev_getR (i := 1) cl_X12 yM_0 (Nat.le_of_ble_eq_true rfl) rfl wd_1445 dX12_wardGoesOn_13 ?_
    refine Ev_bipushC dX12_wardGoesOn_16 rfl ?_
    refine Ev_iload_n 1 dX12_wardGoesOn_18 rfl rfl ?_
    refine Ev_iadd dX12_wardGoesOn_19 ?_
    refine Ev_aload_n 0 dX12_wardGoesOn_20 rfl rfl ?_
    refine Ev_getR (i := 1) cl_X12 yM_0 (Nat.le_of_ble_eq_true rfl) rfl wd_1445 dX12_wardGoesOn_21 ?_
    refine Ev_bipushC dX12_wardGoesOn_24 rfl ?_
    refine Ev_iload_n 1 dX12_wardGoesOn_26 rfl rfl ?_
    refine Ev_iadd dX12_wardGoesOn_27 ?_
    obtain ⟨h0, h⟩ := h
    refine Ev_iald yM_1 h0 dX12_wardGoesOn_28 ?_
    refine Ev_iconst dX12_wardGoesOn_29 rfl (ev_Rc rfl) ?_
    refine Ev_isub dX12_wardGoesOn_30 ?_
    obtain ⟨h0, h⟩ := h
    refine Ev_iast yM_1 h0 dX12_wardGoesOn_31 (Ev_nm (fun s5 es5 => ?_))
    replace h := h s5 es5
    refine Ev_goto (tgt := 113) dX12_wardGoesOn_32 rfl ?_
    exact Ev_vret rfl dX12_wardGoesOn_113 h
theorem dX12_wardsGoOn_0 : decode cX12_wardsGoOn 0 = .ok (.iconst 0, 1) := by decide +kernel
theorem dX12_wardsGoOn_1 : decode cX12_wardsGoOn 1 = .ok (.istore_n 1, 1) := by decide +kernel
theorem dX12_wardsGoOn_2 : decode cX12_wardsGoOn 2 = .ok (.iload_n 1, 1) := by decide +kernel
theorem dX12_wardsGoOn_3 : decode cX12_wardsGoOn 3 = .ok (.aload_n 0, 1) := by decide +kernel
theorem dX12_wardsGoOn_4 : decode cX12_wardsGoOn 4 = .ok (.getfield 145, 3) := by decide +kernel
theorem dX12_wardsGoOn_7 : decode cX12_wardsGoOn 7 = .ok (.if_icmp .ge 14, 3) := by decide +kernel
theorem dX12_wardsGoOn_10 : decode cX12_wardsGoOn 10 = .ok (.aload_n 0, 1) := by decide +kernel
theorem dX12_wardsGoOn_11 : decode cX12_wardsGoOn 11 = .ok (.iload_n 1, 1) := by decide +kernel
theorem dX12_wardsGoOn_12 : decode cX12_wardsGoOn 12 = .ok (.invokevirtual 393, 3) := by decide +kernel
theorem dX12_wardsGoOn_15 : decode cX12_wardsGoOn 15 = .ok (.iinc 1 1, 3) := by decide +kernel
theorem dX12_wardsGoOn_18 : decode cX12_wardsGoOn 18 = .ok (.goto (-16), 3) := by decide +kernel
theorem dX12_wardsGoOn_21 : decode cX12_wardsGoOn 21 = .ok (.return_, 1) := by decide +kernel
theorem wp_X12_wardsGoOn_0 {d : Nat} {s : ev_S} {Q : Option ev_V → ev_S → Prop}
    (h : Ev layM M_X12_wardsGoOn (d + 1) 2 [(0, ev_r 0), (1, ev_i 0)] [] s Q) :
    Ev layM M_X12_wardsGoOn (d + 1) 0 [(0, ev_r 0)] [] s Q := by
  refine Ev_iconst dX12_wardsGoOn_0 rfl (ev_Rc rfl) ?_
  refine Ev_istore_n (l' := [(1, ev_i 0), (0, ev_r 0)]) dX12_wardsGoOn_1 rfl (Nat.le_of_ble_eq_true rfl) rfl ?_
  exact Ev_sub [1, 0] rfl h
theorem wp_X12_wardsGoOn_2 {d : Nat} {s : ev_S} {Q : Option ev_V → ev_S → Prop} {a1 : Int}
    (h : (((s 0 10) ≤ a1 → Q none s) ∧ (a1 < (s 0 10) → (Ev layM M_X12_wardGoesOn d 0 [(0, ev_r 0), (1, ev_i a1)] [] s (fun _ s1 => Ev layM M_X12_wardsGoOn (d + 1) 2 [(0, ev_r 0), (1, ev_i (ev_add a1 1))] [] s1 Q))))) :
    Ev layM M_X12_wardsGoOn (d + 1) 2 [(0, ev_r 0), (1, ev_i a1)] [] s Q := by
  refine Ev_iload_n 1 dX12_wardsGoOn_2 rfl rfl ?_
  refine Ev_aload_n 0 dX12_wardsGoOn_3 rfl rfl ?_
  refine Ev_get (i := 10) cl_X12 yM_0 (Nat.le_of_ble_eq_true rfl) rfl wd_1454 dX12_wardsGoOn_4 ?_
  refine Ev_icmp_ge (tgt := 21) dX12_wardsGoOn_7 rfl (fun c => ?_) (fun c => ?_)
  · replace h := h.1 c
    exact Ev_vret rfl dX12_wardsGoOn_21 h
  · replace h := h.2 c
    refine Ev_aload_n 0 dX12_wardsGoOn_10 rfl rfl ?_
    refine Ev_iload_n 1 dX12_wardsGoOn_11 rfl rfl ?_
    refine Ev_callV (As := [ev_i a1]) (b := 0) (st := []) (M' := M_X12_wardGoesOn) cm_X12_wardGoesOn wd_1942 wd_1944 wd_134 yM_0 cl_X12 rfl dX12_wardsGoOn_12 (Nat.le_refl _) rfl (Nat.le_of_ble_eq_true rfl) (Nat.le_of_ble_eq_true rfl) h (fun v u h hk => ?_)
    cases hk
    obtain ⟨s1, rfl⟩ : ∃ x, x = u := ⟨_, rfl⟩
    refine Ev_iinc (j := 1) (l' := [(1, ev_i (ev_add a1 1)), (0, ev_r 0)]) dX12_wardsGoOn_15 rfl (Nat.le_of_ble_eq_true rfl) rfl ?_
    refine Ev_goto (tgt := 2) dX12_wardsGoOn_18 rfl ?_
    exact Ev_sub [1, 0] rfl h
theorem dX12_doesCome_0 : decode cX12_doesCome 0 = .ok (.aload_n 0, 1) := by decide +kernel
theorem dX12_doesCome_1 : decode cX12_doesCome 1 = .ok (.getfield 7, 3) := by decide +kernel
theorem dX12_doesCome_4 : decode cX12_doesCome 4 = .ok (.bipush 57, 2) := by decide +kernel
theorem dX12_doesCome_6 : decode cX12_doesCome 6 = .ok (.iload_n 1, 1) := by decide +kernel
theorem dX12_doesCome_7 : decode cX12_doesCome 7 = .ok (.iadd, 1) := by decide +kernel
theorem dX12_doesCome_8 : decode cX12_doesCome 8 = .ok (.iaload, 1) := by decide +kernel
theorem dX12_doesCome_9 : decode cX12_doesCome 9 = .ok (.ifCond .ne 28, 3) := by decide +kernel
theorem dX12_doesCome_12 : decode cX12_doesCome 12 = .ok (.aload_n 0, 1) := by decide +kernel
theorem dX12_doesCome_13 : decode cX12_doesCome 13 = .ok (.aload_n 0, 1) := by decide +kernel
theorem dX12_doesCome_14 : decode cX12_doesCome 14 = .ok (.getfield 7, 3) := by decide +kernel
theorem dX12_doesCome_17 : decode cX12_doesCome 17 = .ok (.iconst 0, 1) := by decide +kernel
theorem dX12_doesCome_18 : decode cX12_doesCome 18 = .ok (.iaload, 1) := by decide +kernel
theorem dX12_doesCome_19 : decode cX12_doesCome 19 = .ok (.aload_n 0, 1) := by decide +kernel
theorem dX12_doesCome_20 : decode cX12_doesCome 20 = .ok (.iload_n 1, 1) := by decide +kernel
theorem dX12_doesCome_21 : decode cX12_doesCome 21 = .ok (.iconst 2, 1) := by decide +kernel
theorem dX12_doesCome_22 : decode cX12_doesCome 22 = .ok (.invokevirtual 396, 3) := by decide +kernel
theorem dX12_doesCome_25 : decode cX12_doesCome 25 = .ok (.aload_n 0, 1) := by decide +kernel
theorem dX12_doesCome_26 : decode cX12_doesCome 26 = .ok (.iload_n 1, 1) := by decide +kernel
theorem dX12_doesCome_27 : decode cX12_doesCome 27 = .ok (.iconst 3, 1) := by decide +kernel
theorem dX12_doesCome_28 : decode cX12_doesCome 28 = .ok (.invokevirtual 396, 3) := by decide +kernel
theorem dX12_doesCome_31 : decode cX12_doesCome 31 = .ok (.invokevirtual 158, 3) := by decide +kernel
theorem dX12_doesCome_34 : decode cX12_doesCome 34 = .ok (.ifCond .ne 5, 3) := by decide +kernel
theorem dX12_doesCome_37 : decode cX12_doesCome 37 = .ok (.iconst 0, 1) := by decide +kernel
theorem dX12_doesCome_38 : decode cX12_doesCome 38 = .ok (.ireturn, 1) := by decide +kernel
theorem dX12_doesCome_39 : decode cX12_doesCome 39 = .ok (.aload_n 0, 1) := by decide +kernel
theorem dX12_doesCome_40 : decode cX12_doesCome 40 = .ok (.iload_n 1, 1) := by decide +kernel
theorem dX12_doesCome_41 : decode cX12_doesCome 41 = .ok (.iconst 4, 1) := by decide +kernel
theorem dX12_doesCome_42 : decode cX12_doesCome 42 = .ok (.invokevirtual 396, 3) := by decide +kernel
theorem dX12_doesCome_45 : decode cX12_doesCome 45 = .ok (.istore_n 2, 1) := by decide +kernel
theorem dX12_doesCome_46 : decode cX12_doesCome 46 = .ok (.iload_n 2, 1) := by decide +kernel
theorem dX12_doesCome_47 : decode cX12_doesCome 47 = .ok (.iconst (-1), 1) := by decide +kernel
theorem dX12_doesCome_48 : decode cX12_doesCome 48 = .ok (.if_icmp .ne 24, 3) := by decide +kernel
theorem dX12_doesCome_51 : decode cX12_doesCome 51 = .ok (.aload_n 0, 1) := by decide +kernel
theorem dX12_doesCome_52 : decode cX12_doesCome 52 = .ok (.aload_n 0, 1) := by decide +kernel
theorem dX12_doesCome_53 : decode cX12_doesCome 53 = .ok (.iload_n 1, 1) := by decide +kernel
theorem dX12_doesCome_54 : decode cX12_doesCome 54 = .ok (.iconst 1, 1) := by decide +kernel
theorem dX12_doesCome_55 : decode cX12_doesCome 55 = .ok (.invokevirtual 396, 3) := by decide +kernel
theorem dX12_doesCome_58 : decode cX12_doesCome 58 = .ok (.invokevirtual 366, 3) := by decide +kernel
theorem dX12_doesCome_61 : decode cX12_doesCome 61 = .ok (.ifCond .le 7, 3) := by decide +kernel
theorem dX12_doesCome_64 : decode cX12_doesCome 64 = .ok (.iconst 1, 1) := by decide +kernel
theorem dX12_doesCome_65 : decode cX12_doesCome 65 = .ok (.goto 29, 3) := by decide +kernel
theorem dX12_doesCome_68 : decode cX12_doesCome 68 = .ok (.iconst 0, 1) := by decide +kernel
theorem dX12_doesCome_69 : decode cX12_doesCome 69 = .ok (.goto 25, 3) := by decide +kernel
theorem dX12_doesCome_72 : decode cX12_doesCome 72 = .ok (.aload_n 0, 1) := by decide +kernel
theorem dX12_doesCome_73 : decode cX12_doesCome 73 = .ok (.getfield 7, 3) := by decide +kernel
theorem dX12_doesCome_76 : decode cX12_doesCome 76 = .ok (.iconst 3, 1) := by decide +kernel
theorem dX12_doesCome_77 : decode cX12_doesCome 77 = .ok (.iload_n 2, 1) := by decide +kernel
theorem dX12_doesCome_78 : decode cX12_doesCome 78 = .ok (.iadd, 1) := by decide +kernel
theorem dX12_doesCome_79 : decode cX12_doesCome 79 = .ok (.iaload, 1) := by decide +kernel
theorem dX12_doesCome_80 : decode cX12_doesCome 80 = .ok (.aload_n 0, 1) := by decide +kernel
theorem dX12_doesCome_81 : decode cX12_doesCome 81 = .ok (.iload_n 1, 1) := by decide +kernel
theorem dX12_doesCome_82 : decode cX12_doesCome 82 = .ok (.iconst 1, 1) := by decide +kernel
theorem dX12_doesCome_83 : decode cX12_doesCome 83 = .ok (.invokevirtual 396, 3) := by decide +kernel
theorem dX12_doesCome_86 : decode cX12_doesCome 86 = .ok (.if_icmp .ne 7, 3) := by decide +kernel
theorem dX12_doesCome_89 : decode cX12_doesCome 89 = .ok (.iconst 1, 1) := by decide +kernel
theorem dX12_doesCome_90 : decode cX12_doesCome 90 = .ok (.goto 4, 3) := by decide +kernel
theorem dX12_doesCome_93 : decode cX12_doesCome 93 = .ok (.iconst 0, 1) := by decide +kernel
theorem dX12_doesCome_94 : decode cX12_doesCome 94 = .ok (.ireturn, 1) := by decide +kernel
theorem wp_X12_doesCome_0 {d : Nat} {s : ev_S} {Q : Option ev_V → ev_S → Prop} {a1 : Int}
    (h : ((0 ≤ (ev_add 57 a1) ∧ (ev_add 57 a1) < (87 : Nat)) ∧ (((s 1 (Int.toNat (ev_add 57 a1))) ≠ 0 → Q (some (ev_i 0)) s) ∧ ((s 1 (Int.toNat (ev_add 57 a1))) = 0 → (Ev layM M_X12_ofMishap d 0 [(0, ev_r 0), (1, ev_i a1), (2, ev_i 2)] [] s (ev_pi (fun r2 s1 => (Ev layM M_X12_ofMishap d 0 [(0, ev_r 0), (1, ev_i a1), (2, ev_i 3)] [] s1 (ev_pi (fun r4 s3 => (Ev layM M_X12_isIn d 0 [(0, ev_r 0), (1, ev_i (s 1 0)), (2, ev_i r2), (3, ev_i r4)] [] s3 (ev_pi (fun r6 s5 => ((r6 ≠ 0 → (Ev layM M_X12_ofMishap d 0 [(0, ev_r 0), (1, ev_i a1), (2, ev_i 4)] [] s5 (ev_pi (fun r8 s7 => ((r8 ≠ (-1) → ((0 ≤ (ev_add 3 r8) ∧ (ev_add 3 r8) < (87 : Nat)) ∧ (Ev layM M_X12_ofMishap d 0 [(0, ev_r 0), (1, ev_i a1), (2, ev_i 1)] [] s7 (ev_pi (fun r10 s9 => (((s7 1 (Int.toNat (ev_add 3 r8))) ≠ r10 → Q (some (ev_i 0)) s9) ∧ ((s7 1 (Int.toNat (ev_add 3 r8))) = r10 → Q (some (ev_i 1)) s9))))))) ∧ (r8 = (-1) → (Ev layM M_X12_ofMishap d 0 [(0, ev_r 0), (1, ev_i a1), (2, ev_i 1)] [] s7 (ev_pi (fun r12 s11 => (Ev layM M_X12_wardsAt d 0 [(0, ev_r 0), (1, ev_i r12)] [] s11 (ev_pi (fun r14 s13 => ((r14 ≤ 0 → Q (some (ev_i 0)) s13) ∧ (0 < r14 → Q (some (ev_i 1)) s13)))))))))))))) ∧ (r6 = 0 → Q (some (ev_i 0)) s5))))))))))))))) :
    Ev layM M_X12_doesCome (d + 1) 0 [(0, ev_r 0), (1, ev_i a1)] [] s Q := by
  refine Ev_aload_n 0 dX12_doesCome_0 rfl rfl ?_
  refine Ev_getR (i := 1) cl_X12 yM_0 (Nat.le_of_ble_eq_true rfl) rfl wd_1445 dX12_doesCome_1 ?_
  refine Ev_bipushC dX12_doesCome_4 rfl ?_
  refine Ev_iload_n 1 dX12_doesCome_6 rfl rfl ?_
  refine Ev_iadd dX12_doesCome_7 ?_
  obtain ⟨h0, h⟩ := h
  refine Ev_iald yM_1 h0 dX12_doesCome_8 ?_
  refine Ev_if_ne (tgt := 37) dX12_doesCome_9 rfl (fun c => ?_) (fun c => ?_)
  · replace h := h.1 c
    refine Ev_iconst dX12_doesCome_37 rfl (ev_Rc rfl) ?_
    exact Ev_iret rfl dX12_doesCome_38 (ev_nb (by decide)) h
  · replace h := h.2 c
    refine Ev_aload_n 0 dX12_doesCome_12 rfl rfl ?_
    refine Ev_aload_n 0 dX12_doesCome_13 rfl rfl ?_
    refine Ev_getR (i := 1) cl_X12 yM_0 (Nat.le_of_ble_eq_true rfl) rfl wd_1445 dX12_doesCome_14 ?_
    refine Ev_iconst dX12_doesCome_17 rfl (ev_Rc rfl) ?_
    refine Ev_iald yM_1 (by decide) dX12_doesCome_18 ?_
    refine Ev_aload_n 0 dX12_doesCome_19 rfl rfl ?_
    refine Ev_iload_n 1 dX12_doesCome_20 rfl rfl ?_
    refine Ev_iconst dX12_doesCome_21 rfl (ev_Rc rfl) ?_
    refine Ev_callV (As := [ev_i a1, ev_i 2]) (b := 0) (st := [ev_i (s 1 0), ev_r 0]) (M' := M_X12_ofMishap) cm_X12_ofMishap wd_1954 wd_1956 wd_137 yM_0 cl_X12 rfl dX12_doesCome_22 (Nat.le_refl _) rfl (Nat.le_of_ble_eq_true rfl) (Nat.le_of_ble_eq_true rfl) h (fun v u h hk => ?_)
    obtain ⟨r2, rfl⟩ := hk
    obtain ⟨s1, rfl⟩ : ∃ x, x = u := ⟨_, rfl⟩
    replace h := h r2 rfl
    refine Ev_aload_n 0 dX12_doesCome_25 rfl rfl ?_
    refine Ev_iload_n 1 dX12_doesCome_26 rfl rfl ?_
    refine Ev_iconst dX12_doesCome_27 rfl (ev_Rc rfl) ?_
    refine Ev_callV (As := [ev_i a1, ev_i 3]) (b := 0) (st := [ev_i r2, ev_i (s 1 0), ev_r 0]) (M' := M_X12_ofMishap) cm_X12_ofMishap wd_1954 wd_1956 wd_137 yM_0 cl_X12 rfl dX12_doesCome_28 (Nat.le_refl _) rfl (Nat.le_of_ble_eq_true rfl) (Nat.le_of_ble_eq_true rfl) h (fun v u h hk => ?_)
    obtain ⟨r4, rfl⟩ := hk
    obtain ⟨s3, rfl⟩ : ∃ x, x = u := ⟨_, rfl⟩
    replace h := h r4 rfl
    refine Ev_callV (As := [ev_i (s 1 0), ev_i r2, ev_i r4]) (b := 0) (st := []) (M' := M_X12_isIn) cm_X12_isIn wd_1650 wd_1652 wd_70 yM_0 cl_X12 rfl dX12_doesCome_31 (Nat.le_refl _) rfl (Nat.le_of_ble_eq_true rfl) (Nat.le_of_ble_eq_true rfl) h (fun v u h hk => ?_)
    obtain ⟨r6, rfl⟩ := hk
    obtain ⟨s5, rfl⟩ : ∃ x, x = u := ⟨_, rfl⟩
    replace h := h r6 rfl
    refine Ev_if_ne (tgt := 39) dX12_doesCome_34 rfl (fun c => ?_) (fun c => ?_)
    · replace h := h.1 c
      refine Ev_aload_n 0 dX12_doesCome_39 rfl rfl ?_
      refine Ev_iload_n 1 dX12_doesCome_40 rfl rfl ?_
      refine Ev_iconst dX12_doesCome_41 rfl (ev_Rc rfl) ?_
      refine Ev_callV (As := [ev_i a1, ev_i 4]) (b := 0) (st := []) (M' := M_X12_ofMishap) cm_X12_ofMishap wd_1954 wd_1956 wd_137 yM_0 cl_X12 rfl dX12_doesCome_42 (Nat.le_refl _) rfl (Nat.le_of_ble_eq_true rfl) (Nat.le_of_ble_eq_true rfl) h (fun v u h hk => ?_)
      obtain ⟨r8, rfl⟩ := hk
      obtain ⟨s7, rfl⟩ : ∃ x, x = u := ⟨_, rfl⟩
      replace h := h r8 rfl
      refine Ev_istore_n (l' := [(2, ev_i r8), (0, ev_r 0), (1, ev_i a1)]) dX12_doesCome_45 rfl (Nat.le_of_ble_eq_true rfl) rfl ?_
      refine Ev_iload_n 0 dX12_doesCome_46 rfl rfl ?_
      refine Ev_iconst dX12_doesCome_47 rfl (ev_Rc rfl) ?_
      refine Ev_icmp_ne (tgt := 72) dX12_doesCome_48 rfl (fun c => ?_) (fun c => ?_)
      · replace h := h.1 c
        refine Ev_aload_n 1 dX12_doesCome_72 rfl rfl ?_
        refine Ev_getR (i := 1) cl_X12 yM_0 (Nat.le_of_ble_eq_true rfl) rfl wd_1445 dX12_doesCome_73 ?_
        refine Ev_iconst dX12_doesCome_76 rfl (ev_Rc rfl) ?_
        refine Ev_iload_n 0 dX12_doesCome_77 rfl rfl ?_
        refine Ev_iadd dX12_doesCome_78 ?_
        obtain ⟨h0, h⟩ := h
        refine Ev_iald yM_1 h0 dX12_doesCome_79 ?_
        refine Ev_aload_n 1 dX12_doesCome_80 rfl rfl ?_
        refine Ev_iload_n 2 dX12_doesCome_81 rfl rfl ?_
        refine Ev_iconst dX12_doesCome_82 rfl (ev_Rc rfl) ?_
        refine Ev_callV (As := [ev_i a1, ev_i 1]) (b := 0) (st := [ev_i (s7 1 (Int.toNat (ev_add 3 r8)))]) (M' := M_X12_ofMishap) cm_X12_ofMishap wd_1954 wd_1956 wd_137 yM_0 cl_X12 rfl dX12_doesCome_83 (Nat.le_refl _) rfl (Nat.le_of_ble_eq_true rfl) (Nat.le_of_ble_eq_true rfl) h (fun v u h hk => ?_)
        obtain ⟨r10, rfl⟩ := hk
        obtain ⟨s9, rfl⟩ : ∃ x, x = u := ⟨_, rfl⟩
        replace h := h r10 rfl
        refine Ev_icmp_ne (tgt := 93) dX12_doesCome_86 rfl (fun c => ?_) (fun c => ?_)
        · replace h := h.1 c
          refine Ev_iconst dX12_doesCome_93 rfl (ev_Rc rfl) ?_
          exact Ev_iret rfl dX12_doesCome_94 (ev_nb (by decide)) h
        · replace h := h.2 c
          refine Ev_iconst dX12_doesCome_89 rfl (ev_Rc rfl) ?_
          refine Ev_goto (tgt := 94) dX12_doesCome_90 rfl ?_
          exact Ev_iret rfl dX12_doesCome_94 (ev_nb (by decide)) h
      · replace h := h.2 c
        refine Ev_aload_n 1 dX12_doesCome_51 rfl rfl ?_
        refine Ev_aload_n 1 dX12_doesCome_52 rfl rfl ?_
        refine Ev_iload_n 2 dX12_doesCome_53 rfl rfl ?_
        refine Ev_iconst dX12_doesCome_54 rfl (ev_Rc rfl) ?_
        refine Ev_callV (As := [ev_i a1, ev_i 1]) (b := 0) (st := [ev_r 0]) (M' := M_X12_ofMishap) cm_X12_ofMishap wd_1954 wd_1956 wd_137 yM_0 cl_X12 rfl dX12_doesCome_55 (Nat.le_refl _) rfl (Nat.le_of_ble_eq_true rfl) (Nat.le_of_ble_eq_true rfl) h (fun v u h hk => ?_)
        obtain ⟨r12, rfl⟩ := hk
        obtain ⟨s11, rfl⟩ : ∃ x, x = u := ⟨_, rfl⟩
        replace h := h r12 rfl
        refine Ev_callV (As := [ev_i r12]) (b := 0) (st := []) (M' := M_X12_wardsAt) cm_X12_wardsAt wd_1922 wd_1924 wd_129 yM_0 cl_X12 rfl dX12_doesCome_58 (Nat.le_refl _) rfl (Nat.le_of_ble_eq_true rfl) (Nat.le_of_ble_eq_true rfl) h (fun v u h hk => ?_)
        obtain ⟨r14, rfl⟩ := hk
        obtain ⟨s13, rfl⟩ : ∃ x, x = u := ⟨_, rfl⟩
        replace h := h r14 rfl
        refine Ev_if_le (tgt := 68) dX12_doesCome_61 rfl (fun c => ?_) (fun c => ?_)
        · replace h := h.1 c
          refine Ev_iconst dX12_doesCome_68 rfl (ev_Rc rfl) ?_
          refine Ev_goto (tgt := 94) dX12_doesCome_69 rfl ?_
          exact Ev_iret rfl dX12_doesCome_94 (ev_nb (by decide)) h
        · replace h := h.2 c
          refine Ev_iconst dX12_doesCome_64 rfl (ev_Rc rfl) ?_
          refine Ev_goto (tgt := 94) dX12_doesCome_65 rfl ?_
          exact Ev_iret rfl dX12_doesCome_94 (ev_nb (by decide)) h
    · replace h := h.2 c
      refine Ev_iconst dX12_doesCome_37 rfl (ev_Rc rfl) ?_
      exact Ev_iret rfl dX12_doesCome_38 (ev_nb (by decide)) h
theorem dX12_lineThatAverts_0 : decode cX12_lineThatAverts 0 = .ok (.aload_n 0, 1) := by decide +kernel
theorem dX12_lineThatAverts_1 : decode cX12_lineThatAverts 1 = .ok (.iload_n 1, 1) := by decide +kernel
theorem dX12_lineThatAverts_2 : decode cX12_lineThatAverts 2 = .ok (.iconst 5, 1) := by decide +kernel
theorem dX12_lineThatAverts_3 : decode cX12_lineThatAverts 3 = .ok (.invokevirtual 396, 3) := by decide +kernel
theorem dX12_lineThatAverts_6 : decode cX12_lineThatAverts 6 = .ok (.istore_n 2, 1) := by decide +kernel
theorem dX12_lineThatAverts_7 : decode cX12_lineThatAverts 7 = .ok (.aload_n 0, 1) := by decide +kernel
theorem dX12_lineThatAverts_8 : decode cX12_lineThatAverts 8 = .ok (.getfield 7, 3) := by decide +kernel
theorem dX12_lineThatAverts_11 : decode cX12_lineThatAverts 11 = .ok (.iconst 2, 1) := by decide +kernel
theorem dX12_lineThatAverts_12 : decode cX12_lineThatAverts 12 = .ok (.iaload, 1) := by decide +kernel
theorem dX12_lineThatAverts_13 : decode cX12_lineThatAverts 13 = .ok (.iconst 1, 1) := by decide +kernel
theorem dX12_lineThatAverts_14 : decode cX12_lineThatAverts 14 = .ok (.isub, 1) := by decide +kernel
theorem dX12_lineThatAverts_15 : decode cX12_lineThatAverts 15 = .ok (.istore_n 3, 1) := by decide +kernel
theorem dX12_lineThatAverts_16 : decode cX12_lineThatAverts 16 = .ok (.iload_n 3, 1) := by decide +kernel
theorem dX12_lineThatAverts_17 : decode cX12_lineThatAverts 17 = .ok (.ifCond .lt 97, 3) := by decide +kernel
theorem dX12_lineThatAverts_20 : decode cX12_lineThatAverts 20 = .ok (.aload_n 0, 1) := by decide +kernel
theorem dX12_lineThatAverts_21 : decode cX12_lineThatAverts 21 = .ok (.getfield 34, 3) := by decide +kernel
theorem dX12_lineThatAverts_24 : decode cX12_lineThatAverts 24 = .ok (.iconst 5, 1) := by decide +kernel
theorem dX12_lineThatAverts_25 : decode cX12_lineThatAverts 25 = .ok (.iload_n 3, 1) := by decide +kernel
theorem dX12_lineThatAverts_26 : decode cX12_lineThatAverts 26 = .ok (.imul, 1) := by decide +kernel
theorem dX12_lineThatAverts_27 : decode cX12_lineThatAverts 27 = .ok (.iconst 3, 1) := by decide +kernel
theorem dX12_lineThatAverts_28 : decode cX12_lineThatAverts 28 = .ok (.iadd, 1) := by decide +kernel
theorem dX12_lineThatAverts_29 : decode cX12_lineThatAverts 29 = .ok (.iaload, 1) := by decide +kernel
theorem dX12_lineThatAverts_30 : decode cX12_lineThatAverts 30 = .ok (.aload_n 0, 1) := by decide +kernel
theorem dX12_lineThatAverts_31 : decode cX12_lineThatAverts 31 = .ok (.iload_n 1, 1) := by decide +kernel
theorem dX12_lineThatAverts_32 : decode cX12_lineThatAverts 32 = .ok (.iconst 1, 1) := by decide +kernel
theorem dX12_lineThatAverts_33 : decode cX12_lineThatAverts 33 = .ok (.invokevirtual 396, 3) := by decide +kernel
theorem dX12_lineThatAverts_36 : decode cX12_lineThatAverts 36 = .ok (.if_icmp .ne 29, 3) := by decide +kernel
theorem dX12_lineThatAverts_39 : decode cX12_lineThatAverts 39 = .ok (.aload_n 0, 1) := by decide +kernel
theorem dX12_lineThatAverts_40 : decode cX12_lineThatAverts 40 = .ok (.getfield 34, 3) := by decide +kernel
theorem dX12_lineThatAverts_43 : decode cX12_lineThatAverts 43 = .ok (.iconst 5, 1) := by decide +kernel
theorem dX12_lineThatAverts_44 : decode cX12_lineThatAverts 44 = .ok (.iload_n 3, 1) := by decide +kernel
theorem dX12_lineThatAverts_45 : decode cX12_lineThatAverts 45 = .ok (.imul, 1) := by decide +kernel
theorem dX12_lineThatAverts_46 : decode cX12_lineThatAverts 46 = .ok (.iaload, 1) := by decide +kernel
theorem dX12_lineThatAverts_47 : decode cX12_lineThatAverts 47 = .ok (.aload_n 0, 1) := by decide +kernel
theorem dX12_lineThatAverts_48 : decode cX12_lineThatAverts 48 = .ok (.getfield 7, 3) := by decide +kernel
theorem dX12_lineThatAverts_51 : decode cX12_lineThatAverts 51 = .ok (.iconst 0, 1) := by decide +kernel
theorem dX12_lineThatAverts_52 : decode cX12_lineThatAverts 52 = .ok (.iaload, 1) := by decide +kernel
theorem dX12_lineThatAverts_53 : decode cX12_lineThatAverts 53 = .ok (.aload_n 0, 1) := by decide +kernel
theorem dX12_lineThatAverts_54 : decode cX12_lineThatAverts 54 = .ok (.invokevirtual 399, 3) := by decide +kernel
theorem dX12_lineThatAverts_57 : decode cX12_lineThatAverts 57 = .ok (.isub, 1) := by decide +kernel
theorem dX12_lineThatAverts_58 : decode cX12_lineThatAverts 58 = .ok (.if_icmp .lt 7, 3) := by decide +kernel
theorem dX12_lineThatAverts_61 : decode cX12_lineThatAverts 61 = .ok (.iconst 1, 1) := by decide +kernel
theorem dX12_lineThatAverts_62 : decode cX12_lineThatAverts 62 = .ok (.goto 4, 3) := by decide +kernel
theorem dX12_lineThatAverts_65 : decode cX12_lineThatAverts 65 = .ok (.iconst 0, 1) := by decide +kernel
theorem dX12_lineThatAverts_66 : decode cX12_lineThatAverts 66 = .ok (.istore 4, 2) := by decide +kernel
theorem dX12_lineThatAverts_68 : decode cX12_lineThatAverts 68 = .ok (.iload 4, 2) := by decide +kernel
theorem dX12_lineThatAverts_70 : decode cX12_lineThatAverts 70 = .ok (.ifCond .eq 38, 3) := by decide +kernel
theorem dX12_lineThatAverts_73 : decode cX12_lineThatAverts 73 = .ok (.aload_n 0, 1) := by decide +kernel
theorem dX12_lineThatAverts_74 : decode cX12_lineThatAverts 74 = .ok (.getfield 34, 3) := by decide +kernel
theorem dX12_lineThatAverts_77 : decode cX12_lineThatAverts 77 = .ok (.iconst 5, 1) := by decide +kernel
theorem dX12_lineThatAverts_78 : decode cX12_lineThatAverts 78 = .ok (.iload_n 3, 1) := by decide +kernel
theorem dX12_lineThatAverts_79 : decode cX12_lineThatAverts 79 = .ok (.imul, 1) := by decide +kernel
theorem dX12_lineThatAverts_80 : decode cX12_lineThatAverts 80 = .ok (.iconst 4, 1) := by decide +kernel
theorem dX12_lineThatAverts_81 : decode cX12_lineThatAverts 81 = .ok (.iadd, 1) := by decide +kernel
theorem dX12_lineThatAverts_82 : decode cX12_lineThatAverts 82 = .ok (.iaload, 1) := by decide +kernel
theorem dX12_lineThatAverts_83 : decode cX12_lineThatAverts 83 = .ok (.iconst 1, 1) := by decide +kernel
theorem dX12_lineThatAverts_84 : decode cX12_lineThatAverts 84 = .ok (.if_icmp .ne 24, 3) := by decide +kernel
theorem dX12_lineThatAverts_87 : decode cX12_lineThatAverts 87 = .ok (.iload_n 2, 1) := by decide +kernel
theorem dX12_lineThatAverts_88 : decode cX12_lineThatAverts 88 = .ok (.iconst (-1), 1) := by decide +kernel
theorem dX12_lineThatAverts_89 : decode cX12_lineThatAverts 89 = .ok (.if_icmp .eq 17, 3) := by decide +kernel
theorem dX12_lineThatAverts_92 : decode cX12_lineThatAverts 92 = .ok (.aload_n 0, 1) := by decide +kernel
theorem dX12_lineThatAverts_93 : decode cX12_lineThatAverts 93 = .ok (.getfield 34, 3) := by decide +kernel
theorem dX12_lineThatAverts_96 : decode cX12_lineThatAverts 96 = .ok (.iconst 5, 1) := by decide +kernel
theorem dX12_lineThatAverts_97 : decode cX12_lineThatAverts 97 = .ok (.iload_n 3, 1) := by decide +kernel
theorem dX12_lineThatAverts_98 : decode cX12_lineThatAverts 98 = .ok (.imul, 1) := by decide +kernel
theorem dX12_lineThatAverts_99 : decode cX12_lineThatAverts 99 = .ok (.iconst 2, 1) := by decide +kernel
theorem dX12_lineThatAverts_100 : decode cX12_lineThatAverts 100 = .ok (.iadd, 1) := by decide +kernel
theorem dX12_lineThatAverts_101 : decode cX12_lineThatAverts 101 = .ok (.iaload, 1) := by decide +kernel
theorem dX12_lineThatAverts_102 : decode cX12_lineThatAverts 102 = .ok (.iload_n 2, 1) := by decide +kernel
theorem dX12_lineThatAverts_103 : decode cX12_lineThatAverts 103 = .ok (.if_icmp .ne 5, 3) := by decide +kernel
theorem dX12_lineThatAverts_106 : decode cX12_lineThatAverts 106 = .ok (.iload_n 3, 1) := by decide +kernel
theorem dX12_lineThatAverts_107 : decode cX12_lineThatAverts 107 = .ok (.ireturn, 1) := by decide +kernel
theorem dX12_lineThatAverts_108 : decode cX12_lineThatAverts 108 = .ok (.iinc 3 (-1), 3) := by decide +kernel
theorem dX12_lineThatAverts_111 : decode cX12_lineThatAverts 111 = .ok (.goto (-95), 3) := by decide +kernel
theorem dX12_lineThatAverts_114 : decode cX12_lineThatAverts 114 = .ok (.iconst (-1), 1) := by decide +kernel
theorem dX12_lineThatAverts_115 : decode cX12_lineThatAverts 115 = .ok (.ireturn, 1) := by decide +kernel
theorem wp_X12_lineThatAverts_0 {d : Nat} {s : ev_S} {Q : Option ev_V → ev_S → Prop} {a1 : Int}
    (h : (Ev layM M_X12_ofMishap d 0 [(0, ev_r 0), (1, ev_i a1), (2, ev_i 5)] [] s (ev_pi (fun r2 s1 => Ev layM M_X12_lineThatAverts (d + 1) 16 [(0, ev_r 0), (1, ev_i a1), (2, ev_i r2), (3, ev_i (ev_sub (s1 1 2) 1))] [] s1 Q)))) :
    Ev layM M_X12_lineThatAverts (d + 1) 0 [(0, ev_r 0), (1, ev_i a1)] [] s Q := by
  refine Ev_aload_n 0 dX12_lineThatAverts_0 rfl rfl ?_
  refine Ev_iload_n 1 dX12_lineThatAverts_1 rfl rfl ?_
  refine Ev_iconst dX12_lineThatAverts_2 rfl (ev_Rc rfl) ?_
  refine Ev_callV (As := [ev_i a1, ev_i 5]) (b := 0) (st := []) (M' := M_X12_ofMishap) cm_X12_ofMishap wd_1954 wd_1956 wd_137 yM_0 cl_X12 rfl dX12_lineThatAverts_3 (Nat.le_refl _) rfl (Nat.le_of_ble_eq_true rfl) (Nat.le_of_ble_eq_true rfl) h (fun v u h hk => ?_)
  obtain ⟨r2, rfl⟩ := hk
  obtain ⟨s1, rfl⟩ : ∃ x, x = u := ⟨_, rfl⟩
  replace h := h r2 rfl
  refine Ev_istore_n (l' := [(2, ev_i r2), (0, ev_r 0), (1, ev_i a1)]) dX12_lineThatAverts_6 rfl (Nat.le_of_ble_eq_true rfl) rfl ?_
  refine Ev_aload_n 1 dX12_lineThatAverts_7 rfl rfl ?_
  refine Ev_getR (i := 1) cl_X12 yM_0 (Nat.le_of_ble_eq_true rfl) rfl wd_1445 dX12_lineThatAverts_8 ?_
  refine Ev_iconst dX12_lineThatAverts_11 rfl (ev_Rc rfl) ?_
  refine Ev_iald yM_1 (by decide) dX12_lineThatAverts_12 ?_
  refine Ev_iconst dX12_lineThatAverts_13 rfl (ev_Rc rfl) ?_
  refine Ev_isub dX12_lineThatAverts_14 ?_
  refine Ev_istore_n (l' := [(3, ev_i (ev_sub (s1 1 2) 1)), (2, ev_i r2), (0, ev_r 0), (1, ev_i a1)]) dX12_lineThatAverts_15 rfl (Nat.le_of_ble_eq_true rfl) rfl ?_
  exact Ev_sub [2, 3, 1, 0] rfl h
theorem wp_X12_lineThatAverts_16 {d : Nat} {s : ev_S} {Q : Option ev_V → ev_S → Prop} {a1 a2 a3 : Int}
    (h : ((a3 < 0 → Q (some (ev_i (-1))) s) ∧ (0 ≤ a3 → ((0 ≤ (ev_add (ev_mul 5 a3) 3) ∧ (ev_add (ev_mul 5 a3) 3) < (500 : Nat)) ∧ (Ev layM M_X12_ofMishap d 0 [(0, ev_r 0), (1, ev_i a1), (2, ev_i 1)] [] s (ev_pi (fun r2 s1 => (((s 9 (Int.toNat (ev_add (ev_mul 5 a3) 3))) ≠ r2 → Ev layM M_X12_lineThatAverts (d + 1) 66 [(0, ev_r 0), (1, ev_i a1), (2, ev_i a2), (3, ev_i a3)] [ev_i 0] s1 Q) ∧ ((s 9 (Int.toNat (ev_add (ev_mul 5 a3) 3))) = r2 → ((0 ≤ (ev_mul 5 a3) ∧ (ev_mul 5 a3) < (500 : Nat)) ∧ (Ev layM M_X12_guard d 0 [(0, ev_r 0)] [] s1 (ev_pi (fun r4 s3 => (((s1 9 (Int.toNat (ev_mul 5 a3))) < (ev_sub (s1 1 0) r4) → Ev layM M_X12_lineThatAverts (d + 1) 66 [(0, ev_r 0), (1, ev_i a1), (2, ev_i a2), (3, ev_i a3)] [ev_i 0] s3 Q) ∧ ((ev_sub (s1 1 0) r4) ≤ (s1 9 (Int.toNat (ev_mul 5 a3))) → Ev layM M_X12_lineThatAverts (d + 1) 66 [(0, ev_r 0), (1, ev_i a1), (2, ev_i a2), (3, ev_i a3)] [ev_i 1] s3 Q))))))))))))))) :
    Ev layM M_X12_lineThatAverts (d + 1) 16 [(0, ev_r 0), (1, ev_i a1), (2, ev_i a2), (3, ev_i a3)] [] s Q := by
  refine Ev_iload_n 3 dX12_lineThatAverts_16 rfl rfl ?_
  refine Ev_if_lt (tgt := 114) dX12_lineThatAverts_17 rfl (fun c => ?_) (fun c => ?_)
  · replace h := h.1 c
    refine Ev_iconst dX12_lineThatAverts_114 rfl (ev_Rc rfl) ?_
    exact Ev_iret rfl dX12_lineThatAverts_115 rfl h
  · replace h := h.2 c
    refine Ev_aload_n 0 dX12_lineThatAverts_20 rfl rfl ?_
    refine Ev_getR (i := 17) cl_X12 yM_0 (Nat.le_of_ble_eq_true rfl) rfl wd_1461 dX12_lineThatAverts_21 ?_
    refine Ev_iconst dX12_lineThatAverts_24 rfl (ev_Rc rfl) ?_
    refine Ev_iload_n 3 dX12_lineThatAverts_25 rfl rfl ?_
    refine Ev_imul dX12_lineThatAverts_26 ?_
    refine Ev_iconst dX12_lineThatAverts_27 rfl (ev_Rc rfl) ?_
    refine Ev_iadd dX12_lineThatAverts_28 ?_
    obtain ⟨h0, h⟩ := h
    refine Ev_iald yM_9 h0 dX12_lineThatAverts_29 ?_
    refine Ev_aload_n 0 dX12_lineThatAverts_30 rfl rfl ?_
    refine Ev_iload_n 1 dX12_lineThatAverts_31 rfl rfl ?_
    refine Ev_iconst dX12_lineThatAverts_32 rfl (ev_Rc rfl) ?_
    refine Ev_callV (As := [ev_i a1, ev_i 1]) (b := 0) (st := [ev_i (s 9 (Int.toNat (ev_add (ev_mul 5 a3) 3)))]) (M' := M_X12_ofMishap) cm_X12_ofMishap wd_1954 wd_1956 wd_137 yM_0 cl_X12 rfl dX12_lineThatAverts_33 (Nat.le_refl _) rfl (Nat.le_of_ble_eq_true rfl) (Nat.le_of_ble_eq_true rfl) h (fun v u h hk => ?_)
    obtain ⟨r2, rfl⟩ := hk
    obtain ⟨s1, rfl⟩ : ∃ x, x = u := ⟨_, rfl⟩
    replace h := h r2 rfl
    refine Ev_icmp_ne (tgt := 65) dX12_lineThatAverts_36 rfl (fun c => ?_) (fun c => ?_)
    · replace h := h.1 c
      refine Ev_iconst dX12_lineThatAverts_65 rfl (ev_Rc rfl) ?_
      exact Ev_sub [0, 1, 2, 3] rfl h
    · replace h := h.2 c
      refine Ev_aload_n 0 dX12_lineThatAverts_39 rfl rfl ?_
      refine Ev_getR (i := 17) cl_X12 yM_0 (Nat.le_of_ble_eq_true rfl) rfl wd_1461 dX12_lineThatAverts_40 ?_
      refine Ev_iconst dX12_lineThatAverts_43 rfl (ev_Rc rfl) ?_
      refine Ev_iload_n 3 dX12_lineThatAverts_44 rfl rfl ?_
      refine Ev_imul dX12_lineThatAverts_45 ?_
      obtain ⟨h0, h⟩ := h
      refine Ev_iald yM_9 h0 dX12_lineThatAverts_46 ?_
      refine Ev_aload_n 0 dX12_lineThatAverts_47 rfl rfl ?_
      refine Ev_getR (i := 1) cl_X12 yM_0 (Nat.le_of_ble_eq_true rfl) rfl wd_1445 dX12_lineThatAverts_48 ?_
      refine Ev_iconst dX12_lineThatAverts_51 rfl (ev_Rc rfl) ?_
      refine Ev_iald yM_1 (by decide) dX12_lineThatAverts_52 ?_
      refine Ev_aload_n 0 dX12_lineThatAverts_53 rfl rfl ?_
      refine Ev_callV (As := []) (b := 0) (st := [ev_i (s1 1 0), ev_i (s1 9 (Int.toNat (ev_mul 5 a3)))]) (M' := M_X12_guard) cm_X12_guard wd_1966 wd_1968 wd_140 yM_0 cl_X12 rfl dX12_lineThatAverts_54 (Nat.le_refl _) rfl (Nat.le_of_ble_eq_true rfl) (Nat.le_of_ble_eq_true rfl) h (fun v u h hk => ?_)
      obtain ⟨r4, rfl⟩ := hk
      obtain ⟨s3, rfl⟩ : ∃ x, x = u := ⟨_, rfl⟩
      replace h := h r4 rfl
      refine Ev_isub dX12_lineThatAverts_57 ?_
      refine Ev_icmp_lt (tgt := 65) dX12_lineThatAverts_58 rfl (fun c => ?_) (fun c => ?_)
      · replace h := h.1 c
        refine Ev_iconst dX12_lineThatAverts_65 rfl (ev_Rc rfl) ?_
        exact Ev_sub [0, 1, 2, 3] rfl h
      · replace h := h.2 c
        refine Ev_iconst dX12_lineThatAverts_61 rfl (ev_Rc rfl) ?_
        refine Ev_goto (tgt := 66) dX12_lineThatAverts_62 rfl ?_
        exact Ev_sub [0, 1, 2, 3] rfl h
theorem wp_X12_lineThatAverts_66 {d : Nat} {s : ev_S} {Q : Option ev_V → ev_S → Prop} {a1 a2 a3 t0 : Int}
    (h : ((t0 = 0 → Ev layM M_X12_lineThatAverts (d + 1) 16 [(0, ev_r 0), (1, ev_i a1), (2, ev_i a2), (3, ev_i (ev_add a3 (-1)))] [] s Q) ∧ (t0 ≠ 0 → ((0 ≤ (ev_add (ev_mul 5 a3) 4) ∧ (ev_add (ev_mul 5 a3) 4) < (500 : Nat)) ∧ (((s 9 (Int.toNat (ev_add (ev_mul 5 a3) 4))) ≠ 1 → Ev layM M_X12_lineThatAverts (d + 1) 16 [(0, ev_r 0), (1, ev_i a1), (2, ev_i a2), (3, ev_i (ev_add a3 (-1)))] [] s Q) ∧ ((s 9 (Int.toNat (ev_add (ev_mul 5 a3) 4))) = 1 → ((a2 = (-1) → Q (some (ev_i a3)) s) ∧ (a2 ≠ (-1) → ((0 ≤ (ev_add (ev_mul 5 a3) 2) ∧ (ev_add (ev_mul 5 a3) 2) < (500 : Nat)) ∧ (((s 9 (Int.toNat (ev_add (ev_mul 5 a3) 2))) ≠ a2 → Ev layM M_X12_lineThatAverts (d + 1) 16 [(0, ev_r 0), (1, ev_i a1), (2, ev_i a2), (3, ev_i (ev_add a3 (-1)))] [] s Q) ∧ ((s 9 (Int.toNat (ev_add (ev_mul 5 a3) 2))) = a2 → Q (some (ev_i a3)) s))))))))))) :
    Ev layM M_X12_lineThatAverts (d + 1) 66 [(0, ev_r 0), (1, ev_i a1), (2, ev_i a2), (3, ev_i a3)] [ev_i t0] s Q := by
  refine Ev_istore (l' := [(4, ev_i t0), (0, ev_r 0), (1, ev_i a1), (2, ev_i a2), (3, ev_i a3)]) dX12_lineThatAverts_66 (Nat.le_of_ble_eq_true rfl) rfl ?_
  refine Ev_iload 0 dX12_lineThatAverts_68 rfl ?_
  refine Ev_if_eq (tgt := 108) dX12_lineThatAverts_70 rfl (fun c => ?_) (fun c => ?_)
  · replace h := h.1 c
    refine Ev_iinc (j := 4) (l' := [(3, ev_i (ev_add a3 (-1))), (4, ev_i t0), (0, ev_r 0), (1, ev_i a1), (2, ev_i a2)]) dX12_lineThatAverts_108 rfl (Nat.le_of_ble_eq_true rfl) rfl ?_
    refine Ev_goto (tgt := 16) dX12_lineThatAverts_111 rfl ?_
    exact Ev_sub [2, 3, 4, 0] rfl h
  · replace h := h.2 c
    refine Ev_aload_n 1 dX12_lineThatAverts_73 rfl rfl ?_
    refine Ev_getR (i := 17) cl_X12 yM_0 (Nat.le_of_ble_eq_true rfl) rfl wd_1461 dX12_lineThatAverts_74 ?_
    refine Ev_iconst dX12_lineThatAverts_77 rfl (ev_Rc rfl) ?_
    refine Ev_iload_n 4 dX12_lineThatAverts_78 rfl rfl ?_
    refine Ev_imul dX12_lineThatAverts_79 ?_
    refine Ev_iconst dX12_lineThatAverts_80 rfl (ev_Rc rfl) ?_
    refine Ev_iadd dX12_lineThatAverts_81 ?_
    obtain ⟨h0, h⟩ := h
    refine Ev_iald yM_9 h0 dX12_lineThatAverts_82 ?_
    refine Ev_iconst dX12_lineThatAverts_83 rfl (ev_Rc rfl) ?_
    refine Ev_icmp_ne (tgt := 108) dX12_lineThatAverts_84 rfl (fun c => ?_) (fun c => ?_)
    · replace h := h.1 c
      refine Ev_iinc (j := 4) (l' := [(3, ev_i (ev_add a3 (-1))), (4, ev_i t0), (0, ev_r 0), (1, ev_i a1), (2, ev_i a2)]) dX12_lineThatAverts_108 rfl (Nat.le_of_ble_eq_true rfl) rfl ?_
      refine Ev_goto (tgt := 16) dX12_lineThatAverts_111 rfl ?_
      exact Ev_sub [2, 3, 4, 0] rfl h
    · replace h := h.2 c
      refine Ev_iload_n 3 dX12_lineThatAverts_87 rfl rfl ?_
      refine Ev_iconst dX12_lineThatAverts_88 rfl (ev_Rc rfl) ?_
      refine Ev_icmp_eq (tgt := 106) dX12_lineThatAverts_89 rfl (fun c => ?_) (fun c => ?_)
      · replace h := h.1 c
        refine Ev_iload_n 4 dX12_lineThatAverts_106 rfl rfl ?_
        exact Ev_iret rfl dX12_lineThatAverts_107 rfl h
      · replace h := h.2 c
        refine Ev_aload_n 1 dX12_lineThatAverts_92 rfl rfl ?_
        refine Ev_getR (i := 17) cl_X12 yM_0 (Nat.le_of_ble_eq_true rfl) rfl wd_1461 dX12_lineThatAverts_93 ?_
        refine Ev_iconst dX12_lineThatAverts_96 rfl (ev_Rc rfl) ?_
        refine Ev_iload_n 4 dX12_lineThatAverts_97 rfl rfl ?_
        refine Ev_imul dX12_lineThatAverts_98 ?_
        refine Ev_iconst dX12_lineThatAverts_99 rfl (ev_Rc rfl) ?_
        refine Ev_iadd dX12_lineThatAverts_100 ?_
        obtain ⟨h0, h⟩ := h
        refine Ev_iald yM_9 h0 dX12_lineThatAverts_101 ?_
        refine Ev_iload_n 3 dX12_lineThatAverts_102 rfl rfl ?_
        refine Ev_icmp_ne (tgt := 108) dX12_lineThatAverts_103 rfl (fun c => ?_) (fun c => ?_)
        · replace h := h.1 c
          refine Ev_iinc (j := 4) (l' := [(3, ev_i (ev_add a3 (-1))), (4, ev_i t0), (0, ev_r 0), (1, ev_i a1), (2, ev_i a2)]) dX12_lineThatAverts_108 rfl (Nat.le_of_ble_eq_true rfl) rfl ?_
          refine Ev_goto (tgt := 16) dX12_lineThatAverts_111 rfl ?_
          exact Ev_sub [2, 3, 4, 0] rfl h
        · replace h := h.2 c
          refine Ev_iload_n 4 dX12_lineThatAverts_106 rfl rfl ?_
          exact Ev_iret rfl dX12_lineThatAverts_107 rfl h
theorem dX12_comes_0 : decode cX12_comes 0 = .ok (.aload_n 0, 1) := by decide +kernel
theorem dX12_comes_1 : decode cX12_comes 1 = .ok (.iload_n 1, 1) := by decide +kernel
theorem dX12_comes_2 : decode cX12_comes 2 = .ok (.invokevirtual 402, 3) := by decide +kernel
theorem dX12_comes_5 : decode cX12_comes 5 = .ok (.istore_n 2, 1) := by decide +kernel
theorem dX12_comes_6 : decode cX12_comes 6 = .ok (.aload_n 0, 1) := by decide +kernel
theorem dX12_comes_7 : decode cX12_comes 7 = .ok (.iload_n 1, 1) := by decide +kernel
theorem dX12_comes_8 : decode cX12_comes 8 = .ok (.bipush 6, 2) := by decide +kernel
theorem dX12_comes_10 : decode cX12_comes 10 = .ok (.invokevirtual 396, 3) := by decide +kernel
theorem dX12_comes_13 : decode cX12_comes 13 = .ok (.istore_n 3, 1) := by decide +kernel
theorem dX12_comes_14 : decode cX12_comes 14 = .ok (.aload_n 0, 1) := by decide +kernel
theorem dX12_comes_15 : decode cX12_comes 15 = .ok (.getfield 7, 3) := by decide +kernel
theorem dX12_comes_18 : decode cX12_comes 18 = .ok (.bipush 67, 2) := by decide +kernel
theorem dX12_comes_20 : decode cX12_comes 20 = .ok (.iload_n 1, 1) := by decide +kernel
theorem dX12_comes_21 : decode cX12_comes 21 = .ok (.iadd, 1) := by decide +kernel
theorem dX12_comes_22 : decode cX12_comes 22 = .ok (.aload_n 0, 1) := by decide +kernel
theorem dX12_comes_23 : decode cX12_comes 23 = .ok (.getfield 7, 3) := by decide +kernel
theorem dX12_comes_26 : decode cX12_comes 26 = .ok (.iconst 0, 1) := by decide +kernel
theorem dX12_comes_27 : decode cX12_comes 27 = .ok (.iaload, 1) := by decide +kernel
theorem dX12_comes_28 : decode cX12_comes 28 = .ok (.iconst 1, 1) := by decide +kernel
theorem dX12_comes_29 : decode cX12_comes 29 = .ok (.iadd, 1) := by decide +kernel
theorem dX12_comes_30 : decode cX12_comes 30 = .ok (.iastore, 1) := by decide +kernel
theorem dX12_comes_31 : decode cX12_comes 31 = .ok (.aload_n 0, 1) := by decide +kernel
theorem dX12_comes_32 : decode cX12_comes 32 = .ok (.getfield 7, 3) := by decide +kernel
theorem dX12_comes_35 : decode cX12_comes 35 = .ok (.bipush 77, 2) := by decide +kernel
theorem dX12_comes_37 : decode cX12_comes 37 = .ok (.iload_n 1, 1) := by decide +kernel
theorem dX12_comes_38 : decode cX12_comes 38 = .ok (.iadd, 1) := by decide +kernel
theorem dX12_comes_39 : decode cX12_comes 39 = .ok (.iload_n 2, 1) := by decide +kernel
theorem dX12_comes_40 : decode cX12_comes 40 = .ok (.iconst 1, 1) := by decide +kernel
theorem dX12_comes_41 : decode cX12_comes 41 = .ok (.iadd, 1) := by decide +kernel
theorem dX12_comes_42 : decode cX12_comes 42 = .ok (.iastore, 1) := by decide +kernel
theorem dX12_comes_43 : decode cX12_comes 43 = .ok (.iload_n 2, 1) := by decide +kernel
theorem dX12_comes_44 : decode cX12_comes 44 = .ok (.iconst (-1), 1) := by decide +kernel
theorem dX12_comes_45 : decode cX12_comes 45 = .ok (.if_icmp .eq 16, 3) := by decide +kernel
theorem dX12_comes_48 : decode cX12_comes 48 = .ok (.aload_n 0, 1) := by decide +kernel
theorem dX12_comes_49 : decode cX12_comes 49 = .ok (.getfield 7, 3) := by decide +kernel
theorem dX12_comes_52 : decode cX12_comes 52 = .ok (.bipush 57, 2) := by decide +kernel
theorem dX12_comes_54 : decode cX12_comes 54 = .ok (.iload_n 1, 1) := by decide +kernel
theorem dX12_comes_55 : decode cX12_comes 55 = .ok (.iadd, 1) := by decide +kernel
theorem dX12_comes_56 : decode cX12_comes 56 = .ok (.iconst 1, 1) := by decide +kernel
theorem dX12_comes_57 : decode cX12_comes 57 = .ok (.iastore, 1) := by decide +kernel
theorem dX12_comes_58 : decode cX12_comes 58 = .ok (.goto 40, 3) := by decide +kernel
theorem dX12_comes_61 : decode cX12_comes 61 = .ok (.aload_n 0, 1) := by decide +kernel
theorem dX12_comes_62 : decode cX12_comes 62 = .ok (.getfield 7, 3) := by decide +kernel
theorem dX12_comes_65 : decode cX12_comes 65 = .ok (.bipush 57, 2) := by decide +kernel
theorem dX12_comes_67 : decode cX12_comes 67 = .ok (.iload_n 1, 1) := by decide +kernel
theorem dX12_comes_68 : decode cX12_comes 68 = .ok (.iadd, 1) := by decide +kernel
theorem dX12_comes_69 : decode cX12_comes 69 = .ok (.aload_n 0, 1) := by decide +kernel
theorem dX12_comes_70 : decode cX12_comes 70 = .ok (.getfield 130, 3) := by decide +kernel
theorem dX12_comes_73 : decode cX12_comes 73 = .ok (.ifCond .ne 19, 3) := by decide +kernel
theorem dX12_comes_76 : decode cX12_comes 76 = .ok (.iload_n 3, 1) := by decide +kernel
theorem dX12_comes_77 : decode cX12_comes 77 = .ok (.bipush 100, 2) := by decide +kernel
theorem dX12_comes_79 : decode cX12_comes 79 = .ok (.if_icmp .eq 13, 3) := by decide +kernel
theorem dX12_comes_82 : decode cX12_comes 82 = .ok (.aload_n 0, 1) := by decide +kernel
theorem dX12_comes_83 : decode cX12_comes 83 = .ok (.bipush 100, 2) := by decide +kernel
theorem dX12_comes_85 : decode cX12_comes 85 = .ok (.invokevirtual 405, 3) := by decide +kernel
theorem dX12_comes_88 : decode cX12_comes 88 = .ok (.iload_n 3, 1) := by decide +kernel
theorem dX12_comes_89 : decode cX12_comes 89 = .ok (.if_icmp .ge 7, 3) := by decide +kernel
theorem dX12_comes_92 : decode cX12_comes 92 = .ok (.iconst 2, 1) := by decide +kernel
theorem dX12_comes_93 : decode cX12_comes 93 = .ok (.goto 4, 3) := by decide +kernel
theorem dX12_comes_96 : decode cX12_comes 96 = .ok (.iconst 3, 1) := by decide +kernel
theorem dX12_comes_97 : decode cX12_comes 97 = .ok (.iastore, 1) := by decide +kernel
theorem dX12_comes_98 : decode cX12_comes 98 = .ok (.return_, 1) := by decide +kernel
theorem wp_X12_comes_0 {d : Nat} {s : ev_S} {Q : Option ev_V → ev_S → Prop} {a1 : Int}
    (h : (Ev layM M_X12_lineThatAverts d 0 [(0, ev_r 0), (1, ev_i a1)] [] s (ev_pi (fun r2 s1 => (Ev layM M_X12_ofMishap d 0 [(0, ev_r 0), (1, ev_i a1), (2, ev_i 6)] [] s1 (ev_pi (fun r4 s3 => ((0 ≤ (ev_add 67 a1) ∧ (ev_add 67 a1) < (87 : Nat)) ∧ ∀ s5, ev_up s3 1 (Int.toNat (ev_add 67 a1)) (ev_add (s3 1 0) 1) = s5 → ((0 ≤ (ev_add 77 a1) ∧ (ev_add 77 a1) < (87 : Nat)) ∧ ∀ s6, ev_up s5 1 (Int.toNat (ev_add 77 a1)) (ev_add r2 1) = s6 → ((r2 = (-1) → (((s6 0 5) ≠ 0 → ((0 ≤ (ev_add 57 a1) ∧ (ev_add 57 a1) < (87 : Nat)) ∧ ∀ s7, ev_up s6 1 (Int.toNat (ev_add 57 a1)) 2 = s7 → Q none s7)) ∧ ((s6 0 5) = 0 → ((r4 = 100 → ((0 ≤ (ev_add 57 a1) ∧ (ev_add 57 a1) < (87 : Nat)) ∧ ∀ s8, ev_up s6 1 (Int.toNat (ev_add 57 a1)) 2 = s8 → Q none s8)) ∧ (r4 ≠ 100 → (Ev layM M_X12_draw d 0 [(0, ev_r 0), (1, ev_i 100)] [] s6 (ev_pi (fun r10 s9 => ((r4 ≤ r10 → ((0 ≤ (ev_add 57 a1) ∧ (ev_add 57 a1) < (87 : Nat)) ∧ ∀ s11, ev_up s9 1 (Int.toNat (ev_add 57 a1)) 3 = s11 → Q none s11)) ∧ (r10 < r4 → ((0 ≤ (ev_add 57 a1) ∧ (ev_add 57 a1) < (87 : Nat)) ∧ ∀ s12, ev_up s9 1 (Int.toNat (ev_add 57 a1)) 2 = s12 → Q none s12))))))))))) ∧ (r2 ≠ (-1) → ((0 ≤ (ev_add 57 a1) ∧ (ev_add 57 a1) < (87 : Nat)) ∧ ∀ s13, ev_up s6 1 (Int.toNat (ev_add 57 a1)) 1 = s13 → Q none s13)))))))))))) :
    Ev layM M_X12_comes (d + 1) 0 [(0, ev_r 0), (1, ev_i a1)] [] s Q := by
  refine Ev_aload_n 0 dX12_comes_0 rfl rfl ?_
  refine Ev_iload_n 1 dX12_comes_1 rfl rfl ?_
  refine Ev_callV (As := [ev_i a1]) (b := 0) (st := []) (M' := M_X12_lineThatAverts) cm_X12_lineThatAverts wd_1962 wd_1964 wd_139 yM_0 cl_X12 rfl dX12_comes_2 (Nat.le_refl _) rfl (Nat.le_of_ble_eq_true rfl) (Nat.le_of_ble_eq_true rfl) h (fun v u h hk => ?_)
  obtain ⟨r2, rfl⟩ := hk
  obtain ⟨s1, rfl⟩ : ∃ x, x = u := ⟨_, rfl⟩
  replace h := h r2 rfl
  refine Ev_istore_n (l' := [(2, ev_i r2), (0, ev_r 0), (1, ev_i a1)]) dX12_comes_5 rfl (Nat.le_of_ble_eq_true rfl) rfl ?_
  refine Ev_aload_n 1 dX12_comes_6 rfl rfl ?_
  refine Ev_iload_n 2 dX12_comes_7 rfl rfl ?_
  refine Ev_bipushC dX12_comes_8 rfl ?_
  refine Ev_callV (As := [ev_i a1, ev_i 6]) (b := 0) (st := []) (M' := M_X12_ofMishap) cm_X12_ofMishap wd_1954 wd_1956 wd_137 yM_0 cl_X12 rfl dX12_comes_10 (Nat.le_refl _) rfl (Nat.le_of_ble_eq_true rfl) (Nat.le_of_ble_eq_true rfl) h (fun v u h hk => ?_)
  obtain ⟨r4, rfl⟩ := hk
  obtain ⟨s3, rfl⟩ : ∃ x, x = u := ⟨_, rfl⟩
  replace h := h r4 rfl
  refine Ev_istore_n (l' := [(3, ev_i r4), (2, ev_i r2), (0, ev_r 0), (1, ev_i a1)]) dX12_comes_13 rfl (Nat.le_of_ble_eq_true rfl) rfl ?_
  refine Ev_aload_n 2 dX12_comes_14 rfl rfl ?_
  refine Ev_getR (i := 1) cl_X12 yM_0 (Nat.le_of_ble_eq_true rfl) rfl wd_1445 dX12_comes_15 ?_
  refine Ev_bipushC dX12_comes_18 rfl ?_
  refine Ev_iload_n 3 dX12_comes_20 rfl rfl ?_
  refine Ev_iadd dX12_comes_21 ?_
  refine Ev_aload_n 2 dX12_comes_22 rfl rfl ?_
  refine Ev_getR (i := 1) cl_X12 yM_0 (Nat.le_of_ble_eq_true rfl) rfl wd_1445 dX12_comes_23 ?_
  refine Ev_iconst dX12_comes_26 rfl (ev_Rc rfl) ?_
  refine Ev_iald yM_1 (by decide) dX12_comes_27 ?_
  refine Ev_iconst dX12_comes_28 rfl (ev_Rc rfl) ?_
  refine Ev_iadd dX12_comes_29 ?_
  obtain ⟨h0, h⟩ := h
  refine Ev_iast yM_1 h0 dX12_comes_30 (Ev_nm (fun s5 es5 => ?_))
  replace h := h s5 es5
  refine Ev_aload_n 2 dX12_comes_31 rfl rfl ?_
  refine Ev_getR (i := 1) cl_X12 yM_0 (Nat.le_of_ble_eq_true rfl) rfl wd_1445 dX12_comes_32 ?_
  refine Ev_bipushC dX12_comes_35 rfl ?_
  refine Ev_iload_n 3 dX12_comes_37 rfl rfl ?_
  refine Ev_iadd dX12_comes_38 ?_
  refine Ev_iload_n 1 dX12_comes_39 rfl rfl ?_
  refine Ev_iconst dX12_comes_40 rfl (ev_Rc rfl) ?_
  refine Ev_iadd dX12_comes_41 ?_
  obtain ⟨h0, h⟩ := h
  refine Ev_iast yM_1 h0 dX12_comes_42 (Ev_nm (fun s6 es6 => ?_))
  replace h := h s6 es6
  refine Ev_iload_n 1 dX12_comes_43 rfl rfl ?_
  refine Ev_iconst dX12_comes_44 rfl (ev_Rc rfl) ?_
  refine Ev_icmp_eq (tgt := 61) dX12_comes_45 rfl (fun c => ?_) (fun c => ?_)
  · replace h := h.1 c
    refine Ev_aload_n 2 dX12_comes_61 rfl rfl ?_
    refine Ev_getR (i := 1) cl_X12 yM_0 (Nat.le_of_ble_eq_true rfl) rfl wd_1445 dX12_comes_62 ?_
    refine Ev_bipushC dX12_comes_65 rfl ?_
    refine Ev_iload_n 3 dX12_comes_67 rfl rfl ?_
    refine Ev_iadd dX12_comes_68 ?_
    refine Ev_aload_n 2 dX12_comes_69 rfl rfl ?_
    refine Ev_get (i := 5) cl_X12 yM_0 (Nat.le_of_ble_eq_true rfl) rfl wd_1449 dX12_comes_70 ?_
    refine Ev_if_ne (tgt := 92) dX12_comes_73 rfl (fun c => ?_) (fun c => ?_)
    · replace h := h.1 c
      refine Ev_iconst dX12_comes_92 rfl (ev_Rc rfl) ?_
      refine Ev_goto (tgt := 97) dX12_comes_93 rfl ?_
      obtain ⟨h0, h⟩ := h
      refine Ev_iast yM_1 h0 dX12_comes_97 (Ev_nm (fun s7 es7 => ?_))
      replace h := h s7 es7
      exact Ev_vret rfl dX12_comes_98 h
    · replace h := h.2 c
      refine Ev_iload_n 0 dX12_comes_76 rfl rfl ?_
      refine Ev_bipushC dX12_comes_77 rfl ?_
      refine Ev_icmp_eq (tgt := 92) dX12_comes_79 rfl (fun c => ?_) (fun c => ?_)
      · replace h := h.1 c
        refine Ev_iconst dX12_comes_92 rfl (ev_Rc rfl) ?_
        refine Ev_goto (tgt := 97) dX12_comes_93 rfl ?_
        obtain ⟨h0, h⟩ := h
        refine Ev_iast yM_1 h0 dX12_comes_97 (Ev_nm (fun s8 es8 => ?_))
        replace h := h s8 es8
        exact Ev_vret rfl dX12_comes_98 h
      · replace h := h.2 c
        refine Ev_aload_n 2 dX12_comes_82 rfl rfl ?_
        refine Ev_bipushC dX12_comes_83 rfl ?_
        refine Ev_callV (As := [ev_i 100]) (b := 0) (st := [ev_i (ev_add 57 a1), ev_r 1]) (M' := M_X12_draw) cm_X12_draw wd_1970 wd_1972 wd_141 yM_0 cl_X12 rfl dX12_comes_85 (Nat.le_refl _) rfl (Nat.le_of_ble_eq_true rfl) (Nat.le_of_ble_eq_true rfl) h (fun v u h hk => ?_)
        obtain ⟨r10, rfl⟩ := hk
        obtain ⟨s9, rfl⟩ : ∃ x, x = u := ⟨_, rfl⟩
        replace h := h r10 rfl
        refine Ev_iload_n 0 dX12_comes_88 rfl rfl ?_
        refine Ev_icmp_ge (tgt := 96) dX12_comes_89 rfl (fun c => ?_) (fun c => ?_)
        · replace h := h.1 c
          refine Ev_iconst dX12_comes_96 rfl (ev_Rc rfl) ?_
          obtain ⟨h0, h⟩ := h
          refine Ev_iast yM_1 h0 dX12_comes_97 (Ev_nm (fun s11 es11 => ?_))
          replace h := h s11 es11
          exact Ev_vret rfl dX12_comes_98 h
        · replace h := h.2 c
          refine Ev_iconst dX12_comes_92 rfl (ev_Rc rfl) ?_
          refine Ev_goto (tgt := 97) dX12_comes_93 rfl ?_
          obtain ⟨h0, h⟩ := h
          refine Ev_iast yM_1 h0 dX12_comes_97 (Ev_nm (fun s12 es12 => ?_))
          replace h := h s12 es12
          exact Ev_vret rfl dX12_comes_98 h
  · replace h := h.2 c
    refine Ev_aload_n 2 dX12_comes_48 rfl rfl ?_
    refine Ev_getR (i := 1) cl_X12 yM_0 (Nat.le_of_ble_eq_true rfl) rfl wd_1445 dX12_comes_49 ?_
    refine Ev_bipushC dX12_comes_52 rfl ?_
    refine Ev_iload_n 3 dX12_comes_54 rfl rfl ?_
    refine Ev_iadd dX12_comes_55 ?_
    refine Ev_iconst dX12_comes_56 rfl (ev_Rc rfl) ?_
    obtain ⟨h0, h⟩ := h
    refine Ev_iast yM_1 h0 dX12_comes_57 (Ev_nm (fun s13 es13 => ?_))
    replace h := h s13 es13
    refine Ev_goto (tgt := 98) dX12_comes_58 rfl ?_
    exact Ev_vret rfl dX12_comes_98 h
theorem dX12_goesBy_0 : decode cX12_goesBy 0 = .ok (.iconst 0, 1) := by decide +kernel
theorem dX12_goesBy_1 : decode cX12_goesBy 1 = .ok (.istore_n 1, 1) := by decide +kernel
theorem dX12_goesBy_2 : decode cX12_goesBy 2 = .ok (.iconst 0, 1) := by decide +kernel
theorem dX12_goesBy_3 : decode cX12_goesBy 3 = .ok (.istore_n 2, 1) := by decide +kernel
theorem dX12_goesBy_4 : decode cX12_goesBy 4 = .ok (.iload_n 2, 1) := by decide +kernel
theorem dX12_goesBy_5 : decode cX12_goesBy 5 = .ok (.aload_n 0, 1) := by decide +kernel
theorem dX12_goesBy_6 : decode cX12_goesBy 6 = .ok (.getfield 148, 3) := by decide +kernel
theorem dX12_goesBy_9 : decode cX12_goesBy 9 = .ok (.if_icmp .ge 14, 3) := by decide +kernel
theorem dX12_goesBy_12 : decode cX12_goesBy 12 = .ok (.aload_n 0, 1) := by decide +kernel
theorem dX12_goesBy_13 : decode cX12_goesBy 13 = .ok (.iload_n 2, 1) := by decide +kernel
theorem dX12_goesBy_14 : decode cX12_goesBy 14 = .ok (.invokevirtual 408, 3) := by decide +kernel
theorem dX12_goesBy_17 : decode cX12_goesBy 17 = .ok (.iinc 2 1, 3) := by decide +kernel
theorem dX12_goesBy_20 : decode cX12_goesBy 20 = .ok (.goto (-16), 3) := by decide +kernel
theorem dX12_goesBy_23 : decode cX12_goesBy 23 = .ok (.aload_n 0, 1) := by decide +kernel
theorem dX12_goesBy_24 : decode cX12_goesBy 24 = .ok (.invokevirtual 411, 3) := by decide +kernel
theorem dX12_goesBy_27 : decode cX12_goesBy 27 = .ok (.iconst 0, 1) := by decide +kernel
theorem dX12_goesBy_28 : decode cX12_goesBy 28 = .ok (.istore_n 2, 1) := by decide +kernel
theorem dX12_goesBy_29 : decode cX12_goesBy 29 = .ok (.iload_n 2, 1) := by decide +kernel
theorem dX12_goesBy_30 : decode cX12_goesBy 30 = .ok (.aload_n 0, 1) := by decide +kernel
theorem dX12_goesBy_31 : decode cX12_goesBy 31 = .ok (.getfield 165, 3) := by decide +kernel
theorem dX12_goesBy_34 : decode cX12_goesBy 34 = .ok (.if_icmp .ge 29, 3) := by decide +kernel
theorem dX12_goesBy_37 : decode cX12_goesBy 37 = .ok (.aload_n 0, 1) := by decide +kernel
theorem dX12_goesBy_38 : decode cX12_goesBy 38 = .ok (.iload_n 2, 1) := by decide +kernel
theorem dX12_goesBy_39 : decode cX12_goesBy 39 = .ok (.invokevirtual 414, 3) := by decide +kernel
theorem dX12_goesBy_42 : decode cX12_goesBy 42 = .ok (.ifCond .ne 6, 3) := by decide +kernel
theorem dX12_goesBy_45 : decode cX12_goesBy 45 = .ok (.goto 12, 3) := by decide +kernel
theorem dX12_goesBy_48 : decode cX12_goesBy 48 = .ok (.aload_n 0, 1) := by decide +kernel
theorem dX12_goesBy_49 : decode cX12_goesBy 49 = .ok (.iload_n 2, 1) := by decide +kernel
theorem dX12_goesBy_50 : decode cX12_goesBy 50 = .ok (.invokevirtual 417, 3) := by decide +kernel
theorem dX12_goesBy_53 : decode cX12_goesBy 53 = .ok (.iload_n 1, 1) := by decide +kernel
theorem dX12_goesBy_54 : decode cX12_goesBy 54 = .ok (.iconst 1, 1) := by decide +kernel
theorem dX12_goesBy_55 : decode cX12_goesBy 55 = .ok (.iadd, 1) := by decide +kernel
theorem dX12_goesBy_56 : decode cX12_goesBy 56 = .ok (.istore_n 1, 1) := by decide +kernel
theorem dX12_goesBy_57 : decode cX12_goesBy 57 = .ok (.iinc 2 1, 3) := by decide +kernel
theorem dX12_goesBy_60 : decode cX12_goesBy 60 = .ok (.goto (-31), 3) := by decide +kernel
theorem dX12_goesBy_63 : decode cX12_goesBy 63 = .ok (.aload_n 0, 1) := by decide +kernel
theorem dX12_goesBy_64 : decode cX12_goesBy 64 = .ok (.getfield 7, 3) := by decide +kernel
theorem dX12_goesBy_67 : decode cX12_goesBy 67 = .ok (.iconst 0, 1) := by decide +kernel
theorem dX12_goesBy_68 : decode cX12_goesBy 68 = .ok (.aload_n 0, 1) := by decide +kernel
theorem dX12_goesBy_69 : decode cX12_goesBy 69 = .ok (.getfield 7, 3) := by decide +kernel
theorem dX12_goesBy_72 : decode cX12_goesBy 72 = .ok (.iconst 0, 1) := by decide +kernel
theorem dX12_goesBy_73 : decode cX12_goesBy 73 = .ok (.iaload, 1) := by decide +kernel
theorem dX12_goesBy_74 : decode cX12_goesBy 74 = .ok (.iconst 1, 1) := by decide +kernel
theorem dX12_goesBy_75 : decode cX12_goesBy 75 = .ok (.iadd, 1) := by decide +kernel
theorem dX12_goesBy_76 : decode cX12_goesBy 76 = .ok (.iastore, 1) := by decide +kernel
theorem dX12_goesBy_77 : decode cX12_goesBy 77 = .ok (.iload_n 1, 1) := by decide +kernel
theorem dX12_goesBy_78 : decode cX12_goesBy 78 = .ok (.ireturn, 1) := by decide +kernel
theorem wp_X12_goesBy_0 {d : Nat} {s : ev_S} {Q : Option ev_V → ev_S → Prop}
    (h : Ev layM M_X12_goesBy (d + 1) 4 [(0, ev_r 0), (1, ev_i 0), (2, ev_i 0)] [] s Q) :
    Ev layM M_X12_goesBy (d + 1) 0 [(0, ev_r 0)] [] s Q := by
  refine Ev_iconst dX12_goesBy_0 rfl (ev_Rc rfl) ?_
  refine Ev_istore_n (l' := [(1, ev_i 0), (0, ev_r 0)]) dX12_goesBy_1 rfl (Nat.le_of_ble_eq_true rfl) rfl ?_
  refine Ev_iconst dX12_goesBy_2 rfl (ev_Rc rfl) ?_
  refine Ev_istore_n (l' := [(2, ev_i 0), (1, ev_i 0), (0, ev_r 0)]) dX12_goesBy_3 rfl (Nat.le_of_ble_eq_true rfl) rfl ?_
  exact Ev_sub [2, 1, 0] rfl h
theorem wp_X12_goesBy_4 {d : Nat} {s : ev_S} {Q : Option ev_V → ev_S → Prop} {a1 a2 : Int}
    (h : (((s 0 11) ≤ a2 → (Ev layM M_X12_wardsGoOn d 0 [(0, ev_r 0)] [] s (fun _ s1 => Ev layM M_X12_goesBy (d + 1) 29 [(0, ev_r 0), (1, ev_i a1), (2, ev_i 0)] [] s1 Q))) ∧ (a2 < (s 0 11) → (Ev layM M_X12_angelGoesOn d 0 [(0, ev_r 0), (1, ev_i a2)] [] s (fun _ s2 => Ev layM M_X12_goesBy (d + 1) 4 [(0, ev_r 0), (1, ev_i a1), (2, ev_i (ev_add a2 1))] [] s2 Q))))) :
    Ev layM M_X12_goesBy (d + 1) 4 [(0, ev_r 0), (1, ev_i a1), (2, ev_i a2)] [] s Q := by
  refine Ev_iload_n 2 dX12_goesBy_4 rfl rfl ?_
  refine Ev_aload_n 0 dX12_goesBy_5 rfl rfl ?_
  refine Ev_get (i := 11) cl_X12 yM_0 (Nat.le_of_ble_eq_true rfl) rfl wd_1455 dX12_goesBy_6 ?_
  refine Ev_icmp_ge (tgt := 23) dX12_goesBy_9 rfl (fun c => ?_) (fun c => ?_)
  · replace h := h.1 c
    refine Ev_aload_n 0 dX12_goesBy_23 rfl rfl ?_
    refine Ev_callV (As := []) (b := 0) (st := []) (M' := M_X12_wardsGoOn) cm_X12_wardsGoOn wd_1938 wd_1940 wd_133 yM_0 cl_X12 rfl dX12_goesBy_24 (Nat.le_refl _) rfl (Nat.le_of_ble_eq_true rfl) (Nat.le_of_ble_eq_true rfl) h (fun v u h hk => ?_)
    cases hk
    obtain ⟨s1, rfl⟩ : ∃ x, x = u := ⟨_, rfl⟩
    refine Ev_iconst dX12_goesBy_27 rfl (ev_Rc rfl) ?_
    refine Ev_istore_n (l' := [(2, ev_i 0), (0, ev_r 0), (1, ev_i a1)]) dX12_goesBy_28 rfl (Nat.le_of_ble_eq_true rfl) rfl ?_
    exact Ev_sub [1, 2, 0] rfl h
  · replace h := h.2 c
    refine Ev_aload_n 0 dX12_goesBy_12 rfl rfl ?_
    refine Ev_iload_n 2 dX12_goesBy_13 rfl rfl ?_
    refine Ev_callV (As := [ev_i a2]) (b := 0) (st := []) (M' := M_X12_angelGoesOn) cm_X12_angelGoesOn wd_1890 wd_1892 wd_121 yM_0 cl_X12 rfl dX12_goesBy_14 (Nat.le_refl _) rfl (Nat.le_of_ble_eq_true rfl) (Nat.le_of_ble_eq_true rfl) h (fun v u h hk => ?_)
    cases hk
    obtain ⟨s2, rfl⟩ : ∃ x, x = u := ⟨_, rfl⟩
    refine Ev_iinc (j := 2) (l' := [(2, ev_i (ev_add a2 1)), (0, ev_r 0), (1, ev_i a1)]) dX12_goesBy_17 rfl (Nat.le_of_ble_eq_true rfl) rfl ?_
    refine Ev_goto (tgt := 4) dX12_goesBy_20 rfl ?_
    exact Ev_sub [1, 2, 0] rfl h
theorem wp_X12_goesBy_29 {d : Nat} {s : ev_S} {Q : Option ev_V → ev_S → Prop} {a1 a2 : Int}
    (h : (((s 0 46) ≤ a2 → (∀ s1, ev_up s 1 0 (ev_add (s 1 0) 1) = s1 → Q (some (ev_i a1)) s1)) ∧ (a2 < (s 0 46) → (Ev layM M_X12_doesCome d 0 [(0, ev_r 0), (1, ev_i a2)] [] s (ev_pi (fun r3 s2 => ((r3 ≠ 0 → (Ev layM M_X12_comes d 0 [(0, ev_r 0), (1, ev_i a2)] [] s2 (fun _ s4 => Ev layM M_X12_goesBy (d + 1) 29 [(0, ev_r 0), (1, ev_i (ev_add a1 1)), (2, ev_i (ev_add a2 1))] [] s4 Q))) ∧ (r3 = 0 → Ev layM M_X12_goesBy (d + 1) 29 [(0, ev_r 0), (1, ev_i a1), (2, ev_i (ev_add a2 1))] [] s2 Q)))))))) :
    Ev layM M_X12_goesBy (d + 1) 29 [(0, ev_r 0), (1, ev_i a1), (2, ev_i a2)] [] s Q := by
  refine Ev_iload_n 2 dX12_goesBy_29 rfl rfl ?_
  refine Ev_aload_n 0 dX12_goesBy_30 rfl rfl ?_
  refine Ev_get (i := 46) cl_X12 yM_0 (Nat.le_of_ble_eq_true rfl) rfl wd_1490 dX12_goesBy_31 ?_
  refine Ev_icmp_ge (tgt := 63) dX12_goesBy_34 rfl (fun c => ?_) (fun c => ?_)
  · replace h := h.1 c
    refine Ev_aload_n 0 dX12_goesBy_63 rfl rfl ?_
    refine Ev_getR (i := 1) cl_X12 yM_0 (Nat.le_of_ble_eq_true rfl) rfl wd_1445 dX12_goesBy_64 ?_
    refine Ev_iconst dX12_goesBy_67 rfl (ev_Rc rfl) ?_
    refine Ev_aload_n 0 dX12_goesBy_68 rfl rfl ?_
    refine Ev_getR (i := 1) cl_X12 yM_0 (Nat.le_of_ble_eq_true rfl) rfl wd_1445 dX12_goesBy_69 ?_
    refine Ev_iconst dX12_goesBy_72 rfl (ev_Rc rfl) ?_
    refine Ev_iald yM_1 (by decide) dX12_goesBy_73 ?_
    refine Ev_iconst dX12_goesBy_74 rfl (ev_Rc rfl) ?_
    refine Ev_iadd dX12_goesBy_75 ?_
    refine Ev_iast yM_1 (by decide) dX12_goesBy_76 (Ev_nm (fun s1 es1 => ?_))
    replace h := h s1 es1
    refine Ev_iload_n 1 dX12_goesBy_77 rfl rfl ?_
    exact Ev_iret rfl dX12_goesBy_78 rfl h
  · replace h := h.2 c
    refine Ev_aload_n 0 dX12_goesBy_37 rfl rfl ?_
    refine Ev_iload_n 2 dX12_goesBy_38 rfl rfl ?_
    refine Ev_callV (As := [ev_i a2]) (b := 0) (st := []) (M' := M_X12_doesCome) cm_X12_doesCome wd_1950 wd_1952 wd_136 yM_0 cl_X12 rfl dX12_goesBy_39 (Nat.le_refl _) rfl (Nat.le_of_ble_eq_true rfl) (Nat.le_of_ble_eq_true rfl) h (fun v u h hk => ?_)
    obtain ⟨r3, rfl⟩ := hk
    obtain ⟨s2, rfl⟩ : ∃ x, x = u := ⟨_, rfl⟩
    replace h := h r3 rfl
    refine Ev_if_ne (tgt := 48) dX12_goesBy_42 rfl (fun c => ?_) (fun c => ?_)
    · replace h := h.1 c
      refine Ev_aload_n 0 dX12_goesBy_48 rfl rfl ?_
      refine Ev_iload_n 2 dX12_goesBy_49 rfl rfl ?_
      refine Ev_callV (As := [ev_i a2]) (b := 0) (st := []) (M' := M_X12_comes) cm_X12_comes wd_1958 wd_1960 wd_138 yM_0 cl_X12 rfl dX12_goesBy_50 (Nat.le_refl _) rfl (Nat.le_of_ble_eq_true rfl) (Nat.le_of_ble_eq_true rfl) h (fun v u h hk => ?_)
      cases hk
      obtain ⟨s4, rfl⟩ : ∃ x, x = u := ⟨_, rfl⟩
      refine Ev_iload_n 1 dX12_goesBy_53 rfl rfl ?_
      refine Ev_iconst dX12_goesBy_54 rfl (ev_Rc rfl) ?_
      refine Ev_iadd dX12_goesBy_55 ?_
      refine Ev_istore_n (l' := [(1, ev_i (ev_add a1 1)), (0, ev_r 0), (2, ev_i a2)]) dX12_goesBy_56 rfl (Nat.le_of_ble_eq_true rfl) rfl ?_
      refine Ev_iinc (j := 2) (l' := [(2, ev_i (ev_add a2 1)), (1, ev_i (ev_add a1 1)), (0, ev_r 0)]) dX12_goesBy_57 rfl (Nat.le_of_ble_eq_true rfl) rfl ?_
      refine Ev_goto (tgt := 29) dX12_goesBy_60 rfl ?_
      exact Ev_sub [2, 1, 0] rfl h
    · replace h := h.2 c
      refine Ev_goto (tgt := 57) dX12_goesBy_45 rfl ?_
      refine Ev_iinc (j := 2) (l' := [(2, ev_i (ev_add a2 1)), (0, ev_r 0), (1, ev_i a1)]) dX12_goesBy_57 rfl (Nat.le_of_ble_eq_true rfl) rfl ?_
      refine Ev_goto (tgt := 29) dX12_goesBy_60 rfl ?_
      exact Ev_sub [1, 2, 0] rfl h
