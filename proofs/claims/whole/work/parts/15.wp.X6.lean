theorem dX6_take_0 : decode cX6_take 0 = .ok (.aload_n 0, 1) := by decide +kernel
theorem dX6_take_1 : decode cX6_take 1 = .ok (.getfield 10, 3) := by decide +kernel
theorem dX6_take_4 : decode cX6_take 4 = .ok (.aload_n 1, 1) := by decide +kernel
theorem dX6_take_5 : decode cX6_take 5 = .ok (.invokevirtual 30, 3) := by decide +kernel
theorem dX6_take_8 : decode cX6_take 8 = .ok (.aload_n 0, 1) := by decide +kernel
theorem dX6_take_9 : decode cX6_take 9 = .ok (.getfield 19, 3) := by decide +kernel
theorem dX6_take_12 : decode cX6_take 12 = .ok (.aload_n 2, 1) := by decide +kernel
theorem dX6_take_13 : decode cX6_take 13 = .ok (.invokevirtual 34, 3) := by decide +kernel
theorem dX6_take_16 : decode cX6_take 16 = .ok (.aload_n 0, 1) := by decide +kernel
theorem dX6_take_17 : decode cX6_take 17 = .ok (.getfield 26, 3) := by decide +kernel
theorem dX6_take_20 : decode cX6_take 20 = .ok (.aload_n 3, 1) := by decide +kernel
theorem dX6_take_21 : decode cX6_take 21 = .ok (.invokevirtual 37, 3) := by decide +kernel
theorem dX6_take_24 : decode cX6_take 24 = .ok (.aload_n 0, 1) := by decide +kernel
theorem dX6_take_25 : decode cX6_take 25 = .ok (.iconst 1, 1) := by decide +kernel
theorem dX6_take_26 : decode cX6_take 26 = .ok (.putfield 40, 3) := by decide +kernel
theorem dX6_take_29 : decode cX6_take 29 = .ok (.return_, 1) := by decide +kernel
theorem wp_X6_take_0 {d : Nat} {k1 : Nat} (hk1 : is_X10 k1) {k2 : Nat} (hk2 : is_X2 k2) {k3 : Nat} (hk3 : is_X0 k3) {s : ev_S} {Q : Option ev_V → ev_S → Prop}
    (h : (Ev layX M_X10_copyFrom d 0 [(0, ev_r 104), (1, ev_r k1)] [] s (fun _ s1 => (Ev layX M_X2_copyFrom d 0 [(0, ev_r 118), (1, ev_r k2)] [] s1 (fun _ s2 => (Ev layX M_X0_copyFrom d 0 [(0, ev_r 130), (1, ev_r k3)] [] s2 (fun _ s3 => (∀ s4, ev_up s3 103 3 1 = s4 → Q none s4)))))))) :
    Ev layX M_X6_take (d + 1) 0 [(0, ev_r 103), (1, ev_r k1), (2, ev_r k2), (3, ev_r k3)] [] s Q := by
  refine Ev_aload_n 0 dX6_take_0 rfl rfl ?_
  refine Ev_getR (i := 0) cl_X6 yX_103 (Nat.le_of_ble_eq_true rfl) rfl wd_456 dX6_take_1 ?_
  refine Ev_aload_n 1 dX6_take_4 rfl rfl ?_
  refine Ev_callV (As := [ev_r k1]) (b := 104) (st := []) (M' := M_X10_copyFrom) cm_X10_copyFrom wd_1409 wd_1410 wd_1411 yX_104 cl_X10 rfl dX6_take_5 (Nat.le_refl _) rfl (Nat.le_of_ble_eq_true rfl) (Nat.le_of_ble_eq_true rfl) h (fun v u h hk => ?_)
  cases hk
  obtain ⟨s1, rfl⟩ : ∃ x, x = u := ⟨_, rfl⟩
  refine Ev_aload_n 0 dX6_take_8 rfl rfl ?_
  refine Ev_getR (i := 1) cl_X6 yX_103 (Nat.le_of_ble_eq_true rfl) rfl wd_457 dX6_take_9 ?_
  refine Ev_aload_n 2 dX6_take_12 rfl rfl ?_
  refine Ev_callV (As := [ev_r k2]) (b := 118) (st := []) (M' := M_X2_copyFrom) cm_X2_copyFrom wd_1415 wd_1059 wd_1060 yX_118 cl_X2 rfl dX6_take_13 (Nat.le_refl _) rfl (Nat.le_of_ble_eq_true rfl) (Nat.le_of_ble_eq_true rfl) h (fun v u h hk => ?_)
  cases hk
  obtain ⟨s2, rfl⟩ : ∃ x, x = u := ⟨_, rfl⟩
  refine Ev_aload_n 0 dX6_take_16 rfl rfl ?_
  refine Ev_getR (i := 2) cl_X6 yX_103 (Nat.le_of_ble_eq_true rfl) rfl wd_458 dX6_take_17 ?_
  refine Ev_aload_n 3 dX6_take_20 rfl rfl ?_
  refine Ev_callV (As := [ev_r k3]) (b := 130) (st := []) (M' := M_X0_copyFrom) cm_X0_copyFrom wd_1416 wd_1417 wd_1418 yX_130 cl_X0 rfl dX6_take_21 (Nat.le_refl _) rfl (Nat.le_of_ble_eq_true rfl) (Nat.le_of_ble_eq_true rfl) h (fun v u h hk => ?_)
  cases hk
  obtain ⟨s3, rfl⟩ : ∃ x, x = u := ⟨_, rfl⟩
  refine Ev_aload_n 0 dX6_take_24 rfl rfl ?_
  refine Ev_iconst dX6_take_25 rfl (ev_Rc rfl) ?_
  refine Ev_put (i := 3) (ty := .boolean) cl_X6 yX_103 (Nat.le_of_ble_eq_true rfl) rfl rfl (by decide +kernel) (ev_nb (by decide)) (ev_fb (by decide)) wd_459 dX6_take_26 (Ev_nm (fun s4 es4 => ?_))
  replace h := h s4 es4
  exact Ev_vret rfl dX6_take_29 h
theorem dX6_giveBack_0 : decode cX6_giveBack 0 = .ok (.aload_n 1, 1) := by decide +kernel
theorem dX6_giveBack_1 : decode cX6_giveBack 1 = .ok (.aload_n 0, 1) := by decide +kernel
theorem dX6_giveBack_2 : decode cX6_giveBack 2 = .ok (.getfield 10, 3) := by decide +kernel
theorem dX6_giveBack_5 : decode cX6_giveBack 5 = .ok (.invokevirtual 30, 3) := by decide +kernel
theorem dX6_giveBack_8 : decode cX6_giveBack 8 = .ok (.aload_n 2, 1) := by decide +kernel
theorem dX6_giveBack_9 : decode cX6_giveBack 9 = .ok (.aload_n 0, 1) := by decide +kernel
theorem dX6_giveBack_10 : decode cX6_giveBack 10 = .ok (.getfield 19, 3) := by decide +kernel
theorem dX6_giveBack_13 : decode cX6_giveBack 13 = .ok (.invokevirtual 34, 3) := by decide +kernel
theorem dX6_giveBack_16 : decode cX6_giveBack 16 = .ok (.aload_n 3, 1) := by decide +kernel
theorem dX6_giveBack_17 : decode cX6_giveBack 17 = .ok (.aload_n 0, 1) := by decide +kernel
theorem dX6_giveBack_18 : decode cX6_giveBack 18 = .ok (.getfield 26, 3) := by decide +kernel
theorem dX6_giveBack_21 : decode cX6_giveBack 21 = .ok (.invokevirtual 37, 3) := by decide +kernel
theorem dX6_giveBack_24 : decode cX6_giveBack 24 = .ok (.return_, 1) := by decide +kernel
theorem wp_X6_giveBack_0 {d : Nat} {k1 : Nat} (hk1 : is_X10 k1) {k2 : Nat} (hk2 : is_X2 k2) {k3 : Nat} (hk3 : is_X0 k3) {s : ev_S} {Q : Option ev_V → ev_S → Prop}
    (h : (Ev layX M_X10_copyFrom d 0 [(0, ev_r k1), (1, ev_r 104)] [] s (fun _ s1 => (Ev layX M_X2_copyFrom d 0 [(0, ev_r k2), (1, ev_r 118)] [] s1 (fun _ s2 => (Ev layX M_X0_copyFrom d 0 [(0, ev_r k3), (1, ev_r 130)] [] s2 (fun _ s3 => Q none s3))))))) :
    Ev layX M_X6_giveBack (d + 1) 0 [(0, ev_r 103), (1, ev_r k1), (2, ev_r k2), (3, ev_r k3)] [] s Q := by
  refine Ev_aload_n 1 dX6_giveBack_0 rfl rfl ?_
  refine Ev_aload_n 0 dX6_giveBack_1 rfl rfl ?_
  refine Ev_getR (i := 0) cl_X6 yX_103 (Nat.le_of_ble_eq_true rfl) rfl wd_456 dX6_giveBack_2 ?_
  refine Ev_callV (As := [ev_r 104]) (b := k1) (st := []) (M' := M_X10_copyFrom) cm_X10_copyFrom wd_1409 wd_1410 wd_1411 hk1.1 cl_X10 rfl dX6_giveBack_5 (Nat.le_refl _) rfl (Nat.le_of_ble_eq_true rfl) (Nat.le_of_ble_eq_true rfl) h (fun v u h hk => ?_)
  cases hk
  obtain ⟨s1, rfl⟩ : ∃ x, x = u := ⟨_, rfl⟩
  refine Ev_aload_n 2 dX6_giveBack_8 rfl rfl ?_
  refine Ev_aload_n 0 dX6_giveBack_9 rfl rfl ?_
  refine Ev_getR (i := 1) cl_X6 yX_103 (Nat.le_of_ble_eq_true rfl) rfl wd_457 dX6_giveBack_10 ?_
  refine Ev_callV (As := [ev_r 118]) (b := k2) (st := []) (M' := M_X2_copyFrom) cm_X2_copyFrom wd_1415 wd_1059 wd_1060 hk2.1 cl_X2 rfl dX6_giveBack_13 (Nat.le_refl _) rfl (Nat.le_of_ble_eq_true rfl) (Nat.le_of_ble_eq_true rfl) h (fun v u h hk => ?_)
  cases hk
  obtain ⟨s2, rfl⟩ : ∃ x, x = u := ⟨_, rfl⟩
  refine Ev_aload_n 3 dX6_giveBack_16 rfl rfl ?_
  refine Ev_aload_n 0 dX6_giveBack_17 rfl rfl ?_
  refine Ev_getR (i := 2) cl_X6 yX_103 (Nat.le_of_ble_eq_true rfl) rfl wd_458 dX6_giveBack_18 ?_
  refine Ev_callV (As := [ev_r 130]) (b := k3) (st := []) (M' := M_X0_copyFrom) cm_X0_copyFrom wd_1416 wd_1417 wd_1418 hk3.1 cl_X0 rfl dX6_giveBack_21 (Nat.le_refl _) rfl (Nat.le_of_ble_eq_true rfl) (Nat.le_of_ble_eq_true rfl) h (fun v u h hk => ?_)
  cases hk
  obtain ⟨s3, rfl⟩ : ∃ x, x = u := ⟨_, rfl⟩
  exact Ev_vret rfl dX6_giveBack_24 h
