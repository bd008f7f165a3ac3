theorem dX2_clear_0 : decode cX2_clear 0 = .ok (.aload_n 0, 1) := by decide +kernel
theorem dX2_clear_1 : decode cX2_clear 1 = .ok (.iconst 0, 1) := by decide +kernel
theorem dX2_clear_2 : decode cX2_clear 2 = .ok (.putfield 45, 3) := by decide +kernel
theorem dX2_clear_5 : decode cX2_clear 5 = .ok (.aload_n 0, 1) := by decide +kernel
theorem dX2_clear_6 : decode cX2_clear 6 = .ok (.iconst 0, 1) := by decide +kernel
theorem dX2_clear_7 : decode cX2_clear 7 = .ok (.putfield 49, 3) := by decide +kernel
theorem dX2_clear_10 : decode cX2_clear 10 = .ok (.aload_n 0, 1) := by decide +kernel
theorem dX2_clear_11 : decode cX2_clear 11 = .ok (.getfield 9, 3) := by decide +kernel
theorem dX2_clear_14 : decode cX2_clear 14 = .ok (.iconst 0, 1) := by decide +kernel
theorem dX2_clear_15 : decode cX2_clear 15 = .ok (.invokestatic 52, 3) := by decide +kernel
theorem dX2_clear_18 : decode cX2_clear 18 = .ok (.aload_n 0, 1) := by decide +kernel
theorem dX2_clear_19 : decode cX2_clear 19 = .ok (.getfield 15, 3) := by decide +kernel
theorem dX2_clear_22 : decode cX2_clear 22 = .ok (.iconst 0, 1) := by decide +kernel
theorem dX2_clear_23 : decode cX2_clear 23 = .ok (.invokestatic 52, 3) := by decide +kernel
theorem dX2_clear_26 : decode cX2_clear 26 = .ok (.aload_n 0, 1) := by decide +kernel
theorem dX2_clear_27 : decode cX2_clear 27 = .ok (.getfield 18, 3) := by decide +kernel
theorem dX2_clear_30 : decode cX2_clear 30 = .ok (.iconst 0, 1) := by decide +kernel
theorem dX2_clear_31 : decode cX2_clear 31 = .ok (.invokestatic 52, 3) := by decide +kernel
theorem dX2_clear_34 : decode cX2_clear 34 = .ok (.aload_n 0, 1) := by decide +kernel
theorem dX2_clear_35 : decode cX2_clear 35 = .ok (.getfield 21, 3) := by decide +kernel
theorem dX2_clear_38 : decode cX2_clear 38 = .ok (.iconst 0, 1) := by decide +kernel
theorem dX2_clear_39 : decode cX2_clear 39 = .ok (.invokestatic 52, 3) := by decide +kernel
theorem dX2_clear_42 : decode cX2_clear 42 = .ok (.aload_n 0, 1) := by decide +kernel
theorem dX2_clear_43 : decode cX2_clear 43 = .ok (.getfield 24, 3) := by decide +kernel
theorem dX2_clear_46 : decode cX2_clear 46 = .ok (.iconst 0, 1) := by decide +kernel
theorem dX2_clear_47 : decode cX2_clear 47 = .ok (.invokestatic 52, 3) := by decide +kernel
theorem dX2_clear_50 : decode cX2_clear 50 = .ok (.aload_n 0, 1) := by decide +kernel
theorem dX2_clear_51 : decode cX2_clear 51 = .ok (.getfield 27, 3) := by decide +kernel
theorem dX2_clear_54 : decode cX2_clear 54 = .ok (.iconst (-1), 1) := by decide +kernel
theorem dX2_clear_55 : decode cX2_clear 55 = .ok (.invokestatic 52, 3) := by decide +kernel
theorem dX2_clear_58 : decode cX2_clear 58 = .ok (.aload_n 0, 1) := by decide +kernel
theorem dX2_clear_59 : decode cX2_clear 59 = .ok (.getfield 30, 3) := by decide +kernel
theorem dX2_clear_62 : decode cX2_clear 62 = .ok (.iconst 0, 1) := by decide +kernel
theorem dX2_clear_63 : decode cX2_clear 63 = .ok (.invokestatic 52, 3) := by decide +kernel
theorem dX2_clear_66 : decode cX2_clear 66 = .ok (.aload_n 0, 1) := by decide +kernel
theorem dX2_clear_67 : decode cX2_clear 67 = .ok (.getfield 33, 3) := by decide +kernel
theorem dX2_clear_70 : decode cX2_clear 70 = .ok (.iconst 0, 1) := by decide +kernel
theorem dX2_clear_71 : decode cX2_clear 71 = .ok (.invokestatic 52, 3) := by decide +kernel
theorem dX2_clear_74 : decode cX2_clear 74 = .ok (.aload_n 0, 1) := by decide +kernel
theorem dX2_clear_75 : decode cX2_clear 75 = .ok (.invokevirtual 58, 3) := by decide +kernel
theorem dX2_clear_78 : decode cX2_clear 78 = .ok (.aload_n 0, 1) := by decide +kernel
theorem dX2_clear_79 : decode cX2_clear 79 = .ok (.iconst 0, 1) := by decide +kernel
theorem dX2_clear_80 : decode cX2_clear 80 = .ok (.putfield 61, 3) := by decide +kernel
theorem dX2_clear_83 : decode cX2_clear 83 = .ok (.return_, 1) := by decide +kernel
theorem wp_X2_clear_0 {d : Nat} {k : Nat} (hk : is_X2 k) {s : ev_S} {Q : Option ev_V → ev_S → Prop}
    (h : (∀ s1, ev_up s k 0 0 = s1 → (∀ s2, ev_up s1 k 1 0 = s2 → (Ev layX M_J7_fill_53178 d 0 [(0, ev_r (k + 1)), (1, ev_i 0)] [] s2 (fun _ s3 => (Ev layX M_J7_fill_53178 d 0 [(0, ev_r (k + 2)), (1, ev_i 0)] [] s3 (fun _ s4 => (Ev layX M_J7_fill_53178 d 0 [(0, ev_r (k + 3)), (1, ev_i 0)] [] s4 (fun _ s5 => (Ev layX M_J7_fill_53178 d 0 [(0, ev_r (k + 4)), (1, ev_i 0)] [] s5 (fun _ s6 => (Ev layX M_J7_fill_53178 d 0 [(0, ev_r (k + 5)), (1, ev_i 0)] [] s6 (fun _ s7 => (Ev layX M_J7_fill_53178 d 0 [(0, ev_r (k + 6)), (1, ev_i (-1))] [] s7 (fun _ s8 => (Ev layX M_J7_fill_53178 d 0 [(0, ev_r (k + 7)), (1, ev_i 0)] [] s8 (fun _ s9 => (Ev layX M_J7_fill_53178 d 0 [(0, ev_r (k + 8)), (1, ev_i 0)] [] s9 (fun _ s10 => (Ev layX M_X2_clearMishaps d 0 [(0, ev_r k)] [] s10 (fun _ s11 => (∀ s12, ev_up s11 k 13 0 = s12 → Q none s12)))))))))))))))))))))) :
    Ev layX M_X2_clear (d + 1) 0 [(0, ev_r k)] [] s Q := by
  refine Ev_aload_n 0 dX2_clear_0 rfl rfl ?_
  refine Ev_iconst dX2_clear_1 rfl (ev_Rc rfl) ?_
  refine Ev_put (i := 0) (ty := .int) cl_X2 hk.1 (Nat.le_of_ble_eq_true rfl) rfl rfl (by decide +kernel) rfl rfl wd_337 dX2_clear_2 (Ev_nm (fun s1 es1 => ?_))
  replace h := h s1 es1
  refine Ev_aload_n 0 dX2_clear_5 rfl rfl ?_
  refine Ev_iconst dX2_clear_6 rfl (ev_Rc rfl) ?_
  refine Ev_put (i := 1) (ty := .int) cl_X2 hk.1 (Nat.le_of_ble_eq_true rfl) rfl rfl (by decide +kernel) rfl rfl wd_343 dX2_clear_7 (Ev_nm (fun s2 es2 => ?_))
  replace h := h s2 es2
  refine Ev_aload_n 0 dX2_clear_10 rfl rfl ?_
  refine Ev_getR (i := 2) cl_X2 hk.1 (Nat.le_of_ble_eq_true rfl) rfl wd_344 dX2_clear_11 ?_
  refine Ev_iconst dX2_clear_14 rfl (ev_Rc rfl) ?_
  refine Ev_callS (As := [ev_r (k + 1), ev_i 0]) (st := []) (M' := M_J7_fill_53178) cm_J7_fill_53178 wd_695 wd_685 dX2_clear_15 (Nat.le_refl _) rfl (Nat.le_of_ble_eq_true rfl) (Nat.le_of_ble_eq_true rfl) h (fun v u h hk => ?_)
  cases hk
  obtain ⟨s3, rfl⟩ : ∃ x, x = u := ⟨_, rfl⟩
  refine Ev_aload_n 0 dX2_clear_18 rfl rfl ?_
  refine Ev_getR (i := 3) cl_X2 hk.1 (Nat.le_of_ble_eq_true rfl) rfl wd_348 dX2_clear_19 ?_
  refine Ev_iconst dX2_clear_22 rfl (ev_Rc rfl) ?_
  refine Ev_callS (As := [ev_r (k + 2), ev_i 0]) (st := []) (M' := M_J7_fill_53178) cm_J7_fill_53178 wd_695 wd_685 dX2_clear_23 (Nat.le_refl _) rfl (Nat.le_of_ble_eq_true rfl) (Nat.le_of_ble_eq_true rfl) h (fun v u h hk => ?_)
  cases hk
  obtain ⟨s4, rfl⟩ : ∃ x, x = u := ⟨_, rfl⟩
  refine Ev_aload_n 0 dX2_clear_26 rfl rfl ?_
  refine Ev_getR (i := 4) cl_X2 hk.1 (Nat.le_of_ble_eq_true rfl) rfl wd_351 dX2_clear_27 ?_
  refine Ev_iconst dX2_clear_30 rfl (ev_Rc rfl) ?_
  refine Ev_callS (As := [ev_r (k + 3), ev_i 0]) (st := []) (M' := M_J7_fill_53178) cm_J7_fill_53178 wd_695 wd_685 dX2_clear_31 (Nat.le_refl _) rfl (Nat.le_of_ble_eq_true rfl) (Nat.le_of_ble_eq_true rfl) h (fun v u h hk => ?_)
  cases hk
  obtain ⟨s5, rfl⟩ : ∃ x, x = u := ⟨_, rfl⟩
  refine Ev_aload_n 0 dX2_clear_34 rfl rfl ?_
  refine Ev_getR (i := 5) cl_X2 hk.1 (Nat.le_of_ble_eq_true rfl) rfl wd_354 dX2_clear_35 ?_
  refine Ev_iconst dX2_clear_38 rfl (ev_Rc rfl) ?_
  refine Ev_callS (As := [ev_r (k + 4), ev_i 0]) (st := []) (M' := M_J7_fill_53178) cm_J7_fill_53178 wd_695 wd_685 dX2_clear_39 (Nat.le_refl _) rfl (Nat.le_of_ble_eq_true rfl) (Nat.le_of_ble_eq_true rfl) h (fun v u h hk => ?_)
  cases hk
  obtain ⟨s6, rfl⟩ : ∃ x, x = u := ⟨_, rfl⟩
  refine Ev_aload_n 0 dX2_clear_42 rfl rfl ?_
  refine Ev_getR (i := 6) cl_X2 hk.1 (Nat.le_of_ble_eq_true rfl) rfl wd_359 dX2_clear_43 ?_
  refine Ev_iconst dX2_clear_46 rfl (ev_Rc rfl) ?_
  refine Ev_callS (As := [ev_r (k + 5), ev_i 0]) (st := []) (M' := M_J7_fill_53178) cm_J7_fill_53178 wd_695 wd_685 dX2_clear_47 (Nat.le_refl _) rfl (Nat.le_of_ble_eq_true rfl) (Nat.le_of_ble_eq_true rfl) h (fun v u h hk => ?_)
  cases hk
  obtain ⟨s7, rfl⟩ : ∃ x, x = u := ⟨_, rfl⟩
  refine Ev_aload_n 0 dX2_clear_50 rfl rfl ?_
  refine Ev_getR (i := 7) cl_X2 hk.1 (Nat.le_of_ble_eq_true rfl) rfl wd_362 dX2_clear_51 ?_
  refine Ev_iconst dX2_clear_54 rfl (ev_Rc rfl) ?_
  refine Ev_callS (As := [ev_r (k + 6), ev_i (-1)]) (st := []) (M' := M_J7_fill_53178) cm_J7_fill_53178 wd_695 wd_685 dX2_clear_55 (Nat.le_refl _) rfl (Nat.le_of_ble_eq_true rfl) (Nat.le_of_ble_eq_true rfl) h (fun v u h hk => ?_)
  cases hk
  obtain ⟨s8, rfl⟩ : ∃ x, x = u := ⟨_, rfl⟩
  refine Ev_aload_n 0 dX2_clear_58 rfl rfl ?_
  refine Ev_getR (i := 8) cl_X2 hk.1 (Nat.le_of_ble_eq_true rfl) rfl wd_365 dX2_clear_59 ?_
  refine Ev_iconst dX2_clear_62 rfl (ev_Rc rfl) ?_
  refine Ev_callS (As := [ev_r (k + 7), ev_i 0]) (st := []) (M' := M_J7_fill_53178) cm_J7_fill_53178 wd_695 wd_685 dX2_clear_63 (Nat.le_refl _) rfl (Nat.le_of_ble_eq_true rfl) (Nat.le_of_ble_eq_true rfl) h (fun v u h hk => ?_)
  cases hk
  obtain ⟨s9, rfl⟩ : ∃ x, x = u := ⟨_, rfl⟩
  refine Ev_aload_n 0 dX2_clear_66 rfl rfl ?_
  refine Ev_getR (i := 9) cl_X2 hk.1 (Nat.le_of_ble_eq_true rfl) rfl wd_368 dX2_clear_67 ?_
  refine Ev_iconst dX2_clear_70 rfl (ev_Rc rfl) ?_
  refine Ev_callS (As := [ev_r (k + 8), ev_i 0]) (st := []) (M' := M_J7_fill_53178) cm_J7_fill_53178 wd_695 wd_685 dX2_clear_71 (Nat.le_refl _) rfl (Nat.le_of_ble_eq_true rfl) (Nat.le_of_ble_eq_true rfl) h (fun v u h hk => ?_)
  cases hk
  obtain ⟨s10, rfl⟩ : ∃ x, x = u := ⟨_, rfl⟩
  refine Ev_aload_n 0 dX2_clear_74 rfl rfl ?_
  refine Ev_callV (As := []) (b := k) (st := []) (M' := M_X2_clearMishaps) cm_X2_clearMishaps wd_696 wd_697 wd_698 hk.1 cl_X2 rfl dX2_clear_75 (Nat.le_refl _) rfl (Nat.le_of_ble_eq_true rfl) (Nat.le_of_ble_eq_true rfl) h (fun v u h hk => ?_)
  cases hk
  obtain ⟨s11, rfl⟩ : ∃ x, x = u := ⟨_, rfl⟩
  refine Ev_aload_n 0 dX2_clear_78 rfl rfl ?_
  refine Ev_iconst dX2_clear_79 rfl (ev_Rc rfl) ?_
  refine Ev_put (i := 13) (ty := .int) cl_X2 hk.1 (Nat.le_of_ble_eq_true rfl) rfl rfl (by decide +kernel) rfl rfl wd_381 dX2_clear_80 (Ev_nm (fun s12 es12 => ?_))
  replace h := h s12 es12
  exact Ev_vret rfl dX2_clear_83 h
theorem dX2_clearMishaps_0 : decode cX2_clearMishaps 0 = .ok (.aload_n 0, 1) := by decide +kernel
theorem dX2_clearMishaps_1 : decode cX2_clearMishaps 1 = .ok (.getfield 36, 3) := by decide +kernel
theorem dX2_clearMishaps_4 : decode cX2_clearMishaps 4 = .ok (.iconst 0, 1) := by decide +kernel
theorem dX2_clearMishaps_5 : decode cX2_clearMishaps 5 = .ok (.invokestatic 52, 3) := by decide +kernel
theorem dX2_clearMishaps_8 : decode cX2_clearMishaps 8 = .ok (.aload_n 0, 1) := by decide +kernel
theorem dX2_clearMishaps_9 : decode cX2_clearMishaps 9 = .ok (.getfield 39, 3) := by decide +kernel
theorem dX2_clearMishaps_12 : decode cX2_clearMishaps 12 = .ok (.iconst (-1), 1) := by decide +kernel
theorem dX2_clearMishaps_13 : decode cX2_clearMishaps 13 = .ok (.invokestatic 52, 3) := by decide +kernel
theorem dX2_clearMishaps_16 : decode cX2_clearMishaps 16 = .ok (.aload_n 0, 1) := by decide +kernel
theorem dX2_clearMishaps_17 : decode cX2_clearMishaps 17 = .ok (.getfield 42, 3) := by decide +kernel
theorem dX2_clearMishaps_20 : decode cX2_clearMishaps 20 = .ok (.iconst (-1), 1) := by decide +kernel
theorem dX2_clearMishaps_21 : decode cX2_clearMishaps 21 = .ok (.invokestatic 52, 3) := by decide +kernel
theorem dX2_clearMishaps_24 : decode cX2_clearMishaps 24 = .ok (.return_, 1) := by decide +kernel
theorem wp_X2_clearMishaps_0 {d : Nat} {k : Nat} (hk : is_X2 k) {s : ev_S} {Q : Option ev_V → ev_S → Prop}
    (h : (Ev layX M_J7_fill_53178 d 0 [(0, ev_r (k + 9)), (1, ev_i 0)] [] s (fun _ s1 => (Ev layX M_J7_fill_53178 d 0 [(0, ev_r (k + 10)), (1, ev_i (-1))] [] s1 (fun _ s2 => (Ev layX M_J7_fill_53178 d 0 [(0, ev_r (k + 11)), (1, ev_i (-1))] [] s2 (fun _ s3 => Q none s3))))))) :
    Ev layX M_X2_clearMishaps (d + 1) 0 [(0, ev_r k)] [] s Q := by
  refine Ev_aload_n 0 dX2_clearMishaps_0 rfl rfl ?_
  refine Ev_getR (i := 10) cl_X2 hk.1 (Nat.le_of_ble_eq_true rfl) rfl wd_371 dX2_clearMishaps_1 ?_
  refine Ev_iconst dX2_clearMishaps_4 rfl (ev_Rc rfl) ?_
  refine Ev_callS (As := [ev_r (k + 9), ev_i 0]) (st := []) (M' := M_J7_fill_53178) cm_J7_fill_53178 wd_695 wd_685 dX2_clearMishaps_5 (Nat.le_refl _) rfl (Nat.le_of_ble_eq_true rfl) (Nat.le_of_ble_eq_true rfl) h (fun v u h hk => ?_)
  cases hk
  obtain ⟨s1, rfl⟩ : ∃ x, x = u := ⟨_, rfl⟩
  refine Ev_aload_n 0 dX2_clearMishaps_8 rfl rfl ?_
  refine Ev_getR (i := 11) cl_X2 hk.1 (Nat.le_of_ble_eq_true rfl) rfl wd_375 dX2_clearMishaps_9 ?_
  refine Ev_iconst dX2_clearMishaps_12 rfl (ev_Rc rfl) ?_
  refine Ev_callS (As := [ev_r (k + 10), ev_i (-1)]) (st := []) (M' := M_J7_fill_53178) cm_J7_fill_53178 wd_695 wd_685 dX2_clearMishaps_13 (Nat.le_refl _) rfl (Nat.le_of_ble_eq_true rfl) (Nat.le_of_ble_eq_true rfl) h (fun v u h hk => ?_)
  cases hk
  obtain ⟨s2, rfl⟩ : ∃ x, x = u := ⟨_, rfl⟩
  refine Ev_aload_n 0 dX2_clearMishaps_16 rfl rfl ?_
  refine Ev_getR (i := 12) cl_X2 hk.1 (Nat.le_of_ble_eq_true rfl) rfl wd_378 dX2_clearMishaps_17 ?_
  refine Ev_iconst dX2_clearMishaps_20 rfl (ev_Rc rfl) ?_
  refine Ev_callS (As := [ev_r (k + 11), ev_i (-1)]) (st := []) (M' := M_J7_fill_53178) cm_J7_fill_53178 wd_695 wd_685 dX2_clearMishaps_21 (Nat.le_refl _) rfl (Nat.le_of_ble_eq_true rfl) (Nat.le_of_ble_eq_true rfl) h (fun v u h hk => ?_)
  cases hk
  obtain ⟨s3, rfl⟩ : ∃ x, x = u := ⟨_, rfl⟩
  exact Ev_vret rfl dX2_clearMishaps_24 h
theorem dX2_copyFrom_0 : decode cX2_copyFrom 0 = .ok (.aload_n 0, 1) := by decide +kernel
theorem dX2_copyFrom_1 : decode cX2_copyFrom 1 = .ok (.aload_n 1, 1) := by decide +kernel
theorem dX2_copyFrom_2 : decode cX2_copyFrom 2 = .ok (.getfield 45, 3) := by decide +kernel
theorem dX2_copyFrom_5 : decode cX2_copyFrom 5 = .ok (.putfield 45, 3) := by decide +kernel
theorem dX2_copyFrom_8 : decode cX2_copyFrom 8 = .ok (.aload_n 0, 1) := by decide +kernel
theorem dX2_copyFrom_9 : decode cX2_copyFrom 9 = .ok (.aload_n 1, 1) := by decide +kernel
theorem dX2_copyFrom_10 : decode cX2_copyFrom 10 = .ok (.getfield 49, 3) := by decide +kernel
theorem dX2_copyFrom_13 : decode cX2_copyFrom 13 = .ok (.putfield 49, 3) := by decide +kernel
theorem dX2_copyFrom_16 : decode cX2_copyFrom 16 = .ok (.aload_n 1, 1) := by decide +kernel
theorem dX2_copyFrom_17 : decode cX2_copyFrom 17 = .ok (.getfield 9, 3) := by decide +kernel
theorem dX2_copyFrom_20 : decode cX2_copyFrom 20 = .ok (.iconst 0, 1) := by decide +kernel
theorem dX2_copyFrom_21 : decode cX2_copyFrom 21 = .ok (.aload_n 0, 1) := by decide +kernel
theorem dX2_copyFrom_22 : decode cX2_copyFrom 22 = .ok (.getfield 9, 3) := by decide +kernel
theorem dX2_copyFrom_25 : decode cX2_copyFrom 25 = .ok (.iconst 0, 1) := by decide +kernel
theorem dX2_copyFrom_26 : decode cX2_copyFrom 26 = .ok (.bipush 8, 2) := by decide +kernel
theorem dX2_copyFrom_28 : decode cX2_copyFrom 28 = .ok (.invokestatic 64, 3) := by decide +kernel
theorem dX2_copyFrom_31 : decode cX2_copyFrom 31 = .ok (.aload_n 1, 1) := by decide +kernel
theorem dX2_copyFrom_32 : decode cX2_copyFrom 32 = .ok (.getfield 15, 3) := by decide +kernel
theorem dX2_copyFrom_35 : decode cX2_copyFrom 35 = .ok (.iconst 0, 1) := by decide +kernel
theorem dX2_copyFrom_36 : decode cX2_copyFrom 36 = .ok (.aload_n 0, 1) := by decide +kernel
theorem dX2_copyFrom_37 : decode cX2_copyFrom 37 = .ok (.getfield 15, 3) := by decide +kernel
theorem dX2_copyFrom_40 : decode cX2_copyFrom 40 = .ok (.iconst 0, 1) := by decide +kernel
theorem dX2_copyFrom_41 : decode cX2_copyFrom 41 = .ok (.bipush 8, 2) := by decide +kernel
theorem dX2_copyFrom_43 : decode cX2_copyFrom 43 = .ok (.invokestatic 64, 3) := by decide +kernel
theorem dX2_copyFrom_46 : decode cX2_copyFrom 46 = .ok (.aload_n 1, 1) := by decide +kernel
theorem dX2_copyFrom_47 : decode cX2_copyFrom 47 = .ok (.getfield 18, 3) := by decide +kernel
theorem dX2_copyFrom_50 : decode cX2_copyFrom 50 = .ok (.iconst 0, 1) := by decide +kernel
theorem dX2_copyFrom_51 : decode cX2_copyFrom 51 = .ok (.aload_n 0, 1) := by decide +kernel
theorem dX2_copyFrom_52 : decode cX2_copyFrom 52 = .ok (.getfield 18, 3) := by decide +kernel
theorem dX2_copyFrom_55 : decode cX2_copyFrom 55 = .ok (.iconst 0, 1) := by decide +kernel
theorem dX2_copyFrom_56 : decode cX2_copyFrom 56 = .ok (.bipush 8, 2) := by decide +kernel
theorem dX2_copyFrom_58 : decode cX2_copyFrom 58 = .ok (.invokestatic 64, 3) := by decide +kernel
theorem dX2_copyFrom_61 : decode cX2_copyFrom 61 = .ok (.aload_n 1, 1) := by decide +kernel
theorem dX2_copyFrom_62 : decode cX2_copyFrom 62 = .ok (.getfield 21, 3) := by decide +kernel
theorem dX2_copyFrom_65 : decode cX2_copyFrom 65 = .ok (.iconst 0, 1) := by decide +kernel
theorem dX2_copyFrom_66 : decode cX2_copyFrom 66 = .ok (.aload_n 0, 1) := by decide +kernel
theorem dX2_copyFrom_67 : decode cX2_copyFrom 67 = .ok (.getfield 21, 3) := by decide +kernel
theorem dX2_copyFrom_70 : decode cX2_copyFrom 70 = .ok (.iconst 0, 1) := by decide +kernel
theorem dX2_copyFrom_71 : decode cX2_copyFrom 71 = .ok (.bipush 6, 2) := by decide +kernel
theorem dX2_copyFrom_73 : decode cX2_copyFrom 73 = .ok (.invokestatic 64, 3) := by decide +kernel
theorem dX2_copyFrom_76 : decode cX2_copyFrom 76 = .ok (.aload_n 1, 1) := by decide +kernel
theorem dX2_copyFrom_77 : decode cX2_copyFrom 77 = .ok (.getfield 24, 3) := by decide +kernel
theorem dX2_copyFrom_80 : decode cX2_copyFrom 80 = .ok (.iconst 0, 1) := by decide +kernel
theorem dX2_copyFrom_81 : decode cX2_copyFrom 81 = .ok (.aload_n 0, 1) := by decide +kernel
theorem dX2_copyFrom_82 : decode cX2_copyFrom 82 = .ok (.getfield 24, 3) := by decide +kernel
theorem dX2_copyFrom_85 : decode cX2_copyFrom 85 = .ok (.iconst 0, 1) := by decide +kernel
theorem dX2_copyFrom_86 : decode cX2_copyFrom 86 = .ok (.bipush 6, 2) := by decide +kernel
theorem dX2_copyFrom_88 : decode cX2_copyFrom 88 = .ok (.invokestatic 64, 3) := by decide +kernel
theorem dX2_copyFrom_91 : decode cX2_copyFrom 91 = .ok (.aload_n 1, 1) := by decide +kernel
theorem dX2_copyFrom_92 : decode cX2_copyFrom 92 = .ok (.getfield 27, 3) := by decide +kernel
theorem dX2_copyFrom_95 : decode cX2_copyFrom 95 = .ok (.iconst 0, 1) := by decide +kernel
theorem dX2_copyFrom_96 : decode cX2_copyFrom 96 = .ok (.aload_n 0, 1) := by decide +kernel
theorem dX2_copyFrom_97 : decode cX2_copyFrom 97 = .ok (.getfield 27, 3) := by decide +kernel
theorem dX2_copyFrom_100 : decode cX2_copyFrom 100 = .ok (.iconst 0, 1) := by decide +kernel
theorem dX2_copyFrom_101 : decode cX2_copyFrom 101 = .ok (.bipush 6, 2) := by decide +kernel
theorem dX2_copyFrom_103 : decode cX2_copyFrom 103 = .ok (.invokestatic 64, 3) := by decide +kernel
theorem dX2_copyFrom_106 : decode cX2_copyFrom 106 = .ok (.aload_n 1, 1) := by decide +kernel
theorem dX2_copyFrom_107 : decode cX2_copyFrom 107 = .ok (.getfield 30, 3) := by decide +kernel
theorem dX2_copyFrom_110 : decode cX2_copyFrom 110 = .ok (.iconst 0, 1) := by decide +kernel
theorem dX2_copyFrom_111 : decode cX2_copyFrom 111 = .ok (.aload_n 0, 1) := by decide +kernel
theorem dX2_copyFrom_112 : decode cX2_copyFrom 112 = .ok (.getfield 30, 3) := by decide +kernel
theorem dX2_copyFrom_115 : decode cX2_copyFrom 115 = .ok (.iconst 0, 1) := by decide +kernel
theorem dX2_copyFrom_116 : decode cX2_copyFrom 116 = .ok (.bipush 6, 2) := by decide +kernel
theorem dX2_copyFrom_118 : decode cX2_copyFrom 118 = .ok (.invokestatic 64, 3) := by decide +kernel
theorem dX2_copyFrom_121 : decode cX2_copyFrom 121 = .ok (.aload_n 1, 1) := by decide +kernel
theorem dX2_copyFrom_122 : decode cX2_copyFrom 122 = .ok (.getfield 33, 3) := by decide +kernel
theorem dX2_copyFrom_125 : decode cX2_copyFrom 125 = .ok (.iconst 0, 1) := by decide +kernel
theorem dX2_copyFrom_126 : decode cX2_copyFrom 126 = .ok (.aload_n 0, 1) := by decide +kernel
theorem dX2_copyFrom_127 : decode cX2_copyFrom 127 = .ok (.getfield 33, 3) := by decide +kernel
theorem dX2_copyFrom_130 : decode cX2_copyFrom 130 = .ok (.iconst 0, 1) := by decide +kernel
theorem dX2_copyFrom_131 : decode cX2_copyFrom 131 = .ok (.bipush 6, 2) := by decide +kernel
theorem dX2_copyFrom_133 : decode cX2_copyFrom 133 = .ok (.invokestatic 64, 3) := by decide +kernel
theorem dX2_copyFrom_136 : decode cX2_copyFrom 136 = .ok (.aload_n 1, 1) := by decide +kernel
theorem dX2_copyFrom_137 : decode cX2_copyFrom 137 = .ok (.getfield 36, 3) := by decide +kernel
theorem dX2_copyFrom_140 : decode cX2_copyFrom 140 = .ok (.iconst 0, 1) := by decide +kernel
theorem dX2_copyFrom_141 : decode cX2_copyFrom 141 = .ok (.aload_n 0, 1) := by decide +kernel
theorem dX2_copyFrom_142 : decode cX2_copyFrom 142 = .ok (.getfield 36, 3) := by decide +kernel
theorem dX2_copyFrom_145 : decode cX2_copyFrom 145 = .ok (.iconst 0, 1) := by decide +kernel
theorem dX2_copyFrom_146 : decode cX2_copyFrom 146 = .ok (.bipush 10, 2) := by decide +kernel
theorem dX2_copyFrom_148 : decode cX2_copyFrom 148 = .ok (.invokestatic 64, 3) := by decide +kernel
theorem dX2_copyFrom_151 : decode cX2_copyFrom 151 = .ok (.aload_n 1, 1) := by decide +kernel
theorem dX2_copyFrom_152 : decode cX2_copyFrom 152 = .ok (.getfield 39, 3) := by decide +kernel
theorem dX2_copyFrom_155 : decode cX2_copyFrom 155 = .ok (.iconst 0, 1) := by decide +kernel
theorem dX2_copyFrom_156 : decode cX2_copyFrom 156 = .ok (.aload_n 0, 1) := by decide +kernel
theorem dX2_copyFrom_157 : decode cX2_copyFrom 157 = .ok (.getfield 39, 3) := by decide +kernel
theorem dX2_copyFrom_160 : decode cX2_copyFrom 160 = .ok (.iconst 0, 1) := by decide +kernel
theorem dX2_copyFrom_161 : decode cX2_copyFrom 161 = .ok (.bipush 10, 2) := by decide +kernel
theorem dX2_copyFrom_163 : decode cX2_copyFrom 163 = .ok (.invokestatic 64, 3) := by decide +kernel
theorem dX2_copyFrom_166 : decode cX2_copyFrom 166 = .ok (.aload_n 1, 1) := by decide +kernel
theorem dX2_copyFrom_167 : decode cX2_copyFrom 167 = .ok (.getfield 42, 3) := by decide +kernel
theorem dX2_copyFrom_170 : decode cX2_copyFrom 170 = .ok (.iconst 0, 1) := by decide +kernel
theorem dX2_copyFrom_171 : decode cX2_copyFrom 171 = .ok (.aload_n 0, 1) := by decide +kernel
theorem dX2_copyFrom_172 : decode cX2_copyFrom 172 = .ok (.getfield 42, 3) := by decide +kernel
theorem dX2_copyFrom_175 : decode cX2_copyFrom 175 = .ok (.iconst 0, 1) := by decide +kernel
theorem dX2_copyFrom_176 : decode cX2_copyFrom 176 = .ok (.bipush 10, 2) := by decide +kernel
theorem dX2_copyFrom_178 : decode cX2_copyFrom 178 = .ok (.invokestatic 64, 3) := by decide +kernel
theorem dX2_copyFrom_181 : decode cX2_copyFrom 181 = .ok (.aload_n 0, 1) := by decide +kernel
theorem dX2_copyFrom_182 : decode cX2_copyFrom 182 = .ok (.aload_n 1, 1) := by decide +kernel
theorem dX2_copyFrom_183 : decode cX2_copyFrom 183 = .ok (.getfield 61, 3) := by decide +kernel
theorem dX2_copyFrom_186 : decode cX2_copyFrom 186 = .ok (.putfield 61, 3) := by decide +kernel
theorem dX2_copyFrom_189 : decode cX2_copyFrom 189 = .ok (.return_, 1) := by decide +kernel
theorem wp_X2_copyFrom_0 {d : Nat} {k : Nat} (hk : is_X2 k) {k1 : Nat} (hk1 : is_X2 k1) {s : ev_S} {Q : Option ev_V → ev_S → Prop}
    (h : (∀ s1, ev_up s k 0 (s k1 0) = s1 → (∀ s2, ev_up s1 k 1 (s1 k1 1) = s2 → ((0 ≤ (0 : Int) ∧ 0 ≤ (0 : Int) ∧ 0 ≤ (8 : Int) ∧ (0 : Int) + 8 ≤ (8 : Nat) ∧ (0 : Int) + 8 ≤ (8 : Nat)) ∧ ∀ s3, ev_cp s2 (k1 + 1) (Int.toNat 0) (k + 1) (Int.toNat 0) (Int.toNat 8) = s3 → ((0 ≤ (0 : Int) ∧ 0 ≤ (0 : Int) ∧ 0 ≤ (8 : Int) ∧ (0 : Int) + 8 ≤ (8 : Nat) ∧ (0 : Int) + 8 ≤ (8 : Nat)) ∧ ∀ s4, ev_cp s3 (k1 + 2) (Int.toNat 0) (k + 2) (Int.toNat 0) (Int.toNat 8) = s4 → ((0 ≤ (0 : Int) ∧ 0 ≤ (0 : Int) ∧ 0 ≤ (8 : Int) ∧ (0 : Int) + 8 ≤ (8 : Nat) ∧ (0 : Int) + 8 ≤ (8 : Nat)) ∧ ∀ s5, ev_cp s4 (k1 + 3) (Int.toNat 0) (k + 3) (Int.toNat 0) (Int.toNat 8) = s5 → ((0 ≤ (0 : Int) ∧ 0 ≤ (0 : Int) ∧ 0 ≤ (6 : Int) ∧ (0 : Int) + 6 ≤ (6 : Nat) ∧ (0 : Int) + 6 ≤ (6 : Nat)) ∧ ∀ s6, ev_cp s5 (k1 + 4) (Int.toNat 0) (k + 4) (Int.toNat 0) (Int.toNat 6) = s6 → ((0 ≤ (0 : Int) ∧ 0 ≤ (0 : Int) ∧ 0 ≤ (6 : Int) ∧ (0 : Int) + 6 ≤ (6 : Nat) ∧ (0 : Int) + 6 ≤ (6 : Nat)) ∧ ∀ s7, ev_cp s6 (k1 + 5) (Int.toNat 0) (k + 5) (Int.toNat 0) (Int.toNat 6) = s7 → ((0 ≤ (0 : Int) ∧ 0 ≤ (0 : Int) ∧ 0 ≤ (6 : Int) ∧ (0 : Int) + 6 ≤ (6 : Nat) ∧ (0 : Int) + 6 ≤ (6 : Nat)) ∧ ∀ s8, ev_cp s7 (k1 + 6) (Int.toNat 0) (k + 6) (Int.toNat 0) (Int.toNat 6) = s8 → ((0 ≤ (0 : Int) ∧ 0 ≤ (0 : Int) ∧ 0 ≤ (6 : Int) ∧ (0 : Int) + 6 ≤ (6 : Nat) ∧ (0 : Int) + 6 ≤ (6 : Nat)) ∧ ∀ s9, ev_cp s8 (k1 + 7) (Int.toNat 0) (k + 7) (Int.toNat 0) (Int.toNat 6) = s9 → ((0 ≤ (0 : Int) ∧ 0 ≤ (0 : Int) ∧ 0 ≤ (6 : Int) ∧ (0 : Int) + 6 ≤ (6 : Nat) ∧ (0 : Int) + 6 ≤ (6 : Nat)) ∧ ∀ s10, ev_cp s9 (k1 + 8) (Int.toNat 0) (k + 8) (Int.toNat 0) (Int.toNat 6) = s10 → ((0 ≤ (0 : Int) ∧ 0 ≤ (0 : Int) ∧ 0 ≤ (10 : Int) ∧ (0 : Int) + 10 ≤ (10 : Nat) ∧ (0 : Int) + 10 ≤ (10 : Nat)) ∧ ∀ s11, ev_cp s10 (k1 + 9) (Int.toNat 0) (k + 9) (Int.toNat 0) (Int.toNat 10) = s11 → ((0 ≤ (0 : Int) ∧ 0 ≤ (0 : Int) ∧ 0 ≤ (10 : Int) ∧ (0 : Int) + 10 ≤ (10 : Nat) ∧ (0 : Int) + 10 ≤ (10 : Nat)) ∧ ∀ s12, ev_cp s11 (k1 + 10) (Int.toNat 0) (k + 10) (Int.toNat 0) (Int.toNat 10) = s12 → ((0 ≤ (0 : Int) ∧ 0 ≤ (0 : Int) ∧ 0 ≤ (10 : Int) ∧ (0 : Int) + 10 ≤ (10 : Nat) ∧ (0 : Int) + 10 ≤ (10 : Nat)) ∧ ∀ s13, ev_cp s12 (k1 + 11) (Int.toNat 0) (k + 11) (Int.toNat 0) (Int.toNat 10) = s13 → (∀ s14, ev_up s13 k 13 (s13 k1 13) = s14 → Q none s14))))))))))))))) :
    Ev layX M_X2_copyFrom (d + 1) 0 [(0, ev_r k), (1, ev_r k1)] [] s Q := by
  refine Ev_aload_n 0 dX2_copyFrom_0 rfl rfl ?_
  refine Ev_aload_n 1 dX2_copyFrom_1 rfl rfl ?_
  refine Ev_get (i := 0) cl_X2 hk1.1 (Nat.le_of_ble_eq_true rfl) rfl wd_337 dX2_copyFrom_2 ?_
  refine Ev_put (i := 0) (ty := .int) cl_X2 hk.1 (Nat.le_of_ble_eq_true rfl) rfl rfl (by decide +kernel) rfl rfl wd_337 dX2_copyFrom_5 (Ev_nm (fun s1 es1 => ?_))
  replace h := h s1 es1
  refine Ev_aload_n 0 dX2_copyFrom_8 rfl rfl ?_
  refine Ev_aload_n 1 dX2_copyFrom_9 rfl rfl ?_
  refine Ev_get (i := 1) cl_X2 hk1.1 (Nat.le_of_ble_eq_true rfl) rfl wd_343 dX2_copyFrom_10 ?_
  refine Ev_put (i := 1) (ty := .int) cl_X2 hk.1 (Nat.le_of_ble_eq_true rfl) rfl rfl (by decide +kernel) rfl rfl wd_343 dX2_copyFrom_13 (Ev_nm (fun s2 es2 => ?_))
  replace h := h s2 es2
  refine Ev_aload_n 1 dX2_copyFrom_16 rfl rfl ?_
  refine Ev_getR (i := 2) cl_X2 hk1.1 (Nat.le_of_ble_eq_true rfl) rfl wd_344 dX2_copyFrom_17 ?_
  refine Ev_iconst dX2_copyFrom_20 rfl (ev_Rc rfl) ?_
  refine Ev_aload_n 0 dX2_copyFrom_21 rfl rfl ?_
  refine Ev_getR (i := 2) cl_X2 hk.1 (Nat.le_of_ble_eq_true rfl) rfl wd_344 dX2_copyFrom_22 ?_
  refine Ev_iconst dX2_copyFrom_25 rfl (ev_Rc rfl) ?_
  refine Ev_bipushC dX2_copyFrom_26 rfl ?_
  obtain ⟨h0, h⟩ := h
  refine Ev_copyi hk1.2.1 hk.2.1 h0 wd_1062 dX2_copyFrom_28 (Nat.le_of_ble_eq_true rfl) (Ev_nm (fun s3 es3 => ?_))
  replace h := h s3 es3
  refine Ev_aload_n 1 dX2_copyFrom_31 rfl rfl ?_
  refine Ev_getR (i := 3) cl_X2 hk1.1 (Nat.le_of_ble_eq_true rfl) rfl wd_348 dX2_copyFrom_32 ?_
  refine Ev_iconst dX2_copyFrom_35 rfl (ev_Rc rfl) ?_
  refine Ev_aload_n 0 dX2_copyFrom_36 rfl rfl ?_
  refine Ev_getR (i := 3) cl_X2 hk.1 (Nat.le_of_ble_eq_true rfl) rfl wd_348 dX2_copyFrom_37 ?_
  refine Ev_iconst dX2_copyFrom_40 rfl (ev_Rc rfl) ?_
  refine Ev_bipushC dX2_copyFrom_41 rfl ?_
  obtain ⟨h0, h⟩ := h
  refine Ev_copyi hk1.2.2.1 hk.2.2.1 h0 wd_1062 dX2_copyFrom_43 (Nat.le_of_ble_eq_true rfl) (Ev_nm (fun s4 es4 => ?_))
  replace h := h s4 es4
  refine Ev_aload_n 1 dX2_copyFrom_46 rfl rfl ?_
  refine Ev_getR (i := 4) cl_X2 hk1.1 (Nat.le_of_ble_eq_true rfl) rfl wd_351 dX2_copyFrom_47 ?_
  refine Ev_iconst dX2_copyFrom_50 rfl (ev_Rc rfl) ?_
  refine Ev_aload_n 0 dX2_copyFrom_51 rfl rfl ?_
  refine Ev_getR (i := 4) cl_X2 hk.1 (Nat.le_of_ble_eq_true rfl) rfl wd_351 dX2_copyFrom_52 ?_
  refine Ev_iconst dX2_copyFrom_55 rfl (ev_Rc rfl) ?_
  refine Ev_bipushC dX2_copyFrom_56 rfl ?_
  obtain ⟨h0, h⟩ := h
  refine Ev_copyi hk1.2.2.2.1 hk.2.2.2.1 h0 wd_1062 dX2_copyFrom_58 (Nat.le_of_ble_eq_true rfl) (Ev_nm (fun s5 es5 => ?_))
  replace h := h s5 es5
  refine Ev_aload_n 1 dX2_copyFrom_61 rfl rfl ?_
  refine Ev_getR (i := 5) cl_X2 hk1.1 (Nat.le_of_ble_eq_true rfl) rfl wd_354 dX2_copyFrom_62 ?_
  refine Ev_iconst dX2_copyFrom_65 rfl (ev_Rc rfl) ?_
  refine Ev_aload_n 0 dX2_copyFrom_66 rfl rfl ?_
  refine Ev_getR (i := 5) cl_X2 hk.1 (Nat.le_of_ble_eq_true rfl) rfl wd_354 dX2_copyFrom_67 ?_
  refine Ev_iconst dX2_copyFrom_70 rfl (ev_Rc rfl) ?_
  refine Ev_bipushC dX2_copyFrom_71 rfl ?_
  obtain ⟨h0, h⟩ := h
  refine Ev_copyi hk1.2.2.2.2.1 hk.2.2.2.2.1 h0 wd_1062 dX2_copyFrom_73 (Nat.le_of_ble_eq_true rfl) (Ev_nm (fun s6 es6 => ?_))
  replace h := h s6 es6
  refine Ev_aload_n 1 dX2_copyFrom_76 rfl rfl ?_
  refine Ev_getR (i := 6) cl_X2 hk1.1 (Nat.le_of_ble_eq_true rfl) rfl wd_359 dX2_copyFrom_77 ?_
  refine Ev_iconst dX2_copyFrom_80 rfl (ev_Rc rfl) ?_
  refine Ev_aload_n 0 dX2_copyFrom_81 rfl rfl ?_
  refine Ev_getR (i := 6) cl_X2 hk.1 (Nat.le_of_ble_eq_true rfl) rfl wd_359 dX2_copyFrom_82 ?_
  refine Ev_iconst dX2_copyFrom_85 rfl (ev_Rc rfl) ?_
  refine Ev_bipushC dX2_copyFrom_86 rfl ?_
  obtain ⟨h0, h⟩ := h
  refine Ev_copyi hk1.2.2.2.2.2.1 hk.2.2.2.2.2.1 h0 wd_1062 dX2_copyFrom_88 (Nat.le_of_ble_eq_true rfl) (Ev_nm (fun s7 es7 => ?_))
  replace h := h s7 es7
  refine Ev_aload_n 1 dX2_copyFrom_91 rfl rfl ?_
  refine Ev_getR (i := 7) cl_X2 hk1.1 (Nat.le_of_ble_eq_true rfl) rfl wd_362 dX2_copyFrom_92 ?_
  refine Ev_iconst dX2_copyFrom_95 rfl (ev_Rc rfl) ?_
  refine Ev_aload_n 0 dX2_copyFrom_96 rfl rfl ?_
  refine Ev_getR (i := 7) cl_X2 hk.1 (Nat.le_of_ble_eq_true rfl) rfl wd_362 dX2_copyFrom_97 ?_
  refine Ev_iconst dX2_copyFrom_100 rfl (ev_Rc rfl) ?_
  refine Ev_bipushC dX2_copyFrom_101 rfl ?_
  obtain ⟨h0, h⟩ := h
  refine Ev_copyi hk1.2.2.2.2.2.2.1 hk.2.2.2.2.2.2.1 h0 wd_1062 dX2_copyFrom_103 (Nat.le_of_ble_eq_true rfl) (Ev_nm (fun s8 es8 => ?_))
  replace h := h s8 es8
  refine Ev_aload_n 1 dX2_copyFrom_106 rfl rfl ?_
  refine Ev_getR (i := 8) cl_X2 hk1.1 (Nat.le_of_ble_eq_true rfl) rfl wd_365 dX2_copyFrom_107 ?_
  refine Ev_iconst dX2_copyFrom_110 rfl (ev_Rc rfl) ?_
  refine Ev_aload_n 0 dX2_copyFrom_111 rfl rfl ?_
  refine Ev_getR (i := 8) cl_X2 hk.1 (Nat.le_of_ble_eq_true rfl) rfl wd_365 dX2_copyFrom_112 ?_
  refine Ev_iconst dX2_copyFrom_115 rfl (ev_Rc rfl) ?_
  refine Ev_bipushC dX2_copyFrom_116 rfl ?_
  obtain ⟨h0, h⟩ := h
  refine Ev_copyi hk1.2.2.2.2.2.2.2.1 hk.2.2.2.2.2.2.2.1 h0 wd_1062 dX2_copyFrom_118 (Nat.le_of_ble_eq_true rfl) (Ev_nm (fun s9 es9 => ?_))
  replace h := h s9 es9
  refine Ev_aload_n 1 dX2_copyFrom_121 rfl rfl ?_
  refine Ev_getR (i := 9) cl_X2 hk1.1 (Nat.le_of_ble_eq_true rfl) rfl wd_368 dX2_copyFrom_122 ?_
  refine Ev_iconst dX2_copyFrom_125 rfl (ev_Rc rfl) ?_
  refine Ev_aload_n 0 dX2_copyFrom_126 rfl rfl ?_
  refine Ev_getR (i := 9) cl_X2 hk.1 (Nat.le_of_ble_eq_true rfl) rfl wd_368 dX2_copyFrom_127 ?_
  refine Ev_iconst dX2_copyFrom_130 rfl (ev_Rc rfl) ?_
  refine Ev_bipushC dX2_copyFrom_131 rfl ?_
  obtain ⟨h0, h⟩ := h
  refine Ev_copyi hk1.2.2.2.2.2.2.2.2.1 hk.2.2.2.2.2.2.2.2.1 h0 wd_1062 dX2_copyFrom_133 (Nat.le_of_ble_eq_true rfl) (Ev_nm (fun s10 es10 => ?_))
  replace h := h s10 es10
  refine Ev_aload_n 1 dX2_copyFrom_136 rfl rfl ?_
  refine Ev_getR (i := 10) cl_X2 hk1.1 (Nat.le_of_ble_eq_true rfl) rfl wd_371 dX2_copyFrom_137 ?_
  refine Ev_iconst dX2_copyFrom_140 rfl (ev_Rc rfl) ?_
  refine Ev_aload_n 0 dX2_copyFrom_141 rfl rfl ?_
  refine Ev_getR (i := 10) cl_X2 hk.1 (Nat.le_of_ble_eq_true rfl) rfl wd_371 dX2_copyFrom_142 ?_
  refine Ev_iconst dX2_copyFrom_145 rfl (ev_Rc rfl) ?_
  refine Ev_bipushC dX2_copyFrom_146 rfl ?_
  obtain ⟨h0, h⟩ := h
  refine Ev_copyi hk1.2.2.2.2.2.2.2.2.2.1 hk.2.2.2.2.2.2.2.2.2.1 h0 wd_1062 dX2_copyFrom_148 (Nat.le_of_ble_eq_true rfl) (Ev_nm (fun s11 es11 => ?_))
  replace h := h s11 es11
  refine Ev_aload_n 1 dX2_copyFrom_151 rfl rfl ?_
  refine Ev_getR (i := 11) cl_X2 hk1.1 (Nat.le_of_ble_eq_true rfl) rfl wd_375 dX2_copyFrom_152 ?_
  refine Ev_iconst dX2_copyFrom_155 rfl (ev_Rc rfl) ?_
  refine Ev_aload_n 0 dX2_copyFrom_156 rfl rfl ?_
  refine Ev_getR (i := 11) cl_X2 hk.1 (Nat.le_of_ble_eq_true rfl) rfl wd_375 dX2_copyFrom_157 ?_
  refine Ev_iconst dX2_copyFrom_160 rfl (ev_Rc rfl) ?_
  refine Ev_bipushC dX2_copyFrom_161 rfl ?_
  obtain ⟨h0, h⟩ := h
  refine Ev_copyi hk1.2.2.2.2.2.2.2.2.2.2.1 hk.2.2.2.2.2.2.2.2.2.2.1 h0 wd_1062 dX2_copyFrom_163 (Nat.le_of_ble_eq_true rfl) (Ev_nm (fun s12 es12 => ?_))
  replace h := h s12 es12
  refine Ev_aload_n 1 dX2_copyFrom_166 rfl rfl ?_
  refine Ev_getR (i := 12) cl_X2 hk1.1 (Nat.le_of_ble_eq_true rfl) rfl wd_378 dX2_copyFrom_167 ?_
  refine Ev_iconst dX2_copyFrom_170 rfl (ev_Rc rfl) ?_
  refine Ev_aload_n 0 dX2_copyFrom_171 rfl rfl ?_
  refine Ev_getR (i := 12) cl_X2 hk.1 (Nat.le_of_ble_eq_true rfl) rfl wd_378 dX2_copyFrom_172 ?_
  refine Ev_iconst dX2_copyFrom_175 rfl (ev_Rc rfl) ?_
  refine Ev_bipushC dX2_copyFrom_176 rfl ?_
  obtain ⟨h0, h⟩ := h
  refine Ev_copyi hk1.2.2.2.2.2.2.2.2.2.2.2 hk.2.2.2.2.2.2.2.2.2.2.2 h0 wd_1062 dX2_copyFrom_178 (Nat.le_of_ble_eq_true rfl) (Ev_nm (fun s13 es13 => ?_))
  replace h := h s13 es13
  refine Ev_aload_n 0 dX2_copyFrom_181 rfl rfl ?_
  refine Ev_aload_n 1 dX2_copyFrom_182 rfl rfl ?_
  refine Ev_get (i := 13) cl_X2 hk1.1 (Nat.le_of_ble_eq_true rfl) rfl wd_381 dX2_copyFrom_183 ?_
  refine Ev_put (i := 13) (ty := .int) cl_X2 hk.1 (Nat.le_of_ble_eq_true rfl) rfl rfl (by decide +kernel) rfl rfl wd_381 dX2_copyFrom_186 (Ev_nm (fun s14 es14 => ?_))
  replace h := h s14 es14
  exact Ev_vret rfl dX2_copyFrom_189 h
theorem dX2_draw_0 : decode cX2_draw 0 = .ok (.aload_n 0, 1) := by decide +kernel
theorem dX2_draw_1 : decode cX2_draw 1 = .ok (.ldc 70, 2) := by decide +kernel
theorem dX2_draw_3 : decode cX2_draw 3 = .ok (.aload_n 0, 1) := by decide +kernel
theorem dX2_draw_4 : decode cX2_draw 4 = .ok (.getfield 49, 3) := by decide +kernel
theorem dX2_draw_7 : decode cX2_draw 7 = .ok (.imul, 1) := by decide +kernel
theorem dX2_draw_8 : decode cX2_draw 8 = .ok (.ldc 71, 2) := by decide +kernel
theorem dX2_draw_10 : decode cX2_draw 10 = .ok (.iadd, 1) := by decide +kernel
theorem dX2_draw_11 : decode cX2_draw 11 = .ok (.putfield 49, 3) := by decide +kernel
theorem dX2_draw_14 : decode cX2_draw 14 = .ok (.iload_n 1, 1) := by decide +kernel
theorem dX2_draw_15 : decode cX2_draw 15 = .ok (.ifCond .le 15, 3) := by decide +kernel
theorem dX2_draw_18 : decode cX2_draw 18 = .ok (.aload_n 0, 1) := by decide +kernel
theorem dX2_draw_19 : decode cX2_draw 19 = .ok (.getfield 49, 3) := by decide +kernel
theorem dX2_draw_22 : decode cX2_draw 22 = .ok (.bipush 8, 2) := by decide +kernel
theorem dX2_draw_24 : decode cX2_draw 24 = .ok (.iushr, 1) := by decide +kernel
theorem dX2_draw_25 : decode cX2_draw 25 = .ok (.iload_n 1, 1) := by decide +kernel
theorem dX2_draw_26 : decode cX2_draw 26 = .ok (.irem, 1) := by decide +kernel
theorem dX2_draw_27 : decode cX2_draw 27 = .ok (.goto 4, 3) := by decide +kernel
theorem dX2_draw_30 : decode cX2_draw 30 = .ok (.iconst 0, 1) := by decide +kernel
theorem dX2_draw_31 : decode cX2_draw 31 = .ok (.ireturn, 1) := by decide +kernel
theorem wp_X2_draw_0 {d : Nat} {k : Nat} (hk : is_X2 k) {s : ev_S} {Q : Option ev_V → ev_S → Prop} {a1 : Int}
    (h : (∀ s1, ev_up s k 1 (ev_add (ev_mul 1664525 (s k 1)) 1013904223) = s1 → ((a1 ≤ 0 → Q (some (ev_i 0)) s1) ∧ (0 < a1 → (a1 ≠ 0 ∧ Q (some (ev_i (ev_rem (ev_ushr (s1 k 1) 8) a1))) s1))))) :
    Ev layX M_X2_draw d 0 [(0, ev_r k), (1, ev_i a1)] [] s Q := by
  refine Ev_aload_n 0 dX2_draw_0 rfl rfl ?_
  refine Ev_ldc (z := 1664525) wd_1138 dX2_draw_1 rfl (ev_Rc rfl) ?_
  refine Ev_aload_n 0 dX2_draw_3 rfl rfl ?_
  refine Ev_get (i := 1) cl_X2 hk.1 (Nat.le_of_ble_eq_true rfl) rfl wd_343 dX2_draw_4 ?_
  refine Ev_imul dX2_draw_7 ?_
  refine Ev_ldc (z := 1013904223) wd_1139 dX2_draw_8 rfl (ev_Rc rfl) ?_
  refine Ev_iadd dX2_draw_10 ?_
  refine Ev_put (i := 1) (ty := .int) cl_X2 hk.1 (Nat.le_of_ble_eq_true rfl) rfl rfl (by decide +kernel) rfl rfl wd_343 dX2_draw_11 (Ev_nm (fun s1 es1 => ?_))
  replace h := h s1 es1
  refine Ev_iload_n 1 dX2_draw_14 rfl rfl ?_
  refine Ev_if_le (tgt := 30) dX2_draw_15 rfl (fun c => ?_) (fun c => ?_)
  · replace h := h.1 c
    refine Ev_iconst dX2_draw_30 rfl (ev_Rc rfl) ?_
    exact Ev_iret rfl dX2_draw_31 rfl h
  · replace h := h.2 c
    refine Ev_aload_n 0 dX2_draw_18 rfl rfl ?_
    refine Ev_get (i := 1) cl_X2 hk.1 (Nat.le_of_ble_eq_true rfl) rfl wd_343 dX2_draw_19 ?_
    refine Ev_bipushC dX2_draw_22 rfl ?_
    refine Ev_iushr dX2_draw_24 ?_
    refine Ev_iload_n 1 dX2_draw_25 rfl rfl ?_
    obtain ⟨h0, h⟩ := h
    refine Ev_irem dX2_draw_26 h0 ?_
    refine Ev_goto (tgt := 31) dX2_draw_27 rfl ?_
    exact Ev_iret rfl dX2_draw_31 rfl h
