theorem dX1_riskLeft_0 : decode cX1_riskLeft 0 = .ok (.aload_n 0, 1) := by decide +kernel
theorem dX1_riskLeft_1 : decode cX1_riskLeft 1 = .ok (.getfield 21, 3) := by decide +kernel
theorem dX1_riskLeft_4 : decode cX1_riskLeft 4 = .ok (.aload_n 0, 1) := by decide +kernel
theorem dX1_riskLeft_5 : decode cX1_riskLeft 5 = .ok (.invokevirtual 63, 3) := by decide +kernel
theorem dX1_riskLeft_8 : decode cX1_riskLeft 8 = .ok (.iaload, 1) := by decide +kernel
theorem dX1_riskLeft_9 : decode cX1_riskLeft 9 = .ok (.aload_n 0, 1) := by decide +kernel
theorem dX1_riskLeft_10 : decode cX1_riskLeft 10 = .ok (.aload_n 0, 1) := by decide +kernel
theorem dX1_riskLeft_11 : decode cX1_riskLeft 11 = .ok (.invokevirtual 67, 3) := by decide +kernel
theorem dX1_riskLeft_14 : decode cX1_riskLeft 14 = .ok (.invokevirtual 70, 3) := by decide +kernel
theorem dX1_riskLeft_17 : decode cX1_riskLeft 17 = .ok (.isub, 1) := by decide +kernel
theorem dX1_riskLeft_18 : decode cX1_riskLeft 18 = .ok (.ireturn, 1) := by decide +kernel
theorem wp_X1_riskLeft_0 {d : Nat} {s : ev_S} {Q : Option ev_V → ev_S → Prop}
    (h : (Ev layX M_X1_full d 0 [(0, ev_r 162)] [] s (ev_pi (fun r2 s1 => ((0 ≤ r2 ∧ r2 < (1024 : Nat)) ∧ (Ev layX M_X1_everybody d 0 [(0, ev_r 162)] [] s1 (ev_pi (fun r4 s3 => (Ev layX M_X1_most d 0 [(0, ev_r 162), (1, ev_i r4)] [] s3 (ev_pi (fun r6 s5 => Q (some (ev_i (ev_sub (s1 166 (Int.toNat r2)) r6))) s5))))))))))) :
    Ev layX M_X1_riskLeft (d + 1) 0 [(0, ev_r 162)] [] s Q := by
  refine Ev_aload_n 0 dX1_riskLeft_0 rfl rfl ?_
  refine Ev_getR (i := 7) cl_X1 yX_162 (Nat.le_of_ble_eq_true rfl) rfl wd_625 dX1_riskLeft_1 ?_
  refine Ev_aload_n 0 dX1_riskLeft_4 rfl rfl ?_
  refine Ev_callV (As := []) (b := 162) (st := [ev_r 166]) (M' := M_X1_full) cm_X1_full wd_1246 wd_1248 wd_55 yX_162 cl_X1 rfl dX1_riskLeft_5 (Nat.le_refl _) rfl (Nat.le_of_ble_eq_true rfl) (Nat.le_of_ble_eq_true rfl) h (fun v u h hk => ?_)
  obtain ⟨r2, rfl⟩ := hk
  obtain ⟨s1, rfl⟩ : ∃ x, x = u := ⟨_, rfl⟩
  replace h := h r2 rfl
  obtain ⟨h0, h⟩ := h
  refine Ev_iald yX_166 h0 dX1_riskLeft_8 ?_
  refine Ev_aload_n 0 dX1_riskLeft_9 rfl rfl ?_
  refine Ev_aload_n 0 dX1_riskLeft_10 rfl rfl ?_
  refine Ev_callV (As := []) (b := 162) (st := [ev_r 162, ev_i (s1 166 (Int.toNat r2))]) (M' := M_X1_everybody) cm_X1_everybody wd_1230 wd_1232 wd_51 yX_162 cl_X1 rfl dX1_riskLeft_11 (Nat.le_refl _) rfl (Nat.le_of_ble_eq_true rfl) (Nat.le_of_ble_eq_true rfl) h (fun v u h hk => ?_)
  obtain ⟨r4, rfl⟩ := hk
  obtain ⟨s3, rfl⟩ : ∃ x, x = u := ⟨_, rfl⟩
  replace h := h r4 rfl
  refine Ev_callV (As := [ev_i r4]) (b := 162) (st := [ev_i (s1 166 (Int.toNat r2))]) (M' := M_X1_most) cm_X1_most wd_1234 wd_1236 wd_52 yX_162 cl_X1 rfl dX1_riskLeft_14 (Nat.le_refl _) rfl (Nat.le_of_ble_eq_true rfl) (Nat.le_of_ble_eq_true rfl) h (fun v u h hk => ?_)
  obtain ⟨r6, rfl⟩ := hk
  obtain ⟨s5, rfl⟩ : ∃ x, x = u := ⟨_, rfl⟩
  replace h := h r6 rfl
  refine Ev_isub dX1_riskLeft_17 ?_
  exact Ev_iret rfl dX1_riskLeft_18 rfl h
theorem dX1_worth_0 : decode cX1_worth 0 = .ok (.aload_n 0, 1) := by decide +kernel
theorem dX1_worth_1 : decode cX1_worth 1 = .ok (.aload_n 0, 1) := by decide +kernel
theorem dX1_worth_2 : decode cX1_worth 2 = .ok (.invokevirtual 67, 3) := by decide +kernel
theorem dX1_worth_5 : decode cX1_worth 5 = .ok (.invokevirtual 70, 3) := by decide +kernel
theorem dX1_worth_8 : decode cX1_worth 8 = .ok (.aload_n 0, 1) := by decide +kernel
theorem dX1_worth_9 : decode cX1_worth 9 = .ok (.aload_n 0, 1) := by decide +kernel
theorem dX1_worth_10 : decode cX1_worth 10 = .ok (.invokevirtual 67, 3) := by decide +kernel
theorem dX1_worth_13 : decode cX1_worth 13 = .ok (.iconst 1, 1) := by decide +kernel
theorem dX1_worth_14 : decode cX1_worth 14 = .ok (.iload_n 1, 1) := by decide +kernel
theorem dX1_worth_15 : decode cX1_worth 15 = .ok (.ishl, 1) := by decide +kernel
theorem dX1_worth_16 : decode cX1_worth 16 = .ok (.iconst (-1), 1) := by decide +kernel
theorem dX1_worth_17 : decode cX1_worth 17 = .ok (.ixor, 1) := by decide +kernel
theorem dX1_worth_18 : decode cX1_worth 18 = .ok (.iand, 1) := by decide +kernel
theorem dX1_worth_19 : decode cX1_worth 19 = .ok (.invokevirtual 70, 3) := by decide +kernel
theorem dX1_worth_22 : decode cX1_worth 22 = .ok (.isub, 1) := by decide +kernel
theorem dX1_worth_23 : decode cX1_worth 23 = .ok (.ireturn, 1) := by decide +kernel
theorem wp_X1_worth_0 {d : Nat} {s : ev_S} {Q : Option ev_V → ev_S → Prop} {a1 : Int}
    (h : (Ev layX M_X1_everybody d 0 [(0, ev_r 162)] [] s (ev_pi (fun r2 s1 => (Ev layX M_X1_most d 0 [(0, ev_r 162), (1, ev_i r2)] [] s1 (ev_pi (fun r4 s3 => (Ev layX M_X1_everybody d 0 [(0, ev_r 162)] [] s3 (ev_pi (fun r6 s5 => (Ev layX M_X1_most d 0 [(0, ev_r 162), (1, ev_i (ev_and r6 (ev_xor (ev_shl 1 a1) (-1))))] [] s5 (ev_pi (fun r8 s7 => Q (some (ev_i (ev_sub r4 r8))) s7))))))))))))) :
    Ev layX M_X1_worth (d + 1) 0 [(0, ev_r 162), (1, ev_i a1)] [] s Q := by
  refine Ev_aload_n 0 dX1_worth_0 rfl rfl ?_
  refine Ev_aload_n 0 dX1_worth_1 rfl rfl ?_
  refine Ev_callV (As := []) (b := 162) (st := [ev_r 162]) (M' := M_X1_everybody) cm_X1_everybody wd_1230 wd_1232 wd_51 yX_162 cl_X1 rfl dX1_worth_2 (Nat.le_refl _) rfl (Nat.le_of_ble_eq_true rfl) (Nat.le_of_ble_eq_true rfl) h (fun v u h hk => ?_)
  obtain ⟨r2, rfl⟩ := hk
  obtain ⟨s1, rfl⟩ : ∃ x, x = u := ⟨_, rfl⟩
  replace h := h r2 rfl
  refine Ev_callV (As := [ev_i r2]) (b := 162) (st := []) (M' := M_X1_most) cm_X1_most wd_1234 wd_1236 wd_52 yX_162 cl_X1 rfl dX1_worth_5 (Nat.le_refl _) rfl (Nat.le_of_ble_eq_true rfl) (Nat.le_of_ble_eq_true rfl) h (fun v u h hk => ?_)
  obtain ⟨r4, rfl⟩ := hk
  obtain ⟨s3, rfl⟩ : ∃ x, x = u := ⟨_, rfl⟩
  replace h := h r4 rfl
  refine Ev_aload_n 0 dX1_worth_8 rfl rfl ?_
  refine Ev_aload_n 0 dX1_worth_9 rfl rfl ?_
  refine Ev_callV (As := []) (b := 162) (st := [ev_r 162, ev_i r4]) (M' := M_X1_everybody) cm_X1_everybody wd_1230 wd_1232 wd_51 yX_162 cl_X1 rfl dX1_worth_10 (Nat.le_refl _) rfl (Nat.le_of_ble_eq_true rfl) (Nat.le_of_ble_eq_true rfl) h (fun v u h hk => ?_)
  obtain ⟨r6, rfl⟩ := hk
  obtain ⟨s5, rfl⟩ : ∃ x, x = u := ⟨_, rfl⟩
  replace h := h r6 rfl
  refine Ev_iconst dX1_worth_13 rfl (ev_Rc rfl) ?_
  refine Ev_iload_n 1 dX1_worth_14 rfl rfl ?_
  refine Ev_ishl dX1_worth_15 ?_
  refine Ev_iconst dX1_worth_16 rfl (ev_Rc rfl) ?_
  refine Ev_ixor dX1_worth_17 ?_
  refine Ev_iand dX1_worth_18 ?_
  refine Ev_callV (As := [ev_i (ev_and r6 (ev_xor (ev_shl 1 a1) (-1)))]) (b := 162) (st := [ev_i r4]) (M' := M_X1_most) cm_X1_most wd_1234 wd_1236 wd_52 yX_162 cl_X1 rfl dX1_worth_19 (Nat.le_refl _) rfl (Nat.le_of_ble_eq_true rfl) (Nat.le_of_ble_eq_true rfl) h (fun v u h hk => ?_)
  obtain ⟨r8, rfl⟩ := hk
  obtain ⟨s7, rfl⟩ : ∃ x, x = u := ⟨_, rfl⟩
  replace h := h r8 rfl
  refine Ev_isub dX1_worth_22 ?_
  exact Ev_iret rfl dX1_worth_23 rfl h
theorem dX1_setOf_0 : decode cX1_setOf 0 = .ok (.aload_n 0, 1) := by decide +kernel
theorem dX1_setOf_1 : decode cX1_setOf 1 = .ok (.invokevirtual 74, 3) := by decide +kernel
theorem dX1_setOf_4 : decode cX1_setOf 4 = .ok (.aload_n 0, 1) := by decide +kernel
theorem dX1_setOf_5 : decode cX1_setOf 5 = .ok (.aload_n 0, 1) := by decide +kernel
theorem dX1_setOf_6 : decode cX1_setOf 6 = .ok (.getfield 45, 3) := by decide +kernel
theorem dX1_setOf_9 : decode cX1_setOf 9 = .ok (.iload_n 1, 1) := by decide +kernel
theorem dX1_setOf_10 : decode cX1_setOf 10 = .ok (.iaload, 1) := by decide +kernel
theorem dX1_setOf_11 : decode cX1_setOf 11 = .ok (.invokevirtual 77, 3) := by decide +kernel
theorem dX1_setOf_14 : decode cX1_setOf 14 = .ok (.ireturn, 1) := by decide +kernel
theorem wp_X1_setOf_0 {d : Nat} {s : ev_S} {Q : Option ev_V → ev_S → Prop} {a1 : Int}
    (h : (Ev layX M_X1_choose d 0 [(0, ev_r 162)] [] s (fun _ s1 => ((0 ≤ a1 ∧ a1 < (6 : Nat)) ∧ (Ev layX M_X1_spread d 0 [(0, ev_r 162), (1, ev_i (s1 174 (Int.toNat a1)))] [] s1 (ev_pi (fun r3 s2 => Q (some (ev_i r3)) s2))))))) :
    Ev layX M_X1_setOf (d + 1) 0 [(0, ev_r 162), (1, ev_i a1)] [] s Q := by
  refine Ev_aload_n 0 dX1_setOf_0 rfl rfl ?_
  refine Ev_callV (As := []) (b := 162) (st := []) (M' := M_X1_choose) cm_X1_choose wd_1310 wd_1312 wd_60 yX_162 cl_X1 rfl dX1_setOf_1 (Nat.le_refl _) rfl (Nat.le_of_ble_eq_true rfl) (Nat.le_of_ble_eq_true rfl) h (fun v u h hk => ?_)
  cases hk
  obtain ⟨s1, rfl⟩ : ∃ x, x = u := ⟨_, rfl⟩
  refine Ev_aload_n 0 dX1_setOf_4 rfl rfl ?_
  refine Ev_aload_n 0 dX1_setOf_5 rfl rfl ?_
  refine Ev_getR (i := 15) cl_X1 yX_162 (Nat.le_of_ble_eq_true rfl) rfl wd_633 dX1_setOf_6 ?_
  refine Ev_iload_n 1 dX1_setOf_9 rfl rfl ?_
  obtain ⟨h0, h⟩ := h
  refine Ev_iald yX_174 h0 dX1_setOf_10 ?_
  refine Ev_callV (As := [ev_i (s1 174 (Int.toNat a1))]) (b := 162) (st := []) (M' := M_X1_spread) cm_X1_spread wd_1323 wd_1325 wd_63 yX_162 cl_X1 rfl dX1_setOf_11 (Nat.le_refl _) rfl (Nat.le_of_ble_eq_true rfl) (Nat.le_of_ble_eq_true rfl) h (fun v u h hk => ?_)
  obtain ⟨r3, rfl⟩ := hk
  obtain ⟨s2, rfl⟩ : ∃ x, x = u := ⟨_, rfl⟩
  replace h := h r3 rfl
  exact Ev_iret rfl dX1_setOf_14 rfl h
theorem dX1_setLeft_0 : decode cX1_setLeft 0 = .ok (.aload_n 0, 1) := by decide +kernel
theorem dX1_setLeft_1 : decode cX1_setLeft 1 = .ok (.invokevirtual 74, 3) := by decide +kernel
theorem dX1_setLeft_4 : decode cX1_setLeft 4 = .ok (.aload_n 0, 1) := by decide +kernel
theorem dX1_setLeft_5 : decode cX1_setLeft 5 = .ok (.invokevirtual 63, 3) := by decide +kernel
theorem dX1_setLeft_8 : decode cX1_setLeft 8 = .ok (.istore_n 1, 1) := by decide +kernel
theorem dX1_setLeft_9 : decode cX1_setLeft 9 = .ok (.iconst 0, 1) := by decide +kernel
theorem dX1_setLeft_10 : decode cX1_setLeft 10 = .ok (.istore_n 2, 1) := by decide +kernel
theorem dX1_setLeft_11 : decode cX1_setLeft 11 = .ok (.iload_n 2, 1) := by decide +kernel
theorem dX1_setLeft_12 : decode cX1_setLeft 12 = .ok (.aload_n 0, 1) := by decide +kernel
theorem dX1_setLeft_13 : decode cX1_setLeft 13 = .ok (.getfield 51, 3) := by decide +kernel
theorem dX1_setLeft_16 : decode cX1_setLeft 16 = .ok (.getfield 80, 3) := by decide +kernel
theorem dX1_setLeft_19 : decode cX1_setLeft 19 = .ok (.if_icmp .ge 20, 3) := by decide +kernel
theorem dX1_setLeft_22 : decode cX1_setLeft 22 = .ok (.iload_n 1, 1) := by decide +kernel
theorem dX1_setLeft_23 : decode cX1_setLeft 23 = .ok (.aload_n 0, 1) := by decide +kernel
theorem dX1_setLeft_24 : decode cX1_setLeft 24 = .ok (.getfield 45, 3) := by decide +kernel
theorem dX1_setLeft_27 : decode cX1_setLeft 27 = .ok (.iload_n 2, 1) := by decide +kernel
theorem dX1_setLeft_28 : decode cX1_setLeft 28 = .ok (.iaload, 1) := by decide +kernel
theorem dX1_setLeft_29 : decode cX1_setLeft 29 = .ok (.iconst (-1), 1) := by decide +kernel
theorem dX1_setLeft_30 : decode cX1_setLeft 30 = .ok (.ixor, 1) := by decide +kernel
theorem dX1_setLeft_31 : decode cX1_setLeft 31 = .ok (.iand, 1) := by decide +kernel
theorem dX1_setLeft_32 : decode cX1_setLeft 32 = .ok (.istore_n 1, 1) := by decide +kernel
theorem dX1_setLeft_33 : decode cX1_setLeft 33 = .ok (.iinc 2 1, 3) := by decide +kernel
theorem dX1_setLeft_36 : decode cX1_setLeft 36 = .ok (.goto (-25), 3) := by decide +kernel
theorem dX1_setLeft_39 : decode cX1_setLeft 39 = .ok (.aload_n 0, 1) := by decide +kernel
theorem dX1_setLeft_40 : decode cX1_setLeft 40 = .ok (.iload_n 1, 1) := by decide +kernel
theorem dX1_setLeft_41 : decode cX1_setLeft 41 = .ok (.invokevirtual 77, 3) := by decide +kernel
theorem dX1_setLeft_44 : decode cX1_setLeft 44 = .ok (.ireturn, 1) := by decide +kernel
theorem wp_X1_setLeft_0 {d : Nat} {s : ev_S} {Q : Option ev_V → ev_S → Prop}
    (h : (Ev layX M_X1_choose d 0 [(0, ev_r 162)] [] s (fun _ s1 => (Ev layX M_X1_full d 0 [(0, ev_r 162)] [] s1 (ev_pi (fun r3 s2 => Ev layX M_X1_setLeft (d + 1) 11 [(0, ev_r 162), (1, ev_i r3), (2, ev_i 0)] [] s2 Q)))))) :
    Ev layX M_X1_setLeft (d + 1) 0 [(0, ev_r 162)] [] s Q := by
  refine Ev_aload_n 0 dX1_setLeft_0 rfl rfl ?_
  refine Ev_callV (As := []) (b := 162) (st := []) (M' := M_X1_choose) cm_X1_choose wd_1310 wd_1312 wd_60 yX_162 cl_X1 rfl dX1_setLeft_1 (Nat.le_refl _) rfl (Nat.le_of_ble_eq_true rfl) (Nat.le_of_ble_eq_true rfl) h (fun v u h hk => ?_)
  cases hk
  obtain ⟨s1, rfl⟩ : ∃ x, x = u := ⟨_, rfl⟩
  refine Ev_aload_n 0 dX1_setLeft_4 rfl rfl ?_
  refine Ev_callV (As := []) (b := 162) (st := []) (M' := M_X1_full) cm_X1_full wd_1246 wd_1248 wd_55 yX_162 cl_X1 rfl dX1_setLeft_5 (Nat.le_refl _) rfl (Nat.le_of_ble_eq_true rfl) (Nat.le_of_ble_eq_true rfl) h (fun v u h hk => ?_)
  obtain ⟨r3, rfl⟩ := hk
  obtain ⟨s2, rfl⟩ : ∃ x, x = u := ⟨_, rfl⟩
  replace h := h r3 rfl
  refine Ev_istore_n (l' := [(1, ev_i r3), (0, ev_r 162)]) dX1_setLeft_8 rfl (Nat.le_of_ble_eq_true rfl) rfl ?_
  refine Ev_iconst dX1_setLeft_9 rfl (ev_Rc rfl) ?_
  refine Ev_istore_n (l' := [(2, ev_i 0), (1, ev_i r3), (0, ev_r 162)]) dX1_setLeft_10 rfl (Nat.le_of_ble_eq_true rfl) rfl ?_
  exact Ev_sub [2, 1, 0] rfl h
theorem wp_X1_setLeft_11 {d : Nat} {s : ev_S} {Q : Option ev_V → ev_S → Prop} {a1 a2 : Int}
    (h : (((s 1 7) ≤ a2 → (Ev layX M_X1_spread d 0 [(0, ev_r 162), (1, ev_i a1)] [] s (ev_pi (fun r2 s1 => Q (some (ev_i r2)) s1)))) ∧ (a2 < (s 1 7) → ((0 ≤ a2 ∧ a2 < (6 : Nat)) ∧ Ev layX M_X1_setLeft (d + 1) 11 [(0, ev_r 162), (1, ev_i (ev_and a1 (ev_xor (s 174 (Int.toNat a2)) (-1)))), (2, ev_i (ev_add a2 1))] [] s Q)))) :
    Ev layX M_X1_setLeft (d + 1) 11 [(0, ev_r 162), (1, ev_i a1), (2, ev_i a2)] [] s Q := by
  refine Ev_iload_n 2 dX1_setLeft_11 rfl rfl ?_
  refine Ev_aload_n 0 dX1_setLeft_12 rfl rfl ?_
  refine Ev_getR (i := 0) cl_X1 yX_162 (Nat.le_of_ble_eq_true rfl) rfl wd_618 dX1_setLeft_13 ?_
  refine Ev_get (i := 7) cl_X10 yX_1 (Nat.le_of_ble_eq_true rfl) rfl wd_265 dX1_setLeft_16 ?_
  refine Ev_icmp_ge (tgt := 39) dX1_setLeft_19 rfl (fun c => ?_) (fun c => ?_)
  · replace h := h.1 c
    refine Ev_aload_n 0 dX1_setLeft_39 rfl rfl ?_
    refine Ev_iload_n 1 dX1_setLeft_40 rfl rfl ?_
    refine Ev_callV (As := [ev_i a1]) (b := 162) (st := []) (M' := M_X1_spread) cm_X1_spread wd_1323 wd_1325 wd_63 yX_162 cl_X1 rfl dX1_setLeft_41 (Nat.le_refl _) rfl (Nat.le_of_ble_eq_true rfl) (Nat.le_of_ble_eq_true rfl) h (fun v u h hk => ?_)
    obtain ⟨r2, rfl⟩ := hk
    obtain ⟨s1, rfl⟩ : ∃ x, x = u := ⟨_, rfl⟩
    replace h := h r2 rfl
    exact Ev_iret rfl dX1_setLeft_44 rfl h
  · replace h := h.2 c
    refine Ev_iload_n 1 dX1_setLeft_22 rfl rfl ?_
    refine Ev_aload_n 0 dX1_setLeft_23 rfl rfl ?_
    refine Ev_getR (i := 15) cl_X1 yX_162 (Nat.le_of_ble_eq_true rfl) rfl wd_633 dX1_setLeft_24 ?_
    refine Ev_iload_n 2 dX1_setLeft_27 rfl rfl ?_
    obtain ⟨h0, h⟩ := h
    refine Ev_iald yX_174 h0 dX1_setLeft_28 ?_
    refine Ev_iconst dX1_setLeft_29 rfl (ev_Rc rfl) ?_
    refine Ev_ixor dX1_setLeft_30 ?_
    refine Ev_iand dX1_setLeft_31 ?_
    refine Ev_istore_n (l' := [(1, ev_i (ev_and a1 (ev_xor (s 174 (Int.toNat a2)) (-1)))), (0, ev_r 162), (2, ev_i a2)]) dX1_setLeft_32 rfl (Nat.le_of_ble_eq_true rfl) rfl ?_
    refine Ev_iinc (j := 2) (l' := [(2, ev_i (ev_add a2 1)), (1, ev_i (ev_and a1 (ev_xor (s 174 (Int.toNat a2)) (-1)))), (0, ev_r 162)]) dX1_setLeft_33 rfl (Nat.le_of_ble_eq_true rfl) rfl ?_
    refine Ev_goto (tgt := 11) dX1_setLeft_36 rfl ?_
    exact Ev_sub [2, 1, 0] rfl h
theorem dX1_fewestGroup_0 : decode cX1_fewestGroup 0 = .ok (.aload_n 0, 1) := by decide +kernel
theorem dX1_fewestGroup_1 : decode cX1_fewestGroup 1 = .ok (.aload_n 0, 1) := by decide +kernel
theorem dX1_fewestGroup_2 : decode cX1_fewestGroup 2 = .ok (.invokevirtual 67, 3) := by decide +kernel
theorem dX1_fewestGroup_5 : decode cX1_fewestGroup 5 = .ok (.invokevirtual 70, 3) := by decide +kernel
theorem dX1_fewestGroup_8 : decode cX1_fewestGroup 8 = .ok (.istore_n 1, 1) := by decide +kernel
theorem dX1_fewestGroup_9 : decode cX1_fewestGroup 9 = .ok (.iconst 0, 1) := by decide +kernel
theorem dX1_fewestGroup_10 : decode cX1_fewestGroup 10 = .ok (.istore_n 2, 1) := by decide +kernel
theorem dX1_fewestGroup_11 : decode cX1_fewestGroup 11 = .ok (.iload_n 2, 1) := by decide +kernel
theorem dX1_fewestGroup_12 : decode cX1_fewestGroup 12 = .ok (.aload_n 0, 1) := by decide +kernel
theorem dX1_fewestGroup_13 : decode cX1_fewestGroup 13 = .ok (.getfield 51, 3) := by decide +kernel
theorem dX1_fewestGroup_16 : decode cX1_fewestGroup 16 = .ok (.getfield 80, 3) := by decide +kernel
theorem dX1_fewestGroup_19 : decode cX1_fewestGroup 19 = .ok (.if_icmp .ge 27, 3) := by decide +kernel
theorem dX1_fewestGroup_22 : decode cX1_fewestGroup 22 = .ok (.aload_n 0, 1) := by decide +kernel
theorem dX1_fewestGroup_23 : decode cX1_fewestGroup 23 = .ok (.getfield 86, 3) := by decide +kernel
theorem dX1_fewestGroup_26 : decode cX1_fewestGroup 26 = .ok (.iconst (-1), 1) := by decide +kernel
theorem dX1_fewestGroup_27 : decode cX1_fewestGroup 27 = .ok (.if_icmp .ne 19, 3) := by decide +kernel
theorem dX1_fewestGroup_30 : decode cX1_fewestGroup 30 = .ok (.aload_n 0, 1) := by decide +kernel
theorem dX1_fewestGroup_31 : decode cX1_fewestGroup 31 = .ok (.aload_n 0, 1) := by decide +kernel
theorem dX1_fewestGroup_32 : decode cX1_fewestGroup 32 = .ok (.iload_n 2, 1) := by decide +kernel
theorem dX1_fewestGroup_33 : decode cX1_fewestGroup 33 = .ok (.iload_n 1, 1) := by decide +kernel
theorem dX1_fewestGroup_34 : decode cX1_fewestGroup 34 = .ok (.invokevirtual 89, 3) := by decide +kernel
theorem dX1_fewestGroup_37 : decode cX1_fewestGroup 37 = .ok (.putfield 86, 3) := by decide +kernel
theorem dX1_fewestGroup_40 : decode cX1_fewestGroup 40 = .ok (.iinc 2 1, 3) := by decide +kernel
theorem dX1_fewestGroup_43 : decode cX1_fewestGroup 43 = .ok (.goto (-32), 3) := by decide +kernel
theorem dX1_fewestGroup_46 : decode cX1_fewestGroup 46 = .ok (.aload_n 0, 1) := by decide +kernel
theorem dX1_fewestGroup_47 : decode cX1_fewestGroup 47 = .ok (.getfield 86, 3) := by decide +kernel
theorem dX1_fewestGroup_50 : decode cX1_fewestGroup 50 = .ok (.iconst (-1), 1) := by decide +kernel
theorem dX1_fewestGroup_51 : decode cX1_fewestGroup 51 = .ok (.if_icmp .ne 11, 3) := by decide +kernel
theorem dX1_fewestGroup_54 : decode cX1_fewestGroup 54 = .ok (.aload_n 0, 1) := by decide +kernel
theorem dX1_fewestGroup_55 : decode cX1_fewestGroup 55 = .ok (.aload_n 0, 1) := by decide +kernel
theorem dX1_fewestGroup_56 : decode cX1_fewestGroup 56 = .ok (.invokevirtual 67, 3) := by decide +kernel
theorem dX1_fewestGroup_59 : decode cX1_fewestGroup 59 = .ok (.putfield 86, 3) := by decide +kernel
theorem dX1_fewestGroup_62 : decode cX1_fewestGroup 62 = .ok (.aload_n 0, 1) := by decide +kernel
theorem dX1_fewestGroup_63 : decode cX1_fewestGroup 63 = .ok (.getfield 86, 3) := by decide +kernel
theorem dX1_fewestGroup_66 : decode cX1_fewestGroup 66 = .ok (.ireturn, 1) := by decide +kernel
theorem wp_X1_fewestGroup_0 {d : Nat} {s : ev_S} {Q : Option ev_V → ev_S → Prop}
    (h : (Ev layX M_X1_everybody d 0 [(0, ev_r 162)] [] s (ev_pi (fun r2 s1 => (Ev layX M_X1_most d 0 [(0, ev_r 162), (1, ev_i r2)] [] s1 (ev_pi (fun r4 s3 => Ev layX M_X1_fewestGroup (d + 1) 11 [(0, ev_r 162), (1, ev_i r4), (2, ev_i 0)] [] s3 Q))))))) :
    Ev layX M_X1_fewestGroup (d + 1) 0 [(0, ev_r 162)] [] s Q := by
  refine Ev_aload_n 0 dX1_fewestGroup_0 rfl rfl ?_
  refine Ev_aload_n 0 dX1_fewestGroup_1 rfl rfl ?_
  refine Ev_callV (As := []) (b := 162) (st := [ev_r 162]) (M' := M_X1_everybody) cm_X1_everybody wd_1230 wd_1232 wd_51 yX_162 cl_X1 rfl dX1_fewestGroup_2 (Nat.le_refl _) rfl (Nat.le_of_ble_eq_true rfl) (Nat.le_of_ble_eq_true rfl) h (fun v u h hk => ?_)
  obtain ⟨r2, rfl⟩ := hk
  obtain ⟨s1, rfl⟩ : ∃ x, x = u := ⟨_, rfl⟩
  replace h := h r2 rfl
  refine Ev_callV (As := [ev_i r2]) (b := 162) (st := []) (M' := M_X1_most) cm_X1_most wd_1234 wd_1236 wd_52 yX_162 cl_X1 rfl dX1_fewestGroup_5 (Nat.le_refl _) rfl (Nat.le_of_ble_eq_true rfl) (Nat.le_of_ble_eq_true rfl) h (fun v u h hk => ?_)
  obtain ⟨r4, rfl⟩ := hk
  obtain ⟨s3, rfl⟩ : ∃ x, x = u := ⟨_, rfl⟩
  replace h := h r4 rfl
  refine Ev_istore_n (l' := [(1, ev_i r4), (0, ev_r 162)]) dX1_fewestGroup_8 rfl (Nat.le_of_ble_eq_true rfl) rfl ?_
  refine Ev_iconst dX1_fewestGroup_9 rfl (ev_Rc rfl) ?_
  refine Ev_istore_n (l' := [(2, ev_i 0), (1, ev_i r4), (0, ev_r 162)]) dX1_fewestGroup_10 rfl (Nat.le_of_ble_eq_true rfl) rfl ?_
  exact Ev_sub [2, 1, 0] rfl h
theorem wp_X1_fewestGroup_11 {d : Nat} {s : ev_S} {Q : Option ev_V → ev_S → Prop} {a1 a2 : Int}
    (h : (((s 1 7) ≤ a2 → Ev layX M_X1_fewestGroup (d + 1) 46 [(0, ev_r 162)] [] s Q) ∧ (a2 < (s 1 7) → (((s 162 18) ≠ (-1) → Ev layX M_X1_fewestGroup (d + 1) 46 [(0, ev_r 162)] [] s Q) ∧ ((s 162 18) = (-1) → (Ev layX M_X1_groupOf d 0 [(0, ev_r 162), (1, ev_i a2), (2, ev_i a1)] [] s (ev_pi (fun r2 s1 => (∀ s3, ev_up s1 162 18 r2 = s3 → Ev layX M_X1_fewestGroup (d + 1) 11 [(0, ev_r 162), (1, ev_i a1), (2, ev_i (ev_add a2 1))] [] s3 Q))))))))) :
    Ev layX M_X1_fewestGroup (d + 1) 11 [(0, ev_r 162), (1, ev_i a1), (2, ev_i a2)] [] s Q := by
  refine Ev_iload_n 2 dX1_fewestGroup_11 rfl rfl ?_
  refine Ev_aload_n 0 dX1_fewestGroup_12 rfl rfl ?_
  refine Ev_getR (i := 0) cl_X1 yX_162 (Nat.le_of_ble_eq_true rfl) rfl wd_618 dX1_fewestGroup_13 ?_
  refine Ev_get (i := 7) cl_X10 yX_1 (Nat.le_of_ble_eq_true rfl) rfl wd_265 dX1_fewestGroup_16 ?_
  refine Ev_icmp_ge (tgt := 46) dX1_fewestGroup_19 rfl (fun c => ?_) (fun c => ?_)
  · replace h := h.1 c
    exact Ev_sub [0] rfl h
  · replace h := h.2 c
    refine Ev_aload_n 0 dX1_fewestGroup_22 rfl rfl ?_
    refine Ev_get (i := 18) cl_X1 yX_162 (Nat.le_of_ble_eq_true rfl) rfl wd_636 dX1_fewestGroup_23 ?_
    refine Ev_iconst dX1_fewestGroup_26 rfl (ev_Rc rfl) ?_
    refine Ev_icmp_ne (tgt := 46) dX1_fewestGroup_27 rfl (fun c => ?_) (fun c => ?_)
    · replace h := h.1 c
      exact Ev_sub [0] rfl h
    · replace h := h.2 c
      refine Ev_aload_n 0 dX1_fewestGroup_30 rfl rfl ?_
      refine Ev_aload_n 0 dX1_fewestGroup_31 rfl rfl ?_
      refine Ev_iload_n 2 dX1_fewestGroup_32 rfl rfl ?_
      refine Ev_iload_n 1 dX1_fewestGroup_33 rfl rfl ?_
      refine Ev_callV (As := [ev_i a2, ev_i a1]) (b := 162) (st := [ev_r 162]) (M' := M_X1_groupOf) cm_X1_groupOf wd_1339 wd_1341 wd_64 yX_162 cl_X1 rfl dX1_fewestGroup_34 (Nat.le_refl _) rfl (Nat.le_of_ble_eq_true rfl) (Nat.le_of_ble_eq_true rfl) h (fun v u h hk => ?_)
      obtain ⟨r2, rfl⟩ := hk
      obtain ⟨s1, rfl⟩ : ∃ x, x = u := ⟨_, rfl⟩
      replace h := h r2 rfl
      refine Ev_put (i := 18) (ty := .int) cl_X1 yX_162 (Nat.le_of_ble_eq_true rfl) rfl rfl (by decide +kernel) rfl rfl wd_636 dX1_fewestGroup_37 (Ev_nm (fun s3 es3 => ?_))
      replace h := h s3 es3
      refine Ev_iinc (j := 2) (l' := [(2, ev_i (ev_add a2 1)), (0, ev_r 162), (1, ev_i a1)]) dX1_fewestGroup_40 rfl (Nat.le_of_ble_eq_true rfl) rfl ?_
      refine Ev_goto (tgt := 11) dX1_fewestGroup_43 rfl ?_
      exact Ev_sub [1, 2, 0] rfl h
theorem wp_X1_fewestGroup_46 {d : Nat} {s : ev_S} {Q : Option ev_V → ev_S → Prop}
    (h : (((s 162 18) ≠ (-1) → Q (some (ev_i (s 162 18))) s) ∧ ((s 162 18) = (-1) → (Ev layX M_X1_everybody d 0 [(0, ev_r 162)] [] s (ev_pi (fun r2 s1 => (∀ s3, ev_up s1 162 18 r2 = s3 → Q (some (ev_i (s3 162 18))) s3))))))) :
    Ev layX M_X1_fewestGroup (d + 1) 46 [(0, ev_r 162)] [] s Q := by
  refine Ev_aload_n 0 dX1_fewestGroup_46 rfl rfl ?_
  refine Ev_get (i := 18) cl_X1 yX_162 (Nat.le_of_ble_eq_true rfl) rfl wd_636 dX1_fewestGroup_47 ?_
  refine Ev_iconst dX1_fewestGroup_50 rfl (ev_Rc rfl) ?_
  refine Ev_icmp_ne (tgt := 62) dX1_fewestGroup_51 rfl (fun c => ?_) (fun c => ?_)
  · replace h := h.1 c
    refine Ev_aload_n 0 dX1_fewestGroup_62 rfl rfl ?_
    refine Ev_get (i := 18) cl_X1 yX_162 (Nat.le_of_ble_eq_true rfl) rfl wd_636 dX1_fewestGroup_63 ?_
    exact Ev_iret rfl dX1_fewestGroup_66 rfl h
  · replace h := h.2 c
    refine Ev_aload_n 0 dX1_fewestGroup_54 rfl rfl ?_
    refine Ev_aload_n 0 dX1_fewestGroup_55 rfl rfl ?_
    refine Ev_callV (As := []) (b := 162) (st := [ev_r 162]) (M' := M_X1_everybody) cm_X1_everybody wd_1230 wd_1232 wd_51 yX_162 cl_X1 rfl dX1_fewestGroup_56 (Nat.le_refl _) rfl (Nat.le_of_ble_eq_true rfl) (Nat.le_of_ble_eq_true rfl) h (fun v u h hk => ?_)
    obtain ⟨r2, rfl⟩ := hk
    obtain ⟨s1, rfl⟩ : ∃ x, x = u := ⟨_, rfl⟩
    replace h := h r2 rfl
    refine Ev_put (i := 18) (ty := .int) cl_X1 yX_162 (Nat.le_of_ble_eq_true rfl) rfl rfl (by decide +kernel) rfl rfl wd_636 dX1_fewestGroup_59 (Ev_nm (fun s3 es3 => ?_))
    replace h := h s3 es3
    refine Ev_aload_n 0 dX1_fewestGroup_62 rfl rfl ?_
    refine Ev_get (i := 18) cl_X1 yX_162 (Nat.le_of_ble_eq_true rfl) rfl wd_636 dX1_fewestGroup_63 ?_
    exact Ev_iret rfl dX1_fewestGroup_66 rfl h
theorem dX1_groupOf_0 : decode cX1_groupOf 0 = .ok (.iconst 0, 1) := by decide +kernel
theorem dX1_groupOf_1 : decode cX1_groupOf 1 = .ok (.istore_n 3, 1) := by decide +kernel
theorem dX1_groupOf_2 : decode cX1_groupOf 2 = .ok (.iload_n 3, 1) := by decide +kernel
theorem dX1_groupOf_3 : decode cX1_groupOf 3 = .ok (.aload_n 0, 1) := by decide +kernel
theorem dX1_groupOf_4 : decode cX1_groupOf 4 = .ok (.invokevirtual 67, 3) := by decide +kernel
theorem dX1_groupOf_7 : decode cX1_groupOf 7 = .ok (.if_icmp .gt 37, 3) := by decide +kernel
theorem dX1_groupOf_10 : decode cX1_groupOf 10 = .ok (.iload_n 3, 1) := by decide +kernel
theorem dX1_groupOf_11 : decode cX1_groupOf 11 = .ok (.invokestatic 93, 3) := by decide +kernel
theorem dX1_groupOf_14 : decode cX1_groupOf 14 = .ok (.iload_n 1, 1) := by decide +kernel
theorem dX1_groupOf_15 : decode cX1_groupOf 15 = .ok (.if_icmp .ne 23, 3) := by decide +kernel
theorem dX1_groupOf_18 : decode cX1_groupOf 18 = .ok (.aload_n 0, 1) := by decide +kernel
theorem dX1_groupOf_19 : decode cX1_groupOf 19 = .ok (.iload_n 3, 1) := by decide +kernel
theorem dX1_groupOf_20 : decode cX1_groupOf 20 = .ok (.invokevirtual 98, 3) := by decide +kernel
theorem dX1_groupOf_23 : decode cX1_groupOf 23 = .ok (.iload_n 2, 1) := by decide +kernel
theorem dX1_groupOf_24 : decode cX1_groupOf 24 = .ok (.if_icmp .lt 14, 3) := by decide +kernel
theorem dX1_groupOf_27 : decode cX1_groupOf 27 = .ok (.aload_n 0, 1) := by decide +kernel
theorem dX1_groupOf_28 : decode cX1_groupOf 28 = .ok (.iload_n 3, 1) := by decide +kernel
theorem dX1_groupOf_29 : decode cX1_groupOf 29 = .ok (.invokevirtual 70, 3) := by decide +kernel
theorem dX1_groupOf_32 : decode cX1_groupOf 32 = .ok (.iload_n 2, 1) := by decide +kernel
theorem dX1_groupOf_33 : decode cX1_groupOf 33 = .ok (.if_icmp .ne 5, 3) := by decide +kernel
theorem dX1_groupOf_36 : decode cX1_groupOf 36 = .ok (.iload_n 3, 1) := by decide +kernel
theorem dX1_groupOf_37 : decode cX1_groupOf 37 = .ok (.ireturn, 1) := by decide +kernel
theorem dX1_groupOf_38 : decode cX1_groupOf 38 = .ok (.iinc 3 1, 3) := by decide +kernel
theorem dX1_groupOf_41 : decode cX1_groupOf 41 = .ok (.goto (-39), 3) := by decide +kernel
theorem dX1_groupOf_44 : decode cX1_groupOf 44 = .ok (.iconst (-1), 1) := by decide +kernel
theorem dX1_groupOf_45 : decode cX1_groupOf 45 = .ok (.ireturn, 1) := by decide +kernel
theorem wp_X1_groupOf_0 {d : Nat} {s : ev_S} {Q : Option ev_V → ev_S → Prop} {a1 a2 : Int}
    (h : Ev layX M_X1_groupOf (d + 1) 2 [(0, ev_r 162), (1, ev_i a1), (2, ev_i a2), (3, ev_i 0)] [] s Q) :
    Ev layX M_X1_groupOf (d + 1) 0 [(0, ev_r 162), (1, ev_i a1), (2, ev_i a2)] [] s Q := by
  refine Ev_iconst dX1_groupOf_0 rfl (ev_Rc rfl) ?_
  refine Ev_istore_n (l' := [(3, ev_i 0), (0, ev_r 162), (1, ev_i a1), (2, ev_i a2)]) dX1_groupOf_1 rfl (Nat.le_of_ble_eq_true rfl) rfl ?_
  exact Ev_sub [1, 2, 3, 0] rfl h
theorem wp_X1_groupOf_2 {d : Nat} {s : ev_S} {Q : Option ev_V → ev_S → Prop} {a1 a2 a3 : Int}
    (h : (Ev layX M_X1_everybody d 0 [(0, ev_r 162)] [] s (ev_pi (fun r2 s1 => ((r2 < a3 → Q (some (ev_i (-1))) s1) ∧ (a3 ≤ r2 → (Ev layX M_J6_bitCount_0f7a4 d 0 [(0, ev_i a3)] [] s1 (ev_pi (fun r4 s3 => ((r4 ≠ a1 → Ev layX M_X1_groupOf (d + 1) 2 [(0, ev_r 162), (1, ev_i a1), (2, ev_i a2), (3, ev_i (ev_add a3 1))] [] s3 Q) ∧ (r4 = a1 → (Ev layX M_X1_reach d 0 [(0, ev_r 162), (1, ev_i a3)] [] s3 (ev_pi (fun r6 s5 => ((r6 < a2 → Ev layX M_X1_groupOf (d + 1) 2 [(0, ev_r 162), (1, ev_i a1), (2, ev_i a2), (3, ev_i (ev_add a3 1))] [] s5 Q) ∧ (a2 ≤ r6 → (Ev layX M_X1_most d 0 [(0, ev_r 162), (1, ev_i a3)] [] s5 (ev_pi (fun r8 s7 => ((r8 ≠ a2 → Ev layX M_X1_groupOf (d + 1) 2 [(0, ev_r 162), (1, ev_i a1), (2, ev_i a2), (3, ev_i (ev_add a3 1))] [] s7 Q) ∧ (r8 = a2 → Q (some (ev_i a3)) s7))))))))))))))))))))) :
    Ev layX M_X1_groupOf (d + 1) 2 [(0, ev_r 162), (1, ev_i a1), (2, ev_i a2), (3, ev_i a3)] [] s Q := by
  refine Ev_iload_n 3 dX1_groupOf_2 rfl rfl ?_
  refine Ev_aload_n 0 dX1_groupOf_3 rfl rfl ?_
  refine Ev_callV (As := []) (b := 162) (st := [ev_i a3]) (M' := M_X1_everybody) cm_X1_everybody wd_1230 wd_1232 wd_51 yX_162 cl_X1 rfl dX1_groupOf_4 (Nat.le_refl _) rfl (Nat.le_of_ble_eq_true rfl) (Nat.le_of_ble_eq_true rfl) h (fun v u h hk => ?_)
  obtain ⟨r2, rfl⟩ := hk
  obtain ⟨s1, rfl⟩ : ∃ x, x = u := ⟨_, rfl⟩
  replace h := h r2 rfl
  refine Ev_icmp_gt (tgt := 44) dX1_groupOf_7 rfl (fun c => ?_) (fun c => ?_)
  · replace h := h.1 c
    refine Ev_iconst dX1_groupOf_44 rfl (ev_Rc rfl) ?_
    exact Ev_iret rfl dX1_groupOf_45 rfl h
  · replace h := h.2 c
    refine Ev_iload_n 3 dX1_groupOf_10 rfl rfl ?_
    refine Ev_callS (As := [ev_i a3]) (st := []) (M' := M_J6_bitCount_0f7a4) cm_J6_bitCount_0f7a4 wd_1343 wd_1344 dX1_groupOf_11 (Nat.le_refl _) rfl (Nat.le_of_ble_eq_true rfl) (Nat.le_of_ble_eq_true rfl) h (fun v u h hk => ?_)
    obtain ⟨r4, rfl⟩ := hk
    obtain ⟨s3, rfl⟩ : ∃ x, x = u := ⟨_, rfl⟩
    replace h := h r4 rfl
    refine Ev_iload_n 1 dX1_groupOf_14 rfl rfl ?_
    refine Ev_icmp_ne (tgt := 38) dX1_groupOf_15 rfl (fun c => ?_) (fun c => ?_)
    · replace h := h.1 c
      refine Ev_iinc (j := 3) (l' := [(3, ev_i (ev_add a3 1)), (0, ev_r 162), (1, ev_i a1), (2, ev_i a2)]) dX1_groupOf_38 rfl (Nat.le_of_ble_eq_true rfl) rfl ?_
      refine Ev_goto (tgt := 2) dX1_groupOf_41 rfl ?_
      exact Ev_sub [1, 2, 3, 0] rfl h
    · replace h := h.2 c
      refine Ev_aload_n 0 dX1_groupOf_18 rfl rfl ?_
      refine Ev_iload_n 3 dX1_groupOf_19 rfl rfl ?_
      refine Ev_callV (As := [ev_i a3]) (b := 162) (st := []) (M' := M_X1_reach) cm_X1_reach wd_1349 wd_1351 wd_65 yX_162 cl_X1 rfl dX1_groupOf_20 (Nat.le_refl _) rfl (Nat.le_of_ble_eq_true rfl) (Nat.le_of_ble_eq_true rfl) h (fun v u h hk => ?_)
      obtain ⟨r6, rfl⟩ := hk
      obtain ⟨s5, rfl⟩ : ∃ x, x = u := ⟨_, rfl⟩
      replace h := h r6 rfl
      refine Ev_iload_n 2 dX1_groupOf_23 rfl rfl ?_
      refine Ev_icmp_lt (tgt := 38) dX1_groupOf_24 rfl (fun c => ?_) (fun c => ?_)
      · replace h := h.1 c
        refine Ev_iinc (j := 3) (l' := [(3, ev_i (ev_add a3 1)), (0, ev_r 162), (1, ev_i a1), (2, ev_i a2)]) dX1_groupOf_38 rfl (Nat.le_of_ble_eq_true rfl) rfl ?_
        refine Ev_goto (tgt := 2) dX1_groupOf_41 rfl ?_
        exact Ev_sub [1, 2, 3, 0] rfl h
      · replace h := h.2 c
        refine Ev_aload_n 0 dX1_groupOf_27 rfl rfl ?_
        refine Ev_iload_n 3 dX1_groupOf_28 rfl rfl ?_
        refine Ev_callV (As := [ev_i a3]) (b := 162) (st := []) (M' := M_X1_most) cm_X1_most wd_1234 wd_1236 wd_52 yX_162 cl_X1 rfl dX1_groupOf_29 (Nat.le_refl _) rfl (Nat.le_of_ble_eq_true rfl) (Nat.le_of_ble_eq_true rfl) h (fun v u h hk => ?_)
        obtain ⟨r8, rfl⟩ := hk
        obtain ⟨s7, rfl⟩ : ∃ x, x = u := ⟨_, rfl⟩
        replace h := h r8 rfl
        refine Ev_iload_n 2 dX1_groupOf_32 rfl rfl ?_
        refine Ev_icmp_ne (tgt := 38) dX1_groupOf_33 rfl (fun c => ?_) (fun c => ?_)
        · replace h := h.1 c
          refine Ev_iinc (j := 3) (l' := [(3, ev_i (ev_add a3 1)), (0, ev_r 162), (1, ev_i a1), (2, ev_i a2)]) dX1_groupOf_38 rfl (Nat.le_of_ble_eq_true rfl) rfl ?_
          refine Ev_goto (tgt := 2) dX1_groupOf_41 rfl ?_
          exact Ev_sub [1, 2, 3, 0] rfl h
        · replace h := h.2 c
          refine Ev_iload_n 3 dX1_groupOf_36 rfl rfl ?_
          exact Ev_iret rfl dX1_groupOf_37 rfl h
theorem dX1_reach_0 : decode cX1_reach 0 = .ok (.iconst 0, 1) := by decide +kernel
theorem dX1_reach_1 : decode cX1_reach 1 = .ok (.istore_n 2, 1) := by decide +kernel
theorem dX1_reach_2 : decode cX1_reach 2 = .ok (.iconst 0, 1) := by decide +kernel
theorem dX1_reach_3 : decode cX1_reach 3 = .ok (.istore_n 3, 1) := by decide +kernel
theorem dX1_reach_4 : decode cX1_reach 4 = .ok (.iload_n 3, 1) := by decide +kernel
theorem dX1_reach_5 : decode cX1_reach 5 = .ok (.aload_n 0, 1) := by decide +kernel
theorem dX1_reach_6 : decode cX1_reach 6 = .ok (.getfield 51, 3) := by decide +kernel
theorem dX1_reach_9 : decode cX1_reach 9 = .ok (.getfield 80, 3) := by decide +kernel
theorem dX1_reach_12 : decode cX1_reach 12 = .ok (.if_icmp .ge 26, 3) := by decide +kernel
theorem dX1_reach_15 : decode cX1_reach 15 = .ok (.iload_n 1, 1) := by decide +kernel
theorem dX1_reach_16 : decode cX1_reach 16 = .ok (.iload_n 3, 1) := by decide +kernel
theorem dX1_reach_17 : decode cX1_reach 17 = .ok (.ishr, 1) := by decide +kernel
theorem dX1_reach_18 : decode cX1_reach 18 = .ok (.iconst 1, 1) := by decide +kernel
theorem dX1_reach_19 : decode cX1_reach 19 = .ok (.iand, 1) := by decide +kernel
theorem dX1_reach_20 : decode cX1_reach 20 = .ok (.ifCond .eq 12, 3) := by decide +kernel
theorem dX1_reach_23 : decode cX1_reach 23 = .ok (.iload_n 2, 1) := by decide +kernel
theorem dX1_reach_24 : decode cX1_reach 24 = .ok (.aload_n 0, 1) := by decide +kernel
theorem dX1_reach_25 : decode cX1_reach 25 = .ok (.getfield 24, 3) := by decide +kernel
theorem dX1_reach_28 : decode cX1_reach 28 = .ok (.iload_n 3, 1) := by decide +kernel
theorem dX1_reach_29 : decode cX1_reach 29 = .ok (.iaload, 1) := by decide +kernel
theorem dX1_reach_30 : decode cX1_reach 30 = .ok (.ior, 1) := by decide +kernel
theorem dX1_reach_31 : decode cX1_reach 31 = .ok (.istore_n 2, 1) := by decide +kernel
theorem dX1_reach_32 : decode cX1_reach 32 = .ok (.iinc 3 1, 3) := by decide +kernel
theorem dX1_reach_35 : decode cX1_reach 35 = .ok (.goto (-31), 3) := by decide +kernel
theorem dX1_reach_38 : decode cX1_reach 38 = .ok (.aload_n 0, 1) := by decide +kernel
theorem dX1_reach_39 : decode cX1_reach 39 = .ok (.getfield 21, 3) := by decide +kernel
theorem dX1_reach_42 : decode cX1_reach 42 = .ok (.iload_n 2, 1) := by decide +kernel
theorem dX1_reach_43 : decode cX1_reach 43 = .ok (.aload_n 0, 1) := by decide +kernel
theorem dX1_reach_44 : decode cX1_reach 44 = .ok (.invokevirtual 63, 3) := by decide +kernel
theorem dX1_reach_47 : decode cX1_reach 47 = .ok (.iand, 1) := by decide +kernel
theorem dX1_reach_48 : decode cX1_reach 48 = .ok (.iaload, 1) := by decide +kernel
theorem dX1_reach_49 : decode cX1_reach 49 = .ok (.ireturn, 1) := by decide +kernel
theorem wp_X1_reach_0 {d : Nat} {s : ev_S} {Q : Option ev_V → ev_S → Prop} {a1 : Int}
    (h : Ev layX M_X1_reach (d + 1) 4 [(0, ev_r 162), (1, ev_i a1), (2, ev_i 0), (3, ev_i 0)] [] s Q) :
    Ev layX M_X1_reach (d + 1) 0 [(0, ev_r 162), (1, ev_i a1)] [] s Q := by
  refine Ev_iconst dX1_reach_0 rfl (ev_Rc rfl) ?_
  refine Ev_istore_n (l' := [(2, ev_i 0), (0, ev_r 162), (1, ev_i a1)]) dX1_reach_1 rfl (Nat.le_of_ble_eq_true rfl) rfl ?_
  refine Ev_iconst dX1_reach_2 rfl (ev_Rc rfl) ?_
  refine Ev_istore_n (l' := [(3, ev_i 0), (2, ev_i 0), (0, ev_r 162), (1, ev_i a1)]) dX1_reach_3 rfl (Nat.le_of_ble_eq_true rfl) rfl ?_
  exact Ev_sub [2, 3, 1, 0] rfl h
theorem wp_X1_reach_4 {d : Nat} {s : ev_S} {Q : Option ev_V → ev_S → Prop} {a1 a2 a3 : Int}
    (h : (((s 1 7) ≤ a3 → (Ev layX M_X1_full d 0 [(0, ev_r 162)] [] s (ev_pi (fun r2 s1 => ((0 ≤ (ev_and a2 r2) ∧ (ev_and a2 r2) < (1024 : Nat)) ∧ Q (some (ev_i (s1 166 (Int.toNat (ev_and a2 r2))))) s1))))) ∧ (a3 < (s 1 7) → (((ev_and (ev_shr a1 a3) 1) = 0 → Ev layX M_X1_reach (d + 1) 4 [(0, ev_r 162), (1, ev_i a1), (2, ev_i a2), (3, ev_i (ev_add a3 1))] [] s Q) ∧ ((ev_and (ev_shr a1 a3) 1) ≠ 0 → ((0 ≤ a3 ∧ a3 < (6 : Nat)) ∧ Ev layX M_X1_reach (d + 1) 4 [(0, ev_r 162), (1, ev_i a1), (2, ev_i (ev_or a2 (s 167 (Int.toNat a3)))), (3, ev_i (ev_add a3 1))] [] s Q)))))) :
    Ev layX M_X1_reach (d + 1) 4 [(0, ev_r 162), (1, ev_i a1), (2, ev_i a2), (3, ev_i a3)] [] s Q := by
  refine Ev_iload_n 3 dX1_reach_4 rfl rfl ?_
  refine Ev_aload_n 0 dX1_reach_5 rfl rfl ?_
  refine Ev_getR (i := 0) cl_X1 yX_162 (Nat.le_of_ble_eq_true rfl) rfl wd_618 dX1_reach_6 ?_
  refine Ev_get (i := 7) cl_X10 yX_1 (Nat.le_of_ble_eq_true rfl) rfl wd_265 dX1_reach_9 ?_
  refine Ev_icmp_ge (tgt := 38) dX1_reach_12 rfl (fun c => ?_) (fun c => ?_)
  · replace h := h.1 c
    refine Ev_aload_n 0 dX1_reach_38 rfl rfl ?_
    refine Ev_getR (i := 7) cl_X1 yX_162 (Nat.le_of_ble_eq_true rfl) rfl wd_625 dX1_reach_39 ?_
    refine Ev_iload_n 2 dX1_reach_42 rfl rfl ?_
    refine Ev_aload_n 0 dX1_reach_43 rfl rfl ?_
    refine Ev_callV (As := []) (b := 162) (st := [ev_i a2, ev_r 166]) (M' := M_X1_full) cm_X1_full wd_1246 wd_1248 wd_55 yX_162 cl_X1 rfl dX1_reach_44 (Nat.le_refl _) rfl (Nat.le_of_ble_eq_true rfl) (Nat.le_of_ble_eq_true rfl) h (fun v u h hk => ?_)
    obtain ⟨r2, rfl⟩ := hk
    obtain ⟨s1, rfl⟩ : ∃ x, x = u := ⟨_, rfl⟩
    replace h := h r2 rfl
    refine Ev_iand dX1_reach_47 ?_
    obtain ⟨h0, h⟩ := h
    refine Ev_iald yX_166 h0 dX1_reach_48 ?_
    exact Ev_iret rfl dX1_reach_49 rfl h
  · replace h := h.2 c
    refine Ev_iload_n 1 dX1_reach_15 rfl rfl ?_
    refine Ev_iload_n 3 dX1_reach_16 rfl rfl ?_
    refine Ev_ishr dX1_reach_17 ?_
    refine Ev_iconst dX1_reach_18 rfl (ev_Rc rfl) ?_
    refine Ev_iand dX1_reach_19 ?_
    refine Ev_if_eq (tgt := 32) dX1_reach_20 rfl (fun c => ?_) (fun c => ?_)
    · replace h := h.1 c
      refine Ev_iinc (j := 3) (l' := [(3, ev_i (ev_add a3 1)), (0, ev_r 162), (1, ev_i a1), (2, ev_i a2)]) dX1_reach_32 rfl (Nat.le_of_ble_eq_true rfl) rfl ?_
      refine Ev_goto (tgt := 4) dX1_reach_35 rfl ?_
      exact Ev_sub [1, 2, 3, 0] rfl h
    · replace h := h.2 c
      refine Ev_iload_n 2 dX1_reach_23 rfl rfl ?_
      refine Ev_aload_n 0 dX1_reach_24 rfl rfl ?_
      refine Ev_getR (i := 8) cl_X1 yX_162 (Nat.le_of_ble_eq_true rfl) rfl wd_626 dX1_reach_25 ?_
      refine Ev_iload_n 3 dX1_reach_28 rfl rfl ?_
      obtain ⟨h0, h⟩ := h
      refine Ev_iald yX_167 h0 dX1_reach_29 ?_
      refine Ev_ior dX1_reach_30 ?_
      refine Ev_istore_n (l' := [(2, ev_i (ev_or a2 (s 167 (Int.toNat a3)))), (0, ev_r 162), (1, ev_i a1), (3, ev_i a3)]) dX1_reach_31 rfl (Nat.le_of_ble_eq_true rfl) rfl ?_
      refine Ev_iinc (j := 3) (l' := [(3, ev_i (ev_add a3 1)), (2, ev_i (ev_or a2 (s 167 (Int.toNat a3)))), (0, ev_r 162), (1, ev_i a1)]) dX1_reach_32 rfl (Nat.le_of_ble_eq_true rfl) rfl ?_
      refine Ev_goto (tgt := 4) dX1_reach_35 rfl ?_
      exact Ev_sub [2, 3, 1, 0] rfl h
theorem dX1_everybody_0 : decode cX1_everybody 0 = .ok (.iconst 1, 1) := by decide +kernel
theorem dX1_everybody_1 : decode cX1_everybody 1 = .ok (.aload_n 0, 1) := by decide +kernel
theorem dX1_everybody_2 : decode cX1_everybody 2 = .ok (.getfield 51, 3) := by decide +kernel
theorem dX1_everybody_5 : decode cX1_everybody 5 = .ok (.getfield 80, 3) := by decide +kernel
theorem dX1_everybody_8 : decode cX1_everybody 8 = .ok (.ishl, 1) := by decide +kernel
theorem dX1_everybody_9 : decode cX1_everybody 9 = .ok (.iconst 1, 1) := by decide +kernel
theorem dX1_everybody_10 : decode cX1_everybody 10 = .ok (.isub, 1) := by decide +kernel
theorem dX1_everybody_11 : decode cX1_everybody 11 = .ok (.ireturn, 1) := by decide +kernel
theorem wp_X1_everybody_0 {d : Nat} {s : ev_S} {Q : Option ev_V → ev_S → Prop}
    (h : Q (some (ev_i (ev_sub (ev_shl 1 (s 1 7)) 1))) s) :
    Ev layX M_X1_everybody d 0 [(0, ev_r 162)] [] s Q := by
  refine Ev_iconst dX1_everybody_0 rfl (ev_Rc rfl) ?_
  refine Ev_aload_n 0 dX1_everybody_1 rfl rfl ?_
  refine Ev_getR (i := 0) cl_X1 yX_162 (Nat.le_of_ble_eq_true rfl) rfl wd_618 dX1_everybody_2 ?_
  refine Ev_get (i := 7) cl_X10 yX_1 (Nat.le_of_ble_eq_true rfl) rfl wd_265 dX1_everybody_5 ?_
  refine Ev_ishl dX1_everybody_8 ?_
  refine Ev_iconst dX1_everybody_9 rfl (ev_Rc rfl) ?_
  refine Ev_isub dX1_everybody_10 ?_
  exact Ev_iret rfl dX1_everybody_11 rfl h
theorem dX1_full_0 : decode cX1_full 0 = .ok (.iconst 1, 1) := by decide +kernel
theorem dX1_full_1 : decode cX1_full 1 = .ok (.aload_n 0, 1) := by decide +kernel
theorem dX1_full_2 : decode cX1_full 2 = .ok (.getfield 101, 3) := by decide +kernel
theorem dX1_full_5 : decode cX1_full 5 = .ok (.ishl, 1) := by decide +kernel
theorem dX1_full_6 : decode cX1_full 6 = .ok (.iconst 1, 1) := by decide +kernel
theorem dX1_full_7 : decode cX1_full 7 = .ok (.isub, 1) := by decide +kernel
theorem dX1_full_8 : decode cX1_full 8 = .ok (.ireturn, 1) := by decide +kernel
theorem wp_X1_full_0 {d : Nat} {s : ev_S} {Q : Option ev_V → ev_S → Prop}
    (h : Q (some (ev_i (ev_sub (ev_shl 1 (s 162 3)) 1))) s) :
    Ev layX M_X1_full d 0 [(0, ev_r 162)] [] s Q := by
  refine Ev_iconst dX1_full_0 rfl (ev_Rc rfl) ?_
  refine Ev_aload_n 0 dX1_full_1 rfl rfl ?_
  refine Ev_get (i := 3) cl_X1 yX_162 (Nat.le_of_ble_eq_true rfl) rfl wd_621 dX1_full_2 ?_
  refine Ev_ishl dX1_full_5 ?_
  refine Ev_iconst dX1_full_6 rfl (ev_Rc rfl) ?_
  refine Ev_isub dX1_full_7 ?_
  exact Ev_iret rfl dX1_full_8 rfl h
theorem dX1_spread_0 : decode cX1_spread 0 = .ok (.iconst 0, 1) := by decide +kernel
theorem dX1_spread_1 : decode cX1_spread 1 = .ok (.istore_n 2, 1) := by decide +kernel
theorem dX1_spread_2 : decode cX1_spread 2 = .ok (.iconst 0, 1) := by decide +kernel
theorem dX1_spread_3 : decode cX1_spread 3 = .ok (.istore_n 3, 1) := by decide +kernel
theorem dX1_spread_4 : decode cX1_spread 4 = .ok (.iload_n 3, 1) := by decide +kernel
theorem dX1_spread_5 : decode cX1_spread 5 = .ok (.aload_n 0, 1) := by decide +kernel
theorem dX1_spread_6 : decode cX1_spread 6 = .ok (.getfield 101, 3) := by decide +kernel
theorem dX1_spread_9 : decode cX1_spread 9 = .ok (.if_icmp .ge 28, 3) := by decide +kernel
theorem dX1_spread_12 : decode cX1_spread 12 = .ok (.iload_n 1, 1) := by decide +kernel
theorem dX1_spread_13 : decode cX1_spread 13 = .ok (.iload_n 3, 1) := by decide +kernel
theorem dX1_spread_14 : decode cX1_spread 14 = .ok (.ishr, 1) := by decide +kernel
theorem dX1_spread_15 : decode cX1_spread 15 = .ok (.iconst 1, 1) := by decide +kernel
theorem dX1_spread_16 : decode cX1_spread 16 = .ok (.iand, 1) := by decide +kernel
theorem dX1_spread_17 : decode cX1_spread 17 = .ok (.ifCond .eq 14, 3) := by decide +kernel
theorem dX1_spread_20 : decode cX1_spread 20 = .ok (.iload_n 2, 1) := by decide +kernel
theorem dX1_spread_21 : decode cX1_spread 21 = .ok (.iconst 1, 1) := by decide +kernel
theorem dX1_spread_22 : decode cX1_spread 22 = .ok (.aload_n 0, 1) := by decide +kernel
theorem dX1_spread_23 : decode cX1_spread 23 = .ok (.getfield 11, 3) := by decide +kernel
theorem dX1_spread_26 : decode cX1_spread 26 = .ok (.iload_n 3, 1) := by decide +kernel
theorem dX1_spread_27 : decode cX1_spread 27 = .ok (.iaload, 1) := by decide +kernel
theorem dX1_spread_28 : decode cX1_spread 28 = .ok (.ishl, 1) := by decide +kernel
theorem dX1_spread_29 : decode cX1_spread 29 = .ok (.ior, 1) := by decide +kernel
theorem dX1_spread_30 : decode cX1_spread 30 = .ok (.istore_n 2, 1) := by decide +kernel
theorem dX1_spread_31 : decode cX1_spread 31 = .ok (.iinc 3 1, 3) := by decide +kernel
theorem dX1_spread_34 : decode cX1_spread 34 = .ok (.goto (-30), 3) := by decide +kernel
theorem dX1_spread_37 : decode cX1_spread 37 = .ok (.iload_n 2, 1) := by decide +kernel
theorem dX1_spread_38 : decode cX1_spread 38 = .ok (.ireturn, 1) := by decide +kernel
theorem wp_X1_spread_0 {d : Nat} {s : ev_S} {Q : Option ev_V → ev_S → Prop} {a1 : Int}
    (h : Ev layX M_X1_spread d 4 [(0, ev_r 162), (1, ev_i a1), (2, ev_i 0), (3, ev_i 0)] [] s Q) :
    Ev layX M_X1_spread d 0 [(0, ev_r 162), (1, ev_i a1)] [] s Q := by
  refine Ev_iconst dX1_spread_0 rfl (ev_Rc rfl) ?_
  refine Ev_istore_n (l' := [(2, ev_i 0), (0, ev_r 162), (1, ev_i a1)]) dX1_spread_1 rfl (Nat.le_of_ble_eq_true rfl) rfl ?_
  refine Ev_iconst dX1_spread_2 rfl (ev_Rc rfl) ?_
  refine Ev_istore_n (l' := [(3, ev_i 0), (2, ev_i 0), (0, ev_r 162), (1, ev_i a1)]) dX1_spread_3 rfl (Nat.le_of_ble_eq_true rfl) rfl ?_
  exact Ev_sub [2, 3, 1, 0] rfl h
theorem wp_X1_spread_4 {d : Nat} {s : ev_S} {Q : Option ev_V → ev_S → Prop} {a1 a2 a3 : Int}
    (h : (((s 162 3) ≤ a3 → Q (some (ev_i a2)) s) ∧ (a3 < (s 162 3) → (((ev_and (ev_shr a1 a3) 1) = 0 → Ev layX M_X1_spread d 4 [(0, ev_r 162), (1, ev_i a1), (2, ev_i a2), (3, ev_i (ev_add a3 1))] [] s Q) ∧ ((ev_and (ev_shr a1 a3) 1) ≠ 0 → ((0 ≤ a3 ∧ a3 < (10 : Nat)) ∧ Ev layX M_X1_spread d 4 [(0, ev_r 162), (1, ev_i a1), (2, ev_i (ev_or a2 (ev_shl 1 (s 163 (Int.toNat a3))))), (3, ev_i (ev_add a3 1))] [] s Q)))))) :
    Ev layX M_X1_spread d 4 [(0, ev_r 162), (1, ev_i a1), (2, ev_i a2), (3, ev_i a3)] [] s Q := by
  refine Ev_iload_n 3 dX1_spread_4 rfl rfl ?_
  refine Ev_aload_n 0 dX1_spread_5 rfl rfl ?_
  refine Ev_get (i := 3) cl_X1 yX_162 (Nat.le_of_ble_eq_true rfl) rfl wd_621 dX1_spread_6 ?_
  refine Ev_icmp_ge (tgt := 37) dX1_spread_9 rfl (fun c => ?_) (fun c => ?_)
  · replace h := h.1 c
    refine Ev_iload_n 2 dX1_spread_37 rfl rfl ?_
    exact Ev_iret rfl dX1_spread_38 rfl h
  · replace h := h.2 c
    refine Ev_iload_n 1 dX1_spread_12 rfl rfl ?_
    refine Ev_iload_n 3 dX1_spread_13 rfl rfl ?_
    refine Ev_ishr dX1_spread_14 ?_
    refine Ev_iconst dX1_spread_15 rfl (ev_Rc rfl) ?_
    refine Ev_iand dX1_spread_16 ?_
    refine Ev_if_eq (tgt := 31) dX1_spread_17 rfl (fun c => ?_) (fun c => ?_)
    · replace h := h.1 c
      refine Ev_iinc (j := 3) (l' := [(3, ev_i (ev_add a3 1)), (0, ev_r 162), (1, ev_i a1), (2, ev_i a2)]) dX1_spread_31 rfl (Nat.le_of_ble_eq_true rfl) rfl ?_
      refine Ev_goto (tgt := 4) dX1_spread_34 rfl ?_
      exact Ev_sub [1, 2, 3, 0] rfl h
    · replace h := h.2 c
      refine Ev_iload_n 2 dX1_spread_20 rfl rfl ?_
      refine Ev_iconst dX1_spread_21 rfl (ev_Rc rfl) ?_
      refine Ev_aload_n 0 dX1_spread_22 rfl rfl ?_
      refine Ev_getR (i := 4) cl_X1 yX_162 (Nat.le_of_ble_eq_true rfl) rfl wd_622 dX1_spread_23 ?_
      refine Ev_iload_n 3 dX1_spread_26 rfl rfl ?_
      obtain ⟨h0, h⟩ := h
      refine Ev_iald yX_163 h0 dX1_spread_27 ?_
      refine Ev_ishl dX1_spread_28 ?_
      refine Ev_ior dX1_spread_29 ?_
      refine Ev_istore_n (l' := [(2, ev_i (ev_or a2 (ev_shl 1 (s 163 (Int.toNat a3))))), (0, ev_r 162), (1, ev_i a1), (3, ev_i a3)]) dX1_spread_30 rfl (Nat.le_of_ble_eq_true rfl) rfl ?_
      refine Ev_iinc (j := 3) (l' := [(3, ev_i (ev_add a3 1)), (2, ev_i (ev_or a2 (ev_shl 1 (s 163 (Int.toNat a3))))), (0, ev_r 162), (1, ev_i a1)]) dX1_spread_31 rfl (Nat.le_of_ble_eq_true rfl) rfl ?_
      refine Ev_goto (tgt := 4) dX1_spread_34 rfl ?_
      exact Ev_sub [2, 3, 1, 0] rfl h
theorem dX1_holds_0 : decode cX1_holds 0 = .ok (.iload_n 1, 1) := by decide +kernel
theorem dX1_holds_1 : decode cX1_holds 1 = .ok (.bipush 32, 2) := by decide +kernel
theorem dX1_holds_3 : decode cX1_holds 3 = .ok (.imul, 1) := by decide +kernel
theorem dX1_holds_4 : decode cX1_holds 4 = .ok (.iload_n 2, 1) := by decide +kernel
theorem dX1_holds_5 : decode cX1_holds 5 = .ok (.iconst 5, 1) := by decide +kernel
theorem dX1_holds_6 : decode cX1_holds 6 = .ok (.ishr, 1) := by decide +kernel
theorem dX1_holds_7 : decode cX1_holds 7 = .ok (.iadd, 1) := by decide +kernel
theorem dX1_holds_8 : decode cX1_holds 8 = .ok (.istore_n 3, 1) := by decide +kernel
theorem dX1_holds_9 : decode cX1_holds 9 = .ok (.iload_n 3, 1) := by decide +kernel
theorem dX1_holds_10 : decode cX1_holds 10 = .ok (.ifCond .lt 26, 3) := by decide +kernel
theorem dX1_holds_13 : decode cX1_holds 13 = .ok (.iload_n 3, 1) := by decide +kernel
theorem dX1_holds_14 : decode cX1_holds 14 = .ok (.aload_n 0, 1) := by decide +kernel
theorem dX1_holds_15 : decode cX1_holds 15 = .ok (.arraylength, 1) := by decide +kernel
theorem dX1_holds_16 : decode cX1_holds 16 = .ok (.if_icmp .ge 20, 3) := by decide +kernel
theorem dX1_holds_19 : decode cX1_holds 19 = .ok (.aload_n 0, 1) := by decide +kernel
theorem dX1_holds_20 : decode cX1_holds 20 = .ok (.iload_n 3, 1) := by decide +kernel
theorem dX1_holds_21 : decode cX1_holds 21 = .ok (.iaload, 1) := by decide +kernel
theorem dX1_holds_22 : decode cX1_holds 22 = .ok (.iload_n 2, 1) := by decide +kernel
theorem dX1_holds_23 : decode cX1_holds 23 = .ok (.bipush 31, 2) := by decide +kernel
theorem dX1_holds_25 : decode cX1_holds 25 = .ok (.iand, 1) := by decide +kernel
theorem dX1_holds_26 : decode cX1_holds 26 = .ok (.iushr, 1) := by decide +kernel
theorem dX1_holds_27 : decode cX1_holds 27 = .ok (.iconst 1, 1) := by decide +kernel
theorem dX1_holds_28 : decode cX1_holds 28 = .ok (.iand, 1) := by decide +kernel
theorem dX1_holds_29 : decode cX1_holds 29 = .ok (.ifCond .eq 7, 3) := by decide +kernel
theorem dX1_holds_32 : decode cX1_holds 32 = .ok (.iconst 1, 1) := by decide +kernel
theorem dX1_holds_33 : decode cX1_holds 33 = .ok (.goto 4, 3) := by decide +kernel
theorem dX1_holds_36 : decode cX1_holds 36 = .ok (.iconst 0, 1) := by decide +kernel
theorem dX1_holds_37 : decode cX1_holds 37 = .ok (.ireturn, 1) := by decide +kernel
theorem wp_X1_holds_0 {d : Nat} {k0 n0 : Nat} (hk0 : layX[k0]? = some (.inl (0, n0))) (hn0 : n0 < 2147483648) {s : ev_S} {Q : Option ev_V → ev_S → Prop} {a1 a2 : Int}
    (h : (((ev_add (ev_mul a1 32) (ev_shr a2 5)) < 0 → Q (some (ev_i 0)) s) ∧ (0 ≤ (ev_add (ev_mul a1 32) (ev_shr a2 5)) → ((((n0 : Nat) : Int) ≤ (ev_add (ev_mul a1 32) (ev_shr a2 5)) → Q (some (ev_i 0)) s) ∧ ((ev_add (ev_mul a1 32) (ev_shr a2 5)) < ((n0 : Nat) : Int) → ((0 ≤ (ev_add (ev_mul a1 32) (ev_shr a2 5)) ∧ (ev_add (ev_mul a1 32) (ev_shr a2 5)) < (n0 : Nat)) ∧ (((ev_and (ev_ushr (s k0 (Int.toNat (ev_add (ev_mul a1 32) (ev_shr a2 5)))) (ev_and a2 31)) 1) = 0 → Q (some (ev_i 0)) s) ∧ ((ev_and (ev_ushr (s k0 (Int.toNat (ev_add (ev_mul a1 32) (ev_shr a2 5)))) (ev_and a2 31)) 1) ≠ 0 → Q (some (ev_i 1)) s)))))))) :
    Ev layX M_X1_holds d 0 [(0, ev_r k0), (1, ev_i a1), (2, ev_i a2)] [] s Q := by
  refine Ev_iload_n 1 dX1_holds_0 rfl rfl ?_
  refine Ev_bipushC dX1_holds_1 rfl ?_
  refine Ev_imul dX1_holds_3 ?_
  refine Ev_iload_n 2 dX1_holds_4 rfl rfl ?_
  refine Ev_iconst dX1_holds_5 rfl (ev_Rc rfl) ?_
  refine Ev_ishr dX1_holds_6 ?_
  refine Ev_iadd dX1_holds_7 ?_
  refine Ev_istore_n (l' := [(3, ev_i (ev_add (ev_mul a1 32) (ev_shr a2 5))), (0, ev_r k0), (1, ev_i a1), (2, ev_i a2)]) dX1_holds_8 rfl (Nat.le_of_ble_eq_true rfl) rfl ?_
  refine Ev_iload_n 0 dX1_holds_9 rfl rfl ?_
  refine Ev_if_lt (tgt := 36) dX1_holds_10 rfl (fun c => ?_) (fun c => ?_)
  · replace h := h.1 c
    refine Ev_iconst dX1_holds_36 rfl (ev_Rc rfl) ?_
    exact Ev_iret rfl dX1_holds_37 (ev_nb (by decide)) h
  · replace h := h.2 c
    refine Ev_iload_n 0 dX1_holds_13 rfl rfl ?_
    refine Ev_aload_n 1 dX1_holds_14 rfl rfl ?_
    refine Ev_alen hk0 hn0 dX1_holds_15 ?_
    refine Ev_icmp_ge (tgt := 36) dX1_holds_16 rfl (fun c => ?_) (fun c => ?_)
    · replace h := h.1 c
      refine Ev_iconst dX1_holds_36 rfl (ev_Rc rfl) ?_
      exact Ev_iret rfl dX1_holds_37 (ev_nb (by decide)) h
    · replace h := h.2 c
      refine Ev_aload_n 1 dX1_holds_19 rfl rfl ?_
      refine Ev_iload_n 0 dX1_holds_20 rfl rfl ?_
      obtain ⟨h0, h⟩ := h
      refine Ev_iald hk0 h0 dX1_holds_21 ?_
      refine Ev_iload_n 3 dX1_holds_22 rfl rfl ?_
      refine Ev_bipushC dX1_holds_23 rfl ?_
      refine Ev_iand dX1_holds_25 ?_
      refine Ev_iushr dX1_holds_26 ?_
      refine Ev_iconst dX1_holds_27 rfl (ev_Rc rfl) ?_
      refine Ev_iand dX1_holds_28 ?_
      refine Ev_if_eq (tgt := 36) dX1_holds_29 rfl (fun c => ?_) (fun c => ?_)
      · replace h := h.1 c
        refine Ev_iconst dX1_holds_36 rfl (ev_Rc rfl) ?_
        exact Ev_iret rfl dX1_holds_37 (ev_nb (by decide)) h
      · replace h := h.2 c
        refine Ev_iconst dX1_holds_32 rfl (ev_Rc rfl) ?_
        refine Ev_goto (tgt := 37) dX1_holds_33 rfl ?_
        exact Ev_iret rfl dX1_holds_37 (ev_nb (by decide)) h
theorem dX1_put_0 : decode cX1_put 0 = .ok (.iload_n 1, 1) := by decide +kernel
theorem dX1_put_1 : decode cX1_put 1 = .ok (.bipush 32, 2) := by decide +kernel
theorem dX1_put_3 : decode cX1_put 3 = .ok (.imul, 1) := by decide +kernel
theorem dX1_put_4 : decode cX1_put 4 = .ok (.iload_n 2, 1) := by decide +kernel
theorem dX1_put_5 : decode cX1_put 5 = .ok (.iconst 5, 1) := by decide +kernel
theorem dX1_put_6 : decode cX1_put 6 = .ok (.ishr, 1) := by decide +kernel
theorem dX1_put_7 : decode cX1_put 7 = .ok (.iadd, 1) := by decide +kernel
theorem dX1_put_8 : decode cX1_put 8 = .ok (.istore_n 3, 1) := by decide +kernel
theorem dX1_put_9 : decode cX1_put 9 = .ok (.iload_n 3, 1) := by decide +kernel
theorem dX1_put_10 : decode cX1_put 10 = .ok (.ifCond .lt 21, 3) := by decide +kernel
theorem dX1_put_13 : decode cX1_put 13 = .ok (.iload_n 3, 1) := by decide +kernel
theorem dX1_put_14 : decode cX1_put 14 = .ok (.aload_n 0, 1) := by decide +kernel
theorem dX1_put_15 : decode cX1_put 15 = .ok (.arraylength, 1) := by decide +kernel
theorem dX1_put_16 : decode cX1_put 16 = .ok (.if_icmp .ge 15, 3) := by decide +kernel
theorem dX1_put_19 : decode cX1_put 19 = .ok (.aload_n 0, 1) := by decide +kernel
theorem dX1_put_20 : decode cX1_put 20 = .ok (.iload_n 3, 1) := by decide +kernel
theorem dX1_put_21 : decode cX1_put 21 = .ok (.dup2, 1) := by decide +kernel
theorem dX1_put_22 : decode cX1_put 22 = .ok (.iaload, 1) := by decide +kernel
theorem dX1_put_23 : decode cX1_put 23 = .ok (.iconst 1, 1) := by decide +kernel
theorem dX1_put_24 : decode cX1_put 24 = .ok (.iload_n 2, 1) := by decide +kernel
theorem dX1_put_25 : decode cX1_put 25 = .ok (.bipush 31, 2) := by decide +kernel
theorem dX1_put_27 : decode cX1_put 27 = .ok (.iand, 1) := by decide +kernel
theorem dX1_put_28 : decode cX1_put 28 = .ok (.ishl, 1) := by decide +kernel
theorem dX1_put_29 : decode cX1_put 29 = .ok (.ior, 1) := by decide +kernel
theorem dX1_put_30 : decode cX1_put 30 = .ok (.iastore, 1) := by decide +kernel
theorem dX1_put_31 : decode cX1_put 31 = .ok (.return_, 1) := by decide +kernel
theorem wp_X1_put_0 {d : Nat} {k0 n0 : Nat} (hk0 : layX[k0]? = some (.inl (0, n0))) (hn0 : n0 < 2147483648) {s : ev_S} {Q : Option ev_V → ev_S → Prop} {a1 a2 : Int}
    (h : (((ev_add (ev_mul a1 32) (ev_shr a2 5)) < 0 → Q none s) ∧ (0 ≤ (ev_add (ev_mul a1 32) (ev_shr a2 5)) → ((((n0 : Nat) : Int) ≤ (ev_add (ev_mul a1 32) (ev_shr a2 5)) → Q none s) ∧ ((ev_add (ev_mul a1 32) (ev_shr a2 5)) < ((n0 : Nat) : Int) → ((0 ≤ (ev_add (ev_mul a1 32) (ev_shr a2 5)) ∧ (ev_add (ev_mul a1 32) (ev_shr a2 5)) < (n0 : Nat)) ∧ ((0 ≤ (ev_add (ev_mul a1 32) (ev_shr a2 5)) ∧ (ev_add (ev_mul a1 32) (ev_shr a2 5)) < (n0 : Nat)) ∧ ∀ s1, ev_up s k0 (Int.toNat (ev_add (ev_mul a1 32) (ev_shr a2 5))) (ev_or (s k0 (Int.toNat (ev_add (ev_mul a1 32) (ev_shr a2 5)))) (ev_shl 1 (ev_and a2 31))) = s1 → Q none s1))))))) :
    Ev layX M_X1_put d 0 [(0, ev_r k0), (1, ev_i a1), (2, ev_i a2)] [] s Q := by
  refine Ev_iload_n 1 dX1_put_0 rfl rfl ?_
  refine Ev_bipushC dX1_put_1 rfl ?_
  refine Ev_imul dX1_put_3 ?_
  refine Ev_iload_n 2 dX1_put_4 rfl rfl ?_
  refine Ev_iconst dX1_put_5 rfl (ev_Rc rfl) ?_
  refine Ev_ishr dX1_put_6 ?_
  refine Ev_iadd dX1_put_7 ?_
  refine Ev_istore_n (l' := [(3, ev_i (ev_add (ev_mul a1 32) (ev_shr a2 5))), (0, ev_r k0), (1, ev_i a1), (2, ev_i a2)]) dX1_put_8 rfl (Nat.le_of_ble_eq_true rfl) rfl ?_
  refine Ev_iload_n 0 dX1_put_9 rfl rfl ?_
  refine Ev_if_lt (tgt := 31) dX1_put_10 rfl (fun c => ?_) (fun c => ?_)
  · replace h := h.1 c
    exact Ev_vret rfl dX1_put_31 h
  · replace h := h.2 c
    refine Ev_iload_n 0 dX1_put_13 rfl rfl ?_
    refine Ev_aload_n 1 dX1_put_14 rfl rfl ?_
    refine Ev_alen hk0 hn0 dX1_put_15 ?_
    refine Ev_icmp_ge (tgt := 31) dX1_put_16 rfl (fun c => ?_) (fun c => ?_)
    · replace h := h.1 c
      exact Ev_vret rfl dX1_put_31 h
    · replace h := h.2 c
      refine Ev_aload_n 1 dX1_put_19 rfl rfl ?_
      refine Ev_iload_n 0 dX1_put_20 rfl rfl ?_
      refine Ev_dup2 dX1_put_21 rfl rfl ?_
      obtain ⟨h0, h⟩ := h
      refine Ev_iald hk0 h0 dX1_put_22 ?_
      refine Ev_iconst dX1_put_23 rfl (ev_Rc rfl) ?_
      refine Ev_iload_n 3 dX1_put_24 rfl rfl ?_
      refine Ev_bipushC dX1_put_25 rfl ?_
      refine Ev_iand dX1_put_27 ?_
      refine Ev_ishl dX1_put_28 ?_
      refine Ev_ior dX1_put_29 ?_
      obtain ⟨h0, h⟩ := h
      refine Ev_iast hk0 h0 dX1_put_30 (Ev_nm (fun s1 es1 => ?_))
      replace h := h s1 es1
      exact Ev_vret rfl dX1_put_31 h
theorem dX1_prepare_0 : decode cX1_prepare 0 = .ok (.aload_n 0, 1) := by decide +kernel
theorem dX1_prepare_1 : decode cX1_prepare 1 = .ok (.getfield 104, 3) := by decide +kernel
theorem dX1_prepare_4 : decode cX1_prepare 4 = .ok (.ifCond .eq 4, 3) := by decide +kernel
theorem dX1_prepare_7 : decode cX1_prepare 7 = .ok (.return_, 1) := by decide +kernel
theorem dX1_prepare_8 : decode cX1_prepare 8 = .ok (.aload_n 0, 1) := by decide +kernel
theorem dX1_prepare_9 : decode cX1_prepare 9 = .ok (.iconst 1, 1) := by decide +kernel
theorem dX1_prepare_10 : decode cX1_prepare 10 = .ok (.putfield 104, 3) := by decide +kernel
theorem dX1_prepare_13 : decode cX1_prepare 13 = .ok (.aload_n 0, 1) := by decide +kernel
theorem dX1_prepare_14 : decode cX1_prepare 14 = .ok (.iconst 0, 1) := by decide +kernel
theorem dX1_prepare_15 : decode cX1_prepare 15 = .ok (.putfield 108, 3) := by decide +kernel
theorem dX1_prepare_18 : decode cX1_prepare 18 = .ok (.aload_n 0, 1) := by decide +kernel
theorem dX1_prepare_19 : decode cX1_prepare 19 = .ok (.iconst (-1), 1) := by decide +kernel
theorem dX1_prepare_20 : decode cX1_prepare 20 = .ok (.putfield 86, 3) := by decide +kernel
theorem dX1_prepare_23 : decode cX1_prepare 23 = .ok (.aload_n 0, 1) := by decide +kernel
theorem dX1_prepare_24 : decode cX1_prepare 24 = .ok (.invokevirtual 111, 3) := by decide +kernel
theorem dX1_prepare_27 : decode cX1_prepare 27 = .ok (.aload_n 0, 1) := by decide +kernel
theorem dX1_prepare_28 : decode cX1_prepare 28 = .ok (.invokevirtual 114, 3) := by decide +kernel
theorem dX1_prepare_31 : decode cX1_prepare 31 = .ok (.aload_n 0, 1) := by decide +kernel
theorem dX1_prepare_32 : decode cX1_prepare 32 = .ok (.invokevirtual 117, 3) := by decide +kernel
theorem dX1_prepare_35 : decode cX1_prepare 35 = .ok (.aload_n 0, 1) := by decide +kernel
theorem dX1_prepare_36 : decode cX1_prepare 36 = .ok (.getfield 27, 3) := by decide +kernel
theorem dX1_prepare_39 : decode cX1_prepare 39 = .ok (.iconst 0, 1) := by decide +kernel
theorem dX1_prepare_40 : decode cX1_prepare 40 = .ok (.invokestatic 120, 3) := by decide +kernel
theorem dX1_prepare_43 : decode cX1_prepare 43 = .ok (.iconst 0, 1) := by decide +kernel
theorem dX1_prepare_44 : decode cX1_prepare 44 = .ok (.istore_n 1, 1) := by decide +kernel
theorem dX1_prepare_45 : decode cX1_prepare 45 = .ok (.iload_n 1, 1) := by decide +kernel
theorem dX1_prepare_46 : decode cX1_prepare 46 = .ok (.aload_n 0, 1) := by decide +kernel
theorem dX1_prepare_47 : decode cX1_prepare 47 = .ok (.getfield 51, 3) := by decide +kernel
theorem dX1_prepare_50 : decode cX1_prepare 50 = .ok (.getfield 80, 3) := by decide +kernel
theorem dX1_prepare_53 : decode cX1_prepare 53 = .ok (.if_icmp .ge 19, 3) := by decide +kernel
theorem dX1_prepare_56 : decode cX1_prepare 56 = .ok (.aload_n 0, 1) := by decide +kernel
theorem dX1_prepare_57 : decode cX1_prepare 57 = .ok (.iload_n 1, 1) := by decide +kernel
theorem dX1_prepare_58 : decode cX1_prepare 58 = .ok (.invokevirtual 126, 3) := by decide +kernel
theorem dX1_prepare_61 : decode cX1_prepare 61 = .ok (.aload_n 0, 1) := by decide +kernel
theorem dX1_prepare_62 : decode cX1_prepare 62 = .ok (.iload_n 1, 1) := by decide +kernel
theorem dX1_prepare_63 : decode cX1_prepare 63 = .ok (.invokevirtual 130, 3) := by decide +kernel
theorem dX1_prepare_66 : decode cX1_prepare 66 = .ok (.iinc 1 1, 3) := by decide +kernel
theorem dX1_prepare_69 : decode cX1_prepare 69 = .ok (.goto (-24), 3) := by decide +kernel
theorem dX1_prepare_72 : decode cX1_prepare 72 = .ok (.aload_n 0, 1) := by decide +kernel
theorem dX1_prepare_73 : decode cX1_prepare 73 = .ok (.getfield 30, 3) := by decide +kernel
theorem dX1_prepare_76 : decode cX1_prepare 76 = .ok (.iconst 0, 1) := by decide +kernel
theorem dX1_prepare_77 : decode cX1_prepare 77 = .ok (.invokestatic 120, 3) := by decide +kernel
theorem dX1_prepare_80 : decode cX1_prepare 80 = .ok (.aload_n 0, 1) := by decide +kernel
theorem dX1_prepare_81 : decode cX1_prepare 81 = .ok (.getfield 39, 3) := by decide +kernel
theorem dX1_prepare_84 : decode cX1_prepare 84 = .ok (.iconst 0, 1) := by decide +kernel
theorem dX1_prepare_85 : decode cX1_prepare 85 = .ok (.invokestatic 120, 3) := by decide +kernel
theorem dX1_prepare_88 : decode cX1_prepare 88 = .ok (.aload_n 0, 1) := by decide +kernel
theorem dX1_prepare_89 : decode cX1_prepare 89 = .ok (.getfield 30, 3) := by decide +kernel
theorem dX1_prepare_92 : decode cX1_prepare 92 = .ok (.iconst 0, 1) := by decide +kernel
theorem dX1_prepare_93 : decode cX1_prepare 93 = .ok (.iconst 0, 1) := by decide +kernel
theorem dX1_prepare_94 : decode cX1_prepare 94 = .ok (.invokestatic 133, 3) := by decide +kernel
theorem dX1_prepare_97 : decode cX1_prepare 97 = .ok (.aload_n 0, 1) := by decide +kernel
theorem dX1_prepare_98 : decode cX1_prepare 98 = .ok (.getfield 39, 3) := by decide +kernel
theorem dX1_prepare_101 : decode cX1_prepare 101 = .ok (.iconst 0, 1) := by decide +kernel
theorem dX1_prepare_102 : decode cX1_prepare 102 = .ok (.iconst 1, 1) := by decide +kernel
theorem dX1_prepare_103 : decode cX1_prepare 103 = .ok (.iastore, 1) := by decide +kernel
theorem dX1_prepare_104 : decode cX1_prepare 104 = .ok (.return_, 1) := by decide +kernel
theorem wp_X1_prepare_0 {d : Nat} {s : ev_S} {Q : Option ev_V → ev_S → Prop}
    (h : (((s 162 19) = 0 → (∀ s1, ev_up s 162 19 1 = s1 → (∀ s2, ev_up s1 162 17 0 = s2 → (∀ s3, ev_up s2 162 18 (-1) = s3 → (Ev layX M_X1_pick d 0 [(0, ev_r 162)] [] s3 (fun _ s4 => (Ev layX M_X1_measure d 0 [(0, ev_r 162)] [] s4 (fun _ s5 => (Ev layX M_X1_addRisks d 0 [(0, ev_r 162)] [] s5 (fun _ s6 => (Ev layX M_J7_fill_53178 d 0 [(0, ev_r 168), (1, ev_i 0)] [] s6 (fun _ s7 => Ev layX M_X1_prepare (d + 1) 45 [(0, ev_r 162), (1, ev_i 0)] [] s7 Q)))))))))))) ∧ ((s 162 19) ≠ 0 → Q none s))) :
    Ev layX M_X1_prepare (d + 1) 0 [(0, ev_r 162)] [] s Q := by
  refine Ev_aload_n 0 dX1_prepare_0 rfl rfl ?_
  refine Ev_get (i := 19) cl_X1 yX_162 (Nat.le_of_ble_eq_true rfl) rfl wd_637 dX1_prepare_1 ?_
  refine Ev_if_eq (tgt := 8) dX1_prepare_4 rfl (fun c => ?_) (fun c => ?_)
  · replace h := h.1 c
    refine Ev_aload_n 0 dX1_prepare_8 rfl rfl ?_
    refine Ev_iconst dX1_prepare_9 rfl (ev_Rc rfl) ?_
    refine Ev_put (i := 19) (ty := .boolean) cl_X1 yX_162 (Nat.le_of_ble_eq_true rfl) rfl rfl (by decide +kernel) (ev_nb (by decide)) (ev_fb (by decide)) wd_637 dX1_prepare_10 (Ev_nm (fun s1 es1 => ?_))
    replace h := h s1 es1
    refine Ev_aload_n 0 dX1_prepare_13 rfl rfl ?_
    refine Ev_iconst dX1_prepare_14 rfl (ev_Rc rfl) ?_
    refine Ev_put (i := 17) (ty := .boolean) cl_X1 yX_162 (Nat.le_of_ble_eq_true rfl) rfl rfl (by decide +kernel) (ev_nb (by decide)) (ev_fb (by decide)) wd_635 dX1_prepare_15 (Ev_nm (fun s2 es2 => ?_))
    replace h := h s2 es2
    refine Ev_aload_n 0 dX1_prepare_18 rfl rfl ?_
    refine Ev_iconst dX1_prepare_19 rfl (ev_Rc rfl) ?_
    refine Ev_put (i := 18) (ty := .int) cl_X1 yX_162 (Nat.le_of_ble_eq_true rfl) rfl rfl (by decide +kernel) rfl rfl wd_636 dX1_prepare_20 (Ev_nm (fun s3 es3 => ?_))
    replace h := h s3 es3
    refine Ev_aload_n 0 dX1_prepare_23 rfl rfl ?_
    refine Ev_callV (As := []) (b := 162) (st := []) (M' := M_X1_pick) cm_X1_pick wd_1152 wd_1154 wd_38 yX_162 cl_X1 rfl dX1_prepare_24 (Nat.le_refl _) rfl (Nat.le_of_ble_eq_true rfl) (Nat.le_of_ble_eq_true rfl) h (fun v u h hk => ?_)
    cases hk
    obtain ⟨s4, rfl⟩ : ∃ x, x = u := ⟨_, rfl⟩
    refine Ev_aload_n 0 dX1_prepare_27 rfl rfl ?_
    refine Ev_callV (As := []) (b := 162) (st := []) (M' := M_X1_measure) cm_X1_measure wd_1173 wd_1175 wd_41 yX_162 cl_X1 rfl dX1_prepare_28 (Nat.le_refl _) rfl (Nat.le_of_ble_eq_true rfl) (Nat.le_of_ble_eq_true rfl) h (fun v u h hk => ?_)
    cases hk
    obtain ⟨s5, rfl⟩ : ∃ x, x = u := ⟨_, rfl⟩
    refine Ev_aload_n 0 dX1_prepare_31 rfl rfl ?_
    refine Ev_callV (As := []) (b := 162) (st := []) (M' := M_X1_addRisks) cm_X1_addRisks wd_1182 wd_1184 wd_43 yX_162 cl_X1 rfl dX1_prepare_32 (Nat.le_refl _) rfl (Nat.le_of_ble_eq_true rfl) (Nat.le_of_ble_eq_true rfl) h (fun v u h hk => ?_)
    cases hk
    obtain ⟨s6, rfl⟩ : ∃ x, x = u := ⟨_, rfl⟩
    refine Ev_aload_n 0 dX1_prepare_35 rfl rfl ?_
    refine Ev_getR (i := 9) cl_X1 yX_162 (Nat.le_of_ble_eq_true rfl) rfl wd_627 dX1_prepare_36 ?_
    refine Ev_iconst dX1_prepare_39 rfl (ev_Rc rfl) ?_
    refine Ev_callS (As := [ev_r 168, ev_i 0]) (st := []) (M' := M_J7_fill_53178) cm_J7_fill_53178 wd_1190 wd_685 dX1_prepare_40 (Nat.le_refl _) rfl (Nat.le_of_ble_eq_true rfl) (Nat.le_of_ble_eq_true rfl) h (fun v u h hk => ?_)
    cases hk
    obtain ⟨s7, rfl⟩ : ∃ x, x = u := ⟨_, rfl⟩
    refine Ev_iconst dX1_prepare_43 rfl (ev_Rc rfl) ?_
    refine Ev_istore_n (l' := [(1, ev_i 0), (0, ev_r 162)]) dX1_prepare_44 rfl (Nat.le_of_ble_eq_true rfl) rfl ?_
    exact Ev_sub [1, 0] rfl h
  · replace h := h.2 c
    exact Ev_vret rfl dX1_prepare_7 h
theorem wp_X1_prepare_45 {d : Nat} {s : ev_S} {Q : Option ev_V → ev_S → Prop} {a1 : Int}
    (h : (((s 1 7) ≤ a1 → (Ev layX M_J7_fill_53178 d 0 [(0, ev_r 169), (1, ev_i 0)] [] s (fun _ s1 => (Ev layX M_J7_fill_53178 d 0 [(0, ev_r 172), (1, ev_i 0)] [] s1 (fun _ s2 => (Ev layX M_X1_put d 0 [(0, ev_r 169), (1, ev_i 0), (2, ev_i 0)] [] s2 (fun _ s3 => (∀ s4, ev_up s3 172 0 1 = s4 → Q none s4)))))))) ∧ (a1 < (s 1 7) → (Ev layX M_X1_findAble d 0 [(0, ev_r 162), (1, ev_i a1)] [] s (fun _ s5 => (Ev layX M_X1_findWidest d 0 [(0, ev_r 162), (1, ev_i a1)] [] s5 (fun _ s6 => Ev layX M_X1_prepare (d + 1) 45 [(0, ev_r 162), (1, ev_i (ev_add a1 1))] [] s6 Q))))))) :
    Ev layX M_X1_prepare (d + 1) 45 [(0, ev_r 162), (1, ev_i a1)] [] s Q := by
  refine Ev_iload_n 1 dX1_prepare_45 rfl rfl ?_
  refine Ev_aload_n 0 dX1_prepare_46 rfl rfl ?_
  refine Ev_getR (i := 0) cl_X1 yX_162 (Nat.le_of_ble_eq_true rfl) rfl wd_618 dX1_prepare_47 ?_
  refine Ev_get (i := 7) cl_X10 yX_1 (Nat.le_of_ble_eq_true rfl) rfl wd_265 dX1_prepare_50 ?_
  refine Ev_icmp_ge (tgt := 72) dX1_prepare_53 rfl (fun c => ?_) (fun c => ?_)
  · replace h := h.1 c
    refine Ev_aload_n 0 dX1_prepare_72 rfl rfl ?_
    refine Ev_getR (i := 10) cl_X1 yX_162 (Nat.le_of_ble_eq_true rfl) rfl wd_628 dX1_prepare_73 ?_
    refine Ev_iconst dX1_prepare_76 rfl (ev_Rc rfl) ?_
    refine Ev_callS (As := [ev_r 169, ev_i 0]) (st := []) (M' := M_J7_fill_53178) cm_J7_fill_53178 wd_1190 wd_685 dX1_prepare_77 (Nat.le_refl _) rfl (Nat.le_of_ble_eq_true rfl) (Nat.le_of_ble_eq_true rfl) h (fun v u h hk => ?_)
    cases hk
    obtain ⟨s1, rfl⟩ : ∃ x, x = u := ⟨_, rfl⟩
    refine Ev_aload_n 0 dX1_prepare_80 rfl rfl ?_
    refine Ev_getR (i := 13) cl_X1 yX_162 (Nat.le_of_ble_eq_true rfl) rfl wd_631 dX1_prepare_81 ?_
    refine Ev_iconst dX1_prepare_84 rfl (ev_Rc rfl) ?_
    refine Ev_callS (As := [ev_r 172, ev_i 0]) (st := []) (M' := M_J7_fill_53178) cm_J7_fill_53178 wd_1190 wd_685 dX1_prepare_85 (Nat.le_refl _) rfl (Nat.le_of_ble_eq_true rfl) (Nat.le_of_ble_eq_true rfl) h (fun v u h hk => ?_)
    cases hk
    obtain ⟨s2, rfl⟩ : ∃ x, x = u := ⟨_, rfl⟩
    refine Ev_aload_n 0 dX1_prepare_88 rfl rfl ?_
    refine Ev_getR (i := 10) cl_X1 yX_162 (Nat.le_of_ble_eq_true rfl) rfl wd_628 dX1_prepare_89 ?_
    refine Ev_iconst dX1_prepare_92 rfl (ev_Rc rfl) ?_
    refine Ev_iconst dX1_prepare_93 rfl (ev_Rc rfl) ?_
    refine Ev_callS (As := [ev_r 169, ev_i 0, ev_i 0]) (st := []) (M' := M_X1_put) cm_X1_put wd_1204 wd_1205 dX1_prepare_94 (Nat.le_refl _) rfl (Nat.le_of_ble_eq_true rfl) (Nat.le_of_ble_eq_true rfl) h (fun v u h hk => ?_)
    cases hk
    obtain ⟨s3, rfl⟩ : ∃ x, x = u := ⟨_, rfl⟩
    refine Ev_aload_n 0 dX1_prepare_97 rfl rfl ?_
    refine Ev_getR (i := 13) cl_X1 yX_162 (Nat.le_of_ble_eq_true rfl) rfl wd_631 dX1_prepare_98 ?_
    refine Ev_iconst dX1_prepare_101 rfl (ev_Rc rfl) ?_
    refine Ev_iconst dX1_prepare_102 rfl (ev_Rc rfl) ?_
    refine Ev_iast yX_172 (by decide) dX1_prepare_103 (Ev_nm (fun s4 es4 => ?_))
    replace h := h s4 es4
    exact Ev_vret rfl dX1_prepare_104 h
  · replace h := h.2 c
    refine Ev_aload_n 0 dX1_prepare_56 rfl rfl ?_
    refine Ev_iload_n 1 dX1_prepare_57 rfl rfl ?_
    refine Ev_callV (As := [ev_i a1]) (b := 162) (st := []) (M' := M_X1_findAble) cm_X1_findAble wd_1191 wd_1193 wd_44 yX_162 cl_X1 rfl dX1_prepare_58 (Nat.le_refl _) rfl (Nat.le_of_ble_eq_true rfl) (Nat.le_of_ble_eq_true rfl) h (fun v u h hk => ?_)
    cases hk
    obtain ⟨s5, rfl⟩ : ∃ x, x = u := ⟨_, rfl⟩
    refine Ev_aload_n 0 dX1_prepare_61 rfl rfl ?_
    refine Ev_iload_n 1 dX1_prepare_62 rfl rfl ?_
    refine Ev_callV (As := [ev_i a1]) (b := 162) (st := []) (M' := M_X1_findWidest) cm_X1_findWidest wd_1218 wd_1220 wd_49 yX_162 cl_X1 rfl dX1_prepare_63 (Nat.le_refl _) rfl (Nat.le_of_ble_eq_true rfl) (Nat.le_of_ble_eq_true rfl) h (fun v u h hk => ?_)
    cases hk
    obtain ⟨s6, rfl⟩ : ∃ x, x = u := ⟨_, rfl⟩
    refine Ev_iinc (j := 1) (l' := [(1, ev_i (ev_add a1 1)), (0, ev_r 162)]) dX1_prepare_66 rfl (Nat.le_of_ble_eq_true rfl) rfl ?_
    refine Ev_goto (tgt := 45) dX1_prepare_69 rfl ?_
    exact Ev_sub [1, 0] rfl h
theorem dX1_pick_0 : decode cX1_pick 0 = .ok (.aload_n 0, 1) := by decide +kernel
theorem dX1_pick_1 : decode cX1_pick 1 = .ok (.iconst 0, 1) := by decide +kernel
theorem dX1_pick_2 : decode cX1_pick 2 = .ok (.putfield 101, 3) := by decide +kernel
theorem dX1_pick_5 : decode cX1_pick 5 = .ok (.iconst 0, 1) := by decide +kernel
theorem dX1_pick_6 : decode cX1_pick 6 = .ok (.istore_n 1, 1) := by decide +kernel
theorem dX1_pick_7 : decode cX1_pick 7 = .ok (.iload_n 1, 1) := by decide +kernel
theorem dX1_pick_8 : decode cX1_pick 8 = .ok (.aload_n 0, 1) := by decide +kernel
theorem dX1_pick_9 : decode cX1_pick 9 = .ok (.getfield 51, 3) := by decide +kernel
theorem dX1_pick_12 : decode cX1_pick 12 = .ok (.getfield 137, 3) := by decide +kernel
theorem dX1_pick_15 : decode cX1_pick 15 = .ok (.if_icmp .ge 62, 3) := by decide +kernel
theorem dX1_pick_18 : decode cX1_pick 18 = .ok (.aload_n 0, 1) := by decide +kernel
theorem dX1_pick_19 : decode cX1_pick 19 = .ok (.getfield 59, 3) := by decide +kernel
theorem dX1_pick_22 : decode cX1_pick 22 = .ok (.iload_n 1, 1) := by decide +kernel
theorem dX1_pick_23 : decode cX1_pick 23 = .ok (.invokevirtual 140, 3) := by decide +kernel
theorem dX1_pick_26 : decode cX1_pick 26 = .ok (.istore_n 2, 1) := by decide +kernel
theorem dX1_pick_27 : decode cX1_pick 27 = .ok (.iload_n 2, 1) := by decide +kernel
theorem dX1_pick_28 : decode cX1_pick 28 = .ok (.iconst (-1), 1) := by decide +kernel
theorem dX1_pick_29 : decode cX1_pick 29 = .ok (.if_icmp .eq 42, 3) := by decide +kernel
theorem dX1_pick_32 : decode cX1_pick 32 = .ok (.aload_n 0, 1) := by decide +kernel
theorem dX1_pick_33 : decode cX1_pick 33 = .ok (.getfield 101, 3) := by decide +kernel
theorem dX1_pick_36 : decode cX1_pick 36 = .ok (.bipush 10, 2) := by decide +kernel
theorem dX1_pick_38 : decode cX1_pick 38 = .ok (.if_icmp .ge 33, 3) := by decide +kernel
theorem dX1_pick_41 : decode cX1_pick 41 = .ok (.aload_n 0, 1) := by decide +kernel
theorem dX1_pick_42 : decode cX1_pick 42 = .ok (.getfield 11, 3) := by decide +kernel
theorem dX1_pick_45 : decode cX1_pick 45 = .ok (.aload_n 0, 1) := by decide +kernel
theorem dX1_pick_46 : decode cX1_pick 46 = .ok (.getfield 101, 3) := by decide +kernel
theorem dX1_pick_49 : decode cX1_pick 49 = .ok (.iload_n 1, 1) := by decide +kernel
theorem dX1_pick_50 : decode cX1_pick 50 = .ok (.iastore, 1) := by decide +kernel
theorem dX1_pick_51 : decode cX1_pick 51 = .ok (.aload_n 0, 1) := by decide +kernel
theorem dX1_pick_52 : decode cX1_pick 52 = .ok (.getfield 15, 3) := by decide +kernel
theorem dX1_pick_55 : decode cX1_pick 55 = .ok (.aload_n 0, 1) := by decide +kernel
theorem dX1_pick_56 : decode cX1_pick 56 = .ok (.getfield 101, 3) := by decide +kernel
theorem dX1_pick_59 : decode cX1_pick 59 = .ok (.iload_n 2, 1) := by decide +kernel
theorem dX1_pick_60 : decode cX1_pick 60 = .ok (.iastore, 1) := by decide +kernel
theorem dX1_pick_61 : decode cX1_pick 61 = .ok (.aload_n 0, 1) := by decide +kernel
theorem dX1_pick_62 : decode cX1_pick 62 = .ok (.dup, 1) := by decide +kernel
theorem dX1_pick_63 : decode cX1_pick 63 = .ok (.getfield 101, 3) := by decide +kernel
theorem dX1_pick_66 : decode cX1_pick 66 = .ok (.iconst 1, 1) := by decide +kernel
theorem dX1_pick_67 : decode cX1_pick 67 = .ok (.iadd, 1) := by decide +kernel
theorem dX1_pick_68 : decode cX1_pick 68 = .ok (.putfield 101, 3) := by decide +kernel
theorem dX1_pick_71 : decode cX1_pick 71 = .ok (.iinc 1 1, 3) := by decide +kernel
theorem dX1_pick_74 : decode cX1_pick 74 = .ok (.goto (-67), 3) := by decide +kernel
theorem dX1_pick_77 : decode cX1_pick 77 = .ok (.return_, 1) := by decide +kernel
theorem wp_X1_pick_0 {d : Nat} {s : ev_S} {Q : Option ev_V → ev_S → Prop}
    (h : (∀ s1, ev_up s 162 3 0 = s1 → Ev layX M_X1_pick (d + 1) 7 [(0, ev_r 162), (1, ev_i 0)] [] s1 Q)) :
    Ev layX M_X1_pick (d + 1) 0 [(0, ev_r 162)] [] s Q := by
  refine Ev_aload_n 0 dX1_pick_0 rfl rfl ?_
  refine Ev_iconst dX1_pick_1 rfl (ev_Rc rfl) ?_
  refine Ev_put (i := 3) (ty := .int) cl_X1 yX_162 (Nat.le_of_ble_eq_true rfl) rfl rfl (by decide +kernel) rfl rfl wd_621 dX1_pick_2 (Ev_nm (fun s1 es1 => ?_))
  replace h := h s1 es1
  refine Ev_iconst dX1_pick_5 rfl (ev_Rc rfl) ?_
  refine Ev_istore_n (l' := [(1, ev_i 0), (0, ev_r 162)]) dX1_pick_6 rfl (Nat.le_of_ble_eq_true rfl) rfl ?_
  exact Ev_sub [1, 0] rfl h
theorem wp_X1_pick_7 {d : Nat} {s : ev_S} {Q : Option ev_V → ev_S → Prop} {a1 : Int}
    (h : (((s 1 13) ≤ a1 → Q none s) ∧ (a1 < (s 1 13) → (Ev layX M_X3_comesIn d 0 [(0, ev_r 146), (1, ev_i a1)] [] s (ev_pi (fun r2 s1 => ((r2 = (-1) → Ev layX M_X1_pick (d + 1) 7 [(0, ev_r 162), (1, ev_i (ev_add a1 1))] [] s1 Q) ∧ (r2 ≠ (-1) → ((10 ≤ (s1 162 3) → Ev layX M_X1_pick (d + 1) 7 [(0, ev_r 162), (1, ev_i (ev_add a1 1))] [] s1 Q) ∧ ((s1 162 3) < 10 → ((0 ≤ (s1 162 3) ∧ (s1 162 3) < (10 : Nat)) ∧ ∀ s3, ev_up s1 163 (Int.toNat (s1 162 3)) a1 = s3 → ((0 ≤ (s3 162 3) ∧ (s3 162 3) < (10 : Nat)) ∧ ∀ s4, ev_up s3 164 (Int.toNat (s3 162 3)) r2 = s4 → (∀ s5, ev_up s4 162 3 (ev_add (s4 162 3) 1) = s5 → Ev layX M_X1_pick (d + 1) 7 [(0, ev_r 162), (1, ev_i (ev_add a1 1))] [] s5 Q))))))))))))) :
    Ev layX M_X1_pick (d + 1) 7 [(0, ev_r 162), (1, ev_i a1)] [] s Q := by
  refine Ev_iload_n 1 dX1_pick_7 rfl rfl ?_
  refine Ev_aload_n 0 dX1_pick_8 rfl rfl ?_
  refine Ev_getR (i := 0) cl_X1 yX_162 (Nat.le_of_ble_eq_true rfl) rfl wd_618 dX1_pick_9 ?_
  refine Ev_get (i := 13) cl_X10 yX_1 (Nat.le_of_ble_eq_true rfl) rfl wd_288 dX1_pick_12 ?_
  refine Ev_icmp_ge (tgt := 77) dX1_pick_15 rfl (fun c => ?_) (fun c => ?_)
  · replace h := h.1 c
    exact Ev_vret rfl dX1_pick_77 h
  · replace h := h.2 c
    refine Ev_aload_n 0 dX1_pick_18 rfl rfl ?_
    refine Ev_getR (i := 2) cl_X1 yX_162 (Nat.le_of_ble_eq_true rfl) rfl wd_620 dX1_pick_19 ?_
    refine Ev_iload_n 1 dX1_pick_22 rfl rfl ?_
    refine Ev_callV (As := [ev_i a1]) (b := 146) (st := []) (M' := M_X3_comesIn) cm_X3_comesIn wd_1156 wd_1157 wd_1158 yX_146 cl_X3 rfl dX1_pick_23 (Nat.le_refl _) rfl (Nat.le_of_ble_eq_true rfl) (Nat.le_of_ble_eq_true rfl) h (fun v u h hk => ?_)
    obtain ⟨r2, rfl⟩ := hk
    obtain ⟨s1, rfl⟩ : ∃ x, x = u := ⟨_, rfl⟩
    replace h := h r2 rfl
    refine Ev_istore_n (l' := [(2, ev_i r2), (0, ev_r 162), (1, ev_i a1)]) dX1_pick_26 rfl (Nat.le_of_ble_eq_true rfl) rfl ?_
    refine Ev_iload_n 0 dX1_pick_27 rfl rfl ?_
    refine Ev_iconst dX1_pick_28 rfl (ev_Rc rfl) ?_
    refine Ev_icmp_eq (tgt := 71) dX1_pick_29 rfl (fun c => ?_) (fun c => ?_)
    · replace h := h.1 c
      refine Ev_iinc (j := 2) (l' := [(1, ev_i (ev_add a1 1)), (2, ev_i r2), (0, ev_r 162)]) dX1_pick_71 rfl (Nat.le_of_ble_eq_true rfl) rfl ?_
      refine Ev_goto (tgt := 7) dX1_pick_74 rfl ?_
      exact Ev_sub [2, 0] rfl h
    · replace h := h.2 c
      refine Ev_aload_n 1 dX1_pick_32 rfl rfl ?_
      refine Ev_get (i := 3) cl_X1 yX_162 (Nat.le_of_ble_eq_true rfl) rfl wd_621 dX1_pick_33 ?_
      refine Ev_bipushC dX1_pick_36 rfl ?_
      refine Ev_icmp_ge (tgt := 71) dX1_pick_38 rfl (fun c => ?_) (fun c => ?_)
      · replace h := h.1 c
        refine Ev_iinc (j := 2) (l' := [(1, ev_i (ev_add a1 1)), (2, ev_i r2), (0, ev_r 162)]) dX1_pick_71 rfl (Nat.le_of_ble_eq_true rfl) rfl ?_
        refine Ev_goto (tgt := 7) dX1_pick_74 rfl ?_
        exact Ev_sub [2, 0] rfl h
      · replace h := h.2 c
        refine Ev_aload_n 1 dX1_pick_41 rfl rfl ?_
        refine Ev_getR (i := 4) cl_X1 yX_162 (Nat.le_of_ble_eq_true rfl) rfl wd_622 dX1_pick_42 ?_
        refine Ev_aload_n 1 dX1_pick_45 rfl rfl ?_
        refine Ev_get (i := 3) cl_X1 yX_162 (Nat.le_of_ble_eq_true rfl) rfl wd_621 dX1_pick_46 ?_
        refine Ev_iload_n 2 dX1_pick_49 rfl rfl ?_
        obtain ⟨h0, h⟩ := h
        refine Ev_iast yX_163 h0 dX1_pick_50 (Ev_nm (fun s3 es3 => ?_))
        replace h := h s3 es3
        refine Ev_aload_n 1 dX1_pick_51 rfl rfl ?_
        refine Ev_getR (i := 5) cl_X1 yX_162 (Nat.le_of_ble_eq_true rfl) rfl wd_623 dX1_pick_52 ?_
        refine Ev_aload_n 1 dX1_pick_55 rfl rfl ?_
        refine Ev_get (i := 3) cl_X1 yX_162 (Nat.le_of_ble_eq_true rfl) rfl wd_621 dX1_pick_56 ?_
        refine Ev_iload_n 0 dX1_pick_59 rfl rfl ?_
        obtain ⟨h0, h⟩ := h
        refine Ev_iast yX_164 h0 dX1_pick_60 (Ev_nm (fun s4 es4 => ?_))
        replace h := h s4 es4
        refine Ev_aload_n 1 dX1_pick_61 rfl rfl ?_
        refine Ev_dup dX1_pick_62 rfl ?_
        refine Ev_get (i := 3) cl_X1 yX_162 (Nat.le_of_ble_eq_true rfl) rfl wd_621 dX1_pick_63 ?_
        refine Ev_iconst dX1_pick_66 rfl (ev_Rc rfl) ?_
        refine Ev_iadd dX1_pick_67 ?_
        refine Ev_put (i := 3) (ty := .int) cl_X1 yX_162 (Nat.le_of_ble_eq_true rfl) rfl rfl (by decide +kernel) rfl rfl wd_621 dX1_pick_68 (Ev_nm (fun s5 es5 => ?_))
        replace h := h s5 es5
        refine Ev_iinc (j := 2) (l' := [(1, ev_i (ev_add a1 1)), (2, ev_i r2), (0, ev_r 162)]) dX1_pick_71 rfl (Nat.le_of_ble_eq_true rfl) rfl ?_
        refine Ev_goto (tgt := 7) dX1_pick_74 rfl ?_
        exact Ev_sub [2, 0] rfl h
theorem dX1_placeOf_0 : decode cX1_placeOf 0 = .ok (.aload_n 0, 1) := by decide +kernel
theorem dX1_placeOf_1 : decode cX1_placeOf 1 = .ok (.getfield 51, 3) := by decide +kernel
theorem dX1_placeOf_4 : decode cX1_placeOf 4 = .ok (.getfield 145, 3) := by decide +kernel
theorem dX1_placeOf_7 : decode cX1_placeOf 7 = .ok (.aload_n 0, 1) := by decide +kernel
theorem dX1_placeOf_8 : decode cX1_placeOf 8 = .ok (.getfield 11, 3) := by decide +kernel
theorem dX1_placeOf_11 : decode cX1_placeOf 11 = .ok (.iload_n 1, 1) := by decide +kernel
theorem dX1_placeOf_12 : decode cX1_placeOf 12 = .ok (.iaload, 1) := by decide +kernel
theorem dX1_placeOf_13 : decode cX1_placeOf 13 = .ok (.bipush 7, 2) := by decide +kernel
theorem dX1_placeOf_15 : decode cX1_placeOf 15 = .ok (.imul, 1) := by decide +kernel
theorem dX1_placeOf_16 : decode cX1_placeOf 16 = .ok (.iconst 1, 1) := by decide +kernel
theorem dX1_placeOf_17 : decode cX1_placeOf 17 = .ok (.iadd, 1) := by decide +kernel
theorem dX1_placeOf_18 : decode cX1_placeOf 18 = .ok (.iaload, 1) := by decide +kernel
theorem dX1_placeOf_19 : decode cX1_placeOf 19 = .ok (.ireturn, 1) := by decide +kernel
theorem wp_X1_placeOf_0 {d : Nat} {s : ev_S} {Q : Option ev_V → ev_S → Prop} {a1 : Int}
    (h : ((0 ≤ a1 ∧ a1 < (10 : Nat)) ∧ ((0 ≤ (ev_add (ev_mul (s 163 (Int.toNat a1)) 7) 1) ∧ (ev_add (ev_mul (s 163 (Int.toNat a1)) 7) 1) < (70 : Nat)) ∧ Q (some (ev_i (s 9 (Int.toNat (ev_add (ev_mul (s 163 (Int.toNat a1)) 7) 1))))) s))) :
    Ev layX M_X1_placeOf d 0 [(0, ev_r 162), (1, ev_i a1)] [] s Q := by
  refine Ev_aload_n 0 dX1_placeOf_0 rfl rfl ?_
  refine Ev_getR (i := 0) cl_X1 yX_162 (Nat.le_of_ble_eq_true rfl) rfl wd_618 dX1_placeOf_1 ?_
  refine Ev_getR (i := 14) cl_X10 yX_1 (Nat.le_of_ble_eq_true rfl) rfl wd_294 dX1_placeOf_4 ?_
  refine Ev_aload_n 0 dX1_placeOf_7 rfl rfl ?_
  refine Ev_getR (i := 4) cl_X1 yX_162 (Nat.le_of_ble_eq_true rfl) rfl wd_622 dX1_placeOf_8 ?_
  refine Ev_iload_n 1 dX1_placeOf_11 rfl rfl ?_
  obtain ⟨h0, h⟩ := h
  refine Ev_iald yX_163 h0 dX1_placeOf_12 ?_
  refine Ev_bipushC dX1_placeOf_13 rfl ?_
  refine Ev_imul dX1_placeOf_15 ?_
  refine Ev_iconst dX1_placeOf_16 rfl (ev_Rc rfl) ?_
  refine Ev_iadd dX1_placeOf_17 ?_
  obtain ⟨h0, h⟩ := h
  refine Ev_iald yX_9 h0 dX1_placeOf_18 ?_
  exact Ev_iret rfl dX1_placeOf_19 rfl h
theorem dX1_measure_0 : decode cX1_measure 0 = .ok (.iconst 0, 1) := by decide +kernel
theorem dX1_measure_1 : decode cX1_measure 1 = .ok (.istore_n 1, 1) := by decide +kernel
theorem dX1_measure_2 : decode cX1_measure 2 = .ok (.iload_n 1, 1) := by decide +kernel
theorem dX1_measure_3 : decode cX1_measure 3 = .ok (.aload_n 0, 1) := by decide +kernel
theorem dX1_measure_4 : decode cX1_measure 4 = .ok (.getfield 101, 3) := by decide +kernel
theorem dX1_measure_7 : decode cX1_measure 7 = .ok (.if_icmp .ge 49, 3) := by decide +kernel
theorem dX1_measure_10 : decode cX1_measure 10 = .ok (.iconst 0, 1) := by decide +kernel
theorem dX1_measure_11 : decode cX1_measure 11 = .ok (.istore_n 2, 1) := by decide +kernel
theorem dX1_measure_12 : decode cX1_measure 12 = .ok (.iload_n 2, 1) := by decide +kernel
theorem dX1_measure_13 : decode cX1_measure 13 = .ok (.aload_n 0, 1) := by decide +kernel
theorem dX1_measure_14 : decode cX1_measure 14 = .ok (.getfield 101, 3) := by decide +kernel
theorem dX1_measure_17 : decode cX1_measure 17 = .ok (.if_icmp .ge 33, 3) := by decide +kernel
theorem dX1_measure_20 : decode cX1_measure 20 = .ok (.aload_n 0, 1) := by decide +kernel
theorem dX1_measure_21 : decode cX1_measure 21 = .ok (.getfield 18, 3) := by decide +kernel
theorem dX1_measure_24 : decode cX1_measure 24 = .ok (.iload_n 1, 1) := by decide +kernel
theorem dX1_measure_25 : decode cX1_measure 25 = .ok (.bipush 10, 2) := by decide +kernel
theorem dX1_measure_27 : decode cX1_measure 27 = .ok (.imul, 1) := by decide +kernel
theorem dX1_measure_28 : decode cX1_measure 28 = .ok (.iload_n 2, 1) := by decide +kernel
theorem dX1_measure_29 : decode cX1_measure 29 = .ok (.iadd, 1) := by decide +kernel
theorem dX1_measure_30 : decode cX1_measure 30 = .ok (.aload_n 0, 1) := by decide +kernel
theorem dX1_measure_31 : decode cX1_measure 31 = .ok (.iload_n 1, 1) := by decide +kernel
theorem dX1_measure_32 : decode cX1_measure 32 = .ok (.invokevirtual 148, 3) := by decide +kernel
theorem dX1_measure_35 : decode cX1_measure 35 = .ok (.aload_n 0, 1) := by decide +kernel
theorem dX1_measure_36 : decode cX1_measure 36 = .ok (.iload_n 2, 1) := by decide +kernel
theorem dX1_measure_37 : decode cX1_measure 37 = .ok (.invokevirtual 148, 3) := by decide +kernel
theorem dX1_measure_40 : decode cX1_measure 40 = .ok (.invokestatic 151, 3) := by decide +kernel
theorem dX1_measure_43 : decode cX1_measure 43 = .ok (.iastore, 1) := by decide +kernel
theorem dX1_measure_44 : decode cX1_measure 44 = .ok (.iinc 2 1, 3) := by decide +kernel
theorem dX1_measure_47 : decode cX1_measure 47 = .ok (.goto (-35), 3) := by decide +kernel
theorem dX1_measure_50 : decode cX1_measure 50 = .ok (.iinc 1 1, 3) := by decide +kernel
theorem dX1_measure_53 : decode cX1_measure 53 = .ok (.goto (-51), 3) := by decide +kernel
theorem dX1_measure_56 : decode cX1_measure 56 = .ok (.return_, 1) := by decide +kernel
theorem wp_X1_measure_0 {d : Nat} {s : ev_S} {Q : Option ev_V → ev_S → Prop}
    (h : Ev layX M_X1_measure (d + 1) 2 [(0, ev_r 162), (1, ev_i 0)] [] s Q) :
    Ev layX M_X1_measure (d + 1) 0 [(0, ev_r 162)] [] s Q := by
  refine Ev_iconst dX1_measure_0 rfl (ev_Rc rfl) ?_
  refine Ev_istore_n (l' := [(1, ev_i 0), (0, ev_r 162)]) dX1_measure_1 rfl (Nat.le_of_ble_eq_true rfl) rfl ?_
  exact Ev_sub [1, 0] rfl h
theorem wp_X1_measure_2 {d : Nat} {s : ev_S} {Q : Option ev_V → ev_S → Prop} {a1 : Int}
    (h : (((s 162 3) ≤ a1 → Q none s) ∧ (a1 < (s 162 3) → Ev layX M_X1_measure (d + 1) 12 [(0, ev_r 162), (1, ev_i a1), (2, ev_i 0)] [] s Q))) :
    Ev layX M_X1_measure (d + 1) 2 [(0, ev_r 162), (1, ev_i a1)] [] s Q := by
  refine Ev_iload_n 1 dX1_measure_2 rfl rfl ?_
  refine Ev_aload_n 0 dX1_measure_3 rfl rfl ?_
  refine Ev_get (i := 3) cl_X1 yX_162 (Nat.le_of_ble_eq_true rfl) rfl wd_621 dX1_measure_4 ?_
  refine Ev_icmp_ge (tgt := 56) dX1_measure_7 rfl (fun c => ?_) (fun c => ?_)
  · replace h := h.1 c
    exact Ev_vret rfl dX1_measure_56 h
  · replace h := h.2 c
    refine Ev_iconst dX1_measure_10 rfl (ev_Rc rfl) ?_
    refine Ev_istore_n (l' := [(2, ev_i 0), (0, ev_r 162), (1, ev_i a1)]) dX1_measure_11 rfl (Nat.le_of_ble_eq_true rfl) rfl ?_
    exact Ev_sub [1, 2, 0] rfl h
theorem wp_X1_measure_12 {d : Nat} {s : ev_S} {Q : Option ev_V → ev_S → Prop} {a1 a2 : Int}
    (h : (((s 162 3) ≤ a2 → Ev layX M_X1_measure (d + 1) 2 [(0, ev_r 162), (1, ev_i (ev_add a1 1))] [] s Q) ∧ (a2 < (s 162 3) → (Ev layX M_X1_placeOf d 0 [(0, ev_r 162), (1, ev_i a1)] [] s (ev_pi (fun r2 s1 => (Ev layX M_X1_placeOf d 0 [(0, ev_r 162), (1, ev_i a2)] [] s1 (ev_pi (fun r4 s3 => (Ev layX M_X11_stepsBetween d 0 [(0, ev_i r2), (1, ev_i r4)] [] s3 (ev_pi (fun r6 s5 => ((0 ≤ (ev_add (ev_mul a1 10) a2) ∧ (ev_add (ev_mul a1 10) a2) < (100 : Nat)) ∧ ∀ s7, ev_up s5 165 (Int.toNat (ev_add (ev_mul a1 10) a2)) r6 = s7 → Ev layX M_X1_measure (d + 1) 12 [(0, ev_r 162), (1, ev_i a1), (2, ev_i (ev_add a2 1))] [] s7 Q))))))))))))) :
    Ev layX M_X1_measure (d + 1) 12 [(0, ev_r 162), (1, ev_i a1), (2, ev_i a2)] [] s Q := by
  refine Ev_iload_n 2 dX1_measure_12 rfl rfl ?_
  refine Ev_aload_n 0 dX1_measure_13 rfl rfl ?_
  refine Ev_get (i := 3) cl_X1 yX_162 (Nat.le_of_ble_eq_true rfl) rfl wd_621 dX1_measure_14 ?_
  refine Ev_icmp_ge (tgt := 50) dX1_measure_17 rfl (fun c => ?_) (fun c => ?_)
  · replace h := h.1 c
    refine Ev_iinc (j := 1) (l' := [(1, ev_i (ev_add a1 1)), (0, ev_r 162), (2, ev_i a2)]) dX1_measure_50 rfl (Nat.le_of_ble_eq_true rfl) rfl ?_
    refine Ev_goto (tgt := 2) dX1_measure_53 rfl ?_
    exact Ev_sub [1, 0] rfl h
  · replace h := h.2 c
    refine Ev_aload_n 0 dX1_measure_20 rfl rfl ?_
    refine Ev_getR (i := 6) cl_X1 yX_162 (Nat.le_of_ble_eq_true rfl) rfl wd_624 dX1_measure_21 ?_
    refine Ev_iload_n 1 dX1_measure_24 rfl rfl ?_
    refine Ev_bipushC dX1_measure_25 rfl ?_
    refine Ev_imul dX1_measure_27 ?_
    refine Ev_iload_n 2 dX1_measure_28 rfl rfl ?_
    refine Ev_iadd dX1_measure_29 ?_
    refine Ev_aload_n 0 dX1_measure_30 rfl rfl ?_
    refine Ev_iload_n 1 dX1_measure_31 rfl rfl ?_
    refine Ev_callV (As := [ev_i a1]) (b := 162) (st := [ev_i (ev_add (ev_mul a1 10) a2), ev_r 165]) (M' := M_X1_placeOf) cm_X1_placeOf wd_1177 wd_1179 wd_42 yX_162 cl_X1 rfl dX1_measure_32 (Nat.le_refl _) rfl (Nat.le_of_ble_eq_true rfl) (Nat.le_of_ble_eq_true rfl) h (fun v u h hk => ?_)
    obtain ⟨r2, rfl⟩ := hk
    obtain ⟨s1, rfl⟩ : ∃ x, x = u := ⟨_, rfl⟩
    replace h := h r2 rfl
    refine Ev_aload_n 0 dX1_measure_35 rfl rfl ?_
    refine Ev_iload_n 2 dX1_measure_36 rfl rfl ?_
    refine Ev_callV (As := [ev_i a2]) (b := 162) (st := [ev_i r2, ev_i (ev_add (ev_mul a1 10) a2), ev_r 165]) (M' := M_X1_placeOf) cm_X1_placeOf wd_1177 wd_1179 wd_42 yX_162 cl_X1 rfl dX1_measure_37 (Nat.le_refl _) rfl (Nat.le_of_ble_eq_true rfl) (Nat.le_of_ble_eq_true rfl) h (fun v u h hk => ?_)
    obtain ⟨r4, rfl⟩ := hk
    obtain ⟨s3, rfl⟩ : ∃ x, x = u := ⟨_, rfl⟩
    replace h := h r4 rfl
    refine Ev_callSN (As := [ev_i r2, ev_i r4]) (st := [ev_i (ev_add (ev_mul a1 10) a2), ev_r 165]) (M' := M_X11_stepsBetween) cm_X11_stepsBetween wd_1181 wd_1106 dX1_measure_40 (Nat.le_refl _) rfl (Nat.le_of_ble_eq_true rfl) (Nat.le_of_ble_eq_true rfl) h (fun v u h hk => ?_)
    obtain ⟨r6, rfl⟩ := hk
    obtain ⟨s5, rfl⟩ : ∃ x, x = u := ⟨_, rfl⟩
    replace h := h r6 rfl
    obtain ⟨h0, h⟩ := h
    refine Ev_iast yX_165 h0 dX1_measure_43 (Ev_nm (fun s7 es7 => ?_))
    replace h := h s7 es7
    refine Ev_iinc (j := 2) (l' := [(2, ev_i (ev_add a2 1)), (0, ev_r 162), (1, ev_i a1)]) dX1_measure_44 rfl (Nat.le_of_ble_eq_true rfl) rfl ?_
    refine Ev_goto (tgt := 12) dX1_measure_47 rfl ?_
    exact Ev_sub [1, 2, 0] rfl h
theorem dX1_addRisks_0 : decode cX1_addRisks 0 = .ok (.aload_n 0, 1) := by decide +kernel
theorem dX1_addRisks_1 : decode cX1_addRisks 1 = .ok (.getfield 21, 3) := by decide +kernel
theorem dX1_addRisks_4 : decode cX1_addRisks 4 = .ok (.iconst 0, 1) := by decide +kernel
theorem dX1_addRisks_5 : decode cX1_addRisks 5 = .ok (.iconst 0, 1) := by decide +kernel
theorem dX1_addRisks_6 : decode cX1_addRisks 6 = .ok (.iastore, 1) := by decide +kernel
theorem dX1_addRisks_7 : decode cX1_addRisks 7 = .ok (.iconst 0, 1) := by decide +kernel
theorem dX1_addRisks_8 : decode cX1_addRisks 8 = .ok (.istore_n 1, 1) := by decide +kernel
theorem dX1_addRisks_9 : decode cX1_addRisks 9 = .ok (.iload_n 1, 1) := by decide +kernel
theorem dX1_addRisks_10 : decode cX1_addRisks 10 = .ok (.aload_n 0, 1) := by decide +kernel
theorem dX1_addRisks_11 : decode cX1_addRisks 11 = .ok (.getfield 101, 3) := by decide +kernel
theorem dX1_addRisks_14 : decode cX1_addRisks 14 = .ok (.if_icmp .ge 56, 3) := by decide +kernel
theorem dX1_addRisks_17 : decode cX1_addRisks 17 = .ok (.aload_n 0, 1) := by decide +kernel
theorem dX1_addRisks_18 : decode cX1_addRisks 18 = .ok (.getfield 51, 3) := by decide +kernel
theorem dX1_addRisks_21 : decode cX1_addRisks 21 = .ok (.aload_n 0, 1) := by decide +kernel
theorem dX1_addRisks_22 : decode cX1_addRisks 22 = .ok (.getfield 11, 3) := by decide +kernel
theorem dX1_addRisks_25 : decode cX1_addRisks 25 = .ok (.iload_n 1, 1) := by decide +kernel
theorem dX1_addRisks_26 : decode cX1_addRisks 26 = .ok (.iaload, 1) := by decide +kernel
theorem dX1_addRisks_27 : decode cX1_addRisks 27 = .ok (.invokevirtual 154, 3) := by decide +kernel
theorem dX1_addRisks_30 : decode cX1_addRisks 30 = .ok (.istore_n 2, 1) := by decide +kernel
theorem dX1_addRisks_31 : decode cX1_addRisks 31 = .ok (.iconst 0, 1) := by decide +kernel
theorem dX1_addRisks_32 : decode cX1_addRisks 32 = .ok (.istore_n 3, 1) := by decide +kernel
theorem dX1_addRisks_33 : decode cX1_addRisks 33 = .ok (.iload_n 3, 1) := by decide +kernel
theorem dX1_addRisks_34 : decode cX1_addRisks 34 = .ok (.iconst 1, 1) := by decide +kernel
theorem dX1_addRisks_35 : decode cX1_addRisks 35 = .ok (.iload_n 1, 1) := by decide +kernel
theorem dX1_addRisks_36 : decode cX1_addRisks 36 = .ok (.ishl, 1) := by decide +kernel
theorem dX1_addRisks_37 : decode cX1_addRisks 37 = .ok (.if_icmp .ge 27, 3) := by decide +kernel
theorem dX1_addRisks_40 : decode cX1_addRisks 40 = .ok (.aload_n 0, 1) := by decide +kernel
theorem dX1_addRisks_41 : decode cX1_addRisks 41 = .ok (.getfield 21, 3) := by decide +kernel
theorem dX1_addRisks_44 : decode cX1_addRisks 44 = .ok (.iload_n 3, 1) := by decide +kernel
theorem dX1_addRisks_45 : decode cX1_addRisks 45 = .ok (.iconst 1, 1) := by decide +kernel
theorem dX1_addRisks_46 : decode cX1_addRisks 46 = .ok (.iload_n 1, 1) := by decide +kernel
theorem dX1_addRisks_47 : decode cX1_addRisks 47 = .ok (.ishl, 1) := by decide +kernel
theorem dX1_addRisks_48 : decode cX1_addRisks 48 = .ok (.ior, 1) := by decide +kernel
theorem dX1_addRisks_49 : decode cX1_addRisks 49 = .ok (.aload_n 0, 1) := by decide +kernel
theorem dX1_addRisks_50 : decode cX1_addRisks 50 = .ok (.getfield 21, 3) := by decide +kernel
theorem dX1_addRisks_53 : decode cX1_addRisks 53 = .ok (.iload_n 3, 1) := by decide +kernel
theorem dX1_addRisks_54 : decode cX1_addRisks 54 = .ok (.iaload, 1) := by decide +kernel
theorem dX1_addRisks_55 : decode cX1_addRisks 55 = .ok (.iload_n 2, 1) := by decide +kernel
theorem dX1_addRisks_56 : decode cX1_addRisks 56 = .ok (.iadd, 1) := by decide +kernel
theorem dX1_addRisks_57 : decode cX1_addRisks 57 = .ok (.iastore, 1) := by decide +kernel
theorem dX1_addRisks_58 : decode cX1_addRisks 58 = .ok (.iinc 3 1, 3) := by decide +kernel
theorem dX1_addRisks_61 : decode cX1_addRisks 61 = .ok (.goto (-28), 3) := by decide +kernel
theorem dX1_addRisks_64 : decode cX1_addRisks 64 = .ok (.iinc 1 1, 3) := by decide +kernel
theorem dX1_addRisks_67 : decode cX1_addRisks 67 = .ok (.goto (-58), 3) := by decide +kernel
theorem dX1_addRisks_70 : decode cX1_addRisks 70 = .ok (.return_, 1) := by decide +kernel
theorem wp_X1_addRisks_0 {d : Nat} {s : ev_S} {Q : Option ev_V → ev_S → Prop}
    (h : (∀ s1, ev_up s 166 0 0 = s1 → Ev layX M_X1_addRisks (d + 1) 9 [(0, ev_r 162), (1, ev_i 0)] [] s1 Q)) :
    Ev layX M_X1_addRisks (d + 1) 0 [(0, ev_r 162)] [] s Q := by
  refine Ev_aload_n 0 dX1_addRisks_0 rfl rfl ?_
  refine Ev_getR (i := 7) cl_X1 yX_162 (Nat.le_of_ble_eq_true rfl) rfl wd_625 dX1_addRisks_1 ?_
  refine Ev_iconst dX1_addRisks_4 rfl (ev_Rc rfl) ?_
  refine Ev_iconst dX1_addRisks_5 rfl (ev_Rc rfl) ?_
  refine Ev_iast yX_166 (by decide) dX1_addRisks_6 (Ev_nm (fun s1 es1 => ?_))
  replace h := h s1 es1
  refine Ev_iconst dX1_addRisks_7 rfl (ev_Rc rfl) ?_
  refine Ev_istore_n (l' := [(1, ev_i 0), (0, ev_r 162)]) dX1_addRisks_8 rfl (Nat.le_of_ble_eq_true rfl) rfl ?_
  exact Ev_sub [1, 0] rfl h
theorem wp_X1_addRisks_9 {d : Nat} {s : ev_S} {Q : Option ev_V → ev_S → Prop} {a1 : Int}
    (h : (((s 162 3) ≤ a1 → Q none s) ∧ (a1 < (s 162 3) → ((0 ≤ a1 ∧ a1 < (10 : Nat)) ∧ (Ev layX M_X10_risk d 0 [(0, ev_r 1), (1, ev_i (s 163 (Int.toNat a1)))] [] s (ev_pi (fun r2 s1 => Ev layX M_X1_addRisks (d + 1) 33 [(0, ev_r 162), (1, ev_i a1), (2, ev_i r2), (3, ev_i 0)] [] s1 Q))))))) :
    Ev layX M_X1_addRisks (d + 1) 9 [(0, ev_r 162), (1, ev_i a1)] [] s Q := by
  refine Ev_iload_n 1 dX1_addRisks_9 rfl rfl ?_
  refine Ev_aload_n 0 dX1_addRisks_10 rfl rfl ?_
  refine Ev_get (i := 3) cl_X1 yX_162 (Nat.le_of_ble_eq_true rfl) rfl wd_621 dX1_addRisks_11 ?_
  refine Ev_icmp_ge (tgt := 70) dX1_addRisks_14 rfl (fun c => ?_) (fun c => ?_)
  · replace h := h.1 c
    exact Ev_vret rfl dX1_addRisks_70 h
  · replace h := h.2 c
    refine Ev_aload_n 0 dX1_addRisks_17 rfl rfl ?_
    refine Ev_getR (i := 0) cl_X1 yX_162 (Nat.le_of_ble_eq_true rfl) rfl wd_618 dX1_addRisks_18 ?_
    refine Ev_aload_n 0 dX1_addRisks_21 rfl rfl ?_
    refine Ev_getR (i := 4) cl_X1 yX_162 (Nat.le_of_ble_eq_true rfl) rfl wd_622 dX1_addRisks_22 ?_
    refine Ev_iload_n 1 dX1_addRisks_25 rfl rfl ?_
    obtain ⟨h0, h⟩ := h
    refine Ev_iald yX_163 h0 dX1_addRisks_26 ?_
    refine Ev_callV (As := [ev_i (s 163 (Int.toNat a1))]) (b := 1) (st := []) (M' := M_X10_risk) cm_X10_risk wd_1186 wd_1187 wd_1188 yX_1 cl_X10 rfl dX1_addRisks_27 (Nat.le_refl _) rfl (Nat.le_of_ble_eq_true rfl) (Nat.le_of_ble_eq_true rfl) h (fun v u h hk => ?_)
    obtain ⟨r2, rfl⟩ := hk
    obtain ⟨s1, rfl⟩ : ∃ x, x = u := ⟨_, rfl⟩
    replace h := h r2 rfl
    refine Ev_istore_n (l' := [(2, ev_i r2), (0, ev_r 162), (1, ev_i a1)]) dX1_addRisks_30 rfl (Nat.le_of_ble_eq_true rfl) rfl ?_
    refine Ev_iconst dX1_addRisks_31 rfl (ev_Rc rfl) ?_
    refine Ev_istore_n (l' := [(3, ev_i 0), (2, ev_i r2), (0, ev_r 162), (1, ev_i a1)]) dX1_addRisks_32 rfl (Nat.le_of_ble_eq_true rfl) rfl ?_
    exact Ev_sub [2, 3, 1, 0] rfl h
theorem wp_X1_addRisks_33 {d : Nat} {s : ev_S} {Q : Option ev_V → ev_S → Prop} {a1 a2 a3 : Int}
    (h : (((ev_shl 1 a1) ≤ a3 → Ev layX M_X1_addRisks (d + 1) 9 [(0, ev_r 162), (1, ev_i (ev_add a1 1))] [] s Q) ∧ (a3 < (ev_shl 1 a1) → ((0 ≤ a3 ∧ a3 < (1024 : Nat)) ∧ ((0 ≤ (ev_or a3 (ev_shl 1 a1)) ∧ (ev_or a3 (ev_shl 1 a1)) < (1024 : Nat)) ∧ ∀ s1, ev_up s 166 (Int.toNat (ev_or a3 (ev_shl 1 a1))) (ev_add (s 166 (Int.toNat a3)) a2) = s1 → Ev layX M_X1_addRisks (d + 1) 33 [(0, ev_r 162), (1, ev_i a1), (2, ev_i a2), (3, ev_i (ev_add a3 1))] [] s1 Q))))) :
    Ev layX M_X1_addRisks (d + 1) 33 [(0, ev_r 162), (1, ev_i a1), (2, ev_i a2), (3, ev_i a3)] [] s Q := by
  refine Ev_iload_n 3 dX1_addRisks_33 rfl rfl ?_
  refine Ev_iconst dX1_addRisks_34 rfl (ev_Rc rfl) ?_
  refine Ev_iload_n 1 dX1_addRisks_35 rfl rfl ?_
  refine Ev_ishl dX1_addRisks_36 ?_
  refine Ev_icmp_ge (tgt := 64) dX1_addRisks_37 rfl (fun c => ?_) (fun c => ?_)
  · replace h := h.1 c
    refine Ev_iinc (j := 1) (l' := [(1, ev_i (ev_add a1 1)), (0, ev_r 162), (2, ev_i a2), (3, ev_i a3)]) dX1_addRisks_64 rfl (Nat.le_of_ble_eq_true rfl) rfl ?_
    refine Ev_goto (tgt := 9) dX1_addRisks_67 rfl ?_
    exact Ev_sub [1, 0] rfl h
  · replace h := h.2 c
    refine Ev_aload_n 0 dX1_addRisks_40 rfl rfl ?_
    refine Ev_getR (i := 7) cl_X1 yX_162 (Nat.le_of_ble_eq_true rfl) rfl wd_625 dX1_addRisks_41 ?_
    refine Ev_iload_n 3 dX1_addRisks_44 rfl rfl ?_
    refine Ev_iconst dX1_addRisks_45 rfl (ev_Rc rfl) ?_
    refine Ev_iload_n 1 dX1_addRisks_46 rfl rfl ?_
    refine Ev_ishl dX1_addRisks_47 ?_
    refine Ev_ior dX1_addRisks_48 ?_
    refine Ev_aload_n 0 dX1_addRisks_49 rfl rfl ?_
    refine Ev_getR (i := 7) cl_X1 yX_162 (Nat.le_of_ble_eq_true rfl) rfl wd_625 dX1_addRisks_50 ?_
    refine Ev_iload_n 3 dX1_addRisks_53 rfl rfl ?_
    obtain ⟨h0, h⟩ := h
    refine Ev_iald yX_166 h0 dX1_addRisks_54 ?_
    refine Ev_iload_n 2 dX1_addRisks_55 rfl rfl ?_
    refine Ev_iadd dX1_addRisks_56 ?_
    obtain ⟨h0, h⟩ := h
    refine Ev_iast yX_166 h0 dX1_addRisks_57 (Ev_nm (fun s1 es1 => ?_))
    replace h := h s1 es1
    refine Ev_iinc (j := 3) (l' := [(3, ev_i (ev_add a3 1)), (0, ev_r 162), (1, ev_i a1), (2, ev_i a2)]) dX1_addRisks_58 rfl (Nat.le_of_ble_eq_true rfl) rfl ?_
    refine Ev_goto (tgt := 33) dX1_addRisks_61 rfl ?_
    exact Ev_sub [1, 2, 3, 0] rfl h
theorem dX1_findAble_0 : decode cX1_findAble 0 = .ok (.aload_n 0, 1) := by decide +kernel
theorem dX1_findAble_1 : decode cX1_findAble 1 = .ok (.getfield 24, 3) := by decide +kernel
theorem dX1_findAble_4 : decode cX1_findAble 4 = .ok (.iload_n 1, 1) := by decide +kernel
theorem dX1_findAble_5 : decode cX1_findAble 5 = .ok (.iconst 0, 1) := by decide +kernel
theorem dX1_findAble_6 : decode cX1_findAble 6 = .ok (.iastore, 1) := by decide +kernel
theorem dX1_findAble_7 : decode cX1_findAble 7 = .ok (.iconst 0, 1) := by decide +kernel
theorem dX1_findAble_8 : decode cX1_findAble 8 = .ok (.istore_n 2, 1) := by decide +kernel
theorem dX1_findAble_9 : decode cX1_findAble 9 = .ok (.iload_n 2, 1) := by decide +kernel
theorem dX1_findAble_10 : decode cX1_findAble 10 = .ok (.aload_n 0, 1) := by decide +kernel
theorem dX1_findAble_11 : decode cX1_findAble 11 = .ok (.getfield 101, 3) := by decide +kernel
theorem dX1_findAble_14 : decode cX1_findAble 14 = .ok (.if_icmp .ge 31, 3) := by decide +kernel
theorem dX1_findAble_17 : decode cX1_findAble 17 = .ok (.aload_n 0, 1) := by decide +kernel
theorem dX1_findAble_18 : decode cX1_findAble 18 = .ok (.iload_n 1, 1) := by decide +kernel
theorem dX1_findAble_19 : decode cX1_findAble 19 = .ok (.iload_n 2, 1) := by decide +kernel
theorem dX1_findAble_20 : decode cX1_findAble 20 = .ok (.invokevirtual 157, 3) := by decide +kernel
theorem dX1_findAble_23 : decode cX1_findAble 23 = .ok (.iconst (-1), 1) := by decide +kernel
theorem dX1_findAble_24 : decode cX1_findAble 24 = .ok (.if_icmp .eq 15, 3) := by decide +kernel
theorem dX1_findAble_27 : decode cX1_findAble 27 = .ok (.aload_n 0, 1) := by decide +kernel
theorem dX1_findAble_28 : decode cX1_findAble 28 = .ok (.getfield 24, 3) := by decide +kernel
theorem dX1_findAble_31 : decode cX1_findAble 31 = .ok (.iload_n 1, 1) := by decide +kernel
theorem dX1_findAble_32 : decode cX1_findAble 32 = .ok (.dup2, 1) := by decide +kernel
theorem dX1_findAble_33 : decode cX1_findAble 33 = .ok (.iaload, 1) := by decide +kernel
theorem dX1_findAble_34 : decode cX1_findAble 34 = .ok (.iconst 1, 1) := by decide +kernel
theorem dX1_findAble_35 : decode cX1_findAble 35 = .ok (.iload_n 2, 1) := by decide +kernel
theorem dX1_findAble_36 : decode cX1_findAble 36 = .ok (.ishl, 1) := by decide +kernel
theorem dX1_findAble_37 : decode cX1_findAble 37 = .ok (.ior, 1) := by decide +kernel
theorem dX1_findAble_38 : decode cX1_findAble 38 = .ok (.iastore, 1) := by decide +kernel
theorem dX1_findAble_39 : decode cX1_findAble 39 = .ok (.iinc 2 1, 3) := by decide +kernel
theorem dX1_findAble_42 : decode cX1_findAble 42 = .ok (.goto (-33), 3) := by decide +kernel
theorem dX1_findAble_45 : decode cX1_findAble 45 = .ok (.aload_n 0, 1) := by decide +kernel
theorem dX1_findAble_46 : decode cX1_findAble 46 = .ok (.getfield 27, 3) := by decide +kernel
theorem dX1_findAble_49 : decode cX1_findAble 49 = .ok (.iload_n 1, 1) := by decide +kernel
theorem dX1_findAble_50 : decode cX1_findAble 50 = .ok (.iconst 0, 1) := by decide +kernel
theorem dX1_findAble_51 : decode cX1_findAble 51 = .ok (.invokestatic 133, 3) := by decide +kernel
theorem dX1_findAble_54 : decode cX1_findAble 54 = .ok (.iconst 1, 1) := by decide +kernel
theorem dX1_findAble_55 : decode cX1_findAble 55 = .ok (.istore_n 2, 1) := by decide +kernel
theorem dX1_findAble_56 : decode cX1_findAble 56 = .ok (.iload_n 2, 1) := by decide +kernel
theorem dX1_findAble_57 : decode cX1_findAble 57 = .ok (.aload_n 0, 1) := by decide +kernel
theorem dX1_findAble_58 : decode cX1_findAble 58 = .ok (.getfield 24, 3) := by decide +kernel
theorem dX1_findAble_61 : decode cX1_findAble 61 = .ok (.iload_n 1, 1) := by decide +kernel
theorem dX1_findAble_62 : decode cX1_findAble 62 = .ok (.iaload, 1) := by decide +kernel
theorem dX1_findAble_63 : decode cX1_findAble 63 = .ok (.if_icmp .gt 40, 3) := by decide +kernel
theorem dX1_findAble_66 : decode cX1_findAble 66 = .ok (.iload_n 2, 1) := by decide +kernel
theorem dX1_findAble_67 : decode cX1_findAble 67 = .ok (.aload_n 0, 1) := by decide +kernel
theorem dX1_findAble_68 : decode cX1_findAble 68 = .ok (.getfield 24, 3) := by decide +kernel
theorem dX1_findAble_71 : decode cX1_findAble 71 = .ok (.iload_n 1, 1) := by decide +kernel
theorem dX1_findAble_72 : decode cX1_findAble 72 = .ok (.iaload, 1) := by decide +kernel
theorem dX1_findAble_73 : decode cX1_findAble 73 = .ok (.iconst (-1), 1) := by decide +kernel
theorem dX1_findAble_74 : decode cX1_findAble 74 = .ok (.ixor, 1) := by decide +kernel
theorem dX1_findAble_75 : decode cX1_findAble 75 = .ok (.iand, 1) := by decide +kernel
theorem dX1_findAble_76 : decode cX1_findAble 76 = .ok (.ifCond .ne 21, 3) := by decide +kernel
theorem dX1_findAble_79 : decode cX1_findAble 79 = .ok (.aload_n 0, 1) := by decide +kernel
theorem dX1_findAble_80 : decode cX1_findAble 80 = .ok (.iload_n 1, 1) := by decide +kernel
theorem dX1_findAble_81 : decode cX1_findAble 81 = .ok (.iload_n 2, 1) := by decide +kernel
theorem dX1_findAble_82 : decode cX1_findAble 82 = .ok (.invokevirtual 160, 3) := by decide +kernel
theorem dX1_findAble_85 : decode cX1_findAble 85 = .ok (.ifCond .eq 12, 3) := by decide +kernel
theorem dX1_findAble_88 : decode cX1_findAble 88 = .ok (.aload_n 0, 1) := by decide +kernel
theorem dX1_findAble_89 : decode cX1_findAble 89 = .ok (.getfield 27, 3) := by decide +kernel
theorem dX1_findAble_92 : decode cX1_findAble 92 = .ok (.iload_n 1, 1) := by decide +kernel
theorem dX1_findAble_93 : decode cX1_findAble 93 = .ok (.iload_n 2, 1) := by decide +kernel
theorem dX1_findAble_94 : decode cX1_findAble 94 = .ok (.invokestatic 133, 3) := by decide +kernel
theorem dX1_findAble_97 : decode cX1_findAble 97 = .ok (.iinc 2 1, 3) := by decide +kernel
theorem dX1_findAble_100 : decode cX1_findAble 100 = .ok (.goto (-44), 3) := by decide +kernel
theorem dX1_findAble_103 : decode cX1_findAble 103 = .ok (.return_, 1) := by decide +kernel
theorem wp_X1_findAble_0 {d : Nat} {s : ev_S} {Q : Option ev_V → ev_S → Prop} {a1 : Int}
    (h : ((0 ≤ a1 ∧ a1 < (6 : Nat)) ∧ ∀ s1, ev_up s 167 (Int.toNat a1) 0 = s1 → Ev layX M_X1_findAble (d + 1) 9 [(0, ev_r 162), (1, ev_i a1), (2, ev_i 0)] [] s1 Q)) :
    Ev layX M_X1_findAble (d + 1) 0 [(0, ev_r 162), (1, ev_i a1)] [] s Q := by
  refine Ev_aload_n 0 dX1_findAble_0 rfl rfl ?_
  refine Ev_getR (i := 8) cl_X1 yX_162 (Nat.le_of_ble_eq_true rfl) rfl wd_626 dX1_findAble_1 ?_
  refine Ev_iload_n 1 dX1_findAble_4 rfl rfl ?_
  refine Ev_iconst dX1_findAble_5 rfl (ev_Rc rfl) ?_
  obtain ⟨h0, h⟩ := h
  refine Ev_iast yX_167 h0 dX1_findAble_6 (Ev_nm (fun s1 es1 => ?_))
  replace h := h s1 es1
  refine Ev_iconst dX1_findAble_7 rfl (ev_Rc rfl) ?_
  refine Ev_istore_n (l' := [(2, ev_i 0), (0, ev_r 162), (1, ev_i a1)]) dX1_findAble_8 rfl (Nat.le_of_ble_eq_true rfl) rfl ?_
  exact Ev_sub [1, 2, 0] rfl h
theorem wp_X1_findAble_9 {d : Nat} {s : ev_S} {Q : Option ev_V → ev_S → Prop} {a1 a2 : Int}
    (h : (((s 162 3) ≤ a2 → (Ev layX M_X1_put d 0 [(0, ev_r 168), (1, ev_i a1), (2, ev_i 0)] [] s (fun _ s1 => Ev layX M_X1_findAble (d + 1) 56 [(0, ev_r 162), (1, ev_i a1), (2, ev_i 1)] [] s1 Q))) ∧ (a2 < (s 162 3) → (Ev layX M_X1_freeFirst d 0 [(0, ev_r 162), (1, ev_i a1), (2, ev_i a2)] [] s (ev_pi (fun r3 s2 => ((r3 = (-1) → Ev layX M_X1_findAble (d + 1) 9 [(0, ev_r 162), (1, ev_i a1), (2, ev_i (ev_add a2 1))] [] s2 Q) ∧ (r3 ≠ (-1) → ((0 ≤ a1 ∧ a1 < (6 : Nat)) ∧ ((0 ≤ a1 ∧ a1 < (6 : Nat)) ∧ ∀ s4, ev_up s2 167 (Int.toNat a1) (ev_or (s2 167 (Int.toNat a1)) (ev_shl 1 a2)) = s4 → Ev layX M_X1_findAble (d + 1) 9 [(0, ev_r 162), (1, ev_i a1), (2, ev_i (ev_add a2 1))] [] s4 Q)))))))))) :
    Ev layX M_X1_findAble (d + 1) 9 [(0, ev_r 162), (1, ev_i a1), (2, ev_i a2)] [] s Q := by
  refine Ev_iload_n 2 dX1_findAble_9 rfl rfl ?_
  refine Ev_aload_n 0 dX1_findAble_10 rfl rfl ?_
  refine Ev_get (i := 3) cl_X1 yX_162 (Nat.le_of_ble_eq_true rfl) rfl wd_621 dX1_findAble_11 ?_
  refine Ev_icmp_ge (tgt := 45) dX1_findAble_14 rfl (fun c => ?_) (fun c => ?_)
  · replace h := h.1 c
    refine Ev_aload_n 0 dX1_findAble_45 rfl rfl ?_
    refine Ev_getR (i := 9) cl_X1 yX_162 (Nat.le_of_ble_eq_true rfl) rfl wd_627 dX1_findAble_46 ?_
    refine Ev_iload_n 1 dX1_findAble_49 rfl rfl ?_
    refine Ev_iconst dX1_findAble_50 rfl (ev_Rc rfl) ?_
    refine Ev_callS (As := [ev_r 168, ev_i a1, ev_i 0]) (st := []) (M' := M_X1_put) cm_X1_put wd_1204 wd_1205 dX1_findAble_51 (Nat.le_refl _) rfl (Nat.le_of_ble_eq_true rfl) (Nat.le_of_ble_eq_true rfl) h (fun v u h hk => ?_)
    cases hk
    obtain ⟨s1, rfl⟩ : ∃ x, x = u := ⟨_, rfl⟩
    refine Ev_iconst dX1_findAble_54 rfl (ev_Rc rfl) ?_
    refine Ev_istore_n (l' := [(2, ev_i 1), (0, ev_r 162), (1, ev_i a1)]) dX1_findAble_55 rfl (Nat.le_of_ble_eq_true rfl) rfl ?_
    exact Ev_sub [1, 2, 0] rfl h
  · replace h := h.2 c
    refine Ev_aload_n 0 dX1_findAble_17 rfl rfl ?_
    refine Ev_iload_n 1 dX1_findAble_18 rfl rfl ?_
    refine Ev_iload_n 2 dX1_findAble_19 rfl rfl ?_
    refine Ev_callV (As := [ev_i a1, ev_i a2]) (b := 162) (st := []) (M' := M_X1_freeFirst) cm_X1_freeFirst wd_1195 wd_1197 wd_45 yX_162 cl_X1 rfl dX1_findAble_20 (Nat.le_refl _) rfl (Nat.le_of_ble_eq_true rfl) (Nat.le_of_ble_eq_true rfl) h (fun v u h hk => ?_)
    obtain ⟨r3, rfl⟩ := hk
    obtain ⟨s2, rfl⟩ : ∃ x, x = u := ⟨_, rfl⟩
    replace h := h r3 rfl
    refine Ev_iconst dX1_findAble_23 rfl (ev_Rc rfl) ?_
    refine Ev_icmp_eq (tgt := 39) dX1_findAble_24 rfl (fun c => ?_) (fun c => ?_)
    · replace h := h.1 c
      refine Ev_iinc (j := 2) (l' := [(2, ev_i (ev_add a2 1)), (0, ev_r 162), (1, ev_i a1)]) dX1_findAble_39 rfl (Nat.le_of_ble_eq_true rfl) rfl ?_
      refine Ev_goto (tgt := 9) dX1_findAble_42 rfl ?_
      exact Ev_sub [1, 2, 0] rfl h
    · replace h := h.2 c
      refine Ev_aload_n 0 dX1_findAble_27 rfl rfl ?_
      refine Ev_getR (i := 8) cl_X1 yX_162 (Nat.le_of_ble_eq_true rfl) rfl wd_626 dX1_findAble_28 ?_
      refine Ev_iload_n 1 dX1_findAble_31 rfl rfl ?_
      refine Ev_dup2 dX1_findAble_32 rfl rfl ?_
      obtain ⟨h0, h⟩ := h
      refine Ev_iald yX_167 h0 dX1_findAble_33 ?_
      refine Ev_iconst dX1_findAble_34 rfl (ev_Rc rfl) ?_
      refine Ev_iload_n 2 dX1_findAble_35 rfl rfl ?_
      refine Ev_ishl dX1_findAble_36 ?_
      refine Ev_ior dX1_findAble_37 ?_
      obtain ⟨h0, h⟩ := h
      refine Ev_iast yX_167 h0 dX1_findAble_38 (Ev_nm (fun s4 es4 => ?_))
      replace h := h s4 es4
      refine Ev_iinc (j := 2) (l' := [(2, ev_i (ev_add a2 1)), (0, ev_r 162), (1, ev_i a1)]) dX1_findAble_39 rfl (Nat.le_of_ble_eq_true rfl) rfl ?_
      refine Ev_goto (tgt := 9) dX1_findAble_42 rfl ?_
      exact Ev_sub [1, 2, 0] rfl h
theorem wp_X1_findAble_56 {d : Nat} {s : ev_S} {Q : Option ev_V → ev_S → Prop} {a1 a2 : Int}
    (h : ((0 ≤ a1 ∧ a1 < (6 : Nat)) ∧ (((s 167 (Int.toNat a1)) < a2 → Q none s) ∧ (a2 ≤ (s 167 (Int.toNat a1)) → ((0 ≤ a1 ∧ a1 < (6 : Nat)) ∧ (((ev_and a2 (ev_xor (s 167 (Int.toNat a1)) (-1))) ≠ 0 → Ev layX M_X1_findAble (d + 1) 56 [(0, ev_r 162), (1, ev_i a1), (2, ev_i (ev_add a2 1))] [] s Q) ∧ ((ev_and a2 (ev_xor (s 167 (Int.toNat a1)) (-1))) = 0 → (Ev layX M_X1_seesTo d 0 [(0, ev_r 162), (1, ev_i a1), (2, ev_i a2)] [] s (ev_pi (fun r2 s1 => ((r2 = 0 → Ev layX M_X1_findAble (d + 1) 56 [(0, ev_r 162), (1, ev_i a1), (2, ev_i (ev_add a2 1))] [] s1 Q) ∧ (r2 ≠ 0 → (Ev layX M_X1_put d 0 [(0, ev_r 168), (1, ev_i a1), (2, ev_i a2)] [] s1 (fun _ s3 => Ev layX M_X1_findAble (d + 1) 56 [(0, ev_r 162), (1, ev_i a1), (2, ev_i (ev_add a2 1))] [] s3 Q)))))))))))))) :
    Ev layX M_X1_findAble (d + 1) 56 [(0, ev_r 162), (1, ev_i a1), (2, ev_i a2)] [] s Q := by
  refine Ev_iload_n 2 dX1_findAble_56 rfl rfl ?_
  refine Ev_aload_n 0 dX1_findAble_57 rfl rfl ?_
  refine Ev_getR (i := 8) cl_X1 yX_162 (Nat.le_of_ble_eq_true rfl) rfl wd_626 dX1_findAble_58 ?_
  refine Ev_iload_n 1 dX1_findAble_61 rfl rfl ?_
  obtain ⟨h0, h⟩ := h
  refine Ev_iald yX_167 h0 dX1_findAble_62 ?_
  refine Ev_icmp_gt (tgt := 103) dX1_findAble_63 rfl (fun c => ?_) (fun c => ?_)
  · replace h := h.1 c
    exact Ev_vret rfl dX1_findAble_103 h
  · replace h := h.2 c
    refine Ev_iload_n 2 dX1_findAble_66 rfl rfl ?_
    refine Ev_aload_n 0 dX1_findAble_67 rfl rfl ?_
    refine Ev_getR (i := 8) cl_X1 yX_162 (Nat.le_of_ble_eq_true rfl) rfl wd_626 dX1_findAble_68 ?_
    refine Ev_iload_n 1 dX1_findAble_71 rfl rfl ?_
    obtain ⟨h0, h⟩ := h
    refine Ev_iald yX_167 h0 dX1_findAble_72 ?_
    refine Ev_iconst dX1_findAble_73 rfl (ev_Rc rfl) ?_
    refine Ev_ixor dX1_findAble_74 ?_
    refine Ev_iand dX1_findAble_75 ?_
    refine Ev_if_ne (tgt := 97) dX1_findAble_76 rfl (fun c => ?_) (fun c => ?_)
    · replace h := h.1 c
      refine Ev_iinc (j := 2) (l' := [(2, ev_i (ev_add a2 1)), (0, ev_r 162), (1, ev_i a1)]) dX1_findAble_97 rfl (Nat.le_of_ble_eq_true rfl) rfl ?_
      refine Ev_goto (tgt := 56) dX1_findAble_100 rfl ?_
      exact Ev_sub [1, 2, 0] rfl h
    · replace h := h.2 c
      refine Ev_aload_n 0 dX1_findAble_79 rfl rfl ?_
      refine Ev_iload_n 1 dX1_findAble_80 rfl rfl ?_
      refine Ev_iload_n 2 dX1_findAble_81 rfl rfl ?_
      refine Ev_callV (As := [ev_i a1, ev_i a2]) (b := 162) (st := []) (M' := M_X1_seesTo) cm_X1_seesTo wd_1207 wd_1209 wd_47 yX_162 cl_X1 rfl dX1_findAble_82 (Nat.le_refl _) rfl (Nat.le_of_ble_eq_true rfl) (Nat.le_of_ble_eq_true rfl) h (fun v u h hk => ?_)
      obtain ⟨r2, rfl⟩ := hk
      obtain ⟨s1, rfl⟩ : ∃ x, x = u := ⟨_, rfl⟩
      replace h := h r2 rfl
      refine Ev_if_eq (tgt := 97) dX1_findAble_85 rfl (fun c => ?_) (fun c => ?_)
      · replace h := h.1 c
        refine Ev_iinc (j := 2) (l' := [(2, ev_i (ev_add a2 1)), (0, ev_r 162), (1, ev_i a1)]) dX1_findAble_97 rfl (Nat.le_of_ble_eq_true rfl) rfl ?_
        refine Ev_goto (tgt := 56) dX1_findAble_100 rfl ?_
        exact Ev_sub [1, 2, 0] rfl h
      · replace h := h.2 c
        refine Ev_aload_n 0 dX1_findAble_88 rfl rfl ?_
        refine Ev_getR (i := 9) cl_X1 yX_162 (Nat.le_of_ble_eq_true rfl) rfl wd_627 dX1_findAble_89 ?_
        refine Ev_iload_n 1 dX1_findAble_92 rfl rfl ?_
        refine Ev_iload_n 2 dX1_findAble_93 rfl rfl ?_
        refine Ev_callS (As := [ev_r 168, ev_i a1, ev_i a2]) (st := []) (M' := M_X1_put) cm_X1_put wd_1204 wd_1205 dX1_findAble_94 (Nat.le_refl _) rfl (Nat.le_of_ble_eq_true rfl) (Nat.le_of_ble_eq_true rfl) h (fun v u h hk => ?_)
        cases hk
        obtain ⟨s3, rfl⟩ : ∃ x, x = u := ⟨_, rfl⟩
        refine Ev_iinc (j := 2) (l' := [(2, ev_i (ev_add a2 1)), (0, ev_r 162), (1, ev_i a1)]) dX1_findAble_97 rfl (Nat.le_of_ble_eq_true rfl) rfl ?_
        refine Ev_goto (tgt := 56) dX1_findAble_100 rfl ?_
        exact Ev_sub [1, 2, 0] rfl h
theorem dX1_seesTo_0 : decode cX1_seesTo 0 = .ok (.iconst 0, 1) := by decide +kernel
theorem dX1_seesTo_1 : decode cX1_seesTo 1 = .ok (.istore_n 3, 1) := by decide +kernel
theorem dX1_seesTo_2 : decode cX1_seesTo 2 = .ok (.iconst 0, 1) := by decide +kernel
theorem dX1_seesTo_3 : decode cX1_seesTo 3 = .ok (.istore 4, 2) := by decide +kernel
theorem dX1_seesTo_5 : decode cX1_seesTo 5 = .ok (.iload 4, 2) := by decide +kernel
theorem dX1_seesTo_7 : decode cX1_seesTo 7 = .ok (.aload_n 0, 1) := by decide +kernel
theorem dX1_seesTo_8 : decode cX1_seesTo 8 = .ok (.getfield 101, 3) := by decide +kernel
theorem dX1_seesTo_11 : decode cX1_seesTo 11 = .ok (.if_icmp .ge 97, 3) := by decide +kernel
theorem dX1_seesTo_14 : decode cX1_seesTo 14 = .ok (.iload_n 2, 1) := by decide +kernel
theorem dX1_seesTo_15 : decode cX1_seesTo 15 = .ok (.iconst 1, 1) := by decide +kernel
theorem dX1_seesTo_16 : decode cX1_seesTo 16 = .ok (.iload 4, 2) := by decide +kernel
theorem dX1_seesTo_18 : decode cX1_seesTo 18 = .ok (.ishl, 1) := by decide +kernel
theorem dX1_seesTo_19 : decode cX1_seesTo 19 = .ok (.iconst (-1), 1) := by decide +kernel
theorem dX1_seesTo_20 : decode cX1_seesTo 20 = .ok (.ixor, 1) := by decide +kernel
theorem dX1_seesTo_21 : decode cX1_seesTo 21 = .ok (.iand, 1) := by decide +kernel
theorem dX1_seesTo_22 : decode cX1_seesTo 22 = .ok (.istore 5, 2) := by decide +kernel
theorem dX1_seesTo_24 : decode cX1_seesTo 24 = .ok (.iconst (-1), 1) := by decide +kernel
theorem dX1_seesTo_25 : decode cX1_seesTo 25 = .ok (.istore 6, 2) := by decide +kernel
theorem dX1_seesTo_27 : decode cX1_seesTo 27 = .ok (.iload 5, 2) := by decide +kernel
theorem dX1_seesTo_29 : decode cX1_seesTo 29 = .ok (.ifCond .ne 15, 3) := by decide +kernel
theorem dX1_seesTo_32 : decode cX1_seesTo 32 = .ok (.aload_n 0, 1) := by decide +kernel
theorem dX1_seesTo_33 : decode cX1_seesTo 33 = .ok (.iload_n 1, 1) := by decide +kernel
theorem dX1_seesTo_34 : decode cX1_seesTo 34 = .ok (.iload 4, 2) := by decide +kernel
theorem dX1_seesTo_36 : decode cX1_seesTo 36 = .ok (.invokevirtual 157, 3) := by decide +kernel
theorem dX1_seesTo_39 : decode cX1_seesTo 39 = .ok (.istore 6, 2) := by decide +kernel
theorem dX1_seesTo_41 : decode cX1_seesTo 41 = .ok (.goto 33, 3) := by decide +kernel
theorem dX1_seesTo_44 : decode cX1_seesTo 44 = .ok (.iload 5, 2) := by decide +kernel
theorem dX1_seesTo_46 : decode cX1_seesTo 46 = .ok (.iload_n 2, 1) := by decide +kernel
theorem dX1_seesTo_47 : decode cX1_seesTo 47 = .ok (.if_icmp .eq 27, 3) := by decide +kernel
theorem dX1_seesTo_50 : decode cX1_seesTo 50 = .ok (.aload_n 0, 1) := by decide +kernel
theorem dX1_seesTo_51 : decode cX1_seesTo 51 = .ok (.getfield 27, 3) := by decide +kernel
theorem dX1_seesTo_54 : decode cX1_seesTo 54 = .ok (.iload_n 1, 1) := by decide +kernel
theorem dX1_seesTo_55 : decode cX1_seesTo 55 = .ok (.iload 5, 2) := by decide +kernel
theorem dX1_seesTo_57 : decode cX1_seesTo 57 = .ok (.invokestatic 164, 3) := by decide +kernel
theorem dX1_seesTo_60 : decode cX1_seesTo 60 = .ok (.ifCond .eq 14, 3) := by decide +kernel
theorem dX1_seesTo_63 : decode cX1_seesTo 63 = .ok (.aload_n 0, 1) := by decide +kernel
theorem dX1_seesTo_64 : decode cX1_seesTo 64 = .ok (.iload_n 1, 1) := by decide +kernel
theorem dX1_seesTo_65 : decode cX1_seesTo 65 = .ok (.iload 4, 2) := by decide +kernel
theorem dX1_seesTo_67 : decode cX1_seesTo 67 = .ok (.iload 5, 2) := by decide +kernel
theorem dX1_seesTo_69 : decode cX1_seesTo 69 = .ok (.invokevirtual 168, 3) := by decide +kernel
theorem dX1_seesTo_72 : decode cX1_seesTo 72 = .ok (.istore 6, 2) := by decide +kernel
theorem dX1_seesTo_74 : decode cX1_seesTo 74 = .ok (.aload_n 0, 1) := by decide +kernel
theorem dX1_seesTo_75 : decode cX1_seesTo 75 = .ok (.getfield 42, 3) := by decide +kernel
theorem dX1_seesTo_78 : decode cX1_seesTo 78 = .ok (.iload_n 2, 1) := by decide +kernel
theorem dX1_seesTo_79 : decode cX1_seesTo 79 = .ok (.bipush 10, 2) := by decide +kernel
theorem dX1_seesTo_81 : decode cX1_seesTo 81 = .ok (.imul, 1) := by decide +kernel
theorem dX1_seesTo_82 : decode cX1_seesTo 82 = .ok (.iload 4, 2) := by decide +kernel
theorem dX1_seesTo_84 : decode cX1_seesTo 84 = .ok (.iadd, 1) := by decide +kernel
theorem dX1_seesTo_85 : decode cX1_seesTo 85 = .ok (.iload 6, 2) := by decide +kernel
theorem dX1_seesTo_87 : decode cX1_seesTo 87 = .ok (.iastore, 1) := by decide +kernel
theorem dX1_seesTo_88 : decode cX1_seesTo 88 = .ok (.iload_n 3, 1) := by decide +kernel
theorem dX1_seesTo_89 : decode cX1_seesTo 89 = .ok (.iload 6, 2) := by decide +kernel
theorem dX1_seesTo_91 : decode cX1_seesTo 91 = .ok (.iconst (-1), 1) := by decide +kernel
theorem dX1_seesTo_92 : decode cX1_seesTo 92 = .ok (.if_icmp .eq 7, 3) := by decide +kernel
theorem dX1_seesTo_95 : decode cX1_seesTo 95 = .ok (.iconst 1, 1) := by decide +kernel
theorem dX1_seesTo_96 : decode cX1_seesTo 96 = .ok (.goto 4, 3) := by decide +kernel
theorem dX1_seesTo_99 : decode cX1_seesTo 99 = .ok (.iconst 0, 1) := by decide +kernel
theorem dX1_seesTo_100 : decode cX1_seesTo 100 = .ok (.ior, 1) := by decide +kernel
theorem dX1_seesTo_101 : decode cX1_seesTo 101 = .ok (.istore_n 3, 1) := by decide +kernel
theorem dX1_seesTo_102 : decode cX1_seesTo 102 = .ok (.iinc 4 1, 3) := by decide +kernel
theorem dX1_seesTo_105 : decode cX1_seesTo 105 = .ok (.goto (-100), 3) := by decide +kernel
theorem dX1_seesTo_108 : decode cX1_seesTo 108 = .ok (.iload_n 3, 1) := by decide +kernel
theorem dX1_seesTo_109 : decode cX1_seesTo 109 = .ok (.ireturn, 1) := by decide +kernel
theorem wp_X1_seesTo_0 {d : Nat} {s : ev_S} {Q : Option ev_V → ev_S → Prop} {a1 a2 : Int}
    (h : Ev layX M_X1_seesTo (d + 1) 5 [(0, ev_r 162), (1, ev_i a1), (2, ev_i a2), (3, ev_i 0), (4, ev_i 0)] [] s Q) :
    Ev layX M_X1_seesTo (d + 1) 0 [(0, ev_r 162), (1, ev_i a1), (2, ev_i a2)] [] s Q := by
  refine Ev_iconst dX1_seesTo_0 rfl (ev_Rc rfl) ?_
  refine Ev_istore_n (l' := [(3, ev_i 0), (0, ev_r 162), (1, ev_i a1), (2, ev_i a2)]) dX1_seesTo_1 rfl (Nat.le_of_ble_eq_true rfl) rfl ?_
  refine Ev_iconst dX1_seesTo_2 rfl (ev_Rc rfl) ?_
  refine Ev_istore (l' := [(4, ev_i 0), (3, ev_i 0), (0, ev_r 162), (1, ev_i a1), (2, ev_i a2)]) dX1_seesTo_3 (Nat.le_of_ble_eq_true rfl) rfl ?_
  exact Ev_sub [2, 3, 4, 1, 0] rfl h
theorem wp_X1_seesTo_5 {d : Nat} {s : ev_S} {Q : Option ev_V → ev_S → Prop} {a1 a2 a3 a4 : Int}
    (h : (((s 162 3) ≤ a4 → ((a3 = 0 ∨ a3 = 1) ∧ Q (some (ev_i a3)) s)) ∧ (a4 < (s 162 3) → (((ev_and a2 (ev_xor (ev_shl 1 a4) (-1))) ≠ 0 → (((ev_and a2 (ev_xor (ev_shl 1 a4) (-1))) = a2 → Ev layX M_X1_seesTo (d + 1) 74 [(0, ev_r 162), (1, ev_i a1), (2, ev_i a2), (3, ev_i a3), (4, ev_i a4), (6, ev_i (-1))] [] s Q) ∧ ((ev_and a2 (ev_xor (ev_shl 1 a4) (-1))) ≠ a2 → (Ev layX M_X1_holds d 0 [(0, ev_r 168), (1, ev_i a1), (2, ev_i (ev_and a2 (ev_xor (ev_shl 1 a4) (-1))))] [] s (ev_pi (fun r2 s1 => ((r2 = 0 → Ev layX M_X1_seesTo (d + 1) 74 [(0, ev_r 162), (1, ev_i a1), (2, ev_i a2), (3, ev_i a3), (4, ev_i a4), (6, ev_i (-1))] [] s1 Q) ∧ (r2 ≠ 0 → (Ev layX M_X1_freeLast d 0 [(0, ev_r 162), (1, ev_i a1), (2, ev_i a4), (3, ev_i (ev_and a2 (ev_xor (ev_shl 1 a4) (-1))))] [] s1 (ev_pi (fun r4 s3 => Ev layX M_X1_seesTo (d + 1) 74 [(0, ev_r 162), (1, ev_i a1), (2, ev_i a2), (3, ev_i a3), (4, ev_i a4), (6, ev_i r4)] [] s3 Q))))))))))) ∧ ((ev_and a2 (ev_xor (ev_shl 1 a4) (-1))) = 0 → (Ev layX M_X1_freeFirst d 0 [(0, ev_r 162), (1, ev_i a1), (2, ev_i a4)] [] s (ev_pi (fun r6 s5 => Ev layX M_X1_seesTo (d + 1) 74 [(0, ev_r 162), (1, ev_i a1), (2, ev_i a2), (3, ev_i a3), (4, ev_i a4), (6, ev_i r6)] [] s5 Q)))))))) :
    Ev layX M_X1_seesTo (d + 1) 5 [(0, ev_r 162), (1, ev_i a1), (2, ev_i a2), (3, ev_i a3), (4, ev_i a4)] [] s Q := by
  refine Ev_iload 4 dX1_seesTo_5 rfl ?_
  refine Ev_aload_n 0 dX1_seesTo_7 rfl rfl ?_
  refine Ev_get (i := 3) cl_X1 yX_162 (Nat.le_of_ble_eq_true rfl) rfl wd_621 dX1_seesTo_8 ?_
  refine Ev_icmp_ge (tgt := 108) dX1_seesTo_11 rfl (fun c => ?_) (fun c => ?_)
  · replace h := h.1 c
    refine Ev_iload_n 3 dX1_seesTo_108 rfl rfl ?_
    exact Ev_iret rfl dX1_seesTo_109 (ev_nb h.1) h.2
  · replace h := h.2 c
    refine Ev_iload_n 2 dX1_seesTo_14 rfl rfl ?_
    refine Ev_iconst dX1_seesTo_15 rfl (ev_Rc rfl) ?_
    refine Ev_iload 4 dX1_seesTo_16 rfl ?_
    refine Ev_ishl dX1_seesTo_18 ?_
    refine Ev_iconst dX1_seesTo_19 rfl (ev_Rc rfl) ?_
    refine Ev_ixor dX1_seesTo_20 ?_
    refine Ev_iand dX1_seesTo_21 ?_
    refine Ev_istore (l' := [(5, ev_i (ev_and a2 (ev_xor (ev_shl 1 a4) (-1)))), (0, ev_r 162), (1, ev_i a1), (2, ev_i a2), (3, ev_i a3), (4, ev_i a4)]) dX1_seesTo_22 (Nat.le_of_ble_eq_true rfl) rfl ?_
    refine Ev_iconst dX1_seesTo_24 rfl (ev_Rc rfl) ?_
    refine Ev_istore (l' := [(6, ev_i (-1)), (5, ev_i (ev_and a2 (ev_xor (ev_shl 1 a4) (-1)))), (0, ev_r 162), (1, ev_i a1), (2, ev_i a2), (3, ev_i a3), (4, ev_i a4)]) dX1_seesTo_25 (Nat.le_of_ble_eq_true rfl) rfl ?_
    refine Ev_iload 1 dX1_seesTo_27 rfl ?_
    refine Ev_if_ne (tgt := 44) dX1_seesTo_29 rfl (fun c => ?_) (fun c => ?_)
    · replace h := h.1 c
      refine Ev_iload 1 dX1_seesTo_44 rfl ?_
      refine Ev_iload_n 4 dX1_seesTo_46 rfl rfl ?_
      refine Ev_icmp_eq (tgt := 74) dX1_seesTo_47 rfl (fun c => ?_) (fun c => ?_)
      · replace h := h.1 c
        exact Ev_sub [2, 3, 4, 5, 6, 0] rfl h
      · replace h := h.2 c
        refine Ev_aload_n 2 dX1_seesTo_50 rfl rfl ?_
        refine Ev_getR (i := 9) cl_X1 yX_162 (Nat.le_of_ble_eq_true rfl) rfl wd_627 dX1_seesTo_51 ?_
        refine Ev_iload_n 3 dX1_seesTo_54 rfl rfl ?_
        refine Ev_iload 1 dX1_seesTo_55 rfl ?_
        refine Ev_callS (As := [ev_r 168, ev_i a1, ev_i (ev_and a2 (ev_xor (ev_shl 1 a4) (-1)))]) (st := []) (M' := M_X1_holds) cm_X1_holds wd_1211 wd_1212 dX1_seesTo_57 (Nat.le_refl _) rfl (Nat.le_of_ble_eq_true rfl) (Nat.le_of_ble_eq_true rfl) h (fun v u h hk => ?_)
        obtain ⟨r2, rfl⟩ := hk
        obtain ⟨s1, rfl⟩ : ∃ x, x = u := ⟨_, rfl⟩
        replace h := h r2 rfl
        refine Ev_if_eq (tgt := 74) dX1_seesTo_60 rfl (fun c => ?_) (fun c => ?_)
        · replace h := h.1 c
          exact Ev_sub [2, 3, 4, 5, 6, 0] rfl h
        · replace h := h.2 c
          refine Ev_aload_n 2 dX1_seesTo_63 rfl rfl ?_
          refine Ev_iload_n 3 dX1_seesTo_64 rfl rfl ?_
          refine Ev_iload 6 dX1_seesTo_65 rfl ?_
          refine Ev_iload 1 dX1_seesTo_67 rfl ?_
          refine Ev_callV (As := [ev_i a1, ev_i a4, ev_i (ev_and a2 (ev_xor (ev_shl 1 a4) (-1)))]) (b := 162) (st := []) (M' := M_X1_freeLast) cm_X1_freeLast wd_1214 wd_1216 wd_48 yX_162 cl_X1 rfl dX1_seesTo_69 (Nat.le_refl _) rfl (Nat.le_of_ble_eq_true rfl) (Nat.le_of_ble_eq_true rfl) h (fun v u h hk => ?_)
          obtain ⟨r4, rfl⟩ := hk
          obtain ⟨s3, rfl⟩ : ∃ x, x = u := ⟨_, rfl⟩
          replace h := h r4 rfl
          refine Ev_istore (l' := [(6, ev_i r4), (5, ev_i (ev_and a2 (ev_xor (ev_shl 1 a4) (-1)))), (0, ev_r 162), (1, ev_i a1), (2, ev_i a2), (3, ev_i a3), (4, ev_i a4)]) dX1_seesTo_72 (Nat.le_of_ble_eq_true rfl) rfl ?_
          exact Ev_sub [2, 3, 4, 5, 6, 0] rfl h
    · replace h := h.2 c
      refine Ev_aload_n 2 dX1_seesTo_32 rfl rfl ?_
      refine Ev_iload_n 3 dX1_seesTo_33 rfl rfl ?_
      refine Ev_iload 6 dX1_seesTo_34 rfl ?_
      refine Ev_callV (As := [ev_i a1, ev_i a4]) (b := 162) (st := []) (M' := M_X1_freeFirst) cm_X1_freeFirst wd_1195 wd_1197 wd_45 yX_162 cl_X1 rfl dX1_seesTo_36 (Nat.le_refl _) rfl (Nat.le_of_ble_eq_true rfl) (Nat.le_of_ble_eq_true rfl) h (fun v u h hk => ?_)
      obtain ⟨r6, rfl⟩ := hk
      obtain ⟨s5, rfl⟩ : ∃ x, x = u := ⟨_, rfl⟩
      replace h := h r6 rfl
      refine Ev_istore (l' := [(6, ev_i r6), (5, ev_i (ev_and a2 (ev_xor (ev_shl 1 a4) (-1)))), (0, ev_r 162), (1, ev_i a1), (2, ev_i a2), (3, ev_i a3), (4, ev_i a4)]) dX1_seesTo_39 (Nat.le_of_ble_eq_true rfl) rfl ?_
      refine Ev_goto (tgt := 74) dX1_seesTo_41 rfl ?_
      exact Ev_sub [2, 3, 4, 5, 6, 0] rfl h
theorem wp_X1_seesTo_74 {d : Nat} {s : ev_S} {Q : Option ev_V → ev_S → Prop} {a1 a2 a3 a4 a6 : Int}
    (h : ((0 ≤ (ev_add (ev_mul a2 10) a4) ∧ (ev_add (ev_mul a2 10) a4) < (10240 : Nat)) ∧ ∀ s1, ev_up s 173 (Int.toNat (ev_add (ev_mul a2 10) a4)) a6 = s1 → ((a6 = (-1) → Ev layX M_X1_seesTo (d + 1) 5 [(0, ev_r 162), (1, ev_i a1), (2, ev_i a2), (3, ev_i (ev_or a3 0)), (4, ev_i (ev_add a4 1))] [] s1 Q) ∧ (a6 ≠ (-1) → Ev layX M_X1_seesTo (d + 1) 5 [(0, ev_r 162), (1, ev_i a1), (2, ev_i a2), (3, ev_i (ev_or a3 1)), (4, ev_i (ev_add a4 1))] [] s1 Q)))) :
    Ev layX M_X1_seesTo (d + 1) 74 [(0, ev_r 162), (1, ev_i a1), (2, ev_i a2), (3, ev_i a3), (4, ev_i a4), (6, ev_i a6)] [] s Q := by
  refine Ev_aload_n 0 dX1_seesTo_74 rfl rfl ?_
  refine Ev_getR (i := 14) cl_X1 yX_162 (Nat.le_of_ble_eq_true rfl) rfl wd_632 dX1_seesTo_75 ?_
  refine Ev_iload_n 2 dX1_seesTo_78 rfl rfl ?_
  refine Ev_bipushC dX1_seesTo_79 rfl ?_
  refine Ev_imul dX1_seesTo_81 ?_
  refine Ev_iload 4 dX1_seesTo_82 rfl ?_
  refine Ev_iadd dX1_seesTo_84 ?_
  refine Ev_iload 5 dX1_seesTo_85 rfl ?_
  obtain ⟨h0, h⟩ := h
  refine Ev_iast yX_173 h0 dX1_seesTo_87 (Ev_nm (fun s1 es1 => ?_))
  replace h := h s1 es1
  refine Ev_iload_n 3 dX1_seesTo_88 rfl rfl ?_
  refine Ev_iload 5 dX1_seesTo_89 rfl ?_
  refine Ev_iconst dX1_seesTo_91 rfl (ev_Rc rfl) ?_
  refine Ev_icmp_eq (tgt := 99) dX1_seesTo_92 rfl (fun c => ?_) (fun c => ?_)
  · replace h := h.1 c
    refine Ev_iconst dX1_seesTo_99 rfl (ev_Rc rfl) ?_
    refine Ev_ior dX1_seesTo_100 ?_
    refine Ev_istore_n (l' := [(3, ev_i (ev_or a3 0)), (0, ev_r 162), (1, ev_i a1), (2, ev_i a2), (4, ev_i a4), (6, ev_i a6)]) dX1_seesTo_101 rfl (Nat.le_of_ble_eq_true rfl) rfl ?_
    refine Ev_iinc (j := 4) (l' := [(4, ev_i (ev_add a4 1)), (3, ev_i (ev_or a3 0)), (0, ev_r 162), (1, ev_i a1), (2, ev_i a2), (6, ev_i a6)]) dX1_seesTo_102 rfl (Nat.le_of_ble_eq_true rfl) rfl ?_
    refine Ev_goto (tgt := 5) dX1_seesTo_105 rfl ?_
    exact Ev_sub [2, 3, 4, 1, 0] rfl h
  · replace h := h.2 c
    refine Ev_iconst dX1_seesTo_95 rfl (ev_Rc rfl) ?_
    refine Ev_goto (tgt := 100) dX1_seesTo_96 rfl ?_
    refine Ev_ior dX1_seesTo_100 ?_
    refine Ev_istore_n (l' := [(3, ev_i (ev_or a3 1)), (0, ev_r 162), (1, ev_i a1), (2, ev_i a2), (4, ev_i a4), (6, ev_i a6)]) dX1_seesTo_101 rfl (Nat.le_of_ble_eq_true rfl) rfl ?_
    refine Ev_iinc (j := 4) (l' := [(4, ev_i (ev_add a4 1)), (3, ev_i (ev_or a3 1)), (0, ev_r 162), (1, ev_i a1), (2, ev_i a2), (6, ev_i a6)]) dX1_seesTo_102 rfl (Nat.le_of_ble_eq_true rfl) rfl ?_
    refine Ev_goto (tgt := 5) dX1_seesTo_105 rfl ?_
    exact Ev_sub [2, 3, 4, 1, 0] rfl h
theorem dX1_freeFirst_0 : decode cX1_freeFirst 0 = .ok (.aload_n 0, 1) := by decide +kernel
theorem dX1_freeFirst_1 : decode cX1_freeFirst 1 = .ok (.iload_n 1, 1) := by decide +kernel
theorem dX1_freeFirst_2 : decode cX1_freeFirst 2 = .ok (.iload_n 2, 1) := by decide +kernel
theorem dX1_freeFirst_3 : decode cX1_freeFirst 3 = .ok (.aload_n 0, 1) := by decide +kernel
theorem dX1_freeFirst_4 : decode cX1_freeFirst 4 = .ok (.getfield 55, 3) := by decide +kernel
theorem dX1_freeFirst_7 : decode cX1_freeFirst 7 = .ok (.getfield 172, 3) := by decide +kernel
theorem dX1_freeFirst_10 : decode cX1_freeFirst 10 = .ok (.aload_n 0, 1) := by decide +kernel
theorem dX1_freeFirst_11 : decode cX1_freeFirst 11 = .ok (.getfield 55, 3) := by decide +kernel
theorem dX1_freeFirst_14 : decode cX1_freeFirst 14 = .ok (.getfield 177, 3) := by decide +kernel
theorem dX1_freeFirst_17 : decode cX1_freeFirst 17 = .ok (.iload_n 1, 1) := by decide +kernel
theorem dX1_freeFirst_18 : decode cX1_freeFirst 18 = .ok (.iaload, 1) := by decide +kernel
theorem dX1_freeFirst_19 : decode cX1_freeFirst 19 = .ok (.aload_n 0, 1) := by decide +kernel
theorem dX1_freeFirst_20 : decode cX1_freeFirst 20 = .ok (.iload_n 2, 1) := by decide +kernel
theorem dX1_freeFirst_21 : decode cX1_freeFirst 21 = .ok (.invokevirtual 148, 3) := by decide +kernel
theorem dX1_freeFirst_24 : decode cX1_freeFirst 24 = .ok (.invokestatic 151, 3) := by decide +kernel
theorem dX1_freeFirst_27 : decode cX1_freeFirst 27 = .ok (.invokevirtual 180, 3) := by decide +kernel
theorem dX1_freeFirst_30 : decode cX1_freeFirst 30 = .ok (.ireturn, 1) := by decide +kernel
theorem wp_X1_freeFirst_0 {d : Nat} {s : ev_S} {Q : Option ev_V → ev_S → Prop} {a1 a2 : Int}
    (h : ((0 ≤ a1 ∧ a1 < (6 : Nat)) ∧ (Ev layX M_X1_placeOf d 0 [(0, ev_r 162), (1, ev_i a2)] [] s (ev_pi (fun r2 s1 => (Ev layX M_X11_stepsBetween d 0 [(0, ev_i (s 19 (Int.toNat a1))), (1, ev_i r2)] [] s1 (ev_pi (fun r4 s3 => (Ev layX M_X1_freeBehind d 0 [(0, ev_r 162), (1, ev_i a1), (2, ev_i a2), (3, ev_i (s 15 0)), (4, ev_i r4)] [] s3 (ev_pi (fun r6 s5 => Q (some (ev_i r6)) s5))))))))))) :
    Ev layX M_X1_freeFirst (d + 1) 0 [(0, ev_r 162), (1, ev_i a1), (2, ev_i a2)] [] s Q := by
  refine Ev_aload_n 0 dX1_freeFirst_0 rfl rfl ?_
  refine Ev_iload_n 1 dX1_freeFirst_1 rfl rfl ?_
  refine Ev_iload_n 2 dX1_freeFirst_2 rfl rfl ?_
  refine Ev_aload_n 0 dX1_freeFirst_3 rfl rfl ?_
  refine Ev_getR (i := 1) cl_X1 yX_162 (Nat.le_of_ble_eq_true rfl) rfl wd_619 dX1_freeFirst_4 ?_
  refine Ev_get (i := 0) cl_X2 yX_15 (Nat.le_of_ble_eq_true rfl) rfl wd_341 dX1_freeFirst_7 ?_
  refine Ev_aload_n 0 dX1_freeFirst_10 rfl rfl ?_
  refine Ev_getR (i := 1) cl_X1 yX_162 (Nat.le_of_ble_eq_true rfl) rfl wd_619 dX1_freeFirst_11 ?_
  refine Ev_getR (i := 5) cl_X2 yX_15 (Nat.le_of_ble_eq_true rfl) rfl wd_358 dX1_freeFirst_14 ?_
  refine Ev_iload_n 1 dX1_freeFirst_17 rfl rfl ?_
  obtain ⟨h0, h⟩ := h
  refine Ev_iald yX_19 h0 dX1_freeFirst_18 ?_
  refine Ev_aload_n 0 dX1_freeFirst_19 rfl rfl ?_
  refine Ev_iload_n 2 dX1_freeFirst_20 rfl rfl ?_
  refine Ev_callV (As := [ev_i a2]) (b := 162) (st := [ev_i (s 19 (Int.toNat a1)), ev_i (s 15 0), ev_i a2, ev_i a1, ev_r 162]) (M' := M_X1_placeOf) cm_X1_placeOf wd_1177 wd_1179 wd_42 yX_162 cl_X1 rfl dX1_freeFirst_21 (Nat.le_refl _) rfl (Nat.le_of_ble_eq_true rfl) (Nat.le_of_ble_eq_true rfl) h (fun v u h hk => ?_)
  obtain ⟨r2, rfl⟩ := hk
  obtain ⟨s1, rfl⟩ : ∃ x, x = u := ⟨_, rfl⟩
  replace h := h r2 rfl
  refine Ev_callSN (As := [ev_i (s 19 (Int.toNat a1)), ev_i r2]) (st := [ev_i (s 15 0), ev_i a2, ev_i a1, ev_r 162]) (M' := M_X11_stepsBetween) cm_X11_stepsBetween wd_1181 wd_1106 dX1_freeFirst_24 (Nat.le_refl _) rfl (Nat.le_of_ble_eq_true rfl) (Nat.le_of_ble_eq_true rfl) h (fun v u h hk => ?_)
  obtain ⟨r4, rfl⟩ := hk
  obtain ⟨s3, rfl⟩ : ∃ x, x = u := ⟨_, rfl⟩
  replace h := h r4 rfl
  refine Ev_callV (As := [ev_i a1, ev_i a2, ev_i (s 15 0), ev_i r4]) (b := 162) (st := []) (M' := M_X1_freeBehind) cm_X1_freeBehind wd_1199 wd_1201 wd_46 yX_162 cl_X1 rfl dX1_freeFirst_27 (Nat.le_refl _) rfl (Nat.le_of_ble_eq_true rfl) (Nat.le_of_ble_eq_true rfl) h (fun v u h hk => ?_)
  obtain ⟨r6, rfl⟩ := hk
  obtain ⟨s5, rfl⟩ : ∃ x, x = u := ⟨_, rfl⟩
  replace h := h r6 rfl
  exact Ev_iret rfl dX1_freeFirst_30 rfl h
theorem dX1_freeLast_0 : decode cX1_freeLast 0 = .ok (.iconst (-1), 1) := by decide +kernel
theorem dX1_freeLast_1 : decode cX1_freeLast 1 = .ok (.istore 4, 2) := by decide +kernel
theorem dX1_freeLast_3 : decode cX1_freeLast 3 = .ok (.iconst 0, 1) := by decide +kernel
theorem dX1_freeLast_4 : decode cX1_freeLast 4 = .ok (.istore 5, 2) := by decide +kernel
theorem dX1_freeLast_6 : decode cX1_freeLast 6 = .ok (.iload 5, 2) := by decide +kernel
theorem dX1_freeLast_8 : decode cX1_freeLast 8 = .ok (.aload_n 0, 1) := by decide +kernel
theorem dX1_freeLast_9 : decode cX1_freeLast 9 = .ok (.getfield 101, 3) := by decide +kernel
theorem dX1_freeLast_12 : decode cX1_freeLast 12 = .ok (.if_icmp .ge 88, 3) := by decide +kernel
theorem dX1_freeLast_15 : decode cX1_freeLast 15 = .ok (.aload_n 0, 1) := by decide +kernel
theorem dX1_freeLast_16 : decode cX1_freeLast 16 = .ok (.getfield 42, 3) := by decide +kernel
theorem dX1_freeLast_19 : decode cX1_freeLast 19 = .ok (.iload_n 3, 1) := by decide +kernel
theorem dX1_freeLast_20 : decode cX1_freeLast 20 = .ok (.bipush 10, 2) := by decide +kernel
theorem dX1_freeLast_22 : decode cX1_freeLast 22 = .ok (.imul, 1) := by decide +kernel
theorem dX1_freeLast_23 : decode cX1_freeLast 23 = .ok (.iload 5, 2) := by decide +kernel
theorem dX1_freeLast_25 : decode cX1_freeLast 25 = .ok (.iadd, 1) := by decide +kernel
theorem dX1_freeLast_26 : decode cX1_freeLast 26 = .ok (.iaload, 1) := by decide +kernel
theorem dX1_freeLast_27 : decode cX1_freeLast 27 = .ok (.istore 6, 2) := by decide +kernel
theorem dX1_freeLast_29 : decode cX1_freeLast 29 = .ok (.iload_n 3, 1) := by decide +kernel
theorem dX1_freeLast_30 : decode cX1_freeLast 30 = .ok (.iload 5, 2) := by decide +kernel
theorem dX1_freeLast_32 : decode cX1_freeLast 32 = .ok (.ishr, 1) := by decide +kernel
theorem dX1_freeLast_33 : decode cX1_freeLast 33 = .ok (.iconst 1, 1) := by decide +kernel
theorem dX1_freeLast_34 : decode cX1_freeLast 34 = .ok (.iand, 1) := by decide +kernel
theorem dX1_freeLast_35 : decode cX1_freeLast 35 = .ok (.ifCond .eq 59, 3) := by decide +kernel
theorem dX1_freeLast_38 : decode cX1_freeLast 38 = .ok (.iload 6, 2) := by decide +kernel
theorem dX1_freeLast_40 : decode cX1_freeLast 40 = .ok (.iconst (-1), 1) := by decide +kernel
theorem dX1_freeLast_41 : decode cX1_freeLast 41 = .ok (.if_icmp .eq 53, 3) := by decide +kernel
theorem dX1_freeLast_44 : decode cX1_freeLast 44 = .ok (.aload_n 0, 1) := by decide +kernel
theorem dX1_freeLast_45 : decode cX1_freeLast 45 = .ok (.iload_n 1, 1) := by decide +kernel
theorem dX1_freeLast_46 : decode cX1_freeLast 46 = .ok (.iload_n 2, 1) := by decide +kernel
theorem dX1_freeLast_47 : decode cX1_freeLast 47 = .ok (.iload 6, 2) := by decide +kernel
theorem dX1_freeLast_49 : decode cX1_freeLast 49 = .ok (.aload_n 0, 1) := by decide +kernel
theorem dX1_freeLast_50 : decode cX1_freeLast 50 = .ok (.getfield 18, 3) := by decide +kernel
theorem dX1_freeLast_53 : decode cX1_freeLast 53 = .ok (.iload 5, 2) := by decide +kernel
theorem dX1_freeLast_55 : decode cX1_freeLast 55 = .ok (.bipush 10, 2) := by decide +kernel
theorem dX1_freeLast_57 : decode cX1_freeLast 57 = .ok (.imul, 1) := by decide +kernel
theorem dX1_freeLast_58 : decode cX1_freeLast 58 = .ok (.iload_n 2, 1) := by decide +kernel
theorem dX1_freeLast_59 : decode cX1_freeLast 59 = .ok (.iadd, 1) := by decide +kernel
theorem dX1_freeLast_60 : decode cX1_freeLast 60 = .ok (.iaload, 1) := by decide +kernel
theorem dX1_freeLast_61 : decode cX1_freeLast 61 = .ok (.invokevirtual 180, 3) := by decide +kernel
theorem dX1_freeLast_64 : decode cX1_freeLast 64 = .ok (.istore 7, 2) := by decide +kernel
theorem dX1_freeLast_66 : decode cX1_freeLast 66 = .ok (.iload 4, 2) := by decide +kernel
theorem dX1_freeLast_68 : decode cX1_freeLast 68 = .ok (.iconst (-1), 1) := by decide +kernel
theorem dX1_freeLast_69 : decode cX1_freeLast 69 = .ok (.if_icmp .eq 16, 3) := by decide +kernel
theorem dX1_freeLast_72 : decode cX1_freeLast 72 = .ok (.iload 7, 2) := by decide +kernel
theorem dX1_freeLast_74 : decode cX1_freeLast 74 = .ok (.iconst (-1), 1) := by decide +kernel
theorem dX1_freeLast_75 : decode cX1_freeLast 75 = .ok (.if_icmp .eq 15, 3) := by decide +kernel
theorem dX1_freeLast_78 : decode cX1_freeLast 78 = .ok (.iload 7, 2) := by decide +kernel
theorem dX1_freeLast_80 : decode cX1_freeLast 80 = .ok (.iload 4, 2) := by decide +kernel
theorem dX1_freeLast_82 : decode cX1_freeLast 82 = .ok (.if_icmp .ge 8, 3) := by decide +kernel
theorem dX1_freeLast_85 : decode cX1_freeLast 85 = .ok (.iload 7, 2) := by decide +kernel
theorem dX1_freeLast_87 : decode cX1_freeLast 87 = .ok (.goto 5, 3) := by decide +kernel
theorem dX1_freeLast_90 : decode cX1_freeLast 90 = .ok (.iload 4, 2) := by decide +kernel
theorem dX1_freeLast_92 : decode cX1_freeLast 92 = .ok (.istore 4, 2) := by decide +kernel
theorem dX1_freeLast_94 : decode cX1_freeLast 94 = .ok (.iinc 5 1, 3) := by decide +kernel
theorem dX1_freeLast_97 : decode cX1_freeLast 97 = .ok (.goto (-91), 3) := by decide +kernel
theorem dX1_freeLast_100 : decode cX1_freeLast 100 = .ok (.iload 4, 2) := by decide +kernel
theorem dX1_freeLast_102 : decode cX1_freeLast 102 = .ok (.ireturn, 1) := by decide +kernel
theorem wp_X1_freeLast_0 {d : Nat} {s : ev_S} {Q : Option ev_V → ev_S → Prop} {a1 a2 a3 : Int}
    (h : Ev layX M_X1_freeLast (d + 1) 6 [(0, ev_r 162), (1, ev_i a1), (2, ev_i a2), (3, ev_i a3), (4, ev_i (-1)), (5, ev_i 0)] [] s Q) :
    Ev layX M_X1_freeLast (d + 1) 0 [(0, ev_r 162), (1, ev_i a1), (2, ev_i a2), (3, ev_i a3)] [] s Q := by
  refine Ev_iconst dX1_freeLast_0 rfl (ev_Rc rfl) ?_
  refine Ev_istore (l' := [(4, ev_i (-1)), (0, ev_r 162), (1, ev_i a1), (2, ev_i a2), (3, ev_i a3)]) dX1_freeLast_1 (Nat.le_of_ble_eq_true rfl) rfl ?_
  refine Ev_iconst dX1_freeLast_3 rfl (ev_Rc rfl) ?_
  refine Ev_istore (l' := [(5, ev_i 0), (4, ev_i (-1)), (0, ev_r 162), (1, ev_i a1), (2, ev_i a2), (3, ev_i a3)]) dX1_freeLast_4 (Nat.le_of_ble_eq_true rfl) rfl ?_
  exact Ev_sub [2, 3, 4, 5, 1, 0] rfl h
theorem wp_X1_freeLast_6 {d : Nat} {s : ev_S} {Q : Option ev_V → ev_S → Prop} {a1 a2 a3 a4 a5 : Int}
    (h : (((s 162 3) ≤ a5 → Q (some (ev_i a4)) s) ∧ (a5 < (s 162 3) → ((0 ≤ (ev_add (ev_mul a3 10) a5) ∧ (ev_add (ev_mul a3 10) a5) < (10240 : Nat)) ∧ (((ev_and (ev_shr a3 a5) 1) = 0 → Ev layX M_X1_freeLast (d + 1) 6 [(0, ev_r 162), (1, ev_i a1), (2, ev_i a2), (3, ev_i a3), (4, ev_i a4), (5, ev_i (ev_add a5 1))] [] s Q) ∧ ((ev_and (ev_shr a3 a5) 1) ≠ 0 → (((s 173 (Int.toNat (ev_add (ev_mul a3 10) a5))) = (-1) → Ev layX M_X1_freeLast (d + 1) 6 [(0, ev_r 162), (1, ev_i a1), (2, ev_i a2), (3, ev_i a3), (4, ev_i a4), (5, ev_i (ev_add a5 1))] [] s Q) ∧ ((s 173 (Int.toNat (ev_add (ev_mul a3 10) a5))) ≠ (-1) → ((0 ≤ (ev_add (ev_mul a5 10) a2) ∧ (ev_add (ev_mul a5 10) a2) < (100 : Nat)) ∧ (Ev layX M_X1_freeBehind d 0 [(0, ev_r 162), (1, ev_i a1), (2, ev_i a2), (3, ev_i (s 173 (Int.toNat (ev_add (ev_mul a3 10) a5)))), (4, ev_i (s 165 (Int.toNat (ev_add (ev_mul a5 10) a2))))] [] s (ev_pi (fun r2 s1 => ((a4 = (-1) → Ev layX M_X1_freeLast (d + 1) 6 [(0, ev_r 162), (1, ev_i a1), (2, ev_i a2), (3, ev_i a3), (4, ev_i r2), (5, ev_i (ev_add a5 1))] [] s1 Q) ∧ (a4 ≠ (-1) → ((r2 = (-1) → Ev layX M_X1_freeLast (d + 1) 6 [(0, ev_r 162), (1, ev_i a1), (2, ev_i a2), (3, ev_i a3), (4, ev_i a4), (5, ev_i (ev_add a5 1))] [] s1 Q) ∧ (r2 ≠ (-1) → ((a4 ≤ r2 → Ev layX M_X1_freeLast (d + 1) 6 [(0, ev_r 162), (1, ev_i a1), (2, ev_i a2), (3, ev_i a3), (4, ev_i a4), (5, ev_i (ev_add a5 1))] [] s1 Q) ∧ (r2 < a4 → Ev layX M_X1_freeLast (d + 1) 6 [(0, ev_r 162), (1, ev_i a1), (2, ev_i a2), (3, ev_i a3), (4, ev_i r2), (5, ev_i (ev_add a5 1))] [] s1 Q)))))))))))))))))) :
    Ev layX M_X1_freeLast (d + 1) 6 [(0, ev_r 162), (1, ev_i a1), (2, ev_i a2), (3, ev_i a3), (4, ev_i a4), (5, ev_i a5)] [] s Q := by
  refine Ev_iload 5 dX1_freeLast_6 rfl ?_
  refine Ev_aload_n 0 dX1_freeLast_8 rfl rfl ?_
  refine Ev_get (i := 3) cl_X1 yX_162 (Nat.le_of_ble_eq_true rfl) rfl wd_621 dX1_freeLast_9 ?_
  refine Ev_icmp_ge (tgt := 100) dX1_freeLast_12 rfl (fun c => ?_) (fun c => ?_)
  · replace h := h.1 c
    refine Ev_iload 4 dX1_freeLast_100 rfl ?_
    exact Ev_iret rfl dX1_freeLast_102 rfl h
  · replace h := h.2 c
    refine Ev_aload_n 0 dX1_freeLast_15 rfl rfl ?_
    refine Ev_getR (i := 14) cl_X1 yX_162 (Nat.le_of_ble_eq_true rfl) rfl wd_632 dX1_freeLast_16 ?_
    refine Ev_iload_n 3 dX1_freeLast_19 rfl rfl ?_
    refine Ev_bipushC dX1_freeLast_20 rfl ?_
    refine Ev_imul dX1_freeLast_22 ?_
    refine Ev_iload 5 dX1_freeLast_23 rfl ?_
    refine Ev_iadd dX1_freeLast_25 ?_
    obtain ⟨h0, h⟩ := h
    refine Ev_iald yX_173 h0 dX1_freeLast_26 ?_
    refine Ev_istore (l' := [(6, ev_i (s 173 (Int.toNat (ev_add (ev_mul a3 10) a5)))), (0, ev_r 162), (1, ev_i a1), (2, ev_i a2), (3, ev_i a3), (4, ev_i a4), (5, ev_i a5)]) dX1_freeLast_27 (Nat.le_of_ble_eq_true rfl) rfl ?_
    refine Ev_iload_n 4 dX1_freeLast_29 rfl rfl ?_
    refine Ev_iload 6 dX1_freeLast_30 rfl ?_
    refine Ev_ishr dX1_freeLast_32 ?_
    refine Ev_iconst dX1_freeLast_33 rfl (ev_Rc rfl) ?_
    refine Ev_iand dX1_freeLast_34 ?_
    refine Ev_if_eq (tgt := 94) dX1_freeLast_35 rfl (fun c => ?_) (fun c => ?_)
    · replace h := h.1 c
      refine Ev_iinc (j := 6) (l' := [(5, ev_i (ev_add a5 1)), (6, ev_i (s 173 (Int.toNat (ev_add (ev_mul a3 10) a5)))), (0, ev_r 162), (1, ev_i a1), (2, ev_i a2), (3, ev_i a3), (4, ev_i a4)]) dX1_freeLast_94 rfl (Nat.le_of_ble_eq_true rfl) rfl ?_
      refine Ev_goto (tgt := 6) dX1_freeLast_97 rfl ?_
      exact Ev_sub [2, 3, 4, 5, 6, 0] rfl h
    · replace h := h.2 c
      refine Ev_iload 0 dX1_freeLast_38 rfl ?_
      refine Ev_iconst dX1_freeLast_40 rfl (ev_Rc rfl) ?_
      refine Ev_icmp_eq (tgt := 94) dX1_freeLast_41 rfl (fun c => ?_) (fun c => ?_)
      · replace h := h.1 c
        refine Ev_iinc (j := 6) (l' := [(5, ev_i (ev_add a5 1)), (6, ev_i (s 173 (Int.toNat (ev_add (ev_mul a3 10) a5)))), (0, ev_r 162), (1, ev_i a1), (2, ev_i a2), (3, ev_i a3), (4, ev_i a4)]) dX1_freeLast_94 rfl (Nat.le_of_ble_eq_true rfl) rfl ?_
        refine Ev_goto (tgt := 6) dX1_freeLast_97 rfl ?_
        exact Ev_sub [2, 3, 4, 5, 6, 0] rfl h
      · replace h := h.2 c
        refine Ev_aload_n 1 dX1_freeLast_44 rfl rfl ?_
        refine Ev_iload_n 2 dX1_freeLast_45 rfl rfl ?_
        refine Ev_iload_n 3 dX1_freeLast_46 rfl rfl ?_
        refine Ev_iload 0 dX1_freeLast_47 rfl ?_
        refine Ev_aload_n 1 dX1_freeLast_49 rfl rfl ?_
        refine Ev_getR (i := 6) cl_X1 yX_162 (Nat.le_of_ble_eq_true rfl) rfl wd_624 dX1_freeLast_50 ?_
        refine Ev_iload 6 dX1_freeLast_53 rfl ?_
        refine Ev_bipushC dX1_freeLast_55 rfl ?_
        refine Ev_imul dX1_freeLast_57 ?_
        refine Ev_iload_n 3 dX1_freeLast_58 rfl rfl ?_
        refine Ev_iadd dX1_freeLast_59 ?_
        obtain ⟨h0, h⟩ := h
        refine Ev_iald yX_165 h0 dX1_freeLast_60 ?_
        refine Ev_callV (As := [ev_i a1, ev_i a2, ev_i (s 173 (Int.toNat (ev_add (ev_mul a3 10) a5))), ev_i (s 165 (Int.toNat (ev_add (ev_mul a5 10) a2)))]) (b := 162) (st := []) (M' := M_X1_freeBehind) cm_X1_freeBehind wd_1199 wd_1201 wd_46 yX_162 cl_X1 rfl dX1_freeLast_61 (Nat.le_refl _) rfl (Nat.le_of_ble_eq_true rfl) (Nat.le_of_ble_eq_true rfl) h (fun v u h hk => ?_)
        obtain ⟨r2, rfl⟩ := hk
        obtain ⟨s1, rfl⟩ : ∃ x, x = u := ⟨_, rfl⟩
        replace h := h r2 rfl
        refine Ev_istore (l' := [(7, ev_i r2), (6, ev_i (s 173 (Int.toNat (ev_add (ev_mul a3 10) a5)))), (0, ev_r 162), (1, ev_i a1), (2, ev_i a2), (3, ev_i a3), (4, ev_i a4), (5, ev_i a5)]) dX1_freeLast_64 (Nat.le_of_ble_eq_true rfl) rfl ?_
        refine Ev_iload 6 dX1_freeLast_66 rfl ?_
        refine Ev_iconst dX1_freeLast_68 rfl (ev_Rc rfl) ?_
        refine Ev_icmp_eq (tgt := 85) dX1_freeLast_69 rfl (fun c => ?_) (fun c => ?_)
        · replace h := h.1 c
          refine Ev_iload 0 dX1_freeLast_85 rfl ?_
          refine Ev_goto (tgt := 92) dX1_freeLast_87 rfl ?_
          refine Ev_istore (l' := [(4, ev_i r2), (7, ev_i r2), (6, ev_i (s 173 (Int.toNat (ev_add (ev_mul a3 10) a5)))), (0, ev_r 162), (1, ev_i a1), (2, ev_i a2), (3, ev_i a3), (5, ev_i a5)]) dX1_freeLast_92 (Nat.le_of_ble_eq_true rfl) rfl ?_
          refine Ev_iinc (j := 7) (l' := [(5, ev_i (ev_add a5 1)), (4, ev_i r2), (7, ev_i r2), (6, ev_i (s 173 (Int.toNat (ev_add (ev_mul a3 10) a5)))), (0, ev_r 162), (1, ev_i a1), (2, ev_i a2), (3, ev_i a3)]) dX1_freeLast_94 rfl (Nat.le_of_ble_eq_true rfl) rfl ?_
          refine Ev_goto (tgt := 6) dX1_freeLast_97 rfl ?_
          exact Ev_sub [4, 5, 6, 7, 1, 0] rfl h
        · replace h := h.2 c
          refine Ev_iload 0 dX1_freeLast_72 rfl ?_
          refine Ev_iconst dX1_freeLast_74 rfl (ev_Rc rfl) ?_
          refine Ev_icmp_eq (tgt := 90) dX1_freeLast_75 rfl (fun c => ?_) (fun c => ?_)
          · replace h := h.1 c
            refine Ev_iload 6 dX1_freeLast_90 rfl ?_
            refine Ev_istore (l' := [(4, ev_i a4), (7, ev_i r2), (6, ev_i (s 173 (Int.toNat (ev_add (ev_mul a3 10) a5)))), (0, ev_r 162), (1, ev_i a1), (2, ev_i a2), (3, ev_i a3), (5, ev_i a5)]) dX1_freeLast_92 (Nat.le_of_ble_eq_true rfl) rfl ?_
            refine Ev_iinc (j := 7) (l' := [(5, ev_i (ev_add a5 1)), (4, ev_i a4), (7, ev_i r2), (6, ev_i (s 173 (Int.toNat (ev_add (ev_mul a3 10) a5)))), (0, ev_r 162), (1, ev_i a1), (2, ev_i a2), (3, ev_i a3)]) dX1_freeLast_94 rfl (Nat.le_of_ble_eq_true rfl) rfl ?_
            refine Ev_goto (tgt := 6) dX1_freeLast_97 rfl ?_
            exact Ev_sub [4, 5, 6, 7, 1, 0] rfl h
          · replace h := h.2 c
            refine Ev_iload 0 dX1_freeLast_78 rfl ?_
            refine Ev_iload 6 dX1_freeLast_80 rfl ?_
            refine Ev_icmp_ge (tgt := 90) dX1_freeLast_82 rfl (fun c => ?_) (fun c => ?_)
            · replace h := h.1 c
              refine Ev_iload 6 dX1_freeLast_90 rfl ?_
              refine Ev_istore (l' := [(4, ev_i a4), (7, ev_i r2), (6, ev_i (s 173 (Int.toNat (ev_add (ev_mul a3 10) a5)))), (0, ev_r 162), (1, ev_i a1), (2, ev_i a2), (3, ev_i a3), (5, ev_i a5)]) dX1_freeLast_92 (Nat.le_of_ble_eq_true rfl) rfl ?_
              refine Ev_iinc (j := 7) (l' := [(5, ev_i (ev_add a5 1)), (4, ev_i a4), (7, ev_i r2), (6, ev_i (s 173 (Int.toNat (ev_add (ev_mul a3 10) a5)))), (0, ev_r 162), (1, ev_i a1), (2, ev_i a2), (3, ev_i a3)]) dX1_freeLast_94 rfl (Nat.le_of_ble_eq_true rfl) rfl ?_
              refine Ev_goto (tgt := 6) dX1_freeLast_97 rfl ?_
              exact Ev_sub [4, 5, 6, 7, 1, 0] rfl h
            · replace h := h.2 c
              refine Ev_iload 0 dX1_freeLast_85 rfl ?_
              refine Ev_goto (tgt := 92) dX1_freeLast_87 rfl ?_
              refine Ev_istore (l' := [(4, ev_i r2), (7, ev_i r2), (6, ev_i (s 173 (Int.toNat (ev_add (ev_mul a3 10) a5)))), (0, ev_r 162), (1, ev_i a1), (2, ev_i a2), (3, ev_i a3), (5, ev_i a5)]) dX1_freeLast_92 (Nat.le_of_ble_eq_true rfl) rfl ?_
              refine Ev_iinc (j := 7) (l' := [(5, ev_i (ev_add a5 1)), (4, ev_i r2), (7, ev_i r2), (6, ev_i (s 173 (Int.toNat (ev_add (ev_mul a3 10) a5)))), (0, ev_r 162), (1, ev_i a1), (2, ev_i a2), (3, ev_i a3)]) dX1_freeLast_94 rfl (Nat.le_of_ble_eq_true rfl) rfl ?_
              refine Ev_goto (tgt := 6) dX1_freeLast_97 rfl ?_
              exact Ev_sub [4, 5, 6, 7, 1, 0] rfl h
theorem dX1_freeBehind_0 : decode cX1_freeBehind 0 = .ok (.iload_n 3, 1) := by decide +kernel
theorem dX1_freeBehind_1 : decode cX1_freeBehind 1 = .ok (.iload 4, 2) := by decide +kernel
theorem dX1_freeBehind_3 : decode cX1_freeBehind 3 = .ok (.aload_n 0, 1) := by decide +kernel
theorem dX1_freeBehind_4 : decode cX1_freeBehind 4 = .ok (.getfield 51, 3) := by decide +kernel
theorem dX1_freeBehind_7 : decode cX1_freeBehind 7 = .ok (.getfield 184, 3) := by decide +kernel
theorem dX1_freeBehind_10 : decode cX1_freeBehind 10 = .ok (.iload_n 1, 1) := by decide +kernel
theorem dX1_freeBehind_11 : decode cX1_freeBehind 11 = .ok (.iaload, 1) := by decide +kernel
theorem dX1_freeBehind_12 : decode cX1_freeBehind 12 = .ok (.imul, 1) := by decide +kernel
theorem dX1_freeBehind_13 : decode cX1_freeBehind 13 = .ok (.iadd, 1) := by decide +kernel
theorem dX1_freeBehind_14 : decode cX1_freeBehind 14 = .ok (.istore 5, 2) := by decide +kernel
theorem dX1_freeBehind_16 : decode cX1_freeBehind 16 = .ok (.iload 5, 2) := by decide +kernel
theorem dX1_freeBehind_18 : decode cX1_freeBehind 18 = .ok (.aload_n 0, 1) := by decide +kernel
theorem dX1_freeBehind_19 : decode cX1_freeBehind 19 = .ok (.getfield 15, 3) := by decide +kernel
theorem dX1_freeBehind_22 : decode cX1_freeBehind 22 = .ok (.iload_n 2, 1) := by decide +kernel
theorem dX1_freeBehind_23 : decode cX1_freeBehind 23 = .ok (.iaload, 1) := by decide +kernel
theorem dX1_freeBehind_24 : decode cX1_freeBehind 24 = .ok (.aload_n 0, 1) := by decide +kernel
theorem dX1_freeBehind_25 : decode cX1_freeBehind 25 = .ok (.getfield 51, 3) := by decide +kernel
theorem dX1_freeBehind_28 : decode cX1_freeBehind 28 = .ok (.getfield 187, 3) := by decide +kernel
theorem dX1_freeBehind_31 : decode cX1_freeBehind 31 = .ok (.isub, 1) := by decide +kernel
theorem dX1_freeBehind_32 : decode cX1_freeBehind 32 = .ok (.invokestatic 190, 3) := by decide +kernel
theorem dX1_freeBehind_35 : decode cX1_freeBehind 35 = .ok (.istore 6, 2) := by decide +kernel
theorem dX1_freeBehind_37 : decode cX1_freeBehind 37 = .ok (.iload 6, 2) := by decide +kernel
theorem dX1_freeBehind_39 : decode cX1_freeBehind 39 = .ok (.aload_n 0, 1) := by decide +kernel
theorem dX1_freeBehind_40 : decode cX1_freeBehind 40 = .ok (.getfield 15, 3) := by decide +kernel
theorem dX1_freeBehind_43 : decode cX1_freeBehind 43 = .ok (.iload_n 2, 1) := by decide +kernel
theorem dX1_freeBehind_44 : decode cX1_freeBehind 44 = .ok (.iaload, 1) := by decide +kernel
theorem dX1_freeBehind_45 : decode cX1_freeBehind 45 = .ok (.if_icmp .gt 10, 3) := by decide +kernel
theorem dX1_freeBehind_48 : decode cX1_freeBehind 48 = .ok (.iload 6, 2) := by decide +kernel
theorem dX1_freeBehind_50 : decode cX1_freeBehind 50 = .ok (.iconst 1, 1) := by decide +kernel
theorem dX1_freeBehind_51 : decode cX1_freeBehind 51 = .ok (.iadd, 1) := by decide +kernel
theorem dX1_freeBehind_52 : decode cX1_freeBehind 52 = .ok (.goto 4, 3) := by decide +kernel
theorem dX1_freeBehind_55 : decode cX1_freeBehind 55 = .ok (.iconst (-1), 1) := by decide +kernel
theorem dX1_freeBehind_56 : decode cX1_freeBehind 56 = .ok (.ireturn, 1) := by decide +kernel
theorem wp_X1_freeBehind_0 {d : Nat} {s : ev_S} {Q : Option ev_V → ev_S → Prop} {a1 a2 a3 a4 : Int}
    (h : ((0 ≤ a1 ∧ a1 < (6 : Nat)) ∧ ((0 ≤ a2 ∧ a2 < (10 : Nat)) ∧ ((0 ≤ a2 ∧ a2 < (10 : Nat)) ∧ (((s 164 (Int.toNat a2)) < (max (ev_add a3 (ev_mul a4 (s 5 (Int.toNat a1)))) (ev_sub (s 164 (Int.toNat a2)) (s 1 2))) → Q (some (ev_i (-1))) s) ∧ ((max (ev_add a3 (ev_mul a4 (s 5 (Int.toNat a1)))) (ev_sub (s 164 (Int.toNat a2)) (s 1 2))) ≤ (s 164 (Int.toNat a2)) → Q (some (ev_i (ev_add (max (ev_add a3 (ev_mul a4 (s 5 (Int.toNat a1)))) (ev_sub (s 164 (Int.toNat a2)) (s 1 2))) 1))) s)))))) :
    Ev layX M_X1_freeBehind (d + 1) 0 [(0, ev_r 162), (1, ev_i a1), (2, ev_i a2), (3, ev_i a3), (4, ev_i a4)] [] s Q := by
  refine Ev_iload_n 3 dX1_freeBehind_0 rfl rfl ?_
  refine Ev_iload 4 dX1_freeBehind_1 rfl ?_
  refine Ev_aload_n 0 dX1_freeBehind_3 rfl rfl ?_
  refine Ev_getR (i := 0) cl_X1 yX_162 (Nat.le_of_ble_eq_true rfl) rfl wd_618 dX1_freeBehind_4 ?_
  refine Ev_getR (i := 8) cl_X10 yX_1 (Nat.le_of_ble_eq_true rfl) rfl wd_272 dX1_freeBehind_7 ?_
  refine Ev_iload_n 1 dX1_freeBehind_10 rfl rfl ?_
  obtain ⟨h0, h⟩ := h
  refine Ev_iald yX_5 h0 dX1_freeBehind_11 ?_
  refine Ev_imul dX1_freeBehind_12 ?_
  refine Ev_iadd dX1_freeBehind_13 ?_
  refine Ev_istore (l' := [(5, ev_i (ev_add a3 (ev_mul a4 (s 5 (Int.toNat a1))))), (0, ev_r 162), (1, ev_i a1), (2, ev_i a2), (3, ev_i a3), (4, ev_i a4)]) dX1_freeBehind_14 (Nat.le_of_ble_eq_true rfl) rfl ?_
  refine Ev_iload 0 dX1_freeBehind_16 rfl ?_
  refine Ev_aload_n 1 dX1_freeBehind_18 rfl rfl ?_
  refine Ev_getR (i := 5) cl_X1 yX_162 (Nat.le_of_ble_eq_true rfl) rfl wd_623 dX1_freeBehind_19 ?_
  refine Ev_iload_n 3 dX1_freeBehind_22 rfl rfl ?_
  obtain ⟨h0, h⟩ := h
  refine Ev_iald yX_164 h0 dX1_freeBehind_23 ?_
  refine Ev_aload_n 1 dX1_freeBehind_24 rfl rfl ?_
  refine Ev_getR (i := 0) cl_X1 yX_162 (Nat.le_of_ble_eq_true rfl) rfl wd_618 dX1_freeBehind_25 ?_
  refine Ev_get (i := 2) cl_X10 yX_1 (Nat.le_of_ble_eq_true rfl) rfl wd_249 dX1_freeBehind_28 ?_
  refine Ev_isub dX1_freeBehind_31 ?_
  refine Ev_mmax wd_1203 dX1_freeBehind_32 (Nat.le_of_ble_eq_true rfl) ?_
  refine Ev_istore (l' := [(6, ev_i (max (ev_add a3 (ev_mul a4 (s 5 (Int.toNat a1)))) (ev_sub (s 164 (Int.toNat a2)) (s 1 2)))), (5, ev_i (ev_add a3 (ev_mul a4 (s 5 (Int.toNat a1))))), (0, ev_r 162), (1, ev_i a1), (2, ev_i a2), (3, ev_i a3), (4, ev_i a4)]) dX1_freeBehind_35 (Nat.le_of_ble_eq_true rfl) rfl ?_
  refine Ev_iload 0 dX1_freeBehind_37 rfl ?_
  refine Ev_aload_n 2 dX1_freeBehind_39 rfl rfl ?_
  refine Ev_getR (i := 5) cl_X1 yX_162 (Nat.le_of_ble_eq_true rfl) rfl wd_623 dX1_freeBehind_40 ?_
  refine Ev_iload_n 4 dX1_freeBehind_43 rfl rfl ?_
  obtain ⟨h0, h⟩ := h
  refine Ev_iald yX_164 h0 dX1_freeBehind_44 ?_
  refine Ev_icmp_gt (tgt := 55) dX1_freeBehind_45 rfl (fun c => ?_) (fun c => ?_)
  · replace h := h.1 c
    refine Ev_iconst dX1_freeBehind_55 rfl (ev_Rc rfl) ?_
    exact Ev_iret rfl dX1_freeBehind_56 rfl h
  · replace h := h.2 c
    refine Ev_iload 0 dX1_freeBehind_48 rfl ?_
    refine Ev_iconst dX1_freeBehind_50 rfl (ev_Rc rfl) ?_
    refine Ev_iadd dX1_freeBehind_51 ?_
    refine Ev_goto (tgt := 56) dX1_freeBehind_52 rfl ?_
    exact Ev_iret rfl dX1_freeBehind_56 rfl h
theorem dX1_findWidest_0 : decode cX1_findWidest 0 = .ok (.aload_n 0, 1) := by decide +kernel
theorem dX1_findWidest_1 : decode cX1_findWidest 1 = .ok (.getfield 36, 3) := by decide +kernel
theorem dX1_findWidest_4 : decode cX1_findWidest 4 = .ok (.iload_n 1, 1) := by decide +kernel
theorem dX1_findWidest_5 : decode cX1_findWidest 5 = .ok (.iconst 0, 1) := by decide +kernel
theorem dX1_findWidest_6 : decode cX1_findWidest 6 = .ok (.iastore, 1) := by decide +kernel
theorem dX1_findWidest_7 : decode cX1_findWidest 7 = .ok (.aload_n 0, 1) := by decide +kernel
theorem dX1_findWidest_8 : decode cX1_findWidest 8 = .ok (.getfield 24, 3) := by decide +kernel
theorem dX1_findWidest_11 : decode cX1_findWidest 11 = .ok (.iload_n 1, 1) := by decide +kernel
theorem dX1_findWidest_12 : decode cX1_findWidest 12 = .ok (.iaload, 1) := by decide +kernel
theorem dX1_findWidest_13 : decode cX1_findWidest 13 = .ok (.istore_n 2, 1) := by decide +kernel
theorem dX1_findWidest_14 : decode cX1_findWidest 14 = .ok (.iload_n 2, 1) := by decide +kernel
theorem dX1_findWidest_15 : decode cX1_findWidest 15 = .ok (.ifCond .lt 70, 3) := by decide +kernel
theorem dX1_findWidest_18 : decode cX1_findWidest 18 = .ok (.aload_n 0, 1) := by decide +kernel
theorem dX1_findWidest_19 : decode cX1_findWidest 19 = .ok (.getfield 27, 3) := by decide +kernel
theorem dX1_findWidest_22 : decode cX1_findWidest 22 = .ok (.iload_n 1, 1) := by decide +kernel
theorem dX1_findWidest_23 : decode cX1_findWidest 23 = .ok (.iload_n 2, 1) := by decide +kernel
theorem dX1_findWidest_24 : decode cX1_findWidest 24 = .ok (.invokestatic 164, 3) := by decide +kernel
theorem dX1_findWidest_27 : decode cX1_findWidest 27 = .ok (.ifCond .eq 52, 3) := by decide +kernel
theorem dX1_findWidest_30 : decode cX1_findWidest 30 = .ok (.aload_n 0, 1) := by decide +kernel
theorem dX1_findWidest_31 : decode cX1_findWidest 31 = .ok (.iload_n 1, 1) := by decide +kernel
theorem dX1_findWidest_32 : decode cX1_findWidest 32 = .ok (.iload_n 2, 1) := by decide +kernel
theorem dX1_findWidest_33 : decode cX1_findWidest 33 = .ok (.invokevirtual 195, 3) := by decide +kernel
theorem dX1_findWidest_36 : decode cX1_findWidest 36 = .ok (.ifCond .ne 43, 3) := by decide +kernel
theorem dX1_findWidest_39 : decode cX1_findWidest 39 = .ok (.aload_n 0, 1) := by decide +kernel
theorem dX1_findWidest_40 : decode cX1_findWidest 40 = .ok (.getfield 36, 3) := by decide +kernel
theorem dX1_findWidest_43 : decode cX1_findWidest 43 = .ok (.iload_n 1, 1) := by decide +kernel
theorem dX1_findWidest_44 : decode cX1_findWidest 44 = .ok (.iaload, 1) := by decide +kernel
theorem dX1_findWidest_45 : decode cX1_findWidest 45 = .ok (.sipush 252, 3) := by decide +kernel
theorem dX1_findWidest_48 : decode cX1_findWidest 48 = .ok (.if_icmp .ge 31, 3) := by decide +kernel
theorem dX1_findWidest_51 : decode cX1_findWidest 51 = .ok (.aload_n 0, 1) := by decide +kernel
theorem dX1_findWidest_52 : decode cX1_findWidest 52 = .ok (.getfield 33, 3) := by decide +kernel
theorem dX1_findWidest_55 : decode cX1_findWidest 55 = .ok (.iload_n 1, 1) := by decide +kernel
theorem dX1_findWidest_56 : decode cX1_findWidest 56 = .ok (.sipush 252, 3) := by decide +kernel
theorem dX1_findWidest_59 : decode cX1_findWidest 59 = .ok (.imul, 1) := by decide +kernel
theorem dX1_findWidest_60 : decode cX1_findWidest 60 = .ok (.aload_n 0, 1) := by decide +kernel
theorem dX1_findWidest_61 : decode cX1_findWidest 61 = .ok (.getfield 36, 3) := by decide +kernel
theorem dX1_findWidest_64 : decode cX1_findWidest 64 = .ok (.iload_n 1, 1) := by decide +kernel
theorem dX1_findWidest_65 : decode cX1_findWidest 65 = .ok (.iaload, 1) := by decide +kernel
theorem dX1_findWidest_66 : decode cX1_findWidest 66 = .ok (.iadd, 1) := by decide +kernel
theorem dX1_findWidest_67 : decode cX1_findWidest 67 = .ok (.iload_n 2, 1) := by decide +kernel
theorem dX1_findWidest_68 : decode cX1_findWidest 68 = .ok (.iastore, 1) := by decide +kernel
theorem dX1_findWidest_69 : decode cX1_findWidest 69 = .ok (.aload_n 0, 1) := by decide +kernel
theorem dX1_findWidest_70 : decode cX1_findWidest 70 = .ok (.getfield 36, 3) := by decide +kernel
theorem dX1_findWidest_73 : decode cX1_findWidest 73 = .ok (.iload_n 1, 1) := by decide +kernel
theorem dX1_findWidest_74 : decode cX1_findWidest 74 = .ok (.dup2, 1) := by decide +kernel
theorem dX1_findWidest_75 : decode cX1_findWidest 75 = .ok (.iaload, 1) := by decide +kernel
theorem dX1_findWidest_76 : decode cX1_findWidest 76 = .ok (.iconst 1, 1) := by decide +kernel
theorem dX1_findWidest_77 : decode cX1_findWidest 77 = .ok (.iadd, 1) := by decide +kernel
theorem dX1_findWidest_78 : decode cX1_findWidest 78 = .ok (.iastore, 1) := by decide +kernel
theorem dX1_findWidest_79 : decode cX1_findWidest 79 = .ok (.iinc 2 (-1), 3) := by decide +kernel
theorem dX1_findWidest_82 : decode cX1_findWidest 82 = .ok (.goto (-68), 3) := by decide +kernel
theorem dX1_findWidest_85 : decode cX1_findWidest 85 = .ok (.return_, 1) := by decide +kernel
theorem wp_X1_findWidest_0 {d : Nat} {s : ev_S} {Q : Option ev_V → ev_S → Prop} {a1 : Int}
    (h : ((0 ≤ a1 ∧ a1 < (6 : Nat)) ∧ ∀ s1, ev_up s 171 (Int.toNat a1) 0 = s1 → ((0 ≤ a1 ∧ a1 < (6 : Nat)) ∧ Ev layX M_X1_findWidest (d + 1) 14 [(0, ev_r 162), (1, ev_i a1), (2, ev_i (s1 167 (Int.toNat a1)))] [] s1 Q))) :
    Ev layX M_X1_findWidest (d + 1) 0 [(0, ev_r 162), (1, ev_i a1)] [] s Q := by
  refine Ev_aload_n 0 dX1_findWidest_0 rfl rfl ?_
  refine Ev_getR (i := 12) cl_X1 yX_162 (Nat.le_of_ble_eq_true rfl) rfl wd_630 dX1_findWidest_1 ?_
  refine Ev_iload_n 1 dX1_findWidest_4 rfl rfl ?_
  refine Ev_iconst dX1_findWidest_5 rfl (ev_Rc rfl) ?_
  obtain ⟨h0, h⟩ := h
  refine Ev_iast yX_171 h0 dX1_findWidest_6 (Ev_nm (fun s1 es1 => ?_))
  replace h := h s1 es1
  refine Ev_aload_n 0 dX1_findWidest_7 rfl rfl ?_
  refine Ev_getR (i := 8) cl_X1 yX_162 (Nat.le_of_ble_eq_true rfl) rfl wd_626 dX1_findWidest_8 ?_
  refine Ev_iload_n 1 dX1_findWidest_11 rfl rfl ?_
  obtain ⟨h0, h⟩ := h
  refine Ev_iald yX_167 h0 dX1_findWidest_12 ?_
  refine Ev_istore_n (l' := [(2, ev_i (s1 167 (Int.toNat a1))), (0, ev_r 162), (1, ev_i a1)]) dX1_findWidest_13 rfl (Nat.le_of_ble_eq_true rfl) rfl ?_
  exact Ev_sub [1, 2, 0] rfl h
theorem wp_X1_findWidest_14 {d : Nat} {s : ev_S} {Q : Option ev_V → ev_S → Prop} {a1 a2 : Int}
    (h : ((a2 < 0 → Q none s) ∧ (0 ≤ a2 → (Ev layX M_X1_holds d 0 [(0, ev_r 168), (1, ev_i a1), (2, ev_i a2)] [] s (ev_pi (fun r2 s1 => ((r2 = 0 → Ev layX M_X1_findWidest (d + 1) 14 [(0, ev_r 162), (1, ev_i a1), (2, ev_i (ev_add a2 (-1)))] [] s1 Q) ∧ (r2 ≠ 0 → (Ev layX M_X1_liesInWider d 0 [(0, ev_r 162), (1, ev_i a1), (2, ev_i a2)] [] s1 (ev_pi (fun r4 s3 => ((r4 ≠ 0 → Ev layX M_X1_findWidest (d + 1) 14 [(0, ev_r 162), (1, ev_i a1), (2, ev_i (ev_add a2 (-1)))] [] s3 Q) ∧ (r4 = 0 → ((0 ≤ a1 ∧ a1 < (6 : Nat)) ∧ ((252 ≤ (s3 171 (Int.toNat a1)) → Ev layX M_X1_findWidest (d + 1) 14 [(0, ev_r 162), (1, ev_i a1), (2, ev_i (ev_add a2 (-1)))] [] s3 Q) ∧ ((s3 171 (Int.toNat a1)) < 252 → ((0 ≤ a1 ∧ a1 < (6 : Nat)) ∧ ((0 ≤ (ev_add (ev_mul a1 252) (s3 171 (Int.toNat a1))) ∧ (ev_add (ev_mul a1 252) (s3 171 (Int.toNat a1))) < (1512 : Nat)) ∧ ∀ s5, ev_up s3 170 (Int.toNat (ev_add (ev_mul a1 252) (s3 171 (Int.toNat a1)))) a2 = s5 → ((0 ≤ a1 ∧ a1 < (6 : Nat)) ∧ ((0 ≤ a1 ∧ a1 < (6 : Nat)) ∧ ∀ s6, ev_up s5 171 (Int.toNat a1) (ev_add (s5 171 (Int.toNat a1)) 1) = s6 → Ev layX M_X1_findWidest (d + 1) 14 [(0, ev_r 162), (1, ev_i a1), (2, ev_i (ev_add a2 (-1)))] [] s6 Q)))))))))))))))))))) :
    Ev layX M_X1_findWidest (d + 1) 14 [(0, ev_r 162), (1, ev_i a1), (2, ev_i a2)] [] s Q := by
  refine Ev_iload_n 2 dX1_findWidest_14 rfl rfl ?_
  refine Ev_if_lt (tgt := 85) dX1_findWidest_15 rfl (fun c => ?_) (fun c => ?_)
  · replace h := h.1 c
    exact Ev_vret rfl dX1_findWidest_85 h
  · replace h := h.2 c
    refine Ev_aload_n 0 dX1_findWidest_18 rfl rfl ?_
    refine Ev_getR (i := 9) cl_X1 yX_162 (Nat.le_of_ble_eq_true rfl) rfl wd_627 dX1_findWidest_19 ?_
    refine Ev_iload_n 1 dX1_findWidest_22 rfl rfl ?_
    refine Ev_iload_n 2 dX1_findWidest_23 rfl rfl ?_
    refine Ev_callS (As := [ev_r 168, ev_i a1, ev_i a2]) (st := []) (M' := M_X1_holds) cm_X1_holds wd_1211 wd_1212 dX1_findWidest_24 (Nat.le_refl _) rfl (Nat.le_of_ble_eq_true rfl) (Nat.le_of_ble_eq_true rfl) h (fun v u h hk => ?_)
    obtain ⟨r2, rfl⟩ := hk
    obtain ⟨s1, rfl⟩ : ∃ x, x = u := ⟨_, rfl⟩
    replace h := h r2 rfl
    refine Ev_if_eq (tgt := 79) dX1_findWidest_27 rfl (fun c => ?_) (fun c => ?_)
    · replace h := h.1 c
      refine Ev_iinc (j := 2) (l' := [(2, ev_i (ev_add a2 (-1))), (0, ev_r 162), (1, ev_i a1)]) dX1_findWidest_79 rfl (Nat.le_of_ble_eq_true rfl) rfl ?_
      refine Ev_goto (tgt := 14) dX1_findWidest_82 rfl ?_
      exact Ev_sub [1, 2, 0] rfl h
    · replace h := h.2 c
      refine Ev_aload_n 0 dX1_findWidest_30 rfl rfl ?_
      refine Ev_iload_n 1 dX1_findWidest_31 rfl rfl ?_
      refine Ev_iload_n 2 dX1_findWidest_32 rfl rfl ?_
      refine Ev_callV (As := [ev_i a1, ev_i a2]) (b := 162) (st := []) (M' := M_X1_liesInWider) cm_X1_liesInWider wd_1222 wd_1224 wd_50 yX_162 cl_X1 rfl dX1_findWidest_33 (Nat.le_refl _) rfl (Nat.le_of_ble_eq_true rfl) (Nat.le_of_ble_eq_true rfl) h (fun v u h hk => ?_)
      obtain ⟨r4, rfl⟩ := hk
      obtain ⟨s3, rfl⟩ : ∃ x, x = u := ⟨_, rfl⟩
      replace h := h r4 rfl
      refine Ev_if_ne (tgt := 79) dX1_findWidest_36 rfl (fun c => ?_) (fun c => ?_)
      · replace h := h.1 c
        refine Ev_iinc (j := 2) (l' := [(2, ev_i (ev_add a2 (-1))), (0, ev_r 162), (1, ev_i a1)]) dX1_findWidest_79 rfl (Nat.le_of_ble_eq_true rfl) rfl ?_
        refine Ev_goto (tgt := 14) dX1_findWidest_82 rfl ?_
        exact Ev_sub [1, 2, 0] rfl h
      · replace h := h.2 c
        refine Ev_aload_n 0 dX1_findWidest_39 rfl rfl ?_
        refine Ev_getR (i := 12) cl_X1 yX_162 (Nat.le_of_ble_eq_true rfl) rfl wd_630 dX1_findWidest_40 ?_
        refine Ev_iload_n 1 dX1_findWidest_43 rfl rfl ?_
        obtain ⟨h0, h⟩ := h
        refine Ev_iald yX_171 h0 dX1_findWidest_44 ?_
        refine Ev_sipushC dX1_findWidest_45 rfl ?_
        refine Ev_icmp_ge (tgt := 79) dX1_findWidest_48 rfl (fun c => ?_) (fun c => ?_)
        · replace h := h.1 c
          refine Ev_iinc (j := 2) (l' := [(2, ev_i (ev_add a2 (-1))), (0, ev_r 162), (1, ev_i a1)]) dX1_findWidest_79 rfl (Nat.le_of_ble_eq_true rfl) rfl ?_
          refine Ev_goto (tgt := 14) dX1_findWidest_82 rfl ?_
          exact Ev_sub [1, 2, 0] rfl h
        · replace h := h.2 c
          refine Ev_aload_n 0 dX1_findWidest_51 rfl rfl ?_
          refine Ev_getR (i := 11) cl_X1 yX_162 (Nat.le_of_ble_eq_true rfl) rfl wd_629 dX1_findWidest_52 ?_
          refine Ev_iload_n 1 dX1_findWidest_55 rfl rfl ?_
          refine Ev_sipushC dX1_findWidest_56 rfl ?_
          refine Ev_imul dX1_findWidest_59 ?_
          refine Ev_aload_n 0 dX1_findWidest_60 rfl rfl ?_
          refine Ev_getR (i := 12) cl_X1 yX_162 (Nat.le_of_ble_eq_true rfl) rfl wd_630 dX1_findWidest_61 ?_
          refine Ev_iload_n 1 dX1_findWidest_64 rfl rfl ?_
          obtain ⟨h0, h⟩ := h
          refine Ev_iald yX_171 h0 dX1_findWidest_65 ?_
          refine Ev_iadd dX1_findWidest_66 ?_
          refine Ev_iload_n 2 dX1_findWidest_67 rfl rfl ?_
          obtain ⟨h0, h⟩ := h
          refine Ev_iast yX_170 h0 dX1_findWidest_68 (Ev_nm (fun s5 es5 => ?_))
          replace h := h s5 es5
          refine Ev_aload_n 0 dX1_findWidest_69 rfl rfl ?_
          refine Ev_getR (i := 12) cl_X1 yX_162 (Nat.le_of_ble_eq_true rfl) rfl wd_630 dX1_findWidest_70 ?_
          refine Ev_iload_n 1 dX1_findWidest_73 rfl rfl ?_
          refine Ev_dup2 dX1_findWidest_74 rfl rfl ?_
          obtain ⟨h0, h⟩ := h
          refine Ev_iald yX_171 h0 dX1_findWidest_75 ?_
          refine Ev_iconst dX1_findWidest_76 rfl (ev_Rc rfl) ?_
          refine Ev_iadd dX1_findWidest_77 ?_
          obtain ⟨h0, h⟩ := h
          refine Ev_iast yX_171 h0 dX1_findWidest_78 (Ev_nm (fun s6 es6 => ?_))
          replace h := h s6 es6
          refine Ev_iinc (j := 2) (l' := [(2, ev_i (ev_add a2 (-1))), (0, ev_r 162), (1, ev_i a1)]) dX1_findWidest_79 rfl (Nat.le_of_ble_eq_true rfl) rfl ?_
          refine Ev_goto (tgt := 14) dX1_findWidest_82 rfl ?_
          exact Ev_sub [1, 2, 0] rfl h
theorem dX1_liesInWider_0 : decode cX1_liesInWider 0 = .ok (.iconst 0, 1) := by decide +kernel
theorem dX1_liesInWider_1 : decode cX1_liesInWider 1 = .ok (.istore_n 3, 1) := by decide +kernel
theorem dX1_liesInWider_2 : decode cX1_liesInWider 2 = .ok (.iload_n 3, 1) := by decide +kernel
theorem dX1_liesInWider_3 : decode cX1_liesInWider 3 = .ok (.aload_n 0, 1) := by decide +kernel
theorem dX1_liesInWider_4 : decode cX1_liesInWider 4 = .ok (.getfield 36, 3) := by decide +kernel
theorem dX1_liesInWider_7 : decode cX1_liesInWider 7 = .ok (.iload_n 1, 1) := by decide +kernel
theorem dX1_liesInWider_8 : decode cX1_liesInWider 8 = .ok (.iaload, 1) := by decide +kernel
theorem dX1_liesInWider_9 : decode cX1_liesInWider 9 = .ok (.if_icmp .ge 30, 3) := by decide +kernel
theorem dX1_liesInWider_12 : decode cX1_liesInWider 12 = .ok (.iload_n 2, 1) := by decide +kernel
theorem dX1_liesInWider_13 : decode cX1_liesInWider 13 = .ok (.aload_n 0, 1) := by decide +kernel
theorem dX1_liesInWider_14 : decode cX1_liesInWider 14 = .ok (.getfield 33, 3) := by decide +kernel
theorem dX1_liesInWider_17 : decode cX1_liesInWider 17 = .ok (.iload_n 1, 1) := by decide +kernel
theorem dX1_liesInWider_18 : decode cX1_liesInWider 18 = .ok (.sipush 252, 3) := by decide +kernel
theorem dX1_liesInWider_21 : decode cX1_liesInWider 21 = .ok (.imul, 1) := by decide +kernel
theorem dX1_liesInWider_22 : decode cX1_liesInWider 22 = .ok (.iload_n 3, 1) := by decide +kernel
theorem dX1_liesInWider_23 : decode cX1_liesInWider 23 = .ok (.iadd, 1) := by decide +kernel
theorem dX1_liesInWider_24 : decode cX1_liesInWider 24 = .ok (.iaload, 1) := by decide +kernel
theorem dX1_liesInWider_25 : decode cX1_liesInWider 25 = .ok (.iconst (-1), 1) := by decide +kernel
theorem dX1_liesInWider_26 : decode cX1_liesInWider 26 = .ok (.ixor, 1) := by decide +kernel
theorem dX1_liesInWider_27 : decode cX1_liesInWider 27 = .ok (.iand, 1) := by decide +kernel
theorem dX1_liesInWider_28 : decode cX1_liesInWider 28 = .ok (.ifCond .ne 5, 3) := by decide +kernel
theorem dX1_liesInWider_31 : decode cX1_liesInWider 31 = .ok (.iconst 1, 1) := by decide +kernel
theorem dX1_liesInWider_32 : decode cX1_liesInWider 32 = .ok (.ireturn, 1) := by decide +kernel
theorem dX1_liesInWider_33 : decode cX1_liesInWider 33 = .ok (.iinc 3 1, 3) := by decide +kernel
theorem dX1_liesInWider_36 : decode cX1_liesInWider 36 = .ok (.goto (-34), 3) := by decide +kernel
theorem dX1_liesInWider_39 : decode cX1_liesInWider 39 = .ok (.iconst 0, 1) := by decide +kernel
theorem dX1_liesInWider_40 : decode cX1_liesInWider 40 = .ok (.ireturn, 1) := by decide +kernel
theorem wp_X1_liesInWider_0 {d : Nat} {s : ev_S} {Q : Option ev_V → ev_S → Prop} {a1 a2 : Int}
    (h : Ev layX M_X1_liesInWider d 2 [(0, ev_r 162), (1, ev_i a1), (2, ev_i a2), (3, ev_i 0)] [] s Q) :
    Ev layX M_X1_liesInWider d 0 [(0, ev_r 162), (1, ev_i a1), (2, ev_i a2)] [] s Q := by
  refine Ev_iconst dX1_liesInWider_0 rfl (ev_Rc rfl) ?_
  refine Ev_istore_n (l' := [(3, ev_i 0), (0, ev_r 162), (1, ev_i a1), (2, ev_i a2)]) dX1_liesInWider_1 rfl (Nat.le_of_ble_eq_true rfl) rfl ?_
  exact Ev_sub [1, 2, 3, 0] rfl h
theorem wp_X1_liesInWider_2 {d : Nat} {s : ev_S} {Q : Option ev_V → ev_S → Prop} {a1 a2 a3 : Int}
    (h : ((0 ≤ a1 ∧ a1 < (6 : Nat)) ∧ (((s 171 (Int.toNat a1)) ≤ a3 → Q (some (ev_i 0)) s) ∧ (a3 < (s 171 (Int.toNat a1)) → ((0 ≤ (ev_add (ev_mul a1 252) a3) ∧ (ev_add (ev_mul a1 252) a3) < (1512 : Nat)) ∧ (((ev_and a2 (ev_xor (s 170 (Int.toNat (ev_add (ev_mul a1 252) a3))) (-1))) ≠ 0 → Ev layX M_X1_liesInWider d 2 [(0, ev_r 162), (1, ev_i a1), (2, ev_i a2), (3, ev_i (ev_add a3 1))] [] s Q) ∧ ((ev_and a2 (ev_xor (s 170 (Int.toNat (ev_add (ev_mul a1 252) a3))) (-1))) = 0 → Q (some (ev_i 1)) s))))))) :
    Ev layX M_X1_liesInWider d 2 [(0, ev_r 162), (1, ev_i a1), (2, ev_i a2), (3, ev_i a3)] [] s Q := by
  refine Ev_iload_n 3 dX1_liesInWider_2 rfl rfl ?_
  refine Ev_aload_n 0 dX1_liesInWider_3 rfl rfl ?_
  refine Ev_getR (i := 12) cl_X1 yX_162 (Nat.le_of_ble_eq_true rfl) rfl wd_630 dX1_liesInWider_4 ?_
  refine Ev_iload_n 1 dX1_liesInWider_7 rfl rfl ?_
  obtain ⟨h0, h⟩ := h
  refine Ev_iald yX_171 h0 dX1_liesInWider_8 ?_
  refine Ev_icmp_ge (tgt := 39) dX1_liesInWider_9 rfl (fun c => ?_) (fun c => ?_)
  · replace h := h.1 c
    refine Ev_iconst dX1_liesInWider_39 rfl (ev_Rc rfl) ?_
    exact Ev_iret rfl dX1_liesInWider_40 (ev_nb (by decide)) h
  · replace h := h.2 c
    refine Ev_iload_n 2 dX1_liesInWider_12 rfl rfl ?_
    refine Ev_aload_n 0 dX1_liesInWider_13 rfl rfl ?_
    refine Ev_getR (i := 11) cl_X1 yX_162 (Nat.le_of_ble_eq_true rfl) rfl wd_629 dX1_liesInWider_14 ?_
    refine Ev_iload_n 1 dX1_liesInWider_17 rfl rfl ?_
    refine Ev_sipushC dX1_liesInWider_18 rfl ?_
    refine Ev_imul dX1_liesInWider_21 ?_
    refine Ev_iload_n 3 dX1_liesInWider_22 rfl rfl ?_
    refine Ev_iadd dX1_liesInWider_23 ?_
    obtain ⟨h0, h⟩ := h
    refine Ev_iald yX_170 h0 dX1_liesInWider_24 ?_
    refine Ev_iconst dX1_liesInWider_25 rfl (ev_Rc rfl) ?_
    refine Ev_ixor dX1_liesInWider_26 ?_
    refine Ev_iand dX1_liesInWider_27 ?_
    refine Ev_if_ne (tgt := 33) dX1_liesInWider_28 rfl (fun c => ?_) (fun c => ?_)
    · replace h := h.1 c
      refine Ev_iinc (j := 3) (l' := [(3, ev_i (ev_add a3 1)), (0, ev_r 162), (1, ev_i a1), (2, ev_i a2)]) dX1_liesInWider_33 rfl (Nat.le_of_ble_eq_true rfl) rfl ?_
      refine Ev_goto (tgt := 2) dX1_liesInWider_36 rfl ?_
      exact Ev_sub [1, 2, 3, 0] rfl h
    · replace h := h.2 c
      refine Ev_iconst dX1_liesInWider_31 rfl (ev_Rc rfl) ?_
      exact Ev_iret rfl dX1_liesInWider_32 (ev_nb (by decide)) h
theorem dX1_most_0 : decode cX1_most 0 = .ok (.aload_n 0, 1) := by decide +kernel
theorem dX1_most_1 : decode cX1_most 1 = .ok (.iload_n 1, 1) := by decide +kernel
theorem dX1_most_2 : decode cX1_most 2 = .ok (.invokevirtual 198, 3) := by decide +kernel
theorem dX1_most_5 : decode cX1_most 5 = .ok (.iconst 0, 1) := by decide +kernel
theorem dX1_most_6 : decode cX1_most 6 = .ok (.istore_n 2, 1) := by decide +kernel
theorem dX1_most_7 : decode cX1_most 7 = .ok (.iconst 0, 1) := by decide +kernel
theorem dX1_most_8 : decode cX1_most 8 = .ok (.istore_n 3, 1) := by decide +kernel
theorem dX1_most_9 : decode cX1_most 9 = .ok (.iload_n 3, 1) := by decide +kernel
theorem dX1_most_10 : decode cX1_most 10 = .ok (.aload_n 0, 1) := by decide +kernel
theorem dX1_most_11 : decode cX1_most 11 = .ok (.invokevirtual 63, 3) := by decide +kernel
theorem dX1_most_14 : decode cX1_most 14 = .ok (.if_icmp .gt 38, 3) := by decide +kernel
theorem dX1_most_17 : decode cX1_most 17 = .ok (.aload_n 0, 1) := by decide +kernel
theorem dX1_most_18 : decode cX1_most 18 = .ok (.getfield 21, 3) := by decide +kernel
theorem dX1_most_21 : decode cX1_most 21 = .ok (.iload_n 3, 1) := by decide +kernel
theorem dX1_most_22 : decode cX1_most 22 = .ok (.iaload, 1) := by decide +kernel
theorem dX1_most_23 : decode cX1_most 23 = .ok (.iload_n 2, 1) := by decide +kernel
theorem dX1_most_24 : decode cX1_most 24 = .ok (.if_icmp .le 22, 3) := by decide +kernel
theorem dX1_most_27 : decode cX1_most 27 = .ok (.aload_n 0, 1) := by decide +kernel
theorem dX1_most_28 : decode cX1_most 28 = .ok (.getfield 30, 3) := by decide +kernel
theorem dX1_most_31 : decode cX1_most 31 = .ok (.iload_n 1, 1) := by decide +kernel
theorem dX1_most_32 : decode cX1_most 32 = .ok (.iload_n 3, 1) := by decide +kernel
theorem dX1_most_33 : decode cX1_most 33 = .ok (.invokestatic 164, 3) := by decide +kernel
theorem dX1_most_36 : decode cX1_most 36 = .ok (.ifCond .eq 10, 3) := by decide +kernel
theorem dX1_most_39 : decode cX1_most 39 = .ok (.aload_n 0, 1) := by decide +kernel
theorem dX1_most_40 : decode cX1_most 40 = .ok (.getfield 21, 3) := by decide +kernel
theorem dX1_most_43 : decode cX1_most 43 = .ok (.iload_n 3, 1) := by decide +kernel
theorem dX1_most_44 : decode cX1_most 44 = .ok (.iaload, 1) := by decide +kernel
theorem dX1_most_45 : decode cX1_most 45 = .ok (.istore_n 2, 1) := by decide +kernel
theorem dX1_most_46 : decode cX1_most 46 = .ok (.iinc 3 1, 3) := by decide +kernel
theorem dX1_most_49 : decode cX1_most 49 = .ok (.goto (-40), 3) := by decide +kernel
theorem dX1_most_52 : decode cX1_most 52 = .ok (.iload_n 2, 1) := by decide +kernel
theorem dX1_most_53 : decode cX1_most 53 = .ok (.ireturn, 1) := by decide +kernel
theorem wp_X1_most_0 {d : Nat} {s : ev_S} {Q : Option ev_V → ev_S → Prop} {a1 : Int}
    (h : (Ev layX M_X1_learn d 0 [(0, ev_r 162), (1, ev_i a1)] [] s (fun _ s1 => Ev layX M_X1_most (d + 1) 9 [(0, ev_r 162), (1, ev_i a1), (2, ev_i 0), (3, ev_i 0)] [] s1 Q))) :
    Ev layX M_X1_most (d + 1) 0 [(0, ev_r 162), (1, ev_i a1)] [] s Q := by
  refine Ev_aload_n 0 dX1_most_0 rfl rfl ?_
  refine Ev_iload_n 1 dX1_most_1 rfl rfl ?_
  refine Ev_callV (As := [ev_i a1]) (b := 162) (st := []) (M' := M_X1_learn) cm_X1_learn wd_1238 wd_1240 wd_53 yX_162 cl_X1 rfl dX1_most_2 (Nat.le_refl _) rfl (Nat.le_of_ble_eq_true rfl) (Nat.le_of_ble_eq_true rfl) h (fun v u h hk => ?_)
  cases hk
  obtain ⟨s1, rfl⟩ : ∃ x, x = u := ⟨_, rfl⟩
  refine Ev_iconst dX1_most_5 rfl (ev_Rc rfl) ?_
  refine Ev_istore_n (l' := [(2, ev_i 0), (0, ev_r 162), (1, ev_i a1)]) dX1_most_6 rfl (Nat.le_of_ble_eq_true rfl) rfl ?_
  refine Ev_iconst dX1_most_7 rfl (ev_Rc rfl) ?_
  refine Ev_istore_n (l' := [(3, ev_i 0), (2, ev_i 0), (0, ev_r 162), (1, ev_i a1)]) dX1_most_8 rfl (Nat.le_of_ble_eq_true rfl) rfl ?_
  exact Ev_sub [2, 3, 1, 0] rfl h
theorem wp_X1_most_9 {d : Nat} {s : ev_S} {Q : Option ev_V → ev_S → Prop} {a1 a2 a3 : Int}
    (h : (Ev layX M_X1_full d 0 [(0, ev_r 162)] [] s (ev_pi (fun r2 s1 => ((r2 < a3 → Q (some (ev_i a2)) s1) ∧ (a3 ≤ r2 → ((0 ≤ a3 ∧ a3 < (1024 : Nat)) ∧ (((s1 166 (Int.toNat a3)) ≤ a2 → Ev layX M_X1_most (d + 1) 9 [(0, ev_r 162), (1, ev_i a1), (2, ev_i a2), (3, ev_i (ev_add a3 1))] [] s1 Q) ∧ (a2 < (s1 166 (Int.toNat a3)) → (Ev layX M_X1_holds d 0 [(0, ev_r 169), (1, ev_i a1), (2, ev_i a3)] [] s1 (ev_pi (fun r4 s3 => ((r4 = 0 → Ev layX M_X1_most (d + 1) 9 [(0, ev_r 162), (1, ev_i a1), (2, ev_i a2), (3, ev_i (ev_add a3 1))] [] s3 Q) ∧ (r4 ≠ 0 → ((0 ≤ a3 ∧ a3 < (1024 : Nat)) ∧ Ev layX M_X1_most (d + 1) 9 [(0, ev_r 162), (1, ev_i a1), (2, ev_i (s3 166 (Int.toNat a3))), (3, ev_i (ev_add a3 1))] [] s3 Q))))))))))))))) :
    Ev layX M_X1_most (d + 1) 9 [(0, ev_r 162), (1, ev_i a1), (2, ev_i a2), (3, ev_i a3)] [] s Q := by
  refine Ev_iload_n 3 dX1_most_9 rfl rfl ?_
  refine Ev_aload_n 0 dX1_most_10 rfl rfl ?_
  refine Ev_callV (As := []) (b := 162) (st := [ev_i a3]) (M' := M_X1_full) cm_X1_full wd_1246 wd_1248 wd_55 yX_162 cl_X1 rfl dX1_most_11 (Nat.le_refl _) rfl (Nat.le_of_ble_eq_true rfl) (Nat.le_of_ble_eq_true rfl) h (fun v u h hk => ?_)
  obtain ⟨r2, rfl⟩ := hk
  obtain ⟨s1, rfl⟩ : ∃ x, x = u := ⟨_, rfl⟩
  replace h := h r2 rfl
  refine Ev_icmp_gt (tgt := 52) dX1_most_14 rfl (fun c => ?_) (fun c => ?_)
  · replace h := h.1 c
    refine Ev_iload_n 2 dX1_most_52 rfl rfl ?_
    exact Ev_iret rfl dX1_most_53 rfl h
  · replace h := h.2 c
    refine Ev_aload_n 0 dX1_most_17 rfl rfl ?_
    refine Ev_getR (i := 7) cl_X1 yX_162 (Nat.le_of_ble_eq_true rfl) rfl wd_625 dX1_most_18 ?_
    refine Ev_iload_n 3 dX1_most_21 rfl rfl ?_
    obtain ⟨h0, h⟩ := h
    refine Ev_iald yX_166 h0 dX1_most_22 ?_
    refine Ev_iload_n 2 dX1_most_23 rfl rfl ?_
    refine Ev_icmp_le (tgt := 46) dX1_most_24 rfl (fun c => ?_) (fun c => ?_)
    · replace h := h.1 c
      refine Ev_iinc (j := 3) (l' := [(3, ev_i (ev_add a3 1)), (0, ev_r 162), (1, ev_i a1), (2, ev_i a2)]) dX1_most_46 rfl (Nat.le_of_ble_eq_true rfl) rfl ?_
      refine Ev_goto (tgt := 9) dX1_most_49 rfl ?_
      exact Ev_sub [1, 2, 3, 0] rfl h
    · replace h := h.2 c
      refine Ev_aload_n 0 dX1_most_27 rfl rfl ?_
      refine Ev_getR (i := 10) cl_X1 yX_162 (Nat.le_of_ble_eq_true rfl) rfl wd_628 dX1_most_28 ?_
      refine Ev_iload_n 1 dX1_most_31 rfl rfl ?_
      refine Ev_iload_n 3 dX1_most_32 rfl rfl ?_
      refine Ev_callS (As := [ev_r 169, ev_i a1, ev_i a3]) (st := []) (M' := M_X1_holds) cm_X1_holds wd_1211 wd_1212 dX1_most_33 (Nat.le_refl _) rfl (Nat.le_of_ble_eq_true rfl) (Nat.le_of_ble_eq_true rfl) h (fun v u h hk => ?_)
      obtain ⟨r4, rfl⟩ := hk
      obtain ⟨s3, rfl⟩ : ∃ x, x = u := ⟨_, rfl⟩
      replace h := h r4 rfl
      refine Ev_if_eq (tgt := 46) dX1_most_36 rfl (fun c => ?_) (fun c => ?_)
      · replace h := h.1 c
        refine Ev_iinc (j := 3) (l' := [(3, ev_i (ev_add a3 1)), (0, ev_r 162), (1, ev_i a1), (2, ev_i a2)]) dX1_most_46 rfl (Nat.le_of_ble_eq_true rfl) rfl ?_
        refine Ev_goto (tgt := 9) dX1_most_49 rfl ?_
        exact Ev_sub [1, 2, 3, 0] rfl h
      · replace h := h.2 c
        refine Ev_aload_n 0 dX1_most_39 rfl rfl ?_
        refine Ev_getR (i := 7) cl_X1 yX_162 (Nat.le_of_ble_eq_true rfl) rfl wd_625 dX1_most_40 ?_
        refine Ev_iload_n 3 dX1_most_43 rfl rfl ?_
        obtain ⟨h0, h⟩ := h
        refine Ev_iald yX_166 h0 dX1_most_44 ?_
        refine Ev_istore_n (l' := [(2, ev_i (s3 166 (Int.toNat a3))), (0, ev_r 162), (1, ev_i a1), (3, ev_i a3)]) dX1_most_45 rfl (Nat.le_of_ble_eq_true rfl) rfl ?_
        refine Ev_iinc (j := 3) (l' := [(3, ev_i (ev_add a3 1)), (2, ev_i (s3 166 (Int.toNat a3))), (0, ev_r 162), (1, ev_i a1)]) dX1_most_46 rfl (Nat.le_of_ble_eq_true rfl) rfl ?_
        refine Ev_goto (tgt := 9) dX1_most_49 rfl ?_
        exact Ev_sub [2, 3, 1, 0] rfl h
theorem dX1_learn_0 : decode cX1_learn 0 = .ok (.iconst 0, 1) := by decide +kernel
theorem dX1_learn_1 : decode cX1_learn 1 = .ok (.istore_n 2, 1) := by decide +kernel
theorem dX1_learn_2 : decode cX1_learn 2 = .ok (.aload_n 0, 1) := by decide +kernel
theorem dX1_learn_3 : decode cX1_learn 3 = .ok (.getfield 51, 3) := by decide +kernel
theorem dX1_learn_6 : decode cX1_learn 6 = .ok (.getfield 80, 3) := by decide +kernel
theorem dX1_learn_9 : decode cX1_learn 9 = .ok (.iconst 1, 1) := by decide +kernel
theorem dX1_learn_10 : decode cX1_learn 10 = .ok (.isub, 1) := by decide +kernel
theorem dX1_learn_11 : decode cX1_learn 11 = .ok (.istore_n 3, 1) := by decide +kernel
theorem dX1_learn_12 : decode cX1_learn 12 = .ok (.iload_n 3, 1) := by decide +kernel
theorem dX1_learn_13 : decode cX1_learn 13 = .ok (.ifCond .lt 53, 3) := by decide +kernel
theorem dX1_learn_16 : decode cX1_learn 16 = .ok (.iload_n 1, 1) := by decide +kernel
theorem dX1_learn_17 : decode cX1_learn 17 = .ok (.iload_n 3, 1) := by decide +kernel
theorem dX1_learn_18 : decode cX1_learn 18 = .ok (.ishr, 1) := by decide +kernel
theorem dX1_learn_19 : decode cX1_learn 19 = .ok (.iconst 1, 1) := by decide +kernel
theorem dX1_learn_20 : decode cX1_learn 20 = .ok (.iand, 1) := by decide +kernel
theorem dX1_learn_21 : decode cX1_learn 21 = .ok (.ifCond .eq 39, 3) := by decide +kernel
theorem dX1_learn_24 : decode cX1_learn 24 = .ok (.iload_n 2, 1) := by decide +kernel
theorem dX1_learn_25 : decode cX1_learn 25 = .ok (.iconst 1, 1) := by decide +kernel
theorem dX1_learn_26 : decode cX1_learn 26 = .ok (.iload_n 3, 1) := by decide +kernel
theorem dX1_learn_27 : decode cX1_learn 27 = .ok (.ishl, 1) := by decide +kernel
theorem dX1_learn_28 : decode cX1_learn 28 = .ok (.ior, 1) := by decide +kernel
theorem dX1_learn_29 : decode cX1_learn 29 = .ok (.istore 4, 2) := by decide +kernel
theorem dX1_learn_31 : decode cX1_learn 31 = .ok (.aload_n 0, 1) := by decide +kernel
theorem dX1_learn_32 : decode cX1_learn 32 = .ok (.getfield 39, 3) := by decide +kernel
theorem dX1_learn_35 : decode cX1_learn 35 = .ok (.iload 4, 2) := by decide +kernel
theorem dX1_learn_37 : decode cX1_learn 37 = .ok (.iaload, 1) := by decide +kernel
theorem dX1_learn_38 : decode cX1_learn 38 = .ok (.ifCond .ne 19, 3) := by decide +kernel
theorem dX1_learn_41 : decode cX1_learn 41 = .ok (.aload_n 0, 1) := by decide +kernel
theorem dX1_learn_42 : decode cX1_learn 42 = .ok (.getfield 39, 3) := by decide +kernel
theorem dX1_learn_45 : decode cX1_learn 45 = .ok (.iload 4, 2) := by decide +kernel
theorem dX1_learn_47 : decode cX1_learn 47 = .ok (.iconst 1, 1) := by decide +kernel
theorem dX1_learn_48 : decode cX1_learn 48 = .ok (.iastore, 1) := by decide +kernel
theorem dX1_learn_49 : decode cX1_learn 49 = .ok (.aload_n 0, 1) := by decide +kernel
theorem dX1_learn_50 : decode cX1_learn 50 = .ok (.iload_n 3, 1) := by decide +kernel
theorem dX1_learn_51 : decode cX1_learn 51 = .ok (.iload_n 2, 1) := by decide +kernel
theorem dX1_learn_52 : decode cX1_learn 52 = .ok (.iload 4, 2) := by decide +kernel
theorem dX1_learn_54 : decode cX1_learn 54 = .ok (.invokevirtual 201, 3) := by decide +kernel
theorem dX1_learn_57 : decode cX1_learn 57 = .ok (.iload 4, 2) := by decide +kernel
theorem dX1_learn_59 : decode cX1_learn 59 = .ok (.istore_n 2, 1) := by decide +kernel
theorem dX1_learn_60 : decode cX1_learn 60 = .ok (.iinc 3 (-1), 3) := by decide +kernel
theorem dX1_learn_63 : decode cX1_learn 63 = .ok (.goto (-51), 3) := by decide +kernel
theorem dX1_learn_66 : decode cX1_learn 66 = .ok (.return_, 1) := by decide +kernel
theorem wp_X1_learn_0 {d : Nat} {s : ev_S} {Q : Option ev_V → ev_S → Prop} {a1 : Int}
    (h : Ev layX M_X1_learn (d + 1) 12 [(0, ev_r 162), (1, ev_i a1), (2, ev_i 0), (3, ev_i (ev_sub (s 1 7) 1))] [] s Q) :
    Ev layX M_X1_learn (d + 1) 0 [(0, ev_r 162), (1, ev_i a1)] [] s Q := by
  refine Ev_iconst dX1_learn_0 rfl (ev_Rc rfl) ?_
  refine Ev_istore_n (l' := [(2, ev_i 0), (0, ev_r 162), (1, ev_i a1)]) dX1_learn_1 rfl (Nat.le_of_ble_eq_true rfl) rfl ?_
  refine Ev_aload_n 1 dX1_learn_2 rfl rfl ?_
  refine Ev_getR (i := 0) cl_X1 yX_162 (Nat.le_of_ble_eq_true rfl) rfl wd_618 dX1_learn_3 ?_
  refine Ev_get (i := 7) cl_X10 yX_1 (Nat.le_of_ble_eq_true rfl) rfl wd_265 dX1_learn_6 ?_
  refine Ev_iconst dX1_learn_9 rfl (ev_Rc rfl) ?_
  refine Ev_isub dX1_learn_10 ?_
  refine Ev_istore_n (l' := [(3, ev_i (ev_sub (s 1 7) 1)), (2, ev_i 0), (0, ev_r 162), (1, ev_i a1)]) dX1_learn_11 rfl (Nat.le_of_ble_eq_true rfl) rfl ?_
  exact Ev_sub [2, 3, 1, 0] rfl h
theorem wp_X1_learn_12 {d : Nat} {s : ev_S} {Q : Option ev_V → ev_S → Prop} {a1 a2 a3 : Int}
    (h : ((a3 < 0 → Q none s) ∧ (0 ≤ a3 → (((ev_and (ev_shr a1 a3) 1) = 0 → Ev layX M_X1_learn (d + 1) 12 [(0, ev_r 162), (1, ev_i a1), (2, ev_i a2), (3, ev_i (ev_add a3 (-1)))] [] s Q) ∧ ((ev_and (ev_shr a1 a3) 1) ≠ 0 → ((0 ≤ (ev_or a2 (ev_shl 1 a3)) ∧ (ev_or a2 (ev_shl 1 a3)) < (64 : Nat)) ∧ (((s 172 (Int.toNat (ev_or a2 (ev_shl 1 a3)))) ≠ 0 → Ev layX M_X1_learn (d + 1) 12 [(0, ev_r 162), (1, ev_i a1), (2, ev_i (ev_or a2 (ev_shl 1 a3))), (3, ev_i (ev_add a3 (-1)))] [] s Q) ∧ ((s 172 (Int.toNat (ev_or a2 (ev_shl 1 a3)))) = 0 → ((0 ≤ (ev_or a2 (ev_shl 1 a3)) ∧ (ev_or a2 (ev_shl 1 a3)) < (64 : Nat)) ∧ ∀ s1, ev_up s 172 (Int.toNat (ev_or a2 (ev_shl 1 a3))) 1 = s1 → (Ev layX M_X1_join d 0 [(0, ev_r 162), (1, ev_i a3), (2, ev_i a2), (3, ev_i (ev_or a2 (ev_shl 1 a3)))] [] s1 (fun _ s2 => Ev layX M_X1_learn (d + 1) 12 [(0, ev_r 162), (1, ev_i a1), (2, ev_i (ev_or a2 (ev_shl 1 a3))), (3, ev_i (ev_add a3 (-1)))] [] s2 Q))))))))))) :
    Ev layX M_X1_learn (d + 1) 12 [(0, ev_r 162), (1, ev_i a1), (2, ev_i a2), (3, ev_i a3)] [] s Q := by
  refine Ev_iload_n 3 dX1_learn_12 rfl rfl ?_
  refine Ev_if_lt (tgt := 66) dX1_learn_13 rfl (fun c => ?_) (fun c => ?_)
  · replace h := h.1 c
    exact Ev_vret rfl dX1_learn_66 h
  · replace h := h.2 c
    refine Ev_iload_n 1 dX1_learn_16 rfl rfl ?_
    refine Ev_iload_n 3 dX1_learn_17 rfl rfl ?_
    refine Ev_ishr dX1_learn_18 ?_
    refine Ev_iconst dX1_learn_19 rfl (ev_Rc rfl) ?_
    refine Ev_iand dX1_learn_20 ?_
    refine Ev_if_eq (tgt := 60) dX1_learn_21 rfl (fun c => ?_) (fun c => ?_)
    · replace h := h.1 c
      refine Ev_iinc (j := 3) (l' := [(3, ev_i (ev_add a3 (-1))), (0, ev_r 162), (1, ev_i a1), (2, ev_i a2)]) dX1_learn_60 rfl (Nat.le_of_ble_eq_true rfl) rfl ?_
      refine Ev_goto (tgt := 12) dX1_learn_63 rfl ?_
      exact Ev_sub [1, 2, 3, 0] rfl h
    · replace h := h.2 c
      refine Ev_iload_n 2 dX1_learn_24 rfl rfl ?_
      refine Ev_iconst dX1_learn_25 rfl (ev_Rc rfl) ?_
      refine Ev_iload_n 3 dX1_learn_26 rfl rfl ?_
      refine Ev_ishl dX1_learn_27 ?_
      refine Ev_ior dX1_learn_28 ?_
      refine Ev_istore (l' := [(4, ev_i (ev_or a2 (ev_shl 1 a3))), (0, ev_r 162), (1, ev_i a1), (2, ev_i a2), (3, ev_i a3)]) dX1_learn_29 (Nat.le_of_ble_eq_true rfl) rfl ?_
      refine Ev_aload_n 1 dX1_learn_31 rfl rfl ?_
      refine Ev_getR (i := 13) cl_X1 yX_162 (Nat.le_of_ble_eq_true rfl) rfl wd_631 dX1_learn_32 ?_
      refine Ev_iload 0 dX1_learn_35 rfl ?_
      obtain ⟨h0, h⟩ := h
      refine Ev_iald yX_172 h0 dX1_learn_37 ?_
      refine Ev_if_ne (tgt := 57) dX1_learn_38 rfl (fun c => ?_) (fun c => ?_)
      · replace h := h.1 c
        refine Ev_iload 0 dX1_learn_57 rfl ?_
        refine Ev_istore_n (l' := [(2, ev_i (ev_or a2 (ev_shl 1 a3))), (4, ev_i (ev_or a2 (ev_shl 1 a3))), (0, ev_r 162), (1, ev_i a1), (3, ev_i a3)]) dX1_learn_59 rfl (Nat.le_of_ble_eq_true rfl) rfl ?_
        refine Ev_iinc (j := 4) (l' := [(3, ev_i (ev_add a3 (-1))), (2, ev_i (ev_or a2 (ev_shl 1 a3))), (4, ev_i (ev_or a2 (ev_shl 1 a3))), (0, ev_r 162), (1, ev_i a1)]) dX1_learn_60 rfl (Nat.le_of_ble_eq_true rfl) rfl ?_
        refine Ev_goto (tgt := 12) dX1_learn_63 rfl ?_
        exact Ev_sub [3, 4, 1, 0] rfl h
      · replace h := h.2 c
        refine Ev_aload_n 1 dX1_learn_41 rfl rfl ?_
        refine Ev_getR (i := 13) cl_X1 yX_162 (Nat.le_of_ble_eq_true rfl) rfl wd_631 dX1_learn_42 ?_
        refine Ev_iload 0 dX1_learn_45 rfl ?_
        refine Ev_iconst dX1_learn_47 rfl (ev_Rc rfl) ?_
        obtain ⟨h0, h⟩ := h
        refine Ev_iast yX_172 h0 dX1_learn_48 (Ev_nm (fun s1 es1 => ?_))
        replace h := h s1 es1
        refine Ev_aload_n 1 dX1_learn_49 rfl rfl ?_
        refine Ev_iload_n 4 dX1_learn_50 rfl rfl ?_
        refine Ev_iload_n 3 dX1_learn_51 rfl rfl ?_
        refine Ev_iload 0 dX1_learn_52 rfl ?_
        refine Ev_callV (As := [ev_i a3, ev_i a2, ev_i (ev_or a2 (ev_shl 1 a3))]) (b := 162) (st := []) (M' := M_X1_join) cm_X1_join wd_1242 wd_1244 wd_54 yX_162 cl_X1 rfl dX1_learn_54 (Nat.le_refl _) rfl (Nat.le_of_ble_eq_true rfl) (Nat.le_of_ble_eq_true rfl) h (fun v u h hk => ?_)
        cases hk
        obtain ⟨s2, rfl⟩ : ∃ x, x = u := ⟨_, rfl⟩
        refine Ev_iload 0 dX1_learn_57 rfl ?_
        refine Ev_istore_n (l' := [(2, ev_i (ev_or a2 (ev_shl 1 a3))), (4, ev_i (ev_or a2 (ev_shl 1 a3))), (0, ev_r 162), (1, ev_i a1), (3, ev_i a3)]) dX1_learn_59 rfl (Nat.le_of_ble_eq_true rfl) rfl ?_
        refine Ev_iinc (j := 4) (l' := [(3, ev_i (ev_add a3 (-1))), (2, ev_i (ev_or a2 (ev_shl 1 a3))), (4, ev_i (ev_or a2 (ev_shl 1 a3))), (0, ev_r 162), (1, ev_i a1)]) dX1_learn_60 rfl (Nat.le_of_ble_eq_true rfl) rfl ?_
        refine Ev_goto (tgt := 12) dX1_learn_63 rfl ?_
        exact Ev_sub [3, 4, 1, 0] rfl h
theorem dX1_join_0 : decode cX1_join 0 = .ok (.aload_n 0, 1) := by decide +kernel
theorem dX1_join_1 : decode cX1_join 1 = .ok (.getfield 30, 3) := by decide +kernel
theorem dX1_join_4 : decode cX1_join 4 = .ok (.iload_n 3, 1) := by decide +kernel
theorem dX1_join_5 : decode cX1_join 5 = .ok (.iconst 0, 1) := by decide +kernel
theorem dX1_join_6 : decode cX1_join 6 = .ok (.invokestatic 133, 3) := by decide +kernel
theorem dX1_join_9 : decode cX1_join 9 = .ok (.iconst 1, 1) := by decide +kernel
theorem dX1_join_10 : decode cX1_join 10 = .ok (.istore 4, 2) := by decide +kernel
theorem dX1_join_12 : decode cX1_join 12 = .ok (.iconst 1, 1) := by decide +kernel
theorem dX1_join_13 : decode cX1_join 13 = .ok (.istore 5, 2) := by decide +kernel
theorem dX1_join_15 : decode cX1_join 15 = .ok (.iload 5, 2) := by decide +kernel
theorem dX1_join_17 : decode cX1_join 17 = .ok (.aload_n 0, 1) := by decide +kernel
theorem dX1_join_18 : decode cX1_join 18 = .ok (.invokevirtual 63, 3) := by decide +kernel
theorem dX1_join_21 : decode cX1_join 21 = .ok (.if_icmp .gt 96, 3) := by decide +kernel
theorem dX1_join_24 : decode cX1_join 24 = .ok (.iload 5, 2) := by decide +kernel
theorem dX1_join_26 : decode cX1_join 26 = .ok (.iconst 2, 1) := by decide +kernel
theorem dX1_join_27 : decode cX1_join 27 = .ok (.iload 4, 2) := by decide +kernel
theorem dX1_join_29 : decode cX1_join 29 = .ok (.imul, 1) := by decide +kernel
theorem dX1_join_30 : decode cX1_join 30 = .ok (.if_icmp .ne 8, 3) := by decide +kernel
theorem dX1_join_33 : decode cX1_join 33 = .ok (.iload 5, 2) := by decide +kernel
theorem dX1_join_35 : decode cX1_join 35 = .ok (.goto 5, 3) := by decide +kernel
theorem dX1_join_38 : decode cX1_join 38 = .ok (.iload 4, 2) := by decide +kernel
theorem dX1_join_40 : decode cX1_join 40 = .ok (.istore 4, 2) := by decide +kernel
theorem dX1_join_42 : decode cX1_join 42 = .ok (.aload_n 0, 1) := by decide +kernel
theorem dX1_join_43 : decode cX1_join 43 = .ok (.getfield 30, 3) := by decide +kernel
theorem dX1_join_46 : decode cX1_join 46 = .ok (.iload_n 3, 1) := by decide +kernel
theorem dX1_join_47 : decode cX1_join 47 = .ok (.iload 5, 2) := by decide +kernel
theorem dX1_join_49 : decode cX1_join 49 = .ok (.iload 5, 2) := by decide +kernel
theorem dX1_join_51 : decode cX1_join 51 = .ok (.iconst 1, 1) := by decide +kernel
theorem dX1_join_52 : decode cX1_join 52 = .ok (.isub, 1) := by decide +kernel
theorem dX1_join_53 : decode cX1_join 53 = .ok (.iand, 1) := by decide +kernel
theorem dX1_join_54 : decode cX1_join 54 = .ok (.invokestatic 164, 3) := by decide +kernel
theorem dX1_join_57 : decode cX1_join 57 = .ok (.ifCond .eq 25, 3) := by decide +kernel
theorem dX1_join_60 : decode cX1_join 60 = .ok (.aload_n 0, 1) := by decide +kernel
theorem dX1_join_61 : decode cX1_join 61 = .ok (.getfield 30, 3) := by decide +kernel
theorem dX1_join_64 : decode cX1_join 64 = .ok (.iload_n 3, 1) := by decide +kernel
theorem dX1_join_65 : decode cX1_join 65 = .ok (.iload 5, 2) := by decide +kernel
theorem dX1_join_67 : decode cX1_join 67 = .ok (.iload 4, 2) := by decide +kernel
theorem dX1_join_69 : decode cX1_join 69 = .ok (.iconst (-1), 1) := by decide +kernel
theorem dX1_join_70 : decode cX1_join 70 = .ok (.ixor, 1) := by decide +kernel
theorem dX1_join_71 : decode cX1_join 71 = .ok (.iand, 1) := by decide +kernel
theorem dX1_join_72 : decode cX1_join 72 = .ok (.invokestatic 164, 3) := by decide +kernel
theorem dX1_join_75 : decode cX1_join 75 = .ok (.ifCond .eq 7, 3) := by decide +kernel
theorem dX1_join_78 : decode cX1_join 78 = .ok (.iconst 1, 1) := by decide +kernel
theorem dX1_join_79 : decode cX1_join 79 = .ok (.goto 4, 3) := by decide +kernel
theorem dX1_join_82 : decode cX1_join 82 = .ok (.iconst 0, 1) := by decide +kernel
theorem dX1_join_83 : decode cX1_join 83 = .ok (.istore 6, 2) := by decide +kernel
theorem dX1_join_85 : decode cX1_join 85 = .ok (.iload 6, 2) := by decide +kernel
theorem dX1_join_87 : decode cX1_join 87 = .ok (.ifCond .eq 24, 3) := by decide +kernel
theorem dX1_join_90 : decode cX1_join 90 = .ok (.aload_n 0, 1) := by decide +kernel
theorem dX1_join_91 : decode cX1_join 91 = .ok (.iload_n 1, 1) := by decide +kernel
theorem dX1_join_92 : decode cX1_join 92 = .ok (.iload_n 2, 1) := by decide +kernel
theorem dX1_join_93 : decode cX1_join 93 = .ok (.iload 5, 2) := by decide +kernel
theorem dX1_join_95 : decode cX1_join 95 = .ok (.invokevirtual 205, 3) := by decide +kernel
theorem dX1_join_98 : decode cX1_join 98 = .ok (.ifCond .eq 13, 3) := by decide +kernel
theorem dX1_join_101 : decode cX1_join 101 = .ok (.aload_n 0, 1) := by decide +kernel
theorem dX1_join_102 : decode cX1_join 102 = .ok (.getfield 30, 3) := by decide +kernel
theorem dX1_join_105 : decode cX1_join 105 = .ok (.iload_n 3, 1) := by decide +kernel
theorem dX1_join_106 : decode cX1_join 106 = .ok (.iload 5, 2) := by decide +kernel
theorem dX1_join_108 : decode cX1_join 108 = .ok (.invokestatic 133, 3) := by decide +kernel
theorem dX1_join_111 : decode cX1_join 111 = .ok (.iinc 5 1, 3) := by decide +kernel
theorem dX1_join_114 : decode cX1_join 114 = .ok (.goto (-99), 3) := by decide +kernel
theorem dX1_join_117 : decode cX1_join 117 = .ok (.return_, 1) := by decide +kernel
theorem wp_X1_join_0 {d : Nat} {s : ev_S} {Q : Option ev_V → ev_S → Prop} {a1 a2 a3 : Int}
    (h : (Ev layX M_X1_put d 0 [(0, ev_r 169), (1, ev_i a3), (2, ev_i 0)] [] s (fun _ s1 => Ev layX M_X1_join (d + 1) 15 [(0, ev_r 162), (1, ev_i a1), (2, ev_i a2), (3, ev_i a3), (4, ev_i 1), (5, ev_i 1)] [] s1 Q))) :
    Ev layX M_X1_join (d + 1) 0 [(0, ev_r 162), (1, ev_i a1), (2, ev_i a2), (3, ev_i a3)] [] s Q := by
  refine Ev_aload_n 0 dX1_join_0 rfl rfl ?_
  refine Ev_getR (i := 10) cl_X1 yX_162 (Nat.le_of_ble_eq_true rfl) rfl wd_628 dX1_join_1 ?_
  refine Ev_iload_n 3 dX1_join_4 rfl rfl ?_
  refine Ev_iconst dX1_join_5 rfl (ev_Rc rfl) ?_
  refine Ev_callS (As := [ev_r 169, ev_i a3, ev_i 0]) (st := []) (M' := M_X1_put) cm_X1_put wd_1204 wd_1205 dX1_join_6 (Nat.le_refl _) rfl (Nat.le_of_ble_eq_true rfl) (Nat.le_of_ble_eq_true rfl) h (fun v u h hk => ?_)
  cases hk
  obtain ⟨s1, rfl⟩ : ∃ x, x = u := ⟨_, rfl⟩
  refine Ev_iconst dX1_join_9 rfl (ev_Rc rfl) ?_
  refine Ev_istore (l' := [(4, ev_i 1), (0, ev_r 162), (1, ev_i a1), (2, ev_i a2), (3, ev_i a3)]) dX1_join_10 (Nat.le_of_ble_eq_true rfl) rfl ?_
  refine Ev_iconst dX1_join_12 rfl (ev_Rc rfl) ?_
  refine Ev_istore (l' := [(5, ev_i 1), (4, ev_i 1), (0, ev_r 162), (1, ev_i a1), (2, ev_i a2), (3, ev_i a3)]) dX1_join_13 (Nat.le_of_ble_eq_true rfl) rfl ?_
  exact Ev_sub [2, 3, 4, 5, 1, 0] rfl h
theorem wp_X1_join_15 {d : Nat} {s : ev_S} {Q : Option ev_V → ev_S → Prop} {a1 a2 a3 a4 a5 : Int}
    (h : (Ev layX M_X1_full d 0 [(0, ev_r 162)] [] s (ev_pi (fun r2 s1 => ((r2 < a5 → Q none s1) ∧ (a5 ≤ r2 → ((a5 ≠ (ev_mul 2 a4) → Ev layX M_X1_join (d + 1) 40 [(0, ev_r 162), (1, ev_i a1), (2, ev_i a2), (3, ev_i a3), (5, ev_i a5)] [ev_i a4] s1 Q) ∧ (a5 = (ev_mul 2 a4) → Ev layX M_X1_join (d + 1) 40 [(0, ev_r 162), (1, ev_i a1), (2, ev_i a2), (3, ev_i a3), (5, ev_i a5)] [ev_i a5] s1 Q)))))))) :
    Ev layX M_X1_join (d + 1) 15 [(0, ev_r 162), (1, ev_i a1), (2, ev_i a2), (3, ev_i a3), (4, ev_i a4), (5, ev_i a5)] [] s Q := by
  refine Ev_iload 5 dX1_join_15 rfl ?_
  refine Ev_aload_n 0 dX1_join_17 rfl rfl ?_
  refine Ev_callV (As := []) (b := 162) (st := [ev_i a5]) (M' := M_X1_full) cm_X1_full wd_1246 wd_1248 wd_55 yX_162 cl_X1 rfl dX1_join_18 (Nat.le_refl _) rfl (Nat.le_of_ble_eq_true rfl) (Nat.le_of_ble_eq_true rfl) h (fun v u h hk => ?_)
  obtain ⟨r2, rfl⟩ := hk
  obtain ⟨s1, rfl⟩ : ∃ x, x = u := ⟨_, rfl⟩
  replace h := h r2 rfl
  refine Ev_icmp_gt (tgt := 117) dX1_join_21 rfl (fun c => ?_) (fun c => ?_)
  · replace h := h.1 c
    exact Ev_vret rfl dX1_join_117 h
  · replace h := h.2 c
    refine Ev_iload 5 dX1_join_24 rfl ?_
    refine Ev_iconst dX1_join_26 rfl (ev_Rc rfl) ?_
    refine Ev_iload 4 dX1_join_27 rfl ?_
    refine Ev_imul dX1_join_29 ?_
    refine Ev_icmp_ne (tgt := 38) dX1_join_30 rfl (fun c => ?_) (fun c => ?_)
    · replace h := h.1 c
      refine Ev_iload 4 dX1_join_38 rfl ?_
      exact Ev_sub [0, 1, 2, 3, 5] rfl h
    · replace h := h.2 c
      refine Ev_iload 5 dX1_join_33 rfl ?_
      refine Ev_goto (tgt := 40) dX1_join_35 rfl ?_
      exact Ev_sub [0, 1, 2, 3, 5] rfl h
theorem wp_X1_join_40 {d : Nat} {s : ev_S} {Q : Option ev_V → ev_S → Prop} {a1 a2 a3 a5 t0 : Int}
    (h : (Ev layX M_X1_holds d 0 [(0, ev_r 169), (1, ev_i a3), (2, ev_i (ev_and a5 (ev_sub a5 1)))] [] s (ev_pi (fun r2 s1 => ((r2 = 0 → Ev layX M_X1_join (d + 1) 83 [(0, ev_r 162), (1, ev_i a1), (2, ev_i a2), (3, ev_i a3), (4, ev_i t0), (5, ev_i a5)] [ev_i 0] s1 Q) ∧ (r2 ≠ 0 → (Ev layX M_X1_holds d 0 [(0, ev_r 169), (1, ev_i a3), (2, ev_i (ev_and a5 (ev_xor t0 (-1))))] [] s1 (ev_pi (fun r4 s3 => ((r4 = 0 → Ev layX M_X1_join (d + 1) 83 [(0, ev_r 162), (1, ev_i a1), (2, ev_i a2), (3, ev_i a3), (4, ev_i t0), (5, ev_i a5)] [ev_i 0] s3 Q) ∧ (r4 ≠ 0 → Ev layX M_X1_join (d + 1) 83 [(0, ev_r 162), (1, ev_i a1), (2, ev_i a2), (3, ev_i a3), (4, ev_i t0), (5, ev_i a5)] [ev_i 1] s3 Q))))))))))) :
    Ev layX M_X1_join (d + 1) 40 [(0, ev_r 162), (1, ev_i a1), (2, ev_i a2), (3, ev_i a3), (5, ev_i a5)] [ev_i t0] s Q := by
  refine Ev_istore (l' := [(4, ev_i t0), (0, ev_r 162), (1, ev_i a1), (2, ev_i a2), (3, ev_i a3), (5, ev_i a5)]) dX1_join_40 (Nat.le_of_ble_eq_true rfl) rfl ?_
  refine Ev_aload_n 1 dX1_join_42 rfl rfl ?_
  refine Ev_getR (i := 10) cl_X1 yX_162 (Nat.le_of_ble_eq_true rfl) rfl wd_628 dX1_join_43 ?_
  refine Ev_iload_n 4 dX1_join_46 rfl rfl ?_
  refine Ev_iload 5 dX1_join_47 rfl ?_
  refine Ev_iload 5 dX1_join_49 rfl ?_
  refine Ev_iconst dX1_join_51 rfl (ev_Rc rfl) ?_
  refine Ev_isub dX1_join_52 ?_
  refine Ev_iand dX1_join_53 ?_
  refine Ev_callS (As := [ev_r 169, ev_i a3, ev_i (ev_and a5 (ev_sub a5 1))]) (st := []) (M' := M_X1_holds) cm_X1_holds wd_1211 wd_1212 dX1_join_54 (Nat.le_refl _) rfl (Nat.le_of_ble_eq_true rfl) (Nat.le_of_ble_eq_true rfl) h (fun v u h hk => ?_)
  obtain ⟨r2, rfl⟩ := hk
  obtain ⟨s1, rfl⟩ : ∃ x, x = u := ⟨_, rfl⟩
  replace h := h r2 rfl
  refine Ev_if_eq (tgt := 82) dX1_join_57 rfl (fun c => ?_) (fun c => ?_)
  · replace h := h.1 c
    refine Ev_iconst dX1_join_82 rfl (ev_Rc rfl) ?_
    exact Ev_sub [1, 2, 3, 4, 0, 5] rfl h
  · replace h := h.2 c
    refine Ev_aload_n 1 dX1_join_60 rfl rfl ?_
    refine Ev_getR (i := 10) cl_X1 yX_162 (Nat.le_of_ble_eq_true rfl) rfl wd_628 dX1_join_61 ?_
    refine Ev_iload_n 4 dX1_join_64 rfl rfl ?_
    refine Ev_iload 5 dX1_join_65 rfl ?_
    refine Ev_iload 0 dX1_join_67 rfl ?_
    refine Ev_iconst dX1_join_69 rfl (ev_Rc rfl) ?_
    refine Ev_ixor dX1_join_70 ?_
    refine Ev_iand dX1_join_71 ?_
    refine Ev_callS (As := [ev_r 169, ev_i a3, ev_i (ev_and a5 (ev_xor t0 (-1)))]) (st := []) (M' := M_X1_holds) cm_X1_holds wd_1211 wd_1212 dX1_join_72 (Nat.le_refl _) rfl (Nat.le_of_ble_eq_true rfl) (Nat.le_of_ble_eq_true rfl) h (fun v u h hk => ?_)
    obtain ⟨r4, rfl⟩ := hk
    obtain ⟨s3, rfl⟩ : ∃ x, x = u := ⟨_, rfl⟩
    replace h := h r4 rfl
    refine Ev_if_eq (tgt := 82) dX1_join_75 rfl (fun c => ?_) (fun c => ?_)
    · replace h := h.1 c
      refine Ev_iconst dX1_join_82 rfl (ev_Rc rfl) ?_
      exact Ev_sub [1, 2, 3, 4, 0, 5] rfl h
    · replace h := h.2 c
      refine Ev_iconst dX1_join_78 rfl (ev_Rc rfl) ?_
      refine Ev_goto (tgt := 83) dX1_join_79 rfl ?_
      exact Ev_sub [1, 2, 3, 4, 0, 5] rfl h
theorem wp_X1_join_83 {d : Nat} {s : ev_S} {Q : Option ev_V → ev_S → Prop} {a1 a2 a3 a4 a5 t0 : Int}
    (h : ((t0 = 0 → Ev layX M_X1_join (d + 1) 15 [(0, ev_r 162), (1, ev_i a1), (2, ev_i a2), (3, ev_i a3), (4, ev_i a4), (5, ev_i (ev_add a5 1))] [] s Q) ∧ (t0 ≠ 0 → (Ev layX M_X1_splits d 0 [(0, ev_r 162), (1, ev_i a1), (2, ev_i a2), (3, ev_i a5)] [] s (ev_pi (fun r2 s1 => ((r2 = 0 → Ev layX M_X1_join (d + 1) 15 [(0, ev_r 162), (1, ev_i a1), (2, ev_i a2), (3, ev_i a3), (4, ev_i a4), (5, ev_i (ev_add a5 1))] [] s1 Q) ∧ (r2 ≠ 0 → (Ev layX M_X1_put d 0 [(0, ev_r 169), (1, ev_i a3), (2, ev_i a5)] [] s1 (fun _ s3 => Ev layX M_X1_join (d + 1) 15 [(0, ev_r 162), (1, ev_i a1), (2, ev_i a2), (3, ev_i a3), (4, ev_i a4), (5, ev_i (ev_add a5 1))] [] s3 Q)))))))))) :
    Ev layX M_X1_join (d + 1) 83 [(0, ev_r 162), (1, ev_i a1), (2, ev_i a2), (3, ev_i a3), (4, ev_i a4), (5, ev_i a5)] [ev_i t0] s Q := by
  refine Ev_istore (l' := [(6, ev_i t0), (0, ev_r 162), (1, ev_i a1), (2, ev_i a2), (3, ev_i a3), (4, ev_i a4), (5, ev_i a5)]) dX1_join_83 (Nat.le_of_ble_eq_true rfl) rfl ?_
  refine Ev_iload 0 dX1_join_85 rfl ?_
  refine Ev_if_eq (tgt := 111) dX1_join_87 rfl (fun c => ?_) (fun c => ?_)
  · replace h := h.1 c
    refine Ev_iinc (j := 6) (l' := [(5, ev_i (ev_add a5 1)), (6, ev_i t0), (0, ev_r 162), (1, ev_i a1), (2, ev_i a2), (3, ev_i a3), (4, ev_i a4)]) dX1_join_111 rfl (Nat.le_of_ble_eq_true rfl) rfl ?_
    refine Ev_goto (tgt := 15) dX1_join_114 rfl ?_
    exact Ev_sub [2, 3, 4, 5, 6, 0] rfl h
  · replace h := h.2 c
    refine Ev_aload_n 1 dX1_join_90 rfl rfl ?_
    refine Ev_iload_n 2 dX1_join_91 rfl rfl ?_
    refine Ev_iload_n 3 dX1_join_92 rfl rfl ?_
    refine Ev_iload 6 dX1_join_93 rfl ?_
    refine Ev_callV (As := [ev_i a1, ev_i a2, ev_i a5]) (b := 162) (st := []) (M' := M_X1_splits) cm_X1_splits wd_1250 wd_1252 wd_56 yX_162 cl_X1 rfl dX1_join_95 (Nat.le_refl _) rfl (Nat.le_of_ble_eq_true rfl) (Nat.le_of_ble_eq_true rfl) h (fun v u h hk => ?_)
    obtain ⟨r2, rfl⟩ := hk
    obtain ⟨s1, rfl⟩ : ∃ x, x = u := ⟨_, rfl⟩
    replace h := h r2 rfl
    refine Ev_if_eq (tgt := 111) dX1_join_98 rfl (fun c => ?_) (fun c => ?_)
    · replace h := h.1 c
      refine Ev_iinc (j := 6) (l' := [(5, ev_i (ev_add a5 1)), (6, ev_i t0), (0, ev_r 162), (1, ev_i a1), (2, ev_i a2), (3, ev_i a3), (4, ev_i a4)]) dX1_join_111 rfl (Nat.le_of_ble_eq_true rfl) rfl ?_
      refine Ev_goto (tgt := 15) dX1_join_114 rfl ?_
      exact Ev_sub [2, 3, 4, 5, 6, 0] rfl h
    · replace h := h.2 c
      refine Ev_aload_n 1 dX1_join_101 rfl rfl ?_
      refine Ev_getR (i := 10) cl_X1 yX_162 (Nat.le_of_ble_eq_true rfl) rfl wd_628 dX1_join_102 ?_
      refine Ev_iload_n 4 dX1_join_105 rfl rfl ?_
      refine Ev_iload 6 dX1_join_106 rfl ?_
      refine Ev_callS (As := [ev_r 169, ev_i a3, ev_i a5]) (st := []) (M' := M_X1_put) cm_X1_put wd_1204 wd_1205 dX1_join_108 (Nat.le_refl _) rfl (Nat.le_of_ble_eq_true rfl) (Nat.le_of_ble_eq_true rfl) h (fun v u h hk => ?_)
      cases hk
      obtain ⟨s3, rfl⟩ : ∃ x, x = u := ⟨_, rfl⟩
      refine Ev_iinc (j := 6) (l' := [(5, ev_i (ev_add a5 1)), (6, ev_i t0), (0, ev_r 162), (1, ev_i a1), (2, ev_i a2), (3, ev_i a3), (4, ev_i a4)]) dX1_join_111 rfl (Nat.le_of_ble_eq_true rfl) rfl ?_
      refine Ev_goto (tgt := 15) dX1_join_114 rfl ?_
      exact Ev_sub [2, 3, 4, 5, 6, 0] rfl h
theorem dX1_splits_0 : decode cX1_splits 0 = .ok (.iconst 0, 1) := by decide +kernel
theorem dX1_splits_1 : decode cX1_splits 1 = .ok (.istore 4, 2) := by decide +kernel
theorem dX1_splits_3 : decode cX1_splits 3 = .ok (.iload 4, 2) := by decide +kernel
theorem dX1_splits_5 : decode cX1_splits 5 = .ok (.aload_n 0, 1) := by decide +kernel
theorem dX1_splits_6 : decode cX1_splits 6 = .ok (.getfield 36, 3) := by decide +kernel
theorem dX1_splits_9 : decode cX1_splits 9 = .ok (.iload_n 1, 1) := by decide +kernel
theorem dX1_splits_10 : decode cX1_splits 10 = .ok (.iaload, 1) := by decide +kernel
theorem dX1_splits_11 : decode cX1_splits 11 = .ok (.if_icmp .ge 39, 3) := by decide +kernel
theorem dX1_splits_14 : decode cX1_splits 14 = .ok (.aload_n 0, 1) := by decide +kernel
theorem dX1_splits_15 : decode cX1_splits 15 = .ok (.getfield 30, 3) := by decide +kernel
theorem dX1_splits_18 : decode cX1_splits 18 = .ok (.iload_n 2, 1) := by decide +kernel
theorem dX1_splits_19 : decode cX1_splits 19 = .ok (.iload_n 3, 1) := by decide +kernel
theorem dX1_splits_20 : decode cX1_splits 20 = .ok (.aload_n 0, 1) := by decide +kernel
theorem dX1_splits_21 : decode cX1_splits 21 = .ok (.getfield 33, 3) := by decide +kernel
theorem dX1_splits_24 : decode cX1_splits 24 = .ok (.iload_n 1, 1) := by decide +kernel
theorem dX1_splits_25 : decode cX1_splits 25 = .ok (.sipush 252, 3) := by decide +kernel
theorem dX1_splits_28 : decode cX1_splits 28 = .ok (.imul, 1) := by decide +kernel
theorem dX1_splits_29 : decode cX1_splits 29 = .ok (.iload 4, 2) := by decide +kernel
theorem dX1_splits_31 : decode cX1_splits 31 = .ok (.iadd, 1) := by decide +kernel
theorem dX1_splits_32 : decode cX1_splits 32 = .ok (.iaload, 1) := by decide +kernel
theorem dX1_splits_33 : decode cX1_splits 33 = .ok (.iconst (-1), 1) := by decide +kernel
theorem dX1_splits_34 : decode cX1_splits 34 = .ok (.ixor, 1) := by decide +kernel
theorem dX1_splits_35 : decode cX1_splits 35 = .ok (.iand, 1) := by decide +kernel
theorem dX1_splits_36 : decode cX1_splits 36 = .ok (.invokestatic 164, 3) := by decide +kernel
theorem dX1_splits_39 : decode cX1_splits 39 = .ok (.ifCond .eq 5, 3) := by decide +kernel
theorem dX1_splits_42 : decode cX1_splits 42 = .ok (.iconst 1, 1) := by decide +kernel
theorem dX1_splits_43 : decode cX1_splits 43 = .ok (.ireturn, 1) := by decide +kernel
theorem dX1_splits_44 : decode cX1_splits 44 = .ok (.iinc 4 1, 3) := by decide +kernel
theorem dX1_splits_47 : decode cX1_splits 47 = .ok (.goto (-44), 3) := by decide +kernel
theorem dX1_splits_50 : decode cX1_splits 50 = .ok (.iconst 0, 1) := by decide +kernel
theorem dX1_splits_51 : decode cX1_splits 51 = .ok (.ireturn, 1) := by decide +kernel
theorem wp_X1_splits_0 {d : Nat} {s : ev_S} {Q : Option ev_V → ev_S → Prop} {a1 a2 a3 : Int}
    (h : Ev layX M_X1_splits (d + 1) 3 [(0, ev_r 162), (1, ev_i a1), (2, ev_i a2), (3, ev_i a3), (4, ev_i 0)] [] s Q) :
    Ev layX M_X1_splits (d + 1) 0 [(0, ev_r 162), (1, ev_i a1), (2, ev_i a2), (3, ev_i a3)] [] s Q := by
  refine Ev_iconst dX1_splits_0 rfl (ev_Rc rfl) ?_
  refine Ev_istore (l' := [(4, ev_i 0), (0, ev_r 162), (1, ev_i a1), (2, ev_i a2), (3, ev_i a3)]) dX1_splits_1 (Nat.le_of_ble_eq_true rfl) rfl ?_
  exact Ev_sub [1, 2, 3, 4, 0] rfl h
theorem wp_X1_splits_3 {d : Nat} {s : ev_S} {Q : Option ev_V → ev_S → Prop} {a1 a2 a3 a4 : Int}
    (h : ((0 ≤ a1 ∧ a1 < (6 : Nat)) ∧ (((s 171 (Int.toNat a1)) ≤ a4 → Q (some (ev_i 0)) s) ∧ (a4 < (s 171 (Int.toNat a1)) → ((0 ≤ (ev_add (ev_mul a1 252) a4) ∧ (ev_add (ev_mul a1 252) a4) < (1512 : Nat)) ∧ (Ev layX M_X1_holds d 0 [(0, ev_r 169), (1, ev_i a2), (2, ev_i (ev_and a3 (ev_xor (s 170 (Int.toNat (ev_add (ev_mul a1 252) a4))) (-1))))] [] s (ev_pi (fun r2 s1 => ((r2 = 0 → Ev layX M_X1_splits (d + 1) 3 [(0, ev_r 162), (1, ev_i a1), (2, ev_i a2), (3, ev_i a3), (4, ev_i (ev_add a4 1))] [] s1 Q) ∧ (r2 ≠ 0 → Q (some (ev_i 1)) s1)))))))))) :
    Ev layX M_X1_splits (d + 1) 3 [(0, ev_r 162), (1, ev_i a1), (2, ev_i a2), (3, ev_i a3), (4, ev_i a4)] [] s Q := by
  refine Ev_iload 4 dX1_splits_3 rfl ?_
  refine Ev_aload_n 0 dX1_splits_5 rfl rfl ?_
  refine Ev_getR (i := 12) cl_X1 yX_162 (Nat.le_of_ble_eq_true rfl) rfl wd_630 dX1_splits_6 ?_
  refine Ev_iload_n 1 dX1_splits_9 rfl rfl ?_
  obtain ⟨h0, h⟩ := h
  refine Ev_iald yX_171 h0 dX1_splits_10 ?_
  refine Ev_icmp_ge (tgt := 50) dX1_splits_11 rfl (fun c => ?_) (fun c => ?_)
  · replace h := h.1 c
    refine Ev_iconst dX1_splits_50 rfl (ev_Rc rfl) ?_
    exact Ev_iret rfl dX1_splits_51 (ev_nb (by decide)) h
  · replace h := h.2 c
    refine Ev_aload_n 0 dX1_splits_14 rfl rfl ?_
    refine Ev_getR (i := 10) cl_X1 yX_162 (Nat.le_of_ble_eq_true rfl) rfl wd_628 dX1_splits_15 ?_
    refine Ev_iload_n 2 dX1_splits_18 rfl rfl ?_
    refine Ev_iload_n 3 dX1_splits_19 rfl rfl ?_
    refine Ev_aload_n 0 dX1_splits_20 rfl rfl ?_
    refine Ev_getR (i := 11) cl_X1 yX_162 (Nat.le_of_ble_eq_true rfl) rfl wd_629 dX1_splits_21 ?_
    refine Ev_iload_n 1 dX1_splits_24 rfl rfl ?_
    refine Ev_sipushC dX1_splits_25 rfl ?_
    refine Ev_imul dX1_splits_28 ?_
    refine Ev_iload 4 dX1_splits_29 rfl ?_
    refine Ev_iadd dX1_splits_31 ?_
    obtain ⟨h0, h⟩ := h
    refine Ev_iald yX_170 h0 dX1_splits_32 ?_
    refine Ev_iconst dX1_splits_33 rfl (ev_Rc rfl) ?_
    refine Ev_ixor dX1_splits_34 ?_
    refine Ev_iand dX1_splits_35 ?_
    refine Ev_callS (As := [ev_r 169, ev_i a2, ev_i (ev_and a3 (ev_xor (s 170 (Int.toNat (ev_add (ev_mul a1 252) a4))) (-1)))]) (st := []) (M' := M_X1_holds) cm_X1_holds wd_1211 wd_1212 dX1_splits_36 (Nat.le_refl _) rfl (Nat.le_of_ble_eq_true rfl) (Nat.le_of_ble_eq_true rfl) h (fun v u h hk => ?_)
    obtain ⟨r2, rfl⟩ := hk
    obtain ⟨s1, rfl⟩ : ∃ x, x = u := ⟨_, rfl⟩
    replace h := h r2 rfl
    refine Ev_if_eq (tgt := 44) dX1_splits_39 rfl (fun c => ?_) (fun c => ?_)
    · replace h := h.1 c
      refine Ev_iinc (j := 4) (l' := [(4, ev_i (ev_add a4 1)), (0, ev_r 162), (1, ev_i a1), (2, ev_i a2), (3, ev_i a3)]) dX1_splits_44 rfl (Nat.le_of_ble_eq_true rfl) rfl ?_
      refine Ev_goto (tgt := 3) dX1_splits_47 rfl ?_
      exact Ev_sub [1, 2, 3, 4, 0] rfl h
    · replace h := h.2 c
      refine Ev_iconst dX1_splits_42 rfl (ev_Rc rfl) ?_
      exact Ev_iret rfl dX1_splits_43 (ev_nb (by decide)) h
theorem dX1_choose_0 : decode cX1_choose 0 = .ok (.aload_n 0, 1) := by decide +kernel
theorem dX1_choose_1 : decode cX1_choose 1 = .ok (.getfield 108, 3) := by decide +kernel
theorem dX1_choose_4 : decode cX1_choose 4 = .ok (.ifCond .eq 4, 3) := by decide +kernel
theorem dX1_choose_7 : decode cX1_choose 7 = .ok (.return_, 1) := by decide +kernel
theorem dX1_choose_8 : decode cX1_choose 8 = .ok (.aload_n 0, 1) := by decide +kernel
theorem dX1_choose_9 : decode cX1_choose 9 = .ok (.aload_n 0, 1) := by decide +kernel
theorem dX1_choose_10 : decode cX1_choose 10 = .ok (.invokevirtual 67, 3) := by decide +kernel
theorem dX1_choose_13 : decode cX1_choose 13 = .ok (.invokevirtual 70, 3) := by decide +kernel
theorem dX1_choose_16 : decode cX1_choose 16 = .ok (.istore_n 1, 1) := by decide +kernel
theorem dX1_choose_17 : decode cX1_choose 17 = .ok (.iconst 0, 1) := by decide +kernel
theorem dX1_choose_18 : decode cX1_choose 18 = .ok (.istore_n 2, 1) := by decide +kernel
theorem dX1_choose_19 : decode cX1_choose 19 = .ok (.iload_n 2, 1) := by decide +kernel
theorem dX1_choose_20 : decode cX1_choose 20 = .ok (.aload_n 0, 1) := by decide +kernel
theorem dX1_choose_21 : decode cX1_choose 21 = .ok (.invokevirtual 63, 3) := by decide +kernel
theorem dX1_choose_24 : decode cX1_choose 24 = .ok (.if_icmp .gt 73, 3) := by decide +kernel
theorem dX1_choose_27 : decode cX1_choose 27 = .ok (.aload_n 0, 1) := by decide +kernel
theorem dX1_choose_28 : decode cX1_choose 28 = .ok (.getfield 21, 3) := by decide +kernel
theorem dX1_choose_31 : decode cX1_choose 31 = .ok (.iload_n 2, 1) := by decide +kernel
theorem dX1_choose_32 : decode cX1_choose 32 = .ok (.iaload, 1) := by decide +kernel
theorem dX1_choose_33 : decode cX1_choose 33 = .ok (.iload_n 1, 1) := by decide +kernel
theorem dX1_choose_34 : decode cX1_choose 34 = .ok (.if_icmp .ne 57, 3) := by decide +kernel
theorem dX1_choose_37 : decode cX1_choose 37 = .ok (.aload_n 0, 1) := by decide +kernel
theorem dX1_choose_38 : decode cX1_choose 38 = .ok (.getfield 30, 3) := by decide +kernel
theorem dX1_choose_41 : decode cX1_choose 41 = .ok (.aload_n 0, 1) := by decide +kernel
theorem dX1_choose_42 : decode cX1_choose 42 = .ok (.invokevirtual 67, 3) := by decide +kernel
theorem dX1_choose_45 : decode cX1_choose 45 = .ok (.iload_n 2, 1) := by decide +kernel
theorem dX1_choose_46 : decode cX1_choose 46 = .ok (.invokestatic 164, 3) := by decide +kernel
theorem dX1_choose_49 : decode cX1_choose 49 = .ok (.ifCond .eq 42, 3) := by decide +kernel
theorem dX1_choose_52 : decode cX1_choose 52 = .ok (.aload_n 0, 1) := by decide +kernel
theorem dX1_choose_53 : decode cX1_choose 53 = .ok (.iload_n 2, 1) := by decide +kernel
theorem dX1_choose_54 : decode cX1_choose 54 = .ok (.invokevirtual 209, 3) := by decide +kernel
theorem dX1_choose_57 : decode cX1_choose 57 = .ok (.aload_n 0, 1) := by decide +kernel
theorem dX1_choose_58 : decode cX1_choose 58 = .ok (.getfield 108, 3) := by decide +kernel
theorem dX1_choose_61 : decode cX1_choose 61 = .ok (.ifCond .eq 10, 3) := by decide +kernel
theorem dX1_choose_64 : decode cX1_choose 64 = .ok (.aload_n 0, 1) := by decide +kernel
theorem dX1_choose_65 : decode cX1_choose 65 = .ok (.invokevirtual 212, 3) := by decide +kernel
theorem dX1_choose_68 : decode cX1_choose 68 = .ok (.ifCond .eq 18, 3) := by decide +kernel
theorem dX1_choose_71 : decode cX1_choose 71 = .ok (.aload_n 0, 1) := by decide +kernel
theorem dX1_choose_72 : decode cX1_choose 72 = .ok (.getfield 48, 3) := by decide +kernel
theorem dX1_choose_75 : decode cX1_choose 75 = .ok (.iconst 0, 1) := by decide +kernel
theorem dX1_choose_76 : decode cX1_choose 76 = .ok (.aload_n 0, 1) := by decide +kernel
theorem dX1_choose_77 : decode cX1_choose 77 = .ok (.getfield 45, 3) := by decide +kernel
theorem dX1_choose_80 : decode cX1_choose 80 = .ok (.iconst 0, 1) := by decide +kernel
theorem dX1_choose_81 : decode cX1_choose 81 = .ok (.bipush 6, 2) := by decide +kernel
theorem dX1_choose_83 : decode cX1_choose 83 = .ok (.invokestatic 216, 3) := by decide +kernel
theorem dX1_choose_86 : decode cX1_choose 86 = .ok (.aload_n 0, 1) := by decide +kernel
theorem dX1_choose_87 : decode cX1_choose 87 = .ok (.iconst 1, 1) := by decide +kernel
theorem dX1_choose_88 : decode cX1_choose 88 = .ok (.putfield 108, 3) := by decide +kernel
theorem dX1_choose_91 : decode cX1_choose 91 = .ok (.iinc 2 1, 3) := by decide +kernel
theorem dX1_choose_94 : decode cX1_choose 94 = .ok (.goto (-75), 3) := by decide +kernel
theorem dX1_choose_97 : decode cX1_choose 97 = .ok (.return_, 1) := by decide +kernel
theorem wp_X1_choose_0 {d : Nat} {s : ev_S} {Q : Option ev_V → ev_S → Prop}
    (h : (((s 162 17) = 0 → (Ev layX M_X1_everybody d 0 [(0, ev_r 162)] [] s (ev_pi (fun r2 s1 => (Ev layX M_X1_most d 0 [(0, ev_r 162), (1, ev_i r2)] [] s1 (ev_pi (fun r4 s3 => Ev layX M_X1_choose (d + 1) 19 [(0, ev_r 162), (1, ev_i r4), (2, ev_i 0)] [] s3 Q))))))) ∧ ((s 162 17) ≠ 0 → Q none s))) :
    Ev layX M_X1_choose (d + 1) 0 [(0, ev_r 162)] [] s Q := by
  refine Ev_aload_n 0 dX1_choose_0 rfl rfl ?_
  refine Ev_get (i := 17) cl_X1 yX_162 (Nat.le_of_ble_eq_true rfl) rfl wd_635 dX1_choose_1 ?_
  refine Ev_if_eq (tgt := 8) dX1_choose_4 rfl (fun c => ?_) (fun c => ?_)
  · replace h := h.1 c
    refine Ev_aload_n 0 dX1_choose_8 rfl rfl ?_
    refine Ev_aload_n 0 dX1_choose_9 rfl rfl ?_
    refine Ev_callV (As := []) (b := 162) (st := [ev_r 162]) (M' := M_X1_everybody) cm_X1_everybody wd_1230 wd_1232 wd_51 yX_162 cl_X1 rfl dX1_choose_10 (Nat.le_refl _) rfl (Nat.le_of_ble_eq_true rfl) (Nat.le_of_ble_eq_true rfl) h (fun v u h hk => ?_)
    obtain ⟨r2, rfl⟩ := hk
    obtain ⟨s1, rfl⟩ : ∃ x, x = u := ⟨_, rfl⟩
    replace h := h r2 rfl
    refine Ev_callV (As := [ev_i r2]) (b := 162) (st := []) (M' := M_X1_most) cm_X1_most wd_1234 wd_1236 wd_52 yX_162 cl_X1 rfl dX1_choose_13 (Nat.le_refl _) rfl (Nat.le_of_ble_eq_true rfl) (Nat.le_of_ble_eq_true rfl) h (fun v u h hk => ?_)
    obtain ⟨r4, rfl⟩ := hk
    obtain ⟨s3, rfl⟩ : ∃ x, x = u := ⟨_, rfl⟩
    replace h := h r4 rfl
    refine Ev_istore_n (l' := [(1, ev_i r4), (0, ev_r 162)]) dX1_choose_16 rfl (Nat.le_of_ble_eq_true rfl) rfl ?_
    refine Ev_iconst dX1_choose_17 rfl (ev_Rc rfl) ?_
    refine Ev_istore_n (l' := [(2, ev_i 0), (1, ev_i r4), (0, ev_r 162)]) dX1_choose_18 rfl (Nat.le_of_ble_eq_true rfl) rfl ?_
    exact Ev_sub [2, 1, 0] rfl h
  · replace h := h.2 c
    exact Ev_vret rfl dX1_choose_7 h
theorem wp_X1_choose_19 {d : Nat} {s : ev_S} {Q : Option ev_V → ev_S → Prop} {a1 a2 : Int}
    (h : (Ev layX M_X1_full d 0 [(0, ev_r 162)] [] s (ev_pi (fun r2 s1 => ((r2 < a2 → Q none s1) ∧ (a2 ≤ r2 → ((0 ≤ a2 ∧ a2 < (1024 : Nat)) ∧ (((s1 166 (Int.toNat a2)) ≠ a1 → Ev layX M_X1_choose (d + 1) 19 [(0, ev_r 162), (1, ev_i a1), (2, ev_i (ev_add a2 1))] [] s1 Q) ∧ ((s1 166 (Int.toNat a2)) = a1 → (Ev layX M_X1_everybody d 0 [(0, ev_r 162)] [] s1 (ev_pi (fun r4 s3 => (Ev layX M_X1_holds d 0 [(0, ev_r 169), (1, ev_i r4), (2, ev_i a2)] [] s3 (ev_pi (fun r6 s5 => ((r6 = 0 → Ev layX M_X1_choose (d + 1) 19 [(0, ev_r 162), (1, ev_i a1), (2, ev_i (ev_add a2 1))] [] s5 Q) ∧ (r6 ≠ 0 → (Ev layX M_X1_share d 0 [(0, ev_r 162), (1, ev_i a2)] [] s5 (fun _ s7 => (((s7 162 17) = 0 → Ev layX M_X1_choose (d + 1) 71 [(0, ev_r 162), (1, ev_i a1), (2, ev_i a2)] [] s7 Q) ∧ ((s7 162 17) ≠ 0 → (Ev layX M_X1_isEarlier d 0 [(0, ev_r 162)] [] s7 (ev_pi (fun r9 s8 => ((r9 = 0 → (∀ s10, ev_up s8 162 17 1 = s10 → Ev layX M_X1_choose (d + 1) 19 [(0, ev_r 162), (1, ev_i a1), (2, ev_i (ev_add a2 1))] [] s10 Q)) ∧ (r9 ≠ 0 → Ev layX M_X1_choose (d + 1) 71 [(0, ev_r 162), (1, ev_i a1), (2, ev_i a2)] [] s8 Q)))))))))))))))))))))))))) :
    Ev layX M_X1_choose (d + 1) 19 [(0, ev_r 162), (1, ev_i a1), (2, ev_i a2)] [] s Q := by
  refine Ev_iload_n 2 dX1_choose_19 rfl rfl ?_
  refine Ev_aload_n 0 dX1_choose_20 rfl rfl ?_
  refine Ev_callV (As := []) (b := 162) (st := [ev_i a2]) (M' := M_X1_full) cm_X1_full wd_1246 wd_1248 wd_55 yX_162 cl_X1 rfl dX1_choose_21 (Nat.le_refl _) rfl (Nat.le_of_ble_eq_true rfl) (Nat.le_of_ble_eq_true rfl) h (fun v u h hk => ?_)
  obtain ⟨r2, rfl⟩ := hk
  obtain ⟨s1, rfl⟩ : ∃ x, x = u := ⟨_, rfl⟩
  replace h := h r2 rfl
  refine Ev_icmp_gt (tgt := 97) dX1_choose_24 rfl (fun c => ?_) (fun c => ?_)
  · replace h := h.1 c
    exact Ev_vret rfl dX1_choose_97 h
  · replace h := h.2 c
    refine Ev_aload_n 0 dX1_choose_27 rfl rfl ?_
    refine Ev_getR (i := 7) cl_X1 yX_162 (Nat.le_of_ble_eq_true rfl) rfl wd_625 dX1_choose_28 ?_
    refine Ev_iload_n 2 dX1_choose_31 rfl rfl ?_
    obtain ⟨h0, h⟩ := h
    refine Ev_iald yX_166 h0 dX1_choose_32 ?_
    refine Ev_iload_n 1 dX1_choose_33 rfl rfl ?_
    refine Ev_icmp_ne (tgt := 91) dX1_choose_34 rfl (fun c => ?_) (fun c => ?_)
    · replace h := h.1 c
      refine Ev_iinc (j := 2) (l' := [(2, ev_i (ev_add a2 1)), (0, ev_r 162), (1, ev_i a1)]) dX1_choose_91 rfl (Nat.le_of_ble_eq_true rfl) rfl ?_
      refine Ev_goto (tgt := 19) dX1_choose_94 rfl ?_
      exact Ev_sub [1, 2, 0] rfl h
    · replace h := h.2 c
      refine Ev_aload_n 0 dX1_choose_37 rfl rfl ?_
      refine Ev_getR (i := 10) cl_X1 yX_162 (Nat.le_of_ble_eq_true rfl) rfl wd_628 dX1_choose_38 ?_
      refine Ev_aload_n 0 dX1_choose_41 rfl rfl ?_
      refine Ev_callV (As := []) (b := 162) (st := [ev_r 169]) (M' := M_X1_everybody) cm_X1_everybody wd_1230 wd_1232 wd_51 yX_162 cl_X1 rfl dX1_choose_42 (Nat.le_refl _) rfl (Nat.le_of_ble_eq_true rfl) (Nat.le_of_ble_eq_true rfl) h (fun v u h hk => ?_)
      obtain ⟨r4, rfl⟩ := hk
      obtain ⟨s3, rfl⟩ : ∃ x, x = u := ⟨_, rfl⟩
      replace h := h r4 rfl
      refine Ev_iload_n 2 dX1_choose_45 rfl rfl ?_
      refine Ev_callS (As := [ev_r 169, ev_i r4, ev_i a2]) (st := []) (M' := M_X1_holds) cm_X1_holds wd_1211 wd_1212 dX1_choose_46 (Nat.le_refl _) rfl (Nat.le_of_ble_eq_true rfl) (Nat.le_of_ble_eq_true rfl) h (fun v u h hk => ?_)
      obtain ⟨r6, rfl⟩ := hk
      obtain ⟨s5, rfl⟩ : ∃ x, x = u := ⟨_, rfl⟩
      replace h := h r6 rfl
      refine Ev_if_eq (tgt := 91) dX1_choose_49 rfl (fun c => ?_) (fun c => ?_)
      · replace h := h.1 c
        refine Ev_iinc (j := 2) (l' := [(2, ev_i (ev_add a2 1)), (0, ev_r 162), (1, ev_i a1)]) dX1_choose_91 rfl (Nat.le_of_ble_eq_true rfl) rfl ?_
        refine Ev_goto (tgt := 19) dX1_choose_94 rfl ?_
        exact Ev_sub [1, 2, 0] rfl h
      · replace h := h.2 c
        refine Ev_aload_n 0 dX1_choose_52 rfl rfl ?_
        refine Ev_iload_n 2 dX1_choose_53 rfl rfl ?_
        refine Ev_callV (As := [ev_i a2]) (b := 162) (st := []) (M' := M_X1_share) cm_X1_share wd_1314 wd_1316 wd_61 yX_162 cl_X1 rfl dX1_choose_54 (Nat.le_refl _) rfl (Nat.le_of_ble_eq_true rfl) (Nat.le_of_ble_eq_true rfl) h (fun v u h hk => ?_)
        cases hk
        obtain ⟨s7, rfl⟩ : ∃ x, x = u := ⟨_, rfl⟩
        refine Ev_aload_n 0 dX1_choose_57 rfl rfl ?_
        refine Ev_get (i := 17) cl_X1 yX_162 (Nat.le_of_ble_eq_true rfl) rfl wd_635 dX1_choose_58 ?_
        refine Ev_if_eq (tgt := 71) dX1_choose_61 rfl (fun c => ?_) (fun c => ?_)
        · replace h := h.1 c
          exact Ev_sub [0, 1, 2] rfl h
        · replace h := h.2 c
          refine Ev_aload_n 0 dX1_choose_64 rfl rfl ?_
          refine Ev_callV (As := []) (b := 162) (st := []) (M' := M_X1_isEarlier) cm_X1_isEarlier wd_1318 wd_1320 wd_62 yX_162 cl_X1 rfl dX1_choose_65 (Nat.le_refl _) rfl (Nat.le_of_ble_eq_true rfl) (Nat.le_of_ble_eq_true rfl) h (fun v u h hk => ?_)
          obtain ⟨r9, rfl⟩ := hk
          obtain ⟨s8, rfl⟩ : ∃ x, x = u := ⟨_, rfl⟩
          replace h := h r9 rfl
          refine Ev_if_eq (tgt := 86) dX1_choose_68 rfl (fun c => ?_) (fun c => ?_)
          · replace h := h.1 c
            refine Ev_aload_n 0 dX1_choose_86 rfl rfl ?_
            refine Ev_iconst dX1_choose_87 rfl (ev_Rc rfl) ?_
            refine Ev_put (i := 17) (ty := .boolean) cl_X1 yX_162 (Nat.le_of_ble_eq_true rfl) rfl rfl (by decide +kernel) (ev_nb (by decide)) (ev_fb (by decide)) wd_635 dX1_choose_88 (Ev_nm (fun s10 es10 => ?_))
            replace h := h s10 es10
            refine Ev_iinc (j := 2) (l' := [(2, ev_i (ev_add a2 1)), (0, ev_r 162), (1, ev_i a1)]) dX1_choose_91 rfl (Nat.le_of_ble_eq_true rfl) rfl ?_
            refine Ev_goto (tgt := 19) dX1_choose_94 rfl ?_
            exact Ev_sub [1, 2, 0] rfl h
          · replace h := h.2 c
            exact Ev_sub [0, 1, 2] rfl h
theorem wp_X1_choose_71 {d : Nat} {s : ev_S} {Q : Option ev_V → ev_S → Prop} {a1 a2 : Int}
    (h : ((0 ≤ (0 : Int) ∧ 0 ≤ (0 : Int) ∧ 0 ≤ (6 : Int) ∧ (0 : Int) + 6 ≤ (6 : Nat) ∧ (0 : Int) + 6 ≤ (6 : Nat)) ∧ ∀ s1, ev_cp s 175 (Int.toNat 0) 174 (Int.toNat 0) (Int.toNat 6) = s1 → (∀ s2, ev_up s1 162 17 1 = s2 → Ev layX M_X1_choose (d + 1) 19 [(0, ev_r 162), (1, ev_i a1), (2, ev_i (ev_add a2 1))] [] s2 Q))) :
    Ev layX M_X1_choose (d + 1) 71 [(0, ev_r 162), (1, ev_i a1), (2, ev_i a2)] [] s Q := by
  refine Ev_aload_n 0 dX1_choose_71 rfl rfl ?_
  refine Ev_getR (i := 16) cl_X1 yX_162 (Nat.le_of_ble_eq_true rfl) rfl wd_634 dX1_choose_72 ?_
  refine Ev_iconst dX1_choose_75 rfl (ev_Rc rfl) ?_
  refine Ev_aload_n 0 dX1_choose_76 rfl rfl ?_
  refine Ev_getR (i := 15) cl_X1 yX_162 (Nat.le_of_ble_eq_true rfl) rfl wd_633 dX1_choose_77 ?_
  refine Ev_iconst dX1_choose_80 rfl (ev_Rc rfl) ?_
  refine Ev_bipushC dX1_choose_81 rfl ?_
  obtain ⟨h0, h⟩ := h
  refine Ev_copyi yX_175 yX_174 h0 wd_1322 dX1_choose_83 (Nat.le_of_ble_eq_true rfl) (Ev_nm (fun s1 es1 => ?_))
  replace h := h s1 es1
  refine Ev_aload_n 0 dX1_choose_86 rfl rfl ?_
  refine Ev_iconst dX1_choose_87 rfl (ev_Rc rfl) ?_
  refine Ev_put (i := 17) (ty := .boolean) cl_X1 yX_162 (Nat.le_of_ble_eq_true rfl) rfl rfl (by decide +kernel) (ev_nb (by decide)) (ev_fb (by decide)) wd_635 dX1_choose_88 (Ev_nm (fun s2 es2 => ?_))
  replace h := h s2 es2
  refine Ev_iinc (j := 2) (l' := [(2, ev_i (ev_add a2 1)), (0, ev_r 162), (1, ev_i a1)]) dX1_choose_91 rfl (Nat.le_of_ble_eq_true rfl) rfl ?_
  refine Ev_goto (tgt := 19) dX1_choose_94 rfl ?_
  exact Ev_sub [1, 2, 0] rfl h
theorem dX1_share_0 : decode cX1_share 0 = .ok (.iload_n 1, 1) := by decide +kernel
theorem dX1_share_1 : decode cX1_share 1 = .ok (.istore_n 2, 1) := by decide +kernel
theorem dX1_share_2 : decode cX1_share 2 = .ok (.aload_n 0, 1) := by decide +kernel
theorem dX1_share_3 : decode cX1_share 3 = .ok (.invokevirtual 67, 3) := by decide +kernel
theorem dX1_share_6 : decode cX1_share 6 = .ok (.istore_n 3, 1) := by decide +kernel
theorem dX1_share_7 : decode cX1_share 7 = .ok (.iconst 0, 1) := by decide +kernel
theorem dX1_share_8 : decode cX1_share 8 = .ok (.istore 4, 2) := by decide +kernel
theorem dX1_share_10 : decode cX1_share 10 = .ok (.iload 4, 2) := by decide +kernel
theorem dX1_share_12 : decode cX1_share 12 = .ok (.aload_n 0, 1) := by decide +kernel
theorem dX1_share_13 : decode cX1_share 13 = .ok (.getfield 51, 3) := by decide +kernel
theorem dX1_share_16 : decode cX1_share 16 = .ok (.getfield 80, 3) := by decide +kernel
theorem dX1_share_19 : decode cX1_share 19 = .ok (.if_icmp .ge 105, 3) := by decide +kernel
theorem dX1_share_22 : decode cX1_share 22 = .ok (.iload_n 3, 1) := by decide +kernel
theorem dX1_share_23 : decode cX1_share 23 = .ok (.iconst 1, 1) := by decide +kernel
theorem dX1_share_24 : decode cX1_share 24 = .ok (.iload 4, 2) := by decide +kernel
theorem dX1_share_26 : decode cX1_share 26 = .ok (.ishl, 1) := by decide +kernel
theorem dX1_share_27 : decode cX1_share 27 = .ok (.iconst (-1), 1) := by decide +kernel
theorem dX1_share_28 : decode cX1_share 28 = .ok (.ixor, 1) := by decide +kernel
theorem dX1_share_29 : decode cX1_share 29 = .ok (.iand, 1) := by decide +kernel
theorem dX1_share_30 : decode cX1_share 30 = .ok (.istore_n 3, 1) := by decide +kernel
theorem dX1_share_31 : decode cX1_share 31 = .ok (.aload_n 0, 1) := by decide +kernel
theorem dX1_share_32 : decode cX1_share 32 = .ok (.getfield 48, 3) := by decide +kernel
theorem dX1_share_35 : decode cX1_share 35 = .ok (.iload 4, 2) := by decide +kernel
theorem dX1_share_37 : decode cX1_share 37 = .ok (.iconst 0, 1) := by decide +kernel
theorem dX1_share_38 : decode cX1_share 38 = .ok (.iastore, 1) := by decide +kernel
theorem dX1_share_39 : decode cX1_share 39 = .ok (.iconst 0, 1) := by decide +kernel
theorem dX1_share_40 : decode cX1_share 40 = .ok (.istore 5, 2) := by decide +kernel
theorem dX1_share_42 : decode cX1_share 42 = .ok (.iload 5, 2) := by decide +kernel
theorem dX1_share_44 : decode cX1_share 44 = .ok (.iload_n 2, 1) := by decide +kernel
theorem dX1_share_45 : decode cX1_share 45 = .ok (.if_icmp .gt 61, 3) := by decide +kernel
theorem dX1_share_48 : decode cX1_share 48 = .ok (.iload 5, 2) := by decide +kernel
theorem dX1_share_50 : decode cX1_share 50 = .ok (.iload_n 2, 1) := by decide +kernel
theorem dX1_share_51 : decode cX1_share 51 = .ok (.iconst (-1), 1) := by decide +kernel
theorem dX1_share_52 : decode cX1_share 52 = .ok (.ixor, 1) := by decide +kernel
theorem dX1_share_53 : decode cX1_share 53 = .ok (.iand, 1) := by decide +kernel
theorem dX1_share_54 : decode cX1_share 54 = .ok (.ifCond .ne 46, 3) := by decide +kernel
theorem dX1_share_57 : decode cX1_share 57 = .ok (.aload_n 0, 1) := by decide +kernel
theorem dX1_share_58 : decode cX1_share 58 = .ok (.getfield 27, 3) := by decide +kernel
theorem dX1_share_61 : decode cX1_share 61 = .ok (.iload 4, 2) := by decide +kernel
theorem dX1_share_63 : decode cX1_share 63 = .ok (.iload 5, 2) := by decide +kernel
theorem dX1_share_65 : decode cX1_share 65 = .ok (.invokestatic 164, 3) := by decide +kernel
theorem dX1_share_68 : decode cX1_share 68 = .ok (.ifCond .eq 32, 3) := by decide +kernel
theorem dX1_share_71 : decode cX1_share 71 = .ok (.aload_n 0, 1) := by decide +kernel
theorem dX1_share_72 : decode cX1_share 72 = .ok (.getfield 30, 3) := by decide +kernel
theorem dX1_share_75 : decode cX1_share 75 = .ok (.iload_n 3, 1) := by decide +kernel
theorem dX1_share_76 : decode cX1_share 76 = .ok (.iload_n 2, 1) := by decide +kernel
theorem dX1_share_77 : decode cX1_share 77 = .ok (.iload 5, 2) := by decide +kernel
theorem dX1_share_79 : decode cX1_share 79 = .ok (.iconst (-1), 1) := by decide +kernel
theorem dX1_share_80 : decode cX1_share 80 = .ok (.ixor, 1) := by decide +kernel
theorem dX1_share_81 : decode cX1_share 81 = .ok (.iand, 1) := by decide +kernel
theorem dX1_share_82 : decode cX1_share 82 = .ok (.invokestatic 164, 3) := by decide +kernel
theorem dX1_share_85 : decode cX1_share 85 = .ok (.ifCond .eq 15, 3) := by decide +kernel
theorem dX1_share_88 : decode cX1_share 88 = .ok (.aload_n 0, 1) := by decide +kernel
theorem dX1_share_89 : decode cX1_share 89 = .ok (.getfield 48, 3) := by decide +kernel
theorem dX1_share_92 : decode cX1_share 92 = .ok (.iload 4, 2) := by decide +kernel
theorem dX1_share_94 : decode cX1_share 94 = .ok (.iload 5, 2) := by decide +kernel
theorem dX1_share_96 : decode cX1_share 96 = .ok (.iastore, 1) := by decide +kernel
theorem dX1_share_97 : decode cX1_share 97 = .ok (.goto 9, 3) := by decide +kernel
theorem dX1_share_100 : decode cX1_share 100 = .ok (.iinc 5 1, 3) := by decide +kernel
theorem dX1_share_103 : decode cX1_share 103 = .ok (.goto (-61), 3) := by decide +kernel
theorem dX1_share_106 : decode cX1_share 106 = .ok (.iload_n 2, 1) := by decide +kernel
theorem dX1_share_107 : decode cX1_share 107 = .ok (.aload_n 0, 1) := by decide +kernel
theorem dX1_share_108 : decode cX1_share 108 = .ok (.getfield 48, 3) := by decide +kernel
theorem dX1_share_111 : decode cX1_share 111 = .ok (.iload 4, 2) := by decide +kernel
theorem dX1_share_113 : decode cX1_share 113 = .ok (.iaload, 1) := by decide +kernel
theorem dX1_share_114 : decode cX1_share 114 = .ok (.iconst (-1), 1) := by decide +kernel
theorem dX1_share_115 : decode cX1_share 115 = .ok (.ixor, 1) := by decide +kernel
theorem dX1_share_116 : decode cX1_share 116 = .ok (.iand, 1) := by decide +kernel
theorem dX1_share_117 : decode cX1_share 117 = .ok (.istore_n 2, 1) := by decide +kernel
theorem dX1_share_118 : decode cX1_share 118 = .ok (.iinc 4 1, 3) := by decide +kernel
theorem dX1_share_121 : decode cX1_share 121 = .ok (.goto (-111), 3) := by decide +kernel
theorem dX1_share_124 : decode cX1_share 124 = .ok (.return_, 1) := by decide +kernel
theorem wp_X1_share_0 {d : Nat} {s : ev_S} {Q : Option ev_V → ev_S → Prop} {a1 : Int}
    (h : (Ev layX M_X1_everybody d 0 [(0, ev_r 162)] [] s (ev_pi (fun r2 s1 => Ev layX M_X1_share (d + 1) 10 [(0, ev_r 162), (2, ev_i a1), (3, ev_i r2), (4, ev_i 0)] [] s1 Q)))) :
    Ev layX M_X1_share (d + 1) 0 [(0, ev_r 162), (1, ev_i a1)] [] s Q := by
  refine Ev_iload_n 1 dX1_share_0 rfl rfl ?_
  refine Ev_istore_n (l' := [(2, ev_i a1), (0, ev_r 162), (1, ev_i a1)]) dX1_share_1 rfl (Nat.le_of_ble_eq_true rfl) rfl ?_
  refine Ev_aload_n 1 dX1_share_2 rfl rfl ?_
  refine Ev_callV (As := []) (b := 162) (st := []) (M' := M_X1_everybody) cm_X1_everybody wd_1230 wd_1232 wd_51 yX_162 cl_X1 rfl dX1_share_3 (Nat.le_refl _) rfl (Nat.le_of_ble_eq_true rfl) (Nat.le_of_ble_eq_true rfl) h (fun v u h hk => ?_)
  obtain ⟨r2, rfl⟩ := hk
  obtain ⟨s1, rfl⟩ : ∃ x, x = u := ⟨_, rfl⟩
  replace h := h r2 rfl
  refine Ev_istore_n (l' := [(3, ev_i r2), (2, ev_i a1), (0, ev_r 162), (1, ev_i a1)]) dX1_share_6 rfl (Nat.le_of_ble_eq_true rfl) rfl ?_
  refine Ev_iconst dX1_share_7 rfl (ev_Rc rfl) ?_
  refine Ev_istore (l' := [(4, ev_i 0), (3, ev_i r2), (2, ev_i a1), (0, ev_r 162), (1, ev_i a1)]) dX1_share_8 (Nat.le_of_ble_eq_true rfl) rfl ?_
  exact Ev_sub [3, 2, 1, 0] rfl h
theorem wp_X1_share_10 {d : Nat} {s : ev_S} {Q : Option ev_V → ev_S → Prop} {a2 a3 a4 : Int}
    (h : (((s 1 7) ≤ a4 → Q none s) ∧ (a4 < (s 1 7) → ((0 ≤ a4 ∧ a4 < (6 : Nat)) ∧ ∀ s1, ev_up s 175 (Int.toNat a4) 0 = s1 → Ev layX M_X1_share (d + 1) 42 [(0, ev_r 162), (2, ev_i a2), (3, ev_i (ev_and a3 (ev_xor (ev_shl 1 a4) (-1)))), (4, ev_i a4), (5, ev_i 0)] [] s1 Q)))) :
    Ev layX M_X1_share (d + 1) 10 [(0, ev_r 162), (2, ev_i a2), (3, ev_i a3), (4, ev_i a4)] [] s Q := by
  refine Ev_iload 3 dX1_share_10 rfl ?_
  refine Ev_aload_n 0 dX1_share_12 rfl rfl ?_
  refine Ev_getR (i := 0) cl_X1 yX_162 (Nat.le_of_ble_eq_true rfl) rfl wd_618 dX1_share_13 ?_
  refine Ev_get (i := 7) cl_X10 yX_1 (Nat.le_of_ble_eq_true rfl) rfl wd_265 dX1_share_16 ?_
  refine Ev_icmp_ge (tgt := 124) dX1_share_19 rfl (fun c => ?_) (fun c => ?_)
  · replace h := h.1 c
    exact Ev_vret rfl dX1_share_124 h
  · replace h := h.2 c
    refine Ev_iload_n 2 dX1_share_22 rfl rfl ?_
    refine Ev_iconst dX1_share_23 rfl (ev_Rc rfl) ?_
    refine Ev_iload 3 dX1_share_24 rfl ?_
    refine Ev_ishl dX1_share_26 ?_
    refine Ev_iconst dX1_share_27 rfl (ev_Rc rfl) ?_
    refine Ev_ixor dX1_share_28 ?_
    refine Ev_iand dX1_share_29 ?_
    refine Ev_istore_n (l' := [(3, ev_i (ev_and a3 (ev_xor (ev_shl 1 a4) (-1)))), (0, ev_r 162), (2, ev_i a2), (4, ev_i a4)]) dX1_share_30 rfl (Nat.le_of_ble_eq_true rfl) rfl ?_
    refine Ev_aload_n 1 dX1_share_31 rfl rfl ?_
    refine Ev_getR (i := 16) cl_X1 yX_162 (Nat.le_of_ble_eq_true rfl) rfl wd_634 dX1_share_32 ?_
    refine Ev_iload 3 dX1_share_35 rfl ?_
    refine Ev_iconst dX1_share_37 rfl (ev_Rc rfl) ?_
    obtain ⟨h0, h⟩ := h
    refine Ev_iast yX_175 h0 dX1_share_38 (Ev_nm (fun s1 es1 => ?_))
    replace h := h s1 es1
    refine Ev_iconst dX1_share_39 rfl (ev_Rc rfl) ?_
    refine Ev_istore (l' := [(5, ev_i 0), (3, ev_i (ev_and a3 (ev_xor (ev_shl 1 a4) (-1)))), (0, ev_r 162), (2, ev_i a2), (4, ev_i a4)]) dX1_share_40 (Nat.le_of_ble_eq_true rfl) rfl ?_
    exact Ev_sub [2, 3, 1, 4, 0] rfl h
theorem wp_X1_share_42 {d : Nat} {s : ev_S} {Q : Option ev_V → ev_S → Prop} {a2 a3 a4 a5 : Int}
    (h : ((a2 < a5 → Ev layX M_X1_share (d + 1) 106 [(0, ev_r 162), (2, ev_i a2), (3, ev_i a3), (4, ev_i a4)] [] s Q) ∧ (a5 ≤ a2 → (((ev_and a5 (ev_xor a2 (-1))) ≠ 0 → Ev layX M_X1_share (d + 1) 42 [(0, ev_r 162), (2, ev_i a2), (3, ev_i a3), (4, ev_i a4), (5, ev_i (ev_add a5 1))] [] s Q) ∧ ((ev_and a5 (ev_xor a2 (-1))) = 0 → (Ev layX M_X1_holds d 0 [(0, ev_r 168), (1, ev_i a4), (2, ev_i a5)] [] s (ev_pi (fun r2 s1 => ((r2 = 0 → Ev layX M_X1_share (d + 1) 42 [(0, ev_r 162), (2, ev_i a2), (3, ev_i a3), (4, ev_i a4), (5, ev_i (ev_add a5 1))] [] s1 Q) ∧ (r2 ≠ 0 → (Ev layX M_X1_holds d 0 [(0, ev_r 169), (1, ev_i a3), (2, ev_i (ev_and a2 (ev_xor a5 (-1))))] [] s1 (ev_pi (fun r4 s3 => ((r4 = 0 → Ev layX M_X1_share (d + 1) 42 [(0, ev_r 162), (2, ev_i a2), (3, ev_i a3), (4, ev_i a4), (5, ev_i (ev_add a5 1))] [] s3 Q) ∧ (r4 ≠ 0 → ((0 ≤ a4 ∧ a4 < (6 : Nat)) ∧ ∀ s5, ev_up s3 175 (Int.toNat a4) a5 = s5 → Ev layX M_X1_share (d + 1) 106 [(0, ev_r 162), (2, ev_i a2), (3, ev_i a3), (4, ev_i a4)] [] s5 Q)))))))))))))))) :
    Ev layX M_X1_share (d + 1) 42 [(0, ev_r 162), (2, ev_i a2), (3, ev_i a3), (4, ev_i a4), (5, ev_i a5)] [] s Q := by
  refine Ev_iload 4 dX1_share_42 rfl ?_
  refine Ev_iload_n 1 dX1_share_44 rfl rfl ?_
  refine Ev_icmp_gt (tgt := 106) dX1_share_45 rfl (fun c => ?_) (fun c => ?_)
  · replace h := h.1 c
    exact Ev_sub [0, 1, 2, 3] rfl h
  · replace h := h.2 c
    refine Ev_iload 4 dX1_share_48 rfl ?_
    refine Ev_iload_n 1 dX1_share_50 rfl rfl ?_
    refine Ev_iconst dX1_share_51 rfl (ev_Rc rfl) ?_
    refine Ev_ixor dX1_share_52 ?_
    refine Ev_iand dX1_share_53 ?_
    refine Ev_if_ne (tgt := 100) dX1_share_54 rfl (fun c => ?_) (fun c => ?_)
    · replace h := h.1 c
      refine Ev_iinc (j := 4) (l' := [(5, ev_i (ev_add a5 1)), (0, ev_r 162), (2, ev_i a2), (3, ev_i a3), (4, ev_i a4)]) dX1_share_100 rfl (Nat.le_of_ble_eq_true rfl) rfl ?_
      refine Ev_goto (tgt := 42) dX1_share_103 rfl ?_
      exact Ev_sub [1, 2, 3, 4, 0] rfl h
    · replace h := h.2 c
      refine Ev_aload_n 0 dX1_share_57 rfl rfl ?_
      refine Ev_getR (i := 9) cl_X1 yX_162 (Nat.le_of_ble_eq_true rfl) rfl wd_627 dX1_share_58 ?_
      refine Ev_iload 3 dX1_share_61 rfl ?_
      refine Ev_iload 4 dX1_share_63 rfl ?_
      refine Ev_callS (As := [ev_r 168, ev_i a4, ev_i a5]) (st := []) (M' := M_X1_holds) cm_X1_holds wd_1211 wd_1212 dX1_share_65 (Nat.le_refl _) rfl (Nat.le_of_ble_eq_true rfl) (Nat.le_of_ble_eq_true rfl) h (fun v u h hk => ?_)
      obtain ⟨r2, rfl⟩ := hk
      obtain ⟨s1, rfl⟩ : ∃ x, x = u := ⟨_, rfl⟩
      replace h := h r2 rfl
      refine Ev_if_eq (tgt := 100) dX1_share_68 rfl (fun c => ?_) (fun c => ?_)
      · replace h := h.1 c
        refine Ev_iinc (j := 4) (l' := [(5, ev_i (ev_add a5 1)), (0, ev_r 162), (2, ev_i a2), (3, ev_i a3), (4, ev_i a4)]) dX1_share_100 rfl (Nat.le_of_ble_eq_true rfl) rfl ?_
        refine Ev_goto (tgt := 42) dX1_share_103 rfl ?_
        exact Ev_sub [1, 2, 3, 4, 0] rfl h
      · replace h := h.2 c
        refine Ev_aload_n 0 dX1_share_71 rfl rfl ?_
        refine Ev_getR (i := 10) cl_X1 yX_162 (Nat.le_of_ble_eq_true rfl) rfl wd_628 dX1_share_72 ?_
        refine Ev_iload_n 2 dX1_share_75 rfl rfl ?_
        refine Ev_iload_n 1 dX1_share_76 rfl rfl ?_
        refine Ev_iload 4 dX1_share_77 rfl ?_
        refine Ev_iconst dX1_share_79 rfl (ev_Rc rfl) ?_
        refine Ev_ixor dX1_share_80 ?_
        refine Ev_iand dX1_share_81 ?_
        refine Ev_callS (As := [ev_r 169, ev_i a3, ev_i (ev_and a2 (ev_xor a5 (-1)))]) (st := []) (M' := M_X1_holds) cm_X1_holds wd_1211 wd_1212 dX1_share_82 (Nat.le_refl _) rfl (Nat.le_of_ble_eq_true rfl) (Nat.le_of_ble_eq_true rfl) h (fun v u h hk => ?_)
        obtain ⟨r4, rfl⟩ := hk
        obtain ⟨s3, rfl⟩ : ∃ x, x = u := ⟨_, rfl⟩
        replace h := h r4 rfl
        refine Ev_if_eq (tgt := 100) dX1_share_85 rfl (fun c => ?_) (fun c => ?_)
        · replace h := h.1 c
          refine Ev_iinc (j := 4) (l' := [(5, ev_i (ev_add a5 1)), (0, ev_r 162), (2, ev_i a2), (3, ev_i a3), (4, ev_i a4)]) dX1_share_100 rfl (Nat.le_of_ble_eq_true rfl) rfl ?_
          refine Ev_goto (tgt := 42) dX1_share_103 rfl ?_
          exact Ev_sub [1, 2, 3, 4, 0] rfl h
        · replace h := h.2 c
          refine Ev_aload_n 0 dX1_share_88 rfl rfl ?_
          refine Ev_getR (i := 16) cl_X1 yX_162 (Nat.le_of_ble_eq_true rfl) rfl wd_634 dX1_share_89 ?_
          refine Ev_iload 3 dX1_share_92 rfl ?_
          refine Ev_iload 4 dX1_share_94 rfl ?_
          obtain ⟨h0, h⟩ := h
          refine Ev_iast yX_175 h0 dX1_share_96 (Ev_nm (fun s5 es5 => ?_))
          replace h := h s5 es5
          refine Ev_goto (tgt := 106) dX1_share_97 rfl ?_
          exact Ev_sub [0, 1, 2, 3] rfl h
theorem wp_X1_share_106 {d : Nat} {s : ev_S} {Q : Option ev_V → ev_S → Prop} {a2 a3 a4 : Int}
    (h : ((0 ≤ a4 ∧ a4 < (6 : Nat)) ∧ Ev layX M_X1_share (d + 1) 10 [(0, ev_r 162), (2, ev_i (ev_and a2 (ev_xor (s 175 (Int.toNat a4)) (-1)))), (3, ev_i a3), (4, ev_i (ev_add a4 1))] [] s Q)) :
    Ev layX M_X1_share (d + 1) 106 [(0, ev_r 162), (2, ev_i a2), (3, ev_i a3), (4, ev_i a4)] [] s Q := by
  refine Ev_iload_n 1 dX1_share_106 rfl rfl ?_
  refine Ev_aload_n 0 dX1_share_107 rfl rfl ?_
  refine Ev_getR (i := 16) cl_X1 yX_162 (Nat.le_of_ble_eq_true rfl) rfl wd_634 dX1_share_108 ?_
  refine Ev_iload 3 dX1_share_111 rfl ?_
  obtain ⟨h0, h⟩ := h
  refine Ev_iald yX_175 h0 dX1_share_113 ?_
  refine Ev_iconst dX1_share_114 rfl (ev_Rc rfl) ?_
  refine Ev_ixor dX1_share_115 ?_
  refine Ev_iand dX1_share_116 ?_
  refine Ev_istore_n (l' := [(2, ev_i (ev_and a2 (ev_xor (s 175 (Int.toNat a4)) (-1)))), (0, ev_r 162), (3, ev_i a3), (4, ev_i a4)]) dX1_share_117 rfl (Nat.le_of_ble_eq_true rfl) rfl ?_
  refine Ev_iinc (j := 3) (l' := [(4, ev_i (ev_add a4 1)), (2, ev_i (ev_and a2 (ev_xor (s 175 (Int.toNat a4)) (-1)))), (0, ev_r 162), (3, ev_i a3)]) dX1_share_118 rfl (Nat.le_of_ble_eq_true rfl) rfl ?_
  refine Ev_goto (tgt := 10) dX1_share_121 rfl ?_
  exact Ev_sub [2, 1, 3, 0] rfl h
theorem dX1_isEarlier_0 : decode cX1_isEarlier 0 = .ok (.iconst 0, 1) := by decide +kernel
theorem dX1_isEarlier_1 : decode cX1_isEarlier 1 = .ok (.istore_n 1, 1) := by decide +kernel
theorem dX1_isEarlier_2 : decode cX1_isEarlier 2 = .ok (.iload_n 1, 1) := by decide +kernel
theorem dX1_isEarlier_3 : decode cX1_isEarlier 3 = .ok (.aload_n 0, 1) := by decide +kernel
theorem dX1_isEarlier_4 : decode cX1_isEarlier 4 = .ok (.getfield 51, 3) := by decide +kernel
theorem dX1_isEarlier_7 : decode cX1_isEarlier 7 = .ok (.getfield 80, 3) := by decide +kernel
theorem dX1_isEarlier_10 : decode cX1_isEarlier 10 = .ok (.if_icmp .ge 45, 3) := by decide +kernel
theorem dX1_isEarlier_13 : decode cX1_isEarlier 13 = .ok (.aload_n 0, 1) := by decide +kernel
theorem dX1_isEarlier_14 : decode cX1_isEarlier 14 = .ok (.getfield 48, 3) := by decide +kernel
theorem dX1_isEarlier_17 : decode cX1_isEarlier 17 = .ok (.iload_n 1, 1) := by decide +kernel
theorem dX1_isEarlier_18 : decode cX1_isEarlier 18 = .ok (.iaload, 1) := by decide +kernel
theorem dX1_isEarlier_19 : decode cX1_isEarlier 19 = .ok (.aload_n 0, 1) := by decide +kernel
theorem dX1_isEarlier_20 : decode cX1_isEarlier 20 = .ok (.getfield 45, 3) := by decide +kernel
theorem dX1_isEarlier_23 : decode cX1_isEarlier 23 = .ok (.iload_n 1, 1) := by decide +kernel
theorem dX1_isEarlier_24 : decode cX1_isEarlier 24 = .ok (.iaload, 1) := by decide +kernel
theorem dX1_isEarlier_25 : decode cX1_isEarlier 25 = .ok (.if_icmp .eq 24, 3) := by decide +kernel
theorem dX1_isEarlier_28 : decode cX1_isEarlier 28 = .ok (.aload_n 0, 1) := by decide +kernel
theorem dX1_isEarlier_29 : decode cX1_isEarlier 29 = .ok (.getfield 48, 3) := by decide +kernel
theorem dX1_isEarlier_32 : decode cX1_isEarlier 32 = .ok (.iload_n 1, 1) := by decide +kernel
theorem dX1_isEarlier_33 : decode cX1_isEarlier 33 = .ok (.iaload, 1) := by decide +kernel
theorem dX1_isEarlier_34 : decode cX1_isEarlier 34 = .ok (.aload_n 0, 1) := by decide +kernel
theorem dX1_isEarlier_35 : decode cX1_isEarlier 35 = .ok (.getfield 45, 3) := by decide +kernel
theorem dX1_isEarlier_38 : decode cX1_isEarlier 38 = .ok (.iload_n 1, 1) := by decide +kernel
theorem dX1_isEarlier_39 : decode cX1_isEarlier 39 = .ok (.iaload, 1) := by decide +kernel
theorem dX1_isEarlier_40 : decode cX1_isEarlier 40 = .ok (.if_icmp .ge 7, 3) := by decide +kernel
theorem dX1_isEarlier_43 : decode cX1_isEarlier 43 = .ok (.iconst 1, 1) := by decide +kernel
theorem dX1_isEarlier_44 : decode cX1_isEarlier 44 = .ok (.goto 4, 3) := by decide +kernel
theorem dX1_isEarlier_47 : decode cX1_isEarlier 47 = .ok (.iconst 0, 1) := by decide +kernel
theorem dX1_isEarlier_48 : decode cX1_isEarlier 48 = .ok (.ireturn, 1) := by decide +kernel
theorem dX1_isEarlier_49 : decode cX1_isEarlier 49 = .ok (.iinc 1 1, 3) := by decide +kernel
theorem dX1_isEarlier_52 : decode cX1_isEarlier 52 = .ok (.goto (-50), 3) := by decide +kernel
theorem dX1_isEarlier_55 : decode cX1_isEarlier 55 = .ok (.iconst 0, 1) := by decide +kernel
theorem dX1_isEarlier_56 : decode cX1_isEarlier 56 = .ok (.ireturn, 1) := by decide +kernel
theorem wp_X1_isEarlier_0 {d : Nat} {s : ev_S} {Q : Option ev_V → ev_S → Prop}
    (h : Ev layX M_X1_isEarlier d 2 [(0, ev_r 162), (1, ev_i 0)] [] s Q) :
    Ev layX M_X1_isEarlier d 0 [(0, ev_r 162)] [] s Q := by
  refine Ev_iconst dX1_isEarlier_0 rfl (ev_Rc rfl) ?_
  refine Ev_istore_n (l' := [(1, ev_i 0), (0, ev_r 162)]) dX1_isEarlier_1 rfl (Nat.le_of_ble_eq_true rfl) rfl ?_
  exact Ev_sub [1, 0] rfl h
theorem wp_X1_isEarlier_2 {d : Nat} {s : ev_S} {Q : Option ev_V → ev_S → Prop} {a1 : Int}
    (h : (((s 1 7) ≤ a1 → Q (some (ev_i 0)) s) ∧ (a1 < (s 1 7) → ((0 ≤ a1 ∧ a1 < (6 : Nat)) ∧ ((0 ≤ a1 ∧ a1 < (6 : Nat)) ∧ (((s 175 (Int.toNat a1)) = (s 174 (Int.toNat a1)) → Ev layX M_X1_isEarlier d 2 [(0, ev_r 162), (1, ev_i (ev_add a1 1))] [] s Q) ∧ ((s 175 (Int.toNat a1)) ≠ (s 174 (Int.toNat a1)) → ((0 ≤ a1 ∧ a1 < (6 : Nat)) ∧ ((0 ≤ a1 ∧ a1 < (6 : Nat)) ∧ (((s 174 (Int.toNat a1)) ≤ (s 175 (Int.toNat a1)) → Q (some (ev_i 0)) s) ∧ ((s 175 (Int.toNat a1)) < (s 174 (Int.toNat a1)) → Q (some (ev_i 1)) s))))))))))) :
    Ev layX M_X1_isEarlier d 2 [(0, ev_r 162), (1, ev_i a1)] [] s Q := by
  refine Ev_iload_n 1 dX1_isEarlier_2 rfl rfl ?_
  refine Ev_aload_n 0 dX1_isEarlier_3 rfl rfl ?_
  refine Ev_getR (i := 0) cl_X1 yX_162 (Nat.le_of_ble_eq_true rfl) rfl wd_618 dX1_isEarlier_4 ?_
  refine Ev_get (i := 7) cl_X10 yX_1 (Nat.le_of_ble_eq_true rfl) rfl wd_265 dX1_isEarlier_7 ?_
  refine Ev_icmp_ge (tgt := 55) dX1_isEarlier_10 rfl (fun c => ?_) (fun c => ?_)
  · replace h := h.1 c
    refine Ev_iconst dX1_isEarlier_55 rfl (ev_Rc rfl) ?_
    exact Ev_iret rfl dX1_isEarlier_56 (ev_nb (by decide)) h
  · replace h := h.2 c
    refine Ev_aload_n 0 dX1_isEarlier_13 rfl rfl ?_
    refine Ev_getR (i := 16) cl_X1 yX_162 (Nat.le_of_ble_eq_true rfl) rfl wd_634 dX1_isEarlier_14 ?_
    refine Ev_iload_n 1 dX1_isEarlier_17 rfl rfl ?_
    obtain ⟨h0, h⟩ := h
    refine Ev_iald yX_175 h0 dX1_isEarlier_18 ?_
    refine Ev_aload_n 0 dX1_isEarlier_19 rfl rfl ?_
    refine Ev_getR (i := 15) cl_X1 yX_162 (Nat.le_of_ble_eq_true rfl) rfl wd_633 dX1_isEarlier_20 ?_
    refine Ev_iload_n 1 dX1_isEarlier_23 rfl rfl ?_
    obtain ⟨h0, h⟩ := h
    refine Ev_iald yX_174 h0 dX1_isEarlier_24 ?_
    refine Ev_icmp_eq (tgt := 49) dX1_isEarlier_25 rfl (fun c => ?_) (fun c => ?_)
    · replace h := h.1 c
      refine Ev_iinc (j := 1) (l' := [(1, ev_i (ev_add a1 1)), (0, ev_r 162)]) dX1_isEarlier_49 rfl (Nat.le_of_ble_eq_true rfl) rfl ?_
      refine Ev_goto (tgt := 2) dX1_isEarlier_52 rfl ?_
      exact Ev_sub [1, 0] rfl h
    · replace h := h.2 c
      refine Ev_aload_n 0 dX1_isEarlier_28 rfl rfl ?_
      refine Ev_getR (i := 16) cl_X1 yX_162 (Nat.le_of_ble_eq_true rfl) rfl wd_634 dX1_isEarlier_29 ?_
      refine Ev_iload_n 1 dX1_isEarlier_32 rfl rfl ?_
      obtain ⟨h0, h⟩ := h
      refine Ev_iald yX_175 h0 dX1_isEarlier_33 ?_
      refine Ev_aload_n 0 dX1_isEarlier_34 rfl rfl ?_
      refine Ev_getR (i := 15) cl_X1 yX_162 (Nat.le_of_ble_eq_true rfl) rfl wd_633 dX1_isEarlier_35 ?_
      refine Ev_iload_n 1 dX1_isEarlier_38 rfl rfl ?_
      obtain ⟨h0, h⟩ := h
      refine Ev_iald yX_174 h0 dX1_isEarlier_39 ?_
      refine Ev_icmp_ge (tgt := 47) dX1_isEarlier_40 rfl (fun c => ?_) (fun c => ?_)
      · replace h := h.1 c
        refine Ev_iconst dX1_isEarlier_47 rfl (ev_Rc rfl) ?_
        exact Ev_iret rfl dX1_isEarlier_48 (ev_nb (by decide)) h
      · replace h := h.2 c
        refine Ev_iconst dX1_isEarlier_43 rfl (ev_Rc rfl) ?_
        refine Ev_goto (tgt := 48) dX1_isEarlier_44 rfl ?_
        exact Ev_iret rfl dX1_isEarlier_48 (ev_nb (by decide)) h
