theorem dX4_clear_0 : decode cX4_clear 0 = .ok (.aload_n 0, 1) := by decide +kernel
theorem dX4_clear_1 : decode cX4_clear 1 = .ok (.iconst 0, 1) := by decide +kernel
theorem dX4_clear_2 : decode cX4_clear 2 = .ok (.putfield 24, 3) := by decide +kernel
theorem dX4_clear_5 : decode cX4_clear 5 = .ok (.aload_n 0, 1) := by decide +kernel
theorem dX4_clear_6 : decode cX4_clear 6 = .ok (.iconst 0, 1) := by decide +kernel
theorem dX4_clear_7 : decode cX4_clear 7 = .ok (.putfield 28, 3) := by decide +kernel
theorem dX4_clear_10 : decode cX4_clear 10 = .ok (.return_, 1) := by decide +kernel
theorem wp_X4_clear_0 {d : Nat} {k : Nat} (hk : is_X4 k) {s : ev_S} {Q : Option ev_V → ev_S → Prop}
    (h : (∀ s1, ev_up s k 4 0 = s1 → (∀ s2, ev_up s1 k 5 0 = s2 → Q none s2))) :
    Ev layX M_X4_clear d 0 [(0, ev_r k)] [] s Q := by
  refine Ev_aload_n 0 dX4_clear_0 rfl rfl ?_
  refine Ev_iconst dX4_clear_1 rfl (ev_Rc rfl) ?_
  refine Ev_put (i := 4) (ty := .int) cl_X4 hk.1 (Nat.le_of_ble_eq_true rfl) rfl rfl (by decide +kernel) rfl rfl wd_221 dX4_clear_2 (Ev_nm (fun s1 es1 => ?_))
  replace h := h s1 es1
  refine Ev_aload_n 0 dX4_clear_5 rfl rfl ?_
  refine Ev_iconst dX4_clear_6 rfl (ev_Rc rfl) ?_
  refine Ev_put (i := 5) (ty := .int) cl_X4 hk.1 (Nat.le_of_ble_eq_true rfl) rfl rfl (by decide +kernel) rfl rfl wd_222 dX4_clear_7 (Ev_nm (fun s2 es2 => ?_))
  replace h := h s2 es2
  exact Ev_vret rfl dX4_clear_10 h
theorem dX4_copyFrom_0 : decode cX4_copyFrom 0 = .ok (.aload_n 1, 1) := by decide +kernel
theorem dX4_copyFrom_1 : decode cX4_copyFrom 1 = .ok (.getfield 11, 3) := by decide +kernel
theorem dX4_copyFrom_4 : decode cX4_copyFrom 4 = .ok (.iconst 0, 1) := by decide +kernel
theorem dX4_copyFrom_5 : decode cX4_copyFrom 5 = .ok (.aload_n 0, 1) := by decide +kernel
theorem dX4_copyFrom_6 : decode cX4_copyFrom 6 = .ok (.getfield 11, 3) := by decide +kernel
theorem dX4_copyFrom_9 : decode cX4_copyFrom 9 = .ok (.iconst 0, 1) := by decide +kernel
theorem dX4_copyFrom_10 : decode cX4_copyFrom 10 = .ok (.sipush 800, 3) := by decide +kernel
theorem dX4_copyFrom_13 : decode cX4_copyFrom 13 = .ok (.invokestatic 31, 3) := by decide +kernel
theorem dX4_copyFrom_16 : decode cX4_copyFrom 16 = .ok (.aload_n 1, 1) := by decide +kernel
theorem dX4_copyFrom_17 : decode cX4_copyFrom 17 = .ok (.getfield 15, 3) := by decide +kernel
theorem dX4_copyFrom_20 : decode cX4_copyFrom 20 = .ok (.iconst 0, 1) := by decide +kernel
theorem dX4_copyFrom_21 : decode cX4_copyFrom 21 = .ok (.aload_n 0, 1) := by decide +kernel
theorem dX4_copyFrom_22 : decode cX4_copyFrom 22 = .ok (.getfield 15, 3) := by decide +kernel
theorem dX4_copyFrom_25 : decode cX4_copyFrom 25 = .ok (.iconst 0, 1) := by decide +kernel
theorem dX4_copyFrom_26 : decode cX4_copyFrom 26 = .ok (.bipush 17, 2) := by decide +kernel
theorem dX4_copyFrom_28 : decode cX4_copyFrom 28 = .ok (.invokestatic 31, 3) := by decide +kernel
theorem dX4_copyFrom_31 : decode cX4_copyFrom 31 = .ok (.aload_n 1, 1) := by decide +kernel
theorem dX4_copyFrom_32 : decode cX4_copyFrom 32 = .ok (.getfield 18, 3) := by decide +kernel
theorem dX4_copyFrom_35 : decode cX4_copyFrom 35 = .ok (.iconst 0, 1) := by decide +kernel
theorem dX4_copyFrom_36 : decode cX4_copyFrom 36 = .ok (.aload_n 0, 1) := by decide +kernel
theorem dX4_copyFrom_37 : decode cX4_copyFrom 37 = .ok (.getfield 18, 3) := by decide +kernel
theorem dX4_copyFrom_40 : decode cX4_copyFrom 40 = .ok (.iconst 0, 1) := by decide +kernel
theorem dX4_copyFrom_41 : decode cX4_copyFrom 41 = .ok (.bipush 16, 2) := by decide +kernel
theorem dX4_copyFrom_43 : decode cX4_copyFrom 43 = .ok (.invokestatic 31, 3) := by decide +kernel
theorem dX4_copyFrom_46 : decode cX4_copyFrom 46 = .ok (.aload_n 0, 1) := by decide +kernel
theorem dX4_copyFrom_47 : decode cX4_copyFrom 47 = .ok (.aload_n 1, 1) := by decide +kernel
theorem dX4_copyFrom_48 : decode cX4_copyFrom 48 = .ok (.getfield 24, 3) := by decide +kernel
theorem dX4_copyFrom_51 : decode cX4_copyFrom 51 = .ok (.putfield 24, 3) := by decide +kernel
theorem dX4_copyFrom_54 : decode cX4_copyFrom 54 = .ok (.aload_n 0, 1) := by decide +kernel
theorem dX4_copyFrom_55 : decode cX4_copyFrom 55 = .ok (.aload_n 1, 1) := by decide +kernel
theorem dX4_copyFrom_56 : decode cX4_copyFrom 56 = .ok (.getfield 28, 3) := by decide +kernel
theorem dX4_copyFrom_59 : decode cX4_copyFrom 59 = .ok (.putfield 28, 3) := by decide +kernel
theorem dX4_copyFrom_62 : decode cX4_copyFrom 62 = .ok (.return_, 1) := by decide +kernel
theorem wp_X4_copyFrom_0 {d : Nat} {k : Nat} (hk : is_X4 k) {k1 : Nat} (hk1 : is_X4 k1) {s : ev_S} {Q : Option ev_V → ev_S → Prop}
    (h : ((0 ≤ (0 : Int) ∧ 0 ≤ (0 : Int) ∧ 0 ≤ (800 : Int) ∧ (0 : Int) + 800 ≤ (800 : Nat) ∧ (0 : Int) + 800 ≤ (800 : Nat)) ∧ ∀ s1, ev_cp s (k1 + 1) (Int.toNat 0) (k + 1) (Int.toNat 0) (Int.toNat 800) = s1 → ((0 ≤ (0 : Int) ∧ 0 ≤ (0 : Int) ∧ 0 ≤ (17 : Int) ∧ (0 : Int) + 17 ≤ (17 : Nat) ∧ (0 : Int) + 17 ≤ (17 : Nat)) ∧ ∀ s2, ev_cp s1 (k1 + 2) (Int.toNat 0) (k + 2) (Int.toNat 0) (Int.toNat 17) = s2 → ((0 ≤ (0 : Int) ∧ 0 ≤ (0 : Int) ∧ 0 ≤ (16 : Int) ∧ (0 : Int) + 16 ≤ (16 : Nat) ∧ (0 : Int) + 16 ≤ (16 : Nat)) ∧ ∀ s3, ev_cp s2 (k1 + 3) (Int.toNat 0) (k + 3) (Int.toNat 0) (Int.toNat 16) = s3 → (∀ s4, ev_up s3 k 4 (s3 k1 4) = s4 → (∀ s5, ev_up s4 k 5 (s4 k1 5) = s5 → Q none s5)))))) :
    Ev layX M_X4_copyFrom (d + 1) 0 [(0, ev_r k), (1, ev_r k1)] [] s Q := by
  refine Ev_aload_n 1 dX4_copyFrom_0 rfl rfl ?_
  refine Ev_getR (i := 0) cl_X4 hk1.1 (Nat.le_of_ble_eq_true rfl) rfl wd_217 dX4_copyFrom_1 ?_
  refine Ev_iconst dX4_copyFrom_4 rfl (ev_Rc rfl) ?_
  refine Ev_aload_n 0 dX4_copyFrom_5 rfl rfl ?_
  refine Ev_getR (i := 0) cl_X4 hk.1 (Nat.le_of_ble_eq_true rfl) rfl wd_217 dX4_copyFrom_6 ?_
  refine Ev_iconst dX4_copyFrom_9 rfl (ev_Rc rfl) ?_
  refine Ev_sipushC dX4_copyFrom_10 rfl ?_
  obtain ⟨h0, h⟩ := h
  refine Ev_copyi hk1.2.1 hk.2.1 h0 wd_1045 dX4_copyFrom_13 (Nat.le_of_ble_eq_true rfl) (Ev_nm (fun s1 es1 => ?_))
  replace h := h s1 es1
  refine Ev_aload_n 1 dX4_copyFrom_16 rfl rfl ?_
  refine Ev_getR (i := 1) cl_X4 hk1.1 (Nat.le_of_ble_eq_true rfl) rfl wd_218 dX4_copyFrom_17 ?_
  refine Ev_iconst dX4_copyFrom_20 rfl (ev_Rc rfl) ?_
  refine Ev_aload_n 0 dX4_copyFrom_21 rfl rfl ?_
  refine Ev_getR (i := 1) cl_X4 hk.1 (Nat.le_of_ble_eq_true rfl) rfl wd_218 dX4_copyFrom_22 ?_
  refine Ev_iconst dX4_copyFrom_25 rfl (ev_Rc rfl) ?_
  refine Ev_bipushC dX4_copyFrom_26 rfl ?_
  obtain ⟨h0, h⟩ := h
  refine Ev_copyi hk1.2.2.1 hk.2.2.1 h0 wd_1045 dX4_copyFrom_28 (Nat.le_of_ble_eq_true rfl) (Ev_nm (fun s2 es2 => ?_))
  replace h := h s2 es2
  refine Ev_aload_n 1 dX4_copyFrom_31 rfl rfl ?_
  refine Ev_getR (i := 2) cl_X4 hk1.1 (Nat.le_of_ble_eq_true rfl) rfl wd_219 dX4_copyFrom_32 ?_
  refine Ev_iconst dX4_copyFrom_35 rfl (ev_Rc rfl) ?_
  refine Ev_aload_n 0 dX4_copyFrom_36 rfl rfl ?_
  refine Ev_getR (i := 2) cl_X4 hk.1 (Nat.le_of_ble_eq_true rfl) rfl wd_219 dX4_copyFrom_37 ?_
  refine Ev_iconst dX4_copyFrom_40 rfl (ev_Rc rfl) ?_
  refine Ev_bipushC dX4_copyFrom_41 rfl ?_
  obtain ⟨h0, h⟩ := h
  refine Ev_copyi hk1.2.2.2.1 hk.2.2.2.1 h0 wd_1045 dX4_copyFrom_43 (Nat.le_of_ble_eq_true rfl) (Ev_nm (fun s3 es3 => ?_))
  replace h := h s3 es3
  refine Ev_aload_n 0 dX4_copyFrom_46 rfl rfl ?_
  refine Ev_aload_n 1 dX4_copyFrom_47 rfl rfl ?_
  refine Ev_get (i := 4) cl_X4 hk1.1 (Nat.le_of_ble_eq_true rfl) rfl wd_221 dX4_copyFrom_48 ?_
  refine Ev_put (i := 4) (ty := .int) cl_X4 hk.1 (Nat.le_of_ble_eq_true rfl) rfl rfl (by decide +kernel) rfl rfl wd_221 dX4_copyFrom_51 (Ev_nm (fun s4 es4 => ?_))
  replace h := h s4 es4
  refine Ev_aload_n 0 dX4_copyFrom_54 rfl rfl ?_
  refine Ev_aload_n 1 dX4_copyFrom_55 rfl rfl ?_
  refine Ev_get (i := 5) cl_X4 hk1.1 (Nat.le_of_ble_eq_true rfl) rfl wd_222 dX4_copyFrom_56 ?_
  refine Ev_put (i := 5) (ty := .int) cl_X4 hk.1 (Nat.le_of_ble_eq_true rfl) rfl rfl (by decide +kernel) rfl rfl wd_222 dX4_copyFrom_59 (Ev_nm (fun s5 es5 => ?_))
  replace h := h s5 es5
  exact Ev_vret rfl dX4_copyFrom_62 h
theorem dX4_emit_0 : decode cX4_emit 0 = .ok (.aload_n 0, 1) := by decide +kernel
theorem dX4_emit_1 : decode cX4_emit 1 = .ok (.getfield 24, 3) := by decide +kernel
theorem dX4_emit_4 : decode cX4_emit 4 = .ok (.sipush 800, 3) := by decide +kernel
theorem dX4_emit_7 : decode cX4_emit 7 = .ok (.if_icmp .ge 23, 3) := by decide +kernel
theorem dX4_emit_10 : decode cX4_emit 10 = .ok (.aload_n 0, 1) := by decide +kernel
theorem dX4_emit_11 : decode cX4_emit 11 = .ok (.getfield 11, 3) := by decide +kernel
theorem dX4_emit_14 : decode cX4_emit 14 = .ok (.aload_n 0, 1) := by decide +kernel
theorem dX4_emit_15 : decode cX4_emit 15 = .ok (.getfield 24, 3) := by decide +kernel
theorem dX4_emit_18 : decode cX4_emit 18 = .ok (.iload_n 1, 1) := by decide +kernel
theorem dX4_emit_19 : decode cX4_emit 19 = .ok (.iastore, 1) := by decide +kernel
theorem dX4_emit_20 : decode cX4_emit 20 = .ok (.aload_n 0, 1) := by decide +kernel
theorem dX4_emit_21 : decode cX4_emit 21 = .ok (.dup, 1) := by decide +kernel
theorem dX4_emit_22 : decode cX4_emit 22 = .ok (.getfield 24, 3) := by decide +kernel
theorem dX4_emit_25 : decode cX4_emit 25 = .ok (.iconst 1, 1) := by decide +kernel
theorem dX4_emit_26 : decode cX4_emit 26 = .ok (.iadd, 1) := by decide +kernel
theorem dX4_emit_27 : decode cX4_emit 27 = .ok (.putfield 24, 3) := by decide +kernel
theorem dX4_emit_30 : decode cX4_emit 30 = .ok (.return_, 1) := by decide +kernel
theorem wp_X4_emit_0 {d : Nat} {k : Nat} (hk : is_X4 k) {s : ev_S} {Q : Option ev_V → ev_S → Prop} {a1 : Int}
    (h : ((800 ≤ (s k 4) → Q none s) ∧ ((s k 4) < 800 → ((0 ≤ (s k 4) ∧ (s k 4) < (800 : Nat)) ∧ ∀ s1, ev_up s (k + 1) (Int.toNat (s k 4)) a1 = s1 → (∀ s2, ev_up s1 k 4 (ev_add (s1 k 4) 1) = s2 → Q none s2))))) :
    Ev layX M_X4_emit d 0 [(0, ev_r k), (1, ev_i a1)] [] s Q := by
  refine Ev_aload_n 0 dX4_emit_0 rfl rfl ?_
  refine Ev_get (i := 4) cl_X4 hk.1 (Nat.le_of_ble_eq_true rfl) rfl wd_221 dX4_emit_1 ?_
  refine Ev_sipushC dX4_emit_4 rfl ?_
  refine Ev_icmp_ge (tgt := 30) dX4_emit_7 rfl (fun c => ?_) (fun c => ?_)
  · replace h := h.1 c
    exact Ev_vret rfl dX4_emit_30 h
  · replace h := h.2 c
    refine Ev_aload_n 0 dX4_emit_10 rfl rfl ?_
    refine Ev_getR (i := 0) cl_X4 hk.1 (Nat.le_of_ble_eq_true rfl) rfl wd_217 dX4_emit_11 ?_
    refine Ev_aload_n 0 dX4_emit_14 rfl rfl ?_
    refine Ev_get (i := 4) cl_X4 hk.1 (Nat.le_of_ble_eq_true rfl) rfl wd_221 dX4_emit_15 ?_
    refine Ev_iload_n 1 dX4_emit_18 rfl rfl ?_
    obtain ⟨h0, h⟩ := h
    refine Ev_iast hk.2.1 h0 dX4_emit_19 (Ev_nm (fun s1 es1 => ?_))
    replace h := h s1 es1
    refine Ev_aload_n 0 dX4_emit_20 rfl rfl ?_
    refine Ev_dup dX4_emit_21 rfl ?_
    refine Ev_get (i := 4) cl_X4 hk.1 (Nat.le_of_ble_eq_true rfl) rfl wd_221 dX4_emit_22 ?_
    refine Ev_iconst dX4_emit_25 rfl (ev_Rc rfl) ?_
    refine Ev_iadd dX4_emit_26 ?_
    refine Ev_put (i := 4) (ty := .int) cl_X4 hk.1 (Nat.le_of_ble_eq_true rfl) rfl rfl (by decide +kernel) rfl rfl wd_221 dX4_emit_27 (Ev_nm (fun s2 es2 => ?_))
    replace h := h s2 es2
    exact Ev_vret rfl dX4_emit_30 h
theorem dX4_closeLine_0 : decode cX4_closeLine 0 = .ok (.aload_n 0, 1) := by decide +kernel
theorem dX4_closeLine_1 : decode cX4_closeLine 1 = .ok (.getfield 28, 3) := by decide +kernel
theorem dX4_closeLine_4 : decode cX4_closeLine 4 = .ok (.bipush 16, 2) := by decide +kernel
theorem dX4_closeLine_6 : decode cX4_closeLine 6 = .ok (.if_icmp .ge 44, 3) := by decide +kernel
theorem dX4_closeLine_9 : decode cX4_closeLine 9 = .ok (.aload_n 0, 1) := by decide +kernel
theorem dX4_closeLine_10 : decode cX4_closeLine 10 = .ok (.getfield 18, 3) := by decide +kernel
theorem dX4_closeLine_13 : decode cX4_closeLine 13 = .ok (.aload_n 0, 1) := by decide +kernel
theorem dX4_closeLine_14 : decode cX4_closeLine 14 = .ok (.getfield 28, 3) := by decide +kernel
theorem dX4_closeLine_17 : decode cX4_closeLine 17 = .ok (.iload_n 1, 1) := by decide +kernel
theorem dX4_closeLine_18 : decode cX4_closeLine 18 = .ok (.ifCond .eq 7, 3) := by decide +kernel
theorem dX4_closeLine_21 : decode cX4_closeLine 21 = .ok (.iconst 1, 1) := by decide +kernel
theorem dX4_closeLine_22 : decode cX4_closeLine 22 = .ok (.goto 4, 3) := by decide +kernel
theorem dX4_closeLine_25 : decode cX4_closeLine 25 = .ok (.iconst 0, 1) := by decide +kernel
theorem dX4_closeLine_26 : decode cX4_closeLine 26 = .ok (.iastore, 1) := by decide +kernel
theorem dX4_closeLine_27 : decode cX4_closeLine 27 = .ok (.aload_n 0, 1) := by decide +kernel
theorem dX4_closeLine_28 : decode cX4_closeLine 28 = .ok (.dup, 1) := by decide +kernel
theorem dX4_closeLine_29 : decode cX4_closeLine 29 = .ok (.getfield 28, 3) := by decide +kernel
theorem dX4_closeLine_32 : decode cX4_closeLine 32 = .ok (.iconst 1, 1) := by decide +kernel
theorem dX4_closeLine_33 : decode cX4_closeLine 33 = .ok (.iadd, 1) := by decide +kernel
theorem dX4_closeLine_34 : decode cX4_closeLine 34 = .ok (.putfield 28, 3) := by decide +kernel
theorem dX4_closeLine_37 : decode cX4_closeLine 37 = .ok (.aload_n 0, 1) := by decide +kernel
theorem dX4_closeLine_38 : decode cX4_closeLine 38 = .ok (.getfield 15, 3) := by decide +kernel
theorem dX4_closeLine_41 : decode cX4_closeLine 41 = .ok (.aload_n 0, 1) := by decide +kernel
theorem dX4_closeLine_42 : decode cX4_closeLine 42 = .ok (.getfield 28, 3) := by decide +kernel
theorem dX4_closeLine_45 : decode cX4_closeLine 45 = .ok (.aload_n 0, 1) := by decide +kernel
theorem dX4_closeLine_46 : decode cX4_closeLine 46 = .ok (.getfield 24, 3) := by decide +kernel
theorem dX4_closeLine_49 : decode cX4_closeLine 49 = .ok (.iastore, 1) := by decide +kernel
theorem dX4_closeLine_50 : decode cX4_closeLine 50 = .ok (.return_, 1) := by decide +kernel
theorem wp_X4_closeLine_0 {d : Nat} {k : Nat} (hk : is_X4 k) {s : ev_S} {Q : Option ev_V → ev_S → Prop} {a1 : Int}
    (h : ((16 ≤ (s k 5) → Q none s) ∧ ((s k 5) < 16 → ((a1 = 0 → Ev layX M_X4_closeLine d 26 [(0, ev_r k)] [ev_i 0, ev_i (s k 5), ev_r (k + 3)] s Q) ∧ (a1 ≠ 0 → Ev layX M_X4_closeLine d 26 [(0, ev_r k)] [ev_i 1, ev_i (s k 5), ev_r (k + 3)] s Q))))) :
    Ev layX M_X4_closeLine d 0 [(0, ev_r k), (1, ev_i a1)] [] s Q := by
  refine Ev_aload_n 0 dX4_closeLine_0 rfl rfl ?_
  refine Ev_get (i := 5) cl_X4 hk.1 (Nat.le_of_ble_eq_true rfl) rfl wd_222 dX4_closeLine_1 ?_
  refine Ev_bipushC dX4_closeLine_4 rfl ?_
  refine Ev_icmp_ge (tgt := 50) dX4_closeLine_6 rfl (fun c => ?_) (fun c => ?_)
  · replace h := h.1 c
    exact Ev_vret rfl dX4_closeLine_50 h
  · replace h := h.2 c
    refine Ev_aload_n 0 dX4_closeLine_9 rfl rfl ?_
    refine Ev_getR (i := 2) cl_X4 hk.1 (Nat.le_of_ble_eq_true rfl) rfl wd_219 dX4_closeLine_10 ?_
    refine Ev_aload_n 0 dX4_closeLine_13 rfl rfl ?_
    refine Ev_get (i := 5) cl_X4 hk.1 (Nat.le_of_ble_eq_true rfl) rfl wd_222 dX4_closeLine_14 ?_
    refine Ev_iload_n 1 dX4_closeLine_17 rfl rfl ?_
    refine Ev_if_eq (tgt := 25) dX4_closeLine_18 rfl (fun c => ?_) (fun c => ?_)
    · replace h := h.1 c
      refine Ev_iconst dX4_closeLine_25 rfl (ev_Rc rfl) ?_
      exact Ev_sub [0] rfl h
    · replace h := h.2 c
      refine Ev_iconst dX4_closeLine_21 rfl (ev_Rc rfl) ?_
      refine Ev_goto (tgt := 26) dX4_closeLine_22 rfl ?_
      exact Ev_sub [0] rfl h
theorem wp_X4_closeLine_26 {d : Nat} {k : Nat} (hk : is_X4 k) {s : ev_S} {Q : Option ev_V → ev_S → Prop} {t0 t1 : Int}
    (h : ((0 ≤ t1 ∧ t1 < (16 : Nat)) ∧ ∀ s1, ev_up s (k + 3) (Int.toNat t1) t0 = s1 → (∀ s2, ev_up s1 k 5 (ev_add (s1 k 5) 1) = s2 → ((0 ≤ (s2 k 5) ∧ (s2 k 5) < (17 : Nat)) ∧ ∀ s3, ev_up s2 (k + 2) (Int.toNat (s2 k 5)) (s2 k 4) = s3 → Q none s3)))) :
    Ev layX M_X4_closeLine d 26 [(0, ev_r k)] [ev_i t0, ev_i t1, ev_r (k + 3)] s Q := by
  obtain ⟨h0, h⟩ := h
  refine Ev_iast hk.2.2.2.1 h0 dX4_closeLine_26 (Ev_nm (fun s1 es1 => ?_))
  replace h := h s1 es1
  refine Ev_aload_n 0 dX4_closeLine_27 rfl rfl ?_
  refine Ev_dup dX4_closeLine_28 rfl ?_
  refine Ev_get (i := 5) cl_X4 hk.1 (Nat.le_of_ble_eq_true rfl) rfl wd_222 dX4_closeLine_29 ?_
  refine Ev_iconst dX4_closeLine_32 rfl (ev_Rc rfl) ?_
  refine Ev_iadd dX4_closeLine_33 ?_
  refine Ev_put (i := 5) (ty := .int) cl_X4 hk.1 (Nat.le_of_ble_eq_true rfl) rfl rfl (by decide +kernel) rfl rfl wd_222 dX4_closeLine_34 (Ev_nm (fun s2 es2 => ?_))
  replace h := h s2 es2
  refine Ev_aload_n 0 dX4_closeLine_37 rfl rfl ?_
  refine Ev_getR (i := 1) cl_X4 hk.1 (Nat.le_of_ble_eq_true rfl) rfl wd_218 dX4_closeLine_38 ?_
  refine Ev_aload_n 0 dX4_closeLine_41 rfl rfl ?_
  refine Ev_get (i := 5) cl_X4 hk.1 (Nat.le_of_ble_eq_true rfl) rfl wd_222 dX4_closeLine_42 ?_
  refine Ev_aload_n 0 dX4_closeLine_45 rfl rfl ?_
  refine Ev_get (i := 4) cl_X4 hk.1 (Nat.le_of_ble_eq_true rfl) rfl wd_221 dX4_closeLine_46 ?_
  obtain ⟨h0, h⟩ := h
  refine Ev_iast hk.2.2.1 h0 dX4_closeLine_49 (Ev_nm (fun s3 es3 => ?_))
  replace h := h s3 es3
  exact Ev_vret rfl dX4_closeLine_50 h
theorem dX4_worksBy_0 : decode cX4_worksBy 0 = .ok (.iload_n 1, 1) := by decide +kernel
theorem dX4_worksBy_1 : decode cX4_worksBy 1 = .ok (.ifCond .lt 25, 3) := by decide +kernel
theorem dX4_worksBy_4 : decode cX4_worksBy 4 = .ok (.iload_n 1, 1) := by decide +kernel
theorem dX4_worksBy_5 : decode cX4_worksBy 5 = .ok (.aload_n 0, 1) := by decide +kernel
theorem dX4_worksBy_6 : decode cX4_worksBy 6 = .ok (.getfield 28, 3) := by decide +kernel
theorem dX4_worksBy_9 : decode cX4_worksBy 9 = .ok (.if_icmp .ge 17, 3) := by decide +kernel
theorem dX4_worksBy_12 : decode cX4_worksBy 12 = .ok (.aload_n 0, 1) := by decide +kernel
theorem dX4_worksBy_13 : decode cX4_worksBy 13 = .ok (.getfield 18, 3) := by decide +kernel
theorem dX4_worksBy_16 : decode cX4_worksBy 16 = .ok (.iload_n 1, 1) := by decide +kernel
theorem dX4_worksBy_17 : decode cX4_worksBy 17 = .ok (.iaload, 1) := by decide +kernel
theorem dX4_worksBy_18 : decode cX4_worksBy 18 = .ok (.iconst 1, 1) := by decide +kernel
theorem dX4_worksBy_19 : decode cX4_worksBy 19 = .ok (.if_icmp .ne 7, 3) := by decide +kernel
theorem dX4_worksBy_22 : decode cX4_worksBy 22 = .ok (.iconst 1, 1) := by decide +kernel
theorem dX4_worksBy_23 : decode cX4_worksBy 23 = .ok (.goto 4, 3) := by decide +kernel
theorem dX4_worksBy_26 : decode cX4_worksBy 26 = .ok (.iconst 0, 1) := by decide +kernel
theorem dX4_worksBy_27 : decode cX4_worksBy 27 = .ok (.ireturn, 1) := by decide +kernel
theorem wp_X4_worksBy_0 {d : Nat} {k : Nat} (hk : is_X4 k) {s : ev_S} {Q : Option ev_V → ev_S → Prop} {a1 : Int}
    (h : ((a1 < 0 → Q (some (ev_i 0)) s) ∧ (0 ≤ a1 → (((s k 5) ≤ a1 → Q (some (ev_i 0)) s) ∧ (a1 < (s k 5) → ((0 ≤ a1 ∧ a1 < (16 : Nat)) ∧ (((s (k + 3) (Int.toNat a1)) ≠ 1 → Q (some (ev_i 0)) s) ∧ ((s (k + 3) (Int.toNat a1)) = 1 → Q (some (ev_i 1)) s)))))))) :
    Ev layX M_X4_worksBy d 0 [(0, ev_r k), (1, ev_i a1)] [] s Q := by
  refine Ev_iload_n 1 dX4_worksBy_0 rfl rfl ?_
  refine Ev_if_lt (tgt := 26) dX4_worksBy_1 rfl (fun c => ?_) (fun c => ?_)
  · replace h := h.1 c
    refine Ev_iconst dX4_worksBy_26 rfl (ev_Rc rfl) ?_
    exact Ev_iret rfl dX4_worksBy_27 (ev_nb (by decide)) h
  · replace h := h.2 c
    refine Ev_iload_n 1 dX4_worksBy_4 rfl rfl ?_
    refine Ev_aload_n 0 dX4_worksBy_5 rfl rfl ?_
    refine Ev_get (i := 5) cl_X4 hk.1 (Nat.le_of_ble_eq_true rfl) rfl wd_222 dX4_worksBy_6 ?_
    refine Ev_icmp_ge (tgt := 26) dX4_worksBy_9 rfl (fun c => ?_) (fun c => ?_)
    · replace h := h.1 c
      refine Ev_iconst dX4_worksBy_26 rfl (ev_Rc rfl) ?_
      exact Ev_iret rfl dX4_worksBy_27 (ev_nb (by decide)) h
    · replace h := h.2 c
      refine Ev_aload_n 0 dX4_worksBy_12 rfl rfl ?_
      refine Ev_getR (i := 2) cl_X4 hk.1 (Nat.le_of_ble_eq_true rfl) rfl wd_219 dX4_worksBy_13 ?_
      refine Ev_iload_n 1 dX4_worksBy_16 rfl rfl ?_
      obtain ⟨h0, h⟩ := h
      refine Ev_iald hk.2.2.2.1 h0 dX4_worksBy_17 ?_
      refine Ev_iconst dX4_worksBy_18 rfl (ev_Rc rfl) ?_
      refine Ev_icmp_ne (tgt := 26) dX4_worksBy_19 rfl (fun c => ?_) (fun c => ?_)
      · replace h := h.1 c
        refine Ev_iconst dX4_worksBy_26 rfl (ev_Rc rfl) ?_
        exact Ev_iret rfl dX4_worksBy_27 (ev_nb (by decide)) h
      · replace h := h.2 c
        refine Ev_iconst dX4_worksBy_22 rfl (ev_Rc rfl) ?_
        refine Ev_goto (tgt := 27) dX4_worksBy_23 rfl ?_
        exact Ev_iret rfl dX4_worksBy_27 (ev_nb (by decide)) h
theorem dX4_speaks_0 : decode cX4_speaks 0 = .ok (.iload_n 1, 1) := by decide +kernel
theorem dX4_speaks_1 : decode cX4_speaks 1 = .ok (.ifCond .lt 11, 3) := by decide +kernel
theorem dX4_speaks_4 : decode cX4_speaks 4 = .ok (.iload_n 1, 1) := by decide +kernel
theorem dX4_speaks_5 : decode cX4_speaks 5 = .ok (.aload_n 0, 1) := by decide +kernel
theorem dX4_speaks_6 : decode cX4_speaks 6 = .ok (.getfield 28, 3) := by decide +kernel
theorem dX4_speaks_9 : decode cX4_speaks 9 = .ok (.if_icmp .lt 5, 3) := by decide +kernel
theorem dX4_speaks_12 : decode cX4_speaks 12 = .ok (.iconst 0, 1) := by decide +kernel
theorem dX4_speaks_13 : decode cX4_speaks 13 = .ok (.ireturn, 1) := by decide +kernel
theorem dX4_speaks_14 : decode cX4_speaks 14 = .ok (.aload_n 0, 1) := by decide +kernel
theorem dX4_speaks_15 : decode cX4_speaks 15 = .ok (.getfield 15, 3) := by decide +kernel
theorem dX4_speaks_18 : decode cX4_speaks 18 = .ok (.iload_n 1, 1) := by decide +kernel
theorem dX4_speaks_19 : decode cX4_speaks 19 = .ok (.iconst 1, 1) := by decide +kernel
theorem dX4_speaks_20 : decode cX4_speaks 20 = .ok (.iadd, 1) := by decide +kernel
theorem dX4_speaks_21 : decode cX4_speaks 21 = .ok (.iaload, 1) := by decide +kernel
theorem dX4_speaks_22 : decode cX4_speaks 22 = .ok (.sipush 800, 3) := by decide +kernel
theorem dX4_speaks_25 : decode cX4_speaks 25 = .ok (.invokestatic 37, 3) := by decide +kernel
theorem dX4_speaks_28 : decode cX4_speaks 28 = .ok (.istore_n 3, 1) := by decide +kernel
theorem dX4_speaks_29 : decode cX4_speaks 29 = .ok (.iconst 0, 1) := by decide +kernel
theorem dX4_speaks_30 : decode cX4_speaks 30 = .ok (.istore 4, 2) := by decide +kernel
theorem dX4_speaks_32 : decode cX4_speaks 32 = .ok (.aload_n 0, 1) := by decide +kernel
theorem dX4_speaks_33 : decode cX4_speaks 33 = .ok (.getfield 15, 3) := by decide +kernel
theorem dX4_speaks_36 : decode cX4_speaks 36 = .ok (.iload_n 1, 1) := by decide +kernel
theorem dX4_speaks_37 : decode cX4_speaks 37 = .ok (.iaload, 1) := by decide +kernel
theorem dX4_speaks_38 : decode cX4_speaks 38 = .ok (.istore 5, 2) := by decide +kernel
theorem dX4_speaks_40 : decode cX4_speaks 40 = .ok (.iload 5, 2) := by decide +kernel
theorem dX4_speaks_42 : decode cX4_speaks 42 = .ok (.iload_n 3, 1) := by decide +kernel
theorem dX4_speaks_43 : decode cX4_speaks 43 = .ok (.if_icmp .ge 173, 3) := by decide +kernel
theorem dX4_speaks_46 : decode cX4_speaks 46 = .ok (.aload_n 0, 1) := by decide +kernel
theorem dX4_speaks_47 : decode cX4_speaks 47 = .ok (.getfield 11, 3) := by decide +kernel
theorem dX4_speaks_50 : decode cX4_speaks 50 = .ok (.iload 5, 2) := by decide +kernel
theorem dX4_speaks_52 : decode cX4_speaks 52 = .ok (.iaload, 1) := by decide +kernel
theorem dX4_speaks_53 : decode cX4_speaks 53 = .ok (.istore 6, 2) := by decide +kernel
theorem dX4_speaks_55 : decode cX4_speaks 55 = .ok (.iload 6, 2) := by decide +kernel
theorem dX4_speaks_57 : decode cX4_speaks 57 = .ok (.bipush 9, 2) := by decide +kernel
theorem dX4_speaks_59 : decode cX4_speaks 59 = .ok (.if_icmp .ne 41, 3) := by decide +kernel
theorem dX4_speaks_62 : decode cX4_speaks 62 = .ok (.iload 5, 2) := by decide +kernel
theorem dX4_speaks_64 : decode cX4_speaks 64 = .ok (.iconst 1, 1) := by decide +kernel
theorem dX4_speaks_65 : decode cX4_speaks 65 = .ok (.iadd, 1) := by decide +kernel
theorem dX4_speaks_66 : decode cX4_speaks 66 = .ok (.iload_n 3, 1) := by decide +kernel
theorem dX4_speaks_67 : decode cX4_speaks 67 = .ok (.if_icmp .ge 33, 3) := by decide +kernel
theorem dX4_speaks_70 : decode cX4_speaks 70 = .ok (.iload 4, 2) := by decide +kernel
theorem dX4_speaks_72 : decode cX4_speaks 72 = .ok (.bipush 32, 2) := by decide +kernel
theorem dX4_speaks_74 : decode cX4_speaks 74 = .ok (.if_icmp .ge 26, 3) := by decide +kernel
theorem dX4_speaks_77 : decode cX4_speaks 77 = .ok (.iinc 5 1, 3) := by decide +kernel
theorem dX4_speaks_80 : decode cX4_speaks 80 = .ok (.aload_n 0, 1) := by decide +kernel
theorem dX4_speaks_81 : decode cX4_speaks 81 = .ok (.getfield 21, 3) := by decide +kernel
theorem dX4_speaks_84 : decode cX4_speaks 84 = .ok (.iload 4, 2) := by decide +kernel
theorem dX4_speaks_86 : decode cX4_speaks 86 = .ok (.aload_n 0, 1) := by decide +kernel
theorem dX4_speaks_87 : decode cX4_speaks 87 = .ok (.getfield 11, 3) := by decide +kernel
theorem dX4_speaks_90 : decode cX4_speaks 90 = .ok (.iload 5, 2) := by decide +kernel
theorem dX4_speaks_92 : decode cX4_speaks 92 = .ok (.iaload, 1) := by decide +kernel
theorem dX4_speaks_93 : decode cX4_speaks 93 = .ok (.iastore, 1) := by decide +kernel
theorem dX4_speaks_94 : decode cX4_speaks 94 = .ok (.iinc 4 1, 3) := by decide +kernel
theorem dX4_speaks_97 : decode cX4_speaks 97 = .ok (.goto 113, 3) := by decide +kernel
theorem dX4_speaks_100 : decode cX4_speaks 100 = .ok (.iload 6, 2) := by decide +kernel
theorem dX4_speaks_102 : decode cX4_speaks 102 = .ok (.ifCond .lt 34, 3) := by decide +kernel
theorem dX4_speaks_105 : decode cX4_speaks 105 = .ok (.iload 6, 2) := by decide +kernel
theorem dX4_speaks_107 : decode cX4_speaks 107 = .ok (.bipush 9, 2) := by decide +kernel
theorem dX4_speaks_109 : decode cX4_speaks 109 = .ok (.if_icmp .ge 27, 3) := by decide +kernel
theorem dX4_speaks_112 : decode cX4_speaks 112 = .ok (.iload 4, 2) := by decide +kernel
theorem dX4_speaks_114 : decode cX4_speaks 114 = .ok (.bipush 32, 2) := by decide +kernel
theorem dX4_speaks_116 : decode cX4_speaks 116 = .ok (.if_icmp .ge 20, 3) := by decide +kernel
theorem dX4_speaks_119 : decode cX4_speaks 119 = .ok (.aload_n 0, 1) := by decide +kernel
theorem dX4_speaks_120 : decode cX4_speaks 120 = .ok (.getfield 21, 3) := by decide +kernel
theorem dX4_speaks_123 : decode cX4_speaks 123 = .ok (.iload 4, 2) := by decide +kernel
theorem dX4_speaks_125 : decode cX4_speaks 125 = .ok (.aload_n 2, 1) := by decide +kernel
theorem dX4_speaks_126 : decode cX4_speaks 126 = .ok (.iload 6, 2) := by decide +kernel
theorem dX4_speaks_128 : decode cX4_speaks 128 = .ok (.iaload, 1) := by decide +kernel
theorem dX4_speaks_129 : decode cX4_speaks 129 = .ok (.iastore, 1) := by decide +kernel
theorem dX4_speaks_130 : decode cX4_speaks 130 = .ok (.iinc 4 1, 3) := by decide +kernel
theorem dX4_speaks_133 : decode cX4_speaks 133 = .ok (.goto 77, 3) := by decide +kernel
theorem dX4_speaks_136 : decode cX4_speaks 136 = .ok (.iload 6, 2) := by decide +kernel
theorem dX4_speaks_138 : decode cX4_speaks 138 = .ok (.bipush 17, 2) := by decide +kernel
theorem dX4_speaks_140 : decode cX4_speaks 140 = .ok (.if_icmp .ne 31, 3) := by decide +kernel
theorem dX4_speaks_143 : decode cX4_speaks 143 = .ok (.iload 4, 2) := by decide +kernel
theorem dX4_speaks_145 : decode cX4_speaks 145 = .ok (.ifCond .le 26, 3) := by decide +kernel
theorem dX4_speaks_148 : decode cX4_speaks 148 = .ok (.aload_n 0, 1) := by decide +kernel
theorem dX4_speaks_149 : decode cX4_speaks 149 = .ok (.getfield 21, 3) := by decide +kernel
theorem dX4_speaks_152 : decode cX4_speaks 152 = .ok (.iload 4, 2) := by decide +kernel
theorem dX4_speaks_154 : decode cX4_speaks 154 = .ok (.iconst 1, 1) := by decide +kernel
theorem dX4_speaks_155 : decode cX4_speaks 155 = .ok (.isub, 1) := by decide +kernel
theorem dX4_speaks_156 : decode cX4_speaks 156 = .ok (.iconst 1, 1) := by decide +kernel
theorem dX4_speaks_157 : decode cX4_speaks 157 = .ok (.aload_n 0, 1) := by decide +kernel
theorem dX4_speaks_158 : decode cX4_speaks 158 = .ok (.getfield 21, 3) := by decide +kernel
theorem dX4_speaks_161 : decode cX4_speaks 161 = .ok (.iload 4, 2) := by decide +kernel
theorem dX4_speaks_163 : decode cX4_speaks 163 = .ok (.iconst 1, 1) := by decide +kernel
theorem dX4_speaks_164 : decode cX4_speaks 164 = .ok (.isub, 1) := by decide +kernel
theorem dX4_speaks_165 : decode cX4_speaks 165 = .ok (.iaload, 1) := by decide +kernel
theorem dX4_speaks_166 : decode cX4_speaks 166 = .ok (.isub, 1) := by decide +kernel
theorem dX4_speaks_167 : decode cX4_speaks 167 = .ok (.iastore, 1) := by decide +kernel
theorem dX4_speaks_168 : decode cX4_speaks 168 = .ok (.goto 42, 3) := by decide +kernel
theorem dX4_speaks_171 : decode cX4_speaks 171 = .ok (.iload 4, 2) := by decide +kernel
theorem dX4_speaks_173 : decode cX4_speaks 173 = .ok (.iconst 1, 1) := by decide +kernel
theorem dX4_speaks_174 : decode cX4_speaks 174 = .ok (.if_icmp .le 36, 3) := by decide +kernel
theorem dX4_speaks_177 : decode cX4_speaks 177 = .ok (.iinc 4 (-1), 3) := by decide +kernel
theorem dX4_speaks_180 : decode cX4_speaks 180 = .ok (.aload_n 0, 1) := by decide +kernel
theorem dX4_speaks_181 : decode cX4_speaks 181 = .ok (.getfield 21, 3) := by decide +kernel
theorem dX4_speaks_184 : decode cX4_speaks 184 = .ok (.iload 4, 2) := by decide +kernel
theorem dX4_speaks_186 : decode cX4_speaks 186 = .ok (.iconst 1, 1) := by decide +kernel
theorem dX4_speaks_187 : decode cX4_speaks 187 = .ok (.isub, 1) := by decide +kernel
theorem dX4_speaks_188 : decode cX4_speaks 188 = .ok (.iload 6, 2) := by decide +kernel
theorem dX4_speaks_190 : decode cX4_speaks 190 = .ok (.aload_n 0, 1) := by decide +kernel
theorem dX4_speaks_191 : decode cX4_speaks 191 = .ok (.getfield 21, 3) := by decide +kernel
theorem dX4_speaks_194 : decode cX4_speaks 194 = .ok (.iload 4, 2) := by decide +kernel
theorem dX4_speaks_196 : decode cX4_speaks 196 = .ok (.iconst 1, 1) := by decide +kernel
theorem dX4_speaks_197 : decode cX4_speaks 197 = .ok (.isub, 1) := by decide +kernel
theorem dX4_speaks_198 : decode cX4_speaks 198 = .ok (.iaload, 1) := by decide +kernel
theorem dX4_speaks_199 : decode cX4_speaks 199 = .ok (.aload_n 0, 1) := by decide +kernel
theorem dX4_speaks_200 : decode cX4_speaks 200 = .ok (.getfield 21, 3) := by decide +kernel
theorem dX4_speaks_203 : decode cX4_speaks 203 = .ok (.iload 4, 2) := by decide +kernel
theorem dX4_speaks_205 : decode cX4_speaks 205 = .ok (.iaload, 1) := by decide +kernel
theorem dX4_speaks_206 : decode cX4_speaks 206 = .ok (.invokestatic 43, 3) := by decide +kernel
theorem dX4_speaks_209 : decode cX4_speaks 209 = .ok (.iastore, 1) := by decide +kernel
theorem dX4_speaks_210 : decode cX4_speaks 210 = .ok (.iinc 5 1, 3) := by decide +kernel
theorem dX4_speaks_213 : decode cX4_speaks 213 = .ok (.goto (-173), 3) := by decide +kernel
theorem dX4_speaks_216 : decode cX4_speaks 216 = .ok (.iload 4, 2) := by decide +kernel
theorem dX4_speaks_218 : decode cX4_speaks 218 = .ok (.ifCond .eq 15, 3) := by decide +kernel
theorem dX4_speaks_221 : decode cX4_speaks 221 = .ok (.aload_n 0, 1) := by decide +kernel
theorem dX4_speaks_222 : decode cX4_speaks 222 = .ok (.getfield 21, 3) := by decide +kernel
theorem dX4_speaks_225 : decode cX4_speaks 225 = .ok (.iload 4, 2) := by decide +kernel
theorem dX4_speaks_227 : decode cX4_speaks 227 = .ok (.iconst 1, 1) := by decide +kernel
theorem dX4_speaks_228 : decode cX4_speaks 228 = .ok (.isub, 1) := by decide +kernel
theorem dX4_speaks_229 : decode cX4_speaks 229 = .ok (.iaload, 1) := by decide +kernel
theorem dX4_speaks_230 : decode cX4_speaks 230 = .ok (.ifCond .eq 7, 3) := by decide +kernel
theorem dX4_speaks_233 : decode cX4_speaks 233 = .ok (.iconst 1, 1) := by decide +kernel
theorem dX4_speaks_234 : decode cX4_speaks 234 = .ok (.goto 4, 3) := by decide +kernel
theorem dX4_speaks_237 : decode cX4_speaks 237 = .ok (.iconst 0, 1) := by decide +kernel
theorem dX4_speaks_238 : decode cX4_speaks 238 = .ok (.ireturn, 1) := by decide +kernel
theorem wp_X4_speaks_0 {d : Nat} {k : Nat} (hk : is_X4 k) {k2 n2 : Nat} (hk2 : layX[k2]? = some (.inl (0, n2))) (hn2 : n2 < 2147483648) {s : ev_S} {Q : Option ev_V → ev_S → Prop} {a1 : Int}
    (h : ((a1 < 0 → Q (some (ev_i 0)) s) ∧ (0 ≤ a1 → ((a1 < (s k 5) → ((0 ≤ (ev_add a1 1) ∧ (ev_add a1 1) < (17 : Nat)) ∧ ((0 ≤ a1 ∧ a1 < (17 : Nat)) ∧ Ev layX M_X4_speaks (d + 1) 40 [(0, ev_r k), (2, ev_r k2), (3, ev_i (min (s (k + 2) (Int.toNat (ev_add a1 1))) 800)), (4, ev_i 0), (5, ev_i (s (k + 2) (Int.toNat a1)))] [] s Q))) ∧ ((s k 5) ≤ a1 → Q (some (ev_i 0)) s))))) :
    Ev layX M_X4_speaks (d + 1) 0 [(0, ev_r k), (1, ev_i a1), (2, ev_r k2)] [] s Q := by
  refine Ev_iload_n 1 dX4_speaks_0 rfl rfl ?_
  refine Ev_if_lt (tgt := 12) dX4_speaks_1 rfl (fun c => ?_) (fun c => ?_)
  · replace h := h.1 c
    refine Ev_iconst dX4_speaks_12 rfl (ev_Rc rfl) ?_
    exact Ev_iret rfl dX4_speaks_13 (ev_nb (by decide)) h
  · replace h := h.2 c
    refine Ev_iload_n 1 dX4_speaks_4 rfl rfl ?_
    refine Ev_aload_n 0 dX4_speaks_5 rfl rfl ?_
    refine Ev_get (i := 5) cl_X4 hk.1 (Nat.le_of_ble_eq_true rfl) rfl wd_222 dX4_speaks_6 ?_
    refine Ev_icmp_lt (tgt := 14) dX4_speaks_9 rfl (fun c => ?_) (fun c => ?_)
    · replace h := h.1 c
      refine Ev_aload_n 0 dX4_speaks_14 rfl rfl ?_
      refine Ev_getR (i := 1) cl_X4 hk.1 (Nat.le_of_ble_eq_true rfl) rfl wd_218 dX4_speaks_15 ?_
      refine Ev_iload_n 1 dX4_speaks_18 rfl rfl ?_
      refine Ev_iconst dX4_speaks_19 rfl (ev_Rc rfl) ?_
      refine Ev_iadd dX4_speaks_20 ?_
      obtain ⟨h0, h⟩ := h
      refine Ev_iald hk.2.2.1 h0 dX4_speaks_21 ?_
      refine Ev_sipushC dX4_speaks_22 rfl ?_
      refine Ev_mmin wd_1092 dX4_speaks_25 (Nat.le_of_ble_eq_true rfl) ?_
      refine Ev_istore_n (l' := [(3, ev_i (min (s (k + 2) (Int.toNat (ev_add a1 1))) 800)), (0, ev_r k), (1, ev_i a1), (2, ev_r k2)]) dX4_speaks_28 rfl (Nat.le_of_ble_eq_true rfl) rfl ?_
      refine Ev_iconst dX4_speaks_29 rfl (ev_Rc rfl) ?_
      refine Ev_istore (l' := [(4, ev_i 0), (3, ev_i (min (s (k + 2) (Int.toNat (ev_add a1 1))) 800)), (0, ev_r k), (1, ev_i a1), (2, ev_r k2)]) dX4_speaks_30 (Nat.le_of_ble_eq_true rfl) rfl ?_
      refine Ev_aload_n 2 dX4_speaks_32 rfl rfl ?_
      refine Ev_getR (i := 1) cl_X4 hk.1 (Nat.le_of_ble_eq_true rfl) rfl wd_218 dX4_speaks_33 ?_
      refine Ev_iload_n 3 dX4_speaks_36 rfl rfl ?_
      obtain ⟨h0, h⟩ := h
      refine Ev_iald hk.2.2.1 h0 dX4_speaks_37 ?_
      refine Ev_istore (l' := [(5, ev_i (s (k + 2) (Int.toNat a1))), (4, ev_i 0), (3, ev_i (min (s (k + 2) (Int.toNat (ev_add a1 1))) 800)), (0, ev_r k), (1, ev_i a1), (2, ev_r k2)]) dX4_speaks_38 (Nat.le_of_ble_eq_true rfl) rfl ?_
      exact Ev_sub [3, 5, 2, 1, 0] rfl h
    · replace h := h.2 c
      refine Ev_iconst dX4_speaks_12 rfl (ev_Rc rfl) ?_
      exact Ev_iret rfl dX4_speaks_13 (ev_nb (by decide)) h
theorem wp_X4_speaks_40 {d : Nat} {k : Nat} (hk : is_X4 k) {k2 n2 : Nat} (hk2 : layX[k2]? = some (.inl (0, n2))) (hn2 : n2 < 2147483648) {s : ev_S} {Q : Option ev_V → ev_S → Prop} {a3 a4 a5 : Int}
    (h : ((a3 ≤ a5 → ((a4 = 0 → Q (some (ev_i 1)) s) ∧ (a4 ≠ 0 → ((0 ≤ (ev_sub a4 1) ∧ (ev_sub a4 1) < (32 : Nat)) ∧ (((s (k + 4) (Int.toNat (ev_sub a4 1))) = 0 → Q (some (ev_i 0)) s) ∧ ((s (k + 4) (Int.toNat (ev_sub a4 1))) ≠ 0 → Q (some (ev_i 1)) s)))))) ∧ (a5 < a3 → ((0 ≤ a5 ∧ a5 < (800 : Nat)) ∧ (((s (k + 1) (Int.toNat a5)) ≠ 9 → Ev layX M_X4_speaks (d + 1) 100 [(0, ev_r k), (2, ev_r k2), (3, ev_i a3), (4, ev_i a4), (5, ev_i a5), (6, ev_i (s (k + 1) (Int.toNat a5)))] [] s Q) ∧ ((s (k + 1) (Int.toNat a5)) = 9 → ((a3 ≤ (ev_add a5 1) → Ev layX M_X4_speaks (d + 1) 100 [(0, ev_r k), (2, ev_r k2), (3, ev_i a3), (4, ev_i a4), (5, ev_i a5), (6, ev_i (s (k + 1) (Int.toNat a5)))] [] s Q) ∧ ((ev_add a5 1) < a3 → ((32 ≤ a4 → Ev layX M_X4_speaks (d + 1) 100 [(0, ev_r k), (2, ev_r k2), (3, ev_i a3), (4, ev_i a4), (5, ev_i a5), (6, ev_i (s (k + 1) (Int.toNat a5)))] [] s Q) ∧ (a4 < 32 → ((0 ≤ (ev_add a5 1) ∧ (ev_add a5 1) < (800 : Nat)) ∧ ((0 ≤ a4 ∧ a4 < (32 : Nat)) ∧ ∀ s1, ev_up s (k + 4) (Int.toNat a4) (s (k + 1) (Int.toNat (ev_add a5 1))) = s1 → Ev layX M_X4_speaks (d + 1) 40 [(0, ev_r k), (2, ev_r k2), (3, ev_i a3), (4, ev_i (ev_add a4 1)), (5, ev_i (ev_add (ev_add a5 1) 1))] [] s1 Q)))))))))))) :
    Ev layX M_X4_speaks (d + 1) 40 [(0, ev_r k), (2, ev_r k2), (3, ev_i a3), (4, ev_i a4), (5, ev_i a5)] [] s Q := by
  refine Ev_iload 4 dX4_speaks_40 rfl ?_
  refine Ev_iload_n 2 dX4_speaks_42 rfl rfl ?_
  refine Ev_icmp_ge (tgt := 216) dX4_speaks_43 rfl (fun c => ?_) (fun c => ?_)
  · replace h := h.1 c
    refine Ev_iload 3 dX4_speaks_216 rfl ?_
    refine Ev_if_eq (tgt := 233) dX4_speaks_218 rfl (fun c => ?_) (fun c => ?_)
    · replace h := h.1 c
      refine Ev_iconst dX4_speaks_233 rfl (ev_Rc rfl) ?_
      refine Ev_goto (tgt := 238) dX4_speaks_234 rfl ?_
      exact Ev_iret rfl dX4_speaks_238 (ev_nb (by decide)) h
    · replace h := h.2 c
      refine Ev_aload_n 0 dX4_speaks_221 rfl rfl ?_
      refine Ev_getR (i := 3) cl_X4 hk.1 (Nat.le_of_ble_eq_true rfl) rfl wd_220 dX4_speaks_222 ?_
      refine Ev_iload 3 dX4_speaks_225 rfl ?_
      refine Ev_iconst dX4_speaks_227 rfl (ev_Rc rfl) ?_
      refine Ev_isub dX4_speaks_228 ?_
      obtain ⟨h0, h⟩ := h
      refine Ev_iald hk.2.2.2.2 h0 dX4_speaks_229 ?_
      refine Ev_if_eq (tgt := 237) dX4_speaks_230 rfl (fun c => ?_) (fun c => ?_)
      · replace h := h.1 c
        refine Ev_iconst dX4_speaks_237 rfl (ev_Rc rfl) ?_
        exact Ev_iret rfl dX4_speaks_238 (ev_nb (by decide)) h
      · replace h := h.2 c
        refine Ev_iconst dX4_speaks_233 rfl (ev_Rc rfl) ?_
        refine Ev_goto (tgt := 238) dX4_speaks_234 rfl ?_
        exact Ev_iret rfl dX4_speaks_238 (ev_nb (by decide)) h
  · replace h := h.2 c
    refine Ev_aload_n 0 dX4_speaks_46 rfl rfl ?_
    refine Ev_getR (i := 0) cl_X4 hk.1 (Nat.le_of_ble_eq_true rfl) rfl wd_217 dX4_speaks_47 ?_
    refine Ev_iload 4 dX4_speaks_50 rfl ?_
    obtain ⟨h0, h⟩ := h
    refine Ev_iald hk.2.1 h0 dX4_speaks_52 ?_
    refine Ev_istore (l' := [(6, ev_i (s (k + 1) (Int.toNat a5))), (0, ev_r k), (2, ev_r k2), (3, ev_i a3), (4, ev_i a4), (5, ev_i a5)]) dX4_speaks_53 (Nat.le_of_ble_eq_true rfl) rfl ?_
    refine Ev_iload 0 dX4_speaks_55 rfl ?_
    refine Ev_bipushC dX4_speaks_57 rfl ?_
    refine Ev_icmp_ne (tgt := 100) dX4_speaks_59 rfl (fun c => ?_) (fun c => ?_)
    · replace h := h.1 c
      exact Ev_sub [1, 2, 3, 4, 5, 0] rfl h
    · replace h := h.2 c
      refine Ev_iload 5 dX4_speaks_62 rfl ?_
      refine Ev_iconst dX4_speaks_64 rfl (ev_Rc rfl) ?_
      refine Ev_iadd dX4_speaks_65 ?_
      refine Ev_iload_n 3 dX4_speaks_66 rfl rfl ?_
      refine Ev_icmp_ge (tgt := 100) dX4_speaks_67 rfl (fun c => ?_) (fun c => ?_)
      · replace h := h.1 c
        exact Ev_sub [1, 2, 3, 4, 5, 0] rfl h
      · replace h := h.2 c
        refine Ev_iload 4 dX4_speaks_70 rfl ?_
        refine Ev_bipushC dX4_speaks_72 rfl ?_
        refine Ev_icmp_ge (tgt := 100) dX4_speaks_74 rfl (fun c => ?_) (fun c => ?_)
        · replace h := h.1 c
          exact Ev_sub [1, 2, 3, 4, 5, 0] rfl h
        · replace h := h.2 c
          refine Ev_iinc (j := 5) (l' := [(5, ev_i (ev_add a5 1)), (6, ev_i (s (k + 1) (Int.toNat a5))), (0, ev_r k), (2, ev_r k2), (3, ev_i a3), (4, ev_i a4)]) dX4_speaks_77 rfl (Nat.le_of_ble_eq_true rfl) rfl ?_
          refine Ev_aload_n 2 dX4_speaks_80 rfl rfl ?_
          refine Ev_getR (i := 3) cl_X4 hk.1 (Nat.le_of_ble_eq_true rfl) rfl wd_220 dX4_speaks_81 ?_
          refine Ev_iload 5 dX4_speaks_84 rfl ?_
          refine Ev_aload_n 2 dX4_speaks_86 rfl rfl ?_
          refine Ev_getR (i := 0) cl_X4 hk.1 (Nat.le_of_ble_eq_true rfl) rfl wd_217 dX4_speaks_87 ?_
          refine Ev_iload 0 dX4_speaks_90 rfl ?_
          obtain ⟨h0, h⟩ := h
          refine Ev_iald hk.2.1 h0 dX4_speaks_92 ?_
          obtain ⟨h0, h⟩ := h
          refine Ev_iast hk.2.2.2.2 h0 dX4_speaks_93 (Ev_nm (fun s1 es1 => ?_))
          replace h := h s1 es1
          refine Ev_iinc (j := 5) (l' := [(4, ev_i (ev_add a4 1)), (5, ev_i (ev_add a5 1)), (6, ev_i (s (k + 1) (Int.toNat a5))), (0, ev_r k), (2, ev_r k2), (3, ev_i a3)]) dX4_speaks_94 rfl (Nat.le_of_ble_eq_true rfl) rfl ?_
          refine Ev_goto (tgt := 210) dX4_speaks_97 rfl ?_
          refine Ev_iinc (j := 1) (l' := [(5, ev_i (ev_add (ev_add a5 1) 1)), (4, ev_i (ev_add a4 1)), (6, ev_i (s (k + 1) (Int.toNat a5))), (0, ev_r k), (2, ev_r k2), (3, ev_i a3)]) dX4_speaks_210 rfl (Nat.le_of_ble_eq_true rfl) rfl ?_
          refine Ev_goto (tgt := 40) dX4_speaks_213 rfl ?_
          exact Ev_sub [3, 4, 5, 1, 0] rfl h
theorem wp_X4_speaks_100 {d : Nat} {k : Nat} (hk : is_X4 k) {k2 n2 : Nat} (hk2 : layX[k2]? = some (.inl (0, n2))) (hn2 : n2 < 2147483648) {s : ev_S} {Q : Option ev_V → ev_S → Prop} {a3 a4 a5 a6 : Int}
    (h : ((a6 < 0 → Ev layX M_X4_speaks (d + 1) 136 [(0, ev_r k), (2, ev_r k2), (3, ev_i a3), (4, ev_i a4), (5, ev_i a5), (6, ev_i a6)] [] s Q) ∧ (0 ≤ a6 → ((9 ≤ a6 → Ev layX M_X4_speaks (d + 1) 136 [(0, ev_r k), (2, ev_r k2), (3, ev_i a3), (4, ev_i a4), (5, ev_i a5), (6, ev_i a6)] [] s Q) ∧ (a6 < 9 → ((32 ≤ a4 → Ev layX M_X4_speaks (d + 1) 136 [(0, ev_r k), (2, ev_r k2), (3, ev_i a3), (4, ev_i a4), (5, ev_i a5), (6, ev_i a6)] [] s Q) ∧ (a4 < 32 → ((0 ≤ a6 ∧ a6 < (n2 : Nat)) ∧ ((0 ≤ a4 ∧ a4 < (32 : Nat)) ∧ ∀ s1, ev_up s (k + 4) (Int.toNat a4) (s k2 (Int.toNat a6)) = s1 → Ev layX M_X4_speaks (d + 1) 40 [(0, ev_r k), (2, ev_r k2), (3, ev_i a3), (4, ev_i (ev_add a4 1)), (5, ev_i (ev_add a5 1))] [] s1 Q))))))))) :
    Ev layX M_X4_speaks (d + 1) 100 [(0, ev_r k), (2, ev_r k2), (3, ev_i a3), (4, ev_i a4), (5, ev_i a5), (6, ev_i a6)] [] s Q := by
  refine Ev_iload 5 dX4_speaks_100 rfl ?_
  refine Ev_if_lt (tgt := 136) dX4_speaks_102 rfl (fun c => ?_) (fun c => ?_)
  · replace h := h.1 c
    exact Ev_sub [0, 1, 2, 3, 4, 5] rfl h
  · replace h := h.2 c
    refine Ev_iload 5 dX4_speaks_105 rfl ?_
    refine Ev_bipushC dX4_speaks_107 rfl ?_
    refine Ev_icmp_ge (tgt := 136) dX4_speaks_109 rfl (fun c => ?_) (fun c => ?_)
    · replace h := h.1 c
      exact Ev_sub [0, 1, 2, 3, 4, 5] rfl h
    · replace h := h.2 c
      refine Ev_iload 3 dX4_speaks_112 rfl ?_
      refine Ev_bipushC dX4_speaks_114 rfl ?_
      refine Ev_icmp_ge (tgt := 136) dX4_speaks_116 rfl (fun c => ?_) (fun c => ?_)
      · replace h := h.1 c
        exact Ev_sub [0, 1, 2, 3, 4, 5] rfl h
      · replace h := h.2 c
        refine Ev_aload_n 0 dX4_speaks_119 rfl rfl ?_
        refine Ev_getR (i := 3) cl_X4 hk.1 (Nat.le_of_ble_eq_true rfl) rfl wd_220 dX4_speaks_120 ?_
        refine Ev_iload 3 dX4_speaks_123 rfl ?_
        refine Ev_aload_n 1 dX4_speaks_125 rfl rfl ?_
        refine Ev_iload 5 dX4_speaks_126 rfl ?_
        obtain ⟨h0, h⟩ := h
        refine Ev_iald hk2 h0 dX4_speaks_128 ?_
        obtain ⟨h0, h⟩ := h
        refine Ev_iast hk.2.2.2.2 h0 dX4_speaks_129 (Ev_nm (fun s1 es1 => ?_))
        replace h := h s1 es1
        refine Ev_iinc (j := 3) (l' := [(4, ev_i (ev_add a4 1)), (0, ev_r k), (2, ev_r k2), (3, ev_i a3), (5, ev_i a5), (6, ev_i a6)]) dX4_speaks_130 rfl (Nat.le_of_ble_eq_true rfl) rfl ?_
        refine Ev_goto (tgt := 210) dX4_speaks_133 rfl ?_
        refine Ev_iinc (j := 4) (l' := [(5, ev_i (ev_add a5 1)), (4, ev_i (ev_add a4 1)), (0, ev_r k), (2, ev_r k2), (3, ev_i a3), (6, ev_i a6)]) dX4_speaks_210 rfl (Nat.le_of_ble_eq_true rfl) rfl ?_
        refine Ev_goto (tgt := 40) dX4_speaks_213 rfl ?_
        exact Ev_sub [2, 3, 4, 1, 0] rfl h
theorem wp_X4_speaks_136 {d : Nat} {k : Nat} (hk : is_X4 k) {k2 n2 : Nat} (hk2 : layX[k2]? = some (.inl (0, n2))) (hn2 : n2 < 2147483648) {s : ev_S} {Q : Option ev_V → ev_S → Prop} {a3 a4 a5 a6 : Int}
    (h : ((a6 ≠ 17 → Ev layX M_X4_speaks (d + 1) 171 [(0, ev_r k), (2, ev_r k2), (3, ev_i a3), (4, ev_i a4), (5, ev_i a5), (6, ev_i a6)] [] s Q) ∧ (a6 = 17 → ((a4 ≤ 0 → Ev layX M_X4_speaks (d + 1) 171 [(0, ev_r k), (2, ev_r k2), (3, ev_i a3), (4, ev_i a4), (5, ev_i a5), (6, ev_i a6)] [] s Q) ∧ (0 < a4 → ((0 ≤ (ev_sub a4 1) ∧ (ev_sub a4 1) < (32 : Nat)) ∧ ((0 ≤ (ev_sub a4 1) ∧ (ev_sub a4 1) < (32 : Nat)) ∧ ∀ s1, ev_up s (k + 4) (Int.toNat (ev_sub a4 1)) (ev_sub 1 (s (k + 4) (Int.toNat (ev_sub a4 1)))) = s1 → Ev layX M_X4_speaks (d + 1) 40 [(0, ev_r k), (2, ev_r k2), (3, ev_i a3), (4, ev_i a4), (5, ev_i (ev_add a5 1))] [] s1 Q))))))) :
    Ev layX M_X4_speaks (d + 1) 136 [(0, ev_r k), (2, ev_r k2), (3, ev_i a3), (4, ev_i a4), (5, ev_i a5), (6, ev_i a6)] [] s Q := by
  refine Ev_iload 5 dX4_speaks_136 rfl ?_
  refine Ev_bipushC dX4_speaks_138 rfl ?_
  refine Ev_icmp_ne (tgt := 171) dX4_speaks_140 rfl (fun c => ?_) (fun c => ?_)
  · replace h := h.1 c
    exact Ev_sub [0, 1, 2, 3, 4, 5] rfl h
  · replace h := h.2 c
    refine Ev_iload 3 dX4_speaks_143 rfl ?_
    refine Ev_if_le (tgt := 171) dX4_speaks_145 rfl (fun c => ?_) (fun c => ?_)
    · replace h := h.1 c
      exact Ev_sub [0, 1, 2, 3, 4, 5] rfl h
    · replace h := h.2 c
      refine Ev_aload_n 0 dX4_speaks_148 rfl rfl ?_
      refine Ev_getR (i := 3) cl_X4 hk.1 (Nat.le_of_ble_eq_true rfl) rfl wd_220 dX4_speaks_149 ?_
      refine Ev_iload 3 dX4_speaks_152 rfl ?_
      refine Ev_iconst dX4_speaks_154 rfl (ev_Rc rfl) ?_
      refine Ev_isub dX4_speaks_155 ?_
      refine Ev_iconst dX4_speaks_156 rfl (ev_Rc rfl) ?_
      refine Ev_aload_n 0 dX4_speaks_157 rfl rfl ?_
      refine Ev_getR (i := 3) cl_X4 hk.1 (Nat.le_of_ble_eq_true rfl) rfl wd_220 dX4_speaks_158 ?_
      refine Ev_iload 3 dX4_speaks_161 rfl ?_
      refine Ev_iconst dX4_speaks_163 rfl (ev_Rc rfl) ?_
      refine Ev_isub dX4_speaks_164 ?_
      obtain ⟨h0, h⟩ := h
      refine Ev_iald hk.2.2.2.2 h0 dX4_speaks_165 ?_
      refine Ev_isub dX4_speaks_166 ?_
      obtain ⟨h0, h⟩ := h
      refine Ev_iast hk.2.2.2.2 h0 dX4_speaks_167 (Ev_nm (fun s1 es1 => ?_))
      replace h := h s1 es1
      refine Ev_goto (tgt := 210) dX4_speaks_168 rfl ?_
      refine Ev_iinc (j := 4) (l' := [(5, ev_i (ev_add a5 1)), (0, ev_r k), (2, ev_r k2), (3, ev_i a3), (4, ev_i a4), (6, ev_i a6)]) dX4_speaks_210 rfl (Nat.le_of_ble_eq_true rfl) rfl ?_
      refine Ev_goto (tgt := 40) dX4_speaks_213 rfl ?_
      exact Ev_sub [1, 2, 3, 4, 0] rfl h
theorem wp_X4_speaks_171 {d : Nat} {k : Nat} (hk : is_X4 k) {k2 n2 : Nat} (hk2 : layX[k2]? = some (.inl (0, n2))) (hn2 : n2 < 2147483648) {s : ev_S} {Q : Option ev_V → ev_S → Prop} {a3 a4 a5 a6 : Int}
    (h : ((a4 ≤ 1 → Ev layX M_X4_speaks (d + 1) 40 [(0, ev_r k), (2, ev_r k2), (3, ev_i a3), (4, ev_i a4), (5, ev_i (ev_add a5 1))] [] s Q) ∧ (1 < a4 → ((0 ≤ (ev_sub (ev_add a4 (-1)) 1) ∧ (ev_sub (ev_add a4 (-1)) 1) < (32 : Nat)) ∧ ((0 ≤ (ev_add a4 (-1)) ∧ (ev_add a4 (-1)) < (32 : Nat)) ∧ (Ev layX M_X4_joined d 0 [(0, ev_i a6), (1, ev_i (s (k + 4) (Int.toNat (ev_sub (ev_add a4 (-1)) 1)))), (2, ev_i (s (k + 4) (Int.toNat (ev_add a4 (-1)))))] [] s (ev_pi (fun r2 s1 => ((0 ≤ (ev_sub (ev_add a4 (-1)) 1) ∧ (ev_sub (ev_add a4 (-1)) 1) < (32 : Nat)) ∧ ∀ s3, ev_up s1 (k + 4) (Int.toNat (ev_sub (ev_add a4 (-1)) 1)) r2 = s3 → Ev layX M_X4_speaks (d + 1) 40 [(0, ev_r k), (2, ev_r k2), (3, ev_i a3), (4, ev_i (ev_add a4 (-1))), (5, ev_i (ev_add a5 1))] [] s3 Q))))))))) :
    Ev layX M_X4_speaks (d + 1) 171 [(0, ev_r k), (2, ev_r k2), (3, ev_i a3), (4, ev_i a4), (5, ev_i a5), (6, ev_i a6)] [] s Q := by
  refine Ev_iload 3 dX4_speaks_171 rfl ?_
  refine Ev_iconst dX4_speaks_173 rfl (ev_Rc rfl) ?_
  refine Ev_icmp_le (tgt := 210) dX4_speaks_174 rfl (fun c => ?_) (fun c => ?_)
  · replace h := h.1 c
    refine Ev_iinc (j := 4) (l' := [(5, ev_i (ev_add a5 1)), (0, ev_r k), (2, ev_r k2), (3, ev_i a3), (4, ev_i a4), (6, ev_i a6)]) dX4_speaks_210 rfl (Nat.le_of_ble_eq_true rfl) rfl ?_
    refine Ev_goto (tgt := 40) dX4_speaks_213 rfl ?_
    exact Ev_sub [1, 2, 3, 4, 0] rfl h
  · replace h := h.2 c
    refine Ev_iinc (j := 3) (l' := [(4, ev_i (ev_add a4 (-1))), (0, ev_r k), (2, ev_r k2), (3, ev_i a3), (5, ev_i a5), (6, ev_i a6)]) dX4_speaks_177 rfl (Nat.le_of_ble_eq_true rfl) rfl ?_
    refine Ev_aload_n 1 dX4_speaks_180 rfl rfl ?_
    refine Ev_getR (i := 3) cl_X4 hk.1 (Nat.le_of_ble_eq_true rfl) rfl wd_220 dX4_speaks_181 ?_
    refine Ev_iload 0 dX4_speaks_184 rfl ?_
    refine Ev_iconst dX4_speaks_186 rfl (ev_Rc rfl) ?_
    refine Ev_isub dX4_speaks_187 ?_
    refine Ev_iload 5 dX4_speaks_188 rfl ?_
    refine Ev_aload_n 1 dX4_speaks_190 rfl rfl ?_
    refine Ev_getR (i := 3) cl_X4 hk.1 (Nat.le_of_ble_eq_true rfl) rfl wd_220 dX4_speaks_191 ?_
    refine Ev_iload 0 dX4_speaks_194 rfl ?_
    refine Ev_iconst dX4_speaks_196 rfl (ev_Rc rfl) ?_
    refine Ev_isub dX4_speaks_197 ?_
    obtain ⟨h0, h⟩ := h
    refine Ev_iald hk.2.2.2.2 h0 dX4_speaks_198 ?_
    refine Ev_aload_n 1 dX4_speaks_199 rfl rfl ?_
    refine Ev_getR (i := 3) cl_X4 hk.1 (Nat.le_of_ble_eq_true rfl) rfl wd_220 dX4_speaks_200 ?_
    refine Ev_iload 0 dX4_speaks_203 rfl ?_
    obtain ⟨h0, h⟩ := h
    refine Ev_iald hk.2.2.2.2 h0 dX4_speaks_205 ?_
    refine Ev_callS (As := [ev_i a6, ev_i (s (k + 4) (Int.toNat (ev_sub (ev_add a4 (-1)) 1))), ev_i (s (k + 4) (Int.toNat (ev_add a4 (-1))))]) (st := [ev_i (ev_sub (ev_add a4 (-1)) 1), ev_r (k + 4)]) (M' := M_X4_joined) cm_X4_joined wd_1093 wd_1094 dX4_speaks_206 (Nat.le_refl _) rfl (Nat.le_of_ble_eq_true rfl) (Nat.le_of_ble_eq_true rfl) h (fun v u h hk => ?_)
    obtain ⟨r2, rfl⟩ := hk
    obtain ⟨s1, rfl⟩ : ∃ x, x = u := ⟨_, rfl⟩
    replace h := h r2 rfl
    obtain ⟨h0, h⟩ := h
    refine Ev_iast hk.2.2.2.2 h0 dX4_speaks_209 (Ev_nm (fun s3 es3 => ?_))
    replace h := h s3 es3
    refine Ev_iinc (j := 4) (l' := [(5, ev_i (ev_add a5 1)), (4, ev_i (ev_add a4 (-1))), (0, ev_r k), (2, ev_r k2), (3, ev_i a3), (6, ev_i a6)]) dX4_speaks_210 rfl (Nat.le_of_ble_eq_true rfl) rfl ?_
    refine Ev_goto (tgt := 40) dX4_speaks_213 rfl ?_
    exact Ev_sub [2, 3, 4, 1, 0] rfl h
theorem dX4_joined_0 : decode cX4_joined 0 = .ok (.iload_n 0, 1) := by decide +kernel
theorem dX4_joined_1 : decode cX4_joined 1 = .ok (.tableswitch 112 10 18 #[51, 55, 59, 63, 75, 86, 97, 112, 108], 51) := by decide +kernel
theorem dX4_joined_52 : decode cX4_joined 52 = .ok (.iload_n 1, 1) := by decide +kernel
theorem dX4_joined_53 : decode cX4_joined 53 = .ok (.iload_n 2, 1) := by decide +kernel
theorem dX4_joined_54 : decode cX4_joined 54 = .ok (.iadd, 1) := by decide +kernel
theorem dX4_joined_55 : decode cX4_joined 55 = .ok (.ireturn, 1) := by decide +kernel
theorem dX4_joined_56 : decode cX4_joined 56 = .ok (.iload_n 1, 1) := by decide +kernel
theorem dX4_joined_57 : decode cX4_joined 57 = .ok (.iload_n 2, 1) := by decide +kernel
theorem dX4_joined_58 : decode cX4_joined 58 = .ok (.isub, 1) := by decide +kernel
theorem dX4_joined_59 : decode cX4_joined 59 = .ok (.ireturn, 1) := by decide +kernel
theorem dX4_joined_60 : decode cX4_joined 60 = .ok (.iload_n 1, 1) := by decide +kernel
theorem dX4_joined_61 : decode cX4_joined 61 = .ok (.iload_n 2, 1) := by decide +kernel
theorem dX4_joined_62 : decode cX4_joined 62 = .ok (.imul, 1) := by decide +kernel
theorem dX4_joined_63 : decode cX4_joined 63 = .ok (.ireturn, 1) := by decide +kernel
theorem dX4_joined_64 : decode cX4_joined 64 = .ok (.iload_n 2, 1) := by decide +kernel
theorem dX4_joined_65 : decode cX4_joined 65 = .ok (.ifCond .ne 7, 3) := by decide +kernel
theorem dX4_joined_68 : decode cX4_joined 68 = .ok (.iconst 0, 1) := by decide +kernel
theorem dX4_joined_69 : decode cX4_joined 69 = .ok (.goto 6, 3) := by decide +kernel
theorem dX4_joined_72 : decode cX4_joined 72 = .ok (.iload_n 1, 1) := by decide +kernel
theorem dX4_joined_73 : decode cX4_joined 73 = .ok (.iload_n 2, 1) := by decide +kernel
theorem dX4_joined_74 : decode cX4_joined 74 = .ok (.idiv, 1) := by decide +kernel
theorem dX4_joined_75 : decode cX4_joined 75 = .ok (.ireturn, 1) := by decide +kernel
theorem dX4_joined_76 : decode cX4_joined 76 = .ok (.iload_n 1, 1) := by decide +kernel
theorem dX4_joined_77 : decode cX4_joined 77 = .ok (.iload_n 2, 1) := by decide +kernel
theorem dX4_joined_78 : decode cX4_joined 78 = .ok (.if_icmp .ge 7, 3) := by decide +kernel
theorem dX4_joined_81 : decode cX4_joined 81 = .ok (.iconst 1, 1) := by decide +kernel
theorem dX4_joined_82 : decode cX4_joined 82 = .ok (.goto 4, 3) := by decide +kernel
theorem dX4_joined_85 : decode cX4_joined 85 = .ok (.iconst 0, 1) := by decide +kernel
theorem dX4_joined_86 : decode cX4_joined 86 = .ok (.ireturn, 1) := by decide +kernel
theorem dX4_joined_87 : decode cX4_joined 87 = .ok (.iload_n 1, 1) := by decide +kernel
theorem dX4_joined_88 : decode cX4_joined 88 = .ok (.iload_n 2, 1) := by decide +kernel
theorem dX4_joined_89 : decode cX4_joined 89 = .ok (.if_icmp .ne 7, 3) := by decide +kernel
theorem dX4_joined_92 : decode cX4_joined 92 = .ok (.iconst 1, 1) := by decide +kernel
theorem dX4_joined_93 : decode cX4_joined 93 = .ok (.goto 4, 3) := by decide +kernel
theorem dX4_joined_96 : decode cX4_joined 96 = .ok (.iconst 0, 1) := by decide +kernel
theorem dX4_joined_97 : decode cX4_joined 97 = .ok (.ireturn, 1) := by decide +kernel
theorem dX4_joined_98 : decode cX4_joined 98 = .ok (.iload_n 1, 1) := by decide +kernel
theorem dX4_joined_99 : decode cX4_joined 99 = .ok (.iload_n 2, 1) := by decide +kernel
theorem dX4_joined_100 : decode cX4_joined 100 = .ok (.if_icmp .le 7, 3) := by decide +kernel
theorem dX4_joined_103 : decode cX4_joined 103 = .ok (.iconst 1, 1) := by decide +kernel
theorem dX4_joined_104 : decode cX4_joined 104 = .ok (.goto 4, 3) := by decide +kernel
theorem dX4_joined_107 : decode cX4_joined 107 = .ok (.iconst 0, 1) := by decide +kernel
theorem dX4_joined_108 : decode cX4_joined 108 = .ok (.ireturn, 1) := by decide +kernel
theorem dX4_joined_109 : decode cX4_joined 109 = .ok (.iload_n 1, 1) := by decide +kernel
theorem dX4_joined_110 : decode cX4_joined 110 = .ok (.iload_n 2, 1) := by decide +kernel
theorem dX4_joined_111 : decode cX4_joined 111 = .ok (.iand, 1) := by decide +kernel
theorem dX4_joined_112 : decode cX4_joined 112 = .ok (.ireturn, 1) := by decide +kernel
theorem dX4_joined_113 : decode cX4_joined 113 = .ok (.iload_n 1, 1) := by decide +kernel
theorem dX4_joined_114 : decode cX4_joined 114 = .ok (.iload_n 2, 1) := by decide +kernel
theorem dX4_joined_115 : decode cX4_joined 115 = .ok (.ior, 1) := by decide +kernel
theorem dX4_joined_116 : decode cX4_joined 116 = .ok (.ireturn, 1) := by decide +kernel
theorem wp_X4_joined_0 {d : Nat} {s : ev_S} {Q : Option ev_V → ev_S → Prop} {a0 a1 a2 : Int}
    (h : ((a0 < 10 ∨ 18 < a0 → Q (some (ev_i (ev_or a1 a2))) s) ∧ (a0 = 10 → Q (some (ev_i (ev_add a1 a2))) s) ∧ (a0 = 11 → Q (some (ev_i (ev_sub a1 a2))) s) ∧ (a0 = 12 → Q (some (ev_i (ev_mul a1 a2))) s) ∧ (a0 = 13 → ((a2 ≠ 0 → (a2 ≠ 0 ∧ Q (some (ev_i (ev_div a1 a2))) s)) ∧ (a2 = 0 → Q (some (ev_i 0)) s))) ∧ (a0 = 14 → ((a2 ≤ a1 → Q (some (ev_i 0)) s) ∧ (a1 < a2 → Q (some (ev_i 1)) s))) ∧ (a0 = 15 → ((a1 ≠ a2 → Q (some (ev_i 0)) s) ∧ (a1 = a2 → Q (some (ev_i 1)) s))) ∧ (a0 = 16 → ((a1 ≤ a2 → Q (some (ev_i 0)) s) ∧ (a2 < a1 → Q (some (ev_i 1)) s))) ∧ (a0 = 17 → Q (some (ev_i (ev_or a1 a2))) s) ∧ (a0 = 18 → Q (some (ev_i (ev_and a1 a2))) s))) :
    Ev layX M_X4_joined d 0 [(0, ev_i a0), (1, ev_i a1), (2, ev_i a2)] [] s Q := by
  refine Ev_iload_n 0 dX4_joined_0 rfl rfl ?_
  by_cases g : a0 < 10 ∨ 18 < a0
  · replace h := h.1 g
    refine Ev_tabOut (tgt := 113) dX4_joined_1 g rfl ?_
    refine Ev_iload_n 1 dX4_joined_113 rfl rfl ?_
    refine Ev_iload_n 2 dX4_joined_114 rfl rfl ?_
    refine Ev_ior dX4_joined_115 ?_
    exact Ev_iret rfl dX4_joined_116 rfl h
  · replace h := h.2
    rcases (show a0 = 10 ∨ a0 = 11 ∨ a0 = 12 ∨ a0 = 13 ∨ a0 = 14 ∨ a0 = 15 ∨ a0 = 16 ∨ a0 = 17 ∨ a0 = 18 by omega) with g | g | g | g | g | g | g | g | g
    · replace h := h.1 g
      refine Ev_tabIn (tgt := 52) (off := 51) dX4_joined_1 (by omega) (by omega) (by rw [g]; rfl) rfl ?_
      refine Ev_iload_n 1 dX4_joined_52 rfl rfl ?_
      refine Ev_iload_n 2 dX4_joined_53 rfl rfl ?_
      refine Ev_iadd dX4_joined_54 ?_
      exact Ev_iret rfl dX4_joined_55 rfl h
    · replace h := h.2.1 g
      refine Ev_tabIn (tgt := 56) (off := 55) dX4_joined_1 (by omega) (by omega) (by rw [g]; rfl) rfl ?_
      refine Ev_iload_n 1 dX4_joined_56 rfl rfl ?_
      refine Ev_iload_n 2 dX4_joined_57 rfl rfl ?_
      refine Ev_isub dX4_joined_58 ?_
      exact Ev_iret rfl dX4_joined_59 rfl h
    · replace h := h.2.2.1 g
      refine Ev_tabIn (tgt := 60) (off := 59) dX4_joined_1 (by omega) (by omega) (by rw [g]; rfl) rfl ?_
      refine Ev_iload_n 1 dX4_joined_60 rfl rfl ?_
      refine Ev_iload_n 2 dX4_joined_61 rfl rfl ?_
      refine Ev_imul dX4_joined_62 ?_
      exact Ev_iret rfl dX4_joined_63 rfl h
    · replace h := h.2.2.2.1 g
      refine Ev_tabIn (tgt := 64) (off := 63) dX4_joined_1 (by omega) (by omega) (by rw [g]; rfl) rfl ?_
      refine Ev_iload_n 2 dX4_joined_64 rfl rfl ?_
      refine Ev_if_ne (tgt := 72) dX4_joined_65 rfl (fun c => ?_) (fun c => ?_)
      · replace h := h.1 c
        refine Ev_iload_n 1 dX4_joined_72 rfl rfl ?_
        refine Ev_iload_n 2 dX4_joined_73 rfl rfl ?_
        obtain ⟨h0, h⟩ := h
        refine Ev_idiv dX4_joined_74 h0 ?_
        exact Ev_iret rfl dX4_joined_75 rfl h
      · replace h := h.2 c
        refine Ev_iconst dX4_joined_68 rfl (ev_Rc rfl) ?_
        refine Ev_goto (tgt := 75) dX4_joined_69 rfl ?_
        exact Ev_iret rfl dX4_joined_75 rfl h
    · replace h := h.2.2.2.2.1 g
      refine Ev_tabIn (tgt := 76) (off := 75) dX4_joined_1 (by omega) (by omega) (by rw [g]; rfl) rfl ?_
      refine Ev_iload_n 1 dX4_joined_76 rfl rfl ?_
      refine Ev_iload_n 2 dX4_joined_77 rfl rfl ?_
      refine Ev_icmp_ge (tgt := 85) dX4_joined_78 rfl (fun c => ?_) (fun c => ?_)
      · replace h := h.1 c
        refine Ev_iconst dX4_joined_85 rfl (ev_Rc rfl) ?_
        exact Ev_iret rfl dX4_joined_86 rfl h
      · replace h := h.2 c
        refine Ev_iconst dX4_joined_81 rfl (ev_Rc rfl) ?_
        refine Ev_goto (tgt := 86) dX4_joined_82 rfl ?_
        exact Ev_iret rfl dX4_joined_86 rfl h
    · replace h := h.2.2.2.2.2.1 g
      refine Ev_tabIn (tgt := 87) (off := 86) dX4_joined_1 (by omega) (by omega) (by rw [g]; rfl) rfl ?_
      refine Ev_iload_n 1 dX4_joined_87 rfl rfl ?_
      refine Ev_iload_n 2 dX4_joined_88 rfl rfl ?_
      refine Ev_icmp_ne (tgt := 96) dX4_joined_89 rfl (fun c => ?_) (fun c => ?_)
      · replace h := h.1 c
        refine Ev_iconst dX4_joined_96 rfl (ev_Rc rfl) ?_
        exact Ev_iret rfl dX4_joined_97 rfl h
      · replace h := h.2 c
        refine Ev_iconst dX4_joined_92 rfl (ev_Rc rfl) ?_
        refine Ev_goto (tgt := 97) dX4_joined_93 rfl ?_
        exact Ev_iret rfl dX4_joined_97 rfl h
    · replace h := h.2.2.2.2.2.2.1 g
      refine Ev_tabIn (tgt := 98) (off := 97) dX4_joined_1 (by omega) (by omega) (by rw [g]; rfl) rfl ?_
      refine Ev_iload_n 1 dX4_joined_98 rfl rfl ?_
      refine Ev_iload_n 2 dX4_joined_99 rfl rfl ?_
      refine Ev_icmp_le (tgt := 107) dX4_joined_100 rfl (fun c => ?_) (fun c => ?_)
      · replace h := h.1 c
        refine Ev_iconst dX4_joined_107 rfl (ev_Rc rfl) ?_
        exact Ev_iret rfl dX4_joined_108 rfl h
      · replace h := h.2 c
        refine Ev_iconst dX4_joined_103 rfl (ev_Rc rfl) ?_
        refine Ev_goto (tgt := 108) dX4_joined_104 rfl ?_
        exact Ev_iret rfl dX4_joined_108 rfl h
    · replace h := h.2.2.2.2.2.2.2.1 g
      refine Ev_tabIn (tgt := 113) (off := 112) dX4_joined_1 (by omega) (by omega) (by rw [g]; rfl) rfl ?_
      refine Ev_iload_n 1 dX4_joined_113 rfl rfl ?_
      refine Ev_iload_n 2 dX4_joined_114 rfl rfl ?_
      refine Ev_ior dX4_joined_115 ?_
      exact Ev_iret rfl dX4_joined_116 rfl h
    · replace h := h.2.2.2.2.2.2.2.2 g
      refine Ev_tabIn (tgt := 109) (off := 108) dX4_joined_1 (by omega) (by omega) (by rw [g]; rfl) rfl ?_
      refine Ev_iload_n 1 dX4_joined_109 rfl rfl ?_
      refine Ev_iload_n 2 dX4_joined_110 rfl rfl ?_
      refine Ev_iand dX4_joined_111 ?_
      exact Ev_iret rfl dX4_joined_112 rfl h
