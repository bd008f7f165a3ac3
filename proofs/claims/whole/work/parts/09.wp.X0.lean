theorem dX0_write_0 : decode cX0_write 0 = .ok (.iload_n 1, 1) := by decide +kernel
theorem dX0_write_1 : decode cX0_write 1 = .ok (.ifCond .lt 9, 3) := by decide +kernel
theorem dX0_write_4 : decode cX0_write 4 = .ok (.iload_n 1, 1) := by decide +kernel
theorem dX0_write_5 : decode cX0_write 5 = .ok (.bipush 100, 2) := by decide +kernel
theorem dX0_write_7 : decode cX0_write 7 = .ok (.if_icmp .lt 4, 3) := by decide +kernel
theorem dX0_write_10 : decode cX0_write 10 = .ok (.return_, 1) := by decide +kernel
theorem dX0_write_11 : decode cX0_write 11 = .ok (.iload_n 1, 1) := by decide +kernel
theorem dX0_write_12 : decode cX0_write 12 = .ok (.iconst 5, 1) := by decide +kernel
theorem dX0_write_13 : decode cX0_write 13 = .ok (.imul, 1) := by decide +kernel
theorem dX0_write_14 : decode cX0_write 14 = .ok (.istore 7, 2) := by decide +kernel
theorem dX0_write_16 : decode cX0_write 16 = .ok (.aload_n 0, 1) := by decide +kernel
theorem dX0_write_17 : decode cX0_write 17 = .ok (.getfield 11, 3) := by decide +kernel
theorem dX0_write_20 : decode cX0_write 20 = .ok (.iload 7, 2) := by decide +kernel
theorem dX0_write_22 : decode cX0_write 22 = .ok (.iconst 0, 1) := by decide +kernel
theorem dX0_write_23 : decode cX0_write 23 = .ok (.iadd, 1) := by decide +kernel
theorem dX0_write_24 : decode cX0_write 24 = .ok (.iload_n 2, 1) := by decide +kernel
theorem dX0_write_25 : decode cX0_write 25 = .ok (.iastore, 1) := by decide +kernel
theorem dX0_write_26 : decode cX0_write 26 = .ok (.aload_n 0, 1) := by decide +kernel
theorem dX0_write_27 : decode cX0_write 27 = .ok (.getfield 11, 3) := by decide +kernel
theorem dX0_write_30 : decode cX0_write 30 = .ok (.iload 7, 2) := by decide +kernel
theorem dX0_write_32 : decode cX0_write 32 = .ok (.iconst 1, 1) := by decide +kernel
theorem dX0_write_33 : decode cX0_write 33 = .ok (.iadd, 1) := by decide +kernel
theorem dX0_write_34 : decode cX0_write 34 = .ok (.iload_n 3, 1) := by decide +kernel
theorem dX0_write_35 : decode cX0_write 35 = .ok (.iastore, 1) := by decide +kernel
theorem dX0_write_36 : decode cX0_write 36 = .ok (.aload_n 0, 1) := by decide +kernel
theorem dX0_write_37 : decode cX0_write 37 = .ok (.getfield 11, 3) := by decide +kernel
theorem dX0_write_40 : decode cX0_write 40 = .ok (.iload 7, 2) := by decide +kernel
theorem dX0_write_42 : decode cX0_write 42 = .ok (.iconst 2, 1) := by decide +kernel
theorem dX0_write_43 : decode cX0_write 43 = .ok (.iadd, 1) := by decide +kernel
theorem dX0_write_44 : decode cX0_write 44 = .ok (.iload 4, 2) := by decide +kernel
theorem dX0_write_46 : decode cX0_write 46 = .ok (.iastore, 1) := by decide +kernel
theorem dX0_write_47 : decode cX0_write 47 = .ok (.aload_n 0, 1) := by decide +kernel
theorem dX0_write_48 : decode cX0_write 48 = .ok (.getfield 11, 3) := by decide +kernel
theorem dX0_write_51 : decode cX0_write 51 = .ok (.iload 7, 2) := by decide +kernel
theorem dX0_write_53 : decode cX0_write 53 = .ok (.iconst 3, 1) := by decide +kernel
theorem dX0_write_54 : decode cX0_write 54 = .ok (.iadd, 1) := by decide +kernel
theorem dX0_write_55 : decode cX0_write 55 = .ok (.iload 5, 2) := by decide +kernel
theorem dX0_write_57 : decode cX0_write 57 = .ok (.iastore, 1) := by decide +kernel
theorem dX0_write_58 : decode cX0_write 58 = .ok (.aload_n 0, 1) := by decide +kernel
theorem dX0_write_59 : decode cX0_write 59 = .ok (.getfield 11, 3) := by decide +kernel
theorem dX0_write_62 : decode cX0_write 62 = .ok (.iload 7, 2) := by decide +kernel
theorem dX0_write_64 : decode cX0_write 64 = .ok (.iconst 4, 1) := by decide +kernel
theorem dX0_write_65 : decode cX0_write 65 = .ok (.iadd, 1) := by decide +kernel
theorem dX0_write_66 : decode cX0_write 66 = .ok (.iload 6, 2) := by decide +kernel
theorem dX0_write_68 : decode cX0_write 68 = .ok (.ifCond .eq 7, 3) := by decide +kernel
theorem dX0_write_71 : decode cX0_write 71 = .ok (.iconst 1, 1) := by decide +kernel
theorem dX0_write_72 : decode cX0_write 72 = .ok (.goto 4, 3) := by decide +kernel
theorem dX0_write_75 : decode cX0_write 75 = .ok (.iconst 0, 1) := by decide +kernel
theorem dX0_write_76 : decode cX0_write 76 = .ok (.iastore, 1) := by decide +kernel
theorem dX0_write_77 : decode cX0_write 77 = .ok (.return_, 1) := by decide +kernel
theorem wp_X0_write_0 {d : Nat} {k : Nat} (hk : is_X0 k) {s : ev_S} {Q : Option ev_V → ev_S → Prop} {a1 a2 a3 a4 a5 a6 : Int}
    (h : ((a1 < 0 → Q none s) ∧ (0 ≤ a1 → ((a1 < 100 → ((0 ≤ (ev_add (ev_mul a1 5) 0) ∧ (ev_add (ev_mul a1 5) 0) < (500 : Nat)) ∧ ∀ s1, ev_up s (k + 1) (Int.toNat (ev_add (ev_mul a1 5) 0)) a2 = s1 → ((0 ≤ (ev_add (ev_mul a1 5) 1) ∧ (ev_add (ev_mul a1 5) 1) < (500 : Nat)) ∧ ∀ s2, ev_up s1 (k + 1) (Int.toNat (ev_add (ev_mul a1 5) 1)) a3 = s2 → ((0 ≤ (ev_add (ev_mul a1 5) 2) ∧ (ev_add (ev_mul a1 5) 2) < (500 : Nat)) ∧ ∀ s3, ev_up s2 (k + 1) (Int.toNat (ev_add (ev_mul a1 5) 2)) a4 = s3 → ((0 ≤ (ev_add (ev_mul a1 5) 3) ∧ (ev_add (ev_mul a1 5) 3) < (500 : Nat)) ∧ ∀ s4, ev_up s3 (k + 1) (Int.toNat (ev_add (ev_mul a1 5) 3)) a5 = s4 → ((a6 = 0 → ((0 ≤ (ev_add (ev_mul a1 5) 4) ∧ (ev_add (ev_mul a1 5) 4) < (500 : Nat)) ∧ ∀ s5, ev_up s4 (k + 1) (Int.toNat (ev_add (ev_mul a1 5) 4)) 0 = s5 → Q none s5)) ∧ (a6 ≠ 0 → ((0 ≤ (ev_add (ev_mul a1 5) 4) ∧ (ev_add (ev_mul a1 5) 4) < (500 : Nat)) ∧ ∀ s6, ev_up s4 (k + 1) (Int.toNat (ev_add (ev_mul a1 5) 4)) 1 = s6 → Q none s6)))))))) ∧ (100 ≤ a1 → Q none s))))) :
    Ev layX M_X0_write d 0 [(0, ev_r k), (1, ev_i a1), (2, ev_i a2), (3, ev_i a3), (4, ev_i a4), (5, ev_i a5), (6, ev_i a6)] [] s Q := by
  refine Ev_iload_n 1 dX0_write_0 rfl rfl ?_
  refine Ev_if_lt (tgt := 10) dX0_write_1 rfl (fun c => ?_) (fun c => ?_)
  · replace h := h.1 c
    exact Ev_vret rfl dX0_write_10 h
  · replace h := h.2 c
    refine Ev_iload_n 1 dX0_write_4 rfl rfl ?_
    refine Ev_bipushC dX0_write_5 rfl ?_
    refine Ev_icmp_lt (tgt := 11) dX0_write_7 rfl (fun c => ?_) (fun c => ?_)
    · replace h := h.1 c
      refine Ev_iload_n 1 dX0_write_11 rfl rfl ?_
      refine Ev_iconst dX0_write_12 rfl (ev_Rc rfl) ?_
      refine Ev_imul dX0_write_13 ?_
      refine Ev_istore (l' := [(7, ev_i (ev_mul a1 5)), (0, ev_r k), (1, ev_i a1), (2, ev_i a2), (3, ev_i a3), (4, ev_i a4), (5, ev_i a5), (6, ev_i a6)]) dX0_write_14 (Nat.le_of_ble_eq_true rfl) rfl ?_
      refine Ev_aload_n 1 dX0_write_16 rfl rfl ?_
      refine Ev_getR (i := 0) cl_X0 hk.1 (Nat.le_of_ble_eq_true rfl) rfl wd_419 dX0_write_17 ?_
      refine Ev_iload 0 dX0_write_20 rfl ?_
      refine Ev_iconst dX0_write_22 rfl (ev_Rc rfl) ?_
      refine Ev_iadd dX0_write_23 ?_
      refine Ev_iload_n 3 dX0_write_24 rfl rfl ?_
      obtain ⟨h0, h⟩ := h
      refine Ev_iast hk.2 h0 dX0_write_25 (Ev_nm (fun s1 es1 => ?_))
      replace h := h s1 es1
      refine Ev_aload_n 1 dX0_write_26 rfl rfl ?_
      refine Ev_getR (i := 0) cl_X0 hk.1 (Nat.le_of_ble_eq_true rfl) rfl wd_419 dX0_write_27 ?_
      refine Ev_iload 0 dX0_write_30 rfl ?_
      refine Ev_iconst dX0_write_32 rfl (ev_Rc rfl) ?_
      refine Ev_iadd dX0_write_33 ?_
      refine Ev_iload_n 4 dX0_write_34 rfl rfl ?_
      obtain ⟨h0, h⟩ := h
      refine Ev_iast hk.2 h0 dX0_write_35 (Ev_nm (fun s2 es2 => ?_))
      replace h := h s2 es2
      refine Ev_aload_n 1 dX0_write_36 rfl rfl ?_
      refine Ev_getR (i := 0) cl_X0 hk.1 (Nat.le_of_ble_eq_true rfl) rfl wd_419 dX0_write_37 ?_
      refine Ev_iload 0 dX0_write_40 rfl ?_
      refine Ev_iconst dX0_write_42 rfl (ev_Rc rfl) ?_
      refine Ev_iadd dX0_write_43 ?_
      refine Ev_iload 5 dX0_write_44 rfl ?_
      obtain ⟨h0, h⟩ := h
      refine Ev_iast hk.2 h0 dX0_write_46 (Ev_nm (fun s3 es3 => ?_))
      replace h := h s3 es3
      refine Ev_aload_n 1 dX0_write_47 rfl rfl ?_
      refine Ev_getR (i := 0) cl_X0 hk.1 (Nat.le_of_ble_eq_true rfl) rfl wd_419 dX0_write_48 ?_
      refine Ev_iload 0 dX0_write_51 rfl ?_
      refine Ev_iconst dX0_write_53 rfl (ev_Rc rfl) ?_
      refine Ev_iadd dX0_write_54 ?_
      refine Ev_iload 6 dX0_write_55 rfl ?_
      obtain ⟨h0, h⟩ := h
      refine Ev_iast hk.2 h0 dX0_write_57 (Ev_nm (fun s4 es4 => ?_))
      replace h := h s4 es4
      refine Ev_aload_n 1 dX0_write_58 rfl rfl ?_
      refine Ev_getR (i := 0) cl_X0 hk.1 (Nat.le_of_ble_eq_true rfl) rfl wd_419 dX0_write_59 ?_
      refine Ev_iload 0 dX0_write_62 rfl ?_
      refine Ev_iconst dX0_write_64 rfl (ev_Rc rfl) ?_
      refine Ev_iadd dX0_write_65 ?_
      refine Ev_iload 7 dX0_write_66 rfl ?_
      refine Ev_if_eq (tgt := 75) dX0_write_68 rfl (fun c => ?_) (fun c => ?_)
      · replace h := h.1 c
        refine Ev_iconst dX0_write_75 rfl (ev_Rc rfl) ?_
        obtain ⟨h0, h⟩ := h
        refine Ev_iast hk.2 h0 dX0_write_76 (Ev_nm (fun s5 es5 => ?_))
        replace h := h s5 es5
        exact Ev_vret rfl dX0_write_77 h
      · replace h := h.2 c
        refine Ev_iconst dX0_write_71 rfl (ev_Rc rfl) ?_
        refine Ev_goto (tgt := 76) dX0_write_72 rfl ?_
        obtain ⟨h0, h⟩ := h
        refine Ev_iast hk.2 h0 dX0_write_76 (Ev_nm (fun s6 es6 => ?_))
        replace h := h s6 es6
        exact Ev_vret rfl dX0_write_77 h
    · replace h := h.2 c
      exact Ev_vret rfl dX0_write_10 h
theorem dX0_guarding_0 : decode cX0_guarding 0 = .ok (.iload_n 1, 1) := by decide +kernel
theorem dX0_guarding_1 : decode cX0_guarding 1 = .ok (.bipush 100, 2) := by decide +kernel
theorem dX0_guarding_3 : decode cX0_guarding 3 = .ok (.invokestatic 15, 3) := by decide +kernel
theorem dX0_guarding_6 : decode cX0_guarding 6 = .ok (.iconst 1, 1) := by decide +kernel
theorem dX0_guarding_7 : decode cX0_guarding 7 = .ok (.isub, 1) := by decide +kernel
theorem dX0_guarding_8 : decode cX0_guarding 8 = .ok (.istore 5, 2) := by decide +kernel
theorem dX0_guarding_10 : decode cX0_guarding 10 = .ok (.iload 5, 2) := by decide +kernel
theorem dX0_guarding_12 : decode cX0_guarding 12 = .ok (.ifCond .lt 90, 3) := by decide +kernel
theorem dX0_guarding_15 : decode cX0_guarding 15 = .ok (.iload 5, 2) := by decide +kernel
theorem dX0_guarding_17 : decode cX0_guarding 17 = .ok (.iconst 5, 1) := by decide +kernel
theorem dX0_guarding_18 : decode cX0_guarding 18 = .ok (.imul, 1) := by decide +kernel
theorem dX0_guarding_19 : decode cX0_guarding 19 = .ok (.istore 6, 2) := by decide +kernel
theorem dX0_guarding_21 : decode cX0_guarding 21 = .ok (.aload_n 0, 1) := by decide +kernel
theorem dX0_guarding_22 : decode cX0_guarding 22 = .ok (.getfield 11, 3) := by decide +kernel
theorem dX0_guarding_25 : decode cX0_guarding 25 = .ok (.iload 6, 2) := by decide +kernel
theorem dX0_guarding_27 : decode cX0_guarding 27 = .ok (.iconst 0, 1) := by decide +kernel
theorem dX0_guarding_28 : decode cX0_guarding 28 = .ok (.iadd, 1) := by decide +kernel
theorem dX0_guarding_29 : decode cX0_guarding 29 = .ok (.iaload, 1) := by decide +kernel
theorem dX0_guarding_30 : decode cX0_guarding 30 = .ok (.iload 4, 2) := by decide +kernel
theorem dX0_guarding_32 : decode cX0_guarding 32 = .ok (.if_icmp .ge 5, 3) := by decide +kernel
theorem dX0_guarding_35 : decode cX0_guarding 35 = .ok (.iconst (-1), 1) := by decide +kernel
theorem dX0_guarding_36 : decode cX0_guarding 36 = .ok (.ireturn, 1) := by decide +kernel
theorem dX0_guarding_37 : decode cX0_guarding 37 = .ok (.iload_n 3, 1) := by decide +kernel
theorem dX0_guarding_38 : decode cX0_guarding 38 = .ok (.iconst (-1), 1) := by decide +kernel
theorem dX0_guarding_39 : decode cX0_guarding 39 = .ok (.if_icmp .eq 16, 3) := by decide +kernel
theorem dX0_guarding_42 : decode cX0_guarding 42 = .ok (.aload_n 0, 1) := by decide +kernel
theorem dX0_guarding_43 : decode cX0_guarding 43 = .ok (.getfield 11, 3) := by decide +kernel
theorem dX0_guarding_46 : decode cX0_guarding 46 = .ok (.iload 6, 2) := by decide +kernel
theorem dX0_guarding_48 : decode cX0_guarding 48 = .ok (.iconst 2, 1) := by decide +kernel
theorem dX0_guarding_49 : decode cX0_guarding 49 = .ok (.iadd, 1) := by decide +kernel
theorem dX0_guarding_50 : decode cX0_guarding 50 = .ok (.iaload, 1) := by decide +kernel
theorem dX0_guarding_51 : decode cX0_guarding 51 = .ok (.iload_n 3, 1) := by decide +kernel
theorem dX0_guarding_52 : decode cX0_guarding 52 = .ok (.if_icmp .ne 7, 3) := by decide +kernel
theorem dX0_guarding_55 : decode cX0_guarding 55 = .ok (.iconst 1, 1) := by decide +kernel
theorem dX0_guarding_56 : decode cX0_guarding 56 = .ok (.goto 4, 3) := by decide +kernel
theorem dX0_guarding_59 : decode cX0_guarding 59 = .ok (.iconst 0, 1) := by decide +kernel
theorem dX0_guarding_60 : decode cX0_guarding 60 = .ok (.istore 7, 2) := by decide +kernel
theorem dX0_guarding_62 : decode cX0_guarding 62 = .ok (.iload 7, 2) := by decide +kernel
theorem dX0_guarding_64 : decode cX0_guarding 64 = .ok (.ifCond .eq 32, 3) := by decide +kernel
theorem dX0_guarding_67 : decode cX0_guarding 67 = .ok (.aload_n 0, 1) := by decide +kernel
theorem dX0_guarding_68 : decode cX0_guarding 68 = .ok (.getfield 11, 3) := by decide +kernel
theorem dX0_guarding_71 : decode cX0_guarding 71 = .ok (.iload 6, 2) := by decide +kernel
theorem dX0_guarding_73 : decode cX0_guarding 73 = .ok (.iconst 3, 1) := by decide +kernel
theorem dX0_guarding_74 : decode cX0_guarding 74 = .ok (.iadd, 1) := by decide +kernel
theorem dX0_guarding_75 : decode cX0_guarding 75 = .ok (.iaload, 1) := by decide +kernel
theorem dX0_guarding_76 : decode cX0_guarding 76 = .ok (.iload_n 2, 1) := by decide +kernel
theorem dX0_guarding_77 : decode cX0_guarding 77 = .ok (.if_icmp .ne 19, 3) := by decide +kernel
theorem dX0_guarding_80 : decode cX0_guarding 80 = .ok (.aload_n 0, 1) := by decide +kernel
theorem dX0_guarding_81 : decode cX0_guarding 81 = .ok (.getfield 11, 3) := by decide +kernel
theorem dX0_guarding_84 : decode cX0_guarding 84 = .ok (.iload 6, 2) := by decide +kernel
theorem dX0_guarding_86 : decode cX0_guarding 86 = .ok (.iconst 4, 1) := by decide +kernel
theorem dX0_guarding_87 : decode cX0_guarding 87 = .ok (.iadd, 1) := by decide +kernel
theorem dX0_guarding_88 : decode cX0_guarding 88 = .ok (.iaload, 1) := by decide +kernel
theorem dX0_guarding_89 : decode cX0_guarding 89 = .ok (.iconst 1, 1) := by decide +kernel
theorem dX0_guarding_90 : decode cX0_guarding 90 = .ok (.if_icmp .ne 6, 3) := by decide +kernel
theorem dX0_guarding_93 : decode cX0_guarding 93 = .ok (.iload 5, 2) := by decide +kernel
theorem dX0_guarding_95 : decode cX0_guarding 95 = .ok (.ireturn, 1) := by decide +kernel
theorem dX0_guarding_96 : decode cX0_guarding 96 = .ok (.iinc 5 (-1), 3) := by decide +kernel
theorem dX0_guarding_99 : decode cX0_guarding 99 = .ok (.goto (-89), 3) := by decide +kernel
theorem dX0_guarding_102 : decode cX0_guarding 102 = .ok (.iconst (-1), 1) := by decide +kernel
theorem dX0_guarding_103 : decode cX0_guarding 103 = .ok (.ireturn, 1) := by decide +kernel
theorem wp_X0_guarding_0 {d : Nat} {k : Nat} (hk : is_X0 k) {s : ev_S} {Q : Option ev_V → ev_S → Prop} {a1 a2 a3 a4 : Int}
    (h : Ev layX M_X0_guarding (d + 1) 10 [(0, ev_r k), (2, ev_i a2), (3, ev_i a3), (4, ev_i a4), (5, ev_i (ev_sub (min a1 100) 1))] [] s Q) :
    Ev layX M_X0_guarding (d + 1) 0 [(0, ev_r k), (1, ev_i a1), (2, ev_i a2), (3, ev_i a3), (4, ev_i a4)] [] s Q := by
  refine Ev_iload_n 1 dX0_guarding_0 rfl rfl ?_
  refine Ev_bipushC dX0_guarding_1 rfl ?_
  refine Ev_mmin wd_1133 dX0_guarding_3 (Nat.le_of_ble_eq_true rfl) ?_
  refine Ev_iconst dX0_guarding_6 rfl (ev_Rc rfl) ?_
  refine Ev_isub dX0_guarding_7 ?_
  refine Ev_istore (l' := [(5, ev_i (ev_sub (min a1 100) 1)), (0, ev_r k), (1, ev_i a1), (2, ev_i a2), (3, ev_i a3), (4, ev_i a4)]) dX0_guarding_8 (Nat.le_of_ble_eq_true rfl) rfl ?_
  exact Ev_sub [1, 3, 4, 5, 0] rfl h
theorem wp_X0_guarding_10 {d : Nat} {k : Nat} (hk : is_X0 k) {s : ev_S} {Q : Option ev_V → ev_S → Prop} {a2 a3 a4 a5 : Int}
    (h : ((a5 < 0 → Q (some (ev_i (-1))) s) ∧ (0 ≤ a5 → ((0 ≤ (ev_add (ev_mul a5 5) 0) ∧ (ev_add (ev_mul a5 5) 0) < (500 : Nat)) ∧ ((a4 ≤ (s (k + 1) (Int.toNat (ev_add (ev_mul a5 5) 0))) → ((a3 = (-1) → Ev layX M_X0_guarding (d + 1) 60 [(0, ev_r k), (2, ev_i a2), (3, ev_i a3), (4, ev_i a4), (5, ev_i a5), (6, ev_i (ev_mul a5 5))] [ev_i 1] s Q) ∧ (a3 ≠ (-1) → ((0 ≤ (ev_add (ev_mul a5 5) 2) ∧ (ev_add (ev_mul a5 5) 2) < (500 : Nat)) ∧ (((s (k + 1) (Int.toNat (ev_add (ev_mul a5 5) 2))) ≠ a3 → Ev layX M_X0_guarding (d + 1) 60 [(0, ev_r k), (2, ev_i a2), (3, ev_i a3), (4, ev_i a4), (5, ev_i a5), (6, ev_i (ev_mul a5 5))] [ev_i 0] s Q) ∧ ((s (k + 1) (Int.toNat (ev_add (ev_mul a5 5) 2))) = a3 → Ev layX M_X0_guarding (d + 1) 60 [(0, ev_r k), (2, ev_i a2), (3, ev_i a3), (4, ev_i a4), (5, ev_i a5), (6, ev_i (ev_mul a5 5))] [ev_i 1] s Q)))))) ∧ ((s (k + 1) (Int.toNat (ev_add (ev_mul a5 5) 0))) < a4 → Q (some (ev_i (-1))) s)))))) :
    Ev layX M_X0_guarding (d + 1) 10 [(0, ev_r k), (2, ev_i a2), (3, ev_i a3), (4, ev_i a4), (5, ev_i a5)] [] s Q := by
  refine Ev_iload 4 dX0_guarding_10 rfl ?_
  refine Ev_if_lt (tgt := 102) dX0_guarding_12 rfl (fun c => ?_) (fun c => ?_)
  · replace h := h.1 c
    refine Ev_iconst dX0_guarding_102 rfl (ev_Rc rfl) ?_
    exact Ev_iret rfl dX0_guarding_103 rfl h
  · replace h := h.2 c
    refine Ev_iload 4 dX0_guarding_15 rfl ?_
    refine Ev_iconst dX0_guarding_17 rfl (ev_Rc rfl) ?_
    refine Ev_imul dX0_guarding_18 ?_
    refine Ev_istore (l' := [(6, ev_i (ev_mul a5 5)), (0, ev_r k), (2, ev_i a2), (3, ev_i a3), (4, ev_i a4), (5, ev_i a5)]) dX0_guarding_19 (Nat.le_of_ble_eq_true rfl) rfl ?_
    refine Ev_aload_n 1 dX0_guarding_21 rfl rfl ?_
    refine Ev_getR (i := 0) cl_X0 hk.1 (Nat.le_of_ble_eq_true rfl) rfl wd_419 dX0_guarding_22 ?_
    refine Ev_iload 0 dX0_guarding_25 rfl ?_
    refine Ev_iconst dX0_guarding_27 rfl (ev_Rc rfl) ?_
    refine Ev_iadd dX0_guarding_28 ?_
    obtain ⟨h0, h⟩ := h
    refine Ev_iald hk.2 h0 dX0_guarding_29 ?_
    refine Ev_iload 4 dX0_guarding_30 rfl ?_
    refine Ev_icmp_ge (tgt := 37) dX0_guarding_32 rfl (fun c => ?_) (fun c => ?_)
    · replace h := h.1 c
      refine Ev_iload_n 3 dX0_guarding_37 rfl rfl ?_
      refine Ev_iconst dX0_guarding_38 rfl (ev_Rc rfl) ?_
      refine Ev_icmp_eq (tgt := 55) dX0_guarding_39 rfl (fun c => ?_) (fun c => ?_)
      · replace h := h.1 c
        refine Ev_iconst dX0_guarding_55 rfl (ev_Rc rfl) ?_
        refine Ev_goto (tgt := 60) dX0_guarding_56 rfl ?_
        exact Ev_sub [1, 2, 3, 4, 5, 0] rfl h
      · replace h := h.2 c
        refine Ev_aload_n 1 dX0_guarding_42 rfl rfl ?_
        refine Ev_getR (i := 0) cl_X0 hk.1 (Nat.le_of_ble_eq_true rfl) rfl wd_419 dX0_guarding_43 ?_
        refine Ev_iload 0 dX0_guarding_46 rfl ?_
        refine Ev_iconst dX0_guarding_48 rfl (ev_Rc rfl) ?_
        refine Ev_iadd dX0_guarding_49 ?_
        obtain ⟨h0, h⟩ := h
        refine Ev_iald hk.2 h0 dX0_guarding_50 ?_
        refine Ev_iload_n 3 dX0_guarding_51 rfl rfl ?_
        refine Ev_icmp_ne (tgt := 59) dX0_guarding_52 rfl (fun c => ?_) (fun c => ?_)
        · replace h := h.1 c
          refine Ev_iconst dX0_guarding_59 rfl (ev_Rc rfl) ?_
          exact Ev_sub [1, 2, 3, 4, 5, 0] rfl h
        · replace h := h.2 c
          refine Ev_iconst dX0_guarding_55 rfl (ev_Rc rfl) ?_
          refine Ev_goto (tgt := 60) dX0_guarding_56 rfl ?_
          exact Ev_sub [1, 2, 3, 4, 5, 0] rfl h
    · replace h := h.2 c
      refine Ev_iconst dX0_guarding_35 rfl (ev_Rc rfl) ?_
      exact Ev_iret rfl dX0_guarding_36 rfl h
theorem wp_X0_guarding_60 {d : Nat} {k : Nat} (hk : is_X0 k) {s : ev_S} {Q : Option ev_V → ev_S → Prop} {a2 a3 a4 a5 a6 t0 : Int}
    (h : ((t0 = 0 → Ev layX M_X0_guarding (d + 1) 10 [(0, ev_r k), (2, ev_i a2), (3, ev_i a3), (4, ev_i a4), (5, ev_i (ev_add a5 (-1)))] [] s Q) ∧ (t0 ≠ 0 → ((0 ≤ (ev_add a6 3) ∧ (ev_add a6 3) < (500 : Nat)) ∧ (((s (k + 1) (Int.toNat (ev_add a6 3))) ≠ a2 → Ev layX M_X0_guarding (d + 1) 10 [(0, ev_r k), (2, ev_i a2), (3, ev_i a3), (4, ev_i a4), (5, ev_i (ev_add a5 (-1)))] [] s Q) ∧ ((s (k + 1) (Int.toNat (ev_add a6 3))) = a2 → ((0 ≤ (ev_add a6 4) ∧ (ev_add a6 4) < (500 : Nat)) ∧ (((s (k + 1) (Int.toNat (ev_add a6 4))) ≠ 1 → Ev layX M_X0_guarding (d + 1) 10 [(0, ev_r k), (2, ev_i a2), (3, ev_i a3), (4, ev_i a4), (5, ev_i (ev_add a5 (-1)))] [] s Q) ∧ ((s (k + 1) (Int.toNat (ev_add a6 4))) = 1 → Q (some (ev_i a5)) s))))))))) :
    Ev layX M_X0_guarding (d + 1) 60 [(0, ev_r k), (2, ev_i a2), (3, ev_i a3), (4, ev_i a4), (5, ev_i a5), (6, ev_i a6)] [ev_i t0] s Q := by
  refine Ev_istore (l' := [(7, ev_i t0), (0, ev_r k), (2, ev_i a2), (3, ev_i a3), (4, ev_i a4), (5, ev_i a5), (6, ev_i a6)]) dX0_guarding_60 (Nat.le_of_ble_eq_true rfl) rfl ?_
  refine Ev_iload 0 dX0_guarding_62 rfl ?_
  refine Ev_if_eq (tgt := 96) dX0_guarding_64 rfl (fun c => ?_) (fun c => ?_)
  · replace h := h.1 c
    refine Ev_iinc (j := 5) (l' := [(5, ev_i (ev_add a5 (-1))), (7, ev_i t0), (0, ev_r k), (2, ev_i a2), (3, ev_i a3), (4, ev_i a4), (6, ev_i a6)]) dX0_guarding_96 rfl (Nat.le_of_ble_eq_true rfl) rfl ?_
    refine Ev_goto (tgt := 10) dX0_guarding_99 rfl ?_
    exact Ev_sub [2, 3, 4, 5, 0] rfl h
  · replace h := h.2 c
    refine Ev_aload_n 1 dX0_guarding_67 rfl rfl ?_
    refine Ev_getR (i := 0) cl_X0 hk.1 (Nat.le_of_ble_eq_true rfl) rfl wd_419 dX0_guarding_68 ?_
    refine Ev_iload 6 dX0_guarding_71 rfl ?_
    refine Ev_iconst dX0_guarding_73 rfl (ev_Rc rfl) ?_
    refine Ev_iadd dX0_guarding_74 ?_
    obtain ⟨h0, h⟩ := h
    refine Ev_iald hk.2 h0 dX0_guarding_75 ?_
    refine Ev_iload_n 2 dX0_guarding_76 rfl rfl ?_
    refine Ev_icmp_ne (tgt := 96) dX0_guarding_77 rfl (fun c => ?_) (fun c => ?_)
    · replace h := h.1 c
      refine Ev_iinc (j := 5) (l' := [(5, ev_i (ev_add a5 (-1))), (7, ev_i t0), (0, ev_r k), (2, ev_i a2), (3, ev_i a3), (4, ev_i a4), (6, ev_i a6)]) dX0_guarding_96 rfl (Nat.le_of_ble_eq_true rfl) rfl ?_
      refine Ev_goto (tgt := 10) dX0_guarding_99 rfl ?_
      exact Ev_sub [2, 3, 4, 5, 0] rfl h
    · replace h := h.2 c
      refine Ev_aload_n 1 dX0_guarding_80 rfl rfl ?_
      refine Ev_getR (i := 0) cl_X0 hk.1 (Nat.le_of_ble_eq_true rfl) rfl wd_419 dX0_guarding_81 ?_
      refine Ev_iload 6 dX0_guarding_84 rfl ?_
      refine Ev_iconst dX0_guarding_86 rfl (ev_Rc rfl) ?_
      refine Ev_iadd dX0_guarding_87 ?_
      obtain ⟨h0, h⟩ := h
      refine Ev_iald hk.2 h0 dX0_guarding_88 ?_
      refine Ev_iconst dX0_guarding_89 rfl (ev_Rc rfl) ?_
      refine Ev_icmp_ne (tgt := 96) dX0_guarding_90 rfl (fun c => ?_) (fun c => ?_)
      · replace h := h.1 c
        refine Ev_iinc (j := 5) (l' := [(5, ev_i (ev_add a5 (-1))), (7, ev_i t0), (0, ev_r k), (2, ev_i a2), (3, ev_i a3), (4, ev_i a4), (6, ev_i a6)]) dX0_guarding_96 rfl (Nat.le_of_ble_eq_true rfl) rfl ?_
        refine Ev_goto (tgt := 10) dX0_guarding_99 rfl ?_
        exact Ev_sub [2, 3, 4, 5, 0] rfl h
      · replace h := h.2 c
        refine Ev_iload 5 dX0_guarding_93 rfl ?_
        exact Ev_iret rfl dX0_guarding_95 rfl h
theorem dX0_copyFrom_0 : decode cX0_copyFrom 0 = .ok (.aload_n 1, 1) := by decide +kernel
theorem dX0_copyFrom_1 : decode cX0_copyFrom 1 = .ok (.getfield 11, 3) := by decide +kernel
theorem dX0_copyFrom_4 : decode cX0_copyFrom 4 = .ok (.iconst 0, 1) := by decide +kernel
theorem dX0_copyFrom_5 : decode cX0_copyFrom 5 = .ok (.aload_n 0, 1) := by decide +kernel
theorem dX0_copyFrom_6 : decode cX0_copyFrom 6 = .ok (.getfield 11, 3) := by decide +kernel
theorem dX0_copyFrom_9 : decode cX0_copyFrom 9 = .ok (.iconst 0, 1) := by decide +kernel
theorem dX0_copyFrom_10 : decode cX0_copyFrom 10 = .ok (.sipush 500, 3) := by decide +kernel
theorem dX0_copyFrom_13 : decode cX0_copyFrom 13 = .ok (.invokestatic 21, 3) := by decide +kernel
theorem dX0_copyFrom_16 : decode cX0_copyFrom 16 = .ok (.return_, 1) := by decide +kernel
theorem wp_X0_copyFrom_0 {d : Nat} {k : Nat} (hk : is_X0 k) {k1 : Nat} (hk1 : is_X0 k1) {s : ev_S} {Q : Option ev_V → ev_S → Prop}
    (h : ((0 ≤ (0 : Int) ∧ 0 ≤ (0 : Int) ∧ 0 ≤ (500 : Int) ∧ (0 : Int) + 500 ≤ (500 : Nat) ∧ (0 : Int) + 500 ≤ (500 : Nat)) ∧ ∀ s1, ev_cp s (k1 + 1) (Int.toNat 0) (k + 1) (Int.toNat 0) (Int.toNat 500) = s1 → Q none s1)) :
    Ev layX M_X0_copyFrom (d + 1) 0 [(0, ev_r k), (1, ev_r k1)] [] s Q := by
  refine Ev_aload_n 1 dX0_copyFrom_0 rfl rfl ?_
  refine Ev_getR (i := 0) cl_X0 hk1.1 (Nat.le_of_ble_eq_true rfl) rfl wd_419 dX0_copyFrom_1 ?_
  refine Ev_iconst dX0_copyFrom_4 rfl (ev_Rc rfl) ?_
  refine Ev_aload_n 0 dX0_copyFrom_5 rfl rfl ?_
  refine Ev_getR (i := 0) cl_X0 hk.1 (Nat.le_of_ble_eq_true rfl) rfl wd_419 dX0_copyFrom_6 ?_
  refine Ev_iconst dX0_copyFrom_9 rfl (ev_Rc rfl) ?_
  refine Ev_sipushC dX0_copyFrom_10 rfl ?_
  obtain ⟨h0, h⟩ := h
  refine Ev_copyi hk1.2 hk.2 h0 wd_1420 dX0_copyFrom_13 (Nat.le_of_ble_eq_true rfl) (Ev_nm (fun s1 es1 => ?_))
  replace h := h s1 es1
  exact Ev_vret rfl dX0_copyFrom_16 h
