theorem dX7_goBy_0 : decode cX7_goBy 0 = .ok (.iconst 0, 1) := by decide +kernel
theorem dX7_goBy_1 : decode cX7_goBy 1 = .ok (.istore_n 3, 1) := by decide +kernel
theorem dX7_goBy_2 : decode cX7_goBy 2 = .ok (.iload_n 3, 1) := by decide +kernel
theorem dX7_goBy_3 : decode cX7_goBy 3 = .ok (.aload_n 0, 1) := by decide +kernel
theorem dX7_goBy_4 : decode cX7_goBy 4 = .ok (.getfield 17, 3) := by decide +kernel
theorem dX7_goBy_7 : decode cX7_goBy 7 = .ok (.getfield 25, 3) := by decide +kernel
theorem dX7_goBy_10 : decode cX7_goBy 10 = .ok (.if_icmp .ge 15, 3) := by decide +kernel
theorem dX7_goBy_13 : decode cX7_goBy 13 = .ok (.aload_n 0, 1) := by decide +kernel
theorem dX7_goBy_14 : decode cX7_goBy 14 = .ok (.aload_n 1, 1) := by decide +kernel
theorem dX7_goBy_15 : decode cX7_goBy 15 = .ok (.iload_n 3, 1) := by decide +kernel
theorem dX7_goBy_16 : decode cX7_goBy 16 = .ok (.invokevirtual 31, 3) := by decide +kernel
theorem dX7_goBy_19 : decode cX7_goBy 19 = .ok (.iinc 3 1, 3) := by decide +kernel
theorem dX7_goBy_22 : decode cX7_goBy 22 = .ok (.goto (-20), 3) := by decide +kernel
theorem dX7_goBy_25 : decode cX7_goBy 25 = .ok (.aload_n 0, 1) := by decide +kernel
theorem dX7_goBy_26 : decode cX7_goBy 26 = .ok (.aload_n 1, 1) := by decide +kernel
theorem dX7_goBy_27 : decode cX7_goBy 27 = .ok (.invokevirtual 35, 3) := by decide +kernel
theorem dX7_goBy_30 : decode cX7_goBy 30 = .ok (.iconst 0, 1) := by decide +kernel
theorem dX7_goBy_31 : decode cX7_goBy 31 = .ok (.istore_n 3, 1) := by decide +kernel
theorem dX7_goBy_32 : decode cX7_goBy 32 = .ok (.iconst 0, 1) := by decide +kernel
theorem dX7_goBy_33 : decode cX7_goBy 33 = .ok (.istore 4, 2) := by decide +kernel
theorem dX7_goBy_35 : decode cX7_goBy 35 = .ok (.iload 4, 2) := by decide +kernel
theorem dX7_goBy_37 : decode cX7_goBy 37 = .ok (.aload_n 0, 1) := by decide +kernel
theorem dX7_goBy_38 : decode cX7_goBy 38 = .ok (.getfield 17, 3) := by decide +kernel
theorem dX7_goBy_41 : decode cX7_goBy 41 = .ok (.getfield 39, 3) := by decide +kernel
theorem dX7_goBy_44 : decode cX7_goBy 44 = .ok (.if_icmp .ge 40, 3) := by decide +kernel
theorem dX7_goBy_47 : decode cX7_goBy 47 = .ok (.aload_n 1, 1) := by decide +kernel
theorem dX7_goBy_48 : decode cX7_goBy 48 = .ok (.getfield 42, 3) := by decide +kernel
theorem dX7_goBy_51 : decode cX7_goBy 51 = .ok (.iload 4, 2) := by decide +kernel
theorem dX7_goBy_53 : decode cX7_goBy 53 = .ok (.iaload, 1) := by decide +kernel
theorem dX7_goBy_54 : decode cX7_goBy 54 = .ok (.ifCond .ne 24, 3) := by decide +kernel
theorem dX7_goBy_57 : decode cX7_goBy 57 = .ok (.aload_n 0, 1) := by decide +kernel
theorem dX7_goBy_58 : decode cX7_goBy 58 = .ok (.aload_n 1, 1) := by decide +kernel
theorem dX7_goBy_59 : decode cX7_goBy 59 = .ok (.iload 4, 2) := by decide +kernel
theorem dX7_goBy_61 : decode cX7_goBy 61 = .ok (.invokevirtual 47, 3) := by decide +kernel
theorem dX7_goBy_64 : decode cX7_goBy 64 = .ok (.ifCond .eq 14, 3) := by decide +kernel
theorem dX7_goBy_67 : decode cX7_goBy 67 = .ok (.aload_n 0, 1) := by decide +kernel
theorem dX7_goBy_68 : decode cX7_goBy 68 = .ok (.aload_n 1, 1) := by decide +kernel
theorem dX7_goBy_69 : decode cX7_goBy 69 = .ok (.iload 4, 2) := by decide +kernel
theorem dX7_goBy_71 : decode cX7_goBy 71 = .ok (.iload_n 2, 1) := by decide +kernel
theorem dX7_goBy_72 : decode cX7_goBy 72 = .ok (.invokevirtual 51, 3) := by decide +kernel
theorem dX7_goBy_75 : decode cX7_goBy 75 = .ok (.iinc 3 1, 3) := by decide +kernel
theorem dX7_goBy_78 : decode cX7_goBy 78 = .ok (.iinc 4 1, 3) := by decide +kernel
theorem dX7_goBy_81 : decode cX7_goBy 81 = .ok (.goto (-46), 3) := by decide +kernel
theorem dX7_goBy_84 : decode cX7_goBy 84 = .ok (.aload_n 1, 1) := by decide +kernel
theorem dX7_goBy_85 : decode cX7_goBy 85 = .ok (.dup, 1) := by decide +kernel
theorem dX7_goBy_86 : decode cX7_goBy 86 = .ok (.getfield 55, 3) := by decide +kernel
theorem dX7_goBy_89 : decode cX7_goBy 89 = .ok (.iconst 1, 1) := by decide +kernel
theorem dX7_goBy_90 : decode cX7_goBy 90 = .ok (.iadd, 1) := by decide +kernel
theorem dX7_goBy_91 : decode cX7_goBy 91 = .ok (.putfield 55, 3) := by decide +kernel
theorem dX7_goBy_94 : decode cX7_goBy 94 = .ok (.iload_n 3, 1) := by decide +kernel
theorem dX7_goBy_95 : decode cX7_goBy 95 = .ok (.ireturn, 1) := by decide +kernel
theorem wp_X7_goBy_0 {d : Nat} {k1 : Nat} (hk1 : is_X2 k1) {s : ev_S} {Q : Option ev_V → ev_S → Prop} {a2 : Int}
    (h : Ev layX M_X7_goBy (d + 1) 2 [(0, ev_r 144), (1, ev_r k1), (2, ev_i a2), (3, ev_i 0)] [] s Q) :
    Ev layX M_X7_goBy (d + 1) 0 [(0, ev_r 144), (1, ev_r k1), (2, ev_i a2)] [] s Q := by
  refine Ev_iconst dX7_goBy_0 rfl (ev_Rc rfl) ?_
  refine Ev_istore_n (l' := [(3, ev_i 0), (0, ev_r 144), (1, ev_r k1), (2, ev_i a2)]) dX7_goBy_1 rfl (Nat.le_of_ble_eq_true rfl) rfl ?_
  exact Ev_sub [1, 2, 3, 0] rfl h
theorem wp_X7_goBy_2 {d : Nat} {k1 : Nat} (hk1 : is_X2 k1) {s : ev_S} {Q : Option ev_V → ev_S → Prop} {a2 a3 : Int}
    (h : (((s 1 7) ≤ a3 → (Ev layX M_X7_moveWards d 0 [(0, ev_r 144), (1, ev_r k1)] [] s (fun _ s1 => Ev layX M_X7_goBy (d + 1) 35 [(0, ev_r 144), (1, ev_r k1), (2, ev_i a2), (3, ev_i 0), (4, ev_i 0)] [] s1 Q))) ∧ (a3 < (s 1 7) → (Ev layX M_X7_moveAngel d 0 [(0, ev_r 144), (1, ev_r k1), (2, ev_i a3)] [] s (fun _ s2 => Ev layX M_X7_goBy (d + 1) 2 [(0, ev_r 144), (1, ev_r k1), (2, ev_i a2), (3, ev_i (ev_add a3 1))] [] s2 Q))))) :
    Ev layX M_X7_goBy (d + 1) 2 [(0, ev_r 144), (1, ev_r k1), (2, ev_i a2), (3, ev_i a3)] [] s Q := by
  refine Ev_iload_n 3 dX7_goBy_2 rfl rfl ?_
  refine Ev_aload_n 0 dX7_goBy_3 rfl rfl ?_
  refine Ev_getR (i := 0) cl_X7 yX_144 (Nat.le_of_ble_eq_true rfl) rfl wd_552 dX7_goBy_4 ?_
  refine Ev_get (i := 7) cl_X10 yX_1 (Nat.le_of_ble_eq_true rfl) rfl wd_263 dX7_goBy_7 ?_
  refine Ev_icmp_ge (tgt := 25) dX7_goBy_10 rfl (fun c => ?_) (fun c => ?_)
  · replace h := h.1 c
    refine Ev_aload_n 0 dX7_goBy_25 rfl rfl ?_
    refine Ev_aload_n 1 dX7_goBy_26 rfl rfl ?_
    refine Ev_callV (As := [ev_r k1]) (b := 144) (st := []) (M' := M_X7_moveWards) cm_X7_moveWards wd_1111 wd_1112 wd_1113 yX_144 cl_X7 rfl dX7_goBy_27 (Nat.le_refl _) rfl (Nat.le_of_ble_eq_true rfl) (Nat.le_of_ble_eq_true rfl) h (fun v u h hk => ?_)
    cases hk
    obtain ⟨s1, rfl⟩ : ∃ x, x = u := ⟨_, rfl⟩
    refine Ev_iconst dX7_goBy_30 rfl (ev_Rc rfl) ?_
    refine Ev_istore_n (l' := [(3, ev_i 0), (0, ev_r 144), (1, ev_r k1), (2, ev_i a2)]) dX7_goBy_31 rfl (Nat.le_of_ble_eq_true rfl) rfl ?_
    refine Ev_iconst dX7_goBy_32 rfl (ev_Rc rfl) ?_
    refine Ev_istore (l' := [(4, ev_i 0), (3, ev_i 0), (0, ev_r 144), (1, ev_r k1), (2, ev_i a2)]) dX7_goBy_33 (Nat.le_of_ble_eq_true rfl) rfl ?_
    exact Ev_sub [2, 3, 4, 1, 0] rfl h
  · replace h := h.2 c
    refine Ev_aload_n 0 dX7_goBy_13 rfl rfl ?_
    refine Ev_aload_n 1 dX7_goBy_14 rfl rfl ?_
    refine Ev_iload_n 3 dX7_goBy_15 rfl rfl ?_
    refine Ev_callV (As := [ev_r k1, ev_i a3]) (b := 144) (st := []) (M' := M_X7_moveAngel) cm_X7_moveAngel wd_1068 wd_1070 wd_31 yX_144 cl_X7 rfl dX7_goBy_16 (Nat.le_refl _) rfl (Nat.le_of_ble_eq_true rfl) (Nat.le_of_ble_eq_true rfl) h (fun v u h hk => ?_)
    cases hk
    obtain ⟨s2, rfl⟩ : ∃ x, x = u := ⟨_, rfl⟩
    refine Ev_iinc (j := 3) (l' := [(3, ev_i (ev_add a3 1)), (0, ev_r 144), (1, ev_r k1), (2, ev_i a2)]) dX7_goBy_19 rfl (Nat.le_of_ble_eq_true rfl) rfl ?_
    refine Ev_goto (tgt := 2) dX7_goBy_22 rfl ?_
    exact Ev_sub [1, 2, 3, 0] rfl h
theorem wp_X7_goBy_35 {d : Nat} {k1 : Nat} (hk1 : is_X2 k1) {s : ev_S} {Q : Option ev_V → ev_S → Prop} {a2 a3 a4 : Int}
    (h : (((s 1 13) ≤ a4 → (∀ s1, ev_up s k1 0 (ev_add (s k1 0) 1) = s1 → Q (some (ev_i a3)) s1)) ∧ (a4 < (s 1 13) → ((0 ≤ a4 ∧ a4 < (10 : Nat)) ∧ (((s (k1 + 9) (Int.toNat a4)) ≠ 0 → Ev layX M_X7_goBy (d + 1) 35 [(0, ev_r 144), (1, ev_r k1), (2, ev_i a2), (3, ev_i a3), (4, ev_i (ev_add a4 1))] [] s Q) ∧ ((s (k1 + 9) (Int.toNat a4)) = 0 → (Ev layX M_X7_comesNow d 0 [(0, ev_r 144), (1, ev_r k1), (2, ev_i a4)] [] s (ev_pi (fun r3 s2 => ((r3 = 0 → Ev layX M_X7_goBy (d + 1) 35 [(0, ev_r 144), (1, ev_r k1), (2, ev_i a2), (3, ev_i a3), (4, ev_i (ev_add a4 1))] [] s2 Q) ∧ (r3 ≠ 0 → (Ev layX M_X7_settle d 0 [(0, ev_r 144), (1, ev_r k1), (2, ev_i a4), (3, ev_i a2)] [] s2 (fun _ s4 => Ev layX M_X7_goBy (d + 1) 35 [(0, ev_r 144), (1, ev_r k1), (2, ev_i a2), (3, ev_i (ev_add a3 1)), (4, ev_i (ev_add a4 1))] [] s4 Q))))))))))))) :
    Ev layX M_X7_goBy (d + 1) 35 [(0, ev_r 144), (1, ev_r k1), (2, ev_i a2), (3, ev_i a3), (4, ev_i a4)] [] s Q := by
  refine Ev_iload 4 dX7_goBy_35 rfl ?_
  refine Ev_aload_n 0 dX7_goBy_37 rfl rfl ?_
  refine Ev_getR (i := 0) cl_X7 yX_144 (Nat.le_of_ble_eq_true rfl) rfl wd_552 dX7_goBy_38 ?_
  refine Ev_get (i := 13) cl_X10 yX_1 (Nat.le_of_ble_eq_true rfl) rfl wd_286 dX7_goBy_41 ?_
  refine Ev_icmp_ge (tgt := 84) dX7_goBy_44 rfl (fun c => ?_) (fun c => ?_)
  · replace h := h.1 c
    refine Ev_aload_n 1 dX7_goBy_84 rfl rfl ?_
    refine Ev_dup dX7_goBy_85 rfl ?_
    refine Ev_get (i := 0) cl_X2 hk1.1 (Nat.le_of_ble_eq_true rfl) rfl wd_338 dX7_goBy_86 ?_
    refine Ev_iconst dX7_goBy_89 rfl (ev_Rc rfl) ?_
    refine Ev_iadd dX7_goBy_90 ?_
    refine Ev_put (i := 0) (ty := .int) cl_X2 hk1.1 (Nat.le_of_ble_eq_true rfl) rfl rfl (by decide +kernel) rfl rfl wd_338 dX7_goBy_91 (Ev_nm (fun s1 es1 => ?_))
    replace h := h s1 es1
    refine Ev_iload_n 3 dX7_goBy_94 rfl rfl ?_
    exact Ev_iret rfl dX7_goBy_95 rfl h
  · replace h := h.2 c
    refine Ev_aload_n 1 dX7_goBy_47 rfl rfl ?_
    refine Ev_getR (i := 10) cl_X2 hk1.1 (Nat.le_of_ble_eq_true rfl) rfl wd_372 dX7_goBy_48 ?_
    refine Ev_iload 4 dX7_goBy_51 rfl ?_
    obtain ⟨h0, h⟩ := h
    refine Ev_iald hk1.2.2.2.2.2.2.2.2.2.1 h0 dX7_goBy_53 ?_
    refine Ev_if_ne (tgt := 78) dX7_goBy_54 rfl (fun c => ?_) (fun c => ?_)
    · replace h := h.1 c
      refine Ev_iinc (j := 4) (l' := [(4, ev_i (ev_add a4 1)), (0, ev_r 144), (1, ev_r k1), (2, ev_i a2), (3, ev_i a3)]) dX7_goBy_78 rfl (Nat.le_of_ble_eq_true rfl) rfl ?_
      refine Ev_goto (tgt := 35) dX7_goBy_81 rfl ?_
      exact Ev_sub [1, 2, 3, 4, 0] rfl h
    · replace h := h.2 c
      refine Ev_aload_n 0 dX7_goBy_57 rfl rfl ?_
      refine Ev_aload_n 1 dX7_goBy_58 rfl rfl ?_
      refine Ev_iload 4 dX7_goBy_59 rfl ?_
      refine Ev_callV (As := [ev_r k1, ev_i a4]) (b := 144) (st := []) (M' := M_X7_comesNow) cm_X7_comesNow wd_1120 wd_1121 wd_1122 yX_144 cl_X7 rfl dX7_goBy_61 (Nat.le_refl _) rfl (Nat.le_of_ble_eq_true rfl) (Nat.le_of_ble_eq_true rfl) h (fun v u h hk => ?_)
      obtain ⟨r3, rfl⟩ := hk
      obtain ⟨s2, rfl⟩ : ∃ x, x = u := ⟨_, rfl⟩
      replace h := h r3 rfl
      refine Ev_if_eq (tgt := 78) dX7_goBy_64 rfl (fun c => ?_) (fun c => ?_)
      · replace h := h.1 c
        refine Ev_iinc (j := 4) (l' := [(4, ev_i (ev_add a4 1)), (0, ev_r 144), (1, ev_r k1), (2, ev_i a2), (3, ev_i a3)]) dX7_goBy_78 rfl (Nat.le_of_ble_eq_true rfl) rfl ?_
        refine Ev_goto (tgt := 35) dX7_goBy_81 rfl ?_
        exact Ev_sub [1, 2, 3, 4, 0] rfl h
      · replace h := h.2 c
        refine Ev_aload_n 0 dX7_goBy_67 rfl rfl ?_
        refine Ev_aload_n 1 dX7_goBy_68 rfl rfl ?_
        refine Ev_iload 4 dX7_goBy_69 rfl ?_
        refine Ev_iload_n 2 dX7_goBy_71 rfl rfl ?_
        refine Ev_callV (As := [ev_r k1, ev_i a4, ev_i a2]) (b := 144) (st := []) (M' := M_X7_settle) cm_X7_settle wd_1125 wd_1127 wd_37 yX_144 cl_X7 rfl dX7_goBy_72 (Nat.le_refl _) rfl (Nat.le_of_ble_eq_true rfl) (Nat.le_of_ble_eq_true rfl) h (fun v u h hk => ?_)
        cases hk
        obtain ⟨s4, rfl⟩ : ∃ x, x = u := ⟨_, rfl⟩
        refine Ev_iinc (j := 3) (l' := [(3, ev_i (ev_add a3 1)), (0, ev_r 144), (1, ev_r k1), (2, ev_i a2), (4, ev_i a4)]) dX7_goBy_75 rfl (Nat.le_of_ble_eq_true rfl) rfl ?_
        refine Ev_iinc (j := 4) (l' := [(4, ev_i (ev_add a4 1)), (3, ev_i (ev_add a3 1)), (0, ev_r 144), (1, ev_r k1), (2, ev_i a2)]) dX7_goBy_78 rfl (Nat.le_of_ble_eq_true rfl) rfl ?_
        refine Ev_goto (tgt := 35) dX7_goBy_81 rfl ?_
        exact Ev_sub [2, 3, 4, 1, 0] rfl h
theorem dX7_moveAngel_0 : decode cX7_moveAngel 0 = .ok (.iconst 0, 1) := by decide +kernel
theorem dX7_moveAngel_1 : decode cX7_moveAngel 1 = .ok (.istore_n 3, 1) := by decide +kernel
theorem dX7_moveAngel_2 : decode cX7_moveAngel 2 = .ok (.iload_n 3, 1) := by decide +kernel
theorem dX7_moveAngel_3 : decode cX7_moveAngel 3 = .ok (.bipush 40, 2) := by decide +kernel
theorem dX7_moveAngel_5 : decode cX7_moveAngel 5 = .ok (.if_icmp .ge 158, 3) := by decide +kernel
theorem dX7_moveAngel_8 : decode cX7_moveAngel 8 = .ok (.aload_n 1, 1) := by decide +kernel
theorem dX7_moveAngel_9 : decode cX7_moveAngel 9 = .ok (.getfield 58, 3) := by decide +kernel
theorem dX7_moveAngel_12 : decode cX7_moveAngel 12 = .ok (.iload_n 2, 1) := by decide +kernel
theorem dX7_moveAngel_13 : decode cX7_moveAngel 13 = .ok (.iaload, 1) := by decide +kernel
theorem dX7_moveAngel_14 : decode cX7_moveAngel 14 = .ok (.ifCond .ne 149, 3) := by decide +kernel
theorem dX7_moveAngel_17 : decode cX7_moveAngel 17 = .ok (.aload_n 1, 1) := by decide +kernel
theorem dX7_moveAngel_18 : decode cX7_moveAngel 18 = .ok (.getfield 61, 3) := by decide +kernel
theorem dX7_moveAngel_21 : decode cX7_moveAngel 21 = .ok (.iload_n 2, 1) := by decide +kernel
theorem dX7_moveAngel_22 : decode cX7_moveAngel 22 = .ok (.iaload, 1) := by decide +kernel
theorem dX7_moveAngel_23 : decode cX7_moveAngel 23 = .ok (.aload_n 0, 1) := by decide +kernel
theorem dX7_moveAngel_24 : decode cX7_moveAngel 24 = .ok (.getfield 17, 3) := by decide +kernel
theorem dX7_moveAngel_27 : decode cX7_moveAngel 27 = .ok (.getfield 64, 3) := by decide +kernel
theorem dX7_moveAngel_30 : decode cX7_moveAngel 30 = .ok (.iload_n 2, 1) := by decide +kernel
theorem dX7_moveAngel_31 : decode cX7_moveAngel 31 = .ok (.iaload, 1) := by decide +kernel
theorem dX7_moveAngel_32 : decode cX7_moveAngel 32 = .ok (.if_icmp .ge 131, 3) := by decide +kernel
theorem dX7_moveAngel_35 : decode cX7_moveAngel 35 = .ok (.iload_n 2, 1) := by decide +kernel
theorem dX7_moveAngel_36 : decode cX7_moveAngel 36 = .ok (.bipush 40, 2) := by decide +kernel
theorem dX7_moveAngel_38 : decode cX7_moveAngel 38 = .ok (.imul, 1) := by decide +kernel
theorem dX7_moveAngel_39 : decode cX7_moveAngel 39 = .ok (.aload_n 1, 1) := by decide +kernel
theorem dX7_moveAngel_40 : decode cX7_moveAngel 40 = .ok (.getfield 61, 3) := by decide +kernel
theorem dX7_moveAngel_43 : decode cX7_moveAngel 43 = .ok (.iload_n 2, 1) := by decide +kernel
theorem dX7_moveAngel_44 : decode cX7_moveAngel 44 = .ok (.iaload, 1) := by decide +kernel
theorem dX7_moveAngel_45 : decode cX7_moveAngel 45 = .ok (.iadd, 1) := by decide +kernel
theorem dX7_moveAngel_46 : decode cX7_moveAngel 46 = .ok (.iconst 2, 1) := by decide +kernel
theorem dX7_moveAngel_47 : decode cX7_moveAngel 47 = .ok (.imul, 1) := by decide +kernel
theorem dX7_moveAngel_48 : decode cX7_moveAngel 48 = .ok (.istore 4, 2) := by decide +kernel
theorem dX7_moveAngel_50 : decode cX7_moveAngel 50 = .ok (.aload_n 0, 1) := by decide +kernel
theorem dX7_moveAngel_51 : decode cX7_moveAngel 51 = .ok (.getfield 17, 3) := by decide +kernel
theorem dX7_moveAngel_54 : decode cX7_moveAngel 54 = .ok (.getfield 67, 3) := by decide +kernel
theorem dX7_moveAngel_57 : decode cX7_moveAngel 57 = .ok (.iload 4, 2) := by decide +kernel
theorem dX7_moveAngel_59 : decode cX7_moveAngel 59 = .ok (.iaload, 1) := by decide +kernel
theorem dX7_moveAngel_60 : decode cX7_moveAngel 60 = .ok (.istore 5, 2) := by decide +kernel
theorem dX7_moveAngel_62 : decode cX7_moveAngel 62 = .ok (.aload_n 0, 1) := by decide +kernel
theorem dX7_moveAngel_63 : decode cX7_moveAngel 63 = .ok (.getfield 17, 3) := by decide +kernel
theorem dX7_moveAngel_66 : decode cX7_moveAngel 66 = .ok (.getfield 67, 3) := by decide +kernel
theorem dX7_moveAngel_69 : decode cX7_moveAngel 69 = .ok (.iload 4, 2) := by decide +kernel
theorem dX7_moveAngel_71 : decode cX7_moveAngel 71 = .ok (.iconst 1, 1) := by decide +kernel
theorem dX7_moveAngel_72 : decode cX7_moveAngel 72 = .ok (.iadd, 1) := by decide +kernel
theorem dX7_moveAngel_73 : decode cX7_moveAngel 73 = .ok (.iaload, 1) := by decide +kernel
theorem dX7_moveAngel_74 : decode cX7_moveAngel 74 = .ok (.istore 6, 2) := by decide +kernel
theorem dX7_moveAngel_76 : decode cX7_moveAngel 76 = .ok (.aload_n 1, 1) := by decide +kernel
theorem dX7_moveAngel_77 : decode cX7_moveAngel 77 = .ok (.getfield 61, 3) := by decide +kernel
theorem dX7_moveAngel_80 : decode cX7_moveAngel 80 = .ok (.iload_n 2, 1) := by decide +kernel
theorem dX7_moveAngel_81 : decode cX7_moveAngel 81 = .ok (.dup2, 1) := by decide +kernel
theorem dX7_moveAngel_82 : decode cX7_moveAngel 82 = .ok (.iaload, 1) := by decide +kernel
theorem dX7_moveAngel_83 : decode cX7_moveAngel 83 = .ok (.iconst 1, 1) := by decide +kernel
theorem dX7_moveAngel_84 : decode cX7_moveAngel 84 = .ok (.iadd, 1) := by decide +kernel
theorem dX7_moveAngel_85 : decode cX7_moveAngel 85 = .ok (.iastore, 1) := by decide +kernel
theorem dX7_moveAngel_86 : decode cX7_moveAngel 86 = .ok (.iload 5, 2) := by decide +kernel
theorem dX7_moveAngel_88 : decode cX7_moveAngel 88 = .ok (.iconst 5, 1) := by decide +kernel
theorem dX7_moveAngel_89 : decode cX7_moveAngel 89 = .ok (.if_icmp .ge 12, 3) := by decide +kernel
theorem dX7_moveAngel_92 : decode cX7_moveAngel 92 = .ok (.aload_n 0, 1) := by decide +kernel
theorem dX7_moveAngel_93 : decode cX7_moveAngel 93 = .ok (.aload_n 1, 1) := by decide +kernel
theorem dX7_moveAngel_94 : decode cX7_moveAngel 94 = .ok (.iload_n 2, 1) := by decide +kernel
theorem dX7_moveAngel_95 : decode cX7_moveAngel 95 = .ok (.iload 5, 2) := by decide +kernel
theorem dX7_moveAngel_97 : decode cX7_moveAngel 97 = .ok (.invokevirtual 70, 3) := by decide +kernel
theorem dX7_moveAngel_100 : decode cX7_moveAngel 100 = .ok (.return_, 1) := by decide +kernel
theorem dX7_moveAngel_101 : decode cX7_moveAngel 101 = .ok (.aload_n 1, 1) := by decide +kernel
theorem dX7_moveAngel_102 : decode cX7_moveAngel 102 = .ok (.getfield 74, 3) := by decide +kernel
theorem dX7_moveAngel_105 : decode cX7_moveAngel 105 = .ok (.iload_n 2, 1) := by decide +kernel
theorem dX7_moveAngel_106 : decode cX7_moveAngel 106 = .ok (.iload 5, 2) := by decide +kernel
theorem dX7_moveAngel_108 : decode cX7_moveAngel 108 = .ok (.iconst 5, 1) := by decide +kernel
theorem dX7_moveAngel_109 : decode cX7_moveAngel 109 = .ok (.if_icmp .ne 8, 3) := by decide +kernel
theorem dX7_moveAngel_112 : decode cX7_moveAngel 112 = .ok (.iload 6, 2) := by decide +kernel
theorem dX7_moveAngel_114 : decode cX7_moveAngel 114 = .ok (.goto 4, 3) := by decide +kernel
theorem dX7_moveAngel_117 : decode cX7_moveAngel 117 = .ok (.iconst (-1), 1) := by decide +kernel
theorem dX7_moveAngel_118 : decode cX7_moveAngel 118 = .ok (.iastore, 1) := by decide +kernel
theorem dX7_moveAngel_119 : decode cX7_moveAngel 119 = .ok (.aload_n 1, 1) := by decide +kernel
theorem dX7_moveAngel_120 : decode cX7_moveAngel 120 = .ok (.getfield 58, 3) := by decide +kernel
theorem dX7_moveAngel_123 : decode cX7_moveAngel 123 = .ok (.iload_n 2, 1) := by decide +kernel
theorem dX7_moveAngel_124 : decode cX7_moveAngel 124 = .ok (.iload 5, 2) := by decide +kernel
theorem dX7_moveAngel_126 : decode cX7_moveAngel 126 = .ok (.iconst 5, 1) := by decide +kernel
theorem dX7_moveAngel_127 : decode cX7_moveAngel 127 = .ok (.if_icmp .ne 27, 3) := by decide +kernel
theorem dX7_moveAngel_130 : decode cX7_moveAngel 130 = .ok (.aload_n 1, 1) := by decide +kernel
theorem dX7_moveAngel_131 : decode cX7_moveAngel 131 = .ok (.getfield 77, 3) := by decide +kernel
theorem dX7_moveAngel_134 : decode cX7_moveAngel 134 = .ok (.iload_n 2, 1) := by decide +kernel
theorem dX7_moveAngel_135 : decode cX7_moveAngel 135 = .ok (.iaload, 1) := by decide +kernel
theorem dX7_moveAngel_136 : decode cX7_moveAngel 136 = .ok (.iload 6, 2) := by decide +kernel
theorem dX7_moveAngel_138 : decode cX7_moveAngel 138 = .ok (.invokestatic 80, 3) := by decide +kernel
theorem dX7_moveAngel_141 : decode cX7_moveAngel 141 = .ok (.aload_n 0, 1) := by decide +kernel
theorem dX7_moveAngel_142 : decode cX7_moveAngel 142 = .ok (.getfield 17, 3) := by decide +kernel
theorem dX7_moveAngel_145 : decode cX7_moveAngel 145 = .ok (.getfield 84, 3) := by decide +kernel
theorem dX7_moveAngel_148 : decode cX7_moveAngel 148 = .ok (.iload_n 2, 1) := by decide +kernel
theorem dX7_moveAngel_149 : decode cX7_moveAngel 149 = .ok (.iaload, 1) := by decide +kernel
theorem dX7_moveAngel_150 : decode cX7_moveAngel 150 = .ok (.imul, 1) := by decide +kernel
theorem dX7_moveAngel_151 : decode cX7_moveAngel 151 = .ok (.goto 5, 3) := by decide +kernel
theorem dX7_moveAngel_154 : decode cX7_moveAngel 154 = .ok (.iload 6, 2) := by decide +kernel
theorem dX7_moveAngel_156 : decode cX7_moveAngel 156 = .ok (.iastore, 1) := by decide +kernel
theorem dX7_moveAngel_157 : decode cX7_moveAngel 157 = .ok (.iinc 3 1, 3) := by decide +kernel
theorem dX7_moveAngel_160 : decode cX7_moveAngel 160 = .ok (.goto (-158), 3) := by decide +kernel
theorem dX7_moveAngel_163 : decode cX7_moveAngel 163 = .ok (.aload_n 1, 1) := by decide +kernel
theorem dX7_moveAngel_164 : decode cX7_moveAngel 164 = .ok (.getfield 58, 3) := by decide +kernel
theorem dX7_moveAngel_167 : decode cX7_moveAngel 167 = .ok (.iload_n 2, 1) := by decide +kernel
theorem dX7_moveAngel_168 : decode cX7_moveAngel 168 = .ok (.iaload, 1) := by decide +kernel
theorem dX7_moveAngel_169 : decode cX7_moveAngel 169 = .ok (.ifCond .ne 4, 3) := by decide +kernel
theorem dX7_moveAngel_172 : decode cX7_moveAngel 172 = .ok (.return_, 1) := by decide +kernel
theorem dX7_moveAngel_173 : decode cX7_moveAngel 173 = .ok (.aload_n 1, 1) := by decide +kernel
theorem dX7_moveAngel_174 : decode cX7_moveAngel 174 = .ok (.getfield 58, 3) := by decide +kernel
theorem dX7_moveAngel_177 : decode cX7_moveAngel 177 = .ok (.iload_n 2, 1) := by decide +kernel
theorem dX7_moveAngel_178 : decode cX7_moveAngel 178 = .ok (.dup2, 1) := by decide +kernel
theorem dX7_moveAngel_179 : decode cX7_moveAngel 179 = .ok (.iaload, 1) := by decide +kernel
theorem dX7_moveAngel_180 : decode cX7_moveAngel 180 = .ok (.iconst 1, 1) := by decide +kernel
theorem dX7_moveAngel_181 : decode cX7_moveAngel 181 = .ok (.isub, 1) := by decide +kernel
theorem dX7_moveAngel_182 : decode cX7_moveAngel 182 = .ok (.iastore, 1) := by decide +kernel
theorem dX7_moveAngel_183 : decode cX7_moveAngel 183 = .ok (.aload_n 1, 1) := by decide +kernel
theorem dX7_moveAngel_184 : decode cX7_moveAngel 184 = .ok (.getfield 58, 3) := by decide +kernel
theorem dX7_moveAngel_187 : decode cX7_moveAngel 187 = .ok (.iload_n 2, 1) := by decide +kernel
theorem dX7_moveAngel_188 : decode cX7_moveAngel 188 = .ok (.iaload, 1) := by decide +kernel
theorem dX7_moveAngel_189 : decode cX7_moveAngel 189 = .ok (.ifCond .ne 32, 3) := by decide +kernel
theorem dX7_moveAngel_192 : decode cX7_moveAngel 192 = .ok (.aload_n 1, 1) := by decide +kernel
theorem dX7_moveAngel_193 : decode cX7_moveAngel 193 = .ok (.getfield 74, 3) := by decide +kernel
theorem dX7_moveAngel_196 : decode cX7_moveAngel 196 = .ok (.iload_n 2, 1) := by decide +kernel
theorem dX7_moveAngel_197 : decode cX7_moveAngel 197 = .ok (.iaload, 1) := by decide +kernel
theorem dX7_moveAngel_198 : decode cX7_moveAngel 198 = .ok (.iconst (-1), 1) := by decide +kernel
theorem dX7_moveAngel_199 : decode cX7_moveAngel 199 = .ok (.if_icmp .eq 22, 3) := by decide +kernel
theorem dX7_moveAngel_202 : decode cX7_moveAngel 202 = .ok (.aload_n 1, 1) := by decide +kernel
theorem dX7_moveAngel_203 : decode cX7_moveAngel 203 = .ok (.getfield 77, 3) := by decide +kernel
theorem dX7_moveAngel_206 : decode cX7_moveAngel 206 = .ok (.iload_n 2, 1) := by decide +kernel
theorem dX7_moveAngel_207 : decode cX7_moveAngel 207 = .ok (.aload_n 1, 1) := by decide +kernel
theorem dX7_moveAngel_208 : decode cX7_moveAngel 208 = .ok (.getfield 74, 3) := by decide +kernel
theorem dX7_moveAngel_211 : decode cX7_moveAngel 211 = .ok (.iload_n 2, 1) := by decide +kernel
theorem dX7_moveAngel_212 : decode cX7_moveAngel 212 = .ok (.iaload, 1) := by decide +kernel
theorem dX7_moveAngel_213 : decode cX7_moveAngel 213 = .ok (.iastore, 1) := by decide +kernel
theorem dX7_moveAngel_214 : decode cX7_moveAngel 214 = .ok (.aload_n 1, 1) := by decide +kernel
theorem dX7_moveAngel_215 : decode cX7_moveAngel 215 = .ok (.getfield 74, 3) := by decide +kernel
theorem dX7_moveAngel_218 : decode cX7_moveAngel 218 = .ok (.iload_n 2, 1) := by decide +kernel
theorem dX7_moveAngel_219 : decode cX7_moveAngel 219 = .ok (.iconst (-1), 1) := by decide +kernel
theorem dX7_moveAngel_220 : decode cX7_moveAngel 220 = .ok (.iastore, 1) := by decide +kernel
theorem dX7_moveAngel_221 : decode cX7_moveAngel 221 = .ok (.return_, 1) := by decide +kernel
theorem wp_X7_moveAngel_0 {d : Nat} {k1 : Nat} (hk1 : is_X2 k1) {s : ev_S} {Q : Option ev_V → ev_S → Prop} {a2 : Int}
    (h : Ev layX M_X7_moveAngel (d + 1) 2 [(0, ev_r 144), (1, ev_r k1), (2, ev_i a2), (3, ev_i 0)] [] s Q) :
    Ev layX M_X7_moveAngel (d + 1) 0 [(0, ev_r 144), (1, ev_r k1), (2, ev_i a2)] [] s Q := by
  refine Ev_iconst dX7_moveAngel_0 rfl (ev_Rc rfl) ?_
  refine Ev_istore_n (l' := [(3, ev_i 0), (0, ev_r 144), (1, ev_r k1), (2, ev_i a2)]) dX7_moveAngel_1 rfl (Nat.le_of_ble_eq_true rfl) rfl ?_
  exact Ev_sub [1, 2, 3, 0] rfl h
theorem wp_X7_moveAngel_2 {d : Nat} {k1 : Nat} (hk1 : is_X2 k1) {s : ev_S} {Q : Option ev_V → ev_S → Prop} {a2 a3 : Int}
    (h : ((40 ≤ a3 → Ev layX M_X7_moveAngel (d + 1) 163 [(1, ev_r k1), (2, ev_i a2)] [] s Q) ∧ (a3 < 40 → ((0 ≤ a2 ∧ a2 < (6 : Nat)) ∧ (((s (k1 + 5) (Int.toNat a2)) ≠ 0 → Ev layX M_X7_moveAngel (d + 1) 163 [(1, ev_r k1), (2, ev_i a2)] [] s Q) ∧ ((s (k1 + 5) (Int.toNat a2)) = 0 → ((0 ≤ a2 ∧ a2 < (6 : Nat)) ∧ ((0 ≤ a2 ∧ a2 < (6 : Nat)) ∧ (((s 7 (Int.toNat a2)) ≤ (s (k1 + 7) (Int.toNat a2)) → Ev layX M_X7_moveAngel (d + 1) 163 [(1, ev_r k1), (2, ev_i a2)] [] s Q) ∧ ((s (k1 + 7) (Int.toNat a2)) < (s 7 (Int.toNat a2)) → ((0 ≤ a2 ∧ a2 < (6 : Nat)) ∧ ((0 ≤ (ev_mul (ev_add (ev_mul a2 40) (s (k1 + 7) (Int.toNat a2))) 2) ∧ (ev_mul (ev_add (ev_mul a2 40) (s (k1 + 7) (Int.toNat a2))) 2) < (480 : Nat)) ∧ ((0 ≤ (ev_add (ev_mul (ev_add (ev_mul a2 40) (s (k1 + 7) (Int.toNat a2))) 2) 1) ∧ (ev_add (ev_mul (ev_add (ev_mul a2 40) (s (k1 + 7) (Int.toNat a2))) 2) 1) < (480 : Nat)) ∧ ((0 ≤ a2 ∧ a2 < (6 : Nat)) ∧ ((0 ≤ a2 ∧ a2 < (6 : Nat)) ∧ ∀ s1, ev_up s (k1 + 7) (Int.toNat a2) (ev_add (s (k1 + 7) (Int.toNat a2)) 1) = s1 → ((5 ≤ (s 6 (Int.toNat (ev_mul (ev_add (ev_mul a2 40) (s (k1 + 7) (Int.toNat a2))) 2))) → (((s 6 (Int.toNat (ev_mul (ev_add (ev_mul a2 40) (s (k1 + 7) (Int.toNat a2))) 2))) ≠ 5 → Ev layX M_X7_moveAngel (d + 1) 118 [(0, ev_r 144), (1, ev_r k1), (2, ev_i a2), (3, ev_i a3), (5, ev_i (s 6 (Int.toNat (ev_mul (ev_add (ev_mul a2 40) (s (k1 + 7) (Int.toNat a2))) 2)))), (6, ev_i (s 6 (Int.toNat (ev_add (ev_mul (ev_add (ev_mul a2 40) (s (k1 + 7) (Int.toNat a2))) 2) 1))))] [ev_i (-1), ev_i a2, ev_r (k1 + 6)] s1 Q) ∧ ((s 6 (Int.toNat (ev_mul (ev_add (ev_mul a2 40) (s (k1 + 7) (Int.toNat a2))) 2))) = 5 → Ev layX M_X7_moveAngel (d + 1) 118 [(0, ev_r 144), (1, ev_r k1), (2, ev_i a2), (3, ev_i a3), (5, ev_i (s 6 (Int.toNat (ev_mul (ev_add (ev_mul a2 40) (s (k1 + 7) (Int.toNat a2))) 2)))), (6, ev_i (s 6 (Int.toNat (ev_add (ev_mul (ev_add (ev_mul a2 40) (s (k1 + 7) (Int.toNat a2))) 2) 1))))] [ev_i (s 6 (Int.toNat (ev_add (ev_mul (ev_add (ev_mul a2 40) (s (k1 + 7) (Int.toNat a2))) 2) 1))), ev_i a2, ev_r (k1 + 6)] s1 Q))) ∧ ((s 6 (Int.toNat (ev_mul (ev_add (ev_mul a2 40) (s (k1 + 7) (Int.toNat a2))) 2))) < 5 → (Ev layX M_X7_act d 0 [(0, ev_r 144), (1, ev_r k1), (2, ev_i a2), (3, ev_i (s 6 (Int.toNat (ev_mul (ev_add (ev_mul a2 40) (s (k1 + 7) (Int.toNat a2))) 2))))] [] s1 (fun _ s2 => Q none s2))))))))))))))))))) :
    Ev layX M_X7_moveAngel (d + 1) 2 [(0, ev_r 144), (1, ev_r k1), (2, ev_i a2), (3, ev_i a3)] [] s Q := by
  refine Ev_iload_n 3 dX7_moveAngel_2 rfl rfl ?_
  refine Ev_bipushC dX7_moveAngel_3 rfl ?_
  refine Ev_icmp_ge (tgt := 163) dX7_moveAngel_5 rfl (fun c => ?_) (fun c => ?_)
  · replace h := h.1 c
    exact Ev_sub [1, 2] rfl h
  · replace h := h.2 c
    refine Ev_aload_n 1 dX7_moveAngel_8 rfl rfl ?_
    refine Ev_getR (i := 6) cl_X2 hk1.1 (Nat.le_of_ble_eq_true rfl) rfl wd_360 dX7_moveAngel_9 ?_
    refine Ev_iload_n 2 dX7_moveAngel_12 rfl rfl ?_
    obtain ⟨h0, h⟩ := h
    refine Ev_iald hk1.2.2.2.2.2.1 h0 dX7_moveAngel_13 ?_
    refine Ev_if_ne (tgt := 163) dX7_moveAngel_14 rfl (fun c => ?_) (fun c => ?_)
    · replace h := h.1 c
      exact Ev_sub [1, 2] rfl h
    · replace h := h.2 c
      refine Ev_aload_n 1 dX7_moveAngel_17 rfl rfl ?_
      refine Ev_getR (i := 8) cl_X2 hk1.1 (Nat.le_of_ble_eq_true rfl) rfl wd_366 dX7_moveAngel_18 ?_
      refine Ev_iload_n 2 dX7_moveAngel_21 rfl rfl ?_
      obtain ⟨h0, h⟩ := h
      refine Ev_iald hk1.2.2.2.2.2.2.2.1 h0 dX7_moveAngel_22 ?_
      refine Ev_aload_n 0 dX7_moveAngel_23 rfl rfl ?_
      refine Ev_getR (i := 0) cl_X7 yX_144 (Nat.le_of_ble_eq_true rfl) rfl wd_552 dX7_moveAngel_24 ?_
      refine Ev_getR (i := 10) cl_X10 yX_1 (Nat.le_of_ble_eq_true rfl) rfl wd_277 dX7_moveAngel_27 ?_
      refine Ev_iload_n 2 dX7_moveAngel_30 rfl rfl ?_
      obtain ⟨h0, h⟩ := h
      refine Ev_iald yX_7 h0 dX7_moveAngel_31 ?_
      refine Ev_icmp_ge (tgt := 163) dX7_moveAngel_32 rfl (fun c => ?_) (fun c => ?_)
      · replace h := h.1 c
        exact Ev_sub [1, 2] rfl h
      · replace h := h.2 c
        refine Ev_iload_n 2 dX7_moveAngel_35 rfl rfl ?_
        refine Ev_bipushC dX7_moveAngel_36 rfl ?_
        refine Ev_imul dX7_moveAngel_38 ?_
        refine Ev_aload_n 1 dX7_moveAngel_39 rfl rfl ?_
        refine Ev_getR (i := 8) cl_X2 hk1.1 (Nat.le_of_ble_eq_true rfl) rfl wd_366 dX7_moveAngel_40 ?_
        refine Ev_iload_n 2 dX7_moveAngel_43 rfl rfl ?_
        obtain ⟨h0, h⟩ := h
        refine Ev_iald hk1.2.2.2.2.2.2.2.1 h0 dX7_moveAngel_44 ?_
        refine Ev_iadd dX7_moveAngel_45 ?_
        refine Ev_iconst dX7_moveAngel_46 rfl (ev_Rc rfl) ?_
        refine Ev_imul dX7_moveAngel_47 ?_
        refine Ev_istore (l' := [(4, ev_i (ev_mul (ev_add (ev_mul a2 40) (s (k1 + 7) (Int.toNat a2))) 2)), (0, ev_r 144), (1, ev_r k1), (2, ev_i a2), (3, ev_i a3)]) dX7_moveAngel_48 (Nat.le_of_ble_eq_true rfl) rfl ?_
        refine Ev_aload_n 1 dX7_moveAngel_50 rfl rfl ?_
        refine Ev_getR (i := 0) cl_X7 yX_144 (Nat.le_of_ble_eq_true rfl) rfl wd_552 dX7_moveAngel_51 ?_
        refine Ev_getR (i := 9) cl_X10 yX_1 (Nat.le_of_ble_eq_true rfl) rfl wd_274 dX7_moveAngel_54 ?_
        refine Ev_iload 0 dX7_moveAngel_57 rfl ?_
        obtain ⟨h0, h⟩ := h
        refine Ev_iald yX_6 h0 dX7_moveAngel_59 ?_
        refine Ev_istore (l' := [(5, ev_i (s 6 (Int.toNat (ev_mul (ev_add (ev_mul a2 40) (s (k1 + 7) (Int.toNat a2))) 2)))), (4, ev_i (ev_mul (ev_add (ev_mul a2 40) (s (k1 + 7) (Int.toNat a2))) 2)), (0, ev_r 144), (1, ev_r k1), (2, ev_i a2), (3, ev_i a3)]) dX7_moveAngel_60 (Nat.le_of_ble_eq_true rfl) rfl ?_
        refine Ev_aload_n 2 dX7_moveAngel_62 rfl rfl ?_
        refine Ev_getR (i := 0) cl_X7 yX_144 (Nat.le_of_ble_eq_true rfl) rfl wd_552 dX7_moveAngel_63 ?_
        refine Ev_getR (i := 9) cl_X10 yX_1 (Nat.le_of_ble_eq_true rfl) rfl wd_274 dX7_moveAngel_66 ?_
        refine Ev_iload 1 dX7_moveAngel_69 rfl ?_
        refine Ev_iconst dX7_moveAngel_71 rfl (ev_Rc rfl) ?_
        refine Ev_iadd dX7_moveAngel_72 ?_
        obtain ⟨h0, h⟩ := h
        refine Ev_iald yX_6 h0 dX7_moveAngel_73 ?_
        refine Ev_istore (l' := [(6, ev_i (s 6 (Int.toNat (ev_add (ev_mul (ev_add (ev_mul a2 40) (s (k1 + 7) (Int.toNat a2))) 2) 1)))), (5, ev_i (s 6 (Int.toNat (ev_mul (ev_add (ev_mul a2 40) (s (k1 + 7) (Int.toNat a2))) 2)))), (4, ev_i (ev_mul (ev_add (ev_mul a2 40) (s (k1 + 7) (Int.toNat a2))) 2)), (0, ev_r 144), (1, ev_r k1), (2, ev_i a2), (3, ev_i a3)]) dX7_moveAngel_74 (Nat.le_of_ble_eq_true rfl) rfl ?_
        refine Ev_aload_n 4 dX7_moveAngel_76 rfl rfl ?_
        refine Ev_getR (i := 8) cl_X2 hk1.1 (Nat.le_of_ble_eq_true rfl) rfl wd_366 dX7_moveAngel_77 ?_
        refine Ev_iload_n 5 dX7_moveAngel_80 rfl rfl ?_
        refine Ev_dup2 dX7_moveAngel_81 rfl rfl ?_
        obtain ⟨h0, h⟩ := h
        refine Ev_iald hk1.2.2.2.2.2.2.2.1 h0 dX7_moveAngel_82 ?_
        refine Ev_iconst dX7_moveAngel_83 rfl (ev_Rc rfl) ?_
        refine Ev_iadd dX7_moveAngel_84 ?_
        obtain ⟨h0, h⟩ := h
        refine Ev_iast hk1.2.2.2.2.2.2.2.1 h0 dX7_moveAngel_85 (Ev_nm (fun s1 es1 => ?_))
        replace h := h s1 es1
        refine Ev_iload 1 dX7_moveAngel_86 rfl ?_
        refine Ev_iconst dX7_moveAngel_88 rfl (ev_Rc rfl) ?_
        refine Ev_icmp_ge (tgt := 101) dX7_moveAngel_89 rfl (fun c => ?_) (fun c => ?_)
        · replace h := h.1 c
          refine Ev_aload_n 4 dX7_moveAngel_101 rfl rfl ?_
          refine Ev_getR (i := 7) cl_X2 hk1.1 (Nat.le_of_ble_eq_true rfl) rfl wd_363 dX7_moveAngel_102 ?_
          refine Ev_iload_n 5 dX7_moveAngel_105 rfl rfl ?_
          refine Ev_iload 1 dX7_moveAngel_106 rfl ?_
          refine Ev_iconst dX7_moveAngel_108 rfl (ev_Rc rfl) ?_
          refine Ev_icmp_ne (tgt := 117) dX7_moveAngel_109 rfl (fun c => ?_) (fun c => ?_)
          · replace h := h.1 c
            refine Ev_iconst dX7_moveAngel_117 rfl (ev_Rc rfl) ?_
            exact Ev_sub [3, 4, 5, 6, 1, 0] rfl h
          · replace h := h.2 c
            refine Ev_iload 0 dX7_moveAngel_112 rfl ?_
            refine Ev_goto (tgt := 118) dX7_moveAngel_114 rfl ?_
            exact Ev_sub [3, 4, 5, 6, 1, 0] rfl h
        · replace h := h.2 c
          refine Ev_aload_n 3 dX7_moveAngel_92 rfl rfl ?_
          refine Ev_aload_n 4 dX7_moveAngel_93 rfl rfl ?_
          refine Ev_iload_n 5 dX7_moveAngel_94 rfl rfl ?_
          refine Ev_iload 1 dX7_moveAngel_95 rfl ?_
          refine Ev_callV (As := [ev_r k1, ev_i a2, ev_i (s 6 (Int.toNat (ev_mul (ev_add (ev_mul a2 40) (s (k1 + 7) (Int.toNat a2))) 2)))]) (b := 144) (st := []) (M' := M_X7_act) cm_X7_act wd_1072 wd_1074 wd_32 yX_144 cl_X7 rfl dX7_moveAngel_97 (Nat.le_refl _) rfl (Nat.le_of_ble_eq_true rfl) (Nat.le_of_ble_eq_true rfl) h (fun v u h hk => ?_)
          cases hk
          obtain ⟨s2, rfl⟩ : ∃ x, x = u := ⟨_, rfl⟩
          exact Ev_vret rfl dX7_moveAngel_100 h
theorem wp_X7_moveAngel_118 {d : Nat} {k1 : Nat} (hk1 : is_X2 k1) {s : ev_S} {Q : Option ev_V → ev_S → Prop} {a2 a3 a5 a6 t0 t1 : Int}
    (h : ((0 ≤ t1 ∧ t1 < (6 : Nat)) ∧ ∀ s1, ev_up s (k1 + 6) (Int.toNat t1) t0 = s1 → ((a5 ≠ 5 → ((0 ≤ a2 ∧ a2 < (6 : Nat)) ∧ ∀ s2, ev_up s1 (k1 + 5) (Int.toNat a2) a6 = s2 → Ev layX M_X7_moveAngel (d + 1) 2 [(0, ev_r 144), (1, ev_r k1), (2, ev_i a2), (3, ev_i (ev_add a3 1))] [] s2 Q)) ∧ (a5 = 5 → ((0 ≤ a2 ∧ a2 < (6 : Nat)) ∧ (Ev layX M_X11_stepsBetween d 0 [(0, ev_i (s1 (k1 + 4) (Int.toNat a2))), (1, ev_i a6)] [] s1 (ev_pi (fun r4 s3 => ((0 ≤ a2 ∧ a2 < (6 : Nat)) ∧ ((0 ≤ a2 ∧ a2 < (6 : Nat)) ∧ ∀ s5, ev_up s3 (k1 + 5) (Int.toNat a2) (ev_mul r4 (s3 5 (Int.toNat a2))) = s5 → Ev layX M_X7_moveAngel (d + 1) 2 [(0, ev_r 144), (1, ev_r k1), (2, ev_i a2), (3, ev_i (ev_add a3 1))] [] s5 Q)))))))))) :
    Ev layX M_X7_moveAngel (d + 1) 118 [(0, ev_r 144), (1, ev_r k1), (2, ev_i a2), (3, ev_i a3), (5, ev_i a5), (6, ev_i a6)] [ev_i t0, ev_i t1, ev_r (k1 + 6)] s Q := by
  obtain ⟨h0, h⟩ := h
  refine Ev_iast hk1.2.2.2.2.2.2.1 h0 dX7_moveAngel_118 (Ev_nm (fun s1 es1 => ?_))
  replace h := h s1 es1
  refine Ev_aload_n 1 dX7_moveAngel_119 rfl rfl ?_
  refine Ev_getR (i := 6) cl_X2 hk1.1 (Nat.le_of_ble_eq_true rfl) rfl wd_360 dX7_moveAngel_120 ?_
  refine Ev_iload_n 2 dX7_moveAngel_123 rfl rfl ?_
  refine Ev_iload 4 dX7_moveAngel_124 rfl ?_
  refine Ev_iconst dX7_moveAngel_126 rfl (ev_Rc rfl) ?_
  refine Ev_icmp_ne (tgt := 154) dX7_moveAngel_127 rfl (fun c => ?_) (fun c => ?_)
  · replace h := h.1 c
    refine Ev_iload 5 dX7_moveAngel_154 rfl ?_
    obtain ⟨h0, h⟩ := h
    refine Ev_iast hk1.2.2.2.2.2.1 h0 dX7_moveAngel_156 (Ev_nm (fun s2 es2 => ?_))
    replace h := h s2 es2
    refine Ev_iinc (j := 3) (l' := [(3, ev_i (ev_add a3 1)), (0, ev_r 144), (1, ev_r k1), (2, ev_i a2), (5, ev_i a5), (6, ev_i a6)]) dX7_moveAngel_157 rfl (Nat.le_of_ble_eq_true rfl) rfl ?_
    refine Ev_goto (tgt := 2) dX7_moveAngel_160 rfl ?_
    exact Ev_sub [1, 2, 3, 0] rfl h
  · replace h := h.2 c
    refine Ev_aload_n 1 dX7_moveAngel_130 rfl rfl ?_
    refine Ev_getR (i := 5) cl_X2 hk1.1 (Nat.le_of_ble_eq_true rfl) rfl wd_355 dX7_moveAngel_131 ?_
    refine Ev_iload_n 2 dX7_moveAngel_134 rfl rfl ?_
    obtain ⟨h0, h⟩ := h
    refine Ev_iald hk1.2.2.2.2.1 h0 dX7_moveAngel_135 ?_
    refine Ev_iload 5 dX7_moveAngel_136 rfl ?_
    refine Ev_callSN (As := [ev_i (s1 (k1 + 4) (Int.toNat a2)), ev_i a6]) (st := [ev_i a2, ev_r (k1 + 5)]) (M' := M_X11_stepsBetween) cm_X11_stepsBetween wd_1105 wd_1106 dX7_moveAngel_138 (Nat.le_refl _) rfl (Nat.le_of_ble_eq_true rfl) (Nat.le_of_ble_eq_true rfl) h (fun v u h hk => ?_)
    obtain ⟨r4, rfl⟩ := hk
    obtain ⟨s3, rfl⟩ : ∃ x, x = u := ⟨_, rfl⟩
    replace h := h r4 rfl
    refine Ev_aload_n 0 dX7_moveAngel_141 rfl rfl ?_
    refine Ev_getR (i := 0) cl_X7 yX_144 (Nat.le_of_ble_eq_true rfl) rfl wd_552 dX7_moveAngel_142 ?_
    refine Ev_getR (i := 8) cl_X10 yX_1 (Nat.le_of_ble_eq_true rfl) rfl wd_269 dX7_moveAngel_145 ?_
    refine Ev_iload_n 2 dX7_moveAngel_148 rfl rfl ?_
    obtain ⟨h0, h⟩ := h
    refine Ev_iald yX_5 h0 dX7_moveAngel_149 ?_
    refine Ev_imul dX7_moveAngel_150 ?_
    refine Ev_goto (tgt := 156) dX7_moveAngel_151 rfl ?_
    obtain ⟨h0, h⟩ := h
    refine Ev_iast hk1.2.2.2.2.2.1 h0 dX7_moveAngel_156 (Ev_nm (fun s5 es5 => ?_))
    replace h := h s5 es5
    refine Ev_iinc (j := 3) (l' := [(3, ev_i (ev_add a3 1)), (0, ev_r 144), (1, ev_r k1), (2, ev_i a2), (5, ev_i a5), (6, ev_i a6)]) dX7_moveAngel_157 rfl (Nat.le_of_ble_eq_true rfl) rfl ?_
    refine Ev_goto (tgt := 2) dX7_moveAngel_160 rfl ?_
    exact Ev_sub [1, 2, 3, 0] rfl h
theorem wp_X7_moveAngel_163 {d : Nat} {k1 : Nat} (hk1 : is_X2 k1) {s : ev_S} {Q : Option ev_V → ev_S → Prop} {a2 : Int}
    (h : ((0 ≤ a2 ∧ a2 < (6 : Nat)) ∧ (((s (k1 + 5) (Int.toNat a2)) ≠ 0 → ((0 ≤ a2 ∧ a2 < (6 : Nat)) ∧ ((0 ≤ a2 ∧ a2 < (6 : Nat)) ∧ ∀ s1, ev_up s (k1 + 5) (Int.toNat a2) (ev_sub (s (k1 + 5) (Int.toNat a2)) 1) = s1 → ((0 ≤ a2 ∧ a2 < (6 : Nat)) ∧ (((s1 (k1 + 5) (Int.toNat a2)) ≠ 0 → Q none s1) ∧ ((s1 (k1 + 5) (Int.toNat a2)) = 0 → ((0 ≤ a2 ∧ a2 < (6 : Nat)) ∧ (((s1 (k1 + 6) (Int.toNat a2)) = (-1) → Q none s1) ∧ ((s1 (k1 + 6) (Int.toNat a2)) ≠ (-1) → ((0 ≤ a2 ∧ a2 < (6 : Nat)) ∧ ((0 ≤ a2 ∧ a2 < (6 : Nat)) ∧ ∀ s2, ev_up s1 (k1 + 4) (Int.toNat a2) (s1 (k1 + 6) (Int.toNat a2)) = s2 → ((0 ≤ a2 ∧ a2 < (6 : Nat)) ∧ ∀ s3, ev_up s2 (k1 + 6) (Int.toNat a2) (-1) = s3 → Q none s3)))))))))))) ∧ ((s (k1 + 5) (Int.toNat a2)) = 0 → Q none s)))) :
    Ev layX M_X7_moveAngel (d + 1) 163 [(1, ev_r k1), (2, ev_i a2)] [] s Q := by
  refine Ev_aload_n 0 dX7_moveAngel_163 rfl rfl ?_
  refine Ev_getR (i := 6) cl_X2 hk1.1 (Nat.le_of_ble_eq_true rfl) rfl wd_360 dX7_moveAngel_164 ?_
  refine Ev_iload_n 1 dX7_moveAngel_167 rfl rfl ?_
  obtain ⟨h0, h⟩ := h
  refine Ev_iald hk1.2.2.2.2.2.1 h0 dX7_moveAngel_168 ?_
  refine Ev_if_ne (tgt := 173) dX7_moveAngel_169 rfl (fun c => ?_) (fun c => ?_)
  · replace h := h.1 c
    refine Ev_aload_n 0 dX7_moveAngel_173 rfl rfl ?_
    refine Ev_getR (i := 6) cl_X2 hk1.1 (Nat.le_of_ble_eq_true rfl) rfl wd_360 dX7_moveAngel_174 ?_
    refine Ev_iload_n 1 dX7_moveAngel_177 rfl rfl ?_
    refine Ev_dup2 dX7_moveAngel_178 rfl rfl ?_
    obtain ⟨h0, h⟩ := h
    refine Ev_iald hk1.2.2.2.2.2.1 h0 dX7_moveAngel_179 ?_
    refine Ev_iconst dX7_moveAngel_180 rfl (ev_Rc rfl) ?_
    refine Ev_isub dX7_moveAngel_181 ?_
    obtain ⟨h0, h⟩ := h
    refine Ev_iast hk1.2.2.2.2.2.1 h0 dX7_moveAngel_182 (Ev_nm (fun s1 es1 => ?_))
    replace h := h s1 es1
    refine Ev_aload_n 0 dX7_moveAngel_183 rfl rfl ?_
    refine Ev_getR (i := 6) cl_X2 hk1.1 (Nat.le_of_ble_eq_true rfl) rfl wd_360 dX7_moveAngel_184 ?_
    refine Ev_iload_n 1 dX7_moveAngel_187 rfl rfl ?_
    obtain ⟨h0, h⟩ := h
    refine Ev_iald hk1.2.2.2.2.2.1 h0 dX7_moveAngel_188 ?_
    refine Ev_if_ne (tgt := 221) dX7_moveAngel_189 rfl (fun c => ?_) (fun c => ?_)
    · replace h := h.1 c
      exact Ev_vret rfl dX7_moveAngel_221 h
    · replace h := h.2 c
      refine Ev_aload_n 0 dX7_moveAngel_192 rfl rfl ?_
      refine Ev_getR (i := 7) cl_X2 hk1.1 (Nat.le_of_ble_eq_true rfl) rfl wd_363 dX7_moveAngel_193 ?_
      refine Ev_iload_n 1 dX7_moveAngel_196 rfl rfl ?_
      obtain ⟨h0, h⟩ := h
      refine Ev_iald hk1.2.2.2.2.2.2.1 h0 dX7_moveAngel_197 ?_
      refine Ev_iconst dX7_moveAngel_198 rfl (ev_Rc rfl) ?_
      refine Ev_icmp_eq (tgt := 221) dX7_moveAngel_199 rfl (fun c => ?_) (fun c => ?_)
      · replace h := h.1 c
        exact Ev_vret rfl dX7_moveAngel_221 h
      · replace h := h.2 c
        refine Ev_aload_n 0 dX7_moveAngel_202 rfl rfl ?_
        refine Ev_getR (i := 5) cl_X2 hk1.1 (Nat.le_of_ble_eq_true rfl) rfl wd_355 dX7_moveAngel_203 ?_
        refine Ev_iload_n 1 dX7_moveAngel_206 rfl rfl ?_
        refine Ev_aload_n 0 dX7_moveAngel_207 rfl rfl ?_
        refine Ev_getR (i := 7) cl_X2 hk1.1 (Nat.le_of_ble_eq_true rfl) rfl wd_363 dX7_moveAngel_208 ?_
        refine Ev_iload_n 1 dX7_moveAngel_211 rfl rfl ?_
        obtain ⟨h0, h⟩ := h
        refine Ev_iald hk1.2.2.2.2.2.2.1 h0 dX7_moveAngel_212 ?_
        obtain ⟨h0, h⟩ := h
        refine Ev_iast hk1.2.2.2.2.1 h0 dX7_moveAngel_213 (Ev_nm (fun s2 es2 => ?_))
        replace h := h s2 es2
        refine Ev_aload_n 0 dX7_moveAngel_214 rfl rfl ?_
        refine Ev_getR (i := 7) cl_X2 hk1.1 (Nat.le_of_ble_eq_true rfl) rfl wd_363 dX7_moveAngel_215 ?_
        refine Ev_iload_n 1 dX7_moveAngel_218 rfl rfl ?_
        refine Ev_iconst dX7_moveAngel_219 rfl (ev_Rc rfl) ?_
        obtain ⟨h0, h⟩ := h
        refine Ev_iast hk1.2.2.2.2.2.2.1 h0 dX7_moveAngel_220 (Ev_nm (fun s3 es3 => ?_))
        replace h := h s3 es3
        exact Ev_vret rfl dX7_moveAngel_221 h
  · replace h := h.2 c
    exact Ev_vret rfl dX7_moveAngel_172 h
theorem dX7_act_0 : decode cX7_act 0 = .ok (.aload_n 1, 1) := by decide +kernel
theorem dX7_act_1 : decode cX7_act 1 = .ok (.getfield 77, 3) := by decide +kernel
theorem dX7_act_4 : decode cX7_act 4 = .ok (.iload_n 2, 1) := by decide +kernel
theorem dX7_act_5 : decode cX7_act 5 = .ok (.iaload, 1) := by decide +kernel
theorem dX7_act_6 : decode cX7_act 6 = .ok (.istore 4, 2) := by decide +kernel
theorem dX7_act_8 : decode cX7_act 8 = .ok (.aload_n 0, 1) := by decide +kernel
theorem dX7_act_9 : decode cX7_act 9 = .ok (.aload_n 1, 1) := by decide +kernel
theorem dX7_act_10 : decode cX7_act 10 = .ok (.iload_n 2, 1) := by decide +kernel
theorem dX7_act_11 : decode cX7_act 11 = .ok (.iload_n 3, 1) := by decide +kernel
theorem dX7_act_12 : decode cX7_act 12 = .ok (.invokevirtual 87, 3) := by decide +kernel
theorem dX7_act_15 : decode cX7_act 15 = .ok (.istore 5, 2) := by decide +kernel
theorem dX7_act_17 : decode cX7_act 17 = .ok (.aload_n 1, 1) := by decide +kernel
theorem dX7_act_18 : decode cX7_act 18 = .ok (.getfield 91, 3) := by decide +kernel
theorem dX7_act_21 : decode cX7_act 21 = .ok (.iload_n 2, 1) := by decide +kernel
theorem dX7_act_22 : decode cX7_act 22 = .ok (.dup2, 1) := by decide +kernel
theorem dX7_act_23 : decode cX7_act 23 = .ok (.iaload, 1) := by decide +kernel
theorem dX7_act_24 : decode cX7_act 24 = .ok (.iconst 1, 1) := by decide +kernel
theorem dX7_act_25 : decode cX7_act 25 = .ok (.iadd, 1) := by decide +kernel
theorem dX7_act_26 : decode cX7_act 26 = .ok (.iastore, 1) := by decide +kernel
theorem dX7_act_27 : decode cX7_act 27 = .ok (.iconst 0, 1) := by decide +kernel
theorem dX7_act_28 : decode cX7_act 28 = .ok (.istore 6, 2) := by decide +kernel
theorem dX7_act_30 : decode cX7_act 30 = .ok (.iload 5, 2) := by decide +kernel
theorem dX7_act_32 : decode cX7_act 32 = .ok (.ifCond .eq 62, 3) := by decide +kernel
theorem dX7_act_35 : decode cX7_act 35 = .ok (.iload 6, 2) := by decide +kernel
theorem dX7_act_37 : decode cX7_act 37 = .ok (.aload_n 0, 1) := by decide +kernel
theorem dX7_act_38 : decode cX7_act 38 = .ok (.getfield 17, 3) := by decide +kernel
theorem dX7_act_41 : decode cX7_act 41 = .ok (.getfield 94, 3) := by decide +kernel
theorem dX7_act_44 : decode cX7_act 44 = .ok (.if_icmp .ge 50, 3) := by decide +kernel
theorem dX7_act_47 : decode cX7_act 47 = .ok (.aload_n 1, 1) := by decide +kernel
theorem dX7_act_48 : decode cX7_act 48 = .ok (.getfield 97, 3) := by decide +kernel
theorem dX7_act_51 : decode cX7_act 51 = .ok (.iload 6, 2) := by decide +kernel
theorem dX7_act_53 : decode cX7_act 53 = .ok (.iaload, 1) := by decide +kernel
theorem dX7_act_54 : decode cX7_act 54 = .ok (.iload 4, 2) := by decide +kernel
theorem dX7_act_56 : decode cX7_act 56 = .ok (.if_icmp .ne 32, 3) := by decide +kernel
theorem dX7_act_59 : decode cX7_act 59 = .ok (.aload_n 1, 1) := by decide +kernel
theorem dX7_act_60 : decode cX7_act 60 = .ok (.getfield 100, 3) := by decide +kernel
theorem dX7_act_63 : decode cX7_act 63 = .ok (.iload 6, 2) := by decide +kernel
theorem dX7_act_65 : decode cX7_act 65 = .ok (.bipush 99, 2) := by decide +kernel
theorem dX7_act_67 : decode cX7_act 67 = .ok (.aload_n 1, 1) := by decide +kernel
theorem dX7_act_68 : decode cX7_act 68 = .ok (.getfield 100, 3) := by decide +kernel
theorem dX7_act_71 : decode cX7_act 71 = .ok (.iload 6, 2) := by decide +kernel
theorem dX7_act_73 : decode cX7_act 73 = .ok (.iaload, 1) := by decide +kernel
theorem dX7_act_74 : decode cX7_act 74 = .ok (.aload_n 0, 1) := by decide +kernel
theorem dX7_act_75 : decode cX7_act 75 = .ok (.getfield 17, 3) := by decide +kernel
theorem dX7_act_78 : decode cX7_act 78 = .ok (.getfield 103, 3) := by decide +kernel
theorem dX7_act_81 : decode cX7_act 81 = .ok (.iload_n 3, 1) := by decide +kernel
theorem dX7_act_82 : decode cX7_act 82 = .ok (.iaload, 1) := by decide +kernel
theorem dX7_act_83 : decode cX7_act 83 = .ok (.iadd, 1) := by decide +kernel
theorem dX7_act_84 : decode cX7_act 84 = .ok (.invokestatic 106, 3) := by decide +kernel
theorem dX7_act_87 : decode cX7_act 87 = .ok (.iastore, 1) := by decide +kernel
theorem dX7_act_88 : decode cX7_act 88 = .ok (.iinc 6 1, 3) := by decide +kernel
theorem dX7_act_91 : decode cX7_act 91 = .ok (.goto (-61), 3) := by decide +kernel
theorem dX7_act_94 : decode cX7_act 94 = .ok (.aload_n 1, 1) := by decide +kernel
theorem dX7_act_95 : decode cX7_act 95 = .ok (.getfield 111, 3) := by decide +kernel
theorem dX7_act_98 : decode cX7_act 98 = .ok (.bipush 100, 2) := by decide +kernel
theorem dX7_act_100 : decode cX7_act 100 = .ok (.if_icmp .ge 34, 3) := by decide +kernel
theorem dX7_act_103 : decode cX7_act 103 = .ok (.aload_n 0, 1) := by decide +kernel
theorem dX7_act_104 : decode cX7_act 104 = .ok (.getfield 21, 3) := by decide +kernel
theorem dX7_act_107 : decode cX7_act 107 = .ok (.aload_n 1, 1) := by decide +kernel
theorem dX7_act_108 : decode cX7_act 108 = .ok (.getfield 111, 3) := by decide +kernel
theorem dX7_act_111 : decode cX7_act 111 = .ok (.aload_n 1, 1) := by decide +kernel
theorem dX7_act_112 : decode cX7_act 112 = .ok (.getfield 55, 3) := by decide +kernel
theorem dX7_act_115 : decode cX7_act 115 = .ok (.iload_n 2, 1) := by decide +kernel
theorem dX7_act_116 : decode cX7_act 116 = .ok (.iload_n 3, 1) := by decide +kernel
theorem dX7_act_117 : decode cX7_act 117 = .ok (.iload 4, 2) := by decide +kernel
theorem dX7_act_119 : decode cX7_act 119 = .ok (.iload 5, 2) := by decide +kernel
theorem dX7_act_121 : decode cX7_act 121 = .ok (.invokevirtual 114, 3) := by decide +kernel
theorem dX7_act_124 : decode cX7_act 124 = .ok (.aload_n 1, 1) := by decide +kernel
theorem dX7_act_125 : decode cX7_act 125 = .ok (.dup, 1) := by decide +kernel
theorem dX7_act_126 : decode cX7_act 126 = .ok (.getfield 111, 3) := by decide +kernel
theorem dX7_act_129 : decode cX7_act 129 = .ok (.iconst 1, 1) := by decide +kernel
theorem dX7_act_130 : decode cX7_act 130 = .ok (.iadd, 1) := by decide +kernel
theorem dX7_act_131 : decode cX7_act 131 = .ok (.putfield 111, 3) := by decide +kernel
theorem dX7_act_134 : decode cX7_act 134 = .ok (.return_, 1) := by decide +kernel
theorem wp_X7_act_0 {d : Nat} {k1 : Nat} (hk1 : is_X2 k1) {s : ev_S} {Q : Option ev_V → ev_S → Prop} {a2 a3 : Int}
    (h : ((0 ≤ a2 ∧ a2 < (6 : Nat)) ∧ (Ev layX M_X7_works d 0 [(0, ev_r 144), (1, ev_r k1), (2, ev_i a2), (3, ev_i a3)] [] s (ev_pi (fun r2 s1 => ((0 ≤ a2 ∧ a2 < (6 : Nat)) ∧ ((0 ≤ a2 ∧ a2 < (6 : Nat)) ∧ ∀ s3, ev_up s1 (k1 + 8) (Int.toNat a2) (ev_add (s1 (k1 + 8) (Int.toNat a2)) 1) = s3 → Ev layX M_X7_act (d + 1) 30 [(0, ev_r 144), (1, ev_r k1), (2, ev_i a2), (3, ev_i a3), (4, ev_i (s (k1 + 4) (Int.toNat a2))), (5, ev_i r2), (6, ev_i 0)] [] s3 Q))))))) :
    Ev layX M_X7_act (d + 1) 0 [(0, ev_r 144), (1, ev_r k1), (2, ev_i a2), (3, ev_i a3)] [] s Q := by
  refine Ev_aload_n 1 dX7_act_0 rfl rfl ?_
  refine Ev_getR (i := 5) cl_X2 hk1.1 (Nat.le_of_ble_eq_true rfl) rfl wd_355 dX7_act_1 ?_
  refine Ev_iload_n 2 dX7_act_4 rfl rfl ?_
  obtain ⟨h0, h⟩ := h
  refine Ev_iald hk1.2.2.2.2.1 h0 dX7_act_5 ?_
  refine Ev_istore (l' := [(4, ev_i (s (k1 + 4) (Int.toNat a2))), (0, ev_r 144), (1, ev_r k1), (2, ev_i a2), (3, ev_i a3)]) dX7_act_6 (Nat.le_of_ble_eq_true rfl) rfl ?_
  refine Ev_aload_n 1 dX7_act_8 rfl rfl ?_
  refine Ev_aload_n 2 dX7_act_9 rfl rfl ?_
  refine Ev_iload_n 3 dX7_act_10 rfl rfl ?_
  refine Ev_iload_n 4 dX7_act_11 rfl rfl ?_
  refine Ev_callV (As := [ev_r k1, ev_i a2, ev_i a3]) (b := 144) (st := []) (M' := M_X7_works) cm_X7_works wd_1076 wd_1078 wd_33 yX_144 cl_X7 rfl dX7_act_12 (Nat.le_refl _) rfl (Nat.le_of_ble_eq_true rfl) (Nat.le_of_ble_eq_true rfl) h (fun v u h hk => ?_)
  obtain ⟨r2, rfl⟩ := hk
  obtain ⟨s1, rfl⟩ : ∃ x, x = u := ⟨_, rfl⟩
  replace h := h r2 rfl
  refine Ev_istore (l' := [(5, ev_i r2), (4, ev_i (s (k1 + 4) (Int.toNat a2))), (0, ev_r 144), (1, ev_r k1), (2, ev_i a2), (3, ev_i a3)]) dX7_act_15 (Nat.le_of_ble_eq_true rfl) rfl ?_
  refine Ev_aload_n 3 dX7_act_17 rfl rfl ?_
  refine Ev_getR (i := 9) cl_X2 hk1.1 (Nat.le_of_ble_eq_true rfl) rfl wd_369 dX7_act_18 ?_
  refine Ev_iload_n 4 dX7_act_21 rfl rfl ?_
  refine Ev_dup2 dX7_act_22 rfl rfl ?_
  obtain ⟨h0, h⟩ := h
  refine Ev_iald hk1.2.2.2.2.2.2.2.2.1 h0 dX7_act_23 ?_
  refine Ev_iconst dX7_act_24 rfl (ev_Rc rfl) ?_
  refine Ev_iadd dX7_act_25 ?_
  obtain ⟨h0, h⟩ := h
  refine Ev_iast hk1.2.2.2.2.2.2.2.2.1 h0 dX7_act_26 (Ev_nm (fun s3 es3 => ?_))
  replace h := h s3 es3
  refine Ev_iconst dX7_act_27 rfl (ev_Rc rfl) ?_
  refine Ev_istore (l' := [(6, ev_i 0), (5, ev_i r2), (4, ev_i (s (k1 + 4) (Int.toNat a2))), (0, ev_r 144), (1, ev_r k1), (2, ev_i a2), (3, ev_i a3)]) dX7_act_28 (Nat.le_of_ble_eq_true rfl) rfl ?_
  exact Ev_sub [3, 4, 5, 6, 2, 1, 0] rfl h
theorem wp_X7_act_30 {d : Nat} {k1 : Nat} (hk1 : is_X2 k1) {s : ev_S} {Q : Option ev_V → ev_S → Prop} {a2 a3 a4 a5 a6 : Int}
    (h : ((a5 = 0 → Ev layX M_X7_act (d + 1) 94 [(0, ev_r 144), (1, ev_r k1), (2, ev_i a2), (3, ev_i a3), (4, ev_i a4), (5, ev_i a5)] [] s Q) ∧ (a5 ≠ 0 → (((s 1 4) ≤ a6 → Ev layX M_X7_act (d + 1) 94 [(0, ev_r 144), (1, ev_r k1), (2, ev_i a2), (3, ev_i a3), (4, ev_i a4), (5, ev_i a5)] [] s Q) ∧ (a6 < (s 1 4) → ((0 ≤ a6 ∧ a6 < (8 : Nat)) ∧ (((s (k1 + 1) (Int.toNat a6)) ≠ a4 → Ev layX M_X7_act (d + 1) 30 [(0, ev_r 144), (1, ev_r k1), (2, ev_i a2), (3, ev_i a3), (4, ev_i a4), (5, ev_i a5), (6, ev_i (ev_add a6 1))] [] s Q) ∧ ((s (k1 + 1) (Int.toNat a6)) = a4 → ((0 ≤ a6 ∧ a6 < (8 : Nat)) ∧ ((0 ≤ a3 ∧ a3 < (5 : Nat)) ∧ ((0 ≤ a6 ∧ a6 < (8 : Nat)) ∧ ∀ s1, ev_up s (k1 + 2) (Int.toNat a6) (min 99 (ev_add (s (k1 + 2) (Int.toNat a6)) (s 2 (Int.toNat a3)))) = s1 → Ev layX M_X7_act (d + 1) 30 [(0, ev_r 144), (1, ev_r k1), (2, ev_i a2), (3, ev_i a3), (4, ev_i a4), (5, ev_i a5), (6, ev_i (ev_add a6 1))] [] s1 Q))))))))))) :
    Ev layX M_X7_act (d + 1) 30 [(0, ev_r 144), (1, ev_r k1), (2, ev_i a2), (3, ev_i a3), (4, ev_i a4), (5, ev_i a5), (6, ev_i a6)] [] s Q := by
  refine Ev_iload 5 dX7_act_30 rfl ?_
  refine Ev_if_eq (tgt := 94) dX7_act_32 rfl (fun c => ?_) (fun c => ?_)
  · replace h := h.1 c
    exact Ev_sub [0, 1, 2, 3, 4, 5] rfl h
  · replace h := h.2 c
    refine Ev_iload 6 dX7_act_35 rfl ?_
    refine Ev_aload_n 0 dX7_act_37 rfl rfl ?_
    refine Ev_getR (i := 0) cl_X7 yX_144 (Nat.le_of_ble_eq_true rfl) rfl wd_552 dX7_act_38 ?_
    refine Ev_get (i := 4) cl_X10 yX_1 (Nat.le_of_ble_eq_true rfl) rfl wd_254 dX7_act_41 ?_
    refine Ev_icmp_ge (tgt := 94) dX7_act_44 rfl (fun c => ?_) (fun c => ?_)
    · replace h := h.1 c
      exact Ev_sub [0, 1, 2, 3, 4, 5] rfl h
    · replace h := h.2 c
      refine Ev_aload_n 1 dX7_act_47 rfl rfl ?_
      refine Ev_getR (i := 2) cl_X2 hk1.1 (Nat.le_of_ble_eq_true rfl) rfl wd_345 dX7_act_48 ?_
      refine Ev_iload 6 dX7_act_51 rfl ?_
      obtain ⟨h0, h⟩ := h
      refine Ev_iald hk1.2.1 h0 dX7_act_53 ?_
      refine Ev_iload 4 dX7_act_54 rfl ?_
      refine Ev_icmp_ne (tgt := 88) dX7_act_56 rfl (fun c => ?_) (fun c => ?_)
      · replace h := h.1 c
        refine Ev_iinc (j := 6) (l' := [(6, ev_i (ev_add a6 1)), (0, ev_r 144), (1, ev_r k1), (2, ev_i a2), (3, ev_i a3), (4, ev_i a4), (5, ev_i a5)]) dX7_act_88 rfl (Nat.le_of_ble_eq_true rfl) rfl ?_
        refine Ev_goto (tgt := 30) dX7_act_91 rfl ?_
        exact Ev_sub [1, 2, 3, 4, 5, 6, 0] rfl h
      · replace h := h.2 c
        refine Ev_aload_n 1 dX7_act_59 rfl rfl ?_
        refine Ev_getR (i := 3) cl_X2 hk1.1 (Nat.le_of_ble_eq_true rfl) rfl wd_349 dX7_act_60 ?_
        refine Ev_iload 6 dX7_act_63 rfl ?_
        refine Ev_bipushC dX7_act_65 rfl ?_
        refine Ev_aload_n 1 dX7_act_67 rfl rfl ?_
        refine Ev_getR (i := 3) cl_X2 hk1.1 (Nat.le_of_ble_eq_true rfl) rfl wd_349 dX7_act_68 ?_
        refine Ev_iload 6 dX7_act_71 rfl ?_
        obtain ⟨h0, h⟩ := h
        refine Ev_iald hk1.2.2.1 h0 dX7_act_73 ?_
        refine Ev_aload_n 0 dX7_act_74 rfl rfl ?_
        refine Ev_getR (i := 0) cl_X7 yX_144 (Nat.le_of_ble_eq_true rfl) rfl wd_552 dX7_act_75 ?_
        refine Ev_getR (i := 3) cl_X10 yX_1 (Nat.le_of_ble_eq_true rfl) rfl wd_252 dX7_act_78 ?_
        refine Ev_iload_n 3 dX7_act_81 rfl rfl ?_
        obtain ⟨h0, h⟩ := h
        refine Ev_iald yX_2 h0 dX7_act_82 ?_
        refine Ev_iadd dX7_act_83 ?_
        refine Ev_mmin wd_1100 dX7_act_84 (Nat.le_of_ble_eq_true rfl) ?_
        obtain ⟨h0, h⟩ := h
        refine Ev_iast hk1.2.2.1 h0 dX7_act_87 (Ev_nm (fun s1 es1 => ?_))
        replace h := h s1 es1
        refine Ev_iinc (j := 6) (l' := [(6, ev_i (ev_add a6 1)), (0, ev_r 144), (1, ev_r k1), (2, ev_i a2), (3, ev_i a3), (4, ev_i a4), (5, ev_i a5)]) dX7_act_88 rfl (Nat.le_of_ble_eq_true rfl) rfl ?_
        refine Ev_goto (tgt := 30) dX7_act_91 rfl ?_
        exact Ev_sub [1, 2, 3, 4, 5, 6, 0] rfl h
theorem wp_X7_act_94 {d : Nat} {k1 : Nat} (hk1 : is_X2 k1) {s : ev_S} {Q : Option ev_V → ev_S → Prop} {a2 a3 a4 a5 : Int}
    (h : ((100 ≤ (s k1 13) → Q none s) ∧ ((s k1 13) < 100 → (Ev layX M_X0_write d 0 [(0, ev_r 27), (1, ev_i (s k1 13)), (2, ev_i (s k1 0)), (3, ev_i a2), (4, ev_i a3), (5, ev_i a4), (6, ev_i a5)] [] s (fun _ s1 => (∀ s2, ev_up s1 k1 13 (ev_add (s1 k1 13) 1) = s2 → Q none s2)))))) :
    Ev layX M_X7_act (d + 1) 94 [(0, ev_r 144), (1, ev_r k1), (2, ev_i a2), (3, ev_i a3), (4, ev_i a4), (5, ev_i a5)] [] s Q := by
  refine Ev_aload_n 1 dX7_act_94 rfl rfl ?_
  refine Ev_get (i := 13) cl_X2 hk1.1 (Nat.le_of_ble_eq_true rfl) rfl wd_382 dX7_act_95 ?_
  refine Ev_bipushC dX7_act_98 rfl ?_
  refine Ev_icmp_ge (tgt := 134) dX7_act_100 rfl (fun c => ?_) (fun c => ?_)
  · replace h := h.1 c
    exact Ev_vret rfl dX7_act_134 h
  · replace h := h.2 c
    refine Ev_aload_n 0 dX7_act_103 rfl rfl ?_
    refine Ev_getR (i := 1) cl_X7 yX_144 (Nat.le_of_ble_eq_true rfl) rfl wd_553 dX7_act_104 ?_
    refine Ev_aload_n 1 dX7_act_107 rfl rfl ?_
    refine Ev_get (i := 13) cl_X2 hk1.1 (Nat.le_of_ble_eq_true rfl) rfl wd_382 dX7_act_108 ?_
    refine Ev_aload_n 1 dX7_act_111 rfl rfl ?_
    refine Ev_get (i := 0) cl_X2 hk1.1 (Nat.le_of_ble_eq_true rfl) rfl wd_338 dX7_act_112 ?_
    refine Ev_iload_n 2 dX7_act_115 rfl rfl ?_
    refine Ev_iload_n 3 dX7_act_116 rfl rfl ?_
    refine Ev_iload 4 dX7_act_117 rfl ?_
    refine Ev_iload 5 dX7_act_119 rfl ?_
    refine Ev_callV (As := [ev_i (s k1 13), ev_i (s k1 0), ev_i a2, ev_i a3, ev_i a4, ev_i a5]) (b := 27) (st := []) (M' := M_X0_write) cm_X0_write wd_1101 wd_1102 wd_1103 yX_27 cl_X0 rfl dX7_act_121 (Nat.le_refl _) rfl (Nat.le_of_ble_eq_true rfl) (Nat.le_of_ble_eq_true rfl) h (fun v u h hk => ?_)
    cases hk
    obtain ⟨s1, rfl⟩ : ∃ x, x = u := ⟨_, rfl⟩
    refine Ev_aload_n 1 dX7_act_124 rfl rfl ?_
    refine Ev_dup dX7_act_125 rfl ?_
    refine Ev_get (i := 13) cl_X2 hk1.1 (Nat.le_of_ble_eq_true rfl) rfl wd_382 dX7_act_126 ?_
    refine Ev_iconst dX7_act_129 rfl (ev_Rc rfl) ?_
    refine Ev_iadd dX7_act_130 ?_
    refine Ev_put (i := 13) (ty := .int) cl_X2 hk1.1 (Nat.le_of_ble_eq_true rfl) rfl rfl (by decide +kernel) rfl rfl wd_382 dX7_act_131 (Ev_nm (fun s2 es2 => ?_))
    replace h := h s2 es2
    exact Ev_vret rfl dX7_act_134 h
theorem dX7_works_0 : decode cX7_works 0 = .ok (.aload_n 1, 1) := by decide +kernel
theorem dX7_works_1 : decode cX7_works 1 = .ok (.getfield 77, 3) := by decide +kernel
theorem dX7_works_4 : decode cX7_works 4 = .ok (.iload_n 2, 1) := by decide +kernel
theorem dX7_works_5 : decode cX7_works 5 = .ok (.iaload, 1) := by decide +kernel
theorem dX7_works_6 : decode cX7_works 6 = .ok (.istore 4, 2) := by decide +kernel
theorem dX7_works_8 : decode cX7_works 8 = .ok (.aload_n 0, 1) := by decide +kernel
theorem dX7_works_9 : decode cX7_works 9 = .ok (.iload 4, 2) := by decide +kernel
theorem dX7_works_11 : decode cX7_works 11 = .ok (.aload_n 1, 1) := by decide +kernel
theorem dX7_works_12 : decode cX7_works 12 = .ok (.getfield 55, 3) := by decide +kernel
theorem dX7_works_15 : decode cX7_works 15 = .ok (.invokevirtual 120, 3) := by decide +kernel
theorem dX7_works_18 : decode cX7_works 18 = .ok (.istore 5, 2) := by decide +kernel
theorem dX7_works_20 : decode cX7_works 20 = .ok (.aload_n 0, 1) := by decide +kernel
theorem dX7_works_21 : decode cX7_works 21 = .ok (.getfield 11, 3) := by decide +kernel
theorem dX7_works_24 : decode cX7_works 24 = .ok (.iconst 0, 1) := by decide +kernel
theorem dX7_works_25 : decode cX7_works 25 = .ok (.iload_n 3, 1) := by decide +kernel
theorem dX7_works_26 : decode cX7_works 26 = .ok (.iastore, 1) := by decide +kernel
theorem dX7_works_27 : decode cX7_works 27 = .ok (.aload_n 0, 1) := by decide +kernel
theorem dX7_works_28 : decode cX7_works 28 = .ok (.getfield 11, 3) := by decide +kernel
theorem dX7_works_31 : decode cX7_works 31 = .ok (.iconst 1, 1) := by decide +kernel
theorem dX7_works_32 : decode cX7_works 32 = .ok (.aload_n 1, 1) := by decide +kernel
theorem dX7_works_33 : decode cX7_works 33 = .ok (.getfield 55, 3) := by decide +kernel
theorem dX7_works_36 : decode cX7_works 36 = .ok (.iastore, 1) := by decide +kernel
theorem dX7_works_37 : decode cX7_works 37 = .ok (.aload_n 0, 1) := by decide +kernel
theorem dX7_works_38 : decode cX7_works 38 = .ok (.getfield 11, 3) := by decide +kernel
theorem dX7_works_41 : decode cX7_works 41 = .ok (.iconst 2, 1) := by decide +kernel
theorem dX7_works_42 : decode cX7_works 42 = .ok (.iload 4, 2) := by decide +kernel
theorem dX7_works_44 : decode cX7_works 44 = .ok (.bipush 8, 2) := by decide +kernel
theorem dX7_works_46 : decode cX7_works 46 = .ok (.irem, 1) := by decide +kernel
theorem dX7_works_47 : decode cX7_works 47 = .ok (.iastore, 1) := by decide +kernel
theorem dX7_works_48 : decode cX7_works 48 = .ok (.aload_n 0, 1) := by decide +kernel
theorem dX7_works_49 : decode cX7_works 49 = .ok (.getfield 11, 3) := by decide +kernel
theorem dX7_works_52 : decode cX7_works 52 = .ok (.iconst 3, 1) := by decide +kernel
theorem dX7_works_53 : decode cX7_works 53 = .ok (.iload 4, 2) := by decide +kernel
theorem dX7_works_55 : decode cX7_works 55 = .ok (.bipush 8, 2) := by decide +kernel
theorem dX7_works_57 : decode cX7_works 57 = .ok (.idiv, 1) := by decide +kernel
theorem dX7_works_58 : decode cX7_works 58 = .ok (.iastore, 1) := by decide +kernel
theorem dX7_works_59 : decode cX7_works 59 = .ok (.aload_n 0, 1) := by decide +kernel
theorem dX7_works_60 : decode cX7_works 60 = .ok (.getfield 11, 3) := by decide +kernel
theorem dX7_works_63 : decode cX7_works 63 = .ok (.iconst 4, 1) := by decide +kernel
theorem dX7_works_64 : decode cX7_works 64 = .ok (.aload_n 0, 1) := by decide +kernel
theorem dX7_works_65 : decode cX7_works 65 = .ok (.aload_n 1, 1) := by decide +kernel
theorem dX7_works_66 : decode cX7_works 66 = .ok (.iload 4, 2) := by decide +kernel
theorem dX7_works_68 : decode cX7_works 68 = .ok (.invokevirtual 124, 3) := by decide +kernel
theorem dX7_works_71 : decode cX7_works 71 = .ok (.iastore, 1) := by decide +kernel
theorem dX7_works_72 : decode cX7_works 72 = .ok (.aload_n 0, 1) := by decide +kernel
theorem dX7_works_73 : decode cX7_works 73 = .ok (.getfield 11, 3) := by decide +kernel
theorem dX7_works_76 : decode cX7_works 76 = .ok (.iconst 5, 1) := by decide +kernel
theorem dX7_works_77 : decode cX7_works 77 = .ok (.iload 5, 2) := by decide +kernel
theorem dX7_works_79 : decode cX7_works 79 = .ok (.ifCond .eq 7, 3) := by decide +kernel
theorem dX7_works_82 : decode cX7_works 82 = .ok (.iconst 1, 1) := by decide +kernel
theorem dX7_works_83 : decode cX7_works 83 = .ok (.goto 4, 3) := by decide +kernel
theorem dX7_works_86 : decode cX7_works 86 = .ok (.iconst 0, 1) := by decide +kernel
theorem dX7_works_87 : decode cX7_works 87 = .ok (.iastore, 1) := by decide +kernel
theorem dX7_works_88 : decode cX7_works 88 = .ok (.aload_n 0, 1) := by decide +kernel
theorem dX7_works_89 : decode cX7_works 89 = .ok (.getfield 11, 3) := by decide +kernel
theorem dX7_works_92 : decode cX7_works 92 = .ok (.bipush 6, 2) := by decide +kernel
theorem dX7_works_94 : decode cX7_works 94 = .ok (.iload_n 2, 1) := by decide +kernel
theorem dX7_works_95 : decode cX7_works 95 = .ok (.iastore, 1) := by decide +kernel
theorem dX7_works_96 : decode cX7_works 96 = .ok (.aload_n 0, 1) := by decide +kernel
theorem dX7_works_97 : decode cX7_works 97 = .ok (.getfield 11, 3) := by decide +kernel
theorem dX7_works_100 : decode cX7_works 100 = .ok (.bipush 7, 2) := by decide +kernel
theorem dX7_works_102 : decode cX7_works 102 = .ok (.aload_n 1, 1) := by decide +kernel
theorem dX7_works_103 : decode cX7_works 103 = .ok (.getfield 91, 3) := by decide +kernel
theorem dX7_works_106 : decode cX7_works 106 = .ok (.iload_n 2, 1) := by decide +kernel
theorem dX7_works_107 : decode cX7_works 107 = .ok (.iaload, 1) := by decide +kernel
theorem dX7_works_108 : decode cX7_works 108 = .ok (.iastore, 1) := by decide +kernel
theorem dX7_works_109 : decode cX7_works 109 = .ok (.aload_n 0, 1) := by decide +kernel
theorem dX7_works_110 : decode cX7_works 110 = .ok (.getfield 11, 3) := by decide +kernel
theorem dX7_works_113 : decode cX7_works 113 = .ok (.bipush 8, 2) := by decide +kernel
theorem dX7_works_115 : decode cX7_works 115 = .ok (.aload_n 0, 1) := by decide +kernel
theorem dX7_works_116 : decode cX7_works 116 = .ok (.getfield 17, 3) := by decide +kernel
theorem dX7_works_119 : decode cX7_works 119 = .ok (.getfield 84, 3) := by decide +kernel
theorem dX7_works_122 : decode cX7_works 122 = .ok (.iload_n 2, 1) := by decide +kernel
theorem dX7_works_123 : decode cX7_works 123 = .ok (.iaload, 1) := by decide +kernel
theorem dX7_works_124 : decode cX7_works 124 = .ok (.iastore, 1) := by decide +kernel
theorem dX7_works_125 : decode cX7_works 125 = .ok (.iconst 0, 1) := by decide +kernel
theorem dX7_works_126 : decode cX7_works 126 = .ok (.istore 6, 2) := by decide +kernel
theorem dX7_works_128 : decode cX7_works 128 = .ok (.iload 6, 2) := by decide +kernel
theorem dX7_works_130 : decode cX7_works 130 = .ok (.aload_n 0, 1) := by decide +kernel
theorem dX7_works_131 : decode cX7_works 131 = .ok (.getfield 17, 3) := by decide +kernel
theorem dX7_works_134 : decode cX7_works 134 = .ok (.getfield 128, 3) := by decide +kernel
theorem dX7_works_137 : decode cX7_works 137 = .ok (.getfield 132, 3) := by decide +kernel
theorem dX7_works_140 : decode cX7_works 140 = .ok (.if_icmp .ge 41, 3) := by decide +kernel
theorem dX7_works_143 : decode cX7_works 143 = .ok (.aload_n 0, 1) := by decide +kernel
theorem dX7_works_144 : decode cX7_works 144 = .ok (.getfield 17, 3) := by decide +kernel
theorem dX7_works_147 : decode cX7_works 147 = .ok (.getfield 128, 3) := by decide +kernel
theorem dX7_works_150 : decode cX7_works 150 = .ok (.iload 6, 2) := by decide +kernel
theorem dX7_works_152 : decode cX7_works 152 = .ok (.aload_n 0, 1) := by decide +kernel
theorem dX7_works_153 : decode cX7_works 153 = .ok (.getfield 11, 3) := by decide +kernel
theorem dX7_works_156 : decode cX7_works 156 = .ok (.invokevirtual 134, 3) := by decide +kernel
theorem dX7_works_159 : decode cX7_works 159 = .ok (.ifCond .eq 16, 3) := by decide +kernel
theorem dX7_works_162 : decode cX7_works 162 = .ok (.aload_n 0, 1) := by decide +kernel
theorem dX7_works_163 : decode cX7_works 163 = .ok (.getfield 17, 3) := by decide +kernel
theorem dX7_works_166 : decode cX7_works 166 = .ok (.getfield 128, 3) := by decide +kernel
theorem dX7_works_169 : decode cX7_works 169 = .ok (.iload 6, 2) := by decide +kernel
theorem dX7_works_171 : decode cX7_works 171 = .ok (.invokevirtual 138, 3) := by decide +kernel
theorem dX7_works_174 : decode cX7_works 174 = .ok (.ireturn, 1) := by decide +kernel
theorem dX7_works_175 : decode cX7_works 175 = .ok (.iinc 6 1, 3) := by decide +kernel
theorem dX7_works_178 : decode cX7_works 178 = .ok (.goto (-50), 3) := by decide +kernel
theorem dX7_works_181 : decode cX7_works 181 = .ok (.iload 5, 2) := by decide +kernel
theorem dX7_works_183 : decode cX7_works 183 = .ok (.ifCond .ne 7, 3) := by decide +kernel
theorem dX7_works_186 : decode cX7_works 186 = .ok (.iconst 1, 1) := by decide +kernel
theorem dX7_works_187 : decode cX7_works 187 = .ok (.goto 4, 3) := by decide +kernel
theorem dX7_works_190 : decode cX7_works 190 = .ok (.iconst 0, 1) := by decide +kernel
theorem dX7_works_191 : decode cX7_works 191 = .ok (.ireturn, 1) := by decide +kernel
theorem wp_X7_works_0 {d : Nat} {k1 : Nat} (hk1 : is_X2 k1) {s : ev_S} {Q : Option ev_V → ev_S → Prop} {a2 a3 : Int}
    (h : ((0 ≤ a2 ∧ a2 < (6 : Nat)) ∧ (Ev layX M_X7_isSpoilt d 0 [(0, ev_r 144), (1, ev_i (s (k1 + 4) (Int.toNat a2))), (2, ev_i (s k1 0))] [] s (ev_pi (fun r2 s1 => (∀ s3, ev_up s1 145 0 a3 = s3 → (∀ s4, ev_up s3 145 1 (s3 k1 0) = s4 → (∀ s5, ev_up s4 145 2 (ev_rem (s (k1 + 4) (Int.toNat a2)) 8) = s5 → (∀ s6, ev_up s5 145 3 (ev_div (s (k1 + 4) (Int.toNat a2)) 8) = s6 → (Ev layX M_X7_howManyThere d 0 [(0, ev_r 144), (1, ev_r k1), (2, ev_i (s (k1 + 4) (Int.toNat a2)))] [] s6 (ev_pi (fun r8 s7 => (∀ s9, ev_up s7 145 4 r8 = s9 → ((r2 = 0 → Ev layX M_X7_works (d + 1) 87 [(0, ev_r 144), (1, ev_r k1), (2, ev_i a2), (5, ev_i r2)] [ev_i 0, ev_i 5, ev_r 145] s9 Q) ∧ (r2 ≠ 0 → Ev layX M_X7_works (d + 1) 87 [(0, ev_r 144), (1, ev_r k1), (2, ev_i a2), (5, ev_i r2)] [ev_i 1, ev_i 5, ev_r 145] s9 Q))))))))))))))) :
    Ev layX M_X7_works (d + 1) 0 [(0, ev_r 144), (1, ev_r k1), (2, ev_i a2), (3, ev_i a3)] [] s Q := by
  refine Ev_aload_n 1 dX7_works_0 rfl rfl ?_
  refine Ev_getR (i := 5) cl_X2 hk1.1 (Nat.le_of_ble_eq_true rfl) rfl wd_355 dX7_works_1 ?_
  refine Ev_iload_n 2 dX7_works_4 rfl rfl ?_
  obtain ⟨h0, h⟩ := h
  refine Ev_iald hk1.2.2.2.2.1 h0 dX7_works_5 ?_
  refine Ev_istore (l' := [(4, ev_i (s (k1 + 4) (Int.toNat a2))), (0, ev_r 144), (1, ev_r k1), (2, ev_i a2), (3, ev_i a3)]) dX7_works_6 (Nat.le_of_ble_eq_true rfl) rfl ?_
  refine Ev_aload_n 1 dX7_works_8 rfl rfl ?_
  refine Ev_iload 0 dX7_works_9 rfl ?_
  refine Ev_aload_n 2 dX7_works_11 rfl rfl ?_
  refine Ev_get (i := 0) cl_X2 hk1.1 (Nat.le_of_ble_eq_true rfl) rfl wd_338 dX7_works_12 ?_
  refine Ev_callV (As := [ev_i (s (k1 + 4) (Int.toNat a2)), ev_i (s k1 0)]) (b := 144) (st := []) (M' := M_X7_isSpoilt) cm_X7_isSpoilt wd_1080 wd_1082 wd_34 yX_144 cl_X7 rfl dX7_works_15 (Nat.le_refl _) rfl (Nat.le_of_ble_eq_true rfl) (Nat.le_of_ble_eq_true rfl) h (fun v u h hk => ?_)
  obtain ⟨r2, rfl⟩ := hk
  obtain ⟨s1, rfl⟩ : ∃ x, x = u := ⟨_, rfl⟩
  replace h := h r2 rfl
  refine Ev_istore (l' := [(5, ev_i r2), (4, ev_i (s (k1 + 4) (Int.toNat a2))), (0, ev_r 144), (1, ev_r k1), (2, ev_i a2), (3, ev_i a3)]) dX7_works_18 (Nat.le_of_ble_eq_true rfl) rfl ?_
  refine Ev_aload_n 2 dX7_works_20 rfl rfl ?_
  refine Ev_getR (i := 2) cl_X7 yX_144 (Nat.le_of_ble_eq_true rfl) rfl wd_554 dX7_works_21 ?_
  refine Ev_iconst dX7_works_24 rfl (ev_Rc rfl) ?_
  refine Ev_iload_n 5 dX7_works_25 rfl rfl ?_
  refine Ev_iast yX_145 (by decide) dX7_works_26 (Ev_nm (fun s3 es3 => ?_))
  replace h := h s3 es3
  refine Ev_aload_n 2 dX7_works_27 rfl rfl ?_
  refine Ev_getR (i := 2) cl_X7 yX_144 (Nat.le_of_ble_eq_true rfl) rfl wd_554 dX7_works_28 ?_
  refine Ev_iconst dX7_works_31 rfl (ev_Rc rfl) ?_
  refine Ev_aload_n 3 dX7_works_32 rfl rfl ?_
  refine Ev_get (i := 0) cl_X2 hk1.1 (Nat.le_of_ble_eq_true rfl) rfl wd_338 dX7_works_33 ?_
  refine Ev_iast yX_145 (by decide) dX7_works_36 (Ev_nm (fun s4 es4 => ?_))
  replace h := h s4 es4
  refine Ev_aload_n 2 dX7_works_37 rfl rfl ?_
  refine Ev_getR (i := 2) cl_X7 yX_144 (Nat.le_of_ble_eq_true rfl) rfl wd_554 dX7_works_38 ?_
  refine Ev_iconst dX7_works_41 rfl (ev_Rc rfl) ?_
  refine Ev_iload 1 dX7_works_42 rfl ?_
  refine Ev_bipushC dX7_works_44 rfl ?_
  refine Ev_irem dX7_works_46 (by decide) ?_
  refine Ev_iast yX_145 (by decide) dX7_works_47 (Ev_nm (fun s5 es5 => ?_))
  replace h := h s5 es5
  refine Ev_aload_n 2 dX7_works_48 rfl rfl ?_
  refine Ev_getR (i := 2) cl_X7 yX_144 (Nat.le_of_ble_eq_true rfl) rfl wd_554 dX7_works_49 ?_
  refine Ev_iconst dX7_works_52 rfl (ev_Rc rfl) ?_
  refine Ev_iload 1 dX7_works_53 rfl ?_
  refine Ev_bipushC dX7_works_55 rfl ?_
  refine Ev_idiv dX7_works_57 (by decide) ?_
  refine Ev_iast yX_145 (by decide) dX7_works_58 (Ev_nm (fun s6 es6 => ?_))
  replace h := h s6 es6
  refine Ev_aload_n 2 dX7_works_59 rfl rfl ?_
  refine Ev_getR (i := 2) cl_X7 yX_144 (Nat.le_of_ble_eq_true rfl) rfl wd_554 dX7_works_60 ?_
  refine Ev_iconst dX7_works_63 rfl (ev_Rc rfl) ?_
  refine Ev_aload_n 2 dX7_works_64 rfl rfl ?_
  refine Ev_aload_n 3 dX7_works_65 rfl rfl ?_
  refine Ev_iload 1 dX7_works_66 rfl ?_
  refine Ev_callV (As := [ev_r k1, ev_i (s (k1 + 4) (Int.toNat a2))]) (b := 144) (st := [ev_i 4, ev_r 145]) (M' := M_X7_howManyThere) cm_X7_howManyThere wd_1084 wd_1086 wd_35 yX_144 cl_X7 rfl dX7_works_68 (Nat.le_refl _) rfl (Nat.le_of_ble_eq_true rfl) (Nat.le_of_ble_eq_true rfl) h (fun v u h hk => ?_)
  obtain ⟨r8, rfl⟩ := hk
  obtain ⟨s7, rfl⟩ : ∃ x, x = u := ⟨_, rfl⟩
  replace h := h r8 rfl
  refine Ev_iast yX_145 (by decide) dX7_works_71 (Ev_nm (fun s9 es9 => ?_))
  replace h := h s9 es9
  refine Ev_aload_n 2 dX7_works_72 rfl rfl ?_
  refine Ev_getR (i := 2) cl_X7 yX_144 (Nat.le_of_ble_eq_true rfl) rfl wd_554 dX7_works_73 ?_
  refine Ev_iconst dX7_works_76 rfl (ev_Rc rfl) ?_
  refine Ev_iload 0 dX7_works_77 rfl ?_
  refine Ev_if_eq (tgt := 86) dX7_works_79 rfl (fun c => ?_) (fun c => ?_)
  · replace h := h.1 c
    refine Ev_iconst dX7_works_86 rfl (ev_Rc rfl) ?_
    exact Ev_sub [2, 3, 4, 0] rfl h
  · replace h := h.2 c
    refine Ev_iconst dX7_works_82 rfl (ev_Rc rfl) ?_
    refine Ev_goto (tgt := 87) dX7_works_83 rfl ?_
    exact Ev_sub [2, 3, 4, 0] rfl h
theorem wp_X7_works_87 {d : Nat} {k1 : Nat} (hk1 : is_X2 k1) {s : ev_S} {Q : Option ev_V → ev_S → Prop} {a2 a5 t0 t1 : Int}
    (h : ((0 ≤ t1 ∧ t1 < (9 : Nat)) ∧ ∀ s1, ev_up s 145 (Int.toNat t1) t0 = s1 → (∀ s2, ev_up s1 145 6 a2 = s2 → ((0 ≤ a2 ∧ a2 < (6 : Nat)) ∧ (∀ s3, ev_up s2 145 7 (s2 (k1 + 8) (Int.toNat a2)) = s3 → ((0 ≤ a2 ∧ a2 < (6 : Nat)) ∧ (∀ s4, ev_up s3 145 8 (s3 5 (Int.toNat a2)) = s4 → Ev layX M_X7_works (d + 1) 128 [(0, ev_r 144), (5, ev_i a5), (6, ev_i 0)] [] s4 Q))))))) :
    Ev layX M_X7_works (d + 1) 87 [(0, ev_r 144), (1, ev_r k1), (2, ev_i a2), (5, ev_i a5)] [ev_i t0, ev_i t1, ev_r 145] s Q := by
  obtain ⟨h0, h⟩ := h
  refine Ev_iast yX_145 h0 dX7_works_87 (Ev_nm (fun s1 es1 => ?_))
  replace h := h s1 es1
  refine Ev_aload_n 0 dX7_works_88 rfl rfl ?_
  refine Ev_getR (i := 2) cl_X7 yX_144 (Nat.le_of_ble_eq_true rfl) rfl wd_554 dX7_works_89 ?_
  refine Ev_bipushC dX7_works_92 rfl ?_
  refine Ev_iload_n 2 dX7_works_94 rfl rfl ?_
  refine Ev_iast yX_145 (by decide) dX7_works_95 (Ev_nm (fun s2 es2 => ?_))
  replace h := h s2 es2
  refine Ev_aload_n 0 dX7_works_96 rfl rfl ?_
  refine Ev_getR (i := 2) cl_X7 yX_144 (Nat.le_of_ble_eq_true rfl) rfl wd_554 dX7_works_97 ?_
  refine Ev_bipushC dX7_works_100 rfl ?_
  refine Ev_aload_n 1 dX7_works_102 rfl rfl ?_
  refine Ev_getR (i := 9) cl_X2 hk1.1 (Nat.le_of_ble_eq_true rfl) rfl wd_369 dX7_works_103 ?_
  refine Ev_iload_n 2 dX7_works_106 rfl rfl ?_
  obtain ⟨h0, h⟩ := h
  refine Ev_iald hk1.2.2.2.2.2.2.2.2.1 h0 dX7_works_107 ?_
  refine Ev_iast yX_145 (by decide) dX7_works_108 (Ev_nm (fun s3 es3 => ?_))
  replace h := h s3 es3
  refine Ev_aload_n 0 dX7_works_109 rfl rfl ?_
  refine Ev_getR (i := 2) cl_X7 yX_144 (Nat.le_of_ble_eq_true rfl) rfl wd_554 dX7_works_110 ?_
  refine Ev_bipushC dX7_works_113 rfl ?_
  refine Ev_aload_n 0 dX7_works_115 rfl rfl ?_
  refine Ev_getR (i := 0) cl_X7 yX_144 (Nat.le_of_ble_eq_true rfl) rfl wd_552 dX7_works_116 ?_
  refine Ev_getR (i := 8) cl_X10 yX_1 (Nat.le_of_ble_eq_true rfl) rfl wd_269 dX7_works_119 ?_
  refine Ev_iload_n 2 dX7_works_122 rfl rfl ?_
  obtain ⟨h0, h⟩ := h
  refine Ev_iald yX_5 h0 dX7_works_123 ?_
  refine Ev_iast yX_145 (by decide) dX7_works_124 (Ev_nm (fun s4 es4 => ?_))
  replace h := h s4 es4
  refine Ev_iconst dX7_works_125 rfl (ev_Rc rfl) ?_
  refine Ev_istore (l' := [(6, ev_i 0), (0, ev_r 144), (1, ev_r k1), (2, ev_i a2), (5, ev_i a5)]) dX7_works_126 (Nat.le_of_ble_eq_true rfl) rfl ?_
  exact Ev_sub [1, 4, 0] rfl h
theorem wp_X7_works_128 {d : Nat} {k1 : Nat} (hk1 : is_X2 k1) {s : ev_S} {Q : Option ev_V → ev_S → Prop} {a5 a6 : Int}
    (h : (((s 10 5) ≤ a6 → ((a5 ≠ 0 → Q (some (ev_i 0)) s) ∧ (a5 = 0 → Q (some (ev_i 1)) s))) ∧ (a6 < (s 10 5) → (Ev layX M_X4_speaks d 0 [(0, ev_r 10), (1, ev_i a6), (2, ev_r 145)] [] s (ev_pi (fun r2 s1 => ((r2 = 0 → Ev layX M_X7_works (d + 1) 128 [(0, ev_r 144), (5, ev_i a5), (6, ev_i (ev_add a6 1))] [] s1 Q) ∧ (r2 ≠ 0 → (Ev layX M_X4_worksBy d 0 [(0, ev_r 10), (1, ev_i a6)] [] s1 (ev_pi (fun r4 s3 => ((r4 = 0 ∨ r4 = 1) ∧ Q (some (ev_i r4)) s3)))))))))))) :
    Ev layX M_X7_works (d + 1) 128 [(0, ev_r 144), (5, ev_i a5), (6, ev_i a6)] [] s Q := by
  refine Ev_iload 2 dX7_works_128 rfl ?_
  refine Ev_aload_n 0 dX7_works_130 rfl rfl ?_
  refine Ev_getR (i := 0) cl_X7 yX_144 (Nat.le_of_ble_eq_true rfl) rfl wd_552 dX7_works_131 ?_
  refine Ev_getR (i := 15) cl_X10 yX_1 (Nat.le_of_ble_eq_true rfl) rfl wd_296 dX7_works_134 ?_
  refine Ev_get (i := 5) cl_X4 yX_10 (Nat.le_of_ble_eq_true rfl) rfl wd_223 dX7_works_137 ?_
  refine Ev_icmp_ge (tgt := 181) dX7_works_140 rfl (fun c => ?_) (fun c => ?_)
  · replace h := h.1 c
    refine Ev_iload 1 dX7_works_181 rfl ?_
    refine Ev_if_ne (tgt := 190) dX7_works_183 rfl (fun c => ?_) (fun c => ?_)
    · replace h := h.1 c
      refine Ev_iconst dX7_works_190 rfl (ev_Rc rfl) ?_
      exact Ev_iret rfl dX7_works_191 (ev_nb (by decide)) h
    · replace h := h.2 c
      refine Ev_iconst dX7_works_186 rfl (ev_Rc rfl) ?_
      refine Ev_goto (tgt := 191) dX7_works_187 rfl ?_
      exact Ev_iret rfl dX7_works_191 (ev_nb (by decide)) h
  · replace h := h.2 c
    refine Ev_aload_n 0 dX7_works_143 rfl rfl ?_
    refine Ev_getR (i := 0) cl_X7 yX_144 (Nat.le_of_ble_eq_true rfl) rfl wd_552 dX7_works_144 ?_
    refine Ev_getR (i := 15) cl_X10 yX_1 (Nat.le_of_ble_eq_true rfl) rfl wd_296 dX7_works_147 ?_
    refine Ev_iload 2 dX7_works_150 rfl ?_
    refine Ev_aload_n 0 dX7_works_152 rfl rfl ?_
    refine Ev_getR (i := 2) cl_X7 yX_144 (Nat.le_of_ble_eq_true rfl) rfl wd_554 dX7_works_153 ?_
    refine Ev_callV (As := [ev_i a6, ev_r 145]) (b := 10) (st := []) (M' := M_X4_speaks) cm_X4_speaks wd_1088 wd_1089 wd_1090 yX_10 cl_X4 rfl dX7_works_156 (Nat.le_refl _) rfl (Nat.le_of_ble_eq_true rfl) (Nat.le_of_ble_eq_true rfl) h (fun v u h hk => ?_)
    obtain ⟨r2, rfl⟩ := hk
    obtain ⟨s1, rfl⟩ : ∃ x, x = u := ⟨_, rfl⟩
    replace h := h r2 rfl
    refine Ev_if_eq (tgt := 175) dX7_works_159 rfl (fun c => ?_) (fun c => ?_)
    · replace h := h.1 c
      refine Ev_iinc (j := 2) (l' := [(6, ev_i (ev_add a6 1)), (0, ev_r 144), (5, ev_i a5)]) dX7_works_175 rfl (Nat.le_of_ble_eq_true rfl) rfl ?_
      refine Ev_goto (tgt := 128) dX7_works_178 rfl ?_
      exact Ev_sub [1, 2, 0] rfl h
    · replace h := h.2 c
      refine Ev_aload_n 0 dX7_works_162 rfl rfl ?_
      refine Ev_getR (i := 0) cl_X7 yX_144 (Nat.le_of_ble_eq_true rfl) rfl wd_552 dX7_works_163 ?_
      refine Ev_getR (i := 15) cl_X10 yX_1 (Nat.le_of_ble_eq_true rfl) rfl wd_296 dX7_works_166 ?_
      refine Ev_iload 2 dX7_works_169 rfl ?_
      refine Ev_callV (As := [ev_i a6]) (b := 10) (st := []) (M' := M_X4_worksBy) cm_X4_worksBy wd_1096 wd_1097 wd_1098 yX_10 cl_X4 rfl dX7_works_171 (Nat.le_refl _) rfl (Nat.le_of_ble_eq_true rfl) (Nat.le_of_ble_eq_true rfl) h (fun v u h hk => ?_)
      obtain ⟨r4, rfl⟩ := hk
      obtain ⟨s3, rfl⟩ : ∃ x, x = u := ⟨_, rfl⟩
      replace h := h r4 rfl
      exact Ev_iret rfl dX7_works_174 (ev_nb h.1) h.2
theorem dX7_isSpoilt_0 : decode cX7_isSpoilt 0 = .ok (.iconst 0, 1) := by decide +kernel
theorem dX7_isSpoilt_1 : decode cX7_isSpoilt 1 = .ok (.istore_n 3, 1) := by decide +kernel
theorem dX7_isSpoilt_2 : decode cX7_isSpoilt 2 = .ok (.iload_n 3, 1) := by decide +kernel
theorem dX7_isSpoilt_3 : decode cX7_isSpoilt 3 = .ok (.aload_n 0, 1) := by decide +kernel
theorem dX7_isSpoilt_4 : decode cX7_isSpoilt 4 = .ok (.getfield 17, 3) := by decide +kernel
theorem dX7_isSpoilt_7 : decode cX7_isSpoilt 7 = .ok (.getfield 142, 3) := by decide +kernel
theorem dX7_isSpoilt_10 : decode cX7_isSpoilt 10 = .ok (.if_icmp .ge 74, 3) := by decide +kernel
theorem dX7_isSpoilt_13 : decode cX7_isSpoilt 13 = .ok (.iload_n 3, 1) := by decide +kernel
theorem dX7_isSpoilt_14 : decode cX7_isSpoilt 14 = .ok (.iconst 3, 1) := by decide +kernel
theorem dX7_isSpoilt_15 : decode cX7_isSpoilt 15 = .ok (.imul, 1) := by decide +kernel
theorem dX7_isSpoilt_16 : decode cX7_isSpoilt 16 = .ok (.istore 4, 2) := by decide +kernel
theorem dX7_isSpoilt_18 : decode cX7_isSpoilt 18 = .ok (.aload_n 0, 1) := by decide +kernel
theorem dX7_isSpoilt_19 : decode cX7_isSpoilt 19 = .ok (.getfield 17, 3) := by decide +kernel
theorem dX7_isSpoilt_22 : decode cX7_isSpoilt 22 = .ok (.getfield 145, 3) := by decide +kernel
theorem dX7_isSpoilt_25 : decode cX7_isSpoilt 25 = .ok (.iload 4, 2) := by decide +kernel
theorem dX7_isSpoilt_27 : decode cX7_isSpoilt 27 = .ok (.iconst 1, 1) := by decide +kernel
theorem dX7_isSpoilt_28 : decode cX7_isSpoilt 28 = .ok (.iadd, 1) := by decide +kernel
theorem dX7_isSpoilt_29 : decode cX7_isSpoilt 29 = .ok (.iaload, 1) := by decide +kernel
theorem dX7_isSpoilt_30 : decode cX7_isSpoilt 30 = .ok (.iload_n 2, 1) := by decide +kernel
theorem dX7_isSpoilt_31 : decode cX7_isSpoilt 31 = .ok (.if_icmp .gt 23, 3) := by decide +kernel
theorem dX7_isSpoilt_34 : decode cX7_isSpoilt 34 = .ok (.iload_n 2, 1) := by decide +kernel
theorem dX7_isSpoilt_35 : decode cX7_isSpoilt 35 = .ok (.aload_n 0, 1) := by decide +kernel
theorem dX7_isSpoilt_36 : decode cX7_isSpoilt 36 = .ok (.getfield 17, 3) := by decide +kernel
theorem dX7_isSpoilt_39 : decode cX7_isSpoilt 39 = .ok (.getfield 145, 3) := by decide +kernel
theorem dX7_isSpoilt_42 : decode cX7_isSpoilt 42 = .ok (.iload 4, 2) := by decide +kernel
theorem dX7_isSpoilt_44 : decode cX7_isSpoilt 44 = .ok (.iconst 2, 1) := by decide +kernel
theorem dX7_isSpoilt_45 : decode cX7_isSpoilt 45 = .ok (.iadd, 1) := by decide +kernel
theorem dX7_isSpoilt_46 : decode cX7_isSpoilt 46 = .ok (.iaload, 1) := by decide +kernel
theorem dX7_isSpoilt_47 : decode cX7_isSpoilt 47 = .ok (.if_icmp .gt 7, 3) := by decide +kernel
theorem dX7_isSpoilt_50 : decode cX7_isSpoilt 50 = .ok (.iconst 1, 1) := by decide +kernel
theorem dX7_isSpoilt_51 : decode cX7_isSpoilt 51 = .ok (.goto 4, 3) := by decide +kernel
theorem dX7_isSpoilt_54 : decode cX7_isSpoilt 54 = .ok (.iconst 0, 1) := by decide +kernel
theorem dX7_isSpoilt_55 : decode cX7_isSpoilt 55 = .ok (.istore 5, 2) := by decide +kernel
theorem dX7_isSpoilt_57 : decode cX7_isSpoilt 57 = .ok (.iload 5, 2) := by decide +kernel
theorem dX7_isSpoilt_59 : decode cX7_isSpoilt 59 = .ok (.ifCond .eq 19, 3) := by decide +kernel
theorem dX7_isSpoilt_62 : decode cX7_isSpoilt 62 = .ok (.aload_n 0, 1) := by decide +kernel
theorem dX7_isSpoilt_63 : decode cX7_isSpoilt 63 = .ok (.getfield 17, 3) := by decide +kernel
theorem dX7_isSpoilt_66 : decode cX7_isSpoilt 66 = .ok (.getfield 145, 3) := by decide +kernel
theorem dX7_isSpoilt_69 : decode cX7_isSpoilt 69 = .ok (.iload 4, 2) := by decide +kernel
theorem dX7_isSpoilt_71 : decode cX7_isSpoilt 71 = .ok (.iaload, 1) := by decide +kernel
theorem dX7_isSpoilt_72 : decode cX7_isSpoilt 72 = .ok (.iload_n 1, 1) := by decide +kernel
theorem dX7_isSpoilt_73 : decode cX7_isSpoilt 73 = .ok (.if_icmp .ne 5, 3) := by decide +kernel
theorem dX7_isSpoilt_76 : decode cX7_isSpoilt 76 = .ok (.iconst 1, 1) := by decide +kernel
theorem dX7_isSpoilt_77 : decode cX7_isSpoilt 77 = .ok (.ireturn, 1) := by decide +kernel
theorem dX7_isSpoilt_78 : decode cX7_isSpoilt 78 = .ok (.iinc 3 1, 3) := by decide +kernel
theorem dX7_isSpoilt_81 : decode cX7_isSpoilt 81 = .ok (.goto (-79), 3) := by decide +kernel
theorem dX7_isSpoilt_84 : decode cX7_isSpoilt 84 = .ok (.iconst 0, 1) := by decide +kernel
theorem dX7_isSpoilt_85 : decode cX7_isSpoilt 85 = .ok (.ireturn, 1) := by decide +kernel
theorem wp_X7_isSpoilt_0 {d : Nat} {s : ev_S} {Q : Option ev_V → ev_S → Prop} {a1 a2 : Int}
    (h : Ev layX M_X7_isSpoilt d 2 [(0, ev_r 144), (1, ev_i a1), (2, ev_i a2), (3, ev_i 0)] [] s Q) :
    Ev layX M_X7_isSpoilt d 0 [(0, ev_r 144), (1, ev_i a1), (2, ev_i a2)] [] s Q := by
  refine Ev_iconst dX7_isSpoilt_0 rfl (ev_Rc rfl) ?_
  refine Ev_istore_n (l' := [(3, ev_i 0), (0, ev_r 144), (1, ev_i a1), (2, ev_i a2)]) dX7_isSpoilt_1 rfl (Nat.le_of_ble_eq_true rfl) rfl ?_
  exact Ev_sub [1, 2, 3, 0] rfl h
theorem wp_X7_isSpoilt_2 {d : Nat} {s : ev_S} {Q : Option ev_V → ev_S → Prop} {a1 a2 a3 : Int}
    (h : (((s 1 11) ≤ a3 → Q (some (ev_i 0)) s) ∧ (a3 < (s 1 11) → ((0 ≤ (ev_add (ev_mul a3 3) 1) ∧ (ev_add (ev_mul a3 3) 1) < (18 : Nat)) ∧ ((a2 < (s 8 (Int.toNat (ev_add (ev_mul a3 3) 1))) → Ev layX M_X7_isSpoilt d 55 [(0, ev_r 144), (1, ev_i a1), (2, ev_i a2), (3, ev_i a3), (4, ev_i (ev_mul a3 3))] [ev_i 0] s Q) ∧ ((s 8 (Int.toNat (ev_add (ev_mul a3 3) 1))) ≤ a2 → ((0 ≤ (ev_add (ev_mul a3 3) 2) ∧ (ev_add (ev_mul a3 3) 2) < (18 : Nat)) ∧ (((s 8 (Int.toNat (ev_add (ev_mul a3 3) 2))) < a2 → Ev layX M_X7_isSpoilt d 55 [(0, ev_r 144), (1, ev_i a1), (2, ev_i a2), (3, ev_i a3), (4, ev_i (ev_mul a3 3))] [ev_i 0] s Q) ∧ (a2 ≤ (s 8 (Int.toNat (ev_add (ev_mul a3 3) 2))) → Ev layX M_X7_isSpoilt d 55 [(0, ev_r 144), (1, ev_i a1), (2, ev_i a2), (3, ev_i a3), (4, ev_i (ev_mul a3 3))] [ev_i 1] s Q))))))))) :
    Ev layX M_X7_isSpoilt d 2 [(0, ev_r 144), (1, ev_i a1), (2, ev_i a2), (3, ev_i a3)] [] s Q := by
  refine Ev_iload_n 3 dX7_isSpoilt_2 rfl rfl ?_
  refine Ev_aload_n 0 dX7_isSpoilt_3 rfl rfl ?_
  refine Ev_getR (i := 0) cl_X7 yX_144 (Nat.le_of_ble_eq_true rfl) rfl wd_552 dX7_isSpoilt_4 ?_
  refine Ev_get (i := 11) cl_X10 yX_1 (Nat.le_of_ble_eq_true rfl) rfl wd_280 dX7_isSpoilt_7 ?_
  refine Ev_icmp_ge (tgt := 84) dX7_isSpoilt_10 rfl (fun c => ?_) (fun c => ?_)
  · replace h := h.1 c
    refine Ev_iconst dX7_isSpoilt_84 rfl (ev_Rc rfl) ?_
    exact Ev_iret rfl dX7_isSpoilt_85 (ev_nb (by decide)) h
  · replace h := h.2 c
    refine Ev_iload_n 3 dX7_isSpoilt_13 rfl rfl ?_
    refine Ev_iconst dX7_isSpoilt_14 rfl (ev_Rc rfl) ?_
    refine Ev_imul dX7_isSpoilt_15 ?_
    refine Ev_istore (l' := [(4, ev_i (ev_mul a3 3)), (0, ev_r 144), (1, ev_i a1), (2, ev_i a2), (3, ev_i a3)]) dX7_isSpoilt_16 (Nat.le_of_ble_eq_true rfl) rfl ?_
    refine Ev_aload_n 1 dX7_isSpoilt_18 rfl rfl ?_
    refine Ev_getR (i := 0) cl_X7 yX_144 (Nat.le_of_ble_eq_true rfl) rfl wd_552 dX7_isSpoilt_19 ?_
    refine Ev_getR (i := 12) cl_X10 yX_1 (Nat.le_of_ble_eq_true rfl) rfl wd_283 dX7_isSpoilt_22 ?_
    refine Ev_iload 0 dX7_isSpoilt_25 rfl ?_
    refine Ev_iconst dX7_isSpoilt_27 rfl (ev_Rc rfl) ?_
    refine Ev_iadd dX7_isSpoilt_28 ?_
    obtain ⟨h0, h⟩ := h
    refine Ev_iald yX_8 h0 dX7_isSpoilt_29 ?_
    refine Ev_iload_n 3 dX7_isSpoilt_30 rfl rfl ?_
    refine Ev_icmp_gt (tgt := 54) dX7_isSpoilt_31 rfl (fun c => ?_) (fun c => ?_)
    · replace h := h.1 c
      refine Ev_iconst dX7_isSpoilt_54 rfl (ev_Rc rfl) ?_
      exact Ev_sub [1, 2, 3, 4, 0] rfl h
    · replace h := h.2 c
      refine Ev_iload_n 3 dX7_isSpoilt_34 rfl rfl ?_
      refine Ev_aload_n 1 dX7_isSpoilt_35 rfl rfl ?_
      refine Ev_getR (i := 0) cl_X7 yX_144 (Nat.le_of_ble_eq_true rfl) rfl wd_552 dX7_isSpoilt_36 ?_
      refine Ev_getR (i := 12) cl_X10 yX_1 (Nat.le_of_ble_eq_true rfl) rfl wd_283 dX7_isSpoilt_39 ?_
      refine Ev_iload 0 dX7_isSpoilt_42 rfl ?_
      refine Ev_iconst dX7_isSpoilt_44 rfl (ev_Rc rfl) ?_
      refine Ev_iadd dX7_isSpoilt_45 ?_
      obtain ⟨h0, h⟩ := h
      refine Ev_iald yX_8 h0 dX7_isSpoilt_46 ?_
      refine Ev_icmp_gt (tgt := 54) dX7_isSpoilt_47 rfl (fun c => ?_) (fun c => ?_)
      · replace h := h.1 c
        refine Ev_iconst dX7_isSpoilt_54 rfl (ev_Rc rfl) ?_
        exact Ev_sub [1, 2, 3, 4, 0] rfl h
      · replace h := h.2 c
        refine Ev_iconst dX7_isSpoilt_50 rfl (ev_Rc rfl) ?_
        refine Ev_goto (tgt := 55) dX7_isSpoilt_51 rfl ?_
        exact Ev_sub [1, 2, 3, 4, 0] rfl h
theorem wp_X7_isSpoilt_55 {d : Nat} {s : ev_S} {Q : Option ev_V → ev_S → Prop} {a1 a2 a3 a4 t0 : Int}
    (h : ((t0 = 0 → Ev layX M_X7_isSpoilt d 2 [(0, ev_r 144), (1, ev_i a1), (2, ev_i a2), (3, ev_i (ev_add a3 1))] [] s Q) ∧ (t0 ≠ 0 → ((0 ≤ a4 ∧ a4 < (18 : Nat)) ∧ (((s 8 (Int.toNat a4)) ≠ a1 → Ev layX M_X7_isSpoilt d 2 [(0, ev_r 144), (1, ev_i a1), (2, ev_i a2), (3, ev_i (ev_add a3 1))] [] s Q) ∧ ((s 8 (Int.toNat a4)) = a1 → Q (some (ev_i 1)) s)))))) :
    Ev layX M_X7_isSpoilt d 55 [(0, ev_r 144), (1, ev_i a1), (2, ev_i a2), (3, ev_i a3), (4, ev_i a4)] [ev_i t0] s Q := by
  refine Ev_istore (l' := [(5, ev_i t0), (0, ev_r 144), (1, ev_i a1), (2, ev_i a2), (3, ev_i a3), (4, ev_i a4)]) dX7_isSpoilt_55 (Nat.le_of_ble_eq_true rfl) rfl ?_
  refine Ev_iload 0 dX7_isSpoilt_57 rfl ?_
  refine Ev_if_eq (tgt := 78) dX7_isSpoilt_59 rfl (fun c => ?_) (fun c => ?_)
  · replace h := h.1 c
    refine Ev_iinc (j := 4) (l' := [(3, ev_i (ev_add a3 1)), (5, ev_i t0), (0, ev_r 144), (1, ev_i a1), (2, ev_i a2), (4, ev_i a4)]) dX7_isSpoilt_78 rfl (Nat.le_of_ble_eq_true rfl) rfl ?_
    refine Ev_goto (tgt := 2) dX7_isSpoilt_81 rfl ?_
    exact Ev_sub [2, 3, 4, 0] rfl h
  · replace h := h.2 c
    refine Ev_aload_n 1 dX7_isSpoilt_62 rfl rfl ?_
    refine Ev_getR (i := 0) cl_X7 yX_144 (Nat.le_of_ble_eq_true rfl) rfl wd_552 dX7_isSpoilt_63 ?_
    refine Ev_getR (i := 12) cl_X10 yX_1 (Nat.le_of_ble_eq_true rfl) rfl wd_283 dX7_isSpoilt_66 ?_
    refine Ev_iload 5 dX7_isSpoilt_69 rfl ?_
    obtain ⟨h0, h⟩ := h
    refine Ev_iald yX_8 h0 dX7_isSpoilt_71 ?_
    refine Ev_iload_n 2 dX7_isSpoilt_72 rfl rfl ?_
    refine Ev_icmp_ne (tgt := 78) dX7_isSpoilt_73 rfl (fun c => ?_) (fun c => ?_)
    · replace h := h.1 c
      refine Ev_iinc (j := 4) (l' := [(3, ev_i (ev_add a3 1)), (5, ev_i t0), (0, ev_r 144), (1, ev_i a1), (2, ev_i a2), (4, ev_i a4)]) dX7_isSpoilt_78 rfl (Nat.le_of_ble_eq_true rfl) rfl ?_
      refine Ev_goto (tgt := 2) dX7_isSpoilt_81 rfl ?_
      exact Ev_sub [2, 3, 4, 0] rfl h
    · replace h := h.2 c
      refine Ev_iconst dX7_isSpoilt_76 rfl (ev_Rc rfl) ?_
      exact Ev_iret rfl dX7_isSpoilt_77 (ev_nb (by decide)) h
theorem dX7_howManyThere_0 : decode cX7_howManyThere 0 = .ok (.iconst 0, 1) := by decide +kernel
theorem dX7_howManyThere_1 : decode cX7_howManyThere 1 = .ok (.istore_n 3, 1) := by decide +kernel
theorem dX7_howManyThere_2 : decode cX7_howManyThere 2 = .ok (.iconst 0, 1) := by decide +kernel
theorem dX7_howManyThere_3 : decode cX7_howManyThere 3 = .ok (.istore 4, 2) := by decide +kernel
theorem dX7_howManyThere_5 : decode cX7_howManyThere 5 = .ok (.iload 4, 2) := by decide +kernel
theorem dX7_howManyThere_7 : decode cX7_howManyThere 7 = .ok (.aload_n 0, 1) := by decide +kernel
theorem dX7_howManyThere_8 : decode cX7_howManyThere 8 = .ok (.getfield 17, 3) := by decide +kernel
theorem dX7_howManyThere_11 : decode cX7_howManyThere 11 = .ok (.getfield 94, 3) := by decide +kernel
theorem dX7_howManyThere_14 : decode cX7_howManyThere 14 = .ok (.if_icmp .ge 23, 3) := by decide +kernel
theorem dX7_howManyThere_17 : decode cX7_howManyThere 17 = .ok (.aload_n 1, 1) := by decide +kernel
theorem dX7_howManyThere_18 : decode cX7_howManyThere 18 = .ok (.getfield 97, 3) := by decide +kernel
theorem dX7_howManyThere_21 : decode cX7_howManyThere 21 = .ok (.iload 4, 2) := by decide +kernel
theorem dX7_howManyThere_23 : decode cX7_howManyThere 23 = .ok (.iaload, 1) := by decide +kernel
theorem dX7_howManyThere_24 : decode cX7_howManyThere 24 = .ok (.iload_n 2, 1) := by decide +kernel
theorem dX7_howManyThere_25 : decode cX7_howManyThere 25 = .ok (.if_icmp .ne 6, 3) := by decide +kernel
theorem dX7_howManyThere_28 : decode cX7_howManyThere 28 = .ok (.iinc 3 1, 3) := by decide +kernel
theorem dX7_howManyThere_31 : decode cX7_howManyThere 31 = .ok (.iinc 4 1, 3) := by decide +kernel
theorem dX7_howManyThere_34 : decode cX7_howManyThere 34 = .ok (.goto (-29), 3) := by decide +kernel
theorem dX7_howManyThere_37 : decode cX7_howManyThere 37 = .ok (.iload_n 3, 1) := by decide +kernel
theorem dX7_howManyThere_38 : decode cX7_howManyThere 38 = .ok (.ireturn, 1) := by decide +kernel
theorem wp_X7_howManyThere_0 {d : Nat} {k1 : Nat} (hk1 : is_X2 k1) {s : ev_S} {Q : Option ev_V → ev_S → Prop} {a2 : Int}
    (h : Ev layX M_X7_howManyThere d 5 [(0, ev_r 144), (1, ev_r k1), (2, ev_i a2), (3, ev_i 0), (4, ev_i 0)] [] s Q) :
    Ev layX M_X7_howManyThere d 0 [(0, ev_r 144), (1, ev_r k1), (2, ev_i a2)] [] s Q := by
  refine Ev_iconst dX7_howManyThere_0 rfl (ev_Rc rfl) ?_
  refine Ev_istore_n (l' := [(3, ev_i 0), (0, ev_r 144), (1, ev_r k1), (2, ev_i a2)]) dX7_howManyThere_1 rfl (Nat.le_of_ble_eq_true rfl) rfl ?_
  refine Ev_iconst dX7_howManyThere_2 rfl (ev_Rc rfl) ?_
  refine Ev_istore (l' := [(4, ev_i 0), (3, ev_i 0), (0, ev_r 144), (1, ev_r k1), (2, ev_i a2)]) dX7_howManyThere_3 (Nat.le_of_ble_eq_true rfl) rfl ?_
  exact Ev_sub [2, 3, 4, 1, 0] rfl h
theorem wp_X7_howManyThere_5 {d : Nat} {k1 : Nat} (hk1 : is_X2 k1) {s : ev_S} {Q : Option ev_V → ev_S → Prop} {a2 a3 a4 : Int}
    (h : (((s 1 4) ≤ a4 → Q (some (ev_i a3)) s) ∧ (a4 < (s 1 4) → ((0 ≤ a4 ∧ a4 < (8 : Nat)) ∧ (((s (k1 + 1) (Int.toNat a4)) ≠ a2 → Ev layX M_X7_howManyThere d 5 [(0, ev_r 144), (1, ev_r k1), (2, ev_i a2), (3, ev_i a3), (4, ev_i (ev_add a4 1))] [] s Q) ∧ ((s (k1 + 1) (Int.toNat a4)) = a2 → Ev layX M_X7_howManyThere d 5 [(0, ev_r 144), (1, ev_r k1), (2, ev_i a2), (3, ev_i (ev_add a3 1)), (4, ev_i (ev_add a4 1))] [] s Q)))))) :
    Ev layX M_X7_howManyThere d 5 [(0, ev_r 144), (1, ev_r k1), (2, ev_i a2), (3, ev_i a3), (4, ev_i a4)] [] s Q := by
  refine Ev_iload 4 dX7_howManyThere_5 rfl ?_
  refine Ev_aload_n 0 dX7_howManyThere_7 rfl rfl ?_
  refine Ev_getR (i := 0) cl_X7 yX_144 (Nat.le_of_ble_eq_true rfl) rfl wd_552 dX7_howManyThere_8 ?_
  refine Ev_get (i := 4) cl_X10 yX_1 (Nat.le_of_ble_eq_true rfl) rfl wd_254 dX7_howManyThere_11 ?_
  refine Ev_icmp_ge (tgt := 37) dX7_howManyThere_14 rfl (fun c => ?_) (fun c => ?_)
  · replace h := h.1 c
    refine Ev_iload_n 3 dX7_howManyThere_37 rfl rfl ?_
    exact Ev_iret rfl dX7_howManyThere_38 rfl h
  · replace h := h.2 c
    refine Ev_aload_n 1 dX7_howManyThere_17 rfl rfl ?_
    refine Ev_getR (i := 2) cl_X2 hk1.1 (Nat.le_of_ble_eq_true rfl) rfl wd_345 dX7_howManyThere_18 ?_
    refine Ev_iload 4 dX7_howManyThere_21 rfl ?_
    obtain ⟨h0, h⟩ := h
    refine Ev_iald hk1.2.1 h0 dX7_howManyThere_23 ?_
    refine Ev_iload_n 2 dX7_howManyThere_24 rfl rfl ?_
    refine Ev_icmp_ne (tgt := 31) dX7_howManyThere_25 rfl (fun c => ?_) (fun c => ?_)
    · replace h := h.1 c
      refine Ev_iinc (j := 4) (l' := [(4, ev_i (ev_add a4 1)), (0, ev_r 144), (1, ev_r k1), (2, ev_i a2), (3, ev_i a3)]) dX7_howManyThere_31 rfl (Nat.le_of_ble_eq_true rfl) rfl ?_
      refine Ev_goto (tgt := 5) dX7_howManyThere_34 rfl ?_
      exact Ev_sub [1, 2, 3, 4, 0] rfl h
    · replace h := h.2 c
      refine Ev_iinc (j := 3) (l' := [(3, ev_i (ev_add a3 1)), (0, ev_r 144), (1, ev_r k1), (2, ev_i a2), (4, ev_i a4)]) dX7_howManyThere_28 rfl (Nat.le_of_ble_eq_true rfl) rfl ?_
      refine Ev_iinc (j := 4) (l' := [(4, ev_i (ev_add a4 1)), (3, ev_i (ev_add a3 1)), (0, ev_r 144), (1, ev_r k1), (2, ev_i a2)]) dX7_howManyThere_31 rfl (Nat.le_of_ble_eq_true rfl) rfl ?_
      refine Ev_goto (tgt := 5) dX7_howManyThere_34 rfl ?_
      exact Ev_sub [2, 3, 4, 1, 0] rfl h
theorem dX7_moveWards_0 : decode cX7_moveWards 0 = .ok (.iconst 0, 1) := by decide +kernel
theorem dX7_moveWards_1 : decode cX7_moveWards 1 = .ok (.istore_n 2, 1) := by decide +kernel
theorem dX7_moveWards_2 : decode cX7_moveWards 2 = .ok (.iload_n 2, 1) := by decide +kernel
theorem dX7_moveWards_3 : decode cX7_moveWards 3 = .ok (.aload_n 0, 1) := by decide +kernel
theorem dX7_moveWards_4 : decode cX7_moveWards 4 = .ok (.getfield 17, 3) := by decide +kernel
theorem dX7_moveWards_7 : decode cX7_moveWards 7 = .ok (.getfield 94, 3) := by decide +kernel
theorem dX7_moveWards_10 : decode cX7_moveWards 10 = .ok (.if_icmp .ge 109, 3) := by decide +kernel
theorem dX7_moveWards_13 : decode cX7_moveWards 13 = .ok (.aload_n 1, 1) := by decide +kernel
theorem dX7_moveWards_14 : decode cX7_moveWards 14 = .ok (.getfield 100, 3) := by decide +kernel
theorem dX7_moveWards_17 : decode cX7_moveWards 17 = .ok (.iload_n 2, 1) := by decide +kernel
theorem dX7_moveWards_18 : decode cX7_moveWards 18 = .ok (.iaload, 1) := by decide +kernel
theorem dX7_moveWards_19 : decode cX7_moveWards 19 = .ok (.ifCond .le 16, 3) := by decide +kernel
theorem dX7_moveWards_22 : decode cX7_moveWards 22 = .ok (.aload_n 1, 1) := by decide +kernel
theorem dX7_moveWards_23 : decode cX7_moveWards 23 = .ok (.getfield 100, 3) := by decide +kernel
theorem dX7_moveWards_26 : decode cX7_moveWards 26 = .ok (.iload_n 2, 1) := by decide +kernel
theorem dX7_moveWards_27 : decode cX7_moveWards 27 = .ok (.dup2, 1) := by decide +kernel
theorem dX7_moveWards_28 : decode cX7_moveWards 28 = .ok (.iaload, 1) := by decide +kernel
theorem dX7_moveWards_29 : decode cX7_moveWards 29 = .ok (.iconst 1, 1) := by decide +kernel
theorem dX7_moveWards_30 : decode cX7_moveWards 30 = .ok (.isub, 1) := by decide +kernel
theorem dX7_moveWards_31 : decode cX7_moveWards 31 = .ok (.iastore, 1) := by decide +kernel
theorem dX7_moveWards_32 : decode cX7_moveWards 32 = .ok (.goto 81, 3) := by decide +kernel
theorem dX7_moveWards_35 : decode cX7_moveWards 35 = .ok (.aload_n 1, 1) := by decide +kernel
theorem dX7_moveWards_36 : decode cX7_moveWards 36 = .ok (.getfield 148, 3) := by decide +kernel
theorem dX7_moveWards_39 : decode cX7_moveWards 39 = .ok (.iload_n 2, 1) := by decide +kernel
theorem dX7_moveWards_40 : decode cX7_moveWards 40 = .ok (.iaload, 1) := by decide +kernel
theorem dX7_moveWards_41 : decode cX7_moveWards 41 = .ok (.aload_n 0, 1) := by decide +kernel
theorem dX7_moveWards_42 : decode cX7_moveWards 42 = .ok (.getfield 17, 3) := by decide +kernel
theorem dX7_moveWards_45 : decode cX7_moveWards 45 = .ok (.getfield 151, 3) := by decide +kernel
theorem dX7_moveWards_48 : decode cX7_moveWards 48 = .ok (.iload_n 2, 1) := by decide +kernel
theorem dX7_moveWards_49 : decode cX7_moveWards 49 = .ok (.iaload, 1) := by decide +kernel
theorem dX7_moveWards_50 : decode cX7_moveWards 50 = .ok (.if_icmp .ge 63, 3) := by decide +kernel
theorem dX7_moveWards_53 : decode cX7_moveWards 53 = .ok (.aload_n 1, 1) := by decide +kernel
theorem dX7_moveWards_54 : decode cX7_moveWards 54 = .ok (.getfield 148, 3) := by decide +kernel
theorem dX7_moveWards_57 : decode cX7_moveWards 57 = .ok (.iload_n 2, 1) := by decide +kernel
theorem dX7_moveWards_58 : decode cX7_moveWards 58 = .ok (.iaload, 1) := by decide +kernel
theorem dX7_moveWards_59 : decode cX7_moveWards 59 = .ok (.sipush 600, 3) := by decide +kernel
theorem dX7_moveWards_62 : decode cX7_moveWards 62 = .ok (.if_icmp .ge 51, 3) := by decide +kernel
theorem dX7_moveWards_65 : decode cX7_moveWards 65 = .ok (.aload_n 0, 1) := by decide +kernel
theorem dX7_moveWards_66 : decode cX7_moveWards 66 = .ok (.getfield 17, 3) := by decide +kernel
theorem dX7_moveWards_69 : decode cX7_moveWards 69 = .ok (.getfield 154, 3) := by decide +kernel
theorem dX7_moveWards_72 : decode cX7_moveWards 72 = .ok (.iload_n 2, 1) := by decide +kernel
theorem dX7_moveWards_73 : decode cX7_moveWards 73 = .ok (.sipush 600, 3) := by decide +kernel
theorem dX7_moveWards_76 : decode cX7_moveWards 76 = .ok (.imul, 1) := by decide +kernel
theorem dX7_moveWards_77 : decode cX7_moveWards 77 = .ok (.aload_n 1, 1) := by decide +kernel
theorem dX7_moveWards_78 : decode cX7_moveWards 78 = .ok (.getfield 148, 3) := by decide +kernel
theorem dX7_moveWards_81 : decode cX7_moveWards 81 = .ok (.iload_n 2, 1) := by decide +kernel
theorem dX7_moveWards_82 : decode cX7_moveWards 82 = .ok (.iaload, 1) := by decide +kernel
theorem dX7_moveWards_83 : decode cX7_moveWards 83 = .ok (.iadd, 1) := by decide +kernel
theorem dX7_moveWards_84 : decode cX7_moveWards 84 = .ok (.baload, 1) := by decide +kernel
theorem dX7_moveWards_85 : decode cX7_moveWards 85 = .ok (.istore_n 3, 1) := by decide +kernel
theorem dX7_moveWards_86 : decode cX7_moveWards 86 = .ok (.aload_n 1, 1) := by decide +kernel
theorem dX7_moveWards_87 : decode cX7_moveWards 87 = .ok (.getfield 148, 3) := by decide +kernel
theorem dX7_moveWards_90 : decode cX7_moveWards 90 = .ok (.iload_n 2, 1) := by decide +kernel
theorem dX7_moveWards_91 : decode cX7_moveWards 91 = .ok (.dup2, 1) := by decide +kernel
theorem dX7_moveWards_92 : decode cX7_moveWards 92 = .ok (.iaload, 1) := by decide +kernel
theorem dX7_moveWards_93 : decode cX7_moveWards 93 = .ok (.iconst 1, 1) := by decide +kernel
theorem dX7_moveWards_94 : decode cX7_moveWards 94 = .ok (.iadd, 1) := by decide +kernel
theorem dX7_moveWards_95 : decode cX7_moveWards 95 = .ok (.iastore, 1) := by decide +kernel
theorem dX7_moveWards_96 : decode cX7_moveWards 96 = .ok (.aload_n 1, 1) := by decide +kernel
theorem dX7_moveWards_97 : decode cX7_moveWards 97 = .ok (.getfield 97, 3) := by decide +kernel
theorem dX7_moveWards_100 : decode cX7_moveWards 100 = .ok (.iload_n 2, 1) := by decide +kernel
theorem dX7_moveWards_101 : decode cX7_moveWards 101 = .ok (.aload_n 0, 1) := by decide +kernel
theorem dX7_moveWards_102 : decode cX7_moveWards 102 = .ok (.aload_n 1, 1) := by decide +kernel
theorem dX7_moveWards_103 : decode cX7_moveWards 103 = .ok (.getfield 97, 3) := by decide +kernel
theorem dX7_moveWards_106 : decode cX7_moveWards 106 = .ok (.iload_n 2, 1) := by decide +kernel
theorem dX7_moveWards_107 : decode cX7_moveWards 107 = .ok (.iaload, 1) := by decide +kernel
theorem dX7_moveWards_108 : decode cX7_moveWards 108 = .ok (.iload_n 3, 1) := by decide +kernel
theorem dX7_moveWards_109 : decode cX7_moveWards 109 = .ok (.invokevirtual 158, 3) := by decide +kernel
theorem dX7_moveWards_112 : decode cX7_moveWards 112 = .ok (.iastore, 1) := by decide +kernel
theorem dX7_moveWards_113 : decode cX7_moveWards 113 = .ok (.iinc 2 1, 3) := by decide +kernel
theorem dX7_moveWards_116 : decode cX7_moveWards 116 = .ok (.goto (-114), 3) := by decide +kernel
theorem dX7_moveWards_119 : decode cX7_moveWards 119 = .ok (.return_, 1) := by decide +kernel
theorem wp_X7_moveWards_0 {d : Nat} {k1 : Nat} (hk1 : is_X2 k1) {s : ev_S} {Q : Option ev_V → ev_S → Prop}
    (h : Ev layX M_X7_moveWards (d + 1) 2 [(0, ev_r 144), (1, ev_r k1), (2, ev_i 0)] [] s Q) :
    Ev layX M_X7_moveWards (d + 1) 0 [(0, ev_r 144), (1, ev_r k1)] [] s Q := by
  refine Ev_iconst dX7_moveWards_0 rfl (ev_Rc rfl) ?_
  refine Ev_istore_n (l' := [(2, ev_i 0), (0, ev_r 144), (1, ev_r k1)]) dX7_moveWards_1 rfl (Nat.le_of_ble_eq_true rfl) rfl ?_
  exact Ev_sub [1, 2, 0] rfl h
theorem wp_X7_moveWards_2 {d : Nat} {k1 : Nat} (hk1 : is_X2 k1) {s : ev_S} {Q : Option ev_V → ev_S → Prop} {a2 : Int}
    (h : (((s 1 4) ≤ a2 → Q none s) ∧ (a2 < (s 1 4) → ((0 ≤ a2 ∧ a2 < (8 : Nat)) ∧ (((s (k1 + 2) (Int.toNat a2)) ≤ 0 → ((0 ≤ a2 ∧ a2 < (8 : Nat)) ∧ ((0 ≤ a2 ∧ a2 < (8 : Nat)) ∧ (((s 4 (Int.toNat a2)) ≤ (s (k1 + 3) (Int.toNat a2)) → Ev layX M_X7_moveWards (d + 1) 2 [(0, ev_r 144), (1, ev_r k1), (2, ev_i (ev_add a2 1))] [] s Q) ∧ ((s (k1 + 3) (Int.toNat a2)) < (s 4 (Int.toNat a2)) → ((0 ≤ a2 ∧ a2 < (8 : Nat)) ∧ ((600 ≤ (s (k1 + 3) (Int.toNat a2)) → Ev layX M_X7_moveWards (d + 1) 2 [(0, ev_r 144), (1, ev_r k1), (2, ev_i (ev_add a2 1))] [] s Q) ∧ ((s (k1 + 3) (Int.toNat a2)) < 600 → ((0 ≤ a2 ∧ a2 < (8 : Nat)) ∧ ((0 ≤ (ev_add (ev_mul a2 600) (s (k1 + 3) (Int.toNat a2))) ∧ (ev_add (ev_mul a2 600) (s (k1 + 3) (Int.toNat a2))) < (4800 : Nat)) ∧ ((0 ≤ a2 ∧ a2 < (8 : Nat)) ∧ ((0 ≤ a2 ∧ a2 < (8 : Nat)) ∧ ∀ s1, ev_up s (k1 + 3) (Int.toNat a2) (ev_add (s (k1 + 3) (Int.toNat a2)) 1) = s1 → ((0 ≤ a2 ∧ a2 < (8 : Nat)) ∧ (Ev layX M_X7_placeBehind d 0 [(0, ev_r 144), (1, ev_i (s1 (k1 + 1) (Int.toNat a2))), (2, ev_i (s 3 (Int.toNat (ev_add (ev_mul a2 600) (s (k1 + 3) (Int.toNat a2))))))] [] s1 (ev_pi (fun r3 s2 => ((0 ≤ a2 ∧ a2 < (8 : Nat)) ∧ ∀ s4, ev_up s2 (k1 + 1) (Int.toNat a2) r3 = s4 → Ev layX M_X7_moveWards (d + 1) 2 [(0, ev_r 144), (1, ev_r k1), (2, ev_i (ev_add a2 1))] [] s4 Q))))))))))))))))) ∧ (0 < (s (k1 + 2) (Int.toNat a2)) → ((0 ≤ a2 ∧ a2 < (8 : Nat)) ∧ ((0 ≤ a2 ∧ a2 < (8 : Nat)) ∧ ∀ s5, ev_up s (k1 + 2) (Int.toNat a2) (ev_sub (s (k1 + 2) (Int.toNat a2)) 1) = s5 → Ev layX M_X7_moveWards (d + 1) 2 [(0, ev_r 144), (1, ev_r k1), (2, ev_i (ev_add a2 1))] [] s5 Q)))))))) :
    Ev layX M_X7_moveWards (d + 1) 2 [(0, ev_r 144), (1, ev_r k1), (2, ev_i a2)] [] s Q := by
  refine Ev_iload_n 2 dX7_moveWards_2 rfl rfl ?_
  refine Ev_aload_n 0 dX7_moveWards_3 rfl rfl ?_
  refine Ev_getR (i := 0) cl_X7 yX_144 (Nat.le_of_ble_eq_true rfl) rfl wd_552 dX7_moveWards_4 ?_
  refine Ev_get (i := 4) cl_X10 yX_1 (Nat.le_of_ble_eq_true rfl) rfl wd_254 dX7_moveWards_7 ?_
  refine Ev_icmp_ge (tgt := 119) dX7_moveWards_10 rfl (fun c => ?_) (fun c => ?_)
  · replace h := h.1 c
    exact Ev_vret rfl dX7_moveWards_119 h
  · replace h := h.2 c
    refine Ev_aload_n 1 dX7_moveWards_13 rfl rfl ?_
    refine Ev_getR (i := 3) cl_X2 hk1.1 (Nat.le_of_ble_eq_true rfl) rfl wd_349 dX7_moveWards_14 ?_
    refine Ev_iload_n 2 dX7_moveWards_17 rfl rfl ?_
    obtain ⟨h0, h⟩ := h
    refine Ev_iald hk1.2.2.1 h0 dX7_moveWards_18 ?_
    refine Ev_if_le (tgt := 35) dX7_moveWards_19 rfl (fun c => ?_) (fun c => ?_)
    · replace h := h.1 c
      refine Ev_aload_n 1 dX7_moveWards_35 rfl rfl ?_
      refine Ev_getR (i := 4) cl_X2 hk1.1 (Nat.le_of_ble_eq_true rfl) rfl wd_352 dX7_moveWards_36 ?_
      refine Ev_iload_n 2 dX7_moveWards_39 rfl rfl ?_
      obtain ⟨h0, h⟩ := h
      refine Ev_iald hk1.2.2.2.1 h0 dX7_moveWards_40 ?_
      refine Ev_aload_n 0 dX7_moveWards_41 rfl rfl ?_
      refine Ev_getR (i := 0) cl_X7 yX_144 (Nat.le_of_ble_eq_true rfl) rfl wd_552 dX7_moveWards_42 ?_
      refine Ev_getR (i := 6) cl_X10 yX_1 (Nat.le_of_ble_eq_true rfl) rfl wd_262 dX7_moveWards_45 ?_
      refine Ev_iload_n 2 dX7_moveWards_48 rfl rfl ?_
      obtain ⟨h0, h⟩ := h
      refine Ev_iald yX_4 h0 dX7_moveWards_49 ?_
      refine Ev_icmp_ge (tgt := 113) dX7_moveWards_50 rfl (fun c => ?_) (fun c => ?_)
      · replace h := h.1 c
        refine Ev_iinc (j := 2) (l' := [(2, ev_i (ev_add a2 1)), (0, ev_r 144), (1, ev_r k1)]) dX7_moveWards_113 rfl (Nat.le_of_ble_eq_true rfl) rfl ?_
        refine Ev_goto (tgt := 2) dX7_moveWards_116 rfl ?_
        exact Ev_sub [1, 2, 0] rfl h
      · replace h := h.2 c
        refine Ev_aload_n 1 dX7_moveWards_53 rfl rfl ?_
        refine Ev_getR (i := 4) cl_X2 hk1.1 (Nat.le_of_ble_eq_true rfl) rfl wd_352 dX7_moveWards_54 ?_
        refine Ev_iload_n 2 dX7_moveWards_57 rfl rfl ?_
        obtain ⟨h0, h⟩ := h
        refine Ev_iald hk1.2.2.2.1 h0 dX7_moveWards_58 ?_
        refine Ev_sipushC dX7_moveWards_59 rfl ?_
        refine Ev_icmp_ge (tgt := 113) dX7_moveWards_62 rfl (fun c => ?_) (fun c => ?_)
        · replace h := h.1 c
          refine Ev_iinc (j := 2) (l' := [(2, ev_i (ev_add a2 1)), (0, ev_r 144), (1, ev_r k1)]) dX7_moveWards_113 rfl (Nat.le_of_ble_eq_true rfl) rfl ?_
          refine Ev_goto (tgt := 2) dX7_moveWards_116 rfl ?_
          exact Ev_sub [1, 2, 0] rfl h
        · replace h := h.2 c
          refine Ev_aload_n 0 dX7_moveWards_65 rfl rfl ?_
          refine Ev_getR (i := 0) cl_X7 yX_144 (Nat.le_of_ble_eq_true rfl) rfl wd_552 dX7_moveWards_66 ?_
          refine Ev_getR (i := 5) cl_X10 yX_1 (Nat.le_of_ble_eq_true rfl) rfl wd_258 dX7_moveWards_69 ?_
          refine Ev_iload_n 2 dX7_moveWards_72 rfl rfl ?_
          refine Ev_sipushC dX7_moveWards_73 rfl ?_
          refine Ev_imul dX7_moveWards_76 ?_
          refine Ev_aload_n 1 dX7_moveWards_77 rfl rfl ?_
          refine Ev_getR (i := 4) cl_X2 hk1.1 (Nat.le_of_ble_eq_true rfl) rfl wd_352 dX7_moveWards_78 ?_
          refine Ev_iload_n 2 dX7_moveWards_81 rfl rfl ?_
          obtain ⟨h0, h⟩ := h
          refine Ev_iald hk1.2.2.2.1 h0 dX7_moveWards_82 ?_
          refine Ev_iadd dX7_moveWards_83 ?_
          obtain ⟨h0, h⟩ := h
          refine Ev_bald yX_3 h0 dX7_moveWards_84 ?_
          refine Ev_istore_n (l' := [(3, ev_i (s 3 (Int.toNat (ev_add (ev_mul a2 600) (s (k1 + 3) (Int.toNat a2)))))), (0, ev_r 144), (1, ev_r k1), (2, ev_i a2)]) dX7_moveWards_85 rfl (Nat.le_of_ble_eq_true rfl) rfl ?_
          refine Ev_aload_n 2 dX7_moveWards_86 rfl rfl ?_
          refine Ev_getR (i := 4) cl_X2 hk1.1 (Nat.le_of_ble_eq_true rfl) rfl wd_352 dX7_moveWards_87 ?_
          refine Ev_iload_n 3 dX7_moveWards_90 rfl rfl ?_
          refine Ev_dup2 dX7_moveWards_91 rfl rfl ?_
          obtain ⟨h0, h⟩ := h
          refine Ev_iald hk1.2.2.2.1 h0 dX7_moveWards_92 ?_
          refine Ev_iconst dX7_moveWards_93 rfl (ev_Rc rfl) ?_
          refine Ev_iadd dX7_moveWards_94 ?_
          obtain ⟨h0, h⟩ := h
          refine Ev_iast hk1.2.2.2.1 h0 dX7_moveWards_95 (Ev_nm (fun s1 es1 => ?_))
          replace h := h s1 es1
          refine Ev_aload_n 2 dX7_moveWards_96 rfl rfl ?_
          refine Ev_getR (i := 2) cl_X2 hk1.1 (Nat.le_of_ble_eq_true rfl) rfl wd_345 dX7_moveWards_97 ?_
          refine Ev_iload_n 3 dX7_moveWards_100 rfl rfl ?_
          refine Ev_aload_n 1 dX7_moveWards_101 rfl rfl ?_
          refine Ev_aload_n 2 dX7_moveWards_102 rfl rfl ?_
          refine Ev_getR (i := 2) cl_X2 hk1.1 (Nat.le_of_ble_eq_true rfl) rfl wd_345 dX7_moveWards_103 ?_
          refine Ev_iload_n 3 dX7_moveWards_106 rfl rfl ?_
          obtain ⟨h0, h⟩ := h
          refine Ev_iald hk1.2.1 h0 dX7_moveWards_107 ?_
          refine Ev_iload_n 0 dX7_moveWards_108 rfl rfl ?_
          refine Ev_callV (As := [ev_i (s1 (k1 + 1) (Int.toNat a2)), ev_i (s 3 (Int.toNat (ev_add (ev_mul a2 600) (s (k1 + 3) (Int.toNat a2)))))]) (b := 144) (st := [ev_i a2, ev_r (k1 + 1)]) (M' := M_X7_placeBehind) cm_X7_placeBehind wd_1115 wd_1117 wd_36 yX_144 cl_X7 rfl dX7_moveWards_109 (Nat.le_refl _) rfl (Nat.le_of_ble_eq_true rfl) (Nat.le_of_ble_eq_true rfl) h (fun v u h hk => ?_)
          obtain ⟨r3, rfl⟩ := hk
          obtain ⟨s2, rfl⟩ : ∃ x, x = u := ⟨_, rfl⟩
          replace h := h r3 rfl
          obtain ⟨h0, h⟩ := h
          refine Ev_iast hk1.2.1 h0 dX7_moveWards_112 (Ev_nm (fun s4 es4 => ?_))
          replace h := h s4 es4
          refine Ev_iinc (j := 3) (l' := [(2, ev_i (ev_add a2 1)), (3, ev_i (s 3 (Int.toNat (ev_add (ev_mul a2 600) (s (k1 + 3) (Int.toNat a2)))))), (0, ev_r 144), (1, ev_r k1)]) dX7_moveWards_113 rfl (Nat.le_of_ble_eq_true rfl) rfl ?_
          refine Ev_goto (tgt := 2) dX7_moveWards_116 rfl ?_
          exact Ev_sub [2, 3, 0] rfl h
    · replace h := h.2 c
      refine Ev_aload_n 1 dX7_moveWards_22 rfl rfl ?_
      refine Ev_getR (i := 3) cl_X2 hk1.1 (Nat.le_of_ble_eq_true rfl) rfl wd_349 dX7_moveWards_23 ?_
      refine Ev_iload_n 2 dX7_moveWards_26 rfl rfl ?_
      refine Ev_dup2 dX7_moveWards_27 rfl rfl ?_
      obtain ⟨h0, h⟩ := h
      refine Ev_iald hk1.2.2.1 h0 dX7_moveWards_28 ?_
      refine Ev_iconst dX7_moveWards_29 rfl (ev_Rc rfl) ?_
      refine Ev_isub dX7_moveWards_30 ?_
      obtain ⟨h0, h⟩ := h
      refine Ev_iast hk1.2.2.1 h0 dX7_moveWards_31 (Ev_nm (fun s5 es5 => ?_))
      replace h := h s5 es5
      refine Ev_goto (tgt := 113) dX7_moveWards_32 rfl ?_
      refine Ev_iinc (j := 2) (l' := [(2, ev_i (ev_add a2 1)), (0, ev_r 144), (1, ev_r k1)]) dX7_moveWards_113 rfl (Nat.le_of_ble_eq_true rfl) rfl ?_
      refine Ev_goto (tgt := 2) dX7_moveWards_116 rfl ?_
      exact Ev_sub [1, 2, 0] rfl h
theorem dX7_placeBehind_0 : decode cX7_placeBehind 0 = .ok (.iload_n 1, 1) := by decide +kernel
theorem dX7_placeBehind_1 : decode cX7_placeBehind 1 = .ok (.bipush 8, 2) := by decide +kernel
theorem dX7_placeBehind_3 : decode cX7_placeBehind 3 = .ok (.irem, 1) := by decide +kernel
theorem dX7_placeBehind_4 : decode cX7_placeBehind 4 = .ok (.istore_n 3, 1) := by decide +kernel
theorem dX7_placeBehind_5 : decode cX7_placeBehind 5 = .ok (.iload_n 1, 1) := by decide +kernel
theorem dX7_placeBehind_6 : decode cX7_placeBehind 6 = .ok (.bipush 8, 2) := by decide +kernel
theorem dX7_placeBehind_8 : decode cX7_placeBehind 8 = .ok (.idiv, 1) := by decide +kernel
theorem dX7_placeBehind_9 : decode cX7_placeBehind 9 = .ok (.istore 4, 2) := by decide +kernel
theorem dX7_placeBehind_11 : decode cX7_placeBehind 11 = .ok (.iload_n 2, 1) := by decide +kernel
theorem dX7_placeBehind_12 : decode cX7_placeBehind 12 = .ok (.iconst 1, 1) := by decide +kernel
theorem dX7_placeBehind_13 : decode cX7_placeBehind 13 = .ok (.if_icmp .ne 16, 3) := by decide +kernel
theorem dX7_placeBehind_16 : decode cX7_placeBehind 16 = .ok (.iload 4, 2) := by decide +kernel
theorem dX7_placeBehind_18 : decode cX7_placeBehind 18 = .ok (.iconst 1, 1) := by decide +kernel
theorem dX7_placeBehind_19 : decode cX7_placeBehind 19 = .ok (.isub, 1) := by decide +kernel
theorem dX7_placeBehind_20 : decode cX7_placeBehind 20 = .ok (.iconst 0, 1) := by decide +kernel
theorem dX7_placeBehind_21 : decode cX7_placeBehind 21 = .ok (.invokestatic 163, 3) := by decide +kernel
theorem dX7_placeBehind_24 : decode cX7_placeBehind 24 = .ok (.istore 4, 2) := by decide +kernel
theorem dX7_placeBehind_26 : decode cX7_placeBehind 26 = .ok (.goto 66, 3) := by decide +kernel
theorem dX7_placeBehind_29 : decode cX7_placeBehind 29 = .ok (.iload_n 2, 1) := by decide +kernel
theorem dX7_placeBehind_30 : decode cX7_placeBehind 30 = .ok (.iconst 2, 1) := by decide +kernel
theorem dX7_placeBehind_31 : decode cX7_placeBehind 31 = .ok (.if_icmp .ne 22, 3) := by decide +kernel
theorem dX7_placeBehind_34 : decode cX7_placeBehind 34 = .ok (.iload_n 3, 1) := by decide +kernel
theorem dX7_placeBehind_35 : decode cX7_placeBehind 35 = .ok (.iconst 1, 1) := by decide +kernel
theorem dX7_placeBehind_36 : decode cX7_placeBehind 36 = .ok (.iadd, 1) := by decide +kernel
theorem dX7_placeBehind_37 : decode cX7_placeBehind 37 = .ok (.aload_n 0, 1) := by decide +kernel
theorem dX7_placeBehind_38 : decode cX7_placeBehind 38 = .ok (.getfield 17, 3) := by decide +kernel
theorem dX7_placeBehind_41 : decode cX7_placeBehind 41 = .ok (.getfield 166, 3) := by decide +kernel
theorem dX7_placeBehind_44 : decode cX7_placeBehind 44 = .ok (.iconst 1, 1) := by decide +kernel
theorem dX7_placeBehind_45 : decode cX7_placeBehind 45 = .ok (.isub, 1) := by decide +kernel
theorem dX7_placeBehind_46 : decode cX7_placeBehind 46 = .ok (.invokestatic 106, 3) := by decide +kernel
theorem dX7_placeBehind_49 : decode cX7_placeBehind 49 = .ok (.istore_n 3, 1) := by decide +kernel
theorem dX7_placeBehind_50 : decode cX7_placeBehind 50 = .ok (.goto 42, 3) := by decide +kernel
theorem dX7_placeBehind_53 : decode cX7_placeBehind 53 = .ok (.iload_n 2, 1) := by decide +kernel
theorem dX7_placeBehind_54 : decode cX7_placeBehind 54 = .ok (.iconst 3, 1) := by decide +kernel
theorem dX7_placeBehind_55 : decode cX7_placeBehind 55 = .ok (.if_icmp .ne 24, 3) := by decide +kernel
theorem dX7_placeBehind_58 : decode cX7_placeBehind 58 = .ok (.iload 4, 2) := by decide +kernel
theorem dX7_placeBehind_60 : decode cX7_placeBehind 60 = .ok (.iconst 1, 1) := by decide +kernel
theorem dX7_placeBehind_61 : decode cX7_placeBehind 61 = .ok (.iadd, 1) := by decide +kernel
theorem dX7_placeBehind_62 : decode cX7_placeBehind 62 = .ok (.aload_n 0, 1) := by decide +kernel
theorem dX7_placeBehind_63 : decode cX7_placeBehind 63 = .ok (.getfield 17, 3) := by decide +kernel
theorem dX7_placeBehind_66 : decode cX7_placeBehind 66 = .ok (.getfield 169, 3) := by decide +kernel
theorem dX7_placeBehind_69 : decode cX7_placeBehind 69 = .ok (.iconst 1, 1) := by decide +kernel
theorem dX7_placeBehind_70 : decode cX7_placeBehind 70 = .ok (.isub, 1) := by decide +kernel
theorem dX7_placeBehind_71 : decode cX7_placeBehind 71 = .ok (.invokestatic 106, 3) := by decide +kernel
theorem dX7_placeBehind_74 : decode cX7_placeBehind 74 = .ok (.istore 4, 2) := by decide +kernel
theorem dX7_placeBehind_76 : decode cX7_placeBehind 76 = .ok (.goto 16, 3) := by decide +kernel
theorem dX7_placeBehind_79 : decode cX7_placeBehind 79 = .ok (.iload_n 2, 1) := by decide +kernel
theorem dX7_placeBehind_80 : decode cX7_placeBehind 80 = .ok (.iconst 4, 1) := by decide +kernel
theorem dX7_placeBehind_81 : decode cX7_placeBehind 81 = .ok (.if_icmp .ne 11, 3) := by decide +kernel
theorem dX7_placeBehind_84 : decode cX7_placeBehind 84 = .ok (.iload_n 3, 1) := by decide +kernel
theorem dX7_placeBehind_85 : decode cX7_placeBehind 85 = .ok (.iconst 1, 1) := by decide +kernel
theorem dX7_placeBehind_86 : decode cX7_placeBehind 86 = .ok (.isub, 1) := by decide +kernel
theorem dX7_placeBehind_87 : decode cX7_placeBehind 87 = .ok (.iconst 0, 1) := by decide +kernel
theorem dX7_placeBehind_88 : decode cX7_placeBehind 88 = .ok (.invokestatic 163, 3) := by decide +kernel
theorem dX7_placeBehind_91 : decode cX7_placeBehind 91 = .ok (.istore_n 3, 1) := by decide +kernel
theorem dX7_placeBehind_92 : decode cX7_placeBehind 92 = .ok (.bipush 8, 2) := by decide +kernel
theorem dX7_placeBehind_94 : decode cX7_placeBehind 94 = .ok (.iload 4, 2) := by decide +kernel
theorem dX7_placeBehind_96 : decode cX7_placeBehind 96 = .ok (.imul, 1) := by decide +kernel
theorem dX7_placeBehind_97 : decode cX7_placeBehind 97 = .ok (.iload_n 3, 1) := by decide +kernel
theorem dX7_placeBehind_98 : decode cX7_placeBehind 98 = .ok (.iadd, 1) := by decide +kernel
theorem dX7_placeBehind_99 : decode cX7_placeBehind 99 = .ok (.ireturn, 1) := by decide +kernel
theorem wp_X7_placeBehind_0 {d : Nat} {s : ev_S} {Q : Option ev_V → ev_S → Prop} {a1 a2 : Int}
    (h : ((a2 ≠ 1 → ((a2 ≠ 2 → ((a2 ≠ 3 → ((a2 ≠ 4 → Q (some (ev_i (ev_add (ev_mul 8 (ev_div a1 8)) (ev_rem a1 8)))) s) ∧ (a2 = 4 → Q (some (ev_i (ev_add (ev_mul 8 (ev_div a1 8)) (max (ev_sub (ev_rem a1 8) 1) 0)))) s))) ∧ (a2 = 3 → Q (some (ev_i (ev_add (ev_mul 8 (min (ev_add (ev_div a1 8) 1) (ev_sub (s 1 1) 1))) (ev_rem a1 8)))) s))) ∧ (a2 = 2 → Q (some (ev_i (ev_add (ev_mul 8 (ev_div a1 8)) (min (ev_add (ev_rem a1 8) 1) (ev_sub (s 1 0) 1))))) s))) ∧ (a2 = 1 → Q (some (ev_i (ev_add (ev_mul 8 (max (ev_sub (ev_div a1 8) 1) 0)) (ev_rem a1 8)))) s))) :
    Ev layX M_X7_placeBehind (d + 1) 0 [(0, ev_r 144), (1, ev_i a1), (2, ev_i a2)] [] s Q := by
  refine Ev_iload_n 1 dX7_placeBehind_0 rfl rfl ?_
  refine Ev_bipushC dX7_placeBehind_1 rfl ?_
  refine Ev_irem dX7_placeBehind_3 (by decide) ?_
  refine Ev_istore_n (l' := [(3, ev_i (ev_rem a1 8)), (0, ev_r 144), (1, ev_i a1), (2, ev_i a2)]) dX7_placeBehind_4 rfl (Nat.le_of_ble_eq_true rfl) rfl ?_
  refine Ev_iload_n 2 dX7_placeBehind_5 rfl rfl ?_
  refine Ev_bipushC dX7_placeBehind_6 rfl ?_
  refine Ev_idiv dX7_placeBehind_8 (by decide) ?_
  refine Ev_istore (l' := [(4, ev_i (ev_div a1 8)), (3, ev_i (ev_rem a1 8)), (0, ev_r 144), (1, ev_i a1), (2, ev_i a2)]) dX7_placeBehind_9 (Nat.le_of_ble_eq_true rfl) rfl ?_
  refine Ev_iload_n 4 dX7_placeBehind_11 rfl rfl ?_
  refine Ev_iconst dX7_placeBehind_12 rfl (ev_Rc rfl) ?_
  refine Ev_icmp_ne (tgt := 29) dX7_placeBehind_13 rfl (fun c => ?_) (fun c => ?_)
  · replace h := h.1 c
    refine Ev_iload_n 4 dX7_placeBehind_29 rfl rfl ?_
    refine Ev_iconst dX7_placeBehind_30 rfl (ev_Rc rfl) ?_
    refine Ev_icmp_ne (tgt := 53) dX7_placeBehind_31 rfl (fun c => ?_) (fun c => ?_)
    · replace h := h.1 c
      refine Ev_iload_n 4 dX7_placeBehind_53 rfl rfl ?_
      refine Ev_iconst dX7_placeBehind_54 rfl (ev_Rc rfl) ?_
      refine Ev_icmp_ne (tgt := 79) dX7_placeBehind_55 rfl (fun c => ?_) (fun c => ?_)
      · replace h := h.1 c
        refine Ev_iload_n 4 dX7_placeBehind_79 rfl rfl ?_
        refine Ev_iconst dX7_placeBehind_80 rfl (ev_Rc rfl) ?_
        refine Ev_icmp_ne (tgt := 92) dX7_placeBehind_81 rfl (fun c => ?_) (fun c => ?_)
        · replace h := h.1 c
          refine Ev_bipushC dX7_placeBehind_92 rfl ?_
          refine Ev_iload 0 dX7_placeBehind_94 rfl ?_
          refine Ev_imul dX7_placeBehind_96 ?_
          refine Ev_iload_n 1 dX7_placeBehind_97 rfl rfl ?_
          refine Ev_iadd dX7_placeBehind_98 ?_
          exact Ev_iret rfl dX7_placeBehind_99 rfl h
        · replace h := h.2 c
          refine Ev_iload_n 1 dX7_placeBehind_84 rfl rfl ?_
          refine Ev_iconst dX7_placeBehind_85 rfl (ev_Rc rfl) ?_
          refine Ev_isub dX7_placeBehind_86 ?_
          refine Ev_iconst dX7_placeBehind_87 rfl (ev_Rc rfl) ?_
          refine Ev_mmax wd_1119 dX7_placeBehind_88 (Nat.le_of_ble_eq_true rfl) ?_
          refine Ev_istore_n (l' := [(3, ev_i (max (ev_sub (ev_rem a1 8) 1) 0)), (4, ev_i (ev_div a1 8)), (0, ev_r 144), (1, ev_i a1), (2, ev_i a2)]) dX7_placeBehind_91 rfl (Nat.le_of_ble_eq_true rfl) rfl ?_
          refine Ev_bipushC dX7_placeBehind_92 rfl ?_
          refine Ev_iload 1 dX7_placeBehind_94 rfl ?_
          refine Ev_imul dX7_placeBehind_96 ?_
          refine Ev_iload_n 0 dX7_placeBehind_97 rfl rfl ?_
          refine Ev_iadd dX7_placeBehind_98 ?_
          exact Ev_iret rfl dX7_placeBehind_99 rfl h
      · replace h := h.2 c
        refine Ev_iload 0 dX7_placeBehind_58 rfl ?_
        refine Ev_iconst dX7_placeBehind_60 rfl (ev_Rc rfl) ?_
        refine Ev_iadd dX7_placeBehind_61 ?_
        refine Ev_aload_n 2 dX7_placeBehind_62 rfl rfl ?_
        refine Ev_getR (i := 0) cl_X7 yX_144 (Nat.le_of_ble_eq_true rfl) rfl wd_552 dX7_placeBehind_63 ?_
        refine Ev_get (i := 1) cl_X10 yX_1 (Nat.le_of_ble_eq_true rfl) rfl wd_244 dX7_placeBehind_66 ?_
        refine Ev_iconst dX7_placeBehind_69 rfl (ev_Rc rfl) ?_
        refine Ev_isub dX7_placeBehind_70 ?_
        refine Ev_mmin wd_1100 dX7_placeBehind_71 (Nat.le_of_ble_eq_true rfl) ?_
        refine Ev_istore (l' := [(4, ev_i (min (ev_add (ev_div a1 8) 1) (ev_sub (s 1 1) 1))), (3, ev_i (ev_rem a1 8)), (0, ev_r 144), (1, ev_i a1), (2, ev_i a2)]) dX7_placeBehind_74 (Nat.le_of_ble_eq_true rfl) rfl ?_
        refine Ev_goto (tgt := 92) dX7_placeBehind_76 rfl ?_
        refine Ev_bipushC dX7_placeBehind_92 rfl ?_
        refine Ev_iload 0 dX7_placeBehind_94 rfl ?_
        refine Ev_imul dX7_placeBehind_96 ?_
        refine Ev_iload_n 1 dX7_placeBehind_97 rfl rfl ?_
        refine Ev_iadd dX7_placeBehind_98 ?_
        exact Ev_iret rfl dX7_placeBehind_99 rfl h
    · replace h := h.2 c
      refine Ev_iload_n 1 dX7_placeBehind_34 rfl rfl ?_
      refine Ev_iconst dX7_placeBehind_35 rfl (ev_Rc rfl) ?_
      refine Ev_iadd dX7_placeBehind_36 ?_
      refine Ev_aload_n 2 dX7_placeBehind_37 rfl rfl ?_
      refine Ev_getR (i := 0) cl_X7 yX_144 (Nat.le_of_ble_eq_true rfl) rfl wd_552 dX7_placeBehind_38 ?_
      refine Ev_get (i := 0) cl_X10 yX_1 (Nat.le_of_ble_eq_true rfl) rfl wd_241 dX7_placeBehind_41 ?_
      refine Ev_iconst dX7_placeBehind_44 rfl (ev_Rc rfl) ?_
      refine Ev_isub dX7_placeBehind_45 ?_
      refine Ev_mmin wd_1100 dX7_placeBehind_46 (Nat.le_of_ble_eq_true rfl) ?_
      refine Ev_istore_n (l' := [(3, ev_i (min (ev_add (ev_rem a1 8) 1) (ev_sub (s 1 0) 1))), (4, ev_i (ev_div a1 8)), (0, ev_r 144), (1, ev_i a1), (2, ev_i a2)]) dX7_placeBehind_49 rfl (Nat.le_of_ble_eq_true rfl) rfl ?_
      refine Ev_goto (tgt := 92) dX7_placeBehind_50 rfl ?_
      refine Ev_bipushC dX7_placeBehind_92 rfl ?_
      refine Ev_iload 1 dX7_placeBehind_94 rfl ?_
      refine Ev_imul dX7_placeBehind_96 ?_
      refine Ev_iload_n 0 dX7_placeBehind_97 rfl rfl ?_
      refine Ev_iadd dX7_placeBehind_98 ?_
      exact Ev_iret rfl dX7_placeBehind_99 rfl h
  · replace h := h.2 c
    refine Ev_iload 0 dX7_placeBehind_16 rfl ?_
    refine Ev_iconst dX7_placeBehind_18 rfl (ev_Rc rfl) ?_
    refine Ev_isub dX7_placeBehind_19 ?_
    refine Ev_iconst dX7_placeBehind_20 rfl (ev_Rc rfl) ?_
    refine Ev_mmax wd_1119 dX7_placeBehind_21 (Nat.le_of_ble_eq_true rfl) ?_
    refine Ev_istore (l' := [(4, ev_i (max (ev_sub (ev_div a1 8) 1) 0)), (3, ev_i (ev_rem a1 8)), (0, ev_r 144), (1, ev_i a1), (2, ev_i a2)]) dX7_placeBehind_24 (Nat.le_of_ble_eq_true rfl) rfl ?_
    refine Ev_goto (tgt := 92) dX7_placeBehind_26 rfl ?_
    refine Ev_bipushC dX7_placeBehind_92 rfl ?_
    refine Ev_iload 0 dX7_placeBehind_94 rfl ?_
    refine Ev_imul dX7_placeBehind_96 ?_
    refine Ev_iload_n 1 dX7_placeBehind_97 rfl rfl ?_
    refine Ev_iadd dX7_placeBehind_98 ?_
    exact Ev_iret rfl dX7_placeBehind_99 rfl h
theorem dX7_comesNow_0 : decode cX7_comesNow 0 = .ok (.iload_n 2, 1) := by decide +kernel
theorem dX7_comesNow_1 : decode cX7_comesNow 1 = .ok (.bipush 7, 2) := by decide +kernel
theorem dX7_comesNow_3 : decode cX7_comesNow 3 = .ok (.imul, 1) := by decide +kernel
theorem dX7_comesNow_4 : decode cX7_comesNow 4 = .ok (.istore_n 3, 1) := by decide +kernel
theorem dX7_comesNow_5 : decode cX7_comesNow 5 = .ok (.aload_n 1, 1) := by decide +kernel
theorem dX7_comesNow_6 : decode cX7_comesNow 6 = .ok (.getfield 55, 3) := by decide +kernel
theorem dX7_comesNow_9 : decode cX7_comesNow 9 = .ok (.aload_n 0, 1) := by decide +kernel
theorem dX7_comesNow_10 : decode cX7_comesNow 10 = .ok (.getfield 17, 3) := by decide +kernel
theorem dX7_comesNow_13 : decode cX7_comesNow 13 = .ok (.getfield 172, 3) := by decide +kernel
theorem dX7_comesNow_16 : decode cX7_comesNow 16 = .ok (.iload_n 3, 1) := by decide +kernel
theorem dX7_comesNow_17 : decode cX7_comesNow 17 = .ok (.iconst 2, 1) := by decide +kernel
theorem dX7_comesNow_18 : decode cX7_comesNow 18 = .ok (.iadd, 1) := by decide +kernel
theorem dX7_comesNow_19 : decode cX7_comesNow 19 = .ok (.iaload, 1) := by decide +kernel
theorem dX7_comesNow_20 : decode cX7_comesNow 20 = .ok (.if_icmp .lt 21, 3) := by decide +kernel
theorem dX7_comesNow_23 : decode cX7_comesNow 23 = .ok (.aload_n 1, 1) := by decide +kernel
theorem dX7_comesNow_24 : decode cX7_comesNow 24 = .ok (.getfield 55, 3) := by decide +kernel
theorem dX7_comesNow_27 : decode cX7_comesNow 27 = .ok (.aload_n 0, 1) := by decide +kernel
theorem dX7_comesNow_28 : decode cX7_comesNow 28 = .ok (.getfield 17, 3) := by decide +kernel
theorem dX7_comesNow_31 : decode cX7_comesNow 31 = .ok (.getfield 172, 3) := by decide +kernel
theorem dX7_comesNow_34 : decode cX7_comesNow 34 = .ok (.iload_n 3, 1) := by decide +kernel
theorem dX7_comesNow_35 : decode cX7_comesNow 35 = .ok (.iconst 3, 1) := by decide +kernel
theorem dX7_comesNow_36 : decode cX7_comesNow 36 = .ok (.iadd, 1) := by decide +kernel
theorem dX7_comesNow_37 : decode cX7_comesNow 37 = .ok (.iaload, 1) := by decide +kernel
theorem dX7_comesNow_38 : decode cX7_comesNow 38 = .ok (.if_icmp .le 5, 3) := by decide +kernel
theorem dX7_comesNow_41 : decode cX7_comesNow 41 = .ok (.iconst 0, 1) := by decide +kernel
theorem dX7_comesNow_42 : decode cX7_comesNow 42 = .ok (.ireturn, 1) := by decide +kernel
theorem dX7_comesNow_43 : decode cX7_comesNow 43 = .ok (.aload_n 0, 1) := by decide +kernel
theorem dX7_comesNow_44 : decode cX7_comesNow 44 = .ok (.getfield 17, 3) := by decide +kernel
theorem dX7_comesNow_47 : decode cX7_comesNow 47 = .ok (.getfield 172, 3) := by decide +kernel
theorem dX7_comesNow_50 : decode cX7_comesNow 50 = .ok (.iload_n 3, 1) := by decide +kernel
theorem dX7_comesNow_51 : decode cX7_comesNow 51 = .ok (.iconst 1, 1) := by decide +kernel
theorem dX7_comesNow_52 : decode cX7_comesNow 52 = .ok (.iadd, 1) := by decide +kernel
theorem dX7_comesNow_53 : decode cX7_comesNow 53 = .ok (.iaload, 1) := by decide +kernel
theorem dX7_comesNow_54 : decode cX7_comesNow 54 = .ok (.istore 4, 2) := by decide +kernel
theorem dX7_comesNow_56 : decode cX7_comesNow 56 = .ok (.aload_n 0, 1) := by decide +kernel
theorem dX7_comesNow_57 : decode cX7_comesNow 57 = .ok (.getfield 17, 3) := by decide +kernel
theorem dX7_comesNow_60 : decode cX7_comesNow 60 = .ok (.getfield 172, 3) := by decide +kernel
theorem dX7_comesNow_63 : decode cX7_comesNow 63 = .ok (.iload_n 3, 1) := by decide +kernel
theorem dX7_comesNow_64 : decode cX7_comesNow 64 = .ok (.iconst 4, 1) := by decide +kernel
theorem dX7_comesNow_65 : decode cX7_comesNow 65 = .ok (.iadd, 1) := by decide +kernel
theorem dX7_comesNow_66 : decode cX7_comesNow 66 = .ok (.iaload, 1) := by decide +kernel
theorem dX7_comesNow_67 : decode cX7_comesNow 67 = .ok (.istore 5, 2) := by decide +kernel
theorem dX7_comesNow_69 : decode cX7_comesNow 69 = .ok (.aload_n 0, 1) := by decide +kernel
theorem dX7_comesNow_70 : decode cX7_comesNow 70 = .ok (.getfield 17, 3) := by decide +kernel
theorem dX7_comesNow_73 : decode cX7_comesNow 73 = .ok (.iload 5, 2) := by decide +kernel
theorem dX7_comesNow_75 : decode cX7_comesNow 75 = .ok (.invokevirtual 175, 3) := by decide +kernel
theorem dX7_comesNow_78 : decode cX7_comesNow 78 = .ok (.ifCond .eq 21, 3) := by decide +kernel
theorem dX7_comesNow_81 : decode cX7_comesNow 81 = .ok (.aload_n 1, 1) := by decide +kernel
theorem dX7_comesNow_82 : decode cX7_comesNow 82 = .ok (.getfield 97, 3) := by decide +kernel
theorem dX7_comesNow_85 : decode cX7_comesNow 85 = .ok (.iload 5, 2) := by decide +kernel
theorem dX7_comesNow_87 : decode cX7_comesNow 87 = .ok (.iaload, 1) := by decide +kernel
theorem dX7_comesNow_88 : decode cX7_comesNow 88 = .ok (.iload 4, 2) := by decide +kernel
theorem dX7_comesNow_90 : decode cX7_comesNow 90 = .ok (.if_icmp .ne 7, 3) := by decide +kernel
theorem dX7_comesNow_93 : decode cX7_comesNow 93 = .ok (.iconst 1, 1) := by decide +kernel
theorem dX7_comesNow_94 : decode cX7_comesNow 94 = .ok (.goto 4, 3) := by decide +kernel
theorem dX7_comesNow_97 : decode cX7_comesNow 97 = .ok (.iconst 0, 1) := by decide +kernel
theorem dX7_comesNow_98 : decode cX7_comesNow 98 = .ok (.ireturn, 1) := by decide +kernel
theorem dX7_comesNow_99 : decode cX7_comesNow 99 = .ok (.aload_n 0, 1) := by decide +kernel
theorem dX7_comesNow_100 : decode cX7_comesNow 100 = .ok (.aload_n 1, 1) := by decide +kernel
theorem dX7_comesNow_101 : decode cX7_comesNow 101 = .ok (.iload 4, 2) := by decide +kernel
theorem dX7_comesNow_103 : decode cX7_comesNow 103 = .ok (.invokevirtual 124, 3) := by decide +kernel
theorem dX7_comesNow_106 : decode cX7_comesNow 106 = .ok (.ifCond .le 7, 3) := by decide +kernel
theorem dX7_comesNow_109 : decode cX7_comesNow 109 = .ok (.iconst 1, 1) := by decide +kernel
theorem dX7_comesNow_110 : decode cX7_comesNow 110 = .ok (.goto 4, 3) := by decide +kernel
theorem dX7_comesNow_113 : decode cX7_comesNow 113 = .ok (.iconst 0, 1) := by decide +kernel
theorem dX7_comesNow_114 : decode cX7_comesNow 114 = .ok (.ireturn, 1) := by decide +kernel
theorem wp_X7_comesNow_0 {d : Nat} {k1 : Nat} (hk1 : is_X2 k1) {s : ev_S} {Q : Option ev_V → ev_S → Prop} {a2 : Int}
    (h : ((0 ≤ (ev_add (ev_mul a2 7) 2) ∧ (ev_add (ev_mul a2 7) 2) < (70 : Nat)) ∧ (((s k1 0) < (s 9 (Int.toNat (ev_add (ev_mul a2 7) 2))) → Q (some (ev_i 0)) s) ∧ ((s 9 (Int.toNat (ev_add (ev_mul a2 7) 2))) ≤ (s k1 0) → ((0 ≤ (ev_add (ev_mul a2 7) 3) ∧ (ev_add (ev_mul a2 7) 3) < (70 : Nat)) ∧ (((s k1 0) ≤ (s 9 (Int.toNat (ev_add (ev_mul a2 7) 3))) → ((0 ≤ (ev_add (ev_mul a2 7) 1) ∧ (ev_add (ev_mul a2 7) 1) < (70 : Nat)) ∧ ((0 ≤ (ev_add (ev_mul a2 7) 4) ∧ (ev_add (ev_mul a2 7) 4) < (70 : Nat)) ∧ (Ev layX M_X10_hasWard d 0 [(0, ev_r 1), (1, ev_i (s 9 (Int.toNat (ev_add (ev_mul a2 7) 4))))] [] s (ev_pi (fun r2 s1 => ((r2 = 0 → (Ev layX M_X7_howManyThere d 0 [(0, ev_r 144), (1, ev_r k1), (2, ev_i (s 9 (Int.toNat (ev_add (ev_mul a2 7) 1))))] [] s1 (ev_pi (fun r4 s3 => ((r4 ≤ 0 → Q (some (ev_i 0)) s3) ∧ (0 < r4 → Q (some (ev_i 1)) s3)))))) ∧ (r2 ≠ 0 → ((0 ≤ (s 9 (Int.toNat (ev_add (ev_mul a2 7) 4))) ∧ (s 9 (Int.toNat (ev_add (ev_mul a2 7) 4))) < (8 : Nat)) ∧ (((s1 (k1 + 1) (Int.toNat (s 9 (Int.toNat (ev_add (ev_mul a2 7) 4))))) ≠ (s 9 (Int.toNat (ev_add (ev_mul a2 7) 1))) → Q (some (ev_i 0)) s1) ∧ ((s1 (k1 + 1) (Int.toNat (s 9 (Int.toNat (ev_add (ev_mul a2 7) 4))))) = (s 9 (Int.toNat (ev_add (ev_mul a2 7) 1))) → Q (some (ev_i 1)) s1))))))))))) ∧ ((s 9 (Int.toNat (ev_add (ev_mul a2 7) 3))) < (s k1 0) → Q (some (ev_i 0)) s))))))) :
    Ev layX M_X7_comesNow (d + 1) 0 [(0, ev_r 144), (1, ev_r k1), (2, ev_i a2)] [] s Q := by
  refine Ev_iload_n 2 dX7_comesNow_0 rfl rfl ?_
  refine Ev_bipushC dX7_comesNow_1 rfl ?_
  refine Ev_imul dX7_comesNow_3 ?_
  refine Ev_istore_n (l' := [(3, ev_i (ev_mul a2 7)), (0, ev_r 144), (1, ev_r k1), (2, ev_i a2)]) dX7_comesNow_4 rfl (Nat.le_of_ble_eq_true rfl) rfl ?_
  refine Ev_aload_n 2 dX7_comesNow_5 rfl rfl ?_
  refine Ev_get (i := 0) cl_X2 hk1.1 (Nat.le_of_ble_eq_true rfl) rfl wd_338 dX7_comesNow_6 ?_
  refine Ev_aload_n 1 dX7_comesNow_9 rfl rfl ?_
  refine Ev_getR (i := 0) cl_X7 yX_144 (Nat.le_of_ble_eq_true rfl) rfl wd_552 dX7_comesNow_10 ?_
  refine Ev_getR (i := 14) cl_X10 yX_1 (Nat.le_of_ble_eq_true rfl) rfl wd_292 dX7_comesNow_13 ?_
  refine Ev_iload_n 0 dX7_comesNow_16 rfl rfl ?_
  refine Ev_iconst dX7_comesNow_17 rfl (ev_Rc rfl) ?_
  refine Ev_iadd dX7_comesNow_18 ?_
  obtain ⟨h0, h⟩ := h
  refine Ev_iald yX_9 h0 dX7_comesNow_19 ?_
  refine Ev_icmp_lt (tgt := 41) dX7_comesNow_20 rfl (fun c => ?_) (fun c => ?_)
  · replace h := h.1 c
    refine Ev_iconst dX7_comesNow_41 rfl (ev_Rc rfl) ?_
    exact Ev_iret rfl dX7_comesNow_42 (ev_nb (by decide)) h
  · replace h := h.2 c
    refine Ev_aload_n 2 dX7_comesNow_23 rfl rfl ?_
    refine Ev_get (i := 0) cl_X2 hk1.1 (Nat.le_of_ble_eq_true rfl) rfl wd_338 dX7_comesNow_24 ?_
    refine Ev_aload_n 1 dX7_comesNow_27 rfl rfl ?_
    refine Ev_getR (i := 0) cl_X7 yX_144 (Nat.le_of_ble_eq_true rfl) rfl wd_552 dX7_comesNow_28 ?_
    refine Ev_getR (i := 14) cl_X10 yX_1 (Nat.le_of_ble_eq_true rfl) rfl wd_292 dX7_comesNow_31 ?_
    refine Ev_iload_n 0 dX7_comesNow_34 rfl rfl ?_
    refine Ev_iconst dX7_comesNow_35 rfl (ev_Rc rfl) ?_
    refine Ev_iadd dX7_comesNow_36 ?_
    obtain ⟨h0, h⟩ := h
    refine Ev_iald yX_9 h0 dX7_comesNow_37 ?_
    refine Ev_icmp_le (tgt := 43) dX7_comesNow_38 rfl (fun c => ?_) (fun c => ?_)
    · replace h := h.1 c
      refine Ev_aload_n 1 dX7_comesNow_43 rfl rfl ?_
      refine Ev_getR (i := 0) cl_X7 yX_144 (Nat.le_of_ble_eq_true rfl) rfl wd_552 dX7_comesNow_44 ?_
      refine Ev_getR (i := 14) cl_X10 yX_1 (Nat.le_of_ble_eq_true rfl) rfl wd_292 dX7_comesNow_47 ?_
      refine Ev_iload_n 0 dX7_comesNow_50 rfl rfl ?_
      refine Ev_iconst dX7_comesNow_51 rfl (ev_Rc rfl) ?_
      refine Ev_iadd dX7_comesNow_52 ?_
      obtain ⟨h0, h⟩ := h
      refine Ev_iald yX_9 h0 dX7_comesNow_53 ?_
      refine Ev_istore (l' := [(4, ev_i (s 9 (Int.toNat (ev_add (ev_mul a2 7) 1)))), (3, ev_i (ev_mul a2 7)), (0, ev_r 144), (1, ev_r k1), (2, ev_i a2)]) dX7_comesNow_54 (Nat.le_of_ble_eq_true rfl) rfl ?_
      refine Ev_aload_n 2 dX7_comesNow_56 rfl rfl ?_
      refine Ev_getR (i := 0) cl_X7 yX_144 (Nat.le_of_ble_eq_true rfl) rfl wd_552 dX7_comesNow_57 ?_
      refine Ev_getR (i := 14) cl_X10 yX_1 (Nat.le_of_ble_eq_true rfl) rfl wd_292 dX7_comesNow_60 ?_
      refine Ev_iload_n 1 dX7_comesNow_63 rfl rfl ?_
      refine Ev_iconst dX7_comesNow_64 rfl (ev_Rc rfl) ?_
      refine Ev_iadd dX7_comesNow_65 ?_
      obtain ⟨h0, h⟩ := h
      refine Ev_iald yX_9 h0 dX7_comesNow_66 ?_
      refine Ev_istore (l' := [(5, ev_i (s 9 (Int.toNat (ev_add (ev_mul a2 7) 4)))), (4, ev_i (s 9 (Int.toNat (ev_add (ev_mul a2 7) 1)))), (3, ev_i (ev_mul a2 7)), (0, ev_r 144), (1, ev_r k1), (2, ev_i a2)]) dX7_comesNow_67 (Nat.le_of_ble_eq_true rfl) rfl ?_
      refine Ev_aload_n 3 dX7_comesNow_69 rfl rfl ?_
      refine Ev_getR (i := 0) cl_X7 yX_144 (Nat.le_of_ble_eq_true rfl) rfl wd_552 dX7_comesNow_70 ?_
      refine Ev_iload 0 dX7_comesNow_73 rfl ?_
      refine Ev_callV (As := [ev_i (s 9 (Int.toNat (ev_add (ev_mul a2 7) 4)))]) (b := 1) (st := []) (M' := M_X10_hasWard) cm_X10_hasWard wd_1124 wd_788 wd_789 yX_1 cl_X10 rfl dX7_comesNow_75 (Nat.le_refl _) rfl (Nat.le_of_ble_eq_true rfl) (Nat.le_of_ble_eq_true rfl) h (fun v u h hk => ?_)
      obtain ⟨r2, rfl⟩ := hk
      obtain ⟨s1, rfl⟩ : ∃ x, x = u := ⟨_, rfl⟩
      replace h := h r2 rfl
      refine Ev_if_eq (tgt := 99) dX7_comesNow_78 rfl (fun c => ?_) (fun c => ?_)
      · replace h := h.1 c
        refine Ev_aload_n 3 dX7_comesNow_99 rfl rfl ?_
        refine Ev_aload_n 4 dX7_comesNow_100 rfl rfl ?_
        refine Ev_iload 1 dX7_comesNow_101 rfl ?_
        refine Ev_callV (As := [ev_r k1, ev_i (s 9 (Int.toNat (ev_add (ev_mul a2 7) 1)))]) (b := 144) (st := []) (M' := M_X7_howManyThere) cm_X7_howManyThere wd_1084 wd_1086 wd_35 yX_144 cl_X7 rfl dX7_comesNow_103 (Nat.le_refl _) rfl (Nat.le_of_ble_eq_true rfl) (Nat.le_of_ble_eq_true rfl) h (fun v u h hk => ?_)
        obtain ⟨r4, rfl⟩ := hk
        obtain ⟨s3, rfl⟩ : ∃ x, x = u := ⟨_, rfl⟩
        replace h := h r4 rfl
        refine Ev_if_le (tgt := 113) dX7_comesNow_106 rfl (fun c => ?_) (fun c => ?_)
        · replace h := h.1 c
          refine Ev_iconst dX7_comesNow_113 rfl (ev_Rc rfl) ?_
          exact Ev_iret rfl dX7_comesNow_114 (ev_nb (by decide)) h
        · replace h := h.2 c
          refine Ev_iconst dX7_comesNow_109 rfl (ev_Rc rfl) ?_
          refine Ev_goto (tgt := 114) dX7_comesNow_110 rfl ?_
          exact Ev_iret rfl dX7_comesNow_114 (ev_nb (by decide)) h
      · replace h := h.2 c
        refine Ev_aload_n 4 dX7_comesNow_81 rfl rfl ?_
        refine Ev_getR (i := 2) cl_X2 hk1.1 (Nat.le_of_ble_eq_true rfl) rfl wd_345 dX7_comesNow_82 ?_
        refine Ev_iload 0 dX7_comesNow_85 rfl ?_
        obtain ⟨h0, h⟩ := h
        refine Ev_iald hk1.2.1 h0 dX7_comesNow_87 ?_
        refine Ev_iload 1 dX7_comesNow_88 rfl ?_
        refine Ev_icmp_ne (tgt := 97) dX7_comesNow_90 rfl (fun c => ?_) (fun c => ?_)
        · replace h := h.1 c
          refine Ev_iconst dX7_comesNow_97 rfl (ev_Rc rfl) ?_
          exact Ev_iret rfl dX7_comesNow_98 (ev_nb (by decide)) h
        · replace h := h.2 c
          refine Ev_iconst dX7_comesNow_93 rfl (ev_Rc rfl) ?_
          refine Ev_goto (tgt := 98) dX7_comesNow_94 rfl ?_
          exact Ev_iret rfl dX7_comesNow_98 (ev_nb (by decide)) h
    · replace h := h.2 c
      refine Ev_iconst dX7_comesNow_41 rfl (ev_Rc rfl) ?_
      exact Ev_iret rfl dX7_comesNow_42 (ev_nb (by decide)) h
theorem dX7_settle_0 : decode cX7_settle 0 = .ok (.iload_n 2, 1) := by decide +kernel
theorem dX7_settle_1 : decode cX7_settle 1 = .ok (.bipush 7, 2) := by decide +kernel
theorem dX7_settle_3 : decode cX7_settle 3 = .ok (.imul, 1) := by decide +kernel
theorem dX7_settle_4 : decode cX7_settle 4 = .ok (.istore 4, 2) := by decide +kernel
theorem dX7_settle_6 : decode cX7_settle 6 = .ok (.aload_n 0, 1) := by decide +kernel
theorem dX7_settle_7 : decode cX7_settle 7 = .ok (.getfield 17, 3) := by decide +kernel
theorem dX7_settle_10 : decode cX7_settle 10 = .ok (.getfield 172, 3) := by decide +kernel
theorem dX7_settle_13 : decode cX7_settle 13 = .ok (.iload 4, 2) := by decide +kernel
theorem dX7_settle_15 : decode cX7_settle 15 = .ok (.iconst 1, 1) := by decide +kernel
theorem dX7_settle_16 : decode cX7_settle 16 = .ok (.iadd, 1) := by decide +kernel
theorem dX7_settle_17 : decode cX7_settle 17 = .ok (.iaload, 1) := by decide +kernel
theorem dX7_settle_18 : decode cX7_settle 18 = .ok (.istore 5, 2) := by decide +kernel
theorem dX7_settle_20 : decode cX7_settle 20 = .ok (.aload_n 0, 1) := by decide +kernel
theorem dX7_settle_21 : decode cX7_settle 21 = .ok (.getfield 17, 3) := by decide +kernel
theorem dX7_settle_24 : decode cX7_settle 24 = .ok (.getfield 172, 3) := by decide +kernel
theorem dX7_settle_27 : decode cX7_settle 27 = .ok (.iload 4, 2) := by decide +kernel
theorem dX7_settle_29 : decode cX7_settle 29 = .ok (.bipush 6, 2) := by decide +kernel
theorem dX7_settle_31 : decode cX7_settle 31 = .ok (.iadd, 1) := by decide +kernel
theorem dX7_settle_32 : decode cX7_settle 32 = .ok (.iaload, 1) := by decide +kernel
theorem dX7_settle_33 : decode cX7_settle 33 = .ok (.istore 6, 2) := by decide +kernel
theorem dX7_settle_35 : decode cX7_settle 35 = .ok (.aload_n 1, 1) := by decide +kernel
theorem dX7_settle_36 : decode cX7_settle 36 = .ok (.getfield 178, 3) := by decide +kernel
theorem dX7_settle_39 : decode cX7_settle 39 = .ok (.iload_n 2, 1) := by decide +kernel
theorem dX7_settle_40 : decode cX7_settle 40 = .ok (.aload_n 1, 1) := by decide +kernel
theorem dX7_settle_41 : decode cX7_settle 41 = .ok (.getfield 55, 3) := by decide +kernel
theorem dX7_settle_44 : decode cX7_settle 44 = .ok (.iastore, 1) := by decide +kernel
theorem dX7_settle_45 : decode cX7_settle 45 = .ok (.aload_n 1, 1) := by decide +kernel
theorem dX7_settle_46 : decode cX7_settle 46 = .ok (.getfield 181, 3) := by decide +kernel
theorem dX7_settle_49 : decode cX7_settle 49 = .ok (.iload_n 2, 1) := by decide +kernel
theorem dX7_settle_50 : decode cX7_settle 50 = .ok (.aload_n 0, 1) := by decide +kernel
theorem dX7_settle_51 : decode cX7_settle 51 = .ok (.getfield 21, 3) := by decide +kernel
theorem dX7_settle_54 : decode cX7_settle 54 = .ok (.aload_n 1, 1) := by decide +kernel
theorem dX7_settle_55 : decode cX7_settle 55 = .ok (.getfield 111, 3) := by decide +kernel
theorem dX7_settle_58 : decode cX7_settle 58 = .ok (.iload 5, 2) := by decide +kernel
theorem dX7_settle_60 : decode cX7_settle 60 = .ok (.aload_n 0, 1) := by decide +kernel
theorem dX7_settle_61 : decode cX7_settle 61 = .ok (.getfield 17, 3) := by decide +kernel
theorem dX7_settle_64 : decode cX7_settle 64 = .ok (.getfield 172, 3) := by decide +kernel
theorem dX7_settle_67 : decode cX7_settle 67 = .ok (.iload 4, 2) := by decide +kernel
theorem dX7_settle_69 : decode cX7_settle 69 = .ok (.iconst 5, 1) := by decide +kernel
theorem dX7_settle_70 : decode cX7_settle 70 = .ok (.iadd, 1) := by decide +kernel
theorem dX7_settle_71 : decode cX7_settle 71 = .ok (.iaload, 1) := by decide +kernel
theorem dX7_settle_72 : decode cX7_settle 72 = .ok (.aload_n 1, 1) := by decide +kernel
theorem dX7_settle_73 : decode cX7_settle 73 = .ok (.getfield 55, 3) := by decide +kernel
theorem dX7_settle_76 : decode cX7_settle 76 = .ok (.aload_n 0, 1) := by decide +kernel
theorem dX7_settle_77 : decode cX7_settle 77 = .ok (.getfield 17, 3) := by decide +kernel
theorem dX7_settle_80 : decode cX7_settle 80 = .ok (.getfield 184, 3) := by decide +kernel
theorem dX7_settle_83 : decode cX7_settle 83 = .ok (.isub, 1) := by decide +kernel
theorem dX7_settle_84 : decode cX7_settle 84 = .ok (.invokevirtual 187, 3) := by decide +kernel
theorem dX7_settle_87 : decode cX7_settle 87 = .ok (.iastore, 1) := by decide +kernel
theorem dX7_settle_88 : decode cX7_settle 88 = .ok (.aload_n 1, 1) := by decide +kernel
theorem dX7_settle_89 : decode cX7_settle 89 = .ok (.getfield 181, 3) := by decide +kernel
theorem dX7_settle_92 : decode cX7_settle 92 = .ok (.iload_n 2, 1) := by decide +kernel
theorem dX7_settle_93 : decode cX7_settle 93 = .ok (.iaload, 1) := by decide +kernel
theorem dX7_settle_94 : decode cX7_settle 94 = .ok (.iconst (-1), 1) := by decide +kernel
theorem dX7_settle_95 : decode cX7_settle 95 = .ok (.if_icmp .eq 13, 3) := by decide +kernel
theorem dX7_settle_98 : decode cX7_settle 98 = .ok (.aload_n 1, 1) := by decide +kernel
theorem dX7_settle_99 : decode cX7_settle 99 = .ok (.getfield 42, 3) := by decide +kernel
theorem dX7_settle_102 : decode cX7_settle 102 = .ok (.iload_n 2, 1) := by decide +kernel
theorem dX7_settle_103 : decode cX7_settle 103 = .ok (.iconst 1, 1) := by decide +kernel
theorem dX7_settle_104 : decode cX7_settle 104 = .ok (.iastore, 1) := by decide +kernel
theorem dX7_settle_105 : decode cX7_settle 105 = .ok (.goto 42, 3) := by decide +kernel
theorem dX7_settle_108 : decode cX7_settle 108 = .ok (.iload_n 3, 1) := by decide +kernel
theorem dX7_settle_109 : decode cX7_settle 109 = .ok (.ifCond .ne 21, 3) := by decide +kernel
theorem dX7_settle_112 : decode cX7_settle 112 = .ok (.iload 6, 2) := by decide +kernel
theorem dX7_settle_114 : decode cX7_settle 114 = .ok (.bipush 100, 2) := by decide +kernel
theorem dX7_settle_116 : decode cX7_settle 116 = .ok (.if_icmp .ge 14, 3) := by decide +kernel
theorem dX7_settle_119 : decode cX7_settle 119 = .ok (.aload_n 1, 1) := by decide +kernel
theorem dX7_settle_120 : decode cX7_settle 120 = .ok (.bipush 100, 2) := by decide +kernel
theorem dX7_settle_122 : decode cX7_settle 122 = .ok (.invokevirtual 191, 3) := by decide +kernel
theorem dX7_settle_125 : decode cX7_settle 125 = .ok (.iload 6, 2) := by decide +kernel
theorem dX7_settle_127 : decode cX7_settle 127 = .ok (.if_icmp .ge 13, 3) := by decide +kernel
theorem dX7_settle_130 : decode cX7_settle 130 = .ok (.aload_n 1, 1) := by decide +kernel
theorem dX7_settle_131 : decode cX7_settle 131 = .ok (.getfield 42, 3) := by decide +kernel
theorem dX7_settle_134 : decode cX7_settle 134 = .ok (.iload_n 2, 1) := by decide +kernel
theorem dX7_settle_135 : decode cX7_settle 135 = .ok (.iconst 2, 1) := by decide +kernel
theorem dX7_settle_136 : decode cX7_settle 136 = .ok (.iastore, 1) := by decide +kernel
theorem dX7_settle_137 : decode cX7_settle 137 = .ok (.goto 10, 3) := by decide +kernel
theorem dX7_settle_140 : decode cX7_settle 140 = .ok (.aload_n 1, 1) := by decide +kernel
theorem dX7_settle_141 : decode cX7_settle 141 = .ok (.getfield 42, 3) := by decide +kernel
theorem dX7_settle_144 : decode cX7_settle 144 = .ok (.iload_n 2, 1) := by decide +kernel
theorem dX7_settle_145 : decode cX7_settle 145 = .ok (.iconst 3, 1) := by decide +kernel
theorem dX7_settle_146 : decode cX7_settle 146 = .ok (.iastore, 1) := by decide +kernel
theorem dX7_settle_147 : decode cX7_settle 147 = .ok (.return_, 1) := by decide +kernel
theorem wp_X7_settle_0 {d : Nat} {k1 : Nat} (hk1 : is_X2 k1) {s : ev_S} {Q : Option ev_V → ev_S → Prop} {a2 a3 : Int}
    (h : ((0 ≤ (ev_add (ev_mul a2 7) 1) ∧ (ev_add (ev_mul a2 7) 1) < (70 : Nat)) ∧ ((0 ≤ (ev_add (ev_mul a2 7) 6) ∧ (ev_add (ev_mul a2 7) 6) < (70 : Nat)) ∧ ((0 ≤ a2 ∧ a2 < (10 : Nat)) ∧ ∀ s1, ev_up s (k1 + 10) (Int.toNat a2) (s k1 0) = s1 → ((0 ≤ (ev_add (ev_mul a2 7) 5) ∧ (ev_add (ev_mul a2 7) 5) < (70 : Nat)) ∧ (Ev layX M_X0_guarding d 0 [(0, ev_r 27), (1, ev_i (s1 k1 13)), (2, ev_i (s 9 (Int.toNat (ev_add (ev_mul a2 7) 1)))), (3, ev_i (s1 9 (Int.toNat (ev_add (ev_mul a2 7) 5)))), (4, ev_i (ev_sub (s1 k1 0) (s1 1 2)))] [] s1 (ev_pi (fun r3 s2 => ((0 ≤ a2 ∧ a2 < (10 : Nat)) ∧ ∀ s4, ev_up s2 (k1 + 11) (Int.toNat a2) r3 = s4 → ((0 ≤ a2 ∧ a2 < (10 : Nat)) ∧ (((s4 (k1 + 11) (Int.toNat a2)) = (-1) → ((a3 ≠ 0 → ((0 ≤ a2 ∧ a2 < (10 : Nat)) ∧ ∀ s5, ev_up s4 (k1 + 9) (Int.toNat a2) 2 = s5 → Q none s5)) ∧ (a3 = 0 → ((100 ≤ (s 9 (Int.toNat (ev_add (ev_mul a2 7) 6))) → ((0 ≤ a2 ∧ a2 < (10 : Nat)) ∧ ∀ s6, ev_up s4 (k1 + 9) (Int.toNat a2) 2 = s6 → Q none s6)) ∧ ((s 9 (Int.toNat (ev_add (ev_mul a2 7) 6))) < 100 → (Ev layX M_X2_draw d 0 [(0, ev_r k1), (1, ev_i 100)] [] s4 (ev_pi (fun r8 s7 => (((s 9 (Int.toNat (ev_add (ev_mul a2 7) 6))) ≤ r8 → ((0 ≤ a2 ∧ a2 < (10 : Nat)) ∧ ∀ s9, ev_up s7 (k1 + 9) (Int.toNat a2) 3 = s9 → Q none s9)) ∧ (r8 < (s 9 (Int.toNat (ev_add (ev_mul a2 7) 6))) → ((0 ≤ a2 ∧ a2 < (10 : Nat)) ∧ ∀ s10, ev_up s7 (k1 + 9) (Int.toNat a2) 2 = s10 → Q none s10))))))))))) ∧ ((s4 (k1 + 11) (Int.toNat a2)) ≠ (-1) → ((0 ≤ a2 ∧ a2 < (10 : Nat)) ∧ ∀ s11, ev_up s4 (k1 + 9) (Int.toNat a2) 1 = s11 → Q none s11))))))))))))) :
    Ev layX M_X7_settle (d + 1) 0 [(0, ev_r 144), (1, ev_r k1), (2, ev_i a2), (3, ev_i a3)] [] s Q := by
  refine Ev_iload_n 2 dX7_settle_0 rfl rfl ?_
  refine Ev_bipushC dX7_settle_1 rfl ?_
  refine Ev_imul dX7_settle_3 ?_
  refine Ev_istore (l' := [(4, ev_i (ev_mul a2 7)), (0, ev_r 144), (1, ev_r k1), (2, ev_i a2), (3, ev_i a3)]) dX7_settle_4 (Nat.le_of_ble_eq_true rfl) rfl ?_
  refine Ev_aload_n 1 dX7_settle_6 rfl rfl ?_
  refine Ev_getR (i := 0) cl_X7 yX_144 (Nat.le_of_ble_eq_true rfl) rfl wd_552 dX7_settle_7 ?_
  refine Ev_getR (i := 14) cl_X10 yX_1 (Nat.le_of_ble_eq_true rfl) rfl wd_292 dX7_settle_10 ?_
  refine Ev_iload 0 dX7_settle_13 rfl ?_
  refine Ev_iconst dX7_settle_15 rfl (ev_Rc rfl) ?_
  refine Ev_iadd dX7_settle_16 ?_
  obtain ⟨h0, h⟩ := h
  refine Ev_iald yX_9 h0 dX7_settle_17 ?_
  refine Ev_istore (l' := [(5, ev_i (s 9 (Int.toNat (ev_add (ev_mul a2 7) 1)))), (4, ev_i (ev_mul a2 7)), (0, ev_r 144), (1, ev_r k1), (2, ev_i a2), (3, ev_i a3)]) dX7_settle_18 (Nat.le_of_ble_eq_true rfl) rfl ?_
  refine Ev_aload_n 2 dX7_settle_20 rfl rfl ?_
  refine Ev_getR (i := 0) cl_X7 yX_144 (Nat.le_of_ble_eq_true rfl) rfl wd_552 dX7_settle_21 ?_
  refine Ev_getR (i := 14) cl_X10 yX_1 (Nat.le_of_ble_eq_true rfl) rfl wd_292 dX7_settle_24 ?_
  refine Ev_iload 1 dX7_settle_27 rfl ?_
  refine Ev_bipushC dX7_settle_29 rfl ?_
  refine Ev_iadd dX7_settle_31 ?_
  obtain ⟨h0, h⟩ := h
  refine Ev_iald yX_9 h0 dX7_settle_32 ?_
  refine Ev_istore (l' := [(6, ev_i (s 9 (Int.toNat (ev_add (ev_mul a2 7) 6)))), (5, ev_i (s 9 (Int.toNat (ev_add (ev_mul a2 7) 1)))), (4, ev_i (ev_mul a2 7)), (0, ev_r 144), (1, ev_r k1), (2, ev_i a2), (3, ev_i a3)]) dX7_settle_33 (Nat.le_of_ble_eq_true rfl) rfl ?_
  refine Ev_aload_n 4 dX7_settle_35 rfl rfl ?_
  refine Ev_getR (i := 11) cl_X2 hk1.1 (Nat.le_of_ble_eq_true rfl) rfl wd_376 dX7_settle_36 ?_
  refine Ev_iload_n 5 dX7_settle_39 rfl rfl ?_
  refine Ev_aload_n 4 dX7_settle_40 rfl rfl ?_
  refine Ev_get (i := 0) cl_X2 hk1.1 (Nat.le_of_ble_eq_true rfl) rfl wd_338 dX7_settle_41 ?_
  obtain ⟨h0, h⟩ := h
  refine Ev_iast hk1.2.2.2.2.2.2.2.2.2.2.1 h0 dX7_settle_44 (Ev_nm (fun s1 es1 => ?_))
  replace h := h s1 es1
  refine Ev_aload_n 4 dX7_settle_45 rfl rfl ?_
  refine Ev_getR (i := 12) cl_X2 hk1.1 (Nat.le_of_ble_eq_true rfl) rfl wd_379 dX7_settle_46 ?_
  refine Ev_iload_n 5 dX7_settle_49 rfl rfl ?_
  refine Ev_aload_n 3 dX7_settle_50 rfl rfl ?_
  refine Ev_getR (i := 1) cl_X7 yX_144 (Nat.le_of_ble_eq_true rfl) rfl wd_553 dX7_settle_51 ?_
  refine Ev_aload_n 4 dX7_settle_54 rfl rfl ?_
  refine Ev_get (i := 13) cl_X2 hk1.1 (Nat.le_of_ble_eq_true rfl) rfl wd_382 dX7_settle_55 ?_
  refine Ev_iload 1 dX7_settle_58 rfl ?_
  refine Ev_aload_n 3 dX7_settle_60 rfl rfl ?_
  refine Ev_getR (i := 0) cl_X7 yX_144 (Nat.le_of_ble_eq_true rfl) rfl wd_552 dX7_settle_61 ?_
  refine Ev_getR (i := 14) cl_X10 yX_1 (Nat.le_of_ble_eq_true rfl) rfl wd_292 dX7_settle_64 ?_
  refine Ev_iload 2 dX7_settle_67 rfl ?_
  refine Ev_iconst dX7_settle_69 rfl (ev_Rc rfl) ?_
  refine Ev_iadd dX7_settle_70 ?_
  obtain ⟨h0, h⟩ := h
  refine Ev_iald yX_9 h0 dX7_settle_71 ?_
  refine Ev_aload_n 4 dX7_settle_72 rfl rfl ?_
  refine Ev_get (i := 0) cl_X2 hk1.1 (Nat.le_of_ble_eq_true rfl) rfl wd_338 dX7_settle_73 ?_
  refine Ev_aload_n 3 dX7_settle_76 rfl rfl ?_
  refine Ev_getR (i := 0) cl_X7 yX_144 (Nat.le_of_ble_eq_true rfl) rfl wd_552 dX7_settle_77 ?_
  refine Ev_get (i := 2) cl_X10 yX_1 (Nat.le_of_ble_eq_true rfl) rfl wd_248 dX7_settle_80 ?_
  refine Ev_isub dX7_settle_83 ?_
  refine Ev_callV (As := [ev_i (s1 k1 13), ev_i (s 9 (Int.toNat (ev_add (ev_mul a2 7) 1))), ev_i (s1 9 (Int.toNat (ev_add (ev_mul a2 7) 5))), ev_i (ev_sub (s1 k1 0) (s1 1 2))]) (b := 27) (st := [ev_i a2, ev_r (k1 + 11)]) (M' := M_X0_guarding) cm_X0_guarding wd_1129 wd_1130 wd_1131 yX_27 cl_X0 rfl dX7_settle_84 (Nat.le_refl _) rfl (Nat.le_of_ble_eq_true rfl) (Nat.le_of_ble_eq_true rfl) h (fun v u h hk => ?_)
  obtain ⟨r3, rfl⟩ := hk
  obtain ⟨s2, rfl⟩ : ∃ x, x = u := ⟨_, rfl⟩
  replace h := h r3 rfl
  obtain ⟨h0, h⟩ := h
  refine Ev_iast hk1.2.2.2.2.2.2.2.2.2.2.2 h0 dX7_settle_87 (Ev_nm (fun s4 es4 => ?_))
  replace h := h s4 es4
  refine Ev_aload_n 4 dX7_settle_88 rfl rfl ?_
  refine Ev_getR (i := 12) cl_X2 hk1.1 (Nat.le_of_ble_eq_true rfl) rfl wd_379 dX7_settle_89 ?_
  refine Ev_iload_n 5 dX7_settle_92 rfl rfl ?_
  obtain ⟨h0, h⟩ := h
  refine Ev_iald hk1.2.2.2.2.2.2.2.2.2.2.2 h0 dX7_settle_93 ?_
  refine Ev_iconst dX7_settle_94 rfl (ev_Rc rfl) ?_
  refine Ev_icmp_eq (tgt := 108) dX7_settle_95 rfl (fun c => ?_) (fun c => ?_)
  · replace h := h.1 c
    refine Ev_iload_n 6 dX7_settle_108 rfl rfl ?_
    refine Ev_if_ne (tgt := 130) dX7_settle_109 rfl (fun c => ?_) (fun c => ?_)
    · replace h := h.1 c
      refine Ev_aload_n 4 dX7_settle_130 rfl rfl ?_
      refine Ev_getR (i := 10) cl_X2 hk1.1 (Nat.le_of_ble_eq_true rfl) rfl wd_372 dX7_settle_131 ?_
      refine Ev_iload_n 5 dX7_settle_134 rfl rfl ?_
      refine Ev_iconst dX7_settle_135 rfl (ev_Rc rfl) ?_
      obtain ⟨h0, h⟩ := h
      refine Ev_iast hk1.2.2.2.2.2.2.2.2.2.1 h0 dX7_settle_136 (Ev_nm (fun s5 es5 => ?_))
      replace h := h s5 es5
      refine Ev_goto (tgt := 147) dX7_settle_137 rfl ?_
      exact Ev_vret rfl dX7_settle_147 h
    · replace h := h.2 c
      refine Ev_iload 0 dX7_settle_112 rfl ?_
      refine Ev_bipushC dX7_settle_114 rfl ?_
      refine Ev_icmp_ge (tgt := 130) dX7_settle_116 rfl (fun c => ?_) (fun c => ?_)
      · replace h := h.1 c
        refine Ev_aload_n 4 dX7_settle_130 rfl rfl ?_
        refine Ev_getR (i := 10) cl_X2 hk1.1 (Nat.le_of_ble_eq_true rfl) rfl wd_372 dX7_settle_131 ?_
        refine Ev_iload_n 5 dX7_settle_134 rfl rfl ?_
        refine Ev_iconst dX7_settle_135 rfl (ev_Rc rfl) ?_
        obtain ⟨h0, h⟩ := h
        refine Ev_iast hk1.2.2.2.2.2.2.2.2.2.1 h0 dX7_settle_136 (Ev_nm (fun s6 es6 => ?_))
        replace h := h s6 es6
        refine Ev_goto (tgt := 147) dX7_settle_137 rfl ?_
        exact Ev_vret rfl dX7_settle_147 h
      · replace h := h.2 c
        refine Ev_aload_n 4 dX7_settle_119 rfl rfl ?_
        refine Ev_bipushC dX7_settle_120 rfl ?_
        refine Ev_callV (As := [ev_i 100]) (b := k1) (st := []) (M' := M_X2_draw) cm_X2_draw wd_1134 wd_1135 wd_1136 hk1.1 cl_X2 rfl dX7_settle_122 (Nat.le_refl _) rfl (Nat.le_of_ble_eq_true rfl) (Nat.le_of_ble_eq_true rfl) h (fun v u h hk => ?_)
        obtain ⟨r8, rfl⟩ := hk
        obtain ⟨s7, rfl⟩ : ∃ x, x = u := ⟨_, rfl⟩
        replace h := h r8 rfl
        refine Ev_iload 0 dX7_settle_125 rfl ?_
        refine Ev_icmp_ge (tgt := 140) dX7_settle_127 rfl (fun c => ?_) (fun c => ?_)
        · replace h := h.1 c
          refine Ev_aload_n 4 dX7_settle_140 rfl rfl ?_
          refine Ev_getR (i := 10) cl_X2 hk1.1 (Nat.le_of_ble_eq_true rfl) rfl wd_372 dX7_settle_141 ?_
          refine Ev_iload_n 5 dX7_settle_144 rfl rfl ?_
          refine Ev_iconst dX7_settle_145 rfl (ev_Rc rfl) ?_
          obtain ⟨h0, h⟩ := h
          refine Ev_iast hk1.2.2.2.2.2.2.2.2.2.1 h0 dX7_settle_146 (Ev_nm (fun s9 es9 => ?_))
          replace h := h s9 es9
          exact Ev_vret rfl dX7_settle_147 h
        · replace h := h.2 c
          refine Ev_aload_n 4 dX7_settle_130 rfl rfl ?_
          refine Ev_getR (i := 10) cl_X2 hk1.1 (Nat.le_of_ble_eq_true rfl) rfl wd_372 dX7_settle_131 ?_
          refine Ev_iload_n 5 dX7_settle_134 rfl rfl ?_
          refine Ev_iconst dX7_settle_135 rfl (ev_Rc rfl) ?_
          obtain ⟨h0, h⟩ := h
          refine Ev_iast hk1.2.2.2.2.2.2.2.2.2.1 h0 dX7_settle_136 (Ev_nm (fun s10 es10 => ?_))
          replace h := h s10 es10
          refine Ev_goto (tgt := 147) dX7_settle_137 rfl ?_
          exact Ev_vret rfl dX7_settle_147 h
  · replace h := h.2 c
    refine Ev_aload_n 4 dX7_settle_98 rfl rfl ?_
    refine Ev_getR (i := 10) cl_X2 hk1.1 (Nat.le_of_ble_eq_true rfl) rfl wd_372 dX7_settle_99 ?_
    refine Ev_iload_n 5 dX7_settle_102 rfl rfl ?_
    refine Ev_iconst dX7_settle_103 rfl (ev_Rc rfl) ?_
    obtain ⟨h0, h⟩ := h
    refine Ev_iast hk1.2.2.2.2.2.2.2.2.2.1 h0 dX7_settle_104 (Ev_nm (fun s11 es11 => ?_))
    replace h := h s11 es11
    refine Ev_goto (tgt := 147) dX7_settle_105 rfl ?_
    exact Ev_vret rfl dX7_settle_147 h
