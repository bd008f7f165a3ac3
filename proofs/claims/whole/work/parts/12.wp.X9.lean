theorem dX9_append_0 : decode cX9_append 0 = .ok (.bipush 24, 2) := by decide +kernel
theorem dX9_append_2 : decode cX9_append 2 = .ok (.istore_n 2, 1) := by decide +kernel
theorem dX9_append_3 : decode cX9_append 3 = .ok (.iload_n 2, 1) := by decide +kernel
theorem dX9_append_4 : decode cX9_append 4 = .ok (.ifCond .lt 42, 3) := by decide +kernel
theorem dX9_append_7 : decode cX9_append 7 = .ok (.aload_n 0, 1) := by decide +kernel
theorem dX9_append_8 : decode cX9_append 8 = .ok (.getfield 25, 3) := by decide +kernel
theorem dX9_append_11 : decode cX9_append 11 = .ok (.sipush 400, 3) := by decide +kernel
theorem dX9_append_14 : decode cX9_append 14 = .ok (.if_icmp .ge 32, 3) := by decide +kernel
theorem dX9_append_17 : decode cX9_append 17 = .ok (.aload_n 0, 1) := by decide +kernel
theorem dX9_append_18 : decode cX9_append 18 = .ok (.getfield 11, 3) := by decide +kernel
theorem dX9_append_21 : decode cX9_append 21 = .ok (.aload_n 0, 1) := by decide +kernel
theorem dX9_append_22 : decode cX9_append 22 = .ok (.getfield 25, 3) := by decide +kernel
theorem dX9_append_25 : decode cX9_append 25 = .ok (.iload_n 1, 1) := by decide +kernel
theorem dX9_append_26 : decode cX9_append 26 = .ok (.iload_n 2, 1) := by decide +kernel
theorem dX9_append_27 : decode cX9_append 27 = .ok (.ishr, 1) := by decide +kernel
theorem dX9_append_28 : decode cX9_append 28 = .ok (.i2b, 1) := by decide +kernel
theorem dX9_append_29 : decode cX9_append 29 = .ok (.bastore, 1) := by decide +kernel
theorem dX9_append_30 : decode cX9_append 30 = .ok (.aload_n 0, 1) := by decide +kernel
theorem dX9_append_31 : decode cX9_append 31 = .ok (.dup, 1) := by decide +kernel
theorem dX9_append_32 : decode cX9_append 32 = .ok (.getfield 25, 3) := by decide +kernel
theorem dX9_append_35 : decode cX9_append 35 = .ok (.iconst 1, 1) := by decide +kernel
theorem dX9_append_36 : decode cX9_append 36 = .ok (.iadd, 1) := by decide +kernel
theorem dX9_append_37 : decode cX9_append 37 = .ok (.putfield 25, 3) := by decide +kernel
theorem dX9_append_40 : decode cX9_append 40 = .ok (.iinc 2 (-8), 3) := by decide +kernel
theorem dX9_append_43 : decode cX9_append 43 = .ok (.goto (-40), 3) := by decide +kernel
theorem dX9_append_46 : decode cX9_append 46 = .ok (.return_, 1) := by decide +kernel
theorem wp_X9_append_0 {d : Nat} {s : ev_S} {Q : Option ev_V → ev_S → Prop} {a1 : Int}
    (h : Ev layX M_X9_append d 3 [(0, ev_r 132), (1, ev_i a1), (2, ev_i 24)] [] s Q) :
    Ev layX M_X9_append d 0 [(0, ev_r 132), (1, ev_i a1)] [] s Q := by
  refine Ev_bipushC dX9_append_0 rfl ?_
  refine Ev_istore_n (l' := [(2, ev_i 24), (0, ev_r 132), (1, ev_i a1)]) dX9_append_2 rfl (Nat.le_of_ble_eq_true rfl) rfl ?_
  exact Ev_sub [1, 2, 0] rfl h
theorem wp_X9_append_3 {d : Nat} {s : ev_S} {Q : Option ev_V → ev_S → Prop} {a1 a2 : Int}
    (h : ((a2 < 0 → Q none s) ∧ (0 ≤ a2 → ((400 ≤ (s 132 1) → Q none s) ∧ ((s 132 1) < 400 → ((0 ≤ (s 132 1) ∧ (s 132 1) < (400 : Nat)) ∧ ∀ s1, ev_up s 133 (Int.toNat (s 132 1)) (ev_nar .byte (ev_i2b (ev_shr a1 a2))) = s1 → (∀ s2, ev_up s1 132 1 (ev_add (s1 132 1) 1) = s2 → Ev layX M_X9_append d 3 [(0, ev_r 132), (1, ev_i a1), (2, ev_i (ev_add a2 (-8)))] [] s2 Q))))))) :
    Ev layX M_X9_append d 3 [(0, ev_r 132), (1, ev_i a1), (2, ev_i a2)] [] s Q := by
  refine Ev_iload_n 2 dX9_append_3 rfl rfl ?_
  refine Ev_if_lt (tgt := 46) dX9_append_4 rfl (fun c => ?_) (fun c => ?_)
  · replace h := h.1 c
    exact Ev_vret rfl dX9_append_46 h
  · replace h := h.2 c
    refine Ev_aload_n 0 dX9_append_7 rfl rfl ?_
    refine Ev_get (i := 1) cl_X9 yX_132 (Nat.le_of_ble_eq_true rfl) rfl wd_477 dX9_append_8 ?_
    refine Ev_sipushC dX9_append_11 rfl ?_
    refine Ev_icmp_ge (tgt := 46) dX9_append_14 rfl (fun c => ?_) (fun c => ?_)
    · replace h := h.1 c
      exact Ev_vret rfl dX9_append_46 h
    · replace h := h.2 c
      refine Ev_aload_n 0 dX9_append_17 rfl rfl ?_
      refine Ev_getR (i := 0) cl_X9 yX_132 (Nat.le_of_ble_eq_true rfl) rfl wd_476 dX9_append_18 ?_
      refine Ev_aload_n 0 dX9_append_21 rfl rfl ?_
      refine Ev_get (i := 1) cl_X9 yX_132 (Nat.le_of_ble_eq_true rfl) rfl wd_477 dX9_append_22 ?_
      refine Ev_iload_n 1 dX9_append_25 rfl rfl ?_
      refine Ev_iload_n 2 dX9_append_26 rfl rfl ?_
      refine Ev_ishr dX9_append_27 ?_
      refine Ev_i2b dX9_append_28 ?_
      obtain ⟨h0, h⟩ := h
      refine Ev_bast yX_133 h0 dX9_append_29 (Ev_nm (fun s1 es1 => ?_))
      replace h := h s1 es1
      refine Ev_aload_n 0 dX9_append_30 rfl rfl ?_
      refine Ev_dup dX9_append_31 rfl ?_
      refine Ev_get (i := 1) cl_X9 yX_132 (Nat.le_of_ble_eq_true rfl) rfl wd_477 dX9_append_32 ?_
      refine Ev_iconst dX9_append_35 rfl (ev_Rc rfl) ?_
      refine Ev_iadd dX9_append_36 ?_
      refine Ev_put (i := 1) (ty := .int) cl_X9 yX_132 (Nat.le_of_ble_eq_true rfl) rfl rfl (by decide +kernel) rfl rfl wd_477 dX9_append_37 (Ev_nm (fun s2 es2 => ?_))
      replace h := h s2 es2
      refine Ev_iinc (j := 2) (l' := [(2, ev_i (ev_add a2 (-8))), (0, ev_r 132), (1, ev_i a1)]) dX9_append_40 rfl (Nat.le_of_ble_eq_true rfl) rfl ?_
      refine Ev_goto (tgt := 3) dX9_append_43 rfl ?_
      exact Ev_sub [1, 2, 0] rfl h
theorem dX9_scan_0 : decode cX9_scan 0 = .ok (.aload_n 0, 1) := by decide +kernel
theorem dX9_scan_1 : decode cX9_scan 1 = .ok (.iconst 0, 1) := by decide +kernel
theorem dX9_scan_2 : decode cX9_scan 2 = .ok (.putfield 29, 3) := by decide +kernel
theorem dX9_scan_5 : decode cX9_scan 5 = .ok (.iconst 0, 1) := by decide +kernel
theorem dX9_scan_6 : decode cX9_scan 6 = .ok (.istore_n 1, 1) := by decide +kernel
theorem dX9_scan_7 : decode cX9_scan 7 = .ok (.iconst 0, 1) := by decide +kernel
theorem dX9_scan_8 : decode cX9_scan 8 = .ok (.istore_n 2, 1) := by decide +kernel
theorem dX9_scan_9 : decode cX9_scan 9 = .ok (.iload_n 2, 1) := by decide +kernel
theorem dX9_scan_10 : decode cX9_scan 10 = .ok (.aload_n 0, 1) := by decide +kernel
theorem dX9_scan_11 : decode cX9_scan 11 = .ok (.getfield 25, 3) := by decide +kernel
theorem dX9_scan_14 : decode cX9_scan 14 = .ok (.if_icmp .ge 82, 3) := by decide +kernel
theorem dX9_scan_17 : decode cX9_scan 17 = .ok (.iload_n 2, 1) := by decide +kernel
theorem dX9_scan_18 : decode cX9_scan 18 = .ok (.iconst 1, 1) := by decide +kernel
theorem dX9_scan_19 : decode cX9_scan 19 = .ok (.iadd, 1) := by decide +kernel
theorem dX9_scan_20 : decode cX9_scan 20 = .ok (.istore_n 1, 1) := by decide +kernel
theorem dX9_scan_21 : decode cX9_scan 21 = .ok (.aload_n 0, 1) := by decide +kernel
theorem dX9_scan_22 : decode cX9_scan 22 = .ok (.getfield 11, 3) := by decide +kernel
theorem dX9_scan_25 : decode cX9_scan 25 = .ok (.iload_n 2, 1) := by decide +kernel
theorem dX9_scan_26 : decode cX9_scan 26 = .ok (.baload, 1) := by decide +kernel
theorem dX9_scan_27 : decode cX9_scan 27 = .ok (.bipush 32, 2) := by decide +kernel
theorem dX9_scan_29 : decode cX9_scan 29 = .ok (.if_icmp .eq 62, 3) := by decide +kernel
theorem dX9_scan_32 : decode cX9_scan 32 = .ok (.aload_n 0, 1) := by decide +kernel
theorem dX9_scan_33 : decode cX9_scan 33 = .ok (.getfield 11, 3) := by decide +kernel
theorem dX9_scan_36 : decode cX9_scan 36 = .ok (.iload_n 2, 1) := by decide +kernel
theorem dX9_scan_37 : decode cX9_scan 37 = .ok (.baload, 1) := by decide +kernel
theorem dX9_scan_38 : decode cX9_scan 38 = .ok (.bipush 10, 2) := by decide +kernel
theorem dX9_scan_40 : decode cX9_scan 40 = .ok (.if_icmp .eq 51, 3) := by decide +kernel
theorem dX9_scan_43 : decode cX9_scan 43 = .ok (.aload_n 0, 1) := by decide +kernel
theorem dX9_scan_44 : decode cX9_scan 44 = .ok (.getfield 11, 3) := by decide +kernel
theorem dX9_scan_47 : decode cX9_scan 47 = .ok (.iload_n 2, 1) := by decide +kernel
theorem dX9_scan_48 : decode cX9_scan 48 = .ok (.baload, 1) := by decide +kernel
theorem dX9_scan_49 : decode cX9_scan 49 = .ok (.invokestatic 32, 3) := by decide +kernel
theorem dX9_scan_52 : decode cX9_scan 52 = .ok (.istore_n 3, 1) := by decide +kernel
theorem dX9_scan_53 : decode cX9_scan 53 = .ok (.iload_n 3, 1) := by decide +kernel
theorem dX9_scan_54 : decode cX9_scan 54 = .ok (.ifCond .eq 30, 3) := by decide +kernel
theorem dX9_scan_57 : decode cX9_scan 57 = .ok (.iload_n 1, 1) := by decide +kernel
theorem dX9_scan_58 : decode cX9_scan 58 = .ok (.aload_n 0, 1) := by decide +kernel
theorem dX9_scan_59 : decode cX9_scan 59 = .ok (.getfield 25, 3) := by decide +kernel
theorem dX9_scan_62 : decode cX9_scan 62 = .ok (.if_icmp .ge 22, 3) := by decide +kernel
theorem dX9_scan_65 : decode cX9_scan 65 = .ok (.aload_n 0, 1) := by decide +kernel
theorem dX9_scan_66 : decode cX9_scan 66 = .ok (.getfield 11, 3) := by decide +kernel
theorem dX9_scan_69 : decode cX9_scan 69 = .ok (.iload_n 1, 1) := by decide +kernel
theorem dX9_scan_70 : decode cX9_scan 70 = .ok (.baload, 1) := by decide +kernel
theorem dX9_scan_71 : decode cX9_scan 71 = .ok (.invokestatic 32, 3) := by decide +kernel
theorem dX9_scan_74 : decode cX9_scan 74 = .ok (.iload_n 3, 1) := by decide +kernel
theorem dX9_scan_75 : decode cX9_scan 75 = .ok (.if_icmp .ne 9, 3) := by decide +kernel
theorem dX9_scan_78 : decode cX9_scan 78 = .ok (.iinc 1 1, 3) := by decide +kernel
theorem dX9_scan_81 : decode cX9_scan 81 = .ok (.goto (-28), 3) := by decide +kernel
theorem dX9_scan_84 : decode cX9_scan 84 = .ok (.aload_n 0, 1) := by decide +kernel
theorem dX9_scan_85 : decode cX9_scan 85 = .ok (.iload_n 3, 1) := by decide +kernel
theorem dX9_scan_86 : decode cX9_scan 86 = .ok (.iload_n 2, 1) := by decide +kernel
theorem dX9_scan_87 : decode cX9_scan 87 = .ok (.iload_n 1, 1) := by decide +kernel
theorem dX9_scan_88 : decode cX9_scan 88 = .ok (.invokevirtual 36, 3) := by decide +kernel
theorem dX9_scan_91 : decode cX9_scan 91 = .ok (.iload_n 1, 1) := by decide +kernel
theorem dX9_scan_92 : decode cX9_scan 92 = .ok (.istore_n 2, 1) := by decide +kernel
theorem dX9_scan_93 : decode cX9_scan 93 = .ok (.goto (-84), 3) := by decide +kernel
theorem dX9_scan_96 : decode cX9_scan 96 = .ok (.return_, 1) := by decide +kernel
theorem wp_X9_scan_0 {d : Nat} {s : ev_S} {Q : Option ev_V → ev_S → Prop}
    (h : (∀ s1, ev_up s 132 5 0 = s1 → Ev layX M_X9_scan (d + 1) 9 [(0, ev_r 132), (2, ev_i 0)] [] s1 Q)) :
    Ev layX M_X9_scan (d + 1) 0 [(0, ev_r 132)] [] s Q := by
  refine Ev_aload_n 0 dX9_scan_0 rfl rfl ?_
  refine Ev_iconst dX9_scan_1 rfl (ev_Rc rfl) ?_
  refine Ev_put (i := 5) (ty := .int) cl_X9 yX_132 (Nat.le_of_ble_eq_true rfl) rfl rfl (by decide +kernel) rfl rfl wd_486 dX9_scan_2 (Ev_nm (fun s1 es1 => ?_))
  replace h := h s1 es1
  refine Ev_iconst dX9_scan_5 rfl (ev_Rc rfl) ?_
  refine Ev_istore_n (l' := [(1, ev_i 0), (0, ev_r 132)]) dX9_scan_6 rfl (Nat.le_of_ble_eq_true rfl) rfl ?_
  refine Ev_iconst dX9_scan_7 rfl (ev_Rc rfl) ?_
  refine Ev_istore_n (l' := [(2, ev_i 0), (1, ev_i 0), (0, ev_r 132)]) dX9_scan_8 rfl (Nat.le_of_ble_eq_true rfl) rfl ?_
  exact Ev_sub [2, 0] rfl h
theorem wp_X9_scan_9 {d : Nat} {s : ev_S} {Q : Option ev_V → ev_S → Prop} {a2 : Int}
    (h : (((s 132 1) ≤ a2 → Q none s) ∧ (a2 < (s 132 1) → ((0 ≤ a2 ∧ a2 < (400 : Nat)) ∧ (((s 133 (Int.toNat a2)) = 32 → Ev layX M_X9_scan (d + 1) 9 [(0, ev_r 132), (2, ev_i (ev_add a2 1))] [] s Q) ∧ ((s 133 (Int.toNat a2)) ≠ 32 → ((0 ≤ a2 ∧ a2 < (400 : Nat)) ∧ (((s 133 (Int.toNat a2)) = 10 → Ev layX M_X9_scan (d + 1) 9 [(0, ev_r 132), (2, ev_i (ev_add a2 1))] [] s Q) ∧ ((s 133 (Int.toNat a2)) ≠ 10 → ((0 ≤ a2 ∧ a2 < (400 : Nat)) ∧ (Ev layX M_X9_sortOf d 0 [(0, ev_i (s 133 (Int.toNat a2)))] [] s (ev_pi (fun r2 s1 => Ev layX M_X9_scan (d + 1) 53 [(0, ev_r 132), (1, ev_i (ev_add a2 1)), (2, ev_i a2), (3, ev_i r2)] [] s1 Q))))))))))))) :
    Ev layX M_X9_scan (d + 1) 9 [(0, ev_r 132), (2, ev_i a2)] [] s Q := by
  refine Ev_iload_n 1 dX9_scan_9 rfl rfl ?_
  refine Ev_aload_n 0 dX9_scan_10 rfl rfl ?_
  refine Ev_get (i := 1) cl_X9 yX_132 (Nat.le_of_ble_eq_true rfl) rfl wd_477 dX9_scan_11 ?_
  refine Ev_icmp_ge (tgt := 96) dX9_scan_14 rfl (fun c => ?_) (fun c => ?_)
  · replace h := h.1 c
    exact Ev_vret rfl dX9_scan_96 h
  · replace h := h.2 c
    refine Ev_iload_n 1 dX9_scan_17 rfl rfl ?_
    refine Ev_iconst dX9_scan_18 rfl (ev_Rc rfl) ?_
    refine Ev_iadd dX9_scan_19 ?_
    refine Ev_istore_n (l' := [(1, ev_i (ev_add a2 1)), (0, ev_r 132), (2, ev_i a2)]) dX9_scan_20 rfl (Nat.le_of_ble_eq_true rfl) rfl ?_
    refine Ev_aload_n 1 dX9_scan_21 rfl rfl ?_
    refine Ev_getR (i := 0) cl_X9 yX_132 (Nat.le_of_ble_eq_true rfl) rfl wd_476 dX9_scan_22 ?_
    refine Ev_iload_n 2 dX9_scan_25 rfl rfl ?_
    obtain ⟨h0, h⟩ := h
    refine Ev_bald yX_133 h0 dX9_scan_26 ?_
    refine Ev_bipushC dX9_scan_27 rfl ?_
    refine Ev_icmp_eq (tgt := 91) dX9_scan_29 rfl (fun c => ?_) (fun c => ?_)
    · replace h := h.1 c
      refine Ev_iload_n 0 dX9_scan_91 rfl rfl ?_
      refine Ev_istore_n (l' := [(2, ev_i (ev_add a2 1)), (1, ev_i (ev_add a2 1)), (0, ev_r 132)]) dX9_scan_92 rfl (Nat.le_of_ble_eq_true rfl) rfl ?_
      refine Ev_goto (tgt := 9) dX9_scan_93 rfl ?_
      exact Ev_sub [2, 0] rfl h
    · replace h := h.2 c
      refine Ev_aload_n 1 dX9_scan_32 rfl rfl ?_
      refine Ev_getR (i := 0) cl_X9 yX_132 (Nat.le_of_ble_eq_true rfl) rfl wd_476 dX9_scan_33 ?_
      refine Ev_iload_n 2 dX9_scan_36 rfl rfl ?_
      obtain ⟨h0, h⟩ := h
      refine Ev_bald yX_133 h0 dX9_scan_37 ?_
      refine Ev_bipushC dX9_scan_38 rfl ?_
      refine Ev_icmp_eq (tgt := 91) dX9_scan_40 rfl (fun c => ?_) (fun c => ?_)
      · replace h := h.1 c
        refine Ev_iload_n 0 dX9_scan_91 rfl rfl ?_
        refine Ev_istore_n (l' := [(2, ev_i (ev_add a2 1)), (1, ev_i (ev_add a2 1)), (0, ev_r 132)]) dX9_scan_92 rfl (Nat.le_of_ble_eq_true rfl) rfl ?_
        refine Ev_goto (tgt := 9) dX9_scan_93 rfl ?_
        exact Ev_sub [2, 0] rfl h
      · replace h := h.2 c
        refine Ev_aload_n 1 dX9_scan_43 rfl rfl ?_
        refine Ev_getR (i := 0) cl_X9 yX_132 (Nat.le_of_ble_eq_true rfl) rfl wd_476 dX9_scan_44 ?_
        refine Ev_iload_n 2 dX9_scan_47 rfl rfl ?_
        obtain ⟨h0, h⟩ := h
        refine Ev_bald yX_133 h0 dX9_scan_48 ?_
        refine Ev_callS (As := [ev_i (s 133 (Int.toNat a2))]) (st := []) (M' := M_X9_sortOf) cm_X9_sortOf wd_799 wd_800 dX9_scan_49 (Nat.le_refl _) rfl (Nat.le_of_ble_eq_true rfl) (Nat.le_of_ble_eq_true rfl) h (fun v u h hk => ?_)
        obtain ⟨r2, rfl⟩ := hk
        obtain ⟨s1, rfl⟩ : ∃ x, x = u := ⟨_, rfl⟩
        replace h := h r2 rfl
        refine Ev_istore_n (l' := [(3, ev_i r2), (1, ev_i (ev_add a2 1)), (0, ev_r 132), (2, ev_i a2)]) dX9_scan_52 rfl (Nat.le_of_ble_eq_true rfl) rfl ?_
        exact Ev_sub [2, 1, 3, 0] rfl h
theorem wp_X9_scan_53 {d : Nat} {s : ev_S} {Q : Option ev_V → ev_S → Prop} {a1 a2 a3 : Int}
    (h : ((a3 = 0 → Ev layX M_X9_scan (d + 1) 84 [(0, ev_r 132), (1, ev_i a1), (2, ev_i a2), (3, ev_i a3)] [] s Q) ∧ (a3 ≠ 0 → (((s 132 1) ≤ a1 → Ev layX M_X9_scan (d + 1) 84 [(0, ev_r 132), (1, ev_i a1), (2, ev_i a2), (3, ev_i a3)] [] s Q) ∧ (a1 < (s 132 1) → ((0 ≤ a1 ∧ a1 < (400 : Nat)) ∧ (Ev layX M_X9_sortOf d 0 [(0, ev_i (s 133 (Int.toNat a1)))] [] s (ev_pi (fun r2 s1 => ((r2 ≠ a3 → Ev layX M_X9_scan (d + 1) 84 [(0, ev_r 132), (1, ev_i a1), (2, ev_i a2), (3, ev_i a3)] [] s1 Q) ∧ (r2 = a3 → Ev layX M_X9_scan (d + 1) 53 [(0, ev_r 132), (1, ev_i (ev_add a1 1)), (2, ev_i a2), (3, ev_i a3)] [] s1 Q))))))))))) :
    Ev layX M_X9_scan (d + 1) 53 [(0, ev_r 132), (1, ev_i a1), (2, ev_i a2), (3, ev_i a3)] [] s Q := by
  refine Ev_iload_n 3 dX9_scan_53 rfl rfl ?_
  refine Ev_if_eq (tgt := 84) dX9_scan_54 rfl (fun c => ?_) (fun c => ?_)
  · replace h := h.1 c
    exact Ev_sub [0, 1, 2, 3] rfl h
  · replace h := h.2 c
    refine Ev_iload_n 1 dX9_scan_57 rfl rfl ?_
    refine Ev_aload_n 0 dX9_scan_58 rfl rfl ?_
    refine Ev_get (i := 1) cl_X9 yX_132 (Nat.le_of_ble_eq_true rfl) rfl wd_477 dX9_scan_59 ?_
    refine Ev_icmp_ge (tgt := 84) dX9_scan_62 rfl (fun c => ?_) (fun c => ?_)
    · replace h := h.1 c
      exact Ev_sub [0, 1, 2, 3] rfl h
    · replace h := h.2 c
      refine Ev_aload_n 0 dX9_scan_65 rfl rfl ?_
      refine Ev_getR (i := 0) cl_X9 yX_132 (Nat.le_of_ble_eq_true rfl) rfl wd_476 dX9_scan_66 ?_
      refine Ev_iload_n 1 dX9_scan_69 rfl rfl ?_
      obtain ⟨h0, h⟩ := h
      refine Ev_bald yX_133 h0 dX9_scan_70 ?_
      refine Ev_callS (As := [ev_i (s 133 (Int.toNat a1))]) (st := []) (M' := M_X9_sortOf) cm_X9_sortOf wd_799 wd_800 dX9_scan_71 (Nat.le_refl _) rfl (Nat.le_of_ble_eq_true rfl) (Nat.le_of_ble_eq_true rfl) h (fun v u h hk => ?_)
      obtain ⟨r2, rfl⟩ := hk
      obtain ⟨s1, rfl⟩ : ∃ x, x = u := ⟨_, rfl⟩
      replace h := h r2 rfl
      refine Ev_iload_n 3 dX9_scan_74 rfl rfl ?_
      refine Ev_icmp_ne (tgt := 84) dX9_scan_75 rfl (fun c => ?_) (fun c => ?_)
      · replace h := h.1 c
        exact Ev_sub [0, 1, 2, 3] rfl h
      · replace h := h.2 c
        refine Ev_iinc (j := 1) (l' := [(1, ev_i (ev_add a1 1)), (0, ev_r 132), (2, ev_i a2), (3, ev_i a3)]) dX9_scan_78 rfl (Nat.le_of_ble_eq_true rfl) rfl ?_
        refine Ev_goto (tgt := 53) dX9_scan_81 rfl ?_
        exact Ev_sub [1, 0, 2, 3] rfl h
theorem wp_X9_scan_84 {d : Nat} {s : ev_S} {Q : Option ev_V → ev_S → Prop} {a1 a2 a3 : Int}
    (h : (Ev layX M_X9_note d 0 [(0, ev_r 132), (1, ev_i a3), (2, ev_i a2), (3, ev_i a1)] [] s (fun _ s1 => Ev layX M_X9_scan (d + 1) 9 [(0, ev_r 132), (2, ev_i a1)] [] s1 Q))) :
    Ev layX M_X9_scan (d + 1) 84 [(0, ev_r 132), (1, ev_i a1), (2, ev_i a2), (3, ev_i a3)] [] s Q := by
  refine Ev_aload_n 0 dX9_scan_84 rfl rfl ?_
  refine Ev_iload_n 3 dX9_scan_85 rfl rfl ?_
  refine Ev_iload_n 2 dX9_scan_86 rfl rfl ?_
  refine Ev_iload_n 1 dX9_scan_87 rfl rfl ?_
  refine Ev_callV (As := [ev_i a3, ev_i a2, ev_i a1]) (b := 132) (st := []) (M' := M_X9_note) cm_X9_note wd_802 wd_804 wd_2 yX_132 cl_X9 rfl dX9_scan_88 (Nat.le_refl _) rfl (Nat.le_of_ble_eq_true rfl) (Nat.le_of_ble_eq_true rfl) h (fun v u h hk => ?_)
  cases hk
  obtain ⟨s1, rfl⟩ : ∃ x, x = u := ⟨_, rfl⟩
  refine Ev_iload_n 1 dX9_scan_91 rfl rfl ?_
  refine Ev_istore_n (l' := [(2, ev_i a1), (0, ev_r 132), (1, ev_i a1), (3, ev_i a3)]) dX9_scan_92 rfl (Nat.le_of_ble_eq_true rfl) rfl ?_
  refine Ev_goto (tgt := 9) dX9_scan_93 rfl ?_
  exact Ev_sub [1, 0] rfl h
theorem dX9_sortOf_0 : decode cX9_sortOf 0 = .ok (.iload_n 0, 1) := by decide +kernel
theorem dX9_sortOf_1 : decode cX9_sortOf 1 = .ok (.bipush 97, 2) := by decide +kernel
theorem dX9_sortOf_3 : decode cX9_sortOf 3 = .ok (.if_icmp .lt 9, 3) := by decide +kernel
theorem dX9_sortOf_6 : decode cX9_sortOf 6 = .ok (.iload_n 0, 1) := by decide +kernel
theorem dX9_sortOf_7 : decode cX9_sortOf 7 = .ok (.bipush 122, 2) := by decide +kernel
theorem dX9_sortOf_9 : decode cX9_sortOf 9 = .ok (.if_icmp .le 15, 3) := by decide +kernel
theorem dX9_sortOf_12 : decode cX9_sortOf 12 = .ok (.iload_n 0, 1) := by decide +kernel
theorem dX9_sortOf_13 : decode cX9_sortOf 13 = .ok (.bipush 65, 2) := by decide +kernel
theorem dX9_sortOf_15 : decode cX9_sortOf 15 = .ok (.if_icmp .lt 11, 3) := by decide +kernel
theorem dX9_sortOf_18 : decode cX9_sortOf 18 = .ok (.iload_n 0, 1) := by decide +kernel
theorem dX9_sortOf_19 : decode cX9_sortOf 19 = .ok (.bipush 90, 2) := by decide +kernel
theorem dX9_sortOf_21 : decode cX9_sortOf 21 = .ok (.if_icmp .gt 5, 3) := by decide +kernel
theorem dX9_sortOf_24 : decode cX9_sortOf 24 = .ok (.iconst 1, 1) := by decide +kernel
theorem dX9_sortOf_25 : decode cX9_sortOf 25 = .ok (.ireturn, 1) := by decide +kernel
theorem dX9_sortOf_26 : decode cX9_sortOf 26 = .ok (.iload_n 0, 1) := by decide +kernel
theorem dX9_sortOf_27 : decode cX9_sortOf 27 = .ok (.bipush 48, 2) := by decide +kernel
theorem dX9_sortOf_29 : decode cX9_sortOf 29 = .ok (.if_icmp .lt 13, 3) := by decide +kernel
theorem dX9_sortOf_32 : decode cX9_sortOf 32 = .ok (.iload_n 0, 1) := by decide +kernel
theorem dX9_sortOf_33 : decode cX9_sortOf 33 = .ok (.bipush 57, 2) := by decide +kernel
theorem dX9_sortOf_35 : decode cX9_sortOf 35 = .ok (.if_icmp .gt 7, 3) := by decide +kernel
theorem dX9_sortOf_38 : decode cX9_sortOf 38 = .ok (.iconst 2, 1) := by decide +kernel
theorem dX9_sortOf_39 : decode cX9_sortOf 39 = .ok (.goto 4, 3) := by decide +kernel
theorem dX9_sortOf_42 : decode cX9_sortOf 42 = .ok (.iconst 0, 1) := by decide +kernel
theorem dX9_sortOf_43 : decode cX9_sortOf 43 = .ok (.ireturn, 1) := by decide +kernel
theorem wp_X9_sortOf_0 {d : Nat} {s : ev_S} {Q : Option ev_V → ev_S → Prop} {a0 : Int}
    (h : ((a0 < 97 → ((a0 < 65 → Ev layX M_X9_sortOf d 26 [(0, ev_i a0)] [] s Q) ∧ (65 ≤ a0 → ((90 < a0 → Ev layX M_X9_sortOf d 26 [(0, ev_i a0)] [] s Q) ∧ (a0 ≤ 90 → Q (some (ev_i 1)) s))))) ∧ (97 ≤ a0 → ((a0 ≤ 122 → Q (some (ev_i 1)) s) ∧ (122 < a0 → ((a0 < 65 → Ev layX M_X9_sortOf d 26 [(0, ev_i a0)] [] s Q) ∧ (65 ≤ a0 → ((90 < a0 → Ev layX M_X9_sortOf d 26 [(0, ev_i a0)] [] s Q) ∧ (a0 ≤ 90 → Q (some (ev_i 1)) s))))))))) :
    Ev layX M_X9_sortOf d 0 [(0, ev_i a0)] [] s Q := by
  refine Ev_iload_n 0 dX9_sortOf_0 rfl rfl ?_
  refine Ev_bipushC dX9_sortOf_1 rfl ?_
  refine Ev_icmp_lt (tgt := 12) dX9_sortOf_3 rfl (fun c => ?_) (fun c => ?_)
  · replace h := h.1 c
    refine Ev_iload_n 0 dX9_sortOf_12 rfl rfl ?_
    refine Ev_bipushC dX9_sortOf_13 rfl ?_
    refine Ev_icmp_lt (tgt := 26) dX9_sortOf_15 rfl (fun c => ?_) (fun c => ?_)
    · replace h := h.1 c
      exact Ev_sub [0] rfl h
    · replace h := h.2 c
      refine Ev_iload_n 0 dX9_sortOf_18 rfl rfl ?_
      refine Ev_bipushC dX9_sortOf_19 rfl ?_
      refine Ev_icmp_gt (tgt := 26) dX9_sortOf_21 rfl (fun c => ?_) (fun c => ?_)
      · replace h := h.1 c
        exact Ev_sub [0] rfl h
      · replace h := h.2 c
        refine Ev_iconst dX9_sortOf_24 rfl (ev_Rc rfl) ?_
        exact Ev_iret rfl dX9_sortOf_25 rfl h
  · replace h := h.2 c
    refine Ev_iload_n 0 dX9_sortOf_6 rfl rfl ?_
    refine Ev_bipushC dX9_sortOf_7 rfl ?_
    refine Ev_icmp_le (tgt := 24) dX9_sortOf_9 rfl (fun c => ?_) (fun c => ?_)
    · replace h := h.1 c
      refine Ev_iconst dX9_sortOf_24 rfl (ev_Rc rfl) ?_
      exact Ev_iret rfl dX9_sortOf_25 rfl h
    · replace h := h.2 c
      refine Ev_iload_n 0 dX9_sortOf_12 rfl rfl ?_
      refine Ev_bipushC dX9_sortOf_13 rfl ?_
      refine Ev_icmp_lt (tgt := 26) dX9_sortOf_15 rfl (fun c => ?_) (fun c => ?_)
      · replace h := h.1 c
        exact Ev_sub [0] rfl h
      · replace h := h.2 c
        refine Ev_iload_n 0 dX9_sortOf_18 rfl rfl ?_
        refine Ev_bipushC dX9_sortOf_19 rfl ?_
        refine Ev_icmp_gt (tgt := 26) dX9_sortOf_21 rfl (fun c => ?_) (fun c => ?_)
        · replace h := h.1 c
          exact Ev_sub [0] rfl h
        · replace h := h.2 c
          refine Ev_iconst dX9_sortOf_24 rfl (ev_Rc rfl) ?_
          exact Ev_iret rfl dX9_sortOf_25 rfl h
theorem wp_X9_sortOf_26 {d : Nat} {s : ev_S} {Q : Option ev_V → ev_S → Prop} {a0 : Int}
    (h : ((a0 < 48 → Q (some (ev_i 0)) s) ∧ (48 ≤ a0 → ((57 < a0 → Q (some (ev_i 0)) s) ∧ (a0 ≤ 57 → Q (some (ev_i 2)) s))))) :
    Ev layX M_X9_sortOf d 26 [(0, ev_i a0)] [] s Q := by
  refine Ev_iload_n 0 dX9_sortOf_26 rfl rfl ?_
  refine Ev_bipushC dX9_sortOf_27 rfl ?_
  refine Ev_icmp_lt (tgt := 42) dX9_sortOf_29 rfl (fun c => ?_) (fun c => ?_)
  · replace h := h.1 c
    refine Ev_iconst dX9_sortOf_42 rfl (ev_Rc rfl) ?_
    exact Ev_iret rfl dX9_sortOf_43 rfl h
  · replace h := h.2 c
    refine Ev_iload_n 0 dX9_sortOf_32 rfl rfl ?_
    refine Ev_bipushC dX9_sortOf_33 rfl ?_
    refine Ev_icmp_gt (tgt := 42) dX9_sortOf_35 rfl (fun c => ?_) (fun c => ?_)
    · replace h := h.1 c
      refine Ev_iconst dX9_sortOf_42 rfl (ev_Rc rfl) ?_
      exact Ev_iret rfl dX9_sortOf_43 rfl h
    · replace h := h.2 c
      refine Ev_iconst dX9_sortOf_38 rfl (ev_Rc rfl) ?_
      refine Ev_goto (tgt := 43) dX9_sortOf_39 rfl ?_
      exact Ev_iret rfl dX9_sortOf_43 rfl h
theorem dX9_note_0 : decode cX9_note 0 = .ok (.bipush 52, 2) := by decide +kernel
theorem dX9_note_2 : decode cX9_note 2 = .ok (.istore 4, 2) := by decide +kernel
theorem dX9_note_4 : decode cX9_note 4 = .ok (.iconst 0, 1) := by decide +kernel
theorem dX9_note_5 : decode cX9_note 5 = .ok (.istore 5, 2) := by decide +kernel
theorem dX9_note_7 : decode cX9_note 7 = .ok (.iload_n 1, 1) := by decide +kernel
theorem dX9_note_8 : decode cX9_note 8 = .ok (.iconst 1, 1) := by decide +kernel
theorem dX9_note_9 : decode cX9_note 9 = .ok (.if_icmp .ne 14, 3) := by decide +kernel
theorem dX9_note_12 : decode cX9_note 12 = .ok (.aload_n 0, 1) := by decide +kernel
theorem dX9_note_13 : decode cX9_note 13 = .ok (.iload_n 2, 1) := by decide +kernel
theorem dX9_note_14 : decode cX9_note 14 = .ok (.iload_n 3, 1) := by decide +kernel
theorem dX9_note_15 : decode cX9_note 15 = .ok (.invokevirtual 40, 3) := by decide +kernel
theorem dX9_note_18 : decode cX9_note 18 = .ok (.istore 4, 2) := by decide +kernel
theorem dX9_note_20 : decode cX9_note 20 = .ok (.goto 94, 3) := by decide +kernel
theorem dX9_note_23 : decode cX9_note 23 = .ok (.iload_n 1, 1) := by decide +kernel
theorem dX9_note_24 : decode cX9_note 24 = .ok (.iconst 2, 1) := by decide +kernel
theorem dX9_note_25 : decode cX9_note 25 = .ok (.if_icmp .ne 50, 3) := by decide +kernel
theorem dX9_note_28 : decode cX9_note 28 = .ok (.iload_n 3, 1) := by decide +kernel
theorem dX9_note_29 : decode cX9_note 29 = .ok (.iload_n 2, 1) := by decide +kernel
theorem dX9_note_30 : decode cX9_note 30 = .ok (.isub, 1) := by decide +kernel
theorem dX9_note_31 : decode cX9_note 31 = .ok (.iconst 4, 1) := by decide +kernel
theorem dX9_note_32 : decode cX9_note 32 = .ok (.if_icmp .gt 43, 3) := by decide +kernel
theorem dX9_note_35 : decode cX9_note 35 = .ok (.bipush 50, 2) := by decide +kernel
theorem dX9_note_37 : decode cX9_note 37 = .ok (.istore 4, 2) := by decide +kernel
theorem dX9_note_39 : decode cX9_note 39 = .ok (.iload_n 2, 1) := by decide +kernel
theorem dX9_note_40 : decode cX9_note 40 = .ok (.istore 6, 2) := by decide +kernel
theorem dX9_note_42 : decode cX9_note 42 = .ok (.iload 6, 2) := by decide +kernel
theorem dX9_note_44 : decode cX9_note 44 = .ok (.iload_n 3, 1) := by decide +kernel
theorem dX9_note_45 : decode cX9_note 45 = .ok (.if_icmp .ge 27, 3) := by decide +kernel
theorem dX9_note_48 : decode cX9_note 48 = .ok (.bipush 10, 2) := by decide +kernel
theorem dX9_note_50 : decode cX9_note 50 = .ok (.iload 5, 2) := by decide +kernel
theorem dX9_note_52 : decode cX9_note 52 = .ok (.imul, 1) := by decide +kernel
theorem dX9_note_53 : decode cX9_note 53 = .ok (.aload_n 0, 1) := by decide +kernel
theorem dX9_note_54 : decode cX9_note 54 = .ok (.getfield 11, 3) := by decide +kernel
theorem dX9_note_57 : decode cX9_note 57 = .ok (.iload 6, 2) := by decide +kernel
theorem dX9_note_59 : decode cX9_note 59 = .ok (.baload, 1) := by decide +kernel
theorem dX9_note_60 : decode cX9_note 60 = .ok (.iadd, 1) := by decide +kernel
theorem dX9_note_61 : decode cX9_note 61 = .ok (.bipush 48, 2) := by decide +kernel
theorem dX9_note_63 : decode cX9_note 63 = .ok (.isub, 1) := by decide +kernel
theorem dX9_note_64 : decode cX9_note 64 = .ok (.istore 5, 2) := by decide +kernel
theorem dX9_note_66 : decode cX9_note 66 = .ok (.iinc 6 1, 3) := by decide +kernel
theorem dX9_note_69 : decode cX9_note 69 = .ok (.goto (-27), 3) := by decide +kernel
theorem dX9_note_72 : decode cX9_note 72 = .ok (.goto 42, 3) := by decide +kernel
theorem dX9_note_75 : decode cX9_note 75 = .ok (.iload_n 1, 1) := by decide +kernel
theorem dX9_note_76 : decode cX9_note 76 = .ok (.ifCond .ne 38, 3) := by decide +kernel
theorem dX9_note_79 : decode cX9_note 79 = .ok (.aload_n 0, 1) := by decide +kernel
theorem dX9_note_80 : decode cX9_note 80 = .ok (.getfield 11, 3) := by decide +kernel
theorem dX9_note_83 : decode cX9_note 83 = .ok (.iload_n 2, 1) := by decide +kernel
theorem dX9_note_84 : decode cX9_note 84 = .ok (.baload, 1) := by decide +kernel
theorem dX9_note_85 : decode cX9_note 85 = .ok (.ifCond .le 29, 3) := by decide +kernel
theorem dX9_note_88 : decode cX9_note 88 = .ok (.ldc 44, 2) := by decide +kernel
theorem dX9_note_90 : decode cX9_note 90 = .ok (.aload_n 0, 1) := by decide +kernel
theorem dX9_note_91 : decode cX9_note 91 = .ok (.getfield 11, 3) := by decide +kernel
theorem dX9_note_94 : decode cX9_note 94 = .ok (.iload_n 2, 1) := by decide +kernel
theorem dX9_note_95 : decode cX9_note 95 = .ok (.baload, 1) := by decide +kernel
theorem dX9_note_96 : decode cX9_note 96 = .ok (.i2c, 1) := by decide +kernel
theorem dX9_note_97 : decode cX9_note 97 = .ok (.invokevirtual 46, 3) := by decide +kernel
theorem dX9_note_100 : decode cX9_note 100 = .ok (.ifCond .lt 14, 3) := by decide +kernel
theorem dX9_note_103 : decode cX9_note 103 = .ok (.bipush 100, 2) := by decide +kernel
theorem dX9_note_105 : decode cX9_note 105 = .ok (.aload_n 0, 1) := by decide +kernel
theorem dX9_note_106 : decode cX9_note 106 = .ok (.getfield 11, 3) := by decide +kernel
theorem dX9_note_109 : decode cX9_note 109 = .ok (.iload_n 2, 1) := by decide +kernel
theorem dX9_note_110 : decode cX9_note 110 = .ok (.baload, 1) := by decide +kernel
theorem dX9_note_111 : decode cX9_note 111 = .ok (.iadd, 1) := by decide +kernel
theorem dX9_note_112 : decode cX9_note 112 = .ok (.istore 4, 2) := by decide +kernel
theorem dX9_note_114 : decode cX9_note 114 = .ok (.aload_n 0, 1) := by decide +kernel
theorem dX9_note_115 : decode cX9_note 115 = .ok (.getfield 29, 3) := by decide +kernel
theorem dX9_note_118 : decode cX9_note 118 = .ok (.sipush 400, 3) := by decide +kernel
theorem dX9_note_121 : decode cX9_note 121 = .ok (.if_icmp .ge 45, 3) := by decide +kernel
theorem dX9_note_124 : decode cX9_note 124 = .ok (.aload_n 0, 1) := by decide +kernel
theorem dX9_note_125 : decode cX9_note 125 = .ok (.getfield 15, 3) := by decide +kernel
theorem dX9_note_128 : decode cX9_note 128 = .ok (.aload_n 0, 1) := by decide +kernel
theorem dX9_note_129 : decode cX9_note 129 = .ok (.getfield 29, 3) := by decide +kernel
theorem dX9_note_132 : decode cX9_note 132 = .ok (.iload 4, 2) := by decide +kernel
theorem dX9_note_134 : decode cX9_note 134 = .ok (.iastore, 1) := by decide +kernel
theorem dX9_note_135 : decode cX9_note 135 = .ok (.aload_n 0, 1) := by decide +kernel
theorem dX9_note_136 : decode cX9_note 136 = .ok (.getfield 19, 3) := by decide +kernel
theorem dX9_note_139 : decode cX9_note 139 = .ok (.aload_n 0, 1) := by decide +kernel
theorem dX9_note_140 : decode cX9_note 140 = .ok (.getfield 29, 3) := by decide +kernel
theorem dX9_note_143 : decode cX9_note 143 = .ok (.iload 5, 2) := by decide +kernel
theorem dX9_note_145 : decode cX9_note 145 = .ok (.iastore, 1) := by decide +kernel
theorem dX9_note_146 : decode cX9_note 146 = .ok (.aload_n 0, 1) := by decide +kernel
theorem dX9_note_147 : decode cX9_note 147 = .ok (.getfield 22, 3) := by decide +kernel
theorem dX9_note_150 : decode cX9_note 150 = .ok (.aload_n 0, 1) := by decide +kernel
theorem dX9_note_151 : decode cX9_note 151 = .ok (.getfield 29, 3) := by decide +kernel
theorem dX9_note_154 : decode cX9_note 154 = .ok (.iload_n 2, 1) := by decide +kernel
theorem dX9_note_155 : decode cX9_note 155 = .ok (.iastore, 1) := by decide +kernel
theorem dX9_note_156 : decode cX9_note 156 = .ok (.aload_n 0, 1) := by decide +kernel
theorem dX9_note_157 : decode cX9_note 157 = .ok (.dup, 1) := by decide +kernel
theorem dX9_note_158 : decode cX9_note 158 = .ok (.getfield 29, 3) := by decide +kernel
theorem dX9_note_161 : decode cX9_note 161 = .ok (.iconst 1, 1) := by decide +kernel
theorem dX9_note_162 : decode cX9_note 162 = .ok (.iadd, 1) := by decide +kernel
theorem dX9_note_163 : decode cX9_note 163 = .ok (.putfield 29, 3) := by decide +kernel
theorem dX9_note_166 : decode cX9_note 166 = .ok (.return_, 1) := by decide +kernel
theorem dX9_wordOf_0 : decode cX9_wordOf 0 = .ok (.iconst 0, 1) := by decide +kernel
theorem dX9_wordOf_1 : decode cX9_wordOf 1 = .ok (.istore_n 3, 1) := by decide +kernel
theorem dX9_wordOf_2 : decode cX9_wordOf 2 = .ok (.iconst 0, 1) := by decide +kernel
theorem dX9_wordOf_3 : decode cX9_wordOf 3 = .ok (.istore 4, 2) := by decide +kernel
theorem dX9_wordOf_5 : decode cX9_wordOf 5 = .ok (.iconst 0, 1) := by decide +kernel
theorem dX9_wordOf_6 : decode cX9_wordOf 6 = .ok (.istore 5, 2) := by decide +kernel
theorem dX9_wordOf_8 : decode cX9_wordOf 8 = .ok (.iload 5, 2) := by decide +kernel
theorem dX9_wordOf_10 : decode cX9_wordOf 10 = .ok (.ldc 51, 2) := by decide +kernel
theorem dX9_wordOf_12 : decode cX9_wordOf 12 = .ok (.invokevirtual 53, 3) := by decide +kernel
theorem dX9_wordOf_15 : decode cX9_wordOf 15 = .ok (.if_icmp .gt 64, 3) := by decide +kernel
theorem dX9_wordOf_18 : decode cX9_wordOf 18 = .ok (.iload 5, 2) := by decide +kernel
theorem dX9_wordOf_20 : decode cX9_wordOf 20 = .ok (.ldc 51, 2) := by decide +kernel
theorem dX9_wordOf_22 : decode cX9_wordOf 22 = .ok (.invokevirtual 53, 3) := by decide +kernel
theorem dX9_wordOf_25 : decode cX9_wordOf 25 = .ok (.if_icmp .eq 15, 3) := by decide +kernel
theorem dX9_wordOf_28 : decode cX9_wordOf 28 = .ok (.ldc 51, 2) := by decide +kernel
theorem dX9_wordOf_30 : decode cX9_wordOf 30 = .ok (.iload 5, 2) := by decide +kernel
theorem dX9_wordOf_32 : decode cX9_wordOf 32 = .ok (.invokevirtual 56, 3) := by decide +kernel
theorem dX9_wordOf_35 : decode cX9_wordOf 35 = .ok (.bipush 32, 2) := by decide +kernel
theorem dX9_wordOf_37 : decode cX9_wordOf 37 = .ok (.if_icmp .ne 36, 3) := by decide +kernel
theorem dX9_wordOf_40 : decode cX9_wordOf 40 = .ok (.iload 5, 2) := by decide +kernel
theorem dX9_wordOf_42 : decode cX9_wordOf 42 = .ok (.iload 4, 2) := by decide +kernel
theorem dX9_wordOf_44 : decode cX9_wordOf 44 = .ok (.isub, 1) := by decide +kernel
theorem dX9_wordOf_45 : decode cX9_wordOf 45 = .ok (.iload_n 2, 1) := by decide +kernel
theorem dX9_wordOf_46 : decode cX9_wordOf 46 = .ok (.iload_n 1, 1) := by decide +kernel
theorem dX9_wordOf_47 : decode cX9_wordOf 47 = .ok (.isub, 1) := by decide +kernel
theorem dX9_wordOf_48 : decode cX9_wordOf 48 = .ok (.if_icmp .ne 16, 3) := by decide +kernel
theorem dX9_wordOf_51 : decode cX9_wordOf 51 = .ok (.aload_n 0, 1) := by decide +kernel
theorem dX9_wordOf_52 : decode cX9_wordOf 52 = .ok (.iload_n 1, 1) := by decide +kernel
theorem dX9_wordOf_53 : decode cX9_wordOf 53 = .ok (.iload_n 2, 1) := by decide +kernel
theorem dX9_wordOf_54 : decode cX9_wordOf 54 = .ok (.iload 4, 2) := by decide +kernel
theorem dX9_wordOf_56 : decode cX9_wordOf 56 = .ok (.invokevirtual 60, 3) := by decide +kernel
theorem dX9_wordOf_59 : decode cX9_wordOf 59 = .ok (.ifCond .eq 5, 3) := by decide +kernel
theorem dX9_wordOf_62 : decode cX9_wordOf 62 = .ok (.iload_n 3, 1) := by decide +kernel
theorem dX9_wordOf_63 : decode cX9_wordOf 63 = .ok (.ireturn, 1) := by decide +kernel
theorem dX9_wordOf_64 : decode cX9_wordOf 64 = .ok (.iinc 3 1, 3) := by decide +kernel
theorem dX9_wordOf_67 : decode cX9_wordOf 67 = .ok (.iload 5, 2) := by decide +kernel
theorem dX9_wordOf_69 : decode cX9_wordOf 69 = .ok (.iconst 1, 1) := by decide +kernel
theorem dX9_wordOf_70 : decode cX9_wordOf 70 = .ok (.iadd, 1) := by decide +kernel
theorem dX9_wordOf_71 : decode cX9_wordOf 71 = .ok (.istore 4, 2) := by decide +kernel
theorem dX9_wordOf_73 : decode cX9_wordOf 73 = .ok (.iinc 5 1, 3) := by decide +kernel
theorem dX9_wordOf_76 : decode cX9_wordOf 76 = .ok (.goto (-68), 3) := by decide +kernel
theorem dX9_wordOf_79 : decode cX9_wordOf 79 = .ok (.bipush 52, 2) := by decide +kernel
theorem dX9_wordOf_81 : decode cX9_wordOf 81 = .ok (.ireturn, 1) := by decide +kernel
theorem dX9_isSame_0 : decode cX9_isSame 0 = .ok (.iload_n 1, 1) := by decide +kernel
theorem dX9_isSame_1 : decode cX9_isSame 1 = .ok (.istore 4, 2) := by decide +kernel
theorem dX9_isSame_3 : decode cX9_isSame 3 = .ok (.iload 4, 2) := by decide +kernel
theorem dX9_isSame_5 : decode cX9_isSame 5 = .ok (.iload_n 2, 1) := by decide +kernel
theorem dX9_isSame_6 : decode cX9_isSame 6 = .ok (.if_icmp .ge 46, 3) := by decide +kernel
theorem dX9_isSame_9 : decode cX9_isSame 9 = .ok (.iload_n 3, 1) := by decide +kernel
theorem dX9_isSame_10 : decode cX9_isSame 10 = .ok (.iload 4, 2) := by decide +kernel
theorem dX9_isSame_12 : decode cX9_isSame 12 = .ok (.iadd, 1) := by decide +kernel
theorem dX9_isSame_13 : decode cX9_isSame 13 = .ok (.iload_n 1, 1) := by decide +kernel
theorem dX9_isSame_14 : decode cX9_isSame 14 = .ok (.isub, 1) := by decide +kernel
theorem dX9_isSame_15 : decode cX9_isSame 15 = .ok (.istore 5, 2) := by decide +kernel
theorem dX9_isSame_17 : decode cX9_isSame 17 = .ok (.iload 5, 2) := by decide +kernel
theorem dX9_isSame_19 : decode cX9_isSame 19 = .ok (.ldc 51, 2) := by decide +kernel
theorem dX9_isSame_21 : decode cX9_isSame 21 = .ok (.invokevirtual 53, 3) := by decide +kernel
theorem dX9_isSame_24 : decode cX9_isSame 24 = .ok (.if_icmp .ge 20, 3) := by decide +kernel
theorem dX9_isSame_27 : decode cX9_isSame 27 = .ok (.aload_n 0, 1) := by decide +kernel
theorem dX9_isSame_28 : decode cX9_isSame 28 = .ok (.getfield 11, 3) := by decide +kernel
theorem dX9_isSame_31 : decode cX9_isSame 31 = .ok (.iload 4, 2) := by decide +kernel
theorem dX9_isSame_33 : decode cX9_isSame 33 = .ok (.baload, 1) := by decide +kernel
theorem dX9_isSame_34 : decode cX9_isSame 34 = .ok (.ldc 51, 2) := by decide +kernel
theorem dX9_isSame_36 : decode cX9_isSame 36 = .ok (.iload 5, 2) := by decide +kernel
theorem dX9_isSame_38 : decode cX9_isSame 38 = .ok (.invokevirtual 56, 3) := by decide +kernel
theorem dX9_isSame_41 : decode cX9_isSame 41 = .ok (.if_icmp .eq 5, 3) := by decide +kernel
theorem dX9_isSame_44 : decode cX9_isSame 44 = .ok (.iconst 0, 1) := by decide +kernel
theorem dX9_isSame_45 : decode cX9_isSame 45 = .ok (.ireturn, 1) := by decide +kernel
theorem dX9_isSame_46 : decode cX9_isSame 46 = .ok (.iinc 4 1, 3) := by decide +kernel
theorem dX9_isSame_49 : decode cX9_isSame 49 = .ok (.goto (-46), 3) := by decide +kernel
theorem dX9_isSame_52 : decode cX9_isSame 52 = .ok (.iconst 1, 1) := by decide +kernel
theorem dX9_isSame_53 : decode cX9_isSame 53 = .ok (.ireturn, 1) := by decide +kernel
