section
/-! the past: rows with an array of courses -/
theorem wd_433 : Cond.fieldLink "AngelTown$Past" 11 "AngelTown$Past" "kept" "[LAngelTown$Course;" ∈ lw_tbl := tb_2 (List.mem_of_getElem? (i := 19) (by decide +kernel))
theorem wd_434 : Cond.fieldLink "AngelTown$Past" 18 "AngelTown$Past" "next" "I" ∈ lw_tbl := tb_2 (List.mem_of_getElem? (i := 20) (by decide +kernel))
theorem wd_435 : Cond.fieldLink "AngelTown$Past" 26 "AngelTown$Past" "size" "I" ∈ lw_tbl := tb_2 (List.mem_of_getElem? (i := 21) (by decide +kernel))
theorem wd_1058 : Cond.methodLink "AngelTown$Past" 22 ⟨"AngelTown$Course", "copyFrom", "(LAngelTown$Course;)V"⟩ ∈ lw_tbl := tb_4 (List.mem_of_getElem? (i := 164) (by decide +kernel))
theorem wd_1063 : Cond.methodLink "AngelTown$Past" 29 ⟨"java/lang/Math", "min", "(II)I"⟩ ∈ lw_tbl := tb_4 (List.mem_of_getElem? (i := 169) (by decide +kernel))
theorem is_X2_past {n : Nat} (h : n < 6) : is_X2 (31 + 12 * n) := by
  rcases (show n = 0 ∨ n = 1 ∨ n = 2 ∨ n = 3 ∨ n = 4 ∨ n = 5 by omega) with h | h | h | h | h | h <;> subst h
  · exact is_X2_31
  · exact is_X2_43
  · exact is_X2_55
  · exact is_X2_67
  · exact is_X2_79
  · exact is_X2_91
theorem past_at {x : Int} (h : 0 ≤ x ∧ x < (6 : Nat)) : ∃ k, is_X2 k ∧ k = 31 + 12 * Int.toNat x ∧ ([31, 43, 55, 67, 79, 91] : List Nat)[x.toNat]? = some k := by
  obtain ⟨n, rfl⟩ := Int.eq_ofNat_of_zero_le h.1
  have hn : n < 6 := by omega
  refine ⟨31 + 12 * n, is_X2_past hn, by rw [Int.toNat_natCast], ?_⟩
  rw [Int.toNat_natCast]
  rcases (show n = 0 ∨ n = 1 ∨ n = 2 ∨ n = 3 ∨ n = 4 ∨ n = 5 by omega) with h | h | h | h | h | h <;> subst h <;> rfl
theorem wp_X5_keep_0 {d : Nat} {k1 : Nat} (hk1 : is_X2 k1) {s : ev_S} {Q : Option ev_V → ev_S → Prop}
    (h : (((s 29 1) < 0 → Q none s) ∧ (0 ≤ (s 29 1) → ((6 ≤ (s 29 1) → Q none s) ∧ ((s 29 1) < 6 → ((0 ≤ (s 29 1) ∧ (s 29 1) < (6 : Nat)) ∧ ∀ k91, is_X2 k91 → k91 = 31 + 12 * Int.toNat (s 29 1) → (Ev layX M_X2_copyFrom d 0 [(0, ev_r k91), (1, ev_r k1)] [] s (fun _ s2 => (((ev_add (s2 29 1) 1) ≠ 6 → (∀ s3, ev_up s2 29 1 (ev_add (s2 29 1) 1) = s3 → (∀ s4, ev_up s3 29 2 (min (ev_add (s3 29 2) 1) 6) = s4 → Q none s4))) ∧ ((ev_add (s2 29 1) 1) = 6 → (∀ s5, ev_up s2 29 1 0 = s5 → (∀ s6, ev_up s5 29 2 (min (ev_add (s5 29 2) 1) 6) = s6 → Q none s6)))))))))))) :
    Ev layX M_X5_keep (d + 1) 0 [(0, ev_r 29), (1, ev_r k1)] [] s Q := by
  refine Ev_aload_n 0 dX5_keep_0 rfl rfl ?_
  refine Ev_get (i := 1) cl_X5 yX_29 (Nat.le_of_ble_eq_true rfl) rfl wd_434 dX5_keep_1 ?_
  refine Ev_if_lt (tgt := 28) dX5_keep_4 rfl (fun c => ?_) (fun c => ?_)
  · replace h := h.1 c
    refine Ev_null dX5_keep_28 ?_
    refine Ev_astore_nN (l' := [(2, ev_n), (0, ev_r 29), (1, ev_r k1)]) dX5_keep_29 rfl (Nat.le_of_ble_eq_true rfl) rfl ?_
    refine Ev_aload_nN 0 dX5_keep_30 rfl rfl ?_
    refine Ev_ifnonnullN dX5_keep_31 ?_
    exact Ev_vret rfl dX5_keep_34 h
  · replace h := h.2 c
    refine Ev_aload_n 0 dX5_keep_7 rfl rfl ?_
    refine Ev_get (i := 1) cl_X5 yX_29 (Nat.le_of_ble_eq_true rfl) rfl wd_434 dX5_keep_8 ?_
    refine Ev_bipushC dX5_keep_11 rfl ?_
    refine Ev_icmp_ge (tgt := 28) dX5_keep_13 rfl (fun c => ?_) (fun c => ?_)
    · replace h := h.1 c
      refine Ev_null dX5_keep_28 ?_
      refine Ev_astore_nN (l' := [(2, ev_n), (0, ev_r 29), (1, ev_r k1)]) dX5_keep_29 rfl (Nat.le_of_ble_eq_true rfl) rfl ?_
      refine Ev_aload_nN 0 dX5_keep_30 rfl rfl ?_
      refine Ev_ifnonnullN dX5_keep_31 ?_
      exact Ev_vret rfl dX5_keep_34 h
    · replace h := h.2 c
      refine Ev_aload_n 0 dX5_keep_16 rfl rfl ?_
      refine Ev_getR (i := 0) cl_X5 yX_29 (Nat.le_of_ble_eq_true rfl) rfl wd_433 dX5_keep_17 ?_
      refine Ev_aload_n 0 dX5_keep_20 rfl rfl ?_
      refine Ev_get (i := 1) cl_X5 yX_29 (Nat.le_of_ble_eq_true rfl) rfl wd_434 dX5_keep_21 ?_
      obtain ⟨h0, h⟩ := h
      obtain ⟨k91, hk91, ek91, jk91⟩ := past_at h0
      refine Ev_aald yX_30 h0 jk91 dX5_keep_24 ?_
      replace h := h k91 hk91 ek91
      refine Ev_goto (tgt := 29) dX5_keep_25 rfl ?_
      refine Ev_astore_n (l' := [(2, ev_r k91), (0, ev_r 29), (1, ev_r k1)]) dX5_keep_29 rfl (Nat.le_of_ble_eq_true rfl) rfl ?_
      refine Ev_aload_n 0 dX5_keep_30 rfl rfl ?_
      refine Ev_ifnonnull (tgt := 35) dX5_keep_31 rfl ?_
      refine Ev_aload_n 0 dX5_keep_35 rfl rfl ?_
      refine Ev_aload_n 2 dX5_keep_36 rfl rfl ?_
      refine Ev_callV (As := [ev_r k1]) (b := k91) (st := []) (M' := M_X2_copyFrom) cm_X2_copyFrom wd_1058 wd_1059 wd_1060 hk91.1 cl_X2 rfl dX5_keep_37 (Nat.le_refl _) rfl (Nat.le_of_ble_eq_true rfl) (Nat.le_of_ble_eq_true rfl) h (fun v u h hk => ?_)
      cases hk
      obtain ⟨s2, rfl⟩ : ∃ x, x = u := ⟨_, rfl⟩
      refine Ev_aload_n 1 dX5_keep_40 rfl rfl ?_
      refine Ev_aload_n 1 dX5_keep_41 rfl rfl ?_
      refine Ev_get (i := 1) cl_X5 yX_29 (Nat.le_of_ble_eq_true rfl) rfl wd_434 dX5_keep_42 ?_
      refine Ev_iconst dX5_keep_45 rfl (ev_Rc rfl) ?_
      refine Ev_iadd dX5_keep_46 ?_
      refine Ev_bipushC dX5_keep_47 rfl ?_
      refine Ev_icmp_ne (tgt := 56) dX5_keep_49 rfl (fun c => ?_) (fun c => ?_)
      · replace h := h.1 c
        refine Ev_aload_n 1 dX5_keep_56 rfl rfl ?_
        refine Ev_get (i := 1) cl_X5 yX_29 (Nat.le_of_ble_eq_true rfl) rfl wd_434 dX5_keep_57 ?_
        refine Ev_iconst dX5_keep_60 rfl (ev_Rc rfl) ?_
        refine Ev_iadd dX5_keep_61 ?_
        refine Ev_put (i := 1) (ty := .int) cl_X5 yX_29 (Nat.le_of_ble_eq_true rfl) rfl rfl (by decide +kernel) rfl rfl wd_434 dX5_keep_62 (Ev_nm (fun s3 es3 => ?_))
        replace h := h s3 es3
        refine Ev_aload_n 1 dX5_keep_65 rfl rfl ?_
        refine Ev_aload_n 1 dX5_keep_66 rfl rfl ?_
        refine Ev_get (i := 2) cl_X5 yX_29 (Nat.le_of_ble_eq_true rfl) rfl wd_435 dX5_keep_67 ?_
        refine Ev_iconst dX5_keep_70 rfl (ev_Rc rfl) ?_
        refine Ev_iadd dX5_keep_71 ?_
        refine Ev_bipushC dX5_keep_72 rfl ?_
        refine Ev_mmin wd_1063 dX5_keep_74 (Nat.le_of_ble_eq_true rfl) ?_
        refine Ev_put (i := 2) (ty := .int) cl_X5 yX_29 (Nat.le_of_ble_eq_true rfl) rfl rfl (by decide +kernel) rfl rfl wd_435 dX5_keep_77 (Ev_nm (fun s4 es4 => ?_))
        replace h := h s4 es4
        exact Ev_vret rfl dX5_keep_80 h
      · replace h := h.2 c
        refine Ev_iconst dX5_keep_52 rfl (ev_Rc rfl) ?_
        refine Ev_goto (tgt := 62) dX5_keep_53 rfl ?_
        refine Ev_put (i := 1) (ty := .int) cl_X5 yX_29 (Nat.le_of_ble_eq_true rfl) rfl rfl (by decide +kernel) rfl rfl wd_434 dX5_keep_62 (Ev_nm (fun s5 es5 => ?_))
        replace h := h s5 es5
        refine Ev_aload_n 1 dX5_keep_65 rfl rfl ?_
        refine Ev_aload_n 1 dX5_keep_66 rfl rfl ?_
        refine Ev_get (i := 2) cl_X5 yX_29 (Nat.le_of_ble_eq_true rfl) rfl wd_435 dX5_keep_67 ?_
        refine Ev_iconst dX5_keep_70 rfl (ev_Rc rfl) ?_
        refine Ev_iadd dX5_keep_71 ?_
        refine Ev_bipushC dX5_keep_72 rfl ?_
        refine Ev_mmin wd_1063 dX5_keep_74 (Nat.le_of_ble_eq_true rfl) ?_
        refine Ev_put (i := 2) (ty := .int) cl_X5 yX_29 (Nat.le_of_ble_eq_true rfl) rfl rfl (by decide +kernel) rfl rfl wd_435 dX5_keep_77 (Ev_nm (fun s6 es6 => ?_))
        replace h := h s6 es6
        exact Ev_vret rfl dX5_keep_80 h
theorem wp_X5_goBack_0 {d : Nat} {k1 : Nat} (hk1 : is_X2 k1) {s : ev_S} {Q : Option ev_V → ev_S → Prop}
    (h : ((0 < (s 29 2) → (((s 29 1) ≠ 0 → (∀ s1, ev_up s 29 1 (ev_sub (s 29 1) 1) = s1 → (∀ s2, ev_up s1 29 2 (ev_sub (s1 29 2) 1) = s2 → (((s2 29 1) < 0 → Q (some (ev_i 1)) s2) ∧ (0 ≤ (s2 29 1) → ((6 ≤ (s2 29 1) → Q (some (ev_i 1)) s2) ∧ ((s2 29 1) < 6 → ((0 ≤ (s2 29 1) ∧ (s2 29 1) < (6 : Nat)) ∧ ∀ k93, is_X2 k93 → k93 = 31 + 12 * Int.toNat (s2 29 1) → (Ev layX M_X2_copyFrom d 0 [(0, ev_r k1), (1, ev_r k93)] [] s2 (fun _ s4 => Q (some (ev_i 1)) s4)))))))))) ∧ ((s 29 1) = 0 → (∀ s5, ev_up s 29 1 5 = s5 → (∀ s6, ev_up s5 29 2 (ev_sub (s5 29 2) 1) = s6 → (((s6 29 1) < 0 → Q (some (ev_i 1)) s6) ∧ (0 ≤ (s6 29 1) → ((6 ≤ (s6 29 1) → Q (some (ev_i 1)) s6) ∧ ((s6 29 1) < 6 → ((0 ≤ (s6 29 1) ∧ (s6 29 1) < (6 : Nat)) ∧ ∀ k97, is_X2 k97 → k97 = 31 + 12 * Int.toNat (s6 29 1) → (Ev layX M_X2_copyFrom d 0 [(0, ev_r k1), (1, ev_r k97)] [] s6 (fun _ s8 => Q (some (ev_i 1)) s8)))))))))))) ∧ ((s 29 2) ≤ 0 → Q (some (ev_i 0)) s))) :
    Ev layX M_X5_goBack (d + 1) 0 [(0, ev_r 29), (1, ev_r k1)] [] s Q := by
  refine Ev_aload_n 0 dX5_goBack_0 rfl rfl ?_
  refine Ev_get (i := 2) cl_X5 yX_29 (Nat.le_of_ble_eq_true rfl) rfl wd_435 dX5_goBack_1 ?_
  refine Ev_if_gt (tgt := 9) dX5_goBack_4 rfl (fun c => ?_) (fun c => ?_)
  · replace h := h.1 c
    refine Ev_aload_n 0 dX5_goBack_9 rfl rfl ?_
    refine Ev_aload_n 0 dX5_goBack_10 rfl rfl ?_
    refine Ev_get (i := 1) cl_X5 yX_29 (Nat.le_of_ble_eq_true rfl) rfl wd_434 dX5_goBack_11 ?_
    refine Ev_if_ne (tgt := 21) dX5_goBack_14 rfl (fun c => ?_) (fun c => ?_)
    · replace h := h.1 c
      refine Ev_aload_n 0 dX5_goBack_21 rfl rfl ?_
      refine Ev_get (i := 1) cl_X5 yX_29 (Nat.le_of_ble_eq_true rfl) rfl wd_434 dX5_goBack_22 ?_
      refine Ev_iconst dX5_goBack_25 rfl (ev_Rc rfl) ?_
      refine Ev_isub dX5_goBack_26 ?_
      refine Ev_put (i := 1) (ty := .int) cl_X5 yX_29 (Nat.le_of_ble_eq_true rfl) rfl rfl (by decide +kernel) rfl rfl wd_434 dX5_goBack_27 (Ev_nm (fun s1 es1 => ?_))
      replace h := h s1 es1
      refine Ev_aload_n 0 dX5_goBack_30 rfl rfl ?_
      refine Ev_dup dX5_goBack_31 rfl ?_
      refine Ev_get (i := 2) cl_X5 yX_29 (Nat.le_of_ble_eq_true rfl) rfl wd_435 dX5_goBack_32 ?_
      refine Ev_iconst dX5_goBack_35 rfl (ev_Rc rfl) ?_
      refine Ev_isub dX5_goBack_36 ?_
      refine Ev_put (i := 2) (ty := .int) cl_X5 yX_29 (Nat.le_of_ble_eq_true rfl) rfl rfl (by decide +kernel) rfl rfl wd_435 dX5_goBack_37 (Ev_nm (fun s2 es2 => ?_))
      replace h := h s2 es2
      refine Ev_aload_n 0 dX5_goBack_40 rfl rfl ?_
      refine Ev_get (i := 1) cl_X5 yX_29 (Nat.le_of_ble_eq_true rfl) rfl wd_434 dX5_goBack_41 ?_
      refine Ev_if_lt (tgt := 68) dX5_goBack_44 rfl (fun c => ?_) (fun c => ?_)
      · replace h := h.1 c
        refine Ev_null dX5_goBack_68 ?_
        refine Ev_astore_nN (l' := [(2, ev_n), (0, ev_r 29), (1, ev_r k1)]) dX5_goBack_69 rfl (Nat.le_of_ble_eq_true rfl) rfl ?_
        refine Ev_aload_nN 0 dX5_goBack_70 rfl rfl ?_
        refine Ev_ifnullN (tgt := 79) dX5_goBack_71 rfl ?_
        refine Ev_iconst dX5_goBack_79 rfl (ev_Rc rfl) ?_
        exact Ev_iret rfl dX5_goBack_80 (ev_nb (by decide)) h
      · replace h := h.2 c
        refine Ev_aload_n 0 dX5_goBack_47 rfl rfl ?_
        refine Ev_get (i := 1) cl_X5 yX_29 (Nat.le_of_ble_eq_true rfl) rfl wd_434 dX5_goBack_48 ?_
        refine Ev_bipushC dX5_goBack_51 rfl ?_
        refine Ev_icmp_ge (tgt := 68) dX5_goBack_53 rfl (fun c => ?_) (fun c => ?_)
        · replace h := h.1 c
          refine Ev_null dX5_goBack_68 ?_
          refine Ev_astore_nN (l' := [(2, ev_n), (0, ev_r 29), (1, ev_r k1)]) dX5_goBack_69 rfl (Nat.le_of_ble_eq_true rfl) rfl ?_
          refine Ev_aload_nN 0 dX5_goBack_70 rfl rfl ?_
          refine Ev_ifnullN (tgt := 79) dX5_goBack_71 rfl ?_
          refine Ev_iconst dX5_goBack_79 rfl (ev_Rc rfl) ?_
          exact Ev_iret rfl dX5_goBack_80 (ev_nb (by decide)) h
        · replace h := h.2 c
          refine Ev_aload_n 0 dX5_goBack_56 rfl rfl ?_
          refine Ev_getR (i := 0) cl_X5 yX_29 (Nat.le_of_ble_eq_true rfl) rfl wd_433 dX5_goBack_57 ?_
          refine Ev_aload_n 0 dX5_goBack_60 rfl rfl ?_
          refine Ev_get (i := 1) cl_X5 yX_29 (Nat.le_of_ble_eq_true rfl) rfl wd_434 dX5_goBack_61 ?_
          obtain ⟨h0, h⟩ := h
          obtain ⟨k93, hk93, ek93, jk93⟩ := past_at h0
          refine Ev_aald yX_30 h0 jk93 dX5_goBack_64 ?_
          replace h := h k93 hk93 ek93
          refine Ev_goto (tgt := 69) dX5_goBack_65 rfl ?_
          refine Ev_astore_n (l' := [(2, ev_r k93), (0, ev_r 29), (1, ev_r k1)]) dX5_goBack_69 rfl (Nat.le_of_ble_eq_true rfl) rfl ?_
          refine Ev_aload_n 0 dX5_goBack_70 rfl rfl ?_
          refine Ev_ifnull dX5_goBack_71 ?_
          refine Ev_aload_n 2 dX5_goBack_74 rfl rfl ?_
          refine Ev_aload_n 0 dX5_goBack_75 rfl rfl ?_
          refine Ev_callV (As := [ev_r k93]) (b := k1) (st := []) (M' := M_X2_copyFrom) cm_X2_copyFrom wd_1058 wd_1059 wd_1060 hk1.1 cl_X2 rfl dX5_goBack_76 (Nat.le_refl _) rfl (Nat.le_of_ble_eq_true rfl) (Nat.le_of_ble_eq_true rfl) h (fun v u h hk => ?_)
          cases hk
          obtain ⟨s4, rfl⟩ : ∃ x, x = u := ⟨_, rfl⟩
          refine Ev_iconst dX5_goBack_79 rfl (ev_Rc rfl) ?_
          exact Ev_iret rfl dX5_goBack_80 (ev_nb (by decide)) h
    · replace h := h.2 c
      refine Ev_iconst dX5_goBack_17 rfl (ev_Rc rfl) ?_
      refine Ev_goto (tgt := 27) dX5_goBack_18 rfl ?_
      refine Ev_put (i := 1) (ty := .int) cl_X5 yX_29 (Nat.le_of_ble_eq_true rfl) rfl rfl (by decide +kernel) rfl rfl wd_434 dX5_goBack_27 (Ev_nm (fun s5 es5 => ?_))
      replace h := h s5 es5
      refine Ev_aload_n 0 dX5_goBack_30 rfl rfl ?_
      refine Ev_dup dX5_goBack_31 rfl ?_
      refine Ev_get (i := 2) cl_X5 yX_29 (Nat.le_of_ble_eq_true rfl) rfl wd_435 dX5_goBack_32 ?_
      refine Ev_iconst dX5_goBack_35 rfl (ev_Rc rfl) ?_
      refine Ev_isub dX5_goBack_36 ?_
      refine Ev_put (i := 2) (ty := .int) cl_X5 yX_29 (Nat.le_of_ble_eq_true rfl) rfl rfl (by decide +kernel) rfl rfl wd_435 dX5_goBack_37 (Ev_nm (fun s6 es6 => ?_))
      replace h := h s6 es6
      refine Ev_aload_n 0 dX5_goBack_40 rfl rfl ?_
      refine Ev_get (i := 1) cl_X5 yX_29 (Nat.le_of_ble_eq_true rfl) rfl wd_434 dX5_goBack_41 ?_
      refine Ev_if_lt (tgt := 68) dX5_goBack_44 rfl (fun c => ?_) (fun c => ?_)
      · replace h := h.1 c
        refine Ev_null dX5_goBack_68 ?_
        refine Ev_astore_nN (l' := [(2, ev_n), (0, ev_r 29), (1, ev_r k1)]) dX5_goBack_69 rfl (Nat.le_of_ble_eq_true rfl) rfl ?_
        refine Ev_aload_nN 0 dX5_goBack_70 rfl rfl ?_
        refine Ev_ifnullN (tgt := 79) dX5_goBack_71 rfl ?_
        refine Ev_iconst dX5_goBack_79 rfl (ev_Rc rfl) ?_
        exact Ev_iret rfl dX5_goBack_80 (ev_nb (by decide)) h
      · replace h := h.2 c
        refine Ev_aload_n 0 dX5_goBack_47 rfl rfl ?_
        refine Ev_get (i := 1) cl_X5 yX_29 (Nat.le_of_ble_eq_true rfl) rfl wd_434 dX5_goBack_48 ?_
        refine Ev_bipushC dX5_goBack_51 rfl ?_
        refine Ev_icmp_ge (tgt := 68) dX5_goBack_53 rfl (fun c => ?_) (fun c => ?_)
        · replace h := h.1 c
          refine Ev_null dX5_goBack_68 ?_
          refine Ev_astore_nN (l' := [(2, ev_n), (0, ev_r 29), (1, ev_r k1)]) dX5_goBack_69 rfl (Nat.le_of_ble_eq_true rfl) rfl ?_
          refine Ev_aload_nN 0 dX5_goBack_70 rfl rfl ?_
          refine Ev_ifnullN (tgt := 79) dX5_goBack_71 rfl ?_
          refine Ev_iconst dX5_goBack_79 rfl (ev_Rc rfl) ?_
          exact Ev_iret rfl dX5_goBack_80 (ev_nb (by decide)) h
        · replace h := h.2 c
          refine Ev_aload_n 0 dX5_goBack_56 rfl rfl ?_
          refine Ev_getR (i := 0) cl_X5 yX_29 (Nat.le_of_ble_eq_true rfl) rfl wd_433 dX5_goBack_57 ?_
          refine Ev_aload_n 0 dX5_goBack_60 rfl rfl ?_
          refine Ev_get (i := 1) cl_X5 yX_29 (Nat.le_of_ble_eq_true rfl) rfl wd_434 dX5_goBack_61 ?_
          obtain ⟨h0, h⟩ := h
          obtain ⟨k97, hk97, ek97, jk97⟩ := past_at h0
          refine Ev_aald yX_30 h0 jk97 dX5_goBack_64 ?_
          replace h := h k97 hk97 ek97
          refine Ev_goto (tgt := 69) dX5_goBack_65 rfl ?_
          refine Ev_astore_n (l' := [(2, ev_r k97), (0, ev_r 29), (1, ev_r k1)]) dX5_goBack_69 rfl (Nat.le_of_ble_eq_true rfl) rfl ?_
          refine Ev_aload_n 0 dX5_goBack_70 rfl rfl ?_
          refine Ev_ifnull dX5_goBack_71 ?_
          refine Ev_aload_n 2 dX5_goBack_74 rfl rfl ?_
          refine Ev_aload_n 0 dX5_goBack_75 rfl rfl ?_
          refine Ev_callV (As := [ev_r k97]) (b := k1) (st := []) (M' := M_X2_copyFrom) cm_X2_copyFrom wd_1058 wd_1059 wd_1060 hk1.1 cl_X2 rfl dX5_goBack_76 (Nat.le_refl _) rfl (Nat.le_of_ble_eq_true rfl) (Nat.le_of_ble_eq_true rfl) h (fun v u h hk => ?_)
          cases hk
          obtain ⟨s8, rfl⟩ : ∃ x, x = u := ⟨_, rfl⟩
          refine Ev_iconst dX5_goBack_79 rfl (ev_Rc rfl) ?_
          exact Ev_iret rfl dX5_goBack_80 (ev_nb (by decide)) h
  · replace h := h.2 c
    refine Ev_iconst dX5_goBack_7 rfl (ev_Rc rfl) ?_
    exact Ev_iret rfl dX5_goBack_8 (ev_nb (by decide)) h
end
