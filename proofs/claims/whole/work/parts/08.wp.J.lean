theorem dJ6_bitCount_0f7a4_0 : decode cJ6_bitCount_0f7a4 0 = .ok (.iload_n 0, 1) := by decide +kernel
theorem dJ6_bitCount_0f7a4_1 : decode cJ6_bitCount_0f7a4 1 = .ok (.iload_n 0, 1) := by decide +kernel
theorem dJ6_bitCount_0f7a4_2 : decode cJ6_bitCount_0f7a4 2 = .ok (.iconst 1, 1) := by decide +kernel
theorem dJ6_bitCount_0f7a4_3 : decode cJ6_bitCount_0f7a4 3 = .ok (.iushr, 1) := by decide +kernel
theorem dJ6_bitCount_0f7a4_4 : decode cJ6_bitCount_0f7a4 4 = .ok (.ldc_w 265, 3) := by decide +kernel
theorem dJ6_bitCount_0f7a4_7 : decode cJ6_bitCount_0f7a4 7 = .ok (.iand, 1) := by decide +kernel
theorem dJ6_bitCount_0f7a4_8 : decode cJ6_bitCount_0f7a4 8 = .ok (.isub, 1) := by decide +kernel
theorem dJ6_bitCount_0f7a4_9 : decode cJ6_bitCount_0f7a4 9 = .ok (.istore_n 0, 1) := by decide +kernel
theorem dJ6_bitCount_0f7a4_10 : decode cJ6_bitCount_0f7a4 10 = .ok (.iload_n 0, 1) := by decide +kernel
theorem dJ6_bitCount_0f7a4_11 : decode cJ6_bitCount_0f7a4 11 = .ok (.ldc_w 266, 3) := by decide +kernel
theorem dJ6_bitCount_0f7a4_14 : decode cJ6_bitCount_0f7a4 14 = .ok (.iand, 1) := by decide +kernel
theorem dJ6_bitCount_0f7a4_15 : decode cJ6_bitCount_0f7a4 15 = .ok (.iload_n 0, 1) := by decide +kernel
theorem dJ6_bitCount_0f7a4_16 : decode cJ6_bitCount_0f7a4 16 = .ok (.iconst 2, 1) := by decide +kernel
theorem dJ6_bitCount_0f7a4_17 : decode cJ6_bitCount_0f7a4 17 = .ok (.iushr, 1) := by decide +kernel
theorem dJ6_bitCount_0f7a4_18 : decode cJ6_bitCount_0f7a4 18 = .ok (.ldc_w 266, 3) := by decide +kernel
theorem dJ6_bitCount_0f7a4_21 : decode cJ6_bitCount_0f7a4 21 = .ok (.iand, 1) := by decide +kernel
theorem dJ6_bitCount_0f7a4_22 : decode cJ6_bitCount_0f7a4 22 = .ok (.iadd, 1) := by decide +kernel
theorem dJ6_bitCount_0f7a4_23 : decode cJ6_bitCount_0f7a4 23 = .ok (.istore_n 0, 1) := by decide +kernel
theorem dJ6_bitCount_0f7a4_24 : decode cJ6_bitCount_0f7a4 24 = .ok (.iload_n 0, 1) := by decide +kernel
theorem dJ6_bitCount_0f7a4_25 : decode cJ6_bitCount_0f7a4 25 = .ok (.iload_n 0, 1) := by decide +kernel
theorem dJ6_bitCount_0f7a4_26 : decode cJ6_bitCount_0f7a4 26 = .ok (.iconst 4, 1) := by decide +kernel
theorem dJ6_bitCount_0f7a4_27 : decode cJ6_bitCount_0f7a4 27 = .ok (.iushr, 1) := by decide +kernel
theorem dJ6_bitCount_0f7a4_28 : decode cJ6_bitCount_0f7a4 28 = .ok (.iadd, 1) := by decide +kernel
theorem dJ6_bitCount_0f7a4_29 : decode cJ6_bitCount_0f7a4 29 = .ok (.ldc_w 267, 3) := by decide +kernel
theorem dJ6_bitCount_0f7a4_32 : decode cJ6_bitCount_0f7a4 32 = .ok (.iand, 1) := by decide +kernel
theorem dJ6_bitCount_0f7a4_33 : decode cJ6_bitCount_0f7a4 33 = .ok (.istore_n 0, 1) := by decide +kernel
theorem dJ6_bitCount_0f7a4_34 : decode cJ6_bitCount_0f7a4 34 = .ok (.iload_n 0, 1) := by decide +kernel
theorem dJ6_bitCount_0f7a4_35 : decode cJ6_bitCount_0f7a4 35 = .ok (.iload_n 0, 1) := by decide +kernel
theorem dJ6_bitCount_0f7a4_36 : decode cJ6_bitCount_0f7a4 36 = .ok (.bipush 8, 2) := by decide +kernel
theorem dJ6_bitCount_0f7a4_38 : decode cJ6_bitCount_0f7a4 38 = .ok (.iushr, 1) := by decide +kernel
theorem dJ6_bitCount_0f7a4_39 : decode cJ6_bitCount_0f7a4 39 = .ok (.iadd, 1) := by decide +kernel
theorem dJ6_bitCount_0f7a4_40 : decode cJ6_bitCount_0f7a4 40 = .ok (.istore_n 0, 1) := by decide +kernel
theorem dJ6_bitCount_0f7a4_41 : decode cJ6_bitCount_0f7a4 41 = .ok (.iload_n 0, 1) := by decide +kernel
theorem dJ6_bitCount_0f7a4_42 : decode cJ6_bitCount_0f7a4 42 = .ok (.iload_n 0, 1) := by decide +kernel
theorem dJ6_bitCount_0f7a4_43 : decode cJ6_bitCount_0f7a4 43 = .ok (.bipush 16, 2) := by decide +kernel
theorem dJ6_bitCount_0f7a4_45 : decode cJ6_bitCount_0f7a4 45 = .ok (.iushr, 1) := by decide +kernel
theorem dJ6_bitCount_0f7a4_46 : decode cJ6_bitCount_0f7a4 46 = .ok (.iadd, 1) := by decide +kernel
theorem dJ6_bitCount_0f7a4_47 : decode cJ6_bitCount_0f7a4 47 = .ok (.istore_n 0, 1) := by decide +kernel
theorem dJ6_bitCount_0f7a4_48 : decode cJ6_bitCount_0f7a4 48 = .ok (.iload_n 0, 1) := by decide +kernel
theorem dJ6_bitCount_0f7a4_49 : decode cJ6_bitCount_0f7a4 49 = .ok (.bipush 63, 2) := by decide +kernel
theorem dJ6_bitCount_0f7a4_51 : decode cJ6_bitCount_0f7a4 51 = .ok (.iand, 1) := by decide +kernel
theorem dJ6_bitCount_0f7a4_52 : decode cJ6_bitCount_0f7a4 52 = .ok (.ireturn, 1) := by decide +kernel
theorem wp_J6_bitCount_0f7a4_0 {d : Nat} {s : ev_S} {Q : Option ev_V → ev_S → Prop} {a0 : Int}
    (h : Q (some (ev_i (ev_and (ev_add (ev_add (ev_and (ev_add (ev_add (ev_and (ev_sub a0 (ev_and (ev_ushr a0 1) 1431655765)) 858993459) (ev_and (ev_ushr (ev_sub a0 (ev_and (ev_ushr a0 1) 1431655765)) 2) 858993459)) (ev_ushr (ev_add (ev_and (ev_sub a0 (ev_and (ev_ushr a0 1) 1431655765)) 858993459) (ev_and (ev_ushr (ev_sub a0 (ev_and (ev_ushr a0 1) 1431655765)) 2) 858993459)) 4)) 252645135) (ev_ushr (ev_and (ev_add (ev_add (ev_and (ev_sub a0 (ev_and (ev_ushr a0 1) 1431655765)) 858993459) (ev_and (ev_ushr (ev_sub a0 (ev_and (ev_ushr a0 1) 1431655765)) 2) 858993459)) (ev_ushr (ev_add (ev_and (ev_sub a0 (ev_and (ev_ushr a0 1) 1431655765)) 858993459) (ev_and (ev_ushr (ev_sub a0 (ev_and (ev_ushr a0 1) 1431655765)) 2) 858993459)) 4)) 252645135) 8)) (ev_ushr (ev_add (ev_and (ev_add (ev_add (ev_and (ev_sub a0 (ev_and (ev_ushr a0 1) 1431655765)) 858993459) (ev_and (ev_ushr (ev_sub a0 (ev_and (ev_ushr a0 1) 1431655765)) 2) 858993459)) (ev_ushr (ev_add (ev_and (ev_sub a0 (ev_and (ev_ushr a0 1) 1431655765)) 858993459) (ev_and (ev_ushr (ev_sub a0 (ev_and (ev_ushr a0 1) 1431655765)) 2) 858993459)) 4)) 252645135) (ev_ushr (ev_and (ev_add (ev_add (ev_and (ev_sub a0 (ev_and (ev_ushr a0 1) 1431655765)) 858993459) (ev_and (ev_ushr (ev_sub a0 (ev_and (ev_ushr a0 1) 1431655765)) 2) 858993459)) (ev_ushr (ev_add (ev_and (ev_sub a0 (ev_and (ev_ushr a0 1) 1431655765)) 858993459) (ev_and (ev_ushr (ev_sub a0 (ev_and (ev_ushr a0 1) 1431655765)) 2) 858993459)) 4)) 252645135) 8)) 16)) 63))) s) :
    Ev layX M_J6_bitCount_0f7a4 d 0 [(0, ev_i a0)] [] s Q := by
  refine Ev_iload_n 0 dJ6_bitCount_0f7a4_0 rfl rfl ?_
  refine Ev_iload_n 0 dJ6_bitCount_0f7a4_1 rfl rfl ?_
  refine Ev_iconst dJ6_bitCount_0f7a4_2 rfl (ev_Rc rfl) ?_
  refine Ev_iushr dJ6_bitCount_0f7a4_3 ?_
  refine Ev_ldcw (z := 1431655765) wd_1346 dJ6_bitCount_0f7a4_4 rfl (ev_Rc rfl) ?_
  refine Ev_iand dJ6_bitCount_0f7a4_7 ?_
  refine Ev_isub dJ6_bitCount_0f7a4_8 ?_
  refine Ev_istore_n (l' := [(0, ev_i (ev_sub a0 (ev_and (ev_ushr a0 1) 1431655765)))]) dJ6_bitCount_0f7a4_9 rfl (Nat.le_of_ble_eq_true rfl) rfl ?_
  refine Ev_iload_n 0 dJ6_bitCount_0f7a4_10 rfl rfl ?_
  refine Ev_ldcw (z := 858993459) wd_1347 dJ6_bitCount_0f7a4_11 rfl (ev_Rc rfl) ?_
  refine Ev_iand dJ6_bitCount_0f7a4_14 ?_
  refine Ev_iload_n 0 dJ6_bitCount_0f7a4_15 rfl rfl ?_
  refine Ev_iconst dJ6_bitCount_0f7a4_16 rfl (ev_Rc rfl) ?_
  refine Ev_iushr dJ6_bitCount_0f7a4_17 ?_
  refine Ev_ldcw (z := 858993459) wd_1347 dJ6_bitCount_0f7a4_18 rfl (ev_Rc rfl) ?_
  refine Ev_iand dJ6_bitCount_0f7a4_21 ?_
  refine Ev_iadd dJ6_bitCount_0f7a4_22 ?_
  refine Ev_istore_n (l' := [(0, ev_i (ev_add (ev_and (ev_sub a0 (ev_and (ev_ushr a0 1) 1431655765)) 858993459) (ev_and (ev_ushr (ev_sub a0 (ev_and (ev_ushr a0 1) 1431655765)) 2) 858993459)))]) dJ6_bitCount_0f7a4_23 rfl (Nat.le_of_ble_eq_true rfl) rfl ?_
  refine Ev_iload_n 0 dJ6_bitCount_0f7a4_24 rfl rfl ?_
  refine Ev_iload_n 0 dJ6_bitCount_0f7a4_25 rfl rfl ?_
  refine Ev_iconst dJ6_bitCount_0f7a4_26 rfl (ev_Rc rfl) ?_
  refine Ev_iushr dJ6_bitCount_0f7a4_27 ?_
  refine Ev_iadd dJ6_bitCount_0f7a4_28 ?_
  refine Ev_ldcw (z := 252645135) wd_1348 dJ6_bitCount_0f7a4_29 rfl (ev_Rc rfl) ?_
  refine Ev_iand dJ6_bitCount_0f7a4_32 ?_
  refine Ev_istore_n (l' := [(0, ev_i (ev_and (ev_add (ev_add (ev_and (ev_sub a0 (ev_and (ev_ushr a0 1) 1431655765)) 858993459) (ev_and (ev_ushr (ev_sub a0 (ev_and (ev_ushr a0 1) 1431655765)) 2) 858993459)) (ev_ushr (ev_add (ev_and (ev_sub a0 (ev_and (ev_ushr a0 1) 1431655765)) 858993459) (ev_and (ev_ushr (ev_sub a0 (ev_and (ev_ushr a0 1) 1431655765)) 2) 858993459)) 4)) 252645135))]) dJ6_bitCount_0f7a4_33 rfl (Nat.le_of_ble_eq_true rfl) rfl ?_
  refine Ev_iload_n 0 dJ6_bitCount_0f7a4_34 rfl rfl ?_
  refine Ev_iload_n 0 dJ6_bitCount_0f7a4_35 rfl rfl ?_
  refine Ev_bipushC dJ6_bitCount_0f7a4_36 rfl ?_
  refine Ev_iushr dJ6_bitCount_0f7a4_38 ?_
  refine Ev_iadd dJ6_bitCount_0f7a4_39 ?_
  refine Ev_istore_n (l' := [(0, ev_i (ev_add (ev_and (ev_add (ev_add (ev_and (ev_sub a0 (ev_and (ev_ushr a0 1) 1431655765)) 858993459) (ev_and (ev_ushr (ev_sub a0 (ev_and (ev_ushr a0 1) 1431655765)) 2) 858993459)) (ev_ushr (ev_add (ev_and (ev_sub a0 (ev_and (ev_ushr a0 1) 1431655765)) 858993459) (ev_and (ev_ushr (ev_sub a0 (ev_and (ev_ushr a0 1) 1431655765)) 2) 858993459)) 4)) 252645135) (ev_ushr (ev_and (ev_add (ev_add (ev_and (ev_sub a0 (ev_and (ev_ushr a0 1) 1431655765)) 858993459) (ev_and (ev_ushr (ev_sub a0 (ev_and (ev_ushr a0 1) 1431655765)) 2) 858993459)) (ev_ushr (ev_add (ev_and (ev_sub a0 (ev_and (ev_ushr a0 1) 1431655765)) 858993459) (ev_and (ev_ushr (ev_sub a0 (ev_and (ev_ushr a0 1) 1431655765)) 2) 858993459)) 4)) 252645135) 8)))]) dJ6_bitCount_0f7a4_40 rfl (Nat.le_of_ble_eq_true rfl) rfl ?_
  refine Ev_iload_n 0 dJ6_bitCount_0f7a4_41 rfl rfl ?_
  refine Ev_iload_n 0 dJ6_bitCount_0f7a4_42 rfl rfl ?_
  refine Ev_bipushC dJ6_bitCount_0f7a4_43 rfl ?_
  refine Ev_iushr dJ6_bitCount_0f7a4_45 ?_
  refine Ev_iadd dJ6_bitCount_0f7a4_46 ?_
  refine Ev_istore_n (l' := [(0, ev_i (ev_add (ev_add (ev_and (ev_add (ev_add (ev_and (ev_sub a0 (ev_and (ev_ushr a0 1) 1431655765)) 858993459) (ev_and (ev_ushr (ev_sub a0 (ev_and (ev_ushr a0 1) 1431655765)) 2) 858993459)) (ev_ushr (ev_add (ev_and (ev_sub a0 (ev_and (ev_ushr a0 1) 1431655765)) 858993459) (ev_and (ev_ushr (ev_sub a0 (ev_and (ev_ushr a0 1) 1431655765)) 2) 858993459)) 4)) 252645135) (ev_ushr (ev_and (ev_add (ev_add (ev_and (ev_sub a0 (ev_and (ev_ushr a0 1) 1431655765)) 858993459) (ev_and (ev_ushr (ev_sub a0 (ev_and (ev_ushr a0 1) 1431655765)) 2) 858993459)) (ev_ushr (ev_add (ev_and (ev_sub a0 (ev_and (ev_ushr a0 1) 1431655765)) 858993459) (ev_and (ev_ushr (ev_sub a0 (ev_and (ev_ushr a0 1) 1431655765)) 2) 858993459)) 4)) 252645135) 8)) (ev_ushr (ev_add (ev_and (ev_add (ev_add (ev_and (ev_sub a0 (ev_and (ev_ushr a0 1) 1431655765)) 858993459) (ev_and (ev_ushr (ev_sub a0 (ev_and (ev_ushr a0 1) 1431655765)) 2) 858993459)) (ev_ushr (ev_add (ev_and (ev_sub a0 (ev_and (ev_ushr a0 1) 1431655765)) 858993459) (ev_and (ev_ushr (ev_sub a0 (ev_and (ev_ushr a0 1) 1431655765)) 2) 858993459)) 4)) 252645135) (ev_ushr (ev_and (ev_add (ev_add (ev_and (ev_sub a0 (ev_and (ev_ushr a0 1) 1431655765)) 858993459) (ev_and (ev_ushr (ev_sub a0 (ev_and (ev_ushr a0 1) 1431655765)) 2) 858993459)) (ev_ushr (ev_add (ev_and (ev_sub a0 (ev_and (ev_ushr a0 1) 1431655765)) 858993459) (ev_and (ev_ushr (ev_sub a0 (ev_and (ev_ushr a0 1) 1431655765)) 2) 858993459)) 4)) 252645135) 8)) 16)))]) dJ6_bitCount_0f7a4_47 rfl (Nat.le_of_ble_eq_true rfl) rfl ?_
  refine Ev_iload_n 0 dJ6_bitCount_0f7a4_48 rfl rfl ?_
  refine Ev_bipushC dJ6_bitCount_0f7a4_49 rfl ?_
  refine Ev_iand dJ6_bitCount_0f7a4_51 ?_
  exact Ev_iret rfl dJ6_bitCount_0f7a4_52 rfl h
theorem dJ7_fill_53178_0 : decode cJ7_fill_53178 0 = .ok (.iconst 0, 1) := by decide +kernel
theorem dJ7_fill_53178_1 : decode cJ7_fill_53178 1 = .ok (.istore_n 2, 1) := by decide +kernel
theorem dJ7_fill_53178_2 : decode cJ7_fill_53178 2 = .ok (.aload_n 0, 1) := by decide +kernel
theorem dJ7_fill_53178_3 : decode cJ7_fill_53178 3 = .ok (.arraylength, 1) := by decide +kernel
theorem dJ7_fill_53178_4 : decode cJ7_fill_53178 4 = .ok (.istore_n 3, 1) := by decide +kernel
theorem dJ7_fill_53178_5 : decode cJ7_fill_53178 5 = .ok (.iload_n 2, 1) := by decide +kernel
theorem dJ7_fill_53178_6 : decode cJ7_fill_53178 6 = .ok (.iload_n 3, 1) := by decide +kernel
theorem dJ7_fill_53178_7 : decode cJ7_fill_53178 7 = .ok (.if_icmp .ge 13, 3) := by decide +kernel
theorem dJ7_fill_53178_10 : decode cJ7_fill_53178 10 = .ok (.aload_n 0, 1) := by decide +kernel
theorem dJ7_fill_53178_11 : decode cJ7_fill_53178 11 = .ok (.iload_n 2, 1) := by decide +kernel
theorem dJ7_fill_53178_12 : decode cJ7_fill_53178 12 = .ok (.iload_n 1, 1) := by decide +kernel
theorem dJ7_fill_53178_13 : decode cJ7_fill_53178 13 = .ok (.iastore, 1) := by decide +kernel
theorem dJ7_fill_53178_14 : decode cJ7_fill_53178 14 = .ok (.iinc 2 1, 3) := by decide +kernel
theorem dJ7_fill_53178_17 : decode cJ7_fill_53178 17 = .ok (.goto (-12), 3) := by decide +kernel
theorem dJ7_fill_53178_20 : decode cJ7_fill_53178 20 = .ok (.return_, 1) := by decide +kernel
theorem wp_J7_fill_53178_0 {d : Nat} {k0 n0 : Nat} (hk0 : layX[k0]? = some (.inl (0, n0))) (hn0 : n0 < 2147483648) {s : ev_S} {Q : Option ev_V → ev_S → Prop} {a1 : Int}
    (h : Ev layX M_J7_fill_53178 d 5 [(0, ev_r k0), (1, ev_i a1), (2, ev_i 0), (3, ev_i ((n0 : Nat) : Int))] [] s Q) :
    Ev layX M_J7_fill_53178 d 0 [(0, ev_r k0), (1, ev_i a1)] [] s Q := by
  refine Ev_iconst dJ7_fill_53178_0 rfl (ev_Rc rfl) ?_
  refine Ev_istore_n (l' := [(2, ev_i 0), (0, ev_r k0), (1, ev_i a1)]) dJ7_fill_53178_1 rfl (Nat.le_of_ble_eq_true rfl) rfl ?_
  refine Ev_aload_n 1 dJ7_fill_53178_2 rfl rfl ?_
  refine Ev_alen hk0 hn0 dJ7_fill_53178_3 ?_
  refine Ev_istore_n (l' := [(3, ev_i ((n0 : Nat) : Int)), (2, ev_i 0), (0, ev_r k0), (1, ev_i a1)]) dJ7_fill_53178_4 rfl (Nat.le_of_ble_eq_true rfl) rfl ?_
  exact Ev_sub [2, 3, 1, 0] rfl h
theorem wp_J7_fill_53178_5 {d : Nat} {k0 n0 : Nat} (hk0 : layX[k0]? = some (.inl (0, n0))) (hn0 : n0 < 2147483648) {s : ev_S} {Q : Option ev_V → ev_S → Prop} {a1 a2 a3 : Int}
    (h : ((a3 ≤ a2 → Q none s) ∧ (a2 < a3 → ((0 ≤ a2 ∧ a2 < (n0 : Nat)) ∧ ∀ s1, ev_up s k0 (Int.toNat a2) a1 = s1 → Ev layX M_J7_fill_53178 d 5 [(0, ev_r k0), (1, ev_i a1), (2, ev_i (ev_add a2 1)), (3, ev_i a3)] [] s1 Q)))) :
    Ev layX M_J7_fill_53178 d 5 [(0, ev_r k0), (1, ev_i a1), (2, ev_i a2), (3, ev_i a3)] [] s Q := by
  refine Ev_iload_n 2 dJ7_fill_53178_5 rfl rfl ?_
  refine Ev_iload_n 3 dJ7_fill_53178_6 rfl rfl ?_
  refine Ev_icmp_ge (tgt := 20) dJ7_fill_53178_7 rfl (fun c => ?_) (fun c => ?_)
  · replace h := h.1 c
    exact Ev_vret rfl dJ7_fill_53178_20 h
  · replace h := h.2 c
    refine Ev_aload_n 0 dJ7_fill_53178_10 rfl rfl ?_
    refine Ev_iload_n 2 dJ7_fill_53178_11 rfl rfl ?_
    refine Ev_iload_n 1 dJ7_fill_53178_12 rfl rfl ?_
    obtain ⟨h0, h⟩ := h
    refine Ev_iast hk0 h0 dJ7_fill_53178_13 (Ev_nm (fun s1 es1 => ?_))
    replace h := h s1 es1
    refine Ev_iinc (j := 2) (l' := [(2, ev_i (ev_add a2 1)), (0, ev_r k0), (1, ev_i a1), (3, ev_i a3)]) dJ7_fill_53178_14 rfl (Nat.le_of_ble_eq_true rfl) rfl ?_
    refine Ev_goto (tgt := 5) dJ7_fill_53178_17 rfl ?_
    exact Ev_sub [1, 2, 0, 3] rfl h
