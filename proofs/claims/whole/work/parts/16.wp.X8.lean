theorem dX8_read_0 : decode cX8_read 0 = .ok (.aload_n 0, 1) := by decide +kernel
theorem dX8_read_1 : decode cX8_read 1 = .ok (.iconst 0, 1) := by decide +kernel
theorem dX8_read_2 : decode cX8_read 2 = .ok (.putfield 34, 3) := by decide +kernel
theorem dX8_read_5 : decode cX8_read 5 = .ok (.aload_n 0, 1) := by decide +kernel
theorem dX8_read_6 : decode cX8_read 6 = .ok (.iconst (-1), 1) := by decide +kernel
theorem dX8_read_7 : decode cX8_read 7 = .ok (.putfield 22, 3) := by decide +kernel
theorem dX8_read_10 : decode cX8_read 10 = .ok (.aload_n 0, 1) := by decide +kernel
theorem dX8_read_11 : decode cX8_read 11 = .ok (.iconst 0, 1) := by decide +kernel
theorem dX8_read_12 : decode cX8_read 12 = .ok (.putfield 37, 3) := by decide +kernel
theorem dX8_read_15 : decode cX8_read 15 = .ok (.aload_n 0, 1) := by decide +kernel
theorem dX8_read_16 : decode cX8_read 16 = .ok (.iconst 0, 1) := by decide +kernel
theorem dX8_read_17 : decode cX8_read 17 = .ok (.putfield 40, 3) := by decide +kernel
theorem dX8_read_20 : decode cX8_read 20 = .ok (.aload_n 0, 1) := by decide +kernel
theorem dX8_read_21 : decode cX8_read 21 = .ok (.getfield 26, 3) := by decide +kernel
theorem dX8_read_24 : decode cX8_read 24 = .ok (.invokevirtual 43, 3) := by decide +kernel
theorem dX8_read_27 : decode cX8_read 27 = .ok (.aload_n 0, 1) := by decide +kernel
theorem dX8_read_28 : decode cX8_read 28 = .ok (.iconst (-1), 1) := by decide +kernel
theorem dX8_read_29 : decode cX8_read 29 = .ok (.putfield 48, 3) := by decide +kernel
theorem dX8_read_32 : decode cX8_read 32 = .ok (.aload_n 0, 1) := by decide +kernel
theorem dX8_read_33 : decode cX8_read 33 = .ok (.invokevirtual 51, 3) := by decide +kernel
theorem dX8_read_36 : decode cX8_read 36 = .ok (.iconst 0, 1) := by decide +kernel
theorem dX8_read_37 : decode cX8_read 37 = .ok (.istore_n 2, 1) := by decide +kernel
theorem dX8_read_38 : decode cX8_read 38 = .ok (.iload_n 1, 1) := by decide +kernel
theorem dX8_read_39 : decode cX8_read 39 = .ok (.ifCond .ne 36, 3) := by decide +kernel
theorem dX8_read_42 : decode cX8_read 42 = .ok (.aload_n 0, 1) := by decide +kernel
theorem dX8_read_43 : decode cX8_read 43 = .ok (.iconst 0, 1) := by decide +kernel
theorem dX8_read_44 : decode cX8_read 44 = .ok (.invokevirtual 54, 3) := by decide +kernel
theorem dX8_read_47 : decode cX8_read 47 = .ok (.ifCond .eq 23, 3) := by decide +kernel
theorem dX8_read_50 : decode cX8_read 50 = .ok (.aload_n 0, 1) := by decide +kernel
theorem dX8_read_51 : decode cX8_read 51 = .ok (.bipush 51, 2) := by decide +kernel
theorem dX8_read_53 : decode cX8_read 53 = .ok (.invokevirtual 58, 3) := by decide +kernel
theorem dX8_read_56 : decode cX8_read 56 = .ok (.ifCond .eq 14, 3) := by decide +kernel
theorem dX8_read_59 : decode cX8_read 59 = .ok (.aload_n 0, 1) := by decide +kernel
theorem dX8_read_60 : decode cX8_read 60 = .ok (.invokevirtual 61, 3) := by decide +kernel
theorem dX8_read_63 : decode cX8_read 63 = .ok (.ifCond .eq 7, 3) := by decide +kernel
theorem dX8_read_66 : decode cX8_read 66 = .ok (.iconst 1, 1) := by decide +kernel
theorem dX8_read_67 : decode cX8_read 67 = .ok (.goto 4, 3) := by decide +kernel
theorem dX8_read_70 : decode cX8_read 70 = .ok (.iconst 0, 1) := by decide +kernel
theorem dX8_read_71 : decode cX8_read 71 = .ok (.istore_n 2, 1) := by decide +kernel
theorem dX8_read_72 : decode cX8_read 72 = .ok (.goto 90, 3) := by decide +kernel
theorem dX8_read_75 : decode cX8_read 75 = .ok (.iload_n 1, 1) := by decide +kernel
theorem dX8_read_76 : decode cX8_read 76 = .ok (.iconst 1, 1) := by decide +kernel
theorem dX8_read_77 : decode cX8_read 77 = .ok (.if_icmp .ne 28, 3) := by decide +kernel
theorem dX8_read_80 : decode cX8_read 80 = .ok (.aload_n 0, 1) := by decide +kernel
theorem dX8_read_81 : decode cX8_read 81 = .ok (.invokevirtual 65, 3) := by decide +kernel
theorem dX8_read_84 : decode cX8_read 84 = .ok (.ifCond .eq 16, 3) := by decide +kernel
theorem dX8_read_87 : decode cX8_read 87 = .ok (.aload_n 0, 1) := by decide +kernel
theorem dX8_read_88 : decode cX8_read 88 = .ok (.bipush 51, 2) := by decide +kernel
theorem dX8_read_90 : decode cX8_read 90 = .ok (.invokevirtual 58, 3) := by decide +kernel
theorem dX8_read_93 : decode cX8_read 93 = .ok (.ifCond .eq 7, 3) := by decide +kernel
theorem dX8_read_96 : decode cX8_read 96 = .ok (.iconst 1, 1) := by decide +kernel
theorem dX8_read_97 : decode cX8_read 97 = .ok (.goto 4, 3) := by decide +kernel
theorem dX8_read_100 : decode cX8_read 100 = .ok (.iconst 0, 1) := by decide +kernel
theorem dX8_read_101 : decode cX8_read 101 = .ok (.istore_n 2, 1) := by decide +kernel
theorem dX8_read_102 : decode cX8_read 102 = .ok (.goto 60, 3) := by decide +kernel
theorem dX8_read_105 : decode cX8_read 105 = .ok (.iload_n 1, 1) := by decide +kernel
theorem dX8_read_106 : decode cX8_read 106 = .ok (.iconst 2, 1) := by decide +kernel
theorem dX8_read_107 : decode cX8_read 107 = .ok (.if_icmp .ne 28, 3) := by decide +kernel
theorem dX8_read_110 : decode cX8_read 110 = .ok (.aload_n 0, 1) := by decide +kernel
theorem dX8_read_111 : decode cX8_read 111 = .ok (.invokevirtual 68, 3) := by decide +kernel
theorem dX8_read_114 : decode cX8_read 114 = .ok (.ifCond .eq 16, 3) := by decide +kernel
theorem dX8_read_117 : decode cX8_read 117 = .ok (.aload_n 0, 1) := by decide +kernel
theorem dX8_read_118 : decode cX8_read 118 = .ok (.bipush 51, 2) := by decide +kernel
theorem dX8_read_120 : decode cX8_read 120 = .ok (.invokevirtual 58, 3) := by decide +kernel
theorem dX8_read_123 : decode cX8_read 123 = .ok (.ifCond .eq 7, 3) := by decide +kernel
theorem dX8_read_126 : decode cX8_read 126 = .ok (.iconst 1, 1) := by decide +kernel
theorem dX8_read_127 : decode cX8_read 127 = .ok (.goto 4, 3) := by decide +kernel
theorem dX8_read_130 : decode cX8_read 130 = .ok (.iconst 0, 1) := by decide +kernel
theorem dX8_read_131 : decode cX8_read 131 = .ok (.istore_n 2, 1) := by decide +kernel
theorem dX8_read_132 : decode cX8_read 132 = .ok (.goto 30, 3) := by decide +kernel
theorem dX8_read_135 : decode cX8_read 135 = .ok (.iload_n 1, 1) := by decide +kernel
theorem dX8_read_136 : decode cX8_read 136 = .ok (.iconst 3, 1) := by decide +kernel
theorem dX8_read_137 : decode cX8_read 137 = .ok (.if_icmp .ne 25, 3) := by decide +kernel
theorem dX8_read_140 : decode cX8_read 140 = .ok (.aload_n 0, 1) := by decide +kernel
theorem dX8_read_141 : decode cX8_read 141 = .ok (.invokevirtual 71, 3) := by decide +kernel
theorem dX8_read_144 : decode cX8_read 144 = .ok (.ifCond .eq 16, 3) := by decide +kernel
theorem dX8_read_147 : decode cX8_read 147 = .ok (.aload_n 0, 1) := by decide +kernel
theorem dX8_read_148 : decode cX8_read 148 = .ok (.bipush 51, 2) := by decide +kernel
theorem dX8_read_150 : decode cX8_read 150 = .ok (.invokevirtual 58, 3) := by decide +kernel
theorem dX8_read_153 : decode cX8_read 153 = .ok (.ifCond .eq 7, 3) := by decide +kernel
theorem dX8_read_156 : decode cX8_read 156 = .ok (.iconst 1, 1) := by decide +kernel
theorem dX8_read_157 : decode cX8_read 157 = .ok (.goto 4, 3) := by decide +kernel
theorem dX8_read_160 : decode cX8_read 160 = .ok (.iconst 0, 1) := by decide +kernel
theorem dX8_read_161 : decode cX8_read 161 = .ok (.istore_n 2, 1) := by decide +kernel
theorem dX8_read_162 : decode cX8_read 162 = .ok (.aload_n 0, 1) := by decide +kernel
theorem dX8_read_163 : decode cX8_read 163 = .ok (.getfield 26, 3) := by decide +kernel
theorem dX8_read_166 : decode cX8_read 166 = .ok (.iconst 0, 1) := by decide +kernel
theorem dX8_read_167 : decode cX8_read 167 = .ok (.putfield 74, 3) := by decide +kernel
theorem dX8_read_170 : decode cX8_read 170 = .ok (.iload_n 2, 1) := by decide +kernel
theorem dX8_read_171 : decode cX8_read 171 = .ok (.ifCond .ne 5, 3) := by decide +kernel
theorem dX8_read_174 : decode cX8_read 174 = .ok (.iconst (-1), 1) := by decide +kernel
theorem dX8_read_175 : decode cX8_read 175 = .ok (.ireturn, 1) := by decide +kernel
theorem dX8_read_176 : decode cX8_read 176 = .ok (.iload_n 1, 1) := by decide +kernel
theorem dX8_read_177 : decode cX8_read 177 = .ok (.ifCond .ne 10, 3) := by decide +kernel
theorem dX8_read_180 : decode cX8_read 180 = .ok (.aload_n 0, 1) := by decide +kernel
theorem dX8_read_181 : decode cX8_read 181 = .ok (.getfield 37, 3) := by decide +kernel
theorem dX8_read_184 : decode cX8_read 184 = .ok (.goto 7, 3) := by decide +kernel
theorem dX8_read_187 : decode cX8_read 187 = .ok (.aload_n 0, 1) := by decide +kernel
theorem dX8_read_188 : decode cX8_read 188 = .ok (.getfield 40, 3) := by decide +kernel
theorem dX8_read_191 : decode cX8_read 191 = .ok (.ireturn, 1) := by decide +kernel
theorem wp_X8_read_0 {d : Nat} {s : ev_S} {Q : Option ev_V → ev_S → Prop} {a1 : Int}
    (h : (∀ s1, ev_up s 137 8 0 = s1 → (∀ s2, ev_up s1 137 9 (-1) = s2 → (∀ s3, ev_up s2 137 3 0 = s3 → (∀ s4, ev_up s3 137 4 0 = s4 → (Ev layX M_X9_scan d 0 [(0, ev_r 132)] [] s4 (fun _ s5 => (∀ s6, ev_up s5 137 6 (-1) = s6 → (Ev layX M_X8_advance d 0 [(0, ev_r 137)] [] s6 (fun _ s7 => ((a1 ≠ 0 → ((a1 ≠ 1 → ((a1 ≠ 2 → ((a1 ≠ 3 → Ev layX M_X8_read (d + 1) 162 [(0, ev_r 137), (1, ev_i a1), (2, ev_i 0)] [] s7 Q) ∧ (a1 = 3 → (Ev layX M_X8_readLaw d 0 [(0, ev_r 137)] [] s7 (ev_pi (fun r9 s8 => ((r9 = 0 → Ev layX M_X8_read (d + 1) 162 [(0, ev_r 137), (1, ev_i a1), (2, ev_i 0)] [] s8 Q) ∧ (r9 ≠ 0 → (Ev layX M_X8_takes d 0 [(0, ev_r 137), (1, ev_i 51)] [] s8 (ev_pi (fun r11 s10 => ((r11 = 0 → Ev layX M_X8_read (d + 1) 162 [(0, ev_r 137), (1, ev_i a1), (2, ev_i 0)] [] s10 Q) ∧ (r11 ≠ 0 → Ev layX M_X8_read (d + 1) 162 [(0, ev_r 137), (1, ev_i a1), (2, ev_i 1)] [] s10 Q))))))))))))) ∧ (a1 = 2 → (Ev layX M_X8_readPlan d 0 [(0, ev_r 137)] [] s7 (ev_pi (fun r13 s12 => ((r13 = 0 → Ev layX M_X8_read (d + 1) 162 [(0, ev_r 137), (1, ev_i a1), (2, ev_i 0)] [] s12 Q) ∧ (r13 ≠ 0 → (Ev layX M_X8_takes d 0 [(0, ev_r 137), (1, ev_i 51)] [] s12 (ev_pi (fun r15 s14 => ((r15 = 0 → Ev layX M_X8_read (d + 1) 162 [(0, ev_r 137), (1, ev_i a1), (2, ev_i 0)] [] s14 Q) ∧ (r15 ≠ 0 → Ev layX M_X8_read (d + 1) 162 [(0, ev_r 137), (1, ev_i a1), (2, ev_i 1)] [] s14 Q))))))))))))) ∧ (a1 = 1 → (Ev layX M_X8_readMishaps d 0 [(0, ev_r 137)] [] s7 (ev_pi (fun r17 s16 => ((r17 = 0 → Ev layX M_X8_read (d + 1) 162 [(0, ev_r 137), (1, ev_i a1), (2, ev_i 0)] [] s16 Q) ∧ (r17 ≠ 0 → (Ev layX M_X8_takes d 0 [(0, ev_r 137), (1, ev_i 51)] [] s16 (ev_pi (fun r19 s18 => ((r19 = 0 → Ev layX M_X8_read (d + 1) 162 [(0, ev_r 137), (1, ev_i a1), (2, ev_i 0)] [] s18 Q) ∧ (r19 ≠ 0 → Ev layX M_X8_read (d + 1) 162 [(0, ev_r 137), (1, ev_i a1), (2, ev_i 1)] [] s18 Q))))))))))))) ∧ (a1 = 0 → (Ev layX M_X8_readSteps d 0 [(0, ev_r 137), (1, ev_i 0)] [] s7 (ev_pi (fun r21 s20 => ((r21 = 0 → Ev layX M_X8_read (d + 1) 162 [(0, ev_r 137), (1, ev_i a1), (2, ev_i 0)] [] s20 Q) ∧ (r21 ≠ 0 → (Ev layX M_X8_takes d 0 [(0, ev_r 137), (1, ev_i 51)] [] s20 (ev_pi (fun r23 s22 => ((r23 = 0 → Ev layX M_X8_read (d + 1) 162 [(0, ev_r 137), (1, ev_i a1), (2, ev_i 0)] [] s22 Q) ∧ (r23 ≠ 0 → (Ev layX M_X8_keepsTime d 0 [(0, ev_r 137)] [] s22 (ev_pi (fun r25 s24 => ((r25 = 0 → Ev layX M_X8_read (d + 1) 162 [(0, ev_r 137), (1, ev_i a1), (2, ev_i 0)] [] s24 Q) ∧ (r25 ≠ 0 → Ev layX M_X8_read (d + 1) 162 [(0, ev_r 137), (1, ev_i a1), (2, ev_i 1)] [] s24 Q))))))))))))))))))))))))))) :
    Ev layX M_X8_read (d + 1) 0 [(0, ev_r 137), (1, ev_i a1)] [] s Q := by
  refine Ev_aload_n 0 dX8_read_0 rfl rfl ?_
  refine Ev_iconst dX8_read_1 rfl (ev_Rc rfl) ?_
  refine Ev_put (i := 8) (ty := .int) cl_X8 yX_137 (Nat.le_of_ble_eq_true rfl) rfl rfl (by decide +kernel) rfl rfl wd_521 dX8_read_2 (Ev_nm (fun s1 es1 => ?_))
  replace h := h s1 es1
  refine Ev_aload_n 0 dX8_read_5 rfl rfl ?_
  refine Ev_iconst dX8_read_6 rfl (ev_Rc rfl) ?_
  refine Ev_put (i := 9) (ty := .int) cl_X8 yX_137 (Nat.le_of_ble_eq_true rfl) rfl rfl (by decide +kernel) rfl rfl wd_523 dX8_read_7 (Ev_nm (fun s2 es2 => ?_))
  replace h := h s2 es2
  refine Ev_aload_n 0 dX8_read_10 rfl rfl ?_
  refine Ev_iconst dX8_read_11 rfl (ev_Rc rfl) ?_
  refine Ev_put (i := 3) (ty := .int) cl_X8 yX_137 (Nat.le_of_ble_eq_true rfl) rfl rfl (by decide +kernel) rfl rfl wd_513 dX8_read_12 (Ev_nm (fun s3 es3 => ?_))
  replace h := h s3 es3
  refine Ev_aload_n 0 dX8_read_15 rfl rfl ?_
  refine Ev_iconst dX8_read_16 rfl (ev_Rc rfl) ?_
  refine Ev_put (i := 4) (ty := .int) cl_X8 yX_137 (Nat.le_of_ble_eq_true rfl) rfl rfl (by decide +kernel) rfl rfl wd_515 dX8_read_17 (Ev_nm (fun s4 es4 => ?_))
  replace h := h s4 es4
  refine Ev_aload_n 0 dX8_read_20 rfl rfl ?_
  refine Ev_getR (i := 0) cl_X8 yX_137 (Nat.le_of_ble_eq_true rfl) rfl wd_509 dX8_read_21 ?_
  refine Ev_callV (As := []) (b := 132) (st := []) (M' := M_X9_scan) cm_X9_scan wd_795 wd_796 wd_797 yX_132 cl_X9 rfl dX8_read_24 (Nat.le_refl _) rfl (Nat.le_of_ble_eq_true rfl) (Nat.le_of_ble_eq_true rfl) h (fun v u h hk => ?_)
  cases hk
  obtain ⟨s5, rfl⟩ : ∃ x, x = u := ⟨_, rfl⟩
  refine Ev_aload_n 0 dX8_read_27 rfl rfl ?_
  refine Ev_iconst dX8_read_28 rfl (ev_Rc rfl) ?_
  refine Ev_put (i := 6) (ty := .int) cl_X8 yX_137 (Nat.le_of_ble_eq_true rfl) rfl rfl (by decide +kernel) rfl rfl wd_519 dX8_read_29 (Ev_nm (fun s6 es6 => ?_))
  replace h := h s6 es6
  refine Ev_aload_n 0 dX8_read_32 rfl rfl ?_
  refine Ev_callV (As := []) (b := 137) (st := []) (M' := M_X8_advance) cm_X8_advance wd_923 wd_925 wd_5 yX_137 cl_X8 rfl dX8_read_33 (Nat.le_refl _) rfl (Nat.le_of_ble_eq_true rfl) (Nat.le_of_ble_eq_true rfl) h (fun v u h hk => ?_)
  cases hk
  obtain ⟨s7, rfl⟩ : ∃ x, x = u := ⟨_, rfl⟩
  refine Ev_iconst dX8_read_36 rfl (ev_Rc rfl) ?_
  refine Ev_istore_n (l' := [(2, ev_i 0), (0, ev_r 137), (1, ev_i a1)]) dX8_read_37 rfl (Nat.le_of_ble_eq_true rfl) rfl ?_
  refine Ev_iload_n 2 dX8_read_38 rfl rfl ?_
  refine Ev_if_ne (tgt := 75) dX8_read_39 rfl (fun c => ?_) (fun c => ?_)
  · replace h := h.1 c
    refine Ev_iload_n 2 dX8_read_75 rfl rfl ?_
    refine Ev_iconst dX8_read_76 rfl (ev_Rc rfl) ?_
    refine Ev_icmp_ne (tgt := 105) dX8_read_77 rfl (fun c => ?_) (fun c => ?_)
    · replace h := h.1 c
      refine Ev_iload_n 2 dX8_read_105 rfl rfl ?_
      refine Ev_iconst dX8_read_106 rfl (ev_Rc rfl) ?_
      refine Ev_icmp_ne (tgt := 135) dX8_read_107 rfl (fun c => ?_) (fun c => ?_)
      · replace h := h.1 c
        refine Ev_iload_n 2 dX8_read_135 rfl rfl ?_
        refine Ev_iconst dX8_read_136 rfl (ev_Rc rfl) ?_
        refine Ev_icmp_ne (tgt := 162) dX8_read_137 rfl (fun c => ?_) (fun c => ?_)
        · replace h := h.1 c
          exact Ev_sub [1, 2, 0] rfl h
        · replace h := h.2 c
          refine Ev_aload_n 1 dX8_read_140 rfl rfl ?_
          refine Ev_callV (As := []) (b := 137) (st := []) (M' := M_X8_readLaw) cm_X8_readLaw wd_992 wd_994 wd_22 yX_137 cl_X8 rfl dX8_read_141 (Nat.le_refl _) rfl (Nat.le_of_ble_eq_true rfl) (Nat.le_of_ble_eq_true rfl) h (fun v u h hk => ?_)
          obtain ⟨r9, rfl⟩ := hk
          obtain ⟨s8, rfl⟩ : ∃ x, x = u := ⟨_, rfl⟩
          replace h := h r9 rfl
          refine Ev_if_eq (tgt := 160) dX8_read_144 rfl (fun c => ?_) (fun c => ?_)
          · replace h := h.1 c
            refine Ev_iconst dX8_read_160 rfl (ev_Rc rfl) ?_
            refine Ev_istore_n (l' := [(2, ev_i 0), (0, ev_r 137), (1, ev_i a1)]) dX8_read_161 rfl (Nat.le_of_ble_eq_true rfl) rfl ?_
            exact Ev_sub [1, 2, 0] rfl h
          · replace h := h.2 c
            refine Ev_aload_n 1 dX8_read_147 rfl rfl ?_
            refine Ev_bipushC dX8_read_148 rfl ?_
            refine Ev_callV (As := [ev_i 51]) (b := 137) (st := []) (M' := M_X8_takes) cm_X8_takes wd_947 wd_949 wd_11 yX_137 cl_X8 rfl dX8_read_150 (Nat.le_refl _) rfl (Nat.le_of_ble_eq_true rfl) (Nat.le_of_ble_eq_true rfl) h (fun v u h hk => ?_)
            obtain ⟨r11, rfl⟩ := hk
            obtain ⟨s10, rfl⟩ : ∃ x, x = u := ⟨_, rfl⟩
            replace h := h r11 rfl
            refine Ev_if_eq (tgt := 160) dX8_read_153 rfl (fun c => ?_) (fun c => ?_)
            · replace h := h.1 c
              refine Ev_iconst dX8_read_160 rfl (ev_Rc rfl) ?_
              refine Ev_istore_n (l' := [(2, ev_i 0), (0, ev_r 137), (1, ev_i a1)]) dX8_read_161 rfl (Nat.le_of_ble_eq_true rfl) rfl ?_
              exact Ev_sub [1, 2, 0] rfl h
            · replace h := h.2 c
              refine Ev_iconst dX8_read_156 rfl (ev_Rc rfl) ?_
              refine Ev_goto (tgt := 161) dX8_read_157 rfl ?_
              refine Ev_istore_n (l' := [(2, ev_i 1), (0, ev_r 137), (1, ev_i a1)]) dX8_read_161 rfl (Nat.le_of_ble_eq_true rfl) rfl ?_
              exact Ev_sub [1, 2, 0] rfl h
      · replace h := h.2 c
        refine Ev_aload_n 1 dX8_read_110 rfl rfl ?_
        refine Ev_callV (As := []) (b := 137) (st := []) (M' := M_X8_readPlan) cm_X8_readPlan wd_984 wd_986 wd_20 yX_137 cl_X8 rfl dX8_read_111 (Nat.le_refl _) rfl (Nat.le_of_ble_eq_true rfl) (Nat.le_of_ble_eq_true rfl) h (fun v u h hk => ?_)
        obtain ⟨r13, rfl⟩ := hk
        obtain ⟨s12, rfl⟩ : ∃ x, x = u := ⟨_, rfl⟩
        replace h := h r13 rfl
        refine Ev_if_eq (tgt := 130) dX8_read_114 rfl (fun c => ?_) (fun c => ?_)
        · replace h := h.1 c
          refine Ev_iconst dX8_read_130 rfl (ev_Rc rfl) ?_
          refine Ev_istore_n (l' := [(2, ev_i 0), (0, ev_r 137), (1, ev_i a1)]) dX8_read_131 rfl (Nat.le_of_ble_eq_true rfl) rfl ?_
          refine Ev_goto (tgt := 162) dX8_read_132 rfl ?_
          exact Ev_sub [1, 2, 0] rfl h
        · replace h := h.2 c
          refine Ev_aload_n 1 dX8_read_117 rfl rfl ?_
          refine Ev_bipushC dX8_read_118 rfl ?_
          refine Ev_callV (As := [ev_i 51]) (b := 137) (st := []) (M' := M_X8_takes) cm_X8_takes wd_947 wd_949 wd_11 yX_137 cl_X8 rfl dX8_read_120 (Nat.le_refl _) rfl (Nat.le_of_ble_eq_true rfl) (Nat.le_of_ble_eq_true rfl) h (fun v u h hk => ?_)
          obtain ⟨r15, rfl⟩ := hk
          obtain ⟨s14, rfl⟩ : ∃ x, x = u := ⟨_, rfl⟩
          replace h := h r15 rfl
          refine Ev_if_eq (tgt := 130) dX8_read_123 rfl (fun c => ?_) (fun c => ?_)
          · replace h := h.1 c
            refine Ev_iconst dX8_read_130 rfl (ev_Rc rfl) ?_
            refine Ev_istore_n (l' := [(2, ev_i 0), (0, ev_r 137), (1, ev_i a1)]) dX8_read_131 rfl (Nat.le_of_ble_eq_true rfl) rfl ?_
            refine Ev_goto (tgt := 162) dX8_read_132 rfl ?_
            exact Ev_sub [1, 2, 0] rfl h
          · replace h := h.2 c
            refine Ev_iconst dX8_read_126 rfl (ev_Rc rfl) ?_
            refine Ev_goto (tgt := 131) dX8_read_127 rfl ?_
            refine Ev_istore_n (l' := [(2, ev_i 1), (0, ev_r 137), (1, ev_i a1)]) dX8_read_131 rfl (Nat.le_of_ble_eq_true rfl) rfl ?_
            refine Ev_goto (tgt := 162) dX8_read_132 rfl ?_
            exact Ev_sub [1, 2, 0] rfl h
    · replace h := h.2 c
      refine Ev_aload_n 1 dX8_read_80 rfl rfl ?_
      refine Ev_callV (As := []) (b := 137) (st := []) (M' := M_X8_readMishaps) cm_X8_readMishaps wd_959 wd_961 wd_14 yX_137 cl_X8 rfl dX8_read_81 (Nat.le_refl _) rfl (Nat.le_of_ble_eq_true rfl) (Nat.le_of_ble_eq_true rfl) h (fun v u h hk => ?_)
      obtain ⟨r17, rfl⟩ := hk
      obtain ⟨s16, rfl⟩ : ∃ x, x = u := ⟨_, rfl⟩
      replace h := h r17 rfl
      refine Ev_if_eq (tgt := 100) dX8_read_84 rfl (fun c => ?_) (fun c => ?_)
      · replace h := h.1 c
        refine Ev_iconst dX8_read_100 rfl (ev_Rc rfl) ?_
        refine Ev_istore_n (l' := [(2, ev_i 0), (0, ev_r 137), (1, ev_i a1)]) dX8_read_101 rfl (Nat.le_of_ble_eq_true rfl) rfl ?_
        refine Ev_goto (tgt := 162) dX8_read_102 rfl ?_
        exact Ev_sub [1, 2, 0] rfl h
      · replace h := h.2 c
        refine Ev_aload_n 1 dX8_read_87 rfl rfl ?_
        refine Ev_bipushC dX8_read_88 rfl ?_
        refine Ev_callV (As := [ev_i 51]) (b := 137) (st := []) (M' := M_X8_takes) cm_X8_takes wd_947 wd_949 wd_11 yX_137 cl_X8 rfl dX8_read_90 (Nat.le_refl _) rfl (Nat.le_of_ble_eq_true rfl) (Nat.le_of_ble_eq_true rfl) h (fun v u h hk => ?_)
        obtain ⟨r19, rfl⟩ := hk
        obtain ⟨s18, rfl⟩ : ∃ x, x = u := ⟨_, rfl⟩
        replace h := h r19 rfl
        refine Ev_if_eq (tgt := 100) dX8_read_93 rfl (fun c => ?_) (fun c => ?_)
        · replace h := h.1 c
          refine Ev_iconst dX8_read_100 rfl (ev_Rc rfl) ?_
          refine Ev_istore_n (l' := [(2, ev_i 0), (0, ev_r 137), (1, ev_i a1)]) dX8_read_101 rfl (Nat.le_of_ble_eq_true rfl) rfl ?_
          refine Ev_goto (tgt := 162) dX8_read_102 rfl ?_
          exact Ev_sub [1, 2, 0] rfl h
        · replace h := h.2 c
          refine Ev_iconst dX8_read_96 rfl (ev_Rc rfl) ?_
          refine Ev_goto (tgt := 101) dX8_read_97 rfl ?_
          refine Ev_istore_n (l' := [(2, ev_i 1), (0, ev_r 137), (1, ev_i a1)]) dX8_read_101 rfl (Nat.le_of_ble_eq_true rfl) rfl ?_
          refine Ev_goto (tgt := 162) dX8_read_102 rfl ?_
          exact Ev_sub [1, 2, 0] rfl h
  · replace h := h.2 c
    refine Ev_aload_n 1 dX8_read_42 rfl rfl ?_
    refine Ev_iconst dX8_read_43 rfl (ev_Rc rfl) ?_
    refine Ev_callV (As := [ev_i 0]) (b := 137) (st := []) (M' := M_X8_readSteps) cm_X8_readSteps wd_927 wd_929 wd_6 yX_137 cl_X8 rfl dX8_read_44 (Nat.le_refl _) rfl (Nat.le_of_ble_eq_true rfl) (Nat.le_of_ble_eq_true rfl) h (fun v u h hk => ?_)
    obtain ⟨r21, rfl⟩ := hk
    obtain ⟨s20, rfl⟩ : ∃ x, x = u := ⟨_, rfl⟩
    replace h := h r21 rfl
    refine Ev_if_eq (tgt := 70) dX8_read_47 rfl (fun c => ?_) (fun c => ?_)
    · replace h := h.1 c
      refine Ev_iconst dX8_read_70 rfl (ev_Rc rfl) ?_
      refine Ev_istore_n (l' := [(2, ev_i 0), (0, ev_r 137), (1, ev_i a1)]) dX8_read_71 rfl (Nat.le_of_ble_eq_true rfl) rfl ?_
      refine Ev_goto (tgt := 162) dX8_read_72 rfl ?_
      exact Ev_sub [1, 2, 0] rfl h
    · replace h := h.2 c
      refine Ev_aload_n 1 dX8_read_50 rfl rfl ?_
      refine Ev_bipushC dX8_read_51 rfl ?_
      refine Ev_callV (As := [ev_i 51]) (b := 137) (st := []) (M' := M_X8_takes) cm_X8_takes wd_947 wd_949 wd_11 yX_137 cl_X8 rfl dX8_read_53 (Nat.le_refl _) rfl (Nat.le_of_ble_eq_true rfl) (Nat.le_of_ble_eq_true rfl) h (fun v u h hk => ?_)
      obtain ⟨r23, rfl⟩ := hk
      obtain ⟨s22, rfl⟩ : ∃ x, x = u := ⟨_, rfl⟩
      replace h := h r23 rfl
      refine Ev_if_eq (tgt := 70) dX8_read_56 rfl (fun c => ?_) (fun c => ?_)
      · replace h := h.1 c
        refine Ev_iconst dX8_read_70 rfl (ev_Rc rfl) ?_
        refine Ev_istore_n (l' := [(2, ev_i 0), (0, ev_r 137), (1, ev_i a1)]) dX8_read_71 rfl (Nat.le_of_ble_eq_true rfl) rfl ?_
        refine Ev_goto (tgt := 162) dX8_read_72 rfl ?_
        exact Ev_sub [1, 2, 0] rfl h
      · replace h := h.2 c
        refine Ev_aload_n 1 dX8_read_59 rfl rfl ?_
        refine Ev_callV (As := []) (b := 137) (st := []) (M' := M_X8_keepsTime) cm_X8_keepsTime wd_955 wd_957 wd_13 yX_137 cl_X8 rfl dX8_read_60 (Nat.le_refl _) rfl (Nat.le_of_ble_eq_true rfl) (Nat.le_of_ble_eq_true rfl) h (fun v u h hk => ?_)
        obtain ⟨r25, rfl⟩ := hk
        obtain ⟨s24, rfl⟩ : ∃ x, x = u := ⟨_, rfl⟩
        replace h := h r25 rfl
        refine Ev_if_eq (tgt := 70) dX8_read_63 rfl (fun c => ?_) (fun c => ?_)
        · replace h := h.1 c
          refine Ev_iconst dX8_read_70 rfl (ev_Rc rfl) ?_
          refine Ev_istore_n (l' := [(2, ev_i 0), (0, ev_r 137), (1, ev_i a1)]) dX8_read_71 rfl (Nat.le_of_ble_eq_true rfl) rfl ?_
          refine Ev_goto (tgt := 162) dX8_read_72 rfl ?_
          exact Ev_sub [1, 2, 0] rfl h
        · replace h := h.2 c
          refine Ev_iconst dX8_read_66 rfl (ev_Rc rfl) ?_
          refine Ev_goto (tgt := 71) dX8_read_67 rfl ?_
          refine Ev_istore_n (l' := [(2, ev_i 1), (0, ev_r 137), (1, ev_i a1)]) dX8_read_71 rfl (Nat.le_of_ble_eq_true rfl) rfl ?_
          refine Ev_goto (tgt := 162) dX8_read_72 rfl ?_
          exact Ev_sub [1, 2, 0] rfl h
theorem wp_X8_read_162 {d : Nat} {s : ev_S} {Q : Option ev_V → ev_S → Prop} {a1 a2 : Int}
    (h : (∀ s1, ev_up s 132 1 0 = s1 → ((a2 ≠ 0 → ((a1 ≠ 0 → Q (some (ev_i (s1 137 4))) s1) ∧ (a1 = 0 → Q (some (ev_i (s1 137 3))) s1))) ∧ (a2 = 0 → Q (some (ev_i (-1))) s1)))) :
    Ev layX M_X8_read (d + 1) 162 [(0, ev_r 137), (1, ev_i a1), (2, ev_i a2)] [] s Q := by
  refine Ev_aload_n 0 dX8_read_162 rfl rfl ?_
  refine Ev_getR (i := 0) cl_X8 yX_137 (Nat.le_of_ble_eq_true rfl) rfl wd_509 dX8_read_163 ?_
  refine Ev_iconst dX8_read_166 rfl (ev_Rc rfl) ?_
  refine Ev_put (i := 1) (ty := .int) cl_X9 yX_132 (Nat.le_of_ble_eq_true rfl) rfl rfl (by decide +kernel) rfl rfl wd_478 dX8_read_167 (Ev_nm (fun s1 es1 => ?_))
  replace h := h s1 es1
  refine Ev_iload_n 2 dX8_read_170 rfl rfl ?_
  refine Ev_if_ne (tgt := 176) dX8_read_171 rfl (fun c => ?_) (fun c => ?_)
  · replace h := h.1 c
    refine Ev_iload_n 1 dX8_read_176 rfl rfl ?_
    refine Ev_if_ne (tgt := 187) dX8_read_177 rfl (fun c => ?_) (fun c => ?_)
    · replace h := h.1 c
      refine Ev_aload_n 0 dX8_read_187 rfl rfl ?_
      refine Ev_get (i := 4) cl_X8 yX_137 (Nat.le_of_ble_eq_true rfl) rfl wd_515 dX8_read_188 ?_
      exact Ev_iret rfl dX8_read_191 rfl h
    · replace h := h.2 c
      refine Ev_aload_n 0 dX8_read_180 rfl rfl ?_
      refine Ev_get (i := 3) cl_X8 yX_137 (Nat.le_of_ble_eq_true rfl) rfl wd_513 dX8_read_181 ?_
      refine Ev_goto (tgt := 191) dX8_read_184 rfl ?_
      exact Ev_iret rfl dX8_read_191 rfl h
  · replace h := h.2 c
    refine Ev_iconst dX8_read_174 rfl (ev_Rc rfl) ?_
    exact Ev_iret rfl dX8_read_175 rfl h
theorem dX8_advance_0 : decode cX8_advance 0 = .ok (.aload_n 0, 1) := by decide +kernel
theorem dX8_advance_1 : decode cX8_advance 1 = .ok (.dup, 1) := by decide +kernel
theorem dX8_advance_2 : decode cX8_advance 2 = .ok (.getfield 48, 3) := by decide +kernel
theorem dX8_advance_5 : decode cX8_advance 5 = .ok (.iconst 1, 1) := by decide +kernel
theorem dX8_advance_6 : decode cX8_advance 6 = .ok (.iadd, 1) := by decide +kernel
theorem dX8_advance_7 : decode cX8_advance 7 = .ok (.putfield 48, 3) := by decide +kernel
theorem dX8_advance_10 : decode cX8_advance 10 = .ok (.aload_n 0, 1) := by decide +kernel
theorem dX8_advance_11 : decode cX8_advance 11 = .ok (.aload_n 0, 1) := by decide +kernel
theorem dX8_advance_12 : decode cX8_advance 12 = .ok (.getfield 48, 3) := by decide +kernel
theorem dX8_advance_15 : decode cX8_advance 15 = .ok (.ifCond .lt 32, 3) := by decide +kernel
theorem dX8_advance_18 : decode cX8_advance 18 = .ok (.aload_n 0, 1) := by decide +kernel
theorem dX8_advance_19 : decode cX8_advance 19 = .ok (.getfield 48, 3) := by decide +kernel
theorem dX8_advance_22 : decode cX8_advance 22 = .ok (.aload_n 0, 1) := by decide +kernel
theorem dX8_advance_23 : decode cX8_advance 23 = .ok (.getfield 26, 3) := by decide +kernel
theorem dX8_advance_26 : decode cX8_advance 26 = .ok (.getfield 77, 3) := by decide +kernel
theorem dX8_advance_29 : decode cX8_advance 29 = .ok (.if_icmp .ge 18, 3) := by decide +kernel
theorem dX8_advance_32 : decode cX8_advance 32 = .ok (.aload_n 0, 1) := by decide +kernel
theorem dX8_advance_33 : decode cX8_advance 33 = .ok (.getfield 26, 3) := by decide +kernel
theorem dX8_advance_36 : decode cX8_advance 36 = .ok (.getfield 80, 3) := by decide +kernel
theorem dX8_advance_39 : decode cX8_advance 39 = .ok (.aload_n 0, 1) := by decide +kernel
theorem dX8_advance_40 : decode cX8_advance 40 = .ok (.getfield 48, 3) := by decide +kernel
theorem dX8_advance_43 : decode cX8_advance 43 = .ok (.iaload, 1) := by decide +kernel
theorem dX8_advance_44 : decode cX8_advance 44 = .ok (.goto 5, 3) := by decide +kernel
theorem dX8_advance_47 : decode cX8_advance 47 = .ok (.bipush 51, 2) := by decide +kernel
theorem dX8_advance_49 : decode cX8_advance 49 = .ok (.putfield 83, 3) := by decide +kernel
theorem dX8_advance_52 : decode cX8_advance 52 = .ok (.return_, 1) := by decide +kernel
theorem wp_X8_advance_0 {d : Nat} {s : ev_S} {Q : Option ev_V → ev_S → Prop}
    (h : (∀ s1, ev_up s 137 6 (ev_add (s 137 6) 1) = s1 → (((s1 137 6) < 0 → (∀ s2, ev_up s1 137 7 51 = s2 → Q none s2)) ∧ (0 ≤ (s1 137 6) → (((s1 132 5) ≤ (s1 137 6) → (∀ s3, ev_up s1 137 7 51 = s3 → Q none s3)) ∧ ((s1 137 6) < (s1 132 5) → ((0 ≤ (s1 137 6) ∧ (s1 137 6) < (400 : Nat)) ∧ (∀ s4, ev_up s1 137 7 (s1 134 (Int.toNat (s1 137 6))) = s4 → Q none s4)))))))) :
    Ev layX M_X8_advance d 0 [(0, ev_r 137)] [] s Q := by
  refine Ev_aload_n 0 dX8_advance_0 rfl rfl ?_
  refine Ev_dup dX8_advance_1 rfl ?_
  refine Ev_get (i := 6) cl_X8 yX_137 (Nat.le_of_ble_eq_true rfl) rfl wd_519 dX8_advance_2 ?_
  refine Ev_iconst dX8_advance_5 rfl (ev_Rc rfl) ?_
  refine Ev_iadd dX8_advance_6 ?_
  refine Ev_put (i := 6) (ty := .int) cl_X8 yX_137 (Nat.le_of_ble_eq_true rfl) rfl rfl (by decide +kernel) rfl rfl wd_519 dX8_advance_7 (Ev_nm (fun s1 es1 => ?_))
  replace h := h s1 es1
  refine Ev_aload_n 0 dX8_advance_10 rfl rfl ?_
  refine Ev_aload_n 0 dX8_advance_11 rfl rfl ?_
  refine Ev_get (i := 6) cl_X8 yX_137 (Nat.le_of_ble_eq_true rfl) rfl wd_519 dX8_advance_12 ?_
  refine Ev_if_lt (tgt := 47) dX8_advance_15 rfl (fun c => ?_) (fun c => ?_)
  · replace h := h.1 c
    refine Ev_bipushC dX8_advance_47 rfl ?_
    refine Ev_put (i := 7) (ty := .int) cl_X8 yX_137 (Nat.le_of_ble_eq_true rfl) rfl rfl (by decide +kernel) rfl rfl wd_520 dX8_advance_49 (Ev_nm (fun s2 es2 => ?_))
    replace h := h s2 es2
    exact Ev_vret rfl dX8_advance_52 h
  · replace h := h.2 c
    refine Ev_aload_n 0 dX8_advance_18 rfl rfl ?_
    refine Ev_get (i := 6) cl_X8 yX_137 (Nat.le_of_ble_eq_true rfl) rfl wd_519 dX8_advance_19 ?_
    refine Ev_aload_n 0 dX8_advance_22 rfl rfl ?_
    refine Ev_getR (i := 0) cl_X8 yX_137 (Nat.le_of_ble_eq_true rfl) rfl wd_509 dX8_advance_23 ?_
    refine Ev_get (i := 5) cl_X9 yX_132 (Nat.le_of_ble_eq_true rfl) rfl wd_487 dX8_advance_26 ?_
    refine Ev_icmp_ge (tgt := 47) dX8_advance_29 rfl (fun c => ?_) (fun c => ?_)
    · replace h := h.1 c
      refine Ev_bipushC dX8_advance_47 rfl ?_
      refine Ev_put (i := 7) (ty := .int) cl_X8 yX_137 (Nat.le_of_ble_eq_true rfl) rfl rfl (by decide +kernel) rfl rfl wd_520 dX8_advance_49 (Ev_nm (fun s3 es3 => ?_))
      replace h := h s3 es3
      exact Ev_vret rfl dX8_advance_52 h
    · replace h := h.2 c
      refine Ev_aload_n 0 dX8_advance_32 rfl rfl ?_
      refine Ev_getR (i := 0) cl_X8 yX_137 (Nat.le_of_ble_eq_true rfl) rfl wd_509 dX8_advance_33 ?_
      refine Ev_getR (i := 2) cl_X9 yX_132 (Nat.le_of_ble_eq_true rfl) rfl wd_481 dX8_advance_36 ?_
      refine Ev_aload_n 0 dX8_advance_39 rfl rfl ?_
      refine Ev_get (i := 6) cl_X8 yX_137 (Nat.le_of_ble_eq_true rfl) rfl wd_519 dX8_advance_40 ?_
      obtain ⟨h0, h⟩ := h
      refine Ev_iald yX_134 h0 dX8_advance_43 ?_
      refine Ev_goto (tgt := 49) dX8_advance_44 rfl ?_
      refine Ev_put (i := 7) (ty := .int) cl_X8 yX_137 (Nat.le_of_ble_eq_true rfl) rfl rfl (by decide +kernel) rfl rfl wd_520 dX8_advance_49 (Ev_nm (fun s4 es4 => ?_))
      replace h := h s4 es4
      exact Ev_vret rfl dX8_advance_52 h
theorem dX8_faulty_0 : decode cX8_faulty 0 = .ok (.aload_n 0, 1) := by decide +kernel
theorem dX8_faulty_1 : decode cX8_faulty 1 = .ok (.iload_n 1, 1) := by decide +kernel
theorem dX8_faulty_2 : decode cX8_faulty 2 = .ok (.putfield 34, 3) := by decide +kernel
theorem dX8_faulty_5 : decode cX8_faulty 5 = .ok (.aload_n 0, 1) := by decide +kernel
theorem dX8_faulty_6 : decode cX8_faulty 6 = .ok (.aload_n 0, 1) := by decide +kernel
theorem dX8_faulty_7 : decode cX8_faulty 7 = .ok (.getfield 48, 3) := by decide +kernel
theorem dX8_faulty_10 : decode cX8_faulty 10 = .ok (.ifCond .lt 32, 3) := by decide +kernel
theorem dX8_faulty_13 : decode cX8_faulty 13 = .ok (.aload_n 0, 1) := by decide +kernel
theorem dX8_faulty_14 : decode cX8_faulty 14 = .ok (.getfield 48, 3) := by decide +kernel
theorem dX8_faulty_17 : decode cX8_faulty 17 = .ok (.aload_n 0, 1) := by decide +kernel
theorem dX8_faulty_18 : decode cX8_faulty 18 = .ok (.getfield 26, 3) := by decide +kernel
theorem dX8_faulty_21 : decode cX8_faulty 21 = .ok (.getfield 77, 3) := by decide +kernel
theorem dX8_faulty_24 : decode cX8_faulty 24 = .ok (.if_icmp .ge 18, 3) := by decide +kernel
theorem dX8_faulty_27 : decode cX8_faulty 27 = .ok (.aload_n 0, 1) := by decide +kernel
theorem dX8_faulty_28 : decode cX8_faulty 28 = .ok (.getfield 26, 3) := by decide +kernel
theorem dX8_faulty_31 : decode cX8_faulty 31 = .ok (.getfield 86, 3) := by decide +kernel
theorem dX8_faulty_34 : decode cX8_faulty 34 = .ok (.aload_n 0, 1) := by decide +kernel
theorem dX8_faulty_35 : decode cX8_faulty 35 = .ok (.getfield 48, 3) := by decide +kernel
theorem dX8_faulty_38 : decode cX8_faulty 38 = .ok (.iaload, 1) := by decide +kernel
theorem dX8_faulty_39 : decode cX8_faulty 39 = .ok (.goto 10, 3) := by decide +kernel
theorem dX8_faulty_42 : decode cX8_faulty 42 = .ok (.aload_n 0, 1) := by decide +kernel
theorem dX8_faulty_43 : decode cX8_faulty 43 = .ok (.getfield 26, 3) := by decide +kernel
theorem dX8_faulty_46 : decode cX8_faulty 46 = .ok (.getfield 74, 3) := by decide +kernel
theorem dX8_faulty_49 : decode cX8_faulty 49 = .ok (.putfield 22, 3) := by decide +kernel
theorem dX8_faulty_52 : decode cX8_faulty 52 = .ok (.iconst 0, 1) := by decide +kernel
theorem dX8_faulty_53 : decode cX8_faulty 53 = .ok (.ireturn, 1) := by decide +kernel
theorem wp_X8_faulty_0 {d : Nat} {s : ev_S} {Q : Option ev_V → ev_S → Prop} {a1 : Int}
    (h : (∀ s1, ev_up s 137 8 a1 = s1 → (((s1 137 6) < 0 → (∀ s2, ev_up s1 137 9 (s1 132 1) = s2 → Q (some (ev_i 0)) s2)) ∧ (0 ≤ (s1 137 6) → (((s1 132 5) ≤ (s1 137 6) → (∀ s3, ev_up s1 137 9 (s1 132 1) = s3 → Q (some (ev_i 0)) s3)) ∧ ((s1 137 6) < (s1 132 5) → ((0 ≤ (s1 137 6) ∧ (s1 137 6) < (400 : Nat)) ∧ (∀ s4, ev_up s1 137 9 (s1 136 (Int.toNat (s1 137 6))) = s4 → Q (some (ev_i 0)) s4)))))))) :
    Ev layX M_X8_faulty d 0 [(0, ev_r 137), (1, ev_i a1)] [] s Q := by
  refine Ev_aload_n 0 dX8_faulty_0 rfl rfl ?_
  refine Ev_iload_n 1 dX8_faulty_1 rfl rfl ?_
  refine Ev_put (i := 8) (ty := .int) cl_X8 yX_137 (Nat.le_of_ble_eq_true rfl) rfl rfl (by decide +kernel) rfl rfl wd_521 dX8_faulty_2 (Ev_nm (fun s1 es1 => ?_))
  replace h := h s1 es1
  refine Ev_aload_n 0 dX8_faulty_5 rfl rfl ?_
  refine Ev_aload_n 0 dX8_faulty_6 rfl rfl ?_
  refine Ev_get (i := 6) cl_X8 yX_137 (Nat.le_of_ble_eq_true rfl) rfl wd_519 dX8_faulty_7 ?_
  refine Ev_if_lt (tgt := 42) dX8_faulty_10 rfl (fun c => ?_) (fun c => ?_)
  · replace h := h.1 c
    refine Ev_aload_n 0 dX8_faulty_42 rfl rfl ?_
    refine Ev_getR (i := 0) cl_X8 yX_137 (Nat.le_of_ble_eq_true rfl) rfl wd_509 dX8_faulty_43 ?_
    refine Ev_get (i := 1) cl_X9 yX_132 (Nat.le_of_ble_eq_true rfl) rfl wd_478 dX8_faulty_46 ?_
    refine Ev_put (i := 9) (ty := .int) cl_X8 yX_137 (Nat.le_of_ble_eq_true rfl) rfl rfl (by decide +kernel) rfl rfl wd_523 dX8_faulty_49 (Ev_nm (fun s2 es2 => ?_))
    replace h := h s2 es2
    refine Ev_iconst dX8_faulty_52 rfl (ev_Rc rfl) ?_
    exact Ev_iret rfl dX8_faulty_53 (ev_nb (by decide)) h
  · replace h := h.2 c
    refine Ev_aload_n 0 dX8_faulty_13 rfl rfl ?_
    refine Ev_get (i := 6) cl_X8 yX_137 (Nat.le_of_ble_eq_true rfl) rfl wd_519 dX8_faulty_14 ?_
    refine Ev_aload_n 0 dX8_faulty_17 rfl rfl ?_
    refine Ev_getR (i := 0) cl_X8 yX_137 (Nat.le_of_ble_eq_true rfl) rfl wd_509 dX8_faulty_18 ?_
    refine Ev_get (i := 5) cl_X9 yX_132 (Nat.le_of_ble_eq_true rfl) rfl wd_487 dX8_faulty_21 ?_
    refine Ev_icmp_ge (tgt := 42) dX8_faulty_24 rfl (fun c => ?_) (fun c => ?_)
    · replace h := h.1 c
      refine Ev_aload_n 0 dX8_faulty_42 rfl rfl ?_
      refine Ev_getR (i := 0) cl_X8 yX_137 (Nat.le_of_ble_eq_true rfl) rfl wd_509 dX8_faulty_43 ?_
      refine Ev_get (i := 1) cl_X9 yX_132 (Nat.le_of_ble_eq_true rfl) rfl wd_478 dX8_faulty_46 ?_
      refine Ev_put (i := 9) (ty := .int) cl_X8 yX_137 (Nat.le_of_ble_eq_true rfl) rfl rfl (by decide +kernel) rfl rfl wd_523 dX8_faulty_49 (Ev_nm (fun s3 es3 => ?_))
      replace h := h s3 es3
      refine Ev_iconst dX8_faulty_52 rfl (ev_Rc rfl) ?_
      exact Ev_iret rfl dX8_faulty_53 (ev_nb (by decide)) h
    · replace h := h.2 c
      refine Ev_aload_n 0 dX8_faulty_27 rfl rfl ?_
      refine Ev_getR (i := 0) cl_X8 yX_137 (Nat.le_of_ble_eq_true rfl) rfl wd_509 dX8_faulty_28 ?_
      refine Ev_getR (i := 4) cl_X9 yX_132 (Nat.le_of_ble_eq_true rfl) rfl wd_485 dX8_faulty_31 ?_
      refine Ev_aload_n 0 dX8_faulty_34 rfl rfl ?_
      refine Ev_get (i := 6) cl_X8 yX_137 (Nat.le_of_ble_eq_true rfl) rfl wd_519 dX8_faulty_35 ?_
      obtain ⟨h0, h⟩ := h
      refine Ev_iald yX_136 h0 dX8_faulty_38 ?_
      refine Ev_goto (tgt := 49) dX8_faulty_39 rfl ?_
      refine Ev_put (i := 9) (ty := .int) cl_X8 yX_137 (Nat.le_of_ble_eq_true rfl) rfl rfl (by decide +kernel) rfl rfl wd_523 dX8_faulty_49 (Ev_nm (fun s4 es4 => ?_))
      replace h := h s4 es4
      refine Ev_iconst dX8_faulty_52 rfl (ev_Rc rfl) ?_
      exact Ev_iret rfl dX8_faulty_53 (ev_nb (by decide)) h
theorem dX8_keepsTime_0 : decode cX8_keepsTime 0 = .ok (.aload_n 0, 1) := by decide +kernel
theorem dX8_keepsTime_1 : decode cX8_keepsTime 1 = .ok (.getfield 37, 3) := by decide +kernel
theorem dX8_keepsTime_4 : decode cX8_keepsTime 4 = .ok (.sipush 600, 3) := by decide +kernel
theorem dX8_keepsTime_7 : decode cX8_keepsTime 7 = .ok (.if_icmp .le 11, 3) := by decide +kernel
theorem dX8_keepsTime_10 : decode cX8_keepsTime 10 = .ok (.aload_n 0, 1) := by decide +kernel
theorem dX8_keepsTime_11 : decode cX8_keepsTime 11 = .ok (.iconst 4, 1) := by decide +kernel
theorem dX8_keepsTime_12 : decode cX8_keepsTime 12 = .ok (.invokevirtual 89, 3) := by decide +kernel
theorem dX8_keepsTime_15 : decode cX8_keepsTime 15 = .ok (.ifCond .eq 7, 3) := by decide +kernel
theorem dX8_keepsTime_18 : decode cX8_keepsTime 18 = .ok (.iconst 1, 1) := by decide +kernel
theorem dX8_keepsTime_19 : decode cX8_keepsTime 19 = .ok (.goto 4, 3) := by decide +kernel
theorem dX8_keepsTime_22 : decode cX8_keepsTime 22 = .ok (.iconst 0, 1) := by decide +kernel
theorem dX8_keepsTime_23 : decode cX8_keepsTime 23 = .ok (.ireturn, 1) := by decide +kernel
theorem wp_X8_keepsTime_0 {d : Nat} {s : ev_S} {Q : Option ev_V → ev_S → Prop}
    (h : (((s 137 3) ≤ 600 → Q (some (ev_i 1)) s) ∧ (600 < (s 137 3) → (Ev layX M_X8_faulty d 0 [(0, ev_r 137), (1, ev_i 4)] [] s (ev_pi (fun r2 s1 => ((r2 = 0 → Q (some (ev_i 0)) s1) ∧ (r2 ≠ 0 → Q (some (ev_i 1)) s1)))))))) :
    Ev layX M_X8_keepsTime (d + 1) 0 [(0, ev_r 137)] [] s Q := by
  refine Ev_aload_n 0 dX8_keepsTime_0 rfl rfl ?_
  refine Ev_get (i := 3) cl_X8 yX_137 (Nat.le_of_ble_eq_true rfl) rfl wd_513 dX8_keepsTime_1 ?_
  refine Ev_sipushC dX8_keepsTime_4 rfl ?_
  refine Ev_icmp_le (tgt := 18) dX8_keepsTime_7 rfl (fun c => ?_) (fun c => ?_)
  · replace h := h.1 c
    refine Ev_iconst dX8_keepsTime_18 rfl (ev_Rc rfl) ?_
    refine Ev_goto (tgt := 23) dX8_keepsTime_19 rfl ?_
    exact Ev_iret rfl dX8_keepsTime_23 (ev_nb (by decide)) h
  · replace h := h.2 c
    refine Ev_aload_n 0 dX8_keepsTime_10 rfl rfl ?_
    refine Ev_iconst dX8_keepsTime_11 rfl (ev_Rc rfl) ?_
    refine Ev_callV (As := [ev_i 4]) (b := 137) (st := []) (M' := M_X8_faulty) cm_X8_faulty wd_935 wd_937 wd_8 yX_137 cl_X8 rfl dX8_keepsTime_12 (Nat.le_refl _) rfl (Nat.le_of_ble_eq_true rfl) (Nat.le_of_ble_eq_true rfl) h (fun v u h hk => ?_)
    obtain ⟨r2, rfl⟩ := hk
    obtain ⟨s1, rfl⟩ : ∃ x, x = u := ⟨_, rfl⟩
    replace h := h r2 rfl
    refine Ev_if_eq (tgt := 22) dX8_keepsTime_15 rfl (fun c => ?_) (fun c => ?_)
    · replace h := h.1 c
      refine Ev_iconst dX8_keepsTime_22 rfl (ev_Rc rfl) ?_
      exact Ev_iret rfl dX8_keepsTime_23 (ev_nb (by decide)) h
    · replace h := h.2 c
      refine Ev_iconst dX8_keepsTime_18 rfl (ev_Rc rfl) ?_
      refine Ev_goto (tgt := 23) dX8_keepsTime_19 rfl ?_
      exact Ev_iret rfl dX8_keepsTime_23 (ev_nb (by decide)) h
theorem dX8_takes_0 : decode cX8_takes 0 = .ok (.aload_n 0, 1) := by decide +kernel
theorem dX8_takes_1 : decode cX8_takes 1 = .ok (.getfield 83, 3) := by decide +kernel
theorem dX8_takes_4 : decode cX8_takes 4 = .ok (.iload_n 1, 1) := by decide +kernel
theorem dX8_takes_5 : decode cX8_takes 5 = .ok (.if_icmp .eq 9, 3) := by decide +kernel
theorem dX8_takes_8 : decode cX8_takes 8 = .ok (.aload_n 0, 1) := by decide +kernel
theorem dX8_takes_9 : decode cX8_takes 9 = .ok (.iconst 1, 1) := by decide +kernel
theorem dX8_takes_10 : decode cX8_takes 10 = .ok (.invokevirtual 89, 3) := by decide +kernel
theorem dX8_takes_13 : decode cX8_takes 13 = .ok (.ireturn, 1) := by decide +kernel
theorem dX8_takes_14 : decode cX8_takes 14 = .ok (.aload_n 0, 1) := by decide +kernel
theorem dX8_takes_15 : decode cX8_takes 15 = .ok (.invokevirtual 51, 3) := by decide +kernel
theorem dX8_takes_18 : decode cX8_takes 18 = .ok (.iconst 1, 1) := by decide +kernel
theorem dX8_takes_19 : decode cX8_takes 19 = .ok (.ireturn, 1) := by decide +kernel
theorem wp_X8_takes_0 {d : Nat} {s : ev_S} {Q : Option ev_V → ev_S → Prop} {a1 : Int}
    (h : (((s 137 7) = a1 → (Ev layX M_X8_advance d 0 [(0, ev_r 137)] [] s (fun _ s1 => Q (some (ev_i 1)) s1))) ∧ ((s 137 7) ≠ a1 → (Ev layX M_X8_faulty d 0 [(0, ev_r 137), (1, ev_i 1)] [] s (ev_pi (fun r3 s2 => ((r3 = 0 ∨ r3 = 1) ∧ Q (some (ev_i r3)) s2))))))) :
    Ev layX M_X8_takes (d + 1) 0 [(0, ev_r 137), (1, ev_i a1)] [] s Q := by
  refine Ev_aload_n 0 dX8_takes_0 rfl rfl ?_
  refine Ev_get (i := 7) cl_X8 yX_137 (Nat.le_of_ble_eq_true rfl) rfl wd_520 dX8_takes_1 ?_
  refine Ev_iload_n 1 dX8_takes_4 rfl rfl ?_
  refine Ev_icmp_eq (tgt := 14) dX8_takes_5 rfl (fun c => ?_) (fun c => ?_)
  · replace h := h.1 c
    refine Ev_aload_n 0 dX8_takes_14 rfl rfl ?_
    refine Ev_callV (As := []) (b := 137) (st := []) (M' := M_X8_advance) cm_X8_advance wd_923 wd_925 wd_5 yX_137 cl_X8 rfl dX8_takes_15 (Nat.le_refl _) rfl (Nat.le_of_ble_eq_true rfl) (Nat.le_of_ble_eq_true rfl) h (fun v u h hk => ?_)
    cases hk
    obtain ⟨s1, rfl⟩ : ∃ x, x = u := ⟨_, rfl⟩
    refine Ev_iconst dX8_takes_18 rfl (ev_Rc rfl) ?_
    exact Ev_iret rfl dX8_takes_19 (ev_nb (by decide)) h
  · replace h := h.2 c
    refine Ev_aload_n 0 dX8_takes_8 rfl rfl ?_
    refine Ev_iconst dX8_takes_9 rfl (ev_Rc rfl) ?_
    refine Ev_callV (As := [ev_i 1]) (b := 137) (st := []) (M' := M_X8_faulty) cm_X8_faulty wd_935 wd_937 wd_8 yX_137 cl_X8 rfl dX8_takes_10 (Nat.le_refl _) rfl (Nat.le_of_ble_eq_true rfl) (Nat.le_of_ble_eq_true rfl) h (fun v u h hk => ?_)
    obtain ⟨r3, rfl⟩ := hk
    obtain ⟨s2, rfl⟩ : ∃ x, x = u := ⟨_, rfl⟩
    replace h := h r3 rfl
    exact Ev_iret rfl dX8_takes_13 (ev_nb h.1) h.2
theorem dX8_passes_0 : decode cX8_passes 0 = .ok (.aload_n 0, 1) := by decide +kernel
theorem dX8_passes_1 : decode cX8_passes 1 = .ok (.getfield 83, 3) := by decide +kernel
theorem dX8_passes_4 : decode cX8_passes 4 = .ok (.iload_n 1, 1) := by decide +kernel
theorem dX8_passes_5 : decode cX8_passes 5 = .ok (.if_icmp .eq 5, 3) := by decide +kernel
theorem dX8_passes_8 : decode cX8_passes 8 = .ok (.iconst 0, 1) := by decide +kernel
theorem dX8_passes_9 : decode cX8_passes 9 = .ok (.ireturn, 1) := by decide +kernel
theorem dX8_passes_10 : decode cX8_passes 10 = .ok (.aload_n 0, 1) := by decide +kernel
theorem dX8_passes_11 : decode cX8_passes 11 = .ok (.invokevirtual 51, 3) := by decide +kernel
theorem dX8_passes_14 : decode cX8_passes 14 = .ok (.iconst 1, 1) := by decide +kernel
theorem dX8_passes_15 : decode cX8_passes 15 = .ok (.ireturn, 1) := by decide +kernel
theorem wp_X8_passes_0 {d : Nat} {s : ev_S} {Q : Option ev_V → ev_S → Prop} {a1 : Int}
    (h : (((s 137 7) = a1 → (Ev layX M_X8_advance d 0 [(0, ev_r 137)] [] s (fun _ s1 => Q (some (ev_i 1)) s1))) ∧ ((s 137 7) ≠ a1 → Q (some (ev_i 0)) s))) :
    Ev layX M_X8_passes (d + 1) 0 [(0, ev_r 137), (1, ev_i a1)] [] s Q := by
  refine Ev_aload_n 0 dX8_passes_0 rfl rfl ?_
  refine Ev_get (i := 7) cl_X8 yX_137 (Nat.le_of_ble_eq_true rfl) rfl wd_520 dX8_passes_1 ?_
  refine Ev_iload_n 1 dX8_passes_4 rfl rfl ?_
  refine Ev_icmp_eq (tgt := 10) dX8_passes_5 rfl (fun c => ?_) (fun c => ?_)
  · replace h := h.1 c
    refine Ev_aload_n 0 dX8_passes_10 rfl rfl ?_
    refine Ev_callV (As := []) (b := 137) (st := []) (M' := M_X8_advance) cm_X8_advance wd_923 wd_925 wd_5 yX_137 cl_X8 rfl dX8_passes_11 (Nat.le_refl _) rfl (Nat.le_of_ble_eq_true rfl) (Nat.le_of_ble_eq_true rfl) h (fun v u h hk => ?_)
    cases hk
    obtain ⟨s1, rfl⟩ : ∃ x, x = u := ⟨_, rfl⟩
    refine Ev_iconst dX8_passes_14 rfl (ev_Rc rfl) ?_
    exact Ev_iret rfl dX8_passes_15 (ev_nb (by decide)) h
  · replace h := h.2 c
    refine Ev_iconst dX8_passes_8 rfl (ev_Rc rfl) ?_
    exact Ev_iret rfl dX8_passes_9 (ev_nb (by decide)) h
theorem dX8_number_0 : decode cX8_number 0 = .ok (.aload_n 0, 1) := by decide +kernel
theorem dX8_number_1 : decode cX8_number 1 = .ok (.getfield 48, 3) := by decide +kernel
theorem dX8_number_4 : decode cX8_number 4 = .ok (.ifCond .lt 32, 3) := by decide +kernel
theorem dX8_number_7 : decode cX8_number 7 = .ok (.aload_n 0, 1) := by decide +kernel
theorem dX8_number_8 : decode cX8_number 8 = .ok (.getfield 48, 3) := by decide +kernel
theorem dX8_number_11 : decode cX8_number 11 = .ok (.aload_n 0, 1) := by decide +kernel
theorem dX8_number_12 : decode cX8_number 12 = .ok (.getfield 26, 3) := by decide +kernel
theorem dX8_number_15 : decode cX8_number 15 = .ok (.getfield 77, 3) := by decide +kernel
theorem dX8_number_18 : decode cX8_number 18 = .ok (.if_icmp .ge 18, 3) := by decide +kernel
theorem dX8_number_21 : decode cX8_number 21 = .ok (.aload_n 0, 1) := by decide +kernel
theorem dX8_number_22 : decode cX8_number 22 = .ok (.getfield 26, 3) := by decide +kernel
theorem dX8_number_25 : decode cX8_number 25 = .ok (.getfield 92, 3) := by decide +kernel
theorem dX8_number_28 : decode cX8_number 28 = .ok (.aload_n 0, 1) := by decide +kernel
theorem dX8_number_29 : decode cX8_number 29 = .ok (.getfield 48, 3) := by decide +kernel
theorem dX8_number_32 : decode cX8_number 32 = .ok (.iaload, 1) := by decide +kernel
theorem dX8_number_33 : decode cX8_number 33 = .ok (.goto 4, 3) := by decide +kernel
theorem dX8_number_36 : decode cX8_number 36 = .ok (.iconst (-1), 1) := by decide +kernel
theorem dX8_number_37 : decode cX8_number 37 = .ok (.ireturn, 1) := by decide +kernel
theorem wp_X8_number_0 {d : Nat} {s : ev_S} {Q : Option ev_V → ev_S → Prop}
    (h : (((s 137 6) < 0 → Q (some (ev_i (-1))) s) ∧ (0 ≤ (s 137 6) → (((s 132 5) ≤ (s 137 6) → Q (some (ev_i (-1))) s) ∧ ((s 137 6) < (s 132 5) → ((0 ≤ (s 137 6) ∧ (s 137 6) < (400 : Nat)) ∧ Q (some (ev_i (s 135 (Int.toNat (s 137 6))))) s)))))) :
    Ev layX M_X8_number d 0 [(0, ev_r 137)] [] s Q := by
  refine Ev_aload_n 0 dX8_number_0 rfl rfl ?_
  refine Ev_get (i := 6) cl_X8 yX_137 (Nat.le_of_ble_eq_true rfl) rfl wd_519 dX8_number_1 ?_
  refine Ev_if_lt (tgt := 36) dX8_number_4 rfl (fun c => ?_) (fun c => ?_)
  · replace h := h.1 c
    refine Ev_iconst dX8_number_36 rfl (ev_Rc rfl) ?_
    exact Ev_iret rfl dX8_number_37 rfl h
  · replace h := h.2 c
    refine Ev_aload_n 0 dX8_number_7 rfl rfl ?_
    refine Ev_get (i := 6) cl_X8 yX_137 (Nat.le_of_ble_eq_true rfl) rfl wd_519 dX8_number_8 ?_
    refine Ev_aload_n 0 dX8_number_11 rfl rfl ?_
    refine Ev_getR (i := 0) cl_X8 yX_137 (Nat.le_of_ble_eq_true rfl) rfl wd_509 dX8_number_12 ?_
    refine Ev_get (i := 5) cl_X9 yX_132 (Nat.le_of_ble_eq_true rfl) rfl wd_487 dX8_number_15 ?_
    refine Ev_icmp_ge (tgt := 36) dX8_number_18 rfl (fun c => ?_) (fun c => ?_)
    · replace h := h.1 c
      refine Ev_iconst dX8_number_36 rfl (ev_Rc rfl) ?_
      exact Ev_iret rfl dX8_number_37 rfl h
    · replace h := h.2 c
      refine Ev_aload_n 0 dX8_number_21 rfl rfl ?_
      refine Ev_getR (i := 0) cl_X8 yX_137 (Nat.le_of_ble_eq_true rfl) rfl wd_509 dX8_number_22 ?_
      refine Ev_getR (i := 3) cl_X9 yX_132 (Nat.le_of_ble_eq_true rfl) rfl wd_483 dX8_number_25 ?_
      refine Ev_aload_n 0 dX8_number_28 rfl rfl ?_
      refine Ev_get (i := 6) cl_X8 yX_137 (Nat.le_of_ble_eq_true rfl) rfl wd_519 dX8_number_29 ?_
      obtain ⟨h0, h⟩ := h
      refine Ev_iald yX_135 h0 dX8_number_32 ?_
      refine Ev_goto (tgt := 37) dX8_number_33 rfl ?_
      exact Ev_iret rfl dX8_number_37 rfl h
theorem dX8_takeNumber_0 : decode cX8_takeNumber 0 = .ok (.aload_n 0, 1) := by decide +kernel
theorem dX8_takeNumber_1 : decode cX8_takeNumber 1 = .ok (.invokevirtual 95, 3) := by decide +kernel
theorem dX8_takeNumber_4 : decode cX8_takeNumber 4 = .ok (.istore_n 3, 1) := by decide +kernel
theorem dX8_takeNumber_5 : decode cX8_takeNumber 5 = .ok (.aload_n 0, 1) := by decide +kernel
theorem dX8_takeNumber_6 : decode cX8_takeNumber 6 = .ok (.getfield 83, 3) := by decide +kernel
theorem dX8_takeNumber_9 : decode cX8_takeNumber 9 = .ok (.bipush 50, 2) := by decide +kernel
theorem dX8_takeNumber_11 : decode cX8_takeNumber 11 = .ok (.if_icmp .eq 11, 3) := by decide +kernel
theorem dX8_takeNumber_14 : decode cX8_takeNumber 14 = .ok (.aload_n 0, 1) := by decide +kernel
theorem dX8_takeNumber_15 : decode cX8_takeNumber 15 = .ok (.iconst 1, 1) := by decide +kernel
theorem dX8_takeNumber_16 : decode cX8_takeNumber 16 = .ok (.invokevirtual 89, 3) := by decide +kernel
theorem dX8_takeNumber_19 : decode cX8_takeNumber 19 = .ok (.pop, 1) := by decide +kernel
theorem dX8_takeNumber_20 : decode cX8_takeNumber 20 = .ok (.iconst (-1), 1) := by decide +kernel
theorem dX8_takeNumber_21 : decode cX8_takeNumber 21 = .ok (.ireturn, 1) := by decide +kernel
theorem dX8_takeNumber_22 : decode cX8_takeNumber 22 = .ok (.iload_n 3, 1) := by decide +kernel
theorem dX8_takeNumber_23 : decode cX8_takeNumber 23 = .ok (.iload_n 1, 1) := by decide +kernel
theorem dX8_takeNumber_24 : decode cX8_takeNumber 24 = .ok (.if_icmp .lt 8, 3) := by decide +kernel
theorem dX8_takeNumber_27 : decode cX8_takeNumber 27 = .ok (.iload_n 3, 1) := by decide +kernel
theorem dX8_takeNumber_28 : decode cX8_takeNumber 28 = .ok (.iload_n 2, 1) := by decide +kernel
theorem dX8_takeNumber_29 : decode cX8_takeNumber 29 = .ok (.if_icmp .le 11, 3) := by decide +kernel
theorem dX8_takeNumber_32 : decode cX8_takeNumber 32 = .ok (.aload_n 0, 1) := by decide +kernel
theorem dX8_takeNumber_33 : decode cX8_takeNumber 33 = .ok (.iconst 2, 1) := by decide +kernel
theorem dX8_takeNumber_34 : decode cX8_takeNumber 34 = .ok (.invokevirtual 89, 3) := by decide +kernel
theorem dX8_takeNumber_37 : decode cX8_takeNumber 37 = .ok (.pop, 1) := by decide +kernel
theorem dX8_takeNumber_38 : decode cX8_takeNumber 38 = .ok (.iconst (-1), 1) := by decide +kernel
theorem dX8_takeNumber_39 : decode cX8_takeNumber 39 = .ok (.ireturn, 1) := by decide +kernel
theorem dX8_takeNumber_40 : decode cX8_takeNumber 40 = .ok (.aload_n 0, 1) := by decide +kernel
theorem dX8_takeNumber_41 : decode cX8_takeNumber 41 = .ok (.invokevirtual 51, 3) := by decide +kernel
theorem dX8_takeNumber_44 : decode cX8_takeNumber 44 = .ok (.iload_n 3, 1) := by decide +kernel
theorem dX8_takeNumber_45 : decode cX8_takeNumber 45 = .ok (.ireturn, 1) := by decide +kernel
theorem wp_X8_takeNumber_0 {d : Nat} {s : ev_S} {Q : Option ev_V → ev_S → Prop} {a1 a2 : Int}
    (h : (Ev layX M_X8_number d 0 [(0, ev_r 137)] [] s (ev_pi (fun r2 s1 => (((s1 137 7) = 50 → ((r2 < a1 → (Ev layX M_X8_faulty d 0 [(0, ev_r 137), (1, ev_i 2)] [] s1 (ev_pi (fun r4 s3 => Q (some (ev_i (-1))) s3)))) ∧ (a1 ≤ r2 → ((r2 ≤ a2 → (Ev layX M_X8_advance d 0 [(0, ev_r 137)] [] s1 (fun _ s5 => Q (some (ev_i r2)) s5))) ∧ (a2 < r2 → (Ev layX M_X8_faulty d 0 [(0, ev_r 137), (1, ev_i 2)] [] s1 (ev_pi (fun r7 s6 => Q (some (ev_i (-1))) s6)))))))) ∧ ((s1 137 7) ≠ 50 → (Ev layX M_X8_faulty d 0 [(0, ev_r 137), (1, ev_i 1)] [] s1 (ev_pi (fun r9 s8 => Q (some (ev_i (-1))) s8))))))))) :
    Ev layX M_X8_takeNumber (d + 1) 0 [(0, ev_r 137), (1, ev_i a1), (2, ev_i a2)] [] s Q := by
  refine Ev_aload_n 0 dX8_takeNumber_0 rfl rfl ?_
  refine Ev_callV (As := []) (b := 137) (st := []) (M' := M_X8_number) cm_X8_number wd_943 wd_945 wd_10 yX_137 cl_X8 rfl dX8_takeNumber_1 (Nat.le_refl _) rfl (Nat.le_of_ble_eq_true rfl) (Nat.le_of_ble_eq_true rfl) h (fun v u h hk => ?_)
  obtain ⟨r2, rfl⟩ := hk
  obtain ⟨s1, rfl⟩ : ∃ x, x = u := ⟨_, rfl⟩
  replace h := h r2 rfl
  refine Ev_istore_n (l' := [(3, ev_i r2), (0, ev_r 137), (1, ev_i a1), (2, ev_i a2)]) dX8_takeNumber_4 rfl (Nat.le_of_ble_eq_true rfl) rfl ?_
  refine Ev_aload_n 1 dX8_takeNumber_5 rfl rfl ?_
  refine Ev_get (i := 7) cl_X8 yX_137 (Nat.le_of_ble_eq_true rfl) rfl wd_520 dX8_takeNumber_6 ?_
  refine Ev_bipushC dX8_takeNumber_9 rfl ?_
  refine Ev_icmp_eq (tgt := 22) dX8_takeNumber_11 rfl (fun c => ?_) (fun c => ?_)
  · replace h := h.1 c
    refine Ev_iload_n 0 dX8_takeNumber_22 rfl rfl ?_
    refine Ev_iload_n 2 dX8_takeNumber_23 rfl rfl ?_
    refine Ev_icmp_lt (tgt := 32) dX8_takeNumber_24 rfl (fun c => ?_) (fun c => ?_)
    · replace h := h.1 c
      refine Ev_aload_n 1 dX8_takeNumber_32 rfl rfl ?_
      refine Ev_iconst dX8_takeNumber_33 rfl (ev_Rc rfl) ?_
      refine Ev_callV (As := [ev_i 2]) (b := 137) (st := []) (M' := M_X8_faulty) cm_X8_faulty wd_935 wd_937 wd_8 yX_137 cl_X8 rfl dX8_takeNumber_34 (Nat.le_refl _) rfl (Nat.le_of_ble_eq_true rfl) (Nat.le_of_ble_eq_true rfl) h (fun v u h hk => ?_)
      obtain ⟨r4, rfl⟩ := hk
      obtain ⟨s3, rfl⟩ : ∃ x, x = u := ⟨_, rfl⟩
      replace h := h r4 rfl
      refine Ev_pop dX8_takeNumber_37 rfl ?_
      refine Ev_iconst dX8_takeNumber_38 rfl (ev_Rc rfl) ?_
      exact Ev_iret rfl dX8_takeNumber_39 rfl h
    · replace h := h.2 c
      refine Ev_iload_n 0 dX8_takeNumber_27 rfl rfl ?_
      refine Ev_iload_n 3 dX8_takeNumber_28 rfl rfl ?_
      refine Ev_icmp_le (tgt := 40) dX8_takeNumber_29 rfl (fun c => ?_) (fun c => ?_)
      · replace h := h.1 c
        refine Ev_aload_n 1 dX8_takeNumber_40 rfl rfl ?_
        refine Ev_callV (As := []) (b := 137) (st := []) (M' := M_X8_advance) cm_X8_advance wd_923 wd_925 wd_5 yX_137 cl_X8 rfl dX8_takeNumber_41 (Nat.le_refl _) rfl (Nat.le_of_ble_eq_true rfl) (Nat.le_of_ble_eq_true rfl) h (fun v u h hk => ?_)
        cases hk
        obtain ⟨s5, rfl⟩ : ∃ x, x = u := ⟨_, rfl⟩
        refine Ev_iload_n 0 dX8_takeNumber_44 rfl rfl ?_
        exact Ev_iret rfl dX8_takeNumber_45 rfl h
      · replace h := h.2 c
        refine Ev_aload_n 1 dX8_takeNumber_32 rfl rfl ?_
        refine Ev_iconst dX8_takeNumber_33 rfl (ev_Rc rfl) ?_
        refine Ev_callV (As := [ev_i 2]) (b := 137) (st := []) (M' := M_X8_faulty) cm_X8_faulty wd_935 wd_937 wd_8 yX_137 cl_X8 rfl dX8_takeNumber_34 (Nat.le_refl _) rfl (Nat.le_of_ble_eq_true rfl) (Nat.le_of_ble_eq_true rfl) h (fun v u h hk => ?_)
        obtain ⟨r7, rfl⟩ := hk
        obtain ⟨s6, rfl⟩ : ∃ x, x = u := ⟨_, rfl⟩
        replace h := h r7 rfl
        refine Ev_pop dX8_takeNumber_37 rfl ?_
        refine Ev_iconst dX8_takeNumber_38 rfl (ev_Rc rfl) ?_
        exact Ev_iret rfl dX8_takeNumber_39 rfl h
  · replace h := h.2 c
    refine Ev_aload_n 1 dX8_takeNumber_14 rfl rfl ?_
    refine Ev_iconst dX8_takeNumber_15 rfl (ev_Rc rfl) ?_
    refine Ev_callV (As := [ev_i 1]) (b := 137) (st := []) (M' := M_X8_faulty) cm_X8_faulty wd_935 wd_937 wd_8 yX_137 cl_X8 rfl dX8_takeNumber_16 (Nat.le_refl _) rfl (Nat.le_of_ble_eq_true rfl) (Nat.le_of_ble_eq_true rfl) h (fun v u h hk => ?_)
    obtain ⟨r9, rfl⟩ := hk
    obtain ⟨s8, rfl⟩ : ∃ x, x = u := ⟨_, rfl⟩
    replace h := h r9 rfl
    refine Ev_pop dX8_takeNumber_19 rfl ?_
    refine Ev_iconst dX8_takeNumber_20 rfl (ev_Rc rfl) ?_
    exact Ev_iret rfl dX8_takeNumber_21 rfl h
theorem dX8_takePlace_0 : decode cX8_takePlace 0 = .ok (.aload_n 0, 1) := by decide +kernel
theorem dX8_takePlace_1 : decode cX8_takePlace 1 = .ok (.getfield 83, 3) := by decide +kernel
theorem dX8_takePlace_4 : decode cX8_takePlace 4 = .ok (.bipush 50, 2) := by decide +kernel
theorem dX8_takePlace_6 : decode cX8_takePlace 6 = .ok (.if_icmp .ne 25, 3) := by decide +kernel
theorem dX8_takePlace_9 : decode cX8_takePlace 9 = .ok (.aload_n 0, 1) := by decide +kernel
theorem dX8_takePlace_10 : decode cX8_takePlace 10 = .ok (.getfield 30, 3) := by decide +kernel
theorem dX8_takePlace_13 : decode cX8_takePlace 13 = .ok (.aload_n 0, 1) := by decide +kernel
theorem dX8_takePlace_14 : decode cX8_takePlace 14 = .ok (.invokevirtual 95, 3) := by decide +kernel
theorem dX8_takePlace_17 : decode cX8_takePlace 17 = .ok (.invokevirtual 99, 3) := by decide +kernel
theorem dX8_takePlace_20 : decode cX8_takePlace 20 = .ok (.ifCond .ne 11, 3) := by decide +kernel
theorem dX8_takePlace_23 : decode cX8_takePlace 23 = .ok (.aload_n 0, 1) := by decide +kernel
theorem dX8_takePlace_24 : decode cX8_takePlace 24 = .ok (.iconst 2, 1) := by decide +kernel
theorem dX8_takePlace_25 : decode cX8_takePlace 25 = .ok (.invokevirtual 89, 3) := by decide +kernel
theorem dX8_takePlace_28 : decode cX8_takePlace 28 = .ok (.pop, 1) := by decide +kernel
theorem dX8_takePlace_29 : decode cX8_takePlace 29 = .ok (.iconst (-1), 1) := by decide +kernel
theorem dX8_takePlace_30 : decode cX8_takePlace 30 = .ok (.ireturn, 1) := by decide +kernel
theorem dX8_takePlace_31 : decode cX8_takePlace 31 = .ok (.aload_n 0, 1) := by decide +kernel
theorem dX8_takePlace_32 : decode cX8_takePlace 32 = .ok (.iconst 0, 1) := by decide +kernel
theorem dX8_takePlace_33 : decode cX8_takePlace 33 = .ok (.bipush 63, 2) := by decide +kernel
theorem dX8_takePlace_35 : decode cX8_takePlace 35 = .ok (.invokevirtual 104, 3) := by decide +kernel
theorem dX8_takePlace_38 : decode cX8_takePlace 38 = .ok (.ireturn, 1) := by decide +kernel
theorem wp_X8_takePlace_0 {d : Nat} {s : ev_S} {Q : Option ev_V → ev_S → Prop}
    (h : (((s 137 7) ≠ 50 → (Ev layX M_X8_takeNumber d 0 [(0, ev_r 137), (1, ev_i 0), (2, ev_i 63)] [] s (ev_pi (fun r2 s1 => Q (some (ev_i r2)) s1)))) ∧ ((s 137 7) = 50 → (Ev layX M_X8_number d 0 [(0, ev_r 137)] [] s (ev_pi (fun r4 s3 => (Ev layX M_X10_hasPlace d 0 [(0, ev_r 1), (1, ev_i r4)] [] s3 (ev_pi (fun r6 s5 => ((r6 ≠ 0 → (Ev layX M_X8_takeNumber d 0 [(0, ev_r 137), (1, ev_i 0), (2, ev_i 63)] [] s5 (ev_pi (fun r8 s7 => Q (some (ev_i r8)) s7)))) ∧ (r6 = 0 → (Ev layX M_X8_faulty d 0 [(0, ev_r 137), (1, ev_i 2)] [] s5 (ev_pi (fun r10 s9 => Q (some (ev_i (-1))) s9)))))))))))))) :
    Ev layX M_X8_takePlace (d + 1) 0 [(0, ev_r 137)] [] s Q := by
  refine Ev_aload_n 0 dX8_takePlace_0 rfl rfl ?_
  refine Ev_get (i := 7) cl_X8 yX_137 (Nat.le_of_ble_eq_true rfl) rfl wd_520 dX8_takePlace_1 ?_
  refine Ev_bipushC dX8_takePlace_4 rfl ?_
  refine Ev_icmp_ne (tgt := 31) dX8_takePlace_6 rfl (fun c => ?_) (fun c => ?_)
  · replace h := h.1 c
    refine Ev_aload_n 0 dX8_takePlace_31 rfl rfl ?_
    refine Ev_iconst dX8_takePlace_32 rfl (ev_Rc rfl) ?_
    refine Ev_bipushC dX8_takePlace_33 rfl ?_
    refine Ev_callV (As := [ev_i 0, ev_i 63]) (b := 137) (st := []) (M' := M_X8_takeNumber) cm_X8_takeNumber wd_939 wd_941 wd_9 yX_137 cl_X8 rfl dX8_takePlace_35 (Nat.le_refl _) rfl (Nat.le_of_ble_eq_true rfl) (Nat.le_of_ble_eq_true rfl) h (fun v u h hk => ?_)
    obtain ⟨r2, rfl⟩ := hk
    obtain ⟨s1, rfl⟩ : ∃ x, x = u := ⟨_, rfl⟩
    replace h := h r2 rfl
    exact Ev_iret rfl dX8_takePlace_38 rfl h
  · replace h := h.2 c
    refine Ev_aload_n 0 dX8_takePlace_9 rfl rfl ?_
    refine Ev_getR (i := 1) cl_X8 yX_137 (Nat.le_of_ble_eq_true rfl) rfl wd_510 dX8_takePlace_10 ?_
    refine Ev_aload_n 0 dX8_takePlace_13 rfl rfl ?_
    refine Ev_callV (As := []) (b := 137) (st := [ev_r 1]) (M' := M_X8_number) cm_X8_number wd_943 wd_945 wd_10 yX_137 cl_X8 rfl dX8_takePlace_14 (Nat.le_refl _) rfl (Nat.le_of_ble_eq_true rfl) (Nat.le_of_ble_eq_true rfl) h (fun v u h hk => ?_)
    obtain ⟨r4, rfl⟩ := hk
    obtain ⟨s3, rfl⟩ : ∃ x, x = u := ⟨_, rfl⟩
    replace h := h r4 rfl
    refine Ev_callV (As := [ev_i r4]) (b := 1) (st := []) (M' := M_X10_hasPlace) cm_X10_hasPlace wd_971 wd_760 wd_761 yX_1 cl_X10 rfl dX8_takePlace_17 (Nat.le_refl _) rfl (Nat.le_of_ble_eq_true rfl) (Nat.le_of_ble_eq_true rfl) h (fun v u h hk => ?_)
    obtain ⟨r6, rfl⟩ := hk
    obtain ⟨s5, rfl⟩ : ∃ x, x = u := ⟨_, rfl⟩
    replace h := h r6 rfl
    refine Ev_if_ne (tgt := 31) dX8_takePlace_20 rfl (fun c => ?_) (fun c => ?_)
    · replace h := h.1 c
      refine Ev_aload_n 0 dX8_takePlace_31 rfl rfl ?_
      refine Ev_iconst dX8_takePlace_32 rfl (ev_Rc rfl) ?_
      refine Ev_bipushC dX8_takePlace_33 rfl ?_
      refine Ev_callV (As := [ev_i 0, ev_i 63]) (b := 137) (st := []) (M' := M_X8_takeNumber) cm_X8_takeNumber wd_939 wd_941 wd_9 yX_137 cl_X8 rfl dX8_takePlace_35 (Nat.le_refl _) rfl (Nat.le_of_ble_eq_true rfl) (Nat.le_of_ble_eq_true rfl) h (fun v u h hk => ?_)
      obtain ⟨r8, rfl⟩ := hk
      obtain ⟨s7, rfl⟩ : ∃ x, x = u := ⟨_, rfl⟩
      replace h := h r8 rfl
      exact Ev_iret rfl dX8_takePlace_38 rfl h
    · replace h := h.2 c
      refine Ev_aload_n 0 dX8_takePlace_23 rfl rfl ?_
      refine Ev_iconst dX8_takePlace_24 rfl (ev_Rc rfl) ?_
      refine Ev_callV (As := [ev_i 2]) (b := 137) (st := []) (M' := M_X8_faulty) cm_X8_faulty wd_935 wd_937 wd_8 yX_137 cl_X8 rfl dX8_takePlace_25 (Nat.le_refl _) rfl (Nat.le_of_ble_eq_true rfl) (Nat.le_of_ble_eq_true rfl) h (fun v u h hk => ?_)
      obtain ⟨r10, rfl⟩ := hk
      obtain ⟨s9, rfl⟩ : ∃ x, x = u := ⟨_, rfl⟩
      replace h := h r10 rfl
      refine Ev_pop dX8_takePlace_28 rfl ?_
      refine Ev_iconst dX8_takePlace_29 rfl (ev_Rc rfl) ?_
      exact Ev_iret rfl dX8_takePlace_30 rfl h
theorem dX8_readSteps_0 : decode cX8_readSteps 0 = .ok (.iconst 1, 1) := by decide +kernel
theorem dX8_readSteps_1 : decode cX8_readSteps 1 = .ok (.istore_n 2, 1) := by decide +kernel
theorem dX8_readSteps_2 : decode cX8_readSteps 2 = .ok (.iconst 0, 1) := by decide +kernel
theorem dX8_readSteps_3 : decode cX8_readSteps 3 = .ok (.istore_n 3, 1) := by decide +kernel
theorem dX8_readSteps_4 : decode cX8_readSteps 4 = .ok (.iload_n 3, 1) := by decide +kernel
theorem dX8_readSteps_5 : decode cX8_readSteps 5 = .ok (.sipush 400, 3) := by decide +kernel
theorem dX8_readSteps_8 : decode cX8_readSteps 8 = .ok (.if_icmp .ge 42, 3) := by decide +kernel
theorem dX8_readSteps_11 : decode cX8_readSteps 11 = .ok (.iload_n 2, 1) := by decide +kernel
theorem dX8_readSteps_12 : decode cX8_readSteps 12 = .ok (.ifCond .eq 38, 3) := by decide +kernel
theorem dX8_readSteps_15 : decode cX8_readSteps 15 = .ok (.aload_n 0, 1) := by decide +kernel
theorem dX8_readSteps_16 : decode cX8_readSteps 16 = .ok (.getfield 83, 3) := by decide +kernel
theorem dX8_readSteps_19 : decode cX8_readSteps 19 = .ok (.iconst 5, 1) := by decide +kernel
theorem dX8_readSteps_20 : decode cX8_readSteps 20 = .ok (.if_icmp .gt 30, 3) := by decide +kernel
theorem dX8_readSteps_23 : decode cX8_readSteps 23 = .ok (.aload_n 0, 1) := by decide +kernel
theorem dX8_readSteps_24 : decode cX8_readSteps 24 = .ok (.getfield 83, 3) := by decide +kernel
theorem dX8_readSteps_27 : decode cX8_readSteps 27 = .ok (.iconst 5, 1) := by decide +kernel
theorem dX8_readSteps_28 : decode cX8_readSteps 28 = .ok (.if_icmp .ne 11, 3) := by decide +kernel
theorem dX8_readSteps_31 : decode cX8_readSteps 31 = .ok (.aload_n 0, 1) := by decide +kernel
theorem dX8_readSteps_32 : decode cX8_readSteps 32 = .ok (.iload_n 1, 1) := by decide +kernel
theorem dX8_readSteps_33 : decode cX8_readSteps 33 = .ok (.invokevirtual 108, 3) := by decide +kernel
theorem dX8_readSteps_36 : decode cX8_readSteps 36 = .ok (.goto 7, 3) := by decide +kernel
theorem dX8_readSteps_39 : decode cX8_readSteps 39 = .ok (.aload_n 0, 1) := by decide +kernel
theorem dX8_readSteps_40 : decode cX8_readSteps 40 = .ok (.invokevirtual 111, 3) := by decide +kernel
theorem dX8_readSteps_43 : decode cX8_readSteps 43 = .ok (.istore_n 2, 1) := by decide +kernel
theorem dX8_readSteps_44 : decode cX8_readSteps 44 = .ok (.iinc 3 1, 3) := by decide +kernel
theorem dX8_readSteps_47 : decode cX8_readSteps 47 = .ok (.goto (-43), 3) := by decide +kernel
theorem dX8_readSteps_50 : decode cX8_readSteps 50 = .ok (.iload_n 2, 1) := by decide +kernel
theorem dX8_readSteps_51 : decode cX8_readSteps 51 = .ok (.ireturn, 1) := by decide +kernel
theorem wp_X8_readSteps_0 {d : Nat} {s : ev_S} {Q : Option ev_V → ev_S → Prop} {a1 : Int}
    (h : Ev layX M_X8_readSteps (d + 1) 4 [(0, ev_r 137), (1, ev_i a1), (2, ev_i 1), (3, ev_i 0)] [] s Q) :
    Ev layX M_X8_readSteps (d + 1) 0 [(0, ev_r 137), (1, ev_i a1)] [] s Q := by
  refine Ev_iconst dX8_readSteps_0 rfl (ev_Rc rfl) ?_
  refine Ev_istore_n (l' := [(2, ev_i 1), (0, ev_r 137), (1, ev_i a1)]) dX8_readSteps_1 rfl (Nat.le_of_ble_eq_true rfl) rfl ?_
  refine Ev_iconst dX8_readSteps_2 rfl (ev_Rc rfl) ?_
  refine Ev_istore_n (l' := [(3, ev_i 0), (2, ev_i 1), (0, ev_r 137), (1, ev_i a1)]) dX8_readSteps_3 rfl (Nat.le_of_ble_eq_true rfl) rfl ?_
  exact Ev_sub [2, 3, 1, 0] rfl h
theorem wp_X8_readSteps_4 {d : Nat} {s : ev_S} {Q : Option ev_V → ev_S → Prop} {a1 a2 a3 : Int}
    (h : ((400 ≤ a3 → ((a2 = 0 ∨ a2 = 1) ∧ Q (some (ev_i a2)) s)) ∧ (a3 < 400 → ((a2 = 0 → ((a2 = 0 ∨ a2 = 1) ∧ Q (some (ev_i a2)) s)) ∧ (a2 ≠ 0 → ((5 < (s 137 7) → ((a2 = 0 ∨ a2 = 1) ∧ Q (some (ev_i a2)) s)) ∧ ((s 137 7) ≤ 5 → (((s 137 7) ≠ 5 → (Ev layX M_X8_readStep d 0 [(0, ev_r 137)] [] s (ev_pi (fun r2 s1 => Ev layX M_X8_readSteps (d + 1) 4 [(0, ev_r 137), (1, ev_i a1), (2, ev_i r2), (3, ev_i (ev_add a3 1))] [] s1 Q)))) ∧ ((s 137 7) = 5 → (Ev layX M_X8_readAgain d 0 [(0, ev_r 137), (1, ev_i a1)] [] s (ev_pi (fun r4 s3 => Ev layX M_X8_readSteps (d + 1) 4 [(0, ev_r 137), (1, ev_i a1), (2, ev_i r4), (3, ev_i (ev_add a3 1))] [] s3 Q)))))))))))) :
    Ev layX M_X8_readSteps (d + 1) 4 [(0, ev_r 137), (1, ev_i a1), (2, ev_i a2), (3, ev_i a3)] [] s Q := by
  refine Ev_iload_n 3 dX8_readSteps_4 rfl rfl ?_
  refine Ev_sipushC dX8_readSteps_5 rfl ?_
  refine Ev_icmp_ge (tgt := 50) dX8_readSteps_8 rfl (fun c => ?_) (fun c => ?_)
  · replace h := h.1 c
    refine Ev_iload_n 2 dX8_readSteps_50 rfl rfl ?_
    exact Ev_iret rfl dX8_readSteps_51 (ev_nb h.1) h.2
  · replace h := h.2 c
    refine Ev_iload_n 2 dX8_readSteps_11 rfl rfl ?_
    refine Ev_if_eq (tgt := 50) dX8_readSteps_12 rfl (fun c => ?_) (fun c => ?_)
    · replace h := h.1 c
      refine Ev_iload_n 2 dX8_readSteps_50 rfl rfl ?_
      exact Ev_iret rfl dX8_readSteps_51 (ev_nb h.1) h.2
    · replace h := h.2 c
      refine Ev_aload_n 0 dX8_readSteps_15 rfl rfl ?_
      refine Ev_get (i := 7) cl_X8 yX_137 (Nat.le_of_ble_eq_true rfl) rfl wd_520 dX8_readSteps_16 ?_
      refine Ev_iconst dX8_readSteps_19 rfl (ev_Rc rfl) ?_
      refine Ev_icmp_gt (tgt := 50) dX8_readSteps_20 rfl (fun c => ?_) (fun c => ?_)
      · replace h := h.1 c
        refine Ev_iload_n 2 dX8_readSteps_50 rfl rfl ?_
        exact Ev_iret rfl dX8_readSteps_51 (ev_nb h.1) h.2
      · replace h := h.2 c
        refine Ev_aload_n 0 dX8_readSteps_23 rfl rfl ?_
        refine Ev_get (i := 7) cl_X8 yX_137 (Nat.le_of_ble_eq_true rfl) rfl wd_520 dX8_readSteps_24 ?_
        refine Ev_iconst dX8_readSteps_27 rfl (ev_Rc rfl) ?_
        refine Ev_icmp_ne (tgt := 39) dX8_readSteps_28 rfl (fun c => ?_) (fun c => ?_)
        · replace h := h.1 c
          refine Ev_aload_n 0 dX8_readSteps_39 rfl rfl ?_
          refine Ev_callV (As := []) (b := 137) (st := []) (M' := M_X8_readStep) cm_X8_readStep wd_951 wd_953 wd_12 yX_137 cl_X8 rfl dX8_readSteps_40 (Nat.le_refl _) rfl (Nat.le_of_ble_eq_true rfl) (Nat.le_of_ble_eq_true rfl) h (fun v u h hk => ?_)
          obtain ⟨r2, rfl⟩ := hk
          obtain ⟨s1, rfl⟩ : ∃ x, x = u := ⟨_, rfl⟩
          replace h := h r2 rfl
          refine Ev_istore_n (l' := [(2, ev_i r2), (0, ev_r 137), (1, ev_i a1), (3, ev_i a3)]) dX8_readSteps_43 rfl (Nat.le_of_ble_eq_true rfl) rfl ?_
          refine Ev_iinc (j := 3) (l' := [(3, ev_i (ev_add a3 1)), (2, ev_i r2), (0, ev_r 137), (1, ev_i a1)]) dX8_readSteps_44 rfl (Nat.le_of_ble_eq_true rfl) rfl ?_
          refine Ev_goto (tgt := 4) dX8_readSteps_47 rfl ?_
          exact Ev_sub [2, 3, 1, 0] rfl h
        · replace h := h.2 c
          refine Ev_aload_n 0 dX8_readSteps_31 rfl rfl ?_
          refine Ev_iload_n 1 dX8_readSteps_32 rfl rfl ?_
          refine Ev_callV (As := [ev_i a1]) (b := 137) (st := []) (M' := M_X8_readAgain) cm_X8_readAgain wd_931 wd_933 wd_7 yX_137 cl_X8 rfl dX8_readSteps_33 (Nat.le_refl _) rfl (Nat.le_of_ble_eq_true rfl) (Nat.le_of_ble_eq_true rfl) h (fun v u h hk => ?_)
          obtain ⟨r4, rfl⟩ := hk
          obtain ⟨s3, rfl⟩ : ∃ x, x = u := ⟨_, rfl⟩
          replace h := h r4 rfl
          refine Ev_goto (tgt := 43) dX8_readSteps_36 rfl ?_
          refine Ev_istore_n (l' := [(2, ev_i r4), (0, ev_r 137), (1, ev_i a1), (3, ev_i a3)]) dX8_readSteps_43 rfl (Nat.le_of_ble_eq_true rfl) rfl ?_
          refine Ev_iinc (j := 3) (l' := [(3, ev_i (ev_add a3 1)), (2, ev_i r4), (0, ev_r 137), (1, ev_i a1)]) dX8_readSteps_44 rfl (Nat.le_of_ble_eq_true rfl) rfl ?_
          refine Ev_goto (tgt := 4) dX8_readSteps_47 rfl ?_
          exact Ev_sub [2, 3, 1, 0] rfl h
theorem dX8_readStep_0 : decode cX8_readStep 0 = .ok (.aload_n 0, 1) := by decide +kernel
theorem dX8_readStep_1 : decode cX8_readStep 1 = .ok (.getfield 83, 3) := by decide +kernel
theorem dX8_readStep_4 : decode cX8_readStep 4 = .ok (.istore_n 1, 1) := by decide +kernel
theorem dX8_readStep_5 : decode cX8_readStep 5 = .ok (.aload_n 0, 1) := by decide +kernel
theorem dX8_readStep_6 : decode cX8_readStep 6 = .ok (.invokevirtual 51, 3) := by decide +kernel
theorem dX8_readStep_9 : decode cX8_readStep 9 = .ok (.aload_n 0, 1) := by decide +kernel
theorem dX8_readStep_10 : decode cX8_readStep 10 = .ok (.iconst 1, 1) := by decide +kernel
theorem dX8_readStep_11 : decode cX8_readStep 11 = .ok (.bipush 60, 2) := by decide +kernel
theorem dX8_readStep_13 : decode cX8_readStep 13 = .ok (.invokevirtual 104, 3) := by decide +kernel
theorem dX8_readStep_16 : decode cX8_readStep 16 = .ok (.istore_n 2, 1) := by decide +kernel
theorem dX8_readStep_17 : decode cX8_readStep 17 = .ok (.iload_n 2, 1) := by decide +kernel
theorem dX8_readStep_18 : decode cX8_readStep 18 = .ok (.iconst (-1), 1) := by decide +kernel
theorem dX8_readStep_19 : decode cX8_readStep 19 = .ok (.if_icmp .eq 13, 3) := by decide +kernel
theorem dX8_readStep_22 : decode cX8_readStep 22 = .ok (.aload_n 0, 1) := by decide +kernel
theorem dX8_readStep_23 : decode cX8_readStep 23 = .ok (.sipush 159, 3) := by decide +kernel
theorem dX8_readStep_26 : decode cX8_readStep 26 = .ok (.invokevirtual 58, 3) := by decide +kernel
theorem dX8_readStep_29 : decode cX8_readStep 29 = .ok (.ifCond .ne 5, 3) := by decide +kernel
theorem dX8_readStep_32 : decode cX8_readStep 32 = .ok (.iconst 0, 1) := by decide +kernel
theorem dX8_readStep_33 : decode cX8_readStep 33 = .ok (.ireturn, 1) := by decide +kernel
theorem dX8_readStep_34 : decode cX8_readStep 34 = .ok (.aload_n 0, 1) := by decide +kernel
theorem dX8_readStep_35 : decode cX8_readStep 35 = .ok (.getfield 37, 3) := by decide +kernel
theorem dX8_readStep_38 : decode cX8_readStep 38 = .ok (.istore_n 3, 1) := by decide +kernel
theorem dX8_readStep_39 : decode cX8_readStep 39 = .ok (.iload_n 3, 1) := by decide +kernel
theorem dX8_readStep_40 : decode cX8_readStep 40 = .ok (.aload_n 0, 1) := by decide +kernel
theorem dX8_readStep_41 : decode cX8_readStep 41 = .ok (.getfield 37, 3) := by decide +kernel
theorem dX8_readStep_44 : decode cX8_readStep 44 = .ok (.iload_n 2, 1) := by decide +kernel
theorem dX8_readStep_45 : decode cX8_readStep 45 = .ok (.iadd, 1) := by decide +kernel
theorem dX8_readStep_46 : decode cX8_readStep 46 = .ok (.if_icmp .ge 23, 3) := by decide +kernel
theorem dX8_readStep_49 : decode cX8_readStep 49 = .ok (.iload_n 3, 1) := by decide +kernel
theorem dX8_readStep_50 : decode cX8_readStep 50 = .ok (.sipush 600, 3) := by decide +kernel
theorem dX8_readStep_53 : decode cX8_readStep 53 = .ok (.if_icmp .ge 16, 3) := by decide +kernel
theorem dX8_readStep_56 : decode cX8_readStep 56 = .ok (.aload_n 0, 1) := by decide +kernel
theorem dX8_readStep_57 : decode cX8_readStep 57 = .ok (.getfield 9, 3) := by decide +kernel
theorem dX8_readStep_60 : decode cX8_readStep 60 = .ok (.iload_n 3, 1) := by decide +kernel
theorem dX8_readStep_61 : decode cX8_readStep 61 = .ok (.iload_n 1, 1) := by decide +kernel
theorem dX8_readStep_62 : decode cX8_readStep 62 = .ok (.iastore, 1) := by decide +kernel
theorem dX8_readStep_63 : decode cX8_readStep 63 = .ok (.iinc 3 1, 3) := by decide +kernel
theorem dX8_readStep_66 : decode cX8_readStep 66 = .ok (.goto (-27), 3) := by decide +kernel
theorem dX8_readStep_69 : decode cX8_readStep 69 = .ok (.aload_n 0, 1) := by decide +kernel
theorem dX8_readStep_70 : decode cX8_readStep 70 = .ok (.dup, 1) := by decide +kernel
theorem dX8_readStep_71 : decode cX8_readStep 71 = .ok (.getfield 37, 3) := by decide +kernel
theorem dX8_readStep_74 : decode cX8_readStep 74 = .ok (.iload_n 2, 1) := by decide +kernel
theorem dX8_readStep_75 : decode cX8_readStep 75 = .ok (.iadd, 1) := by decide +kernel
theorem dX8_readStep_76 : decode cX8_readStep 76 = .ok (.putfield 37, 3) := by decide +kernel
theorem dX8_readStep_79 : decode cX8_readStep 79 = .ok (.iconst 1, 1) := by decide +kernel
theorem dX8_readStep_80 : decode cX8_readStep 80 = .ok (.ireturn, 1) := by decide +kernel
theorem wp_X8_readStep_0 {d : Nat} {s : ev_S} {Q : Option ev_V → ev_S → Prop}
    (h : (Ev layX M_X8_advance d 0 [(0, ev_r 137)] [] s (fun _ s1 => (Ev layX M_X8_takeNumber d 0 [(0, ev_r 137), (1, ev_i 1), (2, ev_i 60)] [] s1 (ev_pi (fun r3 s2 => ((r3 = (-1) → Q (some (ev_i 0)) s2) ∧ (r3 ≠ (-1) → (Ev layX M_X8_takes d 0 [(0, ev_r 137), (1, ev_i 159)] [] s2 (ev_pi (fun r5 s4 => ((r5 ≠ 0 → Ev layX M_X8_readStep (d + 1) 39 [(0, ev_r 137), (1, ev_i (s 137 7)), (2, ev_i r3), (3, ev_i (s4 137 3))] [] s4 Q) ∧ (r5 = 0 → Q (some (ev_i 0)) s4))))))))))))) :
    Ev layX M_X8_readStep (d + 1) 0 [(0, ev_r 137)] [] s Q := by
  refine Ev_aload_n 0 dX8_readStep_0 rfl rfl ?_
  refine Ev_get (i := 7) cl_X8 yX_137 (Nat.le_of_ble_eq_true rfl) rfl wd_520 dX8_readStep_1 ?_
  refine Ev_istore_n (l' := [(1, ev_i (s 137 7)), (0, ev_r 137)]) dX8_readStep_4 rfl (Nat.le_of_ble_eq_true rfl) rfl ?_
  refine Ev_aload_n 1 dX8_readStep_5 rfl rfl ?_
  refine Ev_callV (As := []) (b := 137) (st := []) (M' := M_X8_advance) cm_X8_advance wd_923 wd_925 wd_5 yX_137 cl_X8 rfl dX8_readStep_6 (Nat.le_refl _) rfl (Nat.le_of_ble_eq_true rfl) (Nat.le_of_ble_eq_true rfl) h (fun v u h hk => ?_)
  cases hk
  obtain ⟨s1, rfl⟩ : ∃ x, x = u := ⟨_, rfl⟩
  refine Ev_aload_n 1 dX8_readStep_9 rfl rfl ?_
  refine Ev_iconst dX8_readStep_10 rfl (ev_Rc rfl) ?_
  refine Ev_bipushC dX8_readStep_11 rfl ?_
  refine Ev_callV (As := [ev_i 1, ev_i 60]) (b := 137) (st := []) (M' := M_X8_takeNumber) cm_X8_takeNumber wd_939 wd_941 wd_9 yX_137 cl_X8 rfl dX8_readStep_13 (Nat.le_refl _) rfl (Nat.le_of_ble_eq_true rfl) (Nat.le_of_ble_eq_true rfl) h (fun v u h hk => ?_)
  obtain ⟨r3, rfl⟩ := hk
  obtain ⟨s2, rfl⟩ : ∃ x, x = u := ⟨_, rfl⟩
  replace h := h r3 rfl
  refine Ev_istore_n (l' := [(2, ev_i r3), (1, ev_i (s 137 7)), (0, ev_r 137)]) dX8_readStep_16 rfl (Nat.le_of_ble_eq_true rfl) rfl ?_
  refine Ev_iload_n 0 dX8_readStep_17 rfl rfl ?_
  refine Ev_iconst dX8_readStep_18 rfl (ev_Rc rfl) ?_
  refine Ev_icmp_eq (tgt := 32) dX8_readStep_19 rfl (fun c => ?_) (fun c => ?_)
  · replace h := h.1 c
    refine Ev_iconst dX8_readStep_32 rfl (ev_Rc rfl) ?_
    exact Ev_iret rfl dX8_readStep_33 (ev_nb (by decide)) h
  · replace h := h.2 c
    refine Ev_aload_n 2 dX8_readStep_22 rfl rfl ?_
    refine Ev_sipushC dX8_readStep_23 rfl ?_
    refine Ev_callV (As := [ev_i 159]) (b := 137) (st := []) (M' := M_X8_takes) cm_X8_takes wd_947 wd_949 wd_11 yX_137 cl_X8 rfl dX8_readStep_26 (Nat.le_refl _) rfl (Nat.le_of_ble_eq_true rfl) (Nat.le_of_ble_eq_true rfl) h (fun v u h hk => ?_)
    obtain ⟨r5, rfl⟩ := hk
    obtain ⟨s4, rfl⟩ : ∃ x, x = u := ⟨_, rfl⟩
    replace h := h r5 rfl
    refine Ev_if_ne (tgt := 34) dX8_readStep_29 rfl (fun c => ?_) (fun c => ?_)
    · replace h := h.1 c
      refine Ev_aload_n 2 dX8_readStep_34 rfl rfl ?_
      refine Ev_get (i := 3) cl_X8 yX_137 (Nat.le_of_ble_eq_true rfl) rfl wd_513 dX8_readStep_35 ?_
      refine Ev_istore_n (l' := [(3, ev_i (s4 137 3)), (2, ev_i r3), (1, ev_i (s 137 7)), (0, ev_r 137)]) dX8_readStep_38 rfl (Nat.le_of_ble_eq_true rfl) rfl ?_
      exact Ev_sub [3, 2, 1, 0] rfl h
    · replace h := h.2 c
      refine Ev_iconst dX8_readStep_32 rfl (ev_Rc rfl) ?_
      exact Ev_iret rfl dX8_readStep_33 (ev_nb (by decide)) h
theorem wp_X8_readStep_39 {d : Nat} {s : ev_S} {Q : Option ev_V → ev_S → Prop} {a1 a2 a3 : Int}
    (h : (((ev_add (s 137 3) a2) ≤ a3 → (∀ s1, ev_up s 137 3 (ev_add (s 137 3) a2) = s1 → Q (some (ev_i 1)) s1)) ∧ (a3 < (ev_add (s 137 3) a2) → ((600 ≤ a3 → (∀ s2, ev_up s 137 3 (ev_add (s 137 3) a2) = s2 → Q (some (ev_i 1)) s2)) ∧ (a3 < 600 → ((0 ≤ a3 ∧ a3 < (600 : Nat)) ∧ ∀ s3, ev_up s 138 (Int.toNat a3) a1 = s3 → Ev layX M_X8_readStep (d + 1) 39 [(0, ev_r 137), (1, ev_i a1), (2, ev_i a2), (3, ev_i (ev_add a3 1))] [] s3 Q)))))) :
    Ev layX M_X8_readStep (d + 1) 39 [(0, ev_r 137), (1, ev_i a1), (2, ev_i a2), (3, ev_i a3)] [] s Q := by
  refine Ev_iload_n 3 dX8_readStep_39 rfl rfl ?_
  refine Ev_aload_n 0 dX8_readStep_40 rfl rfl ?_
  refine Ev_get (i := 3) cl_X8 yX_137 (Nat.le_of_ble_eq_true rfl) rfl wd_513 dX8_readStep_41 ?_
  refine Ev_iload_n 2 dX8_readStep_44 rfl rfl ?_
  refine Ev_iadd dX8_readStep_45 ?_
  refine Ev_icmp_ge (tgt := 69) dX8_readStep_46 rfl (fun c => ?_) (fun c => ?_)
  · replace h := h.1 c
    refine Ev_aload_n 0 dX8_readStep_69 rfl rfl ?_
    refine Ev_dup dX8_readStep_70 rfl ?_
    refine Ev_get (i := 3) cl_X8 yX_137 (Nat.le_of_ble_eq_true rfl) rfl wd_513 dX8_readStep_71 ?_
    refine Ev_iload_n 2 dX8_readStep_74 rfl rfl ?_
    refine Ev_iadd dX8_readStep_75 ?_
    refine Ev_put (i := 3) (ty := .int) cl_X8 yX_137 (Nat.le_of_ble_eq_true rfl) rfl rfl (by decide +kernel) rfl rfl wd_513 dX8_readStep_76 (Ev_nm (fun s1 es1 => ?_))
    replace h := h s1 es1
    refine Ev_iconst dX8_readStep_79 rfl (ev_Rc rfl) ?_
    exact Ev_iret rfl dX8_readStep_80 (ev_nb (by decide)) h
  · replace h := h.2 c
    refine Ev_iload_n 3 dX8_readStep_49 rfl rfl ?_
    refine Ev_sipushC dX8_readStep_50 rfl ?_
    refine Ev_icmp_ge (tgt := 69) dX8_readStep_53 rfl (fun c => ?_) (fun c => ?_)
    · replace h := h.1 c
      refine Ev_aload_n 0 dX8_readStep_69 rfl rfl ?_
      refine Ev_dup dX8_readStep_70 rfl ?_
      refine Ev_get (i := 3) cl_X8 yX_137 (Nat.le_of_ble_eq_true rfl) rfl wd_513 dX8_readStep_71 ?_
      refine Ev_iload_n 2 dX8_readStep_74 rfl rfl ?_
      refine Ev_iadd dX8_readStep_75 ?_
      refine Ev_put (i := 3) (ty := .int) cl_X8 yX_137 (Nat.le_of_ble_eq_true rfl) rfl rfl (by decide +kernel) rfl rfl wd_513 dX8_readStep_76 (Ev_nm (fun s2 es2 => ?_))
      replace h := h s2 es2
      refine Ev_iconst dX8_readStep_79 rfl (ev_Rc rfl) ?_
      exact Ev_iret rfl dX8_readStep_80 (ev_nb (by decide)) h
    · replace h := h.2 c
      refine Ev_aload_n 0 dX8_readStep_56 rfl rfl ?_
      refine Ev_getR (i := 2) cl_X8 yX_137 (Nat.le_of_ble_eq_true rfl) rfl wd_511 dX8_readStep_57 ?_
      refine Ev_iload_n 3 dX8_readStep_60 rfl rfl ?_
      refine Ev_iload_n 1 dX8_readStep_61 rfl rfl ?_
      obtain ⟨h0, h⟩ := h
      refine Ev_iast yX_138 h0 dX8_readStep_62 (Ev_nm (fun s3 es3 => ?_))
      replace h := h s3 es3
      refine Ev_iinc (j := 3) (l' := [(3, ev_i (ev_add a3 1)), (0, ev_r 137), (1, ev_i a1), (2, ev_i a2)]) dX8_readStep_63 rfl (Nat.le_of_ble_eq_true rfl) rfl ?_
      refine Ev_goto (tgt := 39) dX8_readStep_66 rfl ?_
      exact Ev_sub [1, 2, 3, 0] rfl h
theorem dX8_readAgain_0 : decode cX8_readAgain 0 = .ok (.iload_n 1, 1) := by decide +kernel
theorem dX8_readAgain_1 : decode cX8_readAgain 1 = .ok (.iconst 4, 1) := by decide +kernel
theorem dX8_readAgain_2 : decode cX8_readAgain 2 = .ok (.if_icmp .lt 9, 3) := by decide +kernel
theorem dX8_readAgain_5 : decode cX8_readAgain 5 = .ok (.aload_n 0, 1) := by decide +kernel
theorem dX8_readAgain_6 : decode cX8_readAgain 6 = .ok (.iconst 3, 1) := by decide +kernel
theorem dX8_readAgain_7 : decode cX8_readAgain 7 = .ok (.invokevirtual 89, 3) := by decide +kernel
theorem dX8_readAgain_10 : decode cX8_readAgain 10 = .ok (.ireturn, 1) := by decide +kernel
theorem dX8_readAgain_11 : decode cX8_readAgain 11 = .ok (.aload_n 0, 1) := by decide +kernel
theorem dX8_readAgain_12 : decode cX8_readAgain 12 = .ok (.invokevirtual 51, 3) := by decide +kernel
theorem dX8_readAgain_15 : decode cX8_readAgain 15 = .ok (.aload_n 0, 1) := by decide +kernel
theorem dX8_readAgain_16 : decode cX8_readAgain 16 = .ok (.iconst 1, 1) := by decide +kernel
theorem dX8_readAgain_17 : decode cX8_readAgain 17 = .ok (.bipush 9, 2) := by decide +kernel
theorem dX8_readAgain_19 : decode cX8_readAgain 19 = .ok (.invokevirtual 104, 3) := by decide +kernel
theorem dX8_readAgain_22 : decode cX8_readAgain 22 = .ok (.istore_n 2, 1) := by decide +kernel
theorem dX8_readAgain_23 : decode cX8_readAgain 23 = .ok (.aload_n 0, 1) := by decide +kernel
theorem dX8_readAgain_24 : decode cX8_readAgain 24 = .ok (.getfield 37, 3) := by decide +kernel
theorem dX8_readAgain_27 : decode cX8_readAgain 27 = .ok (.istore_n 3, 1) := by decide +kernel
theorem dX8_readAgain_28 : decode cX8_readAgain 28 = .ok (.iload_n 2, 1) := by decide +kernel
theorem dX8_readAgain_29 : decode cX8_readAgain 29 = .ok (.iconst (-1), 1) := by decide +kernel
theorem dX8_readAgain_30 : decode cX8_readAgain 30 = .ok (.if_icmp .eq 33, 3) := by decide +kernel
theorem dX8_readAgain_33 : decode cX8_readAgain 33 = .ok (.aload_n 0, 1) := by decide +kernel
theorem dX8_readAgain_34 : decode cX8_readAgain 34 = .ok (.sipush 140, 3) := by decide +kernel
theorem dX8_readAgain_37 : decode cX8_readAgain 37 = .ok (.invokevirtual 58, 3) := by decide +kernel
theorem dX8_readAgain_40 : decode cX8_readAgain 40 = .ok (.ifCond .eq 23, 3) := by decide +kernel
theorem dX8_readAgain_43 : decode cX8_readAgain 43 = .ok (.aload_n 0, 1) := by decide +kernel
theorem dX8_readAgain_44 : decode cX8_readAgain 44 = .ok (.iload_n 1, 1) := by decide +kernel
theorem dX8_readAgain_45 : decode cX8_readAgain 45 = .ok (.iconst 1, 1) := by decide +kernel
theorem dX8_readAgain_46 : decode cX8_readAgain 46 = .ok (.iadd, 1) := by decide +kernel
theorem dX8_readAgain_47 : decode cX8_readAgain 47 = .ok (.invokevirtual 54, 3) := by decide +kernel
theorem dX8_readAgain_50 : decode cX8_readAgain 50 = .ok (.ifCond .eq 13, 3) := by decide +kernel
theorem dX8_readAgain_53 : decode cX8_readAgain 53 = .ok (.aload_n 0, 1) := by decide +kernel
theorem dX8_readAgain_54 : decode cX8_readAgain 54 = .ok (.sipush 141, 3) := by decide +kernel
theorem dX8_readAgain_57 : decode cX8_readAgain 57 = .ok (.invokevirtual 58, 3) := by decide +kernel
theorem dX8_readAgain_60 : decode cX8_readAgain 60 = .ok (.ifCond .ne 5, 3) := by decide +kernel
theorem dX8_readAgain_63 : decode cX8_readAgain 63 = .ok (.iconst 0, 1) := by decide +kernel
theorem dX8_readAgain_64 : decode cX8_readAgain 64 = .ok (.ireturn, 1) := by decide +kernel
theorem dX8_readAgain_65 : decode cX8_readAgain 65 = .ok (.aload_n 0, 1) := by decide +kernel
theorem dX8_readAgain_66 : decode cX8_readAgain 66 = .ok (.getfield 37, 3) := by decide +kernel
theorem dX8_readAgain_69 : decode cX8_readAgain 69 = .ok (.iload_n 3, 1) := by decide +kernel
theorem dX8_readAgain_70 : decode cX8_readAgain 70 = .ok (.isub, 1) := by decide +kernel
theorem dX8_readAgain_71 : decode cX8_readAgain 71 = .ok (.istore 4, 2) := by decide +kernel
theorem dX8_readAgain_73 : decode cX8_readAgain 73 = .ok (.aload_n 0, 1) := by decide +kernel
theorem dX8_readAgain_74 : decode cX8_readAgain 74 = .ok (.iload_n 3, 1) := by decide +kernel
theorem dX8_readAgain_75 : decode cX8_readAgain 75 = .ok (.iload_n 2, 1) := by decide +kernel
theorem dX8_readAgain_76 : decode cX8_readAgain 76 = .ok (.iload 4, 2) := by decide +kernel
theorem dX8_readAgain_78 : decode cX8_readAgain 78 = .ok (.imul, 1) := by decide +kernel
theorem dX8_readAgain_79 : decode cX8_readAgain 79 = .ok (.iadd, 1) := by decide +kernel
theorem dX8_readAgain_80 : decode cX8_readAgain 80 = .ok (.putfield 37, 3) := by decide +kernel
theorem dX8_readAgain_83 : decode cX8_readAgain 83 = .ok (.iload_n 3, 1) := by decide +kernel
theorem dX8_readAgain_84 : decode cX8_readAgain 84 = .ok (.iload 4, 2) := by decide +kernel
theorem dX8_readAgain_86 : decode cX8_readAgain 86 = .ok (.iadd, 1) := by decide +kernel
theorem dX8_readAgain_87 : decode cX8_readAgain 87 = .ok (.istore 5, 2) := by decide +kernel
theorem dX8_readAgain_89 : decode cX8_readAgain 89 = .ok (.iload 5, 2) := by decide +kernel
theorem dX8_readAgain_91 : decode cX8_readAgain 91 = .ok (.aload_n 0, 1) := by decide +kernel
theorem dX8_readAgain_92 : decode cX8_readAgain 92 = .ok (.getfield 37, 3) := by decide +kernel
theorem dX8_readAgain_95 : decode cX8_readAgain 95 = .ok (.if_icmp .ge 34, 3) := by decide +kernel
theorem dX8_readAgain_98 : decode cX8_readAgain 98 = .ok (.iload 5, 2) := by decide +kernel
theorem dX8_readAgain_100 : decode cX8_readAgain 100 = .ok (.sipush 600, 3) := by decide +kernel
theorem dX8_readAgain_103 : decode cX8_readAgain 103 = .ok (.if_icmp .ge 26, 3) := by decide +kernel
theorem dX8_readAgain_106 : decode cX8_readAgain 106 = .ok (.aload_n 0, 1) := by decide +kernel
theorem dX8_readAgain_107 : decode cX8_readAgain 107 = .ok (.getfield 9, 3) := by decide +kernel
theorem dX8_readAgain_110 : decode cX8_readAgain 110 = .ok (.iload 5, 2) := by decide +kernel
theorem dX8_readAgain_112 : decode cX8_readAgain 112 = .ok (.aload_n 0, 1) := by decide +kernel
theorem dX8_readAgain_113 : decode cX8_readAgain 113 = .ok (.getfield 9, 3) := by decide +kernel
theorem dX8_readAgain_116 : decode cX8_readAgain 116 = .ok (.iload 5, 2) := by decide +kernel
theorem dX8_readAgain_118 : decode cX8_readAgain 118 = .ok (.iload 4, 2) := by decide +kernel
theorem dX8_readAgain_120 : decode cX8_readAgain 120 = .ok (.isub, 1) := by decide +kernel
theorem dX8_readAgain_121 : decode cX8_readAgain 121 = .ok (.iaload, 1) := by decide +kernel
theorem dX8_readAgain_122 : decode cX8_readAgain 122 = .ok (.iastore, 1) := by decide +kernel
theorem dX8_readAgain_123 : decode cX8_readAgain 123 = .ok (.iinc 5 1, 3) := by decide +kernel
theorem dX8_readAgain_126 : decode cX8_readAgain 126 = .ok (.goto (-37), 3) := by decide +kernel
theorem dX8_readAgain_129 : decode cX8_readAgain 129 = .ok (.iconst 1, 1) := by decide +kernel
theorem dX8_readAgain_130 : decode cX8_readAgain 130 = .ok (.ireturn, 1) := by decide +kernel
theorem wp_X8_readAgain_0 {d : Nat} {s : ev_S} {Q : Option ev_V → ev_S → Prop} {a1 : Int}
    (h : ((a1 < 4 → (Ev layX M_X8_advance d 0 [(0, ev_r 137)] [] s (fun _ s1 => (Ev layX M_X8_takeNumber d 0 [(0, ev_r 137), (1, ev_i 1), (2, ev_i 9)] [] s1 (ev_pi (fun r3 s2 => ((r3 = (-1) → Q (some (ev_i 0)) s2) ∧ (r3 ≠ (-1) → (Ev layX M_X8_takes d 0 [(0, ev_r 137), (1, ev_i 140)] [] s2 (ev_pi (fun r5 s4 => ((r5 = 0 → Q (some (ev_i 0)) s4) ∧ (r5 ≠ 0 → (Ev layX M_X8_readSteps d 0 [(0, ev_r 137), (1, ev_i (ev_add a1 1))] [] s4 (ev_pi (fun r7 s6 => ((r7 = 0 → Q (some (ev_i 0)) s6) ∧ (r7 ≠ 0 → (Ev layX M_X8_takes d 0 [(0, ev_r 137), (1, ev_i 141)] [] s6 (ev_pi (fun r9 s8 => ((r9 ≠ 0 → (∀ s10, ev_up s8 137 3 (ev_add (s2 137 3) (ev_mul r3 (ev_sub (s8 137 3) (s2 137 3)))) = s10 → Ev layX M_X8_readAgain (d + 1) 89 [(0, ev_r 137), (4, ev_i (ev_sub (s8 137 3) (s2 137 3))), (5, ev_i (ev_add (s2 137 3) (ev_sub (s8 137 3) (s2 137 3))))] [] s10 Q)) ∧ (r9 = 0 → Q (some (ev_i 0)) s8))))))))))))))))))))))) ∧ (4 ≤ a1 → (Ev layX M_X8_faulty d 0 [(0, ev_r 137), (1, ev_i 3)] [] s (ev_pi (fun r12 s11 => ((r12 = 0 ∨ r12 = 1) ∧ Q (some (ev_i r12)) s11))))))) :
    Ev layX M_X8_readAgain (d + 1) 0 [(0, ev_r 137), (1, ev_i a1)] [] s Q := by
  refine Ev_iload_n 1 dX8_readAgain_0 rfl rfl ?_
  refine Ev_iconst dX8_readAgain_1 rfl (ev_Rc rfl) ?_
  refine Ev_icmp_lt (tgt := 11) dX8_readAgain_2 rfl (fun c => ?_) (fun c => ?_)
  · replace h := h.1 c
    refine Ev_aload_n 0 dX8_readAgain_11 rfl rfl ?_
    refine Ev_callV (As := []) (b := 137) (st := []) (M' := M_X8_advance) cm_X8_advance wd_923 wd_925 wd_5 yX_137 cl_X8 rfl dX8_readAgain_12 (Nat.le_refl _) rfl (Nat.le_of_ble_eq_true rfl) (Nat.le_of_ble_eq_true rfl) h (fun v u h hk => ?_)
    cases hk
    obtain ⟨s1, rfl⟩ : ∃ x, x = u := ⟨_, rfl⟩
    refine Ev_aload_n 0 dX8_readAgain_15 rfl rfl ?_
    refine Ev_iconst dX8_readAgain_16 rfl (ev_Rc rfl) ?_
    refine Ev_bipushC dX8_readAgain_17 rfl ?_
    refine Ev_callV (As := [ev_i 1, ev_i 9]) (b := 137) (st := []) (M' := M_X8_takeNumber) cm_X8_takeNumber wd_939 wd_941 wd_9 yX_137 cl_X8 rfl dX8_readAgain_19 (Nat.le_refl _) rfl (Nat.le_of_ble_eq_true rfl) (Nat.le_of_ble_eq_true rfl) h (fun v u h hk => ?_)
    obtain ⟨r3, rfl⟩ := hk
    obtain ⟨s2, rfl⟩ : ∃ x, x = u := ⟨_, rfl⟩
    replace h := h r3 rfl
    refine Ev_istore_n (l' := [(2, ev_i r3), (0, ev_r 137), (1, ev_i a1)]) dX8_readAgain_22 rfl (Nat.le_of_ble_eq_true rfl) rfl ?_
    refine Ev_aload_n 1 dX8_readAgain_23 rfl rfl ?_
    refine Ev_get (i := 3) cl_X8 yX_137 (Nat.le_of_ble_eq_true rfl) rfl wd_513 dX8_readAgain_24 ?_
    refine Ev_istore_n (l' := [(3, ev_i (s2 137 3)), (2, ev_i r3), (0, ev_r 137), (1, ev_i a1)]) dX8_readAgain_27 rfl (Nat.le_of_ble_eq_true rfl) rfl ?_
    refine Ev_iload_n 1 dX8_readAgain_28 rfl rfl ?_
    refine Ev_iconst dX8_readAgain_29 rfl (ev_Rc rfl) ?_
    refine Ev_icmp_eq (tgt := 63) dX8_readAgain_30 rfl (fun c => ?_) (fun c => ?_)
    · replace h := h.1 c
      refine Ev_iconst dX8_readAgain_63 rfl (ev_Rc rfl) ?_
      exact Ev_iret rfl dX8_readAgain_64 (ev_nb (by decide)) h
    · replace h := h.2 c
      refine Ev_aload_n 2 dX8_readAgain_33 rfl rfl ?_
      refine Ev_sipushC dX8_readAgain_34 rfl ?_
      refine Ev_callV (As := [ev_i 140]) (b := 137) (st := []) (M' := M_X8_takes) cm_X8_takes wd_947 wd_949 wd_11 yX_137 cl_X8 rfl dX8_readAgain_37 (Nat.le_refl _) rfl (Nat.le_of_ble_eq_true rfl) (Nat.le_of_ble_eq_true rfl) h (fun v u h hk => ?_)
      obtain ⟨r5, rfl⟩ := hk
      obtain ⟨s4, rfl⟩ : ∃ x, x = u := ⟨_, rfl⟩
      replace h := h r5 rfl
      refine Ev_if_eq (tgt := 63) dX8_readAgain_40 rfl (fun c => ?_) (fun c => ?_)
      · replace h := h.1 c
        refine Ev_iconst dX8_readAgain_63 rfl (ev_Rc rfl) ?_
        exact Ev_iret rfl dX8_readAgain_64 (ev_nb (by decide)) h
      · replace h := h.2 c
        refine Ev_aload_n 2 dX8_readAgain_43 rfl rfl ?_
        refine Ev_iload_n 3 dX8_readAgain_44 rfl rfl ?_
        refine Ev_iconst dX8_readAgain_45 rfl (ev_Rc rfl) ?_
        refine Ev_iadd dX8_readAgain_46 ?_
        refine Ev_callV (As := [ev_i (ev_add a1 1)]) (b := 137) (st := []) (M' := M_X8_readSteps) cm_X8_readSteps wd_927 wd_929 wd_6 yX_137 cl_X8 rfl dX8_readAgain_47 (Nat.le_refl _) rfl (Nat.le_of_ble_eq_true rfl) (Nat.le_of_ble_eq_true rfl) h (fun v u h hk => ?_)
        obtain ⟨r7, rfl⟩ := hk
        obtain ⟨s6, rfl⟩ : ∃ x, x = u := ⟨_, rfl⟩
        replace h := h r7 rfl
        refine Ev_if_eq (tgt := 63) dX8_readAgain_50 rfl (fun c => ?_) (fun c => ?_)
        · replace h := h.1 c
          refine Ev_iconst dX8_readAgain_63 rfl (ev_Rc rfl) ?_
          exact Ev_iret rfl dX8_readAgain_64 (ev_nb (by decide)) h
        · replace h := h.2 c
          refine Ev_aload_n 2 dX8_readAgain_53 rfl rfl ?_
          refine Ev_sipushC dX8_readAgain_54 rfl ?_
          refine Ev_callV (As := [ev_i 141]) (b := 137) (st := []) (M' := M_X8_takes) cm_X8_takes wd_947 wd_949 wd_11 yX_137 cl_X8 rfl dX8_readAgain_57 (Nat.le_refl _) rfl (Nat.le_of_ble_eq_true rfl) (Nat.le_of_ble_eq_true rfl) h (fun v u h hk => ?_)
          obtain ⟨r9, rfl⟩ := hk
          obtain ⟨s8, rfl⟩ : ∃ x, x = u := ⟨_, rfl⟩
          replace h := h r9 rfl
          refine Ev_if_ne (tgt := 65) dX8_readAgain_60 rfl (fun c => ?_) (fun c => ?_)
          · replace h := h.1 c
            refine Ev_aload_n 2 dX8_readAgain_65 rfl rfl ?_
            refine Ev_get (i := 3) cl_X8 yX_137 (Nat.le_of_ble_eq_true rfl) rfl wd_513 dX8_readAgain_66 ?_
            refine Ev_iload_n 0 dX8_readAgain_69 rfl rfl ?_
            refine Ev_isub dX8_readAgain_70 ?_
            refine Ev_istore (l' := [(4, ev_i (ev_sub (s8 137 3) (s2 137 3))), (3, ev_i (s2 137 3)), (2, ev_i r3), (0, ev_r 137), (1, ev_i a1)]) dX8_readAgain_71 (Nat.le_of_ble_eq_true rfl) rfl ?_
            refine Ev_aload_n 3 dX8_readAgain_73 rfl rfl ?_
            refine Ev_iload_n 1 dX8_readAgain_74 rfl rfl ?_
            refine Ev_iload_n 2 dX8_readAgain_75 rfl rfl ?_
            refine Ev_iload 0 dX8_readAgain_76 rfl ?_
            refine Ev_imul dX8_readAgain_78 ?_
            refine Ev_iadd dX8_readAgain_79 ?_
            refine Ev_put (i := 3) (ty := .int) cl_X8 yX_137 (Nat.le_of_ble_eq_true rfl) rfl rfl (by decide +kernel) rfl rfl wd_513 dX8_readAgain_80 (Ev_nm (fun s10 es10 => ?_))
            replace h := h s10 es10
            refine Ev_iload_n 1 dX8_readAgain_83 rfl rfl ?_
            refine Ev_iload 0 dX8_readAgain_84 rfl ?_
            refine Ev_iadd dX8_readAgain_86 ?_
            refine Ev_istore (l' := [(5, ev_i (ev_add (s2 137 3) (ev_sub (s8 137 3) (s2 137 3)))), (4, ev_i (ev_sub (s8 137 3) (s2 137 3))), (3, ev_i (s2 137 3)), (2, ev_i r3), (0, ev_r 137), (1, ev_i a1)]) dX8_readAgain_87 (Nat.le_of_ble_eq_true rfl) rfl ?_
            exact Ev_sub [4, 1, 0] rfl h
          · replace h := h.2 c
            refine Ev_iconst dX8_readAgain_63 rfl (ev_Rc rfl) ?_
            exact Ev_iret rfl dX8_readAgain_64 (ev_nb (by decide)) h
  · replace h := h.2 c
    refine Ev_aload_n 0 dX8_readAgain_5 rfl rfl ?_
    refine Ev_iconst dX8_readAgain_6 rfl (ev_Rc rfl) ?_
    refine Ev_callV (As := [ev_i 3]) (b := 137) (st := []) (M' := M_X8_faulty) cm_X8_faulty wd_935 wd_937 wd_8 yX_137 cl_X8 rfl dX8_readAgain_7 (Nat.le_refl _) rfl (Nat.le_of_ble_eq_true rfl) (Nat.le_of_ble_eq_true rfl) h (fun v u h hk => ?_)
    obtain ⟨r12, rfl⟩ := hk
    obtain ⟨s11, rfl⟩ : ∃ x, x = u := ⟨_, rfl⟩
    replace h := h r12 rfl
    exact Ev_iret rfl dX8_readAgain_10 (ev_nb h.1) h.2
theorem wp_X8_readAgain_89 {d : Nat} {s : ev_S} {Q : Option ev_V → ev_S → Prop} {a4 a5 : Int}
    (h : (((s 137 3) ≤ a5 → Q (some (ev_i 1)) s) ∧ (a5 < (s 137 3) → ((600 ≤ a5 → Q (some (ev_i 1)) s) ∧ (a5 < 600 → ((0 ≤ (ev_sub a5 a4) ∧ (ev_sub a5 a4) < (600 : Nat)) ∧ ((0 ≤ a5 ∧ a5 < (600 : Nat)) ∧ ∀ s1, ev_up s 138 (Int.toNat a5) (s 138 (Int.toNat (ev_sub a5 a4))) = s1 → Ev layX M_X8_readAgain (d + 1) 89 [(0, ev_r 137), (4, ev_i a4), (5, ev_i (ev_add a5 1))] [] s1 Q))))))) :
    Ev layX M_X8_readAgain (d + 1) 89 [(0, ev_r 137), (4, ev_i a4), (5, ev_i a5)] [] s Q := by
  refine Ev_iload 2 dX8_readAgain_89 rfl ?_
  refine Ev_aload_n 0 dX8_readAgain_91 rfl rfl ?_
  refine Ev_get (i := 3) cl_X8 yX_137 (Nat.le_of_ble_eq_true rfl) rfl wd_513 dX8_readAgain_92 ?_
  refine Ev_icmp_ge (tgt := 129) dX8_readAgain_95 rfl (fun c => ?_) (fun c => ?_)
  · replace h := h.1 c
    refine Ev_iconst dX8_readAgain_129 rfl (ev_Rc rfl) ?_
    exact Ev_iret rfl dX8_readAgain_130 (ev_nb (by decide)) h
  · replace h := h.2 c
    refine Ev_iload 2 dX8_readAgain_98 rfl ?_
    refine Ev_sipushC dX8_readAgain_100 rfl ?_
    refine Ev_icmp_ge (tgt := 129) dX8_readAgain_103 rfl (fun c => ?_) (fun c => ?_)
    · replace h := h.1 c
      refine Ev_iconst dX8_readAgain_129 rfl (ev_Rc rfl) ?_
      exact Ev_iret rfl dX8_readAgain_130 (ev_nb (by decide)) h
    · replace h := h.2 c
      refine Ev_aload_n 0 dX8_readAgain_106 rfl rfl ?_
      refine Ev_getR (i := 2) cl_X8 yX_137 (Nat.le_of_ble_eq_true rfl) rfl wd_511 dX8_readAgain_107 ?_
      refine Ev_iload 2 dX8_readAgain_110 rfl ?_
      refine Ev_aload_n 0 dX8_readAgain_112 rfl rfl ?_
      refine Ev_getR (i := 2) cl_X8 yX_137 (Nat.le_of_ble_eq_true rfl) rfl wd_511 dX8_readAgain_113 ?_
      refine Ev_iload 2 dX8_readAgain_116 rfl ?_
      refine Ev_iload 1 dX8_readAgain_118 rfl ?_
      refine Ev_isub dX8_readAgain_120 ?_
      obtain ⟨h0, h⟩ := h
      refine Ev_iald yX_138 h0 dX8_readAgain_121 ?_
      obtain ⟨h0, h⟩ := h
      refine Ev_iast yX_138 h0 dX8_readAgain_122 (Ev_nm (fun s1 es1 => ?_))
      replace h := h s1 es1
      refine Ev_iinc (j := 2) (l' := [(5, ev_i (ev_add a5 1)), (0, ev_r 137), (4, ev_i a4)]) dX8_readAgain_123 rfl (Nat.le_of_ble_eq_true rfl) rfl ?_
      refine Ev_goto (tgt := 89) dX8_readAgain_126 rfl ?_
      exact Ev_sub [1, 2, 0] rfl h
theorem dX8_readMishaps_0 : decode cX8_readMishaps 0 = .ok (.iconst 1, 1) := by decide +kernel
theorem dX8_readMishaps_1 : decode cX8_readMishaps 1 = .ok (.istore_n 1, 1) := by decide +kernel
theorem dX8_readMishaps_2 : decode cX8_readMishaps 2 = .ok (.iconst 0, 1) := by decide +kernel
theorem dX8_readMishaps_3 : decode cX8_readMishaps 3 = .ok (.istore_n 2, 1) := by decide +kernel
theorem dX8_readMishaps_4 : decode cX8_readMishaps 4 = .ok (.iload_n 2, 1) := by decide +kernel
theorem dX8_readMishaps_5 : decode cX8_readMishaps 5 = .ok (.sipush 400, 3) := by decide +kernel
theorem dX8_readMishaps_8 : decode cX8_readMishaps 8 = .ok (.if_icmp .ge 27, 3) := by decide +kernel
theorem dX8_readMishaps_11 : decode cX8_readMishaps 11 = .ok (.iload_n 1, 1) := by decide +kernel
theorem dX8_readMishaps_12 : decode cX8_readMishaps 12 = .ok (.ifCond .eq 23, 3) := by decide +kernel
theorem dX8_readMishaps_15 : decode cX8_readMishaps 15 = .ok (.aload_n 0, 1) := by decide +kernel
theorem dX8_readMishaps_16 : decode cX8_readMishaps 16 = .ok (.getfield 83, 3) := by decide +kernel
theorem dX8_readMishaps_19 : decode cX8_readMishaps 19 = .ok (.bipush 6, 2) := by decide +kernel
theorem dX8_readMishaps_21 : decode cX8_readMishaps 21 = .ok (.if_icmp .ne 14, 3) := by decide +kernel
theorem dX8_readMishaps_24 : decode cX8_readMishaps 24 = .ok (.aload_n 0, 1) := by decide +kernel
theorem dX8_readMishaps_25 : decode cX8_readMishaps 25 = .ok (.invokevirtual 114, 3) := by decide +kernel
theorem dX8_readMishaps_28 : decode cX8_readMishaps 28 = .ok (.istore_n 1, 1) := by decide +kernel
theorem dX8_readMishaps_29 : decode cX8_readMishaps 29 = .ok (.iinc 2 1, 3) := by decide +kernel
theorem dX8_readMishaps_32 : decode cX8_readMishaps 32 = .ok (.goto (-28), 3) := by decide +kernel
theorem dX8_readMishaps_35 : decode cX8_readMishaps 35 = .ok (.iload_n 1, 1) := by decide +kernel
theorem dX8_readMishaps_36 : decode cX8_readMishaps 36 = .ok (.ireturn, 1) := by decide +kernel
theorem wp_X8_readMishaps_0 {d : Nat} {s : ev_S} {Q : Option ev_V → ev_S → Prop}
    (h : Ev layX M_X8_readMishaps (d + 1) 4 [(0, ev_r 137), (1, ev_i 1), (2, ev_i 0)] [] s Q) :
    Ev layX M_X8_readMishaps (d + 1) 0 [(0, ev_r 137)] [] s Q := by
  refine Ev_iconst dX8_readMishaps_0 rfl (ev_Rc rfl) ?_
  refine Ev_istore_n (l' := [(1, ev_i 1), (0, ev_r 137)]) dX8_readMishaps_1 rfl (Nat.le_of_ble_eq_true rfl) rfl ?_
  refine Ev_iconst dX8_readMishaps_2 rfl (ev_Rc rfl) ?_
  refine Ev_istore_n (l' := [(2, ev_i 0), (1, ev_i 1), (0, ev_r 137)]) dX8_readMishaps_3 rfl (Nat.le_of_ble_eq_true rfl) rfl ?_
  exact Ev_sub [2, 1, 0] rfl h
theorem wp_X8_readMishaps_4 {d : Nat} {s : ev_S} {Q : Option ev_V → ev_S → Prop} {a1 a2 : Int}
    (h : ((400 ≤ a2 → ((a1 = 0 ∨ a1 = 1) ∧ Q (some (ev_i a1)) s)) ∧ (a2 < 400 → ((a1 = 0 → ((a1 = 0 ∨ a1 = 1) ∧ Q (some (ev_i a1)) s)) ∧ (a1 ≠ 0 → (((s 137 7) ≠ 6 → ((a1 = 0 ∨ a1 = 1) ∧ Q (some (ev_i a1)) s)) ∧ ((s 137 7) = 6 → (Ev layX M_X8_readMishap d 0 [(0, ev_r 137)] [] s (ev_pi (fun r2 s1 => Ev layX M_X8_readMishaps (d + 1) 4 [(0, ev_r 137), (1, ev_i r2), (2, ev_i (ev_add a2 1))] [] s1 Q)))))))))) :
    Ev layX M_X8_readMishaps (d + 1) 4 [(0, ev_r 137), (1, ev_i a1), (2, ev_i a2)] [] s Q := by
  refine Ev_iload_n 2 dX8_readMishaps_4 rfl rfl ?_
  refine Ev_sipushC dX8_readMishaps_5 rfl ?_
  refine Ev_icmp_ge (tgt := 35) dX8_readMishaps_8 rfl (fun c => ?_) (fun c => ?_)
  · replace h := h.1 c
    refine Ev_iload_n 1 dX8_readMishaps_35 rfl rfl ?_
    exact Ev_iret rfl dX8_readMishaps_36 (ev_nb h.1) h.2
  · replace h := h.2 c
    refine Ev_iload_n 1 dX8_readMishaps_11 rfl rfl ?_
    refine Ev_if_eq (tgt := 35) dX8_readMishaps_12 rfl (fun c => ?_) (fun c => ?_)
    · replace h := h.1 c
      refine Ev_iload_n 1 dX8_readMishaps_35 rfl rfl ?_
      exact Ev_iret rfl dX8_readMishaps_36 (ev_nb h.1) h.2
    · replace h := h.2 c
      refine Ev_aload_n 0 dX8_readMishaps_15 rfl rfl ?_
      refine Ev_get (i := 7) cl_X8 yX_137 (Nat.le_of_ble_eq_true rfl) rfl wd_520 dX8_readMishaps_16 ?_
      refine Ev_bipushC dX8_readMishaps_19 rfl ?_
      refine Ev_icmp_ne (tgt := 35) dX8_readMishaps_21 rfl (fun c => ?_) (fun c => ?_)
      · replace h := h.1 c
        refine Ev_iload_n 1 dX8_readMishaps_35 rfl rfl ?_
        exact Ev_iret rfl dX8_readMishaps_36 (ev_nb h.1) h.2
      · replace h := h.2 c
        refine Ev_aload_n 0 dX8_readMishaps_24 rfl rfl ?_
        refine Ev_callV (As := []) (b := 137) (st := []) (M' := M_X8_readMishap) cm_X8_readMishap wd_963 wd_965 wd_15 yX_137 cl_X8 rfl dX8_readMishaps_25 (Nat.le_refl _) rfl (Nat.le_of_ble_eq_true rfl) (Nat.le_of_ble_eq_true rfl) h (fun v u h hk => ?_)
        obtain ⟨r2, rfl⟩ := hk
        obtain ⟨s1, rfl⟩ : ∃ x, x = u := ⟨_, rfl⟩
        replace h := h r2 rfl
        refine Ev_istore_n (l' := [(1, ev_i r2), (0, ev_r 137), (2, ev_i a2)]) dX8_readMishaps_28 rfl (Nat.le_of_ble_eq_true rfl) rfl ?_
        refine Ev_iinc (j := 2) (l' := [(2, ev_i (ev_add a2 1)), (1, ev_i r2), (0, ev_r 137)]) dX8_readMishaps_29 rfl (Nat.le_of_ble_eq_true rfl) rfl ?_
        refine Ev_goto (tgt := 4) dX8_readMishaps_32 rfl ?_
        exact Ev_sub [2, 1, 0] rfl h
theorem dX8_readMishap_0 : decode cX8_readMishap 0 = .ok (.aload_n 0, 1) := by decide +kernel
theorem dX8_readMishap_1 : decode cX8_readMishap 1 = .ok (.getfield 40, 3) := by decide +kernel
theorem dX8_readMishap_4 : decode cX8_readMishap 4 = .ok (.bipush 10, 2) := by decide +kernel
theorem dX8_readMishap_6 : decode cX8_readMishap 6 = .ok (.if_icmp .lt 9, 3) := by decide +kernel
theorem dX8_readMishap_9 : decode cX8_readMishap 9 = .ok (.aload_n 0, 1) := by decide +kernel
theorem dX8_readMishap_10 : decode cX8_readMishap 10 = .ok (.iconst 3, 1) := by decide +kernel
theorem dX8_readMishap_11 : decode cX8_readMishap 11 = .ok (.invokevirtual 89, 3) := by decide +kernel
theorem dX8_readMishap_14 : decode cX8_readMishap 14 = .ok (.ireturn, 1) := by decide +kernel
theorem dX8_readMishap_15 : decode cX8_readMishap 15 = .ok (.aload_n 0, 1) := by decide +kernel
theorem dX8_readMishap_16 : decode cX8_readMishap 16 = .ok (.invokevirtual 51, 3) := by decide +kernel
theorem dX8_readMishap_19 : decode cX8_readMishap 19 = .ok (.aload_n 0, 1) := by decide +kernel
theorem dX8_readMishap_20 : decode cX8_readMishap 20 = .ok (.getfield 40, 3) := by decide +kernel
theorem dX8_readMishap_23 : decode cX8_readMishap 23 = .ok (.bipush 7, 2) := by decide +kernel
theorem dX8_readMishap_25 : decode cX8_readMishap 25 = .ok (.imul, 1) := by decide +kernel
theorem dX8_readMishap_26 : decode cX8_readMishap 26 = .ok (.istore_n 1, 1) := by decide +kernel
theorem dX8_readMishap_27 : decode cX8_readMishap 27 = .ok (.aload_n 0, 1) := by decide +kernel
theorem dX8_readMishap_28 : decode cX8_readMishap 28 = .ok (.getfield 9, 3) := by decide +kernel
theorem dX8_readMishap_31 : decode cX8_readMishap 31 = .ok (.iload_n 1, 1) := by decide +kernel
theorem dX8_readMishap_32 : decode cX8_readMishap 32 = .ok (.iconst 0, 1) := by decide +kernel
theorem dX8_readMishap_33 : decode cX8_readMishap 33 = .ok (.iadd, 1) := by decide +kernel
theorem dX8_readMishap_34 : decode cX8_readMishap 34 = .ok (.aload_n 0, 1) := by decide +kernel
theorem dX8_readMishap_35 : decode cX8_readMishap 35 = .ok (.iconst 1, 1) := by decide +kernel
theorem dX8_readMishap_36 : decode cX8_readMishap 36 = .ok (.bipush 99, 2) := by decide +kernel
theorem dX8_readMishap_38 : decode cX8_readMishap 38 = .ok (.invokevirtual 104, 3) := by decide +kernel
theorem dX8_readMishap_41 : decode cX8_readMishap 41 = .ok (.iastore, 1) := by decide +kernel
theorem dX8_readMishap_42 : decode cX8_readMishap 42 = .ok (.aload_n 0, 1) := by decide +kernel
theorem dX8_readMishap_43 : decode cX8_readMishap 43 = .ok (.getfield 34, 3) := by decide +kernel
theorem dX8_readMishap_46 : decode cX8_readMishap 46 = .ok (.ifCond .ne 12, 3) := by decide +kernel
theorem dX8_readMishap_49 : decode cX8_readMishap 49 = .ok (.aload_n 0, 1) := by decide +kernel
theorem dX8_readMishap_50 : decode cX8_readMishap 50 = .ok (.bipush 7, 2) := by decide +kernel
theorem dX8_readMishap_52 : decode cX8_readMishap 52 = .ok (.invokevirtual 58, 3) := by decide +kernel
theorem dX8_readMishap_55 : decode cX8_readMishap 55 = .ok (.ifCond .ne 5, 3) := by decide +kernel
theorem dX8_readMishap_58 : decode cX8_readMishap 58 = .ok (.iconst 0, 1) := by decide +kernel
theorem dX8_readMishap_59 : decode cX8_readMishap 59 = .ok (.ireturn, 1) := by decide +kernel
theorem dX8_readMishap_60 : decode cX8_readMishap 60 = .ok (.aload_n 0, 1) := by decide +kernel
theorem dX8_readMishap_61 : decode cX8_readMishap 61 = .ok (.getfield 9, 3) := by decide +kernel
theorem dX8_readMishap_64 : decode cX8_readMishap 64 = .ok (.iload_n 1, 1) := by decide +kernel
theorem dX8_readMishap_65 : decode cX8_readMishap 65 = .ok (.iconst 1, 1) := by decide +kernel
theorem dX8_readMishap_66 : decode cX8_readMishap 66 = .ok (.iadd, 1) := by decide +kernel
theorem dX8_readMishap_67 : decode cX8_readMishap 67 = .ok (.aload_n 0, 1) := by decide +kernel
theorem dX8_readMishap_68 : decode cX8_readMishap 68 = .ok (.invokevirtual 117, 3) := by decide +kernel
theorem dX8_readMishap_71 : decode cX8_readMishap 71 = .ok (.iastore, 1) := by decide +kernel
theorem dX8_readMishap_72 : decode cX8_readMishap 72 = .ok (.aload_n 0, 1) := by decide +kernel
theorem dX8_readMishap_73 : decode cX8_readMishap 73 = .ok (.getfield 34, 3) := by decide +kernel
theorem dX8_readMishap_76 : decode cX8_readMishap 76 = .ok (.ifCond .ne 12, 3) := by decide +kernel
theorem dX8_readMishap_79 : decode cX8_readMishap 79 = .ok (.aload_n 0, 1) := by decide +kernel
theorem dX8_readMishap_80 : decode cX8_readMishap 80 = .ok (.bipush 8, 2) := by decide +kernel
theorem dX8_readMishap_82 : decode cX8_readMishap 82 = .ok (.invokevirtual 58, 3) := by decide +kernel
theorem dX8_readMishap_85 : decode cX8_readMishap 85 = .ok (.ifCond .ne 5, 3) := by decide +kernel
theorem dX8_readMishap_88 : decode cX8_readMishap 88 = .ok (.iconst 0, 1) := by decide +kernel
theorem dX8_readMishap_89 : decode cX8_readMishap 89 = .ok (.ireturn, 1) := by decide +kernel
theorem dX8_readMishap_90 : decode cX8_readMishap 90 = .ok (.aload_n 0, 1) := by decide +kernel
theorem dX8_readMishap_91 : decode cX8_readMishap 91 = .ok (.getfield 9, 3) := by decide +kernel
theorem dX8_readMishap_94 : decode cX8_readMishap 94 = .ok (.iload_n 1, 1) := by decide +kernel
theorem dX8_readMishap_95 : decode cX8_readMishap 95 = .ok (.iconst 2, 1) := by decide +kernel
theorem dX8_readMishap_96 : decode cX8_readMishap 96 = .ok (.iadd, 1) := by decide +kernel
theorem dX8_readMishap_97 : decode cX8_readMishap 97 = .ok (.aload_n 0, 1) := by decide +kernel
theorem dX8_readMishap_98 : decode cX8_readMishap 98 = .ok (.iconst 0, 1) := by decide +kernel
theorem dX8_readMishap_99 : decode cX8_readMishap 99 = .ok (.sipush 599, 3) := by decide +kernel
theorem dX8_readMishap_102 : decode cX8_readMishap 102 = .ok (.invokevirtual 104, 3) := by decide +kernel
theorem dX8_readMishap_105 : decode cX8_readMishap 105 = .ok (.iastore, 1) := by decide +kernel
theorem dX8_readMishap_106 : decode cX8_readMishap 106 = .ok (.aload_n 0, 1) := by decide +kernel
theorem dX8_readMishap_107 : decode cX8_readMishap 107 = .ok (.getfield 34, 3) := by decide +kernel
theorem dX8_readMishap_110 : decode cX8_readMishap 110 = .ok (.ifCond .ne 12, 3) := by decide +kernel
theorem dX8_readMishap_113 : decode cX8_readMishap 113 = .ok (.aload_n 0, 1) := by decide +kernel
theorem dX8_readMishap_114 : decode cX8_readMishap 114 = .ok (.bipush 9, 2) := by decide +kernel
theorem dX8_readMishap_116 : decode cX8_readMishap 116 = .ok (.invokevirtual 58, 3) := by decide +kernel
theorem dX8_readMishap_119 : decode cX8_readMishap 119 = .ok (.ifCond .ne 5, 3) := by decide +kernel
theorem dX8_readMishap_122 : decode cX8_readMishap 122 = .ok (.iconst 0, 1) := by decide +kernel
theorem dX8_readMishap_123 : decode cX8_readMishap 123 = .ok (.ireturn, 1) := by decide +kernel
theorem dX8_readMishap_124 : decode cX8_readMishap 124 = .ok (.aload_n 0, 1) := by decide +kernel
theorem dX8_readMishap_125 : decode cX8_readMishap 125 = .ok (.getfield 9, 3) := by decide +kernel
theorem dX8_readMishap_128 : decode cX8_readMishap 128 = .ok (.iload_n 1, 1) := by decide +kernel
theorem dX8_readMishap_129 : decode cX8_readMishap 129 = .ok (.iconst 3, 1) := by decide +kernel
theorem dX8_readMishap_130 : decode cX8_readMishap 130 = .ok (.iadd, 1) := by decide +kernel
theorem dX8_readMishap_131 : decode cX8_readMishap 131 = .ok (.aload_n 0, 1) := by decide +kernel
theorem dX8_readMishap_132 : decode cX8_readMishap 132 = .ok (.aload_n 0, 1) := by decide +kernel
theorem dX8_readMishap_133 : decode cX8_readMishap 133 = .ok (.getfield 9, 3) := by decide +kernel
theorem dX8_readMishap_136 : decode cX8_readMishap 136 = .ok (.iload_n 1, 1) := by decide +kernel
theorem dX8_readMishap_137 : decode cX8_readMishap 137 = .ok (.iconst 2, 1) := by decide +kernel
theorem dX8_readMishap_138 : decode cX8_readMishap 138 = .ok (.iadd, 1) := by decide +kernel
theorem dX8_readMishap_139 : decode cX8_readMishap 139 = .ok (.iaload, 1) := by decide +kernel
theorem dX8_readMishap_140 : decode cX8_readMishap 140 = .ok (.sipush 599, 3) := by decide +kernel
theorem dX8_readMishap_143 : decode cX8_readMishap 143 = .ok (.invokevirtual 104, 3) := by decide +kernel
theorem dX8_readMishap_146 : decode cX8_readMishap 146 = .ok (.iastore, 1) := by decide +kernel
theorem dX8_readMishap_147 : decode cX8_readMishap 147 = .ok (.aload_n 0, 1) := by decide +kernel
theorem dX8_readMishap_148 : decode cX8_readMishap 148 = .ok (.getfield 34, 3) := by decide +kernel
theorem dX8_readMishap_151 : decode cX8_readMishap 151 = .ok (.ifCond .ne 21, 3) := by decide +kernel
theorem dX8_readMishap_154 : decode cX8_readMishap 154 = .ok (.aload_n 0, 1) := by decide +kernel
theorem dX8_readMishap_155 : decode cX8_readMishap 155 = .ok (.iload_n 1, 1) := by decide +kernel
theorem dX8_readMishap_156 : decode cX8_readMishap 156 = .ok (.invokevirtual 120, 3) := by decide +kernel
theorem dX8_readMishap_159 : decode cX8_readMishap 159 = .ok (.ifCond .eq 13, 3) := by decide +kernel
theorem dX8_readMishap_162 : decode cX8_readMishap 162 = .ok (.aload_n 0, 1) := by decide +kernel
theorem dX8_readMishap_163 : decode cX8_readMishap 163 = .ok (.sipush 159, 3) := by decide +kernel
theorem dX8_readMishap_166 : decode cX8_readMishap 166 = .ok (.invokevirtual 58, 3) := by decide +kernel
theorem dX8_readMishap_169 : decode cX8_readMishap 169 = .ok (.ifCond .ne 5, 3) := by decide +kernel
theorem dX8_readMishap_172 : decode cX8_readMishap 172 = .ok (.iconst 0, 1) := by decide +kernel
theorem dX8_readMishap_173 : decode cX8_readMishap 173 = .ok (.ireturn, 1) := by decide +kernel
theorem dX8_readMishap_174 : decode cX8_readMishap 174 = .ok (.aload_n 0, 1) := by decide +kernel
theorem dX8_readMishap_175 : decode cX8_readMishap 175 = .ok (.dup, 1) := by decide +kernel
theorem dX8_readMishap_176 : decode cX8_readMishap 176 = .ok (.getfield 40, 3) := by decide +kernel
theorem dX8_readMishap_179 : decode cX8_readMishap 179 = .ok (.iconst 1, 1) := by decide +kernel
theorem dX8_readMishap_180 : decode cX8_readMishap 180 = .ok (.iadd, 1) := by decide +kernel
theorem dX8_readMishap_181 : decode cX8_readMishap 181 = .ok (.putfield 40, 3) := by decide +kernel
theorem dX8_readMishap_184 : decode cX8_readMishap 184 = .ok (.aload_n 0, 1) := by decide +kernel
theorem dX8_readMishap_185 : decode cX8_readMishap 185 = .ok (.aload_n 0, 1) := by decide +kernel
theorem dX8_readMishap_186 : decode cX8_readMishap 186 = .ok (.getfield 40, 3) := by decide +kernel
theorem dX8_readMishap_189 : decode cX8_readMishap 189 = .ok (.bipush 7, 2) := by decide +kernel
theorem dX8_readMishap_191 : decode cX8_readMishap 191 = .ok (.imul, 1) := by decide +kernel
theorem dX8_readMishap_192 : decode cX8_readMishap 192 = .ok (.putfield 37, 3) := by decide +kernel
theorem dX8_readMishap_195 : decode cX8_readMishap 195 = .ok (.iconst 1, 1) := by decide +kernel
theorem dX8_readMishap_196 : decode cX8_readMishap 196 = .ok (.ireturn, 1) := by decide +kernel
theorem wp_X8_readMishap_0 {d : Nat} {s : ev_S} {Q : Option ev_V → ev_S → Prop}
    (h : (((s 137 4) < 10 → (Ev layX M_X8_advance d 0 [(0, ev_r 137)] [] s (fun _ s1 => (Ev layX M_X8_takeNumber d 0 [(0, ev_r 137), (1, ev_i 1), (2, ev_i 99)] [] s1 (ev_pi (fun r3 s2 => ((0 ≤ (ev_add (ev_mul (s1 137 4) 7) 0) ∧ (ev_add (ev_mul (s1 137 4) 7) 0) < (600 : Nat)) ∧ ∀ s4, ev_up s2 138 (Int.toNat (ev_add (ev_mul (s1 137 4) 7) 0)) r3 = s4 → (((s4 137 8) ≠ 0 → Q (some (ev_i 0)) s4) ∧ ((s4 137 8) = 0 → (Ev layX M_X8_takes d 0 [(0, ev_r 137), (1, ev_i 7)] [] s4 (ev_pi (fun r6 s5 => ((r6 ≠ 0 → (Ev layX M_X8_takePlace d 0 [(0, ev_r 137)] [] s5 (ev_pi (fun r8 s7 => ((0 ≤ (ev_add (ev_mul (s1 137 4) 7) 1) ∧ (ev_add (ev_mul (s1 137 4) 7) 1) < (600 : Nat)) ∧ ∀ s9, ev_up s7 138 (Int.toNat (ev_add (ev_mul (s1 137 4) 7) 1)) r8 = s9 → (((s9 137 8) ≠ 0 → Q (some (ev_i 0)) s9) ∧ ((s9 137 8) = 0 → (Ev layX M_X8_takes d 0 [(0, ev_r 137), (1, ev_i 8)] [] s9 (ev_pi (fun r11 s10 => ((r11 ≠ 0 → (Ev layX M_X8_takeNumber d 0 [(0, ev_r 137), (1, ev_i 0), (2, ev_i 599)] [] s10 (ev_pi (fun r13 s12 => ((0 ≤ (ev_add (ev_mul (s1 137 4) 7) 2) ∧ (ev_add (ev_mul (s1 137 4) 7) 2) < (600 : Nat)) ∧ ∀ s14, ev_up s12 138 (Int.toNat (ev_add (ev_mul (s1 137 4) 7) 2)) r13 = s14 → (((s14 137 8) ≠ 0 → Q (some (ev_i 0)) s14) ∧ ((s14 137 8) = 0 → (Ev layX M_X8_takes d 0 [(0, ev_r 137), (1, ev_i 9)] [] s14 (ev_pi (fun r16 s15 => ((r16 ≠ 0 → ((0 ≤ (ev_add (ev_mul (s1 137 4) 7) 2) ∧ (ev_add (ev_mul (s1 137 4) 7) 2) < (600 : Nat)) ∧ (Ev layX M_X8_takeNumber d 0 [(0, ev_r 137), (1, ev_i (s15 138 (Int.toNat (ev_add (ev_mul (s1 137 4) 7) 2)))), (2, ev_i 599)] [] s15 (ev_pi (fun r18 s17 => ((0 ≤ (ev_add (ev_mul (s1 137 4) 7) 3) ∧ (ev_add (ev_mul (s1 137 4) 7) 3) < (600 : Nat)) ∧ ∀ s19, ev_up s17 138 (Int.toNat (ev_add (ev_mul (s1 137 4) 7) 3)) r18 = s19 → (((s19 137 8) ≠ 0 → Q (some (ev_i 0)) s19) ∧ ((s19 137 8) = 0 → (Ev layX M_X8_readConditions d 0 [(0, ev_r 137), (1, ev_i (ev_mul (s1 137 4) 7))] [] s19 (ev_pi (fun r21 s20 => ((r21 = 0 → Q (some (ev_i 0)) s20) ∧ (r21 ≠ 0 → (Ev layX M_X8_takes d 0 [(0, ev_r 137), (1, ev_i 159)] [] s20 (ev_pi (fun r23 s22 => ((r23 ≠ 0 → (∀ s24, ev_up s22 137 4 (ev_add (s22 137 4) 1) = s24 → (∀ s25, ev_up s24 137 3 (ev_mul (s24 137 4) 7) = s25 → Q (some (ev_i 1)) s25))) ∧ (r23 = 0 → Q (some (ev_i 0)) s22)))))))))))))))))) ∧ (r16 = 0 → Q (some (ev_i 0)) s15)))))))))))) ∧ (r11 = 0 → Q (some (ev_i 0)) s10)))))))))))) ∧ (r6 = 0 → Q (some (ev_i 0)) s5)))))))))))))) ∧ (10 ≤ (s 137 4) → (Ev layX M_X8_faulty d 0 [(0, ev_r 137), (1, ev_i 3)] [] s (ev_pi (fun r27 s26 => ((r27 = 0 ∨ r27 = 1) ∧ Q (some (ev_i r27)) s26))))))) :
    Ev layX M_X8_readMishap (d + 1) 0 [(0, ev_r 137)] [] s Q := by
  refine Ev_aload_n 0 dX8_readMishap_0 rfl rfl ?_
  refine Ev_get (i := 4) cl_X8 yX_137 (Nat.le_of_ble_eq_true rfl) rfl wd_515 dX8_readMishap_1 ?_
  refine Ev_bipushC dX8_readMishap_4 rfl ?_
  refine Ev_icmp_lt (tgt := 15) dX8_readMishap_6 rfl (fun c => ?_) (fun c => ?_)
  · replace h := h.1 c
    refine Ev_aload_n 0 dX8_readMishap_15 rfl rfl ?_
    refine Ev_callV (As := []) (b := 137) (st := []) (M' := M_X8_advance) cm_X8_advance wd_923 wd_925 wd_5 yX_137 cl_X8 rfl dX8_readMishap_16 (Nat.le_refl _) rfl (Nat.le_of_ble_eq_true rfl) (Nat.le_of_ble_eq_true rfl) h (fun v u h hk => ?_)
    cases hk
    obtain ⟨s1, rfl⟩ : ∃ x, x = u := ⟨_, rfl⟩
    refine Ev_aload_n 0 dX8_readMishap_19 rfl rfl ?_
    refine Ev_get (i := 4) cl_X8 yX_137 (Nat.le_of_ble_eq_true rfl) rfl wd_515 dX8_readMishap_20 ?_
    refine Ev_bipushC dX8_readMishap_23 rfl ?_
    refine Ev_imul dX8_readMishap_25 ?_
    refine Ev_istore_n (l' := [(1, ev_i (ev_mul (s1 137 4) 7)), (0, ev_r 137)]) dX8_readMishap_26 rfl (Nat.le_of_ble_eq_true rfl) rfl ?_
    refine Ev_aload_n 1 dX8_readMishap_27 rfl rfl ?_
    refine Ev_getR (i := 2) cl_X8 yX_137 (Nat.le_of_ble_eq_true rfl) rfl wd_511 dX8_readMishap_28 ?_
    refine Ev_iload_n 0 dX8_readMishap_31 rfl rfl ?_
    refine Ev_iconst dX8_readMishap_32 rfl (ev_Rc rfl) ?_
    refine Ev_iadd dX8_readMishap_33 ?_
    refine Ev_aload_n 1 dX8_readMishap_34 rfl rfl ?_
    refine Ev_iconst dX8_readMishap_35 rfl (ev_Rc rfl) ?_
    refine Ev_bipushC dX8_readMishap_36 rfl ?_
    refine Ev_callV (As := [ev_i 1, ev_i 99]) (b := 137) (st := [ev_i (ev_add (ev_mul (s1 137 4) 7) 0), ev_r 138]) (M' := M_X8_takeNumber) cm_X8_takeNumber wd_939 wd_941 wd_9 yX_137 cl_X8 rfl dX8_readMishap_38 (Nat.le_refl _) rfl (Nat.le_of_ble_eq_true rfl) (Nat.le_of_ble_eq_true rfl) h (fun v u h hk => ?_)
    obtain ⟨r3, rfl⟩ := hk
    obtain ⟨s2, rfl⟩ : ∃ x, x = u := ⟨_, rfl⟩
    replace h := h r3 rfl
    obtain ⟨h0, h⟩ := h
    refine Ev_iast yX_138 h0 dX8_readMishap_41 (Ev_nm (fun s4 es4 => ?_))
    replace h := h s4 es4
    refine Ev_aload_n 1 dX8_readMishap_42 rfl rfl ?_
    refine Ev_get (i := 8) cl_X8 yX_137 (Nat.le_of_ble_eq_true rfl) rfl wd_521 dX8_readMishap_43 ?_
    refine Ev_if_ne (tgt := 58) dX8_readMishap_46 rfl (fun c => ?_) (fun c => ?_)
    · replace h := h.1 c
      refine Ev_iconst dX8_readMishap_58 rfl (ev_Rc rfl) ?_
      exact Ev_iret rfl dX8_readMishap_59 (ev_nb (by decide)) h
    · replace h := h.2 c
      refine Ev_aload_n 1 dX8_readMishap_49 rfl rfl ?_
      refine Ev_bipushC dX8_readMishap_50 rfl ?_
      refine Ev_callV (As := [ev_i 7]) (b := 137) (st := []) (M' := M_X8_takes) cm_X8_takes wd_947 wd_949 wd_11 yX_137 cl_X8 rfl dX8_readMishap_52 (Nat.le_refl _) rfl (Nat.le_of_ble_eq_true rfl) (Nat.le_of_ble_eq_true rfl) h (fun v u h hk => ?_)
      obtain ⟨r6, rfl⟩ := hk
      obtain ⟨s5, rfl⟩ : ∃ x, x = u := ⟨_, rfl⟩
      replace h := h r6 rfl
      refine Ev_if_ne (tgt := 60) dX8_readMishap_55 rfl (fun c => ?_) (fun c => ?_)
      · replace h := h.1 c
        refine Ev_aload_n 1 dX8_readMishap_60 rfl rfl ?_
        refine Ev_getR (i := 2) cl_X8 yX_137 (Nat.le_of_ble_eq_true rfl) rfl wd_511 dX8_readMishap_61 ?_
        refine Ev_iload_n 0 dX8_readMishap_64 rfl rfl ?_
        refine Ev_iconst dX8_readMishap_65 rfl (ev_Rc rfl) ?_
        refine Ev_iadd dX8_readMishap_66 ?_
        refine Ev_aload_n 1 dX8_readMishap_67 rfl rfl ?_
        refine Ev_callV (As := []) (b := 137) (st := [ev_i (ev_add (ev_mul (s1 137 4) 7) 1), ev_r 138]) (M' := M_X8_takePlace) cm_X8_takePlace wd_967 wd_969 wd_16 yX_137 cl_X8 rfl dX8_readMishap_68 (Nat.le_refl _) rfl (Nat.le_of_ble_eq_true rfl) (Nat.le_of_ble_eq_true rfl) h (fun v u h hk => ?_)
        obtain ⟨r8, rfl⟩ := hk
        obtain ⟨s7, rfl⟩ : ∃ x, x = u := ⟨_, rfl⟩
        replace h := h r8 rfl
        obtain ⟨h0, h⟩ := h
        refine Ev_iast yX_138 h0 dX8_readMishap_71 (Ev_nm (fun s9 es9 => ?_))
        replace h := h s9 es9
        refine Ev_aload_n 1 dX8_readMishap_72 rfl rfl ?_
        refine Ev_get (i := 8) cl_X8 yX_137 (Nat.le_of_ble_eq_true rfl) rfl wd_521 dX8_readMishap_73 ?_
        refine Ev_if_ne (tgt := 88) dX8_readMishap_76 rfl (fun c => ?_) (fun c => ?_)
        · replace h := h.1 c
          refine Ev_iconst dX8_readMishap_88 rfl (ev_Rc rfl) ?_
          exact Ev_iret rfl dX8_readMishap_89 (ev_nb (by decide)) h
        · replace h := h.2 c
          refine Ev_aload_n 1 dX8_readMishap_79 rfl rfl ?_
          refine Ev_bipushC dX8_readMishap_80 rfl ?_
          refine Ev_callV (As := [ev_i 8]) (b := 137) (st := []) (M' := M_X8_takes) cm_X8_takes wd_947 wd_949 wd_11 yX_137 cl_X8 rfl dX8_readMishap_82 (Nat.le_refl _) rfl (Nat.le_of_ble_eq_true rfl) (Nat.le_of_ble_eq_true rfl) h (fun v u h hk => ?_)
          obtain ⟨r11, rfl⟩ := hk
          obtain ⟨s10, rfl⟩ : ∃ x, x = u := ⟨_, rfl⟩
          replace h := h r11 rfl
          refine Ev_if_ne (tgt := 90) dX8_readMishap_85 rfl (fun c => ?_) (fun c => ?_)
          · replace h := h.1 c
            refine Ev_aload_n 1 dX8_readMishap_90 rfl rfl ?_
            refine Ev_getR (i := 2) cl_X8 yX_137 (Nat.le_of_ble_eq_true rfl) rfl wd_511 dX8_readMishap_91 ?_
            refine Ev_iload_n 0 dX8_readMishap_94 rfl rfl ?_
            refine Ev_iconst dX8_readMishap_95 rfl (ev_Rc rfl) ?_
            refine Ev_iadd dX8_readMishap_96 ?_
            refine Ev_aload_n 1 dX8_readMishap_97 rfl rfl ?_
            refine Ev_iconst dX8_readMishap_98 rfl (ev_Rc rfl) ?_
            refine Ev_sipushC dX8_readMishap_99 rfl ?_
            refine Ev_callV (As := [ev_i 0, ev_i 599]) (b := 137) (st := [ev_i (ev_add (ev_mul (s1 137 4) 7) 2), ev_r 138]) (M' := M_X8_takeNumber) cm_X8_takeNumber wd_939 wd_941 wd_9 yX_137 cl_X8 rfl dX8_readMishap_102 (Nat.le_refl _) rfl (Nat.le_of_ble_eq_true rfl) (Nat.le_of_ble_eq_true rfl) h (fun v u h hk => ?_)
            obtain ⟨r13, rfl⟩ := hk
            obtain ⟨s12, rfl⟩ : ∃ x, x = u := ⟨_, rfl⟩
            replace h := h r13 rfl
            obtain ⟨h0, h⟩ := h
            refine Ev_iast yX_138 h0 dX8_readMishap_105 (Ev_nm (fun s14 es14 => ?_))
            replace h := h s14 es14
            refine Ev_aload_n 1 dX8_readMishap_106 rfl rfl ?_
            refine Ev_get (i := 8) cl_X8 yX_137 (Nat.le_of_ble_eq_true rfl) rfl wd_521 dX8_readMishap_107 ?_
            refine Ev_if_ne (tgt := 122) dX8_readMishap_110 rfl (fun c => ?_) (fun c => ?_)
            · replace h := h.1 c
              refine Ev_iconst dX8_readMishap_122 rfl (ev_Rc rfl) ?_
              exact Ev_iret rfl dX8_readMishap_123 (ev_nb (by decide)) h
            · replace h := h.2 c
              refine Ev_aload_n 1 dX8_readMishap_113 rfl rfl ?_
              refine Ev_bipushC dX8_readMishap_114 rfl ?_
              refine Ev_callV (As := [ev_i 9]) (b := 137) (st := []) (M' := M_X8_takes) cm_X8_takes wd_947 wd_949 wd_11 yX_137 cl_X8 rfl dX8_readMishap_116 (Nat.le_refl _) rfl (Nat.le_of_ble_eq_true rfl) (Nat.le_of_ble_eq_true rfl) h (fun v u h hk => ?_)
              obtain ⟨r16, rfl⟩ := hk
              obtain ⟨s15, rfl⟩ : ∃ x, x = u := ⟨_, rfl⟩
              replace h := h r16 rfl
              refine Ev_if_ne (tgt := 124) dX8_readMishap_119 rfl (fun c => ?_) (fun c => ?_)
              · replace h := h.1 c
                refine Ev_aload_n 1 dX8_readMishap_124 rfl rfl ?_
                refine Ev_getR (i := 2) cl_X8 yX_137 (Nat.le_of_ble_eq_true rfl) rfl wd_511 dX8_readMishap_125 ?_
                refine Ev_iload_n 0 dX8_readMishap_128 rfl rfl ?_
                refine Ev_iconst dX8_readMishap_129 rfl (ev_Rc rfl) ?_
                refine Ev_iadd dX8_readMishap_130 ?_
                refine Ev_aload_n 1 dX8_readMishap_131 rfl rfl ?_
                refine Ev_aload_n 1 dX8_readMishap_132 rfl rfl ?_
                refine Ev_getR (i := 2) cl_X8 yX_137 (Nat.le_of_ble_eq_true rfl) rfl wd_511 dX8_readMishap_133 ?_
                refine Ev_iload_n 0 dX8_readMishap_136 rfl rfl ?_
                refine Ev_iconst dX8_readMishap_137 rfl (ev_Rc rfl) ?_
                refine Ev_iadd dX8_readMishap_138 ?_
                obtain ⟨h0, h⟩ := h
                refine Ev_iald yX_138 h0 dX8_readMishap_139 ?_
                refine Ev_sipushC dX8_readMishap_140 rfl ?_
                refine Ev_callV (As := [ev_i (s15 138 (Int.toNat (ev_add (ev_mul (s1 137 4) 7) 2))), ev_i 599]) (b := 137) (st := [ev_i (ev_add (ev_mul (s1 137 4) 7) 3), ev_r 138]) (M' := M_X8_takeNumber) cm_X8_takeNumber wd_939 wd_941 wd_9 yX_137 cl_X8 rfl dX8_readMishap_143 (Nat.le_refl _) rfl (Nat.le_of_ble_eq_true rfl) (Nat.le_of_ble_eq_true rfl) h (fun v u h hk => ?_)
                obtain ⟨r18, rfl⟩ := hk
                obtain ⟨s17, rfl⟩ : ∃ x, x = u := ⟨_, rfl⟩
                replace h := h r18 rfl
                obtain ⟨h0, h⟩ := h
                refine Ev_iast yX_138 h0 dX8_readMishap_146 (Ev_nm (fun s19 es19 => ?_))
                replace h := h s19 es19
                refine Ev_aload_n 1 dX8_readMishap_147 rfl rfl ?_
                refine Ev_get (i := 8) cl_X8 yX_137 (Nat.le_of_ble_eq_true rfl) rfl wd_521 dX8_readMishap_148 ?_
                refine Ev_if_ne (tgt := 172) dX8_readMishap_151 rfl (fun c => ?_) (fun c => ?_)
                · replace h := h.1 c
                  refine Ev_iconst dX8_readMishap_172 rfl (ev_Rc rfl) ?_
                  exact Ev_iret rfl dX8_readMishap_173 (ev_nb (by decide)) h
                · replace h := h.2 c
                  refine Ev_aload_n 1 dX8_readMishap_154 rfl rfl ?_
                  refine Ev_iload_n 0 dX8_readMishap_155 rfl rfl ?_
                  refine Ev_callV (As := [ev_i (ev_mul (s1 137 4) 7)]) (b := 137) (st := []) (M' := M_X8_readConditions) cm_X8_readConditions wd_972 wd_974 wd_17 yX_137 cl_X8 rfl dX8_readMishap_156 (Nat.le_refl _) rfl (Nat.le_of_ble_eq_true rfl) (Nat.le_of_ble_eq_true rfl) h (fun v u h hk => ?_)
                  obtain ⟨r21, rfl⟩ := hk
                  obtain ⟨s20, rfl⟩ : ∃ x, x = u := ⟨_, rfl⟩
                  replace h := h r21 rfl
                  refine Ev_if_eq (tgt := 172) dX8_readMishap_159 rfl (fun c => ?_) (fun c => ?_)
                  · replace h := h.1 c
                    refine Ev_iconst dX8_readMishap_172 rfl (ev_Rc rfl) ?_
                    exact Ev_iret rfl dX8_readMishap_173 (ev_nb (by decide)) h
                  · replace h := h.2 c
                    refine Ev_aload_n 1 dX8_readMishap_162 rfl rfl ?_
                    refine Ev_sipushC dX8_readMishap_163 rfl ?_
                    refine Ev_callV (As := [ev_i 159]) (b := 137) (st := []) (M' := M_X8_takes) cm_X8_takes wd_947 wd_949 wd_11 yX_137 cl_X8 rfl dX8_readMishap_166 (Nat.le_refl _) rfl (Nat.le_of_ble_eq_true rfl) (Nat.le_of_ble_eq_true rfl) h (fun v u h hk => ?_)
                    obtain ⟨r23, rfl⟩ := hk
                    obtain ⟨s22, rfl⟩ : ∃ x, x = u := ⟨_, rfl⟩
                    replace h := h r23 rfl
                    refine Ev_if_ne (tgt := 174) dX8_readMishap_169 rfl (fun c => ?_) (fun c => ?_)
                    · replace h := h.1 c
                      refine Ev_aload_n 1 dX8_readMishap_174 rfl rfl ?_
                      refine Ev_dup dX8_readMishap_175 rfl ?_
                      refine Ev_get (i := 4) cl_X8 yX_137 (Nat.le_of_ble_eq_true rfl) rfl wd_515 dX8_readMishap_176 ?_
                      refine Ev_iconst dX8_readMishap_179 rfl (ev_Rc rfl) ?_
                      refine Ev_iadd dX8_readMishap_180 ?_
                      refine Ev_put (i := 4) (ty := .int) cl_X8 yX_137 (Nat.le_of_ble_eq_true rfl) rfl rfl (by decide +kernel) rfl rfl wd_515 dX8_readMishap_181 (Ev_nm (fun s24 es24 => ?_))
                      replace h := h s24 es24
                      refine Ev_aload_n 1 dX8_readMishap_184 rfl rfl ?_
                      refine Ev_aload_n 1 dX8_readMishap_185 rfl rfl ?_
                      refine Ev_get (i := 4) cl_X8 yX_137 (Nat.le_of_ble_eq_true rfl) rfl wd_515 dX8_readMishap_186 ?_
                      refine Ev_bipushC dX8_readMishap_189 rfl ?_
                      refine Ev_imul dX8_readMishap_191 ?_
                      refine Ev_put (i := 3) (ty := .int) cl_X8 yX_137 (Nat.le_of_ble_eq_true rfl) rfl rfl (by decide +kernel) rfl rfl wd_513 dX8_readMishap_192 (Ev_nm (fun s25 es25 => ?_))
                      replace h := h s25 es25
                      refine Ev_iconst dX8_readMishap_195 rfl (ev_Rc rfl) ?_
                      exact Ev_iret rfl dX8_readMishap_196 (ev_nb (by decide)) h
                    · replace h := h.2 c
                      refine Ev_iconst dX8_readMishap_172 rfl (ev_Rc rfl) ?_
                      exact Ev_iret rfl dX8_readMishap_173 (ev_nb (by decide)) h
              · replace h := h.2 c
                refine Ev_iconst dX8_readMishap_122 rfl (ev_Rc rfl) ?_
                exact Ev_iret rfl dX8_readMishap_123 (ev_nb (by decide)) h
          · replace h := h.2 c
            refine Ev_iconst dX8_readMishap_88 rfl (ev_Rc rfl) ?_
            exact Ev_iret rfl dX8_readMishap_89 (ev_nb (by decide)) h
      · replace h := h.2 c
        refine Ev_iconst dX8_readMishap_58 rfl (ev_Rc rfl) ?_
        exact Ev_iret rfl dX8_readMishap_59 (ev_nb (by decide)) h
  · replace h := h.2 c
    refine Ev_aload_n 0 dX8_readMishap_9 rfl rfl ?_
    refine Ev_iconst dX8_readMishap_10 rfl (ev_Rc rfl) ?_
    refine Ev_callV (As := [ev_i 3]) (b := 137) (st := []) (M' := M_X8_faulty) cm_X8_faulty wd_935 wd_937 wd_8 yX_137 cl_X8 rfl dX8_readMishap_11 (Nat.le_refl _) rfl (Nat.le_of_ble_eq_true rfl) (Nat.le_of_ble_eq_true rfl) h (fun v u h hk => ?_)
    obtain ⟨r27, rfl⟩ := hk
    obtain ⟨s26, rfl⟩ : ∃ x, x = u := ⟨_, rfl⟩
    replace h := h r27 rfl
    exact Ev_iret rfl dX8_readMishap_14 (ev_nb h.1) h.2
theorem dX8_readConditions_0 : decode cX8_readConditions 0 = .ok (.aload_n 0, 1) := by decide +kernel
theorem dX8_readConditions_1 : decode cX8_readConditions 1 = .ok (.getfield 9, 3) := by decide +kernel
theorem dX8_readConditions_4 : decode cX8_readConditions 4 = .ok (.iload_n 1, 1) := by decide +kernel
theorem dX8_readConditions_5 : decode cX8_readConditions 5 = .ok (.iconst 4, 1) := by decide +kernel
theorem dX8_readConditions_6 : decode cX8_readConditions 6 = .ok (.iadd, 1) := by decide +kernel
theorem dX8_readConditions_7 : decode cX8_readConditions 7 = .ok (.iconst (-1), 1) := by decide +kernel
theorem dX8_readConditions_8 : decode cX8_readConditions 8 = .ok (.iastore, 1) := by decide +kernel
theorem dX8_readConditions_9 : decode cX8_readConditions 9 = .ok (.aload_n 0, 1) := by decide +kernel
theorem dX8_readConditions_10 : decode cX8_readConditions 10 = .ok (.getfield 9, 3) := by decide +kernel
theorem dX8_readConditions_13 : decode cX8_readConditions 13 = .ok (.iload_n 1, 1) := by decide +kernel
theorem dX8_readConditions_14 : decode cX8_readConditions 14 = .ok (.iconst 5, 1) := by decide +kernel
theorem dX8_readConditions_15 : decode cX8_readConditions 15 = .ok (.iadd, 1) := by decide +kernel
theorem dX8_readConditions_16 : decode cX8_readConditions 16 = .ok (.iconst (-1), 1) := by decide +kernel
theorem dX8_readConditions_17 : decode cX8_readConditions 17 = .ok (.iastore, 1) := by decide +kernel
theorem dX8_readConditions_18 : decode cX8_readConditions 18 = .ok (.aload_n 0, 1) := by decide +kernel
theorem dX8_readConditions_19 : decode cX8_readConditions 19 = .ok (.getfield 9, 3) := by decide +kernel
theorem dX8_readConditions_22 : decode cX8_readConditions 22 = .ok (.iload_n 1, 1) := by decide +kernel
theorem dX8_readConditions_23 : decode cX8_readConditions 23 = .ok (.bipush 6, 2) := by decide +kernel
theorem dX8_readConditions_25 : decode cX8_readConditions 25 = .ok (.iadd, 1) := by decide +kernel
theorem dX8_readConditions_26 : decode cX8_readConditions 26 = .ok (.bipush 100, 2) := by decide +kernel
theorem dX8_readConditions_28 : decode cX8_readConditions 28 = .ok (.iastore, 1) := by decide +kernel
theorem dX8_readConditions_29 : decode cX8_readConditions 29 = .ok (.aload_n 0, 1) := by decide +kernel
theorem dX8_readConditions_30 : decode cX8_readConditions 30 = .ok (.bipush 10, 2) := by decide +kernel
theorem dX8_readConditions_32 : decode cX8_readConditions 32 = .ok (.invokevirtual 123, 3) := by decide +kernel
theorem dX8_readConditions_35 : decode cX8_readConditions 35 = .ok (.ifCond .eq 25, 3) := by decide +kernel
theorem dX8_readConditions_38 : decode cX8_readConditions 38 = .ok (.aload_n 0, 1) := by decide +kernel
theorem dX8_readConditions_39 : decode cX8_readConditions 39 = .ok (.getfield 9, 3) := by decide +kernel
theorem dX8_readConditions_42 : decode cX8_readConditions 42 = .ok (.iload_n 1, 1) := by decide +kernel
theorem dX8_readConditions_43 : decode cX8_readConditions 43 = .ok (.iconst 4, 1) := by decide +kernel
theorem dX8_readConditions_44 : decode cX8_readConditions 44 = .ok (.iadd, 1) := by decide +kernel
theorem dX8_readConditions_45 : decode cX8_readConditions 45 = .ok (.aload_n 0, 1) := by decide +kernel
theorem dX8_readConditions_46 : decode cX8_readConditions 46 = .ok (.iconst 0, 1) := by decide +kernel
theorem dX8_readConditions_47 : decode cX8_readConditions 47 = .ok (.aload_n 0, 1) := by decide +kernel
theorem dX8_readConditions_48 : decode cX8_readConditions 48 = .ok (.getfield 30, 3) := by decide +kernel
theorem dX8_readConditions_51 : decode cX8_readConditions 51 = .ok (.getfield 126, 3) := by decide +kernel
theorem dX8_readConditions_54 : decode cX8_readConditions 54 = .ok (.iconst 1, 1) := by decide +kernel
theorem dX8_readConditions_55 : decode cX8_readConditions 55 = .ok (.isub, 1) := by decide +kernel
theorem dX8_readConditions_56 : decode cX8_readConditions 56 = .ok (.invokevirtual 104, 3) := by decide +kernel
theorem dX8_readConditions_59 : decode cX8_readConditions 59 = .ok (.iastore, 1) := by decide +kernel
theorem dX8_readConditions_60 : decode cX8_readConditions 60 = .ok (.aload_n 0, 1) := by decide +kernel
theorem dX8_readConditions_61 : decode cX8_readConditions 61 = .ok (.getfield 34, 3) := by decide +kernel
theorem dX8_readConditions_64 : decode cX8_readConditions 64 = .ok (.ifCond .ne 44, 3) := by decide +kernel
theorem dX8_readConditions_67 : decode cX8_readConditions 67 = .ok (.aload_n 0, 1) := by decide +kernel
theorem dX8_readConditions_68 : decode cX8_readConditions 68 = .ok (.bipush 11, 2) := by decide +kernel
theorem dX8_readConditions_70 : decode cX8_readConditions 70 = .ok (.invokevirtual 123, 3) := by decide +kernel
theorem dX8_readConditions_73 : decode cX8_readConditions 73 = .ok (.ifCond .eq 35, 3) := by decide +kernel
theorem dX8_readConditions_76 : decode cX8_readConditions 76 = .ok (.aload_n 0, 1) := by decide +kernel
theorem dX8_readConditions_77 : decode cX8_readConditions 77 = .ok (.invokevirtual 129, 3) := by decide +kernel
theorem dX8_readConditions_80 : decode cX8_readConditions 80 = .ok (.ifCond .ne 9, 3) := by decide +kernel
theorem dX8_readConditions_83 : decode cX8_readConditions 83 = .ok (.aload_n 0, 1) := by decide +kernel
theorem dX8_readConditions_84 : decode cX8_readConditions 84 = .ok (.iconst 1, 1) := by decide +kernel
theorem dX8_readConditions_85 : decode cX8_readConditions 85 = .ok (.invokevirtual 89, 3) := by decide +kernel
theorem dX8_readConditions_88 : decode cX8_readConditions 88 = .ok (.ireturn, 1) := by decide +kernel
theorem dX8_readConditions_89 : decode cX8_readConditions 89 = .ok (.aload_n 0, 1) := by decide +kernel
theorem dX8_readConditions_90 : decode cX8_readConditions 90 = .ok (.getfield 9, 3) := by decide +kernel
theorem dX8_readConditions_93 : decode cX8_readConditions 93 = .ok (.iload_n 1, 1) := by decide +kernel
theorem dX8_readConditions_94 : decode cX8_readConditions 94 = .ok (.iconst 5, 1) := by decide +kernel
theorem dX8_readConditions_95 : decode cX8_readConditions 95 = .ok (.iadd, 1) := by decide +kernel
theorem dX8_readConditions_96 : decode cX8_readConditions 96 = .ok (.aload_n 0, 1) := by decide +kernel
theorem dX8_readConditions_97 : decode cX8_readConditions 97 = .ok (.getfield 83, 3) := by decide +kernel
theorem dX8_readConditions_100 : decode cX8_readConditions 100 = .ok (.bipush 13, 2) := by decide +kernel
theorem dX8_readConditions_102 : decode cX8_readConditions 102 = .ok (.isub, 1) := by decide +kernel
theorem dX8_readConditions_103 : decode cX8_readConditions 103 = .ok (.iastore, 1) := by decide +kernel
theorem dX8_readConditions_104 : decode cX8_readConditions 104 = .ok (.aload_n 0, 1) := by decide +kernel
theorem dX8_readConditions_105 : decode cX8_readConditions 105 = .ok (.invokevirtual 51, 3) := by decide +kernel
theorem dX8_readConditions_108 : decode cX8_readConditions 108 = .ok (.aload_n 0, 1) := by decide +kernel
theorem dX8_readConditions_109 : decode cX8_readConditions 109 = .ok (.getfield 34, 3) := by decide +kernel
theorem dX8_readConditions_112 : decode cX8_readConditions 112 = .ok (.ifCond .ne 28, 3) := by decide +kernel
theorem dX8_readConditions_115 : decode cX8_readConditions 115 = .ok (.aload_n 0, 1) := by decide +kernel
theorem dX8_readConditions_116 : decode cX8_readConditions 116 = .ok (.bipush 12, 2) := by decide +kernel
theorem dX8_readConditions_118 : decode cX8_readConditions 118 = .ok (.invokevirtual 123, 3) := by decide +kernel
theorem dX8_readConditions_121 : decode cX8_readConditions 121 = .ok (.ifCond .eq 19, 3) := by decide +kernel
theorem dX8_readConditions_124 : decode cX8_readConditions 124 = .ok (.aload_n 0, 1) := by decide +kernel
theorem dX8_readConditions_125 : decode cX8_readConditions 125 = .ok (.getfield 9, 3) := by decide +kernel
theorem dX8_readConditions_128 : decode cX8_readConditions 128 = .ok (.iload_n 1, 1) := by decide +kernel
theorem dX8_readConditions_129 : decode cX8_readConditions 129 = .ok (.bipush 6, 2) := by decide +kernel
theorem dX8_readConditions_131 : decode cX8_readConditions 131 = .ok (.iadd, 1) := by decide +kernel
theorem dX8_readConditions_132 : decode cX8_readConditions 132 = .ok (.aload_n 0, 1) := by decide +kernel
theorem dX8_readConditions_133 : decode cX8_readConditions 133 = .ok (.iconst 1, 1) := by decide +kernel
theorem dX8_readConditions_134 : decode cX8_readConditions 134 = .ok (.bipush 100, 2) := by decide +kernel
theorem dX8_readConditions_136 : decode cX8_readConditions 136 = .ok (.invokevirtual 104, 3) := by decide +kernel
theorem dX8_readConditions_139 : decode cX8_readConditions 139 = .ok (.iastore, 1) := by decide +kernel
theorem dX8_readConditions_140 : decode cX8_readConditions 140 = .ok (.aload_n 0, 1) := by decide +kernel
theorem dX8_readConditions_141 : decode cX8_readConditions 141 = .ok (.getfield 34, 3) := by decide +kernel
theorem dX8_readConditions_144 : decode cX8_readConditions 144 = .ok (.ifCond .ne 7, 3) := by decide +kernel
theorem dX8_readConditions_147 : decode cX8_readConditions 147 = .ok (.iconst 1, 1) := by decide +kernel
theorem dX8_readConditions_148 : decode cX8_readConditions 148 = .ok (.goto 4, 3) := by decide +kernel
theorem dX8_readConditions_151 : decode cX8_readConditions 151 = .ok (.iconst 0, 1) := by decide +kernel
theorem dX8_readConditions_152 : decode cX8_readConditions 152 = .ok (.ireturn, 1) := by decide +kernel
theorem wp_X8_readConditions_0 {d : Nat} {s : ev_S} {Q : Option ev_V → ev_S → Prop} {a1 : Int}
    (h : ((0 ≤ (ev_add a1 4) ∧ (ev_add a1 4) < (600 : Nat)) ∧ ∀ s1, ev_up s 138 (Int.toNat (ev_add a1 4)) (-1) = s1 → ((0 ≤ (ev_add a1 5) ∧ (ev_add a1 5) < (600 : Nat)) ∧ ∀ s2, ev_up s1 138 (Int.toNat (ev_add a1 5)) (-1) = s2 → ((0 ≤ (ev_add a1 6) ∧ (ev_add a1 6) < (600 : Nat)) ∧ ∀ s3, ev_up s2 138 (Int.toNat (ev_add a1 6)) 100 = s3 → (Ev layX M_X8_passes d 0 [(0, ev_r 137), (1, ev_i 10)] [] s3 (ev_pi (fun r5 s4 => ((r5 = 0 → Ev layX M_X8_readConditions (d + 1) 60 [(0, ev_r 137), (1, ev_i a1)] [] s4 Q) ∧ (r5 ≠ 0 → (Ev layX M_X8_takeNumber d 0 [(0, ev_r 137), (1, ev_i 0), (2, ev_i (ev_sub (s4 1 4) 1))] [] s4 (ev_pi (fun r7 s6 => ((0 ≤ (ev_add a1 4) ∧ (ev_add a1 4) < (600 : Nat)) ∧ ∀ s8, ev_up s6 138 (Int.toNat (ev_add a1 4)) r7 = s8 → Ev layX M_X8_readConditions (d + 1) 60 [(0, ev_r 137), (1, ev_i a1)] [] s8 Q))))))))))))) :
    Ev layX M_X8_readConditions (d + 1) 0 [(0, ev_r 137), (1, ev_i a1)] [] s Q := by
  refine Ev_aload_n 0 dX8_readConditions_0 rfl rfl ?_
  refine Ev_getR (i := 2) cl_X8 yX_137 (Nat.le_of_ble_eq_true rfl) rfl wd_511 dX8_readConditions_1 ?_
  refine Ev_iload_n 1 dX8_readConditions_4 rfl rfl ?_
  refine Ev_iconst dX8_readConditions_5 rfl (ev_Rc rfl) ?_
  refine Ev_iadd dX8_readConditions_6 ?_
  refine Ev_iconst dX8_readConditions_7 rfl (ev_Rc rfl) ?_
  obtain ⟨h0, h⟩ := h
  refine Ev_iast yX_138 h0 dX8_readConditions_8 (Ev_nm (fun s1 es1 => ?_))
  replace h := h s1 es1
  refine Ev_aload_n 0 dX8_readConditions_9 rfl rfl ?_
  refine Ev_getR (i := 2) cl_X8 yX_137 (Nat.le_of_ble_eq_true rfl) rfl wd_511 dX8_readConditions_10 ?_
  refine Ev_iload_n 1 dX8_readConditions_13 rfl rfl ?_
  refine Ev_iconst dX8_readConditions_14 rfl (ev_Rc rfl) ?_
  refine Ev_iadd dX8_readConditions_15 ?_
  refine Ev_iconst dX8_readConditions_16 rfl (ev_Rc rfl) ?_
  obtain ⟨h0, h⟩ := h
  refine Ev_iast yX_138 h0 dX8_readConditions_17 (Ev_nm (fun s2 es2 => ?_))
  replace h := h s2 es2
  refine Ev_aload_n 0 dX8_readConditions_18 rfl rfl ?_
  refine Ev_getR (i := 2) cl_X8 yX_137 (Nat.le_of_ble_eq_true rfl) rfl wd_511 dX8_readConditions_19 ?_
  refine Ev_iload_n 1 dX8_readConditions_22 rfl rfl ?_
  refine Ev_bipushC dX8_readConditions_23 rfl ?_
  refine Ev_iadd dX8_readConditions_25 ?_
  refine Ev_bipushC dX8_readConditions_26 rfl ?_
  obtain ⟨h0, h⟩ := h
  refine Ev_iast yX_138 h0 dX8_readConditions_28 (Ev_nm (fun s3 es3 => ?_))
  replace h := h s3 es3
  refine Ev_aload_n 0 dX8_readConditions_29 rfl rfl ?_
  refine Ev_bipushC dX8_readConditions_30 rfl ?_
  refine Ev_callV (As := [ev_i 10]) (b := 137) (st := []) (M' := M_X8_passes) cm_X8_passes wd_976 wd_978 wd_18 yX_137 cl_X8 rfl dX8_readConditions_32 (Nat.le_refl _) rfl (Nat.le_of_ble_eq_true rfl) (Nat.le_of_ble_eq_true rfl) h (fun v u h hk => ?_)
  obtain ⟨r5, rfl⟩ := hk
  obtain ⟨s4, rfl⟩ : ∃ x, x = u := ⟨_, rfl⟩
  replace h := h r5 rfl
  refine Ev_if_eq (tgt := 60) dX8_readConditions_35 rfl (fun c => ?_) (fun c => ?_)
  · replace h := h.1 c
    exact Ev_sub [0, 1] rfl h
  · replace h := h.2 c
    refine Ev_aload_n 0 dX8_readConditions_38 rfl rfl ?_
    refine Ev_getR (i := 2) cl_X8 yX_137 (Nat.le_of_ble_eq_true rfl) rfl wd_511 dX8_readConditions_39 ?_
    refine Ev_iload_n 1 dX8_readConditions_42 rfl rfl ?_
    refine Ev_iconst dX8_readConditions_43 rfl (ev_Rc rfl) ?_
    refine Ev_iadd dX8_readConditions_44 ?_
    refine Ev_aload_n 0 dX8_readConditions_45 rfl rfl ?_
    refine Ev_iconst dX8_readConditions_46 rfl (ev_Rc rfl) ?_
    refine Ev_aload_n 0 dX8_readConditions_47 rfl rfl ?_
    refine Ev_getR (i := 1) cl_X8 yX_137 (Nat.le_of_ble_eq_true rfl) rfl wd_510 dX8_readConditions_48 ?_
    refine Ev_get (i := 4) cl_X10 yX_1 (Nat.le_of_ble_eq_true rfl) rfl wd_256 dX8_readConditions_51 ?_
    refine Ev_iconst dX8_readConditions_54 rfl (ev_Rc rfl) ?_
    refine Ev_isub dX8_readConditions_55 ?_
    refine Ev_callV (As := [ev_i 0, ev_i (ev_sub (s4 1 4) 1)]) (b := 137) (st := [ev_i (ev_add a1 4), ev_r 138]) (M' := M_X8_takeNumber) cm_X8_takeNumber wd_939 wd_941 wd_9 yX_137 cl_X8 rfl dX8_readConditions_56 (Nat.le_refl _) rfl (Nat.le_of_ble_eq_true rfl) (Nat.le_of_ble_eq_true rfl) h (fun v u h hk => ?_)
    obtain ⟨r7, rfl⟩ := hk
    obtain ⟨s6, rfl⟩ : ∃ x, x = u := ⟨_, rfl⟩
    replace h := h r7 rfl
    obtain ⟨h0, h⟩ := h
    refine Ev_iast yX_138 h0 dX8_readConditions_59 (Ev_nm (fun s8 es8 => ?_))
    replace h := h s8 es8
    exact Ev_sub [0, 1] rfl h
theorem wp_X8_readConditions_60 {d : Nat} {s : ev_S} {Q : Option ev_V → ev_S → Prop} {a1 : Int}
    (h : (((s 137 8) ≠ 0 → Ev layX M_X8_readConditions (d + 1) 108 [(0, ev_r 137), (1, ev_i a1)] [] s Q) ∧ ((s 137 8) = 0 → (Ev layX M_X8_passes d 0 [(0, ev_r 137), (1, ev_i 11)] [] s (ev_pi (fun r2 s1 => ((r2 = 0 → Ev layX M_X8_readConditions (d + 1) 108 [(0, ev_r 137), (1, ev_i a1)] [] s1 Q) ∧ (r2 ≠ 0 → (Ev layX M_X8_seesKind d 0 [(0, ev_r 137)] [] s1 (ev_pi (fun r4 s3 => ((r4 ≠ 0 → ((0 ≤ (ev_add a1 5) ∧ (ev_add a1 5) < (600 : Nat)) ∧ ∀ s5, ev_up s3 138 (Int.toNat (ev_add a1 5)) (ev_sub (s3 137 7) 13) = s5 → (Ev layX M_X8_advance d 0 [(0, ev_r 137)] [] s5 (fun _ s6 => Ev layX M_X8_readConditions (d + 1) 108 [(0, ev_r 137), (1, ev_i a1)] [] s6 Q)))) ∧ (r4 = 0 → (Ev layX M_X8_faulty d 0 [(0, ev_r 137), (1, ev_i 1)] [] s3 (ev_pi (fun r8 s7 => ((r8 = 0 ∨ r8 = 1) ∧ Q (some (ev_i r8)) s7))))))))))))))))) :
    Ev layX M_X8_readConditions (d + 1) 60 [(0, ev_r 137), (1, ev_i a1)] [] s Q := by
  refine Ev_aload_n 0 dX8_readConditions_60 rfl rfl ?_
  refine Ev_get (i := 8) cl_X8 yX_137 (Nat.le_of_ble_eq_true rfl) rfl wd_521 dX8_readConditions_61 ?_
  refine Ev_if_ne (tgt := 108) dX8_readConditions_64 rfl (fun c => ?_) (fun c => ?_)
  · replace h := h.1 c
    exact Ev_sub [0, 1] rfl h
  · replace h := h.2 c
    refine Ev_aload_n 0 dX8_readConditions_67 rfl rfl ?_
    refine Ev_bipushC dX8_readConditions_68 rfl ?_
    refine Ev_callV (As := [ev_i 11]) (b := 137) (st := []) (M' := M_X8_passes) cm_X8_passes wd_976 wd_978 wd_18 yX_137 cl_X8 rfl dX8_readConditions_70 (Nat.le_refl _) rfl (Nat.le_of_ble_eq_true rfl) (Nat.le_of_ble_eq_true rfl) h (fun v u h hk => ?_)
    obtain ⟨r2, rfl⟩ := hk
    obtain ⟨s1, rfl⟩ : ∃ x, x = u := ⟨_, rfl⟩
    replace h := h r2 rfl
    refine Ev_if_eq (tgt := 108) dX8_readConditions_73 rfl (fun c => ?_) (fun c => ?_)
    · replace h := h.1 c
      exact Ev_sub [0, 1] rfl h
    · replace h := h.2 c
      refine Ev_aload_n 0 dX8_readConditions_76 rfl rfl ?_
      refine Ev_callV (As := []) (b := 137) (st := []) (M' := M_X8_seesKind) cm_X8_seesKind wd_980 wd_982 wd_19 yX_137 cl_X8 rfl dX8_readConditions_77 (Nat.le_refl _) rfl (Nat.le_of_ble_eq_true rfl) (Nat.le_of_ble_eq_true rfl) h (fun v u h hk => ?_)
      obtain ⟨r4, rfl⟩ := hk
      obtain ⟨s3, rfl⟩ : ∃ x, x = u := ⟨_, rfl⟩
      replace h := h r4 rfl
      refine Ev_if_ne (tgt := 89) dX8_readConditions_80 rfl (fun c => ?_) (fun c => ?_)
      · replace h := h.1 c
        refine Ev_aload_n 0 dX8_readConditions_89 rfl rfl ?_
        refine Ev_getR (i := 2) cl_X8 yX_137 (Nat.le_of_ble_eq_true rfl) rfl wd_511 dX8_readConditions_90 ?_
        refine Ev_iload_n 1 dX8_readConditions_93 rfl rfl ?_
        refine Ev_iconst dX8_readConditions_94 rfl (ev_Rc rfl) ?_
        refine Ev_iadd dX8_readConditions_95 ?_
        refine Ev_aload_n 0 dX8_readConditions_96 rfl rfl ?_
        refine Ev_get (i := 7) cl_X8 yX_137 (Nat.le_of_ble_eq_true rfl) rfl wd_520 dX8_readConditions_97 ?_
        refine Ev_bipushC dX8_readConditions_100 rfl ?_
        refine Ev_isub dX8_readConditions_102 ?_
        obtain ⟨h0, h⟩ := h
        refine Ev_iast yX_138 h0 dX8_readConditions_103 (Ev_nm (fun s5 es5 => ?_))
        replace h := h s5 es5
        refine Ev_aload_n 0 dX8_readConditions_104 rfl rfl ?_
        refine Ev_callV (As := []) (b := 137) (st := []) (M' := M_X8_advance) cm_X8_advance wd_923 wd_925 wd_5 yX_137 cl_X8 rfl dX8_readConditions_105 (Nat.le_refl _) rfl (Nat.le_of_ble_eq_true rfl) (Nat.le_of_ble_eq_true rfl) h (fun v u h hk => ?_)
        cases hk
        obtain ⟨s6, rfl⟩ : ∃ x, x = u := ⟨_, rfl⟩
        exact Ev_sub [0, 1] rfl h
      · replace h := h.2 c
        refine Ev_aload_n 0 dX8_readConditions_83 rfl rfl ?_
        refine Ev_iconst dX8_readConditions_84 rfl (ev_Rc rfl) ?_
        refine Ev_callV (As := [ev_i 1]) (b := 137) (st := []) (M' := M_X8_faulty) cm_X8_faulty wd_935 wd_937 wd_8 yX_137 cl_X8 rfl dX8_readConditions_85 (Nat.le_refl _) rfl (Nat.le_of_ble_eq_true rfl) (Nat.le_of_ble_eq_true rfl) h (fun v u h hk => ?_)
        obtain ⟨r8, rfl⟩ := hk
        obtain ⟨s7, rfl⟩ : ∃ x, x = u := ⟨_, rfl⟩
        replace h := h r8 rfl
        exact Ev_iret rfl dX8_readConditions_88 (ev_nb h.1) h.2
theorem wp_X8_readConditions_108 {d : Nat} {s : ev_S} {Q : Option ev_V → ev_S → Prop} {a1 : Int}
    (h : (((s 137 8) ≠ 0 → (((s 137 8) ≠ 0 → Q (some (ev_i 0)) s) ∧ ((s 137 8) = 0 → Q (some (ev_i 1)) s))) ∧ ((s 137 8) = 0 → (Ev layX M_X8_passes d 0 [(0, ev_r 137), (1, ev_i 12)] [] s (ev_pi (fun r2 s1 => ((r2 = 0 → (((s1 137 8) ≠ 0 → Q (some (ev_i 0)) s1) ∧ ((s1 137 8) = 0 → Q (some (ev_i 1)) s1))) ∧ (r2 ≠ 0 → (Ev layX M_X8_takeNumber d 0 [(0, ev_r 137), (1, ev_i 1), (2, ev_i 100)] [] s1 (ev_pi (fun r4 s3 => ((0 ≤ (ev_add a1 6) ∧ (ev_add a1 6) < (600 : Nat)) ∧ ∀ s5, ev_up s3 138 (Int.toNat (ev_add a1 6)) r4 = s5 → (((s5 137 8) ≠ 0 → Q (some (ev_i 0)) s5) ∧ ((s5 137 8) = 0 → Q (some (ev_i 1)) s5)))))))))))))) :
    Ev layX M_X8_readConditions (d + 1) 108 [(0, ev_r 137), (1, ev_i a1)] [] s Q := by
  refine Ev_aload_n 0 dX8_readConditions_108 rfl rfl ?_
  refine Ev_get (i := 8) cl_X8 yX_137 (Nat.le_of_ble_eq_true rfl) rfl wd_521 dX8_readConditions_109 ?_
  refine Ev_if_ne (tgt := 140) dX8_readConditions_112 rfl (fun c => ?_) (fun c => ?_)
  · replace h := h.1 c
    refine Ev_aload_n 0 dX8_readConditions_140 rfl rfl ?_
    refine Ev_get (i := 8) cl_X8 yX_137 (Nat.le_of_ble_eq_true rfl) rfl wd_521 dX8_readConditions_141 ?_
    refine Ev_if_ne (tgt := 151) dX8_readConditions_144 rfl (fun c => ?_) (fun c => ?_)
    · replace h := h.1 c
      refine Ev_iconst dX8_readConditions_151 rfl (ev_Rc rfl) ?_
      exact Ev_iret rfl dX8_readConditions_152 (ev_nb (by decide)) h
    · replace h := h.2 c
      refine Ev_iconst dX8_readConditions_147 rfl (ev_Rc rfl) ?_
      refine Ev_goto (tgt := 152) dX8_readConditions_148 rfl ?_
      exact Ev_iret rfl dX8_readConditions_152 (ev_nb (by decide)) h
  · replace h := h.2 c
    refine Ev_aload_n 0 dX8_readConditions_115 rfl rfl ?_
    refine Ev_bipushC dX8_readConditions_116 rfl ?_
    refine Ev_callV (As := [ev_i 12]) (b := 137) (st := []) (M' := M_X8_passes) cm_X8_passes wd_976 wd_978 wd_18 yX_137 cl_X8 rfl dX8_readConditions_118 (Nat.le_refl _) rfl (Nat.le_of_ble_eq_true rfl) (Nat.le_of_ble_eq_true rfl) h (fun v u h hk => ?_)
    obtain ⟨r2, rfl⟩ := hk
    obtain ⟨s1, rfl⟩ : ∃ x, x = u := ⟨_, rfl⟩
    replace h := h r2 rfl
    refine Ev_if_eq (tgt := 140) dX8_readConditions_121 rfl (fun c => ?_) (fun c => ?_)
    · replace h := h.1 c
      refine Ev_aload_n 0 dX8_readConditions_140 rfl rfl ?_
      refine Ev_get (i := 8) cl_X8 yX_137 (Nat.le_of_ble_eq_true rfl) rfl wd_521 dX8_readConditions_141 ?_
      refine Ev_if_ne (tgt := 151) dX8_readConditions_144 rfl (fun c => ?_) (fun c => ?_)
      · replace h := h.1 c
        refine Ev_iconst dX8_readConditions_151 rfl (ev_Rc rfl) ?_
        exact Ev_iret rfl dX8_readConditions_152 (ev_nb (by decide)) h
      · replace h := h.2 c
        refine Ev_iconst dX8_readConditions_147 rfl (ev_Rc rfl) ?_
        refine Ev_goto (tgt := 152) dX8_readConditions_148 rfl ?_
        exact Ev_iret rfl dX8_readConditions_152 (ev_nb (by decide)) h
    · replace h := h.2 c
      refine Ev_aload_n 0 dX8_readConditions_124 rfl rfl ?_
      refine Ev_getR (i := 2) cl_X8 yX_137 (Nat.le_of_ble_eq_true rfl) rfl wd_511 dX8_readConditions_125 ?_
      refine Ev_iload_n 1 dX8_readConditions_128 rfl rfl ?_
      refine Ev_bipushC dX8_readConditions_129 rfl ?_
      refine Ev_iadd dX8_readConditions_131 ?_
      refine Ev_aload_n 0 dX8_readConditions_132 rfl rfl ?_
      refine Ev_iconst dX8_readConditions_133 rfl (ev_Rc rfl) ?_
      refine Ev_bipushC dX8_readConditions_134 rfl ?_
      refine Ev_callV (As := [ev_i 1, ev_i 100]) (b := 137) (st := [ev_i (ev_add a1 6), ev_r 138]) (M' := M_X8_takeNumber) cm_X8_takeNumber wd_939 wd_941 wd_9 yX_137 cl_X8 rfl dX8_readConditions_136 (Nat.le_refl _) rfl (Nat.le_of_ble_eq_true rfl) (Nat.le_of_ble_eq_true rfl) h (fun v u h hk => ?_)
      obtain ⟨r4, rfl⟩ := hk
      obtain ⟨s3, rfl⟩ : ∃ x, x = u := ⟨_, rfl⟩
      replace h := h r4 rfl
      obtain ⟨h0, h⟩ := h
      refine Ev_iast yX_138 h0 dX8_readConditions_139 (Ev_nm (fun s5 es5 => ?_))
      replace h := h s5 es5
      refine Ev_aload_n 0 dX8_readConditions_140 rfl rfl ?_
      refine Ev_get (i := 8) cl_X8 yX_137 (Nat.le_of_ble_eq_true rfl) rfl wd_521 dX8_readConditions_141 ?_
      refine Ev_if_ne (tgt := 151) dX8_readConditions_144 rfl (fun c => ?_) (fun c => ?_)
      · replace h := h.1 c
        refine Ev_iconst dX8_readConditions_151 rfl (ev_Rc rfl) ?_
        exact Ev_iret rfl dX8_readConditions_152 (ev_nb (by decide)) h
      · replace h := h.2 c
        refine Ev_iconst dX8_readConditions_147 rfl (ev_Rc rfl) ?_
        refine Ev_goto (tgt := 152) dX8_readConditions_148 rfl ?_
        exact Ev_iret rfl dX8_readConditions_152 (ev_nb (by decide)) h
theorem dX8_seesKind_0 : decode cX8_seesKind 0 = .ok (.aload_n 0, 1) := by decide +kernel
theorem dX8_seesKind_1 : decode cX8_seesKind 1 = .ok (.getfield 83, 3) := by decide +kernel
theorem dX8_seesKind_4 : decode cX8_seesKind 4 = .ok (.bipush 13, 2) := by decide +kernel
theorem dX8_seesKind_6 : decode cX8_seesKind 6 = .ok (.if_icmp .lt 16, 3) := by decide +kernel
theorem dX8_seesKind_9 : decode cX8_seesKind 9 = .ok (.aload_n 0, 1) := by decide +kernel
theorem dX8_seesKind_10 : decode cX8_seesKind 10 = .ok (.getfield 83, 3) := by decide +kernel
theorem dX8_seesKind_13 : decode cX8_seesKind 13 = .ok (.bipush 17, 2) := by decide +kernel
theorem dX8_seesKind_15 : decode cX8_seesKind 15 = .ok (.if_icmp .gt 7, 3) := by decide +kernel
theorem dX8_seesKind_18 : decode cX8_seesKind 18 = .ok (.iconst 1, 1) := by decide +kernel
theorem dX8_seesKind_19 : decode cX8_seesKind 19 = .ok (.goto 4, 3) := by decide +kernel
theorem dX8_seesKind_22 : decode cX8_seesKind 22 = .ok (.iconst 0, 1) := by decide +kernel
theorem dX8_seesKind_23 : decode cX8_seesKind 23 = .ok (.ireturn, 1) := by decide +kernel
theorem wp_X8_seesKind_0 {d : Nat} {s : ev_S} {Q : Option ev_V → ev_S → Prop}
    (h : (((s 137 7) < 13 → Q (some (ev_i 0)) s) ∧ (13 ≤ (s 137 7) → ((17 < (s 137 7) → Q (some (ev_i 0)) s) ∧ ((s 137 7) ≤ 17 → Q (some (ev_i 1)) s))))) :
    Ev layX M_X8_seesKind d 0 [(0, ev_r 137)] [] s Q := by
  refine Ev_aload_n 0 dX8_seesKind_0 rfl rfl ?_
  refine Ev_get (i := 7) cl_X8 yX_137 (Nat.le_of_ble_eq_true rfl) rfl wd_520 dX8_seesKind_1 ?_
  refine Ev_bipushC dX8_seesKind_4 rfl ?_
  refine Ev_icmp_lt (tgt := 22) dX8_seesKind_6 rfl (fun c => ?_) (fun c => ?_)
  · replace h := h.1 c
    refine Ev_iconst dX8_seesKind_22 rfl (ev_Rc rfl) ?_
    exact Ev_iret rfl dX8_seesKind_23 (ev_nb (by decide)) h
  · replace h := h.2 c
    refine Ev_aload_n 0 dX8_seesKind_9 rfl rfl ?_
    refine Ev_get (i := 7) cl_X8 yX_137 (Nat.le_of_ble_eq_true rfl) rfl wd_520 dX8_seesKind_10 ?_
    refine Ev_bipushC dX8_seesKind_13 rfl ?_
    refine Ev_icmp_gt (tgt := 22) dX8_seesKind_15 rfl (fun c => ?_) (fun c => ?_)
    · replace h := h.1 c
      refine Ev_iconst dX8_seesKind_22 rfl (ev_Rc rfl) ?_
      exact Ev_iret rfl dX8_seesKind_23 (ev_nb (by decide)) h
    · replace h := h.2 c
      refine Ev_iconst dX8_seesKind_18 rfl (ev_Rc rfl) ?_
      refine Ev_goto (tgt := 23) dX8_seesKind_19 rfl ?_
      exact Ev_iret rfl dX8_seesKind_23 (ev_nb (by decide)) h
theorem dX8_readPlan_0 : decode cX8_readPlan 0 = .ok (.iconst 1, 1) := by decide +kernel
theorem dX8_readPlan_1 : decode cX8_readPlan 1 = .ok (.istore_n 1, 1) := by decide +kernel
theorem dX8_readPlan_2 : decode cX8_readPlan 2 = .ok (.iconst 0, 1) := by decide +kernel
theorem dX8_readPlan_3 : decode cX8_readPlan 3 = .ok (.istore_n 2, 1) := by decide +kernel
theorem dX8_readPlan_4 : decode cX8_readPlan 4 = .ok (.iload_n 2, 1) := by decide +kernel
theorem dX8_readPlan_5 : decode cX8_readPlan 5 = .ok (.sipush 400, 3) := by decide +kernel
theorem dX8_readPlan_8 : decode cX8_readPlan 8 = .ok (.if_icmp .ge 36, 3) := by decide +kernel
theorem dX8_readPlan_11 : decode cX8_readPlan 11 = .ok (.iload_n 1, 1) := by decide +kernel
theorem dX8_readPlan_12 : decode cX8_readPlan 12 = .ok (.ifCond .eq 32, 3) := by decide +kernel
theorem dX8_readPlan_15 : decode cX8_readPlan 15 = .ok (.aload_n 0, 1) := by decide +kernel
theorem dX8_readPlan_16 : decode cX8_readPlan 16 = .ok (.getfield 83, 3) := by decide +kernel
theorem dX8_readPlan_19 : decode cX8_readPlan 19 = .ok (.bipush 13, 2) := by decide +kernel
theorem dX8_readPlan_21 : decode cX8_readPlan 21 = .ok (.if_icmp .lt 23, 3) := by decide +kernel
theorem dX8_readPlan_24 : decode cX8_readPlan 24 = .ok (.aload_n 0, 1) := by decide +kernel
theorem dX8_readPlan_25 : decode cX8_readPlan 25 = .ok (.getfield 83, 3) := by decide +kernel
theorem dX8_readPlan_28 : decode cX8_readPlan 28 = .ok (.bipush 19, 2) := by decide +kernel
theorem dX8_readPlan_30 : decode cX8_readPlan 30 = .ok (.if_icmp .gt 14, 3) := by decide +kernel
theorem dX8_readPlan_33 : decode cX8_readPlan 33 = .ok (.aload_n 0, 1) := by decide +kernel
theorem dX8_readPlan_34 : decode cX8_readPlan 34 = .ok (.invokevirtual 132, 3) := by decide +kernel
theorem dX8_readPlan_37 : decode cX8_readPlan 37 = .ok (.istore_n 1, 1) := by decide +kernel
theorem dX8_readPlan_38 : decode cX8_readPlan 38 = .ok (.iinc 2 1, 3) := by decide +kernel
theorem dX8_readPlan_41 : decode cX8_readPlan 41 = .ok (.goto (-37), 3) := by decide +kernel
theorem dX8_readPlan_44 : decode cX8_readPlan 44 = .ok (.iload_n 1, 1) := by decide +kernel
theorem dX8_readPlan_45 : decode cX8_readPlan 45 = .ok (.ireturn, 1) := by decide +kernel
theorem wp_X8_readPlan_0 {d : Nat} {s : ev_S} {Q : Option ev_V → ev_S → Prop}
    (h : Ev layX M_X8_readPlan (d + 1) 4 [(0, ev_r 137), (1, ev_i 1), (2, ev_i 0)] [] s Q) :
    Ev layX M_X8_readPlan (d + 1) 0 [(0, ev_r 137)] [] s Q := by
  refine Ev_iconst dX8_readPlan_0 rfl (ev_Rc rfl) ?_
  refine Ev_istore_n (l' := [(1, ev_i 1), (0, ev_r 137)]) dX8_readPlan_1 rfl (Nat.le_of_ble_eq_true rfl) rfl ?_
  refine Ev_iconst dX8_readPlan_2 rfl (ev_Rc rfl) ?_
  refine Ev_istore_n (l' := [(2, ev_i 0), (1, ev_i 1), (0, ev_r 137)]) dX8_readPlan_3 rfl (Nat.le_of_ble_eq_true rfl) rfl ?_
  exact Ev_sub [2, 1, 0] rfl h
theorem wp_X8_readPlan_4 {d : Nat} {s : ev_S} {Q : Option ev_V → ev_S → Prop} {a1 a2 : Int}
    (h : ((400 ≤ a2 → ((a1 = 0 ∨ a1 = 1) ∧ Q (some (ev_i a1)) s)) ∧ (a2 < 400 → ((a1 = 0 → ((a1 = 0 ∨ a1 = 1) ∧ Q (some (ev_i a1)) s)) ∧ (a1 ≠ 0 → (((s 137 7) < 13 → ((a1 = 0 ∨ a1 = 1) ∧ Q (some (ev_i a1)) s)) ∧ (13 ≤ (s 137 7) → ((19 < (s 137 7) → ((a1 = 0 ∨ a1 = 1) ∧ Q (some (ev_i a1)) s)) ∧ ((s 137 7) ≤ 19 → (Ev layX M_X8_readOrder d 0 [(0, ev_r 137)] [] s (ev_pi (fun r2 s1 => Ev layX M_X8_readPlan (d + 1) 4 [(0, ev_r 137), (1, ev_i r2), (2, ev_i (ev_add a2 1))] [] s1 Q)))))))))))) :
    Ev layX M_X8_readPlan (d + 1) 4 [(0, ev_r 137), (1, ev_i a1), (2, ev_i a2)] [] s Q := by
  refine Ev_iload_n 2 dX8_readPlan_4 rfl rfl ?_
  refine Ev_sipushC dX8_readPlan_5 rfl ?_
  refine Ev_icmp_ge (tgt := 44) dX8_readPlan_8 rfl (fun c => ?_) (fun c => ?_)
  · replace h := h.1 c
    refine Ev_iload_n 1 dX8_readPlan_44 rfl rfl ?_
    exact Ev_iret rfl dX8_readPlan_45 (ev_nb h.1) h.2
  · replace h := h.2 c
    refine Ev_iload_n 1 dX8_readPlan_11 rfl rfl ?_
    refine Ev_if_eq (tgt := 44) dX8_readPlan_12 rfl (fun c => ?_) (fun c => ?_)
    · replace h := h.1 c
      refine Ev_iload_n 1 dX8_readPlan_44 rfl rfl ?_
      exact Ev_iret rfl dX8_readPlan_45 (ev_nb h.1) h.2
    · replace h := h.2 c
      refine Ev_aload_n 0 dX8_readPlan_15 rfl rfl ?_
      refine Ev_get (i := 7) cl_X8 yX_137 (Nat.le_of_ble_eq_true rfl) rfl wd_520 dX8_readPlan_16 ?_
      refine Ev_bipushC dX8_readPlan_19 rfl ?_
      refine Ev_icmp_lt (tgt := 44) dX8_readPlan_21 rfl (fun c => ?_) (fun c => ?_)
      · replace h := h.1 c
        refine Ev_iload_n 1 dX8_readPlan_44 rfl rfl ?_
        exact Ev_iret rfl dX8_readPlan_45 (ev_nb h.1) h.2
      · replace h := h.2 c
        refine Ev_aload_n 0 dX8_readPlan_24 rfl rfl ?_
        refine Ev_get (i := 7) cl_X8 yX_137 (Nat.le_of_ble_eq_true rfl) rfl wd_520 dX8_readPlan_25 ?_
        refine Ev_bipushC dX8_readPlan_28 rfl ?_
        refine Ev_icmp_gt (tgt := 44) dX8_readPlan_30 rfl (fun c => ?_) (fun c => ?_)
        · replace h := h.1 c
          refine Ev_iload_n 1 dX8_readPlan_44 rfl rfl ?_
          exact Ev_iret rfl dX8_readPlan_45 (ev_nb h.1) h.2
        · replace h := h.2 c
          refine Ev_aload_n 0 dX8_readPlan_33 rfl rfl ?_
          refine Ev_callV (As := []) (b := 137) (st := []) (M' := M_X8_readOrder) cm_X8_readOrder wd_988 wd_990 wd_21 yX_137 cl_X8 rfl dX8_readPlan_34 (Nat.le_refl _) rfl (Nat.le_of_ble_eq_true rfl) (Nat.le_of_ble_eq_true rfl) h (fun v u h hk => ?_)
          obtain ⟨r2, rfl⟩ := hk
          obtain ⟨s1, rfl⟩ : ∃ x, x = u := ⟨_, rfl⟩
          replace h := h r2 rfl
          refine Ev_istore_n (l' := [(1, ev_i r2), (0, ev_r 137), (2, ev_i a2)]) dX8_readPlan_37 rfl (Nat.le_of_ble_eq_true rfl) rfl ?_
          refine Ev_iinc (j := 2) (l' := [(2, ev_i (ev_add a2 1)), (1, ev_i r2), (0, ev_r 137)]) dX8_readPlan_38 rfl (Nat.le_of_ble_eq_true rfl) rfl ?_
          refine Ev_goto (tgt := 4) dX8_readPlan_41 rfl ?_
          exact Ev_sub [2, 1, 0] rfl h
theorem dX8_readOrder_0 : decode cX8_readOrder 0 = .ok (.aload_n 0, 1) := by decide +kernel
theorem dX8_readOrder_1 : decode cX8_readOrder 1 = .ok (.getfield 40, 3) := by decide +kernel
theorem dX8_readOrder_4 : decode cX8_readOrder 4 = .ok (.bipush 40, 2) := by decide +kernel
theorem dX8_readOrder_6 : decode cX8_readOrder 6 = .ok (.if_icmp .lt 9, 3) := by decide +kernel
theorem dX8_readOrder_9 : decode cX8_readOrder 9 = .ok (.aload_n 0, 1) := by decide +kernel
theorem dX8_readOrder_10 : decode cX8_readOrder 10 = .ok (.iconst 3, 1) := by decide +kernel
theorem dX8_readOrder_11 : decode cX8_readOrder 11 = .ok (.invokevirtual 89, 3) := by decide +kernel
theorem dX8_readOrder_14 : decode cX8_readOrder 14 = .ok (.ireturn, 1) := by decide +kernel
theorem dX8_readOrder_15 : decode cX8_readOrder 15 = .ok (.aload_n 0, 1) := by decide +kernel
theorem dX8_readOrder_16 : decode cX8_readOrder 16 = .ok (.getfield 83, 3) := by decide +kernel
theorem dX8_readOrder_19 : decode cX8_readOrder 19 = .ok (.bipush 13, 2) := by decide +kernel
theorem dX8_readOrder_21 : decode cX8_readOrder 21 = .ok (.isub, 1) := by decide +kernel
theorem dX8_readOrder_22 : decode cX8_readOrder 22 = .ok (.istore_n 1, 1) := by decide +kernel
theorem dX8_readOrder_23 : decode cX8_readOrder 23 = .ok (.aload_n 0, 1) := by decide +kernel
theorem dX8_readOrder_24 : decode cX8_readOrder 24 = .ok (.invokevirtual 51, 3) := by decide +kernel
theorem dX8_readOrder_27 : decode cX8_readOrder 27 = .ok (.iconst 0, 1) := by decide +kernel
theorem dX8_readOrder_28 : decode cX8_readOrder 28 = .ok (.istore_n 2, 1) := by decide +kernel
theorem dX8_readOrder_29 : decode cX8_readOrder 29 = .ok (.iload_n 1, 1) := by decide +kernel
theorem dX8_readOrder_30 : decode cX8_readOrder 30 = .ok (.iconst 5, 1) := by decide +kernel
theorem dX8_readOrder_31 : decode cX8_readOrder 31 = .ok (.if_icmp .ne 11, 3) := by decide +kernel
theorem dX8_readOrder_34 : decode cX8_readOrder 34 = .ok (.aload_n 0, 1) := by decide +kernel
theorem dX8_readOrder_35 : decode cX8_readOrder 35 = .ok (.invokevirtual 117, 3) := by decide +kernel
theorem dX8_readOrder_38 : decode cX8_readOrder 38 = .ok (.istore_n 2, 1) := by decide +kernel
theorem dX8_readOrder_39 : decode cX8_readOrder 39 = .ok (.goto 17, 3) := by decide +kernel
theorem dX8_readOrder_42 : decode cX8_readOrder 42 = .ok (.iload_n 1, 1) := by decide +kernel
theorem dX8_readOrder_43 : decode cX8_readOrder 43 = .ok (.bipush 6, 2) := by decide +kernel
theorem dX8_readOrder_45 : decode cX8_readOrder 45 = .ok (.if_icmp .ne 11, 3) := by decide +kernel
theorem dX8_readOrder_48 : decode cX8_readOrder 48 = .ok (.aload_n 0, 1) := by decide +kernel
theorem dX8_readOrder_49 : decode cX8_readOrder 49 = .ok (.iconst 1, 1) := by decide +kernel
theorem dX8_readOrder_50 : decode cX8_readOrder 50 = .ok (.bipush 60, 2) := by decide +kernel
theorem dX8_readOrder_52 : decode cX8_readOrder 52 = .ok (.invokevirtual 104, 3) := by decide +kernel
theorem dX8_readOrder_55 : decode cX8_readOrder 55 = .ok (.istore_n 2, 1) := by decide +kernel
theorem dX8_readOrder_56 : decode cX8_readOrder 56 = .ok (.iload_n 2, 1) := by decide +kernel
theorem dX8_readOrder_57 : decode cX8_readOrder 57 = .ok (.iconst (-1), 1) := by decide +kernel
theorem dX8_readOrder_58 : decode cX8_readOrder 58 = .ok (.if_icmp .eq 13, 3) := by decide +kernel
theorem dX8_readOrder_61 : decode cX8_readOrder 61 = .ok (.aload_n 0, 1) := by decide +kernel
theorem dX8_readOrder_62 : decode cX8_readOrder 62 = .ok (.sipush 159, 3) := by decide +kernel
theorem dX8_readOrder_65 : decode cX8_readOrder 65 = .ok (.invokevirtual 58, 3) := by decide +kernel
theorem dX8_readOrder_68 : decode cX8_readOrder 68 = .ok (.ifCond .ne 5, 3) := by decide +kernel
theorem dX8_readOrder_71 : decode cX8_readOrder 71 = .ok (.iconst 0, 1) := by decide +kernel
theorem dX8_readOrder_72 : decode cX8_readOrder 72 = .ok (.ireturn, 1) := by decide +kernel
theorem dX8_readOrder_73 : decode cX8_readOrder 73 = .ok (.aload_n 0, 1) := by decide +kernel
theorem dX8_readOrder_74 : decode cX8_readOrder 74 = .ok (.getfield 9, 3) := by decide +kernel
theorem dX8_readOrder_77 : decode cX8_readOrder 77 = .ok (.aload_n 0, 1) := by decide +kernel
theorem dX8_readOrder_78 : decode cX8_readOrder 78 = .ok (.getfield 40, 3) := by decide +kernel
theorem dX8_readOrder_81 : decode cX8_readOrder 81 = .ok (.iconst 2, 1) := by decide +kernel
theorem dX8_readOrder_82 : decode cX8_readOrder 82 = .ok (.imul, 1) := by decide +kernel
theorem dX8_readOrder_83 : decode cX8_readOrder 83 = .ok (.iload_n 1, 1) := by decide +kernel
theorem dX8_readOrder_84 : decode cX8_readOrder 84 = .ok (.iastore, 1) := by decide +kernel
theorem dX8_readOrder_85 : decode cX8_readOrder 85 = .ok (.aload_n 0, 1) := by decide +kernel
theorem dX8_readOrder_86 : decode cX8_readOrder 86 = .ok (.getfield 9, 3) := by decide +kernel
theorem dX8_readOrder_89 : decode cX8_readOrder 89 = .ok (.aload_n 0, 1) := by decide +kernel
theorem dX8_readOrder_90 : decode cX8_readOrder 90 = .ok (.getfield 40, 3) := by decide +kernel
theorem dX8_readOrder_93 : decode cX8_readOrder 93 = .ok (.iconst 2, 1) := by decide +kernel
theorem dX8_readOrder_94 : decode cX8_readOrder 94 = .ok (.imul, 1) := by decide +kernel
theorem dX8_readOrder_95 : decode cX8_readOrder 95 = .ok (.iconst 1, 1) := by decide +kernel
theorem dX8_readOrder_96 : decode cX8_readOrder 96 = .ok (.iadd, 1) := by decide +kernel
theorem dX8_readOrder_97 : decode cX8_readOrder 97 = .ok (.iload_n 2, 1) := by decide +kernel
theorem dX8_readOrder_98 : decode cX8_readOrder 98 = .ok (.iastore, 1) := by decide +kernel
theorem dX8_readOrder_99 : decode cX8_readOrder 99 = .ok (.aload_n 0, 1) := by decide +kernel
theorem dX8_readOrder_100 : decode cX8_readOrder 100 = .ok (.dup, 1) := by decide +kernel
theorem dX8_readOrder_101 : decode cX8_readOrder 101 = .ok (.getfield 40, 3) := by decide +kernel
theorem dX8_readOrder_104 : decode cX8_readOrder 104 = .ok (.iconst 1, 1) := by decide +kernel
theorem dX8_readOrder_105 : decode cX8_readOrder 105 = .ok (.iadd, 1) := by decide +kernel
theorem dX8_readOrder_106 : decode cX8_readOrder 106 = .ok (.putfield 40, 3) := by decide +kernel
theorem dX8_readOrder_109 : decode cX8_readOrder 109 = .ok (.aload_n 0, 1) := by decide +kernel
theorem dX8_readOrder_110 : decode cX8_readOrder 110 = .ok (.aload_n 0, 1) := by decide +kernel
theorem dX8_readOrder_111 : decode cX8_readOrder 111 = .ok (.getfield 40, 3) := by decide +kernel
theorem dX8_readOrder_114 : decode cX8_readOrder 114 = .ok (.iconst 2, 1) := by decide +kernel
theorem dX8_readOrder_115 : decode cX8_readOrder 115 = .ok (.imul, 1) := by decide +kernel
theorem dX8_readOrder_116 : decode cX8_readOrder 116 = .ok (.putfield 37, 3) := by decide +kernel
theorem dX8_readOrder_119 : decode cX8_readOrder 119 = .ok (.iconst 1, 1) := by decide +kernel
theorem dX8_readOrder_120 : decode cX8_readOrder 120 = .ok (.ireturn, 1) := by decide +kernel
theorem wp_X8_readOrder_0 {d : Nat} {s : ev_S} {Q : Option ev_V → ev_S → Prop}
    (h : (((s 137 4) < 40 → (Ev layX M_X8_advance d 0 [(0, ev_r 137)] [] s (fun _ s1 => (((ev_sub (s 137 7) 13) ≠ 5 → (((ev_sub (s 137 7) 13) ≠ 6 → Ev layX M_X8_readOrder (d + 1) 56 [(0, ev_r 137), (1, ev_i (ev_sub (s 137 7) 13)), (2, ev_i 0)] [] s1 Q) ∧ ((ev_sub (s 137 7) 13) = 6 → (Ev layX M_X8_takeNumber d 0 [(0, ev_r 137), (1, ev_i 1), (2, ev_i 60)] [] s1 (ev_pi (fun r3 s2 => Ev layX M_X8_readOrder (d + 1) 56 [(0, ev_r 137), (1, ev_i (ev_sub (s 137 7) 13)), (2, ev_i r3)] [] s2 Q)))))) ∧ ((ev_sub (s 137 7) 13) = 5 → (Ev layX M_X8_takePlace d 0 [(0, ev_r 137)] [] s1 (ev_pi (fun r5 s4 => Ev layX M_X8_readOrder (d + 1) 56 [(0, ev_r 137), (1, ev_i (ev_sub (s 137 7) 13)), (2, ev_i r5)] [] s4 Q)))))))) ∧ (40 ≤ (s 137 4) → (Ev layX M_X8_faulty d 0 [(0, ev_r 137), (1, ev_i 3)] [] s (ev_pi (fun r7 s6 => ((r7 = 0 ∨ r7 = 1) ∧ Q (some (ev_i r7)) s6))))))) :
    Ev layX M_X8_readOrder (d + 1) 0 [(0, ev_r 137)] [] s Q := by
  refine Ev_aload_n 0 dX8_readOrder_0 rfl rfl ?_
  refine Ev_get (i := 4) cl_X8 yX_137 (Nat.le_of_ble_eq_true rfl) rfl wd_515 dX8_readOrder_1 ?_
  refine Ev_bipushC dX8_readOrder_4 rfl ?_
  refine Ev_icmp_lt (tgt := 15) dX8_readOrder_6 rfl (fun c => ?_) (fun c => ?_)
  · replace h := h.1 c
    refine Ev_aload_n 0 dX8_readOrder_15 rfl rfl ?_
    refine Ev_get (i := 7) cl_X8 yX_137 (Nat.le_of_ble_eq_true rfl) rfl wd_520 dX8_readOrder_16 ?_
    refine Ev_bipushC dX8_readOrder_19 rfl ?_
    refine Ev_isub dX8_readOrder_21 ?_
    refine Ev_istore_n (l' := [(1, ev_i (ev_sub (s 137 7) 13)), (0, ev_r 137)]) dX8_readOrder_22 rfl (Nat.le_of_ble_eq_true rfl) rfl ?_
    refine Ev_aload_n 1 dX8_readOrder_23 rfl rfl ?_
    refine Ev_callV (As := []) (b := 137) (st := []) (M' := M_X8_advance) cm_X8_advance wd_923 wd_925 wd_5 yX_137 cl_X8 rfl dX8_readOrder_24 (Nat.le_refl _) rfl (Nat.le_of_ble_eq_true rfl) (Nat.le_of_ble_eq_true rfl) h (fun v u h hk => ?_)
    cases hk
    obtain ⟨s1, rfl⟩ : ∃ x, x = u := ⟨_, rfl⟩
    refine Ev_iconst dX8_readOrder_27 rfl (ev_Rc rfl) ?_
    refine Ev_istore_n (l' := [(2, ev_i 0), (1, ev_i (ev_sub (s 137 7) 13)), (0, ev_r 137)]) dX8_readOrder_28 rfl (Nat.le_of_ble_eq_true rfl) rfl ?_
    refine Ev_iload_n 1 dX8_readOrder_29 rfl rfl ?_
    refine Ev_iconst dX8_readOrder_30 rfl (ev_Rc rfl) ?_
    refine Ev_icmp_ne (tgt := 42) dX8_readOrder_31 rfl (fun c => ?_) (fun c => ?_)
    · replace h := h.1 c
      refine Ev_iload_n 1 dX8_readOrder_42 rfl rfl ?_
      refine Ev_bipushC dX8_readOrder_43 rfl ?_
      refine Ev_icmp_ne (tgt := 56) dX8_readOrder_45 rfl (fun c => ?_) (fun c => ?_)
      · replace h := h.1 c
        exact Ev_sub [2, 1, 0] rfl h
      · replace h := h.2 c
        refine Ev_aload_n 2 dX8_readOrder_48 rfl rfl ?_
        refine Ev_iconst dX8_readOrder_49 rfl (ev_Rc rfl) ?_
        refine Ev_bipushC dX8_readOrder_50 rfl ?_
        refine Ev_callV (As := [ev_i 1, ev_i 60]) (b := 137) (st := []) (M' := M_X8_takeNumber) cm_X8_takeNumber wd_939 wd_941 wd_9 yX_137 cl_X8 rfl dX8_readOrder_52 (Nat.le_refl _) rfl (Nat.le_of_ble_eq_true rfl) (Nat.le_of_ble_eq_true rfl) h (fun v u h hk => ?_)
        obtain ⟨r3, rfl⟩ := hk
        obtain ⟨s2, rfl⟩ : ∃ x, x = u := ⟨_, rfl⟩
        replace h := h r3 rfl
        refine Ev_istore_n (l' := [(2, ev_i r3), (1, ev_i (ev_sub (s 137 7) 13)), (0, ev_r 137)]) dX8_readOrder_55 rfl (Nat.le_of_ble_eq_true rfl) rfl ?_
        exact Ev_sub [2, 1, 0] rfl h
    · replace h := h.2 c
      refine Ev_aload_n 2 dX8_readOrder_34 rfl rfl ?_
      refine Ev_callV (As := []) (b := 137) (st := []) (M' := M_X8_takePlace) cm_X8_takePlace wd_967 wd_969 wd_16 yX_137 cl_X8 rfl dX8_readOrder_35 (Nat.le_refl _) rfl (Nat.le_of_ble_eq_true rfl) (Nat.le_of_ble_eq_true rfl) h (fun v u h hk => ?_)
      obtain ⟨r5, rfl⟩ := hk
      obtain ⟨s4, rfl⟩ : ∃ x, x = u := ⟨_, rfl⟩
      replace h := h r5 rfl
      refine Ev_istore_n (l' := [(2, ev_i r5), (1, ev_i (ev_sub (s 137 7) 13)), (0, ev_r 137)]) dX8_readOrder_38 rfl (Nat.le_of_ble_eq_true rfl) rfl ?_
      refine Ev_goto (tgt := 56) dX8_readOrder_39 rfl ?_
      exact Ev_sub [2, 1, 0] rfl h
  · replace h := h.2 c
    refine Ev_aload_n 0 dX8_readOrder_9 rfl rfl ?_
    refine Ev_iconst dX8_readOrder_10 rfl (ev_Rc rfl) ?_
    refine Ev_callV (As := [ev_i 3]) (b := 137) (st := []) (M' := M_X8_faulty) cm_X8_faulty wd_935 wd_937 wd_8 yX_137 cl_X8 rfl dX8_readOrder_11 (Nat.le_refl _) rfl (Nat.le_of_ble_eq_true rfl) (Nat.le_of_ble_eq_true rfl) h (fun v u h hk => ?_)
    obtain ⟨r7, rfl⟩ := hk
    obtain ⟨s6, rfl⟩ : ∃ x, x = u := ⟨_, rfl⟩
    replace h := h r7 rfl
    exact Ev_iret rfl dX8_readOrder_14 (ev_nb h.1) h.2
theorem wp_X8_readOrder_56 {d : Nat} {s : ev_S} {Q : Option ev_V → ev_S → Prop} {a1 a2 : Int}
    (h : ((a2 = (-1) → Q (some (ev_i 0)) s) ∧ (a2 ≠ (-1) → (Ev layX M_X8_takes d 0 [(0, ev_r 137), (1, ev_i 159)] [] s (ev_pi (fun r2 s1 => ((r2 ≠ 0 → ((0 ≤ (ev_mul (s1 137 4) 2) ∧ (ev_mul (s1 137 4) 2) < (600 : Nat)) ∧ ∀ s3, ev_up s1 138 (Int.toNat (ev_mul (s1 137 4) 2)) a1 = s3 → ((0 ≤ (ev_add (ev_mul (s3 137 4) 2) 1) ∧ (ev_add (ev_mul (s3 137 4) 2) 1) < (600 : Nat)) ∧ ∀ s4, ev_up s3 138 (Int.toNat (ev_add (ev_mul (s3 137 4) 2) 1)) a2 = s4 → (∀ s5, ev_up s4 137 4 (ev_add (s4 137 4) 1) = s5 → (∀ s6, ev_up s5 137 3 (ev_mul (s5 137 4) 2) = s6 → Q (some (ev_i 1)) s6))))) ∧ (r2 = 0 → Q (some (ev_i 0)) s1)))))))) :
    Ev layX M_X8_readOrder (d + 1) 56 [(0, ev_r 137), (1, ev_i a1), (2, ev_i a2)] [] s Q := by
  refine Ev_iload_n 2 dX8_readOrder_56 rfl rfl ?_
  refine Ev_iconst dX8_readOrder_57 rfl (ev_Rc rfl) ?_
  refine Ev_icmp_eq (tgt := 71) dX8_readOrder_58 rfl (fun c => ?_) (fun c => ?_)
  · replace h := h.1 c
    refine Ev_iconst dX8_readOrder_71 rfl (ev_Rc rfl) ?_
    exact Ev_iret rfl dX8_readOrder_72 (ev_nb (by decide)) h
  · replace h := h.2 c
    refine Ev_aload_n 0 dX8_readOrder_61 rfl rfl ?_
    refine Ev_sipushC dX8_readOrder_62 rfl ?_
    refine Ev_callV (As := [ev_i 159]) (b := 137) (st := []) (M' := M_X8_takes) cm_X8_takes wd_947 wd_949 wd_11 yX_137 cl_X8 rfl dX8_readOrder_65 (Nat.le_refl _) rfl (Nat.le_of_ble_eq_true rfl) (Nat.le_of_ble_eq_true rfl) h (fun v u h hk => ?_)
    obtain ⟨r2, rfl⟩ := hk
    obtain ⟨s1, rfl⟩ : ∃ x, x = u := ⟨_, rfl⟩
    replace h := h r2 rfl
    refine Ev_if_ne (tgt := 73) dX8_readOrder_68 rfl (fun c => ?_) (fun c => ?_)
    · replace h := h.1 c
      refine Ev_aload_n 0 dX8_readOrder_73 rfl rfl ?_
      refine Ev_getR (i := 2) cl_X8 yX_137 (Nat.le_of_ble_eq_true rfl) rfl wd_511 dX8_readOrder_74 ?_
      refine Ev_aload_n 0 dX8_readOrder_77 rfl rfl ?_
      refine Ev_get (i := 4) cl_X8 yX_137 (Nat.le_of_ble_eq_true rfl) rfl wd_515 dX8_readOrder_78 ?_
      refine Ev_iconst dX8_readOrder_81 rfl (ev_Rc rfl) ?_
      refine Ev_imul dX8_readOrder_82 ?_
      refine Ev_iload_n 1 dX8_readOrder_83 rfl rfl ?_
      obtain ⟨h0, h⟩ := h
      refine Ev_iast yX_138 h0 dX8_readOrder_84 (Ev_nm (fun s3 es3 => ?_))
      replace h := h s3 es3
      refine Ev_aload_n 0 dX8_readOrder_85 rfl rfl ?_
      refine Ev_getR (i := 2) cl_X8 yX_137 (Nat.le_of_ble_eq_true rfl) rfl wd_511 dX8_readOrder_86 ?_
      refine Ev_aload_n 0 dX8_readOrder_89 rfl rfl ?_
      refine Ev_get (i := 4) cl_X8 yX_137 (Nat.le_of_ble_eq_true rfl) rfl wd_515 dX8_readOrder_90 ?_
      refine Ev_iconst dX8_readOrder_93 rfl (ev_Rc rfl) ?_
      refine Ev_imul dX8_readOrder_94 ?_
      refine Ev_iconst dX8_readOrder_95 rfl (ev_Rc rfl) ?_
      refine Ev_iadd dX8_readOrder_96 ?_
      refine Ev_iload_n 2 dX8_readOrder_97 rfl rfl ?_
      obtain ⟨h0, h⟩ := h
      refine Ev_iast yX_138 h0 dX8_readOrder_98 (Ev_nm (fun s4 es4 => ?_))
      replace h := h s4 es4
      refine Ev_aload_n 0 dX8_readOrder_99 rfl rfl ?_
      refine Ev_dup dX8_readOrder_100 rfl ?_
      refine Ev_get (i := 4) cl_X8 yX_137 (Nat.le_of_ble_eq_true rfl) rfl wd_515 dX8_readOrder_101 ?_
      refine Ev_iconst dX8_readOrder_104 rfl (ev_Rc rfl) ?_
      refine Ev_iadd dX8_readOrder_105 ?_
      refine Ev_put (i := 4) (ty := .int) cl_X8 yX_137 (Nat.le_of_ble_eq_true rfl) rfl rfl (by decide +kernel) rfl rfl wd_515 dX8_readOrder_106 (Ev_nm (fun s5 es5 => ?_))
      replace h := h s5 es5
      refine Ev_aload_n 0 dX8_readOrder_109 rfl rfl ?_
      refine Ev_aload_n 0 dX8_readOrder_110 rfl rfl ?_
      refine Ev_get (i := 4) cl_X8 yX_137 (Nat.le_of_ble_eq_true rfl) rfl wd_515 dX8_readOrder_111 ?_
      refine Ev_iconst dX8_readOrder_114 rfl (ev_Rc rfl) ?_
      refine Ev_imul dX8_readOrder_115 ?_
      refine Ev_put (i := 3) (ty := .int) cl_X8 yX_137 (Nat.le_of_ble_eq_true rfl) rfl rfl (by decide +kernel) rfl rfl wd_513 dX8_readOrder_116 (Ev_nm (fun s6 es6 => ?_))
      replace h := h s6 es6
      refine Ev_iconst dX8_readOrder_119 rfl (ev_Rc rfl) ?_
      exact Ev_iret rfl dX8_readOrder_120 (ev_nb (by decide)) h
    · replace h := h.2 c
      refine Ev_iconst dX8_readOrder_71 rfl (ev_Rc rfl) ?_
      exact Ev_iret rfl dX8_readOrder_72 (ev_nb (by decide)) h
theorem dX8_readLaw_0 : decode cX8_readLaw 0 = .ok (.aload_n 0, 1) := by decide +kernel
theorem dX8_readLaw_1 : decode cX8_readLaw 1 = .ok (.getfield 18, 3) := by decide +kernel
theorem dX8_readLaw_4 : decode cX8_readLaw 4 = .ok (.invokevirtual 135, 3) := by decide +kernel
theorem dX8_readLaw_7 : decode cX8_readLaw 7 = .ok (.iconst 0, 1) := by decide +kernel
theorem dX8_readLaw_8 : decode cX8_readLaw 8 = .ok (.istore_n 1, 1) := by decide +kernel
theorem dX8_readLaw_9 : decode cX8_readLaw 9 = .ok (.iload_n 1, 1) := by decide +kernel
theorem dX8_readLaw_10 : decode cX8_readLaw 10 = .ok (.sipush 400, 3) := by decide +kernel
theorem dX8_readLaw_13 : decode cX8_readLaw 13 = .ok (.if_icmp .ge 118, 3) := by decide +kernel
theorem dX8_readLaw_16 : decode cX8_readLaw 16 = .ok (.aload_n 0, 1) := by decide +kernel
theorem dX8_readLaw_17 : decode cX8_readLaw 17 = .ok (.getfield 83, 3) := by decide +kernel
theorem dX8_readLaw_20 : decode cX8_readLaw 20 = .ok (.bipush 20, 2) := by decide +kernel
theorem dX8_readLaw_22 : decode cX8_readLaw 22 = .ok (.if_icmp .eq 12, 3) := by decide +kernel
theorem dX8_readLaw_25 : decode cX8_readLaw 25 = .ok (.aload_n 0, 1) := by decide +kernel
theorem dX8_readLaw_26 : decode cX8_readLaw 26 = .ok (.getfield 83, 3) := by decide +kernel
theorem dX8_readLaw_29 : decode cX8_readLaw 29 = .ok (.bipush 21, 2) := by decide +kernel
theorem dX8_readLaw_31 : decode cX8_readLaw 31 = .ok (.if_icmp .ne 100, 3) := by decide +kernel
theorem dX8_readLaw_34 : decode cX8_readLaw 34 = .ok (.aload_n 0, 1) := by decide +kernel
theorem dX8_readLaw_35 : decode cX8_readLaw 35 = .ok (.getfield 40, 3) := by decide +kernel
theorem dX8_readLaw_38 : decode cX8_readLaw 38 = .ok (.bipush 16, 2) := by decide +kernel
theorem dX8_readLaw_40 : decode cX8_readLaw 40 = .ok (.if_icmp .lt 9, 3) := by decide +kernel
theorem dX8_readLaw_43 : decode cX8_readLaw 43 = .ok (.aload_n 0, 1) := by decide +kernel
theorem dX8_readLaw_44 : decode cX8_readLaw 44 = .ok (.iconst 3, 1) := by decide +kernel
theorem dX8_readLaw_45 : decode cX8_readLaw 45 = .ok (.invokevirtual 89, 3) := by decide +kernel
theorem dX8_readLaw_48 : decode cX8_readLaw 48 = .ok (.ireturn, 1) := by decide +kernel
theorem dX8_readLaw_49 : decode cX8_readLaw 49 = .ok (.aload_n 0, 1) := by decide +kernel
theorem dX8_readLaw_50 : decode cX8_readLaw 50 = .ok (.getfield 83, 3) := by decide +kernel
theorem dX8_readLaw_53 : decode cX8_readLaw 53 = .ok (.bipush 20, 2) := by decide +kernel
theorem dX8_readLaw_55 : decode cX8_readLaw 55 = .ok (.if_icmp .ne 7, 3) := by decide +kernel
theorem dX8_readLaw_58 : decode cX8_readLaw 58 = .ok (.iconst 1, 1) := by decide +kernel
theorem dX8_readLaw_59 : decode cX8_readLaw 59 = .ok (.goto 4, 3) := by decide +kernel
theorem dX8_readLaw_62 : decode cX8_readLaw 62 = .ok (.iconst 0, 1) := by decide +kernel
theorem dX8_readLaw_63 : decode cX8_readLaw 63 = .ok (.istore_n 2, 1) := by decide +kernel
theorem dX8_readLaw_64 : decode cX8_readLaw 64 = .ok (.aload_n 0, 1) := by decide +kernel
theorem dX8_readLaw_65 : decode cX8_readLaw 65 = .ok (.invokevirtual 51, 3) := by decide +kernel
theorem dX8_readLaw_68 : decode cX8_readLaw 68 = .ok (.aload_n 0, 1) := by decide +kernel
theorem dX8_readLaw_69 : decode cX8_readLaw 69 = .ok (.bipush 22, 2) := by decide +kernel
theorem dX8_readLaw_71 : decode cX8_readLaw 71 = .ok (.invokevirtual 123, 3) := by decide +kernel
theorem dX8_readLaw_74 : decode cX8_readLaw 74 = .ok (.ifCond .eq 11, 3) := by decide +kernel
theorem dX8_readLaw_77 : decode cX8_readLaw 77 = .ok (.aload_n 0, 1) := by decide +kernel
theorem dX8_readLaw_78 : decode cX8_readLaw 78 = .ok (.iconst 0, 1) := by decide +kernel
theorem dX8_readLaw_79 : decode cX8_readLaw 79 = .ok (.invokevirtual 138, 3) := by decide +kernel
theorem dX8_readLaw_82 : decode cX8_readLaw 82 = .ok (.ifCond .eq 7, 3) := by decide +kernel
theorem dX8_readLaw_85 : decode cX8_readLaw 85 = .ok (.iconst 1, 1) := by decide +kernel
theorem dX8_readLaw_86 : decode cX8_readLaw 86 = .ok (.goto 4, 3) := by decide +kernel
theorem dX8_readLaw_89 : decode cX8_readLaw 89 = .ok (.iconst 0, 1) := by decide +kernel
theorem dX8_readLaw_90 : decode cX8_readLaw 90 = .ok (.istore_n 3, 1) := by decide +kernel
theorem dX8_readLaw_91 : decode cX8_readLaw 91 = .ok (.iload_n 3, 1) := by decide +kernel
theorem dX8_readLaw_92 : decode cX8_readLaw 92 = .ok (.ifCond .eq 13, 3) := by decide +kernel
theorem dX8_readLaw_95 : decode cX8_readLaw 95 = .ok (.aload_n 0, 1) := by decide +kernel
theorem dX8_readLaw_96 : decode cX8_readLaw 96 = .ok (.sipush 159, 3) := by decide +kernel
theorem dX8_readLaw_99 : decode cX8_readLaw 99 = .ok (.invokevirtual 58, 3) := by decide +kernel
theorem dX8_readLaw_102 : decode cX8_readLaw 102 = .ok (.ifCond .ne 5, 3) := by decide +kernel
theorem dX8_readLaw_105 : decode cX8_readLaw 105 = .ok (.iconst 0, 1) := by decide +kernel
theorem dX8_readLaw_106 : decode cX8_readLaw 106 = .ok (.ireturn, 1) := by decide +kernel
theorem dX8_readLaw_107 : decode cX8_readLaw 107 = .ok (.aload_n 0, 1) := by decide +kernel
theorem dX8_readLaw_108 : decode cX8_readLaw 108 = .ok (.getfield 18, 3) := by decide +kernel
theorem dX8_readLaw_111 : decode cX8_readLaw 111 = .ok (.iload_n 2, 1) := by decide +kernel
theorem dX8_readLaw_112 : decode cX8_readLaw 112 = .ok (.invokevirtual 141, 3) := by decide +kernel
theorem dX8_readLaw_115 : decode cX8_readLaw 115 = .ok (.aload_n 0, 1) := by decide +kernel
theorem dX8_readLaw_116 : decode cX8_readLaw 116 = .ok (.dup, 1) := by decide +kernel
theorem dX8_readLaw_117 : decode cX8_readLaw 117 = .ok (.getfield 40, 3) := by decide +kernel
theorem dX8_readLaw_120 : decode cX8_readLaw 120 = .ok (.iconst 1, 1) := by decide +kernel
theorem dX8_readLaw_121 : decode cX8_readLaw 121 = .ok (.iadd, 1) := by decide +kernel
theorem dX8_readLaw_122 : decode cX8_readLaw 122 = .ok (.putfield 40, 3) := by decide +kernel
theorem dX8_readLaw_125 : decode cX8_readLaw 125 = .ok (.iinc 1 1, 3) := by decide +kernel
theorem dX8_readLaw_128 : decode cX8_readLaw 128 = .ok (.goto (-119), 3) := by decide +kernel
theorem dX8_readLaw_131 : decode cX8_readLaw 131 = .ok (.iconst 1, 1) := by decide +kernel
theorem dX8_readLaw_132 : decode cX8_readLaw 132 = .ok (.ireturn, 1) := by decide +kernel
theorem wp_X8_readLaw_0 {d : Nat} {s : ev_S} {Q : Option ev_V → ev_S → Prop}
    (h : (Ev layX M_X4_clear d 0 [(0, ev_r 139)] [] s (fun _ s1 => Ev layX M_X8_readLaw (d + 1) 9 [(0, ev_r 137), (1, ev_i 0)] [] s1 Q))) :
    Ev layX M_X8_readLaw (d + 1) 0 [(0, ev_r 137)] [] s Q := by
  refine Ev_aload_n 0 dX8_readLaw_0 rfl rfl ?_
  refine Ev_getR (i := 5) cl_X8 yX_137 (Nat.le_of_ble_eq_true rfl) rfl wd_517 dX8_readLaw_1 ?_
  refine Ev_callV (As := []) (b := 139) (st := []) (M' := M_X4_clear) cm_X4_clear wd_996 wd_688 wd_689 yX_139 cl_X4 rfl dX8_readLaw_4 (Nat.le_refl _) rfl (Nat.le_of_ble_eq_true rfl) (Nat.le_of_ble_eq_true rfl) h (fun v u h hk => ?_)
  cases hk
  obtain ⟨s1, rfl⟩ : ∃ x, x = u := ⟨_, rfl⟩
  refine Ev_iconst dX8_readLaw_7 rfl (ev_Rc rfl) ?_
  refine Ev_istore_n (l' := [(1, ev_i 0), (0, ev_r 137)]) dX8_readLaw_8 rfl (Nat.le_of_ble_eq_true rfl) rfl ?_
  exact Ev_sub [1, 0] rfl h
theorem wp_X8_readLaw_9 {d : Nat} {s : ev_S} {Q : Option ev_V → ev_S → Prop} {a1 : Int}
    (h : ((400 ≤ a1 → Q (some (ev_i 1)) s) ∧ (a1 < 400 → (((s 137 7) = 20 → Ev layX M_X8_readLaw (d + 1) 34 [(0, ev_r 137), (1, ev_i a1)] [] s Q) ∧ ((s 137 7) ≠ 20 → (((s 137 7) ≠ 21 → Q (some (ev_i 1)) s) ∧ ((s 137 7) = 21 → Ev layX M_X8_readLaw (d + 1) 34 [(0, ev_r 137), (1, ev_i a1)] [] s Q))))))) :
    Ev layX M_X8_readLaw (d + 1) 9 [(0, ev_r 137), (1, ev_i a1)] [] s Q := by
  refine Ev_iload_n 1 dX8_readLaw_9 rfl rfl ?_
  refine Ev_sipushC dX8_readLaw_10 rfl ?_
  refine Ev_icmp_ge (tgt := 131) dX8_readLaw_13 rfl (fun c => ?_) (fun c => ?_)
  · replace h := h.1 c
    refine Ev_iconst dX8_readLaw_131 rfl (ev_Rc rfl) ?_
    exact Ev_iret rfl dX8_readLaw_132 (ev_nb (by decide)) h
  · replace h := h.2 c
    refine Ev_aload_n 0 dX8_readLaw_16 rfl rfl ?_
    refine Ev_get (i := 7) cl_X8 yX_137 (Nat.le_of_ble_eq_true rfl) rfl wd_520 dX8_readLaw_17 ?_
    refine Ev_bipushC dX8_readLaw_20 rfl ?_
    refine Ev_icmp_eq (tgt := 34) dX8_readLaw_22 rfl (fun c => ?_) (fun c => ?_)
    · replace h := h.1 c
      exact Ev_sub [0, 1] rfl h
    · replace h := h.2 c
      refine Ev_aload_n 0 dX8_readLaw_25 rfl rfl ?_
      refine Ev_get (i := 7) cl_X8 yX_137 (Nat.le_of_ble_eq_true rfl) rfl wd_520 dX8_readLaw_26 ?_
      refine Ev_bipushC dX8_readLaw_29 rfl ?_
      refine Ev_icmp_ne (tgt := 131) dX8_readLaw_31 rfl (fun c => ?_) (fun c => ?_)
      · replace h := h.1 c
        refine Ev_iconst dX8_readLaw_131 rfl (ev_Rc rfl) ?_
        exact Ev_iret rfl dX8_readLaw_132 (ev_nb (by decide)) h
      · replace h := h.2 c
        exact Ev_sub [0, 1] rfl h
theorem wp_X8_readLaw_34 {d : Nat} {s : ev_S} {Q : Option ev_V → ev_S → Prop} {a1 : Int}
    (h : (((s 137 4) < 16 → (((s 137 7) ≠ 20 → Ev layX M_X8_readLaw (d + 1) 63 [(0, ev_r 137), (1, ev_i a1)] [ev_i 0] s Q) ∧ ((s 137 7) = 20 → Ev layX M_X8_readLaw (d + 1) 63 [(0, ev_r 137), (1, ev_i a1)] [ev_i 1] s Q))) ∧ (16 ≤ (s 137 4) → (Ev layX M_X8_faulty d 0 [(0, ev_r 137), (1, ev_i 3)] [] s (ev_pi (fun r2 s1 => ((r2 = 0 ∨ r2 = 1) ∧ Q (some (ev_i r2)) s1))))))) :
    Ev layX M_X8_readLaw (d + 1) 34 [(0, ev_r 137), (1, ev_i a1)] [] s Q := by
  refine Ev_aload_n 0 dX8_readLaw_34 rfl rfl ?_
  refine Ev_get (i := 4) cl_X8 yX_137 (Nat.le_of_ble_eq_true rfl) rfl wd_515 dX8_readLaw_35 ?_
  refine Ev_bipushC dX8_readLaw_38 rfl ?_
  refine Ev_icmp_lt (tgt := 49) dX8_readLaw_40 rfl (fun c => ?_) (fun c => ?_)
  · replace h := h.1 c
    refine Ev_aload_n 0 dX8_readLaw_49 rfl rfl ?_
    refine Ev_get (i := 7) cl_X8 yX_137 (Nat.le_of_ble_eq_true rfl) rfl wd_520 dX8_readLaw_50 ?_
    refine Ev_bipushC dX8_readLaw_53 rfl ?_
    refine Ev_icmp_ne (tgt := 62) dX8_readLaw_55 rfl (fun c => ?_) (fun c => ?_)
    · replace h := h.1 c
      refine Ev_iconst dX8_readLaw_62 rfl (ev_Rc rfl) ?_
      exact Ev_sub [0, 1] rfl h
    · replace h := h.2 c
      refine Ev_iconst dX8_readLaw_58 rfl (ev_Rc rfl) ?_
      refine Ev_goto (tgt := 63) dX8_readLaw_59 rfl ?_
      exact Ev_sub [0, 1] rfl h
  · replace h := h.2 c
    refine Ev_aload_n 0 dX8_readLaw_43 rfl rfl ?_
    refine Ev_iconst dX8_readLaw_44 rfl (ev_Rc rfl) ?_
    refine Ev_callV (As := [ev_i 3]) (b := 137) (st := []) (M' := M_X8_faulty) cm_X8_faulty wd_935 wd_937 wd_8 yX_137 cl_X8 rfl dX8_readLaw_45 (Nat.le_refl _) rfl (Nat.le_of_ble_eq_true rfl) (Nat.le_of_ble_eq_true rfl) h (fun v u h hk => ?_)
    obtain ⟨r2, rfl⟩ := hk
    obtain ⟨s1, rfl⟩ : ∃ x, x = u := ⟨_, rfl⟩
    replace h := h r2 rfl
    exact Ev_iret rfl dX8_readLaw_48 (ev_nb h.1) h.2
theorem wp_X8_readLaw_63 {d : Nat} {s : ev_S} {Q : Option ev_V → ev_S → Prop} {a1 t0 : Int}
    (h : (Ev layX M_X8_advance d 0 [(0, ev_r 137)] [] s (fun _ s1 => (Ev layX M_X8_passes d 0 [(0, ev_r 137), (1, ev_i 22)] [] s1 (ev_pi (fun r3 s2 => ((r3 = 0 → Ev layX M_X8_readLaw (d + 1) 90 [(0, ev_r 137), (1, ev_i a1), (2, ev_i t0)] [ev_i 1] s2 Q) ∧ (r3 ≠ 0 → (Ev layX M_X8_readCondition d 0 [(0, ev_r 137), (1, ev_i 0)] [] s2 (ev_pi (fun r5 s4 => ((r5 = 0 → Ev layX M_X8_readLaw (d + 1) 90 [(0, ev_r 137), (1, ev_i a1), (2, ev_i t0)] [ev_i 0] s4 Q) ∧ (r5 ≠ 0 → Ev layX M_X8_readLaw (d + 1) 90 [(0, ev_r 137), (1, ev_i a1), (2, ev_i t0)] [ev_i 1] s4 Q))))))))))))) :
    Ev layX M_X8_readLaw (d + 1) 63 [(0, ev_r 137), (1, ev_i a1)] [ev_i t0] s Q := by
  refine Ev_istore_n (l' := [(2, ev_i t0), (0, ev_r 137), (1, ev_i a1)]) dX8_readLaw_63 rfl (Nat.le_of_ble_eq_true rfl) rfl ?_
  refine Ev_aload_n 1 dX8_readLaw_64 rfl rfl ?_
  refine Ev_callV (As := []) (b := 137) (st := []) (M' := M_X8_advance) cm_X8_advance wd_923 wd_925 wd_5 yX_137 cl_X8 rfl dX8_readLaw_65 (Nat.le_refl _) rfl (Nat.le_of_ble_eq_true rfl) (Nat.le_of_ble_eq_true rfl) h (fun v u h hk => ?_)
  cases hk
  obtain ⟨s1, rfl⟩ : ∃ x, x = u := ⟨_, rfl⟩
  refine Ev_aload_n 1 dX8_readLaw_68 rfl rfl ?_
  refine Ev_bipushC dX8_readLaw_69 rfl ?_
  refine Ev_callV (As := [ev_i 22]) (b := 137) (st := []) (M' := M_X8_passes) cm_X8_passes wd_976 wd_978 wd_18 yX_137 cl_X8 rfl dX8_readLaw_71 (Nat.le_refl _) rfl (Nat.le_of_ble_eq_true rfl) (Nat.le_of_ble_eq_true rfl) h (fun v u h hk => ?_)
  obtain ⟨r3, rfl⟩ := hk
  obtain ⟨s2, rfl⟩ : ∃ x, x = u := ⟨_, rfl⟩
  replace h := h r3 rfl
  refine Ev_if_eq (tgt := 85) dX8_readLaw_74 rfl (fun c => ?_) (fun c => ?_)
  · replace h := h.1 c
    refine Ev_iconst dX8_readLaw_85 rfl (ev_Rc rfl) ?_
    refine Ev_goto (tgt := 90) dX8_readLaw_86 rfl ?_
    exact Ev_sub [1, 2, 0] rfl h
  · replace h := h.2 c
    refine Ev_aload_n 1 dX8_readLaw_77 rfl rfl ?_
    refine Ev_iconst dX8_readLaw_78 rfl (ev_Rc rfl) ?_
    refine Ev_callV (As := [ev_i 0]) (b := 137) (st := []) (M' := M_X8_readCondition) cm_X8_readCondition wd_997 wd_999 wd_23 yX_137 cl_X8 rfl dX8_readLaw_79 (Nat.le_refl _) rfl (Nat.le_of_ble_eq_true rfl) (Nat.le_of_ble_eq_true rfl) h (fun v u h hk => ?_)
    obtain ⟨r5, rfl⟩ := hk
    obtain ⟨s4, rfl⟩ : ∃ x, x = u := ⟨_, rfl⟩
    replace h := h r5 rfl
    refine Ev_if_eq (tgt := 89) dX8_readLaw_82 rfl (fun c => ?_) (fun c => ?_)
    · replace h := h.1 c
      refine Ev_iconst dX8_readLaw_89 rfl (ev_Rc rfl) ?_
      exact Ev_sub [1, 2, 0] rfl h
    · replace h := h.2 c
      refine Ev_iconst dX8_readLaw_85 rfl (ev_Rc rfl) ?_
      refine Ev_goto (tgt := 90) dX8_readLaw_86 rfl ?_
      exact Ev_sub [1, 2, 0] rfl h
theorem wp_X8_readLaw_90 {d : Nat} {s : ev_S} {Q : Option ev_V → ev_S → Prop} {a1 a2 t0 : Int}
    (h : ((t0 = 0 → Q (some (ev_i 0)) s) ∧ (t0 ≠ 0 → (Ev layX M_X8_takes d 0 [(0, ev_r 137), (1, ev_i 159)] [] s (ev_pi (fun r2 s1 => ((r2 ≠ 0 → (Ev layX M_X4_closeLine d 0 [(0, ev_r 139), (1, ev_i a2)] [] s1 (fun _ s3 => (∀ s4, ev_up s3 137 4 (ev_add (s3 137 4) 1) = s4 → Ev layX M_X8_readLaw (d + 1) 9 [(0, ev_r 137), (1, ev_i (ev_add a1 1))] [] s4 Q)))) ∧ (r2 = 0 → Q (some (ev_i 0)) s1)))))))) :
    Ev layX M_X8_readLaw (d + 1) 90 [(0, ev_r 137), (1, ev_i a1), (2, ev_i a2)] [ev_i t0] s Q := by
  refine Ev_istore_n (l' := [(3, ev_i t0), (0, ev_r 137), (1, ev_i a1), (2, ev_i a2)]) dX8_readLaw_90 rfl (Nat.le_of_ble_eq_true rfl) rfl ?_
  refine Ev_iload_n 0 dX8_readLaw_91 rfl rfl ?_
  refine Ev_if_eq (tgt := 105) dX8_readLaw_92 rfl (fun c => ?_) (fun c => ?_)
  · replace h := h.1 c
    refine Ev_iconst dX8_readLaw_105 rfl (ev_Rc rfl) ?_
    exact Ev_iret rfl dX8_readLaw_106 (ev_nb (by decide)) h
  · replace h := h.2 c
    refine Ev_aload_n 1 dX8_readLaw_95 rfl rfl ?_
    refine Ev_sipushC dX8_readLaw_96 rfl ?_
    refine Ev_callV (As := [ev_i 159]) (b := 137) (st := []) (M' := M_X8_takes) cm_X8_takes wd_947 wd_949 wd_11 yX_137 cl_X8 rfl dX8_readLaw_99 (Nat.le_refl _) rfl (Nat.le_of_ble_eq_true rfl) (Nat.le_of_ble_eq_true rfl) h (fun v u h hk => ?_)
    obtain ⟨r2, rfl⟩ := hk
    obtain ⟨s1, rfl⟩ : ∃ x, x = u := ⟨_, rfl⟩
    replace h := h r2 rfl
    refine Ev_if_ne (tgt := 107) dX8_readLaw_102 rfl (fun c => ?_) (fun c => ?_)
    · replace h := h.1 c
      refine Ev_aload_n 1 dX8_readLaw_107 rfl rfl ?_
      refine Ev_getR (i := 5) cl_X8 yX_137 (Nat.le_of_ble_eq_true rfl) rfl wd_517 dX8_readLaw_108 ?_
      refine Ev_iload_n 3 dX8_readLaw_111 rfl rfl ?_
      refine Ev_callV (As := [ev_i a2]) (b := 139) (st := []) (M' := M_X4_closeLine) cm_X4_closeLine wd_1021 wd_1022 wd_1023 yX_139 cl_X4 rfl dX8_readLaw_112 (Nat.le_refl _) rfl (Nat.le_of_ble_eq_true rfl) (Nat.le_of_ble_eq_true rfl) h (fun v u h hk => ?_)
      cases hk
      obtain ⟨s3, rfl⟩ : ∃ x, x = u := ⟨_, rfl⟩
      refine Ev_aload_n 1 dX8_readLaw_115 rfl rfl ?_
      refine Ev_dup dX8_readLaw_116 rfl ?_
      refine Ev_get (i := 4) cl_X8 yX_137 (Nat.le_of_ble_eq_true rfl) rfl wd_515 dX8_readLaw_117 ?_
      refine Ev_iconst dX8_readLaw_120 rfl (ev_Rc rfl) ?_
      refine Ev_iadd dX8_readLaw_121 ?_
      refine Ev_put (i := 4) (ty := .int) cl_X8 yX_137 (Nat.le_of_ble_eq_true rfl) rfl rfl (by decide +kernel) rfl rfl wd_515 dX8_readLaw_122 (Ev_nm (fun s4 es4 => ?_))
      replace h := h s4 es4
      refine Ev_iinc (j := 2) (l' := [(1, ev_i (ev_add a1 1)), (3, ev_i t0), (0, ev_r 137), (2, ev_i a2)]) dX8_readLaw_125 rfl (Nat.le_of_ble_eq_true rfl) rfl ?_
      refine Ev_goto (tgt := 9) dX8_readLaw_128 rfl ?_
      exact Ev_sub [2, 0] rfl h
    · replace h := h.2 c
      refine Ev_iconst dX8_readLaw_105 rfl (ev_Rc rfl) ?_
      exact Ev_iret rfl dX8_readLaw_106 (ev_nb (by decide)) h
theorem dX8_readCondition_0 : decode cX8_readCondition 0 = .ok (.iconst 1, 1) := by decide +kernel
theorem dX8_readCondition_1 : decode cX8_readCondition 1 = .ok (.istore_n 2, 1) := by decide +kernel
theorem dX8_readCondition_2 : decode cX8_readCondition 2 = .ok (.iconst 0, 1) := by decide +kernel
theorem dX8_readCondition_3 : decode cX8_readCondition 3 = .ok (.istore_n 3, 1) := by decide +kernel
theorem dX8_readCondition_4 : decode cX8_readCondition 4 = .ok (.iload_n 3, 1) := by decide +kernel
theorem dX8_readCondition_5 : decode cX8_readCondition 5 = .ok (.sipush 400, 3) := by decide +kernel
theorem dX8_readCondition_8 : decode cX8_readCondition 8 = .ok (.if_icmp .ge 90, 3) := by decide +kernel
theorem dX8_readCondition_11 : decode cX8_readCondition 11 = .ok (.iload_n 2, 1) := by decide +kernel
theorem dX8_readCondition_12 : decode cX8_readCondition 12 = .ok (.ifCond .eq 86, 3) := by decide +kernel
theorem dX8_readCondition_15 : decode cX8_readCondition 15 = .ok (.iconst 1, 1) := by decide +kernel
theorem dX8_readCondition_16 : decode cX8_readCondition 16 = .ok (.istore 4, 2) := by decide +kernel
theorem dX8_readCondition_18 : decode cX8_readCondition 18 = .ok (.iconst 0, 1) := by decide +kernel
theorem dX8_readCondition_19 : decode cX8_readCondition 19 = .ok (.istore 5, 2) := by decide +kernel
theorem dX8_readCondition_21 : decode cX8_readCondition 21 = .ok (.iload 5, 2) := by decide +kernel
theorem dX8_readCondition_23 : decode cX8_readCondition 23 = .ok (.sipush 400, 3) := by decide +kernel
theorem dX8_readCondition_26 : decode cX8_readCondition 26 = .ok (.if_icmp .ge 46, 3) := by decide +kernel
theorem dX8_readCondition_29 : decode cX8_readCondition 29 = .ok (.iload 4, 2) := by decide +kernel
theorem dX8_readCondition_31 : decode cX8_readCondition 31 = .ok (.ifCond .eq 41, 3) := by decide +kernel
theorem dX8_readCondition_34 : decode cX8_readCondition 34 = .ok (.aload_n 0, 1) := by decide +kernel
theorem dX8_readCondition_35 : decode cX8_readCondition 35 = .ok (.iload_n 1, 1) := by decide +kernel
theorem dX8_readCondition_36 : decode cX8_readCondition 36 = .ok (.invokevirtual 145, 3) := by decide +kernel
theorem dX8_readCondition_39 : decode cX8_readCondition 39 = .ok (.ifCond .ne 5, 3) := by decide +kernel
theorem dX8_readCondition_42 : decode cX8_readCondition 42 = .ok (.iconst 0, 1) := by decide +kernel
theorem dX8_readCondition_43 : decode cX8_readCondition 43 = .ok (.ireturn, 1) := by decide +kernel
theorem dX8_readCondition_44 : decode cX8_readCondition 44 = .ok (.iload 5, 2) := by decide +kernel
theorem dX8_readCondition_46 : decode cX8_readCondition 46 = .ok (.ifCond .le 12, 3) := by decide +kernel
theorem dX8_readCondition_49 : decode cX8_readCondition 49 = .ok (.aload_n 0, 1) := by decide +kernel
theorem dX8_readCondition_50 : decode cX8_readCondition 50 = .ok (.getfield 18, 3) := by decide +kernel
theorem dX8_readCondition_53 : decode cX8_readCondition 53 = .ok (.bipush 18, 2) := by decide +kernel
theorem dX8_readCondition_55 : decode cX8_readCondition 55 = .ok (.invokevirtual 148, 3) := by decide +kernel
theorem dX8_readCondition_58 : decode cX8_readCondition 58 = .ok (.aload_n 0, 1) := by decide +kernel
theorem dX8_readCondition_59 : decode cX8_readCondition 59 = .ok (.bipush 24, 2) := by decide +kernel
theorem dX8_readCondition_61 : decode cX8_readCondition 61 = .ok (.invokevirtual 123, 3) := by decide +kernel
theorem dX8_readCondition_64 : decode cX8_readCondition 64 = .ok (.istore 4, 2) := by decide +kernel
theorem dX8_readCondition_66 : decode cX8_readCondition 66 = .ok (.iinc 5 1, 3) := by decide +kernel
theorem dX8_readCondition_69 : decode cX8_readCondition 69 = .ok (.goto (-48), 3) := by decide +kernel
theorem dX8_readCondition_72 : decode cX8_readCondition 72 = .ok (.iload_n 3, 1) := by decide +kernel
theorem dX8_readCondition_73 : decode cX8_readCondition 73 = .ok (.ifCond .le 12, 3) := by decide +kernel
theorem dX8_readCondition_76 : decode cX8_readCondition 76 = .ok (.aload_n 0, 1) := by decide +kernel
theorem dX8_readCondition_77 : decode cX8_readCondition 77 = .ok (.getfield 18, 3) := by decide +kernel
theorem dX8_readCondition_80 : decode cX8_readCondition 80 = .ok (.bipush 19, 2) := by decide +kernel
theorem dX8_readCondition_82 : decode cX8_readCondition 82 = .ok (.invokevirtual 148, 3) := by decide +kernel
theorem dX8_readCondition_85 : decode cX8_readCondition 85 = .ok (.aload_n 0, 1) := by decide +kernel
theorem dX8_readCondition_86 : decode cX8_readCondition 86 = .ok (.bipush 23, 2) := by decide +kernel
theorem dX8_readCondition_88 : decode cX8_readCondition 88 = .ok (.invokevirtual 123, 3) := by decide +kernel
theorem dX8_readCondition_91 : decode cX8_readCondition 91 = .ok (.istore_n 2, 1) := by decide +kernel
theorem dX8_readCondition_92 : decode cX8_readCondition 92 = .ok (.iinc 3 1, 3) := by decide +kernel
theorem dX8_readCondition_95 : decode cX8_readCondition 95 = .ok (.goto (-91), 3) := by decide +kernel
theorem dX8_readCondition_98 : decode cX8_readCondition 98 = .ok (.iconst 1, 1) := by decide +kernel
theorem dX8_readCondition_99 : decode cX8_readCondition 99 = .ok (.ireturn, 1) := by decide +kernel
theorem wp_X8_readCondition_0 {d : Nat} {s : ev_S} {Q : Option ev_V → ev_S → Prop} {a1 : Int}
    (h : Ev layX M_X8_readCondition (d + 1) 4 [(0, ev_r 137), (1, ev_i a1), (2, ev_i 1), (3, ev_i 0)] [] s Q) :
    Ev layX M_X8_readCondition (d + 1) 0 [(0, ev_r 137), (1, ev_i a1)] [] s Q := by
  refine Ev_iconst dX8_readCondition_0 rfl (ev_Rc rfl) ?_
  refine Ev_istore_n (l' := [(2, ev_i 1), (0, ev_r 137), (1, ev_i a1)]) dX8_readCondition_1 rfl (Nat.le_of_ble_eq_true rfl) rfl ?_
  refine Ev_iconst dX8_readCondition_2 rfl (ev_Rc rfl) ?_
  refine Ev_istore_n (l' := [(3, ev_i 0), (2, ev_i 1), (0, ev_r 137), (1, ev_i a1)]) dX8_readCondition_3 rfl (Nat.le_of_ble_eq_true rfl) rfl ?_
  exact Ev_sub [2, 3, 1, 0] rfl h
theorem wp_X8_readCondition_4 {d : Nat} {s : ev_S} {Q : Option ev_V → ev_S → Prop} {a1 a2 a3 : Int}
    (h : ((400 ≤ a3 → Q (some (ev_i 1)) s) ∧ (a3 < 400 → ((a2 = 0 → Q (some (ev_i 1)) s) ∧ (a2 ≠ 0 → Ev layX M_X8_readCondition (d + 1) 21 [(0, ev_r 137), (1, ev_i a1), (3, ev_i a3), (4, ev_i 1), (5, ev_i 0)] [] s Q))))) :
    Ev layX M_X8_readCondition (d + 1) 4 [(0, ev_r 137), (1, ev_i a1), (2, ev_i a2), (3, ev_i a3)] [] s Q := by
  refine Ev_iload_n 3 dX8_readCondition_4 rfl rfl ?_
  refine Ev_sipushC dX8_readCondition_5 rfl ?_
  refine Ev_icmp_ge (tgt := 98) dX8_readCondition_8 rfl (fun c => ?_) (fun c => ?_)
  · replace h := h.1 c
    refine Ev_iconst dX8_readCondition_98 rfl (ev_Rc rfl) ?_
    exact Ev_iret rfl dX8_readCondition_99 (ev_nb (by decide)) h
  · replace h := h.2 c
    refine Ev_iload_n 2 dX8_readCondition_11 rfl rfl ?_
    refine Ev_if_eq (tgt := 98) dX8_readCondition_12 rfl (fun c => ?_) (fun c => ?_)
    · replace h := h.1 c
      refine Ev_iconst dX8_readCondition_98 rfl (ev_Rc rfl) ?_
      exact Ev_iret rfl dX8_readCondition_99 (ev_nb (by decide)) h
    · replace h := h.2 c
      refine Ev_iconst dX8_readCondition_15 rfl (ev_Rc rfl) ?_
      refine Ev_istore (l' := [(4, ev_i 1), (0, ev_r 137), (1, ev_i a1), (2, ev_i a2), (3, ev_i a3)]) dX8_readCondition_16 (Nat.le_of_ble_eq_true rfl) rfl ?_
      refine Ev_iconst dX8_readCondition_18 rfl (ev_Rc rfl) ?_
      refine Ev_istore (l' := [(5, ev_i 0), (4, ev_i 1), (0, ev_r 137), (1, ev_i a1), (2, ev_i a2), (3, ev_i a3)]) dX8_readCondition_19 (Nat.le_of_ble_eq_true rfl) rfl ?_
      exact Ev_sub [2, 3, 5, 1, 0] rfl h
theorem wp_X8_readCondition_21 {d : Nat} {s : ev_S} {Q : Option ev_V → ev_S → Prop} {a1 a3 a4 a5 : Int}
    (h : ((400 ≤ a5 → Ev layX M_X8_readCondition (d + 1) 72 [(0, ev_r 137), (1, ev_i a1), (3, ev_i a3)] [] s Q) ∧ (a5 < 400 → ((a4 = 0 → Ev layX M_X8_readCondition (d + 1) 72 [(0, ev_r 137), (1, ev_i a1), (3, ev_i a3)] [] s Q) ∧ (a4 ≠ 0 → (Ev layX M_X8_readClause d 0 [(0, ev_r 137), (1, ev_i a1)] [] s (ev_pi (fun r2 s1 => ((r2 ≠ 0 → ((a5 ≤ 0 → (Ev layX M_X8_passes d 0 [(0, ev_r 137), (1, ev_i 24)] [] s1 (ev_pi (fun r4 s3 => Ev layX M_X8_readCondition (d + 1) 21 [(0, ev_r 137), (1, ev_i a1), (3, ev_i a3), (4, ev_i r4), (5, ev_i (ev_add a5 1))] [] s3 Q)))) ∧ (0 < a5 → (Ev layX M_X4_emit d 0 [(0, ev_r 139), (1, ev_i 18)] [] s1 (fun _ s5 => (Ev layX M_X8_passes d 0 [(0, ev_r 137), (1, ev_i 24)] [] s5 (ev_pi (fun r7 s6 => Ev layX M_X8_readCondition (d + 1) 21 [(0, ev_r 137), (1, ev_i a1), (3, ev_i a3), (4, ev_i r7), (5, ev_i (ev_add a5 1))] [] s6 Q)))))))) ∧ (r2 = 0 → Q (some (ev_i 0)) s1)))))))))) :
    Ev layX M_X8_readCondition (d + 1) 21 [(0, ev_r 137), (1, ev_i a1), (3, ev_i a3), (4, ev_i a4), (5, ev_i a5)] [] s Q := by
  refine Ev_iload 4 dX8_readCondition_21 rfl ?_
  refine Ev_sipushC dX8_readCondition_23 rfl ?_
  refine Ev_icmp_ge (tgt := 72) dX8_readCondition_26 rfl (fun c => ?_) (fun c => ?_)
  · replace h := h.1 c
    exact Ev_sub [0, 1, 2] rfl h
  · replace h := h.2 c
    refine Ev_iload 3 dX8_readCondition_29 rfl ?_
    refine Ev_if_eq (tgt := 72) dX8_readCondition_31 rfl (fun c => ?_) (fun c => ?_)
    · replace h := h.1 c
      exact Ev_sub [0, 1, 2] rfl h
    · replace h := h.2 c
      refine Ev_aload_n 0 dX8_readCondition_34 rfl rfl ?_
      refine Ev_iload_n 1 dX8_readCondition_35 rfl rfl ?_
      refine Ev_callV (As := [ev_i a1]) (b := 137) (st := []) (M' := M_X8_readClause) cm_X8_readClause wd_1001 wd_1003 wd_24 yX_137 cl_X8 rfl dX8_readCondition_36 (Nat.le_refl _) rfl (Nat.le_of_ble_eq_true rfl) (Nat.le_of_ble_eq_true rfl) h (fun v u h hk => ?_)
      obtain ⟨r2, rfl⟩ := hk
      obtain ⟨s1, rfl⟩ : ∃ x, x = u := ⟨_, rfl⟩
      replace h := h r2 rfl
      refine Ev_if_ne (tgt := 44) dX8_readCondition_39 rfl (fun c => ?_) (fun c => ?_)
      · replace h := h.1 c
        refine Ev_iload 4 dX8_readCondition_44 rfl ?_
        refine Ev_if_le (tgt := 58) dX8_readCondition_46 rfl (fun c => ?_) (fun c => ?_)
        · replace h := h.1 c
          refine Ev_aload_n 0 dX8_readCondition_58 rfl rfl ?_
          refine Ev_bipushC dX8_readCondition_59 rfl ?_
          refine Ev_callV (As := [ev_i 24]) (b := 137) (st := []) (M' := M_X8_passes) cm_X8_passes wd_976 wd_978 wd_18 yX_137 cl_X8 rfl dX8_readCondition_61 (Nat.le_refl _) rfl (Nat.le_of_ble_eq_true rfl) (Nat.le_of_ble_eq_true rfl) h (fun v u h hk => ?_)
          obtain ⟨r4, rfl⟩ := hk
          obtain ⟨s3, rfl⟩ : ∃ x, x = u := ⟨_, rfl⟩
          replace h := h r4 rfl
          refine Ev_istore (l' := [(4, ev_i r4), (0, ev_r 137), (1, ev_i a1), (3, ev_i a3), (5, ev_i a5)]) dX8_readCondition_64 (Nat.le_of_ble_eq_true rfl) rfl ?_
          refine Ev_iinc (j := 4) (l' := [(5, ev_i (ev_add a5 1)), (4, ev_i r4), (0, ev_r 137), (1, ev_i a1), (3, ev_i a3)]) dX8_readCondition_66 rfl (Nat.le_of_ble_eq_true rfl) rfl ?_
          refine Ev_goto (tgt := 21) dX8_readCondition_69 rfl ?_
          exact Ev_sub [2, 3, 4, 1, 0] rfl h
        · replace h := h.2 c
          refine Ev_aload_n 0 dX8_readCondition_49 rfl rfl ?_
          refine Ev_getR (i := 5) cl_X8 yX_137 (Nat.le_of_ble_eq_true rfl) rfl wd_517 dX8_readCondition_50 ?_
          refine Ev_bipushC dX8_readCondition_53 rfl ?_
          refine Ev_callV (As := [ev_i 18]) (b := 139) (st := []) (M' := M_X4_emit) cm_X4_emit wd_1005 wd_1006 wd_1007 yX_139 cl_X4 rfl dX8_readCondition_55 (Nat.le_refl _) rfl (Nat.le_of_ble_eq_true rfl) (Nat.le_of_ble_eq_true rfl) h (fun v u h hk => ?_)
          cases hk
          obtain ⟨s5, rfl⟩ : ∃ x, x = u := ⟨_, rfl⟩
          refine Ev_aload_n 0 dX8_readCondition_58 rfl rfl ?_
          refine Ev_bipushC dX8_readCondition_59 rfl ?_
          refine Ev_callV (As := [ev_i 24]) (b := 137) (st := []) (M' := M_X8_passes) cm_X8_passes wd_976 wd_978 wd_18 yX_137 cl_X8 rfl dX8_readCondition_61 (Nat.le_refl _) rfl (Nat.le_of_ble_eq_true rfl) (Nat.le_of_ble_eq_true rfl) h (fun v u h hk => ?_)
          obtain ⟨r7, rfl⟩ := hk
          obtain ⟨s6, rfl⟩ : ∃ x, x = u := ⟨_, rfl⟩
          replace h := h r7 rfl
          refine Ev_istore (l' := [(4, ev_i r7), (0, ev_r 137), (1, ev_i a1), (3, ev_i a3), (5, ev_i a5)]) dX8_readCondition_64 (Nat.le_of_ble_eq_true rfl) rfl ?_
          refine Ev_iinc (j := 4) (l' := [(5, ev_i (ev_add a5 1)), (4, ev_i r7), (0, ev_r 137), (1, ev_i a1), (3, ev_i a3)]) dX8_readCondition_66 rfl (Nat.le_of_ble_eq_true rfl) rfl ?_
          refine Ev_goto (tgt := 21) dX8_readCondition_69 rfl ?_
          exact Ev_sub [2, 3, 4, 1, 0] rfl h
      · replace h := h.2 c
        refine Ev_iconst dX8_readCondition_42 rfl (ev_Rc rfl) ?_
        exact Ev_iret rfl dX8_readCondition_43 (ev_nb (by decide)) h
theorem wp_X8_readCondition_72 {d : Nat} {s : ev_S} {Q : Option ev_V → ev_S → Prop} {a1 a3 : Int}
    (h : ((a3 ≤ 0 → (Ev layX M_X8_passes d 0 [(0, ev_r 137), (1, ev_i 23)] [] s (ev_pi (fun r2 s1 => Ev layX M_X8_readCondition (d + 1) 4 [(0, ev_r 137), (1, ev_i a1), (2, ev_i r2), (3, ev_i (ev_add a3 1))] [] s1 Q)))) ∧ (0 < a3 → (Ev layX M_X4_emit d 0 [(0, ev_r 139), (1, ev_i 19)] [] s (fun _ s3 => (Ev layX M_X8_passes d 0 [(0, ev_r 137), (1, ev_i 23)] [] s3 (ev_pi (fun r5 s4 => Ev layX M_X8_readCondition (d + 1) 4 [(0, ev_r 137), (1, ev_i a1), (2, ev_i r5), (3, ev_i (ev_add a3 1))] [] s4 Q)))))))) :
    Ev layX M_X8_readCondition (d + 1) 72 [(0, ev_r 137), (1, ev_i a1), (3, ev_i a3)] [] s Q := by
  refine Ev_iload_n 2 dX8_readCondition_72 rfl rfl ?_
  refine Ev_if_le (tgt := 85) dX8_readCondition_73 rfl (fun c => ?_) (fun c => ?_)
  · replace h := h.1 c
    refine Ev_aload_n 0 dX8_readCondition_85 rfl rfl ?_
    refine Ev_bipushC dX8_readCondition_86 rfl ?_
    refine Ev_callV (As := [ev_i 23]) (b := 137) (st := []) (M' := M_X8_passes) cm_X8_passes wd_976 wd_978 wd_18 yX_137 cl_X8 rfl dX8_readCondition_88 (Nat.le_refl _) rfl (Nat.le_of_ble_eq_true rfl) (Nat.le_of_ble_eq_true rfl) h (fun v u h hk => ?_)
    obtain ⟨r2, rfl⟩ := hk
    obtain ⟨s1, rfl⟩ : ∃ x, x = u := ⟨_, rfl⟩
    replace h := h r2 rfl
    refine Ev_istore_n (l' := [(2, ev_i r2), (0, ev_r 137), (1, ev_i a1), (3, ev_i a3)]) dX8_readCondition_91 rfl (Nat.le_of_ble_eq_true rfl) rfl ?_
    refine Ev_iinc (j := 3) (l' := [(3, ev_i (ev_add a3 1)), (2, ev_i r2), (0, ev_r 137), (1, ev_i a1)]) dX8_readCondition_92 rfl (Nat.le_of_ble_eq_true rfl) rfl ?_
    refine Ev_goto (tgt := 4) dX8_readCondition_95 rfl ?_
    exact Ev_sub [2, 3, 1, 0] rfl h
  · replace h := h.2 c
    refine Ev_aload_n 0 dX8_readCondition_76 rfl rfl ?_
    refine Ev_getR (i := 5) cl_X8 yX_137 (Nat.le_of_ble_eq_true rfl) rfl wd_517 dX8_readCondition_77 ?_
    refine Ev_bipushC dX8_readCondition_80 rfl ?_
    refine Ev_callV (As := [ev_i 19]) (b := 139) (st := []) (M' := M_X4_emit) cm_X4_emit wd_1005 wd_1006 wd_1007 yX_139 cl_X4 rfl dX8_readCondition_82 (Nat.le_refl _) rfl (Nat.le_of_ble_eq_true rfl) (Nat.le_of_ble_eq_true rfl) h (fun v u h hk => ?_)
    cases hk
    obtain ⟨s3, rfl⟩ : ∃ x, x = u := ⟨_, rfl⟩
    refine Ev_aload_n 0 dX8_readCondition_85 rfl rfl ?_
    refine Ev_bipushC dX8_readCondition_86 rfl ?_
    refine Ev_callV (As := [ev_i 23]) (b := 137) (st := []) (M' := M_X8_passes) cm_X8_passes wd_976 wd_978 wd_18 yX_137 cl_X8 rfl dX8_readCondition_88 (Nat.le_refl _) rfl (Nat.le_of_ble_eq_true rfl) (Nat.le_of_ble_eq_true rfl) h (fun v u h hk => ?_)
    obtain ⟨r5, rfl⟩ := hk
    obtain ⟨s4, rfl⟩ : ∃ x, x = u := ⟨_, rfl⟩
    replace h := h r5 rfl
    refine Ev_istore_n (l' := [(2, ev_i r5), (0, ev_r 137), (1, ev_i a1), (3, ev_i a3)]) dX8_readCondition_91 rfl (Nat.le_of_ble_eq_true rfl) rfl ?_
    refine Ev_iinc (j := 3) (l' := [(3, ev_i (ev_add a3 1)), (2, ev_i r5), (0, ev_r 137), (1, ev_i a1)]) dX8_readCondition_92 rfl (Nat.le_of_ble_eq_true rfl) rfl ?_
    refine Ev_goto (tgt := 4) dX8_readCondition_95 rfl ?_
    exact Ev_sub [2, 3, 1, 0] rfl h
theorem dX8_readClause_0 : decode cX8_readClause 0 = .ok (.aload_n 0, 1) := by decide +kernel
theorem dX8_readClause_1 : decode cX8_readClause 1 = .ok (.getfield 83, 3) := by decide +kernel
theorem dX8_readClause_4 : decode cX8_readClause 4 = .ok (.istore_n 2, 1) := by decide +kernel
theorem dX8_readClause_5 : decode cX8_readClause 5 = .ok (.iload_n 2, 1) := by decide +kernel
theorem dX8_readClause_6 : decode cX8_readClause 6 = .ok (.bipush 25, 2) := by decide +kernel
theorem dX8_readClause_8 : decode cX8_readClause 8 = .ok (.if_icmp .eq 10, 3) := by decide +kernel
theorem dX8_readClause_11 : decode cX8_readClause 11 = .ok (.iload_n 2, 1) := by decide +kernel
theorem dX8_readClause_12 : decode cX8_readClause 12 = .ok (.sipush 140, 3) := by decide +kernel
theorem dX8_readClause_15 : decode cX8_readClause 15 = .ok (.if_icmp .ne 71, 3) := by decide +kernel
theorem dX8_readClause_18 : decode cX8_readClause 18 = .ok (.iload_n 1, 1) := by decide +kernel
theorem dX8_readClause_19 : decode cX8_readClause 19 = .ok (.bipush 8, 2) := by decide +kernel
theorem dX8_readClause_21 : decode cX8_readClause 21 = .ok (.if_icmp .lt 9, 3) := by decide +kernel
theorem dX8_readClause_24 : decode cX8_readClause 24 = .ok (.aload_n 0, 1) := by decide +kernel
theorem dX8_readClause_25 : decode cX8_readClause 25 = .ok (.iconst 3, 1) := by decide +kernel
theorem dX8_readClause_26 : decode cX8_readClause 26 = .ok (.invokevirtual 89, 3) := by decide +kernel
theorem dX8_readClause_29 : decode cX8_readClause 29 = .ok (.ireturn, 1) := by decide +kernel
theorem dX8_readClause_30 : decode cX8_readClause 30 = .ok (.aload_n 0, 1) := by decide +kernel
theorem dX8_readClause_31 : decode cX8_readClause 31 = .ok (.invokevirtual 51, 3) := by decide +kernel
theorem dX8_readClause_34 : decode cX8_readClause 34 = .ok (.iload_n 2, 1) := by decide +kernel
theorem dX8_readClause_35 : decode cX8_readClause 35 = .ok (.sipush 140, 3) := by decide +kernel
theorem dX8_readClause_38 : decode cX8_readClause 38 = .ok (.if_icmp .ne 29, 3) := by decide +kernel
theorem dX8_readClause_41 : decode cX8_readClause 41 = .ok (.aload_n 0, 1) := by decide +kernel
theorem dX8_readClause_42 : decode cX8_readClause 42 = .ok (.iload_n 1, 1) := by decide +kernel
theorem dX8_readClause_43 : decode cX8_readClause 43 = .ok (.iconst 1, 1) := by decide +kernel
theorem dX8_readClause_44 : decode cX8_readClause 44 = .ok (.iadd, 1) := by decide +kernel
theorem dX8_readClause_45 : decode cX8_readClause 45 = .ok (.invokevirtual 138, 3) := by decide +kernel
theorem dX8_readClause_48 : decode cX8_readClause 48 = .ok (.ifCond .eq 17, 3) := by decide +kernel
theorem dX8_readClause_51 : decode cX8_readClause 51 = .ok (.aload_n 0, 1) := by decide +kernel
theorem dX8_readClause_52 : decode cX8_readClause 52 = .ok (.sipush 141, 3) := by decide +kernel
theorem dX8_readClause_55 : decode cX8_readClause 55 = .ok (.invokevirtual 58, 3) := by decide +kernel
theorem dX8_readClause_58 : decode cX8_readClause 58 = .ok (.ifCond .eq 7, 3) := by decide +kernel
theorem dX8_readClause_61 : decode cX8_readClause 61 = .ok (.iconst 1, 1) := by decide +kernel
theorem dX8_readClause_62 : decode cX8_readClause 62 = .ok (.goto 4, 3) := by decide +kernel
theorem dX8_readClause_65 : decode cX8_readClause 65 = .ok (.iconst 0, 1) := by decide +kernel
theorem dX8_readClause_66 : decode cX8_readClause 66 = .ok (.ireturn, 1) := by decide +kernel
theorem dX8_readClause_67 : decode cX8_readClause 67 = .ok (.aload_n 0, 1) := by decide +kernel
theorem dX8_readClause_68 : decode cX8_readClause 68 = .ok (.iload_n 1, 1) := by decide +kernel
theorem dX8_readClause_69 : decode cX8_readClause 69 = .ok (.iconst 1, 1) := by decide +kernel
theorem dX8_readClause_70 : decode cX8_readClause 70 = .ok (.iadd, 1) := by decide +kernel
theorem dX8_readClause_71 : decode cX8_readClause 71 = .ok (.invokevirtual 145, 3) := by decide +kernel
theorem dX8_readClause_74 : decode cX8_readClause 74 = .ok (.istore_n 3, 1) := by decide +kernel
theorem dX8_readClause_75 : decode cX8_readClause 75 = .ok (.aload_n 0, 1) := by decide +kernel
theorem dX8_readClause_76 : decode cX8_readClause 76 = .ok (.getfield 18, 3) := by decide +kernel
theorem dX8_readClause_79 : decode cX8_readClause 79 = .ok (.bipush 17, 2) := by decide +kernel
theorem dX8_readClause_81 : decode cX8_readClause 81 = .ok (.invokevirtual 148, 3) := by decide +kernel
theorem dX8_readClause_84 : decode cX8_readClause 84 = .ok (.iload_n 3, 1) := by decide +kernel
theorem dX8_readClause_85 : decode cX8_readClause 85 = .ok (.ireturn, 1) := by decide +kernel
theorem dX8_readClause_86 : decode cX8_readClause 86 = .ok (.aload_n 0, 1) := by decide +kernel
theorem dX8_readClause_87 : decode cX8_readClause 87 = .ok (.invokevirtual 152, 3) := by decide +kernel
theorem dX8_readClause_90 : decode cX8_readClause 90 = .ok (.ifCond .ne 5, 3) := by decide +kernel
theorem dX8_readClause_93 : decode cX8_readClause 93 = .ok (.iconst 0, 1) := by decide +kernel
theorem dX8_readClause_94 : decode cX8_readClause 94 = .ok (.ireturn, 1) := by decide +kernel
theorem dX8_readClause_95 : decode cX8_readClause 95 = .ok (.aload_n 0, 1) := by decide +kernel
theorem dX8_readClause_96 : decode cX8_readClause 96 = .ok (.invokevirtual 155, 3) := by decide +kernel
theorem dX8_readClause_99 : decode cX8_readClause 99 = .ok (.istore_n 3, 1) := by decide +kernel
theorem dX8_readClause_100 : decode cX8_readClause 100 = .ok (.iload_n 3, 1) := by decide +kernel
theorem dX8_readClause_101 : decode cX8_readClause 101 = .ok (.iconst (-1), 1) := by decide +kernel
theorem dX8_readClause_102 : decode cX8_readClause 102 = .ok (.if_icmp .ne 9, 3) := by decide +kernel
theorem dX8_readClause_105 : decode cX8_readClause 105 = .ok (.aload_n 0, 1) := by decide +kernel
theorem dX8_readClause_106 : decode cX8_readClause 106 = .ok (.iconst 1, 1) := by decide +kernel
theorem dX8_readClause_107 : decode cX8_readClause 107 = .ok (.invokevirtual 89, 3) := by decide +kernel
theorem dX8_readClause_110 : decode cX8_readClause 110 = .ok (.ireturn, 1) := by decide +kernel
theorem dX8_readClause_111 : decode cX8_readClause 111 = .ok (.aload_n 0, 1) := by decide +kernel
theorem dX8_readClause_112 : decode cX8_readClause 112 = .ok (.invokevirtual 51, 3) := by decide +kernel
theorem dX8_readClause_115 : decode cX8_readClause 115 = .ok (.aload_n 0, 1) := by decide +kernel
theorem dX8_readClause_116 : decode cX8_readClause 116 = .ok (.invokevirtual 152, 3) := by decide +kernel
theorem dX8_readClause_119 : decode cX8_readClause 119 = .ok (.istore 4, 2) := by decide +kernel
theorem dX8_readClause_121 : decode cX8_readClause 121 = .ok (.aload_n 0, 1) := by decide +kernel
theorem dX8_readClause_122 : decode cX8_readClause 122 = .ok (.getfield 18, 3) := by decide +kernel
theorem dX8_readClause_125 : decode cX8_readClause 125 = .ok (.iload_n 3, 1) := by decide +kernel
theorem dX8_readClause_126 : decode cX8_readClause 126 = .ok (.invokevirtual 148, 3) := by decide +kernel
theorem dX8_readClause_129 : decode cX8_readClause 129 = .ok (.iload 4, 2) := by decide +kernel
theorem dX8_readClause_131 : decode cX8_readClause 131 = .ok (.ireturn, 1) := by decide +kernel
theorem wp_X8_readClause_0 {d : Nat} {s : ev_S} {Q : Option ev_V → ev_S → Prop} {a1 : Int}
    (h : (((s 137 7) = 25 → Ev layX M_X8_readClause (d + 1) 18 [(0, ev_r 137), (1, ev_i a1), (2, ev_i (s 137 7))] [] s Q) ∧ ((s 137 7) ≠ 25 → (((s 137 7) ≠ 140 → (Ev layX M_X8_readSum d 0 [(0, ev_r 137)] [] s (ev_pi (fun r2 s1 => ((r2 ≠ 0 → (Ev layX M_X8_comparison d 0 [(0, ev_r 137)] [] s1 (ev_pi (fun r4 s3 => ((r4 ≠ (-1) → (Ev layX M_X8_advance d 0 [(0, ev_r 137)] [] s3 (fun _ s5 => (Ev layX M_X8_readSum d 0 [(0, ev_r 137)] [] s5 (ev_pi (fun r7 s6 => (Ev layX M_X4_emit d 0 [(0, ev_r 139), (1, ev_i r4)] [] s6 (fun _ s8 => ((r7 = 0 ∨ r7 = 1) ∧ Q (some (ev_i r7)) s8))))))))) ∧ (r4 = (-1) → (Ev layX M_X8_faulty d 0 [(0, ev_r 137), (1, ev_i 1)] [] s3 (ev_pi (fun r10 s9 => ((r10 = 0 ∨ r10 = 1) ∧ Q (some (ev_i r10)) s9)))))))))) ∧ (r2 = 0 → Q (some (ev_i 0)) s1)))))) ∧ ((s 137 7) = 140 → Ev layX M_X8_readClause (d + 1) 18 [(0, ev_r 137), (1, ev_i a1), (2, ev_i (s 137 7))] [] s Q))))) :
    Ev layX M_X8_readClause (d + 1) 0 [(0, ev_r 137), (1, ev_i a1)] [] s Q := by
  refine Ev_aload_n 0 dX8_readClause_0 rfl rfl ?_
  refine Ev_get (i := 7) cl_X8 yX_137 (Nat.le_of_ble_eq_true rfl) rfl wd_520 dX8_readClause_1 ?_
  refine Ev_istore_n (l' := [(2, ev_i (s 137 7)), (0, ev_r 137), (1, ev_i a1)]) dX8_readClause_4 rfl (Nat.le_of_ble_eq_true rfl) rfl ?_
  refine Ev_iload_n 0 dX8_readClause_5 rfl rfl ?_
  refine Ev_bipushC dX8_readClause_6 rfl ?_
  refine Ev_icmp_eq (tgt := 18) dX8_readClause_8 rfl (fun c => ?_) (fun c => ?_)
  · replace h := h.1 c
    exact Ev_sub [1, 2, 0] rfl h
  · replace h := h.2 c
    refine Ev_iload_n 0 dX8_readClause_11 rfl rfl ?_
    refine Ev_sipushC dX8_readClause_12 rfl ?_
    refine Ev_icmp_ne (tgt := 86) dX8_readClause_15 rfl (fun c => ?_) (fun c => ?_)
    · replace h := h.1 c
      refine Ev_aload_n 1 dX8_readClause_86 rfl rfl ?_
      refine Ev_callV (As := []) (b := 137) (st := []) (M' := M_X8_readSum) cm_X8_readSum wd_1009 wd_1011 wd_25 yX_137 cl_X8 rfl dX8_readClause_87 (Nat.le_refl _) rfl (Nat.le_of_ble_eq_true rfl) (Nat.le_of_ble_eq_true rfl) h (fun v u h hk => ?_)
      obtain ⟨r2, rfl⟩ := hk
      obtain ⟨s1, rfl⟩ : ∃ x, x = u := ⟨_, rfl⟩
      replace h := h r2 rfl
      refine Ev_if_ne (tgt := 95) dX8_readClause_90 rfl (fun c => ?_) (fun c => ?_)
      · replace h := h.1 c
        refine Ev_aload_n 1 dX8_readClause_95 rfl rfl ?_
        refine Ev_callV (As := []) (b := 137) (st := []) (M' := M_X8_comparison) cm_X8_comparison wd_1017 wd_1019 wd_27 yX_137 cl_X8 rfl dX8_readClause_96 (Nat.le_refl _) rfl (Nat.le_of_ble_eq_true rfl) (Nat.le_of_ble_eq_true rfl) h (fun v u h hk => ?_)
        obtain ⟨r4, rfl⟩ := hk
        obtain ⟨s3, rfl⟩ : ∃ x, x = u := ⟨_, rfl⟩
        replace h := h r4 rfl
        refine Ev_istore_n (l' := [(3, ev_i r4), (2, ev_i (s 137 7)), (0, ev_r 137), (1, ev_i a1)]) dX8_readClause_99 rfl (Nat.le_of_ble_eq_true rfl) rfl ?_
        refine Ev_iload_n 0 dX8_readClause_100 rfl rfl ?_
        refine Ev_iconst dX8_readClause_101 rfl (ev_Rc rfl) ?_
        refine Ev_icmp_ne (tgt := 111) dX8_readClause_102 rfl (fun c => ?_) (fun c => ?_)
        · replace h := h.1 c
          refine Ev_aload_n 2 dX8_readClause_111 rfl rfl ?_
          refine Ev_callV (As := []) (b := 137) (st := []) (M' := M_X8_advance) cm_X8_advance wd_923 wd_925 wd_5 yX_137 cl_X8 rfl dX8_readClause_112 (Nat.le_refl _) rfl (Nat.le_of_ble_eq_true rfl) (Nat.le_of_ble_eq_true rfl) h (fun v u h hk => ?_)
          cases hk
          obtain ⟨s5, rfl⟩ : ∃ x, x = u := ⟨_, rfl⟩
          refine Ev_aload_n 2 dX8_readClause_115 rfl rfl ?_
          refine Ev_callV (As := []) (b := 137) (st := []) (M' := M_X8_readSum) cm_X8_readSum wd_1009 wd_1011 wd_25 yX_137 cl_X8 rfl dX8_readClause_116 (Nat.le_refl _) rfl (Nat.le_of_ble_eq_true rfl) (Nat.le_of_ble_eq_true rfl) h (fun v u h hk => ?_)
          obtain ⟨r7, rfl⟩ := hk
          obtain ⟨s6, rfl⟩ : ∃ x, x = u := ⟨_, rfl⟩
          replace h := h r7 rfl
          refine Ev_istore (l' := [(4, ev_i r7), (3, ev_i r4), (2, ev_i (s 137 7)), (0, ev_r 137), (1, ev_i a1)]) dX8_readClause_119 (Nat.le_of_ble_eq_true rfl) rfl ?_
          refine Ev_aload_n 3 dX8_readClause_121 rfl rfl ?_
          refine Ev_getR (i := 5) cl_X8 yX_137 (Nat.le_of_ble_eq_true rfl) rfl wd_517 dX8_readClause_122 ?_
          refine Ev_iload_n 1 dX8_readClause_125 rfl rfl ?_
          refine Ev_callV (As := [ev_i r4]) (b := 139) (st := []) (M' := M_X4_emit) cm_X4_emit wd_1005 wd_1006 wd_1007 yX_139 cl_X4 rfl dX8_readClause_126 (Nat.le_refl _) rfl (Nat.le_of_ble_eq_true rfl) (Nat.le_of_ble_eq_true rfl) h (fun v u h hk => ?_)
          cases hk
          obtain ⟨s8, rfl⟩ : ∃ x, x = u := ⟨_, rfl⟩
          refine Ev_iload 0 dX8_readClause_129 rfl ?_
          exact Ev_iret rfl dX8_readClause_131 (ev_nb h.1) h.2
        · replace h := h.2 c
          refine Ev_aload_n 2 dX8_readClause_105 rfl rfl ?_
          refine Ev_iconst dX8_readClause_106 rfl (ev_Rc rfl) ?_
          refine Ev_callV (As := [ev_i 1]) (b := 137) (st := []) (M' := M_X8_faulty) cm_X8_faulty wd_935 wd_937 wd_8 yX_137 cl_X8 rfl dX8_readClause_107 (Nat.le_refl _) rfl (Nat.le_of_ble_eq_true rfl) (Nat.le_of_ble_eq_true rfl) h (fun v u h hk => ?_)
          obtain ⟨r10, rfl⟩ := hk
          obtain ⟨s9, rfl⟩ : ∃ x, x = u := ⟨_, rfl⟩
          replace h := h r10 rfl
          exact Ev_iret rfl dX8_readClause_110 (ev_nb h.1) h.2
      · replace h := h.2 c
        refine Ev_iconst dX8_readClause_93 rfl (ev_Rc rfl) ?_
        exact Ev_iret rfl dX8_readClause_94 (ev_nb (by decide)) h
    · replace h := h.2 c
      exact Ev_sub [1, 2, 0] rfl h
theorem wp_X8_readClause_18 {d : Nat} {s : ev_S} {Q : Option ev_V → ev_S → Prop} {a1 a2 : Int}
    (h : ((a1 < 8 → (Ev layX M_X8_advance d 0 [(0, ev_r 137)] [] s (fun _ s1 => ((a2 ≠ 140 → (Ev layX M_X8_readClause d 0 [(0, ev_r 137), (1, ev_i (ev_add a1 1))] [] s1 (ev_pi (fun r3 s2 => (Ev layX M_X4_emit d 0 [(0, ev_r 139), (1, ev_i 17)] [] s2 (fun _ s4 => ((r3 = 0 ∨ r3 = 1) ∧ Q (some (ev_i r3)) s4))))))) ∧ (a2 = 140 → (Ev layX M_X8_readCondition d 0 [(0, ev_r 137), (1, ev_i (ev_add a1 1))] [] s1 (ev_pi (fun r6 s5 => ((r6 = 0 → Q (some (ev_i 0)) s5) ∧ (r6 ≠ 0 → (Ev layX M_X8_takes d 0 [(0, ev_r 137), (1, ev_i 141)] [] s5 (ev_pi (fun r8 s7 => ((r8 = 0 → Q (some (ev_i 0)) s7) ∧ (r8 ≠ 0 → Q (some (ev_i 1)) s7))))))))))))))) ∧ (8 ≤ a1 → (Ev layX M_X8_faulty d 0 [(0, ev_r 137), (1, ev_i 3)] [] s (ev_pi (fun r10 s9 => ((r10 = 0 ∨ r10 = 1) ∧ Q (some (ev_i r10)) s9))))))) :
    Ev layX M_X8_readClause (d + 1) 18 [(0, ev_r 137), (1, ev_i a1), (2, ev_i a2)] [] s Q := by
  refine Ev_iload_n 1 dX8_readClause_18 rfl rfl ?_
  refine Ev_bipushC dX8_readClause_19 rfl ?_
  refine Ev_icmp_lt (tgt := 30) dX8_readClause_21 rfl (fun c => ?_) (fun c => ?_)
  · replace h := h.1 c
    refine Ev_aload_n 0 dX8_readClause_30 rfl rfl ?_
    refine Ev_callV (As := []) (b := 137) (st := []) (M' := M_X8_advance) cm_X8_advance wd_923 wd_925 wd_5 yX_137 cl_X8 rfl dX8_readClause_31 (Nat.le_refl _) rfl (Nat.le_of_ble_eq_true rfl) (Nat.le_of_ble_eq_true rfl) h (fun v u h hk => ?_)
    cases hk
    obtain ⟨s1, rfl⟩ : ∃ x, x = u := ⟨_, rfl⟩
    refine Ev_iload_n 2 dX8_readClause_34 rfl rfl ?_
    refine Ev_sipushC dX8_readClause_35 rfl ?_
    refine Ev_icmp_ne (tgt := 67) dX8_readClause_38 rfl (fun c => ?_) (fun c => ?_)
    · replace h := h.1 c
      refine Ev_aload_n 0 dX8_readClause_67 rfl rfl ?_
      refine Ev_iload_n 1 dX8_readClause_68 rfl rfl ?_
      refine Ev_iconst dX8_readClause_69 rfl (ev_Rc rfl) ?_
      refine Ev_iadd dX8_readClause_70 ?_
      refine Ev_callV (As := [ev_i (ev_add a1 1)]) (b := 137) (st := []) (M' := M_X8_readClause) cm_X8_readClause wd_1001 wd_1003 wd_24 yX_137 cl_X8 rfl dX8_readClause_71 (Nat.le_refl _) rfl (Nat.le_of_ble_eq_true rfl) (Nat.le_of_ble_eq_true rfl) h (fun v u h hk => ?_)
      obtain ⟨r3, rfl⟩ := hk
      obtain ⟨s2, rfl⟩ : ∃ x, x = u := ⟨_, rfl⟩
      replace h := h r3 rfl
      refine Ev_istore_n (l' := [(3, ev_i r3), (0, ev_r 137), (1, ev_i a1), (2, ev_i a2)]) dX8_readClause_74 rfl (Nat.le_of_ble_eq_true rfl) rfl ?_
      refine Ev_aload_n 1 dX8_readClause_75 rfl rfl ?_
      refine Ev_getR (i := 5) cl_X8 yX_137 (Nat.le_of_ble_eq_true rfl) rfl wd_517 dX8_readClause_76 ?_
      refine Ev_bipushC dX8_readClause_79 rfl ?_
      refine Ev_callV (As := [ev_i 17]) (b := 139) (st := []) (M' := M_X4_emit) cm_X4_emit wd_1005 wd_1006 wd_1007 yX_139 cl_X4 rfl dX8_readClause_81 (Nat.le_refl _) rfl (Nat.le_of_ble_eq_true rfl) (Nat.le_of_ble_eq_true rfl) h (fun v u h hk => ?_)
      cases hk
      obtain ⟨s4, rfl⟩ : ∃ x, x = u := ⟨_, rfl⟩
      refine Ev_iload_n 0 dX8_readClause_84 rfl rfl ?_
      exact Ev_iret rfl dX8_readClause_85 (ev_nb h.1) h.2
    · replace h := h.2 c
      refine Ev_aload_n 0 dX8_readClause_41 rfl rfl ?_
      refine Ev_iload_n 1 dX8_readClause_42 rfl rfl ?_
      refine Ev_iconst dX8_readClause_43 rfl (ev_Rc rfl) ?_
      refine Ev_iadd dX8_readClause_44 ?_
      refine Ev_callV (As := [ev_i (ev_add a1 1)]) (b := 137) (st := []) (M' := M_X8_readCondition) cm_X8_readCondition wd_997 wd_999 wd_23 yX_137 cl_X8 rfl dX8_readClause_45 (Nat.le_refl _) rfl (Nat.le_of_ble_eq_true rfl) (Nat.le_of_ble_eq_true rfl) h (fun v u h hk => ?_)
      obtain ⟨r6, rfl⟩ := hk
      obtain ⟨s5, rfl⟩ : ∃ x, x = u := ⟨_, rfl⟩
      replace h := h r6 rfl
      refine Ev_if_eq (tgt := 65) dX8_readClause_48 rfl (fun c => ?_) (fun c => ?_)
      · replace h := h.1 c
        refine Ev_iconst dX8_readClause_65 rfl (ev_Rc rfl) ?_
        exact Ev_iret rfl dX8_readClause_66 (ev_nb (by decide)) h
      · replace h := h.2 c
        refine Ev_aload_n 0 dX8_readClause_51 rfl rfl ?_
        refine Ev_sipushC dX8_readClause_52 rfl ?_
        refine Ev_callV (As := [ev_i 141]) (b := 137) (st := []) (M' := M_X8_takes) cm_X8_takes wd_947 wd_949 wd_11 yX_137 cl_X8 rfl dX8_readClause_55 (Nat.le_refl _) rfl (Nat.le_of_ble_eq_true rfl) (Nat.le_of_ble_eq_true rfl) h (fun v u h hk => ?_)
        obtain ⟨r8, rfl⟩ := hk
        obtain ⟨s7, rfl⟩ : ∃ x, x = u := ⟨_, rfl⟩
        replace h := h r8 rfl
        refine Ev_if_eq (tgt := 65) dX8_readClause_58 rfl (fun c => ?_) (fun c => ?_)
        · replace h := h.1 c
          refine Ev_iconst dX8_readClause_65 rfl (ev_Rc rfl) ?_
          exact Ev_iret rfl dX8_readClause_66 (ev_nb (by decide)) h
        · replace h := h.2 c
          refine Ev_iconst dX8_readClause_61 rfl (ev_Rc rfl) ?_
          refine Ev_goto (tgt := 66) dX8_readClause_62 rfl ?_
          exact Ev_iret rfl dX8_readClause_66 (ev_nb (by decide)) h
  · replace h := h.2 c
    refine Ev_aload_n 0 dX8_readClause_24 rfl rfl ?_
    refine Ev_iconst dX8_readClause_25 rfl (ev_Rc rfl) ?_
    refine Ev_callV (As := [ev_i 3]) (b := 137) (st := []) (M' := M_X8_faulty) cm_X8_faulty wd_935 wd_937 wd_8 yX_137 cl_X8 rfl dX8_readClause_26 (Nat.le_refl _) rfl (Nat.le_of_ble_eq_true rfl) (Nat.le_of_ble_eq_true rfl) h (fun v u h hk => ?_)
    obtain ⟨r10, rfl⟩ := hk
    obtain ⟨s9, rfl⟩ : ∃ x, x = u := ⟨_, rfl⟩
    replace h := h r10 rfl
    exact Ev_iret rfl dX8_readClause_29 (ev_nb h.1) h.2
theorem dX8_comparison_0 : decode cX8_comparison 0 = .ok (.aload_n 0, 1) := by decide +kernel
theorem dX8_comparison_1 : decode cX8_comparison 1 = .ok (.getfield 83, 3) := by decide +kernel
theorem dX8_comparison_4 : decode cX8_comparison 4 = .ok (.tableswitch 37 160 162 #[28, 31, 34], 28) := by decide +kernel
theorem dX8_comparison_32 : decode cX8_comparison 32 = .ok (.bipush 14, 2) := by decide +kernel
theorem dX8_comparison_34 : decode cX8_comparison 34 = .ok (.ireturn, 1) := by decide +kernel
theorem dX8_comparison_35 : decode cX8_comparison 35 = .ok (.bipush 15, 2) := by decide +kernel
theorem dX8_comparison_37 : decode cX8_comparison 37 = .ok (.ireturn, 1) := by decide +kernel
theorem dX8_comparison_38 : decode cX8_comparison 38 = .ok (.bipush 16, 2) := by decide +kernel
theorem dX8_comparison_40 : decode cX8_comparison 40 = .ok (.ireturn, 1) := by decide +kernel
theorem dX8_comparison_41 : decode cX8_comparison 41 = .ok (.iconst (-1), 1) := by decide +kernel
theorem dX8_comparison_42 : decode cX8_comparison 42 = .ok (.ireturn, 1) := by decide +kernel
theorem wp_X8_comparison_0 {d : Nat} {s : ev_S} {Q : Option ev_V → ev_S → Prop}
    (h : (((s 137 7) < 160 ∨ 162 < (s 137 7) → Q (some (ev_i (-1))) s) ∧ ((s 137 7) = 160 → Q (some (ev_i 14)) s) ∧ ((s 137 7) = 161 → Q (some (ev_i 15)) s) ∧ ((s 137 7) = 162 → Q (some (ev_i 16)) s))) :
    Ev layX M_X8_comparison d 0 [(0, ev_r 137)] [] s Q := by
  refine Ev_aload_n 0 dX8_comparison_0 rfl rfl ?_
  refine Ev_get (i := 7) cl_X8 yX_137 (Nat.le_of_ble_eq_true rfl) rfl wd_520 dX8_comparison_1 ?_
  by_cases g : (s 137 7) < 160 ∨ 162 < (s 137 7)
  · replace h := h.1 g
    refine Ev_tabOut (tgt := 41) dX8_comparison_4 g rfl ?_
    refine Ev_iconst dX8_comparison_41 rfl (ev_Rc rfl) ?_
    exact Ev_iret rfl dX8_comparison_42 rfl h
  · replace h := h.2
    rcases (show (s 137 7) = 160 ∨ (s 137 7) = 161 ∨ (s 137 7) = 162 by omega) with g | g | g
    · replace h := h.1 g
      refine Ev_tabIn (tgt := 32) (off := 28) dX8_comparison_4 (by omega) (by omega) (by rw [g]; rfl) rfl ?_
      refine Ev_bipushC dX8_comparison_32 rfl ?_
      exact Ev_iret rfl dX8_comparison_34 rfl h
    · replace h := h.2.1 g
      refine Ev_tabIn (tgt := 35) (off := 31) dX8_comparison_4 (by omega) (by omega) (by rw [g]; rfl) rfl ?_
      refine Ev_bipushC dX8_comparison_35 rfl ?_
      exact Ev_iret rfl dX8_comparison_37 rfl h
    · replace h := h.2.2 g
      refine Ev_tabIn (tgt := 38) (off := 34) dX8_comparison_4 (by omega) (by omega) (by rw [g]; rfl) rfl ?_
      refine Ev_bipushC dX8_comparison_38 rfl ?_
      exact Ev_iret rfl dX8_comparison_40 rfl h
theorem dX8_readSum_0 : decode cX8_readSum 0 = .ok (.iconst (-1), 1) := by decide +kernel
theorem dX8_readSum_1 : decode cX8_readSum 1 = .ok (.istore_n 1, 1) := by decide +kernel
theorem dX8_readSum_2 : decode cX8_readSum 2 = .ok (.aload_n 0, 1) := by decide +kernel
theorem dX8_readSum_3 : decode cX8_readSum 3 = .ok (.invokevirtual 158, 3) := by decide +kernel
theorem dX8_readSum_6 : decode cX8_readSum 6 = .ok (.istore_n 2, 1) := by decide +kernel
theorem dX8_readSum_7 : decode cX8_readSum 7 = .ok (.iconst 0, 1) := by decide +kernel
theorem dX8_readSum_8 : decode cX8_readSum 8 = .ok (.istore_n 3, 1) := by decide +kernel
theorem dX8_readSum_9 : decode cX8_readSum 9 = .ok (.iload_n 3, 1) := by decide +kernel
theorem dX8_readSum_10 : decode cX8_readSum 10 = .ok (.sipush 400, 3) := by decide +kernel
theorem dX8_readSum_13 : decode cX8_readSum 13 = .ok (.if_icmp .ge 162, 3) := by decide +kernel
theorem dX8_readSum_16 : decode cX8_readSum 16 = .ok (.iload_n 2, 1) := by decide +kernel
theorem dX8_readSum_17 : decode cX8_readSum 17 = .ok (.ifCond .eq 158, 3) := by decide +kernel
theorem dX8_readSum_20 : decode cX8_readSum 20 = .ok (.aload_n 0, 1) := by decide +kernel
theorem dX8_readSum_21 : decode cX8_readSum 21 = .ok (.sipush 142, 3) := by decide +kernel
theorem dX8_readSum_24 : decode cX8_readSum 24 = .ok (.invokevirtual 123, 3) := by decide +kernel
theorem dX8_readSum_27 : decode cX8_readSum 27 = .ok (.ifCond .eq 20, 3) := by decide +kernel
theorem dX8_readSum_30 : decode cX8_readSum 30 = .ok (.aload_n 0, 1) := by decide +kernel
theorem dX8_readSum_31 : decode cX8_readSum 31 = .ok (.invokevirtual 158, 3) := by decide +kernel
theorem dX8_readSum_34 : decode cX8_readSum 34 = .ok (.istore_n 2, 1) := by decide +kernel
theorem dX8_readSum_35 : decode cX8_readSum 35 = .ok (.aload_n 0, 1) := by decide +kernel
theorem dX8_readSum_36 : decode cX8_readSum 36 = .ok (.getfield 18, 3) := by decide +kernel
theorem dX8_readSum_39 : decode cX8_readSum 39 = .ok (.bipush 12, 2) := by decide +kernel
theorem dX8_readSum_41 : decode cX8_readSum 41 = .ok (.invokevirtual 148, 3) := by decide +kernel
theorem dX8_readSum_44 : decode cX8_readSum 44 = .ok (.goto 125, 3) := by decide +kernel
theorem dX8_readSum_47 : decode cX8_readSum 47 = .ok (.aload_n 0, 1) := by decide +kernel
theorem dX8_readSum_48 : decode cX8_readSum 48 = .ok (.sipush 147, 3) := by decide +kernel
theorem dX8_readSum_51 : decode cX8_readSum 51 = .ok (.invokevirtual 123, 3) := by decide +kernel
theorem dX8_readSum_54 : decode cX8_readSum 54 = .ok (.ifCond .eq 53, 3) := by decide +kernel
theorem dX8_readSum_57 : decode cX8_readSum 57 = .ok (.aload_n 0, 1) := by decide +kernel
theorem dX8_readSum_58 : decode cX8_readSum 58 = .ok (.getfield 18, 3) := by decide +kernel
theorem dX8_readSum_61 : decode cX8_readSum 61 = .ok (.bipush 9, 2) := by decide +kernel
theorem dX8_readSum_63 : decode cX8_readSum 63 = .ok (.invokevirtual 148, 3) := by decide +kernel
theorem dX8_readSum_66 : decode cX8_readSum 66 = .ok (.aload_n 0, 1) := by decide +kernel
theorem dX8_readSum_67 : decode cX8_readSum 67 = .ok (.getfield 18, 3) := by decide +kernel
theorem dX8_readSum_70 : decode cX8_readSum 70 = .ok (.aload_n 0, 1) := by decide +kernel
theorem dX8_readSum_71 : decode cX8_readSum 71 = .ok (.invokevirtual 95, 3) := by decide +kernel
theorem dX8_readSum_74 : decode cX8_readSum 74 = .ok (.invokevirtual 148, 3) := by decide +kernel
theorem dX8_readSum_77 : decode cX8_readSum 77 = .ok (.aload_n 0, 1) := by decide +kernel
theorem dX8_readSum_78 : decode cX8_readSum 78 = .ok (.iconst 1, 1) := by decide +kernel
theorem dX8_readSum_79 : decode cX8_readSum 79 = .ok (.sipush 9999, 3) := by decide +kernel
theorem dX8_readSum_82 : decode cX8_readSum 82 = .ok (.invokevirtual 104, 3) := by decide +kernel
theorem dX8_readSum_85 : decode cX8_readSum 85 = .ok (.iconst (-1), 1) := by decide +kernel
theorem dX8_readSum_86 : decode cX8_readSum 86 = .ok (.if_icmp .eq 7, 3) := by decide +kernel
theorem dX8_readSum_89 : decode cX8_readSum 89 = .ok (.iconst 1, 1) := by decide +kernel
theorem dX8_readSum_90 : decode cX8_readSum 90 = .ok (.goto 4, 3) := by decide +kernel
theorem dX8_readSum_93 : decode cX8_readSum 93 = .ok (.iconst 0, 1) := by decide +kernel
theorem dX8_readSum_94 : decode cX8_readSum 94 = .ok (.istore_n 2, 1) := by decide +kernel
theorem dX8_readSum_95 : decode cX8_readSum 95 = .ok (.aload_n 0, 1) := by decide +kernel
theorem dX8_readSum_96 : decode cX8_readSum 96 = .ok (.getfield 18, 3) := by decide +kernel
theorem dX8_readSum_99 : decode cX8_readSum 99 = .ok (.bipush 13, 2) := by decide +kernel
theorem dX8_readSum_101 : decode cX8_readSum 101 = .ok (.invokevirtual 148, 3) := by decide +kernel
theorem dX8_readSum_104 : decode cX8_readSum 104 = .ok (.goto 65, 3) := by decide +kernel
theorem dX8_readSum_107 : decode cX8_readSum 107 = .ok (.iload_n 1, 1) := by decide +kernel
theorem dX8_readSum_108 : decode cX8_readSum 108 = .ok (.iconst (-1), 1) := by decide +kernel
theorem dX8_readSum_109 : decode cX8_readSum 109 = .ok (.if_icmp .eq 11, 3) := by decide +kernel
theorem dX8_readSum_112 : decode cX8_readSum 112 = .ok (.aload_n 0, 1) := by decide +kernel
theorem dX8_readSum_113 : decode cX8_readSum 113 = .ok (.getfield 18, 3) := by decide +kernel
theorem dX8_readSum_116 : decode cX8_readSum 116 = .ok (.iload_n 1, 1) := by decide +kernel
theorem dX8_readSum_117 : decode cX8_readSum 117 = .ok (.invokevirtual 148, 3) := by decide +kernel
theorem dX8_readSum_120 : decode cX8_readSum 120 = .ok (.aload_n 0, 1) := by decide +kernel
theorem dX8_readSum_121 : decode cX8_readSum 121 = .ok (.getfield 83, 3) := by decide +kernel
theorem dX8_readSum_124 : decode cX8_readSum 124 = .ok (.sipush 143, 3) := by decide +kernel
theorem dX8_readSum_127 : decode cX8_readSum 127 = .ok (.if_icmp .eq 15, 3) := by decide +kernel
theorem dX8_readSum_130 : decode cX8_readSum 130 = .ok (.aload_n 0, 1) := by decide +kernel
theorem dX8_readSum_131 : decode cX8_readSum 131 = .ok (.getfield 83, 3) := by decide +kernel
theorem dX8_readSum_134 : decode cX8_readSum 134 = .ok (.sipush 145, 3) := by decide +kernel
theorem dX8_readSum_137 : decode cX8_readSum 137 = .ok (.if_icmp .eq 5, 3) := by decide +kernel
theorem dX8_readSum_140 : decode cX8_readSum 140 = .ok (.iconst 1, 1) := by decide +kernel
theorem dX8_readSum_141 : decode cX8_readSum 141 = .ok (.ireturn, 1) := by decide +kernel
theorem dX8_readSum_142 : decode cX8_readSum 142 = .ok (.aload_n 0, 1) := by decide +kernel
theorem dX8_readSum_143 : decode cX8_readSum 143 = .ok (.getfield 83, 3) := by decide +kernel
theorem dX8_readSum_146 : decode cX8_readSum 146 = .ok (.sipush 143, 3) := by decide +kernel
theorem dX8_readSum_149 : decode cX8_readSum 149 = .ok (.if_icmp .ne 8, 3) := by decide +kernel
theorem dX8_readSum_152 : decode cX8_readSum 152 = .ok (.bipush 10, 2) := by decide +kernel
theorem dX8_readSum_154 : decode cX8_readSum 154 = .ok (.goto 5, 3) := by decide +kernel
theorem dX8_readSum_157 : decode cX8_readSum 157 = .ok (.bipush 11, 2) := by decide +kernel
theorem dX8_readSum_159 : decode cX8_readSum 159 = .ok (.istore_n 1, 1) := by decide +kernel
theorem dX8_readSum_160 : decode cX8_readSum 160 = .ok (.aload_n 0, 1) := by decide +kernel
theorem dX8_readSum_161 : decode cX8_readSum 161 = .ok (.invokevirtual 51, 3) := by decide +kernel
theorem dX8_readSum_164 : decode cX8_readSum 164 = .ok (.aload_n 0, 1) := by decide +kernel
theorem dX8_readSum_165 : decode cX8_readSum 165 = .ok (.invokevirtual 158, 3) := by decide +kernel
theorem dX8_readSum_168 : decode cX8_readSum 168 = .ok (.istore_n 2, 1) := by decide +kernel
theorem dX8_readSum_169 : decode cX8_readSum 169 = .ok (.iinc 3 1, 3) := by decide +kernel
theorem dX8_readSum_172 : decode cX8_readSum 172 = .ok (.goto (-163), 3) := by decide +kernel
theorem dX8_readSum_175 : decode cX8_readSum 175 = .ok (.iload_n 2, 1) := by decide +kernel
theorem dX8_readSum_176 : decode cX8_readSum 176 = .ok (.ireturn, 1) := by decide +kernel
theorem wp_X8_readSum_0 {d : Nat} {s : ev_S} {Q : Option ev_V → ev_S → Prop}
    (h : (Ev layX M_X8_readUnit d 0 [(0, ev_r 137)] [] s (ev_pi (fun r2 s1 => Ev layX M_X8_readSum (d + 1) 9 [(0, ev_r 137), (1, ev_i (-1)), (2, ev_i r2), (3, ev_i 0)] [] s1 Q)))) :
    Ev layX M_X8_readSum (d + 1) 0 [(0, ev_r 137)] [] s Q := by
  refine Ev_iconst dX8_readSum_0 rfl (ev_Rc rfl) ?_
  refine Ev_istore_n (l' := [(1, ev_i (-1)), (0, ev_r 137)]) dX8_readSum_1 rfl (Nat.le_of_ble_eq_true rfl) rfl ?_
  refine Ev_aload_n 1 dX8_readSum_2 rfl rfl ?_
  refine Ev_callV (As := []) (b := 137) (st := []) (M' := M_X8_readUnit) cm_X8_readUnit wd_1013 wd_1015 wd_26 yX_137 cl_X8 rfl dX8_readSum_3 (Nat.le_refl _) rfl (Nat.le_of_ble_eq_true rfl) (Nat.le_of_ble_eq_true rfl) h (fun v u h hk => ?_)
  obtain ⟨r2, rfl⟩ := hk
  obtain ⟨s1, rfl⟩ : ∃ x, x = u := ⟨_, rfl⟩
  replace h := h r2 rfl
  refine Ev_istore_n (l' := [(2, ev_i r2), (1, ev_i (-1)), (0, ev_r 137)]) dX8_readSum_6 rfl (Nat.le_of_ble_eq_true rfl) rfl ?_
  refine Ev_iconst dX8_readSum_7 rfl (ev_Rc rfl) ?_
  refine Ev_istore_n (l' := [(3, ev_i 0), (2, ev_i r2), (1, ev_i (-1)), (0, ev_r 137)]) dX8_readSum_8 rfl (Nat.le_of_ble_eq_true rfl) rfl ?_
  exact Ev_sub [3, 2, 1, 0] rfl h
theorem wp_X8_readSum_9 {d : Nat} {s : ev_S} {Q : Option ev_V → ev_S → Prop} {a1 a2 a3 : Int}
    (h : ((400 ≤ a3 → ((a2 = 0 ∨ a2 = 1) ∧ Q (some (ev_i a2)) s)) ∧ (a3 < 400 → ((a2 = 0 → ((a2 = 0 ∨ a2 = 1) ∧ Q (some (ev_i a2)) s)) ∧ (a2 ≠ 0 → (Ev layX M_X8_passes d 0 [(0, ev_r 137), (1, ev_i 142)] [] s (ev_pi (fun r2 s1 => ((r2 = 0 → (Ev layX M_X8_passes d 0 [(0, ev_r 137), (1, ev_i 147)] [] s1 (ev_pi (fun r4 s3 => ((r4 = 0 → ((a1 = (-1) → Ev layX M_X8_readSum (d + 1) 120 [(0, ev_r 137), (3, ev_i a3)] [] s3 Q) ∧ (a1 ≠ (-1) → (Ev layX M_X4_emit d 0 [(0, ev_r 139), (1, ev_i a1)] [] s3 (fun _ s5 => Ev layX M_X8_readSum (d + 1) 120 [(0, ev_r 137), (3, ev_i a3)] [] s5 Q))))) ∧ (r4 ≠ 0 → (Ev layX M_X4_emit d 0 [(0, ev_r 139), (1, ev_i 9)] [] s3 (fun _ s6 => (Ev layX M_X8_number d 0 [(0, ev_r 137)] [] s6 (ev_pi (fun r8 s7 => (Ev layX M_X4_emit d 0 [(0, ev_r 139), (1, ev_i r8)] [] s7 (fun _ s9 => (Ev layX M_X8_takeNumber d 0 [(0, ev_r 137), (1, ev_i 1), (2, ev_i 9999)] [] s9 (ev_pi (fun r11 s10 => ((r11 = (-1) → Ev layX M_X8_readSum (d + 1) 94 [(0, ev_r 137), (1, ev_i a1), (3, ev_i a3)] [ev_i 0] s10 Q) ∧ (r11 ≠ (-1) → Ev layX M_X8_readSum (d + 1) 94 [(0, ev_r 137), (1, ev_i a1), (3, ev_i a3)] [ev_i 1] s10 Q)))))))))))))))))) ∧ (r2 ≠ 0 → (Ev layX M_X8_readUnit d 0 [(0, ev_r 137)] [] s1 (ev_pi (fun r13 s12 => (Ev layX M_X4_emit d 0 [(0, ev_r 139), (1, ev_i 12)] [] s12 (fun _ s14 => Ev layX M_X8_readSum (d + 1) 9 [(0, ev_r 137), (1, ev_i a1), (2, ev_i r13), (3, ev_i (ev_add a3 1))] [] s14 Q))))))))))))))) :
    Ev layX M_X8_readSum (d + 1) 9 [(0, ev_r 137), (1, ev_i a1), (2, ev_i a2), (3, ev_i a3)] [] s Q := by
  refine Ev_iload_n 3 dX8_readSum_9 rfl rfl ?_
  refine Ev_sipushC dX8_readSum_10 rfl ?_
  refine Ev_icmp_ge (tgt := 175) dX8_readSum_13 rfl (fun c => ?_) (fun c => ?_)
  · replace h := h.1 c
    refine Ev_iload_n 2 dX8_readSum_175 rfl rfl ?_
    exact Ev_iret rfl dX8_readSum_176 (ev_nb h.1) h.2
  · replace h := h.2 c
    refine Ev_iload_n 2 dX8_readSum_16 rfl rfl ?_
    refine Ev_if_eq (tgt := 175) dX8_readSum_17 rfl (fun c => ?_) (fun c => ?_)
    · replace h := h.1 c
      refine Ev_iload_n 2 dX8_readSum_175 rfl rfl ?_
      exact Ev_iret rfl dX8_readSum_176 (ev_nb h.1) h.2
    · replace h := h.2 c
      refine Ev_aload_n 0 dX8_readSum_20 rfl rfl ?_
      refine Ev_sipushC dX8_readSum_21 rfl ?_
      refine Ev_callV (As := [ev_i 142]) (b := 137) (st := []) (M' := M_X8_passes) cm_X8_passes wd_976 wd_978 wd_18 yX_137 cl_X8 rfl dX8_readSum_24 (Nat.le_refl _) rfl (Nat.le_of_ble_eq_true rfl) (Nat.le_of_ble_eq_true rfl) h (fun v u h hk => ?_)
      obtain ⟨r2, rfl⟩ := hk
      obtain ⟨s1, rfl⟩ : ∃ x, x = u := ⟨_, rfl⟩
      replace h := h r2 rfl
      refine Ev_if_eq (tgt := 47) dX8_readSum_27 rfl (fun c => ?_) (fun c => ?_)
      · replace h := h.1 c
        refine Ev_aload_n 0 dX8_readSum_47 rfl rfl ?_
        refine Ev_sipushC dX8_readSum_48 rfl ?_
        refine Ev_callV (As := [ev_i 147]) (b := 137) (st := []) (M' := M_X8_passes) cm_X8_passes wd_976 wd_978 wd_18 yX_137 cl_X8 rfl dX8_readSum_51 (Nat.le_refl _) rfl (Nat.le_of_ble_eq_true rfl) (Nat.le_of_ble_eq_true rfl) h (fun v u h hk => ?_)
        obtain ⟨r4, rfl⟩ := hk
        obtain ⟨s3, rfl⟩ : ∃ x, x = u := ⟨_, rfl⟩
        replace h := h r4 rfl
        refine Ev_if_eq (tgt := 107) dX8_readSum_54 rfl (fun c => ?_) (fun c => ?_)
        · replace h := h.1 c
          refine Ev_iload_n 1 dX8_readSum_107 rfl rfl ?_
          refine Ev_iconst dX8_readSum_108 rfl (ev_Rc rfl) ?_
          refine Ev_icmp_eq (tgt := 120) dX8_readSum_109 rfl (fun c => ?_) (fun c => ?_)
          · replace h := h.1 c
            exact Ev_sub [0, 3] rfl h
          · replace h := h.2 c
            refine Ev_aload_n 0 dX8_readSum_112 rfl rfl ?_
            refine Ev_getR (i := 5) cl_X8 yX_137 (Nat.le_of_ble_eq_true rfl) rfl wd_517 dX8_readSum_113 ?_
            refine Ev_iload_n 1 dX8_readSum_116 rfl rfl ?_
            refine Ev_callV (As := [ev_i a1]) (b := 139) (st := []) (M' := M_X4_emit) cm_X4_emit wd_1005 wd_1006 wd_1007 yX_139 cl_X4 rfl dX8_readSum_117 (Nat.le_refl _) rfl (Nat.le_of_ble_eq_true rfl) (Nat.le_of_ble_eq_true rfl) h (fun v u h hk => ?_)
            cases hk
            obtain ⟨s5, rfl⟩ : ∃ x, x = u := ⟨_, rfl⟩
            exact Ev_sub [0, 3] rfl h
        · replace h := h.2 c
          refine Ev_aload_n 0 dX8_readSum_57 rfl rfl ?_
          refine Ev_getR (i := 5) cl_X8 yX_137 (Nat.le_of_ble_eq_true rfl) rfl wd_517 dX8_readSum_58 ?_
          refine Ev_bipushC dX8_readSum_61 rfl ?_
          refine Ev_callV (As := [ev_i 9]) (b := 139) (st := []) (M' := M_X4_emit) cm_X4_emit wd_1005 wd_1006 wd_1007 yX_139 cl_X4 rfl dX8_readSum_63 (Nat.le_refl _) rfl (Nat.le_of_ble_eq_true rfl) (Nat.le_of_ble_eq_true rfl) h (fun v u h hk => ?_)
          cases hk
          obtain ⟨s6, rfl⟩ : ∃ x, x = u := ⟨_, rfl⟩
          refine Ev_aload_n 0 dX8_readSum_66 rfl rfl ?_
          refine Ev_getR (i := 5) cl_X8 yX_137 (Nat.le_of_ble_eq_true rfl) rfl wd_517 dX8_readSum_67 ?_
          refine Ev_aload_n 0 dX8_readSum_70 rfl rfl ?_
          refine Ev_callV (As := []) (b := 137) (st := [ev_r 139]) (M' := M_X8_number) cm_X8_number wd_943 wd_945 wd_10 yX_137 cl_X8 rfl dX8_readSum_71 (Nat.le_refl _) rfl (Nat.le_of_ble_eq_true rfl) (Nat.le_of_ble_eq_true rfl) h (fun v u h hk => ?_)
          obtain ⟨r8, rfl⟩ := hk
          obtain ⟨s7, rfl⟩ : ∃ x, x = u := ⟨_, rfl⟩
          replace h := h r8 rfl
          refine Ev_callV (As := [ev_i r8]) (b := 139) (st := []) (M' := M_X4_emit) cm_X4_emit wd_1005 wd_1006 wd_1007 yX_139 cl_X4 rfl dX8_readSum_74 (Nat.le_refl _) rfl (Nat.le_of_ble_eq_true rfl) (Nat.le_of_ble_eq_true rfl) h (fun v u h hk => ?_)
          cases hk
          obtain ⟨s9, rfl⟩ : ∃ x, x = u := ⟨_, rfl⟩
          refine Ev_aload_n 0 dX8_readSum_77 rfl rfl ?_
          refine Ev_iconst dX8_readSum_78 rfl (ev_Rc rfl) ?_
          refine Ev_sipushC dX8_readSum_79 rfl ?_
          refine Ev_callV (As := [ev_i 1, ev_i 9999]) (b := 137) (st := []) (M' := M_X8_takeNumber) cm_X8_takeNumber wd_939 wd_941 wd_9 yX_137 cl_X8 rfl dX8_readSum_82 (Nat.le_refl _) rfl (Nat.le_of_ble_eq_true rfl) (Nat.le_of_ble_eq_true rfl) h (fun v u h hk => ?_)
          obtain ⟨r11, rfl⟩ := hk
          obtain ⟨s10, rfl⟩ : ∃ x, x = u := ⟨_, rfl⟩
          replace h := h r11 rfl
          refine Ev_iconst dX8_readSum_85 rfl (ev_Rc rfl) ?_
          refine Ev_icmp_eq (tgt := 93) dX8_readSum_86 rfl (fun c => ?_) (fun c => ?_)
          · replace h := h.1 c
            refine Ev_iconst dX8_readSum_93 rfl (ev_Rc rfl) ?_
            exact Ev_sub [0, 1, 3] rfl h
          · replace h := h.2 c
            refine Ev_iconst dX8_readSum_89 rfl (ev_Rc rfl) ?_
            refine Ev_goto (tgt := 94) dX8_readSum_90 rfl ?_
            exact Ev_sub [0, 1, 3] rfl h
      · replace h := h.2 c
        refine Ev_aload_n 0 dX8_readSum_30 rfl rfl ?_
        refine Ev_callV (As := []) (b := 137) (st := []) (M' := M_X8_readUnit) cm_X8_readUnit wd_1013 wd_1015 wd_26 yX_137 cl_X8 rfl dX8_readSum_31 (Nat.le_refl _) rfl (Nat.le_of_ble_eq_true rfl) (Nat.le_of_ble_eq_true rfl) h (fun v u h hk => ?_)
        obtain ⟨r13, rfl⟩ := hk
        obtain ⟨s12, rfl⟩ : ∃ x, x = u := ⟨_, rfl⟩
        replace h := h r13 rfl
        refine Ev_istore_n (l' := [(2, ev_i r13), (0, ev_r 137), (1, ev_i a1), (3, ev_i a3)]) dX8_readSum_34 rfl (Nat.le_of_ble_eq_true rfl) rfl ?_
        refine Ev_aload_n 1 dX8_readSum_35 rfl rfl ?_
        refine Ev_getR (i := 5) cl_X8 yX_137 (Nat.le_of_ble_eq_true rfl) rfl wd_517 dX8_readSum_36 ?_
        refine Ev_bipushC dX8_readSum_39 rfl ?_
        refine Ev_callV (As := [ev_i 12]) (b := 139) (st := []) (M' := M_X4_emit) cm_X4_emit wd_1005 wd_1006 wd_1007 yX_139 cl_X4 rfl dX8_readSum_41 (Nat.le_refl _) rfl (Nat.le_of_ble_eq_true rfl) (Nat.le_of_ble_eq_true rfl) h (fun v u h hk => ?_)
        cases hk
        obtain ⟨s14, rfl⟩ : ∃ x, x = u := ⟨_, rfl⟩
        refine Ev_goto (tgt := 169) dX8_readSum_44 rfl ?_
        refine Ev_iinc (j := 3) (l' := [(3, ev_i (ev_add a3 1)), (2, ev_i r13), (0, ev_r 137), (1, ev_i a1)]) dX8_readSum_169 rfl (Nat.le_of_ble_eq_true rfl) rfl ?_
        refine Ev_goto (tgt := 9) dX8_readSum_172 rfl ?_
        exact Ev_sub [2, 3, 1, 0] rfl h
theorem wp_X8_readSum_94 {d : Nat} {s : ev_S} {Q : Option ev_V → ev_S → Prop} {a1 a3 t0 : Int}
    (h : (Ev layX M_X4_emit d 0 [(0, ev_r 139), (1, ev_i 13)] [] s (fun _ s1 => Ev layX M_X8_readSum (d + 1) 9 [(0, ev_r 137), (1, ev_i a1), (2, ev_i t0), (3, ev_i (ev_add a3 1))] [] s1 Q))) :
    Ev layX M_X8_readSum (d + 1) 94 [(0, ev_r 137), (1, ev_i a1), (3, ev_i a3)] [ev_i t0] s Q := by
  refine Ev_istore_n (l' := [(2, ev_i t0), (0, ev_r 137), (1, ev_i a1), (3, ev_i a3)]) dX8_readSum_94 rfl (Nat.le_of_ble_eq_true rfl) rfl ?_
  refine Ev_aload_n 1 dX8_readSum_95 rfl rfl ?_
  refine Ev_getR (i := 5) cl_X8 yX_137 (Nat.le_of_ble_eq_true rfl) rfl wd_517 dX8_readSum_96 ?_
  refine Ev_bipushC dX8_readSum_99 rfl ?_
  refine Ev_callV (As := [ev_i 13]) (b := 139) (st := []) (M' := M_X4_emit) cm_X4_emit wd_1005 wd_1006 wd_1007 yX_139 cl_X4 rfl dX8_readSum_101 (Nat.le_refl _) rfl (Nat.le_of_ble_eq_true rfl) (Nat.le_of_ble_eq_true rfl) h (fun v u h hk => ?_)
  cases hk
  obtain ⟨s1, rfl⟩ : ∃ x, x = u := ⟨_, rfl⟩
  refine Ev_goto (tgt := 169) dX8_readSum_104 rfl ?_
  refine Ev_iinc (j := 3) (l' := [(3, ev_i (ev_add a3 1)), (2, ev_i t0), (0, ev_r 137), (1, ev_i a1)]) dX8_readSum_169 rfl (Nat.le_of_ble_eq_true rfl) rfl ?_
  refine Ev_goto (tgt := 9) dX8_readSum_172 rfl ?_
  exact Ev_sub [2, 3, 1, 0] rfl h
theorem wp_X8_readSum_120 {d : Nat} {s : ev_S} {Q : Option ev_V → ev_S → Prop} {a3 : Int}
    (h : (((s 137 7) = 143 → (((s 137 7) ≠ 143 → Ev layX M_X8_readSum (d + 1) 159 [(0, ev_r 137), (3, ev_i a3)] [ev_i 11] s Q) ∧ ((s 137 7) = 143 → Ev layX M_X8_readSum (d + 1) 159 [(0, ev_r 137), (3, ev_i a3)] [ev_i 10] s Q))) ∧ ((s 137 7) ≠ 143 → (((s 137 7) = 145 → (((s 137 7) ≠ 143 → Ev layX M_X8_readSum (d + 1) 159 [(0, ev_r 137), (3, ev_i a3)] [ev_i 11] s Q) ∧ ((s 137 7) = 143 → Ev layX M_X8_readSum (d + 1) 159 [(0, ev_r 137), (3, ev_i a3)] [ev_i 10] s Q))) ∧ ((s 137 7) ≠ 145 → Q (some (ev_i 1)) s))))) :
    Ev layX M_X8_readSum (d + 1) 120 [(0, ev_r 137), (3, ev_i a3)] [] s Q := by
  refine Ev_aload_n 0 dX8_readSum_120 rfl rfl ?_
  refine Ev_get (i := 7) cl_X8 yX_137 (Nat.le_of_ble_eq_true rfl) rfl wd_520 dX8_readSum_121 ?_
  refine Ev_sipushC dX8_readSum_124 rfl ?_
  refine Ev_icmp_eq (tgt := 142) dX8_readSum_127 rfl (fun c => ?_) (fun c => ?_)
  · replace h := h.1 c
    refine Ev_aload_n 0 dX8_readSum_142 rfl rfl ?_
    refine Ev_get (i := 7) cl_X8 yX_137 (Nat.le_of_ble_eq_true rfl) rfl wd_520 dX8_readSum_143 ?_
    refine Ev_sipushC dX8_readSum_146 rfl ?_
    refine Ev_icmp_ne (tgt := 157) dX8_readSum_149 rfl (fun c => ?_) (fun c => ?_)
    · replace h := h.1 c
      refine Ev_bipushC dX8_readSum_157 rfl ?_
      exact Ev_sub [0, 1] rfl h
    · replace h := h.2 c
      refine Ev_bipushC dX8_readSum_152 rfl ?_
      refine Ev_goto (tgt := 159) dX8_readSum_154 rfl ?_
      exact Ev_sub [0, 1] rfl h
  · replace h := h.2 c
    refine Ev_aload_n 0 dX8_readSum_130 rfl rfl ?_
    refine Ev_get (i := 7) cl_X8 yX_137 (Nat.le_of_ble_eq_true rfl) rfl wd_520 dX8_readSum_131 ?_
    refine Ev_sipushC dX8_readSum_134 rfl ?_
    refine Ev_icmp_eq (tgt := 142) dX8_readSum_137 rfl (fun c => ?_) (fun c => ?_)
    · replace h := h.1 c
      refine Ev_aload_n 0 dX8_readSum_142 rfl rfl ?_
      refine Ev_get (i := 7) cl_X8 yX_137 (Nat.le_of_ble_eq_true rfl) rfl wd_520 dX8_readSum_143 ?_
      refine Ev_sipushC dX8_readSum_146 rfl ?_
      refine Ev_icmp_ne (tgt := 157) dX8_readSum_149 rfl (fun c => ?_) (fun c => ?_)
      · replace h := h.1 c
        refine Ev_bipushC dX8_readSum_157 rfl ?_
        exact Ev_sub [0, 1] rfl h
      · replace h := h.2 c
        refine Ev_bipushC dX8_readSum_152 rfl ?_
        refine Ev_goto (tgt := 159) dX8_readSum_154 rfl ?_
        exact Ev_sub [0, 1] rfl h
    · replace h := h.2 c
      refine Ev_iconst dX8_readSum_140 rfl (ev_Rc rfl) ?_
      exact Ev_iret rfl dX8_readSum_141 (ev_nb (by decide)) h
theorem wp_X8_readSum_159 {d : Nat} {s : ev_S} {Q : Option ev_V → ev_S → Prop} {a3 t0 : Int}
    (h : (Ev layX M_X8_advance d 0 [(0, ev_r 137)] [] s (fun _ s1 => (Ev layX M_X8_readUnit d 0 [(0, ev_r 137)] [] s1 (ev_pi (fun r3 s2 => Ev layX M_X8_readSum (d + 1) 9 [(0, ev_r 137), (1, ev_i t0), (2, ev_i r3), (3, ev_i (ev_add a3 1))] [] s2 Q)))))) :
    Ev layX M_X8_readSum (d + 1) 159 [(0, ev_r 137), (3, ev_i a3)] [ev_i t0] s Q := by
  refine Ev_istore_n (l' := [(1, ev_i t0), (0, ev_r 137), (3, ev_i a3)]) dX8_readSum_159 rfl (Nat.le_of_ble_eq_true rfl) rfl ?_
  refine Ev_aload_n 1 dX8_readSum_160 rfl rfl ?_
  refine Ev_callV (As := []) (b := 137) (st := []) (M' := M_X8_advance) cm_X8_advance wd_923 wd_925 wd_5 yX_137 cl_X8 rfl dX8_readSum_161 (Nat.le_refl _) rfl (Nat.le_of_ble_eq_true rfl) (Nat.le_of_ble_eq_true rfl) h (fun v u h hk => ?_)
  cases hk
  obtain ⟨s1, rfl⟩ : ∃ x, x = u := ⟨_, rfl⟩
  refine Ev_aload_n 1 dX8_readSum_164 rfl rfl ?_
  refine Ev_callV (As := []) (b := 137) (st := []) (M' := M_X8_readUnit) cm_X8_readUnit wd_1013 wd_1015 wd_26 yX_137 cl_X8 rfl dX8_readSum_165 (Nat.le_refl _) rfl (Nat.le_of_ble_eq_true rfl) (Nat.le_of_ble_eq_true rfl) h (fun v u h hk => ?_)
  obtain ⟨r3, rfl⟩ := hk
  obtain ⟨s2, rfl⟩ : ∃ x, x = u := ⟨_, rfl⟩
  replace h := h r3 rfl
  refine Ev_istore_n (l' := [(2, ev_i r3), (1, ev_i t0), (0, ev_r 137), (3, ev_i a3)]) dX8_readSum_168 rfl (Nat.le_of_ble_eq_true rfl) rfl ?_
  refine Ev_iinc (j := 3) (l' := [(3, ev_i (ev_add a3 1)), (2, ev_i r3), (1, ev_i t0), (0, ev_r 137)]) dX8_readSum_169 rfl (Nat.le_of_ble_eq_true rfl) rfl ?_
  refine Ev_goto (tgt := 9) dX8_readSum_172 rfl ?_
  exact Ev_sub [3, 2, 1, 0] rfl h
theorem dX8_readUnit_0 : decode cX8_readUnit 0 = .ok (.aload_n 0, 1) := by decide +kernel
theorem dX8_readUnit_1 : decode cX8_readUnit 1 = .ok (.getfield 83, 3) := by decide +kernel
theorem dX8_readUnit_4 : decode cX8_readUnit 4 = .ok (.bipush 50, 2) := by decide +kernel
theorem dX8_readUnit_6 : decode cX8_readUnit 6 = .ok (.if_icmp .ne 26, 3) := by decide +kernel
theorem dX8_readUnit_9 : decode cX8_readUnit 9 = .ok (.aload_n 0, 1) := by decide +kernel
theorem dX8_readUnit_10 : decode cX8_readUnit 10 = .ok (.getfield 18, 3) := by decide +kernel
theorem dX8_readUnit_13 : decode cX8_readUnit 13 = .ok (.bipush 9, 2) := by decide +kernel
theorem dX8_readUnit_15 : decode cX8_readUnit 15 = .ok (.invokevirtual 148, 3) := by decide +kernel
theorem dX8_readUnit_18 : decode cX8_readUnit 18 = .ok (.aload_n 0, 1) := by decide +kernel
theorem dX8_readUnit_19 : decode cX8_readUnit 19 = .ok (.getfield 18, 3) := by decide +kernel
theorem dX8_readUnit_22 : decode cX8_readUnit 22 = .ok (.aload_n 0, 1) := by decide +kernel
theorem dX8_readUnit_23 : decode cX8_readUnit 23 = .ok (.invokevirtual 95, 3) := by decide +kernel
theorem dX8_readUnit_26 : decode cX8_readUnit 26 = .ok (.invokevirtual 148, 3) := by decide +kernel
theorem dX8_readUnit_29 : decode cX8_readUnit 29 = .ok (.goto 44, 3) := by decide +kernel
theorem dX8_readUnit_32 : decode cX8_readUnit 32 = .ok (.aload_n 0, 1) := by decide +kernel
theorem dX8_readUnit_33 : decode cX8_readUnit 33 = .ok (.getfield 83, 3) := by decide +kernel
theorem dX8_readUnit_36 : decode cX8_readUnit 36 = .ok (.bipush 26, 2) := by decide +kernel
theorem dX8_readUnit_38 : decode cX8_readUnit 38 = .ok (.if_icmp .lt 29, 3) := by decide +kernel
theorem dX8_readUnit_41 : decode cX8_readUnit 41 = .ok (.aload_n 0, 1) := by decide +kernel
theorem dX8_readUnit_42 : decode cX8_readUnit 42 = .ok (.getfield 83, 3) := by decide +kernel
theorem dX8_readUnit_45 : decode cX8_readUnit 45 = .ok (.bipush 34, 2) := by decide +kernel
theorem dX8_readUnit_47 : decode cX8_readUnit 47 = .ok (.if_icmp .gt 20, 3) := by decide +kernel
theorem dX8_readUnit_50 : decode cX8_readUnit 50 = .ok (.aload_n 0, 1) := by decide +kernel
theorem dX8_readUnit_51 : decode cX8_readUnit 51 = .ok (.getfield 18, 3) := by decide +kernel
theorem dX8_readUnit_54 : decode cX8_readUnit 54 = .ok (.aload_n 0, 1) := by decide +kernel
theorem dX8_readUnit_55 : decode cX8_readUnit 55 = .ok (.getfield 83, 3) := by decide +kernel
theorem dX8_readUnit_58 : decode cX8_readUnit 58 = .ok (.bipush 26, 2) := by decide +kernel
theorem dX8_readUnit_60 : decode cX8_readUnit 60 = .ok (.isub, 1) := by decide +kernel
theorem dX8_readUnit_61 : decode cX8_readUnit 61 = .ok (.invokevirtual 148, 3) := by decide +kernel
theorem dX8_readUnit_64 : decode cX8_readUnit 64 = .ok (.goto 9, 3) := by decide +kernel
theorem dX8_readUnit_67 : decode cX8_readUnit 67 = .ok (.aload_n 0, 1) := by decide +kernel
theorem dX8_readUnit_68 : decode cX8_readUnit 68 = .ok (.iconst 1, 1) := by decide +kernel
theorem dX8_readUnit_69 : decode cX8_readUnit 69 = .ok (.invokevirtual 89, 3) := by decide +kernel
theorem dX8_readUnit_72 : decode cX8_readUnit 72 = .ok (.ireturn, 1) := by decide +kernel
theorem dX8_readUnit_73 : decode cX8_readUnit 73 = .ok (.aload_n 0, 1) := by decide +kernel
theorem dX8_readUnit_74 : decode cX8_readUnit 74 = .ok (.invokevirtual 51, 3) := by decide +kernel
theorem dX8_readUnit_77 : decode cX8_readUnit 77 = .ok (.iconst 1, 1) := by decide +kernel
theorem dX8_readUnit_78 : decode cX8_readUnit 78 = .ok (.ireturn, 1) := by decide +kernel
theorem wp_X8_readUnit_0 {d : Nat} {s : ev_S} {Q : Option ev_V → ev_S → Prop}
    (h : (((s 137 7) ≠ 50 → (((s 137 7) < 26 → (Ev layX M_X8_faulty d 0 [(0, ev_r 137), (1, ev_i 1)] [] s (ev_pi (fun r2 s1 => ((r2 = 0 ∨ r2 = 1) ∧ Q (some (ev_i r2)) s1))))) ∧ (26 ≤ (s 137 7) → ((34 < (s 137 7) → (Ev layX M_X8_faulty d 0 [(0, ev_r 137), (1, ev_i 1)] [] s (ev_pi (fun r4 s3 => ((r4 = 0 ∨ r4 = 1) ∧ Q (some (ev_i r4)) s3))))) ∧ ((s 137 7) ≤ 34 → (Ev layX M_X4_emit d 0 [(0, ev_r 139), (1, ev_i (ev_sub (s 137 7) 26))] [] s (fun _ s5 => (Ev layX M_X8_advance d 0 [(0, ev_r 137)] [] s5 (fun _ s6 => Q (some (ev_i 1)) s6))))))))) ∧ ((s 137 7) = 50 → (Ev layX M_X4_emit d 0 [(0, ev_r 139), (1, ev_i 9)] [] s (fun _ s7 => (Ev layX M_X8_number d 0 [(0, ev_r 137)] [] s7 (ev_pi (fun r9 s8 => (Ev layX M_X4_emit d 0 [(0, ev_r 139), (1, ev_i r9)] [] s8 (fun _ s10 => (Ev layX M_X8_advance d 0 [(0, ev_r 137)] [] s10 (fun _ s11 => Q (some (ev_i 1)) s11)))))))))))) :
    Ev layX M_X8_readUnit (d + 1) 0 [(0, ev_r 137)] [] s Q := by
  refine Ev_aload_n 0 dX8_readUnit_0 rfl rfl ?_
  refine Ev_get (i := 7) cl_X8 yX_137 (Nat.le_of_ble_eq_true rfl) rfl wd_520 dX8_readUnit_1 ?_
  refine Ev_bipushC dX8_readUnit_4 rfl ?_
  refine Ev_icmp_ne (tgt := 32) dX8_readUnit_6 rfl (fun c => ?_) (fun c => ?_)
  · replace h := h.1 c
    refine Ev_aload_n 0 dX8_readUnit_32 rfl rfl ?_
    refine Ev_get (i := 7) cl_X8 yX_137 (Nat.le_of_ble_eq_true rfl) rfl wd_520 dX8_readUnit_33 ?_
    refine Ev_bipushC dX8_readUnit_36 rfl ?_
    refine Ev_icmp_lt (tgt := 67) dX8_readUnit_38 rfl (fun c => ?_) (fun c => ?_)
    · replace h := h.1 c
      refine Ev_aload_n 0 dX8_readUnit_67 rfl rfl ?_
      refine Ev_iconst dX8_readUnit_68 rfl (ev_Rc rfl) ?_
      refine Ev_callV (As := [ev_i 1]) (b := 137) (st := []) (M' := M_X8_faulty) cm_X8_faulty wd_935 wd_937 wd_8 yX_137 cl_X8 rfl dX8_readUnit_69 (Nat.le_refl _) rfl (Nat.le_of_ble_eq_true rfl) (Nat.le_of_ble_eq_true rfl) h (fun v u h hk => ?_)
      obtain ⟨r2, rfl⟩ := hk
      obtain ⟨s1, rfl⟩ : ∃ x, x = u := ⟨_, rfl⟩
      replace h := h r2 rfl
      exact Ev_iret rfl dX8_readUnit_72 (ev_nb h.1) h.2
    · replace h := h.2 c
      refine Ev_aload_n 0 dX8_readUnit_41 rfl rfl ?_
      refine Ev_get (i := 7) cl_X8 yX_137 (Nat.le_of_ble_eq_true rfl) rfl wd_520 dX8_readUnit_42 ?_
      refine Ev_bipushC dX8_readUnit_45 rfl ?_
      refine Ev_icmp_gt (tgt := 67) dX8_readUnit_47 rfl (fun c => ?_) (fun c => ?_)
      · replace h := h.1 c
        refine Ev_aload_n 0 dX8_readUnit_67 rfl rfl ?_
        refine Ev_iconst dX8_readUnit_68 rfl (ev_Rc rfl) ?_
        refine Ev_callV (As := [ev_i 1]) (b := 137) (st := []) (M' := M_X8_faulty) cm_X8_faulty wd_935 wd_937 wd_8 yX_137 cl_X8 rfl dX8_readUnit_69 (Nat.le_refl _) rfl (Nat.le_of_ble_eq_true rfl) (Nat.le_of_ble_eq_true rfl) h (fun v u h hk => ?_)
        obtain ⟨r4, rfl⟩ := hk
        obtain ⟨s3, rfl⟩ : ∃ x, x = u := ⟨_, rfl⟩
        replace h := h r4 rfl
        exact Ev_iret rfl dX8_readUnit_72 (ev_nb h.1) h.2
      · replace h := h.2 c
        refine Ev_aload_n 0 dX8_readUnit_50 rfl rfl ?_
        refine Ev_getR (i := 5) cl_X8 yX_137 (Nat.le_of_ble_eq_true rfl) rfl wd_517 dX8_readUnit_51 ?_
        refine Ev_aload_n 0 dX8_readUnit_54 rfl rfl ?_
        refine Ev_get (i := 7) cl_X8 yX_137 (Nat.le_of_ble_eq_true rfl) rfl wd_520 dX8_readUnit_55 ?_
        refine Ev_bipushC dX8_readUnit_58 rfl ?_
        refine Ev_isub dX8_readUnit_60 ?_
        refine Ev_callV (As := [ev_i (ev_sub (s 137 7) 26)]) (b := 139) (st := []) (M' := M_X4_emit) cm_X4_emit wd_1005 wd_1006 wd_1007 yX_139 cl_X4 rfl dX8_readUnit_61 (Nat.le_refl _) rfl (Nat.le_of_ble_eq_true rfl) (Nat.le_of_ble_eq_true rfl) h (fun v u h hk => ?_)
        cases hk
        obtain ⟨s5, rfl⟩ : ∃ x, x = u := ⟨_, rfl⟩
        refine Ev_goto (tgt := 73) dX8_readUnit_64 rfl ?_
        refine Ev_aload_n 0 dX8_readUnit_73 rfl rfl ?_
        refine Ev_callV (As := []) (b := 137) (st := []) (M' := M_X8_advance) cm_X8_advance wd_923 wd_925 wd_5 yX_137 cl_X8 rfl dX8_readUnit_74 (Nat.le_refl _) rfl (Nat.le_of_ble_eq_true rfl) (Nat.le_of_ble_eq_true rfl) h (fun v u h hk => ?_)
        cases hk
        obtain ⟨s6, rfl⟩ : ∃ x, x = u := ⟨_, rfl⟩
        refine Ev_iconst dX8_readUnit_77 rfl (ev_Rc rfl) ?_
        exact Ev_iret rfl dX8_readUnit_78 (ev_nb (by decide)) h
  · replace h := h.2 c
    refine Ev_aload_n 0 dX8_readUnit_9 rfl rfl ?_
    refine Ev_getR (i := 5) cl_X8 yX_137 (Nat.le_of_ble_eq_true rfl) rfl wd_517 dX8_readUnit_10 ?_
    refine Ev_bipushC dX8_readUnit_13 rfl ?_
    refine Ev_callV (As := [ev_i 9]) (b := 139) (st := []) (M' := M_X4_emit) cm_X4_emit wd_1005 wd_1006 wd_1007 yX_139 cl_X4 rfl dX8_readUnit_15 (Nat.le_refl _) rfl (Nat.le_of_ble_eq_true rfl) (Nat.le_of_ble_eq_true rfl) h (fun v u h hk => ?_)
    cases hk
    obtain ⟨s7, rfl⟩ : ∃ x, x = u := ⟨_, rfl⟩
    refine Ev_aload_n 0 dX8_readUnit_18 rfl rfl ?_
    refine Ev_getR (i := 5) cl_X8 yX_137 (Nat.le_of_ble_eq_true rfl) rfl wd_517 dX8_readUnit_19 ?_
    refine Ev_aload_n 0 dX8_readUnit_22 rfl rfl ?_
    refine Ev_callV (As := []) (b := 137) (st := [ev_r 139]) (M' := M_X8_number) cm_X8_number wd_943 wd_945 wd_10 yX_137 cl_X8 rfl dX8_readUnit_23 (Nat.le_refl _) rfl (Nat.le_of_ble_eq_true rfl) (Nat.le_of_ble_eq_true rfl) h (fun v u h hk => ?_)
    obtain ⟨r9, rfl⟩ := hk
    obtain ⟨s8, rfl⟩ : ∃ x, x = u := ⟨_, rfl⟩
    replace h := h r9 rfl
    refine Ev_callV (As := [ev_i r9]) (b := 139) (st := []) (M' := M_X4_emit) cm_X4_emit wd_1005 wd_1006 wd_1007 yX_139 cl_X4 rfl dX8_readUnit_26 (Nat.le_refl _) rfl (Nat.le_of_ble_eq_true rfl) (Nat.le_of_ble_eq_true rfl) h (fun v u h hk => ?_)
    cases hk
    obtain ⟨s10, rfl⟩ : ∃ x, x = u := ⟨_, rfl⟩
    refine Ev_goto (tgt := 73) dX8_readUnit_29 rfl ?_
    refine Ev_aload_n 0 dX8_readUnit_73 rfl rfl ?_
    refine Ev_callV (As := []) (b := 137) (st := []) (M' := M_X8_advance) cm_X8_advance wd_923 wd_925 wd_5 yX_137 cl_X8 rfl dX8_readUnit_74 (Nat.le_refl _) rfl (Nat.le_of_ble_eq_true rfl) (Nat.le_of_ble_eq_true rfl) h (fun v u h hk => ?_)
    cases hk
    obtain ⟨s11, rfl⟩ : ∃ x, x = u := ⟨_, rfl⟩
    refine Ev_iconst dX8_readUnit_77 rfl (ev_Rc rfl) ?_
    exact Ev_iret rfl dX8_readUnit_78 (ev_nb (by decide)) h
