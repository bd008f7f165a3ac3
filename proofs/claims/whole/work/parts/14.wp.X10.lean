theorem dX10_clear_0 : decode cX10_clear 0 = .ok (.aload_n 0, 1) := by decide +kernel
theorem dX10_clear_1 : decode cX10_clear 1 = .ok (.iload_n 1, 1) := by decide +kernel
theorem dX10_clear_2 : decode cX10_clear 2 = .ok (.putfield 44, 3) := by decide +kernel
theorem dX10_clear_5 : decode cX10_clear 5 = .ok (.aload_n 0, 1) := by decide +kernel
theorem dX10_clear_6 : decode cX10_clear 6 = .ok (.iload_n 2, 1) := by decide +kernel
theorem dX10_clear_7 : decode cX10_clear 7 = .ok (.putfield 48, 3) := by decide +kernel
theorem dX10_clear_10 : decode cX10_clear 10 = .ok (.aload_n 0, 1) := by decide +kernel
theorem dX10_clear_11 : decode cX10_clear 11 = .ok (.iconst 3, 1) := by decide +kernel
theorem dX10_clear_12 : decode cX10_clear 12 = .ok (.putfield 51, 3) := by decide +kernel
theorem dX10_clear_15 : decode cX10_clear 15 = .ok (.aload_n 0, 1) := by decide +kernel
theorem dX10_clear_16 : decode cX10_clear 16 = .ok (.getfield 9, 3) := by decide +kernel
theorem dX10_clear_19 : decode cX10_clear 19 = .ok (.iconst 0, 1) := by decide +kernel
theorem dX10_clear_20 : decode cX10_clear 20 = .ok (.invokestatic 54, 3) := by decide +kernel
theorem dX10_clear_23 : decode cX10_clear 23 = .ok (.aload_n 0, 1) := by decide +kernel
theorem dX10_clear_24 : decode cX10_clear 24 = .ok (.iconst 0, 1) := by decide +kernel
theorem dX10_clear_25 : decode cX10_clear 25 = .ok (.putfield 60, 3) := by decide +kernel
theorem dX10_clear_28 : decode cX10_clear 28 = .ok (.aload_n 0, 1) := by decide +kernel
theorem dX10_clear_29 : decode cX10_clear 29 = .ok (.iconst 0, 1) := by decide +kernel
theorem dX10_clear_30 : decode cX10_clear 30 = .ok (.putfield 63, 3) := by decide +kernel
theorem dX10_clear_33 : decode cX10_clear 33 = .ok (.aload_n 0, 1) := by decide +kernel
theorem dX10_clear_34 : decode cX10_clear 34 = .ok (.iconst 0, 1) := by decide +kernel
theorem dX10_clear_35 : decode cX10_clear 35 = .ok (.putfield 66, 3) := by decide +kernel
theorem dX10_clear_38 : decode cX10_clear 38 = .ok (.aload_n 0, 1) := by decide +kernel
theorem dX10_clear_39 : decode cX10_clear 39 = .ok (.iconst 0, 1) := by decide +kernel
theorem dX10_clear_40 : decode cX10_clear 40 = .ok (.putfield 69, 3) := by decide +kernel
theorem dX10_clear_43 : decode cX10_clear 43 = .ok (.aload_n 0, 1) := by decide +kernel
theorem dX10_clear_44 : decode cX10_clear 44 = .ok (.getfield 40, 3) := by decide +kernel
theorem dX10_clear_47 : decode cX10_clear 47 = .ok (.invokevirtual 72, 3) := by decide +kernel
theorem dX10_clear_50 : decode cX10_clear 50 = .ok (.return_, 1) := by decide +kernel
theorem wp_X10_clear_0 {d : Nat} {k : Nat} (hk : is_X10 k) {s : ev_S} {Q : Option ev_V → ev_S → Prop} {a1 a2 : Int}
    (h : (∀ s1, ev_up s k 0 a1 = s1 → (∀ s2, ev_up s1 k 1 a2 = s2 → (∀ s3, ev_up s2 k 2 3 = s3 → (Ev layX M_J7_fill_53178 d 0 [(0, ev_r (k + 1)), (1, ev_i 0)] [] s3 (fun _ s4 => (∀ s5, ev_up s4 k 4 0 = s5 → (∀ s6, ev_up s5 k 7 0 = s6 → (∀ s7, ev_up s6 k 11 0 = s7 → (∀ s8, ev_up s7 k 13 0 = s8 → (Ev layX M_X4_clear d 0 [(0, ev_r (k + 9))] [] s8 (fun _ s9 => Q none s9)))))))))))) :
    Ev layX M_X10_clear (d + 1) 0 [(0, ev_r k), (1, ev_i a1), (2, ev_i a2)] [] s Q := by
  refine Ev_aload_n 0 dX10_clear_0 rfl rfl ?_
  refine Ev_iload_n 1 dX10_clear_1 rfl rfl ?_
  refine Ev_put (i := 0) (ty := .int) cl_X10 hk.1 (Nat.le_of_ble_eq_true rfl) rfl rfl (by decide +kernel) rfl rfl wd_240 dX10_clear_2 (Ev_nm (fun s1 es1 => ?_))
  replace h := h s1 es1
  refine Ev_aload_n 0 dX10_clear_5 rfl rfl ?_
  refine Ev_iload_n 2 dX10_clear_6 rfl rfl ?_
  refine Ev_put (i := 1) (ty := .int) cl_X10 hk.1 (Nat.le_of_ble_eq_true rfl) rfl rfl (by decide +kernel) rfl rfl wd_243 dX10_clear_7 (Ev_nm (fun s2 es2 => ?_))
  replace h := h s2 es2
  refine Ev_aload_n 0 dX10_clear_10 rfl rfl ?_
  refine Ev_iconst dX10_clear_11 rfl (ev_Rc rfl) ?_
  refine Ev_put (i := 2) (ty := .int) cl_X10 hk.1 (Nat.le_of_ble_eq_true rfl) rfl rfl (by decide +kernel) rfl rfl wd_246 dX10_clear_12 (Ev_nm (fun s3 es3 => ?_))
  replace h := h s3 es3
  refine Ev_aload_n 0 dX10_clear_15 rfl rfl ?_
  refine Ev_getR (i := 3) cl_X10 hk.1 (Nat.le_of_ble_eq_true rfl) rfl wd_250 dX10_clear_16 ?_
  refine Ev_iconst dX10_clear_19 rfl (ev_Rc rfl) ?_
  refine Ev_callS (As := [ev_r (k + 1), ev_i 0]) (st := []) (M' := M_J7_fill_53178) cm_J7_fill_53178 wd_684 wd_685 dX10_clear_20 (Nat.le_refl _) rfl (Nat.le_of_ble_eq_true rfl) (Nat.le_of_ble_eq_true rfl) h (fun v u h hk => ?_)
  cases hk
  obtain ⟨s4, rfl⟩ : ∃ x, x = u := ⟨_, rfl⟩
  refine Ev_aload_n 0 dX10_clear_23 rfl rfl ?_
  refine Ev_iconst dX10_clear_24 rfl (ev_Rc rfl) ?_
  refine Ev_put (i := 4) (ty := .int) cl_X10 hk.1 (Nat.le_of_ble_eq_true rfl) rfl rfl (by decide +kernel) rfl rfl wd_253 dX10_clear_25 (Ev_nm (fun s5 es5 => ?_))
  replace h := h s5 es5
  refine Ev_aload_n 0 dX10_clear_28 rfl rfl ?_
  refine Ev_iconst dX10_clear_29 rfl (ev_Rc rfl) ?_
  refine Ev_put (i := 7) (ty := .int) cl_X10 hk.1 (Nat.le_of_ble_eq_true rfl) rfl rfl (by decide +kernel) rfl rfl wd_264 dX10_clear_30 (Ev_nm (fun s6 es6 => ?_))
  replace h := h s6 es6
  refine Ev_aload_n 0 dX10_clear_33 rfl rfl ?_
  refine Ev_iconst dX10_clear_34 rfl (ev_Rc rfl) ?_
  refine Ev_put (i := 11) (ty := .int) cl_X10 hk.1 (Nat.le_of_ble_eq_true rfl) rfl rfl (by decide +kernel) rfl rfl wd_279 dX10_clear_35 (Ev_nm (fun s7 es7 => ?_))
  replace h := h s7 es7
  refine Ev_aload_n 0 dX10_clear_38 rfl rfl ?_
  refine Ev_iconst dX10_clear_39 rfl (ev_Rc rfl) ?_
  refine Ev_put (i := 13) (ty := .int) cl_X10 hk.1 (Nat.le_of_ble_eq_true rfl) rfl rfl (by decide +kernel) rfl rfl wd_285 dX10_clear_40 (Ev_nm (fun s8 es8 => ?_))
  replace h := h s8 es8
  refine Ev_aload_n 0 dX10_clear_43 rfl rfl ?_
  refine Ev_getR (i := 15) cl_X10 hk.1 (Nat.le_of_ble_eq_true rfl) rfl wd_295 dX10_clear_44 ?_
  refine Ev_callV (As := []) (b := (k + 9)) (st := []) (M' := M_X4_clear) cm_X4_clear wd_687 wd_688 wd_689 hk.2.2.2.2.2.2.2.2.2.1 cl_X4 rfl dX10_clear_47 (Nat.le_refl _) rfl (Nat.le_of_ble_eq_true rfl) (Nat.le_of_ble_eq_true rfl) h (fun v u h hk => ?_)
  cases hk
  obtain ⟨s9, rfl⟩ : ∃ x, x = u := ⟨_, rfl⟩
  exact Ev_vret rfl dX10_clear_50 h
theorem dX10_copyFrom_0 : decode cX10_copyFrom 0 = .ok (.aload_n 0, 1) := by decide +kernel
theorem dX10_copyFrom_1 : decode cX10_copyFrom 1 = .ok (.aload_n 1, 1) := by decide +kernel
theorem dX10_copyFrom_2 : decode cX10_copyFrom 2 = .ok (.getfield 44, 3) := by decide +kernel
theorem dX10_copyFrom_5 : decode cX10_copyFrom 5 = .ok (.putfield 44, 3) := by decide +kernel
theorem dX10_copyFrom_8 : decode cX10_copyFrom 8 = .ok (.aload_n 0, 1) := by decide +kernel
theorem dX10_copyFrom_9 : decode cX10_copyFrom 9 = .ok (.aload_n 1, 1) := by decide +kernel
theorem dX10_copyFrom_10 : decode cX10_copyFrom 10 = .ok (.getfield 48, 3) := by decide +kernel
theorem dX10_copyFrom_13 : decode cX10_copyFrom 13 = .ok (.putfield 48, 3) := by decide +kernel
theorem dX10_copyFrom_16 : decode cX10_copyFrom 16 = .ok (.aload_n 0, 1) := by decide +kernel
theorem dX10_copyFrom_17 : decode cX10_copyFrom 17 = .ok (.aload_n 1, 1) := by decide +kernel
theorem dX10_copyFrom_18 : decode cX10_copyFrom 18 = .ok (.getfield 51, 3) := by decide +kernel
theorem dX10_copyFrom_21 : decode cX10_copyFrom 21 = .ok (.putfield 51, 3) := by decide +kernel
theorem dX10_copyFrom_24 : decode cX10_copyFrom 24 = .ok (.aload_n 1, 1) := by decide +kernel
theorem dX10_copyFrom_25 : decode cX10_copyFrom 25 = .ok (.getfield 9, 3) := by decide +kernel
theorem dX10_copyFrom_28 : decode cX10_copyFrom 28 = .ok (.iconst 0, 1) := by decide +kernel
theorem dX10_copyFrom_29 : decode cX10_copyFrom 29 = .ok (.aload_n 0, 1) := by decide +kernel
theorem dX10_copyFrom_30 : decode cX10_copyFrom 30 = .ok (.getfield 9, 3) := by decide +kernel
theorem dX10_copyFrom_33 : decode cX10_copyFrom 33 = .ok (.iconst 0, 1) := by decide +kernel
theorem dX10_copyFrom_34 : decode cX10_copyFrom 34 = .ok (.iconst 5, 1) := by decide +kernel
theorem dX10_copyFrom_35 : decode cX10_copyFrom 35 = .ok (.invokestatic 75, 3) := by decide +kernel
theorem dX10_copyFrom_38 : decode cX10_copyFrom 38 = .ok (.aload_n 0, 1) := by decide +kernel
theorem dX10_copyFrom_39 : decode cX10_copyFrom 39 = .ok (.aload_n 1, 1) := by decide +kernel
theorem dX10_copyFrom_40 : decode cX10_copyFrom 40 = .ok (.getfield 60, 3) := by decide +kernel
theorem dX10_copyFrom_43 : decode cX10_copyFrom 43 = .ok (.putfield 60, 3) := by decide +kernel
theorem dX10_copyFrom_46 : decode cX10_copyFrom 46 = .ok (.aload_n 1, 1) := by decide +kernel
theorem dX10_copyFrom_47 : decode cX10_copyFrom 47 = .ok (.getfield 15, 3) := by decide +kernel
theorem dX10_copyFrom_50 : decode cX10_copyFrom 50 = .ok (.iconst 0, 1) := by decide +kernel
theorem dX10_copyFrom_51 : decode cX10_copyFrom 51 = .ok (.aload_n 0, 1) := by decide +kernel
theorem dX10_copyFrom_52 : decode cX10_copyFrom 52 = .ok (.getfield 15, 3) := by decide +kernel
theorem dX10_copyFrom_55 : decode cX10_copyFrom 55 = .ok (.iconst 0, 1) := by decide +kernel
theorem dX10_copyFrom_56 : decode cX10_copyFrom 56 = .ok (.sipush 4800, 3) := by decide +kernel
theorem dX10_copyFrom_59 : decode cX10_copyFrom 59 = .ok (.invokestatic 75, 3) := by decide +kernel
theorem dX10_copyFrom_62 : decode cX10_copyFrom 62 = .ok (.aload_n 1, 1) := by decide +kernel
theorem dX10_copyFrom_63 : decode cX10_copyFrom 63 = .ok (.getfield 19, 3) := by decide +kernel
theorem dX10_copyFrom_66 : decode cX10_copyFrom 66 = .ok (.iconst 0, 1) := by decide +kernel
theorem dX10_copyFrom_67 : decode cX10_copyFrom 67 = .ok (.aload_n 0, 1) := by decide +kernel
theorem dX10_copyFrom_68 : decode cX10_copyFrom 68 = .ok (.getfield 19, 3) := by decide +kernel
theorem dX10_copyFrom_71 : decode cX10_copyFrom 71 = .ok (.iconst 0, 1) := by decide +kernel
theorem dX10_copyFrom_72 : decode cX10_copyFrom 72 = .ok (.bipush 8, 2) := by decide +kernel
theorem dX10_copyFrom_74 : decode cX10_copyFrom 74 = .ok (.invokestatic 75, 3) := by decide +kernel
theorem dX10_copyFrom_77 : decode cX10_copyFrom 77 = .ok (.aload_n 0, 1) := by decide +kernel
theorem dX10_copyFrom_78 : decode cX10_copyFrom 78 = .ok (.aload_n 1, 1) := by decide +kernel
theorem dX10_copyFrom_79 : decode cX10_copyFrom 79 = .ok (.getfield 63, 3) := by decide +kernel
theorem dX10_copyFrom_82 : decode cX10_copyFrom 82 = .ok (.putfield 63, 3) := by decide +kernel
theorem dX10_copyFrom_85 : decode cX10_copyFrom 85 = .ok (.aload_n 1, 1) := by decide +kernel
theorem dX10_copyFrom_86 : decode cX10_copyFrom 86 = .ok (.getfield 22, 3) := by decide +kernel
theorem dX10_copyFrom_89 : decode cX10_copyFrom 89 = .ok (.iconst 0, 1) := by decide +kernel
theorem dX10_copyFrom_90 : decode cX10_copyFrom 90 = .ok (.aload_n 0, 1) := by decide +kernel
theorem dX10_copyFrom_91 : decode cX10_copyFrom 91 = .ok (.getfield 22, 3) := by decide +kernel
theorem dX10_copyFrom_94 : decode cX10_copyFrom 94 = .ok (.iconst 0, 1) := by decide +kernel
theorem dX10_copyFrom_95 : decode cX10_copyFrom 95 = .ok (.bipush 6, 2) := by decide +kernel
theorem dX10_copyFrom_97 : decode cX10_copyFrom 97 = .ok (.invokestatic 75, 3) := by decide +kernel
theorem dX10_copyFrom_100 : decode cX10_copyFrom 100 = .ok (.aload_n 1, 1) := by decide +kernel
theorem dX10_copyFrom_101 : decode cX10_copyFrom 101 = .ok (.getfield 25, 3) := by decide +kernel
theorem dX10_copyFrom_104 : decode cX10_copyFrom 104 = .ok (.iconst 0, 1) := by decide +kernel
theorem dX10_copyFrom_105 : decode cX10_copyFrom 105 = .ok (.aload_n 0, 1) := by decide +kernel
theorem dX10_copyFrom_106 : decode cX10_copyFrom 106 = .ok (.getfield 25, 3) := by decide +kernel
theorem dX10_copyFrom_109 : decode cX10_copyFrom 109 = .ok (.iconst 0, 1) := by decide +kernel
theorem dX10_copyFrom_110 : decode cX10_copyFrom 110 = .ok (.sipush 480, 3) := by decide +kernel
theorem dX10_copyFrom_113 : decode cX10_copyFrom 113 = .ok (.invokestatic 75, 3) := by decide +kernel
theorem dX10_copyFrom_116 : decode cX10_copyFrom 116 = .ok (.aload_n 1, 1) := by decide +kernel
theorem dX10_copyFrom_117 : decode cX10_copyFrom 117 = .ok (.getfield 28, 3) := by decide +kernel
theorem dX10_copyFrom_120 : decode cX10_copyFrom 120 = .ok (.iconst 0, 1) := by decide +kernel
theorem dX10_copyFrom_121 : decode cX10_copyFrom 121 = .ok (.aload_n 0, 1) := by decide +kernel
theorem dX10_copyFrom_122 : decode cX10_copyFrom 122 = .ok (.getfield 28, 3) := by decide +kernel
theorem dX10_copyFrom_125 : decode cX10_copyFrom 125 = .ok (.iconst 0, 1) := by decide +kernel
theorem dX10_copyFrom_126 : decode cX10_copyFrom 126 = .ok (.bipush 6, 2) := by decide +kernel
theorem dX10_copyFrom_128 : decode cX10_copyFrom 128 = .ok (.invokestatic 75, 3) := by decide +kernel
theorem dX10_copyFrom_131 : decode cX10_copyFrom 131 = .ok (.aload_n 0, 1) := by decide +kernel
theorem dX10_copyFrom_132 : decode cX10_copyFrom 132 = .ok (.aload_n 1, 1) := by decide +kernel
theorem dX10_copyFrom_133 : decode cX10_copyFrom 133 = .ok (.getfield 66, 3) := by decide +kernel
theorem dX10_copyFrom_136 : decode cX10_copyFrom 136 = .ok (.putfield 66, 3) := by decide +kernel
theorem dX10_copyFrom_139 : decode cX10_copyFrom 139 = .ok (.aload_n 1, 1) := by decide +kernel
theorem dX10_copyFrom_140 : decode cX10_copyFrom 140 = .ok (.getfield 31, 3) := by decide +kernel
theorem dX10_copyFrom_143 : decode cX10_copyFrom 143 = .ok (.iconst 0, 1) := by decide +kernel
theorem dX10_copyFrom_144 : decode cX10_copyFrom 144 = .ok (.aload_n 0, 1) := by decide +kernel
theorem dX10_copyFrom_145 : decode cX10_copyFrom 145 = .ok (.getfield 31, 3) := by decide +kernel
theorem dX10_copyFrom_148 : decode cX10_copyFrom 148 = .ok (.iconst 0, 1) := by decide +kernel
theorem dX10_copyFrom_149 : decode cX10_copyFrom 149 = .ok (.bipush 18, 2) := by decide +kernel
theorem dX10_copyFrom_151 : decode cX10_copyFrom 151 = .ok (.invokestatic 75, 3) := by decide +kernel
theorem dX10_copyFrom_154 : decode cX10_copyFrom 154 = .ok (.aload_n 0, 1) := by decide +kernel
theorem dX10_copyFrom_155 : decode cX10_copyFrom 155 = .ok (.aload_n 1, 1) := by decide +kernel
theorem dX10_copyFrom_156 : decode cX10_copyFrom 156 = .ok (.getfield 69, 3) := by decide +kernel
theorem dX10_copyFrom_159 : decode cX10_copyFrom 159 = .ok (.putfield 69, 3) := by decide +kernel
theorem dX10_copyFrom_162 : decode cX10_copyFrom 162 = .ok (.aload_n 1, 1) := by decide +kernel
theorem dX10_copyFrom_163 : decode cX10_copyFrom 163 = .ok (.getfield 34, 3) := by decide +kernel
theorem dX10_copyFrom_166 : decode cX10_copyFrom 166 = .ok (.iconst 0, 1) := by decide +kernel
theorem dX10_copyFrom_167 : decode cX10_copyFrom 167 = .ok (.aload_n 0, 1) := by decide +kernel
theorem dX10_copyFrom_168 : decode cX10_copyFrom 168 = .ok (.getfield 34, 3) := by decide +kernel
theorem dX10_copyFrom_171 : decode cX10_copyFrom 171 = .ok (.iconst 0, 1) := by decide +kernel
theorem dX10_copyFrom_172 : decode cX10_copyFrom 172 = .ok (.bipush 70, 2) := by decide +kernel
theorem dX10_copyFrom_174 : decode cX10_copyFrom 174 = .ok (.invokestatic 75, 3) := by decide +kernel
theorem dX10_copyFrom_177 : decode cX10_copyFrom 177 = .ok (.aload_n 0, 1) := by decide +kernel
theorem dX10_copyFrom_178 : decode cX10_copyFrom 178 = .ok (.getfield 40, 3) := by decide +kernel
theorem dX10_copyFrom_181 : decode cX10_copyFrom 181 = .ok (.aload_n 1, 1) := by decide +kernel
theorem dX10_copyFrom_182 : decode cX10_copyFrom 182 = .ok (.getfield 40, 3) := by decide +kernel
theorem dX10_copyFrom_185 : decode cX10_copyFrom 185 = .ok (.invokevirtual 81, 3) := by decide +kernel
theorem dX10_copyFrom_188 : decode cX10_copyFrom 188 = .ok (.return_, 1) := by decide +kernel
theorem wp_X10_copyFrom_0 {d : Nat} {k : Nat} (hk : is_X10 k) {k1 : Nat} (hk1 : is_X10 k1) {s : ev_S} {Q : Option ev_V → ev_S → Prop}
    (h : (∀ s1, ev_up s k 0 (s k1 0) = s1 → (∀ s2, ev_up s1 k 1 (s1 k1 1) = s2 → (∀ s3, ev_up s2 k 2 (s2 k1 2) = s3 → ((0 ≤ (0 : Int) ∧ 0 ≤ (0 : Int) ∧ 0 ≤ (5 : Int) ∧ (0 : Int) + 5 ≤ (5 : Nat) ∧ (0 : Int) + 5 ≤ (5 : Nat)) ∧ ∀ s4, ev_cp s3 (k1 + 1) (Int.toNat 0) (k + 1) (Int.toNat 0) (Int.toNat 5) = s4 → (∀ s5, ev_up s4 k 4 (s4 k1 4) = s5 → ((0 ≤ (0 : Int) ∧ 0 ≤ (0 : Int) ∧ 0 ≤ (4800 : Int) ∧ (0 : Int) + 4800 ≤ (4800 : Nat) ∧ (0 : Int) + 4800 ≤ (4800 : Nat) ∧ (∀ i : Nat, i < Int.toNat 4800 → -128 ≤ s5 (k1 + 2) (Int.toNat 0 + i) ∧ s5 (k1 + 2) (Int.toNat 0 + i) ≤ 127)) ∧ ∀ s6, ev_cp s5 (k1 + 2) (Int.toNat 0) (k + 2) (Int.toNat 0) (Int.toNat 4800) = s6 → ((0 ≤ (0 : Int) ∧ 0 ≤ (0 : Int) ∧ 0 ≤ (8 : Int) ∧ (0 : Int) + 8 ≤ (8 : Nat) ∧ (0 : Int) + 8 ≤ (8 : Nat)) ∧ ∀ s7, ev_cp s6 (k1 + 3) (Int.toNat 0) (k + 3) (Int.toNat 0) (Int.toNat 8) = s7 → (∀ s8, ev_up s7 k 7 (s7 k1 7) = s8 → ((0 ≤ (0 : Int) ∧ 0 ≤ (0 : Int) ∧ 0 ≤ (6 : Int) ∧ (0 : Int) + 6 ≤ (6 : Nat) ∧ (0 : Int) + 6 ≤ (6 : Nat)) ∧ ∀ s9, ev_cp s8 (k1 + 4) (Int.toNat 0) (k + 4) (Int.toNat 0) (Int.toNat 6) = s9 → ((0 ≤ (0 : Int) ∧ 0 ≤ (0 : Int) ∧ 0 ≤ (480 : Int) ∧ (0 : Int) + 480 ≤ (480 : Nat) ∧ (0 : Int) + 480 ≤ (480 : Nat)) ∧ ∀ s10, ev_cp s9 (k1 + 5) (Int.toNat 0) (k + 5) (Int.toNat 0) (Int.toNat 480) = s10 → ((0 ≤ (0 : Int) ∧ 0 ≤ (0 : Int) ∧ 0 ≤ (6 : Int) ∧ (0 : Int) + 6 ≤ (6 : Nat) ∧ (0 : Int) + 6 ≤ (6 : Nat)) ∧ ∀ s11, ev_cp s10 (k1 + 6) (Int.toNat 0) (k + 6) (Int.toNat 0) (Int.toNat 6) = s11 → (∀ s12, ev_up s11 k 11 (s11 k1 11) = s12 → ((0 ≤ (0 : Int) ∧ 0 ≤ (0 : Int) ∧ 0 ≤ (18 : Int) ∧ (0 : Int) + 18 ≤ (18 : Nat) ∧ (0 : Int) + 18 ≤ (18 : Nat)) ∧ ∀ s13, ev_cp s12 (k1 + 7) (Int.toNat 0) (k + 7) (Int.toNat 0) (Int.toNat 18) = s13 → (∀ s14, ev_up s13 k 13 (s13 k1 13) = s14 → ((0 ≤ (0 : Int) ∧ 0 ≤ (0 : Int) ∧ 0 ≤ (70 : Int) ∧ (0 : Int) + 70 ≤ (70 : Nat) ∧ (0 : Int) + 70 ≤ (70 : Nat)) ∧ ∀ s15, ev_cp s14 (k1 + 8) (Int.toNat 0) (k + 8) (Int.toNat 0) (Int.toNat 70) = s15 → (Ev layX M_X4_copyFrom d 0 [(0, ev_r (k + 9)), (1, ev_r (k1 + 9))] [] s15 (fun _ s16 => Q none s16)))))))))))))))))) :
    Ev layX M_X10_copyFrom (d + 1) 0 [(0, ev_r k), (1, ev_r k1)] [] s Q := by
  refine Ev_aload_n 0 dX10_copyFrom_0 rfl rfl ?_
  refine Ev_aload_n 1 dX10_copyFrom_1 rfl rfl ?_
  refine Ev_get (i := 0) cl_X10 hk1.1 (Nat.le_of_ble_eq_true rfl) rfl wd_240 dX10_copyFrom_2 ?_
  refine Ev_put (i := 0) (ty := .int) cl_X10 hk.1 (Nat.le_of_ble_eq_true rfl) rfl rfl (by decide +kernel) rfl rfl wd_240 dX10_copyFrom_5 (Ev_nm (fun s1 es1 => ?_))
  replace h := h s1 es1
  refine Ev_aload_n 0 dX10_copyFrom_8 rfl rfl ?_
  refine Ev_aload_n 1 dX10_copyFrom_9 rfl rfl ?_
  refine Ev_get (i := 1) cl_X10 hk1.1 (Nat.le_of_ble_eq_true rfl) rfl wd_243 dX10_copyFrom_10 ?_
  refine Ev_put (i := 1) (ty := .int) cl_X10 hk.1 (Nat.le_of_ble_eq_true rfl) rfl rfl (by decide +kernel) rfl rfl wd_243 dX10_copyFrom_13 (Ev_nm (fun s2 es2 => ?_))
  replace h := h s2 es2
  refine Ev_aload_n 0 dX10_copyFrom_16 rfl rfl ?_
  refine Ev_aload_n 1 dX10_copyFrom_17 rfl rfl ?_
  refine Ev_get (i := 2) cl_X10 hk1.1 (Nat.le_of_ble_eq_true rfl) rfl wd_246 dX10_copyFrom_18 ?_
  refine Ev_put (i := 2) (ty := .int) cl_X10 hk.1 (Nat.le_of_ble_eq_true rfl) rfl rfl (by decide +kernel) rfl rfl wd_246 dX10_copyFrom_21 (Ev_nm (fun s3 es3 => ?_))
  replace h := h s3 es3
  refine Ev_aload_n 1 dX10_copyFrom_24 rfl rfl ?_
  refine Ev_getR (i := 3) cl_X10 hk1.1 (Nat.le_of_ble_eq_true rfl) rfl wd_250 dX10_copyFrom_25 ?_
  refine Ev_iconst dX10_copyFrom_28 rfl (ev_Rc rfl) ?_
  refine Ev_aload_n 0 dX10_copyFrom_29 rfl rfl ?_
  refine Ev_getR (i := 3) cl_X10 hk.1 (Nat.le_of_ble_eq_true rfl) rfl wd_250 dX10_copyFrom_30 ?_
  refine Ev_iconst dX10_copyFrom_33 rfl (ev_Rc rfl) ?_
  refine Ev_iconst dX10_copyFrom_34 rfl (ev_Rc rfl) ?_
  obtain ⟨h0, h⟩ := h
  refine Ev_copyi hk1.2.1 hk.2.1 h0 wd_1413 dX10_copyFrom_35 (Nat.le_of_ble_eq_true rfl) (Ev_nm (fun s4 es4 => ?_))
  replace h := h s4 es4
  refine Ev_aload_n 0 dX10_copyFrom_38 rfl rfl ?_
  refine Ev_aload_n 1 dX10_copyFrom_39 rfl rfl ?_
  refine Ev_get (i := 4) cl_X10 hk1.1 (Nat.le_of_ble_eq_true rfl) rfl wd_253 dX10_copyFrom_40 ?_
  refine Ev_put (i := 4) (ty := .int) cl_X10 hk.1 (Nat.le_of_ble_eq_true rfl) rfl rfl (by decide +kernel) rfl rfl wd_253 dX10_copyFrom_43 (Ev_nm (fun s5 es5 => ?_))
  replace h := h s5 es5
  refine Ev_aload_n 1 dX10_copyFrom_46 rfl rfl ?_
  refine Ev_getR (i := 5) cl_X10 hk1.1 (Nat.le_of_ble_eq_true rfl) rfl wd_257 dX10_copyFrom_47 ?_
  refine Ev_iconst dX10_copyFrom_50 rfl (ev_Rc rfl) ?_
  refine Ev_aload_n 0 dX10_copyFrom_51 rfl rfl ?_
  refine Ev_getR (i := 5) cl_X10 hk.1 (Nat.le_of_ble_eq_true rfl) rfl wd_257 dX10_copyFrom_52 ?_
  refine Ev_iconst dX10_copyFrom_55 rfl (ev_Rc rfl) ?_
  refine Ev_sipushC dX10_copyFrom_56 rfl ?_
  obtain ⟨h0, h⟩ := h
  refine Ev_copyb hk1.2.2.1 hk.2.2.1 h0 wd_1413 dX10_copyFrom_59 (Nat.le_of_ble_eq_true rfl) (Ev_nm (fun s6 es6 => ?_))
  replace h := h s6 es6
  refine Ev_aload_n 1 dX10_copyFrom_62 rfl rfl ?_
  refine Ev_getR (i := 6) cl_X10 hk1.1 (Nat.le_of_ble_eq_true rfl) rfl wd_260 dX10_copyFrom_63 ?_
  refine Ev_iconst dX10_copyFrom_66 rfl (ev_Rc rfl) ?_
  refine Ev_aload_n 0 dX10_copyFrom_67 rfl rfl ?_
  refine Ev_getR (i := 6) cl_X10 hk.1 (Nat.le_of_ble_eq_true rfl) rfl wd_260 dX10_copyFrom_68 ?_
  refine Ev_iconst dX10_copyFrom_71 rfl (ev_Rc rfl) ?_
  refine Ev_bipushC dX10_copyFrom_72 rfl ?_
  obtain ⟨h0, h⟩ := h
  refine Ev_copyi hk1.2.2.2.1 hk.2.2.2.1 h0 wd_1413 dX10_copyFrom_74 (Nat.le_of_ble_eq_true rfl) (Ev_nm (fun s7 es7 => ?_))
  replace h := h s7 es7
  refine Ev_aload_n 0 dX10_copyFrom_77 rfl rfl ?_
  refine Ev_aload_n 1 dX10_copyFrom_78 rfl rfl ?_
  refine Ev_get (i := 7) cl_X10 hk1.1 (Nat.le_of_ble_eq_true rfl) rfl wd_264 dX10_copyFrom_79 ?_
  refine Ev_put (i := 7) (ty := .int) cl_X10 hk.1 (Nat.le_of_ble_eq_true rfl) rfl rfl (by decide +kernel) rfl rfl wd_264 dX10_copyFrom_82 (Ev_nm (fun s8 es8 => ?_))
  replace h := h s8 es8
  refine Ev_aload_n 1 dX10_copyFrom_85 rfl rfl ?_
  refine Ev_getR (i := 8) cl_X10 hk1.1 (Nat.le_of_ble_eq_true rfl) rfl wd_268 dX10_copyFrom_86 ?_
  refine Ev_iconst dX10_copyFrom_89 rfl (ev_Rc rfl) ?_
  refine Ev_aload_n 0 dX10_copyFrom_90 rfl rfl ?_
  refine Ev_getR (i := 8) cl_X10 hk.1 (Nat.le_of_ble_eq_true rfl) rfl wd_268 dX10_copyFrom_91 ?_
  refine Ev_iconst dX10_copyFrom_94 rfl (ev_Rc rfl) ?_
  refine Ev_bipushC dX10_copyFrom_95 rfl ?_
  obtain ⟨h0, h⟩ := h
  refine Ev_copyi hk1.2.2.2.2.1 hk.2.2.2.2.1 h0 wd_1413 dX10_copyFrom_97 (Nat.le_of_ble_eq_true rfl) (Ev_nm (fun s9 es9 => ?_))
  replace h := h s9 es9
  refine Ev_aload_n 1 dX10_copyFrom_100 rfl rfl ?_
  refine Ev_getR (i := 9) cl_X10 hk1.1 (Nat.le_of_ble_eq_true rfl) rfl wd_273 dX10_copyFrom_101 ?_
  refine Ev_iconst dX10_copyFrom_104 rfl (ev_Rc rfl) ?_
  refine Ev_aload_n 0 dX10_copyFrom_105 rfl rfl ?_
  refine Ev_getR (i := 9) cl_X10 hk.1 (Nat.le_of_ble_eq_true rfl) rfl wd_273 dX10_copyFrom_106 ?_
  refine Ev_iconst dX10_copyFrom_109 rfl (ev_Rc rfl) ?_
  refine Ev_sipushC dX10_copyFrom_110 rfl ?_
  obtain ⟨h0, h⟩ := h
  refine Ev_copyi hk1.2.2.2.2.2.1 hk.2.2.2.2.2.1 h0 wd_1413 dX10_copyFrom_113 (Nat.le_of_ble_eq_true rfl) (Ev_nm (fun s10 es10 => ?_))
  replace h := h s10 es10
  refine Ev_aload_n 1 dX10_copyFrom_116 rfl rfl ?_
  refine Ev_getR (i := 10) cl_X10 hk1.1 (Nat.le_of_ble_eq_true rfl) rfl wd_276 dX10_copyFrom_117 ?_
  refine Ev_iconst dX10_copyFrom_120 rfl (ev_Rc rfl) ?_
  refine Ev_aload_n 0 dX10_copyFrom_121 rfl rfl ?_
  refine Ev_getR (i := 10) cl_X10 hk.1 (Nat.le_of_ble_eq_true rfl) rfl wd_276 dX10_copyFrom_122 ?_
  refine Ev_iconst dX10_copyFrom_125 rfl (ev_Rc rfl) ?_
  refine Ev_bipushC dX10_copyFrom_126 rfl ?_
  obtain ⟨h0, h⟩ := h
  refine Ev_copyi hk1.2.2.2.2.2.2.1 hk.2.2.2.2.2.2.1 h0 wd_1413 dX10_copyFrom_128 (Nat.le_of_ble_eq_true rfl) (Ev_nm (fun s11 es11 => ?_))
  replace h := h s11 es11
  refine Ev_aload_n 0 dX10_copyFrom_131 rfl rfl ?_
  refine Ev_aload_n 1 dX10_copyFrom_132 rfl rfl ?_
  refine Ev_get (i := 11) cl_X10 hk1.1 (Nat.le_of_ble_eq_true rfl) rfl wd_279 dX10_copyFrom_133 ?_
  refine Ev_put (i := 11) (ty := .int) cl_X10 hk.1 (Nat.le_of_ble_eq_true rfl) rfl rfl (by decide +kernel) rfl rfl wd_279 dX10_copyFrom_136 (Ev_nm (fun s12 es12 => ?_))
  replace h := h s12 es12
  refine Ev_aload_n 1 dX10_copyFrom_139 rfl rfl ?_
  refine Ev_getR (i := 12) cl_X10 hk1.1 (Nat.le_of_ble_eq_true rfl) rfl wd_282 dX10_copyFrom_140 ?_
  refine Ev_iconst dX10_copyFrom_143 rfl (ev_Rc rfl) ?_
  refine Ev_aload_n 0 dX10_copyFrom_144 rfl rfl ?_
  refine Ev_getR (i := 12) cl_X10 hk.1 (Nat.le_of_ble_eq_true rfl) rfl wd_282 dX10_copyFrom_145 ?_
  refine Ev_iconst dX10_copyFrom_148 rfl (ev_Rc rfl) ?_
  refine Ev_bipushC dX10_copyFrom_149 rfl ?_
  obtain ⟨h0, h⟩ := h
  refine Ev_copyi hk1.2.2.2.2.2.2.2.1 hk.2.2.2.2.2.2.2.1 h0 wd_1413 dX10_copyFrom_151 (Nat.le_of_ble_eq_true rfl) (Ev_nm (fun s13 es13 => ?_))
  replace h := h s13 es13
  refine Ev_aload_n 0 dX10_copyFrom_154 rfl rfl ?_
  refine Ev_aload_n 1 dX10_copyFrom_155 rfl rfl ?_
  refine Ev_get (i := 13) cl_X10 hk1.1 (Nat.le_of_ble_eq_true rfl) rfl wd_285 dX10_copyFrom_156 ?_
  refine Ev_put (i := 13) (ty := .int) cl_X10 hk.1 (Nat.le_of_ble_eq_true rfl) rfl rfl (by decide +kernel) rfl rfl wd_285 dX10_copyFrom_159 (Ev_nm (fun s14 es14 => ?_))
  replace h := h s14 es14
  refine Ev_aload_n 1 dX10_copyFrom_162 rfl rfl ?_
  refine Ev_getR (i := 14) cl_X10 hk1.1 (Nat.le_of_ble_eq_true rfl) rfl wd_290 dX10_copyFrom_163 ?_
  refine Ev_iconst dX10_copyFrom_166 rfl (ev_Rc rfl) ?_
  refine Ev_aload_n 0 dX10_copyFrom_167 rfl rfl ?_
  refine Ev_getR (i := 14) cl_X10 hk.1 (Nat.le_of_ble_eq_true rfl) rfl wd_290 dX10_copyFrom_168 ?_
  refine Ev_iconst dX10_copyFrom_171 rfl (ev_Rc rfl) ?_
  refine Ev_bipushC dX10_copyFrom_172 rfl ?_
  obtain ⟨h0, h⟩ := h
  refine Ev_copyi hk1.2.2.2.2.2.2.2.2.1 hk.2.2.2.2.2.2.2.2.1 h0 wd_1413 dX10_copyFrom_174 (Nat.le_of_ble_eq_true rfl) (Ev_nm (fun s15 es15 => ?_))
  replace h := h s15 es15
  refine Ev_aload_n 0 dX10_copyFrom_177 rfl rfl ?_
  refine Ev_getR (i := 15) cl_X10 hk.1 (Nat.le_of_ble_eq_true rfl) rfl wd_295 dX10_copyFrom_178 ?_
  refine Ev_aload_n 1 dX10_copyFrom_181 rfl rfl ?_
  refine Ev_getR (i := 15) cl_X10 hk1.1 (Nat.le_of_ble_eq_true rfl) rfl wd_295 dX10_copyFrom_182 ?_
  refine Ev_callV (As := [ev_r (k1 + 9)]) (b := (k + 9)) (st := []) (M' := M_X4_copyFrom) cm_X4_copyFrom wd_1414 wd_1042 wd_1043 hk.2.2.2.2.2.2.2.2.2.1 cl_X4 rfl dX10_copyFrom_185 (Nat.le_refl _) rfl (Nat.le_of_ble_eq_true rfl) (Nat.le_of_ble_eq_true rfl) h (fun v u h hk => ?_)
  cases hk
  obtain ⟨s16, rfl⟩ : ∃ x, x = u := ⟨_, rfl⟩
  exact Ev_vret rfl dX10_copyFrom_188 h
theorem dX10_hasPlace_0 : decode cX10_hasPlace 0 = .ok (.iload_n 1, 1) := by decide +kernel
theorem dX10_hasPlace_1 : decode cX10_hasPlace 1 = .ok (.ifCond .lt 35, 3) := by decide +kernel
theorem dX10_hasPlace_4 : decode cX10_hasPlace 4 = .ok (.iload_n 1, 1) := by decide +kernel
theorem dX10_hasPlace_5 : decode cX10_hasPlace 5 = .ok (.bipush 64, 2) := by decide +kernel
theorem dX10_hasPlace_7 : decode cX10_hasPlace 7 = .ok (.if_icmp .ge 29, 3) := by decide +kernel
theorem dX10_hasPlace_10 : decode cX10_hasPlace 10 = .ok (.iload_n 1, 1) := by decide +kernel
theorem dX10_hasPlace_11 : decode cX10_hasPlace 11 = .ok (.bipush 8, 2) := by decide +kernel
theorem dX10_hasPlace_13 : decode cX10_hasPlace 13 = .ok (.irem, 1) := by decide +kernel
theorem dX10_hasPlace_14 : decode cX10_hasPlace 14 = .ok (.aload_n 0, 1) := by decide +kernel
theorem dX10_hasPlace_15 : decode cX10_hasPlace 15 = .ok (.getfield 44, 3) := by decide +kernel
theorem dX10_hasPlace_18 : decode cX10_hasPlace 18 = .ok (.if_icmp .ge 18, 3) := by decide +kernel
theorem dX10_hasPlace_21 : decode cX10_hasPlace 21 = .ok (.iload_n 1, 1) := by decide +kernel
theorem dX10_hasPlace_22 : decode cX10_hasPlace 22 = .ok (.bipush 8, 2) := by decide +kernel
theorem dX10_hasPlace_24 : decode cX10_hasPlace 24 = .ok (.idiv, 1) := by decide +kernel
theorem dX10_hasPlace_25 : decode cX10_hasPlace 25 = .ok (.aload_n 0, 1) := by decide +kernel
theorem dX10_hasPlace_26 : decode cX10_hasPlace 26 = .ok (.getfield 48, 3) := by decide +kernel
theorem dX10_hasPlace_29 : decode cX10_hasPlace 29 = .ok (.if_icmp .ge 7, 3) := by decide +kernel
theorem dX10_hasPlace_32 : decode cX10_hasPlace 32 = .ok (.iconst 1, 1) := by decide +kernel
theorem dX10_hasPlace_33 : decode cX10_hasPlace 33 = .ok (.goto 4, 3) := by decide +kernel
theorem dX10_hasPlace_36 : decode cX10_hasPlace 36 = .ok (.iconst 0, 1) := by decide +kernel
theorem dX10_hasPlace_37 : decode cX10_hasPlace 37 = .ok (.ireturn, 1) := by decide +kernel
theorem wp_X10_hasPlace_0 {d : Nat} {k : Nat} (hk : is_X10 k) {s : ev_S} {Q : Option ev_V → ev_S → Prop} {a1 : Int}
    (h : ((a1 < 0 → Q (some (ev_i 0)) s) ∧ (0 ≤ a1 → ((64 ≤ a1 → Q (some (ev_i 0)) s) ∧ (a1 < 64 → (((s k 0) ≤ (ev_rem a1 8) → Q (some (ev_i 0)) s) ∧ ((ev_rem a1 8) < (s k 0) → (((s k 1) ≤ (ev_div a1 8) → Q (some (ev_i 0)) s) ∧ ((ev_div a1 8) < (s k 1) → Q (some (ev_i 1)) s))))))))) :
    Ev layX M_X10_hasPlace d 0 [(0, ev_r k), (1, ev_i a1)] [] s Q := by
  refine Ev_iload_n 1 dX10_hasPlace_0 rfl rfl ?_
  refine Ev_if_lt (tgt := 36) dX10_hasPlace_1 rfl (fun c => ?_) (fun c => ?_)
  · replace h := h.1 c
    refine Ev_iconst dX10_hasPlace_36 rfl (ev_Rc rfl) ?_
    exact Ev_iret rfl dX10_hasPlace_37 (ev_nb (by decide)) h
  · replace h := h.2 c
    refine Ev_iload_n 1 dX10_hasPlace_4 rfl rfl ?_
    refine Ev_bipushC dX10_hasPlace_5 rfl ?_
    refine Ev_icmp_ge (tgt := 36) dX10_hasPlace_7 rfl (fun c => ?_) (fun c => ?_)
    · replace h := h.1 c
      refine Ev_iconst dX10_hasPlace_36 rfl (ev_Rc rfl) ?_
      exact Ev_iret rfl dX10_hasPlace_37 (ev_nb (by decide)) h
    · replace h := h.2 c
      refine Ev_iload_n 1 dX10_hasPlace_10 rfl rfl ?_
      refine Ev_bipushC dX10_hasPlace_11 rfl ?_
      refine Ev_irem dX10_hasPlace_13 (by decide) ?_
      refine Ev_aload_n 0 dX10_hasPlace_14 rfl rfl ?_
      refine Ev_get (i := 0) cl_X10 hk.1 (Nat.le_of_ble_eq_true rfl) rfl wd_240 dX10_hasPlace_15 ?_
      refine Ev_icmp_ge (tgt := 36) dX10_hasPlace_18 rfl (fun c => ?_) (fun c => ?_)
      · replace h := h.1 c
        refine Ev_iconst dX10_hasPlace_36 rfl (ev_Rc rfl) ?_
        exact Ev_iret rfl dX10_hasPlace_37 (ev_nb (by decide)) h
      · replace h := h.2 c
        refine Ev_iload_n 1 dX10_hasPlace_21 rfl rfl ?_
        refine Ev_bipushC dX10_hasPlace_22 rfl ?_
        refine Ev_idiv dX10_hasPlace_24 (by decide) ?_
        refine Ev_aload_n 0 dX10_hasPlace_25 rfl rfl ?_
        refine Ev_get (i := 1) cl_X10 hk.1 (Nat.le_of_ble_eq_true rfl) rfl wd_243 dX10_hasPlace_26 ?_
        refine Ev_icmp_ge (tgt := 36) dX10_hasPlace_29 rfl (fun c => ?_) (fun c => ?_)
        · replace h := h.1 c
          refine Ev_iconst dX10_hasPlace_36 rfl (ev_Rc rfl) ?_
          exact Ev_iret rfl dX10_hasPlace_37 (ev_nb (by decide)) h
        · replace h := h.2 c
          refine Ev_iconst dX10_hasPlace_32 rfl (ev_Rc rfl) ?_
          refine Ev_goto (tgt := 37) dX10_hasPlace_33 rfl ?_
          exact Ev_iret rfl dX10_hasPlace_37 (ev_nb (by decide)) h
theorem dX10_hasWard_0 : decode cX10_hasWard 0 = .ok (.iload_n 1, 1) := by decide +kernel
theorem dX10_hasWard_1 : decode cX10_hasWard 1 = .ok (.ifCond .lt 15, 3) := by decide +kernel
theorem dX10_hasWard_4 : decode cX10_hasWard 4 = .ok (.iload_n 1, 1) := by decide +kernel
theorem dX10_hasWard_5 : decode cX10_hasWard 5 = .ok (.aload_n 0, 1) := by decide +kernel
theorem dX10_hasWard_6 : decode cX10_hasWard 6 = .ok (.getfield 60, 3) := by decide +kernel
theorem dX10_hasWard_9 : decode cX10_hasWard 9 = .ok (.if_icmp .ge 7, 3) := by decide +kernel
theorem dX10_hasWard_12 : decode cX10_hasWard 12 = .ok (.iconst 1, 1) := by decide +kernel
theorem dX10_hasWard_13 : decode cX10_hasWard 13 = .ok (.goto 4, 3) := by decide +kernel
theorem dX10_hasWard_16 : decode cX10_hasWard 16 = .ok (.iconst 0, 1) := by decide +kernel
theorem dX10_hasWard_17 : decode cX10_hasWard 17 = .ok (.ireturn, 1) := by decide +kernel
theorem wp_X10_hasWard_0 {d : Nat} {k : Nat} (hk : is_X10 k) {s : ev_S} {Q : Option ev_V → ev_S → Prop} {a1 : Int}
    (h : ((a1 < 0 → Q (some (ev_i 0)) s) ∧ (0 ≤ a1 → (((s k 4) ≤ a1 → Q (some (ev_i 0)) s) ∧ (a1 < (s k 4) → Q (some (ev_i 1)) s))))) :
    Ev layX M_X10_hasWard d 0 [(0, ev_r k), (1, ev_i a1)] [] s Q := by
  refine Ev_iload_n 1 dX10_hasWard_0 rfl rfl ?_
  refine Ev_if_lt (tgt := 16) dX10_hasWard_1 rfl (fun c => ?_) (fun c => ?_)
  · replace h := h.1 c
    refine Ev_iconst dX10_hasWard_16 rfl (ev_Rc rfl) ?_
    exact Ev_iret rfl dX10_hasWard_17 (ev_nb (by decide)) h
  · replace h := h.2 c
    refine Ev_iload_n 1 dX10_hasWard_4 rfl rfl ?_
    refine Ev_aload_n 0 dX10_hasWard_5 rfl rfl ?_
    refine Ev_get (i := 4) cl_X10 hk.1 (Nat.le_of_ble_eq_true rfl) rfl wd_253 dX10_hasWard_6 ?_
    refine Ev_icmp_ge (tgt := 16) dX10_hasWard_9 rfl (fun c => ?_) (fun c => ?_)
    · replace h := h.1 c
      refine Ev_iconst dX10_hasWard_16 rfl (ev_Rc rfl) ?_
      exact Ev_iret rfl dX10_hasWard_17 (ev_nb (by decide)) h
    · replace h := h.2 c
      refine Ev_iconst dX10_hasWard_12 rfl (ev_Rc rfl) ?_
      refine Ev_goto (tgt := 17) dX10_hasWard_13 rfl ?_
      exact Ev_iret rfl dX10_hasWard_17 (ev_nb (by decide)) h
theorem dX10_hasAngel_0 : decode cX10_hasAngel 0 = .ok (.iload_n 1, 1) := by decide +kernel
theorem dX10_hasAngel_1 : decode cX10_hasAngel 1 = .ok (.ifCond .lt 15, 3) := by decide +kernel
theorem dX10_hasAngel_4 : decode cX10_hasAngel 4 = .ok (.iload_n 1, 1) := by decide +kernel
theorem dX10_hasAngel_5 : decode cX10_hasAngel 5 = .ok (.aload_n 0, 1) := by decide +kernel
theorem dX10_hasAngel_6 : decode cX10_hasAngel 6 = .ok (.getfield 63, 3) := by decide +kernel
theorem dX10_hasAngel_9 : decode cX10_hasAngel 9 = .ok (.if_icmp .ge 7, 3) := by decide +kernel
theorem dX10_hasAngel_12 : decode cX10_hasAngel 12 = .ok (.iconst 1, 1) := by decide +kernel
theorem dX10_hasAngel_13 : decode cX10_hasAngel 13 = .ok (.goto 4, 3) := by decide +kernel
theorem dX10_hasAngel_16 : decode cX10_hasAngel 16 = .ok (.iconst 0, 1) := by decide +kernel
theorem dX10_hasAngel_17 : decode cX10_hasAngel 17 = .ok (.ireturn, 1) := by decide +kernel
theorem wp_X10_hasAngel_0 {d : Nat} {k : Nat} (hk : is_X10 k) {s : ev_S} {Q : Option ev_V → ev_S → Prop} {a1 : Int}
    (h : ((a1 < 0 → Q (some (ev_i 0)) s) ∧ (0 ≤ a1 → (((s k 7) ≤ a1 → Q (some (ev_i 0)) s) ∧ (a1 < (s k 7) → Q (some (ev_i 1)) s))))) :
    Ev layX M_X10_hasAngel d 0 [(0, ev_r k), (1, ev_i a1)] [] s Q := by
  refine Ev_iload_n 1 dX10_hasAngel_0 rfl rfl ?_
  refine Ev_if_lt (tgt := 16) dX10_hasAngel_1 rfl (fun c => ?_) (fun c => ?_)
  · replace h := h.1 c
    refine Ev_iconst dX10_hasAngel_16 rfl (ev_Rc rfl) ?_
    exact Ev_iret rfl dX10_hasAngel_17 (ev_nb (by decide)) h
  · replace h := h.2 c
    refine Ev_iload_n 1 dX10_hasAngel_4 rfl rfl ?_
    refine Ev_aload_n 0 dX10_hasAngel_5 rfl rfl ?_
    refine Ev_get (i := 7) cl_X10 hk.1 (Nat.le_of_ble_eq_true rfl) rfl wd_264 dX10_hasAngel_6 ?_
    refine Ev_icmp_ge (tgt := 16) dX10_hasAngel_9 rfl (fun c => ?_) (fun c => ?_)
    · replace h := h.1 c
      refine Ev_iconst dX10_hasAngel_16 rfl (ev_Rc rfl) ?_
      exact Ev_iret rfl dX10_hasAngel_17 (ev_nb (by decide)) h
    · replace h := h.2 c
      refine Ev_iconst dX10_hasAngel_12 rfl (ev_Rc rfl) ?_
      refine Ev_goto (tgt := 17) dX10_hasAngel_13 rfl ?_
      exact Ev_iret rfl dX10_hasAngel_17 (ev_nb (by decide)) h
theorem dX10_hasMishap_0 : decode cX10_hasMishap 0 = .ok (.iload_n 1, 1) := by decide +kernel
theorem dX10_hasMishap_1 : decode cX10_hasMishap 1 = .ok (.ifCond .lt 15, 3) := by decide +kernel
theorem dX10_hasMishap_4 : decode cX10_hasMishap 4 = .ok (.iload_n 1, 1) := by decide +kernel
theorem dX10_hasMishap_5 : decode cX10_hasMishap 5 = .ok (.aload_n 0, 1) := by decide +kernel
theorem dX10_hasMishap_6 : decode cX10_hasMishap 6 = .ok (.getfield 69, 3) := by decide +kernel
theorem dX10_hasMishap_9 : decode cX10_hasMishap 9 = .ok (.if_icmp .ge 7, 3) := by decide +kernel
theorem dX10_hasMishap_12 : decode cX10_hasMishap 12 = .ok (.iconst 1, 1) := by decide +kernel
theorem dX10_hasMishap_13 : decode cX10_hasMishap 13 = .ok (.goto 4, 3) := by decide +kernel
theorem dX10_hasMishap_16 : decode cX10_hasMishap 16 = .ok (.iconst 0, 1) := by decide +kernel
theorem dX10_hasMishap_17 : decode cX10_hasMishap 17 = .ok (.ireturn, 1) := by decide +kernel
theorem wp_X10_hasMishap_0 {d : Nat} {k : Nat} (hk : is_X10 k) {s : ev_S} {Q : Option ev_V → ev_S → Prop} {a1 : Int}
    (h : ((a1 < 0 → Q (some (ev_i 0)) s) ∧ (0 ≤ a1 → (((s k 13) ≤ a1 → Q (some (ev_i 0)) s) ∧ (a1 < (s k 13) → Q (some (ev_i 1)) s))))) :
    Ev layX M_X10_hasMishap d 0 [(0, ev_r k), (1, ev_i a1)] [] s Q := by
  refine Ev_iload_n 1 dX10_hasMishap_0 rfl rfl ?_
  refine Ev_if_lt (tgt := 16) dX10_hasMishap_1 rfl (fun c => ?_) (fun c => ?_)
  · replace h := h.1 c
    refine Ev_iconst dX10_hasMishap_16 rfl (ev_Rc rfl) ?_
    exact Ev_iret rfl dX10_hasMishap_17 (ev_nb (by decide)) h
  · replace h := h.2 c
    refine Ev_iload_n 1 dX10_hasMishap_4 rfl rfl ?_
    refine Ev_aload_n 0 dX10_hasMishap_5 rfl rfl ?_
    refine Ev_get (i := 13) cl_X10 hk.1 (Nat.le_of_ble_eq_true rfl) rfl wd_285 dX10_hasMishap_6 ?_
    refine Ev_icmp_ge (tgt := 16) dX10_hasMishap_9 rfl (fun c => ?_) (fun c => ?_)
    · replace h := h.1 c
      refine Ev_iconst dX10_hasMishap_16 rfl (ev_Rc rfl) ?_
      exact Ev_iret rfl dX10_hasMishap_17 (ev_nb (by decide)) h
    · replace h := h.2 c
      refine Ev_iconst dX10_hasMishap_12 rfl (ev_Rc rfl) ?_
      refine Ev_goto (tgt := 17) dX10_hasMishap_13 rfl ?_
      exact Ev_iret rfl dX10_hasMishap_17 (ev_nb (by decide)) h
theorem dX10_risk_0 : decode cX10_risk 0 = .ok (.aload_n 0, 1) := by decide +kernel
theorem dX10_risk_1 : decode cX10_risk 1 = .ok (.getfield 34, 3) := by decide +kernel
theorem dX10_risk_4 : decode cX10_risk 4 = .ok (.iload_n 1, 1) := by decide +kernel
theorem dX10_risk_5 : decode cX10_risk 5 = .ok (.bipush 7, 2) := by decide +kernel
theorem dX10_risk_7 : decode cX10_risk 7 = .ok (.imul, 1) := by decide +kernel
theorem dX10_risk_8 : decode cX10_risk 8 = .ok (.iconst 0, 1) := by decide +kernel
theorem dX10_risk_9 : decode cX10_risk 9 = .ok (.iadd, 1) := by decide +kernel
theorem dX10_risk_10 : decode cX10_risk 10 = .ok (.iaload, 1) := by decide +kernel
theorem dX10_risk_11 : decode cX10_risk 11 = .ok (.aload_n 0, 1) := by decide +kernel
theorem dX10_risk_12 : decode cX10_risk 12 = .ok (.getfield 34, 3) := by decide +kernel
theorem dX10_risk_15 : decode cX10_risk 15 = .ok (.iload_n 1, 1) := by decide +kernel
theorem dX10_risk_16 : decode cX10_risk 16 = .ok (.bipush 7, 2) := by decide +kernel
theorem dX10_risk_18 : decode cX10_risk 18 = .ok (.imul, 1) := by decide +kernel
theorem dX10_risk_19 : decode cX10_risk 19 = .ok (.bipush 6, 2) := by decide +kernel
theorem dX10_risk_21 : decode cX10_risk 21 = .ok (.iadd, 1) := by decide +kernel
theorem dX10_risk_22 : decode cX10_risk 22 = .ok (.iaload, 1) := by decide +kernel
theorem dX10_risk_23 : decode cX10_risk 23 = .ok (.imul, 1) := by decide +kernel
theorem dX10_risk_24 : decode cX10_risk 24 = .ok (.ireturn, 1) := by decide +kernel
theorem wp_X10_risk_0 {d : Nat} {k : Nat} (hk : is_X10 k) {s : ev_S} {Q : Option ev_V → ev_S → Prop} {a1 : Int}
    (h : ((0 ≤ (ev_add (ev_mul a1 7) 0) ∧ (ev_add (ev_mul a1 7) 0) < (70 : Nat)) ∧ ((0 ≤ (ev_add (ev_mul a1 7) 6) ∧ (ev_add (ev_mul a1 7) 6) < (70 : Nat)) ∧ Q (some (ev_i (ev_mul (s (k + 8) (Int.toNat (ev_add (ev_mul a1 7) 0))) (s (k + 8) (Int.toNat (ev_add (ev_mul a1 7) 6)))))) s))) :
    Ev layX M_X10_risk d 0 [(0, ev_r k), (1, ev_i a1)] [] s Q := by
  refine Ev_aload_n 0 dX10_risk_0 rfl rfl ?_
  refine Ev_getR (i := 14) cl_X10 hk.1 (Nat.le_of_ble_eq_true rfl) rfl wd_290 dX10_risk_1 ?_
  refine Ev_iload_n 1 dX10_risk_4 rfl rfl ?_
  refine Ev_bipushC dX10_risk_5 rfl ?_
  refine Ev_imul dX10_risk_7 ?_
  refine Ev_iconst dX10_risk_8 rfl (ev_Rc rfl) ?_
  refine Ev_iadd dX10_risk_9 ?_
  obtain ⟨h0, h⟩ := h
  refine Ev_iald hk.2.2.2.2.2.2.2.2.1 h0 dX10_risk_10 ?_
  refine Ev_aload_n 0 dX10_risk_11 rfl rfl ?_
  refine Ev_getR (i := 14) cl_X10 hk.1 (Nat.le_of_ble_eq_true rfl) rfl wd_290 dX10_risk_12 ?_
  refine Ev_iload_n 1 dX10_risk_15 rfl rfl ?_
  refine Ev_bipushC dX10_risk_16 rfl ?_
  refine Ev_imul dX10_risk_18 ?_
  refine Ev_bipushC dX10_risk_19 rfl ?_
  refine Ev_iadd dX10_risk_21 ?_
  obtain ⟨h0, h⟩ := h
  refine Ev_iald hk.2.2.2.2.2.2.2.2.1 h0 dX10_risk_22 ?_
  refine Ev_imul dX10_risk_23 ?_
  exact Ev_iret rfl dX10_risk_24 rfl h
