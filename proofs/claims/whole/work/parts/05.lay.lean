section EvJ
variable {Y : List ev_C} {M : ev_M} {d pc : Nat} {l : List (Nat × ev_V)} {st : List ev_V} {σ : ev_S} {Q : Option ev_V → ev_S → Prop}
theorem ev_Rc {z : Int} (h : decide (-2147483648 ≤ z ∧ z ≤ 2147483647) = true) : ev_R z := by
  have q := of_decide_eq_true h
  exact q
theorem ev_RLc {z : Int} (h : decide (-9223372036854775808 ≤ z ∧ z ≤ 9223372036854775807) = true) : ev_RL z := by
  have q := of_decide_eq_true h
  exact q
theorem ev_nb {z : Int} (h : z = 0 ∨ z = 1) : narrow .boolean (.int (Int32.ofInt z)) = .int (Int32.ofInt z) := by
  rcases h with rfl | rfl <;> decide +kernel
theorem ev_fb {z : Int} (h : z = 0 ∨ z = 1) : fits .boolean (.int (Int32.ofInt z)) = true := by
  rcases h with rfl | rfl <;> decide +kernel
def ev_pi (f : Int → ev_S → Prop) : Option ev_V → ev_S → Prop := fun v u => ∀ z, v = some (ev_i z) → f z u
def ev_pl (f : Int → ev_S → Prop) : Option ev_V → ev_S → Prop := fun v u => ∀ z, v = some (ev_l z) → f z u
theorem ev_pi_mk {f : Int → ev_S → Prop} {z : Int} {u : ev_S} (h : f z u) : ev_pi f (some (ev_i z)) u := fun y e => by cases e; exact h
theorem ev_pl_mk {f : Int → ev_S → Prop} {z : Int} {u : ev_S} (h : f z u) : ev_pl f (some (ev_l z)) u := fun y e => by cases e; exact h
theorem Ev_nm (k : ∀ s1, σ = s1 → Ev Y M d pc l st s1 Q) : Ev Y M d pc l st σ Q := k σ rfl
theorem Ev_bipushC {n : Int} (hd : decode M.2.1 pc = .ok (.bipush n, 2)) (h : decide (-128 ≤ n ∧ n ≤ 127) = true) (k : Ev Y M d (pc + 2) l (ev_i n :: st) σ Q) : Ev Y M d pc l st σ Q := by
  have h := of_decide_eq_true h
  have hr : ev_R n := ⟨by omega, by omega⟩
  refine Ev_bipush hd ?_ hr k
  apply Int32.toInt_inj.mp
  have e : Int8.size = 256 := rfl
  rw [ev_to hr, Int8.toInt_toInt32, Int8.toInt_ofInt, e]
  exact Int.bmod_eq_of_le (by omega) (by omega)
theorem Ev_sipushC {n : Int} (hd : decode M.2.1 pc = .ok (.sipush n, 3)) (h : decide (-32768 ≤ n ∧ n ≤ 32767) = true) (k : Ev Y M d (pc + 3) l (ev_i n :: st) σ Q) : Ev Y M d pc l st σ Q := by
  have h := of_decide_eq_true h
  have hr : ev_R n := ⟨by omega, by omega⟩
  refine Ev_sipush hd ?_ hr k
  apply Int32.toInt_inj.mp
  have e : Int16.size = 65536 := rfl
  rw [ev_to hr, Int16.toInt_toInt32, Int16.toInt_ofInt, e]
  exact Int.bmod_eq_of_le (by omega) (by omega)
def ev_lcmp (x y : Int) : Int := (lg_cmp (Int64.ofInt x) (Int64.ofInt y)).toInt
theorem Ev_lcmp {x y : Int} (hd : decode M.2.1 pc = .ok (.lcmp, 1)) (k : Ev Y M d (pc + 1) l (ev_i (ev_lcmp x y) :: st) σ Q) : Ev Y M d pc l (ev_l y :: ev_l x :: st) σ Q := by
  intro p L e s m args below meth c D ct ad A H locs ls X hH hl ho hs
  refine W.lcmp X.1 X.2.1 hd ?_
  have h := k p L e s m args below meth c D ct ad A H locs ls X hH hl ho (ev_oks_cons (ev_Rt _) (ev_oks_tail (ev_oks_tail hs)))
  simp only [List.map_cons, ev_v, ev_lcmp, ev_of] at h
  exact h
def ev_cp (σ : ev_S) (ks sp kd dp n : Nat) : ev_S := fun a b => if a = kd ∧ dp ≤ b ∧ b < dp + n then σ ks (sp + (b - dp)) else σ a b
theorem ev_cp_ok {ks sp kd dp n : Nat} (h : ev_ok σ) : ev_ok (ev_cp σ ks sp kd dp n) := by
  intro a b
  unfold ev_cp
  split
  · exact h _ _
  · exact h _ _
theorem ev_cp_cell (ct : Nat → ClassId) (ad : Nat → Nat) (σ : ev_S) (ks sp kd dp n t n1 : Nat) : ev_cell ct ad (ev_cp σ ks sp kd dp n kd) (.inl (t, n1)) = .inl (ct t, n1, .inl (va_cpy (fun j => Int32.ofInt (σ ks j)) (fun j => Int32.ofInt (σ kd j)) sp dp n)) := by
  simp only [ev_cell]
  congr 4
  funext j
  simp only [ev_cp, va_cpy, true_and]
  split <;> rfl
theorem ev_w_native : Cond.native arraycopyName ∈ lw_tbl := List.mem_of_getElem? (i := 1035) (by decide +kernel)
theorem ev_w_acs : Cond.static arraycopyName ∈ lw_tbl := List.mem_of_getElem? (i := 1034) (by decide +kernel)
theorem ev_w_aci : Cond.initialized "java/lang/System" ∈ lw_tbl := List.mem_of_getElem? (i := 195) (by decide +kernel)
theorem ev_nfw : nativeFrameWords "java/lang/System" "arraycopy" 5 ≤ 40 := by decide +kernel
theorem Ev_copyi {ks kd n0 n1 idx : Nat} {sp dp n : Int} (hYs : Y[ks]? = some (.inl (0, n0))) (hYd : Y[kd]? = some (.inl (0, n1))) (h : 0 ≤ sp ∧ 0 ≤ dp ∧ 0 ≤ n ∧ sp + n ≤ (n0 : Nat) ∧ dp + n ≤ (n1 : Nat)) (hw : Cond.methodLink M.1 idx arraycopyName ∈ lw_tbl) (hd : decode M.2.1 pc = .ok (.invokestatic idx, 3)) (h8 : ev_st8 st) (kk : Ev Y M (d + 1) (pc + 3) l st (ev_cp σ ks (Int.toNat sp) kd (Int.toNat dp) (Int.toNat n)) Q) : Ev Y M (d + 1) pc l (ev_i n :: ev_i dp :: ev_r kd :: ev_i sp :: ev_r ks :: st) σ Q := by
  intro p L e s m args below meth c D ct ad A H locs ls X hH hl ho hs
  have hxn : ev_R n := ev_oks_head hs
  have hxd : ev_R dp := ev_oks_head (ev_oks_tail hs)
  have hxs : ev_R sp := ev_oks_head (ev_oks_tail (ev_oks_tail (ev_oks_tail hs)))
  have hs2 := ev_oks_tail (ev_oks_tail (ev_oks_tail (ev_oks_tail (ev_oks_tail hs))))
  have ng : ∀ {z : Int}, ev_R z → 0 ≤ z → ¬ Int32.ofInt z < 0 := fun hz h0 q => absurd ((ev_lt hz ev_R0).mp q) (by omega)
  have h5 := h.2.2.2.2
  have hroom : ((st.map (ev_v ad)).map fun v => v.category).sum + (nativeFrameWords "java/lang/System" "arraycopy" 5 + 11) ≤ (ev_rm (d + 1)).locals := by
    have q1 := ev_st8_ok (ad := ad) h8
    have q2 := ev_nfw
    show _ ≤ 64 * (d + 1)
    omega
  refine va_copyi X.1 X.2.1 (by rw [X.2.2.2.1, hl.1]) X.2.2.2.2.1 (ev_hts X hw rfl) (ev_hts X ev_w_native rfl) (ev_hts X ev_w_acs rfl) (ev_hts X ev_w_aci rfl) X.2.2.2.2.2.2.2.1 hH.1 hH.2.1 hH.2.2.1 ks kd 0 0 (ev_at hYs) (ev_at hYd) rfl rfl rfl (ng hxs h.1) (ng hxd h.2.1) (ng hxn h.2.2.1) (by rw [ev_clamp hxs, ev_clamp hxn]; omega) (by rw [ev_clamp hxd, ev_clamp hxn]; omega) (fun i _ => rfl) (by show 1 ≤ d + 1; omega) hroom hd (fun H1 locs1 hP hD hS => ?_)
  rw [ev_clamp hxs, ev_clamp hxd, ev_clamp hxn, ev_ws_set (σ' := ev_cp σ ks (Int.toNat sp) kd (Int.toNat dp) (Int.toNat n)) hYd (ev_cp_cell ct ad σ ks _ kd _ _ 0 n1) (fun j hj => by funext b; simp [ev_cp, hj])] at hP hD
  exact kk p L e s m args below meth c D ct ad A H1 locs1 ls X ⟨hP, hD, hS, ev_cp_ok hH.2.2.2⟩ hl ho hs2
theorem ev_fitb {z : Int} (h : -128 ≤ z ∧ z ≤ 127) : fits .byte (.int (Int32.ofInt z)) = true := by
  have e : (Int32.ofInt z) = (Int32.ofInt z).toInt8.toInt32 := by
    apply Int32.toInt_inj.mp
    have hr : ev_R z := ⟨by omega, by omega⟩
    have e : Int8.size = 256 := rfl
    rw [Int8.toInt_toInt32, Int32.toInt_toInt8, ev_to hr]
    exact (Int.bmod_eq_of_le (by omega) (by omega)).symm
  rw [e]; exact pk_fb _
theorem Ev_copyb {ks kd n0 n1 idx : Nat} {sp dp n : Int} (hYs : Y[ks]? = some (.inl (1, n0))) (hYd : Y[kd]? = some (.inl (1, n1))) (h : 0 ≤ sp ∧ 0 ≤ dp ∧ 0 ≤ n ∧ sp + n ≤ (n0 : Nat) ∧ dp + n ≤ (n1 : Nat) ∧ (∀ i : Nat, i < Int.toNat n → -128 ≤ σ ks (Int.toNat sp + i) ∧ σ ks (Int.toNat sp + i) ≤ 127)) (hw : Cond.methodLink M.1 idx arraycopyName ∈ lw_tbl) (hd : decode M.2.1 pc = .ok (.invokestatic idx, 3)) (h8 : ev_st8 st) (kk : Ev Y M (d + 1) (pc + 3) l st (ev_cp σ ks (Int.toNat sp) kd (Int.toNat dp) (Int.toNat n)) Q) : Ev Y M (d + 1) pc l (ev_i n :: ev_i dp :: ev_r kd :: ev_i sp :: ev_r ks :: st) σ Q := by
  intro p L e s m args below meth c D ct ad A H locs ls X hH hl ho hs
  have hxn : ev_R n := ev_oks_head hs
  have hxd : ev_R dp := ev_oks_head (ev_oks_tail hs)
  have hxs : ev_R sp := ev_oks_head (ev_oks_tail (ev_oks_tail (ev_oks_tail hs)))
  have hs2 := ev_oks_tail (ev_oks_tail (ev_oks_tail (ev_oks_tail (ev_oks_tail hs))))
  have ng : ∀ {z : Int}, ev_R z → 0 ≤ z → ¬ Int32.ofInt z < 0 := fun hz h0 q => absurd ((ev_lt hz ev_R0).mp q) (by omega)
  have h5 := h.2.2.2.2.1
  have hroom : ((st.map (ev_v ad)).map fun v => v.category).sum + (nativeFrameWords "java/lang/System" "arraycopy" 5 + 11) ≤ (ev_rm (d + 1)).locals := by
    have q1 := ev_st8_ok (ad := ad) h8
    have q2 := ev_nfw
    show _ ≤ 64 * (d + 1)
    omega
  refine va_copyi X.1 X.2.1 (by rw [X.2.2.2.1, hl.1]) X.2.2.2.2.1 (ev_hts X hw rfl) (ev_hts X ev_w_native rfl) (ev_hts X ev_w_acs rfl) (ev_hts X ev_w_aci rfl) X.2.2.2.2.2.2.2.1 hH.1 hH.2.1 hH.2.2.1 ks kd 1 1 (ev_at hYs) (ev_at hYd) rfl rfl rfl (ng hxs h.1) (ng hxd h.2.1) (ng hxn h.2.2.1) (by rw [ev_clamp hxs, ev_clamp hxn]; omega) (by rw [ev_clamp hxd, ev_clamp hxn]; omega) (fun i hi => by rw [ev_clamp hxs]; exact ev_fitb (h.2.2.2.2.2 i (by rw [ev_clamp hxn] at hi; exact hi))) (by show 1 ≤ d + 1; omega) hroom hd (fun H1 locs1 hP hD hS => ?_)
  rw [ev_clamp hxs, ev_clamp hxd, ev_clamp hxn, ev_ws_set (σ' := ev_cp σ ks (Int.toNat sp) kd (Int.toNat dp) (Int.toNat n)) hYd (ev_cp_cell ct ad σ ks _ kd _ _ 1 n1) (fun j hj => by funext b; simp [ev_cp, hj])] at hP hD
  exact kk p L e s m args below meth c D ct ad A H1 locs1 ls X ⟨hP, hD, hS, ev_cp_ok hH.2.2.2⟩ hl ho hs2
end EvJ
def layX : List ev_C := [.inr (.inl (11, [some 1, some 15, some 27, some 29, some 103, some 132, some 137, some 144, some 146, some 162])),
  .inr (.inl (10, [none, none, none, some 2, none, some 3, some 4, none, some 5, some 6, some 7, none, some 8, none, some 9, some 10])),
  .inl (0, 5),
  .inl (1, 4800),
  .inl (0, 8),
  .inl (0, 6),
  .inl (0, 480),
  .inl (0, 6),
  .inl (0, 18),
  .inl (0, 70),
  .inr (.inl (4, [some 11, some 12, some 13, some 14, none, none])),
  .inl (0, 800),
  .inl (0, 17),
  .inl (0, 16),
  .inl (0, 32),
  .inr (.inl (2, [none, none, some 16, some 17, some 18, some 19, some 20, some 21, some 22, some 23, some 24, some 25, some 26, none])),
  .inl (0, 8),
  .inl (0, 8),
  .inl (0, 8),
  .inl (0, 6),
  .inl (0, 6),
  .inl (0, 6),
  .inl (0, 6),
  .inl (0, 6),
  .inl (0, 10),
  .inl (0, 10),
  .inl (0, 10),
  .inr (.inl (0, [some 28])),
  .inl (0, 500),
  .inr (.inl (5, [some 30, none, none])),
  .inr (.inr (3, [31, 43, 55, 67, 79, 91])),
  .inr (.inl (2, [none, none, some 32, some 33, some 34, some 35, some 36, some 37, some 38, some 39, some 40, some 41, some 42, none])),
  .inl (0, 8),
  .inl (0, 8),
  .inl (0, 8),
  .inl (0, 6),
  .inl (0, 6),
  .inl (0, 6),
  .inl (0, 6),
  .inl (0, 6),
  .inl (0, 10),
  .inl (0, 10),
  .inl (0, 10),
  .inr (.inl (2, [none, none, some 44, some 45, some 46, some 47, some 48, some 49, some 50, some 51, some 52, some 53, some 54, none])),
  .inl (0, 8),
  .inl (0, 8),
  .inl (0, 8),
  .inl (0, 6),
  .inl (0, 6),
  .inl (0, 6),
  .inl (0, 6),
  .inl (0, 6),
  .inl (0, 10),
  .inl (0, 10),
  .inl (0, 10),
  .inr (.inl (2, [none, none, some 56, some 57, some 58, some 59, some 60, some 61, some 62, some 63, some 64, some 65, some 66, none])),
  .inl (0, 8),
  .inl (0, 8),
  .inl (0, 8),
  .inl (0, 6),
  .inl (0, 6),
  .inl (0, 6),
  .inl (0, 6),
  .inl (0, 6),
  .inl (0, 10),
  .inl (0, 10),
  .inl (0, 10),
  .inr (.inl (2, [none, none, some 68, some 69, some 70, some 71, some 72, some 73, some 74, some 75, some 76, some 77, some 78, none])),
  .inl (0, 8),
  .inl (0, 8),
  .inl (0, 8),
  .inl (0, 6),
  .inl (0, 6),
  .inl (0, 6),
  .inl (0, 6),
  .inl (0, 6),
  .inl (0, 10),
  .inl (0, 10),
  .inl (0, 10),
  .inr (.inl (2, [none, none, some 80, some 81, some 82, some 83, some 84, some 85, some 86, some 87, some 88, some 89, some 90, none])),
  .inl (0, 8),
  .inl (0, 8),
  .inl (0, 8),
  .inl (0, 6),
  .inl (0, 6),
  .inl (0, 6),
  .inl (0, 6),
  .inl (0, 6),
  .inl (0, 10),
  .inl (0, 10),
  .inl (0, 10),
  .inr (.inl (2, [none, none, some 92, some 93, some 94, some 95, some 96, some 97, some 98, some 99, some 100, some 101, some 102, none])),
  .inl (0, 8),
  .inl (0, 8),
  .inl (0, 8),
  .inl (0, 6),
  .inl (0, 6),
  .inl (0, 6),
  .inl (0, 6),
  .inl (0, 6),
  .inl (0, 10),
  .inl (0, 10),
  .inl (0, 10),
  .inr (.inl (6, [some 104, some 118, some 130, none])),
  .inr (.inl (10, [none, none, none, some 105, none, some 106, some 107, none, some 108, some 109, some 110, none, some 111, none, some 112, some 113])),
  .inl (0, 5),
  .inl (1, 4800),
  .inl (0, 8),
  .inl (0, 6),
  .inl (0, 480),
  .inl (0, 6),
  .inl (0, 18),
  .inl (0, 70),
  .inr (.inl (4, [some 114, some 115, some 116, some 117, none, none])),
  .inl (0, 800),
  .inl (0, 17),
  .inl (0, 16),
  .inl (0, 32),
  .inr (.inl (2, [none, none, some 119, some 120, some 121, some 122, some 123, some 124, some 125, some 126, some 127, some 128, some 129, none])),
  .inl (0, 8),
  .inl (0, 8),
  .inl (0, 8),
  .inl (0, 6),
  .inl (0, 6),
  .inl (0, 6),
  .inl (0, 6),
  .inl (0, 6),
  .inl (0, 10),
  .inl (0, 10),
  .inl (0, 10),
  .inr (.inl (0, [some 131])),
  .inl (0, 500),
  .inr (.inl (9, [some 133, none, some 134, some 135, some 136, none])),
  .inl (1, 400),
  .inl (0, 400),
  .inl (0, 400),
  .inl (0, 400),
  .inr (.inl (8, [some 132, some 1, some 138, none, none, some 139, none, none, none, none])),
  .inl (0, 600),
  .inr (.inl (4, [some 140, some 141, some 142, some 143, none, none])),
  .inl (0, 800),
  .inl (0, 17),
  .inl (0, 16),
  .inl (0, 32),
  .inr (.inl (7, [some 1, some 27, some 145])),
  .inl (0, 9),
  .inr (.inl (3, [some 1, some 15, some 144, some 147, some 159, some 160, some 161, none, none, none, none, none])),
  .inr (.inl (2, [none, none, some 148, some 149, some 150, some 151, some 152, some 153, some 154, some 155, some 156, some 157, some 158, none])),
  .inl (0, 8),
  .inl (0, 8),
  .inl (0, 8),
  .inl (0, 6),
  .inl (0, 6),
  .inl (0, 6),
  .inl (0, 6),
  .inl (0, 6),
  .inl (0, 10),
  .inl (0, 10),
  .inl (0, 10),
  .inl (0, 10),
  .inl (0, 600),
  .inl (0, 600),
  .inr (.inl (1, [some 1, some 15, some 146, none, some 163, some 164, some 165, some 166, some 167, some 168, some 169, some 170, some 171, some 172, some 173, some 174, some 175, none, none, none])),
  .inl (0, 10),
  .inl (0, 10),
  .inl (0, 100),
  .inl (0, 1024),
  .inl (0, 6),
  .inl (0, 192),
  .inl (0, 2048),
  .inl (0, 1512),
  .inl (0, 6),
  .inl (0, 64),
  .inl (0, 10240),
  .inl (0, 6),
  .inl (0, 6)]
def layM : List ev_C := [.inr (.inl (12, [none, some 1, some 2, none, some 3, none, none, none, none, some 4, none, none, none, some 5, some 6, some 7, some 8, some 9, some 10, none, none, none, none, none, some 11, none, some 12, some 13, some 14, some 15, some 16, none, none, some 17, none, none, none, none, none, some 18, some 19, none, some 20, some 21, some 22, some 23, none, some 24, some 25, some 26, some 27, some 28, some 29, some 30, some 31, some 32, some 33, some 34, some 35, none, none, none, none, some 36])),
  .inl (0, 87),
  .inl (0, 522),
  .inl (0, 87),
  .inl (0, 5),
  .inl (0, 6),
  .inl (0, 6),
  .inl (0, 6),
  .inl (0, 6),
  .inl (0, 500),
  .inl (0, 400),
  .inl (0, 178),
  .inl (0, 32),
  .inl (0, 32),
  .inl (0, 32),
  .inl (0, 800),
  .inl (0, 800),
  .inl (0, 40),
  .inl (0, 100),
  .inl (0, 100),
  .inl (0, 5400),
  .inl (0, 8),
  .inl (0, 4),
  .inl (0, 4),
  .inl (0, 140),
  .inl (0, 280),
  .inl (0, 280),
  .inl (0, 6),
  .inl (0, 9),
  .inl (0, 420),
  .inl (0, 10),
  .inl (2, 6144),
  .inl (0, 10240),
  .inl (0, 1024),
  .inl (0, 65536),
  .inl (0, 6),
  .inl (0, 7200)]
theorem yX_0 : layX[0]? = some (.inr (.inl (11, [some 1, some 15, some 27, some 29, some 103, some 132, some 137, some 144, some 146, some 162]))) := rfl
theorem yX_1 : layX[1]? = some (.inr (.inl (10, [none, none, none, some 2, none, some 3, some 4, none, some 5, some 6, some 7, none, some 8, none, some 9, some 10]))) := rfl
theorem yX_2 : layX[2]? = some (.inl (0, 5)) := rfl
theorem yX_3 : layX[3]? = some (.inl (1, 4800)) := rfl
theorem yX_4 : layX[4]? = some (.inl (0, 8)) := rfl
theorem yX_5 : layX[5]? = some (.inl (0, 6)) := rfl
theorem yX_6 : layX[6]? = some (.inl (0, 480)) := rfl
theorem yX_7 : layX[7]? = some (.inl (0, 6)) := rfl
theorem yX_8 : layX[8]? = some (.inl (0, 18)) := rfl
theorem yX_9 : layX[9]? = some (.inl (0, 70)) := rfl
theorem yX_10 : layX[10]? = some (.inr (.inl (4, [some 11, some 12, some 13, some 14, none, none]))) := rfl
theorem yX_11 : layX[11]? = some (.inl (0, 800)) := rfl
theorem yX_12 : layX[12]? = some (.inl (0, 17)) := rfl
theorem yX_13 : layX[13]? = some (.inl (0, 16)) := rfl
theorem yX_14 : layX[14]? = some (.inl (0, 32)) := rfl
theorem yX_15 : layX[15]? = some (.inr (.inl (2, [none, none, some 16, some 17, some 18, some 19, some 20, some 21, some 22, some 23, some 24, some 25, some 26, none]))) := rfl
theorem yX_16 : layX[16]? = some (.inl (0, 8)) := rfl
theorem yX_17 : layX[17]? = some (.inl (0, 8)) := rfl
theorem yX_18 : layX[18]? = some (.inl (0, 8)) := rfl
theorem yX_19 : layX[19]? = some (.inl (0, 6)) := rfl
theorem yX_20 : layX[20]? = some (.inl (0, 6)) := rfl
theorem yX_21 : layX[21]? = some (.inl (0, 6)) := rfl
theorem yX_22 : layX[22]? = some (.inl (0, 6)) := rfl
theorem yX_23 : layX[23]? = some (.inl (0, 6)) := rfl
theorem yX_24 : layX[24]? = some (.inl (0, 10)) := rfl
theorem yX_25 : layX[25]? = some (.inl (0, 10)) := rfl
theorem yX_26 : layX[26]? = some (.inl (0, 10)) := rfl
theorem yX_27 : layX[27]? = some (.inr (.inl (0, [some 28]))) := rfl
theorem yX_28 : layX[28]? = some (.inl (0, 500)) := rfl
theorem yX_29 : layX[29]? = some (.inr (.inl (5, [some 30, none, none]))) := rfl
theorem yX_30 : layX[30]? = some (.inr (.inr (3, [31, 43, 55, 67, 79, 91]))) := rfl
theorem yX_31 : layX[31]? = some (.inr (.inl (2, [none, none, some 32, some 33, some 34, some 35, some 36, some 37, some 38, some 39, some 40, some 41, some 42, none]))) := rfl
theorem yX_32 : layX[32]? = some (.inl (0, 8)) := rfl
theorem yX_33 : layX[33]? = some (.inl (0, 8)) := rfl
theorem yX_34 : layX[34]? = some (.inl (0, 8)) := rfl
theorem yX_35 : layX[35]? = some (.inl (0, 6)) := rfl
theorem yX_36 : layX[36]? = some (.inl (0, 6)) := rfl
theorem yX_37 : layX[37]? = some (.inl (0, 6)) := rfl
theorem yX_38 : layX[38]? = some (.inl (0, 6)) := rfl
theorem yX_39 : layX[39]? = some (.inl (0, 6)) := rfl
theorem yX_40 : layX[40]? = some (.inl (0, 10)) := rfl
theorem yX_41 : layX[41]? = some (.inl (0, 10)) := rfl
theorem yX_42 : layX[42]? = some (.inl (0, 10)) := rfl
theorem yX_43 : layX[43]? = some (.inr (.inl (2, [none, none, some 44, some 45, some 46, some 47, some 48, some 49, some 50, some 51, some 52, some 53, some 54, none]))) := rfl
theorem yX_44 : layX[44]? = some (.inl (0, 8)) := rfl
theorem yX_45 : layX[45]? = some (.inl (0, 8)) := rfl
theorem yX_46 : layX[46]? = some (.inl (0, 8)) := rfl
theorem yX_47 : layX[47]? = some (.inl (0, 6)) := rfl
theorem yX_48 : layX[48]? = some (.inl (0, 6)) := rfl
theorem yX_49 : layX[49]? = some (.inl (0, 6)) := rfl
theorem yX_50 : layX[50]? = some (.inl (0, 6)) := rfl
theorem yX_51 : layX[51]? = some (.inl (0, 6)) := rfl
theorem yX_52 : layX[52]? = some (.inl (0, 10)) := rfl
theorem yX_53 : layX[53]? = some (.inl (0, 10)) := rfl
theorem yX_54 : layX[54]? = some (.inl (0, 10)) := rfl
theorem yX_55 : layX[55]? = some (.inr (.inl (2, [none, none, some 56, some 57, some 58, some 59, some 60, some 61, some 62, some 63, some 64, some 65, some 66, none]))) := rfl
theorem yX_56 : layX[56]? = some (.inl (0, 8)) := rfl
theorem yX_57 : layX[57]? = some (.inl (0, 8)) := rfl
theorem yX_58 : layX[58]? = some (.inl (0, 8)) := rfl
theorem yX_59 : layX[59]? = some (.inl (0, 6)) := rfl
theorem yX_60 : layX[60]? = some (.inl (0, 6)) := rfl
theorem yX_61 : layX[61]? = some (.inl (0, 6)) := rfl
theorem yX_62 : layX[62]? = some (.inl (0, 6)) := rfl
theorem yX_63 : layX[63]? = some (.inl (0, 6)) := rfl
theorem yX_64 : layX[64]? = some (.inl (0, 10)) := rfl
theorem yX_65 : layX[65]? = some (.inl (0, 10)) := rfl
theorem yX_66 : layX[66]? = some (.inl (0, 10)) := rfl
theorem yX_67 : layX[67]? = some (.inr (.inl (2, [none, none, some 68, some 69, some 70, some 71, some 72, some 73, some 74, some 75, some 76, some 77, some 78, none]))) := rfl
theorem yX_68 : layX[68]? = some (.inl (0, 8)) := rfl
theorem yX_69 : layX[69]? = some (.inl (0, 8)) := rfl
theorem yX_70 : layX[70]? = some (.inl (0, 8)) := rfl
theorem yX_71 : layX[71]? = some (.inl (0, 6)) := rfl
theorem yX_72 : layX[72]? = some (.inl (0, 6)) := rfl
theorem yX_73 : layX[73]? = some (.inl (0, 6)) := rfl
theorem yX_74 : layX[74]? = some (.inl (0, 6)) := rfl
theorem yX_75 : layX[75]? = some (.inl (0, 6)) := rfl
theorem yX_76 : layX[76]? = some (.inl (0, 10)) := rfl
theorem yX_77 : layX[77]? = some (.inl (0, 10)) := rfl
theorem yX_78 : layX[78]? = some (.inl (0, 10)) := rfl
theorem yX_79 : layX[79]? = some (.inr (.inl (2, [none, none, some 80, some 81, some 82, some 83, some 84, some 85, some 86, some 87, some 88, some 89, some 90, none]))) := rfl
theorem yX_80 : layX[80]? = some (.inl (0, 8)) := rfl
theorem yX_81 : layX[81]? = some (.inl (0, 8)) := rfl
theorem yX_82 : layX[82]? = some (.inl (0, 8)) := rfl
theorem yX_83 : layX[83]? = some (.inl (0, 6)) := rfl
theorem yX_84 : layX[84]? = some (.inl (0, 6)) := rfl
theorem yX_85 : layX[85]? = some (.inl (0, 6)) := rfl
theorem yX_86 : layX[86]? = some (.inl (0, 6)) := rfl
theorem yX_87 : layX[87]? = some (.inl (0, 6)) := rfl
theorem yX_88 : layX[88]? = some (.inl (0, 10)) := rfl
theorem yX_89 : layX[89]? = some (.inl (0, 10)) := rfl
theorem yX_90 : layX[90]? = some (.inl (0, 10)) := rfl
theorem yX_91 : layX[91]? = some (.inr (.inl (2, [none, none, some 92, some 93, some 94, some 95, some 96, some 97, some 98, some 99, some 100, some 101, some 102, none]))) := rfl
theorem yX_92 : layX[92]? = some (.inl (0, 8)) := rfl
theorem yX_93 : layX[93]? = some (.inl (0, 8)) := rfl
theorem yX_94 : layX[94]? = some (.inl (0, 8)) := rfl
theorem yX_95 : layX[95]? = some (.inl (0, 6)) := rfl
theorem yX_96 : layX[96]? = some (.inl (0, 6)) := rfl
theorem yX_97 : layX[97]? = some (.inl (0, 6)) := rfl
theorem yX_98 : layX[98]? = some (.inl (0, 6)) := rfl
theorem yX_99 : layX[99]? = some (.inl (0, 6)) := rfl
theorem yX_100 : layX[100]? = some (.inl (0, 10)) := rfl
theorem yX_101 : layX[101]? = some (.inl (0, 10)) := rfl
theorem yX_102 : layX[102]? = some (.inl (0, 10)) := rfl
theorem yX_103 : layX[103]? = some (.inr (.inl (6, [some 104, some 118, some 130, none]))) := rfl
theorem yX_104 : layX[104]? = some (.inr (.inl (10, [none, none, none, some 105, none, some 106, some 107, none, some 108, some 109, some 110, none, some 111, none, some 112, some 113]))) := rfl
theorem yX_105 : layX[105]? = some (.inl (0, 5)) := rfl
theorem yX_106 : layX[106]? = some (.inl (1, 4800)) := rfl
theorem yX_107 : layX[107]? = some (.inl (0, 8)) := rfl
theorem yX_108 : layX[108]? = some (.inl (0, 6)) := rfl
theorem yX_109 : layX[109]? = some (.inl (0, 480)) := rfl
theorem yX_110 : layX[110]? = some (.inl (0, 6)) := rfl
theorem yX_111 : layX[111]? = some (.inl (0, 18)) := rfl
theorem yX_112 : layX[112]? = some (.inl (0, 70)) := rfl
theorem yX_113 : layX[113]? = some (.inr (.inl (4, [some 114, some 115, some 116, some 117, none, none]))) := rfl
theorem yX_114 : layX[114]? = some (.inl (0, 800)) := rfl
theorem yX_115 : layX[115]? = some (.inl (0, 17)) := rfl
theorem yX_116 : layX[116]? = some (.inl (0, 16)) := rfl
theorem yX_117 : layX[117]? = some (.inl (0, 32)) := rfl
theorem yX_118 : layX[118]? = some (.inr (.inl (2, [none, none, some 119, some 120, some 121, some 122, some 123, some 124, some 125, some 126, some 127, some 128, some 129, none]))) := rfl
theorem yX_119 : layX[119]? = some (.inl (0, 8)) := rfl
theorem yX_120 : layX[120]? = some (.inl (0, 8)) := rfl
theorem yX_121 : layX[121]? = some (.inl (0, 8)) := rfl
theorem yX_122 : layX[122]? = some (.inl (0, 6)) := rfl
theorem yX_123 : layX[123]? = some (.inl (0, 6)) := rfl
theorem yX_124 : layX[124]? = some (.inl (0, 6)) := rfl
theorem yX_125 : layX[125]? = some (.inl (0, 6)) := rfl
theorem yX_126 : layX[126]? = some (.inl (0, 6)) := rfl
theorem yX_127 : layX[127]? = some (.inl (0, 10)) := rfl
theorem yX_128 : layX[128]? = some (.inl (0, 10)) := rfl
theorem yX_129 : layX[129]? = some (.inl (0, 10)) := rfl
theorem yX_130 : layX[130]? = some (.inr (.inl (0, [some 131]))) := rfl
theorem yX_131 : layX[131]? = some (.inl (0, 500)) := rfl
theorem yX_132 : layX[132]? = some (.inr (.inl (9, [some 133, none, some 134, some 135, some 136, none]))) := rfl
theorem yX_133 : layX[133]? = some (.inl (1, 400)) := rfl
theorem yX_134 : layX[134]? = some (.inl (0, 400)) := rfl
theorem yX_135 : layX[135]? = some (.inl (0, 400)) := rfl
theorem yX_136 : layX[136]? = some (.inl (0, 400)) := rfl
theorem yX_137 : layX[137]? = some (.inr (.inl (8, [some 132, some 1, some 138, none, none, some 139, none, none, none, none]))) := rfl
theorem yX_138 : layX[138]? = some (.inl (0, 600)) := rfl
theorem yX_139 : layX[139]? = some (.inr (.inl (4, [some 140, some 141, some 142, some 143, none, none]))) := rfl
theorem yX_140 : layX[140]? = some (.inl (0, 800)) := rfl
theorem yX_141 : layX[141]? = some (.inl (0, 17)) := rfl
theorem yX_142 : layX[142]? = some (.inl (0, 16)) := rfl
theorem yX_143 : layX[143]? = some (.inl (0, 32)) := rfl
theorem yX_144 : layX[144]? = some (.inr (.inl (7, [some 1, some 27, some 145]))) := rfl
theorem yX_145 : layX[145]? = some (.inl (0, 9)) := rfl
theorem yX_146 : layX[146]? = some (.inr (.inl (3, [some 1, some 15, some 144, some 147, some 159, some 160, some 161, none, none, none, none, none]))) := rfl
theorem yX_147 : layX[147]? = some (.inr (.inl (2, [none, none, some 148, some 149, some 150, some 151, some 152, some 153, some 154, some 155, some 156, some 157, some 158, none]))) := rfl
theorem yX_148 : layX[148]? = some (.inl (0, 8)) := rfl
theorem yX_149 : layX[149]? = some (.inl (0, 8)) := rfl
theorem yX_150 : layX[150]? = some (.inl (0, 8)) := rfl
theorem yX_151 : layX[151]? = some (.inl (0, 6)) := rfl
theorem yX_152 : layX[152]? = some (.inl (0, 6)) := rfl
theorem yX_153 : layX[153]? = some (.inl (0, 6)) := rfl
theorem yX_154 : layX[154]? = some (.inl (0, 6)) := rfl
theorem yX_155 : layX[155]? = some (.inl (0, 6)) := rfl
theorem yX_156 : layX[156]? = some (.inl (0, 10)) := rfl
theorem yX_157 : layX[157]? = some (.inl (0, 10)) := rfl
theorem yX_158 : layX[158]? = some (.inl (0, 10)) := rfl
theorem yX_159 : layX[159]? = some (.inl (0, 10)) := rfl
theorem yX_160 : layX[160]? = some (.inl (0, 600)) := rfl
theorem yX_161 : layX[161]? = some (.inl (0, 600)) := rfl
theorem yX_162 : layX[162]? = some (.inr (.inl (1, [some 1, some 15, some 146, none, some 163, some 164, some 165, some 166, some 167, some 168, some 169, some 170, some 171, some 172, some 173, some 174, some 175, none, none, none]))) := rfl
theorem yX_163 : layX[163]? = some (.inl (0, 10)) := rfl
theorem yX_164 : layX[164]? = some (.inl (0, 10)) := rfl
theorem yX_165 : layX[165]? = some (.inl (0, 100)) := rfl
theorem yX_166 : layX[166]? = some (.inl (0, 1024)) := rfl
theorem yX_167 : layX[167]? = some (.inl (0, 6)) := rfl
theorem yX_168 : layX[168]? = some (.inl (0, 192)) := rfl
theorem yX_169 : layX[169]? = some (.inl (0, 2048)) := rfl
theorem yX_170 : layX[170]? = some (.inl (0, 1512)) := rfl
theorem yX_171 : layX[171]? = some (.inl (0, 6)) := rfl
theorem yX_172 : layX[172]? = some (.inl (0, 64)) := rfl
theorem yX_173 : layX[173]? = some (.inl (0, 10240)) := rfl
theorem yX_174 : layX[174]? = some (.inl (0, 6)) := rfl
theorem yX_175 : layX[175]? = some (.inl (0, 6)) := rfl
theorem yM_0 : layM[0]? = some (.inr (.inl (12, [none, some 1, some 2, none, some 3, none, none, none, none, some 4, none, none, none, some 5, some 6, some 7, some 8, some 9, some 10, none, none, none, none, none, some 11, none, some 12, some 13, some 14, some 15, some 16, none, none, some 17, none, none, none, none, none, some 18, some 19, none, some 20, some 21, some 22, some 23, none, some 24, some 25, some 26, some 27, some 28, some 29, some 30, some 31, some 32, some 33, some 34, some 35, none, none, none, none, some 36]))) := rfl
theorem yM_1 : layM[1]? = some (.inl (0, 87)) := rfl
theorem yM_2 : layM[2]? = some (.inl (0, 522)) := rfl
theorem yM_3 : layM[3]? = some (.inl (0, 87)) := rfl
theorem yM_4 : layM[4]? = some (.inl (0, 5)) := rfl
theorem yM_5 : layM[5]? = some (.inl (0, 6)) := rfl
theorem yM_6 : layM[6]? = some (.inl (0, 6)) := rfl
theorem yM_7 : layM[7]? = some (.inl (0, 6)) := rfl
theorem yM_8 : layM[8]? = some (.inl (0, 6)) := rfl
theorem yM_9 : layM[9]? = some (.inl (0, 500)) := rfl
theorem yM_10 : layM[10]? = some (.inl (0, 400)) := rfl
theorem yM_11 : layM[11]? = some (.inl (0, 178)) := rfl
theorem yM_12 : layM[12]? = some (.inl (0, 32)) := rfl
theorem yM_13 : layM[13]? = some (.inl (0, 32)) := rfl
theorem yM_14 : layM[14]? = some (.inl (0, 32)) := rfl
theorem yM_15 : layM[15]? = some (.inl (0, 800)) := rfl
theorem yM_16 : layM[16]? = some (.inl (0, 800)) := rfl
theorem yM_17 : layM[17]? = some (.inl (0, 40)) := rfl
theorem yM_18 : layM[18]? = some (.inl (0, 100)) := rfl
theorem yM_19 : layM[19]? = some (.inl (0, 100)) := rfl
theorem yM_20 : layM[20]? = some (.inl (0, 5400)) := rfl
theorem yM_21 : layM[21]? = some (.inl (0, 8)) := rfl
theorem yM_22 : layM[22]? = some (.inl (0, 4)) := rfl
theorem yM_23 : layM[23]? = some (.inl (0, 4)) := rfl
theorem yM_24 : layM[24]? = some (.inl (0, 140)) := rfl
theorem yM_25 : layM[25]? = some (.inl (0, 280)) := rfl
theorem yM_26 : layM[26]? = some (.inl (0, 280)) := rfl
theorem yM_27 : layM[27]? = some (.inl (0, 6)) := rfl
theorem yM_28 : layM[28]? = some (.inl (0, 9)) := rfl
theorem yM_29 : layM[29]? = some (.inl (0, 420)) := rfl
theorem yM_30 : layM[30]? = some (.inl (0, 10)) := rfl
theorem yM_31 : layM[31]? = some (.inl (2, 6144)) := rfl
theorem yM_32 : layM[32]? = some (.inl (0, 10240)) := rfl
theorem yM_33 : layM[33]? = some (.inl (0, 1024)) := rfl
theorem yM_34 : layM[34]? = some (.inl (0, 65536)) := rfl
theorem yM_35 : layM[35]? = some (.inl (0, 6)) := rfl
theorem yM_36 : layM[36]? = some (.inl (0, 7200)) := rfl
def is_X2 (k : Nat) : Prop := layX[k]? = some (.inr (.inl (2, [none, none, some (k + 1), some (k + 2), some (k + 3), some (k + 4), some (k + 5), some (k + 6), some (k + 7), some (k + 8), some (k + 9), some (k + 10), some (k + 11), none]))) ∧ layX[(k + 1)]? = some (.inl (0, 8)) ∧ layX[(k + 2)]? = some (.inl (0, 8)) ∧ layX[(k + 3)]? = some (.inl (0, 8)) ∧ layX[(k + 4)]? = some (.inl (0, 6)) ∧ layX[(k + 5)]? = some (.inl (0, 6)) ∧ layX[(k + 6)]? = some (.inl (0, 6)) ∧ layX[(k + 7)]? = some (.inl (0, 6)) ∧ layX[(k + 8)]? = some (.inl (0, 6)) ∧ layX[(k + 9)]? = some (.inl (0, 10)) ∧ layX[(k + 10)]? = some (.inl (0, 10)) ∧ layX[(k + 11)]? = some (.inl (0, 10))
def is_X10 (k : Nat) : Prop := layX[k]? = some (.inr (.inl (10, [none, none, none, some (k + 1), none, some (k + 2), some (k + 3), none, some (k + 4), some (k + 5), some (k + 6), none, some (k + 7), none, some (k + 8), some (k + 9)]))) ∧ layX[(k + 1)]? = some (.inl (0, 5)) ∧ layX[(k + 2)]? = some (.inl (1, 4800)) ∧ layX[(k + 3)]? = some (.inl (0, 8)) ∧ layX[(k + 4)]? = some (.inl (0, 6)) ∧ layX[(k + 5)]? = some (.inl (0, 480)) ∧ layX[(k + 6)]? = some (.inl (0, 6)) ∧ layX[(k + 7)]? = some (.inl (0, 18)) ∧ layX[(k + 8)]? = some (.inl (0, 70)) ∧ layX[(k + 9)]? = some (.inr (.inl (4, [some (k + 10), some (k + 11), some (k + 12), some (k + 13), none, none]))) ∧ layX[(k + 10)]? = some (.inl (0, 800)) ∧ layX[(k + 11)]? = some (.inl (0, 17)) ∧ layX[(k + 12)]? = some (.inl (0, 16)) ∧ layX[(k + 13)]? = some (.inl (0, 32))
def is_X4 (k : Nat) : Prop := layX[k]? = some (.inr (.inl (4, [some (k + 1), some (k + 2), some (k + 3), some (k + 4), none, none]))) ∧ layX[(k + 1)]? = some (.inl (0, 800)) ∧ layX[(k + 2)]? = some (.inl (0, 17)) ∧ layX[(k + 3)]? = some (.inl (0, 16)) ∧ layX[(k + 4)]? = some (.inl (0, 32))
def is_X0 (k : Nat) : Prop := layX[k]? = some (.inr (.inl (0, [some (k + 1)]))) ∧ layX[(k + 1)]? = some (.inl (0, 500))
theorem is_X2_15 : is_X2 15 := ⟨yX_15, yX_16, yX_17, yX_18, yX_19, yX_20, yX_21, yX_22, yX_23, yX_24, yX_25, yX_26⟩
theorem is_X2_31 : is_X2 31 := ⟨yX_31, yX_32, yX_33, yX_34, yX_35, yX_36, yX_37, yX_38, yX_39, yX_40, yX_41, yX_42⟩
theorem is_X2_43 : is_X2 43 := ⟨yX_43, yX_44, yX_45, yX_46, yX_47, yX_48, yX_49, yX_50, yX_51, yX_52, yX_53, yX_54⟩
theorem is_X2_55 : is_X2 55 := ⟨yX_55, yX_56, yX_57, yX_58, yX_59, yX_60, yX_61, yX_62, yX_63, yX_64, yX_65, yX_66⟩
theorem is_X2_67 : is_X2 67 := ⟨yX_67, yX_68, yX_69, yX_70, yX_71, yX_72, yX_73, yX_74, yX_75, yX_76, yX_77, yX_78⟩
theorem is_X2_79 : is_X2 79 := ⟨yX_79, yX_80, yX_81, yX_82, yX_83, yX_84, yX_85, yX_86, yX_87, yX_88, yX_89, yX_90⟩
theorem is_X2_91 : is_X2 91 := ⟨yX_91, yX_92, yX_93, yX_94, yX_95, yX_96, yX_97, yX_98, yX_99, yX_100, yX_101, yX_102⟩
theorem is_X2_118 : is_X2 118 := ⟨yX_118, yX_119, yX_120, yX_121, yX_122, yX_123, yX_124, yX_125, yX_126, yX_127, yX_128, yX_129⟩
theorem is_X2_147 : is_X2 147 := ⟨yX_147, yX_148, yX_149, yX_150, yX_151, yX_152, yX_153, yX_154, yX_155, yX_156, yX_157, yX_158⟩
theorem is_X10_1 : is_X10 1 := ⟨yX_1, yX_2, yX_3, yX_4, yX_5, yX_6, yX_7, yX_8, yX_9, yX_10, yX_11, yX_12, yX_13, yX_14⟩
theorem is_X10_104 : is_X10 104 := ⟨yX_104, yX_105, yX_106, yX_107, yX_108, yX_109, yX_110, yX_111, yX_112, yX_113, yX_114, yX_115, yX_116, yX_117⟩
theorem is_X4_10 : is_X4 10 := ⟨yX_10, yX_11, yX_12, yX_13, yX_14⟩
theorem is_X4_113 : is_X4 113 := ⟨yX_113, yX_114, yX_115, yX_116, yX_117⟩
theorem is_X4_139 : is_X4 139 := ⟨yX_139, yX_140, yX_141, yX_142, yX_143⟩
theorem is_X0_27 : is_X0 27 := ⟨yX_27, yX_28⟩
theorem is_X0_130 : is_X0 130 := ⟨yX_130, yX_131⟩
theorem cl_X0 : ev_cl 0 RX0 TX0 1 tyX0 := ⟨rfl, by decide +kernel, tyX0_ok, nmX0⟩
theorem cl_X1 : ev_cl 1 RX1 TX1 20 tyX1 := ⟨rfl, by decide +kernel, tyX1_ok, nmX1⟩
theorem cl_X2 : ev_cl 2 RX2 TX2 14 tyX2 := ⟨rfl, by decide +kernel, tyX2_ok, nmX2⟩
theorem cl_X3 : ev_cl 3 RX3 TX3 12 tyX3 := ⟨rfl, by decide +kernel, tyX3_ok, nmX3⟩
theorem cl_X4 : ev_cl 4 RX4 TX4 6 tyX4 := ⟨rfl, by decide +kernel, tyX4_ok, nmX4⟩
theorem cl_X5 : ev_cl 5 RX5 TX5 3 tyX5 := ⟨rfl, by decide +kernel, tyX5_ok, nmX5⟩
theorem cl_X6 : ev_cl 6 RX6 TX6 4 tyX6 := ⟨rfl, by decide +kernel, tyX6_ok, nmX6⟩
theorem cl_X7 : ev_cl 7 RX7 TX7 3 tyX7 := ⟨rfl, by decide +kernel, tyX7_ok, nmX7⟩
theorem cl_X8 : ev_cl 8 RX8 TX8 10 tyX8 := ⟨rfl, by decide +kernel, tyX8_ok, nmX8⟩
theorem cl_X9 : ev_cl 9 RX9 TX9 6 tyX9 := ⟨rfl, by decide +kernel, tyX9_ok, nmX9⟩
theorem cl_X10 : ev_cl 10 RX10 TX10 16 tyX10 := ⟨rfl, by decide +kernel, tyX10_ok, nmX10⟩
theorem cl_X11 : ev_cl 11 RX11 TX11 10 tyX11 := ⟨rfl, by decide +kernel, tyX11_ok, nmX11⟩
theorem cl_X12 : ev_cl 12 RX12 TX12 64 tyX12 := ⟨rfl, by decide +kernel, tyX12_ok, nmX12⟩
