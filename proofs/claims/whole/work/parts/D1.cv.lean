section Cv
/-! CONSTRUCTORS: the world grows. 'Cv ct M R pc lv st w cells slots mc ms Q': constructor M, at pc, with the world w, comes to its end with a world of which Q holds, having made mc cells of ms slots. -/
def cv_B (D : va_G) (ct : Nat → ClassId) (A : Nat → Prop) (w : va_W) (t : State) : Prop := va_P D vwCl w t.heap ∧ va_K D vwCl (ev_tys ct) t ∧ va_D A w
def Cv (ct : Nat → ClassId) (M : ev_M) (R : Room) (pc : Nat) (lv : List (Nat × Value)) (st : List Value) (w : va_W) (cells slots mc ms : Nat) (Q : va_W → Prop) : Prop :=
  ∀ (p : Program) (L : Launch) (e : Env) (s : State) (m : MethodId) (args : Array Value) (below : List Frame) (meth : Method) (c : Code) (D : va_G) (A : Nat → Prop) (H : Heap) (locs : List Loc) (ls : Array Slot),
    ev_X M p s m args meth c D ct A → meth.name = "<init>" → va_AO "AngelTown$Course" s → va_P D vwCl w H → va_D A w → va_S A s.heap H locs → lv_has ls M.2.2.1 lv →
    W p L e R s m args below meth c H locs cells slots (MQ below (va_Qv Q (cv_B D ct A) A) args s mc ms A) (F0 m pc ls st)
variable {ct : Nat → ClassId} {M : ev_M} {R : Room} {pc : Nat} {lv : List (Nat × Value)} {st : List Value} {w : va_W} {cells slots mc ms : Nat} {Q : va_W → Prop}
theorem Cv_aload {q : Fin 4} {i x : Nat} (j : Nat) (hd : decode M.2.1 pc = .ok (.aload_n q, 1)) (hi : (q : Nat) = i) (hj : lv[j]? = some (i, .ref x)) (k : Cv ct M R (pc + 1) lv (.ref x :: st) w cells slots mc ms Q) : Cv ct M R pc lv st w cells slots mc ms Q := by
  intro p L e s m args below meth c D A H locs ls X hn hO hP hD hS hl
  exact lv_aload_n X.1 X.2.1 hd hi (lv_at hl j hj) (k p L e s m args below meth c D A H locs ls X hn hO hP hD hS hl)
theorem Cv_iload {q : Fin 4} {i : Nat} {x : Int32} (j : Nat) (hd : decode M.2.1 pc = .ok (.iload_n q, 1)) (hi : (q : Nat) = i) (hj : lv[j]? = some (i, .int x)) (k : Cv ct M R (pc + 1) lv (.int x :: st) w cells slots mc ms Q) : Cv ct M R pc lv st w cells slots mc ms Q := by
  intro p L e s m args below meth c D A H locs ls X hn hO hP hD hS hl
  exact lv_iload_n X.1 X.2.1 hd hi (lv_at hl j hj) (k p L e s m args below meth c D A H locs ls X hn hO hP hD hS hl)
theorem Cv_iconst {n : Int} (hd : decode M.2.1 pc = .ok (.iconst n, 1)) (k : Cv ct M R (pc + 1) lv (.int (Int32.ofInt n) :: st) w cells slots mc ms Q) : Cv ct M R pc lv st w cells slots mc ms Q := by
  intro p L e s m args below meth c D A H locs ls X hn hO hP hD hS hl
  exact lv_iconst X.1 X.2.1 hd rfl (k p L e s m args below meth c D A H locs ls X hn hO hP hD hS hl)
theorem Cv_bipush {n : Int} (hd : decode M.2.1 pc = .ok (.bipush n, 2)) (h : decide (-128 ≤ n ∧ n ≤ 127) = true) (k : Cv ct M R (pc + 2) lv (.int (Int32.ofInt n) :: st) w cells slots mc ms Q) : Cv ct M R pc lv st w cells slots mc ms Q := by
  have h := of_decide_eq_true h
  have hr : ev_R n := ⟨by omega, by omega⟩
  have hz : (Int8.ofInt n).toInt32 = Int32.ofInt n := by
    apply Int32.toInt_inj.mp
    have e : Int8.size = 256 := rfl
    rw [ev_to hr, Int8.toInt_toInt32, Int8.toInt_ofInt, e]
    exact Int.bmod_eq_of_le (by omega) (by omega)
  intro p L e s m args below meth c D A H locs ls X hn hO hP hD hS hl
  exact lv_bipush X.1 X.2.1 hd hz (k p L e s m args below meth c D A H locs ls X hn hO hP hD hS hl)
theorem Cv_sipush {n : Int} (hd : decode M.2.1 pc = .ok (.sipush n, 3)) (h : decide (-32768 ≤ n ∧ n ≤ 32767) = true) (k : Cv ct M R (pc + 3) lv (.int (Int32.ofInt n) :: st) w cells slots mc ms Q) : Cv ct M R pc lv st w cells slots mc ms Q := by
  have h := of_decide_eq_true h
  have hr : ev_R n := ⟨by omega, by omega⟩
  have hz : (Int16.ofInt n).toInt32 = Int32.ofInt n := by
    apply Int32.toInt_inj.mp
    have e : Int16.size = 65536 := rfl
    rw [ev_to hr, Int16.toInt_toInt32, Int16.toInt_ofInt, e]
    exact Int.bmod_eq_of_le (by omega) (by omega)
  intro p L e s m args below meth c D A H locs ls X hn hO hP hD hS hl
  exact lv_sipush X.1 X.2.1 hd hz (k p L e s m args below meth c D A H locs ls X hn hO hP hD hS hl)
theorem Cv_ldc {i : Nat} {v : Int32} {z : Int} (hw : Cond.constant M.1 i v ∈ lw_tbl) (hd : decode M.2.1 pc = .ok (.ldc i, 2)) (hz : v = Int32.ofInt z) (k : Cv ct M R (pc + 2) lv (.int (Int32.ofInt z) :: st) w cells slots mc ms Q) : Cv ct M R pc lv st w cells slots mc ms Q := by
  intro p L e s m args below meth c D A H locs ls X hn hO hP hD hS hl
  subst hz
  exact lv_ldc X.1 X.2.1 X.2.2.2.2.1 (ev_hts X hw rfl) hd (k p L e s m args below meth c D A H locs ls X hn hO hP hD hS hl)
theorem Cv_dup {v : Value} (hd : decode M.2.1 pc = .ok (.dup, 1)) (hv : v.category = 1) (k : Cv ct M R (pc + 1) lv (v :: v :: st) w cells slots mc ms Q) : Cv ct M R pc lv (v :: st) w cells slots mc ms Q := by
  intro p L e s m args below meth c D A H locs ls X hn hO hP hD hS hl
  exact lv_dup X.1 X.2.1 hd hv (k p L e s m args below meth c D A H locs ls X hn hO hP hD hS hl)
theorem Cv_obj {idx x : Nat} (hw1 : Cond.methodLink M.1 idx Lib.objectInit ∈ lw_tbl) (hw2 : Cond.instanceMethod Lib.objectInit ∈ lw_tbl) (hw3 : Cond.code Lib.objectInit ⟨#[0xb1]⟩ 1 none ∈ lw_tbl) (hd : decode M.2.1 pc = .ok (.invokespecial idx, 3)) (hf : 1 ≤ R.frames) (hlo : 12 ≤ R.locals) (k : Cv ct M R (pc + 3) lv [] w cells slots mc ms Q) : Cv ct M R pc lv [.ref x] w cells slots mc ms Q := by
  intro p L e s m args below meth c D A H locs ls X hn hO hP hD hS hl
  refine W.objInit (rest := []) X.1 X.2.1 X.2.2.2.2.1 (ev_hts X hw1 rfl) (ev_hts X hw2 rfl) (ev_hts X hw3 rfl) rfl (by rw [X.2.2.2.1]; exact hl.1) rfl hd hf ?_ ?_
  · have h := lv_room (m := m) (pc := pc) (ls := ls) (rest := [Value.ref x]) (st := ([] : List Value)) (by simp)
    simp only [List.map_nil, List.sum_nil] at h ⊢
    have h2 : (F0 m pc ls [Value.ref x]).monitorRoom = 0 := rfl
    omega
  · exact k p L e s m args below meth c D A H locs ls X hn hO hP hD hS hl
theorem cv_RA {U : State} {cA cB : ClassId} {ty : FieldType} (hp : ty = .int ∨ ty = .byte ∨ ty = .boolean) (h1 : va_RA U cA ty) (h2 : va_RA U cB ty) : cA = cB := by
  rcases hp with rfl | rfl | rfl <;> exact Option.some.inj (h1.symm.trans h2)
theorem cv_0 : ¬ (Int32.ofInt 0 < 0) := by decide
theorem Cv_newa {x0 : Nat × va_E} {tl : va_W} {z : Int} {t N : Nat} {atype : ArrayType} {ty : FieldType} (hty : newarray.typeOf atype = ty) (hp : ty = .int ∨ ty = .byte ∨ ty = .boolean) (hw : Cond.arrayClass ty ∈ lw_tbl) (ht : (ev_tys ct)[t]? = some (ct t, ty)) (ha : ∀ cA : ClassId, vp_cell cA (N, .inl (fun _ => Int32.ofInt 0)) = arrV cA N (fun _ => defaultValue ty)) (hN : N ≤ 100000) (hcells : cells + 1 ≤ R.cells) (hslots : slots + N ≤ R.slots) (hd : decode M.2.1 pc = .ok (.newarray atype, 2)) (hz : z = (N : Int)) (k : ∀ q : Nat, Cv ct M R (pc + 2) lv (.ref q :: st) (x0 :: (tl ++ [(q, .inl (ct t, N, .inl (fun _ => Int32.ofInt 0)))])) (cells + 1) (slots + N) mc ms Q) : Cv ct M R pc lv (.int (Int32.ofInt z) :: st) (x0 :: tl) cells slots mc ms Q := by
  subst hz
  intro p L e s m args below meth c D A H locs ls X hn hO hP hD hS hl
  have hr : ev_R (N : Int) := ⟨by omega, by omega⟩
  have h0 : ¬ (Int32.ofInt (N : Int) < 0) := by
    have h := ev_lt hr ev_R0
    intro q
    have := h.mp q
    omega
  have hbt : N * componentBytes ty ≤ 536870912 := by
    rcases hp with rfl | rfl | rfl
    · show N * 4 ≤ _; omega
    · show N * 1 ≤ _; omega
    · show N * 1 ≤ _; omega
  refine va_newa (a0 := (N, .inl (fun _ => Int32.ofInt 0))) (atype := atype) X.1 X.2.1 (by rw [hty]; exact ev_hts X hw rfl) hty X.2.2.2.2.2.2.2.1 hP hD hS X.2.2.2.2.2.2.2.2.1 ha h0 (by rw [ev_clamp hr]; rfl) hbt hcells hslots hd (fun q cA H1 hK1 hP1 hD1 hS1 => ?_)
  have e1 : cA = ct t := by
    have h1 := (hK1.2 4 (cA, ty) rfl).2
    have h2 := (X.2.2.2.2.2.2.2.1.2 t (ct t, ty) ht).2
    exact cv_RA hp h1 h2
  subst e1
  exact k q p L e s m args below meth c D A H1 locs ls X hn hO hP1 hD1 hS1 hl
theorem Cv_newi {x0 : Nat × va_E} {tl : va_W} {z : Int} (N : Nat) (hN : N ≤ 100000) (hcells : cells + 1 ≤ R.cells) (hslots : slots + N ≤ R.slots) (hd : decode M.2.1 pc = .ok (.newarray .int, 2)) (hz : z = (N : Int)) (k : ∀ q : Nat, Cv ct M R (pc + 2) lv (.ref q :: st) (x0 :: (tl ++ [(q, .inl (ct 0, N, .inl (fun _ => Int32.ofInt 0)))])) (cells + 1) (slots + N) mc ms Q) : Cv ct M R pc lv (.int (Int32.ofInt z) :: st) (x0 :: tl) cells slots mc ms Q :=
  Cv_newa (t := 0) (ty := .int) rfl (Or.inl rfl) (tb_1 (List.mem_of_getElem? (i := 64) (by decide +kernel))) rfl (fun _ => rfl) hN hcells hslots hd hz k
theorem Cv_newb {x0 : Nat × va_E} {tl : va_W} {z : Int} (N : Nat) (hN : N ≤ 100000) (hcells : cells + 1 ≤ R.cells) (hslots : slots + N ≤ R.slots) (hd : decode M.2.1 pc = .ok (.newarray .byte, 2)) (hz : z = (N : Int)) (k : ∀ q : Nat, Cv ct M R (pc + 2) lv (.ref q :: st) (x0 :: (tl ++ [(q, .inl (ct 1, N, .inl (fun _ => Int32.ofInt 0)))])) (cells + 1) (slots + N) mc ms Q) : Cv ct M R pc lv (.int (Int32.ofInt z) :: st) (x0 :: tl) cells slots mc ms Q :=
  Cv_newa (t := 1) (ty := .byte) rfl (Or.inr (Or.inl rfl)) (tb_1 (List.mem_of_getElem? (i := 65) (by decide +kernel))) rfl (fun _ => rfl) hN hcells hslots hd hz k
theorem Cv_newz {x0 : Nat × va_E} {tl : va_W} {z : Int} (N : Nat) (hN : N ≤ 100000) (hcells : cells + 1 ≤ R.cells) (hslots : slots + N ≤ R.slots) (hd : decode M.2.1 pc = .ok (.newarray .boolean, 2)) (hz : z = (N : Int)) (k : ∀ q : Nat, Cv ct M R (pc + 2) lv (.ref q :: st) (x0 :: (tl ++ [(q, .inl (ct 2, N, .inl (fun _ => Int32.ofInt 0)))])) (cells + 1) (slots + N) mc ms Q) : Cv ct M R pc lv (.int (Int32.ofInt z) :: st) (x0 :: tl) cells slots mc ms Q :=
  Cv_newa (t := 2) (ty := .boolean) rfl (Or.inr (Or.inr rfl)) (tb_7 (List.mem_of_getElem? (i := 23) (by decide +kernel))) rfl (fun _ => rfl) hN hcells hslots hd hz k
theorem Cv_put {h0 k idx ci N : Nat} {v : Value} {C : String} {T : u_T} {ty0 : Nat → FieldType} {fs fs' : List Value} {tl : va_W} (hC : ev_cl ci C T N ty0) (hk : k < N) (hM : (T k).1 = M.1) (hw : Cond.fieldLink M.1 idx (T k).1 (T k).2.1 (T k).2.2.1 ∈ lw_tbl) (hn : narrow (ty0 k) v = v) (hfit : fits (ty0 k) v = true) (hlen : k < fs.length) (hfs : fs.set k v = fs') (hd : decode M.2.1 pc = .ok (.putfield idx, 3)) (kk : Cv ct M R (pc + 3) lv st ((h0, .inr (ci, fs')) :: tl) cells slots mc ms Q) : Cv ct M R pc lv (v :: .ref h0 :: st) ((h0, .inr (ci, fs)) :: tl) cells slots mc ms Q := by
  intro p L e s m args below meth c D A H locs ls X hnm hO hP hD hS hl
  subst hfs
  by_cases hfin : (T k).2.2.2 = true
  · refine va_putF (ty := ty0 k) X.1 X.2.1 X.2.2.2.2.2.2.1 hC.2.1 ty0 hC.2.2.1 hC.2.2.2 X.2.2.2.2.1 X.2.2.2.2.2.2.2.1 hP hD hS 0 rfl hC.1 k hk (ev_hts X hw rfl) (fun _ h => h) hfin hnm hM (hC.2.2.1 k hk) hn hfit hlen hd (fun H1 locs1 hP1 hD1 hS1 => ?_)
    exact kk p L e s m args below meth c D A H1 locs1 ls X hnm hO hP1 hD1 hS1 hl
  · refine va_put (ty := ty0 k) X.1 X.2.1 X.2.2.2.2.2.2.1 hC.2.1 ty0 hC.2.2.1 hC.2.2.2 X.2.2.2.2.1 X.2.2.2.2.2.2.2.1 hP hD hS 0 rfl hC.1 k hk (ev_hts X hw rfl) (fun _ h => h) (by simpa using hfin) (hC.2.2.1 k hk) hn hfit hlen hd (fun H1 locs1 hP1 hD1 hS1 => ?_)
    exact kk p L e s m args below meth c D A H1 locs1 ls X hnm hO hP1 hD1 hS1 hl
theorem Cv_get {h0 k idx ci N : Nat} {v : Value} {C : String} {T : u_T} {ty0 : Nat → FieldType} {fs : List Value} {tl : va_W} (hC : ev_cl ci C T N ty0) (hk : k < N) (hw : Cond.fieldLink M.1 idx (T k).1 (T k).2.1 (T k).2.2.1 ∈ lw_tbl) (hv : fs[k]? = some v) (hd : decode M.2.1 pc = .ok (.getfield idx, 3)) (kk : Cv ct M R (pc + 3) lv (v :: st) ((h0, .inr (ci, fs)) :: tl) cells slots mc ms Q) : Cv ct M R pc lv (.ref h0 :: st) ((h0, .inr (ci, fs)) :: tl) cells slots mc ms Q := by
  intro p L e s m args below meth c D A H locs ls X hnm hO hP hD hS hl
  refine va_get (v := v) X.1 X.2.1 X.2.2.2.2.2.2.1 hC.2.1 X.2.2.2.2.1 X.2.2.2.2.2.2.2.1 hP 0 rfl hC.1 k hk (ev_hts X hw rfl) (fun _ h => h) hv hd ?_
  exact kk p L e s m args below meth c D A H locs ls X hnm hO hP hD hS hl
theorem Cv_new {x0 : Nat × va_E} {tl : va_W} {idx ci N : Nat} {C : String} {T : u_T} {ty0 : Nat → FieldType} {fs : List Value} (hC : ev_cl ci C T N ty0) (hw1 : Cond.classLink M.1 idx C ∈ lw_tbl) (hw2 : Cond.instantiable C N ∈ lw_tbl) (hw3 : Cond.initialized C ∈ lw_tbl) (hfs : ∀ j, j < N → defaultValue (ty0 j) = vp_V fs j) (hcells : cells + 1 ≤ R.cells) (hslots : slots + N ≤ R.slots) (hd : decode M.2.1 pc = .ok (.new idx, 3)) (k : ∀ q : Nat, Cv ct M R (pc + 3) lv (.ref q :: st) (x0 :: (tl ++ [(q, .inr (ci, fs))])) (cells + 1) (slots + N) mc ms Q) : Cv ct M R pc lv st (x0 :: tl) cells slots mc ms Q := by
  intro p L e s m args below meth c D A H locs ls X hnm hO hP hD hS hl
  refine va_new (ci := ci) (fs := fs) (C := C) (T := T) (N := N) X.1 X.2.1 X.2.2.2.2.2.2.1 hC.2.1 ty0 hC.2.2.1 X.2.2.2.2.1 (ev_hts X hw1 rfl) (ev_hts X hw2 rfl) (ev_hts X hw3 rfl) X.2.2.2.2.2.2.2.1 hP hD hS X.2.2.2.2.2.2.2.2.1 hC.1 hfs hcells hslots hd (fun q H1 hP1 hD1 hS1 => ?_)
  exact k q p L e s m args below meth c D A H1 locs ls X hnm hO hP1 hD1 hS1 hl
theorem Cv_ret (hM : M.2.2.2.1 = none) (hd : decode M.2.1 pc = .ok (.return_, 1)) (hc : cells ≤ mc) (hs : slots ≤ ms) (h : Q w) : Cv ct M R pc lv [] w cells slots mc ms Q := by
  intro p L e s m args below meth c D A H locs ls X hnm hO hP hD hS hl
  refine W.widen hc hs ?_
  exact W.vret X.1 X.2.1 (by rw [X.2.2.1, hM]) (fun t ht hW => ⟨⟨w, rfl, h, by rw [ht]; exact hP, va_K.moved hW.alike X.2.2.2.2.2.2.2.1, hD⟩, hS.F ht⟩) hS.2.2 hd X.2.2.2.2.2.1
/-! calls -/
def cv_rm (d mc ms : Nat) : Room := { frames := d, cells := mc, slots := ms, locals := 64 * d }
def cv_Pc (D : va_G) (ct : Nat → ClassId) (sz : Nat) (As : List Value) (h0 ci : Nat) (fs : List Value) : Array Value → State → Prop :=
  va_Pc (.ref h0 :: As) (fun U => U.heap.size = sz ∧ va_P D vwCl [(h0, .inr (ci, fs))] U.heap ∧ va_K D vwCl (ev_tys ct) U ∧ va_D (fun _ => True) [(h0, .inr (ci, fs))] ∧ ev_Ns U ∧ ev_T (va_A [(h0, .inr (ci, fs))] sz) U U.heap ∧ va_AO "AngelTown$Course" U)
theorem cv_met {y : MethodName} {As : List Value} {h0 ci d : Nat} {fs : List Value} (h : Cv ct M (cv_rm d mc ms) 0 (lv_args 0 (.ref h0 :: As)) [] [(h0, .inr (ci, fs))] 0 0 mc ms Q) (hy : plainName y.cls = true) (hown : y.cls = M.1) (hyn : y.name = "<init>") (hfit : (lg_sl (.ref h0 :: As)).length ≤ M.2.2.1) (L : Launch) (D : va_G) (sz : Nat) :
    Met L y (ev_ws1 y M) (cv_rm d mc ms) (cv_Pc D ct sz As h0 ci fs) (va_Qv Q (cv_B D ct (va_A [(h0, .inr (ci, fs))] sz)) (va_A [(h0, .inr (ci, fs))] sz)) mc ms (va_A [(h0, .inr (ci, fs))] sz) := by
  refine Met.ofW (cc := M.2.1) (maxL := M.2.2.1) (ret := M.2.2.2.1) hy rfl ?_
  intro p e s m args below meth c s₁ B hml hv
  obtain ⟨rfl, hsz, hP, hK, hD0, hN, hT, hO⟩ := hv
  have hts := atoms_spec (ws := ev_ws1 y M) B.pre
  have hown2 : s.vm.findClass M.1 = some m.cls := hown ▸ findClass_of_methodNamed B.named
  have hnm : meth.name = "<init>" := by rw [← hyn]; exact (name_of_methodNamed B.named B.method).1
  subst hsz
  have hl := lv_entry (.ref h0 :: As) (n := M.2.2.1) hfit
  rw [lg_entry_eq]
  exact h p L e s m _ below meth c D _ s.heap [] _ ⟨B.exec, B.bytes, B.returns, hml, hown2, B.notSynchronized, fun w hw => hts w (List.mem_cons_of_mem _ hw), hK, fun q hq => Or.inr hq, hN, hT⟩ hnm hO hP hD0.self va_S.rf hl
theorem cv_blind {D : va_G} {sz h0 ci : Nat} {As fs : List Value} : FrameBlind (cv_Pc D ct sz As h0 ci fs) := by
  intro a U g mk q
  obtain ⟨q0, q1, qP, qK, qD, qN, qT, qO⟩ := q
  exact ⟨q0, q1, qP, va_K.moved (u := U) (U := U.calling g mk a) (Vm.Alike.refl U.vm) qK, qD, ev_Ns_same (s := U) (U := U.calling g mk a) rfl qN, ev_T_same (s := U) (U := U.calling g mk a) rfl qT, va_AO.moved (u := U) (U := U.calling g mk a) (Vm.Alike.refl U.vm) qO⟩
/-- the frame: what isn't the callee's stays -/
theorem cv_join {A0 : Nat → Prop} {D : va_G} {cl : List vw_C} {w wc w1 : va_W} {H H1 : Heap} (hPw : va_P D cl w H) (hDw : va_D A0 w) (hap : ∀ (i j : Nat) (x y : Nat × va_E), w[i]? = some x → wc[j]? = some y → x.1 ≠ y.1)
    (hk : ∀ q : Nat, q < H.size → ¬ va_A wc H.size q → H1[q]? = H[q]?) (hF : ∀ q, va_A wc H.size q → A0 q) (hD1 : va_D (va_A wc H.size) w1) : va_P D cl w H1 ∧ va_D A0 w1 ∧ ∀ (i j : Nat) (x y : Nat × va_E), w[i]? = some x → w1[j]? = some y → x.1 ≠ y.1 := by
  have apart : ∀ (k : Nat) (q : Nat × va_E), w[k]? = some q → q.1 < H.size ∧ ¬ va_A wc H.size q.1 := by
    intro k q hq
    have hl := (hPw k q hq).lt
    refine ⟨hl, fun h => ?_⟩
    rcases h with ⟨k2, e, h⟩ | h
    · exact hap k k2 q (q.1, e) hq h rfl
    · omega
  refine ⟨fun k q hq => (hPw k q hq).kept (hk q.1 (apart k q hq).1 (apart k q hq).2), hD1.weaken (fun k q _ h => hF q.1 h), fun i j x y hx hy e => (apart i x hx).2 (by rw [e]; exact hD1.2 j y hy)⟩
theorem cv_left {D : va_G} {cl : List vw_C} {w wc : va_W} {H : Heap} (h : va_P D cl (w ++ wc) H) : va_P D cl w H := fun k q hq => h k q (by rw [List.getElem?_append_left (List.getElem?_eq_some_iff.mp hq).1]; exact hq)
theorem cv_right {D : va_G} {cl : List vw_C} {w wc : va_W} {H : Heap} (h : va_P D cl (w ++ wc) H) : va_P D cl wc H := fun k q hq => h (w.length + k) q (by rw [List.getElem?_append_right (by omega), Nat.add_sub_cancel_left]; exact hq)
theorem cv_Dleft {A : Nat → Prop} {w wc : va_W} (h : va_D A (w ++ wc)) : va_D A w := ⟨fun i j p q hi hj e => h.1 i j p q (by rw [List.getElem?_append_left (List.getElem?_eq_some_iff.mp hi).1]; exact hi) (by rw [List.getElem?_append_left (List.getElem?_eq_some_iff.mp hj).1]; exact hj) e, fun k q hq => h.2 k q (by rw [List.getElem?_append_left (List.getElem?_eq_some_iff.mp hq).1]; exact hq)⟩
theorem cv_Dright {A : Nat → Prop} {w wc : va_W} (h : va_D A (w ++ wc)) : va_D A wc := ⟨fun i j p q hi hj e => by
  have := h.1 (w.length + i) (w.length + j) p q (by rw [List.getElem?_append_right (by omega), Nat.add_sub_cancel_left]; exact hi) (by rw [List.getElem?_append_right (by omega), Nat.add_sub_cancel_left]; exact hj) e
  omega, fun k q hq => h.2 (w.length + k) q (by rw [List.getElem?_append_right (by omega), Nat.add_sub_cancel_left]; exact hq)⟩
theorem cv_Dap {A : Nat → Prop} {w wc : va_W} (h : va_D A (w ++ wc)) : ∀ (i j : Nat) (x y : Nat × va_E), w[i]? = some x → wc[j]? = some y → x.1 ≠ y.1 := by
  intro i j x y hx hy e
  have hi := (List.getElem?_eq_some_iff.mp hx).1
  have := h.1 i (w.length + j) x y (by rw [List.getElem?_append_left hi]; exact hx) (by rw [List.getElem?_append_right (by omega), Nat.add_sub_cancel_left]; exact hy) e
  omega
theorem cv_app {D : va_G} {cl : List vw_C} {A : Nat → Prop} {w w1 : va_W} {H : Heap} (h1 : va_P D cl w H) (h2 : va_P D cl w1 H) (d1 : va_D A w) (d2 : va_D A w1) (ap : ∀ (i j : Nat) (x y : Nat × va_E), w[i]? = some x → w1[j]? = some y → x.1 ≠ y.1) : va_P D cl (w ++ w1) H ∧ va_D A (w ++ w1) := ⟨va_P.app h1 h2, va_D.app d1 d2 (fun i j x y hx hy e => ap i j x y hx hy e)⟩
/-- what a call of a constructor asks -/
def cv_cm (y : MethodName) (M' : ev_M) (n : Nat) : Prop := ev_cm y M' n ∧ y.name = "<init>" ∧ Cond.instanceMethod y ∈ lw_tbl ∧ M'.2.2.2 = (none, 0)
theorem Cv_call {x0 : Nat × va_E} {tl : va_W} {M' : ev_M} {y : MethodName} {d d' idx n mc' ms' h0 ci : Nat} {As fs : List Value} {Q' : va_W → Prop} (hm : cv_cm y M' n) (hlk : Cond.methodLink M.1 idx y ∈ lw_tbl ∨ ∃ host, Cond.methodLinkNest M.1 idx y host ∈ lw_tbl) (hd : decode M.2.1 pc = .ok (.invokespecial idx, 3)) (hdd : d' + 1 ≤ d) (hR : R = cv_rm d R.cells R.slots) (hn : As.length = n) (hfit : (lg_sl (.ref h0 :: As)).length ≤ M'.2.2.1) (hst : (st.map fun v => v.category).sum ≤ 8) (hcells : cells + mc' ≤ R.cells) (hslots : slots + ms' ≤ R.slots)
    (hcal : Cv ct M' (cv_rm d' mc' ms') 0 (lv_args 0 (.ref h0 :: As)) [] [(h0, .inr (ci, fs))] 0 0 mc' ms' Q') (kk : ∀ w1, Q' w1 → Cv ct M R (pc + 3) lv st (x0 :: (tl ++ w1)) (cells + mc') (slots + ms') mc ms Q) : Cv ct M R pc lv (As.reverse ++ .ref h0 :: st) (x0 :: (tl ++ [(h0, .inr (ci, fs))])) cells slots mc ms Q := by
  obtain ⟨w, hw0⟩ : ∃ w, w = x0 :: tl := ⟨_, rfl⟩
  have hw1 : ∀ z : va_W, x0 :: (tl ++ z) = w ++ z := fun z => by rw [hw0]; rfl
  rw [hw1]
  intro p L e s m args below meth c D A H locs ls X hnm hO hP hD hS hl
  obtain ⟨⟨m1, m2, m3, m4, m5, m6⟩, m7, m8, m9⟩ := hm
  have hmet := cv_met (y := y) hcal m1 m2 m7 hfit L D H.size
  have e9 : M'.2.2.2.1 = none := by rw [m9]
  have hroom : (cv_rm d' mc' ms').frames + 1 ≤ R.frames ∧ 8 + (M'.2.2.1 + 11) + (cv_rm d' mc' ms').locals ≤ R.locals := by
    rw [hR]
    exact ⟨hdd, by show 8 + (M'.2.2.1 + 11) + 64 * d' ≤ 64 * d; omega⟩
  have hF : ∀ q, va_A [(h0, Sum.inr (ci, fs))] H.size q → A q := by
    intro q h
    rcases h with ⟨k, e2, h⟩ | h
    · have hz : k < 1 := (List.getElem?_eq_some_iff.mp h).1
      rw [show k = 0 by omega] at h
      cases h
      exact (cv_Dright hD).2 0 _ rfl
    · exact X.2.2.2.2.2.2.2.2.1 q (Nat.le_trans hS.1 h)
  have hpre : PreS s H (cv_Pc D ct H.size As h0 ci fs) (.ref h0 :: As) := ⟨cv_blind, fun U hU hW => ⟨rfl, by rw [hU], by rw [hU]; exact cv_right hP, va_K.moved hW.alike X.2.2.2.2.2.2.2.1, (cv_Dright hD).weaken (fun _ _ _ _ => trivial), ev_Ns_warm hW X.2.2.2.2.2.2.2.2.2.1, by rw [hU]; exact ev_T_warm hW (ev_T_narrow (ev_T_kept X.2.2.2.2.2.2.2.2.2.2 hS.2.1) hF), va_AO.moved hW.alike hO⟩⟩
  have hrun : va_Run p L e R s m args below meth c H locs cells slots mc' ms' (F0 m pc ls (As.reverse ++ .ref h0 :: st)) st (va_Qv Q' (cv_B D ct (va_A [(h0, .inr (ci, fs))] H.size)) (va_A [(h0, .inr (ci, fs))] H.size) (Value.ref h0 :: As).toArray) (va_A [(h0, .inr (ci, fs))] H.size) := by
    rcases hlk with hlk | ⟨host, hlk⟩
    · exact va_runI (As := As) (rest := st) (b := h0) (bytes := M'.2.1) (maxL := M'.2.2.1) ⟨X.1, X.2.1, X.2.2.2.1, X.2.2.2.2.1, X.2.2.2.2.2.2.1⟩ hmet ⟨callB_of n X.2.2.2.2.2.2.1 (ev_good1 m3) (by rw [← e9]; rfl) rfl rfl (ev_hts X m4 rfl) (ev_hts X hlk rfl) m5 hroom, m7, ev_hts X m8 rfl⟩ hpre rfl hn hl.1 rfl (lv_room hst) hd ⟨hcells, hslots⟩
    · exact va_runIN (As := As) (rest := st) (b := h0) (bytes := M'.2.1) (maxL := M'.2.2.1) ⟨X.1, X.2.1, X.2.2.2.1, X.2.2.2.2.1, X.2.2.2.2.2.2.1⟩ hmet ⟨va_cnB n X.2.2.2.2.2.2.1 (ev_good1 m3) (by rw [← e9]; rfl) rfl rfl (X.2.2.2.2.2.2.2.2.2.1 _ hlk rfl) (ev_hts X m4 rfl) m5 hroom, m7, ev_hts X m8 rfl⟩ hpre rfl hn hl.1 rfl (lv_room hst) hd ⟨hcells, hslots⟩
  refine va_callv (a := (Value.ref h0 :: As).toArray) hrun hS (fun q _ h => hF q h) hF (fun w1 t H1 locs1 ht hvm hw hB hz1 hk1 hS1 => ?_)
  obtain ⟨hP1, hK1, hD1⟩ := hB
  rw [ht] at hP1
  obtain ⟨j1, j2, j3⟩ := cv_join (cv_left hP) (cv_Dleft hD) (cv_Dap hD) hk1 hF hD1
  obtain ⟨a1, a2⟩ := cv_app j1 hP1 (cv_Dleft hD) j2 j3
  have kk2 := kk w1 hw
  rw [hw1] at kk2
  exact kk2 p L e s m args below meth c D A H1 locs1 ls X hnm hO a1 a2 hS1 hl
/-! what Past's constructor needs -/
theorem Cv_istore {q : Fin 4} {i : Nat} {x : Int32} {lv' : List (Nat × Value)} (hd : decode M.2.1 pc = .ok (.istore_n q, 1)) (hi : (q : Nat) = i) (hn : i < M.2.2.1) (hl' : (i, .int x) :: lv.filter (fun q => !(q.1 == i) && !(q.1 + 1 == i && q.2.category == 2)) = lv') (k : Cv ct M R (pc + 1) lv' st w cells slots mc ms Q) : Cv ct M R pc lv (.int x :: st) w cells slots mc ms Q := by
  intro p L e s m args below meth c D A H locs ls X hnm hO hP hD hS hl
  refine lv_istore_n (lv' := lv') X.1 X.2.1 hd hi hl hn hl' (fun ls hl => ?_)
  exact k p L e s m args below meth c D A H locs ls X hnm hO hP hD hS hl
theorem Cv_iinc {i j : Nat} {n : Int} {x v : Int32} {lv' : List (Nat × Value)} (hd : decode M.2.1 pc = .ok (.iinc i n, 3)) (hj : lv[j]? = some (i, .int x)) (hv : x + Int32.ofInt n = v) (hn : i < M.2.2.1) (hl' : (i, .int v) :: lv.filter (fun q => !(q.1 == i) && !(q.1 + 1 == i && q.2.category == 2)) = lv') (k : Cv ct M R (pc + 3) lv' st w cells slots mc ms Q) : Cv ct M R pc lv st w cells slots mc ms Q := by
  intro p L e s m args below meth c D A H locs ls X hnm hO hP hD hS hl
  refine lv_iinc (x := x) (v := v) (k := j) (lv' := lv') X.1 X.2.1 hd hl hj hv hn hl' (fun ls hl => ?_)
  exact k p L e s m args below meth c D A H locs ls X hnm hO hP hD hS hl
theorem Cv_goto {off : Int} {tgt : Nat} (hd : decode M.2.1 pc = .ok (.goto off, 3)) (ht : (pc : Int) + off = (tgt : Int)) (k : Cv ct M R tgt lv st w cells slots mc ms Q) : Cv ct M R pc lv st w cells slots mc ms Q := by
  intro p L e s m args below meth c D A H locs ls X hnm hO hP hD hS hl
  exact lv_goto X.1 X.2.1 hd ht (k p L e s m args below meth c D A H locs ls X hnm hO hP hD hS hl)
theorem Cv_geF {x y : Int32} {off : Int} {tgt : Nat} (hd : decode M.2.1 pc = .ok (.if_icmp .ge off, 3)) (ht : (pc : Int) + off = (tgt : Int)) (h : ¬ y ≤ x) (k : Cv ct M R (pc + 3) lv st w cells slots mc ms Q) : Cv ct M R pc lv (.int y :: .int x :: st) w cells slots mc ms Q := by
  intro p L e s m args below meth c D A H locs ls X hnm hO hP hD hS hl
  exact lv_icmp_ge X.1 X.2.1 hd ht (fun q => absurd q h) (fun _ => k p L e s m args below meth c D A H locs ls X hnm hO hP hD hS hl)
theorem Cv_geT {x y : Int32} {off : Int} {tgt : Nat} (hd : decode M.2.1 pc = .ok (.if_icmp .ge off, 3)) (ht : (pc : Int) + off = (tgt : Int)) (h : y ≤ x) (k : Cv ct M R tgt lv st w cells slots mc ms Q) : Cv ct M R pc lv (.int y :: .int x :: st) w cells slots mc ms Q := by
  intro p L e s m args below meth c D A H locs ls X hnm hO hP hD hS hl
  exact lv_icmp_ge X.1 X.2.1 hd ht (fun _ => k p L e s m args below meth c D A H locs ls X hnm hO hP hD hS hl) (fun q => absurd h q)
theorem Cv_anew {x0 : Nat × va_E} {tl : va_W} {z : Int} (N : Nat) {idx : Nat} (hN : N ≤ 100000) (hw : Cond.classLink M.1 idx "AngelTown$Course" ∈ lw_tbl) (hcells : cells + 1 ≤ R.cells) (hslots : slots + N ≤ R.slots) (hd : decode M.2.1 pc = .ok (.anewarray idx, 3)) (hz : z = (N : Int)) (k : ∀ q : Nat, Cv ct M R (pc + 3) lv (.ref q :: st) (x0 :: (tl ++ [(q, .inl (ct 3, N, .inr (.inr (.inr (.inr (fun _ => none))))))])) (cells + 1) (slots + N) mc ms Q) : Cv ct M R pc lv (.int (Int32.ofInt z) :: st) (x0 :: tl) cells slots mc ms Q := by
  subst hz
  intro p L e s m args below meth c D A H locs ls X hnm hO hP hD hS hl
  have hr : ev_R (N : Int) := ⟨by omega, by omega⟩
  have h0 : ¬ (Int32.ofInt (N : Int) < 0) := by
    have h := ev_lt hr ev_R0
    intro q
    have := h.mp q
    omega
  refine va_newq X.1 X.2.1 X.2.2.2.2.1 (ev_hts X hw rfl) hO X.2.2.2.2.2.2.2.1 hP hD hS X.2.2.2.2.2.2.2.2.1 h0 (by rw [ev_clamp hr]; rfl) (by omega) hcells hslots hd (fun q cA H1 hK1 hP1 hD1 hS1 => ?_)
  have e1 : cA = ct 3 := by
    obtain ⟨kA, comp, a1, a2, a3, a4⟩ := (hK1.2 4 (cA, .object "AngelTown$Course") rfl).2
    obtain ⟨kB, comq, b1, b2, b3, b4⟩ := (X.2.2.2.2.2.2.2.1.2 3 (ct 3, .object "AngelTown$Course") rfl).2
    exact Option.some.inj (a4.symm.trans b4)
  subst e1
  exact k q p L e s m args below meth c D A H1 locs ls X hnm hO hP1 hD1 hS1 hl
theorem Cv_astq {a v n q0 qk : Nat} {vs : List Value} {f : Nat → Option Nat} {w' : va_W} {i : Int32} {i0 : Nat} (ha : w[q0]? = some (a, .inl (ct 3, n, .inr (.inr (.inr (.inr f)))))) (hv : w[qk]? = some (v, .inr (2, vs))) (hi : i.toNatClampNeg = i0) (hin : vp_in i n) (hd : decode M.2.1 pc = .ok (.aastore, 1)) (hw : w.set q0 (a, .inl (ct 3, n, .inr (.inr (.inr (.inr (va_up f i0 (some v))))))) = w') (k : Cv ct M R (pc + 1) lv st w' cells slots mc ms Q) : Cv ct M R pc lv (.ref v :: .int i :: .ref a :: st) w cells slots mc ms Q := by
  subst hw
  subst hi
  intro p L e s m args below meth c D A H locs ls X hnm hO hP hD hS hl
  refine va_astq X.1 X.2.1 X.2.2.2.2.2.2.2.1 hP hD hS q0 3 qk 2 ha rfl hv cl_X2.1 hin hd (fun H1 locs1 hP1 hD1 hS1 => ?_)
  exact k p L e s m args below meth c D A H1 locs1 ls X hnm hO hP1 hD1 hS1 hl
/-! the model's table of words -/
def cv_f (n : Nat) : Nat → Int32 := fun j => Int32.ofInt (if j < n then ((w_tab.getD j 0 : Nat) : Int) else 0)
theorem cv_f0 : cv_f 0 = fun _ => Int32.ofInt 0 := by
  funext j
  simp [cv_f]
theorem cv_fs {n : Nat} {v : Int} (h : ((w_tab.getD n 0 : Nat) : Int) = v) : upd (cv_f n) n (Int32.ofInt v) = cv_f (n + 1) := by
  funext j
  simp only [upd, cv_f]
  by_cases hj : j = n
  · subst hj
    rw [if_pos rfl, if_pos (by omega), h]
  · rw [if_neg hj]
    by_cases h2 : j < n
    · rw [if_pos h2, if_pos (by omega)]
    · rw [if_neg h2, if_neg (by omega)]
theorem Cv_iast {x0 : Nat × va_E} {tl : va_W} {q n N : Nat} {v : Int} (hn : n < N) (hN : N ≤ 100000) (h : ((w_tab.getD n 0 : Nat) : Int) = v) (hd : decode M.2.1 pc = .ok (.iastore, 1)) (k : Cv ct M R (pc + 1) lv st (x0 :: (tl ++ [(q, .inl (ct 0, N, .inl (cv_f (n + 1))))])) cells slots mc ms Q) : Cv ct M R pc lv (.int (Int32.ofInt v) :: .int (Int32.ofInt (n : Int)) :: .ref q :: st) (x0 :: (tl ++ [(q, .inl (ct 0, N, .inl (cv_f n)))])) cells slots mc ms Q := by
  intro p L e s m args below meth c D A H locs ls X hnm hO hP hD hS hl
  have hr : ev_R (n : Int) := ⟨by omega, by omega⟩
  refine va_iast X.1 X.2.1 X.2.2.2.2.2.2.2.1 hP hD hS (tl.length + 1) 0 (a := q) (cA := ct 0) (n := N) (f := cv_f n) (by simp) rfl (ev_vin hr ⟨by omega, by omega⟩) hd (fun H1 locs1 hP1 hD1 hS1 => ?_)
  rw [ev_clamp hr, Int.toNat_natCast, cv_fs h, List.set_cons_succ, List.set_append_right _ _ (Nat.le_refl _), Nat.sub_self, List.set_cons_zero] at hP1 hD1
  exact k p L e s m args below meth c D A H1 locs1 ls X hnm hO hP1 hD1 hS1 hl
section
variable {x0 : Nat × va_E} {tl : va_W} {q N : Nat} {v : Int}
theorem Cv_tabA (n : Nat) {z : Int} (hn : n < N) (hN : N ≤ 100000) (hz : z = (n : Int)) (h : ((w_tab.getD n 0 : Nat) : Int) = v) (h1 : decode M.2.1 pc = .ok (.dup, 1)) (h2 : decode M.2.1 (pc + 1) = .ok (.iconst z, 1)) (h3 : decode M.2.1 (pc + 2) = .ok (.bipush v, 2)) (h4 : decode M.2.1 (pc + 4) = .ok (.iastore, 1)) (hv : decide (-128 ≤ v ∧ v ≤ 127) = true) (k : Cv ct M R (pc + 5) lv (.ref q :: st) (x0 :: (tl ++ [(q, .inl (ct 0, N, .inl (cv_f (n + 1))))])) cells slots mc ms Q) : Cv ct M R pc lv (.ref q :: st) (x0 :: (tl ++ [(q, .inl (ct 0, N, .inl (cv_f n)))])) cells slots mc ms Q := by
  subst hz
  exact Cv_dup h1 rfl (Cv_iconst h2 (Cv_bipush h3 hv (Cv_iast hn hN h h4 k)))
theorem Cv_tabB (n : Nat) {z : Int} (hn : n < N) (hN : N ≤ 100000) (hz : z = (n : Int)) (h : ((w_tab.getD n 0 : Nat) : Int) = v) (h1 : decode M.2.1 pc = .ok (.dup, 1)) (h2 : decode M.2.1 (pc + 1) = .ok (.bipush z, 2)) (h3 : decode M.2.1 (pc + 3) = .ok (.bipush v, 2)) (h4 : decode M.2.1 (pc + 5) = .ok (.iastore, 1)) (hv : decide (-128 ≤ v ∧ v ≤ 127) = true) (hv2 : decide (-128 ≤ z ∧ z ≤ 127) = true) (k : Cv ct M R (pc + 6) lv (.ref q :: st) (x0 :: (tl ++ [(q, .inl (ct 0, N, .inl (cv_f (n + 1))))])) cells slots mc ms Q) : Cv ct M R pc lv (.ref q :: st) (x0 :: (tl ++ [(q, .inl (ct 0, N, .inl (cv_f n)))])) cells slots mc ms Q := by
  subst hz
  exact Cv_dup h1 rfl (Cv_bipush h2 hv2 (Cv_bipush h3 hv (Cv_iast hn hN h h4 k)))
theorem Cv_tabC (n : Nat) {z : Int} (hn : n < N) (hN : N ≤ 100000) (hz : z = (n : Int)) (h : ((w_tab.getD n 0 : Nat) : Int) = v) (h1 : decode M.2.1 pc = .ok (.dup, 1)) (h2 : decode M.2.1 (pc + 1) = .ok (.sipush z, 3)) (h3 : decode M.2.1 (pc + 4) = .ok (.bipush v, 2)) (h4 : decode M.2.1 (pc + 6) = .ok (.iastore, 1)) (hv : decide (-128 ≤ v ∧ v ≤ 127) = true) (hv2 : decide (-32768 ≤ z ∧ z ≤ 32767) = true) (k : Cv ct M R (pc + 7) lv (.ref q :: st) (x0 :: (tl ++ [(q, .inl (ct 0, N, .inl (cv_f (n + 1))))])) cells slots mc ms Q) : Cv ct M R pc lv (.ref q :: st) (x0 :: (tl ++ [(q, .inl (ct 0, N, .inl (cv_f n)))])) cells slots mc ms Q := by
  subst hz
  exact Cv_dup h1 rfl (Cv_sipush h2 hv2 (Cv_bipush h3 hv (Cv_iast hn hN h h4 k)))
end
/-- a call of an ordinary method over a world that stands whole -/
theorem Cv_callE {Y : List ev_C} {ad : Nat → Nat} {σ : ev_S} {M' : ev_M} {y : MethodName} {d d' idx n : Nat} {As : List ev_V} {Q' : Option ev_V → ev_S → Prop} {b ci N : Nat} {C : String} {T : u_T} {ty0 : Nat → FieldType} {fs : List (Option Nat)} (hm : ev_cm y M' n) (hkd : M'.2.2.2.2 = 0) (hlk : Cond.methodLink M.1 idx y ∈ lw_tbl) (hin : Cond.instanceMethod y ∈ lw_tbl) (hsel : Cond.selects y.cls y y ∈ lw_tbl) (hY : Y[b]? = some (.inr (.inl (ci, fs)))) (hC : ev_cl ci C T N ty0) (hCy : C = y.cls) (hd : decode M.2.1 pc = .ok (.invokevirtual idx, 3)) (hdd : d' + 1 ≤ d) (hR : R = cv_rm d R.cells R.slots) (hn : As.length = n) (hfit : ev_len (ev_r b :: As) ≤ M'.2.2.1) (hst : (st.map fun v => v.category).sum ≤ 8) (hAs0 : ∀ v ∈ As, ev_okv v) (hok : ev_ok σ) (hc : cells ≤ R.cells) (hs : slots ≤ R.slots)
    (hcal : Ev Y M' d' 0 (ev_args 0 (ev_r b :: As)) [] σ Q') (kk : ∀ u, Q' none u → ev_ok u → Cv ct M R (pc + 3) lv st (ev_ws Y ct ad u) cells slots mc ms Q) : Cv ct M R pc lv ((As.map (ev_v ad)).reverse ++ .ref (ad b) :: st) (ev_ws Y ct ad σ) cells slots mc ms Q := by
  intro p L e s m args below meth c D A H locs ls X hnm hO hP hD hS hl
  obtain ⟨m1, m2, m3, m4, m5, m6⟩ := hm
  have hAs : ∀ v ∈ ev_r b :: As, ev_okv v := ev_oks_cons (show ev_okv (ev_r b) from trivial) hAs0
  have hmet := ev_met (y := y) hcal m1 m2 hfit hAs hok L D ct ad H.size
  have hroom : (ev_rm d').frames + 1 ≤ R.frames ∧ 8 + (M'.2.2.1 + 11) + (ev_rm d').locals ≤ R.locals := by
    rw [hR]
    exact ⟨hdd, by show 8 + (M'.2.2.1 + 11) + 64 * d' ≤ 64 * d; omega⟩
  have hrec : ∃ cell : Cell, H[ad b]? = some cell ∧ cell.vm.isStatics = false ∧ s.vm.findClass y.cls = some cell.cls := by
    have h1 := va_recv X.2.2.2.2.2.2.2.1 hP hC.1 (ev_at hY)
    simp only [hCy] at h1
    exact h1
  have hF := ev_inA hD hS X.2.2.2.2.2.2.2.2.1
  have hrun := va_runV (p := p) (l := L) (e := e) (R := R) (locs := locs) (below := below) (meth := meth) (cells := cells) (slots := slots) (As := As.map (ev_v ad)) (rest := st) (b := ad b) (g := F0 m pc ls ((As.map (ev_v ad)).reverse ++ .ref (ad b) :: st)) ⟨X.1, X.2.1, X.2.2.2.1, X.2.2.2.2.1, X.2.2.2.2.2.2.1⟩ hmet ⟨callB_of n X.2.2.2.2.2.2.1 (ev_good1 m3) rfl rfl rfl (ev_hts X m4 rfl) (ev_hts X hlk rfl) m5 hroom, ev_hts X hin rfl, ev_hts X hsel rfl⟩ ⟨ev_pcblind, hrec, ev_pcpre (As := ev_r b :: As) X ⟨hP, hD, hS, hok⟩⟩ rfl (by rw [List.length_map]; exact hn) hl.1 rfl (lv_room hst) hd ⟨hc, hs⟩
  rw [hkd] at hrun
  refine va_callv (a := (Value.ref (ad b) :: As.map (ev_v ad)).toArray) hrun hS (fun q _ h => hF q h) hF (fun u t H1 locs1 ht hvm hw hB hz1 hk1 hS1 => ?_)
  obtain ⟨hP1, hK1, hD1⟩ := hB
  rw [ht] at hP1
  exact kk u hw.1 hw.2 p L e s m args below meth c D A H1 locs1 ls X hnm hO hP1 (hD1.weaken (fun _ _ _ h => hF _ h)) hS1 hl
end Cv
