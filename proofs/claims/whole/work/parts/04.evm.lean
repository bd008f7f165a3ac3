section EvMem
variable {Y : List ev_C} {M : ev_M} {d pc : Nat} {l : List (Nat × ev_V)} {st : List ev_V} {σ : ev_S} {Q : Option ev_V → ev_S → Prop}
/-- a class of the tables, with its fields and their types -/
def ev_cl (ci : Nat) (C : String) (T : u_T) (N : Nat) (ty0 : Nat → FieldType) : Prop := vwCl[ci]? = some (C, T, N) ∧ (∀ w ∈ u_ws C T N, w ∈ ev_tb) ∧ (∀ k, k < N → parseFieldDescriptor (T k).2.2.1 = some (ty0 k)) ∧ ∀ a, a < N → ∀ b, b < N → a ≠ b → (T a).2.1 ≠ (T b).2.1
theorem ev_vin {x : Int} {n : Nat} (hx : ev_R x) (h : 0 ≤ x ∧ x < n) : vp_in (Int32.ofInt x) n := by rw [vp_in_iff, ev_to hx]; exact h
theorem ev_clamp {x : Int} (hx : ev_R x) : (Int32.ofInt x).toNatClampNeg = x.toNat := by
  rw [← Int32.toNat_toInt, ev_to hx]
theorem ev_upk (σ : ev_S) (k i : Nat) (z : Int) : ev_up σ k i z k = fun j => if j = i then z else σ k j := by
  funext j; simp [ev_up]
theorem ev_upj (σ : ev_S) {k i j : Nat} (z : Int) (h : j ≠ k) : ev_up σ k i z j = σ j := by
  funext b; simp [ev_up, h]
theorem ev_arr (ct : Nat → ClassId) (ad : Nat → Nat) (σ : ev_S) (k i t n : Nat) (z : Int) : ev_cell ct ad (ev_up σ k i z k) (.inl (t, n)) = .inl (ct t, n, .inl (upd (fun j => Int32.ofInt (σ k j)) i (Int32.ofInt z))) := by
  rw [ev_upk]
  simp only [ev_cell]
  congr 4
  funext j
  simp only [upd]
  split <;> rfl
theorem ev_obj (ct : Nat → ClassId) (ad : Nat → Nat) (σ : ev_S) (k i ci : Nat) (fs : List (Option Nat)) (z : Int) (h : fs[i]? = some none) : ev_cell ct ad (ev_up σ k i z k) (.inr (.inl (ci, fs))) = .inr (ci, (ev_fl ad (σ k) 0 fs).set i (.int (Int32.ofInt z))) := by
  rw [ev_upk, ev_fl_set h]
  simp only [ev_cell, Nat.zero_add]

theorem Ev_get {k ci i idx N : Nat} {C : String} {T : u_T} {ty0 : Nat → FieldType} {fs : List (Option Nat)} (hC : ev_cl ci C T N ty0) (hY : Y[k]? = some (.inr (.inl (ci, fs)))) (hi : i < N) (hf : fs[i]? = some none) (hw : Cond.fieldLink M.1 idx (T i).1 (T i).2.1 (T i).2.2.1 ∈ lw_tbl) (hd : decode M.2.1 pc = .ok (.getfield idx, 3)) (kk : Ev Y M d (pc + 3) l (ev_i (σ k i) :: st) σ Q) : Ev Y M d pc l (ev_r k :: st) σ Q := by
  intro p L e s m args below meth c D ct ad A H locs ls X hH hl ho hs
  refine va_get (v := .int (Int32.ofInt (σ k i))) X.1 X.2.1 X.2.2.2.2.2.2.1 hC.2.1 X.2.2.2.2.1 X.2.2.2.2.2.2.2.1 hH.1 k (ev_at hY) hC.1 i hi (ev_hts X hw rfl) (fun _ h => h) (by rw [ev_fl_none hf, Nat.zero_add]) hd ?_
  exact kk p L e s m args below meth c D ct ad A H locs ls X hH hl ho (ev_oks_cons (hH.2.2.2 k i) (ev_oks_tail hs))
theorem Ev_getR {k ci i idx N j : Nat} {C : String} {T : u_T} {ty0 : Nat → FieldType} {fs : List (Option Nat)} (hC : ev_cl ci C T N ty0) (hY : Y[k]? = some (.inr (.inl (ci, fs)))) (hi : i < N) (hf : fs[i]? = some (some j)) (hw : Cond.fieldLink M.1 idx (T i).1 (T i).2.1 (T i).2.2.1 ∈ lw_tbl) (hd : decode M.2.1 pc = .ok (.getfield idx, 3)) (kk : Ev Y M d (pc + 3) l (ev_r j :: st) σ Q) : Ev Y M d pc l (ev_r k :: st) σ Q := by
  intro p L e s m args below meth c D ct ad A H locs ls X hH hl ho hs
  refine va_get (v := .ref (ad j)) X.1 X.2.1 X.2.2.2.2.2.2.1 hC.2.1 X.2.2.2.2.1 X.2.2.2.2.2.2.2.1 hH.1 k (ev_at hY) hC.1 i hi (ev_hts X hw rfl) (fun _ h => h) (ev_fl_some hf) hd ?_
  exact kk p L e s m args below meth c D ct ad A H locs ls X hH hl ho (ev_oks_cons (show ev_okv (ev_r j) from trivial) (ev_oks_tail hs))
theorem Ev_put {k ci i idx N : Nat} {z : Int} {C : String} {T : u_T} {ty0 : Nat → FieldType} {fs : List (Option Nat)} {ty : FieldType} (hC : ev_cl ci C T N ty0) (hY : Y[k]? = some (.inr (.inl (ci, fs)))) (hi : i < N) (hf : fs[i]? = some none) (hfin : (T i).2.2.2 = false) (hty : parseFieldDescriptor (T i).2.2.1 = some ty) (hn : narrow ty (.int (Int32.ofInt z)) = .int (Int32.ofInt z)) (hfit : fits ty (.int (Int32.ofInt z)) = true) (hw : Cond.fieldLink M.1 idx (T i).1 (T i).2.1 (T i).2.2.1 ∈ lw_tbl) (hd : decode M.2.1 pc = .ok (.putfield idx, 3)) (kk : Ev Y M d (pc + 3) l st (ev_up σ k i z) Q) : Ev Y M d pc l (ev_i z :: ev_r k :: st) σ Q := by
  intro p L e s m args below meth c D ct ad A H locs ls X hH hl ho hs
  have hlen : i < (ev_fl ad (σ k) 0 fs).length := by rw [ev_fl_len]; exact (List.getElem?_eq_some_iff.mp hf).1
  refine va_put (v := .int (Int32.ofInt z)) (ty := ty) X.1 X.2.1 X.2.2.2.2.2.2.1 hC.2.1 ty0 hC.2.2.1 hC.2.2.2 X.2.2.2.2.1 X.2.2.2.2.2.2.2.1 hH.1 hH.2.1 hH.2.2.1 k (ev_at hY) hC.1 i hi (ev_hts X hw rfl) (fun _ h => h) hfin hty hn hfit hlen hd (fun H1 locs1 hP hD hS => ?_)
  rw [ev_ws_set (σ' := ev_up σ k i z) hY (ev_obj ct ad σ k i ci fs z hf) (fun j hj => ev_upj σ z hj)] at hP hD
  exact kk p L e s m args below meth c D ct ad A H1 locs1 ls X ⟨hP, hD, hS, ev_up_ok hH.2.2.2 (ev_oks_head hs)⟩ hl ho (ev_oks_tail (ev_oks_tail hs))
theorem Ev_getN {k ci i idx N : Nat} {C : String} {T : u_T} {ty0 : Nat → FieldType} {fs : List (Option Nat)} {host : String} (hC : ev_cl ci C T N ty0) (hY : Y[k]? = some (.inr (.inl (ci, fs)))) (hi : i < N) (hf : fs[i]? = some none) (hw : Cond.fieldLinkNest M.1 idx (T i).1 (T i).2.1 (T i).2.2.1 host ∈ lw_tbl) (hd : decode M.2.1 pc = .ok (.getfield idx, 3)) (kk : Ev Y M d (pc + 3) l (ev_i (σ k i) :: st) σ Q) : Ev Y M d pc l (ev_r k :: st) σ Q := by
  intro p L e s m args below meth c D ct ad A H locs ls X hH hl ho hs
  refine va_getN (v := .int (Int32.ofInt (σ k i))) X.1 X.2.1 X.2.2.2.2.2.2.1 hC.2.1 X.2.2.2.2.1 X.2.2.2.2.2.2.2.1 hH.1 k (ev_at hY) hC.1 i hi (va_Nw.use rfl (X.2.2.2.2.2.2.2.2.2.1 _ hw rfl)) (fun _ h => h) (by rw [ev_fl_none hf, Nat.zero_add]) hd ?_
  exact kk p L e s m args below meth c D ct ad A H locs ls X hH hl ho (ev_oks_cons (hH.2.2.2 k i) (ev_oks_tail hs))
theorem Ev_getRN {k ci i idx N j : Nat} {C : String} {T : u_T} {ty0 : Nat → FieldType} {fs : List (Option Nat)} {host : String} (hC : ev_cl ci C T N ty0) (hY : Y[k]? = some (.inr (.inl (ci, fs)))) (hi : i < N) (hf : fs[i]? = some (some j)) (hw : Cond.fieldLinkNest M.1 idx (T i).1 (T i).2.1 (T i).2.2.1 host ∈ lw_tbl) (hd : decode M.2.1 pc = .ok (.getfield idx, 3)) (kk : Ev Y M d (pc + 3) l (ev_r j :: st) σ Q) : Ev Y M d pc l (ev_r k :: st) σ Q := by
  intro p L e s m args below meth c D ct ad A H locs ls X hH hl ho hs
  refine va_getN (v := .ref (ad j)) X.1 X.2.1 X.2.2.2.2.2.2.1 hC.2.1 X.2.2.2.2.1 X.2.2.2.2.2.2.2.1 hH.1 k (ev_at hY) hC.1 i hi (va_Nw.use rfl (X.2.2.2.2.2.2.2.2.2.1 _ hw rfl)) (fun _ h => h) (ev_fl_some hf) hd ?_
  exact kk p L e s m args below meth c D ct ad A H locs ls X hH hl ho (ev_oks_cons (show ev_okv (ev_r j) from trivial) (ev_oks_tail hs))
theorem Ev_putN {k ci i idx N : Nat} {z : Int} {C : String} {T : u_T} {ty0 : Nat → FieldType} {fs : List (Option Nat)} {ty : FieldType} {host : String} (hC : ev_cl ci C T N ty0) (hY : Y[k]? = some (.inr (.inl (ci, fs)))) (hi : i < N) (hf : fs[i]? = some none) (hfin : (T i).2.2.2 = false) (hty : parseFieldDescriptor (T i).2.2.1 = some ty) (hn : narrow ty (.int (Int32.ofInt z)) = .int (Int32.ofInt z)) (hfit : fits ty (.int (Int32.ofInt z)) = true) (hw : Cond.fieldLinkNest M.1 idx (T i).1 (T i).2.1 (T i).2.2.1 host ∈ lw_tbl) (hd : decode M.2.1 pc = .ok (.putfield idx, 3)) (kk : Ev Y M d (pc + 3) l st (ev_up σ k i z) Q) : Ev Y M d pc l (ev_i z :: ev_r k :: st) σ Q := by
  intro p L e s m args below meth c D ct ad A H locs ls X hH hl ho hs
  have hlen : i < (ev_fl ad (σ k) 0 fs).length := by rw [ev_fl_len]; exact (List.getElem?_eq_some_iff.mp hf).1
  refine va_putN (v := .int (Int32.ofInt z)) (ty := ty) X.1 X.2.1 X.2.2.2.2.2.2.1 hC.2.1 ty0 hC.2.2.1 hC.2.2.2 X.2.2.2.2.1 X.2.2.2.2.2.2.2.1 hH.1 hH.2.1 hH.2.2.1 k (ev_at hY) hC.1 i hi (va_Nw.use rfl (X.2.2.2.2.2.2.2.2.2.1 _ hw rfl)) (fun _ h => h) hfin hty hn hfit hlen hd (fun H1 locs1 hP hD hS => ?_)
  rw [ev_ws_set (σ' := ev_up σ k i z) hY (ev_obj ct ad σ k i ci fs z hf) (fun j hj => ev_upj σ z hj)] at hP hD
  exact kk p L e s m args below meth c D ct ad A H1 locs1 ls X ⟨hP, hD, hS, ev_up_ok hH.2.2.2 (ev_oks_head hs)⟩ hl ho (ev_oks_tail (ev_oks_tail hs))
theorem Ev_iald {k n : Nat} {x : Int} (hY : Y[k]? = some (.inl (0, n))) (hi : 0 ≤ x ∧ x < n) (hd : decode M.2.1 pc = .ok (.iaload, 1)) (kk : Ev Y M d (pc + 1) l (ev_i (σ k x.toNat) :: st) σ Q) : Ev Y M d pc l (ev_i x :: ev_r k :: st) σ Q := by
  intro p L e s m args below meth c D ct ad A H locs ls X hH hl ho hs
  have hx : ev_R x := ev_oks_head hs
  refine va_iald X.1 X.2.1 X.2.2.2.2.2.2.2.1 hH.1 k 0 (ev_at hY) rfl (ev_vin hx hi) hd ?_
  rw [ev_clamp hx]
  exact kk p L e s m args below meth c D ct ad A H locs ls X hH hl ho (ev_oks_cons (hH.2.2.2 k _) (ev_oks_tail (ev_oks_tail hs)))
theorem Ev_bald {k n : Nat} {x : Int} (hY : Y[k]? = some (.inl (1, n))) (hi : 0 ≤ x ∧ x < n) (hd : decode M.2.1 pc = .ok (.baload, 1)) (kk : Ev Y M d (pc + 1) l (ev_i (σ k x.toNat) :: st) σ Q) : Ev Y M d pc l (ev_i x :: ev_r k :: st) σ Q := by
  intro p L e s m args below meth c D ct ad A H locs ls X hH hl ho hs
  have hx : ev_R x := ev_oks_head hs
  refine va_bald X.1 X.2.1 X.2.2.2.2.2.2.2.1 hH.1 k 1 (ev_at hY) rfl (ev_vin hx hi) hd ?_
  rw [ev_clamp hx]
  exact kk p L e s m args below meth c D ct ad A H locs ls X hH hl ho (ev_oks_cons (hH.2.2.2 k _) (ev_oks_tail (ev_oks_tail hs)))
theorem Ev_zald {k n : Nat} {x : Int} (hY : Y[k]? = some (.inl (2, n))) (hi : 0 ≤ x ∧ x < n) (hd : decode M.2.1 pc = .ok (.baload, 1)) (kk : Ev Y M d (pc + 1) l (ev_i (σ k x.toNat) :: st) σ Q) : Ev Y M d pc l (ev_i x :: ev_r k :: st) σ Q := by
  intro p L e s m args below meth c D ct ad A H locs ls X hH hl ho hs
  have hx : ev_R x := ev_oks_head hs
  refine va_zald X.1 X.2.1 X.2.2.2.2.2.2.2.1 hH.1 k 2 (ev_at hY) rfl (ev_vin hx hi) hd ?_
  rw [ev_clamp hx]
  exact kk p L e s m args below meth c D ct ad A H locs ls X hH hl ho (ev_oks_cons (hH.2.2.2 k _) (ev_oks_tail (ev_oks_tail hs)))
theorem Ev_iast {k n : Nat} {x z : Int} (hY : Y[k]? = some (.inl (0, n))) (hi : 0 ≤ x ∧ x < n) (hd : decode M.2.1 pc = .ok (.iastore, 1)) (kk : Ev Y M d (pc + 1) l st (ev_up σ k x.toNat z) Q) : Ev Y M d pc l (ev_i z :: ev_i x :: ev_r k :: st) σ Q := by
  intro p L e s m args below meth c D ct ad A H locs ls X hH hl ho hs
  have hx : ev_R x := ev_oks_head (ev_oks_tail hs)
  refine va_iast X.1 X.2.1 X.2.2.2.2.2.2.2.1 hH.1 hH.2.1 hH.2.2.1 k 0 (ev_at hY) rfl (ev_vin hx hi) hd (fun H1 locs1 hP hD hS => ?_)
  rw [ev_clamp hx, ev_ws_set (σ' := ev_up σ k x.toNat z) hY (ev_arr ct ad σ k x.toNat 0 n z) (fun j hj => ev_upj σ _ hj)] at hP hD
  exact kk p L e s m args below meth c D ct ad A H1 locs1 ls X ⟨hP, hD, hS, ev_up_ok hH.2.2.2 (ev_oks_head hs)⟩ hl ho (ev_oks_tail (ev_oks_tail (ev_oks_tail hs)))
theorem Ev_bast {k n : Nat} {x z : Int} (hY : Y[k]? = some (.inl (1, n))) (hi : 0 ≤ x ∧ x < n) (hd : decode M.2.1 pc = .ok (.bastore, 1)) (kk : Ev Y M d (pc + 1) l st (ev_up σ k x.toNat (ev_nar .byte z)) Q) : Ev Y M d pc l (ev_i z :: ev_i x :: ev_r k :: st) σ Q := by
  intro p L e s m args below meth c D ct ad A H locs ls X hH hl ho hs
  have hx : ev_R x := ev_oks_head (ev_oks_tail hs)
  refine va_bast X.1 X.2.1 X.2.2.2.2.2.2.2.1 hH.1 hH.2.1 hH.2.2.1 k 1 (ev_at hY) rfl (ev_vin hx hi) hd (fun H1 locs1 hP hD hS => ?_)
  have e9 : vp_nar .byte (Int32.ofInt z) = Int32.ofInt (ev_nar .byte z) := (ev_of _).symm
  rw [e9] at hP hD
  rw [ev_clamp hx, ev_ws_set (σ' := ev_up σ k x.toNat (ev_nar .byte z)) hY (ev_arr ct ad σ k x.toNat 1 n (ev_nar .byte z)) (fun j hj => ev_upj σ _ hj)] at hP hD
  exact kk p L e s m args below meth c D ct ad A H1 locs1 ls X ⟨hP, hD, hS, ev_up_ok hH.2.2.2 (ev_Rt _)⟩ hl ho (ev_oks_tail (ev_oks_tail (ev_oks_tail hs)))
theorem Ev_zast {k n : Nat} {x z : Int} (hY : Y[k]? = some (.inl (2, n))) (hi : 0 ≤ x ∧ x < n) (hd : decode M.2.1 pc = .ok (.bastore, 1)) (kk : Ev Y M d (pc + 1) l st (ev_up σ k x.toNat (ev_nar .boolean z)) Q) : Ev Y M d pc l (ev_i z :: ev_i x :: ev_r k :: st) σ Q := by
  intro p L e s m args below meth c D ct ad A H locs ls X hH hl ho hs
  have hx : ev_R x := ev_oks_head (ev_oks_tail hs)
  refine va_zast X.1 X.2.1 X.2.2.2.2.2.2.2.1 hH.1 hH.2.1 hH.2.2.1 k 2 (ev_at hY) rfl (ev_vin hx hi) hd (fun H1 locs1 hP hD hS => ?_)
  have e9 : vp_nar .boolean (Int32.ofInt z) = Int32.ofInt (ev_nar .boolean z) := (ev_of _).symm
  rw [e9] at hP hD
  rw [ev_clamp hx, ev_ws_set (σ' := ev_up σ k x.toNat (ev_nar .boolean z)) hY (ev_arr ct ad σ k x.toNat 2 n (ev_nar .boolean z)) (fun j hj => ev_upj σ _ hj)] at hP hD
  exact kk p L e s m args below meth c D ct ad A H1 locs1 ls X ⟨hP, hD, hS, ev_up_ok hH.2.2.2 (ev_Rt _)⟩ hl ho (ev_oks_tail (ev_oks_tail (ev_oks_tail hs)))
theorem Ev_alen {k n : Nat} (hY : Y[k]? = some (.inl (0, n))) (hn : n < 2147483648) (hd : decode M.2.1 pc = .ok (.arraylength, 1)) (kk : Ev Y M d (pc + 1) l (ev_i (n : Int) :: st) σ Q) : Ev Y M d pc l (ev_r k :: st) σ Q := by
  intro p L e s m args below meth c D ct ad A H locs ls X hH hl ho hs
  refine va_alen X.1 X.2.1 X.2.2.2.2.2.2.2.1 hH.1 k 0 (ev_at hY) rfl (v := Int32.ofInt (n : Int)) (by show Int32.ofNat n = _; exact (Int32.ofInt_eq_ofNat).symm) hd ?_
  exact kk p L e s m args below meth c D ct ad A H locs ls X hH hl ho (ev_oks_cons (show ev_R (n : Int) from ⟨by omega, by omega⟩) (ev_oks_tail hs))
theorem Ev_aald {k j : Nat} {js : List Nat} {x : Int} (hY : Y[k]? = some (.inr (.inr (3, js)))) (hi : 0 ≤ x ∧ x < js.length) (hj : js[x.toNat]? = some j) (hd : decode M.2.1 pc = .ok (.aaload, 1)) (kk : Ev Y M d (pc + 1) l (ev_r j :: st) σ Q) : Ev Y M d pc l (ev_i x :: ev_r k :: st) σ Q := by
  intro p L e s m args below meth c D ct ad A H locs ls X hH hl ho hs
  have hx : ev_R x := ev_oks_head hs
  refine va_aldq X.1 X.2.1 X.2.2.2.2.2.2.2.1 hH.1 k 3 (ev_at hY) rfl (ev_vin hx hi) hd ?_
  rw [ev_clamp hx, hj]
  exact kk p L e s m args below meth c D ct ad A H locs ls X hH hl ho (ev_oks_cons (show ev_okv (ev_r j) from trivial) (ev_oks_tail (ev_oks_tail hs)))
theorem Ev_vret (hM : M.2.2.2 = (none, 0)) (hd : decode M.2.1 pc = .ok (.return_, 1)) (h : Q none σ) : Ev Y M d pc l [] σ Q := by
  obtain ⟨own, cc, nL, rt⟩ := M
  simp only at hM
  subst hM
  intro p L e s m args below meth c D ct ad A H locs ls X hH hl ho hs
  exact W.vret X.1 X.2.1 X.2.2.1 (fun t ht hW => ⟨⟨σ, rfl, ⟨h, hH.2.2.2⟩, by rw [ht]; exact hH.1, va_K.moved hW.alike X.2.2.2.2.2.2.2.1, hH.2.1⟩, hH.2.2.1.F ht⟩) hH.2.2.1.2.2 hd X.2.2.2.2.2.1
theorem Ev_iret {z : Int} {ty : FieldType} (hM : M.2.2.2 = (some ty, 1)) (hd : decode M.2.1 pc = .ok (.ireturn, 1)) (hn : narrow ty (.int (Int32.ofInt z)) = .int (Int32.ofInt z)) (h : Q (some (ev_i z)) σ) : Ev Y M d pc l [ev_i z] σ Q := by
  obtain ⟨own, cc, nL, rt⟩ := M
  simp only at hM
  subst hM
  intro p L e s m args below meth c D ct ad A H locs ls X hH hl ho hs
  exact W.zret X.1 X.2.1 X.2.2.1 hn (fun t ht hW => ⟨⟨Int32.ofInt z, σ, rfl, ⟨z, ev_oks_head hs, rfl, h, hH.2.2.2⟩, by rw [ht]; exact hH.1, va_K.moved hW.alike X.2.2.2.2.2.2.2.1, hH.2.1⟩, hH.2.2.1.F ht⟩) hH.2.2.1.2.2 hd X.2.2.2.2.2.1
theorem Ev_lret {z : Int} (hM : M.2.2.2 = (some .long, 2)) (hd : decode M.2.1 pc = .ok (.lreturn, 1)) (h : Q (some (ev_l z)) σ) : Ev Y M d pc l [ev_l z] σ Q := by
  obtain ⟨own, cc, nL, rt⟩ := M
  simp only at hM
  subst hM
  intro p L e s m args below meth c D ct ad A H locs ls X hH hl ho hs
  exact W.lret X.1 X.2.1 X.2.2.1 (fun t ht hW => ⟨⟨Int64.ofInt z, σ, rfl, ⟨z, ev_oks_head hs, rfl, h, hH.2.2.2⟩, by rw [ht]; exact hH.1, va_K.moved hW.alike X.2.2.2.2.2.2.2.1, hH.2.1⟩, hH.2.2.1.F ht⟩) hH.2.2.1.2.2 hd X.2.2.2.2.2.1
/-! calls -/
def ev_args : Nat → List ev_V → List (Nat × ev_V)
  | _, [] => []
  | i, v :: vs => (i, v) :: ev_args (if ev_is2 v then i + 2 else i + 1) vs
def ev_len : List ev_V → Nat
  | [] => 0
  | v :: vs => (if ev_is2 v then 2 else 1) + ev_len vs
theorem ev_cat2 (ad : Nat → Nat) (v : ev_V) : (ev_v ad v).category = 2 ↔ ev_is2 v = true := by
  rw [← ev_cat ad v]; simp
theorem ev_args_eq (ad : Nat → Nat) : ∀ (i : Nat) (As : List ev_V), lv_args i (As.map (ev_v ad)) = ev_loc ad (ev_args i As)
  | _, [] => rfl
  | i, v :: vs => by
    simp only [List.map_cons, lv_args, ev_args, ev_loc]
    rw [ev_args_eq ad]
    by_cases h : ev_is2 v = true
    · rw [if_pos ((ev_cat2 ad v).mpr h), if_pos h]; rfl
    · rw [if_neg (fun q => h ((ev_cat2 ad v).mp q)), if_neg h]; rfl
theorem ev_len_eq (ad : Nat → Nat) : ∀ (As : List ev_V), (lg_sl (As.map (ev_v ad))).length = ev_len As
  | [] => rfl
  | v :: vs => by
    have ih := ev_len_eq ad vs
    simp only [lg_sl, List.map_cons, List.flatMap_cons, List.length_append, ev_len] at ih ⊢
    rw [ih]
    by_cases h : ev_is2 v = true
    · rw [if_pos ((ev_cat2 ad v).mpr h), if_pos h]; rfl
    · rw [if_neg (fun q => h ((ev_cat2 ad v).mp q)), if_neg h]; rfl
theorem ev_args_ok {As : List ev_V} (h : ∀ v ∈ As, ev_okv v) : ∀ (i : Nat), ∀ q ∈ ev_args i As, ev_okv q.2 := by
  induction As with
  | nil => intro i q hq; cases hq
  | cons v vs ih =>
    intro i q hq
    rcases List.mem_cons.mp hq with e | e
    · rw [e]; exact h v List.mem_cons_self
    · exact ih (fun v hv => h v (List.mem_cons_of_mem _ hv)) _ q e
def ev_ws1 (y : MethodName) (M : ev_M) : List Cond := Cond.code y M.2.1 M.2.2.1 M.2.2.2.1 :: ev_tb
def ev_Pc (Y : List ev_C) (D : va_G) (ct : Nat → ClassId) (ad : Nat → Nat) (sz : Nat) (As : List ev_V) (σ : ev_S) : Array Value → State → Prop :=
  va_Pc (As.map (ev_v ad)) (fun U => U.heap.size = sz ∧ va_P D vwCl (ev_ws Y ct ad σ) U.heap ∧ va_K D vwCl (ev_tys ct) U ∧ va_D (fun _ => True) (ev_ws Y ct ad σ) ∧ ev_Ns U ∧ ev_T (va_A (ev_ws Y ct ad σ) sz) U U.heap)
theorem ev_met {y : MethodName} {As : List ev_V} (h : Ev Y M d 0 (ev_args 0 As) [] σ Q) (hy : plainName y.cls = true) (hown : y.cls = M.1) (hfit : ev_len As ≤ M.2.2.1) (hAs : ∀ v ∈ As, ev_okv v) (hok : ev_ok σ) (L : Launch) (D : va_G) (ct : Nat → ClassId) (ad : Nat → Nat) (sz : Nat) :
    Met L y (ev_ws1 y M) (ev_rm d) (ev_Pc Y D ct ad sz As σ) (ev_Qc M.2.2.2.2 Y D ct ad (va_A (ev_ws Y ct ad σ) sz) Q) 0 0 (va_A (ev_ws Y ct ad σ) sz) := by
  refine Met.ofW (cc := M.2.1) (maxL := M.2.2.1) (ret := M.2.2.2.1) hy rfl ?_
  intro p e s m args below meth c s₁ B hml hv
  obtain ⟨rfl, hsz, hP, hK, hD0, hN, hT⟩ := hv
  have hts := atoms_spec (ws := ev_ws1 y M) B.pre
  have hown2 : s.vm.findClass M.1 = some m.cls := hown ▸ findClass_of_methodNamed B.named
  subst hsz
  have hl := lv_entry (As.map (ev_v ad)) (n := M.2.2.1) (by rw [ev_len_eq]; exact hfit)
  rw [lg_entry_eq]
  rw [ev_args_eq] at hl
  exact h p L e s m _ below meth c D ct ad _ s.heap [] _ ⟨B.exec, B.bytes, B.returns, hml, hown2, B.notSynchronized, fun w hw => hts w (List.mem_cons_of_mem _ hw), hK, fun q hq => Or.inr hq, hN, hT⟩ ⟨hP, hD0.self, va_S.rf, hok⟩ hl (ev_args_ok hAs 0) (fun v hv => by cases hv)
theorem ev_pcblind {D : va_G} {ct : Nat → ClassId} {ad : Nat → Nat} {sz : Nat} {As : List ev_V} : FrameBlind (ev_Pc Y D ct ad sz As σ) := by
  intro a U g mk q
  obtain ⟨q0, q1, qP, qK, qD, qN, qT⟩ := q
  exact ⟨q0, q1, qP, va_K.moved (u := U) (U := U.calling g mk a) (Vm.Alike.refl U.vm) qK, qD, ev_Ns_same (s := U) (U := U.calling g mk a) rfl qN, ev_T_same (s := U) (U := U.calling g mk a) rfl qT⟩
theorem ev_inA {A : Nat → Prop} {ct : Nat → ClassId} {ad : Nat → Nat} {H0 H : Heap} {locs : List Loc} (hD : va_D A (ev_ws Y ct ad σ)) (hS : va_S A H0 H locs) (hA : ∀ q, H0.size ≤ q → A q) : ∀ q, va_A (ev_ws Y ct ad σ) H.size q → A q := by
  intro q h
  rcases h with ⟨k, e, h⟩ | h
  · exact hD.2 k _ h
  · exact hA q (Nat.le_trans hS.1 h)
theorem ev_pcpre {p : Program} {s : State} {m : MethodId} {args : Array Value} {meth : Method} {c : Code} {D : va_G} {ct : Nat → ClassId} {ad : Nat → Nat} {A : Nat → Prop} {H : Heap} {locs : List Loc} {As : List ev_V} (X : ev_X M p s m args meth c D ct A) (hH : ev_H Y D ct ad A s H locs σ) : ∀ U : State, U.heap = H → s.WarmedH U.vm → ev_Pc Y D ct ad H.size As σ (As.map (ev_v ad)).toArray U := by
  intro U hU hW
  refine ⟨rfl, by rw [hU], by rw [hU]; exact hH.1, va_K.moved hW.alike X.2.2.2.2.2.2.2.1, hH.2.1.weaken (fun _ _ _ _ => trivial), ev_Ns_warm hW X.2.2.2.2.2.2.2.2.2.1, ?_⟩
  rw [hU]
  exact ev_T_warm hW (ev_T_narrow (ev_T_kept X.2.2.2.2.2.2.2.2.2.2 hH.2.2.1.2.1) (ev_inA hH.2.1 hH.2.2.1 X.2.2.2.2.2.2.2.2.1))
def ev_kd (kind : Nat) (v : Option ev_V) : Prop := match kind with
  | 0 => v = none
  | 1 => ∃ z, v = some (ev_i z)
  | _ => ∃ z, v = some (ev_l z)
/-- behind a call -/
theorem ev_after {kind : Nat} {Q' : Option ev_V → ev_S → Prop} {p : Program} {L : Launch} {e : Env} {s : State} {m : MethodId} {args : Array Value} {below : List Frame} {meth : Method} {c : Code} {D : va_G} {ct : Nat → ClassId} {ad : Nat → Nat} {A : Nat → Prop} {H : Heap} {locs : List Loc} {ls : Array Slot} {st0 : List Value} {a : Array Value}
    (hr : va_Run p L e (ev_rm d) s m args below meth c H locs 0 0 0 0 (F0 m pc ls st0) (st.map (ev_v ad)) (ev_Qc kind Y D ct ad (va_A (ev_ws Y ct ad σ) H.size) Q' a) (va_A (ev_ws Y ct ad σ) H.size))
    (X : ev_X M p s m args meth c D ct A) (hH : ev_H Y D ct ad A s H locs σ) (hl : lv_has ls M.2.2.1 (ev_loc ad l)) (ho : ∀ q ∈ l, ev_okv q.2) (hs : ∀ v ∈ st, ev_okv v)
    (kk : ∀ v u, Q' v u → ev_kd kind v → Ev Y M d (pc + 3) l (v.toList ++ st) u Q) :
    W p L e (ev_rm d) s m args below meth c H locs 0 0 (MQ below (ev_Qc M.2.2.2.2 Y D ct ad A Q) args s 0 0 A) (F0 m pc ls st0) := by
  have hF := ev_inA hH.2.1 hH.2.2.1 X.2.2.2.2.2.2.2.2.1
  have key : ∀ (u : ev_S) (t : State) (H1 : Heap) (locs1 : List Loc), t.heap = H1 → s.vm.Alike t.vm → ev_B Y D ct ad (va_A (ev_ws Y ct ad σ) H.size) u t → va_S A s.heap H1 locs1 → ev_ok u → ev_H Y D ct ad A s H1 locs1 u := by
    intro u t H1 locs1 ht hvm hB hS hok
    obtain ⟨hP1, hK1, hD1⟩ := hB
    rw [ht] at hP1
    exact ⟨hP1, hD1.weaken (fun _ _ _ h => hF _ h), hS, hok⟩
  match kind, hr, kk with
  | 0, hr, kk =>
    refine va_callv (a := a) hr hH.2.2.1 (fun q _ h => hF q h) hF (fun u t H1 locs1 ht hvm hw hB hz1 hk1 hS => ?_)
    exact kk none u hw.1 rfl p L e s m args below meth c D ct ad A H1 locs1 ls X (key u t H1 locs1 ht hvm hB hS hw.2) hl ho hs
  | 1, hr, kk =>
    refine va_calli (a := a) hr hH.2.2.1 (fun q _ h => hF q h) hF (fun r u t H1 locs1 ht hvm hw hB hz1 hk1 hS => ?_)
    obtain ⟨z, hz, rfl, hq, hok⟩ := hw
    exact kk (some (ev_i z)) u hq ⟨z, rfl⟩ p L e s m args below meth c D ct ad A H1 locs1 ls X (key u t H1 locs1 ht hvm hB hS hok) hl ho (ev_oks_cons hz hs)
  | n + 2, hr, kk =>
    refine va_calll (a := a) hr hH.2.2.1 (fun q _ h => hF q h) hF (fun r u t H1 locs1 ht hvm hw hB hz1 hk1 hS => ?_)
    obtain ⟨z, hz, rfl, hq, hok⟩ := hw
    exact kk (some (ev_l z)) u hq ⟨z, rfl⟩ p L e s m args below meth c D ct ad A H1 locs1 ls X (key u t H1 locs1 ht hvm hB hS hok) hl ho (ev_oks_cons hz hs)
theorem ev_tb_good : ∀ w ∈ ev_tb, w ∈ ev_tb ∧ ((w.onTables && w.keeps) = true ∨ ∃ ty, w = .arrayClass ty) := fun w hw => ⟨hw, good_of_word (List.mem_filter.mp hw).2⟩
theorem ev_good1 {y : MethodName} {M' : ev_M} (hc : Cond.code y M'.2.1 M'.2.2.1 M'.2.2.2.1 ∈ lw_tbl) : GoodIn ev_tb (ev_ws1 y M') := by
  intro w hw
  rcases List.mem_cons.mp hw with e | e
  · exact ev_tb_good w (List.mem_filter.mpr ⟨e ▸ hc, by rw [e]; rfl⟩)
  · exact ev_tb_good w e
def ev_st8 (st : List ev_V) : Prop := (st.map (fun v => if ev_is2 v then 2 else 1)).sum ≤ 8
theorem ev_st8_ok {ad : Nat → Nat} (h : ev_st8 st) : ((st.map (ev_v ad)).map fun v => v.category).sum ≤ 8 := by
  have e : (st.map (ev_v ad)).map (fun v => v.category) = st.map (fun v => if ev_is2 v then 2 else 1) := by
    rw [List.map_map]
    apply List.map_congr_left
    intro v _
    match v with
    | .inl _ => rfl
    | .inr (.inl _) => rfl
    | .inr (.inr none) => rfl
    | .inr (.inr (some _)) => rfl
  rw [e]; exact h
/-- what a call asks of its callee's name and code -/
def ev_cm (y : MethodName) (M' : ev_M) (n : Nat) : Prop := plainName y.cls = true ∧ y.cls = M'.1 ∧ Cond.code y M'.2.1 M'.2.2.1 M'.2.2.2.1 ∈ lw_tbl ∧ Cond.initialized y.cls ∈ lw_tbl ∧ (y.cls ≠ "java/lang/invoke/MethodHandle" ∧ y.cls ≠ "java/lang/invoke/VarHandle" ∧ (parseMethodDescriptor y.desc).map (fun d => d.parameters.length) = some n) ∧ M'.2.2.1 ≤ 45
theorem Ev_callV {M' : ev_M} {y : MethodName} {d' idx n : Nat} {As : List ev_V} {Q' : Option ev_V → ev_S → Prop} {b ci N : Nat} {C : String} {T : u_T} {ty0 : Nat → FieldType} {fs : List (Option Nat)} (hm : ev_cm y M' n) (hlk : Cond.methodLink M.1 idx y ∈ lw_tbl) (hin : Cond.instanceMethod y ∈ lw_tbl) (hsel : Cond.selects y.cls y y ∈ lw_tbl) (hY : Y[b]? = some (.inr (.inl (ci, fs)))) (hC : ev_cl ci C T N ty0) (hCy : C = y.cls) (hd : decode M.2.1 pc = .ok (.invokevirtual idx, 3)) (hdd : d' + 1 ≤ d) (hn : As.length = n) (hfit : ev_len (ev_r b :: As) ≤ M'.2.2.1) (h8 : ev_st8 st) (hcal : Ev Y M' d' 0 (ev_args 0 (ev_r b :: As)) [] σ Q') (kk : ∀ v u, Q' v u → ev_kd M'.2.2.2.2 v → Ev Y M d (pc + 3) l (v.toList ++ st) u Q) : Ev Y M d pc l (As.reverse ++ ev_r b :: st) σ Q := by
  intro p L e s m args below meth c D ct ad A H locs ls X hH hl ho hs
  obtain ⟨m1, m2, m3, m4, m5, m6⟩ := hm
  have hAs : ∀ v ∈ ev_r b :: As, ev_okv v := ev_oks_cons (show ev_okv (ev_r b) from trivial) (fun v hv => hs v (List.mem_append_left _ (List.mem_reverse.mpr hv)))
  have hs2 : ∀ v ∈ st, ev_okv v := fun v hv => hs v (List.mem_append_right _ (List.mem_cons_of_mem _ hv))
  have hmet := ev_met (y := y) hcal m1 m2 hfit hAs hH.2.2.2 L D ct ad H.size
  have hroom : (ev_rm d').frames + 1 ≤ (ev_rm d).frames ∧ 8 + (M'.2.2.1 + 11) + (ev_rm d').locals ≤ (ev_rm d).locals := ⟨hdd, by show 8 + (M'.2.2.1 + 11) + 64 * d' ≤ 64 * d; omega⟩
  have hrec : ∃ cell : Cell, H[ad b]? = some cell ∧ cell.vm.isStatics = false ∧ s.vm.findClass y.cls = some cell.cls := by
    have h1 := va_recv X.2.2.2.2.2.2.2.1 hH.1 hC.1 (ev_at hY)
    simp only [hCy] at h1
    exact h1
  refine ev_after (va_runV (As := As.map (ev_v ad)) (rest := st.map (ev_v ad)) (b := ad b) ⟨X.1, X.2.1, X.2.2.2.1, X.2.2.2.2.1, X.2.2.2.2.2.2.1⟩ hmet ⟨callB_of n X.2.2.2.2.2.2.1 (ev_good1 m3) rfl rfl rfl (ev_hts X m4 rfl) (ev_hts X hlk rfl) m5 hroom, ev_hts X hin rfl, ev_hts X hsel rfl⟩ ⟨ev_pcblind, hrec, ev_pcpre (As := ev_r b :: As) X hH⟩ rfl (by rw [List.length_map]; exact hn) hl.1 (by simp [List.map_reverse, ev_v]) (lv_room (ev_st8_ok h8)) hd ⟨Nat.le_refl 0, Nat.le_refl 0⟩) X hH hl ho hs2 kk
theorem Ev_callVN {M' : ev_M} {y : MethodName} {d' idx n : Nat} {As : List ev_V} {Q' : Option ev_V → ev_S → Prop} {b ci N : Nat} {C : String} {T : u_T} {ty0 : Nat → FieldType} {fs : List (Option Nat)} {host : String} (hm : ev_cm y M' n) (hlk : Cond.methodLinkNest M.1 idx y host ∈ lw_tbl) (hin : Cond.instanceMethod y ∈ lw_tbl) (hsel : Cond.selects y.cls y y ∈ lw_tbl) (hY : Y[b]? = some (.inr (.inl (ci, fs)))) (hC : ev_cl ci C T N ty0) (hCy : C = y.cls) (hd : decode M.2.1 pc = .ok (.invokevirtual idx, 3)) (hdd : d' + 1 ≤ d) (hn : As.length = n) (hfit : ev_len (ev_r b :: As) ≤ M'.2.2.1) (h8 : ev_st8 st) (hcal : Ev Y M' d' 0 (ev_args 0 (ev_r b :: As)) [] σ Q') (kk : ∀ v u, Q' v u → ev_kd M'.2.2.2.2 v → Ev Y M d (pc + 3) l (v.toList ++ st) u Q) : Ev Y M d pc l (As.reverse ++ ev_r b :: st) σ Q := by
  intro p L e s m args below meth c D ct ad A H locs ls X hH hl ho hs
  obtain ⟨m1, m2, m3, m4, m5, m6⟩ := hm
  have hAs : ∀ v ∈ ev_r b :: As, ev_okv v := ev_oks_cons (show ev_okv (ev_r b) from trivial) (fun v hv => hs v (List.mem_append_left _ (List.mem_reverse.mpr hv)))
  have hs2 : ∀ v ∈ st, ev_okv v := fun v hv => hs v (List.mem_append_right _ (List.mem_cons_of_mem _ hv))
  have hmet := ev_met (y := y) hcal m1 m2 hfit hAs hH.2.2.2 L D ct ad H.size
  have hroom : (ev_rm d').frames + 1 ≤ (ev_rm d).frames ∧ 8 + (M'.2.2.1 + 11) + (ev_rm d').locals ≤ (ev_rm d).locals := ⟨hdd, by show 8 + (M'.2.2.1 + 11) + 64 * d' ≤ 64 * d; omega⟩
  have hrec : ∃ cell : Cell, H[ad b]? = some cell ∧ cell.vm.isStatics = false ∧ s.vm.findClass y.cls = some cell.cls := by
    have h1 := va_recv X.2.2.2.2.2.2.2.1 hH.1 hC.1 (ev_at hY)
    simp only [hCy] at h1
    exact h1
  refine ev_after (va_runVN (As := As.map (ev_v ad)) (rest := st.map (ev_v ad)) (b := ad b) ⟨X.1, X.2.1, X.2.2.2.1, X.2.2.2.2.1, X.2.2.2.2.2.2.1⟩ hmet ⟨va_cnB n X.2.2.2.2.2.2.1 (ev_good1 m3) rfl rfl rfl (X.2.2.2.2.2.2.2.2.2.1 _ hlk rfl) (ev_hts X m4 rfl) m5 hroom, ev_hts X hin rfl, ev_hts X hsel rfl⟩ ⟨ev_pcblind, hrec, ev_pcpre (As := ev_r b :: As) X hH⟩ rfl (by rw [List.length_map]; exact hn) hl.1 (by simp [List.map_reverse, ev_v]) (lv_room (ev_st8_ok h8)) hd ⟨Nat.le_refl 0, Nat.le_refl 0⟩) X hH hl ho hs2 kk
theorem Ev_callS {M' : ev_M} {y : MethodName} {d' idx n : Nat} {As : List ev_V} {Q' : Option ev_V → ev_S → Prop} (hm : ev_cm y M' n) (hlk : Cond.methodLink M.1 idx y ∈ lw_tbl) (hst : Cond.static y ∈ lw_tbl) (hd : decode M.2.1 pc = .ok (.invokestatic idx, 3)) (hdd : d' + 1 ≤ d) (hn : As.length = n) (hfit : ev_len As ≤ M'.2.2.1) (h8 : ev_st8 st) (hcal : Ev Y M' d' 0 (ev_args 0 As) [] σ Q') (kk : ∀ v u, Q' v u → ev_kd M'.2.2.2.2 v → Ev Y M d (pc + 3) l (v.toList ++ st) u Q) : Ev Y M d pc l (As.reverse ++ st) σ Q := by
  intro p L e s m args below meth c D ct ad A H locs ls X hH hl ho hs
  obtain ⟨m1, m2, m3, m4, m5, m6⟩ := hm
  have hAs : ∀ v ∈ As, ev_okv v := fun v hv => hs v (List.mem_append_left _ (List.mem_reverse.mpr hv))
  have hs2 : ∀ v ∈ st, ev_okv v := fun v hv => hs v (List.mem_append_right _ hv)
  have hmet := ev_met (y := y) hcal m1 m2 hfit hAs hH.2.2.2 L D ct ad H.size
  have hroom : (ev_rm d').frames + 1 ≤ (ev_rm d).frames ∧ 8 + (M'.2.2.1 + 11) + (ev_rm d').locals ≤ (ev_rm d).locals := ⟨hdd, by show 8 + (M'.2.2.1 + 11) + 64 * d' ≤ 64 * d; omega⟩
  refine ev_after (va_runS (As := As.map (ev_v ad)) (rest := st.map (ev_v ad)) ⟨X.1, X.2.1, X.2.2.2.1, X.2.2.2.2.1, X.2.2.2.2.2.2.1⟩ hmet ⟨callB_of n X.2.2.2.2.2.2.1 (ev_good1 m3) rfl rfl rfl (ev_hts X m4 rfl) (ev_hts X hlk rfl) m5 hroom, ev_hts X hst rfl⟩ ⟨ev_pcblind, ev_pcpre (As := As) X hH⟩ rfl (by rw [List.length_map]; exact hn) hl.1 (by simp [List.map_reverse]) (lv_room (ev_st8_ok h8)) hd ⟨Nat.le_refl 0, Nat.le_refl 0⟩) X hH hl ho hs2 kk
theorem Ev_callSN {M' : ev_M} {y : MethodName} {d' idx n : Nat} {As : List ev_V} {Q' : Option ev_V → ev_S → Prop} {host : String} (hm : ev_cm y M' n) (hlk : Cond.methodLinkNest M.1 idx y host ∈ lw_tbl) (hst : Cond.static y ∈ lw_tbl) (hd : decode M.2.1 pc = .ok (.invokestatic idx, 3)) (hdd : d' + 1 ≤ d) (hn : As.length = n) (hfit : ev_len As ≤ M'.2.2.1) (h8 : ev_st8 st) (hcal : Ev Y M' d' 0 (ev_args 0 As) [] σ Q') (kk : ∀ v u, Q' v u → ev_kd M'.2.2.2.2 v → Ev Y M d (pc + 3) l (v.toList ++ st) u Q) : Ev Y M d pc l (As.reverse ++ st) σ Q := by
  intro p L e s m args below meth c D ct ad A H locs ls X hH hl ho hs
  obtain ⟨m1, m2, m3, m4, m5, m6⟩ := hm
  have hAs : ∀ v ∈ As, ev_okv v := fun v hv => hs v (List.mem_append_left _ (List.mem_reverse.mpr hv))
  have hs2 : ∀ v ∈ st, ev_okv v := fun v hv => hs v (List.mem_append_right _ hv)
  have hmet := ev_met (y := y) hcal m1 m2 hfit hAs hH.2.2.2 L D ct ad H.size
  have hroom : (ev_rm d').frames + 1 ≤ (ev_rm d).frames ∧ 8 + (M'.2.2.1 + 11) + (ev_rm d').locals ≤ (ev_rm d).locals := ⟨hdd, by show 8 + (M'.2.2.1 + 11) + 64 * d' ≤ 64 * d; omega⟩
  refine ev_after (va_runSN (As := As.map (ev_v ad)) (rest := st.map (ev_v ad)) ⟨X.1, X.2.1, X.2.2.2.1, X.2.2.2.2.1, X.2.2.2.2.2.2.1⟩ hmet ⟨va_cnB n X.2.2.2.2.2.2.1 (ev_good1 m3) rfl rfl rfl (X.2.2.2.2.2.2.2.2.2.1 _ hlk rfl) (ev_hts X m4 rfl) m5 hroom, ev_hts X hst rfl, trivial⟩ ⟨ev_pcblind, ev_pcpre (As := As) X hH⟩ rfl (by rw [List.length_map]; exact hn) hl.1 (by simp [List.map_reverse]) (lv_room (ev_st8_ok h8)) hd ⟨Nat.le_refl 0, Nat.le_refl 0⟩) X hH hl ho hs2 kk
end EvMem
