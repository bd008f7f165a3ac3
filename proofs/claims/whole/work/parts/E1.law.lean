section
def R_law : String := "AngelTownLaw"
def lw_P (b : Addr) (xs : List Int32) (args : Array Value) (s : State) : Prop := args = #[.ref b] ∧ s.IntsAt b xs ∧ xs.length ≤ 3072 ∧ (Jvm.Cond.and given_1 narrow_1).before args s = true
def lw_Q (_ : Array Value) (s : State) (o : Outcome) (t : State) : Prop := o = .returned (some (.int 1)) ∧ Framed s o t [] 600000 7302250
def lw_Z (below : List Frame) (a : Array Value) (s : State) : State → Prop := fun t => ∃ o, t.status = .running ∧ Ended t below o ∧ lw_Q a s o t
/-- the law's own end, with 1 on the stack, nothing written that was there before, its room as the claim has it -/
theorem lw_ret {p : Program} {l : Launch} {e : Env} {s : State} {m : MethodId} {below : List Frame} {meth : Method} {c : Code} {b : Nat} (hx : p.tables.exec = Jvm.exec) (hb : c.code = code) (hr : meth.sig.returnType = ret) (hlocks : meth.locks = false) {pc : Nat} {H : Heap} {ls : Array Slot} (hdg : decode code pc = .ok (.ireturn, 1)) : W p l e room_1 s m #[Value.ref b] below meth c H [] 600000 7302250 (lw_Z below #[Value.ref b] s) (F0 m pc ls [.int 1]) := by
  intro T hT X
  obtain ⟨fs, hret, hrun, hended, hW, hframe⟩ := X.leave (v := some (.int 1)) (hlocks := hlocks) (fun h => by rw [hr] at h; cases h)
  have hmeth' : T.vm.method? m = some meth := X.method'
  refine ⟨T.setFrames fs, ?_, .returned (some (.int 1)), hrun, hended, rfl, ⟨_, rfl⟩, hW, hframe⟩
  jvm_step X.here [X.here.top, hx, hb, hdg, hmeth', hr, ret, narrow_b1]
  (try refine ⟨rfl, ?_⟩); (try refine ⟨rfl, ?_⟩)
  first | (intro acts; rw [hret _ acts rfl rfl rfl]) | rw [hret _ _ rfl rfl rfl]
  exact Steps.refl _
/-- what holds at the law's entry: the machine, the code, the tables' words (any of lw_tbl by 'hts w (by decide +kernel)'), the script of L ints xs at the cell b, what the Statement gives of the start (any of its parts by flat_of_before) -/
def lw_At (p : Program) (s : State) (m : MethodId) (meth : Method) (c : Code) (b L : Nat) (xs : Nat → Int32) : Prop :=
  p.tables.exec = Jvm.exec ∧ c.code = code ∧ meth.sig.returnType = ret ∧ c.maxLocals = 4 ∧ s.vm.findClass R_law = some m.cls ∧ (∀ w ∈ lw_tbl, w.before #[Value.ref b] s = true) ∧ va_X b L xs s s.heap ∧ b < s.heap.size ∧ meth.locks = false ∧ (Jvm.Cond.and given_1 narrow_1).before #[Value.ref b] s = true
abbrev lA (s : State) : Nat → Prop := fun q => s.heap.size ≤ q
/-- what holds throughout the law -/
def LX (p : Program) (s : State) (m : MethodId) (meth : Method) (c : Code) (b L : Nat) (xs : Nat → Int32) (D : va_G) (ct : Nat → ClassId) : Prop :=
  lw_At p s m meth c b L xs ∧ L ≤ 3072 ∧ va_K D vwCl (ev_tys ct) s ∧ ev_Ns s ∧ ev_T (lA s) s s.heap ∧ va_AO "AngelTown$Course" s
def LW (D : va_G) (ct : Nat → ClassId) (adX adM : Nat → Nat) (σ τ : ev_S) (s : State) (H : Heap) (locs : List Loc) : Prop :=
  (va_P D vwCl (ev_ws layX ct adX σ) H ∧ va_P D vwCl (ev_ws layM ct adM τ) H) ∧ (va_D (lA s) (ev_ws layX ct adX σ) ∧ va_D (lA s) (ev_ws layM ct adM τ)) ∧ (∀ (i j : Nat) (x y : Nat × va_E), (ev_ws layX ct adX σ)[i]? = some x → (ev_ws layM ct adM τ)[j]? = some y → x.1 ≠ y.1) ∧ va_S (lA s) s.heap H locs ∧ ev_ok σ ∧ ev_ok τ
section
variable {p : Program} {l : Launch} {e : Env} {s : State} {m : MethodId} {below : List Frame} {meth : Method} {c : Code} {b L : Nat} {xs : Nat → Int32} {D : va_G} {ct : Nat → ClassId} {adX adM : Nat → Nat} {σ τ : ev_S} {H : Heap} {locs : List Loc} {ls : Array Slot} {cells slots pc i : Nat} {st : List Value}
theorem LX.ts (X : LX p s m meth c b L xs D ct) : ∀ w ∈ ev_tb, w.before #[Value.ref b] s = true := fun w hw => X.1.2.2.2.2.2.1 w (List.mem_filter.mp hw).1
theorem LX.t (X : LX p s m meth c b L xs D ct) {w : Cond} (hw : w ∈ lw_tbl) : w.before #[Value.ref b] s = true := X.1.2.2.2.2.2.1 w hw
theorem l_arg (j : Nat) {z : Int} (X : LX p s m meth c b L xs D ct) (hS : va_S (lA s) s.heap H locs) {lv : List (Nat × Value)} (hl : lv_has ls 4 lv) (h0 : lv[3]? = some (0, .ref b)) (h3 : lv[0]? = some (3, .int (Int32.ofInt (i : Int)))) (hj : j ≤ 5) (hz : z = (j : Int)) (hi : i + 6 ≤ L) (d0 : decode code pc = .ok (.aload_n 0, 1)) (d1 : decode code (pc + 1) = .ok (.iload_n 3, 1)) (d2 : decode code (pc + 2) = .ok (.iconst z, 1)) (d3 : decode code (pc + 3) = .ok (.iadd, 1)) (d4 : decode code (pc + 4) = .ok (.iaload, 1)) (k : W p l e room_1 s m #[Value.ref b] below meth c H locs cells slots (lw_Z below #[Value.ref b] s) (F0 m (pc + 5) ls (.int (Int32.ofInt (xs (i + j)).toInt) :: st))) : W p l e room_1 s m #[Value.ref b] below meth c H locs cells slots (lw_Z below #[Value.ref b] s) (F0 m pc ls st) := by
  subst hz
  have hL := X.2.1
  have hr : ev_R ((i + j : Nat) : Int) := ⟨by omega, by omega⟩
  refine lv_aload_n X.1.1 X.1.2.1 d0 rfl (lv_at hl 3 h0) ?_
  refine lv_iload_n X.1.1 X.1.2.1 d1 rfl (lv_at hl 0 h3) ?_
  refine lv_iconst X.1.1 X.1.2.1 d2 rfl ?_
  refine lv_iadd X.1.1 X.1.2.1 d3 ?_
  have e1 : Int32.ofInt (i : Int) + Int32.ofInt (j : Int) = Int32.ofInt ((i + j : Nat) : Int) := by
    rw [← Int32.ofInt_add, Int.natCast_add]
  rw [e1]
  refine va_sld X.1.1 X.1.2.1 X.1.2.2.2.2.2.2.1 X.1.2.2.2.2.2.2.2.1 (Nat.not_le.mpr X.1.2.2.2.2.2.2.2.1) hS (ev_vin hr ⟨by omega, by omega⟩) d4 ?_
  rw [ev_clamp hr, Int.toNat_natCast]
  rw [ev_of] at k
  exact k
theorem l_run {Y : List ev_C} {ad : Nat → Nat} {υ : ev_S} {w : va_W} {M' : ev_M} {y : MethodName} {idx n ci N : Nat} {As : List ev_V} {v : ev_V} {P : ev_S → Prop} {C : String} {T : u_T} {ty0 : Nat → FieldType} {fs : List (Option Nat)} (X : LX p s m meth c b L xs D ct) (hm : ev_cm y M' n) (hkd : M'.2.2.2.2 = 1) (hlk : Cond.methodLink R_law idx y ∈ lw_tbl) (hin : Cond.instanceMethod y ∈ lw_tbl) (hsel : Cond.selects y.cls y y ∈ lw_tbl) (hY : Y[0]? = some (.inr (.inl (ci, fs)))) (hC : ev_cl ci C T N ty0) (hCy : C = y.cls) (hd : decode code pc = .ok (.invokevirtual idx, 3)) (hsz : ls.size = 4) (hn : As.length = n) (hfit : ev_len (ev_r 0 :: As) ≤ M'.2.2.1) (h8 : (st.map fun v => v.category).sum ≤ 8) (hAs0 : ∀ v ∈ As, ev_okv v) (hok : ev_ok υ) (hc : cells ≤ 600000) (hs : slots ≤ 7302250)
    (hP : va_P D vwCl (ev_ws Y ct ad υ) H) (hD : va_D (lA s) (ev_ws Y ct ad υ)) (hPw : va_P D vwCl w H) (hDw : va_D (lA s) w) (hap : ∀ (i j : Nat) (x y : Nat × va_E), w[i]? = some x → (ev_ws Y ct ad υ)[j]? = some y → x.1 ≠ y.1) (hS : va_S (lA s) s.heap H locs)
    (hcal : Ev Y M' 60 0 (ev_args 0 (ev_r 0 :: As)) [] υ (fun u υ' => u = some v ∧ P υ'))
    (kk : ∀ (z : Int) (u : ev_S) (H1 : Heap) (locs1 : List Loc), v = ev_i z → ev_R z → P u → ev_ok u → va_P D vwCl (ev_ws Y ct ad u) H1 → va_D (lA s) (ev_ws Y ct ad u) → va_P D vwCl w H1 → (∀ (i j : Nat) (x y : Nat × va_E), w[i]? = some x → (ev_ws Y ct ad u)[j]? = some y → x.1 ≠ y.1) → va_S (lA s) s.heap H1 locs1 → W p l e room_1 s m #[Value.ref b] below meth c H1 locs1 cells slots (lw_Z below #[Value.ref b] s) (F0 m (pc + 3) ls (.int (Int32.ofInt z) :: st))) :
    W p l e room_1 s m #[Value.ref b] below meth c H locs cells slots (lw_Z below #[Value.ref b] s) (F0 m pc ls ((As.map (ev_v ad)).reverse ++ .ref (ad 0) :: st)) := by
  obtain ⟨m1, m2, m3, m4, m5, m6⟩ := hm
  have hts := X.ts
  have hAs : ∀ v ∈ ev_r 0 :: As, ev_okv v := ev_oks_cons (show ev_okv (ev_r 0) from trivial) hAs0
  have hmet := ev_met (y := y) hcal m1 m2 hfit hAs hok l D ct ad H.size
  have hroom : (ev_rm 60).frames + 1 ≤ room_1.frames ∧ 8 + (M'.2.2.1 + 11) + (ev_rm 60).locals ≤ room_1.locals := ⟨by show 61 ≤ 2048; omega, by show 8 + (M'.2.2.1 + 11) + 64 * 60 ≤ 84000; omega⟩
  have hrec : ∃ cell : Cell, H[ad 0]? = some cell ∧ cell.vm.isStatics = false ∧ s.vm.findClass y.cls = some cell.cls := by
    have h1 := va_recv X.2.2.1 hP hC.1 (ev_at hY)
    simp only [hCy] at h1
    exact h1
  have hF : ∀ q, va_A (ev_ws Y ct ad υ) H.size q → lA s q := ev_inA hD hS (fun q h => h)
  have hpre : ∀ U : State, U.heap = H → s.WarmedH U.vm → ev_Pc Y D ct ad H.size (ev_r 0 :: As) υ ((ev_r 0 :: As).map (ev_v ad)).toArray U := by
    intro U hU hW
    refine ⟨rfl, by rw [hU], by rw [hU]; exact hP, va_K.moved hW.alike X.2.2.1, hD.weaken (fun _ _ _ _ => trivial), ev_Ns_warm hW X.2.2.2.1, ?_⟩
    rw [hU]
    exact ev_T_warm hW (ev_T_narrow (ev_T_kept X.2.2.2.2.1 hS.2.1) hF)
  have hrun := va_runV (p := p) (l := l) (e := e) (R := room_1) (locs := locs) (below := below) (meth := meth) (cells := cells) (slots := slots) (As := As.map (ev_v ad)) (rest := st) (b := ad 0) (g := F0 m pc ls ((As.map (ev_v ad)).reverse ++ .ref (ad 0) :: st)) (cc := code) (nL := 4) (own := R_law) ⟨X.1.1, X.1.2.1, X.1.2.2.2.1, X.1.2.2.2.2.1, hts⟩ hmet ⟨callB_of n hts (ev_good1 m3) rfl rfl rfl (X.t m4) (X.t hlk) m5 hroom, X.t hin, X.t hsel⟩ ⟨ev_pcblind, hrec, hpre⟩ rfl (by rw [List.length_map]; exact hn) hsz rfl (lv_room h8) hd ⟨hc, hs⟩
  rw [hkd] at hrun
  refine va_calli (a := (Value.ref (ad 0) :: As.map (ev_v ad)).toArray) hrun hS (fun q _ h => hF q h) hF (fun r u t H1 locs1 ht hvm hw hB hz1 hk1 hS1 => ?_)
  obtain ⟨z, hz, rfl, ⟨hv, hp⟩, hok1⟩ := hw
  obtain ⟨hP1, hK1, hD1⟩ := hB
  rw [ht] at hP1
  obtain ⟨j1, j2, j3⟩ := cv_join hPw hDw hap hk1 hF hD1
  exact kk z u H1 locs1 (Option.some.inj hv).symm hz hp hok1 hP1 j2 j1 j3 hS1
theorem l_X {M' : ev_M} {y : MethodName} {idx n : Nat} {As : List ev_V} {v : ev_V} {P : ev_S → Prop} (X : LX p s m meth c b L xs D ct) (hW : LW D ct adX adM σ τ s H locs) (hm : ev_cm y M' n) (hkd : M'.2.2.2.2 = 1) (hlk : Cond.methodLink R_law idx y ∈ lw_tbl) (hin : Cond.instanceMethod y ∈ lw_tbl) (hsel : Cond.selects y.cls y y ∈ lw_tbl) (hCy : RX11 = y.cls) (hd : decode code pc = .ok (.invokevirtual idx, 3)) (hsz : ls.size = 4) (hn : As.length = n) (hfit : ev_len (ev_r 0 :: As) ≤ M'.2.2.1) (h8 : (st.map fun v => v.category).sum ≤ 8) (hAs0 : ∀ v ∈ As, ev_okv v) (hc : cells ≤ 600000) (hs : slots ≤ 7302250)
    (hcal : Ev layX M' 60 0 (ev_args 0 (ev_r 0 :: As)) [] σ (fun u υ' => u = some v ∧ P υ'))
    (kk : ∀ (z : Int) (σ' : ev_S) (H1 : Heap) (locs1 : List Loc), v = ev_i z → ev_R z → P σ' → LW D ct adX adM σ' τ s H1 locs1 → W p l e room_1 s m #[Value.ref b] below meth c H1 locs1 cells slots (lw_Z below #[Value.ref b] s) (F0 m (pc + 3) ls (.int (Int32.ofInt z) :: st))) :
    W p l e room_1 s m #[Value.ref b] below meth c H locs cells slots (lw_Z below #[Value.ref b] s) (F0 m pc ls ((As.map (ev_v adX)).reverse ++ .ref (adX 0) :: st)) := by
  obtain ⟨⟨p1, p2⟩, ⟨d1, d2⟩, ap, hS, o1, o2⟩ := hW
  refine l_run X hm hkd hlk hin hsel yX_0 cl_X11 hCy hd hsz hn hfit h8 hAs0 o1 hc hs p1 d1 p2 d2 (fun i j x y hx hy h => ap j i y x hy hx h.symm) hS hcal (fun z u H1 locs1 g1 g2 g3 g4 g5 g6 g7 g8 g9 => ?_)
  exact kk z u H1 locs1 g1 g2 g3 ⟨⟨g5, g7⟩, ⟨g6, d2⟩, fun i j x y hx hy h => g8 j i y x hy hx h.symm, g9, g4, o2⟩
theorem l_M {M' : ev_M} {y : MethodName} {idx n : Nat} {As : List ev_V} {v : ev_V} {P : ev_S → Prop} (X : LX p s m meth c b L xs D ct) (hW : LW D ct adX adM σ τ s H locs) (hm : ev_cm y M' n) (hkd : M'.2.2.2.2 = 1) (hlk : Cond.methodLink R_law idx y ∈ lw_tbl) (hin : Cond.instanceMethod y ∈ lw_tbl) (hsel : Cond.selects y.cls y y ∈ lw_tbl) (hCy : RX12 = y.cls) (hd : decode code pc = .ok (.invokevirtual idx, 3)) (hsz : ls.size = 4) (hn : As.length = n) (hfit : ev_len (ev_r 0 :: As) ≤ M'.2.2.1) (h8 : (st.map fun v => v.category).sum ≤ 8) (hAs0 : ∀ v ∈ As, ev_okv v) (hc : cells ≤ 600000) (hs : slots ≤ 7302250)
    (hcal : Ev layM M' 60 0 (ev_args 0 (ev_r 0 :: As)) [] τ (fun u υ' => u = some v ∧ P υ'))
    (kk : ∀ (z : Int) (τ' : ev_S) (H1 : Heap) (locs1 : List Loc), v = ev_i z → ev_R z → P τ' → LW D ct adX adM σ τ' s H1 locs1 → W p l e room_1 s m #[Value.ref b] below meth c H1 locs1 cells slots (lw_Z below #[Value.ref b] s) (F0 m (pc + 3) ls (.int (Int32.ofInt z) :: st))) :
    W p l e room_1 s m #[Value.ref b] below meth c H locs cells slots (lw_Z below #[Value.ref b] s) (F0 m pc ls ((As.map (ev_v adM)).reverse ++ .ref (adM 0) :: st)) := by
  obtain ⟨⟨p1, p2⟩, ⟨d1, d2⟩, ap, hS, o1, o2⟩ := hW
  refine l_run X hm hkd hlk hin hsel yM_0 cl_X12 hCy hd hsz hn hfit h8 hAs0 o2 hc hs p2 d2 p1 d1 ap hS hcal (fun z u H1 locs1 g1 g2 g3 g4 g5 g6 g7 g8 g9 => ?_)
  exact kk z u H1 locs1 g1 g2 g3 ⟨⟨g7, g5⟩, ⟨d1, g6⟩, g8, g9, o1, g4⟩
theorem l_runL {Y : List ev_C} {ad : Nat → Nat} {υ : ev_S} {w : va_W} {M' : ev_M} {y : MethodName} {idx n ci N : Nat} {As : List ev_V} {v : ev_V} {P : ev_S → Prop} {C : String} {T : u_T} {ty0 : Nat → FieldType} {fs : List (Option Nat)} (X : LX p s m meth c b L xs D ct) (hm : ev_cm y M' n) (hkd : M'.2.2.2.2 = 2) (hlk : Cond.methodLink R_law idx y ∈ lw_tbl) (hin : Cond.instanceMethod y ∈ lw_tbl) (hsel : Cond.selects y.cls y y ∈ lw_tbl) (hY : Y[0]? = some (.inr (.inl (ci, fs)))) (hC : ev_cl ci C T N ty0) (hCy : C = y.cls) (hd : decode code pc = .ok (.invokevirtual idx, 3)) (hsz : ls.size = 4) (hn : As.length = n) (hfit : ev_len (ev_r 0 :: As) ≤ M'.2.2.1) (h8 : (st.map fun v => v.category).sum ≤ 8) (hAs0 : ∀ v ∈ As, ev_okv v) (hok : ev_ok υ) (hc : cells ≤ 600000) (hs : slots ≤ 7302250)
    (hP : va_P D vwCl (ev_ws Y ct ad υ) H) (hD : va_D (lA s) (ev_ws Y ct ad υ)) (hPw : va_P D vwCl w H) (hDw : va_D (lA s) w) (hap : ∀ (i j : Nat) (x y : Nat × va_E), w[i]? = some x → (ev_ws Y ct ad υ)[j]? = some y → x.1 ≠ y.1) (hS : va_S (lA s) s.heap H locs)
    (hcal : Ev Y M' 60 0 (ev_args 0 (ev_r 0 :: As)) [] υ (fun u υ' => u = some v ∧ P υ'))
    (kk : ∀ (z : Int) (u : ev_S) (H1 : Heap) (locs1 : List Loc), v = ev_l z → ev_RL z → P u → ev_ok u → va_P D vwCl (ev_ws Y ct ad u) H1 → va_D (lA s) (ev_ws Y ct ad u) → va_P D vwCl w H1 → (∀ (i j : Nat) (x y : Nat × va_E), w[i]? = some x → (ev_ws Y ct ad u)[j]? = some y → x.1 ≠ y.1) → va_S (lA s) s.heap H1 locs1 → W p l e room_1 s m #[Value.ref b] below meth c H1 locs1 cells slots (lw_Z below #[Value.ref b] s) (F0 m (pc + 3) ls (.long (Int64.ofInt z) :: st))) :
    W p l e room_1 s m #[Value.ref b] below meth c H locs cells slots (lw_Z below #[Value.ref b] s) (F0 m pc ls ((As.map (ev_v ad)).reverse ++ .ref (ad 0) :: st)) := by
  obtain ⟨m1, m2, m3, m4, m5, m6⟩ := hm
  have hts := X.ts
  have hAs : ∀ v ∈ ev_r 0 :: As, ev_okv v := ev_oks_cons (show ev_okv (ev_r 0) from trivial) hAs0
  have hmet := ev_met (y := y) hcal m1 m2 hfit hAs hok l D ct ad H.size
  have hroom : (ev_rm 60).frames + 1 ≤ room_1.frames ∧ 8 + (M'.2.2.1 + 11) + (ev_rm 60).locals ≤ room_1.locals := ⟨by show 61 ≤ 2048; omega, by show 8 + (M'.2.2.1 + 11) + 64 * 60 ≤ 84000; omega⟩
  have hrec : ∃ cell : Cell, H[ad 0]? = some cell ∧ cell.vm.isStatics = false ∧ s.vm.findClass y.cls = some cell.cls := by
    have h1 := va_recv X.2.2.1 hP hC.1 (ev_at hY)
    simp only [hCy] at h1
    exact h1
  have hF : ∀ q, va_A (ev_ws Y ct ad υ) H.size q → lA s q := ev_inA hD hS (fun q h => h)
  have hpre : ∀ U : State, U.heap = H → s.WarmedH U.vm → ev_Pc Y D ct ad H.size (ev_r 0 :: As) υ ((ev_r 0 :: As).map (ev_v ad)).toArray U := by
    intro U hU hW
    refine ⟨rfl, by rw [hU], by rw [hU]; exact hP, va_K.moved hW.alike X.2.2.1, hD.weaken (fun _ _ _ _ => trivial), ev_Ns_warm hW X.2.2.2.1, ?_⟩
    rw [hU]
    exact ev_T_warm hW (ev_T_narrow (ev_T_kept X.2.2.2.2.1 hS.2.1) hF)
  have hrun := va_runV (p := p) (l := l) (e := e) (R := room_1) (locs := locs) (below := below) (meth := meth) (cells := cells) (slots := slots) (As := As.map (ev_v ad)) (rest := st) (b := ad 0) (g := F0 m pc ls ((As.map (ev_v ad)).reverse ++ .ref (ad 0) :: st)) (cc := code) (nL := 4) (own := R_law) ⟨X.1.1, X.1.2.1, X.1.2.2.2.1, X.1.2.2.2.2.1, hts⟩ hmet ⟨callB_of n hts (ev_good1 m3) rfl rfl rfl (X.t m4) (X.t hlk) m5 hroom, X.t hin, X.t hsel⟩ ⟨ev_pcblind, hrec, hpre⟩ rfl (by rw [List.length_map]; exact hn) hsz rfl (lv_room h8) hd ⟨hc, hs⟩
  rw [hkd] at hrun
  refine va_calll (a := (Value.ref (ad 0) :: As.map (ev_v ad)).toArray) hrun hS (fun q _ h => hF q h) hF (fun r u t H1 locs1 ht hvm hw hB hz1 hk1 hS1 => ?_)
  obtain ⟨z, hz, rfl, ⟨hv, hp⟩, hok1⟩ := hw
  obtain ⟨hP1, hK1, hD1⟩ := hB
  rw [ht] at hP1
  obtain ⟨j1, j2, j3⟩ := cv_join hPw hDw hap hk1 hF hD1
  exact kk z u H1 locs1 (Option.some.inj hv).symm hz hp hok1 hP1 j2 j1 j3 hS1
theorem l_XL {M' : ev_M} {y : MethodName} {idx n : Nat} {As : List ev_V} {v : ev_V} {P : ev_S → Prop} (X : LX p s m meth c b L xs D ct) (hW : LW D ct adX adM σ τ s H locs) (hm : ev_cm y M' n) (hkd : M'.2.2.2.2 = 2) (hlk : Cond.methodLink R_law idx y ∈ lw_tbl) (hin : Cond.instanceMethod y ∈ lw_tbl) (hsel : Cond.selects y.cls y y ∈ lw_tbl) (hCy : RX11 = y.cls) (hd : decode code pc = .ok (.invokevirtual idx, 3)) (hsz : ls.size = 4) (hn : As.length = n) (hfit : ev_len (ev_r 0 :: As) ≤ M'.2.2.1) (h8 : (st.map fun v => v.category).sum ≤ 8) (hAs0 : ∀ v ∈ As, ev_okv v) (hc : cells ≤ 600000) (hs : slots ≤ 7302250)
    (hcal : Ev layX M' 60 0 (ev_args 0 (ev_r 0 :: As)) [] σ (fun u υ' => u = some v ∧ P υ'))
    (kk : ∀ (z : Int) (σ' : ev_S) (H1 : Heap) (locs1 : List Loc), v = ev_l z → ev_RL z → P σ' → LW D ct adX adM σ' τ s H1 locs1 → W p l e room_1 s m #[Value.ref b] below meth c H1 locs1 cells slots (lw_Z below #[Value.ref b] s) (F0 m (pc + 3) ls (.long (Int64.ofInt z) :: st))) :
    W p l e room_1 s m #[Value.ref b] below meth c H locs cells slots (lw_Z below #[Value.ref b] s) (F0 m pc ls ((As.map (ev_v adX)).reverse ++ .ref (adX 0) :: st)) := by
  obtain ⟨⟨p1, p2⟩, ⟨d1, d2⟩, ap, hS, o1, o2⟩ := hW
  refine l_runL X hm hkd hlk hin hsel yX_0 cl_X11 hCy hd hsz hn hfit h8 hAs0 o1 hc hs p1 d1 p2 d2 (fun i j x y hx hy h => ap j i y x hy hx h.symm) hS hcal (fun z u H1 locs1 g1 g2 g3 g4 g5 g6 g7 g8 g9 => ?_)
  exact kk z u H1 locs1 g1 g2 g3 ⟨⟨g5, g7⟩, ⟨g6, d2⟩, fun i j x y hx hy h => g8 j i y x hy hx h.symm, g9, g4, o2⟩
theorem l_ML {M' : ev_M} {y : MethodName} {idx n : Nat} {As : List ev_V} {v : ev_V} {P : ev_S → Prop} (X : LX p s m meth c b L xs D ct) (hW : LW D ct adX adM σ τ s H locs) (hm : ev_cm y M' n) (hkd : M'.2.2.2.2 = 2) (hlk : Cond.methodLink R_law idx y ∈ lw_tbl) (hin : Cond.instanceMethod y ∈ lw_tbl) (hsel : Cond.selects y.cls y y ∈ lw_tbl) (hCy : RX12 = y.cls) (hd : decode code pc = .ok (.invokevirtual idx, 3)) (hsz : ls.size = 4) (hn : As.length = n) (hfit : ev_len (ev_r 0 :: As) ≤ M'.2.2.1) (h8 : (st.map fun v => v.category).sum ≤ 8) (hAs0 : ∀ v ∈ As, ev_okv v) (hc : cells ≤ 600000) (hs : slots ≤ 7302250)
    (hcal : Ev layM M' 60 0 (ev_args 0 (ev_r 0 :: As)) [] τ (fun u υ' => u = some v ∧ P υ'))
    (kk : ∀ (z : Int) (τ' : ev_S) (H1 : Heap) (locs1 : List Loc), v = ev_l z → ev_RL z → P τ' → LW D ct adX adM σ τ' s H1 locs1 → W p l e room_1 s m #[Value.ref b] below meth c H1 locs1 cells slots (lw_Z below #[Value.ref b] s) (F0 m (pc + 3) ls (.long (Int64.ofInt z) :: st))) :
    W p l e room_1 s m #[Value.ref b] below meth c H locs cells slots (lw_Z below #[Value.ref b] s) (F0 m pc ls ((As.map (ev_v adM)).reverse ++ .ref (adM 0) :: st)) := by
  obtain ⟨⟨p1, p2⟩, ⟨d1, d2⟩, ap, hS, o1, o2⟩ := hW
  refine l_runL X hm hkd hlk hin hsel yM_0 cl_X12 hCy hd hsz hn hfit h8 hAs0 o2 hc hs p2 d2 p1 d1 ap hS hcal (fun z u H1 locs1 g1 g2 g3 g4 g5 g6 g7 g8 g9 => ?_)
  exact kk z u H1 locs1 g1 g2 g3 ⟨⟨g7, g5⟩, ⟨d1, g6⟩, g8, g9, o1, g4⟩
theorem l_init {w : va_W} {M' : ev_M} {y : MethodName} {d' idx mc' ms' h0 ci : Nat} {fs : List Value} {Q' : va_W → Prop} (X : LX p s m meth c b L xs D ct) (hm : cv_cm y M' 0) (hlk : Cond.methodLink R_law idx y ∈ lw_tbl) (hd : decode code pc = .ok (.invokespecial idx, 3)) (hdd : d' ≤ 60) (hfit : (lg_sl [Value.ref h0]).length ≤ M'.2.2.1) (hst : (st.map fun v => v.category).sum ≤ 8) (hsz : ls.size = 4) (hcells : cells + mc' ≤ 600000) (hslots : slots + ms' ≤ 7302250) (hP : va_P D vwCl (w ++ [(h0, .inr (ci, fs))]) H) (hD : va_D (lA s) (w ++ [(h0, .inr (ci, fs))])) (hS : va_S (lA s) s.heap H locs)
    (hcal : Cv ct M' (cv_rm d' mc' ms') 0 (lv_args 0 [Value.ref h0]) [] [(h0, .inr (ci, fs))] 0 0 mc' ms' Q') (kk : ∀ (w1 : va_W) (H1 : Heap) (locs1 : List Loc), Q' w1 → va_P D vwCl (w ++ w1) H1 → va_D (lA s) (w ++ w1) → va_S (lA s) s.heap H1 locs1 → W p l e room_1 s m #[Value.ref b] below meth c H1 locs1 (cells + mc') (slots + ms') (lw_Z below #[Value.ref b] s) (F0 m (pc + 3) ls st)) : W p l e room_1 s m #[Value.ref b] below meth c H locs cells slots (lw_Z below #[Value.ref b] s) (F0 m pc ls (.ref h0 :: st)) := by
  obtain ⟨⟨m1, m2, m3, m4, m5, m6⟩, m7, m8, m9⟩ := hm
  have hts := X.ts
  have hmet := cv_met (y := y) hcal m1 m2 m7 hfit l D H.size
  have e9 : M'.2.2.2.1 = none := by rw [m9]
  have hroom : (cv_rm d' mc' ms').frames + 1 ≤ room_1.frames ∧ 8 + (M'.2.2.1 + 11) + (cv_rm d' mc' ms').locals ≤ room_1.locals := ⟨by show d' + 1 ≤ 2048; omega, by show 8 + (M'.2.2.1 + 11) + 64 * d' ≤ 84000; omega⟩
  have hF : ∀ q, va_A [(h0, Sum.inr (ci, fs))] H.size q → lA s q := by
    intro q h
    rcases h with ⟨k, e2, h⟩ | h
    · have hz : k < 1 := (List.getElem?_eq_some_iff.mp h).1
      rw [show k = 0 by omega] at h
      cases h
      exact (cv_Dright hD).2 0 _ rfl
    · exact Nat.le_trans hS.1 h
  have hpre : PreS s H (cv_Pc D ct H.size [] h0 ci fs) [.ref h0] := ⟨cv_blind, fun U hU hW => ⟨rfl, by rw [hU], by rw [hU]; exact cv_right hP, va_K.moved hW.alike X.2.2.1, (cv_Dright hD).weaken (fun _ _ _ _ => trivial), ev_Ns_warm hW X.2.2.2.1, by rw [hU]; exact ev_T_warm hW (ev_T_narrow (ev_T_kept X.2.2.2.2.1 hS.2.1) hF), va_AO.moved hW.alike X.2.2.2.2.2⟩⟩
  have hrun : va_Run p l e room_1 s m #[Value.ref b] below meth c H locs cells slots mc' ms' (F0 m pc ls (.ref h0 :: st)) st (va_Qv Q' (cv_B D ct (va_A [(h0, .inr (ci, fs))] H.size)) (va_A [(h0, .inr (ci, fs))] H.size) [Value.ref h0].toArray) (va_A [(h0, .inr (ci, fs))] H.size) :=
    va_runI (As := []) (rest := st) (b := h0) (bytes := M'.2.1) (maxL := M'.2.2.1) (cc := code) (nL := 4) (own := R_law) ⟨X.1.1, X.1.2.1, X.1.2.2.2.1, X.1.2.2.2.2.1, hts⟩ hmet ⟨callB_of 0 hts (ev_good1 m3) (by rw [← e9]; rfl) rfl rfl (X.t m4) (X.t hlk) m5 hroom, m7, X.t m8⟩ hpre rfl rfl hsz rfl (lv_room hst) hd ⟨hcells, hslots⟩
  refine va_callv (a := [Value.ref h0].toArray) hrun hS (fun q _ h => hF q h) hF (fun w1 t H1 locs1 ht hvm hw hB hz1 hk1 hS1 => ?_)
  obtain ⟨hP1, hK1, hD1⟩ := hB
  rw [ht] at hP1
  obtain ⟨j1, j2, j3⟩ := cv_join (cv_left hP) (cv_Dleft hD) (cv_Dap hD) hk1 hF hD1
  obtain ⟨a1, a2⟩ := cv_app j1 hP1 (cv_Dleft hD) j2 j3
  exact kk w1 H1 locs1 hw a1 a2 hS1
end
end
