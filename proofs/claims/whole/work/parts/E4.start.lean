section
theorem wl_175 : Cond.initialized "AngelTown" ∈ lw_tbl := tb_1 (List.mem_of_getElem? (i := 1) (by decide +kernel))
theorem wl_188 : Cond.initialized "AngelTownModel" ∈ lw_tbl := tb_1 (List.mem_of_getElem? (i := 14) (by decide +kernel))
theorem wl_189 : Cond.initialized "java/lang/String" ∈ lw_tbl := tb_1 (List.mem_of_getElem? (i := 15) (by decide +kernel))
theorem wl_191 : Cond.initialized "jdk/internal/util/Preconditions" ∈ lw_tbl := tb_1 (List.mem_of_getElem? (i := 17) (by decide +kernel))
theorem wl_197 : Cond.classLink "AngelTownLaw" (7 : Nat) "AngelTown" ∈ lw_tbl := tb_1 (List.mem_of_getElem? (i := 23) (by decide +kernel))
theorem wl_198 : Cond.instantiable "AngelTown" (10 : Nat) ∈ lw_tbl := tb_1 (List.mem_of_getElem? (i := 24) (by decide +kernel))
theorem wl_199 : Cond.methodLink "AngelTownLaw" 9 ⟨"AngelTown", "<init>", "()V"⟩ ∈ lw_tbl := tb_1 (List.mem_of_getElem? (i := 25) (by decide +kernel))
theorem wl_206 : Cond.instantiable "AngelTown$Town" (16 : Nat) ∈ lw_tbl := tb_1 (List.mem_of_getElem? (i := 32) (by decide +kernel))
theorem wl_212 : Cond.instantiable "AngelTown$Law" (6 : Nat) ∈ lw_tbl := tb_1 (List.mem_of_getElem? (i := 38) (by decide +kernel))
theorem wl_238 : Cond.arrayClass FieldType.int ∈ lw_tbl := tb_1 (List.mem_of_getElem? (i := 64) (by decide +kernel))
theorem wl_239 : Cond.arrayClass FieldType.byte ∈ lw_tbl := tb_1 (List.mem_of_getElem? (i := 65) (by decide +kernel))
theorem wl_332 : Cond.instantiable "AngelTown$Course" (14 : Nat) ∈ lw_tbl := tb_1 (List.mem_of_getElem? (i := 158) (by decide +kernel))
theorem wl_414 : Cond.instantiable "AngelTown$Book" (1 : Nat) ∈ lw_tbl := tb_2 (List.mem_of_getElem? (i := 0) (by decide +kernel))
theorem wl_425 : Cond.instantiable "AngelTown$Past" (3 : Nat) ∈ lw_tbl := tb_2 (List.mem_of_getElem? (i := 11) (by decide +kernel))
theorem wl_431 : Cond.arrayOver (FieldType.object "AngelTown$Course") ∈ lw_tbl := tb_2 (List.mem_of_getElem? (i := 17) (by decide +kernel))
theorem wl_445 : Cond.instantiable "AngelTown$Picture" (4 : Nat) ∈ lw_tbl := tb_2 (List.mem_of_getElem? (i := 31) (by decide +kernel))
theorem wl_471 : Cond.instantiable "AngelTown$Tape" (6 : Nat) ∈ lw_tbl := tb_2 (List.mem_of_getElem? (i := 57) (by decide +kernel))
theorem wl_502 : Cond.instantiable "AngelTown$Reader" (10 : Nat) ∈ lw_tbl := tb_2 (List.mem_of_getElem? (i := 88) (by decide +kernel))
theorem wl_547 : Cond.instantiable "AngelTown$Play" (3 : Nat) ∈ lw_tbl := tb_2 (List.mem_of_getElem? (i := 133) (by decide +kernel))
theorem wl_563 : Cond.instantiable "AngelTown$Foresight" (12 : Nat) ∈ lw_tbl := tb_2 (List.mem_of_getElem? (i := 149) (by decide +kernel))
theorem wl_613 : Cond.instantiable "AngelTown$Care" (20 : Nat) ∈ lw_tbl := tb_2 (List.mem_of_getElem? (i := 199) (by decide +kernel))
theorem wl_810 : Cond.stringRef "AngelTown$Tape" (51 : Nat) "stand north east south west again mishap at from to ward unless chance push gust glove door cat go wait works fails when or and not kind second x y wards spoilt angel done pace" ∈ lw_tbl := tb_3 (List.mem_of_getElem? (i := 156) (by decide +kernel))
theorem wl_820 : Cond.laysStatic "java/lang/String" "COMPACT_STRINGS" "Z" ∈ lw_tbl := tb_3 (List.mem_of_getElem? (i := 166) (by decide +kernel))
theorem wl_836 : Cond.laysStatic "jdk/internal/util/Preconditions" "SIOOBE_FORMATTER" "Ljava/util/function/BiFunction;" ∈ lw_tbl := tb_3 (List.mem_of_getElem? (i := 182) (by decide +kernel))
theorem wl_863 : Cond.stringRef "AngelTown$Tape" (44 : Nat) ";+-*/()<=>" ∈ lw_tbl := tb_3 (List.mem_of_getElem? (i := 209) (by decide +kernel))
theorem wl_1437 : Cond.classLink "AngelTownLaw" (10 : Nat) "AngelTownModel" ∈ lw_tbl := tb_6 (List.mem_of_getElem? (i := 63) (by decide +kernel))
theorem wl_1438 : Cond.instantiable "AngelTownModel" (64 : Nat) ∈ lw_tbl := tb_6 (List.mem_of_getElem? (i := 64) (by decide +kernel))
theorem wl_1439 : Cond.methodLink "AngelTownLaw" 12 ⟨"AngelTownModel", "<init>", "()V"⟩ ∈ lw_tbl := tb_6 (List.mem_of_getElem? (i := 65) (by decide +kernel))
theorem wl_1637 : Cond.arrayClass FieldType.boolean ∈ lw_tbl := tb_7 (List.mem_of_getElem? (i := 23) (by decide +kernel))
theorem dL_law_0 : decode code 0 = .ok (.new 7, 3) := by decide +kernel
theorem dL_law_3 : decode code 3 = .ok (.dup, 1) := by decide +kernel
theorem dL_law_4 : decode code 4 = .ok (.invokespecial 9, 3) := by decide +kernel
theorem dL_law_7 : decode code 7 = .ok (.astore_n 1, 1) := by decide +kernel
theorem dL_law_8 : decode code 8 = .ok (.new 10, 3) := by decide +kernel
theorem dL_law_11 : decode code 11 = .ok (.dup, 1) := by decide +kernel
theorem dL_law_12 : decode code 12 = .ok (.invokespecial 12, 3) := by decide +kernel
theorem dL_law_15 : decode code 15 = .ok (.astore_n 2, 1) := by decide +kernel
theorem dL_law_16 : decode code 16 = .ok (.iconst 0, 1) := by decide +kernel
theorem dL_law_17 : decode code 17 = .ok (.istore_n 3, 1) := by decide +kernel
theorem fl_51 : ∀ j : Fin 176, (flatC (Jvm.Cond.and given_1 narrow_1))[13 + j.val]? = some (Cond.eq (.elem (Term.field (Term.string "AngelTown$Tape" 51) "java/lang/String" "value" "[B") (.int (Int32.ofNat j.val))) (.int ((ev_sb.getD 0 []).getD j.val 0))) := by decide +kernel
theorem fl_44 : ∀ j : Fin 10, (flatC (Jvm.Cond.and given_1 narrow_1))[193 + j.val]? = some (Cond.eq (.elem (Term.field (Term.string "AngelTown$Tape" 44) "java/lang/String" "value" "[B") (.int (Int32.ofNat j.val))) (.int ((ev_sb.getD 1 []).getD j.val 0))) := by decide +kernel
abbrev l_tm : Nat → Term := fun i => if i = 0 then Term.string "AngelTown$Tape" 51 else Term.string "AngelTown$Tape" 44
section
variable {p : Program} {s : State} {m : MethodId} {meth : Method} {c : Code} {b L : Nat} {xs : Nat → Int32}
theorem l_T (C0 : lw_At p s m meth c b L xs) : ev_T (lA s) s s.heap := by
  obtain ⟨hx, hb, hr, hml, hown, hts, hX, hbl, hlocks, hgv⟩ := id C0
  have hs := flat_of_before _ hgv
  have hA : ∀ a : Nat, a < s.heap.size → ¬ lA s a := fun a h => Nat.not_le.mpr h
  have at_ : ∀ (k : Nat) {w : Cond}, (flatC (Jvm.Cond.and given_1 narrow_1))[k]? = some w → w.before #[Value.ref b] s = true := fun k w h => hs w (List.mem_of_getElem? h)
  obtain ⟨adK, adV, h1, h2⟩ := vk_Sof (N := 2) (tm := l_tm) (len := ev_sl) (byt := ev_sb) (A := lA s) (args := #[Value.ref b]) (s := s)
    (by
      intro i hi
      match i, hi with
      | 0, _ => decide
      | 1, _ => decide)
    (by
      intro i hi
      match i, hi with
      | 0, _ => exact at_ 9 (by decide +kernel)
      | 1, _ => exact at_ 189 (by decide +kernel))
    (by
      intro i hi
      match i, hi with
      | 0, _ => exact at_ 10 (by decide +kernel)
      | 1, _ => exact at_ 190 (by decide +kernel))
    (by
      intro i hi
      match i, hi with
      | 0, _ => exact at_ 11 (by decide +kernel)
      | 1, _ => exact at_ 191 (by decide +kernel))
    (by
      intro i hi
      match i, hi with
      | 0, _ => exact at_ 12 (by decide +kernel)
      | 1, _ => exact at_ 192 (by decide +kernel))
    (by
      intro i hi j hj
      match i, hi with
      | 0, _ => exact at_ _ (fl_51 ⟨j, hj⟩)
      | 1, _ => exact at_ _ (fl_44 ⟨j, hj⟩))
    (by
      intro i j hi hj hne
      match i, j, hi, hj with
      | 0, 0, _, _ => exact absurd rfl hne
      | 0, 1, _, _ => exact Or.inl (at_ 203 (by decide +kernel))
      | 1, 0, _, _ => exact Or.inr (at_ 203 (by decide +kernel))
      | 1, 1, _, _ => exact absurd rfl hne)
    hA
  refine ⟨⟨adK, adV, h1, vk_R.of (hts _ wl_810) (h2 0 (by omega)), vk_R.of (hts _ wl_863) (h2 1 (by omega))⟩, va_Zof (hts _ wl_820) (hts _ wl_189) (va_eqi (at_ 4 (by decide +kernel))) hA, va_Zqof (hts _ wl_836) (hts _ wl_191) (at_ 5 (by decide +kernel)) hA⟩
theorem l_arr (C0 : lw_At p s m meth c b L xs) {ty : FieldType} (hw : Cond.arrayClass ty ∈ lw_tbl) : ∃ cA : ClassId, ArrOfT s cA ty ∧ s.vm.findClass ("[" ++ ty.toString) = some cA := by
  obtain ⟨cA, kA, comp, h1, h2, h3⟩ := Cond.arrayClass_spec (C0.2.2.2.2.2.1 _ hw)
  exact ⟨cA, fun n z => ⟨fun k h => (by cases h), kA, h2, comp, h3⟩, h1⟩
theorem l_LX (hL : L ≤ 3072) (C0 : lw_At p s m meth c b L xs) : ∃ (D : va_G) (ct : Nat → ClassId), LX p s m meth c b L xs D ct := by
  have hts := C0.2.2.2.2.2.1
  have htb : ∀ w ∈ ev_tb, w.before #[Value.ref b] s = true := fun w hw => hts w (List.mem_filter.mp hw).1
  have one : ∀ {ci : Nat} {C : String} {T : u_T} {N : Nat} {ty0 : Nat → FieldType}, ev_cl ci C T N ty0 → Cond.instantiable C N ∈ lw_tbl → ∃ g : ClassId × (Nat → Nat), ∀ q : vw_C, vwCl[ci]? = some q → u_Kn s q.1 q.2.1 q.2.2 g.1 g.2 := by
    intro ci C T N ty0 hC hi
    obtain ⟨cC, iS, h⟩ := u_known (C := C) (T := T) (N := N) (n := N) (ws := ev_tb) htb hC.2.1 (hts _ hi)
    refine ⟨(cC, iS), fun q hq => ?_⟩
    rw [hC.1] at hq
    cases hq
    exact h
  have h : ∀ k : Nat, ∃ g : ClassId × (Nat → Nat), ∀ q : vw_C, vwCl[k]? = some q → u_Kn s q.1 q.2.1 q.2.2 g.1 g.2 := by
    intro k
    match k with
    | 0 => exact one cl_X0 wl_414
    | 1 => exact one cl_X1 wl_613
    | 2 => exact one cl_X2 wl_332
    | 3 => exact one cl_X3 wl_563
    | 4 => exact one cl_X4 wl_212
    | 5 => exact one cl_X5 wl_425
    | 6 => exact one cl_X6 wl_445
    | 7 => exact one cl_X7 wl_547
    | 8 => exact one cl_X8 wl_502
    | 9 => exact one cl_X9 wl_471
    | 10 => exact one cl_X10 wl_206
    | 11 => exact one cl_X11 wl_198
    | 12 => exact one cl_X12 wl_1438
    | n + 13 => exact ⟨(0, fun _ => 0), fun q hq => by simp at hq⟩
  obtain ⟨g, hg⟩ := Classical.axiomOfChoice h
  obtain ⟨c0, a0, f0⟩ := l_arr C0 (ty := .int) wl_238
  obtain ⟨c1, a1, f1⟩ := l_arr C0 (ty := .byte) wl_239
  obtain ⟨c2, a2, f2⟩ := l_arr C0 (ty := .boolean) wl_1637
  have hO : va_AO "AngelTown$Course" s := va_AO.of (hts _ wl_431)
  obtain ⟨comp, c3, k3, o1, o2, o3, o4, o5⟩ := Cond.arrayOver_spec hO
  refine ⟨(fun k => (g k).1, fun k => (g k).2), fun k => if k = 0 then c0 else if k = 1 then c1 else if k = 2 then c2 else c3, C0, hL, ⟨fun k q hq => hg k q hq, fun k q hq => ?_⟩, fun w hw hn => ?_, l_T C0, hO⟩
  · match k, hq with
    | 0, hq => cases hq; exact ⟨a0, f0⟩
    | 1, hq => cases hq; exact ⟨a1, f1⟩
    | 2, hq => cases hq; exact ⟨a2, f2⟩
    | 3, hq => cases hq; exact ⟨fun n z => ⟨fun k h => (by cases h), k3, o3, comp, o4⟩, k3, comp, o3, o4, o1, o5⟩
    | n + 4, hq => simp [ev_tys] at hq
  · have h1 := hts w hw
    match w, hn with
    | .fieldLinkNest .., _ => exact va_Nw.of rfl h1
    | .methodLinkNest .., _ => exact va_Nw.of rfl h1
end
set_option maxRecDepth 20000 in
theorem whole_start {p : Program} {e : Env} {s : State} {m : MethodId} {below : List Frame} {meth : Method} {c : Code} (l : Launch) (hflags : l.flags = flags0) {b L : Nat} {xs : Nat → Int32} (hL : L ≤ 3072) (C0 : lw_At p s m meth c b L xs) : W p l e room_1 s m #[Value.ref b] below meth c s.heap [] 0 0 (lw_Z below #[Value.ref b] s) (entryFrame m ([Value.ref b] : List Value).toArray 4) := by
  obtain ⟨D, ct, X⟩ := l_LX hL C0
  obtain ⟨hx, hb, hr, hml, hown, hts, hX, hbl, hlocks, hgv⟩ := id C0
  have htb := X.ts
  have hS : va_S (lA s) s.heap s.heap [] := va_S.rf
  have hP : va_P D vwCl [] s.heap := fun k q h => by simp at h
  have hD : va_D (lA s) [] := ⟨fun i j p q h => by simp at h, fun k q h => by simp at h⟩
  have hl := lv_entry ([.ref b]) (n := 4) (Nat.le_of_ble_eq_true rfl)
  rw [lg_entry_eq]
  generalize (lg_sl ([.ref b]) ++ List.replicate (4 - (lg_sl ([.ref b])).length) Slot.unset).toArray = ls at hl ⊢
  have hl : lv_has ls 4 [(0, .ref b)] := hl
  refine va_new (ci := 11) (fs := fs0_X11) (C := RX11) (T := TX11) (N := 10) hx hb htb cl_X11.2.1 tyX11 cl_X11.2.2.1 hown (hts _ wl_197) (hts _ wl_198) (hts _ wl_175) X.2.2.1 hP hD hS (fun q h => h) cl_X11.1 df_X11 (Nat.le_of_ble_eq_true rfl) (Nat.le_of_ble_eq_true rfl) dL_law_0 (fun q0 H hP hD hS => ?_)
  refine lv_dup hx hb dL_law_3 rfl ?_
  refine l_init (w := []) (d' := 6) X cv_cm_X11 wl_199 dL_law_4 (Nat.le_of_ble_eq_true rfl) (Nat.le_of_ble_eq_true rfl) (Nat.le_of_ble_eq_true rfl) hl.1 (Nat.le_of_ble_eq_true rfl) (Nat.le_of_ble_eq_true rfl) hP hD hS (ci_X11 q0) (fun w1 H locs hw hPa hDa hS => ?_)
  obtain ⟨adX, σ, e0, hσ, e1, hXI⟩ := hw
  clear hP hD
  subst e0
  rw [List.nil_append, e1] at hPa hDa
  clear e1
  generalize hwX : ev_ws layX ct adX σ = wX at hPa hDa
  refine lv_astore_n (lv' := [(1, .ref (adX 0)), (0, .ref b)]) hx hb dL_law_7 rfl hl (Nat.le_of_ble_eq_true rfl) rfl (fun ls hl => ?_)
  refine va_new (ci := 12) (fs := fs0_X12) (C := RX12) (T := TX12) (N := 64) hx hb htb cl_X12.2.1 tyX12 cl_X12.2.2.1 hown (hts _ wl_1437) (hts _ wl_1438) (hts _ wl_188) X.2.2.1 hPa hDa hS (fun q h => h) cl_X12.1 df_X12 (Nat.le_of_ble_eq_true rfl) (Nat.le_of_ble_eq_true rfl) dL_law_8 (fun q1 H hPb hDb hS => ?_)
  refine lv_dup hx hb dL_law_11 rfl ?_
  refine l_init (w := wX) (d' := 1) X cv_cm_X12 wl_1439 dL_law_12 (Nat.le_of_ble_eq_true rfl) (Nat.le_of_ble_eq_true rfl) (Nat.le_of_ble_eq_true rfl) hl.1 (Nat.le_of_ble_eq_true rfl) (Nat.le_of_ble_eq_true rfl) hPb hDb hS (ci_X12 q1) (fun w1 H locs hw hP hD hS => ?_)
  obtain ⟨adM, e0, e1⟩ := hw
  clear hPa hDa hPb hDb
  subst e0
  rw [e1] at hP hD
  clear e1
  refine lv_astore_n (lv' := [(2, .ref (adM 0)), (1, .ref (adX 0)), (0, .ref b)]) hx hb dL_law_15 rfl hl (Nat.le_of_ble_eq_true rfl) rfl (fun ls hl => ?_)
  refine lv_iconst (v := Int32.ofInt 0) hx hb dL_law_16 rfl ?_
  refine lv_istore_n (lv' := [(3, .int (Int32.ofInt 0)), (2, .ref (adM 0)), (1, .ref (adX 0)), (0, .ref b)]) hx hb dL_law_17 rfl hl (Nat.le_of_ble_eq_true rfl) rfl (fun ls hl => ?_)
  have hP1 := cv_left hP
  have hP2 := cv_right hP
  have hD1 := cv_Dleft hD
  have hD2 := cv_Dright hD
  have hD3 := cv_Dap hD
  rw [← hwX] at hP1 hD1 hD3
  have hl2 : lv_has ls 4 [(3, .int (Int32.ofInt ((0 : Nat) : Int))), (1, .ref (adX 0)), (2, .ref (adM 0)), (0, .ref b)] := lv_sub hl [0, 2, 1, 3] rfl
  exact l_loop X (Nat.le_of_ble_eq_true rfl) (Nat.le_of_ble_eq_true rfl) (L + 6) 0 σ cv_m0 H locs ls (by omega) (by omega) ⟨⟨hP1, hP2⟩, ⟨hD1, hD2⟩, hD3, hS, hσ, cv_m0_ok⟩ (XR_0 hXI) hl2
end
