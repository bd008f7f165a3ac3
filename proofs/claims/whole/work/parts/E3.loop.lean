section
theorem dL_law_18 : decode code 18 = .ok (.iload_n 3, 1) := by decide +kernel
theorem dL_law_19 : decode code 19 = .ok (.aload_n 0, 1) := by decide +kernel
theorem dL_law_20 : decode code 20 = .ok (.arraylength, 1) := by decide +kernel
theorem dL_law_21 : decode code 21 = .ok (.bipush 6, 2) := by decide +kernel
theorem dL_law_23 : decode code 23 = .ok (.isub, 1) := by decide +kernel
theorem dL_law_24 : decode code 24 = .ok (.if_icmp .gt 872, 3) := by decide +kernel
theorem dL_law_27 : decode code 27 = .ok (.aload_n 0, 1) := by decide +kernel
theorem dL_law_28 : decode code 28 = .ok (.iload_n 3, 1) := by decide +kernel
theorem dL_law_29 : decode code 29 = .ok (.iaload, 1) := by decide +kernel
theorem dL_law_30 : decode code 30 = .ok (.bipush 31, 2) := by decide +kernel
theorem dL_law_32 : decode code 32 = .ok (.iand, 1) := by decide +kernel
theorem dL_law_33 : decode code 33 = .ok (.tableswitch 857 0 24 #[115, 138, 171, 214, 237, 270, 313, 376, 399, 432, 455, 478, 511, 544, 577, 610, 633, 656, 679, 692, 705, 739, 782, 795, 834], 115) := by decide +kernel
theorem dL_law_890 : decode code 890 = .ok (.iinc 3 6, 3) := by decide +kernel
theorem dL_law_893 : decode code 893 = .ok (.goto (-875), 3) := by decide +kernel
theorem dL_law_896 : decode code 896 = .ok (.iconst 1, 1) := by decide +kernel
theorem dL_law_897 : decode code 897 = .ok (.ireturn, 1) := by decide +kernel
section
variable {p : Program} {l : Launch} {e : Env} {s : State} {m : MethodId} {below : List Frame} {meth : Method} {c : Code} {b L : Nat} {xs : Nat → Int32} {D : va_G} {ct : Nat → ClassId} {adX adM : Nat → Nat} {σ τ : ev_S} {H : Heap} {locs : List Loc} {ls : Array Slot} {cells slots pc i : Nat} {st : List Value}
theorem l_head (X : LX p s m meth c b L xs D ct) (hW : LW D ct adX adM σ τ s H locs) (hl : lv_has ls 4 [(3, .int (Int32.ofInt (i : Int))), (1, .ref (adX 0)), (2, .ref (adM 0)), (0, .ref b)]) (k : W p l e room_1 s m #[Value.ref b] below meth c H locs cells slots (lw_Z below #[Value.ref b] s) (F0 m 24 ls [.int (Int32.ofInt ((L : Int) - 6)), .int (Int32.ofInt (i : Int))])) : W p l e room_1 s m #[Value.ref b] below meth c H locs cells slots (lw_Z below #[Value.ref b] s) (F0 m 18 ls []) := by
  refine lv_iload_n X.1.1 X.1.2.1 dL_law_18 rfl (lv_at hl 0 rfl) ?_
  refine lv_aload_n X.1.1 X.1.2.1 dL_law_19 rfl (lv_at hl 3 rfl) ?_
  refine va_slen X.1.1 X.1.2.1 X.1.2.2.2.2.2.2.1 X.1.2.2.2.2.2.2.2.1 (Nat.not_le.mpr X.1.2.2.2.2.2.2.2.1) hW.2.2.2.1 dL_law_20 ?_
  refine lv_bipush (v := Int32.ofInt 6) X.1.1 X.1.2.1 dL_law_21 (by decide +kernel) ?_
  refine lv_isub X.1.1 X.1.2.1 dL_law_23 ?_
  have e1 : Int32.ofNat L - Int32.ofInt 6 = Int32.ofInt ((L : Int) - 6) := by
    rw [← Int32.ofInt_eq_ofNat, ← Int32.ofInt_sub]
  rw [e1]
  exact k
theorem l_end (X : LX p s m meth c b L xs D ct) (hc : cells ≤ 600000) (hs : slots ≤ 7302250) (hW : LW D ct adX adM σ τ s H locs) (hl : lv_has ls 4 [(3, .int (Int32.ofInt (i : Int))), (1, .ref (adX 0)), (2, .ref (adM 0)), (0, .ref b)]) (hi : ¬ i + 6 ≤ L) (hi2 : i ≤ L + 6) : W p l e room_1 s m #[Value.ref b] below meth c H locs cells slots (lw_Z below #[Value.ref b] s) (F0 m 18 ls []) := by
  have hL := X.2.1
  have hir : ev_R (i : Int) := ⟨by omega, by omega⟩
  refine l_head X hW hl ?_
  refine lv_icmp_gt (tgt := 896) X.1.1 X.1.2.1 dL_law_24 (by decide) (fun _ => ?_) (fun h => absurd ((ev_lt ⟨by omega, by omega⟩ hir).mpr (by omega)) h)
  refine lv_iconst (v := 1) X.1.1 X.1.2.1 dL_law_896 (by decide) ?_
  refine va_forget (fun q hq => hW.2.2.2.1.2.2 q hq) ?_
  refine W.widen hc hs ?_
  exact lw_ret X.1.1 X.1.2.1 X.1.2.2.1 X.1.2.2.2.2.2.2.2.2.1 dL_law_897
theorem l_loop (X : LX p s m meth c b L xs D ct) (hc : cells ≤ 600000) (hs : slots ≤ 7302250) : ∀ (n i : Nat) (σ τ : ev_S) (H : Heap) (locs : List Loc) (ls : Array Slot), L + 6 ≤ i + n → i ≤ L + 6 → LW D ct adX adM σ τ s H locs → XR σ τ → lv_has ls 4 [(3, .int (Int32.ofInt (i : Int))), (1, .ref (adX 0)), (2, .ref (adM 0)), (0, .ref b)] → W p l e room_1 s m #[Value.ref b] below meth c H locs cells slots (lw_Z below #[Value.ref b] s) (F0 m 18 ls []) := by
  intro n
  induction n with
  | zero =>
    intro i σ τ H locs ls h1 h2 hW hR hl
    exact l_end X hc hs hW hl (by omega) (by omega)
  | succ n ih =>
    intro i σ τ H locs ls h1 h2 hW hR hl
    by_cases hi : i + 6 ≤ L
    · have hL := X.2.1
      have hir : ev_R (i : Int) := ⟨by omega, by omega⟩
      have hLr : ev_R (L : Int) := ⟨by omega, by omega⟩
      have next : ∀ (σ' τ' : ev_S) (H1 : Heap) (locs1 : List Loc), XR σ' τ' → LW D ct adX adM σ' τ' s H1 locs1 → W p l e room_1 s m #[Value.ref b] below meth c H1 locs1 cells slots (lw_Z below #[Value.ref b] s) (F0 m 890 ls []) := by
        intro σ' τ' H1 locs1 hR1 hW1
        refine lv_iinc (k := 0) (v := Int32.ofInt ((i + 6 : Nat) : Int)) (lv' := [(3, .int (Int32.ofInt ((i + 6 : Nat) : Int))), (1, .ref (adX 0)), (2, .ref (adM 0)), (0, .ref b)]) X.1.1 X.1.2.1 dL_law_890 hl rfl (by rw [← Int32.ofInt_add]; rfl) (by omega) rfl (fun ls hl => ?_)
        refine lv_goto (tgt := 18) X.1.1 X.1.2.1 dL_law_893 (by decide) ?_
        exact ih (i + 6) σ' τ' H1 locs1 ls (by omega) (by omega) hW1 hR1 hl
      refine l_head X hW hl ?_
      refine lv_icmp_gt (tgt := 896) X.1.1 X.1.2.1 dL_law_24 (by decide) (fun h => absurd ((ev_lt ⟨by omega, by omega⟩ hir).mp h) (by omega)) (fun _ => ?_)
      refine lv_aload_n X.1.1 X.1.2.1 dL_law_27 rfl (lv_at hl 3 rfl) ?_
      refine lv_iload_n X.1.1 X.1.2.1 dL_law_28 rfl (lv_at hl 0 rfl) ?_
      refine va_sld X.1.1 X.1.2.1 X.1.2.2.2.2.2.2.1 X.1.2.2.2.2.2.2.2.1 (Nat.not_le.mpr X.1.2.2.2.2.2.2.2.1) hW.2.2.2.1 (ev_vin hir ⟨by omega, by omega⟩) dL_law_29 ?_
      refine lv_bipush (v := 31) X.1.1 X.1.2.1 dL_law_30 (by decide +kernel) ?_
      refine lv_iand X.1.1 X.1.2.1 dL_law_32 ?_
      obtain ⟨j, hj, ej⟩ := pk_andE (xs (Int32.ofInt (i : Int)).toNatClampNeg) (m := 31) 5 (by decide)
      rw [ej]
      have hj : j < 32 := hj
      match j, hj with
      | 0, _ => exact lv_tableIn (off := 115) (tgt := 148) X.1.1 X.1.2.1 dL_law_33 (by decide +kernel) (by decide +kernel) (by decide +kernel) (by decide) (lc_0 X hW hR hl hi hc hs next)
      | 1, _ => exact lv_tableIn (off := 138) (tgt := 171) X.1.1 X.1.2.1 dL_law_33 (by decide +kernel) (by decide +kernel) (by decide +kernel) (by decide) (lc_1 X hW hR hl hi hc hs next)
      | 2, _ => exact lv_tableIn (off := 171) (tgt := 204) X.1.1 X.1.2.1 dL_law_33 (by decide +kernel) (by decide +kernel) (by decide +kernel) (by decide) (lc_2 X hW hR hl hi hc hs next)
      | 3, _ => exact lv_tableIn (off := 214) (tgt := 247) X.1.1 X.1.2.1 dL_law_33 (by decide +kernel) (by decide +kernel) (by decide +kernel) (by decide) (lc_3 X hW hR hl hi hc hs next)
      | 4, _ => exact lv_tableIn (off := 237) (tgt := 270) X.1.1 X.1.2.1 dL_law_33 (by decide +kernel) (by decide +kernel) (by decide +kernel) (by decide) (lc_4 X hW hR hl hi hc hs next)
      | 5, _ => exact lv_tableIn (off := 270) (tgt := 303) X.1.1 X.1.2.1 dL_law_33 (by decide +kernel) (by decide +kernel) (by decide +kernel) (by decide) (lc_5 X hW hR hl hi hc hs next)
      | 6, _ => exact lv_tableIn (off := 313) (tgt := 346) X.1.1 X.1.2.1 dL_law_33 (by decide +kernel) (by decide +kernel) (by decide +kernel) (by decide) (lc_6 X hW hR hl hi hc hs next)
      | 7, _ => exact lv_tableIn (off := 376) (tgt := 409) X.1.1 X.1.2.1 dL_law_33 (by decide +kernel) (by decide +kernel) (by decide +kernel) (by decide) (lc_7 X hW hR hl hi hc hs next)
      | 8, _ => exact lv_tableIn (off := 399) (tgt := 432) X.1.1 X.1.2.1 dL_law_33 (by decide +kernel) (by decide +kernel) (by decide +kernel) (by decide) (lc_8 X hW hR hl hi hc hs next)
      | 9, _ => exact lv_tableIn (off := 432) (tgt := 465) X.1.1 X.1.2.1 dL_law_33 (by decide +kernel) (by decide +kernel) (by decide +kernel) (by decide) (lc_9 X hW hR hl hi hc hs next)
      | 10, _ => exact lv_tableIn (off := 455) (tgt := 488) X.1.1 X.1.2.1 dL_law_33 (by decide +kernel) (by decide +kernel) (by decide +kernel) (by decide) (lc_10 X hW hR hl hi hc hs next)
      | 11, _ => exact lv_tableIn (off := 478) (tgt := 511) X.1.1 X.1.2.1 dL_law_33 (by decide +kernel) (by decide +kernel) (by decide +kernel) (by decide) (lc_11 X hW hR hl hi hc hs next)
      | 12, _ => exact lv_tableIn (off := 511) (tgt := 544) X.1.1 X.1.2.1 dL_law_33 (by decide +kernel) (by decide +kernel) (by decide +kernel) (by decide) (lc_12 X hW hR hl hi hc hs next)
      | 13, _ => exact lv_tableIn (off := 544) (tgt := 577) X.1.1 X.1.2.1 dL_law_33 (by decide +kernel) (by decide +kernel) (by decide +kernel) (by decide) (lc_13 X hW hR hl hi hc hs next)
      | 14, _ => exact lv_tableIn (off := 577) (tgt := 610) X.1.1 X.1.2.1 dL_law_33 (by decide +kernel) (by decide +kernel) (by decide +kernel) (by decide) (lc_14 X hW hR hl hi hc hs next)
      | 15, _ => exact lv_tableIn (off := 610) (tgt := 643) X.1.1 X.1.2.1 dL_law_33 (by decide +kernel) (by decide +kernel) (by decide +kernel) (by decide) (lc_15 X hW hR hl hi hc hs next)
      | 16, _ => exact lv_tableIn (off := 633) (tgt := 666) X.1.1 X.1.2.1 dL_law_33 (by decide +kernel) (by decide +kernel) (by decide +kernel) (by decide) (lc_16 X hW hR hl hi hc hs next)
      | 17, _ => exact lv_tableIn (off := 656) (tgt := 689) X.1.1 X.1.2.1 dL_law_33 (by decide +kernel) (by decide +kernel) (by decide +kernel) (by decide) (lc_17 X hW hR hl hi hc hs next)
      | 18, _ => exact lv_tableIn (off := 679) (tgt := 712) X.1.1 X.1.2.1 dL_law_33 (by decide +kernel) (by decide +kernel) (by decide +kernel) (by decide) (lc_18 X hW hR hl hi hc hs next)
      | 19, _ => exact lv_tableIn (off := 692) (tgt := 725) X.1.1 X.1.2.1 dL_law_33 (by decide +kernel) (by decide +kernel) (by decide +kernel) (by decide) (lc_19 X hW hR hl hi hc hs next)
      | 20, _ => exact lv_tableIn (off := 705) (tgt := 738) X.1.1 X.1.2.1 dL_law_33 (by decide +kernel) (by decide +kernel) (by decide +kernel) (by decide) (lc_20 X hW hR hl hi hc hs next)
      | 21, _ => exact lv_tableIn (off := 739) (tgt := 772) X.1.1 X.1.2.1 dL_law_33 (by decide +kernel) (by decide +kernel) (by decide +kernel) (by decide) (lc_21 X hW hR hl hi hc hs next)
      | 22, _ => exact lv_tableIn (off := 782) (tgt := 815) X.1.1 X.1.2.1 dL_law_33 (by decide +kernel) (by decide +kernel) (by decide +kernel) (by decide) (lc_22 X hW hR hl hi hc hs next)
      | 23, _ => exact lv_tableIn (off := 795) (tgt := 828) X.1.1 X.1.2.1 dL_law_33 (by decide +kernel) (by decide +kernel) (by decide +kernel) (by decide) (lc_23 X hW hR hl hi hc hs next)
      | 24, _ => exact lv_tableIn (off := 834) (tgt := 867) X.1.1 X.1.2.1 dL_law_33 (by decide +kernel) (by decide +kernel) (by decide +kernel) (by decide) (lc_24 X hW hR hl hi hc hs next)
      | 25, _ => exact lv_tableOut (tgt := 890) X.1.1 X.1.2.1 dL_law_33 (Or.inr (by decide +kernel)) (by decide) (next σ τ H locs hR hW)
      | 26, _ => exact lv_tableOut (tgt := 890) X.1.1 X.1.2.1 dL_law_33 (Or.inr (by decide +kernel)) (by decide) (next σ τ H locs hR hW)
      | 27, _ => exact lv_tableOut (tgt := 890) X.1.1 X.1.2.1 dL_law_33 (Or.inr (by decide +kernel)) (by decide) (next σ τ H locs hR hW)
      | 28, _ => exact lv_tableOut (tgt := 890) X.1.1 X.1.2.1 dL_law_33 (Or.inr (by decide +kernel)) (by decide) (next σ τ H locs hR hW)
      | 29, _ => exact lv_tableOut (tgt := 890) X.1.1 X.1.2.1 dL_law_33 (Or.inr (by decide +kernel)) (by decide) (next σ τ H locs hR hW)
      | 30, _ => exact lv_tableOut (tgt := 890) X.1.1 X.1.2.1 dL_law_33 (Or.inr (by decide +kernel)) (by decide) (next σ τ H locs hR hW)
      | 31, _ => exact lv_tableOut (tgt := 890) X.1.1 X.1.2.1 dL_law_33 (Or.inr (by decide +kernel)) (by decide) (next σ τ H locs hR hW)
      | j + 32, h => exact absurd h (by omega)
    · exact l_end X hc hs hW hl (by omega) (by omega)
end
end
