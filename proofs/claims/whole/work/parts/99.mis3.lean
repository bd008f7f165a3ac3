section
/-! MISHAPS: the model -/
def FM (b : Nat → Int) (L : Nat) (s : ev_S) (k i : Nat) (s' : ev_S) : Prop := s' 0 35 = (k : Int) ∧ s' 0 36 = ((kF b L i : Nat) : Int) ∧ frW s s'
theorem FM_ers {b : Nat → Int} {L k i : Nat} {s0 s : ev_S} (h : frW s0 s) : FM b L s0 k i (ers b L s k i) := by
  unfold ers
  exact ⟨by rw [ev_up_ne _ _ (by omega), ev_up_same], ev_up_same _ _ _ _, frW_up0 (frW_up0 h (by omega)) (by omega)⟩
theorem FM_upc {b : Nat → Int} {L k i c q : Nat} {s0 s : ev_S} {z : Int} (h : FM b L s0 k i s) (hc : (12 ≤ c ∧ c ≤ 14 ∧ 16 ≤ q) ∨ ((c = 15 ∨ c = 16) ∧ 400 ≤ q) ∨ c = 17 ∨ c = 18 ∨ c = 19 ∨ (c = 20 ∧ 4800 ≤ q) ∨ c = 22 ∨ c = 23 ∨ (c = 24 ∧ 70 ≤ q) ∨ ((c = 25 ∨ c = 26) ∧ 240 ≤ q)) : FM b L s0 k i (ev_up s c q z) := ⟨by rw [ev_upj _ _ (by omega)]; exact h.1, by rw [ev_upj _ _ (by omega)]; exact h.2.1, frW_upc h.2.2 hc⟩
def mm (b : Nat → Int) (L : Nat) (s0 : ev_S) (c : Nat) (R : Nat → Int) (l : Nat) (s : ev_S) (j : Nat) : Prop := AM b L s j ∧ frW s0 s ∧ (∀ i, i < 7 * c → s 24 (70 + i) = s0 24 (70 + i)) ∧ ∀ i, i < l → s 24 (70 + 7 * c + i) = R i
theorem mm_rd {b : Nat → Int} {L c l j j' : Nat} {s0 s s' : ev_S} {R : Nat → Int} (h : mm b L s0 c R l s j) (hA : AM b L s' j') (hr : rdf s s') : mm b L s0 c R l s' j' := by
  obtain ⟨h1, h2, h3, h4⟩ := h
  have e := hr.2 24 (by omega)
  exact ⟨hA, frW_tr h2 (frW_rd hr), by rw [e]; exact h3, by rw [e]; exact h4⟩
theorem mm_put {b : Nat → Int} {L c l j i : Nat} {s0 s : ev_S} {R : Nat → Int} {z : Int} (h : mm b L s0 c R l s j) (hi : i ≤ l) (h7 : i < 7) : mm b L s0 c (rup R i z) (if i = l then l + 1 else l) (ev_up s 24 (70 + 7 * c + i) z) j := by
  obtain ⟨h1, h2, h3, h4⟩ := h
  refine ⟨AM_keep h1 (fun k _ _ => by rw [ev_upj _ _ (by omega)]) (ev_upj _ _ (by omega)) (ev_upj _ _ (by omega)), frW_upc h2 (by omega), fun k hk => by rw [ev_up_ne _ _ (by omega)]; exact h3 k hk, fun k hk => ?_⟩
  by_cases e : k = i
  · rw [e, ev_up_same, rup_same]
  · rw [ev_up_ne _ _ (by omega), rup_ne _ _ e]
    refine h4 k ?_
    split at hk <;> omega
theorem mm_row {b : Nat → Int} {L c l j : Nat} {s0 s : ev_S} {R R' : Nat → Int} (h : mm b L s0 c R l s j) (e : ∀ i, i < l → R' i = R i) : mm b L s0 c R' l s j := ⟨h.1, h.2.1, h.2.2.1, fun i hi => by rw [e i hi]; exact h.2.2.2 i hi⟩
theorem sp_m114 {d L j c : Nat} {s0 s : ev_S} {b R : Nat → Int} {w k : Int} {Q : Option ev_V → ev_S → Prop} (hc : c < 10) (hM : mm b L s0 c R 7 s j) (hR : R 6 = 100) (h : pR3 (kT b L) (kV b L) w k j (fun k i => ∀ s', FM b L s0 k i s' → Q (some (ev_i (-1))) s') (fun _ _ e j' => pis (isS (kT b L) (kV b L) 59 j') j' (fun k i => ∀ s', FM b L s0 k i s' → Q (some (ev_i (-1))) s') (∀ s', mm b L s0 c (rup R 6 e) 7 s' (j' + 1) → Q (some (ev_i 0)) s'))) : Ev layM M_X12_readRest (d + 4) 114 [(0, ev_r 0), (1, ev_i ((70 + 7 * c : Nat) : Int))] [] s Q := by
  refine wp_X12_readRest_114 (sp_isWord hM.1 (fun q => ev_pi_mk ⟨fun q2 => absurd q2 (by omega), fun _ => sp_rd hM.1 (fun s1 y1 y2 => ?_)⟩) (fun q => ev_pi_mk ⟨fun _ => ?_, fun q2 => absurd rfl q2⟩))
  · have m1 := mm_rd hM y1 y2
    have ea : ev_add ((70 + 7 * c : Nat) : Int) 6 = ((70 + 7 * c + 6 : Nat) : Int) := by rw [ev_add_eq ⟨by omega, by omega⟩]; omega
    rw [ea, Int.toNat_natCast]
    refine sp_readNumber m1.1 (pnum_mono (fun k1 hk1 e => ev_pi_mk ⟨by omega, ?_⟩) (fun v t r hK s2 y3 y4 => ev_pi_mk ⟨by omega, ?_⟩) (h.1 q))
    · rintro _ rfl
      rw [ev_up_same]
      exact ⟨by omega, fun q2 => absurd rfl q2, fun _ => e _ (FM_upc (FM_ers m1.2.1) (by omega))⟩
    · rintro _ rfl
      rw [ev_up_same]
      have m2 := mm_put (i := 6) (z := v) (mm_rd m1 y3 y4) (by omega) (by omega)
      rw [if_neg (by omega)] at m2
      refine ⟨by omega, fun _ => sp_readMark m2.1 (pis_mono Iff.rfl (fun e => ev_pi_mk (e _ (FM_ers m2.2.1))) (fun w2 e s3 y5 y6 => ev_pi_mk (e _ (mm_rd m2 y5 y6))) hK), fun q2 => absurd q2 (by omega)⟩
  · refine sp_readMark hM.1 (pis_mono Iff.rfl (fun e => ev_pi_mk (e _ (FM_ers hM.2.1))) (fun w2 e s3 y5 y6 => ev_pi_mk (e _ (mm_row (mm_rd hM y5 y6) (fun i hi => ?_)))) (h.2 q))
    by_cases e : i = 6
    · rw [e, rup_same, hR]
    · rw [rup_ne _ _ e]
theorem sp_m75 {d L j c : Nat} {s0 s : ev_S} {b R : Nat → Int} {w : Int} {Q : Option ev_V → ev_S → Prop} (hc : c < 10) (hM : mm b L s0 c R 7 s j) (hR : R 6 = 100) (hR5 : R 5 = -1) (h : pR2 (kT b L) (kV b L) w j (fun k i => ∀ s', FM b L s0 k i s' → Q (some (ev_i (-1))) s') (fun _ k e j' => pis (isS (kT b L) (kV b L) 59 j') j' (fun k i => ∀ s', FM b L s0 k i s' → Q (some (ev_i (-1))) s') (∀ s', mm b L s0 c (rup (rup R 5 k) 6 e) 7 s' (j' + 1) → Q (some (ev_i 0)) s'))) : Ev layM M_X12_readRest (d + 4) 75 [(0, ev_r 0), (1, ev_i ((70 + 7 * c : Nat) : Int))] [] s Q := by
  refine wp_X12_readRest_75 (sp_isWord hM.1 (fun q => ev_pi_mk ⟨fun q2 => absurd q2 (by omega), fun _ => sp_rd hM.1 (fun s1 y1 y2 => ?_)⟩) (fun q => ev_pi_mk ⟨fun _ => ?_, fun q2 => absurd rfl q2⟩))
  · have m1 := mm_rd hM y1 y2
    have h2 := h.1 q
    have ea : ev_add ((70 + 7 * c : Nat) : Int) 5 = ((70 + 7 * c + 5 : Nat) : Int) := by rw [ev_add_eq ⟨by omega, by omega⟩]; omega
    rw [ea, Int.toNat_natCast]
    have fail : ¬ isK (kT b L) (kV b L) (j + 1) → Ev layM M_X12_errs (d + 2) 0 [(0, ev_r 0), (1, ev_i 1)] [] s1 (ev_pi (fun r2 s1 => ev_pi (fun r5 s4 => ((0 ≤ ((70 + 7 * c + 5 : Nat) : Int) ∧ ((70 + 7 * c + 5 : Nat) : Int) < (140 : Nat)) ∧ ∀ s6, ev_up s4 24 (70 + 7 * c + 5) r5 = s6 → ((0 ≤ ((70 + 7 * c + 5 : Nat) : Int) ∧ ((70 + 7 * c + 5 : Nat) : Int) < (140 : Nat)) ∧ (((s6 24 (70 + 7 * c + 5)) ≠ (-1) → Ev layM M_X12_readRest (d + 4) 114 [(0, ev_r 0), (1, ev_i ((70 + 7 * c : Nat) : Int))] [] s6 Q) ∧ ((s6 24 (70 + 7 * c + 5)) = (-1) → Q (some (ev_i (-1))) s6))))) (some (ev_i r2)) s1)) := fun q2 => by
      refine sp_errs (k := 1) m1.1 (ev_pi_mk (ev_pi_mk ⟨by omega, ?_⟩))
      rintro _ rfl
      rw [ev_up_same]
      exact ⟨by omega, fun q3 => absurd rfl q3, fun _ => h2.1 q2 _ (FM_upc (FM_ers m1.2.1) (by omega))⟩
    refine wp_X12_readKind_0 ?_
    rw [m1.1.2.2.1]
    refine ⟨fun q2 => fail (fun w2 => q2 w2.1), fun q2 => ?_⟩
    rw [m1.1.2.2.2.1 (by omega)]
    refine sp_isIn (ev_pi_mk ?_)
    rw [m1.1.2.2.2.1 (by omega)]
    by_cases ck : 28 ≤ kV b L (j + 1) ∧ kV b L (j + 1) ≤ 32
    · rw [if_pos ck, ev_sub_eq ⟨by omega, by omega⟩]
      refine ⟨fun _ => sp_rd m1.1 (fun s2 y3 y4 => ev_pi_mk ⟨by omega, ?_⟩), fun q3 => absurd q3 (by omega)⟩
      rintro _ rfl
      rw [ev_up_same]
      have m2 := mm_put (i := 5) (z := kV b L (j + 1) - 28) (mm_rd m1 y3 y4) (by omega) (by omega)
      rw [if_neg (by omega)] at m2
      exact ⟨by omega, fun _ => sp_m114 (w := w) (k := kV b L (j + 1) - 28) hc m2 (by rw [rup_ne _ _ (by omega)]; exact hR) (h2.2 ⟨q2, ck⟩), fun q3 => absurd q3 (by omega)⟩
    · rw [if_neg ck]
      exact ⟨fun q3 => absurd rfl q3, fun _ => fail (fun w2 => ck w2.2)⟩
  · refine sp_m114 (w := w) (k := -1) hc hM hR (pR3_mono (fun e j' e2 => pis_mono Iff.rfl (fun e3 => e3) (fun _ e3 s' hm => e3 s' (mm_row hm (fun i hi => ?_))) e2) (h.2 q))
    by_cases e6 : i = 6
    · rw [e6, rup_same, rup_same]
    · rw [rup_ne _ _ e6, rup_ne _ _ e6]
      by_cases e5 : i = 5
      · rw [e5, rup_same, hR5]
      · rw [rup_ne _ _ e5]
theorem sp_mrest {d L j c : Nat} {s0 s : ev_S} {b R : Nat → Int} {N : Int} {Q : Option ev_V → ev_S → Prop} (hc : c < 10) (hw : s0 0 10 = N) (hw8 : 0 ≤ N ∧ N ≤ 8) (hM : mm b L s0 c R 4 s j) (h : pR1 (kT b L) (kV b L) N j (fun k i => ∀ s', FM b L s0 k i s' → Q (some (ev_i (-1))) s') (fun w k e j' => pis (isS (kT b L) (kV b L) 59 j') j' (fun k i => ∀ s', FM b L s0 k i s' → Q (some (ev_i (-1))) s') (∀ s', mm b L s0 c (rup (rup (rup R 4 w) 5 k) 6 e) 7 s' (j' + 1) → Q (some (ev_i 0)) s'))) : Ev layM M_X12_readRest (d + 4) 0 [(0, ev_r 0), (1, ev_i ((70 + 7 * c : Nat) : Int))] [] s Q := by
  refine wp_X12_readRest_0 ?_
  have e4 : ev_add ((70 + 7 * c : Nat) : Int) 4 = ((70 + 7 * c + 4 : Nat) : Int) := by rw [ev_add_eq ⟨by omega, by omega⟩]; omega
  have e5 : ev_add ((70 + 7 * c : Nat) : Int) 5 = ((70 + 7 * c + 5 : Nat) : Int) := by rw [ev_add_eq ⟨by omega, by omega⟩]; omega
  have e6 : ev_add ((70 + 7 * c : Nat) : Int) 6 = ((70 + 7 * c + 6 : Nat) : Int) := by rw [ev_add_eq ⟨by omega, by omega⟩]; omega
  rw [e4, e5, e6, Int.toNat_natCast, Int.toNat_natCast, Int.toNat_natCast]
  refine ⟨by omega, ?_⟩
  rintro _ rfl
  refine ⟨by omega, ?_⟩
  rintro _ rfl
  refine ⟨by omega, ?_⟩
  rintro _ rfl
  have p4 := mm_put (i := 4) (z := -1) hM (by omega) (by omega)
  rw [if_pos rfl] at p4
  have p5 := mm_put (i := 5) (z := -1) p4 (by omega) (by omega)
  rw [if_pos rfl] at p5
  have p6 := mm_put (i := 6) (z := 100) p5 (by omega) (by omega)
  rw [if_pos rfl] at p6
  refine sp_isWord p6.1 (fun q => ev_pi_mk ⟨fun q2 => absurd q2 (by omega), fun _ => sp_rd p6.1 (fun s1 y1 y2 => ?_)⟩) (fun q => ev_pi_mk ⟨fun _ => ?_, fun q2 => absurd rfl q2⟩)
  · have m1 := mm_rd p6 y1 y2
    rw [m1.2.1.1 10 (by omega), hw, ev_sub_eq ⟨by omega, by omega⟩]
    refine sp_readNumber m1.1 (pnum_mono (fun k1 hk1 e => ev_pi_mk ⟨by omega, ?_⟩) (fun v t r hK s2 y3 y4 => ev_pi_mk ⟨by omega, ?_⟩) (h.1 q))
    · rintro _ rfl
      rw [ev_up_same]
      exact ⟨by omega, fun q2 => absurd rfl q2, fun _ => e _ (FM_upc (FM_ers m1.2.1) (by omega))⟩
    · rintro _ rfl
      rw [ev_up_same]
      have m2 := mm_put (i := 4) (z := v) (mm_rd m1 y3 y4) (by omega) (by omega)
      rw [if_neg (by omega)] at m2
      refine ⟨by omega, fun _ => sp_m75 (w := v) hc m2 (by rw [rup_ne _ _ (by omega), rup_same]) (by rw [rup_ne _ _ (by omega), rup_ne _ _ (by omega), rup_same]) (pR2_mono (fun k e j' e2 => pis_mono Iff.rfl (fun e3 => e3) (fun _ e3 s' hm => e3 s' (mm_row hm (fun i hi => ?_))) e2) hK), fun q2 => absurd q2 (by omega)⟩
      by_cases e6 : i = 6
      · rw [e6, rup_same, rup_same]
      · rw [rup_ne _ _ e6, rup_ne _ _ e6]
        by_cases e5 : i = 5
        · rw [e5, rup_same, rup_same]
        · rw [rup_ne _ _ e5, rup_ne _ _ e5]
          by_cases e4 : i = 4
          · rw [e4, rup_same, rup_same]
          · rw [rup_ne _ _ e4, rup_ne _ _ e4, rup_ne _ _ e6, rup_ne _ _ e5, rup_ne _ _ e4]
  · refine sp_m75 (w := -1) hc p6 (by rw [rup_same]) (by rw [rup_ne _ _ (by omega), rup_same]) (pR2_mono (fun k e j' e2 => pis_mono Iff.rfl (fun e3 => e3) (fun _ e3 s' hm => e3 s' (mm_row hm (fun i hi => ?_))) e2) (h.2 q))
    by_cases e6 : i = 6
    · rw [e6, rup_same, rup_same]
    · rw [rup_ne _ _ e6, rup_ne _ _ e6]
      by_cases e5 : i = 5
      · rw [e5, rup_same, rup_same]
      · rw [rup_ne _ _ e5, rup_ne _ _ e5, rup_ne _ _ e6, rup_ne _ _ e5]
theorem sp_mmis {d L j c : Nat} {s0 s T : ev_S} {b : Nat → Int} {N : Int} {Q : Option ev_V → ev_S → Prop} (hc : c < 10) (hd : m_dim T) (e6 : s0 0 6 = T 0 6) (e7 : s0 0 7 = T 0 7) (hw : s0 0 10 = N) (hw8 : 0 ≤ N ∧ N ≤ 8) (m0 : mm b L s0 c (fun _ => 0) 0 s (j + 1)) (h : pMis (kT b L) (kV b L) (m_pl T) N j (fun k i => ∀ s', FM b L s0 k i s' → Q (some (ev_i (-1))) s') (fun r j' => ∀ s', mm b L s0 c r 7 s' j' → Q (some (ev_i 0)) s')) : Ev layM M_X12_readMishap (d + 5) 0 [(0, ev_r 0), (1, ev_i ((70 + 7 * c : Nat) : Int))] [] s Q := by
  refine wp_X12_readMishap_0 ?_
  have a0 : ev_add ((70 + 7 * c : Nat) : Int) 0 = ((70 + 7 * c + 0 : Nat) : Int) := by rw [ev_add_eq ⟨by omega, by omega⟩]; omega
  have a1 : ev_add ((70 + 7 * c : Nat) : Int) 1 = ((70 + 7 * c + 1 : Nat) : Int) := by rw [ev_add_eq ⟨by omega, by omega⟩]; omega
  have a2 : ev_add ((70 + 7 * c : Nat) : Int) 2 = ((70 + 7 * c + 2 : Nat) : Int) := by rw [ev_add_eq ⟨by omega, by omega⟩]; omega
  have a3 : ev_add ((70 + 7 * c : Nat) : Int) 3 = ((70 + 7 * c + 3 : Nat) : Int) := by rw [ev_add_eq ⟨by omega, by omega⟩]; omega
  rw [a0, a1, a2, a3, Int.toNat_natCast, Int.toNat_natCast, Int.toNat_natCast, Int.toNat_natCast]
  unfold pMis at h
  refine sp_readNumber m0.1 (pnum_mono (fun k hk e => ev_pi_mk ⟨by omega, ?_⟩) (fun v1 t1 r1 h1 s1 y1 y2 => ev_pi_mk ⟨by omega, ?_⟩) h)
  · rintro _ rfl
    rw [ev_up_same]
    exact ⟨by omega, fun _ => e _ (FM_upc (FM_ers m0.2.1) (by omega)), fun q => absurd rfl q⟩
  rintro _ rfl
  rw [ev_up_same]
  have m1 := mm_put (i := 0) (z := v1) (mm_rd m0 y1 y2) (by omega) (by omega)
  rw [if_pos rfl] at m1
  refine ⟨by omega, fun q => absurd q (by omega), fun _ => sp_readWord m1.1 (pis_mono Iff.rfl (fun e => ev_pi_mk ⟨fun q => absurd rfl q, fun _ => e _ (FM_ers m1.2.1)⟩) (fun w2 h2 s2 y3 y4 => ev_pi_mk ⟨fun _ => ?_, fun q => absurd q (by omega)⟩) h1)⟩
  have m2 := mm_rd m1 y3 y4
  refine sp_readPlace2 m2.1 hd (by rw [m2.2.1.1 6 (by omega)]; exact e6) (by rw [m2.2.1.1 7 (by omega)]; exact e7) (pplc_mono (fun k hk e => ev_pi_mk ⟨by omega, ?_⟩) (fun v3 t3 r3 h3 s3 y5 y6 => ev_pi_mk ⟨by omega, ?_⟩) h2)
  · rintro _ rfl
    rw [ev_up_same]
    exact ⟨by omega, fun _ => e _ (FM_upc (FM_ers m2.2.1) (by omega)), fun q => absurd rfl q⟩
  rintro _ rfl
  rw [ev_up_same]
  have m3 := mm_put (i := 1) (z := v3) (mm_rd m2 y5 y6) (by omega) (by omega)
  rw [if_pos rfl] at m3
  have r30 := r3.1
  refine ⟨by omega, fun q => absurd q (by omega), fun _ => sp_readWord m3.1 (pis_mono Iff.rfl (fun e => ev_pi_mk ⟨fun q => absurd rfl q, fun _ => e _ (FM_ers m3.2.1)⟩) (fun w4 h4 s4 y7 y8 => ev_pi_mk ⟨fun _ => ?_, fun q => absurd q (by omega)⟩) h3)⟩
  have m4 := mm_rd m3 y7 y8
  refine sp_readNumber m4.1 (pnum_mono (fun k hk e => ev_pi_mk ⟨by omega, ?_⟩) (fun v5 t5 r5 h5 s5 y9 y10 => ev_pi_mk ⟨by omega, ?_⟩) h4)
  · rintro _ rfl
    rw [ev_up_same]
    exact ⟨by omega, fun _ => e _ (FM_upc (FM_ers m4.2.1) (by omega)), fun q => absurd rfl q⟩
  rintro _ rfl
  rw [ev_up_same]
  have m5 := mm_put (i := 2) (z := v5) (mm_rd m4 y9 y10) (by omega) (by omega)
  rw [if_pos rfl] at m5
  refine ⟨by omega, fun q => absurd q (by omega), fun _ => sp_readWord m5.1 (pis_mono Iff.rfl (fun e => ev_pi_mk ⟨fun q => absurd rfl q, fun _ => e _ (FM_ers m5.2.1)⟩) (fun w6 h6 s6 y11 y12 => ev_pi_mk ⟨fun _ => ⟨by omega, ?_⟩, fun q => absurd q (by omega)⟩) h5)⟩
  have m6 := mm_rd m5 y11 y12
  rw [m6.2.2.2 2 (by omega), rup_same]
  refine sp_readNumber m6.1 (pnum_mono (fun k hk e => ev_pi_mk ⟨by omega, ?_⟩) (fun v7 t7 r7 h7 s7 y13 y14 => ev_pi_mk ⟨by omega, ?_⟩) h6)
  · rintro _ rfl
    rw [ev_up_same]
    exact ⟨by omega, fun q => absurd rfl q, fun _ => e _ (FM_upc (FM_ers m6.2.1) (by omega))⟩
  rintro _ rfl
  rw [ev_up_same]
  have m7 := mm_put (i := 3) (z := v7) (mm_rd m6 y13 y14) (by omega) (by omega)
  rw [if_pos rfl] at m7
  refine ⟨by omega, fun _ => sp_mrest (N := N) hc hw hw8 m7 ?_, fun q => absurd q (by omega)⟩
  exact ⟨fun q => pnum_mono (fun k _ e s' hF => ev_pi_mk (e s' hF)) (fun v _ _ e => ⟨fun q2 => pis_mono Iff.rfl (fun e2 s' hF => ev_pi_mk (e2 s' hF)) (fun _ e2 => ⟨fun q3 => pnum_mono (fun k _ e3 s' hF => ev_pi_mk (e3 s' hF)) (fun v _ _ e3 => pis_mono Iff.rfl (fun e4 s' hF => ev_pi_mk (e4 s' hF)) (fun _ e4 s' hm => ev_pi_mk (e4 s' hm)) e3) (e2.1 q3), fun q3 => pis_mono Iff.rfl (fun e4 s' hF => ev_pi_mk (e4 s' hF)) (fun _ e4 s' hm => ev_pi_mk (e4 s' hm)) (e2.2 q3)⟩) (e.1 q2), fun q2 => ⟨fun q3 => pnum_mono (fun k _ e3 s' hF => ev_pi_mk (e3 s' hF)) (fun v _ _ e3 => pis_mono Iff.rfl (fun e4 s' hF => ev_pi_mk (e4 s' hF)) (fun _ e4 s' hm => ev_pi_mk (e4 s' hm)) e3) ((e.2 q2).1 q3), fun q3 => pis_mono Iff.rfl (fun e4 s' hF => ev_pi_mk (e4 s' hF)) (fun _ e4 s' hm => ev_pi_mk (e4 s' hm)) ((e.2 q2).2 q3)⟩⟩) (h7.1 q), fun q => ⟨fun q2 => pis_mono Iff.rfl (fun e2 s' hF => ev_pi_mk (e2 s' hF)) (fun _ e2 => ⟨fun q3 => pnum_mono (fun k _ e3 s' hF => ev_pi_mk (e3 s' hF)) (fun v _ _ e3 => pis_mono Iff.rfl (fun e4 s' hF => ev_pi_mk (e4 s' hF)) (fun _ e4 s' hm => ev_pi_mk (e4 s' hm)) e3) (e2.1 q3), fun q3 => pis_mono Iff.rfl (fun e4 s' hF => ev_pi_mk (e4 s' hF)) (fun _ e4 s' hm => ev_pi_mk (e4 s' hm)) (e2.2 q3)⟩) ((h7.2 q).1 q2), fun q2 => ⟨fun q3 => pnum_mono (fun k _ e3 s' hF => ev_pi_mk (e3 s' hF)) (fun v _ _ e3 => pis_mono Iff.rfl (fun e4 s' hF => ev_pi_mk (e4 s' hF)) (fun _ e4 s' hm => ev_pi_mk (e4 s' hm)) e3) (((h7.2 q).2 q2).1 q3), fun q3 => pis_mono Iff.rfl (fun e4 s' hF => ev_pi_mk (e4 s' hF)) (fun _ e4 s' hm => ev_pi_mk (e4 s' hm)) (((h7.2 q).2 q2).2 q3)⟩⟩⟩
end
