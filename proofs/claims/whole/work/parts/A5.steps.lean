section
/-! THE WAY: reading it, both sides -/
def nbo (o : Nat) : Nat := ([393660, 43740, 4860, 540, 60] : List Nat).getD o 0
theorem nbo_9 : ∀ o, o < 4 → nbo (o + 1) * 9 = nbo o := by decide
theorem nbo_rng : ∀ o, o ≤ 4 → 60 ≤ nbo o ∧ nbo o ≤ 393660 := by decide
theorem wl_15 : ∀ k, k < 20 → 15 ≤ k → 4 ≤ (wl k).length := by decide +kernel
theorem wl_20 : (wl 20).length = 5 := by decide +kernel
theorem isSt_W {b : Nat → Int} {L j : Nat} (h : isSt (kT b L) (kV b L) j) : tp b L j + 4 ≤ tp b L (j + 1) := by
  have h1 := tp_word (w := kV b L j) ⟨by have := h.2.1; omega, by have := h.2.2; omega⟩ ⟨h.1, rfl⟩
  have h2 := wl_15 (kV b L j).toNat (by have := h.2.2; omega) (by have := h.2.1; omega)
  omega
/-- one step, the class -/
theorem sp_xstep {d n L j z l : Nat} {σ0 σ : ev_S} {b W : Nat → Int} {Q : Option ev_V → ev_S → Prop} (hN : EN b L n) (hM : xw b L n σ0 z W l σ j) (hs : isSt (kT b L) (kV b L) j) (hz : z + l ≤ 180000000) (h : pnum (kT b L) (kV b L) 1 60 (j + 1) (fun k i => ∀ σ', FX b L σ0 k i σ' → Q (some (ev_i 0)) σ') (fun v => pis (isS (kT b L) (kV b L) 59 (j + 2)) (j + 2) (fun k i => ∀ σ', FX b L σ0 k i σ' → Q (some (ev_i 0)) σ') (∀ σ', xw b L n σ0 z (wcat W l (fun _ => kV b L j - 15)) (l + v.toNat) σ' (j + 3) → Q (some (ev_i 1)) σ'))) : Ev layX M_X8_readStep (d + 2) 0 [(0, ev_r 137)] [] σ Q := by
  have hn4 := hN.1
  have hjn : j < n := EN_lt hN (by rw [hs.1]; omega)
  have m1 := xw_adv (i := j + 1) hM
  refine wp_X8_readStep_0 (sp_advance hN hM.1 (by omega) (sp_takeNumber hN m1.1 (by omega) (pnum_mono (fun k hk e => ev_pi_mk ⟨fun _ => e _ (xw_ft m1), fun q => absurd rfl q⟩) (fun v t r hK => ev_pi_mk ⟨fun q => absurd q (by omega), fun _ => ?_⟩) h)))
  have n1 := is3_n hN t
  have m2 := xw_adv (i := j + 2) m1
  refine sp_takesS (c := 59) hN m2.1 (by omega) (by omega) (by rfl) (pis_mono Iff.rfl (fun e => ev_pi_mk ⟨fun q => absurd rfl q, fun _ => e _ (xw_ft m2)⟩) (fun w e => ev_pi_mk ⟨fun _ => ?_, fun q => absurd q (by omega)⟩) hK)
  have m3 := xw_adv (i := j + 2 + 1) m2
  rw [m3.2.2.2.1, hM.1.2.1, kk_stv hs]
  obtain ⟨k, rfl⟩ := Int.eq_ofNat_of_zero_le (show 0 ≤ v by omega)
  rw [Int.toNat_natCast] at e
  exact sp_xstep39 (b := b) (L := L) (n := n) (σ0 := σ0) (j := j + 3) (W := W) (by omega) e k 0 (by omega) _ m3 (fun q hq => absurd hq (by omega))
/-- one step, the model -/
theorem sp_mstep {d L j q l o : Nat} {s0 s : ev_S} {b O C : Nat → Int} {Q : Option ev_V → ev_S → Prop} (hM : mw b L s0 q O C l o s j) (hs : isSt (kT b L) (kV b L) j) (hq : q + l < 100) (h : pnum (kT b L) (kV b L) 1 60 (j + 1) (fun k i => ∀ s', FM b L s0 k i s' → Q (some (ev_i (-1))) s') (fun v => pis (isS (kT b L) (kV b L) 59 (j + 2)) (j + 2) (fun k i => ∀ s', FM b L s0 k i s' → Q (some (ev_i (-1))) s') (∀ s', mw b L s0 q (rup O l (kV b L j - 15)) (rup C l v) (l + 1) o s' (j + 3) → Q (some (ev_i 0)) s'))) : Ev layM M_X12_readStep (d + 4) 0 [(0, ev_r 0)] [] s Q := by
  have e23 := hM.1.2.2.2.1 (by rw [hs.1]; omega)
  have hv := hs.2
  refine wp_X12_readStep_0 (sp_rd hM.1 (fun s1 y1 y2 => ?_))
  have m1 := mw_rd hM y1 y2
  rw [e23, ev_sub_eq ⟨by omega, by omega⟩]
  refine sp_readNumber m1.1 (pnum_mono (fun k hk e => ev_pi_mk ⟨fun _ => e _ (FM_ers m1.2.1), fun w => absurd rfl w⟩) (fun v t r hK s2 y3 y4 => ev_pi_mk ⟨fun w => absurd w (by omega), fun _ => ?_⟩) h)
  have m2 := mw_rd m1 y3 y4
  refine sp_readMark m2.1 (pis_mono Iff.rfl (fun e => ev_pi_mk ⟨fun w => absurd rfl w, fun _ => e _ (FM_ers m2.2.1)⟩) (fun w e s3 y5 y6 => ev_pi_mk ⟨fun _ => sp_emitsStep (mw_rd m2 y5 y6) hq (fun s' hm => e s' hm), fun w => absurd w (by omega)⟩) hK)
theorem mw_row {b : Nat → Int} {L q l o j : Nat} {s0 s : ev_S} {O C O' C' : Nat → Int} (h : mw b L s0 q O C l o s j) (e : ∀ i, i < l → O' i = O i ∧ C' i = C i) : mw b L s0 q O' C' l o s j := ⟨h.1, h.2.1, h.2.2.1, h.2.2.2.1, h.2.2.2.2.1, fun i hi => by rw [(e i hi).1, (e i hi).2]; exact h.2.2.2.2.2 i hi⟩
theorem xw_row {b : Nat → Int} {L n z l j : Nat} {σ0 σ : ev_S} {W W' : Nat → Int} (h : xw b L n σ0 z W l σ j) (e : ∀ i, i < l → W' i = W i) : xw b L n σ0 z W' l σ j := ⟨h.1, h.2.1, h.2.2.1, h.2.2.2.1, h.2.2.2.2.1, fun i a c => by rw [e i a]; exact h.2.2.2.2.2 i a c⟩
theorem wcat3 {A B C : Nat → Int} {l m i : Nat} : wcat A l (wcat B m C) i = wcat (wcat A l B) (l + m) C i := by
  unfold wcat
  by_cases a : i < l
  · rw [if_pos a, if_pos (by omega), if_pos a]
  · rw [if_neg a]
    by_cases c : i - l < m
    · rw [if_pos c, if_pos (by omega), if_neg a]
    · rw [if_neg c, if_neg (by omega), show i - l - m = i - (l + m) by omega]
theorem rup_cat {A B : Nat → Int} {l i : Nat} {x : Int} (h : i < l + 1) (e : B 0 = x) : wcat A l B i = rup A l x i := by
  unfold wcat rup
  by_cases a : i = l
  · rw [if_neg (by omega), if_pos a, a, show l - l = 0 by omega]; exact e
  · rw [if_pos (by omega), if_neg a]
def stX (b : Nat → Int) (L n j o : Nat) (k i : Nat) : Prop := ∀ (d : Nat) (σ0 σ : ev_S) (a z : Nat) (W : Nat → Int) (l : Nat) (Q : Option ev_V → ev_S → Prop), 14 ≤ d + 2 * o → xw b L n σ0 z W l σ j → z + l ≤ 393660 * j → a ≤ j → (∀ σ', FX b L σ0 k i σ' → Q (some (ev_i 0)) σ') → Ev layX M_X8_readSteps d 4 [(0, ev_r 137), (1, ev_i (o : Int)), (2, ev_i 1), (3, ev_i (a : Int))] [] σ Q
def stM (b : Nat → Int) (L j o : Nat) (k i : Nat) : Prop := ∀ (d : Nat) (s0 s : ev_S) (q : Nat) (O C : Nat → Int) (l : Nat) (Q : Option ev_V → ev_S → Prop), mw b L s0 q O C l o s j → 4 * (q + l) + 3 * o ≤ tp b L j → (∀ s', FM b L s0 k i s' → Q (some (ev_i (-1))) s') → Ev layM M_X12_readSteps (d + 6) 5 [(0, ev_r 0)] [] s Q
def okX (b : Nat → Int) (L n j o j' : Nat) (W' : Nat → Int) (lw : Nat) : Prop := ∀ (d : Nat) (σ0 σ : ev_S) (a z : Nat) (W : Nat → Int) (l : Nat) (Q : Option ev_V → ev_S → Prop), 14 ≤ d + 2 * o → xw b L n σ0 z W l σ j → z + l ≤ 393660 * j → a ≤ j → (∀ σ', xw b L n σ0 z (wcat W l W') (l + lw) σ' j' → Q (some (ev_i 1)) σ') → Ev layX M_X8_readSteps d 4 [(0, ev_r 137), (1, ev_i (o : Int)), (2, ev_i 1), (3, ev_i (a : Int))] [] σ Q
def okM (b : Nat → Int) (L j o j' : Nat) (O' C' : Nat → Int) (lc : Nat) : Prop := ∀ (d : Nat) (s0 s : ev_S) (q : Nat) (O C : Nat → Int) (l : Nat) (Q : Option ev_V → ev_S → Prop), mw b L s0 q O C l o s j → 4 * (q + l) + 3 * o ≤ tp b L j → (∀ s', mw b L s0 q (wcat O l O') (wcat C l C') (l + lc) o s' j' → Ev layM M_X12_readSteps (d + 6) 5 [(0, ev_r 0)] [] s' Q) → Ev layM M_X12_readSteps (d + 6) 5 [(0, ev_r 0)] [] s Q
theorem xexit {d n L j o : Nat} {b : Nat → Int} {σ : ev_S} {a : Nat} {r : Int} {Q : Option ev_V → ev_S → Prop} (hd : 1 ≤ d) (hr : r = 0 ∨ (r = 1 ∧ AX b L n σ j ∧ ¬ isSt (kT b L) (kV b L) j ∧ ¬ isW (kT b L) (kV b L) 20 j)) (h : Q (some (ev_i r)) σ) : Ev layX M_X8_readSteps d 4 [(0, ev_r 137), (1, ev_i (o : Int)), (2, ev_i r), (3, ev_i (a : Int))] [] σ Q := by
  obtain ⟨e, rfl⟩ : ∃ e, d = e + 1 := ⟨d - 1, by omega⟩
  refine wp_X8_readSteps_4 ?_
  rcases hr with rfl | ⟨rfl, hA, n1, n2⟩
  · exact ⟨fun _ => ⟨Or.inl rfl, h⟩, fun _ => ⟨fun _ => ⟨Or.inl rfl, h⟩, fun q => absurd rfl q⟩⟩
  · refine ⟨fun _ => ⟨Or.inr rfl, h⟩, fun _ => ⟨fun q => absurd q (by omega), fun _ => ⟨fun _ => ⟨Or.inr rfl, h⟩, fun q => ?_⟩⟩⟩
    rw [hA.2.1] at q
    rcases kk_step.mp q with w | w
    · exact absurd w n1
    · exact absurd w n2
/-- again, the class -/
def AG (d z l : Nat) (v : Int) (Q : Option ev_V → ev_S → Prop) : Option ev_V → ev_S → Prop := ev_pi (fun r7 s6 => ((r7 = 0 → Q (some (ev_i 0)) s6) ∧ (r7 ≠ 0 → (Ev layX M_X8_takes (d + 4) 0 [(0, ev_r 137), (1, ev_i 141)] [] s6 (ev_pi (fun r9 s8 => ((r9 ≠ 0 → (∀ s10, ev_up s8 137 3 (ev_add ((z + l : Nat) : Int) (ev_mul v (ev_sub (s8 137 3) ((z + l : Nat) : Int)))) = s10 → Ev layX M_X8_readAgain (d + 5) 89 [(0, ev_r 137), (4, ev_i (ev_sub (s8 137 3) ((z + l : Nat) : Int))), (5, ev_i (ev_add ((z + l : Nat) : Int) (ev_sub (s8 137 3) ((z + l : Nat) : Int))))] [] s10 Q)) ∧ (r9 = 0 → Q (some (ev_i 0)) s8))))))))
theorem sp_xagain {d n L j z l o : Nat} {σ0 σ : ev_S} {b W : Nat → Int} {Q : Option ev_V → ev_S → Prop} (hN : EN b L n) (hM : xw b L n σ0 z W l σ j) (hjn : j < n) (ho : o < 4) (h : pnum (kT b L) (kV b L) 1 9 (j + 1) (fun k i => ∀ σ', FX b L σ0 k i σ' → Q (some (ev_i 0)) σ') (fun v => pis (isS (kT b L) (kV b L) 40 (j + 2)) (j + 2) (fun k i => ∀ σ', FX b L σ0 k i σ' → Q (some (ev_i 0)) σ') (∀ σ4, xw b L n σ0 z W l σ4 (j + 3) → Ev layX M_X8_readSteps (d + 4) 4 [(0, ev_r 137), (1, ev_i ((o + 1 : Nat) : Int)), (2, ev_i 1), (3, ev_i ((0 : Nat) : Int))] [] σ4 (AG d z l v Q)))) : Ev layX M_X8_readAgain (d + 5) 0 [(0, ev_r 137), (1, ev_i (o : Int))] [] σ Q := by
  have hn4 := hN.1
  have m1 := xw_adv (i := j + 1) hM
  refine wp_X8_readAgain_0 ⟨fun _ => sp_advance hN hM.1 (by omega) (sp_takeNumber hN m1.1 (by omega) (pnum_mono (fun k hk e => ev_pi_mk ⟨fun _ => e _ (xw_ft m1), fun q => absurd rfl q⟩) (fun v t r hK => ev_pi_mk ⟨fun q => absurd q (by omega), fun _ => ?_⟩) h)), fun q => absurd q (by omega)⟩
  have n1 := is3_n hN t
  have m2 := xw_adv (i := j + 1 + 1) m1
  refine sp_takesS (c := 40) hN m2.1 (by omega) (by omega) (by rfl) (pis_mono Iff.rfl (fun e => ev_pi_mk ⟨fun _ => e _ (xw_ft m2), fun q => absurd rfl q⟩) (fun w e => ev_pi_mk ⟨fun q => absurd q (by omega), fun _ => ?_⟩) hK)
  have m3 := xw_adv (i := j + 2 + 1) m2
  rw [m2.2.2.2.1, ev_add_eq (x := (o : Int)) (y := 1) ⟨by omega, by omega⟩]
  exact wp_X8_readSteps_0 (e _ m3)
theorem sp_magain {d L j q l o : Nat} {s0 s : ev_S} {b O C : Nat → Int} {Q : Option ev_V → ev_S → Prop} (hM : mw b L s0 q O C l o s j) (ho : o < 4) (hq : q + l < 100) (h : pnum (kT b L) (kV b L) 1 9 (j + 1) (fun k i => ∀ s', FM b L s0 k i s' → Q (some (ev_i (-1))) s') (fun v => pis (isS (kT b L) (kV b L) 40 (j + 2)) (j + 2) (fun k i => ∀ s', FM b L s0 k i s' → Q (some (ev_i (-1))) s') (∀ s', mw b L s0 q (rup O l 5) (rup C l v) (l + 1) (o + 1) s' (j + 3) → Q (some (ev_i 0)) s'))) : Ev layM M_X12_readAgain (d + 4) 0 [(0, ev_r 0)] [] s Q := by
  refine wp_X12_readAgain_0 ?_
  rw [hM.2.2.1, ev_add_eq ⟨by omega, by omega⟩, show (o : Int) + 1 = ((o + 1 : Nat) : Int) by omega]
  refine ⟨fun _ => ?_, fun w => absurd w (by omega)⟩
  rintro _ rfl
  have m0 := mw_open (o' := o + 1) hM
  refine sp_rd m0.1 (fun s1 y1 y2 => ?_)
  have m1 := mw_rd m0 y1 y2
  refine sp_readNumber m1.1 (pnum_mono (fun k hk e => ev_pi_mk ⟨fun _ => e _ (FM_ers m1.2.1), fun w => absurd rfl w⟩) (fun v t r hK s2 y3 y4 => ev_pi_mk ⟨fun w => absurd w (by omega), fun _ => ?_⟩) h)
  have m2 := mw_rd m1 y3 y4
  refine sp_readMark m2.1 (pis_mono Iff.rfl (fun e => ev_pi_mk ⟨fun w => absurd rfl w, fun _ => e _ (FM_ers m2.2.1)⟩) (fun w e s3 y5 y6 => ev_pi_mk ⟨fun _ => sp_emitsStep (mw_rd m2 y5 y6) hq (fun s' hm => e s' hm), fun w => absurd w (by omega)⟩) hK)
theorem sp_magainEnd {d L j q l o : Nat} {s0 s : ev_S} {b O C : Nat → Int} {Q : Option ev_V → ev_S → Prop} (hM : mw b L s0 q O C l (o + 1) s j) (ho : o < 4) (hq : q + l < 100) (h : ∀ s', mw b L s0 q (rup O l 6) (rup C l 0) (l + 1) o s' (j + 1) → Q (some (ev_i 0)) s') : Ev layM M_X12_readAgainEnd (d + 4) 0 [(0, ev_r 0)] [] s Q := by
  refine wp_X12_readAgainEnd_0 ?_
  rw [hM.2.2.1, ev_sub_eq ⟨by omega, by omega⟩, show ((o + 1 : Nat) : Int) - 1 = (o : Int) by omega]
  rintro _ rfl
  have m0 := mw_open (o' := o) hM
  exact sp_rd m0.1 (fun s1 y1 y2 => sp_emitsStep (mw_rd m0 y1 y2) hq h)
theorem both_steps {b : Nat → Int} {L n : Nat} (hN : EN b L n) : ∀ m j o : Nat, n ≤ j + m → j ≤ n → o ≤ 4 → (∃ k i, stX b L n j o k i ∧ stM b L j o k i) ∨ (∃ (j' : Nat) (O' C' : Nat → Int) (lc : Nat) (W' : Nat → Int) (lw : Nat), j ≤ j' ∧ j' ≤ n ∧ ¬ isSt (kT b L) (kV b L) j' ∧ ¬ isW (kT b L) (kV b L) 20 j' ∧ lw ≤ (j' - j) * nbo o ∧ LAY b L o O' C' lc W' lw ∧ 4 * lc + tp b L j ≤ tp b L j' ∧ (∀ i, i < lw → 0 ≤ W' i ∧ W' i ≤ 4) ∧ okX b L n j o j' W' lw ∧ okM b L j o j' O' C' lc) := by
  have hn4 := hN.1
  have hL4 := hN.2.1
  have tpL : ∀ j, tp b L j ≤ 400 := fun j => by have := (tp_prop (b := b) (L := L) j).1; omega
  have stop : ∀ j o : Nat, o ≤ 4 → j ≤ n → ¬ isSt (kT b L) (kV b L) j → ¬ isW (kT b L) (kV b L) 20 j → ∃ (j' : Nat) (O' C' : Nat → Int) (lc : Nat) (W' : Nat → Int) (lw : Nat), j ≤ j' ∧ j' ≤ n ∧ ¬ isSt (kT b L) (kV b L) j' ∧ ¬ isW (kT b L) (kV b L) 20 j' ∧ lw ≤ (j' - j) * nbo o ∧ LAY b L o O' C' lc W' lw ∧ 4 * lc + tp b L j ≤ tp b L j' ∧ (∀ i, i < lw → 0 ≤ W' i ∧ W' i ≤ 4) ∧ okX b L n j o j' W' lw ∧ okM b L j o j' O' C' lc := by
    intro j o ho hj n1 n2
    refine ⟨j, fun _ => 0, fun _ => 0, 0, fun _ => 0, 0, Nat.le_refl _, hj, n1, n2, Nat.zero_le _, LAY_nil, by omega, fun i hi => absurd hi (by omega), fun d σ0 σ a z W l Q hd hx hz ha hq => xexit (by omega) (Or.inr ⟨rfl, hx.1, n1, n2⟩) (hq σ (xw_row hx (fun i hi => wcat_lt (by omega)))), fun d s0 s q O C l Q hm ht hq => hq s (mw_row hm (fun i hi => ⟨wcat_lt (by omega), wcat_lt (by omega)⟩))⟩
  intro m
  induction m with
  | zero =>
    intro j o hm hj ho
    have h0 := (EN_ge hN (j := j) (by omega)).2
    exact Or.inr (stop j o ho hj (fun w => by have := w.1; omega) (fun w => by have := w.1; omega))
  | succ m ih =>
    intro j o hm hj ho
    have hnb := nbo_rng o ho
    by_cases st : isSt (kT b L) (kV b L) j
    · have hjn : j < n := EN_lt hN (by rw [st.1]; omega)
      have hv := st.2
      have t1 := isSt_W st
      have ek := kk_stv st
      have xs : ∀ (d : Nat) (σ : ev_S) (a : Nat) (Q : Option ev_V → ev_S → Prop), AX b L n σ j → a ≤ j → Ev layX M_X8_readStep (d + 5) 0 [(0, ev_r 137)] [] σ (ev_pi (fun r2 s1 => Ev layX M_X8_readSteps (d + 6) 4 [(0, ev_r 137), (1, ev_i (o : Int)), (2, ev_i r2), (3, ev_i ((a + 1 : Nat) : Int))] [] s1 Q)) → Ev layX M_X8_readSteps (d + 6) 4 [(0, ev_r 137), (1, ev_i (o : Int)), (2, ev_i 1), (3, ev_i (a : Int))] [] σ Q := by
        intro d σ a Q hA ha hk
        refine wp_X8_readSteps_4 ?_
        rw [hA.2.1, ek, ev_add_eq ⟨by omega, by omega⟩]
        exact ⟨fun w => absurd w (by omega), fun _ => ⟨fun w => absurd w (by omega), fun _ => ⟨fun w => absurd w (by omega), fun _ => ⟨fun _ => hk, fun w => absurd w (by omega)⟩⟩⟩⟩
      have ms : ∀ (d : Nat) (s : ev_S) (Q : Option ev_V → ev_S → Prop), AM b L s j → Ev layM M_X12_readStep (d + 5) 0 [(0, ev_r 0)] [] s (ev_pi (fun r10 s9 => ((r10 ≠ (-1) → Ev layM M_X12_readSteps (d + 6) 5 [(0, ev_r 0)] [] s9 Q) ∧ (r10 = (-1) → Q (some (ev_i (-1))) s9)))) → Ev layM M_X12_readSteps (d + 6) 5 [(0, ev_r 0)] [] s Q := by
        intro d s Q hA hk
        exact wp_X12_readSteps_5 (sp_isStep hA (fun _ => ev_pi_mk ⟨fun _ => wp_X12_readSteps_37 (sp_isStep hA (fun _ => ev_pi_mk ⟨fun w => absurd w (by omega), fun _ => hk⟩) (fun w => absurd st w)), fun w => absurd w (by omega)⟩) (fun w => absurd st w))
      have err : ∀ k i, (∀ (E : Nat → Nat → Prop) (K : Prop → Prop), True) → (∀ (E : Nat → Nat → Prop) (K : Int → Prop), E k i → pnum (kT b L) (kV b L) 1 60 (j + 1) E (fun v => pis (isS (kT b L) (kV b L) 59 (j + 2)) (j + 2) E (K v))) → stX b L n j o k i ∧ stM b L j o k i := by
        intro k i _ hp
        refine ⟨fun d σ0 σ a z W l Q hd hx hz ha hq => ?_, fun d s0 s q O C l Q hm ht hq => ms d s Q hm.1 (sp_mstep hm st (by have := tpL (j + 1); omega) (hp _ _ (fun s' hF => ev_pi_mk ⟨fun w => absurd rfl w, fun _ => hq s' hF⟩)))⟩
        obtain ⟨e, rfl⟩ : ∃ e, d = e + 6 := ⟨d - 6, by omega⟩
        exact xs e σ a Q hx.1 ha (sp_xstep hN hx st (by omega) (hp _ _ (fun σ' hF => ev_pi_mk (xexit (b := b) (L := L) (n := n) (j := j) (by omega) (Or.inl rfl) (hq σ' hF)))))
      rcases pnum_ex (kT b L) (kV b L) 1 60 (j + 1) with ⟨k, -, hp⟩ | ⟨t3, r3, hp⟩
      · exact Or.inl ⟨k, j + 1, err k (j + 1) (fun _ _ => trivial) (fun E K e => hp _ _ e)⟩
      rcases pis_ex (isS (kT b L) (kV b L) 59 (j + 2)) (j + 2) with hp2 | ⟨w2, hp2⟩
      · exact Or.inl ⟨1, j + 2, err 1 (j + 2) (fun _ _ => trivial) (fun E K e => hp _ _ (hp2 _ _ e))⟩
      have n2 := isS_n hN w2
      have t2 : tp b L (j + 1) + 1 ≤ tp b L (j + 2) ∧ tp b L (j + 2) ≤ L := tp_tok (b := b) (L := L) (j := j + 1) (by rw [t3]; omega)
      have t4 : tp b L (j + 2) + 1 ≤ tp b L (j + 3) ∧ tp b L (j + 3) ≤ L := tp_tok (b := b) (L := L) (j := j + 2) (by rw [w2.1]; omega)
      have hp3 : ∀ (E : Nat → Nat → Prop) (K : Int → Prop), K (kV b L (j + 1)) → pnum (kT b L) (kV b L) 1 60 (j + 1) E (fun v => pis (isS (kT b L) (kV b L) 59 (j + 2)) (j + 2) E (K v)) := fun E K e => hp _ _ (hp2 _ _ e)
      obtain ⟨v, ev⟩ := Int.eq_ofNat_of_zero_le (show 0 ≤ kV b L (j + 1) by omega)
      rw [ev] at hp3 r3
      have lays := LAY_step (b := b) (L := L) (o := o) (x := kV b L j - 15) (k := v) (by omega) (by omega)
      rcases ih (j + 3) o (by omega) (by omega) ho with ⟨k, i, hx, hm2⟩ | ⟨j', O', C', lc, W', lw, g1, g2, g3, g4, g5, g6, g7, g8, hx, hm2⟩
      · refine Or.inl ⟨k, i, fun d σ0 σ a z W l Q hd hxx hz ha hq => ?_, fun d s0 s q O C l Q hm ht hq => ms d s Q hm.1 (sp_mstep hm st (by have := tpL (j + 1); omega) (hp3 _ _ (fun s' hm3 => ev_pi_mk ⟨fun _ => hm2 d s0 s' q _ _ _ Q hm3 (by omega) hq, fun w => absurd w (by omega)⟩)))⟩
        obtain ⟨e, rfl⟩ : ∃ e, d = e + 6 := ⟨d - 6, by omega⟩
        refine xs e σ a Q hxx.1 ha (sp_xstep hN hxx st (by omega) (hp3 _ _ (fun σ' hx2 => ev_pi_mk (hx (e + 6) σ0 σ' (a + 1) z _ _ Q hd hx2 ?_ (by omega) hq))))
        rw [Int.toNat_natCast]; omega
      · refine Or.inr ⟨j', wcat (fun _ => kV b L j - 15) 1 O', wcat (fun _ => (v : Int)) 1 C', 1 + lc, wcat (fun _ => kV b L j - 15) v W', v + lw, by omega, g2, g3, g4, ?_, LAY_cat lays g6, by omega, fun i hi => ?_, fun d σ0 σ a z W l Q hd hxx hz ha hq => ?_, fun d s0 s q O C l Q hm ht hq => ms d s Q hm.1 (sp_mstep hm st (by have := tpL (j + 1); omega) (hp3 _ _ (fun s' hm3 => ev_pi_mk ⟨fun _ => hm2 d s0 s' q _ _ _ Q hm3 (by omega) (fun s'' hm4 => hq s'' (mw_row (by rw [show l + (1 + lc) = l + 1 + lc by omega]; exact hm4) (fun i hi => ?_))), fun w => absurd w (by omega)⟩)))⟩
        · have e : (j' - j) * nbo o = 3 * nbo o + (j' - (j + 3)) * nbo o := by rw [← Nat.add_mul]; congr 1; omega
          omega
        · by_cases c : i < v
          · rw [wcat_lt c]; omega
          · obtain ⟨u, rfl⟩ : ∃ u, i = v + u := ⟨i - v, by omega⟩
            rw [wcat_ge]; exact g8 u (by omega)
        · obtain ⟨e, rfl⟩ : ∃ e, d = e + 6 := ⟨d - 6, by omega⟩
          refine xs e σ a Q hxx.1 ha (sp_xstep hN hxx st (by omega) (hp3 _ _ (fun σ' hx2 => ev_pi_mk ?_)))
          rw [Int.toNat_natCast] at hx2
          refine hx (e + 6) σ0 σ' (a + 1) z _ _ Q hd hx2 (by omega) (by omega) (fun σ'' hx3 => hq σ'' (xw_row (by rw [show l + (v + lw) = l + v + lw by omega]; exact hx3) (fun i hi => wcat3)))
        · constructor
          · rw [wcat3]
            unfold wcat
            by_cases c : i < l + 1
            · rw [if_pos c, if_pos c]
              exact rup_cat (A := O) (B := fun _ => kV b L j - 15) c rfl
            · rw [if_neg c, if_neg c]
          · rw [wcat3]
            unfold wcat
            by_cases c : i < l + 1
            · rw [if_pos c, if_pos c]
              exact rup_cat (A := C) (B := fun _ => (v : Int)) c rfl
            · rw [if_neg c, if_neg c]
    · by_cases ag : isW (kT b L) (kV b L) 20 j
      · have hjn := isW_n hN ag
        have t1 : tp b L j + 5 ≤ tp b L (j + 1) := by have := tp_word (w := 20) (by omega) ag; rw [show Int.toNat 20 = 20 from rfl, wl_20] at this; exact this
        have ek : kk b L j = 5 := (kk_word (w := 20) (by omega)).mpr ag
        have xs : ∀ (d : Nat) (σ : ev_S) (a : Nat) (Q : Option ev_V → ev_S → Prop), AX b L n σ j → a ≤ j → Ev layX M_X8_readAgain (d + 5) 0 [(0, ev_r 137), (1, ev_i (o : Int))] [] σ (ev_pi (fun r2 s1 => Ev layX M_X8_readSteps (d + 6) 4 [(0, ev_r 137), (1, ev_i (o : Int)), (2, ev_i r2), (3, ev_i ((a + 1 : Nat) : Int))] [] s1 Q)) → Ev layX M_X8_readSteps (d + 6) 4 [(0, ev_r 137), (1, ev_i (o : Int)), (2, ev_i 1), (3, ev_i (a : Int))] [] σ Q := by
          intro d σ a Q hA ha hk
          refine wp_X8_readSteps_4 ?_
          rw [hA.2.1, ek, ev_add_eq ⟨by omega, by omega⟩]
          exact ⟨fun w => absurd w (by omega), fun _ => ⟨fun w => absurd w (by omega), fun _ => ⟨fun w => absurd w (by omega), fun _ => ⟨fun w => absurd rfl w, fun _ => hk⟩⟩⟩⟩
        have ms : ∀ (d : Nat) (s : ev_S) (Q : Option ev_V → ev_S → Prop), AM b L s j → Ev layM M_X12_readAgain (d + 5) 0 [(0, ev_r 0)] [] s (ev_pi (fun r10 s9 => ((r10 ≠ (-1) → Ev layM M_X12_readSteps (d + 6) 5 [(0, ev_r 0)] [] s9 Q) ∧ (r10 = (-1) → Q (some (ev_i (-1))) s9)))) → Ev layM M_X12_readSteps (d + 6) 5 [(0, ev_r 0)] [] s Q := by
          intro d s Q hA hk
          exact wp_X12_readSteps_5 (sp_isStep hA (fun w => absurd w st) (fun _ => ev_pi_mk ⟨fun w => absurd rfl w, fun _ => sp_isWord hA (fun _ => ev_pi_mk ⟨fun _ => wp_X12_readSteps_37 (sp_isStep hA (fun w => absurd w st) (fun _ => ev_pi_mk ⟨fun _ => sp_isWord hA (fun _ => ev_pi_mk ⟨fun w => absurd w (by omega), fun _ => hk⟩) (fun w => absurd ag w), fun w => absurd rfl w⟩)), fun w => absurd w (by omega)⟩) (fun w => absurd ag w)⟩))
        by_cases o4 : o = 4
        · subst o4
          refine Or.inl ⟨3, j, fun d σ0 σ a z W l Q hd hx hz ha hq => ?_, fun d s0 s q O C l Q hm ht hq => ms d s Q hm.1 (wp_X12_readAgain_0 ?_)⟩
          · obtain ⟨e, rfl⟩ : ∃ e, d = e + 6 := ⟨d - 6, by omega⟩
            exact xs e σ a Q hx.1 ha (wp_X8_readAgain_0 ⟨fun w => absurd w (by omega), fun _ => sp_faulty (k := 3) hN hx.1 (ev_pi_mk ⟨Or.inl rfl, ev_pi_mk (xexit (b := b) (L := L) (n := n) (j := j) (by omega) (Or.inl rfl) (hq _ (xw_ft hx)))⟩)⟩)
          · rw [hm.2.2.1]
            exact ⟨fun w => absurd rfl w, fun _ => sp_errs (k := 3) hm.1 (ev_pi_mk (ev_pi_mk ⟨fun w => absurd rfl w, fun _ => hq _ (FM_ers hm.2.1)⟩))⟩
        · have ho4 : o < 4 := by omega
          have hnb9 := nbo_9 o ho4
          have err : ∀ k i, (∀ (E : Nat → Nat → Prop) (K : Int → Prop), E k i → pnum (kT b L) (kV b L) 1 9 (j + 1) E (fun v => pis (isS (kT b L) (kV b L) 40 (j + 2)) (j + 2) E (K v))) → stX b L n j o k i ∧ stM b L j o k i := by
            intro k i hp
            refine ⟨fun d σ0 σ a z W l Q hd hx hz ha hq => ?_, fun d s0 s q O C l Q hm ht hq => ms d s Q hm.1 (sp_magain hm ho4 (by have := tpL (j + 1); omega) (hp _ _ (fun s' hF => ev_pi_mk ⟨fun w => absurd rfl w, fun _ => hq s' hF⟩)))⟩
            obtain ⟨e, rfl⟩ : ∃ e, d = e + 6 := ⟨d - 6, by omega⟩
            exact xs e σ a Q hx.1 ha (sp_xagain hN hx hjn ho4 (hp _ _ (fun σ' hF => ev_pi_mk (xexit (b := b) (L := L) (n := n) (j := j) (by omega) (Or.inl rfl) (hq σ' hF)))))
          rcases pnum_ex (kT b L) (kV b L) 1 9 (j + 1) with ⟨k, -, hp⟩ | ⟨t3, r3, hp⟩
          · exact Or.inl ⟨k, j + 1, err k (j + 1) (fun E K e => hp _ _ e)⟩
          rcases pis_ex (isS (kT b L) (kV b L) 40 (j + 2)) (j + 2) with hp2 | ⟨w2, hp2⟩
          · exact Or.inl ⟨1, j + 2, err 1 (j + 2) (fun E K e => hp _ _ (hp2 _ _ e))⟩
          have n2 := isS_n hN w2
          have t2 : tp b L (j + 1) + 1 ≤ tp b L (j + 2) ∧ tp b L (j + 2) ≤ L := tp_tok (b := b) (L := L) (j := j + 1) (by rw [t3]; omega)
          have t4 : tp b L (j + 2) + 1 ≤ tp b L (j + 3) ∧ tp b L (j + 3) ≤ L := tp_tok (b := b) (L := L) (j := j + 2) (by rw [w2.1]; omega)
          have hp3 : ∀ (E : Nat → Nat → Prop) (K : Int → Prop), K (kV b L (j + 1)) → pnum (kT b L) (kV b L) 1 9 (j + 1) E (fun v => pis (isS (kT b L) (kV b L) 40 (j + 2)) (j + 2) E (K v)) := fun E K e => hp _ _ (hp2 _ _ e)
          obtain ⟨v, ev⟩ := Int.eq_ofNat_of_zero_le (show 0 ≤ kV b L (j + 1) by omega)
          rw [ev] at hp3 r3
          rcases ih (j + 3) (o + 1) (by omega) (by omega) (by omega) with ⟨k, i, hx, hm2⟩ | ⟨jb, Ob, Cb, lb, Wb, wb, g1, g2, g3, g4, g5, g6, g7, g8, hx, hm2⟩
          · refine Or.inl ⟨k, i, fun d σ0 σ a z W l Q hd hxx hz ha hq => ?_, fun d s0 s q O C l Q hm ht hq => ms d s Q hm.1 (sp_magain hm ho4 (by have := tpL (j + 1); omega) (hp3 _ _ (fun s' hm3 => ev_pi_mk ⟨fun _ => hm2 d s0 s' q _ _ _ Q hm3 (by omega) hq, fun w => absurd w (by omega)⟩)))⟩
            obtain ⟨e, rfl⟩ : ∃ e, d = e + 6 := ⟨d - 6, by omega⟩
            exact xs e σ a Q hxx.1 ha (sp_xagain hN hxx hjn ho4 (hp3 _ _ (fun σ4 hx4 => hx (e + 4) σ0 σ4 0 z W l _ (by omega) hx4 (by omega) (by omega) (fun σ' hF => ev_pi_mk ⟨fun _ => ev_pi_mk (xexit (b := b) (L := L) (n := n) (j := j) (by omega) (Or.inl rfl) (hq σ' hF)), fun w => absurd rfl w⟩))))
          · have h9 : 9 * wb ≤ (jb - (j + 3)) * nbo o := by
              have := Nat.mul_le_mul_right 9 g5
              rw [Nat.mul_assoc, hnb9] at this
              omega
            have h93 : (jb - (j + 3)) * nbo o ≤ (jb - (j + 3)) * 393660 := Nat.mul_le_mul_left _ hnb.2
            have htw : v * wb ≤ 9 * wb := Nat.mul_le_mul_right wb (by omega)
            have hvw : wb ≤ v * wb := Nat.le_mul_of_pos_left wb (by omega)
            by_cases wc : isS (kT b L) (kV b L) 41 jb
            · have nb := isS_n hN wc
              have t5 : tp b L jb + 1 ≤ tp b L (jb + 1) ∧ tp b L (jb + 1) ≤ L := tp_tok (b := b) (L := L) (j := jb) (by rw [wc.1]; omega)
              have xone : ∀ (d : Nat) (σ0 σ : ev_S) (z : Nat) (W : Nat → Int) (l : Nat) (Q : Option ev_V → ev_S → Prop), 14 ≤ d + 6 + 2 * o → xw b L n σ0 z W l σ j → z + l ≤ 393660 * j → (∀ σ', xw b L n σ0 z (wcat W l (wrep Wb wb)) (l + v * wb) σ' (jb + 1) → Q (some (ev_i 1)) σ') → Ev layX M_X8_readAgain (d + 5) 0 [(0, ev_r 137), (1, ev_i (o : Int))] [] σ Q := by
                intro d σ0 σ z W l Q hd hxx hz hq
                refine sp_xagain hN hxx hjn ho4 (hp3 _ _ (fun σ4 hx4 => hx (d + 4) σ0 σ4 0 z W l _ (by omega) hx4 (by omega) (by omega) (fun σ6 hx6 => ev_pi_mk ⟨fun w => absurd w (by omega), fun _ => sp_takesS (c := 41) hN hx6.1 (by omega) (by omega) (by rfl) ⟨fun w => absurd wc w, fun _ => ev_pi_mk ⟨fun _ => ?_, fun w => absurd w (by omega)⟩⟩⟩)))
                have m8 := xw_adv (i := jb + 1) hx6
                rw [m8.2.2.2.1, ev_sub_eq ⟨by omega, by omega⟩, show ((z + (l + wb) : Nat) : Int) - ((z + l : Nat) : Int) = (wb : Int) by omega, ev_mul_eq (by rw [← Int.natCast_mul]; omega), ← Int.natCast_mul, ev_add_eq ⟨by omega, by omega⟩, ev_add_eq (x := ((z + l : Nat) : Int)) (y := (wb : Int)) ⟨by omega, by omega⟩]
                rintro _ rfl
                refine sp_xagain89 (t := v) (k := wb) (B := Wb) (W := W) (b := b) (L := L) (n := n) (σ0 := σ0) (z := z) (l := l) (j := jb + 1) ⟨by omega, by omega⟩ (by omega) hq (v * wb - wb) 0 (by omega) _ ?_ ?_ (fun q h1 h2 => ?_)
                · refine xw_out m8 (ev_up_same _ _ _ _) (fun i2 h2 => (ev_up_ne _ _ (by omega)).trans (ev_up_ne _ _ (by omega))) (fun c c1 _ => (ev_upj _ _ c1).trans (ev_upj _ _ c1)) (fun i2 a c => (congrFun (ev_upj _ _ (by omega)) _).trans (congrFun (ev_upj _ _ (by omega)) _)) (fun i2 a c => ?_)
                  rw [ev_upj _ _ (by omega), ev_upj _ _ (by omega)]
                  have := m8.2.2.2.2.2 i2 (by omega) c
                  rw [wcat_lt a] at this; exact this
                · rw [ev_up_same]; omega
                · rw [ev_upj _ _ (by omega)]
                  have := m8.2.2.2.2.2 (l + q) (by omega) (by omega)
                  rw [wcat_ge] at this
                  rw [Nat.mod_eq_of_lt (by omega), show z + l + q = z + (l + q) by omega]; exact this
              have mone : ∀ (d : Nat) (s0 s : ev_S) (q : Nat) (O C : Nat → Int) (l : Nat) (Q : Option ev_V → ev_S → Prop), mw b L s0 q O C l o s j → 4 * (q + l) + 3 * o ≤ tp b L j → (∀ s', mw b L s0 q (wcat O l (wcat (fun _ => 5) 1 (wcat Ob lb (fun _ => 6)))) (wcat C l (wcat (fun _ => (v : Int)) 1 (wcat Cb lb (fun _ => 0)))) (l + (1 + (lb + 1))) o s' (jb + 1) → Ev layM M_X12_readSteps (d + 6) 5 [(0, ev_r 0)] [] s' Q) → Ev layM M_X12_readSteps (d + 6) 5 [(0, ev_r 0)] [] s Q := by
                intro d s0 s q O C l Q hm ht hq
                refine ms d s Q hm.1 (sp_magain hm ho4 (by have := tpL (j + 1); omega) (hp3 _ _ (fun s3 hm3 => ev_pi_mk ⟨fun _ => hm2 d s0 s3 q _ _ _ Q hm3 (by omega) (fun s4 hm4 => ?_), fun w => absurd w (by omega)⟩)))
                have hend : Ev layM M_X12_readAgainEnd (d + 5) 0 [(0, ev_r 0)] [] s4 (ev_pi (fun r6 s5 => ((r6 ≠ (-1) → Ev layM M_X12_readSteps (d + 6) 5 [(0, ev_r 0)] [] s5 Q) ∧ (r6 = (-1) → Q (some (ev_i (-1))) s5)))) := by
                  refine sp_magainEnd hm4 ho4 (by have := tpL (jb + 1); omega) (fun s5 hm5 => ev_pi_mk ⟨fun _ => hq s5 (mw_row (by rw [show l + (1 + (lb + 1)) = l + 1 + lb + 1 by omega]; exact hm5) (fun i hi => ?_)), fun w => absurd w (by omega)⟩)
                  constructor
                  · rw [wcat3, wcat3, rup_cat (A := wcat (wcat O l (fun _ => 5)) (l + 1) Ob) (B := fun _ => 6) (l := l + 1 + lb) (x := 6) (by omega) rfl]
                    unfold rup
                    by_cases c : i = l + 1 + lb
                    · rw [if_pos c, if_pos c]
                    · rw [if_neg c, if_neg c]
                      unfold wcat
                      by_cases c2 : i < l + 1
                      · rw [if_pos c2, if_pos c2]
                        exact rup_cat (A := O) (B := fun _ => 5) c2 rfl
                      · rw [if_neg c2, if_neg c2]
                  · rw [wcat3, wcat3, rup_cat (A := wcat (wcat C l (fun _ => (v : Int))) (l + 1) Cb) (B := fun _ => 0) (l := l + 1 + lb) (x := 0) (by omega) rfl]
                    unfold rup
                    by_cases c : i = l + 1 + lb
                    · rw [if_pos c, if_pos c]
                    · rw [if_neg c, if_neg c]
                      unfold wcat
                      by_cases c2 : i < l + 1
                      · rw [if_pos c2, if_pos c2]
                        exact rup_cat (A := C) (B := fun _ => (v : Int)) c2 rfl
                      · rw [if_neg c2, if_neg c2]
                refine wp_X12_readSteps_5 (sp_isStep hm4.1 (fun w => absurd w g3) (fun _ => ev_pi_mk ⟨fun w => absurd rfl w, fun _ => sp_isWord hm4.1 (fun w => absurd w g4) (fun _ => ev_pi_mk ⟨fun w => absurd rfl w, fun _ => ⟨fun w => absurd w (by rw [hm4.2.2.1]; omega), fun _ => sp_isSign hm4.1 (fun _ => ev_pi_mk ⟨fun w => absurd w (by omega), fun _ => wp_X12_readSteps_37 (sp_isStep hm4.1 (fun w => absurd w g3) (fun _ => ev_pi_mk ⟨fun _ => sp_isWord hm4.1 (fun w => absurd w g4) (fun _ => ev_pi_mk ⟨fun _ => hend, fun w => absurd rfl w⟩), fun w => absurd rfl w⟩))⟩) (fun w => absurd wc w)⟩⟩)⟩))
              have layA := LAY_again (b := b) (L := L) (o := o) (t := v) ho4 (by omega) g6
              rcases ih (jb + 1) o (by omega) (by omega) ho with ⟨k, i, hx5, hm5⟩ | ⟨j', O', C', lc, W', lw, f1, f2, f3, f4, f5, f6, f7, f8, hx5, hm5⟩
              · refine Or.inl ⟨k, i, fun d σ0 σ a z W l Q hd hxx hz ha hq => ?_, fun d s0 s q O C l Q hm ht hq => mone d s0 s q O C l Q hm ht (fun s' hm6 => hm5 d s0 s' q _ _ _ Q hm6 (by omega) hq)⟩
                obtain ⟨e, rfl⟩ : ∃ e, d = e + 6 := ⟨d - 6, by omega⟩
                exact xs e σ a Q hxx.1 ha (xone e σ0 σ z W l _ hd hxx hz (fun σ' hx6 => ev_pi_mk (hx5 (e + 6) σ0 σ' (a + 1) z _ _ Q hd hx6 (by omega) (by omega) hq)))
              · refine Or.inr ⟨j', wcat (wcat (fun _ => 5) 1 (wcat Ob lb (fun _ => 6))) (1 + (lb + 1)) O', wcat (wcat (fun _ => (v : Int)) 1 (wcat Cb lb (fun _ => 0))) (1 + (lb + 1)) C', 1 + (lb + 1) + lc, wcat (wrep Wb wb) (v * wb) W', v * wb + lw, by omega, f2, f3, f4, ?_, LAY_cat layA f6, by omega, fun i hi => ?_, fun d σ0 σ a z W l Q hd hxx hz ha hq => ?_, fun d s0 s q O C l Q hm ht hq => mone d s0 s q O C l Q hm ht (fun s' hm6 => hm5 d s0 s' q _ _ _ Q hm6 (by omega) (fun s'' hm7 => hq s'' (mw_row (by rw [show l + (1 + (lb + 1) + lc) = l + (1 + (lb + 1)) + lc by omega]; exact hm7) (fun i hi => ⟨wcat3, wcat3⟩))))⟩
                · have e : (j' - j) * nbo o = (jb - (j + 3)) * nbo o + ((j' - (jb + 1)) * nbo o + 4 * nbo o) := by rw [← Nat.add_mul, ← Nat.add_mul]; congr 1; omega
                  omega
                · by_cases c : i < v * wb
                  · rw [wcat_lt c]
                    have hw0 : 0 < wb := by
                      rcases Nat.eq_zero_or_pos wb with c0 | c0
                      · rw [c0, Nat.mul_zero] at c; omega
                      · exact c0
                    exact g8 (i % wb) (Nat.mod_lt _ hw0)
                  · obtain ⟨u, rfl⟩ : ∃ u, i = v * wb + u := ⟨i - v * wb, by omega⟩
                    rw [wcat_ge]; exact f8 u (by omega)
                · obtain ⟨e, rfl⟩ : ∃ e, d = e + 6 := ⟨d - 6, by omega⟩
                  exact xs e σ a Q hxx.1 ha (xone e σ0 σ z W l _ hd hxx hz (fun σ' hx6 => ev_pi_mk (hx5 (e + 6) σ0 σ' (a + 1) z _ _ Q hd hx6 (by omega) (by omega) (fun σ'' hx7 => hq σ'' (xw_row (by rw [show l + (v * wb + lw) = l + v * wb + lw by omega]; exact hx7) (fun i hi => wcat3))))))
            · refine Or.inl ⟨1, jb, fun d σ0 σ a z W l Q hd hxx hz ha hq => ?_, fun d s0 s q O C l Q hm ht hq => ms d s Q hm.1 (sp_magain hm ho4 (by have := tpL (j + 1); omega) (hp3 _ _ (fun s' hm3 => ev_pi_mk ⟨fun _ => hm2 d s0 s' q _ _ _ Q hm3 (by omega) (fun s4 hm4 => ?_), fun w => absurd w (by omega)⟩)))⟩
              · obtain ⟨e, rfl⟩ : ∃ e, d = e + 6 := ⟨d - 6, by omega⟩
                exact xs e σ a Q hxx.1 ha (sp_xagain hN hxx hjn ho4 (hp3 _ _ (fun σ4 hx4 => hx (e + 4) σ0 σ4 0 z W l _ (by omega) hx4 (by omega) (by omega) (fun σ' hx6 => ev_pi_mk ⟨fun w => absurd w (by omega), fun _ => sp_takesS (c := 41) hN hx6.1 (by omega) (by omega) (by rfl) ⟨fun _ => ev_pi_mk ⟨fun w => absurd rfl w, fun _ => ev_pi_mk (xexit (b := b) (L := L) (n := n) (j := j) (by omega) (Or.inl rfl) (hq _ (xw_ft hx6)))⟩, fun w => absurd w wc⟩⟩))))
              · have e82 : Ev layM M_X12_readSteps (d + 6) 82 [(0, ev_r 0)] [] s4 Q := by
                  refine wp_X12_readSteps_82 ?_
                  rw [hm4.2.2.1]
                  exact ⟨fun _ => sp_errs (k := 1) hm4.1 (ev_pi_mk (hq _ (FM_ers hm4.2.1))), fun w => absurd w (by omega)⟩
                exact wp_X12_readSteps_5 (sp_isStep hm4.1 (fun w => absurd w g3) (fun _ => ev_pi_mk ⟨fun w => absurd rfl w, fun _ => sp_isWord hm4.1 (fun w => absurd w g4) (fun _ => ev_pi_mk ⟨fun w => absurd rfl w, fun _ => ⟨fun w => absurd w (by rw [hm4.2.2.1]; omega), fun _ => sp_isSign hm4.1 (fun w => absurd w wc) (fun _ => ev_pi_mk ⟨fun _ => e82, fun w => absurd rfl w⟩)⟩⟩)⟩))
      · exact Or.inr (stop j o ho hj st ag)
end
