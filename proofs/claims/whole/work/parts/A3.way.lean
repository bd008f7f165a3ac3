section
/-! THE WAY: helpers -/
def isSt (T V : Nat → Int) (j : Nat) : Prop := T j = 2 ∧ 15 ≤ V j ∧ V j ≤ 19
theorem kk_step {b : Nat → Int} {L j : Nat} : kk b L j ≤ 5 ↔ (isSt (kT b L) (kV b L) j ∨ isW (kT b L) (kV b L) 20 j) := by
  have hko := kT_ok (b := b) (L := L) (j := j)
  unfold kk kdf isSt isW
  constructor
  · intro w
    split at w
    · omega
    · split at w
      · omega
      · split at w
        · split at w <;> omega
        · split at w <;> omega
  · intro w
    have e2 : kT b L j = 2 := by rcases w with w | w <;> exact w.1
    rw [e2, if_neg (by omega), if_neg (by omega), if_pos rfl, if_neg (by omega)]
    omega
theorem kk_stv {b : Nat → Int} {L j : Nat} (h : isSt (kT b L) (kV b L) j) : kk b L j = kV b L j - 15 := by
  unfold kk kdf
  rw [h.1, if_neg (by omega), if_neg (by omega), if_pos rfl, if_neg (by have := h.2; omega)]
/-- how far on a token is -/
theorem tp_tok {b : Nat → Int} {L j : Nat} (h : kT b L j ≠ 0) : tp b L j + 1 ≤ tp b L (j + 1) ∧ tp b L (j + 1) ≤ L := by
  have h1 := (tp_prop (b := b) (L := L) j).1
  have a := rn_prop (P := cBl) (b := b) (L := L) (L - tp b L j) (tp b L j) (by omega)
  have hF : kF b L j < L := by
    by_cases c : kF b L j < L
    · exact c
    · exact absurd (kT_0 (by have := kF_le (b := b) (L := L) j; omega)) h
  unfold kF at hF
  have e := tE_prop (b := b) hF
  simp only [tp]
  rw [if_pos hF]
  omega
theorem tp_word {b : Nat → Int} {L j : Nat} {w : Int} (hw : 0 ≤ w ∧ w ≤ 34) (h : isW (kT b L) (kV b L) w j) : tp b L j + (wl w.toNat).length ≤ tp b L (j + 1) := by
  obtain ⟨k, rfl⟩ := Int.eq_ofNat_of_zero_le hw.1
  rw [Int.toNat_natCast]
  have h1 := (tp_prop (b := b) (L := L) j).1
  have a := rn_prop (P := cBl) (b := b) (L := L) (L - tp b L j) (tp b L j) (by omega)
  have hF : kF b L j < L := by
    by_cases c : kF b L j < L
    · exact c
    · have := kT_0 (b := b) (L := L) (j := j) (by have := kF_le (b := b) (L := L) j; omega)
      have := h.1
      omega
  obtain ⟨h2, h3⟩ := h
  have hE : tE b L (kF b L j) = kF b L j + (wl k).length := by
    unfold kT tT at h2
    unfold kV tV at h3
    rw [if_neg (by omega)] at h2
    by_cases c1 : cLe (b (kF b L j)) = true
    · rw [if_pos c1] at h3
      by_cases ex : ∃ q, q < 35 ∧ wm b (kF b L j) (tE b L (kF b L j)) q
      · obtain ⟨q, q1, q2⟩ := ex
        rw [WV_eq q1 q2] at h3
        have : q = k := by omega
        subst this
        exact q2.1
      · rw [WV_no (fun q q1 q2 => ex ⟨q, q1, q2⟩)] at h3
        omega
    · rw [if_neg c1] at h2
      split at h2
      · split at h2 <;> omega
      · split at h2 <;> omega
  have e2 : tp b L (j + 1) = tE b L (kF b L j) := by
    simp only [tp]
    unfold kF at hF
    rw [if_pos hF]
    rfl
  rw [e2, hE]
  unfold kF
  omega
theorem sp_isStep {d L j : Nat} {s : ev_S} {b : Nat → Int} {Q : Option ev_V → ev_S → Prop} (hA : AM b L s j) (h1 : isSt (kT b L) (kV b L) j → Q (some (ev_i 1)) s) (h0 : ¬ isSt (kT b L) (kV b L) j → Q (some (ev_i 0)) s) : Ev layM M_X12_isStep (d + 1) 0 [(0, ev_r 0)] [] s Q := by
  refine wp_X12_isStep_0 ?_
  rw [hA.2.2.1]
  refine ⟨fun q => h0 (fun w => q w.1), fun q => ?_⟩
  rw [hA.2.2.2.1 (by omega)]
  refine sp_isIn (ev_pi_mk ?_)
  by_cases c : 15 ≤ kV b L j ∧ kV b L j ≤ 19
  · rw [if_pos c]
    exact ⟨fun q2 => absurd q2 (by omega), fun _ => h1 ⟨q, c⟩⟩
  · rw [if_neg c]
    exact ⟨fun _ => h0 (fun w => c w.2), fun q2 => absurd rfl q2⟩
/-- the model's codes so far -/
def mw (b : Nat → Int) (L : Nat) (s0 : ev_S) (q : Nat) (O C : Nat → Int) (l : Nat) (o : Nat) (s : ev_S) (j : Nat) : Prop := AM b L s j ∧ frW s0 s ∧ s 0 32 = (o : Int) ∧ s 0 41 = ((q + l : Nat) : Int) ∧ (∀ i, i < q → s 18 i = s0 18 i ∧ s 19 i = s0 19 i) ∧ ∀ i, i < l → s 18 (q + i) = O i ∧ s 19 (q + i) = C i
theorem mw_rd {b : Nat → Int} {L q l o j j' : Nat} {s0 s s' : ev_S} {O C : Nat → Int} (h : mw b L s0 q O C l o s j) (hA : AM b L s' j') (hr : rdf s s') : mw b L s0 q O C l o s' j' := by
  obtain ⟨h1, h2, h3, h4, h5, h6⟩ := h
  have e8 := hr.2 18 (by omega)
  have e9 := hr.2 19 (by omega)
  exact ⟨hA, frW_tr h2 (frW_rd hr), by rw [hr.1 32 (by omega) (by omega) (by omega) (by omega)]; exact h3, by rw [hr.1 41 (by omega) (by omega) (by omega) (by omega)]; exact h4, by rw [e8, e9]; exact h5, by rw [e8, e9]; exact h6⟩
theorem mw_open {b : Nat → Int} {L q l o o' j : Nat} {s0 s : ev_S} {O C : Nat → Int} (h : mw b L s0 q O C l o s j) : mw b L s0 q O C l o' (ev_up s 0 32 (o' : Int)) j := by
  obtain ⟨h1, h2, h3, h4, h5, h6⟩ := h
  exact ⟨AM_keep h1 (fun k _ _ => ev_up_ne _ _ (by omega)) (ev_upj _ _ (by omega)) (ev_upj _ _ (by omega)), frW_up0 h2 (by omega), ev_up_same _ _ _ _, by rw [ev_up_ne _ _ (by omega)]; exact h4, by rw [ev_upj _ _ (by omega), ev_upj _ _ (by omega)]; exact h5, by rw [ev_upj _ _ (by omega), ev_upj _ _ (by omega)]; exact h6⟩
theorem sp_emitsStep {d L q l o j : Nat} {s0 s : ev_S} {b O C : Nat → Int} {x y : Int} {Q : Option ev_V → ev_S → Prop} (h : mw b L s0 q O C l o s j) (hq : q + l < 100) (k : ∀ s', mw b L s0 q (rup O l x) (rup C l y) (l + 1) o s' j → Q none s') : Ev layM M_X12_emitsStep d 0 [(0, ev_r 0), (1, ev_i x), (2, ev_i y)] [] s Q := by
  obtain ⟨h1, h2, h3, h4, h5, h6⟩ := h
  refine wp_X12_emitsStep_0 ?_
  rw [h4, Int.toNat_natCast]
  refine ⟨by omega, ?_⟩
  rintro _ rfl
  rw [ev_upj _ _ (show (0 : Nat) ≠ 18 by omega), h4, Int.toNat_natCast]
  refine ⟨by omega, ?_⟩
  rintro _ rfl
  rw [ev_upj _ _ (show (0 : Nat) ≠ 19 by omega), ev_upj _ _ (show (0 : Nat) ≠ 18 by omega), h4, ev_add_eq ⟨by omega, by omega⟩]
  rintro _ rfl
  refine k _ ⟨AM_keep h1 (fun k _ _ => by rw [ev_up_ne _ _ (by omega), ev_upj _ _ (by omega), ev_upj _ _ (by omega)]) (by rw [ev_upj _ _ (by omega), ev_upj _ _ (by omega), ev_upj _ _ (by omega)]) (by rw [ev_upj _ _ (by omega), ev_upj _ _ (by omega), ev_upj _ _ (by omega)]), frW_up0 (frW_upc (frW_upc h2 (by omega)) (by omega)) (by omega), by rw [ev_up_ne _ _ (by omega), ev_upj _ _ (by omega), ev_upj _ _ (by omega)]; exact h3, by rw [ev_up_same]; omega, fun i hi => ⟨?_, ?_⟩, fun i hi => ?_⟩
  · rw [ev_upj _ _ (by omega), ev_upj _ _ (by omega), ev_up_ne _ _ (by omega)]; exact (h5 i hi).1
  · rw [ev_upj _ _ (by omega), ev_up_ne _ _ (by omega), ev_upj _ _ (by omega)]; exact (h5 i hi).2
  · by_cases e : i = l
    · rw [e, rup_same, rup_same]
      exact ⟨by rw [ev_upj _ _ (by omega), ev_upj _ _ (by omega), ev_up_same], by rw [ev_upj _ _ (by omega), ev_up_same]⟩
    · rw [rup_ne _ _ e, rup_ne _ _ e]
      exact ⟨by rw [ev_upj _ _ (by omega), ev_upj _ _ (by omega), ev_up_ne _ _ (by omega)]; exact (h6 i (by omega)).1, by rw [ev_upj _ _ (by omega), ev_up_ne _ _ (by omega), ev_upj _ _ (by omega)]; exact (h6 i (by omega)).2⟩
/-- the class's out so far -/
def xw (b : Nat → Int) (L n : Nat) (σ0 : ev_S) (z : Nat) (W : Nat → Int) (l : Nat) (σ : ev_S) (j : Nat) : Prop := AX b L n σ j ∧ frR σ0 σ ∧ σ 137 4 = σ0 137 4 ∧ σ 137 3 = ((z + l : Nat) : Int) ∧ (∀ i, i < z → i < 600 → σ 138 i = σ0 138 i) ∧ ∀ i, i < l → z + i < 600 → σ 138 (z + i) = W i
theorem xw_adv {b : Nat → Int} {L n z l j i : Nat} {σ0 σ : ev_S} {W : Nat → Int} (h : xw b L n σ0 z W l σ j) : xw b L n σ0 z W l (adv b L σ i) i := by
  obtain ⟨h1, h2, h3, h4, h5, h6⟩ := h
  exact ⟨AX_adv h1 i, frR_adv h2, by rw [adv_i (by omega) (by omega)]; exact h3, by rw [adv_i (by omega) (by omega)]; exact h4, fun k a c => by rw [adv_c (by omega)]; exact h5 k a c, fun k a c => by rw [adv_c (by omega)]; exact h6 k a c⟩
theorem xw_ft {b : Nat → Int} {L n z l j k i : Nat} {σ0 σ : ev_S} {W : Nat → Int} (h : xw b L n σ0 z W l σ j) : FX b L σ0 k i (ftx b L σ k i) := ⟨ftx_89.1, ftx_89.2, frR_ftx h.2.1⟩
theorem xw_out {b : Nat → Int} {L n z l j l' : Nat} {σ0 σ σ' : ev_S} {W W' : Nat → Int} (h : xw b L n σ0 z W l σ j) (h3 : σ' 137 3 = ((z + l' : Nat) : Int)) (e : ∀ i, i ≠ 3 → σ' 137 i = σ 137 i) (ec : ∀ c, c ≠ 137 → c ≠ 138 → σ' c = σ c) (e5 : ∀ i, i < z → i < 600 → σ' 138 i = σ 138 i) (e6 : ∀ i, i < l' → z + i < 600 → σ' 138 (z + i) = W' i) : xw b L n σ0 z W' l' σ' j := by
  obtain ⟨h1, h2, h4, h5, h6, h7⟩ := h
  refine ⟨AX_keep h1 (fun c hc => ec c (by omega) (by omega)) (e 6 (by omega)) (e 7 (by omega)) (e 8 (by omega)) (e 9 (by omega)), ⟨fun c hc => by rw [ec c (by omega) (by omega)]; exact h2.1 c hc, by rw [ec 141 (by omega) (by omega)]; exact h2.2⟩, by rw [e 4 (by omega)]; exact h4, h3, fun i a c => by rw [e5 i a c]; exact h6 i a c, e6⟩
def wcat (A : Nat → Int) (l : Nat) (B : Nat → Int) : Nat → Int := fun i => if i < l then A i else B (i - l)
theorem wcat_lt {A B : Nat → Int} {l i : Nat} (h : i < l) : wcat A l B i = A i := by unfold wcat; rw [if_pos h]
theorem wcat_ge {A B : Nat → Int} {l i : Nat} : wcat A l B (l + i) = B i := by unfold wcat; rw [if_neg (by omega), show l + i - l = i by omega]
theorem sp_xstep39 {d n L z l j : Nat} {σ0 : ev_S} {b W : Nat → Int} {x : Int} {k : Nat} {Q : Option ev_V → ev_S → Prop} (hz : z + l + k ≤ 200000000) (h : ∀ σ', xw b L n σ0 z (wcat W l (fun _ => x)) (l + k) σ' j → Q (some (ev_i 1)) σ') : ∀ m i : Nat, i + m = k → ∀ σ, xw b L n σ0 z W l σ j → (∀ q, q < i → z + l + q < 600 → σ 138 (z + l + q) = x) → Ev layX M_X8_readStep (d + 1) 39 [(0, ev_r 137), (1, ev_i x), (2, ev_i (k : Int)), (3, ev_i ((z + l + i : Nat) : Int))] [] σ Q := by
  have fin : ∀ i, i ≤ k → (i = k ∨ 600 ≤ z + l + i) → ∀ σ, xw b L n σ0 z W l σ j → (∀ q, q < i → z + l + q < 600 → σ 138 (z + l + q) = x) → Q (some (ev_i 1)) (ev_up σ 137 3 ((z + l + k : Nat) : Int)) := by
    intro i hi hik σ hx hq
    refine h _ (xw_out hx (by rw [ev_up_same]; omega) (fun i2 h2 => ev_up_ne _ _ (by omega)) (fun c c1 _ => ev_upj _ _ c1) (fun i2 a c => by rw [ev_upj _ _ (by omega)]) (fun i2 a c => ?_))
    rw [ev_upj _ _ (by omega)]
    by_cases c2 : i2 < l
    · rw [wcat_lt c2]; exact hx.2.2.2.2.2 i2 c2 c
    · obtain ⟨q, rfl⟩ : ∃ q, i2 = l + q := ⟨i2 - l, by omega⟩
      rw [wcat_ge, show z + (l + q) = z + l + q by omega]
      exact hq q (by omega) (by omega)
  intro m
  induction m with
  | zero =>
    intro i hi σ hx hq
    refine wp_X8_readStep_39 ?_
    rw [hx.2.2.2.1, ev_add_eq ⟨by omega, by omega⟩, show ((z + l : Nat) : Int) + (k : Int) = ((z + l + k : Nat) : Int) by omega]
    refine ⟨fun _ => ?_, fun q => absurd q (by omega)⟩
    rintro _ rfl
    exact fin i (by omega) (Or.inl (by omega)) σ hx hq
  | succ m ih =>
    intro i hi σ hx hq
    refine wp_X8_readStep_39 ?_
    rw [hx.2.2.2.1, ev_add_eq ⟨by omega, by omega⟩, ev_add_eq (x := ((z + l + i : Nat) : Int)) (y := 1) ⟨by omega, by omega⟩, show ((z + l : Nat) : Int) + (k : Int) = ((z + l + k : Nat) : Int) by omega, Int.toNat_natCast]
    refine ⟨fun q => absurd q (by omega), fun _ => ⟨fun q => ?_, fun q => ⟨by omega, ?_⟩⟩⟩
    · rintro _ rfl
      exact fin i (by omega) (Or.inr (by omega)) σ hx hq
    · rintro _ rfl
      refine ih (i + 1) (by omega) _ (xw_out hx (by rw [ev_upj _ _ (by omega)]; exact hx.2.2.2.1) (fun i2 h2 => by rw [ev_upj _ _ (by omega)]) (fun c _ c2 => ev_upj _ _ c2) (fun i2 a c => ev_up_ne _ _ (by omega)) (fun i2 a c => by rw [ev_up_ne _ _ (by omega)]; exact hx.2.2.2.2.2 i2 a c)) (fun q2 h2 h3 => ?_)
      by_cases e : q2 = i
      · rw [e, ev_up_same]
      · rw [ev_up_ne _ _ (by omega)]; exact hq q2 (by omega) h3
def wrep (A : Nat → Int) (l : Nat) : Nat → Int := fun i => A (i % l)
theorem sp_xagain89 {d n L z l j k t : Nat} {σ0 : ev_S} {b W B : Nat → Int} {Q : Option ev_V → ev_S → Prop} (hk : 1 ≤ t ∧ t ≤ 9) (hz : z + l + 9 * k ≤ 200000000) (h : ∀ σ', xw b L n σ0 z (wcat W l (wrep B k)) (l + t * k) σ' j → Q (some (ev_i 1)) σ') : ∀ m i : Nat, k + i + m = t * k → ∀ σ, xw b L n σ0 z W l (ev_up σ 137 3 ((z + l : Nat) : Int)) j → σ 137 3 = ((z + l + t * k : Nat) : Int) → (∀ q, q < k + i → z + l + q < 600 → σ 138 (z + l + q) = B (q % k)) → Ev layX M_X8_readAgain (d + 1) 89 [(0, ev_r 137), (4, ev_i (k : Int)), (5, ev_i ((z + l + k + i : Nat) : Int))] [] σ Q := by
  have htk : t * k ≤ 9 * k := Nat.mul_le_mul_right k hk.2
  have fin : ∀ i, k + i ≤ t * k → (k + i = t * k ∨ 600 ≤ z + l + k + i) → ∀ σ, xw b L n σ0 z W l (ev_up σ 137 3 ((z + l : Nat) : Int)) j → σ 137 3 = ((z + l + t * k : Nat) : Int) → (∀ q, q < k + i → z + l + q < 600 → σ 138 (z + l + q) = B (q % k)) → Q (some (ev_i 1)) σ := by
    intro i hi hik σ hx h3 hq
    refine h σ (xw_out hx (by rw [h3]; omega) (fun i2 h2 => (ev_up_ne _ _ (by omega)).symm) (fun c c1 _ => (ev_upj _ _ c1).symm) (fun i2 a c => by rw [ev_upj _ _ (by omega)]) (fun i2 a c => ?_))
    by_cases c2 : i2 < l
    · rw [wcat_lt c2]
      have := hx.2.2.2.2.2 i2 c2 c
      rw [ev_upj _ _ (by omega)] at this
      exact this
    · obtain ⟨q, rfl⟩ : ∃ q, i2 = l + q := ⟨i2 - l, by omega⟩
      rw [wcat_ge, show z + (l + q) = z + l + q by omega]
      unfold wrep
      exact hq q (by omega) (by omega)
  intro m
  induction m with
  | zero =>
    intro i hi σ hx h3 hq
    refine wp_X8_readAgain_89 ?_
    rw [h3]
    exact ⟨fun _ => fin i (by omega) (Or.inl (by omega)) σ hx h3 hq, fun q => absurd q (by omega)⟩
  | succ m ih =>
    intro i hi σ hx h3 hq
    refine wp_X8_readAgain_89 ?_
    rw [h3, ev_sub_eq ⟨by omega, by omega⟩, ev_add_eq ⟨by omega, by omega⟩, show ((z + l + k + i : Nat) : Int) - (k : Int) = ((z + l + i : Nat) : Int) by omega, Int.toNat_natCast, Int.toNat_natCast]
    refine ⟨fun q => absurd q (by omega), fun _ => ⟨fun q => fin i (by omega) (Or.inr (by omega)) σ hx h3 hq, fun q => ⟨by omega, by omega, ?_⟩⟩⟩
    rintro _ rfl
    have hk0 : 0 < k := by
      rcases Nat.eq_zero_or_pos k with c | c
      · subst c; omega
      · exact c
    refine ih (i + 1) (by omega) _ (xw_out hx (ev_up_same _ _ _ _) (fun i2 h2 => ((ev_up_ne _ _ (by omega)).trans (congrFun (ev_upj _ _ (by omega)) _)).trans (ev_up_ne _ _ (by omega)).symm) (fun c c1 c2 => ((ev_upj _ _ c1).trans (ev_upj _ _ c2)).trans (ev_upj _ _ c1).symm) (fun i2 a c => ((congrFun (ev_upj _ _ (by omega)) _).trans (ev_up_ne _ _ (by omega))).trans (congrFun (ev_upj _ _ (by omega)) _).symm) (fun i2 a c => ?_)) (by rw [ev_upj _ _ (by omega)]; exact h3) (fun q2 h2 h4 => ?_)
    · rw [ev_upj _ _ (by omega), ev_up_ne _ _ (by omega)]
      have := hx.2.2.2.2.2 i2 a c
      rw [ev_upj _ _ (by omega)] at this
      exact this
    · by_cases e : q2 = k + i
      · subst e
        rw [show z + l + (k + i) = z + l + k + i by omega, ev_up_same, hq i (by omega) (by omega), Nat.add_mod_left]
      · rw [ev_up_ne _ _ (by omega)]; exact hq q2 (by omega) h4
end
