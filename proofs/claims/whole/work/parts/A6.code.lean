section
/-! THE LAW: codes on both sides -/
def csz (O : Nat → Int) : Nat → Nat
  | 0 => 0
  | n + 1 => csz O n + (if O n = 0 then 2 else 1)
theorem csz_le {O : Nat → Int} : ∀ n, csz O n ≤ 2 * n
  | 0 => Nat.le_refl _
  | n + 1 => by have := csz_le (O := O) n; simp only [csz]; split <;> omega
theorem csz_cong {O O' : Nat → Int} : ∀ n, (∀ i, i < n → O' i = O i) → csz O' n = csz O n
  | 0, _ => rfl
  | n + 1, h => by simp only [csz]; rw [csz_cong n (fun i hi => h i (by omega)), h n (by omega)]
theorem csz_mono {O : Nat → Int} {n : Nat} : ∀ m, csz O n ≤ csz O (n + m)
  | 0 => Nat.le_refl _
  | m + 1 => by
    have := csz_mono (O := O) (n := n) m
    rw [show n + (m + 1) = n + m + 1 by omega]
    simp only [csz]
    split <;> omega
/-- the class's code for the model's -/
def xcode (σ : ev_S) (O A : Nat → Int) (i : Nat) : Prop := (O i = 0 → σ 140 (csz O i) = 9 ∧ σ 140 (csz O i + 1) = A i) ∧ (O i = 1 → σ 140 (csz O i) = A i) ∧ (2 ≤ O i → σ 140 (csz O i) = O i + 8)
def xl (b : Nat → Int) (L n : Nat) (σ0 : ev_S) (O A : Nat → Int) (l : Nat) (σ : ev_S) (j : Nat) : Prop := AX b L n σ j ∧ frR σ0 σ ∧ (σ 137 4 = σ0 137 4 ∧ σ 139 5 = σ0 139 5 ∧ σ 141 = σ0 141 ∧ σ 142 = σ0 142) ∧ σ 139 4 = ((csz O l : Nat) : Int) ∧ ∀ i, i < l → xcode σ O A i
def ml (b : Nat → Int) (L : Nat) (s0 : ev_S) (O A : Nat → Int) (l : Nat) (s : ev_S) (j : Nat) : Prop := AM b L s j ∧ frW s0 s ∧ (∀ i, i < 20 ∨ (23 < i ∧ i ≠ 31 ∧ i ≠ 35 ∧ i ≠ 36) → s 0 i = s0 0 i) ∧ (∀ c, c ≠ 0 → c ≠ 15 → c ≠ 16 → s c = s0 c) ∧ s 0 31 = (l : Int) ∧ ∀ i, i < l → s 15 (400 + i) = O i ∧ s 16 (400 + i) = A i
theorem ml_rd {b : Nat → Int} {L l j j' : Nat} {s0 s s' : ev_S} {O A : Nat → Int} (h : ml b L s0 O A l s j) (hA : AM b L s' j') (hr : rdf s s') : ml b L s0 O A l s' j' := by
  obtain ⟨h1, h2, h3, h4, h5, h6⟩ := h
  have e5 := hr.2 15 (by omega)
  have e6 := hr.2 16 (by omega)
  exact ⟨hA, frW_tr h2 (frW_rd hr), fun i hi => by rw [hr.1 i (by omega) (by omega) (by omega) (by omega)]; exact h3 i hi, fun c c0 c1 c2 => by rw [hr.2 c c0]; exact h4 c c0 c1 c2, by rw [hr.1 31 (by omega) (by omega) (by omega) (by omega)]; exact h5, by rw [e5, e6]; exact h6⟩
theorem ml_row {b : Nat → Int} {L l j : Nat} {s0 s : ev_S} {O A O' A' : Nat → Int} (h : ml b L s0 O A l s j) (e : ∀ i, i < l → O' i = O i ∧ A' i = A i) : ml b L s0 O' A' l s j := ⟨h.1, h.2.1, h.2.2.1, h.2.2.2.1, h.2.2.2.2.1, fun i hi => by rw [(e i hi).1, (e i hi).2]; exact h.2.2.2.2.2 i hi⟩
theorem xl_row {b : Nat → Int} {L n l j : Nat} {σ0 σ : ev_S} {O A O' A' : Nat → Int} (h : xl b L n σ0 O A l σ j) (e : ∀ i, i < l → O' i = O i ∧ A' i = A i) : xl b L n σ0 O' A' l σ j := by
  obtain ⟨h1, h2, h3, h4, h5⟩ := h
  refine ⟨h1, h2, h3, by rw [csz_cong l (fun i hi => (e i hi).1)]; exact h4, fun i hi => ?_⟩
  have := h5 i hi
  unfold xcode at this ⊢
  rw [csz_cong i (fun k hk => (e k (by omega)).1), (e i hi).1, (e i hi).2]; exact this
theorem xl_adv {b : Nat → Int} {L n l j i : Nat} {σ0 σ : ev_S} {O A : Nat → Int} (h : xl b L n σ0 O A l σ j) : xl b L n σ0 O A l (adv b L σ i) i := by
  obtain ⟨h1, h2, ⟨h3, h4, h5, h6⟩, h7, h8⟩ := h
  refine ⟨AX_adv h1 i, frR_adv h2, ⟨by rw [adv_i (by omega) (by omega)]; exact h3, by rw [adv_c (by omega)]; exact h4, by rw [adv_c (by omega)]; exact h5, by rw [adv_c (by omega)]; exact h6⟩, by rw [adv_c (by omega)]; exact h7, fun k hk => ?_⟩
  have := h8 k hk
  unfold xcode at this ⊢
  rw [adv_c (by omega)]; exact this
theorem xl_ft {b : Nat → Int} {L n l j k i : Nat} {σ0 σ : ev_S} {O A : Nat → Int} (h : xl b L n σ0 O A l σ j) : FX b L σ0 k i (ftx b L σ k i) := ⟨ftx_89.1, ftx_89.2, frR_ftx h.2.1⟩
/-- what the class emits when all is lost -/
theorem sp_emitF {d L k i : Nat} {σ0 σ : ev_S} {b : Nat → Int} {x : Int} {Q : Option ev_V → ev_S → Prop} (h : FX b L σ0 k i σ) (h0 : 0 ≤ σ 139 4) (hq : ∀ σ', FX b L σ0 k i σ' → 0 ≤ σ' 139 4 → Q none σ') : Ev layX M_X4_emit d 0 [(0, ev_r 139), (1, ev_i x)] [] σ Q := by
  refine wp_X4_emit_0 is_X4_139 ⟨fun _ => hq σ h h0, fun q => ⟨by omega, ?_⟩⟩
  rintro _ rfl
  rw [ev_upj _ _ (by omega), ev_add_eq ⟨by omega, by omega⟩]
  rintro _ rfl
  refine hq _ (FX_up (FX_up h (by omega)) (by omega)) ?_
  rw [ev_up_same]; omega
theorem xl_1 {b : Nat → Int} {L n l j : Nat} {σ0 σ : ev_S} {O A : Nat → Int} {x y : Int} (hx : xl b L n σ0 O A l σ j) (hl : l < 400) (h1 : x ≠ 0) (σ' : ev_S) (e : σ' = ev_up (ev_up σ 140 (csz O l) (if x = 1 then y else x + 8)) 139 4 (((csz O l : Nat) : Int) + 1)) (hxx : x = 1 ∨ 2 ≤ x) : xl b L n σ0 (rup O l x) (rup A l y) (l + 1) σ' j := by
  obtain ⟨a1, a2, ⟨a3, a4, a5, a6⟩, a7, a8⟩ := hx
  have c1 : csz (rup O l x) l = csz O l := csz_cong l (fun i hi => rup_ne _ _ (by omega))
  subst e
  refine ⟨AX_keep a1 (fun c hc => by rw [ev_upj _ _ (by omega), ev_upj _ _ (by omega)]) (by rw [ev_upj _ _ (by omega), ev_upj _ _ (by omega)]) (by rw [ev_upj _ _ (by omega), ev_upj _ _ (by omega)]) (by rw [ev_upj _ _ (by omega), ev_upj _ _ (by omega)]) (by rw [ev_upj _ _ (by omega), ev_upj _ _ (by omega)]), frR_up (frR_up a2 (by omega)) (by omega), ⟨by rw [ev_upj _ _ (by omega), ev_upj _ _ (by omega)]; exact a3, by rw [ev_up_ne _ _ (by omega), ev_upj _ _ (by omega)]; exact a4, by rw [ev_upj _ _ (by omega), ev_upj _ _ (by omega)]; exact a5, by rw [ev_upj _ _ (by omega), ev_upj _ _ (by omega)]; exact a6⟩, ?_, fun i hi => ?_⟩
  · rw [ev_up_same]
    simp only [csz]
    rw [c1, rup_same, if_neg h1]
    omega
  · unfold xcode
    rw [ev_upj _ _ (show (140 : Nat) ≠ 139 by omega)]
    by_cases e : i = l
    · subst e
      rw [c1, rup_same, rup_same, ev_up_same]
      refine ⟨fun q => absurd q h1, fun q => by rw [if_pos q], fun q => by rw [if_neg (by omega)]⟩
    · have c2 : csz (rup O l x) i = csz O i := csz_cong i (fun k hk => rup_ne _ _ (by omega))
      have c3 := csz_mono (O := O) (n := i + 1) (l - (i + 1))
      rw [show i + 1 + (l - (i + 1)) = l by omega] at c3
      simp only [csz] at c3
      have := a8 i (by omega)
      unfold xcode at this
      rw [c2, rup_ne _ _ e, rup_ne _ _ e]
      refine ⟨fun q => ?_, fun q => ?_, fun q => ?_⟩
      · rw [if_pos q] at c3
        rw [ev_up_ne _ _ (by omega), ev_up_ne _ _ (by omega)]; exact this.1 q
      · rw [if_neg (by omega)] at c3
        rw [ev_up_ne _ _ (by omega)]; exact this.2.1 q
      · rw [if_neg (by omega)] at c3
        rw [ev_up_ne _ _ (by omega)]; exact this.2.2 q
theorem sp_emit1 {d n L l j : Nat} {σ0 σ : ev_S} {b O A : Nat → Int} {x y z : Int} {Q : Option ev_V → ev_S → Prop} (hx : xl b L n σ0 O A l σ j) (hl : l < 400) (hxx : x = 1 ∨ 2 ≤ x) (hz : z = if x = 1 then y else x + 8) (h : ∀ σ', xl b L n σ0 (rup O l x) (rup A l y) (l + 1) σ' j → Q none σ') : Ev layX M_X4_emit d 0 [(0, ev_r 139), (1, ev_i z)] [] σ Q := by
  have c := csz_le (O := O) l
  have e4 := hx.2.2.2.1
  refine wp_X4_emit_0 is_X4_139 ?_
  rw [e4, Int.toNat_natCast]
  refine ⟨fun q => absurd q (by omega), fun _ => ⟨by omega, ?_⟩⟩
  rintro _ rfl
  rw [ev_upj _ _ (show (139 : Nat) ≠ 139 + 1 by omega), e4, ev_add_eq ⟨by omega, by omega⟩]
  rintro _ rfl
  exact h _ (xl_1 hx hl (by omega) _ (by rw [hz]) hxx)
theorem sp_emit2 {d n L l j : Nat} {σ0 σ : ev_S} {b O A : Nat → Int} {Q : Option ev_V → ev_S → Prop} (hx : xl b L n σ0 O A l σ j) (hl : l < 400) (h : ∀ s7, AX b L n s7 j → (∀ y : Int, Ev layX M_X4_emit d 0 [(0, ev_r 139), (1, ev_i y)] [] s7 (fun _ s9 => xl b L n σ0 (rup O l 0) (rup A l y) (l + 1) s9 j)) → Q none s7) : Ev layX M_X4_emit d 0 [(0, ev_r 139), (1, ev_i 9)] [] σ Q := by
  have c := csz_le (O := O) l
  have e4 := hx.2.2.2.1
  refine wp_X4_emit_0 is_X4_139 ?_
  rw [e4, Int.toNat_natCast]
  refine ⟨fun q => absurd q (by omega), fun _ => ⟨by omega, ?_⟩⟩
  rintro _ rfl
  rw [ev_upj _ _ (show (139 : Nat) ≠ 139 + 1 by omega), e4, ev_add_eq ⟨by omega, by omega⟩]
  rintro _ rfl
  obtain ⟨a1, a2, ⟨a3, a4, a5, a6⟩, a7, a8⟩ := hx
  have A1 : AX b L n (ev_up (ev_up σ (139 + 1) (csz O l) 9) 139 4 (((csz O l : Nat) : Int) + 1)) j := AX_keep a1 (fun c hc => by rw [ev_upj _ _ (by omega), ev_upj _ _ (by omega)]) (by rw [ev_upj _ _ (by omega), ev_upj _ _ (by omega)]) (by rw [ev_upj _ _ (by omega), ev_upj _ _ (by omega)]) (by rw [ev_upj _ _ (by omega), ev_upj _ _ (by omega)]) (by rw [ev_upj _ _ (by omega), ev_upj _ _ (by omega)])
  refine h _ A1 (fun y => wp_X4_emit_0 is_X4_139 ?_)
  rw [ev_up_same, show Int.toNat (((csz O l : Nat) : Int) + 1) = csz O l + 1 by omega]
  refine ⟨fun q => absurd q (by omega), fun _ => ⟨by omega, ?_⟩⟩
  rintro _ rfl
  rw [ev_upj _ _ (show (139 : Nat) ≠ 139 + 1 by omega), ev_up_same, ev_add_eq ⟨by omega, by omega⟩]
  rintro _ rfl
  have c1 : csz (rup O l 0) l = csz O l := csz_cong l (fun i hi => rup_ne _ _ (by omega))
  refine ⟨AX_keep A1 (fun c hc => by rw [ev_upj _ _ (by omega), ev_upj _ _ (by omega)]) (by rw [ev_upj _ _ (by omega), ev_upj _ _ (by omega)]) (by rw [ev_upj _ _ (by omega), ev_upj _ _ (by omega)]) (by rw [ev_upj _ _ (by omega), ev_upj _ _ (by omega)]) (by rw [ev_upj _ _ (by omega), ev_upj _ _ (by omega)]), frR_up (frR_up (frR_up (frR_up a2 (by omega)) (by omega)) (by omega)) (by omega), ⟨?_, ?_, ?_, ?_⟩, ?_, fun i hi => ?_⟩
  · rw [ev_upj _ _ (by omega), ev_upj _ _ (by omega), ev_upj _ _ (by omega), ev_upj _ _ (by omega)]; exact a3
  · rw [ev_up_ne _ _ (by omega), ev_upj _ _ (by omega), ev_up_ne _ _ (by omega), ev_upj _ _ (by omega)]; exact a4
  · rw [ev_upj _ _ (by omega), ev_upj _ _ (by omega), ev_upj _ _ (by omega), ev_upj _ _ (by omega)]; exact a5
  · rw [ev_upj _ _ (by omega), ev_upj _ _ (by omega), ev_upj _ _ (by omega), ev_upj _ _ (by omega)]; exact a6
  · rw [ev_up_same]
    simp only [csz]
    rw [c1, rup_same, if_pos rfl]
    omega
  · unfold xcode
    rw [ev_upj _ _ (show (140 : Nat) ≠ 139 by omega)]
    by_cases e : i = l
    · subst e
      rw [c1, rup_same, rup_same]
      refine ⟨fun _ => ⟨?_, ?_⟩, fun q => absurd q (by omega), fun q => absurd q (by omega)⟩
      · rw [ev_up_ne _ _ (by omega), ev_upj _ _ (by omega), ev_up_same]
      · rw [ev_up_same]
    · have c2 : csz (rup O l 0) i = csz O i := csz_cong i (fun k hk => rup_ne _ _ (by omega))
      have c3 := csz_mono (O := O) (n := i + 1) (l - (i + 1))
      rw [show i + 1 + (l - (i + 1)) = l by omega] at c3
      simp only [csz] at c3
      have := a8 i (by omega)
      unfold xcode at this
      rw [c2, rup_ne _ _ e, rup_ne _ _ e]
      refine ⟨fun q => ?_, fun q => ?_, fun q => ?_⟩
      · rw [if_pos q] at c3
        rw [ev_up_ne _ _ (by omega), ev_upj _ _ (by omega), ev_up_ne _ _ (by omega), ev_up_ne _ _ (by omega), ev_upj _ _ (by omega), ev_up_ne _ _ (by omega)]; exact this.1 q
      · rw [if_neg (by omega)] at c3
        rw [ev_up_ne _ _ (by omega), ev_upj _ _ (by omega), ev_up_ne _ _ (by omega)]; exact this.2.1 q
      · rw [if_neg (by omega)] at c3
        rw [ev_up_ne _ _ (by omega), ev_upj _ _ (by omega), ev_up_ne _ _ (by omega)]; exact this.2.2 q
theorem sp_emits {d L l j : Nat} {s0 s : ev_S} {b O A : Nat → Int} {x y : Int} {Q : Option ev_V → ev_S → Prop} (h : ml b L s0 O A l s j) (hl : l < 400) (k : ∀ s', ml b L s0 (rup O l x) (rup A l y) (l + 1) s' j → Q none s') : Ev layM M_X12_emits d 0 [(0, ev_r 0), (1, ev_i x), (2, ev_i y)] [] s Q := by
  obtain ⟨h1, h2, h3, h4, h5, h6⟩ := h
  refine wp_X12_emits_0 ?_
  rw [h5, ev_add_eq ⟨by omega, by omega⟩, show Int.toNat (400 + (l : Int)) = 400 + l by omega]
  refine ⟨by omega, ?_⟩
  rintro _ rfl
  rw [ev_upj _ _ (show (0 : Nat) ≠ 15 by omega), h5, ev_add_eq ⟨by omega, by omega⟩, show Int.toNat (400 + (l : Int)) = 400 + l by omega]
  refine ⟨by omega, ?_⟩
  rintro _ rfl
  rw [ev_upj _ _ (show (0 : Nat) ≠ 16 by omega), ev_upj _ _ (show (0 : Nat) ≠ 15 by omega), h5, ev_add_eq ⟨by omega, by omega⟩]
  rintro _ rfl
  refine k _ ⟨AM_keep h1 (fun k _ _ => by rw [ev_up_ne _ _ (by omega), ev_upj _ _ (by omega), ev_upj _ _ (by omega)]) (by rw [ev_upj _ _ (by omega), ev_upj _ _ (by omega), ev_upj _ _ (by omega)]) (by rw [ev_upj _ _ (by omega), ev_upj _ _ (by omega), ev_upj _ _ (by omega)]), frW_up0 (frW_upc (frW_upc h2 (by omega)) (by omega)) (by omega), fun i hi => by rw [ev_up_ne _ _ (by omega), ev_upj _ _ (by omega), ev_upj _ _ (by omega)]; exact h3 i hi, fun c c0 c1 c2 => by rw [ev_upj _ _ c0, ev_upj _ _ c2, ev_upj _ _ c1]; exact h4 c c0 c1 c2, by rw [ev_up_same]; omega, fun i hi => ?_⟩
  by_cases e : i = l
  · rw [e, rup_same, rup_same]
    exact ⟨by rw [ev_upj _ _ (by omega), ev_upj _ _ (by omega), ev_up_same], by rw [ev_upj _ _ (by omega), ev_up_same]⟩
  · rw [rup_ne _ _ e, rup_ne _ _ e]
    exact ⟨by rw [ev_upj _ _ (by omega), ev_upj _ _ (by omega), ev_up_ne _ _ (by omega)]; exact (h6 i (by omega)).1, by rw [ev_upj _ _ (by omega), ev_up_ne _ _ (by omega), ev_upj _ _ (by omega)]; exact (h6 i (by omega)).2⟩
end
