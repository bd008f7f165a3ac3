/-! calls by which something is told: state, town, set, ward, angel, other -/
def tld (σ : ev_S) : ev_S := ev_up (ev_up (ev_up σ 29 2 0) 146 7 0) 162 19 0
theorem tld_c {σ : ev_S} {c : Nat} (h1 : c ≠ 29) (h2 : c ≠ 146) (h3 : c ≠ 162) : tld σ c = σ c := by unfold tld; rw [ev_upj _ _ h3, ev_upj _ _ h2, ev_upj _ _ h1]
theorem tld_29 {σ : ev_S} : tld σ 29 2 = 0 ∧ tld σ 29 1 = σ 29 1 := by
  unfold tld
  constructor
  · rw [ev_upj _ _ (by omega), ev_upj _ _ (by omega), ev_up_same]
  · rw [ev_upj _ _ (by omega), ev_upj _ _ (by omega), ev_up_ne _ _ (by omega)]
theorem tld_f {σ : ev_S} : tld σ 146 7 = 0 ∧ tld σ 162 19 = 0 := by
  unfold tld
  constructor
  · rw [ev_upj _ _ (by omega), ev_up_same]
  · rw [ev_up_same]
theorem sp_tld {d : Nat} {s : ev_S} {Q : Option ev_V → ev_S → Prop} (h : Q none (tld s)) : Ev layX M_X11_isTold (d + 1) 0 [(0, ev_r 0)] [] s Q := sp_isTold h
theorem XR_tld {σ s σ1 s' : ev_S} {N A N' A' NO' MI' : Nat} (hP : RP σ s N A) (hI : RI σ s) (hT : RT σ s) (hM : RM s' N' A' NO' MI') (hX : RX σ1 s') (h3 : s' 0 3 = 0) (e1 : σ1 29 1 = σ 29 1) (hs0 : ∀ i, i = 61 ∨ i = 19 ∨ i = 37 ∨ i = 38 → s' 0 i = s 0 i) (hs : ∀ c, c = 36 ∨ c = 10 ∨ c = 11 → s' c = s c) (hf : ∀ c, 103 ≤ c → c ≤ 143 → c ≠ 117 → σ1 c = σ c) (h3b : ∀ i, i < 4800 → -128 ≤ σ1 3 i ∧ σ1 3 i ≤ 127) : XR (tld σ1) s' := by
  refine XR_told hP hI hT hM ⟨XT_keep hX.1 (fun c c1 c2 => tld_c (by omega) (by omega) (by omega)), XC_keep hX.2.1 (fun c c1 c2 => tld_c (by omega) (by omega) (by omega)), fun i hi => ?_⟩ h3 tld_29.1 (by rw [tld_29.2]; exact e1) tld_f.1 tld_f.2 hs0 hs (fun c c1 c2 c3 => by rw [tld_c (by omega) (by omega) (by omega)]; exact hf c c1 c2 c3) (fun i hi => by rw [tld_c (by omega) (by omega) (by omega)]; exact h3b i hi)
  rw [tld_c (by omega) (by omega) (by omega)]; exact hX.2.2 i hi
theorem XR_no {σ s : ev_S} (h : XR σ s) : XR σ (ev_up s 0 0 0) := by
  obtain ⟨N, A, NO, MI, hM, hX, hP, hF, hI, hT⟩ := h
  exact XR_scr hM hX hP hI hT hF frS_rf frQ_0
theorem m_rok_r {T : ev_S} {N A : Nat} {r r' B : Nat → Int} (hN : N ≤ 8) (hA : A ≤ 6) (h : m_rok T N A (r, B)) (e : ∀ i, i ≠ 1 → i < 57 → r' i = r i) : m_rok T N A (r', B) := by
  obtain ⟨r1, r2, r3, r4, r5, r6⟩ := h
  simp only at r1 r2 r3 r4 r5 r6
  have e0 := e 0 (by omega) (by omega)
  have e2 := e 2 (by omega) (by omega)
  refine ⟨by simp only; rw [e0]; exact r1, by simp only; rw [e2]; exact r2, fun w hw => ⟨m_wok_cong (r3 w hw).1 (e _ (by omega) (by omega)) (e _ (by omega) (by omega)) (e _ (by omega) (by omega)), by simp only; rw [e (11 + w) (by omega) (by omega)]; exact (r3 w hw).2⟩, fun a ha => ?_, by simp only; rw [e2]; exact r5, fun l hl => ?_⟩
  · have := r4 a ha
    unfold m_aok at this ⊢
    simp only
    rw [e0, e (27 + a) (by omega) (by omega), e (33 + a) (by omega) (by omega), e (39 + a) (by omega) (by omega), e (45 + a) (by omega) (by omega), e (51 + a) (by omega) (by omega)]
    exact this
  · simp only at hl ⊢
    rw [e2] at hl
    rw [e0]; exact r6 l hl
theorem m_zer_r {N A : Nat} {r r' : Nat → Int} (h : m_zer N A r) (e : ∀ i, i ≠ 1 → i < 57 → r' i = r i) : m_zer N A r' := by
  refine ⟨fun w h1 h2 => ?_, fun a h1 h2 => ?_⟩
  · rw [e (11 + w) (by omega) (by omega), e (19 + w) (by omega) (by omega)]; exact h.1 w h1 h2
  · rw [e (33 + a) (by omega) (by omega), e (39 + a) (by omega) (by omega), e (51 + a) (by omega) (by omega)]; exact h.2 a h1 h2
theorem sim_state (v : Int) : Sim M_X11_state M_X12_state [(1, ev_i v)] := by
  intro σ s hσ hs hR
  obtain ⟨N, A, NO, MI, hM, hX, hP, hF, hI, hT⟩ := hR
  refine ⟨ev_i (s 1 1), fun σ' => σ' = tld (ev_up σ 15 1 v), fun s' => s' = ev_up (ev_up (ev_up s 0 0 0) 1 1 v) 0 3 0, ?_, ?_, ?_⟩
  · refine wp_X11_state_0 ?_
    rintro _ rfl
    refine sp_tld ⟨?_, rfl⟩
    rw [hX.2.1.1.2.1]
  · refine wp_X12_state_0 ?_
    rintro _ rfl _ rfl _ rfl
    refine ⟨?_, rfl⟩
    rw [ev_upj _ _ (show (1 : Nat) ≠ 0 by omega)]
  · rintro _ _ rfl rfl
    generalize es : ev_up (ev_up (ev_up s 0 0 0) 1 1 v) 0 3 0 = s'
    have e1 : s' 1 = rup (s 1) 1 v := by rw [← es, ev_upj _ _ (by omega), ev_up_set, ev_set_same, ev_upj _ _ (by omega)]
    have e0 : ∀ i, i ≠ 0 → i ≠ 3 → s' 0 i = s 0 i := fun i h1 h2 => by rw [← es, ev_up_ne _ _ (by omega), ev_upj _ _ (by omega), ev_up_ne _ _ (by omega)]
    have e3 : s' 0 3 = 0 := by rw [← es, ev_up_same]
    have ec : ∀ c, c ≠ 0 → c ≠ 1 → s' c = s c := fun c h0 h1 => by rw [← es, ev_upj _ _ h0, ev_upj _ _ h1, ev_upj _ _ h0]
    have htl : tl s s' := tl_of (fun i hi => e0 i (by omega) (by omega)) (fun c hc => ec c (by omega) (by omega))
    obtain ⟨hT0, hr, hz, h5⟩ := hM
    have er : ∀ i, i ≠ 1 → rup (s 1) 1 v i = s 1 i := fun i hi => rup_ne _ _ hi
    refine XR_tld (N' := N) (A' := A) (NO' := NO) (MI' := MI) hP hI hT ⟨by rw [tl_tok htl]; exact hT0, ?_, ?_, by rw [e0 5 (by omega) (by omega)]; exact h5⟩ ⟨tl_XT htl (XT_keep hX.1 (fun c c1 c2 => ev_upj _ _ (by omega))), ?_, fun i hi => ?_⟩ e3 (by rw [ev_upj _ _ (by omega)]) (fun i hi => e0 i (by omega) (by omega)) (fun c hc => ec c (by omega) (by omega)) (fun c c1 c2 c3 => ev_upj _ _ (by omega)) (fun i hi => by rw [ev_upj _ _ (by omega)]; exact (hT.2.2.2 i hi).1)
    · rw [e1, tl_rok htl, ec 9 (by omega) (by omega)]
      exact m_rok_r hT0.2.1.2 hT0.2.2.1.2 hr (fun i h1 _ => er i h1)
    · rw [e1]; exact m_zer_r hz (fun i h1 _ => er i h1)
    · rw [e1]; exact XC_draws hX.2.1
    · rw [e1, er 2 (by omega)] at hi
      rw [ev_upj _ _ (by omega), ec 9 (by omega) (by omega)]; exact hX.2.2 i hi
/-! town -/
theorem sp_tclear {d : Nat} {s : ev_S} {w h : Int} {Q : Option ev_V → ev_S → Prop} (k : ∀ s', (s' 1 0 = w ∧ s' 1 1 = h ∧ s' 1 2 = 3 ∧ s' 1 4 = 0 ∧ s' 1 7 = 0 ∧ s' 1 11 = 0 ∧ s' 1 13 = 0) → (∀ i, i < 5 → s' 2 i = 0) → s' 10 5 = 0 → (∀ c, c ≠ 1 → c ≠ 2 → c ≠ 10 → s' c = s c) → Q none s') : Ev layX M_X10_clear (d + 1) 0 [(0, ev_r 1), (1, ev_i w), (2, ev_i h)] [] s Q := by
  refine wp_X10_clear_0 is_X10_1 ?_
  rintro _ rfl _ rfl _ rfl
  refine sp_fill yX_2 (by omega) ?_
  rintro _ rfl _ rfl _ rfl _ rfl
  refine wp_X4_clear_0 is_X4_10 ?_
  rintro _ rfl _ rfl
  refine k _ ⟨?_, ?_, ?_, ?_, ?_, ?_, ?_⟩ (fun i hi => ?_) ?_ (fun c h1 h2 h3 => ?_)
  · simp [ev_up, ev_fill, ev_set]
  · simp [ev_up, ev_fill, ev_set]
  · simp [ev_up, ev_fill, ev_set]
  · simp [ev_up, ev_fill, ev_set]
  · simp [ev_up, ev_fill, ev_set]
  · simp [ev_up, ev_fill, ev_set]
  · simp [ev_up, ev_fill, ev_set]
  · simp [ev_up, ev_fill, ev_set, hi]
  · simp [ev_up, ev_fill, ev_set]
  · funext i
    simp [ev_up, ev_fill, ev_set, h1, h2, h3]
theorem sp_xcm {d : Nat} {s : ev_S} {Q : Option ev_V → ev_S → Prop} (h : Q none (ev_fill (ev_fill (ev_fill s 24 10 0) 25 10 (-1)) 26 10 (-1))) : Ev layX M_X2_clearMishaps (d + 1) 0 [(0, ev_r 15)] [] s Q :=
  wp_X2_clearMishaps_0 is_X2_15 (sp_fill yX_24 (by omega) (sp_fill yX_25 (by omega) (sp_fill yX_26 (by omega) h)))
theorem sp_cclear {d : Nat} {s : ev_S} {Q : Option ev_V → ev_S → Prop} (k : ∀ s', XC s' 15 (fun _ => 0) → frC 15 s s' → Q none s') : Ev layX M_X2_clear (d + 2) 0 [(0, ev_r 15)] [] s Q := by
  refine wp_X2_clear_0 is_X2_15 ?_
  rintro _ rfl _ rfl
  refine sp_fill yX_16 (by omega) (sp_fill yX_17 (by omega) (sp_fill yX_18 (by omega) (sp_fill yX_19 (by omega) (sp_fill yX_20 (by omega) (sp_fill yX_21 (by omega) (sp_fill yX_22 (by omega) (sp_fill yX_23 (by omega) (sp_xcm ?_))))))))
  rintro _ rfl
  refine k _ ⟨⟨?_, ?_, ?_⟩, fun w hw => ⟨?_, ?_, ?_⟩, fun a ha => ⟨?_, ?_, fun q => absurd q (Int.lt_irrefl 0), ?_, ?_⟩, fun i hi => ⟨?_, ?_, ?_⟩⟩ (fun c hc => ?_)
  · simp [ev_up, ev_fill, ev_set]
  · simp [ev_up, ev_fill, ev_set]
  · simp [ev_up, ev_fill, ev_set]
  · simp [ev_up, ev_fill, ev_set, hw]
  · simp [ev_up, ev_fill, ev_set, hw]
  · simp [ev_up, ev_fill, ev_set, hw]
  · simp [ev_up, ev_fill, ev_set, ha]
  · simp [ev_up, ev_fill, ev_set, ha]
  · simp [ev_up, ev_fill, ev_set, ha]
  · simp [ev_up, ev_fill, ev_set, ha]
  · simp [ev_up, ev_fill, ev_set, hi]
  · simp [ev_up, ev_fill, ev_set, hi]
  · simp [ev_up, ev_fill, ev_set, hi]
  · funext i
    have n0 : ∀ j, 15 ≤ j → j ≤ 26 → c ≠ j := fun j h1 h2 => by omega
    simp [ev_up, ev_fill, ev_set, n0 15 (by omega) (by omega), n0 16 (by omega) (by omega), n0 17 (by omega) (by omega), n0 18 (by omega) (by omega), n0 19 (by omega) (by omega), n0 20 (by omega) (by omega), n0 21 (by omega) (by omega), n0 22 (by omega) (by omega), n0 23 (by omega) (by omega), n0 24 (by omega) (by omega), n0 25 (by omega) (by omega), n0 26 (by omega) (by omega)]
theorem sp_mtown39 {d : Nat} {s0 : ev_S} {w h : Int} {Q : Option ev_V → ev_S → Prop} (hw : 2 ≤ w ∧ w ≤ 8) (hh : 2 ≤ h ∧ h ≤ 8) (k : ∀ s', (∀ i, i < 87 → s' 1 i = if i = 1 then s0 1 1 else 0) → (s' 0 6 = w - 8 ∧ s' 0 7 = h - 8 ∧ s' 0 8 = 0 ∧ s' 0 10 = 0 ∧ s' 0 11 = 0 ∧ s' 0 12 = 0 ∧ s' 0 46 = 0 ∧ s' 0 25 = 0 ∧ s' 0 3 = 0) → (∀ i, i < 5 → s' 4 i = 0) → (∀ i, i ≠ 6 → i ≠ 7 → i ≠ 8 → i ≠ 10 → i ≠ 11 → i ≠ 12 → i ≠ 46 → i ≠ 25 → i ≠ 3 → s' 0 i = s0 0 i) → (∀ c, c ≠ 0 → c ≠ 1 → c ≠ 4 → s' c = s0 c) → Q (some (ev_i 1)) s') : ∀ n a : Nat, a + n = 87 → ∀ s : ev_S, (∀ i, i < a → s 1 i = 0) → (∀ i, a ≤ i → s 1 i = s0 1 i) → (∀ c, c ≠ 1 → s c = s0 c) → Ev layM M_X12_town (d + 1) 39 [(0, ev_r 0), (1, ev_i w), (2, ev_i h), (3, ev_i (s0 1 1)), (4, ev_i (a : Int))] [] s Q := by
  intro n
  induction n with
  | zero =>
    intro a ha s z1 z2 zc
    refine wp_X12_town_39 ⟨fun _ => ?_, fun q => absurd q (by omega)⟩
    rw [ev_sub_eq ⟨by omega, by omega⟩, ev_sub_eq ⟨by omega, by omega⟩]
    rintro _ rfl _ rfl _ rfl _ rfl
    generalize es1 : ev_up (ev_up (ev_up (ev_up s 1 1 (s0 1 1)) 0 6 (w - 8)) 0 7 (h - 8)) 0 8 0 = s1
    have y1 : ∀ i, i < 87 → s1 1 i = if i = 1 then s0 1 1 else 0 := fun i hi => by
      rw [← es1, ev_upj _ _ (by omega), ev_upj _ _ (by omega), ev_upj _ _ (by omega), ev_up_set, ev_set_same]
      unfold rup
      split
      · rfl
      · exact z1 i (by omega)
    have y0 : s1 0 6 = w - 8 ∧ s1 0 7 = h - 8 ∧ s1 0 8 = 0 := by
      rw [← es1]
      exact ⟨by rw [ev_up_ne _ _ (by omega), ev_up_ne _ _ (by omega), ev_up_same], by rw [ev_up_ne _ _ (by omega), ev_up_same], by rw [ev_up_same]⟩
    have y0i : ∀ i, i ≠ 6 → i ≠ 7 → i ≠ 8 → s1 0 i = s0 0 i := fun i h6 h7 h8 => by rw [← es1, ev_up_ne _ _ (by omega), ev_up_ne _ _ (by omega), ev_up_ne _ _ (by omega), ev_upj _ _ (by omega), zc 0 (by omega)]
    have yc : ∀ c, c ≠ 0 → c ≠ 1 → s1 c = s0 c := fun c h0 h1 => by rw [← es1, ev_upj _ _ h0, ev_upj _ _ h0, ev_upj _ _ h0, ev_upj _ _ h1, zc c h1]
    have key : ∀ m b : Nat, b + m = 5 → ∀ s2 : ev_S, (∀ i, i < b → s2 4 i = 0) → (∀ c, c ≠ 4 → s2 c = s1 c) → Ev layM M_X12_town (d + 1) 91 [(0, ev_r 0), (4, ev_i (b : Int))] [] s2 Q := by
      intro m
      induction m with
      | zero =>
        intro b hb s2 x1 xc
        refine wp_X12_town_91 ⟨fun _ => ?_, fun q => absurd q (by omega)⟩
        rintro _ rfl _ rfl _ rfl _ rfl _ rfl _ rfl
        have f0 : ∀ i, s2 0 i = s1 0 i := fun i => by rw [xc 0 (by omega)]
        refine k _ (fun i hi => ?_) ⟨?_, ?_, ?_, ?_, ?_, ?_, ?_, ?_, ?_⟩ (fun i hi => ?_) (fun i h6 h7 h8 h10 h11 h12 h46 h25 h3 => ?_) (fun c c0 c1 c4 => ?_)
        · rw [ev_upj _ _ (by omega), ev_upj _ _ (by omega), ev_upj _ _ (by omega), ev_upj _ _ (by omega), ev_upj _ _ (by omega), ev_upj _ _ (by omega), xc 1 (by omega)]; exact y1 i hi
        · rw [ev_up_ne _ _ (by omega), ev_up_ne _ _ (by omega), ev_up_ne _ _ (by omega), ev_up_ne _ _ (by omega), ev_up_ne _ _ (by omega), ev_up_ne _ _ (by omega), f0]; exact y0.1
        · rw [ev_up_ne _ _ (by omega), ev_up_ne _ _ (by omega), ev_up_ne _ _ (by omega), ev_up_ne _ _ (by omega), ev_up_ne _ _ (by omega), ev_up_ne _ _ (by omega), f0]; exact y0.2.1
        · rw [ev_up_ne _ _ (by omega), ev_up_ne _ _ (by omega), ev_up_ne _ _ (by omega), ev_up_ne _ _ (by omega), ev_up_ne _ _ (by omega), ev_up_ne _ _ (by omega), f0]; exact y0.2.2
        · simp [ev_up]
        · simp [ev_up]
        · simp [ev_up]
        · simp [ev_up]
        · simp [ev_up]
        · simp [ev_up]
        · rw [ev_upj _ _ (by omega), ev_upj _ _ (by omega), ev_upj _ _ (by omega), ev_upj _ _ (by omega), ev_upj _ _ (by omega), ev_upj _ _ (by omega)]; exact x1 i (by omega)
        · rw [ev_up_ne _ _ (by omega), ev_up_ne _ _ (by omega), ev_up_ne _ _ (by omega), ev_up_ne _ _ (by omega), ev_up_ne _ _ (by omega), ev_up_ne _ _ (by omega), f0]; exact y0i i h6 h7 h8
        · rw [ev_upj _ _ c0, ev_upj _ _ c0, ev_upj _ _ c0, ev_upj _ _ c0, ev_upj _ _ c0, ev_upj _ _ c0, xc c c4]; exact yc c c0 c1
      | succ m ih =>
        intro b hb s2 x1 xc
        refine wp_X12_town_91 ⟨fun q => absurd q (by omega), fun _ => ⟨by omega, ?_⟩⟩
        rintro _ rfl
        rw [ev_add_eq (x := (b : Int)) (y := 1) ⟨by omega, by omega⟩, Int.toNat_natCast]
        refine ih (b + 1) (by omega) _ (fun i hi => ?_) (fun c hc => by rw [ev_upj _ _ hc]; exact xc c hc)
        by_cases e : i = b
        · subst e; rw [ev_up_same]
        · rw [ev_up_ne _ _ (by omega)]; exact x1 i (by omega)
    exact key 5 0 (by omega) s1 (fun i hi => absurd hi (by omega)) (fun c _ => rfl)
  | succ n ih =>
    intro a ha s z1 z2 zc
    refine wp_X12_town_39 ⟨fun q => absurd q (by omega), fun _ => ⟨by omega, ?_⟩⟩
    rintro _ rfl
    rw [ev_add_eq (x := (a : Int)) (y := 1) ⟨by omega, by omega⟩, Int.toNat_natCast]
    refine ih (a + 1) (by omega) _ (fun i hi => ?_) (fun i hi => ?_) (fun c hc => by rw [ev_upj _ _ hc]; exact zc c hc)
    · by_cases e : i = a
      · subst e; rw [ev_up_same]
      · rw [ev_up_ne _ _ (by omega)]; exact z1 i (by omega)
    · rw [ev_up_ne _ _ (by omega)]; exact z2 i (by omega)
theorem sim_town (w h : Int) : Sim M_X11_town M_X12_town [(1, ev_i w), (2, ev_i h)] := by
  intro σ s hσ hs hR
  by_cases c : (2 ≤ w ∧ w ≤ 8) ∧ (2 ≤ h ∧ h ≤ 8)
  · obtain ⟨hw, hh⟩ := c
    obtain ⟨N, A, NO, MI, hM, hX, hP, hF, hI, hT⟩ := hR
    refine ⟨ev_i 1, fun σ' => ∃ σ1, σ' = tld σ1 ∧ XC σ1 15 (rup (fun _ => 0) 1 (s 1 1)) ∧ (σ1 1 0 = w ∧ σ1 1 1 = h ∧ σ1 1 2 = 3 ∧ σ1 1 4 = 0 ∧ σ1 1 7 = 0 ∧ σ1 1 11 = 0 ∧ σ1 1 13 = 0) ∧ (∀ i, i < 5 → σ1 2 i = 0) ∧ σ1 10 5 = 0 ∧ ∀ c, c ≠ 1 → c ≠ 2 → c ≠ 10 → (c < 15 ∨ 26 < c) → σ1 c = σ c, fun s' => (∀ i, i < 87 → s' 1 i = if i = 1 then s 1 1 else 0) ∧ (s' 0 6 = w - 8 ∧ s' 0 7 = h - 8 ∧ s' 0 8 = 0 ∧ s' 0 10 = 0 ∧ s' 0 11 = 0 ∧ s' 0 12 = 0 ∧ s' 0 46 = 0 ∧ s' 0 25 = 0 ∧ s' 0 3 = 0) ∧ (∀ i, i < 5 → s' 4 i = 0) ∧ (∀ i, i ≠ 0 → i ≠ 6 → i ≠ 7 → i ≠ 8 → i ≠ 10 → i ≠ 11 → i ≠ 12 → i ≠ 46 → i ≠ 25 → i ≠ 3 → s' 0 i = s 0 i) ∧ (∀ c, c ≠ 0 → c ≠ 1 → c ≠ 4 → s' c = s c), ?_, ?_, ?_⟩
    · refine wp_X11_town_0 ⟨fun q => absurd q (by omega), fun _ => ⟨fun q => absurd q (by omega), fun _ => ⟨fun q => absurd q (by omega), fun _ => ⟨fun _ => ?_, fun q => absurd q (by omega)⟩⟩⟩⟩
      refine sp_tclear (fun s1 z1 z2 z3 z4 => sp_cclear (fun s2 y1 y2 => ?_))
      rintro _ rfl
      refine sp_tld ⟨rfl, _, rfl, ?_, ?_, fun i hi => ?_, ?_, fun c c1 c2 c10 cc => ?_⟩
      · have := XC_draws (z := s1 15 1) y1
        rw [z4 15 (by omega) (by omega) (by omega), hX.2.1.1.2.1] at this
        rw [z4 15 (by omega) (by omega) (by omega), hX.2.1.1.2.1]
        exact this
      · rw [ev_upj _ _ (by omega), y2 1 (by omega)]; exact z1
      · rw [ev_upj _ _ (by omega), y2 2 (by omega)]; exact z2 i hi
      · rw [ev_upj _ _ (by omega), y2 10 (by omega)]; exact z3
      · rw [ev_upj _ _ (by omega), y2 c (by omega)]; exact z4 c c1 c2 c10
    · refine wp_X12_town_0 ?_
      rintro _ rfl
      refine sp_isIn (ev_pi_mk ?_)
      rw [if_pos (by omega)]
      refine ⟨fun q => absurd q (by omega), fun _ => sp_isIn (ev_pi_mk ?_)⟩
      rw [if_pos (by omega)]
      refine ⟨fun _ => ?_, fun q => absurd q (by omega)⟩
      refine sp_mtown39 (s0 := ev_up s 0 0 0) (w := w) (h := h) hw hh (fun s' z1 z2 z3 z4 z5 => ⟨rfl, ?_, z2, z3, ?_, ?_⟩) 87 0 (by omega) _ (fun i hi => absurd hi (by omega)) (fun i _ => rfl) (fun c _ => rfl)
      · rw [ev_upj _ _ (show (1 : Nat) ≠ 0 by omega)] at z1; exact z1
      · intro i i0 h6 h7 h8 h10 h11 h12 h46 h25 h3
        rw [z4 i h6 h7 h8 h10 h11 h12 h46 h25 h3, ev_up_ne _ _ (by omega)]
      · intro c c0 c1 c4
        rw [z5 c c0 c1 c4, ev_upj _ _ c0]
    · rintro _ s' ⟨σ1, rfl, x1, x2, x3, x4, x5⟩ ⟨z1, z2, z3, z4, z5⟩
      obtain ⟨z6, z7, z8, z10, z11, z12, z46, z25, z03⟩ := z2
      obtain ⟨y0, y1, y2, y4, y7, y11, y13⟩ := x2
      have e2 : s' 1 2 = 0 := by rw [z1 2 (by omega)]; simp
      refine XR_tld (N' := 0) (A' := 0) (NO' := 0) (MI' := 0) hP hI hT ⟨⟨⟨by omega, by omega⟩, ⟨z10, by omega⟩, ⟨z11, by omega⟩, ⟨z12, by omega⟩, ⟨z46, by omega⟩, by omega, fun k hk => by rw [z3 k hk]; omega, fun a ha => absurd ha (by omega), fun a ha => absurd ha (by omega), ⟨by omega, fun j hj => absurd hj (by omega)⟩⟩, ?_, ?_, ?_⟩ ⟨⟨⟨by omega, by omega, by omega, by omega, by omega, by omega, by omega⟩, fun k hk => by rw [z3 k hk]; exact x3 k hk, fun w hw => absurd hw (by omega), fun w hw => absurd hw (by omega), fun w hw => absurd hw (by omega), fun w hw => absurd hw (by omega), ?_⟩, ?_, fun i hi => ?_⟩ z03 (by rw [x5 29 (by omega) (by omega) (by omega) (by omega)]) (fun i hi => z4 i (by omega) (by omega) (by omega) (by omega) (by omega) (by omega) (by omega) (by omega) (by omega) (by omega)) (fun c hc => z5 c (by omega) (by omega) (by omega)) (fun c c1 c2 c3 => x5 c (by omega) (by omega) (by omega) (by omega)) (fun i hi => by rw [x5 3 (by omega) (by omega) (by omega) (by omega)]; exact (hT.2.2.2 i hi).1)
      · refine ⟨by simp only; rw [z1 0 (by omega)]; simp, by simp only; rw [e2]; omega, fun w hw => absurd hw (by omega), fun w hw => absurd hw (by omega), fun i j h1 h2 => ?_, fun l hl => ?_⟩
        · simp only at h2; rw [e2] at h2; exact absurd h2 (by simp)
        · simp only at hl; rw [e2] at hl; exact absurd hl (by simp)
      · refine ⟨fun w _ hw => ⟨by rw [z1 _ (by omega), if_neg (by omega)], by rw [z1 _ (by omega), if_neg (by omega)]⟩, fun a _ ha => ⟨by rw [z1 _ (by omega), if_neg (by omega)], by rw [z1 _ (by omega), if_neg (by omega)], by rw [z1 _ (by omega), if_neg (by omega)]⟩⟩
      · rw [z4 5 (by omega) (by omega) (by omega) (by omega) (by omega) (by omega) (by omega) (by omega) (by omega) (by omega)]; exact hM.2.2.2
      · exact ⟨by show σ1 10 5 = s' 0 25; rw [x4, z25], fun _ => 0, fun j hj => absurd hj (by omega)⟩
      · refine XC_row x1 (fun i hi => ?_)
        rw [z1 i hi]
        rfl
      · rw [e2] at hi; exact absurd hi (by simp)
  · refine ⟨ev_i 0, fun σ' => σ' = σ, fun s' => s' = ev_up s 0 0 0, ?_, ?_, fun σ' s' e1 e2 => by rw [e1, e2]; exact XR_no hR⟩
    · exact wp_X11_town_0 ⟨fun q => ⟨rfl, rfl⟩, fun _ => ⟨fun q => ⟨rfl, rfl⟩, fun _ => ⟨fun q => ⟨rfl, rfl⟩, fun _ => ⟨fun q => absurd (And.intro (And.intro (by omega) (by omega)) (And.intro (by omega) (by omega))) c, fun q => ⟨rfl, rfl⟩⟩⟩⟩⟩
    · refine wp_X12_town_0 ?_
      rintro _ rfl
      refine sp_isIn (ev_pi_mk ?_)
      by_cases c1 : 2 ≤ w ∧ w ≤ 8
      · rw [if_pos c1]
        refine ⟨fun q => absurd q (by omega), fun _ => sp_isIn (ev_pi_mk ?_)⟩
        rw [if_neg (fun q => c ⟨c1, q⟩)]
        exact ⟨fun q => absurd rfl q, fun _ => ⟨rfl, rfl⟩⟩
      · rw [if_neg c1]
        exact ⟨fun _ => ⟨rfl, rfl⟩, fun q => absurd rfl q⟩
