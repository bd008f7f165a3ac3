/-! set, ward, angel, other -/
theorem tok_mk {T T' : ev_S} {N A NO MI N' A' NO' : Nat} (hT : m_tok T N A NO MI) (e6 : T' 0 6 = T 0 6) (e7 : T' 0 7 = T 0 7) (e46 : T' 0 46 = T 0 46) (e25 : T' 0 25 = T 0 25) (hN : T' 0 10 = (N' : Int) ∧ N' ≤ 8) (hNN : N ≤ N') (hA : T' 0 11 = (A' : Int) ∧ A' ≤ 6) (hO : T' 0 12 = (NO' : Int) ∧ NO' ≤ 6) (hg : -3 ≤ T' 0 8 ∧ T' 0 8 ≤ 6) (hpa : ∀ k, k < 5 → 0 ≤ T' 4 k ∧ T' 4 k ≤ 9) (hpok : ∀ a, a < A' → m_pok T' a) (ec : ∀ c, c = 12 ∨ c = 13 ∨ c = 14 ∨ c = 15 ∨ c = 16 ∨ c = 24 → T' c = T c) : m_tok T' N' A' NO' MI := by
  obtain ⟨hdim, ⟨hN0, hN8⟩, ⟨hA0, hA6⟩, ⟨hO0, hO6⟩, ⟨hM, hM10⟩, hg0, hpa0, hpok0, hmok, hlok⟩ := hT
  refine ⟨by unfold m_dim; rw [e6, e7]; exact hdim, hN, hA, hO, ⟨by rw [e46]; exact hM, hM10⟩, hg, hpa, hpok, fun i hi => ?_, by unfold m_lok; rw [e25, ec 13 (by omega), ec 14 (by omega), ec 15 (by omega), ec 16 (by omega)]; exact hlok⟩
  have := hmok i hi
  unfold m_mok m_pl at this ⊢
  rw [e6, e7, ec 24 (by omega)]
  refine ⟨this.1, this.2.1, this.2.2.1, ⟨this.2.2.2.1.1, by have := this.2.2.2.1.2; omega⟩, this.2.2.2.2⟩
theorem pok_mk {T T' : ev_S} {a : Nat} (h : m_pok T a) (e6 : T' 0 6 = T 0 6) (e7 : T' 0 7 = T 0 7) (e5 : 1 ≤ T' 5 a ∧ T' 5 a ≤ 9) (e27 : T' 27 a = T 27 a) (e25 : T' 25 = T 25) (e26 : T' 26 = T 26) : m_pok T' a := by
  unfold m_pok m_pl at h ⊢
  rw [e6, e7, e27, e25, e26]
  exact ⟨e5, h.2⟩
theorem rok_T {T T' : ev_S} {N A : Nat} {z : (Nat → Int) × (Nat → Int)} (h : m_rok T N A z) (e6 : T' 0 6 = T 0 6) (e7 : T' 0 7 = T 0 7) (e21 : T' 21 = T 21) (e27 : T' 27 = T 27) : m_rok T' N A z := by
  unfold m_rok m_wok m_aok m_pl at h ⊢
  rw [e6, e7, e21, e27]
  exact h
theorem XL_c {σ σ' T T' : ev_S} {K : Nat} (h : XL σ K T) (e25 : T' 0 25 = T 0 25) (ec : ∀ c, c = 12 ∨ c = 13 ∨ c = 14 ∨ c = 15 ∨ c = 16 → T' c = T c) (hf : ∀ c, K ≤ c → c ≤ K + 3 → σ' c = σ c) : XL σ' K T' := by
  unfold XL XLg at h ⊢
  rw [e25, ec 12 (by omega), ec 13 (by omega), ec 14 (by omega), ec 15 (by omega), ec 16 (by omega), hf K (by omega) (by omega), hf (K + 1) (by omega) (by omega), hf (K + 2) (by omega) (by omega), hf (K + 3) (by omega) (by omega)]
  exact h
theorem sim_set (x y v : Int) : Sim M_X11_set M_X12_set [(1, ev_i x), (2, ev_i y), (3, ev_i v)] := by
  intro σ s hσ hs hR
  have hR0 := hR
  obtain ⟨N, A, NO, MI, hM, hX, hP, hF, hI, hT⟩ := hR
  obtain ⟨hT0, hr, hz, h5⟩ := hM
  have hT1 := hT0
  obtain ⟨hdim, ⟨hN, hN8⟩, ⟨hA, hA6⟩, ⟨hO, hO6⟩, ⟨hMI, hM10⟩, hg, hpa, hpok, hmok, hlok⟩ := hT1
  obtain ⟨⟨x0, x1, x2, x4, x7, x11, x13⟩, xp, xw, xa, xo, xm, xl⟩ := hX.1
  have eA : σ 1 7 = (A : Int) := by rw [x7]; exact hA
  have h3b : ∀ i, i < 4800 → -128 ≤ σ 3 i ∧ σ 3 i ≤ 127 := fun i hi => (hT.2.2.2 i hi).1
  by_cases c0 : x = 0 ∧ 0 ≤ v ∧ v ≤ 9
  · obtain ⟨rfl, hv⟩ := c0
    refine ⟨ev_i 1, fun σ' => σ' = tld (ev_up σ 1 2 v), fun s' => s' = ev_up (ev_up (ev_up s 0 0 0) 0 8 (v - 3)) 0 3 0, ?_, ?_, ?_⟩
    · refine wp_X11_set_0 ⟨fun q => absurd q (by omega), fun _ => ⟨fun _ => ⟨fun q => absurd rfl q, fun _ => ?_⟩, fun q => absurd q (by omega)⟩⟩
      rintro _ rfl
      exact sp_tld ⟨rfl, rfl⟩
    · refine wp_X12_set_0 ?_
      rintro _ rfl
      refine ⟨fun _ => ⟨fun _ => ⟨fun q => absurd rfl q, fun _ => sp_isIn (ev_pi_mk ?_)⟩, fun q => absurd q (by omega)⟩, fun q => absurd q (by omega)⟩
      rw [if_pos hv]
      refine ⟨fun _ => wp_X12_set_78 ⟨fun q => absurd rfl q, fun _ => ?_⟩, fun q => absurd q (by omega)⟩
      rw [ev_sub_eq ⟨by omega, by omega⟩]
      rintro _ rfl
      refine ⟨fun _ => wp_X12_set_101 ⟨fun _ => ?_, fun q => absurd q (by omega)⟩, fun q => absurd q (by omega)⟩
      rintro _ rfl
      exact ⟨rfl, rfl⟩
    · rintro _ _ rfl rfl
      generalize es : ev_up (ev_up (ev_up s 0 0 0) 0 8 (v - 3)) 0 3 0 = s'
      have e0 : ∀ i, i ≠ 0 → i ≠ 3 → i ≠ 8 → s' 0 i = s 0 i := fun i h1 h2 h3 => by rw [← es, ev_up_ne _ _ (by omega), ev_up_ne _ _ (by omega), ev_up_ne _ _ (by omega)]
      have e8 : s' 0 8 = v - 3 := by rw [← es, ev_up_ne _ _ (by omega), ev_up_same]
      have e3 : s' 0 3 = 0 := by rw [← es, ev_up_same]
      have ec : ∀ c, c ≠ 0 → s' c = s c := fun c h0 => by rw [← es, ev_upj _ _ h0, ev_upj _ _ h0, ev_upj _ _ h0]
      have f1 : ∀ i, i ≠ 2 → ev_up σ 1 2 v 1 i = σ 1 i := fun i hi => ev_up_ne _ _ (by omega)
      refine XR_tld (N' := N) (A' := A) (NO' := NO) (MI' := MI) hP hI hT ⟨tok_mk hT0 (e0 6 (by omega) (by omega) (by omega)) (e0 7 (by omega) (by omega) (by omega)) (e0 46 (by omega) (by omega) (by omega)) (e0 25 (by omega) (by omega) (by omega)) ⟨by rw [e0 10 (by omega) (by omega) (by omega)]; exact hN, hN8⟩ (Nat.le_refl _) ⟨by rw [e0 11 (by omega) (by omega) (by omega)]; exact hA, hA6⟩ ⟨by rw [e0 12 (by omega) (by omega) (by omega)]; exact hO, hO6⟩ (by rw [e8]; omega) (by rw [ec 4 (by omega)]; exact hpa) (fun a ha => pok_mk (hpok a ha) (e0 6 (by omega) (by omega) (by omega)) (e0 7 (by omega) (by omega) (by omega)) (by rw [ec 5 (by omega)]; exact (hpok a ha).1) (by rw [ec 27 (by omega)]) (ec 25 (by omega)) (ec 26 (by omega))) (fun c hc => ec c (by omega)), ?_, by rw [ec 1 (by omega)]; exact hz, by rw [e0 5 (by omega) (by omega) (by omega)]; exact h5⟩ ⟨⟨⟨?_, ?_, ?_, ?_, ?_, ?_, ?_⟩, ?_, ?_, ?_, ?_, ?_, ?_⟩, ?_, fun i hi => ?_⟩ e3 (by rw [ev_upj _ _ (by omega)]) (fun i hi => e0 i (by omega) (by omega) (by omega)) (fun c hc => ec c (by omega)) (fun c c1 c2 c3 => ev_upj _ _ (by omega)) (fun i hi => by rw [ev_upj _ _ (by omega)]; exact h3b i hi)
      · rw [ec 1 (by omega), ec 9 (by omega)]; exact rok_T hr (e0 6 (by omega) (by omega) (by omega)) (e0 7 (by omega) (by omega) (by omega)) (ec 21 (by omega)) (ec 27 (by omega))
      · rw [f1 0 (by omega), e0 6 (by omega) (by omega) (by omega)]; exact x0
      · rw [f1 1 (by omega), e0 7 (by omega) (by omega) (by omega)]; exact x1
      · rw [ev_up_same, e8]; omega
      · rw [f1 4 (by omega), e0 10 (by omega) (by omega) (by omega)]; exact x4
      · rw [f1 7 (by omega), e0 11 (by omega) (by omega) (by omega)]; exact x7
      · rw [f1 11 (by omega), e0 12 (by omega) (by omega) (by omega)]; exact x11
      · rw [f1 13 (by omega), e0 46 (by omega) (by omega) (by omega)]; exact x13
      · rw [ev_upj _ _ (by omega), ec 4 (by omega)]; exact xp
      · rw [ev_upj _ _ (by omega), ev_upj _ _ (by omega), ec 21 (by omega), ec 20 (by omega), e0 10 (by omega) (by omega) (by omega)]; exact xw
      · rw [ev_upj _ _ (by omega), ev_upj _ _ (by omega), ev_upj _ _ (by omega), ec 5 (by omega), ec 27 (by omega), ec 25 (by omega), ec 26 (by omega), e0 11 (by omega) (by omega) (by omega)]; exact xa
      · rw [ev_upj _ _ (by omega), ec 6 (by omega), ec 7 (by omega), ec 8 (by omega), e0 12 (by omega) (by omega) (by omega)]; exact xo
      · rw [ev_upj _ _ (by omega), ec 24 (by omega), e0 46 (by omega) (by omega) (by omega)]; exact xm
      · exact XL_c xl (e0 25 (by omega) (by omega) (by omega)) (fun c hc => ec c (by omega)) (fun c h1 h2 => ev_upj _ _ (by omega))
      · rw [ec 1 (by omega)]; exact XC_keep hX.2.1 (fun c h1 h2 => ev_upj _ _ (by omega))
      · rw [ec 1 (by omega)] at hi
        rw [ec 9 (by omega), ev_upj _ _ (by omega)]; exact hX.2.2 i hi
  · by_cases c1 : x = 1 ∧ (0 ≤ y ∧ y < 5) ∧ 0 ≤ v ∧ v ≤ 9
    · obtain ⟨rfl, hy, hv⟩ := c1
      obtain ⟨k, rfl⟩ := Int.eq_ofNat_of_zero_le hy.1
      refine ⟨ev_i 1, fun σ' => σ' = tld (ev_up σ 2 k v), fun s' => s' = ev_up (ev_up (ev_up s 0 0 0) 4 k v) 0 3 0, ?_, ?_, ?_⟩
      · refine wp_X11_set_0 ⟨fun q => absurd q (by omega), fun _ => ⟨fun _ => ⟨fun _ => ⟨fun q => absurd rfl q, fun _ => ⟨fun q => absurd q (by omega), fun _ => ⟨fun q => absurd q (by omega), fun _ => ⟨by omega, ?_⟩⟩⟩⟩, fun q => absurd q (by omega)⟩, fun q => absurd q (by omega)⟩⟩
        rw [Int.toNat_natCast]
        rintro _ rfl
        exact sp_tld ⟨rfl, rfl⟩
      · refine wp_X12_set_0 ?_
        rintro _ rfl
        refine ⟨fun _ => ⟨fun q => absurd rfl q, fun _ => sp_isIn (ev_pi_mk ?_)⟩, fun q => absurd q (by omega)⟩
        rw [if_pos (by omega)]
        refine ⟨fun q => absurd q (by omega), fun _ => sp_isIn (ev_pi_mk ?_)⟩
        rw [if_pos hv]
        refine ⟨fun _ => wp_X12_set_78 ⟨fun _ => ⟨fun q => absurd rfl q, fun _ => ⟨by omega, ?_⟩⟩, fun q => absurd q (by omega)⟩, fun q => absurd q (by omega)⟩
        rw [Int.toNat_natCast]
        rintro _ rfl
        refine wp_X12_set_101 ⟨fun _ => ?_, fun q => absurd q (by omega)⟩
        rintro _ rfl
        exact ⟨rfl, rfl⟩
      · rintro _ _ rfl rfl
        generalize es : ev_up (ev_up (ev_up s 0 0 0) 4 k v) 0 3 0 = s'
        have e0 : ∀ i, i ≠ 0 → i ≠ 3 → s' 0 i = s 0 i := fun i h1 h2 => by rw [← es, ev_up_ne _ _ (by omega), ev_upj _ _ (by omega), ev_up_ne _ _ (by omega)]
        have e4 : ∀ i, s' 4 i = if i = k then v else s 4 i := fun i => by
          rw [← es, ev_upj _ _ (by omega), ev_up_set, ev_set_same, ev_upj _ _ (by omega)]; rfl
        have e3 : s' 0 3 = 0 := by rw [← es, ev_up_same]
        have ec : ∀ c, c ≠ 0 → c ≠ 4 → s' c = s c := fun c h0 h4 => by rw [← es, ev_upj _ _ h0, ev_upj _ _ h4, ev_upj _ _ h0]
        have hp4 : ∀ j, j < 5 → 0 ≤ s' 4 j ∧ s' 4 j ≤ 9 := fun j hj => by
          rw [e4]
          split
          · exact hv
          · exact hpa j hj
        have f2 : ∀ i, ev_up σ 2 k v 2 i = if i = k then v else σ 2 i := fun i => by rw [ev_up_set, ev_set_same]; rfl
        refine XR_tld (N' := N) (A' := A) (NO' := NO) (MI' := MI) hP hI hT ⟨tok_mk hT0 (e0 6 (by omega) (by omega)) (e0 7 (by omega) (by omega)) (e0 46 (by omega) (by omega)) (e0 25 (by omega) (by omega)) ⟨by rw [e0 10 (by omega) (by omega)]; exact hN, hN8⟩ (Nat.le_refl _) ⟨by rw [e0 11 (by omega) (by omega)]; exact hA, hA6⟩ ⟨by rw [e0 12 (by omega) (by omega)]; exact hO, hO6⟩ (by rw [e0 8 (by omega) (by omega)]; exact hg) hp4 (fun a ha => pok_mk (hpok a ha) (e0 6 (by omega) (by omega)) (e0 7 (by omega) (by omega)) (by rw [ec 5 (by omega) (by omega)]; exact (hpok a ha).1) (by rw [ec 27 (by omega) (by omega)]) (ec 25 (by omega) (by omega)) (ec 26 (by omega) (by omega))) (fun c hc => ec c (by omega) (by omega)), ?_, by rw [ec 1 (by omega) (by omega)]; exact hz, by rw [e0 5 (by omega) (by omega)]; exact h5⟩ ⟨⟨⟨?_, ?_, ?_, ?_, ?_, ?_, ?_⟩, ?_, ?_, ?_, ?_, ?_, ?_⟩, ?_, fun i hi => ?_⟩ e3 (by rw [ev_upj _ _ (by omega)]) (fun i hi => e0 i (by omega) (by omega)) (fun c hc => ec c (by omega) (by omega)) (fun c c1 c2 c3 => ev_upj _ _ (by omega)) (fun i hi => by rw [ev_upj _ _ (by omega)]; exact h3b i hi)
        · rw [ec 1 (by omega) (by omega), ec 9 (by omega) (by omega)]; exact rok_T hr (e0 6 (by omega) (by omega)) (e0 7 (by omega) (by omega)) (ec 21 (by omega) (by omega)) (ec 27 (by omega) (by omega))
        · rw [ev_upj _ _ (by omega), e0 6 (by omega) (by omega)]; exact x0
        · rw [ev_upj _ _ (by omega), e0 7 (by omega) (by omega)]; exact x1
        · rw [ev_upj _ _ (by omega), e0 8 (by omega) (by omega)]; exact x2
        · rw [ev_upj _ _ (by omega), e0 10 (by omega) (by omega)]; exact x4
        · rw [ev_upj _ _ (by omega), e0 11 (by omega) (by omega)]; exact x7
        · rw [ev_upj _ _ (by omega), e0 12 (by omega) (by omega)]; exact x11
        · rw [ev_upj _ _ (by omega), e0 46 (by omega) (by omega)]; exact x13
        · intro j hj
          show ev_up σ 2 k v 2 j = _
          rw [f2, e4]
          split
          · rfl
          · exact xp j hj
        · rw [ev_upj _ _ (by omega), ev_upj _ _ (by omega), ec 21 (by omega) (by omega), ec 20 (by omega) (by omega), e0 10 (by omega) (by omega)]; exact xw
        · rw [ev_upj _ _ (by omega), ev_upj _ _ (by omega), ev_upj _ _ (by omega), ec 5 (by omega) (by omega), ec 27 (by omega) (by omega), ec 25 (by omega) (by omega), ec 26 (by omega) (by omega), e0 11 (by omega) (by omega)]; exact xa
        · rw [ev_upj _ _ (by omega), ec 6 (by omega) (by omega), ec 7 (by omega) (by omega), ec 8 (by omega) (by omega), e0 12 (by omega) (by omega)]; exact xo
        · rw [ev_upj _ _ (by omega), ec 24 (by omega) (by omega), e0 46 (by omega) (by omega)]; exact xm
        · exact XL_c xl (e0 25 (by omega) (by omega)) (fun c hc => ec c (by omega) (by omega)) (fun c h1 h2 => ev_upj _ _ (by omega))
        · rw [ec 1 (by omega) (by omega)]; exact XC_keep hX.2.1 (fun c h1 h2 => ev_upj _ _ (by omega))
        · rw [ec 1 (by omega) (by omega)] at hi
          rw [ec 9 (by omega) (by omega), ev_upj _ _ (by omega)]; exact hX.2.2 i hi
    · by_cases c2 : x = 2 ∧ (0 ≤ y ∧ y < (A : Int)) ∧ 1 ≤ v ∧ v ≤ 9
      · obtain ⟨rfl, hy, hv⟩ := c2
        obtain ⟨k, rfl⟩ := Int.eq_ofNat_of_zero_le hy.1
        refine ⟨ev_i 1, fun σ' => σ' = tld (ev_up σ 5 k v), fun s' => s' = ev_up (ev_up (ev_up s 0 0 0) 5 k v) 0 3 0, ?_, ?_, ?_⟩
        · refine wp_X11_set_0 ⟨fun q => absurd q (by omega), fun _ => ⟨fun _ => ⟨fun _ => ⟨fun _ => wp_X11_set_54 ⟨fun q => absurd rfl q, fun _ => sp_hasAngel is_X10_1 (ev_pi_mk ?_)⟩, fun q => absurd q (by omega)⟩, fun q => absurd q (by omega)⟩, fun q => absurd q (by omega)⟩⟩
          rw [eA, if_pos hy]
          refine ⟨fun q => absurd q (by omega), fun _ => ⟨fun q => absurd q (by omega), fun _ => ⟨by omega, ?_⟩⟩⟩
          rw [Int.toNat_natCast]
          rintro _ rfl
          exact sp_tld ⟨rfl, rfl⟩
        · refine wp_X12_set_0 ?_
          rintro _ rfl
          refine ⟨fun q => absurd rfl q, fun _ => sp_isAngel (ev_pi_mk ?_)⟩
          rw [ev_up_ne _ _ (by omega), hA, if_pos hy]
          refine ⟨fun q => absurd q (by omega), fun _ => sp_isIn (ev_pi_mk ?_)⟩
          rw [if_pos hv]
          refine ⟨fun _ => wp_X12_set_78 ⟨fun _ => ⟨fun _ => wp_X12_set_101 ⟨fun q => absurd rfl q, fun _ => ⟨by omega, ?_⟩⟩, fun q => absurd q (by omega)⟩, fun q => absurd q (by omega)⟩, fun q => absurd q (by omega)⟩
          rw [Int.toNat_natCast]
          rintro _ rfl _ rfl
          exact ⟨rfl, rfl⟩
        · rintro _ _ rfl rfl
          generalize es : ev_up (ev_up (ev_up s 0 0 0) 5 k v) 0 3 0 = s'
          have e0 : ∀ i, i ≠ 0 → i ≠ 3 → s' 0 i = s 0 i := fun i h1 h2 => by rw [← es, ev_up_ne _ _ (by omega), ev_upj _ _ (by omega), ev_up_ne _ _ (by omega)]
          have e5 : ∀ i, s' 5 i = if i = k then v else s 5 i := fun i => by
            rw [← es, ev_upj _ _ (by omega), ev_up_set, ev_set_same, ev_upj _ _ (by omega)]; rfl
          have e3 : s' 0 3 = 0 := by rw [← es, ev_up_same]
          have ec : ∀ c, c ≠ 0 → c ≠ 5 → s' c = s c := fun c h0 h4 => by rw [← es, ev_upj _ _ h0, ev_upj _ _ h4, ev_upj _ _ h0]
          have f5 : ∀ i, ev_up σ 5 k v 5 i = if i = k then v else σ 5 i := fun i => by rw [ev_up_set, ev_set_same]; rfl
          refine XR_tld (N' := N) (A' := A) (NO' := NO) (MI' := MI) hP hI hT ⟨tok_mk hT0 (e0 6 (by omega) (by omega)) (e0 7 (by omega) (by omega)) (e0 46 (by omega) (by omega)) (e0 25 (by omega) (by omega)) ⟨by rw [e0 10 (by omega) (by omega)]; exact hN, hN8⟩ (Nat.le_refl _) ⟨by rw [e0 11 (by omega) (by omega)]; exact hA, hA6⟩ ⟨by rw [e0 12 (by omega) (by omega)]; exact hO, hO6⟩ (by rw [e0 8 (by omega) (by omega)]; exact hg) (by rw [ec 4 (by omega) (by omega)]; exact hpa) (fun a ha => pok_mk (hpok a ha) (e0 6 (by omega) (by omega)) (e0 7 (by omega) (by omega)) ?_ (by rw [ec 27 (by omega) (by omega)]) (ec 25 (by omega) (by omega)) (ec 26 (by omega) (by omega))) (fun c hc => ec c (by omega) (by omega)), ?_, by rw [ec 1 (by omega) (by omega)]; exact hz, by rw [e0 5 (by omega) (by omega)]; exact h5⟩ ⟨⟨⟨?_, ?_, ?_, ?_, ?_, ?_, ?_⟩, ?_, ?_, ?_, ?_, ?_, ?_⟩, ?_, fun i hi => ?_⟩ e3 (by rw [ev_upj _ _ (by omega)]) (fun i hi => e0 i (by omega) (by omega)) (fun c hc => ec c (by omega) (by omega)) (fun c c1 c2 c3 => ev_upj _ _ (by omega)) (fun i hi => by rw [ev_upj _ _ (by omega)]; exact h3b i hi)
          · rw [e5]
            split
            · exact hv
            · exact (hpok a ha).1
          · rw [ec 1 (by omega) (by omega), ec 9 (by omega) (by omega)]; exact rok_T hr (e0 6 (by omega) (by omega)) (e0 7 (by omega) (by omega)) (ec 21 (by omega) (by omega)) (ec 27 (by omega) (by omega))
          · rw [ev_upj _ _ (by omega), e0 6 (by omega) (by omega)]; exact x0
          · rw [ev_upj _ _ (by omega), e0 7 (by omega) (by omega)]; exact x1
          · rw [ev_upj _ _ (by omega), e0 8 (by omega) (by omega)]; exact x2
          · rw [ev_upj _ _ (by omega), e0 10 (by omega) (by omega)]; exact x4
          · rw [ev_upj _ _ (by omega), e0 11 (by omega) (by omega)]; exact x7
          · rw [ev_upj _ _ (by omega), e0 12 (by omega) (by omega)]; exact x11
          · rw [ev_upj _ _ (by omega), e0 46 (by omega) (by omega)]; exact x13
          · rw [ev_upj _ _ (by omega), ec 4 (by omega) (by omega)]; exact xp
          · rw [ev_upj _ _ (by omega), ev_upj _ _ (by omega), ec 21 (by omega) (by omega), ec 20 (by omega) (by omega), e0 10 (by omega) (by omega)]; exact xw
          · intro a ha
            rw [e0 11 (by omega) (by omega)] at ha
            have ha5 : ev_up σ 5 k v 5 a = s' 5 a := by
              rw [f5, e5]
              split
              · rfl
              · exact (xa a ha).1
            refine ⟨ha5, ?_⟩
            rw [ev_upj _ _ (by omega), ev_upj _ _ (by omega), ec 27 (by omega) (by omega), ec 25 (by omega) (by omega), ec 26 (by omega) (by omega)]
            exact (xa a ha).2
          · rw [ev_upj _ _ (by omega), ec 6 (by omega) (by omega), ec 7 (by omega) (by omega), ec 8 (by omega) (by omega), e0 12 (by omega) (by omega)]; exact xo
          · rw [ev_upj _ _ (by omega), ec 24 (by omega) (by omega), e0 46 (by omega) (by omega)]; exact xm
          · exact XL_c xl (e0 25 (by omega) (by omega)) (fun c hc => ec c (by omega) (by omega)) (fun c h1 h2 => ev_upj _ _ (by omega))
          · rw [ec 1 (by omega) (by omega)]; exact XC_keep hX.2.1 (fun c h1 h2 => ev_upj _ _ (by omega))
          · rw [ec 1 (by omega) (by omega)] at hi
            rw [ec 9 (by omega) (by omega), ev_upj _ _ (by omega)]; exact hX.2.2 i hi
      · refine ⟨ev_i 0, fun σ' => σ' = σ, fun s' => s' = ev_up s 0 0 0, ?_, ?_, fun σ' s' e1 e2 => by rw [e1, e2]; exact XR_no hR0⟩
        · have go : 0 ≤ v → v ≤ 9 → Ev layX M_X11_set 60 54 [(0, ev_r 0), (1, ev_i x), (2, ev_i y), (3, ev_i v)] [] σ (fun u σ' => u = some (ev_i 0) ∧ σ' = σ) := by
            intro v0 v9
            refine wp_X11_set_54 ⟨fun q => ⟨rfl, rfl⟩, fun q => sp_hasAngel is_X10_1 (ev_pi_mk ?_)⟩
            rw [eA]
            by_cases d1 : 0 ≤ y ∧ y < (A : Int)
            · rw [if_pos d1]
              exact ⟨fun q => absurd q (by omega), fun _ => ⟨fun _ => ⟨rfl, rfl⟩, fun q2 => absurd (And.intro q (And.intro d1 (And.intro (by omega) v9))) c2⟩⟩
            · rw [if_neg d1]
              exact ⟨fun _ => ⟨rfl, rfl⟩, fun q => absurd rfl q⟩
          exact wp_X11_set_0 ⟨fun q => ⟨rfl, rfl⟩, fun q => ⟨fun q2 => ⟨fun q3 => ⟨fun _ => go q q2, fun q4 => ⟨fun _ => go q q2, fun q5 => ⟨fun _ => go q q2, fun q6 => absurd (And.intro q4 (And.intro (And.intro q5 q6) (And.intro q q2))) c1⟩⟩⟩, fun q3 => absurd (And.intro q3 (And.intro q q2)) c0⟩, fun _ => ⟨rfl, rfl⟩⟩⟩
        · refine wp_X12_set_0 ?_
          rintro _ rfl
          refine ⟨fun q2 => ⟨fun q1 => ⟨fun q0 => ⟨rfl, rfl⟩, fun q0 => sp_isIn (ev_pi_mk ?_)⟩, fun q1 => sp_isIn (ev_pi_mk ?_)⟩, fun q2 => sp_isAngel (ev_pi_mk ?_)⟩
          · rw [if_neg (fun z => c0 ⟨q0, z⟩)]
            exact ⟨fun q => absurd rfl q, fun _ => ⟨rfl, rfl⟩⟩
          · by_cases d1 : 0 ≤ y ∧ y ≤ 4
            · rw [if_pos d1]
              refine ⟨fun q => absurd q (by omega), fun _ => sp_isIn (ev_pi_mk ?_)⟩
              rw [if_neg (fun z => c1 ⟨q1, by omega, z⟩)]
              exact ⟨fun q => absurd rfl q, fun _ => ⟨rfl, rfl⟩⟩
            · rw [if_neg d1]
              exact ⟨fun _ => ⟨rfl, rfl⟩, fun q => absurd rfl q⟩
          · rw [ev_up_ne _ _ (by omega), hA]
            by_cases d1 : 0 ≤ y ∧ y < (A : Int)
            · rw [if_pos d1]
              refine ⟨fun q => absurd q (by omega), fun _ => sp_isIn (ev_pi_mk ?_)⟩
              rw [if_neg (fun z => c2 ⟨q2, d1, z⟩)]
              exact ⟨fun q => absurd rfl q, fun _ => ⟨rfl, rfl⟩⟩
            · rw [if_neg d1]
              exact ⟨fun _ => ⟨rfl, rfl⟩, fun q => absurd rfl q⟩
