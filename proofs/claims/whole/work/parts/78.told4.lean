/-! angel, other -/
theorem sim_angel (p c : Int) (hp : ev_R p) : Sim M_X11_angel M_X12_angel [(1, ev_i p), (2, ev_i c)] := by
  intro σ s hσ hs hR
  have hR0 := hR
  obtain ⟨N, A, NO, MI, hM, hX, hP, hF, hI, hT⟩ := hR
  obtain ⟨hT0, hr, hz, h5⟩ := hM
  have hT1 := hT0
  obtain ⟨hdim, ⟨hN, hN8⟩, ⟨hA, hA6⟩, ⟨hO, hO6⟩, ⟨hMI, hM10⟩, hg, hpa, hpok, hmok, hlok⟩ := hT1
  obtain ⟨⟨x0, x1, x2, x4, x7, x11, x13⟩, xp, xw, xa, xo, xm, xl⟩ := hX.1
  have eA : σ 1 7 = (A : Int) := by rw [x7]; exact hA
  have h3b : ∀ i, i < 4800 → -128 ≤ σ 3 i ∧ σ 3 i ≤ 127 := fun i hi => (hT.2.2.2 i hi).1
  have d6 := hdim.1
  have d7 := hdim.2
  have e06 : ev_up s 0 0 0 0 6 = s 0 6 := ev_up_ne _ _ (by omega)
  have e07 : ev_up s 0 0 0 0 7 = s 0 7 := ev_up_ne _ _ (by omega)
  have e011 : ev_up s 0 0 0 0 11 = (A : Int) := by rw [ev_up_ne _ _ (by omega)]; exact hA
  have n01 : (0 : Nat) ≠ 1 := by omega
  by_cases cc : (0 ≤ p ∧ p % 8 < s 0 6 + 8 ∧ p / 8 < s 0 7 + 8) ∧ (1 ≤ c ∧ c ≤ 9) ∧ A < 6
  · obtain ⟨hpl, hc, hA5⟩ := cc
    refine ⟨ev_i (A : Int), fun σ' => σ' = tld (ev_up (ev_up (ev_up (ev_up σ 1 7 ((A : Int) + 1)) 5 A c) 7 A 0) 19 A p), fun s' => s' = ev_up (ev_up (ev_up (ev_up (ev_up (ev_up (ev_up (ev_up (ev_up (ev_up s 0 0 0) 1 (27 + A) p) 1 (33 + A) 0) 1 (39 + A) 0) 1 (45 + A) 0) 1 (51 + A) 0) 5 A c) 27 A 0) 0 11 ((A : Int) + 1)) 0 3 0, ?_, ?_, ?_⟩
    · refine wp_X11_angel_0 (sp_hasPlace is_X10_1 ⟨x0, x1⟩ hdim (ev_pi_mk ?_))
      rw [if_pos hpl, eA, ev_add_eq ⟨by omega, by omega⟩, Int.toNat_natCast]
      refine ⟨fun q => absurd q (by omega), fun _ => ⟨fun q => absurd q (by omega), fun _ => ⟨fun q => absurd q (by omega), fun _ => ⟨fun _ => ?_, fun q => absurd q (by omega)⟩⟩⟩⟩
      rintro _ rfl
      refine ⟨by omega, ?_⟩
      rintro _ rfl
      refine ⟨by omega, ?_⟩
      rintro _ rfl
      refine ⟨by omega, ?_⟩
      rintro _ rfl
      exact sp_tld ⟨rfl, rfl⟩
    · refine wp_X12_angel_0 ?_
      rintro _ rfl
      refine sp_isPlace (by have := hp.2; omega) (by rw [e06]; omega) (by rw [e07]; omega) (ev_pi_mk ?_)
      rw [e06, e07, if_pos hpl]
      refine ⟨fun q => absurd q (by omega), fun _ => sp_isIn (ev_pi_mk ?_)⟩
      rw [if_pos hc, e011]
      refine ⟨fun q => absurd q (by omega), fun _ => ⟨fun _ => ?_, fun q => absurd q (by omega)⟩⟩
      rw [ev_add_eq ⟨by omega, by omega⟩, tn_lit]
      refine ⟨by omega, ?_⟩
      rintro _ rfl
      rw [ev_upj _ _ n01, e011, ev_add_eq ⟨by omega, by omega⟩, tn_lit]
      refine ⟨by omega, ?_⟩
      rintro _ rfl
      rw [ev_upj _ _ n01, ev_upj _ _ n01, e011, ev_add_eq ⟨by omega, by omega⟩, tn_lit]
      refine ⟨by omega, ?_⟩
      rintro _ rfl
      rw [ev_upj _ _ n01, ev_upj _ _ n01, ev_upj _ _ n01, e011, ev_add_eq ⟨by omega, by omega⟩, tn_lit]
      refine ⟨by omega, ?_⟩
      rintro _ rfl
      rw [ev_upj _ _ n01, ev_upj _ _ n01, ev_upj _ _ n01, ev_upj _ _ n01, e011, ev_add_eq ⟨by omega, by omega⟩, tn_lit]
      refine ⟨by omega, ?_⟩
      rintro _ rfl
      rw [ev_upj _ _ n01, ev_upj _ _ n01, ev_upj _ _ n01, ev_upj _ _ n01, ev_upj _ _ n01, e011, Int.toNat_natCast]
      refine ⟨by omega, ?_⟩
      rintro _ rfl
      rw [ev_upj _ _ (show (0 : Nat) ≠ 5 by omega), ev_upj _ _ n01, ev_upj _ _ n01, ev_upj _ _ n01, ev_upj _ _ n01, ev_upj _ _ n01, e011, Int.toNat_natCast]
      refine ⟨by omega, ?_⟩
      rintro _ rfl
      rw [ev_upj _ _ (show (0 : Nat) ≠ 27 by omega), ev_upj _ _ (show (0 : Nat) ≠ 5 by omega), ev_upj _ _ n01, ev_upj _ _ n01, ev_upj _ _ n01, ev_upj _ _ n01, ev_upj _ _ n01, e011, ev_add_eq ⟨by omega, by omega⟩]
      rintro _ rfl _ rfl
      refine ⟨?_, rfl⟩
      rw [ev_up_ne _ _ (by omega), ev_up_same, ev_sub_eq ⟨by omega, by omega⟩]
      congr 2
      omega
    · rintro _ _ rfl rfl
      generalize es : ev_up (ev_up (ev_up (ev_up (ev_up (ev_up (ev_up (ev_up (ev_up (ev_up s 0 0 0) 1 (27 + A) p) 1 (33 + A) 0) 1 (39 + A) 0) 1 (45 + A) 0) 1 (51 + A) 0) 5 A c) 27 A 0) 0 11 ((A : Int) + 1)) 0 3 0 = s'
      have e0 : ∀ i, i ≠ 0 → i ≠ 3 → i ≠ 11 → s' 0 i = s 0 i := fun i h1 h2 h3 => by rw [← es, ev_up_ne _ _ (by omega), ev_up_ne _ _ (by omega), ev_upj _ _ (by omega), ev_upj _ _ (by omega), ev_upj _ _ n01, ev_upj _ _ n01, ev_upj _ _ n01, ev_upj _ _ n01, ev_upj _ _ n01, ev_up_ne _ _ (by omega)]
      have e11 : s' 0 11 = ((A + 1 : Nat) : Int) := by rw [← es, ev_up_ne _ _ (by omega), ev_up_same]; omega
      have e3 : s' 0 3 = 0 := by rw [← es, ev_up_same]
      have ec : ∀ c, c ≠ 0 → c ≠ 1 → c ≠ 5 → c ≠ 27 → s' c = s c := fun c h0 h1 h2 h3 => by rw [← es, ev_upj _ _ h0, ev_upj _ _ h0, ev_upj _ _ h3, ev_upj _ _ h2, ev_upj _ _ h1, ev_upj _ _ h1, ev_upj _ _ h1, ev_upj _ _ h1, ev_upj _ _ h1, ev_upj _ _ h0]
      have e5 : s' 5 = rup (s 5) A c := by rw [← es, ev_upj _ _ (by omega), ev_upj _ _ (by omega), ev_upj _ _ (by omega), ev_up_set, ev_set_same, ev_upj _ _ (by omega), ev_upj _ _ (by omega), ev_upj _ _ (by omega), ev_upj _ _ (by omega), ev_upj _ _ (by omega), ev_upj _ _ (by omega)]
      have e27 : s' 27 = rup (s 27) A 0 := by rw [← es, ev_upj _ _ (by omega), ev_upj _ _ (by omega), ev_up_set, ev_set_same, ev_upj _ _ (by omega), ev_upj _ _ (by omega), ev_upj _ _ (by omega), ev_upj _ _ (by omega), ev_upj _ _ (by omega), ev_upj _ _ (by omega), ev_upj _ _ (by omega)]
      have z1 := hz.2 A (Nat.le_refl A) hA5
      have e1 : s' 1 = rup (rup (s 1) (27 + A) p) (45 + A) 0 := by
        rw [← es, ev_upj _ _ (by omega), ev_upj _ _ (by omega), ev_upj _ _ (by omega), ev_upj _ _ (by omega), ev_up_set, ev_set_same, ev_up_set, ev_set_same, ev_up_set, ev_set_same, ev_up_set, ev_set_same, ev_up_set, ev_set_same, ev_upj _ _ (show (1 : Nat) ≠ 0 by omega)]
        rw [rup_id (r := rup (s 1) (27 + A) p) (i := 33 + A) (by rw [rup_ne _ _ (by omega)]; exact z1.1), rup_id (r := rup (s 1) (27 + A) p) (i := 39 + A) (by rw [rup_ne _ _ (by omega)]; exact z1.2.1), rup_id (i := 51 + A) (by rw [rup_ne _ _ (by omega), rup_ne _ _ (by omega)]; exact z1.2.2)]
      have er : ∀ i, i ≠ 27 + A → i ≠ 45 + A → s' 1 i = s 1 i := fun i hi hj => by rw [e1, rup_ne _ _ hj, rup_ne _ _ hi]
      have er27 : s' 1 (27 + A) = p := by rw [e1, rup_ne _ _ (by omega), rup_same]
      have er45 : s' 1 (45 + A) = 0 := by rw [e1, rup_same]
      obtain ⟨r1, r2, r3, r4, r5, r6⟩ := hr
      simp only at r1 r2 r3 r4 r5 r6
      have eP : ∀ q, m_pl s' q = m_pl s q := fun q => by unfold m_pl; rw [e0 6 (by omega) (by omega) (by omega), e0 7 (by omega) (by omega) (by omega)]
      generalize eσ : ev_up (ev_up (ev_up (ev_up σ 1 7 ((A : Int) + 1)) 5 A c) 7 A 0) 19 A p = σ1
      have f1 : ∀ i, i ≠ 7 → σ1 1 i = σ 1 i := fun i hi => by rw [← eσ, ev_upj _ _ (by omega), ev_upj _ _ (by omega), ev_upj _ _ (by omega), ev_up_ne _ _ (by omega)]
      have f17 : σ1 1 7 = ((A + 1 : Nat) : Int) := by rw [← eσ, ev_upj _ _ (by omega), ev_upj _ _ (by omega), ev_upj _ _ (by omega), ev_up_same]; omega
      have f5 : σ1 5 = rup (σ 5) A c := by rw [← eσ, ev_upj _ _ (by omega), ev_upj _ _ (by omega), ev_up_set, ev_set_same, ev_upj _ _ (by omega)]
      have f7 : σ1 7 = rup (σ 7) A 0 := by rw [← eσ, ev_upj _ _ (by omega), ev_up_set, ev_set_same, ev_upj _ _ (by omega), ev_upj _ _ (by omega)]
      have fc : ∀ c, c ≠ 1 → c ≠ 5 → c ≠ 7 → c ≠ 19 → σ1 c = σ c := fun c h1 h4 h7 h16 => by rw [← eσ, ev_upj _ _ h16, ev_upj _ _ h7, ev_upj _ _ h4, ev_upj _ _ h1]
      have hC1 : XC σ1 15 (s' 1) := by
        rw [← eσ, e1]
        refine XC_goaly (by omega) (by rw [rup_ne _ _ (by omega), z1.1]; omega) ?_
        exact XC_ap (k := 15) hA5 (XC_keep hX.2.1 (fun c h1 h2 => by rw [ev_upj _ _ (by omega), ev_upj _ _ (by omega), ev_upj _ _ (by omega)]))
      have hpok' : ∀ a, a < A + 1 → m_pok s' a := by
        intro a ha
        by_cases ea : a = A
        · subst ea
          refine ⟨by rw [e5, rup_same]; exact hc, by rw [e27, rup_same]; omega, fun i hi => ?_⟩
          rw [e27, rup_same] at hi
          exact absurd hi (by omega)
        · refine pok_mk (hpok a (by omega)) (e0 6 (by omega) (by omega) (by omega)) (e0 7 (by omega) (by omega) (by omega)) (by rw [e5, rup_ne _ _ ea]; exact (hpok a (by omega)).1) (by rw [e27, rup_ne _ _ ea]) (ec 25 (by omega) (by omega) (by omega) (by omega)) (ec 26 (by omega) (by omega) (by omega) (by omega))
      refine XR_tld (N' := N) (A' := A + 1) (NO' := NO) (MI' := MI) hP hI hT ⟨tok_mk hT0 (e0 6 (by omega) (by omega) (by omega)) (e0 7 (by omega) (by omega) (by omega)) (e0 46 (by omega) (by omega) (by omega)) (e0 25 (by omega) (by omega) (by omega)) ⟨by rw [e0 10 (by omega) (by omega) (by omega)]; exact hN, hN8⟩ (Nat.le_refl _) ⟨e11, by omega⟩ ⟨by rw [e0 12 (by omega) (by omega) (by omega)]; exact hO, hO6⟩ (by rw [e0 8 (by omega) (by omega) (by omega)]; exact hg) (by rw [ec 4 (by omega) (by omega) (by omega) (by omega)]; exact hpa) hpok' (fun c hc => ec c (by omega) (by omega) (by omega) (by omega)), ?_, ?_, by rw [e0 5 (by omega) (by omega) (by omega)]; exact h5⟩ ⟨⟨⟨?_, ?_, ?_, ?_, ?_, ?_, ?_⟩, ?_, ?_, ?_, ?_, ?_, ?_⟩, hC1, fun i hi => ?_⟩ e3 (by rw [fc 29 (by omega) (by omega) (by omega) (by omega)]) (fun i hi => e0 i (by omega) (by omega) (by omega)) (fun c hc => ec c (by omega) (by omega) (by omega) (by omega)) (fun c c1 c2 c3 => fc c (by omega) (by omega) (by omega) (by omega)) (fun i hi => by rw [fc 3 (by omega) (by omega) (by omega) (by omega)]; exact h3b i hi)
      · refine ⟨by simp only; rw [er 0 (by omega) (by omega)]; exact r1, by simp only; rw [er 2 (by omega) (by omega)]; exact r2, fun w hw => ?_, fun a ha => ?_, by simp only; rw [er 2 (by omega) (by omega), ec 9 (by omega) (by omega) (by omega) (by omega)]; exact r5, fun l hl => ?_⟩
        · simp only
          obtain ⟨w1, w2⟩ := r3 w (by omega)
          unfold m_wok at w1 ⊢
          rw [eP, er (3 + w) (by omega) (by omega), er (11 + w) (by omega) (by omega), er (19 + w) (by omega) (by omega), ec 21 (by omega) (by omega) (by omega) (by omega)]
          exact ⟨w1, w2⟩
        · unfold m_aok
          simp only
          by_cases ea : a = A
          · subst ea
            rw [eP, er27, er (33 + a) (by omega) (by omega), er (39 + a) (by omega) (by omega), er (51 + a) (by omega) (by omega), er45, er 0 (by omega) (by omega), z1.1, z1.2.1, z1.2.2, e27, rup_same]
            exact ⟨hpl, by omega, by omega, fun _ => rfl, fun q => absurd rfl q, by omega⟩
          · have a1 := r4 a (by omega)
            unfold m_aok at a1
            rw [eP, eP, er 0 (by omega) (by omega), er (27 + a) (by omega) (by omega), er (33 + a) (by omega) (by omega), er (39 + a) (by omega) (by omega), er (45 + a) (by omega) (by omega), er (51 + a) (by omega) (by omega), e27, rup_ne _ _ ea]
            exact a1
        · simp only at hl ⊢
          rw [er 2 (by omega) (by omega)] at hl
          rw [er 0 (by omega) (by omega), ec 9 (by omega) (by omega) (by omega) (by omega)]; exact r6 l hl
      · refine ⟨fun w h1 h2 => ?_, fun a h1 h2 => ?_⟩
        · rw [er (11 + w) (by omega) (by omega), er (19 + w) (by omega) (by omega)]; exact hz.1 w h1 h2
        · rw [er (33 + a) (by omega) (by omega), er (39 + a) (by omega) (by omega), er (51 + a) (by omega) (by omega)]; exact hz.2 a (by omega) h2
      · rw [f1 0 (by omega), e0 6 (by omega) (by omega) (by omega)]; exact x0
      · rw [f1 1 (by omega), e0 7 (by omega) (by omega) (by omega)]; exact x1
      · rw [f1 2 (by omega), e0 8 (by omega) (by omega) (by omega)]; exact x2
      · rw [f1 4 (by omega), e0 10 (by omega) (by omega) (by omega)]; exact x4
      · rw [f17, e11]
      · rw [f1 11 (by omega), e0 12 (by omega) (by omega) (by omega)]; exact x11
      · rw [f1 13 (by omega), e0 46 (by omega) (by omega) (by omega)]; exact x13
      · rw [fc 2 (by omega) (by omega) (by omega) (by omega), ec 4 (by omega) (by omega) (by omega) (by omega)]; exact xp
      · rw [fc 4 (by omega) (by omega) (by omega) (by omega), fc 3 (by omega) (by omega) (by omega) (by omega), ec 21 (by omega) (by omega) (by omega) (by omega), ec 20 (by omega) (by omega) (by omega) (by omega), e0 10 (by omega) (by omega) (by omega)]; exact xw
      · intro a ha
        rw [e11] at ha
        show σ1 5 a = s' 5 a ∧ σ1 7 a = s' 27 a ∧ _
        rw [f5, f7, e5, e27]
        by_cases ea : a = A
        · subst ea
          rw [rup_same, rup_same, rup_same, rup_same]
          exact ⟨rfl, rfl, fun i hi => absurd hi (by omega)⟩
        · rw [rup_ne _ _ ea, rup_ne _ _ ea, rup_ne _ _ ea, rup_ne _ _ ea, ec 25 (by omega) (by omega) (by omega) (by omega), ec 26 (by omega) (by omega) (by omega) (by omega), fc 6 (by omega) (by omega) (by omega) (by omega)]
          exact xa a (by omega)
      · rw [fc 8 (by omega) (by omega) (by omega) (by omega), ec 6 (by omega) (by omega) (by omega) (by omega), ec 7 (by omega) (by omega) (by omega) (by omega), ec 8 (by omega) (by omega) (by omega) (by omega), e0 12 (by omega) (by omega) (by omega)]; exact xo
      · rw [fc 9 (by omega) (by omega) (by omega) (by omega), ec 24 (by omega) (by omega) (by omega) (by omega), e0 46 (by omega) (by omega) (by omega)]; exact xm
      · exact XL_c xl (e0 25 (by omega) (by omega) (by omega)) (fun c hc => ec c (by omega) (by omega) (by omega) (by omega)) (fun c h1 h2 => fc c (by omega) (by omega) (by omega) (by omega))
      · rw [er 2 (by omega) (by omega)] at hi
        rw [ec 9 (by omega) (by omega) (by omega) (by omega), fc 28 (by omega) (by omega) (by omega) (by omega)]; exact hX.2.2 i hi
  · refine ⟨ev_i (-1), fun σ' => σ' = σ, fun s' => s' = ev_up s 0 0 0, ?_, ?_, fun σ' s' e1 e2 => by rw [e1, e2]; exact XR_no hR0⟩
    · refine wp_X11_angel_0 (sp_hasPlace is_X10_1 ⟨x0, x1⟩ hdim (ev_pi_mk ?_))
      rw [eA]
      by_cases c1 : 0 ≤ p ∧ p % 8 < s 0 6 + 8 ∧ p / 8 < s 0 7 + 8
      · rw [if_pos c1]
        exact ⟨fun q => absurd q (by omega), fun _ => ⟨fun _ => ⟨rfl, rfl⟩, fun q1 => ⟨fun _ => ⟨rfl, rfl⟩, fun q2 => ⟨fun q => absurd (And.intro c1 (And.intro (And.intro q1 q2) (by omega))) cc, fun _ => ⟨rfl, rfl⟩⟩⟩⟩⟩
      · rw [if_neg c1]
        exact ⟨fun _ => ⟨rfl, rfl⟩, fun q => absurd rfl q⟩
    · refine wp_X12_angel_0 ?_
      rintro _ rfl
      refine sp_isPlace (by have := hp.2; omega) (by rw [e06]; omega) (by rw [e07]; omega) (ev_pi_mk ?_)
      rw [e06, e07]
      by_cases c1 : 0 ≤ p ∧ p % 8 < s 0 6 + 8 ∧ p / 8 < s 0 7 + 8
      · rw [if_pos c1]
        refine ⟨fun q => absurd q (by omega), fun _ => sp_isIn (ev_pi_mk ?_)⟩
        rw [e011]
        by_cases c2 : 1 ≤ c ∧ c ≤ 9
        · rw [if_pos c2]
          exact ⟨fun q => absurd q (by omega), fun _ => ⟨fun q => absurd (And.intro c1 (And.intro c2 (by omega))) cc, fun _ => ⟨rfl, rfl⟩⟩⟩
        · rw [if_neg c2]
          exact ⟨fun _ => ⟨rfl, rfl⟩, fun q => absurd rfl q⟩
      · rw [if_neg c1]
        exact ⟨fun _ => ⟨rfl, rfl⟩, fun q => absurd rfl q⟩
