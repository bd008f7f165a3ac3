/-! ward, angel, other -/
theorem rup_id {r : Nat → Int} {i : Nat} {z : Int} (h : r i = z) : rup r i z = r := by
  funext j
  unfold rup
  split
  · rename_i e; rw [e, h]
  · rfl
theorem sim_ward (p : Int) (hp : ev_R p) : Sim M_X11_ward M_X12_ward [(1, ev_i p)] := by
  intro σ s hσ hs hR
  have hR0 := hR
  obtain ⟨N, A, NO, MI, hM, hX, hP, hF, hI, hT⟩ := hR
  obtain ⟨hT0, hr, hz, h5⟩ := hM
  have hT1 := hT0
  obtain ⟨hdim, ⟨hN, hN8⟩, ⟨hA, hA6⟩, ⟨hO, hO6⟩, ⟨hMI, hM10⟩, hg, hpa, hpok, hmok, hlok⟩ := hT1
  obtain ⟨⟨x0, x1, x2, x4, x7, x11, x13⟩, xp, xw, xa, xo, xm, xl⟩ := hX.1
  have eN : σ 1 4 = (N : Int) := by rw [x4]; exact hN
  have h3b : ∀ i, i < 4800 → -128 ≤ σ 3 i ∧ σ 3 i ≤ 127 := fun i hi => (hT.2.2.2 i hi).1
  have d6 := hdim.1
  have d7 := hdim.2
  have e06 : ev_up s 0 0 0 0 6 = s 0 6 := ev_up_ne _ _ (by omega)
  have e07 : ev_up s 0 0 0 0 7 = s 0 7 := ev_up_ne _ _ (by omega)
  have e010 : ev_up s 0 0 0 0 10 = (N : Int) := by rw [ev_up_ne _ _ (by omega)]; exact hN
  by_cases c : (0 ≤ p ∧ p % 8 < s 0 6 + 8 ∧ p / 8 < s 0 7 + 8) ∧ N < 8
  · obtain ⟨hpl, hN7⟩ := c
    refine ⟨ev_i (N : Int), fun σ' => σ' = tld (ev_up (ev_up (ev_up σ 1 4 ((N : Int) + 1)) 4 N 0) 16 N p), fun s' => s' = ev_up (ev_up (ev_up (ev_up (ev_up (ev_up (ev_up s 0 0 0) 1 (3 + N) p) 1 (11 + N) 0) 1 (19 + N) 0) 21 N 0) 0 10 ((N : Int) + 1)) 0 3 0, ?_, ?_, ?_⟩
    · refine wp_X11_ward_0 (sp_hasPlace is_X10_1 ⟨x0, x1⟩ hdim (ev_pi_mk ?_))
      rw [if_pos hpl, eN, ev_add_eq ⟨by omega, by omega⟩, Int.toNat_natCast]
      refine ⟨fun q => absurd q (by omega), fun _ => ⟨fun _ => ?_, fun q => absurd q (by omega)⟩⟩
      rintro _ rfl
      refine ⟨by omega, ?_⟩
      rintro _ rfl
      refine ⟨by omega, ?_⟩
      rintro _ rfl
      exact sp_tld ⟨rfl, rfl⟩
    · refine wp_X12_ward_0 ?_
      rintro _ rfl
      refine sp_isPlace (by have := hp.2; omega) (by rw [e06]; omega) (by rw [e07]; omega) (ev_pi_mk ?_)
      rw [e06, e07, if_pos hpl, e010]
      refine ⟨fun q => absurd q (by omega), fun _ => ⟨fun _ => ?_, fun q => absurd q (by omega)⟩⟩
      rw [ev_add_eq ⟨by omega, by omega⟩, tn_lit]
      refine ⟨by omega, ?_⟩
      rintro _ rfl
      rw [ev_upj _ _ (show (0 : Nat) ≠ 1 by omega), e010, ev_add_eq ⟨by omega, by omega⟩, tn_lit]
      refine ⟨by omega, ?_⟩
      rintro _ rfl
      rw [ev_upj _ _ (show (0 : Nat) ≠ 1 by omega), ev_upj _ _ (show (0 : Nat) ≠ 1 by omega), e010, ev_add_eq ⟨by omega, by omega⟩, tn_lit]
      refine ⟨by omega, ?_⟩
      rintro _ rfl
      rw [ev_upj _ _ (show (0 : Nat) ≠ 1 by omega), ev_upj _ _ (show (0 : Nat) ≠ 1 by omega), ev_upj _ _ (show (0 : Nat) ≠ 1 by omega), e010, Int.toNat_natCast]
      refine ⟨by omega, ?_⟩
      rintro _ rfl
      rw [ev_upj _ _ (show (0 : Nat) ≠ 21 by omega), ev_upj _ _ (show (0 : Nat) ≠ 1 by omega), ev_upj _ _ (show (0 : Nat) ≠ 1 by omega), ev_upj _ _ (show (0 : Nat) ≠ 1 by omega), e010, ev_add_eq ⟨by omega, by omega⟩]
      rintro _ rfl _ rfl
      refine ⟨?_, rfl⟩
      rw [ev_up_ne _ _ (by omega), ev_up_same, ev_sub_eq ⟨by omega, by omega⟩]
      congr 2
      omega
    · rintro _ _ rfl rfl
      generalize es : ev_up (ev_up (ev_up (ev_up (ev_up (ev_up (ev_up s 0 0 0) 1 (3 + N) p) 1 (11 + N) 0) 1 (19 + N) 0) 21 N 0) 0 10 ((N : Int) + 1)) 0 3 0 = s'
      have e0 : ∀ i, i ≠ 0 → i ≠ 3 → i ≠ 10 → s' 0 i = s 0 i := fun i h1 h2 h3 => by rw [← es, ev_up_ne _ _ (by omega), ev_up_ne _ _ (by omega), ev_upj _ _ (by omega), ev_upj _ _ (by omega), ev_upj _ _ (by omega), ev_upj _ _ (by omega), ev_up_ne _ _ (by omega)]
      have e10 : s' 0 10 = ((N + 1 : Nat) : Int) := by rw [← es, ev_up_ne _ _ (by omega), ev_up_same]; omega
      have e3 : s' 0 3 = 0 := by rw [← es, ev_up_same]
      have ec : ∀ c, c ≠ 0 → c ≠ 1 → c ≠ 21 → s' c = s c := fun c h0 h1 h2 => by rw [← es, ev_upj _ _ h0, ev_upj _ _ h0, ev_upj _ _ h2, ev_upj _ _ h1, ev_upj _ _ h1, ev_upj _ _ h1, ev_upj _ _ h0]
      have e21 : s' 21 = rup (s 21) N 0 := by rw [← es, ev_upj _ _ (by omega), ev_upj _ _ (by omega), ev_up_set, ev_set_same, ev_upj _ _ (by omega), ev_upj _ _ (by omega), ev_upj _ _ (by omega), ev_upj _ _ (by omega)]
      have z1 := hz.1 N (Nat.le_refl N) hN7
      have e1 : s' 1 = rup (s 1) (3 + N) p := by
        rw [← es, ev_upj _ _ (by omega), ev_upj _ _ (by omega), ev_upj _ _ (by omega), ev_up_set, ev_set_same, ev_up_set, ev_set_same, ev_up_set, ev_set_same, ev_upj _ _ (show (1 : Nat) ≠ 0 by omega)]
        rw [rup_id (r := rup (s 1) (3 + N) p) (i := 11 + N) (by rw [rup_ne _ _ (by omega)]; exact z1.1), rup_id (r := rup (s 1) (3 + N) p) (i := 19 + N) (by rw [rup_ne _ _ (by omega)]; exact z1.2)]
      have er : ∀ i, i ≠ 3 + N → s' 1 i = s 1 i := fun i hi => by rw [e1, rup_ne _ _ hi]
      obtain ⟨r1, r2, r3, r4, r5, r6⟩ := hr
      simp only at r1 r2 r3 r4 r5 r6
      have eP : ∀ q, m_pl s' q = m_pl s q := fun q => by unfold m_pl; rw [e0 6 (by omega) (by omega) (by omega), e0 7 (by omega) (by omega) (by omega)]
      generalize eσ : ev_up (ev_up (ev_up σ 1 4 ((N : Int) + 1)) 4 N 0) 16 N p = σ1
      have f1 : ∀ i, i ≠ 4 → σ1 1 i = σ 1 i := fun i hi => by rw [← eσ, ev_upj _ _ (by omega), ev_upj _ _ (by omega), ev_up_ne _ _ (by omega)]
      have f14 : σ1 1 4 = ((N + 1 : Nat) : Int) := by rw [← eσ, ev_upj _ _ (by omega), ev_upj _ _ (by omega), ev_up_same]; omega
      have f4 : σ1 4 = rup (σ 4) N 0 := by rw [← eσ, ev_upj _ _ (by omega), ev_up_set, ev_set_same, ev_upj _ _ (by omega)]
      have fc : ∀ c, c ≠ 1 → c ≠ 4 → c ≠ 16 → σ1 c = σ c := fun c h1 h4 h16 => by rw [← eσ, ev_upj _ _ h16, ev_upj _ _ h4, ev_upj _ _ h1]
      have hC1 : XC σ1 15 (s' 1) := by
        rw [← eσ, e1]
        exact XC_wp (k := 15) hN7 (XC_keep hX.2.1 (fun c h1 h2 => by rw [ev_upj _ _ (by omega), ev_upj _ _ (by omega)]))
      refine XR_tld (N' := N + 1) (A' := A) (NO' := NO) (MI' := MI) hP hI hT ⟨tok_mk hT0 (e0 6 (by omega) (by omega) (by omega)) (e0 7 (by omega) (by omega) (by omega)) (e0 46 (by omega) (by omega) (by omega)) (e0 25 (by omega) (by omega) (by omega)) ⟨e10, by omega⟩ (by omega) ⟨by rw [e0 11 (by omega) (by omega) (by omega)]; exact hA, hA6⟩ ⟨by rw [e0 12 (by omega) (by omega) (by omega)]; exact hO, hO6⟩ (by rw [e0 8 (by omega) (by omega) (by omega)]; exact hg) (by rw [ec 4 (by omega) (by omega) (by omega)]; exact hpa) (fun a ha => pok_mk (hpok a ha) (e0 6 (by omega) (by omega) (by omega)) (e0 7 (by omega) (by omega) (by omega)) (by rw [ec 5 (by omega) (by omega) (by omega)]; exact (hpok a ha).1) (by rw [ec 27 (by omega) (by omega) (by omega)]) (ec 25 (by omega) (by omega) (by omega)) (ec 26 (by omega) (by omega) (by omega))) (fun c hc => ec c (by omega) (by omega) (by omega)), ?_, ?_, by rw [e0 5 (by omega) (by omega) (by omega)]; exact h5⟩ ⟨⟨⟨?_, ?_, ?_, ?_, ?_, ?_, ?_⟩, ?_, ?_, ?_, ?_, ?_, ?_⟩, hC1, fun i hi => ?_⟩ e3 (by rw [fc 29 (by omega) (by omega) (by omega)]) (fun i hi => e0 i (by omega) (by omega) (by omega)) (fun c hc => ec c (by omega) (by omega) (by omega)) (fun c c1 c2 c3 => fc c (by omega) (by omega) (by omega)) (fun i hi => by rw [fc 3 (by omega) (by omega) (by omega)]; exact h3b i hi)
      · refine ⟨by simp only; rw [er 0 (by omega)]; exact r1, by simp only; rw [er 2 (by omega)]; exact r2, fun w hw => ?_, fun a ha => ?_, by simp only; rw [er 2 (by omega), ec 9 (by omega) (by omega) (by omega)]; exact r5, fun l hl => ?_⟩
        · simp only
          by_cases ew : w = N
          · subst ew
            unfold m_wok
            rw [eP, e1, rup_same, rup_ne _ _ (by omega), rup_ne _ _ (by omega), e21, rup_same, z1.1, z1.2]
            exact ⟨⟨hpl, by omega, by omega, by omega, by omega, by omega⟩, by omega⟩
          · obtain ⟨w1, w2⟩ := r3 w (by omega)
            unfold m_wok at w1 ⊢
            rw [eP, er (3 + w) (by omega), er (11 + w) (by omega), er (19 + w) (by omega), e21, rup_ne _ _ ew]
            exact ⟨w1, w2⟩
        · have a1 := r4 a ha
          unfold m_aok at a1 ⊢
          simp only
          rw [eP, eP, er 0 (by omega), er (27 + a) (by omega), er (33 + a) (by omega), er (39 + a) (by omega), er (45 + a) (by omega), er (51 + a) (by omega), ec 27 (by omega) (by omega) (by omega)]
          exact a1
        · simp only at hl ⊢
          rw [er 2 (by omega)] at hl
          rw [er 0 (by omega), ec 9 (by omega) (by omega) (by omega)]; exact r6 l hl
      · refine ⟨fun w h1 h2 => ?_, fun a h1 h2 => ?_⟩
        · rw [er (11 + w) (by omega), er (19 + w) (by omega)]; exact hz.1 w (by omega) h2
        · rw [er (33 + a) (by omega), er (39 + a) (by omega), er (51 + a) (by omega)]; exact hz.2 a h1 h2
      · rw [f1 0 (by omega), e0 6 (by omega) (by omega) (by omega)]; exact x0
      · rw [f1 1 (by omega), e0 7 (by omega) (by omega) (by omega)]; exact x1
      · rw [f1 2 (by omega), e0 8 (by omega) (by omega) (by omega)]; exact x2
      · rw [f14, e10]
      · rw [f1 7 (by omega), e0 11 (by omega) (by omega) (by omega)]; exact x7
      · rw [f1 11 (by omega), e0 12 (by omega) (by omega) (by omega)]; exact x11
      · rw [f1 13 (by omega), e0 46 (by omega) (by omega) (by omega)]; exact x13
      · rw [fc 2 (by omega) (by omega) (by omega), ec 4 (by omega) (by omega) (by omega)]; exact xp
      · intro w hw
        rw [e10] at hw
        show σ1 4 w = s' 21 w ∧ _
        rw [f4, e21]
        by_cases ew : w = N
        · subst ew
          rw [rup_same, rup_same]
          exact ⟨rfl, fun i hi => absurd hi (by omega)⟩
        · rw [rup_ne _ _ ew, rup_ne _ _ ew, ec 20 (by omega) (by omega) (by omega)]
          have := xw w (by omega)
          refine ⟨this.1, fun i hi => ?_⟩
          show σ1 3 _ = _
          rw [fc 3 (by omega) (by omega) (by omega)]; exact this.2 i hi
      · rw [fc 5 (by omega) (by omega) (by omega), fc 6 (by omega) (by omega) (by omega), fc 7 (by omega) (by omega) (by omega), ec 5 (by omega) (by omega) (by omega), ec 27 (by omega) (by omega) (by omega), ec 25 (by omega) (by omega) (by omega), ec 26 (by omega) (by omega) (by omega), e0 11 (by omega) (by omega) (by omega)]; exact xa
      · rw [fc 8 (by omega) (by omega) (by omega), ec 6 (by omega) (by omega) (by omega), ec 7 (by omega) (by omega) (by omega), ec 8 (by omega) (by omega) (by omega), e0 12 (by omega) (by omega) (by omega)]; exact xo
      · rw [fc 9 (by omega) (by omega) (by omega), ec 24 (by omega) (by omega) (by omega), e0 46 (by omega) (by omega) (by omega)]; exact xm
      · exact XL_c xl (e0 25 (by omega) (by omega) (by omega)) (fun c hc => ec c (by omega) (by omega) (by omega)) (fun c h1 h2 => fc c (by omega) (by omega) (by omega))
      · rw [er 2 (by omega)] at hi
        rw [ec 9 (by omega) (by omega) (by omega), fc 28 (by omega) (by omega) (by omega)]; exact hX.2.2 i hi
  · refine ⟨ev_i (-1), fun σ' => σ' = σ, fun s' => s' = ev_up s 0 0 0, ?_, ?_, fun σ' s' e1 e2 => by rw [e1, e2]; exact XR_no hR0⟩
    · refine wp_X11_ward_0 (sp_hasPlace is_X10_1 ⟨x0, x1⟩ hdim (ev_pi_mk ?_))
      rw [eN]
      by_cases c1 : 0 ≤ p ∧ p % 8 < s 0 6 + 8 ∧ p / 8 < s 0 7 + 8
      · rw [if_pos c1]
        exact ⟨fun q => absurd q (by omega), fun _ => ⟨fun q => absurd (And.intro c1 (by omega)) c, fun _ => ⟨rfl, rfl⟩⟩⟩
      · rw [if_neg c1]
        exact ⟨fun _ => ⟨rfl, rfl⟩, fun q => absurd rfl q⟩
    · refine wp_X12_ward_0 ?_
      rintro _ rfl
      refine sp_isPlace (by have := hp.2; omega) (by rw [e06]; omega) (by rw [e07]; omega) (ev_pi_mk ?_)
      rw [e06, e07, e010]
      by_cases c1 : 0 ≤ p ∧ p % 8 < s 0 6 + 8 ∧ p / 8 < s 0 7 + 8
      · rw [if_pos c1]
        exact ⟨fun q => absurd q (by omega), fun _ => ⟨fun q => absurd (And.intro c1 (by omega)) c, fun _ => ⟨rfl, rfl⟩⟩⟩
      · rw [if_neg c1]
        exact ⟨fun _ => ⟨rfl, rfl⟩, fun q => absurd rfl q⟩
