section
/-! other -/
theorem sim_other (p f t : Int) (hp : ev_R p) : Sim M_X11_other M_X12_other [(1, ev_i p), (2, ev_i f), (3, ev_i t)] := by
  intro σ s hσ hs hR
  have hR0 := hR
  obtain ⟨N, A, NO, MI, hM, hX, hP, hF, hI, hT⟩ := hR
  obtain ⟨hT0, hr, hz, h5⟩ := hM
  have hT1 := hT0
  obtain ⟨hdim, ⟨hN, hN8⟩, ⟨hA, hA6⟩, ⟨hO, hO6⟩, ⟨hMI, hM10⟩, hg, hpa, hpok, hmok, hlok⟩ := hT1
  obtain ⟨⟨x0, x1, x2, x4, x7, x11, x13⟩, xp, xw, xa, xo, xm, xl⟩ := hX.1
  have eO : σ 1 11 = (NO : Int) := by rw [x11]; exact hO
  have h3b : ∀ i, i < 4800 → -128 ≤ σ 3 i ∧ σ 3 i ≤ 127 := fun i hi => (hT.2.2.2 i hi).1
  have d6 := hdim.1
  have d7 := hdim.2
  have e06 : ev_up s 0 0 0 0 6 = s 0 6 := ev_up_ne _ _ (by omega)
  have e07 : ev_up s 0 0 0 0 7 = s 0 7 := ev_up_ne _ _ (by omega)
  have e012 : ev_up s 0 0 0 0 12 = (NO : Int) := by rw [ev_up_ne _ _ (by omega)]; exact hO
  by_cases cc : (0 ≤ p ∧ p % 8 < s 0 6 + 8 ∧ p / 8 < s 0 7 + 8) ∧ (0 ≤ f ∧ f ≤ t ∧ t ≤ 599) ∧ NO < 6
  · obtain ⟨hpl, hft, hO5⟩ := cc
    have t0 : Int.toNat ((NO : Int) * 3) = NO * 3 := by omega
    have t1 : Int.toNat ((NO : Int) * 3 + 1) = NO * 3 + 1 := by omega
    have t2 : Int.toNat ((NO : Int) * 3 + 2) = NO * 3 + 2 := by omega
    refine ⟨ev_i (NO : Int), fun σ' => σ' = tld (ev_up (ev_up (ev_up (ev_up σ 8 (NO * 3) p) 8 (NO * 3 + 1) f) 8 (NO * 3 + 2) t) 1 11 ((NO : Int) + 1)), fun s' => s' = ev_up (ev_up (ev_up (ev_up (ev_up (ev_up s 0 0 0) 6 NO p) 7 NO f) 8 NO t) 0 12 ((NO : Int) + 1)) 0 3 0, ?_, ?_, ?_⟩
    · refine wp_X11_other_0 (sp_hasPlace is_X10_1 ⟨x0, x1⟩ hdim (ev_pi_mk ?_))
      rw [if_pos hpl, eO, ev_mul_eq (x := (NO : Int)) (y := 3) ⟨by omega, by omega⟩, ev_add_eq (x := (NO : Int) * 3) (y := 1) ⟨by omega, by omega⟩, ev_add_eq (x := (NO : Int) * 3) (y := 2) ⟨by omega, by omega⟩, t0, t1, t2]
      refine ⟨fun q => absurd q (by omega), fun _ => ⟨fun q => absurd q (by omega), fun _ => ⟨fun q => absurd q (by omega), fun _ => ⟨fun q => absurd q (by omega), fun _ => ⟨fun _ => ?_, fun q => absurd q (by omega)⟩⟩⟩⟩⟩
      refine ⟨by omega, ?_⟩
      rintro _ rfl
      refine ⟨by omega, ?_⟩
      rintro _ rfl
      refine ⟨by omega, ?_⟩
      rintro _ rfl
      rw [ev_upj _ _ (show (1 : Nat) ≠ 8 by omega), ev_upj _ _ (show (1 : Nat) ≠ 8 by omega), ev_upj _ _ (show (1 : Nat) ≠ 8 by omega), eO, ev_add_eq (x := (NO : Int)) (y := 1) ⟨by omega, by omega⟩]
      rintro _ rfl
      refine sp_tld ⟨?_, rfl⟩
      rw [tld_c (by omega) (by omega) (by omega), ev_up_same, ev_sub_eq ⟨by omega, by omega⟩]
      congr 2
      omega
    · refine wp_X12_other_0 ?_
      rintro _ rfl
      refine sp_isPlace (by have := hp.2; omega) (by rw [e06]; omega) (by rw [e07]; omega) (ev_pi_mk ?_)
      rw [e06, e07, if_pos hpl]
      refine ⟨fun q => absurd q (by omega), fun _ => sp_isIn (ev_pi_mk ?_)⟩
      rw [if_pos (show 0 ≤ f ∧ f ≤ 599 by omega)]
      refine ⟨fun q => absurd q (by omega), fun _ => sp_isIn (ev_pi_mk ?_)⟩
      rw [if_pos (show f ≤ t ∧ t ≤ 599 by omega), e012, Int.toNat_natCast]
      refine ⟨fun q => absurd q (by omega), fun _ => ⟨fun _ => ?_, fun q => absurd q (by omega)⟩⟩
      refine ⟨by omega, ?_⟩
      rintro _ rfl
      rw [ev_upj _ _ (show (0 : Nat) ≠ 6 by omega), e012, Int.toNat_natCast]
      refine ⟨by omega, ?_⟩
      rintro _ rfl
      rw [ev_upj _ _ (show (0 : Nat) ≠ 7 by omega), ev_upj _ _ (show (0 : Nat) ≠ 6 by omega), e012, Int.toNat_natCast]
      refine ⟨by omega, ?_⟩
      rintro _ rfl
      rw [ev_upj _ _ (show (0 : Nat) ≠ 8 by omega), ev_upj _ _ (show (0 : Nat) ≠ 7 by omega), ev_upj _ _ (show (0 : Nat) ≠ 6 by omega), e012, ev_add_eq (x := (NO : Int)) (y := 1) ⟨by omega, by omega⟩]
      rintro _ rfl _ rfl
      refine ⟨?_, rfl⟩
      rw [ev_up_ne _ _ (by omega), ev_up_same, ev_sub_eq ⟨by omega, by omega⟩]
      congr 2
      omega
    · rintro _ _ rfl rfl
      generalize es : ev_up (ev_up (ev_up (ev_up (ev_up (ev_up s 0 0 0) 6 NO p) 7 NO f) 8 NO t) 0 12 ((NO : Int) + 1)) 0 3 0 = s'
      have e0 : ∀ i, i ≠ 0 → i ≠ 3 → i ≠ 12 → s' 0 i = s 0 i := fun i h1 h2 h3 => by rw [← es, ev_up_ne _ _ (by omega), ev_up_ne _ _ (by omega), ev_upj _ _ (by omega), ev_upj _ _ (by omega), ev_upj _ _ (by omega), ev_up_ne _ _ (by omega)]
      have e12 : s' 0 12 = ((NO + 1 : Nat) : Int) := by rw [← es, ev_up_ne _ _ (by omega), ev_up_same]; omega
      have e3 : s' 0 3 = 0 := by rw [← es, ev_up_same]
      have ec : ∀ c, c ≠ 0 → c ≠ 6 → c ≠ 7 → c ≠ 8 → s' c = s c := fun c h0 h6 h7 h8 => by rw [← es, ev_upj _ _ h0, ev_upj _ _ h0, ev_upj _ _ h8, ev_upj _ _ h7, ev_upj _ _ h6, ev_upj _ _ h0]
      have e6 : s' 6 = rup (s 6) NO p := by rw [← es, ev_upj _ _ (by omega), ev_upj _ _ (by omega), ev_upj _ _ (by omega), ev_upj _ _ (by omega), ev_up_set, ev_set_same, ev_upj _ _ (by omega)]
      have e7 : s' 7 = rup (s 7) NO f := by rw [← es, ev_upj _ _ (by omega), ev_upj _ _ (by omega), ev_upj _ _ (by omega), ev_up_set, ev_set_same, ev_upj _ _ (by omega), ev_upj _ _ (by omega)]
      have e8 : s' 8 = rup (s 8) NO t := by rw [← es, ev_upj _ _ (by omega), ev_upj _ _ (by omega), ev_up_set, ev_set_same, ev_upj _ _ (by omega), ev_upj _ _ (by omega), ev_upj _ _ (by omega)]
      generalize eσ : ev_up (ev_up (ev_up (ev_up σ 8 (NO * 3) p) 8 (NO * 3 + 1) f) 8 (NO * 3 + 2) t) 1 11 ((NO : Int) + 1) = σ1
      have f1 : ∀ i, i ≠ 11 → σ1 1 i = σ 1 i := fun i hi => by rw [← eσ, ev_up_ne _ _ (by omega), ev_upj _ _ (by omega), ev_upj _ _ (by omega), ev_upj _ _ (by omega)]
      have f11 : σ1 1 11 = ((NO + 1 : Nat) : Int) := by rw [← eσ, ev_up_same]; omega
      have fc : ∀ c, c ≠ 1 → c ≠ 8 → σ1 c = σ c := fun c h1 h8 => by rw [← eσ, ev_upj _ _ h1, ev_upj _ _ h8, ev_upj _ _ h8, ev_upj _ _ h8]
      have f8 : σ1 8 = rup (rup (rup (σ 8) (NO * 3) p) (NO * 3 + 1) f) (NO * 3 + 2) t := by
        rw [← eσ, ev_upj _ _ (by omega), ev_up_set, ev_set_same, ev_up_set, ev_set_same, ev_up_set, ev_set_same]
      have q4 : ∀ c, c = 12 ∨ c = 13 ∨ c = 14 ∨ c = 15 ∨ c = 16 ∨ c = 24 → s' c = s c := fun c hc => ec c (by omega) (by omega) (by omega) (by omega)
      refine XR_tld (N' := N) (A' := A) (NO' := NO + 1) (MI' := MI) hP hI hT ⟨tok_mk hT0 (e0 6 (by omega) (by omega) (by omega)) (e0 7 (by omega) (by omega) (by omega)) (e0 46 (by omega) (by omega) (by omega)) (e0 25 (by omega) (by omega) (by omega)) ⟨by rw [e0 10 (by omega) (by omega) (by omega)]; exact hN, hN8⟩ (Nat.le_refl _) ⟨by rw [e0 11 (by omega) (by omega) (by omega)]; exact hA, hA6⟩ ⟨e12, by omega⟩ (by rw [e0 8 (by omega) (by omega) (by omega)]; exact hg) (by rw [ec 4 (by omega) (by omega) (by omega) (by omega)]; exact hpa) (fun a ha => pok_mk (hpok a ha) (e0 6 (by omega) (by omega) (by omega)) (e0 7 (by omega) (by omega) (by omega)) (by rw [ec 5 (by omega) (by omega) (by omega) (by omega)]; exact (hpok a ha).1) (by rw [ec 27 (by omega) (by omega) (by omega) (by omega)]) (ec 25 (by omega) (by omega) (by omega) (by omega)) (ec 26 (by omega) (by omega) (by omega) (by omega))) q4, ?_, by rw [ec 1 (by omega) (by omega) (by omega) (by omega)]; exact hz, by rw [e0 5 (by omega) (by omega) (by omega)]; exact h5⟩ ⟨⟨⟨?_, ?_, ?_, ?_, ?_, ?_, ?_⟩, ?_, ?_, ?_, ?_, ?_, ?_⟩, ?_, fun i hi => ?_⟩ e3 (by rw [fc 29 (by omega) (by omega)]) (fun i hi => e0 i (by omega) (by omega) (by omega)) (fun c hc => ec c (by omega) (by omega) (by omega) (by omega)) (fun c c1 c2 c3 => fc c (by omega) (by omega)) (fun i hi => by rw [fc 3 (by omega) (by omega)]; exact h3b i hi)
      · rw [ec 1 (by omega) (by omega) (by omega) (by omega), ec 9 (by omega) (by omega) (by omega) (by omega)]; exact rok_T hr (e0 6 (by omega) (by omega) (by omega)) (e0 7 (by omega) (by omega) (by omega)) (ec 21 (by omega) (by omega) (by omega) (by omega)) (ec 27 (by omega) (by omega) (by omega) (by omega))
      · rw [f1 0 (by omega), e0 6 (by omega) (by omega) (by omega)]; exact x0
      · rw [f1 1 (by omega), e0 7 (by omega) (by omega) (by omega)]; exact x1
      · rw [f1 2 (by omega), e0 8 (by omega) (by omega) (by omega)]; exact x2
      · rw [f1 4 (by omega), e0 10 (by omega) (by omega) (by omega)]; exact x4
      · rw [f1 7 (by omega), e0 11 (by omega) (by omega) (by omega)]; exact x7
      · rw [f11, e12]
      · rw [f1 13 (by omega), e0 46 (by omega) (by omega) (by omega)]; exact x13
      · rw [fc 2 (by omega) (by omega), ec 4 (by omega) (by omega) (by omega) (by omega)]; exact xp
      · rw [fc 4 (by omega) (by omega), fc 3 (by omega) (by omega), ec 21 (by omega) (by omega) (by omega) (by omega), ec 20 (by omega) (by omega) (by omega) (by omega), e0 10 (by omega) (by omega) (by omega)]; exact xw
      · rw [fc 5 (by omega) (by omega), fc 6 (by omega) (by omega), fc 7 (by omega) (by omega), ec 5 (by omega) (by omega) (by omega) (by omega), ec 27 (by omega) (by omega) (by omega) (by omega), ec 25 (by omega) (by omega) (by omega) (by omega), ec 26 (by omega) (by omega) (by omega) (by omega), e0 11 (by omega) (by omega) (by omega)]; exact xa
      · intro o ho
        rw [e12] at ho
        show σ1 8 (3 * o) = s' 6 o ∧ σ1 8 (3 * o + 1) = s' 7 o ∧ σ1 8 (3 * o + 2) = s' 8 o
        rw [f8, e6, e7, e8]
        by_cases eo : o = NO
        · subst eo
          rw [rup_same, rup_same, rup_same, Nat.mul_comm 3 o]
          exact ⟨by rw [rup_ne _ _ (by omega), rup_ne _ _ (by omega), rup_same], by rw [rup_ne _ _ (by omega), rup_same], by rw [rup_same]⟩
        · rw [rup_ne _ _ eo, rup_ne _ _ eo, rup_ne _ _ eo]
          have := xo o (by omega)
          exact ⟨by rw [rup_ne _ _ (by omega), rup_ne _ _ (by omega), rup_ne _ _ (by omega)]; exact this.1, by rw [rup_ne _ _ (by omega), rup_ne _ _ (by omega), rup_ne _ _ (by omega)]; exact this.2.1, by rw [rup_ne _ _ (by omega), rup_ne _ _ (by omega), rup_ne _ _ (by omega)]; exact this.2.2⟩
      · rw [fc 9 (by omega) (by omega), ec 24 (by omega) (by omega) (by omega) (by omega), e0 46 (by omega) (by omega) (by omega)]; exact xm
      · exact XL_c xl (e0 25 (by omega) (by omega) (by omega)) (fun c hc => ec c (by omega) (by omega) (by omega) (by omega)) (fun c h1 h2 => fc c (by omega) (by omega))
      · rw [ec 1 (by omega) (by omega) (by omega) (by omega)]; exact XC_keep hX.2.1 (fun c h1 h2 => fc c (by omega) (by omega))
      · rw [ec 1 (by omega) (by omega) (by omega) (by omega)] at hi
        rw [ec 9 (by omega) (by omega) (by omega) (by omega), fc 28 (by omega) (by omega)]; exact hX.2.2 i hi
  · refine ⟨ev_i (-1), fun σ' => σ' = σ, fun s' => s' = ev_up s 0 0 0, ?_, ?_, fun σ' s' e1 e2 => by rw [e1, e2]; exact XR_no hR0⟩
    · refine wp_X11_other_0 (sp_hasPlace is_X10_1 ⟨x0, x1⟩ hdim (ev_pi_mk ?_))
      rw [eO]
      by_cases c1 : 0 ≤ p ∧ p % 8 < s 0 6 + 8 ∧ p / 8 < s 0 7 + 8
      · rw [if_pos c1]
        exact ⟨fun q => absurd q (by omega), fun _ => ⟨fun _ => ⟨rfl, rfl⟩, fun q1 => ⟨fun _ => ⟨rfl, rfl⟩, fun q2 => ⟨fun _ => ⟨rfl, rfl⟩, fun q3 => ⟨fun q => absurd (And.intro c1 (And.intro (And.intro q1 (And.intro q2 (by omega))) (by omega))) cc, fun _ => ⟨rfl, rfl⟩⟩⟩⟩⟩⟩
      · rw [if_neg c1]
        exact ⟨fun _ => ⟨rfl, rfl⟩, fun q => absurd rfl q⟩
    · refine wp_X12_other_0 ?_
      rintro _ rfl
      refine sp_isPlace (by have := hp.2; omega) (by rw [e06]; omega) (by rw [e07]; omega) (ev_pi_mk ?_)
      rw [e06, e07]
      by_cases c1 : 0 ≤ p ∧ p % 8 < s 0 6 + 8 ∧ p / 8 < s 0 7 + 8
      · rw [if_pos c1]
        refine ⟨fun q => absurd q (by omega), fun _ => sp_isIn (ev_pi_mk ?_)⟩
        by_cases c2 : 0 ≤ f ∧ f ≤ 599
        · rw [if_pos c2]
          refine ⟨fun q => absurd q (by omega), fun _ => sp_isIn (ev_pi_mk ?_)⟩
          rw [e012]
          by_cases c3 : f ≤ t ∧ t ≤ 599
          · rw [if_pos c3]
            exact ⟨fun q => absurd q (by omega), fun _ => ⟨fun q => absurd (And.intro c1 (And.intro (And.intro c2.1 c3) (by omega))) cc, fun _ => ⟨rfl, rfl⟩⟩⟩
          · rw [if_neg c3]
            exact ⟨fun _ => ⟨rfl, rfl⟩, fun q => absurd rfl q⟩
        · rw [if_neg c2]
          exact ⟨fun _ => ⟨rfl, rfl⟩, fun q => absurd rfl q⟩
      · rw [if_neg c1]
        exact ⟨fun _ => ⟨rfl, rfl⟩, fun q => absurd rfl q⟩
end
