/-! calls that only ask: PLANNED, LEAST, FEWEST, HOPELESS, SHOWS, NEAR -/
theorem RF_keep {σ s σ' : ev_S} {N A MI : Nat} (h : RF σ s N A MI) (e7 : σ' 146 7 = σ 146 7) (e159 : σ' 159 = σ 159) (e1 : σ' 1 7 = σ 1 7) (hf : ∀ c, 162 ≤ c → c ≤ 175 → σ' c = σ c) : RF σ' s N A MI := by
  unfold RF XS XCare XK0 XP XWi XWd XCov XKr XKn XCh
  rw [e7, e159, e1, hf 162 (by omega) (by omega), hf 163 (by omega) (by omega), hf 164 (by omega) (by omega), hf 166 (by omega) (by omega), hf 167 (by omega) (by omega), hf 168 (by omega) (by omega), hf 169 (by omega) (by omega), hf 170 (by omega) (by omega), hf 171 (by omega) (by omega), hf 172 (by omega) (by omega), hf 174 (by omega) (by omega)]
  exact h
theorem RF_fore {σ s σ' : ev_S} {N A MI : Nat} (h : RF σ s N A MI) (hS : XS σ' s N MI (s 1)) (e7 : σ' 146 7 = 1) (hf : frF σ σ') : RF σ' s N A MI := by
  refine ⟨Or.inr ⟨e7, hS⟩, ?_⟩
  unfold XCare XK0 XP XWi XWd XCov XKr XKn XCh
  rw [hf 1 (by omega) (by omega), hf 162 (by omega) (by omega), hf 163 (by omega) (by omega), hf 164 (by omega) (by omega), hf 166 (by omega) (by omega), hf 167 (by omega) (by omega), hf 168 (by omega) (by omega), hf 169 (by omega) (by omega), hf 170 (by omega) (by omega), hf 171 (by omega) (by omega), hf 172 (by omega) (by omega), hf 174 (by omega) (by omega)]
  exact h.2
theorem RF_care {σ s σ' : ev_S} {N A MI : Nat} (h7 : σ 146 7 = 0 ∨ (σ 146 7 = 1 ∧ XS σ s N MI (s 1))) (h17 : σ 162 19 = 1) (hX : XCare σ' s N A MI (s 1)) (e : σ' 162 19 = σ 162 19) (hf : frG σ σ') : RF σ' s N A MI := by
  refine ⟨?_, Or.inr ⟨by rw [e]; exact h17, hX⟩⟩
  unfold XS
  rw [hf 146 (by omega), hf 159 (by omega)]
  exact h7
theorem frS_K {n : Nat} {σ σ' : ev_S} (h : frK σ σ') : frS n σ σ' := ⟨fun c _ _ c3 => h.2 c (by omega) (by omega), fun i _ => by rw [h.2 28 (by omega) (by omega)]⟩
theorem frS_F {n : Nat} {σ σ' : ev_S} (h : frF σ σ') : frS n σ σ' := ⟨fun c _ _ c3 => h c (by omega) (by omega), fun i _ => by rw [h 28 (by omega) (by omega)]⟩
theorem frS_G {n : Nat} {σ σ' : ev_S} (h : frG σ σ') : frS n σ σ' := ⟨fun c _ _ c3 => h c (by omega), fun i _ => by rw [h 28 (by omega)]⟩
theorem frS_rf {n : Nat} {σ : ev_S} : frS n σ σ := ⟨fun _ _ _ _ => rfl, fun _ _ => rfl⟩
theorem frS_tr {n : Nat} {σ σ' σ'' : ev_S} (h : frS n σ σ') (h2 : frS n σ' σ'') : frS n σ σ'' := ⟨fun c a b e => by rw [h2.1 c a b e]; exact h.1 c a b e, fun i hi => by rw [h2.2 i hi]; exact h.2 i hi⟩
theorem frQ_L {s s' : ev_S} (h : frL s s') : frQ s s' := by
  refine ⟨fun i i0 _ => h.1 i i0, h.2 1 (by omega) (by omega) (by omega) (by omega) (by omega) (by omega) (by omega), ?_, fun c c0 c3 c9 cc => h.2 c (by omega) (by omega) (by omega) (by omega) (by omega) (by omega) (by omega)⟩
  rw [h.2 9 (by omega) (by omega) (by omega) (by omega) (by omega) (by omega) (by omega)]
  exact fun _ _ => rfl
theorem frQ_0 {s : ev_S} {z : Int} : frQ s (ev_up s 0 0 z) := ⟨fun i i0 _ => ev_up_ne _ _ (by omega), ev_upj _ _ (by omega), by rw [ev_upj _ _ (show (9 : Nat) ≠ 0 by omega)]; exact fun _ _ => rfl, fun c c0 _ _ _ => ev_upj _ _ c0⟩
theorem frL_0 {s : ev_S} {z : Int} : frL s (ev_up s 0 0 z) := ⟨fun i i0 => ev_up_ne _ _ (by omega), fun c c0 _ _ _ _ _ _ => ev_upj _ _ c0⟩
/-- what a call that asks leaves of the class -/
def asks (σ s : ev_S) (N A MI : Nat) (σ' : ev_S) : Prop := frS (s 1 2).toNat σ σ' ∧ RF σ' s N A MI
theorem sim_of {MX MM : ev_M} {l : List (Nat × ev_V)} (h : ∀ (σ s : ev_S) (N A NO MI : Nat), ev_ok σ → ev_ok s → RM s N A NO MI → RX σ s → RF σ s N A MI → ∃ v : ev_V, Ev layX MX 60 0 ((0, ev_r 0) :: l) [] σ (fun u σ' => u = some v ∧ asks σ s N A MI σ') ∧ Ev layM MM 60 0 ((0, ev_r 0) :: l) [] s (fun u s' => u = some v ∧ frQ s s')) : Sim MX MM l := by
  intro σ s hσ hs hR
  obtain ⟨N, A, NO, MI, hM, hX, hP, hF, hI, hT⟩ := hR
  obtain ⟨v, h1, h2⟩ := h σ s N A NO MI hσ hs hM hX hF
  exact ⟨v, asks σ s N A MI, frQ s, h1, h2, fun σ' s' a b => XR_scr hM hX hP hI hT a.2 a.1 b⟩
theorem sim_planned (a : Int) : Sim M_X11_planned M_X12_planned [(1, ev_i a)] := sim_of fun σ s N A NO MI hσ hs hM hX hF => by
  refine ⟨_, ?_, sp_mplanned hM.1 hM.2.1 hM.2.2.2 (fun s' z1 z2 z3 z4 => ⟨rfl, fun i i0 _ => z1 i i0, z2, z3, fun c c0 c3 c9 cc => ?_⟩)⟩
  · have go : a = 0 ∨ a = 1 → Ev layX M_X11_planned 60 11 [(0, ev_r 0), (1, ev_i a)] [] σ (fun u σ' => u = some (ev_i (if a = 0 then (m_leave s (s 1) (m_plan s N A NO MI (s 1, s 9) (600 - s 1 0).toNat).1 MI).1 else if a = 1 then (m_leave s (s 1) (m_plan s N A NO MI (s 1, s 9) (600 - s 1 0).toNat).1 MI).2 else -1)) ∧ asks σ s N A MI σ') := by
      intro ha
      refine wp_X11_planned_11 (sp_xplan hM.1 hM.2.1 hX.1 hX.2.1 hX.2.2 (fun s' z8 z9 z146 zB zf => ?_))
      have hk : asks σ s N A MI s' := by
        refine ⟨⟨fun c c1 c2 c3 => zf c (by omega) c2 c1 (by omega) (by omega), fun i hi => ?_⟩, RF_keep hF (z146 7 (by omega) (by omega)) (zf 159 (by omega) (by omega) (by omega) (by omega) (by omega)) (by rw [zf 1 (by omega) (by omega) (by omega) (by omega) (by omega)]) (fun c c1 c2 => zf c (by omega) (by omega) (by omega) (by omega) (by omega))⟩
        rw [zB i hi, hX.2.2 i hi]
      refine ⟨fun q => ⟨?_, hk⟩, fun q => ⟨?_, hk⟩⟩
      · rw [if_neg q, if_pos (by omega), z9]
      · rw [if_pos q, z8]
    refine wp_X11_planned_0 ⟨fun q => go (Or.inl q), fun q => ⟨fun q2 => go (Or.inr q2), fun q2 => ⟨?_, frS_rf, hF⟩⟩⟩
    rw [if_neg q, if_neg q2]
  · by_cases c1 : c = 1
    · subst c1; exact z2
    · exact z4 c c0 c1 c3 c9 (by omega) (by omega)
theorem sim_least (a : Int) (ha : ev_R a) : Sim M_X11_least M_X12_least [(1, ev_i a)] := sim_of fun σ s N A NO MI hσ hs hM hX hF => by
  refine ⟨_, ?_, sp_mleast hM.1 hM.2.2.2 (RM_0 hM) (RM_wok hM) (RM_pl hM) (fun s' z => ⟨rfl, frQ_L z⟩)⟩
  have eA : σ 1 7 = (A : Int) := by rw [hX.1.1.2.2.2.2.1]; exact hM.1.2.2.1.1
  refine wp_X11_least_0 (sp_prepare hM.1 (RM_0 hM) (RM_wok hM) (RM_pl hM) hX.1 hX.2.1 hF.1 hF.2 (fun s1 z1 z2 z3 z4 => ?_))
  have fS : frS (s 1 2).toNat σ s1 := frS_K z4
  unfold v_least
  refine ⟨fun q => ⟨fun q1 => ⟨fun q2 => ⟨?_, fS, z3, Or.inr ⟨z2, z1⟩⟩, fun q2 => ?_⟩, fun q1 => ?_⟩, fun q => ?_⟩
  · rw [if_neg q, if_neg q1, if_neg (by omega)]
  · rw [ev_sub_eq ⟨by have := ha.1; omega, by have := ha.2; omega⟩]
    refine sp_hasAngel is_X10_1 (ev_pi_mk ?_)
    rw [z4.2 1 (by omega) (by omega), eA]
    by_cases c : 0 ≤ a - 10 ∧ a - 10 < (A : Int)
    · rw [if_pos c]
      refine ⟨fun q3 => absurd q3 (by omega), fun _ => ?_⟩
      obtain ⟨k, hk⟩ := Int.eq_ofNat_of_zero_le c.1
      rw [hk]
      refine sp_xsetOf hM.1 z1 (by omega) (fun s2 y1 y2 y3 => ev_pi_mk ⟨?_, frS_tr fS (frS_G y3), RF_care z3 z2 y1 y2 y3⟩)
      rw [if_neg q, if_neg q1, if_pos (by omega), Int.toNat_natCast]
    · rw [if_neg c]
      refine ⟨fun _ => ⟨?_, fS, z3, Or.inr ⟨z2, z1⟩⟩, fun q3 => absurd rfl q3⟩
      rw [if_neg q, if_neg q1, if_neg (by omega)]
  · refine sp_setLeft hM.1 z1 (fun s2 y1 y2 y3 => ev_pi_mk ⟨?_, frS_tr fS (frS_G y3), RF_care z3 z2 y1 y2 y3⟩)
    rw [if_neg q, if_pos q1]
  · refine sp_riskLeft hM.1 z1 (fun s2 y1 y2 y3 => ev_pi_mk ⟨?_, frS_tr fS (frS_G y3), RF_care z3 z2 y1 y2 y3⟩)
    rw [if_pos q]
theorem sim_fewest (a : Int) : Sim M_X11_fewest M_X12_fewest [(1, ev_i a)] := sim_of fun σ s N A NO MI hσ hs hM hX hF => by
  refine ⟨_, ?_, sp_mfewest hM.1 hM.2.2.2 (RM_0 hM) (RM_wok hM) (RM_pl hM) (fun s' z => ⟨rfl, frQ_L z⟩)⟩
  have hA6 := hM.1.2.2.1.2
  have go : a = 0 ∨ a = 1 → Ev layX M_X11_fewest 60 11 [(0, ev_r 0), (1, ev_i a)] [] σ (fun u σ' => u = some (ev_i (if a = 0 then ((pop 10 (v_few s N A MI (s 1)) : Nat) : Int) else if a = 1 then ((v_few s N A MI (s 1) : Nat) : Int) else -1)) ∧ asks σ s N A MI σ') := by
    intro ha
    refine wp_X11_fewest_11 (sp_prepare hM.1 (RM_0 hM) (RM_wok hM) (RM_pl hM) hX.1 hX.2.1 hF.1 hF.2 (fun s1 z1 z2 z3 z4 => ?_))
    refine sp_fewestGroup hM.1 z1 (fun s2 y1 y2 y3 y4 => ev_pi_mk ⟨fun q => ⟨?_, frS_tr (frS_K z4) (frS_G y3), RF_care z3 z2 y1 y2 y3⟩, fun q => sp_bitCount ?_ (ev_pi_mk ⟨?_, frS_tr (frS_K z4) (frS_G y3), RF_care z3 z2 y1 y2 y3⟩)⟩)
    · rw [if_neg q, if_pos (by omega)]
    · have p3 : 2 ^ A ≤ 64 := by have := Nat.pow_le_pow_right (n := 2) (by omega) hA6; omega
      omega
    · rw [if_pos q]
  refine wp_X11_fewest_0 ⟨fun q => go (Or.inl q), fun q => ⟨fun q2 => go (Or.inr q2), fun q2 => ⟨?_, frS_rf, hF⟩⟩⟩
  rw [if_neg q, if_neg q2]
theorem sim_hopeless : Sim M_X11_hopeless M_X12_hopeless [] := sim_of fun σ s N A NO MI hσ hs hM hX hF => by
  refine ⟨_, ?_, wp_X12_hopeless_0 (by rintro _ rfl; exact sp_seenBy (many := 0) hM.1 hM.2.2.2 (RM_0 hM) (RM_wok hM) (RM_pl hM) frL_0 (fun s' z => ev_pi_mk ⟨rfl, frQ_L z⟩))⟩
  exact wp_X11_hopeless_0 (sp_seenToBy (many := 0) hM.1 (RM_0 hM) (RM_wok hM) (RM_pl hM) hX.1 hX.2.1 hF.1 (fun s1 z1 z2 z3 z4 => ev_pi_mk ⟨rfl, frS_F z4, RF_fore hF z1 z2 z4⟩))
theorem sim_shows : Sim M_X11_shows M_X12_shows [] := sim_of fun σ s N A NO MI hσ hs hM hX hF => by
  refine ⟨_, ?_, wp_X12_shows_0 (by rintro _ rfl; exact sp_seenBy (many := 1) hM.1 hM.2.2.2 (RM_0 hM) (RM_wok hM) (RM_pl hM) frL_0 (fun s' z => ev_pi_mk ⟨rfl, frQ_L z⟩))⟩
  exact wp_X11_shows_0 (sp_seenToBy (many := 1) hM.1 (RM_0 hM) (RM_wok hM) (RM_pl hM) hX.1 hX.2.1 hF.1 (fun s1 z1 z2 z3 z4 => ev_pi_mk ⟨rfl, frS_F z4, RF_fore hF z1 z2 z4⟩))
theorem sim_near (a b w : Int) : Sim M_X11_near M_X12_near [(1, ev_i a), (2, ev_i b), (3, ev_i w)] := sim_of fun σ s N A NO MI hσ hs hM hX hF => by
  refine ⟨_, ?_, sp_mnear hM.1 hM.2.2.2 (RM_0 hM) (fun v hv => hM.2.1.2.2.1 v hv) (fun s' z1 z2 z3 => ⟨rfl, z1, z2, ?_, fun c c0 c3 c9 cc => ?_⟩)⟩
  · have eN : σ 1 4 = (N : Int) := by rw [hX.1.1.2.2.2.1]; exact hM.1.2.1.1
    refine wp_X11_near_0 (sp_hasWard is_X10_1 (ev_pi_mk ?_))
    rw [eN]
    by_cases c1 : 0 ≤ a ∧ a < (N : Int)
    · rw [if_pos c1]
      refine ⟨fun q => absurd q (by omega), fun _ => sp_hasWard is_X10_1 (ev_pi_mk ?_)⟩
      rw [eN]
      by_cases c2 : 0 ≤ b ∧ b < (N : Int)
      · rw [if_pos c2]
        refine ⟨fun q => absurd q (by omega), fun _ => ⟨fun q => ⟨?_, frS_rf, hF⟩, fun q => ?_⟩⟩
        · rw [if_neg (fun z => z.2.2.1 q)]
        · obtain ⟨ka, hka⟩ := Int.eq_ofNat_of_zero_le c1.1
          obtain ⟨kb, hkb⟩ := Int.eq_ofNat_of_zero_le c2.1
          subst hka hkb
          have go : w = 0 ∨ w = 1 → Ev layX M_X11_near 60 38 [(0, ev_r 0), (1, ev_i (ka : Int)), (2, ev_i (kb : Int)), (3, ev_i w)] [] σ (fun u σ' => u = some (ev_i (if (0 ≤ (ka : Int) ∧ (ka : Int) < (N : Int)) ∧ (0 ≤ (kb : Int) ∧ (kb : Int) < (N : Int)) ∧ (ka : Int) ≠ (kb : Int) ∧ (w = 0 ∨ w = 1) then (if w = 0 then (m_nearV s (s 1) (ka : Int).toNat (kb : Int).toNat).1 else (m_nearV s (s 1) (ka : Int).toNat (kb : Int).toNat).2) else -1)) ∧ asks σ s N A MI σ') := by
            intro hw
            refine wp_X11_near_38 (sp_meet (a := ka) (b := kb) hM.1 (RM_0 hM) (RM_wok hM) (by omega) (by omega) hX.1 hX.2.1 (fun s' z10 z11 z146 zf => ?_))
            have hk : asks σ s N A MI s' := ⟨⟨fun c c1 c2 c3 => zf c (by omega) (by omega) (by omega), fun i hi => by rw [zf 28 (by omega) (by omega) (by omega)]⟩, RF_keep hF (z146 7 (by omega) (by omega)) (zf 159 (by omega) (by omega) (by omega)) (by rw [zf 1 (by omega) (by omega) (by omega)]) (fun c c1 c2 => zf c (by omega) (by omega) (by omega))⟩
            rw [if_pos ⟨c1, c2, q, hw⟩, Int.toNat_natCast, Int.toNat_natCast]
            refine ⟨fun q2 => ⟨?_, hk⟩, fun q2 => ⟨?_, hk⟩⟩
            · rw [if_neg q2, z11]
            · rw [if_pos q2, z10]
          refine ⟨fun q2 => go (Or.inl q2), fun q2 => ⟨fun q3 => go (Or.inr q3), fun q3 => ⟨?_, frS_rf, hF⟩⟩⟩
          rw [if_neg (fun z => z.2.2.2.elim q2 q3)]
      · rw [if_neg c2]
        refine ⟨fun _ => ⟨?_, frS_rf, hF⟩, fun q => absurd rfl q⟩
        rw [if_neg (fun z => c2 z.2.1)]
    · rw [if_neg c1]
      refine ⟨fun _ => ⟨?_, frS_rf, hF⟩, fun q => absurd rfl q⟩
      rw [if_neg (fun z => c1 z.1)]
  · rw [z3 9 (by omega) (by omega) (by omega)]; exact fun _ _ => rfl
  · by_cases c1 : c = 1
    · subst c1; exact z2
    · exact z3 c c0 c1 c3
