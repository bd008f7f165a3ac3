section
/-! THE PLAN: all orders, both sides -/
theorem sp_isOrder {d L j : Nat} {s : ev_S} {b : Nat → Int} {Q : Option ev_V → ev_S → Prop} (hA : AM b L s j) (h1 : isO (kT b L) (kV b L) j → Q (some (ev_i 1)) s) (h0 : ¬ isO (kT b L) (kV b L) j → Q (some (ev_i 0)) s) : Ev layM M_X12_isOrder (d + 1) 0 [(0, ev_r 0)] [] s Q := by
  refine wp_X12_isOrder_0 ?_
  rw [hA.2.2.1]
  refine ⟨fun q => h0 (fun w => q w.1), fun q => ?_⟩
  have e23 := hA.2.2.2.1 (by omega)
  rw [e23]
  refine sp_isIn (ev_pi_mk ?_)
  rw [e23]
  by_cases c : 28 ≤ kV b L j ∧ kV b L j ≤ 32
  · rw [if_pos c]
    exact ⟨fun _ => h1 ⟨q, by omega⟩, fun q2 => absurd q2 (by omega)⟩
  · rw [if_neg c]
    exact ⟨fun q2 => absurd rfl q2, fun _ => ⟨fun q2 => h1 ⟨q, by omega⟩, fun q2 => ⟨fun q3 => h0 (fun w => by have := w.2; omega), fun q3 => h1 ⟨q, by omega⟩⟩⟩⟩
theorem both_plan {b : Nat → Int} {L n : Nat} {T : ev_S} {N : Int} (hN : EN b L n) : ∀ m j c : Nat, n ≤ j + m → j ≤ n → c ≤ 40 →
    (∃ k i, (∀ (d : Nat) (σ : ev_S) (a : Nat) (Q : Option ev_V → ev_S → Prop), CX σ T N → AX b L n σ j → σ 137 4 = (c : Int) → a ≤ j → (∀ σ', FX b L σ k i σ' → Q (some (ev_i 0)) σ') → Ev layX M_X8_readPlan (d + 5) 4 [(0, ev_r 137), (1, ev_i 1), (2, ev_i (a : Int))] [] σ Q) ∧
      (∀ (d : Nat) (s : ev_S) (Q : Option ev_V → ev_S → Prop), CM s T N → AM b L s j → (∀ s', FM b L s k i s' → Q (some (ev_i (-1))) s') → Ev layM M_X12_readPlan (d + 6) 2 [(0, ev_r 0), (1, ev_i (c : Int))] [] s Q)) ∨
    (∃ (c' j' : Nat) (O V : Nat → Int), c ≤ c' ∧ c' ≤ 40 ∧ j' ≤ n ∧ (∀ i, c ≤ i → i < c' → ordok (m_pl T) (O i) (V i)) ∧
      (∀ (d : Nat) (σ : ev_S) (a : Nat) (Q : Option ev_V → ev_S → Prop), CX σ T N → AX b L n σ j → σ 137 4 = (c : Int) → σ 137 3 = ((2 * c : Nat) : Int) → a ≤ j → (∀ σ', AX b L n σ' j' → frR σ σ' → σ' 137 4 = (c' : Int) → σ' 137 3 = ((2 * c' : Nat) : Int) → (∀ i, i < 2 * c → σ' 138 i = σ 138 i) → (∀ i, c ≤ i → i < c' → σ' 138 (2 * i) = O i ∧ σ' 138 (2 * i + 1) = V i) → Q (some (ev_i 1)) σ') → Ev layX M_X8_readPlan (d + 5) 4 [(0, ev_r 137), (1, ev_i 1), (2, ev_i (a : Int))] [] σ Q) ∧
      (∀ (d : Nat) (s : ev_S) (Q : Option ev_V → ev_S → Prop), CM s T N → AM b L s j → (kT b L j' = 0 → ∀ s', AM b L s' j' → frW s s' → (∀ i, i < c → s' 25 (240 + i) = s 25 (240 + i) ∧ s' 26 (240 + i) = s 26 (240 + i)) → (∀ i, c ≤ i → i < c' → s' 25 (240 + i) = O i ∧ s' 26 (240 + i) = V i) → Q (some (ev_i (c' : Int))) s') → (kT b L j' ≠ 0 → ∀ s', FM b L s 1 j' s' → Q (some (ev_i (-1))) s') → Ev layM M_X12_readPlan (d + 6) 2 [(0, ev_r 0), (1, ev_i (c : Int))] [] s Q)) := by
  have hn4 := hN.1
  intro m
  induction m with
  | zero =>
    intro j c hm hj hc
    have h0 := (EN_ge hN (j := j) (by omega)).2
    have nw : ¬ isO (kT b L) (kV b L) j := fun w => by have := w.1; omega
    have nk : ¬ (13 ≤ kk b L j ∧ kk b L j ≤ 19) := fun q => nw (kk_ord.mp q)
    refine Or.inr ⟨c, j, fun _ => 0, fun _ => 0, Nat.le_refl _, hc, hj, fun i a e => absurd e (by omega), fun d σ a Q hX hA h4 h3 ha hq => ?_, fun d s Q hX hA hq1 hq2 => ?_⟩
    · have fin := hq σ hA frR_rf h4 h3 (fun _ _ => rfl) (fun i a e => absurd e (by omega))
      refine wp_X8_readPlan_4 ?_
      rw [hA.2.1]
      exact ⟨fun _ => ⟨Or.inr rfl, fin⟩, fun _ => ⟨fun q => absurd q (by omega), fun _ => ⟨fun _ => ⟨Or.inr rfl, fin⟩, fun q1 => ⟨fun _ => ⟨Or.inr rfl, fin⟩, fun q2 => absurd ⟨q1, q2⟩ nk⟩⟩⟩⟩
    · exact wp_X12_readPlan_2 (sp_isOrder hA (fun w => absurd w nw) (fun _ => ev_pi_mk ⟨fun _ => ⟨fun q => absurd (by rw [hA.2.2.1]; exact h0) q, fun _ => hq1 h0 s hA frW_rf (fun _ _ => ⟨rfl, rfl⟩) (fun i a e => absurd e (by omega))⟩, fun q => absurd rfl q⟩))
  | succ m ih =>
    intro j c hm hj hc
    by_cases w : isO (kT b L) (kV b L) j
    · have hjn : j < n := EN_lt hN (by rw [w.1]; omega)
      have ek := kk_ord.mpr w
      by_cases c10 : c = 40
      · subst c10
        refine Or.inl ⟨3, j, fun d σ a Q hX hA h4 ha hq => ?_, fun d s Q hX hA hq => ?_⟩
        · refine wp_X8_readPlan_4 ?_
          rw [hA.2.1]
          refine ⟨fun q => absurd q (by omega), fun _ => ⟨fun q => absurd q (by omega), fun _ => ⟨fun q => absurd q (by omega), fun _ => ⟨fun q => absurd q (by omega), fun _ => wp_X8_readOrder_0 ?_⟩⟩⟩⟩
          rw [h4]
          refine ⟨fun q => absurd q (by omega), fun _ => sp_faulty (k := 3) hN hA (ev_pi_mk ⟨Or.inl rfl, ev_pi_mk ?_⟩)⟩
          have fin := hq _ ⟨(ftx_89 (b := b) (L := L) (i := j) (k := 3) (σ := σ)).1, ftx_89.2, frR_ftx frR_rf⟩
          exact wp_X8_readPlan_4 ⟨fun _ => ⟨Or.inl rfl, fin⟩, fun _ => ⟨fun _ => ⟨Or.inl rfl, fin⟩, fun q => absurd rfl q⟩⟩
        · exact wp_X12_readPlan_2 (sp_isOrder hA (fun _ => ev_pi_mk ⟨fun q => absurd q (by omega), fun _ => ⟨fun q => absurd rfl q, fun _ => sp_errs (k := 3) hA (ev_pi_mk (hq _ (FM_ers frW_rf)))⟩⟩) (fun q => absurd w q))
      · have xs : ∀ (d : Nat) (σ : ev_S) (a : Nat) (Q : Option ev_V → ev_S → Prop), AX b L n σ j → a ≤ j → Ev layX M_X8_readOrder (d + 4) 0 [(0, ev_r 137)] [] σ (ev_pi (fun r2 s1 => Ev layX M_X8_readPlan (d + 5) 4 [(0, ev_r 137), (1, ev_i r2), (2, ev_i ((a + 1 : Nat) : Int))] [] s1 Q)) → Ev layX M_X8_readPlan (d + 5) 4 [(0, ev_r 137), (1, ev_i 1), (2, ev_i (a : Int))] [] σ Q := by
          intro d σ a Q hA ha hk
          refine wp_X8_readPlan_4 ?_
          rw [hA.2.1]
          refine ⟨fun q => absurd q (by omega), fun _ => ⟨fun q => absurd q (by omega), fun _ => ⟨fun q => absurd q (by omega), fun _ => ⟨fun q => absurd q (by omega), fun _ => ?_⟩⟩⟩⟩
          rw [ev_add_eq ⟨by omega, by omega⟩]
          exact hk
        have ms : ∀ (d : Nat) (s : ev_S) (Q : Option ev_V → ev_S → Prop), AM b L s j → (Ev layM M_X12_readOrder (d + 5) 0 [(0, ev_r 0), (1, ev_i ((240 + c : Nat) : Int))] [] s (ev_pi (fun r7 s6 => ((r7 ≠ (-1) → Ev layM M_X12_readPlan (d + 6) 2 [(0, ev_r 0), (1, ev_i ((c + 1 : Nat) : Int))] [] s6 Q) ∧ (r7 = (-1) → Q (some (ev_i (-1))) s6))))) → Ev layM M_X12_readPlan (d + 6) 2 [(0, ev_r 0), (1, ev_i (c : Int))] [] s Q := by
          intro d s Q hA hk
          refine wp_X12_readPlan_2 (sp_isOrder hA (fun _ => ev_pi_mk ⟨fun q => absurd q (by omega), fun _ => ⟨fun _ => ?_, fun q => absurd q (by omega)⟩⟩) (fun q => absurd w q))
          rw [ev_add_eq ⟨by omega, by omega⟩, ev_add_eq ⟨by omega, by omega⟩, show (240 : Int) + (c : Int) = ((240 + c : Nat) : Int) by omega]
          exact hk
        rcases pOrd_ex (pl := m_pl T) hN w with ⟨k, i, hp⟩ | ⟨o, v, j1, hr, hj1, hjn1, hp⟩
        · refine Or.inl ⟨k, i, fun d σ a Q hX hA h4 ha hq => xs d σ a Q hA ha (sp_xord hN hX hA w h4 (by omega) (hp _ _ (fun σ' hF => ev_pi_mk ?_))), fun d s Q hX hA hq => ms d s Q hA (sp_mord hX hA w (by omega) (hp _ _ (fun s' hF => ev_pi_mk ⟨fun q => absurd rfl q, fun _ => hq s' hF⟩)))⟩
          exact wp_X8_readPlan_4 ⟨fun _ => ⟨Or.inl rfl, hq σ' hF⟩, fun _ => ⟨fun _ => ⟨Or.inl rfl, hq σ' hF⟩, fun q => absurd rfl q⟩⟩
        · rcases ih j1 (c + 1) (by omega) hjn1 (by omega) with ⟨k, i, hx, hm2⟩ | ⟨c', j', O, V, g1, g2, g3, g4, hx, hm2⟩
          · exact Or.inl ⟨k, i, fun d σ a Q hX hA h4 ha hq => xs d σ a Q hA ha (sp_xord hN hX hA w h4 (by omega) (hp _ _ (fun σ' z1 z2 z3 z4 z5 z6 z7 => ev_pi_mk (hx d σ' (a + 1) Q (CX_fr hX z2) z1 z3 (by omega) (fun σ'' hF => hq σ'' (FX_tr z2 hF)))))), fun d s Q hX hA hq => ms d s Q hA (sp_mord hX hA w (by omega) (hp _ _ (fun s' hM => ev_pi_mk ⟨fun _ => hm2 d s' Q (CM_fr hX hM.2.1) hM.1 (fun s'' hF => hq s'' (FM_tr hM.2.1 hF)), fun q => absurd q (by omega)⟩)))⟩
          · refine Or.inr ⟨c', j', fun q => if q = c then o else O q, fun q => if q = c then v else V q, by omega, g2, g3, fun i a e => ?_, fun d σ a Q hX hA h4 h3 ha hq => xs d σ a Q hA ha (sp_xord hN hX hA w h4 (by omega) (hp _ _ (fun σ' z1 z2 z3 z4 z5 z6 z7 => ev_pi_mk (hx d σ' (a + 1) Q (CX_fr hX z2) z1 z3 z4 (by omega) (fun σ'' x1 x2 x3 x4 x5 x6 => hq σ'' x1 (frR_tr z2 x2) x3 x4 (fun i hi => ?_) (fun i i1 i2 => ?_)))))), fun d s Q hX hA hq1 hq2 => ms d s Q hA (sp_mord hX hA w (by omega) (hp _ _ (fun s' hM => ev_pi_mk ⟨fun _ => hm2 d s' Q (CM_fr hX hM.2.1) hM.1 (fun e0 s'' x1 x2 x3 x4 => hq1 e0 s'' x1 (frW_tr hM.2.1 x2) (fun i hi => ?_) (fun i i1 i2 => ?_)) (fun e0 s'' hF => hq2 e0 s'' (FM_tr hM.2.1 hF)), fun q => absurd q (by omega)⟩)))⟩
            · show ordok (m_pl T) (if i = c then o else O i) (if i = c then v else V i)
              by_cases ci : i = c
              · rw [if_pos ci, if_pos ci]; exact hr
              · rw [if_neg ci, if_neg ci]; exact g4 i (by omega) e
            · rw [x5 i (by omega)]; exact z5 i hi
            · show σ'' 138 (2 * i) = (if i = c then o else O i) ∧ σ'' 138 (2 * i + 1) = (if i = c then v else V i)
              by_cases ci : i = c
              · subst ci
                rw [if_pos rfl, if_pos rfl, x5 _ (by omega), x5 _ (by omega)]; exact ⟨z6, z7⟩
              · rw [if_neg ci, if_neg ci]; exact x6 i (by omega) i2
            · rw [(x3 i (by omega)).1, (x3 i (by omega)).2]; exact hM.2.2.1 i hi
            · show s'' 25 (240 + i) = (if i = c then o else O i) ∧ s'' 26 (240 + i) = (if i = c then v else V i)
              by_cases ci : i = c
              · subst ci
                rw [if_pos rfl, if_pos rfl, (x3 i (by omega)).1, (x3 i (by omega)).2]; exact hM.2.2.2
              · rw [if_neg ci, if_neg ci]; exact x4 i (by omega) i2
    · have nk : ¬ (13 ≤ kk b L j ∧ kk b L j ≤ 19) := fun q => w (kk_ord.mp q)
      refine Or.inr ⟨c, j, fun _ => 0, fun _ => 0, Nat.le_refl _, hc, hj, fun i a e => absurd e (by omega), fun d σ a Q hX hA h4 h3 ha hq => ?_, fun d s Q hX hA hq1 hq2 => ?_⟩
      · have fin := hq σ hA frR_rf h4 h3 (fun _ _ => rfl) (fun i a e => absurd e (by omega))
        refine wp_X8_readPlan_4 ?_
        rw [hA.2.1]
        exact ⟨fun _ => ⟨Or.inr rfl, fin⟩, fun _ => ⟨fun q => absurd q (by omega), fun _ => ⟨fun _ => ⟨Or.inr rfl, fin⟩, fun q1 => ⟨fun _ => ⟨Or.inr rfl, fin⟩, fun q2 => absurd ⟨q1, q2⟩ nk⟩⟩⟩⟩
      · refine wp_X12_readPlan_2 (sp_isOrder hA (fun w2 => absurd w2 w) (fun _ => ev_pi_mk ⟨fun _ => ?_, fun q => absurd rfl q⟩))
        rw [hA.2.2.1]
        exact ⟨fun q => sp_errs (k := 1) hA (ev_pi_mk (hq2 q _ (FM_ers frW_rf))), fun q => hq1 q s hA frW_rf (fun _ _ => ⟨rfl, rfl⟩) (fun i a e => absurd e (by omega))⟩
end
