section
/-! THE FOUR TEXTS: from the first token to the end, both sides -/
abbrev TX (d : Nat) (σ : ev_S) (R : Int → ev_S → Prop) : Prop := Ev layX M_X8_takes d 0 [(0, ev_r 137), (1, ev_i 51)] [] σ (ev_pi (fun r s10 => ((r = 0 → R 0 s10) ∧ (r ≠ 0 → R 1 s10))))
theorem x_end {d L n j : Nat} {σ : ev_S} {b : Nat → Int} {R : Int → ev_S → Prop} (hN : EN b L n) (hA : AX b L n σ j) (hj : j ≤ n) (h0 : kT b L j ≠ 0 → R 0 (ftx b L σ 1 j)) (h1 : kT b L j = 0 → R 1 (adv b L σ (j + 1))) : TX (d + 1) σ R := by
  have hn := hN.1
  refine sp_takes hN hA (by omega) ⟨fun w => ev_pi_mk ⟨fun _ => h0 (fun q => w (kk_end.mpr q)), fun q => absurd rfl q⟩, fun w => ev_pi_mk ⟨fun q => absurd q (by omega), fun _ => h1 (kk_end.mp w)⟩⟩
theorem xg_adv2 {b : Nat → Int} {L n k j i : Nat} {σ0 σ : ev_S} {c : List (Int × Int)} {W : Nat → Int} {B : Nat → Nat} (h : xg b L n σ0 c k W B σ j) : xg b L n σ0 c k W B (adv b L σ i) i := by
  obtain ⟨h1, h2, h3, h4, h5, h6, h7, h8⟩ := h
  refine ⟨AX_adv h1 i, frR_adv h2, by rw [adv_i (by omega) (by omega)]; exact h3, by rw [adv_c (by omega)]; exact h4, by rw [adv_c (by omega)]; exact h5, fun k hk => ?_, by rw [adv_c (by omega)]; exact h7, by rw [adv_c (by omega)]; exact h8⟩
  have := h6 k hk
  unfold xcode at this ⊢
  rw [adv_c (by omega)]; exact this
theorem rd_law {b : Nat → Int} {L n : Nat} (hN : EN b L n) : (∃ q i, (∀ (d : Nat) (σ : ev_S) (R : Int → ev_S → Prop), 20 ≤ d → AX b L n σ 0 → σ 137 4 = 0 → σ 141 0 = 0 → (∀ σ', FX b L σ q i σ' → R 0 σ') → Ev layX M_X8_readLaw (d + 1) 0 [(0, ev_r 137)] [] σ (ev_pi (fun r9 s8 => ((r9 = 0 → R 0 s8) ∧ (r9 ≠ 0 → TX (d + 1) s8 R))))) ∧ (∀ (d : Nat) (s : ev_S) (Q : Option ev_V → ev_S → Prop), AM b L s 0 → s 0 31 = 0 → s 0 32 = 0 → (∀ s', FM b L s q i s' → Q (some (ev_i (-1))) s') → Ev layM M_X12_readText (d + 8) 0 [(0, ev_r 0)] [] s Q)) ∨ (∃ (c : List (Int × Int)) (k : Nat) (W : Nat → Int) (B : Nat → Nat), c.length ≤ 400 ∧ k ≤ 16 ∧ LT c B k ∧ (∀ i, i < k → W i = 0 ∨ W i = 1) ∧ (∀ (d : Nat) (σ : ev_S) (R : Int → ev_S → Prop), 20 ≤ d → AX b L n σ 0 → σ 137 4 = 0 → σ 141 0 = 0 → (∀ σ' j, xg b L n σ c k W B σ' j → R 1 σ') → Ev layX M_X8_readLaw (d + 1) 0 [(0, ev_r 137)] [] σ (ev_pi (fun r9 s8 => ((r9 = 0 → R 0 s8) ∧ (r9 ≠ 0 → TX (d + 1) s8 R))))) ∧ (∀ (d : Nat) (s : ev_S) (Q : Option ev_V → ev_S → Prop), AM b L s 0 → s 0 31 = 0 → s 0 32 = 0 → (∀ s' j, mg b L s c k W B s' j → Q (some (ev_i (k : Int))) s') → Ev layM M_X12_readText (d + 8) 0 [(0, ev_r 0)] [] s Q)) := by
  have hn := hN.1
  have x0 : ∀ (d : Nat) (σ : ev_S) (Q : Option ev_V → ev_S → Prop), AX b L n σ 0 → σ 137 4 = 0 → σ 141 0 = 0 → (∀ σ', xg b L n σ [] 0 (fun _ => 0) (fun _ => 0) σ' 0 → Ev layX M_X8_readLaw (d + 1) 9 [(0, ev_r 137), (1, ev_i ((0 : Nat) : Int))] [] σ' Q) → Ev layX M_X8_readLaw (d + 1) 0 [(0, ev_r 137)] [] σ Q := by
    intro d σ Q hA h4 h1 h
    refine wp_X8_readLaw_0 (wp_X4_clear_0 is_X4_139 ?_)
    rintro _ rfl _ rfl
    refine h _ ⟨AX_keep hA (fun c hc => by rw [ev_upj _ _ (by omega), ev_upj _ _ (by omega)]) (by rw [ev_upj _ _ (by omega), ev_upj _ _ (by omega)]) (by rw [ev_upj _ _ (by omega), ev_upj _ _ (by omega)]) (by rw [ev_upj _ _ (by omega), ev_upj _ _ (by omega)]) (by rw [ev_upj _ _ (by omega), ev_upj _ _ (by omega)]), frR_up (frR_up frR_rf (by omega)) (by omega), by rw [ev_upj _ _ (by omega), ev_upj _ _ (by omega), h4]; rfl, by rw [ev_up_same]; rfl, by rw [ev_up_ne _ _ (by omega), ev_up_same]; rfl, fun i hi => absurd hi (by simp), fun i hi => absurd hi (by omega), fun i hi => ?_⟩
    rw [ev_upj _ _ (by omega), ev_upj _ _ (by omega), show i = 0 by omega, h1]
    rfl
  have m0 : ∀ (s : ev_S), AM b L s 0 → s 0 31 = 0 → s 0 32 = 0 → mg b L s [] 0 (fun _ => 0) (fun _ => 0) s 0 := fun s hA h31 h32 => ⟨hA, frW_rf, h31, fun i hi => absurd hi (by simp), h32, fun i hi => absurd hi (by omega)⟩
  rcases both_ln hN n 0 [] 0 (fun _ => 0) (fun _ => 0) (by omega) (by omega) (by simp) (by omega) (fun i hi => absurd hi (by omega)) (fun i hi => by simp) (by simp) (fun i hi => absurd hi (by omega)) with ⟨q, i, hX, hM⟩ | ⟨j', c, k, W, B, f1, f2, f3, f4, f5, f6, hX, hM⟩
  · exact Or.inl ⟨q, i, fun d σ R hd hA h4 h1 hq => x0 d σ _ hA h4 h1 (fun σ' x' => hX d σ σ' _ hd x' (fun σ2 hF => ev_pi_mk ⟨fun _ => hq σ2 hF, fun w => absurd rfl w⟩)), fun d s Q hA h31 h32 hq => wp_X12_readText_0 (hM d s s Q (m0 s hA h31 h32) hq)⟩
  · by_cases t0 : kT b L j' = 0
    · refine Or.inr ⟨c, k, W, B, by omega, f4, f5, f6, fun d σ R hd hA h4 h1 hq => x0 d σ _ hA h4 h1 (fun σ' x' => hX d σ σ' _ hd x' (fun σ2 x2 => ev_pi_mk ⟨fun w => absurd w (by omega), fun _ => x_end hN x2.1 f1 (fun w => absurd t0 w) (fun _ => hq _ _ (xg_adv2 x2))⟩)), fun d s Q hA h31 h32 hq => wp_X12_readText_0 (hM d s s Q (m0 s hA h31 h32) (fun s' m' => wp_X12_readText_117 ?_))⟩
      rw [m'.1.2.2.1]
      exact ⟨fun w => absurd t0 w, fun _ => hq s' _ m'⟩
    · refine Or.inl ⟨1, j', fun d σ R hd hA h4 h1 hq => x0 d σ _ hA h4 h1 (fun σ' x' => hX d σ σ' _ hd x' (fun σ2 x2 => ev_pi_mk ⟨fun w => absurd w (by omega), fun _ => x_end hN x2.1 f1 (fun _ => hq _ (xg_ft x2)) (fun w => absurd w t0)⟩)), fun d s Q hA h31 h32 hq => wp_X12_readText_0 (hM d s s Q (m0 s hA h31 h32) (fun s' m' => wp_X12_readText_117 ?_))⟩
      rw [m'.1.2.2.1]
      exact ⟨fun _ => sp_errs (k := 1) m'.1 (ev_pi_mk (hq _ (FM_ers m'.2.1))), fun w => absurd w t0⟩
theorem rd_mis {b : Nat → Int} {L n : Nat} {T : ev_S} {N : Int} (hN : EN b L n) (hN0 : 0 ≤ N) : (∃ q i, (∀ (d : Nat) (σ : ev_S) (R : Int → ev_S → Prop), CX σ T N → AX b L n σ 0 → σ 137 4 = 0 → σ 137 3 = 0 → (∀ σ', FX b L σ q i σ' → R 0 σ') → Ev layX M_X8_readMishaps (d + 5) 0 [(0, ev_r 137)] [] σ (ev_pi (fun r9 s8 => ((r9 = 0 → R 0 s8) ∧ (r9 ≠ 0 → TX (d + 5) s8 R))))) ∧ (∀ (d : Nat) (s : ev_S) (Q : Option ev_V → ev_S → Prop), CM s T N → AM b L s 0 → (∀ s', FM b L s q i s' → Q (some (ev_i (-1))) s') → Ev layM M_X12_readMishaps (d + 6) 0 [(0, ev_r 0)] [] s Q)) ∨ (∃ (c : Nat) (Z : Nat → Int), c ≤ 10 ∧ (∀ i, i < c → rowok (m_pl T) N (fun q => Z (7 * i + q))) ∧ (∀ (d : Nat) (σ : ev_S) (R : Int → ev_S → Prop), CX σ T N → AX b L n σ 0 → σ 137 4 = 0 → σ 137 3 = 0 → (∀ σ', frR σ σ' → σ' 137 8 = 0 ∧ σ' 137 9 = -1 → σ' 137 4 = (c : Int) → σ' 137 3 = ((7 * c : Nat) : Int) → (∀ i, i < 7 * c → σ' 138 i = Z i) → R 1 σ') → Ev layX M_X8_readMishaps (d + 5) 0 [(0, ev_r 137)] [] σ (ev_pi (fun r9 s8 => ((r9 = 0 → R 0 s8) ∧ (r9 ≠ 0 → TX (d + 5) s8 R))))) ∧ (∀ (d : Nat) (s : ev_S) (Q : Option ev_V → ev_S → Prop), CM s T N → AM b L s 0 → (∀ s', frW s s' → (∀ i, i < 7 * c → s' 24 (70 + i) = Z i) → Q (some (ev_i (c : Int))) s') → Ev layM M_X12_readMishaps (d + 6) 0 [(0, ev_r 0)] [] s Q)) := by
  have hn := hN.1
  rcases both_mis (T := T) hN hN0 n 0 0 (by omega) (by omega) (by omega) with ⟨q, i, hX, hM⟩ | ⟨c, j', Z, f1, f2, f3, f4, hX, hM⟩
  · exact Or.inl ⟨q, i, fun d σ R hC hA h4 h3 hq => wp_X8_readMishaps_0 (hX d σ 0 _ hC hA h4 (by omega) (fun σ' hF => ev_pi_mk ⟨fun _ => hq σ' hF, fun w => absurd rfl w⟩)), fun d s Q hC hA hq => wp_X12_readMishaps_0 (hM d s Q hC hA hq)⟩
  · by_cases t0 : kT b L j' = 0
    · refine Or.inr ⟨c, Z, f2, fun i hi => f4 i (by omega) hi, fun d σ R hC hA h4 h3 hq => wp_X8_readMishaps_0 (hX d σ 0 _ hC hA h4 h3 (by omega) (fun σ' a1 a2 a3 a4 _ a6 => ev_pi_mk ⟨fun w => absurd w (by omega), fun _ => x_end hN a1 f3 (fun w => absurd t0 w) (fun _ => hq _ (frR_adv a2) ⟨by rw [adv_i (by omega) (by omega)]; exact a1.2.2.1, by rw [adv_i (by omega) (by omega)]; exact a1.2.2.2.2.2⟩ (by rw [adv_i (by omega) (by omega)]; exact a3) (by rw [adv_i (by omega) (by omega)]; exact a4) (fun i hi => by rw [adv_c (by omega)]; exact a6 i (by omega) hi))⟩)), fun d s Q hC hA hq => wp_X12_readMishaps_0 (hM d s Q hC hA (fun _ s' _ a2 _ a4 => hq s' a2 (fun i hi => a4 i (by omega) hi)) (fun w => absurd t0 w))⟩
    · exact Or.inl ⟨1, j', fun d σ R hC hA h4 h3 hq => wp_X8_readMishaps_0 (hX d σ 0 _ hC hA h4 h3 (by omega) (fun σ' a1 a2 a3 a4 _ a6 => ev_pi_mk ⟨fun w => absurd w (by omega), fun _ => x_end hN a1 f3 (fun _ => hq _ ⟨ftx_89.1, ftx_89.2, frR_ftx a2⟩) (fun w => absurd w t0)⟩)), fun d s Q hC hA hq => wp_X12_readMishaps_0 (hM d s Q hC hA (fun w => absurd w t0) (fun _ => hq))⟩
theorem rd_plan {b : Nat → Int} {L n : Nat} {T : ev_S} {N : Int} (hN : EN b L n) : (∃ q i, (∀ (d : Nat) (σ : ev_S) (R : Int → ev_S → Prop), CX σ T N → AX b L n σ 0 → σ 137 4 = 0 → σ 137 3 = 0 → (∀ σ', FX b L σ q i σ' → R 0 σ') → Ev layX M_X8_readPlan (d + 5) 0 [(0, ev_r 137)] [] σ (ev_pi (fun r9 s8 => ((r9 = 0 → R 0 s8) ∧ (r9 ≠ 0 → TX (d + 5) s8 R))))) ∧ (∀ (d : Nat) (s : ev_S) (Q : Option ev_V → ev_S → Prop), CM s T N → AM b L s 0 → (∀ s', FM b L s q i s' → Q (some (ev_i (-1))) s') → Ev layM M_X12_readPlan (d + 6) 0 [(0, ev_r 0)] [] s Q)) ∨ (∃ (c : Nat) (O V : Nat → Int), c ≤ 40 ∧ (∀ i, i < c → ordok (m_pl T) (O i) (V i)) ∧ (∀ (d : Nat) (σ : ev_S) (R : Int → ev_S → Prop), CX σ T N → AX b L n σ 0 → σ 137 4 = 0 → σ 137 3 = 0 → (∀ σ', frR σ σ' → σ' 137 8 = 0 ∧ σ' 137 9 = -1 → σ' 137 4 = (c : Int) → σ' 137 3 = ((2 * c : Nat) : Int) → (∀ i, i < c → σ' 138 (2 * i) = O i ∧ σ' 138 (2 * i + 1) = V i) → R 1 σ') → Ev layX M_X8_readPlan (d + 5) 0 [(0, ev_r 137)] [] σ (ev_pi (fun r9 s8 => ((r9 = 0 → R 0 s8) ∧ (r9 ≠ 0 → TX (d + 5) s8 R))))) ∧ (∀ (d : Nat) (s : ev_S) (Q : Option ev_V → ev_S → Prop), CM s T N → AM b L s 0 → (∀ s', frW s s' → (∀ i, i < c → s' 25 (240 + i) = O i ∧ s' 26 (240 + i) = V i) → Q (some (ev_i (c : Int))) s') → Ev layM M_X12_readPlan (d + 6) 0 [(0, ev_r 0)] [] s Q)) := by
  have hn := hN.1
  rcases both_plan (T := T) (N := N) hN n 0 0 (by omega) (by omega) (by omega) with ⟨q, i, hX, hM⟩ | ⟨c, j', O, V, f1, f2, f3, f4, hX, hM⟩
  · exact Or.inl ⟨q, i, fun d σ R hC hA h4 h3 hq => wp_X8_readPlan_0 (hX d σ 0 _ hC hA h4 (by omega) (fun σ' hF => ev_pi_mk ⟨fun _ => hq σ' hF, fun w => absurd rfl w⟩)), fun d s Q hC hA hq => wp_X12_readPlan_0 (hM d s Q hC hA hq)⟩
  · by_cases t0 : kT b L j' = 0
    · refine Or.inr ⟨c, O, V, f2, fun i hi => f4 i (by omega) hi, fun d σ R hC hA h4 h3 hq => wp_X8_readPlan_0 (hX d σ 0 _ hC hA h4 h3 (by omega) (fun σ' a1 a2 a3 a4 _ a6 => ev_pi_mk ⟨fun w => absurd w (by omega), fun _ => x_end hN a1 f3 (fun w => absurd t0 w) (fun _ => hq _ (frR_adv a2) ⟨by rw [adv_i (by omega) (by omega)]; exact a1.2.2.1, by rw [adv_i (by omega) (by omega)]; exact a1.2.2.2.2.2⟩ (by rw [adv_i (by omega) (by omega)]; exact a3) (by rw [adv_i (by omega) (by omega)]; exact a4) (fun i hi => by rw [adv_c (by omega)]; exact a6 i (by omega) hi))⟩)), fun d s Q hC hA hq => wp_X12_readPlan_0 (hM d s Q hC hA (fun _ s' _ a2 _ a4 => hq s' a2 (fun i hi => a4 i (by omega) hi)) (fun w => absurd t0 w))⟩
    · exact Or.inl ⟨1, j', fun d σ R hC hA h4 h3 hq => wp_X8_readPlan_0 (hX d σ 0 _ hC hA h4 h3 (by omega) (fun σ' a1 a2 a3 a4 _ a6 => ev_pi_mk ⟨fun w => absurd w (by omega), fun _ => x_end hN a1 f3 (fun _ => hq _ ⟨ftx_89.1, ftx_89.2, frR_ftx a2⟩) (fun w => absurd w t0)⟩)), fun d s Q hC hA hq => wp_X12_readPlan_0 (hM d s Q hC hA (fun w => absurd w t0) (fun _ => hq))⟩
theorem rd_way {b : Nat → Int} {L n : Nat} (hN : EN b L n) (hL : L ≤ 400) : (∃ q i, (∀ (d : Nat) (σ : ev_S) (R : Int → ev_S → Prop), AX b L n σ 0 → σ 137 3 = 0 → (∀ σ', FX b L σ q i σ' → R 0 σ') → Ev layX M_X8_readSteps (d + 14) 0 [(0, ev_r 137), (1, ev_i 0)] [] σ (ev_pi (fun r9 s8 => ((r9 = 0 → R 0 s8) ∧ (r9 ≠ 0 → TX (d + 14) s8 (fun v s22 => (v = 0 → R 0 s22) ∧ (v ≠ 0 → Ev layX M_X8_keepsTime (d + 14) 0 [(0, ev_r 137)] [] s22 (ev_pi (fun r25 s24 => ((r25 = 0 → R 0 s24) ∧ (r25 ≠ 0 → R 1 s24))))))))))) ∧ (∀ (d : Nat) (s : ev_S) (Q : Option ev_V → ev_S → Prop), AM b L s 0 → s 0 32 = 0 → (∀ s', FM b L s q i s' → Q (some (ev_i (-1))) s') → Ev layM M_X12_readWay (d + 7) 0 [(0, ev_r 0)] [] s Q)) ∨ (∃ (c : Nat) (W : Nat → Int), c ≤ 600 ∧ (∀ i, i < c → 0 ≤ W i ∧ W i ≤ 4) ∧ (∀ (d : Nat) (σ : ev_S) (R : Int → ev_S → Prop), AX b L n σ 0 → σ 137 3 = 0 → (∀ σ', frR σ σ' → σ' 137 8 = 0 ∧ σ' 137 9 = -1 → σ' 137 4 = σ 137 4 → σ' 137 3 = (c : Int) → (∀ i, i < c → σ' 138 i = W i) → R 1 σ') → Ev layX M_X8_readSteps (d + 14) 0 [(0, ev_r 137), (1, ev_i 0)] [] σ (ev_pi (fun r9 s8 => ((r9 = 0 → R 0 s8) ∧ (r9 ≠ 0 → TX (d + 14) s8 (fun v s22 => (v = 0 → R 0 s22) ∧ (v ≠ 0 → Ev layX M_X8_keepsTime (d + 14) 0 [(0, ev_r 137)] [] s22 (ev_pi (fun r25 s24 => ((r25 = 0 → R 0 s24) ∧ (r25 ≠ 0 → R 1 s24))))))))))) ∧ (∀ (d : Nat) (s : ev_S) (Q : Option ev_V → ev_S → Prop), AM b L s 0 → s 0 32 = 0 → (∀ s', frW s s' → (∀ i, i < c → s' 20 (4800 + i) = W i) → Q (some (ev_i (c : Int))) s') → Ev layM M_X12_readWay (d + 7) 0 [(0, ev_r 0)] [] s Q)) := by
  have hn := hN.1
  have xs : ∀ (d : Nat) (σ : ev_S) (Q : Option ev_V → ev_S → Prop), Ev layX M_X8_readSteps (d + 14) 4 [(0, ev_r 137), (1, ev_i ((0 : Nat) : Int)), (2, ev_i 1), (3, ev_i ((0 : Nat) : Int))] [] σ Q → Ev layX M_X8_readSteps (d + 14) 0 [(0, ev_r 137), (1, ev_i 0)] [] σ Q := fun d σ Q h => wp_X8_readSteps_0 h
  have x0 : ∀ (σ : ev_S), AX b L n σ 0 → σ 137 3 = 0 → xw b L n σ 0 (fun _ => 0) 0 σ 0 := fun σ hA h3 => ⟨hA, frR_rf, rfl, h3, fun i hi => absurd hi (by omega), fun i hi => absurd hi (by omega)⟩
  have ms : ∀ (d : Nat) (s : ev_S) (Q : Option ev_V → ev_S → Prop), AM b L s 0 → s 0 32 = 0 → (∀ s1, mw b L s 0 (fun _ => 0) (fun _ => 0) 0 0 s1 0 → Ev layM M_X12_readSteps (d + 6) 5 [(0, ev_r 0)] [] s1 (ev_pi (fun r2 s1 => ((r2 ≠ (-1) → (Ev layM M_X12_laysWay (d + 6) 0 [(0, ev_r 0)] [] s1 (ev_pi (fun r4 s3 => Q (some (ev_i r4)) s3)))) ∧ (r2 = (-1) → Q (some (ev_i (-1))) s1))))) → Ev layM M_X12_readWay (d + 7) 0 [(0, ev_r 0)] [] s Q := by
    intro d s Q hA h32 h
    refine wp_X12_readWay_0 (wp_X12_readSteps_0 ?_)
    rintro _ rfl
    exact h _ ⟨AM_keep hA (fun k _ _ => ev_up_ne _ _ (by omega)) (ev_upj _ _ (by omega)) (ev_upj _ _ (by omega)), frW_up0 frW_rf (by omega), by rw [ev_up_ne _ _ (by omega), h32]; rfl, by rw [ev_up_same]; rfl, fun i hi => absurd hi (by omega), fun i hi => absurd hi (by omega)⟩
  rcases both_steps hN n 0 0 (by omega) (by omega) (by omega) with ⟨q, i, hX, hM⟩ | ⟨j', O', C', lc, W', lw, f1, f2, f3, f4, f5, f6, f7, f8, hX, hM⟩
  · exact Or.inl ⟨q, i, fun d σ R hA h3 hq => xs d σ _ (hX (d + 14) σ σ 0 0 _ 0 _ (by omega) (x0 σ hA h3) (by omega) (by omega) (fun σ' hF => ev_pi_mk ⟨fun _ => hq σ' hF, fun w => absurd rfl w⟩)), fun d s Q hA h32 hq => ms d s Q hA h32 (fun s1 m1 => hM d s s1 0 _ _ 0 _ m1 (by omega) (fun s' hF => ev_pi_mk ⟨fun w => absurd rfl w, fun _ => hq s' hF⟩))⟩
  · have tl4 : tp b L j' ≤ 400 := by have := (tp_prop (b := b) (L := L) j').1; omega
    have m82 : ∀ (d : Nat) (s : ev_S) (Q : Option ev_V → ev_S → Prop), AM b L s 0 → s 0 32 = 0 → (∀ s1, mw b L s 0 O' C' lc 0 s1 j' → Ev layM M_X12_readSteps (d + 6) 82 [(0, ev_r 0)] [] s1 (ev_pi (fun r2 s1 => ((r2 ≠ (-1) → (Ev layM M_X12_laysWay (d + 6) 0 [(0, ev_r 0)] [] s1 (ev_pi (fun r4 s3 => Q (some (ev_i r4)) s3)))) ∧ (r2 = (-1) → Q (some (ev_i (-1))) s1))))) → Ev layM M_X12_readWay (d + 7) 0 [(0, ev_r 0)] [] s Q := by
      intro d s Q hA h32 h
      refine ms d s Q hA h32 (fun s1 m1 => hM d s s1 0 _ _ 0 _ m1 (by omega) (fun s2 m2 => wp_X12_readSteps_5 (sp_isStep m2.1 (fun w => absurd w f3) (fun _ => ev_pi_mk ⟨fun w => absurd rfl w, fun _ => sp_isWord m2.1 (fun w => absurd w f4) (fun _ => ev_pi_mk ⟨fun w => absurd rfl w, fun _ => ⟨fun _ => h s2 ?_, fun w => absurd w (by rw [m2.2.2.1]; omega)⟩⟩)⟩))))
      rw [Nat.zero_add] at m2
      exact mw_row m2 (fun i _ => ⟨(wcat_ge (l := 0) (A := fun _ => 0) (B := O') (i := i) ▸ by rw [Nat.zero_add]), (wcat_ge (l := 0) (A := fun _ => 0) (B := C') (i := i) ▸ by rw [Nat.zero_add])⟩)
    by_cases t0 : kT b L j' = 0
    · have jn : j' = n := by
        by_cases c : j' < n
        · exact absurd t0 ((kT_ok (b := b) (L := L) (j := j')).1 (hN.2.2.2 j' c))
        · omega
      have mlay : ∀ (d : Nat) (s : ev_S) (Q : Option ev_V → ev_S → Prop), AM b L s 0 → s 0 32 = 0 → (lw ≤ 600 → ∀ s', frW s s' → (∀ i, i < lw → s' 20 (4800 + i) = W' i) → Q (some (ev_i (lw : Int))) s') → (600 < lw → ∀ s', FM b L s 4 j' s' → Q (some (ev_i (-1))) s') → Ev layM M_X12_readWay (d + 7) 0 [(0, ev_r 0)] [] s Q := by
        intro d s Q hA h32 h1 h2
        refine m82 d s Q hA h32 (fun s1 m1 => wp_X12_readSteps_82 ?_)
        rw [m1.2.2.1, m1.1.2.2.1]
        refine ⟨fun w => absurd rfl w, fun _ => ⟨fun w => absurd t0 w, fun _ => ev_pi_mk ⟨fun _ => wp_X12_laysWay_0 ?_, fun w => absurd w (by omega)⟩⟩⟩
        have e41 := m1.2.2.2.1
        refine f6 (d + 5) 0 0 j' s1 s1 (fun _ => 0) _ (by rw [e41]; omega) (by rw [e41]; omega) (by omega) (fun i hi => m1.2.2.2.2.2 i hi) ⟨m1.1, frW_rf, ⟨rfl, rfl, rfl⟩, fun i hi => absurd hi (by omega)⟩ (fun hl s' y _ => wp_X12_laysWay_6 ?_) (fun hl s' hF => ev_pi_mk (h2 (by omega) s' (FM_tr m1.2.1 hF)))
        rw [y.2.2.1.2.2, e41]
        refine ⟨fun _ => ev_pi_mk ?_, fun w => absurd w (by omega)⟩
        rw [Nat.zero_add]
        refine h1 (by omega) s' (frW_tr m1.2.1 y.2.1) (fun i hi => ?_)
        have := y.2.2.2 i (by omega)
        rw [this]
        have e := wcat_ge (l := 0) (A := fun _ => (0 : Int)) (B := W') (i := i)
        rw [Nat.zero_add] at e
        exact e
      have xend : ∀ (d : Nat) (σ : ev_S) (R : Int → ev_S → Prop), AX b L n σ 0 → σ 137 3 = 0 → (∀ σ', xw b L n σ 0 W' lw σ' (j' + 1) → Ev layX M_X8_keepsTime (d + 14) 0 [(0, ev_r 137)] [] σ' (ev_pi (fun r25 s24 => ((r25 = 0 → R 0 s24) ∧ (r25 ≠ 0 → R 1 s24))))) → Ev layX M_X8_readSteps (d + 14) 0 [(0, ev_r 137), (1, ev_i 0)] [] σ (ev_pi (fun r9 s8 => ((r9 = 0 → R 0 s8) ∧ (r9 ≠ 0 → TX (d + 14) s8 (fun v s22 => (v = 0 → R 0 s22) ∧ (v ≠ 0 → Ev layX M_X8_keepsTime (d + 14) 0 [(0, ev_r 137)] [] s22 (ev_pi (fun r25 s24 => ((r25 = 0 → R 0 s24) ∧ (r25 ≠ 0 → R 1 s24)))))))))) := by
        intro d σ R hA h3 h
        refine xs d σ _ (hX (d + 14) σ σ 0 0 _ 0 _ (by omega) (x0 σ hA h3) (by omega) (by omega) (fun σ' x' => ev_pi_mk ⟨fun w => absurd w (by omega), fun _ => x_end hN x'.1 f2 (fun w => absurd t0 w) (fun _ => ⟨fun w => absurd w (by omega), fun _ => h _ ?_⟩)⟩))
        rw [Nat.zero_add] at x'
        refine xw_row (xw_adv x') (fun i _ => ?_)
        have e := wcat_ge (l := 0) (A := fun _ => (0 : Int)) (B := W') (i := i)
        rw [Nat.zero_add] at e
        exact e.symm
      by_cases l6 : lw ≤ 600
      · refine Or.inr ⟨lw, W', l6, f8, fun d σ R hA h3 hq => xend d σ R hA h3 (fun σ' x' => wp_X8_keepsTime_0 ?_), fun d s Q hA h32 hq => mlay d s Q hA h32 (fun _ => hq) (fun w => absurd w (by omega))⟩
        have e3 := x'.2.2.2.1
        rw [Nat.zero_add] at e3
        rw [e3]
        refine ⟨fun _ => ev_pi_mk ⟨fun w => absurd w (by omega), fun _ => hq σ' x'.2.1 ⟨x'.1.2.2.1, x'.1.2.2.2.2.2⟩ x'.2.2.1 e3 (fun i hi => ?_)⟩, fun w => absurd w (by omega)⟩
        have := x'.2.2.2.2.2 i hi (by omega)
        rw [Nat.zero_add] at this
        exact this
      · refine Or.inl ⟨4, j', fun d σ R hA h3 hq => xend d σ R hA h3 (fun σ' x' => wp_X8_keepsTime_0 ?_), fun d s Q hA h32 hq => mlay d s Q hA h32 (fun w => absurd w l6) (fun _ => hq)⟩
        have e3 := x'.2.2.2.1
        rw [Nat.zero_add] at e3
        rw [e3]
        refine ⟨fun w => absurd w (by omega), fun _ => sp_faulty (k := 4) hN x'.1 (ev_pi_mk ⟨fun _ => ev_pi_mk ⟨fun _ => hq _ ?_, fun w => absurd rfl w⟩, fun w => absurd rfl w⟩)⟩
        have g := xw_ft (k := 4) (i := j' + 1) x'
        refine ⟨g.1, ?_, g.2.2⟩
        rw [g.2.1, (EN_ge hN (j := j' + 1) (by omega)).1, (EN_ge hN (j := j') (by omega)).1]
    · refine Or.inl ⟨1, j', fun d σ R hA h3 hq => xs d σ _ (hX (d + 14) σ σ 0 0 _ 0 _ (by omega) (x0 σ hA h3) (by omega) (by omega) (fun σ' x' => ev_pi_mk ⟨fun w => absurd w (by omega), fun _ => x_end hN x'.1 f2 (fun _ => ⟨fun _ => hq _ (xw_ft x'), fun w => absurd rfl w⟩) (fun w => absurd w t0)⟩)), fun d s Q hA h32 hq => m82 d s Q hA h32 (fun s1 m1 => wp_X12_readSteps_82 ?_)⟩
      rw [m1.2.2.1, m1.1.2.2.1]
      exact ⟨fun w => absurd rfl w, fun _ => ⟨fun _ => sp_errs (k := 1) m1.1 (ev_pi_mk (ev_pi_mk ⟨fun w => absurd rfl w, fun _ => hq _ (FM_ers m1.2.1)⟩)), fun w => absurd w t0⟩⟩
end
