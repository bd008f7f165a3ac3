section
/-! MISHAPS: all of them, both sides -/
theorem FX_tr {b : Nat → Int} {L k i : Nat} {σ0 σ σ' : ev_S} (h : frR σ0 σ) (g : FX b L σ k i σ') : FX b L σ0 k i σ' := ⟨g.1, g.2.1, frR_tr h g.2.2⟩
theorem FM_tr {b : Nat → Int} {L k i : Nat} {s0 s s' : ev_S} (h : frW s0 s) (g : FM b L s k i s') : FM b L s0 k i s' := ⟨g.1, g.2.1, frW_tr h g.2.2⟩
def CX (σ0 T : ev_S) (N : Int) : Prop := m_dim T ∧ (σ0 1 0 = T 0 6 + 8 ∧ σ0 1 1 = T 0 7 + 8) ∧ σ0 1 4 = N ∧ (0 ≤ N ∧ N ≤ 8)
def CM (s0 T : ev_S) (N : Int) : Prop := m_dim T ∧ s0 0 6 = T 0 6 ∧ s0 0 7 = T 0 7 ∧ s0 0 10 = N ∧ (0 ≤ N ∧ N ≤ 8)
theorem CX_fr {σ0 σ T : ev_S} {N : Int} (h : CX σ0 T N) (hf : frR σ0 σ) : CX σ T N := by
  unfold CX
  rw [hf.1 1 (by omega)]; exact h
theorem CM_fr {s0 s T : ev_S} {N : Int} (h : CM s0 T N) (hf : frW s0 s) : CM s T N := by
  unfold CM
  rw [hf.1 6 (by omega), hf.1 7 (by omega), hf.1 10 (by omega)]; exact h
/-- what is behind a mishap is behind a token -/
theorem pMis_n {b : Nat → Int} {L n j j1 : Nat} {pl : Int → Prop} {N : Int} {r : Nat → Int} (hN : EN b L n) (hp : ∀ (E : Nat → Nat → Prop) (K : (Nat → Int) → Nat → Prop), K r j1 → pMis (kT b L) (kV b L) pl N j E K) : j1 ≤ n := by
  have h := hp (fun _ _ => True) (fun _ j' => j' = j1) rfl
  by_cases c : j1 ≤ n
  · exact c
  · exfalso
    have h2 := hp (fun _ _ => False) (fun _ j' => j' = j1) rfl
    unfold pMis at h2
    have num : ∀ {lo hi : Int} {i : Nat} {K : Int → Prop}, pnum (kT b L) (kV b L) lo hi i (fun _ _ => False) K → K (kV b L i) := fun {lo hi i K} q => by
      by_cases c1 : kT b L i = 3
      · by_cases c2 : lo ≤ kV b L i ∧ kV b L i ≤ hi
        · exact (q.2 c1).2 c2
        · exact absurd ((q.2 c1).1 c2) id
      · exact absurd (q.1 c1) id
    have plc : ∀ {i : Nat} {K : Int → Prop}, pplc (kT b L) (kV b L) pl i (fun _ _ => False) K → K (kV b L i) := fun {i K} q => by
      by_cases c1 : kT b L i = 3
      · by_cases c2 : pl (kV b L i)
        · exact (q.2 c1).2 c2
        · exact absurd ((q.2 c1).1 c2) id
      · exact absurd (q.1 c1) id
    have is1 : ∀ {P : Prop} {i : Nat} {K : Prop}, pis P i (fun _ _ => False) K → P ∧ K := fun {P i K} q => by
      by_cases c1 : P
      · exact ⟨c1, q.2 c1⟩
      · exact absurd (q.1 c1) id
    have h3 := num (is1 (num (is1 (plc (is1 (num h2)).2)).2)).2
    have fin : ∀ {w k : Int} {i : Nat}, pR3 (kT b L) (kV b L) w k i (fun _ _ => False) (fun _ _ _ j' => pis (isS (kT b L) (kV b L) 59 j') j' (fun _ _ => False) (j' + 1 = j1)) → False := fun {w k i} q => by
      by_cases c1 : isW (kT b L) (kV b L) 27 i
      · have g := is1 (num (q.1 c1))
        have := isS_n hN g.1
        have := g.2
        omega
      · have g := is1 (q.2 c1)
        have := isS_n hN g.1
        have := g.2
        omega
    have fin2 : ∀ {w : Int} {i : Nat}, pR2 (kT b L) (kV b L) w i (fun _ _ => False) (fun _ _ _ j' => pis (isS (kT b L) (kV b L) 59 j') j' (fun _ _ => False) (j' + 1 = j1)) → False := fun {w i} q => by
      by_cases c1 : isW (kT b L) (kV b L) 26 i
      · exact fin (is1 (q.1 c1)).2
      · exact fin (q.2 c1)
    by_cases c1 : isW (kT b L) (kV b L) 25 (j + 8)
    · exact fin2 (num (h3.1 c1))
    · exact fin2 (h3.2 c1)
theorem both_mis {b : Nat → Int} {L n : Nat} {T : ev_S} {N : Int} (hN : EN b L n) (hN0 : 0 ≤ N) : ∀ m j c : Nat, n ≤ j + m → j ≤ n → c ≤ 10 →
    (∃ k i, (∀ (d : Nat) (σ : ev_S) (a : Nat) (Q : Option ev_V → ev_S → Prop), CX σ T N → AX b L n σ j → σ 137 4 = (c : Int) → a ≤ j → (∀ σ', FX b L σ k i σ' → Q (some (ev_i 0)) σ') → Ev layX M_X8_readMishaps (d + 5) 4 [(0, ev_r 137), (1, ev_i 1), (2, ev_i (a : Int))] [] σ Q) ∧
      (∀ (d : Nat) (s : ev_S) (Q : Option ev_V → ev_S → Prop), CM s T N → AM b L s j → (∀ s', FM b L s k i s' → Q (some (ev_i (-1))) s') → Ev layM M_X12_readMishaps (d + 6) 2 [(0, ev_r 0), (1, ev_i (c : Int))] [] s Q)) ∨
    (∃ (c' j' : Nat) (R : Nat → Int), c ≤ c' ∧ c' ≤ 10 ∧ j' ≤ n ∧ (∀ i, c ≤ i → i < c' → rowok (m_pl T) N (fun q => R (7 * i + q))) ∧
      (∀ (d : Nat) (σ : ev_S) (a : Nat) (Q : Option ev_V → ev_S → Prop), CX σ T N → AX b L n σ j → σ 137 4 = (c : Int) → σ 137 3 = ((7 * c : Nat) : Int) → a ≤ j → (∀ σ', AX b L n σ' j' → frR σ σ' → σ' 137 4 = (c' : Int) → σ' 137 3 = ((7 * c' : Nat) : Int) → (∀ i, i < 7 * c → σ' 138 i = σ 138 i) → (∀ i, 7 * c ≤ i → i < 7 * c' → σ' 138 i = R i) → Q (some (ev_i 1)) σ') → Ev layX M_X8_readMishaps (d + 5) 4 [(0, ev_r 137), (1, ev_i 1), (2, ev_i (a : Int))] [] σ Q) ∧
      (∀ (d : Nat) (s : ev_S) (Q : Option ev_V → ev_S → Prop), CM s T N → AM b L s j → (kT b L j' = 0 → ∀ s', AM b L s' j' → frW s s' → (∀ i, i < 7 * c → s' 24 (70 + i) = s 24 (70 + i)) → (∀ i, 7 * c ≤ i → i < 7 * c' → s' 24 (70 + i) = R i) → Q (some (ev_i (c' : Int))) s') → (kT b L j' ≠ 0 → ∀ s', FM b L s 1 j' s' → Q (some (ev_i (-1))) s') → Ev layM M_X12_readMishaps (d + 6) 2 [(0, ev_r 0), (1, ev_i (c : Int))] [] s Q)) := by
  have hn4 := hN.1
  intro m
  induction m with
  | zero =>
    intro j c hm hj hc
    have hjn : j = n := by omega
    have h0 := (EN_ge hN (j := j) (by omega)).2
    have nw : ¬ isW (kT b L) (kV b L) 21 j := fun w => by have := w.1; omega
    have nk : kk b L j ≠ 6 := fun q => nw ((kk_word (w := 21) (by omega)).mp q)
    refine Or.inr ⟨c, j, fun _ => 0, Nat.le_refl _, hc, hj, fun i a e => absurd e (by omega), fun d σ a Q hX hA h4 h3 ha hq => ?_, fun d s Q hX hA hq1 hq2 => ?_⟩
    · have fin := hq σ hA frR_rf h4 h3 (fun _ _ => rfl) (fun i a e => absurd e (by omega))
      refine wp_X8_readMishaps_4 ⟨fun _ => ⟨Or.inr rfl, fin⟩, fun _ => ⟨fun q => absurd q (by omega), fun _ => ⟨fun _ => ⟨Or.inr rfl, fin⟩, fun q => absurd q (by rw [hA.2.1]; exact nk)⟩⟩⟩
    · refine wp_X12_readMishaps_2 (sp_isWord hA (fun w => absurd w nw) (fun _ => ev_pi_mk ⟨fun _ => ⟨fun q => absurd (by rw [hA.2.2.1]; exact h0) q, fun _ => hq1 h0 s hA frW_rf (fun _ _ => rfl) (fun i a e => absurd e (by omega))⟩, fun q => absurd rfl q⟩))
  | succ m ih =>
    intro j c hm hj hc
    by_cases w : isW (kT b L) (kV b L) 21 j
    · have hjn := isW_n hN w
      have ek : kk b L j = 6 := (kk_word (w := 21) (by omega)).mpr w
      by_cases c10 : c = 10
      · subst c10
        refine Or.inl ⟨3, j, fun d σ a Q hX hA h4 ha hq => ?_, fun d s Q hX hA hq => ?_⟩
        · refine wp_X8_readMishaps_4 ⟨fun q => absurd q (by omega), fun _ => ⟨fun q => absurd q (by omega), fun _ => ⟨fun q => absurd (by rw [hA.2.1]; exact ek) q, fun _ => wp_X8_readMishap_0 ?_⟩⟩⟩
          rw [h4]
          refine ⟨fun q => absurd q (by omega), fun _ => sp_faulty (k := 3) hN hA (ev_pi_mk ⟨Or.inl rfl, ev_pi_mk ?_⟩)⟩
          have fin := hq _ ⟨(ftx_89 (b := b) (L := L) (i := j) (k := 3) (σ := σ)).1, ftx_89.2, frR_ftx frR_rf⟩
          exact wp_X8_readMishaps_4 ⟨fun _ => ⟨Or.inl rfl, fin⟩, fun _ => ⟨fun _ => ⟨Or.inl rfl, fin⟩, fun q => absurd rfl q⟩⟩
        · refine wp_X12_readMishaps_2 (sp_isWord hA (fun _ => ev_pi_mk ⟨fun q => absurd q (by omega), fun _ => ⟨fun q => absurd rfl q, fun _ => sp_errs (k := 3) hA (ev_pi_mk (hq _ (FM_ers frW_rf)))⟩⟩) (fun q => absurd w q))
      · have xs : ∀ (d : Nat) (σ : ev_S) (a : Nat) (Q : Option ev_V → ev_S → Prop), AX b L n σ j → a ≤ j → Ev layX M_X8_readMishap (d + 4) 0 [(0, ev_r 137)] [] σ (ev_pi (fun r2 s1 => Ev layX M_X8_readMishaps (d + 5) 4 [(0, ev_r 137), (1, ev_i r2), (2, ev_i ((a + 1 : Nat) : Int))] [] s1 Q)) → Ev layX M_X8_readMishaps (d + 5) 4 [(0, ev_r 137), (1, ev_i 1), (2, ev_i (a : Int))] [] σ Q := by
          intro d σ a Q hA ha hk
          refine wp_X8_readMishaps_4 ⟨fun q => absurd q (by omega), fun _ => ⟨fun q => absurd q (by omega), fun _ => ⟨fun q => absurd (by rw [hA.2.1]; exact ek) q, fun _ => ?_⟩⟩⟩
          rw [ev_add_eq ⟨by omega, by omega⟩]
          exact hk
        have ms : ∀ (d : Nat) (s : ev_S) (Q : Option ev_V → ev_S → Prop), AM b L s j → (∀ s1, AM b L s1 (j + 1) → rdf s s1 → Ev layM M_X12_readMishap (d + 5) 0 [(0, ev_r 0), (1, ev_i ((70 + 7 * c : Nat) : Int))] [] s1 (ev_pi (fun r7 s6 => ((r7 ≠ (-1) → Ev layM M_X12_readMishaps (d + 6) 2 [(0, ev_r 0), (1, ev_i ((c + 1 : Nat) : Int))] [] s6 Q) ∧ (r7 = (-1) → Q (some (ev_i (-1))) s6))))) → Ev layM M_X12_readMishaps (d + 6) 2 [(0, ev_r 0), (1, ev_i (c : Int))] [] s Q := by
          intro d s Q hA hk
          refine wp_X12_readMishaps_2 (sp_isWord hA (fun _ => ev_pi_mk ⟨fun q => absurd q (by omega), fun _ => ⟨fun _ => sp_rd hA (fun s1 y1 y2 => ?_), fun q => absurd q (by omega)⟩⟩) (fun q => absurd w q))
          rw [ev_mul_eq ⟨by omega, by omega⟩, ev_add_eq ⟨by omega, by omega⟩, ev_add_eq ⟨by omega, by omega⟩, show (70 : Int) + 7 * (c : Int) = ((70 + 7 * c : Nat) : Int) by omega]
          exact hk s1 y1 y2
        have mm0 : ∀ s s1, AM b L s1 (j + 1) → rdf s s1 → mm b L s c (fun _ => 0) 0 s1 (j + 1) := fun s s1 y1 y2 => ⟨y1, frW_rd y2, fun i _ => by rw [y2.2 24 (by omega)], fun i hi => absurd hi (by omega)⟩
        rcases pMis_ex (kT b L) (kV b L) (m_pl T) N j hN0 with ⟨k, i, hp⟩ | ⟨r, j1, hr, hj1, hp⟩
        · refine Or.inl ⟨k, i, fun d σ a Q hX hA h4 ha hq => xs d σ a Q hA ha (sp_xmis hN hX.1 hX.2.1 hX.2.2.1 hX.2.2.2 hA hjn h4 (by omega) (hp _ _ (fun σ' hF => ev_pi_mk ?_))), fun d s Q hX hA hq => ms d s Q hA (fun s1 y1 y2 => sp_mmis (by omega) hX.1 hX.2.1 hX.2.2.1 hX.2.2.2.1 hX.2.2.2.2 (mm0 s s1 y1 y2) (hp _ _ (fun s' hF => ev_pi_mk ⟨fun q => absurd rfl q, fun _ => hq s' hF⟩)))⟩
          exact wp_X8_readMishaps_4 ⟨fun _ => ⟨Or.inl rfl, hq σ' hF⟩, fun _ => ⟨fun _ => ⟨Or.inl rfl, hq σ' hF⟩, fun q => absurd rfl q⟩⟩
        · by_cases hjn1 : j1 ≤ n
          · rcases ih j1 (c + 1) (by omega) hjn1 (by omega) with ⟨k, i, hx, hm2⟩ | ⟨c', j', R, g1, g2, g3, g4, hx, hm2⟩
            · refine Or.inl ⟨k, i, fun d σ a Q hX hA h4 ha hq => xs d σ a Q hA ha (sp_xmis hN hX.1 hX.2.1 hX.2.2.1 hX.2.2.2 hA hjn h4 (by omega) (hp _ _ (fun σ' z1 z2 z3 z4 z5 z6 => ev_pi_mk (hx d σ' (a + 1) Q (CX_fr hX z2) z1 z3 (by omega) (fun σ'' hF => hq σ'' (FX_tr z2 hF)))))), fun d s Q hX hA hq => ms d s Q hA (fun s1 y1 y2 => sp_mmis (by omega) hX.1 hX.2.1 hX.2.2.1 hX.2.2.2.1 hX.2.2.2.2 (mm0 s s1 y1 y2) (hp _ _ (fun s' hM => ev_pi_mk ⟨fun _ => hm2 d s' Q (CM_fr hX hM.2.1) hM.1 (fun s'' hF => hq s'' (FM_tr hM.2.1 hF)), fun q => absurd q (by omega)⟩)))⟩
            · refine Or.inr ⟨c', j', fun q => if q < 7 * (c + 1) then r (q - 7 * c) else R q, by omega, g2, g3, fun i a e => ?_, fun d σ a Q hX hA h4 h3 ha hq => xs d σ a Q hA ha (sp_xmis hN hX.1 hX.2.1 hX.2.2.1 hX.2.2.2 hA hjn h4 (by omega) (hp _ _ (fun σ' z1 z2 z3 z4 z5 z6 => ev_pi_mk (hx d σ' (a + 1) Q (CX_fr hX z2) z1 z3 z4 (by omega) (fun σ'' x1 x2 x3 x4 x5 x6 => hq σ'' x1 (frR_tr z2 x2) x3 x4 (fun i hi => ?_) (fun i i1 i2 => ?_)))))), fun d s Q hX hA hq1 hq2 => ms d s Q hA (fun s1 y1 y2 => sp_mmis (by omega) hX.1 hX.2.1 hX.2.2.1 hX.2.2.2.1 hX.2.2.2.2 (mm0 s s1 y1 y2) (hp _ _ (fun s' hM => ev_pi_mk ⟨fun _ => hm2 d s' Q (CM_fr hX hM.2.1) hM.1 (fun e0 s'' x1 x2 x3 x4 => hq1 e0 s'' x1 (frW_tr hM.2.1 x2) (fun i hi => ?_) (fun i i1 i2 => ?_)) (fun e0 s'' hF => hq2 e0 s'' (FM_tr hM.2.1 hF)), fun q => absurd q (by omega)⟩)))⟩
              · by_cases ci : i = c
                · subst ci
                  have e1 : (fun q => if 7 * i + q < 7 * (i + 1) then r (7 * i + q - 7 * i) else R (7 * i + q)) = fun q => if q < 7 then r q else R (7 * i + q) := by
                    funext q
                    by_cases cq : q < 7
                    · rw [if_pos cq, if_pos (by omega), show 7 * i + q - 7 * i = q by omega]
                    · rw [if_neg cq, if_neg (by omega)]
                  rw [e1]
                  exact hr
                · have := g4 i (by omega) e
                  have e1 : (fun q => if 7 * i + q < 7 * (c + 1) then r (7 * i + q - 7 * c) else R (7 * i + q)) = fun q => R (7 * i + q) := by
                    funext q
                    rw [if_neg (by omega)]
                  rw [e1]; exact this
              · rw [x5 i (by omega)]; exact z5 i hi
              · show σ'' 138 i = if i < 7 * (c + 1) then r (i - 7 * c) else R i
                by_cases ci : i < 7 * (c + 1)
                · rw [if_pos ci, x5 i ci]
                  have := z6 (i - 7 * c) (by omega)
                  rw [show 7 * c + (i - 7 * c) = i by omega] at this
                  exact this
                · rw [if_neg ci]; exact x6 i (by omega) i2
              · rw [x3 i (by omega)]; exact hM.2.2.1 i hi
              · show s'' 24 (70 + i) = if i < 7 * (c + 1) then r (i - 7 * c) else R i
                by_cases ci : i < 7 * (c + 1)
                · rw [if_pos ci, x3 i ci]
                  have := hM.2.2.2 (i - 7 * c) (by omega)
                  rw [show 70 + 7 * c + (i - 7 * c) = 70 + i by omega] at this
                  exact this
                · rw [if_neg ci]; exact x4 i (by omega) i2
          · exfalso
            have := pMis_n hN hp
            omega
    · have nk : kk b L j ≠ 6 := fun q => w ((kk_word (w := 21) (by omega)).mp q)
      refine Or.inr ⟨c, j, fun _ => 0, Nat.le_refl _, hc, hj, fun i a e => absurd e (by omega), fun d σ a Q hX hA h4 h3 ha hq => ?_, fun d s Q hX hA hq1 hq2 => ?_⟩
      · have fin := hq σ hA frR_rf h4 h3 (fun _ _ => rfl) (fun i a e => absurd e (by omega))
        refine wp_X8_readMishaps_4 ⟨fun _ => ⟨Or.inr rfl, fin⟩, fun _ => ⟨fun q => absurd q (by omega), fun _ => ⟨fun _ => ⟨Or.inr rfl, fin⟩, fun q => absurd q (by rw [hA.2.1]; exact nk)⟩⟩⟩
      · refine wp_X12_readMishaps_2 (sp_isWord hA (fun w2 => absurd w2 w) (fun _ => ev_pi_mk ⟨fun _ => ?_, fun q => absurd rfl q⟩))
        rw [hA.2.2.1]
        exact ⟨fun q => sp_errs (k := 1) hA (ev_pi_mk (hq2 q _ (FM_ers frW_rf))), fun q => hq1 q s hA frW_rf (fun _ _ => rfl) (fun i a e => absurd e (by omega))⟩
end
