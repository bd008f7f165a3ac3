section
/-! THE LAW: comparisons, both sides -/
theorem kkw {b : Nat → Int} {L j : Nat} {z w : Int} (hw : 0 ≤ w ∧ w ≤ 34) (hz : z = if w < 15 then w + 20 else w - 15) : kk b L j = z ↔ isW (kT b L) (kV b L) w j := by rw [hz]; exact kk_word hw
def isC (T V : Nat → Int) (j : Nat) : Prop := T j = 4 ∧ 60 ≤ V j
theorem kk_cmp {b : Nat → Int} {L j : Nat} : (160 ≤ kk b L j ↔ isC (kT b L) (kV b L) j) ∧ (isC (kT b L) (kV b L) j → kk b L j = 100 + kV b L j ∧ kV b L j ≤ 62) := by
  have hko := kT_ok (b := b) (L := L) (j := j)
  have ek : kk b L j = kdf (kT b L j) (kV b L j) := rfl
  unfold kdf at ek
  unfold isC
  split at ek
  · exact ⟨⟨fun w => by omega, fun w => by omega⟩, fun w => by omega⟩
  · split at ek
    · exact ⟨⟨fun w => by omega, fun w => by omega⟩, fun w => by omega⟩
    · split at ek
      · split at ek <;> exact ⟨⟨fun w => by omega, fun w => by omega⟩, fun w => by omega⟩
      · split at ek <;> exact ⟨⟨fun w => by omega, fun w => by omega⟩, fun w => by omega⟩
def cpXE (b : Nat → Int) (L n j k i : Nat) : Prop := ∀ (d : Nat) (σ0 σ : ev_S) (o : Int) (c : List (Int × Int)) (Q : Option ev_V → ev_S → Prop), xls b L n σ0 c σ j → c.length + 2 ≤ j → (∀ σ', FL b L σ0 k i σ' → Q (some (ev_i 0)) σ') → Ev layX M_X8_readClause (d + 3) 0 [(0, ev_r 137), (1, ev_i o)] [] σ Q
def cpXO (b : Nat → Int) (L n j j' : Nat) (cs : List (Int × Int)) : Prop := ∀ (d : Nat) (σ0 σ : ev_S) (o : Int) (c : List (Int × Int)) (Q : Option ev_V → ev_S → Prop), xls b L n σ0 c σ j → c.length + 2 ≤ j → (∀ σ', xls b L n σ0 (c ++ cs) σ' j' → Q (some (ev_i 1)) σ') → Ev layX M_X8_readClause (d + 3) 0 [(0, ev_r 137), (1, ev_i o)] [] σ Q
def cpME (b : Nat → Int) (L j k i : Nat) : Prop := ∀ (d : Nat) (s0 s : ev_S) (c : List (Int × Int)) (Q : Option ev_V → ev_S → Prop), mls b L s0 c s j → c.length + 2 ≤ j → (∀ s', FM b L s0 k i s' → Q (some (ev_i (-1))) s') → Ev layM M_X12_readCompared (d + 6) 0 [(0, ev_r 0)] [] s Q
def cpMO (b : Nat → Int) (L j j' : Nat) (cs : List (Int × Int)) : Prop := ∀ (d : Nat) (s0 s : ev_S) (c : List (Int × Int)) (Q : Option ev_V → ev_S → Prop), mls b L s0 c s j → c.length + 2 ≤ j → (∀ s', mls b L s0 (c ++ cs) s' j' → Q (some (ev_i 0)) s') → Ev layM M_X12_readCompared (d + 6) 0 [(0, ev_r 0)] [] s Q
theorem both_cp {b : Nat → Int} {L n : Nat} (hN : EN b L n) {j : Nat} (hj : j ≤ n) (w5 : ¬ isW (kT b L) (kV b L) 5 j) (w4 : ¬ isS (kT b L) (kV b L) 40 j) : (∃ k i, cpXE b L n j k i ∧ cpME b L j k i) ∨ (∃ j' cs, j < j' ∧ j' ≤ n ∧ List.length cs ≤ j' - j ∧ SG 0 true cs 4 ∧ cpXO b L n j j' cs ∧ cpMO b L j j' cs) := by
  have hn := hN.1
  have xs : ∀ (d : Nat) (σ0 σ : ev_S) (o : Int) (c : List (Int × Int)) (Q : Option ev_V → ev_S → Prop), xls b L n σ0 c σ j → Ev layX M_X8_readSum (d + 2) 0 [(0, ev_r 137)] [] σ (ev_pi (fun r2 s1 => ((r2 ≠ 0 → (Ev layX M_X8_comparison (d + 2) 0 [(0, ev_r 137)] [] s1 (ev_pi (fun r4 s3 => ((r4 ≠ (-1) → (Ev layX M_X8_advance (d + 2) 0 [(0, ev_r 137)] [] s3 (fun _ s5 => (Ev layX M_X8_readSum (d + 2) 0 [(0, ev_r 137)] [] s5 (ev_pi (fun r7 s6 => (Ev layX M_X4_emit (d + 2) 0 [(0, ev_r 139), (1, ev_i r4)] [] s6 (fun _ s8 => ((r7 = 0 ∨ r7 = 1) ∧ Q (some (ev_i r7)) s8))))))))) ∧ (r4 = (-1) → (Ev layX M_X8_faulty (d + 2) 0 [(0, ev_r 137), (1, ev_i 1)] [] s3 (ev_pi (fun r10 s9 => ((r10 = 0 ∨ r10 = 1) ∧ Q (some (ev_i r10)) s9)))))))))) ∧ (r2 = 0 → Q (some (ev_i 0)) s1)))) → Ev layX M_X8_readClause (d + 3) 0 [(0, ev_r 137), (1, ev_i o)] [] σ Q := by
    intro d σ0 σ o c Q hx h
    refine wp_X8_readClause_0 ?_
    rw [hx.1.2.1]
    exact ⟨fun q => absurd ((kkw (w := 5) (by omega) (by rfl)).mp q) w5, fun _ => ⟨fun _ => h, fun q => absurd ((kks (c := 40) (by omega) (by rfl)).mp q) w4⟩⟩
  rcases both_su hN hj with ⟨k, i, hX, hM⟩ | ⟨j1, cs1, p1, p2, p3, p4, hX, hM⟩
  · exact Or.inl ⟨k, i, fun d σ0 σ o c Q hx hl hq => xs d σ0 σ o c Q hx (hX d σ0 σ c _ hx hl (fun σ' hF => ev_pi_mk ⟨fun q => absurd rfl q, fun _ => hq σ' hF⟩)), fun d s0 s c Q hm hl hq => wp_X12_readCompared_0 (hM d s0 s c _ hm hl (fun s' hF => ev_pi_mk ⟨fun q => absurd rfl q, fun _ => hq s' hF⟩))⟩
  · by_cases wc : isC (kT b L) (kV b L) j1
    · obtain ⟨e1, e2⟩ := kk_cmp.2 wc
      have nj : j1 < n := EN_lt hN (by rw [wc.1]; omega)
      have xo : ∀ (d : Nat) (σ0 σ : ev_S) (o : Int) (c : List (Int × Int)) (Q : Option ev_V → ev_S → Prop), xls b L n σ0 c σ j → c.length + 2 ≤ j → (∀ s5, xls b L n σ0 (c ++ cs1) s5 (j1 + 1) → Ev layX M_X8_readSum (d + 2) 0 [(0, ev_r 137)] [] s5 (ev_pi (fun r7 s6 => (Ev layX M_X4_emit (d + 2) 0 [(0, ev_r 139), (1, ev_i (kV b L j1 - 46))] [] s6 (fun _ s8 => ((r7 = 0 ∨ r7 = 1) ∧ Q (some (ev_i r7)) s8)))))) → Ev layX M_X8_readClause (d + 3) 0 [(0, ev_r 137), (1, ev_i o)] [] σ Q := by
        intro d σ0 σ o c Q hx hl h
        refine xs d σ0 σ o c Q hx (hX d σ0 σ c _ hx hl (fun σ1 hx1 => ev_pi_mk ⟨fun _ => wp_X8_comparison_0 ?_, fun q => absurd q (by omega)⟩))
        have hz : ∀ z : Int, z = kV b L j1 - 46 → ev_pi (fun r4 s3 => ((r4 ≠ (-1) → (Ev layX M_X8_advance (d + 2) 0 [(0, ev_r 137)] [] s3 (fun _ s5 => (Ev layX M_X8_readSum (d + 2) 0 [(0, ev_r 137)] [] s5 (ev_pi (fun r7 s6 => (Ev layX M_X4_emit (d + 2) 0 [(0, ev_r 139), (1, ev_i r4)] [] s6 (fun _ s8 => ((r7 = 0 ∨ r7 = 1) ∧ Q (some (ev_i r7)) s8))))))))) ∧ (r4 = (-1) → (Ev layX M_X8_faulty (d + 2) 0 [(0, ev_r 137), (1, ev_i 1)] [] s3 (ev_pi (fun r10 s9 => ((r10 = 0 ∨ r10 = 1) ∧ Q (some (ev_i r10)) s9))))))) (some (ev_i z)) σ1 := by
          rintro _ rfl
          exact ev_pi_mk ⟨fun _ => sp_advance hN hx1.1 (by omega) (h _ (xls_adv hx1)), fun q => absurd q (by have := wc.2; omega)⟩
        rw [hx1.1.2.1, e1]
        have := wc.2
        exact ⟨fun q => absurd q (by omega), fun q => hz 14 (by omega), fun q => hz 15 (by omega), fun q => hz 16 (by omega)⟩
      have mo : ∀ (d : Nat) (s0 s : ev_S) (c : List (Int × Int)) (Q : Option ev_V → ev_S → Prop), mls b L s0 c s j → c.length + 2 ≤ j → (∀ s5, mls b L s0 (c ++ cs1) s5 (j1 + 1) → Ev layM M_X12_readSum (d + 5) 0 [(0, ev_r 0)] [] s5 (ev_pi (fun r3 s2 => ((r3 ≠ (-1) → (Ev layM M_X12_emits (d + 5) 0 [(0, ev_r 0), (1, ev_i (kV b L j1 - 54)), (2, ev_i 0)] [] s2 (fun _ s4 => Q (some (ev_i 0)) s4))) ∧ (r3 = (-1) → Q (some (ev_i (-1))) s2))))) → Ev layM M_X12_readCompared (d + 6) 0 [(0, ev_r 0)] [] s Q := by
        intro d s0 s c Q hm hl h
        have g73 : ∀ (z : Int) (s1 : ev_S), z = kV b L j1 - 54 → mls b L s0 (c ++ cs1) s1 j1 → Ev layM M_X12_readCompared (d + 6) 73 [(0, ev_r 0)] [ev_i z] s1 Q := by
          rintro _ s1 rfl m1
          exact wp_X12_readCompared_73 (ms_rd m1 (fun s5 m5 => h s5 m5))
        have g43 : ∀ s1 : ev_S, mls b L s0 (c ++ cs1) s1 j1 → Ev layM M_X12_readCompared (d + 6) 43 [(0, ev_r 0)] [] s1 Q := by
          intro s1 m1
          refine wp_X12_readCompared_43 ?_
          rw [m1.1.2.2.2.1 (by rw [wc.1]; omega)]
          have := wc.2
          exact ⟨fun q => ⟨fun q2 => g73 8 s1 (by omega) m1, fun q2 => g73 7 s1 (by omega) m1⟩, fun q => g73 6 s1 (by omega) m1⟩
        refine wp_X12_readCompared_0 (hM d s0 s c _ hm hl (fun s1 m1 => ev_pi_mk ⟨fun _ => ?_, fun q => absurd q (by omega)⟩))
        refine sp_isSign m1.1 (fun _ => ev_pi_mk ⟨fun _ => g43 s1 m1, fun q => absurd q (by omega)⟩) (fun c0 => ev_pi_mk ⟨fun q => absurd rfl q, fun _ => ?_⟩)
        refine sp_isSign m1.1 (fun _ => ev_pi_mk ⟨fun _ => g43 s1 m1, fun q => absurd q (by omega)⟩) (fun c1 => ev_pi_mk ⟨fun q => absurd rfl q, fun _ => ?_⟩)
        refine sp_isSign m1.1 (fun _ => ev_pi_mk ⟨fun _ => g43 s1 m1, fun q => absurd q (by omega)⟩) (fun c2 => ?_)
        unfold isS at c0 c1 c2
        have := wc.1
        have := wc.2
        omega
      have hv := wc.2
      rcases both_su hN (j := j1 + 1) (by omega) with ⟨k, i, hX2, hM2⟩ | ⟨j2, cs2, q1, q2, q3, q4, hX2, hM2⟩
      · exact Or.inl ⟨k, i, fun d σ0 σ o c Q hx hl hq => xo d σ0 σ o c Q hx hl (fun s5 h5 => hX2 d σ0 s5 _ _ h5 (by simp; omega) (fun σ' hF => ev_pi_mk (sp_emitF hF.1 hF.2 (fun σ2 g1 g2 => ⟨Or.inl rfl, hq σ2 ⟨g1, g2⟩⟩)))), fun d s0 s c Q hm hl hq => mo d s0 s c Q hm hl (fun s5 m5 => hM2 d s0 s5 _ _ m5 (by simp; omega) (fun s' hF => ev_pi_mk ⟨fun q => absurd rfl q, fun _ => hq s' hF⟩))⟩
      · refine Or.inr ⟨j2, cs1 ++ (cs2 ++ [(kV b L j1 - 54, 0)]), by omega, q2, by simp; omega, SG_cmp p4 q4 (by omega), fun d σ0 σ o c Q hx hl hq => xo d σ0 σ o c Q hx hl (fun s5 h5 => hX2 d σ0 s5 _ _ h5 (by simp; omega) (fun σ' h6 => ev_pi_mk (xs_emit (x := kV b L j1 - 54) (y := 0) h6 (by simp; omega) (Or.inr (by omega)) (by rw [if_neg (by omega)]; omega) (fun σ2 h7 => ⟨Or.inr rfl, hq σ2 ?_⟩)))), fun d s0 s c Q hm hl hq => mo d s0 s c Q hm hl (fun s5 m5 => hM2 d s0 s5 _ _ m5 (by simp; omega) (fun s' m6 => ev_pi_mk ⟨fun _ => ms_emits m6 (by simp; omega) (fun s7 m7 => hq s7 ?_), fun q => absurd q (by omega)⟩))⟩
        · simp only [List.append_assoc] at h7 ⊢; exact h7
        · simp only [List.append_assoc] at m7 ⊢; exact m7
    · refine Or.inl ⟨1, j1, fun d σ0 σ o c Q hx hl hq => xs d σ0 σ o c Q hx (hX d σ0 σ c _ hx hl (fun σ1 hx1 => ev_pi_mk ⟨fun _ => wp_X8_comparison_0 ?_, fun q => absurd q (by omega)⟩)), fun d s0 s c Q hm hl hq => wp_X12_readCompared_0 (hM d s0 s c _ hm hl (fun s1 m1 => ev_pi_mk ⟨fun _ => ?_, fun q => absurd q (by omega)⟩))⟩
      · rw [hx1.1.2.1]
        have : ¬ 160 ≤ kk b L j1 := fun q => wc (kk_cmp.1.mp q)
        exact ⟨fun _ => ev_pi_mk ⟨fun q => absurd rfl q, fun _ => sp_faulty (k := 1) hN hx1.1 (ev_pi_mk ⟨Or.inl rfl, hq _ (xls_ft hx1)⟩)⟩, fun q => absurd q (by omega), fun q => absurd q (by omega), fun q => absurd q (by omega)⟩
      · have n0 : ∀ z : Int, 60 ≤ z → ¬ isS (kT b L) (kV b L) z j1 := fun z hz q => wc ⟨q.1, by rw [q.2]; exact hz⟩
        exact sp_isSign m1.1 (fun q => absurd q (n0 60 (by omega))) (fun _ => ev_pi_mk ⟨fun q => absurd rfl q, fun _ => sp_isSign m1.1 (fun q => absurd q (n0 61 (by omega))) (fun _ => ev_pi_mk ⟨fun q => absurd rfl q, fun _ => sp_isSign m1.1 (fun q => absurd q (n0 62 (by omega))) (fun _ => ev_pi_mk ⟨fun q => absurd rfl q, fun _ => sp_errs (k := 1) m1.1 (ev_pi_mk (hq _ (FM_ers m1.2.1)))⟩)⟩)⟩)
end
