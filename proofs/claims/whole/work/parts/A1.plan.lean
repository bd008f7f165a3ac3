section
/-! THE PLAN: pure, both sides -/
def isO (T V : Nat → Int) (j : Nat) : Prop := T j = 2 ∧ 28 ≤ V j ∧ V j ≤ 34
def pOrd (T V : Nat → Int) (pl : Int → Prop) (j : Nat) (E : Nat → Nat → Prop) (K : Int → Int → Nat → Prop) : Prop := (V j = 33 → pplc T V pl (j + 1) E (fun v => pis (isS T V 59 (j + 2)) (j + 2) E (K 5 v (j + 3)))) ∧ (V j = 34 → pnum T V 1 60 (j + 1) E (fun v => pis (isS T V 59 (j + 2)) (j + 2) E (K 6 v (j + 3)))) ∧ (V j ≤ 32 → pis (isS T V 59 (j + 1)) (j + 1) E (K (V j - 28) 0 (j + 2)))
def ordok (pl : Int → Prop) (o v : Int) : Prop := (0 ≤ o ∧ o ≤ 6) ∧ (o = 5 → pl v) ∧ (o = 6 → 1 ≤ v ∧ v ≤ 60)
theorem pOrd_ex {b : Nat → Int} {L n j : Nat} {pl : Int → Prop} (hN : EN b L n) (ho : isO (kT b L) (kV b L) j) : (∃ q i, ∀ E K, E q i → pOrd (kT b L) (kV b L) pl j E K) ∨ (∃ o v j', ordok pl o v ∧ j < j' ∧ j' ≤ n ∧ ∀ E K, K o v j' → pOrd (kT b L) (kV b L) pl j E K) := by
  obtain ⟨o1, o2, o3⟩ := ho
  by_cases c5 : kV b L j = 33
  · rcases pplc_ex (kT b L) (kV b L) pl (j + 1) with ⟨q, -, h⟩ | ⟨-, r3, h3⟩
    · exact Or.inl ⟨q, _, fun E K e => ⟨fun _ => h _ _ e, fun w => absurd w (by omega), fun w => absurd w (by omega)⟩⟩
    · rcases pis_ex (isS (kT b L) (kV b L) 59 (j + 2)) (j + 2) with h | ⟨w4, h4⟩
      · exact Or.inl ⟨1, _, fun E K e => ⟨fun _ => h3 _ _ (h _ _ e), fun w => absurd w (by omega), fun w => absurd w (by omega)⟩⟩
      · have := isS_n hN w4
        exact Or.inr ⟨5, kV b L (j + 1), j + 3, ⟨by omega, fun _ => r3, fun w => absurd w (by omega)⟩, by omega, by omega, fun E K e => ⟨fun _ => h3 _ _ (h4 _ _ e), fun w => absurd w (by omega), fun w => absurd w (by omega)⟩⟩
  · by_cases c6 : kV b L j = 34
    · rcases pnum_ex (kT b L) (kV b L) 1 60 (j + 1) with ⟨q, -, h⟩ | ⟨-, r3, h3⟩
      · exact Or.inl ⟨q, _, fun E K e => ⟨fun w => absurd w c5, fun _ => h _ _ e, fun w => absurd w (by omega)⟩⟩
      · rcases pis_ex (isS (kT b L) (kV b L) 59 (j + 2)) (j + 2) with h | ⟨w4, h4⟩
        · exact Or.inl ⟨1, _, fun E K e => ⟨fun w => absurd w c5, fun _ => h3 _ _ (h _ _ e), fun w => absurd w (by omega)⟩⟩
        · have := isS_n hN w4
          exact Or.inr ⟨6, kV b L (j + 1), j + 3, ⟨by omega, fun w => absurd w (by omega), fun _ => r3⟩, by omega, by omega, fun E K e => ⟨fun w => absurd w c5, fun _ => h3 _ _ (h4 _ _ e), fun w => absurd w (by omega)⟩⟩
    · rcases pis_ex (isS (kT b L) (kV b L) 59 (j + 1)) (j + 1) with h | ⟨w4, h4⟩
      · exact Or.inl ⟨1, _, fun E K e => ⟨fun w => absurd w c5, fun w => absurd w c6, fun _ => h _ _ e⟩⟩
      · have := isS_n hN w4
        exact Or.inr ⟨kV b L j - 28, 0, j + 2, ⟨by omega, fun w => absurd w (by omega), fun w => absurd w (by omega)⟩, by omega, by omega, fun E K e => ⟨fun w => absurd w c5, fun w => absurd w c6, fun _ => h4 _ _ e⟩⟩
theorem kk_ord {b : Nat → Int} {L j : Nat} : (13 ≤ kk b L j ∧ kk b L j ≤ 19) ↔ isO (kT b L) (kV b L) j := by
  have hko := kT_ok (b := b) (L := L) (j := j)
  unfold kk kdf isO
  constructor
  · intro w
    split at w
    · omega
    · split at w
      · omega
      · split at w
        · split at w <;> omega
        · split at w <;> omega
  · rintro ⟨w1, w2⟩
    rw [w1, if_neg (by omega), if_neg (by omega), if_pos rfl, if_neg (by omega)]
    omega
theorem kk_ordv {b : Nat → Int} {L j : Nat} (h : isO (kT b L) (kV b L) j) : kk b L j = kV b L j - 15 := by
  unfold kk kdf
  rw [h.1, if_neg (by omega), if_neg (by omega), if_pos rfl, if_neg (by have := h.2; omega)]
/-! the class -/
theorem sp_xord {d n L j c : Nat} {σ T : ev_S} {b : Nat → Int} {N : Int} {Q : Option ev_V → ev_S → Prop} (hN : EN b L n) (hX : CX σ T N) (hA : AX b L n σ j) (ho : isO (kT b L) (kV b L) j) (hc4 : σ 137 4 = (c : Int)) (hc : c < 40) (h : pOrd (kT b L) (kV b L) (m_pl T) j (fun k i => ∀ σ', FX b L σ k i σ' → Q (some (ev_i 0)) σ') (fun o v j' => ∀ σ', AX b L n σ' j' → frR σ σ' → σ' 137 4 = ((c + 1 : Nat) : Int) → σ' 137 3 = ((2 * (c + 1) : Nat) : Int) → (∀ i, i < 2 * c → σ' 138 i = σ 138 i) → σ' 138 (2 * c) = o → σ' 138 (2 * c + 1) = v → Q (some (ev_i 1)) σ')) : Ev layX M_X8_readOrder (d + 4) 0 [(0, ev_r 137)] [] σ Q := by
  have hn4 := hN.1
  have hjn : j < n := EN_lt hN (by rw [ho.1]; omega)
  have ek := kk_ordv ho
  obtain ⟨o1, o2, o3⟩ := ho
  have A1 := AX_adv hA (j + 1)
  have fin : ∀ (o v : Int) (j' : Nat), j' ≤ 401 → v ≠ -1 → pis (isS (kT b L) (kV b L) 59 j') j' (fun k i => ∀ σ', FX b L σ k i σ' → Q (some (ev_i 0)) σ') (∀ σ', AX b L n σ' (j' + 1) → frR σ σ' → σ' 137 4 = ((c + 1 : Nat) : Int) → σ' 137 3 = ((2 * (c + 1) : Nat) : Int) → (∀ i, i < 2 * c → σ' 138 i = σ 138 i) → σ' 138 (2 * c) = o → σ' 138 (2 * c + 1) = v → Q (some (ev_i 1)) σ') → ∀ s1, AX b L n s1 j' → frR σ s1 → s1 137 4 = (c : Int) → (∀ i, s1 138 i = σ 138 i) → Ev layX M_X8_readOrder (d + 4) 56 [(0, ev_r 137), (1, ev_i o), (2, ev_i v)] [] s1 Q := by
    intro o v j' hj' hv hp s1 a1 a2 a3 a4
    refine wp_X8_readOrder_56 ⟨fun q => absurd q hv, fun _ => sp_takesS (c := 59) hN a1 hj' (by omega) (by rfl) (pis_mono Iff.rfl (fun e1 => ev_pi_mk ⟨fun q => absurd rfl q, fun _ => e1 _ ⟨ftx_89.1, ftx_89.2, frR_ftx a2⟩⟩) (fun w9 h9 => ev_pi_mk ⟨fun _ => ?_, fun q => absurd q (by omega)⟩) hp)⟩
    rw [adv_i (by omega) (by omega), a3, ev_mul_eq ⟨by omega, by omega⟩, show Int.toNat ((c : Int) * 2) = 2 * c by omega]
    refine ⟨by omega, ?_⟩
    rintro _ rfl
    rw [ev_upj _ _ (show (137 : Nat) ≠ 138 by omega), adv_i (by omega) (by omega), a3, ev_mul_eq ⟨by omega, by omega⟩, ev_add_eq ⟨by omega, by omega⟩, show Int.toNat ((c : Int) * 2 + 1) = 2 * c + 1 by omega]
    refine ⟨by omega, ?_⟩
    rintro _ rfl
    rw [ev_upj _ _ (show (137 : Nat) ≠ 138 by omega), ev_upj _ _ (show (137 : Nat) ≠ 138 by omega), adv_i (by omega) (by omega), a3, ev_add_eq ⟨by omega, by omega⟩]
    rintro _ rfl
    rw [ev_up_same, ev_mul_eq ⟨by omega, by omega⟩]
    rintro _ rfl
    refine h9 _ ?_ (frR_up (frR_up (frR_up (frR_up (frR_adv a2) (by omega)) (by omega)) (by omega)) (by omega)) ?_ ?_ (fun i hi => ?_) ?_ ?_
    · exact AX_keep (AX_adv a1 (j' + 1)) (fun k hk => by rw [ev_upj _ _ (by omega), ev_upj _ _ (by omega), ev_upj _ _ (by omega), ev_upj _ _ (by omega)]) (by rw [ev_up_ne _ _ (by omega), ev_up_ne _ _ (by omega), ev_upj _ _ (by omega), ev_upj _ _ (by omega)]) (by rw [ev_up_ne _ _ (by omega), ev_up_ne _ _ (by omega), ev_upj _ _ (by omega), ev_upj _ _ (by omega)]) (by rw [ev_up_ne _ _ (by omega), ev_up_ne _ _ (by omega), ev_upj _ _ (by omega), ev_upj _ _ (by omega)]) (by rw [ev_up_ne _ _ (by omega), ev_up_ne _ _ (by omega), ev_upj _ _ (by omega), ev_upj _ _ (by omega)])
    · rw [ev_up_ne _ _ (by omega), ev_up_same]; omega
    · rw [ev_up_same]; omega
    · rw [ev_upj _ _ (by omega), ev_upj _ _ (by omega), ev_up_ne _ _ (by omega), ev_up_ne _ _ (by omega), adv_c (by omega)]; exact a4 i
    · rw [ev_upj _ _ (by omega), ev_upj _ _ (by omega), ev_up_ne _ _ (by omega), ev_up_same]
    · rw [ev_upj _ _ (by omega), ev_upj _ _ (by omega), ev_up_same]
  have bad : ∀ (o : Int) (k i : Nat), (∀ σ', FX b L σ k i σ' → Q (some (ev_i 0)) σ') → Ev layX M_X8_readOrder (d + 4) 56 [(0, ev_r 137), (1, ev_i o), (2, ev_i (-1))] [] (ftx b L (adv b L σ (j + 1)) k i) Q := fun o k i e => wp_X8_readOrder_56 ⟨fun _ => e _ ⟨ftx_89.1, ftx_89.2, frR_ftx (frR_adv frR_rf)⟩, fun q => absurd rfl q⟩
  refine wp_X8_readOrder_0 ?_
  rw [hc4, hA.2.1, ek, ev_sub_eq ⟨by omega, by omega⟩, show kV b L j - 15 - 13 = kV b L j - 28 by omega]
  refine ⟨fun _ => sp_advance hN hA (by omega) ⟨fun q5 => ⟨fun q6 => ?_, fun q6 => ?_⟩, fun q5 => ?_⟩, fun q => absurd q (by omega)⟩
  · exact fin _ 0 (j + 1) (by omega) (by omega) (h.2.2 (by omega)) _ A1 (frR_adv frR_rf) (by rw [adv_i (by omega) (by omega)]; exact hc4) (fun i => by rw [adv_c (by omega)])
  · refine sp_takeNumber hN A1 (by omega) (pnum_mono (fun k hk e => ev_pi_mk (bad _ k (j + 1) e)) (fun v t r hK => ev_pi_mk ?_) (h.2.1 (by omega)))
    have n1 := is3_n hN t
    rw [show kV b L j - 28 = 6 by omega]
    exact fin 6 v (j + 2) (by omega) (by omega) hK _ (AX_adv A1 _) (frR_adv (frR_adv frR_rf)) (by rw [adv_i (by omega) (by omega), adv_i (by omega) (by omega)]; exact hc4) (fun i => by rw [adv_c (by omega), adv_c (by omega)])
  · refine sp_takePlace hN A1 (by omega) (by rw [adv_c (by omega)]; exact hX.2.1) hX.1 (pplc_mono (fun k hk e => ev_pi_mk (bad _ k (j + 1) e)) (fun v t r hK => ev_pi_mk ?_) (h.1 (by omega)))
    have n1 := is3_n hN t
    have r0 := r.1
    rw [show kV b L j - 28 = 5 by omega]
    exact fin 5 v (j + 2) (by omega) (by omega) hK _ (AX_adv A1 _) (frR_adv (frR_adv frR_rf)) (by rw [adv_i (by omega) (by omega), adv_i (by omega) (by omega)]; exact hc4) (fun i => by rw [adv_c (by omega), adv_c (by omega)])
/-! the model -/
def mo (b : Nat → Int) (L : Nat) (s0 : ev_S) (c : Nat) (o v : Int) (s : ev_S) (j : Nat) : Prop := AM b L s j ∧ frW s0 s ∧ (∀ i, i < c → s 25 (240 + i) = s0 25 (240 + i) ∧ s 26 (240 + i) = s0 26 (240 + i)) ∧ s 25 (240 + c) = o ∧ s 26 (240 + c) = v
theorem mo_rd {b : Nat → Int} {L c j j' : Nat} {s0 s s' : ev_S} {o v : Int} (h : mo b L s0 c o v s j) (hA : AM b L s' j') (hr : rdf s s') : mo b L s0 c o v s' j' := by
  obtain ⟨h1, h2, h3, h4, h5⟩ := h
  have e5 := hr.2 25 (by omega)
  have e6 := hr.2 26 (by omega)
  exact ⟨hA, frW_tr h2 (frW_rd hr), by rw [e5, e6]; exact h3, by rw [e5]; exact h4, by rw [e6]; exact h5⟩
theorem mo_put {b : Nat → Int} {L c j : Nat} {s0 s : ev_S} {o v z : Int} (h : mo b L s0 c o v s j) : mo b L s0 c o z (ev_up s 26 (240 + c) z) j := by
  obtain ⟨h1, h2, h3, h4, h5⟩ := h
  exact ⟨AM_keep h1 (fun k _ _ => by rw [ev_upj _ _ (by omega)]) (ev_upj _ _ (by omega)) (ev_upj _ _ (by omega)), frW_upc h2 (by omega), fun k hk => ⟨by rw [ev_upj _ _ (by omega)]; exact (h3 k hk).1, by rw [ev_up_ne _ _ (by omega)]; exact (h3 k hk).2⟩, by rw [ev_upj _ _ (by omega)]; exact h4, ev_up_same _ _ _ _⟩
theorem sp_mord {d L j c : Nat} {s T : ev_S} {b : Nat → Int} {N : Int} {Q : Option ev_V → ev_S → Prop} (hX : CM s T N) (hA : AM b L s j) (ho : isO (kT b L) (kV b L) j) (hc : c < 40) (h : pOrd (kT b L) (kV b L) (m_pl T) j (fun k i => ∀ s', FM b L s k i s' → Q (some (ev_i (-1))) s') (fun o v j' => ∀ s', mo b L s c o v s' j' → Q (some (ev_i 0)) s')) : Ev layM M_X12_readOrder (d + 5) 0 [(0, ev_r 0), (1, ev_i ((240 + c : Nat) : Int))] [] s Q := by
  obtain ⟨o1, o2, o3⟩ := ho
  have e23 : s 0 23 = kV b L j := hA.2.2.2.1 (by omega)
  have fin : ∀ (o v : Int) (j' : Nat), v ≠ -1 → pis (isS (kT b L) (kV b L) 59 j') j' (fun k i => ∀ s', FM b L s k i s' → Q (some (ev_i (-1))) s') (∀ s', mo b L s c o v s' (j' + 1) → Q (some (ev_i 0)) s') → ∀ s1, mo b L s c o v s1 j' → Ev layM M_X12_readOrder (d + 5) 86 [(0, ev_r 0), (1, ev_i ((240 + c : Nat) : Int))] [] s1 Q := by
    intro o v j' hv hp s1 m1
    refine wp_X12_readOrder_86 ?_
    rw [Int.toNat_natCast, m1.2.2.2.2]
    exact ⟨by omega, fun _ => sp_readMark m1.1 (pis_mono Iff.rfl (fun e => ev_pi_mk (e _ (FM_ers m1.2.1))) (fun w2 e s3 y5 y6 => ev_pi_mk (e _ (mo_rd m1 y5 y6))) hp), fun q => absurd q hv⟩
  have bad : ∀ (k i : Nat) (s1 : ev_S), FM b L s k i s1 → s1 26 (240 + c) = -1 → (∀ s', FM b L s k i s' → Q (some (ev_i (-1))) s') → Ev layM M_X12_readOrder (d + 5) 86 [(0, ev_r 0), (1, ev_i ((240 + c : Nat) : Int))] [] s1 Q := by
    intro k i s1 hF h26 e
    refine wp_X12_readOrder_86 ?_
    rw [Int.toNat_natCast, h26]
    exact ⟨by omega, fun q => absurd rfl q, fun _ => e _ hF⟩
  have go : ∀ (o : Int) (g w : Int), (kV b L j = 33 → o = 5 ∧ g ≠ 0 ∧ w = 0) → (kV b L j = 34 → o = 6 ∧ g = 0 ∧ w ≠ 0) → (kV b L j ≤ 32 → o = kV b L j - 28 ∧ g = 0 ∧ w = 0) → Ev layM M_X12_readOrder (d + 5) 43 [(0, ev_r 0), (1, ev_i ((240 + c : Nat) : Int)), (2, ev_i g), (3, ev_i w)] [ev_i o, ev_i ((240 + c : Nat) : Int), ev_r 25] s Q := by
    intro o g w h5 h6 h0
    refine wp_X12_readOrder_43 ?_
    rw [Int.toNat_natCast]
    refine ⟨by omega, ?_⟩
    rintro _ rfl
    refine ⟨by omega, ?_⟩
    rintro _ rfl
    have m0 : mo b L s c o 0 (ev_up (ev_up s 25 (240 + c) o) 26 (240 + c) 0) j := ⟨AM_keep hA (fun k _ _ => by rw [ev_upj _ _ (by omega), ev_upj _ _ (by omega)]) (by rw [ev_upj _ _ (by omega), ev_upj _ _ (by omega)]) (by rw [ev_upj _ _ (by omega), ev_upj _ _ (by omega)]), frW_upc (frW_upc frW_rf (by omega)) (by omega), fun k hk => ⟨by rw [ev_upj _ _ (by omega), ev_up_ne _ _ (by omega)], by rw [ev_up_ne _ _ (by omega), ev_upj _ _ (by omega)]⟩, by rw [ev_upj _ _ (by omega), ev_up_same], ev_up_same _ _ _ _⟩
    refine sp_rd m0.1 (fun s1 y1 y2 => ?_)
    have m1 := mo_rd m0 y1 y2
    refine ⟨fun q => wp_X12_readOrder_69 ⟨fun q2 => ?_, fun q2 => ?_⟩, fun q => ?_⟩
    · have hv : kV b L j ≤ 32 := by
        by_cases c5 : kV b L j = 33
        · exact absurd q (h5 c5).2.1
        · by_cases c6 : kV b L j = 34
          · exact absurd q2 (h6 c6).2.2
          · omega
      exact fin _ 0 (j + 1) (by omega) (by rw [(h0 hv).1]; exact h.2.2 hv) s1 m1
    · have hv : kV b L j = 34 := by
        by_cases c5 : kV b L j = 33
        · exact absurd (h5 c5).2.2 q2
        · by_cases c6 : kV b L j ≤ 32
          · exact absurd (h0 c6).2.2 q2
          · omega
      have eo := (h6 hv).1
      subst eo
      refine sp_readNumber m1.1 (pnum_mono (fun k hk e => ev_pi_mk ⟨by omega, ?_⟩) (fun v t r hK s2 y3 y4 => ev_pi_mk ⟨by omega, ?_⟩) (h.2.1 hv))
      · rintro _ rfl
        exact bad k (j + 1) _ (FM_upc (FM_ers m1.2.1) (by omega)) (ev_up_same _ _ _ _) e
      · rintro _ rfl
        exact fin 6 v (j + 2) (by omega) hK _ (mo_put (mo_rd m1 y3 y4))
    · have hv : kV b L j = 33 := by
        by_cases c5 : kV b L j = 34
        · exact absurd (h6 c5).2.1 q
        · by_cases c6 : kV b L j ≤ 32
          · exact absurd (h0 c6).2.1 q
          · omega
      obtain ⟨eo, -, ew⟩ := h5 hv
      subst eo
      refine sp_readPlace2 m1.1 hX.1 (by rw [m1.2.1.1 6 (by omega)]; exact hX.2.1) (by rw [m1.2.1.1 7 (by omega)]; exact hX.2.2.1) (pplc_mono (fun k hk e => ev_pi_mk ⟨by omega, ?_⟩) (fun v t r hK s2 y3 y4 => ev_pi_mk ⟨by omega, ?_⟩) (h.1 hv))
      · rintro _ rfl
        exact wp_X12_readOrder_69 ⟨fun _ => bad k (j + 1) _ (FM_upc (FM_ers m1.2.1) (by omega)) (ev_up_same _ _ _ _) e, fun q2 => absurd ew q2⟩
      · rintro _ rfl
        have r0 := r.1
        exact wp_X12_readOrder_69 ⟨fun _ => fin 5 v (j + 2) (by omega) hK _ (mo_put (mo_rd m1 y3 y4)), fun q2 => absurd ew q2⟩
  refine wp_X12_readOrder_0 (sp_isWord hA (fun w1 => ev_pi_mk (sp_isWord hA (fun w2 => absurd w2.2 (by rw [w1.2]; omega)) (fun w2 => ev_pi_mk ⟨fun q => absurd q (by omega), fun _ => go 5 1 0 (fun _ => ⟨rfl, by omega, rfl⟩) (fun q => absurd q (by rw [w1.2]; omega)) (fun q => absurd q (by rw [w1.2]; omega))⟩))) (fun w1 => ev_pi_mk (sp_isWord hA (fun w2 => ev_pi_mk ⟨fun _ => ⟨fun q => absurd q (by omega), fun _ => go 6 0 1 (fun q => absurd q (by rw [w2.2]; omega)) (fun _ => ⟨rfl, rfl, by omega⟩) (fun q => absurd q (by rw [w2.2]; omega))⟩, fun q => absurd rfl q⟩) (fun w2 => ev_pi_mk ⟨fun _ => ⟨fun _ => ?_, fun q => absurd rfl q⟩, fun q => absurd rfl q⟩))))
  rw [e23, ev_sub_eq ⟨by omega, by omega⟩]
  exact go _ 0 0 (fun q => absurd ⟨o1, q⟩ w1) (fun q => absurd ⟨o1, q⟩ w2) (fun _ => ⟨rfl, rfl, rfl⟩)
end
