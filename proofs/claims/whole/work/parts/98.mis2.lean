section
theorem pR3_lim {b : Nat → Int} {L n : Nat} {w k : Int} {j : Nat} {E E' : Nat → Nat → Prop} {K K' : Int → Int → Int → Nat → Prop} (hN : EN b L n) (hj : j ≤ n) (hK : ∀ w k c j', j' ≤ n → K w k c j' → K' w k c j') (hE : ∀ k i, E k i → E' k i) (h : pR3 (kT b L) (kV b L) w k j E K) : pR3 (kT b L) (kV b L) w k j E' K' :=
  ⟨fun q => pnum_mono (fun k1 _ e => hE k1 _ e) (fun v t _ e => hK _ _ _ _ (by have := is3_n hN t; omega) e) (h.1 q), fun q => hK _ _ _ _ hj (h.2 q)⟩
theorem pR2_lim {b : Nat → Int} {L n : Nat} {w : Int} {j : Nat} {E E' : Nat → Nat → Prop} {K K' : Int → Int → Int → Nat → Prop} (hN : EN b L n) (hj : j ≤ n) (hK : ∀ w k c j', j' ≤ n → K w k c j' → K' w k c j') (hE : ∀ k i, E k i → E' k i) (h : pR2 (kT b L) (kV b L) w j E K) : pR2 (kT b L) (kV b L) w j E' K' :=
  ⟨fun q => pis_mono Iff.rfl (fun e => hE _ _ e) (fun w2 e => pR3_lim hN (by have : j + 1 < n := EN_lt hN (by rw [w2.1]; omega); omega) hK hE e) (h.1 q), fun q => pR3_lim hN hj hK hE (h.2 q)⟩
theorem pR1_lim {b : Nat → Int} {L n : Nat} {N : Int} {j : Nat} {E E' : Nat → Nat → Prop} {K K' : Int → Int → Int → Nat → Prop} (hN : EN b L n) (hj : j ≤ n) (hK : ∀ w k c j', j' ≤ n → K w k c j' → K' w k c j') (hE : ∀ k i, E k i → E' k i) (h : pR1 (kT b L) (kV b L) N j E K) : pR1 (kT b L) (kV b L) N j E' K' :=
  ⟨fun q => pnum_mono (fun k1 _ e => hE k1 _ e) (fun v t _ e => pR2_lim hN (by have := is3_n hN t; omega) hK hE e) (h.1 q), fun q => pR2_lim hN hj hK hE (h.2 q)⟩
theorem sp_xmis {d n L j c : Nat} {σ T : ev_S} {b : Nat → Int} {N : Int} {Q : Option ev_V → ev_S → Prop} (hN : EN b L n) (hd : m_dim T) (hT : σ 1 0 = T 0 6 + 8 ∧ σ 1 1 = T 0 7 + 8) (hw : σ 1 4 = N) (hw8 : 0 ≤ N ∧ N ≤ 8) (hA : AX b L n σ j) (hjn : j < n) (hc4 : σ 137 4 = (c : Int)) (hc : c < 10) (h : pMis (kT b L) (kV b L) (m_pl T) N j (fun k i => ∀ σ', FX b L σ k i σ' → Q (some (ev_i 0)) σ') (fun r j' => ∀ σ', AX b L n σ' j' → frR σ σ' → σ' 137 4 = ((c + 1 : Nat) : Int) → σ' 137 3 = ((7 * (c + 1) : Nat) : Int) → (∀ i, i < 7 * c → σ' 138 i = σ 138 i) → (∀ i, i < 7 → σ' 138 (7 * c + i) = r i) → Q (some (ev_i 1)) σ')) : Ev layX M_X8_readMishap (d + 4) 0 [(0, ev_r 137)] [] σ Q := by
  have hn4 := hN.1
  have m0 : mx b L n σ c (fun _ => 0) 0 σ j := ⟨hA, frR_rf, hc4, fun _ _ => rfl, fun i hi => absurd hi (by omega)⟩
  refine wp_X8_readMishap_0 ?_
  rw [hc4]
  refine ⟨fun _ => sp_advance hN hA (by omega) ?_, fun q => absurd q (by omega)⟩
  have m1 := mx_adv (i := j + 1) m0
  have eM : ev_mul (c : Int) 7 = ((7 * c : Nat) : Int) := by rw [ev_mul_eq ⟨by omega, by omega⟩]; omega
  have ea0 : ev_add ((7 * c : Nat) : Int) 0 = ((7 * c + 0 : Nat) : Int) := by rw [ev_add_eq ⟨by omega, by omega⟩]; omega
  have ea1 : ev_add ((7 * c : Nat) : Int) 1 = ((7 * c + 1 : Nat) : Int) := by rw [ev_add_eq ⟨by omega, by omega⟩]; omega
  have ea2 : ev_add ((7 * c : Nat) : Int) 2 = ((7 * c + 2 : Nat) : Int) := by rw [ev_add_eq ⟨by omega, by omega⟩]; omega
  have ea3 : ev_add ((7 * c : Nat) : Int) 3 = ((7 * c + 3 : Nat) : Int) := by rw [ev_add_eq ⟨by omega, by omega⟩]; omega
  rw [m1.2.2.1, eM, ea0, ea1, ea2, ea3, Int.toNat_natCast, Int.toNat_natCast, Int.toNat_natCast, Int.toNat_natCast]
  unfold pMis at h
  refine sp_takeNumber hN m1.1 (by omega) (pnum_mono (fun k hk e => ev_pi_mk ⟨by omega, ?_⟩) (fun v1 t1 r1 h1 => ev_pi_mk ⟨by omega, ?_⟩) h)
  · rintro _ rfl
    have hF := FX_up (c := 138) (q := 7 * c + 0) (z := -1) (mx_ft (k := k) (i := j + 1) m1) (by omega)
    exact ⟨fun _ => e _ hF, fun q => absurd q (by rw [hF.1]; omega)⟩
  rintro _ rfl
  have m2 := mx_put (i := 0) (z := v1) (mx_adv (i := j + 1 + 1) m1) (by omega) (by omega)
  rw [if_pos rfl] at m2
  have n1 := is3_n hN t1
  refine ⟨fun q => absurd m2.1.2.2.1 q, fun _ => sp_takesW (w := 22) hN m2.1 (by omega) (by omega) (by rfl) (pis_mono Iff.rfl (fun e => ev_pi_mk ⟨fun q => absurd rfl q, fun _ => e _ (mx_ft m2)⟩) (fun w2 h2 => ev_pi_mk ⟨fun _ => ?_, fun q => absurd q (by omega)⟩) h1)⟩
  have m3 := mx_adv (i := j + 2 + 1) m2
  have n2 := isW_n hN w2
  refine sp_takePlace hN m3.1 (by omega) (by rw [m3.2.1.1 1 (by omega)]; exact hT) hd (pplc_mono (fun k hk e => ev_pi_mk ⟨by omega, ?_⟩) (fun v3 t3 r3 h3 => ev_pi_mk ⟨by omega, ?_⟩) h2)
  · rintro _ rfl
    have hF := FX_up (c := 138) (q := 7 * c + 1) (z := -1) (mx_ft (k := k) (i := j + 3) m3) (by omega)
    exact ⟨fun _ => e _ hF, fun q => absurd q (by rw [hF.1]; omega)⟩
  rintro _ rfl
  have m4 := mx_put (i := 1) (z := v3) (mx_adv (i := j + 3 + 1) m3) (by omega) (by omega)
  rw [if_pos rfl] at m4
  have n3 := is3_n hN t3
  refine ⟨fun q => absurd m4.1.2.2.1 q, fun _ => sp_takesW (w := 23) hN m4.1 (by omega) (by omega) (by rfl) (pis_mono Iff.rfl (fun e => ev_pi_mk ⟨fun q => absurd rfl q, fun _ => e _ (mx_ft m4)⟩) (fun w4 h4 => ev_pi_mk ⟨fun _ => ?_, fun q => absurd q (by omega)⟩) h3)⟩
  have m5 := mx_adv (i := j + 4 + 1) m4
  have n4 := isW_n hN w4
  refine sp_takeNumber hN m5.1 (by omega) (pnum_mono (fun k hk e => ev_pi_mk ⟨by omega, ?_⟩) (fun v5 t5 r5 h5 => ev_pi_mk ⟨by omega, ?_⟩) h4)
  · rintro _ rfl
    have hF := FX_up (c := 138) (q := 7 * c + 2) (z := -1) (mx_ft (k := k) (i := j + 5) m5) (by omega)
    exact ⟨fun _ => e _ hF, fun q => absurd q (by rw [hF.1]; omega)⟩
  rintro _ rfl
  have m6 := mx_put (i := 2) (z := v5) (mx_adv (i := j + 5 + 1) m5) (by omega) (by omega)
  rw [if_pos rfl] at m6
  have n5 := is3_n hN t5
  refine ⟨fun q => absurd m6.1.2.2.1 q, fun _ => sp_takesW (w := 24) hN m6.1 (by omega) (by omega) (by rfl) (pis_mono Iff.rfl (fun e => ev_pi_mk ⟨fun q => absurd rfl q, fun _ => e _ (mx_ft m6)⟩) (fun w6 h6 => ev_pi_mk ⟨fun _ => ⟨by omega, ?_⟩, fun q => absurd q (by omega)⟩) h5)⟩
  have m7 := mx_adv (i := j + 6 + 1) m6
  have n6 := isW_n hN w6
  rw [m7.2.2.2.2 2 (by omega), rup_same]
  refine sp_takeNumber hN m7.1 (by omega) (pnum_mono (fun k hk e => ev_pi_mk ⟨by omega, ?_⟩) (fun v7 t7 r7 h7 => ev_pi_mk ⟨by omega, ?_⟩) h6)
  · rintro _ rfl
    have hF := FX_up (c := 138) (q := 7 * c + 3) (z := -1) (mx_ft (k := k) (i := j + 7) m7) (by omega)
    exact ⟨fun _ => e _ hF, fun q => absurd q (by rw [hF.1]; omega)⟩
  rintro _ rfl
  have m8 := mx_put (i := 3) (z := v7) (mx_adv (i := j + 7 + 1) m7) (by omega) (by omega)
  rw [if_pos rfl] at m8
  have n7 := is3_n hN t7
  refine ⟨fun q => absurd m8.1.2.2.1 q, fun _ => sp_xconds (N := N) hN hc hw hw8 m8 (by omega) ?_⟩
  have mark : ∀ (w k e : Int) (j' : Nat), pis (isS (kT b L) (kV b L) 59 j') j' (fun k i => ∀ σ', FX b L σ k i σ' → Q (some (ev_i 0)) σ') (∀ σ', AX b L n σ' (j' + 1) → frR σ σ' → σ' 137 4 = ((c + 1 : Nat) : Int) → σ' 137 3 = ((7 * (c + 1) : Nat) : Int) → (∀ i, i < 7 * c → σ' 138 i = σ 138 i) → (∀ i, i < 7 → σ' 138 (7 * c + i) = mrow v1 v3 v5 v7 w k e i) → Q (some (ev_i 1)) σ') → j' ≤ 401 → ∀ s20, mx b L n σ c (rup (rup (rup (rup (rup (rup (rup (fun _ => 0) 0 v1) 1 v3) 2 v5) 3 v7) 4 w) 5 k) 6 e) 7 s20 j' → Ev layX M_X8_takes (d + 3) 0 [(0, ev_r 137), (1, ev_i 159)] [] s20 (ev_pi (fun r23 s22 => ((r23 ≠ 0 → (∀ s24, ev_up s22 137 4 (ev_add (s22 137 4) 1) = s24 → (∀ s25, ev_up s24 137 3 (ev_mul (s24 137 4) 7) = s25 → Q (some (ev_i 1)) s25))) ∧ (r23 = 0 → Q (some (ev_i 0)) s22)))) := by
    intro w k e j' hp hj' s20 m9
    refine sp_takesS (c := 59) hN m9.1 hj' (by omega) (by rfl) (pis_mono Iff.rfl (fun e1 => ev_pi_mk ⟨fun q => absurd rfl q, fun _ => e1 _ (mx_ft m9)⟩) (fun w9 h9 => ev_pi_mk ⟨fun _ => ?_, fun q => absurd q (by omega)⟩) hp)
    have m10 := mx_adv (i := j' + 1) m9
    rw [m10.2.2.1, ev_add_eq (x := (c : Int)) (y := 1) ⟨by omega, by omega⟩]
    rintro _ rfl
    rw [ev_up_same, ev_mul_eq ⟨by omega, by omega⟩]
    rintro _ rfl
    refine h9 _ ?_ (frR_up (frR_up m10.2.1 (by omega)) (by omega)) ?_ ?_ (fun i hi => ?_) (fun i hi => ?_)
    · exact AX_keep m10.1 (fun k hk => by rw [ev_upj _ _ (by omega), ev_upj _ _ (by omega)]) (by rw [ev_up_ne _ _ (by omega), ev_up_ne _ _ (by omega)]) (by rw [ev_up_ne _ _ (by omega), ev_up_ne _ _ (by omega)]) (by rw [ev_up_ne _ _ (by omega), ev_up_ne _ _ (by omega)]) (by rw [ev_up_ne _ _ (by omega), ev_up_ne _ _ (by omega)])
    · rw [ev_up_ne _ _ (by omega), ev_up_same]; omega
    · rw [ev_up_same]; omega
    · rw [ev_upj _ _ (by omega), ev_upj _ _ (by omega)]; exact m10.2.2.2.1 i hi
    · rw [ev_upj _ _ (by omega), ev_upj _ _ (by omega)]; exact m10.2.2.2.2 i hi
  refine pR1_lim hN (by omega) (fun w k e j' hl hk σ' hm => ev_pi_mk ⟨fun q => absurd q (by omega), fun _ => mark w k e j' hk (by omega) σ' hm⟩) (fun k i e σ' hF => ev_pi_mk ⟨fun _ => e σ' hF, fun q => absurd rfl q⟩) h7
end
