section
/-! MISHAPS: pure, then both sides -/
theorem pnum_mono {T V : Nat → Int} {lo hi : Int} {j : Nat} {E E' : Nat → Nat → Prop} {K K' : Int → Prop} (hE : ∀ k, k = 1 ∨ k = 2 → E k j → E' k j) (hK : ∀ v, T j = 3 → lo ≤ v ∧ v ≤ hi → K v → K' v) (h : pnum T V lo hi j E K) : pnum T V lo hi j E' K' :=
  ⟨fun q => hE 1 (Or.inl rfl) (h.1 q), fun q => ⟨fun q2 => hE 2 (Or.inr rfl) ((h.2 q).1 q2), fun q2 => hK _ q q2 ((h.2 q).2 q2)⟩⟩
theorem pplc_mono {T V : Nat → Int} {pl : Int → Prop} {j : Nat} {E E' : Nat → Nat → Prop} {K K' : Int → Prop} (hE : ∀ k, k = 1 ∨ k = 2 → E k j → E' k j) (hK : ∀ v, T j = 3 → pl v → K v → K' v) (h : pplc T V pl j E K) : pplc T V pl j E' K' :=
  ⟨fun q => hE 1 (Or.inl rfl) (h.1 q), fun q => ⟨fun q2 => hE 2 (Or.inr rfl) ((h.2 q).1 q2), fun q2 => hK _ q q2 ((h.2 q).2 q2)⟩⟩
theorem pis_mono {c c' : Prop} {j : Nat} {E E' : Nat → Nat → Prop} {K K' : Prop} (hc : c' ↔ c) (hE : E 1 j → E' 1 j) (hK : c → K → K') (h : pis c j E K) : pis c' j E' K' :=
  ⟨fun q => hE (h.1 (fun w => q (hc.mpr w))), fun q => hK (hc.mp q) (h.2 (hc.mp q))⟩
theorem pnum_ex (T V : Nat → Int) (lo hi : Int) (j : Nat) : (∃ k, (k = 1 ∨ k = 2) ∧ ∀ E K, E k j → pnum T V lo hi j E K) ∨ (T j = 3 ∧ (lo ≤ V j ∧ V j ≤ hi) ∧ ∀ E K, K (V j) → pnum T V lo hi j E K) := by
  by_cases c : T j = 3
  · by_cases c2 : lo ≤ V j ∧ V j ≤ hi
    · exact Or.inr ⟨c, c2, fun E K h => ⟨fun q => absurd c q, fun _ => ⟨fun q => absurd c2 q, fun _ => h⟩⟩⟩
    · exact Or.inl ⟨2, Or.inr rfl, fun E K h => ⟨fun q => absurd c q, fun _ => ⟨fun _ => h, fun q => absurd q c2⟩⟩⟩
  · exact Or.inl ⟨1, Or.inl rfl, fun E K h => ⟨fun _ => h, fun q => absurd q c⟩⟩
theorem pplc_ex (T V : Nat → Int) (pl : Int → Prop) (j : Nat) : (∃ k, (k = 1 ∨ k = 2) ∧ ∀ E K, E k j → pplc T V pl j E K) ∨ (T j = 3 ∧ pl (V j) ∧ ∀ E K, K (V j) → pplc T V pl j E K) := by
  by_cases c : T j = 3
  · by_cases c2 : pl (V j)
    · exact Or.inr ⟨c, c2, fun E K h => ⟨fun q => absurd c q, fun _ => ⟨fun q => absurd c2 q, fun _ => h⟩⟩⟩
    · exact Or.inl ⟨2, Or.inr rfl, fun E K h => ⟨fun q => absurd c q, fun _ => ⟨fun _ => h, fun q => absurd q c2⟩⟩⟩
  · exact Or.inl ⟨1, Or.inl rfl, fun E K h => ⟨fun _ => h, fun q => absurd q c⟩⟩
theorem pis_ex (c : Prop) (j : Nat) : (∀ (E : Nat → Nat → Prop) (K : Prop), E 1 j → pis c j E K) ∨ (c ∧ ∀ (E : Nat → Nat → Prop) (K : Prop), K → pis c j E K) := by
  by_cases h : c
  · exact Or.inr ⟨h, fun E K k => ⟨fun q => absurd h q, fun _ => k⟩⟩
  · exact Or.inl (fun E K k => ⟨fun _ => k, fun q => absurd q h⟩)
def mrow (h p f t w k c : Int) : Nat → Int := rup (rup (rup (rup (rup (rup (rup (fun _ => 0) 0 h) 1 p) 2 f) 3 t) 4 w) 5 k) 6 c
section P
variable (T V : Nat → Int)
def isK (j : Nat) : Prop := T j = 2 ∧ 28 ≤ V j ∧ V j ≤ 32
def pR3 (w k : Int) (j : Nat) (E : Nat → Nat → Prop) (K : Int → Int → Int → Nat → Prop) : Prop := (isW T V 27 j → pnum T V 1 100 (j + 1) E (fun c => K w k c (j + 2))) ∧ (¬ isW T V 27 j → K w k 100 j)
def pR2 (w : Int) (j : Nat) (E : Nat → Nat → Prop) (K : Int → Int → Int → Nat → Prop) : Prop := (isW T V 26 j → pis (isK T V (j + 1)) (j + 1) E (pR3 T V w (V (j + 1) - 28) (j + 2) E K)) ∧ (¬ isW T V 26 j → pR3 T V w (-1) j E K)
def pR1 (N : Int) (j : Nat) (E : Nat → Nat → Prop) (K : Int → Int → Int → Nat → Prop) : Prop := (isW T V 25 j → pnum T V 0 (N - 1) (j + 1) E (fun w => pR2 T V w (j + 2) E K)) ∧ (¬ isW T V 25 j → pR2 T V (-1) j E K)
def pMis (pl : Int → Prop) (N : Int) (j : Nat) (E : Nat → Nat → Prop) (K : (Nat → Int) → Nat → Prop) : Prop := pnum T V 1 99 (j + 1) E (fun h => pis (isW T V 22 (j + 2)) (j + 2) E (pplc T V pl (j + 3) E (fun p => pis (isW T V 23 (j + 4)) (j + 4) E (pnum T V 0 599 (j + 5) E (fun f => pis (isW T V 24 (j + 6)) (j + 6) E (pnum T V f 599 (j + 7) E (fun t => pR1 T V N (j + 8) E (fun w k c j' => pis (isS T V 59 j') j' E (K (mrow h p f t w k c) (j' + 1))))))))))
end P
theorem pR3_ex (T V : Nat → Int) (w k : Int) (j : Nat) : (∃ q i, ∀ E K, E q i → pR3 T V w k j E K) ∨ (∃ c j', (1 ≤ c ∧ c ≤ 100) ∧ j ≤ j' ∧ ∀ E K, K w k c j' → pR3 T V w k j E K) := by
  by_cases c : isW T V 27 j
  · rcases pnum_ex T V 1 100 (j + 1) with ⟨q, -, h⟩ | ⟨h1, h2, h3⟩
    · exact Or.inl ⟨q, j + 1, fun E K e => ⟨fun _ => h _ _ e, fun x => absurd c x⟩⟩
    · exact Or.inr ⟨V (j + 1), j + 2, h2, by omega, fun E K e => ⟨fun _ => h3 _ _ e, fun x => absurd c x⟩⟩
  · exact Or.inr ⟨100, j, by omega, by omega, fun E K e => ⟨fun x => absurd x c, fun _ => e⟩⟩
theorem pR2_ex (T V : Nat → Int) (w : Int) (j : Nat) : (∃ q i, ∀ E K, E q i → pR2 T V w j E K) ∨ (∃ k c j', (-1 ≤ k ∧ k ≤ 4) ∧ (1 ≤ c ∧ c ≤ 100) ∧ j ≤ j' ∧ ∀ E K, K w k c j' → pR2 T V w j E K) := by
  by_cases c : isW T V 26 j
  · rcases pis_ex (isK T V (j + 1)) (j + 1) with h | ⟨h4, h5⟩
    · exact Or.inl ⟨1, j + 1, fun E K e => ⟨fun _ => h _ _ e, fun x => absurd c x⟩⟩
    · rcases pR3_ex T V w (V (j + 1) - 28) (j + 2) with ⟨q, i, h⟩ | ⟨a, j', h1, h2, h3⟩
      · exact Or.inl ⟨q, i, fun E K e => ⟨fun _ => h5 _ _ (h _ _ e), fun x => absurd c x⟩⟩
      · have := h4.2
        exact Or.inr ⟨V (j + 1) - 28, a, j', by omega, h1, by omega, fun E K e => ⟨fun _ => h5 _ _ (h3 _ _ e), fun x => absurd c x⟩⟩
  · rcases pR3_ex T V w (-1) j with ⟨q, i, h⟩ | ⟨a, j', h1, h2, h3⟩
    · exact Or.inl ⟨q, i, fun E K e => ⟨fun x => absurd x c, fun _ => h _ _ e⟩⟩
    · exact Or.inr ⟨-1, a, j', by omega, h1, h2, fun E K e => ⟨fun x => absurd x c, fun _ => h3 _ _ e⟩⟩
theorem pR1_ex (T V : Nat → Int) (N : Int) (j : Nat) (hN : 0 ≤ N) : (∃ q i, ∀ E K, E q i → pR1 T V N j E K) ∨ (∃ w k c j', (-1 ≤ w ∧ w < N) ∧ (-1 ≤ k ∧ k ≤ 4) ∧ (1 ≤ c ∧ c ≤ 100) ∧ j ≤ j' ∧ ∀ E K, K w k c j' → pR1 T V N j E K) := by
  by_cases c : isW T V 25 j
  · rcases pnum_ex T V 0 (N - 1) (j + 1) with ⟨q, -, h⟩ | ⟨h1, h2, h3⟩
    · exact Or.inl ⟨q, j + 1, fun E K e => ⟨fun _ => h _ _ e, fun x => absurd c x⟩⟩
    · rcases pR2_ex T V (V (j + 1)) (j + 2) with ⟨q, i, h⟩ | ⟨k, a, j', g0, g1, g2, g3⟩
      · exact Or.inl ⟨q, i, fun E K e => ⟨fun _ => h3 _ _ (h _ _ e), fun x => absurd c x⟩⟩
      · exact Or.inr ⟨V (j + 1), k, a, j', by omega, g0, g1, by omega, fun E K e => ⟨fun _ => h3 _ _ (g3 _ _ e), fun x => absurd c x⟩⟩
  · rcases pR2_ex T V (-1) j with ⟨q, i, h⟩ | ⟨k, a, j', g0, g1, g2, g3⟩
    · exact Or.inl ⟨q, i, fun E K e => ⟨fun x => absurd x c, fun _ => h _ _ e⟩⟩
    · exact Or.inr ⟨-1, k, a, j', by omega, g0, g1, g2, fun E K e => ⟨fun x => absurd x c, fun _ => g3 _ _ e⟩⟩
def rowok (pl : Int → Prop) (N : Int) (r : Nat → Int) : Prop := (1 ≤ r 0 ∧ r 0 ≤ 99) ∧ pl (r 1) ∧ (0 ≤ r 2 ∧ r 2 ≤ r 3 ∧ r 3 ≤ 599) ∧ (-1 ≤ r 4 ∧ r 4 < N) ∧ (-1 ≤ r 5 ∧ r 5 ≤ 4) ∧ (1 ≤ r 6 ∧ r 6 ≤ 100)
theorem pMis_ex (T V : Nat → Int) (pl : Int → Prop) (N : Int) (j : Nat) (hN : 0 ≤ N) : (∃ q i, ∀ E K, E q i → pMis T V pl N j E K) ∨ (∃ r j', rowok pl N r ∧ j < j' ∧ ∀ E K, K r j' → pMis T V pl N j E K) := by
  unfold pMis
  rcases pnum_ex T V 1 99 (j + 1) with ⟨q, -, h⟩ | ⟨-, r1, h1⟩
  · exact Or.inl ⟨q, _, fun E K e => h _ _ e⟩
  rcases pis_ex (isW T V 22 (j + 2)) (j + 2) with h | ⟨-, h2⟩
  · exact Or.inl ⟨1, _, fun E K e => h1 _ _ (h _ _ e)⟩
  rcases pplc_ex T V pl (j + 3) with ⟨q, -, h⟩ | ⟨-, r3, h3⟩
  · exact Or.inl ⟨q, _, fun E K e => h1 _ _ (h2 _ _ (h _ _ e))⟩
  rcases pis_ex (isW T V 23 (j + 4)) (j + 4) with h | ⟨-, h4⟩
  · exact Or.inl ⟨1, _, fun E K e => h1 _ _ (h2 _ _ (h3 _ _ (h _ _ e)))⟩
  rcases pnum_ex T V 0 599 (j + 5) with ⟨q, -, h⟩ | ⟨-, r5, h5⟩
  · exact Or.inl ⟨q, _, fun E K e => h1 _ _ (h2 _ _ (h3 _ _ (h4 _ _ (h _ _ e))))⟩
  rcases pis_ex (isW T V 24 (j + 6)) (j + 6) with h | ⟨-, h6⟩
  · exact Or.inl ⟨1, _, fun E K e => h1 _ _ (h2 _ _ (h3 _ _ (h4 _ _ (h5 _ _ (h _ _ e)))))⟩
  rcases pnum_ex T V (V (j + 5)) 599 (j + 7) with ⟨q, -, h⟩ | ⟨-, r7, h7⟩
  · exact Or.inl ⟨q, _, fun E K e => h1 _ _ (h2 _ _ (h3 _ _ (h4 _ _ (h5 _ _ (h6 _ _ (h _ _ e))))))⟩
  rcases pR1_ex T V N (j + 8) hN with ⟨q, i, h⟩ | ⟨w, k, c, j', g1, g2, g3, g4, g5⟩
  · exact Or.inl ⟨q, i, fun E K e => h1 _ _ (h2 _ _ (h3 _ _ (h4 _ _ (h5 _ _ (h6 _ _ (h7 _ _ (h _ _ e)))))))⟩
  · rcases pis_ex (isS T V 59 j') j' with h | ⟨-, h9⟩
    · exact Or.inl ⟨1, _, fun E K e => h1 _ _ (h2 _ _ (h3 _ _ (h4 _ _ (h5 _ _ (h6 _ _ (h7 _ _ (g5 _ _ (h _ _ e))))))))⟩
    · exact Or.inr ⟨mrow (V (j + 1)) (V (j + 3)) (V (j + 5)) (V (j + 7)) w k c, j' + 1, ⟨r1, r3, ⟨r5.1, r7⟩, g1, g2, g3⟩, by omega, fun E K e => h1 _ _ (h2 _ _ (h3 _ _ (h4 _ _ (h5 _ _ (h6 _ _ (h7 _ _ (g5 _ _ (h9 _ _ e))))))))⟩
/-! the class -/
theorem sp_takesW {d n L j : Nat} {s : ev_S} {b : Nat → Int} {z w : Int} {Q : Option ev_V → ev_S → Prop} (hN : EN b L n) (hA : AX b L n s j) (hj : j ≤ 401) (hw : 0 ≤ w ∧ w ≤ 34) (hz : z = if w < 15 then w + 20 else w - 15) (h : pis (isW (kT b L) (kV b L) w j) j (fun k i => Q (some (ev_i 0)) (ftx b L s k i)) (Q (some (ev_i 1)) (adv b L s (j + 1)))) : Ev layX M_X8_takes (d + 1) 0 [(0, ev_r 137), (1, ev_i z)] [] s Q :=
  sp_takes hN hA hj (pis_mono (by rw [hz]; exact kk_word hw) (fun e => e) (fun _ e => e) h)
theorem sp_takesS {d n L j : Nat} {s : ev_S} {b : Nat → Int} {z c : Int} {Q : Option ev_V → ev_S → Prop} (hN : EN b L n) (hA : AX b L n s j) (hj : j ≤ 401) (hc : 40 ≤ c ∧ c ≤ 62) (hz : z = 100 + c) (h : pis (isS (kT b L) (kV b L) c j) j (fun k i => Q (some (ev_i 0)) (ftx b L s k i)) (Q (some (ev_i 1)) (adv b L s (j + 1)))) : Ev layX M_X8_takes (d + 1) 0 [(0, ev_r 137), (1, ev_i z)] [] s Q :=
  sp_takes hN hA hj (pis_mono (by rw [hz]; exact kk_sign hc) (fun e => e) (fun _ e => e) h)
theorem sp_passW {d n L j : Nat} {s : ev_S} {b : Nat → Int} {z w : Int} {Q : Option ev_V → ev_S → Prop} (hN : EN b L n) (hA : AX b L n s j) (hj : j ≤ 401) (hw : 0 ≤ w ∧ w ≤ 34) (hz : z = if w < 15 then w + 20 else w - 15) (h1 : isW (kT b L) (kV b L) w j → Q (some (ev_i 1)) (adv b L s (j + 1))) (h0 : ¬ isW (kT b L) (kV b L) w j → Q (some (ev_i 0)) s) : Ev layX M_X8_passes (d + 1) 0 [(0, ev_r 137), (1, ev_i z)] [] s Q :=
  sp_passes hN hA hj (fun q => h1 ((kk_word hw).mp (by rw [← hz]; exact q))) (fun q => h0 (fun w2 => q (by rw [hz]; exact (kk_word hw).mpr w2)))
theorem isW_n {b : Nat → Int} {L n j : Nat} {w : Int} (hN : EN b L n) (h : isW (kT b L) (kV b L) w j) : j < n := EN_lt hN (by rw [h.1]; omega)
theorem isS_n {b : Nat → Int} {L n j : Nat} {w : Int} (hN : EN b L n) (h : isS (kT b L) (kV b L) w j) : j < n := EN_lt hN (by rw [h.1]; omega)
theorem is3_n {b : Nat → Int} {L n j : Nat} (hN : EN b L n) (h : kT b L j = 3) : j < n := EN_lt hN (by rw [h]; omega)
def FX (b : Nat → Int) (L : Nat) (σ : ev_S) (k i : Nat) (σ' : ev_S) : Prop := σ' 137 8 = (k : Int) ∧ σ' 137 9 = ((kF b L i : Nat) : Int) ∧ frR σ σ'
def mx (b : Nat → Int) (L n : Nat) (σ0 : ev_S) (c : Nat) (R : Nat → Int) (l : Nat) (σ : ev_S) (j : Nat) : Prop := AX b L n σ j ∧ frR σ0 σ ∧ σ 137 4 = (c : Int) ∧ (∀ i, i < 7 * c → σ 138 i = σ0 138 i) ∧ ∀ i, i < l → σ 138 (7 * c + i) = R i
theorem mx_adv {b : Nat → Int} {L n c l j i : Nat} {σ0 σ : ev_S} {R : Nat → Int} (h : mx b L n σ0 c R l σ j) : mx b L n σ0 c R l (adv b L σ i) i := by
  obtain ⟨h1, h2, h3, h4, h5⟩ := h
  exact ⟨AX_adv h1 i, frR_adv h2, by rw [adv_i (by omega) (by omega)]; exact h3, fun k hk => by rw [adv_c (by omega)]; exact h4 k hk, fun k hk => by rw [adv_c (by omega)]; exact h5 k hk⟩
theorem mx_put {b : Nat → Int} {L n c l j i : Nat} {σ0 σ : ev_S} {R : Nat → Int} {z : Int} (h : mx b L n σ0 c R l σ j) (hi : i ≤ l) (h7 : i < 7) : mx b L n σ0 c (rup R i z) (if i = l then l + 1 else l) (ev_up σ 138 (7 * c + i) z) j := by
  obtain ⟨h1, h2, h3, h4, h5⟩ := h
  refine ⟨AX_keep h1 (fun k hk => ev_upj _ _ (by omega)) (by rw [ev_upj _ _ (by omega)]) (by rw [ev_upj _ _ (by omega)]) (by rw [ev_upj _ _ (by omega)]) (by rw [ev_upj _ _ (by omega)]), frR_up h2 (by omega), by rw [ev_upj _ _ (by omega)]; exact h3, fun k hk => by rw [ev_up_ne _ _ (by omega)]; exact h4 k hk, fun k hk => ?_⟩
  by_cases e : k = i
  · rw [e, ev_up_same, rup_same]
  · rw [ev_up_ne _ _ (by omega), rup_ne _ _ e]
    refine h5 k ?_
    split at hk <;> omega
theorem mx_ft {b : Nat → Int} {L n c l j k i : Nat} {σ0 σ : ev_S} {R : Nat → Int} (h : mx b L n σ0 c R l σ j) : FX b L σ0 k i (ftx b L σ k i) := ⟨ftx_89.1, ftx_89.2, frR_ftx h.2.1⟩
theorem FX_up {b : Nat → Int} {L k i c q : Nat} {σ0 σ : ev_S} {z : Int} (h : FX b L σ0 k i σ) (hc : 138 ≤ c ∧ c ≤ 143 ∧ c ≠ 141) : FX b L σ0 k i (ev_up σ c q z) := ⟨by rw [ev_upj _ _ (by omega)]; exact h.1, by rw [ev_upj _ _ (by omega)]; exact h.2.1, frR_up h.2.2 (by omega)⟩
theorem mx_row {b : Nat → Int} {L n c l j : Nat} {σ0 σ : ev_S} {R R' : Nat → Int} (h : mx b L n σ0 c R l σ j) (e : ∀ i, i < l → R' i = R i) : mx b L n σ0 c R' l σ j := ⟨h.1, h.2.1, h.2.2.1, h.2.2.2.1, fun i hi => by rw [e i hi]; exact h.2.2.2.2 i hi⟩
theorem sp_xc108 {d n L j c : Nat} {σ0 σ : ev_S} {b R : Nat → Int} {w k : Int} {Q : Option ev_V → ev_S → Prop} (hN : EN b L n) (hc : c < 10) (hM : mx b L n σ0 c R 7 σ j) (hR : R 6 = 100) (hj : j ≤ 400) (h : pR3 (kT b L) (kV b L) w k j (fun k i => ∀ σ', FX b L σ0 k i σ' → Q (some (ev_i 0)) σ') (fun _ _ e j' => ∀ σ', mx b L n σ0 c (rup R 6 e) 7 σ' j' → Q (some (ev_i 1)) σ')) : Ev layX M_X8_readConditions (d + 2) 108 [(0, ev_r 137), (1, ev_i ((7 * c : Nat) : Int))] [] σ Q := by
  refine wp_X8_readConditions_108 ?_
  rw [hM.1.2.2.1]
  refine ⟨fun q => absurd rfl q, fun _ => sp_passW (w := 27) hN hM.1 (by omega) (by omega) (by rfl) (fun q => ev_pi_mk ⟨fun q2 => absurd q2 (by omega), fun _ => ?_⟩) (fun q => ev_pi_mk ⟨fun _ => ?_, fun q2 => absurd rfl q2⟩)⟩
  · have hM1 := mx_adv (i := j + 1) hM
    have hjn := isW_n hN q
    have hn4 := hN.1
    have ea6 : ev_add ((7 * c : Nat) : Int) 6 = ((7 * c : Nat) : Int) + 6 := ev_add_eq ⟨by omega, by omega⟩
    refine sp_takeNumber hN hM1.1 (by omega) (pnum_mono (fun k1 hk1 hE => ev_pi_mk ⟨by rw [ea6]; omega, ?_⟩) (fun v hv1 hv2 hK => ev_pi_mk ⟨by rw [ea6]; omega, ?_⟩) (h.1 q))
    · rintro _ rfl
      have hF : FX b L σ0 k1 (j + 1) (ev_up (ftx b L (adv b L σ (j + 1)) k1 (j + 1)) 138 (Int.toNat (ev_add ((7 * c : Nat) : Int) 6)) (-1)) := FX_up (mx_ft hM1) (by omega)
      refine ⟨fun _ => hE _ hF, fun q2 => absurd q2 ?_⟩
      rw [hF.1]; omega
    · rw [ev_add_eq ⟨by omega, by omega⟩, show Int.toNat (((7 * c : Nat) : Int) + 6) = 7 * c + 6 by omega]
      rintro _ rfl
      have hP := mx_put (i := 6) (z := v) (mx_adv (i := j + 1 + 1) hM1) (by omega) (by omega)
      rw [if_neg (by omega)] at hP
      refine ⟨fun q2 => absurd hP.1.2.2.1 q2, fun _ => hK _ hP⟩
  · rw [hM.1.2.2.1]
    refine ⟨fun q2 => absurd rfl q2, fun _ => h.2 q _ (mx_row hM (fun i hi => ?_))⟩
    by_cases e : i = 6
    · rw [e, rup_same, hR]
    · rw [rup_ne _ _ e]
theorem sp_xc60 {d n L j c : Nat} {σ0 σ : ev_S} {b R : Nat → Int} {w : Int} {Q : Option ev_V → ev_S → Prop} (hN : EN b L n) (hc : c < 10) (hM : mx b L n σ0 c R 7 σ j) (hR : R 6 = 100) (hR5 : R 5 = -1) (hj : j ≤ 400) (h : pR2 (kT b L) (kV b L) w j (fun k i => ∀ σ', FX b L σ0 k i σ' → Q (some (ev_i 0)) σ') (fun _ k e j' => ∀ σ', mx b L n σ0 c (rup (rup R 5 k) 6 e) 7 σ' j' → Q (some (ev_i 1)) σ')) : Ev layX M_X8_readConditions (d + 2) 60 [(0, ev_r 137), (1, ev_i ((7 * c : Nat) : Int))] [] σ Q := by
  have hn4 := hN.1
  refine wp_X8_readConditions_60 ?_
  rw [hM.1.2.2.1]
  refine ⟨fun q => absurd rfl q, fun _ => sp_passW (w := 26) hN hM.1 (by omega) (by omega) (by rfl) (fun q => ev_pi_mk ⟨fun q2 => absurd q2 (by omega), fun _ => ?_⟩) (fun q => ev_pi_mk ⟨fun _ => ?_, fun q2 => absurd rfl q2⟩)⟩
  · have hM1 := mx_adv (i := j + 1) hM
    have hjn := isW_n hN q
    have h2 := h.1 q
    have hko := kT_ok (b := b) (L := L) (j := j + 1)
    have no : ¬ isK (kT b L) (kV b L) (j + 1) → ∀ d, Ev layX M_X8_faulty d 0 [(0, ev_r 137), (1, ev_i 1)] [] (adv b L σ (j + 1)) (ev_pi (fun r8 s7 => ((r8 = 0 ∨ r8 = 1) ∧ Q (some (ev_i r8)) s7))) := fun q2 d => sp_faulty (k := 1) hN hM1.1 (ev_pi_mk ⟨Or.inl rfl, h2.1 q2 _ (mx_ft hM1)⟩)
    have e7 : adv b L σ (j + 1) 137 7 = kk b L (j + 1) := hM1.1.2.1
    have kkK : (13 ≤ kk b L (j + 1) ∧ kk b L (j + 1) ≤ 17) ↔ isK (kT b L) (kV b L) (j + 1) := by
      unfold kk kdf isK
      constructor
      · intro w
        split at w
        · omega
        · split at w
          · omega
          · split at w
            · split at w <;> omega
            · split at w <;> omega
      · rintro ⟨w1, w2⟩
        rw [w1, if_neg (by omega), if_neg (by omega), if_pos rfl, if_neg (by omega)]
        omega
    refine wp_X8_seesKind_0 ?_
    rw [e7]
    refine ⟨fun w1 => ev_pi_mk ⟨fun w2 => absurd rfl w2, fun _ => no (fun w2 => by have := kkK.mpr w2; omega) _⟩, fun w1 => ⟨fun w2 => ev_pi_mk ⟨fun w3 => absurd rfl w3, fun _ => no (fun w3 => by have := kkK.mpr w3; omega) _⟩, fun w2 => ev_pi_mk ⟨fun _ => ⟨by rw [ev_add_eq ⟨by omega, by omega⟩]; omega, ?_⟩, fun w3 => absurd w3 (by omega)⟩⟩⟩
    have hK := kkK.mp ⟨w1, w2⟩
    have ekk : kk b L (j + 1) = kV b L (j + 1) - 15 := by
      unfold kk kdf
      rw [hK.1, if_neg (by omega), if_neg (by omega), if_pos rfl, if_neg (by have := hK.2; omega)]
    rw [e7, ev_add_eq ⟨by omega, by omega⟩, ev_sub_eq ⟨by omega, by omega⟩, show Int.toNat (((7 * c : Nat) : Int) + 5) = 7 * c + 5 by omega, ekk, show kV b L (j + 1) - 15 - 13 = kV b L (j + 1) - 28 by omega]
    rintro _ rfl
    have hP := mx_put (i := 5) (z := kV b L (j + 1) - 28) hM1 (by omega) (by omega)
    rw [if_neg (by omega)] at hP
    have hjn2 : j + 1 < n := EN_lt hN (by rw [hK.1]; omega)
    refine sp_advance hN hP.1 (by omega) (sp_xc108 (w := w) (k := kV b L (j + 1) - 28) hN hc (mx_adv hP) (by rw [rup_ne _ _ (by omega)]; exact hR) (by omega) (h2.2 hK))
  · have h3 := h.2 q
    refine sp_xc108 (w := w) (k := -1) hN hc hM hR hj ?_
    refine ⟨fun q2 => pnum_mono (fun _ _ e => e) (fun v _ _ e σ' hm => e σ' (mx_row hm (fun i hi => ?_))) (h3.1 q2), fun q2 σ' hm => h3.2 q2 σ' (mx_row hm (fun i hi => ?_))⟩
    · by_cases e6 : i = 6
      · rw [e6, rup_same, rup_same]
      · rw [rup_ne _ _ e6, rup_ne _ _ e6]
        by_cases e5 : i = 5
        · rw [e5, rup_same, hR5]
        · rw [rup_ne _ _ e5]
    · by_cases e6 : i = 6
      · rw [e6, rup_same, rup_same]
      · rw [rup_ne _ _ e6, rup_ne _ _ e6]
        by_cases e5 : i = 5
        · rw [e5, rup_same, hR5]
        · rw [rup_ne _ _ e5]
theorem pR3_mono {T V : Nat → Int} {w k w' k' : Int} {j : Nat} {E : Nat → Nat → Prop} {K K' : Int → Int → Int → Nat → Prop} (hK : ∀ c j', K w k c j' → K' w' k' c j') (h : pR3 T V w k j E K) : pR3 T V w' k' j E K' := ⟨fun q => pnum_mono (fun _ _ e => e) (fun v _ _ e => hK _ _ e) (h.1 q), fun q => hK _ _ (h.2 q)⟩
theorem pR2_mono {T V : Nat → Int} {w w' : Int} {j : Nat} {E : Nat → Nat → Prop} {K K' : Int → Int → Int → Nat → Prop} (hK : ∀ k c j', K w k c j' → K' w' k c j') (h : pR2 T V w j E K) : pR2 T V w' j E K' := ⟨fun q => pis_mono Iff.rfl (fun e => e) (fun _ e => pR3_mono (fun c j' e2 => hK _ c j' e2) e) (h.1 q), fun q => pR3_mono (fun c j' e2 => hK _ c j' e2) (h.2 q)⟩
theorem sp_xconds {d n L j c : Nat} {σ0 σ : ev_S} {b R : Nat → Int} {N : Int} {Q : Option ev_V → ev_S → Prop} (hN : EN b L n) (hc : c < 10) (hw : σ0 1 4 = N) (hw8 : 0 ≤ N ∧ N ≤ 8) (hM : mx b L n σ0 c R 4 σ j) (hj : j ≤ 400) (h : pR1 (kT b L) (kV b L) N j (fun k i => ∀ σ', FX b L σ0 k i σ' → Q (some (ev_i 0)) σ') (fun w k e j' => ∀ σ', mx b L n σ0 c (rup (rup (rup R 4 w) 5 k) 6 e) 7 σ' j' → Q (some (ev_i 1)) σ')) : Ev layX M_X8_readConditions (d + 2) 0 [(0, ev_r 137), (1, ev_i ((7 * c : Nat) : Int))] [] σ Q := by
  have hn4 := hN.1
  refine wp_X8_readConditions_0 ?_
  rw [ev_add_eq (x := ((7 * c : Nat) : Int)) (y := 4) ⟨by omega, by omega⟩, ev_add_eq (x := ((7 * c : Nat) : Int)) (y := 5) ⟨by omega, by omega⟩, ev_add_eq (x := ((7 * c : Nat) : Int)) (y := 6) ⟨by omega, by omega⟩, show Int.toNat (((7 * c : Nat) : Int) + 4) = 7 * c + 4 by omega, show Int.toNat (((7 * c : Nat) : Int) + 5) = 7 * c + 5 by omega, show Int.toNat (((7 * c : Nat) : Int) + 6) = 7 * c + 6 by omega]
  refine ⟨by omega, ?_⟩
  rintro _ rfl
  refine ⟨by omega, ?_⟩
  rintro _ rfl
  refine ⟨by omega, ?_⟩
  rintro _ rfl
  have p4 := mx_put (i := 4) (z := -1) hM (by omega) (by omega)
  rw [if_pos rfl] at p4
  have p5 := mx_put (i := 5) (z := -1) p4 (by omega) (by omega)
  rw [if_pos rfl] at p5
  have p6 := mx_put (i := 6) (z := 100) p5 (by omega) (by omega)
  rw [if_pos rfl] at p6
  refine sp_passW (w := 25) hN p6.1 (by omega) (by omega) (by rfl) (fun q => ev_pi_mk ⟨fun q2 => absurd q2 (by omega), fun _ => ?_⟩) (fun q => ev_pi_mk ⟨fun _ => ?_, fun q2 => absurd rfl q2⟩)
  · have hM1 := mx_adv (i := j + 1) p6
    have hjn := isW_n hN q
    have e14 : adv b L (ev_up (ev_up (ev_up σ 138 (7 * c + 4) (-1)) 138 (7 * c + 5) (-1)) 138 (7 * c + 6) 100) (j + 1) 1 4 = N := by rw [hM1.2.1.1 1 (by omega)]; exact hw
    rw [e14, ev_sub_eq ⟨by omega, by omega⟩]
    refine sp_takeNumber hN hM1.1 (by omega) (pnum_mono (fun k1 hk1 hE => ev_pi_mk ⟨by omega, ?_⟩) (fun v hv1 hv2 hK => ev_pi_mk ⟨by omega, ?_⟩) (h.1 q))
    · rintro _ rfl
      have hF := FX_up (c := 138) (q := 7 * c + 4) (z := -1) (mx_ft (k := k1) (i := j + 1) hM1) (by omega)
      refine wp_X8_readConditions_60 ⟨fun _ => wp_X8_readConditions_108 ⟨fun _ => ⟨fun _ => hE _ hF, fun q2 => absurd q2 ?_⟩, fun q2 => absurd q2 ?_⟩, fun q2 => absurd q2 ?_⟩ <;> rw [hF.1] <;> omega
    · rintro _ rfl
      have hP := mx_put (i := 4) (z := v) (mx_adv (i := j + 1 + 1) hM1) (by omega) (by omega)
      rw [if_neg (by omega)] at hP
      have hjn2 := is3_n hN hv1
      refine sp_xc60 (w := v) hN hc hP (by rw [rup_ne _ _ (by omega), rup_same]) (by rw [rup_ne _ _ (by omega), rup_ne _ _ (by omega), rup_same]) (by omega) (pR2_mono (fun k e j' e2 σ' hm => e2 σ' (mx_row hm (fun i hi => ?_))) hK)
      by_cases e6 : i = 6
      · rw [e6, rup_same, rup_same]
      · rw [rup_ne _ _ e6, rup_ne _ _ e6]
        by_cases e5 : i = 5
        · rw [e5, rup_same, rup_same]
        · rw [rup_ne _ _ e5, rup_ne _ _ e5]
          by_cases e4 : i = 4
          · rw [e4, rup_same, rup_same]
          · rw [rup_ne _ _ e4, rup_ne _ _ e4, rup_ne _ _ e6, rup_ne _ _ e5, rup_ne _ _ e4]
  · refine sp_xc60 (w := -1) hN hc p6 (by rw [rup_same]) (by rw [rup_ne _ _ (by omega), rup_same]) hj (pR2_mono (fun k e j' e2 σ' hm => e2 σ' (mx_row hm (fun i hi => ?_))) (h.2 q))
    by_cases e6 : i = 6
    · rw [e6, rup_same, rup_same]
    · rw [rup_ne _ _ e6, rup_ne _ _ e6]
      by_cases e5 : i = 5
      · rw [e5, rup_same, rup_same]
      · rw [rup_ne _ _ e5, rup_ne _ _ e5, rup_ne _ _ e6, rup_ne _ _ e5]
end
