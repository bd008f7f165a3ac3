section
/-! what a reader asks of a token: pure; then both sides -/
def frW (s s' : ev_S) : Prop := (∀ i, (i < 20 ∨ (23 < i ∧ i < 31) ∨ i = 33 ∨ (36 < i ∧ i ≠ 41)) → s' 0 i = s 0 i) ∧ (∀ c, c ≠ 0 → (c < 12 ∨ c = 21 ∨ 26 < c) → s' c = s c) ∧ (∀ i, i < 16 → s' 12 i = s 12 i ∧ s' 13 i = s 13 i ∧ s' 14 i = s 14 i) ∧ (∀ i, i < 400 → s' 15 i = s 15 i ∧ s' 16 i = s 16 i) ∧ (∀ i, i < 4800 → s' 20 i = s 20 i) ∧ (∀ i, i < 70 → s' 24 i = s 24 i) ∧ (∀ i, i < 240 → s' 25 i = s 25 i ∧ s' 26 i = s 26 i)
theorem frW_rf {s : ev_S} : frW s s := ⟨fun _ _ => rfl, fun _ _ _ => rfl, fun _ _ => ⟨rfl, rfl, rfl⟩, fun _ _ => ⟨rfl, rfl⟩, fun _ _ => rfl, fun _ _ => rfl, fun _ _ => ⟨rfl, rfl⟩⟩
theorem frW_tr {s s' s'' : ev_S} (h : frW s s') (g : frW s' s'') : frW s s'' := by
  obtain ⟨h1, h2, h3, h4, h5, h6, h7⟩ := h
  obtain ⟨g1, g2, g3, g4, g5, g6, g7⟩ := g
  exact ⟨fun i hi => by rw [g1 i hi]; exact h1 i hi, fun c a b => by rw [g2 c a b]; exact h2 c a b, fun i hi => ⟨by rw [(g3 i hi).1]; exact (h3 i hi).1, by rw [(g3 i hi).2.1]; exact (h3 i hi).2.1, by rw [(g3 i hi).2.2]; exact (h3 i hi).2.2⟩, fun i hi => ⟨by rw [(g4 i hi).1]; exact (h4 i hi).1, by rw [(g4 i hi).2]; exact (h4 i hi).2⟩, fun i hi => by rw [g5 i hi]; exact h5 i hi, fun i hi => by rw [g6 i hi]; exact h6 i hi, fun i hi => ⟨by rw [(g7 i hi).1]; exact (h7 i hi).1, by rw [(g7 i hi).2]; exact (h7 i hi).2⟩⟩
theorem frW_rd {s s' : ev_S} (h : rdf s s') : frW s s' := ⟨fun i hi => h.1 i (by omega) (by omega) (by omega) (by omega), fun c c0 _ => h.2 c c0, fun i _ => ⟨by rw [h.2 12 (by omega)], by rw [h.2 13 (by omega)], by rw [h.2 14 (by omega)]⟩, fun i _ => ⟨by rw [h.2 15 (by omega)], by rw [h.2 16 (by omega)]⟩, fun i _ => by rw [h.2 20 (by omega)], fun i _ => by rw [h.2 24 (by omega)], fun i _ => ⟨by rw [h.2 25 (by omega)], by rw [h.2 26 (by omega)]⟩⟩
theorem frW_tr1 {s s' : ev_S} (h : frW s s') : tr s s' := by
  obtain ⟨h1, h2, h3, h4, h5, h6, h7⟩ := h
  exact ⟨⟨h1 6 (by omega), h1 7 (by omega), h1 8 (by omega), h1 10 (by omega), h1 11 (by omega), h1 12 (by omega), h1 46 (by omega)⟩, fun k _ => by rw [h2 4 (by omega) (by omega)], fun a _ => ⟨by rw [h2 5 (by omega) (by omega)], by rw [h2 6 (by omega) (by omega)], by rw [h2 7 (by omega) (by omega)], by rw [h2 8 (by omega) (by omega)], by rw [h2 27 (by omega) (by omega)]⟩, h5, fun w _ => by rw [h2 21 (by omega) (by omega)], h6, h7⟩
theorem frW_trl {s s' : ev_S} (h : frW s s') : trl s s' := ⟨h.1 25 (by omega), h.2.2.1, h.2.2.2.1⟩
/-- one place in cell 0, or one behind what was told -/
theorem frW_up0 {s s' : ev_S} {i : Nat} {z : Int} (h : frW s s') (hi : i = 20 ∨ i = 21 ∨ i = 22 ∨ i = 23 ∨ i = 31 ∨ i = 32 ∨ i = 34 ∨ i = 35 ∨ i = 36 ∨ i = 41) : frW s (ev_up s' 0 i z) := by
  refine frW_tr h ⟨fun k hk => ev_up_ne _ _ (by omega), fun c c0 _ => ev_upj _ _ c0, fun i _ => ⟨by rw [ev_upj _ _ (by omega)], by rw [ev_upj _ _ (by omega)], by rw [ev_upj _ _ (by omega)]⟩, fun i _ => ⟨by rw [ev_upj _ _ (by omega)], by rw [ev_upj _ _ (by omega)]⟩, fun i _ => by rw [ev_upj _ _ (by omega)], fun i _ => by rw [ev_upj _ _ (by omega)], fun i _ => ⟨by rw [ev_upj _ _ (by omega)], by rw [ev_upj _ _ (by omega)]⟩⟩
theorem frW_upc {s s' : ev_S} {c i : Nat} {z : Int} (h : frW s s') (hc : (12 ≤ c ∧ c ≤ 14 ∧ 16 ≤ i) ∨ ((c = 15 ∨ c = 16) ∧ 400 ≤ i) ∨ c = 17 ∨ c = 18 ∨ c = 19 ∨ (c = 20 ∧ 4800 ≤ i) ∨ c = 22 ∨ c = 23 ∨ (c = 24 ∧ 70 ≤ i) ∨ ((c = 25 ∨ c = 26) ∧ 240 ≤ i)) : frW s (ev_up s' c i z) := by
  refine frW_tr h ⟨fun k hk => ev_up_ne _ _ (by omega), fun k c0 hk => ev_upj _ _ (by omega), fun k hk => ⟨ev_up_ne _ _ (by omega), ev_up_ne _ _ (by omega), ev_up_ne _ _ (by omega)⟩, fun k hk => ⟨ev_up_ne _ _ (by omega), ev_up_ne _ _ (by omega)⟩, fun k hk => ev_up_ne _ _ (by omega), fun k hk => ev_up_ne _ _ (by omega), fun k hk => ⟨ev_up_ne _ _ (by omega), ev_up_ne _ _ (by omega)⟩⟩
def frR (σ σ' : ev_S) : Prop := (∀ c, (c < 137 ∨ 143 < c) → σ' c = σ c) ∧ σ' 141 0 = σ 141 0
theorem frR_rf {σ : ev_S} : frR σ σ := ⟨fun _ _ => rfl, rfl⟩
theorem frR_tr {σ σ' σ'' : ev_S} (h : frR σ σ') (g : frR σ' σ'') : frR σ σ'' := ⟨fun c hc => by rw [g.1 c hc]; exact h.1 c hc, by rw [g.2]; exact h.2⟩
theorem frR_up {σ σ' : ev_S} {c i : Nat} {z : Int} (h : frR σ σ') (hc : 137 ≤ c ∧ c ≤ 143 ∧ ¬ (c = 141 ∧ i = 0)) : frR σ (ev_up σ' c i z) := ⟨fun k hk => by rw [ev_upj _ _ (by omega)]; exact h.1 k hk, by rw [ev_up_ne _ _ (by omega)]; exact h.2⟩
/-! pure -/
section P
variable (T V : Nat → Int)
def isW (w : Int) (j : Nat) : Prop := T j = 2 ∧ V j = w
def isS (c : Int) (j : Nat) : Prop := T j = 4 ∧ V j = c
def pnum (lo hi : Int) (j : Nat) (E : Nat → Nat → Prop) (K : Int → Prop) : Prop := (T j ≠ 3 → E 1 j) ∧ (T j = 3 → (¬ (lo ≤ V j ∧ V j ≤ hi) → E 2 j) ∧ (lo ≤ V j ∧ V j ≤ hi → K (V j)))
def pplc (pl : Int → Prop) (j : Nat) (E : Nat → Nat → Prop) (K : Int → Prop) : Prop := (T j ≠ 3 → E 1 j) ∧ (T j = 3 → (¬ pl (V j) → E 2 j) ∧ (pl (V j) → K (V j)))
def pis (c : Prop) (j : Nat) (E : Nat → Nat → Prop) (K : Prop) : Prop := (¬ c → E 1 j) ∧ (c → K)
end P
/-! the class -/
def EN (b : Nat → Int) (L n : Nat) : Prop := n ≤ 400 ∧ L ≤ 400 ∧ kF b L n = L ∧ ∀ j, j < n → kF b L j < L
theorem EN_ge {b : Nat → Int} {L n j : Nat} (h : EN b L n) (hj : n ≤ j) : kF b L j = L ∧ kT b L j = 0 := by
  have := kF_end h.2.2.1 (j - n)
  rw [show n + (j - n) = j by omega] at this
  exact ⟨this, kT_0 this⟩
theorem EN_lt {b : Nat → Int} {L n j : Nat} (h : EN b L n) (hj : kT b L j ≠ 0) : j < n := by
  by_cases c : j < n
  · exact c
  · exact absurd (EN_ge h (by omega)).2 hj
noncomputable def kk (b : Nat → Int) (L j : Nat) : Int := kdf (kT b L j) (kV b L j)
def AX (b : Nat → Int) (L n : Nat) (σ : ev_S) (j : Nat) : Prop := σ 137 6 = (j : Int) ∧ σ 137 7 = kk b L j ∧ σ 137 8 = 0 ∧ σ 132 1 = (L : Int) ∧ TkX σ b L n ∧ σ 137 9 = -1
noncomputable def adv (b : Nat → Int) (L : Nat) (σ : ev_S) (j : Nat) : ev_S := ev_up (ev_up σ 137 6 (j : Int)) 137 7 (kk b L j)
noncomputable def ftx (b : Nat → Int) (L : Nat) (σ : ev_S) (k i : Nat) : ev_S := ev_up (ev_up σ 137 8 (k : Int)) 137 9 ((kF b L i : Nat) : Int)
theorem AX_keep {b : Nat → Int} {L n j : Nat} {σ σ' : ev_S} (h : AX b L n σ j) (hf : ∀ c, c < 137 → σ' c = σ c) (e6 : σ' 137 6 = σ 137 6) (e7 : σ' 137 7 = σ 137 7) (e8 : σ' 137 8 = σ 137 8) (e9 : σ' 137 9 = σ 137 9) : AX b L n σ' j := by
  obtain ⟨a, c, e, f, g, k9⟩ := h
  refine ⟨by rw [e6]; exact a, by rw [e7]; exact c, by rw [e8]; exact e, by rw [hf 132 (by omega)]; exact f, ?_, by rw [e9]; exact k9⟩
  unfold TkX
  rw [hf 132 (by omega), hf 134 (by omega), hf 135 (by omega), hf 136 (by omega)]; exact g
theorem AX_adv {b : Nat → Int} {L n j : Nat} {σ : ev_S} (h : AX b L n σ j) (i : Nat) : AX b L n (adv b L σ i) i := by
  obtain ⟨a, c, e, f, g, k9⟩ := h
  unfold adv
  refine ⟨by rw [ev_up_ne _ _ (by omega), ev_up_same], by rw [ev_up_same], by rw [ev_up_ne _ _ (by omega), ev_up_ne _ _ (by omega)]; exact e, by rw [ev_upj _ _ (by omega), ev_upj _ _ (by omega)]; exact f, ?_, by rw [ev_up_ne _ _ (by omega), ev_up_ne _ _ (by omega)]; exact k9⟩
  unfold TkX
  rw [ev_upj _ _ (by omega), ev_upj _ _ (by omega), ev_upj _ _ (by omega), ev_upj _ _ (by omega), ev_upj _ _ (by omega), ev_upj _ _ (by omega), ev_upj _ _ (by omega), ev_upj _ _ (by omega)]; exact g
theorem adv_c {b : Nat → Int} {L i c : Nat} {σ : ev_S} (h : c ≠ 137) : adv b L σ i c = σ c := by unfold adv; rw [ev_upj _ _ h, ev_upj _ _ h]
theorem adv_i {b : Nat → Int} {L i k : Nat} {σ : ev_S} (h6 : k ≠ 6) (h7 : k ≠ 7) : adv b L σ i 137 k = σ 137 k := by unfold adv; rw [ev_up_ne _ _ (by omega), ev_up_ne _ _ (by omega)]
theorem ftx_c {b : Nat → Int} {L i k c : Nat} {σ : ev_S} (h : c ≠ 137) : ftx b L σ k i c = σ c := by unfold ftx; rw [ev_upj _ _ h, ev_upj _ _ h]
theorem ftx_i {b : Nat → Int} {L i k q : Nat} {σ : ev_S} (h8 : q ≠ 8) (h9 : q ≠ 9) : ftx b L σ k i 137 q = σ 137 q := by unfold ftx; rw [ev_up_ne _ _ (by omega), ev_up_ne _ _ (by omega)]
theorem frR_adv {b : Nat → Int} {L i : Nat} {σ σ' : ev_S} (h : frR σ σ') : frR σ (adv b L σ' i) := by unfold adv; exact frR_up (frR_up h (by omega)) (by omega)
theorem frR_ftx {b : Nat → Int} {L i k : Nat} {σ σ' : ev_S} (h : frR σ σ') : frR σ (ftx b L σ' k i) := by unfold ftx; exact frR_up (frR_up h (by omega)) (by omega)
theorem ftx_89 {b : Nat → Int} {L i k : Nat} {σ : ev_S} : ftx b L σ k i 137 8 = (k : Int) ∧ ftx b L σ k i 137 9 = ((kF b L i : Nat) : Int) := by unfold ftx; exact ⟨by rw [ev_up_ne _ _ (by omega), ev_up_same], ev_up_same _ _ _ _⟩
theorem sp_advance0 {d n L j : Nat} {s : ev_S} {b : Nat → Int} {Q : Option ev_V → ev_S → Prop} (hN : EN b L n) (h6 : s 137 6 = (j : Int) - 1) (hk : TkX s b L n) (hj : j ≤ 402) (h : Q none (adv b L s j)) : Ev layX M_X8_advance d 0 [(0, ev_r 137)] [] s Q := by
  refine wp_X8_advance_0 ?_
  rw [h6, ev_add_eq ⟨by omega, by omega⟩, show (j : Int) - 1 + 1 = (j : Int) by omega]
  rintro _ rfl
  rw [ev_up_same, ev_upj _ _ (show (132 : Nat) ≠ 137 by omega), ev_upj _ _ (show (134 : Nat) ≠ 137 by omega), hk.1, Int.toNat_natCast]
  have hN4 := hN.1
  refine ⟨fun q => absurd q (by omega), fun _ => ⟨fun q => ?_, fun q => ⟨by omega, ?_⟩⟩⟩
  · rintro _ rfl
    have e : kk b L j = 51 := by unfold kk; rw [(EN_ge hN (by omega)).2]; rfl
    unfold adv at h
    rw [e] at h; exact h
  · rw [(hk.2 j (by omega)).1]
    rintro _ rfl
    exact h
theorem sp_advance {d n L j : Nat} {s : ev_S} {b : Nat → Int} {Q : Option ev_V → ev_S → Prop} (hN : EN b L n) (hA : AX b L n s j) (hj : j ≤ 401) (h : Q none (adv b L s (j + 1))) : Ev layX M_X8_advance d 0 [(0, ev_r 137)] [] s Q :=
  sp_advance0 (j := j + 1) hN (by rw [hA.1]; omega) hA.2.2.2.2.1 (by omega) h
theorem sp_faulty {d n L j k : Nat} {s : ev_S} {b : Nat → Int} {Q : Option ev_V → ev_S → Prop} (hN : EN b L n) (hA : AX b L n s j) (h : Q (some (ev_i 0)) (ftx b L s k j)) : Ev layX M_X8_faulty d 0 [(0, ev_r 137), (1, ev_i (k : Int))] [] s Q := by
  obtain ⟨a, c, e, f, g, -⟩ := hA
  refine wp_X8_faulty_0 ?_
  rintro _ rfl
  rw [ev_up_ne _ _ (show ¬ ((137 : Nat) = 137 ∧ (6 : Nat) = 8) by omega), ev_upj _ _ (show (132 : Nat) ≠ 137 by omega), ev_upj _ _ (show (136 : Nat) ≠ 137 by omega), a, f, g.1, Int.toNat_natCast]
  have hN4 := hN.1
  refine ⟨fun q => absurd q (by omega), fun _ => ⟨fun q => ?_, fun q => ⟨by omega, ?_⟩⟩⟩
  · rintro _ rfl
    have e2 := (EN_ge hN (j := j) (by omega)).1
    unfold ftx at h
    rw [e2] at h; exact h
  · rw [(g.2 j (by omega)).2.2]
    rintro _ rfl
    exact h
theorem sp_takes {d n L j : Nat} {s : ev_S} {b : Nat → Int} {z : Int} {Q : Option ev_V → ev_S → Prop} (hN : EN b L n) (hA : AX b L n s j) (hj : j ≤ 401) (h : pis (kk b L j = z) j (fun k i => Q (some (ev_i 0)) (ftx b L s k i)) (Q (some (ev_i 1)) (adv b L s (j + 1)))) : Ev layX M_X8_takes (d + 1) 0 [(0, ev_r 137), (1, ev_i z)] [] s Q := by
  refine wp_X8_takes_0 ?_
  rw [hA.2.1]
  exact ⟨fun q => sp_advance hN hA hj (h.2 q), fun q => sp_faulty (k := 1) hN hA (ev_pi_mk ⟨Or.inl rfl, h.1 q⟩)⟩
theorem sp_passes {d n L j : Nat} {s : ev_S} {b : Nat → Int} {z : Int} {Q : Option ev_V → ev_S → Prop} (hN : EN b L n) (hA : AX b L n s j) (hj : j ≤ 401) (h1 : kk b L j = z → Q (some (ev_i 1)) (adv b L s (j + 1))) (h0 : kk b L j ≠ z → Q (some (ev_i 0)) s) : Ev layX M_X8_passes (d + 1) 0 [(0, ev_r 137), (1, ev_i z)] [] s Q := by
  refine wp_X8_passes_0 ?_
  rw [hA.2.1]
  exact ⟨fun q => sp_advance hN hA hj (h1 q), h0⟩
theorem kk_num {b : Nat → Int} {L j : Nat} : kk b L j = 50 ↔ kT b L j = 3 := by
  have h := kT_ok (b := b) (L := L) (j := j)
  unfold kk kdf
  constructor
  · intro q
    split at q
    · omega
    · split at q
      · omega
      · split at q
        · split at q <;> omega
        · split at q
          · assumption
          · omega
  · intro q
    rw [q]; rfl
theorem kk_end {b : Nat → Int} {L j : Nat} : kk b L j = 51 ↔ kT b L j = 0 := by
  have h := kT_ok (b := b) (L := L) (j := j)
  unfold kk kdf
  constructor
  · intro q
    split at q
    · assumption
    · split at q
      · omega
      · split at q
        · split at q <;> omega
        · split at q <;> omega
  · intro q
    rw [q]; rfl
theorem kk_word {b : Nat → Int} {L j : Nat} {w : Int} (hw : 0 ≤ w ∧ w ≤ 34) : kk b L j = (if w < 15 then w + 20 else w - 15) ↔ isW (kT b L) (kV b L) w j := by
  have h := kT_ok (b := b) (L := L) (j := j)
  unfold kk kdf isW
  constructor
  · intro q
    split at q
    · split at q <;> omega
    · split at q
      · split at q <;> omega
      · split at q
        · refine ⟨by assumption, ?_⟩
          split at q <;> split at q <;> omega
        · split at q
          · split at q <;> omega
          · split at q <;> omega
  · rintro ⟨q1, q2⟩
    rw [q1, q2, if_neg (by omega), if_neg (by omega), if_pos rfl]
theorem kk_sign {b : Nat → Int} {L j : Nat} {c : Int} (hc : 40 ≤ c ∧ c ≤ 62) : kk b L j = 100 + c ↔ isS (kT b L) (kV b L) c j := by
  have h := kT_ok (b := b) (L := L) (j := j)
  unfold kk kdf isS
  constructor
  · intro q
    split at q
    · omega
    · split at q
      · omega
      · split at q
        · split at q <;> omega
        · split at q
          · omega
          · exact ⟨by omega, by omega⟩
  · rintro ⟨q1, q2⟩
    rw [q1, q2, if_neg (by omega), if_neg (by omega), if_neg (by omega), if_neg (by omega)]
theorem sp_number {d n L j : Nat} {s : ev_S} {b : Nat → Int} {Q : Option ev_V → ev_S → Prop} (hN : EN b L n) (hA : AX b L n s j) (h : ∀ r, (kT b L j = 3 → r = kV b L j) → Q (some (ev_i r)) s) : Ev layX M_X8_number d 0 [(0, ev_r 137)] [] s Q := by
  obtain ⟨a, c, e, f, g, -⟩ := hA
  have hN4 := hN.1
  refine wp_X8_number_0 ?_
  rw [a, g.1, Int.toNat_natCast]
  refine ⟨fun q => absurd q (by omega), fun _ => ⟨fun q => h _ (fun w => ?_), fun q => ⟨by omega, h _ (g.2 j (by omega)).2.1⟩⟩⟩
  rw [(EN_ge hN (by omega)).2] at w
  omega
theorem sp_takeNumber {d n L j : Nat} {s : ev_S} {b : Nat → Int} {lo hi : Int} {Q : Option ev_V → ev_S → Prop} (hN : EN b L n) (hA : AX b L n s j) (hj : j ≤ 401) (h : pnum (kT b L) (kV b L) lo hi j (fun k i => Q (some (ev_i (-1))) (ftx b L s k i)) (fun v => Q (some (ev_i v)) (adv b L s (j + 1)))) : Ev layX M_X8_takeNumber (d + 1) 0 [(0, ev_r 137), (1, ev_i lo), (2, ev_i hi)] [] s Q := by
  refine wp_X8_takeNumber_0 (sp_number hN hA (fun r hr => ev_pi_mk ?_))
  rw [hA.2.1]
  refine ⟨fun q0 => ?_, fun q => sp_faulty (k := 1) hN hA (ev_pi_mk (h.1 (fun w => q (kk_num.mpr w))))⟩
  have q := kk_num.mp q0
  rw [hr q]
  have h2 := h.2 q
  exact ⟨fun q2 => sp_faulty (k := 2) hN hA (ev_pi_mk (h2.1 (by omega))), fun q2 => ⟨fun q3 => sp_advance hN hA hj (h2.2 ⟨q2, q3⟩), fun q3 => sp_faulty (k := 2) hN hA (ev_pi_mk (h2.1 (by omega)))⟩⟩
theorem sp_takePlace {d n L j : Nat} {s T : ev_S} {b : Nat → Int} {Q : Option ev_V → ev_S → Prop} (hN : EN b L n) (hA : AX b L n s j) (hj : j ≤ 401) (hT : s 1 0 = T 0 6 + 8 ∧ s 1 1 = T 0 7 + 8) (hd : m_dim T) (h : pplc (kT b L) (kV b L) (m_pl T) j (fun k i => Q (some (ev_i (-1))) (ftx b L s k i)) (fun v => Q (some (ev_i v)) (adv b L s (j + 1)))) : Ev layX M_X8_takePlace (d + 2) 0 [(0, ev_r 137)] [] s Q := by
  refine wp_X8_takePlace_0 ?_
  rw [hA.2.1]
  refine ⟨fun q => sp_takeNumber hN hA hj ⟨fun q2 => ev_pi_mk (h.1 q2), fun q2 => absurd (kk_num.mpr q2) q⟩, fun q => sp_number hN hA (fun r hr => ev_pi_mk (sp_hasPlace is_X10_1 hT hd (ev_pi_mk ?_)))⟩
  have h3 := kk_num.mp q
  have h2 := h.2 h3
  rw [hr h3]
  by_cases c : m_pl T (kV b L j)
  · have c64 := m_pl_64 hd.2.2 c
    have c9 := c
    unfold m_pl at c9
    rw [if_pos c9]
    refine ⟨fun _ => sp_takeNumber hN hA hj ⟨fun q2 => absurd h3 q2, fun _ => ⟨fun q2 => absurd q2 (fun w => w (by omega)), fun _ => ev_pi_mk (h2.2 c)⟩⟩, fun q2 => absurd q2 (by omega)⟩
  · have c9 := c
    unfold m_pl at c9
    rw [if_neg c9]
    exact ⟨fun q2 => absurd rfl q2, fun _ => sp_faulty (k := 2) hN hA (ev_pi_mk (h2.1 c))⟩
/-! the model -/
def AM (b : Nat → Int) (L : Nat) (s : ev_S) (j : Nat) : Prop := s 0 20 = ((tp b L (j + 1) : Nat) : Int) ∧ s 0 21 = ((kF b L j : Nat) : Int) ∧ s 0 22 = kT b L j ∧ (2 ≤ kT b L j → s 0 23 = kV b L j) ∧ TPm s b L
def ers (b : Nat → Int) (L : Nat) (s : ev_S) (k i : Nat) : ev_S := ev_up (ev_up s 0 35 (k : Int)) 0 36 ((kF b L i : Nat) : Int)
theorem AM_keep {b : Nat → Int} {L j : Nat} {s s' : ev_S} (h : AM b L s j) (h0 : ∀ i, 19 ≤ i → i ≤ 23 → s' 0 i = s 0 i) (h10 : s' 10 = s 10) (h11 : s' 11 = s 11) : AM b L s' j := by
  obtain ⟨a, c, e, f, g⟩ := h
  exact ⟨by rw [h0 20 (by omega) (by omega)]; exact a, by rw [h0 21 (by omega) (by omega)]; exact c, by rw [h0 22 (by omega) (by omega)]; exact e, fun q => by rw [h0 23 (by omega) (by omega)]; exact f q, TPm_keep g (h0 19 (by omega) (by omega)) h10 h11⟩
theorem sp_rd {d L j : Nat} {s : ev_S} {b : Nat → Int} {Q : Option ev_V → ev_S → Prop} (hA : AM b L s j) (h : ∀ s', AM b L s' (j + 1) → rdf s s' → Q none s') : Ev layM M_X12_reads (d + 2) 0 [(0, ev_r 0)] [] s Q :=
  sp_reads hA.2.2.2.2 hA.1 (fun s' y1 y2 y3 y4 y5 => h s' ⟨y1, y2, y3, y4, rdf_T hA.2.2.2.2 y5⟩ y5)
theorem sp_errs {d L j k : Nat} {s : ev_S} {b : Nat → Int} {Q : Option ev_V → ev_S → Prop} (hA : AM b L s j) (h : Q (some (ev_i (-1))) (ers b L s k j)) : Ev layM M_X12_errs d 0 [(0, ev_r 0), (1, ev_i (k : Int))] [] s Q := by
  refine wp_X12_errs_0 ?_
  rintro _ rfl
  rw [ev_up_ne _ _ (by omega), hA.2.1]
  rintro _ rfl
  exact h
theorem sp_isWord {d L j : Nat} {s : ev_S} {b : Nat → Int} {w : Int} {Q : Option ev_V → ev_S → Prop} (hA : AM b L s j) (h1 : isW (kT b L) (kV b L) w j → Q (some (ev_i 1)) s) (h0 : ¬ isW (kT b L) (kV b L) w j → Q (some (ev_i 0)) s) : Ev layM M_X12_isWord d 0 [(0, ev_r 0), (1, ev_i w)] [] s Q := by
  refine wp_X12_isWord_0 ?_
  rw [hA.2.2.1]
  refine ⟨fun q => h0 (fun w2 => q w2.1), fun q => ?_⟩
  rw [hA.2.2.2.1 (by omega)]
  exact ⟨fun q2 => h0 (fun w2 => q2 w2.2), fun q2 => h1 ⟨q, q2⟩⟩
theorem sp_isSign {d L j : Nat} {s : ev_S} {b : Nat → Int} {c : Int} {Q : Option ev_V → ev_S → Prop} (hA : AM b L s j) (h1 : isS (kT b L) (kV b L) c j → Q (some (ev_i 1)) s) (h0 : ¬ isS (kT b L) (kV b L) c j → Q (some (ev_i 0)) s) : Ev layM M_X12_isSign d 0 [(0, ev_r 0), (1, ev_i c)] [] s Q := by
  refine wp_X12_isSign_0 ?_
  rw [hA.2.2.1]
  refine ⟨fun q => h0 (fun w2 => q w2.1), fun q => ?_⟩
  rw [hA.2.2.2.1 (by omega)]
  exact ⟨fun q2 => h0 (fun w2 => q2 w2.2), fun q2 => h1 ⟨q, q2⟩⟩
theorem sp_readNumber {d L j : Nat} {s : ev_S} {b : Nat → Int} {lo hi : Int} {Q : Option ev_V → ev_S → Prop} (hA : AM b L s j) (h : pnum (kT b L) (kV b L) lo hi j (fun k i => Q (some (ev_i (-1))) (ers b L s k i)) (fun v => ∀ s', AM b L s' (j + 1) → rdf s s' → Q (some (ev_i v)) s')) : Ev layM M_X12_readNumber (d + 3) 0 [(0, ev_r 0), (1, ev_i lo), (2, ev_i hi)] [] s Q := by
  refine wp_X12_readNumber_0 ?_
  rw [hA.2.2.1]
  refine ⟨fun q => ?_, fun q => sp_errs (k := 1) hA (ev_pi_mk (h.1 q))⟩
  have h2 := h.2 q
  rw [hA.2.2.2.1 (by omega)]
  refine sp_isIn (ev_pi_mk ?_)
  rw [hA.2.2.2.1 (by omega)]
  by_cases c : lo ≤ kV b L j ∧ kV b L j ≤ hi
  · rw [if_pos c]
    exact ⟨fun _ => sp_rd hA (fun s' y1 y2 => h2.2 c s' y1 y2), fun q2 => absurd q2 (by omega)⟩
  · rw [if_neg c]
    exact ⟨fun q2 => absurd rfl q2, fun _ => sp_errs (k := 2) hA (ev_pi_mk (h2.1 c))⟩
theorem sp_readWord {d L j : Nat} {s : ev_S} {b : Nat → Int} {w : Int} {Q : Option ev_V → ev_S → Prop} (hA : AM b L s j) (h : pis (isW (kT b L) (kV b L) w j) j (fun k i => Q (some (ev_i (-1))) (ers b L s k i)) (∀ s', AM b L s' (j + 1) → rdf s s' → Q (some (ev_i 0)) s')) : Ev layM M_X12_readWord (d + 3) 0 [(0, ev_r 0), (1, ev_i w)] [] s Q := by
  refine wp_X12_readWord_0 (sp_isWord hA (fun q => ev_pi_mk ⟨fun _ => sp_rd hA (fun s' y1 y2 => h.2 q s' y1 y2), fun q2 => absurd q2 (by omega)⟩) (fun q => ev_pi_mk ⟨fun q2 => absurd rfl q2, fun _ => sp_errs (k := 1) hA (ev_pi_mk (h.1 q))⟩))
theorem sp_readMark {d L j : Nat} {s : ev_S} {b : Nat → Int} {c : Int} {Q : Option ev_V → ev_S → Prop} (hA : AM b L s j) (h : pis (isS (kT b L) (kV b L) c j) j (fun k i => Q (some (ev_i (-1))) (ers b L s k i)) (∀ s', AM b L s' (j + 1) → rdf s s' → Q (some (ev_i 0)) s')) : Ev layM M_X12_readMark (d + 3) 0 [(0, ev_r 0), (1, ev_i c)] [] s Q := by
  refine wp_X12_readMark_0 (sp_isSign hA (fun q => ev_pi_mk ⟨fun _ => sp_rd hA (fun s' y1 y2 => h.2 q s' y1 y2), fun q2 => absurd q2 (by omega)⟩) (fun q => ev_pi_mk ⟨fun q2 => absurd rfl q2, fun _ => sp_errs (k := 1) hA (ev_pi_mk (h.1 q))⟩))
theorem sp_readPlace2 {d L j : Nat} {s T : ev_S} {b : Nat → Int} {Q : Option ev_V → ev_S → Prop} (hA : AM b L s j) (hd : m_dim T) (e6 : s 0 6 = T 0 6) (e7 : s 0 7 = T 0 7) (h : pplc (kT b L) (kV b L) (m_pl T) j (fun k i => Q (some (ev_i (-1))) (ers b L s k i)) (fun v => ∀ s', AM b L s' (j + 1) → rdf s s' → Q (some (ev_i v)) s')) : Ev layM M_X12_readPlace2 (d + 3) 0 [(0, ev_r 0)] [] s Q := by
  have d6 := hd.1
  have d7 := hd.2
  refine wp_X12_readPlace2_0 ?_
  rw [hA.2.2.1]
  refine ⟨fun q => ?_, fun q => sp_errs (k := 1) hA (ev_pi_mk (h.1 q))⟩
  have h2 := h.2 q
  have hv := (kT_ok (b := b) (L := L) (j := j)).2.2.2.1 q
  rw [hA.2.2.2.1 (by omega)]
  refine sp_isPlace (by omega) (by rw [e6]; omega) (by rw [e7]; omega) (ev_pi_mk ?_)
  rw [hA.2.2.2.1 (by omega), e6, e7]
  by_cases c : m_pl T (kV b L j)
  · have c2 := c
    unfold m_pl at c2
    rw [if_pos c2]
    exact ⟨fun _ => sp_rd hA (fun s' y1 y2 => h2.2 c s' y1 y2), fun q2 => absurd q2 (by omega)⟩
  · have c2 := c
    unfold m_pl at c2
    rw [if_neg c2]
    exact ⟨fun q2 => absurd rfl q2, fun _ => sp_errs (k := 2) hA (ev_pi_mk (h2.1 c))⟩
end
