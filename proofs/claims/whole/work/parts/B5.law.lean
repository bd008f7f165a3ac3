section
/-! THE LAW: all its lines, both sides -/
theorem xg_adv {b : Nat → Int} {L n k j i : Nat} {σ0 σ : ev_S} {c : List (Int × Int)} {W : Nat → Int} {B : Nat → Nat} (h : xg b L n σ0 c k W B σ j) (hB : ∀ i, i ≤ k → B i ≤ c.length) : xg b L n σ0 c k W B (adv b L σ i) i := by
  have := xg_of (cs := []) h hB (by rw [List.append_nil]; exact xls_adv (i := i) (xg_xls h))
  rw [List.append_nil] at this
  exact this
theorem xg_ft {b : Nat → Int} {L n k j q i : Nat} {σ0 σ : ev_S} {c : List (Int × Int)} {W : Nat → Int} {B : Nat → Nat} (h : xg b L n σ0 c k W B σ j) : FX b L σ0 q i (ftx b L σ q i) := ⟨ftx_89.1, ftx_89.2, frR_ftx h.2.1⟩
theorem sp_close {d L n k j : Nat} {σ0 σ : ev_S} {b : Nat → Int} {c : List (Int × Int)} {W : Nat → Int} {B : Nat → Nat} {t w : Int} {K : ev_S → Prop} (hx : xg b L n σ0 c k W B σ j) (hk : k < 16) (ht : t = if w = 0 then 1 else 0) (h : ∀ σ', xg b L n σ0 c (k + 1) (rup W k w) (fun i => if i = k + 1 then c.length else B i) σ' j → K σ') : Ev layX M_X4_closeLine d 0 [(0, ev_r 139), (1, ev_i t)] [] σ (fun _ s3 => ∀ s4, ev_up s3 137 4 (ev_add (s3 137 4) 1) = s4 → K s4) := by
  obtain ⟨h1, h2, h3, h4, h5, h6, h7, h8⟩ := hx
  have g : Ev layX M_X4_closeLine d 26 [(0, ev_r 139)] [ev_i t, ev_i (k : Int), ev_r (139 + 3)] σ (fun _ s3 => ∀ s4, ev_up s3 137 4 (ev_add (s3 137 4) 1) = s4 → K s4) := by
    refine wp_X4_closeLine_26 is_X4_139 ?_
    rw [Int.toNat_natCast]
    refine ⟨by omega, ?_⟩
    rintro _ rfl
    rw [ev_upj _ _ (show (139 : Nat) ≠ 139 + 3 by omega), h4, ev_add_eq ⟨by omega, by omega⟩]
    rintro _ rfl
    rw [ev_up_same, show Int.toNat ((k : Int) + 1) = k + 1 by omega, ev_up_ne _ _ (show ¬ ((139 : Nat) = 139 ∧ (4 : Nat) = 5) by omega), ev_upj _ _ (show (139 : Nat) ≠ 139 + 3 by omega), h5]
    refine ⟨by omega, ?_⟩
    rintro _ rfl
    rw [ev_upj _ _ (show (137 : Nat) ≠ 139 + 2 by omega), ev_upj _ _ (show (137 : Nat) ≠ 139 by omega), ev_upj _ _ (show (137 : Nat) ≠ 139 + 3 by omega), h3, ev_add_eq ⟨by omega, by omega⟩]
    rintro _ rfl
    refine h _ ⟨?_, frR_up (frR_up (frR_up (frR_up h2 (by omega)) (by omega)) (by omega)) (by omega), ?_, ?_, ?_, fun i hi => ?_, fun i hi => ?_, fun i hi => ?_⟩
    · exact AX_keep h1 (fun c hc => by rw [ev_upj _ _ (by omega), ev_upj _ _ (by omega), ev_upj _ _ (by omega), ev_upj _ _ (by omega)]) (by rw [ev_up_ne _ _ (by omega), ev_upj _ _ (by omega), ev_upj _ _ (by omega), ev_upj _ _ (by omega)]) (by rw [ev_up_ne _ _ (by omega), ev_upj _ _ (by omega), ev_upj _ _ (by omega), ev_upj _ _ (by omega)]) (by rw [ev_up_ne _ _ (by omega), ev_upj _ _ (by omega), ev_upj _ _ (by omega), ev_upj _ _ (by omega)]) (by rw [ev_up_ne _ _ (by omega), ev_upj _ _ (by omega), ev_upj _ _ (by omega), ev_upj _ _ (by omega)])
    · rw [ev_up_same]; omega
    · rw [ev_upj _ _ (by omega), ev_upj _ _ (by omega), ev_up_same]; omega
    · rw [ev_upj _ _ (by omega), ev_upj _ _ (by omega), ev_up_ne _ _ (by omega), ev_upj _ _ (by omega)]; exact h5
    · have := h6 i hi
      unfold xcode at this ⊢
      rw [ev_upj _ _ (by omega), ev_upj _ _ (by omega), ev_upj _ _ (by omega), ev_upj _ _ (by omega)]; exact this
    · rw [ev_upj _ _ (by omega), ev_upj _ _ (by omega), ev_upj _ _ (by omega)]
      by_cases e : i = k
      · rw [e, ev_up_same, rup_same]; exact ht
      · rw [ev_up_ne _ _ (by omega), rup_ne _ _ e]; exact h7 i (by omega)
    · rw [ev_upj _ _ (by omega)]
      by_cases e : i = k + 1
      · simp only [e, if_true]
        rw [ev_up_same]
      · simp only [if_neg e]
        rw [ev_up_ne _ _ (by omega), ev_upj _ _ (by omega), ev_upj _ _ (by omega)]; exact h8 i (by omega)
  refine wp_X4_closeLine_0 is_X4_139 ?_
  rw [h4]
  refine ⟨fun q => absurd q (by omega), fun _ => ⟨fun q => ?_, fun q => ?_⟩⟩
  · rw [q] at g; exact g
  · rw [show t = 1 by rw [ht] at q ⊢; split <;> simp_all] at g; exact g
theorem mg_line {b : Nat → Int} {L k j : Nat} {s0 s : ev_S} {c : List (Int × Int)} {W : Nat → Int} {B : Nat → Nat} {w : Int} (h : mg b L s0 c k W B s j) (e12 : s 12 (16 + k) = w) (e13 : s 13 (16 + k) = (B k : Int)) (e14 : s 14 (16 + k) = ((c.length : Nat) : Int)) : mg b L s0 c (k + 1) (rup W k w) (fun i => if i = k + 1 then c.length else B i) s j := by
  obtain ⟨h1, h2, h3, h4, h5, h6⟩ := h
  refine ⟨h1, h2, h3, h4, h5, fun i hi => ?_⟩
  simp only [if_neg (show i ≠ k + 1 by omega)]
  by_cases e : i = k
  · subst e
    simp only [if_true]
    rw [rup_same]
    exact ⟨e12, e13, e14⟩
  · simp only [if_neg (show i + 1 ≠ k + 1 by omega)]
    rw [rup_ne _ _ e]
    exact h6 i (by omega)
def lnXE (b : Nat → Int) (L n j : Nat) (c : List (Int × Int)) (k : Nat) (W : Nat → Int) (B : Nat → Nat) (q i : Nat) : Prop := ∀ (d : Nat) (σ0 σ : ev_S) (Q : Option ev_V → ev_S → Prop), 20 ≤ d → xg b L n σ0 c k W B σ j → (∀ σ', FX b L σ0 q i σ' → Q (some (ev_i 0)) σ') → Ev layX M_X8_readLaw (d + 1) 9 [(0, ev_r 137), (1, ev_i (k : Int))] [] σ Q
def lnXO (b : Nat → Int) (L n j : Nat) (c : List (Int × Int)) (k : Nat) (W : Nat → Int) (B : Nat → Nat) (c' : List (Int × Int)) (k' : Nat) (W' : Nat → Int) (B' : Nat → Nat) (j' : Nat) : Prop := ∀ (d : Nat) (σ0 σ : ev_S) (Q : Option ev_V → ev_S → Prop), 20 ≤ d → xg b L n σ0 c k W B σ j → (∀ σ', xg b L n σ0 c' k' W' B' σ' j' → Q (some (ev_i 1)) σ') → Ev layX M_X8_readLaw (d + 1) 9 [(0, ev_r 137), (1, ev_i (k : Int))] [] σ Q
def lnME (b : Nat → Int) (L j : Nat) (c : List (Int × Int)) (k : Nat) (W : Nat → Int) (B : Nat → Nat) (q i : Nat) : Prop := ∀ (d : Nat) (s0 s : ev_S) (Q : Option ev_V → ev_S → Prop), mg b L s0 c k W B s j → (∀ s', FM b L s0 q i s' → Q (some (ev_i (-1))) s') → Ev layM M_X12_readText (d + 8) 2 [(0, ev_r 0), (1, ev_i (k : Int))] [] s Q
def lnMO (b : Nat → Int) (L j : Nat) (c : List (Int × Int)) (k : Nat) (W : Nat → Int) (B : Nat → Nat) (c' : List (Int × Int)) (k' : Nat) (W' : Nat → Int) (B' : Nat → Nat) (j' : Nat) : Prop := ∀ (d : Nat) (s0 s : ev_S) (Q : Option ev_V → ev_S → Prop), mg b L s0 c k W B s j → (∀ s', mg b L s0 c' k' W' B' s' j' → Ev layM M_X12_readText (d + 8) 117 [(0, ev_r 0), (1, ev_i (k' : Int))] [] s' Q) → Ev layM M_X12_readText (d + 8) 2 [(0, ev_r 0), (1, ev_i (k : Int))] [] s Q
def isL (T V : Nat → Int) (j : Nat) : Prop := T j = 2 ∧ V j ≤ 1
theorem kk_L {b : Nat → Int} {L j : Nat} : (isL (kT b L) (kV b L) j → kk b L j = kV b L j + 20 ∧ 0 ≤ kV b L j) ∧ (kk b L j = 20 ∨ kk b L j = 21 → isL (kT b L) (kV b L) j) := by
  have hko := kT_ok (b := b) (L := L) (j := j)
  refine ⟨fun h => ?_, fun h => ?_⟩
  · have h0 := (hko.2.2.1 h.1).1
    refine ⟨?_, h0⟩
    unfold kk kdf
    rw [h.1, if_neg (by omega), if_neg (by omega), if_pos rfl, if_pos (by have := h.2; omega)]
  · rcases h with h | h
    · have := (kkw (w := 0) (by omega) (by rfl)).mp h
      exact ⟨this.1, by rw [this.2]; omega⟩
    · have := (kkw (w := 1) (by omega) (by rfl)).mp h
      exact ⟨this.1, by rw [this.2]; omega⟩
theorem ln_go {b : Nat → Int} {L n j : Nat} (hN : EN b L n) (hj : isL (kT b L) (kV b L) j) {c : List (Int × Int)} {k : Nat} {W : Nat → Int} {B : Nat → Nat} (hk : k < 16) (hc : c.length ≤ j) (hB : ∀ i, i ≤ k → B i ≤ c.length) (hBk : B k = c.length) :
    (∃ q i, lnXE b L n j c k W B q i ∧ lnME b L j c k W B q i) ∨ (∃ (j1 : Nat) (cs : List (Int × Int)), j < j1 ∧ j1 ≤ n ∧ (c ++ cs).length ≤ j1 ∧ (cs = [] ∨ SG 0 true cs 32) ∧ (∀ (d : Nat) (σ0 σ : ev_S) (Q : Option ev_V → ev_S → Prop), 20 ≤ d → xg b L n σ0 c k W B σ j → (∀ σ', xg b L n σ0 (c ++ cs) k W B σ' j1 → Ev layX M_X8_readLaw (d + 1) 90 [(0, ev_r 137), (1, ev_i (k : Int)), (2, ev_i (if kV b L j = 0 then 1 else 0))] [ev_i 1] σ' Q) → Ev layX M_X8_readLaw (d + 1) 9 [(0, ev_r 137), (1, ev_i (k : Int))] [] σ Q) ∧ (∀ (d : Nat) (s0 s : ev_S) (Q : Option ev_V → ev_S → Prop), mg b L s0 c k W B s j → (∀ s', mg b L s0 (c ++ cs) k W B s' j1 → s' 12 (16 + k) = kV b L j → s' 13 (16 + k) = (B k : Int) → Ev layM M_X12_readText (d + 8) 81 [(0, ev_r 0), (1, ev_i (k : Int)), (2, ev_i ((16 + k : Nat) : Int))] [] s' Q) → Ev layM M_X12_readText (d + 8) 2 [(0, ev_r 0), (1, ev_i (k : Int))] [] s Q)) := by
  have hn := hN.1
  have nj : j < n := EN_lt hN (by rw [hj.1]; omega)
  obtain ⟨ek, v0⟩ := kk_L.1 hj
  have v1 := hj.2
  have xh : ∀ (d : Nat) (σ0 σ : ev_S) (Q : Option ev_V → ev_S → Prop), 20 ≤ d → xg b L n σ0 c k W B σ j → (¬ isW (kT b L) (kV b L) 2 (j + 1) → ∀ σ1, xg b L n σ0 c k W B σ1 (j + 1) → Ev layX M_X8_readLaw (d + 1) 90 [(0, ev_r 137), (1, ev_i (k : Int)), (2, ev_i (if kV b L j = 0 then 1 else 0))] [ev_i 1] σ1 Q) → (isW (kT b L) (kV b L) 2 (j + 1) → ∀ σ1, xg b L n σ0 c k W B σ1 (j + 2) → rdC d 0 0 1 0 σ1 (ev_pi (fun r5 s4 => ((r5 = 0 → Ev layX M_X8_readLaw (d + 1) 90 [(0, ev_r 137), (1, ev_i (k : Int)), (2, ev_i (if kV b L j = 0 then 1 else 0))] [ev_i 0] s4 Q) ∧ (r5 ≠ 0 → Ev layX M_X8_readLaw (d + 1) 90 [(0, ev_r 137), (1, ev_i (k : Int)), (2, ev_i (if kV b L j = 0 then 1 else 0))] [ev_i 1] s4 Q))))) → Ev layX M_X8_readLaw (d + 1) 9 [(0, ev_r 137), (1, ev_i (k : Int))] [] σ Q := by
    intro d σ0 σ Q hd hx h0 h1
    obtain ⟨e, rfl⟩ : ∃ e, d = e + 1 := ⟨d - 1, by omega⟩
    have g63 : Ev layX M_X8_readLaw (e + 1 + 1) 63 [(0, ev_r 137), (1, ev_i (k : Int))] [ev_i (if kV b L j = 0 then 1 else 0)] σ Q := by
      refine wp_X8_readLaw_63 (sp_advance hN hx.1 (by omega) ?_)
      have x1 := xg_adv (i := j + 1) hx hB
      refine sp_passes hN x1.1 (by omega) (fun w => ev_pi_mk ⟨fun q => absurd q (by omega), fun _ => ?_⟩) (fun w => ev_pi_mk ⟨fun _ => h0 (fun q => w ((kkw (w := 2) (by omega) (by rfl)).mpr q)) _ x1, fun q => absurd rfl q⟩)
      exact wp_X8_readCondition_0 (wp_X8_readCondition_4 ⟨fun q => absurd q (by omega), fun _ => ⟨fun q => absurd q (by omega), fun _ => h1 ((kkw (w := 2) (by omega) (by rfl)).mp w) _ (xg_adv x1 hB)⟩⟩)
    have g34 : Ev layX M_X8_readLaw (e + 1 + 1) 34 [(0, ev_r 137), (1, ev_i (k : Int))] [] σ Q := by
      refine wp_X8_readLaw_34 ?_
      rw [hx.2.2.1, hx.1.2.1, ek]
      refine ⟨fun _ => ⟨fun q => ?_, fun q => ?_⟩, fun q => absurd q (by omega)⟩
      · rw [if_neg (by omega)] at g63; exact g63
      · rw [if_pos (by omega)] at g63; exact g63
    refine wp_X8_readLaw_9 ?_
    rw [hx.1.2.1, ek]
    exact ⟨fun q => absurd q (by omega), fun _ => ⟨fun _ => g34, fun q => ⟨fun q2 => absurd q2 (by omega), fun _ => g34⟩⟩⟩
  have mh : ∀ (d : Nat) (s0 s : ev_S) (Q : Option ev_V → ev_S → Prop), mg b L s0 c k W B s j → (¬ isW (kT b L) (kV b L) 2 (j + 1) → ∀ s', mg b L s0 c k W B s' (j + 1) → s' 12 (16 + k) = kV b L j → s' 13 (16 + k) = (B k : Int) → Ev layM M_X12_readText (d + 8) 81 [(0, ev_r 0), (1, ev_i (k : Int)), (2, ev_i ((16 + k : Nat) : Int))] [] s' Q) → (isW (kT b L) (kV b L) 2 (j + 1) → ∀ s', mg b L s0 c k W B s' (j + 2) → s' 0 34 = 0 → s' 12 (16 + k) = kV b L j → s' 13 (16 + k) = (B k : Int) → rdA d 0 1 s' (ev_pi (fun r8 s7 => ((r8 ≠ (-1) → Ev layM M_X12_readText (d + 8) 81 [(0, ev_r 0), (1, ev_i (k : Int)), (2, ev_i ((16 + k : Nat) : Int))] [] s7 Q) ∧ (r8 = (-1) → Q (some (ev_i (-1))) s7))))) → Ev layM M_X12_readText (d + 8) 2 [(0, ev_r 0), (1, ev_i (k : Int))] [] s Q := by
    intro d s0 s Q hm h0 h1
    refine wp_X12_readText_2 ?_
    rw [hm.1.2.2.1, hm.1.2.2.2.1 (by rw [hj.1]; omega), ev_add_eq ⟨by omega, by omega⟩, show (16 : Int) + (k : Int) = ((16 + k : Nat) : Int) by omega, Int.toNat_natCast]
    refine ⟨fun q => absurd hj.1 q, fun _ => ⟨fun q => absurd q (by omega), fun _ => ⟨fun _ => ⟨by omega, ?_⟩, fun q => absurd q (by omega)⟩⟩⟩
    rintro _ rfl
    refine mg_rd (mg_up hm (by omega)) (fun s2 m2 r2 => ⟨by omega, ?_⟩)
    rintro _ rfl
    have e12 : s2 12 (16 + k) = kV b L j := by rw [r2.2 12 (by omega), ev_up_same]
    have e31 : s2 0 31 = (B k : Int) := by rw [hBk]; exact m2.2.2.1
    have m3 := mg_up (a := 13) (z := s2 0 31) m2 (by omega)
    have f12 : ev_up s2 13 (16 + k) (s2 0 31) 12 (16 + k) = kV b L j := by rw [ev_upj _ _ (by omega)]; exact e12
    have f13 : ev_up s2 13 (16 + k) (s2 0 31) 13 (16 + k) = (B k : Int) := by rw [ev_up_same]; exact e31
    refine sp_isWord m3.1 (fun w => ev_pi_mk ⟨fun q => absurd q (by omega), fun _ => mg_rd m3 (fun s6 m6 r6 => wp_X12_readAny_0 ?_)⟩) (fun w => ev_pi_mk ⟨fun _ => h0 w _ m3 f12 f13, fun q => absurd rfl q⟩)
    rintro _ rfl
    refine h1 w _ ?_ (ev_up_same _ _ _ _) (by rw [ev_upj _ _ (by omega), r6.2 12 (by omega)]; exact f12) (by rw [ev_upj _ _ (by omega), r6.2 13 (by omega)]; exact f13)
    obtain ⟨a1, a2, a3, a4, a5, a6⟩ := m6
    exact ⟨AM_keep a1 (fun k _ _ => ev_up_ne _ _ (by omega)) (ev_upj _ _ (by omega)) (ev_upj _ _ (by omega)), frW_up0 a2 (by omega), by rw [ev_up_ne _ _ (by omega)]; exact a3, by rw [ev_upj _ _ (by omega), ev_upj _ _ (by omega)]; exact a4, by rw [ev_up_ne _ _ (by omega)]; exact a5, by rw [ev_upj _ _ (by omega), ev_upj _ _ (by omega), ev_upj _ _ (by omega)]; exact a6⟩
  by_cases w2 : isW (kT b L) (kV b L) 2 (j + 1)
  · have n2 := isW_n hN w2
    rcases (both_all hN n (j + 2) (by omega) (by omega) 0 (by omega)).2 0 0 (by omega) (by omega) with ⟨q, i, hX, hM⟩ | ⟨j1, cs, g1, g2, g3, g4, hX, hM⟩
    · refine Or.inl ⟨q, i, fun d σ0 σ Q hd hx hq => xh d σ0 σ Q hd hx (fun w => absurd w2 w) (fun _ σ1 h1 => hX d σ1 σ1 c 0 0 _ (by omega) (xg_xls h1) (by omega) (Or.inl ⟨rfl, rfl⟩) (Or.inl ⟨rfl, rfl⟩) (by omega) (by omega) (fun σ' hF => ev_pi_mk ⟨fun _ => wp_X8_readLaw_90 ⟨fun _ => hq σ' (FX_tr h1.2.1 hF.1), fun w => absurd rfl w⟩, fun w => absurd rfl w⟩)), fun d s0 s Q hm hq => mh d s0 s Q hm (fun w => absurd w2 w) (fun _ s' m' e34 _ _ => hM d s' s' c [] 0 _ (mg_mz m' e34) ⟨by simp, by simp, by simp⟩ (by omega) (by simp) (by omega) (fun s2 hF => ev_pi_mk ⟨fun w => absurd rfl w, fun _ => hq s2 (FM_tr m'.2.1 hF)⟩))⟩
    · refine Or.inr ⟨j1, cs, by omega, g2, by rw [List.length_append]; omega, Or.inr (SG_mono g4 (by omega)), fun d σ0 σ Q hd hx hq => xh d σ0 σ Q hd hx (fun w => absurd w2 w) (fun _ σ1 h1 => hX d σ1 σ1 c 0 0 _ (by omega) (xg_xls h1) (by omega) (Or.inl ⟨rfl, rfl⟩) (Or.inl ⟨rfl, rfl⟩) (by omega) (by omega) (fun σ' h2 => ev_pi_mk ⟨fun w => absurd w (by omega), fun _ => hq σ' (xg_of h1 hB h2)⟩)), fun d s0 s Q hm hq => mh d s0 s Q hm (fun w => absurd w2 w) (fun _ s' m' e34 e12 e13 => hM d s' s' c [] 0 _ (mg_mz m' e34) ⟨by simp, by simp, by simp⟩ (by omega) (by simp) (by omega) (fun s2 m2 => ⟨fun w => absurd rfl w, fun _ => ev_pi_mk ⟨fun _ => hq s2 (mg_of m' m2) (by rw [m2.2.2.2.1 12 (by omega) (by omega) (by omega) (by omega)]; exact e12) (by rw [m2.2.2.2.1 13 (by omega) (by omega) (by omega) (by omega)]; exact e13), fun w => absurd w (by omega)⟩⟩))⟩
  · exact Or.inr ⟨j + 1, [], by omega, by omega, by rw [List.append_nil]; omega, Or.inl rfl, fun d σ0 σ Q hd hx hq => xh d σ0 σ Q hd hx (fun _ σ1 h1 => hq σ1 (by rw [List.append_nil]; exact h1)) (fun w => absurd w w2), fun d s0 s Q hm hq => mh d s0 s Q hm (fun _ s' m' e12 e13 => hq s' (by rw [List.append_nil]; exact m') e12 e13) (fun w => absurd w w2)⟩
theorem both_ln {b : Nat → Int} {L n : Nat} (hN : EN b L n) : ∀ (m j : Nat) (c : List (Int × Int)) (k : Nat) (W : Nat → Int) (B : Nat → Nat), n ≤ j + m → j ≤ n → c.length ≤ j → k ≤ 16 → LT c B k → (∀ i, i ≤ k → B i ≤ c.length) → B k = c.length → (∀ i, i < k → W i = 0 ∨ W i = 1) → (∃ q i, lnXE b L n j c k W B q i ∧ lnME b L j c k W B q i) ∨ (∃ (j' : Nat) (c' : List (Int × Int)) (k' : Nat) (W' : Nat → Int) (B' : Nat → Nat), j' ≤ n ∧ ¬ isL (kT b L) (kV b L) j' ∧ c'.length ≤ j' ∧ k' ≤ 16 ∧ LT c' B' k' ∧ (∀ i, i < k' → W' i = 0 ∨ W' i = 1) ∧ lnXO b L n j c k W B c' k' W' B' j' ∧ lnMO b L j c k W B c' k' W' B' j') := by
  have hn := hN.1
  have stop : ∀ (j : Nat) (c : List (Int × Int)) (k : Nat) (W : Nat → Int) (B : Nat → Nat), k ≤ 16 → ¬ isL (kT b L) (kV b L) j → lnXO b L n j c k W B c k W B j ∧ lnMO b L j c k W B c k W B j := by
    intro j c k W B hk nl
    refine ⟨fun d σ0 σ Q hd hx hq => wp_X8_readLaw_9 ?_, fun d s0 s Q hm hq => wp_X12_readText_2 ?_⟩
    · rw [hx.1.2.1]
      exact ⟨fun q => absurd q (by omega), fun _ => ⟨fun q => absurd (kk_L.2 (Or.inl q)) nl, fun _ => ⟨fun _ => hq σ hx, fun q => absurd (kk_L.2 (Or.inr q)) nl⟩⟩⟩
    · rw [hm.1.2.2.1]
      refine ⟨fun _ => hq s hm, fun q => ?_⟩
      rw [hm.1.2.2.2.1 (by omega)]
      exact ⟨fun _ => hq s hm, fun q2 => absurd ⟨q, q2⟩ nl⟩
  intro m
  induction m with
  | zero =>
    intro j c k W B h1 h2 hc hk hLT hB hBk hW
    have e := EN_ge hN (j := j) (by omega)
    have nl : ¬ isL (kT b L) (kV b L) j := fun q => by have := q.1; omega
    obtain ⟨g1, g2⟩ := stop j c k W B hk nl
    exact Or.inr ⟨j, c, k, W, B, h2, nl, hc, hk, hLT, hW, g1, g2⟩
  | succ m ih =>
    intro j c k W B h1 h2 hc hk hLT hB hBk hW
    by_cases hl : isL (kT b L) (kV b L) j
    · obtain ⟨ek, v0⟩ := kk_L.1 hl
      have v1 := hl.2
      by_cases k16 : k = 16
      · refine Or.inl ⟨3, j, fun d σ0 σ Q hd hx hq => ?_, fun d s0 s Q hm hq => wp_X12_readText_2 ?_⟩
        · have g34 : Ev layX M_X8_readLaw (d + 1) 34 [(0, ev_r 137), (1, ev_i (k : Int))] [] σ Q := by
            refine wp_X8_readLaw_34 ?_
            rw [hx.2.2.1]
            exact ⟨fun q => absurd q (by omega), fun _ => sp_faulty (k := 3) hN hx.1 (ev_pi_mk ⟨Or.inl rfl, hq _ (xg_ft hx)⟩)⟩
          refine wp_X8_readLaw_9 ?_
          rw [hx.1.2.1, ek]
          exact ⟨fun q => absurd q (by omega), fun _ => ⟨fun _ => g34, fun q => ⟨fun q2 => absurd q2 (by omega), fun _ => g34⟩⟩⟩
        · rw [hm.1.2.2.1, hm.1.2.2.2.1 (by rw [hl.1]; omega)]
          exact ⟨fun q => absurd hl.1 q, fun _ => ⟨fun q => absurd q (by omega), fun _ => ⟨fun q => absurd (by omega) q, fun _ => sp_errs (k := 3) hm.1 (ev_pi_mk (hq _ (FM_ers hm.2.1)))⟩⟩⟩
      · rcases ln_go hN hl (W := W) (B := B) (c := c) (k := k) (by omega) hc hB hBk with h | ⟨j1, cs, p1, p2, p3, p4, hX, hM⟩
        · exact Or.inl h
        · have hB1 : ∀ i, i ≤ k → B i ≤ (c ++ cs).length := fun i hi => by have := hB i hi; rw [List.length_append]; omega
          by_cases ws : isS (kT b L) (kV b L) 59 j1
          · have ns := isS_n hN ws
            have xo : ∀ (d : Nat) (σ0 σ : ev_S) (Q : Option ev_V → ev_S → Prop), 20 ≤ d → xg b L n σ0 c k W B σ j → (∀ σ', xg b L n σ0 (c ++ cs) (k + 1) (rup W k (kV b L j)) (fun i => if i = k + 1 then (c ++ cs).length else B i) σ' (j1 + 1) → Ev layX M_X8_readLaw (d + 1) 9 [(0, ev_r 137), (1, ev_i ((k + 1 : Nat) : Int))] [] σ' Q) → Ev layX M_X8_readLaw (d + 1) 9 [(0, ev_r 137), (1, ev_i (k : Int))] [] σ Q := by
              intro d σ0 σ Q hd hx hq
              obtain ⟨e, rfl⟩ : ∃ e, d = e + 1 := ⟨d - 1, by omega⟩
              refine hX (e + 1) σ0 σ Q hd hx (fun σ1 x1 => wp_X8_readLaw_90 ⟨fun q => absurd q (by omega), fun _ => sp_takesS (c := 59) hN x1.1 (by omega) (by omega) (by rfl) ⟨fun w => absurd ws w, fun _ => ev_pi_mk ⟨fun _ => ?_, fun q => absurd q (by omega)⟩⟩⟩)
              rw [ev_add_eq ⟨by omega, by omega⟩, show (k : Int) + 1 = ((k + 1 : Nat) : Int) by omega]
              exact sp_close (xg_adv x1 hB1) (by omega) rfl hq
            have mo : ∀ (d : Nat) (s0 s : ev_S) (Q : Option ev_V → ev_S → Prop), mg b L s0 c k W B s j → (∀ s', mg b L s0 (c ++ cs) (k + 1) (rup W k (kV b L j)) (fun i => if i = k + 1 then (c ++ cs).length else B i) s' (j1 + 1) → Ev layM M_X12_readText (d + 8) 2 [(0, ev_r 0), (1, ev_i ((k + 1 : Nat) : Int))] [] s' Q) → Ev layM M_X12_readText (d + 8) 2 [(0, ev_r 0), (1, ev_i (k : Int))] [] s Q := by
              intro d s0 s Q hm hq
              refine hM d s0 s Q hm (fun s1 m1 e12 e13 => wp_X12_readText_81 ?_)
              rw [Int.toNat_natCast]
              refine ⟨by omega, ?_⟩
              rintro _ rfl
              have m2 := mg_up (a := 14) (z := s1 0 31) m1 (by omega)
              have m3 := mg_line (w := kV b L j) m2 (by rw [ev_upj _ _ (by omega)]; exact e12) (by rw [ev_upj _ _ (by omega)]; exact e13) (by rw [ev_up_same]; exact m1.2.2.1)
              refine sp_isSign m3.1 (fun _ => ev_pi_mk ⟨fun _ => mg_rd m3 (fun s4 m4 _ => ?_), fun q => absurd q (by omega)⟩) (fun w => absurd ws w)
              rw [ev_add_eq ⟨by omega, by omega⟩, show (k : Int) + 1 = ((k + 1 : Nat) : Int) by omega]
              exact hq s4 m4
            have hW1 : ∀ i, i < k + 1 → rup W k (kV b L j) i = 0 ∨ rup W k (kV b L j) i = 1 := by
              intro i hi
              by_cases e : i = k
              · rw [e, rup_same]; omega
              · rw [rup_ne _ _ e]; exact hW i (by omega)
            have hB2 : ∀ i, i ≤ k + 1 → (fun i => if i = k + 1 then (c ++ cs).length else B i) i ≤ (c ++ cs).length := by
              intro i hi
              simp only
              split
              · exact Nat.le_refl _
              · exact hB1 i (by omega)
            rcases ih (j1 + 1) (c ++ cs) (k + 1) (rup W k (kV b L j)) (fun i => if i = k + 1 then (c ++ cs).length else B i) (by omega) (by omega) (by omega) (by omega) (LT_add hLT hBk p4) hB2 (by simp) hW1 with ⟨q, i, hX2, hM2⟩ | ⟨j', c', k', W', B', f1, f2, f3, f4, f5, f6, hX2, hM2⟩
            · exact Or.inl ⟨q, i, fun d σ0 σ Q hd hx hq => xo d σ0 σ Q hd hx (fun σ' x' => hX2 d σ0 σ' Q hd x' hq), fun d s0 s Q hm hq => mo d s0 s Q hm (fun s' m' => hM2 d s0 s' Q m' hq)⟩
            · exact Or.inr ⟨j', c', k', W', B', f1, f2, f3, f4, f5, f6, fun d σ0 σ Q hd hx hq => xo d σ0 σ Q hd hx (fun σ' x' => hX2 d σ0 σ' Q hd x' hq), fun d s0 s Q hm hq => mo d s0 s Q hm (fun s' m' => hM2 d s0 s' Q m' hq)⟩
          · refine Or.inl ⟨1, j1, fun d σ0 σ Q hd hx hq => ?_, fun d s0 s Q hm hq => hM d s0 s Q hm (fun s1 m1 e12 e13 => wp_X12_readText_81 ?_)⟩
            · obtain ⟨e, rfl⟩ : ∃ e, d = e + 1 := ⟨d - 1, by omega⟩
              exact hX (e + 1) σ0 σ Q hd hx (fun σ1 x1 => wp_X8_readLaw_90 ⟨fun q => absurd q (by omega), fun _ => sp_takesS (c := 59) hN x1.1 (by omega) (by omega) (by rfl) ⟨fun _ => ev_pi_mk ⟨fun q => absurd rfl q, fun _ => hq _ (xg_ft x1)⟩, fun w => absurd w ws⟩⟩)
            · rw [Int.toNat_natCast]
              refine ⟨by omega, ?_⟩
              rintro _ rfl
              have m2 := mg_up (a := 14) (z := s1 0 31) m1 (by omega)
              exact sp_isSign m2.1 (fun w => absurd w ws) (fun _ => ev_pi_mk ⟨fun q => absurd rfl q, fun _ => sp_errs (k := 1) m2.1 (ev_pi_mk (hq _ (FM_ers m2.2.1)))⟩)
    · obtain ⟨g1, g2⟩ := stop j c k W B hk hl
      exact Or.inr ⟨j, c, k, W, B, h2, hl, hc, hk, hLT, hW, g1, g2⟩
end
