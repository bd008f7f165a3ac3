section
/-! THE LAW: its lines, both sides -/
theorem cO_app {c cs : List (Int × Int)} {i : Nat} (h : i < c.length) : cO (c ++ cs) i = cO c i ∧ cA (c ++ cs) i = cA c i := by
  unfold cO cA
  simp only [List.getD, List.getElem?_append]
  rw [if_pos h]
  exact ⟨rfl, rfl⟩
theorem cO_appr {c cs : List (Int × Int)} {i : Nat} : cO (c ++ cs) (c.length + i) = cO cs i ∧ cA (c ++ cs) (c.length + i) = cA cs i := by
  unfold cO cA
  simp only [List.getD, List.getElem?_append]
  rw [if_neg (by omega), show c.length + i - c.length = i by omega]
  exact ⟨rfl, rfl⟩
theorem csz_app {c cs : List (Int × Int)} {m : Nat} (h : m ≤ c.length) : csz (cO (c ++ cs)) m = csz (cO c) m := csz_cong m (fun i hi => (cO_app (by omega)).1)
def xg (b : Nat → Int) (L n : Nat) (σ0 : ev_S) (c : List (Int × Int)) (k : Nat) (W : Nat → Int) (B : Nat → Nat) (σ : ev_S) (j : Nat) : Prop := AX b L n σ j ∧ frR σ0 σ ∧ σ 137 4 = (k : Int) ∧ σ 139 5 = (k : Int) ∧ σ 139 4 = ((csz (cO c) c.length : Nat) : Int) ∧ (∀ i, i < c.length → xcode σ (cO c) (cA c) i) ∧ (∀ i, i < k → σ 142 i = if W i = 0 then 1 else 0) ∧ (∀ i, i ≤ k → σ 141 i = ((csz (cO c) (B i) : Nat) : Int))
def mg (b : Nat → Int) (L : Nat) (s0 : ev_S) (c : List (Int × Int)) (k : Nat) (W : Nat → Int) (B : Nat → Nat) (s : ev_S) (j : Nat) : Prop := AM b L s j ∧ frW s0 s ∧ s 0 31 = ((c.length : Nat) : Int) ∧ (∀ i, i < c.length → s 15 (400 + i) = cO c i ∧ s 16 (400 + i) = cA c i) ∧ s 0 32 = 0 ∧ (∀ i, i < k → s 12 (16 + i) = W i ∧ s 13 (16 + i) = (B i : Int) ∧ s 14 (16 + i) = (B (i + 1) : Int))
def LT (c : List (Int × Int)) (B : Nat → Nat) (k : Nat) : Prop := ∀ i, i < k → B i ≤ B (i + 1) ∧ B (i + 1) ≤ c.length ∧ (B i < B (i + 1) → ∀ op ar : Nat → Int, (∀ q, B i ≤ q → q < B (i + 1) → op q = cO c q ∧ ar q = cA c q) → m_lty op ar (B i) (B (i + 1) - B i) 0 (fun _ => false))
theorem LT_add {c cs : List (Int × Int)} {B : Nat → Nat} {k : Nat} (h : LT c B k) (hk : B k = c.length) (hs : cs = [] ∨ SG 0 true cs 32) : LT (c ++ cs) (fun i => if i = k + 1 then (c ++ cs).length else B i) (k + 1) := by
  intro i hi
  simp only [if_neg (show i ≠ k + 1 by omega)]
  by_cases e : i = k
  · subst e
    simp only [if_true, hk, List.length_append]
    refine ⟨by omega, by omega, fun q op ar hop => ?_⟩
    rcases hs with rfl | hs
    · simp at q
    · rw [show c.length + cs.length - c.length = cs.length by omega]
      refine SG_run hs (Nat.le_refl _) (atl_of (fun q hq => ?_))
      have := hop (c.length + q) (by omega) (by omega)
      rw [cO_appr.1, cO_appr.2] at this
      exact this
  · simp only [if_neg (show i + 1 ≠ k + 1 by omega)]
    obtain ⟨a1, a2, a3⟩ := h i (by omega)
    exact ⟨a1, by rw [List.length_append]; omega, fun q op ar hop => a3 q op ar (fun q1 h1 h2 => by
      have := hop q1 h1 h2
      rw [(cO_app (cs := cs) (show q1 < c.length by omega)).1, (cO_app (cs := cs) (show q1 < c.length by omega)).2] at this
      exact this)⟩
theorem xg_xls {b : Nat → Int} {L n k j : Nat} {σ0 σ : ev_S} {c : List (Int × Int)} {W : Nat → Int} {B : Nat → Nat} (h : xg b L n σ0 c k W B σ j) : xls b L n σ c σ j := ⟨h.1, frR_rf, ⟨rfl, rfl, rfl, rfl⟩, h.2.2.2.2.1, h.2.2.2.2.2.1⟩
theorem xg_of {b : Nat → Int} {L n k j j' : Nat} {σ0 σ σ' : ev_S} {c cs : List (Int × Int)} {W : Nat → Int} {B : Nat → Nat} (h : xg b L n σ0 c k W B σ j) (hB : ∀ i, i ≤ k → B i ≤ c.length) (g : xls b L n σ (c ++ cs) σ' j') : xg b L n σ0 (c ++ cs) k W B σ' j' := by
  obtain ⟨h1, h2, h3, h4, h5, h6, h7, h8⟩ := h
  obtain ⟨g1, g2, ⟨g3, g4, g5, g6⟩, g7, g8⟩ := g
  exact ⟨g1, frR_tr h2 g2, by rw [g3]; exact h3, by rw [g4]; exact h4, g7, g8, by rw [g6]; exact h7, fun i hi => by rw [g5, csz_app (hB i hi)]; exact h8 i hi⟩
theorem mg_mz {b : Nat → Int} {L k j : Nat} {s0 s : ev_S} {c : List (Int × Int)} {W : Nat → Int} {B : Nat → Nat} (h : mg b L s0 c k W B s j) (e : s 0 34 = 0) : mz b L s c [] 0 s j := ⟨h.1, frW_rf, fun _ _ => rfl, fun _ _ _ _ _ => rfl, h.2.2.1, h.2.2.2.1, h.2.2.2.2.1, e, trivial⟩
theorem mg_of {b : Nat → Int} {L k j j' : Nat} {s0 s s' : ev_S} {c c' : List (Int × Int)} {W : Nat → Int} {B : Nat → Nat} (h : mg b L s0 c k W B s j) (g : mz b L s c' [] 0 s' j') : mg b L s0 c' k W B s' j' := by
  obtain ⟨h1, h2, h3, h4, h5, h6⟩ := h
  obtain ⟨g1, g2, g3, g4, g5, g6, g7, g8, g9⟩ := g
  exact ⟨g1, frW_tr h2 g2, g5, g6, g7, fun i hi => by rw [g4 12 (by omega) (by omega) (by omega) (by omega), g4 13 (by omega) (by omega) (by omega) (by omega), g4 14 (by omega) (by omega) (by omega) (by omega)]; exact h6 i hi⟩
theorem mg_rd {d L k j : Nat} {s0 s : ev_S} {b : Nat → Int} {c : List (Int × Int)} {W : Nat → Int} {B : Nat → Nat} {Q : Option ev_V → ev_S → Prop} (h : mg b L s0 c k W B s j) (hk : ∀ s', mg b L s0 c k W B s' (j + 1) → rdf s s' → Q none s') : Ev layM M_X12_reads (d + 2) 0 [(0, ev_r 0)] [] s Q := by
  refine sp_rd h.1 (fun s' y1 y2 => hk s' ?_ y2)
  obtain ⟨h1, h2, h3, h4, h5, h6⟩ := h
  exact ⟨y1, frW_tr h2 (frW_rd y2), by rw [y2.1 31 (by omega) (by omega) (by omega) (by omega)]; exact h3, by rw [y2.2 15 (by omega), y2.2 16 (by omega)]; exact h4, by rw [y2.1 32 (by omega) (by omega) (by omega) (by omega)]; exact h5, by rw [y2.2 12 (by omega), y2.2 13 (by omega), y2.2 14 (by omega)]; exact h6⟩
theorem mg_up {b : Nat → Int} {L k j a : Nat} {s0 s : ev_S} {c : List (Int × Int)} {W : Nat → Int} {B : Nat → Nat} {z : Int} (h : mg b L s0 c k W B s j) (ha : 12 ≤ a ∧ a ≤ 14) : mg b L s0 c k W B (ev_up s a (16 + k) z) j := by
  obtain ⟨h1, h2, h3, h4, h5, h6⟩ := h
  have hk : ∀ (q i : Nat), i < k → ev_up s a (16 + k) z q (16 + i) = s q (16 + i) := fun q i hi => ev_up_ne _ _ (by omega)
  exact ⟨AM_keep h1 (fun k _ _ => by rw [ev_upj _ _ (by omega)]) (ev_upj _ _ (by omega)) (ev_upj _ _ (by omega)), frW_upc h2 (by omega), by rw [ev_upj _ _ (by omega)]; exact h3, by rw [ev_upj _ _ (by omega), ev_upj _ _ (by omega)]; exact h4, by rw [ev_upj _ _ (by omega)]; exact h5, fun i hi => by rw [hk 12 i hi, hk 13 i hi, hk 14 i hi]; exact h6 i hi⟩
end
