/-! angels and their plans -/
def m_far (p q : Int) : Int := ((p % 8 - q % 8).natAbs + (p / 8 - q / 8).natAbs : Nat)
theorem m_far_rng {p q : Int} (hp : 0 ≤ p ∧ p < 64) (hq : 0 ≤ q ∧ q < 64) : 0 ≤ m_far p q ∧ m_far p q ≤ 14 := by
  unfold m_far; omega
def m_busy (a : Nat) (n : Int) (r : Nat → Int) : Nat → Int :=
  if 1 < n ∨ r (45 + a) = 0 then rup r (33 + a) (n - 1) else rup (rup (rup r (33 + a) (n - 1)) (27 + a) (r (45 + a) - 1)) (45 + a) 0
def m_orders (T : ev_S) (N NO a : Nat) : Nat → (Nat → Int) × (Nat → Int) → (Nat → Int) × (Nat → Int)
  | 0, z => z
  | m + 1, z =>
    if z.1 (39 + a) < T 27 a then
      if T 25 (40 * a + (z.1 (39 + a)).toNat) = 5 then
        if m_far (z.1 (27 + a)) (T 26 (40 * a + (z.1 (39 + a)).toNat)) * T 5 a = 0 then m_orders T N NO a m (rup z.1 (39 + a) (z.1 (39 + a) + 1), z.2)
        else (m_busy a (m_far (z.1 (27 + a)) (T 26 (40 * a + (z.1 (39 + a)).toNat)) * T 5 a) (rup (rup z.1 (39 + a) (z.1 (39 + a) + 1)) (45 + a) (T 26 (40 * a + (z.1 (39 + a)).toNat) + 1)), z.2)
      else if T 25 (40 * a + (z.1 (39 + a)).toNat) = 6 then (m_busy a (T 26 (40 * a + (z.1 (39 + a)).toNat)) (rup z.1 (39 + a) (z.1 (39 + a) + 1)), z.2)
      else m_does T N NO a (T 25 (40 * a + (z.1 (39 + a)).toNat)).toNat (rup z.1 (39 + a) (z.1 (39 + a) + 1), z.2)
    else z
def m_angel (T : ev_S) (N NO a : Nat) (z : (Nat → Int) × (Nat → Int)) : (Nat → Int) × (Nat → Int) :=
  if 0 < z.1 (33 + a) then (m_busy a (z.1 (33 + a)) z.1, z.2) else m_orders T N NO a 41 z
/-- what is told, in order -/
def m_pok (T : ev_S) (a : Nat) : Prop := (1 ≤ T 5 a ∧ T 5 a ≤ 9) ∧ (0 ≤ T 27 a ∧ T 27 a ≤ 40) ∧ ∀ i : Nat, (i : Int) < T 27 a → (0 ≤ T 25 (40 * a + i) ∧ T 25 (40 * a + i) ≤ 6) ∧ (T 25 (40 * a + i) = 5 → m_pl T (T 26 (40 * a + i))) ∧ (T 25 (40 * a + i) = 6 → 1 ≤ T 26 (40 * a + i) ∧ T 26 (40 * a + i) ≤ 60)
def m_tok (T : ev_S) (N A NO MI : Nat) : Prop :=
  m_dim T ∧ (T 0 10 = (N : Int) ∧ N ≤ 8) ∧ (T 0 11 = (A : Int) ∧ A ≤ 6) ∧ (T 0 12 = (NO : Int) ∧ NO ≤ 6) ∧ (T 0 46 = (MI : Int) ∧ MI ≤ 10) ∧ (-3 ≤ T 0 8 ∧ T 0 8 ≤ 6) ∧ (∀ k, k < 5 → 0 ≤ T 4 k ∧ T 4 k ≤ 9) ∧ (∀ a, a < A → m_pok T a) ∧ (∀ i, i < MI → m_mok T i) ∧ m_lok T
def m_aok (T : ev_S) (r : Nat → Int) (a : Nat) : Prop :=
  m_pl T (r (27 + a)) ∧ (0 ≤ r (33 + a) ∧ r (33 + a) ≤ 1000) ∧ (0 ≤ r (39 + a) ∧ r (39 + a) ≤ T 27 a) ∧ (r (33 + a) = 0 → r (45 + a) = 0) ∧ (r (45 + a) ≠ 0 → m_pl T (r (45 + a) - 1)) ∧ (0 ≤ r (51 + a) ∧ r (51 + a) ≤ r 0)
def m_rok (T : ev_S) (N A : Nat) (z : (Nat → Int) × (Nat → Int)) : Prop :=
  (0 ≤ z.1 0 ∧ z.1 0 ≤ 600) ∧ (0 ≤ z.1 2 ∧ z.1 2 ≤ 100) ∧ (∀ w, w < N → m_wok T z.1 w ∧ z.1 (11 + w) ≤ 99) ∧ (∀ a, a < A → m_aok T z.1 a) ∧ m_rise z.2 (z.1 2).toNat ∧ ∀ l, l < (z.1 2).toNat → z.2 (5 * l) ≤ z.1 0
/-- the same while a second is under way: one who has done something may be one ahead -/
def m_aokD (T : ev_S) (r : Nat → Int) (a D : Nat) : Prop :=
  m_pl T (r (27 + a)) ∧ (0 ≤ r (33 + a) ∧ r (33 + a) ≤ 1000) ∧ (0 ≤ r (39 + a) ∧ r (39 + a) ≤ T 27 a) ∧ (r (33 + a) = 0 → r (45 + a) = 0) ∧ (r (45 + a) ≠ 0 → m_pl T (r (45 + a) - 1)) ∧ (0 ≤ r (51 + a) ∧ r (51 + a) ≤ r 0 + (D : Int))
/-- angels below k have gone on in this second -/
def m_mid (T : ev_S) (N A k : Nat) (z : (Nat → Int) × (Nat → Int)) : Prop :=
  (0 ≤ z.1 0 ∧ z.1 0 ≤ 599) ∧ (0 ≤ z.1 2 ∧ z.1 2 ≤ 100) ∧ (∀ w, w < N → m_wok T z.1 w ∧ z.1 (11 + w) ≤ 99) ∧ (∀ a, a < A → m_aokD T z.1 a (if a < k then 1 else 0)) ∧ m_rise z.2 (z.1 2).toNat ∧ ∀ l, l < (z.1 2).toNat → z.2 (5 * l) ≤ z.1 0
theorem m_busy_at {a : Nat} {n : Int} {r : Nat → Int} {i : Nat} (h1 : i ≠ 33 + a) (h2 : i ≠ 27 + a) (h3 : i ≠ 45 + a) : m_busy a n r i = r i := by
  unfold m_busy
  split
  · rw [rup_ne _ _ h1]
  · rw [rup_ne _ _ h3, rup_ne _ _ h2, rup_ne _ _ h1]
theorem m_busy_ok {T : ev_S} {a D : Nat} {n : Int} {r : Nat → Int} (ha : a < 6) (hn : 1 ≤ n ∧ n ≤ 1000) (hp : m_pl T (r (27 + a))) (ho : 0 ≤ r (39 + a) ∧ r (39 + a) ≤ T 27 a) (hg : r (45 + a) ≠ 0 → m_pl T (r (45 + a) - 1)) (hd : 0 ≤ r (51 + a) ∧ r (51 + a) ≤ r 0 + (D : Int)) : m_aokD T (m_busy a n r) a D := by
  by_cases c : 1 < n ∨ r (45 + a) = 0
  · have e : m_busy a n r = rup r (33 + a) (n - 1) := by unfold m_busy; rw [if_pos c]
    rw [e]
    refine ⟨?_, ?_, ?_, ?_, ?_, ?_⟩
    · rw [rup_ne _ _ (by omega)]; exact hp
    · rw [rup_same]; omega
    · rw [rup_ne _ _ (by omega)]; exact ho
    · rw [rup_same, rup_ne _ _ (by omega)]; intro q; omega
    · rw [rup_ne _ _ (by omega)]; exact hg
    · rw [rup_ne _ _ (by omega), rup_ne _ _ (by omega)]; exact hd
  · have e : m_busy a n r = rup (rup (rup r (33 + a) (n - 1)) (27 + a) (r (45 + a) - 1)) (45 + a) 0 := by unfold m_busy; rw [if_neg c]
    rw [e]
    refine ⟨?_, ?_, ?_, ?_, ?_, ?_⟩
    · rw [rup_ne _ _ (by omega), rup_same]; exact hg (by omega)
    · rw [rup_ne _ _ (by omega), rup_ne _ _ (by omega), rup_same]; omega
    · rw [rup_ne _ _ (by omega), rup_ne _ _ (by omega), rup_ne _ _ (by omega)]; exact ho
    · intro _; rw [rup_same]
    · rw [rup_same]; intro q; exact absurd rfl q
    · rw [rup_ne _ _ (by omega), rup_ne _ _ (by omega), rup_ne _ _ (by omega), rup_ne _ _ (by omega), rup_ne _ _ (by omega), rup_ne _ _ (by omega)]; exact hd
theorem m_aokD_cong {T : ev_S} {r r' : Nat → Int} {a D : Nat} (h : m_aokD T r a D) (e0 : r' 0 = r 0) (e27 : r' (27 + a) = r (27 + a)) (e33 : r' (33 + a) = r (33 + a)) (e39 : r' (39 + a) = r (39 + a)) (e45 : r' (45 + a) = r (45 + a)) (e51 : r' (51 + a) = r (51 + a)) : m_aokD T r' a D := by
  unfold m_aokD; rw [e0, e27, e33, e39, e45, e51]; exact h
theorem m_wok_cong {T : ev_S} {r r' : Nat → Int} {w : Nat} (h : m_wok T r w) (e3 : r' (3 + w) = r (3 + w)) (e11 : r' (11 + w) = r (11 + w)) (e19 : r' (19 + w) = r (19 + w)) : m_wok T r' w := by
  unfold m_wok; rw [e3, e11, e19]; exact h
theorem m_aokD_up {T : ev_S} {r : Nat → Int} {a D : Nat} (h : m_aokD T r a 0) : m_aokD T r a D := by
  obtain ⟨h1, h2, h3, h4, h5, h6, h7⟩ := h
  exact ⟨h1, h2, h3, h4, h5, h6, by omega⟩
theorem m_hold_st {T : ev_S} {kind : Nat} {p : Int} {r : Nat → Int} {w : Nat} (hpa : 0 ≤ T 4 kind) (h : 0 ≤ r (11 + w) ∧ r (11 + w) ≤ 99) : ∀ n, 0 ≤ m_hold T kind p r n (11 + w) ∧ m_hold T kind p r n (11 + w) ≤ 99
  | 0 => h
  | n + 1 => by
    simp only [m_hold]
    split
    · by_cases e : w = n
      · subst e; rw [rup_same]; omega
      · rw [rup_ne _ _ (by omega)]; exact m_hold_st hpa h n
    · exact m_hold_st hpa h n
theorem m_does_at {T : ev_S} {N NO a kind : Nat} {z : (Nat → Int) × (Nat → Int)} {i : Nat} (hN : N ≤ 8) (h2 : i ≠ 2) (h51 : i ≠ 51 + a) (h11 : i < 11 ∨ 19 ≤ i) : (m_does T N NO a kind z).1 i = z.1 i := by
  simp only [m_does]
  split
  · dsimp only
    split
    · rw [m_hold_at _ _ (by omega), rup_ne _ _ h51]
    · rw [rup_ne _ _ h51]
  · show rup _ 2 _ i = _
    rw [rup_ne _ _ h2]
    split
    · rw [m_hold_at _ _ (by omega), rup_ne _ _ h51]
    · rw [rup_ne _ _ h51]
theorem m_does_51 {T : ev_S} {N NO a kind : Nat} {z : (Nat → Int) × (Nat → Int)} (hN : N ≤ 8) : (m_does T N NO a kind z).1 (51 + a) = z.1 (51 + a) + 1 := by
  simp only [m_does]
  split
  · dsimp only
    split
    · rw [m_hold_at _ _ (by omega), rup_same]
    · rw [rup_same]
  · show rup _ 2 _ (51 + a) = _
    rw [rup_ne _ _ (by omega)]
    split
    · rw [m_hold_at _ _ (by omega), rup_same]
    · rw [rup_same]
theorem m_does_st {T : ev_S} {N NO a kind w : Nat} {z : (Nat → Int) × (Nat → Int)} (hw : w < 8) (hpa : 0 ≤ T 4 kind) (h : 0 ≤ z.1 (11 + w) ∧ z.1 (11 + w) ≤ 99) : 0 ≤ (m_does T N NO a kind z).1 (11 + w) ∧ (m_does T N NO a kind z).1 (11 + w) ≤ 99 := by
  have h' : 0 ≤ rup z.1 (51 + a) (z.1 (51 + a) + 1) (11 + w) ∧ rup z.1 (51 + a) (z.1 (51 + a) + 1) (11 + w) ≤ 99 := by rw [rup_ne _ _ (by omega)]; exact h
  simp only [m_does]
  split
  · split
    · exact m_hold_st hpa h' N
    · exact h'
  · show 0 ≤ rup _ 2 _ (11 + w) ∧ rup _ 2 _ (11 + w) ≤ 99
    rw [rup_ne _ _ (by omega)]
    split
    · exact m_hold_st hpa h' N
    · exact h'
theorem m_does_2 {T : ev_S} {N NO a kind : Nat} {z : (Nat → Int) × (Nat → Int)} (hN : N ≤ 8) : (z.1 2 = 100 ∧ (m_does T N NO a kind z).1 2 = 100 ∧ (m_does T N NO a kind z).2 = z.2) ∨ (z.1 2 ≠ 100 ∧ (m_does T N NO a kind z).1 2 = z.1 2 + 1 ∧ (m_does T N NO a kind z).2 = m_bup z.2 (z.1 2).toNat (z.1 0) (a : Int) (kind : Int) (z.1 (27 + a)) (if m_works T z.1 N NO a (kind : Int) then 1 else 0)) := by
  by_cases c : z.1 2 = 100
  · left
    refine ⟨c, ?_, ?_⟩
    · simp only [m_does]
      rw [if_pos c]
      dsimp only
      split
      · rw [m_hold_at _ _ (by omega), rup_ne _ _ (by omega)]; exact c
      · rw [rup_ne _ _ (by omega)]; exact c
    · simp only [m_does]; rw [if_pos c]
  · right
    refine ⟨c, ?_, ?_⟩
    · simp only [m_does]; rw [if_neg c]; dsimp only; exact rup_same _ _ _
    · simp only [m_does]; rw [if_neg c]
theorem m_bup_0 {B : Nat → Int} {n l : Nat} {sec a kind p wk : Int} : m_bup B n sec a kind p wk (5 * l) = if l = n then sec else B (5 * l) := by
  simp only [m_bup, rup]
  by_cases e : l = n
  · subst e; simp
  · rw [if_neg e, if_neg (by omega), if_neg (by omega), if_neg (by omega), if_neg (by omega), if_neg (by omega)]
theorem m_does_mid {T : ev_S} {N A NO MI a kind : Nat} {z : (Nat → Int) × (Nat → Int)} (hT : m_tok T N A NO MI) (ha : a < A) (hk : kind < 5) (h : m_mid T N A a z) : m_mid T N A (a + 1) (m_does T N NO a kind z) := by
  obtain ⟨h0, h2, hw, haa, hr, hs⟩ := h
  obtain ⟨-, ⟨-, hN8⟩, ⟨-, hA6⟩, -, -, -, hpa, -⟩ := hT
  have e0 : (m_does T N NO a kind z).1 0 = z.1 0 := m_does_at hN8 (by omega) (by omega) (by omega)
  refine ⟨by rw [e0]; exact h0, ?_, ?_, ?_, ?_, ?_⟩
  · rcases m_does_2 (T := T) (NO := NO) (a := a) (kind := kind) (z := z) hN8 with ⟨q1, q2, -⟩ | ⟨q1, q2, -⟩ <;> rw [q2] <;> omega
  · intro w hw8
    obtain ⟨⟨g1, g2, g3, g4, g5, g6⟩, g7⟩ := hw w hw8
    have st := m_does_st (T := T) (N := N) (NO := NO) (a := a) (kind := kind) (z := z) (w := w) (by omega) (hpa kind hk).1 ⟨g2, g7⟩
    refine ⟨⟨?_, st.1, by omega, ?_, ?_, g6⟩, st.2⟩
    · rw [m_does_at hN8 (by omega) (by omega) (by omega)]; exact g1
    · rw [m_does_at hN8 (by omega) (by omega) (by omega)]; exact g4
    · rw [m_does_at hN8 (by omega) (by omega) (by omega)]; exact g5
  · intro b hb
    have hab := haa b hb
    by_cases e : b = a
    · subst e
      rw [if_neg (by omega)] at hab
      rw [if_pos (by omega)]
      obtain ⟨g1, g2, g3, g4, g5, g6, g7⟩ := hab
      refine ⟨?_, ?_, ?_, ?_, ?_, ?_⟩
      · rw [m_does_at hN8 (by omega) (by omega) (by omega)]; exact g1
      · rw [m_does_at hN8 (by omega) (by omega) (by omega)]; exact g2
      · rw [m_does_at hN8 (by omega) (by omega) (by omega)]; exact g3
      · rw [m_does_at hN8 (by omega) (by omega) (by omega), m_does_at hN8 (by omega) (by omega) (by omega)]; exact g4
      · rw [m_does_at hN8 (by omega) (by omega) (by omega)]; exact g5
      · rw [m_does_51 hN8, e0]; omega
    · have e2 : (if b < a + 1 then 1 else 0) = (if b < a then 1 else 0) := by split <;> split <;> omega
      rw [e2]
      exact m_aokD_cong hab e0 (m_does_at hN8 (by omega) (by omega) (by omega)) (m_does_at hN8 (by omega) (by omega) (by omega)) (m_does_at hN8 (by omega) (by omega) (by omega)) (m_does_at hN8 (by omega) (by omega) (by omega)) (m_does_at hN8 (by omega) (by omega) (by omega))
  · rcases m_does_2 (T := T) (NO := NO) (a := a) (kind := kind) (z := z) hN8 with ⟨q1, q2, q3⟩ | ⟨q1, q2, q3⟩
    · rw [q2, q3, ← q1]; exact hr
    · rw [q2, q3]
      intro i j hij hj
      rw [m_bup_0, m_bup_0]
      by_cases ej : j = (z.1 2).toNat
      · rw [if_pos ej]
        split
        · omega
        · exact hs i (by omega)
      · rw [if_neg ej, if_neg (by omega)]
        exact hr i j hij (by omega)
  · rcases m_does_2 (T := T) (NO := NO) (a := a) (kind := kind) (z := z) hN8 with ⟨q1, q2, q3⟩ | ⟨q1, q2, q3⟩
    · rw [q2, q3, e0, ← q1]; exact hs
    · rw [q2, q3, e0]
      intro l hl
      rw [m_bup_0]
      split
      · omega
      · exact hs l (by omega)
