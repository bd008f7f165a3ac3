/-! A SECOND -/
theorem m_busy_2 {a : Nat} {n : Int} {r : Nat → Int} : m_busy a n r 2 = r 2 := m_busy_at (by omega) (by omega) (by omega)
/-- a row that differs for one angel alone -/
theorem m_mid_one {T : ev_S} {N A a : Nat} {r r' B : Nat → Int} (ha : a < 6) (hA : A ≤ 6) (h : m_mid T N A a (r, B)) (hr : ∀ i, i ≠ 27 + a → i ≠ 33 + a → i ≠ 39 + a → i ≠ 45 + a → i ≠ 51 + a → r' i = r i) (hok : m_aokD T r' a 1) (hN : N ≤ 8) : m_mid T N A (a + 1) (r', B) := by
  obtain ⟨h0, h2, hw, haa, hrise, hsecs⟩ := h
  simp only at h0 h2
  have e0 : r' 0 = r 0 := hr 0 (by omega) (by omega) (by omega) (by omega) (by omega)
  have e2 : r' 2 = r 2 := hr 2 (by omega) (by omega) (by omega) (by omega) (by omega)
  refine ⟨?_, ?_, ?_, ?_, ?_, ?_⟩
  · show 0 ≤ r' 0 ∧ r' 0 ≤ 599; rw [e0]; exact h0
  · show 0 ≤ r' 2 ∧ r' 2 ≤ 100; rw [e2]; exact h2
  · intro w hw8
    obtain ⟨gw, gw7⟩ := hw w hw8
    refine ⟨m_wok_cong gw (hr _ (by omega) (by omega) (by omega) (by omega) (by omega)) (hr _ (by omega) (by omega) (by omega) (by omega) (by omega)) (hr _ (by omega) (by omega) (by omega) (by omega) (by omega)), ?_⟩
    show r' (11 + w) ≤ 99
    rw [hr _ (by omega) (by omega) (by omega) (by omega) (by omega)]; exact gw7
  · intro b hb
    by_cases e : b = a
    · subst e; rw [if_pos (by omega)]; exact hok
    · have e9 : (if b < a + 1 then 1 else 0) = (if b < a then 1 else 0) := by split <;> split <;> omega
      rw [e9]
      exact m_aokD_cong (haa b hb) e0 (hr _ (by omega) (by omega) (by omega) (by omega) (by omega)) (hr _ (by omega) (by omega) (by omega) (by omega) (by omega)) (hr _ (by omega) (by omega) (by omega) (by omega) (by omega)) (hr _ (by omega) (by omega) (by omega) (by omega) (by omega)) (hr _ (by omega) (by omega) (by omega) (by omega) (by omega))
  · show m_rise B (r' 2).toNat; rw [e2]; exact hrise
  · show ∀ l, l < (r' 2).toNat → B (5 * l) ≤ r' 0; rw [e2, e0]; exact hsecs
theorem m_mid_up {T : ev_S} {N A a : Nat} {z : (Nat → Int) × (Nat → Int)} (h : m_mid T N A a z) : m_mid T N A (a + 1) z := by
  obtain ⟨h0, h2, hw, haa, hrise, hsecs⟩ := h
  refine ⟨h0, h2, hw, fun b hb => ?_, hrise, hsecs⟩
  have hab := haa b hb
  by_cases e : b < a
  · rw [if_pos e] at hab; rw [if_pos (by omega)]; exact hab
  · rw [if_neg e] at hab; exact m_aokD_up hab
theorem m_ord_mid {T : ev_S} {N A NO MI a : Nat} {r B : Nat → Int} {o : Nat} (hT : m_tok T N A NO MI) (ha : a < A) (h : m_mid T N A a (r, B)) (ho : r (39 + a) = (o : Int)) (hlt : (o : Int) < T 27 a) : m_mid T N A a (rup r (39 + a) ((o : Int) + 1), B) := by
  have hA6 : A ≤ 6 := hT.2.2.1.2
  obtain ⟨h0, h2, hw, haa, hrise, hsecs⟩ := h
  have hab := haa a ha
  rw [if_neg (by omega)] at hab
  obtain ⟨g1, g2, g3, g4, g5, g6, g7⟩ := hab
  have hN8 := hT.2.1.2
  simp only at h0 h2 g1 g2 g3 g4 g5 g6 g7
  refine ⟨?_, ?_, ?_, ?_, ?_, ?_⟩
  · show 0 ≤ rup _ _ _ 0 ∧ rup _ _ _ 0 ≤ 599
    rw [rup_ne _ _ (by omega)]; exact h0
  · show 0 ≤ rup _ _ _ 2 ∧ rup _ _ _ 2 ≤ 100
    rw [rup_ne _ _ (by omega)]; exact h2
  · intro w hw8
    obtain ⟨gw, gw7⟩ := hw w hw8
    refine ⟨m_wok_cong gw (rup_ne _ _ (by omega)) (rup_ne _ _ (by omega)) (rup_ne _ _ (by omega)), ?_⟩
    show rup _ _ _ (11 + w) ≤ 99
    rw [rup_ne _ _ (by omega)]; exact gw7
  · intro b hb8
    have hbb := haa b hb8
    by_cases eb : b = a
    · subst eb
      rw [if_neg (by omega)]
      refine ⟨?_, ?_, ?_, ?_, ?_, ?_⟩
      · show m_pl T (rup _ _ _ (27 + b)); rw [rup_ne _ _ (by omega)]; exact g1
      · show 0 ≤ rup _ _ _ (33 + b) ∧ rup _ _ _ (33 + b) ≤ 1000; rw [rup_ne _ _ (by omega)]; exact g2
      · show 0 ≤ rup _ _ _ (39 + b) ∧ rup _ _ _ (39 + b) ≤ T 27 b; rw [rup_same]; omega
      · show rup _ _ _ (33 + b) = 0 → rup _ _ _ (45 + b) = 0; rw [rup_ne _ _ (by omega), rup_ne _ _ (by omega)]; exact g4
      · show rup _ _ _ (45 + b) ≠ 0 → m_pl T (rup _ _ _ (45 + b) - 1); rw [rup_ne _ _ (by omega)]; exact g5
      · show 0 ≤ rup _ _ _ (51 + b) ∧ rup _ _ _ (51 + b) ≤ rup _ _ _ 0 + ((0 : Nat) : Int); rw [rup_ne _ _ (by omega), rup_ne _ _ (by omega)]; exact ⟨g6, g7⟩
    · exact m_aokD_cong hbb (rup_ne _ _ (by omega)) (rup_ne _ _ (by omega)) (rup_ne _ _ (by omega)) (rup_ne _ _ (by omega)) (rup_ne _ _ (by omega)) (rup_ne _ _ (by omega))
  · show m_rise B (rup _ _ _ 2).toNat
    rw [rup_ne _ _ (by omega)]; exact hrise
  · show ∀ l, l < (rup _ _ _ 2).toNat → B (5 * l) ≤ rup _ _ _ 0
    rw [rup_ne _ _ (by omega), rup_ne _ _ (by omega)]; exact hsecs
theorem m_orders_mid {T : ev_S} {N A NO MI a : Nat} (hT : m_tok T N A NO MI) (ha : a < A) : ∀ (m : Nat) (r B : Nat → Int), m_mid T N A a (r, B) → m_mid T N A (a + 1) (m_orders T N NO a m (r, B))
  | 0, r, B, h => m_mid_up h
  | m + 1, r, B, h => by
    have hdim := hT.1
    have hN8 := hT.2.1.2
    have hA6 : A ≤ 6 := hT.2.2.1.2
    obtain ⟨⟨hpace1, hpace2⟩, ⟨hl1, hl2⟩, hplan⟩ := hT.2.2.2.2.2.2.2.1 a ha
    have hab := h.2.2.2.1 a ha
    rw [if_neg (by omega)] at hab
    obtain ⟨g1, g2, g3, g4, g5, g6⟩ := hab
    simp only at g1 g2 g3 g4 g5 g6
    simp only [m_orders]
    by_cases c : r (39 + a) < T 27 a
    · rw [if_pos c]
      obtain ⟨o, ho⟩ := Int.eq_ofNat_of_zero_le g3.1
      obtain ⟨⟨k1, k2⟩, k3, k4⟩ := hplan o (by omega)
      have ho2 : (r (39 + a)).toNat = o := by omega
      rw [ho2, ho]
      have hm1 := m_ord_mid hT ha h ho (by omega)
      have h1 : ∀ i, i ≠ 39 + a → rup r (39 + a) ((o : Int) + 1) i = r i := fun i hi => rup_ne _ _ hi
      by_cases c5 : T 25 (40 * a + o) = 5
      · rw [if_pos c5]
        have g64 := m_pl_64 hdim.2.2 g1
        have q64 := m_pl_64 hdim.2.2 (k3 c5)
        have hfar := m_far_rng g64 q64
        have hb1 : 0 ≤ m_far (r (27 + a)) (T 26 (40 * a + o)) * T 5 a := Int.mul_nonneg hfar.1 (by omega)
        have hb2 : m_far (r (27 + a)) (T 26 (40 * a + o)) * T 5 a ≤ 14 * 9 := Int.mul_le_mul hfar.2 hpace2 (by omega) (by omega)
        by_cases c7 : m_far (r (27 + a)) (T 26 (40 * a + o)) * T 5 a = 0
        · rw [if_pos c7]; exact m_orders_mid hT ha m _ B hm1
        · rw [if_neg c7]
          refine m_mid_one (by omega) hA6 h (fun i i1 i2 i3 i4 i5 => ?_) ?_ hN8
          · rw [m_busy_at i2 i1 i4, rup_ne _ _ i4, rup_ne _ _ i3]
          · refine m_busy_ok (by omega) (by omega) ?_ ?_ ?_ ?_
            · rw [rup_ne _ _ (by omega), rup_ne _ _ (by omega)]; exact g1
            · rw [rup_ne _ _ (by omega), rup_same]; omega
            · intro _
              rw [rup_same, show T 26 (40 * a + o) + 1 - 1 = T 26 (40 * a + o) by omega]; exact k3 c5
            · rw [rup_ne _ _ (by omega), rup_ne _ _ (by omega), rup_ne _ _ (by omega), rup_ne _ _ (by omega)]; omega
      · rw [if_neg c5]
        by_cases c6 : T 25 (40 * a + o) = 6
        · rw [if_pos c6]
          obtain ⟨w1, w2⟩ := k4 c6
          refine m_mid_one (by omega) hA6 h (fun i i1 i2 i3 i4 i5 => ?_) ?_ hN8
          · rw [m_busy_at i2 i1 i4, rup_ne _ _ i3]
          · refine m_busy_ok (by omega) (by omega) ?_ ?_ ?_ ?_
            · rw [rup_ne _ _ (by omega)]; exact g1
            · rw [rup_same]; omega
            · rw [rup_ne _ _ (by omega)]; exact g5
            · rw [rup_ne _ _ (by omega), rup_ne _ _ (by omega)]; omega
        · rw [if_neg c6]
          exact m_does_mid hT ha (by omega) hm1
    · rw [if_neg c]; exact m_mid_up h
theorem m_angel_mid {T : ev_S} {N A NO MI a : Nat} {z : (Nat → Int) × (Nat → Int)} (hT : m_tok T N A NO MI) (ha : a < A) (h : m_mid T N A a z) : m_mid T N A (a + 1) (m_angel T N NO a z) := by
  obtain ⟨r, B⟩ := z
  have hA6 : A ≤ 6 := hT.2.2.1.2
  unfold m_angel
  by_cases c : 0 < r (33 + a)
  · simp only; rw [if_pos c]
    have hab := h.2.2.2.1 a ha
    rw [if_neg (by omega)] at hab
    obtain ⟨g1, g2, g3, g4, g5, g6⟩ := hab
    simp only at g1 g2 g3 g4 g5 g6
    refine m_mid_one (by omega) hA6 h (fun i i1 i2 i3 i4 i5 => m_busy_at i2 i1 i4) ?_ hT.2.1.2
    exact m_busy_ok (by omega) (by omega) g1 g3 g5 (by omega)
  · simp only; rw [if_neg c]; exact m_orders_mid hT ha 41 r B h
def m_angels (T : ev_S) (N NO : Nat) (z : (Nat → Int) × (Nat → Int)) : Nat → (Nat → Int) × (Nat → Int)
  | 0 => z
  | n + 1 => m_angel T N NO n (m_angels T N NO z n)
theorem m_angels_mid {T : ev_S} {N A NO MI : Nat} {z : (Nat → Int) × (Nat → Int)} (hT : m_tok T N A NO MI) (h : m_mid T N A 0 z) : ∀ n, n ≤ A → m_mid T N A n (m_angels T N NO z n)
  | 0, _ => h
  | n + 1, hn => m_angel_mid hT (by omega) (m_angels_mid hT h n (by omega))
def m_mis (T : ev_S) (N : Nat) (th : Bool) (B r : Nat → Int) : Nat → (Nat → Int) × Nat
  | 0 => (r, 0)
  | i + 1 => if m_comes T N (m_mis T N th B r i).1 i then (m_come T B th i (m_mis T N th B r i).1, (m_mis T N th B r i).2 + 1) else m_mis T N th B r i
theorem m_mis_at {T : ev_S} {N : Nat} {th : Bool} {B r : Nat → Int} : ∀ (n j : Nat), j ≠ 1 → j < 57 → (m_mis T N th B r n).1 j = r j
  | 0, _, _, _ => rfl
  | n + 1, j, h1, h57 => by
    simp only [m_mis]
    split
    · show m_come T B th n _ j = r j
      rw [m_come_at h1 (by omega) (by omega) (by omega)]; exact m_mis_at n j h1 h57
    · exact m_mis_at n j h1 h57
theorem m_mis_le {T : ev_S} {N : Nat} {th : Bool} {B r : Nat → Int} : ∀ n, (m_mis T N th B r n).2 ≤ n
  | 0 => Nat.le_refl 0
  | n + 1 => by
    simp only [m_mis]
    have := m_mis_le (T := T) (N := N) (th := th) (B := B) (r := r) n
    split
    · show (m_mis T N th B r n).2 + 1 ≤ n + 1; omega
    · omega
/-- a whole second: the row and the book behind it, and how many came -/
def m_sec (T : ev_S) (N A NO MI : Nat) (th : Bool) (z : (Nat → Int) × (Nat → Int)) : ((Nat → Int) × (Nat → Int)) × Nat :=
  ((rup (m_mis T N th (m_angels T N NO z A).2 (m_wards T (m_angels T N NO z A).1 N) MI).1 0 ((m_angels T N NO z A).1 0 + 1), (m_angels T N NO z A).2), (m_mis T N th (m_angels T N NO z A).2 (m_wards T (m_angels T N NO z A).1 N) MI).2)
theorem m_rok_mid {T : ev_S} {N A : Nat} {z : (Nat → Int) × (Nat → Int)} (h : m_rok T N A z) (h6 : z.1 0 ≤ 599) : m_mid T N A 0 z := by
  obtain ⟨h0, h2, hw, haa, hrise, hsecs⟩ := h
  refine ⟨⟨h0.1, h6⟩, h2, hw, fun b hb => ?_, hrise, hsecs⟩
  obtain ⟨g1, g2, g3, g4, g5, g6, g7⟩ := haa b hb
  rw [if_neg (by omega)]
  exact ⟨g1, g2, g3, g4, g5, g6, by omega⟩
theorem m_ward_st {T : ev_S} {w v : Nat} {r : Nat → Int} (hw : w < 8) (hv : v < 8) (h : 0 ≤ r (11 + v) ∧ r (11 + v) ≤ 99) : 0 ≤ m_ward T w r (11 + v) ∧ m_ward T w r (11 + v) ≤ 99 := by
  unfold m_ward
  split
  · by_cases e : v = w
    · subst e; rw [rup_same]; omega
    · rw [rup_ne _ _ (by omega)]; exact h
  · split
    · rw [rup_ne _ _ (by omega), rup_ne _ _ (by omega)]; exact h
    · exact h
theorem m_wards_st {T : ev_S} {r : Nat → Int} {v : Nat} (hv : v < 8) (h : 0 ≤ r (11 + v) ∧ r (11 + v) ≤ 99) : ∀ n, n ≤ 8 → 0 ≤ m_wards T r n (11 + v) ∧ m_wards T r n (11 + v) ≤ 99
  | 0, _ => h
  | n + 1, hn => m_ward_st (by omega) hv (m_wards_st hv h n (by omega))
theorem m_sec_ok {T : ev_S} {N A NO MI : Nat} {th : Bool} {z : (Nat → Int) × (Nat → Int)} (hT : m_tok T N A NO MI) (h : m_rok T N A z) (h6 : z.1 0 ≤ 599) : m_rok T N A (m_sec T N A NO MI th z).1 := by
  have hm := m_angels_mid (NO := NO) hT (m_rok_mid h h6) A (Nat.le_refl A)
  have hN8 := hT.2.1.2
  have hA6 : A ≤ 6 := hT.2.2.1.2
  simp only [m_sec]
  generalize m_angels T N NO z A = y at *
  obtain ⟨h0, h2, hw, haa, hrise, hsecs⟩ := hm
  have hwo := m_wards_ok hT.1.1.2 hN8 (fun v hv => (hw v hv).1) N (Nat.le_refl N)
  have at1 : ∀ j, j ≠ 0 → j ≠ 1 → j < 57 → rup (m_mis T N th y.2 (m_wards T y.1 N) MI).1 0 (y.1 0 + 1) j = m_wards T y.1 N j := fun j j0 j1 j57 => by rw [rup_ne _ _ j0, m_mis_at MI j j1 j57]
  have at2 : ∀ j, j ≠ 0 → j ≠ 1 → (j < 3 ∨ 27 ≤ j) → j < 57 → rup (m_mis T N th y.2 (m_wards T y.1 N) MI).1 0 (y.1 0 + 1) j = y.1 j := fun j j0 j1 j3 j57 => by rw [at1 j j0 j1 j57, m_wards_at N hN8 j j3]
  refine ⟨?_, ?_, ?_, ?_, ?_, ?_⟩
  · dsimp only; rw [rup_same]; omega
  · dsimp only
    rw [at2 2 (by omega) (by omega) (by omega) (by omega)]; exact h2
  · intro v hv
    refine ⟨m_wok_cong (hwo v hv) (at1 _ (by omega) (by omega) (by omega)) (at1 _ (by omega) (by omega) (by omega)) (at1 _ (by omega) (by omega) (by omega)), ?_⟩
    dsimp only
    rw [at1 _ (by omega) (by omega) (by omega)]
    exact (m_wards_st (by omega) ⟨(hw v hv).1.2.1, (hw v hv).2⟩ N hN8).2
  · intro b hb
    have hab := haa b hb
    rw [if_pos hb] at hab
    obtain ⟨g1, g2, g3, g4, g5, g6, g7⟩ := hab
    refine ⟨?_, ?_, ?_, ?_, ?_, ?_⟩
    · dsimp only; rw [at2 _ (by omega) (by omega) (by omega) (by omega)]; exact g1
    · dsimp only; rw [at2 _ (by omega) (by omega) (by omega) (by omega)]; exact g2
    · dsimp only; rw [at2 _ (by omega) (by omega) (by omega) (by omega)]; exact g3
    · dsimp only; rw [at2 _ (by omega) (by omega) (by omega) (by omega), at2 _ (by omega) (by omega) (by omega) (by omega)]; exact g4
    · dsimp only; rw [at2 _ (by omega) (by omega) (by omega) (by omega)]; exact g5
    · dsimp only; rw [at2 _ (by omega) (by omega) (by omega) (by omega), rup_same]; exact ⟨g6, by omega⟩
  · dsimp only
    rw [at2 2 (by omega) (by omega) (by omega) (by omega)]; exact hrise
  · dsimp only
    rw [at2 2 (by omega) (by omega) (by omega) (by omega), rup_same]
    intro l hl
    have := hsecs l hl
    omega
