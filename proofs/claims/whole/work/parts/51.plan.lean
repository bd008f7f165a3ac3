/-! PLANNED: seconds in thought -/
theorem m_orders_at {T : ev_S} {N NO a j : Nat} (hN : N ≤ 8) (ha : a < 6) (hj : j = 0 ∨ j = 1 ∨ 57 ≤ j) : ∀ m z, (m_orders T N NO a m z).1 j = z.1 j
  | 0, _ => rfl
  | m + 1, z => by
    simp only [m_orders]
    split
    · split
      · split
        · rw [m_orders_at hN ha hj m]; exact rup_ne _ _ (by omega)
        · show m_busy _ _ _ j = _
          rw [m_busy_at (by omega) (by omega) (by omega), rup_ne _ _ (by omega), rup_ne _ _ (by omega)]
      · split
        · show m_busy _ _ _ j = _
          rw [m_busy_at (by omega) (by omega) (by omega), rup_ne _ _ (by omega)]
        · rw [m_does_at hN (by omega) (by omega) (by omega)]; exact rup_ne _ _ (by omega)
    · rfl
theorem m_angel_at {T : ev_S} {N NO a j : Nat} {z : (Nat → Int) × (Nat → Int)} (hN : N ≤ 8) (ha : a < 6) (hj : j = 0 ∨ j = 1 ∨ 57 ≤ j) : (m_angel T N NO a z).1 j = z.1 j := by
  unfold m_angel
  split
  · exact m_busy_at (by omega) (by omega) (by omega)
  · exact m_orders_at hN ha hj 41 z
theorem m_angels_at {T : ev_S} {N NO j : Nat} {z : (Nat → Int) × (Nat → Int)} (hN : N ≤ 8) (hj : j = 0 ∨ j = 1 ∨ 57 ≤ j) : ∀ n, n ≤ 6 → (m_angels T N NO z n).1 j = z.1 j
  | 0, _ => rfl
  | n + 1, hn => by simp only [m_angels]; rw [m_angel_at hN (by omega) hj]; exact m_angels_at hN hj n (by omega)
theorem m_mis_over {T : ev_S} {N i : Nat} {th : Bool} {B r : Nat → Int} (hi : i < 10) (h : r (57 + i) = 0 → T 24 (7 * i + 3) < r 0) : ∀ n, n ≤ 10 → (m_mis T N th B r n).1 (57 + i) = r (57 + i)
  | 0, _ => rfl
  | n + 1, hn => by
    have ih := m_mis_over (N := N) (th := th) (B := B) hi h n (by omega)
    simp only [m_mis]
    split
    · rename_i c
      by_cases e : n = i
      · subst e
        rw [m_comes_late (by rw [ih, m_mis_at n 0 (by omega) (by omega)]; exact h)] at c
        simp at c
      · show m_come T B th n _ (57 + i) = _
        rw [m_come_at (by omega) (by omega) (by omega) (by omega)]; exact ih
    · exact ih
theorem m_sec_0 {T : ev_S} {N A NO MI : Nat} {th : Bool} {z : (Nat → Int) × (Nat → Int)} (hN : N ≤ 8) (hA : A ≤ 6) : (m_sec T N A NO MI th z).1.1 0 = z.1 0 + 1 := by
  simp only [m_sec]
  rw [rup_same, m_angels_at hN (by omega) A hA]
theorem m_sec_over {T : ev_S} {N A NO MI i : Nat} {th : Bool} {z : (Nat → Int) × (Nat → Int)} (hN : N ≤ 8) (hA : A ≤ 6) (hM : MI ≤ 10) (hi : i < 10) (h : z.1 (57 + i) = 0 → T 24 (7 * i + 3) < z.1 0) : (m_sec T N A NO MI th z).1.1 (57 + i) = z.1 (57 + i) := by
  simp only [m_sec]
  rw [rup_ne _ _ (by omega), m_mis_over hi ?_ MI hM, m_wards_at N hN _ (by omega), m_angels_at hN (by omega) A hA]
  rw [m_wards_at N hN _ (by omega), m_wards_at N hN 0 (by omega), m_angels_at hN (by omega) A hA, m_angels_at hN (by omega) A hA]
  exact h
theorem m_mis_87 {T : ev_S} {N j : Nat} {th : Bool} {B r : Nat → Int} (hj : 87 ≤ j) : ∀ n, n ≤ 10 → (m_mis T N th B r n).1 j = r j
  | 0, _ => rfl
  | n + 1, hn => by
    simp only [m_mis]
    split
    · show m_come T B th n _ j = _
      rw [m_come_at (by omega) (by omega) (by omega) (by omega)]; exact m_mis_87 hj n (by omega)
    · exact m_mis_87 hj n (by omega)
theorem m_sec_87 {T : ev_S} {N A NO MI j : Nat} {th : Bool} {z : (Nat → Int) × (Nat → Int)} (hN : N ≤ 8) (hA : A ≤ 6) (hM : MI ≤ 10) (hj : 87 ≤ j) : (m_sec T N A NO MI th z).1.1 j = z.1 j := by
  simp only [m_sec]
  rw [rup_ne _ _ (by omega), m_mis_87 hj MI hM, m_wards_at N hN _ (by omega), m_angels_at hN (by omega) A hA]
/-- the book: what stands stays -/
def bk (B B' : Nat → Int) (n : Nat) : Prop := ∀ i, i < 5 * n → B' i = B i
theorem m_does_bk {T : ev_S} {N NO a kind : Nat} {z : (Nat → Int) × (Nat → Int)} (hN : N ≤ 8) (h0 : 0 ≤ z.1 2) : bk z.2 (m_does T N NO a kind z).2 (z.1 2).toNat ∧ z.1 2 ≤ (m_does T N NO a kind z).1 2 := by
  rcases m_does_2 (T := T) (NO := NO) (a := a) (kind := kind) (z := z) hN with ⟨q1, q2, q3⟩ | ⟨q1, q2, q3⟩
  · rw [q2, q3]; exact ⟨fun _ _ => rfl, by omega⟩
  · rw [q2, q3]
    refine ⟨fun i hi => ?_, by omega⟩
    simp only [m_bup]
    rw [rup_ne _ _ (by omega), rup_ne _ _ (by omega), rup_ne _ _ (by omega), rup_ne _ _ (by omega), rup_ne _ _ (by omega)]
theorem m_orders_bk {T : ev_S} {N NO a : Nat} (hN : N ≤ 8) (ha : a < 6) : ∀ m (z : (Nat → Int) × (Nat → Int)), 0 ≤ z.1 2 → bk z.2 (m_orders T N NO a m z).2 (z.1 2).toNat ∧ z.1 2 ≤ (m_orders T N NO a m z).1 2
  | 0, z, _ => ⟨fun _ _ => rfl, Int.le_refl _⟩
  | m + 1, z, h0 => by
    have r2 : ∀ v, rup z.1 (39 + a) v 2 = z.1 2 := fun v => rup_ne _ _ (by omega)
    simp only [m_orders]
    split
    · split
      · split
        · have := m_orders_bk (T := T) (NO := NO) hN ha m (rup z.1 (39 + a) (z.1 (39 + a) + 1), z.2) (by show 0 ≤ rup _ _ _ 2; rw [r2]; exact h0)
          simp only [r2] at this
          exact this
        · refine ⟨fun _ _ => rfl, ?_⟩
          show z.1 2 ≤ m_busy _ _ _ 2
          rw [m_busy_2, rup_ne _ _ (by omega), r2]
          exact Int.le_refl _
      · split
        · refine ⟨fun _ _ => rfl, ?_⟩
          show z.1 2 ≤ m_busy _ _ _ 2
          rw [m_busy_2, r2]
          exact Int.le_refl _
        · have := m_does_bk (T := T) (NO := NO) (a := a) (kind := (T 25 (40 * a + (z.1 (39 + a)).toNat)).toNat) (z := (rup z.1 (39 + a) (z.1 (39 + a) + 1), z.2)) hN (by show 0 ≤ rup _ _ _ 2; rw [r2]; exact h0)
          simp only [r2] at this
          exact this
    · exact ⟨fun _ _ => rfl, Int.le_refl _⟩
theorem m_angel_bk {T : ev_S} {N NO a : Nat} {z : (Nat → Int) × (Nat → Int)} (hN : N ≤ 8) (ha : a < 6) (h0 : 0 ≤ z.1 2) : bk z.2 (m_angel T N NO a z).2 (z.1 2).toNat ∧ z.1 2 ≤ (m_angel T N NO a z).1 2 := by
  unfold m_angel
  split
  · refine ⟨fun _ _ => rfl, ?_⟩
    show z.1 2 ≤ m_busy _ _ _ 2
    rw [m_busy_2]; exact Int.le_refl _
  · exact m_orders_bk hN ha 41 z h0
theorem bk_tr {B B' B'' : Nat → Int} {n m : Nat} (h : bk B B' n) (h2 : bk B' B'' m) (hm : n ≤ m) : bk B B'' n := fun i hi => by rw [h2 i (by omega)]; exact h i hi
theorem m_angels_bk {T : ev_S} {N NO : Nat} {z : (Nat → Int) × (Nat → Int)} (hN : N ≤ 8) (h0 : 0 ≤ z.1 2) : ∀ n, n ≤ 6 → bk z.2 (m_angels T N NO z n).2 (z.1 2).toNat ∧ z.1 2 ≤ (m_angels T N NO z n).1 2
  | 0, _ => ⟨fun _ _ => rfl, Int.le_refl _⟩
  | n + 1, hn => by
    obtain ⟨i1, i2⟩ := m_angels_bk (T := T) (NO := NO) hN h0 n (by omega)
    obtain ⟨j1, j2⟩ := m_angel_bk (T := T) (NO := NO) (a := n) (z := m_angels T N NO z n) hN (by omega) (by omega)
    simp only [m_angels]
    exact ⟨bk_tr i1 j1 (by omega), by omega⟩
theorem m_sec_bk {T : ev_S} {N A NO MI : Nat} {th : Bool} {z : (Nat → Int) × (Nat → Int)} (hN : N ≤ 8) (hA : A ≤ 6) (h0 : 0 ≤ z.1 2) : bk z.2 (m_sec T N A NO MI th z).1.2 (z.1 2).toNat ∧ z.1 2 ≤ (m_sec T N A NO MI th z).1.1 2 := by
  obtain ⟨i1, i2⟩ := m_angels_bk (T := T) (NO := NO) hN h0 A hA
  simp only [m_sec]
  refine ⟨i1, ?_⟩
  rw [rup_ne _ _ (by omega), m_mis_at _ _ (by omega) (by omega), m_wards_at N hN 2 (by omega)]
  exact i2
def m_plan (T : ev_S) (N A NO MI : Nat) (z : (Nat → Int) × (Nat → Int)) : Nat → (Nat → Int) × (Nat → Int)
  | 0 => z
  | n + 1 => (m_sec T N A NO MI true (m_plan T N A NO MI z n)).1
theorem m_plan_ok {T : ev_S} {N A NO MI : Nat} {z : (Nat → Int) × (Nat → Int)} (hT : m_tok T N A NO MI) (h : m_rok T N A z) : ∀ n : Nat, (n : Int) ≤ 600 - z.1 0 → m_rok T N A (m_plan T N A NO MI z n) ∧ (m_plan T N A NO MI z n).1 0 = z.1 0 + (n : Int)
  | 0, _ => ⟨h, by simp [m_plan]⟩
  | n + 1, hn => by
    obtain ⟨i1, i2⟩ := m_plan_ok hT h n (by omega)
    simp only [m_plan]
    refine ⟨m_sec_ok hT i1 (by omega), ?_⟩
    rw [m_sec_0 hT.2.1.2 hT.2.2.1.2, i2]; omega
theorem m_plan_bk {T : ev_S} {N A NO MI : Nat} {z : (Nat → Int) × (Nat → Int)} (hN : N ≤ 8) (hA : A ≤ 6) (h0 : 0 ≤ z.1 2) : ∀ n : Nat, bk z.2 (m_plan T N A NO MI z n).2 (z.1 2).toNat ∧ z.1 2 ≤ (m_plan T N A NO MI z n).1 2
  | 0 => ⟨fun _ _ => rfl, Int.le_refl _⟩
  | n + 1 => by
    obtain ⟨i1, i2⟩ := m_plan_bk (T := T) (NO := NO) (MI := MI) hN hA h0 n
    obtain ⟨j1, j2⟩ := m_sec_bk (T := T) (NO := NO) (MI := MI) (th := true) (z := m_plan T N A NO MI z n) hN hA (by omega)
    simp only [m_plan]
    exact ⟨bk_tr i1 j1 (by omega), by omega⟩
theorem m_plan_87 {T : ev_S} {N A NO MI j : Nat} {z : (Nat → Int) × (Nat → Int)} (hN : N ≤ 8) (hA : A ≤ 6) (hM : MI ≤ 10) (hj : 87 ≤ j) : ∀ n : Nat, (m_plan T N A NO MI z n).1 j = z.1 j
  | 0 => rfl
  | n + 1 => by simp only [m_plan]; rw [m_sec_87 hN hA hM hj]; exact m_plan_87 hN hA hM hj n
/-- behind the last second nothing becomes over that wasn't -/
theorem m_plan_stop {T : ev_S} {N A NO MI i n : Nat} {z : (Nat → Int) × (Nat → Int)} (hT : m_tok T N A NO MI) (h : m_rok T N A z) (hi : i < MI) (hn : m_lastS T z.1 MI < z.1 0 + (n : Int)) (hz : z.1 (57 + i) = 0) : ∀ m : Nat, ((n + m : Nat) : Int) ≤ 600 - z.1 0 → (m_plan T N A NO MI z (n + m)).1 (57 + i) = (m_plan T N A NO MI z n).1 (57 + i)
  | 0, _ => rfl
  | m + 1, hm => by
    have ih := m_plan_stop hT h hi hn hz m (by omega)
    have i2 := (m_plan_ok hT h (n + m) (by omega)).2
    have hge := m_lastS_ge (T := T) hi hz
    have hM := hT.2.2.2.2.1.2
    show (m_sec T N A NO MI true (m_plan T N A NO MI z (n + m))).1.1 (57 + i) = _
    rw [m_sec_over hT.2.1.2 hT.2.2.1.2 hM (by omega) (fun _ => by rw [i2]; omega)]
    exact ih
/-- what the plans leave: the risk, and how many are averted -/
def m_leave (T : ev_S) (r ρ : Nat → Int) : Nat → Int × Int
  | 0 => (0, 0)
  | n + 1 => if r (57 + n) = 0 then (if ρ (57 + n) = 1 then ((m_leave T r ρ n).1, (m_leave T r ρ n).2 + 1) else if ρ (57 + n) = 2 then ((m_leave T r ρ n).1 + T 24 (7 * n) * T 24 (7 * n + 6), (m_leave T r ρ n).2) else m_leave T r ρ n) else m_leave T r ρ n
theorem m_leave_cong {T : ev_S} {r ρ ρ' : Nat → Int} : ∀ {n : Nat}, (∀ i, i < n → r (57 + i) = 0 → ρ' (57 + i) = ρ (57 + i)) → m_leave T r ρ' n = m_leave T r ρ n
  | 0, _ => rfl
  | n + 1, h => by
    have ih := m_leave_cong (T := T) (r := r) (ρ := ρ) (ρ' := ρ') (n := n) (fun i hi => h i (by omega))
    simp only [m_leave]
    by_cases c : r (57 + n) = 0
    · rw [if_pos c, if_pos c, ih, h n (by omega) c]
    · rw [if_neg c, if_neg c, ih]
theorem m_risk_rng {T : ev_S} {i : Nat} (h : m_mok T i) : 1 ≤ T 24 (7 * i) * T 24 (7 * i + 6) ∧ T 24 (7 * i) * T 24 (7 * i + 6) ≤ 9900 := by
  obtain ⟨⟨a1, a2⟩, -, -, -, -, ⟨b1, b2⟩⟩ := h
  have h1 : 1 * 1 ≤ T 24 (7 * i) * T 24 (7 * i + 6) := Int.mul_le_mul a1 b1 (by omega) (by omega)
  have h2 : T 24 (7 * i) * T 24 (7 * i + 6) ≤ 99 * 100 := Int.mul_le_mul a2 b2 (by omega) (by omega)
  omega
theorem m_leave_rng {T : ev_S} {r ρ : Nat → Int} : ∀ {n : Nat}, (∀ i, i < n → m_mok T i) → (0 ≤ (m_leave T r ρ n).1 ∧ (m_leave T r ρ n).1 ≤ 9900 * (n : Int)) ∧ (0 ≤ (m_leave T r ρ n).2 ∧ (m_leave T r ρ n).2 ≤ (n : Int))
  | 0, _ => by simp [m_leave]
  | n + 1, h => by
    have ih := m_leave_rng (T := T) (r := r) (ρ := ρ) (n := n) (fun i hi => h i (by omega))
    have hr := m_risk_rng (h n (by omega))
    simp only [m_leave]
    split
    · split
      · dsimp only; omega
      · split
        · dsimp only; omega
        · omega
    · omega
