/-! THE MODEL: wards that go on, who is where, which mishap comes -/
theorem tn_lit (n w : Nat) : Int.toNat ((no_index (OfNat.ofNat n) : Int) + (w : Int)) = (OfNat.ofNat n : Nat) + w := by
  show Int.toNat ((n : Int) + (w : Int)) = n + w
  omega
theorem tn_lit2 (n w : Nat) : Int.toNat ((w : Int) + (no_index (OfNat.ofNat n) : Int)) = w + (OfNat.ofNat n : Nat) := by
  show Int.toNat ((w : Int) + (n : Int)) = w + n
  omega
theorem tn_mul (n w : Nat) : Int.toNat ((no_index (OfNat.ofNat n) : Int) * (w : Int)) = (OfNat.ofNat n : Nat) * w := by
  show Int.toNat ((n : Int) * (w : Int)) = n * w
  rw [← Int.natCast_mul]; exact Int.toNat_natCast _
theorem tn_z (z : Int) (n : Nat) (h : z = (n : Int)) : Int.toNat z = n := by omega
def m_dx (way : Int) : Int := if way = 2 then 1 else if way = 4 then -1 else 0
def m_dy (way : Int) : Int := if way = 1 then -1 else if way = 3 then 1 else 0
def m_step (T : ev_S) (p way : Int) : Int :=
  if 0 ≤ p % 8 + m_dx way ∧ p % 8 + m_dx way ≤ T 0 6 + 7 ∧ 0 ≤ p / 8 + m_dy way ∧ p / 8 + m_dy way ≤ T 0 7 + 7
  then 8 * (p / 8 + m_dy way) + (p % 8 + m_dx way) else p
theorem sp_stepFrom {d : Nat} {s : ev_S} {Q : Option ev_V → ev_S → Prop} {p way : Int} (hp : 0 ≤ p ∧ p < 64) (hw : -8 ≤ s 0 6 ∧ s 0 6 ≤ 0) (hh : -8 ≤ s 0 7 ∧ s 0 7 ≤ 0) (h : Q (some (ev_i (m_step s p way))) s) : Ev layM M_X12_stepFrom (d + 1) 0 [(0, ev_r 0), (1, ev_i p), (2, ev_i way)] [] s Q := by
  have e8 : ev_rem p 8 = p % 8 := ev_rem_eq ⟨hp.1, by omega⟩ ⟨by omega, by omega⟩
  have e9 : ev_div p 8 = p / 8 := ev_div_eq ⟨hp.1, by omega⟩ ⟨by omega, by omega⟩
  have tail : ∀ dx dy : Int, -1 ≤ dx → dx ≤ 1 → -1 ≤ dy → dy ≤ 1 → dx = m_dx way → dy = m_dy way → Ev layM M_X12_stepFrom (d + 1) 48 [(0, ev_r 0), (1, ev_i p), (3, ev_i (p % 8 + dx))] [ev_i dy, ev_i (p / 8)] s Q := by
    intro dx dy h1 h2 h3 h4 ex ey
    refine wp_X12_stepFrom_48 ?_
    simp (disch := omega) only [ev_add_eq, ev_mul_eq]
    unfold m_step at h
    rw [← ex, ← ey] at h
    refine sp_isIn (ev_pi_mk ?_)
    by_cases c1 : 0 ≤ p % 8 + dx ∧ p % 8 + dx ≤ s 0 6 + 7
    · rw [if_pos c1]
      refine ⟨fun c => absurd c (by omega), fun _ => sp_isIn (ev_pi_mk ?_)⟩
      rw [ev_add_eq (x := s 0 7) ⟨by omega, by omega⟩]
      by_cases c2 : 0 ≤ p / 8 + dy ∧ p / 8 + dy ≤ s 0 7 + 7
      · rw [if_pos c2]
        refine ⟨fun c => absurd c (by omega), fun _ => ?_⟩
        rw [if_pos ⟨c1.1, c1.2, c2.1, c2.2⟩] at h
        exact h
      · rw [if_neg c2]
        refine ⟨fun _ => ?_, fun c => absurd rfl c⟩
        rw [if_neg (fun q => c2 ⟨q.2.2.1, q.2.2.2⟩)] at h
        exact h
    · rw [if_neg c1]
      refine ⟨fun _ => ?_, fun c => absurd rfl c⟩
      rw [if_neg (fun q => c1 ⟨q.1, q.2.1⟩)] at h
      exact h
  have mid : ∀ dx : Int, -1 ≤ dx → dx ≤ 1 → dx = m_dx way → Ev layM M_X12_stepFrom (d + 1) 23 [(0, ev_r 0), (1, ev_i p), (2, ev_i way)] [ev_i dx, ev_i (p % 8)] s Q := by
    intro dx h1 h2 ex
    refine wp_X12_stepFrom_23 ?_
    simp (disch := omega) only [ev_add_eq, e9]
    refine ⟨fun c => ⟨fun c2 => tail dx 0 h1 h2 (by omega) (by omega) ex (by simp [m_dx, m_dy, c, c2]), fun c2 => tail dx 1 h1 h2 (by omega) (by omega) ex (by simp [m_dx, m_dy, c2])⟩, fun c => tail dx (-1) h1 h2 (by omega) (by omega) ex (by simp [m_dx, m_dy, c])⟩
  refine wp_X12_stepFrom_0 ?_
  rw [e8]
  exact ⟨fun c => ⟨fun c2 => mid 0 (by omega) (by omega) (by simp [m_dx, m_dy, c, c2]), fun c2 => mid (-1) (by omega) (by omega) (by simp [m_dx, m_dy, c2])⟩, fun c => mid 1 (by omega) (by omega) (by simp [m_dx, m_dy, c])⟩
def m_ward (T : ev_S) (w : Nat) (r : Nat → Int) : Nat → Int :=
  if 0 < r (11 + w) then rup r (11 + w) (r (11 + w) - 1)
  else if r (19 + w) < T 21 w then rup (rup r (3 + w) (m_step T (r (3 + w)) (T 20 (600 * w + (r (19 + w)).toNat)))) (19 + w) (r (19 + w) + 1)
  else r
theorem sp_wardGoesOn {d : Nat} {s : ev_S} {Q : Option ev_V → ev_S → Prop} {w : Nat} (hw : w < 8) (hs : s 1 (11 + w) ≤ 1000) (hst : 0 ≤ s 1 (19 + w)) (hl : s 21 w ≤ 600) (hp : 0 ≤ s 1 (3 + w) ∧ s 1 (3 + w) < 64) (hx : -8 ≤ s 0 6 ∧ s 0 6 ≤ 0) (hy : -8 ≤ s 0 7 ∧ s 0 7 ≤ 0) (h : Q none (ev_set s 1 (m_ward s w (s 1)))) : Ev layM M_X12_wardGoesOn (d + 2) 0 [(0, ev_r 0), (1, ev_i (w : Int))] [] s Q := by
  refine wp_X12_wardGoesOn_0 ?_
  simp (disch := omega) only [ev_add_eq, ev_mul_eq, tn_lit, Int.toNat_natCast]
  unfold m_ward at h
  refine ⟨by omega, fun c => ⟨by omega, by omega, fun c2 => ?_, fun c2 => ⟨by omega, by omega, ?_⟩⟩, fun c => ⟨by omega, by omega, ?_⟩⟩
  · rw [if_neg (by omega), if_neg (by omega), ev_set_self] at h
    exact h
  · rw [if_neg (by omega), if_pos c2] at h
    have e1 : ev_add (600 * (w : Int)) (s 1 (19 + w)) = 600 * (w : Int) + s 1 (19 + w) := ev_add_eq (by omega)
    have e2 : Int.toNat (600 * (w : Int) + s 1 (19 + w)) = 600 * w + (s 1 (19 + w)).toNat := by omega
    rw [e1, e2]
    refine ⟨by omega, sp_stepFrom hp hx hy (ev_pi_mk ⟨by omega, ?_⟩)⟩
    rintro _ rfl
    refine ⟨by omega, by omega, ?_⟩
    rintro _ rfl
    rw [ev_up_set, ev_up_set, ev_set_set, ev_set_same, rup_ne _ _ (by omega), ev_add_eq ⟨by omega, by omega⟩]
    exact h
  · rintro _ rfl
    rw [ev_sub_eq ⟨by omega, by omega⟩, ev_up_set]
    rw [if_pos c] at h
    exact h

def m_wards (T : ev_S) (r : Nat → Int) : Nat → (Nat → Int)
  | 0 => r
  | n + 1 => m_ward T n (m_wards T r n)
theorem m_step_set (T : ev_S) (r : Nat → Int) (p way : Int) : m_step (ev_set T 1 r) p way = m_step T p way := by simp [m_step, ev_set]
theorem m_ward_set (T : ev_S) (r' : Nat → Int) (w : Nat) (r : Nat → Int) : m_ward (ev_set T 1 r') w r = m_ward T w r := by
  simp only [m_ward, m_step_set, ev_set_ne T r' (show (21 : Nat) ≠ 1 by omega), ev_set_ne T r' (show (20 : Nat) ≠ 1 by omega)]
/-- a place of the town -/
def m_pl (T : ev_S) (p : Int) : Prop := 0 ≤ p ∧ p % 8 < T 0 6 + 8 ∧ p / 8 < T 0 7 + 8
theorem m_pl_64 {T : ev_S} {p : Int} (hh : T 0 7 ≤ 0) (h : m_pl T p) : 0 ≤ p ∧ p < 64 := by
  obtain ⟨h1, h2, h3⟩ := h
  omega
theorem m_step_pl {T : ev_S} {p way : Int} (hx : T 0 6 ≤ 0) (h : m_pl T p) : m_pl T (m_step T p way) := by
  unfold m_step
  split
  · rename_i c
    obtain ⟨c1, c2, c3, c4⟩ := c
    generalize p % 8 + m_dx way = x at *
    generalize p / 8 + m_dy way = y at *
    exact ⟨by omega, by omega, by omega⟩
  · exact h
/-- what the wards' part of a row keeps to, for each of the first wards -/
def m_wok (T : ev_S) (r : Nat → Int) (w : Nat) : Prop := m_pl T (r (3 + w)) ∧ 0 ≤ r (11 + w) ∧ r (11 + w) ≤ 1000 ∧ 0 ≤ r (19 + w) ∧ r (19 + w) ≤ T 21 w ∧ T 21 w ≤ 600
def m_dim (T : ev_S) : Prop := (-6 ≤ T 0 6 ∧ T 0 6 ≤ 0) ∧ (-6 ≤ T 0 7 ∧ T 0 7 ≤ 0)
theorem m_ward_at {T : ev_S} {w : Nat} {r : Nat → Int} {i : Nat} (h1 : i ≠ 3 + w) (h2 : i ≠ 11 + w) (h3 : i ≠ 19 + w) : m_ward T w r i = r i := by
  unfold m_ward
  split
  · rw [rup_ne _ _ h2]
  · split
    · rw [rup_ne _ _ h3, rup_ne _ _ h1]
    · rfl
theorem m_ward_ok {T : ev_S} {w v : Nat} {r : Nat → Int} (hx : T 0 6 ≤ 0) (hw : w < 8) (hv : v < 8) (h : m_wok T r v) (hw2 : m_wok T r w) : m_wok T (m_ward T w r) v := by
  by_cases e : v = w
  · subst e
    obtain ⟨g1, g2, g3, g4, g5, g6⟩ := h
    unfold m_ward
    split
    · refine ⟨?_, ?_, ?_, ?_, ?_, g6⟩
      · rw [rup_ne _ _ (by omega)]; exact g1
      · rw [rup_same]; omega
      · rw [rup_same]; omega
      · rw [rup_ne _ _ (by omega)]; exact g4
      · rw [rup_ne _ _ (by omega)]; exact g5
    · split
      · refine ⟨?_, ?_, ?_, ?_, ?_, g6⟩
        · rw [rup_ne _ _ (by omega), rup_same]; exact m_step_pl hx g1
        · rw [rup_ne _ _ (by omega), rup_ne _ _ (by omega)]; exact g2
        · rw [rup_ne _ _ (by omega), rup_ne _ _ (by omega)]; exact g3
        · rw [rup_same]; omega
        · rw [rup_same]; omega
      · exact ⟨g1, g2, g3, g4, g5, g6⟩
  · unfold m_wok
    rw [m_ward_at (by omega) (by omega) (by omega), m_ward_at (by omega) (by omega) (by omega), m_ward_at (by omega) (by omega) (by omega)]
    exact h
theorem m_wards_ok {T : ev_S} {r : Nat → Int} {N : Nat} (hx : T 0 6 ≤ 0) (hN : N ≤ 8) (h : ∀ v, v < N → m_wok T r v) : ∀ n, n ≤ N → ∀ v, v < N → m_wok T (m_wards T r n) v
  | 0, _, v, hv => h v hv
  | n + 1, hn, v, hv => m_ward_ok hx (by omega) (by omega) (m_wards_ok hx hN h n (by omega) v hv) (m_wards_ok hx hN h n (by omega) n (by omega))
theorem sp_wardsGoOn {d N : Nat} {s : ev_S} {Q : Option ev_V → ev_S → Prop} (hN : s 0 10 = (N : Int)) (hN8 : N ≤ 8) (hd : m_dim s) (hok : ∀ v, v < N → m_wok s (s 1) v) (h : Q none (ev_set s 1 (m_wards s (s 1) N))) : Ev layM M_X12_wardsGoOn (d + 3) 0 [(0, ev_r 0)] [] s Q := by
  refine wp_X12_wardsGoOn_0 ?_
  have key : ∀ k i : Nat, i + k = N → Ev layM M_X12_wardsGoOn (d + 3) 2 [(0, ev_r 0), (1, ev_i (i : Int))] [] (ev_set s 1 (m_wards s (s 1) i)) Q := by
    intro k
    induction k with
    | zero =>
      intro i hi
      have : i = N := by omega
      subst this
      refine wp_X12_wardsGoOn_2 ⟨fun _ => h, fun c => absurd c ?_⟩
      rw [ev_set_ne _ _ (by omega), hN]; omega
    | succ k ih =>
      intro i hi
      refine wp_X12_wardsGoOn_2 ⟨fun c => absurd c ?_, fun c => ?_⟩
      · rw [ev_set_ne _ _ (by omega), hN]; omega
      · have ho := m_wards_ok hd.1.2 hN8 hok i (by omega) i (by omega)
        have hp := m_pl_64 hd.2.2 ho.1
        refine sp_wardGoesOn (by omega) ?_ ?_ ?_ ?_ ?_ ?_ ?_
        · rw [ev_set_same]; exact ho.2.2.1
        · rw [ev_set_same]; exact ho.2.2.2.1
        · rw [ev_set_ne _ _ (by omega)]; exact ho.2.2.2.2.2
        · rw [ev_set_same]; exact hp
        · rw [ev_set_ne _ _ (by omega)]; exact ⟨by have := hd.1.1; omega, hd.1.2⟩
        · rw [ev_set_ne _ _ (by omega)]; exact ⟨by have := hd.2.1; omega, hd.2.2⟩
        · rw [ev_set_set, ev_set_same, m_ward_set, ev_add_eq ⟨by omega, by omega⟩]
          exact ih (i + 1) (by omega)
  have k0 := key N 0 (by omega)
  rw [show m_wards s (s 1) 0 = s 1 from rfl, ev_set_self] at k0
  exact k0
/-! how many are at a place -/
def m_cnt (r : Nat → Int) (p : Int) : Nat → Nat
  | 0 => 0
  | n + 1 => m_cnt r p n + (if r (3 + n) = p then 1 else 0)
theorem m_cnt_le (r : Nat → Int) (p : Int) : ∀ n, m_cnt r p n ≤ n
  | 0 => Nat.le_refl 0
  | n + 1 => by have := m_cnt_le r p n; simp only [m_cnt]; split <;> omega
theorem sp_wardsAt {d N : Nat} {s : ev_S} {Q : Option ev_V → ev_S → Prop} {p : Int} (hN : s 0 10 = (N : Int)) (hN8 : N ≤ 8) (h : Q (some (ev_i (m_cnt (s 1) p N : Int))) s) : Ev layM M_X12_wardsAt d 0 [(0, ev_r 0), (1, ev_i p)] [] s Q := by
  refine wp_X12_wardsAt_0 ?_
  have key : ∀ k i : Nat, i + k = N → Ev layM M_X12_wardsAt d 4 [(0, ev_r 0), (1, ev_i p), (2, ev_i (m_cnt (s 1) p i : Int)), (3, ev_i (i : Int))] [] s Q := by
    intro k
    induction k with
    | zero =>
      intro i hi
      have : i = N := by omega
      subst this
      exact wp_X12_wardsAt_4 ⟨fun _ => h, fun c => absurd c (by omega)⟩
    | succ k ih =>
      intro i hi
      have hle := m_cnt_le (s 1) p i
      refine wp_X12_wardsAt_4 ⟨fun c => absurd c (by omega), fun c => ?_⟩
      simp (disch := omega) only [ev_add_eq, tn_lit]
      have i2 := ih (i + 1) (by omega)
      refine ⟨by omega, fun c2 => ?_, fun c2 => ?_⟩
      · simp only [m_cnt, if_neg c2, Nat.add_zero] at i2
        exact i2
      · simp only [m_cnt, if_pos c2] at i2
        exact i2
  exact key N 0 (by omega)
theorem sp_ofMishap {d i k : Nat} {s : ev_S} {Q : Option ev_V → ev_S → Prop} (hi : i < 10) (hk : k < 7) (h : Q (some (ev_i (s 24 (7 * i + k)))) s) : Ev layM M_X12_ofMishap d 0 [(0, ev_r 0), (1, ev_i (i : Int)), (2, ev_i (k : Int))] [] s Q := by
  refine wp_X12_ofMishap_0 ?_
  rw [ev_mul_eq ⟨by omega, by omega⟩, ev_add_eq ⟨by omega, by omega⟩, show Int.toNat (7 * (i : Int) + (k : Int)) = 7 * i + k by omega]
  exact ⟨by omega, h⟩
def m_comes (T : ev_S) (N : Nat) (r : Nat → Int) (i : Nat) : Bool :=
  decide (r (57 + i) = 0 ∧ T 24 (7 * i + 2) ≤ r 0 ∧ r 0 ≤ T 24 (7 * i + 3) ∧ (if T 24 (7 * i + 4) = -1 then 0 < m_cnt r (T 24 (7 * i + 1)) N else r (3 + (T 24 (7 * i + 4)).toNat) = T 24 (7 * i + 1)))
theorem sp_doesCome {d N i : Nat} {s : ev_S} {Q : Option ev_V → ev_S → Prop} (hN : s 0 10 = (N : Int)) (hN8 : N ≤ 8) (hi : i < 10) (hw : -1 ≤ s 24 (7 * i + 4) ∧ s 24 (7 * i + 4) < 8) (h : Q (some (ev_i (if m_comes s N (s 1) i then 1 else 0))) s) : Ev layM M_X12_doesCome (d + 1) 0 [(0, ev_r 0), (1, ev_i (i : Int))] [] s Q := by
  refine wp_X12_doesCome_0 ?_
  simp (disch := omega) only [ev_add_eq, tn_lit]
  refine ⟨by omega, fun c => ?_, fun c => ?_⟩
  · rw [show m_comes s N (s 1) i = false from decide_eq_false (fun q => c q.1)] at h
    exact h
  · refine sp_ofMishap (k := 2) hi (by omega) (ev_pi_mk (sp_ofMishap (k := 3) hi (by omega) (ev_pi_mk (sp_isIn (ev_pi_mk ?_)))))
    by_cases c2 : s 24 (7 * i + 2) ≤ s 1 0 ∧ s 1 0 ≤ s 24 (7 * i + 3)
    · rw [if_pos c2]
      refine ⟨fun _ => sp_ofMishap (k := 4) hi (by omega) (ev_pi_mk ⟨fun c3 => ?_, fun c3 => ?_⟩), fun c3 => absurd c3 (by omega)⟩
      · rw [ev_add_eq ⟨by omega, by omega⟩, show Int.toNat (3 + s 24 (7 * i + 4)) = 3 + (s 24 (7 * i + 4)).toNat by omega]
        refine ⟨by omega, sp_ofMishap (k := 1) hi (by omega) (ev_pi_mk ⟨fun c4 => ?_, fun c4 => ?_⟩)⟩
        · rw [show m_comes s N (s 1) i = false from decide_eq_false (fun q => c4 (by have := q.2.2.2; rwa [if_neg c3] at this))] at h
          exact h
        · rw [show m_comes s N (s 1) i = true from decide_eq_true ⟨c, c2.1, c2.2, by rw [if_neg c3]; exact c4⟩] at h
          exact h
      · refine sp_ofMishap (k := 1) hi (by omega) (ev_pi_mk (sp_wardsAt hN hN8 (ev_pi_mk ⟨fun c4 => ?_, fun c4 => ?_⟩)))
        · rw [show m_comes s N (s 1) i = false from decide_eq_false (fun q => by have := q.2.2.2; rw [if_pos c3] at this; omega)] at h
          exact h
        · rw [show m_comes s N (s 1) i = true from decide_eq_true ⟨c, c2.1, c2.2, by rw [if_pos c3]; omega⟩] at h
          exact h
    · rw [if_neg c2]
      refine ⟨fun c3 => absurd rfl c3, fun _ => ?_⟩
      rw [show m_comes s N (s 1) i = false from decide_eq_false (fun q => c2 ⟨q.2.1, q.2.2.1⟩)] at h
      exact h
