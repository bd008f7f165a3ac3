/-! what comes, and what becomes of it: the model, then the class -/
def m_any (P : Nat → Bool) : Nat → Bool
  | 0 => false
  | n + 1 => m_any P n || P n
theorem m_any_cong {P R : Nat → Bool} : ∀ {n : Nat}, (∀ i, i < n → P i = R i) → m_any P n = m_any R n
  | 0, _ => rfl
  | n + 1, h => by simp only [m_any]; rw [m_any_cong (fun i hi => h i (by omega)), h n (by omega)]
theorem m_any_hit {P : Nat → Bool} {i : Nat} (hi : P i = true) : ∀ {n : Nat}, i < n → m_any P n = true
  | n + 1, h => by
    simp only [m_any]
    by_cases e : i = n
    · subst e; simp [hi]
    · rw [m_any_hit hi (by omega)]; rfl
theorem m_any_no {P : Nat → Bool} : ∀ {n : Nat}, (∀ i, i < n → P i = false) → m_any P n = false
  | 0, _ => rfl
  | n + 1, h => by simp only [m_any]; rw [m_any_no (fun i hi => h i (by omega)), h n (by omega)]; rfl
def m_last (P : Nat → Bool) : Nat → Int
  | 0 => -1
  | n + 1 => if P n then (n : Int) else m_last P n
theorem m_last_cong {P R : Nat → Bool} : ∀ {n : Nat}, (∀ i, i < n → P i = R i) → m_last P n = m_last R n
  | 0, _ => rfl
  | n + 1, h => by simp only [m_last]; rw [m_last_cong (fun i hi => h i (by omega)), h n (by omega)]
theorem m_last_rng (P : Nat → Bool) : ∀ n : Nat, -1 ≤ m_last P n ∧ m_last P n < n
  | 0 => by simp [m_last]
  | n + 1 => by have := m_last_rng P n; simp only [m_last]; split <;> omega
theorem m_last_no {P : Nat → Bool} : ∀ {n : Nat}, (∀ i, i < n → P i = false) → m_last P n = -1
  | 0, _ => rfl
  | n + 1, h => by simp only [m_last]; rw [h n (by omega), m_last_no (fun i hi => h i (by omega))]; simp
def m_spoilt (T : ev_S) (sec p : Int) (n : Nat) : Bool := m_any (fun i => decide (T 6 i = p ∧ T 7 i ≤ sec ∧ sec ≤ T 8 i)) n
theorem sp_isSpoilt {d N : Nat} {s : ev_S} {Q : Option ev_V → ev_S → Prop} {p : Int} (hN : s 0 12 = (N : Int)) (hN6 : N ≤ 6) (h : Q (some (ev_i (if m_spoilt s (s 1 0) p N then 1 else 0))) s) : Ev layM M_X12_isSpoilt (d + 1) 0 [(0, ev_r 0), (1, ev_i p)] [] s Q := by
  refine wp_X12_isSpoilt_0 ?_
  have key : ∀ k i : Nat, i + k = N → (∀ j, j < i → decide (s 6 j = p ∧ s 7 j ≤ s 1 0 ∧ s 1 0 ≤ s 8 j) = false) → Ev layM M_X12_isSpoilt (d + 1) 2 [(0, ev_r 0), (1, ev_i p), (2, ev_i (i : Int))] [] s Q := by
    intro k
    induction k with
    | zero =>
      intro i hi hno
      have : i = N := by omega
      subst this
      refine wp_X12_isSpoilt_2 ⟨fun _ => ?_, fun c => absurd c (by omega)⟩
      rw [show m_spoilt s (s 1 0) p i = false from m_any_no hno] at h
      exact h
    | succ k ih =>
      intro i hi hno
      have next : decide (s 6 i = p ∧ s 7 i ≤ s 1 0 ∧ s 1 0 ≤ s 8 i) = false → Ev layM M_X12_isSpoilt (d + 1) 2 [(0, ev_r 0), (1, ev_i p), (2, ev_i ((i : Int) + 1))] [] s Q := by
        intro hn
        exact ih (i + 1) (by omega) (fun j hj => by
          by_cases e : j = i
          · subst e; exact hn
          · exact hno j (by omega))
      refine wp_X12_isSpoilt_2 ⟨fun c => absurd c (by omega), fun c => ?_⟩
      rw [ev_add_eq (x := (i : Int)) (y := 1) ⟨by omega, by omega⟩, Int.toNat_natCast]
      refine ⟨by omega, fun c2 => next (decide_eq_false (fun q => c2 q.1)), fun c2 => ⟨by omega, by omega, sp_isIn (ev_pi_mk ?_)⟩⟩
      by_cases c3 : s 7 i ≤ s 1 0 ∧ s 1 0 ≤ s 8 i
      · rw [if_pos c3]
        refine ⟨fun c4 => absurd c4 (by omega), fun _ => ?_⟩
        rw [show m_spoilt s (s 1 0) p N = true from m_any_hit (i := i) (decide_eq_true ⟨c2, c3⟩) (by omega)] at h
        exact h
      · rw [if_neg c3]
        exact ⟨fun _ => next (decide_eq_false (fun q => c3 q.2)), fun c4 => absurd rfl c4⟩
  exact key N 0 (by omega) (fun j hj => by omega)
/-- does line l of a book keep mishap i off, at second sec -/
def m_keeps (T : ev_S) (B : Nat → Int) (sec : Int) (i l : Nat) : Bool :=
  decide (B (5 * l + 3) = T 24 (7 * i + 1) ∧ sec - (T 0 8 + 3) ≤ B (5 * l) ∧ B (5 * l + 4) = 1 ∧ (T 24 (7 * i + 5) = -1 ∨ B (5 * l + 2) = T 24 (7 * i + 5)))
def m_line (T : ev_S) (B : Nat → Int) (r : Nat → Int) (i : Nat) : Int := m_last (m_keeps T B (r 0) i) (r 2).toNat
theorem sp_lineThatAverts {d i N : Nat} {s : ev_S} {Q : Option ev_V → ev_S → Prop} (hi : i < 10) (hN : s 1 2 = (N : Int)) (hN2 : N ≤ 100) (hg : -3 ≤ s 0 8 ∧ s 0 8 ≤ 6) (hs : 0 ≤ s 1 0 ∧ s 1 0 ≤ 600) (h : Q (some (ev_i (m_line s (s 9) (s 1) i))) s) : Ev layM M_X12_lineThatAverts (d + 1) 0 [(0, ev_r 0), (1, ev_i (i : Int))] [] s Q := by
  refine wp_X12_lineThatAverts_0 (sp_ofMishap (k := 5) hi (by omega) (ev_pi_mk ?_))
  rw [hN, ev_sub_eq ⟨by omega, by omega⟩]
  have hl : m_line s (s 9) (s 1) i = m_last (m_keeps s (s 9) (s 1 0) i) N := by unfold m_line; rw [hN, Int.toNat_natCast]
  rw [hl] at h
  clear hl
  have key : ∀ n : Nat, n ≤ N → (Q (some (ev_i (m_last (m_keeps s (s 9) (s 1 0) i) n))) s) → Ev layM M_X12_lineThatAverts (d + 1) 16 [(0, ev_r 0), (1, ev_i (i : Int)), (2, ev_i (s 24 (7 * i + 5))), (3, ev_i ((n : Int) - 1))] [] s Q := by
    intro n
    induction n with
    | zero =>
      intro _ hq
      exact wp_X12_lineThatAverts_16 ⟨fun _ => hq, fun c => absurd c (by omega)⟩
    | succ n ih =>
      intro hn hq
      have e3 : ((n + 1 : Nat) : Int) - 1 = (n : Int) := by omega
      rw [e3]
      have next : m_keeps s (s 9) (s 1 0) i n = false → Ev layM M_X12_lineThatAverts (d + 1) 16 [(0, ev_r 0), (1, ev_i (i : Int)), (2, ev_i (s 24 (7 * i + 5))), (3, ev_i (ev_add (n : Int) (-1)))] [] s Q := by
        intro hk
        rw [ev_add_eq ⟨by omega, by omega⟩, show (n : Int) + -1 = (n : Int) - 1 by omega]
        exact ih (by omega) (by simp only [m_last, hk] at hq; simpa using hq)
      have hit : m_keeps s (s 9) (s 1 0) i n = true → Q (some (ev_i (n : Int))) s := by
        intro hk
        simp only [m_last, hk] at hq; simpa using hq
      have t2 : Int.toNat (5 * (n : Int) + 3) = 5 * n + 3 := by omega
      have t3 : Int.toNat (5 * (n : Int)) = 5 * n := by omega
      have t4 : Int.toNat (5 * (n : Int) + 4) = 5 * n + 4 := by omega
      have t5 : Int.toNat (5 * (n : Int) + 2) = 5 * n + 2 := by omega
      have m5 : ev_mul 5 (n : Int) = 5 * (n : Int) := ev_mul_eq ⟨by omega, by omega⟩
      have tl0 : m_keeps s (s 9) (s 1 0) i n = false → Ev layM M_X12_lineThatAverts (d + 1) 66 [(0, ev_r 0), (1, ev_i (i : Int)), (2, ev_i (s 24 (7 * i + 5))), (3, ev_i (n : Int))] [ev_i 0] s Q := fun hk => wp_X12_lineThatAverts_66 ⟨fun _ => next hk, fun c => absurd rfl c⟩
      refine wp_X12_lineThatAverts_16 ⟨fun c => absurd c (by omega), fun c => ?_⟩
      rw [m5, ev_add_eq (x := 5 * (n : Int)) (y := 3) ⟨by omega, by omega⟩, t2, t3]
      refine ⟨by omega, sp_ofMishap (k := 1) hi (by omega) (ev_pi_mk ⟨fun c2 => tl0 (decide_eq_false (fun q => c2 q.1)), fun c2 => ⟨by omega, wp_X12_guard_0 (ev_pi_mk ?_)⟩⟩)⟩
      rw [ev_add_eq (x := s 0 8) ⟨by omega, by omega⟩, ev_sub_eq ⟨by omega, by omega⟩]
      refine ⟨fun c3 => tl0 (decide_eq_false (fun q => absurd q.2.1 (by omega))), fun c3 => wp_X12_lineThatAverts_66 ⟨fun c4 => absurd c4 (by omega), fun _ => ?_⟩⟩
      rw [m5, ev_add_eq (x := 5 * (n : Int)) (y := 4) ⟨by omega, by omega⟩, t4, ev_add_eq (x := 5 * (n : Int)) (y := 2) ⟨by omega, by omega⟩, t5]
      refine ⟨by omega, fun c4 => next (decide_eq_false (fun q => c4 q.2.2.1)), fun c4 => ⟨fun c5 => hit (decide_eq_true ⟨c2, c3, c4, Or.inl c5⟩), fun c5 => ⟨by omega, fun c6 => next (decide_eq_false (fun q => q.2.2.2.elim c5 c6)), fun c6 => hit (decide_eq_true ⟨c2, c3, c4, Or.inr c6⟩)⟩⟩⟩
  exact key N (Nat.le_refl N) h
def m_next (z : Int) : Int := ev_add (ev_mul 1664525 z) 1013904223
def m_draw (z : Int) : Int := ev_rem (ev_ushr z 8) 100
/-- a mishap that comes: th, in thought -/
def m_come (T : ev_S) (B : Nat → Int) (th : Bool) (i : Nat) (r : Nat → Int) : Nat → Int :=
  if m_line T B r i ≠ -1 then rup (rup (rup r (67 + i) (r 0 + 1)) (77 + i) (m_line T B r i + 1)) (57 + i) 1
  else if th = true ∨ T 24 (7 * i + 6) = 100 then rup (rup (rup r (67 + i) (r 0 + 1)) (77 + i) (m_line T B r i + 1)) (57 + i) 2
  else rup (rup (rup (rup r (67 + i) (r 0 + 1)) (77 + i) (m_line T B r i + 1)) 1 (m_next (r 1))) (57 + i) (if m_draw (m_next (r 1)) < T 24 (7 * i + 6) then 2 else 3)
theorem sp_comes {d i N : Nat} {s : ev_S} {Q : Option ev_V → ev_S → Prop} (hi : i < 10) (hN : s 1 2 = (N : Int)) (hN2 : N ≤ 100) (hg : -3 ≤ s 0 8 ∧ s 0 8 ≤ 6) (hs : 0 ≤ s 1 0 ∧ s 1 0 ≤ 600) (h : Q none (ev_set s 1 (m_come s (s 9) (decide (s 0 5 ≠ 0)) i (s 1)))) : Ev layM M_X12_comes (d + 2) 0 [(0, ev_r 0), (1, ev_i (i : Int))] [] s Q := by
  have hlr := m_last_rng (m_keeps s (s 9) (s 1 0) i) (s 1 2).toNat
  have hlr2 : -1 ≤ m_line s (s 9) (s 1) i ∧ m_line s (s 9) (s 1) i < 100 := ⟨hlr.1, by have := hlr.2; unfold m_line; omega⟩
  refine wp_X12_comes_0 (sp_lineThatAverts hi hN hN2 hg hs (ev_pi_mk (sp_ofMishap (k := 6) hi (by omega) (ev_pi_mk ?_))))
  generalize hL : m_line s (s 9) (s 1) i = L at *
  simp (disch := omega) only [ev_add_eq, tn_lit]
  refine ⟨by omega, ?_⟩
  rintro _ rfl
  refine ⟨by omega, ?_⟩
  rintro _ rfl
  unfold m_come at h
  rw [hL] at h
  refine ⟨fun c => ⟨fun c2 => ⟨by omega, ?_⟩, fun c2 => ⟨fun c3 => ⟨by omega, ?_⟩, fun c3 => wp_X12_draw_0 ?_⟩⟩, fun c => ⟨by omega, ?_⟩⟩
  · rintro _ rfl
    have c2' : s 0 5 ≠ 0 := by rw [ev_up_ne _ _ (by omega), ev_up_ne _ _ (by omega)] at c2; exact c2
    rw [if_neg (by omega), if_pos (Or.inl (decide_eq_true c2'))] at h
    rw [ev_up_set, ev_up_set, ev_up_set, ev_set_set, ev_set_set, ev_set_same, ev_set_same]; exact h
  · rintro _ rfl
    rw [if_neg (by omega), if_pos (Or.inr c3)] at h
    rw [ev_up_set, ev_up_set, ev_up_set, ev_set_set, ev_set_set, ev_set_same, ev_set_same]; exact h
  · rintro _ rfl
    refine ⟨by omega, ev_pi_mk ?_⟩
    have c2' : s 0 5 = 0 := by rw [ev_up_ne _ _ (by omega), ev_up_ne _ _ (by omega)] at c2; exact c2
    rw [if_neg (by omega), if_neg (fun q => q.elim (fun q => absurd (of_decide_eq_true q) (fun n => n c2')) c3)] at h
    have e1 : ev_up (ev_up s 1 (67 + i) (s 1 0 + 1)) 1 (77 + i) (L + 1) 1 1 = s 1 1 := by rw [ev_up_ne _ _ (by omega), ev_up_ne _ _ (by omega)]
    rw [e1, ev_up_same]
    have hE : ∀ z : Int, ev_up (ev_up (ev_up (ev_up s 1 (67 + i) (s 1 0 + 1)) 1 (77 + i) (L + 1)) 1 1 (ev_add (ev_mul 1664525 (s 1 1)) 1013904223)) 1 (57 + i) z = ev_set s 1 (rup (rup (rup (rup (s 1) (67 + i) (s 1 0 + 1)) (77 + i) (L + 1)) 1 (m_next (s 1 1))) (57 + i) z) := by
      intro z
      rw [ev_up_set, ev_up_set, ev_up_set, ev_up_set, ev_set_set, ev_set_set, ev_set_set, ev_set_same, ev_set_same, ev_set_same]; rfl
    refine ⟨fun c4 => ⟨by omega, ?_⟩, fun c4 => ⟨by omega, ?_⟩⟩
    · rintro _ rfl
      rw [hE]
      rw [if_neg (show ¬ m_draw (m_next (s 1 1)) < s 24 (7 * i + 6) from fun q => absurd q (Int.not_lt.mpr c4))] at h
      exact h
    · rintro _ rfl
      rw [hE]
      rw [if_pos (show m_draw (m_next (s 1 1)) < s 24 (7 * i + 6) from c4)] at h
      exact h
  · rintro _ rfl
    rw [if_pos c] at h
    rw [ev_up_set, ev_up_set, ev_up_set, ev_set_set, ev_set_set, ev_set_same, ev_set_same]; exact h
