/-! whether a doing works -/
def m_ask (T : ev_S) (r : Nat → Int) (N : Nat) (a : Nat) (kind p : Int) (sp : Bool) : Nat → Int := fun j =>
  if j = 0 then kind else if j = 1 then r 0 else if j = 2 then p % 8 else if j = 3 then p / 8 else if j = 4 then (m_cnt r p N : Int) else if j = 5 then (if sp then 1 else 0) else if j = 6 then (a : Int) else if j = 7 then r (51 + a) else T 5 a
def m_law (T : ev_S) (q : Nat → Int) (j : Nat) : Bool := m_lval (T 15) (T 16) q (T 13 j).toNat (T 14 j - T 13 j).toNat (fun _ => 0)
def m_wk (T : ev_S) (q : Nat → Int) (sp : Bool) : Nat → Nat → Bool
  | _, 0 => !sp
  | j, n + 1 => if m_law T q j then decide (T 12 j = 0) else m_wk T q sp (j + 1) n
def m_lok (T : ev_S) : Prop := (0 ≤ T 0 25 ∧ T 0 25 ≤ 16) ∧ ∀ j : Nat, (j : Int) < T 0 25 → (0 ≤ T 13 j ∧ T 13 j ≤ T 14 j ∧ T 14 j ≤ 400) ∧ (T 13 j < T 14 j → m_lty (T 15) (T 16) (T 13 j).toNat (T 14 j - T 13 j).toNat 0 (fun _ => false))
def m_works (T : ev_S) (r : Nat → Int) (N NO a : Nat) (kind : Int) : Bool := m_wk T (m_ask T r N a kind (r (27 + a)) (m_spoilt T (r 0) (r (27 + a)) NO)) (m_spoilt T (r 0) (r (27 + a)) NO) 0 (T 0 25).toNat
theorem sp_doesWork {d N NO a : Nat} {s : ev_S} {kind : Int} {Q : Option ev_V → ev_S → Prop} (hN : s 0 10 = (N : Int)) (hN8 : N ≤ 8) (hO : s 0 12 = (NO : Int)) (hO6 : NO ≤ 6) (ha : a < 6) (hp : 0 ≤ s 1 (27 + a) ∧ s 1 (27 + a) < 64) (hl : m_lok s)
    (h : ∀ s', (∀ c, c ≠ 28 → c ≠ 29 → s' c = s c) → Q (some (ev_i (if m_works s (s 1) N NO a kind then 1 else 0))) s') : Ev layM M_X12_doesWork (d + 2) 0 [(0, ev_r 0), (1, ev_i (a : Int)), (2, ev_i kind), (3, ev_i (s 1 (27 + a)))] [] s Q := by
  refine wp_X12_doesWork_0 (sp_isSpoilt hO hO6 (ev_pi_mk ⟨fun c => ?_, fun c => ?_⟩))
  · generalize hsp : m_spoilt s (s 1 0) (s 1 (27 + a)) NO = sp
    rw [ev_rem_eq ⟨by omega, by omega⟩ ⟨by omega, by omega⟩, ev_div_eq ⟨by omega, by omega⟩ ⟨by omega, by omega⟩]
    rintro _ rfl
    rintro _ rfl
    rintro _ rfl
    rintro _ rfl
    refine sp_wardsAt (N := N) ?_ hN8 (ev_pi_mk ?_)
    · simp only [ev_up]; simpa using hN
    rintro _ rfl
    -- the loop over the lines
    have loop : ∀ (n j : Nat) (s1 : ev_S), j + n = (s 0 25).toNat → (∀ c, c ≠ 28 → c ≠ 29 → s1 c = s c) → (∀ i, i < 9 → s1 28 i = m_ask s (s 1) N a kind (s 1 (27 + a)) sp i) → m_wk s (m_ask s (s 1) N a kind (s 1 (27 + a)) sp) sp j n = m_works s (s 1) N NO a kind → Ev layM M_X12_doesWork (d + 2) 131 [(0, ev_r 0), (4, ev_i (if sp then 1 else 0)), (5, ev_i (j : Int))] [] s1 Q := by
      intro n
      induction n with
      | zero =>
        intro j s1 hj hfr hq hw
        have e25 : s1 0 25 = s 0 25 := by rw [hfr 0 (by omega) (by omega)]
        have hz := h s1 hfr
        rw [← hw] at hz
        refine wp_X12_doesWork_131 ⟨fun _ => ⟨fun c2 => ?_, fun c2 => ?_⟩, fun c2 => absurd c2 (by have := hl.1; omega)⟩
        · have e : sp = true := by cases sp <;> simp at c2 ⊢
          subst e; simpa [m_wk] using hz
        · have e : sp = false := by cases sp <;> simp at c2 ⊢
          subst e; simpa [m_wk] using hz
      | succ n ih =>
        intro j s1 hj hfr hq hw
        have e0 : s1 0 = s 0 := hfr 0 (by omega) (by omega)
        have hl1 := hl.1
        obtain ⟨⟨l1, l2, l3⟩, lty⟩ := hl.2 j (by omega)
        refine wp_X12_doesWork_131 ⟨fun c2 => absurd c2 (by rw [e0]; omega), fun _ => ?_⟩
        refine sp_isSo (q := m_ask s (s 1) N a kind (s 1 (27 + a)) sp) (S0 := fun _ => 0) (lf := (s 13 j).toNat) (n := (s 14 j - s 13 j).toNat) hq (by omega) ?_ ?_ (by omega) ?_ ?_
        · rw [hfr 13 (by omega) (by omega)]; omega
        · rw [hfr 14 (by omega) (by omega)]; omega
        · intro hn
          rw [hfr 15 (by omega) (by omega), hfr 16 (by omega) (by omega)]; exact lty (by omega)
        · intro s2 hf2
          rw [hfr 15 (by omega) (by omega), hfr 16 (by omega) (by omega)]
          have hf3 : ∀ c, c ≠ 28 → c ≠ 29 → s2 c = s c := fun c c28 c29 => by rw [hf2 c c29]; exact hfr c c28 c29
          refine ev_pi_mk ?_
          have hw2 : (if m_law s (m_ask s (s 1) N a kind (s 1 (27 + a)) sp) j then decide (s 12 j = 0) else m_wk s (m_ask s (s 1) N a kind (s 1 (27 + a)) sp) sp (j + 1) n) = m_works s (s 1) N NO a kind := hw
          show ((if m_law s (m_ask s (s 1) N a kind (s 1 (27 + a)) sp) j = true then (1 : Int) else 0) = 0 → _) ∧ _
          by_cases e : m_law s (m_ask s (s 1) N a kind (s 1 (27 + a)) sp) j = true
          · rw [if_pos e] at hw2
            refine ⟨fun c2 => absurd c2 (by rw [if_pos e]; omega), fun _ => ⟨by omega, ?_⟩⟩
            rw [Int.toNat_natCast, hf3 12 (by omega) (by omega)]
            have hz := h s2 hf3
            rw [← hw2] at hz
            refine ⟨fun c3 => ?_, fun c3 => ?_⟩
            · rw [decide_eq_false c3] at hz; exact hz
            · rw [decide_eq_true c3] at hz; exact hz
          · rw [if_neg e] at hw2
            refine ⟨fun _ => ?_, fun c2 => absurd (if_neg e) c2⟩
            rw [ev_add_eq (x := (j : Int)) (y := 1) ⟨by omega, by omega⟩]
            exact ih (j + 1) s2 (by omega) hf3 (fun i hi => by rw [hf2 28 (by omega)]; exact hq i hi) hw2
    have tail : ∀ (t0 : Int) (s9 : ev_S), t0 = (if sp then 1 else 0) → (∀ c, c ≠ 28 → c ≠ 29 → s9 c = s c) → (∀ i, i < 5 → s9 28 i = m_ask s (s 1) N a kind (s 1 (27 + a)) sp i) → Ev layM M_X12_doesWork (d + 2) 90 [(0, ev_r 0), (1, ev_i (a : Int)), (4, ev_i (if sp then 1 else 0))] [ev_i t0, ev_i 5, ev_r 28] s9 Q := by
      intro t0 s9 ht hfr hq
      refine wp_X12_doesWork_90 ⟨by omega, ?_⟩
      rintro _ rfl
      rintro _ rfl
      rw [ev_add_eq (x := 51) (y := (a : Int)) ⟨by omega, by omega⟩, tn_lit, Int.toNat_natCast]
      refine ⟨by omega, ?_⟩
      rintro _ rfl
      refine ⟨by omega, ?_⟩
      rintro _ rfl
      refine loop (s 0 25).toNat 0 _ (by omega) ?_ ?_ ?_
      · intro c c28 c29
        rw [ev_upj _ _ c28, ev_upj _ _ c28, ev_upj _ _ c28, ev_upj _ _ c28]; exact hfr c c28 c29
      · intro i hi
        have r7 : s9 1 (51 + a) = s 1 (51 + a) := by rw [hfr 1 (by omega) (by omega)]
        have r8 : s9 5 a = s 5 a := by rw [hfr 5 (by omega) (by omega)]
        by_cases e8 : i = 8
        · subst e8; rw [ev_up_same, ev_up_ne _ _ (by omega), ev_up_ne _ _ (by omega), ev_up_ne _ _ (by omega), r8]; simp [m_ask]
        by_cases e7 : i = 7
        · subst e7; rw [ev_up_ne _ _ (by omega), ev_up_same, ev_up_ne _ _ (by omega), ev_up_ne _ _ (by omega), r7]; simp [m_ask]
        by_cases e6 : i = 6
        · subst e6; rw [ev_up_ne _ _ (by omega), ev_up_ne _ _ (by omega), ev_up_same]; simp [m_ask]
        by_cases e5 : i = 5
        · subst e5; rw [ev_up_ne _ _ (by omega), ev_up_ne _ _ (by omega), ev_up_ne _ _ (by omega), show Int.toNat 5 = 5 from rfl, ev_up_same, ht]; simp [m_ask]
        rw [ev_up_ne _ _ (by omega), ev_up_ne _ _ (by omega), ev_up_ne _ _ (by omega), ev_up_ne _ _ (by omega)]
        exact hq i (by omega)
      · unfold m_works; rw [hsp]
    have hfr9 : ∀ z : Int, ∀ c, c ≠ 28 → c ≠ 29 → ev_up (ev_up (ev_up (ev_up (ev_up s 28 0 kind) 28 1 (ev_up s 28 0 kind 1 0)) 28 2 (s 1 (27 + a) % 8)) 28 3 (s 1 (27 + a) / 8)) 28 4 z c = s c := by
      intro z c c28 _
      rw [ev_upj _ _ c28, ev_upj _ _ c28, ev_upj _ _ c28, ev_upj _ _ c28, ev_upj _ _ c28]
    have hcnt : ev_up (ev_up (ev_up (ev_up s 28 0 kind) 28 1 (ev_up s 28 0 kind 1 0)) 28 2 (s 1 (27 + a) % 8)) 28 3 (s 1 (27 + a) / 8) 1 = s 1 := by
      rw [ev_upj _ _ (by omega), ev_upj _ _ (by omega), ev_upj _ _ (by omega), ev_upj _ _ (by omega)]
    rw [hcnt]
    have hq9 : ∀ i, i < 5 → ev_up (ev_up (ev_up (ev_up (ev_up s 28 0 kind) 28 1 (ev_up s 28 0 kind 1 0)) 28 2 (s 1 (27 + a) % 8)) 28 3 (s 1 (27 + a) / 8)) 28 4 (m_cnt (s 1) (s 1 (27 + a)) N : Int) 28 i = m_ask s (s 1) N a kind (s 1 (27 + a)) sp i := by
      intro i hi
      have hv : i = 0 ∨ i = 1 ∨ i = 2 ∨ i = 3 ∨ i = 4 := by omega
      rcases hv with rfl | rfl | rfl | rfl | rfl <;> simp [ev_up, m_ask]
    refine ⟨fun c2 => ?_, fun c2 => ?_⟩
    · exact tail 0 _ c2.symm (hfr9 _) hq9
    · refine tail 1 _ ?_ (hfr9 _) hq9
      cases sp <;> simp at c2 ⊢
  · have e25 : (s 0 25).toNat = 0 := by omega
    have hz := h s (fun _ _ _ => rfl)
    unfold m_works at hz
    rw [e25] at hz
    simp only [m_wk] at hz
    generalize m_spoilt s (s 1 0) (s 1 (27 + a)) NO = sp at *
    refine ⟨fun c2 => ?_, fun c2 => ?_⟩
    · have e : sp = true := by cases sp <;> simp at c2 ⊢
      subst e; simpa using hz
    · have e : sp = false := by cases sp <;> simp at c2 ⊢
      subst e; simpa using hz
