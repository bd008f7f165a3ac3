/-- what a Course's doings leave alone: all but cells k to k + 11 -/
def frC (k : Nat) (σ σ' : ev_S) : Prop := ∀ c, (c < k ∨ k + 11 < c) → σ' c = σ c
theorem frC_up {k c i : Nat} {σ σ' : ev_S} {z : Int} (h : frC k σ σ') (h1 : k ≤ c) (h2 : c ≤ k + 11) : frC k σ (ev_up σ' c i z) := fun a ha => by rw [ev_upj _ _ (by omega)]; exact h a ha
theorem frC_rf {k : Nat} {σ : ev_S} : frC k σ σ := fun _ _ => rfl
theorem m_come_at {T : ev_S} {B : Nat → Int} {th : Bool} {i : Nat} {r : Nat → Int} {j : Nat} (h1 : j ≠ 1) (h2 : j ≠ 57 + i) (h3 : j ≠ 67 + i) (h4 : j ≠ 77 + i) : m_come T B th i r j = r j := by
  unfold m_come
  split
  · rw [rup_ne _ _ h2, rup_ne _ _ h4, rup_ne _ _ h3]
  · split
    · rw [rup_ne _ _ h2, rup_ne _ _ h4, rup_ne _ _ h3]
    · rw [rup_ne _ _ h2, rup_ne _ _ h1, rup_ne _ _ h4, rup_ne _ _ h3]
theorem sp_settle {d N k i : Nat} {s T : ev_S} {B r : Nat → Int} {th : Bool} {t : Int} {Q : Option ev_V → ev_S → Prop} (hk : is_X2 k) (h15 : k = 15 ∨ k = 147) (hi : i < 10) (him : (i : Int) < T 0 46) (hm : m_mok T i) (hT : XT s 1 T) (hC : XC s k r) (hN : r 2 = (N : Int)) (hN2 : N ≤ 100) (hB : XB s 28 B N) (hr : m_rise B N) (hg : -3 ≤ T 0 8 ∧ T 0 8 ≤ 6) (hs : 0 ≤ r 0 ∧ r 0 ≤ 600) (ht : th = decide (t ≠ 0))
    (h : ∀ σ', XC σ' k (m_come T B th i r) → frC k s σ' → Q none σ') : Ev layX M_X7_settle (d + 2) 0 [(0, ev_r 144), (1, ev_r k), (2, ev_i (i : Int)), (3, ev_i t)] [] s Q := by
  have hrow := hT.2.2.2.2.2.1 i him
  obtain ⟨-, -, -, -, ⟨u1, u2⟩, ⟨u3, u4⟩⟩ := hm
  have m7 : ev_mul (i : Int) 7 = 7 * (i : Int) := by rw [ev_mul_eq ⟨by omega, by omega⟩]; omega
  have hlr := m_last_rng (m_keeps T B (r 0) i) N
  have hline : m_line T B r i = m_last (m_keeps T B (r 0) i) N := by unfold m_line; rw [hN, Int.toNat_natCast]
  refine wp_X7_settle_0 hk ?_
  rw [m7]
  simp (disch := omega) only [ev_add_eq (x := 7 * (i : Int)), Int.toNat_natCast]
  rw [show Int.toNat (7 * (i : Int) + 1) = 7 * i + 1 by omega, show Int.toNat (7 * (i : Int) + 6) = 7 * i + 6 by omega, show Int.toNat (7 * (i : Int) + 5) = 7 * i + 5 by omega, show s 9 (7 * i + 1) = T 24 (7 * i + 1) from hrow 1 (by omega), show s 9 (7 * i + 6) = T 24 (7 * i + 6) from hrow 6 (by omega)]
  refine ⟨by omega, by omega, by omega, ?_⟩
  rintro _ rfl
  have q1 : ev_up s (k + 10) i (s k 0) k 13 = (N : Int) := by rw [ev_up_ne _ _ (by omega), hC.1.2.2, hN]
  have q2 : ev_up s (k + 10) i (s k 0) 9 (7 * i + 5) = T 24 (7 * i + 5) := by rw [ev_up_ne _ _ (by omega)]; exact hrow 5 (by omega)
  have q3 : ev_up s (k + 10) i (s k 0) k 0 = r 0 := by rw [ev_up_ne _ _ (by omega), hC.1.1]
  have q4 : ev_up s (k + 10) i (s k 0) 1 2 = T 0 8 + 3 := by rw [ev_up_ne _ _ (by omega)]; exact hT.1.2.2.1
  rw [q1, q2, q3, q4, ev_sub_eq ⟨by omega, by omega⟩]
  refine ⟨by omega, sp_guarding hN2 (fun j hj => ?_) hr (ev_pi_mk ⟨by omega, ?_⟩)⟩
  · rw [ev_up_ne _ _ (by omega)]; exact hB j hj
  have c1 : XC (ev_up s (k + 10) i (s k 0)) k (rup r (67 + i) (r 0 + 1)) := by rw [hC.1.1]; exact XC_came hi hC
  have f1 : frC k s (ev_up s (k + 10) i (s k 0)) := frC_up frC_rf (by omega) (by omega)
  generalize ev_up s (k + 10) i (s k 0) = s1 at *
  rintro _ rfl
  rw [← hline]
  rw [← hline] at hlr
  have c2 := XC_by (z := m_line T B r i) hi c1
  have f2 : frC k s (ev_up s1 (k + 11) i (m_line T B r i)) := frC_up f1 (by omega) (by omega)
  rw [ev_up_same]
  generalize ev_up s1 (k + 11) i (m_line T B r i) = s2 at *
  unfold m_come at h
  refine ⟨by omega, fun e => ⟨fun e2 => ⟨by omega, ?_⟩, fun e2 => ⟨fun e3 => ⟨by omega, ?_⟩, fun e3 => sp_xdraw hk (ev_pi_mk ?_)⟩⟩, fun e => ⟨by omega, ?_⟩⟩
  · rintro _ rfl
    rw [if_neg (by omega), if_pos (Or.inl (by rw [ht]; exact decide_eq_true e2))] at h
    exact h _ (XC_over hi c2) (frC_up f2 (by omega) (by omega))
  · rintro _ rfl
    rw [if_neg (by omega), if_pos (Or.inr (by omega))] at h
    exact h _ (XC_over hi c2) (frC_up f2 (by omega) (by omega))
  · have e4 : ¬ (th = true ∨ T 24 (7 * i + 6) = 100) := by
      rintro (q | q)
      · rw [ht] at q; exact absurd e2 (of_decide_eq_true q)
      · omega
    rw [if_neg (by omega), if_neg e4] at h
    have d1 : s2 k 1 = r 1 := by rw [c2.1.2.1, rup_ne _ _ (by omega), rup_ne _ _ (by omega)]
    rw [d1]
    have c3 := XC_draws (z := m_next (r 1)) c2
    have f3 : frC k s (ev_up s2 k 1 (m_next (r 1))) := frC_up f2 (by omega) (by omega)
    refine ⟨fun e5 => ⟨by omega, ?_⟩, fun e5 => ⟨by omega, ?_⟩⟩
    · rintro _ rfl
      rw [if_neg (Int.not_lt.mpr e5)] at h
      exact h _ (XC_over hi c3) (frC_up f3 (by omega) (by omega))
    · rintro _ rfl
      rw [if_pos e5] at h
      exact h _ (XC_over hi c3) (frC_up f3 (by omega) (by omega))
  · rintro _ rfl
    rw [if_pos e] at h
    exact h _ (XC_over hi c2) (frC_up f2 (by omega) (by omega))
