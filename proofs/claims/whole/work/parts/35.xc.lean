/-! a Course, one of its numbers put anew (by program: wip/whole/gen_xc.py) -/
theorem XC_sec {σ : ev_S} {k : Nat} {r : Nat → Int} {z : Int} (h : XC σ k r) : XC (ev_up σ k 0 z) k (rup r (0) z) := by
  refine ⟨⟨?_, ?_, ?_⟩, fun w hw => ⟨?_, ?_, ?_⟩, fun a ha => ⟨?_, ?_, ?_, ?_, ?_⟩, fun i hi => ⟨?_, ?_, ?_⟩⟩
  · rw [ev_up_same, rup_same]
  · rw [ev_up_ne _ _ (by omega), rup_ne _ _ (by omega)]
    exact h.1.2.1
  · rw [ev_up_ne _ _ (by omega), rup_ne _ _ (by omega)]
    exact h.1.2.2
  · rw [ev_up_ne _ _ (by omega), rup_ne _ _ (by omega)]
    exact (h.2.1 w hw).1
  · rw [ev_up_ne _ _ (by omega), rup_ne _ _ (by omega)]
    exact (h.2.1 w hw).2.1
  · rw [ev_up_ne _ _ (by omega), rup_ne _ _ (by omega)]
    exact (h.2.1 w hw).2.2
  · rw [ev_up_ne _ _ (by omega), rup_ne _ _ (by omega)]
    exact (h.2.2.1 a ha).1
  · rw [ev_up_ne _ _ (by omega), rup_ne _ _ (by omega)]
    exact (h.2.2.1 a ha).2.1
  · intro hp
    rw [rup_ne _ _ (by omega)] at hp
    rw [ev_up_ne _ _ (by omega), rup_ne _ _ (by omega)]
    exact (h.2.2.1 a ha).2.2.1 hp
  · rw [ev_up_ne _ _ (by omega), rup_ne _ _ (by omega)]
    exact (h.2.2.1 a ha).2.2.2.1
  · rw [ev_up_ne _ _ (by omega), rup_ne _ _ (by omega)]
    exact (h.2.2.1 a ha).2.2.2.2
  · rw [ev_up_ne _ _ (by omega), rup_ne _ _ (by omega)]
    exact (h.2.2.2 i hi).1
  · rw [ev_up_ne _ _ (by omega), rup_ne _ _ (by omega)]
    exact (h.2.2.2 i hi).2.1
  · rw [ev_up_ne _ _ (by omega), rup_ne _ _ (by omega)]
    exact (h.2.2.2 i hi).2.2
theorem XC_draws {σ : ev_S} {k : Nat} {r : Nat → Int} {z : Int} (h : XC σ k r) : XC (ev_up σ k 1 z) k (rup r (1) z) := by
  refine ⟨⟨?_, ?_, ?_⟩, fun w hw => ⟨?_, ?_, ?_⟩, fun a ha => ⟨?_, ?_, ?_, ?_, ?_⟩, fun i hi => ⟨?_, ?_, ?_⟩⟩
  · rw [ev_up_ne _ _ (by omega), rup_ne _ _ (by omega)]
    exact h.1.1
  · rw [ev_up_same, rup_same]
  · rw [ev_up_ne _ _ (by omega), rup_ne _ _ (by omega)]
    exact h.1.2.2
  · rw [ev_up_ne _ _ (by omega), rup_ne _ _ (by omega)]
    exact (h.2.1 w hw).1
  · rw [ev_up_ne _ _ (by omega), rup_ne _ _ (by omega)]
    exact (h.2.1 w hw).2.1
  · rw [ev_up_ne _ _ (by omega), rup_ne _ _ (by omega)]
    exact (h.2.1 w hw).2.2
  · rw [ev_up_ne _ _ (by omega), rup_ne _ _ (by omega)]
    exact (h.2.2.1 a ha).1
  · rw [ev_up_ne _ _ (by omega), rup_ne _ _ (by omega)]
    exact (h.2.2.1 a ha).2.1
  · intro hp
    rw [rup_ne _ _ (by omega)] at hp
    rw [ev_up_ne _ _ (by omega), rup_ne _ _ (by omega)]
    exact (h.2.2.1 a ha).2.2.1 hp
  · rw [ev_up_ne _ _ (by omega), rup_ne _ _ (by omega)]
    exact (h.2.2.1 a ha).2.2.2.1
  · rw [ev_up_ne _ _ (by omega), rup_ne _ _ (by omega)]
    exact (h.2.2.1 a ha).2.2.2.2
  · rw [ev_up_ne _ _ (by omega), rup_ne _ _ (by omega)]
    exact (h.2.2.2 i hi).1
  · rw [ev_up_ne _ _ (by omega), rup_ne _ _ (by omega)]
    exact (h.2.2.2 i hi).2.1
  · rw [ev_up_ne _ _ (by omega), rup_ne _ _ (by omega)]
    exact (h.2.2.2 i hi).2.2
theorem XC_written {σ : ev_S} {k : Nat} {r : Nat → Int} {z : Int} (h : XC σ k r) : XC (ev_up σ k 13 z) k (rup r (2) z) := by
  refine ⟨⟨?_, ?_, ?_⟩, fun w hw => ⟨?_, ?_, ?_⟩, fun a ha => ⟨?_, ?_, ?_, ?_, ?_⟩, fun i hi => ⟨?_, ?_, ?_⟩⟩
  · rw [ev_up_ne _ _ (by omega), rup_ne _ _ (by omega)]
    exact h.1.1
  · rw [ev_up_ne _ _ (by omega), rup_ne _ _ (by omega)]
    exact h.1.2.1
  · rw [ev_up_same, rup_same]
  · rw [ev_up_ne _ _ (by omega), rup_ne _ _ (by omega)]
    exact (h.2.1 w hw).1
  · rw [ev_up_ne _ _ (by omega), rup_ne _ _ (by omega)]
    exact (h.2.1 w hw).2.1
  · rw [ev_up_ne _ _ (by omega), rup_ne _ _ (by omega)]
    exact (h.2.1 w hw).2.2
  · rw [ev_up_ne _ _ (by omega), rup_ne _ _ (by omega)]
    exact (h.2.2.1 a ha).1
  · rw [ev_up_ne _ _ (by omega), rup_ne _ _ (by omega)]
    exact (h.2.2.1 a ha).2.1
  · intro hp
    rw [rup_ne _ _ (by omega)] at hp
    rw [ev_up_ne _ _ (by omega), rup_ne _ _ (by omega)]
    exact (h.2.2.1 a ha).2.2.1 hp
  · rw [ev_up_ne _ _ (by omega), rup_ne _ _ (by omega)]
    exact (h.2.2.1 a ha).2.2.2.1
  · rw [ev_up_ne _ _ (by omega), rup_ne _ _ (by omega)]
    exact (h.2.2.1 a ha).2.2.2.2
  · rw [ev_up_ne _ _ (by omega), rup_ne _ _ (by omega)]
    exact (h.2.2.2 i hi).1
  · rw [ev_up_ne _ _ (by omega), rup_ne _ _ (by omega)]
    exact (h.2.2.2 i hi).2.1
  · rw [ev_up_ne _ _ (by omega), rup_ne _ _ (by omega)]
    exact (h.2.2.2 i hi).2.2
theorem XC_wp {σ : ev_S} {k : Nat} {r : Nat → Int} {z : Int} {w0 : Nat} (h0 : w0 < 8) (h : XC σ k r) : XC (ev_up σ (k + 1) w0 z) k (rup r (3 + w0) z) := by
  refine ⟨⟨?_, ?_, ?_⟩, fun w hw => ⟨?_, ?_, ?_⟩, fun a ha => ⟨?_, ?_, ?_, ?_, ?_⟩, fun i hi => ⟨?_, ?_, ?_⟩⟩
  · rw [ev_up_ne _ _ (by omega), rup_ne _ _ (by omega)]
    exact h.1.1
  · rw [ev_up_ne _ _ (by omega), rup_ne _ _ (by omega)]
    exact h.1.2.1
  · rw [ev_up_ne _ _ (by omega), rup_ne _ _ (by omega)]
    exact h.1.2.2
  · by_cases e : w = w0
    · subst e
      rw [ev_up_same, rup_same]
    · rw [ev_up_ne _ _ (by omega), rup_ne _ _ (by omega)]
      exact (h.2.1 w hw).1
  · rw [ev_up_ne _ _ (by omega), rup_ne _ _ (by omega)]
    exact (h.2.1 w hw).2.1
  · rw [ev_up_ne _ _ (by omega), rup_ne _ _ (by omega)]
    exact (h.2.1 w hw).2.2
  · rw [ev_up_ne _ _ (by omega), rup_ne _ _ (by omega)]
    exact (h.2.2.1 a ha).1
  · rw [ev_up_ne _ _ (by omega), rup_ne _ _ (by omega)]
    exact (h.2.2.1 a ha).2.1
  · intro hp
    rw [rup_ne _ _ (by omega)] at hp
    rw [ev_up_ne _ _ (by omega), rup_ne _ _ (by omega)]
    exact (h.2.2.1 a ha).2.2.1 hp
  · rw [ev_up_ne _ _ (by omega), rup_ne _ _ (by omega)]
    exact (h.2.2.1 a ha).2.2.2.1
  · rw [ev_up_ne _ _ (by omega), rup_ne _ _ (by omega)]
    exact (h.2.2.1 a ha).2.2.2.2
  · rw [ev_up_ne _ _ (by omega), rup_ne _ _ (by omega)]
    exact (h.2.2.2 i hi).1
  · rw [ev_up_ne _ _ (by omega), rup_ne _ _ (by omega)]
    exact (h.2.2.2 i hi).2.1
  · rw [ev_up_ne _ _ (by omega), rup_ne _ _ (by omega)]
    exact (h.2.2.2 i hi).2.2
theorem XC_still {σ : ev_S} {k : Nat} {r : Nat → Int} {z : Int} {w0 : Nat} (h0 : w0 < 8) (h : XC σ k r) : XC (ev_up σ (k + 2) w0 z) k (rup r (11 + w0) z) := by
  refine ⟨⟨?_, ?_, ?_⟩, fun w hw => ⟨?_, ?_, ?_⟩, fun a ha => ⟨?_, ?_, ?_, ?_, ?_⟩, fun i hi => ⟨?_, ?_, ?_⟩⟩
  · rw [ev_up_ne _ _ (by omega), rup_ne _ _ (by omega)]
    exact h.1.1
  · rw [ev_up_ne _ _ (by omega), rup_ne _ _ (by omega)]
    exact h.1.2.1
  · rw [ev_up_ne _ _ (by omega), rup_ne _ _ (by omega)]
    exact h.1.2.2
  · rw [ev_up_ne _ _ (by omega), rup_ne _ _ (by omega)]
    exact (h.2.1 w hw).1
  · by_cases e : w = w0
    · subst e
      rw [ev_up_same, rup_same]
    · rw [ev_up_ne _ _ (by omega), rup_ne _ _ (by omega)]
      exact (h.2.1 w hw).2.1
  · rw [ev_up_ne _ _ (by omega), rup_ne _ _ (by omega)]
    exact (h.2.1 w hw).2.2
  · rw [ev_up_ne _ _ (by omega), rup_ne _ _ (by omega)]
    exact (h.2.2.1 a ha).1
  · rw [ev_up_ne _ _ (by omega), rup_ne _ _ (by omega)]
    exact (h.2.2.1 a ha).2.1
  · intro hp
    rw [rup_ne _ _ (by omega)] at hp
    rw [ev_up_ne _ _ (by omega), rup_ne _ _ (by omega)]
    exact (h.2.2.1 a ha).2.2.1 hp
  · rw [ev_up_ne _ _ (by omega), rup_ne _ _ (by omega)]
    exact (h.2.2.1 a ha).2.2.2.1
  · rw [ev_up_ne _ _ (by omega), rup_ne _ _ (by omega)]
    exact (h.2.2.1 a ha).2.2.2.2
  · rw [ev_up_ne _ _ (by omega), rup_ne _ _ (by omega)]
    exact (h.2.2.2 i hi).1
  · rw [ev_up_ne _ _ (by omega), rup_ne _ _ (by omega)]
    exact (h.2.2.2 i hi).2.1
  · rw [ev_up_ne _ _ (by omega), rup_ne _ _ (by omega)]
    exact (h.2.2.2 i hi).2.2
theorem XC_step {σ : ev_S} {k : Nat} {r : Nat → Int} {z : Int} {w0 : Nat} (h0 : w0 < 8) (h : XC σ k r) : XC (ev_up σ (k + 3) w0 z) k (rup r (19 + w0) z) := by
  refine ⟨⟨?_, ?_, ?_⟩, fun w hw => ⟨?_, ?_, ?_⟩, fun a ha => ⟨?_, ?_, ?_, ?_, ?_⟩, fun i hi => ⟨?_, ?_, ?_⟩⟩
  · rw [ev_up_ne _ _ (by omega), rup_ne _ _ (by omega)]
    exact h.1.1
  · rw [ev_up_ne _ _ (by omega), rup_ne _ _ (by omega)]
    exact h.1.2.1
  · rw [ev_up_ne _ _ (by omega), rup_ne _ _ (by omega)]
    exact h.1.2.2
  · rw [ev_up_ne _ _ (by omega), rup_ne _ _ (by omega)]
    exact (h.2.1 w hw).1
  · rw [ev_up_ne _ _ (by omega), rup_ne _ _ (by omega)]
    exact (h.2.1 w hw).2.1
  · by_cases e : w = w0
    · subst e
      rw [ev_up_same, rup_same]
    · rw [ev_up_ne _ _ (by omega), rup_ne _ _ (by omega)]
      exact (h.2.1 w hw).2.2
  · rw [ev_up_ne _ _ (by omega), rup_ne _ _ (by omega)]
    exact (h.2.2.1 a ha).1
  · rw [ev_up_ne _ _ (by omega), rup_ne _ _ (by omega)]
    exact (h.2.2.1 a ha).2.1
  · intro hp
    rw [rup_ne _ _ (by omega)] at hp
    rw [ev_up_ne _ _ (by omega), rup_ne _ _ (by omega)]
    exact (h.2.2.1 a ha).2.2.1 hp
  · rw [ev_up_ne _ _ (by omega), rup_ne _ _ (by omega)]
    exact (h.2.2.1 a ha).2.2.2.1
  · rw [ev_up_ne _ _ (by omega), rup_ne _ _ (by omega)]
    exact (h.2.2.1 a ha).2.2.2.2
  · rw [ev_up_ne _ _ (by omega), rup_ne _ _ (by omega)]
    exact (h.2.2.2 i hi).1
  · rw [ev_up_ne _ _ (by omega), rup_ne _ _ (by omega)]
    exact (h.2.2.2 i hi).2.1
  · rw [ev_up_ne _ _ (by omega), rup_ne _ _ (by omega)]
    exact (h.2.2.2 i hi).2.2
theorem XC_ap {σ : ev_S} {k : Nat} {r : Nat → Int} {z : Int} {a0 : Nat} (h0 : a0 < 6) (h : XC σ k r) : XC (ev_up σ (k + 4) a0 z) k (rup r (27 + a0) z) := by
  refine ⟨⟨?_, ?_, ?_⟩, fun w hw => ⟨?_, ?_, ?_⟩, fun a ha => ⟨?_, ?_, ?_, ?_, ?_⟩, fun i hi => ⟨?_, ?_, ?_⟩⟩
  · rw [ev_up_ne _ _ (by omega), rup_ne _ _ (by omega)]
    exact h.1.1
  · rw [ev_up_ne _ _ (by omega), rup_ne _ _ (by omega)]
    exact h.1.2.1
  · rw [ev_up_ne _ _ (by omega), rup_ne _ _ (by omega)]
    exact h.1.2.2
  · rw [ev_up_ne _ _ (by omega), rup_ne _ _ (by omega)]
    exact (h.2.1 w hw).1
  · rw [ev_up_ne _ _ (by omega), rup_ne _ _ (by omega)]
    exact (h.2.1 w hw).2.1
  · rw [ev_up_ne _ _ (by omega), rup_ne _ _ (by omega)]
    exact (h.2.1 w hw).2.2
  · by_cases e : a = a0
    · subst e
      rw [ev_up_same, rup_same]
    · rw [ev_up_ne _ _ (by omega), rup_ne _ _ (by omega)]
      exact (h.2.2.1 a ha).1
  · rw [ev_up_ne _ _ (by omega), rup_ne _ _ (by omega)]
    exact (h.2.2.1 a ha).2.1
  · intro hp
    rw [rup_ne _ _ (by omega)] at hp
    rw [ev_up_ne _ _ (by omega), rup_ne _ _ (by omega)]
    exact (h.2.2.1 a ha).2.2.1 hp
  · rw [ev_up_ne _ _ (by omega), rup_ne _ _ (by omega)]
    exact (h.2.2.1 a ha).2.2.2.1
  · rw [ev_up_ne _ _ (by omega), rup_ne _ _ (by omega)]
    exact (h.2.2.1 a ha).2.2.2.2
  · rw [ev_up_ne _ _ (by omega), rup_ne _ _ (by omega)]
    exact (h.2.2.2 i hi).1
  · rw [ev_up_ne _ _ (by omega), rup_ne _ _ (by omega)]
    exact (h.2.2.2 i hi).2.1
  · rw [ev_up_ne _ _ (by omega), rup_ne _ _ (by omega)]
    exact (h.2.2.2 i hi).2.2
theorem XC_busy {σ : ev_S} {k : Nat} {r : Nat → Int} {z : Int} {a0 : Nat} (h0 : a0 < 6) (hg : 0 < z → σ (k + 6) a0 = r (45 + a0) - 1) (h : XC σ k r) : XC (ev_up σ (k + 5) a0 z) k (rup r (33 + a0) z) := by
  refine ⟨⟨?_, ?_, ?_⟩, fun w hw => ⟨?_, ?_, ?_⟩, fun a ha => ⟨?_, ?_, ?_, ?_, ?_⟩, fun i hi => ⟨?_, ?_, ?_⟩⟩
  · rw [ev_up_ne _ _ (by omega), rup_ne _ _ (by omega)]
    exact h.1.1
  · rw [ev_up_ne _ _ (by omega), rup_ne _ _ (by omega)]
    exact h.1.2.1
  · rw [ev_up_ne _ _ (by omega), rup_ne _ _ (by omega)]
    exact h.1.2.2
  · rw [ev_up_ne _ _ (by omega), rup_ne _ _ (by omega)]
    exact (h.2.1 w hw).1
  · rw [ev_up_ne _ _ (by omega), rup_ne _ _ (by omega)]
    exact (h.2.1 w hw).2.1
  · rw [ev_up_ne _ _ (by omega), rup_ne _ _ (by omega)]
    exact (h.2.1 w hw).2.2
  · rw [ev_up_ne _ _ (by omega), rup_ne _ _ (by omega)]
    exact (h.2.2.1 a ha).1
  · by_cases e : a = a0
    · subst e
      rw [ev_up_same, rup_same]
    · rw [ev_up_ne _ _ (by omega), rup_ne _ _ (by omega)]
      exact (h.2.2.1 a ha).2.1
  · intro hp
    by_cases e : a = a0
    · subst e
      rw [rup_same] at hp
      rw [ev_up_ne _ _ (by omega), rup_ne _ _ (by omega)]
      exact hg hp
    · rw [rup_ne _ _ (by omega)] at hp
      rw [ev_up_ne _ _ (by omega), rup_ne _ _ (by omega)]
      exact (h.2.2.1 a ha).2.2.1 hp
  · rw [ev_up_ne _ _ (by omega), rup_ne _ _ (by omega)]
    exact (h.2.2.1 a ha).2.2.2.1
  · rw [ev_up_ne _ _ (by omega), rup_ne _ _ (by omega)]
    exact (h.2.2.1 a ha).2.2.2.2
  · rw [ev_up_ne _ _ (by omega), rup_ne _ _ (by omega)]
    exact (h.2.2.2 i hi).1
  · rw [ev_up_ne _ _ (by omega), rup_ne _ _ (by omega)]
    exact (h.2.2.2 i hi).2.1
  · rw [ev_up_ne _ _ (by omega), rup_ne _ _ (by omega)]
    exact (h.2.2.2 i hi).2.2
theorem XC_goal {σ : ev_S} {k : Nat} {r : Nat → Int} {z : Int} {a0 : Nat} (h0 : a0 < 6) (h : XC σ k r) : XC (ev_up σ (k + 6) a0 z) k (rup r (45 + a0) (z + 1)) := by
  refine ⟨⟨?_, ?_, ?_⟩, fun w hw => ⟨?_, ?_, ?_⟩, fun a ha => ⟨?_, ?_, ?_, ?_, ?_⟩, fun i hi => ⟨?_, ?_, ?_⟩⟩
  · rw [ev_up_ne _ _ (by omega), rup_ne _ _ (by omega)]
    exact h.1.1
  · rw [ev_up_ne _ _ (by omega), rup_ne _ _ (by omega)]
    exact h.1.2.1
  · rw [ev_up_ne _ _ (by omega), rup_ne _ _ (by omega)]
    exact h.1.2.2
  · rw [ev_up_ne _ _ (by omega), rup_ne _ _ (by omega)]
    exact (h.2.1 w hw).1
  · rw [ev_up_ne _ _ (by omega), rup_ne _ _ (by omega)]
    exact (h.2.1 w hw).2.1
  · rw [ev_up_ne _ _ (by omega), rup_ne _ _ (by omega)]
    exact (h.2.1 w hw).2.2
  · rw [ev_up_ne _ _ (by omega), rup_ne _ _ (by omega)]
    exact (h.2.2.1 a ha).1
  · rw [ev_up_ne _ _ (by omega), rup_ne _ _ (by omega)]
    exact (h.2.2.1 a ha).2.1
  · intro hp
    rw [rup_ne _ _ (by omega)] at hp
    by_cases e : a = a0
    · subst e
      rw [ev_up_same, rup_same]; omega
    · rw [ev_up_ne _ _ (by omega), rup_ne _ _ (by omega)]
      exact (h.2.2.1 a ha).2.2.1 hp
  · rw [ev_up_ne _ _ (by omega), rup_ne _ _ (by omega)]
    exact (h.2.2.1 a ha).2.2.2.1
  · rw [ev_up_ne _ _ (by omega), rup_ne _ _ (by omega)]
    exact (h.2.2.1 a ha).2.2.2.2
  · rw [ev_up_ne _ _ (by omega), rup_ne _ _ (by omega)]
    exact (h.2.2.2 i hi).1
  · rw [ev_up_ne _ _ (by omega), rup_ne _ _ (by omega)]
    exact (h.2.2.2 i hi).2.1
  · rw [ev_up_ne _ _ (by omega), rup_ne _ _ (by omega)]
    exact (h.2.2.2 i hi).2.2
theorem XC_ord {σ : ev_S} {k : Nat} {r : Nat → Int} {z : Int} {a0 : Nat} (h0 : a0 < 6) (h : XC σ k r) : XC (ev_up σ (k + 7) a0 z) k (rup r (39 + a0) z) := by
  refine ⟨⟨?_, ?_, ?_⟩, fun w hw => ⟨?_, ?_, ?_⟩, fun a ha => ⟨?_, ?_, ?_, ?_, ?_⟩, fun i hi => ⟨?_, ?_, ?_⟩⟩
  · rw [ev_up_ne _ _ (by omega), rup_ne _ _ (by omega)]
    exact h.1.1
  · rw [ev_up_ne _ _ (by omega), rup_ne _ _ (by omega)]
    exact h.1.2.1
  · rw [ev_up_ne _ _ (by omega), rup_ne _ _ (by omega)]
    exact h.1.2.2
  · rw [ev_up_ne _ _ (by omega), rup_ne _ _ (by omega)]
    exact (h.2.1 w hw).1
  · rw [ev_up_ne _ _ (by omega), rup_ne _ _ (by omega)]
    exact (h.2.1 w hw).2.1
  · rw [ev_up_ne _ _ (by omega), rup_ne _ _ (by omega)]
    exact (h.2.1 w hw).2.2
  · rw [ev_up_ne _ _ (by omega), rup_ne _ _ (by omega)]
    exact (h.2.2.1 a ha).1
  · rw [ev_up_ne _ _ (by omega), rup_ne _ _ (by omega)]
    exact (h.2.2.1 a ha).2.1
  · intro hp
    rw [rup_ne _ _ (by omega)] at hp
    rw [ev_up_ne _ _ (by omega), rup_ne _ _ (by omega)]
    exact (h.2.2.1 a ha).2.2.1 hp
  · by_cases e : a = a0
    · subst e
      rw [ev_up_same, rup_same]
    · rw [ev_up_ne _ _ (by omega), rup_ne _ _ (by omega)]
      exact (h.2.2.1 a ha).2.2.2.1
  · rw [ev_up_ne _ _ (by omega), rup_ne _ _ (by omega)]
    exact (h.2.2.1 a ha).2.2.2.2
  · rw [ev_up_ne _ _ (by omega), rup_ne _ _ (by omega)]
    exact (h.2.2.2 i hi).1
  · rw [ev_up_ne _ _ (by omega), rup_ne _ _ (by omega)]
    exact (h.2.2.2 i hi).2.1
  · rw [ev_up_ne _ _ (by omega), rup_ne _ _ (by omega)]
    exact (h.2.2.2 i hi).2.2
theorem XC_done {σ : ev_S} {k : Nat} {r : Nat → Int} {z : Int} {a0 : Nat} (h0 : a0 < 6) (h : XC σ k r) : XC (ev_up σ (k + 8) a0 z) k (rup r (51 + a0) z) := by
  refine ⟨⟨?_, ?_, ?_⟩, fun w hw => ⟨?_, ?_, ?_⟩, fun a ha => ⟨?_, ?_, ?_, ?_, ?_⟩, fun i hi => ⟨?_, ?_, ?_⟩⟩
  · rw [ev_up_ne _ _ (by omega), rup_ne _ _ (by omega)]
    exact h.1.1
  · rw [ev_up_ne _ _ (by omega), rup_ne _ _ (by omega)]
    exact h.1.2.1
  · rw [ev_up_ne _ _ (by omega), rup_ne _ _ (by omega)]
    exact h.1.2.2
  · rw [ev_up_ne _ _ (by omega), rup_ne _ _ (by omega)]
    exact (h.2.1 w hw).1
  · rw [ev_up_ne _ _ (by omega), rup_ne _ _ (by omega)]
    exact (h.2.1 w hw).2.1
  · rw [ev_up_ne _ _ (by omega), rup_ne _ _ (by omega)]
    exact (h.2.1 w hw).2.2
  · rw [ev_up_ne _ _ (by omega), rup_ne _ _ (by omega)]
    exact (h.2.2.1 a ha).1
  · rw [ev_up_ne _ _ (by omega), rup_ne _ _ (by omega)]
    exact (h.2.2.1 a ha).2.1
  · intro hp
    rw [rup_ne _ _ (by omega)] at hp
    rw [ev_up_ne _ _ (by omega), rup_ne _ _ (by omega)]
    exact (h.2.2.1 a ha).2.2.1 hp
  · rw [ev_up_ne _ _ (by omega), rup_ne _ _ (by omega)]
    exact (h.2.2.1 a ha).2.2.2.1
  · by_cases e : a = a0
    · subst e
      rw [ev_up_same, rup_same]
    · rw [ev_up_ne _ _ (by omega), rup_ne _ _ (by omega)]
      exact (h.2.2.1 a ha).2.2.2.2
  · rw [ev_up_ne _ _ (by omega), rup_ne _ _ (by omega)]
    exact (h.2.2.2 i hi).1
  · rw [ev_up_ne _ _ (by omega), rup_ne _ _ (by omega)]
    exact (h.2.2.2 i hi).2.1
  · rw [ev_up_ne _ _ (by omega), rup_ne _ _ (by omega)]
    exact (h.2.2.2 i hi).2.2
theorem XC_over {σ : ev_S} {k : Nat} {r : Nat → Int} {z : Int} {i0 : Nat} (h0 : i0 < 10) (h : XC σ k r) : XC (ev_up σ (k + 9) i0 z) k (rup r (57 + i0) z) := by
  refine ⟨⟨?_, ?_, ?_⟩, fun w hw => ⟨?_, ?_, ?_⟩, fun a ha => ⟨?_, ?_, ?_, ?_, ?_⟩, fun i hi => ⟨?_, ?_, ?_⟩⟩
  · rw [ev_up_ne _ _ (by omega), rup_ne _ _ (by omega)]
    exact h.1.1
  · rw [ev_up_ne _ _ (by omega), rup_ne _ _ (by omega)]
    exact h.1.2.1
  · rw [ev_up_ne _ _ (by omega), rup_ne _ _ (by omega)]
    exact h.1.2.2
  · rw [ev_up_ne _ _ (by omega), rup_ne _ _ (by omega)]
    exact (h.2.1 w hw).1
  · rw [ev_up_ne _ _ (by omega), rup_ne _ _ (by omega)]
    exact (h.2.1 w hw).2.1
  · rw [ev_up_ne _ _ (by omega), rup_ne _ _ (by omega)]
    exact (h.2.1 w hw).2.2
  · rw [ev_up_ne _ _ (by omega), rup_ne _ _ (by omega)]
    exact (h.2.2.1 a ha).1
  · rw [ev_up_ne _ _ (by omega), rup_ne _ _ (by omega)]
    exact (h.2.2.1 a ha).2.1
  · intro hp
    rw [rup_ne _ _ (by omega)] at hp
    rw [ev_up_ne _ _ (by omega), rup_ne _ _ (by omega)]
    exact (h.2.2.1 a ha).2.2.1 hp
  · rw [ev_up_ne _ _ (by omega), rup_ne _ _ (by omega)]
    exact (h.2.2.1 a ha).2.2.2.1
  · rw [ev_up_ne _ _ (by omega), rup_ne _ _ (by omega)]
    exact (h.2.2.1 a ha).2.2.2.2
  · by_cases e : i = i0
    · subst e
      rw [ev_up_same, rup_same]
    · rw [ev_up_ne _ _ (by omega), rup_ne _ _ (by omega)]
      exact (h.2.2.2 i hi).1
  · rw [ev_up_ne _ _ (by omega), rup_ne _ _ (by omega)]
    exact (h.2.2.2 i hi).2.1
  · rw [ev_up_ne _ _ (by omega), rup_ne _ _ (by omega)]
    exact (h.2.2.2 i hi).2.2
theorem XC_came {σ : ev_S} {k : Nat} {r : Nat → Int} {z : Int} {i0 : Nat} (h0 : i0 < 10) (h : XC σ k r) : XC (ev_up σ (k + 10) i0 z) k (rup r (67 + i0) (z + 1)) := by
  refine ⟨⟨?_, ?_, ?_⟩, fun w hw => ⟨?_, ?_, ?_⟩, fun a ha => ⟨?_, ?_, ?_, ?_, ?_⟩, fun i hi => ⟨?_, ?_, ?_⟩⟩
  · rw [ev_up_ne _ _ (by omega), rup_ne _ _ (by omega)]
    exact h.1.1
  · rw [ev_up_ne _ _ (by omega), rup_ne _ _ (by omega)]
    exact h.1.2.1
  · rw [ev_up_ne _ _ (by omega), rup_ne _ _ (by omega)]
    exact h.1.2.2
  · rw [ev_up_ne _ _ (by omega), rup_ne _ _ (by omega)]
    exact (h.2.1 w hw).1
  · rw [ev_up_ne _ _ (by omega), rup_ne _ _ (by omega)]
    exact (h.2.1 w hw).2.1
  · rw [ev_up_ne _ _ (by omega), rup_ne _ _ (by omega)]
    exact (h.2.1 w hw).2.2
  · rw [ev_up_ne _ _ (by omega), rup_ne _ _ (by omega)]
    exact (h.2.2.1 a ha).1
  · rw [ev_up_ne _ _ (by omega), rup_ne _ _ (by omega)]
    exact (h.2.2.1 a ha).2.1
  · intro hp
    rw [rup_ne _ _ (by omega)] at hp
    rw [ev_up_ne _ _ (by omega), rup_ne _ _ (by omega)]
    exact (h.2.2.1 a ha).2.2.1 hp
  · rw [ev_up_ne _ _ (by omega), rup_ne _ _ (by omega)]
    exact (h.2.2.1 a ha).2.2.2.1
  · rw [ev_up_ne _ _ (by omega), rup_ne _ _ (by omega)]
    exact (h.2.2.1 a ha).2.2.2.2
  · rw [ev_up_ne _ _ (by omega), rup_ne _ _ (by omega)]
    exact (h.2.2.2 i hi).1
  · by_cases e : i = i0
    · subst e
      rw [ev_up_same, rup_same]; omega
    · rw [ev_up_ne _ _ (by omega), rup_ne _ _ (by omega)]
      exact (h.2.2.2 i hi).2.1
  · rw [ev_up_ne _ _ (by omega), rup_ne _ _ (by omega)]
    exact (h.2.2.2 i hi).2.2
theorem XC_by {σ : ev_S} {k : Nat} {r : Nat → Int} {z : Int} {i0 : Nat} (h0 : i0 < 10) (h : XC σ k r) : XC (ev_up σ (k + 11) i0 z) k (rup r (77 + i0) (z + 1)) := by
  refine ⟨⟨?_, ?_, ?_⟩, fun w hw => ⟨?_, ?_, ?_⟩, fun a ha => ⟨?_, ?_, ?_, ?_, ?_⟩, fun i hi => ⟨?_, ?_, ?_⟩⟩
  · rw [ev_up_ne _ _ (by omega), rup_ne _ _ (by omega)]
    exact h.1.1
  · rw [ev_up_ne _ _ (by omega), rup_ne _ _ (by omega)]
    exact h.1.2.1
  · rw [ev_up_ne _ _ (by omega), rup_ne _ _ (by omega)]
    exact h.1.2.2
  · rw [ev_up_ne _ _ (by omega), rup_ne _ _ (by omega)]
    exact (h.2.1 w hw).1
  · rw [ev_up_ne _ _ (by omega), rup_ne _ _ (by omega)]
    exact (h.2.1 w hw).2.1
  · rw [ev_up_ne _ _ (by omega), rup_ne _ _ (by omega)]
    exact (h.2.1 w hw).2.2
  · rw [ev_up_ne _ _ (by omega), rup_ne _ _ (by omega)]
    exact (h.2.2.1 a ha).1
  · rw [ev_up_ne _ _ (by omega), rup_ne _ _ (by omega)]
    exact (h.2.2.1 a ha).2.1
  · intro hp
    rw [rup_ne _ _ (by omega)] at hp
    rw [ev_up_ne _ _ (by omega), rup_ne _ _ (by omega)]
    exact (h.2.2.1 a ha).2.2.1 hp
  · rw [ev_up_ne _ _ (by omega), rup_ne _ _ (by omega)]
    exact (h.2.2.1 a ha).2.2.2.1
  · rw [ev_up_ne _ _ (by omega), rup_ne _ _ (by omega)]
    exact (h.2.2.1 a ha).2.2.2.2
  · rw [ev_up_ne _ _ (by omega), rup_ne _ _ (by omega)]
    exact (h.2.2.2 i hi).1
  · rw [ev_up_ne _ _ (by omega), rup_ne _ _ (by omega)]
    exact (h.2.2.2 i hi).2.1
  · by_cases e : i = i0
    · subst e
      rw [ev_up_same, rup_same]; omega
    · rw [ev_up_ne _ _ (by omega), rup_ne _ _ (by omega)]
      exact (h.2.2.2 i hi).2.2
/-- the goal of one who isn't busy is never asked -/
theorem XC_goalx {σ : ev_S} {k : Nat} {r : Nat → Int} {z : Int} {a0 : Nat} (hb : ¬ 0 < r (33 + a0)) (h : XC σ k r) : XC (ev_up σ (k + 6) a0 z) k r := by
  refine ⟨⟨?_, ?_, ?_⟩, fun w hw => ⟨?_, ?_, ?_⟩, fun a ha => ⟨?_, ?_, ?_, ?_, ?_⟩, fun i hi => ⟨?_, ?_, ?_⟩⟩
  · rw [ev_up_ne _ _ (by omega)]; exact h.1.1
  · rw [ev_up_ne _ _ (by omega)]; exact h.1.2.1
  · rw [ev_up_ne _ _ (by omega)]; exact h.1.2.2
  · rw [ev_up_ne _ _ (by omega)]; exact (h.2.1 w hw).1
  · rw [ev_up_ne _ _ (by omega)]; exact (h.2.1 w hw).2.1
  · rw [ev_up_ne _ _ (by omega)]; exact (h.2.1 w hw).2.2
  · rw [ev_up_ne _ _ (by omega)]; exact (h.2.2.1 a ha).1
  · rw [ev_up_ne _ _ (by omega)]; exact (h.2.2.1 a ha).2.1
  · intro hp
    by_cases e : a = a0
    · subst e; exact absurd hp hb
    · rw [ev_up_ne _ _ (by omega)]; exact (h.2.2.1 a ha).2.2.1 hp
  · rw [ev_up_ne _ _ (by omega)]; exact (h.2.2.1 a ha).2.2.2.1
  · rw [ev_up_ne _ _ (by omega)]; exact (h.2.2.1 a ha).2.2.2.2
  · rw [ev_up_ne _ _ (by omega)]; exact (h.2.2.2 i hi).1
  · rw [ev_up_ne _ _ (by omega)]; exact (h.2.2.2 i hi).2.1
  · rw [ev_up_ne _ _ (by omega)]; exact (h.2.2.2 i hi).2.2
theorem XC_goaly {σ : ev_S} {k : Nat} {r : Nat → Int} {z : Int} {a0 : Nat} (h0 : a0 < 6) (hb : ¬ 0 < r (33 + a0)) (h : XC σ k r) : XC σ k (rup r (45 + a0) z) := by
  refine ⟨⟨?_, ?_, ?_⟩, fun w hw => ⟨?_, ?_, ?_⟩, fun a ha => ⟨?_, ?_, ?_, ?_, ?_⟩, fun i hi => ⟨?_, ?_, ?_⟩⟩
  · rw [rup_ne _ _ (by omega)]; exact h.1.1
  · rw [rup_ne _ _ (by omega)]; exact h.1.2.1
  · rw [rup_ne _ _ (by omega)]; exact h.1.2.2
  · rw [rup_ne _ _ (by omega)]; exact (h.2.1 w hw).1
  · rw [rup_ne _ _ (by omega)]; exact (h.2.1 w hw).2.1
  · rw [rup_ne _ _ (by omega)]; exact (h.2.1 w hw).2.2
  · rw [rup_ne _ _ (by omega)]; exact (h.2.2.1 a ha).1
  · rw [rup_ne _ _ (by omega)]; exact (h.2.2.1 a ha).2.1
  · intro hp
    rw [rup_ne _ _ (by omega)] at hp
    by_cases e : a = a0
    · subst e; exact absurd hp hb
    · rw [rup_ne _ _ (by omega)]; exact (h.2.2.1 a ha).2.2.1 hp
  · rw [rup_ne _ _ (by omega)]; exact (h.2.2.1 a ha).2.2.2.1
  · rw [rup_ne _ _ (by omega)]; exact (h.2.2.1 a ha).2.2.2.2
  · rw [rup_ne _ _ (by omega)]; exact (h.2.2.2 i hi).1
  · rw [rup_ne _ _ (by omega)]; exact (h.2.2.2 i hi).2.1
  · rw [rup_ne _ _ (by omega)]; exact (h.2.2.2 i hi).2.2
theorem XC_row {σ : ev_S} {k : Nat} {r r' : Nat → Int} (h : XC σ k r) (e : ∀ i, i < 87 → r' i = r i) : XC σ k r' := by
  refine ⟨⟨?_, ?_, ?_⟩, fun w hw => ⟨?_, ?_, ?_⟩, fun a ha => ⟨?_, ?_, ?_, ?_, ?_⟩, fun i hi => ⟨?_, ?_, ?_⟩⟩
  · rw [e _ (by omega)]; exact h.1.1
  · rw [e _ (by omega)]; exact h.1.2.1
  · rw [e _ (by omega)]; exact h.1.2.2
  · rw [e _ (by omega)]; exact (h.2.1 w hw).1
  · rw [e _ (by omega)]; exact (h.2.1 w hw).2.1
  · rw [e _ (by omega)]; exact (h.2.1 w hw).2.2
  · rw [e _ (by omega)]; exact (h.2.2.1 a ha).1
  · rw [e _ (by omega)]; exact (h.2.2.1 a ha).2.1
  · intro hp
    rw [e _ (by omega)] at hp
    rw [e _ (by omega)]; exact (h.2.2.1 a ha).2.2.1 hp
  · rw [e _ (by omega)]; exact (h.2.2.1 a ha).2.2.2.1
  · rw [e _ (by omega)]; exact (h.2.2.1 a ha).2.2.2.2
  · rw [e _ (by omega)]; exact (h.2.2.2 i hi).1
  · rw [e _ (by omega)]; exact (h.2.2.2 i hi).2.1
  · rw [e _ (by omega)]; exact (h.2.2.2 i hi).2.2
