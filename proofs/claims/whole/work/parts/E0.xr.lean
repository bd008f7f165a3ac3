section
/-! the relation at the start -/
theorem cv_m0_ok : ev_ok cv_m0 := by
  intro k i
  unfold cv_m0
  split
  · split
    · have h : ∀ i : Fin 178, decide (w_tab.getD i.val 0 ≤ 1000) = true := by decide +kernel
      have h2 := of_decide_eq_true (h ⟨i, by assumption⟩)
      simp only at h2
      exact ⟨by omega, by omega⟩
    · exact ev_R0
  · split
    · split
      · exact ⟨by omega, by omega⟩
      · exact ev_R0
    · exact ev_R0
theorem cv_m00 {i : Nat} (h : i ≠ 38) : cv_m0 0 i = 0 := by simp [cv_m0, h]
theorem cv_m0k {k i : Nat} (h : k ≠ 11) (h0 : k ≠ 0) : cv_m0 k i = 0 := by simp [cv_m0, h, h0]
theorem XR_0 {σ : ev_S} (h : XI σ) : XR σ cv_m0 := by
  obtain ⟨⟨t0, t1, t2, t3, t4, t5, t6⟩, hp, hl, hc, hk⟩ := h
  have z : ∀ (k i : Nat), k ≠ 11 → k ≠ 0 → cv_m0 k i = 0 := fun k i h1 h2 => cv_m0k h1 h2
  have e1 : cv_m0 1 = fun _ => 0 := by funext i; exact z 1 i (by omega) (by omega)
  have e9 : cv_m0 9 = fun _ => 0 := by funext i; exact z 9 i (by omega) (by omega)
  have zs : ∀ (c i : Nat), c ≠ 1 → c ≠ 2 → c ≠ 10 → (c < 15 ∨ 26 < c) → c ≠ 137 → σ c i = 0 := by
    intro c i n1 n2 n3 n4 n5
    rw [hk c n1 n2 n3 n4]
    simp [cv_s0, n5]
  refine ⟨0, 0, 0, 0, ⟨⟨?_, ?_, ?_, ?_, ?_, ?_, ?_, ?_, ?_, ?_⟩, ⟨?_, ?_, ?_, ?_, ?_, ?_⟩, ⟨?_, ?_⟩, ?_⟩, ⟨⟨⟨?_, ?_, ?_, ?_, ?_, ?_, ?_⟩, ?_, ?_, ?_, ?_, ?_, ?_, ?_⟩, ?_, ?_⟩, ⟨0, 0, ⟨by omega, by omega, ?_, ?_, ?_⟩, ?_, ?_⟩, ⟨Or.inl ?_, Or.inl ?_⟩, Or.inl ⟨?_, ?_⟩, ⟨⟨0, by omega, ?_, ?_, ?_⟩, ⟨?_, ?_, ?_⟩, ?_, ?_⟩⟩
  · exact ⟨by rw [cv_m00 (by omega)]; omega, by rw [cv_m00 (by omega)]; omega⟩
  · exact ⟨by rw [cv_m00 (by omega)]; rfl, by omega⟩
  · exact ⟨by rw [cv_m00 (by omega)]; rfl, by omega⟩
  · exact ⟨by rw [cv_m00 (by omega)]; rfl, by omega⟩
  · exact ⟨by rw [cv_m00 (by omega)]; rfl, by omega⟩
  · rw [cv_m00 (by omega)]; omega
  · intro k _; rw [z 4 k (by omega) (by omega)]; omega
  · intro a ha; exact absurd ha (by omega)
  · intro a ha; exact absurd ha (by omega)
  · refine ⟨by rw [cv_m00 (by omega)]; omega, fun j hj => ?_⟩
    rw [cv_m00 (by omega)] at hj
    exact absurd hj (by omega)
  · simp only [e1]; omega
  · simp only [e1]; omega
  · intro w hw; exact absurd hw (by omega)
  · intro a ha; exact absurd ha (by omega)
  · intro i j h1 h2
    simp only [e1] at h2
    exact absurd h2 (by simp)
  · intro l hl2
    simp only [e1] at hl2
    exact absurd hl2 (by simp)
  · intro w _ _; simp only [e1]; exact ⟨trivial, trivial⟩
  · intro a _ _; simp only [e1]; exact ⟨trivial, trivial, trivial⟩
  · exact cv_m00 (by omega)
  · rw [cv_m00 (by omega)]; exact t0
  · rw [cv_m00 (by omega)]; exact t1
  · rw [cv_m00 (by omega)]; exact t2
  · rw [cv_m00 (by omega)]; exact t3
  · rw [cv_m00 (by omega)]; exact t4
  · rw [cv_m00 (by omega)]; exact t5
  · rw [cv_m00 (by omega)]; exact t6
  · intro k hk2; rw [z 4 k (by omega) (by omega)]; exact hp k hk2
  · intro w hw; rw [cv_m00 (by omega)] at hw; exact absurd hw (by omega)
  · intro w hw; rw [cv_m00 (by omega)] at hw; exact absurd hw (by omega)
  · intro w hw; rw [cv_m00 (by omega)] at hw; exact absurd hw (by omega)
  · intro w hw; rw [cv_m00 (by omega)] at hw; exact absurd hw (by omega)
  · show σ 10 5 = cv_m0 0 25
    rw [cv_m00 (by omega)]; exact hl
  · refine ⟨fun _ => 0, fun j hj => ?_⟩
    rw [cv_m00 (by omega)] at hj
    exact absurd hj (by omega)
  · rw [e1]; exact hc
  · intro i hi
    simp only [e1] at hi
    exact absurd hi (by simp)
  · exact cv_m00 (by omega)
  · exact zs 29 2 (by omega) (by omega) (by omega) (by omega) (by omega)
  · exact zs 29 1 (by omega) (by omega) (by omega) (by omega) (by omega)
  · intro j hj; exact absurd hj (by omega)
  · intro i j _ hj; exact absurd hj (by omega)
  · exact zs 146 7 (by omega) (by omega) (by omega) (by omega) (by omega)
  · exact zs 162 19 (by omega) (by omega) (by omega) (by omega) (by omega)
  · exact cv_m00 (by omega)
  · exact zs 103 3 (by omega) (by omega) (by omega) (by omega) (by omega)
  · exact cv_m00 (by omega)
  · exact zs 132 1 (by omega) (by omega) (by omega) (by omega) (by omega)
  · intro i hi; exact absurd hi (by omega)
  · rw [cv_m00 (by omega), hk 137 (by omega) (by omega) (by omega) (by omega)]; simp [cv_s0]
  · rw [hk 137 (by omega) (by omega) (by omega) (by omega)]; simp [cv_s0, cv_m0]
  · exact zs 141 0 (by omega) (by omega) (by omega) (by omega) (by omega)
  · intro i hi; simp [cv_m0, hi]
  · intro i _
    rw [zs 3 i (by omega) (by omega) (by omega) (by omega) (by omega), zs 106 i (by omega) (by omega) (by omega) (by omega) (by omega)]
    omega
end
