section
theorem sim_text (a p : Int) : Sim M_X11_text M_X12_text [(1, ev_i a), (2, ev_i p)] := by
  intro σ s hσ hs hR
  by_cases h1 : a = 1
  · subst h1; exact st_1 hR
  by_cases h3 : a = 3
  · subst h3; exact sim_text3 p σ s hσ hs hR
  by_cases h0 : a = 0 ∧ (0 ≤ p ∧ p < s 0 10)
  · obtain ⟨rfl, h4, h5⟩ := h0
    obtain ⟨w, rfl⟩ := Int.eq_ofNat_of_zero_le h4
    exact st_0 hR h5
  by_cases h2 : a = 2 ∧ (0 ≤ p ∧ p < s 0 11)
  · obtain ⟨rfl, h4, h5⟩ := h2
    obtain ⟨w, rfl⟩ := Int.eq_ofNat_of_zero_le h4
    exact st_2 hR h5
  exact st_N hR h1 h3 (fun e q => h0 ⟨e, q⟩) (fun e q => h2 ⟨e, q⟩)
end
