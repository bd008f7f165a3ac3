section
/-! TEXT: what is taken -/
theorem XR_tld2 {σ s σ1 s' : ev_S} {N A N' A' NO' MI' : Nat} (hP : RP σ s N A) (hI : RI σ1 s') (hT : RT σ1 s') (hM : RM s' N' A' NO' MI') (hX : RX σ1 s') (h3 : s' 0 3 = 0) (e1 : σ1 29 1 = σ 29 1) : XR (tld σ1) s' := by
  obtain ⟨U, nx, ⟨u1, u2, u3, u4, u5⟩, u6, u7⟩ := hP
  have hc : ∀ c, c ≠ 29 → c ≠ 146 → c ≠ 162 → tld σ1 c = σ1 c := fun c h1 h2 h3 => tld_c h1 h2 h3
  refine ⟨N', A', NO', MI', hM, ⟨XT_keep hX.1 (fun c c1 c2 => hc c (by omega) (by omega) (by omega)), XC_keep hX.2.1 (fun c c1 c2 => hc c (by omega) (by omega) (by omega)), fun i hi => by rw [hc 28 (by omega) (by omega) (by omega)]; exact hX.2.2 i hi⟩, ⟨0, nx, ⟨by omega, u2, by rw [h3]; rfl, by rw [tld_29.1]; rfl, by rw [tld_29.2, e1]; exact u5⟩, fun j hj => absurd hj (by omega), fun i j _ hj => absurd hj (by omega)⟩, ⟨Or.inl tld_f.1, Or.inl tld_f.2⟩, RI_keep hI rfl rfl (by rw [hc 103 (by omega) (by omega) (by omega)]) (fun c c1 c2 c3 => hc c (by omega) (by omega) (by omega)), RT_keep hT (fun i hi => rfl) rfl rfl (by rw [hc 132 (by omega) (by omega) (by omega)]) (hc 133 (by omega) (by omega) (by omega)) (by rw [hc 137 (by omega) (by omega) (by omega)]) (by rw [hc 137 (by omega) (by omega) (by omega)]) (hc 3 (by omega) (by omega) (by omega)) (hc 106 (by omega) (by omega) (by omega)) (hc 141 (by omega) (by omega) (by omega))⟩
theorem sp_takesMishaps {d c : Nat} {s : ev_S} {Q : Option ev_V → ev_S → Prop} (hc : c ≤ 10) (h : ∀ s', s' 0 46 = (c : Int) → (∀ i, i < 7 * c → s' 24 i = s 24 (70 + i)) → (∀ i, i ≠ 46 → s' 0 i = s 0 i) → (∀ i, 57 ≤ i → i < 87 → s' 1 i = 0) → (∀ i, i < 57 → s' 1 i = s 1 i) → (∀ q, q ≠ 0 → q ≠ 1 → q ≠ 24 → s' q = s q) → Q none s') : Ev layM M_X12_takesMishaps d 0 [(0, ev_r 0), (1, ev_i (c : Int))] [] s Q := by
  have l2 : ∀ s1 : ev_S, s1 0 46 = (c : Int) → (∀ i, i < 7 * c → s1 24 i = s 24 (70 + i)) → (∀ i, i ≠ 46 → s1 0 i = s 0 i) → (∀ q, q ≠ 0 → q ≠ 24 → s1 q = s q) → ∀ n i, i + n = 10 → ∀ s2 : ev_S, (∀ q, q < i → s2 1 (57 + q) = 0 ∧ s2 1 (67 + q) = 0 ∧ s2 1 (77 + q) = 0) → (∀ q, q < 57 → s2 1 q = s 1 q) → (∀ q, q ≠ 1 → s2 q = s1 q) → Ev layM M_X12_takesMishaps d 38 [(0, ev_r 0), (2, ev_i (i : Int))] [] s2 Q := by
    intro s1 a1 a2 a3 a4 n
    induction n with
    | zero =>
      intro i hi s2 b1 b2 b3
      refine wp_X12_takesMishaps_38 ⟨fun _ => h _ (by rw [b3 0 (by omega)]; exact a1) (fun q hq => by rw [b3 24 (by omega)]; exact a2 q hq) (fun q hq => by rw [b3 0 (by omega)]; exact a3 q hq) (fun q h1 h2 => ?_) b2 (fun q q0 q1 q2 => by rw [b3 q q1]; exact a4 q q0 q2), fun q => absurd q (by omega)⟩
      by_cases c1 : q < 67
      · have := (b1 (q - 57) (by omega)).1
        rw [show 57 + (q - 57) = q by omega] at this; exact this
      · by_cases c2 : q < 77
        · have := (b1 (q - 67) (by omega)).2.1
          rw [show 67 + (q - 67) = q by omega] at this; exact this
        · have := (b1 (q - 77) (by omega)).2.2
          rw [show 77 + (q - 77) = q by omega] at this; exact this
    | succ n ih =>
      intro i hi s2 b1 b2 b3
      refine wp_X12_takesMishaps_38 ?_
      rw [ev_add_eq (x := 57) ⟨by omega, by omega⟩, ev_add_eq (x := 67) ⟨by omega, by omega⟩, ev_add_eq (x := 77) ⟨by omega, by omega⟩, ev_add_eq (x := (i : Int)) ⟨by omega, by omega⟩, show Int.toNat (57 + (i : Int)) = 57 + i by omega, show Int.toNat (67 + (i : Int)) = 67 + i by omega, show Int.toNat (77 + (i : Int)) = 77 + i by omega, show (i : Int) + 1 = ((i + 1 : Nat) : Int) by omega]
      refine ⟨fun q => absurd q (by omega), fun _ => ⟨by omega, ?_⟩⟩
      rintro _ rfl
      refine ⟨by omega, ?_⟩
      rintro _ rfl
      refine ⟨by omega, ?_⟩
      rintro _ rfl
      refine ih (i + 1) (by omega) _ (fun q hq => ?_) (fun q hq => ?_) (fun q hq => ?_)
      · by_cases e : q = i
        · subst e
          exact ⟨by rw [ev_up_ne _ _ (by omega), ev_up_ne _ _ (by omega), ev_up_same], by rw [ev_up_ne _ _ (by omega), ev_up_same], by rw [ev_up_same]⟩
        · obtain ⟨d1, d2, d3⟩ := b1 q (by omega)
          exact ⟨by rw [ev_up_ne _ _ (by omega), ev_up_ne _ _ (by omega), ev_up_ne _ _ (by omega)]; exact d1, by rw [ev_up_ne _ _ (by omega), ev_up_ne _ _ (by omega), ev_up_ne _ _ (by omega)]; exact d2, by rw [ev_up_ne _ _ (by omega), ev_up_ne _ _ (by omega), ev_up_ne _ _ (by omega)]; exact d3⟩
      · rw [ev_up_ne _ _ (by omega), ev_up_ne _ _ (by omega), ev_up_ne _ _ (by omega)]; exact b2 q hq
      · rw [ev_upj _ _ hq, ev_upj _ _ hq, ev_upj _ _ hq]; exact b3 q hq
  have l1 : ∀ n i, i + n = 7 * c → ∀ s1 : ev_S, (∀ q, q < i → s1 24 q = s 24 (70 + q)) → (∀ q, 70 ≤ q → s1 24 q = s 24 q) → (∀ q, q ≠ 24 → s1 q = s q) → Ev layM M_X12_takesMishaps d 2 [(0, ev_r 0), (1, ev_i (c : Int)), (2, ev_i (i : Int))] [] s1 Q := by
    intro n
    induction n with
    | zero =>
      intro i hi s1 b1 b2 b3
      refine wp_X12_takesMishaps_2 ?_
      rw [ev_mul_eq ⟨by omega, by omega⟩]
      refine ⟨fun _ => ?_, fun q => absurd q (by omega)⟩
      rintro _ rfl
      exact l2 _ (ev_up_same _ _ _ _) (fun q hq => by rw [ev_upj _ _ (by omega)]; exact b1 q (by omega)) (fun q hq => by rw [ev_up_ne _ _ (by omega), b3 0 (by omega)]) (fun q q0 q1 => by rw [ev_upj _ _ q0]; exact b3 q q1) 10 0 (by omega) _ (fun q hq => absurd hq (by omega)) (fun q _ => by rw [ev_upj _ _ (by omega), b3 1 (by omega)]) (fun _ _ => rfl)
    | succ n ih =>
      intro i hi s1 b1 b2 b3
      refine wp_X12_takesMishaps_2 ?_
      rw [ev_mul_eq ⟨by omega, by omega⟩, ev_add_eq (x := 70) ⟨by omega, by omega⟩, ev_add_eq (x := (i : Int)) ⟨by omega, by omega⟩, Int.toNat_natCast, show Int.toNat (70 + (i : Int)) = 70 + i by omega, show (i : Int) + 1 = ((i + 1 : Nat) : Int) by omega]
      refine ⟨fun q => absurd q (by omega), fun _ => ⟨by omega, by omega, ?_⟩⟩
      rintro _ rfl
      refine ih (i + 1) (by omega) _ (fun q hq => ?_) (fun q hq => ?_) (fun q hq => ?_)
      · by_cases e : q = i
        · subst e
          rw [ev_up_same]; exact b2 _ (by omega)
        · rw [ev_up_ne _ _ (by omega)]; exact b1 q (by omega)
      · rw [ev_up_ne _ _ (by omega)]; exact b2 q hq
      · rw [ev_upj _ _ hq]; exact b3 q hq
  exact wp_X12_takesMishaps_0 (l1 (7 * c) 0 (by omega) s (fun q hq => absurd hq (by omega)) (fun _ _ => rfl) (fun _ _ => rfl))
end
