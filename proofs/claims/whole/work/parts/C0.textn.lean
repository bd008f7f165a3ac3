section
/-! TEXT: none such -/
/-- a call that answers alike from these two states -/
def SimAt (MX MM : ev_M) (l : List (Nat × ev_V)) (σ s : ev_S) : Prop := ∃ (v : ev_V) (P P' : ev_S → Prop), Ev layX MX 60 0 ((0, ev_r 0) :: l) [] σ (fun u σ' => u = some v ∧ P σ') ∧ Ev layM MM 60 0 ((0, ev_r 0) :: l) [] s (fun u s' => u = some v ∧ P' s') ∧ ∀ σ' s', P σ' → P' s' → XR σ' s'
theorem st_N {a p : Int} {σ s : ev_S} (hR : XR σ s) (h1 : a ≠ 1) (h3 : a ≠ 3) (g0 : a = 0 → ¬ (0 ≤ p ∧ p < s 0 10)) (g2 : a = 2 → ¬ (0 ≤ p ∧ p < s 0 11)) : SimAt M_X11_text M_X12_text [(1, ev_i a), (2, ev_i p)] σ s := by
  have hT : RT σ s ∧ XT σ 1 s := by obtain ⟨N, A, NO, MI, hM, hX, hP, hF, hI, hT⟩ := id hR; exact ⟨hT, hX.1⟩
  obtain ⟨⟨⟨L, hL, t1, t2, t3⟩, ⟨t4, t5, t6⟩, t7, t8⟩, hX⟩ := hT
  have e4 : σ 1 4 = s 0 10 := hX.1.2.2.2.1
  have e7 : σ 1 7 = s 0 11 := hX.1.2.2.2.2.1
  have hx : TPx σ (s 10) L := ⟨t2, hL, t3⟩
  have hm : TPm s (s 10) L := ⟨t1, rfl, hL, fun i hi => (t3 i hi).1, t7⟩
  refine ⟨ev_i (-1), XF σ 0 (-1), MF s 0 (-1), ?_, ?_, fun σ' s' => XR_fail hR⟩
  · have g60 : Ev layX M_X11_text 60 60 [(0, ev_r 0), (1, ev_i a), (2, ev_i p)] [ev_i (-1), ev_r 137] σ (fun u σ' => u = some (ev_i (-1)) ∧ XF σ 0 (-1) σ') := by
      refine wp_X11_text_60 (sp_xread (d := 49) hx (fun n' σ1 hN' a1 a2 a3 a4 => ?_))
      unfold RDX
      refine ⟨fun _ => ⟨fun _ => ⟨fun _ => ⟨fun _ => wp_X8_read_162 ?_, fun w => absurd w (by omega)⟩, fun w => absurd w (by omega)⟩, fun w => absurd w (by omega)⟩, fun w => absurd w (by omega)⟩
      rintro _ rfl
      refine ⟨fun w => absurd rfl w, fun _ => ev_pi_mk ⟨fun w => absurd rfl w, fun _ => ⟨rfl, fun c hc => ?_, ev_up_same _ _ _ _, ?_, ?_, ?_⟩⟩⟩
      · rw [ev_upj _ _ (by omega)]; exact a4 c (by omega)
      · rw [ev_upj _ _ (by omega)]; exact a1.2.2.1
      · rw [ev_upj _ _ (by omega)]; exact a1.2.2.2.2.2
      · rw [ev_upj _ _ (by omega), a4 141 (by omega)]; exact t6
    have g25 : Ev layX M_X11_text 60 25 [(0, ev_r 0), (1, ev_i a), (2, ev_i p)] [] σ (fun u σ' => u = some (ev_i (-1)) ∧ XF σ 0 (-1) σ') := by
      refine wp_X11_text_25 ⟨fun _ => ⟨fun _ => g60, fun w => absurd rfl w⟩, fun w => sp_hasAngel (k := 1) is_X10_1 (ev_pi_mk ⟨fun _ => ⟨fun _ => g60, fun w => absurd rfl w⟩, fun w2 => ?_⟩)⟩
      rw [e7, if_neg (g2 w)] at w2
      exact absurd rfl w2
    refine wp_X11_text_0 ⟨fun w => absurd w h1, fun _ => ⟨fun w => absurd w h3, fun _ => ⟨fun _ => g25, fun w => sp_hasWard (k := 1) is_X10_1 (ev_pi_mk ⟨fun w2 => ?_, fun _ => g25⟩)⟩⟩⟩
    rw [e4, if_neg (g0 w)] at w2
    exact absurd rfl w2
  · refine sp_mtext (d := 50) hm (fun s6 b1 b2 b3 b4 b5 b6 b7 b8 _ => ?_)
    have fin : ∀ r : Int, r = 0 → ev_pi (fun r8 s7 => ((r8 = 0 → Ev layM M_X12_text (50 + 10) 68 [(0, ev_r 0), (1, ev_i a), (2, ev_i p), (3, ev_i (-1))] [] s7 (fun u s' => u = some (ev_i (-1)) ∧ MF s 0 (-1) s')) ∧ (r8 ≠ 0 → (Ev layM M_X12_readsText (50 + 9) 0 [(0, ev_r 0), (1, ev_i a)] [] s7 (ev_pi (fun r10 s9 => ((r10 ≠ (-1) → Ev layM M_X12_text (50 + 10) 68 [(0, ev_r 0), (1, ev_i a), (2, ev_i p), (3, ev_i r10)] [] s9 (fun u s' => u = some (ev_i (-1)) ∧ MF s 0 (-1) s')) ∧ (r10 = (-1) → (∀ s11, ev_up s9 0 37 (s9 0 35) = s11 → (∀ s12, ev_up s11 0 38 (s11 0 36) = s12 → Ev layM M_X12_text (50 + 10) 68 [(0, ev_r 0), (1, ev_i a), (2, ev_i p), (3, ev_i r10)] [] s12 (fun u s' => u = some (ev_i (-1)) ∧ MF s 0 (-1) s'))))))))))) (some (ev_i r)) s6 := by
      intro r hr
      refine ev_pi_mk ⟨fun _ => wp_X12_text_68 ?_, fun w => absurd hr w⟩
      rintro _ rfl
      exact ⟨fun _ => ⟨rfl, frT_up b1 (by omega), ev_up_same _ _ _ _, by rw [ev_up_ne _ _ (by omega)]; exact b6, by rw [ev_up_ne _ _ (by omega)]; exact b7⟩, fun w => absurd rfl w⟩
    refine wp_X12_canText_0 ⟨fun w => ⟨fun w2 => ⟨fun q => absurd q h1, fun _ => ⟨fun _ => fin 0 rfl, fun q => absurd q h3⟩⟩, fun w2 => sp_isAngel (ev_pi_mk ?_)⟩, fun w => sp_isWard (ev_pi_mk ?_)⟩
    · rw [b8 11 (by omega), if_neg (g2 w2)]
      exact ⟨Or.inl rfl, fin 0 rfl⟩
    · rw [b8 10 (by omega), if_neg (g0 w)]
      exact ⟨Or.inl rfl, fin 0 rfl⟩
end
