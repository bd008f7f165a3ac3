section
/-! TEXT: a law -/
theorem EN_ex {b : Nat → Int} {L : Nat} (hL : L ≤ 400) : ∃ n, EN b L n := by
  have key : ∀ m, (∃ n, n ≤ m ∧ kF b L n = L ∧ ∀ j, j < n → kF b L j < L) ∨ (∀ j, j ≤ m → kF b L j < L) := by
    intro m
    induction m with
    | zero =>
      have := kF_le (b := b) (L := L) 0
      by_cases c : kF b L 0 = L
      · exact Or.inl ⟨0, Nat.le_refl _, c, fun j hj => absurd hj (by omega)⟩
      · exact Or.inr (fun j hj => by rw [show j = 0 by omega]; omega)
    | succ m ih =>
      rcases ih with ⟨n, h1, h2, h3⟩ | h
      · exact Or.inl ⟨n, by omega, h2, h3⟩
      · have := kF_le (b := b) (L := L) (m + 1)
        by_cases c : kF b L (m + 1) = L
        · exact Or.inl ⟨m + 1, Nat.le_refl _, c, fun j hj => h j (by omega)⟩
        · refine Or.inr (fun j hj => ?_)
          by_cases e : j = m + 1
          · rw [e]; omega
          · exact h j (by omega)
  rcases key 400 with ⟨n, h1, h2, h3⟩ | h
  · exact ⟨n, h1, hL, h2, h3⟩
  · have a := h 400 (Nat.le_refl _)
    have c := (tp_prop (b := b) (L := L) 400).2 a
    omega
theorem EN_un {b : Nat → Int} {L n n' : Nat} (h : EN b L n) (h' : EN b L n') : n' = n := by
  by_cases c : n' < n
  · have := h.2.2.2 n' c
    have := h'.2.2.1
    omega
  · by_cases c2 : n < n'
    · have := h'.2.2.2 n c2
      have := h.2.2.1
      omega
    · omega
theorem sim_text3 (p : Int) : Sim M_X11_text M_X12_text [(1, ev_i 3), (2, ev_i p)] := by
  intro σ s hσ hs hR
  have hT : RT σ s := by obtain ⟨N, A, NO, MI, hM, hX, hP, hF, hI, hT⟩ := id hR; exact hT
  obtain ⟨⟨L, hL, t1, t2, t3⟩, ⟨t4, t5, t6⟩, t7, t8⟩ := hT
  have hx : TPx σ (s 10) L := ⟨t2, hL, t3⟩
  have hm : TPm s (s 10) L := ⟨t1, rfl, hL, fun i hi => (t3 i hi).1, t7⟩
  obtain ⟨n, hN⟩ := EN_ex (b := s 10) hL
  have xt : ∀ Q : Option ev_V → ev_S → Prop, (∀ σ1, AX (s 10) L n σ1 0 → σ1 137 3 = 0 → σ1 137 4 = 0 → (∀ c, c < 132 ∨ 137 < c → σ1 c = σ c) → Ev layX M_X8_readLaw 58 0 [(0, ev_r 137)] [] σ1 (ev_pi (fun r9 s8 => ((r9 = 0 → Ev layX M_X8_read 59 162 [(0, ev_r 137), (1, ev_i 3), (2, ev_i 0)] [] s8 (ev_pi (fun r2 s1 => ((r2 ≠ (-1) → Ev layX M_X4_copyFrom 59 0 [(0, ev_r 10), (1, ev_r 139)] [] s1 (fun _ s3 => Q (some (ev_i r2)) s3)) ∧ (r2 = (-1) → Q (some (ev_i (-1))) s1))))) ∧ (r9 ≠ 0 → TX 58 s8 (fun v s10 => Ev layX M_X8_read 59 162 [(0, ev_r 137), (1, ev_i 3), (2, ev_i v)] [] s10 (ev_pi (fun r2 s1 => ((r2 ≠ (-1) → Ev layX M_X4_copyFrom 59 0 [(0, ev_r 10), (1, ev_r 139)] [] s1 (fun _ s3 => Q (some (ev_i r2)) s3)) ∧ (r2 = (-1) → Q (some (ev_i (-1))) s1)))))))))) → Ev layX M_X11_text 60 0 [(0, ev_r 0), (1, ev_i 3), (2, ev_i p)] [] σ Q := by
    intro Q h
    refine wp_X11_text_0 ⟨fun w => absurd w (by omega), fun _ => ⟨fun _ => wp_X11_text_41 ⟨fun w => absurd w (by omega), fun _ => wp_X11_text_60 ?_⟩, fun w => absurd rfl w⟩⟩
    have hmono : ∀ (u : Option ev_V) (s1 : ev_S), ev_pi (fun r2 s1 => ((r2 ≠ (-1) → Ev layX M_X4_copyFrom 59 0 [(0, ev_r 10), (1, ev_r 139)] [] s1 (fun _ s3 => Q (some (ev_i r2)) s3)) ∧ (r2 = (-1) → Q (some (ev_i (-1))) s1))) u s1 → ev_pi (fun r2 s1 => ((r2 ≠ (-1) → (((3 : Int) ≠ 0 → (((3 : Int) ≠ 1 → (((3 : Int) ≠ 2 → (Ev layX M_X4_copyFrom 59 0 [(0, ev_r 10), (1, ev_r 139)] [] s1 (fun _ s3 => Ev layX M_X11_text (59 + 1) 127 [(0, ev_r 0), (1, ev_i 3), (4, ev_i r2)] [] s3 Q))) ∧ ((3 : Int) = 2 → (Ev layX M_X11_takePlan 59 0 [(0, ev_r 0), (1, ev_i p)] [] s1 (fun _ s4 => Ev layX M_X11_text (59 + 1) 127 [(0, ev_r 0), (1, ev_i 3), (4, ev_i r2)] [] s4 Q))))) ∧ ((3 : Int) = 1 → (Ev layX M_X11_takeMishaps 59 0 [(0, ev_r 0)] [] s1 (fun _ s5 => Ev layX M_X11_text (59 + 1) 127 [(0, ev_r 0), (1, ev_i 3), (4, ev_i r2)] [] s5 Q))))) ∧ ((3 : Int) = 0 → (Ev layX M_X11_takeWay 59 0 [(0, ev_r 0), (1, ev_i p)] [] s1 (fun _ s6 => Ev layX M_X11_text (59 + 1) 127 [(0, ev_r 0), (1, ev_i 3), (4, ev_i r2)] [] s6 Q))))) ∧ (r2 = (-1) → Q (some (ev_i (-1))) s1))) u s1 := by
      intro u s1 hu z hz
      have := hu z hz
      refine ⟨fun w => ⟨fun _ => ⟨fun _ => ⟨fun _ => Ev_mono (fun v s3 e => wp_X11_text_127 ⟨fun _ => e, fun w => absurd rfl w⟩) (this.1 w), fun w => absurd w (by omega)⟩, fun w => absurd w (by omega)⟩, fun w => absurd w (by omega)⟩, this.2⟩
    refine Ev_mono hmono (sp_xread (d := 49) hx (fun n' σ1 hN' a1 a2 a3 a4 => ?_))
    rw [EN_un hN hN'] at a1
    have g := h σ1 a1 a2 a3 a4
    unfold RDX
    exact ⟨fun _ => ⟨fun _ => ⟨fun _ => ⟨fun w => absurd rfl w, fun _ => g⟩, fun w => absurd w (by omega)⟩, fun w => absurd w (by omega)⟩, fun w => absurd w (by omega)⟩
  have mt : ∀ Q : Option ev_V → ev_S → Prop, (∀ s1, AM (s 10) L s1 0 → frT s s1 → s1 0 31 = 0 → s1 0 32 = 0 → s1 0 37 = 0 → s1 0 38 = -1 → Ev layM M_X12_readText 58 0 [(0, ev_r 0)] [] s1 (ev_pi (fun r10 s9 => ((r10 ≠ (-1) → Ev layM M_X12_text 60 68 [(0, ev_r 0), (1, ev_i 3), (2, ev_i p), (3, ev_i r10)] [] s9 Q) ∧ (r10 = (-1) → (∀ s11, ev_up s9 0 37 (s9 0 35) = s11 → (∀ s12, ev_up s11 0 38 (s11 0 36) = s12 → Ev layM M_X12_text 60 68 [(0, ev_r 0), (1, ev_i 3), (2, ev_i p), (3, ev_i r10)] [] s12 Q))))))) → Ev layM M_X12_text 60 0 [(0, ev_r 0), (1, ev_i 3), (2, ev_i p)] [] s Q := by
    intro Q h
    refine sp_mtext (d := 50) hm (fun s6 b1 b2 b3 b4 b5 b6 b7 _ _ => wp_X12_canText_0 ⟨fun _ => ⟨fun _ => ⟨fun w => absurd w (by omega), fun _ => ⟨fun w => absurd rfl w, fun _ => ev_pi_mk ⟨fun w => absurd w (by omega), fun _ => wp_X12_readsText_0 (sp_mfirst b2 b3 (fun s1 y1 y2 => ⟨fun _ => ⟨fun _ => ⟨fun _ => ?_, fun w => absurd w (by omega)⟩, fun w => absurd w (by omega)⟩, fun w => absurd w (by omega)⟩))⟩⟩⟩, fun w => absurd w (by omega)⟩, fun w => absurd w (by omega)⟩)
    refine Ev_mono (fun u s2 e => ?_) (h s1 y1 (frT_W b1 (frW_rd y2)) (by rw [y2.1 31 (by omega) (by omega) (by omega) (by omega)]; exact b4) (by rw [y2.1 32 (by omega) (by omega) (by omega) (by omega)]; exact b5) (by rw [y2.1 37 (by omega) (by omega) (by omega) (by omega)]; exact b6) (by rw [y2.1 38 (by omega) (by omega) (by omega) (by omega)]; exact b7))
    exact fun z hz => ev_pi_mk (e z hz)
  rcases rd_law hN with ⟨q, i, hX, hM⟩ | ⟨c, k, W, B, f1, f2, f3, f4, hX, hM⟩
  · refine ⟨ev_i (-1), XF σ (q : Int) ((kF (s 10) L i : Nat) : Int), MF s (q : Int) ((kF (s 10) L i : Nat) : Int), xt _ (fun σ1 a1 a2 a3 a4 => hX 57 σ1 (fun v s10 => Ev layX M_X8_read 59 162 [(0, ev_r 137), (1, ev_i 3), (2, ev_i v)] [] s10 _) (by omega) a1 a3 (by rw [a4 141 (by omega)]; exact t6) (fun σ' hF => wp_X8_read_162 ?_)), mt _ (fun s1 a1 a2 a3 a4 a5 a6 => hM 50 s1 _ a1 a3 a4 (fun s' hF => ev_pi_mk ⟨fun w => absurd rfl w, fun _ => sp_mfail (d := 59) a2 hF (fun s'' hm'' => ⟨rfl, hm''⟩)⟩)), fun σ' s' => XR_fail hR⟩
    rintro _ rfl
    exact ⟨fun w => absurd rfl w, fun _ => ev_pi_mk ⟨fun w => absurd rfl w, fun _ => ⟨rfl, xf_fail t6 a4 hF⟩⟩⟩
  · refine ⟨ev_i (k : Int), fun σ' => (∀ q, q < 10 ∨ (13 < q ∧ q < 132) ∨ 143 < q → σ' q = σ q) ∧ σ' 132 1 = 0 ∧ (σ' 137 8 = 0 ∧ σ' 137 9 = -1 ∧ σ' 141 0 = 0) ∧ σ' 10 5 = (k : Int) ∧ (∀ i, i < 800 → σ' 11 i = σ' 140 i) ∧ (∀ i, i < c.length → xcode σ' (cO c) (cA c) i) ∧ (∀ i, i < k → σ' 13 i = if W i = 0 then 1 else 0) ∧ (∀ i, i ≤ k → σ' 12 i = ((csz (cO c) (B i) : Nat) : Int)), fun s' => tr s s' ∧ (s' 1 = s 1 ∧ s' 9 = s 9 ∧ s' 2 = s 2 ∧ s' 36 = s 36 ∧ s' 11 = s 11) ∧ (∀ i, i = 3 ∨ i = 5 ∨ i = 61 → s' 0 i = s 0 i) ∧ (s' 0 19 = 0 ∧ s' 0 37 = 0 ∧ s' 0 38 = -1) ∧ s' 0 25 = (k : Int) ∧ (∀ i, i < k → s' 12 i = W i ∧ s' 13 i = (B i : Int) ∧ s' 14 i = (B (i + 1) : Int)) ∧ (∀ i, i < c.length → s' 15 i = cO c i ∧ s' 16 i = cA c i), xt _ (fun σ1 a1 a2 a3 a4 => hX 57 σ1 (fun v s10 => Ev layX M_X8_read 59 162 [(0, ev_r 137), (1, ev_i 3), (2, ev_i v)] [] s10 _) (by omega) a1 a3 (by rw [a4 141 (by omega)]; exact t6) (fun σ' j hg => wp_X8_read_162 ?_)), mt _ (fun s1 a1 a2 a3 a4 a5 a6 => hM 50 s1 _ a1 a3 a4 (fun s' j hg => ev_pi_mk ⟨fun _ => wp_X12_text_68 ?_, fun w => absurd w (by omega)⟩)), fun σ' s' hp hp' => ?_⟩
    · rintro _ rfl
      refine ⟨fun _ => ⟨fun _ => ev_pi_mk ⟨fun _ => sp_lcopy (d := 58) is_X4_10 is_X4_139 (by omega) (fun s' c4 c5 c1 c2 c3 c6 => ?_), fun w => ?_⟩, fun w => absurd w (by omega)⟩, fun w => absurd w (by omega)⟩
      · obtain ⟨h1, h2, h3, h4, h5, h6, h7, h8⟩ := hg
        rw [ev_upj _ _ (by omega)] at c4 c5
        have k141 : s' 141 0 = 0 := by rw [c6 141 (by omega), ev_upj _ _ (by omega), h2.2, a4 141 (by omega)]; exact t6
        refine ⟨by rw [ev_upj _ _ (by omega), h3], fun q hq => ?_, ?_, ⟨?_, ?_, k141⟩, ?_, fun i hi => ?_, fun i hi => ?_, fun i hi => ?_, fun i hi => ?_⟩
        · rw [c6 q (by omega), ev_upj _ _ (by omega), h2.1 q (by omega)]; exact a4 q (by omega)
        · rw [c6 132 (by omega), ev_up_same]
        · rw [c6 137 (by omega), ev_upj _ _ (by omega)]; exact h1.2.2.1
        · rw [c6 137 (by omega), ev_upj _ _ (by omega)]; exact h1.2.2.2.2.2
        · rw [c5]; exact h4
        · rw [c6 140 (by omega)]; exact c1 i hi
        · have := h6 i hi
          unfold xcode at this ⊢
          rw [c6 140 (by omega), ev_upj _ _ (by omega)]; exact this
        · have := c3 i (by omega)
          rw [ev_upj _ _ (by omega)] at this
          rw [this]; exact h7 i hi
        · have := c2 i (by omega)
          rw [ev_upj _ _ (by omega)] at this
          rw [this]; exact h8 i hi
      · rw [ev_upj _ _ (by omega), hg.2.2.1] at w
        omega
    · rintro _ rfl
      refine ⟨fun w => absurd w (by omega), fun _ => wp_X12_takes_0 ⟨fun _ => ⟨fun _ => wp_X12_takes_20 ⟨fun _ => wp_X12_takes_31 ⟨fun w => absurd rfl w, fun _ => ?_⟩, fun w => absurd w (by omega)⟩, fun w => absurd w (by omega)⟩, fun w => absurd w (by omega)⟩⟩
      obtain ⟨g1, g2, g3, g4, g5, g6⟩ := hg
      have fT := frT_up (i := 19) (z := 0) (frT_W a2 g2) (by omega)
      have hc : ∀ q, q ≠ 0 → ev_up s' 0 19 0 q = s' q := fun q hq => ev_upj _ _ hq
      refine sp_takesLaw (m := c.length) f2 (by rw [ev_up_ne _ _ (by omega)]; exact g3) f1 (fun s2 u1 u2 u3 u4 u5 => ⟨rfl, ?_, ?_, fun i hi => ?_, ?_, u1, fun i hi => ?_, fun i hi => ?_⟩)
      · refine tr_tr3 fT.1 ?_
        unfold tr
        rw [u5 4 (by omega) (by omega), u5 5 (by omega) (by omega), u5 6 (by omega) (by omega), u5 7 (by omega) (by omega), u5 8 (by omega) (by omega), u5 27 (by omega) (by omega), u5 20 (by omega) (by omega), u5 21 (by omega) (by omega), u5 24 (by omega) (by omega), u5 25 (by omega) (by omega), u5 26 (by omega) (by omega), u4 6 (by omega), u4 7 (by omega), u4 8 (by omega), u4 10 (by omega), u4 11 (by omega), u4 12 (by omega), u4 46 (by omega)]
        exact tr_rf
      · rw [u5 1 (by omega) (by omega), u5 9 (by omega) (by omega), u5 2 (by omega) (by omega), u5 36 (by omega) (by omega), u5 11 (by omega) (by omega)]
        exact fT.2.2.1
      · rw [u4 i (by omega)]; exact fT.2.2.2 i hi
      · rw [u4 19 (by omega), u4 37 (by omega), u4 38 (by omega)]
        refine ⟨ev_up_same _ _ _ _, ?_, ?_⟩
        · rw [ev_up_ne _ _ (by omega), g2.1 37 (by omega)]; exact a5
        · rw [ev_up_ne _ _ (by omega), g2.1 38 (by omega)]; exact a6
      · have := u2 i hi
        rw [hc 12 (by omega), hc 13 (by omega), hc 14 (by omega)] at this
        rw [this.1, this.2.1, this.2.2]; exact g6 i hi
      · have := u3 i hi
        rw [hc 15 (by omega), hc 16 (by omega)] at this
        rw [this.1, this.2]; exact g4 i hi
    · obtain ⟨x1, x2, ⟨x3, x4, x5⟩, x6, x7, x8, x9, x10⟩ := hp
      obtain ⟨m1, ⟨e1, e2, e3, e4, e5⟩, m3, ⟨m4, m5, m6⟩, m7, m8, m9⟩ := hp'
      refine XR_law hR m1 (law_ok f2 f1 f3 m7 m8 m9) (law_XL f2 f1 f3 f4 m7 m8 m9 x6 (fun i hi => ?_) x9 x10) e1 e2 e3 e4 m3 x1 ⟨⟨0, by omega, m4, x2, fun i hi => absurd hi (by omega)⟩, ⟨by rw [x3, m5], by rw [x4, m6], x5⟩, ?_, ?_⟩
      · have hq := x8 i hi
        have cm := csz_le (O := cO c) (i + 1)
        simp only [csz] at cm
        unfold xcode at hq
        obtain ⟨q1, q2, q3⟩ := hq
        refine ⟨fun w => ?_, fun w => ?_, fun w => ?_⟩
        · rw [if_pos w] at cm
          rw [x7 _ (by omega), x7 _ (by omega)]; exact q1 w
        · rw [if_neg (by omega)] at cm
          rw [x7 _ (by omega)]; exact q2 w
        · rw [if_neg (by omega)] at cm
          rw [x7 _ (by omega)]; exact q3 w
      · unfold RW; rw [e5]; exact t7
      · unfold RB; rw [x1 3 (by omega), x1 106 (by omega)]; exact t8
end
