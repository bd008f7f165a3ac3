section
/-! TEXT: a way -/
theorem st_0 {w : Nat} {σ s : ev_S} (hR : XR σ s) (ha : (w : Int) < s 0 10) : SimAt M_X11_text M_X12_text [(1, ev_i 0), (2, ev_i (w : Int))] σ s := by
  obtain ⟨N, A, NO, MI, hM0, hX0, hP0, hF0, hI0, hT0⟩ := id hR
  have hT := hT0
  obtain ⟨⟨L, hL, t1, t2, t3⟩, ⟨t4, t5, t6⟩, t7, t8⟩ := hT
  obtain ⟨htok, hrok, hzer, h05⟩ := hM0
  have htk := htok
  obtain ⟨hdim, ⟨hN0, hN8⟩, ⟨hA0, hA6⟩, ⟨hO0, hO6⟩, ⟨hMI0, hM10⟩, hg, hpa, hpok, hmok, hlok⟩ := htk
  have hx : TPx σ (s 10) L := ⟨t2, hL, t3⟩
  have hm : TPm s (s 10) L := ⟨t1, rfl, hL, fun i hi => (t3 i hi).1, t7⟩
  obtain ⟨n, hN⟩ := EN_ex (b := s 10) hL
  have xt : ∀ Q : Option ev_V → ev_S → Prop, (∀ σ1, AX (s 10) L n σ1 0 → σ1 137 3 = 0 → σ1 137 4 = 0 → (∀ c, c < 132 ∨ 137 < c → σ1 c = σ c) → Ev layX M_X8_readSteps 58 0 [(0, ev_r 137), (1, ev_i 0)] [] σ1 (ev_pi (fun r9 s8 => ((r9 = 0 → Ev layX M_X8_read 59 162 [(0, ev_r 137), (1, ev_i 0), (2, ev_i 0)] [] s8 (ev_pi (fun r2 s1 => ((r2 ≠ (-1) → Ev layX M_X11_takeWay 59 0 [(0, ev_r 0), (1, ev_i (w : Int))] [] s1 (fun _ s3 => Q (some (ev_i r2)) (tld s3))) ∧ (r2 = (-1) → Q (some (ev_i (-1))) s1))))) ∧ (r9 ≠ 0 → TX 58 s8 (fun v s22 => (v = 0 → Ev layX M_X8_read 59 162 [(0, ev_r 137), (1, ev_i 0), (2, ev_i 0)] [] s22 (ev_pi (fun r2 s1 => ((r2 ≠ (-1) → Ev layX M_X11_takeWay 59 0 [(0, ev_r 0), (1, ev_i (w : Int))] [] s1 (fun _ s3 => Q (some (ev_i r2)) (tld s3))) ∧ (r2 = (-1) → Q (some (ev_i (-1))) s1))))) ∧ (v ≠ 0 → Ev layX M_X8_keepsTime 58 0 [(0, ev_r 137)] [] s22 (ev_pi (fun r25 s24 => ((r25 = 0 → Ev layX M_X8_read 59 162 [(0, ev_r 137), (1, ev_i 0), (2, ev_i 0)] [] s24 (ev_pi (fun r2 s1 => ((r2 ≠ (-1) → Ev layX M_X11_takeWay 59 0 [(0, ev_r 0), (1, ev_i (w : Int))] [] s1 (fun _ s3 => Q (some (ev_i r2)) (tld s3))) ∧ (r2 = (-1) → Q (some (ev_i (-1))) s1))))) ∧ (r25 ≠ 0 → Ev layX M_X8_read 59 162 [(0, ev_r 137), (1, ev_i 0), (2, ev_i 1)] [] s24 (ev_pi (fun r2 s1 => ((r2 ≠ (-1) → Ev layX M_X11_takeWay 59 0 [(0, ev_r 0), (1, ev_i (w : Int))] [] s1 (fun _ s3 => Q (some (ev_i r2)) (tld s3))) ∧ (r2 = (-1) → Q (some (ev_i (-1))) s1))))))))))))))) → Ev layX M_X11_text 60 0 [(0, ev_r 0), (1, ev_i 0), (2, ev_i (w : Int))] [] σ Q := by
    intro Q h
    refine wp_X11_text_0 ⟨fun w => absurd w (by omega), fun _ => ⟨fun w => absurd w (by omega), fun _ => ⟨fun w => absurd rfl w, fun _ => sp_hasWard (k := 1) is_X10_1 ?_⟩⟩⟩
    rw [hX0.1.1.2.2.2.1, if_pos ⟨by omega, ha⟩]
    refine ev_pi_mk ⟨fun _ => wp_X11_text_41 ⟨fun w => absurd w (by omega), fun _ => wp_X11_text_60 ?_⟩, fun w => absurd w (by omega)⟩
    refine Ev_mono (Q := ev_pi (fun r2 s1 => ((r2 ≠ (-1) → Ev layX M_X11_takeWay 59 0 [(0, ev_r 0), (1, ev_i (w : Int))] [] s1 (fun _ s3 => Q (some (ev_i r2)) (tld s3))) ∧ (r2 = (-1) → Q (some (ev_i (-1))) s1)))) (fun u s1 hu z hz => ?_) (sp_xread (d := 49) hx (fun n' σ1 hN' a1 a2 a3 a4 => ?_))
    · have := hu z hz
      exact ⟨fun w => ⟨fun w => absurd rfl w, fun _ => Ev_mono (fun v s3 e => wp_X11_text_127 ⟨fun w => absurd w (by omega), fun _ => sp_tld (d := 58) e⟩) (this.1 w)⟩, this.2⟩
    · rw [EN_un hN hN'] at a1
      have g := h σ1 a1 a2 a3 a4
      unfold RDX
      refine ⟨fun w => absurd rfl w, fun _ => Ev_mono (fun u s8 hu z hz => ?_) g⟩
      have := hu z hz
      refine ⟨this.1, fun w => Ev_mono (fun u2 s9 hu2 z2 hz2 => ?_) (this.2 w)⟩
      have g2 := hu2 z2 hz2
      exact ⟨fun w => (g2.1 w).1 rfl, fun w => (g2.2 w).2 (by omega)⟩
  have mt : ∀ Q : Option ev_V → ev_S → Prop, (∀ s1, AM (s 10) L s1 0 → frT s s1 → s1 0 32 = 0 → s1 0 37 = 0 → s1 0 38 = -1 → (∀ i, 5 < i → i < 13 → s1 0 i = s 0 i) → Ev layM M_X12_readWay 58 0 [(0, ev_r 0)] [] s1 (ev_pi (fun r10 s9 => ((r10 ≠ (-1) → Ev layM M_X12_text 60 68 [(0, ev_r 0), (1, ev_i 0), (2, ev_i (w : Int)), (3, ev_i r10)] [] s9 Q) ∧ (r10 = (-1) → (∀ s11, ev_up s9 0 37 (s9 0 35) = s11 → (∀ s12, ev_up s11 0 38 (s11 0 36) = s12 → Ev layM M_X12_text 60 68 [(0, ev_r 0), (1, ev_i 0), (2, ev_i (w : Int)), (3, ev_i r10)] [] s12 Q))))))) → Ev layM M_X12_text 60 0 [(0, ev_r 0), (1, ev_i 0), (2, ev_i (w : Int))] [] s Q := by
    intro Q h
    refine sp_mtext (d := 50) hm (fun s6 b1 b2 b3 b4 b5 b6 b7 b8 _ => wp_X12_canText_0 ⟨fun w => absurd rfl w, fun _ => sp_isWard ?_⟩)
    rw [b8 10 (by omega), if_pos ⟨by omega, ha⟩]
    refine ev_pi_mk ⟨Or.inr rfl, ev_pi_mk ⟨fun w => absurd w (by omega), fun _ => wp_X12_readsText_0 (sp_mfirst b2 b3 (fun s1 y1 y2 => ⟨fun w => absurd rfl w, fun _ => ?_⟩))⟩⟩
    refine Ev_mono (fun u s2 e => ?_) (h s1 y1 (frT_W b1 (frW_rd y2)) (by rw [y2.1 32 (by omega) (by omega) (by omega) (by omega)]; exact b5) (by rw [y2.1 37 (by omega) (by omega) (by omega) (by omega)]; exact b6) (by rw [y2.1 38 (by omega) (by omega) (by omega) (by omega)]; exact b7) (fun i h1 h2 => by rw [y2.1 i (by omega) (by omega) (by omega) (by omega)]; exact b8 i ⟨h1, h2⟩))
    exact fun z hz => ev_pi_mk (e z hz)
  rcases rd_way hN hL with ⟨q, i, hX, hM⟩ | ⟨c, W, f1, f2, hX, hM⟩
  · refine ⟨ev_i (-1), XF σ (q : Int) ((kF (s 10) L i : Nat) : Int), MF s (q : Int) ((kF (s 10) L i : Nat) : Int), xt _ (fun σ1 a1 a2 a3 a4 => hX 44 σ1 (fun v s10 => Ev layX M_X8_read 59 162 [(0, ev_r 137), (1, ev_i 0), (2, ev_i v)] [] s10 _) a1 a2 (fun σ' hF => wp_X8_read_162 ?_)), mt _ (fun s1 a1 a2 a32 a5 a6 a7 => hM 51 s1 _ a1 a32 (fun s' hF => ev_pi_mk ⟨fun w => absurd rfl w, fun _ => sp_mfail (d := 59) a2 hF (fun s'' hm'' => ⟨rfl, hm''⟩)⟩)), fun σ' s' => XR_fail hR⟩
    rintro _ rfl
    exact ⟨fun w => absurd rfl w, fun _ => ev_pi_mk ⟨fun w => absurd rfl w, fun _ => ⟨rfl, xf_fail t6 a4 hF⟩⟩⟩
  · refine ⟨ev_i (c : Int), fun σ' => ∃ σ1, σ' = tld σ1 ∧ (σ1 4 w = (c : Int) ∧ ∀ i, i ≠ w → σ1 4 i = σ 4 i) ∧ (∀ i, i < c → σ1 3 (600 * w + i) = W i) ∧ (∀ i, i < 600 * w ∨ 600 * w + c ≤ i → σ1 3 i = σ 3 i) ∧ (σ1 18 w = 0 ∧ σ1 17 w = 0) ∧ (∀ q i, q = 17 ∨ q = 18 → i ≠ w → σ1 q i = σ q i) ∧ (∀ q, q ≠ 3 → q ≠ 4 → q ≠ 17 → q ≠ 18 → (q < 132 ∨ 143 < q) → σ1 q = σ q) ∧ σ1 132 1 = 0 ∧ σ1 137 8 = 0 ∧ σ1 137 9 = -1 ∧ σ1 141 0 = 0, fun s' => ∃ s9, frT s s9 ∧ (s9 0 19 = 0 ∧ s9 0 37 = 0 ∧ s9 0 38 = -1) ∧ (s' 21 w = (c : Int) ∧ ∀ i, i ≠ w → s' 21 i = s9 21 i) ∧ (∀ i, i < c → s' 20 (600 * w + i) = W i) ∧ (∀ i, i < 600 * w ∨ 600 * w + c ≤ i → s' 20 i = s9 20 i) ∧ (∀ i, i ≠ 3 → s' 0 i = s9 0 i) ∧ s' 0 3 = 0 ∧ (s' 1 (19 + w) = 0 ∧ s' 1 (11 + w) = 0) ∧ (∀ i, i ≠ 19 + w → i ≠ 11 + w → s' 1 i = s9 1 i) ∧ (∀ q, q ≠ 0 → q ≠ 1 → q ≠ 20 → q ≠ 21 → s' q = s9 q), xt _ (fun σ1 a1 a2 a3 a4 => hX 44 σ1 (fun v s10 => Ev layX M_X8_read 59 162 [(0, ev_r 137), (1, ev_i 0), (2, ev_i v)] [] s10 _) a1 a2 (fun σ' g1 g2 g3 g4 g5 => wp_X8_read_162 ?_)), mt _ (fun s1 a1 a2 a32 a5 a6 a7 => hM 51 s1 _ a1 a32 (fun s' g1 g2 => ev_pi_mk ⟨fun _ => wp_X12_text_68 ?_, fun w => absurd w (by omega)⟩)), fun σ' s' hp hp' => ?_⟩
    · rintro _ rfl
      refine ⟨fun _ => ⟨fun w => absurd rfl w, fun _ => ev_pi_mk ⟨fun _ => sp_xtakeWay (c := c) (W := W) (by omega) f1 (by rw [ev_upj _ _ (by omega)]; exact g4) (fun i hi => by rw [ev_upj _ _ (by omega)]; exact g5 i hi) f2 (fun s3 u1 u2 u3 u4 u5 u6 u7 => ?_), fun w => ?_⟩⟩, fun w => absurd w (by omega)⟩
      · have hq : ∀ q, q ≠ 132 → q < 137 ∨ 143 < q → q < 132 ∨ 137 < q → ev_up σ' 132 1 0 q = σ q := fun q h1 h2 h3 => by rw [ev_upj _ _ h1, g1.1 q h2]; exact a4 q h3
        refine ⟨by rw [ev_upj _ _ (by omega), g4], s3, rfl, ⟨u1, fun i hi => ?_⟩, u3, fun i hi => ?_, u5, fun q i h1 h2 => ?_, fun q q1 q2 q3 q4 hr => ?_, ?_, ?_, ?_, ?_⟩
        · rw [u2 i hi, hq 4 (by omega) (by omega) (by omega)]
        · rw [u4 i hi, hq 3 (by omega) (by omega) (by omega)]
        · rw [u6 q i h1 h2, hq q (by omega) (by omega) (by omega)]
        · rw [u7 q q1 q2 q3 q4, hq q (by omega) (by omega) (by omega)]
        · rw [u7 132 (by omega) (by omega) (by omega) (by omega), ev_up_same]
        · rw [u7 137 (by omega) (by omega) (by omega) (by omega), ev_upj _ _ (by omega)]; exact g2.1
        · rw [u7 137 (by omega) (by omega) (by omega) (by omega), ev_upj _ _ (by omega)]; exact g2.2
        · rw [u7 141 (by omega) (by omega) (by omega) (by omega), ev_upj _ _ (by omega), g1.2, a4 141 (by omega)]; exact t6
      · rw [ev_upj _ _ (by omega), g4] at w
        omega
    · rintro _ rfl
      refine ⟨fun w => absurd w (by omega), fun _ => wp_X12_takes_0 ⟨fun w => absurd rfl w, fun _ => ?_⟩⟩
      refine sp_takesWay (by omega) f1 (fun s2 u1 u2 u3 u4 u5 u6 u7 => ⟨fun _ => wp_X12_takes_20 ⟨fun _ => wp_X12_takes_31 ⟨fun _ => ?_, fun w => absurd w (by omega)⟩, fun w => absurd w (by omega)⟩, fun w => absurd w (by omega)⟩)
      rintro _ rfl
      refine ⟨rfl, ev_up s' 0 19 0, frT_up (frT_W a2 g1) (by omega), ⟨ev_up_same _ _ _ _, by rw [ev_up_ne _ _ (by omega), g1.1 37 (by omega)]; exact a5, by rw [ev_up_ne _ _ (by omega), g1.1 38 (by omega)]; exact a6⟩, ⟨by rw [ev_upj _ _ (by omega)]; exact u1, fun i hi => by rw [ev_upj _ _ (by omega)]; exact u2 i hi⟩, fun i hi => ?_, fun i hi => ?_, fun i h1 => ?_, ev_up_same _ _ _ _, ?_, fun i h1 h2 => ?_, fun q q0 q1 q2 q3 => ?_⟩
      · rw [ev_upj _ _ (by omega), u3 i hi, ev_upj _ _ (by omega)]; exact g2 i hi
      · rw [ev_upj _ _ (by omega)]; exact u4 i hi
      · rw [ev_up_ne _ _ (by omega), u7 0 (by omega) (by omega) (by omega)]
      · rw [ev_upj _ _ (by omega)]; exact u5
      · rw [ev_upj _ _ (by omega)]; exact u6 i h1 h2
      · rw [ev_upj _ _ q0]; exact u7 q q1 q2 q3
    · obtain ⟨σ1, rfl, ⟨x1, x2⟩, x3, x3b, x4, x4b, x5, x6, x7, x8, x9⟩ := hp
      obtain ⟨s9, m1, ⟨m2, m3, m4⟩, ⟨m5, m5b⟩, m6, m6b, m7, m8, m9, m10, m11⟩ := hp'
      obtain ⟨n1, n2, ⟨n3, n4, n5, n6, n7⟩, n8⟩ := m1
      have r : ∀ i, i ≠ 19 + w → i ≠ 11 + w → s' 1 i = s 1 i := fun i h1 h2 => by rw [m10 i h1 h2, n3]
      have e9 : s' 9 = s 9 := by rw [m11 9 (by omega) (by omega) (by omega) (by omega)]; exact n4
      have k1 := tr_tok n1 n2 htok
      have k2 := tr_rok n1 hN8 hA6 hrok
      have k3 := tr_XT n1 n2 htok (fun w hw => (hrok.2.2.1 w hw).1.2.2.2.2.2) hX0.1
      refine XR_tld2 (N' := N) (A' := A) (NO' := NO) (MI' := MI) hP0 (RI_keep hI0 (by rw [m7 61 (by omega)]; exact n8 61 (by omega)) (by rw [m11 36 (by omega) (by omega) (by omega) (by omega)]; exact n6) (by rw [x5 103 (by omega) (by omega) (by omega) (by omega) (by omega)]) (fun q q1 q2 q3 => x5 q (by omega) (by omega) (by omega) (by omega) (by omega))) ⟨⟨0, by omega, by rw [m7 19 (by omega)]; exact m2, x6, fun i hi => absurd hi (by omega)⟩, ⟨by rw [x7, m7 37 (by omega), m3], by rw [x8, m7 38 (by omega), m4], x9⟩, by unfold RW; rw [m11 11 (by omega) (by omega) (by omega) (by omega), n7]; exact t7, fun i hi => ⟨?_, by rw [x5 106 (by omega) (by omega) (by omega) (by omega) (by omega)]; exact (t8 i hi).2⟩⟩ ⟨?_, ?_, ?_, ?_⟩ ⟨?_, ?_, fun i hi => ?_⟩ m8 (by rw [x5 29 (by omega) (by omega) (by omega) (by omega) (by omega)])
      · by_cases e : 600 * w ≤ i ∧ i < 600 * w + c
        · have h1 := x3 (i - 600 * w) (by omega)
          have h2 := f2 (i - 600 * w) (by omega)
          rw [show 600 * w + (i - 600 * w) = i by omega] at h1
          omega
        · rw [x3b i (by omega)]; exact (t8 i hi).1
      · obtain ⟨a1, a2, a3, a4, a5, a6, a7, a8, a9, a10⟩ := k1
        refine ⟨by unfold m_dim; rw [m7 6 (by omega), m7 7 (by omega)]; exact a1, by rw [m7 10 (by omega)]; exact a2, by rw [m7 11 (by omega)]; exact a3, by rw [m7 12 (by omega)]; exact a4, by rw [m7 46 (by omega)]; exact a5, by rw [m7 8 (by omega)]; exact a6, fun k hk => by rw [m11 4 (by omega) (by omega) (by omega) (by omega)]; exact a7 k hk, fun b hb => ?_, fun i hi => ?_, ?_⟩
        · have := a8 b hb
          unfold m_pok m_pl at this ⊢
          rw [m11 5 (by omega) (by omega) (by omega) (by omega), m11 27 (by omega) (by omega) (by omega) (by omega), m11 25 (by omega) (by omega) (by omega) (by omega), m11 26 (by omega) (by omega) (by omega) (by omega), m7 6 (by omega), m7 7 (by omega)]
          exact this
        · have := a9 i hi
          unfold m_mok m_pl at this ⊢
          rw [m11 24 (by omega) (by omega) (by omega) (by omega), m7 6 (by omega), m7 7 (by omega), m7 10 (by omega)]
          exact this
        · unfold m_lok
          rw [m7 25 (by omega), m11 13 (by omega) (by omega) (by omega) (by omega), m11 14 (by omega) (by omega) (by omega) (by omega), m11 15 (by omega) (by omega) (by omega) (by omega), m11 16 (by omega) (by omega) (by omega) (by omega)]
          exact a10
      · obtain ⟨b1, b2, b3, b4, b5, b6⟩ := k2
        simp only at b1 b2 b3 b4 b5 b6
        refine ⟨by simp only; rw [r 0 (by omega) (by omega)]; exact b1, by simp only; rw [r 2 (by omega) (by omega)]; exact b2, fun v hv => ?_, fun b hb => ?_, ?_, ?_⟩
        · have := b3 v hv
          unfold m_wok m_pl at this ⊢
          simp only
          rw [m7 6 (by omega), m7 7 (by omega), r (3 + v) (by omega) (by omega)]
          by_cases e : v = w
          · subst e
            rw [m5, m9.1, m9.2]
            exact ⟨⟨this.1.1, by omega, by omega, by omega, by omega, by omega⟩, by omega⟩
          · rw [m5b v e, r (11 + v) (by omega) (by omega), r (19 + v) (by omega) (by omega)]
            exact this
        · have := b4 b hb
          unfold m_aok m_pl at this ⊢
          simp only
          rw [m11 27 (by omega) (by omega) (by omega) (by omega), m7 6 (by omega), m7 7 (by omega), r (27 + b) (by omega) (by omega), r (33 + b) (by omega) (by omega), r (39 + b) (by omega) (by omega), r (45 + b) (by omega) (by omega), r (51 + b) (by omega) (by omega), r 0 (by omega) (by omega)]
          exact this
        · simp only; rw [r 2 (by omega) (by omega), e9]; exact b5
        · simp only; rw [r 2 (by omega) (by omega), r 0 (by omega) (by omega), e9]; exact b6
      · exact ⟨fun v h1 h2 => by rw [r (11 + v) (by omega) (by omega), r (19 + v) (by omega) (by omega)]; exact hzer.1 v h1 h2, fun b h1 h2 => by rw [r (33 + b) (by omega) (by omega), r (39 + b) (by omega) (by omega), r (51 + b) (by omega) (by omega)]; exact hzer.2 b h1 h2⟩
      · rw [m7 5 (by omega), n8 5 (by omega)]; exact h05
      · obtain ⟨y1, y8, y9, y10, y11, y12, y13⟩ := k3
        have xc : ∀ q, q ≠ 3 → q ≠ 4 → q < 15 → σ1 q = σ q := fun q h1 h2 h3 => x5 q h1 h2 (by omega) (by omega) (by omega)
        refine ⟨?_, fun k hk => ?_, fun v hv => ?_, fun b hb => ?_, fun o ho => ?_, fun i hi q hq => ?_, ?_⟩
        · rw [xc 1 (by omega) (by omega) (by omega), m7 6 (by omega), m7 7 (by omega), m7 8 (by omega), m7 10 (by omega), m7 11 (by omega), m7 12 (by omega), m7 46 (by omega)]; exact y1
        · rw [xc (1 + 1) (by omega) (by omega) (by omega), m11 4 (by omega) (by omega) (by omega) (by omega)]; exact y8 k hk
        · rw [m7 10 (by omega)] at hv
          obtain ⟨z1, z2⟩ := y9 v hv
          by_cases e : v = w
          · subst e
            refine ⟨by rw [m5]; exact x1, fun i hi => ?_⟩
            rw [m5] at hi
            rw [m6 i (by omega)]
            exact x3 i (by omega)
          · have hvN : v < N := by have := k1.2.1.1; omega
            have h6 := (k2.2.2.1 v hvN).1.2.2.2.2.2
            refine ⟨by rw [m5b v e]; exact (x2 v e).trans z1, fun i hi => ?_⟩
            rw [m5b v e] at hi
            rw [m6b (600 * v + i) (by omega)]
            exact (x3b _ (by omega)).trans (z2 i hi)
        · rw [m7 11 (by omega)] at hb
          rw [xc (1 + 4) (by omega) (by omega) (by omega), xc (1 + 6) (by omega) (by omega) (by omega), xc (1 + 5) (by omega) (by omega) (by omega), m11 5 (by omega) (by omega) (by omega) (by omega), m11 27 (by omega) (by omega) (by omega) (by omega), m11 25 (by omega) (by omega) (by omega) (by omega), m11 26 (by omega) (by omega) (by omega) (by omega)]; exact y10 b hb
        · rw [m7 12 (by omega)] at ho
          rw [xc (1 + 7) (by omega) (by omega) (by omega), m11 6 (by omega) (by omega) (by omega) (by omega), m11 7 (by omega) (by omega) (by omega) (by omega), m11 8 (by omega) (by omega) (by omega) (by omega)]; exact y11 o ho
        · rw [m7 46 (by omega)] at hi
          rw [xc (1 + 8) (by omega) (by omega) (by omega), m11 24 (by omega) (by omega) (by omega) (by omega)]; exact y12 i hi q hq
        · unfold XL XLg at y13 ⊢
          rw [xc (1 + 9) (by omega) (by omega) (by omega), xc (1 + 9 + 1) (by omega) (by omega) (by omega), xc (1 + 9 + 2) (by omega) (by omega) (by omega), xc (1 + 9 + 3) (by omega) (by omega) (by omega), m7 25 (by omega), m11 12 (by omega) (by omega) (by omega) (by omega), m11 13 (by omega) (by omega) (by omega) (by omega), m11 14 (by omega) (by omega) (by omega) (by omega), m11 15 (by omega) (by omega) (by omega) (by omega), m11 16 (by omega) (by omega) (by omega) (by omega)]
          exact y13
      · obtain ⟨z1, z2, z3, z4⟩ := hX0.2.1
        have xc : ∀ q, 15 ≤ q → q < 27 → q ≠ 17 → q ≠ 18 → σ1 q = σ q := fun q h1 h2 h3 h4 => x5 q (by omega) (by omega) h3 h4 (by omega)
        refine ⟨?_, fun v hv => ?_, fun b hb => ?_, fun i hi => ?_⟩
        · rw [xc 15 (by omega) (by omega) (by omega) (by omega), r 0 (by omega) (by omega), r 1 (by omega) (by omega), r 2 (by omega) (by omega)]; exact z1
        · obtain ⟨v1, v2, v3⟩ := z2 v hv
          rw [xc (15 + 1) (by omega) (by omega) (by omega) (by omega), r (3 + v) (by omega) (by omega)]
          by_cases e : v = w
          · subst e
            rw [m9.1, m9.2]
            exact ⟨v1, x4.2, x4.1⟩
          · rw [r (11 + v) (by omega) (by omega), r (19 + v) (by omega) (by omega)]
            exact ⟨v1, (x4b 17 v (by omega) e).trans v2, (x4b 18 v (by omega) e).trans v3⟩
        · rw [xc (15 + 4) (by omega) (by omega) (by omega) (by omega), xc (15 + 5) (by omega) (by omega) (by omega) (by omega), xc (15 + 6) (by omega) (by omega) (by omega) (by omega), xc (15 + 7) (by omega) (by omega) (by omega) (by omega), xc (15 + 8) (by omega) (by omega) (by omega) (by omega), r (27 + b) (by omega) (by omega), r (33 + b) (by omega) (by omega), r (45 + b) (by omega) (by omega), r (39 + b) (by omega) (by omega), r (51 + b) (by omega) (by omega)]; exact z3 b hb
        · rw [xc (15 + 9) (by omega) (by omega) (by omega) (by omega), xc (15 + 10) (by omega) (by omega) (by omega) (by omega), xc (15 + 11) (by omega) (by omega) (by omega) (by omega), r (57 + i) (by omega) (by omega), r (67 + i) (by omega) (by omega), r (77 + i) (by omega) (by omega)]
          exact z4 i hi
      · rw [r 2 (by omega) (by omega)] at hi
        rw [x5 28 (by omega) (by omega) (by omega) (by omega) (by omega), e9]; exact hX0.2.2 i hi
end
