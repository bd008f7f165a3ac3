section
/-! image -/
theorem img_of {f : Nat → Int} {I : ev_S} (h : ∀ q c i, LC q c i → f q = I c i) : img f I :=
  ⟨fun k hk => h _ _ _ (LC_1 hk), ⟨h _ _ _ LC_0_6, h _ _ _ LC_0_7, h _ _ _ LC_0_8⟩, fun k hk => h _ _ _ (LC_4 hk), ⟨h _ _ _ LC_0_10, h _ _ _ LC_0_11, h _ _ _ LC_0_12⟩,
    fun i hi => ⟨h _ _ _ (LC_6 hi), by rw [show 98 + 3 * i + 1 = 99 + 3 * i by omega]; exact h _ _ _ (LC_7 hi), by rw [show 98 + 3 * i + 2 = 100 + 3 * i by omega]; exact h _ _ _ (LC_8 hi)⟩,
    fun w hw => h _ _ _ (LC_21 hw), fun i hi => h _ _ _ (LC_20 hi),
    fun a ha => ⟨h _ _ _ (LC_5 ha), by rw [show 4924 + 2 * a + 1 = 4925 + 2 * a by omega]; exact h _ _ _ (LC_27 ha)⟩,
    fun i hi => ⟨h _ _ _ (LC_25 hi), by rw [show 4936 + 2 * i + 1 = 4937 + 2 * i by omega]; exact h _ _ _ (LC_26 hi)⟩,
    h _ _ _ LC_0_46, fun k hk => h _ _ _ (LC_24 hk), fun k hk => h _ _ _ (LC_9 hk), h _ _ _ LC_0_25,
    fun l hl => ⟨h _ _ _ (LC_12 hl), by rw [show 5988 + 3 * l + 1 = 5989 + 3 * l by omega]; exact h _ _ _ (LC_13 hl), by rw [show 5988 + 3 * l + 2 = 5990 + 3 * l by omega]; exact h _ _ _ (LC_14 hl)⟩,
    fun i hi => ⟨h _ _ _ (LC_15 hi), by rw [show 6036 + 2 * i + 1 = 6037 + 2 * i by omega]; exact h _ _ _ (LC_16 hi)⟩⟩
theorem img_tr {f : Nat → Int} {I s' : ev_S} (hi : img f I) (h : ∀ q c i, LC q c i → s' c i = f q) : tr I s' ∧ trl I s' ∧ (∀ k, k < 87 → s' 1 k = I 1 k) ∧ (∀ k, k < 500 → s' 9 k = I 9 k) := by
  obtain ⟨i1, ⟨i6, i7, i8⟩, i4, ⟨i10, i11, i12⟩, io, iw, iy, ia, ip, i46, im, ib, i25, il, ic⟩ := hi
  refine ⟨⟨⟨by rw [h _ _ _ LC_0_6]; exact i6, by rw [h _ _ _ LC_0_7]; exact i7, by rw [h _ _ _ LC_0_8]; exact i8, by rw [h _ _ _ LC_0_10]; exact i10, by rw [h _ _ _ LC_0_11]; exact i11, by rw [h _ _ _ LC_0_12]; exact i12, by rw [h _ _ _ LC_0_46]; exact i46⟩, fun k hk => by rw [h _ _ _ (LC_4 hk)]; exact i4 k hk, fun a ha => ⟨by rw [h _ _ _ (LC_5 ha)]; exact (ia a ha).1, by rw [h _ _ _ (LC_6 ha)]; exact (io a ha).1, by rw [h _ _ _ (LC_7 ha), show 99 + 3 * a = 98 + 3 * a + 1 by omega]; exact (io a ha).2.1, by rw [h _ _ _ (LC_8 ha), show 100 + 3 * a = 98 + 3 * a + 2 by omega]; exact (io a ha).2.2, by rw [h _ _ _ (LC_27 ha), show 4925 + 2 * a = 4924 + 2 * a + 1 by omega]; exact (ia a ha).2⟩, fun i hi => by rw [h _ _ _ (LC_20 hi)]; exact iy i hi, fun w hw => by rw [h _ _ _ (LC_21 hw)]; exact iw w hw, fun i hi => by rw [h _ _ _ (LC_24 hi)]; exact im i hi, fun i hi => ⟨by rw [h _ _ _ (LC_25 hi)]; exact (ip i hi).1, by rw [h _ _ _ (LC_26 hi), show 4937 + 2 * i = 4936 + 2 * i + 1 by omega]; exact (ip i hi).2⟩⟩, ⟨by rw [h _ _ _ LC_0_25]; exact i25, fun j hj => ⟨by rw [h _ _ _ (LC_12 hj)]; exact (il j hj).1, by rw [h _ _ _ (LC_13 hj), show 5989 + 3 * j = 5988 + 3 * j + 1 by omega]; exact (il j hj).2.1, by rw [h _ _ _ (LC_14 hj), show 5990 + 3 * j = 5988 + 3 * j + 2 by omega]; exact (il j hj).2.2⟩, fun i hi => ⟨by rw [h _ _ _ (LC_15 hi)]; exact (ic i hi).1, by rw [h _ _ _ (LC_16 hi), show 6037 + 2 * i = 6036 + 2 * i + 1 by omega]; exact (ic i hi).2⟩⟩, fun k hk => by rw [h _ _ _ (LC_1 hk)]; exact i1 k hk, fun k hk => by rw [h _ _ _ (LC_9 hk)]; exact ib k hk⟩
theorem sim_image (a : Int) (ha : a = 0 ∨ a = 1) : Sim M_X11_image M_X12_image [(1, ev_i a)] := by
  intro σ s hσ hs hR
  have hR0 := hR
  obtain ⟨N, A, NO, MI, hM, hX, hP, hF, hI, hT⟩ := hR
  obtain ⟨hT0, hr, hz, h5⟩ := hM
  have hT1 := hT0
  obtain ⟨hdim, ⟨hN, hN8⟩, ⟨hA, hA6⟩, ⟨hO, hO6⟩, ⟨hMI, hM10⟩, -⟩ := hT1
  obtain ⟨t1, t2, t3, t4⟩ := hT
  rcases ha with rfl | rfl
  · rcases hI with ⟨i1, i2⟩ | ⟨i1, i2, I, N', A', NO', MI', b1, b2, b3, b4, b5, b6, b7⟩
    · refine ⟨ev_i 0, fun σ' => σ' = σ, fun s' => s' = ev_up s 0 0 0, ?_, ?_, fun σ' s' e1 e2 => by rw [e1, e2]; exact XR_no hR0⟩
      · refine wp_X11_image_0 ?_
        rw [i2]
        exact ⟨fun _ => ⟨fun q => absurd rfl q, fun _ => ⟨rfl, rfl⟩⟩, fun q => absurd rfl q⟩
      · refine wp_X12_image_0 ?_
        rintro _ rfl
        rw [ev_up_ne _ _ (by omega), i1]
        exact ⟨fun q => absurd rfl q, fun _ => ⟨fun q => absurd rfl q, fun _ => ⟨rfl, rfl⟩⟩⟩
    · refine ⟨ev_i 1, fun σ' => ∃ σ1, σ' = tld σ1 ∧ XT σ1 1 I ∧ XC σ1 15 (I 1) ∧ XB σ1 28 (I 9) (I 1 2).toNat ∧ (∀ i, i < 4800 → σ1 3 i = σ 106 i) ∧ (∀ c, (c < 1 ∨ c = 14 ∨ c = 27 ∨ 28 < c) → σ1 c = σ c), fun s' => ∃ s2, IM (ev_up (ev_up (ev_up s 0 0 0) 0 60 0) 0 61 1) 0 6836 s2 ∧ s' = ev_up s2 0 3 0, ?_, ?_, ?_⟩
      · refine wp_X11_image_0 ?_
        rw [i2]
        refine ⟨fun _ => ⟨fun _ => sp_giveBack (d := 56) b2 b3 b5 b6 b7 (fun i hi => (t4 i hi).2) (fun σ1 y1 y2 y3 y4 y5 => sp_tld ⟨rfl, σ1, rfl, y1, y2, y3, y4, y5⟩), fun q => absurd q (by omega)⟩, fun q => absurd rfl q⟩
      · refine wp_X12_image_0 ?_
        rintro _ rfl
        rw [ev_up_ne _ _ (by omega), i1]
        exact ⟨fun q => absurd rfl q, fun _ => ⟨fun _ => sp_image18 (d := 58) (Or.inl rfl) (fun s2 h2 => ⟨fun q => absurd rfl q, fun _ => ⟨rfl, s2, h2, rfl⟩⟩), fun q => absurd q (by omega)⟩⟩
      · rintro _ s' ⟨σ1, rfl, y1, y2, y3, y4, y5⟩ ⟨s2, hm, rfl⟩
        obtain ⟨m62, m60, -, hg⟩ := hm
        obtain ⟨g1, g2⟩ := hg rfl
        generalize e0 : ev_up (ev_up (ev_up s 0 0 0) 0 60 0) 0 61 1 = s0 at g1 g2
        have s0c : ∀ c, c ≠ 0 → s0 c = s c := fun c hc => by rw [← e0, ev_upj _ _ hc, ev_upj _ _ hc, ev_upj _ _ hc]
        have s00 : ∀ i, i ≠ 0 → i ≠ 60 → i ≠ 61 → s0 0 i = s 0 i := fun i a b c => by rw [← e0, ev_up_ne _ _ (by omega), ev_up_ne _ _ (by omega), ev_up_ne _ _ (by omega)]
        have s061 : s0 0 61 = 1 := by rw [← e0, ev_up_same]
        have n3 : ∀ q c i, LC q c i → ¬ (c = 0 ∧ i = 3) := fun q c i hq => by have := (LC_cells hq).2; omega
        have fq : ∀ q c i, LC q c i → ev_up s2 0 3 0 c i = s 36 q := fun q c i hq => by
          rw [ev_up_ne _ _ (n3 q c i hq), g1 q c i (LC_cells hq).1 hq, s0c 36 (by omega)]
        obtain ⟨k1, k2, k3, k4⟩ := img_tr b1 fq
        have fo : ∀ c i, (∀ q, ¬ LC q c i) → ¬ (c = 0 ∧ i = 62) → ¬ (c = 0 ∧ i = 3) → ev_up s2 0 3 0 c i = s0 c i := fun c i n1 n2 n4 => by
          rw [ev_up_ne _ _ n4]; exact g2 c i (fun q _ => n1 q) n2
        have fc : ∀ c, c ≠ 0 → c ≠ 1 → ¬ (4 ≤ c ∧ c ≤ 9) → ¬ (12 ≤ c ∧ c ≤ 16) → c ≠ 20 → c ≠ 21 → ¬ (24 ≤ c ∧ c ≤ 27) → ev_up s2 0 3 0 c = s c := fun c a1 a2 a3 a4 a5 a6 a7 => by
          funext i
          rw [fo c i (fun q hq => by have := (LC_cells hq).2; omega) (by omega) (by omega), s0c c a1]
        have f0 : ∀ i, i = 5 ∨ i = 61 ∨ i = 19 ∨ i = 37 ∨ i = 38 → ev_up s2 0 3 0 0 i = s0 0 i := fun i hi => fo 0 i (fun q hq => by have := (LC_cells hq).2; omega) (by omega) (by omega)
        have r2 := b3.2.1
        simp only at r2
        generalize es' : ev_up s2 0 3 0 = s' at k1 k2 k3 k4 fc f0
        have e12 : s' 1 2 = I 1 2 := k3 2 (by omega)
        have h03 : s' 0 3 = 0 := by rw [← es', ev_up_same]
        have hb' : bk (I 9) (s' 9) (I 1 2).toNat := fun i hi => k4 i (by omega)
        refine XR_tld (N' := N') (A' := A') (NO' := NO') (MI' := MI') hP (Or.inr ⟨i1, i2, I, N', A', NO', MI', b1, b2, b3, b4, b5, b6, b7⟩) ⟨t1, t2, t3, t4⟩ ⟨tr_tok k1 k2 b2, ?_, ?_, ?_⟩ ⟨?_, ?_, ?_⟩ h03 (by rw [y5 29 (by omega)]) (fun i hi => ?_) (fun c hc => fc c (by omega) (by omega) (by omega) (by omega) (by omega) (by omega) (by omega)) (fun c c1 c2 c3 => y5 c (by omega)) (fun i hi => by rw [y4 i hi]; exact (t4 i hi).2)
        · refine m_rok_r b2.2.1.2 b2.2.2.1.2 (r := I 1) ?_ (fun i _ hi => k3 i (by omega))
          exact m_rok_bk (tr_rok k1 b2.2.1.2 b2.2.2.1.2 b3) hb' (Nat.le_refl _)
        · exact m_zer_r b4 (fun i _ hi => k3 i (by omega))
        · rw [f0 5 (by omega), s00 5 (by omega) (by omega) (by omega)]; exact h5
        · exact tr_XT k1 k2 b2 (fun w hw => (b3.2.2.1 w hw).1.2.2.2.2.2) y1
        · exact XC_row y2 k3
        · intro i hi
          rw [e12] at hi
          rw [hb' i hi]; exact y3 i hi
        · rcases hi with rfl | rfl | rfl | rfl
          · rw [f0 61 (by omega), s061, i1]
          · rw [f0 19 (by omega), s00 19 (by omega) (by omega) (by omega)]
          · rw [f0 37 (by omega), s00 37 (by omega) (by omega) (by omega)]
          · rw [f0 38 (by omega), s00 38 (by omega) (by omega) (by omega)]
  · refine ⟨ev_i 1, fun σ1 => XT σ1 104 s ∧ XC σ1 118 (s 1) ∧ XB σ1 131 (s 9) (s 1 2).toNat ∧ (∀ i, i < 4800 → σ1 106 i = σ 3 i) ∧ σ1 103 3 = 1 ∧ (∀ c, (c < 103 ∨ c = 117 ∨ c = 130 ∨ 131 < c) → σ1 c = σ c), fun s' => IM (ev_up (ev_up (ev_up s 0 0 0) 0 60 1) 0 61 1) 1 6836 s', ?_, ?_, ?_⟩
    · exact wp_X11_image_0 ⟨fun q => absurd q (by omega), fun _ => sp_take (d := 56) hT0 hr hX.1 hX.2.1 hX.2.2 (fun i hi => (t4 i hi).1) (fun σ1 y1 y2 y3 y4 y5 y6 => ⟨rfl, y1, y2, y3, y4, y5, y6⟩)⟩
    · refine wp_X12_image_0 ?_
      rintro _ rfl
      exact ⟨fun _ => sp_image18 (d := 58) (Or.inr rfl) (fun s2 h2 => ⟨fun _ => ⟨rfl, h2⟩, fun q => absurd q (by omega)⟩), fun q => absurd q (by omega)⟩
    · rintro σ' s' ⟨y1, y2, y3, y4, y5, y6⟩ ⟨m62, m60, ht, -⟩
      obtain ⟨g1, g2⟩ := ht (by omega)
      generalize e0 : ev_up (ev_up (ev_up s 0 0 0) 0 60 1) 0 61 1 = s0 at g1 g2
      have s0c : ∀ c, c ≠ 0 → s0 c = s c := fun c hc => by rw [← e0, ev_upj _ _ hc, ev_upj _ _ hc, ev_upj _ _ hc]
      have s00 : ∀ i, i ≠ 0 → i ≠ 60 → i ≠ 61 → s0 0 i = s 0 i := fun i a b c => by rw [← e0, ev_up_ne _ _ (by omega), ev_up_ne _ _ (by omega), ev_up_ne _ _ (by omega)]
      have s061 : s0 0 61 = 1 := by rw [← e0, ev_up_same]
      have fc : ∀ c, c ≠ 0 → c ≠ 36 → s' c = s c := fun c a1 a2 => by
        funext i
        rw [g2 c i a2 (by omega), s0c c a1]
      have f0 : ∀ i, i ≠ 0 → i ≠ 60 → i ≠ 61 → i ≠ 62 → s' 0 i = s 0 i := fun i a b c e => by rw [g2 0 i (by omega) (by omega), s00 i a b c]
      have f61 : s' 0 61 = 1 := by rw [g2 0 61 (by omega) (by omega), s061]
      have htl : tl s s' := tl_of (fun i hi => f0 i (by omega) (by omega) (by omega) (by omega)) (fun c hc => fc c (by omega) (by omega))
      have e1 := fc 1 (by omega) (by omega)
      have e9 := fc 9 (by omega) (by omega)
      have him : img (s' 36) s := img_of (fun q c i hq => by
        rw [g1 q c i (LC_cells hq).1 hq]
        have hc := (LC_cells hq).2
        by_cases c0 : c = 0
        · subst c0; exact s00 i (by omega) (by omega) (by omega)
        · rw [s0c c c0])
      have hG := RF_keep hF (σ' := σ') (by rw [y6 146 (by omega)]) (y6 159 (by omega)) (by rw [y6 1 (by omega)]) (fun c c1 c2 => y6 c (by omega))
      refine ⟨N, A, NO, MI, ⟨by rw [tl_tok htl]; exact hT0, by rw [tl_rok htl, e1, e9]; exact hr, by rw [e1]; exact hz, by rw [f0 5 (by omega) (by omega) (by omega) (by omega)]; exact h5⟩, ⟨tl_XT htl (XT_keep hX.1 (fun c c1 c2 => y6 c (by omega))), by rw [e1]; exact XC_keep hX.2.1 (fun c c1 c2 => y6 c (by omega)), ?_⟩, RP_keep hP (tr_of htl) hN8 hA6 (f0 3 (by omega) (by omega) (by omega) (by omega)) (fc 2 (by omega) (by omega)) (by rw [e1]) (by rw [e9]; exact fun _ _ => rfl) (fun c c1 c2 => y6 c (by omega)), ?_, Or.inr ⟨f61, y5, s, N, A, NO, MI, him, hT0, hr, hz, y1, y2, y3⟩, ?_⟩
      · rw [e1, e9]
        intro i hi
        rw [y6 28 (by omega)]; exact hX.2.2 i hi
      · unfold RF
        rw [e1]
        refine ⟨?_, ?_⟩
        · rcases hG.1 with q | ⟨q, w⟩
          · exact Or.inl q
          · exact Or.inr ⟨q, tr_XS (tr_of htl) hdim.1.2 hN8 (fun v hv => (hr.2.2.1 v hv).1) w⟩
        · rcases hG.2 with q | ⟨q, w⟩
          · exact Or.inl q
          · exact Or.inr ⟨q, tr_XCare (tr_of htl) hdim.1.2 hN8 (fun v hv => (hr.2.2.1 v hv).1) hA6 hM10 w⟩
      · refine ⟨?_, ?_, ?_, fun i hi => ⟨?_, ?_⟩⟩
        · unfold RTt
          rw [f0 19 (by omega) (by omega) (by omega) (by omega), fc 10 (by omega) (by omega), y6 132 (by omega), y6 133 (by omega)]; exact t1
        · rw [f0 37 (by omega) (by omega) (by omega) (by omega), f0 38 (by omega) (by omega) (by omega) (by omega), y6 137 (by omega), y6 141 (by omega)]; exact t2
        · unfold RW
          rw [fc 11 (by omega) (by omega)]; exact t3
        · rw [y6 3 (by omega)]; exact (t4 i hi).1
        · rw [y4 i hi]; exact (t4 i hi).1
end
