section
/-! TEXT: what stands before the reading, and behind a fault -/
def RDX (d : Nat) (a1 : Int) (s7 : ev_S) (Q : Option ev_V → ev_S → Prop) : Prop := ((a1 ≠ 0 → ((a1 ≠ 1 → ((a1 ≠ 2 → ((a1 ≠ 3 → Ev layX M_X8_read (d + 1) 162 [(0, ev_r 137), (1, ev_i a1), (2, ev_i 0)] [] s7 Q) ∧ (a1 = 3 → (Ev layX M_X8_readLaw d 0 [(0, ev_r 137)] [] s7 (ev_pi (fun r9 s8 => ((r9 = 0 → Ev layX M_X8_read (d + 1) 162 [(0, ev_r 137), (1, ev_i a1), (2, ev_i 0)] [] s8 Q) ∧ (r9 ≠ 0 → (Ev layX M_X8_takes d 0 [(0, ev_r 137), (1, ev_i 51)] [] s8 (ev_pi (fun r11 s10 => ((r11 = 0 → Ev layX M_X8_read (d + 1) 162 [(0, ev_r 137), (1, ev_i a1), (2, ev_i 0)] [] s10 Q) ∧ (r11 ≠ 0 → Ev layX M_X8_read (d + 1) 162 [(0, ev_r 137), (1, ev_i a1), (2, ev_i 1)] [] s10 Q))))))))))))) ∧ (a1 = 2 → (Ev layX M_X8_readPlan d 0 [(0, ev_r 137)] [] s7 (ev_pi (fun r13 s12 => ((r13 = 0 → Ev layX M_X8_read (d + 1) 162 [(0, ev_r 137), (1, ev_i a1), (2, ev_i 0)] [] s12 Q) ∧ (r13 ≠ 0 → (Ev layX M_X8_takes d 0 [(0, ev_r 137), (1, ev_i 51)] [] s12 (ev_pi (fun r15 s14 => ((r15 = 0 → Ev layX M_X8_read (d + 1) 162 [(0, ev_r 137), (1, ev_i a1), (2, ev_i 0)] [] s14 Q) ∧ (r15 ≠ 0 → Ev layX M_X8_read (d + 1) 162 [(0, ev_r 137), (1, ev_i a1), (2, ev_i 1)] [] s14 Q))))))))))))) ∧ (a1 = 1 → (Ev layX M_X8_readMishaps d 0 [(0, ev_r 137)] [] s7 (ev_pi (fun r17 s16 => ((r17 = 0 → Ev layX M_X8_read (d + 1) 162 [(0, ev_r 137), (1, ev_i a1), (2, ev_i 0)] [] s16 Q) ∧ (r17 ≠ 0 → (Ev layX M_X8_takes d 0 [(0, ev_r 137), (1, ev_i 51)] [] s16 (ev_pi (fun r19 s18 => ((r19 = 0 → Ev layX M_X8_read (d + 1) 162 [(0, ev_r 137), (1, ev_i a1), (2, ev_i 0)] [] s18 Q) ∧ (r19 ≠ 0 → Ev layX M_X8_read (d + 1) 162 [(0, ev_r 137), (1, ev_i a1), (2, ev_i 1)] [] s18 Q))))))))))))) ∧ (a1 = 0 → (Ev layX M_X8_readSteps d 0 [(0, ev_r 137), (1, ev_i 0)] [] s7 (ev_pi (fun r21 s20 => ((r21 = 0 → Ev layX M_X8_read (d + 1) 162 [(0, ev_r 137), (1, ev_i a1), (2, ev_i 0)] [] s20 Q) ∧ (r21 ≠ 0 → (Ev layX M_X8_takes d 0 [(0, ev_r 137), (1, ev_i 51)] [] s20 (ev_pi (fun r23 s22 => ((r23 = 0 → Ev layX M_X8_read (d + 1) 162 [(0, ev_r 137), (1, ev_i a1), (2, ev_i 0)] [] s22 Q) ∧ (r23 ≠ 0 → (Ev layX M_X8_keepsTime d 0 [(0, ev_r 137)] [] s22 (ev_pi (fun r25 s24 => ((r25 = 0 → Ev layX M_X8_read (d + 1) 162 [(0, ev_r 137), (1, ev_i a1), (2, ev_i 0)] [] s24 Q) ∧ (r25 ≠ 0 → Ev layX M_X8_read (d + 1) 162 [(0, ev_r 137), (1, ev_i a1), (2, ev_i 1)] [] s24 Q)))))))))))))))))
theorem sp_xread {d L : Nat} {σ : ev_S} {b : Nat → Int} {t : Int} {Q : Option ev_V → ev_S → Prop} (hT : TPx σ b L) (h : ∀ n σ1, EN b L n → AX b L n σ1 0 → σ1 137 3 = 0 → σ1 137 4 = 0 → (∀ c, c < 132 ∨ 137 < c → σ1 c = σ c) → RDX (d + 9) t σ1 Q) : Ev layX M_X8_read (d + 10) 0 [(0, ev_r 137), (1, ev_i t)] [] σ Q := by
  refine wp_X8_read_0 ?_
  rintro _ rfl _ rfl _ rfl _ rfl
  obtain ⟨t1, t2, t3⟩ := hT
  refine sp_scan (b := b) (L := L) ⟨by rw [ev_upj _ _ (by omega), ev_upj _ _ (by omega), ev_upj _ _ (by omega), ev_upj _ _ (by omega)]; exact t1, t2, fun i hi => by rw [ev_upj _ _ (by omega), ev_upj _ _ (by omega), ev_upj _ _ (by omega), ev_upj _ _ (by omega)]; exact t3 i hi⟩ (fun n s5 n4 e1 e2 hk hf => ?_)
  rintro _ rfl
  have hN : EN b L n := ⟨n4, t2, e1, e2⟩
  have hk6 : TkX (ev_up s5 137 6 (-1)) b L n := by
    unfold TkX
    rw [ev_upj _ _ (by omega), ev_upj _ _ (by omega), ev_upj _ _ (by omega), ev_upj _ _ (by omega)]; exact hk
  refine sp_advance0 (j := 0) hN (by rw [ev_up_same]; rfl) hk6 (by omega) (h n _ hN ⟨?_, ?_, ?_, ?_, ?_, ?_⟩ ?_ ?_ (fun c hc => ?_))
  · unfold adv; rw [ev_up_ne _ _ (by omega), ev_up_same]
  · unfold adv; rw [ev_up_same]
  · rw [adv_i (by omega) (by omega), ev_up_ne _ _ (by omega), hf.2 137 (by omega) (by omega) (by omega) (by omega), ev_up_ne _ _ (by omega), ev_up_ne _ _ (by omega), ev_up_ne _ _ (by omega), ev_up_same]
  · rw [adv_c (by omega), ev_upj _ _ (by omega), hf.1 1 (by omega), ev_upj _ _ (by omega), ev_upj _ _ (by omega), ev_upj _ _ (by omega), ev_upj _ _ (by omega)]; exact t1
  · unfold TkX
    rw [adv_c (by omega), adv_c (by omega), adv_c (by omega), adv_c (by omega)]; exact hk6
  · rw [adv_i (by omega) (by omega), ev_up_ne _ _ (by omega), hf.2 137 (by omega) (by omega) (by omega) (by omega), ev_up_ne _ _ (by omega), ev_up_ne _ _ (by omega), ev_up_same]
  · rw [adv_i (by omega) (by omega), ev_up_ne _ _ (by omega), hf.2 137 (by omega) (by omega) (by omega) (by omega), ev_up_ne _ _ (by omega), ev_up_same]
  · rw [adv_i (by omega) (by omega), ev_up_ne _ _ (by omega), hf.2 137 (by omega) (by omega) (by omega) (by omega), ev_up_same]
  · rw [adv_c (by omega), ev_upj _ _ (by omega), hf.2 c (by omega) (by omega) (by omega) (by omega), ev_upj _ _ (by omega), ev_upj _ _ (by omega), ev_upj _ _ (by omega), ev_upj _ _ (by omega)]
/-- what the model keeps -/
def frT (s s' : ev_S) : Prop := tr s s' ∧ trl s s' ∧ (s' 1 = s 1 ∧ s' 9 = s 9 ∧ s' 2 = s 2 ∧ s' 36 = s 36 ∧ s' 11 = s 11) ∧ ∀ i, i = 3 ∨ i = 5 ∨ i = 61 → s' 0 i = s 0 i
theorem tr_tr3 {s s' s'' : ev_S} (h : tr s s') (g : tr s' s'') : tr s s'' := by
  obtain ⟨⟨a1, a2, a3, a4, a5, a6, a7⟩, a8, a9, b1, b2, b3, b4⟩ := h
  obtain ⟨⟨c1, c2, c3, c4, c5, c6, c7⟩, c8, c9, d1, d2, d3, d4⟩ := g
  refine ⟨⟨c1.trans a1, c2.trans a2, c3.trans a3, c4.trans a4, c5.trans a5, c6.trans a6, c7.trans a7⟩, fun k hk => (c8 k hk).trans (a8 k hk), fun a ha => ?_, fun i hi => (d1 i hi).trans (b1 i hi), fun w hw => (d2 w hw).trans (b2 w hw), fun i hi => (d3 i hi).trans (b3 i hi), fun i hi => ⟨(d4 i hi).1.trans (b4 i hi).1, (d4 i hi).2.trans (b4 i hi).2⟩⟩
  obtain ⟨e1, e2, e3, e4, e5⟩ := c9 a ha
  obtain ⟨f1, f2, f3, f4, f5⟩ := a9 a ha
  exact ⟨e1.trans f1, e2.trans f2, e3.trans f3, e4.trans f4, e5.trans f5⟩
theorem trl_tr3 {s s' s'' : ev_S} (h : trl s s') (g : trl s' s'') : trl s s'' := ⟨g.1.trans h.1, fun j hj => ⟨(g.2.1 j hj).1.trans (h.2.1 j hj).1, (g.2.1 j hj).2.1.trans (h.2.1 j hj).2.1, (g.2.1 j hj).2.2.trans (h.2.1 j hj).2.2⟩, fun i hi => ⟨(g.2.2 i hi).1.trans (h.2.2 i hi).1, (g.2.2 i hi).2.trans (h.2.2 i hi).2⟩⟩
theorem tr_rf {s : ev_S} : tr s s := ⟨⟨rfl, rfl, rfl, rfl, rfl, rfl, rfl⟩, fun _ _ => rfl, fun _ _ => ⟨rfl, rfl, rfl, rfl, rfl⟩, fun _ _ => rfl, fun _ _ => rfl, fun _ _ => rfl, fun _ _ => ⟨rfl, rfl⟩⟩
theorem frT_rf {s : ev_S} : frT s s := ⟨tr_rf, ⟨rfl, fun _ _ => ⟨rfl, rfl, rfl⟩, fun _ _ => ⟨rfl, rfl⟩⟩, ⟨rfl, rfl, rfl, rfl, rfl⟩, fun _ _ => rfl⟩
theorem frT_W {s s' s'' : ev_S} (h : frT s s') (g : frW s' s'') : frT s s'' := by
  obtain ⟨h1, h2, ⟨a1, a2, a3, a4, a5⟩, h4⟩ := h
  exact ⟨tr_tr3 h1 (frW_tr1 g), trl_tr3 h2 (frW_trl g), ⟨by rw [g.2.1 1 (by omega) (by omega)]; exact a1, by rw [g.2.1 9 (by omega) (by omega)]; exact a2, by rw [g.2.1 2 (by omega) (by omega)]; exact a3, by rw [g.2.1 36 (by omega) (by omega)]; exact a4, by rw [g.2.1 11 (by omega) (by omega)]; exact a5⟩, fun i hi => by rw [g.1 i (by omega)]; exact h4 i hi⟩
theorem frT_up {s s' : ev_S} {i : Nat} {z : Int} (h : frT s s') (hi : i = 0 ∨ i = 19 ∨ i = 20 ∨ i = 31 ∨ i = 32 ∨ i = 37 ∨ i = 38) : frT s (ev_up s' 0 i z) := by
  obtain ⟨h1, h2, ⟨a1, a2, a3, a4, a5⟩, h4⟩ := h
  have hc : ∀ c, c ≠ 0 → ev_up s' 0 i z c = s' c := fun c hc => ev_upj _ _ hc
  have h0 : ∀ k, k ≠ i → ev_up s' 0 i z 0 k = s' 0 k := fun k hk => ev_up_ne _ _ (by omega)
  have e1 : tr s' (ev_up s' 0 i z) := by
    unfold tr
    rw [hc 4 (by omega), hc 5 (by omega), hc 6 (by omega), hc 7 (by omega), hc 8 (by omega), hc 27 (by omega), hc 20 (by omega), hc 21 (by omega), hc 24 (by omega), hc 25 (by omega), hc 26 (by omega), h0 6 (by omega), h0 7 (by omega), h0 8 (by omega), h0 10 (by omega), h0 11 (by omega), h0 12 (by omega), h0 46 (by omega)]
    exact tr_rf
  have e2 : trl s' (ev_up s' 0 i z) := by
    unfold trl
    rw [hc 12 (by omega), hc 13 (by omega), hc 14 (by omega), hc 15 (by omega), hc 16 (by omega), h0 25 (by omega)]
    exact ⟨rfl, fun _ _ => ⟨rfl, rfl, rfl⟩, fun _ _ => ⟨rfl, rfl⟩⟩
  exact ⟨tr_tr3 h1 e1, trl_tr3 h2 e2, ⟨by rw [hc 1 (by omega)]; exact a1, by rw [hc 9 (by omega)]; exact a2, by rw [hc 2 (by omega)]; exact a3, by rw [hc 36 (by omega)]; exact a4, by rw [hc 11 (by omega)]; exact a5⟩, fun k hk => by rw [h0 k (by omega)]; exact h4 k hk⟩
/-- behind a fault -/
def XF (σ : ev_S) (u w : Int) (σ' : ev_S) : Prop := (∀ c, c < 132 ∨ 143 < c → σ' c = σ c) ∧ σ' 132 1 = 0 ∧ σ' 137 8 = u ∧ σ' 137 9 = w ∧ σ' 141 0 = 0
def MF (s : ev_S) (u w : Int) (s' : ev_S) : Prop := frT s s' ∧ s' 0 19 = 0 ∧ s' 0 37 = u ∧ s' 0 38 = w
theorem XR_fail {σ s σ' s' : ev_S} {u w : Int} (hR : XR σ s) (hx : XF σ u w σ') (hm : MF s u w s') : XR σ' s' := by
  have hT : RT σ s := by obtain ⟨N, A, NO, MI, hM, hX, hP, hF, hI, hT⟩ := id hR; exact hT
  obtain ⟨x1, x2, x3, x4, x5⟩ := hx
  obtain ⟨⟨m1, m2, ⟨a1, a2, a3, a4, a5⟩, m4⟩, m5, m6, m7⟩ := hm
  refine XR_keep hR m1 m2 a1 a2 a3 a4 m4 x1 ⟨⟨0, by omega, m5, x2, fun i hi => absurd hi (by omega)⟩, ⟨by rw [x3, m6], by rw [x4, m7], x5⟩, ?_, ?_⟩
  · unfold RW; rw [a5]; exact hT.2.2.1
  · unfold RB; rw [x1 3 (by omega), x1 106 (by omega)]; exact hT.2.2.2
/-- the class, behind a fault -/
theorem xf_fail {b : Nat → Int} {L q i : Nat} {σ σ1 σf : ev_S} (h0 : σ 141 0 = 0) (hf : ∀ c, c < 132 ∨ 137 < c → σ1 c = σ c) (hF : FX b L σ1 q i σf) : XF σ (q : Int) ((kF b L i : Nat) : Int) (ev_up σf 132 1 0) := by
  obtain ⟨f1, f2, f3, f4⟩ := hF
  exact ⟨fun c hc => by rw [ev_upj _ _ (by omega), f3 c (by omega)]; exact hf c (by omega), ev_up_same _ _ _ _, by rw [ev_upj _ _ (by omega)]; exact f1, by rw [ev_upj _ _ (by omega)]; exact f2, by rw [ev_upj _ _ (by omega), f4, hf 141 (by omega)]; exact h0⟩
/-- the model, before the reading -/
theorem sp_mtext {d L : Nat} {s : ev_S} {b : Nat → Int} {a p : Int} {Q : Option ev_V → ev_S → Prop} (hT : TPm s b L) (h : ∀ s6, frT s s6 → TPm s6 b L → s6 0 20 = 0 → s6 0 31 = 0 → s6 0 32 = 0 → s6 0 37 = 0 → s6 0 38 = -1 → (∀ i, (5 < i ∧ i < 13) → s6 0 i = s 0 i) → (∀ c, c ≠ 0 → s6 c = s c) → Ev layM M_X12_canText (d + 9) 0 [(0, ev_r 0), (1, ev_i a), (2, ev_i p)] [] s6 (ev_pi (fun r8 s7 => ((r8 = 0 → Ev layM M_X12_text (d + 10) 68 [(0, ev_r 0), (1, ev_i a), (2, ev_i p), (3, ev_i (-1))] [] s7 Q) ∧ (r8 ≠ 0 → (Ev layM M_X12_readsText (d + 9) 0 [(0, ev_r 0), (1, ev_i a)] [] s7 (ev_pi (fun r10 s9 => ((r10 ≠ (-1) → Ev layM M_X12_text (d + 10) 68 [(0, ev_r 0), (1, ev_i a), (2, ev_i p), (3, ev_i r10)] [] s9 Q) ∧ (r10 = (-1) → (∀ s11, ev_up s9 0 37 (s9 0 35) = s11 → (∀ s12, ev_up s11 0 38 (s11 0 36) = s12 → Ev layM M_X12_text (d + 10) 68 [(0, ev_r 0), (1, ev_i a), (2, ev_i p), (3, ev_i r10)] [] s12 Q)))))))))))) : Ev layM M_X12_text (d + 10) 0 [(0, ev_r 0), (1, ev_i a), (2, ev_i p)] [] s Q := by
  refine wp_X12_text_0 ?_
  rintro _ rfl _ rfl _ rfl _ rfl _ rfl _ rfl
  obtain ⟨t1, t2, t3, t4, t5⟩ := hT
  have hc : ∀ c, c ≠ 0 → ev_up (ev_up (ev_up (ev_up (ev_up (ev_up s 0 0 0) 0 37 0) 0 38 (-1)) 0 20 0) 0 31 0) 0 32 0 c = s c := fun c hc => by rw [ev_upj _ _ hc, ev_upj _ _ hc, ev_upj _ _ hc, ev_upj _ _ hc, ev_upj _ _ hc, ev_upj _ _ hc]
  have h0 : ∀ k, k ≠ 0 → k ≠ 37 → k ≠ 38 → k ≠ 20 → k ≠ 31 → k ≠ 32 → ev_up (ev_up (ev_up (ev_up (ev_up (ev_up s 0 0 0) 0 37 0) 0 38 (-1)) 0 20 0) 0 31 0) 0 32 0 0 k = s 0 k := fun k k1 k2 k3 k4 k5 k6 => by rw [ev_up_ne _ _ (by omega), ev_up_ne _ _ (by omega), ev_up_ne _ _ (by omega), ev_up_ne _ _ (by omega), ev_up_ne _ _ (by omega), ev_up_ne _ _ (by omega)]
  refine h _ (frT_up (frT_up (frT_up (frT_up (frT_up (frT_up frT_rf (by omega)) (by omega)) (by omega)) (by omega)) (by omega)) (by omega)) ⟨by rw [h0 19 (by omega) (by omega) (by omega) (by omega) (by omega) (by omega)]; exact t1, by rw [hc 10 (by omega)]; exact t2, t3, t4, by unfold RW; rw [hc 11 (by omega)]; exact t5⟩ ?_ ?_ (ev_up_same _ _ _ _) ?_ ?_ (fun i hi => h0 i (by omega) (by omega) (by omega) (by omega) (by omega) (by omega)) hc
  · rw [ev_up_ne _ _ (by omega), ev_up_ne _ _ (by omega), ev_up_same]
  · rw [ev_up_ne _ _ (by omega), ev_up_same]
  · rw [ev_up_ne _ _ (by omega), ev_up_ne _ _ (by omega), ev_up_ne _ _ (by omega), ev_up_ne _ _ (by omega), ev_up_same]
  · rw [ev_up_ne _ _ (by omega), ev_up_ne _ _ (by omega), ev_up_ne _ _ (by omega), ev_up_same]
theorem sp_mfirst {d L : Nat} {s6 : ev_S} {b : Nat → Int} {Q : Option ev_V → ev_S → Prop} (hT : TPm s6 b L) (h20 : s6 0 20 = 0) (h : ∀ s1, AM b L s1 0 → rdf s6 s1 → Q none s1) : Ev layM M_X12_reads (d + 2) 0 [(0, ev_r 0)] [] s6 Q :=
  sp_reads (j := 0) hT h20 (fun s' y1 y2 y3 y4 y5 => h s' ⟨y1, y2, y3, y4, rdf_T hT y5⟩ y5)
/-- the model, behind a fault -/
theorem sp_mfail {d L q i : Nat} {s s1 s9 : ev_S} {b : Nat → Int} {a p : Int} {Q : Option ev_V → ev_S → Prop} (hf : frT s s1) (hF : FM b L s1 q i s9) (h : ∀ s', MF s (q : Int) ((kF b L i : Nat) : Int) s' → Q (some (ev_i (-1))) s') : ∀ s11, ev_up s9 0 37 (s9 0 35) = s11 → (∀ s12, ev_up s11 0 38 (s11 0 36) = s12 → Ev layM M_X12_text (d + 1) 68 [(0, ev_r 0), (1, ev_i a), (2, ev_i p), (3, ev_i (-1))] [] s12 Q) := by
  rintro _ rfl _ rfl
  refine wp_X12_text_68 ?_
  rintro _ rfl
  obtain ⟨f1, f2, f3⟩ := hF
  refine ⟨fun _ => h _ ⟨frT_up (frT_up (frT_up (frT_W hf f3) (by omega)) (by omega)) (by omega), ev_up_same _ _ _ _, ?_, ?_⟩, fun w => absurd rfl w⟩
  · rw [ev_up_ne _ _ (by omega), ev_up_ne _ _ (by omega), ev_up_same]; exact f1
  · rw [ev_up_ne _ _ (by omega), ev_up_same, ev_up_ne _ _ (by omega)]; exact f2
end
