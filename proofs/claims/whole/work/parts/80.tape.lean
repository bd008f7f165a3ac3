section
/-! what touches the tape and the reader alone -/
theorem XR_keep {σ s σ' s' : ev_S} (hR : XR σ s) (ht : tr s s') (hl : trl s s') (e1 : s' 1 = s 1) (e9 : s' 9 = s 9) (e2 : s' 2 = s 2) (e36 : s' 36 = s 36) (e0 : ∀ i, i = 3 ∨ i = 5 ∨ i = 61 → s' 0 i = s 0 i) (hf : ∀ c, c < 132 ∨ 143 < c → σ' c = σ c) (hT : RT σ' s') : XR σ' s' := by
  obtain ⟨N, A, NO, MI, hM, hX, hP, hF, hI, -⟩ := hR
  obtain ⟨hT0, hr, hz, h5⟩ := hM
  have hT1 := hT0
  obtain ⟨hdim, ⟨hN, hN8⟩, ⟨hA, hA6⟩, ⟨hO, hO6⟩, ⟨hMI, hM10⟩, -⟩ := hT1
  refine ⟨N, A, NO, MI, ⟨tr_tok ht hl hT0, ?_, by rw [e1]; exact hz, by rw [e0 5 (by omega)]; exact h5⟩, ⟨tr_XT ht hl hT0 (fun w hw => (hr.2.2.1 w hw).1.2.2.2.2.2) (XT_keep hX.1 (fun c c1 c2 => hf c (by omega))), by rw [e1]; exact XC_keep hX.2.1 (fun c c1 c2 => hf c (by omega)), fun i hi => ?_⟩, RP_keep hP ht hN8 hA6 (e0 3 (by omega)) e2 (by rw [e1]) (by rw [e9]; exact fun _ _ => rfl) (fun c c1 c2 => hf c (by omega)), ?_, RI_keep hI (e0 61 (by omega)) e36 (by rw [hf 103 (by omega)]) (fun c c1 c2 _ => hf c (by omega)), hT⟩
  · rw [e1, e9]; exact tr_rok ht hN8 hA6 hr
  · rw [e1] at hi
    rw [hf 28 (by omega), e9]; exact hX.2.2 i hi
  · have hG := RF_keep hF (σ' := σ') (by rw [hf 146 (by omega)]) (hf 159 (by omega)) (by rw [hf 1 (by omega)]) (fun c c1 c2 => hf c (by omega))
    unfold RF
    rw [e1]
    refine ⟨?_, ?_⟩
    · rcases hG.1 with q | ⟨q, w⟩
      · exact Or.inl q
      · exact Or.inr ⟨q, tr_XS ht hdim.1.2 hN8 (fun v hv => (hr.2.2.1 v hv).1) w⟩
    · rcases hG.2 with q | ⟨q, w⟩
      · exact Or.inl q
      · exact Or.inr ⟨q, tr_XCare ht hdim.1.2 hN8 (fun v hv => (hr.2.2.1 v hv).1) hA6 hM10 w⟩
/-! bytes -/
theorem fa_byte_low (x : Int32) : (x &&& 255).toInt8 = x.toInt8 := by
  apply Int8.toBitVec_inj.1
  apply BitVec.eq_of_getLsbD_eq
  intro i hi
  have h2 : (255 : Int32).toBitVec.getLsbD i = true := by
    have : ∀ j : Fin 8, (255 : Int32).toBitVec.getLsbD j.val = true := by decide +kernel
    exact this ⟨i, hi⟩
  have h4 : (x &&& 255).toBitVec.getLsbD i = x.toBitVec.getLsbD i := by
    show (x.toBitVec &&& (255 : Int32).toBitVec).getLsbD i = _
    rw [BitVec.getLsbD_and, h2, Bool.and_true]
  have h3 : i < 32 := by omega
  first
    | (show (((x &&& 255).toBitVec).signExtend 8).getLsbD i = (x.toBitVec.signExtend 8).getLsbD i; rw [BitVec.getLsbD_signExtend, BitVec.getLsbD_signExtend, if_pos h3, if_pos h3, h4])
    | (show (((x &&& 255).toBitVec).setWidth 8).getLsbD i = (x.toBitVec.setWidth 8).getLsbD i; rw [BitVec.getLsbD_setWidth, BitVec.getLsbD_setWidth, h4])
    | (simp [hi, h3, h4]; done)
theorem fb_byte {x : Int32} (h1 : -128 ≤ x.toInt) (h2 : x.toInt < 128) : x.toInt8.toInt32 = x := by
  apply Int32.toInt_inj.1
  rw [Int8.toInt_toInt32, Int32.toInt_toInt8, Int.bmod_eq_of_le (by omega) (by omega)]
theorem fb_byte_rng (x : Int32) : -128 ≤ x.toInt8.toInt32.toInt ∧ x.toInt8.toInt32.toInt < 128 := by
  rw [Int8.toInt_toInt32]
  have h1 := Int8.le_toInt x.toInt8
  have h2 := Int8.toInt_lt x.toInt8
  omega
theorem b_and255 (x : Int32) : 0 ≤ (x &&& 255).toInt ∧ (x &&& 255).toInt ≤ 255 := by
  have h : (x &&& 255).toBitVec.toNat ≤ 255 := by
    show (x.toBitVec &&& (255 : Int32).toBitVec).toNat ≤ 255
    rw [BitVec.toNat_and]
    exact Nat.and_le_right
  have e : (x &&& 255).toInt = ((x &&& 255).toBitVec.toNat : Int) := by
    show (x &&& 255).toBitVec.toInt = _
    exact BitVec.toInt_eq_toNat_of_lt (by omega)
  omega
theorem b_tbs (y : Int) : (0 ≤ ev_and y 255 ∧ ev_and y 255 ≤ 255) ∧ ev_nar .byte (ev_i2b y) = tb_s (ev_and y 255) := by
  unfold ev_nar ev_i2b ev_and
  rw [ev_of, vp_nar_byte]
  generalize Int32.ofInt y = x
  have h1 := b_and255 x
  refine ⟨h1, ?_⟩
  rw [fb_byte (x := x.toInt8.toInt32) (fb_byte_rng x).1 (fb_byte_rng x).2, ← fa_byte_low x, Int8.toInt_toInt32, Int32.toInt_toInt8]
  show Int.bmod (x &&& 255).toInt 256 = tb_s (x &&& 255).toInt
  generalize (x &&& 255).toInt = z at h1
  unfold tb_s
  rw [Int.bmod_def]
  split <;> split <;> omega
def ty1 (s : ev_S) (v z : Int) : ev_S := ev_up (ev_up s 10 (s 0 19).toNat (ev_and (ev_shr v z) 255)) 0 19 (s 0 19 + 1)
def ap1 (σ : ev_S) (v z : Int) : ev_S := ev_up (ev_up σ 133 (σ 132 1).toNat (ev_nar .byte (ev_i2b (ev_shr v z)))) 132 1 (σ 132 1 + 1)
theorem ty1_19 {s : ev_S} {v z : Int} : ty1 s v z 0 19 = s 0 19 + 1 := ev_up_same _ _ _ _
theorem ap1_1 {s : ev_S} {v z : Int} : ap1 s v z 132 1 = s 132 1 + 1 := ev_up_same _ _ _ _
theorem ty1_0 {s : ev_S} {v z : Int} {i : Nat} (h : i ≠ 19) : ty1 s v z 0 i = s 0 i := by unfold ty1; rw [ev_up_ne _ _ (by omega), ev_upj _ _ (by omega)]
theorem ty1_c {s : ev_S} {v z : Int} {c : Nat} (h : c ≠ 0) (h1 : c ≠ 10) : ty1 s v z c = s c := by unfold ty1; rw [ev_upj _ _ h, ev_upj _ _ h1]
theorem ap1_c {s : ev_S} {v z : Int} {c : Nat} (h : c ≠ 132) (h1 : c ≠ 133) : ap1 s v z c = s c := by unfold ap1; rw [ev_upj _ _ h, ev_upj _ _ h1]
def RTL (σ s : ev_S) (L : Nat) : Prop := s 0 19 = (L : Int) ∧ σ 132 1 = (L : Int) ∧ ∀ i, i < L → (0 ≤ s 10 i ∧ s 10 i ≤ 255) ∧ σ 133 i = tb_s (s 10 i)
theorem RTL_1 {σ s : ev_S} {L : Nat} (v z : Int) (h : RTL σ s L) : RTL (ap1 σ v z) (ty1 s v z) (L + 1) := by
  obtain ⟨h1, h2, h3⟩ := h
  refine ⟨by rw [ty1_19, h1]; omega, by rw [ap1_1, h2]; omega, fun i hi => ?_⟩
  have e1 : ty1 s v z 10 i = if i = L then ev_and (ev_shr v z) 255 else s 10 i := by
    unfold ty1
    rw [ev_upj _ _ (by omega), h1, Int.toNat_natCast]
    by_cases e : i = L
    · rw [if_pos e, e, ev_up_same]
    · rw [if_neg e, ev_up_ne _ _ (by omega)]
  have e2 : ap1 σ v z 133 i = if i = L then ev_nar .byte (ev_i2b (ev_shr v z)) else σ 133 i := by
    unfold ap1
    rw [ev_upj _ _ (by omega), h2, Int.toNat_natCast]
    by_cases e : i = L
    · rw [if_pos e, e, ev_up_same]
    · rw [if_neg e, ev_up_ne _ _ (by omega)]
  rw [e1, e2]
  by_cases e : i = L
  · rw [if_pos e, if_pos e]; exact b_tbs _
  · rw [if_neg e, if_neg e]; exact h3 i (by omega)
def ty4 (s : ev_S) (v : Int) : ev_S := ty1 (ty1 (ty1 (ty1 s v 24) v 16) v 8) v 0
def ap4 (s : ev_S) (v : Int) : ev_S := ap1 (ap1 (ap1 (ap1 s v 24) v 16) v 8) v 0
theorem sp_types {d L : Nat} {s : ev_S} {v : Int} {Q : Option ev_V → ev_S → Prop} (hL : s 0 19 = (L : Int)) (h4 : L + 4 ≤ 400) (h : Q none (ty4 s v)) : Ev layM M_X12_types d 0 [(0, ev_r 0), (1, ev_i v)] [] s Q := by
  have step : ∀ (z : Int) (s1 : ev_S), 0 ≤ z → z ≤ 24 → (0 ≤ s1 0 19 ∧ s1 0 19 < 400) → Ev layM M_X12_types d 3 [(0, ev_r 0), (1, ev_i v), (2, ev_i (z + -8))] [] (ty1 s1 v z) Q → Ev layM M_X12_types d 3 [(0, ev_r 0), (1, ev_i v), (2, ev_i z)] [] s1 Q := by
    intro z s1 z0 z1 hs k
    refine wp_X12_types_3 ⟨fun q => absurd q (by omega), fun _ => ⟨by omega, ?_⟩⟩
    rintro _ rfl
    rw [ev_upj _ _ (show (0 : Nat) ≠ 10 by omega), ev_add_eq (x := s1 0 19) (y := 1) ⟨by omega, by omega⟩, ev_add_eq (x := z) (y := -8) ⟨by omega, by omega⟩]
    rintro _ rfl
    exact k
  refine wp_X12_types_0 (step 24 s (by omega) (by omega) (by omega) (step 16 _ (by omega) (by omega) (by rw [ty1_19]; omega) (step 8 _ (by omega) (by omega) (by rw [ty1_19, ty1_19]; omega) (step 0 _ (by omega) (by omega) (by rw [ty1_19, ty1_19, ty1_19]; omega) ?_))))
  exact wp_X12_types_3 ⟨fun _ => h, fun q => absurd q (by omega)⟩
theorem sp_append {d L : Nat} {s : ev_S} {v : Int} {Q : Option ev_V → ev_S → Prop} (hL : s 132 1 = (L : Int)) (h4 : L + 4 ≤ 400) (h : Q none (ap4 s v)) : Ev layX M_X9_append d 0 [(0, ev_r 132), (1, ev_i v)] [] s Q := by
  have step : ∀ (z : Int) (s1 : ev_S), 0 ≤ z → z ≤ 24 → (0 ≤ s1 132 1 ∧ s1 132 1 < 400) → Ev layX M_X9_append d 3 [(0, ev_r 132), (1, ev_i v), (2, ev_i (z + -8))] [] (ap1 s1 v z) Q → Ev layX M_X9_append d 3 [(0, ev_r 132), (1, ev_i v), (2, ev_i z)] [] s1 Q := by
    intro z s1 z0 z1 hs k
    refine wp_X9_append_3 ⟨fun q => absurd q (by omega), fun _ => ⟨fun q => absurd q (by omega), fun _ => ⟨by omega, ?_⟩⟩⟩
    rintro _ rfl
    rw [ev_upj _ _ (show (132 : Nat) ≠ 133 by omega), ev_add_eq (x := s1 132 1) (y := 1) ⟨by omega, by omega⟩, ev_add_eq (x := z) (y := -8) ⟨by omega, by omega⟩]
    rintro _ rfl
    exact k
  refine wp_X9_append_0 (step 24 s (by omega) (by omega) (by omega) (step 16 _ (by omega) (by omega) (by rw [ap1_1]; omega) (step 8 _ (by omega) (by omega) (by rw [ap1_1, ap1_1]; omega) (step 0 _ (by omega) (by omega) (by rw [ap1_1, ap1_1, ap1_1]; omega) ?_))))
  exact wp_X9_append_3 ⟨fun _ => h, fun q => absurd q (by omega)⟩
theorem ty4_c {s : ev_S} {v : Int} {c : Nat} (h : c ≠ 0) (h1 : c ≠ 10) : ty4 s v c = s c := by unfold ty4; rw [ty1_c h h1, ty1_c h h1, ty1_c h h1, ty1_c h h1]
theorem ty4_0 {s : ev_S} {v : Int} {i : Nat} (h : i ≠ 19) : ty4 s v 0 i = s 0 i := by unfold ty4; rw [ty1_0 h, ty1_0 h, ty1_0 h, ty1_0 h]
theorem ap4_c {s : ev_S} {v : Int} {c : Nat} (h : c ≠ 132) (h1 : c ≠ 133) : ap4 s v c = s c := by unfold ap4; rw [ap1_c h h1, ap1_c h h1, ap1_c h h1, ap1_c h h1]
theorem RTL_4 {σ s : ev_S} {L : Nat} (v : Int) (h : RTL σ s L) : RTL (ap4 σ v) (ty4 s v) (L + 4) := RTL_1 _ _ (RTL_1 _ _ (RTL_1 _ _ (RTL_1 _ _ h)))
theorem RTL_up {σ s : ev_S} {L : Nat} (h : RTL σ s L) : RTL σ (ev_up s 0 0 0) L := by
  unfold RTL
  rw [ev_up_ne _ _ (by omega), ev_upj _ _ (by omega)]; exact h
/-- the same, but for the tape -/
theorem XR_tape {σ s σ' s' : ev_S} (hR : XR σ s) (e0 : ∀ i, i ≠ 0 → i ≠ 19 → s' 0 i = s 0 i) (ec : ∀ c, c ≠ 0 → c ≠ 10 → s' c = s c) (hf : ∀ c, c ≠ 132 → c ≠ 133 → σ' c = σ c) {L : Nat} (hL : L ≤ 400) (ht : RTL σ' s' L) : XR σ' s' := by
  have htl : tl s s' := tl_of (fun i hi => e0 i (by omega) (by omega)) (fun c hc => ec c (by omega) (by omega))
  have hT : RT σ s := by obtain ⟨N, A, NO, MI, hM, hX, hP, hF, hI, hT⟩ := hR; exact hT
  refine XR_keep hR (tr_of htl) (trl_of htl) (ec 1 (by omega) (by omega)) (ec 9 (by omega) (by omega)) (ec 2 (by omega) (by omega)) (ec 36 (by omega) (by omega)) (fun i hi => e0 i (by omega) (by omega)) (fun c hc => hf c (by omega) (by omega)) ?_
  obtain ⟨-, t2, t3, t4⟩ := hT
  refine ⟨⟨L, hL, ht⟩, ?_, ?_, ?_⟩
  · rw [hf 137 (by omega) (by omega), hf 141 (by omega) (by omega), e0 37 (by omega) (by omega), e0 38 (by omega) (by omega)]; exact t2
  · unfold RW; rw [ec 11 (by omega) (by omega)]; exact t3
  · unfold RB; rw [hf 3 (by omega) (by omega), hf 106 (by omega) (by omega)]; exact t4
theorem sim_feed (a b c e f : Int) : Sim M_X11_feed M_X12_feed [(1, ev_i a), (2, ev_i b), (3, ev_i c), (4, ev_i e), (5, ev_i f)] := by
  intro σ s hσ hs hR
  have hT : RT σ s := by obtain ⟨N, A, NO, MI, hM, hX, hP, hF, hI, hT⟩ := id hR; exact hT
  obtain ⟨⟨L, hL, t1⟩, -, -, -⟩ := hT
  have e19 := t1.1
  have e132 := t1.2.1
  by_cases cc : L ≤ 380
  · have r0 := RTL_up t1
    have r1 := RTL_4 a r0
    have r2 := RTL_4 b r1
    have r3 := RTL_4 c r2
    have r4 := RTL_4 e r3
    have r5 := RTL_4 f r4
    refine ⟨ev_i ((L : Int) + 20), fun σ' => σ' = ap4 (ap4 (ap4 (ap4 (ap4 σ a) b) c) e) f, fun s' => s' = ty4 (ty4 (ty4 (ty4 (ty4 (ev_up s 0 0 0) a) b) c) e) f, ?_, ?_, ?_⟩
    · refine wp_X11_feed_0 ?_
      rw [e132, ev_add_eq ⟨by omega, by omega⟩]
      refine ⟨fun _ => sp_append e132 (by omega) (sp_append r1.2.1 (by omega) (sp_append r2.2.1 (by omega) (sp_append r3.2.1 (by omega) (sp_append r4.2.1 (by omega) ⟨?_, rfl⟩)))), fun q => absurd q (by omega)⟩
      rw [r5.2.1]
      congr 2
    · refine wp_X12_feed_0 ?_
      rintro _ rfl
      rw [r0.1]
      refine ⟨fun _ => sp_types r0.1 (by omega) (sp_types r1.1 (by omega) (sp_types r2.1 (by omega) (sp_types r3.1 (by omega) (sp_types r4.1 (by omega) ⟨?_, rfl⟩)))), fun q => absurd q (by omega)⟩
      rw [r5.1]
      congr 2
    · rintro _ _ rfl rfl
      refine XR_tape hR (fun i i0 i1 => ?_) (fun k k0 k1 => ?_) (fun k k0 k1 => ?_) (by omega) r5
      · rw [ty4_0 i1, ty4_0 i1, ty4_0 i1, ty4_0 i1, ty4_0 i1, ev_up_ne _ _ (by omega)]
      · rw [ty4_c k0 k1, ty4_c k0 k1, ty4_c k0 k1, ty4_c k0 k1, ty4_c k0 k1, ev_upj _ _ k0]
      · rw [ap4_c k0 k1, ap4_c k0 k1, ap4_c k0 k1, ap4_c k0 k1, ap4_c k0 k1]
  · refine ⟨ev_i (-1), fun σ' => σ' = σ, fun s' => s' = ev_up s 0 0 0, ?_, ?_, fun σ' s' e1 e2 => by rw [e1, e2]; exact XR_no hR⟩
    · refine wp_X11_feed_0 ?_
      rw [e132, ev_add_eq ⟨by omega, by omega⟩]
      exact ⟨fun q => absurd q (by omega), fun _ => ⟨rfl, rfl⟩⟩
    · refine wp_X12_feed_0 ?_
      rintro _ rfl
      rw [ev_up_ne _ _ (by omega), e19]
      exact ⟨fun q => absurd q (by omega), fun _ => ⟨rfl, rfl⟩⟩
theorem sim_end (k : Int) : Sim M_X11_end M_X12_end [(1, ev_i k)] := by
  intro σ s hσ hs hR
  have hT : RT σ s := by obtain ⟨N, A, NO, MI, hM, hX, hP, hF, hI, hT⟩ := id hR; exact hT
  obtain ⟨⟨L, hL, t1⟩, -, -, -⟩ := hT
  have e19 := t1.1
  have e132 := t1.2.1
  have e190 : ev_up s 0 0 0 0 19 = (L : Int) := by rw [ev_up_ne _ _ (by omega)]; exact e19
  by_cases cc : 0 ≤ k ∧ k ≤ (L : Int)
  · refine ⟨ev_i 1, fun σ' => σ' = ev_up σ 132 1 k, fun s' => s' = ev_up (ev_up s 0 0 0) 0 19 k, ?_, ?_, ?_⟩
    · refine wp_X11_end_0 ?_
      rw [e132]
      refine ⟨fun q => absurd q (by omega), fun _ => ⟨fun _ => ?_, fun q => absurd q (by omega)⟩⟩
      rintro _ rfl
      exact ⟨rfl, rfl⟩
    · refine wp_X12_end_0 ?_
      rintro _ rfl
      rw [e190]
      refine sp_isIn (ev_pi_mk ?_)
      rw [if_pos cc]
      refine ⟨fun _ => ?_, fun q => absurd q (by omega)⟩
      rintro _ rfl
      exact ⟨rfl, rfl⟩
    · rintro _ _ rfl rfl
      obtain ⟨n, rfl⟩ := Int.eq_ofNat_of_zero_le cc.1
      refine XR_tape (L := n) hR (fun i i0 i1 => ?_) (fun c k0 k1 => ?_) (fun c k0 k1 => ?_) (by omega) ⟨ev_up_same _ _ _ _, ev_up_same _ _ _ _, fun i hi => ?_⟩
      · rw [ev_up_ne _ _ (by omega), ev_up_ne _ _ (by omega)]
      · rw [ev_upj _ _ k0, ev_upj _ _ k0]
      · rw [ev_upj _ _ k0]
      · rw [ev_upj _ _ (by omega), ev_upj _ _ (by omega), ev_upj _ _ (by omega)]; exact t1.2.2 i (by omega)
  · refine ⟨ev_i 0, fun σ' => σ' = σ, fun s' => s' = ev_up s 0 0 0, ?_, ?_, fun σ' s' e1 e2 => by rw [e1, e2]; exact XR_no hR⟩
    · refine wp_X11_end_0 ?_
      rw [e132]
      exact ⟨fun q => ⟨rfl, rfl⟩, fun q0 => ⟨fun q => absurd (And.intro q0 q) cc, fun q => ⟨rfl, rfl⟩⟩⟩
    · refine wp_X12_end_0 ?_
      rintro _ rfl
      rw [e190]
      refine sp_isIn (ev_pi_mk ?_)
      rw [if_neg cc]
      exact ⟨fun q => absurd rfl q, fun _ => ⟨rfl, rfl⟩⟩
theorem sim_fault (k : Int) : Sim M_X11_fault M_X12_fault [(1, ev_i k)] := by
  intro σ s hσ hs hR
  have hT : RT σ s := by obtain ⟨N, A, NO, MI, hM, hX, hP, hF, hI, hT⟩ := id hR; exact hT
  obtain ⟨-, ⟨e8, e9, -⟩, -, -⟩ := hT
  refine ⟨ev_i (if k = 0 then s 0 37 else if k = 1 then s 0 38 else -1), fun σ' => σ' = σ, fun s' => s' = ev_up s 0 0 0, ?_, ?_, fun σ' s' e1 e2 => by rw [e1, e2]; exact XR_no hR⟩
  · refine wp_X11_fault_0 ?_
    rw [e8, e9]
    refine ⟨fun q0 => ⟨fun q1 => ⟨?_, rfl⟩, fun q1 => ⟨?_, rfl⟩⟩, fun q0 => ⟨?_, rfl⟩⟩
    · rw [if_neg q0, if_neg q1]
    · rw [if_neg q0, if_pos q1]
    · rw [if_pos q0]
  · refine wp_X12_fault_0 ?_
    rintro _ rfl
    rw [ev_up_ne _ _ (by omega), ev_up_ne _ _ (by omega)]
    refine ⟨fun q0 => ⟨fun q1 => ⟨?_, rfl⟩, fun q1 => ⟨?_, rfl⟩⟩, fun q0 => ⟨?_, rfl⟩⟩
    · rw [if_neg q0, if_neg q1]
    · rw [if_neg q0, if_pos q1]
    · rw [if_pos q0]
end
