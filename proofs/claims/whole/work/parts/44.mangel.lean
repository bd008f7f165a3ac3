/-! angels: the model -/
theorem sp_farOf {d : Nat} {s : ev_S} {Q : Option ev_V → ev_S → Prop} {p q : Int} (hp : 0 ≤ p ∧ p < 64) (hq : 0 ≤ q ∧ q < 64) (h : Q (some (ev_i (m_far p q))) s) : Ev layM M_X12_farOf (d + 1) 0 [(0, ev_r 0), (1, ev_i p), (2, ev_i q)] [] s Q := by
  refine wp_X12_farOf_0 ?_
  rw [ev_rem_eq (x := p) ⟨by omega, by omega⟩ ⟨by omega, by omega⟩, ev_rem_eq (x := q) ⟨by omega, by omega⟩ ⟨by omega, by omega⟩, ev_div_eq (x := p) ⟨by omega, by omega⟩ ⟨by omega, by omega⟩, ev_div_eq (x := q) ⟨by omega, by omega⟩ ⟨by omega, by omega⟩, ev_sub_eq (x := p % 8) ⟨by omega, by omega⟩, ev_sub_eq (x := p / 8) ⟨by omega, by omega⟩]
  refine sp_without (by omega) (ev_pi_mk (sp_without (by omega) (ev_pi_mk ?_)))
  rw [ev_add_eq ⟨by omega, by omega⟩]
  have e : m_far p q = ((p % 8 - q % 8).natAbs : Int) + ((p / 8 - q / 8).natAbs : Int) := by unfold m_far; omega
  rw [e] at h; exact h
theorem sp_isBusy {d a : Nat} {s : ev_S} {n : Int} {Q : Option ev_V → ev_S → Prop} (ha : a < 6) (hn : 1 ≤ n ∧ n ≤ 1000) (hg : 0 ≤ s 1 (45 + a) ∧ s 1 (45 + a) ≤ 64) (h : Q none (ev_set s 1 (m_busy a n (s 1)))) : Ev layM M_X12_isBusy d 0 [(0, ev_r 0), (1, ev_i (a : Int)), (2, ev_i n)] [] s Q := by
  refine wp_X12_isBusy_0 ?_
  simp (disch := omega) only [ev_add_eq (x := 33), ev_add_eq (x := 45), ev_add_eq (x := 27), tn_lit, ev_sub_eq (x := n)]
  refine ⟨by omega, ?_⟩
  rintro _ rfl
  unfold m_busy at h
  have e45 : ev_up s 1 (33 + a) (n - 1) 1 (45 + a) = s 1 (45 + a) := by rw [ev_up_ne _ _ (by omega)]
  rw [e45, ev_sub_eq (x := s 1 (45 + a)) ⟨by omega, by omega⟩]
  refine ⟨fun c => ?_, fun c => ⟨by omega, fun c2 => ⟨by omega, by omega, ?_⟩, fun c2 => ?_⟩⟩
  · rw [if_pos (Or.inl c)] at h; rw [ev_up_set]; exact h
  · rintro _ rfl
    refine ⟨by omega, ?_⟩
    rintro _ rfl
    rw [if_neg (by omega)] at h
    rw [ev_up_set, ev_up_set, ev_up_set, ev_set_set, ev_set_set, ev_set_same, ev_set_same]; exact h
  · rw [if_pos (Or.inr c2)] at h; rw [ev_up_set]; exact h
/-! what the pure functions take of the told is not touched by cells 1, 9, 28, 29 -/
theorem fr4_rf {s : ev_S} : fr4 s s := fun _ _ _ _ _ => rfl
theorem fr4_set {s s' : ev_S} {r : Nat → Int} (h : fr4 s s') : fr4 s (ev_set s' 1 r) := fun c c1 c9 c28 c29 => by rw [ev_set_ne _ _ c1]; exact h c c1 c9 c28 c29
theorem fr4_tr {s s' s'' : ev_S} (h : fr4 s s') (h2 : fr4 s' s'') : fr4 s s'' := fun c c1 c9 c28 c29 => by rw [h2 c c1 c9 c28 c29]; exact h c c1 c9 c28 c29
theorem m_law_cong {s s' : ev_S} (h : fr4 s s') (q : Nat → Int) (j : Nat) : m_law s' q j = m_law s q j := by
  unfold m_law; rw [h 15 (by omega) (by omega) (by omega) (by omega), h 16 (by omega) (by omega) (by omega) (by omega), h 13 (by omega) (by omega) (by omega) (by omega), h 14 (by omega) (by omega) (by omega) (by omega)]
theorem m_wk_cong {s s' : ev_S} (h : fr4 s s') (q : Nat → Int) (sp : Bool) : ∀ n j, m_wk s' q sp j n = m_wk s q sp j n
  | 0, _ => rfl
  | n + 1, j => by simp only [m_wk]; rw [m_law_cong h, h 12 (by omega) (by omega) (by omega) (by omega), m_wk_cong h q sp n (j + 1)]
theorem m_spoilt_cong {s s' : ev_S} (h : fr4 s s') (sec p : Int) (n : Nat) : m_spoilt s' sec p n = m_spoilt s sec p n := by
  unfold m_spoilt; rw [h 6 (by omega) (by omega) (by omega) (by omega), h 7 (by omega) (by omega) (by omega) (by omega), h 8 (by omega) (by omega) (by omega) (by omega)]
theorem m_works_cong {s s' : ev_S} (h : fr4 s s') (r : Nat → Int) (N NO a : Nat) (kind : Int) : m_works s' r N NO a kind = m_works s r N NO a kind := by
  unfold m_works
  rw [m_wk_cong h, m_spoilt_cong h, h 0 (by omega) (by omega) (by omega) (by omega)]
  have e : ∀ p sp, m_ask s' r N a kind p sp = m_ask s r N a kind p sp := by intro p sp; unfold m_ask; rw [h 5 (by omega) (by omega) (by omega) (by omega)]
  rw [e]
theorem m_hold_cong {s s' : ev_S} (h : fr4 s s') (kind : Nat) (p : Int) (r : Nat → Int) : ∀ n, m_hold s' kind p r n = m_hold s kind p r n
  | 0 => rfl
  | n + 1 => by simp only [m_hold]; rw [m_hold_cong h kind p r n, h 4 (by omega) (by omega) (by omega) (by omega)]
theorem m_does_cong {s s' : ev_S} (h : fr4 s s') (N NO a kind : Nat) (z : (Nat → Int) × (Nat → Int)) : m_does s' N NO a kind z = m_does s N NO a kind z := by
  simp only [m_does, m_works_cong h, m_hold_cong h]
theorem m_lok_cong {s s' : ev_S} (h : fr4 s s') (hl : m_lok s) : m_lok s' := by
  unfold m_lok
  rw [h 0 (by omega) (by omega) (by omega) (by omega), h 13 (by omega) (by omega) (by omega) (by omega), h 14 (by omega) (by omega) (by omega) (by omega), h 15 (by omega) (by omega) (by omega) (by omega), h 16 (by omega) (by omega) (by omega) (by omega)]
  exact hl
theorem m_pl_cong {s s' : ev_S} (h : fr4 s s') {p : Int} : m_pl s' p ↔ m_pl s p := by
  unfold m_pl; rw [h 0 (by omega) (by omega) (by omega) (by omega)]
/-- an angel's orders, one behind another -/
theorem sp_angelLoop {d N A NO MI a : Nat} {T : ev_S} {Q : Option ev_V → ev_S → Prop} (hT : m_tok T N A NO MI) (ha : a < A) : ∀ (m : Nat) (s : ev_S), fr4 T s → m_mid T N A a (s 1, s 9) → s 1 (33 + a) = 0 → T 27 a < s 1 (39 + a) + (m : Int) →
    (∀ s', (s' 1, s' 9) = m_orders T N NO a m (s 1, s 9) → fr4 T s' → Q none s') → Ev layM M_X12_angelGoesOn (d + 5) 29 [(0, ev_r 0), (1, ev_i (a : Int)), (2, ev_i 1)] [] s Q := by
  intro m
  obtain ⟨hdim, ⟨hN, hN8⟩, ⟨hA, hA6⟩, ⟨hO, hO6⟩, -, -, hpa, hpok, -, hlok⟩ := hT
  obtain ⟨⟨hpace1, hpace2⟩, ⟨hl1, hl2⟩, hplan⟩ := hpok a ha
  induction m with
  | zero =>
    intro s hf hmid hb hm h
    obtain ⟨-, -, -, haa, -⟩ := hmid
    have := (haa a ha).2.2.1
    simp only at this
    omega
  | succ m ih =>
    intro s hf hmid hb hm h
    have hmid0 := hmid
    obtain ⟨h0, h2, hw, haa, hrise, hsecs⟩ := hmid
    have hab := haa a ha
    rw [if_neg (by omega)] at hab
    obtain ⟨g1, g2, g3, g4, g5, g6, g7⟩ := hab
    simp only at h0 h2 g1 g2 g3 g4 g5 g6 g7
    have g64 := m_pl_64 hdim.2.2 g1
    have e27 : s 27 = T 27 := hf 27 (by omega) (by omega) (by omega) (by omega)
    have e25 : s 25 = T 25 := hf 25 (by omega) (by omega) (by omega) (by omega)
    have e26 : s 26 = T 26 := hf 26 (by omega) (by omega) (by omega) (by omega)
    have e5 : s 5 = T 5 := hf 5 (by omega) (by omega) (by omega) (by omega)
    have e0 : s 0 = T 0 := hf 0 (by omega) (by omega) (by omega) (by omega)
    refine wp_X12_angelGoesOn_29 ⟨fun c => absurd c (by omega), fun _ => ?_⟩
    rw [ev_add_eq (x := 39) (y := (a : Int)) ⟨by omega, by omega⟩, tn_lit, Int.toNat_natCast, e27]
    refine ⟨by omega, by omega, fun c => ?_, fun c => ?_⟩
    · refine h s ?_ hf
      simp only [m_orders]; rw [if_neg (by omega)]
    · -- an order
      simp only [m_orders] at h
      rw [if_pos c] at h
      obtain ⟨o, ho⟩ := Int.eq_ofNat_of_zero_le g3.1
      obtain ⟨⟨k1, k2⟩, k3, k4⟩ := hplan o (by omega)
      have ho2 : (s 1 (39 + a)).toNat = o := by omega
      rw [ho2] at h
      refine wp_X12_obeys_0 ?_
      simp (disch := omega) only [ev_add_eq (x := 39), ev_add_eq (x := 27), ev_add_eq (x := 45), tn_lit]
      rw [ho, ev_mul_eq (x := 40) (y := (a : Int)) ⟨by omega, by omega⟩, ev_add_eq (x := 40 * (a : Int)) (y := (o : Int)) ⟨by omega, by omega⟩, show Int.toNat (40 * (a : Int) + (o : Int)) = 40 * a + o by omega, ev_add_eq (x := (o : Int)) (y := 1) ⟨by omega, by omega⟩]
      refine ⟨by omega, by omega, by omega, ?_⟩
      rintro _ rfl
      have u25 : ev_up s 1 (39 + a) ((o : Int) + 1) 25 = T 25 := by rw [ev_upj _ _ (by omega)]; exact e25
      have u26 : ev_up s 1 (39 + a) ((o : Int) + 1) 26 = T 26 := by rw [ev_upj _ _ (by omega)]; exact e26
      have u5 : ev_up s 1 (39 + a) ((o : Int) + 1) 5 = T 5 := by rw [ev_upj _ _ (by omega)]; exact e5
      have u27 : ev_up s 1 (39 + a) ((o : Int) + 1) 1 (27 + a) = s 1 (27 + a) := by rw [ev_up_ne _ _ (by omega)]
      have eS : ev_up s 1 (39 + a) ((o : Int) + 1) = ev_set s 1 (rup (s 1) (39 + a) ((o : Int) + 1)) := ev_up_set _ _ _ _
      rw [u25, u26, u27]
      rw [ho] at h
      have hfS : fr4 T (ev_up s 1 (39 + a) ((o : Int) + 1)) := by rw [eS]; exact fr4_set hf
      have done : ∀ s' : ev_S, Q none s' → Ev layM M_X12_angelGoesOn (d + 5) 29 [(0, ev_r 0), (1, ev_i (a : Int)), (2, ev_i 0)] [] s' Q := fun s' q => wp_X12_angelGoesOn_29 ⟨fun _ => q, fun c => absurd rfl c⟩
      refine ⟨by omega, fun c5 => ⟨by omega, fun c6 => ⟨by omega, ?_⟩, fun c6 => ⟨by omega, ?_⟩⟩, fun c5 => ⟨by omega, by omega, ?_⟩⟩
      · -- a doing
        rw [if_neg c5, if_neg c6] at h
        obtain ⟨kd, hkd⟩ := Int.eq_ofNat_of_zero_le k1
        rw [hkd] at h ⊢
        rw [Int.toNat_natCast] at h
        have hs1 : ev_up s 1 (39 + a) ((o : Int) + 1) 1 = rup (s 1) (39 + a) ((o : Int) + 1) := by rw [eS, ev_set_same]
        have hs9 : ev_up s 1 (39 + a) ((o : Int) + 1) 9 = s 9 := by rw [ev_upj _ _ (by omega)]
        refine sp_does (N := N) (NO := NO) ?_ hN8 ?_ hO6 (by omega) (by omega) ?_ (m_lok_cong hfS hlok) ?_ ?_ ?_ ?_ ?_
        · rw [hfS 0 (by omega) (by omega) (by omega) (by omega)]; exact hN
        · rw [hfS 0 (by omega) (by omega) (by omega) (by omega)]; exact hO
        · rw [hs1, rup_ne _ _ (by omega)]; exact g64
        · rw [hs1, rup_ne _ _ (by omega)]; exact h2
        · rw [hs1, rup_ne _ _ (by omega)]; omega
        · intro w hw8
          rw [hs1, rup_ne _ _ (by omega)]
          obtain ⟨gw, gw7⟩ := hw w hw8
          exact ⟨gw.2.1, gw7⟩
        · rw [hfS 4 (by omega) (by omega) (by omega) (by omega)]; exact hpa kd (by omega)
        · intro s' z1 z9 zf
          refine ev_pi_mk (done s' (h s' ?_ (fr4_tr hfS zf)))
          rw [m_does_cong hfS, hs1, hs9] at z1 z9
          rw [z1, z9]
      · -- a waiting
        rw [if_neg c5, if_pos c6] at h
        obtain ⟨w1, w2⟩ := k4 c6
        have h45 : s 1 (45 + a) = 0 := g4 hb
        refine sp_isBusy (by omega) (by omega) ?_ (ev_pi_mk (done _ (h _ ?_ (fr4_set hfS))))
        · rw [ev_up_ne _ _ (by omega), h45]; omega
        · rw [ev_set_same, ev_set_ne _ _ (by omega), eS, ev_set_same, ev_set_ne _ _ (by omega)]
      · -- a going
        rw [if_pos c5] at h
        have q64 := m_pl_64 hdim.2.2 (k3 c5)
        have hfar := m_far_rng g64 q64
        refine sp_farOf g64 q64 (ev_pi_mk ⟨by omega, ?_⟩)
        rw [u26, u5, Int.toNat_natCast]
        have hb1 : 0 ≤ m_far (s 1 (27 + a)) (T 26 (40 * a + o)) * T 5 a := Int.mul_nonneg hfar.1 (by omega)
        have hb2 : m_far (s 1 (27 + a)) (T 26 (40 * a + o)) * T 5 a ≤ 14 * 9 := Int.mul_le_mul hfar.2 hpace2 (by omega) (by omega)
        rw [ev_mul_eq ⟨by omega, by omega⟩]
        generalize hfn : m_far (s 1 (27 + a)) (T 26 (40 * a + o)) * T 5 a = fn at *
        refine ⟨fun c7 => ⟨by omega, by omega, ?_⟩, fun c7 => ?_⟩
        · rw [if_neg c7] at h
          rw [ev_add_eq (x := T 26 (40 * a + o)) ⟨by omega, by omega⟩]
          rintro _ rfl
          have eS2 : ev_up (ev_up s 1 (39 + a) ((o : Int) + 1)) 1 (45 + a) (T 26 (40 * a + o) + 1) = ev_set s 1 (rup (rup (s 1) (39 + a) ((o : Int) + 1)) (45 + a) (T 26 (40 * a + o) + 1)) := by
            rw [ev_up_set, eS, ev_set_set, ev_set_same]
          rw [eS2]
          refine sp_isBusy (by omega) (by omega) ?_ (ev_pi_mk (done _ (h _ ?_ (fr4_set (fr4_set hf)))))
          · rw [ev_set_same, rup_same]; omega
          · rw [ev_set_same, ev_set_same, ev_set_ne _ _ (by omega), ev_set_ne _ _ (by omega)]
        · rw [if_pos c7] at h
          have hs1 : ev_up s 1 (39 + a) ((o : Int) + 1) 1 = rup (s 1) (39 + a) ((o : Int) + 1) := by rw [eS, ev_set_same]
          have hs9 : ev_up s 1 (39 + a) ((o : Int) + 1) 9 = s 9 := by rw [ev_upj _ _ (by omega)]
          refine ev_pi_mk (ih _ hfS ?_ ?_ ?_ ?_)
          · rw [hs1, hs9]
            refine ⟨?_, ?_, ?_, ?_, ?_, ?_⟩
            · show 0 ≤ rup _ _ _ 0 ∧ rup _ _ _ 0 ≤ 599
              rw [rup_ne _ _ (by omega)]; exact h0
            · show 0 ≤ rup _ _ _ 2 ∧ rup _ _ _ 2 ≤ 100
              rw [rup_ne _ _ (by omega)]; exact h2
            · intro w hw8
              obtain ⟨gw, gw7⟩ := hw w hw8
              refine ⟨m_wok_cong gw (rup_ne _ _ (by omega)) (rup_ne _ _ (by omega)) (rup_ne _ _ (by omega)), ?_⟩
              show rup _ _ _ (11 + w) ≤ 99
              rw [rup_ne _ _ (by omega)]; exact gw7
            · intro b hb8
              have hbb := haa b hb8
              by_cases eb : b = a
              · subst eb
                rw [if_neg (by omega)]
                refine ⟨?_, ?_, ?_, ?_, ?_, ?_⟩
                · show m_pl T (rup _ _ _ (27 + b)); rw [rup_ne _ _ (by omega)]; exact g1
                · show 0 ≤ rup _ _ _ (33 + b) ∧ rup _ _ _ (33 + b) ≤ 1000; rw [rup_ne _ _ (by omega)]; exact g2
                · show 0 ≤ rup _ _ _ (39 + b) ∧ rup _ _ _ (39 + b) ≤ T 27 b; rw [rup_same]; omega
                · show rup _ _ _ (33 + b) = 0 → rup _ _ _ (45 + b) = 0; rw [rup_ne _ _ (by omega), rup_ne _ _ (by omega)]; exact g4
                · show rup _ _ _ (45 + b) ≠ 0 → m_pl T (rup _ _ _ (45 + b) - 1); rw [rup_ne _ _ (by omega)]; exact g5
                · show 0 ≤ rup _ _ _ (51 + b) ∧ rup _ _ _ (51 + b) ≤ rup _ _ _ 0 + ((0 : Nat) : Int); rw [rup_ne _ _ (by omega), rup_ne _ _ (by omega)]; exact ⟨g6, g7⟩
              · exact m_aokD_cong hbb (rup_ne _ _ (by omega)) (rup_ne _ _ (by omega)) (rup_ne _ _ (by omega)) (rup_ne _ _ (by omega)) (rup_ne _ _ (by omega)) (rup_ne _ _ (by omega))
            · show m_rise (s 9) (rup _ _ _ 2).toNat
              rw [rup_ne _ _ (by omega)]; exact hrise
            · show ∀ l, l < (rup _ _ _ 2).toNat → s 9 (5 * l) ≤ rup _ _ _ 0
              rw [rup_ne _ _ (by omega), rup_ne _ _ (by omega)]; exact hsecs
          · rw [hs1, rup_ne _ _ (by omega)]; exact hb
          · rw [hs1, rup_same]; omega
          · intro s' hz zf
            rw [hs1, hs9] at hz
            exact h s' hz zf
theorem sp_angelGoesOn {d N A NO MI a : Nat} {T s : ev_S} {Q : Option ev_V → ev_S → Prop} (hT : m_tok T N A NO MI) (ha : a < A) (hf : fr4 T s) (hmid : m_mid T N A a (s 1, s 9)) (h : ∀ s', (s' 1, s' 9) = m_angel T N NO a (s 1, s 9) → fr4 T s' → Q none s') : Ev layM M_X12_angelGoesOn (d + 5) 0 [(0, ev_r 0), (1, ev_i (a : Int))] [] s Q := by
  have hA6 : A ≤ 6 := hT.2.2.1.2
  have hdim := hT.1
  have hab := hmid.2.2.2.1 a ha
  have hpk := hT.2.2.2.2.2.2.2.1 a ha
  rw [if_neg (by omega)] at hab
  obtain ⟨g1, g2, g3, g4, g5, g6⟩ := hab
  simp only at g2 g3 g4 g5
  refine wp_X12_angelGoesOn_0 ?_
  simp (disch := omega) only [ev_add_eq (x := 33), tn_lit]
  unfold m_angel at h
  refine ⟨by omega, fun c => ?_, fun c => ⟨by omega, ?_⟩⟩
  · simp only at h
    rw [if_neg (by omega)] at h
    refine sp_angelLoop hT ha 41 s hf hmid (by omega) ?_ h
    have := hpk.2.1
    omega
  · simp only at h
    rw [if_pos c] at h
    have hg : 0 ≤ s 1 (45 + a) ∧ s 1 (45 + a) ≤ 64 := by
      by_cases e : s 1 (45 + a) = 0
      · omega
      · have := m_pl_64 hdim.2.2 (g5 e); omega
    refine sp_isBusy (by omega) (by omega) hg (h _ ?_ (fr4_set hf))
    rw [ev_set_same, ev_set_ne _ _ (by omega)]
