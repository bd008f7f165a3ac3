theorem sp_riskOf {d i : Nat} {s : ev_S} {Q : Option ev_V → ev_S → Prop} (hi : i < 10) (hm : m_mok s i) (h : Q (some (ev_i (s 24 (7 * i) * s 24 (7 * i + 6)))) s) : Ev layM M_X12_riskOf (d + 1) 0 [(0, ev_r 0), (1, ev_i (i : Int))] [] s Q := by
  have hr := m_risk_rng hm
  refine wp_X12_riskOf_0 (sp_ofMishap (k := 0) hi (by omega) (ev_pi_mk (sp_ofMishap (k := 6) hi (by omega) (ev_pi_mk ?_))))
  rw [Nat.add_zero, ev_mul_eq ⟨by omega, by omega⟩]
  exact h
/-- PLANNED of the model, behind its first tests -/
theorem sp_planned21 {d N A NO MI : Nat} {s0 : ev_S} {what : Int} {Q : Option ev_V → ev_S → Prop} (hT : m_tok s0 N A NO MI) (hr : m_rok s0 N A (s0 1, s0 9)) (h5 : s0 0 5 = 0)
    (h : ∀ s', (∀ i, i ≠ 0 → s' 0 i = s0 0 i) → s' 1 = s0 1 → bk (s0 9) (s' 9) (s0 1 2).toNat → (∀ c, c ≠ 0 → c ≠ 1 → c ≠ 3 → c ≠ 9 → c ≠ 28 → c ≠ 29 → s' c = s0 c) → Q (some (ev_i (if what = 0 then (m_leave s0 (s0 1) (m_plan s0 N A NO MI (s0 1, s0 9) (600 - s0 1 0).toNat).1 MI).1 else (m_leave s0 (s0 1) (m_plan s0 N A NO MI (s0 1, s0 9) (600 - s0 1 0).toNat).1 MI).2))) s') :
    ∀ (n t : Nat) (s : ev_S), (t : Int) + (n : Int) = 600 - s0 1 0 → (s 1, s 9) = m_plan s0 N A NO MI (s0 1, s0 9) t → s 0 5 = 1 → (∀ i, i ≠ 0 → i ≠ 5 → s 0 i = s0 0 i) → (∀ i, i < 87 → s 3 i = s0 1 i) → (∀ c, c ≠ 0 → c ≠ 1 → c ≠ 3 → c ≠ 9 → c ≠ 28 → c ≠ 29 → s c = s0 c) → Ev layM M_X12_planned (d + 7) 21 [(0, ev_r 0), (1, ev_i what)] [] s Q := by
  have hT0 := hT
  obtain ⟨hdim, ⟨hN, hN8⟩, ⟨hA, hA6⟩, ⟨hO, hO6⟩, ⟨hM, hM10⟩, hg, hpa, hpok, hmok, hlok⟩ := hT
  have hr0 := hr.1
  intro n
  induction n with
  | zero =>
    intro t s ht hz g5 g0 g3 gf
    have hp := (m_plan_ok (NO := NO) hT0 hr t (by show (t : Int) ≤ 600 - s0 1 0; omega)).2
    rw [← hz] at hp
    simp only at hp
    have et : t = (600 - s0 1 0).toNat := by omega
    have htl : tl s0 s := tl_of (fun i hi => g0 i (by omega) (by omega)) (fun c hc => gf c (by omega) (by omega) (by omega) (by omega) (by omega) (by omega))
    have e1 : s 1 = (m_plan s0 N A NO MI (s0 1, s0 9) (600 - s0 1 0).toNat).1 := by rw [← et, ← hz]
    refine wp_X12_planned_21 ⟨fun _ => ?_, fun c => absurd c (by omega)⟩
    have key : ∀ m i : Nat, i + m = MI → Ev layM M_X12_planned (d + 7) 48 [(0, ev_r 0), (1, ev_i what), (2, ev_i (m_leave s0 (s0 1) (s 1) i).1), (3, ev_i (m_leave s0 (s0 1) (s 1) i).2), (4, ev_i (i : Int))] [] s Q := by
      intro m
      induction m with
      | zero =>
        intro i hi
        have hi2 : i = MI := by omega
        subst hi2
        have e46 : s 0 46 = (i : Int) := by rw [g0 46 (by omega) (by omega)]; exact hM
        have fin : ∀ s' : ev_S, s' = ev_up (ev_set s 1 (cpyn (s 3) (s 1) 87)) 0 5 0 → (∀ j, j ≠ 0 → s' 0 j = s0 0 j) ∧ s' 1 = s0 1 ∧ bk (s0 9) (s' 9) (s0 1 2).toNat ∧ (∀ c, c ≠ 0 → c ≠ 1 → c ≠ 3 → c ≠ 9 → c ≠ 28 → c ≠ 29 → s' c = s0 c) := by
          intro s' hs'
          subst hs'
          refine ⟨?_, ?_, ?_, ?_⟩
          · intro j hj
            by_cases q : j = 5
            · subst q; rw [ev_up_same, h5]
            · rw [ev_up_ne _ _ (by omega), ev_set_ne _ _ (by omega)]; exact g0 j hj q
          · rw [ev_upj _ _ (by omega), ev_set_same]
            funext j
            simp only [cpyn]
            by_cases q : j < 87
            · rw [if_pos q]; exact g3 j q
            · rw [if_neg q, e1]; exact m_plan_87 hN8 hA6 hM10 (by omega) _
          · rw [ev_upj _ _ (by omega), ev_set_ne _ _ (by omega)]
            have := (m_plan_bk (T := s0) (NO := NO) (MI := i) (z := (s0 1, s0 9)) hN8 hA6 hr.2.1.1 t).1
            rw [← hz] at this
            exact this
          · intro c c0 c1 c3 c9 c28 c29
            rw [ev_upj _ _ c0, ev_set_ne _ _ c1]; exact gf c c0 c1 c3 c9 c28 c29
        refine wp_X12_planned_48 ⟨fun _ => sp_endsThought ?_, fun c => absurd c (by omega)⟩
        obtain ⟨k1, k2, k3, k4⟩ := fin _ rfl
        have hq := h _ k1 k2 k3 k4
        rw [← e1] at hq
        refine ⟨fun c => ?_, fun c => ?_⟩
        · rw [if_neg c] at hq; exact hq
        · rw [if_pos c] at hq; exact hq
      | succ m ihm =>
        intro i hi
        have e46 : s 0 46 = (MI : Int) := by rw [g0 46 (by omega) (by omega)]; exact hM
        have i2 := ihm (i + 1) (by omega)
        have hlr := m_leave_rng (T := s0) (r := s0 1) (ρ := s 1) (n := i) (fun j hj => hmok j (by omega))
        have hri := m_risk_rng (hmok i (by omega))
        refine wp_X12_planned_48 ⟨fun c => absurd c (by omega), fun _ => ?_⟩
        simp (disch := omega) only [ev_add_eq (x := 57), tn_lit]
        rw [g3 (57 + i) (by omega), ev_add_eq (x := (i : Int)) (y := 1) ⟨by omega, by omega⟩, ev_add_eq (x := (m_leave s0 (s0 1) (s 1) i).2) (y := 1) ⟨by omega, by omega⟩]
        simp only [m_leave] at i2
        refine ⟨by omega, fun c => ⟨by omega, fun c1 => wp_X12_planned_91 ?_, fun c1 => wp_X12_planned_91 ?_⟩, fun c => ?_⟩
        · simp (disch := omega) only [ev_add_eq (x := 57), tn_lit]
          rw [if_pos c, if_neg c1] at i2
          rw [ev_add_eq (x := (i : Int)) (y := 1) ⟨by omega, by omega⟩]
          refine ⟨by omega, fun c2 => ?_, fun c2 => sp_riskOf (by omega) (by rw [tl_mok htl]; exact hmok i (by omega)) (ev_pi_mk ?_)⟩
          · rw [if_neg c2] at i2; exact i2
          · rw [if_pos c2] at i2
            rw [gf 24 (by omega) (by omega) (by omega) (by omega) (by omega) (by omega), ev_add_eq ⟨by omega, by omega⟩]
            exact i2
        · simp (disch := omega) only [ev_add_eq (x := 57), tn_lit]
          rw [if_pos c, if_pos c1] at i2
          rw [ev_add_eq (x := (i : Int)) (y := 1) ⟨by omega, by omega⟩]
          exact ⟨by omega, fun _ => i2, fun c2 => absurd c2 (by omega)⟩
        · rw [if_neg c] at i2
          exact i2
    exact key MI 0 (by omega)
  | succ n ih =>
    intro t s ht hz g5 g0 g3 gf
    obtain ⟨hp1, hp⟩ := m_plan_ok (NO := NO) hT0 hr t (by show (t : Int) ≤ 600 - s0 1 0; omega)
    rw [← hz] at hp hp1
    simp only at hp
    have htl : tl s0 s := tl_of (fun i hi => g0 i (by omega) (by omega)) (fun c hc => gf c (by omega) (by omega) (by omega) (by omega) (by omega) (by omega))
    refine wp_X12_planned_21 ⟨fun c => absurd c (by omega), fun _ => ?_⟩
    refine sp_goesBy (N := N) (A := A) (NO := NO) (MI := MI) (by rw [tl_tok htl]; exact hT0) (by rw [tl_rok htl]; exact hp1) (by omega) (fun s' z1 zf => ev_pi_mk ?_)
    rw [tl_sec htl, show decide (s 0 5 ≠ 0) = true from decide_eq_true (by omega), hz] at z1
    have e0 : s' 0 = s 0 := zf 0 (by omega) (by omega) (by omega) (by omega)
    refine ih (t + 1) s' (by omega) z1 (by rw [e0]; exact g5) (by rw [e0]; exact g0) (by rw [zf 3 (by omega) (by omega) (by omega) (by omega)]; exact g3) (fun c c0 c1 c3 c9 c28 c29 => by rw [zf c c1 c9 c28 c29]; exact gf c c0 c1 c3 c9 c28 c29)
theorem sp_mplanned {d N A NO MI : Nat} {s : ev_S} {what : Int} {Q : Option ev_V → ev_S → Prop} (hT : m_tok s N A NO MI) (hr : m_rok s N A (s 1, s 9)) (h5 : s 0 5 = 0)
    (h : ∀ s', (∀ i, i ≠ 0 → s' 0 i = s 0 i) → s' 1 = s 1 → bk (s 9) (s' 9) (s 1 2).toNat → (∀ c, c ≠ 0 → c ≠ 1 → c ≠ 3 → c ≠ 9 → c ≠ 28 → c ≠ 29 → s' c = s c) → Q (some (ev_i (if what = 0 then (m_leave s (s 1) (m_plan s N A NO MI (s 1, s 9) (600 - s 1 0).toNat).1 MI).1 else if what = 1 then (m_leave s (s 1) (m_plan s N A NO MI (s 1, s 9) (600 - s 1 0).toNat).1 MI).2 else -1))) s') : Ev layM M_X12_planned (d + 7) 0 [(0, ev_r 0), (1, ev_i what)] [] s Q := by
  have hr0 := hr.1
  simp only at hr0
  refine wp_X12_planned_0 ?_
  rintro _ rfl
  refine sp_isIn (ev_pi_mk ?_)
  by_cases c : 0 ≤ what ∧ what ≤ 1
  · rw [if_pos c]
    refine ⟨fun _ => sp_thinks ?_, fun q => absurd q (by omega)⟩
    refine sp_planned21 (s0 := s) hT hr h5 (fun s' k0 k1 k9 kf => ?_) (600 - s 1 0).toNat 0 _ (by omega) ?_ ?_ ?_ ?_ ?_
    · have hq := h s' k0 k1 k9 kf
      by_cases w0 : what = 0
      · rw [if_pos w0] at hq ⊢; exact hq
      · rw [if_neg w0] at hq ⊢; rw [if_pos (by omega)] at hq; exact hq
    · simp only [m_plan]
      rw [ev_upj _ _ (by omega), ev_set_ne _ _ (by omega), ev_upj _ _ (by omega), ev_upj _ _ (by omega), ev_set_ne _ _ (by omega), ev_upj _ _ (by omega)]
    · exact ev_up_same _ _ _ _
    · intro i i0 i5
      rw [ev_up_ne _ _ (by omega), ev_set_ne _ _ (by omega), ev_up_ne _ _ (by omega)]
    · intro i hi
      rw [ev_upj _ _ (by omega), ev_set_same]
      simp only [cpyn]
      rw [if_pos hi, ev_upj _ _ (by omega)]
    · intro c c0 c1 c3 c9 c28 c29
      rw [ev_upj _ _ c0, ev_set_ne _ _ c3, ev_upj _ _ c0]
  · rw [if_neg c]
    refine ⟨fun q => absurd rfl q, fun _ => ?_⟩
    have hq := h (ev_up s 0 0 0) (fun i hi => ev_up_ne _ _ (by omega)) (ev_upj _ _ (by omega)) (by rw [ev_upj _ _ (by omega)]; exact fun _ _ => rfl) (fun c c0 _ _ _ _ _ => ev_upj _ _ c0)
    rw [if_neg (by omega), if_neg (by omega)] at hq
    exact hq
theorem sp_risk {d i : Nat} {s T : ev_S} {Q : Option ev_V → ev_S → Prop} (hi : i < 10) (him : (i : Int) < T 0 46) (hm : m_mok T i) (hXT : XT s 1 T) (h : Q (some (ev_i (T 24 (7 * i) * T 24 (7 * i + 6)))) s) : Ev layX M_X10_risk d 0 [(0, ev_r 1), (1, ev_i (i : Int))] [] s Q := by
  have hr := m_risk_rng hm
  have hrow := hXT.2.2.2.2.2.1 i him
  have m7 : ev_mul (i : Int) 7 = 7 * (i : Int) := by rw [ev_mul_eq ⟨by omega, by omega⟩]; omega
  refine wp_X10_risk_0 is_X10_1 ?_
  rw [m7]
  simp (disch := omega) only [ev_add_eq (x := 7 * (i : Int))]
  rw [show Int.toNat (7 * (i : Int) + 0) = 7 * i by omega, show Int.toNat (7 * (i : Int) + 6) = 7 * i + 6 by omega, show s (1 + 8) (7 * i) = T 24 (7 * i) from hrow 0 (by omega), show s (1 + 8) (7 * i + 6) = T 24 (7 * i + 6) from hrow 6 (by omega), ev_mul_eq ⟨by omega, by omega⟩]
  exact ⟨by omega, by omega, h⟩
theorem sp_xplan {d N A NO MI : Nat} {s T : ev_S} {r B : Nat → Int} {Q : Option ev_V → ev_S → Prop} (hT : m_tok T N A NO MI) (hr : m_rok T N A (r, B)) (hXT : XT s 1 T) (hC : XC s 15 r) (hB : XB s 28 B (r 2).toNat)
    (h : ∀ s', s' 146 8 = (m_leave T r (m_plan T N A NO MI (r, B) (600 - r 0).toNat).1 MI).1 → s' 146 9 = (m_leave T r (m_plan T N A NO MI (r, B) (600 - r 0).toNat).1 MI).2 → (∀ i, i ≠ 8 → i ≠ 9 → s' 146 i = s 146 i) → XB s' 28 B (r 2).toNat → (∀ c, (c < 147 ∨ 158 < c) → c ≠ 28 → c ≠ 14 → c ≠ 145 → c ≠ 146 → s' c = s c) → Q none s') : Ev layX M_X3_plan (d + 6) 0 [(0, ev_r 146)] [] s Q := by
  have hT0 := hT
  obtain ⟨hdim, ⟨hN, hN8⟩, ⟨hA, hA6⟩, ⟨hO, hO6⟩, ⟨hM, hM10⟩, hg, hpa, hpok, hmok, hlok⟩ := hT
  have hr0 := hr.1
  simp only at hr0
  have hlr := m_lastS_rng (T := T) (r := r) (n := MI) (fun i hi => (hmok i hi).2.2.1.2.2)
  refine wp_X3_plan_0 (sp_copyFrom is_X2_147 is_X2_15 (by omega) hC (fun s1 hC1 hf1 => ?_))
  have hXT1 : XT s1 1 T := XT_keep hXT (fun c h1 h2 => hf1 c (by omega))
  have hC15 : XC s1 15 r := XC_keep hC (fun c h1 h2 => hf1 c (by omega))
  have hB1 : XB s1 28 B (r 2).toNat := fun i hi => by rw [hf1 28 (by omega)]; exact hB i hi
  refine sp_lastSecond hT0 hXT1 hC15 (ev_pi_mk ?_)
  rw [hC15.1.1]
  -- the sums
  have sums : ∀ (t : Nat) (s2 : ev_S), t = (m_lastS T r MI + 1 - r 0).toNat → XC s2 147 (m_plan T N A NO MI (r, B) t).1 → XB s2 28 B (r 2).toNat → (∀ c, (c < 147 ∨ 158 < c) → c ≠ 28 → c ≠ 14 → c ≠ 145 → s2 c = s c) → Ev layX M_X3_plan (d + 6) 60 [(0, ev_r 146), (2, ev_i 0)] [] (ev_up (ev_up s2 146 8 0) 146 9 0) Q := by
    intro t s2 ht g1 gB gf
    have eqv : m_leave T r (m_plan T N A NO MI (r, B) (600 - r 0).toNat).1 MI = m_leave T r (m_plan T N A NO MI (r, B) t).1 MI := by
      refine m_leave_cong (fun i hi hz => ?_)
      have hs := m_plan_stop (n := t) hT0 hr hi (by show m_lastS T r MI < r 0 + (t : Int); omega) hz ((600 - r 0).toNat - t) (by show _ ≤ 600 - r 0; omega)
      rw [show t + ((600 - r 0).toNat - t) = (600 - r 0).toNat by omega] at hs
      exact hs
    rw [eqv] at h
    have key : ∀ (m i : Nat) (s3 : ev_S), i + m = MI → s3 146 8 = (m_leave T r (m_plan T N A NO MI (r, B) t).1 i).1 → s3 146 9 = (m_leave T r (m_plan T N A NO MI (r, B) t).1 i).2 → (∀ j, j ≠ 8 → j ≠ 9 → s3 146 j = s2 146 j) → (∀ c, c ≠ 146 → s3 c = s2 c) → Ev layX M_X3_plan (d + 6) 60 [(0, ev_r 146), (2, ev_i (i : Int))] [] s3 Q := by
      intro m
      induction m with
      | zero =>
        intro i s3 hi k8 k9 kj kf
        have hi2 : i = MI := by omega
        subst hi2
        have e13 : s3 1 13 = (i : Int) := by rw [kf 1 (by omega), gf 1 (by omega) (by omega) (by omega) (by omega), hXT.1.2.2.2.2.2.2]; exact hM
        refine wp_X3_plan_60 ⟨fun _ => h s3 k8 k9 ?_ ?_ ?_, fun c => absurd c (by omega)⟩
        · intro j j8 j9; rw [kj j j8 j9, gf 146 (by omega) (by omega) (by omega) (by omega)]
        · intro j hj; rw [kf 28 (by omega)]; exact gB j hj
        · intro c c1 c28 c14 c145 c146; rw [kf c c146]; exact gf c c1 c28 c14 c145
      | succ m ihm =>
        intro i s3 hi k8 k9 kj kf
        have hXT3 : XT s3 1 T := XT_keep hXT (fun c h1 h2 => by rw [kf c (by omega), gf c (by omega) (by omega) (by omega) (by omega)])
        have e13 : s3 1 13 = (MI : Int) := by rw [hXT3.1.2.2.2.2.2.2]; exact hM
        have e24 : s3 24 i = r (57 + i) := by rw [kf 24 (by omega), gf 24 (by omega) (by omega) (by omega) (by omega)]; exact (hC.2.2.2 i (by omega)).1
        have e156 : s3 156 i = (m_plan T N A NO MI (r, B) t).1 (57 + i) := by rw [kf 156 (by omega)]; exact (g1.2.2.2 i (by omega)).1
        have hlr2 := m_leave_rng (T := T) (r := r) (ρ := (m_plan T N A NO MI (r, B) t).1) (n := i) (fun j hj => hmok j (by omega))
        have hri := m_risk_rng (hmok i (by omega))
        have nx := ihm (i + 1)
        simp only [m_leave] at nx
        have hc1 : ev_add (i : Int) 1 = (i : Int) + 1 := ev_add_eq ⟨by omega, by omega⟩
        -- behind 'not happened'
        have p116 : (r (57 + i) ≠ 0 ∨ (m_plan T N A NO MI (r, B) t).1 (57 + i) ≠ 2) → Ev layX M_X3_plan (d + 6) 116 [(0, ev_r 146), (2, ev_i (i : Int))] [] s3 Q := by
          intro hno
          refine wp_X3_plan_116 ?_
          rw [Int.toNat_natCast, e24, e156, k9, hc1]
          refine ⟨by omega, fun c => ?_, fun c => ⟨by omega, fun c2 => ?_, fun c2 => ?_⟩⟩
          · rw [if_neg c] at nx
            exact nx s3 (by omega) k8 k9 kj kf
          · rw [if_pos c, if_neg c2, if_neg (by rcases hno with q | q; exact absurd c q; exact q)] at nx
            exact nx s3 (by omega) k8 k9 kj kf
          · rw [if_pos c, if_pos c2] at nx
            rw [ev_add_eq ⟨by omega, by omega⟩]
            rintro _ rfl
            refine nx _ (by omega) ?_ ?_ ?_ ?_
            · rw [ev_up_ne _ _ (by omega)]; exact k8
            · exact ev_up_same _ _ _ _
            · intro j j8 j9; rw [ev_up_ne _ _ (by omega)]; exact kj j j8 j9
            · intro c hc; rw [ev_upj _ _ hc]; exact kf c hc
        refine wp_X3_plan_60 ⟨fun c => absurd c (by omega), fun _ => ?_⟩
        rw [Int.toNat_natCast, e24, e156, k8, hc1]
        refine ⟨by omega, fun c => p116 (Or.inl c), fun c => ⟨by omega, fun c2 => p116 (Or.inr c2), fun c2 => sp_risk (by omega) (by omega) (hmok i (by omega)) hXT3 (ev_pi_mk ?_)⟩⟩
        rw [ev_add_eq ⟨by omega, by omega⟩]
        rintro _ rfl
        rw [if_pos c, if_neg (by omega), if_pos c2] at nx
        refine nx _ (by omega) ?_ ?_ ?_ ?_
        · exact ev_up_same _ _ _ _
        · rw [ev_up_ne _ _ (by omega)]; exact k9
        · intro j j8 j9; rw [ev_up_ne _ _ (by omega)]; exact kj j j8 j9
        · intro c hc; rw [ev_upj _ _ hc]; exact kf c hc
    refine key MI 0 _ (by omega) ?_ ?_ ?_ ?_
    · rw [ev_up_ne _ _ (by omega), ev_up_same]; rfl
    · rw [ev_up_same]; rfl
    · intro j j8 j9; rw [ev_up_ne _ _ (by omega), ev_up_ne _ _ (by omega)]
    · intro c hc; rw [ev_upj _ _ hc, ev_upj _ _ hc]
  have main : ∀ (n t : Nat) (s2 : ev_S), t + n = (m_lastS T r MI + 1 - r 0).toNat → XC s2 147 (m_plan T N A NO MI (r, B) t).1 → XB s2 28 (m_plan T N A NO MI (r, B) t).2 ((m_plan T N A NO MI (r, B) t).1 2).toNat → (∀ c, (c < 147 ∨ 158 < c) → c ≠ 28 → c ≠ 14 → c ≠ 145 → s2 c = s c) → Ev layX M_X3_plan (d + 6) 24 [(0, ev_r 146), (1, ev_i (m_lastS T r MI)), (2, ev_i (r 0 + (t : Int)))] [] s2 Q := by
    intro n
    induction n with
    | zero =>
      intro t s2 ht g1 gB gf
      refine wp_X3_plan_24 ⟨fun _ => ?_, fun c => absurd c (by omega)⟩
      rintro _ rfl
      rintro _ rfl
      obtain ⟨b1, b2⟩ := m_plan_bk (T := T) (NO := NO) (MI := MI) (z := (r, B)) hN8 hA6 hr.2.1.1 t
      refine sums t s2 (by omega) g1 (fun i hi => ?_) gf
      rw [gB i (by simp only at b2; omega)]
      exact b1 i hi
    | succ n ih =>
      intro t s2 ht g1 gB gf
      obtain ⟨hp1, hp⟩ := m_plan_ok (NO := NO) hT0 hr t (by show (t : Int) ≤ 600 - r 0; omega)
      simp only at hp
      have hXT2 : XT s2 1 T := XT_keep hXT (fun c h1 h2 => gf c (by omega) (by omega) (by omega) (by omega))
      refine wp_X3_plan_24 ⟨fun c => absurd c (by omega), fun _ => ?_⟩
      rw [ev_add_eq (x := r 0 + (t : Int)) ⟨by omega, by omega⟩, show r 0 + (t : Int) + 1 = r 0 + ((t + 1 : Nat) : Int) by omega]
      refine sp_goBy (T := T) (r := (m_plan T N A NO MI (r, B) t).1) (B := (m_plan T N A NO MI (r, B) t).2) (th := true) is_X2_147 (by omega) hT0 hp1 (by omega) rfl hXT2 g1 gB (fun s3 z1 z2 zf => ev_pi_mk ?_)
      exact ih (t + 1) s3 (by omega) z1 z2 (fun c c1 c28 c14 c145 => by rw [zf c (by omega) c28 c14 c145]; exact gf c c1 c28 c14 c145)
  have m0 := main (m_lastS T r MI + 1 - r 0).toNat 0 s1 (by omega) hC1 hB1 (fun c c1 _ _ _ => hf1 c (by omega))
  rw [show r 0 + ((0 : Nat) : Int) = r 0 by omega] at m0
  exact m0
