/-! angels: the class -/
theorem ev_abs_eq {x : Int} (h : -2147483647 ≤ x ∧ x ≤ 2147483647) : ev_abs x = (x.natAbs : Int) := by
  unfold ev_abs
  have hx : ev_R x := ⟨by omega, by omega⟩
  have e0 : Int32.ofInt 0 = 0 := by decide +kernel
  have ele := ev_le ev_R0 hx
  rw [e0] at ele
  by_cases c : 0 ≤ x
  · rw [if_pos (ele.mpr c), ev_to hx]; omega
  · rw [if_neg (fun q => c (ele.mp q)), ← e0, ev_ofsub, ev_to ⟨by omega, by omega⟩]; omega
theorem sp_stepsBetween {d : Nat} {s : ev_S} {Q : Option ev_V → ev_S → Prop} {p q : Int} (hp : 0 ≤ p ∧ p < 64) (hq : 0 ≤ q ∧ q < 64) (h : Q (some (ev_i (m_far p q))) s) : Ev layX M_X11_stepsBetween (d + 1) 0 [(0, ev_i p), (1, ev_i q)] [] s Q := by
  refine wp_X11_stepsBetween_0 ?_
  rw [ev_rem_eq (x := p) ⟨by omega, by omega⟩ ⟨by omega, by omega⟩, ev_rem_eq (x := q) ⟨by omega, by omega⟩ ⟨by omega, by omega⟩, ev_div_eq (x := p) ⟨by omega, by omega⟩ ⟨by omega, by omega⟩, ev_div_eq (x := q) ⟨by omega, by omega⟩ ⟨by omega, by omega⟩, ev_sub_eq (x := p % 8) ⟨by omega, by omega⟩, ev_sub_eq (x := p / 8) ⟨by omega, by omega⟩, ev_abs_eq (x := p % 8 - q % 8) (by omega), ev_abs_eq (x := p / 8 - q / 8) (by omega), ev_add_eq ⟨by omega, by omega⟩]
  have e : m_far p q = ((p % 8 - q % 8).natAbs : Int) + ((p / 8 - q / 8).natAbs : Int) := by unfold m_far; omega
  rw [e] at h; exact h
theorem frA_rf {k : Nat} {s : ev_S} : frA k s s := fun _ _ _ _ _ => rfl
theorem frA_tr {k : Nat} {s s' s'' : ev_S} (h : frA k s s') (h2 : frA k s' s'') : frA k s s'' := fun c c1 c2 c3 c4 => by rw [h2 c c1 c2 c3 c4]; exact h c c1 c2 c3 c4
theorem XB_frC {k n : Nat} {s s' : ev_S} {B : Nat → Int} (h15 : k = 15 ∨ k = 147) (hB : XB s 28 B n) (h : ∀ c, (c < k ∨ k + 11 < c) → s' c = s c) : XB s' 28 B n := fun i hi => by rw [h 28 (by omega)]; exact hB i hi
/-- one who is busy: a second less -/
theorem sp_xbusy {d a k n : Nat} {s : ev_S} {r B : Nat → Int} {m : Int} {Q : Option ev_V → ev_S → Prop} (hk : is_X2 k) (h15 : k = 15 ∨ k = 147) (ha : a < 6) (hm : 1 ≤ m ∧ m ≤ 1000) (hb : r (33 + a) = m) (hC : XC s k r) (hB : XB s 28 B n) (h : ∀ s', XC s' k (m_busy a m r) → XB s' 28 B n → frA k s s' → Q none s') : Ev layX M_X7_moveAngel (d + 1) 163 [(1, ev_r k), (2, ev_i (a : Int))] [] s Q := by
  obtain ⟨w4, w5, w6, w7, w8⟩ := hC.2.2.1 a ha
  refine wp_X7_moveAngel_163 hk ?_
  rw [Int.toNat_natCast, w5, hb, ev_sub_eq (x := m) ⟨by omega, by omega⟩]
  refine ⟨by omega, fun _ => ⟨by omega, by omega, ?_⟩, fun c => absurd c (by omega)⟩
  rintro _ rfl
  rw [ev_up_same, ev_up_ne (k := k + 5) (a := k + 6) _ _ (by omega), w6 (by omega)]
  have hC1 : XC (ev_up s (k + 5) a (m - 1)) k (rup r (33 + a) (m - 1)) := XC_busy ha (fun _ => w6 (by omega)) hC
  have hB1 : XB (ev_up s (k + 5) a (m - 1)) 28 B n := XB_frC h15 hB (fun c hc => ev_upj _ _ (by omega))
  have hf1 : frA k s (ev_up s (k + 5) a (m - 1)) := frA_up frA_rf (by omega) (by omega)
  unfold m_busy at h
  refine ⟨by omega, fun c => ?_, fun c => ⟨by omega, fun c2 => ?_, fun c2 => ⟨by omega, by omega, ?_⟩⟩⟩
  · rw [if_pos (Or.inl (by omega))] at h
    exact h _ hC1 hB1 hf1
  · rw [if_pos (Or.inr (by omega))] at h
    exact h _ hC1 hB1 hf1
  · rintro _ rfl
    refine ⟨by omega, ?_⟩
    rintro _ rfl
    rw [if_neg (by omega)] at h
    have hC2 := XC_ap (z := r (45 + a) - 1) ha hC1
    have hC3 := XC_goal (z := -1) ha hC2
    rw [show (-1 : Int) + 1 = 0 by omega] at hC3
    refine h _ hC3 ?_ (frA_up (frA_up hf1 (by omega) (by omega)) (by omega) (by omega))
    refine XB_frC h15 hB1 (fun c hc => ?_)
    rw [ev_upj _ _ (by omega), ev_upj _ _ (by omega)]
theorem m_busy_rup {a : Nat} {n m : Int} {r : Nat → Int} : m_busy a n (rup r (33 + a) m) = m_busy a n r := by
  have e45 : rup r (33 + a) m (45 + a) = r (45 + a) := rup_ne _ _ (by omega)
  unfold m_busy
  rw [e45, rup_rup]
theorem rup_self {r : Nat → Int} {i : Nat} {z : Int} (h : r i = z) : rup r i z = r := by
  funext j; by_cases e : j = i
  · subst e; rw [rup_same, h]
  · rw [rup_ne _ _ e]
theorem sp_moveAngelLoop {d N A NO MI a k : Nat} {T s0 : ev_S} {Q : Option ev_V → ev_S → Prop} (hk : is_X2 k) (h15 : k = 15 ∨ k = 147) (hT : m_tok T N A NO MI) (ha : a < A) : ∀ (m c : Nat) (s : ev_S) (r B : Nat → Int), XT s 1 T → XC s k r → XB s 28 B (r 2).toNat → frA k s0 s → m_mid T N A a (r, B) → r (33 + a) = 0 → (c : Int) ≤ r (39 + a) → c ≤ 40 → T 27 a < r (39 + a) + (m : Int) →
    (∀ s', XC s' k (m_orders T N NO a m (r, B)).1 → XB s' 28 (m_orders T N NO a m (r, B)).2 ((m_orders T N NO a m (r, B)).1 2).toNat → frA k s0 s' → Q none s') → Ev layX M_X7_moveAngel (d + 4) 2 [(0, ev_r 144), (1, ev_r k), (2, ev_i (a : Int)), (3, ev_i (c : Int))] [] s Q := by
  obtain ⟨hdim, ⟨hN, hN8⟩, ⟨hA, hA6⟩, ⟨hO, hO6⟩, -, -, hpa, hpok, -, hlok⟩ := hT
  obtain ⟨⟨hpace1, hpace2⟩, ⟨hl1, hl2⟩, hplan⟩ := hpok a ha
  intro m
  induction m with
  | zero =>
    intro c s r B hXT hC hB hf hmid hb hc hc40 hm h
    obtain ⟨-, -, -, haa, -⟩ := hmid
    have := (haa a ha).2.2.1
    simp only at this
    omega
  | succ m ih =>
    intro c s r B hXT hC hB hf hmid hb hc hc40 hm h
    obtain ⟨h0, h2, hw, haa, hrise, hsecs⟩ := hmid
    have hab := haa a ha
    rw [if_neg (by omega)] at hab
    obtain ⟨g1, g2, g3, g4, g5, g6, g7⟩ := hab
    simp only at h0 h2 g1 g2 g3 g4 g5 g6 g7
    have g64 := m_pl_64 hdim.2.2 g1
    obtain ⟨w4, w5, w6, w7, w8⟩ := hC.2.2.1 a (by omega)
    obtain ⟨t5, t7, tp⟩ := hXT.2.2.2.1 a (by omega)
    -- at the end of the plan
    have stop : T 27 a ≤ r (39 + a) → Ev layX M_X7_moveAngel (d + 4) 163 [(1, ev_r k), (2, ev_i (a : Int))] [] s Q := by
      intro hle
      refine wp_X7_moveAngel_163 hk ?_
      rw [Int.toNat_natCast, w5, hb]
      refine ⟨by omega, fun q => absurd rfl q, fun _ => ?_⟩
      have e : m_orders T N NO a (m + 1) (r, B) = (r, B) := by simp only [m_orders]; rw [if_neg (by omega)]
      rw [e] at h
      exact h s hC hB hf
    refine wp_X7_moveAngel_2 hk ⟨fun q => stop (by omega), fun _ => ?_⟩
    rw [Int.toNat_natCast, w5, w7, show s 7 a = T 27 a from t7]
    refine ⟨by omega, fun q => absurd hb q, fun _ => ⟨by omega, by omega, fun q => stop q, fun q => ?_⟩⟩
    simp only [m_orders] at h
    rw [if_pos q] at h
    obtain ⟨o, ho⟩ := Int.eq_ofNat_of_zero_le g3.1
    obtain ⟨⟨k1, k2⟩, k3, k4⟩ := hplan o (by omega)
    obtain ⟨tp1, tp2⟩ := tp o (by omega)
    have ho2 : (r (39 + a)).toNat = o := by omega
    rw [ho2] at h
    have m40 : ev_mul (a : Int) 40 = 40 * (a : Int) := by rw [ev_mul_eq ⟨by omega, by omega⟩]; omega
    have m2 : ev_mul (40 * (a : Int) + (o : Int)) 2 = 2 * (40 * (a : Int) + (o : Int)) := by rw [ev_mul_eq ⟨by omega, by omega⟩]; omega
    rw [ho, m40, ev_add_eq (x := 40 * (a : Int)) (y := (o : Int)) ⟨by omega, by omega⟩, m2, ev_add_eq (x := 2 * (40 * (a : Int) + (o : Int))) (y := 1) ⟨by omega, by omega⟩, ev_add_eq (x := (o : Int)) (y := 1) ⟨by omega, by omega⟩, show Int.toNat (2 * (40 * (a : Int) + (o : Int))) = 2 * (40 * a + o) by omega, show Int.toNat (2 * (40 * (a : Int) + (o : Int)) + 1) = 2 * (40 * a + o) + 1 by omega, show s 6 (2 * (40 * a + o)) = T 25 (40 * a + o) from tp1, show s 6 (2 * (40 * a + o) + 1) = T 26 (40 * a + o) from tp2]
    refine ⟨by omega, by omega, by omega, by omega, by omega, ?_⟩
    rintro _ rfl
    rw [ho] at h
    have hC1 : XC (ev_up s (k + 7) a ((o : Int) + 1)) k (rup r (39 + a) ((o : Int) + 1)) := XC_ord (by omega) hC
    have hB1 : XB (ev_up s (k + 7) a ((o : Int) + 1)) 28 B (rup r (39 + a) ((o : Int) + 1) 2).toNat := by rw [rup_ne _ _ (by omega)]; exact XB_frC h15 hB (fun c hc => ev_upj _ _ (by omega))
    have hf1 : frA k s0 (ev_up s (k + 7) a ((o : Int) + 1)) := frA_up hf (by omega) (by omega)
    have hXT1 : XT (ev_up s (k + 7) a ((o : Int) + 1)) 1 T := XT_keep hXT (fun c h1 h2 => ev_upj _ _ (by omega))
    have hmid1 : m_mid T N A a (rup r (39 + a) ((o : Int) + 1), B) := by
      refine ⟨?_, ?_, ?_, ?_, ?_, ?_⟩
      · show 0 ≤ rup _ _ _ 0 ∧ rup _ _ _ 0 ≤ 599
        rw [rup_ne _ _ (by omega)]; exact h0
      · show 0 ≤ rup _ _ _ 2 ∧ rup _ _ _ 2 ≤ 100
        rw [rup_ne _ _ (by omega)]; exact h2
      · intro w hw8
        obtain ⟨gw, gw7⟩ := hw w hw8
        refine ⟨m_wok_cong gw (rup_ne _ _ (by omega)) (rup_ne _ _ (by omega)) (rup_ne _ _ (by omega)), ?_⟩
        show rup _ _ _ (11 + w) ≤ 99
        rw [rup_ne _ _ (by omega)]; exact gw7
      · intro b hb8
        have hbb := haa b hb8
        by_cases eb : b = a
        · subst eb
          rw [if_neg (by omega)]
          refine ⟨?_, ?_, ?_, ?_, ?_, ?_⟩
          · show m_pl T (rup _ _ _ (27 + b)); rw [rup_ne _ _ (by omega)]; exact g1
          · show 0 ≤ rup _ _ _ (33 + b) ∧ rup _ _ _ (33 + b) ≤ 1000; rw [rup_ne _ _ (by omega)]; exact g2
          · show 0 ≤ rup _ _ _ (39 + b) ∧ rup _ _ _ (39 + b) ≤ T 27 b; rw [rup_same]; omega
          · show rup _ _ _ (33 + b) = 0 → rup _ _ _ (45 + b) = 0; rw [rup_ne _ _ (by omega), rup_ne _ _ (by omega)]; exact g4
          · show rup _ _ _ (45 + b) ≠ 0 → m_pl T (rup _ _ _ (45 + b) - 1); rw [rup_ne _ _ (by omega)]; exact g5
          · show 0 ≤ rup _ _ _ (51 + b) ∧ rup _ _ _ (51 + b) ≤ rup _ _ _ 0 + ((0 : Nat) : Int); rw [rup_ne _ _ (by omega), rup_ne _ _ (by omega)]; exact ⟨g6, g7⟩
        · exact m_aokD_cong hbb (rup_ne _ _ (by omega)) (rup_ne _ _ (by omega)) (rup_ne _ _ (by omega)) (rup_ne _ _ (by omega)) (rup_ne _ _ (by omega)) (rup_ne _ _ (by omega))
      · show m_rise B (rup _ _ _ 2).toNat
        rw [rup_ne _ _ (by omega)]; exact hrise
      · show ∀ l, l < (rup _ _ _ 2).toNat → B (5 * l) ≤ rup _ _ _ 0
        rw [rup_ne _ _ (by omega), rup_ne _ _ (by omega)]; exact hsecs
    generalize ev_up s (k + 7) a ((o : Int) + 1) = s1 at *
    generalize hr1 : rup r (39 + a) ((o : Int) + 1) = r1 at *
    have r133 : r1 (33 + a) = 0 := by rw [← hr1, rup_ne _ _ (by omega)]; exact hb
    have r139 : r1 (39 + a) = (o : Int) + 1 := by rw [← hr1, rup_same]
    have r127 : r1 (27 + a) = r (27 + a) := by rw [← hr1, rup_ne _ _ (by omega)]
    have r145 : r1 (45 + a) = r (45 + a) := by rw [← hr1, rup_ne _ _ (by omega)]
    have r12 : r1 2 = r 2 := by rw [← hr1, rup_ne _ _ (by omega)]
    have r1o : ∀ i, i ≠ 39 + a → r1 i = r i := fun i hi => by rw [← hr1]; exact rup_ne _ _ hi
    -- busy for n seconds, from here
    have busy : ∀ (n : Int) (s2 : ev_S) (r2 : Nat → Int), 1 ≤ n ∧ n ≤ 1000 → r2 (33 + a) = n → XC s2 k r2 → XB s2 28 B (r 2).toNat → frA k s0 s2 → (∀ s', XC s' k (m_busy a n r2) → XB s' 28 B (r 2).toNat → frA k s0 s' → Q none s') → Ev layX M_X7_moveAngel (d + 4) 2 [(0, ev_r 144), (1, ev_r k), (2, ev_i (a : Int)), (3, ev_i ((c : Int) + 1))] [] s2 Q := by
      intro n s2 r2 hn hr2 hC2 hB2 hf2 hq
      have b163 : Ev layX M_X7_moveAngel (d + 4) 163 [(1, ev_r k), (2, ev_i (a : Int))] [] s2 Q := sp_xbusy hk h15 (by omega) hn hr2 hC2 hB2 (fun s' z1 z2 z3 => hq s' z1 z2 (frA_tr hf2 z3))
      refine wp_X7_moveAngel_2 hk ⟨fun _ => b163, fun _ => ?_⟩
      rw [Int.toNat_natCast, (hC2.2.2.1 a (by omega)).2.1, hr2]
      exact ⟨by omega, fun _ => b163, fun q => absurd q (by omega)⟩
    refine ⟨fun c5 => ⟨fun c6 => ?_, fun c6 => ?_⟩, fun c5 => ?_⟩
    · -- a waiting
      have e6 : T 25 (40 * a + o) = 6 := by omega
      obtain ⟨q1, q2⟩ := k4 e6
      rw [if_neg c6, if_pos e6] at h
      refine wp_X7_moveAngel_118 hk ⟨by omega, ?_⟩
      rw [Int.toNat_natCast, ev_add_eq (x := (c : Int)) (y := 1) ⟨by omega, by omega⟩]
      rintro _ rfl
      refine ⟨fun _ => ⟨by omega, ?_⟩, fun q => absurd q c6⟩
      rintro _ rfl
      have hC2 : XC (ev_up s1 (k + 6) a (-1)) k r1 := XC_goalx (by omega) hC1
      have hC3 : XC (ev_up (ev_up s1 (k + 6) a (-1)) (k + 5) a (T 26 (40 * a + o))) k (rup r1 (33 + a) (T 26 (40 * a + o))) := XC_busy (by omega) (fun _ => by rw [ev_up_same, r145, g4 hb]; omega) hC2
      refine busy (T 26 (40 * a + o)) _ _ (by omega) (rup_same _ _ _) hC3 ?_ (frA_up (frA_up hf1 (by omega) (by omega)) (by omega) (by omega)) ?_
      · rw [← r12]
        refine XB_frC h15 hB1 (fun c hc => ?_)
        rw [ev_upj _ _ (by omega), ev_upj _ _ (by omega)]
      · intro s' z1 z2 z3
        rw [m_busy_rup] at z1
        refine h s' z1 ?_ z3
        show XB s' 28 B (m_busy a _ r1 2).toNat
        rw [m_busy_at (by omega) (by omega) (by omega), r12]; exact z2
    · -- a going
      rw [if_pos c6] at h
      have q64 := m_pl_64 hdim.2.2 (k3 c6)
      have hfar := m_far_rng g64 q64
      refine wp_X7_moveAngel_118 hk ⟨by omega, ?_⟩
      rw [Int.toNat_natCast, ev_add_eq (x := (c : Int)) (y := 1) ⟨by omega, by omega⟩]
      rintro _ rfl
      have v4 : ev_up s1 (k + 6) a (T 26 (40 * a + o)) (k + 4) a = r (27 + a) := by rw [ev_up_ne _ _ (by omega), (hC1.2.2.1 a (by omega)).1, r127]
      have v5 : ev_up s1 (k + 6) a (T 26 (40 * a + o)) 5 a = T 5 a := by rw [ev_up_ne _ _ (by omega)]; exact (hXT1.2.2.2.1 a (by omega)).1
      rw [v4]
      refine ⟨fun q => absurd c6 q, fun _ => ⟨by omega, sp_stepsBetween g64 q64 (ev_pi_mk ⟨by omega, by omega, ?_⟩)⟩⟩
      rw [v5]
      have hb1 : 0 ≤ m_far (r (27 + a)) (T 26 (40 * a + o)) * T 5 a := Int.mul_nonneg hfar.1 (by omega)
      have hb2 : m_far (r (27 + a)) (T 26 (40 * a + o)) * T 5 a ≤ 14 * 9 := Int.mul_le_mul hfar.2 hpace2 (by omega) (by omega)
      rw [ev_mul_eq ⟨by omega, by omega⟩]
      generalize hfn : m_far (r (27 + a)) (T 26 (40 * a + o)) * T 5 a = fn at *
      rintro _ rfl
      have hC2 : XC (ev_up s1 (k + 6) a (T 26 (40 * a + o))) k r1 := XC_goalx (by omega) hC1
      have hB2 : XB (ev_up (ev_up s1 (k + 6) a (T 26 (40 * a + o))) (k + 5) a fn) 28 B (r 2).toNat := by
        rw [← r12]
        refine XB_frC h15 hB1 (fun c hc => ?_)
        rw [ev_upj _ _ (by omega), ev_upj _ _ (by omega)]
      have hf2 : frA k s0 (ev_up (ev_up s1 (k + 6) a (T 26 (40 * a + o))) (k + 5) a fn) := frA_up (frA_up hf1 (by omega) (by omega)) (by omega) (by omega)
      by_cases c7 : fn = 0
      · rw [if_pos c7] at h
        have hC3 : XC (ev_up (ev_up s1 (k + 6) a (T 26 (40 * a + o))) (k + 5) a fn) k (rup r1 (33 + a) fn) := XC_busy (by omega) (fun q => by omega) hC2
        rw [rup_self (by rw [r133, c7])] at hC3
        have hXT2 : XT (ev_up (ev_up s1 (k + 6) a (T 26 (40 * a + o))) (k + 5) a fn) 1 T := XT_keep hXT1 (fun c h1 h2 => by rw [ev_upj _ _ (by omega), ev_upj _ _ (by omega)])
        exact ih (c + 1) _ r1 B hXT2 hC3 (by rw [r12]; exact hB2) hf2 hmid1 r133 (by omega) (by omega) (by omega) h
      · rw [if_neg c7] at h
        have hC2' : XC (ev_up s1 (k + 6) a (T 26 (40 * a + o))) k (rup r1 (45 + a) (T 26 (40 * a + o) + 1)) := XC_goaly (by omega) (by omega) hC2
        have hC3 : XC (ev_up (ev_up s1 (k + 6) a (T 26 (40 * a + o))) (k + 5) a fn) k (rup (rup r1 (45 + a) (T 26 (40 * a + o) + 1)) (33 + a) fn) := XC_busy (by omega) (fun _ => by rw [ev_up_same, rup_same]; omega) hC2'
        refine busy fn _ _ (by omega) (rup_same _ _ _) hC3 hB2 hf2 ?_
        intro s' z1 z2 z3
        rw [m_busy_rup] at z1
        refine h s' z1 ?_ z3
        show XB s' 28 B (m_busy a _ _ 2).toNat
        rw [m_busy_at (by omega) (by omega) (by omega), rup_ne _ _ (by omega), r12]; exact z2
    · -- a doing
      obtain ⟨kd, hkd⟩ := Int.eq_ofNat_of_zero_le k1
      rw [hkd] at h c5 ⊢
      rw [if_neg (by omega), if_neg (by omega), Int.toNat_natCast] at h
      obtain ⟨n, hn⟩ := Int.eq_ofNat_of_zero_le h2.1
      have hnt : (r1 2).toNat = n := by rw [r12]; omega
      refine sp_act (T := T) (r := r1) (B := B) (n := n) hk h15 hN hN8 hO hO6 (by omega) (by omega) (by omega) (by rw [r127]; exact g64) hlok (by rw [r12]; exact hn) (by omega) ?_ ?_ (hpa kd (by omega)) hXT1 hC1 (by rw [← hnt]; exact hB1) ?_
      · rw [r1o _ (by omega)]; omega
      · intro w hw8
        obtain ⟨gw, gw7⟩ := hw w hw8
        rw [r1o _ (by omega)]; exact ⟨gw.2.1, gw7⟩
      · intro s' z1 z2 z3
        exact h s' z1 z2 (frA_tr hf1 z3)
theorem sp_moveAngel {d N A NO MI a k : Nat} {T s : ev_S} {r B : Nat → Int} {Q : Option ev_V → ev_S → Prop} (hk : is_X2 k) (h15 : k = 15 ∨ k = 147) (hT : m_tok T N A NO MI) (ha : a < A) (hXT : XT s 1 T) (hC : XC s k r) (hB : XB s 28 B (r 2).toNat) (hmid : m_mid T N A a (r, B))
    (h : ∀ s', XC s' k (m_angel T N NO a (r, B)).1 → XB s' 28 (m_angel T N NO a (r, B)).2 ((m_angel T N NO a (r, B)).1 2).toNat → frA k s s' → Q none s') : Ev layX M_X7_moveAngel (d + 4) 0 [(0, ev_r 144), (1, ev_r k), (2, ev_i (a : Int))] [] s Q := by
  have hA6 : A ≤ 6 := hT.2.2.1.2
  have hab := hmid.2.2.2.1 a ha
  have hpk := hT.2.2.2.2.2.2.2.1 a ha
  rw [if_neg (by omega)] at hab
  obtain ⟨g1, g2, g3, g4, g5, g6⟩ := hab
  simp only at g2 g3 g4 g5
  refine wp_X7_moveAngel_0 hk ?_
  unfold m_angel at h
  simp only at h
  by_cases c : 0 < r (33 + a)
  · rw [if_pos c] at h
    have b163 : Ev layX M_X7_moveAngel (d + 4) 163 [(1, ev_r k), (2, ev_i (a : Int))] [] s Q := sp_xbusy hk h15 (by omega) (by omega) rfl hC hB (fun s' z1 z2 z3 => h s' z1 (by
      show XB s' 28 B (m_busy a _ r 2).toNat
      rw [m_busy_at (by omega) (by omega) (by omega)]; exact z2) z3)
    refine wp_X7_moveAngel_2 hk ⟨fun _ => b163, fun _ => ?_⟩
    rw [Int.toNat_natCast, (hC.2.2.1 a (by omega)).2.1]
    exact ⟨by omega, fun _ => b163, fun q => absurd q (by omega)⟩
  · rw [if_neg c] at h
    have := hpk.2.1
    exact sp_moveAngelLoop hk h15 hT ha 41 0 s r B hXT hC hB frA_rf hmid (by omega) (by omega) (by omega) (by omega) h
