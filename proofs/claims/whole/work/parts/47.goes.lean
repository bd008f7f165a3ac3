/-! a second goes by: the model, the class -/
theorem m_comes_cong {s s' : ev_S} (h : fr4 s s') (N : Nat) (r : Nat → Int) (i : Nat) : m_comes s' N r i = m_comes s N r i := by
  unfold m_comes; rw [h 24 (by omega) (by omega) (by omega) (by omega)]
theorem m_line_cong {s s' : ev_S} (h : fr4 s s') (B r : Nat → Int) (i : Nat) : m_line s' B r i = m_line s B r i := by
  unfold m_line m_keeps; rw [h 24 (by omega) (by omega) (by omega) (by omega), h 0 (by omega) (by omega) (by omega) (by omega)]
theorem m_come_cong {s s' : ev_S} (h : fr4 s s') (B : Nat → Int) (th : Bool) (i : Nat) (r : Nat → Int) : m_come s' B th i r = m_come s B th i r := by
  unfold m_come; rw [m_line_cong h, h 24 (by omega) (by omega) (by omega) (by omega)]
theorem m_step_cong {s s' : ev_S} (h : fr4 s s') (p way : Int) : m_step s' p way = m_step s p way := by
  unfold m_step; rw [h 0 (by omega) (by omega) (by omega) (by omega)]
theorem m_ward_cong {s s' : ev_S} (h : fr4 s s') (w : Nat) (r : Nat → Int) : m_ward s' w r = m_ward s w r := by
  unfold m_ward; rw [m_step_cong h, h 20 (by omega) (by omega) (by omega) (by omega), h 21 (by omega) (by omega) (by omega) (by omega)]
theorem m_wards_cong {s s' : ev_S} (h : fr4 s s') (r : Nat → Int) : ∀ n, m_wards s' r n = m_wards s r n
  | 0 => rfl
  | n + 1 => by simp only [m_wards]; rw [m_wards_cong h r n, m_ward_cong h]
theorem m_wok_fr {s s' : ev_S} (h : fr4 s s') {r : Nat → Int} {w : Nat} (hw : m_wok s r w) : m_wok s' r w := by
  unfold m_wok; rw [m_pl_cong h, h 21 (by omega) (by omega) (by omega) (by omega)]; exact hw
theorem m_dim_fr {s s' : ev_S} (h : fr4 s s') (hd : m_dim s) : m_dim s' := by
  unfold m_dim; rw [h 0 (by omega) (by omega) (by omega) (by omega)]; exact hd
theorem sp_goesBy {d N A NO MI : Nat} {s : ev_S} {Q : Option ev_V → ev_S → Prop} (hT : m_tok s N A NO MI) (hr : m_rok s N A (s 1, s 9)) (h6 : s 1 0 ≤ 599)
    (h : ∀ s', (s' 1, s' 9) = (m_sec s N A NO MI (decide (s 0 5 ≠ 0)) (s 1, s 9)).1 → fr4 s s' → Q (some (ev_i ((m_sec s N A NO MI (decide (s 0 5 ≠ 0)) (s 1, s 9)).2 : Int))) s') : Ev layM M_X12_goesBy (d + 6) 0 [(0, ev_r 0)] [] s Q := by
  have hT0 := hT
  obtain ⟨hdim, ⟨hN, hN8⟩, ⟨hA, hA6⟩, ⟨hO, hO6⟩, ⟨hM, hM10⟩, hg, hpa, hpok, hmok, hlok⟩ := hT
  have hmids := m_angels_mid (NO := NO) hT0 (m_rok_mid hr h6)
  refine wp_X12_goesBy_0 ?_
  -- the mishaps
  have mis : ∀ (n i : Nat) (s1 : ev_S) (y : (Nat → Int) × (Nat → Int)), i + n = MI → y = m_angels s N NO (s 1, s 9) A → s1 1 = (m_mis s N (decide (s 0 5 ≠ 0)) y.2 (m_wards s y.1 N) i).1 → s1 9 = y.2 → fr4 s s1 → Ev layM M_X12_goesBy (d + 6) 29 [(0, ev_r 0), (1, ev_i ((m_mis s N (decide (s 0 5 ≠ 0)) y.2 (m_wards s y.1 N) i).2 : Int)), (2, ev_i (i : Int))] [] s1 Q := by
    intro n
    induction n with
    | zero =>
      intro i s1 y hi hy g1 g9 gf
      have hi2 : i = MI := by omega
      subst hi2
      have e46 : s1 0 46 = (i : Int) := by rw [gf 0 (by omega) (by omega) (by omega) (by omega)]; exact hM
      have hmy := hmids A (Nat.le_refl A)
      rw [← hy] at hmy
      have e0 : s1 1 0 = y.1 0 := by rw [g1, m_mis_at _ _ (by omega) (by omega), m_wards_at N hN8 0 (by omega)]
      refine wp_X12_goesBy_29 ⟨fun _ => ?_, fun c => absurd c (by omega)⟩
      have hy0 := hmy.1
      rw [e0, ev_add_eq ⟨by omega, by omega⟩]
      rintro _ rfl
      have hh := h (ev_up s1 1 0 (y.1 0 + 1)) ?_ ?_
      · simp only [m_sec, ← hy] at hh
        exact hh
      · rw [ev_up_set, ev_set_same, ev_set_ne _ _ (by omega), g1, g9]
        simp only [m_sec, ← hy]
      · rw [ev_up_set]; exact fr4_set gf
    | succ n ih =>
      intro i s1 y hi hy g1 g9 gf
      have e46 : s1 0 46 = (MI : Int) := by rw [gf 0 (by omega) (by omega) (by omega) (by omega)]; exact hM
      have e10 : s1 0 10 = (N : Int) := by rw [gf 0 (by omega) (by omega) (by omega) (by omega)]; exact hN
      have hmy := hmids A (Nat.le_refl A)
      rw [← hy] at hmy
      have hle := m_mis_le (T := s) (N := N) (th := decide (s 0 5 ≠ 0)) (B := y.2) (r := m_wards s y.1 N) i
      have hm := hmok i (by omega)
      obtain ⟨-, -, -, ⟨q1, q2⟩, -⟩ := hm
      refine wp_X12_goesBy_29 ⟨fun c => absurd c (by omega), fun _ => ?_⟩
      rw [ev_add_eq (x := (i : Int)) (y := 1) ⟨by omega, by omega⟩, ev_add_eq (x := ((m_mis s N (decide (s 0 5 ≠ 0)) y.2 (m_wards s y.1 N) i).2 : Int)) (y := 1) ⟨by omega, by omega⟩]
      have nx := ih (i + 1)
      refine sp_doesCome e10 hN8 (by omega) ?_ (ev_pi_mk ?_)
      · rw [gf 24 (by omega) (by omega) (by omega) (by omega)]; omega
      rw [m_comes_cong gf, g1]
      by_cases c : m_comes s N (m_mis s N (decide (s 0 5 ≠ 0)) y.2 (m_wards s y.1 N) i).1 i = true
      · rw [if_pos c]
        refine ⟨fun _ => ?_, fun q => absurd q (by omega)⟩
        obtain ⟨n2, hn2⟩ := Int.eq_ofNat_of_zero_le hmy.2.1.1
        have e2 : s1 1 2 = (n2 : Int) := by rw [g1, m_mis_at _ _ (by omega) (by omega), m_wards_at N hN8 2 (by omega)]; exact hn2
        have e0 : s1 1 0 = y.1 0 := by rw [g1, m_mis_at _ _ (by omega) (by omega), m_wards_at N hN8 0 (by omega)]
        have hy2 := hmy.2.1
        have hy0 := hmy.1
        refine sp_comes (N := n2) (by omega) e2 (by omega) ?_ (by omega) ?_
        · rw [gf 0 (by omega) (by omega) (by omega) (by omega)]; exact hg
        · have e5 : s1 0 5 = s 0 5 := by rw [gf 0 (by omega) (by omega) (by omega) (by omega)]
          rw [m_come_cong gf, e5, g9, g1]
          have nx2 := nx (ev_set s1 1 (m_come s y.2 (decide (s 0 5 ≠ 0)) i (m_mis s N (decide (s 0 5 ≠ 0)) y.2 (m_wards s y.1 N) i).1)) y (by omega) hy (by rw [ev_set_same]; simp only [m_mis]; rw [if_pos c]) (by rw [ev_set_ne _ _ (by omega)]; exact g9) (fr4_set gf)
          simp only [m_mis] at nx2
          rw [if_pos c] at nx2
          exact nx2
      · rw [if_neg c]
        refine ⟨fun q => absurd rfl q, fun _ => ?_⟩
        have nx2 := nx s1 y (by omega) hy (by simp only [m_mis]; rw [if_neg c]; exact g1) g9 gf
        simp only [m_mis] at nx2
        rw [if_neg c] at nx2
        exact nx2
  -- the angels
  have ang : ∀ (n i : Nat) (s1 : ev_S), i + n = A → (s1 1, s1 9) = m_angels s N NO (s 1, s 9) i → fr4 s s1 → Ev layM M_X12_goesBy (d + 6) 4 [(0, ev_r 0), (1, ev_i 0), (2, ev_i (i : Int))] [] s1 Q := by
    intro n
    induction n with
    | zero =>
      intro i s1 hi hz gf
      have hi2 : i = A := by omega
      subst hi2
      have e11 : s1 0 11 = (i : Int) := by rw [gf 0 (by omega) (by omega) (by omega) (by omega)]; exact hA
      have e10 : s1 0 10 = (N : Int) := by rw [gf 0 (by omega) (by omega) (by omega) (by omega)]; exact hN
      have hmy := hmids i (Nat.le_refl i)
      rw [← hz] at hmy
      refine wp_X12_goesBy_4 ⟨fun _ => sp_wardsGoOn e10 hN8 (m_dim_fr gf hdim) (fun v hv => m_wok_fr gf (hmy.2.2.1 v hv).1) ?_, fun c => absurd c (by omega)⟩
      rw [m_wards_cong gf]
      exact mis MI 0 _ (s1 1, s1 9) (by omega) hz (by rw [ev_set_same]; rfl) (by rw [ev_set_ne _ _ (by omega)]) (fr4_set gf)
    | succ n ih =>
      intro i s1 hi hz gf
      have e11 : s1 0 11 = (A : Int) := by rw [gf 0 (by omega) (by omega) (by omega) (by omega)]; exact hA
      have hmy := hmids i (by omega)
      rw [← hz] at hmy
      refine wp_X12_goesBy_4 ⟨fun c => absurd c (by omega), fun _ => ?_⟩
      rw [ev_add_eq (x := (i : Int)) (y := 1) ⟨by omega, by omega⟩]
      refine sp_angelGoesOn hT0 (by omega) gf hmy (fun s' z1 zf => ih (i + 1) s' (by omega) ?_ zf)
      rw [z1, hz]; rfl
  exact ang A 0 s (by omega) rfl fr4_rf
theorem XC_second {σ : ev_S} {k : Nat} {r : Nat → Int} {z : Int} (h : XC σ k r) : XC (ev_up σ k 0 z) k (rup r 0 z) := XC_sec h
theorem frC_frA {k : Nat} {s s' : ev_S} (h : frC k s s') : frA k s s' := fun c hc _ _ _ => h c hc
theorem sp_goBy {d N A NO MI k : Nat} {s T : ev_S} {r B : Nat → Int} {t : Int} {th : Bool} {Q : Option ev_V → ev_S → Prop} (hk : is_X2 k) (h15 : k = 15 ∨ k = 147) (hT : m_tok T N A NO MI) (hr : m_rok T N A (r, B)) (h6 : r 0 ≤ 599) (ht : th = decide (t ≠ 0)) (hXT : XT s 1 T) (hC : XC s k r) (hB : XB s 28 B (r 2).toNat)
    (h : ∀ s', XC s' k (m_sec T N A NO MI th (r, B)).1.1 → XB s' 28 (m_sec T N A NO MI th (r, B)).1.2 ((m_sec T N A NO MI th (r, B)).1.1 2).toNat → frA k s s' → Q (some (ev_i ((m_sec T N A NO MI th (r, B)).2 : Int))) s') : Ev layX M_X7_goBy (d + 5) 0 [(0, ev_r 144), (1, ev_r k), (2, ev_i t)] [] s Q := by
  have hT0 := hT
  obtain ⟨hdim, ⟨hN, hN8⟩, ⟨hA, hA6⟩, ⟨hO, hO6⟩, ⟨hM, hM10⟩, hg, hpa, hpok, hmok, hlok⟩ := hT
  have hmids := m_angels_mid (NO := NO) hT0 (m_rok_mid hr h6)
  refine wp_X7_goBy_0 hk ?_
  have mis : ∀ (n i : Nat) (s1 : ev_S) (y : (Nat → Int) × (Nat → Int)), i + n = MI → y = m_angels T N NO (r, B) A → XC s1 k (m_mis T N th y.2 (m_wards T y.1 N) i).1 → XB s1 28 y.2 (y.1 2).toNat → frA k s s1 → Ev layX M_X7_goBy (d + 5) 35 [(0, ev_r 144), (1, ev_r k), (2, ev_i t), (3, ev_i ((m_mis T N th y.2 (m_wards T y.1 N) i).2 : Int)), (4, ev_i (i : Int))] [] s1 Q := by
    intro n
    induction n with
    | zero =>
      intro i s1 y hi hy g1 g9 gf
      have hi2 : i = MI := by omega
      subst hi2
      have hXT1 := XT_frA h15 hXT gf
      have e13 : s1 1 13 = (i : Int) := by rw [hXT1.1.2.2.2.2.2.2]; exact hM
      have hmy := hmids A (Nat.le_refl A)
      rw [← hy] at hmy
      have e0 : s1 k 0 = y.1 0 := by rw [g1.1.1, m_mis_at _ _ (by omega) (by omega), m_wards_at N hN8 0 (by omega)]
      refine wp_X7_goBy_35 hk ⟨fun _ => ?_, fun c => absurd c (by omega)⟩
      have hy0 := hmy.1
      rw [e0, ev_add_eq ⟨by omega, by omega⟩]
      rintro _ rfl
      have hh := h (ev_up s1 k 0 (y.1 0 + 1)) ?_ ?_ (frA_up gf (by omega) (by omega))
      · simp only [m_sec, ← hy] at hh
        exact hh
      · simp only [m_sec, ← hy]
        exact XC_sec g1
      · simp only [m_sec, ← hy]
        rw [rup_ne _ _ (by omega), m_mis_at _ _ (by omega) (by omega), m_wards_at N hN8 2 (by omega)]
        exact XB_frC h15 g9 (fun c hc => ev_upj _ _ (by omega))
    | succ n ih =>
      intro i s1 y hi hy g1 g9 gf
      have hXT1 := XT_frA h15 hXT gf
      have e13 : s1 1 13 = (MI : Int) := by rw [hXT1.1.2.2.2.2.2.2]; exact hM
      have hmy := hmids A (Nat.le_refl A)
      rw [← hy] at hmy
      have hle := m_mis_le (T := T) (N := N) (th := th) (B := y.2) (r := m_wards T y.1 N) i
      have e9 := (g1.2.2.2 i (by omega)).1
      refine wp_X7_goBy_35 hk ⟨fun c => absurd c (by omega), fun _ => ?_⟩
      rw [Int.toNat_natCast, e9, ev_add_eq (x := (i : Int)) (y := 1) ⟨by omega, by omega⟩, ev_add_eq (x := ((m_mis T N th y.2 (m_wards T y.1 N) i).2 : Int)) (y := 1) ⟨by omega, by omega⟩]
      have nx := ih (i + 1)
      have skip : ¬ m_comes T N (m_mis T N th y.2 (m_wards T y.1 N) i).1 i = true → Ev layX M_X7_goBy (d + 5) 35 [(0, ev_r 144), (1, ev_r k), (2, ev_i t), (3, ev_i ((m_mis T N th y.2 (m_wards T y.1 N) i).2 : Int)), (4, ev_i ((i : Int) + 1))] [] s1 Q := by
        intro c
        have nx2 := nx s1 y (by omega) hy (by simp only [m_mis]; rw [if_neg c]; exact g1) g9 gf
        simp only [m_mis] at nx2
        rw [if_neg c] at nx2
        exact nx2
      refine ⟨by omega, fun c0 => skip ?_, fun c0 => ?_⟩
      · intro q
        exact c0 (of_decide_eq_true q).1
      · refine sp_comesNow hk hN hN8 (by omega) (by omega) (hmok i (by omega)) hXT1 g1.1.1 (fun w hw => (g1.2.1 w hw).1) c0 (ev_pi_mk ?_)
        by_cases c : m_comes T N (m_mis T N th y.2 (m_wards T y.1 N) i).1 i = true
        · rw [if_pos c]
          refine ⟨fun q => absurd q (by omega), fun _ => ?_⟩
          obtain ⟨n2, hn2⟩ := Int.eq_ofNat_of_zero_le hmy.2.1.1
          have e2 : (m_mis T N th y.2 (m_wards T y.1 N) i).1 2 = (n2 : Int) := by rw [m_mis_at _ _ (by omega) (by omega), m_wards_at N hN8 2 (by omega)]; exact hn2
          have e0 : (m_mis T N th y.2 (m_wards T y.1 N) i).1 0 = y.1 0 := by rw [m_mis_at _ _ (by omega) (by omega), m_wards_at N hN8 0 (by omega)]
          have hy2 := hmy.2.1
          have hy0 := hmy.1
          have ent : (y.1 2).toNat = n2 := by omega
          refine sp_settle (N := n2) (T := T) (B := y.2) hk h15 (by omega) (by omega) (hmok i (by omega)) hXT1 g1 e2 (by omega) (by rw [← ent]; exact g9) (by rw [← ent]; exact hmy.2.2.2.2.1) hg (by omega) ht (fun s' z1 zf => ?_)
          have nx2 := nx s' y (by omega) hy (by simp only [m_mis]; rw [if_pos c]; exact z1) (XB_frC h15 g9 zf) (frA_tr gf (frC_frA zf))
          simp only [m_mis] at nx2
          rw [if_pos c] at nx2
          exact nx2
        · rw [if_neg c]
          exact ⟨fun _ => skip c, fun q => absurd rfl q⟩
  have ang : ∀ (n i : Nat) (s1 : ev_S), i + n = A → XC s1 k (m_angels T N NO (r, B) i).1 → XB s1 28 (m_angels T N NO (r, B) i).2 ((m_angels T N NO (r, B) i).1 2).toNat → frA k s s1 → Ev layX M_X7_goBy (d + 5) 2 [(0, ev_r 144), (1, ev_r k), (2, ev_i t), (3, ev_i (i : Int))] [] s1 Q := by
    intro n
    induction n with
    | zero =>
      intro i s1 hi g1 g9 gf
      have hi2 : i = A := by omega
      subst hi2
      have hXT1 := XT_frA h15 hXT gf
      have e7 : s1 1 7 = (i : Int) := by rw [hXT1.1.2.2.2.2.1]; exact hA
      have hmy := hmids i (Nat.le_refl i)
      refine wp_X7_goBy_2 hk ⟨fun _ => ?_, fun c => absurd c (by omega)⟩
      refine sp_moveWards hk (by omega) hN hN8 hdim (fun v hv => (hmy.2.2.1 v hv).1) hXT1 (XC_w g1) (fun s' zw zf => ?_)
      refine mis MI 0 s' _ (by omega) rfl ?_ ?_ (frA_tr gf (fun c hc _ _ _ => zf c (by omega) (by omega) (by omega)))
      · show XC s' k (m_wards T (m_angels T N NO (r, B) i).1 N)
        exact XC_moved g1 zw zf (fun j hj => m_wards_at N hN8 j hj)
      · exact XB_frC h15 g9 (fun c hc => zf c (by omega) (by omega) (by omega))
    | succ n ih =>
      intro i s1 hi g1 g9 gf
      have hXT1 := XT_frA h15 hXT gf
      have e7 : s1 1 7 = (A : Int) := by rw [hXT1.1.2.2.2.2.1]; exact hA
      have hmy := hmids i (by omega)
      refine wp_X7_goBy_2 hk ⟨fun c => absurd c (by omega), fun _ => ?_⟩
      rw [ev_add_eq (x := (i : Int)) (y := 1) ⟨by omega, by omega⟩]
      exact sp_moveAngel hk h15 hT0 (by omega) hXT1 g1 g9 hmy (fun s' z1 z2 z3 => ih (i + 1) s' (by omega) z1 z2 (frA_tr gf z3))
  exact ang A 0 s (by omega) hC hB frA_rf
