/-! calls that only ask: of, at, mishap, book, look -/
theorem sim_of2 {MX MM : ev_M} {l : List (Nat × ev_V)} (h : ∀ (σ s : ev_S) (N A NO MI : Nat), ev_ok σ → ev_ok s → RM s N A NO MI → RX σ s → RF σ s N A MI → σ 29 2 = s 0 3 → ∃ v : ev_V, Ev layX MX 60 0 ((0, ev_r 0) :: l) [] σ (fun u σ' => u = some v ∧ asks σ s N A MI σ') ∧ ∀ s1, ev_up s 0 0 0 = s1 → frQ s s1 → frL s s1 → s1 9 = s 9 → Ev layM MM 60 0 ((0, ev_r 0) :: l) [] s (fun u s' => u = some v ∧ frQ s s')) : Sim MX MM l := by
  intro σ s hσ hs hR
  obtain ⟨N, A, NO, MI, hM, hX, hP, hF, hI, hT⟩ := hR
  obtain ⟨U, nx, ⟨u1, u2, u3, u4, u5⟩, u6, u7⟩ := id hP
  obtain ⟨v, h1, h2⟩ := h σ s N A NO MI hσ hs hM hX hF (by rw [u3, u4])
  exact ⟨v, asks σ s N A MI, frQ s, h1, h2 _ rfl frQ_0 frL_0 (ev_upj _ _ (by omega)), fun σ' s' a b => XR_scr hM hX hP hI hT a.2 a.1 b⟩
theorem rs (x : Nat) (y : Int) (h : y = (x : Int)) : y.toNat = x := by omega
def m_of (s : ev_S) (N : Nat) (a w : Int) : Int := if 0 ≤ a ∧ a < (N : Int) then (if w = 0 then s 1 (3 + a.toNat) else if w = 1 then s 1 (11 + a.toNat) else if w = 2 then s 21 a.toNat - s 1 (19 + a.toNat) else -1) else -1
theorem sim_ofq (a w : Int) : Sim M_X11_of M_X12_of [(1, ev_i a), (2, ev_i w)] := sim_of2 fun σ s N A NO MI hσ hs hM hX hF hu => by
  have hN := hM.1.2.1
  have eN : σ 1 4 = (N : Int) := by rw [hX.1.1.2.2.2.1]; exact hN.1
  have hk : asks σ s N A MI σ := ⟨frS_rf, hF⟩
  refine ⟨ev_i (m_of s N a w), ?_, fun s1 es1 hfr hfl e9 => ?_⟩
  · refine wp_X11_of_0 (sp_hasWard is_X10_1 (ev_pi_mk ?_))
    rw [eN]
    unfold m_of
    by_cases c : 0 ≤ a ∧ a < (N : Int)
    · rw [if_pos c, if_pos c]
      obtain ⟨k, rfl⟩ := Int.eq_ofNat_of_zero_le c.1
      rw [Int.toNat_natCast]
      have hx := hX.2.1.2.1 k (by omega)
      have hy := (hX.1.2.2.1 k (by omega)).1
      have hw := (hM.2.1.2.2.1 k (by omega)).1
      refine ⟨fun _ => ⟨fun q => ⟨?_, hk⟩, fun q => ⟨by omega, ?_, hk⟩, fun q => ⟨by omega, ?_, hk⟩, fun q => ⟨by omega, by omega, ?_, hk⟩⟩, fun q => absurd q (by omega)⟩
      · rw [if_neg (by omega), if_neg (by omega), if_neg (by omega)]
      · rw [if_pos q]; exact congrArg (fun z => some (ev_i z)) hx.1
      · rw [if_neg (by omega), if_pos q]; exact congrArg (fun z => some (ev_i z)) hx.2.1
      · rw [if_neg (by omega), if_neg (by omega), if_pos q, show σ 4 k = s 21 k from hy, show σ 18 k = s 1 (19 + k) from hx.2.2, ev_sub_eq ⟨by have := hw.2.2.2; simp only at this; omega, by have := hw.2.2.2; simp only at this; omega⟩]
    · rw [if_neg c, if_neg c]
      exact ⟨fun q => absurd rfl q, fun _ => ⟨rfl, hk⟩⟩
  · refine wp_X12_of_0 ?_
    rw [es1]
    rintro _ rfl
    refine sp_isWard (ev_pi_mk ?_)
    rw [hfr.1 10 (by omega) (by omega), hN.1, hfr.2.1, hfr.2.2.2 21 (by omega) (by omega) (by omega) (by omega)]
    unfold m_of
    by_cases c : 0 ≤ a ∧ a < (N : Int)
    · rw [if_pos c, if_pos c]
      obtain ⟨k, rfl⟩ := Int.eq_ofNat_of_zero_le c.1
      have hw := (hM.2.1.2.2.1 k (by omega)).1
      have hw2 := hw.2.2.2
      simp only at hw2
      simp (disch := omega) only [ev_add_eq, tn_lit, Int.toNat_natCast]
      refine ⟨fun _ => ⟨fun q0 => ⟨fun q1 => ⟨fun q2 => ⟨?_, hfr⟩, fun q2 => ⟨by omega, by omega, ?_, hfr⟩⟩, fun q1 => ⟨by omega, ?_, hfr⟩⟩, fun q0 => ⟨by omega, ?_, hfr⟩⟩, fun q => absurd q (by omega)⟩
      · rw [if_neg q0, if_neg q1, if_neg q2]
      · rw [if_neg q0, if_neg q1, if_pos q2, ev_sub_eq ⟨by omega, by omega⟩]
      · rw [if_neg q0, if_pos q1]
      · rw [if_pos q0]
    · rw [if_neg c, if_neg c]
      exact ⟨fun q => absurd rfl q, fun _ => ⟨rfl, hfr⟩⟩
noncomputable def m_at (s : ev_S) (N A MI : Nat) (a w : Int) : Int := if 0 ≤ a ∧ a < (A : Int) then (if w = 0 then s 1 (27 + a.toNat) else if w = 1 then s 5 a.toNat else if w = 2 then s 1 (33 + a.toNat) else if w = 3 then s 1 (51 + a.toNat) else if w = 4 then s 27 a.toNat - s 1 (39 + a.toNat) else if w = 5 then v_mo s N A MI (s 1) (2 ^ A - 1) - v_mo s N A MI (s 1) (dif (2 ^ A - 1) (2 ^ a.toNat)) else if w = 6 then ((m_bw s N MI (s 1) a.toNat 64 : Nat) : Int) else -1) else -1
theorem sim_at (a w : Int) : Sim M_X11_at M_X12_at [(1, ev_i a), (2, ev_i w)] := sim_of2 fun σ s N A NO MI hσ hs hM hX hF hu => by
  have hA := hM.1.2.2.1
  have eA : σ 1 7 = (A : Int) := by rw [hX.1.1.2.2.2.2.1]; exact hA.1
  have hk : asks σ s N A MI σ := ⟨frS_rf, hF⟩
  refine ⟨ev_i (m_at s N A MI a w), ?_, fun s1 es1 hfr hfl e9 => ?_⟩
  · refine wp_X11_at_0 (sp_hasAngel is_X10_1 (ev_pi_mk ?_))
    rw [eA]
    unfold m_at
    by_cases c : 0 ≤ a ∧ a < (A : Int)
    · rw [if_pos c, if_pos c]
      obtain ⟨k, rfl⟩ := Int.eq_ofNat_of_zero_le c.1
      rw [Int.toNat_natCast]
      have hx := hX.2.1.2.2.1 k (by omega)
      have hy := hX.1.2.2.2.1 k (by omega)
      have hw := hM.2.1.2.2.2.1 k (by omega)
      have hp := (hM.1.2.2.2.2.2.2.2.1 k (by omega)).2.1
      have hw2 := hw.2.2.1
      simp only at hw2
      refine ⟨fun _ => ⟨fun q => ⟨?_, hk⟩, fun q => ⟨by omega, ?_, hk⟩, fun q => ⟨by omega, ?_, hk⟩, fun q => ⟨by omega, ?_, hk⟩, fun q => ⟨by omega, ?_, hk⟩, fun q => ⟨by omega, by omega, ?_, hk⟩, fun q => ?_, fun q => ?_⟩, fun q => absurd q (by omega)⟩
      · rw [if_neg (by omega), if_neg (by omega), if_neg (by omega), if_neg (by omega), if_neg (by omega), if_neg (by omega), if_neg (by omega)]
      · rw [if_pos q]; exact congrArg (fun z => some (ev_i z)) hx.1
      · rw [if_neg (by omega), if_pos q]; exact congrArg (fun z => some (ev_i z)) hy.1
      · rw [if_neg (by omega), if_neg (by omega), if_pos q]; exact congrArg (fun z => some (ev_i z)) hx.2.1
      · rw [if_neg (by omega), if_neg (by omega), if_neg (by omega), if_pos q]; exact congrArg (fun z => some (ev_i z)) hx.2.2.2.2
      · rw [if_neg (by omega), if_neg (by omega), if_neg (by omega), if_neg (by omega), if_pos q, show σ 7 k = s 27 k from hy.2.1, show σ 22 k = s 1 (39 + k) from hx.2.2.2.1, ev_sub_eq ⟨by omega, by omega⟩]
      · refine sp_prepare hM.1 (RM_0 hM) (RM_wok hM) (RM_pl hM) hX.1 hX.2.1 hF.1 hF.2 (fun s1 z1 z2 z3 z4 => sp_worth hM.1 z1 (by omega) (fun s2 y1 y2 y3 => ev_pi_mk ⟨?_, frS_tr (frS_K z4) (frS_G y3), RF_care z3 z2 y1 y2 y3⟩))
        rw [if_neg (by omega), if_neg (by omega), if_neg (by omega), if_neg (by omega), if_neg (by omega), if_pos q]
      · refine sp_bestWait hM.1 (RM_0 hM) (RM_wok hM) (RM_pl hM k (by omega)) (by omega) hX.1 hX.2.1 hF.1 (fun s1 z1 z2 z3 z4 => ev_pi_mk ⟨?_, frS_F z4, RF_fore hF z1 z2 z4⟩)
        rw [if_neg (by omega), if_neg (by omega), if_neg (by omega), if_neg (by omega), if_neg (by omega), if_neg (by omega), if_pos q]
    · rw [if_neg c, if_neg c]
      exact ⟨fun q => absurd rfl q, fun _ => ⟨rfl, hk⟩⟩
  · refine wp_X12_at_0 ?_
    rw [es1]
    rintro _ rfl
    refine sp_isAngel (ev_pi_mk ?_)
    rw [hfr.1 11 (by omega) (by omega), hA.1, hfr.2.1, hfr.2.2.2 27 (by omega) (by omega) (by omega) (by omega), hfr.2.2.2 5 (by omega) (by omega) (by omega) (by omega)]
    unfold m_at
    by_cases c : 0 ≤ a ∧ a < (A : Int)
    · rw [if_pos c, if_pos c]
      obtain ⟨k, rfl⟩ := Int.eq_ofNat_of_zero_le c.1
      have hw := hM.2.1.2.2.2.1 k (by omega)
      have hp := (hM.1.2.2.2.2.2.2.2.1 k (by omega)).2.1
      have hw2 := hw.2.2.1
      simp only at hw2
      simp (disch := omega) only [ev_add_eq, tn_lit, Int.toNat_natCast]
      refine ⟨fun _ => ⟨fun q0 => ⟨fun q1 => ⟨fun q2 => ⟨fun q3 => ⟨fun q4 => ⟨fun q5 => ⟨fun q6 => ⟨?_, hfr⟩, fun q6 => ?_⟩, fun q5 => ?_⟩, fun q4 => ⟨by omega, by omega, ?_, hfr⟩⟩, fun q3 => ⟨by omega, ?_, hfr⟩⟩, fun q2 => ⟨by omega, ?_, hfr⟩⟩, fun q1 => ⟨by omega, ?_, hfr⟩⟩, fun q0 => ⟨by omega, ?_, hfr⟩⟩, fun q => absurd q (by omega)⟩
      · rw [if_neg q0, if_neg q1, if_neg q2, if_neg q3, if_neg q4, if_neg q5, if_neg q6]
      · refine sp_waitOf hM.1 hM.2.2.2 (RM_0 hM) (RM_wok hM) (RM_pl hM) hfl (by omega) (fun s' z => ev_pi_mk ⟨?_, frQ_L z⟩)
        rw [if_neg q0, if_neg q1, if_neg q2, if_neg q3, if_neg q4, if_neg q5, if_pos q6]
      · refine sp_worthOf hM.1 hM.2.2.2 (RM_0 hM) (RM_wok hM) (RM_pl hM) hfl (by omega) (fun s' z => ev_pi_mk ⟨?_, frQ_L z⟩)
        rw [if_neg q0, if_neg q1, if_neg q2, if_neg q3, if_neg q4, if_pos q5]
      · rw [if_neg q0, if_neg q1, if_neg q2, if_neg q3, if_pos q4, ev_sub_eq ⟨by omega, by omega⟩]
      · rw [if_neg q0, if_neg q1, if_neg q2, if_pos q3]
      · rw [if_neg q0, if_neg q1, if_pos q2]
      · rw [if_neg q0, if_pos q1]
      · rw [if_pos q0]
    · rw [if_neg c, if_neg c]
      exact ⟨fun q => absurd rfl q, fun _ => ⟨rfl, hfr⟩⟩
def m_mishap (s : ev_S) (N A MI : Nat) (i w : Int) : Int := if 0 ≤ i ∧ i < (MI : Int) then (if 0 ≤ w ∧ w ≤ 6 then s 24 (7 * i.toNat + w.toNat) else if w = 7 then s 1 (57 + i.toNat) else if w = 8 then (if s 1 (57 + i.toNat) ≠ 0 then s 1 (67 + i.toNat) - 1 else m_sees s N (s 1) i.toNat) else if w = 9 then s 1 (77 + i.toNat) - 1 else if w = 10 then m_10 s N A (s 1) i.toNat else -2) else -2
theorem sim_mishap (i w : Int) : Sim M_X11_mishap M_X12_mishap [(1, ev_i i), (2, ev_i w)] := sim_of2 fun σ s N A NO MI hσ hs hM hX hF hu => by
  have hI := hM.1.2.2.2.2.1
  have eI : σ 1 13 = (MI : Int) := by rw [hX.1.1.2.2.2.2.2.2]; exact hI.1
  have hk : asks σ s N A MI σ := ⟨frS_rf, hF⟩
  refine ⟨ev_i (m_mishap s N A MI i w), ?_, fun s1 es1 hfr hfl e9 => ?_⟩
  · refine wp_X11_mishap_0 (sp_hasMishap is_X10_1 (ev_pi_mk ?_))
    rw [eI]
    unfold m_mishap
    by_cases c : 0 ≤ i ∧ i < (MI : Int)
    · rw [if_pos c, if_pos c]
      obtain ⟨k, rfl⟩ := Int.eq_ofNat_of_zero_le c.1
      rw [Int.toNat_natCast]
      have hx := hX.2.1.2.2.2 k (by omega)
      have x0 : σ 24 k = s 1 (57 + k) := hx.1
      have x1 : σ 25 k = s 1 (67 + k) - 1 := hx.2.1
      have x2 : σ 26 k = s 1 (77 + k) - 1 := hx.2.2
      have go : ¬ (0 ≤ w ∧ w ≤ 6) → Ev layX M_X11_mishap 60 39 [(0, ev_r 0), (1, ev_i (k : Int)), (2, ev_i w)] [] σ (fun u σ' => u = some (ev_i (if 0 ≤ w ∧ w ≤ 6 then s 24 (7 * k + w.toNat) else if w = 7 then s 1 (57 + k) else if w = 8 then (if s 1 (57 + k) ≠ 0 then s 1 (67 + k) - 1 else m_sees s N (s 1) k) else if w = 9 then s 1 (77 + k) - 1 else if w = 10 then m_10 s N A (s 1) k else -2)) ∧ asks σ s N A MI σ') := by
        intro hw
        refine wp_X11_mishap_39 ?_
        rw [if_neg hw, Int.toNat_natCast, x0, x1, x2]
        refine ⟨fun q => ⟨?_, hk⟩, fun q => ⟨by omega, ?_, hk⟩, fun q => ⟨by omega, fun q2 => ⟨by omega, ?_, hk⟩, fun q2 => ?_⟩, fun q => ⟨by omega, ?_, hk⟩, fun q => ?_⟩
        · rw [if_neg (by omega), if_neg (by omega), if_neg (by omega), if_neg (by omega)]
        · rw [if_pos q]
        · rw [if_neg (by omega), if_pos q, if_pos q2]
        · refine sp_comesIn hM.1 (RM_0 hM) (RM_wok hM) hX.1 hX.2.1 hF.1 (by omega) (fun s1 z1 z2 z3 z4 => ev_pi_mk ⟨?_, frS_F z4, RF_fore hF z1 z2 z4⟩)
          rw [if_neg (by omega), if_pos q, if_neg (fun z => z q2)]
        · rw [if_neg (by omega), if_neg (by omega), if_pos q]
        · refine sp_whoCould hM.1 (RM_0 hM) (RM_wok hM) (RM_pl hM) hX.1 hX.2.1 hF.1 (by omega) (fun s1 z1 z2 z3 z4 => ev_pi_mk ⟨?_, frS_F z4, RF_fore hF z1 z2 z4⟩)
          rw [if_neg (by omega), if_neg (by omega), if_neg (by omega), if_pos q, m_10_eq hM.1 (RM_0 hM) (RM_pl hM) (by omega)]
      refine ⟨fun _ => ⟨fun q => go (by omega), fun q => ⟨fun q2 => go (by omega), fun q2 => ?_⟩⟩, fun q => absurd q (by omega)⟩
      obtain ⟨k2, rfl⟩ := Int.eq_ofNat_of_zero_le q
      rw [ev_mul_eq ⟨by omega, by omega⟩, ev_add_eq ⟨by omega, by omega⟩, show Int.toNat ((k : Int) * 7 + (k2 : Int)) = 7 * k + k2 by omega]
      refine ⟨by omega, ?_, hk⟩
      rw [if_pos (by omega), Int.toNat_natCast, show σ 9 (7 * k + k2) = s 24 (7 * k + k2) from hX.1.2.2.2.2.2.1 k (by omega) k2 (by omega)]
    · rw [if_neg c, if_neg c]
      exact ⟨fun q => absurd rfl q, fun _ => ⟨rfl, hk⟩⟩
  · refine wp_X12_mishap_0 ?_
    rw [es1]
    rintro _ rfl
    rw [hfr.1 46 (by omega) (by omega), hI.1, ev_sub_eq ⟨by omega, by omega⟩]
    refine sp_isIn (ev_pi_mk ?_)
    unfold m_mishap
    by_cases c : 0 ≤ i ∧ i < (MI : Int)
    · rw [if_pos c, if_pos (by omega)]
      obtain ⟨k, rfl⟩ := Int.eq_ofNat_of_zero_le c.1
      have hx := hX.2.1.2.2.2 k (by omega)
      have x1 : σ 25 k = s 1 (67 + k) - 1 := hx.2.1
      have x2 : σ 26 k = s 1 (77 + k) - 1 := hx.2.2
      have r1 := hσ 25 k
      have r2 := hσ 26 k
      have r3 := hs 1 (67 + k)
      have r4 := hs 1 (77 + k)
      unfold ev_R at r1 r2 r3 r4
      refine ⟨fun _ => sp_isIn (ev_pi_mk ?_), fun q => absurd q (by omega)⟩
      by_cases c2 : 0 ≤ w ∧ w ≤ 6
      · rw [if_pos c2, if_pos c2]
        obtain ⟨k2, rfl⟩ := Int.eq_ofNat_of_zero_le c2.1
        refine ⟨fun q => absurd q (by omega), fun _ => sp_ofMishap (by omega) (by omega) (ev_pi_mk ⟨?_, hfr⟩)⟩
        rw [hfr.2.2.2 24 (by omega) (by omega) (by omega) (by omega), Int.toNat_natCast, Int.toNat_natCast]
      · rw [if_neg c2, if_neg c2]
        simp (disch := omega) only [ev_add_eq, tn_lit, Int.toNat_natCast]
        rw [hfr.2.1]
        refine ⟨fun _ => ⟨fun q7 => ⟨fun q8 => ⟨fun q9 => ⟨fun q10 => ⟨?_, hfr⟩, fun q10 => ?_⟩, fun q9 => ⟨by omega, ?_, hfr⟩⟩, fun q8 => ?_⟩, fun q7 => ⟨by omega, ?_, hfr⟩⟩, fun q => absurd rfl q⟩
        · rw [if_neg q7, if_neg q8, if_neg q9, if_neg q10]
        · refine sp_seersNow hM.1 hM.2.2.2 (RM_0 hM) (RM_wok hM) (RM_pl hM) hfl (by omega) (fun s' z => ev_pi_mk ⟨?_, frQ_L z⟩)
          rw [if_neg q7, if_neg q8, if_neg q9, if_pos q10]
        · rw [if_neg q7, if_neg q8, if_pos q9, ev_sub_eq ⟨by omega, by omega⟩]
        · refine sp_secondOf hM.1 hM.2.2.2 (RM_0 hM) (RM_wok hM) hfl (by omega) ⟨by omega, by omega⟩ (fun s' z => ev_pi_mk ⟨?_, frQ_L z⟩)
          rw [if_neg q7, if_pos q8]
        · rw [if_pos q7]
    · rw [if_neg c, if_neg (by omega)]
      exact ⟨fun q => absurd rfl q, fun _ => ⟨rfl, hfr⟩⟩
def m_avb (r : Nat → Int) (line : Int) : Nat → Nat
  | 0 => 0
  | n + 1 => if r (77 + n) - 1 = line then m_avb r line n ||| 2 ^ n else m_avb r line n
theorem m_avb_lt {r : Nat → Int} {line : Int} : ∀ n, m_avb r line n < 2 ^ n
  | 0 => by simp [m_avb]
  | n + 1 => by
    have ih := m_avb_lt (r := r) (line := line) n
    have e : 2 ^ n < 2 ^ (n + 1) := Nat.pow_lt_pow_right (by omega) (by omega)
    simp only [m_avb]
    split
    · exact or_lt (by omega) e
    · omega
theorem sp_avertedByLine {d MI : Nat} {s : ev_S} {r : Nat → Int} {line : Int} {Q : Option ev_V → ev_S → Prop} (hM : s 1 13 = (MI : Int)) (hM10 : MI ≤ 10) (hr : ∀ i, i < 10 → s 26 i = r (77 + i) - 1) (h : Q (some (ev_i ((m_avb r line MI : Nat) : Int))) s) : Ev layX M_X11_avertedByLine d 0 [(0, ev_r 0), (1, ev_i line)] [] s Q := by
  refine wp_X11_avertedByLine_0 ?_
  have key : ∀ n i : Nat, i + n = MI → Ev layX M_X11_avertedByLine d 4 [(0, ev_r 0), (1, ev_i line), (2, ev_i ((m_avb r line i : Nat) : Int)), (3, ev_i (i : Int))] [] s Q := by
    intro n
    induction n with
    | zero =>
      intro i hi
      have : i = MI := by omega
      subst this
      exact wp_X11_avertedByLine_4 ⟨fun _ => h, fun q => absurd q (by omega)⟩
    | succ n ih =>
      intro i hi
      have i2 := ih (i + 1) (by omega)
      have hl := m_avb_lt (r := r) (line := line) i
      have p2 : 2 ^ i ≤ 1024 := by have := Nat.pow_le_pow_right (n := 2) (by omega) (show i ≤ 10 by omega); omega
      refine wp_X11_avertedByLine_4 ⟨fun q => absurd q (by omega), fun _ => ?_⟩
      rw [Int.toNat_natCast, hr i (by omega), ev_shl1 (by omega), ev_or_nat (by omega) (by omega), ev_add_eq (x := (i : Int)) (y := 1) ⟨by omega, by omega⟩]
      simp only [m_avb] at i2
      refine ⟨by omega, fun c => ?_, fun c => ?_⟩
      · rw [if_neg c] at i2; exact i2
      · rw [if_pos c] at i2; exact i2
  exact key MI 0 (by omega)
theorem sp_mavertedBy {d MI : Nat} {s : ev_S} {line : Int} {Q : Option ev_V → ev_S → Prop} (hM : s 0 46 = (MI : Int)) (hM10 : MI ≤ 10) (hl : 0 ≤ line ∧ line ≤ 1000) (h : Q (some (ev_i ((m_avb (s 1) line MI : Nat) : Int))) s) : Ev layM M_X12_avertedBy d 0 [(0, ev_r 0), (1, ev_i line)] [] s Q := by
  refine wp_X12_avertedBy_0 ?_
  have key : ∀ n i : Nat, i + n = MI → Ev layM M_X12_avertedBy d 4 [(0, ev_r 0), (1, ev_i line), (2, ev_i ((m_avb (s 1) line i : Nat) : Int)), (3, ev_i (i : Int))] [] s Q := by
    intro n
    induction n with
    | zero =>
      intro i hi
      have : i = MI := by omega
      subst this
      exact wp_X12_avertedBy_4 ⟨fun _ => h, fun q => absurd q (by omega)⟩
    | succ n ih =>
      intro i hi
      have i2 := ih (i + 1) (by omega)
      have hl2 := m_avb_lt (r := s 1) (line := line) i
      have p2 : 2 ^ i ≤ 1024 := by have := Nat.pow_le_pow_right (n := 2) (by omega) (show i ≤ 10 by omega); omega
      refine wp_X12_avertedBy_4 ⟨fun q => absurd q (by omega), fun _ => ?_⟩
      simp (disch := omega) only [ev_add_eq, tn_lit]
      rw [ev_shl1 (by omega), ev_or_nat (by omega) (by omega)]
      simp only [m_avb] at i2
      refine ⟨by omega, fun c => ?_, fun c => ?_⟩
      · rw [if_neg (by omega)] at i2; exact i2
      · rw [if_pos (by omega)] at i2; exact i2
  exact key MI 0 (by omega)
def m_book (s : ev_S) (MI : Nat) (i w : Int) : Int := if 0 ≤ i ∧ i < s 1 2 then (if 0 ≤ w ∧ w < 5 then s 9 (5 * i.toNat + w.toNat) else if w = 5 then ((m_avb (s 1) i MI : Nat) : Int) else -1) else -1
theorem sim_book (i w : Int) : Sim M_X11_book M_X12_book [(1, ev_i i), (2, ev_i w)] := sim_of2 fun σ s N A NO MI hσ hs hM hX hF hu => by
  have hI := hM.1.2.2.2.2.1
  have eI : σ 1 13 = (MI : Int) := by rw [hX.1.1.2.2.2.2.2.2]; exact hI.1
  have hk : asks σ s N A MI σ := ⟨frS_rf, hF⟩
  have h2 : 0 ≤ s 1 2 ∧ s 1 2 ≤ 100 := hM.2.1.2.1
  have x2 : σ 15 13 = s 1 2 := hX.2.1.1.2.2
  refine ⟨ev_i (m_book s MI i w), ?_, fun s1 es1 hfr hfl e9 => ?_⟩
  · refine wp_X11_book_0 ?_
    rw [x2]
    unfold m_book
    by_cases c : 0 ≤ i ∧ i < s 1 2
    · rw [if_pos c]
      obtain ⟨k, rfl⟩ := Int.eq_ofNat_of_zero_le c.1
      have go : ¬ (0 ≤ w ∧ w < 5) → Ev layX M_X11_book 60 40 [(0, ev_r 0), (1, ev_i (k : Int)), (2, ev_i w)] [] σ (fun u σ' => u = some (ev_i (if 0 ≤ w ∧ w < 5 then s 9 (5 * (k : Int).toNat + w.toNat) else if w = 5 then ((m_avb (s 1) (k : Int) MI : Nat) : Int) else -1)) ∧ asks σ s N A MI σ') := by
        intro hw
        rw [if_neg hw]
        refine wp_X11_book_40 ⟨fun q => ⟨?_, hk⟩, fun q => sp_avertedByLine (r := s 1) eI hI.2 (fun j hj => (hX.2.1.2.2.2 j hj).2.2) (ev_pi_mk ⟨?_, hk⟩)⟩
        · rw [if_neg q]
        · rw [if_pos q]
      refine ⟨fun q => absurd q (by omega), fun _ => ⟨fun _ => ⟨fun q => go (by omega), fun q => ⟨fun q2 => go (by omega), fun q2 => ?_⟩⟩, fun q => absurd q (by omega)⟩⟩
      obtain ⟨k2, rfl⟩ := Int.eq_ofNat_of_zero_le q
      rw [ev_mul_eq ⟨by omega, by omega⟩, ev_add_eq ⟨by omega, by omega⟩, show Int.toNat ((k : Int) * 5 + (k2 : Int)) = 5 * k + k2 by omega]
      refine ⟨by omega, ?_, hk⟩
      rw [if_pos (by omega), Int.toNat_natCast, Int.toNat_natCast, hX.2.2 (5 * k + k2) (by omega)]
    · rw [if_neg c]
      exact ⟨fun _ => ⟨rfl, hk⟩, fun _ => ⟨fun q => absurd q (by omega), fun _ => ⟨rfl, hk⟩⟩⟩
  · refine wp_X12_book_0 ?_
    rw [es1]
    rintro _ rfl
    rw [hfr.2.1, ev_sub_eq ⟨by omega, by omega⟩]
    refine sp_isIn (ev_pi_mk ?_)
    unfold m_book
    by_cases c : 0 ≤ i ∧ i < s 1 2
    · rw [if_pos c, if_pos (by omega)]
      obtain ⟨k, rfl⟩ := Int.eq_ofNat_of_zero_le c.1
      refine ⟨fun q => absurd q (by omega), fun _ => sp_isIn (ev_pi_mk ?_)⟩
      by_cases c2 : 0 ≤ w ∧ w ≤ 5
      · rw [if_pos c2]
        refine ⟨fun _ => ⟨fun q => ?_, fun q => sp_mavertedBy (by rw [hfr.1 46 (by omega) (by omega)]; exact hI.1) hI.2 (by omega) (ev_pi_mk ⟨?_, hfr⟩)⟩, fun q => absurd q (by omega)⟩
        · obtain ⟨k2, rfl⟩ := Int.eq_ofNat_of_zero_le c2.1
          rw [ev_mul_eq ⟨by omega, by omega⟩, ev_add_eq ⟨by omega, by omega⟩, show Int.toNat (5 * (k : Int) + (k2 : Int)) = 5 * k + k2 by omega, e9]
          refine ⟨by omega, ?_, hfr⟩
          rw [if_pos (by omega), Int.toNat_natCast, Int.toNat_natCast]
        · rw [if_neg (by omega), if_pos q, hfr.2.1]
      · rw [if_neg c2]
        refine ⟨fun q => absurd rfl q, fun _ => ⟨?_, hfr⟩⟩
        rw [if_neg (by omega), if_neg (by omega)]
    · rw [if_neg c, if_neg (by omega)]
      exact ⟨fun _ => ⟨rfl, hfr⟩, fun q => absurd rfl q⟩
def m_harm (s : ev_S) (r : Nat → Int) : Nat → Int
  | 0 => 0
  | n + 1 => if r (57 + n) = 2 then m_harm s r n + s 24 (7 * n) else m_harm s r n
def m_avd (r : Nat → Int) : Nat → Int
  | 0 => 0
  | n + 1 => if r (57 + n) = 1 then m_avd r n + 1 else m_avd r n
theorem m_harm_rng {s : ev_S} {r : Nat → Int} {MI : Nat} (h : ∀ i, i < MI → m_mok s i) : ∀ n : Nat, n ≤ MI → 0 ≤ m_harm s r n ∧ m_harm s r n ≤ 99 * (n : Int)
  | 0, _ => by simp [m_harm]
  | n + 1, hn => by
    have ih := m_harm_rng (r := r) h n (by omega)
    have := (h n (by omega)).1
    simp only [m_harm]
    split <;> omega
theorem m_avd_rng {r : Nat → Int} : ∀ n : Nat, 0 ≤ m_avd r n ∧ m_avd r n ≤ (n : Int)
  | 0 => by simp [m_avd]
  | n + 1 => by
    have ih := m_avd_rng (r := r) n
    simp only [m_avd]
    split <;> omega
theorem sp_harmHappened {d N A NO MI : Nat} {s T : ev_S} {r : Nat → Int} {Q : Option ev_V → ev_S → Prop} (hT : m_tok T N A NO MI) (hXT : XT s 1 T) (hC : XC s 15 r) (h : Q (some (ev_i (m_harm T r MI))) s) : Ev layX M_X11_harmHappened d 0 [(0, ev_r 0)] [] s Q := by
  have hI := hT.2.2.2.2.1
  have hmok := hT.2.2.2.2.2.2.2.2.1
  have eI : s 1 13 = (MI : Int) := by rw [hXT.1.2.2.2.2.2.2]; exact hI.1
  refine wp_X11_harmHappened_0 ?_
  have key : ∀ n i : Nat, i + n = MI → Ev layX M_X11_harmHappened d 4 [(0, ev_r 0), (1, ev_i (m_harm T r i)), (2, ev_i (i : Int))] [] s Q := by
    intro n
    induction n with
    | zero =>
      intro i hi
      have : i = MI := by omega
      subst this
      exact wp_X11_harmHappened_4 ⟨fun _ => h, fun q => absurd q (by omega)⟩
    | succ n ih =>
      intro i hi
      have i2 := ih (i + 1) (by omega)
      have hh := m_harm_rng (r := r) hmok i (by omega)
      have h1 := (hmok i (by omega)).1
      have e24 : s 24 i = r (57 + i) := (hC.2.2.2 i (by omega)).1
      have e9 : s 9 (7 * i) = T 24 (7 * i) := hXT.2.2.2.2.2.1 i (by omega) 0 (by omega)
      refine wp_X11_harmHappened_4 ⟨fun q => absurd q (by omega), fun _ => ?_⟩
      rw [Int.toNat_natCast, e24, ev_mul_eq ⟨by omega, by omega⟩, ev_add_eq (y := 0) ⟨by omega, by omega⟩, show Int.toNat ((i : Int) * 7 + 0) = 7 * i by omega, e9, ev_add_eq (x := (i : Int)) (y := 1) ⟨by omega, by omega⟩, ev_add_eq (x := m_harm T r i) ⟨by omega, by omega⟩]
      simp only [m_harm] at i2
      refine ⟨by omega, fun c => ?_, fun c => ⟨by omega, ?_⟩⟩
      · rw [if_neg c] at i2; exact i2
      · rw [if_pos c] at i2; exact i2
  exact key MI 0 (by omega)
theorem sp_howManyAverted {d N A NO MI : Nat} {s T : ev_S} {r : Nat → Int} {Q : Option ev_V → ev_S → Prop} (hT : m_tok T N A NO MI) (hXT : XT s 1 T) (hC : XC s 15 r) (h : Q (some (ev_i (m_avd r MI))) s) : Ev layX M_X11_howManyAverted d 0 [(0, ev_r 0)] [] s Q := by
  have hI := hT.2.2.2.2.1
  have eI : s 1 13 = (MI : Int) := by rw [hXT.1.2.2.2.2.2.2]; exact hI.1
  refine wp_X11_howManyAverted_0 ?_
  have key : ∀ n i : Nat, i + n = MI → Ev layX M_X11_howManyAverted d 4 [(0, ev_r 0), (1, ev_i (m_avd r i)), (2, ev_i (i : Int))] [] s Q := by
    intro n
    induction n with
    | zero =>
      intro i hi
      have : i = MI := by omega
      subst this
      exact wp_X11_howManyAverted_4 ⟨fun _ => h, fun q => absurd q (by omega)⟩
    | succ n ih =>
      intro i hi
      have i2 := ih (i + 1) (by omega)
      have hh := m_avd_rng (r := r) i
      have e24 : s 24 i = r (57 + i) := (hC.2.2.2 i (by omega)).1
      refine wp_X11_howManyAverted_4 ⟨fun q => absurd q (by omega), fun _ => ?_⟩
      rw [Int.toNat_natCast, e24, ev_add_eq (x := (i : Int)) (y := 1) ⟨by omega, by omega⟩, ev_add_eq (x := m_avd r i) ⟨by omega, by omega⟩]
      simp only [m_avd] at i2
      refine ⟨by omega, fun c => ?_, fun c => ?_⟩
      · rw [if_neg c] at i2; exact i2
      · rw [if_pos c] at i2; exact i2
  exact key MI 0 (by omega)
theorem sp_allOver1 {d N A NO MI : Nat} {s T : ev_S} {Q : Option ev_V → ev_S → Prop} (hT : m_tok T N A NO MI) (e46 : s 0 46 = T 0 46) (e24 : s 24 = T 24) (h : Q (some (ev_i (m_harm T (s 1) MI))) s) : Ev layM M_X12_allOver (d + 1) 0 [(0, ev_r 0), (1, ev_i 2), (2, ev_i 1)] [] s Q := by
  have hI := hT.2.2.2.2.1
  have hmok := hT.2.2.2.2.2.2.2.2.1
  refine wp_X12_allOver_0 ?_
  have key : ∀ n i : Nat, i + n = MI → Ev layM M_X12_allOver (d + 1) 5 [(0, ev_r 0), (1, ev_i 2), (2, ev_i 1), (3, ev_i (m_harm T (s 1) i)), (4, ev_i (i : Int))] [] s Q := by
    intro n
    induction n with
    | zero =>
      intro i hi
      have : i = MI := by omega
      subst this
      exact wp_X12_allOver_5 ⟨fun _ => h, fun q => absurd q (by omega)⟩
    | succ n ih =>
      intro i hi
      have i2 := ih (i + 1) (by omega)
      have hh := m_harm_rng (r := s 1) hmok i (by omega)
      have h1 := (hmok i (by omega)).1
      refine wp_X12_allOver_5 ⟨fun q => absurd q (by omega), fun _ => ?_⟩
      rw [ev_add_eq (x := 57) ⟨by omega, by omega⟩, tn_lit, ev_add_eq (x := (i : Int)) (y := 1) ⟨by omega, by omega⟩]
      simp only [m_harm] at i2
      refine ⟨by omega, fun c => ?_, fun c => ⟨fun q => absurd q (by omega), fun _ => sp_ofMishap (k := 0) (by omega) (by omega) (ev_pi_mk ?_)⟩⟩
      · rw [if_neg c] at i2; exact i2
      · rw [if_pos c] at i2
        rw [e24, show 7 * i + 0 = 7 * i from rfl, ev_add_eq ⟨by omega, by omega⟩]
        exact i2
  exact key MI 0 (by omega)
theorem sp_allOver0 {d N A NO MI : Nat} {s T : ev_S} {Q : Option ev_V → ev_S → Prop} (hT : m_tok T N A NO MI) (e46 : s 0 46 = T 0 46) (h : Q (some (ev_i (m_avd (s 1) MI))) s) : Ev layM M_X12_allOver (d + 1) 0 [(0, ev_r 0), (1, ev_i 1), (2, ev_i 0)] [] s Q := by
  have hI := hT.2.2.2.2.1
  refine wp_X12_allOver_0 ?_
  have key : ∀ n i : Nat, i + n = MI → Ev layM M_X12_allOver (d + 1) 5 [(0, ev_r 0), (1, ev_i 1), (2, ev_i 0), (3, ev_i (m_avd (s 1) i)), (4, ev_i (i : Int))] [] s Q := by
    intro n
    induction n with
    | zero =>
      intro i hi
      have : i = MI := by omega
      subst this
      exact wp_X12_allOver_5 ⟨fun _ => h, fun q => absurd q (by omega)⟩
    | succ n ih =>
      intro i hi
      have i2 := ih (i + 1) (by omega)
      have hh := m_avd_rng (r := s 1) i
      refine wp_X12_allOver_5 ⟨fun q => absurd q (by omega), fun _ => ?_⟩
      rw [ev_add_eq (x := 57) ⟨by omega, by omega⟩, tn_lit, ev_add_eq (x := (i : Int)) (y := 1) ⟨by omega, by omega⟩, ev_add_eq (x := m_avd (s 1) i) ⟨by omega, by omega⟩]
      simp only [m_avd] at i2
      refine ⟨by omega, fun c => ?_, fun c => ⟨fun _ => ?_, fun q => absurd rfl q⟩⟩
      · rw [if_neg c] at i2; exact i2
      · rw [if_pos c] at i2; exact i2
  exact key MI 0 (by omega)
def m_look (s : ev_S) (MI : Nat) (w : Int) : Int := if w = 0 then s 0 6 + 8 else if w = 1 then s 0 7 + 8 else if w = 2 then s 1 0 else if w = 3 then s 0 10 else if w = 4 then s 0 11 else if w = 5 then s 0 12 else if w = 6 then s 0 46 else if w = 7 then s 1 2 else if w = 8 then s 0 25 else if w = 9 then s 1 1 else if w = 10 then m_harm s (s 1) MI else if w = 11 then m_avd (s 1) MI else if w = 12 then s 0 3 else if w = 13 then s 0 8 + 3 else if 20 ≤ w ∧ w ≤ 24 then s 4 (w - 20).toNat else -1
theorem sim_look (w : Int) (hw : ev_R w) : Sim M_X11_look M_X12_look [(1, ev_i w)] := sim_of2 fun σ s N A NO MI hσ hs hM hX hF hu => by
  have hk : asks σ s N A MI σ := ⟨frS_rf, hF⟩
  have hT0 := hM.1
  obtain ⟨hdim, -, -, -, hMI, hg, -⟩ := hM.1
  obtain ⟨x0, x1, x2, x4, x7, x11, x13⟩ := hX.1.1
  obtain ⟨c0, c1, c2⟩ := hX.2.1.1
  have xl : σ 10 5 = s 0 25 := hX.1.2.2.2.2.2.2.1
  obtain ⟨w1, w2⟩ := hw
  unfold m_dim at hdim
  refine ⟨ev_i (m_look s MI w), ?_, fun s1 es1 hfr hfl e9 => ?_⟩
  · refine wp_X11_look_0 ?_
    rw [x0, x1, x2, x4, x7, x11, x13, c0, c1, c2, xl, hu]
    unfold m_look
    refine ⟨fun q => ⟨fun q2 => ⟨?_, hk⟩, fun q2 => ⟨fun q3 => ⟨?_, hk⟩, fun q3 => ?_⟩⟩, fun q => ⟨?_, hk⟩, fun q => ⟨?_, hk⟩, fun q => ⟨?_, hk⟩, fun q => ⟨?_, hk⟩, fun q => ⟨?_, hk⟩, fun q => ⟨?_, hk⟩, fun q => ⟨?_, hk⟩, fun q => ⟨?_, hk⟩, fun q => ⟨?_, hk⟩, fun q => ⟨?_, hk⟩, fun q => ?_, fun q => ?_, fun q => ⟨?_, hk⟩, fun q => ⟨?_, hk⟩⟩
    · rw [if_neg (by omega), if_neg (by omega), if_neg (by omega), if_neg (by omega), if_neg (by omega), if_neg (by omega), if_neg (by omega), if_neg (by omega), if_neg (by omega), if_neg (by omega), if_neg (by omega), if_neg (by omega), if_neg (by omega), if_neg (by omega), if_neg (by omega)]
    · rw [if_neg (by omega), if_neg (by omega), if_neg (by omega), if_neg (by omega), if_neg (by omega), if_neg (by omega), if_neg (by omega), if_neg (by omega), if_neg (by omega), if_neg (by omega), if_neg (by omega), if_neg (by omega), if_neg (by omega), if_neg (by omega), if_neg (by omega)]
    · rw [ev_sub_eq ⟨by omega, by omega⟩]
      refine ⟨by omega, ?_, hk⟩
      rw [if_neg (by omega), if_neg (by omega), if_neg (by omega), if_neg (by omega), if_neg (by omega), if_neg (by omega), if_neg (by omega), if_neg (by omega), if_neg (by omega), if_neg (by omega), if_neg (by omega), if_neg (by omega), if_neg (by omega), if_neg (by omega), if_pos (by omega), show σ 2 (w - 20).toNat = s 4 (w - 20).toNat from hX.1.2.1 _ (by omega)]
    · rw [if_pos q]
    · rw [if_neg (by omega), if_pos q]
    · rw [if_neg (by omega), if_neg (by omega), if_pos q]
    · rw [if_neg (by omega), if_neg (by omega), if_neg (by omega), if_pos q]
    · rw [if_neg (by omega), if_neg (by omega), if_neg (by omega), if_neg (by omega), if_pos q]
    · rw [if_neg (by omega), if_neg (by omega), if_neg (by omega), if_neg (by omega), if_neg (by omega), if_pos q]
    · rw [if_neg (by omega), if_neg (by omega), if_neg (by omega), if_neg (by omega), if_neg (by omega), if_neg (by omega), if_pos q]
    · rw [if_neg (by omega), if_neg (by omega), if_neg (by omega), if_neg (by omega), if_neg (by omega), if_neg (by omega), if_neg (by omega), if_pos q]
    · rw [if_neg (by omega), if_neg (by omega), if_neg (by omega), if_neg (by omega), if_neg (by omega), if_neg (by omega), if_neg (by omega), if_neg (by omega), if_pos q]
    · rw [if_neg (by omega), if_neg (by omega), if_neg (by omega), if_neg (by omega), if_neg (by omega), if_neg (by omega), if_neg (by omega), if_neg (by omega), if_neg (by omega), if_pos q]
    · refine sp_harmHappened hT0 hX.1 hX.2.1 (ev_pi_mk ⟨?_, hk⟩)
      rw [if_neg (by omega), if_neg (by omega), if_neg (by omega), if_neg (by omega), if_neg (by omega), if_neg (by omega), if_neg (by omega), if_neg (by omega), if_neg (by omega), if_neg (by omega), if_pos q]
    · refine sp_howManyAverted hT0 hX.1 hX.2.1 (ev_pi_mk ⟨?_, hk⟩)
      rw [if_neg (by omega), if_neg (by omega), if_neg (by omega), if_neg (by omega), if_neg (by omega), if_neg (by omega), if_neg (by omega), if_neg (by omega), if_neg (by omega), if_neg (by omega), if_neg (by omega), if_pos q]
    · rw [if_neg (by omega), if_neg (by omega), if_neg (by omega), if_neg (by omega), if_neg (by omega), if_neg (by omega), if_neg (by omega), if_neg (by omega), if_neg (by omega), if_neg (by omega), if_neg (by omega), if_neg (by omega), if_pos q]
    · rw [if_neg (by omega), if_neg (by omega), if_neg (by omega), if_neg (by omega), if_neg (by omega), if_neg (by omega), if_neg (by omega), if_neg (by omega), if_neg (by omega), if_neg (by omega), if_neg (by omega), if_neg (by omega), if_neg (by omega), if_pos q]
  · refine wp_X12_look_0 ?_
    rw [es1]
    rintro _ rfl
    rw [hfr.1 6 (by omega) (by omega), hfr.1 7 (by omega) (by omega), hfr.1 10 (by omega) (by omega), hfr.1 11 (by omega) (by omega), hfr.1 12 (by omega) (by omega), hfr.1 46 (by omega) (by omega), hfr.1 25 (by omega) (by omega), hfr.1 3 (by omega) (by omega), hfr.2.1, ev_add_eq (x := s 0 6) ⟨by omega, by omega⟩, ev_add_eq (x := s 0 7) ⟨by omega, by omega⟩]
    unfold m_look
    refine ⟨fun q0 => ⟨fun q1 => ⟨fun q2 => ⟨fun q3 => ⟨fun q4 => ⟨fun q5 => ⟨fun q6 => ⟨fun q7 => ⟨fun q8 => ⟨fun q9 => ⟨fun q10 => ⟨fun q11 => ⟨fun q12 => ⟨fun q13 => ?_, fun q => ?_⟩, fun q => ⟨?_, hfr⟩⟩, fun q => ?_⟩, fun q => ?_⟩, fun q => ⟨?_, hfr⟩⟩, fun q => ⟨?_, hfr⟩⟩, fun q => ⟨?_, hfr⟩⟩, fun q => ⟨?_, hfr⟩⟩, fun q => ⟨?_, hfr⟩⟩, fun q => ⟨?_, hfr⟩⟩, fun q => ⟨?_, hfr⟩⟩, fun q => ⟨?_, hfr⟩⟩, fun q => ⟨?_, hfr⟩⟩, fun q => ⟨?_, hfr⟩⟩
    · refine sp_isIn (ev_pi_mk ?_)
      by_cases c : 20 ≤ w ∧ w ≤ 24
      · rw [if_pos c]
        refine ⟨fun q => absurd q (by omega), fun _ => ?_⟩
        rw [ev_sub_eq ⟨by omega, by omega⟩]
        refine ⟨by omega, ?_, hfr⟩
        rw [if_neg (by omega), if_neg (by omega), if_neg (by omega), if_neg (by omega), if_neg (by omega), if_neg (by omega), if_neg (by omega), if_neg (by omega), if_neg (by omega), if_neg (by omega), if_neg (by omega), if_neg (by omega), if_neg (by omega), if_neg (by omega), if_pos c, hfr.2.2.2 4 (by omega) (by omega) (by omega) (by omega)]
      · rw [if_neg c]
        refine ⟨fun _ => ⟨?_, hfr⟩, fun q => absurd rfl q⟩
        rw [if_neg (by omega), if_neg (by omega), if_neg (by omega), if_neg (by omega), if_neg (by omega), if_neg (by omega), if_neg (by omega), if_neg (by omega), if_neg (by omega), if_neg (by omega), if_neg (by omega), if_neg (by omega), if_neg (by omega), if_neg (by omega), if_neg c]
    · refine wp_X12_guard_0 (ev_pi_mk ⟨?_, hfr⟩)
      rw [hfr.1 8 (by omega) (by omega), ev_add_eq ⟨by omega, by omega⟩, if_neg (by omega), if_neg (by omega), if_neg (by omega), if_neg (by omega), if_neg (by omega), if_neg (by omega), if_neg (by omega), if_neg (by omega), if_neg (by omega), if_neg (by omega), if_neg (by omega), if_neg (by omega), if_neg (by omega), if_pos q]
    · rw [if_neg (by omega), if_neg (by omega), if_neg (by omega), if_neg (by omega), if_neg (by omega), if_neg (by omega), if_neg (by omega), if_neg (by omega), if_neg (by omega), if_neg (by omega), if_neg (by omega), if_neg (by omega), if_pos q]
    · refine sp_allOver0 hT0 (hfr.1 46 (by omega) (by omega)) (ev_pi_mk ⟨?_, hfr⟩)
      rw [hfr.2.1, if_neg (by omega), if_neg (by omega), if_neg (by omega), if_neg (by omega), if_neg (by omega), if_neg (by omega), if_neg (by omega), if_neg (by omega), if_neg (by omega), if_neg (by omega), if_neg (by omega), if_pos q]
    · refine sp_allOver1 hT0 (hfr.1 46 (by omega) (by omega)) (hfr.2.2.2 24 (by omega) (by omega) (by omega) (by omega)) (ev_pi_mk ⟨?_, hfr⟩)
      rw [hfr.2.1, if_neg (by omega), if_neg (by omega), if_neg (by omega), if_neg (by omega), if_neg (by omega), if_neg (by omega), if_neg (by omega), if_neg (by omega), if_neg (by omega), if_neg (by omega), if_pos q]
    · rw [if_neg (by omega), if_neg (by omega), if_neg (by omega), if_neg (by omega), if_neg (by omega), if_neg (by omega), if_neg (by omega), if_neg (by omega), if_neg (by omega), if_pos q]
    · rw [if_neg (by omega), if_neg (by omega), if_neg (by omega), if_neg (by omega), if_neg (by omega), if_neg (by omega), if_neg (by omega), if_neg (by omega), if_pos q]
    · rw [if_neg (by omega), if_neg (by omega), if_neg (by omega), if_neg (by omega), if_neg (by omega), if_neg (by omega), if_neg (by omega), if_pos q]
    · rw [if_neg (by omega), if_neg (by omega), if_neg (by omega), if_neg (by omega), if_neg (by omega), if_neg (by omega), if_pos q]
    · rw [if_neg (by omega), if_neg (by omega), if_neg (by omega), if_neg (by omega), if_neg (by omega), if_pos q]
    · rw [if_neg (by omega), if_neg (by omega), if_neg (by omega), if_neg (by omega), if_pos q]
    · rw [if_neg (by omega), if_neg (by omega), if_neg (by omega), if_pos q]
    · rw [if_neg (by omega), if_neg (by omega), if_pos q]
    · rw [if_neg (by omega), if_pos q]
    · rw [if_pos q]
