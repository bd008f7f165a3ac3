/-! NEAR -/
def m_wit (T : ev_S) (w : Nat) (r : Nat → Int) : Nat → (Nat → Int)
  | 0 => r
  | t + 1 => m_ward T w (m_wit T w r t)
theorem m_wit_at {T : ev_S} {w i : Nat} {r : Nat → Int} (h1 : i ≠ 3 + w) (h2 : i ≠ 11 + w) (h3 : i ≠ 19 + w) : ∀ t, m_wit T w r t i = r i
  | 0 => rfl
  | t + 1 => by simp only [m_wit]; rw [m_ward_at h1 h2 h3]; exact m_wit_at h1 h2 h3 t
theorem m_wit_ok {T : ev_S} {w : Nat} {r : Nat → Int} (hx : T 0 6 ≤ 0) (hw : w < 8) (h : m_wok T r w) : ∀ t, m_wok T (m_wit T w r t) w
  | 0 => h
  | t + 1 => m_ward_ok hx hw hw (m_wit_ok hx hw h t) (m_wit_ok hx hw h t)
/-- one ward's going on asks of his own three numbers alone -/
theorem m_ward_own {T : ev_S} {w : Nat} {r r' : Nat → Int} (e3 : r' (3 + w) = r (3 + w)) (e11 : r' (11 + w) = r (11 + w)) (e19 : r' (19 + w) = r (19 + w)) : m_ward T w r' (3 + w) = m_ward T w r (3 + w) ∧ m_ward T w r' (11 + w) = m_ward T w r (11 + w) ∧ m_ward T w r' (19 + w) = m_ward T w r (19 + w) := by
  unfold m_ward
  rw [e3, e11, e19]
  split
  · rw [rup_ne _ _ (by omega), rup_ne _ _ (by omega), rup_same, rup_same, rup_ne _ _ (by omega), rup_ne _ _ (by omega)]; exact ⟨e3, rfl, e19⟩
  · split
    · rw [rup_ne _ _ (by omega), rup_same, rup_ne _ _ (by omega), rup_same, rup_ne _ _ (by omega), rup_ne _ _ (by omega), rup_ne _ _ (by omega), rup_ne _ _ (by omega), rup_same, rup_same]; exact ⟨rfl, e11, rfl⟩
    · exact ⟨e3, e11, e19⟩
theorem m_wit_own {T : ev_S} {w : Nat} {r r' : Nat → Int} (e3 : r' (3 + w) = r (3 + w)) (e11 : r' (11 + w) = r (11 + w)) (e19 : r' (19 + w) = r (19 + w)) : ∀ t, m_wit T w r' t (3 + w) = m_wit T w r t (3 + w) ∧ m_wit T w r' t (11 + w) = m_wit T w r t (11 + w) ∧ m_wit T w r' t (19 + w) = m_wit T w r t (19 + w)
  | 0 => ⟨e3, e11, e19⟩
  | t + 1 => by
    obtain ⟨i1, i2, i3⟩ := m_wit_own e3 e11 e19 t
    exact m_ward_own i1 i2 i3
/-- among all wards that go on, each goes on as alone -/
theorem m_wards_own {T : ev_S} {w : Nat} {r : Nat → Int} : ∀ {n : Nat}, n ≤ 8 → w < n → m_wards T r n (3 + w) = m_ward T w r (3 + w) ∧ m_wards T r n (11 + w) = m_ward T w r (11 + w) ∧ m_wards T r n (19 + w) = m_ward T w r (19 + w)
  | n + 1, hn, hw => by
    have low : ∀ m, m ≤ w → m_wards T r m (3 + w) = r (3 + w) ∧ m_wards T r m (11 + w) = r (11 + w) ∧ m_wards T r m (19 + w) = r (19 + w) := by
      intro m
      induction m with
      | zero => intro _; exact ⟨rfl, rfl, rfl⟩
      | succ m ih =>
        intro hm
        obtain ⟨i1, i2, i3⟩ := ih (by omega)
        simp only [m_wards]
        rw [m_ward_at (by omega) (by omega) (by omega), m_ward_at (by omega) (by omega) (by omega), m_ward_at (by omega) (by omega) (by omega)]
        exact ⟨i1, i2, i3⟩
    by_cases e : w = n
    · subst e
      obtain ⟨i1, i2, i3⟩ := low w (Nat.le_refl w)
      exact m_ward_own i1 i2 i3
    · obtain ⟨i1, i2, i3⟩ := m_wards_own (T := T) (r := r) (n := n) (by omega) (show w < n by omega)
      exact ⟨(m_ward_at (by omega) (by omega) (by omega)).trans i1, (m_ward_at (by omega) (by omega) (by omega)).trans i2, (m_ward_at (by omega) (by omega) (by omega)).trans i3⟩
theorem m_pre_wit {T : ev_S} {N w : Nat} {r : Nat → Int} (hN : N ≤ 8) (hw : w < N) : ∀ t, m_pre T N r t (3 + w) = m_wit T w r t (3 + w) ∧ m_pre T N r t (11 + w) = m_wit T w r t (11 + w) ∧ m_pre T N r t (19 + w) = m_wit T w r t (19 + w)
  | 0 => ⟨rfl, rfl, rfl⟩
  | t + 1 => by
    obtain ⟨i1, i2, i3⟩ := m_pre_wit (T := T) (r := r) hN hw t
    obtain ⟨j1, j2, j3⟩ := m_wards_own (T := T) (r := m_pre T N r t) hN hw
    obtain ⟨k1, k2, k3⟩ := m_ward_own (T := T) i1 i2 i3
    simp only [m_pre, m_wit]
    rw [rup_ne _ _ (by omega), rup_ne _ _ (by omega), rup_ne _ _ (by omega)]
    exact ⟨j1.trans k1, j2.trans k2, j3.trans k3⟩
theorem m_row_wit {T : ev_S} {N w : Nat} {r : Nat → Int} (hN : N ≤ 8) (hw : w < N) (t : Nat) : m_row T N r t (3 + w) = m_wit T w r (t + 1) (3 + w) := by
  have h := (m_pre_wit (T := T) (r := r) hN hw (t + 1)).1
  simp only [m_pre] at h
  rw [rup_ne _ _ (by omega)] at h
  exact h
/-- held for n seconds -/
theorem m_wit_held {T : ev_S} {w n : Nat} {r : Nat → Int} (h : 0 ≤ r (11 + w)) : ∀ k, k ≤ n → m_wit T w (rup r (11 + w) (r (11 + w) + (n : Int))) k = rup r (11 + w) (r (11 + w) + ((n : Int) - (k : Int)))
  | 0, _ => by simp [m_wit]
  | k + 1, hk => by
    simp only [m_wit]
    rw [m_wit_held h k (by omega)]
    unfold m_ward
    rw [rup_same, if_pos (by omega), rup_rup]
    congr 1; omega
theorem m_wit_add {T : ev_S} {w : Nat} {r : Nat → Int} (k : Nat) : ∀ t, m_wit T w (m_wit T w r k) t = m_wit T w r (k + t)
  | 0 => rfl
  | t + 1 => by simp only [m_wit]; rw [m_wit_add k t]; rfl
def m_pa (T : ev_S) (r : Nat → Int) (a n t : Nat) : Int := if t < n then r (3 + a) else m_wit T a r (t + 1 - n) (3 + a)
theorem m_pa_held {T : ev_S} {a n t : Nat} {r : Nat → Int} (h : 0 ≤ r (11 + a)) : m_wit T a (rup r (11 + a) (r (11 + a) + (n : Int))) (t + 1) (3 + a) = m_pa T r a n t := by
  unfold m_pa
  by_cases c : t < n
  · rw [if_pos c, m_wit_held h (t + 1) (by omega), rup_ne _ _ (by omega)]
  · rw [if_neg c]
    have e := m_wit_add (T := T) (w := a) (r := rup r (11 + a) (r (11 + a) + (n : Int))) n (t + 1 - n)
    rw [show n + (t + 1 - n) = t + 1 by omega, m_wit_held h n (Nat.le_refl n)] at e
    have e2 : rup r (11 + a) (r (11 + a) + ((n : Int) - (n : Int))) = r := rup_self (by omega)
    rw [e2] at e
    rw [e]
def m_met (T : ev_S) (r : Nat → Int) (a b n : Nat) : Nat → Int
  | 0 => -1
  | t + 1 => if m_met T r a b n t ≠ -1 then m_met T r a b n t else if m_pa T r a n t = m_wit T b r (t + 1) (3 + b) then r 0 + (t : Int) else -1
theorem m_met_keep {T : ev_S} {r : Nat → Int} {a b n t : Nat} (h : m_met T r a b n t ≠ -1) : ∀ m, m_met T r a b n (t + m) = m_met T r a b n t
  | 0 => rfl
  | m + 1 => by
    show m_met T r a b n ((t + m) + 1) = _
    simp only [m_met]
    rw [m_met_keep h m, if_pos h]
/-- the first hold from n on, with its second; k more are tried -/
def m_nearF (T : ev_S) (r : Nat → Int) (a b L : Nat) : Nat → Nat → Int × Int
  | _, 0 => (-1, -1)
  | n, k + 1 => if m_met T r a b n L ≠ -1 then ((n : Int), m_met T r a b n L) else m_nearF T r a b L (n + 1) k
theorem sp_doMeet {d N A NO MI a b n : Nat} {s0 s : ev_S} {r : Nat → Int} {Q : Option ev_V → ev_S → Prop} (hT : m_tok s0 N A NO MI) (h0 : 0 ≤ r 0 ∧ r 0 ≤ 600) (hw : ∀ v, v < N → m_wok s0 r v ∧ r (11 + v) ≤ 99) (ha : a < N) (hb : b < N) (hab : a ≠ b) (hn : n ≤ 60) (htl : tl s0 s) (h1 : s 1 = r) (h3 : ∀ i, i < 87 → s 3 i = r i)
    (h : ∀ s', s' 1 = r → (∀ i, i ≠ 59 → s' 0 i = s 0 i) → s' 0 59 = m_met s0 r a b n (600 - r 0).toNat → (∀ c, c ≠ 0 → c ≠ 1 → s' c = s c) → Q (some (ev_i (if m_met s0 r a b n (600 - r 0).toNat = -1 then 0 else 1))) s') : Ev layM M_X12_doMeet (d + 3) 0 [(0, ev_r 0), (1, ev_i (a : Int)), (2, ev_i (b : Int)), (3, ev_i (n : Int))] [] s Q := by
  obtain ⟨hdim, ⟨hN, hN8⟩, -⟩ := hT
  obtain ⟨⟨wa1, wa2, wa3, wa4, wa5, wa6⟩, wa7⟩ := hw a ha
  have wb := (hw b hb).1
  have hwr : m_wok s0 (rup r (11 + a) (r (11 + a) + (n : Int))) a := by
    refine ⟨?_, ?_, ?_, ?_, ?_, wa6⟩
    · rw [rup_ne _ _ (by omega)]; exact wa1
    · rw [rup_same]; omega
    · rw [rup_same]; omega
    · rw [rup_ne _ _ (by omega)]; exact wa4
    · rw [rup_ne _ _ (by omega)]; exact wa5
  refine wp_X12_doMeet_0 ?_
  simp (disch := omega) only [ev_add_eq (x := 11), tn_lit]
  rw [h1, ev_add_eq (x := r (11 + a)) ⟨by omega, by omega⟩]
  refine ⟨by omega, by omega, ?_⟩
  rintro _ rfl
  rintro _ rfl
  -- the end
  have fin : ∀ (s2 : ev_S) (v : Int), (∀ i, 87 ≤ i → s2 1 i = r i) → (∀ i, i ≠ 59 → s2 0 i = s 0 i) → s2 0 59 = v → (∀ c, c ≠ 0 → c ≠ 1 → s2 c = s c) → v = m_met s0 r a b n (600 - r 0).toNat → Ev layM M_X12_doMeet (d + 3) 101 [(0, ev_r 0)] [] s2 Q := by
    intro s2 v g87 g0 g59 gf hv
    refine wp_X12_doMeet_101 (sp_thinksAnew ?_)
    have e59 : ev_set s2 1 (cpyn (s2 3) (s2 1) 87) 0 59 = v := by rw [ev_set_ne _ _ (by omega)]; exact g59
    have hq := h (ev_set s2 1 (cpyn (s2 3) (s2 1) 87)) ?_ ?_ ?_ ?_
    · rw [e59]
      rw [← hv] at hq
      refine ⟨fun c => ?_, fun c => ?_⟩
      · rw [if_pos c] at hq; exact hq
      · rw [if_neg c] at hq; exact hq
    · rw [ev_set_same]
      funext i
      simp only [cpyn]
      by_cases q : i < 87
      · rw [if_pos q, gf 3 (by omega) (by omega)]; exact h3 i q
      · rw [if_neg q]; exact g87 i (by omega)
    · intro i hi; rw [ev_set_ne _ _ (by omega)]; exact g0 i hi
    · rw [e59]; exact hv
    · intro c c0 c1; rw [ev_set_ne _ _ c1]; exact gf c c0 c1
  have main : ∀ (m t : Nat) (s2 : ev_S), (t : Int) + (m : Int) = 600 - r 0 → s2 1 0 = r 0 + (t : Int) → (s2 1 (3 + a) = m_wit s0 a (rup r (11 + a) (r (11 + a) + (n : Int))) t (3 + a) ∧ s2 1 (11 + a) = m_wit s0 a (rup r (11 + a) (r (11 + a) + (n : Int))) t (11 + a) ∧ s2 1 (19 + a) = m_wit s0 a (rup r (11 + a) (r (11 + a) + (n : Int))) t (19 + a)) → (s2 1 (3 + b) = m_wit s0 b r t (3 + b) ∧ s2 1 (11 + b) = m_wit s0 b r t (11 + b) ∧ s2 1 (19 + b) = m_wit s0 b r t (19 + b)) → (∀ i, 87 ≤ i → s2 1 i = r i) → (∀ i, i ≠ 59 → s2 0 i = s 0 i) → s2 0 59 = m_met s0 r a b n t → (∀ c, c ≠ 0 → c ≠ 1 → s2 c = s c) → Ev layM M_X12_doMeet (d + 3) 25 [(0, ev_r 0), (1, ev_i (a : Int)), (2, ev_i (b : Int))] [] s2 Q := by
    intro m
    induction m with
    | zero =>
      intro t s2 ht g0 ga gb g87 gj g59 gf
      have et : t = (600 - r 0).toNat := by omega
      exact wp_X12_doMeet_25 ⟨fun _ => fin s2 _ g87 gj g59 gf (by rw [et]), fun c => absurd c (by omega)⟩
    | succ m ih =>
      intro t s2 ht g0 ga gb g87 gj g59 gf
      have htl2 : tl s0 s2 := tl_tr htl (tl_of (fun i hi => gj i (by omega)) (fun c hc => gf c (by omega) (by omega)))
      refine wp_X12_doMeet_25 ⟨fun c => absurd c (by omega), fun _ => ⟨fun c => fin s2 _ g87 gj g59 gf ?_, fun c => ?_⟩⟩
      · rw [g59] at c
        have := m_met_keep c (m + 1)
        rw [show t + (m + 1) = (600 - r 0).toNat by omega] at this
        exact this.symm
      · rw [g59] at c
        have ka := m_wit_ok hdim.1.2 (by omega) hwr t
        have kb := m_wit_ok hdim.1.2 (by omega) wb t
        have dims : -8 ≤ s2 0 6 ∧ s2 0 6 ≤ 0 := by rw [htl2.1.1]; have := hdim.1; omega
        have dims2 : -8 ≤ s2 0 7 ∧ s2 0 7 ≤ 0 := by rw [htl2.1.2.1]; have := hdim.2; omega
        have e21 : s2 21 = s0 21 := htl2.2.2.2.2.1
        refine sp_wardGoesOn (by omega) (by rw [ga.2.1]; exact ka.2.2.1) (by rw [ga.2.2]; exact ka.2.2.2.1) (by rw [e21]; exact wa6) (by rw [ga.1]; exact m_pl_64 hdim.2.2 ka.1) dims dims2 ?_
        rw [tl_ward htl2]
        have eb : ∀ i, i ≠ 3 + a → i ≠ 11 + a → i ≠ 19 + a → ev_set s2 1 (m_ward s0 a (s2 1)) 1 i = s2 1 i := fun i i1 i2 i3 => by rw [ev_set_same, m_ward_at i1 i2 i3]
        have htl3 : tl s0 (ev_set s2 1 (m_ward s0 a (s2 1))) := tl_tr htl2 (tl_of (fun i hi => by rw [ev_set_ne _ _ (by omega)]) (fun c hc => ev_set_ne _ _ (by omega)))
        refine sp_wardGoesOn (by omega) (by rw [eb _ (by omega) (by omega) (by omega), gb.2.1]; exact kb.2.2.1) (by rw [eb _ (by omega) (by omega) (by omega), gb.2.2]; exact kb.2.2.2.1) (by rw [ev_set_ne _ _ (by omega), e21]; exact wb.2.2.2.2.2) (by rw [eb _ (by omega) (by omega) (by omega), gb.1]; exact m_pl_64 hdim.2.2 kb.1) (by rw [ev_set_ne _ _ (by omega)]; exact dims) (by rw [ev_set_ne _ _ (by omega)]; exact dims2) ?_
        rw [tl_ward htl3, ev_set_set]
        simp only [ev_set_same]
        simp (disch := omega) only [ev_add_eq (x := 3), tn_lit]
        have na := m_ward_own (T := s0) ga.1 ga.2.1 ga.2.2
        have nb : m_ward s0 b (m_ward s0 a (s2 1)) (3 + b) = m_wit s0 b r (t + 1) (3 + b) ∧ m_ward s0 b (m_ward s0 a (s2 1)) (11 + b) = m_wit s0 b r (t + 1) (11 + b) ∧ m_ward s0 b (m_ward s0 a (s2 1)) (19 + b) = m_wit s0 b r (t + 1) (19 + b) := by
          refine m_ward_own ?_ ?_ ?_
          · rw [m_ward_at (by omega) (by omega) (by omega)]; exact gb.1
          · rw [m_ward_at (by omega) (by omega) (by omega)]; exact gb.2.1
          · rw [m_ward_at (by omega) (by omega) (by omega)]; exact gb.2.2
        have na3 : m_ward s0 b (m_ward s0 a (s2 1)) (3 + a) = m_wit s0 a (rup r (11 + a) (r (11 + a) + (n : Int))) (t + 1) (3 + a) := by rw [m_ward_at (by omega) (by omega) (by omega)]; exact na.1
        have na11 : m_ward s0 b (m_ward s0 a (s2 1)) (11 + a) = m_wit s0 a (rup r (11 + a) (r (11 + a) + (n : Int))) (t + 1) (11 + a) := by rw [m_ward_at (by omega) (by omega) (by omega)]; exact na.2.1
        have na19 : m_ward s0 b (m_ward s0 a (s2 1)) (19 + a) = m_wit s0 a (rup r (11 + a) (r (11 + a) + (n : Int))) (t + 1) (19 + a) := by rw [m_ward_at (by omega) (by omega) (by omega)]; exact na.2.2
        have n0 : m_ward s0 b (m_ward s0 a (s2 1)) 0 = r 0 + (t : Int) := by rw [m_ward_at (by omega) (by omega) (by omega), m_ward_at (by omega) (by omega) (by omega)]; exact g0
        have n87 : ∀ i, 87 ≤ i → m_ward s0 b (m_ward s0 a (s2 1)) i = r i := fun i hi => by rw [m_ward_at (by omega) (by omega) (by omega), m_ward_at (by omega) (by omega) (by omega)]; exact g87 i hi
        generalize hrho : m_ward s0 b (m_ward s0 a (s2 1)) = rho at *
        -- the second behind
        have nxt : ∀ (v : Int) (s3 : ev_S), s3 1 = rho → (∀ i, i ≠ 59 → s3 0 i = s 0 i) → s3 0 59 = m_met s0 r a b n (t + 1) → (∀ c, c ≠ 0 → c ≠ 1 → s3 c = s c) → Ev layM M_X12_doMeet (d + 3) 84 [(0, ev_r 0), (1, ev_i (a : Int)), (2, ev_i (b : Int))] [] s3 Q := by
          intro v s3 k1 k0 k59 kf
          refine wp_X12_doMeet_84 ?_
          rw [k1, n0, ev_add_eq ⟨by omega, by omega⟩]
          rintro _ rfl
          refine ih (t + 1) _ (by omega) ?_ ?_ ?_ ?_ ?_ ?_ ?_
          · rw [ev_up_same]; omega
          · rw [ev_up_ne _ _ (by omega), ev_up_ne _ _ (by omega), ev_up_ne _ _ (by omega), k1]; exact ⟨na3, na11, na19⟩
          · rw [ev_up_ne _ _ (by omega), ev_up_ne _ _ (by omega), ev_up_ne _ _ (by omega), k1]; exact nb
          · intro i hi; rw [ev_up_ne _ _ (by omega), k1]; exact n87 i hi
          · intro i hi; rw [ev_upj _ _ (by omega)]; exact k0 i hi
          · rw [ev_upj _ _ (by omega)]; exact k59
          · intro c c0 c1; rw [ev_upj _ _ c1]; exact kf c c0 c1
        rw [na3, nb.1, n0, m_pa_held wa2]
        refine ⟨by omega, by omega, fun c2 => ?_, fun c2 => ?_⟩
        · refine nxt 0 _ (ev_set_same _ _ _) (fun i hi => by rw [ev_set_ne _ _ (by omega)]; exact gj i hi) ?_ (fun c c0 c1 => by rw [ev_set_ne _ _ c1]; exact gf c c0 c1)
          rw [ev_set_ne _ _ (by omega), g59]
          simp only [m_met]
          rw [if_neg (fun z => z c), if_neg c2, c]
        · rintro _ rfl
          refine nxt 0 _ (by rw [ev_upj _ _ (by omega), ev_set_same]) (fun i hi => by rw [ev_up_ne _ _ (by omega), ev_set_ne _ _ (by omega)]; exact gj i hi) ?_ (fun c c0 c1 => by rw [ev_upj _ _ c0, ev_set_ne _ _ c1]; exact gf c c0 c1)
          rw [ev_up_same]
          simp only [m_met]
          rw [if_neg (fun z => z c), if_pos c2]
  refine main (600 - r 0).toNat 0 _ (by omega) ?_ ?_ ?_ ?_ ?_ ?_ ?_
  · rw [ev_upj _ _ (by omega), ev_up_ne _ _ (by omega), h1]; omega
  · rw [ev_upj _ _ (by omega)]
    refine ⟨?_, ?_, ?_⟩
    · rw [ev_up_ne _ _ (by omega), h1]; simp only [m_wit]; rw [rup_ne _ _ (by omega)]
    · rw [ev_up_same]; simp only [m_wit]; rw [rup_same]
    · rw [ev_up_ne _ _ (by omega), h1]; simp only [m_wit]; rw [rup_ne _ _ (by omega)]
  · rw [ev_upj _ _ (by omega)]
    refine ⟨?_, ?_, ?_⟩
    · rw [ev_up_ne _ _ (by omega), h1]; rfl
    · rw [ev_up_ne _ _ (by omega), h1]; rfl
    · rw [ev_up_ne _ _ (by omega), h1]; rfl
  · intro i hi; rw [ev_upj _ _ (by omega), ev_up_ne _ _ (by omega), h1]
  · intro i hi; rw [ev_up_ne _ _ (by omega), ev_upj _ _ (by omega)]
  · rw [ev_up_same]; rfl
  · intro c c0 c1; rw [ev_upj _ _ c0, ev_upj _ _ c1]
