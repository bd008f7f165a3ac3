/-! what is foreseen -/
def m_pre (T : ev_S) (N : Nat) (r : Nat → Int) : Nat → (Nat → Int)
  | 0 => r
  | t + 1 => rup (m_wards T (m_pre T N r t) N) 0 (r 0 + ((t : Int) + 1))
def m_row (T : ev_S) (N : Nat) (r : Nat → Int) (t : Nat) : Nat → Int := m_wards T (m_pre T N r t) N
def m_seen (T : ev_S) (N : Nat) (r : Nat → Int) (i : Nat) : Nat → Int
  | 0 => -1
  | n + 1 => if m_seen T N r i n ≠ -1 then m_seen T N r i n else if m_comes T N (m_row T N r n) i then r 0 + (n : Int) else -1
theorem m_pre_0 {T : ev_S} {N : Nat} {r : Nat → Int} : ∀ t : Nat, m_pre T N r t 0 = r 0 + (t : Int)
  | 0 => by simp [m_pre]
  | t + 1 => by simp only [m_pre]; rw [rup_same]; omega
theorem m_pre_at {T : ev_S} {N : Nat} {r : Nat → Int} (hN : N ≤ 8) : ∀ (t i : Nat), i ≠ 0 → (i < 3 ∨ 27 ≤ i) → m_pre T N r t i = r i
  | 0, _, _, _ => rfl
  | t + 1, i, h0, h => by simp only [m_pre]; rw [rup_ne _ _ h0, m_wards_at N hN i h]; exact m_pre_at hN t i h0 h
theorem m_row_0 {T : ev_S} {N : Nat} {r : Nat → Int} (hN : N ≤ 8) (t : Nat) : m_row T N r t 0 = r 0 + (t : Int) := by
  unfold m_row; rw [m_wards_at N hN 0 (by omega), m_pre_0]
theorem m_row_at {T : ev_S} {N : Nat} {r : Nat → Int} (hN : N ≤ 8) (t i : Nat) (h0 : i ≠ 0) (h : i < 3 ∨ 27 ≤ i) : m_row T N r t i = r i := by
  unfold m_row; rw [m_wards_at N hN i h, m_pre_at hN t i h0 h]
theorem m_pre_ok {T : ev_S} {N : Nat} {r : Nat → Int} (hx : T 0 6 ≤ 0) (hN : N ≤ 8) (h : ∀ v, v < N → m_wok T r v) : ∀ (t v : Nat), v < N → m_wok T (m_pre T N r t) v
  | 0, v, hv => h v hv
  | t + 1, v, hv => by
    have := m_wards_ok hx hN (m_pre_ok hx hN h t) N (Nat.le_refl N) v hv
    simp only [m_pre]
    exact m_wok_cong this (rup_ne _ _ (by omega)) (rup_ne _ _ (by omega)) (rup_ne _ _ (by omega))
theorem m_row_ok {T : ev_S} {N : Nat} {r : Nat → Int} (hx : T 0 6 ≤ 0) (hN : N ≤ 8) (h : ∀ v, v < N → m_wok T r v) (t v : Nat) (hv : v < N) : m_wok T (m_row T N r t) v := m_wards_ok hx hN (m_pre_ok hx hN h t) N (Nat.le_refl N) v hv
theorem m_seen_rng {T : ev_S} {N : Nat} {r : Nat → Int} {i : Nat} : ∀ n, m_seen T N r i n = -1 ∨ (r 0 ≤ m_seen T N r i n ∧ m_seen T N r i n < r 0 + (n : Int))
  | 0 => Or.inl rfl
  | n + 1 => by
    have ih := m_seen_rng (T := T) (N := N) (r := r) (i := i) n
    simp only [m_seen]
    split
    · rcases ih with ih | ih
      · exact Or.inl ih
      · right; omega
    · split
      · right; omega
      · exact Or.inl rfl
/-- behind the last second nothing more is seen -/
theorem m_seen_stop {T : ev_S} {N : Nat} {r : Nat → Int} {i n : Nat} (hN : N ≤ 8) (h : ∀ t : Nat, n ≤ t → m_comes T N (m_row T N r t) i = false) : ∀ m, m_seen T N r i (n + m) = m_seen T N r i n
  | 0 => rfl
  | m + 1 => by
    have ih := m_seen_stop (m := m) hN h
    show m_seen T N r i ((n + m) + 1) = _
    simp only [m_seen]
    rw [h (n + m) (by omega), ih]
    split
    · rfl
    · simp only [Bool.false_eq_true, if_false]
      rename_i q
      exact (Classical.not_not.mp q).symm
theorem m_comes_late {T : ev_S} {N i : Nat} {r : Nat → Int} (h : r (57 + i) = 0 → T 24 (7 * i + 3) < r 0) : m_comes T N r i = false := by
  refine decide_eq_false (fun q => ?_)
  have := h q.1
  omega
theorem tl_row {T T' : ev_S} (h : tl T T') (N : Nat) (r : Nat → Int) : ∀ t, m_pre T' N r t = m_pre T N r t
  | 0 => rfl
  | t + 1 => by simp only [m_pre]; rw [tl_row h N r t, tl_wards h]
theorem tl_seen {T T' : ev_S} (h : tl T T') (N : Nat) (r : Nat → Int) (i : Nat) : ∀ n, m_seen T' N r i n = m_seen T N r i n
  | 0 => rfl
  | n + 1 => by
    have e : m_row T' N r n = m_row T N r n := by unfold m_row; rw [tl_row h, tl_wards h]
    simp only [m_seen]; rw [tl_seen h N r i n, tl_comes h, e]
theorem sp_foresees {d N A NO MI : Nat} {s : ev_S} {Q : Option ev_V → ev_S → Prop} (hT : m_tok s N A NO MI) (h5 : s 0 5 = 0) (h0 : 0 ≤ s 1 0 ∧ s 1 0 ≤ 600) (hw : ∀ v, v < N → m_wok s (s 1) v)
    (h : ∀ s', (∀ i, i < 10 → s' 30 i = if i < MI then m_seen s N (s 1) i (600 - s 1 0).toNat else -1) → (∀ c, c ≠ 30 → c ≠ 3 → s' c = s c) → Q none s') : Ev layM M_X12_foresees (d + 4) 0 [(0, ev_r 0)] [] s Q := by
  obtain ⟨hdim, ⟨hN, hN8⟩, -, -, ⟨hM, hM10⟩, -, -, -, hmok, -⟩ := hT
  refine wp_X12_foresees_0 ?_
  -- the state within the thought: c 0 but for place 5, c 1, c 3, c 30 differ from s
  have main : ∀ (n t : Nat) (s1 : ev_S), (t : Int) + (n : Int) = 600 - s 1 0 → s1 1 = m_pre s N (s 1) t → (∀ i, i < 10 → s1 30 i = if i < MI then m_seen s N (s 1) i t else -1) → s1 3 = cpyn (s 1) (s 3) 87 → (∀ i, i ≠ 5 → s1 0 i = s 0 i) → (∀ c, c ≠ 0 → c ≠ 1 → c ≠ 3 → c ≠ 30 → s1 c = s c) → Ev layM M_X12_foresees (d + 4) 25 [(0, ev_r 0)] [] s1 Q := by
    intro n
    induction n with
    | zero =>
      intro t s1 ht g1 g30 g3 g0 gf
      have e0 : s1 1 0 = 600 := by rw [g1, m_pre_0]; omega
      refine wp_X12_foresees_25 ⟨fun _ => sp_endsThought (h _ ?_ ?_), fun c => absurd c (by omega)⟩
      · intro i hi
        rw [ev_upj _ _ (by omega), ev_set_ne _ _ (by omega), g30 i hi, show (600 - s 1 0).toNat = t by omega]
      · intro c c30 c3
        by_cases e1 : c = 1
        · subst e1
          rw [ev_upj _ _ (by omega), ev_set_same, g3, g1]
          funext i
          simp only [cpyn]
          by_cases q : i < 87
          · rw [if_pos q, if_pos q]
          · rw [if_neg q]; exact m_pre_at hN8 t i (by omega) (by omega)
        · by_cases e0' : c = 0
          · subst e0'
            funext i
            by_cases q : i = 5
            · subst q; rw [ev_up_same, h5]
            · rw [ev_up_ne _ _ (by omega), ev_set_ne _ _ (by omega)]; exact g0 i q
          · rw [ev_upj _ _ e0', ev_set_ne _ _ e1]; exact gf c e0' e1 c3 c30
    | succ n ih =>
      intro t s1 ht g1 g30 g3 g0 gf
      have htl : tl s s1 := tl_of (fun i hi => g0 i (by omega)) (fun c hc => gf c (by omega) (by omega) (by omega) (by omega))
      have e0 : s1 1 0 = s 1 0 + (t : Int) := by rw [g1, m_pre_0]
      have e10 : s1 0 10 = (N : Int) := by rw [g0 10 (by omega)]; exact hN
      refine wp_X12_foresees_25 ⟨fun c => absurd c (by omega), fun _ => sp_wardsGoOn e10 hN8 (by rw [tl_dim htl]; exact hdim) (fun v hv => by rw [tl_wok htl, g1]; exact m_pre_ok hdim.1.2 hN8 hw t v hv) ?_⟩
      rw [tl_wards htl, g1]
      -- over the mishaps
      have inner : ∀ (m i : Nat) (s2 : ev_S), i + m = MI → s2 1 = m_row s N (s 1) t → (∀ j, j < 10 → s2 30 j = if j < MI then m_seen s N (s 1) j (if j < i then t + 1 else t) else -1) → s2 3 = cpyn (s 1) (s 3) 87 → (∀ j, j ≠ 5 → s2 0 j = s 0 j) → (∀ c, c ≠ 0 → c ≠ 1 → c ≠ 3 → c ≠ 30 → s2 c = s c) → Ev layM M_X12_foresees (d + 4) 43 [(0, ev_r 0), (1, ev_i (i : Int))] [] s2 Q := by
        intro m
        induction m with
        | zero =>
          intro i s2 hi f1 f30 f3 f0 ff
          have e46 : s2 0 46 = (MI : Int) := by rw [f0 46 (by omega)]; exact hM
          have e1 : s2 1 0 = s 1 0 + (t : Int) := by rw [f1, m_row_0 hN8]
          refine wp_X12_foresees_43 ⟨fun _ => ?_, fun c => absurd c (by omega)⟩
          rw [e1, ev_add_eq ⟨by omega, by omega⟩]
          rintro _ rfl
          refine ih (t + 1) _ (by omega) ?_ ?_ ?_ ?_ ?_
          · rw [ev_up_set, ev_set_same, f1]
            show rup (m_row s N (s 1) t) 0 (s 1 0 + (t : Int) + 1) = rup (m_row s N (s 1) t) 0 (s 1 0 + ((t : Int) + 1))
            rw [Int.add_assoc]
          · intro j hj
            rw [ev_upj _ _ (by omega), f30 j hj]
            by_cases q : j < MI
            · rw [if_pos q, if_pos q, if_pos (by omega)]
            · rw [if_neg q, if_neg q]
          · rw [ev_upj _ _ (by omega)]; exact f3
          · intro j hj; rw [ev_upj _ _ (by omega)]; exact f0 j hj
          · intro c c0 c1 c3 c30; rw [ev_upj _ _ c1]; exact ff c c0 c1 c3 c30
        | succ m ihm =>
          intro i s2 hi f1 f30 f3 f0 ff
          have e46 : s2 0 46 = (MI : Int) := by rw [f0 46 (by omega)]; exact hM
          have e10' : s2 0 10 = (N : Int) := by rw [f0 10 (by omega)]; exact hN
          have e1 : s2 1 0 = s 1 0 + (t : Int) := by rw [f1, m_row_0 hN8]
          have e30 : s2 30 i = m_seen s N (s 1) i t := by rw [f30 i (by omega), if_pos (by omega), if_neg (by omega)]
          have htl2 : tl s s2 := tl_of (fun j hj => f0 j (by omega)) (fun c hc => ff c (by omega) (by omega) (by omega) (by omega))
          obtain ⟨-, -, -, ⟨q1, q2⟩, -⟩ := hmok i (by omega)
          have nx : ∀ s3 : ev_S, s3 1 = s2 1 → s3 3 = s2 3 → s3 0 = s2 0 → (∀ c, c ≠ 0 → c ≠ 1 → c ≠ 3 → c ≠ 30 → s3 c = s2 c) → s3 30 i = m_seen s N (s 1) i (t + 1) → (∀ j, j ≠ i → s3 30 j = s2 30 j) → Ev layM M_X12_foresees (d + 4) 43 [(0, ev_r 0), (1, ev_i ((i : Int) + 1))] [] s3 Q := by
            intro s3 k1 k3 k0 kf k30 kj
            refine ihm (i + 1) s3 (by omega) (by rw [k1]; exact f1) ?_ (by rw [k3]; exact f3) (by rw [k0]; exact f0) (fun c c0 c1 c3 c30 => by rw [kf c c0 c1 c3 c30]; exact ff c c0 c1 c3 c30)
            intro j hj
            by_cases e : j = i
            · subst e; rw [k30, if_pos (by omega), if_pos (by omega)]
            · rw [kj j e, f30 j hj]
              by_cases q : j < MI
              · rw [if_pos q, if_pos q]
                by_cases q2 : j < i
                · rw [if_pos q2, if_pos (by omega)]
                · rw [if_neg q2, if_neg (by omega)]
              · rw [if_neg q, if_neg q]
          refine wp_X12_foresees_43 ⟨fun c => absurd c (by omega), fun _ => ?_⟩
          rw [Int.toNat_natCast, e30, ev_add_eq (x := (i : Int)) (y := 1) ⟨by omega, by omega⟩]
          refine ⟨by omega, fun c => nx s2 rfl rfl rfl (fun _ _ _ _ _ => rfl) (by simp only [m_seen]; rw [if_pos c]; exact e30) (fun _ _ => rfl), fun c => ?_⟩
          refine sp_doesCome e10' hN8 (by omega) ?_ (ev_pi_mk ?_)
          · rw [ff 24 (by omega) (by omega) (by omega) (by omega)]; omega
          rw [tl_comes htl2, f1]
          by_cases c2 : m_comes s N (m_row s N (s 1) t) i = true
          · rw [if_pos c2]
            refine ⟨fun q => absurd q (by omega), fun _ => ⟨by omega, ?_⟩⟩
            rw [m_row_0 hN8]
            rintro _ rfl
            refine nx _ (ev_upj _ _ (by omega)) (ev_upj _ _ (by omega)) (ev_upj _ _ (by omega)) (fun c c0 c1 c3 c30 => ev_upj _ _ c30) ?_ (fun j hj => ev_up_ne _ _ (by omega))
            rw [ev_up_same]; simp only [m_seen]; rw [if_neg (fun z => z c), if_pos c2]
          · rw [if_neg c2]
            refine ⟨fun _ => nx s2 rfl rfl rfl (fun _ _ _ _ _ => rfl) ?_ (fun _ _ => rfl), fun q => absurd rfl q⟩
            simp only [m_seen]; rw [if_neg (fun z => z c), if_neg c2]; rw [e30]; exact c
      refine inner MI 0 _ (by omega) (by rw [ev_set_same]; rfl) ?_ (by rw [ev_set_ne _ _ (by omega)]; exact g3) (by intro j hj; rw [ev_set_ne _ _ (by omega)]; exact g0 j hj) (fun c c0 c1 c3 c30 => by rw [ev_set_ne _ _ c1]; exact gf c c0 c1 c3 c30)
      intro j hj
      rw [ev_set_ne _ _ (by omega), g30 j hj, if_neg (show ¬ j < 0 by omega)]
  -- nothing is seen yet
  have start : ∀ (n i : Nat) (s1 : ev_S), i + n = 10 → (∀ j, j < i → s1 30 j = -1) → (∀ c, c ≠ 30 → s1 c = s c) → Ev layM M_X12_foresees (d + 4) 2 [(0, ev_r 0), (1, ev_i (i : Int))] [] s1 Q := by
    intro n
    induction n with
    | zero =>
      intro i s1 hi g30 gf
      have e1 : s1 1 = s 1 := gf 1 (by omega)
      refine wp_X12_foresees_2 ⟨fun _ => sp_thinks ?_, fun c => absurd c (by omega)⟩
      refine main (600 - s 1 0).toNat 0 _ (by omega) ?_ ?_ ?_ ?_ ?_
      · rw [ev_upj _ _ (by omega), ev_set_ne _ _ (by omega)]; exact e1
      · intro j hj
        rw [ev_upj _ _ (by omega), ev_set_ne _ _ (by omega), g30 j (by omega)]
        simp [m_seen]
      · rw [ev_upj _ _ (by omega), ev_set_same, e1, gf 3 (by omega)]
      · intro j hj
        rw [ev_up_ne _ _ (by omega), ev_set_ne _ _ (by omega), gf 0 (by omega)]
      · intro c c0 c1 c3 c30
        rw [ev_upj _ _ c0, ev_set_ne _ _ c3]; exact gf c c30
    | succ n ih =>
      intro i s1 hi g30 gf
      refine wp_X12_foresees_2 ⟨fun c => absurd c (by omega), fun _ => ⟨by omega, ?_⟩⟩
      rintro _ rfl
      rw [Int.toNat_natCast, ev_add_eq ⟨by omega, by omega⟩]
      refine ih (i + 1) _ (by omega) (fun j hj => ?_) (fun c hc => by rw [ev_upj _ _ hc]; exact gf c hc)
      by_cases e : j = i
      · subst e; exact ev_up_same _ _ _ _
      · rw [ev_up_ne _ _ (by omega)]; exact g30 j (by omega)
  exact start 10 0 s (by omega) (fun j hj => absurd hj (by omega)) (fun _ _ => rfl)
