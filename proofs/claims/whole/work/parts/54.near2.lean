/-! NEAR: the model's whole, the class's walk and meet -/
def m_nearV (T : ev_S) (r : Nat → Int) (a b : Nat) : Int × Int := m_nearF T r a b (600 - r 0).toNat 0 61
theorem sp_mnear45 {d N A NO MI a b : Nat} {s0 : ev_S} {what : Int} {Q : Option ev_V → ev_S → Prop} (hT : m_tok s0 N A NO MI) (h5 : s0 0 5 = 0) (h0 : 0 ≤ s0 1 0 ∧ s0 1 0 ≤ 600) (hw : ∀ v, v < N → m_wok s0 (s0 1) v ∧ s0 1 (11 + v) ≤ 99) (ha : a < N) (hb : b < N) (hab : a ≠ b)
    (h : ∀ s', (∀ i, i ≠ 0 → i ≠ 59 → s' 0 i = s0 0 i) → s' 1 = s0 1 → (∀ c, c ≠ 0 → c ≠ 1 → c ≠ 3 → s' c = s0 c) → Q (some (ev_i (if what = 0 then (m_nearV s0 (s0 1) a b).1 else (m_nearV s0 (s0 1) a b).2))) s') :
    ∀ (k n : Nat) (s : ev_S), n + k = 61 → m_nearF s0 (s0 1) a b (600 - s0 1 0).toNat n k = m_nearV s0 (s0 1) a b → s 1 = s0 1 → (∀ i, i < 87 → s 3 i = s0 1 i) → (∀ i, i ≠ 0 → i ≠ 59 → i ≠ 5 → s 0 i = s0 0 i) → (∀ c, c ≠ 0 → c ≠ 1 → c ≠ 3 → s c = s0 c) → Ev layM M_X12_near (d + 4) 45 [(0, ev_r 0), (1, ev_i (a : Int)), (2, ev_i (b : Int)), (3, ev_i what), (4, ev_i (n : Int))] [] s Q := by
  have fin : ∀ (s : ev_S) (n : Nat), s 1 = s0 1 → (∀ i, i < 87 → s 3 i = s0 1 i) → (∀ i, i ≠ 0 → i ≠ 59 → i ≠ 5 → s 0 i = s0 0 i) → (∀ c, c ≠ 0 → c ≠ 1 → c ≠ 3 → s c = s0 c) → ((n ≤ 60 ∧ m_nearV s0 (s0 1) a b = ((n : Int), s 0 59)) ∨ (60 < n ∧ m_nearV s0 (s0 1) a b = (-1, -1))) → Ev layM M_X12_near (d + 4) 72 [(0, ev_r 0), (3, ev_i what), (4, ev_i (n : Int))] [] s Q := by
    intro s n g1 g3 g0 gf hv
    refine wp_X12_near_72 (sp_endsThought ?_)
    have hq := h (ev_up (ev_set s 1 (cpyn (s 3) (s 1) 87)) 0 5 0) ?_ ?_ ?_
    · have e59 : ev_up (ev_set s 1 (cpyn (s 3) (s 1) 87)) 0 5 0 0 59 = s 0 59 := by rw [ev_up_ne _ _ (by omega), ev_set_ne _ _ (by omega)]
      rw [e59]
      rcases hv with ⟨v1, v2⟩ | ⟨v1, v2⟩
      · rw [v2] at hq
        refine ⟨fun _ => ⟨fun c => ?_, fun c => ?_⟩, fun c => absurd c (by omega)⟩
        · rw [if_neg c] at hq; exact hq
        · rw [if_pos c] at hq; exact hq
      · rw [v2] at hq
        refine ⟨fun c => absurd c (by omega), fun _ => ?_⟩
        by_cases c : what = 0
        · rw [if_pos c] at hq; exact hq
        · rw [if_neg c] at hq; exact hq
    · intro i i0 i59
      by_cases q : i = 5
      · subst q; rw [ev_up_same, h5]
      · rw [ev_up_ne _ _ (by omega), ev_set_ne _ _ (by omega)]; exact g0 i i0 i59 q
    · rw [ev_upj _ _ (by omega), ev_set_same]
      funext i
      simp only [cpyn]
      by_cases q : i < 87
      · rw [if_pos q]; exact g3 i q
      · rw [if_neg q, g1]
    · intro c c0 c1 c3; rw [ev_upj _ _ c0, ev_set_ne _ _ c1]; exact gf c c0 c1 c3
  intro k
  induction k with
  | zero =>
    intro n s hn hv g1 g3 g0 gf
    refine wp_X12_near_45 ⟨fun _ => fin s n g1 g3 g0 gf (Or.inr ⟨by omega, hv.symm⟩), fun c => absurd c (by omega)⟩
  | succ k ih =>
    intro n s hn hv g1 g3 g0 gf
    have htl : tl s0 s := tl_of (fun i hi => g0 i (by omega) (by omega) (by omega)) (fun c hc => gf c (by omega) (by omega) (by omega))
    refine wp_X12_near_45 ⟨fun c => absurd c (by omega), fun _ => ?_⟩
    rw [ev_add_eq (x := (n : Int)) (y := 1) ⟨by omega, by omega⟩]
    refine sp_doMeet (s0 := s0) (r := s0 1) hT h0 hw ha hb hab (by omega) htl g1 g3 (fun s' k1 k0 k59 kf => ev_pi_mk ?_)
    have j3 : ∀ i, i < 87 → s' 3 i = s0 1 i := fun i hi => by rw [kf 3 (by omega) (by omega)]; exact g3 i hi
    have j0 : ∀ i, i ≠ 0 → i ≠ 59 → i ≠ 5 → s' 0 i = s0 0 i := fun i i0 i59 i5 => by rw [k0 i i59]; exact g0 i i0 i59 i5
    have jf : ∀ c, c ≠ 0 → c ≠ 1 → c ≠ 3 → s' c = s0 c := fun c c0 c1 c3 => by rw [kf c c0 c1]; exact gf c c0 c1 c3
    simp only [m_nearF] at hv
    by_cases c : m_met s0 (s0 1) a b n (600 - s0 1 0).toNat = -1
    · rw [if_pos c]
      rw [if_neg (fun z => z c)] at hv
      exact ⟨fun q => absurd rfl q, fun _ => ih (n + 1) s' (by omega) hv k1 j3 j0 jf⟩
    · rw [if_neg c]
      rw [if_pos c] at hv
      refine ⟨fun _ => fin s' n k1 j3 j0 jf (Or.inl ⟨by omega, ?_⟩), fun q => absurd q (by omega)⟩
      rw [← hv, k59]
theorem sp_mnear {d N A NO MI : Nat} {s : ev_S} {a b what : Int} {Q : Option ev_V → ev_S → Prop} (hT : m_tok s N A NO MI) (h5 : s 0 5 = 0) (h0 : 0 ≤ s 1 0 ∧ s 1 0 ≤ 600) (hw : ∀ v, v < N → m_wok s (s 1) v ∧ s 1 (11 + v) ≤ 99)
    (h : ∀ s', (∀ i, i ≠ 0 → i ≠ 59 → s' 0 i = s 0 i) → s' 1 = s 1 → (∀ c, c ≠ 0 → c ≠ 1 → c ≠ 3 → s' c = s c) → Q (some (ev_i (if (0 ≤ a ∧ a < (N : Int)) ∧ (0 ≤ b ∧ b < (N : Int)) ∧ a ≠ b ∧ (what = 0 ∨ what = 1) then (if what = 0 then (m_nearV s (s 1) a.toNat b.toNat).1 else (m_nearV s (s 1) a.toNat b.toNat).2) else -1))) s') : Ev layM M_X12_near (d + 4) 0 [(0, ev_r 0), (1, ev_i a), (2, ev_i b), (3, ev_i what)] [] s Q := by
  have hN := hT.2.1.1
  refine wp_X12_near_0 ?_
  rintro _ rfl
  have no : ¬ ((0 ≤ a ∧ a < (N : Int)) ∧ (0 ≤ b ∧ b < (N : Int)) ∧ a ≠ b ∧ (what = 0 ∨ what = 1)) → Q (some (ev_i (-1))) (ev_up s 0 0 0) := by
    intro q
    have hq := h (ev_up s 0 0 0) (fun i i0 _ => ev_up_ne _ _ (by omega)) (ev_upj _ _ (by omega)) (fun c c0 _ _ => ev_upj _ _ c0)
    rw [if_neg q] at hq; exact hq
  have e10 : ev_up s 0 0 0 0 10 = (N : Int) := by rw [ev_up_ne _ _ (by omega)]; exact hN
  refine sp_isWard (ev_pi_mk ?_)
  rw [e10]
  by_cases c1 : 0 ≤ a ∧ a < (N : Int)
  · rw [if_pos c1]
    refine ⟨fun q => absurd q (by omega), fun _ => sp_isWard (ev_pi_mk ?_)⟩
    rw [e10]
    by_cases c2 : 0 ≤ b ∧ b < (N : Int)
    · rw [if_pos c2]
      refine ⟨fun q => absurd q (by omega), fun _ => ⟨fun c3 => no (fun q => q.2.2.1 c3), fun c3 => sp_isIn (ev_pi_mk ?_)⟩⟩
      by_cases c4 : 0 ≤ what ∧ what ≤ 1
      · rw [if_pos c4]
        refine ⟨fun _ => sp_thinks ?_, fun q => absurd q (by omega)⟩
        obtain ⟨a', rfl⟩ := Int.eq_ofNat_of_zero_le c1.1
        obtain ⟨b', rfl⟩ := Int.eq_ofNat_of_zero_le c2.1
        refine sp_mnear45 (s0 := s) hT h5 h0 hw (by omega) (by omega) (by omega) (fun s' k0 k1 kf => ?_) 61 0 _ (by omega) rfl ?_ ?_ ?_ ?_
        · have hq := h s' k0 k1 kf
          rw [if_pos ⟨c1, c2, c3, by omega⟩] at hq
          exact hq
        · rw [ev_upj _ _ (by omega), ev_set_ne _ _ (by omega), ev_upj _ _ (by omega)]
        · intro i hi
          rw [ev_upj _ _ (by omega), ev_set_same]
          simp only [cpyn]
          rw [if_pos hi, ev_upj _ _ (by omega)]
        · intro i i0 i59 i5
          rw [ev_up_ne _ _ (by omega), ev_set_ne _ _ (by omega), ev_up_ne _ _ (by omega)]
        · intro c c0 c1 c3
          rw [ev_upj _ _ c0, ev_set_ne _ _ c3, ev_upj _ _ c0]
      · rw [if_neg c4]
        exact ⟨fun q => absurd rfl q, fun _ => no (fun q => by have := q.2.2.2; omega)⟩
    · rw [if_neg c2]
      exact ⟨fun _ => no (fun q => c2 q.2.1), fun q => absurd rfl q⟩
  · rw [if_neg c1]
    exact ⟨fun _ => no (fun q => c1 q.1), fun q => absurd rfl q⟩
/-- the class walks two wards to the end -/
theorem sp_walk {d N A NO MI a b : Nat} {s T : ev_S} {r : Nat → Int} {Q : Option ev_V → ev_S → Prop} (hT : m_tok T N A NO MI) (h0 : 0 ≤ r 0 ∧ r 0 ≤ 600) (hw : ∀ v, v < N → m_wok T r v) (ha : a < N) (hb : b < N) (hXT : XT s 1 T) (hC : XC s 15 r)
    (h : ∀ s', (∀ j, j < (600 - r 0).toNat → s' 160 j = m_wit T a r (j + 1) (3 + a) ∧ s' 161 j = m_wit T b r (j + 1) (3 + b)) → (∀ c, (c < 147 ∨ 158 < c) → c ≠ 160 → c ≠ 161 → s' c = s c) → Q (some (ev_i (600 - r 0))) s') : Ev layX M_X3_walk (d + 3) 0 [(0, ev_r 146), (1, ev_i (a : Int)), (2, ev_i (b : Int))] [] s Q := by
  have hT0 := hT
  obtain ⟨hdim, ⟨hN, hN8⟩, -⟩ := hT
  refine wp_X3_walk_0 (sp_copyFrom is_X2_147 is_X2_15 (by omega) hC (fun s1 hC1 hf1 => ?_))
  have e15 : s1 15 0 = r 0 := by rw [hf1 15 (by omega)]; exact hC.1.1
  rw [e15, ev_sub_eq ⟨by omega, by omega⟩, Int.min_eq_left (by omega)]
  have main : ∀ (n t : Nat) (s2 : ev_S), t + n = (600 - r 0).toNat → XW s2 147 (m_pre T N r t) → (∀ j, j < t → s2 160 j = m_wit T a r (j + 1) (3 + a) ∧ s2 161 j = m_wit T b r (j + 1) (3 + b)) → (∀ c, (c < 147 ∨ 158 < c) → c ≠ 160 → c ≠ 161 → s2 c = s c) → Ev layX M_X3_walk (d + 3) 32 [(0, ev_r 146), (1, ev_i (a : Int)), (2, ev_i (b : Int)), (3, ev_i (600 - r 0)), (4, ev_i (t : Int))] [] s2 Q := by
    intro n
    induction n with
    | zero =>
      intro t s2 ht gW gT gf
      exact wp_X3_walk_32 ⟨fun _ => h s2 (fun j hj => gT j (by omega)) gf, fun c => absurd c (by omega)⟩
    | succ n ih =>
      intro t s2 ht gW gT gf
      have hXT2 : XT s2 1 T := XT_keep hXT (fun c h1 h2 => gf c (by omega) (by omega) (by omega))
      refine wp_X3_walk_32 ⟨fun c => absurd c (by omega), fun _ => ?_⟩
      refine sp_moveWards is_X2_147 (by omega) hN hN8 hdim (m_pre_ok hdim.1.2 hN8 hw t) hXT2 gW (fun s3 zW zf => ?_)
      rw [Int.toNat_natCast, Int.toNat_natCast, Int.toNat_natCast, ev_add_eq (x := (t : Int)) (y := 1) ⟨by omega, by omega⟩]
      have pa : s3 148 a = m_wit T a r (t + 1) (3 + a) := by rw [show s3 148 a = m_row T N r t (3 + a) from (zW a (by omega)).1]; exact m_row_wit hN8 ha t
      have pb : s3 148 b = m_wit T b r (t + 1) (3 + b) := by rw [show s3 148 b = m_row T N r t (3 + b) from (zW b (by omega)).1]; exact m_row_wit hN8 hb t
      rw [pa]
      refine ⟨by omega, by omega, ?_⟩
      rintro _ rfl
      rw [ev_up_ne (k := 160) (a := 148) _ _ (by omega), pb]
      refine ⟨by omega, by omega, ?_⟩
      rintro _ rfl
      refine ih (t + 1) _ (by omega) ?_ ?_ ?_
      · intro w hw8
        obtain ⟨v1, v2, v3⟩ := zW w hw8
        simp only [m_pre]
        rw [ev_upj _ _ (by omega), ev_upj _ _ (by omega), ev_upj _ _ (by omega), ev_upj _ _ (by omega), ev_upj _ _ (by omega), ev_upj _ _ (by omega), rup_ne _ _ (by omega), rup_ne _ _ (by omega), rup_ne _ _ (by omega)]
        exact ⟨v1, v2, v3⟩
      · intro j hj
        by_cases e : j = t
        · subst e
          exact ⟨by rw [ev_up_ne _ _ (by omega), ev_up_same], ev_up_same _ _ _ _⟩
        · have q := gT j (by omega)
          rw [ev_up_ne _ _ (by omega), ev_up_ne _ _ (by omega), ev_up_ne _ _ (by omega), ev_up_ne _ _ (by omega), zf 160 (by omega) (by omega) (by omega), zf 161 (by omega) (by omega) (by omega)]
          exact q
      · intro c c1 c160 c161
        rw [ev_upj _ _ c161, ev_upj _ _ c160, zf c (by omega) (by omega) (by omega)]; exact gf c c1 c160 c161
  exact main (600 - r 0).toNat 0 s1 (by omega) (XC_w hC1) (fun j hj => absurd hj (by omega)) (fun c c1 _ _ => hf1 c (by omega))
theorem sp_meet {d N A NO MI a b : Nat} {s T : ev_S} {r : Nat → Int} {Q : Option ev_V → ev_S → Prop} (hT : m_tok T N A NO MI) (h0 : 0 ≤ r 0 ∧ r 0 ≤ 600) (hw : ∀ v, v < N → m_wok T r v) (ha : a < N) (hb : b < N) (hXT : XT s 1 T) (hC : XC s 15 r)
    (h : ∀ s', s' 146 10 = (m_nearV T r a b).1 → s' 146 11 = (m_nearV T r a b).2 → (∀ i, i ≠ 10 → i ≠ 11 → s' 146 i = s 146 i) → (∀ c, (c < 146 ∨ 158 < c) → c ≠ 160 → c ≠ 161 → s' c = s c) → Q none s') : Ev layX M_X3_meet (d + 4) 0 [(0, ev_r 146), (1, ev_i (a : Int)), (2, ev_i (b : Int))] [] s Q := by
  have hT0 := hT
  obtain ⟨hdim, ⟨hN, hN8⟩, -⟩ := hT
  refine wp_X3_meet_0 (sp_walk hT0 h0 hw ha hb hXT hC (fun s1 hT1 hf1 => ev_pi_mk ?_))
  rintro _ rfl
  rintro _ rfl
  -- with nothing met yet, or met
  have main : ∀ (k n : Nat) (s2 : ev_S), n + k = 61 → ((s2 146 10 = -1 ∧ s2 146 11 = -1 ∧ m_nearF T r a b (600 - r 0).toNat n k = m_nearV T r a b) ∨ (s2 146 10 ≠ -1 ∧ m_nearV T r a b = (s2 146 10, s2 146 11))) → (∀ i, i ≠ 10 → i ≠ 11 → s2 146 i = s1 146 i) → (∀ c, c ≠ 146 → s2 c = s1 c) → Ev layX M_X3_meet (d + 4) 20 [(0, ev_r 146), (1, ev_i (a : Int)), (3, ev_i (600 - r 0)), (4, ev_i (n : Int))] [] s2 Q := by
    have fin : ∀ s2 : ev_S, m_nearV T r a b = (s2 146 10, s2 146 11) → (∀ i, i ≠ 10 → i ≠ 11 → s2 146 i = s1 146 i) → (∀ c, c ≠ 146 → s2 c = s1 c) → Q none s2 := by
      intro s2 hv gj gf
      refine h s2 (by rw [hv]) (by rw [hv]) (fun i i1 i2 => by rw [gj i i1 i2, hf1 146 (by omega) (by omega) (by omega)]) (fun c c1 c2 c3 => by rw [gf c (by omega)]; exact hf1 c (by omega) c2 c3)
    intro k
    induction k with
    | zero =>
      intro n s2 hn hst gj gf
      refine wp_X3_meet_20 ⟨fun _ => fin s2 ?_ gj gf, fun c => absurd c (by omega)⟩
      rcases hst with ⟨q1, q2, q3⟩ | ⟨q1, q2⟩
      · rw [← q3, q1, q2]; rfl
      · exact q2
    | succ k ih =>
      intro n s2 hn hst gj gf
      refine wp_X3_meet_20 ⟨fun c => absurd c (by omega), fun _ => ⟨fun c => fin s2 ?_ gj gf, fun c => ?_⟩⟩
      · rcases hst with ⟨q1, -, -⟩ | ⟨-, q2⟩
        · exact absurd q1 c
        · exact q2
      · obtain ⟨-, q2, q3⟩ : s2 146 10 = -1 ∧ s2 146 11 = -1 ∧ m_nearF T r a b (600 - r 0).toNat n (k + 1) = m_nearV T r a b := by
          rcases hst with q | ⟨q, -⟩
          · exact q
          · exact absurd c q
        simp only [m_nearF] at q3
        have inner : ∀ (m t : Nat) (s3 : ev_S), t + m = (600 - r 0).toNat → ((s3 146 10 = -1 ∧ s3 146 11 = -1 ∧ m_met T r a b n t = -1) ∨ (s3 146 10 = (n : Int) ∧ s3 146 11 = m_met T r a b n t ∧ m_met T r a b n t ≠ -1)) → (∀ i, i ≠ 10 → i ≠ 11 → s3 146 i = s1 146 i) → (∀ c, c ≠ 146 → s3 c = s1 c) → Ev layX M_X3_meet (d + 4) 38 [(0, ev_r 146), (1, ev_i (a : Int)), (3, ev_i (600 - r 0)), (4, ev_i (n : Int)), (5, ev_i (t : Int))] [] s3 Q := by
          have out : ∀ s3 : ev_S, ((s3 146 10 = -1 ∧ s3 146 11 = -1 ∧ m_met T r a b n (600 - r 0).toNat = -1) ∨ (s3 146 10 = (n : Int) ∧ s3 146 11 = m_met T r a b n (600 - r 0).toNat ∧ m_met T r a b n (600 - r 0).toNat ≠ -1)) → (∀ i, i ≠ 10 → i ≠ 11 → s3 146 i = s1 146 i) → (∀ c, c ≠ 146 → s3 c = s1 c) → Ev layX M_X3_meet (d + 4) 20 [(0, ev_r 146), (1, ev_i (a : Int)), (3, ev_i (600 - r 0)), (4, ev_i ((n : Int) + 1))] [] s3 Q := by
            intro s3 hs kj kf
            refine ih (n + 1) s3 (by omega) ?_ kj kf
            rcases hs with ⟨p1, p2, p3⟩ | ⟨p1, p2, p3⟩
            · left
              rw [if_neg (fun z => z p3)] at q3
              exact ⟨p1, p2, q3⟩
            · right
              rw [if_pos p3] at q3
              exact ⟨by omega, by rw [← q3, p1, p2]⟩
          intro m
          induction m with
          | zero =>
            intro t s3 ht hs kj kf
            have et : t = (600 - r 0).toNat := by omega
            rw [et] at hs
            refine wp_X3_meet_38 ⟨fun _ => ?_, fun c => absurd c (by omega)⟩
            rw [ev_add_eq (x := (n : Int)) (y := 1) ⟨by omega, by omega⟩]
            exact out s3 hs kj kf
          | succ m ihm =>
            intro t s3 ht hs kj kf
            refine wp_X3_meet_38 ⟨fun c => absurd c (by omega), fun _ => ⟨fun c2 => ?_, fun c2 => ?_⟩⟩
            · rw [ev_add_eq (x := (n : Int)) (y := 1) ⟨by omega, by omega⟩]
              obtain ⟨p1, p2, p3⟩ : s3 146 10 = (n : Int) ∧ s3 146 11 = m_met T r a b n t ∧ m_met T r a b n t ≠ -1 := by
                rcases hs with ⟨q, -⟩ | q
                · exact absurd q c2
                · exact q
              have hk := m_met_keep p3 (m + 1)
              rw [show t + (m + 1) = (600 - r 0).toNat by omega] at hk
              refine out s3 (Or.inr ⟨p1, by rw [hk]; exact p2, by rw [hk]; exact p3⟩) kj kf
            · obtain ⟨p1, p2, p3⟩ : s3 146 10 = -1 ∧ s3 146 11 = -1 ∧ m_met T r a b n t = -1 := by
                rcases hs with q | ⟨q, -⟩
                · exact q
                · exact absurd c2 (by omega)
              have e161 : s3 161 t = m_wit T b r (t + 1) (3 + b) := by rw [kf 161 (by omega)]; exact (hT1 t (by omega)).2
              have e15 : s3 15 0 = r 0 := by rw [kf 15 (by omega), hf1 15 (by omega) (by omega) (by omega)]; exact hC.1.1
              have cmp : ∀ t0 : Int, t0 = m_pa T r a n t → Ev layX M_X3_meet (d + 4) 81 [(0, ev_r 146), (1, ev_i (a : Int)), (3, ev_i (600 - r 0)), (4, ev_i (n : Int)), (5, ev_i (t : Int))] [ev_i t0] s3 Q := by
                intro t0 ht0
                refine wp_X3_meet_81 ?_
                rw [Int.toNat_natCast, e161, ht0, ev_add_eq (x := (t : Int)) (y := 1) ⟨by omega, by omega⟩]
                refine ⟨by omega, fun c3 => ?_, fun c3 => ?_⟩
                · refine ihm (t + 1) s3 (by omega) (Or.inl ⟨p1, p2, ?_⟩) kj kf
                  simp only [m_met]; rw [if_neg (fun z => z p3), if_neg c3]
                · rintro _ rfl
                  rw [ev_upj _ _ (by omega), e15, ev_add_eq (x := r 0) ⟨by omega, by omega⟩]
                  rintro _ rfl
                  have hm : m_met T r a b n (t + 1) = r 0 + (t : Int) := by simp only [m_met]; rw [if_neg (fun z => z p3), if_pos c3]
                  refine ihm (t + 1) _ (by omega) (Or.inr ⟨?_, ?_, ?_⟩) ?_ ?_
                  · rw [ev_up_ne _ _ (by omega), ev_up_same]
                  · rw [ev_up_same, hm]
                  · rw [hm]; omega
                  · intro i i10 i11; rw [ev_up_ne _ _ (by omega), ev_up_ne _ _ (by omega)]; exact kj i i10 i11
                  · intro c hc; rw [ev_upj _ _ hc, ev_upj _ _ hc]; exact kf c hc
              refine ⟨fun c3 => ?_, fun c3 => ?_⟩
              · rw [ev_sub_eq (x := (t : Int)) (y := (n : Int)) ⟨by omega, by omega⟩, show Int.toNat ((t : Int) - (n : Int)) = t - n by omega]
                refine ⟨by omega, cmp _ ?_⟩
                rw [kf 160 (by omega), (hT1 (t - n) (by omega)).1]
                unfold m_pa
                rw [if_neg (by omega), show t + 1 - n = t - n + 1 by omega]
              · rw [Int.toNat_natCast]
                refine ⟨by omega, cmp _ ?_⟩
                rw [kf 16 (by omega), hf1 16 (by omega) (by omega) (by omega), show s 16 a = r (3 + a) from (hC.2.1 a (by omega)).1]
                unfold m_pa
                rw [if_pos (by omega)]
        exact inner (600 - r 0).toNat 0 s2 (by omega) (Or.inl ⟨c, q2, rfl⟩) gj gf
  refine main 61 0 _ (by omega) (Or.inl ⟨?_, ?_, rfl⟩) ?_ ?_
  · rw [ev_up_ne _ _ (by omega), ev_up_same]
  · exact ev_up_same _ _ _ _
  · intro i i10 i11; rw [ev_up_ne _ _ (by omega), ev_up_ne _ _ (by omega)]
  · intro c hc; rw [ev_upj _ _ hc, ev_upj _ _ hc]
