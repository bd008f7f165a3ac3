theorem sp_worksBy {d k j : Nat} (hk : is_X4 k) {s : ev_S} {Q : Option ev_V → ev_S → Prop} (hj : j < 16) (hl : (j : Int) < s k 5) (h : Q (some (ev_i (if s (k + 3) j = 1 then 1 else 0))) s) : Ev layX M_X4_worksBy d 0 [(0, ev_r k), (1, ev_i (j : Int))] [] s Q := by
  refine wp_X4_worksBy_0 hk ⟨fun c => absurd c (by omega), fun _ => ⟨fun c => absurd c (by omega), fun _ => ⟨by omega, ?_⟩⟩⟩
  rw [Int.toNat_natCast]
  refine ⟨fun c => ?_, fun c => ?_⟩
  · rw [if_neg c] at h; exact h
  · rw [if_pos c] at h; exact h
theorem sp_xworks {d N NO a k : Nat} {s T : ev_S} {r : Nat → Int} {kind : Int} {Q : Option ev_V → ev_S → Prop} (hk : is_X2 k) (h15 : k = 15 ∨ k = 147) (hN : T 0 10 = (N : Int)) (hN8 : N ≤ 8) (hO : T 0 12 = (NO : Int)) (hO6 : NO ≤ 6) (ha : a < 6) (haT : (a : Int) < T 0 11) (hp : 0 ≤ r (27 + a) ∧ r (27 + a) < 64) (hl : m_lok T) (hT : XT s 1 T) (hC : XC s k r)
    (h : ∀ s', (∀ c, c ≠ 145 → c ≠ 14 → s' c = s c) → Q (some (ev_i (if m_works T r N NO a kind then 1 else 0))) s') : Ev layX M_X7_works (d + 2) 0 [(0, ev_r 144), (1, ev_r k), (2, ev_i (a : Int)), (3, ev_i kind)] [] s Q := by
  have e4 : s 1 4 = (N : Int) := by rw [hT.1.2.2.2.1, hN]
  have c4 : s (k + 4) a = r (27 + a) := (hC.2.2.1 a ha).1
  have c8 : s (k + 8) a = r (51 + a) := (hC.2.2.1 a ha).2.2.2.2
  have t5 : s 5 a = T 5 a := (hT.2.2.2.1 a haT).1
  have hW : ∀ w, w < 8 → s (k + 1) w = r (3 + w) := fun w hw => (hC.2.1 w hw).1
  obtain ⟨xl5, f, xlf⟩ := hT.2.2.2.2.2.2
  refine wp_X7_works_0 hk ?_
  rw [Int.toNat_natCast, c4, hC.1.1, ev_rem_eq ⟨by omega, by omega⟩ ⟨by omega, by omega⟩, ev_div_eq ⟨by omega, by omega⟩ ⟨by omega, by omega⟩]
  refine ⟨by omega, sp_xisSpoilt hO hO6 hT (ev_pi_mk ?_)⟩
  generalize hsp : m_spoilt T (r 0) (r (27 + a)) NO = sp
  rintro _ rfl
  rw [ev_up_ne _ _ (show ¬ (k = 145 ∧ 0 = 0) by omega), hC.1.1]
  rintro _ rfl
  rintro _ rfl
  rintro _ rfl
  refine sp_howManyThere hk (N := N) (r := r) ?_ hN8 ?_ (ev_pi_mk ?_)
  · rw [ev_upj _ _ (by omega), ev_upj _ _ (by omega), ev_upj _ _ (by omega), ev_upj _ _ (by omega)]; exact e4
  · intro w hw
    rw [ev_upj _ _ (by omega), ev_upj _ _ (by omega), ev_upj _ _ (by omega), ev_upj _ _ (by omega)]; exact hW w hw
  rintro _ rfl
  have loop : ∀ (n j : Nat) (s1 : ev_S), j + n = (T 0 25).toNat → (∀ c, c ≠ 145 → c ≠ 14 → s1 c = s c) → (∀ i, i < 9 → s1 145 i = m_ask T r N a kind (r (27 + a)) sp i) → m_wk T (m_ask T r N a kind (r (27 + a)) sp) sp j n = m_works T r N NO a kind → Ev layX M_X7_works (d + 2) 128 [(0, ev_r 144), (5, ev_i (if sp then 1 else 0)), (6, ev_i (j : Int))] [] s1 Q := by
    intro n
    induction n with
    | zero =>
      intro j s1 hj hfr hq hw
      have e25 : s1 10 5 = T 0 25 := by rw [hfr 10 (by omega) (by omega)]; exact xl5
      have hz := h s1 hfr
      rw [← hw] at hz
      have hl1 := hl.1
      refine wp_X7_works_128 hk ⟨fun _ => ⟨fun c2 => ?_, fun c2 => ?_⟩, fun c2 => absurd c2 (by omega)⟩
      · have e : sp = true := by cases sp <;> simp at c2 ⊢
        subst e; simpa [m_wk] using hz
      · have e : sp = false := by cases sp <;> simp at c2 ⊢
        subst e; simpa [m_wk] using hz
    | succ n ih =>
      intro j s1 hj hfr hq hw
      have hl1 := hl.1
      have e25 : s1 10 5 = T 0 25 := by rw [hfr 10 (by omega) (by omega)]; exact xl5
      obtain ⟨⟨l1, l2, l3⟩, lty⟩ := hl.2 j (by omega)
      obtain ⟨-, -, -, x1, x2, x3, x4⟩ := xlf j (by omega)
      have en : (T 13 j).toNat + (T 14 j - T 13 j).toNat = (T 14 j).toNat := by omega
      have hmx : XLc s1 10 f (T 15) (T 16) (T 13 j).toNat (T 14 j - T 13 j).toNat := by
        intro i i1 i2
        rw [hfr 11 (by omega) (by omega)]
        exact x4 i (by omega) (by omega)
      have hop : (T 13 j).toNat < (T 13 j).toNat + (T 14 j - T 13 j).toNat → f (T 13 j).toNat ≤ 800 := by
        intro hlt
        have hm := XLc_mono hmx (fun i i1 i2 => m_lty_op _ _ _ _ (lty (by omega)) i i1 (by omega)) ((T 14 j - T 13 j).toNat - 1) ((T 13 j).toNat + 1) (by omega) (by omega)
        have hm0 := XLc_mono hmx (fun i i1 i2 => m_lty_op _ _ _ _ (lty (by omega)) i i1 (by omega)) ((T 14 j - T 13 j).toNat) (T 13 j).toNat (by omega) (by omega)
        have hl8 := (hmx ((T 13 j).toNat + (T 14 j - T 13 j).toNat - 1) (by omega) (by omega)).1
        rw [show (T 13 j).toNat + (T 14 j - T 13 j).toNat - 1 + 1 = (T 13 j).toNat + (T 14 j - T 13 j).toNat by omega] at hl8
        omega
      refine wp_X7_works_128 hk ⟨fun c2 => absurd c2 (by omega), fun _ => ?_⟩
      have fin : ∀ s2 : ev_S, (∀ c, c ≠ 10 + 4 → s2 c = s1 c) → ((if m_law T (m_ask T r N a kind (r (27 + a)) sp) j = true then (1 : Int) else 0) = 0 → Ev layX M_X7_works (d + 2) 128 [(0, ev_r 144), (5, ev_i (if sp then 1 else 0)), (6, ev_i (ev_add (j : Int) 1))] [] s2 Q) ∧ ((if m_law T (m_ask T r N a kind (r (27 + a)) sp) j = true then (1 : Int) else 0) ≠ 0 → Ev layX M_X4_worksBy (d + 1) 0 [(0, ev_r 10), (1, ev_i (j : Int))] [] s2 (ev_pi (fun r4 s3 => ((r4 = 0 ∨ r4 = 1) ∧ Q (some (ev_i r4)) s3)))) := by
        intro s2 hf2
        have hf3 : ∀ c, c ≠ 145 → c ≠ 14 → s2 c = s c := fun c c145 c14 => by rw [hf2 c (by omega)]; exact hfr c c145 c14
        have hw2 : (if m_law T (m_ask T r N a kind (r (27 + a)) sp) j then decide (T 12 j = 0) else m_wk T (m_ask T r N a kind (r (27 + a)) sp) sp (j + 1) n) = m_works T r N NO a kind := hw
        by_cases e : m_law T (m_ask T r N a kind (r (27 + a)) sp) j = true
        · rw [if_pos e] at hw2
          rw [if_pos e]
          refine ⟨fun c2 => absurd c2 (by omega), fun _ => sp_worksBy is_X4_10 (by omega) ?_ (ev_pi_mk ?_)⟩
          · rw [hf3 10 (by omega) (by omega)]; rw [xl5]; omega
          · have hz := h s2 hf3
            rw [← hw2] at hz
            rw [hf3 13 (by omega) (by omega)]
            by_cases e3 : T 12 j = 0
            · rw [if_pos (x3.mpr e3)]
              rw [decide_eq_true e3] at hz
              exact ⟨Or.inr rfl, hz⟩
            · rw [if_neg (fun q => e3 (x3.mp q))]
              rw [decide_eq_false e3] at hz
              exact ⟨Or.inl rfl, hz⟩
        · rw [if_neg e] at hw2
          rw [if_neg e]
          refine ⟨fun _ => ?_, fun c2 => absurd rfl c2⟩
          rw [ev_add_eq (x := (j : Int)) (y := 1) ⟨by omega, by omega⟩]
          exact ih (j + 1) s2 (by omega) hf3 (fun i hi => by rw [hf2 145 (by omega)]; exact hq i hi) hw2
      by_cases hlt : (T 13 j).toNat < (T 13 j).toNat + (T 14 j - T 13 j).toNat
      · refine sp_speaks (k := 10) (lf := (T 13 j).toNat) (n := (T 14 j - T 13 j).toNat) (op := T 15) (ar := T 16) (q := m_ask T r N a kind (r (27 + a)) sp) (S0 := fun _ => 0) (f := f) is_X4_10 (by omega) (by omega) (by omega) ?_ ?_ (hop hlt) hmx hq (fun hn => lty (by omega)) ?_
        · rw [hfr 12 (by omega) (by omega)]; exact x1
        · rw [hfr 12 (by omega) (by omega), en]; exact x2
        · intro s2 hf2
          exact ev_pi_mk (fin s2 hf2)
      · -- a line without a condition: its code is empty, wherever it begins
        have en0 : (T 14 j - T 13 j).toNat = 0 := by omega
        have etrue : m_law T (m_ask T r N a kind (r (27 + a)) sp) j = true := by unfold m_law m_lval; rw [if_pos en0]
        have est : s1 (10 + 2) j = s1 (10 + 2) (j + 1) := by
          rw [hfr 12 (by omega) (by omega)]
          rw [show s 12 j = (f (T 13 j).toNat : Int) from x1, show s 12 (j + 1) = (f (T 14 j).toNat : Int) from x2, show (T 13 j).toNat = (T 14 j).toNat by omega]
        refine wp_X4_speaks_0 is_X4_10 yX_145 (by omega) ⟨fun c => absurd c (by omega), fun _ => ⟨fun _ => ?_, fun c => absurd c (by omega)⟩⟩
        rw [ev_add_eq (x := (j : Int)) (y := 1) ⟨by omega, by omega⟩, show Int.toNat ((j : Int) + 1) = j + 1 by omega, Int.toNat_natCast, est]
        refine ⟨by omega, by omega, wp_X4_speaks_40 is_X4_10 yX_145 (by omega) ⟨fun _ => ⟨fun _ => ev_pi_mk ?_, fun c => absurd rfl c⟩, fun c => absurd c (by omega)⟩⟩
        have ff := fin s1 (fun _ _ => rfl)
        rw [if_pos etrue, ev_add_eq (x := (j : Int)) (y := 1) ⟨by omega, by omega⟩] at ff
        exact ff
  have tail : ∀ (t0 : Int) (s9 : ev_S), t0 = (if sp then 1 else 0) → (∀ c, c ≠ 145 → c ≠ 14 → s9 c = s c) → (∀ i, i < 5 → s9 145 i = m_ask T r N a kind (r (27 + a)) sp i) → Ev layX M_X7_works (d + 2) 87 [(0, ev_r 144), (1, ev_r k), (2, ev_i (a : Int)), (5, ev_i (if sp then 1 else 0))] [ev_i t0, ev_i 5, ev_r 145] s9 Q := by
    intro t0 s9 ht hfr hq
    refine wp_X7_works_87 hk ⟨by omega, ?_⟩
    rintro _ rfl
    rintro _ rfl
    rw [Int.toNat_natCast]
    refine ⟨by omega, ?_⟩
    rintro _ rfl
    refine ⟨by omega, ?_⟩
    rintro _ rfl
    refine loop (T 0 25).toNat 0 _ (by omega) ?_ ?_ ?_
    · intro c c145 c14
      rw [ev_upj _ _ c145, ev_upj _ _ c145, ev_upj _ _ c145, ev_upj _ _ c145]; exact hfr c c145 c14
    · intro i hi
      have r7 : s9 (k + 8) a = r (51 + a) := by rw [hfr (k + 8) (by omega) (by omega)]; exact c8
      have r8 : s9 5 a = T 5 a := by rw [hfr 5 (by omega) (by omega)]; exact t5
      by_cases e8 : i = 8
      · subst e8; rw [ev_up_same, ev_up_ne _ _ (by omega), ev_up_ne _ _ (by omega), ev_up_ne _ _ (by omega), r8]; simp [m_ask]
      by_cases e7 : i = 7
      · subst e7; rw [ev_up_ne _ _ (by omega), ev_up_same, ev_up_ne _ _ (by omega), ev_up_ne _ _ (by omega), r7]; simp [m_ask]
      by_cases e6 : i = 6
      · subst e6; rw [ev_up_ne _ _ (by omega), ev_up_ne _ _ (by omega), ev_up_same]; simp [m_ask]
      by_cases e5 : i = 5
      · subst e5; rw [ev_up_ne _ _ (by omega), ev_up_ne _ _ (by omega), ev_up_ne _ _ (by omega), show Int.toNat 5 = 5 from rfl, ev_up_same, ht]; simp [m_ask]
      rw [ev_up_ne _ _ (by omega), ev_up_ne _ _ (by omega), ev_up_ne _ _ (by omega), ev_up_ne _ _ (by omega)]
      exact hq i (by omega)
    · unfold m_works; rw [hsp]
  have hfr9 : ∀ z : Int, ∀ c, c ≠ 145 → c ≠ 14 → ev_up (ev_up (ev_up (ev_up (ev_up s 145 0 kind) 145 1 (r 0)) 145 2 (r (27 + a) % 8)) 145 3 (r (27 + a) / 8)) 145 4 z c = s c := by
    intro z c c145 _
    rw [ev_upj _ _ c145, ev_upj _ _ c145, ev_upj _ _ c145, ev_upj _ _ c145, ev_upj _ _ c145]
  have hq9 : ∀ i, i < 5 → ev_up (ev_up (ev_up (ev_up (ev_up s 145 0 kind) 145 1 (r 0)) 145 2 (r (27 + a) % 8)) 145 3 (r (27 + a) / 8)) 145 4 (m_cnt r (r (27 + a)) N : Int) 145 i = m_ask T r N a kind (r (27 + a)) sp i := by
    intro i hi
    have hv : i = 0 ∨ i = 1 ∨ i = 2 ∨ i = 3 ∨ i = 4 := by omega
    rcases hv with rfl | rfl | rfl | rfl | rfl <;> simp [ev_up, m_ask]
  refine ⟨fun c2 => ?_, fun c2 => ?_⟩
  · exact tail 0 _ c2.symm (hfr9 _) hq9
  · refine tail 1 _ ?_ (hfr9 _) hq9
    cases sp <;> simp at c2 ⊢
