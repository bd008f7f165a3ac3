/-! a doing -/
def m_hold (T : ev_S) (kind : Nat) (p : Int) (r : Nat → Int) : Nat → (Nat → Int)
  | 0 => r
  | n + 1 => if r (3 + n) = p then rup (m_hold T kind p r n) (11 + n) (min 99 (r (11 + n) + T 4 kind)) else m_hold T kind p r n
theorem m_hold_at {T : ev_S} {kind : Nat} {p : Int} {r : Nat → Int} : ∀ (n i : Nat), (i < 11 ∨ 11 + n ≤ i) → m_hold T kind p r n i = r i
  | 0, _, _ => rfl
  | n + 1, i, h => by
    simp only [m_hold]
    split
    · rw [rup_ne _ _ (by omega)]; exact m_hold_at n i (by omega)
    · exact m_hold_at n i (by omega)
def m_bup (B : Nat → Int) (n : Nat) (sec a kind p wk : Int) : Nat → Int := rup (rup (rup (rup (rup B (5 * n) sec) (5 * n + 1) a) (5 * n + 2) kind) (5 * n + 3) p) (5 * n + 4) wk
def m_does (T : ev_S) (N NO a kind : Nat) (z : (Nat → Int) × (Nat → Int)) : (Nat → Int) × (Nat → Int) :=
  let r := z.1
  let wk := m_works T r N NO a (kind : Int)
  let r2 := if wk then m_hold T kind (r (27 + a)) (rup r (51 + a) (r (51 + a) + 1)) N else rup r (51 + a) (r (51 + a) + 1)
  if r 2 = 100 then (r2, z.2) else (rup r2 2 (r 2 + 1), m_bup z.2 (r 2).toNat (r 0) (a : Int) (kind : Int) (r (27 + a)) (if wk then 1 else 0))
def fr4 (s s' : ev_S) : Prop := ∀ c, c ≠ 1 → c ≠ 9 → c ≠ 28 → c ≠ 29 → s' c = s c
theorem sp_does {d N NO a kind : Nat} {s : ev_S} {Q : Option ev_V → ev_S → Prop} (hN : s 0 10 = (N : Int)) (hN8 : N ≤ 8) (hO : s 0 12 = (NO : Int)) (hO6 : NO ≤ 6) (ha : a < 6) (hk : kind < 5) (hp : 0 ≤ s 1 (27 + a) ∧ s 1 (27 + a) < 64) (hl : m_lok s) (hL : 0 ≤ s 1 2 ∧ s 1 2 ≤ 100) (hd : 0 ≤ s 1 (51 + a) ∧ s 1 (51 + a) ≤ 1000000) (hst : ∀ w, w < N → 0 ≤ s 1 (11 + w) ∧ s 1 (11 + w) ≤ 99) (hpa : 0 ≤ s 4 kind ∧ s 4 kind ≤ 9)
    (h : ∀ s', s' 1 = (m_does s N NO a kind (s 1, s 9)).1 → s' 9 = (m_does s N NO a kind (s 1, s 9)).2 → fr4 s s' → Q none s') : Ev layM M_X12_does (d + 3) 0 [(0, ev_r 0), (1, ev_i (a : Int)), (2, ev_i (kind : Int))] [] s Q := by
  refine wp_X12_does_0 ?_
  simp (disch := omega) only [ev_add_eq (x := 27), ev_add_eq (x := 51), tn_lit]
  refine ⟨by omega, sp_doesWork hN hN8 hO hO6 ha hp hl (fun s1 hf1 => ev_pi_mk ⟨by omega, by omega, ?_⟩)⟩
  rintro _ rfl
  have e1 : s1 1 = s 1 := hf1 1 (by omega) (by omega)
  have e9 : s1 9 = s 9 := hf1 9 (by omega) (by omega)
  rw [e1, ev_add_eq (x := s 1 (51 + a)) (y := 1) ⟨by omega, by omega⟩, ev_up_set, e1]
  generalize hr1 : rup (s 1) (51 + a) (s 1 (51 + a) + 1) = r1
  have r1at : ∀ i, i ≠ 51 + a → r1 i = s 1 i := fun i hi => by rw [← hr1]; exact rup_ne _ _ hi
  generalize hwk : m_works s (s 1) N NO a (kind : Int) = wk
  -- the book
  have fin : ∀ (s2 : ev_S) (r2 : Nat → Int), s2 1 = r2 → s2 9 = s 9 → fr4 s s2 → r2 2 = s 1 2 → r2 0 = s 1 0 → r2 = (if wk then m_hold s kind (s 1 (27 + a)) r1 N else r1) → Ev layM M_X12_does (d + 3) 143 [(0, ev_r 0), (1, ev_i (a : Int)), (2, ev_i (kind : Int)), (3, ev_i (s 1 (27 + a))), (4, ev_i (if wk then 1 else 0))] [] s2 Q := by
    intro s2 r2 g1 g9 gf g2 g0 gr
    obtain ⟨n, hn⟩ := Int.eq_ofNat_of_zero_le hL.1
    refine wp_X12_does_143 ?_
    rw [g1, g2, g0, hn]
    refine ⟨fun c => ?_, fun c => ?_⟩
    · rw [ev_mul_eq (x := 5) ⟨by omega, by omega⟩]
      simp (disch := omega) only [ev_add_eq (x := 5 * (n : Int))]
      rw [show Int.toNat (5 * (n : Int)) = 5 * n by omega, show Int.toNat (5 * (n : Int) + 1) = 5 * n + 1 by omega, show Int.toNat (5 * (n : Int) + 2) = 5 * n + 2 by omega, show Int.toNat (5 * (n : Int) + 3) = 5 * n + 3 by omega]
      refine ⟨by omega, ?_⟩
      rintro _ rfl
      refine ⟨by omega, ?_⟩
      rintro _ rfl
      refine ⟨by omega, ?_⟩
      rintro _ rfl
      refine ⟨by omega, ?_⟩
      rintro _ rfl
      have last : ∀ t0 : Int, t0 = (if wk then 1 else 0) → Ev layM M_X12_does (d + 3) 226 [(0, ev_r 0)] [ev_i t0, ev_i (5 * (n : Int) + 4), ev_r 9] (ev_up (ev_up (ev_up (ev_up s2 9 (5 * n) (s 1 0)) 9 (5 * n + 1) (a : Int)) 9 (5 * n + 2) (kind : Int)) 9 (5 * n + 3) (s 1 (27 + a))) Q := by
        intro t0 ht
        refine wp_X12_does_226 ⟨by omega, ?_⟩
        rintro _ rfl
        rintro _ rfl
        have e12 : ∀ u : ev_S, u = ev_up (ev_up (ev_up (ev_up (ev_up s2 9 (5 * n) (s 1 0)) 9 (5 * n + 1) (a : Int)) 9 (5 * n + 2) (kind : Int)) 9 (5 * n + 3) (s 1 (27 + a))) 9 (Int.toNat (5 * (n : Int) + 4)) t0 → u 1 = r2 ∧ u 9 = m_bup (s 9) n (s 1 0) (a : Int) (kind : Int) (s 1 (27 + a)) (if wk then 1 else 0) ∧ ∀ c, c ≠ 9 → u c = s2 c := by
          intro u hu
          subst hu
          refine ⟨?_, ?_, ?_⟩
          · rw [ev_upj _ _ (by omega), ev_upj _ _ (by omega), ev_upj _ _ (by omega), ev_upj _ _ (by omega), ev_upj _ _ (by omega)]; exact g1
          · rw [show Int.toNat (5 * (n : Int) + 4) = 5 * n + 4 by omega, ht]
            simp only [ev_up_set, ev_set_set, ev_set_same, g9]; rfl
          · intro c hc
            rw [ev_upj _ _ hc, ev_upj _ _ hc, ev_upj _ _ hc, ev_upj _ _ hc, ev_upj _ _ hc]
        generalize hu : ev_up (ev_up (ev_up (ev_up (ev_up s2 9 (5 * n) (s 1 0)) 9 (5 * n + 1) (a : Int)) 9 (5 * n + 2) (kind : Int)) 9 (5 * n + 3) (s 1 (27 + a))) 9 (Int.toNat (5 * (n : Int) + 4)) t0 = u
        obtain ⟨u1, u9, uf⟩ := e12 u hu.symm
        rw [u1, g2, ev_add_eq (x := s 1 2) ⟨by omega, by omega⟩]
        refine h _ ?_ ?_ ?_
        · rw [ev_up_set, ev_set_same, u1]
          simp only [m_does, hwk, hr1]
          rw [if_neg (by omega), gr]
        · rw [ev_upj _ _ (by omega), u9]
          simp only [m_does, hwk, hr1]
          rw [if_neg (show ¬ s 1 2 = 100 by omega)]
          simp only [hn, Int.toNat_natCast]
        · intro c c1 c9 c28 c29
          rw [ev_upj _ _ c1, uf c c9]; exact gf c c1 c9 c28 c29
      refine ⟨fun c2 => last 0 c2.symm, fun c2 => last 1 ?_⟩
      cases wk <;> simp at c2 ⊢
    · refine h s2 ?_ ?_ gf
      · rw [g1]
        simp only [m_does, hwk, hr1]
        rw [if_pos (by omega), gr]
      · rw [g9]
        simp only [m_does, hwk, hr1]
        rw [if_pos (by omega)]
  have key : ∀ (n i : Nat) (s2 : ev_S), i + n = N → s2 1 = m_hold s kind (s 1 (27 + a)) r1 i → s2 9 = s 9 → fr4 s s2 → (wk = false → i = 0) → Ev layM M_X12_does (d + 3) 42 [(0, ev_r 0), (1, ev_i (a : Int)), (2, ev_i (kind : Int)), (3, ev_i (s 1 (27 + a))), (4, ev_i (if wk then 1 else 0)), (5, ev_i (i : Int))] [] s2 Q := by
    intro n
    induction n with
    | zero =>
      intro i s2 hi g1 g9 gf hw0
      have e10 : s2 0 10 = (N : Int) := by rw [gf 0 (by omega) (by omega) (by omega) (by omega)]; exact hN
      have hiN : i = N := by omega
      refine wp_X12_does_42 ⟨fun _ => fin s2 _ g1 g9 gf ?_ ?_ ?_, fun c => absurd c (by omega)⟩
      · rw [m_hold_at _ _ (by omega), r1at _ (by omega)]
      · rw [m_hold_at _ _ (by omega), r1at _ (by omega)]
      · cases wk
        · have := hw0 rfl
          subst this; simp [m_hold]
        · simp [hiN]
    | succ n ih =>
      intro i s2 hi g1 g9 gf hw0
      have e10 : s2 0 10 = (N : Int) := by rw [gf 0 (by omega) (by omega) (by omega) (by omega)]; exact hN
      have e4 : s2 4 = s 4 := gf 4 (by omega) (by omega) (by omega) (by omega)
      refine wp_X12_does_42 ⟨fun c => absurd c (by omega), fun _ => ⟨fun c => fin s2 _ g1 g9 gf ?_ ?_ ?_, fun c => ?_⟩⟩
      · rw [m_hold_at _ _ (by omega), r1at _ (by omega)]
      · rw [m_hold_at _ _ (by omega), r1at _ (by omega)]
      · cases wk
        · have := hw0 rfl
          subst this; simp [m_hold]
        · simp at c
      · have hwt : wk = true := by cases wk <;> simp at c ⊢
        have h3 : s2 1 (3 + i) = s 1 (3 + i) := by rw [g1, m_hold_at _ _ (by omega), r1at _ (by omega)]
        have h11 : s2 1 (11 + i) = s 1 (11 + i) := by rw [g1, m_hold_at _ _ (by omega), r1at _ (by omega)]
        obtain ⟨st1, st2⟩ := hst i (by omega)
        simp (disch := omega) only [ev_add_eq (x := 3), ev_add_eq (x := 11), tn_lit]
        rw [h3, h11, e4, Int.toNat_natCast, ev_add_eq (x := s 1 (11 + i)) ⟨by omega, by omega⟩, ev_add_eq (x := (i : Int)) (y := 1) ⟨by omega, by omega⟩]
        have nxt : s 1 (3 + i) = s 1 (27 + a) → Ev layM M_X12_does (d + 3) 42 [(0, ev_r 0), (1, ev_i (a : Int)), (2, ev_i (kind : Int)), (3, ev_i (s 1 (27 + a))), (4, ev_i (if wk then 1 else 0)), (5, ev_i ((i : Int) + 1))] [] (ev_up s2 1 (11 + i) (min 99 (s 1 (11 + i) + s 4 kind))) Q := by
          intro c2
          refine ih (i + 1) _ (by omega) ?_ ?_ ?_ (fun e => by rw [hwt] at e; cases e)
          · rw [ev_up_set, ev_set_same, g1]
            simp only [m_hold]
            rw [if_pos (by rw [r1at _ (by omega)]; exact c2), r1at (11 + i) (by omega)]
          · rw [ev_upj _ _ (by omega)]; exact g9
          · intro c c1 c9 c28 c29
            rw [ev_upj _ _ c1]; exact gf c c1 c9 c28 c29
        refine ⟨by omega, fun c2 => ?_, fun c2 => ⟨by omega, by omega, fun c3 => ⟨by omega, by omega, by omega, ?_⟩, fun c3 => ⟨by omega, sp_greater (ev_pi_mk ⟨by omega, ?_⟩)⟩⟩⟩
        · refine ih (i + 1) s2 (by omega) ?_ g9 gf (fun e => by rw [hwt] at e; cases e)
          rw [g1]
          simp only [m_hold]
          rw [if_neg (by rw [r1at _ (by omega)]; exact c2)]
        · rintro _ rfl
          have q := nxt c2
          rw [Int.min_eq_right (by omega)] at q
          exact q
        · rintro _ rfl
          have q := nxt c2
          rw [Int.min_eq_left (by omega)] at q
          rw [Int.max_eq_left (by omega)]
          exact q
  refine key N 0 _ (by omega) ?_ ?_ ?_ (fun _ => rfl)
  · rw [ev_set_same]; rfl
  · rw [ev_set_ne _ _ (by omega)]; exact e9
  · intro c c1 c9 c28 c29
    rw [ev_set_ne _ _ c1]; exact hf1 c c28 c29
