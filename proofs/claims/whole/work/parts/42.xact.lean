/-! a doing, the class -/
theorem sp_write {d n : Nat} {s : ev_S} {sec a kind p wk : Int} {Q : Option ev_V → ev_S → Prop} (hn : n < 100) (hw : wk = 0 ∨ wk = 1) (h : Q none (ev_set s 28 (m_bup (s 28) n sec a kind p wk))) : Ev layX M_X0_write d 0 [(0, ev_r 27), (1, ev_i (n : Int)), (2, ev_i sec), (3, ev_i a), (4, ev_i kind), (5, ev_i p), (6, ev_i wk)] [] s Q := by
  refine wp_X0_write_0 is_X0_27 ⟨fun c => absurd c (by omega), fun _ => ⟨fun _ => ?_, fun c => absurd c (by omega)⟩⟩
  have m5 : ev_mul (n : Int) 5 = 5 * (n : Int) := by rw [ev_mul_eq ⟨by omega, by omega⟩]; omega
  rw [m5]
  simp (disch := omega) only [ev_add_eq (x := 5 * (n : Int))]
  rw [show Int.toNat (5 * (n : Int) + 0) = 5 * n by omega, show Int.toNat (5 * (n : Int) + 1) = 5 * n + 1 by omega, show Int.toNat (5 * (n : Int) + 2) = 5 * n + 2 by omega, show Int.toNat (5 * (n : Int) + 3) = 5 * n + 3 by omega, show Int.toNat (5 * (n : Int) + 4) = 5 * n + 4 by omega]
  refine ⟨by omega, ?_⟩
  rintro _ rfl
  refine ⟨by omega, ?_⟩
  rintro _ rfl
  refine ⟨by omega, ?_⟩
  rintro _ rfl
  refine ⟨by omega, ?_⟩
  rintro _ rfl
  refine ⟨fun c => ⟨by omega, ?_⟩, fun c => ⟨by omega, ?_⟩⟩
  · rintro _ rfl
    subst c
    simp only [ev_up_set, ev_set_set, ev_set_same]
    exact h
  · rintro _ rfl
    have e : wk = 1 := by omega
    subst e
    simp only [ev_up_set, ev_set_set, ev_set_same]
    exact h
/-- what a doing on Course k leaves alone: all but k to k + 11, the book's cell 28, the law's stack 14, the asked 145 -/
def frA (k : Nat) (s s' : ev_S) : Prop := ∀ c, (c < k ∨ k + 11 < c) → c ≠ 28 → c ≠ 14 → c ≠ 145 → s' c = s c
theorem frA_up {k c i : Nat} {σ σ' : ev_S} {z : Int} (h : frA k σ σ') (h1 : k ≤ c) (h2 : c ≤ k + 11) : frA k σ (ev_up σ' c i z) := fun a ha h28 h14 h145 => by rw [ev_upj _ _ (by omega)]; exact h a ha h28 h14 h145
theorem XT_frA {k : Nat} {s s' T : ev_S} (h15 : k = 15 ∨ k = 147) (hT : XT s 1 T) (hf : frA k s s') : XT s' 1 T := by
  refine XT_keep hT (fun c h1 h2 => hf c (by omega) (by omega) (by omega) (by omega))
theorem XB_bup {s : ev_S} {k : Nat} {B : Nat → Int} {n : Nat} {sec a kind p wk : Int} (h : XB s k B n) : XB (ev_set s k (m_bup (s k) n sec a kind p wk)) k (m_bup B n sec a kind p wk) (n + 1) := by
  intro i hi
  rw [ev_set_same]
  simp only [m_bup, rup]
  by_cases e4 : i = 5 * n + 4
  · simp [e4]
  by_cases e3 : i = 5 * n + 3
  · simp [e3]
  by_cases e2 : i = 5 * n + 2
  · simp [e2]
  by_cases e1 : i = 5 * n + 1
  · simp [e1]
  by_cases e0 : i = 5 * n
  · simp [e0]
  simp only [e4, e3, e2, e1, e0, if_false]
  exact h i (by omega)
theorem sp_act {d N NO a kind k n : Nat} {s T : ev_S} {r B : Nat → Int} {Q : Option ev_V → ev_S → Prop} (hk : is_X2 k) (h15 : k = 15 ∨ k = 147) (hN : T 0 10 = (N : Int)) (hN8 : N ≤ 8) (hO : T 0 12 = (NO : Int)) (hO6 : NO ≤ 6) (ha : a < 6) (haT : (a : Int) < T 0 11) (hkd : kind < 5) (hp : 0 ≤ r (27 + a) ∧ r (27 + a) < 64) (hl : m_lok T) (hn : r 2 = (n : Int)) (hn2 : n ≤ 100) (hd : 0 ≤ r (51 + a) ∧ r (51 + a) ≤ 1000000) (hst : ∀ w, w < N → 0 ≤ r (11 + w) ∧ r (11 + w) ≤ 99) (hpa : 0 ≤ T 4 kind ∧ T 4 kind ≤ 9) (hT : XT s 1 T) (hC : XC s k r) (hB : XB s 28 B n)
    (h : ∀ s', XC s' k (m_does T N NO a kind (r, B)).1 → XB s' 28 (m_does T N NO a kind (r, B)).2 (((m_does T N NO a kind (r, B)).1 2).toNat) → frA k s s' → Q none s') : Ev layX M_X7_act (d + 3) 0 [(0, ev_r 144), (1, ev_r k), (2, ev_i (a : Int)), (3, ev_i (kind : Int))] [] s Q := by
  have c4 : s (k + 4) a = r (27 + a) := (hC.2.2.1 a ha).1
  refine wp_X7_act_0 hk ?_
  rw [Int.toNat_natCast, c4]
  refine ⟨by omega, sp_xworks hk h15 hN hN8 hO hO6 ha haT hp hl hT hC (fun s1 hf1 => ev_pi_mk ⟨by omega, by omega, ?_⟩)⟩
  have hC1 : XC s1 k r := XC_keep hC (fun c h1 h2 => hf1 c (by omega) (by omega))
  have hfA1 : frA k s s1 := fun c _ _ h14 h145 => hf1 c h145 h14
  rw [(hC1.2.2.1 a ha).2.2.2.2, ev_add_eq (x := r (51 + a)) ⟨by omega, by omega⟩]
  rintro _ rfl
  have hC2 := XC_done (z := r (51 + a) + 1) ha hC1
  have hfA2 : frA k s (ev_up s1 (k + 8) a (r (51 + a) + 1)) := frA_up hfA1 (by omega) (by omega)
  have hB2 : XB (ev_up s1 (k + 8) a (r (51 + a) + 1)) 28 B n := fun i hi => by rw [ev_upj _ _ (by omega), hf1 28 (by omega) (by omega)]; exact hB i hi
  generalize ev_up s1 (k + 8) a (r (51 + a) + 1) = s2 at *
  generalize hr1 : rup r (51 + a) (r (51 + a) + 1) = r1 at *
  have r1at : ∀ i, i ≠ 51 + a → r1 i = r i := fun i hi => by rw [← hr1]; exact rup_ne _ _ hi
  generalize hwk : m_works T r N NO a (kind : Int) = wk
  have fin : ∀ (s3 : ev_S) (r2 : Nat → Int), XC s3 k r2 → XB s3 28 B n → frA k s s3 → r2 2 = r 2 → r2 0 = r 0 → r2 = (if wk then m_hold T kind (r (27 + a)) r1 N else r1) → Ev layX M_X7_act (d + 3) 94 [(0, ev_r 144), (1, ev_r k), (2, ev_i (a : Int)), (3, ev_i (kind : Int)), (4, ev_i (r (27 + a))), (5, ev_i (if wk then 1 else 0))] [] s3 Q := by
    intro s3 r2 g1 g9 gf g2 g0 gr
    refine wp_X7_act_94 hk ?_
    rw [g1.1.2.2, g1.1.1, g2, g0, hn]
    refine ⟨fun c => ?_, fun c => sp_write (by omega) (by cases wk <;> simp) ?_⟩
    · refine h s3 ?_ ?_ gf
      · simp only [m_does, hwk, hr1]
        rw [if_pos (show r 2 = 100 by omega), ← gr]; exact g1
      · simp only [m_does, hwk, hr1]
        rw [if_pos (show r 2 = 100 by omega), ← gr]
        show XB s3 28 B (r2 2).toNat
        rw [g2, hn, Int.toNat_natCast]; exact g9
    · have e13 : ev_set s3 28 (m_bup (s3 28) n (r 0) (a : Int) (kind : Int) (r (27 + a)) (if wk then 1 else 0)) k 13 = (n : Int) := by rw [ev_set_ne _ _ (by omega), g1.1.2.2, g2, hn]
      rw [e13, ev_add_eq (x := (n : Int)) ⟨by omega, by omega⟩]
      rintro _ rfl
      have gC : XC (ev_set s3 28 (m_bup (s3 28) n (r 0) (a : Int) (kind : Int) (r (27 + a)) (if wk then 1 else 0))) k r2 := XC_keep g1 (fun c h1 h2 => ev_set_ne _ _ (by omega))
      refine h _ ?_ ?_ ?_
      · simp only [m_does, hwk, hr1]
        rw [if_neg (show ¬ r 2 = 100 by omega), ← gr, hn]
        exact XC_written gC
      · simp only [m_does, hwk, hr1]
        rw [if_neg (show ¬ r 2 = 100 by omega)]
        simp only [rup_same, hn, Int.toNat_natCast]
        rw [show ((n : Int) + 1).toNat = n + 1 by omega]
        intro i hi
        rw [ev_upj _ _ (by omega)]
        exact XB_bup g9 i hi
      · refine frA_up ?_ (by omega) (by omega)
        intro c hc h28 h14 h145
        rw [ev_set_ne _ _ h28]; exact gf c hc h28 h14 h145
  have key : ∀ (m i : Nat) (s3 : ev_S), i + m = N → XC s3 k (m_hold T kind (r (27 + a)) r1 i) → XB s3 28 B n → frA k s s3 → (wk = false → i = 0) → Ev layX M_X7_act (d + 3) 30 [(0, ev_r 144), (1, ev_r k), (2, ev_i (a : Int)), (3, ev_i (kind : Int)), (4, ev_i (r (27 + a))), (5, ev_i (if wk then 1 else 0)), (6, ev_i (i : Int))] [] s3 Q := by
    intro m
    induction m with
    | zero =>
      intro i s3 hi g1 g9 gf hw0
      have e4 : s3 1 4 = (N : Int) := by rw [gf 1 (by omega) (by omega) (by omega) (by omega), hT.1.2.2.2.1, hN]
      have ff := fin s3 _ g1 g9 gf (by rw [m_hold_at _ _ (by omega), r1at _ (by omega)]) (by rw [m_hold_at _ _ (by omega), r1at _ (by omega)]) (by
        cases wk
        · have := hw0 rfl
          subst this; simp [m_hold]
        · simp [show i = N by omega])
      exact wp_X7_act_30 hk ⟨fun _ => ff, fun _ => ⟨fun _ => ff, fun c => absurd c (by omega)⟩⟩
    | succ m ih =>
      intro i s3 hi g1 g9 gf hw0
      have e4 : s3 1 4 = (N : Int) := by rw [gf 1 (by omega) (by omega) (by omega) (by omega), hT.1.2.2.2.1, hN]
      have e2 : s3 2 kind = T 4 kind := by rw [gf 2 (by omega) (by omega) (by omega) (by omega)]; exact hT.2.1 kind hkd
      refine wp_X7_act_30 hk ⟨fun c => fin s3 _ g1 g9 gf (by rw [m_hold_at _ _ (by omega), r1at _ (by omega)]) (by rw [m_hold_at _ _ (by omega), r1at _ (by omega)]) ?_, fun c => ⟨fun c2 => absurd c2 (by omega), fun _ => ?_⟩⟩
      · cases wk
        · have := hw0 rfl
          subst this; simp [m_hold]
        · simp at c
      · have hwt : wk = true := by cases wk <;> simp at c ⊢
        obtain ⟨w1, w2, -⟩ := g1.2.1 i (by omega)
        rw [m_hold_at _ _ (by omega), r1at _ (by omega)] at w1 w2
        obtain ⟨st1, st2⟩ := hst i (by omega)
        rw [Int.toNat_natCast, Int.toNat_natCast, w1, w2, e2, ev_add_eq (x := r (11 + i)) ⟨by omega, by omega⟩, ev_add_eq (x := (i : Int)) (y := 1) ⟨by omega, by omega⟩]
        refine ⟨by omega, fun c2 => ?_, fun c2 => ⟨by omega, by omega, by omega, ?_⟩⟩
        · refine ih (i + 1) s3 (by omega) ?_ g9 gf (fun e => by rw [hwt] at e; cases e)
          simp only [m_hold]
          rw [if_neg (by rw [r1at _ (by omega)]; exact c2)]
          exact g1
        · rintro _ rfl
          refine ih (i + 1) _ (by omega) ?_ ?_ (frA_up gf (by omega) (by omega)) (fun e => by rw [hwt] at e; cases e)
          · simp only [m_hold]
            rw [if_pos (by rw [r1at _ (by omega)]; exact c2), r1at (11 + i) (by omega)]
            exact XC_still (by omega) g1
          · intro j hj
            rw [ev_upj _ _ (by omega)]; exact g9 j hj
  exact key N 0 s2 (by omega) hC2 hB2 hfA2 (fun _ => rfl)
