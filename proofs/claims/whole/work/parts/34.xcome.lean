/-! the class: who is where, what comes, what becomes of it -/
theorem sp_hasWard {d k : Nat} (hk : is_X10 k) {s : ev_S} {Q : Option ev_V → ev_S → Prop} {a1 : Int} (h : Q (some (ev_i (if 0 ≤ a1 ∧ a1 < s k 4 then 1 else 0))) s) : Ev layX M_X10_hasWard d 0 [(0, ev_r k), (1, ev_i a1)] [] s Q := by
  refine wp_X10_hasWard_0 hk ⟨fun c => ?_, fun c => ⟨fun c2 => ?_, fun c2 => ?_⟩⟩
  · rw [if_neg (by omega)] at h; exact h
  · rw [if_neg (by omega)] at h; exact h
  · rw [if_pos ⟨c, c2⟩] at h; exact h
theorem sp_hasAngel {d k : Nat} (hk : is_X10 k) {s : ev_S} {Q : Option ev_V → ev_S → Prop} {a1 : Int} (h : Q (some (ev_i (if 0 ≤ a1 ∧ a1 < s k 7 then 1 else 0))) s) : Ev layX M_X10_hasAngel d 0 [(0, ev_r k), (1, ev_i a1)] [] s Q := by
  refine wp_X10_hasAngel_0 hk ⟨fun c => ?_, fun c => ⟨fun c2 => ?_, fun c2 => ?_⟩⟩
  · rw [if_neg (by omega)] at h; exact h
  · rw [if_neg (by omega)] at h; exact h
  · rw [if_pos ⟨c, c2⟩] at h; exact h
theorem sp_hasMishap {d k : Nat} (hk : is_X10 k) {s : ev_S} {Q : Option ev_V → ev_S → Prop} {a1 : Int} (h : Q (some (ev_i (if 0 ≤ a1 ∧ a1 < s k 13 then 1 else 0))) s) : Ev layX M_X10_hasMishap d 0 [(0, ev_r k), (1, ev_i a1)] [] s Q := by
  refine wp_X10_hasMishap_0 hk ⟨fun c => ?_, fun c => ⟨fun c2 => ?_, fun c2 => ?_⟩⟩
  · rw [if_neg (by omega)] at h; exact h
  · rw [if_neg (by omega)] at h; exact h
  · rw [if_pos ⟨c, c2⟩] at h; exact h
theorem sp_hasPlace {d k : Nat} (hk : is_X10 k) {s T : ev_S} {Q : Option ev_V → ev_S → Prop} {a1 : Int} (hT : s k 0 = T 0 6 + 8 ∧ s k 1 = T 0 7 + 8) (hd : m_dim T) (h : Q (some (ev_i (if 0 ≤ a1 ∧ a1 % 8 < T 0 6 + 8 ∧ a1 / 8 < T 0 7 + 8 then 1 else 0))) s) : Ev layX M_X10_hasPlace d 0 [(0, ev_r k), (1, ev_i a1)] [] s Q := by
  have h7 := hd.2.2
  refine wp_X10_hasPlace_0 hk ⟨fun c => ?_, fun c => ⟨fun c2 => ?_, fun c2 => ?_⟩⟩
  · rw [if_neg (by omega)] at h; exact h
  · rw [if_neg (by omega)] at h; exact h
  · rw [ev_rem_eq ⟨c, by omega⟩ ⟨by omega, by omega⟩, ev_div_eq ⟨c, by omega⟩ ⟨by omega, by omega⟩, hT.1, hT.2]
    refine ⟨fun c3 => ?_, fun c3 => ⟨fun c4 => ?_, fun c4 => ?_⟩⟩
    · rw [if_neg (by omega)] at h; exact h
    · rw [if_neg (by omega)] at h; exact h
    · rw [if_pos ⟨c, c3, c4⟩] at h; exact h
theorem sp_howManyThere {d N k : Nat} {s : ev_S} {r : Nat → Int} {Q : Option ev_V → ev_S → Prop} {p : Int} (hk : is_X2 k) (hN : s 1 4 = (N : Int)) (hN8 : N ≤ 8) (hW : ∀ w, w < 8 → s (k + 1) w = r (3 + w)) (h : Q (some (ev_i (m_cnt r p N : Int))) s) : Ev layX M_X7_howManyThere d 0 [(0, ev_r 144), (1, ev_r k), (2, ev_i p)] [] s Q := by
  refine wp_X7_howManyThere_0 hk ?_
  have key : ∀ n i : Nat, i + n = N → Ev layX M_X7_howManyThere d 5 [(0, ev_r 144), (1, ev_r k), (2, ev_i p), (3, ev_i (m_cnt r p i : Int)), (4, ev_i (i : Int))] [] s Q := by
    intro n
    induction n with
    | zero =>
      intro i hi
      have : i = N := by omega
      subst this
      exact wp_X7_howManyThere_5 hk ⟨fun _ => h, fun c => absurd c (by omega)⟩
    | succ n ih =>
      intro i hi
      have hle := m_cnt_le r p i
      refine wp_X7_howManyThere_5 hk ⟨fun c => absurd c (by omega), fun c => ?_⟩
      rw [Int.toNat_natCast, hW i (by omega), ev_add_eq (x := (i : Int)) (y := 1) ⟨by omega, by omega⟩, ev_add_eq (x := (m_cnt r p i : Int)) (y := 1) ⟨by omega, by omega⟩]
      have i2 := ih (i + 1) (by omega)
      refine ⟨by omega, fun c2 => ?_, fun c2 => ?_⟩
      · simp only [m_cnt, if_neg c2, Nat.add_zero] at i2
        exact i2
      · simp only [m_cnt, if_pos c2] at i2
        exact i2
  exact key N 0 (by omega)
/-- what a mishap's row keeps to -/
def m_mok (T : ev_S) (i : Nat) : Prop := (1 ≤ T 24 (7 * i) ∧ T 24 (7 * i) ≤ 99) ∧ m_pl T (T 24 (7 * i + 1)) ∧ (0 ≤ T 24 (7 * i + 2) ∧ T 24 (7 * i + 2) ≤ T 24 (7 * i + 3) ∧ T 24 (7 * i + 3) ≤ 599) ∧ (-1 ≤ T 24 (7 * i + 4) ∧ T 24 (7 * i + 4) < T 0 10) ∧ (-1 ≤ T 24 (7 * i + 5) ∧ T 24 (7 * i + 5) ≤ 4) ∧ (1 ≤ T 24 (7 * i + 6) ∧ T 24 (7 * i + 6) ≤ 100)
theorem m_comes_0 {T : ev_S} {N i : Nat} {r : Nat → Int} (h : r (57 + i) = 0) : m_comes T N r i = decide (T 24 (7 * i + 2) ≤ r 0 ∧ r 0 ≤ T 24 (7 * i + 3) ∧ (if T 24 (7 * i + 4) = -1 then 0 < m_cnt r (T 24 (7 * i + 1)) N else r (3 + (T 24 (7 * i + 4)).toNat) = T 24 (7 * i + 1))) := by
  unfold m_comes
  by_cases q : (T 24 (7 * i + 2) ≤ r 0 ∧ r 0 ≤ T 24 (7 * i + 3) ∧ (if T 24 (7 * i + 4) = -1 then 0 < m_cnt r (T 24 (7 * i + 1)) N else r (3 + (T 24 (7 * i + 4)).toNat) = T 24 (7 * i + 1)))
  · rw [decide_eq_true q, decide_eq_true ⟨h, q⟩]
  · rw [decide_eq_false q, decide_eq_false (fun z => q z.2)]
theorem sp_comesNow {d N k i : Nat} {s T : ev_S} {r : Nat → Int} {Q : Option ev_V → ev_S → Prop} (hk : is_X2 k) (hN : T 0 10 = (N : Int)) (hN8 : N ≤ 8) (hi : i < 10) (him : (i : Int) < T 0 46) (hm : m_mok T i) (hT : XT s 1 T) (h0 : s k 0 = r 0) (hW : ∀ w, w < 8 → s (k + 1) w = r (3 + w)) (ho : r (57 + i) = 0) (h : Q (some (ev_i (if m_comes T N r i then 1 else 0))) s) : Ev layX M_X7_comesNow (d + 1) 0 [(0, ev_r 144), (1, ev_r k), (2, ev_i (i : Int))] [] s Q := by
  have hrow := hT.2.2.2.2.2.1 i him
  have e4 : s 1 4 = (N : Int) := by rw [hT.1.2.2.2.1, hN]
  obtain ⟨-, -, -, ⟨q1, q2⟩, -⟩ := hm
  have m7 : ev_mul (i : Int) 7 = 7 * (i : Int) := by rw [ev_mul_eq ⟨by omega, by omega⟩]; omega
  refine wp_X7_comesNow_0 hk ?_
  rw [m7]
  simp (disch := omega) only [ev_add_eq]
  rw [show Int.toNat (7 * (i : Int) + 2) = 7 * i + 2 by omega, show Int.toNat (7 * (i : Int) + 3) = 7 * i + 3 by omega, show Int.toNat (7 * (i : Int) + 1) = 7 * i + 1 by omega, show Int.toNat (7 * (i : Int) + 4) = 7 * i + 4 by omega]
  rw [show s 9 (7 * i + 2) = T 24 (7 * i + 2) from hrow 2 (by omega), show s 9 (7 * i + 3) = T 24 (7 * i + 3) from hrow 3 (by omega), show s 9 (7 * i + 1) = T 24 (7 * i + 1) from hrow 1 (by omega), show s 9 (7 * i + 4) = T 24 (7 * i + 4) from hrow 4 (by omega), h0]
  rw [m_comes_0 ho] at h
  have no : ¬ (T 24 (7 * i + 2) ≤ r 0 ∧ r 0 ≤ T 24 (7 * i + 3) ∧ (if T 24 (7 * i + 4) = -1 then 0 < m_cnt r (T 24 (7 * i + 1)) N else r (3 + (T 24 (7 * i + 4)).toNat) = T 24 (7 * i + 1))) → Q (some (ev_i 0)) s := by
    intro q
    rw [decide_eq_false q] at h; exact h
  have yes : (T 24 (7 * i + 2) ≤ r 0 ∧ r 0 ≤ T 24 (7 * i + 3) ∧ (if T 24 (7 * i + 4) = -1 then 0 < m_cnt r (T 24 (7 * i + 1)) N else r (3 + (T 24 (7 * i + 4)).toNat) = T 24 (7 * i + 1))) → Q (some (ev_i 1)) s := by
    intro q
    rw [decide_eq_true q] at h; exact h
  refine ⟨by omega, fun c => no (fun q => absurd q.1 (by omega)), fun c => ⟨by omega, fun c2 => ⟨by omega, by omega, sp_hasWard is_X10_1 (ev_pi_mk ?_)⟩, fun c2 => no (fun q => absurd q.2.1 (by omega))⟩⟩
  rw [e4]
  by_cases c3 : T 24 (7 * i + 4) = -1
  · rw [if_neg (show ¬ (0 ≤ T 24 (7 * i + 4) ∧ T 24 (7 * i + 4) < (N : Int)) by omega)]
    refine ⟨fun _ => sp_howManyThere hk e4 hN8 hW (ev_pi_mk ⟨fun c4 => no (fun q => ?_), fun c4 => yes ⟨c, c2, ?_⟩⟩), fun c4 => absurd rfl c4⟩
    · have q3 := q.2.2; rw [if_pos c3] at q3; omega
    · rw [if_pos c3]; omega
  · rw [if_pos (show 0 ≤ T 24 (7 * i + 4) ∧ T 24 (7 * i + 4) < (N : Int) by omega)]
    refine ⟨fun c4 => absurd c4 (by omega), fun _ => ⟨by omega, fun c4 => no (fun q => ?_), fun c4 => yes ⟨c, c2, ?_⟩⟩⟩
    · have q3 := q.2.2; rw [if_neg c3] at q3; rw [hW _ (by omega)] at c4; exact c4 q3
    · rw [if_neg c3]; rw [hW _ (by omega)] at c4; exact c4
theorem sp_xisSpoilt {d N : Nat} {s T : ev_S} {Q : Option ev_V → ev_S → Prop} {p sec : Int} (hN : T 0 12 = (N : Int)) (hN6 : N ≤ 6) (hT : XT s 1 T) (h : Q (some (ev_i (if m_spoilt T sec p N then 1 else 0))) s) : Ev layX M_X7_isSpoilt d 0 [(0, ev_r 144), (1, ev_i p), (2, ev_i sec)] [] s Q := by
  have e11 : s 1 11 = (N : Int) := by rw [hT.1.2.2.2.2.2.1, hN]
  refine wp_X7_isSpoilt_0 ?_
  have key : ∀ k i : Nat, i + k = N → (∀ j, j < i → decide (T 6 j = p ∧ T 7 j ≤ sec ∧ sec ≤ T 8 j) = false) → Ev layX M_X7_isSpoilt d 2 [(0, ev_r 144), (1, ev_i p), (2, ev_i sec), (3, ev_i (i : Int))] [] s Q := by
    intro k
    induction k with
    | zero =>
      intro i hi hno
      have : i = N := by omega
      subst this
      refine wp_X7_isSpoilt_2 ⟨fun _ => ?_, fun c => absurd c (by omega)⟩
      rw [show m_spoilt T sec p i = false from m_any_no hno] at h
      exact h
    | succ k ih =>
      intro i hi hno
      obtain ⟨o1, o2, o3⟩ := hT.2.2.2.2.1 i (by omega)
      have next : decide (T 6 i = p ∧ T 7 i ≤ sec ∧ sec ≤ T 8 i) = false → Ev layX M_X7_isSpoilt d 2 [(0, ev_r 144), (1, ev_i p), (2, ev_i sec), (3, ev_i (ev_add (i : Int) 1))] [] s Q := by
        intro hn
        rw [ev_add_eq (x := (i : Int)) (y := 1) ⟨by omega, by omega⟩]
        exact ih (i + 1) (by omega) (fun j hj => by
          by_cases e : j = i
          · subst e; exact hn
          · exact hno j (by omega))
      have m3 : ev_mul (i : Int) 3 = 3 * (i : Int) := by rw [ev_mul_eq ⟨by omega, by omega⟩]; omega
      refine wp_X7_isSpoilt_2 ⟨fun c => absurd c (by omega), fun c => ?_⟩
      rw [m3]
      simp (disch := omega) only [ev_add_eq (x := 3 * (i : Int))]
      rw [show Int.toNat (3 * (i : Int) + 1) = 3 * i + 1 by omega, show Int.toNat (3 * (i : Int) + 2) = 3 * i + 2 by omega, show s 8 (3 * i + 1) = T 7 i from o2, show s 8 (3 * i + 2) = T 8 i from o3]
      refine ⟨by omega, fun c2 => wp_X7_isSpoilt_55 ⟨fun _ => next (decide_eq_false (fun q => absurd q.2.1 (by omega))), fun q => absurd rfl q⟩, fun c2 => ⟨by omega, fun c3 => wp_X7_isSpoilt_55 ⟨fun _ => next (decide_eq_false (fun q => absurd q.2.2 (by omega))), fun q => absurd rfl q⟩, fun c3 => wp_X7_isSpoilt_55 ⟨fun q => absurd q (by omega), fun _ => ?_⟩⟩⟩
      rw [show Int.toNat (3 * (i : Int)) = 3 * i by omega, show s 8 (3 * i) = T 6 i from o1]
      refine ⟨by omega, fun c4 => next (decide_eq_false (fun q => c4 q.1)), fun c4 => ?_⟩
      rw [show m_spoilt T sec p N = true from m_any_hit (i := i) (decide_eq_true ⟨c4, c2, c3⟩) (by omega)] at h
      exact h
  exact key N 0 (by omega) (fun j hj => by omega)
/-- the lines of a book that stand: the class's against the model's; their seconds don't fall -/
def XB (σ : ev_S) (k : Nat) (B : Nat → Int) (n : Nat) : Prop := ∀ i, i < 5 * n → σ k i = B i
def m_rise (B : Nat → Int) (n : Nat) : Prop := ∀ i j, i ≤ j → j < n → B (5 * i) ≤ B (5 * j)
theorem sp_guarding {d i N : Nat} {s T : ev_S} {B : Nat → Int} {sec : Int} {Q : Option ev_V → ev_S → Prop} (hN2 : N ≤ 100) (hB : XB s 28 B N) (hr : m_rise B N) (h : Q (some (ev_i (m_last (m_keeps T B sec i) N))) s) : Ev layX M_X0_guarding (d + 1) 0 [(0, ev_r 27), (1, ev_i (N : Int)), (2, ev_i (T 24 (7 * i + 1))), (3, ev_i (T 24 (7 * i + 5))), (4, ev_i (sec - (T 0 8 + 3)))] [] s Q := by
  refine wp_X0_guarding_0 is_X0_27 ?_
  rw [Int.min_eq_left (by omega), ev_sub_eq ⟨by omega, by omega⟩]
  have key : ∀ n : Nat, n ≤ N → (Q (some (ev_i (m_last (m_keeps T B sec i) n))) s) → Ev layX M_X0_guarding (d + 1) 10 [(0, ev_r 27), (2, ev_i (T 24 (7 * i + 1))), (3, ev_i (T 24 (7 * i + 5))), (4, ev_i (sec - (T 0 8 + 3))), (5, ev_i ((n : Int) - 1))] [] s Q := by
    intro n
    induction n with
    | zero =>
      intro _ hq
      exact wp_X0_guarding_10 is_X0_27 ⟨fun _ => hq, fun c => absurd c (by omega)⟩
    | succ n ih =>
      intro hn hq
      have e3 : ((n + 1 : Nat) : Int) - 1 = (n : Int) := by omega
      rw [e3]
      have next : m_keeps T B sec i n = false → Ev layX M_X0_guarding (d + 1) 10 [(0, ev_r 27), (2, ev_i (T 24 (7 * i + 1))), (3, ev_i (T 24 (7 * i + 5))), (4, ev_i (sec - (T 0 8 + 3))), (5, ev_i (ev_add (n : Int) (-1)))] [] s Q := by
        intro hk
        rw [ev_add_eq ⟨by omega, by omega⟩, show (n : Int) + -1 = (n : Int) - 1 by omega]
        exact ih (by omega) (by simp only [m_last, hk] at hq; simpa using hq)
      have hit : m_keeps T B sec i n = true → Q (some (ev_i (n : Int))) s := by
        intro hk
        simp only [m_last, hk] at hq; simpa using hq
      have m5 : ev_mul (n : Int) 5 = 5 * (n : Int) := by rw [ev_mul_eq ⟨by omega, by omega⟩]; omega
      have b0 : s 28 (5 * n) = B (5 * n) := hB _ (by omega)
      have b2 : s 28 (5 * n + 2) = B (5 * n + 2) := hB _ (by omega)
      have b3 : s 28 (5 * n + 3) = B (5 * n + 3) := hB _ (by omega)
      have b4 : s 28 (5 * n + 4) = B (5 * n + 4) := hB _ (by omega)
      have tl0 : m_keeps T B sec i n = false → Ev layX M_X0_guarding (d + 1) 60 [(0, ev_r 27), (2, ev_i (T 24 (7 * i + 1))), (3, ev_i (T 24 (7 * i + 5))), (4, ev_i (sec - (T 0 8 + 3))), (5, ev_i (n : Int)), (6, ev_i (5 * (n : Int)))] [ev_i 0] s Q := fun hk => wp_X0_guarding_60 is_X0_27 ⟨fun _ => next hk, fun c => absurd rfl c⟩
      refine wp_X0_guarding_10 is_X0_27 ⟨fun c => absurd c (by omega), fun c => ?_⟩
      rw [m5]
      simp (disch := omega) only [ev_add_eq (x := 5 * (n : Int))]
      rw [show Int.toNat (5 * (n : Int) + 0) = 5 * n by omega, show Int.toNat (5 * (n : Int) + 2) = 5 * n + 2 by omega, b0, b2]
      have tl1 : sec - (T 0 8 + 3) ≤ B (5 * n) → (T 24 (7 * i + 5) = -1 ∨ B (5 * n + 2) = T 24 (7 * i + 5)) → Ev layX M_X0_guarding (d + 1) 60 [(0, ev_r 27), (2, ev_i (T 24 (7 * i + 1))), (3, ev_i (T 24 (7 * i + 5))), (4, ev_i (sec - (T 0 8 + 3))), (5, ev_i (n : Int)), (6, ev_i (5 * (n : Int)))] [ev_i 1] s Q := by
        intro g1 g2
        refine wp_X0_guarding_60 is_X0_27 ⟨fun c4 => absurd c4 (by omega), fun _ => ?_⟩
        simp (disch := omega) only [ev_add_eq (x := 5 * (n : Int))]
        rw [show Int.toNat (5 * (n : Int) + 3) = 5 * n + 3 by omega, show Int.toNat (5 * (n : Int) + 4) = 5 * n + 4 by omega, b3, b4]
        exact ⟨by omega, fun c5 => next (decide_eq_false (fun q => c5 q.1)), fun c5 => ⟨by omega, fun c6 => next (decide_eq_false (fun q => c6 q.2.2.1)), fun c6 => hit (decide_eq_true ⟨c5, g1, c6, g2⟩)⟩⟩
      refine ⟨by omega, fun c2 => ⟨fun c3 => tl1 c2 (Or.inl c3), fun c3 => ⟨by omega, fun c4 => tl0 (decide_eq_false (fun q => q.2.2.2.elim c3 c4)), fun c4 => tl1 c2 (Or.inr c4)⟩⟩, fun c2 => ?_⟩
      have e9 : m_last (m_keeps T B sec i) (n + 1) = -1 := m_last_no (fun j hj => decide_eq_false (fun q => by
        have := hr j n (by omega) (by omega)
        have := q.2.1
        omega))
      rw [e9] at hq
      exact hq
  exact key N (Nat.le_refl N) h
theorem sp_xdraw {d k : Nat} (hk : is_X2 k) {s : ev_S} {Q : Option ev_V → ev_S → Prop} (h : Q (some (ev_i (m_draw (m_next (s k 1))))) (ev_up s k 1 (m_next (s k 1)))) : Ev layX M_X2_draw d 0 [(0, ev_r k), (1, ev_i 100)] [] s Q := by
  refine wp_X2_draw_0 hk ?_
  rintro _ rfl
  refine ⟨fun c => absurd c (by omega), fun _ => ⟨by omega, ?_⟩⟩
  rw [ev_up_same]
  exact h
