/-! THE LAW OF DOINGS, asked: a machine with a stack, the same on both sides -/
def m_two (op x y : Int) : Int := if op = 2 then ev_add x y else if op = 3 then ev_sub x y else if op = 4 then ev_mul x y else if op = 5 then ev_div x y else if op = 6 then (if x < y then 1 else 0) else if op = 7 then (if x = y then 1 else 0) else if op = 8 then (if y < x then 1 else 0) else if op = 10 then ev_mul x y else (if ev_add x y ≤ 0 then 0 else 1)
def m_lop (op ar q : Nat → Int) (i : Nat) (z : Nat × (Nat → Int)) : Nat × (Nat → Int) :=
  if op i = 0 then (z.1 + 1, rup z.2 z.1 (ar i))
  else if op i = 1 then (z.1 + 1, rup z.2 z.1 (q (ar i).toNat))
  else if op i = 9 then (z.1, rup z.2 (z.1 - 1) (ev_sub 1 (z.2 (z.1 - 1))))
  else (z.1 - 1, rup z.2 (z.1 - 2) (m_two (op i) (z.2 (z.1 - 2)) (z.2 (z.1 - 1))))
def m_lrun (op ar q : Nat → Int) : Nat → Nat → Nat × (Nat → Int) → Nat × (Nat → Int)
  | _, 0, z => z
  | i, n + 1, z => m_lrun op ar q (i + 1) n (m_lop op ar q i z)
/-- code that is well made: numbers under numbers, yes and no under yes and no, a divisor that is written and not 0, at most 32 things that wait -/
def m_lty (op ar : Nat → Int) : Nat → Nat → Nat → (Nat → Bool) → Prop
  | _, 0, t, tg => t = 1 ∧ tg 0 = true
  | i, n + 1, t, tg =>
    (op i = 0 ∧ t < 32 ∧ m_lty op ar (i + 1) n (t + 1) (fun j => if j = t then false else tg j)) ∨
    (op i = 1 ∧ t < 32 ∧ (0 ≤ ar i ∧ ar i ≤ 8) ∧ m_lty op ar (i + 1) n (t + 1) (fun j => if j = t then false else tg j)) ∨
    (op i = 9 ∧ 1 ≤ t ∧ tg (t - 1) = true ∧ m_lty op ar (i + 1) n t tg) ∨
    ((2 ≤ op i ∧ op i ≤ 5) ∧ 2 ≤ t ∧ (op i = 5 → op (i - 1) = 0 ∧ 1 ≤ ar (i - 1)) ∧ m_lty op ar (i + 1) n (t - 1) (fun j => if j = t - 2 then false else tg j)) ∨
    ((6 ≤ op i ∧ op i ≤ 8) ∧ 2 ≤ t ∧ m_lty op ar (i + 1) n (t - 1) (fun j => if j = t - 2 then true else tg j)) ∨
    ((10 ≤ op i ∧ op i ≤ 11) ∧ 2 ≤ t ∧ tg (t - 1) = true ∧ tg (t - 2) = true ∧ m_lty op ar (i + 1) n (t - 1) (fun j => if j = t - 2 then true else tg j))
/-- what holds while it runs -/
def m_linv (op ar : Nat → Int) (i t : Nat) (tg : Nat → Bool) (S : Nat → Int) : Prop := t ≤ 32 ∧ (∀ j, j < t → tg j = true → S j = 0 ∨ S j = 1) ∧ (0 < t → 0 < i → op (i - 1) = 0 → S (t - 1) = ar (i - 1))
def m_lval (op ar q : Nat → Int) (lf n : Nat) (S : Nat → Int) : Bool := if n = 0 then true else decide ((m_lrun op ar q lf n (0, S)).2 0 ≠ 0)
theorem ev_sub01 {x : Int} (h : x = 0 ∨ x = 1) : ev_sub 1 x = 0 ∨ ev_sub 1 x = 1 := by
  rcases h with rfl | rfl
  · right; exact ev_sub_eq ⟨by omega, by omega⟩
  · left; exact ev_sub_eq ⟨by omega, by omega⟩
theorem m_two01 {op x y : Int} (h : (6 ≤ op ∧ op ≤ 8) ∨ ((10 ≤ op ∧ op ≤ 11) ∧ (x = 0 ∨ x = 1) ∧ (y = 0 ∨ y = 1))) : m_two op x y = 0 ∨ m_two op x y = 1 := by
  unfold m_two
  rw [if_neg (by omega), if_neg (by omega), if_neg (by omega), if_neg (by omega)]
  rcases h with h | ⟨h, hx, hy⟩
  · by_cases e6 : op = 6
    · rw [if_pos e6]; split <;> simp
    · rw [if_neg e6]
      by_cases e7 : op = 7
      · rw [if_pos e7]; split <;> simp
      · rw [if_neg e7, if_pos (by omega)]; split <;> simp
  · rw [if_neg (by omega), if_neg (by omega), if_neg (by omega)]
    by_cases e : op = 10
    · rw [if_pos e]
      rcases hx with rfl | rfl <;> rcases hy with rfl | rfl <;> rw [ev_mul_eq ⟨by omega, by omega⟩] <;> simp
    · rw [if_neg e]; split <;> simp
theorem sp_twoOf {d : Nat} {s : ev_S} {Q : Option ev_V → ev_S → Prop} {op x y : Int} (hp : op = 5 → y ≠ 0) (h : Q (some (ev_i (m_two op x y))) s) : Ev layM M_X12_twoOf d 0 [(0, ev_r 0), (1, ev_i op), (2, ev_i x), (3, ev_i y)] [] s Q := by
  unfold m_two at h
  refine wp_X12_twoOf_0 ⟨fun c2 => ⟨fun c3 => ⟨fun c4 => ⟨fun c5 => ⟨fun c6 => ⟨fun c7 => ⟨fun c8 => ⟨fun c10 => ⟨fun c => ?_, fun c => ?_⟩, fun c10 => ?_⟩, fun c8 => ⟨fun c => ?_, fun c => ?_⟩⟩, fun c7 => ⟨fun c => ?_, fun c => ?_⟩⟩, fun c6 => ⟨fun c => ?_, fun c => ?_⟩⟩, fun c5 => ⟨hp c5, ?_⟩⟩, fun c4 => ?_⟩, fun c3 => ?_⟩, fun c2 => ?_⟩
  · rw [if_neg c2, if_neg c3, if_neg c4, if_neg c5, if_neg c6, if_neg c7, if_neg c8, if_neg c10, if_pos c] at h; exact h
  · rw [if_neg c2, if_neg c3, if_neg c4, if_neg c5, if_neg c6, if_neg c7, if_neg c8, if_neg c10, if_neg (by omega)] at h; exact h
  · rw [if_neg c2, if_neg c3, if_neg c4, if_neg c5, if_neg c6, if_neg c7, if_neg c8, if_pos c10] at h; exact h
  · rw [if_neg c2, if_neg c3, if_neg c4, if_neg c5, if_neg c6, if_neg c7, if_pos c8, if_neg (by omega)] at h; exact h
  · rw [if_neg c2, if_neg c3, if_neg c4, if_neg c5, if_neg c6, if_neg c7, if_pos c8, if_pos c] at h; exact h
  · rw [if_neg c2, if_neg c3, if_neg c4, if_neg c5, if_neg c6, if_pos c7, if_neg c] at h; exact h
  · rw [if_neg c2, if_neg c3, if_neg c4, if_neg c5, if_neg c6, if_pos c7, if_pos c] at h; exact h
  · rw [if_neg c2, if_neg c3, if_neg c4, if_neg c5, if_pos c6, if_neg (by omega)] at h; exact h
  · rw [if_neg c2, if_neg c3, if_neg c4, if_neg c5, if_pos c6, if_pos c] at h; exact h
  · rw [if_neg c2, if_neg c3, if_neg c4, if_pos c5] at h; exact h
  · rw [if_neg c2, if_neg c3, if_pos c4] at h; exact h
  · rw [if_neg c2, if_pos c3] at h; exact h
  · rw [if_pos c2] at h; exact h
/-- one step keeps to it -/
theorem m_lstep {op ar q : Nat → Int} {i n t : Nat} {tg : Nat → Bool} {S : Nat → Int} (hty : m_lty op ar i (n + 1) t tg) (hin : m_linv op ar i t tg S) :
    ∃ tg', m_lty op ar (i + 1) n (m_lop op ar q i (t, S)).1 tg' ∧ m_linv op ar (i + 1) (m_lop op ar q i (t, S)).1 tg' (m_lop op ar q i (t, S)).2 := by
  obtain ⟨h1, h2, h3⟩ := hin
  rcases hty with ⟨o, ht, hn⟩ | ⟨o, ht, ha, hn⟩ | ⟨o, ht, hg, hn⟩ | ⟨o, ht, hd, hn⟩ | ⟨o, ht, hn⟩ | ⟨o, ht, hg1, hg2, hn⟩
  · refine ⟨(fun j => if j = t then false else tg j), ?_, ?_⟩
    · simp only [m_lop, if_pos o]; exact hn
    · simp only [m_lop, if_pos o]
      refine ⟨by omega, fun j hj hg => ?_, fun _ _ _ => ?_⟩
      · by_cases e : j = t
        · simp [e] at hg
        · simp only [e, if_false] at hg
          rw [rup_ne _ _ e]; exact h2 j (by omega) hg
      · simp only [Nat.add_sub_cancel]; exact rup_same _ _ _
  · have n0 : ¬ op i = 0 := by omega
    refine ⟨(fun j => if j = t then false else tg j), ?_, ?_⟩
    · simp only [m_lop, if_neg n0, if_pos o]; exact hn
    · simp only [m_lop, if_neg n0, if_pos o]
      refine ⟨by omega, fun j hj hg => ?_, fun _ _ e => absurd e n0⟩
      by_cases e : j = t
      · simp [e] at hg
      · simp only [e, if_false] at hg
        rw [rup_ne _ _ e]; exact h2 j (by omega) hg
  · have n0 : ¬ op i = 0 := by omega
    have n1 : ¬ op i = 1 := by omega
    refine ⟨tg, ?_, ?_⟩
    · simp only [m_lop, if_neg n0, if_neg n1, if_pos o]; exact hn
    · simp only [m_lop, if_neg n0, if_neg n1, if_pos o]
      refine ⟨by omega, fun j hj hgj => ?_, fun _ _ e => absurd e n0⟩
      by_cases e : j = t - 1
      · subst e; rw [rup_same]; exact ev_sub01 (h2 _ hj hgj)
      · rw [rup_ne _ _ e]; exact h2 j hj hgj
  · have n0 : ¬ op i = 0 := by omega
    have n1 : ¬ op i = 1 := by omega
    have n9 : ¬ op i = 9 := by omega
    refine ⟨(fun j => if j = t - 2 then false else tg j), ?_, ?_⟩
    · simp only [m_lop, if_neg n0, if_neg n1, if_neg n9]; exact hn
    · simp only [m_lop, if_neg n0, if_neg n1, if_neg n9]
      refine ⟨by omega, fun j hj hg => ?_, fun _ _ e => absurd e n0⟩
      by_cases e : j = t - 2
      · simp [e] at hg
      · simp only [e, if_false] at hg
        rw [rup_ne _ _ e]; exact h2 j (by omega) hg
  · have n0 : ¬ op i = 0 := by omega
    have n1 : ¬ op i = 1 := by omega
    have n9 : ¬ op i = 9 := by omega
    refine ⟨(fun j => if j = t - 2 then true else tg j), ?_, ?_⟩
    · simp only [m_lop, if_neg n0, if_neg n1, if_neg n9]; exact hn
    · simp only [m_lop, if_neg n0, if_neg n1, if_neg n9]
      refine ⟨by omega, fun j hj hg => ?_, fun _ _ e => absurd e n0⟩
      by_cases e : j = t - 2
      · subst e; rw [rup_same]; exact m_two01 (Or.inl o)
      · simp only [e, if_false] at hg
        rw [rup_ne _ _ e]; exact h2 j (by omega) hg
  · have n0 : ¬ op i = 0 := by omega
    have n1 : ¬ op i = 1 := by omega
    have n9 : ¬ op i = 9 := by omega
    refine ⟨(fun j => if j = t - 2 then true else tg j), ?_, ?_⟩
    · simp only [m_lop, if_neg n0, if_neg n1, if_neg n9]; exact hn
    · simp only [m_lop, if_neg n0, if_neg n1, if_neg n9]
      refine ⟨by omega, fun j hj hg => ?_, fun _ _ e => absurd e n0⟩
      by_cases e : j = t - 2
      · subst e; rw [rup_same]; exact m_two01 (Or.inr ⟨o, h2 _ (by omega) hg2, h2 _ (by omega) hg1⟩)
      · simp only [e, if_false] at hg
        rw [rup_ne _ _ e]; exact h2 j (by omega) hg
/-- the model asks a line -/
theorem sp_isSo {d j lf n : Nat} {s : ev_S} {q S0 : Nat → Int} {Q : Option ev_V → ev_S → Prop} (hq : ∀ i, i < 9 → s 28 i = q i) (hj : j < 16) (hf : s 13 j = (lf : Int)) (hn : s 14 j = ((lf + n : Nat) : Int)) (hle : lf + n ≤ 400) (hty : 0 < n → m_lty (s 15) (s 16) lf n 0 (fun _ => false)) (h : ∀ s', (∀ c, c ≠ 29 → s' c = s c) → Q (some (ev_i (if m_lval (s 15) (s 16) q lf n S0 then 1 else 0))) s') : Ev layM M_X12_isSo (d + 1) 0 [(0, ev_r 0), (1, ev_i 0), (2, ev_i (j : Int))] [] s Q := by
  refine wp_X12_isSo_0 ?_
  rw [Int.toNat_natCast, hf, hn]
  refine ⟨by omega, by omega, fun c => ⟨by omega, ?_⟩, fun c => ?_⟩
  · have hn0 : n ≠ 0 := by intro e; apply c; rw [e]; omega
    rw [ev_mul_eq (x := 400) (y := 0) ⟨by omega, by omega⟩, ev_add_eq ⟨by omega, by omega⟩, show (400 : Int) * 0 + (lf : Int) = ((lf : Nat) : Int) by omega]
    have key : ∀ (m i t : Nat) (tg : Nat → Bool) (S : Nat → Int) (s1 : ev_S), i + m = lf + n → m_lty (s 15) (s 16) i m t tg → m_linv (s 15) (s 16) i t tg S → (∀ a, a < t → s1 29 a = S a) → (∀ c, c ≠ 29 → s1 c = s c) → m_lrun (s 15) (s 16) q i m (t, S) = m_lrun (s 15) (s 16) q lf n (0, S0) → Ev layM M_X12_isSo (d + 1) 33 [(0, ev_r 0), (1, ev_i 0), (2, ev_i (j : Int)), (3, ev_i (t : Int)), (4, ev_i (i : Int))] [] s1 Q := by
      intro m
      induction m with
      | zero =>
        intro i t tg S s1 hi ht hv hS hfr hrun
        have e14 : s1 14 j = ((lf + n : Nat) : Int) := by rw [hfr 14 (by omega)]; exact hn
        refine wp_X12_isSo_33 ?_
        rw [Int.toNat_natCast, e14, ev_mul_eq (x := 400) (y := 0) ⟨by omega, by omega⟩, ev_add_eq ⟨by omega, by omega⟩]
        have hz := h s1 hfr
        unfold m_lval at hz
        rw [if_neg hn0, ← hrun] at hz
        rw [hS 0 (by have := ht.1; omega)]
        refine ⟨by omega, fun _ => ⟨fun c2 => ?_, fun c2 => ?_⟩, fun c2 => absurd c2 (by omega)⟩
        · rw [show decide ((m_lrun (s 15) (s 16) q i 0 (t, S)).2 0 ≠ 0) = false from decide_eq_false (fun z => z c2)] at hz; exact hz
        · rw [show decide ((m_lrun (s 15) (s 16) q i 0 (t, S)).2 0 ≠ 0) = true from decide_eq_true c2] at hz; exact hz
      | succ m ih =>
        intro i t tg S s1 hi ht hv hS hfr hrun
        have e14 : s1 14 j = ((lf + n : Nat) : Int) := by rw [hfr 14 (by omega)]; exact hn
        have e15 : s1 15 = s 15 := hfr 15 (by omega)
        have e16 : s1 16 = s 16 := hfr 16 (by omega)
        have e28 : s1 28 = s 28 := hfr 28 (by omega)
        obtain ⟨tg', k1, k2⟩ := m_lstep (q := q) ht hv
        have next : ∀ s2 : ev_S, (∀ a, a < (m_lop (s 15) (s 16) q i (t, S)).1 → s2 29 a = (m_lop (s 15) (s 16) q i (t, S)).2 a) → (∀ c, c ≠ 29 → s2 c = s c) → Ev layM M_X12_isSo (d + 1) 33 [(0, ev_r 0), (1, ev_i 0), (2, ev_i (j : Int)), (3, ev_i ((m_lop (s 15) (s 16) q i (t, S)).1 : Int)), (4, ev_i ((i : Int) + 1))] [] s2 Q := by
          intro s2 h29 hf2
          exact ih (i + 1) _ tg' _ s2 (by omega) k1 k2 h29 hf2 hrun
        have upf : ∀ (a : Nat) (z : Int), ∀ c, c ≠ 29 → ev_up s1 29 a z c = s c := fun a z c hc => by rw [ev_upj _ _ hc]; exact hfr c hc
        have u29 : ∀ (b t' : Nat) (z : Int), t' ≤ t ∨ (t' = t + 1 ∧ b = t) → ∀ a, a < t' → ev_up s1 29 b z 29 a = rup S b z a := by
          intro b t' z ht' a ha
          by_cases e : a = b
          · subst e; rw [ev_up_same, rup_same]
          · rw [ev_up_ne _ _ (by omega), rup_ne _ _ e]; exact hS a (by omega)
        refine wp_X12_isSo_33 ?_
        rw [Int.toNat_natCast, Int.toNat_natCast, e14, e15, ev_mul_eq (x := 400) (y := 0) ⟨by omega, by omega⟩, ev_add_eq (x := 400 * 0) ⟨by omega, by omega⟩, ev_add_eq (x := (i : Int)) (y := 1) ⟨by omega, by omega⟩]
        have t32 : t ≤ 32 := hv.1
        refine ⟨by omega, fun c2 => absurd c2 (by omega), fun c2 => ⟨by omega, fun o => ?_, fun o => ⟨by omega, fun o1 => ⟨by omega, fun o9 => ?_, fun o9 => ?_⟩, fun o1 => ?_⟩⟩⟩
        · refine wp_X12_isSo_71 ?_
          rw [Int.toNat_natCast, Int.toNat_natCast, e15, e16, ev_add_eq (x := (i : Int)) (y := 1) ⟨by omega, by omega⟩, ev_add_eq (x := (t : Int)) (y := 1) ⟨by omega, by omega⟩]
          refine ⟨by omega, fun c3 => absurd o c3, fun _ => ⟨by omega, by omega, ?_⟩⟩
          rintro _ rfl
          have nx := next (ev_up s1 29 t (s 16 i)) (by simp only [m_lop, if_pos o]; exact u29 t (t + 1) _ (Or.inr ⟨rfl, rfl⟩)) (upf _ _)
          simp only [m_lop, if_pos o] at nx
          exact nx
        · have hb : 2 ≤ t ∧ (s 15 i = 5 → S (t - 1) ≠ 0) := by
            rcases ht with ⟨o', -⟩ | ⟨o', -⟩ | ⟨o', -⟩ | ⟨o', g, hd, -⟩ | ⟨o', g, -⟩ | ⟨o', g, -⟩
            · omega
            · omega
            · omega
            · refine ⟨g, fun e5 => ?_⟩
              obtain ⟨g1, g2⟩ := hd e5
              have hi0 : 0 < i := by
                rcases Nat.eq_zero_or_pos i with e0 | e0
                · subst e0; exact absurd g1 o
                · exact e0
              rw [hv.2.2 (by omega) hi0 g1]; omega
            · exact ⟨g, fun e5 => by omega⟩
            · exact ⟨g, fun e5 => by omega⟩
          rw [ev_sub_eq (x := (t : Int)) (y := 1) ⟨by omega, by omega⟩, ev_sub_eq (x := (t : Int) - 1) (y := 1) ⟨by omega, by omega⟩, show Int.toNat ((t : Int) - 1 - 1) = t - 2 by omega, show Int.toNat ((t : Int) - 1) = t - 1 by omega, hS (t - 1) (by omega), hS (t - 2) (by omega)]
          refine ⟨by omega, by omega, by omega, sp_twoOf hb.2 (ev_pi_mk ⟨by omega, ?_⟩)⟩
          rintro _ rfl
          have nx := next (ev_up s1 29 (t - 2) (m_two (s 15 i) (S (t - 2)) (S (t - 1)))) (by simp only [m_lop, if_neg o, if_neg o1, if_neg o9]; exact u29 (t - 2) (t - 1) _ (Or.inl (by omega))) (upf _ _)
          simp only [m_lop, if_neg o, if_neg o1, if_neg o9] at nx
          rw [show (((t - 1 : Nat)) : Int) = (t : Int) - 1 by omega] at nx
          exact nx
        · have hb : 1 ≤ t := by
            rcases ht with ⟨o', -⟩ | ⟨o', -⟩ | ⟨o', g, -⟩ | ⟨o', g, -⟩ | ⟨o', g, -⟩ | ⟨o', g, -⟩ <;> omega
          rw [ev_sub_eq (x := (t : Int)) (y := 1) ⟨by omega, by omega⟩, show Int.toNat ((t : Int) - 1) = t - 1 by omega, hS (t - 1) (by omega)]
          refine ⟨by omega, by omega, ?_⟩
          rintro _ rfl
          have nx := next (ev_up s1 29 (t - 1) (ev_sub 1 (S (t - 1)))) (by simp only [m_lop, if_neg o, if_neg o1, if_pos o9]; exact u29 (t - 1) t _ (Or.inl (by omega))) (upf _ _)
          simp only [m_lop, if_neg o, if_neg o1, if_pos o9] at nx
          exact nx
        · have ha : 0 ≤ s 16 i ∧ s 16 i ≤ 8 := by
            rcases ht with ⟨o', -⟩ | ⟨o', -, g, -⟩ | ⟨o', -⟩ | ⟨o', -⟩ | ⟨o', -⟩ | ⟨o', -⟩
            · omega
            · exact g
            · omega
            · omega
            · omega
            · omega
          refine wp_X12_isSo_71 ?_
          rw [Int.toNat_natCast, Int.toNat_natCast, e15, e16, e28, ev_add_eq (x := (i : Int)) (y := 1) ⟨by omega, by omega⟩, ev_add_eq (x := (t : Int)) (y := 1) ⟨by omega, by omega⟩]
          refine ⟨by omega, fun _ => ⟨by omega, by omega, by omega, ?_⟩, fun c3 => absurd c3 (by omega)⟩
          rintro _ rfl
          rw [hq _ (by omega)]
          have nx := next (ev_up s1 29 t (q (s 16 i).toNat)) (by simp only [m_lop, if_neg o, if_pos o1]; exact u29 t (t + 1) _ (Or.inr ⟨rfl, rfl⟩)) (upf _ _)
          simp only [m_lop, if_neg o, if_pos o1] at nx
          exact nx
    exact key n lf 0 (fun _ => false) S0 s rfl (hty (by omega)) ⟨by omega, fun a ha => absurd ha (by omega), fun a => absurd a (by omega)⟩ (fun a ha => absurd ha (by omega)) (fun _ _ => rfl) rfl
  · have e0 : n = 0 := by omega
    have hz := h s (fun _ _ => rfl)
    unfold m_lval at hz
    rw [if_pos e0] at hz
    exact hz
