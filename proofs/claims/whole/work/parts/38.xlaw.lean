/-! the class asks a line -/
theorem ev_and01 {x y : Int} (hx : x = 0 ∨ x = 1) (hy : y = 0 ∨ y = 1) : ev_and x y = ev_mul x y := by
  rcases hx with rfl | rfl <;> rcases hy with rfl | rfl <;> decide +kernel
theorem ev_or01 {x y : Int} (hx : x = 0 ∨ x = 1) (hy : y = 0 ∨ y = 1) : ev_or x y = (if ev_add x y ≤ 0 then 0 else 1) := by
  rcases hx with rfl | rfl <;> rcases hy with rfl | rfl <;> decide +kernel
theorem sp_joined {d : Nat} {s : ev_S} {Q : Option ev_V → ev_S → Prop} {op x y : Int} (ho : (2 ≤ op ∧ op ≤ 8) ∨ ((10 ≤ op ∧ op ≤ 11) ∧ (x = 0 ∨ x = 1) ∧ (y = 0 ∨ y = 1))) (hp : op = 5 → y ≠ 0) (h : Q (some (ev_i (m_two op x y))) s) : Ev layX M_X4_joined d 0 [(0, ev_i (op + 8)), (1, ev_i x), (2, ev_i y)] [] s Q := by
  unfold m_two at h
  refine wp_X4_joined_0 ⟨fun c => ?_, fun c => ?_, fun c => ?_, fun c => ?_, fun c => ⟨fun c2 => ⟨c2, ?_⟩, fun c2 => absurd c2 (hp (by omega))⟩, fun c => ⟨fun c2 => ?_, fun c2 => ?_⟩, fun c => ⟨fun c2 => ?_, fun c2 => ?_⟩, fun c => ⟨fun c2 => ?_, fun c2 => ?_⟩, fun c => ?_, fun c => ?_⟩
  · have e : op = 11 := by omega
    obtain ⟨-, hx, hy⟩ : _ ∧ (x = 0 ∨ x = 1) ∧ (y = 0 ∨ y = 1) := by
      rcases ho with ho | ho
      · omega
      · exact ho
    rw [if_neg (by omega), if_neg (by omega), if_neg (by omega), if_neg (by omega), if_neg (by omega), if_neg (by omega), if_neg (by omega), if_neg (by omega)] at h
    rw [ev_or01 hx hy]; exact h
  · rw [if_pos (by omega)] at h; exact h
  · rw [if_neg (by omega), if_pos (by omega)] at h; exact h
  · rw [if_neg (by omega), if_neg (by omega), if_pos (by omega)] at h; exact h
  · rw [if_neg (by omega), if_neg (by omega), if_neg (by omega), if_pos (by omega)] at h; exact h
  · rw [if_neg (by omega), if_neg (by omega), if_neg (by omega), if_neg (by omega), if_pos (by omega), if_neg (by omega)] at h; exact h
  · rw [if_neg (by omega), if_neg (by omega), if_neg (by omega), if_neg (by omega), if_pos (by omega), if_pos (by omega)] at h; exact h
  · rw [if_neg (by omega), if_neg (by omega), if_neg (by omega), if_neg (by omega), if_neg (by omega), if_pos (by omega), if_neg c2] at h; exact h
  · rw [if_neg (by omega), if_neg (by omega), if_neg (by omega), if_neg (by omega), if_neg (by omega), if_pos (by omega), if_pos c2] at h; exact h
  · rw [if_neg (by omega), if_neg (by omega), if_neg (by omega), if_neg (by omega), if_neg (by omega), if_neg (by omega), if_pos (by omega), if_neg (by omega)] at h; exact h
  · rw [if_neg (by omega), if_neg (by omega), if_neg (by omega), if_neg (by omega), if_neg (by omega), if_neg (by omega), if_pos (by omega), if_pos c2] at h; exact h
  · omega
  · have e : op = 10 := by omega
    obtain ⟨-, hx, hy⟩ : _ ∧ (x = 0 ∨ x = 1) ∧ (y = 0 ∨ y = 1) := by
      rcases ho with ho | ho
      · omega
      · exact ho
    rw [if_neg (by omega), if_neg (by omega), if_neg (by omega), if_neg (by omega), if_neg (by omega), if_neg (by omega), if_neg (by omega), if_pos e] at h
    rw [ev_and01 hx hy]; exact h
/-- the class's code from f (lf) to f (lf + n), against the model's -/
def XLc (s : ev_S) (k : Nat) (f : Nat → Nat) (op ar : Nat → Int) (lf n : Nat) : Prop :=
  ∀ i : Nat, lf ≤ i → i < lf + n → f (i + 1) ≤ 800 ∧ (op i = 0 → f (i + 1) = f i + 2 ∧ s (k + 1) (f i) = 9 ∧ s (k + 1) (f i + 1) = ar i) ∧ (op i = 1 → f (i + 1) = f i + 1 ∧ s (k + 1) (f i) = ar i) ∧ (2 ≤ op i → f (i + 1) = f i + 1 ∧ s (k + 1) (f i) = op i + 8)
theorem XLc_mono {s : ev_S} {k : Nat} {f : Nat → Nat} {op ar : Nat → Int} {lf n : Nat} (h : XLc s k f op ar lf n) (hop : ∀ i, lf ≤ i → i < lf + n → 0 ≤ op i) : ∀ m i, lf ≤ i → i + m = lf + n → f i + m ≤ f (lf + n)
  | 0, i, _, e => by rw [← e]; exact Nat.le_refl _
  | m + 1, i, hi, e => by
    have ih := XLc_mono h hop m (i + 1) (by omega) (by omega)
    obtain ⟨-, h0, h1, h2⟩ := h i hi (by omega)
    have hp := hop i hi (by omega)
    rcases Int.lt_or_eq_of_le hp with q | q
    · by_cases e1 : op i = 1
      · have := (h1 e1).1; omega
      · have := (h2 (by omega)).1; omega
    · have := (h0 q.symm).1; omega
theorem m_lty_op {op ar : Nat → Int} : ∀ n i t tg, m_lty op ar i n t tg → ∀ i', i ≤ i' → i' < i + n → 0 ≤ op i'
  | 0, i, _, _, _, i', h1, h2 => by omega
  | n + 1, i, t, tg, h, i', h1, h2 => by
    by_cases e : i' = i
    · subst e
      rcases h with ⟨o, -⟩ | ⟨o, -⟩ | ⟨o, -⟩ | ⟨o, -⟩ | ⟨o, -⟩ | ⟨o, -⟩ <;> omega
    · rcases h with ⟨-, -, h⟩ | ⟨-, -, -, h⟩ | ⟨-, -, -, h⟩ | ⟨-, -, -, h⟩ | ⟨-, -, h⟩ | ⟨-, -, -, -, h⟩ <;> exact m_lty_op n (i + 1) _ _ h i' (by omega) (by omega)
theorem sp_speaks {d k j lf n : Nat} {s : ev_S} {op ar q S0 : Nat → Int} {f : Nat → Nat} {Q : Option ev_V → ev_S → Prop} (hk : is_X4 k) (hk5 : k + 4 < 145 ∨ 145 < k) (hj : j < 16) (hl : (j : Int) < s k 5) (hf : s (k + 2) j = (f lf : Int)) (he : s (k + 2) (j + 1) = (f (lf + n) : Int)) (h8 : f lf ≤ 800) (hc : XLc s k f op ar lf n) (hq : ∀ i, i < 9 → s 145 i = q i) (hty : 0 < n → m_lty op ar lf n 0 (fun _ => false)) (h : ∀ s', (∀ c, c ≠ k + 4 → s' c = s c) → Q (some (ev_i (if m_lval op ar q lf n S0 then 1 else 0))) s') : Ev layX M_X4_speaks (d + 1) 0 [(0, ev_r k), (1, ev_i (j : Int)), (2, ev_r 145)] [] s Q := by
  have hop : ∀ i, lf ≤ i → i < lf + n → 0 ≤ op i := by
    intro i h1 h2
    exact m_lty_op n lf 0 _ (hty (by omega)) i h1 h2
  have hmono := XLc_mono hc hop
  have h800 : f (lf + n) ≤ 800 := by
    rcases Nat.eq_zero_or_pos n with e | e
    · rw [e]; exact h8
    · have := (hc (lf + n - 1) (by omega) (by omega)).1
      rw [show lf + n - 1 + 1 = lf + n by omega] at this; exact this
  refine wp_X4_speaks_0 hk yX_145 (by omega) ⟨fun c => absurd c (by omega), fun _ => ⟨fun _ => ?_, fun c => absurd c (by omega)⟩⟩
  rw [ev_add_eq (x := (j : Int)) (y := 1) ⟨by omega, by omega⟩, show Int.toNat ((j : Int) + 1) = j + 1 by omega, Int.toNat_natCast, hf, he, Int.min_eq_left (by omega)]
  refine ⟨by omega, by omega, ?_⟩
  have key : ∀ (m i t : Nat) (tg : Nat → Bool) (S : Nat → Int) (s1 : ev_S), lf ≤ i → i + m = lf + n → (0 < n → m_lty op ar i m t tg) → m_linv op ar i t tg S → (n = 0 → t = 0) → (∀ a, a < t → s1 (k + 4) a = S a) → (∀ c, c ≠ k + 4 → s1 c = s c) → m_lrun op ar q i m (t, S) = m_lrun op ar q lf n (0, S0) → Ev layX M_X4_speaks (d + 1) 40 [(0, ev_r k), (2, ev_r 145), (3, ev_i (f (lf + n) : Int)), (4, ev_i (t : Int)), (5, ev_i (f i : Int))] [] s1 Q := by
    intro m
    induction m with
    | zero =>
      intro i t tg S s1 hli hi ht hv hn0 hS hfr hrun
      have ei : i = lf + n := by omega
      rw [ei]
      have t32 : t ≤ 32 := hv.1
      refine wp_X4_speaks_40 hk yX_145 (by omega) ⟨fun _ => ⟨fun c => ?_, fun c => ?_⟩, fun c => absurd c (by omega)⟩
      · have e0 : n = 0 := by
          rcases Nat.eq_zero_or_pos n with e | e
          · exact e
          · have := (ht e).1; omega
        have hz := h s1 hfr
        unfold m_lval at hz
        rw [if_pos e0] at hz
        exact hz
      · have hn : 0 < n := by
          rcases Nat.eq_zero_or_pos n with e | e
          · have := hn0 e; omega
          · exact e
        have t1 : t = 1 := (ht hn).1
        subst t1
        rw [ev_sub_eq ⟨by omega, by omega⟩, show Int.toNat (((1 : Nat) : Int) - 1) = 0 from rfl, hS 0 (by omega)]
        have hz := h s1 hfr
        unfold m_lval at hz
        rw [if_neg (show ¬ n = 0 by omega), ← hrun] at hz
        refine ⟨by omega, fun c2 => ?_, fun c2 => ?_⟩
        · rw [show decide ((m_lrun op ar q i 0 (1, S)).2 0 ≠ 0) = false from decide_eq_false (fun z => z c2)] at hz; exact hz
        · rw [show decide ((m_lrun op ar q i 0 (1, S)).2 0 ≠ 0) = true from decide_eq_true c2] at hz; exact hz
    | succ m ih =>
      intro i t tg S s1 hli hi ht hv hn0 hS hfr hrun
      have hn : 0 < n := by omega
      have ht := ht hn
      have t32 : t ≤ 32 := hv.1
      obtain ⟨g800, g0, g1, g2⟩ := hc i hli (by omega)
      have hm1 := hmono m (i + 1) (by omega) (by omega)
      have e1 : s1 (k + 1) = s (k + 1) := hfr (k + 1) (by omega)
      have e145 : s1 145 = s 145 := hfr 145 (by omega)
      obtain ⟨tg', k1, k2⟩ := m_lstep (q := q) ht hv
      have next : ∀ s2 : ev_S, (∀ a, a < (m_lop op ar q i (t, S)).1 → s2 (k + 4) a = (m_lop op ar q i (t, S)).2 a) → (∀ c, c ≠ k + 4 → s2 c = s c) → Ev layX M_X4_speaks (d + 1) 40 [(0, ev_r k), (2, ev_r 145), (3, ev_i (f (lf + n) : Int)), (4, ev_i ((m_lop op ar q i (t, S)).1 : Int)), (5, ev_i (f (i + 1) : Int))] [] s2 Q := by
        intro s2 h29 hf2
        exact ih (i + 1) _ tg' _ s2 (by omega) (by omega) (fun _ => k1) k2 (fun e => absurd e (by omega)) h29 hf2 hrun
      have upf : ∀ (a : Nat) (z : Int), ∀ c, c ≠ k + 4 → ev_up s1 (k + 4) a z c = s c := fun a z c hcc => by rw [ev_upj _ _ hcc]; exact hfr c hcc
      have hfi : f i < f (lf + n) := by have := hmono (m + 1) i hli hi; omega
      refine wp_X4_speaks_40 hk yX_145 (by omega) ⟨fun c => absurd c (by omega), fun _ => ?_⟩
      rw [Int.toNat_natCast, Int.toNat_natCast, e1, ev_add_eq (x := (f i : Int)) (y := 1) ⟨by omega, by omega⟩, show Int.toNat ((f i : Int) + 1) = f i + 1 by omega]
      refine ⟨by omega, fun o => wp_X4_speaks_100 hk yX_145 (by omega) ?_, fun o => ?_⟩
      · have o0 : op i ≠ 0 := fun e => o (g0 e).2.1
        have hp := hop i hli (by omega)
        rw [ev_add_eq (x := (f i : Int)) (y := 1) ⟨by omega, by omega⟩, Int.toNat_natCast, e145]
        by_cases o1 : op i = 1
        · obtain ⟨f1, f2⟩ := g1 o1
          have ha : t < 32 ∧ 0 ≤ ar i ∧ ar i ≤ 8 := by
            rcases ht with ⟨o', -⟩ | ⟨o', g', g, -⟩ | ⟨o', -⟩ | ⟨o', -⟩ | ⟨o', -⟩ | ⟨o', -⟩
            · omega
            · exact ⟨g', g⟩
            · omega
            · omega
            · omega
            · omega
          rw [f2]
          refine ⟨fun c => absurd c (by omega), fun _ => ⟨fun c => absurd c (by omega), fun _ => ⟨fun c => absurd c (by omega), fun _ => ⟨by omega, by omega, ?_⟩⟩⟩⟩
          rintro _ rfl
          rw [hq _ (by omega), ev_add_eq (x := (t : Int)) (y := 1) ⟨by omega, by omega⟩]
          have nx := next (ev_up s1 (k + 4) t (q (ar i).toNat)) (by
            intro a hlt
            simp only [m_lop, if_neg o0, if_pos o1] at hlt ⊢
            by_cases ea : a = t
            · subst ea; rw [ev_up_same, rup_same]
            · rw [ev_up_ne _ _ (by omega), rup_ne _ _ ea]; exact hS a (by omega)) (upf _ _)
          simp only [m_lop, if_neg o0, if_pos o1, f1] at nx
          exact nx
        · obtain ⟨f1, f2⟩ := g2 (by omega)
          rw [f2]
          have go : Ev layX M_X4_speaks (d + 1) 136 [(0, ev_r k), (2, ev_r 145), (3, ev_i (f (lf + n) : Int)), (4, ev_i (t : Int)), (5, ev_i (f i : Int)), (6, ev_i (op i + 8))] [] s1 Q := by
            refine wp_X4_speaks_136 hk yX_145 (by omega) ?_
            by_cases o9 : op i = 9
            · have hb : 1 ≤ t := by
                rcases ht with ⟨o', -⟩ | ⟨o', -⟩ | ⟨o', g, -⟩ | ⟨o', g, -⟩ | ⟨o', g, -⟩ | ⟨o', g, -⟩ <;> omega
              rw [ev_sub_eq (x := (t : Int)) (y := 1) ⟨by omega, by omega⟩, show Int.toNat ((t : Int) - 1) = t - 1 by omega, ev_add_eq (x := (f i : Int)) (y := 1) ⟨by omega, by omega⟩, hS (t - 1) (by omega)]
              refine ⟨fun c => absurd c (by omega), fun _ => ⟨fun c => absurd c (by omega), fun _ => ⟨by omega, by omega, ?_⟩⟩⟩
              rintro _ rfl
              have nx := next (ev_up s1 (k + 4) (t - 1) (ev_sub 1 (S (t - 1)))) (by
                intro a hlt
                simp only [m_lop, if_neg o0, if_neg o1, if_pos o9] at hlt ⊢
                by_cases ea : a = t - 1
                · subst ea; rw [ev_up_same, rup_same]
                · rw [ev_up_ne _ _ (by omega), rup_ne _ _ ea]; exact hS a (by omega)) (upf _ _)
              simp only [m_lop, if_neg o0, if_neg o1, if_pos o9, f1] at nx
              exact nx
            · refine ⟨fun _ => ?_, fun c => absurd c (by omega)⟩
              have hb : 2 ≤ t ∧ (op i = 5 → S (t - 1) ≠ 0) ∧ ((2 ≤ op i ∧ op i ≤ 8) ∨ ((10 ≤ op i ∧ op i ≤ 11) ∧ (S (t - 2) = 0 ∨ S (t - 2) = 1) ∧ (S (t - 1) = 0 ∨ S (t - 1) = 1))) := by
                rcases ht with ⟨o', -⟩ | ⟨o', -⟩ | ⟨o', -⟩ | ⟨o', g, hd, -⟩ | ⟨o', g, -⟩ | ⟨o', g, w1, w2, -⟩
                · omega
                · omega
                · omega
                · refine ⟨g, fun e5 => ?_, Or.inl (by omega)⟩
                  obtain ⟨q1, q2⟩ := hd e5
                  have hi0 : 0 < i := by
                    rcases Nat.eq_zero_or_pos i with e0 | e0
                    · subst e0; exact absurd q1 o0
                    · exact e0
                  rw [hv.2.2 (by omega) hi0 q1]; omega
                · exact ⟨g, fun e5 => by omega, Or.inl (by omega)⟩
                · exact ⟨g, fun e5 => by omega, Or.inr ⟨o', hv.2.1 _ (by omega) w2, hv.2.1 _ (by omega) w1⟩⟩
              refine wp_X4_speaks_171 hk yX_145 (by omega) ⟨fun c => absurd c (by omega), fun _ => ?_⟩
              rw [ev_add_eq (x := (t : Int)) (y := -1) ⟨by omega, by omega⟩, ev_sub_eq (x := (t : Int) + -1) (y := 1) ⟨by omega, by omega⟩, show Int.toNat ((t : Int) + -1 - 1) = t - 2 by omega, show Int.toNat ((t : Int) + -1) = t - 1 by omega, ev_add_eq (x := (f i : Int)) (y := 1) ⟨by omega, by omega⟩, hS (t - 1) (by omega), hS (t - 2) (by omega)]
              refine ⟨by omega, by omega, sp_joined hb.2.2 hb.2.1 (ev_pi_mk ⟨by omega, ?_⟩)⟩
              rintro _ rfl
              have nx := next (ev_up s1 (k + 4) (t - 2) (m_two (op i) (S (t - 2)) (S (t - 1)))) (by
                intro a hlt
                simp only [m_lop, if_neg o0, if_neg o1, if_neg o9] at hlt ⊢
                by_cases ea : a = t - 2
                · subst ea; rw [ev_up_same, rup_same]
                · rw [ev_up_ne _ _ (by omega), rup_ne _ _ ea]; exact hS a (by omega)) (upf _ _)
              simp only [m_lop, if_neg o0, if_neg o1, if_neg o9, f1] at nx
              rw [show ((t - 1 : Nat) : Int) = (t : Int) + -1 by omega] at nx
              exact nx
          exact ⟨fun _ => go, fun _ => ⟨fun _ => go, fun c => absurd c (by omega)⟩⟩
      · have o0 : op i = 0 := by
          rcases Int.lt_or_eq_of_le (hop i hli (by omega)) with z | z
          · by_cases o1 : op i = 1
            · have w1 := (g1 o1).2
              rcases ht with ⟨o', -⟩ | ⟨o', g', g, -⟩ | ⟨o', -⟩ | ⟨o', -⟩ | ⟨o', -⟩ | ⟨o', -⟩ <;> omega
            · have := (g2 (by omega)).2; omega
          · exact z.symm
        obtain ⟨f1, f2, f3⟩ := g0 o0
        have ha : t < 32 := by
          rcases ht with ⟨o', g, -⟩ | ⟨o', -⟩ | ⟨o', -⟩ | ⟨o', -⟩ | ⟨o', -⟩ | ⟨o', -⟩ <;> omega
        refine ⟨fun c => absurd c (by omega), fun _ => ⟨fun c => absurd c (by omega), fun _ => ⟨by omega, by omega, ?_⟩⟩⟩
        rintro _ rfl
        rw [f3, ev_add_eq (x := (t : Int)) (y := 1) ⟨by omega, by omega⟩, ev_add_eq (x := (f i : Int) + 1) (y := 1) ⟨by omega, by omega⟩]
        have nx := next (ev_up s1 (k + 4) t (ar i)) (by
          intro a hlt
          simp only [m_lop, if_pos o0] at hlt ⊢
          by_cases ea : a = t
          · subst ea; rw [ev_up_same, rup_same]
          · rw [ev_up_ne _ _ (by omega), rup_ne _ _ ea]; exact hS a (by omega)) (upf _ _)
        simp only [m_lop, if_pos o0, f1] at nx
        rw [show ((f i + 2 : Nat) : Int) = (f i : Int) + 1 + 1 by omega] at nx
        exact nx
  exact key n lf 0 (fun _ => false) S0 s (by omega) rfl hty ⟨by omega, fun a ha => absurd ha (by omega), fun a => absurd a (by omega)⟩ (fun _ => rfl) (fun a ha => absurd ha (by omega)) (fun _ _ => rfl) rfl
