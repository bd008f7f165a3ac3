section
/-! THE IMAGE: the model, all numbers behind one another -/
def LC (p c i : Nat) : Prop := (c = 1 ∧ i < 87 ∧ p = i) ∨ (c = 0 ∧ i = 6 ∧ p = 87) ∨ (c = 0 ∧ i = 7 ∧ p = 88) ∨ (c = 0 ∧ i = 8 ∧ p = 89) ∨ (c = 4 ∧ i < 5 ∧ p = 90 + i) ∨ (c = 0 ∧ i = 10 ∧ p = 95) ∨ (c = 0 ∧ i = 11 ∧ p = 96) ∨ (c = 0 ∧ i = 12 ∧ p = 97) ∨ (c = 6 ∧ i < 6 ∧ p = 98 + 3 * i) ∨ (c = 7 ∧ i < 6 ∧ p = 99 + 3 * i) ∨ (c = 8 ∧ i < 6 ∧ p = 100 + 3 * i) ∨ (c = 21 ∧ i < 8 ∧ p = 116 + i) ∨ (c = 20 ∧ i < 4800 ∧ p = 124 + i) ∨ (c = 5 ∧ i < 6 ∧ p = 4924 + 2 * i) ∨ (c = 27 ∧ i < 6 ∧ p = 4925 + 2 * i) ∨ (c = 25 ∧ i < 240 ∧ p = 4936 + 2 * i) ∨ (c = 26 ∧ i < 240 ∧ p = 4937 + 2 * i) ∨ (c = 0 ∧ i = 46 ∧ p = 5416) ∨ (c = 24 ∧ i < 70 ∧ p = 5417 + i) ∨ (c = 9 ∧ i < 500 ∧ p = 5487 + i) ∨ (c = 0 ∧ i = 25 ∧ p = 5987) ∨ (c = 12 ∧ i < 16 ∧ p = 5988 + 3 * i) ∨ (c = 13 ∧ i < 16 ∧ p = 5989 + 3 * i) ∨ (c = 14 ∧ i < 16 ∧ p = 5990 + 3 * i) ∨ (c = 15 ∧ i < 400 ∧ p = 6036 + 2 * i) ∨ (c = 16 ∧ i < 400 ∧ p = 6037 + 2 * i)
theorem LC_1 {i : Nat} (h : i < 87) : LC (i) 1 i := Or.inl ⟨rfl, h, rfl⟩
theorem LC_0_6 : LC 87 0 6 := Or.inr (Or.inl ⟨rfl, rfl, rfl⟩)
theorem LC_0_7 : LC 88 0 7 := Or.inr (Or.inr (Or.inl ⟨rfl, rfl, rfl⟩))
theorem LC_0_8 : LC 89 0 8 := Or.inr (Or.inr (Or.inr (Or.inl ⟨rfl, rfl, rfl⟩)))
theorem LC_4 {i : Nat} (h : i < 5) : LC (90 + i) 4 i := Or.inr (Or.inr (Or.inr (Or.inr (Or.inl ⟨rfl, h, rfl⟩))))
theorem LC_0_10 : LC 95 0 10 := Or.inr (Or.inr (Or.inr (Or.inr (Or.inr (Or.inl ⟨rfl, rfl, rfl⟩)))))
theorem LC_0_11 : LC 96 0 11 := Or.inr (Or.inr (Or.inr (Or.inr (Or.inr (Or.inr (Or.inl ⟨rfl, rfl, rfl⟩))))))
theorem LC_0_12 : LC 97 0 12 := Or.inr (Or.inr (Or.inr (Or.inr (Or.inr (Or.inr (Or.inr (Or.inl ⟨rfl, rfl, rfl⟩)))))))
theorem LC_6 {i : Nat} (h : i < 6) : LC (98 + 3 * i) 6 i := Or.inr (Or.inr (Or.inr (Or.inr (Or.inr (Or.inr (Or.inr (Or.inr (Or.inl ⟨rfl, h, rfl⟩))))))))
theorem LC_7 {i : Nat} (h : i < 6) : LC (99 + 3 * i) 7 i := Or.inr (Or.inr (Or.inr (Or.inr (Or.inr (Or.inr (Or.inr (Or.inr (Or.inr (Or.inl ⟨rfl, h, rfl⟩)))))))))
theorem LC_8 {i : Nat} (h : i < 6) : LC (100 + 3 * i) 8 i := Or.inr (Or.inr (Or.inr (Or.inr (Or.inr (Or.inr (Or.inr (Or.inr (Or.inr (Or.inr (Or.inl ⟨rfl, h, rfl⟩))))))))))
theorem LC_21 {i : Nat} (h : i < 8) : LC (116 + i) 21 i := Or.inr (Or.inr (Or.inr (Or.inr (Or.inr (Or.inr (Or.inr (Or.inr (Or.inr (Or.inr (Or.inr (Or.inl ⟨rfl, h, rfl⟩)))))))))))
theorem LC_20 {i : Nat} (h : i < 4800) : LC (124 + i) 20 i := Or.inr (Or.inr (Or.inr (Or.inr (Or.inr (Or.inr (Or.inr (Or.inr (Or.inr (Or.inr (Or.inr (Or.inr (Or.inl ⟨rfl, h, rfl⟩))))))))))))
theorem LC_5 {i : Nat} (h : i < 6) : LC (4924 + 2 * i) 5 i := Or.inr (Or.inr (Or.inr (Or.inr (Or.inr (Or.inr (Or.inr (Or.inr (Or.inr (Or.inr (Or.inr (Or.inr (Or.inr (Or.inl ⟨rfl, h, rfl⟩)))))))))))))
theorem LC_27 {i : Nat} (h : i < 6) : LC (4925 + 2 * i) 27 i := Or.inr (Or.inr (Or.inr (Or.inr (Or.inr (Or.inr (Or.inr (Or.inr (Or.inr (Or.inr (Or.inr (Or.inr (Or.inr (Or.inr (Or.inl ⟨rfl, h, rfl⟩))))))))))))))
theorem LC_25 {i : Nat} (h : i < 240) : LC (4936 + 2 * i) 25 i := Or.inr (Or.inr (Or.inr (Or.inr (Or.inr (Or.inr (Or.inr (Or.inr (Or.inr (Or.inr (Or.inr (Or.inr (Or.inr (Or.inr (Or.inr (Or.inl ⟨rfl, h, rfl⟩)))))))))))))))
theorem LC_26 {i : Nat} (h : i < 240) : LC (4937 + 2 * i) 26 i := Or.inr (Or.inr (Or.inr (Or.inr (Or.inr (Or.inr (Or.inr (Or.inr (Or.inr (Or.inr (Or.inr (Or.inr (Or.inr (Or.inr (Or.inr (Or.inr (Or.inl ⟨rfl, h, rfl⟩))))))))))))))))
theorem LC_0_46 : LC 5416 0 46 := Or.inr (Or.inr (Or.inr (Or.inr (Or.inr (Or.inr (Or.inr (Or.inr (Or.inr (Or.inr (Or.inr (Or.inr (Or.inr (Or.inr (Or.inr (Or.inr (Or.inr (Or.inl ⟨rfl, rfl, rfl⟩)))))))))))))))))
theorem LC_24 {i : Nat} (h : i < 70) : LC (5417 + i) 24 i := Or.inr (Or.inr (Or.inr (Or.inr (Or.inr (Or.inr (Or.inr (Or.inr (Or.inr (Or.inr (Or.inr (Or.inr (Or.inr (Or.inr (Or.inr (Or.inr (Or.inr (Or.inr (Or.inl ⟨rfl, h, rfl⟩))))))))))))))))))
theorem LC_9 {i : Nat} (h : i < 500) : LC (5487 + i) 9 i := Or.inr (Or.inr (Or.inr (Or.inr (Or.inr (Or.inr (Or.inr (Or.inr (Or.inr (Or.inr (Or.inr (Or.inr (Or.inr (Or.inr (Or.inr (Or.inr (Or.inr (Or.inr (Or.inr (Or.inl ⟨rfl, h, rfl⟩)))))))))))))))))))
theorem LC_0_25 : LC 5987 0 25 := Or.inr (Or.inr (Or.inr (Or.inr (Or.inr (Or.inr (Or.inr (Or.inr (Or.inr (Or.inr (Or.inr (Or.inr (Or.inr (Or.inr (Or.inr (Or.inr (Or.inr (Or.inr (Or.inr (Or.inr (Or.inl ⟨rfl, rfl, rfl⟩))))))))))))))))))))
theorem LC_12 {i : Nat} (h : i < 16) : LC (5988 + 3 * i) 12 i := Or.inr (Or.inr (Or.inr (Or.inr (Or.inr (Or.inr (Or.inr (Or.inr (Or.inr (Or.inr (Or.inr (Or.inr (Or.inr (Or.inr (Or.inr (Or.inr (Or.inr (Or.inr (Or.inr (Or.inr (Or.inr (Or.inl ⟨rfl, h, rfl⟩)))))))))))))))))))))
theorem LC_13 {i : Nat} (h : i < 16) : LC (5989 + 3 * i) 13 i := Or.inr (Or.inr (Or.inr (Or.inr (Or.inr (Or.inr (Or.inr (Or.inr (Or.inr (Or.inr (Or.inr (Or.inr (Or.inr (Or.inr (Or.inr (Or.inr (Or.inr (Or.inr (Or.inr (Or.inr (Or.inr (Or.inr (Or.inl ⟨rfl, h, rfl⟩))))))))))))))))))))))
theorem LC_14 {i : Nat} (h : i < 16) : LC (5990 + 3 * i) 14 i := Or.inr (Or.inr (Or.inr (Or.inr (Or.inr (Or.inr (Or.inr (Or.inr (Or.inr (Or.inr (Or.inr (Or.inr (Or.inr (Or.inr (Or.inr (Or.inr (Or.inr (Or.inr (Or.inr (Or.inr (Or.inr (Or.inr (Or.inr (Or.inl ⟨rfl, h, rfl⟩)))))))))))))))))))))))
theorem LC_15 {i : Nat} (h : i < 400) : LC (6036 + 2 * i) 15 i := Or.inr (Or.inr (Or.inr (Or.inr (Or.inr (Or.inr (Or.inr (Or.inr (Or.inr (Or.inr (Or.inr (Or.inr (Or.inr (Or.inr (Or.inr (Or.inr (Or.inr (Or.inr (Or.inr (Or.inr (Or.inr (Or.inr (Or.inr (Or.inr (Or.inl ⟨rfl, h, rfl⟩))))))))))))))))))))))))
theorem LC_16 {i : Nat} (h : i < 400) : LC (6037 + 2 * i) 16 i := Or.inr (Or.inr (Or.inr (Or.inr (Or.inr (Or.inr (Or.inr (Or.inr (Or.inr (Or.inr (Or.inr (Or.inr (Or.inr (Or.inr (Or.inr (Or.inr (Or.inr (Or.inr (Or.inr (Or.inr (Or.inr (Or.inr (Or.inr (Or.inr (Or.inr (⟨rfl, h, rfl⟩)))))))))))))))))))))))))
theorem LC_cells {p c i : Nat} (h : LC p c i) : p < 6836 ∧ ((c = 0 ∧ (i = 6 ∨ i = 7 ∨ i = 8 ∨ i = 10 ∨ i = 11 ∨ i = 12 ∨ i = 25 ∨ i = 46)) ∨ c = 1 ∨ (4 ≤ c ∧ c ≤ 9) ∨ (12 ≤ c ∧ c ≤ 16) ∨ c = 20 ∨ c = 21 ∨ (24 ≤ c ∧ c ≤ 27)) := by
  unfold LC at h
  rcases h with h | h | h | h | h | h | h | h | h | h | h | h | h | h | h | h | h | h | h | h | h | h | h | h | h | h <;> omega
set_option maxHeartbeats 2000000 in
theorem LC_f {p c i c' i' : Nat} (h : LC p c i) (h2 : LC p c' i') : c' = c ∧ i' = i := by
  unfold LC at h h2
  rcases h with h | h | h | h | h | h | h | h | h | h | h | h | h | h | h | h | h | h | h | h | h | h | h | h | h | h <;> rcases h2 with h2 | h2 | h2 | h2 | h2 | h2 | h2 | h2 | h2 | h2 | h2 | h2 | h2 | h2 | h2 | h2 | h2 | h2 | h2 | h2 | h2 | h2 | h2 | h2 | h2 | h2 <;> omega
set_option maxHeartbeats 2000000 in
theorem LC_i {p p' c i : Nat} (h : LC p c i) (h2 : LC p' c i) : p' = p := by
  unfold LC at h h2
  rcases h with h | h | h | h | h | h | h | h | h | h | h | h | h | h | h | h | h | h | h | h | h | h | h | h | h | h <;> rcases h2 with h2 | h2 | h2 | h2 | h2 | h2 | h2 | h2 | h2 | h2 | h2 | h2 | h2 | h2 | h2 | h2 | h2 | h2 | h2 | h2 | h2 | h2 | h2 | h2 | h2 | h2 <;> omega
def IM (s : ev_S) (g : Int) (p : Nat) (s' : ev_S) : Prop := s' 0 62 = (p : Int) ∧ s' 0 60 = g ∧ (g ≠ 0 → (∀ q c i, q < p → LC q c i → s' 36 q = s c i) ∧ (∀ c i, c ≠ 36 → ¬ (c = 0 ∧ i = 62) → s' c i = s c i)) ∧ (g = 0 → (∀ q c i, q < p → LC q c i → s' c i = s 36 q) ∧ (∀ c i, (∀ q, q < p → ¬ LC q c i) → ¬ (c = 0 ∧ i = 62) → s' c i = s c i))
theorem sp_kept {d p c i : Nat} {s s1 : ev_S} {g : Int} {F : Int → ev_S → Prop} (hI : IM s g p s1) (hL : LC p c i) (h : ∀ r s2, IM s g (p + 1) (ev_up s2 c i r) → F r s2) : Ev layM M_X12_kept d 0 [(0, ev_r 0), (1, ev_i (s1 c i))] [] s1 (ev_pi F) := by
  obtain ⟨h62, h60, ht, hg⟩ := hI
  obtain ⟨hp, hc⟩ := LC_cells hL
  have n62 : ¬ ((0 : Nat) = c ∧ (62 : Nat) = i) := by omega
  have n60 : ¬ ((0 : Nat) = c ∧ (60 : Nat) = i) := by omega
  have c36 : (36 : Nat) ≠ c := by omega
  refine wp_X12_kept_0 ?_
  rw [h62, ev_add_eq ⟨by omega, by omega⟩]
  rintro _ rfl
  rw [ev_up_same, ev_up_ne _ _ (show ¬ ((0 : Nat) = 0 ∧ (60 : Nat) = 62) by omega), h60, ev_sub_eq ⟨by omega, by omega⟩, show Int.toNat ((p : Int) + 1 - 1) = p by omega]
  refine ⟨fun q => ⟨by omega, ?_⟩, fun q => ⟨by omega, ev_pi_mk (h _ _ ?_)⟩⟩
  · rintro _ rfl
    refine ev_pi_mk (h _ _ ⟨?_, ?_, fun _ => ⟨fun q0 c' i' hq hL' => ?_, fun c' i' n1 n2 => ?_⟩, fun q2 => absurd q2 q⟩)
    · rw [ev_up_ne _ _ n62, ev_upj _ _ (by omega), ev_up_same]; rfl
    · rw [ev_up_ne _ _ n60, ev_upj _ _ (by omega), ev_up_ne _ _ (by omega)]; exact h60
    · rw [ev_upj _ _ c36]
      by_cases e : q0 = p
      · subst e
        rw [ev_up_same]
        obtain ⟨rfl, rfl⟩ := LC_f hL hL'
        exact (ht q).2 _ _ (by omega) (by omega)
      · rw [ev_up_ne _ _ (by omega), ev_upj _ _ (by omega)]; exact (ht q).1 q0 c' i' (by omega) hL'
    · by_cases e : c' = c ∧ i' = i
      · obtain ⟨rfl, rfl⟩ := e
        rw [ev_up_same]; exact (ht q).2 _ _ n1 n2
      · rw [ev_up_ne _ _ e, ev_upj _ _ n1, ev_up_ne _ _ n2]; exact (ht q).2 _ _ n1 n2
  · have e36 : ev_up s1 0 62 ((p : Int) + 1) 36 p = s 36 p := by
      rw [ev_upj _ _ (by omega)]
      exact (hg q).2 36 p (fun q0 _ hq => by have := (LC_cells hq).2; omega) (by omega)
    rw [e36]
    refine ⟨?_, ?_, fun q2 => absurd q q2, fun _ => ⟨fun q0 c' i' hq hL' => ?_, fun c' i' n1 n2 => ?_⟩⟩
    · rw [ev_up_ne _ _ n62, ev_up_same]; rfl
    · rw [ev_up_ne _ _ n60, ev_up_ne _ _ (by omega)]; exact h60
    · by_cases e : q0 = p
      · subst e
        obtain ⟨rfl, rfl⟩ := LC_f hL hL'
        rw [ev_up_same]
      · have hne : ¬ (c' = c ∧ i' = i) := fun e2 => by
          obtain ⟨rfl, rfl⟩ := e2
          exact e (LC_i hL hL')
        have hc2 := (LC_cells hL').2
        rw [ev_up_ne _ _ hne, ev_up_ne _ _ (by omega)]; exact (hg q).1 q0 c' i' (by omega) hL'
    · have hne : ¬ (c' = c ∧ i' = i) := fun e2 => by
        obtain ⟨rfl, rfl⟩ := e2
        exact n1 p (by omega) hL
      rw [ev_up_ne _ _ hne, ev_up_ne _ _ n2]; exact (hg q).2 c' i' (fun q0 hq => n1 q0 (by omega)) n2
theorem sp_kt103 {d : Nat} {s : ev_S} {g : Int} {Q : Option ev_V → ev_S → Prop} {a1 : Int} (K : ∀ s2, IM s g 116 s2 → Q none s2) : ∀ n i : Nat, i + n = 6 → ∀ s1, IM s g (98 + 3 * i) s1 → Ev layM M_X12_keepsTown (d + 1) 103 [(0, ev_r 0), (1, ev_i (i : Int))] [] s1 Q := by
  intro n
  induction n with
  | zero =>
    intro i hi s1 h
    have : i = 6 := by omega
    subst this
    exact wp_X12_keepsTown_103 ⟨fun _ => K s1 h, fun q => absurd q (by omega)⟩
  | succ n ih =>
    intro i hi s1 h
    refine wp_X12_keepsTown_103 ⟨fun q => absurd q (by omega), fun _ => ⟨by omega, ?_⟩⟩
    rw [Int.toNat_natCast]
    refine sp_kept (c := 6) (i := i) h (LC_6 (by omega)) (fun r0 t0 h0 => ⟨by omega, ?_⟩)
    rintro _ rfl
    refine ⟨by omega, ?_⟩
    refine sp_kept (c := 7) (i := i) h0 (by rw [show 98 + 3 * i + 1 = 99 + 3 * i by omega]; exact LC_7 (by omega)) (fun r1 t1 h1 => ⟨by omega, ?_⟩)
    rintro _ rfl
    refine ⟨by omega, ?_⟩
    refine sp_kept (c := 8) (i := i) h1 (by rw [show 98 + 3 * i + 1 + 1 = 100 + 3 * i by omega]; exact LC_8 (by omega)) (fun r2 t2 h2 => ⟨by omega, ?_⟩)
    rintro _ rfl
    rw [ev_add_eq (x := (i : Int)) (y := 1) ⟨by omega, by omega⟩]
    exact ih (i + 1) (by omega) _ (by rw [show 98 + 3 * (i + 1) = 98 + 3 * i + 1 + 1 + 1 by omega]; exact h2)
theorem sp_keepsTown {d : Nat} {s s1 : ev_S} {g : Int} {Q : Option ev_V → ev_S → Prop} (h : IM s g 87 s1) (K : ∀ s2, IM s g 116 s2 → Q none s2) : Ev layM M_X12_keepsTown (d + 1) 0 [(0, ev_r 0)] [] s1 Q := by
  have k38 : ∀ n i : Nat, i + n = 5 → ∀ s1, IM s g (90 + i) s1 → Ev layM M_X12_keepsTown (d + 1) 38 [(0, ev_r 0), (1, ev_i (i : Int))] [] s1 Q := by
    intro n
    induction n with
    | zero =>
      intro i hi s1 h
      have : i = 5 := by omega
      subst this
      refine wp_X12_keepsTown_38 ⟨fun _ => sp_kept (c := 0) (i := 10) h LC_0_10 (fun r0 t0 h0 => ?_), fun q => absurd q (by omega)⟩
      rintro _ rfl
      refine sp_kept (c := 0) (i := 11) h0 LC_0_11 (fun r1 t1 h1 => ?_)
      rintro _ rfl
      refine sp_kept (c := 0) (i := 12) h1 LC_0_12 (fun r2 t2 h2 => ?_)
      rintro _ rfl
      exact sp_kt103 (a1 := 0) K 6 0 (by omega) _ h2
    | succ n ih =>
      intro i hi s1 h
      refine wp_X12_keepsTown_38 ⟨fun q => absurd q (by omega), fun _ => ⟨by omega, ?_⟩⟩
      rw [Int.toNat_natCast]
      refine sp_kept (c := 4) (i := i) h (LC_4 (by omega)) (fun r0 t0 h0 => ⟨by omega, ?_⟩)
      rintro _ rfl
      rw [ev_add_eq (x := (i : Int)) (y := 1) ⟨by omega, by omega⟩]
      exact ih (i + 1) (by omega) _ h0
  refine wp_X12_keepsTown_0 (sp_kept (c := 0) (i := 6) h LC_0_6 (fun r0 t0 h0 => ?_))
  rintro _ rfl
  refine sp_kept (c := 0) (i := 7) h0 LC_0_7 (fun r1 t1 h1 => ?_)
  rintro _ rfl
  refine sp_kept (c := 0) (i := 8) h1 LC_0_8 (fun r2 t2 h2 => ?_)
  rintro _ rfl
  exact k38 5 0 (by omega) _ h2
theorem sp_kx168 {d : Nat} {s : ev_S} {g : Int} {Q : Option ev_V → ev_S → Prop} {a1 : Int} (K : ∀ s2, IM s g 5487 s2 → Q none s2) : ∀ n i : Nat, i + n = 70 → ∀ s1, IM s g (5417 + i) s1 → Ev layM M_X12_keepsTexts (d + 1) 168 [(0, ev_r 0), (1, ev_i (i : Int))] [] s1 Q := by
  intro n
  induction n with
  | zero =>
    intro i hi s1 h
    have : i = 70 := by omega
    subst this
    exact wp_X12_keepsTexts_168 ⟨fun _ => K s1 h, fun q => absurd q (by omega)⟩
  | succ n ih =>
    intro i hi s1 h
    refine wp_X12_keepsTexts_168 ⟨fun q => absurd q (by omega), fun _ => ⟨by omega, ?_⟩⟩
    rw [Int.toNat_natCast]
    refine sp_kept (c := 24) (i := i) h (LC_24 (by omega)) (fun r0 t0 h0 => ⟨by omega, ?_⟩)
    rintro _ rfl
    rw [ev_add_eq (x := (i : Int)) (y := 1) ⟨by omega, by omega⟩]
    exact ih (i + 1) (by omega) _ (by rw [show 5417 + (i + 1) = 5417 + i + 1 by omega]; exact h0)
theorem sp_kx63 {d : Nat} {s : ev_S} {g : Int} {Q : Option ev_V → ev_S → Prop} {a1 : Int} (K : ∀ s2, IM s g 4936 s2 → Ev layM M_X12_keepsTexts (d + 1) 109 [(0, ev_r 0), (1, ev_i 0)] [] s2 Q) : ∀ n i : Nat, i + n = 6 → ∀ s1, IM s g (4924 + 2 * i) s1 → Ev layM M_X12_keepsTexts (d + 1) 63 [(0, ev_r 0), (1, ev_i (i : Int))] [] s1 Q := by
  intro n
  induction n with
  | zero =>
    intro i hi s1 h
    have : i = 6 := by omega
    subst this
    exact wp_X12_keepsTexts_63 ⟨fun _ => K s1 h, fun q => absurd q (by omega)⟩
  | succ n ih =>
    intro i hi s1 h
    refine wp_X12_keepsTexts_63 ⟨fun q => absurd q (by omega), fun _ => ⟨by omega, ?_⟩⟩
    rw [Int.toNat_natCast]
    refine sp_kept (c := 5) (i := i) h (LC_5 (by omega)) (fun r0 t0 h0 => ⟨by omega, ?_⟩)
    rintro _ rfl
    refine ⟨by omega, ?_⟩
    refine sp_kept (c := 27) (i := i) h0 (by rw [show 4924 + 2 * i + 1 = 4925 + 2 * i by omega]; exact LC_27 (by omega)) (fun r1 t1 h1 => ⟨by omega, ?_⟩)
    rintro _ rfl
    rw [ev_add_eq (x := (i : Int)) (y := 1) ⟨by omega, by omega⟩]
    exact ih (i + 1) (by omega) _ (by rw [show 4924 + 2 * (i + 1) = 4924 + 2 * i + 1 + 1 by omega]; exact h1)
theorem sp_kx32 {d : Nat} {s : ev_S} {g : Int} {Q : Option ev_V → ev_S → Prop} {a1 : Int} (K : ∀ s2, IM s g 4924 s2 → Ev layM M_X12_keepsTexts (d + 1) 63 [(0, ev_r 0), (1, ev_i 0)] [] s2 Q) : ∀ n i : Nat, i + n = 4800 → ∀ s1, IM s g (124 + i) s1 → Ev layM M_X12_keepsTexts (d + 1) 32 [(0, ev_r 0), (1, ev_i (i : Int))] [] s1 Q := by
  intro n
  induction n with
  | zero =>
    intro i hi s1 h
    have : i = 4800 := by omega
    subst this
    exact wp_X12_keepsTexts_32 ⟨fun _ => K s1 h, fun q => absurd q (by omega)⟩
  | succ n ih =>
    intro i hi s1 h
    refine wp_X12_keepsTexts_32 ⟨fun q => absurd q (by omega), fun _ => ⟨by omega, ?_⟩⟩
    rw [Int.toNat_natCast]
    refine sp_kept (c := 20) (i := i) h (LC_20 (by omega)) (fun r0 t0 h0 => ⟨by omega, ?_⟩)
    rintro _ rfl
    rw [ev_add_eq (x := (i : Int)) (y := 1) ⟨by omega, by omega⟩]
    exact ih (i + 1) (by omega) _ (by rw [show 124 + (i + 1) = 124 + i + 1 by omega]; exact h0)
theorem sp_kx2 {d : Nat} {s : ev_S} {g : Int} {Q : Option ev_V → ev_S → Prop} {a1 : Int} (K : ∀ s2, IM s g 124 s2 → Ev layM M_X12_keepsTexts (d + 1) 32 [(0, ev_r 0), (1, ev_i 0)] [] s2 Q) : ∀ n i : Nat, i + n = 8 → ∀ s1, IM s g (116 + i) s1 → Ev layM M_X12_keepsTexts (d + 1) 2 [(0, ev_r 0), (1, ev_i (i : Int))] [] s1 Q := by
  intro n
  induction n with
  | zero =>
    intro i hi s1 h
    have : i = 8 := by omega
    subst this
    exact wp_X12_keepsTexts_2 ⟨fun _ => K s1 h, fun q => absurd q (by omega)⟩
  | succ n ih =>
    intro i hi s1 h
    refine wp_X12_keepsTexts_2 ⟨fun q => absurd q (by omega), fun _ => ⟨by omega, ?_⟩⟩
    rw [Int.toNat_natCast]
    refine sp_kept (c := 21) (i := i) h (LC_21 (by omega)) (fun r0 t0 h0 => ⟨by omega, ?_⟩)
    rintro _ rfl
    rw [ev_add_eq (x := (i : Int)) (y := 1) ⟨by omega, by omega⟩]
    exact ih (i + 1) (by omega) _ (by rw [show 116 + (i + 1) = 116 + i + 1 by omega]; exact h0)
theorem sp_kx109 {d : Nat} {s : ev_S} {g : Int} {Q : Option ev_V → ev_S → Prop} {a1 : Int} (K : ∀ s2, IM s g 5416 s2 → Ev layM M_X12_kept d 0 [(0, ev_r 0), (1, ev_i (s2 0 46))] [] s2 (ev_pi (fun r2 s1 => (∀ s3, ev_up s1 0 46 r2 = s3 → Ev layM M_X12_keepsTexts (d + 1) 168 [(0, ev_r 0), (1, ev_i 0)] [] s3 Q)))) : ∀ n i : Nat, i + n = 240 → ∀ s1, IM s g (4936 + 2 * i) s1 → Ev layM M_X12_keepsTexts (d + 1) 109 [(0, ev_r 0), (1, ev_i (i : Int))] [] s1 Q := by
  intro n
  induction n with
  | zero =>
    intro i hi s1 h
    have : i = 240 := by omega
    subst this
    exact wp_X12_keepsTexts_109 ⟨fun _ => K s1 h, fun q => absurd q (by omega)⟩
  | succ n ih =>
    intro i hi s1 h
    refine wp_X12_keepsTexts_109 ⟨fun q => absurd q (by omega), fun _ => ⟨by omega, ?_⟩⟩
    rw [Int.toNat_natCast]
    refine sp_kept (c := 25) (i := i) h (LC_25 (by omega)) (fun r0 t0 h0 => ⟨by omega, ?_⟩)
    rintro _ rfl
    refine ⟨by omega, ?_⟩
    refine sp_kept (c := 26) (i := i) h0 (by rw [show 4936 + 2 * i + 1 = 4937 + 2 * i by omega]; exact LC_26 (by omega)) (fun r1 t1 h1 => ⟨by omega, ?_⟩)
    rintro _ rfl
    rw [ev_add_eq (x := (i : Int)) (y := 1) ⟨by omega, by omega⟩]
    exact ih (i + 1) (by omega) _ (by rw [show 4936 + 2 * (i + 1) = 4936 + 2 * i + 1 + 1 by omega]; exact h1)
theorem sp_keepsTexts {d : Nat} {s s1 : ev_S} {g : Int} {Q : Option ev_V → ev_S → Prop} (h : IM s g 116 s1) (K : ∀ s2, IM s g 5487 s2 → Q none s2) : Ev layM M_X12_keepsTexts (d + 1) 0 [(0, ev_r 0)] [] s1 Q := by
  refine wp_X12_keepsTexts_0 (sp_kx2 (a1 := 0) (fun s2 h2 => sp_kx32 (a1 := 0) (fun s3 h3 => sp_kx63 (a1 := 0) (fun s4 h4 => sp_kx109 (a1 := 0) (fun s5 h5 => ?_) 240 0 (by omega) _ h4) 6 0 (by omega) _ h3) 4800 0 (by omega) _ h2) 8 0 (by omega) _ h)
  refine sp_kept (c := 0) (i := 46) h5 LC_0_46 (fun r0 t0 h0 => ?_)
  rintro _ rfl
  exact sp_kx168 (a1 := 0) K 70 0 (by omega) _ h0
theorem sp_kl76 {d : Nat} {s : ev_S} {g : Int} {Q : Option ev_V → ev_S → Prop} {a1 : Int} (K : ∀ s2, IM s g 6836 s2 → Q none s2) : ∀ n i : Nat, i + n = 400 → ∀ s1, IM s g (6036 + 2 * i) s1 → Ev layM M_X12_keepsLaw (d + 1) 76 [(0, ev_r 0), (1, ev_i (i : Int))] [] s1 Q := by
  intro n
  induction n with
  | zero =>
    intro i hi s1 h
    have : i = 400 := by omega
    subst this
    exact wp_X12_keepsLaw_76 ⟨fun _ => K s1 h, fun q => absurd q (by omega)⟩
  | succ n ih =>
    intro i hi s1 h
    refine wp_X12_keepsLaw_76 ⟨fun q => absurd q (by omega), fun _ => ⟨by omega, ?_⟩⟩
    rw [Int.toNat_natCast]
    refine sp_kept (c := 15) (i := i) h (LC_15 (by omega)) (fun r0 t0 h0 => ⟨by omega, ?_⟩)
    rintro _ rfl
    refine ⟨by omega, ?_⟩
    refine sp_kept (c := 16) (i := i) h0 (by rw [show 6036 + 2 * i + 1 = 6037 + 2 * i by omega]; exact LC_16 (by omega)) (fun r1 t1 h1 => ⟨by omega, ?_⟩)
    rintro _ rfl
    rw [ev_add_eq (x := (i : Int)) (y := 1) ⟨by omega, by omega⟩]
    exact ih (i + 1) (by omega) _ (by rw [show 6036 + 2 * (i + 1) = 6036 + 2 * i + 1 + 1 by omega]; exact h1)
theorem sp_kl14 {d : Nat} {s : ev_S} {g : Int} {Q : Option ev_V → ev_S → Prop} {a1 : Int} (K : ∀ s2, IM s g 6036 s2 → Ev layM M_X12_keepsLaw (d + 1) 76 [(0, ev_r 0), (1, ev_i 0)] [] s2 Q) : ∀ n i : Nat, i + n = 16 → ∀ s1, IM s g (5988 + 3 * i) s1 → Ev layM M_X12_keepsLaw (d + 1) 14 [(0, ev_r 0), (1, ev_i (i : Int))] [] s1 Q := by
  intro n
  induction n with
  | zero =>
    intro i hi s1 h
    have : i = 16 := by omega
    subst this
    exact wp_X12_keepsLaw_14 ⟨fun _ => K s1 h, fun q => absurd q (by omega)⟩
  | succ n ih =>
    intro i hi s1 h
    refine wp_X12_keepsLaw_14 ⟨fun q => absurd q (by omega), fun _ => ⟨by omega, ?_⟩⟩
    rw [Int.toNat_natCast]
    refine sp_kept (c := 12) (i := i) h (LC_12 (by omega)) (fun r0 t0 h0 => ⟨by omega, ?_⟩)
    rintro _ rfl
    refine ⟨by omega, ?_⟩
    refine sp_kept (c := 13) (i := i) h0 (by rw [show 5988 + 3 * i + 1 = 5989 + 3 * i by omega]; exact LC_13 (by omega)) (fun r1 t1 h1 => ⟨by omega, ?_⟩)
    rintro _ rfl
    refine ⟨by omega, ?_⟩
    refine sp_kept (c := 14) (i := i) h1 (by rw [show 5988 + 3 * i + 1 + 1 = 5990 + 3 * i by omega]; exact LC_14 (by omega)) (fun r2 t2 h2 => ⟨by omega, ?_⟩)
    rintro _ rfl
    rw [ev_add_eq (x := (i : Int)) (y := 1) ⟨by omega, by omega⟩]
    exact ih (i + 1) (by omega) _ (by rw [show 5988 + 3 * (i + 1) = 5988 + 3 * i + 1 + 1 + 1 by omega]; exact h2)
theorem sp_keepsLaw {d : Nat} {s s1 : ev_S} {g : Int} {Q : Option ev_V → ev_S → Prop} (h : IM s g 5987 s1) (K : ∀ s2, IM s g 6836 s2 → Q none s2) : Ev layM M_X12_keepsLaw (d + 1) 0 [(0, ev_r 0)] [] s1 Q := by
  refine wp_X12_keepsLaw_0 (sp_kept (c := 0) (i := 25) h LC_0_25 (fun r0 t0 h0 => ?_))
  rintro _ rfl
  exact sp_kl14 (a1 := 0) (fun s2 h2 => sp_kl76 (a1 := 0) K 400 0 (by omega) _ h2) 16 0 (by omega) _ h0
theorem sp_im73 {d : Nat} {s : ev_S} {g : Int} {Q : Option ev_V → ev_S → Prop} {a1 : Int} (K : ∀ s2, IM s g 5987 s2 → Ev layM M_X12_keepsLaw d 0 [(0, ev_r 0)] [] s2 (fun _ s1 => ((a1 ≠ 0 → Q (some (ev_i 1)) s1) ∧ (a1 = 0 → (∀ s2, ev_up s1 0 3 0 = s2 → Q (some (ev_i 1)) s2))))) : ∀ n i : Nat, i + n = 500 → ∀ s1, IM s g (5487 + i) s1 → Ev layM M_X12_image (d + 1) 73 [(0, ev_r 0), (1, ev_i a1), (2, ev_i (i : Int))] [] s1 Q := by
  intro n
  induction n with
  | zero =>
    intro i hi s1 h
    have : i = 500 := by omega
    subst this
    exact wp_X12_image_73 ⟨fun _ => K s1 h, fun q => absurd q (by omega)⟩
  | succ n ih =>
    intro i hi s1 h
    refine wp_X12_image_73 ⟨fun q => absurd q (by omega), fun _ => ⟨by omega, ?_⟩⟩
    rw [Int.toNat_natCast]
    refine sp_kept (c := 9) (i := i) h (LC_9 (by omega)) (fun r0 t0 h0 => ⟨by omega, ?_⟩)
    rintro _ rfl
    rw [ev_add_eq (x := (i : Int)) (y := 1) ⟨by omega, by omega⟩]
    exact ih (i + 1) (by omega) _ (by rw [show 5487 + (i + 1) = 5487 + i + 1 by omega]; exact h0)
theorem sp_im35 {d : Nat} {s : ev_S} {g : Int} {Q : Option ev_V → ev_S → Prop} {a1 : Int} (K : ∀ s2, IM s g 87 s2 → Ev layM M_X12_keepsTown d 0 [(0, ev_r 0)] [] s2 (fun _ s1 => (Ev layM M_X12_keepsTexts d 0 [(0, ev_r 0)] [] s1 (fun _ s2 => Ev layM M_X12_image (d + 1) 73 [(0, ev_r 0), (1, ev_i a1), (2, ev_i 0)] [] s2 Q)))) : ∀ n i : Nat, i + n = 87 → ∀ s1, IM s g (i) s1 → Ev layM M_X12_image (d + 1) 35 [(0, ev_r 0), (1, ev_i a1), (2, ev_i (i : Int))] [] s1 Q := by
  intro n
  induction n with
  | zero =>
    intro i hi s1 h
    have : i = 87 := by omega
    subst this
    exact wp_X12_image_35 ⟨fun _ => K s1 h, fun q => absurd q (by omega)⟩
  | succ n ih =>
    intro i hi s1 h
    refine wp_X12_image_35 ⟨fun q => absurd q (by omega), fun _ => ⟨by omega, ?_⟩⟩
    rw [Int.toNat_natCast]
    refine sp_kept (c := 1) (i := i) h (LC_1 (by omega)) (fun r0 t0 h0 => ⟨by omega, ?_⟩)
    rintro _ rfl
    rw [ev_add_eq (x := (i : Int)) (y := 1) ⟨by omega, by omega⟩]
    exact ih (i + 1) (by omega) _ (by rw [show (i + 1) = i + 1 by omega]; exact h0)
theorem sp_image18 {d : Nat} {s : ev_S} {a1 : Int} {Q : Option ev_V → ev_S → Prop} (ha : a1 = 0 ∨ a1 = 1) (K : ∀ s2, IM (ev_up (ev_up s 0 60 a1) 0 61 1) a1 6836 s2 → ((a1 ≠ 0 → Q (some (ev_i 1)) s2) ∧ (a1 = 0 → Q (some (ev_i 1)) (ev_up s2 0 3 0)))) : Ev layM M_X12_image (d + 2) 18 [(0, ev_r 0), (1, ev_i a1)] [] s Q := by
  refine wp_X12_image_18 ⟨ha, ?_⟩
  rintro _ rfl _ rfl
  generalize es : ev_up (ev_up s 0 60 a1) 0 61 1 = s0
  rw [es] at K
  rintro _ rfl
  have e60 : s0 0 60 = a1 := by rw [← es, ev_up_ne _ _ (by omega), ev_up_same]
  refine sp_im35 (s := s0) (g := a1) (fun s2 h2 => sp_keepsTown h2 (fun s3 h3 => sp_keepsTexts h3 (fun s4 h4 => sp_im73 (fun s5 h5 => sp_keepsLaw h5 (fun s6 h6 => ⟨fun q => (K s6 h6).1 q, fun q => ?_⟩)) 500 0 (by omega) _ h4))) 87 0 (by omega) _ ⟨ev_up_same _ _ _ _, ?_, fun _ => ⟨fun q c i hq => absurd hq (by omega), fun c i _ n => ev_up_ne _ _ n⟩, fun _ => ⟨fun q c i hq => absurd hq (by omega), fun c i _ n => ev_up_ne _ _ n⟩⟩
  · rintro _ rfl
    exact (K s6 h6).2 q
  · rw [ev_up_ne _ _ (by omega)]; exact e60
end
