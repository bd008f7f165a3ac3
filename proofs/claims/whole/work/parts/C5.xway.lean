section
/-! TEXT: the class takes a way -/
theorem nar_5 {z : Int} (h : 0 ≤ z ∧ z ≤ 4) : ev_nar .byte (ev_i2b z) = z := by
  have : z = 0 ∨ z = 1 ∨ z = 2 ∨ z = 3 ∨ z = 4 := by omega
  rcases this with rfl | rfl | rfl | rfl | rfl <;> decide
theorem sp_xtakeWay {d w c : Nat} {s : ev_S} {W : Nat → Int} {Q : Option ev_V → ev_S → Prop} (hw : w < 8) (hc : c ≤ 600) (h3 : s 137 3 = (c : Int)) (hz : ∀ i, i < c → s 138 i = W i) (hW : ∀ i, i < c → 0 ≤ W i ∧ W i ≤ 4) (h : ∀ s', s' 4 w = (c : Int) → (∀ i, i ≠ w → s' 4 i = s 4 i) → (∀ i, i < c → s' 3 (600 * w + i) = W i) → (∀ i, i < 600 * w ∨ 600 * w + c ≤ i → s' 3 i = s 3 i) → (s' 18 w = 0 ∧ s' 17 w = 0) → (∀ q i, q = 17 ∨ q = 18 → i ≠ w → s' q i = s q i) → (∀ q, q ≠ 3 → q ≠ 4 → q ≠ 17 → q ≠ 18 → s' q = s q) → Q none s') : Ev layX M_X11_takeWay d 0 [(0, ev_r 0), (1, ev_i (w : Int))] [] s Q := by
  have fin : ∀ s1 : ev_S, (∀ q, q < c → s1 3 (600 * w + q) = W q) → (∀ q, q < 600 * w ∨ 600 * w + c ≤ q → s1 3 q = s 3 q) → (∀ q, q ≠ 3 → s1 q = s q) → Ev layX M_X11_takeWay d 51 [(0, ev_r 0), (1, ev_i (w : Int))] [] s1 Q := by
    intro s1 b1 b2 b3
    refine wp_X11_takeWay_51 ?_
    rw [Int.toNat_natCast, b3 137 (by omega), h3]
    refine ⟨by omega, ?_⟩
    rintro _ rfl
    refine ⟨by omega, ?_⟩
    rintro _ rfl
    refine ⟨by omega, ?_⟩
    rintro _ rfl
    refine h _ ?_ (fun i hi => ?_) (fun i hi => ?_) (fun i hi => ?_) ⟨?_, ?_⟩ (fun q i hq hi => ?_) (fun q q1 q2 q3 q4 => ?_)
    · rw [ev_upj _ _ (by omega), ev_upj _ _ (by omega), ev_up_same]
    · rw [ev_upj _ _ (by omega), ev_upj _ _ (by omega), ev_up_ne _ _ (by omega), b3 4 (by omega)]
    · rw [ev_upj _ _ (by omega), ev_upj _ _ (by omega), ev_upj _ _ (by omega)]; exact b1 i hi
    · rw [ev_upj _ _ (by omega), ev_upj _ _ (by omega), ev_upj _ _ (by omega)]; exact b2 i hi
    · rw [ev_upj _ _ (by omega), ev_up_same]
    · rw [ev_up_same]
    · rw [ev_up_ne _ _ (by omega), ev_up_ne _ _ (by omega), ev_upj _ _ (by omega), b3 q (by omega)]
    · rw [ev_upj _ _ q3, ev_upj _ _ q4, ev_upj _ _ q2, b3 q q1]
  have l1 : ∀ n i, i + n = c → ∀ s1 : ev_S, (∀ q, q < i → s1 3 (600 * w + q) = W q) → (∀ q, q < 600 * w ∨ 600 * w + i ≤ q → s1 3 q = s 3 q) → (∀ q, q ≠ 3 → s1 q = s q) → Ev layX M_X11_takeWay d 2 [(0, ev_r 0), (1, ev_i (w : Int)), (2, ev_i (i : Int))] [] s1 Q := by
    intro n
    induction n with
    | zero =>
      intro i hi s1 b1 b2 b3
      refine wp_X11_takeWay_2 ?_
      rw [b3 137 (by omega), h3]
      exact ⟨fun _ => fin s1 (fun q hq => b1 q (by omega)) (fun q hq => b2 q (by omega)) b3, fun q => absurd q (by omega)⟩
    | succ n ih =>
      intro i hi s1 b1 b2 b3
      refine wp_X11_takeWay_2 ?_
      rw [b3 137 (by omega), h3, ev_mul_eq ⟨by omega, by omega⟩, ev_add_eq (x := (w : Int) * 600) ⟨by omega, by omega⟩, ev_add_eq (x := (i : Int)) ⟨by omega, by omega⟩, Int.toNat_natCast, show Int.toNat ((w : Int) * 600 + (i : Int)) = 600 * w + i by omega, show (i : Int) + 1 = ((i + 1 : Nat) : Int) by omega, b3 138 (by omega), hz i (by omega), nar_5 (hW i (by omega))]
      refine ⟨fun q => absurd q (by omega), fun _ => ⟨fun q => absurd q (by omega), fun _ => ⟨by omega, by omega, ?_⟩⟩⟩
      rintro _ rfl
      refine ih (i + 1) (by omega) _ (fun q hq => ?_) (fun q hq => ?_) (fun q q1 => ?_)
      · by_cases e : q = i
        · subst e
          rw [ev_up_same]
        · rw [ev_up_ne _ _ (by omega)]; exact b1 q (by omega)
      · rw [ev_up_ne _ _ (by omega)]; exact b2 q (by omega)
      · rw [ev_upj _ _ q1]; exact b3 q q1
  exact wp_X11_takeWay_0 (l1 c 0 (by omega) s (fun q hq => absurd hq (by omega)) (fun _ _ => rfl) (fun _ _ => rfl))
end
