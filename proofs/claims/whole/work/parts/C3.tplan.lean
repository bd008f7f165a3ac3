section
/-! TEXT: taking a plan, taking a way -/
theorem sp_takesPlan {d a c : Nat} {s : ev_S} {Q : Option ev_V → ev_S → Prop} (ha : a < 6) (hc : c ≤ 40) (h : ∀ s', s' 27 a = (c : Int) → (∀ i, i ≠ a → s' 27 i = s 27 i) → (∀ i, i < c → s' 25 (40 * a + i) = s 25 (240 + i) ∧ s' 26 (40 * a + i) = s 26 (240 + i)) → (∀ i, i < 40 * a ∨ 40 * a + c ≤ i → s' 25 i = s 25 i ∧ s' 26 i = s 26 i) → (s' 1 (39 + a) = 0 ∧ s' 1 (33 + a) = 0 ∧ s' 1 (45 + a) = 0) → (∀ i, i ≠ 39 + a → i ≠ 33 + a → i ≠ 45 + a → s' 1 i = s 1 i) → (∀ q, q ≠ 1 → q ≠ 25 → q ≠ 26 → q ≠ 27 → s' q = s q) → Q none s') : Ev layM M_X12_takesPlan d 0 [(0, ev_r 0), (1, ev_i (a : Int)), (2, ev_i (c : Int))] [] s Q := by
  have l1 : ∀ n i, i + n = c → ∀ s1 : ev_S, (∀ q, q < i → s1 25 (40 * a + q) = s 25 (240 + q) ∧ s1 26 (40 * a + q) = s 26 (240 + q)) → (∀ q, q < 40 * a ∨ 40 * a + i ≤ q → s1 25 q = s 25 q ∧ s1 26 q = s 26 q) → (∀ q, q ≠ 25 → q ≠ 26 → s1 q = s q) → Ev layM M_X12_takesPlan d 2 [(0, ev_r 0), (1, ev_i (a : Int)), (2, ev_i (c : Int)), (3, ev_i (i : Int))] [] s1 Q := by
    intro n
    induction n with
    | zero =>
      intro i hi s1 b1 b2 b3
      refine wp_X12_takesPlan_2 ?_
      rw [ev_add_eq (x := 39) ⟨by omega, by omega⟩, ev_add_eq (x := 33) ⟨by omega, by omega⟩, ev_add_eq (x := 45) ⟨by omega, by omega⟩, Int.toNat_natCast, show Int.toNat (39 + (a : Int)) = 39 + a by omega, show Int.toNat (33 + (a : Int)) = 33 + a by omega, show Int.toNat (45 + (a : Int)) = 45 + a by omega]
      refine ⟨fun _ => ⟨by omega, ?_⟩, fun q => absurd q (by omega)⟩
      rintro _ rfl
      refine ⟨by omega, ?_⟩
      rintro _ rfl
      refine ⟨by omega, ?_⟩
      rintro _ rfl
      refine ⟨by omega, ?_⟩
      rintro _ rfl
      refine h _ ?_ (fun q hq => ?_) (fun q hq => ?_) (fun q hq => ?_) ⟨?_, ?_, ?_⟩ (fun q q1 q2 q3 => ?_) (fun q q1 q2 q3 q4 => ?_)
      · rw [ev_upj _ _ (by omega), ev_upj _ _ (by omega), ev_upj _ _ (by omega), ev_up_same]
      · rw [ev_upj _ _ (by omega), ev_upj _ _ (by omega), ev_upj _ _ (by omega), ev_up_ne _ _ (by omega), b3 27 (by omega) (by omega)]
      · rw [ev_upj _ _ (by omega), ev_upj _ _ (by omega), ev_upj _ _ (by omega), ev_upj _ _ (by omega), ev_upj _ _ (by omega), ev_upj _ _ (by omega), ev_upj _ _ (by omega), ev_upj _ _ (by omega)]; exact b1 q (by omega)
      · rw [ev_upj _ _ (by omega), ev_upj _ _ (by omega), ev_upj _ _ (by omega), ev_upj _ _ (by omega), ev_upj _ _ (by omega), ev_upj _ _ (by omega), ev_upj _ _ (by omega), ev_upj _ _ (by omega)]; exact b2 q (by omega)
      · rw [ev_up_ne _ _ (by omega), ev_up_ne _ _ (by omega), ev_up_same]
      · rw [ev_up_ne _ _ (by omega), ev_up_same]
      · rw [ev_up_same]
      · rw [ev_up_ne _ _ (by omega), ev_up_ne _ _ (by omega), ev_up_ne _ _ (by omega), ev_upj _ _ (by omega), b3 1 (by omega) (by omega)]
      · rw [ev_upj _ _ q1, ev_upj _ _ q1, ev_upj _ _ q1, ev_upj _ _ q4]; exact b3 q q2 q3
    | succ n ih =>
      intro i hi s1 b1 b2 b3
      refine wp_X12_takesPlan_2 ?_
      rw [ev_mul_eq ⟨by omega, by omega⟩, ev_add_eq (x := 240) ⟨by omega, by omega⟩, ev_add_eq (x := 40 * (a : Int)) ⟨by omega, by omega⟩, ev_add_eq (x := (i : Int)) ⟨by omega, by omega⟩, show Int.toNat (240 + (i : Int)) = 240 + i by omega, show Int.toNat (40 * (a : Int) + (i : Int)) = 40 * a + i by omega, show (i : Int) + 1 = ((i + 1 : Nat) : Int) by omega]
      refine ⟨fun q => absurd q (by omega), fun _ => ⟨by omega, by omega, ?_⟩⟩
      rintro _ rfl
      refine ⟨by omega, by omega, ?_⟩
      rintro _ rfl
      refine ih (i + 1) (by omega) _ (fun q hq => ?_) (fun q hq => ?_) (fun q q1 q2 => ?_)
      · by_cases e : q = i
        · subst e
          exact ⟨by rw [ev_upj _ _ (by omega), ev_up_same]; exact (b2 _ (by omega)).1, by rw [ev_up_same, ev_upj _ _ (by omega)]; exact (b2 _ (by omega)).2⟩
        · exact ⟨by rw [ev_upj _ _ (by omega), ev_up_ne _ _ (by omega)]; exact (b1 q (by omega)).1, by rw [ev_up_ne _ _ (by omega), ev_upj _ _ (by omega)]; exact (b1 q (by omega)).2⟩
      · exact ⟨by rw [ev_upj _ _ (by omega), ev_up_ne _ _ (by omega)]; exact (b2 q (by omega)).1, by rw [ev_up_ne _ _ (by omega), ev_upj _ _ (by omega)]; exact (b2 q (by omega)).2⟩
      · rw [ev_upj _ _ q2, ev_upj _ _ q1]; exact b3 q q1 q2
  exact wp_X12_takesPlan_0 (l1 c 0 (by omega) s (fun q hq => absurd hq (by omega)) (fun _ _ => ⟨rfl, rfl⟩) (fun _ _ _ => rfl))
theorem sp_takesWay {d w c : Nat} {s : ev_S} {Q : Option ev_V → ev_S → Prop} (hw : w < 8) (hc : c ≤ 600) (h : ∀ s', s' 21 w = (c : Int) → (∀ i, i ≠ w → s' 21 i = s 21 i) → (∀ i, i < c → s' 20 (600 * w + i) = s 20 (4800 + i)) → (∀ i, i < 600 * w ∨ 600 * w + c ≤ i → s' 20 i = s 20 i) → (s' 1 (19 + w) = 0 ∧ s' 1 (11 + w) = 0) → (∀ i, i ≠ 19 + w → i ≠ 11 + w → s' 1 i = s 1 i) → (∀ q, q ≠ 1 → q ≠ 20 → q ≠ 21 → s' q = s q) → Q none s') : Ev layM M_X12_takesWay d 0 [(0, ev_r 0), (1, ev_i (w : Int)), (2, ev_i (c : Int))] [] s Q := by
  have l1 : ∀ n i, i + n = c → ∀ s1 : ev_S, (∀ q, q < i → s1 20 (600 * w + q) = s 20 (4800 + q)) → (∀ q, q < 600 * w ∨ 600 * w + i ≤ q → s1 20 q = s 20 q) → (∀ q, q ≠ 20 → s1 q = s q) → Ev layM M_X12_takesWay d 2 [(0, ev_r 0), (1, ev_i (w : Int)), (2, ev_i (c : Int)), (3, ev_i (i : Int))] [] s1 Q := by
    intro n
    induction n with
    | zero =>
      intro i hi s1 b1 b2 b3
      refine wp_X12_takesWay_2 ?_
      rw [ev_add_eq (x := 19) ⟨by omega, by omega⟩, ev_add_eq (x := 11) ⟨by omega, by omega⟩, Int.toNat_natCast, show Int.toNat (19 + (w : Int)) = 19 + w by omega, show Int.toNat (11 + (w : Int)) = 11 + w by omega]
      refine ⟨fun _ => ⟨by omega, ?_⟩, fun q => absurd q (by omega)⟩
      rintro _ rfl
      refine ⟨by omega, ?_⟩
      rintro _ rfl
      refine ⟨by omega, ?_⟩
      rintro _ rfl
      refine h _ ?_ (fun q hq => ?_) (fun q hq => ?_) (fun q hq => ?_) ⟨?_, ?_⟩ (fun q q1 q2 => ?_) (fun q q1 q2 q3 => ?_)
      · rw [ev_upj _ _ (by omega), ev_upj _ _ (by omega), ev_up_same]
      · rw [ev_upj _ _ (by omega), ev_upj _ _ (by omega), ev_up_ne _ _ (by omega), b3 21 (by omega)]
      · rw [ev_upj _ _ (by omega), ev_upj _ _ (by omega), ev_upj _ _ (by omega)]; exact b1 q (by omega)
      · rw [ev_upj _ _ (by omega), ev_upj _ _ (by omega), ev_upj _ _ (by omega)]; exact b2 q (by omega)
      · rw [ev_up_ne _ _ (by omega), ev_up_same]
      · rw [ev_up_same]
      · rw [ev_up_ne _ _ (by omega), ev_up_ne _ _ (by omega), ev_upj _ _ (by omega), b3 1 (by omega)]
      · rw [ev_upj _ _ q1, ev_upj _ _ q1, ev_upj _ _ q3]; exact b3 q q2
    | succ n ih =>
      intro i hi s1 b1 b2 b3
      refine wp_X12_takesWay_2 ?_
      rw [ev_mul_eq ⟨by omega, by omega⟩, ev_add_eq (x := 4800) ⟨by omega, by omega⟩, ev_add_eq (x := 600 * (w : Int)) ⟨by omega, by omega⟩, ev_add_eq (x := (i : Int)) ⟨by omega, by omega⟩, show Int.toNat (4800 + (i : Int)) = 4800 + i by omega, show Int.toNat (600 * (w : Int) + (i : Int)) = 600 * w + i by omega, show (i : Int) + 1 = ((i + 1 : Nat) : Int) by omega]
      refine ⟨fun q => absurd q (by omega), fun _ => ⟨by omega, by omega, ?_⟩⟩
      rintro _ rfl
      refine ih (i + 1) (by omega) _ (fun q hq => ?_) (fun q hq => ?_) (fun q q1 => ?_)
      · by_cases e : q = i
        · subst e
          rw [ev_up_same]; exact b2 _ (by omega)
        · rw [ev_up_ne _ _ (by omega)]; exact b1 q (by omega)
      · rw [ev_up_ne _ _ (by omega)]; exact b2 q (by omega)
      · rw [ev_upj _ _ q1]; exact b3 q q1
  exact wp_X12_takesWay_0 (l1 c 0 (by omega) s (fun q hq => absurd hq (by omega)) (fun _ _ => rfl) (fun _ _ => rfl))
theorem sp_xtakePlan {d a c : Nat} {s : ev_S} {O V : Nat → Int} {Q : Option ev_V → ev_S → Prop} (ha : a < 6) (hc : c ≤ 40) (h3 : s 137 3 = ((2 * c : Nat) : Int)) (h4 : s 137 4 = (c : Int)) (hz : ∀ i, i < c → s 138 (2 * i) = O i ∧ s 138 (2 * i + 1) = V i) (h : ∀ s', s' 7 a = (c : Int) → (∀ i, i ≠ a → s' 7 i = s 7 i) → (∀ i, i < c → s' 6 (2 * (40 * a + i)) = O i ∧ s' 6 (2 * (40 * a + i) + 1) = V i) → (∀ i, i < 80 * a ∨ 80 * a + 2 * c ≤ i → s' 6 i = s 6 i) → (s' 22 a = 0 ∧ s' 20 a = 0 ∧ s' 21 a = -1) → (∀ q i, q = 20 ∨ q = 21 ∨ q = 22 → i ≠ a → s' q i = s q i) → (∀ q, q ≠ 6 → q ≠ 7 → q ≠ 20 → q ≠ 21 → q ≠ 22 → s' q = s q) → Q none s') : Ev layX M_X11_takePlan (d + 1) 0 [(0, ev_r 0), (1, ev_i (a : Int))] [] s Q := by
  refine wp_X11_takePlan_0 ?_
  rw [h3, ev_mul_eq (x := (a : Int)) ⟨by omega, by omega⟩, ev_mul_eq ⟨by omega, by omega⟩, Int.toNat_natCast, Int.toNat_natCast, show Int.toNat ((a : Int) * 40 * 2) = 80 * a by omega, show Int.toNat 0 = 0 from rfl]
  refine ⟨by omega, ?_⟩
  rintro _ rfl
  have e4 : ev_cp s 138 0 6 (80 * a) (2 * c) 137 4 = (c : Int) := by unfold ev_cp; rw [if_neg (by omega)]; exact h4
  rw [e4]
  refine ⟨by omega, ?_⟩
  rintro _ rfl
  refine ⟨by omega, ?_⟩
  rintro _ rfl
  refine ⟨by omega, ?_⟩
  rintro _ rfl
  refine ⟨by omega, ?_⟩
  rintro _ rfl
  have n6 : ∀ q, q ≠ 6 → ev_cp s 138 0 6 (80 * a) (2 * c) q = s q := fun q hq => by funext i; unfold ev_cp; rw [if_neg (by omega)]
  refine h _ ?_ (fun i hi => ?_) (fun i hi => ?_) (fun i hi => ?_) ⟨?_, ?_, ?_⟩ (fun q i hq hi => ?_) (fun q q1 q2 q3 q4 q5 => ?_)
  · rw [ev_upj _ _ (by omega), ev_upj _ _ (by omega), ev_upj _ _ (by omega), ev_up_same]
  · rw [ev_upj _ _ (by omega), ev_upj _ _ (by omega), ev_upj _ _ (by omega), ev_up_ne _ _ (by omega), n6 7 (by omega)]
  · rw [ev_upj _ _ (by omega), ev_upj _ _ (by omega), ev_upj _ _ (by omega), ev_upj _ _ (by omega)]
    unfold ev_cp
    rw [if_pos (by omega), if_pos (by omega), show 0 + (2 * (40 * a + i) - 80 * a) = 2 * i by omega, show 0 + (2 * (40 * a + i) + 1 - 80 * a) = 2 * i + 1 by omega]
    exact hz i hi
  · rw [ev_upj _ _ (by omega), ev_upj _ _ (by omega), ev_upj _ _ (by omega), ev_upj _ _ (by omega)]
    unfold ev_cp
    rw [if_neg (by omega)]
  · rw [ev_upj _ _ (by omega), ev_upj _ _ (by omega), ev_up_same]
  · rw [ev_upj _ _ (by omega), ev_up_same]
  · rw [ev_up_same]
  · rw [ev_up_ne _ _ (by omega), ev_up_ne _ _ (by omega), ev_up_ne _ _ (by omega), ev_upj _ _ (by omega), n6 q (by omega)]
  · rw [ev_upj _ _ q4, ev_upj _ _ q3, ev_upj _ _ q5, ev_upj _ _ q2, n6 q q1]
end
