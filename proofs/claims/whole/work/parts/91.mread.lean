section
/-! the model reads a token -/
def TPm (s : ev_S) (b : Nat → Int) (L : Nat) : Prop := s 0 19 = (L : Int) ∧ s 10 = b ∧ L ≤ 400 ∧ (∀ i, i < L → 0 ≤ b i ∧ b i ≤ 255) ∧ RW s
theorem TPm_keep {s s' : ev_S} {b : Nat → Int} {L : Nat} (h : TPm s b L) (h19 : s' 0 19 = s 0 19) (h10 : s' 10 = s 10) (h11 : s' 11 = s 11) : TPm s' b L := by
  obtain ⟨a, c, e, f, g⟩ := h
  refine ⟨by rw [h19]; exact a, by rw [h10]; exact c, e, f, ?_⟩
  unfold RW at g ⊢
  rw [h11]; exact g
theorem sp_raw {d p L : Nat} {s : ev_S} {b : Nat → Int} {Q : Option ev_V → ev_S → Prop} (hT : TPm s b L) (h : Q (some (ev_i (if p < L then b p else -1))) s) : Ev layM M_X12_raw d 0 [(0, ev_r 0), (1, ev_i (p : Int))] [] s Q := by
  obtain ⟨h19, h10, hL, -, -⟩ := hT
  refine wp_X12_raw_0 ?_
  rw [h19, h10, Int.toNat_natCast]
  refine ⟨fun q => ?_, fun q => ⟨by omega, ?_⟩⟩
  · rw [if_neg (by omega)] at h; exact h
  · rw [if_pos (by omega)] at h; exact h
theorem sp_isLetter {d : Nat} {s : ev_S} {c : Int} {Q : Option ev_V → ev_S → Prop} (h : Q (some (ev_i (if cLe c then 1 else 0))) s) : Ev layM M_X12_isLetter (d + 1) 0 [(0, ev_r 0), (1, ev_i c)] [] s Q := by
  refine wp_X12_isLetter_0 (sp_isIn (ev_pi_mk ?_))
  by_cases c1 : 97 ≤ c ∧ c ≤ 122
  · have e : cLe c = true := by simp only [cLe, decide_eq_true_eq]; exact Or.inl c1
    rw [if_pos c1]
    rw [e, if_pos rfl] at h
    exact ⟨fun _ => h, fun q => absurd q (by omega)⟩
  · rw [if_neg c1]
    refine ⟨fun q => absurd rfl q, fun _ => sp_isIn (ev_pi_mk ?_)⟩
    by_cases c2 : 65 ≤ c ∧ c ≤ 90
    · have e : cLe c = true := by simp only [cLe, decide_eq_true_eq]; exact Or.inr c2
      rw [if_pos c2]
      rw [e, if_pos rfl] at h
      exact ⟨fun q => absurd q (by omega), fun _ => h⟩
    · have e : cLe c = false := by simp only [cLe, decide_eq_false_iff_not]; omega
      rw [if_neg c2]
      rw [e, if_neg (by simp)] at h
      exact ⟨fun _ => h, fun q => absurd rfl q⟩
theorem sp_isDigit {d : Nat} {s : ev_S} {c : Int} {Q : Option ev_V → ev_S → Prop} (h : Q (some (ev_i (if cDi c then 1 else 0))) s) : Ev layM M_X12_isDigit (d + 1) 0 [(0, ev_r 0), (1, ev_i c)] [] s Q := by
  refine wp_X12_isDigit_0 (sp_isIn (ev_pi_mk ?_))
  by_cases c1 : 48 ≤ c ∧ c ≤ 57
  · have e : cDi c = true := by simp only [cDi, decide_eq_true_eq]; exact c1
    rw [if_pos c1]
    rw [e, if_pos rfl] at h
    exact ⟨Or.inr rfl, h⟩
  · have e : cDi c = false := by simp only [cDi, decide_eq_false_iff_not]; exact c1
    rw [if_neg c1]
    rw [e, if_neg (by simp)] at h
    exact ⟨Or.inl rfl, h⟩
theorem sp_isMarkSign {d : Nat} {s : ev_S} {c : Int} {Q : Option ev_V → ev_S → Prop} (h : Q (some (ev_i (if cSi c then 1 else 0))) s) : Ev layM M_X12_isMarkSign d 0 [(0, ev_r 0), (1, ev_i c)] [] s Q := by
  have y : (c = 59 ∨ c = 43 ∨ c = 45 ∨ c = 42 ∨ c = 47 ∨ c = 40 ∨ c = 41 ∨ c = 60 ∨ c = 61 ∨ c = 62) → Q (some (ev_i 1)) s := fun q => by
    have e : cSi c = true := by simp only [cSi, decide_eq_true_eq]; exact q
    rw [e, if_pos rfl] at h; exact h
  have n : ¬ (c = 59 ∨ c = 43 ∨ c = 45 ∨ c = 42 ∨ c = 47 ∨ c = 40 ∨ c = 41 ∨ c = 60 ∨ c = 61 ∨ c = 62) → Q (some (ev_i 0)) s := fun q => by
    have e : cSi c = false := by simp only [cSi, decide_eq_false_iff_not]; exact q
    rw [e, if_neg (by simp)] at h; exact h
  exact wp_X12_isMarkSign_0 ⟨fun q => y (by omega), fun _ => ⟨fun q => y (by omega), fun _ => ⟨fun q => y (by omega), fun _ => ⟨fun q => y (by omega), fun _ => ⟨fun q => y (by omega), fun _ => ⟨fun q => y (by omega), fun _ => ⟨fun q => y (by omega), fun _ => ⟨fun q => y (by omega), fun _ => ⟨fun q => y (by omega), fun _ => ⟨fun q => n (by omega), fun q => y (by omega)⟩⟩⟩⟩⟩⟩⟩⟩⟩⟩
theorem sp_wordAt {d f E L : Nat} {s : ev_S} {b : Nat → Int} {Q : Option ev_V → ev_S → Prop} (hT : TPm s b L) (hf : f < E) (hE : E ≤ L) (hl : ∀ j, f ≤ j → j < E → cLe (b j) = true) (h : Q (some (ev_i (WV b f E))) s) : Ev layM M_X12_wordAt d 0 [(0, ev_r 0), (1, ev_i (f : Int)), (2, ev_i (E : Int))] [] s Q := by
  obtain ⟨h19, h10, hL, hb, hw⟩ := hT
  have nl : ∀ j, f ≤ j → j < E → b j ≠ 32 := fun j a c => by
    have := hl j a c
    simp only [cLe, decide_eq_true_eq] at this
    omega
  refine wp_X12_wordAt_0 ?_
  have key : ∀ m k : Nat, k + m = 35 → (∀ j, j < k → ¬ wm b f E j) → ∀ z : Int, z = (if k < 35 then ((wst k : Nat) : Int) - 1 else 177) → Ev layM M_X12_wordAt d 5 [(0, ev_r 0), (1, ev_i (f : Int)), (2, ev_i (E : Int)), (3, ev_i ((k : Int) - 1)), (4, ev_i z)] [] s Q := by
    intro m
    induction m with
    | zero =>
      intro k hk hn z hz
      rw [if_neg (by omega)] at hz
      subst hz
      rw [WV_no (fun j hj => hn j (by omega))] at h
      exact wp_X12_wordAt_5 ⟨fun _ => h, fun q => absurd q (by omega)⟩
    | succ m ih =>
      intro k hk hn z hz
      rw [if_pos (by omega)] at hz
      subst hz
      obtain ⟨t1, t2, t3, t4⟩ := wl_tab k (by omega)
      obtain ⟨l1, l2⟩ := wst_lim k (by omega)
      have go94 : ¬ wm b f E k → ∀ n i : Nat, i + n = (wl k).length → Ev layM M_X12_wordAt d 94 [(0, ev_r 0), (1, ev_i (f : Int)), (2, ev_i (E : Int)), (3, ev_i (k : Int)), (4, ev_i ((wst k + i : Nat) : Int))] [] s Q := by
        intro hnk n
        induction n with
        | zero =>
          intro i hi
          have ei : i = (wl k).length := by omega
          subst ei
          refine wp_X12_wordAt_94 ?_
          rw [Int.toNat_natCast, hw _ (by omega), t2]
          refine ⟨by omega, fun _ => ?_, fun q => absurd rfl q⟩
          have e : (k : Int) = ((k + 1 : Nat) : Int) - 1 := by omega
          rw [e]
          refine ih (k + 1) (by omega) (fun j hj => ?_) _ ?_
          · by_cases c : j = k
            · rw [c]; exact hnk
            · exact hn j (by omega)
          · by_cases c : k + 1 < 35
            · rw [if_pos c, wst_next k (by omega)]; omega
            · have : k = 34 := by omega
              subst this
              rw [if_neg (by omega), wst_ends.2]; rfl
        | succ n ihn =>
          intro i hi
          refine wp_X12_wordAt_94 ?_
          obtain ⟨a1, a2, -⟩ := t1 i (by omega)
          rw [Int.toNat_natCast, hw _ (by omega), a1]
          refine ⟨by omega, fun q => absurd q (by omega), fun _ => ?_⟩
          rw [ev_add_eq ⟨by omega, by omega⟩]
          exact ihn (i + 1) (by omega)
      have e94 : ¬ wm b f E k → Ev layM M_X12_wordAt d 94 [(0, ev_r 0), (1, ev_i (f : Int)), (2, ev_i (E : Int)), (3, ev_i (k : Int)), (4, ev_i (((wst k : Nat) : Int) - 1 + 1))] [] s Q := fun hnk => by
        have := go94 hnk (wl k).length 0 (by omega)
        rw [show ((wst k : Nat) : Int) - 1 + 1 = ((wst k + 0 : Nat) : Int) by omega]
        exact this
      have go : ∀ n i : Nat, i + n = (wl k).length → f + i ≤ E → (∀ j, j < i → b (f + j) = (((wl k).getD j 0 : Nat) : Int)) → Ev layM M_X12_wordAt d 20 [(0, ev_r 0), (1, ev_i (f : Int)), (2, ev_i (E : Int)), (3, ev_i (k : Int)), (4, ev_i (((wst k : Nat) : Int) - 1)), (5, ev_i (i : Int))] [] s Q := by
        intro n
        induction n with
        | zero =>
          intro i hi hfi hj
          have ei : i = (wl k).length := by omega
          subst ei
          refine wp_X12_wordAt_20 ?_
          rw [ev_add_eq (x := (f : Int)) ⟨by omega, by omega⟩, ev_add_eq (x := ((wst k : Nat) : Int) - 1) (y := 1) ⟨by omega, by omega⟩, ev_add_eq (x := ((wst k : Nat) : Int) - 1 + 1) ⟨by omega, by omega⟩, show Int.toNat (((wst k : Nat) : Int) - 1 + 1 + ((wl k).length : Int)) = wst k + (wl k).length by omega, show Int.toNat ((f : Int) + ((wl k).length : Int)) = f + (wl k).length by omega, hw _ (by omega), t2, h10]
          have e61 : Ev layM M_X12_wordAt d 61 [(0, ev_r 0), (1, ev_i (f : Int)), (2, ev_i (E : Int)), (3, ev_i (k : Int)), (4, ev_i (((wst k : Nat) : Int) - 1)), (5, ev_i ((wl k).length : Int))] [] s Q := by
            refine wp_X12_wordAt_61 ?_
            rw [ev_add_eq (x := (f : Int)) ⟨by omega, by omega⟩, ev_add_eq (x := ((wst k : Nat) : Int) - 1) (y := 1) ⟨by omega, by omega⟩, ev_add_eq (x := ((wst k : Nat) : Int) - 1 + 1) ⟨by omega, by omega⟩, show Int.toNat (((wst k : Nat) : Int) - 1 + 1 + ((wl k).length : Int)) = wst k + (wl k).length by omega, hw _ (by omega), t2]
            refine ⟨fun q => e94 (fun w => by have := w.1; omega), fun q => ⟨by omega, fun q2 => absurd rfl q2, fun _ => ?_⟩⟩
            rw [WV_eq (k := k) (by omega) ⟨by omega, hj⟩] at h
            exact h
          refine ⟨fun _ => e61, fun q => ⟨by omega, by omega, fun _ => e61, fun q2 => absurd q2 (fun w => nl (f + (wl k).length) (by omega) (by omega) (by rw [← w]; rfl))⟩⟩
        | succ n ihn =>
          intro i hi hfi hj
          obtain ⟨a1, a2, -⟩ := t1 i (by omega)
          refine wp_X12_wordAt_20 ?_
          rw [ev_add_eq (x := (f : Int)) ⟨by omega, by omega⟩, ev_add_eq (x := ((wst k : Nat) : Int) - 1) (y := 1) ⟨by omega, by omega⟩, ev_add_eq (x := ((wst k : Nat) : Int) - 1 + 1) ⟨by omega, by omega⟩, ev_add_eq (x := (i : Int)) (y := 1) ⟨by omega, by omega⟩, show Int.toNat (((wst k : Nat) : Int) - 1 + 1 + (i : Int)) = wst k + i by omega, show Int.toNat ((f : Int) + (i : Int)) = f + i by omega, hw _ (by omega), a1, h10]
          have e61 : (f + i < E → (((wl k).getD i 0 : Nat) : Int) ≠ b (f + i)) → Ev layM M_X12_wordAt d 61 [(0, ev_r 0), (1, ev_i (f : Int)), (2, ev_i (E : Int)), (3, ev_i (k : Int)), (4, ev_i (((wst k : Nat) : Int) - 1)), (5, ev_i (i : Int))] [] s Q := by
            intro hne
            refine wp_X12_wordAt_61 ?_
            rw [ev_add_eq (x := (f : Int)) ⟨by omega, by omega⟩, ev_add_eq (x := ((wst k : Nat) : Int) - 1) (y := 1) ⟨by omega, by omega⟩, ev_add_eq (x := ((wst k : Nat) : Int) - 1 + 1) ⟨by omega, by omega⟩, show Int.toNat (((wst k : Nat) : Int) - 1 + 1 + (i : Int)) = wst k + i by omega, hw _ (by omega), a1]
            refine ⟨fun q => e94 (fun w => ?_), fun q => ⟨by omega, fun _ => e94 (fun w => by have := w.1; omega), fun q2 => absurd q2 (by omega)⟩⟩
            exact hne (by omega) (by rw [w.2 i (by omega)])
          refine ⟨fun q => e61 (fun w => absurd w (by omega)), fun q => ⟨by omega, by omega, fun q2 => e61 (fun _ => q2), fun q2 => ?_⟩⟩
          refine ihn (i + 1) (by omega) (by omega) (fun j hj2 => ?_)
          by_cases c : j = i
          · rw [c]; exact q2.symm
          · exact hj j (by omega)
      refine wp_X12_wordAt_5 ⟨fun q => absurd q (by omega), fun _ => ?_⟩
      rw [ev_add_eq (x := (k : Int) - 1) (y := 1) ⟨by omega, by omega⟩, show (k : Int) - 1 + 1 = (k : Int) by omega]
      exact go (wl k).length 0 (by omega) (by omega) (fun j hj => absurd hj (by omega))
  exact key 35 0 (by omega) (fun j hj => absurd hj (by omega)) _ (by rw [if_pos (by omega), wst_ends.1]; rfl)
end
