section
/-! THE LAW: the model's stack of what waits -/
def stk (s : ev_S) : List Int → Prop
  | [] => True
  | x :: P => s 17 P.length = x ∧ stk s P
theorem stk_cong {s s' : ev_S} : ∀ {P : List Int}, (∀ i, i < P.length → s' 17 i = s 17 i) → stk s P → stk s' P
  | [], _, _ => trivial
  | x :: P, h, g => ⟨by rw [h _ (by rw [List.length_cons]; omega)]; exact g.1, stk_cong (fun i hi => h i (by rw [List.length_cons]; omega)) g.2⟩
def mz (b : Nat → Int) (L : Nat) (s0 : ev_S) (c : List (Int × Int)) (P : List Int) (o : Nat) (s : ev_S) (j : Nat) : Prop := AM b L s j ∧ frW s0 s ∧ (∀ i, i < 20 ∨ (23 < i ∧ i ≠ 31 ∧ i ≠ 32 ∧ i ≠ 34 ∧ i ≠ 35 ∧ i ≠ 36) → s 0 i = s0 0 i) ∧ (∀ q, q ≠ 0 → q ≠ 15 → q ≠ 16 → q ≠ 17 → s q = s0 q) ∧ s 0 31 = ((c.length : Nat) : Int) ∧ (∀ i, i < c.length → s 15 (400 + i) = cO c i ∧ s 16 (400 + i) = cA c i) ∧ s 0 32 = (o : Int) ∧ s 0 34 = ((P.length : Nat) : Int) ∧ stk s P
theorem mz_ml {b : Nat → Int} {L o j : Nat} {s0 s : ev_S} {c : List (Int × Int)} {P : List Int} (h : mz b L s0 c P o s j) : mls b L s c s j := ⟨h.1, frW_rf, fun _ _ => rfl, fun _ _ _ _ => rfl, h.2.2.2.2.1, h.2.2.2.2.2.1⟩
theorem mz_of {b : Nat → Int} {L o j j' : Nat} {s0 s s' : ev_S} {c c' : List (Int × Int)} {P : List Int} (h : mz b L s0 c P o s j) (g : mls b L s c' s' j') : mz b L s0 c' P o s' j' := by
  obtain ⟨h1, h2, h3, h4, h5, h6, h7, h8, h9⟩ := h
  obtain ⟨g1, g2, g3, g4, g5, g6⟩ := g
  exact ⟨g1, frW_tr h2 g2, fun i hi => by rw [g3 i (by omega)]; exact h3 i hi, fun q q0 q1 q2 q3 => by rw [g4 q q0 q1 q2]; exact h4 q q0 q1 q2 q3, g5, g6, by rw [g3 32 (by omega)]; exact h7, by rw [g3 34 (by omega)]; exact h8, stk_cong (fun i _ => by rw [g4 17 (by omega) (by omega) (by omega)]) h9⟩
theorem mz_FM {b : Nat → Int} {L o j k i : Nat} {s0 s s' : ev_S} {c : List (Int × Int)} {P : List Int} (h : mz b L s0 c P o s j) (g : FM b L s k i s') : FM b L s0 k i s' := FM_tr h.2.1 g
theorem mz_rd {d L o j : Nat} {s0 s : ev_S} {b : Nat → Int} {c : List (Int × Int)} {P : List Int} {Q : Option ev_V → ev_S → Prop} (h : mz b L s0 c P o s j) (k : ∀ s', mz b L s0 c P o s' (j + 1) → Q none s') : Ev layM M_X12_reads (d + 2) 0 [(0, ev_r 0)] [] s Q := ms_rd (mz_ml h) (fun s' m => k s' (mz_of h m))
theorem mz_emits {d L o j : Nat} {s0 s : ev_S} {b : Nat → Int} {c : List (Int × Int)} {P : List Int} {x y : Int} {Q : Option ev_V → ev_S → Prop} (h : mz b L s0 c P o s j) (hl : c.length < 400) (k : ∀ s', mz b L s0 (c ++ [(x, y)]) P o s' j → Q none s') : Ev layM M_X12_emits d 0 [(0, ev_r 0), (1, ev_i x), (2, ev_i y)] [] s Q := ms_emits (mz_ml h) hl (fun s' m => k s' (mz_of h m))
theorem mz_up {b : Nat → Int} {L o o' j : Nat} {s0 s : ev_S} {c : List (Int × Int)} {P P' : List Int} {i : Nat} {z : Int} (h : mz b L s0 c P o s j) (hi : (i = 34 ∧ o' = o ∧ z = ((P'.length : Nat) : Int) ∧ stk s P') ∨ (i = 32 ∧ P' = P ∧ z = (o' : Int))) : mz b L s0 c P' o' (ev_up s 0 i z) j := by
  obtain ⟨h1, h2, h3, h4, h5, h6, h7, h8, h9⟩ := h
  refine ⟨AM_keep h1 (fun k _ _ => ev_up_ne _ _ (by omega)) (ev_upj _ _ (by omega)) (ev_upj _ _ (by omega)), frW_up0 h2 (by omega), fun k hk => by rw [ev_up_ne _ _ (by omega)]; exact h3 k hk, fun q q0 q1 q2 q3 => by rw [ev_upj _ _ q0]; exact h4 q q0 q1 q2 q3, by rw [ev_up_ne _ _ (by omega)]; exact h5, by rw [ev_upj _ _ (by omega), ev_upj _ _ (by omega)]; exact h6, ?_, ?_, ?_⟩
  · rcases hi with ⟨rfl, rfl, -, -⟩ | ⟨rfl, -, rfl⟩
    · rw [ev_up_ne _ _ (by omega)]; exact h7
    · rw [ev_up_same]
  · rcases hi with ⟨rfl, -, rfl, -⟩ | ⟨rfl, rfl, -⟩
    · rw [ev_up_same]
    · rw [ev_up_ne _ _ (by omega)]; exact h8
  · refine stk_cong (s := s) (fun k _ => by rw [ev_upj _ _ (by omega)]) ?_
    rcases hi with ⟨-, -, -, e⟩ | ⟨-, rfl, -⟩
    · exact e
    · exact h9
theorem mz_waits {d L o j : Nat} {s0 s : ev_S} {b : Nat → Int} {c : List (Int × Int)} {P : List Int} {x : Int} {Q : Option ev_V → ev_S → Prop} (h : mz b L s0 c P o s j) (hl : P.length < 40) (k : ∀ s', mz b L s0 c (x :: P) o s' j → Q none s') : Ev layM M_X12_waits d 0 [(0, ev_r 0), (1, ev_i x)] [] s Q := by
  have h' := h
  obtain ⟨h1, h2, h3, h4, h5, h6, h7, h8, h9⟩ := h
  refine wp_X12_waits_0 ?_
  rw [h8, Int.toNat_natCast]
  refine ⟨by omega, ?_⟩
  rintro _ rfl
  rw [ev_upj _ _ (show (0 : Nat) ≠ 17 by omega), h8, ev_add_eq ⟨by omega, by omega⟩]
  rintro _ rfl
  have m1 : mz b L s0 c P o (ev_up s 17 P.length x) j := ⟨AM_keep h1 (fun k _ _ => by rw [ev_upj _ _ (by omega)]) (ev_upj _ _ (by omega)) (ev_upj _ _ (by omega)), frW_upc h2 (by omega), fun i hi => by rw [ev_upj _ _ (by omega)]; exact h3 i hi, fun q q0 q1 q2 q3 => by rw [ev_upj _ _ q3]; exact h4 q q0 q1 q2 q3, by rw [ev_upj _ _ (by omega)]; exact h5, by rw [ev_upj _ _ (by omega), ev_upj _ _ (by omega)]; exact h6, by rw [ev_upj _ _ (by omega)]; exact h7, by rw [ev_upj _ _ (by omega)]; exact h8, stk_cong (fun i hi => ev_up_ne _ _ (by omega)) h9⟩
  exact k _ (mz_up m1 (Or.inl ⟨rfl, rfl, by rw [List.length_cons]; omega, ev_up_same _ _ _ _, m1.2.2.2.2.2.2.2.2⟩))
theorem mz_pop {b : Nat → Int} {L o j : Nat} {s0 s : ev_S} {c : List (Int × Int)} {P : List Int} {x z : Int} (h : mz b L s0 c (x :: P) o s j) (hz : z = ((P.length : Nat) : Int)) : mz b L s0 c P o (ev_up s 0 34 z) j := mz_up h (Or.inl ⟨rfl, rfl, hz, h.2.2.2.2.2.2.2.2.2⟩)
theorem rep_app {c : List (Int × Int)} {x : Int × Int} {k : Nat} : c ++ [x] ++ List.replicate k x = c ++ List.replicate (k + 1) x := by rw [List.append_assoc]; rfl
theorem mz_settles {d L j : Nat} {s0 : ev_S} {b : Nat → Int} {P : List Int} {x : Int} {Q : Option ev_V → ev_S → Prop} (hP : P.head? ≠ some x) : ∀ (k o : Nat) (c : List (Int × Int)) (s : ev_S), mz b L s0 c (List.replicate k x ++ P) (if x = 9 then o + k else o) s j → P.length + k ≤ 40 → o + k ≤ 100 → c.length + k ≤ 400 → (∀ s', mz b L s0 (c ++ List.replicate k (x, 0)) P o s' j → Q none s') → Ev layM M_X12_settles (d + 1) 0 [(0, ev_r 0), (1, ev_i x)] [] s Q
  | 0, o, c, s, hm, h1, h2, h3, hq => by
    have hm' : mz b L s0 c P o s j := by
      rw [show (if x = 9 then o + 0 else o) = o by split <;> omega] at hm
      exact hm
    have hQ := hq s (by rw [show List.replicate 0 (x, (0 : Int)) = [] from rfl, List.append_nil]; exact hm')
    refine wp_X12_settles_0 ⟨fun _ => hQ, fun q => ?_⟩
    have h8 := hm'.2.2.2.2.2.2.2.1
    rw [h8] at q ⊢
    match P, hP, hm', h1, h8, q with
    | [], _, _, _, _, q => exact absurd q (by simp)
    | y :: P', hP, hm', h1, h8, q =>
      rw [List.length_cons] at h1 ⊢
      rw [ev_sub_eq ⟨by omega, by omega⟩, show Int.toNat (((P'.length + 1 : Nat) : Int) - 1) = P'.length by omega, hm'.2.2.2.2.2.2.2.2.1]
      exact ⟨by omega, fun _ => hQ, fun e => absurd (by rw [e]; rfl) hP⟩
  | k + 1, o, c, s, hm, h1, h2, h3, hq => by
    have hm' : mz b L s0 c (x :: (List.replicate k x ++ P)) (if x = 9 then o + (k + 1) else o) s j := hm
    have h8 := hm'.2.2.2.2.2.2.2.1
    have hlen : (List.replicate k x ++ P).length = k + P.length := by simp
    refine wp_X12_settles_0 ?_
    rw [h8, List.length_cons, hlen, ev_sub_eq ⟨by omega, by omega⟩, show Int.toNat (((k + P.length + 1 : Nat) : Int) - 1) = k + P.length by omega]
    have e17 := hm'.2.2.2.2.2.2.2.2.1
    rw [hlen] at e17
    refine ⟨fun q => absurd q (by omega), fun _ => ⟨by omega, fun q => absurd e17 q, fun _ => ?_⟩⟩
    rintro _ rfl
    refine mz_emits (mz_pop hm' (by rw [hlen]; omega)) (by omega) (fun s2 m2 => ⟨fun n9 => ?_, fun e9 => ?_⟩)
    · rw [if_neg n9] at m2
      exact mz_settles hP k o (c ++ [(x, 0)]) s2 (by rw [if_neg n9]; exact m2) (by omega) (by omega) (by simp; omega) (fun s' m' => hq s' (by rw [rep_app] at m'; exact m'))
    · rw [if_pos e9] at m2
      rw [m2.2.2.2.2.2.2.1, ev_sub_eq ⟨by omega, by omega⟩]
      rintro _ rfl
      exact mz_settles hP k o (c ++ [(x, 0)]) _ (by rw [if_pos e9]; exact mz_up m2 (Or.inr ⟨rfl, rfl, by omega⟩)) (by omega) (by omega) (by simp; omega) (fun s' m' => hq s' (by rw [rep_app] at m'; exact m'))
end
