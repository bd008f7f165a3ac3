section
/-! THE WAY: the model lays the seconds -/
def ly (b : Nat → Int) (L je : Nat) (s0 : ev_S) (nn : Nat) (W0 : Nat → Int) (s : ev_S) : Prop := AM b L s je ∧ frW s0 s ∧ (s 18 = s0 18 ∧ s 19 = s0 19 ∧ s 0 41 = s0 0 41) ∧ ∀ i, i < nn → s 20 (4800 + i) = W0 i
theorem ly_row {b : Nat → Int} {L je nn : Nat} {s0 s : ev_S} {W0 W1 : Nat → Int} (h : ly b L je s0 nn W0 s) (e : ∀ i, i < nn → W1 i = W0 i) : ly b L je s0 nn W1 s := ⟨h.1, h.2.1, h.2.2.1, fun i hi => by rw [e i hi]; exact h.2.2.2 i hi⟩
theorem ly_st {b : Nat → Int} {L je nn c i : Nat} {s0 s : ev_S} {W0 : Nat → Int} {z : Int} (h : ly b L je s0 nn W0 s) (hc : c = 22 ∨ c = 23) : ly b L je s0 nn W0 (ev_up s c i z) := by
  obtain ⟨h1, h2, ⟨h3, h4, h5⟩, h6⟩ := h
  exact ⟨AM_keep h1 (fun k _ _ => by rw [ev_upj _ _ (by omega)]) (ev_upj _ _ (by omega)) (ev_upj _ _ (by omega)), frW_upc h2 (by omega), ⟨by rw [ev_upj _ _ (by omega)]; exact h3, by rw [ev_upj _ _ (by omega)]; exact h4, by rw [ev_upj _ _ (by omega)]; exact h5⟩, fun k hk => by rw [ev_upj _ _ (by omega)]; exact h6 k hk⟩
def LAY (b : Nat → Int) (L o : Nat) (O C : Nat → Int) (lc : Nat) (W : Nat → Int) (lw : Nat) : Prop := ∀ (d p nn je : Nat) (s0 s : ev_S) (W0 : Nat → Int) (Q : Option ev_V → ev_S → Prop), ((p + lc : Nat) : Int) ≤ s0 0 41 → s0 0 41 ≤ 100 → nn ≤ 600 → (∀ i, i < lc → s0 18 (p + i) = O i ∧ s0 19 (p + i) = C i) → ly b L je s0 nn W0 s → (nn + lw ≤ 600 → ∀ s', ly b L je s0 (nn + lw) (wcat W0 nn W) s' → (∀ i, i < o → s' 22 i = s 22 i ∧ s' 23 i = s 23 i) → Ev layM M_X12_laysWay (d + 1) 6 [(0, ev_r 0), (1, ev_i ((nn + lw : Nat) : Int)), (2, ev_i (o : Int)), (3, ev_i ((p + lc : Nat) : Int))] [] s' Q) → (600 < nn + lw → ∀ s', FM b L s0 4 je s' → Q (some (ev_i (-1))) s') → Ev layM M_X12_laysWay (d + 1) 6 [(0, ev_r 0), (1, ev_i (nn : Int)), (2, ev_i (o : Int)), (3, ev_i (p : Int))] [] s Q
theorem LAY_nil {b : Nat → Int} {L o : Nat} {O C W : Nat → Int} : LAY b L o O C 0 W 0 := by
  intro d p nn je s0 s W0 Q hp h100 hnn hc hl hk hf
  exact hk (by omega) s (ly_row hl (fun i hi => wcat_lt (by omega))) (fun _ _ => ⟨rfl, rfl⟩)
theorem LAY_cat {b : Nat → Int} {L o l1 l2 w1 w2 : Nat} {O1 C1 W1 O2 C2 W2 : Nat → Int} (h1 : LAY b L o O1 C1 l1 W1 w1) (h2 : LAY b L o O2 C2 l2 W2 w2) : LAY b L o (wcat O1 l1 O2) (wcat C1 l1 C2) (l1 + l2) (wcat W1 w1 W2) (w1 + w2) := by
  intro d p nn je s0 s W0 Q hp h100 hnn hc hl hk hf
  refine h1 d p nn je s0 s W0 Q (by omega) h100 hnn (fun i hi => ?_) hl (fun hle s1 y1 y2 => ?_) (fun hgt s' hF => hf (by omega) s' hF)
  · have := hc i (by omega)
    rw [wcat_lt hi, wcat_lt hi] at this
    exact this
  · refine h2 d (p + l1) (nn + w1) je s0 s1 _ Q (by omega) h100 (by omega) (fun i hi => ?_) y1 (fun hle2 s2 y3 y4 => ?_) (fun hgt s' hF => hf (by omega) s' hF)
    · have := hc (l1 + i) (by omega)
      rw [wcat_ge, wcat_ge] at this
      rw [show p + l1 + i = p + (l1 + i) by omega]
      exact this
    · have := hk (by omega) s2 ?_ (fun i hi => ⟨by rw [(y4 i hi).1]; exact (y2 i hi).1, by rw [(y4 i hi).2]; exact (y2 i hi).2⟩)
      · rw [show nn + (w1 + w2) = nn + w1 + w2 by omega, show p + (l1 + l2) = p + l1 + l2 by omega] at this
        exact this
      · rw [show nn + (w1 + w2) = nn + w1 + w2 by omega]
        refine ly_row y3 (fun i hi => ?_)
        unfold wcat
        by_cases a : i < nn
        · rw [if_pos a, if_pos (by omega), if_pos a]
        · rw [if_neg a]
          by_cases c : i - nn < w1
          · rw [if_pos c, if_pos (by omega), if_neg a]
          · rw [if_neg c, if_neg (by omega), show i - nn - w1 = i - (nn + w1) by omega]
theorem LAY_step {b : Nat → Int} {L o : Nat} {x : Int} {k : Nat} (hx : 0 ≤ x ∧ x ≤ 4) (hk : 1 ≤ k ∧ k ≤ 60) : LAY b L o (fun _ => x) (fun _ => (k : Int)) 1 (fun _ => x) k := by
  intro d p nn je s0 s W0 Q hp h100 hnn hc hl hK hf
  obtain ⟨c1, c2⟩ := hc 0 (by omega)
  rw [Nat.add_zero] at c1 c2
  have e18 : ∀ s1 : ev_S, s1 18 = s0 18 → s1 18 p = x := fun s1 e => by rw [e]; exact c1
  have e19 : ∀ s1 : ev_S, s1 19 = s0 19 → s1 19 p = (k : Int) := fun s1 e => by rw [e]; exact c2
  refine wp_X12_laysWay_6 ?_
  rw [hl.2.2.1.2.2, Int.toNat_natCast, e18 s hl.2.2.1.1, e19 s hl.2.2.1.2.1, ev_add_eq ⟨by omega, by omega⟩]
  refine ⟨fun q => absurd q (by omega), fun _ => ⟨by omega, fun _ => ⟨by omega, fun _ => ⟨by omega, fun q => ?_, fun q => ?_⟩, fun q => absurd q (by omega)⟩, fun q => absurd q (by omega)⟩⟩
  · have key : ∀ m i : Nat, i + m = k → ∀ s1, ly b L je s0 (nn + i) (wcat W0 nn (fun _ => x)) s1 → (∀ q, q < o → s1 22 q = s 22 q ∧ s1 23 q = s 23 q) → Ev layM M_X12_laysWay (d + 1) 132 [(0, ev_r 0), (1, ev_i (nn : Int)), (2, ev_i (o : Int)), (3, ev_i (p : Int)), (4, ev_i (i : Int))] [] s1 Q := by
      intro m
      induction m with
      | zero =>
        intro i hi s1 y1 y2
        have : i = k := by omega
        subst this
        refine wp_X12_laysWay_132 ?_
        rw [Int.toNat_natCast, e19 s1 y1.2.2.1.2.1, ev_add_eq ⟨by omega, by omega⟩, ev_add_eq ⟨by omega, by omega⟩]
        exact ⟨by omega, fun _ => ⟨by omega, hK (by omega) s1 y1 y2⟩, fun q2 => absurd q2 (by omega)⟩
      | succ m ih =>
        intro i hi s1 y1 y2
        refine wp_X12_laysWay_132 ?_
        rw [Int.toNat_natCast, e19 s1 y1.2.2.1.2.1, e18 s1 y1.2.2.1.1, ev_add_eq (x := 4800) ⟨by omega, by omega⟩, ev_add_eq (x := 4800 + (nn : Int)) ⟨by omega, by omega⟩, ev_add_eq (x := (i : Int)) (y := 1) ⟨by omega, by omega⟩, show Int.toNat (4800 + (nn : Int) + (i : Int)) = 4800 + (nn + i) by omega]
        refine ⟨by omega, fun q2 => absurd q2 (by omega), fun _ => ⟨by omega, by omega, ?_⟩⟩
        rintro _ rfl
        obtain ⟨h1, h2, ⟨h3, h4, h5⟩, h6⟩ := y1
        refine ih (i + 1) (by omega) _ ⟨AM_keep h1 (fun k _ _ => by rw [ev_upj _ _ (by omega)]) (ev_upj _ _ (by omega)) (ev_upj _ _ (by omega)), frW_upc h2 (by omega), ⟨by rw [ev_upj _ _ (by omega)]; exact h3, by rw [ev_upj _ _ (by omega)]; exact h4, by rw [ev_upj _ _ (by omega)]; exact h5⟩, fun q2 hq2 => ?_⟩ (fun q2 hq2 => by rw [ev_upj _ _ (by omega), ev_upj _ _ (by omega)]; exact y2 q2 hq2)
        by_cases e : q2 = nn + i
        · rw [e, ev_up_same, wcat_ge]
        · rw [ev_up_ne _ _ (by omega)]; exact h6 q2 (by omega)
    exact key k 0 (by omega) s (ly_row hl (fun i hi => wcat_lt (by omega))) (fun _ _ => ⟨rfl, rfl⟩)
  · exact sp_errs (k := 4) hl.1 (ev_pi_mk (hf (by omega) _ (FM_ers hl.2.1)))
theorem LAY_again {b : Nat → Int} {L o lb wb t : Nat} {O C W : Nat → Int} (ho : o < 4) (ht : 1 ≤ t ∧ t ≤ 9) (hb : LAY b L (o + 1) O C lb W wb) : LAY b L o (wcat (fun _ => 5) 1 (wcat O lb (fun _ => 6))) (wcat (fun _ => (t : Int)) 1 (wcat C lb (fun _ => 0))) (1 + (lb + 1)) (wrep W wb) (t * wb) := by
  intro d p nn je s0 s W0 Q hp h100 hnn hc hl hK hf
  have c0 := hc 0 (by omega)
  rw [wcat_lt (by omega), wcat_lt (by omega), Nat.add_zero] at c0
  have cb : ∀ i, i < lb → s0 18 (p + 1 + i) = O i ∧ s0 19 (p + 1 + i) = C i := fun i hi => by
    have := hc (1 + i) (by omega)
    rw [wcat_ge, wcat_ge, wcat_lt hi, wcat_lt hi] at this
    rw [show p + 1 + i = p + (1 + i) by omega]; exact this
  have ce : s0 18 (p + 1 + lb) = 6 := by
    have := (hc (1 + (lb + 0)) (by omega)).1
    rw [wcat_ge, wcat_ge] at this
    rw [show p + 1 + lb = p + (1 + (lb + 0)) by omega]; exact this
  have key : ∀ r q : Nat, q + (r + 1) = t → nn + q * wb ≤ 600 → ∀ s1, ly b L je s0 (nn + q * wb) (wcat W0 nn (wrep W wb)) s1 → (∀ i, i < o → s1 22 i = s 22 i ∧ s1 23 i = s 23 i) → s1 22 o = (p : Int) → s1 23 o = ((r + 1 : Nat) : Int) → Ev layM M_X12_laysWay (d + 1) 6 [(0, ev_r 0), (1, ev_i ((nn + q * wb : Nat) : Int)), (2, ev_i ((o + 1 : Nat) : Int)), (3, ev_i ((p + 1 : Nat) : Int))] [] s1 Q := by
    intro r
    induction r with
    | zero =>
      intro q hq hqn s1 y1 y2 y3 y4
      have et : t * wb = q * wb + wb := by rw [← hq, Nat.add_mul]; omega
      refine hb d (p + 1) (nn + q * wb) je s0 s1 _ Q (by omega) h100 hqn cb y1 (fun hle s2 z1 z2 => ?_) (fun hgt s' hF => hf (by omega) s' hF)
      refine wp_X12_laysWay_6 ?_
      rw [z1.2.2.1.2.2, Int.toNat_natCast, z1.2.2.1.1, ce, ev_sub_eq ⟨by omega, by omega⟩, show ((o + 1 : Nat) : Int) - 1 = (o : Int) by omega, Int.toNat_natCast, (z2 o (by omega)).2, y4, ev_sub_eq ⟨by omega, by omega⟩, ev_add_eq (x := ((p + 1 + lb : Nat) : Int)) (y := 1) ⟨by omega, by omega⟩]
      refine ⟨fun w => absurd w (by omega), fun _ => ⟨by omega, fun _ => ⟨by omega, fun w => absurd rfl w, fun _ => ⟨by omega, by omega, ?_⟩⟩, fun w => absurd w (by omega)⟩⟩
      rintro _ rfl
      rw [ev_up_same]
      refine ⟨by omega, fun _ => ?_, fun w => absurd w (by omega)⟩
      have := hK (by omega) (ev_up s2 23 o (((0 + 1 : Nat) : Int) - 1)) (ly_st (ly_row (nn := nn + t * wb) ?_ (fun i hi => rfl)) (by omega)) (fun i hi => ⟨?_, ?_⟩)
      · rw [et] at this
        rw [show nn + (q * wb + wb) = nn + q * wb + wb by omega, show p + (1 + (lb + 1)) = p + 1 + lb + 1 by omega] at this
        exact this
      · rw [et, show nn + (q * wb + wb) = nn + q * wb + wb by omega]
        refine ly_row z1 (fun i hi => ?_)
        by_cases c : i < nn + q * wb
        · rw [wcat_lt c]
        · obtain ⟨v, rfl⟩ : ∃ v, i = nn + q * wb + v := ⟨i - (nn + q * wb), by omega⟩
          rw [wcat_ge, show nn + q * wb + v = nn + (q * wb + v) by omega, wcat_ge]
          unfold wrep
          rw [Nat.mul_comm q wb, Nat.mul_add_mod, Nat.mod_eq_of_lt (by omega)]
      · rw [ev_upj _ _ (by omega), (z2 i (by omega)).1]; exact (y2 i hi).1
      · rw [ev_up_ne _ _ (by omega), (z2 i (by omega)).2]; exact (y2 i hi).2
    | succ r ih =>
      intro q hq hqn s1 y1 y2 y3 y4
      have eq1 : (q + 1) * wb = q * wb + wb := by rw [Nat.add_mul]; omega
      have hle9 : (q + 1) * wb ≤ t * wb := Nat.mul_le_mul_right wb (by omega)
      refine hb d (p + 1) (nn + q * wb) je s0 s1 _ Q (by omega) h100 hqn cb y1 (fun hle s2 z1 z2 => ?_) (fun hgt s' hF => hf (by omega) s' hF)
      refine wp_X12_laysWay_6 ?_
      rw [z1.2.2.1.2.2, Int.toNat_natCast, z1.2.2.1.1, ce, ev_sub_eq ⟨by omega, by omega⟩, show ((o + 1 : Nat) : Int) - 1 = (o : Int) by omega, Int.toNat_natCast, (z2 o (by omega)).2, y4, ev_sub_eq ⟨by omega, by omega⟩]
      refine ⟨fun w => absurd w (by omega), fun _ => ⟨by omega, fun _ => ⟨by omega, fun w => absurd rfl w, fun _ => ⟨by omega, by omega, ?_⟩⟩, fun w => absurd w (by omega)⟩⟩
      rintro _ rfl
      rw [ev_up_same, ev_upj _ _ (show (22 : Nat) ≠ 23 by omega), (z2 o (by omega)).1, y3, ev_add_eq (x := (p : Int)) (y := 1) ⟨by omega, by omega⟩]
      refine ⟨by omega, fun w => absurd w (by omega), fun _ => ⟨by omega, ?_⟩⟩
      have := ih (q + 1) (by omega) (by omega) (ev_up s2 23 o (((r + 1 + 1 : Nat) : Int) - 1)) (ly_st ?_ (by omega)) (fun i hi => ⟨?_, ?_⟩) ?_ ?_
      · rw [eq1, show nn + (q * wb + wb) = nn + q * wb + wb by omega] at this
        exact this
      · rw [eq1, show nn + (q * wb + wb) = nn + q * wb + wb by omega]
        refine ly_row z1 (fun i hi => ?_)
        by_cases c : i < nn + q * wb
        · rw [wcat_lt c]
        · obtain ⟨v, rfl⟩ : ∃ v, i = nn + q * wb + v := ⟨i - (nn + q * wb), by omega⟩
          rw [wcat_ge, show nn + q * wb + v = nn + (q * wb + v) by omega, wcat_ge]
          unfold wrep
          rw [Nat.mul_comm q wb, Nat.mul_add_mod, Nat.mod_eq_of_lt (by omega)]
      · rw [ev_upj _ _ (by omega), (z2 i (by omega)).1]; exact (y2 i hi).1
      · rw [ev_up_ne _ _ (by omega), (z2 i (by omega)).2]; exact (y2 i hi).2
      · rw [ev_upj _ _ (by omega), (z2 o (by omega)).1]; exact y3
      · rw [ev_up_same]; omega
  refine wp_X12_laysWay_6 ?_
  rw [hl.2.2.1.2.2, Int.toNat_natCast, hl.2.2.1.1, c0.1, Int.toNat_natCast, ev_add_eq (x := (o : Int)) (y := 1) ⟨by omega, by omega⟩, ev_add_eq (x := (p : Int)) (y := 1) ⟨by omega, by omega⟩]
  refine ⟨fun w => absurd w (by omega), fun _ => ⟨by omega, fun w => absurd rfl w, fun _ => ⟨by omega, ?_⟩⟩⟩
  rintro _ rfl
  refine ⟨by omega, by omega, ?_⟩
  rw [ev_upj _ _ (show (19 : Nat) ≠ 22 by omega), hl.2.2.1.2.1, c0.2]
  rintro _ rfl
  have := key (t - 1) 0 (by omega) (by omega) (ev_up (ev_up s 22 o (p : Int)) 23 o (t : Int)) (ly_st (ly_st (ly_row (nn := nn + 0 * wb) (by rw [Nat.zero_mul]; exact hl) (fun i hi => wcat_lt (by rw [Nat.zero_mul] at hi; omega))) (by omega)) (by omega)) (fun i hi => ⟨by rw [ev_upj _ _ (by omega), ev_up_ne _ _ (by omega)], by rw [ev_up_ne _ _ (by omega), ev_upj _ _ (by omega)]⟩) (by rw [ev_upj _ _ (by omega), ev_up_same]) (by rw [ev_up_same]; omega)
  rw [Nat.zero_mul] at this
  exact this
end
