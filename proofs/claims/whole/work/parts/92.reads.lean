section
/-! reads: the next token -/
def rdf (s s' : ev_S) : Prop := (∀ i, i ≠ 20 → i ≠ 21 → i ≠ 22 → i ≠ 23 → s' 0 i = s 0 i) ∧ ∀ c, c ≠ 0 → s' c = s c
theorem rdf_rf {s : ev_S} : rdf s s := ⟨fun _ _ _ _ _ => rfl, fun _ _ => rfl⟩
theorem rdf_up {s s' : ev_S} {i : Nat} {z : Int} (h : rdf s s') (hi : i = 20 ∨ i = 21 ∨ i = 22 ∨ i = 23) : rdf s (ev_up s' 0 i z) := ⟨fun k a b c e => by rw [ev_up_ne _ _ (by omega)]; exact h.1 k a b c e, fun c hc => by rw [ev_upj _ _ hc]; exact h.2 c hc⟩
theorem rdf_tr {s s' s'' : ev_S} (h : rdf s s') (h2 : rdf s' s'') : rdf s s'' := ⟨fun i a b c e => by rw [h2.1 i a b c e]; exact h.1 i a b c e, fun c hc => by rw [h2.2 c hc]; exact h.2 c hc⟩
theorem rdf_T {s s' : ev_S} {b : Nat → Int} {L : Nat} (hT : TPm s b L) (h : rdf s s') : TPm s' b L := TPm_keep hT (h.1 19 (by omega) (by omega) (by omega) (by omega)) (h.2 10 (by omega)) (h.2 11 (by omega))
theorem cBl_iff {c : Int} : cBl c = true ↔ (c = 32 ∨ c = 10) := by simp only [cBl, decide_eq_true_eq]
theorem sp_reads95 {d f L : Nat} {s0 : ev_S} {b : Nat → Int} {Q : Option ev_V → ev_S → Prop} (hT : TPm s0 b L) (hf : f < L) (hc : cLe (b f) = true) (h : ∀ s', s' 0 20 = ((tE b L f : Nat) : Int) → s' 0 21 = (f : Int) → s' 0 22 = (if WV b f (tE b L f) = -1 then 1 else 2) → s' 0 23 = WV b f (tE b L f) → rdf s0 s' → Q none s') : ∀ m q, q + m = L → f < q → rn cLe b L q = tE b L f → (∀ j, f ≤ j → j < q → cLe (b j) = true) → ∀ s1, rdf s0 s1 → s1 0 20 = (q : Int) → s1 0 21 = (f : Int) → s1 0 22 = 1 → Ev layM M_X12_reads (d + 2) 95 [(0, ev_r 0)] [] s1 Q := by
  have hL := hT.2.2.1
  have fin : ∀ q, q ≤ L → f < q → q = tE b L f → (∀ j, f ≤ j → j < q → cLe (b j) = true) → ¬ (q < L ∧ cLe (b q) = true) → ∀ s1, rdf s0 s1 → s1 0 20 = (q : Int) → s1 0 21 = (f : Int) → s1 0 22 = 1 → Ev layM M_X12_reads (d + 2) 95 [(0, ev_r 0)] [] s1 Q := by
    intro q hq hfq hE hal hn s1 hr e20 e21 e22
    have hT1 := rdf_T hT hr
    refine wp_X12_reads_95 ?_
    rw [e20]
    refine sp_raw hT1 (ev_pi_mk (sp_isLetter (ev_pi_mk ?_)))
    have ec : cLe (if q < L then b q else -1) = false := by
      by_cases c : q < L
      · rw [if_pos c]
        have : ¬ cLe (b q) = true := fun w => hn ⟨c, w⟩
        revert this
        cases cLe (b q) <;> simp
      · rw [if_neg c]; rfl
    rw [ec, if_neg (by simp), e20, e21]
    refine ⟨fun _ => sp_wordAt hT1 hfq hq hal (ev_pi_mk ?_), fun w => absurd rfl w⟩
    rintro _ rfl
    rw [ev_up_same]
    rw [hE]
    refine ⟨fun w => h _ ?_ ?_ ?_ ?_ ?_, fun w => ?_⟩
    · rw [ev_up_ne _ _ (by omega), e20, hE]
    · rw [ev_up_ne _ _ (by omega)]; exact e21
    · rw [ev_up_ne _ _ (by omega), if_pos w]; exact e22
    · rw [ev_up_same]
    · exact rdf_up hr (by omega)
    · rintro _ rfl
      refine h _ ?_ ?_ ?_ ?_ ?_
      · rw [ev_up_ne _ _ (by omega), ev_up_ne _ _ (by omega), e20, hE]
      · rw [ev_up_ne _ _ (by omega), ev_up_ne _ _ (by omega)]; exact e21
      · rw [ev_up_same, if_neg w]
      · rw [ev_up_ne _ _ (by omega), ev_up_same]
      · exact rdf_up (rdf_up hr (by omega)) (by omega)
  intro m
  induction m with
  | zero =>
    intro q hq hfq hE hal s1 hr e20 e21 e22
    refine fin q (by omega) hfq ?_ hal (fun w => absurd w.1 (by omega)) s1 hr e20 e21 e22
    rw [← hE, rn_stop (fun w => absurd w.1 (by omega))]
  | succ m ih =>
    intro q hq hfq hE hal s1 hr e20 e21 e22
    by_cases c : cLe (b q) = true
    · refine wp_X12_reads_95 ?_
      rw [e20]
      refine sp_raw (rdf_T hT hr) (ev_pi_mk (sp_isLetter (ev_pi_mk ?_)))
      rw [if_pos (show q < L by omega), c, if_pos rfl, e20, ev_add_eq ⟨by omega, by omega⟩]
      refine ⟨fun w => absurd w (by omega), fun _ => ?_⟩
      rintro _ rfl
      refine ih (q + 1) (by omega) (by omega) (by rw [← rn_step (by omega) c]; exact hE) (fun j a e => ?_) _ (rdf_up hr (by omega)) (ev_up_same _ _ _ _) (by rw [ev_up_ne _ _ (by omega)]; exact e21) (by rw [ev_up_ne _ _ (by omega)]; exact e22)
      by_cases cj : j = q
      · rw [cj]; exact c
      · exact hal j a (by omega)
    · refine fin q (by omega) hfq ?_ hal (fun w => c w.2) s1 hr e20 e21 e22
      rw [← hE, rn_stop (fun w => c w.2)]
theorem sp_reads171 {d f L : Nat} {s0 : ev_S} {b : Nat → Int} {Q : Option ev_V → ev_S → Prop} (hT : TPm s0 b L) (hf : f < L) (h : ∀ s', s' 0 20 = ((tE b L f : Nat) : Int) → s' 0 21 = (f : Int) → s' 0 22 = (if tE b L f < f + 5 then 3 else 1) → (tE b L f < f + 5 → s' 0 23 = dv b f (tE b L f - f)) → rdf s0 s' → Q none s') : ∀ m q, q + m = L → f < q → rn cDi b L q = tE b L f → (∀ j, f ≤ j → j < q → cDi (b j) = true) → ∀ s1, rdf s0 s1 → s1 0 20 = (q : Int) → s1 0 21 = (f : Int) → s1 0 22 = 1 → (0 ≤ s1 0 23 ∧ s1 0 23 ≤ 100000) → (q < f + 5 → s1 0 23 = dv b f (q - f)) → Ev layM M_X12_reads (d + 2) 171 [(0, ev_r 0)] [] s1 Q := by
  have hL := hT.2.2.1
  have fin : ∀ q, q ≤ L → f < q → q = tE b L f → ¬ (q < L ∧ cDi (b q) = true) → ∀ s1, rdf s0 s1 → s1 0 20 = (q : Int) → s1 0 21 = (f : Int) → s1 0 22 = 1 → (q < f + 5 → s1 0 23 = dv b f (q - f)) → Ev layM M_X12_reads (d + 2) 171 [(0, ev_r 0)] [] s1 Q := by
    intro q hq hfq hE hn s1 hr e20 e21 e22 e23
    have hT1 := rdf_T hT hr
    refine wp_X12_reads_171 ?_
    rw [e20]
    refine sp_raw hT1 (ev_pi_mk (sp_isDigit (ev_pi_mk ?_)))
    have ec : cDi (if q < L then b q else -1) = false := by
      by_cases c : q < L
      · rw [if_pos c]
        have : ¬ cDi (b q) = true := fun w => hn ⟨c, w⟩
        revert this
        cases cDi (b q) <;> simp
      · rw [if_neg c]; rfl
    rw [ec, if_neg (by simp), e20, e21, ev_sub_eq ⟨by omega, by omega⟩]
    refine ⟨fun _ => ⟨fun w => h _ ?_ e21 ?_ ?_ hr, fun w => ?_⟩, fun w => absurd rfl w⟩
    · rw [e20, hE]
    · rw [if_neg (by omega)]; exact e22
    · intro w2; exact absurd w2 (by omega)
    · rintro _ rfl
      refine h _ ?_ ?_ ?_ ?_ (rdf_up hr (by omega))
      · rw [ev_up_ne _ _ (by omega), e20, hE]
      · rw [ev_up_ne _ _ (by omega)]; exact e21
      · rw [ev_up_same, if_pos (by omega)]
      · intro w2
        rw [ev_up_ne _ _ (by omega), e23 (by omega), hE]
  intro m
  induction m with
  | zero =>
    intro q hq hfq hE hal s1 hr e20 e21 e22 e23a e23
    refine fin q (by omega) hfq ?_ (fun w => absurd w.1 (by omega)) s1 hr e20 e21 e22 e23
    rw [← hE, rn_stop (fun w => absurd w.1 (by omega))]
  | succ m ih =>
    intro q hq hfq hE hal s1 hr e20 e21 e22 e23a e23
    by_cases c : cDi (b q) = true
    · have hT1 := rdf_T hT hr
      have hb := hT.2.2.2.1 q (by omega)
      have hd := c
      simp only [cDi, decide_eq_true_eq] at hd
      have hal2 : ∀ j, f ≤ j → j < q + 1 → cDi (b j) = true := fun j a e => by
        by_cases cj : j = q
        · rw [cj]; exact c
        · exact hal j a (by omega)
      have hE2 : rn cDi b L (q + 1) = tE b L f := by rw [← rn_step (by omega) c]; exact hE
      refine wp_X12_reads_171 ?_
      rw [e20]
      refine sp_raw hT1 (ev_pi_mk (sp_isDigit (ev_pi_mk ?_)))
      rw [if_pos (show q < L by omega), c, if_pos rfl, e20]
      refine ⟨fun w => absurd w (by omega), fun _ => ⟨fun w => ?_, fun w => sp_raw hT1 (ev_pi_mk ?_)⟩⟩
      · rintro _ rfl
        rw [ev_up_ne _ _ (by omega), e20, ev_add_eq ⟨by omega, by omega⟩]
        rintro _ rfl
        refine ih (q + 1) (by omega) (by omega) hE2 hal2 _ (rdf_up (rdf_up hr (by omega)) (by omega)) (ev_up_same _ _ _ _) ?_ ?_ ?_ (fun w2 => ?_)
        · rw [ev_up_ne _ _ (by omega), ev_up_ne _ _ (by omega)]; exact e21
        · rw [ev_up_ne _ _ (by omega), ev_up_ne _ _ (by omega)]; exact e22
        · rw [ev_up_ne _ _ (by omega), ev_up_same]; exact e23a
        · exfalso
          have e := e23 (by omega)
          have r := dv_rng (b := b) (f := f) (q - f) (by omega) (fun i hi => hal (f + i) (by omega) (by omega))
          rcases (show q - f = 1 ∨ q - f = 2 ∨ q - f = 3 ∨ q - f = 4 by omega) with k | k | k | k <;> rw [k] at r e <;> simp at r <;> omega
      · rw [if_pos (show q < L by omega), ev_mul_eq ⟨by omega, by omega⟩, ev_add_eq ⟨by omega, by omega⟩, ev_sub_eq ⟨by omega, by omega⟩]
        rintro _ rfl
        rw [ev_up_ne _ _ (by omega), e20, ev_add_eq ⟨by omega, by omega⟩]
        rintro _ rfl
        refine ih (q + 1) (by omega) (by omega) hE2 hal2 _ (rdf_up (rdf_up hr (by omega)) (by omega)) (ev_up_same _ _ _ _) ?_ ?_ ?_ (fun w2 => ?_)
        · rw [ev_up_ne _ _ (by omega), ev_up_ne _ _ (by omega)]; exact e21
        · rw [ev_up_ne _ _ (by omega), ev_up_ne _ _ (by omega)]; exact e22
        · rw [ev_up_ne _ _ (by omega), ev_up_same]; omega
        · rw [ev_up_ne _ _ (by omega), ev_up_same, e23 (by omega), show q + 1 - f = (q - f) + 1 by omega]
          simp only [dv]
          rw [show f + (q - f) = q by omega]
          omega
    · refine fin q (by omega) hfq ?_ (fun w => c w.2) s1 hr e20 e21 e22 e23
      rw [← hE, rn_stop (fun w => c w.2)]
theorem sp_reads {d j L : Nat} {s : ev_S} {b : Nat → Int} {Q : Option ev_V → ev_S → Prop} (hT : TPm s b L) (h20 : s 0 20 = ((tp b L j : Nat) : Int)) (h : ∀ s', s' 0 20 = ((tp b L (j + 1) : Nat) : Int) → s' 0 21 = ((kF b L j : Nat) : Int) → s' 0 22 = kT b L j → (2 ≤ kT b L j → s' 0 23 = kV b L j) → rdf s s' → Q none s') : Ev layM M_X12_reads (d + 2) 0 [(0, ev_r 0)] [] s Q := by
  have hL := hT.2.2.1
  have htp := (tp_prop (b := b) (L := L) j).1
  have key : ∀ m p, p + m = L → rn cBl b L p = kF b L j → ∀ s1, rdf s s1 → s1 0 20 = (p : Int) → Ev layM M_X12_reads (d + 2) 0 [(0, ev_r 0)] [] s1 Q := by
    have fin : ∀ p, p ≤ L → p = kF b L j → ¬ (p < L ∧ cBl (b p) = true) → ∀ s1, rdf s s1 → s1 0 20 = (p : Int) → Ev layM M_X12_reads (d + 2) 0 [(0, ev_r 0)] [] s1 Q := by
      intro p hp hF hn s1 hr e20
      have hT1 := rdf_T hT hr
      have nbl : p < L → b p ≠ 32 ∧ b p ≠ 10 := fun w => ⟨fun w2 => hn ⟨w, cBl_iff.mpr (Or.inl w2)⟩, fun w2 => hn ⟨w, cBl_iff.mpr (Or.inr w2)⟩⟩
      have etp : tp b L (j + 1) = if p < L then tE b L p else L := by
        simp only [tp]
        unfold kF at hF
        rw [← hF]
      refine wp_X12_reads_0 ?_
      rw [e20]
      refine sp_raw hT1 (ev_pi_mk ⟨fun w => ?_, fun _ => ?_⟩)
      · by_cases c : p < L
        · rw [if_pos c] at w; exact absurd w (nbl c).1
        · rw [if_neg c] at w; exact absurd w (by omega)
      · rw [e20]
        refine sp_raw hT1 (ev_pi_mk ⟨fun _ => ?_, fun w => ?_⟩)
        · rw [e20]
          rintro _ rfl
          rintro _ rfl
          rw [ev_up_ne _ _ (by omega), ev_up_ne _ _ (by omega), e20]
          generalize es2 : ev_up (ev_up s1 0 21 (p : Int)) 0 22 1 = s2
          have r2 : rdf s s2 := by rw [← es2]; exact rdf_up (rdf_up hr (by omega)) (by omega)
          have a20 : s2 0 20 = (p : Int) := by rw [← es2, ev_up_ne _ _ (by omega), ev_up_ne _ _ (by omega)]; exact e20
          have a21 : s2 0 21 = (p : Int) := by rw [← es2, ev_up_ne _ _ (by omega), ev_up_same]
          have a22 : s2 0 22 = 1 := by rw [← es2, ev_up_same]
          refine sp_raw (rdf_T hT r2) (ev_pi_mk ?_)
          by_cases c : p < L
          · rw [if_pos c] at etp
            have hb := hT.2.2.2.1 p c
            have hE := tE_prop (b := b) c
            rw [if_pos c, a20, ev_add_eq ⟨by omega, by omega⟩]
            refine ⟨fun _ => ?_, fun w => absurd w (by omega)⟩
            rintro _ rfl
            rintro _ rfl
            generalize es3 : ev_up (ev_up s2 0 20 ((p : Int) + 1)) 0 23 (b p) = s3
            have r3 : rdf s s3 := by rw [← es3]; exact rdf_up (rdf_up r2 (by omega)) (by omega)
            have b20 : s3 0 20 = ((p + 1 : Nat) : Int) := by rw [← es3, ev_up_ne _ _ (by omega), ev_up_same]; omega
            have b21 : s3 0 21 = (p : Int) := by rw [← es3, ev_up_ne _ _ (by omega), ev_up_ne _ _ (by omega)]; exact a21
            have b22 : s3 0 22 = 1 := by rw [← es3, ev_up_ne _ _ (by omega), ev_up_ne _ _ (by omega)]; exact a22
            have b23 : s3 0 23 = b p := by rw [← es3, ev_up_same]
            refine sp_isLetter (ev_pi_mk ?_)
            by_cases cl : cLe (b p) = true
            · rw [cl, if_pos rfl]
              refine ⟨fun w => absurd w (by omega), fun _ => ?_⟩
              have eE : tE b L p = rn cLe b L (p + 1) := by unfold tE; rw [if_pos cl]
              have eT : kT b L j = if WV b p (tE b L p) = -1 then 1 else 2 := by unfold kT; rw [← hF]; unfold tT; rw [if_neg (by omega), if_pos cl]
              have eV : kV b L j = WV b p (tE b L p) := by unfold kV; rw [← hF]; unfold tV; rw [if_pos cl]
              refine sp_reads95 (s0 := s3) (rdf_T hT r3) c cl (fun s' y1 y2 y3 y4 y5 => h s' (by rw [y1, etp]) (by rw [y2, hF]) (by rw [y3, eT]) (fun _ => by rw [y4, eV]) (rdf_tr r3 y5)) (L - (p + 1)) (p + 1) (by omega) (by omega) eE.symm (fun j2 a e => ?_) s3 rdf_rf b20 b21 b22
              rw [show j2 = p by omega]; exact cl
            · have cl2 : cLe (b p) = false := by revert cl; cases cLe (b p) <;> simp
              rw [cl2, if_neg (by simp)]
              refine ⟨fun _ => sp_isDigit (ev_pi_mk ?_), fun w => absurd rfl w⟩
              by_cases cd : cDi (b p) = true
              · rw [cd, if_pos rfl]
                have hd := cd
                simp only [cDi, decide_eq_true_eq] at hd
                refine ⟨fun w => absurd w (by omega), fun _ => ?_⟩
                rw [ev_sub_eq ⟨by omega, by omega⟩]
                rintro _ rfl
                have eE : tE b L p = rn cDi b L (p + 1) := by unfold tE; rw [if_neg cl, if_pos cd]
                have eT : kT b L j = if tE b L p < p + 5 then 3 else 1 := by unfold kT; rw [← hF]; unfold tT; rw [if_neg (by omega), if_neg cl, if_pos cd]
                have eV : kV b L j = dv b p (tE b L p - p) := by unfold kV; rw [← hF]; unfold tV; rw [if_neg cl, if_pos cd]
                refine sp_reads171 (s0 := s3) (rdf_T hT r3) c (fun s' y1 y2 y3 y4 y5 => h s' (by rw [y1, etp]) (by rw [y2, hF]) (by rw [y3, eT]) (fun w => ?_) (rdf_tr r3 y5)) (L - (p + 1)) (p + 1) (by omega) (by omega) eE.symm (fun j2 a e => ?_) _ (rdf_up rdf_rf (by omega)) (by rw [ev_up_ne _ _ (by omega)]; exact b20) (by rw [ev_up_ne _ _ (by omega)]; exact b21) (by rw [ev_up_ne _ _ (by omega)]; exact b22) (by rw [ev_up_same]; omega) (fun _ => ?_)
                · rw [eT] at w
                  by_cases c5 : tE b L p < p + 5
                  · rw [y4 c5, eV]
                  · rw [if_neg c5] at w; exact absurd w (by omega)
                · rw [show j2 = p by omega]; exact cd
                · rw [ev_up_same, show p + 1 - p = 0 + 1 by omega]
                  simp only [dv, Nat.add_zero]
                  try rw [if_pos c]
                  omega
              · have cd2 : cDi (b p) = false := by revert cd; cases cDi (b p) <;> simp
                rw [cd2, if_neg (by simp)]
                refine ⟨fun _ => sp_isMarkSign (ev_pi_mk ?_), fun w => absurd rfl w⟩
                have eE : tE b L p = p + 1 := by unfold tE; rw [if_neg cl, if_neg cd]
                have eT : kT b L j = if cSi (b p) then 4 else 1 := by unfold kT; rw [← hF]; unfold tT; rw [if_neg (by omega), if_neg cl, if_neg cd]
                have eV : kV b L j = b p := by unfold kV; rw [← hF]; unfold tV; rw [if_neg cl, if_neg cd]
                by_cases cs : cSi (b p) = true
                · rw [cs, if_pos rfl]
                  refine ⟨fun w => absurd w (by omega), fun _ => ?_⟩
                  rintro _ rfl
                  refine h _ ?_ ?_ ?_ (fun _ => ?_) (rdf_up r3 (by omega))
                  · rw [ev_up_ne _ _ (by omega), b20, etp, eE]
                  · rw [ev_up_ne _ _ (by omega), b21, hF]
                  · rw [ev_up_same, eT, cs, if_pos rfl]
                  · rw [ev_up_ne _ _ (by omega), b23, eV]
                · have cs2 : cSi (b p) = false := by revert cs; cases cSi (b p) <;> simp
                  rw [cs2, if_neg (by simp)]
                  refine ⟨fun _ => h _ ?_ ?_ ?_ (fun _ => ?_) r3, fun w => absurd rfl w⟩
                  · rw [b20, etp, eE]
                  · rw [b21, hF]
                  · rw [b22, eT, cs2, if_neg (by simp)]
                  · rw [b23, eV]
          · rw [if_neg c] at etp
            have eL : p = L := by omega
            have e0 : kT b L j = 0 := kT_0 (by omega)
            rw [if_neg c]
            refine ⟨fun w => absurd rfl w, fun _ => ?_⟩
            rintro _ rfl
            refine h _ ?_ ?_ ?_ (fun w => absurd w (by omega)) (rdf_up r2 (by omega))
            · rw [ev_up_ne _ _ (by omega), a20, etp, eL]
            · rw [ev_up_ne _ _ (by omega), a21, hF]
            · rw [ev_up_same, e0]
        · by_cases c : p < L
          · rw [if_pos c] at w; exact absurd w (nbl c).2
          · rw [if_neg c] at w; exact absurd w (by omega)
    intro m
    induction m with
    | zero =>
      intro p hp hF s1 hr e20
      exact fin p (by omega) (by rw [← hF, rn_stop (fun w => absurd w.1 (by omega))]) (fun w => absurd w.1 (by omega)) s1 hr e20
    | succ m ih =>
      intro p hp hF s1 hr e20
      by_cases c : cBl (b p) = true
      · have hF2 : rn cBl b L (p + 1) = kF b L j := by rw [← rn_step (by omega) c]; exact hF
        have hT1 := rdf_T hT hr
        have c2 := cBl_iff.mp c
        refine wp_X12_reads_0 ?_
        rw [e20]
        refine sp_raw hT1 (ev_pi_mk ?_)
        rw [if_pos (show p < L by omega), e20, ev_add_eq ⟨by omega, by omega⟩]
        refine ⟨fun _ => ?_, fun w => sp_raw hT1 (ev_pi_mk ?_)⟩
        · rintro _ rfl
          exact ih (p + 1) (by omega) hF2 _ (rdf_up hr (by omega)) (ev_up_same _ _ _ _)
        · rw [if_pos (show p < L by omega), e20, ev_add_eq ⟨by omega, by omega⟩]
          refine ⟨fun w2 => absurd c2 (by omega), fun _ => ?_⟩
          rintro _ rfl
          exact ih (p + 1) (by omega) hF2 _ (rdf_up hr (by omega)) (ev_up_same _ _ _ _)
      · exact fin p (by omega) (by rw [← hF, rn_stop (fun w => c w.2)]) (fun w => c w.2) s1 hr e20
  exact key (L - tp b L j) (tp b L j) (by omega) rfl s rdf_rf h20
end
