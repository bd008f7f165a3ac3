section
/-! the class scans the tape -/
def TPx (σ : ev_S) (b : Nat → Int) (L : Nat) : Prop := σ 132 1 = (L : Int) ∧ L ≤ 400 ∧ ∀ i, i < L → (0 ≤ b i ∧ b i ≤ 255) ∧ σ 133 i = tb_s (b i)
theorem tbs_le {z : Int} (hz : 0 ≤ z ∧ z ≤ 255) (h : cLe z = true) : tb_s z = z := by
  simp only [cLe, decide_eq_true_eq] at h
  unfold tb_s; rw [if_pos (by omega)]
theorem tbs_di {z : Int} (hz : 0 ≤ z ∧ z ≤ 255) (h : cDi z = true) : tb_s z = z := by
  simp only [cDi, decide_eq_true_eq] at h
  unfold tb_s; rw [if_pos (by omega)]
theorem sp_sortOf {d : Nat} {s : ev_S} {z : Int} {Q : Option ev_V → ev_S → Prop} (hz : 0 ≤ z ∧ z ≤ 255) (h : Q (some (ev_i (if cLe z then 1 else if cDi z then 2 else 0))) s) : Ev layX M_X9_sortOf d 0 [(0, ev_i (tb_s z))] [] s Q := by
  have y1 : (97 ≤ tb_s z ∧ tb_s z ≤ 122) ∨ (65 ≤ tb_s z ∧ tb_s z ≤ 90) → Q (some (ev_i 1)) s := fun q => by
    have e : cLe z = true := by
      simp only [cLe, decide_eq_true_eq]
      unfold tb_s at q
      split at q <;> omega
    rw [e, if_pos rfl] at h; exact h
  have y2 : ¬ ((97 ≤ tb_s z ∧ tb_s z ≤ 122) ∨ (65 ≤ tb_s z ∧ tb_s z ≤ 90)) → Ev layX M_X9_sortOf d 26 [(0, ev_i (tb_s z))] [] s Q := fun q => by
    have e : cLe z = false := by
      simp only [cLe, decide_eq_false_iff_not]
      unfold tb_s at q
      split at q <;> omega
    rw [e, if_neg (by simp)] at h
    have n : ¬ (48 ≤ tb_s z ∧ tb_s z ≤ 57) → Q (some (ev_i 0)) s := fun q2 => by
      have e2 : cDi z = false := by
        simp only [cDi, decide_eq_false_iff_not]
        unfold tb_s at q2
        split at q2 <;> omega
      rw [e2, if_neg (by simp)] at h; exact h
    refine wp_X9_sortOf_26 ⟨fun q2 => n (by omega), fun q2 => ⟨fun q3 => n (by omega), fun q3 => ?_⟩⟩
    have e2 : cDi z = true := by
      simp only [cDi, decide_eq_true_eq]
      unfold tb_s at q2 q3
      split at q2 <;> split at q3 <;> omega
    rw [e2, if_pos rfl] at h; exact h
  exact wp_X9_sortOf_0 ⟨fun q => ⟨fun q2 => y2 (by omega), fun q2 => ⟨fun q3 => y2 (by omega), fun q3 => y1 (by omega)⟩⟩, fun q => ⟨fun q2 => y1 (by omega), fun q2 => ⟨fun q3 => y2 (by omega), fun q3 => ⟨fun q4 => y2 (by omega), fun q4 => y1 (by omega)⟩⟩⟩⟩
theorem sp_isSame {d f E L c : Nat} {s : ev_S} {b : Nat → Int} {Q : Option ev_V → ev_S → Prop} (hT : TPx s b L) (hf : f < E) (hE : E ≤ L) (hl : ∀ j, f ≤ j → j < E → cLe (b j) = true) (hc : c < 35) (hlen : E = f + (wl (perm c)).length) (h1 : wm b f E (perm c) → Q (some (ev_i 1)) s) (h0 : ¬ wm b f E (perm c) → Q (some (ev_i 0)) s) : Ev layX M_X9_isSame (d + 6) 0 [(0, ev_r 132), (1, ev_i (f : Int)), (2, ev_i (E : Int)), (3, ev_i ((cst c : Nat) : Int))] [] s Q := by
  obtain ⟨hL1, hL, hb⟩ := hT
  obtain ⟨t1, t2, t3, t4⟩ := cl_tab c hc
  refine wp_X9_isSame_0 ?_
  have key : ∀ n i : Nat, i + n = (wl (perm c)).length → (∀ j, j < i → b (f + j) = (((wl (perm c)).getD j 0 : Nat) : Int)) → Ev layX M_X9_isSame (d + 6) 3 [(0, ev_r 132), (1, ev_i (f : Int)), (2, ev_i (E : Int)), (3, ev_i ((cst c : Nat) : Int)), (4, ev_i ((f + i : Nat) : Int))] [] s Q := by
    intro n
    induction n with
    | zero =>
      intro i hi hj
      have ei : i = (wl (perm c)).length := by omega
      subst ei
      exact wp_X9_isSame_3 ⟨fun _ => h1 ⟨hlen, hj⟩, fun q => absurd q (by omega)⟩
    | succ n ih =>
      intro i hi hj
      have hbi := hb (f + i) (by omega)
      have hli := hl (f + i) (by omega) (by omega)
      refine wp_X9_isSame_3 ?_
      rw [ev_add_eq (x := ((cst c : Nat) : Int)) ⟨by omega, by omega⟩, ev_sub_eq ⟨by omega, by omega⟩, show ((cst c : Nat) : Int) + ((f + i : Nat) : Int) - (f : Int) = ((cst c + i : Nat) : Int) by omega, Int.toNat_natCast, hbi.2, tbs_le hbi.1 hli, ev_add_eq ⟨by omega, by omega⟩]
      have ech : ev_ch ((cst c + i : Nat) : Int) = (((wl (perm c)).getD i 0 : Nat) : Int) := by unfold ev_ch; rw [Int.toNat_natCast, t1 i (by omega)]
      rw [ech]
      refine ⟨fun q => absurd q (by omega), fun _ => ⟨fun q => absurd q (by omega), fun _ => ⟨by omega, by omega, fun q => ?_, fun q => h0 (fun w => q (w.2 i (by omega)))⟩⟩⟩
      refine ih (i + 1) (by omega) (fun j hj2 => ?_)
      by_cases cj : j = i
      · rw [cj]; exact q
      · exact hj j (by omega)
  exact key (wl (perm c)).length 0 (by omega) (fun j hj => absurd hj (by omega))
theorem sp_wordOf {d f E L : Nat} {s : ev_S} {b : Nat → Int} {Q : Option ev_V → ev_S → Prop} (hT : TPx s b L) (hf : f < E) (hE : E ≤ L) (hl : ∀ j, f ≤ j → j < E → cLe (b j) = true) (h : Q (some (ev_i (if WV b f E = -1 then 52 else kdf 2 (WV b f E)))) s) : Ev layX M_X9_wordOf (d + 7) 0 [(0, ev_r 132), (1, ev_i (f : Int)), (2, ev_i (E : Int))] [] s Q := by
  have hL := hT.2.1
  refine wp_X9_wordOf_0 ?_
  have key : ∀ m c : Nat, c + m = 35 → (∀ j, j < c → ¬ wm b f E (perm j)) → ∀ z : Int, z = (if c < 35 then ((cst c : Nat) : Int) else 177) → Ev layX M_X9_wordOf (d + 7) 8 [(0, ev_r 132), (1, ev_i (f : Int)), (2, ev_i (E : Int)), (3, ev_i (c : Int)), (4, ev_i z), (5, ev_i z)] [] s Q := by
    intro m
    induction m with
    | zero =>
      intro c hc hn z hz
      rw [if_neg (by omega)] at hz
      subst hz
      have hno : ∀ k, k < 35 → ¬ wm b f E k := by
        intro k hk w
        have ek : perm (if k < 15 then k + 20 else k - 15) = k := by
          unfold perm
          split <;> split <;> omega
        have := hn (if k < 15 then k + 20 else k - 15) (by split <;> omega)
        rw [ek] at this
        exact this w
      rw [WV_no hno, if_pos rfl] at h
      exact wp_X9_wordOf_8 ⟨fun _ => h, fun q => absurd q (by omega)⟩
    | succ m ih =>
      intro c hc hn z hz
      rw [if_pos (by omega)] at hz
      subst hz
      obtain ⟨t1, t2, t3, t4⟩ := cl_tab c (by omega)
      have hp := perm_lt (c := c) (by omega)
      obtain ⟨u1, u2, u3⟩ := wl_tab (perm c) hp
      have next : ¬ wm b f E (perm c) → Ev layX M_X9_wordOf (d + 7) 8 [(0, ev_r 132), (1, ev_i (f : Int)), (2, ev_i (E : Int)), (3, ev_i ((c : Int) + 1)), (4, ev_i (((cst c + (wl (perm c)).length : Nat) : Int) + 1)), (5, ev_i (((cst c + (wl (perm c)).length : Nat) : Int) + 1))] [] s Q := by
        intro hnc
        refine ih (c + 1) (by omega) (fun j hj => ?_) _ ?_
        · by_cases cj : j = c
          · rw [cj]; exact hnc
          · exact hn j (by omega)
        · by_cases c34 : c + 1 < 35
          · rw [if_pos c34, (t2 (by omega)).2]; omega
          · have : c = 34 := by omega
            subst this
            rw [if_neg (by omega), cst_ends.2]; rfl
      have e40 : Ev layX M_X9_wordOf (d + 7) 40 [(0, ev_r 132), (1, ev_i (f : Int)), (2, ev_i (E : Int)), (3, ev_i (c : Int)), (4, ev_i ((cst c : Nat) : Int)), (5, ev_i ((cst c + (wl (perm c)).length : Nat) : Int))] [] s Q := by
        refine wp_X9_wordOf_40 ?_
        rw [ev_sub_eq (x := ((cst c + (wl (perm c)).length : Nat) : Int)) ⟨by omega, by omega⟩, ev_sub_eq (x := (E : Int)) ⟨by omega, by omega⟩, ev_add_eq (x := (c : Int)) (y := 1) ⟨by omega, by omega⟩, ev_add_eq (x := ((cst c + (wl (perm c)).length : Nat) : Int)) (y := 1) ⟨by omega, by omega⟩]
        refine ⟨fun q => next (fun w => by have := w.1; omega), fun q => ?_⟩
        refine sp_isSame (c := c) hT hf hE hl (by omega) (by omega) (fun w => ev_pi_mk ⟨fun q2 => absurd q2 (by omega), fun _ => ?_⟩) (fun w => ev_pi_mk ⟨fun _ => next w, fun q2 => absurd rfl q2⟩)
        rw [WV_eq hp w, if_neg (by omega)] at h
        have ek : kdf 2 ((perm c : Nat) : Int) = (c : Int) := by
          unfold kdf perm
          rw [if_neg (by omega), if_neg (by omega), if_pos rfl]
          split <;> split <;> omega
        rw [ek] at h
        exact h
      have go : ∀ n i : Nat, i + n = (wl (perm c)).length → Ev layX M_X9_wordOf (d + 7) 8 [(0, ev_r 132), (1, ev_i (f : Int)), (2, ev_i (E : Int)), (3, ev_i (c : Int)), (4, ev_i ((cst c : Nat) : Int)), (5, ev_i ((cst c + i : Nat) : Int))] [] s Q := by
        intro n
        induction n with
        | zero =>
          intro i hi
          have ei : i = (wl (perm c)).length := by omega
          subst ei
          refine wp_X9_wordOf_8 ⟨fun q => absurd q (by omega), fun _ => ⟨fun _ => e40, fun q => ⟨by omega, fun q2 => ?_, fun _ => e40⟩⟩⟩
          exfalso
          by_cases c34 : c < 34
          · refine q2 ?_
            unfold ev_ch
            rw [Int.toNat_natCast, (t2 c34).1]; rfl
          · have : c = 34 := by omega
            subst this
            have := cst_ends.2
            omega
        | succ n ihn =>
          intro i hi
          have ech : ev_ch ((cst c + i : Nat) : Int) = (((wl (perm c)).getD i 0 : Nat) : Int) := by unfold ev_ch; rw [Int.toNat_natCast, t1 i (by omega)]
          have n32 := (u1 i (by omega)).2.1
          refine wp_X9_wordOf_8 ?_
          rw [ech, ev_add_eq ⟨by omega, by omega⟩]
          exact ⟨fun q => absurd q (by omega), fun _ => ⟨fun q => absurd q (by omega), fun _ => ⟨by omega, fun _ => ihn (i + 1) (by omega), fun q => absurd q (by omega)⟩⟩⟩
      exact go (wl (perm c)).length 0 (by omega)
  exact key 35 0 (by omega) (fun j hj => absurd hj (by omega)) _ (by rw [if_pos (by omega), cst_ends.1]; rfl)
def nt (σ : ev_S) (j : Nat) (k n p : Int) : ev_S := ev_up (ev_up (ev_up (ev_up σ 134 j k) 135 j n) 136 j p) 132 5 ((j : Int) + 1)
theorem sp_note114 {d j : Nat} {s : ev_S} {f k n : Int} {Q : Option ev_V → ev_S → Prop} (hj : s 132 5 = (j : Int)) (hj4 : j < 400) (h : Q none (nt s j k n f)) : Ev layX M_X9_note (d + 8) 114 [(0, ev_r 132), (2, ev_i f), (4, ev_i k), (5, ev_i n)] [] s Q := by
  refine wp_X9_note_114 ?_
  rw [hj, Int.toNat_natCast]
  refine ⟨fun q => absurd q (by omega), fun _ => ⟨by omega, ?_⟩⟩
  rintro _ rfl
  rw [ev_upj _ _ (show (132 : Nat) ≠ 134 by omega), hj, Int.toNat_natCast]
  refine ⟨by omega, ?_⟩
  rintro _ rfl
  rw [ev_upj _ _ (show (132 : Nat) ≠ 135 by omega), ev_upj _ _ (show (132 : Nat) ≠ 134 by omega), hj, Int.toNat_natCast]
  refine ⟨by omega, ?_⟩
  rintro _ rfl
  rw [ev_upj _ _ (show (132 : Nat) ≠ 136 by omega), ev_upj _ _ (show (132 : Nat) ≠ 135 by omega), ev_upj _ _ (show (132 : Nat) ≠ 134 by omega), hj, ev_add_eq ⟨by omega, by omega⟩]
  rintro _ rfl
  exact h
theorem sp_note {d j f L : Nat} {s : ev_S} {b : Nat → Int} {Q : Option ev_V → ev_S → Prop} (hT : TPx s b L) (hf : f < L) (hj : s 132 5 = (j : Int)) (hj4 : j < 400) (h : ∀ n : Int, (tT b L f = 3 → n = tV b L f) → Q none (nt s j (kdf (tT b L f) (tV b L f)) n (f : Int))) : Ev layX M_X9_note (d + 8) 0 [(0, ev_r 132), (1, ev_i (if cLe (b f) then 1 else if cDi (b f) then 2 else 0)), (2, ev_i (f : Int)), (3, ev_i ((tE b L f : Nat) : Int))] [] s Q := by
  have hE := tE_prop (b := b) hf
  obtain ⟨hL1, hL, hb⟩ := id hT
  have hbf := hb f hf
  refine wp_X9_note_0 ?_
  by_cases cl : cLe (b f) = true
  · have eE : tE b L f = rn cLe b L (f + 1) := by unfold tE; rw [if_pos cl]
    have eT : tT b L f = if WV b f (tE b L f) = -1 then 1 else 2 := by unfold tT; rw [if_neg (by omega), if_pos cl]
    have eV : tV b L f = WV b f (tE b L f) := by unfold tV; rw [if_pos cl]
    have hp := rn_prop (P := cLe) (b := b) (L := L) (L - (f + 1)) (f + 1) (by omega)
    rw [if_pos cl]
    refine ⟨fun q => absurd rfl q, fun _ => sp_wordOf hT (by omega) hE.2 (fun i i1 i2 => ?_) (ev_pi_mk (sp_note114 hj hj4 ?_))⟩
    · by_cases ci : i = f
      · rw [ci]; exact cl
      · exact hp.2.2.1 i (by omega) (by omega)
    · have h2 := h 0 (fun w => by
        rw [eT] at w
        split at w <;> omega)
      have ek : kdf (tT b L f) (tV b L f) = if WV b f (tE b L f) = -1 then 52 else kdf 2 (WV b f (tE b L f)) := by
        rw [eT, eV]
        split
        · rfl
        · rfl
      rw [ek] at h2
      exact h2
  · rw [if_neg cl]
    by_cases cd : cDi (b f) = true
    · have eE : tE b L f = rn cDi b L (f + 1) := by unfold tE; rw [if_neg cl, if_pos cd]
      have eT : tT b L f = if tE b L f < f + 5 then 3 else 1 := by unfold tT; rw [if_neg (by omega), if_neg cl, if_pos cd]
      have eV : tV b L f = dv b f (tE b L f - f) := by unfold tV; rw [if_neg cl, if_pos cd]
      have hp := rn_prop (P := cDi) (b := b) (L := L) (L - (f + 1)) (f + 1) (by omega)
      have hal : ∀ i, f ≤ i → i < tE b L f → cDi (b i) = true := fun i i1 i2 => by
        by_cases ci : i = f
        · rw [ci]; exact cd
        · exact hp.2.2.1 i (by omega) (by omega)
      rw [if_pos cd, ev_sub_eq ⟨by omega, by omega⟩]
      refine ⟨fun _ => ⟨fun q => absurd rfl q, fun _ => ⟨fun q => ?_, fun q => ?_⟩⟩, fun q => absurd q (by omega)⟩
      · refine wp_X9_note_75 ⟨fun _ => sp_note114 hj hj4 ?_, fun q2 => absurd q2 (by omega)⟩
        have h2 := h 0 (fun w => by
          rw [eT, if_neg (by omega)] at w
          omega)
        have ek : kdf (tT b L f) (tV b L f) = 52 := by rw [eT, if_neg (by omega)]; rfl
        rw [ek] at h2
        exact h2
      · have key : ∀ m i : Nat, f + i + m = tE b L f → Ev layX M_X9_note (d + 8) 42 [(0, ev_r 132), (2, ev_i (f : Int)), (3, ev_i ((tE b L f : Nat) : Int)), (4, ev_i 50), (5, ev_i (dv b f i)), (6, ev_i ((f + i : Nat) : Int))] [] s Q := by
          intro m
          induction m with
          | zero =>
            intro i hi
            refine wp_X9_note_42 ⟨fun _ => sp_note114 hj hj4 ?_, fun q2 => absurd q2 (by omega)⟩
            have h2 := h (dv b f i) (fun _ => by rw [eV, show tE b L f - f = i by omega])
            have ek : kdf (tT b L f) (tV b L f) = 50 := by rw [eT, if_pos (by omega)]; rfl
            rw [ek] at h2
            exact h2
          | succ m ihm =>
            intro i hi
            have hbi := hb (f + i) (by omega)
            have hdi := hal (f + i) (by omega) (by omega)
            have hdd := hdi
            simp only [cDi, decide_eq_true_eq] at hdd
            have r := dv_rng (b := b) (f := f) i (by omega) (fun i2 h2 => hal (f + i2) (by omega) (by omega))
            have r2 : dv b f i < 10000 := by
              rcases (show i = 0 ∨ i = 1 ∨ i = 2 ∨ i = 3 by omega) with k | k | k | k <;> rw [k] at r ⊢ <;> simp at r <;> omega
            refine wp_X9_note_42 ⟨fun q2 => absurd q2 (by omega), fun _ => ⟨by omega, ?_⟩⟩
            rw [Int.toNat_natCast, hbi.2, tbs_di hbi.1 hdi, ev_mul_eq ⟨by omega, by omega⟩, ev_add_eq ⟨by omega, by omega⟩, ev_sub_eq ⟨by omega, by omega⟩, ev_add_eq ⟨by omega, by omega⟩]
            have i2 := ihm (i + 1) (by omega)
            simp only [dv] at i2
            rw [show 10 * dv b f i + b (f + i) - 48 = 10 * dv b f i + (b (f + i) - 48) by omega]
            exact i2
        exact key (tE b L f - f) 0 (by omega)
    · have eT : tT b L f = if cSi (b f) then 4 else 1 := by unfold tT; rw [if_neg (by omega), if_neg cl, if_neg cd]
      have eV : tV b L f = b f := by unfold tV; rw [if_neg cl, if_neg cd]
      rw [if_neg cd]
      have no : ¬ cSi (b f) = true → Ev layX M_X9_note (d + 8) 114 [(0, ev_r 132), (2, ev_i (f : Int)), (4, ev_i 52), (5, ev_i 0)] [] s Q := fun cs => by
        refine sp_note114 hj hj4 ?_
        have h2 := h 0 (fun w => by
          rw [eT, if_neg cs] at w
          omega)
        have ek : kdf (tT b L f) (tV b L f) = 52 := by rw [eT, if_neg cs]; rfl
        rw [ek] at h2
        exact h2
      refine ⟨fun _ => ⟨fun _ => wp_X9_note_75 ⟨fun q => absurd rfl q, fun _ => ?_⟩, fun q => absurd q (by omega)⟩, fun q => absurd q (by omega)⟩
      rw [Int.toNat_natCast, hbf.2]
      have hcs : cSi (b f) = true → tb_s (b f) = b f := fun w => by
        simp only [cSi, decide_eq_true_eq] at w
        unfold tb_s; rw [if_pos (by omega)]
      have hcs2 : cSi (tb_s (b f)) = cSi (b f) := by
        by_cases c : b f < 128
        · unfold tb_s; rw [if_pos c]
        · have e1 : cSi (b f) = false := by simp only [cSi, decide_eq_false_iff_not]; omega
          have e2 : cSi (tb_s (b f)) = false := by unfold tb_s; rw [if_neg c]; simp only [cSi, decide_eq_false_iff_not]; omega
          rw [e1, e2]
      refine ⟨by omega, fun q => no (fun w => ?_), fun q => ⟨by omega, ⟨q, ?_⟩, fun r hr => ⟨fun q2 => no (fun w => ?_), fun q2 => ⟨by omega, ?_⟩⟩⟩⟩
      · have := hcs w
        simp only [cSi, decide_eq_true_eq] at w
        omega
      · unfold tb_s; split <;> omega
      · have := hr.mpr (by rw [hcs2]; exact w)
        omega
      · have w := hr.mp q2
        rw [hcs2] at w
        have w2 := w
        simp only [cSi, decide_eq_true_eq] at w2
        rw [hcs w, ev_add_eq ⟨by omega, by omega⟩]
        refine sp_note114 hj hj4 ?_
        have h2 := h 0 (fun w => by
          rw [eT] at w
          split at w <;> omega)
        have ek : kdf (tT b L f) (tV b L f) = 100 + b f := by rw [eT, if_pos w, eV]; rfl
        rw [ek] at h2
        exact h2
def TkX (σ : ev_S) (b : Nat → Int) (L n : Nat) : Prop := σ 132 5 = (n : Int) ∧ ∀ j, j < n → σ 134 j = kdf (kT b L j) (kV b L j) ∧ (kT b L j = 3 → σ 135 j = kV b L j) ∧ σ 136 j = ((kF b L j : Nat) : Int)
def frN (σ σ' : ev_S) : Prop := (∀ i, i ≠ 5 → σ' 132 i = σ 132 i) ∧ ∀ c, c ≠ 132 → c ≠ 134 → c ≠ 135 → c ≠ 136 → σ' c = σ c
theorem sp_scan {d L : Nat} {s : ev_S} {b : Nat → Int} {Q : Option ev_V → ev_S → Prop} (hT : TPx s b L) (h : ∀ n s', n ≤ 400 → kF b L n = L → (∀ j, j < n → kF b L j < L) → TkX s' b L n → frN s s' → Q none s') : Ev layX M_X9_scan (d + 9) 0 [(0, ev_r 132)] [] s Q := by
  have hL := hT.2.1
  refine wp_X9_scan_0 ?_
  rintro _ rfl
  have key : ∀ m i : Nat, m + i = L → ∀ j, j ≤ i → rn cBl b L i = kF b L j → (∀ k, k < j → kF b L k < L) → ∀ s1, TkX s1 b L j → frN s s1 → Ev layX M_X9_scan (d + 9) 9 [(0, ev_r 132), (2, ev_i (i : Int))] [] s1 Q := by
    intro m
    induction m using Nat.strongRecOn with
    | ind m ih =>
      intro i hi j hji hr hk s1 ht hf
      have e1 : s1 132 1 = (L : Int) := by rw [hf.1 1 (by omega)]; exact hT.1
      have e133 : ∀ i, i < L → s1 133 i = tb_s (b i) := fun i hi => by rw [hf.2 133 (by omega) (by omega) (by omega) (by omega)]; exact (hT.2.2 i hi).2
      have hT1 : TPx s1 b L := ⟨e1, hL, fun i hi => ⟨(hT.2.2 i hi).1, e133 i hi⟩⟩
      refine wp_X9_scan_9 ?_
      rw [e1]
      refine ⟨fun q => ?_, fun q => ?_⟩
      · have ei : i = L := by omega
        refine h j s1 (by omega) ?_ hk ht hf
        rw [← hr, rn_stop (fun w => absurd w.1 (by omega))]; exact ei
      · have hbi := (hT.2.2 i (by omega)).1
        rw [Int.toNat_natCast, e133 i (by omega), ev_add_eq ⟨by omega, by omega⟩]
        have blank : cBl (b i) = true → Ev layX M_X9_scan (d + 9) 9 [(0, ev_r 132), (2, ev_i ((i : Int) + 1))] [] s1 Q := fun w => by
          refine ih (m - 1) (by omega) (i + 1) (by omega) j (by omega) (by rw [← rn_step (by omega) w]; exact hr) hk s1 ht hf
        have b32 : tb_s (b i) = 32 ↔ b i = 32 := by unfold tb_s; split <;> omega
        have b10 : tb_s (b i) = 10 ↔ b i = 10 := by unfold tb_s; split <;> omega
        refine ⟨by omega, fun w => blank (cBl_iff.mpr (Or.inl (b32.mp w))), fun w1 => ⟨by omega, fun w => blank (cBl_iff.mpr (Or.inr (b10.mp w))), fun w2 => ⟨by omega, sp_sortOf hbi (ev_pi_mk ?_)⟩⟩⟩
        have nb : ¬ cBl (b i) = true := fun w => by
          rcases cBl_iff.mp w with w3 | w3
          · exact w1 (b32.mpr w3)
          · exact w2 (b10.mpr w3)
        have eF : kF b L j = i := by rw [← hr, rn_stop (fun w => nb w.2)]
        have hE := tE_prop (b := b) (show i < L by omega)
        have e84 : Ev layX M_X9_scan (d + 9) 84 [(0, ev_r 132), (1, ev_i ((tE b L i : Nat) : Int)), (2, ev_i (i : Int)), (3, ev_i (if cLe (b i) then 1 else if cDi (b i) then 2 else 0))] [] s1 Q := by
          refine wp_X9_scan_84 (sp_note hT1 (by omega) ht.1 (by omega) (fun n hn => ?_))
          have etp : tp b L (j + 1) = tE b L i := by
            simp only [tp]
            have : rn cBl b L (tp b L j) = i := eF
            rw [this, if_pos (by omega)]
          refine ih (L - tE b L i) (by omega) (tE b L i) (by omega) (j + 1) (by omega) (by unfold kF; rw [etp]) (fun k hk2 => ?_) _ ⟨ev_up_same _ _ _ _, fun k hk2 => ?_⟩ ⟨fun i2 h2 => ?_, fun c c1 c2 c3 c4 => ?_⟩
          · by_cases ck : k = j
            · rw [ck, eF]; omega
            · exact hk k (by omega)
          · unfold nt
            rw [ev_upj _ _ (by omega), ev_upj _ _ (by omega), ev_upj _ _ (by omega)]
            by_cases ck : k = j
            · subst ck
              rw [ev_up_same, ev_upj _ _ (by omega), ev_upj _ _ (by omega), ev_up_same, ev_upj _ _ (by omega), ev_up_same]
              unfold kT kV
              rw [eF]
              exact ⟨rfl, hn, rfl⟩
            · rw [ev_up_ne _ _ (by omega), ev_upj _ _ (by omega), ev_upj _ _ (by omega), ev_up_ne _ _ (by omega), ev_upj _ _ (by omega), ev_upj _ _ (by omega), ev_up_ne _ _ (by omega), ev_upj _ _ (by omega), ev_upj _ _ (by omega)]
              exact ht.2 k (by omega)
          · unfold nt
            rw [ev_up_ne _ _ (by omega), ev_upj _ _ (by omega), ev_upj _ _ (by omega), ev_upj _ _ (by omega)]; exact hf.1 i2 h2
          · unfold nt
            rw [ev_upj _ _ c1, ev_upj _ _ c4, ev_upj _ _ c3, ev_upj _ _ c2]; exact hf.2 c c1 c2 c3 c4
        have loop : ∀ (P : Int → Bool) (z : Int), z ≠ 0 → (∀ c : Int, 0 ≤ c ∧ c ≤ 255 → ((if cLe c then 1 else if cDi c then 2 else 0) = z ↔ P c = true)) → tE b L i = rn P b L (i + 1) → (if cLe (b i) then (1 : Int) else if cDi (b i) then 2 else 0) = z → ∀ n q, q + n = L → i < q → rn P b L q = tE b L i → Ev layX M_X9_scan (d + 9) 53 [(0, ev_r 132), (1, ev_i (q : Int)), (2, ev_i (i : Int)), (3, ev_i (if cLe (b i) then 1 else if cDi (b i) then 2 else 0))] [] s1 Q := by
          intro P z hz hP hEz hbz n
          induction n with
          | zero =>
            intro q hq hiq hrq
            have eq : q = tE b L i := by rw [← hrq, rn_stop (fun w => absurd w.1 (by omega))]
            refine wp_X9_scan_53 ⟨fun w => absurd w (by rw [hbz]; exact hz), fun _ => ⟨fun _ => ?_, fun w => absurd w (by rw [e1]; omega)⟩⟩
            rw [eq]; exact e84
          | succ n ihn =>
            intro q hq hiq hrq
            have hbq := (hT.2.2 q (by omega)).1
            refine wp_X9_scan_53 ⟨fun w => absurd w (by rw [hbz]; exact hz), fun _ => ⟨fun w => absurd w (by rw [e1]; omega), fun _ => ⟨by omega, ?_⟩⟩⟩
            rw [Int.toNat_natCast, e133 q (by omega), ev_add_eq ⟨by omega, by omega⟩]
            refine sp_sortOf hbq (ev_pi_mk ⟨fun w => ?_, fun w => ?_⟩)
            · have eq : q = tE b L i := by
                rw [← hrq, rn_stop (fun w2 => w (by rw [hbz]; exact (hP _ hbq).mpr w2.2))]
              rw [eq]; exact e84
            · rw [hbz] at w
              exact ihn (q + 1) (by omega) (by omega) (by rw [← rn_step (by omega) ((hP _ hbq).mp w)]; exact hrq)
        by_cases cl : cLe (b i) = true
        · have eE : tE b L i = rn cLe b L (i + 1) := by unfold tE; rw [if_pos cl]
          exact loop cLe 1 (by omega) (fun c _ => by
            by_cases c1 : cLe c = true
            · rw [if_pos c1]; exact ⟨fun _ => c1, fun _ => rfl⟩
            · rw [if_neg c1]
              exact ⟨fun w => by split at w <;> omega, fun w => absurd w c1⟩) eE (by rw [if_pos cl]) (L - (i + 1)) (i + 1) (by omega) (by omega) eE.symm
        · by_cases cd : cDi (b i) = true
          · have eE : tE b L i = rn cDi b L (i + 1) := by unfold tE; rw [if_neg cl, if_pos cd]
            exact loop cDi 2 (by omega) (fun c _ => by
              by_cases c1 : cLe c = true
              · rw [if_pos c1]
                refine ⟨fun w => absurd w (by omega), fun w => ?_⟩
                simp only [cLe, cDi, decide_eq_true_eq] at c1 w
                omega
              · rw [if_neg c1]
                by_cases c2 : cDi c = true
                · rw [if_pos c2]; exact ⟨fun _ => c2, fun _ => rfl⟩
                · rw [if_neg c2]; exact ⟨fun w => absurd w (by omega), fun w => absurd w c2⟩) eE (by rw [if_neg cl, if_pos cd]) (L - (i + 1)) (i + 1) (by omega) (by omega) eE.symm
          · have eE : tE b L i = i + 1 := by unfold tE; rw [if_neg cl, if_neg cd]
            refine wp_X9_scan_53 ⟨fun _ => ?_, fun w => absurd (by rw [if_neg cl, if_neg cd]) w⟩
            rw [eE] at e84
            exact e84
  exact key L 0 (by omega) 0 (by omega) rfl (fun k hk => absurd hk (by omega)) _ ⟨ev_up_same _ _ _ _, fun k hk => absurd hk (by omega)⟩ ⟨fun i hi => ev_up_ne _ _ (by omega), fun c c1 _ _ _ => ev_upj _ _ c1⟩
end
