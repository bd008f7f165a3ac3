section
/-! lot: the class -/
theorem lst_eq {f : Nat → Int} {q : Nat} {h : Int} (e : f q = h) : lst h (lfo f q) = lfo f (q + 1) := by simp only [lfo]; rw [e]
theorem sp_lot20 {d MI S n p : Nat} {s T : ev_S} {f : Nat → Int} {w h : Int} {Q : Option ev_V → ev_S → Prop} (hM : s 1 13 = (MI : Int)) (hM10 : MI ≤ 10) (hS : S < 1024) (hx : ∀ i, i < MI → s 9 (7 * i) = T 24 (7 * i)) (hs : srt f n) (hn : n ≤ 6) (hh : 1 ≤ h ∧ h ≤ 99) (hp : p + cmt T S h MI ≤ n) (hj : ∀ j, p ≤ j → j < p + cmt T S h MI → f j = h)
    (K : Ev layX M_X11_lotOf (d + 1) 12 [(0, ev_r 0), (1, ev_i (S : Int)), (2, ev_i w), (3, ev_l (lfo f (p + cmt T S h MI)).1), (5, ev_l (lfo f (p + cmt T S h MI)).2.1), (7, ev_i (((lfo f (p + cmt T S h MI)).2.2 : Nat) : Int)), (8, ev_i (h - 1))] [] s Q) :
    ∀ m i : Nat, i + m = MI → Ev layX M_X11_lotOf (d + 1) 20 [(0, ev_r 0), (1, ev_i (S : Int)), (2, ev_i w), (3, ev_l (lfo f (p + cmt T S h i)).1), (5, ev_l (lfo f (p + cmt T S h i)).2.1), (7, ev_i (((lfo f (p + cmt T S h i)).2.2 : Nat) : Int)), (8, ev_i h), (9, ev_i (i : Int))] [] s Q := by
  intro m
  induction m with
  | zero =>
    intro i hi
    have : i = MI := by omega
    subst this
    refine wp_X11_lotOf_20 ?_
    rw [hM, ev_add_eq (x := h) (y := -1) ⟨by omega, by omega⟩]
    exact ⟨fun _ => K, fun q => absurd q (by omega)⟩
  | succ m ih =>
    intro i hi
    have i2 := ih (i + 1) (by omega)
    have skip : cmt T S h (i + 1) = cmt T S h i → Ev layX M_X11_lotOf (d + 1) 66 [(0, ev_r 0), (1, ev_i (S : Int)), (2, ev_i w), (3, ev_l (lfo f (p + cmt T S h i)).1), (5, ev_l (lfo f (p + cmt T S h i)).2.1), (7, ev_i (((lfo f (p + cmt T S h i)).2.2 : Nat) : Int)), (8, ev_i h), (9, ev_i (i : Int))] [ev_i 0] s Q := by
      intro e
      rw [e] at i2
      refine wp_X11_lotOf_66 ⟨fun _ => ?_, fun q => absurd rfl q⟩
      rw [ev_add_eq (x := (i : Int)) (y := 1) ⟨by omega, by omega⟩]
      exact i2
    refine wp_X11_lotOf_20 ?_
    rw [hM, ev_bit (by omega) (by omega), ev_mul_eq (x := (i : Int)) (y := 7) ⟨by omega, by omega⟩, ev_add_eq (x := (i : Int) * 7) (y := 0) ⟨by omega, by omega⟩, show Int.toNat ((i : Int) * 7 + 0) = 7 * i by omega, hx i (by omega)]
    refine ⟨fun q => absurd q (by omega), fun _ => ⟨fun q => skip ?_, fun q => ⟨by omega, fun q2 => skip ?_, fun q2 => ?_⟩⟩⟩
    · have hb : ¬ S.testBit i = true := fun c => by
        rw [if_pos c] at q; exact absurd q (by omega)
      simp only [cmt]
      rw [if_neg (fun z => hb z.1)]; omega
    · simp only [cmt]
      rw [if_neg (fun z => q2 z.2)]; omega
    · have hb : S.testBit i = true := by
        by_cases c : S.testBit i = true
        · exact c
        · rw [if_neg c] at q; exact absurd rfl q
      have e : cmt T S h (i + 1) = cmt T S h i + 1 := by simp only [cmt]; rw [if_pos ⟨hb, q2⟩]
      have hle := cmt_mono (T := T) (S := S) (h := h) (n := i + 1) (MI - (i + 1))
      rw [show i + 1 + (MI - (i + 1)) = MI by omega] at hle
      have ef : f (p + cmt T S h i) = h := hj _ (by omega) (by omega)
      have e3 : lfo f (p + cmt T S h (i + 1)) = lst h (lfo f (p + cmt T S h i)) := by rw [e, ← Nat.add_assoc, ← lst_eq ef]
      rw [e3] at i2
      obtain ⟨ok, k2, -⟩ := lfo_ok (f := f) (p + cmt T S h i) (fun j hj2 => hs.2 j (by omega))
      generalize lfo f (p + cmt T S h i) = z at *
      unfold lst at i2
      have hh6 := hun_le z.2.2 (by omega)
      have ok2 := ok.2.1
      have a1 := mul_b ok.1 hh
      have a2 := mul_b (a := z.2.1) ⟨by omega, ok.2.1.2⟩ hh
      have take : (z.2.2 = 0 ∨ ((z.2.2 : Int) - 1) * z.2.1 < h * z.1) → Ev layX M_X11_lotOf (d + 1) 95 [(0, ev_r 0), (1, ev_i (S : Int)), (2, ev_i w), (3, ev_l z.1), (5, ev_l z.2.1), (7, ev_i ((z.2.2 : Nat) : Int)), (8, ev_i h), (9, ev_i (i : Int))] [] s Q := by
        intro c
        rw [if_pos c] at i2
        refine wp_X11_lotOf_95 ?_
        rw [ev_lmul_eq (x := z.1) (y := h) ⟨by omega, by omega⟩, ev_lmul_eq (x := z.2.1) (y := h) ⟨by omega, by omega⟩, ev_ladd_eq (x := z.1 * h) (y := z.2.1) ⟨by omega, by omega⟩, ev_add_eq (x := (z.2.2 : Int)) (y := 1) ⟨by omega, by omega⟩, ev_add_eq (x := (i : Int)) (y := 1) ⟨by omega, by omega⟩]
        exact i2
      refine wp_X11_lotOf_66 ⟨fun q3 => absurd q3 (by omega), fun _ => ⟨fun q4 => take (Or.inl (by omega)), fun q4 => ?_⟩⟩
      obtain ⟨n1, n2, n3⟩ := lot_nums ok ⟨by omega, by omega⟩
      rw [ev_sub_eq (x := (z.2.2 : Int)) (y := 1) ⟨by omega, by omega⟩, ev_lmul_eq (x := (z.2.2 : Int) - 1) (y := z.2.1) ⟨by omega, by omega⟩, ev_lmul_eq (x := h) (y := z.1) (by rw [Int.mul_comm]; exact ⟨by omega, by omega⟩), ev_lcmp_eq (by rw [Int.mul_comm]; exact ⟨by omega, by omega⟩) ⟨by omega, by omega⟩]
      by_cases c : ((z.2.2 : Int) - 1) * z.2.1 < h * z.1
      · rw [if_pos c]
        exact ⟨fun q5 => absurd q5 (by omega), fun _ => take (Or.inr c)⟩
      · rw [if_neg c]
        have e2 : (if h * z.1 = ((z.2.2 : Int) - 1) * z.2.1 then (0 : Int) else -1) ≤ 0 := by split <;> omega
        refine ⟨fun _ => ?_, fun q5 => absurd q5 (by omega)⟩
        rw [if_neg (by rintro (q6 | q6) <;> omega)] at i2
        rw [ev_add_eq (x := (i : Int)) (y := 1) ⟨by omega, by omega⟩]
        exact i2
theorem sp_lotOf {d MI S n : Nat} {s T : ev_S} {f : Nat → Int} {w : Int} {Q : Option ev_V → ev_S → Prop} (hM : s 1 13 = (MI : Int)) (hM10 : MI ≤ 10) (hS : S < 1024) (hx : ∀ i, i < MI → s 9 (7 * i) = T 24 (7 * i)) (hs : srt f n) (hn : 1 ≤ n ∧ n ≤ 6) (hc : ∀ x, cn f x n = cmt T S x MI) (h : Q (some (ev_l (if w = 0 then (lotV (lfo f n)).2 else (lotV (lfo f n)).1))) s) : Ev layX M_X11_lotOf (d + 1) 0 [(0, ev_r 0), (1, ev_i (S : Int)), (2, ev_i w)] [] s Q := by
  refine wp_X11_lotOf_0 ?_
  have key : ∀ m p : Nat, m ≤ 99 → p ≤ n → (∀ j, j < p → (m : Int) < f j) → (∀ j, p ≤ j → j < n → f j ≤ (m : Int)) → Ev layX M_X11_lotOf (d + 1) 12 [(0, ev_r 0), (1, ev_i (S : Int)), (2, ev_i w), (3, ev_l (lfo f p).1), (5, ev_l (lfo f p).2.1), (7, ev_i (((lfo f p).2.2 : Nat) : Int)), (8, ev_i (m : Int))] [] s Q := by
    intro m
    induction m with
    | zero =>
      intro p hm hp h1 h2
      have e : p = n := by
        by_cases c : p < n
        · have a := h2 p (Nat.le_refl _) c
          have b := hs.2 p c
          omega
        · omega
      subst e
      obtain ⟨ok, k2, k3⟩ := lfo_ok (f := f) p (fun j hj2 => hs.2 j hj2)
      have k4 := k3 hn.1
      obtain ⟨n1, n2, n3⟩ := lot_nums ok ⟨k4, by omega⟩
      obtain ⟨g1, g2, g3, g4⟩ := lot_gcd n1.1 n2.1
      refine wp_X11_lotOf_12 ⟨fun _ => ?_, fun q => absurd q (by omega)⟩
      rw [ev_sub_eq (x := (((lfo f p).2.2 : Nat) : Int)) (y := 1) ⟨by omega, by omega⟩, ev_lmul_eq ⟨by omega, by omega⟩]
      rw [← Int.toNat_of_nonneg n1.1, ← Int.toNat_of_nonneg (show 0 ≤ (lfo f p).1 by omega)]
      refine wp_X11_commonPart_0 (sp_commonPart 62 _ _ 0 (by omega) (by omega) (by omega) (by omega) (ev_pl_mk ?_))
      rw [Int.toNat_of_nonneg n1.1, Int.toNat_of_nonneg (show 0 ≤ (lfo f p).1 by omega), ev_lcmp_eq ⟨by omega, by omega⟩ ⟨by omega, by omega⟩, if_pos (by omega)]
      refine ⟨fun _ => ⟨fun q => ⟨by omega, ?_⟩, fun q => ⟨by omega, ?_⟩⟩, fun q => absurd q (by omega)⟩
      · rw [ev_ldiv_eq ⟨by omega, by omega⟩ ⟨by omega, by omega⟩]
        rw [if_pos q] at h; exact h
      · rw [ev_ldiv_eq ⟨by omega, by omega⟩ ⟨by omega, by omega⟩]
        rw [if_neg q] at h; exact h
    | succ m ih =>
      intro p hm hp h1 h2
      refine wp_X11_lotOf_12 ⟨fun q => absurd q (by omega), fun _ => ?_⟩
      obtain ⟨a1, a2, a3⟩ := srt_cn hs hp h1 h2
      rw [hc] at a1 a2 a3
      have i2 := ih (p + cmt T S ((m + 1 : Nat) : Int) MI) (by omega) a1 (fun j hj => ?_) (fun j j1 j2 => ?_)
      · exact sp_lot20 (T := T) (h := ((m + 1 : Nat) : Int)) hM hM10 hS hx hs hn.2 ⟨by omega, by omega⟩ a1 a2 (by rw [show ((m + 1 : Nat) : Int) - 1 = (m : Int) by omega]; exact i2) MI 0 (by omega)
      · by_cases c : j < p
        · have := h1 j c; omega
        · have := a2 j (by omega) hj; omega
      · have := a3 j j1 j2; omega
  exact key 99 0 (by omega) (by omega) (fun j hj => absurd hj (by omega)) (fun j _ hj => by have := (hs.2 j hj).2; omega)
/-- sorted, with the same counts: the same -/
theorem lfo_cong {f g : Nat → Int} {n : Nat} (h : ∀ j, j < n → f j = g j) : ∀ m, m ≤ n → lfo f m = lfo g m
  | 0, _ => rfl
  | m + 1, hm => by simp only [lfo]; rw [lfo_cong h m (by omega), h m (by omega)]
theorem srt_at {f : Nat → Int} {n : Nat} (hs : srt f n) : ∀ m : Nat, m ≤ 99 → ∃ p, p ≤ n ∧ (∀ j, j < p → (((99 - m : Nat) : Int)) < f j) ∧ (∀ j, p ≤ j → j < n → f j ≤ ((99 - m : Nat) : Int))
  | 0, _ => ⟨0, by omega, fun j hj => absurd hj (by omega), fun j _ hj => by have := (hs.2 j hj).2; omega⟩
  | m + 1, hm => by
    obtain ⟨p, p1, p2, p3⟩ := srt_at hs m (by omega)
    obtain ⟨a1, a2, a3⟩ := srt_cn hs p1 p2 p3
    refine ⟨p + cn f ((99 - m : Nat) : Int) n, a1, fun j hj => ?_, fun j j1 j2 => ?_⟩
    · by_cases c : j < p
      · have := p2 j c; omega
      · have := a2 j (by omega) hj; omega
    · have := a3 j j1 j2; omega
theorem srt_eq {f g : Nat → Int} {n : Nat} (hf : srt f n) (hg : srt g n) (h : ∀ x, cn f x n = cn g x n) : ∀ j, j < n → f j = g j := by
  have key : ∀ m : Nat, m ≤ 99 → ∃ p, p ≤ n ∧ (∀ j, j < p → (((99 - m : Nat) : Int)) < f j ∧ (((99 - m : Nat) : Int)) < g j ∧ f j = g j) ∧ (∀ j, p ≤ j → j < n → f j ≤ ((99 - m : Nat) : Int) ∧ g j ≤ ((99 - m : Nat) : Int)) := by
    intro m
    induction m with
    | zero => intro _; exact ⟨0, by omega, fun j hj => absurd hj (by omega), fun j _ hj => ⟨by have := (hf.2 j hj).2; omega, by have := (hg.2 j hj).2; omega⟩⟩
    | succ m ih =>
      intro hm
      obtain ⟨p, p1, p2, p3⟩ := ih (by omega)
      obtain ⟨a1, a2, a3⟩ := srt_cn hf p1 (fun j hj => (p2 j hj).1) (fun j j1 j2 => (p3 j j1 j2).1)
      obtain ⟨b1, b2, b3⟩ := srt_cn hg p1 (fun j hj => (p2 j hj).2.1) (fun j j1 j2 => (p3 j j1 j2).2)
      rw [← h] at b1 b2 b3
      refine ⟨p + cn f ((99 - m : Nat) : Int) n, a1, fun j hj => ?_, fun j j1 j2 => ?_⟩
      · by_cases c : j < p
        · have := p2 j c; omega
        · have := a2 j (by omega) hj; have := b2 j (by omega) hj; omega
      · have := a3 j j1 j2; have := b3 j j1 j2; omega
  obtain ⟨p, p1, p2, p3⟩ := key 99 (by omega)
  intro j hj
  by_cases c : j < p
  · exact (p2 j c).2.2
  · have := (p3 j (by omega) hj).1
    have := (hf.2 j hj).1
    omega
theorem srt_ex {T : ev_S} {S MI : Nat} (hm : ∀ i, i < MI → 1 ≤ T 24 (7 * i) ∧ T 24 (7 * i) ≤ 99) (hM : MI ≤ 10) : ∃ f : Nat → Int, srt f (nbt S MI) ∧ ∀ x, cn f x (nbt S MI) = cmt T S x MI := by
  have key : ∀ m, m ≤ MI → ∃ f : Nat → Int, srt f (nbt S m) ∧ ∀ x, cn f x (nbt S m) = cmt T S x m := by
    intro m
    induction m with
    | zero => intro _; exact ⟨fun _ => 0, ⟨fun j hj => absurd hj (by simp [nbt]), fun j hj => absurd hj (by simp [nbt])⟩, fun x => by simp [nbt, cn, cmt]⟩
    | succ m ih =>
      intro hmm
      obtain ⟨f, f1, f2⟩ := ih (by omega)
      by_cases hb : S.testBit m = true
      · have e1 : nbt S (m + 1) = nbt S m + 1 := by simp only [nbt]; rw [if_pos hb]
        have pl : ∀ k, k ≤ nbt S m → (∀ j, k ≤ j → j < nbt S m → f j < T 24 (7 * m)) → ∃ k, k ≤ nbt S m ∧ (∀ j, k ≤ j → j < nbt S m → f j < T 24 (7 * m)) ∧ (k = 0 ∨ T 24 (7 * m) ≤ f (k - 1)) := by
          intro k
          induction k with
          | zero => intro h1 h2; exact ⟨0, h1, h2, Or.inl rfl⟩
          | succ k ihk =>
            intro h1 h2
            by_cases c : T 24 (7 * m) ≤ f k
            · exact ⟨k + 1, h1, h2, Or.inr c⟩
            · refine ihk (by omega) (fun j j1 j2 => ?_)
              by_cases cj : j = k
              · rw [cj]; omega
              · exact h2 j (by omega) j2
        obtain ⟨k, k1, k2, k3⟩ := pl (nbt S m) (Nat.le_refl _) (fun j j1 j2 => absurd j2 (by omega))
        obtain ⟨w1, w2⟩ := ins_ok f1 k1 (hm m (by omega)) k2 k3
        refine ⟨_, by rw [e1]; exact w1, fun x => ?_⟩
        rw [e1, w2 x, f2 x]
        simp only [cmt]
        by_cases cx : T 24 (7 * m) = x
        · rw [if_pos cx, if_pos ⟨hb, cx⟩]
        · rw [if_neg cx, if_neg (fun z => cx z.2)]
      · have e1 : nbt S (m + 1) = nbt S m := by simp only [nbt]; rw [if_neg hb]; omega
        refine ⟨f, by rw [e1]; exact f1, fun x => ?_⟩
        rw [e1, f2 x]
        simp only [cmt]
        rw [if_neg (fun z => hb z.1)]
        omega
  exact key MI (Nat.le_refl _)
theorem sim_lot (a w : Int) : Sim M_X11_lot M_X12_lot [(1, ev_i a), (2, ev_i w)] := sim_of2 fun σ s N A NO MI hσ hs hM hX hF hu => by
  have hI := hM.1.2.2.2.2.1
  have hmok := hM.1.2.2.2.2.2.2.2.2.1
  have eI : σ 1 13 = (MI : Int) := by rw [hX.1.1.2.2.2.2.2.2]; exact hI.1
  have hk : asks σ s N A MI σ := ⟨frS_rf, hF⟩
  have p10 : 2 ^ MI ≤ 1024 := by have := Nat.pow_le_pow_right (n := 2) (by omega) hI.2; omega
  by_cases cc : (1 ≤ a ∧ a < ((2 ^ MI : Nat) : Int)) ∧ pop 10 a.toNat ≤ 6 ∧ (w = 0 ∨ w = 1)
  · obtain ⟨⟨c1, c2⟩, c3, c4⟩ := cc
    obtain ⟨S, rfl⟩ := Int.eq_ofNat_of_zero_le (show 0 ≤ a by omega)
    rw [Int.toNat_natCast] at c3
    have hS : S < 1024 := by omega
    have hS2 : S < 2 ^ MI := by omega
    have hnp := nbt_pop S hS
    have hn1 := nbt_pos (S := S) (n := MI) (by omega) hS2
    have hn6 := nbt_mono (S := S) (n := MI) (10 - MI)
    rw [show MI + (10 - MI) = 10 by omega] at hn6
    have hm : ∀ i, i < MI → 1 ≤ s 24 (7 * i) ∧ s 24 (7 * i) ≤ 99 := fun i hi => (hmok i hi).1
    have hx : ∀ i, i < MI → σ 9 (7 * i) = s 24 (7 * i) := fun i hi => by have := hX.1.2.2.2.2.2.1 i (by omega) 0 (by omega); simpa using this
    obtain ⟨f, hf1, hf2⟩ : ∃ f : Nat → Int, srt f (nbt S MI) ∧ ∀ x, cn f x (nbt S MI) = cmt s S x MI := srt_ex hm hI.2
    refine ⟨ev_l (if w = 0 then (lotV (lfo f (nbt S MI))).1 else (lotV (lfo f (nbt S MI))).2), ?_, fun s1 es1 hfr hfl e9 => ?_⟩
    · refine wp_X11_lot_0 ?_
      rw [eI, ev_shl1 (by omega)]
      refine ⟨fun q => absurd q (by omega), fun _ => ⟨fun q => absurd q (by omega), fun _ => sp_bitCount hS (ev_pi_mk ⟨fun q => absurd q (by omega), fun _ => ?_⟩)⟩⟩
      have go : Ev layX M_X11_lot 60 49 [(0, ev_r 0), (1, ev_i (S : Int)), (2, ev_i w)] [] σ (fun u σ' => u = some (ev_l (if w = 0 then (lotV (lfo f (nbt S MI))).1 else (lotV (lfo f (nbt S MI))).2)) ∧ asks σ s N A MI σ') := by
        refine wp_X11_lot_49 ⟨fun q => ?_, fun q => ?_⟩
        · refine sp_lotOf (d := 58) (w := 0) eI hI.2 hS hx hf1 ⟨hn1, by omega⟩ hf2 (ev_pl_mk ⟨?_, hk⟩)
          rw [if_pos rfl, if_neg q]
        · refine sp_lotOf (d := 58) (w := 1) eI hI.2 hS hx hf1 ⟨hn1, by omega⟩ hf2 (ev_pl_mk ⟨?_, hk⟩)
          rw [if_neg (by omega), if_pos q]
      exact wp_X11_lot_31 ⟨fun q => absurd q (by omega), fun _ => ⟨fun _ => go, fun _ => ⟨fun _ => go, fun q2 => absurd c4 (by omega)⟩⟩⟩
    · refine wp_X12_lot_0 ?_
      rw [es1]
      rintro _ rfl
      have e46 : s1 0 46 = (MI : Int) := by rw [hfr.1 46 (by omega) (by omega)]; exact hI.1
      have e24 : s1 24 = s 24 := hfr.2.2.2 24 (by omega) (by omega) (by omega) (by omega)
      rw [e46, ev_shl1 (by omega)]
      refine ⟨fun q => absurd q (by omega), fun _ => ⟨fun q => absurd q (by omega), fun _ => sp_ones hS (ev_pi_mk ⟨fun q => absurd q (by omega), fun _ => sp_isIn (ev_pi_mk ?_)⟩)⟩⟩
      rw [if_pos (by omega)]
      refine ⟨fun _ => ?_, fun q => absurd q (by omega)⟩
      refine sp_sortsHarms (d := 58) e46 hI.2 (by rw [e24]; exact hm) hS (by omega) (fun s2 y1 y2 y3 => ev_pi_mk ?_)
      have ecm : ∀ x n, cmt s1 S x n = cmt s S x n := by
        intro x n
        induction n with
        | zero => rfl
        | succ n ih => simp only [cmt]; rw [ih, e24]
      have ef : lfo (s2 35) (nbt S MI) = lfo f (nbt S MI) := lfo_cong (srt_eq y1 hf1 (fun x => by rw [y2, hf2, ecm])) (nbt S MI) (Nat.le_refl _)
      have e0 : lfo (s2 35) 1 = (1, s2 35 0, 1) := by simp [lfo, lst]
      have go := sp_mlot71 (d := 59) (s := s2) (w := w) (Q := fun u s' => u = some (ev_l (if w = 0 then (lotV (lfo f (nbt S MI))).1 else (lotV (lfo f (nbt S MI))).2)) ∧ frQ s s') y1 ⟨hn1, by omega⟩ ⟨by rw [ef], ?_⟩ (nbt S MI - 1) 1 (by omega) (by omega) (by rw [e0])
      · have eV : lotV (lfo (s2 35) 1) = (0, 1) := by
          rw [e0]
          unfold lotV
          simp
        rw [eV, e0] at go
        exact go
      · refine ⟨fun i i0 i1 => by rw [y3 0 (by omega)]; exact hfr.1 i i0 i1, by rw [y3 1 (by omega)]; exact hfr.2.1, by rw [y3 9 (by omega)]; exact hfr.2.2.1, fun c c0 c3 c9 cr => by rw [y3 c (by omega)]; exact hfr.2.2.2 c c0 c3 c9 cr⟩
  · refine ⟨ev_l (-1), ?_, fun s1 es1 hfr hfl e9 => ?_⟩
    · refine wp_X11_lot_0 ?_
      rw [eI, ev_shl1 (by omega)]
      have no : Ev layX M_X11_lot 60 31 [(0, ev_r 0), (1, ev_i a), (2, ev_i w)] [ev_i 0] σ (fun u σ' => u = some (ev_l (-1)) ∧ asks σ s N A MI σ') := wp_X11_lot_31 ⟨fun _ => ⟨rfl, hk⟩, fun q => absurd rfl q⟩
      refine ⟨fun _ => no, fun q1 => ⟨fun _ => no, fun q2 => ?_⟩⟩
      obtain ⟨S, rfl⟩ := Int.eq_ofNat_of_zero_le (show 0 ≤ a by omega)
      rw [Int.toNat_natCast] at cc
      refine sp_bitCount (by omega) (ev_pi_mk ⟨fun _ => no, fun q3 => wp_X11_lot_31 ⟨fun q => absurd q (by omega), fun _ => ⟨fun q4 => absurd (And.intro (And.intro (by omega) q2) (And.intro (by omega) (Or.inl q4))) cc, fun _ => ⟨fun q4 => absurd (And.intro (And.intro (by omega) q2) (And.intro (by omega) (Or.inr q4))) cc, fun _ => ⟨rfl, hk⟩⟩⟩⟩⟩)
    · refine wp_X12_lot_0 ?_
      rw [es1]
      rintro _ rfl
      have e46 : s1 0 46 = (MI : Int) := by rw [hfr.1 46 (by omega) (by omega)]; exact hI.1
      rw [e46, ev_shl1 (by omega)]
      refine ⟨fun _ => ⟨rfl, hfr⟩, fun q1 => ⟨fun _ => ⟨rfl, hfr⟩, fun q2 => ?_⟩⟩
      obtain ⟨S, rfl⟩ := Int.eq_ofNat_of_zero_le (show 0 ≤ a by omega)
      rw [Int.toNat_natCast] at cc
      refine sp_ones (by omega) (ev_pi_mk ⟨fun _ => ⟨rfl, hfr⟩, fun q3 => sp_isIn (ev_pi_mk ?_)⟩)
      rw [if_neg (fun q4 => cc ⟨⟨q1, q2⟩, by omega, by omega⟩)]
      exact ⟨fun q => absurd rfl q, fun _ => ⟨rfl, hfr⟩⟩
end
