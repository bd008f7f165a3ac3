section
/-! lot: both sides -/
theorem sp_sortsHarms {d MI S : Nat} {s : ev_S} {Q : Option ev_V → ev_S → Prop} (hM : s 0 46 = (MI : Int)) (hM10 : MI ≤ 10) (hm : ∀ i, i < MI → 1 ≤ s 24 (7 * i) ∧ s 24 (7 * i) ≤ 99) (hS : S < 1024) (hp : nbt S 10 ≤ 6) (h : ∀ s', srt (s' 35) (nbt S MI) → (∀ x, cn (s' 35) x (nbt S MI) = cmt s S x MI) → (∀ c, c ≠ 35 → s' c = s c) → Q (some (ev_i ((nbt S MI : Nat) : Int))) s') : Ev layM M_X12_sortsHarms (d + 1) 0 [(0, ev_r 0), (1, ev_i (S : Int))] [] s Q := by
  refine wp_X12_sortsHarms_0 ?_
  have nb : ∀ i, i ≤ 10 → nbt S i ≤ 6 := fun i hi => by
    have := nbt_mono (S := S) (n := i) (10 - i)
    rw [show i + (10 - i) = 10 by omega] at this
    omega
  have key : ∀ n i : Nat, i + n = MI → ∀ s1, srt (s1 35) (nbt S i) → (∀ x, cn (s1 35) x (nbt S i) = cmt s S x i) → (∀ c, c ≠ 35 → s1 c = s c) → Ev layM M_X12_sortsHarms (d + 1) 4 [(0, ev_r 0), (1, ev_i (S : Int)), (2, ev_i ((nbt S i : Nat) : Int)), (3, ev_i (i : Int))] [] s1 Q := by
    intro n
    induction n with
    | zero =>
      intro i hi s1 h1 h2 h3
      have : i = MI := by omega
      subst this
      refine wp_X12_sortsHarms_4 ?_
      rw [h3 0 (by omega), hM]
      exact ⟨fun _ => h s1 h1 h2 h3, fun q => absurd q (by omega)⟩
    | succ n ih =>
      intro i hi s1 h1 h2 h3
      refine wp_X12_sortsHarms_4 ?_
      rw [h3 0 (by omega), hM, ev_bit (by omega) (by omega)]
      refine ⟨fun q => absurd q (by omega), fun _ => ⟨fun q => ?_, fun q => ?_⟩⟩
      · have hb : S.testBit i = true := by
          by_cases c : S.testBit i = true
          · exact c
          · rw [if_neg c] at q; exact absurd rfl q
        have hn1 := nb (i + 1) (by omega)
        have e1 : nbt S (i + 1) = nbt S i + 1 := by simp only [nbt]; rw [if_pos hb]
        have hh := hm i (by omega)
        generalize hf : s1 35 = f at h1 h2
        generalize hN : nbt S i = N at *
        have e24 : s1 24 = s 24 := h3 24 (by omega)
        have inner : ∀ k, k ≤ N → (∀ j, k ≤ j → j < N → f j < s 24 (7 * i)) → ∀ s2 : ev_S, (∀ j, s2 35 j = if k < j ∧ j ≤ N then f (j - 1) else f j) → (∀ c, c ≠ 35 → s2 c = s c) → Ev layM M_X12_sortsHarms (d + 1) 26 [(0, ev_r 0), (1, ev_i (S : Int)), (2, ev_i (N : Int)), (3, ev_i (i : Int)), (4, ev_i (k : Int))] [] s2 Q := by
          have put : ∀ k, k ≤ N → (∀ j, k ≤ j → j < N → f j < s 24 (7 * i)) → (k = 0 ∨ s 24 (7 * i) ≤ f (k - 1)) → ∀ s2 : ev_S, (∀ j, s2 35 j = if k < j ∧ j ≤ N then f (j - 1) else f j) → (∀ c, c ≠ 35 → s2 c = s c) → Ev layM M_X12_sortsHarms (d + 1) 74 [(0, ev_r 0), (1, ev_i (S : Int)), (2, ev_i (N : Int)), (3, ev_i (i : Int)), (4, ev_i (k : Int))] [] s2 Q := by
            intro k hk y1 y2 s2 y3 y4
            refine wp_X12_sortsHarms_74 (sp_ofMishap (i := i) (k := 0) (by omega) (by omega) (ev_pi_mk ⟨by omega, ?_⟩))
            rw [Int.toNat_natCast]
            rintro _ rfl
            rw [ev_add_eq (x := (N : Int)) (y := 1) ⟨by omega, by omega⟩, ev_add_eq (x := (i : Int)) (y := 1) ⟨by omega, by omega⟩, y4 24 (by omega), Nat.add_zero]
            have ef : ev_up s2 35 k (s 24 (7 * i)) 35 = insF f (s 24 (7 * i)) k N := by
              rw [ev_up_set, ev_set_same]
              funext j
              unfold rup insF
              rw [y3 j]
            obtain ⟨w1, w2⟩ := ins_ok h1 hk hh y1 y2
            have hg := ih (i + 1) (by omega) (ev_up s2 35 k (s 24 (7 * i)))
            rw [ef, e1] at hg
            refine hg w1 (fun x => ?_) (fun c hc => by rw [ev_upj _ _ hc]; exact y4 c hc)
            rw [w2 x, h2 x]
            simp only [cmt]
            by_cases cx : s 24 (7 * i) = x
            · rw [if_pos cx, if_pos ⟨hb, cx⟩]
            · rw [if_neg cx, if_neg (fun z => cx z.2)]
          intro k
          induction k with
          | zero =>
            intro hk y1 s2 y3 y4
            exact wp_X12_sortsHarms_26 ⟨fun _ => put 0 hk y1 (Or.inl rfl) s2 y3 y4, fun q => absurd q (by omega)⟩
          | succ k ihk =>
            intro hk y1 s2 y3 y4
            refine wp_X12_sortsHarms_26 ⟨fun q => absurd q (by omega), fun _ => ?_⟩
            rw [ev_sub_eq (x := ((k + 1 : Nat) : Int)) (y := 1) ⟨by omega, by omega⟩, show ((k + 1 : Nat) : Int) - 1 = (k : Int) by omega, Int.toNat_natCast, Int.toNat_natCast]
            refine ⟨by omega, sp_ofMishap (i := i) (k := 0) (by omega) (by omega) (ev_pi_mk ?_)⟩
            have ek : s2 35 k = f k := by rw [y3 k, if_neg (by omega)]
            rw [ek, y4 24 (by omega), Nat.add_zero]
            refine ⟨fun q => put (k + 1) hk y1 (Or.inr q) s2 y3 y4, fun q => ⟨by omega, by omega, ?_⟩⟩
            rintro _ rfl
            refine ihk (by omega) (fun j a b => ?_) _ (fun j => ?_) (fun c hc => by rw [ev_upj _ _ hc]; exact y4 c hc)
            · by_cases cj : j = k
              · rw [cj]; exact q
              · exact y1 j (by omega) b
            · by_cases cj : j = k + 1
              · rw [cj, ev_up_same, if_pos (by omega)]; rfl
              · rw [ev_up_ne _ _ (by omega), y3 j]
                by_cases c2 : k + 1 < j ∧ j ≤ N
                · rw [if_pos c2, if_pos (by omega)]
                · rw [if_neg c2, if_neg (by omega)]
        refine inner N (Nat.le_refl _) (fun j a b => absurd b (by omega)) s1 (fun j => ?_) h3
        rw [hf, if_neg (by omega)]
      · have hb : ¬ S.testBit i = true := fun c => by
          rw [if_pos c] at q; exact absurd q (by omega)
        have e1 : nbt S (i + 1) = nbt S i := by simp only [nbt]; rw [if_neg hb]; omega
        rw [ev_add_eq (x := (i : Int)) (y := 1) ⟨by omega, by omega⟩]
        have hg := ih (i + 1) (by omega) s1
        rw [e1] at hg
        refine hg h1 (fun x => ?_) h3
        rw [h2 x]
        simp only [cmt]
        rw [if_neg (fun z => hb z.1)]
        omega
  exact key MI 0 (by omega) s ⟨fun j hj => absurd hj (by simp [nbt]), fun j hj => absurd hj (by simp [nbt])⟩ (fun x => by simp [nbt, cn, cmt]) (fun _ _ => rfl)
/-- what the lot comes to -/
def lotV (z : Int × Int × Nat) : Int × Int := ((((z.2.2 : Int) - 1) * z.2.1) / ((Nat.gcd (((z.2.2 : Int) - 1) * z.2.1).toNat z.1.toNat : Nat) : Int), z.1 / ((Nat.gcd (((z.2.2 : Int) - 1) * z.2.1).toNat z.1.toNat : Nat) : Int))
theorem lot_nums {z : Int × Int × Nat} (hz : lok z) (ht : 1 ≤ z.2.2 ∧ z.2.2 ≤ 6) : (0 ≤ ((z.2.2 : Int) - 1) * z.2.1 ∧ ((z.2.2 : Int) - 1) * z.2.1 ≤ 5000000000000) ∧ (1 ≤ z.1 ∧ z.1 ≤ 1000000000000) ∧ (1 ≤ z.2.1 ∧ z.2.1 ≤ 1000000000000) := by
  obtain ⟨h1, h2, h3⟩ := hz
  have hh := hun_le z.2.2 ht.2
  refine ⟨⟨Int.mul_nonneg (by omega) (by omega), ?_⟩, ⟨h3 ht.1, by omega⟩, ⟨h2.1, by omega⟩⟩
  have := Int.mul_le_mul (a := (z.2.2 : Int) - 1) (c := 5) (b := z.2.1) (d := 1000000000000) (by omega) (by omega) (by omega) (by omega)
  omega
theorem lot_gcd {x y : Int} (hx : 0 ≤ x) (hy : 1 ≤ y) : 1 ≤ ((Nat.gcd x.toNat y.toNat : Nat) : Int) ∧ x / ((Nat.gcd x.toNat y.toNat : Nat) : Int) * ((Nat.gcd x.toNat y.toNat : Nat) : Int) = x ∧ y / ((Nat.gcd x.toNat y.toNat : Nat) : Int) * ((Nat.gcd x.toNat y.toNat : Nat) : Int) = y ∧ ((Nat.gcd x.toNat y.toNat : Nat) : Int) ≤ y := by
  have g1 : 0 < Nat.gcd x.toNat y.toNat := Nat.gcd_pos_of_pos_right _ (by omega)
  have d1 : ((Nat.gcd x.toNat y.toNat : Nat) : Int) ∣ x := by
    have := Int.natCast_dvd_natCast.mpr (Nat.gcd_dvd_left x.toNat y.toNat)
    rw [Int.toNat_of_nonneg hx] at this; exact this
  have d2 : ((Nat.gcd x.toNat y.toNat : Nat) : Int) ∣ y := by
    have := Int.natCast_dvd_natCast.mpr (Nat.gcd_dvd_right x.toNat y.toNat)
    rw [Int.toNat_of_nonneg (by omega)] at this; exact this
  have d3 : Nat.gcd x.toNat y.toNat ≤ y.toNat := Nat.le_of_dvd (by omega) (Nat.gcd_dvd_right _ _)
  exact ⟨by omega, Int.ediv_mul_cancel d1, Int.ediv_mul_cancel d2, by omega⟩
theorem lot_cmp {z : Int × Int × Nat} {h : Int} (hz : lok z) (ht : 1 ≤ z.2.2 ∧ z.2.2 ≤ 6) : (lotV z).1 < h * (lotV z).2 ↔ ((z.2.2 : Int) - 1) * z.2.1 < h * z.1 := by
  obtain ⟨n1, n2, n3⟩ := lot_nums hz ht
  obtain ⟨g1, g2, g3, g4⟩ := lot_gcd n1.1 n2.1
  unfold lotV
  generalize ((Nat.gcd (((z.2.2 : Int) - 1) * z.2.1).toNat z.1.toNat : Nat) : Int) = g at *
  generalize ((z.2.2 : Int) - 1) * z.2.1 = x at *
  simp only
  have e : h * z.1 = h * (z.1 / g) * g := by rw [Int.mul_assoc, g3]
  rw [e]
  constructor
  · intro q
    have := Int.mul_lt_mul_of_pos_right q (show 0 < g by omega)
    rw [g2] at this; exact this
  · intro q
    rw [← g2] at q
    exact Int.lt_of_mul_lt_mul_right q (by omega)
theorem lotV_rng {z : Int × Int × Nat} (hz : lok z) (ht : 1 ≤ z.2.2 ∧ z.2.2 ≤ 6) : (0 ≤ (lotV z).1 ∧ (lotV z).1 ≤ 5000000000000) ∧ (0 ≤ (lotV z).2 ∧ (lotV z).2 ≤ 1000000000000) := by
  obtain ⟨n1, n2, n3⟩ := lot_nums hz ht
  obtain ⟨g1, g2, g3, g4⟩ := lot_gcd n1.1 n2.1
  unfold lotV
  generalize ((Nat.gcd (((z.2.2 : Int) - 1) * z.2.1).toNat z.1.toNat : Nat) : Int) = g at *
  generalize ((z.2.2 : Int) - 1) * z.2.1 = x at *
  simp only
  have a1 := Int.ediv_nonneg (a := x) (b := g) n1.1 (by omega)
  have a2 := Int.ediv_nonneg (a := z.1) (b := g) (by omega) (by omega)
  have a3 := Int.ediv_le_self (a := x) g n1.1
  have a4 := Int.ediv_le_self (a := z.1) g (by omega)
  exact ⟨⟨a1, by omega⟩, ⟨a2, by omega⟩⟩
/-- the model, behind the sorting -/
theorem sp_mlot71 {d n : Nat} {s : ev_S} {w : Int} {Q : Option ev_V → ev_S → Prop} (hs : srt (s 35) n) (hn : 1 ≤ n ∧ n ≤ 6) (h : Q (some (ev_l (if w = 0 then (lotV (lfo (s 35) n)).1 else (lotV (lfo (s 35) n)).2))) s) : ∀ m t : Nat, t + m = n → 1 ≤ t → (lfo (s 35) t).2.2 = t → Ev layM M_X12_lot (d + 1) 71 [(0, ev_r 0), (2, ev_i w), (3, ev_i (n : Int)), (4, ev_l (lfo (s 35) t).2.1), (6, ev_l (lfo (s 35) t).1), (8, ev_l (lotV (lfo (s 35) t)).1), (10, ev_l (lotV (lfo (s 35) t)).2), (12, ev_i ((t : Int) + 1))] [] s Q := by
  intro m
  induction m with
  | zero =>
    intro t ht h1 h2
    have : t = n := by omega
    subst this
    refine wp_X12_lot_71 ⟨fun _ => ⟨fun q => ?_, fun q => ?_⟩, fun q => absurd q (by omega)⟩
    · rw [if_neg q] at h; exact h
    · rw [if_pos q] at h; exact h
  | succ m ih =>
    intro t ht h1 h2
    have ok := (lfo_ok (f := s 35) t (fun j hj => hs.2 j (by omega))).1
    have r1 := lotV_rng ok ⟨by omega, by omega⟩
    have hh := hs.2 t (by omega)
    obtain ⟨n1, n2, n3⟩ := lot_nums ok ⟨by omega, by omega⟩
    refine wp_X12_lot_71 ⟨fun q => absurd q (by omega), fun _ => ?_⟩
    rw [ev_sub_eq (x := (t : Int) + 1) (y := 1) ⟨by omega, by omega⟩, show (t : Int) + 1 - 1 = (t : Int) by omega, Int.toNat_natCast]
    have b1 := mul_b (a := (lotV (lfo (s 35) t)).2) (h := s 35 t) (X := 1000000000000) r1.2 hh
    have b2 := mul_b (a := (lfo (s 35) t).2.1) (h := s 35 t) (X := 1000000000000) ⟨by omega, n3.2⟩ hh
    have b3 := mul_b (a := (lfo (s 35) t).1) (h := s 35 t) (X := 1000000000000) ⟨by omega, n2.2⟩ hh
    rw [ev_lmul_eq (x := s 35 t) (y := (lotV (lfo (s 35) t)).2) (by rw [Int.mul_comm]; exact ⟨by omega, by omega⟩), ev_lcmp_eq (by rw [Int.mul_comm]; exact ⟨by omega, by omega⟩) ⟨by omega, by omega⟩]
    refine ⟨by omega, ?_⟩
    by_cases c : (lotV (lfo (s 35) t)).1 < s 35 t * (lotV (lfo (s 35) t)).2
    · rw [if_pos c]
      refine ⟨fun _ => ?_, fun q => absurd q (by omega)⟩
      have c2 := (lot_cmp ok ⟨by omega, by omega⟩).mp c
      have e1 : lfo (s 35) (t + 1) = ((lfo (s 35) t).1 * s 35 t + (lfo (s 35) t).2.1, (lfo (s 35) t).2.1 * s 35 t, (lfo (s 35) t).2.2 + 1) := by
        simp only [lfo]
        unfold lst
        rw [if_pos (Or.inr c2)]
      have ok1 := (lfo_ok (f := s 35) (t + 1) (fun j hj => hs.2 j (by omega))).1
      have t1 : (lfo (s 35) (t + 1)).2.2 = t + 1 := by rw [e1]; simp only; omega
      obtain ⟨m1, m2, m3⟩ := lot_nums ok1 ⟨by omega, by omega⟩
      obtain ⟨g1, g2, g3, g4⟩ := lot_gcd m1.1 m2.1
      have i2 := ih (t + 1) (by omega) (by omega) t1
      have eT : (t : Int) * ((lfo (s 35) t).2.1 * s 35 t) = (((lfo (s 35) (t + 1)).2.2 : Nat) - 1 : Int) * (lfo (s 35) (t + 1)).2.1 := by
        rw [t1, e1]
        simp only
        rw [show (((t + 1 : Nat) : Int) - 1) = (t : Int) by omega]
      rw [ev_lmul_eq (x := (lfo (s 35) t).2.1) (y := s 35 t) ⟨by omega, by omega⟩, ev_lmul_eq (x := (lfo (s 35) t).1) (y := s 35 t) ⟨by omega, by omega⟩, ev_ladd_eq (x := (lfo (s 35) t).1 * s 35 t) (y := (lfo (s 35) t).2.1) ⟨by omega, by omega⟩, ev_lmul_eq (x := (t : Int)) (by rw [eT]; exact ⟨by omega, by omega⟩), eT]
      have eA : (lfo (s 35) t).1 * s 35 t + (lfo (s 35) t).2.1 = (lfo (s 35) (t + 1)).1 := by rw [e1]
      have eB : (lfo (s 35) t).2.1 * s 35 t = (lfo (s 35) (t + 1)).2.1 := by rw [e1]
      rw [eA, eB]
      rw [← Int.toNat_of_nonneg m1.1, ← Int.toNat_of_nonneg (show 0 ≤ (lfo (s 35) (t + 1)).1 by omega)]
      refine wp_X12_partOf_0 (sp_partOf _ _ _ (Nat.le_refl _) (by omega) (by omega) (ev_pl_mk ?_))
      rw [Int.toNat_of_nonneg m1.1, Int.toNat_of_nonneg (show 0 ≤ (lfo (s 35) (t + 1)).1 by omega)]
      refine ⟨by omega, by omega, ?_⟩
      rw [ev_ldiv_eq ⟨m1.1, by omega⟩ ⟨by omega, by omega⟩, ev_ldiv_eq ⟨by omega, by omega⟩ ⟨by omega, by omega⟩, ev_add_eq (x := (t : Int) + 1) (y := 1) ⟨by omega, by omega⟩]
      exact i2
    · have c2 : ¬ ((((lfo (s 35) t).2.2 : Int) - 1) * (lfo (s 35) t).2.1 < s 35 t * (lfo (s 35) t).1) := fun q => c ((lot_cmp ok ⟨by omega, by omega⟩).mpr q)
      rw [if_neg c]
      have e2 : (if s 35 t * (lotV (lfo (s 35) t)).2 = (lotV (lfo (s 35) t)).1 then (0 : Int) else -1) ≤ 0 := by split <;> omega
      have es := lfo_stop hs (by omega) (by omega) c2 (n - t) (by omega)
      rw [show t + (n - t) = n by omega] at es
      rw [es] at h
      refine ⟨fun q => absurd q (by omega), fun _ => ⟨fun q => ?_, fun q => ?_⟩⟩
      · rw [if_neg q] at h; exact h
      · rw [if_pos q] at h; exact h
end
