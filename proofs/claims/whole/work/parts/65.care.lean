/-! LEAST, the class: which sets one angel can see to -/
def w_cl (v : Int) : Int := if v = 1000000 then -1 else v + 1
def w_al (T : ev_S) (N MI : Nat) (r : Nat → Int) (a : Nat) : Nat → Nat
  | 0 => 0
  | n + 1 => if w_a0 T r a (w_pp T N r MI n) ≤ m_sees T N r (w_pp T N r MI n) then w_al T N MI r a n ||| 2 ^ n else w_al T N MI r a n
theorem tb_al {T : ev_S} {N MI : Nat} {r : Nat → Int} {a n : Nat} : ∀ {c : Nat}, (w_al T N MI r a c).testBit n = true ↔ (n < c ∧ w_a0 T r a (w_pp T N r MI n) ≤ m_sees T N r (w_pp T N r MI n))
  | 0 => by simp [w_al]
  | c + 1 => by
    simp only [w_al]
    split
    · rename_i q
      rw [Nat.testBit_or, Bool.or_eq_true, tb_al, tb_pow]
      constructor
      · rintro (z | z)
        · exact ⟨by omega, z.2⟩
        · have := of_decide_eq_true z; subst this; exact ⟨by omega, q⟩
      · rintro ⟨z1, z2⟩
        by_cases e : c = n
        · right; exact decide_eq_true e
        · left; exact ⟨by omega, z2⟩
    · rename_i q
      rw [tb_al]
      constructor
      · rintro ⟨z1, z2⟩; exact ⟨by omega, z2⟩
      · rintro ⟨z1, z2⟩
        by_cases e : c = n
        · subst e; exact absurd z2 q
        · exact ⟨by omega, z2⟩
theorem w_al_lt {T : ev_S} {N MI : Nat} {r : Nat → Int} {a c : Nat} : w_al T N MI r a c < 2 ^ c := tb_lt (fun i hi => by
  cases q : (w_al T N MI r a c).testBit i
  · rfl
  · have := (tb_al.mp q).1; omega)
/-- a set by its numbers without gaps -/
def w_x (T : ev_S) (N MI : Nat) (r : Nat → Int) (S : Nat) : Nat := xs (w_pp T N r MI) (w_pc T N r MI) S
theorem w_min_ge {a0 : Nat → Int} {fa : Nat → Nat → Int} {lo hi : Nat → Int} (h : w_tri a0 fa) {S i : Nat} {v : Int} (hm : w_min a0 fa lo hi S i v) : v = 1000000 ∨ a0 i ≤ v := by
  rcases hm with ⟨h1, -⟩ | ⟨-, ⟨l, -, l2, l3⟩, -⟩
  · exact Or.inl h1
  · right
    have := w_dep_ge (lo := lo) h l i
    rw [← l3]
    show a0 i ≤ max (w_dep a0 fa (w_tm a0 fa lo l) l i) (lo i)
    omega
/-- what the class has picked, and where he is -/
def XP (s T : ev_S) (N MI : Nat) (r : Nat → Int) : Prop := s 162 3 = (w_pc T N r MI : Int) ∧ ∀ n, n < w_pc T N r MI → s 163 n = (w_pp T N r MI n : Int) ∧ s 164 n = m_sees T N r (w_pp T N r MI n)
/-- the steps from one to another -/
def XD (s T : ev_S) (N MI : Nat) (r : Nat → Int) : Prop := ∀ m n, m < w_pc T N r MI → n < w_pc T N r MI → s 165 (10 * m + n) = m_far (T 24 (7 * w_pp T N r MI m + 1)) (T 24 (7 * w_pp T N r MI n + 1))
theorem XD_keep {s s' T : ev_S} {N MI : Nat} {r : Nat → Int} (h : XD s T N MI r) (hf : s' 165 = s 165) : XD s' T N MI r := by
  unfold XD; rw [hf]; exact h
def XN (s T : ev_S) (A : Nat) (r : Nat → Int) : Prop := s 1 7 = (A : Int) ∧ s 1 2 = T 0 8 + 3 ∧ (∀ a, a < A → s 5 a = T 5 a ∧ s 19 a = r (27 + a)) ∧ s 15 0 = r 0 ∧ ∀ i : Nat, (i : Int) < T 0 46 → s 9 (7 * i + 1) = T 24 (7 * i + 1)
theorem XN_of {s T : ev_S} {N A NO MI : Nat} {r : Nat → Int} (hT : m_tok T N A NO MI) (hX : XT s 1 T) (hC : XC s 15 r) : XN s T A r := by
  obtain ⟨-, -, ⟨hA, hA6⟩, -⟩ := hT
  exact ⟨by rw [hX.1.2.2.2.2.1]; exact hA, hX.1.2.2.1, fun a ha => ⟨(hX.2.2.2.1 a (by omega)).1, (hC.2.2.1 a (by omega)).1⟩, hC.1.1, fun i hi => hX.2.2.2.2.2.1 i hi 1 (by omega)⟩
theorem XN_keep {s s' T : ev_S} {A : Nat} {r : Nat → Int} (h : XN s T A r) (hf : ∀ c, c < 162 → s' c = s c) : XN s' T A r := by
  unfold XN
  rw [hf 1 (by omega), hf 5 (by omega), hf 19 (by omega), hf 15 (by omega), hf 9 (by omega)]
  exact h
theorem XP_keep {s s' T : ev_S} {N MI : Nat} {r : Nat → Int} (h : XP s T N MI r) (hf : ∀ c, c ≤ 164 → s' c = s c) : XP s' T N MI r := by
  unfold XP
  rw [hf 162 (by omega), hf 163 (by omega), hf 164 (by omega)]
  exact h
theorem sp_placeOf {d n N A NO MI : Nat} {s T : ev_S} {r : Nat → Int} {Q : Option ev_V → ev_S → Prop} (hT : m_tok T N A NO MI) (hN : XN s T A r) (hP : XP s T N MI r) (hn : n < w_pc T N r MI)
    (h : Q (some (ev_i (T 24 (7 * w_pp T N r MI n + 1)))) s) : Ev layX M_X1_placeOf d 0 [(0, ev_r 162), (1, ev_i (n : Int))] [] s Q := by
  obtain ⟨hdim, -, ⟨hA, hA6⟩, -, ⟨hM, hM10⟩, hg, -, hpok, hmok, -⟩ := hT
  have hcl := w_pc_le (T := T) (N := N) (r := r) MI
  have hpp := ((w_pp_ok (T := T) (N := N) (r := r) MI).1 n hn).1
  have m7 : ev_add (ev_mul ((w_pp T N r MI n : Nat) : Int) 7) 1 = ((7 * w_pp T N r MI n + 1 : Nat) : Int) := by rw [ev_mul_eq ⟨by omega, by omega⟩, ev_add_eq ⟨by omega, by omega⟩]; omega
  refine wp_X1_placeOf_0 ?_
  rw [Int.toNat_natCast, (hP.2 n hn).1, m7, Int.toNat_natCast, hN.2.2.2.2 _ (by omega)]
  exact ⟨by omega, by omega, h⟩
theorem sp_freeBehind {d a n N A NO MI : Nat} {s T : ev_S} {r : Nat → Int} {z x : Int} {Q : Option ev_V → ev_S → Prop} (hT : m_tok T N A NO MI) (h0 : 0 ≤ r 0 ∧ r 0 ≤ 600) (hN : XN s T A r) (hP : XP s T N MI r) (ha : a < A) (hn : n < w_pc T N r MI) (hz : 0 ≤ z ∧ z ≤ 14) (hx : 0 ≤ x ∧ x ≤ 2000)
    (h : Q (some (ev_i (w_cl (w_for (w_lo T N r) (w_hi T N r) (w_pp T N r MI n) (x + z * T 5 a))))) s) : Ev layX M_X1_freeBehind (d + 2) 0 [(0, ev_r 162), (1, ev_i (a : Int)), (2, ev_i (n : Int)), (3, ev_i x), (4, ev_i z)] [] s Q := by
  obtain ⟨hdim, -, ⟨hA, hA6⟩, -, ⟨hM, hM10⟩, hg, -, hpok, hmok, -⟩ := hT
  obtain ⟨⟨hp1, hp9⟩, -⟩ := hpok a ha
  have hcl := w_pc_le (T := T) (N := N) (r := r) MI
  have hmu : 0 ≤ z * T 5 a ∧ z * T 5 a ≤ 14 * 9 := ⟨Int.mul_nonneg hz.1 (by omega), Int.mul_le_mul hz.2 hp9 (by omega) (by omega)⟩
  have hsr := m_sees_rng (T := T) (N := N) (i := w_pp T N r MI n) h0
  refine wp_X1_freeBehind_0 ⟨by omega, by omega, by omega, ?_⟩
  rw [Int.toNat_natCast, Int.toNat_natCast, (hP.2 n hn).2, (hN.2.2.1 a ha).1, hN.2.1, ev_mul_eq ⟨by omega, by omega⟩, ev_add_eq ⟨by omega, by omega⟩, ev_sub_eq ⟨by omega, by omega⟩]
  generalize hy : x + z * T 5 a = y at *
  refine ⟨fun c => ?_, fun c => ?_⟩
  · have e : w_for (w_lo T N r) (w_hi T N r) (w_pp T N r MI n) y = 1000000 := by unfold w_for w_lo w_hi; rw [if_neg (by omega)]
    rw [e, show w_cl 1000000 = -1 from rfl] at h; exact h
  · have e : w_for (w_lo T N r) (w_hi T N r) (w_pp T N r MI n) y = max y (m_sees T N r (w_pp T N r MI n) - (T 0 8 + 3)) := by unfold w_for w_lo w_hi; rw [if_pos c]
    have e2 : w_cl (max y (m_sees T N r (w_pp T N r MI n) - (T 0 8 + 3))) = max y (m_sees T N r (w_pp T N r MI n) - (T 0 8 + 3)) + 1 := by unfold w_cl; rw [if_neg (by omega)]
    rw [e, e2] at h
    rw [ev_add_eq ⟨by omega, by omega⟩]
    exact h
theorem sp_freeFirst {d a n N A NO MI : Nat} {s T : ev_S} {r : Nat → Int} {Q : Option ev_V → ev_S → Prop} (hT : m_tok T N A NO MI) (h0 : 0 ≤ r 0 ∧ r 0 ≤ 600) (hpa : ∀ a, a < A → m_pl T (r (27 + a))) (hN : XN s T A r) (hP : XP s T N MI r) (ha : a < A) (hn : n < w_pc T N r MI)
    (h : Q (some (ev_i (w_cl (w_for (w_lo T N r) (w_hi T N r) (w_pp T N r MI n) (w_a0 T r a (w_pp T N r MI n)))))) s) : Ev layX M_X1_freeFirst (d + 3) 0 [(0, ev_r 162), (1, ev_i (a : Int)), (2, ev_i (n : Int))] [] s Q := by
  have hT0 := hT
  obtain ⟨hdim, -, ⟨hA, hA6⟩, -, ⟨hM, hM10⟩, hg, -, hpok, hmok, -⟩ := hT
  have hpl := pl_64 hdim (hmok _ ((w_pp_ok (T := T) (N := N) (r := r) MI).1 n hn).1).2.1
  have hp0 := pl_64 hdim (hpa a ha)
  refine wp_X1_freeFirst_0 ?_
  rw [Int.toNat_natCast, (hN.2.2.1 a ha).2, hN.2.2.2.1]
  exact ⟨by omega, sp_placeOf hT0 hN hP hn (ev_pi_mk (sp_stepsBetween hp0 hpl (ev_pi_mk (sp_freeBehind hT0 h0 hN hP ha hn (m_far_rng hp0 hpl) (by omega) (ev_pi_mk h)))))⟩
/-- the row of free of one set -/
def XFr (s T : ev_S) (N MI : Nat) (r : Nat → Int) (a S : Nat) : Prop := ∀ n, S.testBit n = true → ∃ v, w_mn T N r a (w_x T N MI r S) (w_pp T N r MI n) v ∧ s 173 (10 * S + n) = w_cl v
theorem sp_freeLast {d a n S N A NO MI : Nat} {s T : ev_S} {r : Nat → Int} {Q : Option ev_V → ev_S → Prop} (hT : m_tok T N A NO MI) (h0 : 0 ≤ r 0 ∧ r 0 ≤ 600) (hN : XN s T A r) (hP : XP s T N MI r) (hD : XD s T N MI r) (ha : a < A) (hS : S < 2 ^ w_pc T N r MI) (hn : S.testBit n = true) (hd0 : dif S (2 ^ n) ≠ 0) (hF : XFr s T N MI r a (dif S (2 ^ n)))
    (h : ∀ v, w_mn T N r a (w_x T N MI r S) (w_pp T N r MI n) v → Q (some (ev_i (w_cl v))) s) : Ev layX M_X1_freeLast (d + 3) 0 [(0, ev_r 162), (1, ev_i (a : Int)), (2, ev_i (n : Int)), (3, ev_i ((dif S (2 ^ n) : Nat) : Int))] [] s Q := by
  have hT0 := hT
  obtain ⟨hdim, -, ⟨hA, hA6⟩, -, ⟨hM, hM10⟩, hg, -, hpok, hmok, -⟩ := hT
  obtain ⟨⟨hp1, hp9⟩, -⟩ := hpok a ha
  have hcl := w_pc_le (T := T) (N := N) (r := r) MI
  obtain ⟨ok1, ok2, ok3⟩ := w_pp_ok (T := T) (N := N) (r := r) MI
  have hc10 := pow_10 (n := w_pc T N r MI) (by omega)
  have hnc : n < w_pc T N r MI := tb_lim hS hn
  have hdl := dif_le S (2 ^ n)
  have hh : ∀ j, w_hi T N r j < 1000000 := fun j => by have := (m_sees_rng (T := T) (N := N) (i := j) h0).2; unfold w_hi; omega
  have ex : w_x T N MI r (dif S (2 ^ n)) = dif (w_x T N MI r S) (2 ^ w_pp T N r MI n) := by unfold w_x; rw [xs_dif ok2, xs_one hnc]
  have hSi : (w_x T N MI r S).testBit (w_pp T N r MI n) = true := by unfold w_x; rw [xs_at ok2 hnc]; exact hn
  have ex0 : dif (w_x T N MI r S) (2 ^ w_pp T N r MI n) ≠ 0 := by
    rw [← ex]
    intro q
    have : w_x T N MI r (dif S (2 ^ n)) = w_x T N MI r 0 := by rw [q]; exact xs_0.symm
    exact hd0 (xs_inj ok2 (by omega) (by omega) this)
  have htri : w_tri (w_a0 T r a) (w_fa T a) := w_tri_ok (by omega)
  refine wp_X1_freeLast_0 ?_
  have key : ∀ (k m : Nat) (best : Int), m + k = w_pc T N r MI → (best = 1000000 ∨ ∃ j v, (dif (w_x T N MI r S) (2 ^ w_pp T N r MI n)).testBit j = true ∧ w_mn T N r a (dif (w_x T N MI r S) (2 ^ w_pp T N r MI n)) j v ∧ v ≠ 1000000 ∧ best = w_for (w_lo T N r) (w_hi T N r) (w_pp T N r MI n) (v + 1 + w_fa T a j (w_pp T N r MI n))) → (∀ q v, q < m → (dif S (2 ^ n)).testBit q = true → w_mn T N r a (dif (w_x T N MI r S) (2 ^ w_pp T N r MI n)) (w_pp T N r MI q) v → v ≠ 1000000 → best ≤ w_for (w_lo T N r) (w_hi T N r) (w_pp T N r MI n) (v + 1 + w_fa T a (w_pp T N r MI q) (w_pp T N r MI n))) → 0 ≤ best → best ≤ 1000000 → Ev layX M_X1_freeLast (d + 3) 6 [(0, ev_r 162), (1, ev_i (a : Int)), (2, ev_i (n : Int)), (3, ev_i ((dif S (2 ^ n) : Nat) : Int)), (4, ev_i (w_cl best)), (5, ev_i (m : Int))] [] s Q := by
    intro k
    induction k with
    | zero =>
      intro m best hm hb1 hb2 hb3 hb4
      refine wp_X1_freeLast_6 ⟨fun _ => h best ?_, fun q => absurd q (by rw [hP.1]; omega)⟩
      refine w_min_step (hh _) hSi ex0 hb1 (fun j v hj hv hv0 => ?_) (fun j hj => ?_)
      · rw [← ex] at hj
        obtain ⟨q, q1, q2, q3⟩ := tb_xs.mp hj
        subst q3
        exact hb2 q v (by omega) q2 hv hv0
      · rw [← ex] at hj ⊢
        obtain ⟨q, q1, q2, q3⟩ := tb_xs.mp hj
        subst q3
        obtain ⟨v, hv, -⟩ := hF q q2
        exact ⟨v, hv⟩
    | succ k ih =>
      intro m best hm hb1 hb2 hb3 hb4
      have em : ev_add (ev_mul ((dif S (2 ^ n) : Nat) : Int) 10) (m : Int) = ((10 * dif S (2 ^ n) + m : Nat) : Int) := by
        rw [ev_mul_eq ⟨by omega, by omega⟩, ev_add_eq ⟨by omega, by omega⟩]; omega
      refine wp_X1_freeLast_6 ⟨fun q => absurd q (by rw [hP.1]; omega), fun _ => ?_⟩
      have e10 : ev_add (ev_mul (m : Int) 10) (n : Int) = ((10 * m + n : Nat) : Int) := by
        rw [ev_mul_eq ⟨by omega, by omega⟩, ev_add_eq ⟨by omega, by omega⟩]; omega
      rw [em, e10, Int.toNat_natCast, Int.toNat_natCast, ev_bit (by omega) (by omega), ev_add_eq (x := (m : Int)) (y := 1) ⟨by omega, by omega⟩]
      have skip : (∀ v, (dif S (2 ^ n)).testBit m = true → w_mn T N r a (dif (w_x T N MI r S) (2 ^ w_pp T N r MI n)) (w_pp T N r MI m) v → v ≠ 1000000 → best ≤ w_for (w_lo T N r) (w_hi T N r) (w_pp T N r MI n) (v + 1 + w_fa T a (w_pp T N r MI m) (w_pp T N r MI n))) → Ev layX M_X1_freeLast (d + 3) 6 [(0, ev_r 162), (1, ev_i (a : Int)), (2, ev_i (n : Int)), (3, ev_i ((dif S (2 ^ n) : Nat) : Int)), (4, ev_i (w_cl best)), (5, ev_i ((m : Int) + 1))] [] s Q := by
        intro hs
        refine ih (m + 1) best (by omega) hb1 (fun q v hq => ?_) hb3 hb4
        by_cases e : q = m
        · subst e; exact hs v
        · exact hb2 q v (by omega)
      refine ⟨by omega, fun q => ?_, fun q => ?_⟩
      · refine skip (fun v hb => absurd hb (fun z => ?_))
        rw [if_pos z] at q; exact absurd q (by omega)
      · have hb : (dif S (2 ^ n)).testBit m = true := by
          cases z : (dif S (2 ^ n)).testBit m
          · rw [z] at q; exact absurd rfl q
          · rfl
        obtain ⟨v, hv, e171⟩ := hF m hb
        rw [ex] at hv
        have hge := w_min_ge htri hv
        have hrg := w_min_rng hv
        rw [e171]
        have mc : m < w_pc T N r MI := by omega
        have hppm := ok1 m mc
        have hplm := pl_64 hdim (hmok _ hppm.1).2.1
        have hpln := pl_64 hdim (hmok _ (ok1 n hnc).1).2.1
        have ha0 : 0 ≤ w_a0 T r a (w_pp T N r MI m) := by
          unfold w_a0
          have := Int.mul_nonneg (m_far_0 (r (27 + a)) (T 24 (7 * w_pp T N r MI m + 1))) (show 0 ≤ T 5 a by omega)
          omega
        have hsr := m_sees_rng (T := T) (N := N) (i := w_pp T N r MI m) h0
        unfold w_hi at hrg
        refine ⟨fun c => skip (fun v' _ hv' h' => ?_), fun c => ?_⟩
        · exfalso
          have e := w_min_uniq hv' hv
          unfold w_cl at c
          rw [if_neg (by omega)] at c
          omega
        · have hv0 : v ≠ 1000000 := fun e => c (by unfold w_cl; rw [if_pos e])
          have ecl : w_cl v = v + 1 := by unfold w_cl; rw [if_neg hv0]
          rw [hD m n mc hnc, ecl]
          refine ⟨by omega, sp_freeBehind hT0 h0 hN hP ha hnc (m_far_rng hplm hpln) (by omega) (ev_pi_mk ?_)⟩
          have hfa0 := htri.2.2 (w_pp T N r MI m) (w_pp T N r MI n)
          rw [show v + 1 + m_far (T 24 (7 * w_pp T N r MI m + 1)) (T 24 (7 * w_pp T N r MI n + 1)) * T 5 a = v + 1 + w_fa T a (w_pp T N r MI m) (w_pp T N r MI n) from rfl]
          generalize ht : w_for (w_lo T N r) (w_hi T N r) (w_pp T N r MI n) (v + 1 + w_fa T a (w_pp T N r MI m) (w_pp T N r MI n)) = t at *
          have ht0 : 0 ≤ t ∧ t ≤ 1000000 := by
            rw [← ht]; unfold w_for
            have := hh (w_pp T N r MI n)
            split <;> omega
          have hjt : (dif (w_x T N MI r S) (2 ^ w_pp T N r MI n)).testBit (w_pp T N r MI m) = true := by
            rw [← ex]; unfold w_x; rw [xs_at ok2 mc]; exact hb
          have nw : t ≤ best → Ev layX M_X1_freeLast (d + 3) 6 [(0, ev_r 162), (1, ev_i (a : Int)), (2, ev_i (n : Int)), (3, ev_i ((dif S (2 ^ n) : Nat) : Int)), (4, ev_i (w_cl t)), (5, ev_i ((m : Int) + 1))] [] s Q := by
            intro hle
            refine ih (m + 1) t (by omega) (Or.inr ⟨_, v, hjt, hv, hv0, ht.symm⟩) (fun q v' hq hqb hv' h' => ?_) ht0.1 ht0.2
            by_cases e : q = m
            · subst e; rw [w_min_uniq hv' hv, ht]; exact Int.le_refl _
            · have := hb2 q v' (by omega) hqb hv' h'; omega
          have kp : best ≤ t → Ev layX M_X1_freeLast (d + 3) 6 [(0, ev_r 162), (1, ev_i (a : Int)), (2, ev_i (n : Int)), (3, ev_i ((dif S (2 ^ n) : Nat) : Int)), (4, ev_i (w_cl best)), (5, ev_i ((m : Int) + 1))] [] s Q := by
            intro hle
            exact skip (fun v' _ hv' h' => by rw [w_min_uniq hv' hv, ht]; exact hle)
          have cb : (w_cl best = -1 ↔ best = 1000000) ∧ (best ≠ 1000000 → w_cl best = best + 1) := by unfold w_cl; split <;> omega
          have ct : (w_cl t = -1 ↔ t = 1000000) ∧ (t ≠ 1000000 → w_cl t = t + 1) := by unfold w_cl; split <;> omega
          refine ⟨fun c1 => nw (by omega), fun c1 => ⟨fun c2 => kp (by omega), fun c2 => ⟨fun c3 => kp (by omega), fun c3 => nw (by omega)⟩⟩⟩
  have := key (w_pc T N r MI) 0 1000000 (by omega) (Or.inl rfl) (fun q v hq => absurd hq (by omega)) (by omega) (by omega)
  exact this
/-- row a of able, for sets below k -/
def XAr (s T : ev_S) (N MI : Nat) (r : Nat → Int) (a k : Nat) : Prop := ∀ S, S < k → (xb (s 168) a S = true ↔ (ss S (w_al T N MI r a (w_pc T N r MI)) ∧ w_cn T N r a (w_x T N MI r S)))
theorem ev_orb {b : Int} (hb : b = 0 ∨ b = 1) : ev_or b 0 = b ∧ ev_or b 1 = 1 := by
  rcases hb with q | q <;> subst q <;> exact ⟨by decide, by decide⟩
theorem sp_seesTo {d a S N A NO MI : Nat} {s T : ev_S} {r : Nat → Int} {Q : Option ev_V → ev_S → Prop} (hT : m_tok T N A NO MI) (h0 : 0 ≤ r 0 ∧ r 0 ≤ 600) (hpa : ∀ a, a < A → m_pl T (r (27 + a))) (hN : XN s T A r) (hP : XP s T N MI r) (hD : XD s T N MI r) (ha : a < A) (hS : S < 2 ^ w_pc T N r MI) (hS0 : S ≠ 0) (hal : ss S (w_al T N MI r a (w_pc T N r MI)))
    (hA' : XAr s T N MI r a S) (hF : ∀ S', S' < S → ss S' (w_al T N MI r a (w_pc T N r MI)) → XFr s T N MI r a S')
    (h : ∀ s' (b : Int), (b = 0 ∨ b = 1) → (b = 1 ↔ w_cn T N r a (w_x T N MI r S)) → XFr s' T N MI r a S → (∀ i, (i < 10 * S ∨ 10 * S + 10 ≤ i) → s' 173 i = s 173 i) → (∀ c, c ≠ 173 → s' c = s c) → Q (some (ev_i b)) s') : Ev layX M_X1_seesTo (d + 4) 0 [(0, ev_r 162), (1, ev_i (a : Int)), (2, ev_i (S : Int))] [] s Q := by
  have hT0 := hT
  obtain ⟨hdim, -, ⟨hA, hA6⟩, -, ⟨hM, hM10⟩, hg, -, hpok, hmok, -⟩ := hT
  obtain ⟨⟨hp1, hp9⟩, -⟩ := hpok a ha
  have hcl := w_pc_le (T := T) (N := N) (r := r) MI
  obtain ⟨ok1, ok2, ok3⟩ := w_pp_ok (T := T) (N := N) (r := r) MI
  have hc10 := pow_10 (n := w_pc T N r MI) (by omega)
  have hh : ∀ j, w_hi T N r j < 1000000 := fun j => by have := (m_sees_rng (T := T) (N := N) (i := j) h0).2; unfold w_hi; omega
  have htri : w_tri (w_a0 T r a) (w_fa T a) := w_tri_ok (by omega)
  have ha0 : ∀ i, 0 ≤ w_a0 T r a i := fun i => by
    unfold w_a0
    have := Int.mul_nonneg (m_far_0 (r (27 + a)) (T 24 (7 * i + 1))) (show 0 ≤ T 5 a by omega)
    omega
  refine wp_X1_seesTo_0 ?_
  have key : ∀ (k n : Nat) (b : Int) (s1 : ev_S), n + k = w_pc T N r MI → (b = 0 ∨ b = 1) → (b = 1 ↔ ∃ m, m < n ∧ S.testBit m = true ∧ s1 173 (10 * S + m) ≠ -1) → (∀ m, m < n → S.testBit m = true → ∃ v, w_mn T N r a (w_x T N MI r S) (w_pp T N r MI m) v ∧ s1 173 (10 * S + m) = w_cl v) → (∀ i, (i < 10 * S ∨ 10 * S + 10 ≤ i) → s1 173 i = s 173 i) → (∀ c, c ≠ 173 → s1 c = s c) → Ev layX M_X1_seesTo (d + 4) 5 [(0, ev_r 162), (1, ev_i (a : Int)), (2, ev_i (S : Int)), (3, ev_i b), (4, ev_i (n : Int))] [] s1 Q := by
    intro k
    induction k with
    | zero =>
      intro n b s1 hn hb hbi g1 g2 g3
      have e3 : s1 162 3 = (w_pc T N r MI : Int) := by rw [g3 162 (by omega)]; exact hP.1
      refine wp_X1_seesTo_5 ⟨fun _ => ⟨hb, h s1 b hb ?_ (fun m hm => g1 m (by have := tb_lim hS hm; omega) hm) g2 g3⟩, fun q => absurd q (by omega)⟩
      rw [hbi]
      have hx0 : w_x T N MI r S ≠ 0 := fun q => by
        have : w_x T N MI r S = w_x T N MI r 0 := by rw [q]; exact xs_0.symm
        exact hS0 (xs_inj ok2 hS (by omega) this)
      constructor
      · rintro ⟨m, m1, m2, m3⟩
        obtain ⟨v, v1, v2⟩ := g1 m m1 m2
        refine w_can_of v1 (fun e => m3 ?_)
        rw [v2]; unfold w_cl; rw [if_pos e]
      · intro q
        obtain ⟨i, i1, i2⟩ := w_can_to hx0 q
        obtain ⟨m, m1, m2, m3⟩ := tb_xs.mp i1
        subst m3
        obtain ⟨v, v1, v2⟩ := g1 m (by omega) m2
        refine ⟨m, by omega, m2, ?_⟩
        rw [v2]
        have hv := i2 v v1
        have hge := w_min_ge htri v1
        have := ha0 (w_pp T N r MI m)
        unfold w_cl; rw [if_neg hv]; omega
    | succ k ih =>
      intro n b s1 hn hb hbi g1 g2 g3
      have e3 : s1 162 3 = (w_pc T N r MI : Int) := by rw [g3 162 (by omega)]; exact hP.1
      have hN1 : XN s1 T A r := XN_keep hN (fun c hc => g3 c (by omega))
      have hP1 : XP s1 T N MI r := XP_keep hP (fun c hc => g3 c (by omega))
      have nc : n < w_pc T N r MI := by omega
      have p2 := pow_10 (n := n) (by omega)
      have dl := dif_le S (2 ^ n)
      -- the value is put
      have put : ∀ x : Int, (S.testBit n = true → ∃ v, w_mn T N r a (w_x T N MI r S) (w_pp T N r MI n) v ∧ x = w_cl v) → (S.testBit n = false → x = -1) → Ev layX M_X1_seesTo (d + 4) 74 [(0, ev_r 162), (1, ev_i (a : Int)), (2, ev_i (S : Int)), (3, ev_i b), (4, ev_i (n : Int)), (6, ev_i x)] [] s1 Q := by
        intro x hx hx0
        have em : ev_add (ev_mul (S : Int) 10) (n : Int) = ((10 * S + n : Nat) : Int) := by
          rw [ev_mul_eq ⟨by omega, by omega⟩, ev_add_eq ⟨by omega, by omega⟩]; omega
        refine wp_X1_seesTo_74 ?_
        rw [em, Int.toNat_natCast, (ev_orb hb).1, (ev_orb hb).2, ev_add_eq (x := (n : Int)) (y := 1) ⟨by omega, by omega⟩]
        refine ⟨by omega, ?_⟩
        rintro _ rfl
        have oth : ∀ m, m ≠ n → ev_up s1 173 (10 * S + n) x 173 (10 * S + m) = s1 173 (10 * S + m) := fun m hm => ev_up_ne _ _ (by omega)
        have g1' : ∀ m, m < n + 1 → S.testBit m = true → ∃ v, w_mn T N r a (w_x T N MI r S) (w_pp T N r MI m) v ∧ ev_up s1 173 (10 * S + n) x 173 (10 * S + m) = w_cl v := by
          intro m hm hmb
          by_cases e : m = n
          · subst e; rw [ev_up_same]; exact hx hmb
          · rw [oth m e]; exact g1 m (by omega) hmb
        have g2' : ∀ i, (i < 10 * S ∨ 10 * S + 10 ≤ i) → ev_up s1 173 (10 * S + n) x 173 i = s 173 i := fun i hi => by rw [ev_up_ne _ _ (by omega)]; exact g2 i hi
        have g3' : ∀ c, c ≠ 173 → ev_up s1 173 (10 * S + n) x c = s c := fun c hc => by rw [ev_upj _ _ hc]; exact g3 c hc
        refine ⟨fun q => ih (n + 1) b _ (by omega) hb ?_ g1' g2' g3', fun q => ih (n + 1) 1 _ (by omega) (Or.inr rfl) ?_ g1' g2' g3'⟩
        · rw [hbi]
          constructor
          · rintro ⟨m, m1, m2, m3⟩; exact ⟨m, by omega, m2, by rw [oth m (by omega)]; exact m3⟩
          · rintro ⟨m, m1, m2, m3⟩
            by_cases e : m = n
            · subst e; rw [ev_up_same] at m3; exact absurd q m3
            · rw [oth m e] at m3; exact ⟨m, by omega, m2, m3⟩
        · refine ⟨fun _ => ⟨n, by omega, ?_, by rw [ev_up_same]; exact q⟩, fun _ => rfl⟩
          cases z : S.testBit n
          · exact absurd (hx0 z) q
          · rfl
      refine wp_X1_seesTo_5 ⟨fun q => absurd q (by omega), fun _ => ?_⟩
      rw [ev_shl1 (by omega), ev_andn (by omega) (by omega)]
      refine ⟨fun c => ⟨fun c2 => ?_, fun c2 => ?_⟩, fun c => ?_⟩
      · -- not in the set
        have e : dif S (2 ^ n) = S := by omega
        have nb : S.testBit n = false := by
          have := tb_dif S (2 ^ n) n
          rw [e, tb_pow] at this; simpa using this
        exact put (-1) (fun z => by rw [nb] at z; exact absurd z (by simp)) (fun _ => rfl)
      · have c0 : dif S (2 ^ n) ≠ 0 := fun z => c (by rw [z]; rfl)
        have nb : S.testBit n = true := by
          cases z : S.testBit n
          · exfalso
            apply c2
            have : dif S (2 ^ n) = S := eq_tb (fun i => by
              rw [tb_dif, tb_pow]
              by_cases e : n = i
              · subst e; simp [z]
              · simp [e])
            rw [this]
          · rfl
        have hlt : dif S (2 ^ n) < S := by
          have h2 : dif S (2 ^ n) ≠ S := fun e => c2 (by rw [e])
          omega
        have hss := ss_tr (ss_dif S (2 ^ n)) hal
        have hA1 := hA' _ hlt
        refine sp_holds yX_168 (by omega) (by omega) (by omega) (ev_pi_mk ?_)
        rw [g3 168 (by omega)]
        have hF1 : XFr s1 T N MI r a (dif S (2 ^ n)) := by
          intro m hm
          obtain ⟨v, v1, v2⟩ := hF _ hlt hss m hm
          refine ⟨v, v1, ?_⟩
          have : m < 10 := by have := tb_lim hS (ss_dif _ _ m hm); omega
          rw [g2 _ (by omega)]; exact v2
        by_cases cx : xb (s 168) a (dif S (2 ^ n)) = true
        · rw [if_pos cx]
          refine ⟨fun q => absurd q (by omega), fun _ => sp_freeLast hT0 h0 hN1 hP1 (XD_keep hD (g3 165 (by omega))) ha hS nb c0 hF1 (fun v hv => ev_pi_mk (put (w_cl v) (fun _ => ⟨v, hv, rfl⟩) (fun z => by rw [nb] at z; exact absurd z (by simp))))⟩
        · rw [if_neg cx]
          refine ⟨fun _ => put (-1) (fun _ => ⟨1000000, ?_, rfl⟩) (fun _ => rfl), fun q => absurd rfl q⟩
          -- the others can't be seen to
          have hno : ¬ w_cn T N r a (w_x T N MI r (dif S (2 ^ n))) := fun z => cx (hA1.mpr ⟨hss, z⟩)
          have ex : w_x T N MI r (dif S (2 ^ n)) = dif (w_x T N MI r S) (2 ^ w_pp T N r MI n) := by unfold w_x; rw [xs_dif ok2, xs_one nc]
          have ex0 : dif (w_x T N MI r S) (2 ^ w_pp T N r MI n) ≠ 0 := by
            rw [← ex]
            intro q
            have : w_x T N MI r (dif S (2 ^ n)) = w_x T N MI r 0 := by rw [q]; exact xs_0.symm
            exact c0 (xs_inj ok2 (by omega) (by omega) this)
          refine w_min_step (hh _) (by unfold w_x; rw [xs_at ok2 nc]; exact nb) ex0 (Or.inl rfl) (fun j v hj hv hv0 => ?_) (fun j hj => ?_)
          · rw [← ex] at hv
            exact absurd (w_can_of hv hv0) hno
          · rw [← ex] at hj ⊢
            obtain ⟨q, q1, q2, q3⟩ := tb_xs.mp hj
            subst q3
            obtain ⟨v, hv, -⟩ := hF1 q q2
            exact ⟨v, hv⟩
      · have c0 : dif S (2 ^ n) = 0 := by omega
        have nb : S.testBit n = true := by
          obtain ⟨i, hi⟩ := tb_some hS0
          have := (dif_0.mp c0) i hi
          rw [tb_pow] at this
          have := of_decide_eq_true this
          rw [this]; exact hi
        refine sp_freeFirst hT0 h0 hpa hN1 hP1 ha nc (ev_pi_mk (put _ (fun _ => ⟨_, ?_, rfl⟩) (fun z => by rw [nb] at z; exact absurd z (by simp))))
        have ex : dif (w_x T N MI r S) (2 ^ w_pp T N r MI n) = 0 := by
          have : w_x T N MI r (dif S (2 ^ n)) = dif (w_x T N MI r S) (2 ^ w_pp T N r MI n) := by unfold w_x; rw [xs_dif ok2, xs_one nc]
          rw [← this, c0]; exact xs_0
        exact w_min_base (hh _) (by unfold w_x; rw [xs_at ok2 nc]; exact nb) ex
  exact key (w_pc T N r MI) 0 0 s (by omega) (Or.inl rfl) ⟨fun q => absurd q (by omega), fun q => by obtain ⟨m, m1, -⟩ := q; omega⟩ (fun m hm => absurd hm (by omega)) (fun _ _ => rfl) (fun _ _ => rfl)
