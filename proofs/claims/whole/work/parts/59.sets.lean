/-! LEAST, the model: which sets one angel can see to -/
def w_a0 (T : ev_S) (r : Nat → Int) (a i : Nat) : Int := r 0 + m_far (r (27 + a)) (T 24 (7 * i + 1)) * T 5 a
def w_fa (T : ev_S) (a j i : Nat) : Int := m_far (T 24 (7 * j + 1)) (T 24 (7 * i + 1)) * T 5 a
def w_lo (T : ev_S) (N : Nat) (r : Nat → Int) (i : Nat) : Int := m_sees T N r i - (T 0 8 + 3)
def w_hi (T : ev_S) (N : Nat) (r : Nat → Int) (i : Nat) : Int := m_sees T N r i
def w_all (T : ev_S) (N : Nat) (r : Nat → Int) : Nat → Nat
  | 0 => 0
  | n + 1 => if m_sees T N r n = -1 then w_all T N r n else w_all T N r n ||| 2 ^ n
def w_cn (T : ev_S) (N : Nat) (r : Nat → Int) (a S : Nat) : Prop := w_can (w_a0 T r a) (w_fa T a) (w_lo T N r) (w_hi T N r) S
def w_mn (T : ev_S) (N : Nat) (r : Nat → Int) (a S i : Nat) (v : Int) : Prop := w_min (w_a0 T r a) (w_fa T a) (w_lo T N r) (w_hi T N r) S i v
def w_ca (T : ev_S) (N A MI : Nat) (r : Nat → Int) (a S : Nat) : Prop := S = 0 ∨ (a < A ∧ ss S (w_all T N r MI) ∧ w_cn T N r a S)
theorem tb_all {T : ev_S} {N : Nat} {r : Nat → Int} {i : Nat} : ∀ {n : Nat}, (w_all T N r n).testBit i = true ↔ (i < n ∧ m_sees T N r i ≠ -1)
  | 0 => by simp [w_all]
  | n + 1 => by
    simp only [w_all]
    split
    · rename_i c
      rw [tb_all]
      constructor
      · intro q; exact ⟨by omega, q.2⟩
      · intro q
        refine ⟨?_, q.2⟩
        by_cases e : i = n
        · subst e; exact absurd c q.2
        · omega
    · rename_i c
      rw [Nat.testBit_or, Bool.or_eq_true, tb_all, tb_pow]
      constructor
      · rintro (q | q)
        · exact ⟨by omega, q.2⟩
        · have := of_decide_eq_true q; subst this; exact ⟨by omega, c⟩
      · intro q
        by_cases e : n = i
        · right; exact decide_eq_true e
        · left; exact ⟨by omega, q.2⟩
theorem w_all_lt {T : ev_S} {N : Nat} {r : Nat → Int} {n : Nat} : w_all T N r n < 2 ^ n := tb_lt (fun i hi => by
  cases q : (w_all T N r n).testBit i
  · rfl
  · have := (tb_all.mp q).1; omega)
theorem m_far_tri (p q k : Int) : m_far p q ≤ m_far p k + m_far k q := by unfold m_far; omega
theorem m_far_0 (p q : Int) : 0 ≤ m_far p q := by unfold m_far; omega
theorem w_tri_ok {T : ev_S} {r : Nat → Int} {a : Nat} (h : 0 ≤ T 5 a) : w_tri (w_a0 T r a) (w_fa T a) := by
  refine ⟨fun i k => ?_, fun i j k => ?_, fun i j => ?_⟩
  · unfold w_a0 w_fa
    have := Int.mul_le_mul_of_nonneg_right (m_far_tri (r (27 + a)) (T 24 (7 * i + 1)) (T 24 (7 * k + 1))) h
    rw [Int.add_mul] at this
    omega
  · unfold w_fa
    have := Int.mul_le_mul_of_nonneg_right (m_far_tri (T 24 (7 * j + 1)) (T 24 (7 * i + 1)) (T 24 (7 * k + 1))) h
    rw [Int.add_mul] at this
    exact this
  · exact Int.mul_nonneg (m_far_0 _ _) h
theorem w_min_rng {a0 : Nat → Int} {fa : Nat → Nat → Int} {lo hi : Nat → Int} {S i : Nat} {v : Int} (h : w_min a0 fa lo hi S i v) : v = 1000000 ∨ (lo i ≤ v ∧ v ≤ hi i) := by
  rcases h with ⟨h1, -⟩ | ⟨-, ⟨l, -, l2, l3⟩, -⟩
  · exact Or.inl h1
  · right
    have := l2.2; rw [l3] at this
    refine ⟨?_, this⟩
    rw [← l3]; simp only [w_tm]; exact Int.le_max_right _ _
theorem m_sees_rng {T : ev_S} {N : Nat} {r : Nat → Int} {i : Nat} (h0 : 0 ≤ r 0 ∧ r 0 ≤ 600) : -1 ≤ m_sees T N r i ∧ m_sees T N r i ≤ 599 := by
  unfold m_sees
  rcases m_seen_rng (T := T) (N := N) (r := r) (i := i) (600 - r 0).toNat with q | q <;> omega
/-- what the tables stand on: the told, the row, what is foreseen -/
def MS (s T : ev_S) (N MI : Nat) (r : Nat → Int) : Prop := tl T s ∧ s 1 = r ∧ ∀ i, i < MI → s 30 i = m_sees T N r i
theorem sp_timeFor {d i N A NO MI : Nat} {s T : ev_S} {r : Nat → Int} {x : Int} {Q : Option ev_V → ev_S → Prop} (hT : m_tok T N A NO MI) (h0 : 0 ≤ r 0 ∧ r 0 ≤ 600) (hS : MS s T N MI r) (hi : i < MI) (h : Q (some (ev_i (w_for (w_lo T N r) (w_hi T N r) i x))) s) : Ev layM M_X12_timeFor (d + 1) 0 [(0, ev_r 0), (1, ev_i (i : Int)), (2, ev_i x)] [] s Q := by
  obtain ⟨htl, h1, h30⟩ := hS
  obtain ⟨-, -, -, -, ⟨-, hM10⟩, hg, -⟩ := hT
  have hr := m_sees_rng (T := T) (N := N) (i := i) h0
  have e8 : s 0 8 = T 0 8 := htl.1.2.2.1
  refine wp_X12_timeFor_0 ⟨by omega, wp_X12_guard_0 (ev_pi_mk (sp_greater (ev_pi_mk ?_)))⟩
  rw [Int.toNat_natCast, h30 i hi, e8, ev_add_eq ⟨by omega, by omega⟩, ev_sub_eq ⟨by omega, by omega⟩]
  unfold w_for w_lo w_hi at h
  refine ⟨by omega, fun c => ?_, fun c => ?_⟩
  · rw [if_neg (by omega)] at h; exact h
  · rw [if_pos c] at h; exact h
theorem pl_64 {T : ev_S} {p : Int} (hd : m_dim T) (h : m_pl T p) : 0 ≤ p ∧ p < 64 := m_pl_64 hd.2.2 h
theorem pow_10 {n : Nat} (h : n ≤ 10) : 2 ^ n ≤ 1024 := by
  have := Nat.pow_le_pow_right (n := 2) (by omega) h
  omega
theorem sp_earliestOf {d i a S N A NO MI : Nat} {s T : ev_S} {r : Nat → Int} {Q : Option ev_V → ev_S → Prop} (hT : m_tok T N A NO MI) (h0 : 0 ≤ r 0 ∧ r 0 ≤ 600) (hp : m_pl T (r (27 + a))) (hS : MS s T N MI r) (hi : i < MI) (ha : a < A) (hSM : S < 2 ^ MI) (hSi : S.testBit i = true)
    (hrest : ∀ j, (dif S (2 ^ i)).testBit j = true → w_mn T N r a (dif S (2 ^ i)) j (s 32 (10 * dif S (2 ^ i) + j)))
    (h : ∀ v, w_mn T N r a S i v → Q (some (ev_i v)) s) : Ev layM M_X12_earliestOf (d + 3) 0 [(0, ev_r 0), (1, ev_i (a : Int)), (2, ev_i (S : Int)), (3, ev_i (i : Int))] [] s Q := by
  have hT0 := hT
  have hS0 := hS
  obtain ⟨htl, h1, h30⟩ := hS
  obtain ⟨hdim, -, ⟨hA, hA6⟩, -, ⟨hM, hM10⟩, hg, -, hpok, hmok, -⟩ := hT
  obtain ⟨⟨hp1, hp9⟩, -⟩ := hpok a ha
  have hM2 := pow_10 hM10
  have e24 : s 24 = T 24 := htl.2.2.2.2.2.1
  have e5 : s 5 = T 5 := htl.2.1.2.1
  have e46 : s 0 46 = (MI : Int) := by rw [htl.1.2.2.2.2.2.2.2]; exact hM
  have hh : ∀ j, w_hi T N r j < 1000000 := fun j => by have := (m_sees_rng (T := T) (N := N) (i := j) h0).2; unfold w_hi; omega
  have pls : ∀ j, j < MI → 0 ≤ T 24 (7 * j + 1) ∧ T 24 (7 * j + 1) < 64 := fun j hj => pl_64 hdim (hmok j hj).2.1
  have e2i : (2 : Nat) ^ i < 1024 := Nat.lt_of_lt_of_le (Nat.pow_lt_pow_right (by omega) hi) hM2
  have hrl := dif_le S (2 ^ i)
  refine wp_X12_earliestOf_0 (sp_ofMishap (k := 1) (by omega) (by omega) (ev_pi_mk ?_))
  rw [e24, ev_shl1 (by omega), ev_andn (by omega) (by omega)]
  refine ⟨fun c => ?_, fun c => ?_⟩
  · -- behind others
    have c0 : dif S (2 ^ i) ≠ 0 := fun q => c (by rw [q]; rfl)
    have key : ∀ (n j : Nat) (best : Int), j + n = MI → best ≤ 1000000 → (best = 1000000 ∨ ∃ k v, (dif S (2 ^ i)).testBit k = true ∧ w_mn T N r a (dif S (2 ^ i)) k v ∧ v ≠ 1000000 ∧ best = w_for (w_lo T N r) (w_hi T N r) i (v + 1 + w_fa T a k i)) → (∀ k v, k < j → (dif S (2 ^ i)).testBit k = true → w_mn T N r a (dif S (2 ^ i)) k v → v ≠ 1000000 → best ≤ w_for (w_lo T N r) (w_hi T N r) i (v + 1 + w_fa T a k i)) → Ev layM M_X12_earliestOf (d + 3) 65 [(0, ev_r 0), (1, ev_i (a : Int)), (3, ev_i (i : Int)), (4, ev_i ((dif S (2 ^ i) : Nat) : Int)), (5, ev_i (T 24 (7 * i + 1))), (6, ev_i best), (7, ev_i (j : Int))] [] s Q := by
      intro n
      induction n with
      | zero =>
        intro j best hj hle hb1 hb2
        refine wp_X12_earliestOf_65 ⟨fun _ => h best ?_, fun q => absurd q (by omega)⟩
        refine w_min_step (hh i) hSi c0 hb1 (fun k v hk hv hv0 => hb2 k v ?_ hk hv hv0) (fun k hk => ⟨_, hrest k hk⟩)
        have := tb_lim hSM (ss_dif _ _ k hk)
        omega
      | succ n ih =>
        intro j best hj hle hb1 hb2
        refine wp_X12_earliestOf_65 ⟨fun q => absurd q (by omega), fun _ => ?_⟩
        rw [ev_bit (by omega) (by omega), ev_add_eq (x := (j : Int)) (y := 1) ⟨by omega, by omega⟩]
        have skip : (∀ v, (dif S (2 ^ i)).testBit j = true → w_mn T N r a (dif S (2 ^ i)) j v → v ≠ 1000000 → best ≤ w_for (w_lo T N r) (w_hi T N r) i (v + 1 + w_fa T a j i)) → Ev layM M_X12_earliestOf (d + 3) 65 [(0, ev_r 0), (1, ev_i (a : Int)), (3, ev_i (i : Int)), (4, ev_i ((dif S (2 ^ i) : Nat) : Int)), (5, ev_i (T 24 (7 * i + 1))), (6, ev_i best), (7, ev_i ((j : Int) + 1))] [] s Q := by
          intro hs
          refine ih (j + 1) best (by omega) hle hb1 (fun k v hk => ?_)
          by_cases e : k = j
          · subst e; exact hs v
          · exact hb2 k v (by omega)
        by_cases cb : (dif S (2 ^ i)).testBit j = true
        · rw [if_pos cb]
          refine ⟨fun q => absurd q (by omega), fun _ => ?_⟩
          have em : ev_add (ev_mul 10 ((dif S (2 ^ i) : Nat) : Int)) (j : Int) = ((10 * dif S (2 ^ i) + j : Nat) : Int) := by
            rw [ev_mul_eq ⟨by omega, by omega⟩, ev_add_eq ⟨by omega, by omega⟩]; omega
          rw [em, Int.toNat_natCast]
          have hv := hrest j cb
          have hrg := w_min_rng hv
          generalize s 32 (10 * dif S (2 ^ i) + j) = v at *
          refine ⟨by omega, fun q => ⟨by omega, sp_ofMishap (k := 1) (by omega) (by omega) (ev_pi_mk ?_)⟩, fun q => skip (fun v' _ hv' h' => absurd (w_min_uniq hv' hv) (by omega))⟩
          rw [e24]
          refine sp_farOf (pls j (by omega)) (pls i hi) (ev_pi_mk ⟨by omega, ?_⟩)
          have hfr := m_far_rng (pls j (by omega)) (pls i hi)
          have hmu : 0 ≤ m_far (T 24 (7 * j + 1)) (T 24 (7 * i + 1)) * T 5 a ∧ m_far (T 24 (7 * j + 1)) (T 24 (7 * i + 1)) * T 5 a ≤ 14 * 9 := ⟨Int.mul_nonneg hfr.1 (by omega), Int.mul_le_mul hfr.2 hp9 (by omega) (by omega)⟩
          have hsr := m_sees_rng (T := T) (N := N) (i := j) h0
          unfold w_lo w_hi at hrg
          rw [e5, Int.toNat_natCast, ev_mul_eq ⟨by omega, by omega⟩, ev_add_eq (x := v) ⟨by omega, by omega⟩, ev_add_eq ⟨by omega, by omega⟩]
          refine sp_timeFor hT0 h0 hS0 hi (ev_pi_mk ?_)
          show _ ∧ _
          rw [show v + 1 + m_far (T 24 (7 * j + 1)) (T 24 (7 * i + 1)) * T 5 a = v + 1 + w_fa T a j i from rfl]
          refine ⟨fun q2 => skip (fun v' _ hv' h' => by rw [w_min_uniq hv' hv]; exact q2), fun q2 => ih (j + 1) _ (by omega) ?_ (Or.inr ⟨j, v, cb, hv, q, rfl⟩) ?_⟩
          · omega
          · intro k v' hk hkb hv' h'
            by_cases e : k = j
            · subst e; rw [w_min_uniq hv' hv]; exact Int.le_refl _
            · have := hb2 k v' (by omega) hkb hv' h'; omega
        · rw [if_neg cb]
          exact ⟨fun _ => skip (fun v' q _ _ => absurd q cb), fun q => absurd rfl q⟩
    exact key MI 0 1000000 (by omega) (Int.le_refl _) (Or.inl rfl) (fun k v hk => absurd hk (by omega))
  · have c0 : dif S (2 ^ i) = 0 := by omega
    have hpa := pl_64 hdim hp
    have hfr := m_far_rng hpa (pls i hi)
    have hmu : 0 ≤ m_far (r (27 + a)) (T 24 (7 * i + 1)) * T 5 a ∧ m_far (r (27 + a)) (T 24 (7 * i + 1)) * T 5 a ≤ 14 * 9 := ⟨Int.mul_nonneg hfr.1 (by omega), Int.mul_le_mul hfr.2 hp9 (by omega) (by omega)⟩
    simp (disch := omega) only [ev_add_eq (x := 27), tn_lit]
    rw [h1]
    refine ⟨by omega, sp_farOf hpa (pls i hi) (ev_pi_mk ⟨by omega, ?_⟩)⟩
    rw [e5, Int.toNat_natCast, ev_mul_eq ⟨by omega, by omega⟩, ev_add_eq ⟨by omega, by omega⟩]
    refine sp_timeFor hT0 h0 hS0 hi (ev_pi_mk (h _ ?_))
    exact w_min_base (hh i) hSi c0
