/-! BITS: sets as numbers -/
theorem sh_amt : ∀ k : Nat, k < 32 → ((nI k &&& 31).toBitVec.smod 32).toNat = k := by decide +kernel
theorem ush_amt : ∀ k : Nat, k < 32 → ((((nI k).toUInt32 &&& Int32.toUInt32 31)).toBitVec % 32).toNat = k := by decide +kernel
theorem ev_1 : Int32.ofInt 1 = nI 1 := rfl
theorem ev_shl1 {k : Nat} (h : k < 31) : ev_shl 1 (k : Int) = ((2 ^ k : Nat) : Int) := by
  unfold ev_shl
  have h2 : (2 : Nat) ^ k < 2 ^ 31 := Nat.pow_lt_pow_right (by omega) h
  rw [ev_1, ev_nI, pk_shlN (n := 1) (nI k &&& 31) k (sh_amt k (by omega)) (by omega), Nat.one_mul]
  exact ev_nIt (by omega)
theorem ev_shr_nat {a k : Nat} (ha : a < 2147483648) (h : k < 32) : ev_shr (a : Int) (k : Int) = ((a / 2 ^ k : Nat) : Int) := by
  unfold ev_shr
  rw [ev_nI, ev_nI, pk_shrN (by omega) (nI k &&& 31) k (sh_amt k h)]
  exact ev_nIt (Nat.lt_of_le_of_lt (Nat.div_le_self _ _) ha)
theorem tb_div (a k : Nat) : (a / 2 ^ k &&& 1) = if a.testBit k then 1 else 0 := by
  rw [Nat.testBit_eq_decide_div_mod_eq, Nat.and_one_is_mod]
  split
  · rename_i h; simpa using h
  · rename_i h; simp at h; omega
theorem ev_bit {a k : Nat} (ha : a < 2147483648) (h : k < 32) : ev_and (ev_shr (a : Int) (k : Int)) 1 = if a.testBit k then 1 else 0 := by
  rw [ev_shr_nat ha h]
  have := ev_and_nat (a := a / 2 ^ k) (b := 1) (Nat.lt_of_le_of_lt (Nat.div_le_self _ _) ha) (by omega)
  rw [show ((1 : Nat) : Int) = 1 from rfl] at this
  rw [this, tb_div]
  split <;> rfl
/-- a without b -/
def dif (a b : Nat) : Nat := a ^^^ (a &&& b)
theorem tb_dif (a b i : Nat) : (dif a b).testBit i = (a.testBit i && !b.testBit i) := by
  unfold dif; rw [Nat.testBit_xor, Nat.testBit_and]; cases a.testBit i <;> cases b.testBit i <;> rfl
theorem le_of_sub {a b : Nat} (h : ∀ i, a.testBit i = true → b.testBit i = true) : a ≤ b := by
  have e : a = a &&& b := by
    apply Nat.eq_of_testBit_eq
    intro i
    rw [Nat.testBit_and]
    have := h i
    cases q : a.testBit i
    · rfl
    · rw [this q]; rfl
  rw [e]; exact Nat.and_le_right
theorem dif_le (a b : Nat) : dif a b ≤ a := le_of_sub (fun i h => by rw [tb_dif] at h; revert h; cases a.testBit i <;> simp)
theorem ev_andn {a b : Nat} (ha : a < 2147483648) (hb : b < 2147483648) : ev_and (a : Int) (ev_xor (b : Int) (-1)) = ((dif a b : Nat) : Int) := by
  unfold ev_and ev_xor
  rw [ev_of, ev_nI, ev_nI]
  have e : nI a &&& (nI b ^^^ Int32.ofInt (-1)) = nI (dif a b) := by
    apply Int32.toBitVec_inj.mp
    apply BitVec.eq_of_getLsbD_eq
    intro i hi
    have hm : (Int32.ofInt (-1)).toBitVec = BitVec.allOnes 32 := by decide
    rw [Int32.toBitVec_and, Int32.toBitVec_xor, BitVec.getLsbD_and, BitVec.getLsbD_xor, hm, BitVec.getLsbD_allOnes]
    simp only [nI, Int32.toBitVec_ofNat', BitVec.getLsbD_ofNat, hi, decide_true, Bool.true_and, Bool.and_true, tb_dif]
    cases a.testBit i <;> cases b.testBit i <;> rfl
  rw [e]
  exact ev_nIt (Nat.lt_of_le_of_lt (dif_le a b) ha)
theorem ev_low {a : Nat} (h1 : 0 < a) (ha : a < 2147483648) : ev_and (a : Int) (ev_sub (a : Int) 1) = ((a &&& (a - 1) : Nat) : Int) := by
  rw [ev_sub_eq ⟨by omega, by omega⟩, show ((a : Int) - 1) = ((a - 1 : Nat) : Int) by omega]
  exact ev_and_nat ha (by omega)
theorem tb_pow (n m : Nat) : (2 ^ n).testBit m = decide (n = m) := Nat.testBit_two_pow
theorem dif_0 {a b : Nat} : dif a b = 0 ↔ ∀ i, a.testBit i = true → b.testBit i = true := by
  constructor
  · intro h i hi
    have := tb_dif a b i
    rw [h, Nat.zero_testBit, hi] at this
    revert this; cases b.testBit i <;> simp
  · intro h
    apply Nat.eq_of_testBit_eq
    intro i
    rw [tb_dif, Nat.zero_testBit]
    cases q : a.testBit i
    · rfl
    · rw [h i q]; rfl
/-- a number of n bits -/
theorem tb_lt {a n : Nat} (h : ∀ i, n ≤ i → a.testBit i = false) : a < 2 ^ n := Nat.lt_pow_two_of_testBit a h
theorem tb_hi {a n i : Nat} (h : a < 2 ^ n) (hi : n ≤ i) : a.testBit i = false := Nat.testBit_lt_two_pow (Nat.lt_of_lt_of_le h (Nat.pow_le_pow_right (by omega) hi))
theorem tb_lim {a n i : Nat} (h : a < 2 ^ n) (hi : a.testBit i = true) : i < n := by
  rcases Nat.lt_or_ge i n with q | q
  · exact q
  · rw [tb_hi h q] at hi; exact absurd hi (by simp)
theorem tb_some {a : Nat} (h : a ≠ 0) : ∃ i, a.testBit i = true := Nat.exists_testBit_of_ne_zero h
theorem lt_of_tb {a b k : Nat} (h1 : a.testBit k = false) (h2 : b.testBit k = true) (h3 : ∀ j, k < j → a.testBit j = b.testBit j) : a < b := by
  have e : a / 2 ^ (k + 1) = b / 2 ^ (k + 1) := by
    apply Nat.eq_of_testBit_eq
    intro i
    rw [Nat.testBit_div_two_pow, Nat.testBit_div_two_pow]
    exact h3 _ (by omega)
  have ha : a / 2 ^ k % 2 = 0 := by rw [Nat.testBit_eq_decide_div_mod_eq] at h1; simp at h1; omega
  have hb : b / 2 ^ k % 2 = 1 := by rw [Nat.testBit_eq_decide_div_mod_eq] at h2; simpa using h2
  rw [Nat.pow_succ, ← Nat.div_div_eq_div_mul, ← Nat.div_div_eq_div_mul] at e
  have l : a / 2 ^ k < b / 2 ^ k := by omega
  rcases Nat.lt_or_ge a b with q | q
  · exact q
  · exact absurd (Nat.div_le_div_right (c := 2 ^ k) q) (by omega)
/-- the highest place at which two numbers differ -/
theorem tb_top : ∀ (n a b : Nat), a < 2 ^ n → b < 2 ^ n → a < b → ∃ k, k < n ∧ a.testBit k = false ∧ b.testBit k = true ∧ ∀ j, k < j → a.testBit j = b.testBit j
  | 0, a, b, ha, hb, h => by simp at ha hb; omega
  | n + 1, a, b, ha, hb, h => by
    cases qa : a.testBit n <;> cases qb : b.testBit n
    · have ha2 : a < 2 ^ n := tb_lt (fun i hi => by rcases Nat.lt_or_ge n i with q | q
                                                    · exact tb_hi ha q
                                                    · rw [show i = n by omega]; exact qa)
      have hb2 : b < 2 ^ n := tb_lt (fun i hi => by rcases Nat.lt_or_ge n i with q | q
                                                    · exact tb_hi hb q
                                                    · rw [show i = n by omega]; exact qb)
      obtain ⟨k, k1, k2, k3, k4⟩ := tb_top n a b ha2 hb2 h
      exact ⟨k, by omega, k2, k3, k4⟩
    · exact ⟨n, by omega, qa, qb, fun j hj => by rw [tb_hi ha hj, tb_hi hb hj]⟩
    · exfalso
      have := lt_of_tb (k := n) qb qa (fun j hj => by rw [tb_hi ha hj, tb_hi hb hj])
      omega
    · -- both have the bit: take it away
      have ea : ∀ i, (dif a (2 ^ n)).testBit i = (a.testBit i && !decide (n = i)) := fun i => by rw [tb_dif, tb_pow]
      have eb : ∀ i, (dif b (2 ^ n)).testBit i = (b.testBit i && !decide (n = i)) := fun i => by rw [tb_dif, tb_pow]
      have ha2 : dif a (2 ^ n) < 2 ^ n := tb_lt (fun i hi => by
        rw [ea]; rcases Nat.lt_or_ge n i with q | q
        · rw [tb_hi ha q]; rfl
        · rw [show n = i by omega]; simp)
      have hb2 : dif b (2 ^ n) < 2 ^ n := tb_lt (fun i hi => by
        rw [eb]; rcases Nat.lt_or_ge n i with q | q
        · rw [tb_hi hb q]; rfl
        · rw [show n = i by omega]; simp)
      rcases Nat.lt_trichotomy (dif a (2 ^ n)) (dif b (2 ^ n)) with q | q | q
      · obtain ⟨k, k1, k2, k3, k4⟩ := tb_top n _ _ ha2 hb2 q
        rw [ea] at k2; rw [eb] at k3
        have hk : ¬ n = k := by omega
        simp [hk] at k2 k3
        refine ⟨k, by omega, k2, k3, fun j hj => ?_⟩
        by_cases e : n = j
        · subst e; rw [qa, qb]
        · have := k4 j hj; rw [ea, eb] at this; simpa [e] using this
      · exfalso
        have : a = b := by
          apply Nat.eq_of_testBit_eq
          intro i
          by_cases e : n = i
          · subst e; rw [qa, qb]
          · have h1 := ea i; have h2 := eb i
            rw [q] at h1; rw [h1] at h2; simpa [e] using h2
        omega
      · exfalso
        obtain ⟨k, k1, k2, k3, k4⟩ := tb_top n _ _ hb2 ha2 q
        rw [eb] at k2; rw [ea] at k3
        have hk : ¬ n = k := by omega
        simp [hk] at k2 k3
        have := lt_of_tb (k := k) k2 k3 (fun j hj => by
          by_cases e : n = j
          · subst e; rw [qa, qb]
          · have := k4 j hj; rw [ea, eb] at this; simpa [e] using this)
        omega
/-- the next lesser part of a set -/
theorem sub_next : ∀ (n F m t : Nat), F < 2 ^ n → (∀ i, m.testBit i = true → F.testBit i = true) → (∀ i, t.testBit i = true → F.testBit i = true) → t < m → t ≤ (m - 1) &&& F
  | 0, F, m, t, hF, hm, ht, h => by
    have := le_of_sub hm; have := le_of_sub ht
    simp at hF; omega
  | n + 1, F, m, t, hF, hm, ht, h => by
    have dv : ∀ x i : Nat, (x / 2).testBit i = x.testBit (i + 1) := fun x i => by rw [Nat.testBit_succ]
    have hF2 : F / 2 < 2 ^ n := by rw [Nat.pow_succ] at hF; omega
    have hm2 : ∀ i, (m / 2).testBit i = true → (F / 2).testBit i = true := fun i hi => by rw [dv] at hi ⊢; exact hm _ hi
    have ht2 : ∀ i, (t / 2).testBit i = true → (F / 2).testBit i = true := fun i hi => by rw [dv] at hi ⊢; exact ht _ hi
    have e2 : ((m - 1) &&& F) / 2 = ((m - 1) / 2) &&& (F / 2) := by
      apply Nat.eq_of_testBit_eq
      intro i
      rw [dv, Nat.testBit_and, Nat.testBit_and, dv, dv]
    have e0 : ((m - 1) &&& F) % 2 = 1 ↔ ((m - 1) % 2 = 1 ∧ F % 2 = 1) := by
      have := Nat.testBit_and (m - 1) F 0
      simp only [Nat.testBit_zero] at this
      constructor
      · intro q; rw [decide_eq_true q] at this; simpa using this.symm
      · intro q; rw [decide_eq_true q.1, decide_eq_true q.2] at this; simpa using this
    have t0 : t % 2 = 1 → F % 2 = 1 := fun q => by
      have := ht 0 (by rw [Nat.testBit_zero]; exact decide_eq_true q)
      rw [Nat.testBit_zero] at this; simpa using this
    by_cases b : m % 2 = 1
    · -- m - 1 is within F
      have k : (m - 1) / 2 = m / 2 := by omega
      have k2 : (m / 2) &&& (F / 2) = m / 2 := by
        apply Nat.eq_of_testBit_eq
        intro i
        rw [Nat.testBit_and]
        cases q : (m / 2).testBit i
        · rfl
        · rw [hm2 i q]; rfl
      rw [k, k2] at e2
      omega
    · have hs : t / 2 < m / 2 := by omega
      have ih := sub_next n (F / 2) (m / 2) (t / 2) hF2 hm2 ht2 hs
      have k : (m - 1) / 2 = m / 2 - 1 := by omega
      rw [← k, ← e2] at ih
      have k1 : (m - 1) % 2 = 1 := by omega
      by_cases q : t % 2 = 1
      · have := e0.mpr ⟨k1, t0 q⟩; omega
      · omega
/-- the lowest one, and the set without it -/
def low (a : Nat) : Nat → Nat
  | 0 => 0
  | n + 1 => if a.testBit 0 then 0 else 1 + low (a / 2) n
theorem low_ok : ∀ (n a : Nat), a ≠ 0 → a < 2 ^ n → a.testBit (low a n) = true ∧ (∀ j, j < low a n → a.testBit j = false) ∧ low a n < n ∧ (a &&& (a - 1)) = dif a (2 ^ low a n)
  | 0, a, h, hn => by simp at hn; omega
  | n + 1, a, h, hn => by
    have dv : ∀ x i : Nat, (x / 2).testBit i = x.testBit (i + 1) := fun x i => by rw [Nat.testBit_succ]
    simp only [low]
    by_cases b : a.testBit 0 = true
    · rw [if_pos b]
      refine ⟨b, fun j hj => absurd hj (by omega), by omega, ?_⟩
      have b1 : a % 2 = 1 := by rw [Nat.testBit_zero] at b; simpa using b
      apply Nat.eq_of_testBit_eq
      intro i
      rw [Nat.testBit_and, tb_dif, tb_pow]
      cases i with
      | zero => rw [Nat.testBit_zero (x := a - 1), decide_eq_false (by omega)]; simp
      | succ i =>
        rw [Nat.testBit_succ, Nat.testBit_succ, show (a - 1) / 2 = a / 2 by omega]
        simp
    · have b1 : a % 2 = 0 := by rw [Nat.testBit_zero] at b; simp at b; exact b
      obtain ⟨i1, i2, i3, i4⟩ := low_ok n (a / 2) (by omega) (by rw [Nat.pow_succ] at hn; omega)
      rw [if_neg b]
      refine ⟨?_, ?_, by omega, ?_⟩
      · rw [Nat.add_comm, ← dv]; exact i1
      · intro j hj
        cases j with
        | zero => simpa using b
        | succ j => rw [← dv]; exact i2 j (by omega)
      · apply Nat.eq_of_testBit_eq
        intro i
        cases i with
        | zero =>
          rw [Nat.testBit_and, tb_dif, tb_pow, Nat.testBit_zero, decide_eq_false (show ¬ a % 2 = 1 by omega)]; simp
        | succ i =>
          have := congrArg (fun x => x.testBit i) i4
          simp only [Nat.testBit_and, tb_dif, tb_pow] at this
          rw [Nat.testBit_and, tb_dif, tb_pow, Nat.testBit_succ, Nat.testBit_succ, show (a - 1) / 2 = a / 2 - 1 by omega, this]
          have e : decide (low (a / 2) n = i) = decide (1 + low (a / 2) n = i + 1) := by
            apply decide_eq_decide.mpr; omega
          rw [e]
/-- how many ones -/
def pop : Nat → Nat → Nat
  | 0, _ => 0
  | n + 1, a => a % 2 + pop n (a / 2)
theorem pop_next : ∀ v : Nat, v < 1024 → v ≠ 0 → pop 10 v = pop 10 (v &&& (v - 1)) + 1 ∧ (v &&& (v - 1)) < v := by decide +kernel
theorem pop_le : ∀ v : Nat, v < 1024 → pop 10 v ≤ 10 := by decide +kernel
theorem pop_0 : pop 10 0 = 0 := by decide
theorem sp_ones4 {d : Nat} {s : ev_S} {Q : Option ev_V → ev_S → Prop} : ∀ (k v c : Nat), v ≤ k → v < 1024 → c + pop 10 v ≤ 1000 → Q (some (ev_i ((c + pop 10 v : Nat) : Int))) s → Ev layM M_X12_ones d 4 [(2, ev_i (c : Int)), (3, ev_i (v : Int))] [] s Q := by
  intro k
  induction k with
  | zero =>
    intro v c h1 h2 h3 h
    have : v = 0 := by omega
    subst this
    rw [pop_0] at h
    exact wp_X12_ones_4 ⟨fun _ => h, fun q => absurd rfl q⟩
  | succ k ih =>
    intro v c h1 h2 h3 h
    refine wp_X12_ones_4 ⟨fun q => ?_, fun q => ?_⟩
    · have : v = 0 := by omega
      subst this
      rw [pop_0] at h; exact h
    · obtain ⟨p1, p2⟩ := pop_next v h2 (by omega)
      have p3 := pop_le v h2
      rw [ev_low (by omega) (by omega), ev_add_eq ⟨by omega, by omega⟩]
      exact ih _ (c + 1) (by omega) (by omega) (by omega) (by rw [show c + 1 + pop 10 (v &&& (v - 1)) = c + pop 10 v by omega]; exact h)
theorem sp_ones {d v : Nat} {s : ev_S} {Q : Option ev_V → ev_S → Prop} (hv : v < 1024) (h : Q (some (ev_i ((pop 10 v : Nat) : Int))) s) : Ev layM M_X12_ones d 0 [(0, ev_r 0), (1, ev_i (v : Int))] [] s Q := by
  have := pop_le v hv
  refine wp_X12_ones_0 (sp_ones4 v v 0 (Nat.le_refl v) hv (by omega) ?_)
  rw [Nat.zero_add]; exact h
