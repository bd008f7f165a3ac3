/-! LEAST, the class: sets as bits in a row of words; mishaps numbered without gaps -/
def wb (w : Int) (k : Nat) : Bool := (Int32.ofInt w).toBitVec.toNat.testBit k
theorem ushr_bit {w : Int} {k : Nat} (hk : k < 32) : ev_and (ev_ushr w (k : Int)) 1 = if wb w k then 1 else 0 := by
  unfold ev_and ev_ushr wb
  rw [ev_of, ev_nI, ev_1]
  have hy := pk_ushr (Int32.ofInt w) (nI k) k (ush_amt k hk)
  generalize ((Int32.ofInt w).toUInt32 >>> ((nI k).toUInt32 &&& Int32.toUInt32 31)).toInt32 = y at *
  have e : y &&& nI 1 = nI (if (Int32.ofInt w).toBitVec.toNat.testBit k then 1 else 0) := by
    apply Int32.toBitVec_inj.mp
    apply BitVec.eq_of_toNat_eq
    rw [Int32.toBitVec_and, BitVec.toNat_and, hy]
    have e1 : (nI 1).toBitVec.toNat = 1 := rfl
    rw [e1, tb_div]
    split <;> rfl
  rw [e]
  split <;> rfl
theorem or_bit {w : Int} {k j : Nat} (hk : k < 32) : wb (ev_or w (ev_shl 1 (k : Int))) j = (wb w j || decide (k = j)) := by
  unfold wb ev_or ev_shl
  rw [ev_of, ev_of, ev_nI, ev_1, Int32.toBitVec_or, BitVec.toNat_or, Nat.testBit_or, pk_shl (nI 1) (nI k &&& 31) k (sh_amt k hk)]
  have e1 : (nI 1).toBitVec.toNat = 1 := rfl
  have h2 : (2 : Nat) ^ k < 2 ^ 32 := Nat.pow_lt_pow_right (by omega) hk
  rw [e1, Nat.one_mul, Nat.mod_eq_of_lt h2, tb_pow]
theorem wb_0 (k : Nat) : wb 0 k = false := by
  unfold wb
  have : (Int32.ofInt 0).toBitVec.toNat = 0 := rfl
  rw [this, Nat.zero_testBit]
def xb (f : Nat → Int) (row S : Nat) : Bool := wb (f (32 * row + S / 32)) (S % 32)
theorem xb_word {row S n0 : Nat} (h : 32 * row + S / 32 < n0) (hn0 : n0 < 100000) (hS : S < 1024) : ev_add (ev_mul (row : Int) 32) (ev_shr (S : Int) 5) = ((32 * row + S / 32 : Nat) : Int) ∧ ev_and (S : Int) 31 = ((S % 32 : Nat) : Int) := by
  constructor
  · have e := ev_shr_nat (a := S) (k := 5) (by omega) (by omega)
    rw [show ((5 : Nat) : Int) = 5 from rfl] at e
    rw [e, ev_mul_eq ⟨by omega, by omega⟩, show 2 ^ 5 = 32 from rfl, ev_add_eq ⟨by omega, by omega⟩]
    omega
  · have e := ev_and_nat (a := S) (b := 31) (by omega) (by omega)
    rw [show ((31 : Nat) : Int) = 31 from rfl] at e
    rw [e, show (31 : Nat) = 2 ^ 5 - 1 from rfl, Nat.and_two_pow_sub_one_eq_mod]
theorem sp_holds {d k0 n0 row S : Nat} (hk0 : layX[k0]? = some (.inl (0, n0))) (hn0 : n0 < 100000) {s : ev_S} {Q : Option ev_V → ev_S → Prop} (hS : S < 1024) (hr : 32 * row + S / 32 < n0) (h : Q (some (ev_i (if xb (s k0) row S then 1 else 0))) s) : Ev layX M_X1_holds d 0 [(0, ev_r k0), (1, ev_i (row : Int)), (2, ev_i (S : Int))] [] s Q := by
  obtain ⟨e1, e2⟩ := xb_word hr hn0 hS
  refine wp_X1_holds_0 hk0 (by omega) ?_
  rw [e1, e2, Int.toNat_natCast, ushr_bit (by omega)]
  unfold xb at h
  refine ⟨fun q => absurd q (by omega), fun _ => ⟨fun q => absurd q (by omega), fun _ => ⟨by omega, fun q => ?_, fun q => ?_⟩⟩⟩
  · by_cases c : wb (s k0 (32 * row + S / 32)) (S % 32) = true
    · rw [if_pos c] at q; exact absurd q (by omega)
    · rw [if_neg c] at h; exact h
  · by_cases c : wb (s k0 (32 * row + S / 32)) (S % 32) = true
    · rw [if_pos c] at h; exact h
    · rw [if_neg c] at q; exact absurd rfl q
theorem sp_put {d k0 n0 row S : Nat} (hk0 : layX[k0]? = some (.inl (0, n0))) (hn0 : n0 < 100000) {s : ev_S} {Q : Option ev_V → ev_S → Prop} (hS : S < 1024) (hr : 32 * row + S / 32 < n0) (h : ∀ s', (∀ row' S', S' < 1024 → xb (s' k0) row' S' = (xb (s k0) row' S' || decide (row' = row ∧ S' = S))) → (∀ c, c ≠ k0 → s' c = s c) → Q none s') : Ev layX M_X1_put d 0 [(0, ev_r k0), (1, ev_i (row : Int)), (2, ev_i (S : Int))] [] s Q := by
  obtain ⟨e1, e2⟩ := xb_word hr hn0 hS
  refine wp_X1_put_0 hk0 (by omega) ?_
  rw [e1, e2, Int.toNat_natCast]
  refine ⟨fun q => absurd q (by omega), fun _ => ⟨fun q => absurd q (by omega), fun _ => ⟨by omega, by omega, ?_⟩⟩⟩
  rintro _ rfl
  refine h _ (fun row' S' hS' => ?_) (fun c hc => ev_upj _ _ hc)
  unfold xb
  by_cases c : 32 * row' + S' / 32 = 32 * row + S / 32
  · rw [c, ev_up_same, or_bit (by omega)]
    congr 1
    apply decide_eq_decide.mpr
    omega
  · rw [ev_up_ne _ _ (by omega), decide_eq_false (by omega), Bool.or_false]
/-! mishaps without gaps -/
def xs (p : Nat → Nat) : Nat → Nat → Nat
  | 0, _ => 0
  | n + 1, S => if S.testBit n then xs p n S ||| 2 ^ p n else xs p n S
theorem tb_xs {p : Nat → Nat} {S i : Nat} : ∀ {c : Nat}, (xs p c S).testBit i = true ↔ ∃ n, n < c ∧ S.testBit n = true ∧ p n = i
  | 0 => by simp [xs]
  | c + 1 => by
    simp only [xs]
    split
    · rename_i q
      rw [Nat.testBit_or, Bool.or_eq_true, tb_xs, tb_pow]
      constructor
      · rintro (⟨n, n1, n2, n3⟩ | z)
        · exact ⟨n, by omega, n2, n3⟩
        · exact ⟨c, by omega, q, of_decide_eq_true z⟩
      · rintro ⟨n, n1, n2, n3⟩
        by_cases e : n = c
        · subst e; exact Or.inr (decide_eq_true n3)
        · exact Or.inl ⟨n, by omega, n2, n3⟩
    · rename_i q
      rw [tb_xs]
      constructor
      · rintro ⟨n, n1, n2, n3⟩; exact ⟨n, by omega, n2, n3⟩
      · rintro ⟨n, n1, n2, n3⟩
        by_cases e : n = c
        · subst e; exact absurd n2 q
        · exact ⟨n, by omega, n2, n3⟩
def inc (p : Nat → Nat) (c : Nat) : Prop := ∀ n m, n < m → m < c → p n < p m
theorem inc_inj {p : Nat → Nat} {c n m : Nat} (h : inc p c) (hn : n < c) (hm : m < c) (e : p n = p m) : n = m := by
  rcases Nat.lt_trichotomy n m with q | q | q
  · have := h n m q hm; omega
  · exact q
  · have := h m n q hn; omega
theorem xs_at {p : Nat → Nat} {c S n : Nat} (h : inc p c) (hn : n < c) : (xs p c S).testBit (p n) = S.testBit n := by
  have := tb_xs (p := p) (S := S) (i := p n) (c := c)
  cases q : S.testBit n
  · cases q2 : (xs p c S).testBit (p n)
    · rfl
    · obtain ⟨m, m1, m2, m3⟩ := this.mp q2
      rw [inc_inj h m1 hn m3, q] at m2; exact absurd m2 (by simp)
  · exact this.mpr ⟨n, hn, q, rfl⟩
theorem xs_lt {p : Nat → Nat} {c S U : Nat} (h : inc p c) (hS : S < 2 ^ c) (hU : U < 2 ^ c) (hl : S < U) : xs p c S < xs p c U := by
  obtain ⟨k, k1, k2, k3, k4⟩ := tb_top c S U hS hU hl
  refine lt_of_tb (k := p k) (by rw [xs_at h k1]; exact k2) (by rw [xs_at h k1]; exact k3) (fun j hj => ?_)
  have e : ∀ X, (xs p c X).testBit j = true ↔ ∃ n, n < c ∧ X.testBit n = true ∧ p n = j := fun X => tb_xs
  cases q1 : (xs p c S).testBit j <;> cases q2 : (xs p c U).testBit j
  · rfl
  · exfalso
    obtain ⟨n, n1, n2, n3⟩ := (e U).mp q2
    have hk : k < n := by
      rcases Nat.lt_trichotomy n k with z | z | z
      · have := h n k z k1; omega
      · subst z; omega
      · exact z
    have := (e S).mpr ⟨n, n1, by rw [k4 n hk]; exact n2, n3⟩
    rw [q1] at this; exact absurd this (by simp)
  · exfalso
    obtain ⟨n, n1, n2, n3⟩ := (e S).mp q1
    have hk : k < n := by
      rcases Nat.lt_trichotomy n k with z | z | z
      · have := h n k z k1; omega
      · subst z; omega
      · exact z
    have := (e U).mpr ⟨n, n1, by rw [← k4 n hk]; exact n2, n3⟩
    rw [q2] at this; exact absurd this (by simp)
  · rfl
theorem xs_inj {p : Nat → Nat} {c S U : Nat} (h : inc p c) (hS : S < 2 ^ c) (hU : U < 2 ^ c) (e : xs p c S = xs p c U) : S = U := by
  rcases Nat.lt_trichotomy S U with q | q | q
  · have := xs_lt h hS hU q; omega
  · exact q
  · have := xs_lt h hU hS q; omega
theorem xs_lt_iff {p : Nat → Nat} {c S U : Nat} (h : inc p c) (hS : S < 2 ^ c) (hU : U < 2 ^ c) : xs p c S < xs p c U ↔ S < U := by
  constructor
  · intro q
    rcases Nat.lt_trichotomy S U with z | z | z
    · exact z
    · subst z; omega
    · have := xs_lt h hU hS z; omega
  · exact xs_lt h hS hU
theorem xs_dif {p : Nat → Nat} {c S U : Nat} (h : inc p c) : xs p c (dif S U) = dif (xs p c S) (xs p c U) := eq_tb (fun i => by
  rw [tb_dif, tb_xs]
  constructor
  · rintro ⟨n, n1, n2, n3⟩
    rw [tb_dif] at n2
    rw [← n3, xs_at h n1, xs_at h n1]; exact n2
  · intro q
    simp only [Bool.and_eq_true] at q
    obtain ⟨n, n1, n2, n3⟩ := tb_xs.mp q.1
    rw [← n3] at q
    rw [xs_at h n1, xs_at h n1] at q
    exact ⟨n, n1, by rw [tb_dif]; simpa using q, n3⟩)
theorem xs_0 {p : Nat → Nat} {c : Nat} : xs p c 0 = 0 := eq_tb (fun i => by rw [tb_xs]; simp)
theorem xs_one {p : Nat → Nat} {c n : Nat} (hn : n < c) : xs p c (2 ^ n) = 2 ^ p n := eq_tb (fun i => by
  rw [tb_xs, tb_pow]
  constructor
  · rintro ⟨m, m1, m2, m3⟩
    rw [tb_pow] at m2
    have := of_decide_eq_true m2
    subst this
    exact decide_eq_true m3
  · intro q
    exact ⟨n, hn, by rw [tb_pow]; exact decide_eq_true rfl, of_decide_eq_true q⟩)
theorem xs_ss {p : Nat → Nat} {c S U : Nat} (h : ss S U) : ss (xs p c S) (xs p c U) := fun i hi => by
  obtain ⟨n, n1, n2, n3⟩ := tb_xs.mp hi
  exact tb_xs.mpr ⟨n, n1, h n n2, n3⟩
theorem xs_ss_iff {p : Nat → Nat} {c S U : Nat} (h : inc p c) (hS : S < 2 ^ c) : ss (xs p c S) (xs p c U) ↔ ss S U := by
  constructor
  · intro q n hn
    have hc := tb_lim hS hn
    have := q (p n) (by rw [xs_at h hc]; exact hn)
    rw [xs_at h hc] at this; exact this
  · exact xs_ss
/-- back: the numbers of a set of mishaps -/
def xc (p : Nat → Nat) : Nat → Nat → Nat
  | 0, _ => 0
  | n + 1, U => if U.testBit (p n) then xc p n U ||| 2 ^ n else xc p n U
theorem tb_xc {p : Nat → Nat} {U n : Nat} : ∀ {c : Nat}, (xc p c U).testBit n = true ↔ (n < c ∧ U.testBit (p n) = true)
  | 0 => by simp [xc]
  | c + 1 => by
    simp only [xc]
    split
    · rename_i q
      rw [Nat.testBit_or, Bool.or_eq_true, tb_xc, tb_pow]
      constructor
      · rintro (z | z)
        · exact ⟨by omega, z.2⟩
        · have := of_decide_eq_true z; subst this; exact ⟨by omega, q⟩
      · rintro ⟨z1, z2⟩
        by_cases e : c = n
        · right; exact decide_eq_true e
        · left; exact ⟨by omega, z2⟩
    · rename_i q
      rw [tb_xc]
      constructor
      · rintro ⟨z1, z2⟩; exact ⟨by omega, z2⟩
      · rintro ⟨z1, z2⟩
        by_cases e : c = n
        · subst e; exact absurd z2 q
        · exact ⟨by omega, z2⟩
theorem xc_lt {p : Nat → Nat} {c U : Nat} : xc p c U < 2 ^ c := tb_lt (fun i hi => by
  cases q : (xc p c U).testBit i
  · rfl
  · have := (tb_xc.mp q).1; omega)
theorem xs_xc {p : Nat → Nat} {c U : Nat} (h : ∀ i, U.testBit i = true → ∃ n, n < c ∧ p n = i) : xs p c (xc p c U) = U := eq_tb (fun i => by
  rw [tb_xs]
  constructor
  · rintro ⟨n, n1, n2, n3⟩
    have := (tb_xc.mp n2).2
    rw [n3] at this; exact this
  · intro q
    obtain ⟨n, n1, n2⟩ := h i q
    exact ⟨n, n1, tb_xc.mpr ⟨n1, by rw [n2]; exact q⟩, n2⟩)
theorem rk_cong {w : Nat → Int} {S U : Nat} : ∀ {n : Nat}, (∀ i, i < n → S.testBit i = U.testBit i) → rk w n S = rk w n U
  | 0, _ => rfl
  | n + 1, h => by simp only [rk]; rw [rk_cong (fun i hi => h i (by omega)), h n (by omega)]
theorem rk_one {w : Nat → Int} {i : Nat} : ∀ {n : Nat}, i < n → rk w n (2 ^ i) = w i
  | n + 1, h => by
    simp only [rk, tb_pow]
    by_cases e : i = n
    · subst e
      have : rk w i (2 ^ i) = rk w i 0 := rk_cong (fun j hj => by rw [tb_pow, Nat.zero_testBit]; exact decide_eq_false (by omega))
      rw [this, rk_0]; simp
    · rw [rk_one (by omega)]; simp [e]
theorem rk_xs {w : Nat → Int} {p : Nat → Nat} {M S : Nat} : ∀ {c : Nat}, inc p c → (∀ n, n < c → p n < M) → rk w M (xs p c S) = rk (fun n => w (p n)) c S
  | 0, _, _ => by simp [xs, rk, rk_0]
  | c + 1, h, hM => by
    have ih := rk_xs (w := w) (M := M) (S := S) (c := c) (fun n m h1 h2 => h n m h1 (by omega)) (fun n hn => hM n (by omega))
    simp only [xs, rk]
    split
    · rw [← ih, rk_add (S := xs p c S) (U := 2 ^ p c) (fun i => by rw [Nat.testBit_or, Bool.or_eq_true]) (fun i h1 h2 => ?_) M, rk_one (hM c (by omega))]
      rw [tb_pow] at h2
      have := of_decide_eq_true h2
      obtain ⟨n, n1, n2, n3⟩ := tb_xs.mp h1
      have := h n c n1 (by omega)
      omega
    · rw [ih]; omega
/-! what is picked -/
def w_pc (T : ev_S) (N : Nat) (r : Nat → Int) : Nat → Nat
  | 0 => 0
  | n + 1 => if m_sees T N r n = -1 then w_pc T N r n else w_pc T N r n + 1
def w_pp (T : ev_S) (N : Nat) (r : Nat → Int) : Nat → Nat → Nat
  | 0, _ => 0
  | n + 1, k => if m_sees T N r n = -1 then w_pp T N r n k else if k = w_pc T N r n then n else w_pp T N r n k
theorem w_pc_le {T : ev_S} {N : Nat} {r : Nat → Int} : ∀ n, w_pc T N r n ≤ n
  | 0 => Nat.le_refl _
  | n + 1 => by have := w_pc_le (T := T) (N := N) (r := r) n; simp only [w_pc]; split <;> omega
theorem w_pp_ok {T : ev_S} {N : Nat} {r : Nat → Int} : ∀ n, (∀ k, k < w_pc T N r n → w_pp T N r n k < n ∧ m_sees T N r (w_pp T N r n k) ≠ -1) ∧ inc (w_pp T N r n) (w_pc T N r n) ∧ ∀ i, i < n → m_sees T N r i ≠ -1 → ∃ k, k < w_pc T N r n ∧ w_pp T N r n k = i
  | 0 => ⟨fun k hk => absurd hk (by simp [w_pc]), fun n m h1 h2 => absurd h2 (by simp [w_pc]), fun i hi => absurd hi (by omega)⟩
  | n + 1 => by
    obtain ⟨i1, i2, i3⟩ := w_pp_ok (T := T) (N := N) (r := r) n
    by_cases c : m_sees T N r n = -1
    · have e1 : w_pc T N r (n + 1) = w_pc T N r n := by simp only [w_pc]; rw [if_pos c]
      have e2 : w_pp T N r (n + 1) = w_pp T N r n := by funext k; simp only [w_pp]; rw [if_pos c]
      rw [e1, e2]
      refine ⟨fun k hk => ⟨by have := (i1 k hk).1; omega, (i1 k hk).2⟩, i2, fun i hi h => ?_⟩
      by_cases e : i = n
      · subst e; exact absurd c h
      · exact i3 i (by omega) h
    · have e1 : w_pc T N r (n + 1) = w_pc T N r n + 1 := by simp only [w_pc]; rw [if_neg c]
      have e2 : ∀ k, w_pp T N r (n + 1) k = if k = w_pc T N r n then n else w_pp T N r n k := fun k => by simp only [w_pp]; rw [if_neg c]
      rw [e1]
      refine ⟨fun k hk => ?_, fun k m h1 h2 => ?_, fun i hi h => ?_⟩
      · rw [e2]
        by_cases e : k = w_pc T N r n
        · rw [if_pos e]; exact ⟨by omega, c⟩
        · rw [if_neg e]; exact ⟨by have := (i1 k (by omega)).1; omega, (i1 k (by omega)).2⟩
      · rw [e2, e2, if_neg (by omega)]
        by_cases e : m = w_pc T N r n
        · rw [if_pos e]; exact (i1 k (by omega)).1
        · rw [if_neg e]; exact i2 k m h1 (by omega)
      · by_cases e : i = n
        · exact ⟨w_pc T N r n, by omega, by rw [e2, if_pos rfl, e]⟩
        · obtain ⟨k, k1, k2⟩ := i3 i (by omega) h
          exact ⟨k, by omega, by rw [e2, if_neg (by omega)]; exact k2⟩
