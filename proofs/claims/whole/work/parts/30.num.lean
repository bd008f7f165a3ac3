/-! numbers -/
theorem ev_ofadd (x y : Int) : Int32.ofInt x + Int32.ofInt y = Int32.ofInt (x + y) := (Int32.ofInt_add x y).symm
theorem ev_ofsub (x y : Int) : Int32.ofInt x - Int32.ofInt y = Int32.ofInt (x - y) := (Int32.ofInt_sub x y).symm
theorem ev_ofmul (x y : Int) : Int32.ofInt x * Int32.ofInt y = Int32.ofInt (x * y) := (Int32.ofInt_mul x y).symm
theorem ev_add_eq {x y : Int} (h : -2147483648 ≤ x + y ∧ x + y ≤ 2147483647) : ev_add x y = x + y := by
  unfold ev_add; rw [ev_ofadd]; exact ev_to h
theorem ev_sub_eq {x y : Int} (h : -2147483648 ≤ x - y ∧ x - y ≤ 2147483647) : ev_sub x y = x - y := by
  unfold ev_sub; rw [ev_ofsub]; exact ev_to h
theorem ev_mul_eq {x y : Int} (h : -2147483648 ≤ x * y ∧ x * y ≤ 2147483647) : ev_mul x y = x * y := by
  unfold ev_mul; rw [ev_ofmul]; exact ev_to h
theorem ev_neg_eq {x : Int} (h : -2147483647 ≤ x ∧ x ≤ 2147483647) : ev_neg x = -x := by
  unfold ev_neg; rw [← Int32.ofInt_neg]; exact ev_to ⟨by omega, by omega⟩
theorem ev_nI {n : Nat} : Int32.ofInt (n : Int) = nI n := Int32.ofInt_eq_ofNat
theorem ev_nIt {n : Nat} (h : n < 2147483648) : (nI n).toInt = (n : Int) := nI_toInt h
theorem ev_div_eq {x y : Int} (hx : 0 ≤ x ∧ x ≤ 2147483647) (hy : 0 < y ∧ y ≤ 2147483647) : ev_div x y = x / y := by
  obtain ⟨a, rfl⟩ := Int.eq_ofNat_of_zero_le hx.1
  obtain ⟨b, rfl⟩ := Int.eq_ofNat_of_zero_le (Int.le_of_lt hy.1)
  unfold ev_div
  have hb : 0 < b := by omega
  have hq : a / b < 2 ^ 31 := Nat.lt_of_le_of_lt (Nat.div_le_self a b) (by omega)
  rw [ev_nI, ev_nI, pk_div (by omega) hb (by omega), ev_nIt hq]
  exact (Int.natCast_ediv a b)
theorem ev_rem_eq {x y : Int} (hx : 0 ≤ x ∧ x ≤ 2147483647) (hy : 0 < y ∧ y ≤ 2147483647) : ev_rem x y = x % y := by
  obtain ⟨a, rfl⟩ := Int.eq_ofNat_of_zero_le hx.1
  obtain ⟨b, rfl⟩ := Int.eq_ofNat_of_zero_le (Int.le_of_lt hy.1)
  unfold ev_rem
  have hb : 0 < b := by omega
  have hq : a % b < 2 ^ 31 := Nat.lt_of_le_of_lt (Nat.mod_le a b) (by omega)
  rw [ev_nI, ev_nI, pk_rem (by omega) hb (by omega), ev_nIt hq]
  exact (Int.natCast_emod a b)
theorem ev_and_nat {a b : Nat} (ha : a < 2147483648) (hb : b < 2147483648) : ev_and (a : Int) (b : Int) = ((a &&& b : Nat) : Int) := by
  unfold ev_and
  have e : nI a &&& nI b = nI (a &&& b) := by
    apply Int32.toBitVec_inj.mp
    simp [nI, Int32.toBitVec_and]
  rw [ev_nI, ev_nI, e]
  exact ev_nIt (Nat.lt_of_le_of_lt Nat.and_le_left ha)
theorem ev_or_nat {a b : Nat} (ha : a < 2147483648) (hb : b < 2147483648) : ev_or (a : Int) (b : Int) = ((a ||| b : Nat) : Int) := by
  unfold ev_or
  have e : nI a ||| nI b = nI (a ||| b) := by
    apply Int32.toBitVec_inj.mp
    simp [nI, Int32.toBitVec_or]
  rw [ev_nI, ev_nI, e]
  exact ev_nIt (Nat.or_lt_two_pow (n := 31) ha hb)
/-- lists of cells: one cell put anew -/
def ev_set (σ : ev_S) (k : Nat) (r : Nat → Int) : ev_S := fun a => if a = k then r else σ a
def rup (r : Nat → Int) (i : Nat) (z : Int) : Nat → Int := fun j => if j = i then z else r j
theorem ev_set_same (σ : ev_S) (k : Nat) (r : Nat → Int) : ev_set σ k r k = r := by simp [ev_set]
theorem ev_set_ne (σ : ev_S) {k a : Nat} (r : Nat → Int) (h : a ≠ k) : ev_set σ k r a = σ a := by simp [ev_set, h]
theorem ev_up_set (σ : ev_S) (k i : Nat) (z : Int) : ev_up σ k i z = ev_set σ k (rup (σ k) i z) := by
  funext a b
  by_cases h : a = k
  · subst h; simp [ev_up, ev_set, rup]
  · simp [ev_up, ev_set, h]
theorem ev_set_set (σ : ev_S) (k : Nat) (r r' : Nat → Int) : ev_set (ev_set σ k r) k r' = ev_set σ k r' := by
  funext a; by_cases h : a = k <;> simp [ev_set, h]
theorem ev_set_comm (σ : ev_S) {k j : Nat} (h : k ≠ j) (r r' : Nat → Int) : ev_set (ev_set σ k r) j r' = ev_set (ev_set σ j r') k r := by
  funext a
  by_cases h1 : a = k
  · subst h1; simp [ev_set, h]
  · by_cases h2 : a = j
    · subst h2; simp [ev_set, h1]
    · simp [ev_set, h1, h2]
theorem ev_set_self (σ : ev_S) (k : Nat) : ev_set σ k (σ k) = σ := by
  funext a; by_cases h : a = k <;> simp [ev_set, h]
theorem rup_same (r : Nat → Int) (i : Nat) (z : Int) : rup r i z i = z := by simp [rup]
theorem rup_ne (r : Nat → Int) {i j : Nat} (z : Int) (h : j ≠ i) : rup r i z j = r j := by simp [rup, h]
theorem rup_rup (r : Nat → Int) (i : Nat) (z y : Int) : rup (rup r i z) i y = rup r i y := by
  funext j; by_cases h : j = i <;> simp [rup, h]
theorem Ev_cong {Y : List ev_C} {M : ev_M} {d pc : Nat} {l : List (Nat × ev_V)} {st : List ev_V} {σ σ' : ev_S} {Q : Option ev_V → ev_S → Prop} (e : σ = σ') (k : Ev Y M d pc l st σ' Q) : Ev Y M d pc l st σ Q := e ▸ k
/-- a loop that counts up: at its head pc with counter i and state F i, till i is n -/
theorem ev_count {P : Int → Prop} (n : Int) (step : ∀ i : Int, i < n → P (i + 1) → P i) (done : P n) : ∀ i : Int, i ≤ n → P i := by
  intro i hi
  obtain ⟨k, hk⟩ := Int.eq_ofNat_of_zero_le (Int.sub_nonneg_of_le hi)
  induction k generalizing i with
  | zero => have : i = n := by omega
            rw [this]; exact done
  | succ k ih => exact step i (by omega) (ih (i + 1) (by omega) (by omega))
theorem ev_mdef : ∀ {a b : Int}, (¬ a < b) ↔ b ≤ a := Int.not_lt
theorem Ev_d {Y : List ev_C} {M : ev_M} {d d' pc : Nat} {l : List (Nat × ev_V)} {st : List ev_V} {σ : ev_S} {Q : Option ev_V → ev_S → Prop} (e : d = d') (k : Ev Y M d pc l st σ Q) : Ev Y M d' pc l st σ Q := e ▸ k
/-! small methods of the model -/
theorem sp_isIn {d : Nat} {s : ev_S} {Q : Option ev_V → ev_S → Prop} {a1 a2 a3 : Int} (h : Q (some (ev_i (if a2 ≤ a1 ∧ a1 ≤ a3 then 1 else 0))) s) : Ev layM M_X12_isIn d 0 [(0, ev_r 0), (1, ev_i a1), (2, ev_i a2), (3, ev_i a3)] [] s Q := by
  refine wp_X12_isIn_0 ⟨fun c => ?_, fun c => ⟨fun c2 => ?_, fun c2 => ?_⟩⟩
  · rw [if_neg (by omega)] at h; exact h
  · rw [if_neg (by omega)] at h; exact h
  · rw [if_pos ⟨c, c2⟩] at h; exact h
theorem sp_without {d : Nat} {s : ev_S} {Q : Option ev_V → ev_S → Prop} {a1 : Int} (ha : -2147483647 ≤ a1 ∧ a1 ≤ 2147483647) (h : Q (some (ev_i (a1.natAbs : Int))) s) : Ev layM M_X12_without d 0 [(0, ev_r 0), (1, ev_i a1)] [] s Q := by
  refine wp_X12_without_0 ⟨fun c => ?_, fun c => ?_⟩
  · have e : (a1.natAbs : Int) = a1 := by omega
    rw [e] at h; exact h
  · rw [ev_neg_eq ha]
    have e : (a1.natAbs : Int) = -a1 := by omega
    rw [e] at h; exact h
theorem sp_greater {d : Nat} {s : ev_S} {Q : Option ev_V → ev_S → Prop} {a1 a2 : Int} (h : Q (some (ev_i (max a1 a2))) s) : Ev layM M_X12_greater d 0 [(0, ev_r 0), (1, ev_i a1), (2, ev_i a2)] [] s Q := by
  refine wp_X12_greater_0 ⟨fun c => ?_, fun c => ?_⟩
  · rw [Int.max_eq_right (by omega)] at h; exact h
  · rw [Int.max_eq_left (by omega)] at h; exact h
theorem sp_isPlace {d : Nat} {s : ev_S} {Q : Option ev_V → ev_S → Prop} {a1 : Int} (ha : a1 ≤ 2147483647) (hw : -8 ≤ s 0 6 ∧ s 0 6 ≤ 0) (hh : -8 ≤ s 0 7 ∧ s 0 7 ≤ 0) (h : Q (some (ev_i (if 0 ≤ a1 ∧ a1 % 8 < s 0 6 + 8 ∧ a1 / 8 < s 0 7 + 8 then 1 else 0))) s) : Ev layM M_X12_isPlace d 0 [(0, ev_r 0), (1, ev_i a1)] [] s Q := by
  refine wp_X12_isPlace_0 ⟨fun c => ?_, fun c => ?_⟩
  · rw [if_neg (by omega)] at h; exact h
  · rw [ev_rem_eq ⟨c, ha⟩ ⟨by omega, by omega⟩, ev_add_eq ⟨by omega, by omega⟩]
    refine ⟨fun c2 => ?_, fun c2 => ?_⟩
    · rw [if_neg (by omega)] at h; exact h
    · rw [ev_div_eq ⟨c, ha⟩ ⟨by omega, by omega⟩, ev_add_eq ⟨by omega, by omega⟩]
      refine ⟨fun c3 => ?_, fun c3 => ?_⟩
      · rw [if_neg (by omega)] at h; exact h
      · rw [if_pos ⟨c, c2, c3⟩] at h; exact h
theorem sp_isWard {d : Nat} {s : ev_S} {Q : Option ev_V → ev_S → Prop} {a1 : Int} (h : Q (some (ev_i (if 0 ≤ a1 ∧ a1 < s 0 10 then 1 else 0))) s) : Ev layM M_X12_isWard d 0 [(0, ev_r 0), (1, ev_i a1)] [] s Q := by
  refine wp_X12_isWard_0 ⟨fun c => ?_, fun c => ⟨fun c2 => ?_, fun c2 => ?_⟩⟩
  · rw [if_neg (by omega)] at h; exact h
  · rw [if_neg (by omega)] at h; exact h
  · rw [if_pos ⟨c, c2⟩] at h; exact h
theorem sp_isAngel {d : Nat} {s : ev_S} {Q : Option ev_V → ev_S → Prop} {a1 : Int} (h : Q (some (ev_i (if 0 ≤ a1 ∧ a1 < s 0 11 then 1 else 0))) s) : Ev layM M_X12_isAngel d 0 [(0, ev_r 0), (1, ev_i a1)] [] s Q := by
  refine wp_X12_isAngel_0 ⟨fun c => ?_, fun c => ⟨fun c2 => ?_, fun c2 => ?_⟩⟩
  · rw [if_neg (by omega)] at h; exact h
  · rw [if_neg (by omega)] at h; exact h
  · rw [if_pos ⟨c, c2⟩] at h; exact h
