section
/-! long numbers -/
theorem ev_lmul_eq {x y : Int} (h : ev_RL (x * y)) : ev_lmul x y = x * y := by
  unfold ev_lmul; rw [← Int64.ofInt_mul]; exact ev_to64 h
theorem ev_ladd_eq {x y : Int} (h : ev_RL (x + y)) : ev_ladd x y = x + y := by
  unfold ev_ladd; rw [← Int64.ofInt_add]; exact ev_to64 h
theorem ev_ldivB {x y : Int} (hx : 0 ≤ x ∧ x ≤ 9223372036854775807) (hy : 0 < y ∧ y ≤ 9223372036854775807) : (Int64.ofInt x / Int64.ofInt y).toInt = x / y := by
  have h1 : 0 ≤ x / y := Int.ediv_nonneg hx.1 (by omega)
  have h2 : x / y ≤ x := Int.ediv_le_self _ hx.1
  rw [Int64.toInt_div, ev_to64 ⟨by omega, hx.2⟩, ev_to64 ⟨by omega, hy.2⟩, Int.tdiv_eq_ediv_of_nonneg hx.1]
  exact Int.bmod_eq_of_le (by omega) (by omega)
theorem ev_ldiv_eq {x y : Int} (hx : 0 ≤ x ∧ x ≤ 9223372036854775807) (hy : 0 < y ∧ y ≤ 9223372036854775807) : ev_ldiv x y = x / y := ev_ldivB hx hy
theorem ev_lrem_eq {x y : Int} (hx : 0 ≤ x ∧ x ≤ 9223372036854775807) (hy : 0 < y ∧ y ≤ 9223372036854775807) : ev_lrem x y = x % y := by
  unfold ev_lrem
  have e : Int64.ofInt x / Int64.ofInt y = Int64.ofInt (x / y) := by rw [← ev_ldivB hx hy, ev_of64]
  have h1 : 0 ≤ x % y := Int.emod_nonneg _ (by omega)
  have h2 : x % y < y := Int.emod_lt_of_pos _ hy.1
  have e2 : x - x / y * y = x % y := by
    have := Int.emod_def x y
    rw [this, Int.mul_comm]
  rw [e, ← Int64.ofInt_mul, ← Int64.ofInt_sub, e2]
  exact ev_to64 ⟨by omega, by omega⟩
theorem ev_lcmp_eq {x y : Int} (hx : ev_RL x) (hy : ev_RL y) : ev_lcmp x y = if y < x then 1 else if x = y then 0 else -1 := by
  unfold ev_lcmp lg_cmp
  have h1 : (Int64.ofInt x > Int64.ofInt y) ↔ y < x := by
    show Int64.ofInt y < Int64.ofInt x ↔ _
    rw [Int64.lt_iff_toInt_lt, ev_to64 hx, ev_to64 hy]
  have h2 : (Int64.ofInt x = Int64.ofInt y) ↔ x = y := by
    rw [← Int64.toInt_inj, ev_to64 hx, ev_to64 hy]
  by_cases c1 : y < x
  · rw [if_pos (h1.mpr c1), if_pos c1]; rfl
  · rw [if_neg (fun q => c1 (h1.mp q)), if_neg c1]
    by_cases c2 : x = y
    · rw [if_pos (h2.mpr c2), if_pos c2]; rfl
    · rw [if_neg (fun q => c2 (h2.mp q)), if_neg c2]; rfl
/-! the common part -/
theorem gcd_step {x y : Nat} (hy : 0 < y) : Nat.gcd x y = Nat.gcd y (x % y) := by
  rw [Nat.gcd_comm x y, Nat.gcd_rec, Nat.gcd_comm]
theorem half_mod {y r k : Nat} (hr : 0 < r) (h : r < y) (hk : y < 2 ^ (k + 1)) : y % r < 2 ^ k := by
  have h1 : y % r < r := Nat.mod_lt _ hr
  have h2 : r ≤ y := by omega
  have h3 : y % r + r ≤ y := by
    have := Nat.mod_add_div y r
    have h4 : 1 ≤ y / r := Nat.div_pos h2 hr
    have h5 : r * 1 ≤ r * (y / r) := Nat.mul_le_mul_left r h4
    omega
  have : 2 ^ (k + 1) = 2 * 2 ^ k := by rw [Nat.pow_succ]; omega
  omega
theorem sp_partOf {d : Nat} {s : ev_S} {Q : Option ev_V → ev_S → Prop} : ∀ (n x y : Nat), y ≤ n → x < 2 ^ 62 → y < 2 ^ 62 → Q (some (ev_l ((Nat.gcd x y : Nat) : Int))) s → Ev layM M_X12_partOf d 6 [(5, ev_l (x : Int)), (7, ev_l (y : Int))] [] s Q := by
  intro n
  induction n with
  | zero =>
    intro x y hy hx hy2 h
    have : y = 0 := by omega
    subst this
    refine wp_X12_partOf_6 ⟨fun _ => ?_, fun q => absurd (ev_lcmp_eq (x := 0) (y := 0) ⟨by omega, by omega⟩ ⟨by omega, by omega⟩) q⟩
    rw [Nat.gcd_zero_right] at h; exact h
  | succ n ih =>
    intro x y hy hx hy2 h
    refine wp_X12_partOf_6 ?_
    rw [ev_lcmp_eq ⟨by omega, by omega⟩ ⟨by omega, by omega⟩]
    by_cases c : y = 0
    · subst c
      refine ⟨fun _ => ?_, fun q => absurd rfl q⟩
      rw [Nat.gcd_zero_right] at h; exact h
    · rw [if_pos (by omega)]
      refine ⟨fun q => absurd q (by omega), fun _ => ⟨by omega, ?_⟩⟩
      rw [ev_lrem_eq ⟨by omega, by omega⟩ ⟨by omega, by omega⟩, ← Int.natCast_emod]
      have hm : x % y < y := Nat.mod_lt _ (by omega)
      exact ih y (x % y) (by omega) hy2 (by omega) (by rw [← gcd_step (by omega)]; exact h)
theorem sp_commonPart {d : Nat} {s : ev_S} {Q : Option ev_V → ev_S → Prop} : ∀ (k x y c : Nat), c + 2 * k ≤ 198 → x < 2 ^ 62 → y < 2 ^ 62 → y < 2 ^ k → Q (some (ev_l ((Nat.gcd x y : Nat) : Int))) s → Ev layX M_X11_commonPart d 9 [(4, ev_l (x : Int)), (6, ev_l (y : Int)), (8, ev_i (c : Int))] [] s Q := by
  have fin : ∀ (x c : Nat), c < 200 → Q (some (ev_l ((Nat.gcd x 0 : Nat) : Int))) s → Ev layX M_X11_commonPart d 9 [(4, ev_l (x : Int)), (6, ev_l ((0 : Nat) : Int)), (8, ev_i (c : Int))] [] s Q := by
    intro x c hc h
    rw [Nat.gcd_zero_right] at h
    refine wp_X11_commonPart_9 ⟨fun q => absurd q (by omega), fun _ => ⟨fun _ => h, fun q => absurd (ev_lcmp_eq (x := 0) (y := 0) ⟨by omega, by omega⟩ ⟨by omega, by omega⟩) q⟩⟩
  have step : ∀ (x y c : Nat), c < 200 → 0 < y → x < 2 ^ 62 → y < 2 ^ 62 → Ev layX M_X11_commonPart d 9 [(4, ev_l (y : Int)), (6, ev_l ((x % y : Nat) : Int)), (8, ev_i ((c + 1 : Nat) : Int))] [] s Q → Ev layX M_X11_commonPart d 9 [(4, ev_l (x : Int)), (6, ev_l (y : Int)), (8, ev_i (c : Int))] [] s Q := by
    intro x y c hc hy hx hy2 k
    refine wp_X11_commonPart_9 ⟨fun q => absurd q (by omega), fun _ => ?_⟩
    rw [ev_lcmp_eq ⟨by omega, by omega⟩ ⟨by omega, by omega⟩, if_pos (by omega)]
    refine ⟨fun q => absurd q (by omega), fun _ => ⟨by omega, ?_⟩⟩
    rw [ev_lrem_eq ⟨by omega, by omega⟩ ⟨by omega, by omega⟩, ← Int.natCast_emod, ev_add_eq ⟨by omega, by omega⟩]
    exact k
  intro k
  induction k with
  | zero =>
    intro x y c hc hx hy hk h
    have : y = 0 := by omega
    subst this
    exact fin x c (by omega) h
  | succ k ih =>
    intro x y c hc hx hy hk h
    by_cases c0 : y = 0
    · subst c0; exact fin x c (by omega) h
    · have hm : x % y < y := Nat.mod_lt _ (by omega)
      refine step x y c (by omega) (by omega) hx hy ?_
      rw [gcd_step (by omega)] at h
      by_cases c1 : x % y = 0
      · rw [c1] at h ⊢
        exact fin y (c + 1) (by omega) h
      · refine step y (x % y) (c + 1) (by omega) (by omega) hy (by omega) ?_
        have hm2 : y % (x % y) < x % y := Nat.mod_lt _ (by omega)
        rw [gcd_step (by omega)] at h
        exact ih (x % y) (y % (x % y)) (c + 2) (by omega) (by omega) (by omega) (half_mod (by omega) hm hk) h
/-! the lot: the pure side -/
def lst (h : Int) (z : Int × Int × Nat) : Int × Int × Nat := if z.2.2 = 0 ∨ ((z.2.2 : Int) - 1) * z.2.1 < h * z.1 then (z.1 * h + z.2.1, z.2.1 * h, z.2.2 + 1) else z
def lfo (f : Nat → Int) : Nat → Int × Int × Nat
  | 0 => (0, 1, 0)
  | n + 1 => lst (f n) (lfo f n)
def hun : Nat → Int
  | 0 => 1
  | n + 1 => hun n * 100
theorem hun_le : ∀ n, n ≤ 6 → 1 ≤ hun n ∧ hun n ≤ 1000000000000 := by decide
theorem hun_pos : ∀ n, 1 ≤ hun n
  | 0 => by decide
  | n + 1 => by have := hun_pos n; simp only [hun]; omega
def lok (z : Int × Int × Nat) : Prop := (0 ≤ z.1 ∧ z.1 ≤ hun z.2.2) ∧ (1 ≤ z.2.1 ∧ z.2.1 ≤ hun z.2.2) ∧ (1 ≤ z.2.2 → 1 ≤ z.1)
theorem mul_b {a h X : Int} (ha : 0 ≤ a ∧ a ≤ X) (hh : 1 ≤ h ∧ h ≤ 99) : 0 ≤ a * h ∧ a * h ≤ X * 99 :=
  ⟨Int.mul_nonneg ha.1 (by omega), Int.mul_le_mul ha.2 hh.2 (by omega) (by omega)⟩
theorem lst_ok {h : Int} {z : Int × Int × Nat} (hh : 1 ≤ h ∧ h ≤ 99) (hz : lok z) : lok (lst h z) ∧ (lst h z).2.2 ≤ z.2.2 + 1 ∧ 1 ≤ (lst h z).2.2 := by
  obtain ⟨h1, h2, h3⟩ := hz
  unfold lst
  by_cases c : z.2.2 = 0 ∨ ((z.2.2 : Int) - 1) * z.2.1 < h * z.1
  · rw [if_pos c]
    have a1 := mul_b h1 hh
    have a2 := mul_b (a := z.2.1) ⟨by omega, h2.2⟩ hh
    have a3 : z.2.1 * 1 ≤ z.2.1 * h := Int.mul_le_mul_of_nonneg_left hh.1 (by omega)
    have hp := hun_pos z.2.2
    refine ⟨⟨⟨?_, ?_⟩, ⟨?_, ?_⟩, fun _ => ?_⟩, Nat.le_refl _, Nat.succ_le_succ (Nat.zero_le _)⟩ <;> simp only [hun] <;> omega
  · rw [if_neg c]
    refine ⟨⟨h1, h2, h3⟩, by omega, ?_⟩
    have : z.2.2 ≠ 0 := fun q => c (Or.inl q)
    omega
theorem lfo_ok {f : Nat → Int} : ∀ n, (∀ j, j < n → 1 ≤ f j ∧ f j ≤ 99) → lok (lfo f n) ∧ (lfo f n).2.2 ≤ n ∧ (1 ≤ n → 1 ≤ (lfo f n).2.2)
  | 0, _ => ⟨⟨⟨Int.le_refl 0, (by show (0 : Int) ≤ hun 0; decide)⟩, ⟨Int.le_refl 1, (by show (1 : Int) ≤ hun 0; decide)⟩, fun q => absurd q (by show ¬ (1 ≤ 0); decide)⟩, Nat.le_refl _, fun q => absurd q (by omega)⟩
  | n + 1, h => by
    obtain ⟨a, b, -⟩ := lfo_ok (f := f) n (fun j hj => h j (by omega))
    obtain ⟨c, e, g⟩ := lst_ok (h n (by omega)) a
    simp only [lfo]
    exact ⟨c, by omega, fun _ => g⟩
def srt (f : Nat → Int) (n : Nat) : Prop := (∀ j, j + 1 < n → f (j + 1) ≤ f j) ∧ ∀ j, j < n → 1 ≤ f j ∧ f j ≤ 99
theorem srt_le {f : Nat → Int} {n : Nat} (h : srt f n) (i : Nat) : ∀ m, i + m < n → f (i + m) ≤ f i
  | 0, _ => Int.le_refl _
  | m + 1, hm => by
    have := srt_le h i m (by omega)
    have h2 := h.1 (i + m) (by omega)
    rw [show i + (m + 1) = i + m + 1 by omega]
    omega
/-- once one is too small all behind it are -/
theorem lfo_stop {f : Nat → Int} {n t : Nat} (hs : srt f n) (ht : (lfo f t).2.2 ≠ 0) (hn : t < n) (hc : ¬ ((((lfo f t).2.2 : Int) - 1) * (lfo f t).2.1 < f t * (lfo f t).1)) : ∀ m, t + m ≤ n → lfo f (t + m) = lfo f t
  | 0, _ => rfl
  | m + 1, hm => by
    have ih := lfo_stop hs ht hn hc m (by omega)
    rw [show t + (m + 1) = t + m + 1 by omega]
    simp only [lfo]
    rw [ih]
    unfold lst
    have h1 := srt_le hs t m (by omega)
    have ok := (lfo_ok (f := f) t (fun j hj => hs.2 j (by omega))).1
    have h2 : f (t + m) * (lfo f t).1 ≤ f t * (lfo f t).1 := Int.mul_le_mul_of_nonneg_right h1 ok.1.1
    rw [if_neg]
    rintro (q | q)
    · exact ht q
    · omega
def cn (f : Nat → Int) (h : Int) : Nat → Nat
  | 0 => 0
  | n + 1 => cn f h n + (if f n = h then 1 else 0)
theorem cn_same {f : Nat → Int} {h : Int} (p : Nat) : ∀ m, (∀ j, p ≤ j → j < p + m → f j ≠ h) → cn f h (p + m) = cn f h p
  | 0, _ => rfl
  | m + 1, hm => by
    rw [show p + (m + 1) = p + m + 1 by omega]
    simp only [cn]
    rw [cn_same p m (fun j a b => hm j a (by omega)), if_neg (hm (p + m) (by omega) (by omega))]
    omega
theorem cn_run {f : Nat → Int} {h : Int} (p : Nat) : ∀ m, (∀ j, p ≤ j → j < p + m → f j = h) → cn f h (p + m) = cn f h p + m
  | 0, _ => rfl
  | m + 1, hm => by
    rw [show p + (m + 1) = p + m + 1 by omega]
    simp only [cn]
    rw [cn_run p m (fun j a b => hm j a (by omega)), if_pos (hm (p + m) (by omega) (by omega))]
    omega
theorem srt_run {f : Nat → Int} {n : Nat} {h : Int} (hs : srt f n) : ∀ k p, p + k = n → (∀ j, p ≤ j → j < n → f j ≤ h) → ∃ p', p ≤ p' ∧ p' ≤ n ∧ (∀ j, p ≤ j → j < p' → f j = h) ∧ (∀ j, p' ≤ j → j < n → f j < h)
  | 0, p, hp, _ => ⟨p, Nat.le_refl _, by omega, fun j a b => absurd a (by omega), fun j a b => absurd a (by omega)⟩
  | k + 1, p, hp, hj => by
    by_cases c : f p = h
    · obtain ⟨p', a, b, e, g⟩ := srt_run hs k (p + 1) (by omega) (fun j q1 q2 => hj j (by omega) q2)
      refine ⟨p', by omega, b, fun j q1 q2 => ?_, g⟩
      by_cases c2 : j = p
      · rw [c2]; exact c
      · exact e j (by omega) q2
    · refine ⟨p, Nat.le_refl _, by omega, fun j a b => absurd a (by omega), fun j a b => ?_⟩
      obtain ⟨m, rfl⟩ : ∃ m, j = p + m := ⟨j - p, by omega⟩
      have h1 := srt_le hs p m b
      have h2 := hj p (Nat.le_refl _) (by omega)
      omega
theorem srt_cn {f : Nat → Int} {n p : Nat} {h : Int} (hs : srt f n) (hp : p ≤ n) (h1 : ∀ j, j < p → h < f j) (h2 : ∀ j, p ≤ j → j < n → f j ≤ h) : p + cn f h n ≤ n ∧ (∀ j, p ≤ j → j < p + cn f h n → f j = h) ∧ (∀ j, p + cn f h n ≤ j → j < n → f j < h) := by
  obtain ⟨p', a, b, e, g⟩ := srt_run hs (n - p) p (by omega) h2
  have k1 : cn f h p = 0 := by
    have := cn_same (f := f) (h := h) 0 p (fun j _ hj => by have := h1 j (by omega); omega)
    rw [Nat.zero_add] at this; exact this
  have k2 := cn_run (f := f) (h := h) p (p' - p) (fun j q1 q2 => e j q1 (by omega))
  rw [show p + (p' - p) = p' by omega, k1] at k2
  have k3 := cn_same (f := f) (h := h) p' (n - p') (fun j q1 q2 => by have := g j q1 (by omega); omega)
  rw [show p' + (n - p') = n by omega] at k3
  have e2 : p + cn f h n = p' := by omega
  rw [e2]
  exact ⟨b, e, g⟩
/-- one put among the others -/
def insF (f : Nat → Int) (h : Int) (k n : Nat) : Nat → Int := fun j => if j = k then h else if k < j ∧ j ≤ n then f (j - 1) else f j
theorem ins_ok {f : Nat → Int} {h : Int} {k n : Nat} (hs : srt f n) (hk : k ≤ n) (hh : 1 ≤ h ∧ h ≤ 99) (h1 : ∀ j, k ≤ j → j < n → f j < h) (h2 : k = 0 ∨ h ≤ f (k - 1)) : srt (insF f h k n) (n + 1) ∧ ∀ x, cn (insF f h k n) x (n + 1) = cn f x n + (if h = x then 1 else 0) := by
  have v1 : ∀ j, j < k → insF f h k n j = f j := fun j hj => by unfold insF; rw [if_neg (by omega), if_neg (by omega)]
  have v2 : insF f h k n k = h := by unfold insF; rw [if_pos rfl]
  have v3 : ∀ j, k ≤ j → j < n → insF f h k n (j + 1) = f j := fun j a b => by unfold insF; rw [if_neg (by omega), if_pos (by omega)]; rfl
  refine ⟨⟨fun j hj => ?_, fun j hj => ?_⟩, fun x => ?_⟩
  · by_cases c1 : j + 1 < k
    · rw [v1 _ c1, v1 j (by omega)]; exact hs.1 j (by omega)
    · by_cases c2 : j + 1 = k
      · rw [c2, v2, v1 j (by omega)]
        rcases h2 with q | q
        · omega
        · rw [show k - 1 = j by omega] at q; exact q
      · rw [v3 j (by omega) (by omega)]
        by_cases c3 : j = k
        · rw [c3, v2]; have := h1 k (Nat.le_refl _) (by omega); omega
        · obtain ⟨i, rfl⟩ : ∃ i, j = i + 1 := ⟨j - 1, by omega⟩
          rw [v3 i (by omega) (by omega)]; exact hs.1 i (by omega)
  · by_cases c1 : j < k
    · rw [v1 j c1]; exact hs.2 j (by omega)
    · by_cases c2 : j = k
      · rw [c2, v2]; exact hh
      · obtain ⟨i, rfl⟩ : ∃ i, j = i + 1 := ⟨j - 1, by omega⟩
        rw [v3 i (by omega) (by omega)]; exact hs.2 i (by omega)
  · have w1 : ∀ m, m ≤ k → cn (insF f h k n) x m = cn f x m := by
      intro m
      induction m with
      | zero => intro _; rfl
      | succ m ih => intro hm; simp only [cn]; rw [ih (by omega), v1 m (by omega)]
    have w2 : ∀ m, k + m ≤ n → cn (insF f h k n) x (k + m + 1) = cn f x (k + m) + (if h = x then 1 else 0) := by
      intro m
      induction m with
      | zero => intro _; simp only [cn, Nat.add_zero]; rw [w1 k (Nat.le_refl _), v2]
      | succ m ih =>
        intro hm
        have := ih (by omega)
        rw [show k + (m + 1) + 1 = (k + m + 1) + 1 by omega, show k + (m + 1) = k + m + 1 by omega]
        simp only [cn]
        simp only [cn] at this
        rw [this, v3 (k + m) (by omega) (by omega)]
        omega
    have := w2 (n - k) (by omega)
    rw [show k + (n - k) = n by omega] at this
    exact this
def nbt (S : Nat) : Nat → Nat
  | 0 => 0
  | n + 1 => nbt S n + (if S.testBit n then 1 else 0)
theorem nbt_mono {S n : Nat} : ∀ m, nbt S n ≤ nbt S (n + m)
  | 0 => Nat.le_refl _
  | m + 1 => by
    have := nbt_mono (S := S) (n := n) m
    rw [show n + (m + 1) = n + m + 1 by omega]
    simp only [nbt]
    omega
theorem nbt_pop : ∀ S, S < 1024 → nbt S 10 = pop 10 S := by decide +kernel
theorem nbt_pos {S n : Nat} (h : S ≠ 0) (hS : S < 2 ^ n) : 1 ≤ nbt S n := by
  obtain ⟨i, hi⟩ := tb_some h
  have hin := tb_lim hS hi
  have := nbt_mono (S := S) (n := i + 1) (n - (i + 1))
  rw [show i + 1 + (n - (i + 1)) = n by omega] at this
  simp only [nbt] at this
  rw [if_pos hi] at this
  omega
def cmt (T : ev_S) (S : Nat) (h : Int) : Nat → Nat
  | 0 => 0
  | n + 1 => cmt T S h n + (if S.testBit n = true ∧ T 24 (7 * n) = h then 1 else 0)
theorem cmt_mono {T : ev_S} {S : Nat} {h : Int} {n : Nat} : ∀ m, cmt T S h n ≤ cmt T S h (n + m)
  | 0 => Nat.le_refl _
  | m + 1 => by
    have := cmt_mono (T := T) (S := S) (h := h) (n := n) m
    rw [show n + (m + 1) = n + m + 1 by omega]
    simp only [cmt]
    omega
end
