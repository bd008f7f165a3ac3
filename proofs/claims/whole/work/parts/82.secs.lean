section
/-! seconds go by, and the past: the pure side -/
def zix (N A j : Nat) : Prop := (11 + N ≤ j ∧ j < 19) ∨ (19 + N ≤ j ∧ j < 27) ∨ (33 + A ≤ j ∧ j < 39) ∨ (39 + A ≤ j ∧ j < 45) ∨ (51 + A ≤ j ∧ j < 57)
theorem m_zer_z {N A : Nat} {r : Nat → Int} (h : m_zer N A r) {j : Nat} (hj : zix N A j) : r j = 0 := by
  unfold zix at hj
  rcases hj with q | q | q | q | q
  · have := (h.1 (j - 11) (by omega) (by omega)).1
    rw [show 11 + (j - 11) = j by omega] at this; exact this
  · have := (h.1 (j - 19) (by omega) (by omega)).2
    rw [show 19 + (j - 19) = j by omega] at this; exact this
  · have := (h.2 (j - 33) (by omega) (by omega)).1
    rw [show 33 + (j - 33) = j by omega] at this; exact this
  · have := (h.2 (j - 39) (by omega) (by omega)).2.1
    rw [show 39 + (j - 39) = j by omega] at this; exact this
  · have := (h.2 (j - 51) (by omega) (by omega)).2.2
    rw [show 51 + (j - 51) = j by omega] at this; exact this
theorem m_zer_mk {N A : Nat} {r : Nat → Int} (h : ∀ j, zix N A j → r j = 0) : m_zer N A r :=
  ⟨fun w h1 h2 => ⟨h _ (by unfold zix; omega), h _ (by unfold zix; omega)⟩, fun a h1 h2 => ⟨h _ (by unfold zix; omega), h _ (by unfold zix; omega), h _ (by unfold zix; omega)⟩⟩
theorem m_does_atN {T : ev_S} {N NO a kind : Nat} {z : (Nat → Int) × (Nat → Int)} {i : Nat} (h2 : i ≠ 2) (h51 : i ≠ 51 + a) (h11 : i < 11 ∨ 11 + N ≤ i) : (m_does T N NO a kind z).1 i = z.1 i := by
  simp only [m_does]
  split
  · dsimp only
    split
    · rw [m_hold_at _ _ (by omega), rup_ne _ _ h51]
    · rw [rup_ne _ _ h51]
  · show rup _ 2 _ i = _
    rw [rup_ne _ _ h2]
    split
    · rw [m_hold_at _ _ (by omega), rup_ne _ _ h51]
    · rw [rup_ne _ _ h51]
theorem m_orders_atN {T : ev_S} {N A NO a j : Nat} (hA : A ≤ 6) (hN : N ≤ 8) (ha : a < A) (hj : zix N A j) : ∀ m z, (m_orders T N NO a m z).1 j = z.1 j
  | 0, _ => rfl
  | m + 1, z => by
    have hj2 := hj
    unfold zix at hj2
    simp only [m_orders]
    split
    · split
      · split
        · rw [m_orders_atN hA hN ha hj m]; exact rup_ne _ _ (by omega)
        · show m_busy _ _ _ j = _
          rw [m_busy_at (by omega) (by omega) (by omega), rup_ne _ _ (by omega), rup_ne _ _ (by omega)]
      · split
        · show m_busy _ _ _ j = _
          rw [m_busy_at (by omega) (by omega) (by omega), rup_ne _ _ (by omega)]
        · rw [m_does_atN (by omega) (by omega) (by omega)]; exact rup_ne _ _ (by omega)
    · rfl
theorem m_angels_atN {T : ev_S} {N A NO j : Nat} {z : (Nat → Int) × (Nat → Int)} (hA : A ≤ 6) (hN : N ≤ 8) (hj : zix N A j) : ∀ n, n ≤ A → (m_angels T N NO z n).1 j = z.1 j
  | 0, _ => rfl
  | n + 1, hn => by
    have ih := m_angels_atN (T := T) (NO := NO) (z := z) hA hN hj n (by omega)
    have hj2 := hj
    unfold zix at hj2
    simp only [m_angels]
    unfold m_angel
    split
    · show m_busy _ _ _ j = _
      rw [m_busy_at (by omega) (by omega) (by omega)]; exact ih
    · rw [m_orders_atN hA hN (by omega) hj]; exact ih
theorem m_wards_atN {T : ev_S} {N A j : Nat} {r : Nat → Int} (hN : N ≤ 8) (hj : zix N A j) : ∀ n, n ≤ N → m_wards T r n j = r j
  | 0, _ => rfl
  | n + 1, hn => by
    have hj2 := hj
    unfold zix at hj2
    simp only [m_wards]
    rw [m_ward_at (by omega) (by omega) (by omega)]; exact m_wards_atN hN hj n (by omega)
theorem m_sec_zer {T : ev_S} {N A NO MI : Nat} {th : Bool} {z : (Nat → Int) × (Nat → Int)} (hA : A ≤ 6) (hN : N ≤ 8) (h : m_zer N A z.1) : m_zer N A (m_sec T N A NO MI th z).1.1 := by
  refine m_zer_mk (fun j hj => ?_)
  have hj2 := hj
  unfold zix at hj2
  simp only [m_sec]
  rw [rup_ne _ _ (by omega), m_mis_at MI j (by omega) (by omega), m_wards_atN hN hj N (Nat.le_refl _), m_angels_atN hA hN hj A (Nat.le_refl _)]
  exact m_zer_z h hj
def m_go (T : ev_S) (N A NO MI : Nat) (z : (Nat → Int) × (Nat → Int)) : Nat → (Nat → Int) × (Nat → Int)
  | 0 => z
  | n + 1 => (m_sec T N A NO MI false (m_go T N A NO MI z n)).1
def m_gs (T : ev_S) (N A NO MI : Nat) (z : (Nat → Int) × (Nat → Int)) : Nat → Nat
  | 0 => 0
  | n + 1 => m_gs T N A NO MI z n + (m_sec T N A NO MI false (m_go T N A NO MI z n)).2
theorem m_gs_le {T : ev_S} {N A NO MI : Nat} {z : (Nat → Int) × (Nat → Int)} (hM : MI ≤ 10) : ∀ n, m_gs T N A NO MI z n ≤ 10 * n
  | 0 => Nat.le_refl _
  | n + 1 => by
    have := m_gs_le (T := T) (N := N) (A := A) (NO := NO) (z := z) hM n
    have h2 : (m_sec T N A NO MI false (m_go T N A NO MI z n)).2 ≤ MI := m_mis_le MI
    simp only [m_gs]
    omega
theorem m_go_ok {T : ev_S} {N A NO MI : Nat} {z : (Nat → Int) × (Nat → Int)} (hT : m_tok T N A NO MI) (h : m_rok T N A z) : ∀ n : Nat, (n : Int) ≤ 600 - z.1 0 → m_rok T N A (m_go T N A NO MI z n) ∧ (m_go T N A NO MI z n).1 0 = z.1 0 + (n : Int)
  | 0, _ => ⟨h, by simp [m_go]⟩
  | n + 1, hn => by
    obtain ⟨i1, i2⟩ := m_go_ok hT h n (by omega)
    simp only [m_go]
    refine ⟨m_sec_ok hT i1 (by omega), ?_⟩
    rw [m_sec_0 hT.2.1.2 hT.2.2.1.2, i2]; omega
theorem m_go_zer {T : ev_S} {N A NO MI : Nat} {z : (Nat → Int) × (Nat → Int)} (hA : A ≤ 6) (hN : N ≤ 8) (h : m_zer N A z.1) : ∀ n : Nat, m_zer N A (m_go T N A NO MI z n).1
  | 0 => h
  | n + 1 => m_sec_zer hA hN (m_go_zer hA hN h n)
theorem m_go_bk {T : ev_S} {N A NO MI : Nat} {z : (Nat → Int) × (Nat → Int)} (hT : m_tok T N A NO MI) (h : m_rok T N A z) (i : Nat) : ∀ m : Nat, ((i + m : Nat) : Int) ≤ 600 - z.1 0 → bk (m_go T N A NO MI z i).2 (m_go T N A NO MI z (i + m)).2 ((m_go T N A NO MI z i).1 2).toNat ∧ (m_go T N A NO MI z i).1 2 ≤ (m_go T N A NO MI z (i + m)).1 2
  | 0, _ => ⟨fun _ _ => rfl, Int.le_refl _⟩
  | m + 1, hn => by
    obtain ⟨i1, i2⟩ := m_go_bk hT h i m (by omega)
    have ok := (m_go_ok hT h (i + m) (by omega)).1
    have k := m_sec_bk (T := T) (N := N) (A := A) (NO := NO) (MI := MI) (th := false) (z := m_go T N A NO MI z (i + m)) hT.2.1.2 hT.2.2.1.2 ok.2.1.1
    rw [show i + (m + 1) = (i + m) + 1 by omega]
    simp only [m_go]
    exact ⟨bk_tr i1 k.1 (by omega), by have := k.2; omega⟩
/-- the rows of all that was: those kept ahead, then those that came -/
def m_hist (s : ev_S) (N A NO MI U : Nat) (e : Nat) : Nat → Int := if e < U then rw_ s e else (m_go s N A NO MI (s 1, s 9) (e - U)).1
def vk (U k : Nat) : Nat := if U + k ≤ 6 then U + k else 6
theorem vk_c (U k : Nat) : (vk U k = U + k ∧ U + k ≤ 6) ∨ (vk U k = 6 ∧ 6 < U + k) := by
  unfold vk
  split
  · exact Or.inl ⟨rfl, by assumption⟩
  · exact Or.inr ⟨rfl, by omega⟩
theorem m_hist_ok {σ s : ev_S} {N A NO MI U nx n : Nat} (hT : m_tok s N A NO MI) (hr : m_rok s N A (s 1, s 9)) (hz : m_zer N A (s 1)) (hn : (n : Int) ≤ 600 - s 1 0) (u6 : ∀ j, j < U → XC σ (31 + 12 * ((nx + 6 - U + j) % 6)) (rw_ s j) ∧ m_rok s N A (rw_ s j, s 9) ∧ m_zer N A (rw_ s j) ∧ rw_ s j 2 ≤ s 1 2) (u7 : ∀ i j, i ≤ j → j < U → rw_ s i 2 ≤ rw_ s j 2) : (∀ e, e < U + n → m_rok s N A (m_hist s N A NO MI U e, (m_go s N A NO MI (s 1, s 9) n).2) ∧ m_zer N A (m_hist s N A NO MI U e) ∧ m_hist s N A NO MI U e 2 ≤ (m_go s N A NO MI (s 1, s 9) n).1 2) ∧ (∀ i j, i ≤ j → j < U + n → m_hist s N A NO MI U i 2 ≤ m_hist s N A NO MI U j 2) := by
  have b0 := m_go_bk (NO := NO) (MI := MI) hT hr 0 n (by simp only [Nat.zero_add]; exact hn)
  rw [Nat.zero_add] at b0
  simp only [m_go] at b0
  constructor
  · intro e he
    unfold m_hist
    by_cases c : e < U
    · rw [if_pos c]
      obtain ⟨-, k1, k2, k3⟩ := u6 e c
      exact ⟨m_rok_bk k1 b0.1 (by omega), k2, by omega⟩
    · rw [if_neg c]
      obtain ⟨m, hm⟩ : ∃ m, n = (e - U) + m := ⟨n - (e - U), by omega⟩
      have b1 := m_go_bk (NO := NO) (MI := MI) hT hr (e - U) m (by rw [← hm]; exact hn)
      rw [← hm] at b1
      have ok := (m_go_ok (NO := NO) (MI := MI) hT hr (e - U) (by simp only; omega)).1
      exact ⟨m_rok_bk (r := (m_go s N A NO MI (s 1, s 9) (e - U)).1) (B := (m_go s N A NO MI (s 1, s 9) (e - U)).2) ok b1.1 (Nat.le_refl _), m_go_zer hT.2.2.1.2 hT.2.1.2 hz (e - U), b1.2⟩
  · intro i j hij hj
    unfold m_hist
    by_cases c : j < U
    · rw [if_pos c, if_pos (by omega)]; exact u7 i j hij c
    · rw [if_neg c]
      by_cases c2 : i < U
      · rw [if_pos c2]
        have b1 := m_go_bk (NO := NO) (MI := MI) hT hr 0 (j - U) (by simp only; omega)
        rw [Nat.zero_add] at b1
        have := (u6 i c2).2.2.2
        have h2 := b1.2
        simp only [m_go] at h2
        omega
      · rw [if_neg c2]
        obtain ⟨m, hm⟩ : ∃ m, j - U = (i - U) + m := ⟨j - U - (i - U), by omega⟩
        rw [hm]
        exact (m_go_bk (NO := NO) (MI := MI) hT hr (i - U) m (by simp only; omega)).2
/-! the model: keepsAhead -/
def ka (s : ev_S) (u a : Nat) : Nat → Int := fun i => if 87 * u ≤ i ∧ i < 87 * u + a then s 1 (i - 87 * u) else s 2 i
theorem ka_succ (s : ev_S) (u a : Nat) : rup (ka s u a) (87 * u + a) (s 1 a) = ka s u (a + 1) := by
  funext i
  unfold rup ka
  by_cases c : i = 87 * u + a
  · subst c
    rw [if_pos rfl, if_pos (by omega), show 87 * u + a - 87 * u = a by omega]
  · rw [if_neg c]
    by_cases c2 : 87 * u ≤ i ∧ i < 87 * u + a
    · rw [if_pos c2, if_pos (by omega)]
    · rw [if_neg c2, if_neg (by omega)]
theorem sp_ka55 {d u : Nat} {s : ev_S} {Q : Option ev_V → ev_S → Prop} (hu : u ≤ 5) (h3 : s 0 3 = (u : Int)) (h : Q none (ev_up (ev_set s 2 (ka s u 87)) 0 3 ((u : Int) + 1))) : Ev layM M_X12_keepsAhead d 55 [(0, ev_r 0), (1, ev_i 0)] [] s Q := by
  have key : ∀ n a : Nat, a + n = 87 → Ev layM M_X12_keepsAhead d 55 [(0, ev_r 0), (1, ev_i (a : Int))] [] (ev_set s 2 (ka s u a)) Q := by
    intro n
    induction n with
    | zero =>
      intro a ha
      have : a = 87 := by omega
      subst this
      refine wp_X12_keepsAhead_55 ⟨fun _ => ?_, fun q => absurd q (by omega)⟩
      rw [ev_set_ne _ _ (show (0 : Nat) ≠ 2 by omega), h3, ev_add_eq ⟨by omega, by omega⟩]
      rintro _ rfl
      exact h
    | succ n ih =>
      intro a ha
      have i2 := ih (a + 1) (by omega)
      refine wp_X12_keepsAhead_55 ⟨fun q => absurd q (by omega), fun _ => ⟨by omega, ?_⟩⟩
      rw [ev_set_ne _ _ (show (0 : Nat) ≠ 2 by omega), ev_set_ne _ _ (show (1 : Nat) ≠ 2 by omega), h3, ev_mul_eq (x := 87) (y := (u : Int)) ⟨by omega, by omega⟩, ev_add_eq (x := 87 * (u : Int)) (y := (a : Int)) ⟨by omega, by omega⟩, ev_add_eq (x := (a : Int)) (y := 1) ⟨by omega, by omega⟩, Int.toNat_natCast, show Int.toNat (87 * (u : Int) + (a : Int)) = 87 * u + a by omega]
      refine ⟨by omega, ?_⟩
      rintro _ rfl
      rw [ev_up_set, ev_set_same, ev_set_set, ka_succ]
      exact i2
  have k0 := key 87 0 (by omega)
  have e0 : ka s u 0 = s 2 := by
    funext i
    unfold ka
    rw [if_neg (by omega)]
  rw [e0, ev_set_self] at k0
  exact k0
def ks (s : ev_S) (a : Nat) : Nat → Int := fun i => if i < a then s 2 (i + 87) else s 2 i
theorem sp_ka21 {d : Nat} {s : ev_S} {Q : Option ev_V → ev_S → Prop} (h3 : s 0 3 = 5) (h : Ev layM M_X12_keepsAhead d 55 [(0, ev_r 0), (1, ev_i 0)] [] (ev_set s 2 (ks s 435)) Q) : Ev layM M_X12_keepsAhead d 21 [(0, ev_r 0), (1, ev_i 0)] [] s Q := by
  have key : ∀ n a : Nat, a + n = 435 → Ev layM M_X12_keepsAhead d 21 [(0, ev_r 0), (1, ev_i (a : Int))] [] (ev_set s 2 (ks s a)) Q := by
    intro n
    induction n with
    | zero =>
      intro a ha
      have : a = 435 := by omega
      subst this
      refine wp_X12_keepsAhead_21 ?_
      rw [ev_set_ne _ _ (show (0 : Nat) ≠ 2 by omega), h3, ev_mul_eq (x := 87) (y := 5) ⟨by omega, by omega⟩]
      exact ⟨fun _ => h, fun q => absurd q (by omega)⟩
    | succ n ih =>
      intro a ha
      have i2 := ih (a + 1) (by omega)
      refine wp_X12_keepsAhead_21 ?_
      rw [ev_set_ne _ _ (show (0 : Nat) ≠ 2 by omega), h3, ev_mul_eq (x := 87) (y := 5) ⟨by omega, by omega⟩, ev_add_eq (x := (a : Int)) (y := 87) ⟨by omega, by omega⟩, ev_add_eq (x := (a : Int)) (y := 1) ⟨by omega, by omega⟩, Int.toNat_natCast, show Int.toNat ((a : Int) + 87) = a + 87 by omega]
      refine ⟨fun q => absurd q (by omega), fun _ => ⟨by omega, by omega, ?_⟩⟩
      rintro _ rfl
      rw [ev_up_set, ev_set_same, ev_set_set]
      have e : rup (ks s a) a (ks s a (a + 87)) = ks s (a + 1) := by
        funext i
        unfold rup ks
        by_cases c : i = a
        · subst c
          rw [if_pos rfl, if_neg (by omega), if_pos (by omega)]
        · rw [if_neg c]
          by_cases c2 : i < a
          · rw [if_pos c2, if_pos (by omega)]
          · rw [if_neg c2, if_neg (by omega)]
      rw [e]
      exact i2
  have k0 := key 435 0 (by omega)
  have e0 : ks s 0 = s 2 := by
    funext i
    unfold ks
    rw [if_neg (by omega)]
  rw [e0, ev_set_self] at k0
  exact k0
theorem sp_keepsAhead {d U : Nat} {s : ev_S} {Q : Option ev_V → ev_S → Prop} (h3 : s 0 3 = (U : Int)) (hU : U ≤ 6) (h : ∀ s', s' 0 3 = ((vk U 1 : Nat) : Int) → (∀ j, j < vk U 1 → ∀ i, i < 87 → s' 2 (87 * j + i) = if U + 1 - vk U 1 + j < U then s 2 (87 * (U + 1 - vk U 1 + j) + i) else s 1 i) → (∀ i, i ≠ 3 → s' 0 i = s 0 i) → (∀ c, c ≠ 0 → c ≠ 2 → s' c = s c) → Q none s') : Ev layM M_X12_keepsAhead d 0 [(0, ev_r 0)] [] s Q := by
  have hv := vk_c U 1
  refine wp_X12_keepsAhead_0 ?_
  rw [h3]
  refine ⟨fun q => ?_, fun q => ?_⟩
  · have e : vk U 1 = U + 1 := by omega
    refine sp_ka55 (u := U) (by omega) h3 (h _ ?_ ?_ ?_ ?_)
    · rw [ev_up_same, e]; omega
    · intro j hj i hi
      rw [ev_upj _ _ (by omega), ev_set_same, e]
      unfold ka
      by_cases c : j < U
      · rw [if_neg (by omega), if_pos (by omega), show U + 1 - (U + 1) + j = j by omega]
      · have : j = U := by omega
        subst this
        rw [if_pos (by omega), if_neg (by omega), show 87 * j + i - 87 * j = i by omega]
    · intro i hi
      rw [ev_up_ne _ _ (by omega), ev_set_ne _ _ (by omega)]
    · intro c c0 c2
      rw [ev_upj _ _ c0, ev_set_ne _ _ c2]
  · have eU : U = 6 := by omega
    subst eU
    rw [ev_sub_eq ⟨by omega, by omega⟩]
    rintro _ rfl
    have e : vk 6 1 = 6 := rfl
    refine sp_ka21 (by rw [ev_up_same]; rfl) (sp_ka55 (u := 5) (by omega) (by rw [ev_set_ne _ _ (by omega), ev_up_same]; rfl) (h _ ?_ ?_ ?_ ?_))
    · rw [ev_up_same, e]; rfl
    · intro j hj i hi
      rw [e] at hj
      rw [ev_upj _ _ (by omega), ev_set_same, e]
      unfold ka
      rw [ev_set_same, ev_set_ne _ _ (show (1 : Nat) ≠ 2 by omega), ev_upj _ _ (show (1 : Nat) ≠ 0 by omega)]
      unfold ks
      rw [ev_upj _ _ (show (2 : Nat) ≠ 0 by omega)]
      by_cases c : j < 5
      · rw [if_neg (by omega), if_pos (by omega), if_pos (by omega), show 87 * (6 + 1 - 6 + j) + i = 87 * j + i + 87 by omega]
      · have : j = 5 := by omega
        subst this
        rw [if_pos (by omega), if_neg (by omega), show 87 * 5 + i - 87 * 5 = i by omega]
    · intro i hi
      rw [ev_up_ne _ _ (by omega), ev_set_ne _ _ (by omega), ev_set_ne _ _ (by omega), ev_up_ne _ _ (by omega)]
    · intro c c0 c2
      rw [ev_upj _ _ c0, ev_set_ne _ _ c2, ev_set_ne _ _ c2, ev_upj _ _ c0]
/-! the class: keep -/
theorem sp_keep {d nx U : Nat} {s : ev_S} {r : Nat → Int} {Q : Option ev_V → ev_S → Prop} (h1 : s 29 1 = (nx : Int)) (hn : nx < 6) (h2 : s 29 2 = (U : Int)) (hU : U ≤ 6) (hC : XC s 15 r) (h : ∀ s', XC s' (31 + 12 * nx) r → s' 29 1 = (((nx + 1) % 6 : Nat) : Int) → s' 29 2 = ((vk U 1 : Nat) : Int) → (∀ c, c ≠ 29 → (c < 31 + 12 * nx ∨ 31 + 12 * nx + 11 < c) → s' c = s c) → Q none s') : Ev layX M_X5_keep (d + 2) 0 [(0, ev_r 29), (1, ev_r 15)] [] s Q := by
  have hv := vk_c U 1
  refine wp_X5_keep_0 is_X2_15 ?_
  rw [h1]
  refine ⟨fun q => absurd q (by omega), fun _ => ⟨fun q => absurd q (by omega), fun _ => ⟨by omega, fun k hk ek => ?_⟩⟩⟩
  rw [Int.toNat_natCast] at ek
  subst ek
  refine sp_copyFrom hk is_X2_15 (by omega) hC (fun s1 z1 z2 => ?_)
  have f29 : s1 29 = s 29 := z2 29 (by omega)
  rw [f29, h1, ev_add_eq (x := (nx : Int)) (y := 1) ⟨by omega, by omega⟩]
  refine ⟨fun q => ?_, fun q => ?_⟩
  · rintro _ rfl
    rw [ev_up_ne _ _ (by omega), f29, h2, ev_add_eq (x := (U : Int)) (y := 1) ⟨by omega, by omega⟩]
    rintro _ rfl
    refine h _ (XC_keep z1 (fun c c1 c2 => by rw [ev_upj _ _ (by omega), ev_upj _ _ (by omega)])) ?_ ?_ (fun c c1 c2 => by rw [ev_upj _ _ c1, ev_upj _ _ c1]; exact z2 c c2)
    · rw [ev_up_ne _ _ (by omega), ev_up_same]; omega
    · rw [ev_up_same]; omega
  · rintro _ rfl
    rw [ev_up_ne _ _ (by omega), f29, h2, ev_add_eq (x := (U : Int)) (y := 1) ⟨by omega, by omega⟩]
    rintro _ rfl
    refine h _ (XC_keep z1 (fun c c1 c2 => by rw [ev_upj _ _ (by omega), ev_upj _ _ (by omega)])) ?_ ?_ (fun c c1 c2 => by rw [ev_upj _ _ c1, ev_upj _ _ c1]; exact z2 c c2)
    · rw [ev_up_ne _ _ (by omega), ev_up_same]; omega
    · rw [ev_up_same]; omega
end
