/-! THE CLASS: its cells against the model's rows. XC: a Course (cell k and the eleven behind it) holds a row r. XT: a Town (cell K) holds what was told, T (in the model's own cells). -/
def XC (σ : ev_S) (k : Nat) (r : Nat → Int) : Prop :=
  (σ k 0 = r 0 ∧ σ k 1 = r 1 ∧ σ k 13 = r 2) ∧
  (∀ w, w < 8 → σ (k + 1) w = r (3 + w) ∧ σ (k + 2) w = r (11 + w) ∧ σ (k + 3) w = r (19 + w)) ∧
  (∀ a, a < 6 → σ (k + 4) a = r (27 + a) ∧ σ (k + 5) a = r (33 + a) ∧ (0 < r (33 + a) → σ (k + 6) a = r (45 + a) - 1) ∧ σ (k + 7) a = r (39 + a) ∧ σ (k + 8) a = r (51 + a)) ∧
  (∀ i, i < 10 → σ (k + 9) i = r (57 + i) ∧ σ (k + 10) i = r (67 + i) - 1 ∧ σ (k + 11) i = r (77 + i) - 1)
theorem XC_keep {σ σ' : ev_S} {k : Nat} {r : Nat → Int} (h : XC σ k r) (hf : ∀ c, k ≤ c → c ≤ k + 11 → σ' c = σ c) : XC σ' k r := by
  unfold XC
  rw [hf k (by omega) (by omega), hf (k + 1) (by omega) (by omega), hf (k + 2) (by omega) (by omega), hf (k + 3) (by omega) (by omega), hf (k + 4) (by omega) (by omega), hf (k + 5) (by omega) (by omega), hf (k + 6) (by omega) (by omega), hf (k + 7) (by omega) (by omega), hf (k + 8) (by omega) (by omega), hf (k + 9) (by omega) (by omega), hf (k + 10) (by omega) (by omega), hf (k + 11) (by omega) (by omega)]
  exact h
/-- the law's lines: the class's code of numbers against the model's two rows -/
def XLg (σ : ev_S) (K : Nat) (n : Int) (lw lf lt op ar : Nat → Int) : Prop :=
  σ K 5 = n ∧ ∃ f : Nat → Nat, ∀ j : Nat, (j : Int) < n → (0 ≤ lf j ∧ lf j ≤ lt j ∧ lt j ≤ 400 ∧ σ (K + 2) j = (f (lf j).toNat : Int) ∧ σ (K + 2) (j + 1) = (f (lt j).toNat : Int) ∧ (σ (K + 3) j = 1 ↔ lw j = 0) ∧
    ∀ i : Nat, lf j ≤ (i : Int) → (i : Int) < lt j → f (i + 1) ≤ 800 ∧ (op i = 0 → f (i + 1) = f i + 2 ∧ σ (K + 1) (f i) = 9 ∧ σ (K + 1) (f i + 1) = ar i) ∧ (op i = 1 → f (i + 1) = f i + 1 ∧ σ (K + 1) (f i) = ar i) ∧ (2 ≤ op i → f (i + 1) = f i + 1 ∧ σ (K + 1) (f i) = op i + 8))
def XL (σ : ev_S) (K : Nat) (T : ev_S) : Prop := XLg σ K (T 0 25) (T 12) (T 13) (T 14) (T 15) (T 16)
def XT (σ : ev_S) (K : Nat) (T : ev_S) : Prop :=
  (σ K 0 = T 0 6 + 8 ∧ σ K 1 = T 0 7 + 8 ∧ σ K 2 = T 0 8 + 3 ∧ σ K 4 = T 0 10 ∧ σ K 7 = T 0 11 ∧ σ K 11 = T 0 12 ∧ σ K 13 = T 0 46) ∧
  (∀ k, k < 5 → σ (K + 1) k = T 4 k) ∧
  (∀ w : Nat, (w : Int) < T 0 10 → σ (K + 3) w = T 21 w ∧ ∀ i : Nat, (i : Int) < T 21 w → σ (K + 2) (600 * w + i) = T 20 (600 * w + i)) ∧
  (∀ a : Nat, (a : Int) < T 0 11 → σ (K + 4) a = T 5 a ∧ σ (K + 6) a = T 27 a ∧ ∀ i : Nat, (i : Int) < T 27 a → σ (K + 5) (2 * (40 * a + i)) = T 25 (40 * a + i) ∧ σ (K + 5) (2 * (40 * a + i) + 1) = T 26 (40 * a + i)) ∧
  (∀ o : Nat, (o : Int) < T 0 12 → σ (K + 7) (3 * o) = T 6 o ∧ σ (K + 7) (3 * o + 1) = T 7 o ∧ σ (K + 7) (3 * o + 2) = T 8 o) ∧
  (∀ i : Nat, (i : Int) < T 0 46 → ∀ c : Nat, c < 7 → σ (K + 8) (7 * i + c) = T 24 (7 * i + c)) ∧
  XL σ (K + 9) T
theorem XT_keep {σ σ' : ev_S} {K : Nat} {T : ev_S} (h : XT σ K T) (hf : ∀ c, K ≤ c → c ≤ K + 12 → σ' c = σ c) : XT σ' K T := by
  unfold XT XL XLg
  rw [hf K (by omega) (by omega), hf (K + 1) (by omega) (by omega), hf (K + 2) (by omega) (by omega), hf (K + 3) (by omega) (by omega), hf (K + 4) (by omega) (by omega), hf (K + 5) (by omega) (by omega), hf (K + 6) (by omega) (by omega), hf (K + 7) (by omega) (by omega), hf (K + 8) (by omega) (by omega), hf (K + 9) (by omega) (by omega), hf (K + 9 + 1) (by omega) (by omega), hf (K + 9 + 2) (by omega) (by omega), hf (K + 9 + 3) (by omega) (by omega)]
  exact h
theorem sp_placeBehind {d : Nat} {σ T : ev_S} {Q : Option ev_V → ev_S → Prop} {p way : Int} (hT : σ 1 0 = T 0 6 + 8 ∧ σ 1 1 = T 0 7 + 8) (hd : m_dim T) (hp : m_pl T p) (h : Q (some (ev_i (m_step T p way))) σ) : Ev layX M_X7_placeBehind (d + 1) 0 [(0, ev_r 144), (1, ev_i p), (2, ev_i way)] [] σ Q := by
  obtain ⟨⟨x1, x2⟩, y1, y2⟩ := hd
  obtain ⟨p1, p2, p3⟩ := hp
  have hp64 : p < 64 := by omega
  have e8 : ev_rem p 8 = p % 8 := ev_rem_eq ⟨p1, by omega⟩ ⟨by omega, by omega⟩
  have e9 : ev_div p 8 = p / 8 := ev_div_eq ⟨p1, by omega⟩ ⟨by omega, by omega⟩
  refine wp_X7_placeBehind_0 ?_
  rw [e8, e9, hT.1, hT.2]
  simp (disch := omega) only [ev_sub_eq, ev_add_eq, ev_mul_eq]
  refine ⟨fun c1 => ⟨fun c2 => ⟨fun c3 => ⟨fun c4 => ?_, fun c4 => ?_⟩, fun c3 => ?_⟩, fun c2 => ?_⟩, fun c1 => ?_⟩
  · have e : m_step T p way = 8 * (p / 8) + p % 8 := by
      unfold m_step
      have ex : m_dx way = 0 := by simp [m_dx, c2, c4]
      have ey : m_dy way = 0 := by simp [m_dy, c1, c3]
      rw [ex, ey, if_pos ⟨by omega, by omega, by omega, by omega⟩]; omega
    rw [e] at h; exact h
  · have e : m_step T p way = 8 * (p / 8) + max (p % 8 - 1) 0 := by
      unfold m_step
      have ex : m_dx way = -1 := by simp [m_dx, c4]
      have ey : m_dy way = 0 := by simp [m_dy, c4]
      rw [ex, ey]
      split <;> omega
    rw [e] at h; exact h
  · have e : m_step T p way = 8 * min (p / 8 + 1) (T 0 7 + 8 - 1) + p % 8 := by
      unfold m_step
      have ex : m_dx way = 0 := by simp [m_dx, c3]
      have ey : m_dy way = 1 := by simp [m_dy, c3]
      rw [ex, ey]
      split <;> omega
    rw [e] at h; exact h
  · have e : m_step T p way = 8 * (p / 8) + min (p % 8 + 1) (T 0 6 + 8 - 1) := by
      unfold m_step
      have ex : m_dx way = 1 := by simp [m_dx, c2]
      have ey : m_dy way = 0 := by simp [m_dy, c2]
      rw [ex, ey]
      split <;> omega
    rw [e] at h; exact h
  · have e : m_step T p way = 8 * max (p / 8 - 1) 0 + p % 8 := by
      unfold m_step
      have ex : m_dx way = 0 := by simp [m_dx, c1]
      have ey : m_dy way = -1 := by simp [m_dy, c1]
      rw [ex, ey]
      split <;> omega
    rw [e] at h; exact h
/-- the wards of a Course alone -/
def XW (σ : ev_S) (k : Nat) (r : Nat → Int) : Prop := ∀ w, w < 8 → σ (k + 1) w = r (3 + w) ∧ σ (k + 2) w = r (11 + w) ∧ σ (k + 3) w = r (19 + w)
theorem XC_w {σ : ev_S} {k : Nat} {r : Nat → Int} (h : XC σ k r) : XW σ k r := h.2.1
theorem XC_moved {σ σ' : ev_S} {k : Nat} {r r' : Nat → Int} (h : XC σ k r) (hw : XW σ' k r') (hf : ∀ c, c ≠ k + 1 → c ≠ k + 2 → c ≠ k + 3 → σ' c = σ c) (hr : ∀ i, (i < 3 ∨ 27 ≤ i) → r' i = r i) : XC σ' k r' := by
  refine ⟨?_, hw, ?_, ?_⟩
  · rw [hf k (by omega) (by omega) (by omega), hr 0 (by omega), hr 1 (by omega), hr 2 (by omega)]; exact h.1
  · intro a ha
    rw [hf (k + 4) (by omega) (by omega) (by omega), hf (k + 5) (by omega) (by omega) (by omega), hf (k + 6) (by omega) (by omega) (by omega), hf (k + 7) (by omega) (by omega) (by omega), hf (k + 8) (by omega) (by omega) (by omega), hr (27 + a) (by omega), hr (33 + a) (by omega), hr (45 + a) (by omega), hr (39 + a) (by omega), hr (51 + a) (by omega)]
    exact h.2.2.1 a ha
  · intro i hi
    rw [hf (k + 9) (by omega) (by omega) (by omega), hf (k + 10) (by omega) (by omega) (by omega), hf (k + 11) (by omega) (by omega) (by omega), hr (57 + i) (by omega), hr (67 + i) (by omega), hr (77 + i) (by omega)]
    exact h.2.2.2 i hi
theorem m_wards_at {T : ev_S} {r : Nat → Int} : ∀ n, n ≤ 8 → ∀ i, (i < 3 ∨ 27 ≤ i) → m_wards T r n i = r i
  | 0, _, _, _ => rfl
  | n + 1, hn, i, hi => by
    show m_ward T n (m_wards T r n) i = r i
    rw [m_ward_at (by omega) (by omega) (by omega)]
    exact m_wards_at n (by omega) i hi
theorem sp_moveWards {d N k : Nat} {σ T : ev_S} {r : Nat → Int} {Q : Option ev_V → ev_S → Prop} (hk : is_X2 k) (h15 : 15 ≤ k) (hN : T 0 10 = (N : Int)) (hN8 : N ≤ 8) (hd : m_dim T) (hok : ∀ v, v < N → m_wok T r v) (hT : XT σ 1 T) (hW : XW σ k r)
    (h : ∀ σ', XW σ' k (m_wards T r N) → (∀ c, c ≠ k + 1 → c ≠ k + 2 → c ≠ k + 3 → σ' c = σ c) → Q none σ') : Ev layX M_X7_moveWards (d + 2) 0 [(0, ev_r 144), (1, ev_r k)] [] σ Q := by
  refine wp_X7_moveWards_0 hk ?_
  have key : ∀ n i : Nat, i + n = N → ∀ σ1 : ev_S, XW σ1 k (m_wards T r i) → (∀ c, c ≠ k + 1 → c ≠ k + 2 → c ≠ k + 3 → σ1 c = σ c) → Ev layX M_X7_moveWards (d + 2) 2 [(0, ev_r 144), (1, ev_r k), (2, ev_i (i : Int))] [] σ1 Q := by
    intro n
    induction n with
    | zero =>
      intro i hi σ1 h1 h2
      have : i = N := by omega
      subst this
      refine wp_X7_moveWards_2 hk ⟨fun _ => h σ1 h1 h2, fun c => absurd c ?_⟩
      rw [h2 1 (by omega) (by omega) (by omega), hT.1.2.2.2.1, hN]; omega
    | succ n ih =>
      intro i hi σ1 h1 h2
      have e4 : σ1 1 4 = (N : Int) := by rw [h2 1 (by omega) (by omega) (by omega), hT.1.2.2.2.1, hN]
      have ho := m_wards_ok hd.1.2 hN8 hok i (by omega) i (by omega)
      obtain ⟨g1, g2, g3, g4, g5, g6⟩ := ho
      obtain ⟨w1, w2, w3⟩ := h1 i (by omega)
      have hw := hT.2.2.1 i (by omega)
      have e5 : σ1 4 i = T 21 i := by rw [h2 4 (by omega) (by omega) (by omega)]; exact hw.1
      refine wp_X7_moveWards_2 hk ⟨fun c => absurd c (by omega), fun _ => ?_⟩
      rw [Int.toNat_natCast, ev_add_eq (x := (i : Int)) (y := 1) ⟨by omega, by omega⟩, w2, w3, e5]
      have next := ih (i + 1) (by omega)
      refine ⟨by omega, fun c => ⟨by omega, by omega, fun c2 => ?_, fun c2 => ⟨by omega, fun c3 => absurd c3 (by omega), fun _ => ?_⟩⟩, fun c => ⟨by omega, by omega, ?_⟩⟩
      · refine next σ1 ?_ h2
        show XW σ1 k (m_ward T i (m_wards T r i))
        unfold m_ward
        rw [if_neg (by omega), if_neg (by omega)]
        exact h1
      · have e6 : σ1 3 (600 * i + (m_wards T r i (19 + i)).toNat) = T 20 (600 * i + (m_wards T r i (19 + i)).toNat) := by
          rw [h2 3 (by omega) (by omega) (by omega)]; exact hw.2 _ (by omega)
        have e7 : ev_mul (i : Int) 600 = 600 * (i : Int) := by rw [ev_mul_eq ⟨by omega, by omega⟩]; omega
        rw [e7, ev_add_eq (x := 600 * (i : Int)) ⟨by omega, by omega⟩, show Int.toNat (600 * (i : Int) + m_wards T r i (19 + i)) = 600 * i + (m_wards T r i (19 + i)).toNat by omega, e6]
        refine ⟨by omega, by omega, by omega, by omega, ?_⟩
        rintro _ rfl
        rw [ev_add_eq (x := m_wards T r i (19 + i)) ⟨by omega, by omega⟩]
        refine ⟨by omega, ?_⟩
        have e8 : ev_up σ1 (k + 3) i (m_wards T r i (19 + i) + 1) (k + 1) i = m_wards T r i (3 + i) := by rw [ev_up_ne _ _ (by omega)]; exact w1
        rw [e8]
        have e1 : σ1 1 = σ 1 := h2 1 (by omega) (by omega) (by omega)
        refine sp_placeBehind (T := T) ?_ hd g1 (ev_pi_mk ⟨by omega, ?_⟩)
        · rw [ev_upj _ _ (by omega), e1]; exact ⟨hT.1.1, hT.1.2.1⟩
        · rintro _ rfl
          refine next _ ?_ ?_
          · show XW _ k (m_ward T i (m_wards T r i))
            unfold m_ward
            rw [if_neg (by omega), if_pos (by omega)]
            intro w hw8
            obtain ⟨v1, v2, v3⟩ := h1 w hw8
            by_cases e : w = i
            · subst e
              refine ⟨?_, ?_, ?_⟩
              · rw [ev_up_same, rup_ne _ _ (by omega), rup_same]
              · rw [ev_up_ne _ _ (by omega), ev_up_ne _ _ (by omega), rup_ne _ _ (by omega), rup_ne _ _ (by omega)]; exact v2
              · rw [ev_up_ne _ _ (by omega), ev_up_same, rup_same]
            · refine ⟨?_, ?_, ?_⟩
              · rw [ev_up_ne _ _ (by omega), ev_up_ne _ _ (by omega), rup_ne _ _ (by omega), rup_ne _ _ (by omega)]; exact v1
              · rw [ev_up_ne _ _ (by omega), ev_up_ne _ _ (by omega), rup_ne _ _ (by omega), rup_ne _ _ (by omega)]; exact v2
              · rw [ev_up_ne _ _ (by omega), ev_up_ne _ _ (by omega), rup_ne _ _ (by omega), rup_ne _ _ (by omega)]; exact v3
          · intro c c1 c2 c3
            rw [ev_upj _ _ c1, ev_upj _ _ c3]; exact h2 c c1 c2 c3
      · rintro _ rfl
        rw [ev_sub_eq ⟨by omega, by omega⟩]
        refine next _ ?_ ?_
        · show XW _ k (m_ward T i (m_wards T r i))
          unfold m_ward
          rw [if_pos c]
          intro w hw8
          obtain ⟨v1, v2, v3⟩ := h1 w hw8
          by_cases e : w = i
          · subst e
            refine ⟨?_, ?_, ?_⟩
            · rw [ev_up_ne _ _ (by omega), rup_ne _ _ (by omega)]; exact v1
            · rw [ev_up_same, rup_same]
            · rw [ev_up_ne _ _ (by omega), rup_ne _ _ (by omega)]; exact v3
          · refine ⟨?_, ?_, ?_⟩
            · rw [ev_up_ne _ _ (by omega), rup_ne _ _ (by omega)]; exact v1
            · rw [ev_up_ne _ _ (by omega), rup_ne _ _ (by omega)]; exact v2
            · rw [ev_up_ne _ _ (by omega), rup_ne _ _ (by omega)]; exact v3
        · intro c c1 c2 c3
          rw [ev_upj _ _ c2]; exact h2 c c1 c2 c3
  exact key N 0 (by omega) σ hW (fun _ _ _ _ => rfl)
