/-! what is foreseen: the class -/
def ev_fill (σ : ev_S) (k n : Nat) (z : Int) : ev_S := ev_set σ k (fun i => if i < n then z else σ k i)
theorem sp_fill {d k n : Nat} (hk : layX[k]? = some (.inl (0, n))) (hn : n < 2147483648) {s : ev_S} {z : Int} {Q : Option ev_V → ev_S → Prop} (h : Q none (ev_fill s k n z)) : Ev layX M_J7_fill_53178 d 0 [(0, ev_r k), (1, ev_i z)] [] s Q := by
  refine wp_J7_fill_53178_0 hk hn ?_
  have key : ∀ m i : Nat, i + m = n → Ev layX M_J7_fill_53178 d 5 [(0, ev_r k), (1, ev_i z), (2, ev_i (i : Int)), (3, ev_i ((n : Nat) : Int))] [] (ev_set s k (fun j => if j < i then z else s k j)) Q := by
    intro m
    induction m with
    | zero =>
      intro i hi
      have : i = n := by omega
      subst this
      exact wp_J7_fill_53178_5 hk hn ⟨fun _ => h, fun c => absurd c (by omega)⟩
    | succ m ih =>
      intro i hi
      refine wp_J7_fill_53178_5 hk hn ⟨fun c => absurd c (by omega), fun _ => ⟨by omega, ?_⟩⟩
      rintro _ rfl
      rw [Int.toNat_natCast, ev_add_eq ⟨by omega, by omega⟩, ev_up_set, ev_set_set, ev_set_same]
      have e : rup (fun j => if j < i then z else s k j) i z = (fun j => if j < i + 1 then z else s k j) := by
        funext j
        simp only [rup]
        by_cases q : j = i
        · subst q; simp
        · rw [if_neg q]
          by_cases q2 : j < i
          · rw [if_pos q2, if_pos (by omega)]
          · rw [if_neg q2, if_neg (by omega)]
      rw [e]
      exact ih (i + 1) (by omega)
  have k0 := key n 0 (by omega)
  have e : (fun j => if j < 0 then z else s k j) = s k := by funext j; simp
  rw [e, ev_set_self] at k0
  exact k0
/-- one Course copied over another -/
theorem sp_copyFrom {d k j : Nat} {s : ev_S} {r : Nat → Int} {Q : Option ev_V → ev_S → Prop} (hk : is_X2 k) (hj : is_X2 j) (hd : k + 11 < j ∨ j + 11 < k) (hC : XC s j r) (h : ∀ s', XC s' k r → frC k s s' → Q none s') : Ev layX M_X2_copyFrom (d + 1) 0 [(0, ev_r k), (1, ev_r j)] [] s Q := by
  refine wp_X2_copyFrom_0 hk hj ?_
  rintro _ rfl
  rintro _ rfl
  refine ⟨by decide, ?_⟩
  rintro _ rfl
  refine ⟨by decide, ?_⟩
  rintro _ rfl
  refine ⟨by decide, ?_⟩
  rintro _ rfl
  refine ⟨by decide, ?_⟩
  rintro _ rfl
  refine ⟨by decide, ?_⟩
  rintro _ rfl
  refine ⟨by decide, ?_⟩
  rintro _ rfl
  refine ⟨by decide, ?_⟩
  rintro _ rfl
  refine ⟨by decide, ?_⟩
  rintro _ rfl
  refine ⟨by decide, ?_⟩
  rintro _ rfl
  refine ⟨by decide, ?_⟩
  rintro _ rfl
  refine ⟨by decide, ?_⟩
  rintro _ rfl
  rintro _ rfl
  have cpj : ∀ (σ : ev_S) (a b n c : Nat), c ≠ b → ev_cp σ a (Int.toNat 0) b (Int.toNat 0) n c = σ c := by
    intro σ a b n c hc
    funext i; simp [ev_cp, hc]
  have cpk : ∀ (σ : ev_S) (a b n i : Nat), i < n → ev_cp σ a (Int.toNat 0) b (Int.toNat 0) n b i = σ a i := by
    intro σ a b n i hi
    simp [ev_cp, hi]
  refine h _ ?_ ?_
  · refine ⟨⟨?_, ?_, ?_⟩, fun w hw => ⟨?_, ?_, ?_⟩, fun a ha => ⟨?_, ?_, ?_, ?_, ?_⟩, fun i hi => ⟨?_, ?_, ?_⟩⟩
    · simp (disch := omega) only [ev_up_ne, cpj, ev_up_same]; exact hC.1.1
    · simp (disch := omega) only [ev_up_ne, cpj, ev_up_same]; exact hC.1.2.1
    · simp (disch := omega) only [ev_up_ne, cpj, ev_up_same]; exact hC.1.2.2
    · simp (disch := omega) only [ev_upj, cpj, cpk]; exact (hC.2.1 w hw).1
    · simp (disch := omega) only [ev_upj, cpj, cpk]; exact (hC.2.1 w hw).2.1
    · simp (disch := omega) only [ev_upj, cpj, cpk]; exact (hC.2.1 w hw).2.2
    · simp (disch := omega) only [ev_upj, cpj, cpk]; exact (hC.2.2.1 a ha).1
    · simp (disch := omega) only [ev_upj, cpj, cpk]; exact (hC.2.2.1 a ha).2.1
    · intro hp; simp (disch := omega) only [ev_upj, cpj, cpk]; exact (hC.2.2.1 a ha).2.2.1 hp
    · simp (disch := omega) only [ev_upj, cpj, cpk]; exact (hC.2.2.1 a ha).2.2.2.1
    · simp (disch := omega) only [ev_upj, cpj, cpk]; exact (hC.2.2.1 a ha).2.2.2.2
    · simp (disch := omega) only [ev_upj, cpj, cpk]; exact (hC.2.2.2 i hi).1
    · simp (disch := omega) only [ev_upj, cpj, cpk]; exact (hC.2.2.2 i hi).2.1
    · simp (disch := omega) only [ev_upj, cpj, cpk]; exact (hC.2.2.2 i hi).2.2
  · intro c hc
    simp (disch := omega) only [ev_upj, cpj]
/-- the last second in which something that isn't over may come -/
def m_lastS (T : ev_S) (r : Nat → Int) : Nat → Int
  | 0 => -1
  | n + 1 => if r (57 + n) = 0 then max (m_lastS T r n) (T 24 (7 * n + 3)) else m_lastS T r n
theorem m_lastS_ge {T : ev_S} {r : Nat → Int} : ∀ {n i : Nat}, i < n → r (57 + i) = 0 → T 24 (7 * i + 3) ≤ m_lastS T r n
  | n + 1, i, hi, h => by
    simp only [m_lastS]
    by_cases e : i = n
    · subst e; rw [if_pos h]; omega
    · have := m_lastS_ge (T := T) (n := n) (i := i) (by omega) h
      split <;> omega
theorem m_lastS_rng {T : ev_S} {r : Nat → Int} : ∀ {n : Nat}, (∀ i, i < n → T 24 (7 * i + 3) ≤ 599) → -1 ≤ m_lastS T r n ∧ m_lastS T r n ≤ 599
  | 0, _ => by simp [m_lastS]
  | n + 1, h => by
    have ih := m_lastS_rng (T := T) (r := r) (n := n) (fun i hi => h i (by omega))
    have := h n (by omega)
    simp only [m_lastS]
    split <;> omega
theorem sp_lastSecond {d N A NO MI : Nat} {s T : ev_S} {r : Nat → Int} {Q : Option ev_V → ev_S → Prop} (hT : m_tok T N A NO MI) (hXT : XT s 1 T) (hC : XC s 15 r) (h : Q (some (ev_i (m_lastS T r MI))) s) : Ev layX M_X3_lastSecond (d + 1) 0 [(0, ev_r 146)] [] s Q := by
  obtain ⟨-, -, -, -, ⟨hM, hM10⟩, -, -, -, hmok, -⟩ := hT
  have e13 : s 1 13 = (MI : Int) := by rw [hXT.1.2.2.2.2.2.2]; exact hM
  refine wp_X3_lastSecond_0 ?_
  have key : ∀ n i : Nat, i + n = MI → Ev layX M_X3_lastSecond (d + 1) 4 [(0, ev_r 146), (1, ev_i (m_lastS T r i)), (2, ev_i (i : Int))] [] s Q := by
    intro n
    induction n with
    | zero =>
      intro i hi
      have : i = MI := by omega
      subst this
      exact wp_X3_lastSecond_4 ⟨fun _ => h, fun c => absurd c (by omega)⟩
    | succ n ih =>
      intro i hi
      have i2 := ih (i + 1) (by omega)
      have e24 : s 24 i = r (57 + i) := (hC.2.2.2 i (by omega)).1
      have e3 : s 9 (7 * i + 3) = T 24 (7 * i + 3) := hXT.2.2.2.2.2.1 i (by omega) 3 (by omega)
      have m7 : ev_mul (i : Int) 7 = 7 * (i : Int) := by rw [ev_mul_eq ⟨by omega, by omega⟩]; omega
      refine wp_X3_lastSecond_4 ⟨fun c => absurd c (by omega), fun _ => ?_⟩
      rw [Int.toNat_natCast, e24, m7, ev_add_eq (x := 7 * (i : Int)) ⟨by omega, by omega⟩, ev_add_eq (x := (i : Int)) (y := 1) ⟨by omega, by omega⟩, show Int.toNat (7 * (i : Int) + 3) = 7 * i + 3 by omega, e3]
      refine ⟨by omega, fun c => ?_, fun c => ⟨by omega, ?_⟩⟩
      · simp only [m_lastS] at i2
        rw [if_neg c] at i2; exact i2
      · simp only [m_lastS] at i2
        rw [if_pos c] at i2; exact i2
  exact key MI 0 (by omega)
/-- the foreseen, as both sides have it -/
def m_sees (T : ev_S) (N : Nat) (r : Nat → Int) (i : Nat) : Int := m_seen T N r i (600 - r 0).toNat
theorem m_sees_last {T : ev_S} {N MI i : Nat} {r : Nat → Int} (hN : N ≤ 8) (hi : i < MI) (hl : m_lastS T r MI ≤ 599) (h0 : 0 ≤ r 0 ∧ r 0 ≤ 600) : m_seen T N r i (m_lastS T r MI + 1 - r 0).toNat = m_sees T N r i := by
  unfold m_sees
  have hs := m_seen_stop (T := T) (N := N) (r := r) (i := i) (n := (m_lastS T r MI + 1 - r 0).toNat) hN (fun t ht => m_comes_late (fun e => by
    rw [m_row_at hN t (57 + i) (by omega) (by omega)] at e
    rw [m_row_0 hN]
    have := m_lastS_ge (T := T) hi e
    omega)) ((600 - r 0).toNat - (m_lastS T r MI + 1 - r 0).toNat)
  rw [show (m_lastS T r MI + 1 - r 0).toNat + ((600 - r 0).toNat - (m_lastS T r MI + 1 - r 0).toNat) = (600 - r 0).toNat by omega] at hs
  exact hs.symm
/-- the answers that foresee leaves: for every mishap that there is -/
def XS (s : ev_S) (T : ev_S) (N MI : Nat) (r : Nat → Int) : Prop := ∀ i, i < 10 → s 159 i = if i < MI then m_sees T N r i else -1
def frF (s s' : ev_S) : Prop := ∀ c, (c < 147 ∨ 159 < c) → c ≠ 146 → s' c = s c
theorem sp_foresee {d N A NO MI : Nat} {s T : ev_S} {r : Nat → Int} {Q : Option ev_V → ev_S → Prop} (hT : m_tok T N A NO MI) (h0 : 0 ≤ r 0 ∧ r 0 ≤ 600) (hw : ∀ v, v < N → m_wok T r v) (hXT : XT s 1 T) (hC : XC s 15 r) (h7 : s 146 7 = 0 ∨ (s 146 7 = 1 ∧ XS s T N MI r))
    (h : ∀ s', XS s' T N MI r → s' 146 7 = 1 → (∀ i, i ≠ 7 → s' 146 i = s 146 i) → frF s s' → Q none s') : Ev layX M_X3_foresee (d + 3) 0 [(0, ev_r 146)] [] s Q := by
  have hT0 := hT
  obtain ⟨hdim, ⟨hN, hN8⟩, -, -, ⟨hM, hM10⟩, -, -, -, hmok, -⟩ := hT
  have hlr := m_lastS_rng (T := T) (r := r) (n := MI) (fun i hi => (hmok i hi).2.2.1.2.2)
  refine wp_X3_foresee_0 ⟨fun c => ?_, fun c => ?_⟩
  · rintro _ rfl
    refine sp_fill yX_159 (by omega) ?_
    have f1 : ∀ c, c ≠ 159 → c ≠ 146 → ev_fill (ev_up s 146 7 1) 159 10 (-1) c = s c := fun c h1 h2 => by unfold ev_fill; rw [ev_set_ne _ _ h1, ev_upj _ _ h2]
    have f1b : ∀ i, i < 10 → ev_fill (ev_up s 146 7 1) 159 10 (-1) 159 i = -1 := fun i hi => by unfold ev_fill; rw [ev_set_same]; simp [hi]
    have f1c : ev_fill (ev_up s 146 7 1) 159 10 (-1) 146 7 = 1 := by unfold ev_fill; rw [ev_set_ne _ _ (by omega), ev_up_same]
    have f1d : ∀ i, i ≠ 7 → ev_fill (ev_up s 146 7 1) 159 10 (-1) 146 i = s 146 i := fun i hi => by unfold ev_fill; rw [ev_set_ne _ _ (by omega), ev_up_ne _ _ (by omega)]
    generalize ev_fill (ev_up s 146 7 1) 159 10 (-1) = s2 at *
    have hC2 : XC s2 15 r := XC_keep hC (fun c h1 h2 => f1 c (by omega) (by omega))
    refine sp_copyFrom is_X2_147 is_X2_15 (by omega) hC2 (fun s3 hC3 hf3 => ?_)
    have hXT3 : XT s3 1 T := XT_keep hXT (fun c h1 h2 => by rw [hf3 c (by omega)]; exact f1 c (by omega) (by omega))
    have hC15 : XC s3 15 r := XC_keep hC2 (fun c h1 h2 => hf3 c (by omega))
    refine sp_lastSecond hT0 hXT3 hC15 (ev_pi_mk ?_)
    rw [hC15.1.1]
    -- the seconds
    have main : ∀ (n t : Nat) (s4 : ev_S), t + n = (m_lastS T r MI + 1 - r 0).toNat → (∃ r4, XC s4 147 r4 ∧ (∀ w, w < 8 → r4 (3 + w) = m_pre T N r t (3 + w) ∧ r4 (11 + w) = m_pre T N r t (11 + w) ∧ r4 (19 + w) = m_pre T N r t (19 + w)) ∧ ∀ i, i < MI → (r4 (57 + i) = 0 ↔ (r (57 + i) = 0 ∧ m_seen T N r i t = -1))) → (∀ i, i < 10 → s4 159 i = if i < MI then m_seen T N r i t else -1) → s4 146 7 = 1 → (∀ i, i ≠ 7 → s4 146 i = s 146 i) → frF s s4 → Ev layX M_X3_foresee (d + 3) 45 [(0, ev_r 146), (1, ev_i (m_lastS T r MI)), (2, ev_i (r 0 + (t : Int)))] [] s4 Q := by
      intro n
      induction n with
      | zero =>
        intro t s4 ht _ g159 g7 g146 gf
        refine wp_X3_foresee_45 ⟨fun _ => h s4 ?_ g7 g146 gf, fun q => absurd q (by omega)⟩
        intro i hi
        rw [g159 i hi]
        by_cases q : i < MI
        · rw [if_pos q, if_pos q, ← m_sees_last hN8 q hlr.2 h0, ← ht, Nat.add_zero]
        · rw [if_neg q, if_neg q]
      | succ n ih =>
        intro t s4 ht hr4 g159 g7 g146 gf
        obtain ⟨r4, hC4, hr4w, hr4o⟩ := hr4
        have hXT4 : XT s4 1 T := XT_keep hXT (fun c h1 h2 => gf c (by omega) (by omega))
        refine wp_X3_foresee_45 ⟨fun q => absurd q (by omega), fun _ => ?_⟩
        rintro _ rfl
        have hC5 := XC_sec (z := r 0 + (t : Int)) hC4
        have hXT5 : XT (ev_up s4 147 0 (r 0 + (t : Int))) 1 T := XT_keep hXT4 (fun c h1 h2 => ev_upj _ _ (by omega))
        have hokp := m_pre_ok hdim.1.2 hN8 hw t
        have hW5 : XW (ev_up s4 147 0 (r 0 + (t : Int))) 147 (m_pre T N r t) := by
          intro w hw8
          obtain ⟨v1, v2, v3⟩ := hC5.2.1 w hw8
          obtain ⟨u1, u2, u3⟩ := hr4w w hw8
          rw [rup_ne _ _ (by omega)] at v1 v2 v3
          exact ⟨v1.trans u1, v2.trans u2, v3.trans u3⟩
        refine sp_moveWards is_X2_147 (by omega) hN hN8 hdim hokp hXT5 hW5 (fun s6 hW6 hf6 => ?_)
        have e6 : ∀ c, c ≠ 147 → c ≠ 148 → c ≠ 149 → c ≠ 150 → s6 c = s4 c := fun c c0 c1 c2 c3 => by rw [hf6 c (by omega) (by omega) (by omega), ev_upj _ _ c0]
        have e60 : s6 147 0 = r 0 + (t : Int) := by rw [hf6 147 (by omega) (by omega) (by omega), ev_up_same]
        -- over the mishaps
        have inner : ∀ (m i : Nat) (s7 : ev_S), i + m = MI → s7 147 0 = r 0 + (t : Int) → XW s7 147 (m_row T N r t) → (∀ j, j < MI → (s7 156 j = 0 ↔ (r (57 + j) = 0 ∧ m_seen T N r j (if j < i then t + 1 else t) = -1))) → (∀ j, j < 10 → s7 159 j = if j < MI then m_seen T N r j (if j < i then t + 1 else t) else -1) → (∀ c, c ≠ 156 → c ≠ 159 → s7 c = s6 c) → Ev layX M_X3_foresee (d + 3) 71 [(0, ev_r 146), (1, ev_i (m_lastS T r MI)), (2, ev_i (r 0 + (t : Int))), (3, ev_i (i : Int))] [] s7 Q := by
          intro m
          induction m with
          | zero =>
            intro i s7 hi k0 kW k156 k159 kf
            have e13 : s7 1 13 = (MI : Int) := by rw [kf 1 (by omega) (by omega), e6 1 (by omega) (by omega) (by omega) (by omega), hXT4.1.2.2.2.2.2.2]; exact hM
            refine wp_X3_foresee_71 ⟨fun _ => ?_, fun q => absurd q (by omega)⟩
            rw [ev_add_eq (x := r 0 + (t : Int)) ⟨by omega, by omega⟩, show r 0 + (t : Int) + 1 = r 0 + ((t + 1 : Nat) : Int) by omega]
            refine ih (t + 1) s7 (by omega) ?_ ?_ ?_ ?_ ?_
            · refine ⟨fun x => if x = 0 then r 0 + (t : Int) else if x < 3 then r4 x else if x < 27 then m_row T N r t x else if 57 ≤ x ∧ x < 67 then s7 156 (x - 57) else r4 x, ?_, ?_, ?_⟩
              · refine ⟨⟨?_, ?_, ?_⟩, fun w hw8 => ⟨?_, ?_, ?_⟩, fun a ha => ⟨?_, ?_, ?_, ?_, ?_⟩, fun j hj => ⟨?_, ?_, ?_⟩⟩
                · simpa using k0
                · rw [kf 147 (by omega) (by omega), hf6 147 (by omega) (by omega) (by omega), ev_up_ne _ _ (by omega)]; simpa using hC4.1.2.1
                · rw [kf 147 (by omega) (by omega), hf6 147 (by omega) (by omega) (by omega), ev_up_ne _ _ (by omega)]; simpa using hC4.1.2.2
                · rw [(kW w hw8).1]; simp only; rw [if_neg (by omega), if_neg (by omega), if_pos (by omega)]
                · rw [(kW w hw8).2.1]; simp only; rw [if_neg (by omega), if_neg (by omega), if_pos (by omega)]
                · rw [(kW w hw8).2.2]; simp only; rw [if_neg (by omega), if_neg (by omega), if_pos (by omega)]
                · simp only; rw [if_neg (by omega), if_neg (by omega), if_neg (by omega), if_neg (by omega), kf _ (by omega) (by omega), e6 _ (by omega) (by omega) (by omega) (by omega)]; exact (hC4.2.2.1 a ha).1
                · simp only; rw [if_neg (by omega), if_neg (by omega), if_neg (by omega), if_neg (by omega), kf _ (by omega) (by omega), e6 _ (by omega) (by omega) (by omega) (by omega)]; exact (hC4.2.2.1 a ha).2.1
                · simp only; rw [if_neg (show ¬ 33 + a = 0 by omega), if_neg (show ¬ 33 + a < 3 by omega), if_neg (show ¬ 33 + a < 27 by omega), if_neg (show ¬ (57 ≤ 33 + a ∧ 33 + a < 67) by omega), if_neg (show ¬ 45 + a = 0 by omega), if_neg (show ¬ 45 + a < 3 by omega), if_neg (show ¬ 45 + a < 27 by omega), if_neg (show ¬ (57 ≤ 45 + a ∧ 45 + a < 67) by omega), kf _ (by omega) (by omega), e6 _ (by omega) (by omega) (by omega) (by omega)]; exact (hC4.2.2.1 a ha).2.2.1
                · simp only; rw [if_neg (by omega), if_neg (by omega), if_neg (by omega), if_neg (by omega), kf _ (by omega) (by omega), e6 _ (by omega) (by omega) (by omega) (by omega)]; exact (hC4.2.2.1 a ha).2.2.2.1
                · simp only; rw [if_neg (by omega), if_neg (by omega), if_neg (by omega), if_neg (by omega), kf _ (by omega) (by omega), e6 _ (by omega) (by omega) (by omega) (by omega)]; exact (hC4.2.2.1 a ha).2.2.2.2
                · simp only; rw [if_neg (by omega), if_neg (by omega), if_neg (by omega), if_pos (by omega), show 57 + j - 57 = j by omega]
                · simp only; rw [if_neg (by omega), if_neg (by omega), if_neg (by omega), if_neg (by omega), kf _ (by omega) (by omega), e6 _ (by omega) (by omega) (by omega) (by omega)]; exact (hC4.2.2.2 j hj).2.1
                · simp only; rw [if_neg (by omega), if_neg (by omega), if_neg (by omega), if_neg (by omega), kf _ (by omega) (by omega), e6 _ (by omega) (by omega) (by omega) (by omega)]; exact (hC4.2.2.2 j hj).2.2
              · intro w hw8
                simp only [m_pre]
                rw [if_neg (by omega), if_neg (by omega), if_pos (by omega), if_neg (by omega), if_neg (by omega), if_pos (by omega), if_neg (by omega), if_neg (by omega), if_pos (by omega), rup_ne _ _ (by omega), rup_ne _ _ (by omega), rup_ne _ _ (by omega)]
                exact ⟨rfl, rfl, rfl⟩
              · intro j hj
                simp only
                rw [if_neg (by omega), if_neg (by omega), if_neg (by omega), if_pos (by omega), show 57 + j - 57 = j by omega, k156 j hj, if_pos (by omega)]
            · intro j hj
              rw [k159 j hj]
              by_cases q : j < MI
              · rw [if_pos q, if_pos q, if_pos (by omega)]
              · rw [if_neg q, if_neg q]
            · rw [kf 146 (by omega) (by omega), e6 146 (by omega) (by omega) (by omega) (by omega)]; exact g7
            · intro j hj; rw [kf 146 (by omega) (by omega), e6 146 (by omega) (by omega) (by omega) (by omega)]; exact g146 j hj
            · intro c c1 c2; rw [kf c (by omega) (by omega), e6 c (by omega) (by omega) (by omega) (by omega)]; exact gf c c1 c2
          | succ m ihm =>
            intro i s7 hi k0 kW k156 k159 kf
            have hXT7 : XT s7 1 T := XT_keep hXT4 (fun c h1 h2 => by rw [kf c (by omega) (by omega), e6 c (by omega) (by omega) (by omega) (by omega)])
            have e13 : s7 1 13 = (MI : Int) := by rw [hXT7.1.2.2.2.2.2.2]; exact hM
            have o156 := k156 i (by omega)
            have o159 := k159 i (by omega)
            rw [if_neg (by omega)] at o156
            rw [if_pos (by omega), if_neg (by omega)] at o159
            have nx : ∀ s8 : ev_S, (∀ c, c ≠ 156 → c ≠ 159 → s8 c = s7 c) → (∀ j, j ≠ i → s8 156 j = s7 156 j ∧ s8 159 j = s7 159 j) → (s8 156 i = 0 ↔ (r (57 + i) = 0 ∧ m_seen T N r i (t + 1) = -1)) → s8 159 i = m_seen T N r i (t + 1) → Ev layX M_X3_foresee (d + 3) 71 [(0, ev_r 146), (1, ev_i (m_lastS T r MI)), (2, ev_i (r 0 + (t : Int))), (3, ev_i ((i : Int) + 1))] [] s8 Q := by
              intro s8 zf zj z156 z159
              refine ihm (i + 1) s8 (by omega) (by rw [zf 147 (by omega) (by omega)]; exact k0) (fun w hw8 => by rw [zf _ (by omega) (by omega), zf _ (by omega) (by omega), zf _ (by omega) (by omega)]; exact kW w hw8) ?_ ?_ (fun c c1 c2 => by rw [zf c c1 c2]; exact kf c c1 c2)
              · intro j hj
                by_cases e : j = i
                · subst e; rw [if_pos (by omega)]; exact z156
                · rw [(zj j e).1, k156 j hj]
                  by_cases q : j < i
                  · rw [if_pos q, if_pos (by omega)]
                  · rw [if_neg q, if_neg (by omega)]
              · intro j hj
                by_cases e : j = i
                · subst e; rw [if_pos (by omega), if_pos (by omega)]; exact z159
                · have e2 : (if j < i then t + 1 else t) = (if j < i + 1 then t + 1 else t) := by split <;> split <;> omega
                  rw [(zj j e).2, k159 j hj, e2]
            refine wp_X3_foresee_71 ⟨fun q => absurd q (by omega), fun _ => ?_⟩
            rw [Int.toNat_natCast, ev_add_eq (x := (i : Int)) (y := 1) ⟨by omega, by omega⟩]
            refine ⟨by omega, fun q => ?_, fun q => ?_⟩
            · -- over already, or seen already
              have hns : m_seen T N r i (t + 1) = m_seen T N r i t := by
                simp only [m_seen]
                by_cases e : m_seen T N r i t = -1
                · have e57 : r (57 + i) ≠ 0 := fun z => q (o156.mpr ⟨z, e⟩)
                  rw [if_neg (fun z => z e), m_comes_late (fun z => by rw [m_row_at hN8 t _ (by omega) (by omega)] at z; exact absurd z e57), e]; simp
                · rw [if_pos e]
              exact nx s7 (fun _ _ _ => rfl) (fun _ _ => ⟨rfl, rfl⟩) (by rw [hns]; exact o156) (by rw [hns]; exact o159)
            · obtain ⟨p57, pseen⟩ := o156.mp q
              refine sp_comesNow (r := m_row T N r t) is_X2_147 hN hN8 (by omega) (by omega) (hmok i (by omega)) hXT7 (by rw [m_row_0 hN8]; exact k0) (fun w hw8 => (kW w hw8).1) (by rw [m_row_at hN8 t _ (by omega) (by omega)]; exact p57) (ev_pi_mk ?_)
              by_cases c2 : m_comes T N (m_row T N r t) i = true
              · rw [if_pos c2]
                have hns : m_seen T N r i (t + 1) = r 0 + (t : Int) := by simp only [m_seen]; rw [if_neg (fun z => z pseen), if_pos c2]
                refine ⟨fun z => absurd z (by omega), fun _ => ⟨by omega, ?_⟩⟩
                rintro _ rfl
                refine ⟨by omega, ?_⟩
                rintro _ rfl
                refine nx _ (fun c c1 c2 => by rw [ev_upj _ _ c2, ev_upj _ _ c1]) (fun j hj => ⟨?_, ?_⟩) ?_ ?_
                · rw [ev_up_ne _ _ (by omega), ev_up_ne _ _ (by omega)]
                · rw [ev_up_ne _ _ (by omega), ev_up_ne _ _ (by omega)]
                · rw [ev_up_ne _ _ (by omega), ev_up_same, hns]
                  exact ⟨fun z => absurd z (by omega), fun z => by have := z.2; omega⟩
                · rw [ev_up_same, hns]
              · rw [if_neg c2]
                have hns : m_seen T N r i (t + 1) = m_seen T N r i t := by simp only [m_seen]; rw [if_neg (fun z => z pseen), if_neg c2, pseen]
                exact ⟨fun _ => nx s7 (fun _ _ _ => rfl) (fun _ _ => ⟨rfl, rfl⟩) (by rw [hns]; exact o156) (by rw [hns]; exact o159), fun z => absurd rfl z⟩
        refine inner MI 0 s6 (by omega) e60 hW6 ?_ ?_ (fun _ _ _ => rfl)
        · intro j hj
          rw [e6 156 (by omega) (by omega) (by omega) (by omega), (hC4.2.2.2 j (by omega)).1, hr4o j hj, if_neg (show ¬ j < 0 by omega)]
        · intro j hj
          rw [e6 159 (by omega) (by omega) (by omega) (by omega), g159 j hj, if_neg (show ¬ j < 0 by omega)]
    have m0 := main (m_lastS T r MI + 1 - r 0).toNat 0 s3 (by omega) ⟨r, hC3, fun w _ => ⟨rfl, rfl, rfl⟩, fun i hi => by simp [m_seen]⟩ (fun i hi => by rw [hf3 159 (by omega), f1b i hi]; simp [m_seen]) (by rw [hf3 146 (by omega)]; exact f1c) (fun i hi => by rw [hf3 146 (by omega)]; exact f1d i hi) (fun c c1 c2 => by rw [hf3 c (by omega)]; exact f1 c (by omega) c2)
    rw [show r 0 + ((0 : Nat) : Int) = r 0 by omega] at m0
    exact m0
  · rcases h7 with h7 | ⟨h7, hS⟩
    · exact absurd h7 c
    · exact h s hS h7 (fun _ _ => rfl) (fun _ _ _ => rfl)
