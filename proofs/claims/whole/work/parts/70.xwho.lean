/-! the class: who could see to what alone, where to wait -/
theorem sp_arrival {d a N A NO MI : Nat} {s T : ev_S} {r : Nat → Int} {p : Int} {Q : Option ev_V → ev_S → Prop} (hT : m_tok T N A NO MI) (h0 : 0 ≤ r 0 ∧ r 0 ≤ 600) (hXT : XT s 1 T) (hC : XC s 15 r) (ha : a < A) (hpa : m_pl T (r (27 + a))) (hp : 0 ≤ p ∧ p < 64) (h : Q (some (ev_i (r 0 + m_far (r (27 + a)) p * T 5 a))) s) : Ev layX M_X3_arrival (d + 2) 0 [(0, ev_r 146), (1, ev_i (a : Int)), (2, ev_i p)] [] s Q := by
  obtain ⟨hdim, -, ⟨hA, hA6⟩, -, ⟨hM, hM10⟩, hg, -, hpok, hmok, -⟩ := hT
  obtain ⟨⟨hp1, hp9⟩, -⟩ := hpok a ha
  have hpa6 := pl_64 hdim hpa
  have hfr := m_far_rng hpa6 hp
  have hmu : 0 ≤ m_far (r (27 + a)) p * T 5 a ∧ m_far (r (27 + a)) p * T 5 a ≤ 14 * 9 := ⟨Int.mul_nonneg hfr.1 (by omega), Int.mul_le_mul hfr.2 hp9 (by omega) (by omega)⟩
  have e19 : s 19 a = r (27 + a) := (hC.2.2.1 a (by omega)).1
  have e15 : s 15 0 = r 0 := hC.1.1
  have e5 : s 5 a = T 5 a := (hXT.2.2.2.1 a (by omega)).1
  refine wp_X3_arrival_0 ⟨by omega, ?_⟩
  rw [Int.toNat_natCast, e19]
  refine sp_stepsBetween hpa6 hp (ev_pi_mk ⟨by omega, ?_⟩)
  rw [e15, e5, ev_mul_eq ⟨by omega, by omega⟩, ev_add_eq ⟨by omega, by omega⟩]
  exact h
theorem sp_couldAlone {d a i N A NO MI : Nat} {s T : ev_S} {r : Nat → Int} {Q : Option ev_V → ev_S → Prop} (hT : m_tok T N A NO MI) (h0 : 0 ≤ r 0 ∧ r 0 ≤ 600) (hXT : XT s 1 T) (hC : XC s 15 r) (ha : a < A) (hpa : m_pl T (r (27 + a))) (hi : i < MI) (hS : XS s T N MI r) (h : Q (some (ev_i (if w_a0 T r a i ≤ m_sees T N r i then 1 else 0))) s) : Ev layX M_X3_couldAlone (d + 3) 0 [(0, ev_r 146), (1, ev_i (a : Int)), (2, ev_i (i : Int))] [] s Q := by
  have hT0 := hT
  obtain ⟨hdim, -, ⟨hA, hA6⟩, -, ⟨hM, hM10⟩, hg, -, hpok, hmok, -⟩ := hT
  obtain ⟨⟨hp1, hp9⟩, -⟩ := hpok a ha
  have hp := pl_64 hdim (hmok i hi).2.1
  have hpa6 := pl_64 hdim hpa
  have hfr := m_far_rng hpa6 hp
  have hmu : 0 ≤ m_far (r (27 + a)) (T 24 (7 * i + 1)) * T 5 a ∧ m_far (r (27 + a)) (T 24 (7 * i + 1)) * T 5 a ≤ 14 * 9 := ⟨Int.mul_nonneg hfr.1 (by omega), Int.mul_le_mul hfr.2 hp9 (by omega) (by omega)⟩
  have e159 : s 159 i = m_sees T N r i := by rw [hS i (by omega), if_pos hi]
  have ep : s 9 (7 * i + 1) = T 24 (7 * i + 1) := hXT.2.2.2.2.2.1 i (by omega) 1 (by omega)
  refine wp_X3_couldAlone_0 ?_
  rw [Int.toNat_natCast, e159, ev_mul_eq ⟨by omega, by omega⟩, ev_add_eq ⟨by omega, by omega⟩, show Int.toNat ((i : Int) * 7 + 1) = 7 * i + 1 by omega, ep]
  refine ⟨by omega, fun c => ?_, fun c => ⟨by omega, sp_arrival hT0 h0 hXT hC ha hpa hp (ev_pi_mk ⟨by omega, ?_, ?_⟩)⟩⟩
  · rw [if_neg (by unfold w_a0; omega)] at h; exact h
  · rw [e159]
    intro c2
    rw [if_neg (by unfold w_a0; omega)] at h; exact h
  · rw [e159]
    intro c2
    rw [if_pos (by unfold w_a0; omega)] at h; exact h
theorem m_seers_no {T : ev_S} {N A NO MI i : Nat} {r : Nat → Int} (hT : m_tok T N A NO MI) (h0 : 0 ≤ r 0 ∧ r 0 ≤ 600) (hpa : ∀ a, a < A → m_pl T (r (27 + a))) (hi : i < MI) (hs : m_sees T N r i = -1) : ∀ n, n ≤ A → m_seers T N r i n = 0
  | 0, _ => rfl
  | n + 1, hn => by
    have ih := m_seers_no hT h0 hpa hi hs n (by omega)
    obtain ⟨hdim, -, ⟨hA, hA6⟩, -, ⟨hM, hM10⟩, hg, -, hpok, hmok, -⟩ := hT
    obtain ⟨⟨hp1, hp9⟩, -⟩ := hpok n (by omega)
    have hfr := m_far_rng (pl_64 hdim (hpa n (by omega))) (pl_64 hdim (hmok i hi).2.1)
    have hmu : 0 ≤ m_far (r (27 + n)) (T 24 (7 * i + 1)) * T 5 n := Int.mul_nonneg hfr.1 (by omega)
    simp only [m_seers]
    rw [if_neg (by unfold w_a0; omega)]
    exact ih
theorem m_10_eq {T : ev_S} {N A NO MI i : Nat} {r : Nat → Int} (hT : m_tok T N A NO MI) (h0 : 0 ≤ r 0 ∧ r 0 ≤ 600) (hpa : ∀ a, a < A → m_pl T (r (27 + a))) (hi : i < MI) : m_10 T N A r i = ((m_seers T N r i A : Nat) : Int) := by
  unfold m_10
  split
  · rename_i c
    rw [m_seers_no hT h0 hpa hi c A (Nat.le_refl A)]; rfl
  · rfl
theorem sp_whoCould {d i N A NO MI : Nat} {s T : ev_S} {r : Nat → Int} {Q : Option ev_V → ev_S → Prop} (hT : m_tok T N A NO MI) (h0 : 0 ≤ r 0 ∧ r 0 ≤ 600) (hw : ∀ v, v < N → m_wok T r v) (hpa : ∀ a, a < A → m_pl T (r (27 + a))) (hXT : XT s 1 T) (hC : XC s 15 r) (h7 : s 146 7 = 0 ∨ (s 146 7 = 1 ∧ XS s T N MI r)) (hi : i < MI)
    (h : ∀ s', XS s' T N MI r → s' 146 7 = 1 → (∀ i, i ≠ 7 → s' 146 i = s 146 i) → frF s s' → Q (some (ev_i ((m_seers T N r i A : Nat) : Int))) s') : Ev layX M_X3_whoCould (d + 4) 0 [(0, ev_r 146), (1, ev_i (i : Int))] [] s Q := by
  have hT0 := hT
  obtain ⟨hdim, -, ⟨hA, hA6⟩, -, ⟨hM, hM10⟩, hg, -, hpok, hmok, -⟩ := hT
  refine wp_X3_whoCould_0 (sp_foresee hT0 h0 hw hXT hC h7 (fun s1 z1 z2 z3 z4 => ?_))
  have hXT1 : XT s1 1 T := XT_keep hXT (fun c h1 h2 => z4 c (by omega) (by omega))
  have hC1 : XC s1 15 r := XC_keep hC (fun c h1 h2 => z4 c (by omega) (by omega))
  have e7 : s1 1 7 = (A : Int) := by rw [hXT1.1.2.2.2.2.1]; exact hA
  have key : ∀ n a : Nat, a + n = A → Ev layX M_X3_whoCould (d + 4) 8 [(0, ev_r 146), (1, ev_i (i : Int)), (2, ev_i ((m_seers T N r i a : Nat) : Int)), (3, ev_i (a : Int))] [] s1 Q := by
    intro n
    induction n with
    | zero =>
      intro a ha
      have : a = A := by omega
      subst this
      exact wp_X3_whoCould_8 ⟨fun _ => h s1 z1 z2 z3 z4, fun q => absurd q (by omega)⟩
    | succ n ih =>
      intro a ha
      have i2 := ih (a + 1) (by omega)
      have hml := m_seers_lt (T := T) (N := N) (r := r) (i := i) a
      have p2 : 2 ^ a ≤ 64 := by have := Nat.pow_le_pow_right (n := 2) (by omega) (show a ≤ 6 by omega); omega
      simp only [m_seers] at i2
      refine wp_X3_whoCould_8 ⟨fun q => absurd q (by omega), fun _ => sp_couldAlone hT0 h0 hXT1 hC1 (by omega) (hpa a (by omega)) hi z1 (ev_pi_mk ?_)⟩
      rw [ev_shl1 (by omega), ev_or_nat (by omega) (by omega), ev_add_eq (x := (a : Int)) (y := 1) ⟨by omega, by omega⟩]
      by_cases c : w_a0 T r a i ≤ m_sees T N r i
      · rw [if_pos c] at i2 ⊢
        exact ⟨fun q => absurd q (by omega), fun _ => i2⟩
      · rw [if_neg c] at i2 ⊢
        exact ⟨fun _ => i2, fun q => absurd rfl q⟩
  exact key A 0 (by omega)
theorem sp_seenToBy {d many N A NO MI : Nat} {s T : ev_S} {r : Nat → Int} {Q : Option ev_V → ev_S → Prop} (hT : m_tok T N A NO MI) (h0 : 0 ≤ r 0 ∧ r 0 ≤ 600) (hw : ∀ v, v < N → m_wok T r v) (hpa : ∀ a, a < A → m_pl T (r (27 + a))) (hXT : XT s 1 T) (hC : XC s 15 r) (h7 : s 146 7 = 0 ∨ (s 146 7 = 1 ∧ XS s T N MI r))
    (h : ∀ s', XS s' T N MI r → s' 146 7 = 1 → (∀ i, i ≠ 7 → s' 146 i = s 146 i) → frF s s' → Q (some (ev_i ((m_sby T N A r many MI : Nat) : Int))) s') : Ev layX M_X3_seenToBy (d + 5) 0 [(0, ev_r 146), (1, ev_i (many : Int))] [] s Q := by
  have hT0 := hT
  obtain ⟨hdim, -, ⟨hA, hA6⟩, -, ⟨hM, hM10⟩, hg, -, hpok, hmok, -⟩ := hT
  refine wp_X3_seenToBy_0 (sp_foresee hT0 h0 hw hXT hC h7 (fun s1 z1 z2 z3 z4 => ?_))
  have key : ∀ (n i : Nat) (s2 : ev_S), i + n = MI → XS s2 T N MI r → s2 146 7 = 1 → (∀ i, i ≠ 7 → s2 146 i = s 146 i) → frF s s2 → Ev layX M_X3_seenToBy (d + 5) 8 [(0, ev_r 146), (1, ev_i (many : Int)), (2, ev_i ((m_sby T N A r many i : Nat) : Int)), (3, ev_i (i : Int))] [] s2 Q := by
    intro n
    induction n with
    | zero =>
      intro i s2 hi y1 y2 y3 y4
      have hXT1 : XT s2 1 T := XT_keep hXT (fun c h1 h2 => y4 c (by omega) (by omega))
      have e13 : s2 1 13 = (MI : Int) := by rw [hXT1.1.2.2.2.2.2.2]; exact hM
      have : i = MI := by omega
      subst this
      exact wp_X3_seenToBy_8 ⟨fun _ => h s2 y1 y2 y3 y4, fun q => absurd q (by omega)⟩
    | succ n ih =>
      intro i s2 hi y1 y2 y3 y4
      have hXT1 : XT s2 1 T := XT_keep hXT (fun c h1 h2 => y4 c (by omega) (by omega))
      have hC1 : XC s2 15 r := XC_keep hC (fun c h1 h2 => y4 c (by omega) (by omega))
      have e13 : s2 1 13 = (MI : Int) := by rw [hXT1.1.2.2.2.2.2.2]; exact hM
      have e159 : s2 159 i = m_sees T N r i := by rw [y1 i (by omega), if_pos (by omega)]
      have hml := m_sby_lt (T := T) (N := N) (A := A) (r := r) (many := many) i
      have p2 : 2 ^ i ≤ 1024 := by have := Nat.pow_le_pow_right (n := 2) (by omega) (show i ≤ 10 by omega); omega
      have i2 := fun s3 => ih (i + 1) s3 (by omega)
      simp only [m_sby] at i2
      refine wp_X3_seenToBy_8 ⟨fun q => absurd q (by omega), fun _ => ?_⟩
      rw [Int.toNat_natCast, e159, ev_shl1 (by omega), ev_or_nat (by omega) (by omega), ev_add_eq (x := (i : Int)) (y := 1) ⟨by omega, by omega⟩]
      refine ⟨by omega, fun q => ?_, fun q => sp_whoCould hT0 h0 hw hpa hXT1 hC1 (Or.inr ⟨y2, y1⟩) (by omega) (fun s3 x1 x2 x3 x4 => ev_pi_mk (sp_bitCount ?_ (ev_pi_mk ⟨fun q2 => ?_, fun q2 => ?_⟩)))⟩
      · have := i2 s2 y1 y2 y3 y4
        rw [if_neg (fun z => z.1 q)] at this
        exact this
      · have := m_seers_lt (T := T) (N := N) (r := r) (i := i) A
        have p3 : 2 ^ A ≤ 64 := by have := Nat.pow_le_pow_right (n := 2) (by omega) hA6; omega
        omega
      · have := i2 s3 x1 x2 (fun j hj => by rw [x3 j hj]; exact y3 j hj) (fun c hc hc2 => by rw [x4 c hc hc2]; exact y4 c hc hc2)
        rw [if_neg (fun z => q2 (by rw [z.2]))] at this
        exact this
      · have := i2 s3 x1 x2 (fun j hj => by rw [x3 j hj]; exact y3 j hj) (fun c hc hc2 => by rw [x4 c hc hc2]; exact y4 c hc hc2)
        rw [if_pos ⟨q, by omega⟩] at this
        exact this
  exact key MI 0 s1 (by omega) z1 z2 z3 z4
theorem sp_bestWait {d a N A NO MI : Nat} {s T : ev_S} {r : Nat → Int} {Q : Option ev_V → ev_S → Prop} (hT : m_tok T N A NO MI) (h0 : 0 ≤ r 0 ∧ r 0 ≤ 600) (hw : ∀ v, v < N → m_wok T r v) (hpa : m_pl T (r (27 + a))) (ha : a < A) (hXT : XT s 1 T) (hC : XC s 15 r) (h7 : s 146 7 = 0 ∨ (s 146 7 = 1 ∧ XS s T N MI r))
    (h : ∀ s', XS s' T N MI r → s' 146 7 = 1 → (∀ i, i ≠ 7 → s' 146 i = s 146 i) → frF s s' → Q (some (ev_i ((m_bw T N MI r a 64 : Nat) : Int))) s') : Ev layX M_X3_bestWait (d + 4) 0 [(0, ev_r 146), (1, ev_i (a : Int))] [] s Q := by
  have hT0 := hT
  obtain ⟨hdim, -, ⟨hA, hA6⟩, -, ⟨hM, hM10⟩, hg, -, hpok, hmok, -⟩ := hT
  refine wp_X3_bestWait_0 (sp_foresee hT0 h0 hw hXT hC h7 (fun s1 z1 z2 z3 z4 => ?_))
  have hXT1 : XT s1 1 T := XT_keep hXT (fun c h1 h2 => z4 c (by omega) (by omega))
  have hC1 : XC s1 15 r := XC_keep hC (fun c h1 h2 => z4 c (by omega) (by omega))
  have e13 : s1 1 13 = (MI : Int) := by rw [hXT1.1.2.2.2.2.2.2]; exact hM
  -- the risks at one place
  have inner : ∀ (best most : Int) (c : Nat), c < 64 → ((m_ra T N r a (c : Int) MI ≤ most → Ev layX M_X3_bestWait (d + 4) 11 [(0, ev_r 146), (1, ev_i (a : Int)), (2, ev_i best), (3, ev_i most), (4, ev_i ((c : Int) + 1))] [] s1 Q) ∧ (most < m_ra T N r a (c : Int) MI → Ev layX M_X3_bestWait (d + 4) 11 [(0, ev_r 146), (1, ev_i (a : Int)), (2, ev_i (c : Int)), (3, ev_i (m_ra T N r a (c : Int) MI)), (4, ev_i ((c : Int) + 1))] [] s1 Q)) → ∀ n i : Nat, i + n = MI → Ev layX M_X3_bestWait (d + 4) 24 [(0, ev_r 146), (1, ev_i (a : Int)), (2, ev_i best), (3, ev_i most), (4, ev_i (c : Int)), (5, ev_i (m_ra T N r a (c : Int) i)), (6, ev_i (i : Int))] [] s1 Q := by
    intro best most c hc hk n
    induction n with
    | zero =>
      intro i hi
      have : i = MI := by omega
      subst this
      refine wp_X3_bestWait_24 ⟨fun _ => ?_, fun q => absurd q (by omega)⟩
      rw [ev_add_eq (x := (c : Int)) (y := 1) ⟨by omega, by omega⟩]
      exact hk
    | succ n ih =>
      intro i hi
      have i2 := ih (i + 1) (by omega)
      simp only [m_ra] at i2
      have hrr := m_ra_rng (T := T) (N := N) (r := r) (a := a) (c := (c : Int)) hmok i (by omega)
      have hr2 := m_risk_rng (hmok i (by omega))
      have ep : s1 9 (7 * i + 1) = T 24 (7 * i + 1) := hXT1.2.2.2.2.2.1 i (by omega) 1 (by omega)
      refine wp_X3_bestWait_24 ⟨fun q => absurd q (by omega), fun _ => ?_⟩
      rw [ev_mul_eq ⟨by omega, by omega⟩, ev_add_eq (x := (i : Int) * 7) ⟨by omega, by omega⟩, show Int.toNat ((i : Int) * 7 + 1) = 7 * i + 1 by omega, ep, ev_add_eq (x := (i : Int)) (y := 1) ⟨by omega, by omega⟩]
      refine ⟨by omega, fun q => ?_, fun q => sp_couldAlone hT0 h0 hXT1 hC1 ha hpa (by omega) z1 (ev_pi_mk ?_)⟩
      · rw [if_neg (fun z => q z.2.1)] at i2; exact i2
      · by_cases q2 : w_a0 T r a i ≤ m_sees T N r i
        · rw [if_pos q2]
          refine ⟨fun q3 => absurd q3 (by omega), fun _ => sp_risk (by omega) (by omega) (hmok i (by omega)) hXT1 (ev_pi_mk ?_)⟩
          have hfr := m_far_rng (pl_64 hdim hpa) (pl_64 hdim (hmok i (by omega)).2.1)
          have hmu : 0 ≤ m_far (r (27 + a)) (T 24 (7 * i + 1)) * T 5 a := Int.mul_nonneg hfr.1 (by have := (hpok a ha).1.1; omega)
          unfold w_a0 at q2
          rw [if_pos ⟨by omega, q, by rw [← q]; exact q2⟩] at i2
          rw [ev_add_eq ⟨by omega, by omega⟩]
          exact i2
        · rw [if_neg q2]
          refine ⟨fun _ => ?_, fun q3 => absurd rfl q3⟩
          rw [if_neg (fun z => q2 (by unfold w_a0; rw [q]; exact z.2.2))] at i2
          exact i2
  have key : ∀ (n c : Nat) (most : Int), c + n = 64 → (most = if c = 0 then 0 else m_ra T N r a (m_bw T N MI r a c : Int) MI) → Ev layX M_X3_bestWait (d + 4) 11 [(0, ev_r 146), (1, ev_i (a : Int)), (2, ev_i ((m_bw T N MI r a c : Nat) : Int)), (3, ev_i most), (4, ev_i (c : Int))] [] s1 Q := by
    intro n
    induction n with
    | zero =>
      intro c most hc _
      have : c = 64 := by omega
      subst this
      exact wp_X3_bestWait_11 ⟨fun _ => h s1 z1 z2 z3 z4, fun q => absurd q (by omega)⟩
    | succ n ih =>
      intro c most hc hm
      refine wp_X3_bestWait_11 ⟨fun q => absurd q (by omega), fun _ => ?_⟩
      have hrr := m_ra_rng (T := T) (N := N) (r := r) (a := a) (c := (c : Int)) hmok MI (by omega)
      have := inner ((m_bw T N MI r a c : Nat) : Int) most c (by omega) ⟨fun q => ?_, fun q => ?_⟩ MI 0 (by omega)
      · exact this
      · have i2 := ih (c + 1) most (by omega) (by
          rw [if_neg (by omega), hm]
          by_cases e : c = 0
          · subst e
            rw [if_pos rfl] at hm ⊢
            have e1 : m_bw T N MI r a (0 + 1) = 0 := by simp [m_bw]
            rw [e1]
            have : ((0 : Nat) : Int) = 0 := rfl
            omega
          · rw [if_neg e] at hm ⊢
            simp only [m_bw]
            rw [if_neg (by omega)])
        have e1 : m_bw T N MI r a (c + 1) = m_bw T N MI r a c := by
          simp only [m_bw]
          by_cases e : c = 0
          · subst e; simp [m_bw]
          · rw [if_neg e] at hm
            rw [if_neg (by omega)]
        rw [e1] at i2
        exact i2
      · have e1 : m_bw T N MI r a (c + 1) = c := by
          simp only [m_bw]
          by_cases e : c = 0
          · subst e; simp [m_bw]
          · rw [if_neg e] at hm
            rw [if_pos (by omega)]
        have i2 := ih (c + 1) (m_ra T N r a (c : Int) MI) (by omega) (by rw [if_neg (by omega), e1])
        rw [e1] at i2
        exact i2
  exact key 64 0 0 (by omega) (by rw [if_pos rfl])
