/-! FEWEST and the rest, the class -/
/-- there is a greatest risk for every group -/
theorem g_mx_ex {T : ev_S} {N A NO MI : Nat} {r : Nat → Int} (hT : m_tok T N A NO MI) (G : Nat) (hG : G < 2 ^ A) : ∃ v, w_mx T N A MI r G 0 v := by
  have hM10 := hT.2.2.2.2.1.2
  have hmok := hT.2.2.2.2.2.2.2.2.1
  have step : ∀ (n : Nat) (S : Nat), g_cov (w_ca T N A MI r) A G S → 99000 - rk (m_risk T) MI S ≤ (n : Int) → ∃ v, w_mx T N A MI r G 0 v := by
    intro n
    induction n with
    | zero =>
      intro S hS hn
      refine ⟨rk (m_risk T) MI S, ⟨S, hS, fun i hi => by rw [tb_dif, g_cov_all hS i hi]; simp, rfl⟩, fun S' _ _ => ?_⟩
      have := rk_r (T := T) hmok S' MI (Nat.le_refl _)
      omega
    | succ n ih =>
      intro S hS hn
      by_cases q : ∃ S', g_cov (w_ca T N A MI r) A G S' ∧ rk (m_risk T) MI S < rk (m_risk T) MI S'
      · obtain ⟨S', q1, q2⟩ := q
        exact ih S' q1 (by omega)
      · refine ⟨rk (m_risk T) MI S, ⟨S, hS, fun i hi => by rw [tb_dif, g_cov_all hS i hi]; simp, rfl⟩, fun S' h1 _ => ?_⟩
        rcases (show rk (m_risk T) MI S < rk (m_risk T) MI S' ∨ rk (m_risk T) MI S' ≤ rk (m_risk T) MI S by omega) with z | z
        · exact absurd ⟨S', h1, z⟩ q
        · exact z
  refine step 99000 0 ⟨fun _ => 0, ⟨fun a => w_ca_0 a, fun _ _ => rfl, fun a b i h => by simp at h⟩, (eq_tb (fun i => by rw [tb_uni]; simp))⟩ ?_
  rw [rk_0]; omega
theorem w_few_ex {T : ev_S} {N A MI : Nat} {r : Nat → Int} : ∃ b, w_few T N A MI r b := by
  have hA1 : 1 ≤ 2 ^ A := Nat.one_le_two_pow
  have step : ∀ (n b : Nat), 2 ^ A * pop 10 b + b ≤ n → b < 2 ^ A → v_mo T N A MI r b = v_mo T N A MI r (2 ^ A - 1) → ∃ b, w_few T N A MI r b := by
    intro n
    induction n using Nat.strongRecOn with
    | _ n ih =>
      intro b hn hb hm
      by_cases q : ∃ w, w < 2 ^ A ∧ v_mo T N A MI r w = v_mo T N A MI r (2 ^ A - 1) ∧ 2 ^ A * pop 10 w + w < 2 ^ A * pop 10 b + b
      · obtain ⟨w, q1, q2, q3⟩ := q
        exact ih (2 ^ A * pop 10 w + w) (by omega) w (Nat.le_refl _) q1 q2
      · refine ⟨b, hb, hm, fun w hw hmw => ?_⟩
        have hge : 2 ^ A * pop 10 b + b ≤ 2 ^ A * pop 10 w + w := by
          rcases Nat.lt_or_ge (2 ^ A * pop 10 w + w) (2 ^ A * pop 10 b + b) with z | z
          · exact absurd ⟨w, hw, hmw, z⟩ q
          · exact z
        rcases Nat.lt_trichotomy (pop 10 b) (pop 10 w) with z | z | z
        · exact Or.inl z
        · right; rw [z] at hge; exact ⟨z, by omega⟩
        · exfalso
          have := Nat.mul_le_mul_left (2 ^ A) (show pop 10 w + 1 ≤ pop 10 b from z)
          rw [Nat.mul_add] at this
          omega
  exact step _ (2 ^ A - 1) (Nat.le_refl _) (by omega) rfl
theorem v_few_lt {T : ev_S} {N A NO MI : Nat} {r : Nat → Int} (_ : m_tok T N A NO MI) : v_few T N A MI r < 2 ^ A := by
  obtain ⟨b, hb⟩ := w_few_ex (T := T) (N := N) (A := A) (MI := MI) (r := r)
  rw [← v_few_eq hb]; exact hb.1
def bcx (a0 : Int) : Int := (ev_and (ev_add (ev_add (ev_and (ev_add (ev_add (ev_and (ev_sub a0 (ev_and (ev_ushr a0 1) 1431655765)) 858993459) (ev_and (ev_ushr (ev_sub a0 (ev_and (ev_ushr a0 1) 1431655765)) 2) 858993459)) (ev_ushr (ev_add (ev_and (ev_sub a0 (ev_and (ev_ushr a0 1) 1431655765)) 858993459) (ev_and (ev_ushr (ev_sub a0 (ev_and (ev_ushr a0 1) 1431655765)) 2) 858993459)) 4)) 252645135) (ev_ushr (ev_and (ev_add (ev_add (ev_and (ev_sub a0 (ev_and (ev_ushr a0 1) 1431655765)) 858993459) (ev_and (ev_ushr (ev_sub a0 (ev_and (ev_ushr a0 1) 1431655765)) 2) 858993459)) (ev_ushr (ev_add (ev_and (ev_sub a0 (ev_and (ev_ushr a0 1) 1431655765)) 858993459) (ev_and (ev_ushr (ev_sub a0 (ev_and (ev_ushr a0 1) 1431655765)) 2) 858993459)) 4)) 252645135) 8)) (ev_ushr (ev_add (ev_and (ev_add (ev_add (ev_and (ev_sub a0 (ev_and (ev_ushr a0 1) 1431655765)) 858993459) (ev_and (ev_ushr (ev_sub a0 (ev_and (ev_ushr a0 1) 1431655765)) 2) 858993459)) (ev_ushr (ev_add (ev_and (ev_sub a0 (ev_and (ev_ushr a0 1) 1431655765)) 858993459) (ev_and (ev_ushr (ev_sub a0 (ev_and (ev_ushr a0 1) 1431655765)) 2) 858993459)) 4)) 252645135) (ev_ushr (ev_and (ev_add (ev_add (ev_and (ev_sub a0 (ev_and (ev_ushr a0 1) 1431655765)) 858993459) (ev_and (ev_ushr (ev_sub a0 (ev_and (ev_ushr a0 1) 1431655765)) 2) 858993459)) (ev_ushr (ev_add (ev_and (ev_sub a0 (ev_and (ev_ushr a0 1) 1431655765)) 858993459) (ev_and (ev_ushr (ev_sub a0 (ev_and (ev_ushr a0 1) 1431655765)) 2) 858993459)) 4)) 252645135) 8)) 16)) 63)
theorem bcx_ok : ∀ n : Nat, n < 1024 → bcx (n : Int) = ((pop 10 n : Nat) : Int) := by decide +kernel
theorem sp_bitCount {d n : Nat} {s : ev_S} {Q : Option ev_V → ev_S → Prop} (hn : n < 1024) (h : Q (some (ev_i ((pop 10 n : Nat) : Int))) s) : Ev layX M_J6_bitCount_0f7a4 d 0 [(0, ev_i (n : Int))] [] s Q := by
  rw [← bcx_ok n hn] at h
  exact wp_J6_bitCount_0f7a4_0 h
theorem sp_spread {d S N A NO MI : Nat} {s T : ev_S} {r : Nat → Int} {Q : Option ev_V → ev_S → Prop} (hT : m_tok T N A NO MI) (hP : XP s T N MI r) (hS : S < 2 ^ w_pc T N r MI) (h : Q (some (ev_i ((w_x T N MI r S : Nat) : Int))) s) : Ev layX M_X1_spread d 0 [(0, ev_r 162), (1, ev_i (S : Int))] [] s Q := by
  have hM10 := hT.2.2.2.2.1.2
  have hcle := w_pc_le (T := T) (N := N) (r := r) MI
  have hc10 := pow_10 (n := w_pc T N r MI) (by omega)
  obtain ⟨ok1, ok2, ok3⟩ := w_pp_ok (T := T) (N := N) (r := r) MI
  refine wp_X1_spread_0 ?_
  have key : ∀ k n : Nat, n + k = w_pc T N r MI → Ev layX M_X1_spread d 4 [(0, ev_r 162), (1, ev_i (S : Int)), (2, ev_i ((xs (w_pp T N r MI) n S : Nat) : Int)), (3, ev_i (n : Int))] [] s Q := by
    intro k
    induction k with
    | zero =>
      intro n hn
      have : n = w_pc T N r MI := by omega
      subst this
      exact wp_X1_spread_4 ⟨fun _ => h, fun q => absurd q (by rw [hP.1]; omega)⟩
    | succ k ih =>
      intro n hn
      have i2 := ih (n + 1) (by omega)
      have nc : n < w_pc T N r MI := by omega
      have hpn := (ok1 n nc).1
      have p2 := pow_10 (n := w_pp T N r MI n) (by omega)
      have hxl : xs (w_pp T N r MI) n S < 2 ^ 10 := tb_lt (fun i hi => by
        cases q : (xs (w_pp T N r MI) n S).testBit i
        · rfl
        · obtain ⟨m, m1, m2, m3⟩ := tb_xs.mp q
          have := (ok1 m (by omega)).1
          omega)
      refine wp_X1_spread_4 ⟨fun q => absurd q (by rw [hP.1]; omega), fun _ => ?_⟩
      rw [ev_bit (by omega) (by omega), Int.toNat_natCast, (hP.2 n nc).1, ev_shl1 (by omega), ev_or_nat (by omega) (by omega), ev_add_eq (x := (n : Int)) (y := 1) ⟨by omega, by omega⟩]
      simp only [xs] at i2
      by_cases c : S.testBit n = true
      · rw [if_pos c] at i2 ⊢
        exact ⟨fun q => absurd q (by omega), fun _ => ⟨by omega, i2⟩⟩
      · rw [if_neg c] at i2 ⊢
        exact ⟨fun _ => i2, fun q => absurd rfl q⟩
  exact key (w_pc T N r MI) 0 (by omega)
theorem w_x_full {T : ev_S} {N MI : Nat} {r : Nat → Int} : w_x T N MI r (2 ^ w_pc T N r MI - 1) = w_all T N r MI := eq_tb (fun i => by
  unfold w_x
  rw [tb_xs, tb_all]
  obtain ⟨ok1, ok2, ok3⟩ := w_pp_ok (T := T) (N := N) (r := r) MI
  constructor
  · rintro ⟨n, n1, n2, n3⟩
    have := ok1 n n1
    rw [n3] at this; exact this
  · intro q
    obtain ⟨k, k1, k2⟩ := ok3 i q.1 q.2
    exact ⟨k, k1, by rw [Nat.testBit_two_pow_sub_one]; exact decide_eq_true k1, k2⟩)
theorem sp_xsetOf {d a N A NO MI : Nat} {s T : ev_S} {r : Nat → Int} {Q : Option ev_V → ev_S → Prop} (hT : m_tok T N A NO MI) (hX : XCare s T N A MI r) (ha : a < A)
    (h : ∀ s', XCare s' T N A MI r → s' 162 19 = s 162 19 → frG s s' → Q (some (ev_i ((v_ch T N A MI r a : Nat) : Int))) s') : Ev layX M_X1_setOf (d + 6) 0 [(0, ev_r 162), (1, ev_i (a : Int))] [] s Q := by
  have hA6 := hT.2.2.1.2
  refine wp_X1_setOf_0 (sp_choose hT hX (fun s1 z1 z2 z3 z4 => ⟨by omega, ?_⟩))
  obtain ⟨c, c1, c2, c3⟩ := z2 a ha
  rw [Int.toNat_natCast, c2]
  refine sp_spread hT z1.1.1 c1 (ev_pi_mk ?_)
  rw [c3]
  exact h s1 z1 z3 z4
theorem sp_setLeft {d N A NO MI : Nat} {s T : ev_S} {r : Nat → Int} {Q : Option ev_V → ev_S → Prop} (hT : m_tok T N A NO MI) (hX : XCare s T N A MI r)
    (h : ∀ s', XCare s' T N A MI r → s' 162 19 = s 162 19 → frG s s' → Q (some (ev_i ((dif (w_all T N r MI) (uni (v_ch T N A MI r) A) : Nat) : Int))) s') : Ev layX M_X1_setLeft (d + 6) 0 [(0, ev_r 162)] [] s Q := by
  have hA6 := hT.2.2.1.2
  have hM10 := hT.2.2.2.2.1.2
  have hcle := w_pc_le (T := T) (N := N) (r := r) MI
  have hc10 := pow_10 (n := w_pc T N r MI) (by omega)
  have hC1 : 1 ≤ 2 ^ w_pc T N r MI := Nat.one_le_two_pow
  obtain ⟨ok1, ok2, ok3⟩ := w_pp_ok (T := T) (N := N) (r := r) MI
  refine wp_X1_setLeft_0 (sp_choose hT hX (fun s1 z1 z2 z3 z4 => sp_full hM10 z1.1.1.1 (ev_pi_mk ?_)))
  have key : ∀ k a L : Nat, a + k = A → L < 2 ^ w_pc T N r MI → w_x T N MI r L = dif (w_all T N r MI) (uni (v_ch T N A MI r) a) → Ev layX M_X1_setLeft (d + 6) 11 [(0, ev_r 162), (1, ev_i (L : Int)), (2, ev_i (a : Int))] [] s1 Q := by
    intro k
    induction k with
    | zero =>
      intro a L ha hL e
      have : a = A := by omega
      subst this
      refine wp_X1_setLeft_11 ⟨fun _ => sp_spread hT z1.1.1 hL (ev_pi_mk ?_), fun q => absurd q (by rw [z1.1.2.2.2.2]; omega)⟩
      rw [e]
      exact h s1 z1 z3 z4
    | succ k ih =>
      intro a L ha hL e
      obtain ⟨c, c1, c2, c3⟩ := z2 a (by omega)
      have dl := dif_le L c
      refine wp_X1_setLeft_11 ⟨fun q => absurd q (by rw [z1.1.2.2.2.2]; omega), fun _ => ⟨by omega, ?_⟩⟩
      rw [Int.toNat_natCast, c2, ev_andn (by omega) (by omega), ev_add_eq (x := (a : Int)) (y := 1) ⟨by omega, by omega⟩]
      refine ih (a + 1) (dif L c) (by omega) (by omega) ?_
      have e2 : w_x T N MI r (dif L c) = dif (w_x T N MI r L) (w_x T N MI r c) := by unfold w_x; exact xs_dif ok2
      rw [e2, e, c3]
      simp only [uni]
      exact eq_tb (fun i => by
        simp only [tb_dif, Nat.testBit_or]
        cases (w_all T N r MI).testBit i <;> cases (uni (v_ch T N A MI r) a).testBit i <;> cases (v_ch T N A MI r a).testBit i <;> simp)
  refine key A 0 _ (by omega) (by omega) ?_
  rw [w_x_full]
  exact eq_tb (fun i => by rw [tb_dif]; simp [uni])
theorem XCare_mo {s s' T : ev_S} {N A MI : Nat} {r : Nat → Int} (hX : XCare s T N A MI r) (hV : XCov s' T N A MI r) (hf : ∀ c, c ≠ 169 → c ≠ 172 → s' c = s c) : XCare s' T N A MI r := by
  obtain ⟨hK, -, hCh, hFe⟩ := hX
  refine ⟨XK0_keep hK (by rw [hf 162 (by omega) (by omega)]) (fun c hc => hf c (by omega) (by omega)), hV, ?_, ?_⟩
  · rw [hf 162 (by omega) (by omega)]; unfold XCh; rw [hf 174 (by omega) (by omega)]; exact hCh
  · rw [hf 162 (by omega) (by omega)]; exact hFe
theorem mo_rng {T : ev_S} {N A NO MI : Nat} {r : Nat → Int} {G : Nat} (hT : m_tok T N A NO MI) (h : w_mx T N A MI r G 0 (v_mo T N A MI r G)) : 0 ≤ v_mo T N A MI r G ∧ v_mo T N A MI r G ≤ 99000 := w_mx_rng hT h
theorem sp_riskLeft {d N A NO MI : Nat} {s T : ev_S} {r : Nat → Int} {Q : Option ev_V → ev_S → Prop} (hT : m_tok T N A NO MI) (hX : XCare s T N A MI r)
    (h : ∀ s', XCare s' T N A MI r → s' 162 19 = s 162 19 → frG s s' → Q (some (ev_i (rk (m_risk T) MI (w_all T N r MI) - v_mo T N A MI r (2 ^ A - 1)))) s') : Ev layX M_X1_riskLeft (d + 5) 0 [(0, ev_r 162)] [] s Q := by
  have hA6 := hT.2.2.1.2
  have hM10 := hT.2.2.2.2.1.2
  have hA1 : 1 ≤ 2 ^ A := Nat.one_le_two_pow
  have hcle := w_pc_le (T := T) (N := N) (r := r) MI
  have hc10 := pow_10 (n := w_pc T N r MI) (by omega)
  have hC1 : 1 ≤ 2 ^ w_pc T N r MI := Nat.one_le_two_pow
  refine wp_X1_riskLeft_0 (sp_full hM10 hX.1.1.1 (ev_pi_mk ⟨by omega, sp_everybody hX.1.2.2.2.2 hA6 (ev_pi_mk (sp_most hT hX.1 hX.2.1 (by omega) (fun s1 z1 z2 zS zM z3 => ev_pi_mk ?_)))⟩))
  have g := mo_rng hT zM
  have ra := rk_r (T := T) hT.2.2.2.2.2.2.2.2.1 (w_all T N r MI) MI (Nat.le_refl _)
  rw [Int.toNat_natCast, hX.1.2.1 _ (by omega), ← w_rk_eq, w_x_full, ev_sub_eq ⟨by omega, by omega⟩]
  exact h s1 (XCare_mo hX z1 z3) (by rw [z3 162 (by omega) (by omega)]) (fun c hc => z3 c (by omega) (by omega))
theorem sp_worth {d a N A NO MI : Nat} {s T : ev_S} {r : Nat → Int} {Q : Option ev_V → ev_S → Prop} (hT : m_tok T N A NO MI) (hX : XCare s T N A MI r) (ha : a < A)
    (h : ∀ s', XCare s' T N A MI r → s' 162 19 = s 162 19 → frG s s' → Q (some (ev_i (v_mo T N A MI r (2 ^ A - 1) - v_mo T N A MI r (dif (2 ^ A - 1) (2 ^ a))))) s') : Ev layX M_X1_worth (d + 5) 0 [(0, ev_r 162), (1, ev_i (a : Int))] [] s Q := by
  have hA6 := hT.2.2.1.2
  have hA1 : 1 ≤ 2 ^ A := Nat.one_le_two_pow
  have hA2 : 2 ^ A ≤ 64 := by have := Nat.pow_le_pow_right (n := 2) (by omega) hA6; omega
  have pa : 2 ^ a ≤ 64 := by have := Nat.pow_le_pow_right (n := 2) (by omega) (show a ≤ 6 by omega); omega
  have dl := dif_le (2 ^ A - 1) (2 ^ a)
  refine wp_X1_worth_0 (sp_everybody hX.1.2.2.2.2 hA6 (ev_pi_mk (sp_most hT hX.1 hX.2.1 (by omega) (fun s1 z1 z2 zS zM z3 => ev_pi_mk ?_))))
  have hX1 := XCare_mo hX z1 z3
  refine sp_everybody hX1.1.2.2.2.2 hA6 (ev_pi_mk ?_)
  rw [ev_shl1 (by omega), ev_andn (by omega) (by omega)]
  refine sp_most hT hX1.1 hX1.2.1 (by omega) (fun s2 y1 y2 yS yM y3 => ev_pi_mk ?_)
  have g1 := mo_rng hT zM
  have g2 := mo_rng hT yM
  rw [ev_sub_eq ⟨by omega, by omega⟩]
  exact h s2 (XCare_mo hX1 y1 y3) (by rw [y3 162 (by omega) (by omega), z3 162 (by omega) (by omega)]) (fun c hc => by rw [y3 c (by omega) (by omega), z3 c (by omega) (by omega)])
/-- what one or another of a group could see to alone -/
def w_un (T : ev_S) (N MI : Nat) (r : Nat → Int) (G : Nat) : Nat → Nat
  | 0 => 0
  | a + 1 => if G.testBit a then w_un T N MI r G a ||| w_al T N MI r a (w_pc T N r MI) else w_un T N MI r G a
theorem tb_un {T : ev_S} {N MI : Nat} {r : Nat → Int} {G n : Nat} : ∀ {c : Nat}, (w_un T N MI r G c).testBit n = true ↔ ∃ a, a < c ∧ G.testBit a = true ∧ (w_al T N MI r a (w_pc T N r MI)).testBit n = true
  | 0 => by simp [w_un]
  | c + 1 => by
    simp only [w_un]
    split
    · rename_i q
      rw [Nat.testBit_or, Bool.or_eq_true, tb_un]
      constructor
      · rintro (⟨a, a1, a2, a3⟩ | z)
        · exact ⟨a, by omega, a2, a3⟩
        · exact ⟨c, by omega, q, z⟩
      · rintro ⟨a, a1, a2, a3⟩
        by_cases e : a = c
        · subst e; exact Or.inr a3
        · exact Or.inl ⟨a, by omega, a2, a3⟩
    · rename_i q
      rw [tb_un]
      constructor
      · rintro ⟨a, a1, a2, a3⟩; exact ⟨a, by omega, a2, a3⟩
      · rintro ⟨a, a1, a2, a3⟩
        by_cases e : a = c
        · subst e; exact absurd a2 q
        · exact ⟨a, by omega, a2, a3⟩
theorem w_un_lt {T : ev_S} {N MI : Nat} {r : Nat → Int} {G c : Nat} : w_un T N MI r G c < 2 ^ w_pc T N r MI := tb_lt (fun i hi => by
  cases q : (w_un T N MI r G c).testBit i
  · rfl
  · obtain ⟨a, -, -, a3⟩ := tb_un.mp q
    have := (tb_al.mp a3).1; omega)
theorem sp_reach {d G N A NO MI : Nat} {s T : ev_S} {r : Nat → Int} {Q : Option ev_V → ev_S → Prop} (hT : m_tok T N A NO MI) (hK : XK0 s T N A MI r) (hG : G < 64)
    (h : Q (some (ev_i (w_rk T N MI r (w_un T N MI r G A)))) s) : Ev layX M_X1_reach (d + 1) 0 [(0, ev_r 162), (1, ev_i (G : Int))] [] s Q := by
  have hA6 := hT.2.2.1.2
  have hM10 := hT.2.2.2.2.1.2
  have hcle := w_pc_le (T := T) (N := N) (r := r) MI
  have hc10 := pow_10 (n := w_pc T N r MI) (by omega)
  have hC1 : 1 ≤ 2 ^ w_pc T N r MI := Nat.one_le_two_pow
  refine wp_X1_reach_0 ?_
  have key : ∀ k a : Nat, a + k = A → Ev layX M_X1_reach (d + 1) 4 [(0, ev_r 162), (1, ev_i (G : Int)), (2, ev_i ((w_un T N MI r G a : Nat) : Int)), (3, ev_i (a : Int))] [] s Q := by
    intro k
    induction k with
    | zero =>
      intro a ha
      have : a = A := by omega
      subst this
      have hl := w_un_lt (T := T) (N := N) (MI := MI) (r := r) (G := G) (c := a)
      refine wp_X1_reach_4 ⟨fun _ => sp_full hM10 hK.1.1 (ev_pi_mk ?_), fun q => absurd q (by rw [hK.2.2.2.2]; omega)⟩
      have e : w_un T N MI r G a &&& (2 ^ w_pc T N r MI - 1) = w_un T N MI r G a := by rw [Nat.and_two_pow_sub_one_eq_mod, Nat.mod_eq_of_lt hl]
      rw [ev_and_nat (by omega) (by omega), e, Int.toNat_natCast, hK.2.1 _ hl]
      exact ⟨by omega, h⟩
    | succ k ih =>
      intro a ha
      have i2 := ih (a + 1) (by omega)
      have hl := w_un_lt (T := T) (N := N) (MI := MI) (r := r) (G := G) (c := a)
      have hall := w_al_lt (T := T) (N := N) (MI := MI) (r := r) (a := a) (c := w_pc T N r MI)
      refine wp_X1_reach_4 ⟨fun q => absurd q (by rw [hK.2.2.2.2]; omega), fun _ => ?_⟩
      rw [ev_bit (by omega) (by omega), Int.toNat_natCast, hK.2.2.1 a (by omega), ev_or_nat (by omega) (by omega), ev_add_eq (x := (a : Int)) (y := 1) ⟨by omega, by omega⟩]
      simp only [w_un] at i2
      by_cases c : G.testBit a = true
      · rw [if_pos c] at i2 ⊢
        exact ⟨fun q => absurd q (by omega), fun _ => ⟨by omega, i2⟩⟩
      · rw [if_neg c] at i2 ⊢
        exact ⟨fun _ => i2, fun q => absurd rfl q⟩
  exact key A 0 (by omega)
theorem mo_un {T : ev_S} {N A NO MI : Nat} {r : Nat → Int} {G : Nat} (hT : m_tok T N A NO MI) (h : w_mx T N A MI r G 0 (v_mo T N A MI r G)) : v_mo T N A MI r G ≤ w_rk T N MI r (w_un T N MI r G A) := by
  obtain ⟨ok1, ok2, ok3⟩ := w_pp_ok (T := T) (N := N) (r := r) MI
  obtain ⟨⟨U, u1, u2, u3⟩, -⟩ := h
  obtain ⟨S, s1, s2⟩ := w_x_on (g_cov_all u1)
  have hss : ss S (w_un T N MI r G A) := by
    intro n hn
    have nc := tb_lim s1 hn
    have hU : U.testBit (w_pp T N r MI n) = true := by rw [← s2]; unfold w_x; rw [xs_at ok2 nc]; exact hn
    obtain ⟨f, ⟨f1, f2, f3⟩, rfl⟩ := u1
    obtain ⟨a, ha, hai⟩ := tb_uni.mp hU
    have hGa : G.testBit a = true := by
      cases q : G.testBit a
      · rw [f2 a q] at hai; simp at hai
      · rfl
    obtain ⟨S', v1, v2⟩ := w_x_on (T := T) (N := N) (MI := MI) (r := r) (U := f a) (w_ca_all a _ (f1 a))
    have hcn := (w_ca_iff ha (w_x_all S')).mp (by rw [v2]; exact f1 a)
    refine tb_un.mpr ⟨a, ha, hGa, w_cn_al hT ha v1 hcn n ?_⟩
    rw [← v2] at hai
    unfold w_x at hai
    rw [xs_at ok2 nc] at hai; exact hai
  rw [← u3, ← s2, w_rk_eq]
  exact rk_mono2 hss _ (fun i hi => by have := m_risk_rng (hT.2.2.2.2.2.2.2.2.1 _ (ok1 i hi).1); show 0 ≤ m_risk T (w_pp T N r MI i); unfold m_risk; omega)
theorem sp_groupOf {d size N A NO MI : Nat} {s T : ev_S} {r : Nat → Int} {Q : Option ev_V → ev_S → Prop} (hT : m_tok T N A NO MI) (hX : XCare s T N A MI r)
    (h1 : ∀ s' b, XCare s' T N A MI r → s' 162 = s 162 → frG s s' → b < 2 ^ A → pop 10 b = size → v_mo T N A MI r b = v_mo T N A MI r (2 ^ A - 1) → (∀ w, w < b → pop 10 w = size → v_mo T N A MI r w ≠ v_mo T N A MI r (2 ^ A - 1)) → Q (some (ev_i (b : Int))) s')
    (h2 : ∀ s', XCare s' T N A MI r → s' 162 = s 162 → frG s s' → (∀ w, w < 2 ^ A → pop 10 w = size → v_mo T N A MI r w ≠ v_mo T N A MI r (2 ^ A - 1)) → Q (some (ev_i (-1))) s') : Ev layX M_X1_groupOf (d + 5) 0 [(0, ev_r 162), (1, ev_i (size : Int)), (2, ev_i (v_mo T N A MI r (2 ^ A - 1)))] [] s Q := by
  have hA6 := hT.2.2.1.2
  have hA1 : 1 ≤ 2 ^ A := Nat.one_le_two_pow
  have hA2 : 2 ^ A ≤ 64 := by have := Nat.pow_le_pow_right (n := 2) (by omega) hA6; omega
  refine wp_X1_groupOf_0 ?_
  have key : ∀ (k g : Nat) (s1 : ev_S), g + k = 2 ^ A → XCare s1 T N A MI r → s1 162 = s 162 → frG s s1 → (∀ w, w < g → pop 10 w = size → v_mo T N A MI r w ≠ v_mo T N A MI r (2 ^ A - 1)) → Ev layX M_X1_groupOf (d + 5) 2 [(0, ev_r 162), (1, ev_i (size : Int)), (2, ev_i (v_mo T N A MI r (2 ^ A - 1))), (3, ev_i (g : Int))] [] s1 Q := by
    intro k
    induction k with
    | zero =>
      intro g s1 hg hX1 e162 fr hno
      exact wp_X1_groupOf_2 (sp_everybody hX1.1.2.2.2.2 hA6 (ev_pi_mk ⟨fun _ => h2 s1 hX1 e162 fr (fun w hw => hno w (by omega)), fun q => absurd q (by omega)⟩))
    | succ k ih =>
      intro g s1 hg hX1 e162 fr hno
      have next : ∀ s2 : ev_S, XCare s2 T N A MI r → s2 162 = s 162 → frG s s2 → (pop 10 g = size → v_mo T N A MI r g ≠ v_mo T N A MI r (2 ^ A - 1)) → Ev layX M_X1_groupOf (d + 5) 2 [(0, ev_r 162), (1, ev_i (size : Int)), (2, ev_i (v_mo T N A MI r (2 ^ A - 1))), (3, ev_i (ev_add (g : Int) 1))] [] s2 Q := by
        intro s2 y1 y2 y3 hn
        rw [ev_add_eq (x := (g : Int)) (y := 1) ⟨by omega, by omega⟩]
        refine ih (g + 1) s2 (by omega) y1 y2 y3 (fun w hw => ?_)
        by_cases e : w = g
        · subst e; exact hn
        · exact hno w (by omega)
      refine wp_X1_groupOf_2 (sp_everybody hX1.1.2.2.2.2 hA6 (ev_pi_mk ⟨fun q => absurd q (by omega), fun _ => sp_bitCount (by omega) (ev_pi_mk ⟨fun q => next s1 hX1 e162 fr (fun z => absurd z (by omega)), fun q => sp_reach hT hX1.1 (by omega) (ev_pi_mk ?_)⟩)⟩))
      refine ⟨fun q2 => ?_, fun q2 => sp_most hT hX1.1 hX1.2.1 (by omega) (fun s2 y1 y2 yS yM y3 => ev_pi_mk ?_)⟩
      · -- its reach is too little
        refine next s1 hX1 e162 fr (fun _ z => ?_)
        have hM := Classical.em (∃ v, w_mx T N A MI r g 0 v)
        rcases hM with ⟨v, hv⟩ | hno'
        · have := mo_un hT (v_mo_eq hv ▸ hv)
          omega
        · exact hno' (g_mx_ex hT g (by omega))
      · have hX2 := XCare_mo hX1 y1 y3
        have e2 : s2 162 = s 162 := by rw [y3 162 (by omega) (by omega)]; exact e162
        have f2 : frG s s2 := fun c hc => by rw [y3 c (by omega) (by omega)]; exact fr c hc
        refine ⟨fun q3 => next s2 hX2 e2 f2 (fun _ => q3), fun q3 => h1 s2 g hX2 e2 f2 (by omega) (by omega) q3 hno⟩
  exact key (2 ^ A) 0 s (by omega) hX rfl (fun _ _ => rfl) (fun w hw => absurd hw (by omega))
theorem pop_A : ∀ A : Nat, A < 7 → pop 10 (2 ^ A - 1) = A ∧ ∀ w : Nat, w < 64 → w < 2 ^ A → pop 10 w ≤ A ∧ (pop 10 w = A → w = 2 ^ A - 1) := by decide +kernel
theorem sp_fewestGroup {d N A NO MI : Nat} {s T : ev_S} {r : Nat → Int} {Q : Option ev_V → ev_S → Prop} (hT : m_tok T N A NO MI) (hX : XCare s T N A MI r)
    (h : ∀ s', XCare s' T N A MI r → s' 162 19 = s 162 19 → frG s s' → v_few T N A MI r < 2 ^ A → Q (some (ev_i (v_few T N A MI r : Int))) s') : Ev layX M_X1_fewestGroup (d + 6) 0 [(0, ev_r 162)] [] s Q := by
  have hA6 := hT.2.2.1.2
  have hA1 : 1 ≤ 2 ^ A := Nat.one_le_two_pow
  have hA2 : 2 ^ A ≤ 64 := by have := Nat.pow_le_pow_right (n := 2) (by omega) hA6; omega
  obtain ⟨pA1, pA2⟩ := pop_A A (by omega)
  refine wp_X1_fewestGroup_0 (sp_everybody hX.1.2.2.2.2 hA6 (ev_pi_mk (sp_most hT hX.1 hX.2.1 (by omega) (fun s1 z1 z2 zS zM z3 => ev_pi_mk ?_))))
  have hX1 := XCare_mo hX z1 z3
  -- with the answer known
  have fin : ∀ s2 : ev_S, XCare s2 T N A MI r → s2 162 18 = (v_few T N A MI r : Int) → s2 162 19 = s 162 19 → frG s s2 → v_few T N A MI r < 2 ^ A → Ev layX M_X1_fewestGroup (d + 6) 46 [(0, ev_r 162)] [] s2 Q := by
    intro s2 y1 y2 y3 y4 y5
    refine wp_X1_fewestGroup_46 ⟨fun _ => ?_, fun q => absurd q (by omega)⟩
    rw [y2]; exact h s2 y1 y3 y4 y5
  have keep16 : ∀ (s2 : ev_S) (b : Nat), XCare s2 T N A MI r → b = v_few T N A MI r → XCare (ev_up s2 162 18 (b : Int)) T N A MI r := by
    intro s2 b hX2 e
    obtain ⟨k1, k2, k3, k4⟩ := hX2
    have f : ∀ c, c ≠ 162 → ev_up s2 162 18 (b : Int) c = s2 c := fun c hc => ev_upj _ _ hc
    refine ⟨XK0_keep k1 (ev_up_ne _ _ (by omega)) (fun c hc => f c (by omega)), ?_, ?_, Or.inr (by rw [ev_up_same, e])⟩
    · unfold XCov XKr XKn; rw [f 172 (by omega), f 169 (by omega)]; exact k2
    · rw [ev_up_ne _ _ (by omega)]; unfold XCh; rw [f 174 (by omega)]; exact k3
  have key : ∀ (k size : Nat) (s2 : ev_S), size + k = A → XCare s2 T N A MI r → s2 162 18 = -1 → s2 162 19 = s 162 19 → frG s s2 → (∀ w, w < 2 ^ A → pop 10 w < size → v_mo T N A MI r w ≠ v_mo T N A MI r (2 ^ A - 1)) → Ev layX M_X1_fewestGroup (d + 6) 11 [(0, ev_r 162), (1, ev_i (v_mo T N A MI r (2 ^ A - 1))), (2, ev_i (size : Int))] [] s2 Q := by
    intro k
    induction k with
    | zero =>
      intro size s2 hs hX2 e16 e17 fr hno
      have hE : w_few T N A MI r (2 ^ A - 1) := ⟨by omega, rfl, fun w hw hm => by
        have := pA2 w (by omega) hw
        right
        by_cases e : pop 10 w = A
        · rw [this.2 e]; exact ⟨rfl, Nat.le_refl _⟩
        · exact absurd hm (hno w hw (by omega))⟩
      have e := v_few_eq hE
      refine wp_X1_fewestGroup_11 ⟨fun _ => wp_X1_fewestGroup_46 ⟨fun q => absurd e16 q, fun _ => sp_everybody hX2.1.2.2.2.2 hA6 (ev_pi_mk ?_)⟩, fun q => absurd q (by rw [hX2.1.2.2.2.2]; omega)⟩
      rintro _ rfl
      rw [ev_up_same]
      have := h _ (keep16 s2 _ hX2 e) (by rw [ev_up_ne _ _ (by omega)]; exact e17) (fun c hc => by rw [ev_upj _ _ (by omega)]; exact fr c hc) (by omega)
      rw [← e] at this
      exact this
    | succ k ih =>
      intro size s2 hs hX2 e16 e17 fr hno
      refine wp_X1_fewestGroup_11 ⟨fun q => absurd q (by rw [hX2.1.2.2.2.2]; omega), fun _ => ⟨fun q => absurd e16 q, fun _ => sp_groupOf hT hX2 (fun s3 b y1 y2 y3 y4 y5 y6 y7 => ev_pi_mk ?_) (fun s3 y1 y2 y3 y4 => ev_pi_mk ?_)⟩⟩
      · rintro _ rfl
        have hb : w_few T N A MI r b := ⟨y4, y6, fun w hw hm => by
          rcases Nat.lt_trichotomy (pop 10 b) (pop 10 w) with q | q | q
          · exact Or.inl q
          · right
            refine ⟨q, ?_⟩
            rcases Nat.lt_or_ge w b with z | z
            · exact absurd hm (y7 w z (by omega))
            · exact z
          · exact absurd hm (hno w hw (by omega))⟩
        have e := v_few_eq hb
        rw [ev_add_eq (x := (size : Int)) (y := 1) ⟨by omega, by omega⟩]
        have f3 := fin _ (keep16 s3 b y1 e) (by rw [ev_up_same, e]) (by rw [ev_up_ne _ _ (by omega), y2]; exact e17) (fun c hc => by rw [ev_upj _ _ (by omega), y3 c hc]; exact fr c hc) (by omega)
        refine wp_X1_fewestGroup_11 ⟨fun _ => f3, fun _ => ⟨fun _ => f3, fun q => ?_⟩⟩
        rw [ev_up_same] at q; exact absurd q (by omega)
      · rintro _ rfl
        rw [ev_add_eq (x := (size : Int)) (y := 1) ⟨by omega, by omega⟩]
        obtain ⟨k1, k2, k3, k4⟩ := y1
        have f : ∀ c, c ≠ 162 → ev_up s3 162 18 (-1) c = s3 c := fun c hc => ev_upj _ _ hc
        refine ih (size + 1) _ (by omega) ⟨XK0_keep k1 (ev_up_ne _ _ (by omega)) (fun c hc => f c (by omega)), ?_, ?_, Or.inl (ev_up_same _ _ _ _)⟩ (ev_up_same _ _ _ _) (by rw [ev_up_ne _ _ (by omega), y2]; exact e17) (fun c hc => by rw [ev_upj _ _ (by omega), y3 c hc]; exact fr c hc) (fun w hw hp => ?_)
        · unfold XCov XKr XKn; rw [f 172 (by omega), f 169 (by omega)]; exact k2
        · rw [ev_up_ne _ _ (by omega)]; unfold XCh; rw [f 174 (by omega)]; exact k3
        · by_cases e : pop 10 w = size
          · exact y4 w hw e
          · exact hno w hw (by omega)
  have e162 : s1 162 = s 162 := z3 162 (by omega) (by omega)
  rcases hX1.2.2.2 with q | q
  · exact key A 0 s1 (by omega) hX1 q (by rw [e162]) (fun c hc => z3 c (by omega) (by omega)) (fun w _ hp => absurd hp (by omega))
  · have hl : v_few T N A MI r < 2 ^ A := v_few_lt hT
    have f3 := fin s1 hX1 q (by rw [e162]) (fun c hc => z3 c (by omega) (by omega)) hl
    exact wp_X1_fewestGroup_11 ⟨fun _ => f3, fun _ => ⟨fun _ => f3, fun z => absurd z (by omega)⟩⟩
