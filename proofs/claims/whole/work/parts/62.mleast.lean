/-! LEAST, FEWEST, WORTH, the model's answers -/
theorem tl_sees {T T' : ev_S} (h : tl T T') (N : Nat) (r : Nat → Int) : m_sees T' N r = m_sees T N r := by funext i; unfold m_sees; exact tl_seen h N r i _
theorem tl_wall {T T' : ev_S} (h : tl T T') (N : Nat) (r : Nat → Int) : ∀ n, w_all T' N r n = w_all T N r n
  | 0 => rfl
  | n + 1 => by simp only [w_all]; rw [tl_wall h N r n, tl_sees h]
theorem tl_cn {T T' : ev_S} (h : tl T T') (N : Nat) (r : Nat → Int) : w_cn T' N r = w_cn T N r := by
  funext a S
  have e1 : w_a0 T' r a = w_a0 T r a := by funext i; unfold w_a0; rw [h.2.2.2.2.2.1, h.2.1.2.1]
  have e2 : w_fa T' a = w_fa T a := by funext i j; unfold w_fa; rw [h.2.2.2.2.2.1, h.2.1.2.1]
  have e3 : w_lo T' N r = w_lo T N r := by funext i; unfold w_lo; rw [tl_sees h, h.1.2.2.1]
  have e4 : w_hi T' N r = w_hi T N r := by funext i; unfold w_hi; rw [tl_sees h]
  unfold w_cn
  rw [e1, e2, e3, e4]
theorem tl_ca {T T' : ev_S} (h : tl T T') (N A MI : Nat) (r : Nat → Int) : w_ca T' N A MI r = w_ca T N A MI r := by
  funext a S; unfold w_ca; rw [tl_wall h, tl_cn h]
theorem tl_risk {T T' : ev_S} (h : tl T T') : m_risk T' = m_risk T := by funext i; unfold m_risk; rw [h.2.2.2.2.2.1]
theorem tl_mx {T T' : ev_S} (h : tl T T') (N A MI : Nat) (r : Nat → Int) : w_mx T' N A MI r = w_mx T N A MI r := by
  funext G u v; unfold w_mx; rw [tl_ca h, tl_risk h, tl_wall h]
theorem tl_MTab {s T T' : ev_S} (h : tl T T') {N A MI : Nat} {r : Nat → Int} (hs : MTab s T' N A MI r) : MTab s T N A MI r := by
  obtain ⟨⟨a1, a2, a3⟩, b, c⟩ := hs
  refine ⟨⟨tl_tr h a1, a2, ?_⟩, ?_, ?_⟩
  · rw [← tl_sees h]; exact a3
  · rw [← tl_risk h]; exact b
  · intro a ha; unfold MCr; rw [← tl_wall h, ← tl_cn h]; exact c a ha
noncomputable def v_mo (T : ev_S) (N A MI : Nat) (r : Nat → Int) (G : Nat) : Int := Classical.epsilon (w_mx T N A MI r G 0)
theorem v_mo_eq {T : ev_S} {N A MI : Nat} {r : Nat → Int} {G : Nat} {v : Int} (h : w_mx T N A MI r G 0 v) : v = v_mo T N A MI r G := g_max_uniq h (Classical.epsilon_spec (p := w_mx T N A MI r G 0) ⟨v, h⟩)
def w_F (T : ev_S) (N A MI : Nat) (r : Nat → Int) (M : Int) (f : Nat → Nat) : Prop := g_asg (w_ca T N A MI r) (2 ^ A - 1) f ∧ rk (m_risk T) MI (uni f A) = M
noncomputable def v_ch (T : ev_S) (N A MI : Nat) (r : Nat → Int) : Nat → Nat := Classical.epsilon (fun c => ll (w_F T N A MI r (v_mo T N A MI r (2 ^ A - 1))) c A)
theorem v_ch_eq {T : ev_S} {N A MI : Nat} {r : Nat → Int} {c : Nat → Nat} (h : ll (w_F T N A MI r (v_mo T N A MI r (2 ^ A - 1))) c A) : ∀ a, a < A → c a = v_ch T N A MI r a := ll_uniq h (Classical.epsilon_spec (p := fun c => ll (w_F T N A MI r (v_mo T N A MI r (2 ^ A - 1))) c A) ⟨c, h⟩)
noncomputable def v_least (T : ev_S) (N A MI : Nat) (r : Nat → Int) (what : Int) : Int :=
  if what = 0 then rk (m_risk T) MI (w_all T N r MI) - v_mo T N A MI r (2 ^ A - 1)
  else if what = 1 then ((dif (w_all T N r MI) (uni (v_ch T N A MI r) A) : Nat) : Int)
  else if 10 ≤ what ∧ what < 10 + (A : Int) then ((v_ch T N A MI r (what - 10).toNat : Nat) : Int) else -1
theorem gw_E (A : Nat) : g_w A 0 (2 ^ A - 1) := fun b => by rw [Nat.testBit_two_pow_sub_one]; simp
theorem gw_W (A a : Nat) : g_w A a (dif (2 ^ A - 1) (2 ^ a - 1)) := fun b => by
  rw [tb_dif, Nat.testBit_two_pow_sub_one, Nat.testBit_two_pow_sub_one]
  simp; omega
theorem uni_ss {f : Nat → Nat} {al n : Nat} (h : ∀ b, b < n → ss (f b) al) : ss (uni f n) al := fun i hi => by
  obtain ⟨b, b1, b2⟩ := tb_uni.mp hi
  exact h b b1 i b2
theorem sp_everyone {d A : Nat} {s : ev_S} {Q : Option ev_V → ev_S → Prop} (hA : s 0 11 = (A : Int)) (hA6 : A ≤ 6) (h : Q (some (ev_i ((2 ^ A - 1 : Nat) : Int))) s) : Ev layM M_X12_everyone d 0 [(0, ev_r 0)] [] s Q := by
  have h1 : 1 ≤ 2 ^ A := Nat.one_le_two_pow
  have hA2 : 2 ^ A ≤ 64 := by have := Nat.pow_le_pow_right (n := 2) (by omega) hA6; omega
  refine wp_X12_everyone_0 ?_
  rw [hA, ev_shl1 (by omega), ev_sub_eq ⟨by omega, by omega⟩, show ((2 ^ A : Nat) : Int) - 1 = ((2 ^ A - 1 : Nat) : Int) by omega]
  exact h
/-- the least set of the next angel -/
theorem sp_setOf {d who used a N A NO MI : Nat} {s T : ev_S} {r : Nat → Int} {Q : Option ev_V → ev_S → Prop} (hT : m_tok T N A NO MI) (hS : MTab s T N A MI r) (hmo : MMost s T N A MI r (2 ^ A)) (hwh : g_w A a who) (ha : a < A) (hwA : who < 2 ^ A) (hu : used < 2 ^ MI) (hus : ss used (w_all T N r MI))
    (hex : ∃ t, ss t (dif (w_all T N r MI) used) ∧ w_ca T N A MI r a t ∧ rk (m_risk T) MI t + s 34 (1024 * dif who (2 ^ a) + (used ||| t)) = s 34 (1024 * who + used))
    (h : ∀ t, (ss t (dif (w_all T N r MI) used) ∧ w_ca T N A MI r a t ∧ rk (m_risk T) MI t + s 34 (1024 * dif who (2 ^ a) + (used ||| t)) = s 34 (1024 * who + used)) → (∀ t', (ss t' (dif (w_all T N r MI) used) ∧ w_ca T N A MI r a t' ∧ rk (m_risk T) MI t' + s 34 (1024 * dif who (2 ^ a) + (used ||| t')) = s 34 (1024 * who + used)) → t ≤ t') → Q (some (ev_i (t : Int))) s) : Ev layM M_X12_setOf (d + 1) 0 [(0, ev_r 0), (1, ev_i (who : Int)), (2, ev_i (used : Int)), (3, ev_i ((w_all T N r MI : Nat) : Int))] [] s Q := by
  have hT0 := hT
  obtain ⟨hdim, -, ⟨hA, hA6⟩, -, ⟨hM, hM10⟩, hg, -, hpok, hmok, -⟩ := hT
  have hM2 := pow_10 hM10
  have hA2 : 2 ^ A ≤ 64 := by have := Nat.pow_le_pow_right (n := 2) (by omega) hA6; omega
  have hal := w_all_lt (T := T) (N := N) (r := r) (n := MI)
  have hwa : who.testBit a = true := (hwh a).mpr ⟨by omega, ha⟩
  have hw0 : who ≠ 0 := fun q => by rw [q] at hwa; simp at hwa
  obtain ⟨l1, l2, l3, l4⟩ := low_ok A who hw0 hwA
  have el : low who A = a := by
    rcases Nat.lt_trichotomy (low who A) a with q | q | q
    · have := (hwh _).mp l1; omega
    · exact q
    · have := l2 a q; rw [hwa] at this; exact absurd this (by simp)
  have hrw := dif_le who (2 ^ a)
  refine wp_X12_setOf_0 (sp_lowest hw0 hwA (by omega) (ev_pi_mk ?_))
  rw [ev_low (by omega) (by omega), l4, el]
  generalize er : dif who (2 ^ a) = rest at *
  generalize ef : dif (w_all T N r MI) used = free at *
  have hfl : free < 2 ^ MI := by rw [← ef]; exact Nat.lt_of_le_of_lt (dif_le _ _) hal
  have hfa : ss free (w_all T N r MI) := by rw [← ef]; exact ss_dif _ _
  obtain ⟨t0, ht0⟩ := hex
  have ht0l := le_of_sub ht0.1
  have key : ∀ (n k : Nat), k + n = t0 → (∀ t', (ss t' free ∧ w_ca T N A MI r a t' ∧ rk (m_risk T) MI t' + s 34 (1024 * rest + (used ||| t')) = s 34 (1024 * who + used)) → k ≤ t') → Ev layM M_X12_setOf (d + 1) 17 [(0, ev_r 0), (1, ev_i (who : Int)), (2, ev_i (used : Int)), (3, ev_i ((w_all T N r MI : Nat) : Int)), (4, ev_i (a : Int)), (5, ev_i (rest : Int)), (6, ev_i (k : Int))] [] s Q := by
    have body : ∀ k, k ≤ t0 → (∀ t', (ss t' free ∧ w_ca T N A MI r a t' ∧ rk (m_risk T) MI t' + s 34 (1024 * rest + (used ||| t')) = s 34 (1024 * who + used)) → k ≤ t') → (¬ (ss k free ∧ w_ca T N A MI r a k ∧ rk (m_risk T) MI k + s 34 (1024 * rest + (used ||| k)) = s 34 (1024 * who + used)) → Ev layM M_X12_setOf (d + 1) 17 [(0, ev_r 0), (1, ev_i (who : Int)), (2, ev_i (used : Int)), (3, ev_i ((w_all T N r MI : Nat) : Int)), (4, ev_i (a : Int)), (5, ev_i (rest : Int)), (6, ev_i ((k : Int) + 1))] [] s Q) → Ev layM M_X12_setOf (d + 1) 17 [(0, ev_r 0), (1, ev_i (who : Int)), (2, ev_i (used : Int)), (3, ev_i ((w_all T N r MI : Nat) : Int)), (4, ev_i (a : Int)), (5, ev_i (rest : Int)), (6, ev_i (k : Int))] [] s Q := by
      intro k hk hmin next
      refine wp_X12_setOf_17 ?_
      rw [ev_andn (by omega) (by omega), ef, ev_andn (by omega) (by omega), ev_add_eq (x := (k : Int)) (y := 1) ⟨by omega, by omega⟩]
      refine ⟨fun c => next (fun q => c (by rw [ss_dif0.mpr q.1]; rfl)), fun c => ?_⟩
      have hkf : ss k free := ss_dif0.mp (by omega)
      have hkl : k < 2 ^ MI := ss_lt hkf hfl
      have hor : ev_or (used : Int) (k : Int) = ((used ||| k : Nat) : Int) := ev_or_nat (by omega) (by omega)
      have hus2 : used ||| k < 2 ^ MI := or_lt hu hkl
      have hus3 : ss (used ||| k) (w_all T N r MI) := fun i hi => by
        rw [Nat.testBit_or, Bool.or_eq_true] at hi
        rcases hi with q | q
        · exact hus i q
        · exact hfa i (hkf i q)
      have em : ∀ x y : Nat, x < 64 → y < 1024 → ev_add (ev_mul 1024 (x : Int)) (y : Int) = ((1024 * x + y : Nat) : Int) := fun x y hx hy => by
        rw [ev_mul_eq ⟨by omega, by omega⟩, ev_add_eq ⟨by omega, by omega⟩]; omega
      have hr1 : rest < 2 ^ A := by omega
      have mr := w_mx_rng hT0 (hmo rest hr1 _ hus2 hus3)
      have rr := rk_r (T := T) hmok k MI (Nat.le_refl _)
      have h33 : s 33 k = rk (m_risk T) MI k := hS.2.1 k hkl
      rw [hor, em a k (by omega) (by omega), em rest _ (by omega) (by omega), em who used (by omega) (by omega), Int.toNat_natCast, Int.toNat_natCast, Int.toNat_natCast, Int.toNat_natCast, h33, ev_add_eq ⟨by omega, by omega⟩]
      have hcs : s 31 (1024 * a + k) ≠ 0 ↔ w_ca T N A MI r a k := by rw [w_ca_iff ha (ss_tr hkf hfa)]; exact hS.2.2 a ha k hkl (ss_tr hkf hfa)
      refine ⟨by omega, fun c2 => next (fun q => hcs.mpr q.2.1 c2), fun c2 => ⟨by omega, by omega, by omega, fun c3 => h k ⟨hkf, hcs.mp c2, c3⟩ hmin, fun c3 => next (fun q => c3 q.2.2)⟩⟩
    intro n
    induction n with
    | zero =>
      intro k hk hmin
      have : k = t0 := by omega
      subst this
      exact body k (Nat.le_refl _) hmin (fun q => absurd ht0 q)
    | succ n ih =>
      intro k hk hmin
      refine body k (by omega) hmin (fun q => ih (k + 1) (by omega) (fun t' ht' => ?_))
      have := hmin t' ht'
      by_cases e : t' = k
      · subst e; exact absurd ht' q
      · omega
  exact key t0 0 (by omega) (fun _ _ => Nat.zero_le _)
def frL (s s' : ev_S) : Prop := (∀ i, i ≠ 0 → s' 0 i = s 0 i) ∧ ∀ c, c ≠ 0 → c ≠ 3 → c ≠ 30 → c ≠ 31 → c ≠ 32 → c ≠ 33 → c ≠ 34 → s' c = s c
/-- all tables -/
theorem sp_tables {d N A NO MI : Nat} {s0 s : ev_S} {Q : Option ev_V → ev_S → Prop} (hT : m_tok s0 N A NO MI) (h5 : s0 0 5 = 0) (h0 : 0 ≤ s0 1 0 ∧ s0 1 0 ≤ 600) (hw : ∀ v, v < N → m_wok s0 (s0 1) v) (hp : ∀ a, a < A → m_pl s0 (s0 1 (27 + a))) (hs : frL s0 s) 
    (h : ∀ s', MTab s' s0 N A MI (s0 1) → (∀ S, S < 2 ^ MI → s' 34 S = 0) → frL s0 s' → Q (some (ev_i ((w_all s0 N (s0 1) MI : Nat) : Int))) s') : Ev layM M_X12_findsAll (d + 5) 0 [(0, ev_r 0)] [] s Q := by
  have htl : tl s0 s := tl_of (fun i hi => hs.1 i (by omega)) (fun c hc => hs.2 c (by omega) (by omega) (by omega) (by omega) (by omega) (by omega) (by omega))
  have e1 : s 1 = s0 1 := hs.2 1 (by omega) (by omega) (by omega) (by omega) (by omega) (by omega) (by omega)
  refine sp_findsAll (by rw [tl_tok htl]; exact hT) (by rw [hs.1 5 (by omega)]; exact h5) (by rw [e1]; exact h0) (fun v hv => by rw [e1, tl_wok htl]; exact hw v hv) (fun a ha => by rw [e1, tl_pl htl]; exact hp a ha) (fun s' z1 z2 z3 => ?_)
  rw [e1] at z1 ⊢
  rw [tl_wall htl]
  refine h s' (tl_MTab htl z1) z2 ⟨fun i hi => ?_, fun c c0 c3 c30 c31 c32 c33 c34 => ?_⟩
  · rw [z3 0 (by omega) (by omega) (by omega) (by omega) (by omega) (by omega)]; exact hs.1 i hi
  · rw [z3 c c3 c30 c31 c32 c33 c34]; exact hs.2 c c0 c3 c30 c31 c32 c33 c34
theorem sp_mleast {d N A NO MI : Nat} {s : ev_S} {what : Int} {Q : Option ev_V → ev_S → Prop} (hT : m_tok s N A NO MI) (h5 : s 0 5 = 0) (h0 : 0 ≤ s 1 0 ∧ s 1 0 ≤ 600) (hw : ∀ v, v < N → m_wok s (s 1) v) (hp : ∀ a, a < A → m_pl s (s 1 (27 + a)))
    (h : ∀ s', frL s s' → Q (some (ev_i (v_least s N A MI (s 1) what))) s') : Ev layM M_X12_least (d + 6) 0 [(0, ev_r 0), (1, ev_i what)] [] s Q := by
  have hT0 := hT
  obtain ⟨hdim, -, ⟨hA, hA6⟩, -, ⟨hM, hM10⟩, hg, -, hpok, hmok, -⟩ := hT
  have hM2 := pow_10 hM10
  have hA1 : 1 ≤ 2 ^ A := Nat.one_le_two_pow
  have hA2 : 2 ^ A ≤ 64 := by have := Nat.pow_le_pow_right (n := 2) (by omega) hA6; omega
  have hal := w_all_lt (T := s) (N := N) (r := s 1) (n := MI)
  have fr0 : frL s (ev_up s 0 0 0) := ⟨fun i hi => ev_up_ne _ _ (by omega), fun c c0 _ _ _ _ _ _ => ev_upj _ _ c0⟩
  refine wp_X12_least_0 ?_
  rintro _ rfl
  have e11 : ev_up s 0 0 0 0 11 = (A : Int) := by rw [ev_up_ne _ _ (by omega)]; exact hA
  have main : (what = 0 ∨ what = 1 ∨ (10 ≤ what ∧ what < 10 + (A : Int))) → Ev layM M_X12_least (d + 6) 34 [(0, ev_r 0), (1, ev_i what)] [] (ev_up s 0 0 0) Q := by
    intro hwhat
    refine wp_X12_least_34 (sp_tables hT0 h5 h0 hw hp fr0 (fun s1 t1 t2 t3 => ev_pi_mk (sp_findsMost hT0 t1 t2 (fun s2 z1 z2 z3 => ?_))))
    have fr2 : frL s s2 := ⟨fun i hi => by rw [z3 0 (by omega)]; exact t3.1 i hi, fun c c0 c3 c30 c31 c32 c33 c34 => by rw [z3 c c34]; exact t3.2 c c0 c3 c30 c31 c32 c33 c34⟩
    have q11 : s2 0 11 = (A : Int) := by rw [fr2.1 11 (by omega)]; exact hA
    have hME := z2 (2 ^ A - 1) (by omega) 0 (Nat.two_pow_pos MI) ss_0
    have eM := v_mo_eq hME
    rw [Nat.add_zero] at hME eM
    have rg := w_mx_rng hT0 hME
    have ra := rk_r (T := s) hmok (w_all s N (s 1) MI) MI (Nat.le_refl _)
    refine ⟨fun c => ?_, fun c => ⟨by omega, sp_everyone q11 hA6 (ev_pi_mk ?_)⟩⟩
    · -- the sets one behind another
      have key : ∀ (n a : Nat) (c : Nat → Nat), a + n = A → ll (w_F s N A MI (s 1) (v_mo s N A MI (s 1) (2 ^ A - 1))) c a → (∀ b, b < a → what ≠ 10 + (b : Int)) → Ev layM M_X12_least (d + 6) 77 [(0, ev_r 0), (1, ev_i what), (2, ev_i ((w_all s N (s 1) MI : Nat) : Int)), (3, ev_i ((uni c a : Nat) : Int)), (5, ev_i (a : Int))] [] s2 Q := by
        intro n
        induction n with
        | zero =>
          intro a c ha hl hne
          have : a = A := by omega
          subst this
          refine wp_X12_least_77 ⟨fun _ => ?_, fun q => absurd q (by omega)⟩
          obtain ⟨⟨f, f1, f2⟩, -⟩ := id hl
          have hu : uni c a < 2 ^ MI := by
            rw [← uni_cong f2]
            exact ss_lt (uni_ss (fun b _ => w_ca_all b _ (f1.1.1 b))) hal
          rw [ev_andn (by omega) (by omega)]
          have hq := h s2 fr2
          have h1 : what = 1 := by
            rcases hwhat with q | q | q
            · exact absurd q (by assumption)
            · exact q
            · exfalso
              exact hne (what - 10).toNat (by omega) (by omega)
          unfold v_least at hq
          have ec : uni (v_ch s N a MI (s 1)) a = uni c a := uni_cong (fun b hb => (v_ch_eq hl b hb).symm)
          rw [if_neg (by omega), if_pos h1, ec] at hq
          exact hq
        | succ n ih =>
          intro a c ha hl hne
          obtain ⟨⟨f0, f1, f2⟩, hl2⟩ := id hl
          have huc : uni c a = uni f0 a := (uni_cong f2).symm
          have hss : ss (uni c a) (w_all s N (s 1) MI) := by
            rw [huc]; exact uni_ss (fun b _ => w_ca_all b _ (f1.1.1 b))
          have hu : uni c a < 2 ^ MI := ss_lt hss hal
          have p1 : 1 ≤ 2 ^ a := Nat.one_le_two_pow
          have p2 : 2 ^ a ≤ 64 := by have := Nat.pow_le_pow_right (n := 2) (by omega) (show a ≤ 6 by omega); omega
          refine wp_X12_least_77 ⟨fun q => absurd q (by omega), fun _ => sp_everyone q11 hA6 (ev_pi_mk ?_)⟩
          rw [ev_shl1 (by omega), ev_sub_eq ⟨by omega, by omega⟩, show ((2 ^ a : Nat) : Int) - 1 = ((2 ^ a - 1 : Nat) : Int) by omega, ev_andn (by omega) (by omega), ev_add_eq (x := 10) ⟨by omega, by omega⟩, ev_add_eq (x := (a : Int)) (y := 1) ⟨by omega, by omega⟩]
          have hW := gw_W A a
          have hWl : dif (2 ^ A - 1) (2 ^ a - 1) < 2 ^ A := by have := dif_le (2 ^ A - 1) (2 ^ a - 1); omega
          have hW' : g_w A (a + 1) (dif (dif (2 ^ A - 1) (2 ^ a - 1)) (2 ^ a)) := fun b => by
            rw [tb_dif, tb_pow, Bool.and_eq_true, hW b]
            simp; omega
          have hWl' : dif (dif (2 ^ A - 1) (2 ^ a - 1)) (2 ^ a) < 2 ^ A := by have := dif_le (dif (2 ^ A - 1) (2 ^ a - 1)) (2 ^ a); omega
          have hv := z2 _ hWl (uni c a) hu hss
          have hM' : g_max (w_ca s N A MI (s 1)) A (rk (m_risk s) MI) (w_all s N (s 1) MI) (2 ^ A - 1) 0 (v_mo s N A MI (s 1) (2 ^ A - 1)) := by rw [← eM]; exact hME
          have nx := fun t => mo_next (ca := w_ca s N A MI (s 1)) (s := t) (v' := s2 34 (1024 * dif (dif (2 ^ A - 1) (2 ^ a - 1)) (2 ^ a) + (uni c a ||| t))) w_ca_0 (fun S s hs => rk_dif hs) w_ca_all (gw_E A) hW hW' (by omega) hM' f1.1 f1.2 f2 hv (fun hss' => z2 _ hWl' _ (or_lt hu (ss_lt (ss_tr hss' (ss_dif _ _)) hal)) (fun i hi => by
            rw [Nat.testBit_or, Bool.or_eq_true] at hi
            rcases hi with q | q
            · exact hss i q
            · exact ss_dif _ _ i (hss' i q)))
          refine sp_setOf hT0 z1 z2 hW (by omega) hWl hu hss ?_ (fun t ht hmin => ev_pi_mk ?_)
          · exact ⟨f0 a, (nx (f0 a)).mpr ⟨f0, f1, f2, rfl⟩⟩
          have hll : ll (w_F s N A MI (s 1) (v_mo s N A MI (s 1) (2 ^ A - 1))) (fun b => if b = a then t else c b) (a + 1) := by
            refine ll_step hl (fun b hb => if_neg (by omega)) ?_ ?_
            · obtain ⟨f, g1, g2, g3⟩ := (nx t).mp ht
              exact ⟨f, g1, g2, by rw [if_pos rfl]; exact g3⟩
            · intro f g1 g2
              rw [if_pos rfl]
              exact hmin _ ((nx (f a)).mpr ⟨f, g1, g2, rfl⟩)
          have htl : t < 2 ^ MI := ss_lt (ss_tr ht.1 (ss_dif _ _)) hal
          have eu : uni c a ||| t = uni (fun b => if b = a then t else c b) (a + 1) := by
            simp only [uni, if_true]
            rw [uni_cong (f := fun b => if b = a then t else c b) (g := c) (fun b hb => if_neg (by omega))]
          rw [ev_or_nat (by omega) (by omega), eu]
          refine ⟨fun q => ih (a + 1) _ (by omega) hll (fun b hb => ?_), fun q => ?_⟩
          · by_cases e : b = a
            · subst e; exact q
            · exact hne b (by omega)
          · have hq := h s2 fr2
            unfold v_least at hq
            rw [if_neg (by omega), if_neg (by omega), if_pos (by omega), show (what - 10).toNat = a by omega] at hq
            -- the rest of the row
            have ex : ∃ c', ll (w_F s N A MI (s 1) (v_mo s N A MI (s 1) (2 ^ A - 1))) c' A ∧ c' a = t := by
              have ext : ∀ (m k : Nat) (c' : Nat → Nat), k + m = A → a < k → ll (w_F s N A MI (s 1) (v_mo s N A MI (s 1) (2 ^ A - 1))) c' k → c' a = t → ∃ c', ll (w_F s N A MI (s 1) (v_mo s N A MI (s 1) (2 ^ A - 1))) c' A ∧ c' a = t := by
                intro m
                induction m with
                | zero =>
                          intro k c' hk _ hl' e
                          have e2 : k = A := by omega
                          rw [e2] at hl'; exact ⟨c', hl', e⟩
                | succ m ihm =>
                  intro k c' hk hak hl' e
                  obtain ⟨⟨f, g1, g2⟩, -⟩ := id hl'
                  -- the least next value
                  have least : ∀ n : Nat, ∀ f, w_F s N A MI (s 1) (v_mo s N A MI (s 1) (2 ^ A - 1)) f → (∀ b, b < k → f b = c' b) → f k ≤ n → ∃ f, w_F s N A MI (s 1) (v_mo s N A MI (s 1) (2 ^ A - 1)) f ∧ (∀ b, b < k → f b = c' b) ∧ ∀ f', w_F s N A MI (s 1) (v_mo s N A MI (s 1) (2 ^ A - 1)) f' → (∀ b, b < k → f' b = c' b) → f k ≤ f' k := by
                    intro n
                    induction n with
                    | zero => intro f u1 u2 u3; exact ⟨f, u1, u2, fun _ _ _ => by omega⟩
                    | succ n ihn =>
                      intro f u1 u2 u3
                      by_cases q : ∃ f', w_F s N A MI (s 1) (v_mo s N A MI (s 1) (2 ^ A - 1)) f' ∧ (∀ b, b < k → f' b = c' b) ∧ f' k < f k
                      · obtain ⟨f', q1, q2, q3⟩ := q
                        exact ihn f' q1 q2 (by omega)
                      · refine ⟨f, u1, u2, fun f' q1 q2 => ?_⟩
                        rcases Nat.lt_or_ge (f' k) (f k) with z | z
                        · exact absurd ⟨f', q1, q2, z⟩ q
                        · exact z
                  obtain ⟨f, u1, u2, u3⟩ := least (f k) f g1 g2 (Nat.le_refl _)
                  refine ihm (k + 1) (fun b => if b = k then f k else c' b) (by omega) (by omega) (ll_step hl' (fun b hb => if_neg (by omega)) ⟨f, u1, u2, by rw [if_pos rfl]⟩ (fun f' v1 v2 => by rw [if_pos rfl]; exact u3 f' v1 v2)) (by rw [if_neg (by omega)]; exact e)
              exact ext (A - (a + 1)) (a + 1) _ (by omega) (by omega) hll (by simp)
            obtain ⟨c', k1, k2⟩ := ex
            rw [← v_ch_eq k1 a (by omega), k2] at hq
            exact hq
      have ll0 : ll (w_F s N A MI (s 1) (v_mo s N A MI (s 1) (2 ^ A - 1))) (fun _ => 0) 0 := by
        obtain ⟨⟨S, ⟨f, g1, g2⟩, -, g3⟩, -⟩ := hME
        exact ⟨⟨f, ⟨g1, by rw [← g2, g3, eM]⟩, fun b hb => absurd hb (by omega)⟩, fun f _ k hk => absurd hk (by omega)⟩
      exact key A 0 (fun _ => 0) (by omega) ll0 (fun b hb => absurd hb (by omega))
    · have em : ev_mul 1024 ((2 ^ A - 1 : Nat) : Int) = ((1024 * (2 ^ A - 1) : Nat) : Int) := by rw [ev_mul_eq ⟨by omega, by omega⟩]; omega
      rw [em, Int.toNat_natCast, Int.toNat_natCast, z1.2.1 _ hal, eM, ev_sub_eq ⟨by omega, by omega⟩]
      have hq := h s2 fr2
      unfold v_least at hq
      rw [if_pos c] at hq
      exact ⟨by omega, hq⟩
  refine sp_isIn (ev_pi_mk ?_)
  by_cases c1 : 0 ≤ what ∧ what ≤ 1
  · rw [if_pos c1]
    exact ⟨fun _ => main (by omega), fun q => absurd q (by omega)⟩
  · rw [if_neg c1]
    refine ⟨fun q => absurd rfl q, fun _ => sp_isIn (ev_pi_mk ?_)⟩
    rw [e11, ev_add_eq (x := 9) ⟨by omega, by omega⟩]
    by_cases c2 : 10 ≤ what ∧ what ≤ 9 + (A : Int)
    · rw [if_pos c2]
      exact ⟨fun _ => main (by omega), fun q => absurd q (by omega)⟩
    · rw [if_neg c2]
      refine ⟨fun q => absurd rfl q, fun _ => ?_⟩
      have hq := h _ fr0
      unfold v_least at hq
      rw [if_neg (by omega), if_neg (by omega), if_neg (by omega)] at hq
      exact hq
