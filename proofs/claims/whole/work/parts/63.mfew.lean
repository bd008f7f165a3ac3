/-! FEWEST, WORTH, HOPELESS, SHOWS, where to wait: the model -/
def w_few (T : ev_S) (N A MI : Nat) (r : Nat → Int) (b : Nat) : Prop := b < 2 ^ A ∧ v_mo T N A MI r b = v_mo T N A MI r (2 ^ A - 1) ∧ ∀ w, w < 2 ^ A → v_mo T N A MI r w = v_mo T N A MI r (2 ^ A - 1) → pop 10 b < pop 10 w ∨ (pop 10 b = pop 10 w ∧ b ≤ w)
noncomputable def v_few (T : ev_S) (N A MI : Nat) (r : Nat → Int) : Nat := Classical.epsilon (w_few T N A MI r)
theorem v_few_eq {T : ev_S} {N A MI : Nat} {r : Nat → Int} {b : Nat} (h : w_few T N A MI r b) : b = v_few T N A MI r := by
  have h2 := Classical.epsilon_spec (p := w_few T N A MI r) ⟨b, h⟩
  have a1 := h.2.2 _ h2.1 h2.2.1
  have a2 := h2.2.2 _ h.1 h.2.1
  show b = Classical.epsilon (w_few T N A MI r)
  omega
theorem sp_mfewest {d N A NO MI : Nat} {s : ev_S} {what : Int} {Q : Option ev_V → ev_S → Prop} (hT : m_tok s N A NO MI) (h5 : s 0 5 = 0) (h0 : 0 ≤ s 1 0 ∧ s 1 0 ≤ 600) (hw : ∀ v, v < N → m_wok s (s 1) v) (hp : ∀ a, a < A → m_pl s (s 1 (27 + a)))
    (h : ∀ s', frL s s' → Q (some (ev_i (if what = 0 then ((pop 10 (v_few s N A MI (s 1)) : Nat) : Int) else if what = 1 then ((v_few s N A MI (s 1) : Nat) : Int) else -1))) s') : Ev layM M_X12_fewest (d + 6) 0 [(0, ev_r 0), (1, ev_i what)] [] s Q := by
  have hT0 := hT
  obtain ⟨hdim, -, ⟨hA, hA6⟩, -, ⟨hM, hM10⟩, hg, -, hpok, hmok, -⟩ := hT
  have hA1 : 1 ≤ 2 ^ A := Nat.one_le_two_pow
  have hA2 : 2 ^ A ≤ 64 := by have := Nat.pow_le_pow_right (n := 2) (by omega) hA6; omega
  have fr0 : frL s (ev_up s 0 0 0) := ⟨fun i hi => ev_up_ne _ _ (by omega), fun c c0 _ _ _ _ _ _ => ev_upj _ _ c0⟩
  refine wp_X12_fewest_0 ?_
  rintro _ rfl
  refine sp_isIn (ev_pi_mk ?_)
  by_cases c1 : 0 ≤ what ∧ what ≤ 1
  · rw [if_pos c1]
    refine ⟨fun _ => sp_tables hT0 h5 h0 hw hp fr0 (fun s1 t1 t2 t3 => ev_pi_mk (sp_findsMost hT0 t1 t2 (fun s2 z1 z2 z3 => ?_))), fun q => absurd q (by omega)⟩
    have fr2 : frL s s2 := ⟨fun i hi => by rw [z3 0 (by omega)]; exact t3.1 i hi, fun c c0 c3 c30 c31 c32 c33 c34 => by rw [z3 c c34]; exact t3.2 c c0 c3 c30 c31 c32 c33 c34⟩
    have q11 : s2 0 11 = (A : Int) := by rw [fr2.1 11 (by omega)]; exact hA
    have e34 : ∀ w : Nat, w < 2 ^ A → s2 34 (1024 * w) = v_mo s N A MI (s 1) w := fun w hw => v_mo_eq (z2 w hw 0 (Nat.two_pow_pos MI) ss_0)
    have em : ∀ w : Nat, w < 2 ^ A → ev_mul 1024 (w : Int) = ((1024 * w : Nat) : Int) := fun w hw => by rw [ev_mul_eq ⟨by omega, by omega⟩]; omega
    refine sp_everyone q11 hA6 (ev_pi_mk (sp_everyone q11 hA6 (ev_pi_mk ?_)))
    have fin : ∀ b, w_few s N A MI (s 1) b → Ev layM M_X12_fewest (d + 6) 35 [(0, ev_r 0), (1, ev_i what), (2, ev_i (b : Int)), (3, ev_i (-1))] [] s2 Q := by
      intro b hb
      have hq := h s2 fr2
      rw [← v_few_eq hb] at hq
      have := hb.1
      refine wp_X12_fewest_35 ⟨fun _ => ⟨fun c => ?_, fun c => sp_ones (by omega) (ev_pi_mk ?_)⟩, fun q => absurd q (by omega)⟩
      · rw [if_neg c, if_pos (by omega)] at hq; exact hq
      · rw [if_pos c] at hq; exact hq
    have key : ∀ (n b : Nat), n ≤ 2 ^ A → b < 2 ^ A → (n ≤ b ∨ b = 2 ^ A - 1) → v_mo s N A MI (s 1) b = v_mo s N A MI (s 1) (2 ^ A - 1) → (∀ w, n ≤ w → w < 2 ^ A → v_mo s N A MI (s 1) w = v_mo s N A MI (s 1) (2 ^ A - 1) → pop 10 b < pop 10 w ∨ (pop 10 b = pop 10 w ∧ b ≤ w)) → Ev layM M_X12_fewest (d + 6) 35 [(0, ev_r 0), (1, ev_i what), (2, ev_i (b : Int)), (3, ev_i ((n : Int) - 1))] [] s2 Q := by
      intro n
      induction n with
      | zero =>
        intro b _ hb _ h1 h2
        exact fin b ⟨hb, h1, fun w hw => h2 w (by omega) hw⟩
      | succ n ih =>
        intro b hn hb hnb h1 h2
        refine wp_X12_fewest_35 ⟨fun q => absurd q (by omega), fun _ => ?_⟩
        rw [show (((n + 1 : Nat) : Int) - 1) = (n : Int) by omega, em n (by omega), ev_add_eq (x := (n : Int)) (y := -1) ⟨by omega, by omega⟩, show (n : Int) + -1 = (n : Int) - 1 by omega]
        refine ⟨by omega, sp_everyone q11 hA6 (ev_pi_mk ?_)⟩
        rw [em _ (by omega), Int.toNat_natCast, Int.toNat_natCast, e34 n (by omega), e34 _ (by omega)]
        refine ⟨by omega, fun c => ih b (by omega) hb (by omega) h1 (fun w hw1 hw2 hw3 => ?_), fun c => sp_ones (by omega) (ev_pi_mk (sp_ones (by omega) (ev_pi_mk ⟨fun c2 => ih b (by omega) hb (by omega) h1 (fun w hw1 hw2 hw3 => ?_), fun c2 => ih n (by omega) (by omega) (by omega) c (fun w hw1 hw2 hw3 => ?_)⟩)))⟩
        · by_cases e : w = n
          · subst e; exact absurd hw3 c
          · exact h2 w (by omega) hw2 hw3
        · by_cases e : w = n
          · subst e; left; omega
          · exact h2 w (by omega) hw2 hw3
        · by_cases e : w = n
          · subst e; right; omega
          · have := h2 w (by omega) hw2 hw3; omega
    have k0 := key (2 ^ A) (2 ^ A - 1) (Nat.le_refl _) (by omega) (Or.inr rfl) rfl (fun w h1 h2 => absurd h2 (by omega))
    rw [show ((2 ^ A : Nat) : Int) - 1 = ((2 ^ A - 1 : Nat) : Int) by omega] at k0
    exact k0
  · rw [if_neg c1]
    refine ⟨fun q => absurd rfl q, fun _ => ?_⟩
    have hq := h _ fr0
    rw [if_neg (by omega), if_neg (by omega)] at hq
    exact hq
theorem sp_worthOf {d a N A NO MI : Nat} {s0 s : ev_S} {Q : Option ev_V → ev_S → Prop} (hT : m_tok s0 N A NO MI) (h5 : s0 0 5 = 0) (h0 : 0 ≤ s0 1 0 ∧ s0 1 0 ≤ 600) (hw : ∀ v, v < N → m_wok s0 (s0 1) v) (hp : ∀ a, a < A → m_pl s0 (s0 1 (27 + a))) (hs : frL s0 s) (ha : a < A)
    (h : ∀ s', frL s0 s' → Q (some (ev_i (v_mo s0 N A MI (s0 1) (2 ^ A - 1) - v_mo s0 N A MI (s0 1) (dif (2 ^ A - 1) (2 ^ a))))) s') : Ev layM M_X12_worthOf (d + 6) 0 [(0, ev_r 0), (1, ev_i (a : Int))] [] s Q := by
  have hT0 := hT
  obtain ⟨hdim, -, ⟨hA, hA6⟩, -, ⟨hM, hM10⟩, hg, -, hpok, hmok, -⟩ := hT
  have hA1 : 1 ≤ 2 ^ A := Nat.one_le_two_pow
  have hA2 : 2 ^ A ≤ 64 := by have := Nat.pow_le_pow_right (n := 2) (by omega) hA6; omega
  refine wp_X12_worthOf_0 (sp_tables hT0 h5 h0 hw hp hs (fun s1 t1 t2 t3 => ev_pi_mk (sp_findsMost hT0 t1 t2 (fun s2 z1 z2 z3 => ?_))))
  have fr2 : frL s0 s2 := ⟨fun i hi => by rw [z3 0 (by omega)]; exact t3.1 i hi, fun c c0 c3 c30 c31 c32 c33 c34 => by rw [z3 c c34]; exact t3.2 c c0 c3 c30 c31 c32 c33 c34⟩
  have q11 : s2 0 11 = (A : Int) := by rw [fr2.1 11 (by omega)]; exact hA
  have e34 : ∀ w : Nat, w < 2 ^ A → s2 34 (1024 * w) = v_mo s0 N A MI (s0 1) w := fun w hw => v_mo_eq (z2 w hw 0 (Nat.two_pow_pos MI) ss_0)
  have em : ∀ w : Nat, w < 2 ^ A → ev_mul 1024 (w : Int) = ((1024 * w : Nat) : Int) := fun w hw => by rw [ev_mul_eq ⟨by omega, by omega⟩]; omega
  have p2 : 2 ^ a ≤ 64 := by have := Nat.pow_le_pow_right (n := 2) (by omega) (show a ≤ 6 by omega); omega
  have dl := dif_le (2 ^ A - 1) (2 ^ a)
  have g1 := w_mx_rng hT0 (z2 (2 ^ A - 1) (by omega) 0 (Nat.two_pow_pos MI) ss_0)
  have g2 := w_mx_rng hT0 (z2 (dif (2 ^ A - 1) (2 ^ a)) (by omega) 0 (Nat.two_pow_pos MI) ss_0)
  rw [Nat.add_zero] at g1 g2
  refine sp_everyone q11 hA6 (ev_pi_mk ⟨?_, sp_everyone q11 hA6 (ev_pi_mk ?_)⟩)
  · rw [em _ (by omega)]; omega
  rw [ev_shl1 (by omega), ev_andn (by omega) (by omega), em _ (by omega), em _ (by omega), Int.toNat_natCast, Int.toNat_natCast, ev_sub_eq ⟨by omega, by omega⟩, e34 _ (by omega), e34 _ (by omega)]
  exact ⟨by omega, h s2 fr2⟩
/-- who could see to one alone -/
def m_seers (T : ev_S) (N : Nat) (r : Nat → Int) (i : Nat) : Nat → Nat
  | 0 => 0
  | n + 1 => if w_a0 T r n i ≤ m_sees T N r i then m_seers T N r i n ||| 2 ^ n else m_seers T N r i n
theorem m_seers_lt {T : ev_S} {N : Nat} {r : Nat → Int} {i : Nat} : ∀ n, m_seers T N r i n < 2 ^ n
  | 0 => by simp [m_seers]
  | n + 1 => by
    have ih := m_seers_lt (T := T) (N := N) (r := r) (i := i) n
    have e : 2 ^ n < 2 ^ (n + 1) := Nat.pow_lt_pow_right (by omega) (by omega)
    simp only [m_seers]
    split
    · exact or_lt (by omega) e
    · omega
theorem w_cn_one {T : ev_S} {N A NO MI : Nat} {r : Nat → Int} {a i : Nat} (hT : m_tok T N A NO MI) (ha : a < A) : w_cn T N r a (2 ^ i) ↔ w_a0 T r a i ≤ m_sees T N r i := by
  have hg := hT.2.2.2.2.2.1
  have hpa := (hT.2.2.2.2.2.2.2.1 a ha).1
  constructor
  · rintro ⟨l, ho, hf⟩
    have := w_fe_alone (w_tri_ok (by omega)) (fun i => by unfold w_lo w_hi; omega) l hf i ((ho.2 i).mp (by rw [tb_pow]; exact decide_eq_true rfl))
    unfold w_hi at this
    omega
  · intro h
    refine ⟨[i], ⟨List.nodup_cons.mpr ⟨by simp, List.nodup_nil⟩, fun j => ?_⟩, ⟨trivial, ?_⟩⟩
    · rw [tb_pow]
      simp
      exact eq_comm
    · show max (w_a0 T r a i) (w_lo T N r i) ≤ w_hi T N r i
      unfold w_lo w_hi
      omega
theorem sp_seersOf {d i N A NO MI : Nat} {s T : ev_S} {r : Nat → Int} {Q : Option ev_V → ev_S → Prop} (hT : m_tok T N A NO MI) (hS : MTab s T N A MI r) (hi : i < MI) (hsi : m_sees T N r i ≠ -1) (h : Q (some (ev_i ((m_seers T N r i A : Nat) : Int))) s) : Ev layM M_X12_seersOf d 0 [(0, ev_r 0), (1, ev_i (i : Int))] [] s Q := by
  have hT0 := hT
  obtain ⟨hdim, -, ⟨hA, hA6⟩, -, ⟨hM, hM10⟩, hg, -, hpok, hmok, -⟩ := hT
  have e11 : s 0 11 = (A : Int) := by rw [hS.1.1.1.2.2.2.2.1]; exact hA
  have hM2 := pow_10 hM10
  have hi2 : 2 ^ i < 2 ^ MI := Nat.pow_lt_pow_right (by omega) hi
  have hi3 : 1 ≤ 2 ^ i := Nat.one_le_two_pow
  have hss : ss (2 ^ i) (w_all T N r MI) := fun j hj => by
    rw [tb_pow] at hj
    have := of_decide_eq_true hj
    subst this
    exact tb_all.mpr ⟨hi, hsi⟩
  refine wp_X12_seersOf_0 ?_
  have key : ∀ n a : Nat, a + n = A → Ev layM M_X12_seersOf d 4 [(0, ev_r 0), (1, ev_i (i : Int)), (2, ev_i ((m_seers T N r i a : Nat) : Int)), (3, ev_i (a : Int))] [] s Q := by
    intro n
    induction n with
    | zero =>
      intro a ha
      have : a = A := by omega
      subst this
      exact wp_X12_seersOf_4 ⟨fun _ => h, fun q => absurd q (by omega)⟩
    | succ n ih =>
      intro a ha
      have i2 := ih (a + 1) (by omega)
      have hc := (hS.2.2 a (by omega) (2 ^ i) hi2 hss).trans (w_cn_one (r := r) (N := N) (i := i) hT0 (show a < A by omega))
      have hml := m_seers_lt (T := T) (N := N) (r := r) (i := i) a
      have p2 : 2 ^ a ≤ 64 := by have := Nat.pow_le_pow_right (n := 2) (by omega) (show a ≤ 6 by omega); omega
      refine wp_X12_seersOf_4 ⟨fun q => absurd q (by omega), fun _ => ?_⟩
      have em : ev_add (ev_mul 1024 (a : Int)) (ev_shl 1 (i : Int)) = ((1024 * a + 2 ^ i : Nat) : Int) := by
        rw [ev_shl1 (by omega), ev_mul_eq ⟨by omega, by omega⟩, ev_add_eq ⟨by omega, by omega⟩]; omega
      rw [em, Int.toNat_natCast, ev_shl1 (by omega), ev_or_nat (by omega) (by omega), ev_add_eq (x := (a : Int)) (y := 1) ⟨by omega, by omega⟩]
      simp only [m_seers] at i2
      refine ⟨by omega, fun c => ?_, fun c => ?_⟩
      · rw [if_neg (fun z => hc.mpr z c)] at i2; exact i2
      · rw [if_pos (hc.mp c)] at i2; exact i2
  exact key A 0 (by omega)
def m_sby (T : ev_S) (N A : Nat) (r : Nat → Int) (many : Nat) : Nat → Nat
  | 0 => 0
  | n + 1 => if m_sees T N r n ≠ -1 ∧ pop 10 (m_seers T N r n A) = many then m_sby T N A r many n ||| 2 ^ n else m_sby T N A r many n
theorem m_sby_lt {T : ev_S} {N A : Nat} {r : Nat → Int} {many : Nat} : ∀ n, m_sby T N A r many n < 2 ^ n
  | 0 => by simp [m_sby]
  | n + 1 => by
    have ih := m_sby_lt (T := T) (N := N) (A := A) (r := r) (many := many) n
    have e : 2 ^ n < 2 ^ (n + 1) := Nat.pow_lt_pow_right (by omega) (by omega)
    simp only [m_sby]
    split
    · exact or_lt (by omega) e
    · omega
theorem sp_seenBy {d many N A NO MI : Nat} {s0 s : ev_S} {Q : Option ev_V → ev_S → Prop} (hT : m_tok s0 N A NO MI) (h5 : s0 0 5 = 0) (h0 : 0 ≤ s0 1 0 ∧ s0 1 0 ≤ 600) (hw : ∀ v, v < N → m_wok s0 (s0 1) v) (hp : ∀ a, a < A → m_pl s0 (s0 1 (27 + a))) (hs : frL s0 s)
    (h : ∀ s', frL s0 s' → Q (some (ev_i ((m_sby s0 N A (s0 1) many MI : Nat) : Int))) s') : Ev layM M_X12_seenBy (d + 6) 0 [(0, ev_r 0), (1, ev_i (many : Int))] [] s Q := by
  have hT0 := hT
  obtain ⟨hdim, -, ⟨hA, hA6⟩, -, ⟨hM, hM10⟩, hg, -, hpok, hmok, -⟩ := hT
  have hM2 := pow_10 hM10
  have hA2 : 2 ^ A ≤ 64 := by have := Nat.pow_le_pow_right (n := 2) (by omega) hA6; omega
  have hal := w_all_lt (T := s0) (N := N) (r := s0 1) (n := MI)
  refine wp_X12_seenBy_0 (sp_tables hT0 h5 h0 hw hp hs (fun s1 t1 t2 t3 => ev_pi_mk ?_))
  have e46 : s1 0 46 = (MI : Int) := by rw [t3.1 46 (by omega)]; exact hM
  have key : ∀ n i : Nat, i + n = MI → Ev layM M_X12_seenBy (d + 6) 10 [(0, ev_r 0), (1, ev_i (many : Int)), (2, ev_i ((w_all s0 N (s0 1) MI : Nat) : Int)), (3, ev_i ((m_sby s0 N A (s0 1) many i : Nat) : Int)), (4, ev_i (i : Int))] [] s1 Q := by
    intro n
    induction n with
    | zero =>
      intro i hi
      have : i = MI := by omega
      subst this
      exact wp_X12_seenBy_10 ⟨fun _ => h s1 t3, fun q => absurd q (by omega)⟩
    | succ n ih =>
      intro i hi
      have i2 := ih (i + 1) (by omega)
      simp only [m_sby] at i2
      have hsl := m_seers_lt (T := s0) (N := N) (r := s0 1) (i := i) A
      have hbl := m_sby_lt (T := s0) (N := N) (A := A) (r := s0 1) (many := many) i
      have p2 := pow_10 (n := i) (by omega)
      refine wp_X12_seenBy_10 ⟨fun q => absurd q (by omega), fun _ => ?_⟩
      rw [ev_bit (by omega) (by omega), ev_add_eq (x := (i : Int)) (y := 1) ⟨by omega, by omega⟩, ev_shl1 (by omega), ev_or_nat (by omega) (by omega)]
      have ht := tb_all (T := s0) (N := N) (r := s0 1) (i := i) (n := MI)
      by_cases cb : (w_all s0 N (s0 1) MI).testBit i = true
      · rw [if_pos cb]
        have hse := (ht.mp cb).2
        refine ⟨fun q => absurd rfl q, fun _ => sp_seersOf hT0 t1 (by omega) hse (ev_pi_mk (sp_ones (by omega) (ev_pi_mk ?_)))⟩
        refine ⟨fun q => ?_, fun q => ?_⟩
        · rw [if_neg (fun z => q (by omega))] at i2; exact i2
        · rw [if_pos ⟨hse, by omega⟩] at i2; exact i2
      · rw [if_neg cb]
        refine ⟨fun _ => ?_, fun q => absurd q (by omega)⟩
        rw [if_neg (fun z => cb (ht.mpr ⟨by omega, z.1⟩))] at i2; exact i2
  exact key MI 0 (by omega)
theorem m_sees_over {T : ev_S} {N i : Nat} {r : Nat → Int} (hN : N ≤ 8) (h : r (57 + i) ≠ 0) : m_sees T N r i = -1 := by
  unfold m_sees
  have := m_seen_stop (T := T) (N := N) (r := r) (i := i) (n := 0) hN (fun t _ => m_comes_late (fun z => by rw [m_row_at hN t _ (by omega) (by omega)] at z; exact absurd z h)) (600 - r 0).toNat
  rw [Nat.zero_add] at this
  rw [this]; rfl
def m_10 (T : ev_S) (N A : Nat) (r : Nat → Int) (i : Nat) : Int := if m_sees T N r i = -1 then 0 else ((m_seers T N r i A : Nat) : Int)
theorem sp_seersNow {d i N A NO MI : Nat} {s0 s : ev_S} {Q : Option ev_V → ev_S → Prop} (hT : m_tok s0 N A NO MI) (h5 : s0 0 5 = 0) (h0 : 0 ≤ s0 1 0 ∧ s0 1 0 ≤ 600) (hw : ∀ v, v < N → m_wok s0 (s0 1) v) (hp : ∀ a, a < A → m_pl s0 (s0 1 (27 + a))) (hs : frL s0 s) (hi : i < MI)
    (h : ∀ s', frL s0 s' → Q (some (ev_i (m_10 s0 N A (s0 1) i))) s') : Ev layM M_X12_seersNow (d + 6) 0 [(0, ev_r 0), (1, ev_i (i : Int))] [] s Q := by
  have hT0 := hT
  obtain ⟨hdim, ⟨hN, hN8⟩, ⟨hA, hA6⟩, -, ⟨hM, hM10⟩, hg, -, hpok, hmok, -⟩ := hT
  have hM2 := pow_10 hM10
  have hal := w_all_lt (T := s0) (N := N) (r := s0 1) (n := MI)
  have e1 : s 1 = s0 1 := hs.2 1 (by omega) (by omega) (by omega) (by omega) (by omega) (by omega) (by omega)
  refine wp_X12_seersNow_0 ?_
  simp (disch := omega) only [ev_add_eq (x := 57), tn_lit]
  rw [e1]
  refine ⟨by omega, fun _ => sp_tables hT0 h5 h0 hw hp hs (fun s1 t1 t2 t3 => ev_pi_mk ?_), fun c => ?_⟩
  · have hq := h s1 t3
    unfold m_10 at hq
    have ht := tb_all (T := s0) (N := N) (r := s0 1) (i := i) (n := MI)
    rw [ev_bit (by omega) (by omega)]
    by_cases cb : (w_all s0 N (s0 1) MI).testBit i = true
    · rw [if_pos cb]
      have hse := (ht.mp cb).2
      rw [if_neg hse] at hq
      exact ⟨fun q => absurd rfl q, fun _ => sp_seersOf hT0 t1 hi hse (ev_pi_mk hq)⟩
    · rw [if_neg cb]
      have hse : m_sees s0 N (s0 1) i = -1 := by
        by_cases e : m_sees s0 N (s0 1) i = -1
        · exact e
        · exact absurd (ht.mpr ⟨hi, e⟩) cb
      rw [if_pos hse] at hq
      exact ⟨fun _ => hq, fun q => absurd q (by omega)⟩
  · have hq := h s hs
    unfold m_10 at hq
    rw [if_pos (m_sees_over hN8 c)] at hq
    exact hq
theorem sp_secondOf {d i N A NO MI : Nat} {s0 s : ev_S} {Q : Option ev_V → ev_S → Prop} (hT : m_tok s0 N A NO MI) (h5 : s0 0 5 = 0) (h0 : 0 ≤ s0 1 0 ∧ s0 1 0 ≤ 600) (hw : ∀ v, v < N → m_wok s0 (s0 1) v) (hs : frL s0 s) (hi : i < MI) (h67 : -2147483647 ≤ s0 1 (67 + i) ∧ s0 1 (67 + i) ≤ 2147483647)
    (h : ∀ s', frL s0 s' → Q (some (ev_i (if s0 1 (57 + i) ≠ 0 then s0 1 (67 + i) - 1 else m_sees s0 N (s0 1) i))) s') : Ev layM M_X12_secondOf (d + 5) 0 [(0, ev_r 0), (1, ev_i (i : Int))] [] s Q := by
  have hT0 := hT
  obtain ⟨hdim, ⟨hN, hN8⟩, ⟨hA, hA6⟩, -, ⟨hM, hM10⟩, hg, -, hpok, hmok, -⟩ := hT
  have e1 : s 1 = s0 1 := hs.2 1 (by omega) (by omega) (by omega) (by omega) (by omega) (by omega) (by omega)
  have htl : tl s0 s := tl_of (fun i hi => hs.1 i (by omega)) (fun c hc => hs.2 c (by omega) (by omega) (by omega) (by omega) (by omega) (by omega) (by omega))
  refine wp_X12_secondOf_0 ?_
  simp (disch := omega) only [ev_add_eq (x := 57), ev_add_eq (x := 67), tn_lit]
  rw [e1]
  refine ⟨by omega, fun c => sp_foresees (N := N) (A := A) (NO := NO) (MI := MI) (by rw [tl_tok htl]; exact hT0) (by rw [hs.1 5 (by omega)]; exact h5) (by rw [e1]; exact h0) (fun v hv => by rw [e1, tl_wok htl]; exact hw v hv) (fun s1 z1 z2 => ⟨by omega, ?_⟩), fun c => ⟨by omega, ?_⟩⟩
  · rw [Int.toNat_natCast, z1 i (by omega), if_pos hi, e1, tl_seen htl]
    have hq := h s1 ⟨fun j hj => by rw [z2 0 (by omega) (by omega)]; exact hs.1 j hj, fun c c0 c3 c30 c31 c32 c33 c34 => by rw [z2 c c30 c3]; exact hs.2 c c0 c3 c30 c31 c32 c33 c34⟩
    rw [if_neg (fun z => z c)] at hq
    exact hq
  · rw [ev_sub_eq ⟨by omega, by omega⟩]
    have hq := h s hs
    rw [if_pos c] at hq
    exact hq
/-- where to wait -/
def m_ra (T : ev_S) (N : Nat) (r : Nat → Int) (a : Nat) (c : Int) : Nat → Int
  | 0 => 0
  | n + 1 => if m_sees T N r n ≠ -1 ∧ T 24 (7 * n + 1) = c ∧ r 0 + m_far (r (27 + a)) c * T 5 a ≤ m_sees T N r n then m_ra T N r a c n + m_risk T n else m_ra T N r a c n
def m_bw (T : ev_S) (N MI : Nat) (r : Nat → Int) (a : Nat) : Nat → Nat
  | 0 => 0
  | n + 1 => if m_ra T N r a (m_bw T N MI r a n : Int) MI < m_ra T N r a (n : Int) MI then n else m_bw T N MI r a n
theorem m_ra_rng {T : ev_S} {N MI : Nat} {r : Nat → Int} {a : Nat} {c : Int} (h : ∀ i, i < MI → m_mok T i) : ∀ n : Nat, n ≤ MI → 0 ≤ m_ra T N r a c n ∧ m_ra T N r a c n ≤ 9900 * (n : Int)
  | 0, _ => by simp [m_ra]
  | n + 1, hn => by
    have ih := m_ra_rng (T := T) (N := N) (r := r) (a := a) (c := c) h n (by omega)
    have := m_risk_rng (h n (by omega))
    simp only [m_ra, m_risk]
    split <;> omega
theorem m_ra_no {T : ev_S} {N MI : Nat} {r : Nat → Int} {a : Nat} {c : Int} (h : ∀ i, i < MI → m_mok T i) (hc : ¬ m_pl T c) : ∀ n : Nat, n ≤ MI → m_ra T N r a c n = 0
  | 0, _ => rfl
  | n + 1, hn => by
    simp only [m_ra]
    rw [if_neg (show ¬ (m_sees T N r n ≠ -1 ∧ T 24 (7 * n + 1) = c ∧ r 0 + m_far (r (27 + a)) c * T 5 a ≤ m_sees T N r n) from fun q => hc (q.2.1 ▸ (h n (by omega)).2.1))]
    exact m_ra_no h hc n (by omega)
theorem m_bw_lt {T : ev_S} {N MI : Nat} {r : Nat → Int} {a : Nat} : ∀ n : Nat, m_bw T N MI r a n ≤ n
  | 0 => Nat.le_refl _
  | n + 1 => by
    have ih := m_bw_lt (T := T) (N := N) (MI := MI) (r := r) (a := a) n
    simp only [m_bw]
    split <;> omega
theorem sp_riskAt {d a N A NO MI : Nat} {s T : ev_S} {r : Nat → Int} {c : Int} {Q : Option ev_V → ev_S → Prop} (hT : m_tok T N A NO MI) (h0 : 0 ≤ r 0 ∧ r 0 ≤ 600) (hS : MS s T N MI r) (ha : a < A) (hp : m_pl T (r (27 + a))) (hc : 0 ≤ c ∧ c < 64) (h : Q (some (ev_i (m_ra T N r a c MI))) s) : Ev layM M_X12_riskAt (d + 2) 0 [(0, ev_r 0), (1, ev_i (a : Int)), (2, ev_i c)] [] s Q := by
  have hT0 := hT
  obtain ⟨hdim, -, ⟨hA, hA6⟩, -, ⟨hM, hM10⟩, hg, -, hpok, hmok, -⟩ := hT
  obtain ⟨htl, h1, h30⟩ := hS
  obtain ⟨⟨hp1, hp9⟩, -⟩ := hpok a ha
  have e24 : s 24 = T 24 := htl.2.2.2.2.2.1
  have e5 : s 5 = T 5 := htl.2.1.2.1
  have e46 : s 0 46 = (MI : Int) := by rw [htl.1.2.2.2.2.2.2.2]; exact hM
  have hpa := pl_64 hdim hp
  have hfr := m_far_rng hpa hc
  have hmu : 0 ≤ m_far (r (27 + a)) c * T 5 a ∧ m_far (r (27 + a)) c * T 5 a ≤ 14 * 9 := ⟨Int.mul_nonneg hfr.1 (by omega), Int.mul_le_mul hfr.2 hp9 (by omega) (by omega)⟩
  refine wp_X12_riskAt_0 ?_
  simp (disch := omega) only [ev_add_eq (x := 27), tn_lit]
  rw [h1]
  refine ⟨by omega, sp_farOf hpa hc (ev_pi_mk ⟨by omega, ?_⟩)⟩
  rw [e5, Int.toNat_natCast, ev_mul_eq ⟨by omega, by omega⟩, ev_add_eq ⟨by omega, by omega⟩]
  have key : ∀ n i : Nat, i + n = MI → Ev layM M_X12_riskAt (d + 2) 35 [(0, ev_r 0), (2, ev_i c), (3, ev_i (r 0 + m_far (r (27 + a)) c * T 5 a)), (4, ev_i (m_ra T N r a c i)), (5, ev_i (i : Int))] [] s Q := by
    intro n
    induction n with
    | zero =>
      intro i hi
      have : i = MI := by omega
      subst this
      exact wp_X12_riskAt_35 ⟨fun _ => h, fun q => absurd q (by omega)⟩
    | succ n ih =>
      intro i hi
      have i2 := ih (i + 1) (by omega)
      simp only [m_ra] at i2
      have hrr := m_ra_rng (T := T) (N := N) (r := r) (a := a) (c := c) hmok i (by omega)
      have hr2 := m_risk_rng (hmok i (by omega))
      refine wp_X12_riskAt_35 ⟨fun q => absurd q (by omega), fun _ => ?_⟩
      rw [Int.toNat_natCast, h30 i (by omega), ev_add_eq (x := (i : Int)) (y := 1) ⟨by omega, by omega⟩]
      refine ⟨by omega, fun q => ?_, fun q => sp_ofMishap (k := 1) (by omega) (by omega) (ev_pi_mk ?_)⟩
      · rw [if_neg (fun z => z.1 q)] at i2; exact i2
      · rw [e24]
        refine ⟨fun q2 => ?_, fun q2 => ⟨by omega, fun q3 => ?_, fun q3 => sp_riskOf (by omega) (by rw [tl_mok htl]; exact hmok i (by omega)) (ev_pi_mk ?_)⟩⟩
        · rw [if_neg (fun z => q2 z.2.1)] at i2; exact i2
        · rw [h30 i (by omega)] at q3
          rw [if_neg (fun z => by have := z.2.2; omega)] at i2; exact i2
        · rw [h30 i (by omega)] at q3
          rw [if_pos ⟨q, q2, q3⟩] at i2
          rw [e24, ev_add_eq ⟨by omega, by omega⟩]
          exact i2
  exact key MI 0 (by omega)
theorem sp_waitOf {d a N A NO MI : Nat} {s0 s : ev_S} {Q : Option ev_V → ev_S → Prop} (hT : m_tok s0 N A NO MI) (h5 : s0 0 5 = 0) (h0 : 0 ≤ s0 1 0 ∧ s0 1 0 ≤ 600) (hw : ∀ v, v < N → m_wok s0 (s0 1) v) (hp : ∀ a, a < A → m_pl s0 (s0 1 (27 + a))) (hs : frL s0 s) (ha : a < A)
    (h : ∀ s', frL s0 s' → Q (some (ev_i ((m_bw s0 N MI (s0 1) a 64 : Nat) : Int))) s') : Ev layM M_X12_waitOf (d + 5) 0 [(0, ev_r 0), (1, ev_i (a : Int))] [] s Q := by
  have hT0 := hT
  obtain ⟨hdim, -, ⟨hA, hA6⟩, -, ⟨hM, hM10⟩, hg, -, hpok, hmok, -⟩ := hT
  have e1 : s 1 = s0 1 := hs.2 1 (by omega) (by omega) (by omega) (by omega) (by omega) (by omega) (by omega)
  have htl : tl s0 s := tl_of (fun i hi => hs.1 i (by omega)) (fun c hc => hs.2 c (by omega) (by omega) (by omega) (by omega) (by omega) (by omega) (by omega))
  refine wp_X12_waitOf_0 (sp_foresees (N := N) (A := A) (NO := NO) (MI := MI) (by rw [tl_tok htl]; exact hT0) (by rw [hs.1 5 (by omega)]; exact h5) (by rw [e1]; exact h0) (fun v hv => by rw [e1, tl_wok htl]; exact hw v hv) (fun s1 z1 z2 => ?_))
  have fr1 : frL s0 s1 := ⟨fun j hj => by rw [z2 0 (by omega) (by omega)]; exact hs.1 j hj, fun c c0 c3 c30 c31 c32 c33 c34 => by rw [z2 c c30 c3]; exact hs.2 c c0 c3 c30 c31 c32 c33 c34⟩
  have hMS : MS s1 s0 N MI (s0 1) := ⟨tl_of (fun i hi => fr1.1 i (by omega)) (fun c hc => fr1.2 c (by omega) (by omega) (by omega) (by omega) (by omega) (by omega) (by omega)), fr1.2 1 (by omega) (by omega) (by omega) (by omega) (by omega) (by omega) (by omega), fun i hi => by rw [z1 i (by omega), if_pos hi, e1, tl_seen htl]; rfl⟩
  have key : ∀ n c : Nat, c + n = 64 → 1 ≤ c → Ev layM M_X12_waitOf (d + 5) 8 [(0, ev_r 0), (1, ev_i (a : Int)), (2, ev_i ((m_bw s0 N MI (s0 1) a c : Nat) : Int)), (3, ev_i (c : Int))] [] s1 Q := by
    intro n
    induction n with
    | zero =>
      intro c hc _
      have : c = 64 := by omega
      subst this
      exact wp_X12_waitOf_8 ⟨fun _ => h s1 fr1, fun q => absurd q (by omega)⟩
    | succ n ih =>
      intro c hc h1c
      have i2 := ih (c + 1) (by omega) (by omega)
      simp only [m_bw] at i2
      have hbl := m_bw_lt (T := s0) (N := N) (MI := MI) (r := s0 1) (a := a) c
      refine wp_X12_waitOf_8 ⟨fun q => absurd q (by omega), fun _ => sp_isPlace (by omega) ?_ ?_ (ev_pi_mk ?_)⟩
      · rw [hMS.1.1.1]; have := hdim.1; omega
      · rw [hMS.1.1.2.1]; have := hdim.2; omega
      rw [hMS.1.1.1, hMS.1.1.2.1, ev_add_eq (x := (c : Int)) (y := 1) ⟨by omega, by omega⟩]
      by_cases cp : 0 ≤ (c : Int) ∧ (c : Int) % 8 < s0 0 6 + 8 ∧ (c : Int) / 8 < s0 0 7 + 8
      · rw [if_pos cp]
        refine ⟨fun q => absurd q (by omega), fun _ => sp_riskAt hT0 h0 hMS ha (hp a ha) (by omega) (ev_pi_mk (sp_riskAt hT0 h0 hMS ha (hp a ha) (by omega) (ev_pi_mk ⟨fun q => ?_, fun q => ?_⟩)))⟩
        · rw [if_neg (by omega)] at i2; exact i2
        · rw [if_pos (by omega)] at i2; exact i2
      · rw [if_neg cp]
        refine ⟨fun _ => ?_, fun q => absurd rfl q⟩
        rw [m_ra_no (c := (c : Int)) hmok cp MI (Nat.le_refl _), if_neg (by have := (m_ra_rng (T := s0) (N := N) (r := s0 1) (a := a) (c := ((m_bw s0 N MI (s0 1) a c : Nat) : Int)) hmok MI (Nat.le_refl _)).1; omega)] at i2
        exact i2
  have k1 := key 63 1 (by omega) (by omega)
  have e : m_bw s0 N MI (s0 1) a 1 = 0 := by
    simp [m_bw]
  rw [e] at k1
  exact k1
