/-! LEAST, the model: groups of angels -/
theorem sp_lowest {d v n : Nat} {s : ev_S} {Q : Option ev_V → ev_S → Prop} (h0 : v ≠ 0) (hn : v < 2 ^ n) (hn31 : n ≤ 31) (h : Q (some (ev_i ((low v n : Nat) : Int))) s) : Ev layM M_X12_lowest d 0 [(0, ev_r 0), (1, ev_i (v : Int))] [] s Q := by
  obtain ⟨l1, l2, l3, -⟩ := low_ok n v h0 hn
  have hv : v < 2147483648 := Nat.lt_of_lt_of_le hn (Nat.pow_le_pow_right (by omega) hn31)
  refine wp_X12_lowest_0 ?_
  have key : ∀ m i : Nat, i + m = low v n → Ev layM M_X12_lowest d 2 [(1, ev_i (v : Int)), (2, ev_i (i : Int))] [] s Q := by
    intro m
    induction m with
    | zero =>
      intro i hi
      have : i = low v n := by omega
      subst this
      refine wp_X12_lowest_2 ?_
      rw [ev_bit hv (by omega), if_pos l1]
      exact ⟨fun _ => h, fun q => absurd q (by omega)⟩
    | succ m ih =>
      intro i hi
      refine wp_X12_lowest_2 ?_
      rw [ev_bit hv (by omega), l2 i (by omega), ev_add_eq (x := (i : Int)) (y := 1) ⟨by omega, by omega⟩]
      exact ⟨fun q => absurd rfl q, fun _ => ih (i + 1) (by omega)⟩
  exact key (low v n) 0 (by omega)
theorem w_ca_iff {T : ev_S} {N A MI : Nat} {r : Nat → Int} {a S : Nat} (ha : a < A) (hS : ss S (w_all T N r MI)) : w_ca T N A MI r a S ↔ w_cn T N r a S := by
  constructor
  · rintro (q | q)
    · rw [q]; exact w_can_0
    · exact q.2.2
  · intro q; exact Or.inr ⟨ha, hS, q⟩
theorem w_ca_0 {T : ev_S} {N A MI : Nat} {r : Nat → Int} (a : Nat) : w_ca T N A MI r a 0 := Or.inl rfl
theorem w_ca_all {T : ev_S} {N A MI : Nat} {r : Nat → Int} (a S : Nat) (h : w_ca T N A MI r a S) : ss S (w_all T N r MI) := by
  rcases h with q | q
  · rw [q]; exact ss_0
  · exact q.2.1
def w_mx (T : ev_S) (N A MI : Nat) (r : Nat → Int) (G used : Nat) (v : Int) : Prop := g_max (w_ca T N A MI r) A (rk (m_risk T) MI) (w_all T N r MI) G used v
def MMost (s T : ev_S) (N A MI : Nat) (r : Nat → Int) (k : Nat) : Prop := ∀ who, who < k → ∀ used, used < 2 ^ MI → ss used (w_all T N r MI) → w_mx T N A MI r who used (s 34 (1024 * who + used))
theorem w_mx_rng {T : ev_S} {N A MI NO : Nat} {r : Nat → Int} {G used : Nat} {v : Int} (hT : m_tok T N A NO MI) (h : w_mx T N A MI r G used v) : 0 ≤ v ∧ v ≤ 99000 := by
  obtain ⟨⟨S, -, -, h3⟩, -⟩ := h
  have := rk_r hT.2.2.2.2.2.2.2.2.1 S MI (Nat.le_refl _)
  have := hT.2.2.2.2.1.2
  omega
theorem sp_bestBy {d who used N A NO MI : Nat} {s T : ev_S} {r : Nat → Int} {Q : Option ev_V → ev_S → Prop} (hT : m_tok T N A NO MI) (hS : MTab s T N A MI r) (hw0 : who ≠ 0) (hwA : who < 2 ^ A) (hu : used < 2 ^ MI) (hus : ss used (w_all T N r MI)) (hmo : MMost s T N A MI r who)
    (h : ∀ v, w_mx T N A MI r who used v → Q (some (ev_i v)) s) : Ev layM M_X12_bestBy (d + 1) 0 [(0, ev_r 0), (1, ev_i (who : Int)), (2, ev_i (used : Int)), (3, ev_i ((w_all T N r MI : Nat) : Int))] [] s Q := by
  have hT0 := hT
  obtain ⟨hdim, -, ⟨hA, hA6⟩, -, ⟨hM, hM10⟩, hg, -, hpok, hmok, -⟩ := hT
  have hM2 := pow_10 hM10
  have hA2 : 2 ^ A ≤ 64 := by have := Nat.pow_le_pow_right (n := 2) (by omega) hA6; omega
  have hal := w_all_lt (T := T) (N := N) (r := r) (n := MI)
  obtain ⟨l1, l2, l3, l4⟩ := low_ok A who hw0 hwA
  have hrest : dif who (2 ^ low who A) < who := by
    have h1 := dif_le who (2 ^ low who A)
    have h2 : dif who (2 ^ low who A) ≠ who := fun e => by
      have := tb_dif who (2 ^ low who A) (low who A)
      rw [e, l1, tb_pow] at this; simp at this
    omega
  refine wp_X12_bestBy_0 (sp_lowest hw0 hwA (by omega) (ev_pi_mk ?_))
  rw [ev_low (by omega) (by omega), l4, ev_andn (by omega) (by omega)]
  generalize ea : low who A = a at *
  generalize er : dif who (2 ^ a) = rest at *
  generalize ef : dif (w_all T N r MI) used = free at *
  have hfl : free < 2 ^ MI := by rw [← ef]; exact Nat.lt_of_le_of_lt (dif_le _ _) hal
  have hfa : ss free (w_all T N r MI) := by rw [← ef]; exact ss_dif _ _
  have em : ∀ x : Nat, x < 1024 → ev_add (ev_mul 1024 (rest : Int)) (x : Int) = ((1024 * rest + x : Nat) : Int) := fun x hx => by
    rw [ev_mul_eq ⟨by omega, by omega⟩, ev_add_eq ⟨by omega, by omega⟩]; omega
  have em2 : ∀ x : Nat, x < 1024 → ev_add (ev_mul 1024 (a : Int)) (x : Int) = ((1024 * a + x : Nat) : Int) := fun x hx => by
    rw [ev_mul_eq ⟨by omega, by omega⟩, ev_add_eq ⟨by omega, by omega⟩]; omega
  rw [em used (by omega), Int.toNat_natCast]
  refine ⟨by omega, ?_⟩
  have hus2 : ∀ t, ss t free → used ||| t < 2 ^ MI ∧ ss (used ||| t) (w_all T N r MI) := fun t ht =>
    ⟨or_lt hu (ss_lt ht hfl), fun i hi => by
      rw [Nat.testBit_or, Bool.or_eq_true] at hi
      rcases hi with q | q
      · exact hus i q
      · exact hfa i (ht i q)⟩
  have hmx : ∀ t, ss t free → w_mx T N A MI r rest (used ||| t) (s 34 (1024 * rest + (used ||| t))) := fun t ht => hmo rest hrest _ (hus2 t ht).1 (hus2 t ht).2
  have key : ∀ (k set : Nat) (best : Int), set ≤ k → ss set free → (∃ t, ss t free ∧ w_ca T N A MI r a t ∧ best = rk (m_risk T) MI t + s 34 (1024 * rest + (used ||| t))) → (∀ t, ss t free → w_ca T N A MI r a t → (t = 0 ∨ set < t) → rk (m_risk T) MI t + s 34 (1024 * rest + (used ||| t)) ≤ best) → Ev layM M_X12_bestBy (d + 1) 40 [(0, ev_r 0), (2, ev_i (used : Int)), (4, ev_i (a : Int)), (5, ev_i (rest : Int)), (6, ev_i (free : Int)), (7, ev_i best), (8, ev_i (set : Int))] [] s Q := by
    have fin : ∀ best : Int, (∃ t, ss t free ∧ w_ca T N A MI r a t ∧ best = rk (m_risk T) MI t + s 34 (1024 * rest + (used ||| t))) → (∀ t, ss t free → w_ca T N A MI r a t → rk (m_risk T) MI t + s 34 (1024 * rest + (used ||| t)) ≤ best) → Q (some (ev_i best)) s := by
      intro best hb1 hb2
      refine h best (g_max_step (a := a) w_ca_0 (fun S s hs => rk_dif hs) l3 l1 ?_ ?_ ?_)
      · obtain ⟨t, t1, t2, t3⟩ := hb1
        rw [ef, er]
        exact ⟨t, _, t1, t2, hmx t t1, t3⟩
      · intro t v t1 t2 t3
        rw [ef] at t1
        rw [er] at t3
        rw [g_max_uniq t3 (hmx t t1)]
        exact hb2 t t1 t2
      · intro t t1 t2
        rw [ef] at t1
        rw [er]
        exact ⟨_, hmx t t1⟩
    intro k
    induction k with
    | zero =>
      intro set best hk hs hb1 hb2
      have : set = 0 := by omega
      subst this
      refine wp_X12_bestBy_40 ⟨fun _ => fin best hb1 (fun t t1 t2 => hb2 t t1 t2 (by omega)), fun q => absurd q (by omega)⟩
    | succ k ih =>
      intro set best hk hs hb1 hb2
      by_cases hz : set = 0
      · subst hz
        refine wp_X12_bestBy_40 ⟨fun _ => fin best hb1 (fun t t1 t2 => hb2 t t1 t2 (by omega)), fun q => absurd q (by omega)⟩
      · have hsl : set < 2 ^ MI := ss_lt hs hfl
        have hnx : ev_and (ev_sub (set : Int) 1) (free : Int) = (((set - 1) &&& free : Nat) : Int) := by
          rw [ev_sub_eq ⟨by omega, by omega⟩, show ((set : Int) - 1) = ((set - 1 : Nat) : Int) by omega]
          exact ev_and_nat (by omega) (by omega)
        have hle : (set - 1) &&& free ≤ set - 1 := Nat.and_le_left
        have hor : ev_or (used : Int) (set : Int) = ((used ||| set : Nat) : Int) := ev_or_nat (by omega) (by omega)
        have hus3 := hus2 set hs
        have hmr := w_mx_rng hT0 (hmx set hs)
        have hrr := rk_r (T := T) hmok set MI (Nat.le_refl _)
        have h33 : s 33 set = rk (m_risk T) MI set := hS.2.1 set hsl
        refine wp_X12_bestBy_40 ⟨fun q => absurd q (by omega), fun _ => ?_⟩
        rw [hor, em2 set (by omega), em _ (by omega), Int.toNat_natCast, Int.toNat_natCast, Int.toNat_natCast, h33, hnx, ev_add_eq ⟨by omega, by omega⟩]
        have hcs : s 31 (1024 * a + set) ≠ 0 ↔ w_ca T N A MI r a set := by rw [w_ca_iff l3 (ss_tr hs hfa)]; exact hS.2.2 a l3 set hsl (ss_tr hs hfa)
        have nxt : ∀ best' : Int, (∃ t, ss t free ∧ w_ca T N A MI r a t ∧ best' = rk (m_risk T) MI t + s 34 (1024 * rest + (used ||| t))) → best ≤ best' → (w_ca T N A MI r a set → rk (m_risk T) MI set + s 34 (1024 * rest + (used ||| set)) ≤ best') → Ev layM M_X12_bestBy (d + 1) 40 [(0, ev_r 0), (2, ev_i (used : Int)), (4, ev_i (a : Int)), (5, ev_i (rest : Int)), (6, ev_i (free : Int)), (7, ev_i best'), (8, ev_i (((set - 1) &&& free : Nat) : Int))] [] s Q := by
          intro best' hb1' hbb hset
          refine ih _ best' (by omega) (ss_andr _ _) hb1' (fun t t1 t2 t3 => ?_)
          rcases t3 with q | q
          · have := hb2 t t1 t2 (Or.inl q); omega
          · rcases Nat.lt_trichotomy t set with z | z | z
            · have := sub_next MI free set t hfl hs t1 z; omega
            · subst z; exact hset t2
            · have := hb2 t t1 t2 (Or.inr z); omega
        refine ⟨by omega, fun c => ⟨by omega, by omega, fun c2 => nxt best hb1 (Int.le_refl _) (fun _ => c2), fun c2 => nxt _ ⟨set, hs, hcs.mp c, rfl⟩ (by omega) (fun _ => Int.le_refl _)⟩, fun c => nxt best hb1 (Int.le_refl _) (fun z => absurd c (hcs.mpr z))⟩
  refine key free free _ (Nat.le_refl _) ss_rf ⟨0, ss_0, w_ca_0 a, ?_⟩ (fun t t1 t2 t3 => ?_)
  · rw [rk_0, Nat.or_zero]; omega
  · rcases t3 with q | q
    · subst q; rw [rk_0, Nat.or_zero]; omega
    · have := le_of_sub t1; omega
theorem sp_findsMost {d N A NO MI : Nat} {s T : ev_S} {r : Nat → Int} {Q : Option ev_V → ev_S → Prop} (hT : m_tok T N A NO MI) (hS : MTab s T N A MI r) (h34 : ∀ S, S < 2 ^ MI → s 34 S = 0)
    (h : ∀ s', MTab s' T N A MI r → MMost s' T N A MI r (2 ^ A) → (∀ c, c ≠ 34 → s' c = s c) → Q none s') : Ev layM M_X12_findsMost (d + 2) 0 [(0, ev_r 0), (1, ev_i ((w_all T N r MI : Nat) : Int))] [] s Q := by
  have hT0 := hT
  obtain ⟨hdim, -, ⟨hA, hA6⟩, -, ⟨hM, hM10⟩, hg, -, hpok, hmok, -⟩ := hT
  have hM2 := pow_10 hM10
  have hA2 : 2 ^ A ≤ 64 := by have := Nat.pow_le_pow_right (n := 2) (by omega) hA6; omega
  have hA1 : 1 ≤ 2 ^ A := Nat.one_le_two_pow
  have hal := w_all_lt (T := T) (N := N) (r := r) (n := MI)
  have keep : ∀ s1 : ev_S, (∀ c, c ≠ 34 → s1 c = s c) → MTab s1 T N A MI r := by
    intro s1 gf
    refine ⟨⟨tl_tr hS.1.1 (tl_of (fun i hi => by rw [gf 0 (by omega)]) (fun c hc => gf c (by omega))), by rw [gf 1 (by omega)]; exact hS.1.2.1, by rw [gf 30 (by omega)]; exact hS.1.2.2⟩, by rw [gf 33 (by omega)]; exact hS.2.1, fun a ha => ?_⟩
    intro S h1 h2
    rw [gf 31 (by omega)]; exact hS.2.2 a ha S h1 h2
  have e11 : ∀ s1 : ev_S, (∀ c, c ≠ 34 → s1 c = s c) → s1 0 11 = (A : Int) := fun s1 gf => by rw [gf 0 (by omega), hS.1.1.1.2.2.2.2.1]; exact hA
  have e46 : ∀ s1 : ev_S, (∀ c, c ≠ 34 → s1 c = s c) → s1 0 46 = (MI : Int) := fun s1 gf => by rw [gf 0 (by omega), hS.1.1.1.2.2.2.2.2.2.2]; exact hM
  refine wp_X12_findsMost_0 ?_
  have outer : ∀ (n who : Nat) (s1 : ev_S), who + n = 2 ^ A → 1 ≤ who → MMost s1 T N A MI r who → (∀ c, c ≠ 34 → s1 c = s c) → Ev layM M_X12_findsMost (d + 2) 2 [(0, ev_r 0), (1, ev_i ((w_all T N r MI : Nat) : Int)), (2, ev_i (who : Int))] [] s1 Q := by
    intro n
    induction n with
    | zero =>
      intro who s1 hw h1 gm gf
      refine wp_X12_findsMost_2 ?_
      rw [e11 s1 gf, ev_shl1 (by omega)]
      refine ⟨fun _ => h s1 (keep s1 gf) ?_ gf, fun q => absurd q (by omega)⟩
      rw [← hw]; exact gm
    | succ n ih =>
      intro who s1 hw h1 gm gf
      refine wp_X12_findsMost_2 ?_
      rw [e11 s1 gf, ev_shl1 (by omega)]
      refine ⟨fun q => absurd q (by omega), fun _ => ?_⟩
      have inner : ∀ (m k : Nat) (s2 : ev_S), k + m = 2 ^ MI → MMost s2 T N A MI r who → (∀ used, used < k → ss used (w_all T N r MI) → w_mx T N A MI r who used (s2 34 (1024 * who + used))) → (∀ c, c ≠ 34 → s2 c = s c) → Ev layM M_X12_findsMost (d + 2) 14 [(0, ev_r 0), (1, ev_i ((w_all T N r MI : Nat) : Int)), (2, ev_i (who : Int)), (3, ev_i (k : Int))] [] s2 Q := by
        intro m
        induction m with
        | zero =>
          intro k s2 hk zm zk zf
          refine wp_X12_findsMost_14 ?_
          rw [e46 s2 zf, ev_shl1 (by omega), ev_add_eq (x := (who : Int)) (y := 1) ⟨by omega, by omega⟩]
          refine ⟨fun _ => ih (who + 1) s2 (by omega) (by omega) ?_ zf, fun q => absurd q (by omega)⟩
          intro w hw2 used hu hus
          by_cases e : w = who
          · subst e; exact zk used (by omega) hus
          · exact zm w (by omega) used hu hus
        | succ m ihm =>
          intro k s2 hk zm zk zf
          refine wp_X12_findsMost_14 ?_
          rw [e46 s2 zf, ev_shl1 (by omega), ev_andn (by omega) (by omega), ev_add_eq (x := (k : Int)) (y := 1) ⟨by omega, by omega⟩]
          refine ⟨fun q => absurd q (by omega), fun _ => ⟨fun c => ihm (k + 1) s2 (by omega) zm (fun used hu hus => ?_) zf, fun c => ?_⟩⟩
          · by_cases e : used = k
            · subst e; exact absurd (ss_dif0.mpr hus) (fun z => c (by rw [z]; rfl))
            · exact zk used (by omega) hus
          · have hus : ss k (w_all T N r MI) := ss_dif0.mp (by omega)
            refine sp_bestBy hT0 (keep s2 zf) (by omega) (by omega) (by omega) hus zm (fun v hv => ev_pi_mk ?_)
            have em : ev_add (ev_mul 1024 (who : Int)) (k : Int) = ((1024 * who + k : Nat) : Int) := by
              rw [ev_mul_eq ⟨by omega, by omega⟩, ev_add_eq ⟨by omega, by omega⟩]; omega
            rw [em, Int.toNat_natCast]
            refine ⟨by omega, ?_⟩
            rintro _ rfl
            refine ihm (k + 1) _ (by omega) (fun w hw2 used hu hus2 => ?_) (fun used hu hus2 => ?_) (fun c hc => by rw [ev_upj _ _ hc]; exact zf c hc)
            · rw [ev_up_ne _ _ (by omega)]; exact zm w hw2 used hu hus2
            · by_cases e : used = k
              · subst e; rw [ev_up_same]; exact hv
              · rw [ev_up_ne _ _ (by omega)]; exact zk used (by omega) hus2
      exact inner (2 ^ MI) 0 s1 (by omega) gm (fun used hu => absurd hu (by omega)) gf
  refine outer (2 ^ A - 1) 1 s (by omega) (Nat.le_refl _) (fun w hw used hu hus => ?_) (fun _ _ => rfl)
  have : w = 0 := by omega
  subst this
  rw [Nat.mul_zero, Nat.zero_add, h34 used hu]
  exact g_max_0 w_ca_0 (rk_0 MI)
