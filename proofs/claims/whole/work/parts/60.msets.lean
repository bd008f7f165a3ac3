/-! the model's tables: sets of one angel, all that is foreseen -/
theorem nar_b : ev_nar .boolean 0 = 0 ∧ ev_nar .boolean 1 = 1 := by decide
/-- row a of canSee, for the sets that are foreseen -/
def MCr (s T : ev_S) (N MI : Nat) (r : Nat → Int) (a k : Nat) : Prop := ∀ S, S < k → ss S (w_all T N r MI) → (s 31 (1024 * a + S) ≠ 0 ↔ w_cn T N r a S)
def MEr (s T : ev_S) (N MI : Nat) (r : Nat → Int) (a k : Nat) : Prop := ∀ S, S < k → ss S (w_all T N r MI) → ∀ i, S.testBit i = true → w_mn T N r a S i (s 32 (10 * S + i))
theorem sp_findsSets {d a N A NO MI : Nat} {s T : ev_S} {r : Nat → Int} {Q : Option ev_V → ev_S → Prop} (hT : m_tok T N A NO MI) (h0 : 0 ≤ r 0 ∧ r 0 ≤ 600) (hp : m_pl T (r (27 + a))) (hS : MS s T N MI r) (ha : a < A)
    (h : ∀ s', MCr s' T N MI r a (2 ^ MI) → (∀ i, (i < 1024 * a ∨ 1024 * a + 1024 ≤ i) → s' 31 i = s 31 i) → (∀ c, c ≠ 31 → c ≠ 32 → s' c = s c) → Q none s') : Ev layM M_X12_findsSets (d + 4) 0 [(0, ev_r 0), (1, ev_i (a : Int)), (2, ev_i ((w_all T N r MI : Nat) : Int))] [] s Q := by
  have hT0 := hT
  obtain ⟨hdim, -, ⟨hA, hA6⟩, -, ⟨hM, hM10⟩, hg, -, hpok, hmok, -⟩ := hT
  have hM2 := pow_10 hM10
  have hal := w_all_lt (T := T) (N := N) (r := r) (n := MI)
  refine wp_X12_findsSets_0 ?_
  have outer : ∀ (n k : Nat) (s1 : ev_S), k + n = 2 ^ MI → MCr s1 T N MI r a k → MEr s1 T N MI r a k → (∀ i, (i < 1024 * a ∨ 1024 * a + 1024 ≤ i) → s1 31 i = s 31 i) → (∀ c, c ≠ 31 → c ≠ 32 → s1 c = s c) → Ev layM M_X12_findsSets (d + 4) 2 [(0, ev_r 0), (1, ev_i (a : Int)), (2, ev_i ((w_all T N r MI : Nat) : Int)), (3, ev_i (k : Int))] [] s1 Q := by
    intro n
    induction n with
    | zero =>
      intro k s1 hk gC gE gr gf
      have e46 : s1 0 46 = (MI : Int) := by rw [gf 0 (by omega) (by omega), hS.1.1.2.2.2.2.2.2.2]; exact hM
      refine wp_X12_findsSets_2 ?_
      rw [e46, ev_shl1 (by omega)]
      refine ⟨fun _ => h s1 ?_ gr gf, fun q => absurd q (by omega)⟩
      rw [← hk]; exact gC
    | succ n ih =>
      intro k s1 hk gC gE gr gf
      have e46 : s1 0 46 = (MI : Int) := by rw [gf 0 (by omega) (by omega), hS.1.1.2.2.2.2.2.2.2]; exact hM
      have hkM : k < 2 ^ MI := by omega
      have inner : ∀ (m i : Nat) (can : Int) (s2 : ev_S), i + m = MI → (can = 0 ∨ can = 1) → (ss k (w_all T N r MI) → (can = 1 ↔ (k = 0 ∨ ∃ j, j < i ∧ k.testBit j = true ∧ s2 32 (10 * k + j) ≠ 1000000))) → (ss k (w_all T N r MI) → ∀ j, j < i → k.testBit j = true → w_mn T N r a k j (s2 32 (10 * k + j))) → MEr s2 T N MI r a k → (∀ c, c ≠ 32 → s2 c = s1 c) → Ev layM M_X12_findsSets (d + 4) 26 [(0, ev_r 0), (1, ev_i (a : Int)), (2, ev_i ((w_all T N r MI : Nat) : Int)), (3, ev_i (k : Int)), (4, ev_i can), (5, ev_i (i : Int))] [] s2 Q := by
        intro m
        induction m with
        | zero =>
          intro i can s2 hi hc fc fm fE ff
          have e46' : s2 0 46 = (MI : Int) := by rw [ff 0 (by omega)]; exact e46
          refine wp_X12_findsSets_26 ⟨fun _ => ?_, fun q => absurd q (by omega)⟩
          have em : ev_add (ev_mul 1024 (a : Int)) (k : Int) = ((1024 * a + k : Nat) : Int) := by
            rw [ev_mul_eq ⟨by omega, by omega⟩, ev_add_eq ⟨by omega, by omega⟩]; omega
          have en : ev_nar .boolean can = can := by rcases hc with q | q <;> rw [q]; exact nar_b.1; exact nar_b.2
          rw [em, Int.toNat_natCast, en, ev_add_eq (x := (k : Int)) (y := 1) ⟨by omega, by omega⟩]
          refine ⟨by omega, ?_⟩
          rintro _ rfl
          refine ih (k + 1) _ (by omega) ?_ ?_ ?_ ?_
          · intro S hS1 hS2
            by_cases e : S = k
            · subst e
              rw [ev_up_same]
              have h1 := fc hS2
              constructor
              · intro q
                rcases hc with z | z
                · exact absurd z q
                · rcases h1.mp z with z2 | ⟨j, j1, j2, j3⟩
                  · rw [z2]; exact w_can_0
                  · exact w_can_of (fm hS2 j j1 j2) j3
              · intro q
                by_cases z2 : S = 0
                · rw [h1.mpr (Or.inl z2)]; omega
                · obtain ⟨j, j1, j2⟩ := w_can_to z2 q
                  have jl := tb_lim hkM j1
                  rw [h1.mpr (Or.inr ⟨j, by omega, j1, j2 _ (fm hS2 j (by omega) j1)⟩)]; omega
            · rw [ev_up_ne _ _ (by omega), ff 31 (by omega)]
              exact gC S (by omega) hS2
          · intro S hS1 hS2 i' hi'
            rw [ev_upj _ _ (by omega)]
            by_cases e : S = k
            · subst e
              exact fm hS2 i' (by have := tb_lim hkM hi'; omega) hi'
            · exact fE S (by omega) hS2 i' hi'
          · intro i' hi'
            rw [ev_up_ne _ _ (by omega), ff 31 (by omega)]; exact gr i' hi'
          · intro c c1 c2
            rw [ev_upj _ _ c1, ff c c2]; exact gf c c1 c2
        | succ m ihm =>
          intro i can s2 hi hc fc fm fE ff
          have e46' : s2 0 46 = (MI : Int) := by rw [ff 0 (by omega)]; exact e46
          have hS2 : MS s2 T N MI r := by
            have e : ∀ c, c ≠ 31 → c ≠ 32 → s2 c = s c := fun c c1 c2 => by rw [ff c c2]; exact gf c c1 c2
            refine ⟨tl_tr hS.1 (tl_of (fun j hj => by rw [e 0 (by omega) (by omega)]) (fun c hc => e c (by omega) (by omega))), by rw [e 1 (by omega) (by omega)]; exact hS.2.1, fun j hj => by rw [e 30 (by omega) (by omega)]; exact hS.2.2 j hj⟩
          refine wp_X12_findsSets_26 ⟨fun q => absurd q (by omega), fun _ => ?_⟩
          rw [ev_bit (by omega) (by omega), ev_andn (by omega) (by omega), ev_add_eq (x := (i : Int)) (y := 1) ⟨by omega, by omega⟩]
          by_cases cb : k.testBit i = true
          · rw [if_pos cb]
            have em : ev_add (ev_mul 10 (k : Int)) (i : Int) = ((10 * k + i : Nat) : Int) := by
              rw [ev_mul_eq ⟨by omega, by omega⟩, ev_add_eq ⟨by omega, by omega⟩]; omega
            -- the value is put
            have put : ∀ v : Int, (ss k (w_all T N r MI) → w_mn T N r a k i v) → Ev layM M_X12_findsSets (d + 4) 80 [(0, ev_r 0), (1, ev_i (a : Int)), (2, ev_i ((w_all T N r MI : Nat) : Int)), (3, ev_i (k : Int)), (4, ev_i can), (5, ev_i (i : Int))] [ev_i v, ev_i (ev_add (ev_mul 10 (k : Int)) (i : Int)), ev_r 32] s2 Q := by
              intro v hv
              refine wp_X12_findsSets_80 ?_
              rw [em, Int.toNat_natCast, ev_add_eq (x := (i : Int)) (y := 1) ⟨by omega, by omega⟩]
              refine ⟨by omega, ?_⟩
              rintro _ rfl
              have oth : ∀ j, j ≠ i → ev_up s2 32 (10 * k + i) v 32 (10 * k + j) = s2 32 (10 * k + j) := fun j hj => ev_up_ne _ _ (by omega)
              rw [ev_up_same]
              have fm' : ss k (w_all T N r MI) → ∀ j, j < i + 1 → k.testBit j = true → w_mn T N r a k j (ev_up s2 32 (10 * k + i) v 32 (10 * k + j)) := by
                intro hss j hj hjb
                by_cases e : j = i
                · subst e; rw [ev_up_same]; exact hv hss
                · rw [oth j e]; exact fm hss j (by omega) hjb
              have fE' : MEr (ev_up s2 32 (10 * k + i) v) T N MI r a k := by
                intro S hS1 hS2 i' hi'
                rw [ev_up_ne _ _ (by have : i' < 10 := tb_lim (n := 10) (by omega) hi'; omega)]
                exact fE S hS1 hS2 i' hi'
              have ff' : ∀ c, c ≠ 32 → ev_up s2 32 (10 * k + i) v c = s1 c := fun c hc => by rw [ev_upj _ _ hc]; exact ff c hc
              refine ⟨by omega, fun q => ihm (i + 1) can _ (by omega) hc (fun hss => ?_) fm' fE' ff', fun q => ihm (i + 1) 1 _ (by omega) (Or.inr rfl) (fun hss => ?_) fm' fE' ff'⟩
              · rw [fc hss]
                constructor
                · rintro (z | ⟨j, j1, j2, j3⟩)
                  · exact Or.inl z
                  · exact Or.inr ⟨j, by omega, j2, by rw [oth j (by omega)]; exact j3⟩
                · rintro (z | ⟨j, j1, j2, j3⟩)
                  · exact Or.inl z
                  · by_cases e : j = i
                    · subst e; rw [ev_up_same] at j3; exact absurd q j3
                    · rw [oth j e] at j3; exact Or.inr ⟨j, by omega, j2, j3⟩
              · refine ⟨fun _ => Or.inr ⟨i, by omega, cb, by rw [ev_up_same]; exact q⟩, fun _ => rfl⟩
            refine ⟨fun _ => ⟨fun q => put _ (fun hss => absurd (ss_dif0.mpr hss) (fun z => q (by rw [z]; rfl))), fun q => ?_⟩, fun q => absurd q (by omega)⟩
            have hss : ss k (w_all T N r MI) := ss_dif0.mp (by omega)
            refine sp_earliestOf hT0 h0 hp hS2 (by omega) ha hkM cb (fun j hj => ?_) (fun v hv => ev_pi_mk (put v (fun _ => hv)))
            have hlt : dif k (2 ^ i) < k := by
              have h1 := dif_le k (2 ^ i)
              have h2 : dif k (2 ^ i) ≠ k := fun e => by
                have := tb_dif k (2 ^ i) i
                rw [e, cb, tb_pow] at this; simp at this
              omega
            exact fE _ hlt (ss_tr (ss_dif _ _) hss) j hj
          · rw [if_neg cb]
            refine ⟨fun q => absurd rfl q, fun _ => ihm (i + 1) can s2 (by omega) hc (fun hss => ?_) (fun hss j hj hjb => ?_) fE ff⟩
            · rw [fc hss]
              constructor
              · rintro (z | ⟨j, j1, j2, j3⟩)
                · exact Or.inl z
                · exact Or.inr ⟨j, by omega, j2, j3⟩
              · rintro (z | ⟨j, j1, j2, j3⟩)
                · exact Or.inl z
                · by_cases e : j = i
                  · subst e; exact absurd j2 cb
                  · exact Or.inr ⟨j, by omega, j2, j3⟩
            · by_cases e : j = i
              · subst e; exact absurd hjb cb
              · exact fm hss j (by omega) hjb
      refine wp_X12_findsSets_2 ?_
      rw [e46, ev_shl1 (by omega)]
      refine ⟨fun q => absurd q (by omega), fun _ => ⟨fun q => inner MI 0 0 s1 (by omega) (Or.inl rfl) (fun _ => ⟨fun z => absurd z (by omega), ?_⟩) (fun _ j hj => absurd hj (by omega)) gE (fun _ _ => rfl), fun q => inner MI 0 1 s1 (by omega) (Or.inr rfl) (fun _ => ⟨fun _ => Or.inl (by omega), fun _ => rfl⟩) (fun _ j hj => absurd hj (by omega)) gE (fun _ _ => rfl)⟩⟩
      rintro (z | ⟨j, j1, -⟩)
      · exact absurd z (by omega)
      · omega
  exact outer (2 ^ MI) 0 s (by omega) (fun S hS => absurd hS (by omega)) (fun S hS => absurd hS (by omega)) (fun _ _ => rfl) (fun _ _ _ => rfl)
def m_risk (T : ev_S) (i : Nat) : Int := T 24 (7 * i) * T 24 (7 * i + 6)
theorem sp_foreseenSet {d N MI : Nat} {s T : ev_S} {r : Nat → Int} {Q : Option ev_V → ev_S → Prop} (hM : s 0 46 = (MI : Int)) (hM10 : MI ≤ 10) (h30 : ∀ i, i < MI → s 30 i = m_sees T N r i) (h : Q (some (ev_i ((w_all T N r MI : Nat) : Int))) s) : Ev layM M_X12_foreseenSet d 0 [(0, ev_r 0)] [] s Q := by
  refine wp_X12_foreseenSet_0 ?_
  have key : ∀ n i : Nat, i + n = MI → Ev layM M_X12_foreseenSet d 4 [(0, ev_r 0), (1, ev_i ((w_all T N r i : Nat) : Int)), (2, ev_i (i : Int))] [] s Q := by
    intro n
    induction n with
    | zero =>
      intro i hi
      have : i = MI := by omega
      subst this
      exact wp_X12_foreseenSet_4 ⟨fun _ => h, fun q => absurd q (by omega)⟩
    | succ n ih =>
      intro i hi
      have i2 := ih (i + 1) (by omega)
      have hal := w_all_lt (T := T) (N := N) (r := r) (n := i)
      have p1 := pow_10 (n := i) (by omega)
      refine wp_X12_foreseenSet_4 ⟨fun q => absurd q (by omega), fun _ => ?_⟩
      rw [Int.toNat_natCast, h30 i (by omega), ev_shl1 (by omega), ev_or_nat (by omega) (by omega), ev_add_eq (x := (i : Int)) (y := 1) ⟨by omega, by omega⟩]
      simp only [w_all] at i2
      refine ⟨by omega, fun q => ?_, fun q => ?_⟩
      · rw [if_pos q] at i2; exact i2
      · rw [if_neg q] at i2; exact i2
  exact key MI 0 (by omega)
/-- all that the tables of the model hold once what is foreseen is known -/
def MTab (s T : ev_S) (N A MI : Nat) (r : Nat → Int) : Prop := MS s T N MI r ∧ (∀ S, S < 2 ^ MI → s 33 S = rk (m_risk T) MI S) ∧ ∀ a, a < A → MCr s T N MI r a (2 ^ MI)
theorem rk_r {T : ev_S} {MI : Nat} (h : ∀ i, i < MI → m_mok T i) (S : Nat) : ∀ n, n ≤ MI → 0 ≤ rk (m_risk T) n S ∧ rk (m_risk T) n S ≤ 9900 * (n : Int)
  | 0, _ => by simp [rk]
  | n + 1, hn => by
    have ih := rk_r h S n (by omega)
    have := m_risk_rng (h n (by omega))
    simp only [rk, m_risk]
    split <;> omega
theorem sp_findsAll {d N A NO MI : Nat} {s : ev_S} {Q : Option ev_V → ev_S → Prop} (hT : m_tok s N A NO MI) (h5 : s 0 5 = 0) (h0 : 0 ≤ s 1 0 ∧ s 1 0 ≤ 600) (hw : ∀ v, v < N → m_wok s (s 1) v) (hp : ∀ a, a < A → m_pl s (s 1 (27 + a)))
    (h : ∀ s', MTab s' s N A MI (s 1) → (∀ S, S < 2 ^ MI → s' 34 S = 0) → (∀ c, c ≠ 3 → c ≠ 30 → c ≠ 31 → c ≠ 32 → c ≠ 33 → c ≠ 34 → s' c = s c) → Q (some (ev_i ((w_all s N (s 1) MI : Nat) : Int))) s') : Ev layM M_X12_findsAll (d + 5) 0 [(0, ev_r 0)] [] s Q := by
  have hT0 := hT
  obtain ⟨hdim, -, ⟨hA, hA6⟩, -, ⟨hM, hM10⟩, hg, -, hpok, hmok, -⟩ := hT
  have hM2 := pow_10 hM10
  refine wp_X12_findsAll_0 (sp_foresees hT0 h5 h0 hw (fun s1 g30 gf1 => ?_))
  have e46' : s1 0 46 = (MI : Int) := by rw [gf1 0 (by omega) (by omega)]; exact hM
  have f30 : ∀ i, i < MI → s1 30 i = m_sees s N (s 1) i := fun i hi => by rw [g30 i (by omega), if_pos hi]; rfl
  refine sp_foreseenSet (T := s) (N := N) (r := s 1) e46' hM10 f30 (ev_pi_mk ?_)
  -- the angels
  have third : ∀ (n a : Nat) (s2 : ev_S), a + n = A → (∀ i, i < MI → s2 30 i = m_sees s N (s 1) i) → (∀ S, S < 2 ^ MI → s2 33 S = rk (m_risk s) MI S) → (∀ S, S < 2 ^ MI → s2 34 S = 0) → (∀ b, b < a → MCr s2 s N MI (s 1) b (2 ^ MI)) → (∀ c, c ≠ 3 → c ≠ 30 → c ≠ 31 → c ≠ 32 → c ≠ 33 → c ≠ 34 → s2 c = s c) → Ev layM M_X12_findsAll (d + 5) 86 [(0, ev_r 0), (1, ev_i ((w_all s N (s 1) MI : Nat) : Int)), (2, ev_i (a : Int))] [] s2 Q := by
    intro n
    induction n with
    | zero =>
      intro a s2 ha k30 k33 k34 kC kf
      have e11 : s2 0 11 = (A : Int) := by rw [kf 0 (by omega) (by omega) (by omega) (by omega) (by omega) (by omega)]; exact hA
      have htl : tl s s2 := tl_of (fun i hi => by rw [kf 0 (by omega) (by omega) (by omega) (by omega) (by omega) (by omega)]) (fun c hc => kf c (by omega) (by omega) (by omega) (by omega) (by omega) (by omega))
      refine wp_X12_findsAll_86 ⟨fun _ => h s2 ⟨⟨htl, kf 1 (by omega) (by omega) (by omega) (by omega) (by omega) (by omega), k30⟩, k33, fun b hb => kC b (by omega)⟩ k34 kf, fun q => absurd q (by omega)⟩
    | succ n ih =>
      intro a s2 ha k30 k33 k34 kC kf
      have e11 : s2 0 11 = (A : Int) := by rw [kf 0 (by omega) (by omega) (by omega) (by omega) (by omega) (by omega)]; exact hA
      have htl : tl s s2 := tl_of (fun i hi => by rw [kf 0 (by omega) (by omega) (by omega) (by omega) (by omega) (by omega)]) (fun c hc => kf c (by omega) (by omega) (by omega) (by omega) (by omega) (by omega))
      refine wp_X12_findsAll_86 ⟨fun q => absurd q (by omega), fun _ => ?_⟩
      rw [ev_add_eq (x := (a : Int)) (y := 1) ⟨by omega, by omega⟩]
      refine sp_findsSets hT0 h0 (hp a (by omega)) ⟨htl, kf 1 (by omega) (by omega) (by omega) (by omega) (by omega) (by omega), k30⟩ (by omega) (fun s3 z1 z2 z3 => ?_)
      refine ih (a + 1) s3 (by omega) (by rw [z3 30 (by omega) (by omega)]; exact k30) (by rw [z3 33 (by omega) (by omega)]; exact k33) (by rw [z3 34 (by omega) (by omega)]; exact k34) ?_ (fun c c3 c30 c31 c32 c33 c34 => by rw [z3 c c31 c32]; exact kf c c3 c30 c31 c32 c33 c34)
      intro b hb
      by_cases e : b = a
      · subst e; exact z1
      · intro S hS1 hS2
        rw [z2 _ (by omega)]
        exact kC b (by omega) S hS1 hS2
  -- the risks
  have second : ∀ (n k : Nat) (s2 : ev_S), k + n = 2 ^ MI → (∀ i, i < MI → s2 30 i = m_sees s N (s 1) i) → (∀ S, S < k → s2 33 S = rk (m_risk s) MI S ∧ s2 34 S = 0) → (∀ c, c ≠ 3 → c ≠ 30 → c ≠ 33 → c ≠ 34 → s2 c = s c) → Ev layM M_X12_findsAll (d + 5) 11 [(0, ev_r 0), (1, ev_i ((w_all s N (s 1) MI : Nat) : Int)), (2, ev_i (k : Int))] [] s2 Q := by
    intro n
    induction n with
    | zero =>
      intro k s2 hk k30 k33 kf
      have e46 : s2 0 46 = (MI : Int) := by rw [kf 0 (by omega) (by omega) (by omega) (by omega)]; exact hM
      refine wp_X12_findsAll_11 ?_
      rw [e46, ev_shl1 (by omega)]
      refine ⟨fun _ => third A 0 s2 (by omega) k30 (fun S hS => (k33 S (by omega)).1) (fun S hS => (k33 S (by omega)).2) (fun b hb => absurd hb (by omega)) (fun c c3 c30 _ _ c33 c34 => kf c c3 c30 c33 c34), fun q => absurd q (by omega)⟩
    | succ n ih =>
      intro k s2 hk k30 k33 kf
      have e46 : s2 0 46 = (MI : Int) := by rw [kf 0 (by omega) (by omega) (by omega) (by omega)]; exact hM
      refine wp_X12_findsAll_11 ?_
      rw [e46, ev_shl1 (by omega), Int.toNat_natCast]
      refine ⟨fun q => absurd q (by omega), fun _ => ⟨by omega, ?_⟩⟩
      rintro _ rfl
      refine ⟨by omega, ?_⟩
      rintro _ rfl
      have inner : ∀ (m i : Nat) (s3 : ev_S), i + m = MI → s3 33 k = rk (m_risk s) i k → s3 34 k = 0 → (∀ S, S ≠ k → s3 33 S = s2 33 S ∧ s3 34 S = s2 34 S) → (∀ c, c ≠ 33 → c ≠ 34 → s3 c = s2 c) → Ev layM M_X12_findsAll (d + 5) 37 [(0, ev_r 0), (1, ev_i ((w_all s N (s 1) MI : Nat) : Int)), (2, ev_i (k : Int)), (3, ev_i (i : Int))] [] s3 Q := by
        intro m
        induction m with
        | zero =>
          intro i s3 hi z1 z2 z3 z4
          have e46' : s3 0 46 = (MI : Int) := by rw [z4 0 (by omega) (by omega)]; exact e46
          have : i = MI := by omega
          subst this
          refine wp_X12_findsAll_37 ⟨fun _ => ?_, fun q => absurd q (by omega)⟩
          rw [ev_add_eq (x := (k : Int)) (y := 1) ⟨by omega, by omega⟩]
          refine ih (k + 1) s3 (by omega) (by rw [z4 30 (by omega) (by omega)]; exact k30) (fun S hS => ?_) (fun c c3 c30 c33 c34 => by rw [z4 c c33 c34]; exact kf c c3 c30 c33 c34)
          by_cases e : S = k
          · subst e; exact ⟨z1, z2⟩
          · rw [(z3 S e).1, (z3 S e).2]; exact k33 S (by omega)
        | succ m ihm =>
          intro i s3 hi z1 z2 z3 z4
          have e46' : s3 0 46 = (MI : Int) := by rw [z4 0 (by omega) (by omega)]; exact e46
          have e24 : s3 24 = s 24 := by rw [z4 24 (by omega) (by omega), kf 24 (by omega) (by omega) (by omega) (by omega)]
          have e10 : s3 0 = s 0 := by rw [z4 0 (by omega) (by omega), kf 0 (by omega) (by omega) (by omega) (by omega)]
          have hr := rk_r (T := s) hmok k i (by omega)
          have hr2 := m_risk_rng (hmok i (by omega))
          refine wp_X12_findsAll_37 ⟨fun q => absurd q (by omega), fun _ => ?_⟩
          rw [ev_bit (by omega) (by omega), ev_add_eq (x := (i : Int)) (y := 1) ⟨by omega, by omega⟩, Int.toNat_natCast]
          by_cases cb : k.testBit i = true
          · rw [if_pos cb]
            refine ⟨fun q => absurd rfl q, fun _ => ⟨by omega, sp_riskOf (by omega) ?_ (ev_pi_mk ⟨by omega, ?_⟩)⟩⟩
            · unfold m_mok m_pl; rw [e24, e10]; exact hmok i (by omega)
            rw [e24, z1, ev_add_eq ⟨by omega, by omega⟩]
            rintro _ rfl
            refine ihm (i + 1) _ (by omega) ?_ (by rw [ev_upj _ _ (by omega)]; exact z2) (fun S hS => ?_) (fun c c1 c2 => by rw [ev_upj _ _ c1]; exact z4 c c1 c2)
            · rw [ev_up_same]; simp only [rk]; rw [if_pos cb]; rfl
            · rw [ev_up_ne _ _ (by omega), ev_upj _ _ (by omega)]; exact z3 S hS
          · rw [if_neg cb]
            refine ⟨fun _ => ihm (i + 1) s3 (by omega) ?_ z2 z3 z4, fun q => absurd q (by omega)⟩
            simp only [rk]; rw [if_neg cb, z1]; omega
      refine inner MI 0 _ (by omega) ?_ ?_ (fun S hS => ⟨?_, ?_⟩) (fun c c1 c2 => by rw [ev_upj _ _ c2, ev_upj _ _ c1])
      · rw [ev_upj _ _ (by omega), ev_up_same]; rfl
      · rw [ev_up_same]
      · rw [ev_upj _ _ (by omega), ev_up_ne _ _ (by omega)]
      · rw [ev_up_ne _ _ (by omega), ev_upj _ _ (by omega)]
  exact second (2 ^ MI) 0 s1 (by omega) f30 (fun S hS => absurd hS (by omega)) (fun c c3 c30 _ _ => gf1 c c30 c3)
