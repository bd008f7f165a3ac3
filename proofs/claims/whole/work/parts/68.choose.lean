/-! LEAST, the class: the tables made ready; the first way -/
theorem rk_mono2 {w : Nat → Int} {S U : Nat} (h : ss S U) : ∀ n, (∀ i, i < n → 0 ≤ w i) → rk w n S ≤ rk w n U
  | 0, _ => Int.le_refl _
  | n + 1, hw => by
    have ih := rk_mono2 h n (fun i hi => hw i (by omega))
    have h1 := hw n (by omega)
    simp only [rk]
    by_cases c : S.testBit n = true
    · rw [if_pos c, if_pos (h n c)]; omega
    · rw [if_neg c]; split <;> omega
theorem xb_fill {s : ev_S} {k n row S : Nat} (h : 32 * row + S / 32 < n) : xb (ev_fill s k n 0 k) row S = false := by
  unfold xb ev_fill
  rw [ev_set_same]
  simp only [h, if_true]
  exact wb_0 _
def XCh (s T : ev_S) (N A MI : Nat) (r : Nat → Int) : Prop := ∀ a, a < A → ∃ c : Nat, c < 2 ^ w_pc T N r MI ∧ s 174 a = (c : Int) ∧ w_x T N MI r c = v_ch T N A MI r a
/-- all that care holds when it is fresh -/
def XCare (s T : ev_S) (N A MI : Nat) (r : Nat → Int) : Prop := XK0 s T N A MI r ∧ XCov s T N A MI r ∧ (s 162 17 = 0 ∨ (s 162 17 = 1 ∧ XCh s T N A MI r)) ∧ (s 162 18 = -1 ∨ s 162 18 = (v_few T N A MI r : Int))
def frG (s s' : ev_S) : Prop := ∀ c, (c < 162 ∨ 175 < c) → s' c = s c
theorem sp_prepare {d N A NO MI : Nat} {s T : ev_S} {r : Nat → Int} {Q : Option ev_V → ev_S → Prop} (hT : m_tok T N A NO MI) (h0 : 0 ≤ r 0 ∧ r 0 ≤ 600) (hw : ∀ v, v < N → m_wok T r v) (hpa : ∀ a, a < A → m_pl T (r (27 + a))) (hXT : XT s 1 T) (hC : XC s 15 r) (h7 : s 146 7 = 0 ∨ (s 146 7 = 1 ∧ XS s T N MI r)) (h17 : s 162 19 = 0 ∨ (s 162 19 = 1 ∧ XCare s T N A MI r))
    (h : ∀ s', XCare s' T N A MI r → s' 162 19 = 1 → (s' 146 7 = 0 ∨ (s' 146 7 = 1 ∧ XS s' T N MI r)) → frK s s' → Q none s') : Ev layX M_X1_prepare (d + 6) 0 [(0, ev_r 162)] [] s Q := by
  have hT0 := hT
  obtain ⟨hdim, -, ⟨hA, hA6⟩, -, ⟨hM, hM10⟩, hg, -, hpok, hmok, -⟩ := hT
  have hcle := w_pc_le (T := T) (N := N) (r := r) MI
  have hc10 := pow_10 (n := w_pc T N r MI) (by omega)
  have hC1 : 1 ≤ 2 ^ w_pc T N r MI := Nat.one_le_two_pow
  refine wp_X1_prepare_0 ⟨fun c => ?_, fun c => ?_⟩
  · rintro _ rfl
    rintro _ rfl
    rintro _ rfl
    have f0 : ∀ c, c ≠ 162 → ev_up (ev_up (ev_up s 162 19 1) 162 17 0) 162 18 (-1) c = s c := fun c hc => by rw [ev_upj _ _ hc, ev_upj _ _ hc, ev_upj _ _ hc]
    have f17 : ev_up (ev_up (ev_up s 162 19 1) 162 17 0) 162 18 (-1) 162 19 = 1 := by rw [ev_up_ne _ _ (by omega), ev_up_ne _ _ (by omega), ev_up_same]
    have f15 : ev_up (ev_up (ev_up s 162 19 1) 162 17 0) 162 18 (-1) 162 17 = 0 := by rw [ev_up_ne _ _ (by omega), ev_up_same]
    have f16 : ev_up (ev_up (ev_up s 162 19 1) 162 17 0) 162 18 (-1) 162 18 = -1 := ev_up_same _ _ _ _
    generalize ev_up (ev_up (ev_up s 162 19 1) 162 17 0) 162 18 (-1) = s1 at *
    refine sp_pick hT0 h0 hw (XT_keep hXT (fun c h1 h2 => f0 c (by omega))) (XC_keep hC (fun c h1 h2 => f0 c (by omega))) ?_ (fun s2 z1 z2 z3 z4 z5 => ?_)
    · rw [f0 146 (by omega)]
      rcases h7 with q | ⟨q1, q2⟩
      · exact Or.inl q
      · exact Or.inr ⟨q1, fun i hi => by rw [f0 159 (by omega)]; exact q2 i hi⟩
    have hXT2 : XT s2 1 T := XT_keep hXT (fun c h1 h2 => by rw [z5.2 c (by omega) (by omega)]; exact f0 c (by omega))
    have hC2 : XC s2 15 r := XC_keep hC (fun c h1 h2 => by rw [z5.2 c (by omega) (by omega)]; exact f0 c (by omega))
    have fK2 : frK s s2 := ⟨fun i hi => by rw [z5.1 i hi, f0 146 (by omega)], fun c c1 c2 => by rw [z5.2 c c1 c2]; exact f0 c (by omega)⟩
    refine sp_measure hT0 (XN_of hT0 hXT2 hC2) z1 (fun sm m1 m2 => ?_)
    have hPm : XP sm T N MI r := XP_keep z1 (fun c hc => m2 c (by omega))
    refine sp_addRisks hT0 (XT_keep hXT2 (fun c h1 h2 => m2 c (by omega))) hPm (fun s3 y1 y2 => sp_fill yX_168 (by omega) ?_)
    have g0 : ∀ c, c ≠ 165 → c ≠ 166 → c ≠ 168 → ev_fill s3 168 192 0 c = s2 c := fun c c0 c1 c2 => by unfold ev_fill; rw [ev_set_ne _ _ c2, y2 c c1, m2 c c0]
    have gD : ev_fill s3 168 192 0 165 = sm 165 := by unfold ev_fill; rw [ev_set_ne _ _ (by omega), y2 165 (by omega)]
    have g166 : ev_fill s3 168 192 0 166 = s3 166 := by unfold ev_fill; rw [ev_set_ne _ _ (by omega)]
    have gx : ∀ a S, a < 6 → S < 1024 → xb (ev_fill s3 168 192 0 168) a S = false := fun a S ha hS => xb_fill (by omega)
    generalize ev_fill s3 168 192 0 = s4 at *
    -- each angel
    have key : ∀ (k a : Nat) (s5 : ev_S), a + k = A → (∀ b, b < a → (s5 167 b = (w_al T N MI r b (w_pc T N r MI) : Int) ∧ XAr s5 T N MI r b (2 ^ w_pc T N r MI)) ∧ ∃ (n : Nat) (w : Nat → Nat), XWd s5 b n w ∧ (∀ i, i < n → w i < 2 ^ w_pc T N r MI ∧ w_ca T N A MI r b (w_x T N MI r (w i))) ∧ ∀ S, S < 2 ^ w_pc T N r MI → w_ca T N A MI r b (w_x T N MI r S) → ∃ i, i < n ∧ ss S (w i)) → (∀ b S, a ≤ b → b < 6 → S < 1024 → xb (s5 168) b S = false) → (∀ c, (c < 167 ∨ c = 169 ∨ c = 172 ∨ 173 < c) → s5 c = s4 c) → Ev layX M_X1_prepare (d + 6) 45 [(0, ev_r 162), (1, ev_i (a : Int))] [] s5 Q := by
      intro k
      induction k with
      | zero =>
        intro a s5 ha ka kb kf
        have : a = A := by omega
        subst this
        have e7 : s5 1 7 = (a : Int) := by rw [kf 1 (by omega), g0 1 (by omega) (by omega) (by omega), hXT2.1.2.2.2.2.1]; exact hA
        refine wp_X1_prepare_45 ⟨fun _ => sp_fill yX_169 (by omega) (sp_fill yX_172 (by omega) (sp_put (row := 0) (S := 0) yX_169 (by omega) (by omega) (by omega) (fun s6 x1 x2 => ?_))), fun q => absurd q (by omega)⟩
        rintro _ rfl
        have p0 : ∀ c, c ≠ 169 → c ≠ 172 → ev_up s6 172 0 1 c = s5 c := fun c c1 c2 => by
          rw [ev_upj _ _ c2, x2 c c1]; unfold ev_fill; rw [ev_set_ne _ _ c2, ev_set_ne _ _ c1]
        have p1 : ∀ c, (c < 165 ∨ 173 < c) → ev_up s6 172 0 1 c = s2 c := fun c hc => by rw [p0 c (by omega) (by omega), kf c (by omega), g0 c (by omega) (by omega) (by omega)]
        have p169 : ∀ G S, G < 64 → S < 1024 → xb (ev_up s6 172 0 1 169) G S = decide (G = 0 ∧ S = 0) := fun G S hG hS => by
          rw [ev_upj _ _ (by omega), x1 G S hS]
          have : xb (ev_fill (ev_fill s5 169 2048 0) 172 64 0 169) G S = false := by
            have e : ev_fill (ev_fill s5 169 2048 0) 172 64 0 169 = ev_fill s5 169 2048 0 169 := by unfold ev_fill; rw [ev_set_ne _ _ (by omega)]
            rw [e]; exact xb_fill (by omega)
          rw [this, Bool.false_or]
        have p170 : ∀ G, G < 64 → ev_up s6 172 0 1 172 G = if G = 0 then 1 else 0 := fun G hG => by
          by_cases e : G = 0
          · subst e; rw [if_pos rfl, ev_up_same]
          · rw [if_neg e, ev_up_ne _ _ (by omega), x2 172 (by omega)]; unfold ev_fill; rw [ev_set_same]; simp [hG]
        have hf17 : ev_up s6 172 0 1 162 19 = 1 := by rw [p1 162 (by omega), z3 19 (by omega)]; exact f17
        refine h _ ⟨⟨?_, ?_, ?_, ⟨?_, ?_⟩, ?_⟩, ⟨?_, ?_⟩, Or.inl ?_, Or.inl ?_⟩ hf17 ?_ ?_
        · exact XP_keep z1 (fun c hc => p1 c (by omega))
        · intro S hS
          rw [p0 166 (by omega) (by omega), kf 166 (by omega), g166]; exact y1 S hS
        · intro b hb
          rw [p0 167 (by omega) (by omega)]; exact (ka b hb).1.1
        · intro b hb S hS
          rw [p0 168 (by omega) (by omega), w_ca_iff hb (w_x_all S), (ka b hb).1.2 S hS]
          exact ⟨fun q => q.2, fun q => ⟨w_cn_al hT0 hb hS q, q⟩⟩
        · intro b hb
          obtain ⟨n, w, ⟨q1, q2, q3⟩, q4, q5⟩ := (ka b hb).2
          exact ⟨n, w, ⟨q1, by rw [p0 171 (by omega) (by omega)]; exact q2, by rw [p0 170 (by omega) (by omega)]; exact q3⟩, q4, q5⟩
        · rw [p0 1 (by omega) (by omega)]; exact e7
        · rw [p170 0 (by omega), if_pos rfl]; omega
        · intro G hG
          rw [p170 G hG]
          by_cases e : G = 0
          · subst e
            rw [if_pos rfl]
            refine ⟨fun _ S hS => ?_, fun q => absurd q (by omega)⟩
            rw [p169 0 S (by omega) (by omega), g_cov_0 w_ca_0]
            constructor
            · intro q
              have := (of_decide_eq_true q).2
              subst this
              exact xs_0
            · intro q
              have : w_x T N MI r S = w_x T N MI r 0 := by rw [q]; exact xs_0.symm
              exact decide_eq_true ⟨rfl, xs_inj (w_pp_ok MI).2.1 hS (by omega) this⟩
          · rw [if_neg e]
            exact ⟨fun q => absurd rfl q, fun _ S hS => by rw [p169 G S hG hS]; exact decide_eq_false (fun z => e z.1)⟩
        · rw [p1 162 (by omega), z3 17 (by omega)]; exact f15
        · rw [p1 162 (by omega), z3 18 (by omega)]; exact f16
        · rw [p1 146 (by omega)]
          rcases z2 with q | ⟨q1, q2⟩
          · exact Or.inl q
          · exact Or.inr ⟨q1, fun i hi => by rw [p1 159 (by omega)]; exact q2 i hi⟩
        · exact ⟨fun i hi => by rw [p1 146 (by omega)]; exact fK2.1 i hi, fun c c1 c2 => by rw [p1 c (by omega)]; exact fK2.2 c c1 c2⟩
      | succ k ih =>
        intro a s5 ha ka kb kf
        have e5 : ∀ c, c < 165 → s5 c = s2 c := fun c hc => by rw [kf c (by omega), g0 c (by omega) (by omega) (by omega)]
        have e7 : s5 1 7 = (A : Int) := by rw [e5 1 (by omega), hXT2.1.2.2.2.2.1]; exact hA
        have hall := w_al_lt (T := T) (N := N) (MI := MI) (r := r) (a := a) (c := w_pc T N r MI)
        refine wp_X1_prepare_45 ⟨fun q => absurd q (by omega), fun _ => ?_⟩
        rw [ev_add_eq (x := (a : Int)) (y := 1) ⟨by omega, by omega⟩]
        refine sp_findAble hT0 h0 hpa (XN_keep (XN_of hT0 hXT2 hC2) (fun c hc => e5 c (by omega))) (XP_keep z1 (fun c hc => e5 c (by omega))) (XD_keep m1 (by rw [kf 165 (by omega), gD])) (by omega) (fun S hS => kb a S (Nat.le_refl _) (by omega) hS) (fun s6 x1 x2 x3 x4 x5 => ?_)
        refine sp_findWidest (by omega) (by omega) x1 (fun s7 n w v1 v2 v3 v4 v5 v6 => ?_)
        have e68 : s7 168 = s6 168 := v6 168 (by omega) (by omega)
        have e67 : s7 167 = s6 167 := v6 167 (by omega) (by omega)
        refine ih (a + 1) s7 (by omega) (fun b hb => ?_) (fun b S hb hb6 hS => ?_) (fun c hc => by rw [v6 c (by omega) (by omega), x5 c (by omega) (by omega) (by omega)]; exact kf c hc)
        · by_cases e : b = a
          · subst e
            refine ⟨⟨by rw [e67]; exact x1, fun S hS => by rw [e68]; exact x2 S hS⟩, n, w, v1, fun i hi => ?_, fun S hS hc => ?_⟩
            · have hv := v2 i hi
              refine ⟨by omega, (w_ca_iff (by omega) (w_x_all _)).mpr ((x2 (w i) (by omega)).mp hv.2).2⟩
            · have hcn := (w_ca_iff (by omega) (w_x_all _)).mp hc
              have hss := w_cn_al hT0 (by omega) hS hcn
              exact v3 S (le_of_sub hss) ((x2 S hS).mpr ⟨hss, hcn⟩)
          · obtain ⟨⟨k1, k2⟩, n', w', ⟨q1, q2, q3⟩, q4, q5⟩ := ka b (by omega)
            refine ⟨⟨by rw [e67, x4 b e]; exact k1, fun S hS => ?_⟩, n', w', ⟨q1, ?_, fun i hi => ?_⟩, q4, q5⟩
            · rw [e68, x3 b S e (by omega)]; exact k2 S hS
            · rw [v4 b e, x5 171 (by omega) (by omega) (by omega)]; exact q2
            · rw [v5 _ (by omega), x5 170 (by omega) (by omega) (by omega)]; exact q3 i hi
        · rw [e68, x3 b S (by omega) hS]; exact kb b S (by omega) hb6 hS
    exact key A 0 s4 (by omega) (fun b hb => absurd hb (by omega)) (fun b S _ hb hS => gx b S hb hS) (fun _ _ => rfl)
  · rcases h17 with q | ⟨q1, q2⟩
    · exact absurd q c
    · exact h s q2 q1 h7 ⟨fun _ _ => rfl, fun _ _ _ => rfl⟩
/-- the first way in which all see to just one set -/
theorem sp_share {d S N A NO MI : Nat} {s T : ev_S} {r : Nat → Int} {Q : Option ev_V → ev_S → Prop} (hT : m_tok T N A NO MI) (hK : XK0 s T N A MI r) (hV : XCov s T N A MI r) (hkn : ∀ k P, (∀ b, P.testBit b = true ↔ (k ≤ b ∧ (2 ^ A - 1).testBit b = true)) → s 172 P ≠ 0) (hS : S < 2 ^ w_pc T N r MI) (hc : g_cov (w_ca T N A MI r) A (2 ^ A - 1) (w_x T N MI r S))
    (h : ∀ (s' : ev_S) (c : Nat → Nat), (∀ a, a < A → c a < 2 ^ w_pc T N r MI ∧ s' 175 a = (c a : Int)) → ll (fun f => g_asg (w_ca T N A MI r) (2 ^ A - 1) f ∧ uni f A = w_x T N MI r S) (fun a => w_x T N MI r (c a)) A → (∀ c, c ≠ 175 → s' c = s c) → Q none s') : Ev layX M_X1_share (d + 1) 0 [(0, ev_r 162), (1, ev_i (S : Int))] [] s Q := by
  have hT0 := hT
  obtain ⟨hdim, -, ⟨hA, hA6⟩, -, ⟨hM, hM10⟩, hg, -, hpok, hmok, -⟩ := hT
  have hA1 : 1 ≤ 2 ^ A := Nat.one_le_two_pow
  have hA2 : 2 ^ A ≤ 64 := by have := Nat.pow_le_pow_right (n := 2) (by omega) hA6; omega
  have hcle := w_pc_le (T := T) (N := N) (r := r) MI
  have hc10 := pow_10 (n := w_pc T N r MI) (by omega)
  obtain ⟨ok1, ok2, ok3⟩ := w_pp_ok (T := T) (N := N) (r := r) MI
  refine wp_X1_share_0 (sp_everybody hK.2.2.2.2 hA6 (ev_pi_mk ?_))
  have key : ∀ (k a rest G : Nat) (c : Nat → Nat) (s1 : ev_S), a + k = A → g_w A a G → (∀ b, b < a → c b < 2 ^ w_pc T N r MI ∧ s1 175 b = (c b : Int)) → ll (fun f => g_asg (w_ca T N A MI r) (2 ^ A - 1) f ∧ uni f A = w_x T N MI r S) (fun b => w_x T N MI r (c b)) a → rest < 2 ^ w_pc T N r MI → w_x T N MI r rest = dif (w_x T N MI r S) (uni (fun b => w_x T N MI r (c b)) a) → (∀ c, c ≠ 175 → s1 c = s c) → Ev layX M_X1_share (d + 1) 10 [(0, ev_r 162), (2, ev_i (rest : Int)), (3, ev_i (G : Int)), (4, ev_i (a : Int))] [] s1 Q := by
    intro k
    induction k with
    | zero =>
      intro a rest G c s1 ha hG g1 g2 g3 g4 gf
      have : a = A := by omega
      subst this
      have e7 : s1 1 7 = (a : Int) := by rw [gf 1 (by omega)]; exact hK.2.2.2.2
      exact wp_X1_share_10 ⟨fun _ => h s1 c g1 g2 gf, fun q => absurd q (by omega)⟩
    | succ k ih =>
      intro a rest G c s1 ha hG g1 g2 g3 g4 gf
      have e7 : s1 1 7 = (A : Int) := by rw [gf 1 (by omega)]; exact hK.2.2.2.2
      have pa : 2 ^ a ≤ 64 := by have := Nat.pow_le_pow_right (n := 2) (by omega) (show a ≤ 6 by omega); omega
      have hGl : G < 2 ^ A := tb_lt (fun i hi => by
        cases q : G.testBit i
        · rfl
        · have := (hG i).mp q; omega)
      have dG := dif_le G (2 ^ a)
      have hG' : g_w A (a + 1) (dif G (2 ^ a)) := fun b => by
        rw [tb_dif, tb_pow, Bool.and_eq_true, hG b]
        simp; omega
      have hGk : s 172 (dif G (2 ^ a)) ≠ 0 := hkn (a + 1) _ (fun b => by rw [hG' b, Nat.testBit_two_pow_sub_one]; simp)
      have hrow := (hV.2 (dif G (2 ^ a)) (by omega)).1 hGk
      obtain ⟨⟨f0, ⟨f1, f2⟩, f3⟩, -⟩ := id g2
      have nx := fun u => sh_next (ca := w_ca T N A MI r) (s := u) (c := fun b => w_x T N MI r (c b)) w_ca_0 (gw_E A) hG' (by omega) f1 f2 f3
      -- in numbers without gaps
      have nc : ∀ t, t < 2 ^ w_pc T N r MI → ((ss t rest ∧ w_ca T N A MI r a (w_x T N MI r t) ∧ g_cov (w_ca T N A MI r) A (dif G (2 ^ a)) (w_x T N MI r (dif rest t))) ↔ ∃ f, (g_asg (w_ca T N A MI r) (2 ^ A - 1) f ∧ uni f A = w_x T N MI r S) ∧ (∀ b, b < a → f b = w_x T N MI r (c b)) ∧ f a = w_x T N MI r t) := by
        intro t ht
        rw [← nx (w_x T N MI r t), ← g4]
        have e : w_x T N MI r (dif rest t) = dif (w_x T N MI r rest) (w_x T N MI r t) := by unfold w_x; exact xs_dif ok2
        rw [e]
        constructor
        · rintro ⟨q1, q2, q3⟩; exact ⟨xs_ss q1, q2, q3⟩
        · rintro ⟨q1, q2, q3⟩; exact ⟨(xs_ss_iff ok2 ht).mp q1, q2, q3⟩
      obtain ⟨t0, t01, t02⟩ := w_x_on (T := T) (N := N) (MI := MI) (r := r) (U := f0 a) (w_ca_all a _ (f1.1 a))
      have ht0 := (nc t0 t01).mpr ⟨f0, ⟨f1, f2⟩, f3, t02.symm⟩
      have ht0l := le_of_sub ht0.1
      refine wp_X1_share_10 ⟨fun q => absurd q (by omega), fun _ => ?_⟩
      rw [Int.toNat_natCast, ev_shl1 (by omega), ev_andn (by omega) (by omega)]
      refine ⟨by omega, ?_⟩
      rintro _ rfl
      -- found
      have found : ∀ t, t < 2 ^ w_pc T N r MI → (ss t rest ∧ w_ca T N A MI r a (w_x T N MI r t) ∧ g_cov (w_ca T N A MI r) A (dif G (2 ^ a)) (w_x T N MI r (dif rest t))) → (∀ t', t' < t → ¬ (ss t' rest ∧ w_ca T N A MI r a (w_x T N MI r t') ∧ g_cov (w_ca T N A MI r) A (dif G (2 ^ a)) (w_x T N MI r (dif rest t')))) → Ev layX M_X1_share (d + 1) 106 [(0, ev_r 162), (2, ev_i (rest : Int)), (3, ev_i ((dif G (2 ^ a) : Nat) : Int)), (4, ev_i (a : Int))] [] (ev_up (ev_up s1 175 a 0) 175 a (t : Int)) Q := by
        intro t ht hok hmin
        refine wp_X1_share_106 ?_
        have dr := dif_le rest t
        rw [Int.toNat_natCast, ev_up_same, ev_andn (by omega) (by omega), ev_add_eq (x := (a : Int)) (y := 1) ⟨by omega, by omega⟩]
        refine ⟨by omega, ih (a + 1) (dif rest t) (dif G (2 ^ a)) (fun b => if b = a then t else c b) _ (by omega) hG' (fun b hb => ?_) ?_ (by omega) ?_ (fun c hc => by rw [ev_upj _ _ hc, ev_upj _ _ hc]; exact gf c hc)⟩
        · by_cases e : b = a
          · subst e; rw [if_pos rfl, ev_up_same]; exact ⟨ht, rfl⟩
          · rw [if_neg e, ev_up_ne _ _ (by omega), ev_up_ne _ _ (by omega)]; exact g1 b (by omega)
        · refine ll_step g2 (fun b hb => by rw [if_neg (by omega)]) ?_ ?_
          · obtain ⟨f, q1, q2, q3⟩ := (nc t ht).mp hok
            exact ⟨f, q1, q2, by rw [if_pos rfl]; exact q3⟩
          · intro f q1 q2
            rw [if_pos rfl]
            obtain ⟨t', u1, u2⟩ := w_x_on (T := T) (N := N) (MI := MI) (r := r) (U := f a) (w_ca_all a _ (q1.1.1 a))
            have hok' := (nc t' u1).mpr ⟨f, q1, q2, u2.symm⟩
            rw [← u2]
            rcases Nat.lt_trichotomy t t' with z | z | z
            · exact Nat.le_of_lt (xs_lt ok2 ht u1 z)
            · subst z; exact Nat.le_refl _
            · exact absurd hok' (hmin t' z)
        · have e : w_x T N MI r (dif rest t) = dif (w_x T N MI r rest) (w_x T N MI r t) := by unfold w_x; exact xs_dif ok2
          have eu : uni (fun b => w_x T N MI r (if b = a then t else c b)) (a + 1) = uni (fun b => w_x T N MI r (c b)) a ||| w_x T N MI r t := by
            simp only [uni, if_true]
            rw [uni_cong (f := fun b => w_x T N MI r (if b = a then t else c b)) (g := fun b => w_x T N MI r (c b)) (fun b hb => by rw [if_neg (by omega)])]
          rw [e, g4, eu]
          exact eq_tb (fun i => by
            simp only [tb_dif, Nat.testBit_or]
            cases (w_x T N MI r S).testBit i <;> cases (uni (fun b => w_x T N MI r (c b)) a).testBit i <;> cases (w_x T N MI r t).testBit i <;> simp)
      have inner : ∀ (m t : Nat), t + m = t0 → (∀ t', t' < t → ¬ (ss t' rest ∧ w_ca T N A MI r a (w_x T N MI r t') ∧ g_cov (w_ca T N A MI r) A (dif G (2 ^ a)) (w_x T N MI r (dif rest t')))) → Ev layX M_X1_share (d + 1) 42 [(0, ev_r 162), (2, ev_i (rest : Int)), (3, ev_i ((dif G (2 ^ a) : Nat) : Int)), (4, ev_i (a : Int)), (5, ev_i (t : Int))] [] (ev_up s1 175 a 0) Q := by
        have body : ∀ t, t ≤ t0 → (∀ t', t' < t → ¬ (ss t' rest ∧ w_ca T N A MI r a (w_x T N MI r t') ∧ g_cov (w_ca T N A MI r) A (dif G (2 ^ a)) (w_x T N MI r (dif rest t')))) → (¬ (ss t rest ∧ w_ca T N A MI r a (w_x T N MI r t) ∧ g_cov (w_ca T N A MI r) A (dif G (2 ^ a)) (w_x T N MI r (dif rest t))) → Ev layX M_X1_share (d + 1) 42 [(0, ev_r 162), (2, ev_i (rest : Int)), (3, ev_i ((dif G (2 ^ a) : Nat) : Int)), (4, ev_i (a : Int)), (5, ev_i ((t : Int) + 1))] [] (ev_up s1 175 a 0) Q) → Ev layX M_X1_share (d + 1) 42 [(0, ev_r 162), (2, ev_i (rest : Int)), (3, ev_i ((dif G (2 ^ a) : Nat) : Int)), (4, ev_i (a : Int)), (5, ev_i (t : Int))] [] (ev_up s1 175 a 0) Q := by
          intro t ht hmin next
          refine wp_X1_share_42 ⟨fun q => absurd q (by omega), fun _ => ?_⟩
          rw [ev_andn (by omega) (by omega), ev_add_eq (x := (t : Int)) (y := 1) ⟨by omega, by omega⟩]
          refine ⟨fun q => next (fun z => q (by rw [ss_dif0.mpr z.1]; rfl)), fun q => ?_⟩
          have hts : ss t rest := ss_dif0.mp (by omega)
          have htl : t < 2 ^ w_pc T N r MI := by omega
          have dr := dif_le rest t
          refine sp_holds yX_168 (by omega) (by omega) (by omega) (ev_pi_mk ?_)
          rw [ev_upj _ _ (by omega), gf 168 (by omega)]
          have hb := hK.2.2.2.1.1 a (by omega) t htl
          by_cases c1 : xb (s 168) a t = true
          · rw [if_pos c1]
            rw [ev_andn (by omega) (by omega)]
            refine ⟨fun q => absurd q (by omega), fun _ => sp_holds yX_169 (by omega) (by omega) (by omega) (ev_pi_mk ?_)⟩
            rw [ev_upj _ _ (by omega), gf 169 (by omega)]
            have hb2 := hrow (dif rest t) (by omega)
            by_cases c2 : xb (s 169) (dif G (2 ^ a)) (dif rest t) = true
            · rw [if_pos c2]
              refine ⟨fun q => absurd q (by omega), fun _ => ⟨by omega, ?_⟩⟩
              rw [Int.toNat_natCast]
              rintro _ rfl
              exact found t htl ⟨hts, hb.mp c1, hb2.mp c2⟩ hmin
            · rw [if_neg c2]
              exact ⟨fun _ => next (fun z => c2 (hb2.mpr z.2.2)), fun q => absurd rfl q⟩
          · rw [if_neg c1]
            exact ⟨fun _ => next (fun z => c1 (hb.mpr z.2.1)), fun q => absurd rfl q⟩
        intro m
        induction m with
        | zero =>
          intro t ht hmin
          have : t = t0 := by omega
          subst this
          exact body t (Nat.le_refl _) hmin (fun q => absurd ht0 q)
        | succ m ihm =>
          intro t ht hmin
          refine body t (by omega) hmin (fun q => ihm (t + 1) (by omega) (fun t' ht' => ?_))
          by_cases e : t' = t
          · subst e; exact q
          · exact hmin t' (by omega)
      exact inner t0 0 (by omega) (fun t' ht' => absurd ht' (by omega))
  obtain ⟨f, f1, f2⟩ := hc
  refine key A 0 S (2 ^ A - 1) (fun _ => 0) s (by omega) (gw_E A) (fun b hb => absurd hb (by omega)) ⟨⟨f, ⟨f1, f2.symm⟩, fun b hb => absurd hb (by omega)⟩, fun f _ k hk => absurd hk (by omega)⟩ hS ?_ (fun _ _ => rfl)
  exact eq_tb (fun i => by rw [tb_dif]; simp [uni])
theorem sp_isEarlier {d A : Nat} {s : ev_S} {t c : Nat → Nat} {Q : Option ev_V → ev_S → Prop} (h7 : s 1 7 = (A : Int)) (hA6 : A ≤ 6) (ht : ∀ a, a < A → s 175 a = (t a : Int) ∧ s 174 a = (c a : Int))
    (h1 : ∀ k, k < A → (∀ b, b < k → t b = c b) → t k < c k → Q (some (ev_i 1)) s) (h2 : ((∀ b, b < A → t b = c b) ∨ ∃ k, k < A ∧ (∀ b, b < k → t b = c b) ∧ c k < t k) → Q (some (ev_i 0)) s) : Ev layX M_X1_isEarlier d 0 [(0, ev_r 162)] [] s Q := by
  refine wp_X1_isEarlier_0 ?_
  have key : ∀ k a : Nat, a + k = A → (∀ b, b < a → t b = c b) → Ev layX M_X1_isEarlier d 2 [(0, ev_r 162), (1, ev_i (a : Int))] [] s Q := by
    intro k
    induction k with
    | zero =>
      intro a ha hb
      exact wp_X1_isEarlier_2 ⟨fun _ => h2 (Or.inl (fun b hb' => hb b (by omega))), fun q => absurd q (by omega)⟩
    | succ k ih =>
      intro a ha hb
      refine wp_X1_isEarlier_2 ⟨fun q => absurd q (by omega), fun _ => ?_⟩
      rw [Int.toNat_natCast, (ht a (by omega)).1, (ht a (by omega)).2, ev_add_eq (x := (a : Int)) (y := 1) ⟨by omega, by omega⟩]
      refine ⟨by omega, by omega, fun q => ih (a + 1) (by omega) (fun b hb' => ?_), fun q => ⟨by omega, by omega, fun q2 => h2 (Or.inr ⟨a, by omega, hb, by omega⟩), fun q2 => h1 a (by omega) hb (by omega)⟩⟩
      by_cases e : b = a
      · subst e; omega
      · exact hb b (by omega)
  exact key A 0 (by omega) (fun b hb => absurd hb (by omega))
theorem sp_choose {d N A NO MI : Nat} {s T : ev_S} {r : Nat → Int} {Q : Option ev_V → ev_S → Prop} (hT : m_tok T N A NO MI) (hX : XCare s T N A MI r)
    (h : ∀ s', XCare s' T N A MI r → XCh s' T N A MI r → s' 162 19 = s 162 19 → frG s s' → Q none s') : Ev layX M_X1_choose (d + 5) 0 [(0, ev_r 162)] [] s Q := by
  have hT0 := hT
  obtain ⟨hdim, -, ⟨hA, hA6⟩, -, ⟨hM, hM10⟩, hg, -, hpok, hmok, -⟩ := hT
  have hA1 : 1 ≤ 2 ^ A := Nat.one_le_two_pow
  have hA2 : 2 ^ A ≤ 64 := by have := Nat.pow_le_pow_right (n := 2) (by omega) hA6; omega
  have hcle := w_pc_le (T := T) (N := N) (r := r) MI
  have hc10 := pow_10 (n := w_pc T N r MI) (by omega)
  have hC1 : 1 ≤ 2 ^ w_pc T N r MI := Nat.one_le_two_pow
  obtain ⟨ok1, ok2, ok3⟩ := w_pp_ok (T := T) (N := N) (r := r) MI
  obtain ⟨hK, hV, hCh, hFe⟩ := hX
  refine wp_X1_choose_0 ⟨fun c => sp_everybody hK.2.2.2.2 hA6 (ev_pi_mk (sp_most hT0 hK hV (by omega) (fun s1 z1 z2 zS zM z3 => ev_pi_mk ?_))), fun c => ?_⟩
  · have hK1 : XK0 s1 T N A MI r := XK0_keep hK (by rw [z3 162 (by omega) (by omega)]) (fun c hc => z3 c (by omega) (by omega))
    have hr := (z1.2 (2 ^ A - 1) (by omega)).1 z2
    -- the ways below a set
    have key : ∀ (k S : Nat) (s2 : ev_S), S + k = 2 ^ w_pc T N r MI → ((s2 162 17 = 0 ∧ ∀ S', S' < S → ¬ (w_rk T N MI r S' = v_mo T N A MI r (2 ^ A - 1) ∧ g_cov (w_ca T N A MI r) A (2 ^ A - 1) (w_x T N MI r S'))) ∨ (s2 162 17 = 1 ∧ ∃ c : Nat → Nat, (∀ a, a < A → c a < 2 ^ w_pc T N r MI ∧ s2 174 a = (c a : Int)) ∧ ll (fun f => g_asg (w_ca T N A MI r) (2 ^ A - 1) f ∧ ∃ S', S' < S ∧ uni f A = w_x T N MI r S' ∧ w_rk T N MI r S' = v_mo T N A MI r (2 ^ A - 1)) (fun a => w_x T N MI r (c a)) A)) → (∀ i, i ≠ 17 → s2 162 i = s1 162 i) → (∀ c, c ≠ 162 → c ≠ 174 → c ≠ 175 → s2 c = s1 c) → Ev layX M_X1_choose (d + 5) 19 [(0, ev_r 162), (1, ev_i (v_mo T N A MI r (2 ^ A - 1))), (2, ev_i (S : Int))] [] s2 Q := by
      intro k
      induction k with
      | zero =>
        intro S s2 hS hst g162 gf
        have e3 : s2 162 3 = (w_pc T N r MI : Int) := by rw [g162 3 (by omega)]; exact hK1.1.1
        refine wp_X1_choose_19 (sp_full hM10 e3 (ev_pi_mk ⟨fun _ => ?_, fun q => absurd q (by omega)⟩))
        have hS2 : S = 2 ^ w_pc T N r MI := by omega
        subst hS2
        rcases hst with ⟨-, q⟩ | ⟨q15, c, q1, q2⟩
        · exfalso
          obtain ⟨⟨U, u1, u2, u3⟩, -⟩ := zM
          obtain ⟨S', v1, v2⟩ := w_x_on (g_cov_all u1)
          refine q S' v1 ⟨?_, by rw [v2]; exact u1⟩
          rw [← w_rk_eq, v2]; exact u3
        · have hll : ll (w_F T N A MI r (v_mo T N A MI r (2 ^ A - 1))) (fun a => w_x T N MI r (c a)) A := by
            refine ll_cong q2 (fun f => ?_)
            unfold w_F
            constructor
            · rintro ⟨y1, S', y2, y3, y4⟩
              exact ⟨y1, by rw [y3, w_rk_eq]; exact y4⟩
            · rintro ⟨y1, y2⟩
              obtain ⟨S', v1, v2⟩ := w_x_on (T := T) (N := N) (MI := MI) (r := r) (U := uni f A) (uni_ss (fun b _ => w_ca_all b _ (y1.1 b)))
              exact ⟨y1, S', v1, v2.symm, by rw [← w_rk_eq, v2]; exact y2⟩
          have hx : XCh s2 T N A MI r := fun a ha => ⟨c a, (q1 a ha).1, (q1 a ha).2, v_ch_eq hll a ha⟩
          have hfr : frG s s2 := fun c' hc => by rw [gf c' (by omega) (by omega) (by omega), z3 c' (by omega) (by omega)]
          refine h s2 ⟨XK0_keep hK1 (g162 3 (by omega)) (fun c hc => gf c (by omega) (by omega) (by omega)), ?_, Or.inr ⟨q15, hx⟩, ?_⟩ hx ?_ hfr
          · unfold XCov XKr XKn
            rw [gf 172 (by omega) (by omega) (by omega), gf 169 (by omega) (by omega) (by omega)]
            exact z1
          · rw [g162 18 (by omega), z3 162 (by omega) (by omega)]; exact hFe
          · rw [g162 19 (by omega), z3 162 (by omega) (by omega)]
      | succ k ih =>
        intro S s2 hS hst g162 gf
        have e3 : s2 162 3 = (w_pc T N r MI : Int) := by rw [g162 3 (by omega)]; exact hK1.1.1
        have hK2 : XK0 s2 T N A MI r := XK0_keep hK1 (g162 3 (by omega)) (fun c hc => gf c (by omega) (by omega) (by omega))
        have hV2 : XCov s2 T N A MI r := by
          unfold XCov XKr XKn
          rw [gf 172 (by omega) (by omega) (by omega), gf 169 (by omega) (by omega) (by omega)]
          exact z1
        refine wp_X1_choose_19 (sp_full hM10 e3 (ev_pi_mk ⟨fun q => absurd q (by omega), fun _ => ?_⟩))
        rw [Int.toNat_natCast, hK2.2.1 S (by omega), ev_add_eq (x := (S : Int)) (y := 1) ⟨by omega, by omega⟩]
        -- not this set
        have skip : ¬ (w_rk T N MI r S = v_mo T N A MI r (2 ^ A - 1) ∧ g_cov (w_ca T N A MI r) A (2 ^ A - 1) (w_x T N MI r S)) → Ev layX M_X1_choose (d + 5) 19 [(0, ev_r 162), (1, ev_i (v_mo T N A MI r (2 ^ A - 1))), (2, ev_i ((S : Int) + 1))] [] s2 Q := by
          intro hn
          refine ih (S + 1) s2 (by omega) ?_ g162 gf
          rcases hst with ⟨q1, q2⟩ | ⟨q1, c, q2, q3⟩
          · refine Or.inl ⟨q1, fun S' hS' => ?_⟩
            by_cases e : S' = S
            · subst e; exact hn
            · exact q2 S' (by omega)
          · refine Or.inr ⟨q1, c, q2, ll_cong q3 (fun f => ?_)⟩
            constructor
            · rintro ⟨y1, S', y2, y3⟩; exact ⟨y1, S', by omega, y3⟩
            · rintro ⟨y1, S', y2, y3, y4⟩
              refine ⟨y1, S', ?_, y3, y4⟩
              by_cases e : S' = S
              · subst e; exact absurd ⟨y4, f, y1, y3.symm⟩ hn
              · omega
        refine ⟨by omega, fun q => skip (fun z => q z.1), fun q => sp_everybody hK2.2.2.2.2 hA6 (ev_pi_mk (sp_holds yX_169 (by omega) (by omega) (by omega) (ev_pi_mk ?_)))⟩
        rw [gf 169 (by omega) (by omega) (by omega)]
        have hrS := hr S (by omega)
        by_cases c2 : xb (s1 169) (2 ^ A - 1) S = true
        · rw [if_pos c2]
          refine ⟨fun q => absurd q (by omega), fun _ => sp_share hT0 hK2 hV2 (fun k P hP => by rw [gf 172 (by omega) (by omega) (by omega)]; exact zS k P hP) (by omega) (hrS.mp c2) (fun s3 t y1 y2 y3 => ?_)⟩
          have eG : ∀ f, (g_asg (w_ca T N A MI r) (2 ^ A - 1) f ∧ ∃ S', S' < S + 1 ∧ uni f A = w_x T N MI r S' ∧ w_rk T N MI r S' = v_mo T N A MI r (2 ^ A - 1)) ↔ ((g_asg (w_ca T N A MI r) (2 ^ A - 1) f ∧ ∃ S', S' < S ∧ uni f A = w_x T N MI r S' ∧ w_rk T N MI r S' = v_mo T N A MI r (2 ^ A - 1)) ∨ (g_asg (w_ca T N A MI r) (2 ^ A - 1) f ∧ uni f A = w_x T N MI r S)) := by
            intro f
            constructor
            · rintro ⟨u1, S', u2, u3, u4⟩
              by_cases e : S' = S
              · subst e; exact Or.inr ⟨u1, u3⟩
              · exact Or.inl ⟨u1, S', by omega, u3, u4⟩
            · rintro (⟨u1, S', u2, u3, u4⟩ | ⟨u1, u2⟩)
              · exact ⟨u1, S', by omega, u3, u4⟩
              · exact ⟨u1, S, by omega, u2, q⟩
          -- taken
          have take : (∀ c : Nat → Nat, (∀ a, a < A → c a < 2 ^ w_pc T N r MI ∧ s2 174 a = (c a : Int)) → ll (fun f => g_asg (w_ca T N A MI r) (2 ^ A - 1) f ∧ ∃ S', S' < S ∧ uni f A = w_x T N MI r S' ∧ w_rk T N MI r S' = v_mo T N A MI r (2 ^ A - 1)) (fun a => w_x T N MI r (c a)) A → s2 162 17 = 1 → ∃ k, k < A ∧ (∀ b, b < k → t b = c b) ∧ t k < c k) → Ev layX M_X1_choose (d + 5) 71 [(0, ev_r 162), (1, ev_i (v_mo T N A MI r (2 ^ A - 1))), (2, ev_i (S : Int))] [] s3 Q := by
            intro hearl
            refine wp_X1_choose_71 ⟨by decide, ?_⟩
            rintro _ rfl
            rintro _ rfl
            rw [ev_add_eq (x := (S : Int)) (y := 1) ⟨by omega, by omega⟩]
            have cpj : ∀ c, c ≠ 174 → ev_cp s3 175 (Int.toNat 0) 174 (Int.toNat 0) (Int.toNat 6) c = s3 c := by
              intro c hc; funext i; simp [ev_cp, hc]
            have cpk : ∀ i, i < 6 → ev_cp s3 175 (Int.toNat 0) 174 (Int.toNat 0) (Int.toNat 6) 174 i = s3 175 i := by
              intro i hi; simp [ev_cp, hi]
            refine ih (S + 1) _ (by omega) (Or.inr ⟨ev_up_same _ _ _ _, t, fun a ha => ⟨(y1 a ha).1, ?_⟩, ?_⟩) (fun i hi => ?_) (fun c c1 c2 c3 => ?_)
            · rw [ev_upj _ _ (by omega), cpk a (by omega)]; exact (y1 a ha).2
            · rcases hst with ⟨q1, q2⟩ | ⟨q1, c, q2, q3⟩
              · refine ll_cong y2 (fun f => ?_)
                rw [eG f]
                constructor
                · exact fun z => Or.inr z
                · rintro (⟨u1, S', u2, u3, u4⟩ | z)
                  · exact absurd ⟨u4, f, u1, u3.symm⟩ (q2 S' u2)
                  · exact z
              · obtain ⟨k, k1, k2, k3⟩ := hearl c q2 q3 q1
                exact ll_cong (ll_or1 q3 y2 k1 (fun b hb => by rw [k2 b hb]) (xs_lt ok2 (y1 k k1).1 (q2 k k1).1 k3)) (fun f => (eG f).symm)
            · rw [ev_up_ne _ _ (by omega), cpj 162 (by omega), y3 162 (by omega)]; exact g162 i hi
            · rw [ev_upj _ _ c1, cpj c c2, y3 c c3]; exact gf c c1 c2 c3
          rw [y3 162 (by omega)]
          refine ⟨fun q15 => take (fun c _ _ z => absurd z (by omega)), fun q15 => ?_⟩
          rcases hst with ⟨z15, -⟩ | ⟨z15, c, q2, q3⟩
          · exact absurd z15 q15
          have e7 : s3 1 7 = (A : Int) := by rw [y3 1 (by omega)]; exact hK2.2.2.2.2
          refine sp_isEarlier (t := t) (c := c) e7 hA6 (fun a ha => ⟨(y1 a ha).2, by rw [y3 174 (by omega)]; exact (q2 a ha).2⟩) (fun k k1 k2 k3 => ev_pi_mk ⟨fun z => absurd z (by omega), fun _ => take (fun c' u1 u2 u3 => ?_)⟩) (fun hno => ev_pi_mk ⟨fun _ => ?_, fun z => absurd rfl z⟩)
          · have ec : ∀ a, a < A → c' a = c a := fun a ha => by have := (u1 a ha).2; rw [(q2 a ha).2] at this; omega
            exact ⟨k, k1, fun b hb => by rw [ec b (by omega)]; exact k2 b hb, by rw [ec k k1]; exact k3⟩
          · rintro _ rfl
            refine ih (S + 1) _ (by omega) (Or.inr ⟨ev_up_same _ _ _ _, c, fun a ha => ⟨(q2 a ha).1, ?_⟩, ?_⟩) (fun i hi => ?_) (fun c c1 c2 c3 => ?_)
            · rw [ev_upj _ _ (by omega), y3 174 (by omega)]; exact (q2 a ha).2
            · refine ll_cong (ll_or2 q3 y2 ?_) (fun f => (eG f).symm)
              rcases hno with z | ⟨k, k1, k2, k3⟩
              · exact Or.inl (fun b hb => by rw [z b hb])
              · exact Or.inr ⟨k, k1, fun b hb => by rw [k2 b hb], xs_lt ok2 (q2 k k1).1 (y1 k k1).1 k3⟩
            · rw [ev_up_ne _ _ (by omega), y3 162 (by omega)]; exact g162 i hi
            · rw [ev_upj _ _ c1, y3 c c3]; exact gf c c1 c2 c3
        · rw [if_neg c2]
          exact ⟨fun _ => skip (fun z => c2 (hrS.mpr z.2)), fun q => absurd rfl q⟩
    refine key (2 ^ w_pc T N r MI) 0 s1 (by omega) (Or.inl ⟨?_, fun S' hS' => absurd hS' (by omega)⟩) (fun _ _ => rfl) (fun _ _ _ _ => rfl)
    rw [z3 162 (by omega) (by omega)]; exact c
  · rcases hCh with q | ⟨q1, q2⟩
    · exact absurd q c
    · exact h s ⟨hK, hV, Or.inr ⟨q1, q2⟩, hFe⟩ q2 rfl (fun _ _ => rfl)
