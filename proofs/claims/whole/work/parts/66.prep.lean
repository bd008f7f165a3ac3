/-! LEAST, the class: all tables of single angels -/
theorem sp_findAble {d a N A NO MI : Nat} {s T : ev_S} {r : Nat → Int} {Q : Option ev_V → ev_S → Prop} (hT : m_tok T N A NO MI) (h0 : 0 ≤ r 0 ∧ r 0 ≤ 600) (hpa : ∀ a, a < A → m_pl T (r (27 + a))) (hN : XN s T A r) (hP : XP s T N MI r) (hD : XD s T N MI r) (ha : a < A) (hcl : ∀ S, S < 1024 → xb (s 168) a S = false)
    (h : ∀ s', s' 167 a = (w_al T N MI r a (w_pc T N r MI) : Int) → XAr s' T N MI r a (2 ^ w_pc T N r MI) → (∀ b S, b ≠ a → S < 1024 → xb (s' 168) b S = xb (s 168) b S) → (∀ b, b ≠ a → s' 167 b = s 167 b) → (∀ c, c ≠ 167 → c ≠ 168 → c ≠ 173 → s' c = s c) → Q none s') : Ev layX M_X1_findAble (d + 5) 0 [(0, ev_r 162), (1, ev_i (a : Int))] [] s Q := by
  have hT0 := hT
  obtain ⟨hdim, -, ⟨hA, hA6⟩, -, ⟨hM, hM10⟩, hg, -, hpok, hmok, -⟩ := hT
  obtain ⟨⟨hp1, hp9⟩, -⟩ := hpok a ha
  have hcle := w_pc_le (T := T) (N := N) (r := r) MI
  obtain ⟨ok1, ok2, ok3⟩ := w_pp_ok (T := T) (N := N) (r := r) MI
  have hc10 := pow_10 (n := w_pc T N r MI) (by omega)
  have hC0 : 0 < 2 ^ w_pc T N r MI := Nat.two_pow_pos _
  have hall := w_al_lt (T := T) (N := N) (MI := MI) (r := r) (a := a) (c := w_pc T N r MI)
  have htri : w_tri (w_a0 T r a) (w_fa T a) := w_tri_ok (by omega)
  refine wp_X1_findAble_0 ?_
  rw [Int.toNat_natCast]
  refine ⟨by omega, ?_⟩
  rintro _ rfl
  -- the sets
  have sets : ∀ (k S : Nat) (s1 : ev_S), S + k = w_al T N MI r a (w_pc T N r MI) + 1 → 1 ≤ S → s1 167 a = (w_al T N MI r a (w_pc T N r MI) : Int) → XAr s1 T N MI r a S → (∀ S', S ≤ S' → S' < 1024 → xb (s1 168) a S' = false) → (∀ S', S' < S → ss S' (w_al T N MI r a (w_pc T N r MI)) → XFr s1 T N MI r a S') → (∀ b S', b ≠ a → S' < 1024 → xb (s1 168) b S' = xb (s 168) b S') → (∀ b, b ≠ a → s1 167 b = s 167 b) → (∀ c, c ≠ 167 → c ≠ 168 → c ≠ 173 → s1 c = s c) → Ev layX M_X1_findAble (d + 5) 56 [(0, ev_r 162), (1, ev_i (a : Int)), (2, ev_i (S : Int))] [] s1 Q := by
    intro k
    induction k with
    | zero =>
      intro S s1 hS h1 g167 gA gc gF gb g167b gf
      refine wp_X1_findAble_56 ?_
      rw [Int.toNat_natCast, g167]
      refine ⟨by omega, fun _ => h s1 g167 ?_ gb g167b gf, fun q => absurd q (by omega)⟩
      intro S' hS'
      by_cases e : S' < S
      · exact gA S' e
      · rw [gc S' (by omega) (by omega)]
        constructor
        · intro q; exact absurd q (by simp)
        · intro q; have := le_of_sub q.1; omega
    | succ k ih =>
      intro S s1 hS h1 g167 gA gc gF gb g167b gf
      have hN1 : XN s1 T A r := XN_keep hN (fun c hc => gf c (by omega) (by omega) (by omega))
      have hP1 : XP s1 T N MI r := XP_keep hP (fun c hc => gf c (by omega) (by omega) (by omega))
      refine wp_X1_findAble_56 ?_
      rw [Int.toNat_natCast, g167, ev_andn (by omega) (by omega), ev_add_eq (x := (S : Int)) (y := 1) ⟨by omega, by omega⟩]
      refine ⟨by omega, fun q => absurd q (by omega), fun _ => ⟨by omega, fun c => ?_, fun c => ?_⟩⟩
      · have hns : ¬ ss S (w_al T N MI r a (w_pc T N r MI)) := fun z => c (by rw [ss_dif0.mpr z]; rfl)
        refine ih (S + 1) s1 (by omega) (by omega) g167 (fun S' hS' => ?_) (fun S' h2 h3 => gc S' (by omega) h3) (fun S' h2 h3 => ?_) gb g167b gf
        · by_cases e : S' = S
          · subst e
            rw [gc S' (Nat.le_refl _) (by omega)]
            exact ⟨fun q => absurd q (by simp), fun q => absurd q.1 hns⟩
          · exact gA S' (by omega)
        · by_cases e : S' = S
          · subst e; exact absurd h3 hns
          · exact gF S' (by omega) h3
      · have hss : ss S (w_al T N MI r a (w_pc T N r MI)) := ss_dif0.mp (by omega)
        refine sp_seesTo hT0 h0 hpa hN1 hP1 (XD_keep hD (gf 165 (by omega) (by omega) (by omega))) ha (by omega) (by omega) hss gA gF (fun s2 b hb hbi zF zr zf => ev_pi_mk ?_)
        have e168 : s2 168 = s1 168 := zf 168 (by omega)
        have F2 : ∀ S', S' < S + 1 → ss S' (w_al T N MI r a (w_pc T N r MI)) → XFr s2 T N MI r a S' := by
          intro S' h2 h3
          by_cases e : S' = S
          · subst e; exact zF
          · intro m hm
            obtain ⟨v, v1, v2⟩ := gF S' (by omega) h3 m hm
            have : m < 10 := by have := tb_lim (Nat.lt_of_le_of_lt (le_of_sub h3) hall) hm; omega
            exact ⟨v, v1, by rw [zr _ (by omega)]; exact v2⟩
        have f2 : ∀ c, c ≠ 167 → c ≠ 168 → c ≠ 173 → s2 c = s c := fun c c1 c2 c3 => by rw [zf c c3]; exact gf c c1 c2 c3
        refine ⟨fun q => ih (S + 1) s2 (by omega) (by omega) (by rw [zf 167 (by omega)]; exact g167) (fun S' hS' => ?_) (fun S' h2 h3 => by rw [e168]; exact gc S' (by omega) h3) F2 (by rw [e168]; exact gb) (by rw [zf 167 (by omega)]; exact g167b) f2, fun q => ?_⟩
        · by_cases e : S' = S
          · subst e
            rw [e168, gc S' (Nat.le_refl _) (by omega)]
            refine ⟨fun z => absurd z (by simp), fun z => ?_⟩
            have := hbi.mpr z.2
            omega
          · rw [e168]; exact gA S' (by omega)
        · have b1 : b = 1 := by omega
          refine sp_put yX_168 (by omega) (by omega) (by omega) (fun s3 y1 y2 => ?_)
          refine ih (S + 1) s3 (by omega) (by omega) (by rw [y2 167 (by omega), zf 167 (by omega)]; exact g167) (fun S' hS' => ?_) (fun S' h2 h3 => ?_) (fun S' h2 h3 => ?_) (fun b' S' h2 h3 => ?_) (by rw [y2 167 (by omega), zf 167 (by omega)]; exact g167b) (fun c c1 c2 c3 => by rw [y2 c c2]; exact f2 c c1 c2 c3)
          · rw [y1 a S' (by omega), e168]
            by_cases e : S' = S
            · subst e
              simp only [true_and, decide_true, Bool.or_true]
              exact ⟨fun _ => ⟨hss, hbi.mp b1⟩, fun _ => trivial⟩
            · rw [decide_eq_false (fun z => e z.2), Bool.or_false]; exact gA S' (by omega)
          · rw [y1 a S' h3, e168, decide_eq_false (fun z => by omega), Bool.or_false]; exact gc S' (by omega) h3
          · have := F2 S' h2 h3
            intro m hm
            obtain ⟨v, v1, v2⟩ := this m hm
            exact ⟨v, v1, by rw [y2 173 (by omega)]; exact v2⟩
          · rw [y1 b' S' h3, e168, decide_eq_false (fun z => h2 z.1), Bool.or_false]; exact gb b' S' h2 h3
  -- who could alone
  have alone : ∀ (k n : Nat) (s1 : ev_S), n + k = w_pc T N r MI → s1 167 a = (w_al T N MI r a n : Int) → (∀ b, b ≠ a → s1 167 b = s 167 b) → (∀ c, c ≠ 167 → s1 c = s c) → Ev layX M_X1_findAble (d + 5) 9 [(0, ev_r 162), (1, ev_i (a : Int)), (2, ev_i (n : Int))] [] s1 Q := by
    intro k
    induction k with
    | zero =>
      intro n s1 hn g1 g2 g3
      have e3 : s1 162 3 = (w_pc T N r MI : Int) := by rw [g3 162 (by omega)]; exact hP.1
      have : n = w_pc T N r MI := by omega
      subst this
      refine wp_X1_findAble_9 ⟨fun _ => sp_put (row := a) (S := 0) yX_168 (by omega) (by omega) (by omega) (fun s2 z1 z2 => ?_), fun q => absurd q (by omega)⟩
      have e168 : s1 168 = s 168 := g3 168 (by omega)
      refine sets (w_al T N MI r a (w_pc T N r MI)) 1 s2 (by omega) (Nat.le_refl _) (by rw [z2 167 (by omega)]; exact g1) (fun S' hS' => ?_) (fun S' h1 h2 => ?_) (fun S' h1 h2 m hm => ?_) (fun b S' h1 h2 => ?_) (by rw [z2 167 (by omega)]; exact g2) (fun c c1 c2 _ => by rw [z2 c c2]; exact g3 c c1)
      · have : S' = 0 := by omega
        subst this
        rw [z1 a 0 (by omega)]
        simp only [decide_true, Bool.or_true, true_and, and_self]
        refine ⟨fun _ => ⟨ss_0, ?_⟩, fun _ => trivial⟩
        unfold w_x; rw [xs_0]; exact w_can_0
      · rw [z1 a S' h2, e168, hcl S' h2, decide_eq_false (fun z => by omega)]; rfl
      · have : S' = 0 := by omega
        subst this; simp at hm
      · rw [z1 b S' h2, e168, decide_eq_false (fun z => h1 z.1), Bool.or_false]
    | succ k ih =>
      intro n s1 hn g1 g2 g3
      have e3 : s1 162 3 = (w_pc T N r MI : Int) := by rw [g3 162 (by omega)]; exact hP.1
      have hN1 : XN s1 T A r := XN_keep hN (fun c hc => g3 c (by omega))
      have hP1 : XP s1 T N MI r := XP_keep hP (fun c hc => g3 c (by omega))
      have nc : n < w_pc T N r MI := by omega
      have p2 := pow_10 (n := n) (by omega)
      have hln := w_al_lt (T := T) (N := N) (MI := MI) (r := r) (a := a) (c := n)
      refine wp_X1_findAble_9 ⟨fun q => absurd q (by omega), fun _ => ?_⟩
      rw [Int.toNat_natCast, ev_add_eq (x := (n : Int)) (y := 1) ⟨by omega, by omega⟩]
      refine sp_freeFirst hT0 h0 hpa hN1 hP1 ha nc (ev_pi_mk ?_)
      have hsr := m_sees_rng (T := T) (N := N) (i := w_pp T N r MI n) h0
      have ha0 : 0 ≤ w_a0 T r a (w_pp T N r MI n) := by
        unfold w_a0
        have := Int.mul_nonneg (m_far_0 (r (27 + a)) (T 24 (7 * w_pp T N r MI n + 1))) (show 0 ≤ T 5 a by omega)
        omega
      have hcl2 : w_cl (w_for (w_lo T N r) (w_hi T N r) (w_pp T N r MI n) (w_a0 T r a (w_pp T N r MI n))) = -1 ↔ ¬ (w_a0 T r a (w_pp T N r MI n) ≤ m_sees T N r (w_pp T N r MI n)) := by
        unfold w_for w_cl w_lo w_hi
        by_cases z : max (w_a0 T r a (w_pp T N r MI n)) (m_sees T N r (w_pp T N r MI n) - (T 0 8 + 3)) ≤ m_sees T N r (w_pp T N r MI n)
        · rw [if_pos z, if_neg (by omega)]; omega
        · rw [if_neg z, if_pos rfl]; omega
      refine ⟨fun q => ih (n + 1) s1 (by omega) ?_ g2 g3, fun q => ⟨by omega, by omega, ?_⟩⟩
      · simp only [w_al]; rw [if_neg (hcl2.mp q)]; exact g1
      · rw [g1, ev_shl1 (by omega), ev_or_nat (by omega) (by omega)]
        rintro _ rfl
        refine ih (n + 1) _ (by omega) ?_ (fun b hb => by rw [ev_up_ne _ _ (by omega)]; exact g2 b hb) (fun c hc => by rw [ev_upj _ _ hc]; exact g3 c hc)
        rw [ev_up_same]
        simp only [w_al]
        have hq : w_a0 T r a (w_pp T N r MI n) ≤ m_sees T N r (w_pp T N r MI n) := Classical.byContradiction (fun z => q (hcl2.mpr z))
        rw [if_pos hq]
  exact alone (w_pc T N r MI) 0 _ (by omega) (by rw [ev_up_same]; rfl) (fun b hb => ev_up_ne _ _ (by omega)) (fun c hc => ev_upj _ _ hc)
/-- w_cn of a set asks that each of it could be seen to alone -/
theorem w_cn_al {T : ev_S} {N A NO MI : Nat} {r : Nat → Int} {a S : Nat} (hT : m_tok T N A NO MI) (ha : a < A) (hS : S < 2 ^ w_pc T N r MI) (h : w_cn T N r a (w_x T N MI r S)) : ss S (w_al T N MI r a (w_pc T N r MI)) := by
  have hg := hT.2.2.2.2.2.1
  have hpa := (hT.2.2.2.2.2.2.2.1 a ha).1
  obtain ⟨ok1, ok2, ok3⟩ := w_pp_ok (T := T) (N := N) (r := r) MI
  intro n hn
  have nc := tb_lim hS hn
  obtain ⟨l, ho, hf⟩ := h
  have hm : w_pp T N r MI n ∈ l := (ho.2 _).mp (by unfold w_x; rw [xs_at ok2 nc]; exact hn)
  have := w_fe_alone (w_tri_ok (by omega)) (fun i => by unfold w_lo w_hi; omega) l hf _ hm
  unfold w_hi at this
  exact tb_al.mpr ⟨nc, by omega⟩
theorem sp_comesIn {d i N A NO MI : Nat} {s T : ev_S} {r : Nat → Int} {Q : Option ev_V → ev_S → Prop} (hT : m_tok T N A NO MI) (h0 : 0 ≤ r 0 ∧ r 0 ≤ 600) (hw : ∀ v, v < N → m_wok T r v) (hXT : XT s 1 T) (hC : XC s 15 r) (h7 : s 146 7 = 0 ∨ (s 146 7 = 1 ∧ XS s T N MI r)) (hi : i < MI)
    (h : ∀ s', XS s' T N MI r → s' 146 7 = 1 → (∀ i, i ≠ 7 → s' 146 i = s 146 i) → frF s s' → Q (some (ev_i (m_sees T N r i))) s') : Ev layX M_X3_comesIn (d + 4) 0 [(0, ev_r 146), (1, ev_i (i : Int))] [] s Q := by
  have hM10 := hT.2.2.2.2.1.2
  refine wp_X3_comesIn_0 (sp_foresee hT h0 hw hXT hC h7 (fun s' z1 z2 z3 z4 => ⟨fun q => absurd q (by omega), fun _ => ⟨fun q => absurd q (by omega), fun _ => ⟨by omega, ?_⟩⟩⟩))
  rw [Int.toNat_natCast, z1 i (by omega), if_pos hi]
  exact h s' z1 z2 z3 z4
/-- frames: what foresee and care may change -/
def frK (s s' : ev_S) : Prop := (∀ i, i ≠ 7 → s' 146 i = s 146 i) ∧ ∀ c, (c < 147 ∨ (159 < c ∧ c < 162) ∨ 175 < c) → c ≠ 146 → s' c = s c
theorem sp_pick {d N A NO MI : Nat} {s T : ev_S} {r : Nat → Int} {Q : Option ev_V → ev_S → Prop} (hT : m_tok T N A NO MI) (h0 : 0 ≤ r 0 ∧ r 0 ≤ 600) (hw : ∀ v, v < N → m_wok T r v) (hXT : XT s 1 T) (hC : XC s 15 r) (h7 : s 146 7 = 0 ∨ (s 146 7 = 1 ∧ XS s T N MI r))
    (h : ∀ s', XP s' T N MI r → (s' 146 7 = 0 ∨ (s' 146 7 = 1 ∧ XS s' T N MI r)) → (∀ i, i ≠ 3 → s' 162 i = s 162 i) → (∀ c, 164 < c → s' c = s c) → frK s s' → Q none s') : Ev layX M_X1_pick (d + 5) 0 [(0, ev_r 162)] [] s Q := by
  have hT0 := hT
  obtain ⟨hdim, -, ⟨hA, hA6⟩, -, ⟨hM, hM10⟩, hg, -, hpok, hmok, -⟩ := hT
  refine wp_X1_pick_0 ?_
  rintro _ rfl
  have key : ∀ (k i : Nat) (s1 : ev_S), i + k = MI → s1 162 3 = (w_pc T N r i : Int) → (∀ n, n < w_pc T N r i → s1 163 n = (w_pp T N r i n : Int) ∧ s1 164 n = m_sees T N r (w_pp T N r i n)) → (s1 146 7 = 0 ∨ (s1 146 7 = 1 ∧ XS s1 T N MI r)) → (∀ i, i ≠ 3 → s1 162 i = s 162 i) → (∀ c, 164 < c → s1 c = s c) → frK s s1 → Ev layX M_X1_pick (d + 5) 7 [(0, ev_r 162), (1, ev_i (i : Int))] [] s1 Q := by
    intro k
    induction k with
    | zero =>
      intro i s1 hi g3 gp g7 g162 gc gf
      have : i = MI := by omega
      subst this
      have e13 : s1 1 13 = (i : Int) := by rw [gf.2 1 (by omega) (by omega), hXT.1.2.2.2.2.2.2]; exact hM
      exact wp_X1_pick_7 ⟨fun _ => h s1 ⟨g3, gp⟩ g7 g162 gc gf, fun q => absurd q (by omega)⟩
    | succ k ih =>
      intro i s1 hi g3 gp g7 g162 gc gf
      have e13 : s1 1 13 = (MI : Int) := by rw [gf.2 1 (by omega) (by omega), hXT.1.2.2.2.2.2.2]; exact hM
      have hXT1 : XT s1 1 T := XT_keep hXT (fun c h1 h2 => gf.2 c (by omega) (by omega))
      have hC1 : XC s1 15 r := XC_keep hC (fun c h1 h2 => gf.2 c (by omega) (by omega))
      have hcl := w_pc_le (T := T) (N := N) (r := r) i
      refine wp_X1_pick_7 ⟨fun q => absurd q (by omega), fun _ => sp_comesIn hT0 h0 hw hXT1 hC1 g7 (by omega) (fun s2 z1 z2 z3 z4 => ev_pi_mk ?_)⟩
      have f2 : frK s s2 := ⟨fun j hj => by rw [z3 j hj]; exact gf.1 j hj, fun c c1 c2 => by rw [z4 c (by omega) c2]; exact gf.2 c c1 c2⟩
      have e2 : ∀ c, 159 < c → s2 c = s1 c := fun c hc => z4 c (by omega) (by omega)
      rw [ev_add_eq (x := (i : Int)) (y := 1) ⟨by omega, by omega⟩, e2 162 (by omega), g3]
      refine ⟨fun q => ih (i + 1) s2 (by omega) ?_ ?_ (Or.inr ⟨z2, z1⟩) (by rw [e2 162 (by omega)]; exact g162) (fun c hc => by rw [e2 c (by omega)]; exact gc c hc) f2, fun q => ⟨fun q2 => absurd q2 (by omega), fun _ => ⟨by omega, ?_⟩⟩⟩
      · rw [e2 162 (by omega), g3]; simp only [w_pc]; rw [if_pos q]
      · have ep : w_pp T N r (i + 1) = w_pp T N r i := by funext n; simp only [w_pp]; rw [if_pos q]
        have ec : w_pc T N r (i + 1) = w_pc T N r i := by simp only [w_pc]; rw [if_pos q]
        rw [ep, ec, e2 163 (by omega), e2 164 (by omega)]; exact gp
      · rw [Int.toNat_natCast]
        rintro _ rfl
        rw [ev_upj _ _ (by omega), e2 162 (by omega), g3, Int.toNat_natCast]
        refine ⟨by omega, ?_⟩
        rintro _ rfl
        rw [ev_upj _ _ (by omega), ev_upj _ _ (by omega), e2 162 (by omega), g3, ev_add_eq (x := (w_pc T N r i : Int)) (y := 1) ⟨by omega, by omega⟩]
        rintro _ rfl
        have ep : ∀ n, w_pp T N r (i + 1) n = if n = w_pc T N r i then i else w_pp T N r i n := fun n => by simp only [w_pp]; rw [if_neg q]
        have ec : w_pc T N r (i + 1) = w_pc T N r i + 1 := by simp only [w_pc]; rw [if_neg q]
        refine ih (i + 1) _ (by omega) ?_ (fun n hn => ?_) (Or.inr ⟨?_, fun j hj => ?_⟩) (fun j hj => ?_) (fun c hc => ?_) ⟨fun j hj => ?_, fun c c1 c2 => ?_⟩
        · rw [ev_up_same, ec]; omega
        · rw [ec] at hn
          rw [ep]
          by_cases e : n = w_pc T N r i
          · subst e
            rw [if_pos rfl]
            refine ⟨?_, ?_⟩
            · rw [ev_upj _ _ (by omega), ev_upj _ _ (by omega), ev_up_same]
            · rw [ev_upj _ _ (by omega), ev_up_same]
          · rw [if_neg e]
            obtain ⟨u1, u3⟩ := gp n (by omega)
            refine ⟨?_, ?_⟩
            · rw [ev_upj _ _ (by omega), ev_upj _ _ (by omega), ev_up_ne _ _ (by omega), e2 163 (by omega)]; exact u1
            · rw [ev_upj _ _ (by omega), ev_up_ne _ _ (by omega), ev_upj _ _ (by omega), e2 164 (by omega)]; exact u3
        · rw [ev_upj _ _ (by omega), ev_upj _ _ (by omega), ev_upj _ _ (by omega)]; exact z2
        · rw [ev_upj _ _ (by omega), ev_upj _ _ (by omega), ev_upj _ _ (by omega)]; exact z1 j hj
        · rw [ev_up_ne _ _ (by omega), ev_upj _ _ (by omega), ev_upj _ _ (by omega), e2 162 (by omega)]; exact g162 j hj
        · rw [ev_upj _ _ (by omega), ev_upj _ _ (by omega), ev_upj _ _ (by omega), e2 c (by omega)]; exact gc c hc
        · rw [ev_upj _ _ (by omega), ev_upj _ _ (by omega), ev_upj _ _ (by omega)]; exact f2.1 j hj
        · rw [ev_upj _ _ (by omega), ev_upj _ _ (by omega), ev_upj _ _ (by omega)]; exact f2.2 c c1 c2
  exact key MI 0 _ (by omega) (by rw [ev_up_same]; rfl) (fun n hn => absurd hn (by simp [w_pc])) (by
    rw [ev_upj _ _ (by omega)]
    rcases h7 with q | ⟨q1, q2⟩
    · exact Or.inl q
    · exact Or.inr ⟨q1, fun i hi => by rw [ev_upj _ _ (by omega)]; exact q2 i hi⟩) (fun j hj => ev_up_ne _ _ (by omega)) (fun c hc => ev_upj _ _ (by omega)) ⟨fun j hj => by rw [ev_upj _ _ (by omega)], fun c c1 c2 => ev_upj _ _ (by omega)⟩
theorem sp_measure {d N A NO MI : Nat} {s T : ev_S} {r : Nat → Int} {Q : Option ev_V → ev_S → Prop} (hT : m_tok T N A NO MI) (hN : XN s T A r) (hP : XP s T N MI r)
    (h : ∀ s', XD s' T N MI r → (∀ c, c ≠ 165 → s' c = s c) → Q none s') : Ev layX M_X1_measure (d + 2) 0 [(0, ev_r 162)] [] s Q := by
  have hT0 := hT
  obtain ⟨hdim, -, ⟨hA, hA6⟩, -, ⟨hM, hM10⟩, hg, -, hpok, hmok, -⟩ := hT
  have hcle := w_pc_le (T := T) (N := N) (r := r) MI
  have hpl : ∀ n, n < w_pc T N r MI → 0 ≤ T 24 (7 * w_pp T N r MI n + 1) ∧ T 24 (7 * w_pp T N r MI n + 1) < 64 := fun n hn => pl_64 hdim (hmok _ ((w_pp_ok (T := T) (N := N) (r := r) MI).1 n hn).1).2.1
  refine wp_X1_measure_0 ?_
  have key : ∀ (k m : Nat) (s1 : ev_S), m + k = w_pc T N r MI → (∀ m' n', m' < m → n' < w_pc T N r MI → s1 165 (10 * m' + n') = m_far (T 24 (7 * w_pp T N r MI m' + 1)) (T 24 (7 * w_pp T N r MI n' + 1))) → (∀ c, c ≠ 165 → s1 c = s c) → Ev layX M_X1_measure (d + 2) 2 [(0, ev_r 162), (1, ev_i (m : Int))] [] s1 Q := by
    intro k
    induction k with
    | zero =>
      intro m s1 hm g1 gf
      have e3 : s1 162 3 = (w_pc T N r MI : Int) := by rw [gf 162 (by omega)]; exact hP.1
      exact wp_X1_measure_2 ⟨fun _ => h s1 (fun m' n' hm' hn' => g1 m' n' (by omega) hn') gf, fun q => absurd q (by omega)⟩
    | succ k ih =>
      intro m s1 hm g1 gf
      have e3 : s1 162 3 = (w_pc T N r MI : Int) := by rw [gf 162 (by omega)]; exact hP.1
      refine wp_X1_measure_2 ⟨fun q => absurd q (by omega), fun _ => ?_⟩
      have inner : ∀ (j n : Nat) (s2 : ev_S), n + j = w_pc T N r MI → (∀ m' n', m' < m → n' < w_pc T N r MI → s2 165 (10 * m' + n') = m_far (T 24 (7 * w_pp T N r MI m' + 1)) (T 24 (7 * w_pp T N r MI n' + 1))) → (∀ n', n' < n → s2 165 (10 * m + n') = m_far (T 24 (7 * w_pp T N r MI m + 1)) (T 24 (7 * w_pp T N r MI n' + 1))) → (∀ c, c ≠ 165 → s2 c = s c) → Ev layX M_X1_measure (d + 2) 12 [(0, ev_r 162), (1, ev_i (m : Int)), (2, ev_i (n : Int))] [] s2 Q := by
        intro j
        induction j with
        | zero =>
          intro n s2 hn z1 z2 zf
          have e3 : s2 162 3 = (w_pc T N r MI : Int) := by rw [zf 162 (by omega)]; exact hP.1
          refine wp_X1_measure_12 ⟨fun _ => ?_, fun q => absurd q (by omega)⟩
          rw [ev_add_eq (x := (m : Int)) (y := 1) ⟨by omega, by omega⟩]
          refine ih (m + 1) s2 (by omega) (fun m' n' hm' hn' => ?_) zf
          by_cases e : m' = m
          · subst e; exact z2 n' (by omega)
          · exact z1 m' n' (by omega) hn'
        | succ j ihj =>
          intro n s2 hn z1 z2 zf
          have e3 : s2 162 3 = (w_pc T N r MI : Int) := by rw [zf 162 (by omega)]; exact hP.1
          have hN2 : XN s2 T A r := XN_keep hN (fun c hc => zf c (by omega))
          have hP2 : XP s2 T N MI r := XP_keep hP (fun c hc => zf c (by omega))
          have e10 : ev_add (ev_mul (m : Int) 10) (n : Int) = ((10 * m + n : Nat) : Int) := by
            rw [ev_mul_eq ⟨by omega, by omega⟩, ev_add_eq ⟨by omega, by omega⟩]; omega
          refine wp_X1_measure_12 ⟨fun q => absurd q (by omega), fun _ => ?_⟩
          rw [e10, Int.toNat_natCast, ev_add_eq (x := (n : Int)) (y := 1) ⟨by omega, by omega⟩]
          refine sp_placeOf hT0 hN2 hP2 (by omega) (ev_pi_mk (sp_placeOf hT0 hN2 hP2 (by omega) (ev_pi_mk (sp_stepsBetween (hpl m (by omega)) (hpl n (by omega)) (ev_pi_mk ⟨by omega, ?_⟩)))))
          rintro _ rfl
          refine ihj (n + 1) _ (by omega) (fun m' n' hm' hn' => ?_) (fun n' hn' => ?_) (fun c hc => by rw [ev_upj _ _ hc]; exact zf c hc)
          · rw [ev_up_ne _ _ (by omega)]; exact z1 m' n' hm' hn'
          · by_cases e : n' = n
            · subst e; rw [ev_up_same]
            · rw [ev_up_ne _ _ (by omega)]; exact z2 n' (by omega)
      exact inner (w_pc T N r MI) 0 s1 (by omega) g1 (fun n' hn' => absurd hn' (by omega)) gf
  exact key (w_pc T N r MI) 0 s (by omega) (fun m' n' hm' => absurd hm' (by omega)) (fun _ _ => rfl)
/-- the widest sets of one angel, from S on -/
def XWd (s : ev_S) (a n : Nat) (w : Nat → Nat) : Prop := n ≤ 252 ∧ s 171 a = (n : Int) ∧ ∀ i, i < n → s 170 (252 * a + i) = (w i : Int) ∧ w i < 1024
theorem wd_at {a i : Nat} (ha : a < 6) (hi : i ≤ 252) : ev_add (ev_mul (a : Int) 252) (i : Int) = ((252 * a + i : Nat) : Int) := by
  rw [ev_mul_eq ⟨by omega, by omega⟩, ev_add_eq ⟨by omega, by omega⟩]; omega
theorem sp_liesInWider {d a n S : Nat} {s : ev_S} {w : Nat → Nat} {Q : Option ev_V → ev_S → Prop} (ha : a < 6) (hS : S < 1024) (hW : XWd s a n w)
    (h1 : (∃ i, i < n ∧ ss S (w i)) → Q (some (ev_i 1)) s) (h2 : (∀ i, i < n → ¬ ss S (w i)) → Q (some (ev_i 0)) s) : Ev layX M_X1_liesInWider d 0 [(0, ev_r 162), (1, ev_i (a : Int)), (2, ev_i (S : Int))] [] s Q := by
  obtain ⟨w1, w2, w3⟩ := hW
  refine wp_X1_liesInWider_0 ?_
  have key : ∀ (k i : Nat), i + k = n → (∀ j, j < i → ¬ ss S (w j)) → Ev layX M_X1_liesInWider d 2 [(0, ev_r 162), (1, ev_i (a : Int)), (2, ev_i (S : Int)), (3, ev_i (i : Int))] [] s Q := by
    intro k
    induction k with
    | zero =>
      intro i hi hno
      refine wp_X1_liesInWider_2 ⟨by omega, ?_⟩
      rw [Int.toNat_natCast, w2]
      exact ⟨fun _ => h2 (fun j hj => hno j (by omega)), fun q => absurd q (by omega)⟩
    | succ k ih =>
      intro i hi hno
      have wi := w3 i (by omega)
      refine wp_X1_liesInWider_2 ⟨by omega, ?_⟩
      rw [wd_at ha (by omega), Int.toNat_natCast, Int.toNat_natCast, w2, wi.1, ev_andn (by omega) (by omega), ev_add_eq (x := (i : Int)) (y := 1) ⟨by omega, by omega⟩]
      refine ⟨fun q => absurd q (by omega), fun _ => ⟨by omega, fun c => ih (i + 1) (by omega) (fun j hj => ?_), fun c => h1 ⟨i, by omega, ss_dif0.mp (by omega)⟩⟩⟩
      by_cases e : j = i
      · subst e; intro z; rw [ss_dif0.mpr z] at c; exact c rfl
      · exact hno j (by omega)
  exact key n 0 (by omega) (fun j hj => absurd hj (by omega))
theorem and_ss {x y : Nat} (h : x &&& y = x) : ss x y := fun i hi => by
  rw [← h, Nat.testBit_and] at hi
  simp at hi
  exact hi.2
theorem sp_findWidest {d a al : Nat} {s : ev_S} {Q : Option ev_V → ev_S → Prop} (ha : a < 6) (hal : al < 1024) (h167 : s 167 a = (al : Int))
    (h : ∀ (s' : ev_S) (n : Nat) (w : Nat → Nat), XWd s' a n w → (∀ i, i < n → w i ≤ al ∧ xb (s 168) a (w i) = true) → (∀ S, S ≤ al → xb (s 168) a S = true → ∃ i, i < n ∧ ss S (w i)) → (∀ b, b ≠ a → s' 171 b = s 171 b) → (∀ i, (i < 252 * a ∨ 252 * a + 252 ≤ i) → s' 170 i = s 170 i) → (∀ c, c ≠ 170 → c ≠ 171 → s' c = s c) → Q none s') : Ev layX M_X1_findWidest (d + 1) 0 [(0, ev_r 162), (1, ev_i (a : Int))] [] s Q := by
  refine wp_X1_findWidest_0 ⟨by omega, ?_⟩
  rintro _ rfl
  refine ⟨by omega, ?_⟩
  rw [Int.toNat_natCast, ev_upj _ _ (by omega), h167]
  have key : ∀ (x n : Nat) (w : Nat → Nat) (s1 : ev_S), x ≤ al + 1 → XWd s1 a n w → (∀ i, i < n → (x ≤ w i ∧ w i ≤ al) ∧ xb (s 168) a (w i) = true) → (∀ i j, i < n → j < n → i ≠ j → ¬ ss (w i) (w j)) → (∀ S, x ≤ S → S ≤ al → xb (s 168) a S = true → ∃ i, i < n ∧ ss S (w i)) → (∀ b, b ≠ a → s1 171 b = s 171 b) → (∀ i, (i < 252 * a ∨ 252 * a + 252 ≤ i) → s1 170 i = s 170 i) → (∀ c, c ≠ 170 → c ≠ 171 → s1 c = s c) → Ev layX M_X1_findWidest (d + 1) 14 [(0, ev_r 162), (1, ev_i (a : Int)), (2, ev_i ((x : Int) - 1))] [] s1 Q := by
    intro x
    induction x with
    | zero =>
      intro n w s1 _ g1 g2 g3 g4 g5 g6 gf
      exact wp_X1_findWidest_14 ⟨fun _ => h s1 n w g1 (fun i hi => ⟨(g2 i hi).1.2, (g2 i hi).2⟩) (fun S hS => g4 S (by omega) hS) g5 g6 gf, fun q => absurd q (by omega)⟩
    | succ x ih =>
      intro n w s1 hx g1 g2 g3 g4 g5 g6 gf
      have hw2 : ∀ i, i < n → (x ≤ w i ∧ w i ≤ al) ∧ xb (s 168) a (w i) = true := fun i hi => ⟨⟨by have := (g2 i hi).1.1; omega, (g2 i hi).1.2⟩, (g2 i hi).2⟩
      refine wp_X1_findWidest_14 ⟨fun q => absurd q (by omega), fun _ => ?_⟩
      rw [show (((x + 1 : Nat) : Int) - 1) = (x : Int) by omega, ev_add_eq (x := (x : Int)) (y := -1) ⟨by omega, by omega⟩, show (x : Int) + -1 = (x : Int) - 1 by omega]
      refine sp_holds yX_168 (by omega) (by omega) (by omega) (ev_pi_mk ?_)
      rw [gf 168 (by omega) (by omega)]
      by_cases c : xb (s 168) a x = true
      · rw [if_pos c]
        refine ⟨fun q => absurd q (by omega), fun _ => sp_liesInWider ha (by omega) g1 (fun hin => ev_pi_mk ⟨fun _ => ih n w s1 (by omega) g1 hw2 g3 (fun S hS hSa hb => ?_) g5 g6 gf, fun q => absurd q (by omega)⟩) (fun hno => ev_pi_mk ⟨fun q => absurd rfl q, fun _ => ⟨by omega, ?_⟩⟩)⟩
        · by_cases e : S = x
          · subst e; exact hin
          · exact g4 S (by omega) hSa hb
        · -- one more
          have hn : n + 1 ≤ 252 := by
            refine c_sperner (f := fun i => if i = n then x else w i) (fun i hi => ?_) (fun i j hi hj hij z => ?_)
            · show (if i = n then x else w i) < 1024
              by_cases e : i = n
              · rw [if_pos e]; omega
              · rw [if_neg e]; have := (g2 i (by omega)).1.2; omega
            · have z := and_ss z
              by_cases e : i = n
              · rw [if_pos e, if_neg (by omega)] at z
                exact hno j (by omega) z
              · rw [if_neg e] at z
                by_cases e2 : j = n
                · rw [if_pos e2] at z
                  have := le_of_sub z
                  have := (g2 i (by omega)).1.1
                  omega
                · rw [if_neg e2] at z
                  exact g3 i j (by omega) (by omega) hij z
          obtain ⟨w1, w2, w3⟩ := g1
          rw [Int.toNat_natCast, w2, wd_at ha (by omega), Int.toNat_natCast]
          refine ⟨fun q => absurd q (by omega), fun _ => ⟨by omega, by omega, ?_⟩⟩
          rintro _ rfl
          rw [ev_upj _ _ (by omega), w2, ev_add_eq (x := (n : Int)) (y := 1) ⟨by omega, by omega⟩]
          refine ⟨by omega, by omega, ?_⟩
          rintro _ rfl
          refine ih (n + 1) (fun i => if i = n then x else w i) _ (by omega) ⟨hn, by rw [ev_up_same]; omega, fun i hi => ?_⟩ (fun i hi => ?_) (fun i j hi hj hij => ?_) (fun S hS hSa hb => ?_) (fun b hb => ?_) (fun i hi => ?_) (fun c c1 c2 => ?_)
          · show _ = (((if i = n then x else w i) : Nat) : Int) ∧ (if i = n then x else w i) < 1024
            rw [ev_upj _ _ (by omega)]
            by_cases e : i = n
            · subst e; rw [if_pos rfl, ev_up_same]; exact ⟨rfl, by omega⟩
            · rw [if_neg e, ev_up_ne _ _ (by omega)]; exact w3 i (by omega)
          · show (x ≤ (if i = n then x else w i) ∧ (if i = n then x else w i) ≤ al) ∧ xb (s 168) a (if i = n then x else w i) = true
            by_cases e : i = n
            · rw [if_pos e]; exact ⟨⟨by omega, by omega⟩, c⟩
            · rw [if_neg e]; exact hw2 i (by omega)
          · show ¬ ss (if i = n then x else w i) (if j = n then x else w j)
            intro z
            by_cases e : i = n
            · rw [if_pos e, if_neg (by omega)] at z
              exact hno j (by omega) z
            · rw [if_neg e] at z
              by_cases e2 : j = n
              · rw [if_pos e2] at z
                have := le_of_sub z
                have := (g2 i (by omega)).1.1
                omega
              · rw [if_neg e2] at z
                exact g3 i j (by omega) (by omega) hij z
          · by_cases e : S = x
            · exact ⟨n, by omega, by show ss S (if n = n then x else w n); rw [if_pos rfl, e]; exact ss_rf⟩
            · obtain ⟨i, i1, i2⟩ := g4 S (by omega) hSa hb
              exact ⟨i, by omega, by show ss S (if i = n then x else w i); rw [if_neg (by omega)]; exact i2⟩
          · rw [ev_up_ne _ _ (by omega), ev_upj _ _ (by omega)]; exact g5 b hb
          · rw [ev_upj _ _ (by omega), ev_up_ne _ _ (by omega)]; exact g6 i hi
          · rw [ev_upj _ _ c2, ev_upj _ _ c1]; exact gf c c1 c2
      · rw [if_neg c]
        refine ⟨fun _ => ih n w s1 (by omega) g1 hw2 g3 (fun S hS hSa hb => ?_) g5 g6 gf, fun q => absurd rfl q⟩
        by_cases e : S = x
        · subst e; exact absurd hb c
        · exact g4 S (by omega) hSa hb
  have := key (al + 1) 0 (fun _ => 0) (ev_up s 171 a 0) (Nat.le_refl _) ⟨by omega, by rw [ev_up_same]; rfl, fun i hi => absurd hi (by omega)⟩ (fun i hi => absurd hi (by omega)) (fun i j hi => absurd hi (by omega)) (fun S hS hSa => absurd hS (by omega)) (fun b hb => ev_up_ne _ _ (by omega)) (fun i _ => by rw [ev_upj _ _ (by omega)]) (fun c c1 c2 => ev_upj _ _ c2)
  rw [show (((al + 1 : Nat) : Int) - 1) = (al : Int) by omega] at this
  exact this
def w_rk (T : ev_S) (N MI : Nat) (r : Nat → Int) (S : Nat) : Int := rk (fun n => m_risk T (w_pp T N r MI n)) (w_pc T N r MI) S
theorem sp_addRisks {d N A NO MI : Nat} {s T : ev_S} {r : Nat → Int} {Q : Option ev_V → ev_S → Prop} (hT : m_tok T N A NO MI) (hXT : XT s 1 T) (hP : XP s T N MI r)
    (h : ∀ s', (∀ S, S < 2 ^ w_pc T N r MI → s' 166 S = w_rk T N MI r S) → (∀ c, c ≠ 166 → s' c = s c) → Q none s') : Ev layX M_X1_addRisks (d + 1) 0 [(0, ev_r 162)] [] s Q := by
  have hT0 := hT
  obtain ⟨hdim, -, ⟨hA, hA6⟩, -, ⟨hM, hM10⟩, hg, -, hpok, hmok, -⟩ := hT
  have hcle := w_pc_le (T := T) (N := N) (r := r) MI
  obtain ⟨ok1, ok2, ok3⟩ := w_pp_ok (T := T) (N := N) (r := r) MI
  have rr : ∀ (S n : Nat), n ≤ w_pc T N r MI → 0 ≤ rk (fun n => m_risk T (w_pp T N r MI n)) n S ∧ rk (fun n => m_risk T (w_pp T N r MI n)) n S ≤ 9900 * (n : Int) := by
    intro S n
    induction n with
    | zero => intro _; simp [rk]
    | succ n ih =>
      intro hn
      have := ih (by omega)
      have := m_risk_rng (hmok _ (ok1 n (by omega)).1)
      simp only [rk, m_risk]
      simp only [m_risk] at *
      split <;> omega
  refine wp_X1_addRisks_0 ?_
  rintro _ rfl
  have key : ∀ (k n : Nat) (s1 : ev_S), n + k = w_pc T N r MI → (∀ S, S < 2 ^ n → s1 166 S = rk (fun n => m_risk T (w_pp T N r MI n)) n S) → (∀ c, c ≠ 166 → s1 c = s c) → Ev layX M_X1_addRisks (d + 1) 9 [(0, ev_r 162), (1, ev_i (n : Int))] [] s1 Q := by
    intro k
    induction k with
    | zero =>
      intro n s1 hn g1 gf
      have e3 : s1 162 3 = (w_pc T N r MI : Int) := by rw [gf 162 (by omega)]; exact hP.1
      have : n = w_pc T N r MI := by omega
      subst this
      exact wp_X1_addRisks_9 ⟨fun _ => h s1 g1 gf, fun q => absurd q (by omega)⟩
    | succ k ih =>
      intro n s1 hn g1 gf
      have e3 : s1 162 3 = (w_pc T N r MI : Int) := by rw [gf 162 (by omega)]; exact hP.1
      have nc : n < w_pc T N r MI := by omega
      have hXT1 : XT s1 1 T := XT_keep hXT (fun c h1 h2 => gf c (by omega))
      have pn := (ok1 n nc).1
      have p2 := pow_10 (n := n) (by omega)
      have p3 := pow_10 (n := n + 1) (by omega)
      have p4 : 2 ^ (n + 1) = 2 * 2 ^ n := by rw [Nat.pow_succ]; omega
      refine wp_X1_addRisks_9 ⟨fun q => absurd q (by omega), fun _ => ?_⟩
      rw [Int.toNat_natCast, gf 163 (by omega), (hP.2 n nc).1]
      refine ⟨by omega, sp_risk (by omega) (by rw [hM]; omega) (hmok _ pn) hXT1 (ev_pi_mk ?_)⟩
      have hrr := m_risk_rng (hmok _ pn)
      have inner : ∀ (m x : Nat) (s2 : ev_S), x + m = 2 ^ n → (∀ S, S < 2 ^ n → s2 166 S = rk (fun n => m_risk T (w_pp T N r MI n)) n S) → (∀ S, S < x → s2 166 (S ||| 2 ^ n) = rk (fun n => m_risk T (w_pp T N r MI n)) n S + m_risk T (w_pp T N r MI n)) → (∀ c, c ≠ 166 → s2 c = s c) → Ev layX M_X1_addRisks (d + 1) 33 [(0, ev_r 162), (1, ev_i (n : Int)), (2, ev_i (T 24 (7 * w_pp T N r MI n) * T 24 (7 * w_pp T N r MI n + 6))), (3, ev_i (x : Int))] [] s2 Q := by
        intro m
        induction m with
        | zero =>
          intro x s2 hx z1 z2 z3
          refine wp_X1_addRisks_33 ?_
          rw [ev_shl1 (by omega), ev_add_eq (x := (n : Int)) (y := 1) ⟨by omega, by omega⟩]
          refine ⟨fun _ => ih (n + 1) s2 (by omega) (fun S hS => ?_) z3, fun q => absurd q (by omega)⟩
          simp only [rk]
          by_cases c : S.testBit n = true
          · rw [if_pos c]
            have hd : dif S (2 ^ n) < 2 ^ n := tb_lt (fun i hi => by
              rw [tb_dif, tb_pow]
              by_cases e : n = i
              · subst e; simp
              · rw [tb_hi hS (by omega)]; rfl)
            have e1 : dif S (2 ^ n) ||| 2 ^ n = S := eq_tb (fun i => by
              rw [Nat.testBit_or, tb_dif, tb_pow]
              by_cases e : n = i
              · subst e; simp [c]
              · simp [e])
            have := z2 (dif S (2 ^ n)) (by omega)
            rw [e1] at this
            rw [this]
            congr 1
            exact rk_cong (fun i hi => by rw [tb_dif, tb_pow]; simp; intro q; omega)
          · rw [if_neg c]
            have hl : S < 2 ^ n := tb_lt (fun i hi => by
              by_cases e : i = n
              · subst e; simpa using c
              · exact tb_hi hS (by omega))
            rw [z1 S hl]; omega
        | succ m ihm =>
          intro x s2 hx z1 z2 z3
          have hor : x ||| 2 ^ n < 2 ^ (n + 1) := or_lt (by omega) (by omega)
          have hne : ∀ S, S < 2 ^ n → S ≠ x → S ||| 2 ^ n ≠ x ||| 2 ^ n := fun S hS hne e => hne (eq_tb (fun i => by
            by_cases q : n = i
            · subst q; rw [tb_hi hS (Nat.le_refl _), tb_hi (show x < 2 ^ n by omega) (Nat.le_refl _)]
            · have := congrArg (fun z => z.testBit i) e
              simp only [Nat.testBit_or, tb_pow] at this
              simp [q] at this
              rw [this]))
          have hge : 2 ^ n ≤ x ||| 2 ^ n := Nat.right_le_or
          have hrx := rr x n (by omega)
          refine wp_X1_addRisks_33 ?_
          rw [ev_shl1 (by omega), ev_or_nat (by omega) (by omega), Int.toNat_natCast, Int.toNat_natCast, z1 x (by omega), ev_add_eq (x := rk (fun n => m_risk T (w_pp T N r MI n)) n x) ⟨by omega, by omega⟩, ev_add_eq (x := (x : Int)) (y := 1) ⟨by omega, by omega⟩]
          refine ⟨fun q => absurd q (by omega), fun _ => ⟨by omega, by omega, ?_⟩⟩
          rintro _ rfl
          refine ihm (x + 1) _ (by omega) (fun S hS => ?_) (fun S hS => ?_) (fun c hc => by rw [ev_upj _ _ hc]; exact z3 c hc)
          · rw [ev_up_ne _ _ (by omega)]; exact z1 S hS
          · by_cases e : S = x
            · subst e; rw [ev_up_same]; rfl
            · rw [ev_up_ne _ _ (fun q => hne S (by omega) e q.2)]; exact z2 S (by omega)
      exact inner (2 ^ n) 0 s1 (by omega) g1 (fun S hS => absurd hS (by omega)) gf
  exact key (w_pc T N r MI) 0 _ (by omega) (fun S hS => by
    have : S = 0 := by simp at hS; exact hS
    subst this
    rw [ev_up_same]; rfl) (fun c hc => ev_upj _ _ hc)
