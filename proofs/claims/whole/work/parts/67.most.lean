/-! LEAST, the class: groups of angels -/
/-- the widest sets of each angel -/
def XWi (s T : ev_S) (N A MI : Nat) (r : Nat → Int) : Prop := ∀ a, a < A → ∃ (n : Nat) (w : Nat → Nat), XWd s a n w ∧ (∀ i, i < n → w i < 2 ^ w_pc T N r MI ∧ w_ca T N A MI r a (w_x T N MI r (w i))) ∧ ∀ S, S < 2 ^ w_pc T N r MI → w_ca T N A MI r a (w_x T N MI r S) → ∃ i, i < n ∧ ss S (w i)
def XK0 (s T : ev_S) (N A MI : Nat) (r : Nat → Int) : Prop := XP s T N MI r ∧ (∀ S, S < 2 ^ w_pc T N r MI → s 166 S = w_rk T N MI r S) ∧ (∀ a, a < A → s 167 a = (w_al T N MI r a (w_pc T N r MI) : Int)) ∧ ((∀ a, a < A → ∀ S, S < 2 ^ w_pc T N r MI → (xb (s 168) a S = true ↔ w_ca T N A MI r a (w_x T N MI r S))) ∧ XWi s T N A MI r) ∧ s 1 7 = (A : Int)
def XKr (s T : ev_S) (N A MI : Nat) (r : Nat → Int) (G : Nat) : Prop := ∀ S, S < 2 ^ w_pc T N r MI → (xb (s 169) G S = true ↔ g_cov (w_ca T N A MI r) A G (w_x T N MI r S))
def XKn (s : ev_S) (G : Nat) : Prop := ∀ S, S < 1024 → xb (s 169) G S = false
def XCov (s T : ev_S) (N A MI : Nat) (r : Nat → Int) : Prop := s 172 0 ≠ 0 ∧ ∀ G, G < 64 → (s 172 G ≠ 0 → XKr s T N A MI r G) ∧ (s 172 G = 0 → XKn s G)
theorem XK0_keep {s s' T : ev_S} {N A MI : Nat} {r : Nat → Int} (h : XK0 s T N A MI r) (h1 : s' 162 3 = s 162 3) (hf : ∀ c, c = 1 ∨ c = 163 ∨ c = 164 ∨ c = 166 ∨ c = 167 ∨ c = 168 ∨ c = 170 ∨ c = 171 → s' c = s c) : XK0 s' T N A MI r := by
  unfold XK0 XP XWi XWd
  rw [h1, hf 1 (by omega), hf 163 (by omega), hf 164 (by omega), hf 166 (by omega), hf 167 (by omega), hf 168 (by omega), hf 170 (by omega), hf 171 (by omega)]
  exact h
theorem w_x_all {T : ev_S} {N MI : Nat} {r : Nat → Int} (S : Nat) : ss (w_x T N MI r S) (w_all T N r MI) := fun i hi => by
  obtain ⟨n, n1, n2, n3⟩ := tb_xs.mp hi
  have := (w_pp_ok (T := T) (N := N) (r := r) MI).1 n n1
  rw [n3] at this
  exact tb_all.mpr this
theorem w_x_on {T : ev_S} {N MI : Nat} {r : Nat → Int} {U : Nat} (h : ss U (w_all T N r MI)) : ∃ S, S < 2 ^ w_pc T N r MI ∧ w_x T N MI r S = U := by
  refine ⟨xc (w_pp T N r MI) (w_pc T N r MI) U, xc_lt, xs_xc (fun i hi => ?_)⟩
  have := tb_all.mp (h i hi)
  obtain ⟨k, k1, k2⟩ := (w_pp_ok (T := T) (N := N) (r := r) MI).2.2 i this.1 this.2
  exact ⟨k, k1, k2⟩
theorem w_rk_eq {T : ev_S} {N MI : Nat} {r : Nat → Int} (S : Nat) : rk (m_risk T) MI (w_x T N MI r S) = w_rk T N MI r S := by
  obtain ⟨ok1, ok2, ok3⟩ := w_pp_ok (T := T) (N := N) (r := r) MI
  exact rk_xs ok2 (fun n hn => (ok1 n hn).1)
theorem w_ca_rm {T : ev_S} {N A NO MI : Nat} {r : Nat → Int} (hT : m_tok T N A NO MI) (a S x : Nat) (h : w_ca T N A MI r a S) (hx : S.testBit x = true) : w_ca T N A MI r a (dif S (2 ^ x)) := by
  rcases h with q | ⟨q1, q2, q3⟩
  · rw [q] at hx; simp at hx
  · exact Or.inr ⟨q1, ss_tr (ss_dif _ _) q2, w_can_rm (w_tri_ok (by have := (hT.2.2.2.2.2.2.2.1 a q1).1; omega)) hx q3⟩
theorem g_cov_all {T : ev_S} {N A MI : Nat} {r : Nat → Int} {G U : Nat} (h : g_cov (w_ca T N A MI r) A G U) : ss U (w_all T N r MI) := by
  obtain ⟨f, hf, rfl⟩ := h
  exact uni_ss (fun b _ => w_ca_all b _ (hf.1 b))
theorem sp_full {d N MI : Nat} {s T : ev_S} {r : Nat → Int} {Q : Option ev_V → ev_S → Prop} (hM10 : MI ≤ 10) (h3 : s 162 3 = (w_pc T N r MI : Int)) (h : Q (some (ev_i ((2 ^ w_pc T N r MI - 1 : Nat) : Int))) s) : Ev layX M_X1_full d 0 [(0, ev_r 162)] [] s Q := by
  have hcle := w_pc_le (T := T) (N := N) (r := r) MI
  have h1 : 1 ≤ 2 ^ w_pc T N r MI := Nat.one_le_two_pow
  have h2 := pow_10 (n := w_pc T N r MI) (by omega)
  refine wp_X1_full_0 ?_
  rw [h3, ev_shl1 (by omega), ev_sub_eq ⟨by omega, by omega⟩, show ((2 ^ w_pc T N r MI : Nat) : Int) - 1 = ((2 ^ w_pc T N r MI - 1 : Nat) : Int) by omega]
  exact h
theorem sp_everybody {d A : Nat} {s : ev_S} {Q : Option ev_V → ev_S → Prop} (hA : s 1 7 = (A : Int)) (hA6 : A ≤ 6) (h : Q (some (ev_i ((2 ^ A - 1 : Nat) : Int))) s) : Ev layX M_X1_everybody d 0 [(0, ev_r 162)] [] s Q := by
  have h1 : 1 ≤ 2 ^ A := Nat.one_le_two_pow
  have hA2 : 2 ^ A ≤ 64 := by have := Nat.pow_le_pow_right (n := 2) (by omega) hA6; omega
  refine wp_X1_everybody_0 ?_
  rw [hA, ev_shl1 (by omega), ev_sub_eq ⟨by omega, by omega⟩, show ((2 ^ A : Nat) : Int) - 1 = ((2 ^ A - 1 : Nat) : Int) by omega]
  exact h
/-- what holds of a set when one is taken away holds of each part of it -/
theorem sub_all {P : Nat → Prop} (h1 : ∀ S x, P S → S.testBit x = true → P (dif S (2 ^ x))) : ∀ (n S U : Nat), S ≤ n → ss U S → P S → P U := by
  intro n
  induction n using Nat.strongRecOn with
  | _ n ih =>
    intro S U hn hU hP
    by_cases e : ∃ x, S.testBit x = true ∧ U.testBit x = false
    · obtain ⟨x, x1, x2⟩ := e
      have hlt : dif S (2 ^ x) < S := by
        have q1 := dif_le S (2 ^ x)
        have q2 : dif S (2 ^ x) ≠ S := fun e => by
          have := tb_dif S (2 ^ x) x
          rw [e, x1, tb_pow] at this; simp at this
        omega
      refine ih (dif S (2 ^ x)) (by omega) (dif S (2 ^ x)) U (Nat.le_refl _) (fun i hi => ?_) (h1 S x hP x1)
      rw [tb_dif, tb_pow, hU i hi]
      by_cases e : x = i
      · subst e; rw [x2] at hi; exact absurd hi (by simp)
      · simp [e]
    · have : U = S := eq_tb (fun i => ⟨hU i, fun hi => by
        cases q : U.testBit i
        · exact absurd ⟨i, hi, q⟩ e
        · rfl⟩)
      rw [this]; exact hP
theorem sp_splits {d a P S N A NO MI : Nat} {s T : ev_S} {r : Nat → Int} {Q : Option ev_V → ev_S → Prop} (hT : m_tok T N A NO MI) (hK : XK0 s T N A MI r) (ha : a < A) (hP : P < 64) (hS : S < 2 ^ w_pc T N r MI) (hr : XKr s T N A MI r P)
    (h : ∀ b : Int, (b = 0 ∨ b = 1) → (b = 1 ↔ ∃ t, ss t S ∧ w_ca T N A MI r a (w_x T N MI r t) ∧ g_cov (w_ca T N A MI r) A P (w_x T N MI r (dif S t))) → Q (some (ev_i b)) s) : Ev layX M_X1_splits (d + 1) 0 [(0, ev_r 162), (1, ev_i (a : Int)), (2, ev_i (P : Int)), (3, ev_i (S : Int))] [] s Q := by
  have hT0 := hT
  obtain ⟨hdim, -, ⟨hA, hA6⟩, -, ⟨hM, hM10⟩, hg, -, hpok, hmok, -⟩ := hT
  obtain ⟨n, w, ⟨w1, w2, w3⟩, w4, w5⟩ := hK.2.2.2.1.2 a ha
  have hcle := w_pc_le (T := T) (N := N) (r := r) MI
  have hc10 := pow_10 (n := w_pc T N r MI) (by omega)
  refine wp_X1_splits_0 ?_
  have key : ∀ (k i : Nat), i + k = n → (∀ j, j < i → ¬ g_cov (w_ca T N A MI r) A P (w_x T N MI r (dif S (w j)))) → Ev layX M_X1_splits (d + 1) 3 [(0, ev_r 162), (1, ev_i (a : Int)), (2, ev_i (P : Int)), (3, ev_i (S : Int)), (4, ev_i (i : Int))] [] s Q := by
    intro k
    induction k with
    | zero =>
      intro i hi hno
      refine wp_X1_splits_3 ⟨by omega, ?_⟩
      rw [Int.toNat_natCast, w2]
      refine ⟨fun _ => h 0 (Or.inl rfl) ⟨fun q => absurd q (by omega), ?_⟩, fun q => absurd q (by omega)⟩
      rintro ⟨t, t1, t2, t3⟩
      exfalso
      obtain ⟨j, j1, j2⟩ := w5 t (ss_lt t1 hS) t2
      refine hno j (by omega) (sub_all (fun S x hc hx => g_cov_rm (w_ca_rm hT0) hc hx) _ _ _ (Nat.le_refl _) (xs_ss (fun i hi => ?_)) t3)
      rw [tb_dif] at hi ⊢
      simp only [Bool.and_eq_true, Bool.not_eq_true'] at hi ⊢
      refine ⟨hi.1, ?_⟩
      cases q : t.testBit i
      · rfl
      · have := j2 i q; rw [hi.2] at this; exact absurd this (by simp)
    | succ k ih =>
      intro i hi hno
      have wi := w3 i (by omega)
      have dl := dif_le S (w i)
      refine wp_X1_splits_3 ⟨by omega, ?_⟩
      rw [wd_at (by omega) (by omega), Int.toNat_natCast, Int.toNat_natCast, w2, wi.1, ev_andn (by omega) (by omega), ev_add_eq (x := (i : Int)) (y := 1) ⟨by omega, by omega⟩]
      refine ⟨fun q => absurd q (by omega), fun _ => ⟨by omega, sp_holds yX_169 (by omega) (by omega) (by omega) (ev_pi_mk ?_)⟩⟩
      have hb := hr (dif S (w i)) (by omega)
      by_cases c : xb (s 169) P (dif S (w i)) = true
      · rw [if_pos c]
        refine ⟨fun q => absurd q (by omega), fun _ => h 1 (Or.inr rfl) ⟨fun _ => ⟨S &&& w i, ss_andl _ _, ?_, ?_⟩, fun _ => rfl⟩⟩
        · exact sub_all (fun S x hc hx => w_ca_rm hT0 a S x hc hx) _ _ _ (Nat.le_refl _) (xs_ss (ss_andr _ _)) (w4 i (by omega)).2
        · have e : dif S (S &&& w i) = dif S (w i) := eq_tb (fun j => by
            rw [tb_dif, tb_dif, Nat.testBit_and]
            cases S.testBit j <;> simp)
          rw [e]; exact hb.mp c
      · rw [if_neg c]
        refine ⟨fun _ => ih (i + 1) (by omega) (fun j hj => ?_), fun q => absurd rfl q⟩
        by_cases e : j = i
        · subst e; exact fun z => c (hb.mpr z)
        · exact hno j (by omega)
  exact key n 0 (by omega) (fun j hj => absurd hj (by omega))
theorem sp_join {d a P G N A NO MI : Nat} {s T : ev_S} {r : Nat → Int} {Q : Option ev_V → ev_S → Prop} (hT : m_tok T N A NO MI) (hK : XK0 s T N A MI r) (ha : a < A) (hP : P < 64) (hG : G < 64) (hPa : P.testBit a = false) (hGi : ∀ b, G.testBit b = true ↔ (b = a ∨ P.testBit b = true)) (hr : XKr s T N A MI r P) (hcl : XKn s G)
    (h : ∀ s', XKr s' T N A MI r G → (∀ G' S, G' ≠ G → S < 1024 → xb (s' 169) G' S = xb (s 169) G' S) → (∀ c, c ≠ 169 → s' c = s c) → Q none s') : Ev layX M_X1_join (d + 2) 0 [(0, ev_r 162), (1, ev_i (a : Int)), (2, ev_i (P : Int)), (3, ev_i (G : Int))] [] s Q := by
  have hT0 := hT
  obtain ⟨hdim, -, ⟨hA, hA6⟩, -, ⟨hM, hM10⟩, hg, -, hpok, hmok, -⟩ := hT
  have hcle := w_pc_le (T := T) (N := N) (r := r) MI
  obtain ⟨ok1, ok2, ok3⟩ := w_pp_ok (T := T) (N := N) (r := r) MI
  have hc10 := pow_10 (n := w_pc T N r MI) (by omega)
  have hC1 : 1 ≤ 2 ^ w_pc T N r MI := Nat.one_le_two_pow
  have hne : P ≠ G := fun e => by have := (hGi a).mpr (Or.inl rfl); rw [← e, hPa] at this; exact absurd this (by simp)
  have cj : ∀ S, g_cov (w_ca T N A MI r) A G (w_x T N MI r S) ↔ ∃ u, ss u (w_x T N MI r S) ∧ w_ca T N A MI r a u ∧ g_cov (w_ca T N A MI r) A P (dif (w_x T N MI r S) u) := fun S => g_cov_join w_ca_0 ha hPa hGi
  have cx : ∀ S, S < 2 ^ w_pc T N r MI → ((∃ t, ss t S ∧ w_ca T N A MI r a (w_x T N MI r t) ∧ g_cov (w_ca T N A MI r) A P (w_x T N MI r (dif S t))) ↔ g_cov (w_ca T N A MI r) A G (w_x T N MI r S)) := by
    intro S hS
    rw [cj S]
    constructor
    · rintro ⟨t, t1, t2, t3⟩
      refine ⟨w_x T N MI r t, xs_ss t1, t2, ?_⟩
      unfold w_x at t3 ⊢; rw [xs_dif ok2] at t3; exact t3
    · rintro ⟨u, u1, u2, u3⟩
      obtain ⟨t, t1, t2⟩ := w_x_on (ss_tr u1 (w_x_all S))
      subst t2
      refine ⟨t, (xs_ss_iff ok2 t1).mp u1, u2, ?_⟩
      unfold w_x at u3 ⊢; rw [xs_dif ok2]; exact u3
  refine wp_X1_join_0 (sp_put (row := G) (S := 0) yX_169 (by omega) (by omega) (by omega) (fun s1 z1 z2 => ?_))
  have key : ∀ (k S hb : Nat) (s2 : ev_S), S + k = 2 ^ w_pc T N r MI → 1 ≤ S → (2 ^ hb ≤ S ∧ S ≤ 2 ^ (hb + 1)) → (∀ S', S' < S → (xb (s2 169) G S' = true ↔ g_cov (w_ca T N A MI r) A G (w_x T N MI r S'))) → (∀ S', S ≤ S' → S' < 1024 → xb (s2 169) G S' = false) → (∀ G' S, G' ≠ G → S < 1024 → xb (s2 169) G' S = xb (s 169) G' S) → (∀ c, c ≠ 169 → s2 c = s c) → Ev layX M_X1_join (d + 2) 15 [(0, ev_r 162), (1, ev_i (a : Int)), (2, ev_i (P : Int)), (3, ev_i (G : Int)), (4, ev_i ((2 ^ hb : Nat) : Int)), (5, ev_i (S : Int))] [] s2 Q := by
    intro k
    induction k with
    | zero =>
      intro S hb s2 hS h1 hbb g1 g2 g3 gf
      have e3 : s2 162 3 = (w_pc T N r MI : Int) := by rw [gf 162 (by omega)]; exact hK.1.1
      refine wp_X1_join_15 (sp_full hM10 e3 (ev_pi_mk ⟨fun _ => h s2 (fun S' hS' => g1 S' (by omega)) g3 gf, fun q => absurd q (by omega)⟩))
    | succ k ih =>
      intro S hb s2 hS h1 hbb g1 g2 g3 gf
      have e3 : s2 162 3 = (w_pc T N r MI : Int) := by rw [gf 162 (by omega)]; exact hK.1.1
      have hK2 : XK0 s2 T N A MI r := XK0_keep hK (by rw [gf 162 (by omega)]) (fun c hc => gf c (by omega))
      have hr2 : XKr s2 T N A MI r P := fun S' hS' => by rw [g3 P S' hne (by omega)]; exact hr S' hS'
      -- with the highest one of the set
      have tail : ∀ hb : Nat, 2 ^ hb ≤ S → S < 2 ^ (hb + 1) → Ev layX M_X1_join (d + 2) 40 [(0, ev_r 162), (1, ev_i (a : Int)), (2, ev_i (P : Int)), (3, ev_i (G : Int)), (5, ev_i (S : Int))] [ev_i ((2 ^ hb : Nat) : Int)] s2 Q := by
        intro hb hb1 hb2
        have tbh : S.testBit hb = true := by
          rw [Nat.testBit_eq_decide_div_mod_eq]
          have : S / 2 ^ hb = 1 := by
            rw [Nat.div_eq_iff (Nat.two_pow_pos hb)]
            rw [Nat.pow_succ] at hb2
            omega
          rw [this]; rfl
        obtain ⟨l1, l2, l3, l4⟩ := low_ok (w_pc T N r MI) S (by omega) (by omega)
        have rm : ∀ x, S.testBit x = true → dif S (2 ^ x) < S ∧ (g_cov (w_ca T N A MI r) A G (w_x T N MI r S) → g_cov (w_ca T N A MI r) A G (w_x T N MI r (dif S (2 ^ x)))) := by
          intro x hx
          have xc := tb_lim (show S < 2 ^ w_pc T N r MI by omega) hx
          constructor
          · have q1 := dif_le S (2 ^ x)
            have q2 : dif S (2 ^ x) ≠ S := fun e => by
              have := tb_dif S (2 ^ x) x
              rw [e, hx, tb_pow] at this; simp at this
            omega
          · intro q
            have e : w_x T N MI r (dif S (2 ^ x)) = dif (w_x T N MI r S) (2 ^ w_pp T N r MI x) := by unfold w_x; rw [xs_dif ok2, xs_one xc]
            rw [e]
            exact g_cov_rm (w_ca_rm hT0) q (by unfold w_x; rw [xs_at ok2 xc]; exact hx)
        -- go on
        have no : ¬ g_cov (w_ca T N A MI r) A G (w_x T N MI r S) → Ev layX M_X1_join (d + 2) 15 [(0, ev_r 162), (1, ev_i (a : Int)), (2, ev_i (P : Int)), (3, ev_i (G : Int)), (4, ev_i ((2 ^ hb : Nat) : Int)), (5, ev_i ((S : Int) + 1))] [] s2 Q := by
          intro hn
          refine ih (S + 1) hb s2 (by omega) (by omega) ⟨by omega, by omega⟩ (fun S' hS' => ?_) (fun S' q1 q2 => g2 S' (by omega) q2) g3 gf
          by_cases e : S' = S
          · subst e; rw [g2 S' (Nat.le_refl _) (by omega)]; exact ⟨fun q => absurd q (by simp), fun q => absurd q hn⟩
          · exact g1 S' (by omega)
        refine wp_X1_join_40 ?_
        have ph := pow_10 (n := hb) (by have := tb_lim (show S < 2 ^ w_pc T N r MI by omega) tbh; omega)
        have d1 := dif_le S (2 ^ hb)
        have d2 := dif_le S (2 ^ low S (w_pc T N r MI))
        rw [ev_low (by omega) (by omega), l4, ev_andn (by omega) (by omega)]
        refine sp_holds yX_169 (by omega) (by omega) (by omega) (ev_pi_mk ?_)
        have r1 := rm _ l1
        have r2 := rm _ tbh
        have stop : ¬ g_cov (w_ca T N A MI r) A G (w_x T N MI r S) → Ev layX M_X1_join (d + 2) 83 [(0, ev_r 162), (1, ev_i (a : Int)), (2, ev_i (P : Int)), (3, ev_i (G : Int)), (4, ev_i ((2 ^ hb : Nat) : Int)), (5, ev_i (S : Int))] [ev_i 0] s2 Q := by
          intro hn
          refine wp_X1_join_83 ⟨fun _ => ?_, fun q => absurd rfl q⟩
          rw [ev_add_eq (x := (S : Int)) (y := 1) ⟨by omega, by omega⟩]
          exact no hn
        by_cases c1 : xb (s2 169) G (dif S (2 ^ low S (w_pc T N r MI))) = true
        · rw [if_pos c1]
          refine ⟨fun q => absurd q (by omega), fun _ => sp_holds yX_169 (by omega) (by omega) (by omega) (ev_pi_mk ?_)⟩
          by_cases c2 : xb (s2 169) G (dif S (2 ^ hb)) = true
          · rw [if_pos c2]
            refine ⟨fun q => absurd q (by omega), fun _ => wp_X1_join_83 ⟨fun q => absurd q (by omega), fun _ => ?_⟩⟩
            rw [ev_add_eq (x := (S : Int)) (y := 1) ⟨by omega, by omega⟩]
            refine sp_splits hT0 hK2 ha hP (by omega) hr2 (fun b hb0 hbi => ev_pi_mk ?_)
            rw [cx S (by omega)] at hbi
            refine ⟨fun q => no (fun z => by have := hbi.mpr z; omega), fun q => ?_⟩
            refine sp_put yX_169 (by omega) (by omega) (by omega) (fun s3 y1 y2 => ?_)
            have hc : g_cov (w_ca T N A MI r) A G (w_x T N MI r S) := hbi.mp (by omega)
            refine ih (S + 1) hb s3 (by omega) (by omega) ⟨by omega, by omega⟩ (fun S' hS' => ?_) (fun S' q1 q2 => ?_) (fun G' S' q1 q2 => ?_) (fun c hc => by rw [y2 c hc]; exact gf c hc)
            · rw [y1 G S' (by omega)]
              by_cases e : S' = S
              · subst e; simp only [and_self, decide_true, Bool.or_true, true_iff]; exact hc
              · rw [decide_eq_false (fun z => e z.2), Bool.or_false]; exact g1 S' (by omega)
            · rw [y1 G S' q2, decide_eq_false (fun z => by omega), Bool.or_false]; exact g2 S' (by omega) q2
            · rw [y1 G' S' q2, decide_eq_false (fun z => q1 z.1), Bool.or_false]; exact g3 G' S' q1 q2
          · rw [if_neg c2]
            exact ⟨fun _ => stop (fun z => c2 ((g1 _ r2.1).mpr (r2.2 z))), fun q => absurd rfl q⟩
        · rw [if_neg c1]
          exact ⟨fun _ => stop (fun z => c1 ((g1 _ r1.1).mpr (r1.2 z))), fun q => absurd rfl q⟩
      have hh : 2 ^ hb ≤ 1024 := by omega
      refine wp_X1_join_15 (sp_full hM10 e3 (ev_pi_mk ⟨fun q => absurd q (by omega), fun _ => ?_⟩))
      rw [ev_mul_eq ⟨by omega, by omega⟩]
      have e2 : 2 * ((2 ^ hb : Nat) : Int) = ((2 ^ (hb + 1) : Nat) : Int) := by rw [Nat.pow_succ]; omega
      rw [e2]
      refine ⟨fun c => tail hb hbb.1 (by omega), fun c => ?_⟩
      have e4 : S = 2 ^ (hb + 1) := by omega
      have := tail (hb + 1) (by omega) (by rw [Nat.pow_succ]; omega)
      rw [← c] at this
      exact this
  refine key (2 ^ w_pc T N r MI - 1) 1 0 s1 (by omega) (Nat.le_refl _) (by omega) (fun S' hS' => ?_) (fun S' q1 q2 => ?_) (fun G' S' q1 q2 => ?_) z2
  · have : S' = 0 := by omega
    subst this
    rw [z1 G 0 (by omega)]
    simp only [and_self, decide_true, Bool.or_true, true_iff]
    unfold w_x; rw [xs_0]
    exact ⟨fun _ => 0, ⟨fun a => w_ca_0 a, fun _ _ => rfl, fun a b i h => by simp at h⟩, (eq_tb (fun i => by rw [tb_uni]; simp))⟩
  · rw [z1 G S' q2, hcl S' q2, decide_eq_false (fun z => by omega)]; rfl
  · rw [z1 G' S' q2, decide_eq_false (fun z => q1 z.1), Bool.or_false]
theorem sp_learn {d G N A NO MI : Nat} {s T : ev_S} {r : Nat → Int} {Q : Option ev_V → ev_S → Prop} (hT : m_tok T N A NO MI) (hK : XK0 s T N A MI r) (hV : XCov s T N A MI r) (hG : G < 2 ^ A)
    (h : ∀ s', XCov s' T N A MI r → s' 172 G ≠ 0 → (∀ k P, (∀ b, P.testBit b = true ↔ (k ≤ b ∧ G.testBit b = true)) → s' 172 P ≠ 0) → (∀ c, c ≠ 169 → c ≠ 172 → s' c = s c) → Q none s') : Ev layX M_X1_learn (d + 3) 0 [(0, ev_r 162), (1, ev_i (G : Int))] [] s Q := by
  have hT0 := hT
  obtain ⟨hdim, -, ⟨hA, hA6⟩, -, ⟨hM, hM10⟩, hg, -, hpok, hmok, -⟩ := hT
  have hA2 : 2 ^ A ≤ 64 := by have := Nat.pow_le_pow_right (n := 2) (by omega) hA6; omega
  refine wp_X1_learn_0 ?_
  rw [hK.2.2.2.2, ev_sub_eq ⟨by omega, by omega⟩]
  have key : ∀ (k P : Nat) (s1 : ev_S), k ≤ A → (∀ b, P.testBit b = true ↔ (k ≤ b ∧ G.testBit b = true)) → XCov s1 T N A MI r → s1 172 P ≠ 0 → (∀ k' P', k ≤ k' → (∀ b, P'.testBit b = true ↔ (k' ≤ b ∧ G.testBit b = true)) → s1 172 P' ≠ 0) → (∀ c, c ≠ 169 → c ≠ 172 → s1 c = s c) → Ev layX M_X1_learn (d + 3) 12 [(0, ev_r 162), (1, ev_i (G : Int)), (2, ev_i (P : Int)), (3, ev_i ((k : Int) - 1))] [] s1 Q := by
    intro k
    induction k with
    | zero =>
      intro P s1 _ hP gV gP gS gf
      have : P = G := eq_tb (fun i => by rw [hP i]; simp)
      subst this
      exact wp_X1_learn_12 ⟨fun _ => h s1 gV gP (fun k P hP => gS k P (Nat.zero_le k) hP) gf, fun q => absurd q (by omega)⟩
    | succ k ih =>
      intro P s1 hkA hP gV gP gS gf
      have hPG : ss P G := fun i hi => ((hP i).mp hi).2
      have hPl : P < 2 ^ A := ss_lt hPG hG
      have pk : 2 ^ k ≤ 64 := by have := Nat.pow_le_pow_right (n := 2) (by omega) (show k ≤ 6 by omega); omega
      have hK1 : XK0 s1 T N A MI r := XK0_keep hK (by rw [gf 162 (by omega) (by omega)]) (fun c hc => gf c (by omega) (by omega))
      refine wp_X1_learn_12 ⟨fun q => absurd q (by omega), fun _ => ?_⟩
      rw [show (((k + 1 : Nat) : Int) - 1) = (k : Int) by omega, ev_bit (by omega) (by omega), ev_add_eq (x := (k : Int)) (y := -1) ⟨by omega, by omega⟩, show (k : Int) + -1 = (k : Int) - 1 by omega, ev_shl1 (by omega), ev_or_nat (by omega) (by omega), Int.toNat_natCast]
      have hPk : P.testBit k = false := by
        cases q : P.testBit k
        · rfl
        · have := ((hP k).mp q).1; omega
      by_cases cb : G.testBit k = true
      · rw [if_pos cb]
        have hJl : P ||| 2 ^ k < 64 := by
          have : P ||| 2 ^ k < 2 ^ 6 := or_lt (Nat.lt_of_lt_of_le hPl (Nat.pow_le_pow_right (by omega) hA6)) (Nat.pow_lt_pow_right (by omega) (by omega))
          omega
        have hJi : ∀ b, (P ||| 2 ^ k).testBit b = true ↔ (b = k ∨ P.testBit b = true) := fun b => by
          rw [Nat.testBit_or, Bool.or_eq_true, tb_pow]
          constructor
          · rintro (q | q)
            · exact Or.inr q
            · exact Or.inl (of_decide_eq_true q).symm
          · rintro (q | q)
            · exact Or.inr (decide_eq_true q.symm)
            · exact Or.inl q
        have hJ : ∀ b, (P ||| 2 ^ k).testBit b = true ↔ (k ≤ b ∧ G.testBit b = true) := fun b => by
          rw [hJi b, hP b]
          constructor
          · rintro (q | q)
            · subst q; exact ⟨Nat.le_refl _, cb⟩
            · exact ⟨by omega, q.2⟩
          · rintro ⟨q1, q2⟩
            by_cases e : b = k
            · exact Or.inl e
            · exact Or.inr ⟨by omega, q2⟩
        refine ⟨fun q => absurd q (by omega), fun _ => ⟨by omega, fun c => ih _ s1 (by omega) hJ gV c (fun k' P' hk hP' => by
          by_cases e : k' = k
          · subst e
            have : P' = P ||| 2 ^ k' := eq_tb (fun b => by rw [hP' b, hJ b])
            rw [this]; exact c
          · exact gS k' P' (by omega) hP') gf, fun c => ⟨by omega, ?_⟩⟩⟩
        rintro _ rfl
        have f2 : ∀ c', c' ≠ 172 → ev_up s1 172 (P ||| 2 ^ k) 1 c' = s1 c' := fun c' hc => ev_upj _ _ hc
        have hne : P ≠ P ||| 2 ^ k := fun e => by have := (hJi k).mpr (Or.inl rfl); rw [← e, hPk] at this; exact absurd this (by simp)
        refine sp_join hT0 (XK0_keep hK1 (by rw [f2 162 (by omega)]) (fun c hc => f2 c (by omega))) (by omega) (by omega) hJl hPk hJi (fun S hS => by rw [f2 169 (by omega)]; exact (gV.2 P (by omega)).1 gP S hS) (fun S hS => by rw [f2 169 (by omega)]; exact (gV.2 _ hJl).2 c S hS) (fun s2 z1 z2 z3 => ?_)
        have e170 : ∀ G', s2 172 G' = if G' = P ||| 2 ^ k then 1 else s1 172 G' := fun G' => by
          rw [z3 172 (by omega)]
          by_cases e : G' = P ||| 2 ^ k
          · rw [if_pos e, e, ev_up_same]
          · rw [if_neg e, ev_up_ne _ _ (by omega)]
        refine ih _ s2 (by omega) hJ ⟨?_, fun G' hG' => ?_⟩ (by rw [e170, if_pos rfl]; omega) (fun k' P' hk hP' => by
          rw [e170]
          by_cases e : k' = k
          · subst e
            have : P' = P ||| 2 ^ k' := eq_tb (fun b => by rw [hP' b, hJ b])
            rw [if_pos this]; omega
          · split
            · omega
            · exact gS k' P' (by omega) hP') (fun c' q1 q2 => by rw [z3 c' q1, f2 c' q2]; exact gf c' q1 q2)
        · rw [e170]
          split
          · omega
          · exact gV.1
        · rw [e170]
          by_cases e : G' = P ||| 2 ^ k
          · subst e; rw [if_pos rfl]; exact ⟨fun _ => z1, fun q => absurd q (by omega)⟩
          · rw [if_neg e]
            have hc10 := pow_10 (n := w_pc T N r MI) (by have := w_pc_le (T := T) (N := N) (r := r) MI; omega)
            refine ⟨fun q S hS => ?_, fun q S hS => ?_⟩
            · rw [z2 G' S e (by omega), f2 169 (by omega)]; exact (gV.2 G' hG').1 q S hS
            · rw [z2 G' S e hS, f2 169 (by omega)]; exact (gV.2 G' hG').2 q S hS
      · rw [if_neg cb]
        have hkb : ∀ b, (k + 1 ≤ b ∧ G.testBit b = true) ↔ (k ≤ b ∧ G.testBit b = true) := fun b => ⟨fun q => ⟨by omega, q.2⟩, fun q => ⟨by
          by_cases e : b = k
          · subst e; exact absurd q.2 cb
          · omega, q.2⟩⟩
        refine ⟨fun _ => ih P s1 (by omega) (fun b => ?_) gV gP (fun k' P' hk hP' => by
          by_cases e : k' = k
          · subst e
            exact gS (k' + 1) P' (Nat.le_refl _) (fun b => by rw [hP' b, hkb b])
          · exact gS k' P' (by omega) hP') gf, fun q => absurd rfl q⟩
        rw [hP b]
        constructor
        · rintro ⟨q1, q2⟩; exact ⟨by omega, q2⟩
        · rintro ⟨q1, q2⟩
          refine ⟨?_, q2⟩
          by_cases e : b = k
          · subst e; exact absurd q2 cb
          · omega
  refine key A 0 s (Nat.le_refl _) (fun b => ?_) hV hV.1 (fun k' P' hk hP' => by
    have : P' = 0 := eq_tb (fun b => by
      rw [hP' b, Nat.zero_testBit]
      refine ⟨fun q => ?_, fun q => absurd q (by simp)⟩
      have := tb_lim hG q.2
      omega)
    rw [this]; exact hV.1) (fun _ _ _ => rfl)
  rw [Nat.zero_testBit]
  refine ⟨fun q => absurd q (by simp), fun q => ?_⟩
  have := tb_lim hG q.2
  omega
theorem sp_most {d G N A NO MI : Nat} {s T : ev_S} {r : Nat → Int} {Q : Option ev_V → ev_S → Prop} (hT : m_tok T N A NO MI) (hK : XK0 s T N A MI r) (hV : XCov s T N A MI r) (hG : G < 2 ^ A)
    (h : ∀ s', XCov s' T N A MI r → s' 172 G ≠ 0 → (∀ k P, (∀ b, P.testBit b = true ↔ (k ≤ b ∧ G.testBit b = true)) → s' 172 P ≠ 0) → w_mx T N A MI r G 0 (v_mo T N A MI r G) → (∀ c, c ≠ 169 → c ≠ 172 → s' c = s c) → Q (some (ev_i (v_mo T N A MI r G))) s') : Ev layX M_X1_most (d + 4) 0 [(0, ev_r 162), (1, ev_i (G : Int))] [] s Q := by
  have hT0 := hT
  obtain ⟨hdim, -, ⟨hA, hA6⟩, -, ⟨hM, hM10⟩, hg, -, hpok, hmok, -⟩ := hT
  have hA2 : 2 ^ A ≤ 64 := by have := Nat.pow_le_pow_right (n := 2) (by omega) hA6; omega
  have hcle := w_pc_le (T := T) (N := N) (r := r) MI
  have hc10 := pow_10 (n := w_pc T N r MI) (by omega)
  have hC1 : 1 ≤ 2 ^ w_pc T N r MI := Nat.one_le_two_pow
  refine wp_X1_most_0 (sp_learn hT0 hK hV hG (fun s1 z1 z2 zS z3 => ?_))
  have e3 : s1 162 3 = (w_pc T N r MI : Int) := by rw [z3 162 (by omega) (by omega)]; exact hK.1.1
  have e166 : ∀ S, S < 2 ^ w_pc T N r MI → s1 166 S = w_rk T N MI r S := fun S hS => by rw [z3 166 (by omega) (by omega)]; exact hK.2.1 S hS
  have hr := (z1.2 G (by omega)).1 z2
  have wr0 : ∀ S, 0 ≤ w_rk T N MI r S := fun S => by rw [← w_rk_eq]; exact (rk_r (T := T) hmok _ MI (Nat.le_refl _)).1
  have fin : ∀ m : Int, (∃ S, S < 2 ^ w_pc T N r MI ∧ g_cov (w_ca T N A MI r) A G (w_x T N MI r S) ∧ w_rk T N MI r S = m) → (∀ S, S < 2 ^ w_pc T N r MI → g_cov (w_ca T N A MI r) A G (w_x T N MI r S) → w_rk T N MI r S ≤ m) → Q (some (ev_i m)) s1 := by
    intro m h1 h2
    have hmx : w_mx T N A MI r G 0 m := by
      constructor
      · obtain ⟨S, s1', s2, s3⟩ := h1
        exact ⟨w_x T N MI r S, s2, fun i hi => by rw [tb_dif, w_x_all S i hi]; simp, by rw [w_rk_eq]; exact s3⟩
      · intro U hU _
        obtain ⟨S, s1', s2⟩ := w_x_on (g_cov_all hU)
        rw [← s2, w_rk_eq]
        exact h2 S s1' (by rw [s2]; exact hU)
    have e := v_mo_eq hmx
    rw [e] at hmx ⊢
    exact h s1 z1 z2 zS hmx z3
  have key : ∀ (k S : Nat) (m : Int), S + k = 2 ^ w_pc T N r MI → (m = 0 ∨ ∃ S, S < 2 ^ w_pc T N r MI ∧ g_cov (w_ca T N A MI r) A G (w_x T N MI r S) ∧ w_rk T N MI r S = m) → 0 ≤ m → (∀ S', S' < S → g_cov (w_ca T N A MI r) A G (w_x T N MI r S') → w_rk T N MI r S' ≤ m) → Ev layX M_X1_most (d + 4) 9 [(0, ev_r 162), (1, ev_i (G : Int)), (2, ev_i m), (3, ev_i (S : Int))] [] s1 Q := by
    intro k
    induction k with
    | zero =>
      intro S m hS h1 h0 h2
      refine wp_X1_most_9 (sp_full hM10 e3 (ev_pi_mk ⟨fun _ => fin m ?_ (fun S' hS' => h2 S' (by omega)), fun q => absurd q (by omega)⟩))
      rcases h1 with q | q
      · subst q
        refine ⟨0, by omega, ?_, ?_⟩
        · unfold w_x; rw [xs_0]
          exact ⟨fun _ => 0, ⟨fun a => w_ca_0 a, fun _ _ => rfl, fun a b i h => by simp at h⟩, (eq_tb (fun i => by rw [tb_uni]; simp))⟩
        · unfold w_rk; exact rk_0 _
      · exact q
    | succ k ih =>
      intro S m hS h1 h0 h2
      refine wp_X1_most_9 (sp_full hM10 e3 (ev_pi_mk ⟨fun q => absurd q (by omega), fun _ => ?_⟩))
      rw [Int.toNat_natCast, e166 S (by omega), ev_add_eq (x := (S : Int)) (y := 1) ⟨by omega, by omega⟩]
      have skip : (g_cov (w_ca T N A MI r) A G (w_x T N MI r S) → w_rk T N MI r S ≤ m) → Ev layX M_X1_most (d + 4) 9 [(0, ev_r 162), (1, ev_i (G : Int)), (2, ev_i m), (3, ev_i ((S : Int) + 1))] [] s1 Q := by
        intro hs
        refine ih (S + 1) m (by omega) h1 h0 (fun S' hS' hc => ?_)
        by_cases e : S' = S
        · subst e; exact hs hc
        · exact h2 S' (by omega) hc
      refine ⟨by omega, fun c => skip (fun _ => c), fun c => sp_holds yX_169 (by omega) (by omega) (by omega) (ev_pi_mk ?_)⟩
      have hrS := hr S (by omega)
      by_cases c2 : xb (s1 169) G S = true
      · rw [if_pos c2, e166 S (by omega)]
        refine ⟨fun q => absurd q (by omega), fun _ => ⟨by omega, ih (S + 1) _ (by omega) (Or.inr ⟨S, by omega, hrS.mp c2, rfl⟩) (wr0 S) (fun S' hS' hc => ?_)⟩⟩
        by_cases e : S' = S
        · subst e; exact Int.le_refl _
        · have := h2 S' (by omega) hc; omega
      · rw [if_neg c2]
        exact ⟨fun _ => skip (fun z => absurd (hrS.mpr z) c2), fun q => absurd rfl q⟩
  exact key (2 ^ w_pc T N r MI) 0 0 (by omega) (Or.inl rfl) (Int.le_refl _) (fun S' hS' => absurd hS' (by omega))
