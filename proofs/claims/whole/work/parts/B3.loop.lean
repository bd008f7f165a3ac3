section
/-! THE LAW: conditions, both sides -/
theorem SG_reps {e D : Nat} {x : Int} {c' : List (Int × Int)} (hx : 10 ≤ x ∧ x ≤ 11) (h : SG (e + 1) true c' D) : ∀ k, SG (e + 1 + k) true (List.replicate k (x, 0) ++ c') D
  | 0 => h
  | k + 1 => by
    have g := SG_op (e := e + k) (x := x) (y := 0) (c' := List.replicate k (x, 0) ++ c') (D := D) (by rw [show e + k + 1 = e + 1 + k by omega]; exact SG_reps hx h k) (Or.inr ⟨rfl, hx⟩)
    rw [show e + k + 2 = e + 1 + (k + 1) by omega] at g
    exact g
theorem top_11 {P : List Int} {β : Nat} (h : top3 P) : (List.replicate β 11 ++ P).head? ≠ some 10 := by
  match β with
  | 0 => exact h.2.1
  | β + 1 => simp [List.replicate_succ]
theorem top_9 {P : List Int} {α β : Nat} (h : top3 P) : (List.replicate α 10 ++ (List.replicate β 11 ++ P)).head? ≠ some 9 := by
  match α, β with
  | 0, 0 => exact h.1
  | 0, β + 1 => simp [List.replicate_succ]
  | α + 1, _ => simp [List.replicate_succ]
/-- the class lays what waits -/
theorem x_lay {d L n j α m : Nat} {σ0 σ : ev_S} {b : Nat → Int} {c : List (Int × Int)} {x z : Int} {K : ev_S → Prop} (hz : z = x + 8) (hx2 : 2 ≤ x) (ha : abm α m) (hx : xls b L n σ0 c σ j) (hl : c.length < 400) (k : ∀ σ', xls b L n σ0 (c ++ List.replicate α (x, 0)) σ' j → K σ') : ((m : Int) ≤ 0 → K σ) ∧ (0 < (m : Int) → Ev layX M_X4_emit d 0 [(0, ev_r 139), (1, ev_i z)] [] σ (fun _ s5 => K s5)) := by
  rcases ha with ⟨rfl, rfl⟩ | ⟨rfl, h⟩
  · exact ⟨fun _ => k σ (by rw [show List.replicate 0 (x, (0 : Int)) = [] from rfl, List.append_nil]; exact hx), fun q => absurd q (by omega)⟩
  · exact ⟨fun q => absurd q (by omega), fun _ => xs_emit (x := x) (y := 0) hx hl (Or.inr hx2) (by rw [if_neg (by omega)]; exact hz) (fun σ' h' => k σ' h')⟩
theorem lp_step {b : Nat → Int} {L n j : Nat} (hN : EN b L n) (hj : j ≤ n) (hcl : ∀ o, o ≤ 8 → clOut b L n j o) (ih : ∀ j1, j < j1 → j1 ≤ n → bothAt b L n j1) : ∀ o, o ≤ 8 → ∀ α β, α ≤ 1 → β ≤ 1 → lpOut b L n j o α β := by
  have hn := hN.1
  intro o ho α β hα hβ
  have xin : ∀ (e : Nat) (σ : ev_S) (m p : Nat) (Q : Option ev_V → ev_S → Prop), m < 400 → rdL e o σ (ev_pi (fun r2 s1 => ((r2 ≠ 0 → (((m : Int) ≤ 0 → (Ev layX M_X8_passes e 0 [(0, ev_r 137), (1, ev_i 24)] [] s1 (ev_pi (fun r4 s3 => rdC (e + 1) o p r4 (m + 1) s3 Q)))) ∧ (0 < (m : Int) → (Ev layX M_X4_emit e 0 [(0, ev_r 139), (1, ev_i 18)] [] s1 (fun _ s5 => (Ev layX M_X8_passes e 0 [(0, ev_r 137), (1, ev_i 24)] [] s5 (ev_pi (fun r7 s6 => rdC (e + 1) o p r7 (m + 1) s6 Q)))))))) ∧ (r2 = 0 → Q (some (ev_i 0)) s1)))) → rdC (e + 1) o p 1 m σ Q := by
    intro e σ m p Q hm h
    refine wp_X8_readCondition_21 ?_
    rw [ev_add_eq ⟨by omega, by omega⟩]
    exact ⟨fun q => absurd q (by omega), fun _ => ⟨fun q => absurd q (by omega), fun _ => h⟩⟩
  rcases hcl o ho with ⟨k, i, hX, hM⟩ | ⟨j1, cs1, p1, p2, p3, p4, hX, hM⟩
  · refine Or.inl ⟨k, i, fun d σ0 σ c m p Q hd hx hl hm hp hm1 hp1 hq => ?_, fun d s0 s c P a Q hm hP ha hp hl hq => hM d s0 s c (List.replicate α 10 ++ (List.replicate β 11 ++ P)) 0 a Q hm (top_9 hP) (by omega) ha (by simp; omega) (by omega) hq⟩
    obtain ⟨e, rfl⟩ : ∃ e, d = e + 1 := ⟨d - 1, by omega⟩
    exact xin e σ m p Q (by omega) (hX e σ0 σ c _ (by omega) hx (by omega) (fun σ' hF => ev_pi_mk ⟨fun w => absurd rfl w, fun _ => hq σ' hF⟩))
  · have xA : ∀ (e : Nat) (σ0 σ : ev_S) (c : List (Int × Int)) (m p : Nat) (Q : Option ev_V → ev_S → Prop), 3 + 2 * (8 - o) ≤ e → xls b L n σ0 c σ j → c.length + α + β + 2 ≤ j → abm α m → m + 1 ≤ j → (∀ σ2, xls b L n σ0 (c ++ (cs1 ++ List.replicate α (10, 0))) σ2 j1 → Ev layX M_X8_passes e 0 [(0, ev_r 137), (1, ev_i 24)] [] σ2 (ev_pi (fun r7 s6 => rdC (e + 1) o p r7 (m + 1) s6 Q))) → rdC (e + 1) o p 1 m σ Q := by
      intro e σ0 σ c m p Q hd hx hl hm hm1 h
      refine xin e σ m p Q (by omega) (hX e σ0 σ c _ hd hx (by omega) (fun σ1 h1 => ev_pi_mk ⟨fun _ => x_lay (x := 10) (by omega) (by omega) hm h1 (by simp; omega) (fun σ2 h2 => h σ2 (by rw [List.append_assoc] at h2; exact h2)), fun w => absurd w (by omega)⟩))
    have xB : ¬ isW (kT b L) (kV b L) 4 j1 → ∀ (e : Nat) (σ0 σ : ev_S) (c : List (Int × Int)) (m p : Nat) (Q : Option ev_V → ev_S → Prop), 3 + 2 * (8 - o) ≤ e → xls b L n σ0 c σ j → c.length + α + β + 2 ≤ j → abm α m → abm β p → m + 1 ≤ j → p + 1 ≤ j → (∀ σ3, xls b L n σ0 (c ++ (cs1 ++ (List.replicate α (10, 0) ++ List.replicate β (11, 0)))) σ3 j1 → Ev layX M_X8_passes e 0 [(0, ev_r 137), (1, ev_i 23)] [] σ3 (ev_pi (fun r5 s4 => Ev layX M_X8_readCondition (e + 1) 4 [(0, ev_r 137), (1, ev_i (o : Int)), (2, ev_i r5), (3, ev_i ((p + 1 : Nat) : Int))] [] s4 Q))) → rdC (e + 1) o p 1 m σ Q := by
      intro w4 e σ0 σ c m p Q hd hx hl hm hp hm1 hp1 h
      obtain ⟨e, rfl⟩ : ∃ f, e = f + 1 := ⟨e - 1, by omega⟩
      refine xA (e + 1) σ0 σ c m p Q hd hx hl hm hm1 (fun σ2 h2 => sp_passes hN h2.1 (by omega) (fun w => absurd ((kkw (w := 4) (by omega) (by rfl)).mp w) w4) (fun _ => ev_pi_mk ?_))
      have g72 : Ev layX M_X8_readCondition (e + 1 + 1) 72 [(0, ev_r 137), (1, ev_i (o : Int)), (3, ev_i (p : Int))] [] σ2 Q := by
        refine wp_X8_readCondition_72 ?_
        rw [ev_add_eq ⟨by omega, by omega⟩]
        exact x_lay (x := 11) (by omega) (by omega) hp h2 (by simp; omega) (fun σ3 h3 => h σ3 (by simp only [List.append_assoc] at h3 ⊢; exact h3))
      refine wp_X8_readCondition_21 ⟨fun _ => g72, fun _ => ⟨fun _ => g72, fun q => absurd rfl q⟩⟩
    have mA : ∀ (d : Nat) (s0 s : ev_S) (c : List (Int × Int)) (P : List Int) (a : Nat) (Q : Option ev_V → ev_S → Prop), mz b L s0 c (List.replicate α 10 ++ (List.replicate β 11 ++ P)) o s j → top3 P → a ≤ o → P.length ≤ 3 * o → c.length + α + β + 2 ≤ j → (∀ s', mz b L s0 (c ++ cs1) (List.replicate α 10 ++ (List.replicate β 11 ++ P)) o s' j1 → rdA d a 0 s' Q) → rdA d a 1 s Q := by
      intro d s0 s c P a Q hm hP ha hp hl h
      refine hM d s0 s c (List.replicate α 10 ++ (List.replicate β 11 ++ P)) 0 a Q hm (top_9 hP) (by omega) ha (by simp; omega) (by omega) (fun s' m' => h s' ?_)
      rw [show List.replicate 0 ((9 : Int), (0 : Int)) = [] from rfl, List.append_nil, Nat.sub_zero] at m'
      exact m'
    have mB : ∀ (d : Nat) (s0 s2 : ev_S) (c : List (Int × Int)) (P : List Int) (Q : Option ev_V → ev_S → Prop), top3 P → P.length ≤ 3 * o → c.length + α + β + 2 ≤ j → mz b L s0 (c ++ cs1) (List.replicate α 10 ++ (List.replicate β 11 ++ P)) o s2 j1 → (∀ s', mz b L s0 (c ++ (cs1 ++ List.replicate α (10, 0))) (List.replicate β 11 ++ P) o s' j1 → Q none s') → Ev layM M_X12_settles (d + 6) 0 [(0, ev_r 0), (1, ev_i 10)] [] s2 Q := by
      intro d s0 s2 c P Q hP hp hl hm h
      exact mz_settles (top_11 hP) α o (c ++ cs1) s2 (by rw [if_neg (by omega)]; exact hm) (by simp; omega) (by omega) (by simp; omega) (fun s' m' => h s' (by rw [List.append_assoc] at m'; exact m'))
    have mC : ∀ (d : Nat) (s0 s2 : ev_S) (c : List (Int × Int)) (P : List Int) (Q : Option ev_V → ev_S → Prop), top3 P → P.length ≤ 3 * o → c.length + α + β + 2 ≤ j → mz b L s0 (c ++ cs1) (List.replicate α 10 ++ (List.replicate β 11 ++ P)) o s2 j1 → (∀ s', mz b L s0 (c ++ (cs1 ++ (List.replicate α (10, 0) ++ List.replicate β (11, 0)))) P o s' j1 → Q none s') → Ev layM M_X12_settles (d + 6) 0 [(0, ev_r 0), (1, ev_i 10)] [] s2 (fun _ s5 => Ev layM M_X12_settles (d + 6) 0 [(0, ev_r 0), (1, ev_i 11)] [] s5 Q) := by
      intro d s0 s2 c P Q hP hp hl hm h
      exact mB d s0 s2 c P _ hP hp hl hm (fun s3 m3 => mz_settles hP.2.2 β o (c ++ (cs1 ++ List.replicate α (10, 0))) s3 (by rw [if_neg (by omega)]; exact m3) (by omega) (by omega) (by simp; omega) (fun s' m' => h s' (by simp only [List.append_assoc] at m' ⊢; exact m')))
    by_cases w4 : isW (kT b L) (kV b L) 4 j1
    · have nj := isW_n hN w4
      have xo : ∀ (e : Nat) (σ0 σ : ev_S) (c : List (Int × Int)) (m p : Nat) (Q : Option ev_V → ev_S → Prop), 3 + 2 * (8 - o) ≤ e → xls b L n σ0 c σ j → c.length + α + β + 2 ≤ j → abm α m → m + 1 ≤ j → (∀ σ2, xls b L n σ0 (c ++ (cs1 ++ List.replicate α (10, 0))) σ2 (j1 + 1) → rdC (e + 1) o p 1 (m + 1) σ2 Q) → rdC (e + 1) o p 1 m σ Q := by
        intro e σ0 σ c m p Q hd hx hl hm hm1 h
        obtain ⟨e, rfl⟩ : ∃ f, e = f + 1 := ⟨e - 1, by omega⟩
        exact xA (e + 1) σ0 σ c m p Q hd hx hl hm hm1 (fun σ2 h2 => sp_passes hN h2.1 (by omega) (fun _ => ev_pi_mk (h _ (xls_adv h2))) (fun w => absurd ((kkw (w := 4) (by omega) (by rfl)).mpr w4) w))
      have mo : ∀ (d : Nat) (s0 s : ev_S) (c : List (Int × Int)) (P : List Int) (a : Nat) (Q : Option ev_V → ev_S → Prop), mz b L s0 c (List.replicate α 10 ++ (List.replicate β 11 ++ P)) o s j → top3 P → a ≤ o → P.length ≤ 3 * o → c.length + α + β + 2 ≤ j → (∀ s', mz b L s0 (c ++ (cs1 ++ List.replicate α (10, 0))) (List.replicate 1 10 ++ (List.replicate β 11 ++ P)) o s' (j1 + 1) → rdA d a 1 s' Q) → rdA d a 1 s Q := by
        intro d s0 s c P a Q hm hP ha hp hl h
        exact mA d s0 s c P a Q hm hP ha hp hl (fun s2 m2 => wp_X12_readAny_9 ⟨fun _ => sp_isWord m2.1 (fun _ => ev_pi_mk ⟨fun w => absurd w (by omega), fun _ => mB d s0 s2 c P _ hP hp hl m2 (fun s3 m3 => mz_waits m3 (by simp; omega) (fun s4 m4 => mz_rd m4 (fun s5 m5 => h s5 m5)))⟩) (fun w => absurd w4 w), fun w => absurd rfl w⟩)
      rcases (ih (j1 + 1) (by omega) (by omega) o ho).2 1 β (by omega) hβ with ⟨k, i, hX2, hM2⟩ | ⟨j', cs, g1, g2, g3, g4, hX2, hM2⟩
      · refine Or.inl ⟨k, i, fun d σ0 σ c m p Q hd hx hl hm hp hm1 hp1 hq => ?_, fun d s0 s c P a Q hm hP ha hp hl hq => mo d s0 s c P a Q hm hP ha hp hl (fun s' m' => hM2 d s0 s' _ P a Q m' hP ha hp (by simp; omega) hq)⟩
        obtain ⟨e, rfl⟩ : ∃ e, d = e + 1 := ⟨d - 1, by omega⟩
        exact xo e σ0 σ c m p Q (by omega) hx hl hm hm1 (fun σ2 h2 => hX2 (e + 1) σ0 σ2 _ (m + 1) p Q (by omega) h2 (by simp; omega) (Or.inr ⟨rfl, by omega⟩) hp (by omega) (by omega) hq)
      · refine Or.inr ⟨j', cs1 ++ (List.replicate α (10, 0) ++ cs), by omega, g2, by simp; omega, SG_cat p4 ?_ (by omega), fun d σ0 σ c m p Q hd hx hl hm hp hm1 hp1 hq => ?_, fun d s0 s c P a Q hm hP ha hp hl hq => mo d s0 s c P a Q hm hP ha hp hl (fun s' m' => hM2 d s0 s' _ P a Q m' hP ha hp (by simp; omega) (fun s3 m3 => hq s3 ?_))⟩
        · have := SG_reps (x := 10) (e := β) (by omega) (by rw [show β + 1 = 1 + β by omega]; exact g4) α
          rw [show β + 1 + α = α + β + 1 by omega] at this
          exact this
        · obtain ⟨e, rfl⟩ : ∃ e, d = e + 1 := ⟨d - 1, by omega⟩
          exact xo e σ0 σ c m p Q (by omega) hx hl hm hm1 (fun σ2 h2 => hX2 (e + 1) σ0 σ2 _ (m + 1) p Q (by omega) h2 (by simp; omega) (Or.inr ⟨rfl, by omega⟩) hp (by omega) (by omega) (fun σ3 h3 => hq σ3 (by simp only [List.append_assoc] at h3 ⊢; exact h3)))
        · simp only [List.append_assoc] at m3 ⊢; exact m3
    · by_cases w3 : isW (kT b L) (kV b L) 3 j1
      · have nj := isW_n hN w3
        have xo : ∀ (e : Nat) (σ0 σ : ev_S) (c : List (Int × Int)) (m p : Nat) (Q : Option ev_V → ev_S → Prop), 3 + 2 * (8 - o) ≤ e → xls b L n σ0 c σ j → c.length + α + β + 2 ≤ j → abm α m → abm β p → m + 1 ≤ j → p + 1 ≤ j → (∀ σ2, xls b L n σ0 (c ++ (cs1 ++ (List.replicate α (10, 0) ++ List.replicate β (11, 0)))) σ2 (j1 + 1) → rdC (e + 1) o (p + 1) 1 0 σ2 Q) → rdC (e + 1) o p 1 m σ Q := by
          intro e σ0 σ c m p Q hd hx hl hm hp hm1 hp1 h
          obtain ⟨e, rfl⟩ : ∃ f, e = f + 1 := ⟨e - 1, by omega⟩
          exact xB w4 (e + 1) σ0 σ c m p Q hd hx hl hm hp hm1 hp1 (fun σ2 h2 => sp_passes hN h2.1 (by omega) (fun _ => ev_pi_mk (wp_X8_readCondition_4 ⟨fun q => absurd q (by omega), fun _ => ⟨fun q => absurd q (by omega), fun _ => h _ (xls_adv h2)⟩⟩)) (fun w => absurd ((kkw (w := 3) (by omega) (by rfl)).mpr w3) w))
        have mo : ∀ (d : Nat) (s0 s : ev_S) (c : List (Int × Int)) (P : List Int) (a : Nat) (Q : Option ev_V → ev_S → Prop), mz b L s0 c (List.replicate α 10 ++ (List.replicate β 11 ++ P)) o s j → top3 P → a ≤ o → P.length ≤ 3 * o → c.length + α + β + 2 ≤ j → (∀ s', mz b L s0 (c ++ (cs1 ++ (List.replicate α (10, 0) ++ List.replicate β (11, 0)))) (List.replicate 0 10 ++ (List.replicate 1 11 ++ P)) o s' (j1 + 1) → rdA d a 1 s' Q) → rdA d a 1 s Q := by
          intro d s0 s c P a Q hm hP ha hp hl h
          exact mA d s0 s c P a Q hm hP ha hp hl (fun s2 m2 => wp_X12_readAny_9 ⟨fun _ => sp_isWord m2.1 (fun w => absurd w w4) (fun _ => ev_pi_mk ⟨fun _ => sp_isWord m2.1 (fun _ => ev_pi_mk ⟨fun w => absurd w (by omega), fun _ => mC d s0 s2 c P _ hP hp hl m2 (fun s3 m3 => mz_waits m3 (by omega) (fun s4 m4 => mz_rd m4 (fun s5 m5 => h s5 m5)))⟩) (fun w => absurd w3 w), fun w => absurd rfl w⟩), fun w => absurd rfl w⟩)
        rcases (ih (j1 + 1) (by omega) (by omega) o ho).2 0 1 (by omega) (by omega) with ⟨k, i, hX2, hM2⟩ | ⟨j', cs, g1, g2, g3, g4, hX2, hM2⟩
        · refine Or.inl ⟨k, i, fun d σ0 σ c m p Q hd hx hl hm hp hm1 hp1 hq => ?_, fun d s0 s c P a Q hm hP ha hp hl hq => mo d s0 s c P a Q hm hP ha hp hl (fun s' m' => hM2 d s0 s' _ P a Q m' hP ha hp (by simp; omega) hq)⟩
          obtain ⟨e, rfl⟩ : ∃ e, d = e + 1 := ⟨d - 1, by omega⟩
          exact xo e σ0 σ c m p Q (by omega) hx hl hm hp hm1 hp1 (fun σ2 h2 => hX2 (e + 1) σ0 σ2 _ 0 (p + 1) Q (by omega) h2 (by simp; omega) (Or.inl ⟨rfl, rfl⟩) (Or.inr ⟨rfl, by omega⟩) (by omega) (by omega) hq)
        · refine Or.inr ⟨j', cs1 ++ (List.replicate α (10, 0) ++ (List.replicate β (11, 0) ++ cs)), by omega, g2, by simp; omega, SG_cat p4 ?_ (by omega), fun d σ0 σ c m p Q hd hx hl hm hp hm1 hp1 hq => ?_, fun d s0 s c P a Q hm hP ha hp hl hq => mo d s0 s c P a Q hm hP ha hp hl (fun s' m' => hM2 d s0 s' _ P a Q m' hP ha hp (by simp; omega) (fun s3 m3 => hq s3 ?_))⟩
          · have t1 := SG_reps (x := 11) (e := 0) (by omega) g4 β
            have := SG_reps (x := 10) (e := β) (by omega) (by rw [show β + 1 = 0 + 1 + β by omega]; exact t1) α
            rw [show β + 1 + α = α + β + 1 by omega] at this
            exact this
          · obtain ⟨e, rfl⟩ : ∃ e, d = e + 1 := ⟨d - 1, by omega⟩
            exact xo e σ0 σ c m p Q (by omega) hx hl hm hp hm1 hp1 (fun σ2 h2 => hX2 (e + 1) σ0 σ2 _ 0 (p + 1) Q (by omega) h2 (by simp; omega) (Or.inl ⟨rfl, rfl⟩) (Or.inr ⟨rfl, by omega⟩) (by omega) (by omega) (fun σ3 h3 => hq σ3 (by simp only [List.append_assoc] at h3 ⊢; exact h3)))
          · simp only [List.append_assoc] at m3 ⊢; exact m3
      · refine Or.inr ⟨j1, cs1 ++ (List.replicate α (10, 0) ++ (List.replicate β (11, 0) ++ [])), p1, p2, by simp; omega, SG_cat p4 ?_ (by omega), fun d σ0 σ c m p Q hd hx hl hm hp hm1 hp1 hq => ?_, fun d s0 s c P a Q hm hP ha hp hl hq => mA d s0 s c P a Q hm hP ha hp hl (fun s2 m2 => wp_X12_readAny_9 ⟨fun _ => sp_isWord m2.1 (fun w => absurd w w4) (fun _ => ev_pi_mk ⟨fun _ => sp_isWord m2.1 (fun w => absurd w w3) (fun _ => ev_pi_mk ⟨fun _ => mC d s0 s2 c P _ hP hp hl m2 (fun s3 m3 => hq s3 ?_), fun w => absurd rfl w⟩), fun w => absurd rfl w⟩), fun w => absurd rfl w⟩)⟩
        · have t1 := SG_reps (x := 11) (e := 0) (D := 6 + 2 * (8 - o)) (by omega) SG_nil β
          have := SG_reps (x := 10) (e := β) (by omega) (by rw [show β + 1 = 0 + 1 + β by omega]; exact t1) α
          rw [show β + 1 + α = α + β + 1 by omega] at this
          exact this
        · obtain ⟨e, rfl⟩ : ∃ e, d = e + 2 := ⟨d - 2, by omega⟩
          exact xB w4 (e + 1) σ0 σ c m p Q (by omega) hx hl hm hp hm1 hp1 (fun σ2 h2 => sp_passes hN h2.1 (by omega) (fun w => absurd ((kkw (w := 3) (by omega) (by rfl)).mp w) w3) (fun _ => ev_pi_mk (by
            have hQ := hq σ2 (by rw [List.append_nil]; exact h2)
            exact wp_X8_readCondition_4 ⟨fun _ => hQ, fun _ => ⟨fun _ => hQ, fun w => absurd rfl w⟩⟩)))
        · rw [List.append_nil]; exact m3
theorem both_all {b : Nat → Int} {L n : Nat} (hN : EN b L n) : ∀ m j, n ≤ j + m → j ≤ n → bothAt b L n j := by
  intro m
  induction m with
  | zero =>
    intro j h1 h2
    have ih : ∀ j1, j < j1 → j1 ≤ n → bothAt b L n j1 := fun j1 a c => absurd c (by omega)
    have hc := cl_step hN h2 ih
    exact fun o ho => ⟨hc o ho, lp_step hN h2 hc ih o ho⟩
  | succ m ihm =>
    intro j h1 h2
    have ih : ∀ j1, j < j1 → j1 ≤ n → bothAt b L n j1 := fun j1 a c => ihm j1 (by omega) c
    have hc := cl_step hN h2 ih
    exact fun o ho => ⟨hc o ho, lp_step hN h2 hc ih o ho⟩
end
