section
/-! THE LAW: clauses and conditions, both sides -/
abbrev rdA (d a : Nat) (z : Int) (s : ev_S) (Q : Option ev_V → ev_S → Prop) : Prop := Ev layM M_X12_readAny (d + 7) 9 [(0, ev_r 0), (1, ev_i (a : Int)), (2, ev_i z)] [] s Q
abbrev rdC (d o p : Nat) (r : Int) (m : Nat) (σ : ev_S) (Q : Option ev_V → ev_S → Prop) : Prop := Ev layX M_X8_readCondition d 21 [(0, ev_r 137), (1, ev_i (o : Int)), (3, ev_i (p : Int)), (4, ev_i r), (5, ev_i (m : Int))] [] σ Q
abbrev rdL (d o : Nat) (σ : ev_S) (Q : Option ev_V → ev_S → Prop) : Prop := Ev layX M_X8_readClause d 0 [(0, ev_r 137), (1, ev_i (o : Int))] [] σ Q
def FIN (d a : Nat) (s6 : ev_S) (Q : Option ev_V → ev_S → Prop) : Prop := (((a : Int) ≠ 0 → (Ev layM M_X12_isSign (d + 6) 0 [(0, ev_r 0), (1, ev_i 41)] [] s6 (ev_pi (fun r8 s7 => ((r8 ≠ 0 → (∀ s9, ev_up s7 0 34 (ev_sub (s7 0 34) 1) = s9 → (∀ s10, ev_up s9 0 32 (ev_sub (s9 0 32) 1) = s10 → (Ev layM M_X12_settles (d + 6) 0 [(0, ev_r 0), (1, ev_i 9)] [] s10 (fun _ s11 => (Ev layM M_X12_reads (d + 6) 0 [(0, ev_r 0)] [] s11 (fun _ s12 => Ev layM M_X12_readAny (d + 7) 9 [(0, ev_r 0), (1, ev_i (ev_sub (a : Int) 1)), (2, ev_i 0)] [] s12 Q))))))) ∧ (r8 = 0 → (Ev layM M_X12_errs (d + 6) 0 [(0, ev_r 0), (1, ev_i 1)] [] s7 (ev_pi (fun r14 s13 => Q (some (ev_i r14)) s13))))))))) ∧ ((a : Int) = 0 → Q (some (ev_i 0)) s6))
def clXE (b : Nat → Int) (L n j o k i : Nat) : Prop := ∀ (d : Nat) (σ0 σ : ev_S) (c : List (Int × Int)) (Q : Option ev_V → ev_S → Prop), 3 + 2 * (8 - o) ≤ d → xls b L n σ0 c σ j → c.length + 2 ≤ j → (∀ σ', FL b L σ0 k i σ' → Q (some (ev_i 0)) σ') → rdL d o σ Q
def clXO (b : Nat → Int) (L n j o j' : Nat) (cs : List (Int × Int)) : Prop := ∀ (d : Nat) (σ0 σ : ev_S) (c : List (Int × Int)) (Q : Option ev_V → ev_S → Prop), 3 + 2 * (8 - o) ≤ d → xls b L n σ0 c σ j → c.length + 2 ≤ j → (∀ σ', xls b L n σ0 (c ++ cs) σ' j' → Q (some (ev_i 1)) σ') → rdL d o σ Q
def clME (b : Nat → Int) (L j o k i : Nat) : Prop := ∀ (d : Nat) (s0 s : ev_S) (c : List (Int × Int)) (P : List Int) (q a : Nat) (Q : Option ev_V → ev_S → Prop), mz b L s0 c (List.replicate q 9 ++ P) o s j → P.head? ≠ some 9 → q ≤ o → a ≤ o → P.length + q ≤ 3 * o + 2 → c.length + q + 2 ≤ j → (∀ s', FM b L s0 k i s' → Q (some (ev_i (-1))) s') → rdA d a 1 s Q
def clMO (b : Nat → Int) (L j o j' : Nat) (cs : List (Int × Int)) : Prop := ∀ (d : Nat) (s0 s : ev_S) (c : List (Int × Int)) (P : List Int) (q a : Nat) (Q : Option ev_V → ev_S → Prop), mz b L s0 c (List.replicate q 9 ++ P) o s j → P.head? ≠ some 9 → q ≤ o → a ≤ o → P.length + q ≤ 3 * o + 2 → c.length + q + 2 ≤ j → (∀ s', mz b L s0 (c ++ (cs ++ List.replicate q (9, 0))) P (o - q) s' j' → rdA d a 0 s' Q) → rdA d a 1 s Q
def clOut (b : Nat → Int) (L n j o : Nat) : Prop := (∃ k i, clXE b L n j o k i ∧ clME b L j o k i) ∨ (∃ j' cs, j < j' ∧ j' ≤ n ∧ List.length cs ≤ j' - j ∧ SG 0 true cs (4 + 2 * (8 - o)) ∧ clXO b L n j o j' cs ∧ clMO b L j o j' cs)
def abm (α m : Nat) : Prop := (α = 0 ∧ m = 0) ∨ (α = 1 ∧ 0 < m)
def top3 (P : List Int) : Prop := P.head? ≠ some 9 ∧ P.head? ≠ some 10 ∧ P.head? ≠ some 11
def lpXE (b : Nat → Int) (L n j o α β k i : Nat) : Prop := ∀ (d : Nat) (σ0 σ : ev_S) (c : List (Int × Int)) (m p : Nat) (Q : Option ev_V → ev_S → Prop), 4 + 2 * (8 - o) ≤ d → xls b L n σ0 c σ j → c.length + α + β + 2 ≤ j → abm α m → abm β p → m + 1 ≤ j → p + 1 ≤ j → (∀ σ', FL b L σ0 k i σ' → Q (some (ev_i 0)) σ') → rdC d o p 1 m σ Q
def lpXO (b : Nat → Int) (L n j o α β j' : Nat) (cs : List (Int × Int)) : Prop := ∀ (d : Nat) (σ0 σ : ev_S) (c : List (Int × Int)) (m p : Nat) (Q : Option ev_V → ev_S → Prop), 4 + 2 * (8 - o) ≤ d → xls b L n σ0 c σ j → c.length + α + β + 2 ≤ j → abm α m → abm β p → m + 1 ≤ j → p + 1 ≤ j → (∀ σ', xls b L n σ0 (c ++ cs) σ' j' → Q (some (ev_i 1)) σ') → rdC d o p 1 m σ Q
def lpME (b : Nat → Int) (L j o α β k i : Nat) : Prop := ∀ (d : Nat) (s0 s : ev_S) (c : List (Int × Int)) (P : List Int) (a : Nat) (Q : Option ev_V → ev_S → Prop), mz b L s0 c (List.replicate α 10 ++ (List.replicate β 11 ++ P)) o s j → top3 P → a ≤ o → P.length ≤ 3 * o → c.length + α + β + 2 ≤ j → (∀ s', FM b L s0 k i s' → Q (some (ev_i (-1))) s') → rdA d a 1 s Q
def lpMO (b : Nat → Int) (L j o α β j' : Nat) (cs : List (Int × Int)) : Prop := ∀ (d : Nat) (s0 s : ev_S) (c : List (Int × Int)) (P : List Int) (a : Nat) (Q : Option ev_V → ev_S → Prop), mz b L s0 c (List.replicate α 10 ++ (List.replicate β 11 ++ P)) o s j → top3 P → a ≤ o → P.length ≤ 3 * o → c.length + α + β + 2 ≤ j → (∀ s', mz b L s0 (c ++ cs) P o s' j' → FIN d a s' Q) → rdA d a 1 s Q
def lpOut (b : Nat → Int) (L n j o α β : Nat) : Prop := (∃ k i, lpXE b L n j o α β k i ∧ lpME b L j o α β k i) ∨ (∃ j' cs, j < j' ∧ j' ≤ n ∧ List.length cs ≤ j' - j + α + β ∧ SG (α + β) true cs (6 + 2 * (8 - o)) ∧ lpXO b L n j o α β j' cs ∧ lpMO b L j o α β j' cs)
def bothAt (b : Nat → Int) (L n j : Nat) : Prop := ∀ o, o ≤ 8 → clOut b L n j o ∧ ∀ α β, α ≤ 1 → β ≤ 1 → lpOut b L n j o α β
/-- the model opens one more -/
theorem m_open {d L o j a : Nat} {s0 s : ev_S} {b : Nat → Int} {c : List (Int × Int)} {P : List Int} {t : Int} {Q : Option ev_V → ev_S → Prop} (hm : mz b L s0 c P o s j) (hw : (t = 1 ∧ isW (kT b L) (kV b L) 5 j) ∨ (t = 0 ∧ isS (kT b L) (kV b L) 40 j)) (hP : P.length ≤ 3 * o + 2) (ha : a ≤ o) (h8 : o = 8 → ∀ s', FM b L s0 3 j s' → Q (some (ev_i (-1))) s') (h : o < 8 → ∀ s', mz b L s0 c ((if t = 1 then 9 else 12) :: P) (o + 1) s' (j + 1) → rdA d (if t = 1 then a else a + 1) 1 s' Q) (ho : o ≤ 8) : rdA d a 1 s Q := by
  have g32 : Ev layM M_X12_readAny (d + 7) 32 [(0, ev_r 0), (1, ev_i (a : Int)), (2, ev_i 1), (3, ev_i t)] [] s Q := by
    refine wp_X12_readAny_32 ?_
    rw [hm.2.2.2.2.2.2.1]
    refine ⟨fun q => ?_, fun q => sp_errs (k := 3) hm.1 (ev_pi_mk (h8 (by omega) _ (FM_ers hm.2.1)))⟩
    rw [ev_add_eq ⟨by omega, by omega⟩, ev_add_eq (x := (a : Int)) ⟨by omega, by omega⟩]
    rintro _ rfl
    have m1 : mz b L s0 c P (o + 1) (ev_up s 0 32 ((o : Int) + 1)) j := mz_up hm (Or.inr ⟨rfl, rfl, by omega⟩)
    rcases hw with ⟨rfl, -⟩ | ⟨rfl, -⟩
    · refine ⟨fun _ => ⟨fun q => absurd q (by omega), fun _ => wp_X12_readAny_77 (mz_waits m1 (by omega) (fun s2 m2 => mz_rd m2 (fun s3 m3 => ?_)))⟩, fun q => absurd q (by omega)⟩
      have := h (by omega) s3 (by rw [if_pos rfl]; exact m3)
      rw [if_pos rfl] at this
      exact this
    · refine ⟨fun q => absurd rfl q, fun _ => ⟨fun _ => wp_X12_readAny_77 (mz_waits m1 (by omega) (fun s2 m2 => mz_rd m2 (fun s3 m3 => ?_))), fun q => absurd rfl q⟩⟩
      have := h (by omega) s3 (by rw [if_neg (by omega)]; exact m3)
      rw [if_neg (by omega)] at this
      exact this
  refine wp_X12_readAny_9 ⟨fun q => absurd q (by omega), fun _ => ?_⟩
  rcases hw with ⟨rfl, w⟩ | ⟨rfl, w⟩
  · exact sp_isWord hm.1 (fun _ => ev_pi_mk ⟨fun _ => g32, fun q => absurd q (by omega)⟩) (fun q => absurd w q)
  · refine sp_isWord hm.1 (fun q => absurd (q.1.symm.trans w.1) (by omega)) (fun _ => ev_pi_mk ⟨fun q => absurd rfl q, fun _ => sp_isSign hm.1 (fun _ => ev_pi_mk ⟨fun q => absurd q (by omega), fun _ => g32⟩) (fun q => absurd w q)⟩)
/-- the class opens one more -/
theorem x_open {d L n o j : Nat} {σ0 σ : ev_S} {b : Nat → Int} {c : List (Int × Int)} {z : Int} {Q : Option ev_V → ev_S → Prop} (hN : EN b L n) (hj : j < n) (hx : xls b L n σ0 c σ j) (hw : (z = 25 ∧ isW (kT b L) (kV b L) 5 j) ∨ (z = 140 ∧ isS (kT b L) (kV b L) 40 j)) (h8 : o = 8 → ∀ σ', FL b L σ0 3 j σ' → Q (some (ev_i 0)) σ') (h1 : o < 8 → z ≠ 140 → ∀ s1, xls b L n σ0 c s1 (j + 1) → Ev layX M_X8_readClause d 0 [(0, ev_r 137), (1, ev_i ((o + 1 : Nat) : Int))] [] s1 (ev_pi (fun r3 s2 => (Ev layX M_X4_emit d 0 [(0, ev_r 139), (1, ev_i 17)] [] s2 (fun _ s4 => ((r3 = 0 ∨ r3 = 1) ∧ Q (some (ev_i r3)) s4)))))) (h2 : o < 8 → z = 140 → ∀ s1, xls b L n σ0 c s1 (j + 1) → Ev layX M_X8_readCondition d 0 [(0, ev_r 137), (1, ev_i ((o + 1 : Nat) : Int))] [] s1 (ev_pi (fun r6 s5 => ((r6 = 0 → Q (some (ev_i 0)) s5) ∧ (r6 ≠ 0 → (Ev layX M_X8_takes d 0 [(0, ev_r 137), (1, ev_i 141)] [] s5 (ev_pi (fun r8 s7 => ((r8 = 0 → Q (some (ev_i 0)) s7) ∧ (r8 ≠ 0 → Q (some (ev_i 1)) s7)))))))))) (ho : o ≤ 8) : rdL (d + 1) o σ Q := by
  have hn := hN.1
  have g18 : kk b L j = z → Ev layX M_X8_readClause (d + 1) 18 [(0, ev_r 137), (1, ev_i (o : Int)), (2, ev_i z)] [] σ Q := by
    intro ek
    refine wp_X8_readClause_18 ?_
    rw [ev_add_eq ⟨by omega, by omega⟩, show (o : Int) + 1 = ((o + 1 : Nat) : Int) by omega]
    exact ⟨fun q => sp_advance hN hx.1 (by omega) ⟨fun w => h1 (by omega) w _ (xls_adv hx), fun w => h2 (by omega) w _ (xls_adv hx)⟩, fun q => sp_faulty (k := 3) hN hx.1 (ev_pi_mk ⟨Or.inl rfl, h8 (by omega) _ (xls_ft hx)⟩)⟩
  refine wp_X8_readClause_0 ?_
  rw [hx.1.2.1]
  rcases hw with ⟨rfl, w⟩ | ⟨rfl, w⟩
  · have e := (kkw (z := 25) (w := 5) (by omega) (by rfl)).mpr w
    have g := g18 e
    rw [e]
    exact ⟨fun _ => g, fun q => absurd rfl q⟩
  · have e := (kks (z := 140) (c := 40) (by omega) (by rfl)).mpr w
    have g := g18 e
    rw [e]
    exact ⟨fun q => absurd q (by omega), fun _ => ⟨fun q => absurd rfl q, fun _ => g⟩⟩
theorem cl_step {b : Nat → Int} {L n j : Nat} (hN : EN b L n) (hj : j ≤ n) (ih : ∀ j1, j < j1 → j1 ≤ n → bothAt b L n j1) : ∀ o, o ≤ 8 → clOut b L n j o := by
  have hn := hN.1
  intro o ho
  by_cases w5 : isW (kT b L) (kV b L) 5 j
  · have nj := isW_n hN w5
    by_cases o8 : o = 8
    · refine Or.inl ⟨3, j, fun d σ0 σ c Q hd hx hl hq => ?_, fun d s0 s c P q a Q hm hP hq1 ha hp hl hq => m_open (t := 1) hm (Or.inl ⟨rfl, w5⟩) (by simp; omega) ha (fun _ => hq) (fun w => absurd w (by omega)) ho⟩
      obtain ⟨e, rfl⟩ : ∃ e, d = e + 1 := ⟨d - 1, by omega⟩
      exact x_open (z := 25) hN nj hx (Or.inl ⟨rfl, w5⟩) (fun _ => hq) (fun w => absurd w (by omega)) (fun w => absurd w (by omega)) ho
    · have ho1 : o < 8 := by omega
      rcases (ih (j + 1) (by omega) (by omega) (o + 1) (by omega)).1 with ⟨k, i, hX, hM⟩ | ⟨j', cs, g1, g2, g3, g4, hX, hM⟩
      · refine Or.inl ⟨k, i, fun d σ0 σ c Q hd hx hl hq => ?_, fun d s0 s c P q a Q hm hP hq1 ha hp hl hq => m_open (t := 1) hm (Or.inl ⟨rfl, w5⟩) (by simp; omega) ha (fun w => absurd w o8) (fun _ s' m' => hM d s0 s' c P (q + 1) a Q m' hP (by omega) (by omega) (by omega) (by omega) hq) ho⟩
        obtain ⟨e, rfl⟩ : ∃ e, d = e + 1 := ⟨d - 1, by omega⟩
        exact x_open (z := 25) hN nj hx (Or.inl ⟨rfl, w5⟩) (fun w => absurd w o8) (fun _ _ s1 h1 => hX e σ0 s1 c _ (by omega) h1 (by omega) (fun σ' hF => ev_pi_mk (sp_emitF hF.1 hF.2 (fun σ2 f1 f2 => ⟨Or.inl rfl, hq σ2 ⟨f1, f2⟩⟩)))) (fun _ w => absurd w (by omega)) ho
      · refine Or.inr ⟨j', cs ++ [(9, 0)], by omega, g2, by simp; omega, SG_not (SG_mono g4 (by omega)), fun d σ0 σ c Q hd hx hl hq => ?_, fun d s0 s c P q a Q hm hP hq1 ha hp hl hq => m_open (t := 1) hm (Or.inl ⟨rfl, w5⟩) (by simp; omega) ha (fun w => absurd w o8) (fun _ s' m' => hM d s0 s' c P (q + 1) a Q m' hP (by omega) (by omega) (by omega) (by omega) (fun s2 m2 => hq s2 ?_)) ho⟩
        · obtain ⟨e, rfl⟩ : ∃ e, d = e + 1 := ⟨d - 1, by omega⟩
          refine x_open (z := 25) hN nj hx (Or.inl ⟨rfl, w5⟩) (fun w => absurd w o8) (fun _ _ s1 h1 => hX e σ0 s1 c _ (by omega) h1 (by omega) (fun σ' h2 => ev_pi_mk (xs_emit (x := 9) (y := 0) h2 (by simp; omega) (Or.inr (by omega)) (by rfl) (fun σ2 h3 => ⟨Or.inr rfl, hq σ2 ?_⟩)))) (fun _ w => absurd w (by omega)) ho
          rw [List.append_assoc] at h3; exact h3
        · rw [show o + 1 - (q + 1) = o - q by omega] at m2
          rw [List.append_assoc]
          exact m2
  · by_cases w4 : isS (kT b L) (kV b L) 40 j
    · have nj := isS_n hN w4
      by_cases o8 : o = 8
      · refine Or.inl ⟨3, j, fun d σ0 σ c Q hd hx hl hq => ?_, fun d s0 s c P q a Q hm hP hq1 ha hp hl hq => m_open (t := 0) hm (Or.inr ⟨rfl, w4⟩) (by simp; omega) ha (fun _ => hq) (fun w => absurd w (by omega)) ho⟩
        obtain ⟨e, rfl⟩ : ∃ e, d = e + 1 := ⟨d - 1, by omega⟩
        exact x_open (z := 140) hN nj hx (Or.inr ⟨rfl, w4⟩) (fun _ => hq) (fun w => absurd w (by omega)) (fun w => absurd w (by omega)) ho
      · have ho1 : o < 8 := by omega
        have xc : ∀ (e : Nat) (s1 : ev_S) (R : Option ev_V → ev_S → Prop), rdC (e + 1) (o + 1) 0 1 0 s1 R → Ev layX M_X8_readCondition (e + 1) 0 [(0, ev_r 137), (1, ev_i ((o + 1 : Nat) : Int))] [] s1 R := fun e s1 R h => wp_X8_readCondition_0 (wp_X8_readCondition_4 ⟨fun q => absurd q (by omega), fun _ => ⟨fun q => absurd q (by omega), fun _ => h⟩⟩)
        rcases (ih (j + 1) (by omega) (by omega) (o + 1) (by omega)).2 0 0 (by omega) (by omega) with ⟨k, i, hX, hM⟩ | ⟨j', cs, g1, g2, g3, g4, hX, hM⟩
        · refine Or.inl ⟨k, i, fun d σ0 σ c Q hd hx hl hq => ?_, fun d s0 s c P q a Q hm hP hq1 ha hp hl hq => m_open (t := 0) hm (Or.inr ⟨rfl, w4⟩) (by simp; omega) ha (fun w => absurd w o8) (fun _ s' m' => hM d s0 s' c (12 :: (List.replicate q 9 ++ P)) (a + 1) Q m' ⟨by simp, by simp, by simp⟩ (by omega) (by simp; omega) (by omega) hq) ho⟩
          obtain ⟨e, rfl⟩ : ∃ e, d = e + 2 := ⟨d - 2, by omega⟩
          exact x_open (z := 140) hN nj hx (Or.inr ⟨rfl, w4⟩) (fun w => absurd w o8) (fun _ w => absurd rfl w) (fun _ _ s1 h1 => xc e s1 _ (hX (e + 1) σ0 s1 c 0 0 _ (by omega) h1 (by omega) (Or.inl ⟨rfl, rfl⟩) (Or.inl ⟨rfl, rfl⟩) (by omega) (by omega) (fun σ' hF => ev_pi_mk ⟨fun _ => hq σ' hF, fun w => absurd rfl w⟩))) ho
        · by_cases wc : isS (kT b L) (kV b L) 41 j'
          · have nj2 := isS_n hN wc
            refine Or.inr ⟨j' + 1, cs, by omega, by omega, by omega, SG_mono g4 (by omega), fun d σ0 σ c Q hd hx hl hq => ?_, fun d s0 s c P q a Q hm hP hq1 ha hp hl hq => m_open (t := 0) hm (Or.inr ⟨rfl, w4⟩) (by simp; omega) ha (fun w => absurd w o8) (fun _ s' m' => hM d s0 s' c (12 :: (List.replicate q 9 ++ P)) (a + 1) Q m' ⟨by simp, by simp, by simp⟩ (by omega) (by simp; omega) (by omega) (fun s2 m2 => ⟨fun _ => sp_isSign m2.1 (fun _ => ev_pi_mk ⟨fun _ => ?_, fun w => absurd w (by omega)⟩) (fun w => absurd wc w), fun w => absurd w (by omega)⟩)) ho⟩
            · obtain ⟨e, rfl⟩ : ∃ e, d = e + 2 := ⟨d - 2, by omega⟩
              exact x_open (z := 140) hN nj hx (Or.inr ⟨rfl, w4⟩) (fun w => absurd w o8) (fun _ w => absurd rfl w) (fun _ _ s1 h1 => xc e s1 _ (hX (e + 1) σ0 s1 c 0 0 _ (by omega) h1 (by omega) (Or.inl ⟨rfl, rfl⟩) (Or.inl ⟨rfl, rfl⟩) (by omega) (by omega) (fun σ' h2 => ev_pi_mk ⟨fun w => absurd w (by omega), fun _ => sp_takesS (c := 41) hN h2.1 (by omega) (by omega) (by rfl) ⟨fun w => absurd wc w, fun _ => ev_pi_mk ⟨fun w => absurd w (by omega), fun _ => hq _ (xls_adv h2)⟩⟩⟩))) ho
            · have e34 : ev_sub (s2 0 34) 1 = (((List.replicate q (9 : Int) ++ P).length : Nat) : Int) := by
                rw [m2.2.2.2.2.2.2.2.1, List.length_cons]
                have : (List.replicate q (9 : Int) ++ P).length = q + P.length := by simp
                rw [ev_sub_eq ⟨by omega, by omega⟩]; omega
              have m3 := mz_pop m2 rfl
              rw [e34]
              rintro _ rfl
              have e32 : ev_sub (((o + 1 : Nat) : Int)) 1 = (o : Int) := by rw [ev_sub_eq ⟨by omega, by omega⟩]; omega
              rw [m3.2.2.2.2.2.2.1, e32, ev_sub_eq (x := ((a + 1 : Nat) : Int)) ⟨by omega, by omega⟩, show ((a + 1 : Nat) : Int) - 1 = (a : Int) by omega]
              rintro _ rfl
              have m4 := mz_up (o' := o) (z := (o : Int)) m3 (Or.inr ⟨rfl, rfl, rfl⟩)
              refine mz_settles hP q (o - q) (c ++ cs) _ (by rw [if_pos rfl, show o - q + q = o by omega]; exact m4) (by omega) (by omega) (by simp; omega) (fun s5 m5 => mz_rd m5 (fun s6 m6 => hq s6 ?_))
              rw [List.append_assoc] at m6; exact m6
          · refine Or.inl ⟨1, j', fun d σ0 σ c Q hd hx hl hq => ?_, fun d s0 s c P q a Q hm hP hq1 ha hp hl hq => m_open (t := 0) hm (Or.inr ⟨rfl, w4⟩) (by simp; omega) ha (fun w => absurd w o8) (fun _ s' m' => hM d s0 s' c (12 :: (List.replicate q 9 ++ P)) (a + 1) Q m' ⟨by simp, by simp, by simp⟩ (by omega) (by simp; omega) (by omega) (fun s2 m2 => ⟨fun _ => sp_isSign m2.1 (fun w => absurd w wc) (fun _ => ev_pi_mk ⟨fun w => absurd rfl w, fun _ => sp_errs (k := 1) m2.1 (ev_pi_mk (hq _ (FM_ers m2.2.1)))⟩), fun w => absurd w (by omega)⟩)) ho⟩
            obtain ⟨e, rfl⟩ : ∃ e, d = e + 2 := ⟨d - 2, by omega⟩
            exact x_open (z := 140) hN nj hx (Or.inr ⟨rfl, w4⟩) (fun w => absurd w o8) (fun _ w => absurd rfl w) (fun _ _ s1 h1 => xc e s1 _ (hX (e + 1) σ0 s1 c 0 0 _ (by omega) h1 (by omega) (Or.inl ⟨rfl, rfl⟩) (Or.inl ⟨rfl, rfl⟩) (by omega) (by omega) (fun σ' h2 => ev_pi_mk ⟨fun w => absurd w (by omega), fun _ => sp_takesS (c := 41) hN h2.1 (by omega) (by omega) (by rfl) ⟨fun _ => ev_pi_mk ⟨fun _ => hq _ (xls_ft h2), fun w => absurd rfl w⟩, fun w => absurd w wc⟩⟩))) ho
    · have ma : ∀ (d : Nat) (s0 s : ev_S) (c : List (Int × Int)) (P : List Int) (a : Nat) (Q : Option ev_V → ev_S → Prop), mz b L s0 c P o s j → Ev layM M_X12_readCompared (d + 6) 0 [(0, ev_r 0)] [] s (ev_pi (fun r27 s26 => ((r27 ≠ (-1) → (Ev layM M_X12_settles (d + 6) 0 [(0, ev_r 0), (1, ev_i 9)] [] s26 (fun _ s28 => rdA d a 0 s28 Q))) ∧ (r27 = (-1) → Q (some (ev_i (-1))) s26)))) → rdA d a 1 s Q := fun d s0 s c P a Q hm h => wp_X12_readAny_9 ⟨fun q => absurd q (by omega), fun _ => sp_isWord hm.1 (fun w => absurd w w5) (fun _ => ev_pi_mk ⟨fun w => absurd rfl w, fun _ => sp_isSign hm.1 (fun w => absurd w w4) (fun _ => ev_pi_mk ⟨fun _ => h, fun w => absurd rfl w⟩)⟩)⟩
      rcases both_cp hN hj w5 w4 with ⟨k, i, hX, hM⟩ | ⟨j', cs, g1, g2, g3, g4, hX, hM⟩
      · refine Or.inl ⟨k, i, fun d σ0 σ c Q hd hx hl hq => ?_, fun d s0 s c P q a Q hm hP hq1 ha hp hl hq => ma d s0 s c _ a Q hm (hM d s s c _ (mz_ml hm) (by omega) (fun s' hF => ev_pi_mk ⟨fun w => absurd rfl w, fun _ => hq s' (mz_FM hm hF)⟩))⟩
        obtain ⟨e, rfl⟩ : ∃ e, d = e + 3 := ⟨d - 3, by omega⟩
        exact hX e σ0 σ _ c Q hx hl hq
      · refine Or.inr ⟨j', cs, g1, g2, g3, SG_mono g4 (by omega), fun d σ0 σ c Q hd hx hl hq => ?_, fun d s0 s c P q a Q hm hP hq1 ha hp hl hq => ma d s0 s c _ a Q hm (hM d s s c _ (mz_ml hm) (by omega) (fun s' m' => ev_pi_mk ⟨fun _ => mz_settles hP q (o - q) (c ++ cs) s' (by rw [if_pos rfl, show o - q + q = o by omega]; exact mz_of hm m') (by omega) (by omega) (by simp; omega) (fun s2 m2 => hq s2 ?_), fun w => absurd w (by omega)⟩))⟩
        · obtain ⟨e, rfl⟩ : ∃ e, d = e + 3 := ⟨d - 3, by omega⟩
          exact hX e σ0 σ _ c Q hx hl hq
        · rw [List.append_assoc] at m2; exact m2
end
