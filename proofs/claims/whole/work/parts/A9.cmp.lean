section
/-! THE LAW: sums and comparisons, both sides -/
def smXE (b : Nat → Int) (L n j k i : Nat) : Prop := ∀ (d : Nat) (σ0 σ : ev_S) (a : Nat) (c : List (Int × Int)) (Q : Option ev_V → ev_S → Prop), xls b L n σ0 c σ j → c.length + 2 ≤ j → a + 1 ≤ j → (∀ σ', FL b L σ0 k i σ' → Q (some (ev_i 0)) σ') → Ev layX M_X8_readSum (d + 2) 120 [(0, ev_r 137), (3, ev_i (a : Int))] [] σ Q
def smXO (b : Nat → Int) (L n j j' : Nat) (cs : List (Int × Int)) : Prop := ∀ (d : Nat) (σ0 σ : ev_S) (a : Nat) (c : List (Int × Int)) (Q : Option ev_V → ev_S → Prop), xls b L n σ0 c σ j → c.length + 2 ≤ j → a + 1 ≤ j → (∀ σ', xls b L n σ0 (c ++ cs) σ' j' → Q (some (ev_i 1)) σ') → Ev layX M_X8_readSum (d + 2) 120 [(0, ev_r 137), (3, ev_i (a : Int))] [] σ Q
def smME (b : Nat → Int) (L j k i : Nat) : Prop := ∀ (d : Nat) (s0 s : ev_S) (c : List (Int × Int)) (Q : Option ev_V → ev_S → Prop), mls b L s0 c s j → c.length + 2 ≤ j → (∀ s', FM b L s0 k i s' → Q (some (ev_i (-1))) s') → Ev layM M_X12_readSum (d + 5) 10 [(0, ev_r 0)] [] s Q
def smMO (b : Nat → Int) (L j j' : Nat) (cs : List (Int × Int)) : Prop := ∀ (d : Nat) (s0 s : ev_S) (c : List (Int × Int)) (Q : Option ev_V → ev_S → Prop), mls b L s0 c s j → c.length + 2 ≤ j → (∀ s', mls b L s0 (c ++ cs) s' j' → Q (some (ev_i 0)) s') → Ev layM M_X12_readSum (d + 5) 10 [(0, ev_r 0)] [] s Q
def isPM (T V : Nat → Int) (j : Nat) : Prop := isS T V 43 j ∨ isS T V 45 j
theorem isPM_n {b : Nat → Int} {L n j : Nat} (hN : EN b L n) (h : isPM (kT b L) (kV b L) j) : j < n := by rcases h with h | h <;> exact isS_n hN h
theorem sm_done {b : Nat → Int} {L n j : Nat} (h : ¬ isPM (kT b L) (kV b L) j) : smXO b L n j j [] ∧ smMO b L j j [] := by
  have h1 : ¬ isS (kT b L) (kV b L) 43 j := fun q => h (Or.inl q)
  have h2 : ¬ isS (kT b L) (kV b L) 45 j := fun q => h (Or.inr q)
  refine ⟨fun d σ0 σ a c Q hx hl ha hq => wp_X8_readSum_120 ?_, fun d s0 s c Q hm hl hq => ?_⟩
  · rw [hx.1.2.1]
    exact ⟨fun q => absurd ((kks (c := 43) (by omega) (by rfl)).mp q) h1, fun _ => ⟨fun q => absurd ((kks (c := 45) (by omega) (by rfl)).mp q) h2, fun _ => hq σ (by rw [List.append_nil]; exact hx)⟩⟩
  · exact wp_X12_readSum_10 (sp_isSign hm.1 (fun q => absurd q h1) (fun _ => ev_pi_mk ⟨fun q => absurd rfl q, fun _ => sp_isSign hm.1 (fun q => absurd q h2) (fun _ => ev_pi_mk ⟨fun _ => hq s (by rw [List.append_nil]; exact hm), fun q => absurd rfl q⟩)⟩))
/-- a plus or a minus, then what comes -/
theorem sm_go {b : Nat → Int} {L n j : Nat} (hN : EN b L n) (h : isPM (kT b L) (kV b L) j) : ∃ x : Int, (2 ≤ x ∧ x ≤ 3) ∧ (∀ (d : Nat) (σ0 σ : ev_S) (a : Nat) (c : List (Int × Int)) (Q : Option ev_V → ev_S → Prop), xls b L n σ0 c σ j → c.length + 2 ≤ j → a + 1 ≤ j → (¬ isU (kT b L) (kV b L) (j + 1) → ∀ σ', FL b L σ0 1 (j + 1) σ' → Q (some (ev_i 0)) σ') → (isU (kT b L) (kV b L) (j + 1) → ∀ σ', xls b L n σ0 (c ++ [uc (kT b L) (kV b L) (j + 1)]) σ' (j + 2) → Ev layX M_X8_readSum (d + 2) 9 [(0, ev_r 137), (1, ev_i (x + 8)), (2, ev_i 1), (3, ev_i ((a + 1 : Nat) : Int))] [] σ' Q) → Ev layX M_X8_readSum (d + 2) 120 [(0, ev_r 137), (3, ev_i (a : Int))] [] σ Q) ∧ (∀ (d : Nat) (s0 s : ev_S) (c : List (Int × Int)) (Q : Option ev_V → ev_S → Prop), mls b L s0 c s j → c.length + 2 ≤ j → (¬ isU (kT b L) (kV b L) (j + 1) → ∀ s', FM b L s0 1 (j + 1) s' → Q (some (ev_i (-1))) s') → (isU (kT b L) (kV b L) (j + 1) → ∀ s', mls b L s0 (c ++ [uc (kT b L) (kV b L) (j + 1)]) s' (j + 2) → Ev layM M_X12_readProduct (d + 4) 10 [(0, ev_r 0)] [] s' (ev_pi (fun r3 s2 => ((r3 ≠ (-1) → (Ev layM M_X12_emits (d + 4) 0 [(0, ev_r 0), (1, ev_i x), (2, ev_i 0)] [] s2 (fun _ s4 => Ev layM M_X12_readSum (d + 5) 10 [(0, ev_r 0)] [] s4 Q))) ∧ (r3 = (-1) → Q (some (ev_i (-1))) s2))))) → Ev layM M_X12_readSum (d + 5) 10 [(0, ev_r 0)] [] s Q) := by
  have hn := hN.1
  have nj := isPM_n hN h
  have xgo : ∀ (x : Int) (d : Nat) (σ0 σ : ev_S) (a : Nat) (c : List (Int × Int)) (Q : Option ev_V → ev_S → Prop), xls b L n σ0 c σ j → c.length + 2 ≤ j → a + 1 ≤ j → (¬ isU (kT b L) (kV b L) (j + 1) → ∀ σ', FL b L σ0 1 (j + 1) σ' → Q (some (ev_i 0)) σ') → (isU (kT b L) (kV b L) (j + 1) → ∀ σ', xls b L n σ0 (c ++ [uc (kT b L) (kV b L) (j + 1)]) σ' (j + 2) → Ev layX M_X8_readSum (d + 2) 9 [(0, ev_r 137), (1, ev_i x), (2, ev_i 1), (3, ev_i ((a + 1 : Nat) : Int))] [] σ' Q) → Ev layX M_X8_readSum (d + 2) 159 [(0, ev_r 137), (3, ev_i (a : Int))] [ev_i x] σ Q := by
    intro x d σ0 σ a c Q hx hl ha h0 h1
    refine wp_X8_readSum_159 (sp_advance hN hx.1 (by omega) ?_)
    rw [ev_add_eq ⟨by omega, by omega⟩, show (a : Int) + 1 = ((a + 1 : Nat) : Int) by omega]
    exact sp_xunit hN (xls_adv hx) (by omega) (fun u σ' hF => ev_pi_mk (xs9_bad (h0 u σ' hF))) (fun u σ' hx2 => ev_pi_mk (h1 u σ' hx2))
  have mgo : ∀ (x : Int) (d : Nat) (s0 s : ev_S) (c : List (Int × Int)) (Q : Option ev_V → ev_S → Prop), mls b L s0 c s j → c.length + 2 ≤ j → (¬ isU (kT b L) (kV b L) (j + 1) → ∀ s', FM b L s0 1 (j + 1) s' → Q (some (ev_i (-1))) s') → (isU (kT b L) (kV b L) (j + 1) → ∀ s', mls b L s0 (c ++ [uc (kT b L) (kV b L) (j + 1)]) s' (j + 2) → Ev layM M_X12_readProduct (d + 4) 10 [(0, ev_r 0)] [] s' (ev_pi (fun r3 s2 => ((r3 ≠ (-1) → (Ev layM M_X12_emits (d + 4) 0 [(0, ev_r 0), (1, ev_i x), (2, ev_i 0)] [] s2 (fun _ s4 => Ev layM M_X12_readSum (d + 5) 10 [(0, ev_r 0)] [] s4 Q))) ∧ (r3 = (-1) → Q (some (ev_i (-1))) s2))))) → Ev layM M_X12_readSum (d + 5) 42 [(0, ev_r 0)] [ev_i x] s Q := by
    intro x d s0 s c Q hm hl h0 h1
    exact wp_X12_readSum_42 (ms_rd hm (fun s1 m1 => wp_X12_readProduct_0 (sp_munit m1 (by omega) (fun u s' hF => ev_pi_mk ⟨fun q => absurd rfl q, fun _ => ev_pi_mk ⟨fun q => absurd rfl q, fun _ => h0 u s' hF⟩⟩) (fun u s' m2 => ev_pi_mk ⟨fun _ => h1 u s' m2, fun q => absurd q (by omega)⟩))))
  by_cases s1 : isS (kT b L) (kV b L) 43 j
  · refine ⟨2, by omega, fun d σ0 σ a c Q hx hl ha h0 h1 => wp_X8_readSum_120 ?_, fun d s0 s c Q hm hl h0 h1 => wp_X12_readSum_10 (sp_isSign hm.1 (fun _ => ev_pi_mk ⟨fun _ => ?_, fun q => absurd q (by omega)⟩) (fun q => absurd s1 q))⟩
    · rw [hx.1.2.1, (kks (z := 143) (c := 43) (by omega) (by rfl)).mpr s1]
      exact ⟨fun _ => ⟨fun q => absurd rfl q, fun _ => xgo 10 d σ0 σ a c Q hx hl ha h0 h1⟩, fun q => absurd rfl q⟩
    · rw [hm.1.2.2.2.1 (by rw [s1.1]; omega), s1.2]
      exact ⟨fun q => absurd rfl q, fun _ => mgo 2 d s0 s c Q hm hl h0 h1⟩
  · have s2 : isS (kT b L) (kV b L) 45 j := by rcases h with h | h; exact absurd h s1; exact h
    refine ⟨3, by omega, fun d σ0 σ a c Q hx hl ha h0 h1 => wp_X8_readSum_120 ?_, fun d s0 s c Q hm hl h0 h1 => wp_X12_readSum_10 (sp_isSign hm.1 (fun q => absurd q s1) (fun _ => ev_pi_mk ⟨fun q => absurd rfl q, fun _ => sp_isSign hm.1 (fun _ => ev_pi_mk ⟨fun q => absurd q (by omega), fun _ => ?_⟩) (fun q => absurd s2 q)⟩))⟩
    · rw [hx.1.2.1, (kks (z := 145) (c := 45) (by omega) (by rfl)).mpr s2]
      exact ⟨fun q => absurd q (by omega), fun _ => ⟨fun _ => ⟨fun _ => xgo 11 d σ0 σ a c Q hx hl ha h0 h1, fun q => absurd q (by omega)⟩, fun q => absurd rfl q⟩⟩
    · rw [hm.1.2.2.2.1 (by rw [s2.1]; omega), s2.2]
      exact ⟨fun _ => mgo 3 d s0 s c Q hm hl h0 h1, fun q => absurd q (by omega)⟩
theorem both_sm {b : Nat → Int} {L n : Nat} (hN : EN b L n) : ∀ m j, n ≤ j + m → j ≤ n → (∃ k i, smXE b L n j k i ∧ smME b L j k i) ∨ (∃ j' cs, j ≤ j' ∧ j' ≤ n ∧ List.length cs ≤ j' - j ∧ SG 1 false cs 3 ∧ smXO b L n j j' cs ∧ smMO b L j j' cs) := by
  have hn := hN.1
  intro m
  induction m with
  | zero =>
    intro j h1 h2
    have e := EN_ge hN (j := j) (by omega)
    obtain ⟨g1, g2⟩ := sm_done (n := n) (b := b) (L := L) (j := j) (fun q => by rcases q with q | q <;> have := q.1 <;> omega)
    exact Or.inr ⟨j, [], Nat.le_refl _, h2, by simp, SG_nil, g1, g2⟩
  | succ m ih =>
    intro j h1 h2
    by_cases s1 : isPM (kT b L) (kV b L) j
    · have nj := isPM_n hN s1
      obtain ⟨x, hxr, xs, ms⟩ := sm_go hN s1
      by_cases u : isU (kT b L) (kV b L) (j + 1)
      · have nu := isU_n hN u
        rcases both_pt hN n (j + 2) (by omega) (by omega) with ⟨k, i, hX, hM⟩ | ⟨j1, cs1, p1, p2, p3, p4, hX, hM⟩
        · exact Or.inl ⟨k, i, fun d σ0 σ a c Q hx hl ha hq => xs d σ0 σ a c Q hx hl ha (fun q => absurd u q) (fun _ σ' hx2 => hX d σ0 σ' _ (a + 1) _ Q hx2 (by simp; omega) (by omega) hq), fun d s0 s c Q hm hl hq => ms d s0 s c Q hm hl (fun q => absurd u q) (fun _ s' hm2 => hM d s0 s' _ _ hm2 (by simp; omega) (fun s3 hF => ev_pi_mk ⟨fun q => absurd rfl q, fun _ => hq s3 hF⟩))⟩
        · have xone : ∀ (d : Nat) (σ0 σ : ev_S) (a : Nat) (c : List (Int × Int)) (Q : Option ev_V → ev_S → Prop), xls b L n σ0 c σ j → c.length + 2 ≤ j → a + 1 ≤ j → (∀ σ' a', xls b L n σ0 (c ++ ([uc (kT b L) (kV b L) (j + 1)] ++ cs1 ++ [(x, 0)])) σ' j1 → a' + 1 ≤ j1 → Ev layX M_X8_readSum (d + 2) 120 [(0, ev_r 137), (3, ev_i ((a' : Nat) : Int))] [] σ' Q) → Ev layX M_X8_readSum (d + 2) 120 [(0, ev_r 137), (3, ev_i (a : Int))] [] σ Q := by
            intro d σ0 σ a c Q hx hl ha hq
            refine xs d σ0 σ a c Q hx hl ha (fun q => absurd u q) (fun _ σ' hx2 => hX d σ0 σ' _ (a + 1) _ Q hx2 (by simp; omega) (by omega) (fun σ3 a' hx3 ha' => ⟨fun q => absurd q (by omega), fun _ => xs_emit (x := x) (y := 0) hx3 (by simp; omega) (Or.inr hxr.1) (by rw [if_neg (by omega)]) (fun σ4 hx4 => hq σ4 a' ?_ ha')⟩))
            simp only [List.append_assoc] at hx4 ⊢
            exact hx4
          have mone : ∀ (d : Nat) (s0 s : ev_S) (c : List (Int × Int)) (Q : Option ev_V → ev_S → Prop), mls b L s0 c s j → c.length + 2 ≤ j → (∀ s', mls b L s0 (c ++ ([uc (kT b L) (kV b L) (j + 1)] ++ cs1 ++ [(x, 0)])) s' j1 → Ev layM M_X12_readSum (d + 5) 10 [(0, ev_r 0)] [] s' Q) → Ev layM M_X12_readSum (d + 5) 10 [(0, ev_r 0)] [] s Q := by
            intro d s0 s c Q hm hl hq
            refine ms d s0 s c Q hm hl (fun q => absurd u q) (fun _ s' hm2 => hM d s0 s' _ _ hm2 (by simp; omega) (fun s3 hm3 => ev_pi_mk ⟨fun _ => ms_emits hm3 (by simp; omega) (fun s4 hm4 => hq s4 ?_), fun q => absurd q (by omega)⟩))
            simp only [List.append_assoc] at hm4 ⊢
            exact hm4
          rcases ih j1 (by omega) p2 with ⟨k, i, hX2, hM2⟩ | ⟨j', cs, g1, g2, g3, g4, hX2, hM2⟩
          · exact Or.inl ⟨k, i, fun d σ0 σ a c Q hx hl ha hq => xone d σ0 σ a c Q hx hl ha (fun σ' a' hx4 ha' => hX2 d σ0 σ' a' _ Q hx4 (by simp; omega) ha' hq), fun d s0 s c Q hm hl hq => mone d s0 s c Q hm hl (fun s' hm4 => hM2 d s0 s' _ Q hm4 (by simp; omega) hq)⟩
          · refine Or.inr ⟨j', ([uc (kT b L) (kV b L) (j + 1)] ++ cs1) ++ (x, 0) :: cs, by omega, g2, by simp; omega, SG_tail (SG_cat (uc_SG u) p4 (by omega)) g4 (Or.inl ⟨rfl, by omega, by omega⟩), fun d σ0 σ a c Q hx hl ha hq => xone d σ0 σ a c Q hx hl ha (fun σ' a' hx4 ha' => hX2 d σ0 σ' a' _ Q hx4 (by simp; omega) ha' (fun σ5 hx5 => hq σ5 ?_)), fun d s0 s c Q hm hl hq => mone d s0 s c Q hm hl (fun s' hm4 => hM2 d s0 s' _ Q hm4 (by simp; omega) (fun s5 hm5 => hq s5 ?_))⟩
            · simp only [List.append_assoc] at hx5 ⊢; exact hx5
            · simp only [List.append_assoc] at hm5 ⊢; exact hm5
      · exact Or.inl ⟨1, j + 1, fun d σ0 σ a c Q hx hl ha hq => xs d σ0 σ a c Q hx hl ha (fun _ => hq) (fun q => absurd q u), fun d s0 s c Q hm hl hq => ms d s0 s c Q hm hl (fun _ => hq) (fun q => absurd q u)⟩
    · obtain ⟨g1, g2⟩ := sm_done (n := n) s1
      exact Or.inr ⟨j, [], Nat.le_refl _, h2, by simp, SG_nil, g1, g2⟩
/-- a whole sum -/
def suXE (b : Nat → Int) (L n j k i : Nat) : Prop := ∀ (d : Nat) (σ0 σ : ev_S) (c : List (Int × Int)) (Q : Option ev_V → ev_S → Prop), xls b L n σ0 c σ j → c.length + 2 ≤ j → (∀ σ', FL b L σ0 k i σ' → Q (some (ev_i 0)) σ') → Ev layX M_X8_readSum (d + 2) 0 [(0, ev_r 137)] [] σ Q
def suXO (b : Nat → Int) (L n j j' : Nat) (cs : List (Int × Int)) : Prop := ∀ (d : Nat) (σ0 σ : ev_S) (c : List (Int × Int)) (Q : Option ev_V → ev_S → Prop), xls b L n σ0 c σ j → c.length + 2 ≤ j → (∀ σ', xls b L n σ0 (c ++ cs) σ' j' → Q (some (ev_i 1)) σ') → Ev layX M_X8_readSum (d + 2) 0 [(0, ev_r 137)] [] σ Q
def suME (b : Nat → Int) (L j k i : Nat) : Prop := ∀ (d : Nat) (s0 s : ev_S) (c : List (Int × Int)) (Q : Option ev_V → ev_S → Prop), mls b L s0 c s j → c.length + 2 ≤ j → (∀ s', FM b L s0 k i s' → Q (some (ev_i (-1))) s') → Ev layM M_X12_readSum (d + 5) 0 [(0, ev_r 0)] [] s Q
def suMO (b : Nat → Int) (L j j' : Nat) (cs : List (Int × Int)) : Prop := ∀ (d : Nat) (s0 s : ev_S) (c : List (Int × Int)) (Q : Option ev_V → ev_S → Prop), mls b L s0 c s j → c.length + 2 ≤ j → (∀ s', mls b L s0 (c ++ cs) s' j' → Q (some (ev_i 0)) s') → Ev layM M_X12_readSum (d + 5) 0 [(0, ev_r 0)] [] s Q
theorem both_su {b : Nat → Int} {L n : Nat} (hN : EN b L n) {j : Nat} (hj : j ≤ n) : (∃ k i, suXE b L n j k i ∧ suME b L j k i) ∨ (∃ j' cs, j < j' ∧ j' ≤ n ∧ List.length cs ≤ j' - j ∧ SG 0 false cs 3 ∧ suXO b L n j j' cs ∧ suMO b L j j' cs) := by
  have hn := hN.1
  by_cases u : isU (kT b L) (kV b L) j
  · have nu := isU_n hN u
    have xone : ∀ (d : Nat) (σ0 σ : ev_S) (c : List (Int × Int)) (Q : Option ev_V → ev_S → Prop), xls b L n σ0 c σ j → c.length + 2 ≤ j → (∀ σ', xls b L n σ0 (c ++ [uc (kT b L) (kV b L) j]) σ' (j + 1) → Ev layX M_X8_readSum (d + 2) 9 [(0, ev_r 137), (1, ev_i (-1)), (2, ev_i 1), (3, ev_i ((0 : Nat) : Int))] [] σ' Q) → Ev layX M_X8_readSum (d + 2) 0 [(0, ev_r 137)] [] σ Q := fun d σ0 σ c Q hx hl hq => wp_X8_readSum_0 (sp_xunit hN hx (by omega) (fun q => absurd u q) (fun _ σ' hx2 => ev_pi_mk (hq σ' hx2)))
    have mone : ∀ (d : Nat) (s0 s : ev_S) (c : List (Int × Int)) (Q : Option ev_V → ev_S → Prop), mls b L s0 c s j → c.length + 2 ≤ j → (∀ s', mls b L s0 (c ++ [uc (kT b L) (kV b L) j]) s' (j + 1) → Ev layM M_X12_readProduct (d + 4) 10 [(0, ev_r 0)] [] s' (ev_pi (fun r2 s1 => ((r2 ≠ (-1) → Ev layM M_X12_readSum (d + 5) 10 [(0, ev_r 0)] [] s1 Q) ∧ (r2 = (-1) → Q (some (ev_i (-1))) s1))))) → Ev layM M_X12_readSum (d + 5) 0 [(0, ev_r 0)] [] s Q := fun d s0 s c Q hm hl hq => wp_X12_readSum_0 (wp_X12_readProduct_0 (sp_munit hm (by omega) (fun q => absurd u q) (fun _ s' m2 => ev_pi_mk ⟨fun _ => hq s' m2, fun q => absurd q (by omega)⟩)))
    rcases both_pt hN n (j + 1) (by omega) (by omega) with ⟨k, i, hX, hM⟩ | ⟨j1, cs1, p1, p2, p3, p4, hX, hM⟩
    · exact Or.inl ⟨k, i, fun d σ0 σ c Q hx hl hq => xone d σ0 σ c Q hx hl (fun σ' hx2 => hX d σ0 σ' _ 0 _ Q hx2 (by simp; omega) (by omega) hq), fun d s0 s c Q hm hl hq => mone d s0 s c Q hm hl (fun s' hm2 => hM d s0 s' _ _ hm2 (by simp; omega) (fun s3 hF => ev_pi_mk ⟨fun q => absurd rfl q, fun _ => hq s3 hF⟩))⟩
    · rcases both_sm hN n j1 (by omega) p2 with ⟨k, i, hX2, hM2⟩ | ⟨j', cs, g1, g2, g3, g4, hX2, hM2⟩
      · exact Or.inl ⟨k, i, fun d σ0 σ c Q hx hl hq => xone d σ0 σ c Q hx hl (fun σ' hx2 => hX d σ0 σ' _ 0 _ Q hx2 (by simp; omega) (by omega) (fun σ3 a' hx3 ha' => ⟨fun _ => hX2 d σ0 σ3 a' _ Q hx3 (by simp; omega) ha' hq, fun q => absurd rfl q⟩)), fun d s0 s c Q hm hl hq => mone d s0 s c Q hm hl (fun s' hm2 => hM d s0 s' _ _ hm2 (by simp; omega) (fun s3 hm3 => ev_pi_mk ⟨fun _ => hM2 d s0 s3 _ Q hm3 (by simp; omega) hq, fun q => absurd q (by omega)⟩))⟩
      · refine Or.inr ⟨j', ([uc (kT b L) (kV b L) j] ++ cs1) ++ cs, by omega, g2, by simp; omega, SG_cat (SG_cat (uc_SG u) p4 (by omega)) g4 (by omega), fun d σ0 σ c Q hx hl hq => xone d σ0 σ c Q hx hl (fun σ' hx2 => hX d σ0 σ' _ 0 _ Q hx2 (by simp; omega) (by omega) (fun σ3 a' hx3 ha' => ⟨fun _ => hX2 d σ0 σ3 a' _ Q hx3 (by simp; omega) ha' (fun σ5 hx5 => hq σ5 ?_), fun q => absurd rfl q⟩)), fun d s0 s c Q hm hl hq => mone d s0 s c Q hm hl (fun s' hm2 => hM d s0 s' _ _ hm2 (by simp; omega) (fun s3 hm3 => ev_pi_mk ⟨fun _ => hM2 d s0 s3 _ Q hm3 (by simp; omega) (fun s5 hm5 => hq s5 ?_), fun q => absurd q (by omega)⟩))⟩
        · simp only [List.append_assoc] at hx5 ⊢; exact hx5
        · simp only [List.append_assoc] at hm5 ⊢; exact hm5
  · exact Or.inl ⟨1, j, fun d σ0 σ c Q hx hl hq => wp_X8_readSum_0 (sp_xunit hN hx (by omega) (fun _ σ' hF => ev_pi_mk (xs9_bad (a := 0) (hq σ' hF))) (fun q => absurd q u)), fun d s0 s c Q hm hl hq => wp_X12_readSum_0 (wp_X12_readProduct_0 (sp_munit hm (by omega) (fun _ s' hF => ev_pi_mk ⟨fun q => absurd rfl q, fun _ => ev_pi_mk ⟨fun q => absurd rfl q, fun _ => hq s' hF⟩⟩) (fun q => absurd q u)))⟩
end
