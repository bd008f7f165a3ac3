section
/-! THE LAW: units, products, sums, comparisons, both sides -/
def isU (T V : Nat → Int) (j : Nat) : Prop := T j = 3 ∨ (T j = 2 ∧ 6 ≤ V j ∧ V j ≤ 14)
noncomputable def uc (T V : Nat → Int) (j : Nat) : Int × Int := if T j = 3 then (0, V j) else (1, V j - 6)
theorem isU_n {b : Nat → Int} {L n j : Nat} (hN : EN b L n) (h : isU (kT b L) (kV b L) j) : j < n := EN_lt hN (by rcases h with h | h <;> omega)
theorem uc_SG {T V : Nat → Int} {j : Nat} (h : isU T V j) : SG 0 false [uc T V j] 1 := by
  unfold uc
  split
  · exact SG_unit (Or.inl rfl)
  · rcases h with h | h
    · exact absurd h ‹_›
    · exact SG_unit (Or.inr ⟨rfl, by omega, by omega⟩)
theorem sp_xunit {d n L j : Nat} {σ0 σ : ev_S} {b : Nat → Int} {c : List (Int × Int)} {Q : Option ev_V → ev_S → Prop} (hN : EN b L n) (hx : xls b L n σ0 c σ j) (hl : c.length < 400) (h0 : ¬ isU (kT b L) (kV b L) j → ∀ σ', FL b L σ0 1 j σ' → Q (some (ev_i 0)) σ') (h1 : isU (kT b L) (kV b L) j → ∀ σ', xls b L n σ0 (c ++ [uc (kT b L) (kV b L) j]) σ' (j + 1) → Q (some (ev_i 1)) σ') : Ev layX M_X8_readUnit (d + 1) 0 [(0, ev_r 137)] [] σ Q := by
  have hn := hN.1
  have hko := kT_ok (b := b) (L := L) (j := j)
  have ek : kk b L j = kdf (kT b L j) (kV b L j) := rfl
  refine wp_X8_readUnit_0 ?_
  rw [hx.1.2.1]
  have bad : ¬ isU (kT b L) (kV b L) j → Ev layX M_X8_faulty d 0 [(0, ev_r 137), (1, ev_i 1)] [] σ (ev_pi (fun r2 s1 => ((r2 = 0 ∨ r2 = 1) ∧ Q (some (ev_i r2)) s1))) := fun q => sp_faulty (k := 1) hN hx.1 (ev_pi_mk ⟨Or.inl rfl, h0 q _ (xls_ft hx)⟩)
  refine ⟨fun q => ⟨fun q2 => bad ?_, fun q2 => ⟨fun q3 => bad ?_, fun q3 => ?_⟩⟩, fun q => ?_⟩
  · rintro (u | u)
    · exact q (kk_num.mpr u)
    · rw [ek] at q2
      unfold kdf at q2
      rw [u.1, if_neg (by omega), if_neg (by omega), if_pos rfl, if_pos (by omega)] at q2
      omega
  · rintro (u | u)
    · exact q (kk_num.mpr u)
    · rw [ek] at q3
      unfold kdf at q3
      rw [u.1, if_neg (by omega), if_neg (by omega), if_pos rfl, if_pos (by omega)] at q3
      omega
  · have q4 : kT b L j = 2 ∧ kV b L j + 20 = kk b L j := by
      rw [ek] at q2 q3 ⊢
      unfold kdf at q2 q3 ⊢
      split at q2
      · omega
      · split at q2
        · omega
        · split at q2
          · rename_i w0 w1 w2
            rw [if_neg w0, if_neg w1, if_pos w2] at q3 ⊢
            split at q2
            · rename_i w3
              rw [if_pos w3]; exact ⟨w2, rfl⟩
            · omega
          · split at q2 <;> omega
    have u : isU (kT b L) (kV b L) j := Or.inr ⟨q4.1, by omega, by omega⟩
    have hj := isU_n hN u
    refine xs_emit (x := 1) (y := kV b L j - 6) hx hl (Or.inl rfl) (by rw [if_pos rfl, ev_sub_eq ⟨by omega, by omega⟩]; omega) (fun s5 h5 => sp_advance hN h5.1 (by omega) (h1 u _ ?_))
    have e : uc (kT b L) (kV b L) j = (1, kV b L j - 6) := if_neg (by omega)
    rw [e]
    exact xls_adv h5
  · have t3 := kk_num.mp q
    have u : isU (kT b L) (kV b L) j := Or.inl t3
    have hj := isU_n hN u
    refine xs_emit2 hx hl (fun s7 a1 a2 => sp_number hN a1 (fun r hr => ev_pi_mk (a2 r _ (fun _ s9 h9 => sp_advance hN h9.1 (by omega) (h1 u _ ?_)))))
    have e : uc (kT b L) (kV b L) j = (0, kV b L j) := if_pos t3
    rw [e, ← hr t3]
    exact xls_adv h9
theorem sp_munit {d L j : Nat} {s0 s : ev_S} {b : Nat → Int} {c : List (Int × Int)} {Q : Option ev_V → ev_S → Prop} (hm : mls b L s0 c s j) (hl : c.length < 400) (h0 : ¬ isU (kT b L) (kV b L) j → ∀ s', FM b L s0 1 j s' → Q (some (ev_i (-1))) s') (h1 : isU (kT b L) (kV b L) j → ∀ s', mls b L s0 (c ++ [uc (kT b L) (kV b L) j]) s' (j + 1) → Q (some (ev_i 0)) s') : Ev layM M_X12_readUnit (d + 3) 0 [(0, ev_r 0)] [] s Q := by
  have hko := kT_ok (b := b) (L := L) (j := j)
  have e22 := hm.1.2.2.1
  have bad : ∀ t : Int, t = 0 → kT b L j ≠ 3 → ¬ isU (kT b L) (kV b L) j → Ev layM M_X12_readUnit (d + 3) 28 [(0, ev_r 0)] [ev_i t] s Q := by
    intro t ht w u
    refine wp_X12_readUnit_28 ⟨fun q => absurd ht q, fun _ => ⟨fun q => absurd (by rw [← e22]; exact q) w, fun _ => sp_errs (k := 1) hm.1 (ev_pi_mk (h0 u _ (FM_ers hm.2.1)))⟩⟩
  have fin : ∀ x y : Int, isU (kT b L) (kV b L) j → uc (kT b L) (kV b L) j = (x, y) → Ev layM M_X12_readUnit (d + 3) 75 [(0, ev_r 0)] [ev_i y, ev_i x, ev_r 0] s Q := by
    intro x y u e
    refine wp_X12_readUnit_75 (ms_emits hm hl (fun s1 m1 => ms_rd m1 (fun s2 m2 => h1 u _ (by rw [e]; exact m2))))
  refine wp_X12_readUnit_0 ?_
  rw [e22]
  refine ⟨fun q => ?_, fun q => ?_⟩
  · by_cases t3 : kT b L j = 3
    · have u : isU (kT b L) (kV b L) j := Or.inl t3
      have e23 := hm.1.2.2.2.1 (by omega)
      refine wp_X12_readUnit_28 ⟨fun w => absurd rfl w, fun _ => ⟨fun _ => wp_X12_readUnit_47 ⟨fun _ => ⟨fun _ => ?_, fun w => absurd rfl w⟩, fun w => absurd rfl w⟩, fun w => absurd (by rw [e22]; exact t3) w⟩⟩
      rw [e23]
      exact fin 0 _ u (if_pos t3)
    · exact bad 0 rfl t3 (fun u => by rcases u with u | u <;> omega)
  · have e23 := hm.1.2.2.2.1 (by omega)
    rw [e23]
    refine sp_isIn (ev_pi_mk ⟨fun w => ?_, fun w => ?_⟩)
    · split at w
      · omega
      · exact bad 0 rfl (by omega) (fun u => by rcases u with u | u <;> omega)
    · split at w
      · have u : isU (kT b L) (kV b L) j := Or.inr ⟨q, by omega, by omega⟩
        refine wp_X12_readUnit_28 ⟨fun _ => wp_X12_readUnit_47 ⟨fun w => absurd w (by omega), fun _ => ⟨fun w => absurd w (by omega), fun _ => ?_⟩⟩, fun w => absurd w (by omega)⟩
        rw [e23, ev_sub_eq ⟨by omega, by omega⟩]
        exact fin 1 _ u (if_neg (by omega))
      · exact absurd rfl w
/-! products -/
def c120 (d : Nat) (w : Int) (a : Nat) (σ : ev_S) (Q : Option ev_V → ev_S → Prop) : Prop := (w = (-1) → Ev layX M_X8_readSum (d + 2) 120 [(0, ev_r 137), (3, ev_i (a : Int))] [] σ Q) ∧ (w ≠ (-1) → Ev layX M_X4_emit (d + 1) 0 [(0, ev_r 139), (1, ev_i w)] [] σ (fun _ s5 => Ev layX M_X8_readSum (d + 2) 120 [(0, ev_r 137), (3, ev_i (a : Int))] [] s5 Q))
def ptXE (b : Nat → Int) (L n j k i : Nat) : Prop := ∀ (d : Nat) (σ0 σ : ev_S) (w : Int) (a : Nat) (c : List (Int × Int)) (Q : Option ev_V → ev_S → Prop), xls b L n σ0 c σ j → c.length + 2 ≤ j → a + 1 ≤ j → (∀ σ', FL b L σ0 k i σ' → Q (some (ev_i 0)) σ') → Ev layX M_X8_readSum (d + 2) 9 [(0, ev_r 137), (1, ev_i w), (2, ev_i 1), (3, ev_i (a : Int))] [] σ Q
def ptXO (b : Nat → Int) (L n j j' : Nat) (cs : List (Int × Int)) : Prop := ∀ (d : Nat) (σ0 σ : ev_S) (w : Int) (a : Nat) (c : List (Int × Int)) (Q : Option ev_V → ev_S → Prop), xls b L n σ0 c σ j → c.length + 2 ≤ j → a + 1 ≤ j → (∀ σ' a', xls b L n σ0 (c ++ cs) σ' j' → a' + 1 ≤ j' → c120 d w a' σ' Q) → Ev layX M_X8_readSum (d + 2) 9 [(0, ev_r 137), (1, ev_i w), (2, ev_i 1), (3, ev_i (a : Int))] [] σ Q
def ptME (b : Nat → Int) (L j k i : Nat) : Prop := ∀ (d : Nat) (s0 s : ev_S) (c : List (Int × Int)) (Q : Option ev_V → ev_S → Prop), mls b L s0 c s j → c.length + 2 ≤ j → (∀ s', FM b L s0 k i s' → Q (some (ev_i (-1))) s') → Ev layM M_X12_readProduct (d + 4) 10 [(0, ev_r 0)] [] s Q
def ptMO (b : Nat → Int) (L j j' : Nat) (cs : List (Int × Int)) : Prop := ∀ (d : Nat) (s0 s : ev_S) (c : List (Int × Int)) (Q : Option ev_V → ev_S → Prop), mls b L s0 c s j → c.length + 2 ≤ j → (∀ s', mls b L s0 (c ++ cs) s' j' → Q (some (ev_i 0)) s') → Ev layM M_X12_readProduct (d + 4) 10 [(0, ev_r 0)] [] s Q
theorem xs9_bad {d a : Nat} {w : Int} {σ : ev_S} {Q : Option ev_V → ev_S → Prop} (h : Q (some (ev_i 0)) σ) : Ev layX M_X8_readSum (d + 1) 9 [(0, ev_r 137), (1, ev_i w), (2, ev_i 0), (3, ev_i (a : Int))] [] σ Q := wp_X8_readSum_9 ⟨fun _ => ⟨Or.inl rfl, h⟩, fun _ => ⟨fun _ => ⟨Or.inl rfl, h⟩, fun q => absurd rfl q⟩⟩
theorem kks {b : Nat → Int} {L j : Nat} {z c : Int} (hc : 40 ≤ c ∧ c ≤ 62) (hz : z = 100 + c) : kk b L j = z ↔ isS (kT b L) (kV b L) c j := by rw [hz]; exact kk_sign hc
theorem SG_tail {x y : Int} {D : Nat} {c cs : List (Int × Int)} {bt : Bool} (h1 : SG 0 bt c D) (h2 : SG 1 bt cs (D + 1)) (hx : (bt = false ∧ 2 ≤ x ∧ x ≤ 4) ∨ (bt = true ∧ 10 ≤ x ∧ x ≤ 11)) : SG 1 bt (c ++ (x, y) :: cs) (D + 1) := SG_cat h1 (SG_op h2 hx) (Nat.le_refl _)
theorem pt_done {b : Nat → Int} {L n j : Nat} (hN : EN b L n) (hj : j ≤ n) (h1 : ¬ isS (kT b L) (kV b L) 42 j) (h2 : ¬ isS (kT b L) (kV b L) 47 j) : ptXO b L n j j [] ∧ ptMO b L j j [] := by
  have hn := hN.1
  refine ⟨fun d σ0 σ w a c Q hx hl ha hq => ?_, fun d s0 s c Q hm hl hq => ?_⟩
  · have hd := hq σ a (by rw [List.append_nil]; exact hx) ha
    refine wp_X8_readSum_9 ⟨fun q => absurd q (by omega), fun q => ⟨fun q => absurd q (by omega), fun _ => sp_passes hN hx.1 (by omega) (fun q => absurd ((kks (c := 42) (by omega) (by rfl)).mp q) h1) (fun _ => ev_pi_mk ⟨fun _ => sp_passes hN hx.1 (by omega) (fun q => absurd ((kks (c := 47) (by omega) (by rfl)).mp q) h2) (fun _ => ev_pi_mk ⟨fun _ => hd, fun q => absurd rfl q⟩), fun q => absurd rfl q⟩)⟩⟩
  · exact wp_X12_readProduct_10 (sp_isSign hm.1 (fun q => absurd q h1) (fun _ => ev_pi_mk ⟨fun q => absurd rfl q, fun _ => sp_isSign hm.1 (fun q => absurd q h2) (fun _ => ev_pi_mk ⟨fun _ => hq s (by rw [List.append_nil]; exact hm), fun q => absurd rfl q⟩)⟩))
theorem both_pt {b : Nat → Int} {L n : Nat} (hN : EN b L n) : ∀ m j, n ≤ j + m → j ≤ n → (∃ k i, ptXE b L n j k i ∧ ptME b L j k i) ∨ (∃ j' cs, j ≤ j' ∧ j' ≤ n ∧ List.length cs ≤ j' - j ∧ SG 1 false cs 2 ∧ ptXO b L n j j' cs ∧ ptMO b L j j' cs) := by
  have hn := hN.1
  intro m
  induction m with
  | zero =>
    intro j h1 h2
    have e := EN_ge hN (j := j) (by omega)
    obtain ⟨g1, g2⟩ := pt_done hN h2 (fun q => by have := q.1; omega) (fun q => by have := q.1; omega)
    exact Or.inr ⟨j, [], Nat.le_refl _, h2, by simp, SG_nil, g1, g2⟩
  | succ m ih =>
    intro j h1 h2
    by_cases s1 : isS (kT b L) (kV b L) 42 j
    · have nj := isS_n hN s1
      have xs : ∀ (d : Nat) (σ0 σ : ev_S) (w : Int) (a : Nat) (c : List (Int × Int)) (Q : Option ev_V → ev_S → Prop), xls b L n σ0 c σ j → c.length + 2 ≤ j → a + 1 ≤ j → (¬ isU (kT b L) (kV b L) (j + 1) → ∀ σ', FL b L σ0 1 (j + 1) σ' → Q (some (ev_i 0)) σ') → (isU (kT b L) (kV b L) (j + 1) → ∀ σ', xls b L n σ0 (c ++ [uc (kT b L) (kV b L) (j + 1), (4, 0)]) σ' (j + 2) → Ev layX M_X8_readSum (d + 2) 9 [(0, ev_r 137), (1, ev_i w), (2, ev_i 1), (3, ev_i ((a + 1 : Nat) : Int))] [] σ' Q) → Ev layX M_X8_readSum (d + 2) 9 [(0, ev_r 137), (1, ev_i w), (2, ev_i 1), (3, ev_i (a : Int))] [] σ Q := by
        intro d σ0 σ w a c Q hx hl ha h0 h1
        refine wp_X8_readSum_9 ⟨fun q => absurd q (by omega), fun q => ⟨fun q => absurd q (by omega), fun _ => sp_passes hN hx.1 (by omega) (fun _ => ev_pi_mk ⟨fun q => absurd q (by omega), fun _ => ?_⟩) (fun q => absurd ((kks (c := 42) (by omega) (by rfl)).mpr s1) q)⟩⟩
        rw [ev_add_eq ⟨by omega, by omega⟩, show (a : Int) + 1 = ((a + 1 : Nat) : Int) by omega]
        refine sp_xunit hN (xls_adv hx) (by omega) (fun u σ' hF => ev_pi_mk (sp_emitF hF.1 hF.2 (fun σ2 g1 g2 => xs9_bad (h0 u σ2 ⟨g1, g2⟩)))) (fun u σ' hx2 => ev_pi_mk ?_)
        refine xs_emit (x := 4) (y := 0) hx2 (by rw [List.length_append, List.length_singleton]; omega) (Or.inr (by omega)) (by rfl) (fun σ3 hx3 => h1 u σ3 ?_)
        rw [List.append_assoc] at hx3
        exact hx3
      have ms : ∀ (d : Nat) (s0 s : ev_S) (c : List (Int × Int)) (Q : Option ev_V → ev_S → Prop), mls b L s0 c s j → c.length + 2 ≤ j → (¬ isU (kT b L) (kV b L) (j + 1) → ∀ s', FM b L s0 1 (j + 1) s' → Q (some (ev_i (-1))) s') → (isU (kT b L) (kV b L) (j + 1) → ∀ s', mls b L s0 (c ++ [uc (kT b L) (kV b L) (j + 1), (4, 0)]) s' (j + 2) → Ev layM M_X12_readProduct (d + 4) 10 [(0, ev_r 0)] [] s' Q) → Ev layM M_X12_readProduct (d + 4) 10 [(0, ev_r 0)] [] s Q := by
        intro d s0 s c Q hm hl h0 h1
        refine wp_X12_readProduct_10 (sp_isSign hm.1 (fun _ => ev_pi_mk ⟨fun _ => wp_X12_readProduct_28 (sp_isSign hm.1 (fun _ => ev_pi_mk (ms_rd hm (fun s3 m3 => ⟨fun _ => wp_X12_readProduct_57 ⟨fun _ => wp_X12_readProduct_74 ?_, fun q => absurd q (by omega)⟩, fun q => absurd q (by omega)⟩))) (fun q => absurd s1 q)), fun q => absurd q (by omega)⟩) (fun q => absurd s1 q))
        refine sp_munit m3 (by omega) (fun u s' hF => ev_pi_mk ⟨fun q => absurd rfl q, fun _ => h0 u s' hF⟩) (fun u s' m4 => ev_pi_mk ⟨fun _ => ⟨fun q => absurd q (by omega), fun _ => ?_⟩, fun q => absurd q (by omega)⟩)
        refine ms_emits m4 (by rw [List.length_append, List.length_singleton]; omega) (fun s5 m5 => h1 u s5 ?_)
        rw [List.append_assoc] at m5
        exact m5
      by_cases u : isU (kT b L) (kV b L) (j + 1)
      · have nu := isU_n hN u
        rcases ih (j + 2) (by omega) (by omega) with ⟨k, i, hX, hM⟩ | ⟨j', cs, g1, g2, g3, g4, hX, hM⟩
        · exact Or.inl ⟨k, i, fun d σ0 σ w a c Q hx hl ha hq => xs d σ0 σ w a c Q hx hl ha (fun q => absurd u q) (fun _ σ' hx2 => hX d σ0 σ' w (a + 1) _ Q hx2 (by simp; omega) (by omega) hq), fun d s0 s c Q hm hl hq => ms d s0 s c Q hm hl (fun q => absurd u q) (fun _ s' hm2 => hM d s0 s' _ Q hm2 (by simp; omega) hq)⟩
        · refine Or.inr ⟨j', [uc (kT b L) (kV b L) (j + 1)] ++ (4, 0) :: cs, by omega, g2, by simp; omega, SG_tail (uc_SG u) g4 (Or.inl ⟨rfl, by omega, by omega⟩), fun d σ0 σ w a c Q hx hl ha hq => xs d σ0 σ w a c Q hx hl ha (fun q => absurd u q) (fun _ σ' hx2 => hX d σ0 σ' w (a + 1) _ Q hx2 (by simp; omega) (by omega) (fun σ3 a' hx3 ha' => hq σ3 a' ?_ ha')), fun d s0 s c Q hm hl hq => ms d s0 s c Q hm hl (fun q => absurd u q) (fun _ s' hm2 => hM d s0 s' _ Q hm2 (by simp; omega) (fun s3 hm3 => hq s3 ?_))⟩
          · rw [List.append_assoc] at hx3; exact hx3
          · rw [List.append_assoc] at hm3; exact hm3
      · exact Or.inl ⟨1, j + 1, fun d σ0 σ w a c Q hx hl ha hq => xs d σ0 σ w a c Q hx hl ha (fun _ => hq) (fun q => absurd q u), fun d s0 s c Q hm hl hq => ms d s0 s c Q hm hl (fun _ => hq) (fun q => absurd q u)⟩
    · by_cases s2 : isS (kT b L) (kV b L) 47 j
      · have nj := isS_n hN s2
        have hko := kT_ok (b := b) (L := L) (j := j + 1)
        have xs : ∀ (d : Nat) (σ0 σ : ev_S) (w : Int) (a : Nat) (c : List (Int × Int)) (Q : Option ev_V → ev_S → Prop), xls b L n σ0 c σ j → c.length + 2 ≤ j → a + 1 ≤ j → pnum (kT b L) (kV b L) 1 9999 (j + 1) (fun k i => ∀ σ', FL b L σ0 k i σ' → Q (some (ev_i 0)) σ') (fun v => ∀ σ', xls b L n σ0 (c ++ [(0, v), (5, 0)]) σ' (j + 2) → Ev layX M_X8_readSum (d + 2) 9 [(0, ev_r 137), (1, ev_i w), (2, ev_i 1), (3, ev_i ((a + 1 : Nat) : Int))] [] σ' Q) → Ev layX M_X8_readSum (d + 2) 9 [(0, ev_r 137), (1, ev_i w), (2, ev_i 1), (3, ev_i (a : Int))] [] σ Q := by
          intro d σ0 σ w a c Q hx hl ha hp
          refine wp_X8_readSum_9 ⟨fun q => absurd q (by omega), fun q => ⟨fun q => absurd q (by omega), fun _ => sp_passes hN hx.1 (by omega) (fun q => absurd ((kks (c := 42) (by omega) (by rfl)).mp q) s1) (fun _ => ev_pi_mk ⟨fun _ => sp_passes hN hx.1 (by omega) (fun _ => ev_pi_mk ⟨fun q => absurd q (by omega), fun _ => ?_⟩) (fun q => absurd ((kks (c := 47) (by omega) (by rfl)).mpr s2) q), fun q => absurd rfl q⟩)⟩⟩
          refine xs_emit2 (xls_adv hx) (by omega) (fun s7 a7 k7 => sp_number hN a7 (fun r hr => ev_pi_mk (k7 r _ (fun _ s9 h9 => ?_))))
          have err : ∀ k, (∀ σ', FL b L σ0 k (j + 1) σ' → Q (some (ev_i 0)) σ') → Ev layX M_X8_readSum (d + 2) 94 [(0, ev_r 137), (1, ev_i w), (3, ev_i (a : Int))] [ev_i 0] (ftx b L s9 k (j + 1)) Q := by
            intro k e
            have hF := xls_ft (k := k) (i := j + 1) h9
            exact wp_X8_readSum_94 (sp_emitF hF.1 hF.2 (fun σ2 g1 g2 => by rw [ev_add_eq ⟨by omega, by omega⟩, show (a : Int) + 1 = ((a + 1 : Nat) : Int) by omega]; exact xs9_bad (e σ2 ⟨g1, g2⟩)))
          refine sp_takeNumber hN h9.1 (by omega) ⟨fun t3 => ev_pi_mk ⟨fun _ => err 1 (hp.1 t3), fun q => absurd rfl q⟩, fun t3 => ⟨fun r => ev_pi_mk ⟨fun _ => err 2 ((hp.2 t3).1 r), fun q => absurd rfl q⟩, fun rv => ev_pi_mk ⟨fun q => absurd q (by omega), fun _ => ?_⟩⟩⟩
          refine wp_X8_readSum_94 (xs_emit (x := 5) (y := 0) (xls_adv (i := j + 2) h9) (by rw [List.length_append, List.length_singleton]; omega) (Or.inr (by omega)) (by rfl) (fun σ3 hx3 => ?_))
          rw [ev_add_eq ⟨by omega, by omega⟩, show (a : Int) + 1 = ((a + 1 : Nat) : Int) by omega]
          refine (hp.2 t3).2 rv σ3 ?_
          rw [List.append_assoc, hr t3] at hx3
          exact hx3
        have ms : ∀ (d : Nat) (s0 s : ev_S) (c : List (Int × Int)) (Q : Option ev_V → ev_S → Prop), mls b L s0 c s j → c.length + 2 ≤ j → pnum (kT b L) (kV b L) 1 9999 (j + 1) (fun k i => ∀ s', FM b L s0 k i s' → Q (some (ev_i (-1))) s') (fun v => ∀ s', mls b L s0 (c ++ [(0, v), (5, 0)]) s' (j + 2) → Ev layM M_X12_readProduct (d + 4) 10 [(0, ev_r 0)] [] s' Q) → Ev layM M_X12_readProduct (d + 4) 10 [(0, ev_r 0)] [] s Q := by
          intro d s0 s c Q hm hl hp
          refine wp_X12_readProduct_10 (sp_isSign hm.1 (fun q => absurd q s1) (fun _ => ev_pi_mk ⟨fun q => absurd rfl q, fun _ => sp_isSign hm.1 (fun _ => ev_pi_mk ⟨fun q => absurd q (by omega), fun _ => wp_X12_readProduct_28 (sp_isSign hm.1 (fun q => absurd q s1) (fun _ => ev_pi_mk (ms_rd hm (fun s3 m3 => ⟨fun q => absurd rfl q, fun _ => ?_⟩))))⟩) (fun q => absurd s2 q)⟩))
          rw [m3.1.2.2.1]
          refine ⟨fun t3 => wp_X12_readProduct_57 ⟨fun q => absurd rfl q, fun _ => ?_⟩, fun t3 => sp_errs (k := 1) m3.1 (ev_pi_mk (hp.1 t3 _ (FM_ers m3.2.1)))⟩
          rw [m3.1.2.2.2.1 (by omega)]
          refine ⟨fun v0 => wp_X12_readProduct_74 (sp_munit m3 (by omega) (fun u => absurd (Or.inl t3) u) (fun u s' m4 => ev_pi_mk ⟨fun _ => ⟨fun _ => ?_, fun q => absurd rfl q⟩, fun q => absurd q (by omega)⟩)), fun v0 => sp_errs (k := 2) m3.1 (ev_pi_mk ((hp.2 t3).1 (by omega) _ (FM_ers m3.2.1)))⟩
          refine ms_emits m4 (by rw [List.length_append, List.length_singleton]; omega) (fun s5 m5 => (hp.2 t3).2 (by omega) s5 ?_)
          rw [List.append_assoc, show uc (kT b L) (kV b L) (j + 1) = (0, kV b L (j + 1)) from if_pos t3] at m5
          exact m5
        rcases pnum_ex (kT b L) (kV b L) 1 9999 (j + 1) with ⟨k, -, hp⟩ | ⟨t3, r3, hp⟩
        · exact Or.inl ⟨k, j + 1, fun d σ0 σ w a c Q hx hl ha hq => xs d σ0 σ w a c Q hx hl ha (hp _ _ hq), fun d s0 s c Q hm hl hq => ms d s0 s c Q hm hl (hp _ _ hq)⟩
        · have nu := is3_n hN t3
          rcases ih (j + 2) (by omega) (by omega) with ⟨k, i, hX, hM⟩ | ⟨j', cs, g1, g2, g3, g4, hX, hM⟩
          · exact Or.inl ⟨k, i, fun d σ0 σ w a c Q hx hl ha hq => xs d σ0 σ w a c Q hx hl ha (hp _ _ (fun σ' hx2 => hX d σ0 σ' w (a + 1) _ Q hx2 (by simp; omega) (by omega) hq)), fun d s0 s c Q hm hl hq => ms d s0 s c Q hm hl (hp _ _ (fun s' hm2 => hM d s0 s' _ Q hm2 (by simp; omega) hq))⟩
          · refine Or.inr ⟨j', (0, kV b L (j + 1)) :: (5, 0) :: cs, by omega, g2, by simp; omega, SG_part r3.1 g4 (Nat.le_refl _), fun d σ0 σ w a c Q hx hl ha hq => xs d σ0 σ w a c Q hx hl ha (hp _ _ (fun σ' hx2 => hX d σ0 σ' w (a + 1) _ Q hx2 (by simp; omega) (by omega) (fun σ3 a' hx3 ha' => hq σ3 a' ?_ ha'))), fun d s0 s c Q hm hl hq => ms d s0 s c Q hm hl (hp _ _ (fun s' hm2 => hM d s0 s' _ Q hm2 (by simp; omega) (fun s3 hm3 => hq s3 ?_)))⟩
            · rw [List.append_assoc] at hx3; exact hx3
            · rw [List.append_assoc] at hm3; exact hm3
      · obtain ⟨g1, g2⟩ := pt_done hN h2 s1 s2
        exact Or.inr ⟨j, [], Nat.le_refl _, h2, by simp, SG_nil, g1, g2⟩
end
