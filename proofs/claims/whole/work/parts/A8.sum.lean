section
/-! THE LAW: units, products, sums, comparisons, both sides -/
def isU (T V : Nat → Int) (j : Nat) : Prop := T j = 3 ∨ (T j = 2 ∧ 6 ≤ V j ∧ V j ≤ 14)
noncomputable def uc (T V : Nat → Int) (j : Nat) : Int × Int := if T j = 3 then (0, V j) else (1, V j - 6)
theorem isU_n {b : Nat → Int} {L n j : Nat} (hN : EN b L n) (h : isU (kT b L) (kV b L) j) : j < n := EN_lt hN (by rcases h with h | h <;> omega)
theorem uc_SG {T V : Nat → Int} {j : Nat} (h : isU T V j) : SG 0 false [uc T V j] 1 := by
  unfold uc
  split
  · exact SG_unit (Or.inl rfl)
  · rcases h with h | h
    · exact absurd h ‹_›
    · exact SG_unit (Or.inr ⟨rfl, by omega, by omega⟩)
theorem sp_xunit {d n L j : Nat} {σ0 σ : ev_S} {b : Nat → Int} {c : List (Int × Int)} {Q : Option ev_V → ev_S → Prop} (hN : EN b L n) (hx : xls b L n σ0 c σ j) (hl : c.length < 400) (h0 : ¬ isU (kT b L) (kV b L) j → ∀ σ', FL b L σ0 1 j σ' → Q (some (ev_i 0)) σ') (h1 : isU (kT b L) (kV b L) j → ∀ σ', xls b L n σ0 (c ++ [uc (kT b L) (kV b L) j]) σ' (j + 1) → Q (some (ev_i 1)) σ') : Ev layX M_X8_readUnit (d + 1) 0 [(0, ev_r 137)] [] σ Q := by
  have hn := hN.1
  have hko := kT_ok (b := b) (L := L) (j := j)
  have ek : kk b L j = kdf (kT b L j) (kV b L j) := rfl
  refine wp_X8_readUnit_0 ?_
  rw [hx.1.2.1]
  have bad : ¬ isU (kT b L) (kV b L) j → Ev layX M_X8_faulty d 0 [(0, ev_r 137), (1, ev_i 1)] [] σ (ev_pi (fun r2 s1 => ((r2 = 0 ∨ r2 = 1) ∧ Q (some (ev_i r2)) s1))) := fun q => sp_faulty (k := 1) hN hx.1 (ev_pi_mk ⟨Or.inl rfl, h0 q _ (xls_ft hx)⟩)
  refine ⟨fun q => ⟨fun q2 => bad ?_, fun q2 => ⟨fun q3 => bad ?_, fun q3 => ?_⟩⟩, fun q => ?_⟩
  · rintro (u | u)
    · exact q (kk_num.mpr u)
    · rw [ek] at q2
      unfold kdf at q2
      rw [u.1, if_neg (by omega), if_neg (by omega), if_pos rfl, if_pos (by omega)] at q2
      omega
  · rintro (u | u)
    · exact q (kk_num.mpr u)
    · rw [ek] at q3
      unfold kdf at q3
      rw [u.1, if_neg (by omega), if_neg (by omega), if_pos rfl, if_pos (by omega)] at q3
      omega
  · have q4 : kT b L j = 2 ∧ kV b L j + 20 = kk b L j := by
      rw [ek] at q2 q3 ⊢
      unfold kdf at q2 q3 ⊢
      split at q2
      · omega
      · split at q2
        · omega
        · split at q2
          · rename_i w0 w1 w2
            rw [if_neg w0, if_neg w1, if_pos w2] at q3 ⊢
            split at q2
            · rename_i w3
              rw [if_pos w3]; exact ⟨w2, rfl⟩
            · omega
          · split at q2 <;> omega
    have u : isU (kT b L) (kV b L) j := Or.inr ⟨q4.1, by omega, by omega⟩
    have hj := isU_n hN u
    refine xs_emit (x := 1) (y := kV b L j - 6) hx hl (Or.inl rfl) (by rw [if_pos rfl, ev_sub_eq ⟨by omega, by omega⟩]; omega) (fun s5 h5 => sp_advance hN h5.1 (by omega) (h1 u _ ?_))
    have e : uc (kT b L) (kV b L) j = (1, kV b L j - 6) := if_neg (by omega)
    rw [e]
    exact xls_adv h5
  · have t3 := kk_num.mp q
    have u : isU (kT b L) (kV b L) j := Or.inl t3
    have hj := isU_n hN u
    refine xs_emit2 hx hl (fun s7 a1 a2 => sp_number hN a1 (fun r hr => ev_pi_mk (a2 r _ (fun _ s9 h9 => sp_advance hN h9.1 (by omega) (h1 u _ ?_)))))
    have e : uc (kT b L) (kV b L) j = (0, kV b L j) := if_pos t3
    rw [e, ← hr t3]
    exact xls_adv h9
theorem sp_munit {d L j : Nat} {s0 s : ev_S} {b : Nat → Int} {c : List (Int × Int)} {Q : Option ev_V → ev_S → Prop} (hm : mls b L s0 c s j) (hl : c.length < 400) (h0 : ¬ isU (kT b L) (kV b L) j → ∀ s', FM b L s0 1 j s' → Q (some (ev_i (-1))) s') (h1 : isU (kT b L) (kV b L) j → ∀ s', mls b L s0 (c ++ [uc (kT b L) (kV b L) j]) s' (j + 1) → Q (some (ev_i 0)) s') : Ev layM M_X12_readUnit (d + 3) 0 [(0, ev_r 0)] [] s Q := by
  have hko := kT_ok (b := b) (L := L) (j := j)
  have e22 := hm.1.2.2.1
  have bad : ∀ t : Int, t = 0 → kT b L j ≠ 3 → ¬ isU (kT b L) (kV b L) j → Ev layM M_X12_readUnit (d + 3) 28 [(0, ev_r 0)] [ev_i t] s Q := by
    intro t ht w u
    refine wp_X12_readUnit_28 ⟨fun q => absurd ht q, fun _ => ⟨fun q => absurd (by rw [← e22]; exact q) w, fun _ => sp_errs (k := 1) hm.1 (ev_pi_mk (h0 u _ (FM_ers hm.2.1)))⟩⟩
  have fin : ∀ x y : Int, isU (kT b L) (kV b L) j → uc (kT b L) (kV b L) j = (x, y) → Ev layM M_X12_readUnit (d + 3) 75 [(0, ev_r 0)] [ev_i y, ev_i x, ev_r 0] s Q := by
    intro x y u e
    refine wp_X12_readUnit_75 (ms_emits hm hl (fun s1 m1 => ms_rd m1 (fun s2 m2 => h1 u _ (by rw [e]; exact m2))))
  refine wp_X12_readUnit_0 ?_
  rw [e22]
  refine ⟨fun q => ?_, fun q => ?_⟩
  · by_cases t3 : kT b L j = 3
    · have u : isU (kT b L) (kV b L) j := Or.inl t3
      have e23 := hm.1.2.2.2.1 (by omega)
      refine wp_X12_readUnit_28 ⟨fun w => absurd rfl w, fun _ => ⟨fun _ => wp_X12_readUnit_47 ⟨fun _ => ⟨fun _ => ?_, fun w => absurd rfl w⟩, fun w => absurd rfl w⟩, fun w => absurd (by rw [e22]; exact t3) w⟩⟩
      rw [e23]
      exact fin 0 _ u (if_pos t3)
    · exact bad 0 rfl t3 (fun u => by rcases u with u | u <;> omega)
  · have e23 := hm.1.2.2.2.1 (by omega)
    rw [e23]
    refine sp_isIn (ev_pi_mk ⟨fun w => ?_, fun w => ?_⟩)
    · split at w
      · omega
      · exact bad 0 rfl (by omega) (fun u => by rcases u with u | u <;> omega)
    · split at w
      · have u : isU (kT b L) (kV b L) j := Or.inr ⟨q, by omega, by omega⟩
        refine wp_X12_readUnit_28 ⟨fun _ => wp_X12_readUnit_47 ⟨fun w => absurd w (by omega), fun _ => ⟨fun w => absurd w (by omega), fun _ => ?_⟩⟩, fun w => absurd w (by omega)⟩
        rw [e23, ev_sub_eq ⟨by omega, by omega⟩]
        exact fin 1 _ u (if_neg (by omega))
      · exact absurd rfl w
/-! products -/
def c120 (d : Nat) (w : Int) (a : Nat) (σ : ev_S) (Q : Option ev_V → ev_S → Prop) : Prop := (w = (-1) → Ev layX M_X8_readSum (d + 2) 120 [(0, ev_r 137), (3, ev_i (a : Int))] [] σ Q) ∧ (w ≠ (-1) → Ev layX M_X4_emit (d + 1) 0 [(0, ev_r 139), (1, ev_i w)] [] σ (fun _ s5 => Ev layX M_X8_readSum (d + 2) 120 [(0, ev_r 137), (3, ev_i (a : Int))] [] s5 Q))
def ptXE (b : Nat → Int) (L n j k i : Nat) : Prop := ∀ (d : Nat) (σ0 σ : ev_S) (w : Int) (a : Nat) (c : List (Int × Int)) (Q : Option ev_V → ev_S → Prop), xls b L n σ0 c σ j → c.length + 2 ≤ j → a ≤ j → (∀ σ', FL b L σ0 k i σ' → Q (some (ev_i 0)) σ') → Ev layX M_X8_readSum (d + 2) 9 [(0, ev_r 137), (1, ev_i w), (2, ev_i 1), (3, ev_i (a : Int))] [] σ Q
def ptXO (b : Nat → Int) (L n j j' : Nat) (cs : List (Int × Int)) : Prop := ∀ (d : Nat) (σ0 σ : ev_S) (w : Int) (a : Nat) (c : List (Int × Int)) (Q : Option ev_V → ev_S → Prop), xls b L n σ0 c σ j → c.length + 2 ≤ j → a ≤ j → (∀ σ' a', xls b L n σ0 (c ++ cs) σ' j' → a' ≤ j' → c120 d w a' σ' Q) → Ev layX M_X8_readSum (d + 2) 9 [(0, ev_r 137), (1, ev_i w), (2, ev_i 1), (3, ev_i (a : Int))] [] σ Q
def ptME (b : Nat → Int) (L j k i : Nat) : Prop := ∀ (d : Nat) (s0 s : ev_S) (c : List (Int × Int)) (Q : Option ev_V → ev_S → Prop), mls b L s0 c s j → c.length + 2 ≤ j → (∀ s', FM b L s0 k i s' → Q (some (ev_i (-1))) s') → Ev layM M_X12_readProduct (d + 4) 10 [(0, ev_r 0)] [] s Q
def ptMO (b : Nat → Int) (L j j' : Nat) (cs : List (Int × Int)) : Prop := ∀ (d : Nat) (s0 s : ev_S) (c : List (Int × Int)) (Q : Option ev_V → ev_S → Prop), mls b L s0 c s j → c.length + 2 ≤ j → (∀ s', mls b L s0 (c ++ cs) s' j' → Q (some (ev_i 0)) s') → Ev layM M_X12_readProduct (d + 4) 10 [(0, ev_r 0)] [] s Q
theorem xs9_bad {d a : Nat} {w : Int} {σ : ev_S} {Q : Option ev_V → ev_S → Prop} (h : Q (some (ev_i 0)) σ) : Ev layX M_X8_readSum (d + 1) 9 [(0, ev_r 137), (1, ev_i w), (2, ev_i 0), (3, ev_i (a : Int))] [] σ Q := wp_X8_readSum_9 ⟨fun _ => ⟨Or.inl rfl, h⟩, fun _ => ⟨fun _ => ⟨Or.inl rfl, h⟩, fun q => absurd rfl q⟩⟩
theorem kks {b : Nat → Int} {L j : Nat} {z c : Int} (hc : 40 ≤ c ∧ c ≤ 62) (hz : z = 100 + c) : kk b L j = z ↔ isS (kT b L) (kV b L) c j := by rw [hz]; exact kk_sign hc
theorem SG_tail {x y : Int} {D : Nat} {c cs : List (Int × Int)} {bt : Bool} (h1 : SG 0 bt c D) (h2 : SG 1 bt cs (D + 1)) (hx : (bt = false ∧ 2 ≤ x ∧ x ≤ 4) ∨ (bt = true ∧ 10 ≤ x ∧ x ≤ 11)) : SG 1 bt (c ++ (x, y) :: cs) (D + 1) := SG_cat h1 (SG_op h2 hx) (Nat.le_refl _)
theorem both_pt {b : Nat → Int} {L n : Nat} (hN : EN b L n) : ∀ m j, n ≤ j + m → j ≤ n → (∃ k i, ptXE b L n j k i ∧ ptME b L j k i) ∨ (∃ j' cs, j ≤ j' ∧ j' ≤ n ∧ List.length cs ≤ j' - j ∧ SG 1 false cs 2 ∧ ptXO b L n j j' cs ∧ ptMO b L j j' cs) := by
  have hn := hN.1
  intro m
  induction m with
  | zero =>
    intro j h1 h2
    have := EN_ge hN (j := j) (by omega)
    sorry
  | succ m ih =>
    intro j h1 h2
    sorry
end
