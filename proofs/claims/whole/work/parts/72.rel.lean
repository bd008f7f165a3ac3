/-! THE RELATION between the class's cells (σ) and the model's (s) -/
def m_zer (N A : Nat) (r : Nat → Int) : Prop := (∀ w, N ≤ w → w < 8 → r (11 + w) = 0 ∧ r (19 + w) = 0) ∧ ∀ a, A ≤ a → a < 6 → r (33 + a) = 0 ∧ r (39 + a) = 0 ∧ r (51 + a) = 0
def RM (s : ev_S) (N A NO MI : Nat) : Prop := m_tok s N A NO MI ∧ m_rok s N A (s 1, s 9) ∧ m_zer N A (s 1) ∧ s 0 5 = 0
def RX (σ s : ev_S) : Prop := XT σ 1 s ∧ XC σ 15 (s 1) ∧ XB σ 28 (s 9) (s 1 2).toNat
def rw_ (s : ev_S) (j : Nat) : Nat → Int := fun i => s 2 (87 * j + i)
def RP (σ s : ev_S) (N A : Nat) : Prop := ∃ U nx : Nat, (U ≤ 6 ∧ nx < 6 ∧ s 0 3 = (U : Int) ∧ σ 29 2 = (U : Int) ∧ σ 29 1 = (nx : Int)) ∧ (∀ j, j < U → XC σ (31 + 12 * ((nx + 6 - U + j) % 6)) (rw_ s j) ∧ m_rok s N A (rw_ s j, s 9) ∧ m_zer N A (rw_ s j) ∧ rw_ s j 2 ≤ s 1 2) ∧ (∀ i j, i ≤ j → j < U → rw_ s i 2 ≤ rw_ s j 2)
def RF (σ s : ev_S) (N A MI : Nat) : Prop := (σ 146 7 = 0 ∨ (σ 146 7 = 1 ∧ XS σ s N MI (s 1))) ∧ (σ 162 19 = 0 ∨ (σ 162 19 = 1 ∧ XCare σ s N A MI (s 1)))
/-- the model's image: one row of numbers -/
def img (f : Nat → Int) (I : ev_S) : Prop := (∀ k, k < 87 → f k = I 1 k) ∧ (f 87 = I 0 6 ∧ f 88 = I 0 7 ∧ f 89 = I 0 8) ∧ (∀ k, k < 5 → f (90 + k) = I 4 k) ∧ (f 95 = I 0 10 ∧ f 96 = I 0 11 ∧ f 97 = I 0 12) ∧ (∀ i, i < 6 → f (98 + 3 * i) = I 6 i ∧ f (98 + 3 * i + 1) = I 7 i ∧ f (98 + 3 * i + 2) = I 8 i) ∧ (∀ w, w < 8 → f (116 + w) = I 21 w) ∧ (∀ i, i < 4800 → f (124 + i) = I 20 i) ∧ (∀ a, a < 6 → f (4924 + 2 * a) = I 5 a ∧ f (4924 + 2 * a + 1) = I 27 a) ∧ (∀ i, i < 240 → f (4936 + 2 * i) = I 25 i ∧ f (4936 + 2 * i + 1) = I 26 i) ∧ f 5416 = I 0 46 ∧ (∀ k, k < 70 → f (5417 + k) = I 24 k) ∧ (∀ k, k < 500 → f (5487 + k) = I 9 k) ∧ f 5987 = I 0 25 ∧ (∀ l, l < 16 → f (5988 + 3 * l) = I 12 l ∧ f (5988 + 3 * l + 1) = I 13 l ∧ f (5988 + 3 * l + 2) = I 14 l) ∧ (∀ i, i < 400 → f (6036 + 2 * i) = I 15 i ∧ f (6036 + 2 * i + 1) = I 16 i)
def RIi (σ : ev_S) (f : Nat → Int) : Prop := ∃ (I : ev_S) (N A NO MI : Nat), img f I ∧ m_tok I N A NO MI ∧ m_rok I N A (I 1, I 9) ∧ m_zer N A (I 1) ∧ XT σ 104 I ∧ XC σ 118 (I 1) ∧ XB σ 131 (I 9) (I 1 2).toNat
def RI (σ s : ev_S) : Prop := (s 0 61 = 0 ∧ σ 103 3 = 0) ∨ (s 0 61 = 1 ∧ σ 103 3 = 1 ∧ RIi σ (s 36))
def w_tab : List Nat := [32, 119, 111, 114, 107, 115, 32, 102, 97, 105, 108, 115, 32, 119, 104, 101, 110, 32, 111, 114, 32, 97, 110, 100, 32, 110, 111, 116, 32, 107, 105, 110, 100, 32, 115, 101, 99, 111, 110, 100, 32, 120, 32, 121, 32, 119, 97, 114, 100, 115, 32, 115, 112, 111, 105, 108, 116, 32, 97, 110, 103, 101, 108, 32, 100, 111, 110, 101, 32, 112, 97, 99, 101, 32, 115, 116, 97, 110, 100, 32, 110, 111, 114, 116, 104, 32, 101, 97, 115, 116, 32, 115, 111, 117, 116, 104, 32, 119, 101, 115, 116, 32, 97, 103, 97, 105, 110, 32, 109, 105, 115, 104, 97, 112, 32, 97, 116, 32, 102, 114, 111, 109, 32, 116, 111, 32, 119, 97, 114, 100, 32, 117, 110, 108, 101, 115, 115, 32, 99, 104, 97, 110, 99, 101, 32, 112, 117, 115, 104, 32, 103, 117, 115, 116, 32, 103, 108, 111, 118, 101, 32, 100, 111, 111, 114, 32, 99, 97, 116, 32, 103, 111, 32, 119, 97, 105, 116, 32]
def tb_s (z : Int) : Int := if z < 128 then z else z - 256
def RTt (σ s : ev_S) : Prop := ∃ L : Nat, L ≤ 400 ∧ s 0 19 = (L : Int) ∧ σ 132 1 = (L : Int) ∧ ∀ i, i < L → (0 ≤ s 10 i ∧ s 10 i ≤ 255) ∧ σ 133 i = tb_s (s 10 i)
def RB (σ : ev_S) : Prop := ∀ i, i < 4800 → (-128 ≤ σ 3 i ∧ σ 3 i ≤ 127) ∧ (-128 ≤ σ 106 i ∧ σ 106 i ≤ 127)
def RW (s : ev_S) : Prop := ∀ i, i < 178 → s 11 i = ((w_tab.getD i 0 : Nat) : Int)
def RT (σ s : ev_S) : Prop := RTt σ s ∧ (σ 137 8 = s 0 37 ∧ σ 137 9 = s 0 38 ∧ σ 141 0 = 0) ∧ RW s ∧ RB σ
def XR (σ s : ev_S) : Prop := ∃ N A NO MI : Nat, RM s N A NO MI ∧ RX σ s ∧ RP σ s N A ∧ RF σ s N A MI ∧ RI σ s ∧ RT σ s
/-- both answer the same, and stand in the relation behind it -/
def Sim (MX MM : ev_M) (l : List (Nat × ev_V)) : Prop := ∀ σ s : ev_S, ev_ok σ → ev_ok s → XR σ s → ∃ (v : ev_V) (P P' : ev_S → Prop), Ev layX MX 60 0 ((0, ev_r 0) :: l) [] σ (fun u σ' => u = some v ∧ P σ') ∧ Ev layM MM 60 0 ((0, ev_r 0) :: l) [] s (fun u s' => u = some v ∧ P' s') ∧ ∀ σ' s', P σ' → P' s' → XR σ' s'
/-! frames -/
def frS (n : Nat) (σ σ' : ev_S) : Prop := (∀ c, c ≠ 14 → c ≠ 28 → c < 145 → σ' c = σ c) ∧ ∀ i, i < 5 * n → σ' 28 i = σ 28 i
def frQ (s s' : ev_S) : Prop := (∀ i, i ≠ 0 → i ≠ 59 → s' 0 i = s 0 i) ∧ s' 1 = s 1 ∧ bk (s 9) (s' 9) (s 1 2).toNat ∧ ∀ c, c ≠ 0 → c ≠ 3 → c ≠ 9 → (c < 28 ∨ 35 < c) → s' c = s c
theorem m_rok_bk {T : ev_S} {N A n : Nat} {r B B' : Nat → Int} (h : m_rok T N A (r, B)) (hb : bk B B' n) (hn : (r 2).toNat ≤ n) : m_rok T N A (r, B') := by
  obtain ⟨r1, r2, r3, r4, r5, r6⟩ := h
  refine ⟨r1, r2, r3, r4, fun i j h1 h2 => ?_, fun l hl => ?_⟩
  · simp only at h2 r5 ⊢
    rw [hb (5 * i) (by omega), hb (5 * j) (by omega)]; exact r5 i j h1 h2
  · simp only at hl r6 ⊢
    rw [hb (5 * l) (by omega)]; exact r6 l hl
theorem frQ_tl {s s' : ev_S} (h : frQ s s') : tl s s' := tl_of (fun i hi => h.1 i (by omega) (by omega)) (fun c hc => h.2.2.2 c (by omega) (by omega) (by omega) (by omega))
theorem RM_wok {s : ev_S} {N A NO MI : Nat} (h : RM s N A NO MI) : ∀ v, v < N → m_wok s (s 1) v := fun v hv => (h.2.1.2.2.1 v hv).1
theorem RM_pl {s : ev_S} {N A NO MI : Nat} (h : RM s N A NO MI) : ∀ a, a < A → m_pl s (s 1 (27 + a)) := fun a ha => (h.2.1.2.2.2.1 a ha).1
theorem RM_0 {s : ev_S} {N A NO MI : Nat} (h : RM s N A NO MI) : 0 ≤ s 1 0 ∧ s 1 0 ≤ 600 := h.2.1.1
theorem RP_keep {σ s σ' s' : ev_S} {N A : Nat} (h : RP σ s N A) (ht : tr s s') (hN : N ≤ 8) (hA : A ≤ 6) (h3 : s' 0 3 = s 0 3) (h2 : s' 2 = s 2) (h12 : s' 1 2 = s 1 2) (hb : bk (s 9) (s' 9) (s 1 2).toNat) (hf : ∀ c, 29 ≤ c → c ≤ 102 → σ' c = σ c) : RP σ' s' N A := by
  obtain ⟨U, nx, ⟨u1, u2, u3, u4, u5⟩, u6, u7⟩ := h
  have er : ∀ j, rw_ s' j = rw_ s j := fun j => by unfold rw_; rw [h2]
  refine ⟨U, nx, ⟨u1, u2, by rw [h3]; exact u3, by rw [hf 29 (by omega) (by omega)]; exact u4, by rw [hf 29 (by omega) (by omega)]; exact u5⟩, fun j hj => ?_, fun i j hi hj => by rw [er, er]; exact u7 i j hi hj⟩
  obtain ⟨x1, x2, x3, x4⟩ := u6 j hj
  rw [er, h12]
  have hm : (nx + 6 - U + j) % 6 < 6 := Nat.mod_lt _ (by omega)
  exact ⟨XC_keep x1 (fun c c1 c2 => hf c (by omega) (by omega)), m_rok_bk (tr_rok ht hN hA x2) hb (by omega), x3, x4⟩
theorem RI_keep {σ s σ' s' : ev_S} (h : RI σ s) (h61 : s' 0 61 = s 0 61) (h36 : s' 36 = s 36) (h103 : σ' 103 3 = σ 103 3) (hf : ∀ c, 104 ≤ c → c ≤ 131 → c ≠ 117 → σ' c = σ c) : RI σ' s' := by
  unfold RI
  rw [h61, h36, h103]
  rcases h with h | ⟨a1, a2, I, N, A, NO, MI, b1, b2, b3, b4, b5, b6, b7⟩
  · exact Or.inl h
  · refine Or.inr ⟨a1, a2, I, N, A, NO, MI, b1, b2, b3, b4, XT_keep b5 (fun c c1 c2 => hf c (by omega) (by omega) (by omega)), XC_keep b6 (fun c c1 c2 => hf c (by omega) (by omega) (by omega)), fun i hi => ?_⟩
    rw [hf 131 (by omega) (by omega) (by omega)]; exact b7 i hi
theorem RT_keep {σ s σ' s' : ev_S} (h : RT σ s) (h0 : ∀ i, i = 19 ∨ i = 37 ∨ i = 38 → s' 0 i = s 0 i) (h10 : s' 10 = s 10) (h11 : s' 11 = s 11) (e1 : σ' 132 1 = σ 132 1) (e2 : σ' 133 = σ 133) (e3 : σ' 137 8 = σ 137 8) (e4 : σ' 137 9 = σ 137 9) (e5 : σ' 3 = σ 3) (e6 : σ' 106 = σ 106) (e7 : σ' 141 = σ 141) : RT σ' s' := by
  unfold RT RTt RW RB
  rw [h0 19 (by omega), h0 37 (by omega), h0 38 (by omega), h10, h11, e1, e2, e3, e4, e5, e6, e7]
  exact h
/-- a call that only asks -/
theorem XR_scr {σ s σ' s' : ev_S} {N A NO MI : Nat} (hM : RM s N A NO MI) (hX : RX σ s) (hP : RP σ s N A) (hI : RI σ s) (hT : RT σ s) (hF : RF σ' s N A MI) (h1 : frS (s 1 2).toNat σ σ') (h2 : frQ s s') : XR σ' s' := by
  have htl := frQ_tl h2
  obtain ⟨hT0, hr, hz, h5⟩ := hM
  have hT1 := hT0
  obtain ⟨hdim, ⟨hN, hN8⟩, ⟨hA, hA6⟩, ⟨hO, hO6⟩, ⟨hMI, hM10⟩, -⟩ := hT1
  obtain ⟨q0, q1, q9, qc⟩ := h2
  obtain ⟨f0, f28⟩ := h1
  refine ⟨N, A, NO, MI, ⟨by rw [tl_tok htl]; exact hT0, ?_, by rw [q1]; exact hz, by rw [q0 5 (by omega) (by omega)]; exact h5⟩, ⟨tl_XT htl (XT_keep hX.1 (fun c c1 c2 => f0 c (by omega) (by omega) (by omega))), ?_, ?_⟩, RP_keep hP (tr_of htl) hN8 hA6 (q0 3 (by omega) (by omega)) (qc 2 (by omega) (by omega) (by omega) (by omega)) (by rw [q1]) q9 (fun c c1 c2 => f0 c (by omega) (by omega) (by omega)), ?_, RI_keep hI (q0 61 (by omega) (by omega)) (qc 36 (by omega) (by omega) (by omega) (by omega)) (by rw [f0 103 (by omega) (by omega) (by omega)]) (fun c c1 c2 _ => f0 c (by omega) (by omega) (by omega)), RT_keep hT (fun i hi => q0 i (by omega) (by omega)) (qc 10 (by omega) (by omega) (by omega) (by omega)) (qc 11 (by omega) (by omega) (by omega) (by omega)) (by rw [f0 132 (by omega) (by omega) (by omega)]) (f0 133 (by omega) (by omega) (by omega)) (by rw [f0 137 (by omega) (by omega) (by omega)]) (by rw [f0 137 (by omega) (by omega) (by omega)]) (f0 3 (by omega) (by omega) (by omega)) (f0 106 (by omega) (by omega) (by omega)) (f0 141 (by omega) (by omega) (by omega))⟩
  · rw [q1]
    exact m_rok_bk (tr_rok (tr_of htl) hN8 hA6 hr) q9 (Nat.le_refl _)
  · rw [q1]; exact XC_keep hX.2.1 (fun c c1 c2 => f0 c (by omega) (by omega) (by omega))
  · rw [q1]
    intro i hi
    rw [f28 i hi, q9 i hi]; exact hX.2.2 i hi
  · unfold RF
    rw [q1]
    refine ⟨?_, ?_⟩
    · rcases hF.1 with q | ⟨q, w⟩
      · exact Or.inl q
      · exact Or.inr ⟨q, tr_XS (tr_of htl) hdim.1.2 hN8 (fun v hv => (hr.2.2.1 v hv).1) w⟩
    · rcases hF.2 with q | ⟨q, w⟩
      · exact Or.inl q
      · exact Or.inr ⟨q, tr_XCare (tr_of htl) hdim.1.2 hN8 (fun v hv => (hr.2.2.1 v hv).1) hA6 hM10 w⟩
/-- a call by which something is told -/
theorem XR_told {σ s σ' s' : ev_S} {N A N' A' NO' MI' : Nat} (hP : RP σ s N A) (hI : RI σ s) (hT : RT σ s) (hM : RM s' N' A' NO' MI') (hX : RX σ' s') (h3 : s' 0 3 = 0) (e2 : σ' 29 2 = 0) (e1 : σ' 29 1 = σ 29 1) (e7 : σ' 146 7 = 0) (e17 : σ' 162 19 = 0) (hs0 : ∀ i, i = 61 ∨ i = 19 ∨ i = 37 ∨ i = 38 → s' 0 i = s 0 i) (hs : ∀ c, c = 36 ∨ c = 10 ∨ c = 11 → s' c = s c) (hf : ∀ c, 103 ≤ c → c ≤ 143 → c ≠ 117 → σ' c = σ c) (h3b : ∀ i, i < 4800 → -128 ≤ σ' 3 i ∧ σ' 3 i ≤ 127) : XR σ' s' := by
  obtain ⟨U, nx, ⟨u1, u2, u3, u4, u5⟩, u6, u7⟩ := hP
  refine ⟨N', A', NO', MI', hM, hX, ⟨0, nx, ⟨by omega, u2, by rw [h3]; rfl, by rw [e2]; rfl, by rw [e1]; exact u5⟩, fun j hj => absurd hj (by omega), fun i j _ hj => absurd hj (by omega)⟩, ⟨Or.inl e7, Or.inl e17⟩, RI_keep hI (hs0 61 (by omega)) (hs 36 (by omega)) (by rw [hf 103 (by omega) (by omega) (by omega)]) (fun c c1 c2 c3 => hf c (by omega) (by omega) c3), ?_⟩
  obtain ⟨t1, t2, t3, t4⟩ := hT
  unfold RT RTt RW
  rw [hs0 19 (by omega), hs0 37 (by omega), hs0 38 (by omega), hs 10 (by omega), hs 11 (by omega), hf 132 (by omega) (by omega) (by omega), hf 133 (by omega) (by omega) (by omega), hf 137 (by omega) (by omega) (by omega), hf 141 (by omega) (by omega) (by omega)]
  refine ⟨t1, t2, t3, fun i hi => ⟨h3b i hi, ?_⟩⟩
  rw [hf 106 (by omega) (by omega) (by omega)]; exact (t4 i hi).2
theorem sp_isTold {d : Nat} {s : ev_S} {Q : Option ev_V → ev_S → Prop} (h : Q none (ev_up (ev_up (ev_up s 29 2 0) 146 7 0) 162 19 0)) : Ev layX M_X11_isTold (d + 1) 0 [(0, ev_r 0)] [] s Q := by
  refine wp_X11_isTold_0 ?_
  rintro _ rfl
  refine wp_X11_isChanged_0 ?_
  rintro _ rfl _ rfl
  exact h
