section
/-! A NEW LAW -/
theorem tr_tokL {T T' : ev_S} (h : tr T T') (hl : m_lok T') {N A NO MI : Nat} (hT : m_tok T N A NO MI) : m_tok T' N A NO MI := by
  obtain ⟨hdim, ⟨hN, hN8⟩, ⟨hA, hA6⟩, ⟨hO, hO6⟩, ⟨hM, hM10⟩, hg, hpa, hpok, hmok, hlok⟩ := hT
  obtain ⟨⟨a1, a2, a3, a4, a5, a6, a8⟩, b, c, d, e, f, g⟩ := h
  refine ⟨by unfold m_dim; rw [a1, a2]; exact hdim, ⟨by rw [a4]; exact hN, hN8⟩, ⟨by rw [a5]; exact hA, hA6⟩, ⟨by rw [a6]; exact hO, hO6⟩, ⟨by rw [a8]; exact hM, hM10⟩, by rw [a3]; exact hg, fun k hk => by rw [b k hk]; exact hpa k hk, fun a ha => ?_, fun i hi => ?_, hl⟩
  · obtain ⟨p1, p2, p3⟩ := hpok a ha
    obtain ⟨c5, -, -, -, c27⟩ := c a (by omega)
    refine ⟨by rw [c5]; exact p1, by rw [c27]; exact p2, fun i hi => ?_⟩
    rw [c27] at hi
    obtain ⟨g1, g2⟩ := g (40 * a + i) (by omega)
    rw [g1, g2]
    have hp := p3 i hi
    unfold m_pl at hp ⊢
    rw [a1, a2]; exact hp
  · have hm := hmok i hi
    unfold m_mok m_pl at hm ⊢
    rw [f (7 * i) (by omega), f (7 * i + 1) (by omega), f (7 * i + 2) (by omega), f (7 * i + 3) (by omega), f (7 * i + 4) (by omega), f (7 * i + 5) (by omega), f (7 * i + 6) (by omega), a1, a2, a4]
    exact hm
theorem tr_XTL {σ σ' : ev_S} {K : Nat} {T T' : ev_S} (h : tr T T') (hf : ∀ c, K ≤ c → c ≤ K + 8 → σ' c = σ c) (hl : XL σ' (K + 9) T') {N A NO MI : Nat} (hT : m_tok T N A NO MI) (hw : ∀ w, w < N → T 21 w ≤ 600) (hx : XT σ K T) : XT σ' K T' := by
  unfold XT
  rw [hf K (by omega) (by omega), hf (K + 1) (by omega) (by omega), hf (K + 2) (by omega) (by omega), hf (K + 3) (by omega) (by omega), hf (K + 4) (by omega) (by omega), hf (K + 5) (by omega) (by omega), hf (K + 6) (by omega) (by omega), hf (K + 7) (by omega) (by omega), hf (K + 8) (by omega) (by omega)]
  obtain ⟨hdim, ⟨hN, hN8⟩, ⟨hA, hA6⟩, ⟨hO, hO6⟩, ⟨hM, hM10⟩, hg, hpa, hpok, hmok, hlok⟩ := hT
  obtain ⟨⟨a1, a2, a3, a4, a5, a6, a8⟩, b, c, d, e, f, g⟩ := h
  obtain ⟨x1, x2, x3, x4, x5, x6, x7⟩ := hx
  refine ⟨by rw [a1, a2, a3, a4, a5, a6, a8]; exact x1, fun k hk => by rw [b k hk]; exact x2 k hk, fun w hw2 => ?_, fun a ha => ?_, fun o ho => ?_, fun i hi cc hc => ?_, hl⟩
  · rw [a4] at hw2
    obtain ⟨y1, y2⟩ := x3 w hw2
    have h21 := e w (by omega)
    have h6 := hw w (by omega)
    refine ⟨by rw [h21]; exact y1, fun i hi => ?_⟩
    rw [h21] at hi
    rw [d (600 * w + i) (by omega)]; exact y2 i hi
  · rw [a5] at ha
    obtain ⟨y1, y2, y3⟩ := x4 a ha
    obtain ⟨c5, -, -, -, c27⟩ := c a (by omega)
    have h40 := (hpok a (by omega)).2.1
    refine ⟨by rw [c5]; exact y1, by rw [c27]; exact y2, fun i hi => ?_⟩
    rw [c27] at hi
    obtain ⟨g1, g2⟩ := g (40 * a + i) (by omega)
    rw [g1, g2]; exact y3 i hi
  · rw [a6] at ho
    obtain ⟨-, c6, c7, c8, -⟩ := c o (by omega)
    rw [c6, c7, c8]; exact x5 o ho
  · rw [a8] at hi
    rw [f (7 * i + cc) (by omega)]; exact x6 i hi cc hc
theorem XR_law {σ s σ' s' : ev_S} (hR : XR σ s) (ht : tr s s') (hl : m_lok s') (hXL : XL σ' 10 s') (e1 : s' 1 = s 1) (e9 : s' 9 = s 9) (e2 : s' 2 = s 2) (e36 : s' 36 = s 36) (e0 : ∀ i, i = 3 ∨ i = 5 ∨ i = 61 → s' 0 i = s 0 i) (hf : ∀ c, c < 10 ∨ (13 < c ∧ c < 132) ∨ 143 < c → σ' c = σ c) (hT : RT σ' s') : XR σ' s' := by
  obtain ⟨N, A, NO, MI, hM, hX, hP, hF, hI, -⟩ := hR
  obtain ⟨hT0, hr, hz, h5⟩ := hM
  have hT1 := hT0
  obtain ⟨hdim, ⟨hN, hN8⟩, ⟨hA, hA6⟩, ⟨hO, hO6⟩, ⟨hMI, hM10⟩, -⟩ := hT1
  refine ⟨N, A, NO, MI, ⟨tr_tokL ht hl hT0, ?_, by rw [e1]; exact hz, by rw [e0 5 (by omega)]; exact h5⟩, ⟨tr_XTL ht (fun c c1 c2 => hf c (by omega)) hXL hT0 (fun w hw => (hr.2.2.1 w hw).1.2.2.2.2.2) hX.1, by rw [e1]; exact XC_keep hX.2.1 (fun c c1 c2 => hf c (by omega)), fun i hi => ?_⟩, RP_keep hP ht hN8 hA6 (e0 3 (by omega)) e2 (by rw [e1]) (by rw [e9]; exact fun _ _ => rfl) (fun c c1 c2 => hf c (by omega)), ?_, RI_keep hI (e0 61 (by omega)) e36 (by rw [hf 103 (by omega)]) (fun c c1 c2 _ => hf c (by omega)), hT⟩
  · rw [e1, e9]; exact tr_rok ht hN8 hA6 hr
  · rw [e1] at hi
    rw [hf 28 (by omega), e9]; exact hX.2.2 i hi
  · have hG := RF_keep hF (σ' := σ') (by rw [hf 146 (by omega)]) (hf 159 (by omega)) (by rw [hf 1 (by omega)]) (fun c c1 c2 => hf c (by omega))
    unfold RF
    rw [e1]
    refine ⟨?_, ?_⟩
    · rcases hG.1 with q | ⟨q, w⟩
      · exact Or.inl q
      · exact Or.inr ⟨q, tr_XS ht hdim.1.2 hN8 (fun v hv => (hr.2.2.1 v hv).1) w⟩
    · rcases hG.2 with q | ⟨q, w⟩
      · exact Or.inl q
      · exact Or.inr ⟨q, tr_XCare ht hdim.1.2 hN8 (fun v hv => (hr.2.2.1 v hv).1) hA6 hM10 w⟩
/-- the model takes the law -/
theorem sp_takesLaw {d k m : Nat} {s : ev_S} {Q : Option ev_V → ev_S → Prop} (hk : k ≤ 16) (hm : s 0 31 = (m : Int)) (hm4 : m ≤ 400) (h : ∀ s', s' 0 25 = (k : Int) → (∀ i, i < k → s' 12 i = s 12 (16 + i) ∧ s' 13 i = s 13 (16 + i) ∧ s' 14 i = s 14 (16 + i)) → (∀ i, i < m → s' 15 i = s 15 (400 + i) ∧ s' 16 i = s 16 (400 + i)) → (∀ i, i ≠ 25 → s' 0 i = s 0 i) → (∀ q, q ≠ 0 → (q < 12 ∨ 16 < q) → s' q = s q) → Q none s') : Ev layM M_X12_takesLaw d 0 [(0, ev_r 0), (1, ev_i (k : Int))] [] s Q := by
  have l2 : ∀ s1 : ev_S, (∀ i, i < k → s1 12 i = s 12 (16 + i) ∧ s1 13 i = s 13 (16 + i) ∧ s1 14 i = s 14 (16 + i)) → (∀ q, (q < 12 ∨ 14 < q) → s1 q = s q) → ∀ n i, i + n = m → ∀ s2 : ev_S, (∀ q, q < i → s2 15 q = s 15 (400 + q) ∧ s2 16 q = s 16 (400 + q)) → (∀ q, 400 ≤ q → s2 15 q = s 15 q ∧ s2 16 q = s 16 q) → (∀ c, c ≠ 15 → c ≠ 16 → s2 c = s1 c) → Ev layM M_X12_takesLaw d 60 [(0, ev_r 0), (1, ev_i (k : Int)), (2, ev_i (i : Int))] [] s2 Q := by
    intro s1 a1 a2 n
    induction n with
    | zero =>
      intro i hi s2 b1 b2 b3
      refine wp_X12_takesLaw_60 ?_
      rw [b3 0 (by omega) (by omega), a2 0 (by omega), hm]
      refine ⟨fun _ => ?_, fun q => absurd q (by omega)⟩
      rintro _ rfl
      refine h _ (ev_up_same _ _ _ _) (fun q hq => ?_) (fun q hq => ?_) (fun q hq => ?_) (fun q q0 hq => ?_)
      · rw [ev_upj _ _ (by omega), ev_upj _ _ (by omega), ev_upj _ _ (by omega), b3 12 (by omega) (by omega), b3 13 (by omega) (by omega), b3 14 (by omega) (by omega)]; exact a1 q hq
      · rw [ev_upj _ _ (by omega), ev_upj _ _ (by omega)]; exact b1 q (by omega)
      · rw [ev_up_ne _ _ (by omega), b3 0 (by omega) (by omega), a2 0 (by omega)]
      · rw [ev_upj _ _ q0, b3 q (by omega) (by omega), a2 q (by omega)]
    | succ n ih =>
      intro i hi s2 b1 b2 b3
      refine wp_X12_takesLaw_60 ?_
      rw [b3 0 (by omega) (by omega), a2 0 (by omega), hm, ev_add_eq ⟨by omega, by omega⟩, ev_add_eq (x := (i : Int)) ⟨by omega, by omega⟩, Int.toNat_natCast, show Int.toNat (400 + (i : Int)) = 400 + i by omega, show (i : Int) + 1 = ((i + 1 : Nat) : Int) by omega]
      refine ⟨fun q => absurd q (by omega), fun _ => ⟨by omega, by omega, ?_⟩⟩
      rintro _ rfl
      refine ⟨by omega, by omega, ?_⟩
      rintro _ rfl
      refine ih (i + 1) (by omega) _ (fun q hq => ?_) (fun q hq => ?_) (fun c c1 c2 => ?_)
      · by_cases e : q = i
        · subst e
          exact ⟨by rw [ev_upj _ _ (by omega), ev_up_same]; exact (b2 _ (by omega)).1, by rw [ev_up_same, ev_upj _ _ (by omega)]; exact (b2 _ (by omega)).2⟩
        · exact ⟨by rw [ev_upj _ _ (by omega), ev_up_ne _ _ (by omega)]; exact (b1 q (by omega)).1, by rw [ev_up_ne _ _ (by omega), ev_upj _ _ (by omega)]; exact (b1 q (by omega)).2⟩
      · exact ⟨by rw [ev_upj _ _ (by omega), ev_up_ne _ _ (by omega)]; exact (b2 q hq).1, by rw [ev_up_ne _ _ (by omega), ev_upj _ _ (by omega)]; exact (b2 q hq).2⟩
      · rw [ev_upj _ _ c2, ev_upj _ _ c1]; exact b3 c c1 c2
  have l1 : ∀ n i, i + n = k → ∀ s1 : ev_S, (∀ q, q < i → s1 12 q = s 12 (16 + q) ∧ s1 13 q = s 13 (16 + q) ∧ s1 14 q = s 14 (16 + q)) → (∀ q, 16 ≤ q → s1 12 q = s 12 q ∧ s1 13 q = s 13 q ∧ s1 14 q = s 14 q) → (∀ c, (c < 12 ∨ 14 < c) → s1 c = s c) → Ev layM M_X12_takesLaw d 2 [(0, ev_r 0), (1, ev_i (k : Int)), (2, ev_i (i : Int))] [] s1 Q := by
    intro n
    induction n with
    | zero =>
      intro i hi s1 b1 b2 b3
      refine wp_X12_takesLaw_2 ⟨fun _ => ?_, fun q => absurd q (by omega)⟩
      exact l2 s1 (fun q hq => b1 q (by omega)) b3 m 0 (by omega) s1 (fun q hq => absurd hq (by omega)) (fun q _ => ⟨by rw [b3 15 (by omega)], by rw [b3 16 (by omega)]⟩) (fun _ _ _ => rfl)
    | succ n ih =>
      intro i hi s1 b1 b2 b3
      refine wp_X12_takesLaw_2 ?_
      rw [ev_add_eq ⟨by omega, by omega⟩, ev_add_eq (x := (i : Int)) ⟨by omega, by omega⟩, Int.toNat_natCast, show Int.toNat (16 + (i : Int)) = 16 + i by omega, show (i : Int) + 1 = ((i + 1 : Nat) : Int) by omega]
      refine ⟨fun q => absurd q (by omega), fun _ => ⟨by omega, by omega, ?_⟩⟩
      rintro _ rfl
      refine ⟨by omega, by omega, ?_⟩
      rintro _ rfl
      refine ⟨by omega, by omega, ?_⟩
      rintro _ rfl
      refine ih (i + 1) (by omega) _ (fun q hq => ?_) (fun q hq => ?_) (fun c hc => ?_)
      · by_cases e : q = i
        · subst e
          exact ⟨by rw [ev_upj _ _ (by omega), ev_upj _ _ (by omega), ev_up_same]; exact (b2 _ (by omega)).1, by rw [ev_upj _ _ (by omega), ev_up_same, ev_upj _ _ (by omega)]; exact (b2 _ (by omega)).2.1, by rw [ev_up_same, ev_upj _ _ (by omega), ev_upj _ _ (by omega)]; exact (b2 _ (by omega)).2.2⟩
        · exact ⟨by rw [ev_upj _ _ (by omega), ev_upj _ _ (by omega), ev_up_ne _ _ (by omega)]; exact (b1 q (by omega)).1, by rw [ev_upj _ _ (by omega), ev_up_ne _ _ (by omega), ev_upj _ _ (by omega)]; exact (b1 q (by omega)).2.1, by rw [ev_up_ne _ _ (by omega), ev_upj _ _ (by omega), ev_upj _ _ (by omega)]; exact (b1 q (by omega)).2.2⟩
      · exact ⟨by rw [ev_upj _ _ (by omega), ev_upj _ _ (by omega), ev_up_ne _ _ (by omega)]; exact (b2 q hq).1, by rw [ev_upj _ _ (by omega), ev_up_ne _ _ (by omega), ev_upj _ _ (by omega)]; exact (b2 q hq).2.1, by rw [ev_up_ne _ _ (by omega), ev_upj _ _ (by omega), ev_upj _ _ (by omega)]; exact (b2 q hq).2.2⟩
      · rw [ev_upj _ _ (by omega), ev_upj _ _ (by omega), ev_upj _ _ (by omega)]; exact b3 c hc
  exact wp_X12_takesLaw_0 (l1 k 0 (by omega) s (fun q hq => absurd hq (by omega)) (fun _ _ => ⟨rfl, rfl, rfl⟩) (fun _ _ => rfl))
/-- the law that was read, well made -/
theorem law_ok {s' : ev_S} {c : List (Int × Int)} {k : Nat} {W : Nat → Int} {B : Nat → Nat} (hk : k ≤ 16) (hc : c.length ≤ 400) (hL : LT c B k) (h25 : s' 0 25 = (k : Int)) (h1 : ∀ i, i < k → s' 12 i = W i ∧ s' 13 i = (B i : Int) ∧ s' 14 i = (B (i + 1) : Int)) (h2 : ∀ i, i < c.length → s' 15 i = cO c i ∧ s' 16 i = cA c i) : m_lok s' := by
  refine ⟨by omega, fun j hj => ?_⟩
  rw [h25] at hj
  obtain ⟨a1, a2, a3⟩ := hL j (by omega)
  obtain ⟨-, e13, e14⟩ := h1 j (by omega)
  rw [e13, e14]
  refine ⟨by omega, fun q => ?_⟩
  have := a3 (by omega) (s' 15) (s' 16) (fun i i1 i2 => h2 i (by omega))
  rw [Int.toNat_natCast, show Int.toNat ((B (j + 1) : Int) - (B j : Int)) = B (j + 1) - B j by omega]
  exact this
/-- the law that was read, on both sides -/
theorem law_XL {σ' s' : ev_S} {c : List (Int × Int)} {k K : Nat} {W : Nat → Int} {B : Nat → Nat} (hk : k ≤ 16) (hc : c.length ≤ 400) (hL : LT c B k) (hW : ∀ i, i < k → W i = 0 ∨ W i = 1) (h25 : s' 0 25 = (k : Int)) (h1 : ∀ i, i < k → s' 12 i = W i ∧ s' 13 i = (B i : Int) ∧ s' 14 i = (B (i + 1) : Int)) (h2 : ∀ i, i < c.length → s' 15 i = cO c i ∧ s' 16 i = cA c i) (x5 : σ' K 5 = (k : Int)) (xc : ∀ i, i < c.length → (cO c i = 0 → σ' (K + 1) (csz (cO c) i) = 9 ∧ σ' (K + 1) (csz (cO c) i + 1) = cA c i) ∧ (cO c i = 1 → σ' (K + 1) (csz (cO c) i) = cA c i) ∧ (2 ≤ cO c i → σ' (K + 1) (csz (cO c) i) = cO c i + 8)) (xw : ∀ i, i < k → σ' (K + 3) i = if W i = 0 then 1 else 0) (xs : ∀ i, i ≤ k → σ' (K + 2) i = ((csz (cO c) (B i) : Nat) : Int)) : XL σ' K s' := by
  refine ⟨by rw [x5, h25], csz (cO c), fun j hj => ?_⟩
  rw [h25] at hj
  obtain ⟨a1, a2, -⟩ := hL j (by omega)
  obtain ⟨e12, e13, e14⟩ := h1 j (by omega)
  rw [e12, e13, e14, Int.toNat_natCast, Int.toNat_natCast]
  refine ⟨by omega, by omega, by omega, xs j (by omega), xs (j + 1) (by omega), ?_, fun i i1 i2 => ?_⟩
  · rw [xw j (by omega)]
    rcases hW j (by omega) with e | e
    · rw [e]; simp
    · rw [e]; simp
  · have hi : i < c.length := by omega
    obtain ⟨e15, e16⟩ := h2 i hi
    obtain ⟨c1, c2, c3⟩ := xc i hi
    have cm := csz_le (O := cO c) (i + 1)
    rw [e15, e16]
    simp only [csz] at cm ⊢
    refine ⟨by split at cm <;> (split <;> omega), fun q => ⟨by rw [if_pos q], c1 q⟩, fun q => ⟨by rw [if_neg (by omega)], c2 q⟩, fun q => ⟨by rw [if_neg (by omega)], c3 q⟩⟩
end
