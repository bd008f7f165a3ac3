section
/-! THE IMAGE: the class -/
theorem XLg_cp {σ σ' : ev_S} {K K' : Nat} {n : Int} {lw lf lt op ar : Nat → Int} (h : XLg σ K n lw lf lt op ar) (hn : n ≤ 16) (e5 : σ' K' 5 = σ K 5) (e1 : ∀ i, i < 800 → σ' (K' + 1) i = σ (K + 1) i) (e2 : ∀ i, i < 17 → σ' (K' + 2) i = σ (K + 2) i) (e3 : ∀ i, i < 16 → σ' (K' + 3) i = σ (K + 3) i) : XLg σ' K' n lw lf lt op ar := by
  obtain ⟨h1, f, h2⟩ := h
  refine ⟨by rw [e5]; exact h1, f, fun j hj => ?_⟩
  obtain ⟨a1, a2, a3, a4, a5, a6, a7⟩ := h2 j hj
  refine ⟨a1, a2, a3, by rw [e2 j (by omega)]; exact a4, by rw [e2 (j + 1) (by omega)]; exact a5, by rw [e3 j (by omega)]; exact a6, fun i i1 i2 => ?_⟩
  obtain ⟨b1, b2, b3, b4⟩ := a7 i i1 i2
  refine ⟨b1, fun q => ?_, fun q => ?_, fun q => ?_⟩
  · obtain ⟨c1, c2, c3⟩ := b2 q
    exact ⟨c1, by rw [e1 _ (by omega)]; exact c2, by rw [e1 _ (by omega)]; exact c3⟩
  · obtain ⟨c1, c2⟩ := b3 q
    exact ⟨c1, by rw [e1 _ (by omega)]; exact c2⟩
  · obtain ⟨c1, c2⟩ := b4 q
    exact ⟨c1, by rw [e1 _ (by omega)]; exact c2⟩
theorem sp_lcopy {d k j : Nat} {s : ev_S} {Q : Option ev_V → ev_S → Prop} (hk : is_X4 k) (hj : is_X4 j) (hd : k + 3 < j ∨ j + 3 < k) (h : ∀ s', s' k 4 = s j 4 → s' k 5 = s j 5 → (∀ i, i < 800 → s' (k + 1) i = s (j + 1) i) → (∀ i, i < 17 → s' (k + 2) i = s (j + 2) i) → (∀ i, i < 16 → s' (k + 3) i = s (j + 3) i) → (∀ c, (c < k ∨ k + 3 < c) → s' c = s c) → Q none s') : Ev layX M_X4_copyFrom (d + 1) 0 [(0, ev_r k), (1, ev_r j)] [] s Q := by
  refine wp_X4_copyFrom_0 hk hj ?_
  refine ⟨by decide, ?_⟩
  rintro _ rfl
  refine ⟨by decide, ?_⟩
  rintro _ rfl
  refine ⟨by decide, ?_⟩
  rintro _ rfl
  rintro _ rfl
  rintro _ rfl
  have cpj : ∀ (σ : ev_S) (a b n c : Nat), c ≠ b → ev_cp σ a (Int.toNat 0) b (Int.toNat 0) n c = σ c := by
    intro σ a b n c hc
    funext i; simp [ev_cp, hc]
  have cpk : ∀ (σ : ev_S) (a b n i : Nat), i < n → ev_cp σ a (Int.toNat 0) b (Int.toNat 0) n b i = σ a i := by
    intro σ a b n i hi
    simp [ev_cp, hi]
  refine h _ ?_ ?_ (fun i hi => ?_) (fun i hi => ?_) (fun i hi => ?_) (fun c hc => ?_)
  · simp (disch := omega) only [ev_up_ne, cpj, ev_up_same]
  · simp (disch := omega) only [ev_up_ne, cpj, ev_up_same]
  · simp (disch := omega) only [ev_upj, cpj, cpk]
  · simp (disch := omega) only [ev_upj, cpj, cpk]
  · simp (disch := omega) only [ev_upj, cpj, cpk]
  · simp (disch := omega) only [ev_upj, cpj]
def tcp (k j : Nat) (s s' : ev_S) : Prop := (∀ i, i = 0 ∨ i = 1 ∨ i = 2 ∨ i = 4 ∨ i = 7 ∨ i = 11 ∨ i = 13 → s' k i = s j i) ∧ (∀ i, i < 5 → s' (k + 1) i = s (j + 1) i) ∧ (∀ i, i < 4800 → s' (k + 2) i = s (j + 2) i) ∧ (∀ i, i < 8 → s' (k + 3) i = s (j + 3) i) ∧ (∀ i, i < 6 → s' (k + 4) i = s (j + 4) i) ∧ (∀ i, i < 480 → s' (k + 5) i = s (j + 5) i) ∧ (∀ i, i < 6 → s' (k + 6) i = s (j + 6) i) ∧ (∀ i, i < 18 → s' (k + 7) i = s (j + 7) i) ∧ (∀ i, i < 70 → s' (k + 8) i = s (j + 8) i) ∧ (s' (k + 9) 5 = s (j + 9) 5 ∧ (∀ i, i < 800 → s' (k + 10) i = s (j + 10) i) ∧ (∀ i, i < 17 → s' (k + 11) i = s (j + 11) i) ∧ (∀ i, i < 16 → s' (k + 12) i = s (j + 12) i))
theorem sp_tcopy {d k j : Nat} {s : ev_S} {Q : Option ev_V → ev_S → Prop} (hk : is_X10 k) (hj : is_X10 j) (hk4 : is_X4 (k + 9)) (hj4 : is_X4 (j + 9)) (hd : k + 13 < j ∨ j + 13 < k) (hb : ∀ i, i < 4800 → -128 ≤ s (j + 2) i ∧ s (j + 2) i ≤ 127) (h : ∀ s', tcp k j s s' → (∀ c, (c < k ∨ k + 12 < c) → s' c = s c) → Q none s') : Ev layX M_X10_copyFrom (d + 2) 0 [(0, ev_r k), (1, ev_r j)] [] s Q := by
  have cpj : ∀ (σ : ev_S) (a b n c : Nat), c ≠ b → ev_cp σ a (Int.toNat 0) b (Int.toNat 0) n c = σ c := by
    intro σ a b n c hc
    funext i; simp [ev_cp, hc]
  have cpk : ∀ (σ : ev_S) (a b n i : Nat), i < n → ev_cp σ a (Int.toNat 0) b (Int.toNat 0) n b i = σ a i := by
    intro σ a b n i hi
    simp [ev_cp, hi]
  refine wp_X10_copyFrom_0 hk hj ?_
  rintro _ rfl
  rintro _ rfl
  rintro _ rfl
  refine ⟨by decide, ?_⟩
  rintro _ rfl
  rintro _ rfl
  refine ⟨⟨by decide, by decide, by decide, by decide, by decide, fun i hi => ?_⟩, ?_⟩
  · have e : (Int.toNat 0 + i) = i := by simp
    rw [e]
    simp (disch := omega) only [ev_upj, cpj]
    exact hb i (by simpa using hi)
  rintro _ rfl
  refine ⟨by decide, ?_⟩
  rintro _ rfl
  rintro _ rfl
  refine ⟨by decide, ?_⟩
  rintro _ rfl
  refine ⟨by decide, ?_⟩
  rintro _ rfl
  refine ⟨by decide, ?_⟩
  rintro _ rfl
  rintro _ rfl
  refine ⟨by decide, ?_⟩
  rintro _ rfl
  rintro _ rfl
  refine ⟨by decide, ?_⟩
  rintro _ rfl
  refine sp_lcopy hk4 hj4 (by omega) (fun s' y4 y5 y1 y2 y3 yf => ?_)
  refine h _ ⟨fun i hi => ?_, fun i hi => ?_, fun i hi => ?_, fun i hi => ?_, fun i hi => ?_, fun i hi => ?_, fun i hi => ?_, fun i hi => ?_, fun i hi => ?_, ?_, fun i hi => ?_, fun i hi => ?_, fun i hi => ?_⟩ (fun c hc => ?_)
  · rw [yf k (by omega)]
    rcases hi with rfl | rfl | rfl | rfl | rfl | rfl | rfl <;> simp (disch := omega) only [ev_up_ne, cpj, ev_up_same]
  · rw [yf _ (by omega)]; simp (disch := omega) only [ev_upj, cpj, cpk]
  · rw [yf _ (by omega)]; simp (disch := omega) only [ev_upj, cpj, cpk]
  · rw [yf _ (by omega)]; simp (disch := omega) only [ev_upj, cpj, cpk]
  · rw [yf _ (by omega)]; simp (disch := omega) only [ev_upj, cpj, cpk]
  · rw [yf _ (by omega)]; simp (disch := omega) only [ev_upj, cpj, cpk]
  · rw [yf _ (by omega)]; simp (disch := omega) only [ev_upj, cpj, cpk]
  · rw [yf _ (by omega)]; simp (disch := omega) only [ev_upj, cpj, cpk]
  · rw [yf _ (by omega)]; simp (disch := omega) only [ev_upj, cpj, cpk]
  · rw [y5]; simp (disch := omega) only [ev_upj, cpj]
  · rw [show k + 10 = k + 9 + 1 by omega, y1 i hi]; simp (disch := omega) only [ev_upj, cpj]
  · rw [show k + 11 = k + 9 + 2 by omega, y2 i hi]; simp (disch := omega) only [ev_upj, cpj]
  · rw [show k + 12 = k + 9 + 3 by omega, y3 i hi]; simp (disch := omega) only [ev_upj, cpj]
  · rw [yf _ (by omega)]; simp (disch := omega) only [ev_upj, cpj]
theorem XT_tcp {k j : Nat} {s s' T : ev_S} {N A NO MI : Nat} (hT : m_tok T N A NO MI) (hw : ∀ w, w < N → T 21 w ≤ 600) (hX : XT s j T) (h : tcp k j s s') : XT s' k T := by
  obtain ⟨hdim, ⟨hN, hN8⟩, ⟨hA, hA6⟩, ⟨hO, hO6⟩, ⟨hM, hM10⟩, hg, hpa, hpok, hmok, hlok⟩ := hT
  obtain ⟨x1, x2, x3, x4, x5, x6, x7⟩ := hX
  obtain ⟨t0, t1, t2, t3, t4, t5, t6, t7, t8, t9, t10, t11, t12⟩ := h
  refine ⟨?_, fun i hi => by rw [t1 i hi]; exact x2 i hi, fun w hw2 => ?_, fun a ha => ?_, fun o ho => ?_, fun i hi cc hc => ?_, ?_⟩
  · rw [t0 0 (by omega), t0 1 (by omega), t0 2 (by omega), t0 4 (by omega), t0 7 (by omega), t0 11 (by omega), t0 13 (by omega)]; exact x1
  · obtain ⟨y1, y2⟩ := x3 w hw2
    have h6 := hw w (by omega)
    exact ⟨by rw [t3 w (by omega)]; exact y1, fun i hi => by rw [t2 _ (by omega)]; exact y2 i hi⟩
  · obtain ⟨y1, y2, y3⟩ := x4 a ha
    have h40 := (hpok a (by omega)).2.1
    refine ⟨by rw [t4 a (by omega)]; exact y1, by rw [t6 a (by omega)]; exact y2, fun i hi => ?_⟩
    rw [t5 _ (by omega), t5 _ (by omega)]; exact y3 i hi
  · rw [t7 _ (by omega), t7 _ (by omega), t7 _ (by omega)]; exact x5 o ho
  · rw [t8 _ (by omega)]; exact x6 i hi cc hc
  · exact XLg_cp x7 hlok.1.2 t9 t10 t11 t12
theorem sp_bcopy {d k j : Nat} {s : ev_S} {Q : Option ev_V → ev_S → Prop} (hk : is_X0 k) (hj : is_X0 j) (hd : k + 1 < j ∨ j + 1 < k) (h : ∀ s', (∀ i, i < 500 → s' (k + 1) i = s (j + 1) i) → (∀ c, c ≠ k + 1 → s' c = s c) → Q none s') : Ev layX M_X0_copyFrom (d + 1) 0 [(0, ev_r k), (1, ev_r j)] [] s Q := by
  refine wp_X0_copyFrom_0 hk hj ⟨by decide, ?_⟩
  rintro _ rfl
  refine h _ (fun i hi => ?_) (fun c hc => ?_)
  · simp [ev_cp, hi]
  · funext i; simp [ev_cp, hc]
/-- a copy of all that is: from the cells at j (town), j2 (course), j3 (book) -/
theorem sp_take {d : Nat} {s T : ev_S} {N A NO MI : Nat} {r B : Nat → Int} {Q : Option ev_V → ev_S → Prop} (hT : m_tok T N A NO MI) (hr : m_rok T N A (r, B)) (hX : XT s 1 T) (hC : XC s 15 r) (hB : XB s 28 B (r 2).toNat) (hb : ∀ i, i < 4800 → -128 ≤ s 3 i ∧ s 3 i ≤ 127) (h : ∀ s', XT s' 104 T → XC s' 118 r → XB s' 131 B (r 2).toNat → (∀ i, i < 4800 → s' 106 i = s 3 i) → s' 103 3 = 1 → (∀ c, (c < 103 ∨ c = 117 ∨ c = 130 ∨ 131 < c) → s' c = s c) → Q none s') : Ev layX M_X6_take (d + 3) 0 [(0, ev_r 103), (1, ev_r 1), (2, ev_r 15), (3, ev_r 27)] [] s Q := by
  refine wp_X6_take_0 is_X10_1 is_X2_15 is_X0_27 (sp_tcopy is_X10_104 is_X10_1 is_X4_113 is_X4_10 (by omega) hb (fun s1 y1 y2 => ?_))
  refine sp_copyFrom is_X2_118 is_X2_15 (by omega) (XC_keep hC (fun c c1 c2 => y2 c (by omega))) (fun s2 z1 z2 => ?_)
  refine sp_bcopy is_X0_130 is_X0_27 (by omega) (fun s3 x1 x2 => ?_)
  rintro _ rfl
  have r2 := hr.2.1
  simp only at r2
  refine h _ ?_ ?_ (fun i hi => ?_) (fun i hi => ?_) (ev_up_same _ _ _ _) (fun c hc => ?_)
  · refine XT_keep (XT_tcp hT (fun w hw => (hr.2.2.1 w hw).1.2.2.2.2.2) hX y1) (fun c c1 c2 => ?_)
    rw [ev_upj _ _ (by omega), x2 c (by omega), z2 c (by omega)]
  · refine XC_keep z1 (fun c c1 c2 => ?_)
    rw [ev_upj _ _ (by omega), x2 c (by omega)]
  · rw [ev_upj _ _ (by omega), x1 i (by omega), z2 28 (by omega), y2 28 (by omega)]; exact hB i hi
  · rw [ev_upj _ _ (by omega), x2 106 (by omega), z2 106 (by omega)]; exact y1.2.2.1 i hi
  · rw [ev_upj _ _ (by omega), x2 c (by omega), z2 c (by omega), y2 c (by omega)]
theorem sp_giveBack {d : Nat} {s T : ev_S} {N A NO MI : Nat} {r B : Nat → Int} {Q : Option ev_V → ev_S → Prop} (hT : m_tok T N A NO MI) (hr : m_rok T N A (r, B)) (hX : XT s 104 T) (hC : XC s 118 r) (hB : XB s 131 B (r 2).toNat) (hb : ∀ i, i < 4800 → -128 ≤ s 106 i ∧ s 106 i ≤ 127) (h : ∀ s', XT s' 1 T → XC s' 15 r → XB s' 28 B (r 2).toNat → (∀ i, i < 4800 → s' 3 i = s 106 i) → (∀ c, (c < 1 ∨ c = 14 ∨ c = 27 ∨ 28 < c) → s' c = s c) → Q none s') : Ev layX M_X6_giveBack (d + 3) 0 [(0, ev_r 103), (1, ev_r 1), (2, ev_r 15), (3, ev_r 27)] [] s Q := by
  refine wp_X6_giveBack_0 is_X10_1 is_X2_15 is_X0_27 (sp_tcopy is_X10_1 is_X10_104 is_X4_10 is_X4_113 (by omega) hb (fun s1 y1 y2 => ?_))
  refine sp_copyFrom is_X2_15 is_X2_118 (by omega) (XC_keep hC (fun c c1 c2 => y2 c (by omega))) (fun s2 z1 z2 => ?_)
  refine sp_bcopy is_X0_27 is_X0_130 (by omega) (fun s3 x1 x2 => ?_)
  have r2 := hr.2.1
  simp only at r2
  refine h _ ?_ ?_ (fun i hi => ?_) (fun i hi => ?_) (fun c hc => ?_)
  · refine XT_keep (XT_tcp hT (fun w hw => (hr.2.2.1 w hw).1.2.2.2.2.2) hX y1) (fun c c1 c2 => ?_)
    rw [x2 c (by omega), z2 c (by omega)]
  · refine XC_keep z1 (fun c c1 c2 => ?_)
    rw [x2 c (by omega)]
  · rw [x1 i (by omega), z2 131 (by omega), y2 131 (by omega)]; exact hB i hi
  · rw [x2 3 (by omega), z2 3 (by omega)]; exact y1.2.2.1 i hi
  · rw [x2 c (by omega), z2 c (by omega), y2 c (by omega)]
end
