section
/-! THE LAW: codes as lists, and what they do to the stack -/
def cO (c : List (Int × Int)) : Nat → Int := fun i => (c.getD i (0, 0)).1
def cA (c : List (Int × Int)) : Nat → Int := fun i => (c.getD i (0, 0)).2
theorem c_snoc {c : List (Int × Int)} {x y : Int} : ∀ i, i < c.length + 1 → cO (c ++ [(x, y)]) i = rup (cO c) c.length x i ∧ cA (c ++ [(x, y)]) i = rup (cA c) c.length y i := by
  intro i hi
  unfold cO cA rup
  simp only [List.getD, List.getElem?_append]
  by_cases e : i = c.length
  · subst e
    rw [if_pos rfl, if_pos rfl, if_neg (by omega), Nat.sub_self]
    exact ⟨rfl, rfl⟩
  · rw [if_neg e, if_neg e, if_pos (by omega)]
    exact ⟨rfl, rfl⟩
def xls (b : Nat → Int) (L n : Nat) (σ0 : ev_S) (c : List (Int × Int)) (σ : ev_S) (j : Nat) : Prop := xl b L n σ0 (cO c) (cA c) c.length σ j
def mls (b : Nat → Int) (L : Nat) (s0 : ev_S) (c : List (Int × Int)) (s : ev_S) (j : Nat) : Prop := ml b L s0 (cO c) (cA c) c.length s j
def FL (b : Nat → Int) (L : Nat) (σ0 : ev_S) (k i : Nat) (σ' : ev_S) : Prop := FX b L σ0 k i σ' ∧ 0 ≤ σ' 139 4
theorem xls_adv {b : Nat → Int} {L n j i : Nat} {σ0 σ : ev_S} {c : List (Int × Int)} (h : xls b L n σ0 c σ j) : xls b L n σ0 c (adv b L σ i) i := xl_adv h
theorem xls_ft {b : Nat → Int} {L n j k i : Nat} {σ0 σ : ev_S} {c : List (Int × Int)} (h : xls b L n σ0 c σ j) : FL b L σ0 k i (ftx b L σ k i) := ⟨xl_ft h, by rw [ftx_c (by omega), h.2.2.2.1]; omega⟩
theorem xls_snoc {b : Nat → Int} {L n j : Nat} {σ0 σ : ev_S} {c : List (Int × Int)} {x y : Int} (h : xl b L n σ0 (rup (cO c) c.length x) (rup (cA c) c.length y) (c.length + 1) σ j) : xls b L n σ0 (c ++ [(x, y)]) σ j := by
  unfold xls
  rw [List.length_append, List.length_singleton]
  exact xl_row h c_snoc
theorem mls_snoc {b : Nat → Int} {L j : Nat} {s0 s : ev_S} {c : List (Int × Int)} {x y : Int} (h : ml b L s0 (rup (cO c) c.length x) (rup (cA c) c.length y) (c.length + 1) s j) : mls b L s0 (c ++ [(x, y)]) s j := by
  unfold mls
  rw [List.length_append, List.length_singleton]
  exact ml_row h c_snoc
theorem xs_emit {d n L j : Nat} {σ0 σ : ev_S} {b : Nat → Int} {c : List (Int × Int)} {x y z : Int} {Q : Option ev_V → ev_S → Prop} (hx : xls b L n σ0 c σ j) (hl : c.length < 400) (hxx : x = 1 ∨ 2 ≤ x) (hz : z = if x = 1 then y else x + 8) (h : ∀ σ', xls b L n σ0 (c ++ [(x, y)]) σ' j → Q none σ') : Ev layX M_X4_emit d 0 [(0, ev_r 139), (1, ev_i z)] [] σ Q := sp_emit1 hx hl hxx hz (fun σ' h' => h σ' (xls_snoc h'))
theorem xs_emit2 {d n L j : Nat} {σ0 σ : ev_S} {b : Nat → Int} {c : List (Int × Int)} {Q : Option ev_V → ev_S → Prop} (hx : xls b L n σ0 c σ j) (hl : c.length < 400) (h : ∀ s7, AX b L n s7 j → (∀ (y : Int) (R : Option ev_V → ev_S → Prop), (∀ v s9, xls b L n σ0 (c ++ [(0, y)]) s9 j → R v s9) → Ev layX M_X4_emit d 0 [(0, ev_r 139), (1, ev_i y)] [] s7 R) → Q none s7) : Ev layX M_X4_emit d 0 [(0, ev_r 139), (1, ev_i 9)] [] σ Q :=
  sp_emit2 hx hl (fun s7 a1 a2 => h s7 a1 (fun y R hR => Ev_mono (fun v s9 e => hR v s9 (xls_snoc e)) (a2 y)))
theorem ms_emits {d L j : Nat} {s0 s : ev_S} {b : Nat → Int} {c : List (Int × Int)} {x y : Int} {Q : Option ev_V → ev_S → Prop} (h : mls b L s0 c s j) (hl : c.length < 400) (k : ∀ s', mls b L s0 (c ++ [(x, y)]) s' j → Q none s') : Ev layM M_X12_emits d 0 [(0, ev_r 0), (1, ev_i x), (2, ev_i y)] [] s Q := sp_emits h hl (fun s' h' => k s' (mls_snoc h'))
theorem ms_rd {d L j : Nat} {s0 s : ev_S} {b : Nat → Int} {c : List (Int × Int)} {Q : Option ev_V → ev_S → Prop} (h : mls b L s0 c s j) (k : ∀ s', mls b L s0 c s' (j + 1) → Q none s') : Ev layM M_X12_reads (d + 2) 0 [(0, ev_r 0)] [] s Q := sp_rd h.1 (fun s' y1 y2 => k s' (ml_rd h y1 y2))
/-! the stack -/
def atl (op ar : Nat → Int) : Nat → List (Int × Int) → Prop
  | _, [] => True
  | i, p :: c => op i = p.1 ∧ ar i = p.2 ∧ atl op ar (i + 1) c
theorem atl_app {op ar : Nat → Int} : ∀ {c c' : List (Int × Int)} {i : Nat}, atl op ar i (c ++ c') → atl op ar i c ∧ atl op ar (i + c.length) c'
  | [], _, _, h => ⟨trivial, h⟩
  | p :: c, c', i, h => by
    have := atl_app (c := c) (c' := c') h.2.2
    exact ⟨⟨h.1, h.2.1, this.1⟩, by rw [List.length_cons, show i + (c.length + 1) = i + 1 + c.length by omega]; exact this.2⟩
def SG (e : Nat) (bt : Bool) (c : List (Int × Int)) (D : Nat) : Prop := ∀ (op ar : Nat → Int) (i m t : Nat) (tg : Nat → Bool), atl op ar i c → t + D ≤ 32 → (∀ q, t ≤ q → q < t + e → tg q = bt) → (∀ tg' : Nat → Bool, tg' t = bt → (∀ q, q < t → tg' q = tg q) → m_lty op ar (i + c.length) m (t + 1) tg') → m_lty op ar i (c.length + m) (t + e) tg
theorem SG_nil {bt : Bool} {D : Nat} : SG 1 bt [] D := by
  intro op ar i m t tg _ _ h k
  rw [List.length_nil, Nat.zero_add]
  exact k tg (h t (Nat.le_refl _) (by omega)) (fun _ _ => rfl)
theorem SG_cat {e D1 D : Nat} {bt : Bool} {c c' : List (Int × Int)} (h1 : SG 0 bt c D1) (h2 : SG (e + 1) bt c' D) (hD : D1 + e ≤ D) : SG e bt (c ++ c') D := by
  intro op ar i m t tg ha hd ht k
  obtain ⟨a1, a2⟩ := atl_app ha
  rw [List.length_append, Nat.add_assoc]
  have := h1 op ar i (c'.length + m) (t + e) tg a1 (by omega) (fun q q1 q2 => absurd q1 (by omega)) (fun tg' g1 g2 => ?_)
  · exact this
  · refine h2 op ar (i + c.length) m t tg' a2 hd (fun q q1 q2 => ?_) (fun tg2 g3 g4 => ?_)
    · by_cases c : q = t + e
      · rw [c]; exact g1
      · rw [g2 q (by omega)]; exact ht q q1 (by omega)
    · have := k tg2 g3 (fun q hq => by rw [g4 q hq]; exact g2 q (by omega))
      rw [List.length_append, ← Nat.add_assoc] at this
      exact this
theorem SG_op {e D : Nat} {bt : Bool} {x y : Int} {c' : List (Int × Int)} (h2 : SG (e + 1) bt c' D) (hx : (bt = false ∧ 2 ≤ x ∧ x ≤ 4) ∨ (bt = true ∧ 10 ≤ x ∧ x ≤ 11)) : SG (e + 2) bt ((x, y) :: c') D := by
  intro op ar i m t tg ha hd ht k
  obtain ⟨a1, a2, a3⟩ := ha
  rw [List.length_cons, show c'.length + 1 + m = c'.length + m + 1 by omega]
  simp only [m_lty]
  have key : ∀ tg' : Nat → Bool, tg' = (fun j => if j = t + (e + 2) - 2 then bt else tg j) → m_lty op ar (i + 1) (c'.length + m) (t + (e + 2) - 1) tg' := by
    rintro _ rfl
    rw [show t + (e + 2) - 1 = t + (e + 1) by omega]
    refine h2 op ar (i + 1) m t _ a3 hd (fun q q1 q2 => ?_) (fun tg2 g3 g4 => ?_)
    · show (if q = t + (e + 2) - 2 then bt else tg q) = bt
      split
      · rfl
      · exact ht q q1 (by omega)
    · have := k tg2 g3 (fun q hq => by rw [g4 q hq]; exact if_neg (by omega))
      rw [List.length_cons, show i + (c'.length + 1) = i + 1 + c'.length by omega] at this
      exact this
  rcases hx with ⟨b1, b2, b3⟩ | ⟨b1, b2, b3⟩
  · subst b1
    exact Or.inr (Or.inr (Or.inr (Or.inl ⟨by rw [a1]; exact ⟨b2, by omega⟩, by omega, fun q => by rw [a1] at q; exact absurd q (by show ¬ x = 5; omega), key _ rfl⟩)))
  · subst b1
    exact Or.inr (Or.inr (Or.inr (Or.inr (Or.inr ⟨by rw [a1]; exact ⟨b2, b3⟩, by omega, ht _ (by omega) (by omega), ht _ (by omega) (by omega), key _ rfl⟩))))
theorem SG_unit {x y : Int} (h : x = 0 ∨ (x = 1 ∧ 0 ≤ y ∧ y ≤ 8)) : SG 0 false [(x, y)] 1 := by
  intro op ar i m t tg ha hd ht k
  obtain ⟨a1, a2, -⟩ := ha
  rw [List.length_singleton, Nat.add_comm 1 m]
  simp only [m_lty]
  have key := k (fun j => if j = t then false else tg j) (if_pos rfl) (fun q hq => if_neg (by omega))
  rcases h with rfl | ⟨rfl, h1, h2⟩
  · exact Or.inl ⟨a1, by omega, key⟩
  · exact Or.inr (Or.inl ⟨a1, by omega, by rw [a2]; exact ⟨h1, h2⟩, key⟩)
theorem SG_part {v y : Int} {D : Nat} {c' : List (Int × Int)} (hv : 1 ≤ v) (h2 : SG 1 false c' D) (hD : 2 ≤ D) : SG 1 false ((0, v) :: (5, y) :: c') D := by
  intro op ar i m t tg ha hd ht k
  obtain ⟨a1, a2, a3, a4, a5⟩ := ha
  rw [List.length_cons, List.length_cons, show c'.length + 1 + 1 + m = c'.length + m + 1 + 1 by omega]
  simp only [m_lty]
  refine Or.inl ⟨a1, by omega, Or.inr (Or.inr (Or.inr (Or.inl ⟨by rw [a3]; exact ⟨by show (2 : Int) ≤ 5; omega, by show (5 : Int) ≤ 5; omega⟩, by omega, fun _ => ⟨by rw [show i + 1 - 1 = i by omega]; exact a1, by rw [show i + 1 - 1 = i by omega, a2]; exact hv⟩, ?_⟩)))⟩
  rw [show t + 1 + 1 - 1 = t + 1 by omega, show i + 1 + 1 = i + 2 by omega]
  refine h2 op ar (i + 2) m t _ (by rw [show i + 2 = i + 1 + 1 by omega]; exact a5) hd (fun q q1 q2 => if_pos (by omega)) (fun tg2 g3 g4 => ?_)
  have := k tg2 g3 (fun q hq => by rw [g4 q hq]; exact (if_neg (by omega)).trans (if_neg (by omega)))
  rw [List.length_cons, List.length_cons, show i + (c'.length + 1 + 1) = i + 2 + c'.length by omega] at this
  exact this
theorem SG_cmp {c c' : List (Int × Int)} {x y : Int} (h1 : SG 0 false c 3) (h2 : SG 0 false c' 3) (hx : 6 ≤ x ∧ x ≤ 8) : SG 0 true (c ++ (c' ++ [(x, y)])) 4 := by
  intro op ar i m t tg ha hd ht k
  obtain ⟨a1, a2⟩ := atl_app ha
  obtain ⟨a3, a4, a5, -⟩ := atl_app a2
  rw [List.length_append, List.length_append, List.length_singleton, show c.length + (c'.length + 1) + m = c.length + (c'.length + (m + 1)) by omega]
  refine h1 op ar i _ t tg a1 (by omega) (fun q q1 q2 => absurd q1 (by omega)) (fun tg1 g1 g2 => ?_)
  refine h2 op ar _ _ (t + 1) tg1 a3 (by omega) (fun q q1 q2 => absurd q1 (by omega)) (fun tg2 g3 g4 => ?_)
  simp only [m_lty]
  refine Or.inr (Or.inr (Or.inr (Or.inr (Or.inl ⟨by rw [a4]; exact hx, by omega, ?_⟩))))
  have := k (fun j => if j = t + 1 + 1 - 2 then true else tg2 j) (if_pos (by omega)) (fun q hq => (if_neg (by omega)).trans (by rw [g4 q (by omega)]; exact g2 q hq))
  rw [List.length_append, List.length_append, List.length_singleton, show i + (c.length + (c'.length + 1)) = i + c.length + c'.length + 1 by omega] at this
  rw [show t + 1 + 1 - 1 = t + 1 by omega]
  exact this
theorem SG_not {c : List (Int × Int)} {y : Int} {D : Nat} (h1 : SG 0 true c D) : SG 0 true (c ++ [(9, y)]) D := by
  intro op ar i m t tg ha hd ht k
  obtain ⟨a1, a2, -⟩ := atl_app ha
  rw [List.length_append, List.length_singleton, show c.length + 1 + m = c.length + (m + 1) by omega]
  refine h1 op ar i _ t tg a1 hd (fun q q1 q2 => absurd q1 (by omega)) (fun tg1 g1 g2 => ?_)
  simp only [m_lty]
  refine Or.inr (Or.inr (Or.inl ⟨a2, by omega, by rw [show t + 1 - 1 = t by omega]; exact g1, ?_⟩))
  have := k tg1 g1 g2
  rw [List.length_append, List.length_singleton, ← Nat.add_assoc] at this
  exact this
theorem SG_mono {e D D' : Nat} {bt : Bool} {c : List (Int × Int)} (h : SG e bt c D) (hD : D ≤ D') : SG e bt c D' := fun op ar i m t tg a1 a2 a3 a4 => h op ar i m t tg a1 (by omega) a3 a4
theorem SG_run {op ar : Nat → Int} {c : List (Int × Int)} {i D : Nat} (h : SG 0 true c D) (hD : D ≤ 32) (ha : atl op ar i c) : m_lty op ar i c.length 0 (fun _ => false) := by
  have := h op ar i 0 0 (fun _ => false) ha (by omega) (fun q q1 q2 => absurd q1 (by omega)) (fun tg' g _ => ?_)
  · exact this
  · exact ⟨rfl, g⟩
theorem atl_of {op ar : Nat → Int} : ∀ {c : List (Int × Int)} {i : Nat}, (∀ q, q < c.length → op (i + q) = cO c q ∧ ar (i + q) = cA c q) → atl op ar i c
  | [], _, _ => trivial
  | p :: c, i, h => by
    have h0 := h 0 (by rw [List.length_cons]; omega)
    refine ⟨h0.1, h0.2, atl_of (fun q hq => ?_)⟩
    have := h (q + 1) (by rw [List.length_cons]; omega)
    rw [show i + (q + 1) = i + 1 + q by omega] at this
    exact this
end
