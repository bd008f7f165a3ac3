/-! what was told, as far as it is asked: drafts of texts lie behind it in the same cells -/
def tr (T T' : ev_S) : Prop := (T' 0 6 = T 0 6 ∧ T' 0 7 = T 0 7 ∧ T' 0 8 = T 0 8 ∧ T' 0 10 = T 0 10 ∧ T' 0 11 = T 0 11 ∧ T' 0 12 = T 0 12 ∧ T' 0 46 = T 0 46) ∧ (∀ k, k < 5 → T' 4 k = T 4 k) ∧ (∀ a, a < 6 → T' 5 a = T 5 a ∧ T' 6 a = T 6 a ∧ T' 7 a = T 7 a ∧ T' 8 a = T 8 a ∧ T' 27 a = T 27 a) ∧ (∀ i, i < 4800 → T' 20 i = T 20 i) ∧ (∀ w, w < 8 → T' 21 w = T 21 w) ∧ (∀ i, i < 70 → T' 24 i = T 24 i) ∧ (∀ i, i < 240 → T' 25 i = T 25 i ∧ T' 26 i = T 26 i)
def trl (T T' : ev_S) : Prop := T' 0 25 = T 0 25 ∧ (∀ j, j < 16 → T' 12 j = T 12 j ∧ T' 13 j = T 13 j ∧ T' 14 j = T 14 j) ∧ (∀ i, i < 400 → T' 15 i = T 15 i ∧ T' 16 i = T 16 i)
theorem tr_of {T T' : ev_S} (h : tl T T') : tr T T' := by
  obtain ⟨⟨a1, a2, a3, a4, a5, a6, a7, a8⟩, ⟨b1, b2, b3, b4, b5⟩, -, ⟨c1, c2, c3, c4, c5, c6⟩⟩ := h
  exact ⟨⟨a1, a2, a3, a4, a5, a6, a8⟩, fun k _ => by rw [b1], fun a _ => ⟨by rw [b2], by rw [b3], by rw [b4], by rw [b5], by rw [c6]⟩, fun i _ => by rw [c1], fun w _ => by rw [c2], fun i _ => by rw [c3], fun i _ => ⟨by rw [c4], by rw [c5]⟩⟩
theorem trl_of {T T' : ev_S} (h : tl T T') : trl T T' := by
  obtain ⟨⟨a1, a2, a3, a4, a5, a6, a7, a8⟩, -, ⟨b1, b2, b3, b4, b5⟩, -⟩ := h
  exact ⟨a7, fun j _ => ⟨by rw [b1], by rw [b2], by rw [b3]⟩, fun i _ => ⟨by rw [b4], by rw [b5]⟩⟩
theorem tr_sy {T T' : ev_S} (h : tr T T') : tr T' T := by
  obtain ⟨⟨a1, a2, a3, a4, a5, a6, a8⟩, b, c, d, e, f, g⟩ := h
  exact ⟨⟨a1.symm, a2.symm, a3.symm, a4.symm, a5.symm, a6.symm, a8.symm⟩, fun k q => (b k q).symm, fun a q => ⟨(c a q).1.symm, (c a q).2.1.symm, (c a q).2.2.1.symm, (c a q).2.2.2.1.symm, (c a q).2.2.2.2.symm⟩, fun i q => (d i q).symm, fun i q => (e i q).symm, fun i q => (f i q).symm, fun i q => ⟨(g i q).1.symm, (g i q).2.symm⟩⟩
theorem trl_sy {T T' : ev_S} (h : trl T T') : trl T' T := ⟨h.1.symm, fun j q => ⟨(h.2.1 j q).1.symm, (h.2.1 j q).2.1.symm, (h.2.1 j q).2.2.symm⟩, fun j q => ⟨(h.2.2 j q).1.symm, (h.2.2 j q).2.symm⟩⟩
theorem tr_pl {T T' : ev_S} (h : tr T T') (p : Int) : m_pl T' p = m_pl T p := by unfold m_pl; rw [h.1.1, h.1.2.1]
theorem tr_wok {T T' : ev_S} (h : tr T T') {r : Nat → Int} {w : Nat} (hw : w < 8) : m_wok T' r w = m_wok T r w := by unfold m_wok; rw [tr_pl h, h.2.2.2.2.1 w hw]
theorem tr_aok {T T' : ev_S} (h : tr T T') {r : Nat → Int} {a : Nat} (ha : a < 6) : m_aok T' r a = m_aok T r a := by unfold m_aok; rw [tr_pl h, tr_pl h, (h.2.2.1 a ha).2.2.2.2]
theorem tr_rok {T T' : ev_S} (h : tr T T') {N A : Nat} (hN : N ≤ 8) (hA : A ≤ 6) {z : (Nat → Int) × (Nat → Int)} (hr : m_rok T N A z) : m_rok T' N A z := by
  obtain ⟨r1, r2, r3, r4, r5⟩ := hr
  exact ⟨r1, r2, fun w hw => by rw [tr_wok h (by omega)]; exact r3 w hw, fun a ha => by rw [tr_aok h (by omega)]; exact r4 a ha, r5⟩
theorem m_lty_cong {op ar op' ar' : Nat → Int} {lo hi : Nat} (h : ∀ i, lo ≤ i → i < hi → op' i = op i ∧ ar' i = ar i) : ∀ (n i t : Nat) (tg : Nat → Bool), i + n ≤ hi → lo ≤ i → (lo < i ∨ t = 0) → m_lty op ar i n t tg → m_lty op' ar' i n t tg
  | 0, i, t, tg, _, _, _, q => q
  | n + 1, i, t, tg, hi1, hlo, hp, q => by
    obtain ⟨e1, e2⟩ := h i hlo (by omega)
    simp only [m_lty] at q ⊢
    rw [e1, e2]
    rcases q with q | q | q | q | q | q
    · exact Or.inl ⟨q.1, q.2.1, m_lty_cong h n (i + 1) _ _ (by omega) (by omega) (by omega) q.2.2⟩
    · exact Or.inr (Or.inl ⟨q.1, q.2.1, q.2.2.1, m_lty_cong h n (i + 1) _ _ (by omega) (by omega) (by omega) q.2.2.2⟩)
    · exact Or.inr (Or.inr (Or.inl ⟨q.1, q.2.1, q.2.2.1, m_lty_cong h n (i + 1) _ _ (by omega) (by omega) (by omega) q.2.2.2⟩))
    · refine Or.inr (Or.inr (Or.inr (Or.inl ⟨q.1, q.2.1, fun e => ?_, m_lty_cong h n (i + 1) _ _ (by omega) (by omega) (by omega) q.2.2.2⟩)))
      have hi2 : lo < i := by have := q.2.1; omega
      obtain ⟨f1, f2⟩ := h (i - 1) (by omega) (by omega)
      rw [f1, f2]; exact q.2.2.1 e
    · exact Or.inr (Or.inr (Or.inr (Or.inr (Or.inl ⟨q.1, q.2.1, m_lty_cong h n (i + 1) _ _ (by omega) (by omega) (by omega) q.2.2⟩))))
    · exact Or.inr (Or.inr (Or.inr (Or.inr (Or.inr ⟨q.1, q.2.1, q.2.2.1, q.2.2.2.1, m_lty_cong h n (i + 1) _ _ (by omega) (by omega) (by omega) q.2.2.2.2⟩))))
theorem tr_lok {T T' : ev_S} (h : trl T T') (hl : m_lok T) : m_lok T' := by
  obtain ⟨l1, l2⟩ := hl
  refine ⟨by rw [h.1]; exact l1, fun j hj => ?_⟩
  rw [h.1] at hj
  obtain ⟨-, e13, e14⟩ := h.2.1 j (by omega)
  obtain ⟨k1, k2⟩ := l2 j hj
  rw [e13, e14]
  exact ⟨k1, fun q => m_lty_cong (lo := (T 13 j).toNat) (hi := 400) (fun i _ hi => h.2.2 i hi) _ _ _ _ (by omega) (Nat.le_refl _) (Or.inr rfl) (k2 q)⟩
theorem tr_tok {T T' : ev_S} (h : tr T T') (hl : trl T T') {N A NO MI : Nat} (hT : m_tok T N A NO MI) : m_tok T' N A NO MI := by
  obtain ⟨hdim, ⟨hN, hN8⟩, ⟨hA, hA6⟩, ⟨hO, hO6⟩, ⟨hM, hM10⟩, hg, hpa, hpok, hmok, hlok⟩ := hT
  obtain ⟨⟨a1, a2, a3, a4, a5, a6, a8⟩, b, c, d, e, f, g⟩ := h
  refine ⟨by unfold m_dim; rw [a1, a2]; exact hdim, ⟨by rw [a4]; exact hN, hN8⟩, ⟨by rw [a5]; exact hA, hA6⟩, ⟨by rw [a6]; exact hO, hO6⟩, ⟨by rw [a8]; exact hM, hM10⟩, by rw [a3]; exact hg, fun k hk => by rw [b k hk]; exact hpa k hk, fun a ha => ?_, fun i hi => ?_, tr_lok hl hlok⟩
  · obtain ⟨p1, p2, p3⟩ := hpok a ha
    obtain ⟨c5, -, -, -, c27⟩ := c a (by omega)
    refine ⟨by rw [c5]; exact p1, by rw [c27]; exact p2, fun i hi => ?_⟩
    rw [c27] at hi
    obtain ⟨g1, g2⟩ := g (40 * a + i) (by omega)
    rw [g1, g2]
    have hp := p3 i hi
    unfold m_pl at hp ⊢
    rw [a1, a2]; exact hp
  · have hm := hmok i hi
    unfold m_mok m_pl at hm ⊢
    rw [f (7 * i) (by omega), f (7 * i + 1) (by omega), f (7 * i + 2) (by omega), f (7 * i + 3) (by omega), f (7 * i + 4) (by omega), f (7 * i + 5) (by omega), f (7 * i + 6) (by omega), a1, a2, a4]
    exact hm
/-- the class's Town against what was told -/
theorem tr_XT {σ : ev_S} {K : Nat} {T T' : ev_S} (h : tr T T') (hl : trl T T') {N A NO MI : Nat} (hT : m_tok T N A NO MI) (hw : ∀ w, w < N → T 21 w ≤ 600) (hx : XT σ K T) : XT σ K T' := by
  obtain ⟨hdim, ⟨hN, hN8⟩, ⟨hA, hA6⟩, ⟨hO, hO6⟩, ⟨hM, hM10⟩, hg, hpa, hpok, hmok, hlok⟩ := hT
  obtain ⟨⟨a1, a2, a3, a4, a5, a6, a8⟩, b, c, d, e, f, g⟩ := h
  obtain ⟨x1, x2, x3, x4, x5, x6, x7⟩ := hx
  refine ⟨by rw [a1, a2, a3, a4, a5, a6, a8]; exact x1, fun k hk => by rw [b k hk]; exact x2 k hk, fun w hw2 => ?_, fun a ha => ?_, fun o ho => ?_, fun i hi cc hc => ?_, ?_⟩
  · rw [a4] at hw2
    obtain ⟨y1, y2⟩ := x3 w hw2
    have h21 := e w (by omega)
    have h6 := hw w (by omega)
    refine ⟨by rw [h21]; exact y1, fun i hi => ?_⟩
    rw [h21] at hi
    rw [d (600 * w + i) (by omega)]; exact y2 i hi
  · rw [a5] at ha
    obtain ⟨y1, y2, y3⟩ := x4 a ha
    obtain ⟨c5, -, -, -, c27⟩ := c a (by omega)
    have h40 := (hpok a (by omega)).2.1
    refine ⟨by rw [c5]; exact y1, by rw [c27]; exact y2, fun i hi => ?_⟩
    rw [c27] at hi
    obtain ⟨g1, g2⟩ := g (40 * a + i) (by omega)
    rw [g1, g2]; exact y3 i hi
  · rw [a6] at ho
    obtain ⟨-, c6, c7, c8, -⟩ := c o (by omega)
    rw [c6, c7, c8]; exact x5 o ho
  · rw [a8] at hi
    rw [f (7 * i + cc) (by omega)]; exact x6 i hi cc hc
  · obtain ⟨l1, l2⟩ := hlok
    obtain ⟨z1, ff, z2⟩ := x7
    refine ⟨by rw [hl.1]; exact z1, ff, fun j hj => ?_⟩
    rw [hl.1] at hj
    obtain ⟨e12, e13, e14⟩ := hl.2.1 j (by omega)
    have q := z2 j hj
    have l3 := (l2 j hj).1
    rw [e12, e13, e14]
    refine ⟨q.1, q.2.1, q.2.2.1, q.2.2.2.1, q.2.2.2.2.1, q.2.2.2.2.2.1, fun i i1 i2 => ?_⟩
    obtain ⟨e15, e16⟩ := hl.2.2 i (by omega)
    rw [e15, e16]
    exact q.2.2.2.2.2.2 i i1 i2
/-! what is foreseen, and who sees to what -/
theorem tr_step {T T' : ev_S} (h : tr T T') (p way : Int) : m_step T' p way = m_step T p way := by unfold m_step; rw [h.1.1, h.1.2.1]
theorem tr_ward {T T' : ev_S} (h : tr T T') {w : Nat} {r : Nat → Int} (hw : w < 8) (h6 : T 21 w ≤ 600) (h0 : 0 ≤ r (19 + w)) : m_ward T' w r = m_ward T w r := by
  unfold m_ward
  rw [h.2.2.2.2.1 w hw]
  by_cases c1 : 0 < r (11 + w)
  · rw [if_pos c1, if_pos c1]
  · rw [if_neg c1, if_neg c1]
    by_cases c2 : r (19 + w) < T 21 w
    · rw [if_pos c2, if_pos c2, h.2.2.2.1 (600 * w + (r (19 + w)).toNat) (by omega), tr_step h]
    · rw [if_neg c2, if_neg c2]
theorem tr_wards {T T' : ev_S} (h : tr T T') {N : Nat} {r : Nat → Int} (hx : T 0 6 ≤ 0) (hN : N ≤ 8) (hw : ∀ v, v < N → m_wok T r v) : ∀ n, n ≤ N → m_wards T' r n = m_wards T r n
  | 0, _ => rfl
  | n + 1, hn => by
    have ok := m_wards_ok hx hN hw n (by omega) n (by omega)
    simp only [m_wards]
    rw [tr_wards h hx hN hw n (by omega), tr_ward h (by omega) ok.2.2.2.2.2 ok.2.2.2.1]
theorem tr_pre {T T' : ev_S} (h : tr T T') {N : Nat} {r : Nat → Int} (hx : T 0 6 ≤ 0) (hN : N ≤ 8) (hw : ∀ v, v < N → m_wok T r v) : ∀ t, m_pre T' N r t = m_pre T N r t
  | 0 => rfl
  | t + 1 => by
    simp only [m_pre]
    rw [tr_pre h hx hN hw t, tr_wards h hx hN (m_pre_ok hx hN hw t) N (Nat.le_refl N)]
theorem tr_row {T T' : ev_S} (h : tr T T') {N : Nat} {r : Nat → Int} (hx : T 0 6 ≤ 0) (hN : N ≤ 8) (hw : ∀ v, v < N → m_wok T r v) (t : Nat) : m_row T' N r t = m_row T N r t := by
  unfold m_row
  rw [tr_pre h hx hN hw t, tr_wards h hx hN (m_pre_ok hx hN hw t) N (Nat.le_refl N)]
theorem tr_comes {T T' : ev_S} (h : tr T T') {N i : Nat} {r : Nat → Int} (hi : i < 10) : m_comes T' N r i = m_comes T N r i := by
  unfold m_comes
  rw [h.2.2.2.2.2.1 (7 * i + 1) (by omega), h.2.2.2.2.2.1 (7 * i + 2) (by omega), h.2.2.2.2.2.1 (7 * i + 3) (by omega), h.2.2.2.2.2.1 (7 * i + 4) (by omega)]
theorem tr_seen {T T' : ev_S} (h : tr T T') {N i : Nat} {r : Nat → Int} (hx : T 0 6 ≤ 0) (hN : N ≤ 8) (hw : ∀ v, v < N → m_wok T r v) (hi : i < 10) : ∀ n, m_seen T' N r i n = m_seen T N r i n
  | 0 => rfl
  | n + 1 => by
    simp only [m_seen]
    rw [tr_seen h hx hN hw hi n, tr_row h hx hN hw, tr_comes h hi]
section Tr
variable {T T' : ev_S} {N : Nat} {r : Nat → Int}
theorem tr_sees (h : tr T T') (hx : T 0 6 ≤ 0) (hN : N ≤ 8) (hw : ∀ v, v < N → m_wok T r v) {i : Nat} (hi : i < 10) : m_sees T' N r i = m_sees T N r i := by unfold m_sees; exact tr_seen h hx hN hw hi _
theorem tr_wall (h : tr T T') (hx : T 0 6 ≤ 0) (hN : N ≤ 8) (hw : ∀ v, v < N → m_wok T r v) : ∀ n, n ≤ 10 → w_all T' N r n = w_all T N r n
  | 0, _ => rfl
  | n + 1, hn => by simp only [w_all]; rw [tr_wall h hx hN hw n (by omega), tr_sees h hx hN hw (by omega)]
theorem tr_pc (h : tr T T') (hx : T 0 6 ≤ 0) (hN : N ≤ 8) (hw : ∀ v, v < N → m_wok T r v) : ∀ n, n ≤ 10 → w_pc T' N r n = w_pc T N r n
  | 0, _ => rfl
  | n + 1, hn => by simp only [w_pc]; rw [tr_pc h hx hN hw n (by omega), tr_sees h hx hN hw (by omega)]
theorem tr_pp (h : tr T T') (hx : T 0 6 ≤ 0) (hN : N ≤ 8) (hw : ∀ v, v < N → m_wok T r v) : ∀ n, n ≤ 10 → w_pp T' N r n = w_pp T N r n
  | 0, _ => by funext k; rfl
  | n + 1, hn => by
    funext k
    simp only [w_pp]
    rw [tr_pp h hx hN hw n (by omega), tr_pc h hx hN hw n (by omega), tr_sees h hx hN hw (by omega)]
theorem w_fe_cong {a0 a0' : Nat → Int} {fa fa' : Nat → Nat → Int} {lo lo' hi hi' : Nat → Int} (h1 : ∀ i, i < 10 → a0' i = a0 i) (h2 : ∀ i j, i < 10 → j < 10 → fa' i j = fa i j) (h3 : ∀ i, i < 10 → lo' i = lo i) (h4 : ∀ i, i < 10 → hi' i = hi i) : ∀ l : List Nat, (∀ i, i ∈ l → i < 10) → w_tm a0' fa' lo' l = w_tm a0 fa lo l ∧ (w_fe a0' fa' lo' hi' l ↔ w_fe a0 fa lo hi l)
  | [], _ => ⟨rfl, Iff.rfl⟩
  | i :: l, hl => by
    obtain ⟨e1, e2⟩ := w_fe_cong h1 h2 h3 h4 l (fun j hj => hl j (List.mem_cons_of_mem _ hj))
    have hi9 := hl i List.mem_cons_self
    have e3 : w_tm a0' fa' lo' (i :: l) = w_tm a0 fa lo (i :: l) := by
      simp only [w_tm]
      rw [h3 i hi9]
      cases l with
      | nil => simp only [w_dep]; rw [h1 i hi9]
      | cons j l2 => simp only [w_dep]; rw [h2 j i (hl j (List.mem_cons_of_mem _ List.mem_cons_self)) hi9, e1]
    refine ⟨e3, ?_⟩
    simp only [w_fe]
    rw [e2, e3, h4 i hi9]
theorem tr_cn (h : tr T T') (hx : T 0 6 ≤ 0) (hN : N ≤ 8) (hw : ∀ v, v < N → m_wok T r v) {a S : Nat} (ha : a < 6) (hS : ∀ i, S.testBit i = true → i < 10) : w_cn T' N r a S ↔ w_cn T N r a S := by
  have e1 : ∀ i, i < 10 → w_a0 T' r a i = w_a0 T r a i := fun i hi => by unfold w_a0; rw [h.2.2.2.2.2.1 (7 * i + 1) (by omega), (h.2.2.1 a ha).1]
  have e2 : ∀ i j, i < 10 → j < 10 → w_fa T' a i j = w_fa T a i j := fun i j hi hj => by unfold w_fa; rw [h.2.2.2.2.2.1 (7 * i + 1) (by omega), h.2.2.2.2.2.1 (7 * j + 1) (by omega), (h.2.2.1 a ha).1]
  have e3 : ∀ i, i < 10 → w_lo T' N r i = w_lo T N r i := fun i hi => by unfold w_lo; rw [tr_sees h hx hN hw hi, h.1.2.2.1]
  have e4 : ∀ i, i < 10 → w_hi T' N r i = w_hi T N r i := fun i hi => by unfold w_hi; rw [tr_sees h hx hN hw hi]
  unfold w_cn w_can
  constructor
  · rintro ⟨l, l1, l2⟩
    exact ⟨l, l1, ((w_fe_cong e1 e2 e3 e4 l (fun i hi => hS i ((l1.2 i).mpr hi))).2).mp l2⟩
  · rintro ⟨l, l1, l2⟩
    exact ⟨l, l1, ((w_fe_cong e1 e2 e3 e4 l (fun i hi => hS i ((l1.2 i).mpr hi))).2).mpr l2⟩
theorem tr_ca (h : tr T T') (hx : T 0 6 ≤ 0) (hN : N ≤ 8) (hw : ∀ v, v < N → m_wok T r v) {A MI : Nat} (hA : A ≤ 6) (hM : MI ≤ 10) : w_ca T' N A MI r = w_ca T N A MI r := by
  funext a S
  apply propext
  unfold w_ca
  rw [tr_wall h hx hN hw MI hM]
  constructor
  · rintro (q | ⟨q1, q2, q3⟩)
    · exact Or.inl q
    · exact Or.inr ⟨q1, q2, (tr_cn h hx hN hw (by omega) (fun i hi => by have := (tb_all.mp (q2 i hi)).1; omega)).mp q3⟩
  · rintro (q | ⟨q1, q2, q3⟩)
    · exact Or.inl q
    · exact Or.inr ⟨q1, q2, (tr_cn h hx hN hw (by omega) (fun i hi => by have := (tb_all.mp (q2 i hi)).1; omega)).mpr q3⟩
theorem rk_congw {w w' : Nat → Int} : ∀ n, (∀ i, i < n → w' i = w i) → rk w' n = rk w n
  | 0, _ => by funext S; rfl
  | n + 1, h => by
    funext S
    simp only [rk]
    rw [rk_congw n (fun i hi => h i (by omega)), h n (by omega)]
theorem tr_risk (h : tr T T') {i : Nat} (hi : i < 10) : m_risk T' i = m_risk T i := by unfold m_risk; rw [h.2.2.2.2.2.1 (7 * i) (by omega), h.2.2.2.2.2.1 (7 * i + 6) (by omega)]
theorem tr_al (h : tr T T') (hx : T 0 6 ≤ 0) (hN : N ≤ 8) (hw : ∀ v, v < N → m_wok T r v) {a MI : Nat} (ha : a < 6) (hM : MI ≤ 10) : ∀ n, n ≤ w_pc T N r MI → w_al T' N MI r a n = w_al T N MI r a n
  | 0, _ => rfl
  | n + 1, hn => by
    have hp := ((w_pp_ok (T := T) (N := N) (r := r) MI).1 n (by omega)).1
    simp only [w_al]
    rw [tr_al h hx hN hw ha hM n (by omega), tr_pp h hx hN hw MI hM, tr_sees h hx hN hw (by omega)]
    have e1 : w_a0 T' r a (w_pp T N r MI n) = w_a0 T r a (w_pp T N r MI n) := by unfold w_a0; rw [h.2.2.2.2.2.1 (7 * w_pp T N r MI n + 1) (by omega), (h.2.2.1 a ha).1]
    rw [e1]
theorem tr_XS (h : tr T T') (hx : T 0 6 ≤ 0) (hN : N ≤ 8) (hw : ∀ v, v < N → m_wok T r v) {s : ev_S} {MI : Nat} (hs : XS s T N MI r) : XS s T' N MI r := fun i hi => by
  rw [hs i hi, tr_sees h hx hN hw hi]
theorem tr_XCare (h : tr T T') (hx : T 0 6 ≤ 0) (hN : N ≤ 8) (hw : ∀ v, v < N → m_wok T r v) {s : ev_S} {A MI : Nat} (hA : A ≤ 6) (hM : MI ≤ 10) (hs : XCare s T N A MI r) : XCare s T' N A MI r := by
  have epc := tr_pc h hx hN hw MI hM
  have epp := tr_pp h hx hN hw MI hM
  have eca := tr_ca h hx hN hw hA hM
  have ewa := tr_wall h hx hN hw MI hM
  have erk : rk (m_risk T') MI = rk (m_risk T) MI := rk_congw MI (fun i hi => tr_risk h (by omega))
  have ex : w_x T' N MI r = w_x T N MI r := by funext S; unfold w_x; rw [epc, epp]
  have emx : w_mx T' N A MI r = w_mx T N A MI r := by funext G u v; unfold w_mx; rw [eca, erk, ewa]
  have emo : v_mo T' N A MI r = v_mo T N A MI r := by funext G; unfold v_mo; rw [emx]
  have eF : w_F T' N A MI r = w_F T N A MI r := by funext M f; unfold w_F; rw [eca, erk]
  have ech : v_ch T' N A MI r = v_ch T N A MI r := by unfold v_ch; rw [eF, emo]
  have efw : w_few T' N A MI r = w_few T N A MI r := by funext b; unfold w_few; rw [emo]
  have efe : v_few T' N A MI r = v_few T N A MI r := by unfold v_few; rw [efw]
  obtain ⟨⟨p, k2, k3, k4, k5⟩, c, ch, fe⟩ := hs
  have hpp := (w_pp_ok (T := T) (N := N) (r := r) MI).1
  refine ⟨⟨?_, ?_, ?_, ?_, k5⟩, ?_, ?_, ?_⟩
  · unfold XP
    rw [epc, epp]
    refine ⟨p.1, fun n hn => ?_⟩
    have hlt := (hpp n hn).1
    rw [tr_sees h hx hN hw (by omega)]
    exact p.2 n hn
  · rw [epc]
    intro S hS
    rw [k2 S hS]
    unfold w_rk
    rw [epc, epp]
    exact (congrFun (rk_congw _ (fun n hn => tr_risk h (by have := (hpp n hn).1; omega))) S).symm
  · rw [epc]
    intro a ha
    rw [k3 a ha, tr_al h hx hN hw (by omega) hM _ (Nat.le_refl _)]
  · unfold XWi; rw [epc, eca, ex]; exact k4
  · unfold XCov XKr
    rw [epc, eca, ex]; exact c
  · unfold XCh
    rw [epc, ex, ech]; exact ch
  · rw [efe]; exact fe
end Tr
