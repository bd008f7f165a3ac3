/-! what was told is the same, whatever else the model's cells hold -/
def tl (T T' : ev_S) : Prop := (T' 0 6 = T 0 6 ∧ T' 0 7 = T 0 7 ∧ T' 0 8 = T 0 8 ∧ T' 0 10 = T 0 10 ∧ T' 0 11 = T 0 11 ∧ T' 0 12 = T 0 12 ∧ T' 0 25 = T 0 25 ∧ T' 0 46 = T 0 46) ∧ (T' 4 = T 4 ∧ T' 5 = T 5 ∧ T' 6 = T 6 ∧ T' 7 = T 7 ∧ T' 8 = T 8) ∧ (T' 12 = T 12 ∧ T' 13 = T 13 ∧ T' 14 = T 14 ∧ T' 15 = T 15 ∧ T' 16 = T 16) ∧ (T' 20 = T 20 ∧ T' 21 = T 21 ∧ T' 24 = T 24 ∧ T' 25 = T 25 ∧ T' 26 = T 26 ∧ T' 27 = T 27)
theorem tl_rf {T : ev_S} : tl T T := ⟨⟨rfl, rfl, rfl, rfl, rfl, rfl, rfl, rfl⟩, ⟨rfl, rfl, rfl, rfl, rfl⟩, ⟨rfl, rfl, rfl, rfl, rfl⟩, ⟨rfl, rfl, rfl, rfl, rfl, rfl⟩⟩
theorem tl_tr {T T' T'' : ev_S} (h : tl T T') (h2 : tl T' T'') : tl T T'' := by
  obtain ⟨⟨a1, a2, a3, a4, a5, a6, a7, a8⟩, ⟨b1, b2, b3, b4, b5⟩, ⟨c1, c2, c3, c4, c5⟩, ⟨d1, d2, d3, d4, d5, d6⟩⟩ := h
  obtain ⟨⟨e1, e2, e3, e4, e5, e6, e7, e8⟩, ⟨f1, f2, f3, f4, f5⟩, ⟨g1, g2, g3, g4, g5⟩, ⟨i1, i2, i3, i4, i5, i6⟩⟩ := h2
  exact ⟨⟨e1.trans a1, e2.trans a2, e3.trans a3, e4.trans a4, e5.trans a5, e6.trans a6, e7.trans a7, e8.trans a8⟩, ⟨f1.trans b1, f2.trans b2, f3.trans b3, f4.trans b4, f5.trans b5⟩, ⟨g1.trans c1, g2.trans c2, g3.trans c3, g4.trans c4, g5.trans c5⟩, ⟨i1.trans d1, i2.trans d2, i3.trans d3, i4.trans d4, i5.trans d5, i6.trans d6⟩⟩
theorem tl_sy {T T' : ev_S} (h : tl T T') : tl T' T := by
  obtain ⟨⟨a1, a2, a3, a4, a5, a6, a7, a8⟩, ⟨b1, b2, b3, b4, b5⟩, ⟨c1, c2, c3, c4, c5⟩, ⟨d1, d2, d3, d4, d5, d6⟩⟩ := h
  exact ⟨⟨a1.symm, a2.symm, a3.symm, a4.symm, a5.symm, a6.symm, a7.symm, a8.symm⟩, ⟨b1.symm, b2.symm, b3.symm, b4.symm, b5.symm⟩, ⟨c1.symm, c2.symm, c3.symm, c4.symm, c5.symm⟩, ⟨d1.symm, d2.symm, d3.symm, d4.symm, d5.symm, d6.symm⟩⟩
theorem tl_fr4 {T T' : ev_S} (h : fr4 T T') : tl T T' := by
  have e : ∀ c, c ≠ 1 → c ≠ 9 → c ≠ 28 → c ≠ 29 → T' c = T c := h
  refine ⟨?_, ⟨?_, ?_, ?_, ?_, ?_⟩, ⟨?_, ?_, ?_, ?_, ?_⟩, ⟨?_, ?_, ?_, ?_, ?_, ?_⟩⟩
  · rw [e 0 (by omega) (by omega) (by omega) (by omega)]; exact ⟨rfl, rfl, rfl, rfl, rfl, rfl, rfl, rfl⟩
  all_goals exact e _ (by omega) (by omega) (by omega) (by omega)
/-- cells other than the told ones, and cell 0 at other places -/
theorem tl_of {T T' : ev_S} (h0 : ∀ i, i = 6 ∨ i = 7 ∨ i = 8 ∨ i = 10 ∨ i = 11 ∨ i = 12 ∨ i = 25 ∨ i = 46 → T' 0 i = T 0 i) (h : ∀ c, c = 4 ∨ c = 5 ∨ c = 6 ∨ c = 7 ∨ c = 8 ∨ c = 12 ∨ c = 13 ∨ c = 14 ∨ c = 15 ∨ c = 16 ∨ c = 20 ∨ c = 21 ∨ c = 24 ∨ c = 25 ∨ c = 26 ∨ c = 27 → T' c = T c) : tl T T' :=
  ⟨⟨h0 6 (by omega), h0 7 (by omega), h0 8 (by omega), h0 10 (by omega), h0 11 (by omega), h0 12 (by omega), h0 25 (by omega), h0 46 (by omega)⟩, ⟨h 4 (by omega), h 5 (by omega), h 6 (by omega), h 7 (by omega), h 8 (by omega)⟩, ⟨h 12 (by omega), h 13 (by omega), h 14 (by omega), h 15 (by omega), h 16 (by omega)⟩, ⟨h 20 (by omega), h 21 (by omega), h 24 (by omega), h 25 (by omega), h 26 (by omega), h 27 (by omega)⟩⟩
theorem tl_step {T T' : ev_S} (h : tl T T') (p way : Int) : m_step T' p way = m_step T p way := by unfold m_step; rw [h.1.1, h.1.2.1]
theorem tl_ward {T T' : ev_S} (h : tl T T') (w : Nat) (r : Nat → Int) : m_ward T' w r = m_ward T w r := by unfold m_ward; rw [tl_step h, h.2.2.2.1, h.2.2.2.2.1]
theorem tl_wards {T T' : ev_S} (h : tl T T') (r : Nat → Int) : ∀ n, m_wards T' r n = m_wards T r n
  | 0 => rfl
  | n + 1 => by simp only [m_wards]; rw [tl_wards h r n, tl_ward h]
theorem tl_comes {T T' : ev_S} (h : tl T T') (N : Nat) (r : Nat → Int) (i : Nat) : m_comes T' N r i = m_comes T N r i := by unfold m_comes; rw [h.2.2.2.2.2.1]
theorem tl_line {T T' : ev_S} (h : tl T T') (B r : Nat → Int) (i : Nat) : m_line T' B r i = m_line T B r i := by unfold m_line m_keeps; rw [h.2.2.2.2.2.1, h.1.2.2.1]
theorem tl_come {T T' : ev_S} (h : tl T T') (B : Nat → Int) (th : Bool) (i : Nat) (r : Nat → Int) : m_come T' B th i r = m_come T B th i r := by unfold m_come; rw [tl_line h, h.2.2.2.2.2.1]
theorem tl_mis {T T' : ev_S} (h : tl T T') (N : Nat) (th : Bool) (B r : Nat → Int) : ∀ n, m_mis T' N th B r n = m_mis T N th B r n
  | 0 => rfl
  | n + 1 => by simp only [m_mis]; rw [tl_mis h N th B r n, tl_comes h, tl_come h]
theorem tl_law {T T' : ev_S} (h : tl T T') (q : Nat → Int) (j : Nat) : m_law T' q j = m_law T q j := by unfold m_law; rw [h.2.2.1.2.1, h.2.2.1.2.2.1, h.2.2.1.2.2.2.1, h.2.2.1.2.2.2.2]
theorem tl_wk {T T' : ev_S} (h : tl T T') (q : Nat → Int) (sp : Bool) : ∀ n j, m_wk T' q sp j n = m_wk T q sp j n
  | 0, _ => rfl
  | n + 1, j => by simp only [m_wk]; rw [tl_law h, h.2.2.1.1, tl_wk h q sp n (j + 1)]
theorem tl_spoilt {T T' : ev_S} (h : tl T T') (sec p : Int) (n : Nat) : m_spoilt T' sec p n = m_spoilt T sec p n := by unfold m_spoilt; rw [h.2.1.2.2.1, h.2.1.2.2.2.1, h.2.1.2.2.2.2]
theorem tl_works {T T' : ev_S} (h : tl T T') (r : Nat → Int) (N NO a : Nat) (kind : Int) : m_works T' r N NO a kind = m_works T r N NO a kind := by
  have e : ∀ p sp, m_ask T' r N a kind p sp = m_ask T r N a kind p sp := by intro p sp; unfold m_ask; rw [h.2.1.2.1]
  unfold m_works
  rw [tl_wk h, tl_spoilt h, h.1.2.2.2.2.2.2.1, e]
theorem tl_hold {T T' : ev_S} (h : tl T T') (kind : Nat) (p : Int) (r : Nat → Int) : ∀ n, m_hold T' kind p r n = m_hold T kind p r n
  | 0 => rfl
  | n + 1 => by simp only [m_hold]; rw [tl_hold h kind p r n, h.2.1.1]
theorem tl_does {T T' : ev_S} (h : tl T T') (N NO a kind : Nat) (z : (Nat → Int) × (Nat → Int)) : m_does T' N NO a kind z = m_does T N NO a kind z := by simp only [m_does, tl_works h, tl_hold h]
theorem tl_orders {T T' : ev_S} (h : tl T T') (N NO a : Nat) : ∀ m z, m_orders T' N NO a m z = m_orders T N NO a m z
  | 0, _ => rfl
  | m + 1, z => by simp only [m_orders, tl_orders h N NO a m, tl_does h, h.2.1.2.1, h.2.2.2.2.2.2.1, h.2.2.2.2.2.2.2.1, h.2.2.2.2.2.2.2.2]
theorem tl_angel {T T' : ev_S} (h : tl T T') (N NO a : Nat) (z : (Nat → Int) × (Nat → Int)) : m_angel T' N NO a z = m_angel T N NO a z := by unfold m_angel; rw [tl_orders h]
theorem tl_angels {T T' : ev_S} (h : tl T T') (N NO : Nat) (z : (Nat → Int) × (Nat → Int)) : ∀ n, m_angels T' N NO z n = m_angels T N NO z n
  | 0 => rfl
  | n + 1 => by simp only [m_angels]; rw [tl_angels h N NO z n, tl_angel h]
theorem tl_sec {T T' : ev_S} (h : tl T T') (N A NO MI : Nat) (th : Bool) (z : (Nat → Int) × (Nat → Int)) : m_sec T' N A NO MI th z = m_sec T N A NO MI th z := by simp only [m_sec, tl_angels h, tl_wards h, tl_mis h]
theorem tl_pl {T T' : ev_S} (h : tl T T') (p : Int) : m_pl T' p = m_pl T p := by unfold m_pl; rw [h.1.1, h.1.2.1]
theorem tl_wok {T T' : ev_S} (h : tl T T') (r : Nat → Int) (w : Nat) : m_wok T' r w = m_wok T r w := by unfold m_wok; rw [tl_pl h, h.2.2.2.2.1]
theorem tl_aok {T T' : ev_S} (h : tl T T') (r : Nat → Int) (a : Nat) : m_aok T' r a = m_aok T r a := by unfold m_aok; rw [tl_pl h, tl_pl h, h.2.2.2.2.2.2.2.2]
theorem tl_rok {T T' : ev_S} (h : tl T T') (N A : Nat) (z : (Nat → Int) × (Nat → Int)) : m_rok T' N A z = m_rok T N A z := by
  unfold m_rok; simp only [tl_wok h, tl_aok h]
theorem tl_pok {T T' : ev_S} (h : tl T T') (a : Nat) : m_pok T' a = m_pok T a := by unfold m_pok; simp only [tl_pl h, h.2.1.2.1, h.2.2.2.2.2.2.1, h.2.2.2.2.2.2.2.1, h.2.2.2.2.2.2.2.2]
theorem tl_mok {T T' : ev_S} (h : tl T T') (i : Nat) : m_mok T' i = m_mok T i := by unfold m_mok; rw [tl_pl h, h.2.2.2.2.2.1, h.1.2.2.2.1]
theorem tl_lok {T T' : ev_S} (h : tl T T') : m_lok T' = m_lok T := by unfold m_lok; rw [h.1.2.2.2.2.2.2.1, h.2.2.1.2.1, h.2.2.1.2.2.1, h.2.2.1.2.2.2.1, h.2.2.1.2.2.2.2]
theorem tl_dim {T T' : ev_S} (h : tl T T') : m_dim T' = m_dim T := by unfold m_dim; rw [h.1.1, h.1.2.1]
theorem tl_tok {T T' : ev_S} (h : tl T T') (N A NO MI : Nat) : m_tok T' N A NO MI = m_tok T N A NO MI := by
  unfold m_tok; simp only [tl_dim h, tl_pok h, tl_mok h, tl_lok h, h.1.2.2.1, h.1.2.2.2.1, h.1.2.2.2.2.1, h.1.2.2.2.2.2.1, h.1.2.2.2.2.2.2.2, h.2.1.1]
theorem tl_XT {σ : ev_S} {K : Nat} {T T' : ev_S} (h : tl T T') (hx : XT σ K T) : XT σ K T' := by
  unfold XT XL
  rw [h.1.1, h.1.2.1, h.1.2.2.1, h.1.2.2.2.1, h.1.2.2.2.2.1, h.1.2.2.2.2.2.1, h.1.2.2.2.2.2.2.1, h.1.2.2.2.2.2.2.2, h.2.1.1, h.2.1.2.1, h.2.1.2.2.1, h.2.1.2.2.2.1, h.2.1.2.2.2.2, h.2.2.1.1, h.2.2.1.2.1, h.2.2.1.2.2.1, h.2.2.1.2.2.2.1, h.2.2.1.2.2.2.2, h.2.2.2.1, h.2.2.2.2.1, h.2.2.2.2.2.1, h.2.2.2.2.2.2.1, h.2.2.2.2.2.2.2.1, h.2.2.2.2.2.2.2.2]
  exact hx
/-! thinking: the model -/
def cpy87 (f g : Nat → Int) : Nat → Int := fun i => if i < 87 then f i else g i
def cpyn (f g : Nat → Int) (n : Nat) : Nat → Int := fun i => if i < n then f i else g i
theorem cpyn_succ (f g : Nat → Int) (n : Nat) : rup (cpyn f g n) n (f n) = cpyn f g (n + 1) := by
  funext i
  simp only [rup, cpyn]
  by_cases e : i = n
  · subst e; simp
  · rw [if_neg e]
    by_cases q : i < n
    · rw [if_pos q, if_pos (by omega)]
    · rw [if_neg q, if_neg (by omega)]
theorem cpyn_0 (f g : Nat → Int) : cpyn f g 0 = g := by funext i; simp [cpyn]
theorem sp_thinks {d : Nat} {s : ev_S} {Q : Option ev_V → ev_S → Prop} (h : Q none (ev_up (ev_set s 3 (cpyn (s 1) (s 3) 87)) 0 5 1)) : Ev layM M_X12_thinks d 0 [(0, ev_r 0)] [] s Q := by
  refine wp_X12_thinks_0 ?_
  have key : ∀ n i : Nat, i + n = 87 → Ev layM M_X12_thinks d 2 [(0, ev_r 0), (1, ev_i (i : Int))] [] (ev_set s 3 (cpyn (s 1) (s 3) i)) Q := by
    intro n
    induction n with
    | zero =>
      intro i hi
      have : i = 87 := by omega
      subst this
      refine wp_X12_thinks_2 ⟨fun _ => ?_, fun c => absurd c (by omega)⟩
      rintro _ rfl
      exact h
    | succ n ih =>
      intro i hi
      refine wp_X12_thinks_2 ⟨fun c => absurd c (by omega), fun _ => ⟨by omega, by omega, ?_⟩⟩
      rintro _ rfl
      rw [Int.toNat_natCast, ev_add_eq ⟨by omega, by omega⟩, ev_set_ne _ _ (by omega), ev_up_set, ev_set_set, ev_set_same, cpyn_succ]
      exact ih (i + 1) (by omega)
  have k0 := key 87 0 (by omega)
  rw [cpyn_0, ev_set_self] at k0
  exact k0
theorem sp_thinksAnew {d : Nat} {s : ev_S} {Q : Option ev_V → ev_S → Prop} (h : Q none (ev_set s 1 (cpyn (s 3) (s 1) 87))) : Ev layM M_X12_thinksAnew d 0 [(0, ev_r 0)] [] s Q := by
  refine wp_X12_thinksAnew_0 ?_
  have key : ∀ n i : Nat, i + n = 87 → Ev layM M_X12_thinksAnew d 2 [(0, ev_r 0), (1, ev_i (i : Int))] [] (ev_set s 1 (cpyn (s 3) (s 1) i)) Q := by
    intro n
    induction n with
    | zero =>
      intro i hi
      have : i = 87 := by omega
      subst this
      exact wp_X12_thinksAnew_2 ⟨fun _ => h, fun c => absurd c (by omega)⟩
    | succ n ih =>
      intro i hi
      refine wp_X12_thinksAnew_2 ⟨fun c => absurd c (by omega), fun _ => ⟨by omega, by omega, ?_⟩⟩
      rintro _ rfl
      rw [Int.toNat_natCast, ev_add_eq ⟨by omega, by omega⟩, ev_set_ne _ _ (by omega), ev_up_set, ev_set_set, ev_set_same, cpyn_succ]
      exact ih (i + 1) (by omega)
  have k0 := key 87 0 (by omega)
  rw [cpyn_0, ev_set_self] at k0
  exact k0
theorem sp_endsThought {d : Nat} {s : ev_S} {Q : Option ev_V → ev_S → Prop} (h : Q none (ev_up (ev_set s 1 (cpyn (s 3) (s 1) 87)) 0 5 0)) : Ev layM M_X12_endsThought (d + 1) 0 [(0, ev_r 0)] [] s Q := by
  refine wp_X12_endsThought_0 (sp_thinksAnew ?_)
  rintro _ rfl
  exact h
