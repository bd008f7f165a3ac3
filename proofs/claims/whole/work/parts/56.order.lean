/-! WHO SEES TO WHAT, one angel: orders in which a set is seen to (the last one ahead in the list) -/
def w_dep (a0 : Nat → Int) (fa : Nat → Nat → Int) (t : Int) (l : List Nat) (i : Nat) : Int :=
  match l with
  | [] => a0 i
  | j :: _ => t + 1 + fa j i
def w_tm (a0 : Nat → Int) (fa : Nat → Nat → Int) (lo : Nat → Int) : List Nat → Int
  | [] => 0
  | i :: l => max (w_dep a0 fa (w_tm a0 fa lo l) l i) (lo i)
def w_fe (a0 : Nat → Int) (fa : Nat → Nat → Int) (lo hi : Nat → Int) : List Nat → Prop
  | [] => True
  | i :: l => w_fe a0 fa lo hi l ∧ w_tm a0 fa lo (i :: l) ≤ hi i
def w_ord (S : Nat) (l : List Nat) : Prop := l.Nodup ∧ ∀ i, S.testBit i = true ↔ i ∈ l
def w_can (a0 : Nat → Int) (fa : Nat → Nat → Int) (lo hi : Nat → Int) (S : Nat) : Prop := ∃ l, w_ord S l ∧ w_fe a0 fa lo hi l
def w_tri (a0 : Nat → Int) (fa : Nat → Nat → Int) : Prop := (∀ i k, a0 i ≤ a0 k + fa k i) ∧ (∀ i j k, fa j i ≤ fa j k + fa k i) ∧ ∀ i j, 0 ≤ fa i j
section Ord
variable {a0 : Nat → Int} {fa : Nat → Nat → Int} {lo hi : Nat → Int}
theorem w_rm (h : w_tri a0 fa) {x : Nat} {post : List Nat} : ∀ (pre : List Nat), w_fe a0 fa lo hi (pre ++ x :: post) → w_fe a0 fa lo hi (pre ++ post) ∧ ∀ i, w_dep a0 fa (w_tm a0 fa lo (pre ++ post)) (pre ++ post) i ≤ w_dep a0 fa (w_tm a0 fa lo (pre ++ x :: post)) (pre ++ x :: post) i
  | [], hf => by
    refine ⟨hf.1, fun i => ?_⟩
    show w_dep a0 fa (w_tm a0 fa lo post) post i ≤ max (w_dep a0 fa (w_tm a0 fa lo post) post x) (lo x) + 1 + fa x i
    have hm : w_dep a0 fa (w_tm a0 fa lo post) post x ≤ max (w_dep a0 fa (w_tm a0 fa lo post) post x) (lo x) := Int.le_max_left _ _
    cases post with
    | nil =>
      simp only [w_dep] at hm ⊢
      have := h.1 i x
      omega
    | cons j l =>
      simp only [w_dep] at hm ⊢
      have := h.2.1 i j x
      omega
  | y :: pre, hf => by
    obtain ⟨i1, i2⟩ := w_rm h pre hf.1
    have ht : w_tm a0 fa lo (y :: (pre ++ post)) ≤ w_tm a0 fa lo (y :: (pre ++ x :: post)) := by
      have := i2 y
      simp only [w_tm]
      omega
    refine ⟨⟨i1, ?_⟩, fun i => ?_⟩
    · have h2 : w_tm a0 fa lo (y :: (pre ++ x :: post)) ≤ hi y := hf.2
      show w_tm a0 fa lo (y :: (pre ++ post)) ≤ hi y
      omega
    · simp only [List.cons_append, w_dep] at ht ⊢
      omega
/-- seen to without one of it -/
theorem w_can_rm (h : w_tri a0 fa) {S x : Nat} (hx : S.testBit x = true) (hc : w_can a0 fa lo hi S) : w_can a0 fa lo hi (dif S (2 ^ x)) := by
  obtain ⟨l, ⟨hn, hm⟩, hf⟩ := hc
  obtain ⟨pre, post, e⟩ := List.append_of_mem ((hm x).mp hx)
  subst e
  refine ⟨pre ++ post, ⟨?_, ?_⟩, (w_rm h pre hf).1⟩
  · exact (List.nodup_cons.mp ((List.perm_middle.nodup_iff).mp hn)).2
  · intro i
    have hnx : x ∉ pre ++ post := (List.nodup_cons.mp ((List.perm_middle.nodup_iff).mp hn)).1
    rw [tb_dif, tb_pow]
    by_cases e : x = i
    · subst e; simp [hnx]
    · have := hm i
      simp only [List.mem_append, List.mem_cons] at this ⊢
      simp [e, this]
      constructor
      · rintro (q | q | q)
        · exact Or.inl q
        · exact absurd q.symm e
        · exact Or.inr q
      · rintro (q | q)
        · exact Or.inl q
        · exact Or.inr (Or.inr q)
/-- each of it could be seen to alone -/
theorem w_dep_ge (h : w_tri a0 fa) : ∀ (l : List Nat) (i : Nat), a0 i ≤ w_dep a0 fa (w_tm a0 fa lo l) l i
  | [], i => Int.le_refl _
  | j :: l, i => by
    have ih := w_dep_ge h l j
    have := h.1 i j
    show a0 i ≤ max (w_dep a0 fa (w_tm a0 fa lo l) l j) (lo j) + 1 + fa j i
    omega
theorem w_fe_alone (h : w_tri a0 fa) (hlo : ∀ i, lo i ≤ hi i) : ∀ (l : List Nat), w_fe a0 fa lo hi l → ∀ i ∈ l, max (a0 i) (lo i) ≤ hi i
  | [], _, i, hi => by simp at hi
  | j :: l, hf, i, hi => by
    rcases List.mem_cons.mp hi with e | e
    · subst e
      have h1 := w_dep_ge (lo := lo) h l i
      have h2 := hf.2
      have h3 := hlo i
      simp only [w_tm] at h2
      omega
    · exact w_fe_alone h hlo l hf.1 i e
/-- the least second of a doing for one, behind all others of a set; 1000000: none -/
def w_min (a0 : Nat → Int) (fa : Nat → Nat → Int) (lo hi : Nat → Int) (S i : Nat) (v : Int) : Prop :=
  (v = 1000000 ∧ ∀ l, w_ord S (i :: l) → ¬ w_fe a0 fa lo hi (i :: l)) ∨ (v ≠ 1000000 ∧ (∃ l, w_ord S (i :: l) ∧ w_fe a0 fa lo hi (i :: l) ∧ w_tm a0 fa lo (i :: l) = v) ∧ ∀ l, w_ord S (i :: l) → w_fe a0 fa lo hi (i :: l) → v ≤ w_tm a0 fa lo (i :: l))
theorem w_min_uniq {S i : Nat} {v v' : Int} (h : w_min a0 fa lo hi S i v) (h' : w_min a0 fa lo hi S i v') : v = v' := by
  rcases h with ⟨h1, h2⟩ | ⟨h1, ⟨l, l1, l2, l3⟩, h3⟩ <;> rcases h' with ⟨g1, g2⟩ | ⟨g1, ⟨l', m1, m2, m3⟩, g3⟩
  · omega
  · exact absurd m2 (h2 _ m1)
  · exact absurd l2 (g2 _ l1)
  · have := h3 _ m1 m2; have := g3 _ l1 l2; omega
theorem w_min_hi {S i : Nat} {v : Int} (h : w_min a0 fa lo hi S i v) : v = 1000000 ∨ (v ≤ hi i ∧ a0 i ≤ a0 i) := by
  rcases h with ⟨h1, -⟩ | ⟨-, ⟨l, -, l2, l3⟩, -⟩
  · exact Or.inl h1
  · right; have := l2.2; rw [l3] at this; exact ⟨this, Int.le_refl _⟩
def w_for (lo hi : Nat → Int) (i : Nat) (x : Int) : Int := if max x (lo i) ≤ hi i then max x (lo i) else 1000000
theorem w_can_of {S i : Nat} {v : Int} (h : w_min a0 fa lo hi S i v) (hv : v ≠ 1000000) : w_can a0 fa lo hi S := by
  rcases h with ⟨h1, -⟩ | ⟨-, ⟨l, l1, l2, -⟩, -⟩
  · exact absurd h1 hv
  · exact ⟨i :: l, l1, l2⟩
theorem w_can_to {S : Nat} (hS : S ≠ 0) (h : w_can a0 fa lo hi S) : ∃ i, S.testBit i = true ∧ ∀ v, w_min a0 fa lo hi S i v → v ≠ 1000000 := by
  obtain ⟨l, ho, hf⟩ := h
  cases l with
  | nil =>
    obtain ⟨i, hi⟩ := tb_some hS
    have := (ho.2 i).mp hi
    simp at this
  | cons i l =>
    refine ⟨i, (ho.2 i).mpr List.mem_cons_self, fun v hv => ?_⟩
    rcases hv with ⟨-, h2⟩ | ⟨h1, -, -⟩
    · exact absurd hf (h2 l ho)
    · exact h1
theorem w_can_0 : w_can a0 fa lo hi 0 := ⟨[], ⟨List.nodup_nil, fun i => by simp⟩, trivial⟩
theorem w_ord_tail {S i : Nat} {l : List Nat} (h : w_ord S (i :: l)) : w_ord (dif S (2 ^ i)) l := by
  obtain ⟨hn, hm⟩ := h
  obtain ⟨h1, h2⟩ := List.nodup_cons.mp hn
  refine ⟨h2, fun j => ?_⟩
  rw [tb_dif, tb_pow]
  by_cases e : i = j
  · subst e; simp [h1]
  · have := hm j
    simp only [List.mem_cons] at this
    simp [e, this]
    intro q; exact absurd q.symm e
theorem w_ord_cons {S i : Nat} {l : List Nat} (hi : S.testBit i = true) (h : w_ord (dif S (2 ^ i)) l) : w_ord S (i :: l) := by
  obtain ⟨hn, hm⟩ := h
  have h1 : i ∉ l := fun q => by have := (hm i).mpr q; rw [tb_dif, tb_pow] at this; simp at this
  refine ⟨List.nodup_cons.mpr ⟨h1, hn⟩, fun j => ?_⟩
  rw [List.mem_cons, ← hm j, tb_dif, tb_pow]
  by_cases e : i = j
  · subst e; simp [hi]
  · simp [e]
    intro q; exact absurd q.symm e
theorem w_ord_nil {l : List Nat} (h : w_ord 0 l) : l = [] := by
  cases l with
  | nil => rfl
  | cons i l => have := (h.2 i).mpr List.mem_cons_self; simp at this
theorem w_min_base {S i : Nat} (hi' : hi i < 1000000) (hS : S.testBit i = true) (h0 : dif S (2 ^ i) = 0) : w_min a0 fa lo hi S i (w_for lo hi i (a0 i)) := by
  have hl : ∀ l, w_ord S (i :: l) → l = [] := fun l h => w_ord_nil (h0 ▸ w_ord_tail h)
  unfold w_for
  by_cases c : max (a0 i) (lo i) ≤ hi i
  · rw [if_pos c]
    refine Or.inr ⟨by omega, ⟨[], w_ord_cons hS (by rw [h0]; exact ⟨List.nodup_nil, fun i => by simp⟩), ⟨trivial, c⟩, rfl⟩, fun l h _ => ?_⟩
    rw [hl l h]
    exact Int.le_refl _
  · rw [if_neg c]
    refine Or.inl ⟨rfl, fun l h hf => c ?_⟩
    rw [hl l h] at hf
    exact hf.2
theorem w_min_step {S i : Nat} {best : Int} (hi' : hi i < 1000000) (hS : S.testBit i = true) (h0 : dif S (2 ^ i) ≠ 0)
    (hb1 : best = 1000000 ∨ ∃ j v, (dif S (2 ^ i)).testBit j = true ∧ w_min a0 fa lo hi (dif S (2 ^ i)) j v ∧ v ≠ 1000000 ∧ best = w_for lo hi i (v + 1 + fa j i))
    (hb2 : ∀ j v, (dif S (2 ^ i)).testBit j = true → w_min a0 fa lo hi (dif S (2 ^ i)) j v → v ≠ 1000000 → best ≤ w_for lo hi i (v + 1 + fa j i))
    (hb3 : ∀ j, (dif S (2 ^ i)).testBit j = true → ∃ v, w_min a0 fa lo hi (dif S (2 ^ i)) j v) : w_min a0 fa lo hi S i best := by
  have low : ∀ l, w_ord S (i :: l) → w_fe a0 fa lo hi (i :: l) → best ≤ w_tm a0 fa lo (i :: l) := by
    intro l ho hf
    have ho2 := w_ord_tail ho
    cases l with
    | nil =>
      obtain ⟨j, hj⟩ := tb_some h0
      have := (ho2.2 j).mp hj
      simp at this
    | cons j l =>
      have hj := (ho2.2 j).mpr List.mem_cons_self
      obtain ⟨v, hv⟩ := hb3 j hj
      rcases hv with ⟨-, h2⟩ | hv
      · exact absurd hf.1 (h2 l ho2)
      · have h3 := hb2 j v hj (Or.inr hv) hv.1
        have h4 := hv.2.2 l ho2 hf.1
        have h5 := hf.2
        unfold w_for at h3
        show best ≤ max (w_dep a0 fa (w_tm a0 fa lo (j :: l)) (j :: l) i) (lo i)
        have h6 : max (w_tm a0 fa lo (j :: l) + 1 + fa j i) (lo i) ≤ hi i := h5
        show best ≤ max (w_tm a0 fa lo (j :: l) + 1 + fa j i) (lo i)
        have h7 : max (v + 1 + fa j i) (lo i) ≤ max (w_tm a0 fa lo (j :: l) + 1 + fa j i) (lo i) := by omega
        rw [if_pos (by omega)] at h3
        omega
  by_cases c : best = 1000000
  · refine Or.inl ⟨c, fun l ho hf => ?_⟩
    have := low l ho hf
    have := hf.2
    omega
  · refine Or.inr ⟨c, ?_, low⟩
    rcases hb1 with h | ⟨j, v, hj, hv, hv0, hb⟩
    · exact absurd h c
    · rcases hv with ⟨h1, -⟩ | ⟨-, ⟨l, l1, l2, l3⟩, -⟩
      · exact absurd h1 hv0
      · have hb' := hb
        unfold w_for at hb'
        split at hb'
        · rename_i c2
          refine ⟨j :: l, w_ord_cons hS l1, ⟨l2, ?_⟩, ?_⟩
          · show max (w_tm a0 fa lo (j :: l) + 1 + fa j i) (lo i) ≤ hi i
            rw [l3]; exact c2
          · show max (w_tm a0 fa lo (j :: l) + 1 + fa j i) (lo i) = best
            rw [l3]; exact hb'.symm
        · exact absurd hb' c
end Ord
