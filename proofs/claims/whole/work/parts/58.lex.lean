/-! the first way to see to the most: prefixes of ways -/
def g_w (A a W : Nat) : Prop := ∀ b, W.testBit b = true ↔ (a ≤ b ∧ b < A)
theorem g_w_f {A a W b : Nat} (h : g_w A a W) (hb : b < a ∨ A ≤ b) : W.testBit b = false := by
  cases q : W.testBit b
  · rfl
  · have := (h b).mp q; omega
section Lex
variable {ca : Nat → Nat → Prop} {A : Nat}
theorem g_glue (h0 : ∀ a, ca a 0) {E W a : Nat} {f g : Nat → Nat} (hE : g_w A 0 E) (hW : g_w A a W) (haA : a ≤ A) (hf : g_asg ca E f) (hg : g_asg ca W g) (hd : ∀ i, (uni f a).testBit i = true → (uni g A).testBit i = true → False) :
    ∃ h, g_asg ca E h ∧ (∀ b, b < a → h b = f b) ∧ (∀ b, a ≤ b → b < A → h b = g b) ∧ ∀ i, (uni h A).testBit i = true ↔ ((uni f a).testBit i = true ∨ (uni g A).testBit i = true) := by
  refine ⟨fun b => if b < a then f b else if b < A then g b else 0, ⟨?_, ?_, ?_⟩, ?_, ?_, ?_⟩
  · intro b; dsimp only; split
    · exact hf.1 b
    · split
      · exact hg.1 b
      · exact h0 b
  · intro b hb; dsimp only; split
    · exact hf.2.1 b hb
    · split
      · rename_i h1 h2; have := (hE b).mpr ⟨by omega, h2⟩; rw [hb] at this; exact absurd this (by simp)
      · rfl
  · intro b c i h1 h2
    dsimp only at h1 h2
    split at h1
    · rename_i l1
      split at h2
      · exact hf.2.2 b c i h1 h2
      · split at h2
        · rename_i l3; exact (hd i (tb_uni.mpr ⟨b, l1, h1⟩) (tb_uni.mpr ⟨c, l3, h2⟩)).elim
        · simp at h2
    · split at h1
      · rename_i l1
        split at h2
        · rename_i l3; exact (hd i (tb_uni.mpr ⟨c, l3, h2⟩) (tb_uni.mpr ⟨b, l1, h1⟩)).elim
        · split at h2
          · exact hg.2.2 b c i h1 h2
          · simp at h2
      · simp at h1
  · intro b hb; dsimp only; rw [if_pos hb]
  · intro b hb hb2; dsimp only; rw [if_neg (by omega), if_pos hb2]
  · intro i
    rw [tb_uni, tb_uni, tb_uni]
    constructor
    · rintro ⟨b, b1, b2⟩
      by_cases q : b < a
      · rw [if_pos q] at b2; exact Or.inl ⟨b, q, b2⟩
      · rw [if_neg q, if_pos b1] at b2; exact Or.inr ⟨b, b1, b2⟩
    · rintro (⟨b, b1, b2⟩ | ⟨b, b1, b2⟩)
      · exact ⟨b, by omega, by rw [if_pos b1]; exact b2⟩
      · refine ⟨b, b1, ?_⟩
        by_cases q : b < a
        · rw [hg.2.1 b (g_w_f hW (Or.inl q))] at b2; simp at b2
        · rw [if_neg q, if_pos b1]; exact b2
theorem g_put {W W' a s : Nat} {g : Nat → Nat} (haA : a < A) (hW : g_w A a W) (hW' : g_w A (a + 1) W') (hg : g_asg ca W' g) (hs : ca a s) (hd : ∀ i, s.testBit i = true → (uni g A).testBit i = true → False) :
    ∃ h, g_asg ca W h ∧ h a = s ∧ ∀ i, (uni h A).testBit i = true ↔ (s.testBit i = true ∨ (uni g A).testBit i = true) := by
  have hg0 : ∀ b, (b < a + 1 ∨ A ≤ b) → g b = 0 := fun b hb => hg.2.1 b (g_w_f hW' hb)
  have hgu : ∀ b i, (g b).testBit i = true → (uni g A).testBit i = true := by
    intro b i h
    refine tb_uni.mpr ⟨b, ?_, h⟩
    rcases Nat.lt_or_ge b A with q | q
    · exact q
    · rw [hg0 b (Or.inr q)] at h; simp at h
  refine ⟨fun b => if b = a then s else g b, ⟨?_, ?_, ?_⟩, if_pos rfl, ?_⟩
  · intro b; dsimp only; split
    · rename_i e; rw [e]; exact hs
    · exact hg.1 b
  · intro b hb; dsimp only; split
    · rename_i e; have := (hW b).mpr ⟨by omega, by omega⟩; rw [hb] at this; exact absurd this (by simp)
    · refine hg.2.1 b ?_
      cases q : W'.testBit b
      · rfl
      · have := (hW' b).mp q
        have := (hW b).mpr ⟨by omega, by omega⟩; rw [hb] at this; exact absurd this (by simp)
  · intro b c i h1 h2
    dsimp only at h1 h2
    split at h1
    · split at h2
      · omega
      · exact (hd i h1 (hgu c i h2)).elim
    · split at h2
      · exact (hd i h2 (hgu b i h1)).elim
      · exact hg.2.2 b c i h1 h2
  · intro i
    rw [tb_uni, tb_uni]
    constructor
    · rintro ⟨b, b1, b2⟩
      split at b2
      · exact Or.inl b2
      · exact Or.inr ⟨b, b1, b2⟩
    · rintro (h | ⟨b, b1, b2⟩)
      · exact ⟨a, haA, by rw [if_pos rfl]; exact h⟩
      · refine ⟨b, b1, ?_⟩
        split
        · rename_i e; rw [hg0 b (by omega)] at b2; simp at b2
        · exact b2
theorem g_tail (h0 : ∀ a, ca a 0) {E W a : Nat} {f : Nat → Nat} (hE : g_w A 0 E) (hW : g_w A a W) (haA : a ≤ A) (hf : g_asg ca E f) :
    ∃ g, g_asg ca W g ∧ (∀ i, (uni f A).testBit i = true ↔ ((uni f a).testBit i = true ∨ (uni g A).testBit i = true)) ∧ ∀ i, (uni f a).testBit i = true → (uni g A).testBit i = true → False := by
  refine ⟨fun b => if b < a then 0 else f b, ⟨?_, ?_, ?_⟩, ?_, ?_⟩
  · intro b; dsimp only; split
    · exact h0 b
    · exact hf.1 b
  · intro b hb; dsimp only; split
    · rfl
    · refine hf.2.1 b ?_
      cases q : E.testBit b
      · rfl
      · have h2 := (hE b).mp q; have := (hW b).mpr ⟨by omega, h2.2⟩; rw [hb] at this; exact absurd this (by simp)
  · intro b c i h1 h2
    dsimp only at h1 h2
    split at h1
    · simp at h1
    · split at h2
      · simp at h2
      · exact hf.2.2 b c i h1 h2
  · intro i
    rw [tb_uni, tb_uni, tb_uni]
    constructor
    · rintro ⟨b, b1, b2⟩
      by_cases q : b < a
      · exact Or.inl ⟨b, q, b2⟩
      · exact Or.inr ⟨b, b1, by rw [if_neg q]; exact b2⟩
    · rintro (⟨b, b1, b2⟩ | ⟨b, b1, b2⟩)
      · exact ⟨b, by omega, b2⟩
      · split at b2
        · simp at b2
        · exact ⟨b, b1, b2⟩
  · intro i h1 h2
    rw [tb_uni] at h1 h2
    obtain ⟨b, b1, b2⟩ := h1
    obtain ⟨c, c1, c2⟩ := h2
    split at c2
    · simp at c2
    · have := hf.2.2 b c i b2 c2; omega
/-- one set shared: what may come next -/
theorem sh_next (h0 : ∀ a, ca a 0) {E W' a s S : Nat} {c f0 : Nat → Nat} (hE : g_w A 0 E) (hW' : g_w A (a + 1) W') (haA : a < A) (hf0 : g_asg ca E f0) (hS : uni f0 A = S) (hc : ∀ b, b < a → f0 b = c b) :
    (ss s (dif S (uni c a)) ∧ ca a s ∧ g_cov ca A W' (dif (dif S (uni c a)) s)) ↔ ∃ f, (g_asg ca E f ∧ uni f A = S) ∧ (∀ b, b < a → f b = c b) ∧ f a = s := by
  have W : ∃ W, g_w A a W := ⟨W' ||| 2 ^ a, fun b => by
    rw [Nat.testBit_or, Bool.or_eq_true, hW' b, tb_pow]
    constructor
    · rintro (q | q)
      · omega
      · have := of_decide_eq_true q; omega
    · intro q
      by_cases e : a = b
      · exact Or.inr (decide_eq_true e)
      · left; omega⟩
  obtain ⟨W, hW⟩ := W
  constructor
  · rintro ⟨s1, s2, g, hg, hgS⟩
    have k1 : ∀ i, (uni g A).testBit i = true → (S.testBit i = true ∧ (uni c a).testBit i = false) ∧ s.testBit i = false := by
      intro i hi
      rw [← hgS, tb_dif, tb_dif] at hi
      simpa using hi
    have k2 : ∀ i, s.testBit i = true → S.testBit i = true ∧ (uni c a).testBit i = false := by
      intro i hi
      have := s1 i hi
      rw [tb_dif] at this
      simpa using this
    obtain ⟨g', p1, p2, p3⟩ := g_put haA hW hW' hg s2 (fun i h1 h2 => by have := (k1 i h2).2; rw [h1] at this; exact absurd this (by simp))
    have hu : uni f0 a = uni c a := uni_cong hc
    obtain ⟨h, q1, q2, q3, q4⟩ := g_glue h0 hE hW (by omega) hf0 p1 (fun i h1 h2 => by
      rw [hu] at h1
      rcases (p3 i).mp h2 with z | z
      · have := (k2 i z).2; rw [h1] at this; exact absurd this (by simp)
      · have := (k1 i z).1.2; rw [h1] at this; exact absurd this (by simp))
    refine ⟨h, ⟨q1, eq_tb (fun i => ?_)⟩, fun b hb => by rw [q2 b hb, hc b hb], by rw [q3 a (Nat.le_refl a) haA, p2]⟩
    rw [q4 i, hu, p3 i]
    constructor
    · rintro (z | z | z)
      · rw [← hu] at z
        rw [← hS]
        obtain ⟨b, b1, b2⟩ := tb_uni.mp z
        exact tb_uni.mpr ⟨b, by omega, b2⟩
      · exact (k2 i z).1
      · exact (k1 i z).1.1
    · intro z
      cases y : (uni c a).testBit i
      · right
        cases x : s.testBit i
        · right; rw [← hgS, tb_dif, tb_dif, z, y, x]; rfl
        · exact Or.inl rfl
      · exact Or.inl rfl
  · rintro ⟨f, ⟨hf, hfS⟩, hp, hs⟩
    have hu : uni f a = uni c a := uni_cong hp
    obtain ⟨g, g1, g2, g3⟩ := g_tail h0 hE hW' (by omega) hf
    have hu1 : ∀ i, (uni f (a + 1)).testBit i = true ↔ ((uni c a).testBit i = true ∨ s.testBit i = true) := by
      intro i; simp only [uni, Nat.testBit_or, Bool.or_eq_true, hu, hs]
    have dj : ∀ i, s.testBit i = true → (uni c a).testBit i = false := by
      intro i hi
      cases q : (uni c a).testBit i
      · rfl
      · rw [← hu] at q
        obtain ⟨b, b1, b2⟩ := tb_uni.mp q
        rw [← hs] at hi
        have := hf.2.2 b a i b2 hi
        omega
    refine ⟨fun i hi => ?_, hs ▸ hf.1 a, g, g1, eq_tb (fun i => ?_)⟩
    · rw [tb_dif, dj i hi, ← hfS, (tb_uni (n := A)).mpr ⟨a, haA, by rw [hs]; exact hi⟩]; rfl
    · rw [tb_dif, tb_dif]
      have e1 := g2 i; have e2 := hu1 i; have e3 := g3 i
      rw [hfS] at e1
      cases x1 : S.testBit i <;> cases x2 : (uni c a).testBit i <;> cases x3 : s.testBit i <;> cases x4 : (uni g A).testBit i <;> simp_all
/-- the most seen to: what may come next -/
theorem mo_next (h0 : ∀ a, ca a 0) {R : Nat → Int} (hR : ∀ S s, ss s S → R S = R s + R (dif S s)) {E W W' a s all : Nat} {c f0 : Nat → Nat} {M v v' : Int} (hall : ∀ a S, ca a S → ss S all) (hE : g_w A 0 E) (hW : g_w A a W) (hW' : g_w A (a + 1) W') (haA : a < A) (hM : g_max ca A R all E 0 M)
    (hf0 : g_asg ca E f0) (hS : R (uni f0 A) = M) (hc : ∀ b, b < a → f0 b = c b) (hv : g_max ca A R all W (uni c a) v) (hv' : ss s (dif all (uni c a)) → g_max ca A R all W' (uni c a ||| s) v') :
    (ss s (dif all (uni c a)) ∧ ca a s ∧ R s + v' = v) ↔ ∃ f, (g_asg ca E f ∧ R (uni f A) = M) ∧ (∀ b, b < a → f b = c b) ∧ f a = s := by
  have dall : ∀ x : Nat, ss x all → ss x (dif all 0) := fun x h i hi => by rw [tb_dif, h i hi]; simp
  have hun : ∀ f G, g_asg ca G f → ∀ n, ss (uni f n) all := fun f G hf n i hi => by
    obtain ⟨b, b1, b2⟩ := tb_uni.mp hi
    exact hall b _ (hf.1 b) i b2
  have Rsum : ∀ X Y Z : Nat, (∀ i, Z.testBit i = true ↔ (X.testBit i = true ∨ Y.testBit i = true)) → (∀ i, X.testBit i = true → Y.testBit i = true → False) → R Z = R X + R Y := by
    intro X Y Z h1 h2
    have e : dif Z X = Y := eq_tb (fun i => by
      rw [tb_dif]
      have a1 := h1 i; have a2 := h2 i
      cases x1 : X.testBit i <;> cases x2 : Y.testBit i <;> cases x3 : Z.testBit i <;> simp_all)
    rw [hR Z X (fun i hi => (h1 i).mpr (Or.inl hi)), e]
  -- a prefix and a group behind it
  have up : ∀ f, g_asg ca E f → (∀ b, b < a → f b = c b) → ∀ U, g_cov ca A W U → ss U (dif all (uni c a)) → R (uni c a) + R U ≤ M := by
    intro f hf hp U hU hss
    obtain ⟨g, hg, rfl⟩ := hU
    have hu : uni f a = uni c a := uni_cong hp
    have dj : ∀ i, (uni f a).testBit i = true → (uni g A).testBit i = true → False := fun i h1 h2 => by
      have := hss i h2; rw [tb_dif, ← hu, h1] at this; simp at this
    obtain ⟨h, q1, q2, q3, q4⟩ := g_glue h0 hE hW (by omega) hf hg dj
    have := hM.2 (uni h A) ⟨h, q1, rfl⟩ (dall _ (hun h E q1 A))
    rw [Rsum (uni f a) (uni g A) (uni h A) q4 dj, hu] at this
    exact this
  have hvM : R (uni c a) + v = M := by
    obtain ⟨⟨U, u1, u2, u3⟩, h2⟩ := hv
    have h3 := up f0 hf0 hc U u1 u2
    obtain ⟨g, g1, g2, g3⟩ := g_tail h0 hE hW (by omega) hf0
    have hu : uni f0 a = uni c a := uni_cong hc
    have h4 := h2 (uni g A) ⟨g, g1, rfl⟩ (fun i hi => by
      rw [tb_dif, hun g W g1 A i hi]
      cases q : (uni c a).testBit i
      · rfl
      · rw [← hu] at q; exact (g3 i q hi).elim)
    rw [Rsum _ _ _ g2 g3, hu] at hS
    omega
  constructor
  · rintro ⟨s1, s2, s3⟩
    obtain ⟨⟨U, ⟨g, hg, rfl⟩, u2, u3⟩, -⟩ := hv' s1
    have k1 : ∀ i, (uni g A).testBit i = true → (uni c a).testBit i = false ∧ s.testBit i = false := by
      intro i hi
      have := u2 i hi
      rw [tb_dif, Nat.testBit_or] at this
      simp at this
      exact this.2
    have k2 : ∀ i, s.testBit i = true → (uni c a).testBit i = false := by
      intro i hi
      have := s1 i hi
      rw [tb_dif] at this
      simp at this
      exact this.2
    have dj1 : ∀ i, s.testBit i = true → (uni g A).testBit i = true → False := fun i h1 h2 => by have := (k1 i h2).2; rw [h1] at this; exact absurd this (by simp)
    obtain ⟨g', p1, p2, p3⟩ := g_put haA hW hW' hg s2 dj1
    have hu : uni f0 a = uni c a := uni_cong hc
    have dj2 : ∀ i, (uni f0 a).testBit i = true → (uni g' A).testBit i = true → False := fun i h1 h2 => by
      rw [hu] at h1
      rcases (p3 i).mp h2 with z | z
      · have := k2 i z; rw [h1] at this; exact absurd this (by simp)
      · have := (k1 i z).1; rw [h1] at this; exact absurd this (by simp)
    obtain ⟨h, q1, q2, q3, q4⟩ := g_glue h0 hE hW (by omega) hf0 p1 dj2
    refine ⟨h, ⟨q1, ?_⟩, fun b hb => by rw [q2 b hb, hc b hb], by rw [q3 a (Nat.le_refl a) haA, p2]⟩
    rw [Rsum _ _ _ q4 dj2, hu, Rsum _ _ _ p3 dj1, u3]
    omega
  · rintro ⟨f, ⟨hf, hfM⟩, hp, hs⟩
    have hu : uni f a = uni c a := uni_cong hp
    obtain ⟨g, g1, g2, g3⟩ := g_tail h0 hE hW' (by omega) hf
    have hu1 : ∀ i, (uni f (a + 1)).testBit i = true ↔ ((uni c a).testBit i = true ∨ s.testBit i = true) := by
      intro i; simp only [uni, Nat.testBit_or, Bool.or_eq_true, hu, hs]
    have dj : ∀ i, s.testBit i = true → (uni c a).testBit i = false := by
      intro i hi
      cases q : (uni c a).testBit i
      · rfl
      · rw [← hu] at q
        obtain ⟨b, b1, b2⟩ := tb_uni.mp q
        rw [← hs] at hi
        have := hf.2.2 b a i b2 hi
        omega
    have hcas : ca a s := hs ▸ hf.1 a
    have hss : ss s (dif all (uni c a)) := fun i hi => by rw [tb_dif, dj i hi, hall a s hcas i hi]; rfl
    have g3' : ∀ i, (uni g A).testBit i = true → (uni c a).testBit i = false ∧ s.testBit i = false := by
      intro i hi
      have h1 := g3 i
      have h2 := hu1 i
      cases x : (uni c a).testBit i <;> cases y : s.testBit i <;> simp_all
    refine ⟨hss, hcas, ?_⟩
    have hvs := hv' hss
    have hg' := hvs.2 (uni g A) ⟨g, g1, rfl⟩ (fun i hi => by
      obtain ⟨z1, z2⟩ := g3' i hi
      rw [tb_dif, Nat.testBit_or, hun g W' g1 A i hi, z1, z2]; rfl)
    have e1 := Rsum _ _ _ g2 g3
    have e2 := Rsum (uni c a) s (uni f (a + 1)) hu1 (fun i h1 h2 => by rw [dj i h2] at h1; exact absurd h1 (by simp))
    -- s and the best behind it
    obtain ⟨⟨U, ⟨g4, hg4, rfl⟩, u2, u3⟩, -⟩ := hvs
    have k1 : ∀ i, (uni g4 A).testBit i = true → (all.testBit i = true ∧ (uni c a).testBit i = false) ∧ s.testBit i = false := by
      intro i hi
      have := u2 i hi
      rw [tb_dif, Nat.testBit_or] at this
      simp at this
      exact ⟨⟨this.1, this.2.1⟩, this.2.2⟩
    have dj1 : ∀ i, s.testBit i = true → (uni g4 A).testBit i = true → False := fun i h1 h2 => by have := (k1 i h2).2; rw [h1] at this; exact absurd this (by simp)
    obtain ⟨g', p1, p2, p3⟩ := g_put haA hW hW' hg4 hcas dj1
    have h5 := hv.2 (uni g' A) ⟨g', p1, rfl⟩ (fun i hi => by
      rcases (p3 i).mp hi with z | z
      · exact hss i z
      · rw [tb_dif, (k1 i z).1.1, (k1 i z).1.2]; rfl)
    rw [Rsum _ _ _ p3 dj1, u3] at h5
    rw [e1, e2] at hfM
    omega
end Lex
