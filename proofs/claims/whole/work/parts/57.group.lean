/-! GROUPS of angels: who sees to which set; the greatest risk; the first of the ways -/
def ss (a b : Nat) : Prop := ∀ i, a.testBit i = true → b.testBit i = true
theorem ss_tr {a b c : Nat} (h : ss a b) (h2 : ss b c) : ss a c := fun i hi => h2 i (h i hi)
theorem ss_rf {a : Nat} : ss a a := fun _ h => h
theorem ss_0 {a : Nat} : ss 0 a := fun i h => by simp at h
theorem ss_dif (a b : Nat) : ss (dif a b) a := fun i h => by rw [tb_dif] at h; simp at h; exact h.1
theorem ss_andl (a b : Nat) : ss (a &&& b) a := fun i h => by rw [Nat.testBit_and] at h; simp at h; exact h.1
theorem ss_andr (a b : Nat) : ss (a &&& b) b := fun i h => by rw [Nat.testBit_and] at h; simp at h; exact h.2
theorem ss_lt {a b n : Nat} (h : ss a b) (hb : b < 2 ^ n) : a < 2 ^ n := Nat.lt_of_le_of_lt (le_of_sub h) hb
theorem ss_dif0 {a b : Nat} : dif a b = 0 ↔ ss a b := dif_0
theorem or_lt {a b n : Nat} (ha : a < 2 ^ n) (hb : b < 2 ^ n) : a ||| b < 2 ^ n := Nat.or_lt_two_pow ha hb
theorem eq_tb {a b : Nat} (h : ∀ i, a.testBit i = true ↔ b.testBit i = true) : a = b := by
  apply Nat.eq_of_testBit_eq
  intro i
  have := h i
  cases qa : a.testBit i <;> cases qb : b.testBit i <;> simp_all
def rk (w : Nat → Int) : Nat → Nat → Int
  | 0, _ => 0
  | n + 1, S => rk w n S + (if S.testBit n then w n else 0)
theorem rk_add {w : Nat → Int} {S U V : Nat} (h1 : ∀ i, V.testBit i = true ↔ (S.testBit i = true ∨ U.testBit i = true)) (h2 : ∀ i, S.testBit i = true → U.testBit i = true → False) : ∀ n, rk w n V = rk w n S + rk w n U
  | 0 => rfl
  | n + 1 => by
    simp only [rk]
    rw [rk_add h1 h2 n]
    have a := h1 n; have b := h2 n
    cases qs : S.testBit n <;> cases qu : U.testBit n <;> cases qv : V.testBit n <;> simp_all <;> omega
theorem rk_0 {w : Nat → Int} : ∀ n, rk w n 0 = 0
  | 0 => rfl
  | n + 1 => by simp [rk, rk_0 n]
theorem rk_dif {w : Nat → Int} {S s n : Nat} (h : ss s S) : rk w n S = rk w n s + rk w n (dif S s) :=
  rk_add (fun i => by
    have := h i
    rw [tb_dif]
    cases q : s.testBit i <;> cases q2 : S.testBit i <;> simp_all) (fun i h1 h2 => by rw [tb_dif, h1] at h2; simp at h2) n
theorem rk_ge {w : Nat → Int} (hw : ∀ i, 0 ≤ w i) (S : Nat) : ∀ n, 0 ≤ rk w n S
  | 0 => Int.le_refl _
  | n + 1 => by
    simp only [rk]
    have := rk_ge hw S n; have := hw n
    split <;> omega
theorem rk_mono {w : Nat → Int} {S U n : Nat} (hw : ∀ i, 0 ≤ w i) (h : ss S U) : rk w n S ≤ rk w n U := by
  rw [rk_dif h]; have := rk_ge hw (dif U S) n; omega
theorem rk_le {w : Nat → Int} {m : Int} (hw : ∀ i, 0 ≤ w i ∧ w i ≤ m) (S : Nat) : ∀ n : Nat, rk w n S ≤ m * (n : Int)
  | 0 => by simp [rk]
  | n + 1 => by
    simp only [rk]
    have := rk_le hw S n; have := hw n
    have e : m * ((n + 1 : Nat) : Int) = m * (n : Int) + m := by rw [Int.natCast_add]; simp [Int.mul_add]
    rw [e]
    split <;> omega
/-- what the first angels see to -/
def uni (f : Nat → Nat) : Nat → Nat
  | 0 => 0
  | n + 1 => uni f n ||| f n
theorem tb_uni {f : Nat → Nat} {i : Nat} : ∀ {n : Nat}, (uni f n).testBit i = true ↔ ∃ b, b < n ∧ (f b).testBit i = true
  | 0 => by simp [uni]
  | n + 1 => by
    simp only [uni, Nat.testBit_or, Bool.or_eq_true, tb_uni (n := n)]
    constructor
    · rintro (⟨b, h1, h2⟩ | h)
      · exact ⟨b, by omega, h2⟩
      · exact ⟨n, by omega, h⟩
    · rintro ⟨b, h1, h2⟩
      by_cases e : b = n
      · subst e; exact Or.inr h2
      · exact Or.inl ⟨b, by omega, h2⟩
theorem uni_cong {f g : Nat → Nat} : ∀ {n : Nat}, (∀ b, b < n → f b = g b) → uni f n = uni g n
  | 0, _ => rfl
  | n + 1, h => by simp only [uni]; rw [uni_cong (fun b hb => h b (by omega)), h n (by omega)]
def g_dis (f : Nat → Nat) : Prop := ∀ a b i, (f a).testBit i = true → (f b).testBit i = true → a = b
def g_asg (ca : Nat → Nat → Prop) (G : Nat) (f : Nat → Nat) : Prop := (∀ a, ca a (f a)) ∧ (∀ a, G.testBit a = false → f a = 0) ∧ g_dis f
def g_cov (ca : Nat → Nat → Prop) (A G S : Nat) : Prop := ∃ f, g_asg ca G f ∧ S = uni f A
section Grp
variable {ca : Nat → Nat → Prop} {A : Nat}
theorem g_cov_0 (h0 : ∀ a, ca a 0) {S : Nat} : g_cov ca A 0 S ↔ S = 0 := by
  constructor
  · rintro ⟨f, hf, rfl⟩
    apply eq_tb
    intro i
    rw [tb_uni]
    constructor
    · rintro ⟨b, -, hb⟩; rw [hf.2.1 b (by simp)] at hb; exact hb
    · intro q; simp at q
  · rintro rfl
    exact ⟨fun _ => 0, ⟨h0, fun _ _ => rfl, fun a b i h => by simp at h⟩, eq_tb (fun i => by rw [tb_uni]; simp)⟩
theorem g_cov_join (h0 : ∀ a, ca a 0) {a P G S : Nat} (ha : a < A) (hP : P.testBit a = false) (hG : ∀ b, G.testBit b = true ↔ (b = a ∨ P.testBit b = true)) : g_cov ca A G S ↔ ∃ s, ss s S ∧ ca a s ∧ g_cov ca A P (dif S s) := by
  constructor
  · rintro ⟨f, ⟨f1, f2, f3⟩, rfl⟩
    refine ⟨f a, fun i hi => tb_uni.mpr ⟨a, ha, hi⟩, f1 a, fun b => if b = a then 0 else f b, ⟨?_, ?_, ?_⟩, ?_⟩
    · intro b; dsimp only; split
      · exact h0 b
      · exact f1 b
    · intro b hb; dsimp only; split
      · rfl
      · rename_i e
        refine f2 b ?_
        have := hG b
        cases q : G.testBit b
        · rfl
        · rcases this.mp q with z | z
          · exact absurd z e
          · rw [hb] at z; exact absurd z (by simp)
    · intro b c i h1 h2
      dsimp only at h1 h2
      split at h1
      · simp at h1
      · split at h2
        · simp at h2
        · exact f3 b c i h1 h2
    · apply eq_tb
      intro i
      rw [tb_dif, tb_uni]
      constructor
      · intro h
        simp only [Bool.and_eq_true, Bool.not_eq_true', tb_uni] at h
        obtain ⟨⟨b, b1, b2⟩, h2⟩ := h
        have : b ≠ a := fun e => by rw [e, h2] at b2; exact absurd b2 (by simp)
        exact ⟨b, b1, by rw [if_neg this]; exact b2⟩
      · rintro ⟨b, b1, b2⟩
        split at b2
        · simp at b2
        · rename_i e
          simp only [Bool.and_eq_true, Bool.not_eq_true', tb_uni]
          refine ⟨⟨b, b1, b2⟩, ?_⟩
          cases q : (f a).testBit i
          · rfl
          · exact absurd (f3 b a i b2 q) e
  · rintro ⟨s, s1, s2, f, ⟨f1, f2, f3⟩, hf⟩
    have hfi : ∀ b i, (f b).testBit i = true → b < A → S.testBit i = true ∧ s.testBit i = false := by
      intro b i h hb
      have : (dif S s).testBit i = true := by rw [hf]; exact tb_uni.mpr ⟨b, hb, h⟩
      rw [tb_dif] at this; simpa using this
    refine ⟨fun b => if b = a then s else if b < A then f b else 0, ⟨?_, ?_, ?_⟩, ?_⟩
    · intro b; dsimp only; split
      · rename_i e; rw [e]; exact s2
      · split
        · exact f1 b
        · exact h0 b
    · intro b hb; dsimp only; split
      · rename_i e; have := (hG b).mpr (Or.inl e); rw [hb] at this; exact absurd this (by simp)
      · split
        · refine f2 b ?_
          cases q : P.testBit b
          · rfl
          · have := (hG b).mpr (Or.inr q); rw [hb] at this; exact absurd this (by simp)
        · rfl
    · intro b c i h1 h2
      dsimp only at h1 h2
      split at h1
      · rename_i e1
        split at h2
        · rename_i e2; omega
        · split at h2
          · rename_i l; have := (hfi c i h2 l).2; rw [h1] at this; exact absurd this (by simp)
          · simp at h2
      · split at h1
        · rename_i l1
          split at h2
          · have := (hfi b i h1 l1).2; rw [h2] at this; exact absurd this (by simp)
          · split at h2
            · exact f3 b c i h1 h2
            · simp at h2
        · simp at h1
    · apply eq_tb
      intro i
      rw [tb_uni]
      constructor
      · intro h
        cases q : s.testBit i
        · have : (dif S s).testBit i = true := by rw [tb_dif, h, q]; rfl
          rw [hf] at this
          obtain ⟨b, b1, b2⟩ := tb_uni.mp this
          by_cases e : b = a
          · exfalso
            subst e
            rw [f2 b hP] at b2; simp at b2
          · exact ⟨b, b1, by rw [if_neg e, if_pos b1]; exact b2⟩
        · exact ⟨a, ha, by rw [if_pos rfl]; exact q⟩
      · rintro ⟨b, b1, b2⟩
        split at b2
        · exact s1 i b2
        · exact (hfi b i b2 b1).1
theorem g_cov_rm (h1 : ∀ a S x, ca a S → S.testBit x = true → ca a (dif S (2 ^ x))) {G S x : Nat} (h : g_cov ca A G S) (hx : S.testBit x = true) : g_cov ca A G (dif S (2 ^ x)) := by
  obtain ⟨f, ⟨f1, f2, f3⟩, rfl⟩ := h
  obtain ⟨a, ha, hax⟩ := tb_uni.mp hx
  refine ⟨fun b => if b = a then dif (f a) (2 ^ x) else f b, ⟨?_, ?_, ?_⟩, ?_⟩
  · intro b; dsimp only; split
    · rename_i e; rw [e]; exact h1 a _ x (f1 a) hax
    · exact f1 b
  · intro b hb; dsimp only; split
    · rename_i e; rw [e] at hb; rw [f2 a hb] at hax; simp at hax
    · exact f2 b hb
  · have hi : ∀ b i, (if b = a then dif (f a) (2 ^ x) else f b).testBit i = true → (f b).testBit i = true := by
      intro b i h
      split at h
      · rename_i e; rw [e]; exact ss_dif _ _ i h
      · exact h
    intro b c i h1 h2
    exact f3 b c i (hi b i h1) (hi c i h2)
  · apply eq_tb
    intro i
    rw [tb_dif, tb_pow, tb_uni]
    constructor
    · intro h
      simp only [Bool.and_eq_true, tb_uni] at h
      obtain ⟨⟨b, b1, b2⟩, h2⟩ := h
      refine ⟨b, b1, ?_⟩
      split
      · rename_i e; subst e; rw [tb_dif, b2, tb_pow]; simpa using h2
      · exact b2
    · rintro ⟨b, b1, b2⟩
      simp only [Bool.and_eq_true, tb_uni]
      split at b2
      · rename_i e; subst e
        rw [tb_dif, tb_pow] at b2
        simp only [Bool.and_eq_true] at b2
        exact ⟨⟨b, b1, b2.1⟩, b2.2⟩
      · rename_i e
        refine ⟨⟨b, b1, b2⟩, ?_⟩
        by_cases q : x = i
        · subst q; exact absurd (f3 b a x b2 hax) e
        · simp [q]
theorem g_cov_in {al : Nat → Nat} (hal : ∀ a S, ca a S → ss S (al a)) {G S : Nat} (h : g_cov ca A G S) {i : Nat} (hi : S.testBit i = true) : ∃ a, a < A ∧ G.testBit a = true ∧ (al a).testBit i = true := by
  obtain ⟨f, ⟨f1, f2, f3⟩, rfl⟩ := h
  obtain ⟨a, ha, hai⟩ := tb_uni.mp hi
  refine ⟨a, ha, ?_, hal a _ (f1 a) i hai⟩
  cases q : G.testBit a
  · rw [f2 a q] at hai; simp at hai
  · rfl
/-- the greatest risk that a group sees to, of what isn't used -/
def g_max (ca : Nat → Nat → Prop) (A : Nat) (R : Nat → Int) (all G used : Nat) (v : Int) : Prop :=
  (∃ S, g_cov ca A G S ∧ ss S (dif all used) ∧ R S = v) ∧ ∀ S, g_cov ca A G S → ss S (dif all used) → R S ≤ v
theorem g_max_uniq {R : Nat → Int} {all G used : Nat} {v v' : Int} (h : g_max ca A R all G used v) (h' : g_max ca A R all G used v') : v = v' := by
  obtain ⟨⟨S, s1, s2, s3⟩, h2⟩ := h
  obtain ⟨⟨S', t1, t2, t3⟩, h2'⟩ := h'
  have := h2 S' t1 t2; have := h2' S s1 s2; omega
theorem g_max_0 (h0 : ∀ a, ca a 0) {R : Nat → Int} (hR0 : R 0 = 0) {all used : Nat} : g_max ca A R all 0 used 0 :=
  ⟨⟨0, (g_cov_0 h0).mpr rfl, ss_0, hR0⟩, fun S h _ => by rw [(g_cov_0 h0).mp h, hR0]; exact Int.le_refl _⟩
theorem g_max_step (h0 : ∀ a, ca a 0) {R : Nat → Int} (hR : ∀ S s, ss s S → R S = R s + R (dif S s)) {all G used a : Nat} {best : Int} (ha : a < A) (hG : G.testBit a = true)
    (hb1 : ∃ s v, ss s (dif all used) ∧ ca a s ∧ g_max ca A R all (dif G (2 ^ a)) (used ||| s) v ∧ best = R s + v)
    (hb2 : ∀ s v, ss s (dif all used) → ca a s → g_max ca A R all (dif G (2 ^ a)) (used ||| s) v → R s + v ≤ best)
    (hb3 : ∀ s, ss s (dif all used) → ca a s → ∃ v, g_max ca A R all (dif G (2 ^ a)) (used ||| s) v) : g_max ca A R all G used best := by
  have hP : (dif G (2 ^ a)).testBit a = false := by rw [tb_dif, tb_pow]; simp
  have hGi : ∀ b, G.testBit b = true ↔ (b = a ∨ (dif G (2 ^ a)).testBit b = true) := by
    intro b
    rw [tb_dif, tb_pow]
    by_cases e : a = b
    · subst e; simp [hG]
    · have e2 : ¬ b = a := fun q => e q.symm
      simp [e, e2]
  constructor
  · obtain ⟨s, v, s1, s2, ⟨⟨U, u1, u2, u3⟩, -⟩, hb⟩ := hb1
    have dj : ∀ i, s.testBit i = true → U.testBit i = true → False := fun i h1 h2 => by
      have := u2 i h2; rw [tb_dif, Nat.testBit_or, h1] at this; simp at this
    have hd : dif (s ||| U) s = U := eq_tb (fun i => by
      rw [tb_dif, Nat.testBit_or]
      have := dj i
      cases q : s.testBit i <;> cases q2 : U.testBit i <;> simp_all)
    have hs : ss s (s ||| U) := fun i h => by rw [Nat.testBit_or, h]; rfl
    refine ⟨s ||| U, (g_cov_join h0 ha hP hGi).mpr ⟨s, hs, s2, by rw [hd]; exact u1⟩, ?_, ?_⟩
    · intro i h
      rw [Nat.testBit_or] at h
      cases q : s.testBit i
      · rw [q] at h
        have := u2 i (by simpa using h)
        rw [tb_dif, Nat.testBit_or] at this
        rw [tb_dif]
        simp at this ⊢
        exact ⟨this.1, this.2.1⟩
      · exact s1 i q
    · rw [hR _ s hs, hd, u3, hb]
  · intro S hS hss
    obtain ⟨s, s1, s2, s3⟩ := (g_cov_join h0 ha hP hGi).mp hS
    have ha2 := ss_tr s1 hss
    obtain ⟨v, hv⟩ := hb3 s ha2 s2
    have h4 := hb2 s v ha2 s2 hv
    have h5 := hv.2 (dif S s) s3 (fun i h => by
      have h6 := h
      rw [tb_dif] at h6
      simp only [Bool.and_eq_true, Bool.not_eq_true'] at h6
      have := hss i h6.1
      rw [tb_dif] at this ⊢
      rw [Nat.testBit_or, h6.2]
      simpa using this)
    rw [hR S s s1]
    omega
end Grp
/-- the first of some rows of numbers -/
def ll (F : (Nat → Nat) → Prop) (c : Nat → Nat) (a : Nat) : Prop := (∃ f, F f ∧ ∀ b, b < a → f b = c b) ∧ ∀ f, F f → ∀ k, k < a → (∀ b, b < k → f b = c b) → c k ≤ f k
theorem ll_uniq {F : (Nat → Nat) → Prop} {c c' : Nat → Nat} {A : Nat} (h : ll F c A) (h' : ll F c' A) : ∀ k, k < A → c k = c' k := by
  intro k
  induction k using Nat.strongRecOn with
  | _ k ih =>
    intro hk
    obtain ⟨⟨f, f1, f2⟩, h2⟩ := h
    obtain ⟨⟨f', g1, g2⟩, h2'⟩ := h'
    have e1 := h2 f' g1 k hk (fun b hb => by rw [g2 b (by omega), ih b hb (by omega)])
    have e2 := h2' f f1 k hk (fun b hb => by rw [f2 b (by omega), ih b hb (by omega)])
    rw [g2 k hk] at e1
    rw [f2 k hk] at e2
    omega
theorem ll_step {F : (Nat → Nat) → Prop} {c c' : Nat → Nat} {a : Nat} (h : ll F c a) (hc : ∀ b, b < a → c' b = c b) (h1 : ∃ f, F f ∧ (∀ b, b < a → f b = c b) ∧ f a = c' a) (h2 : ∀ f, F f → (∀ b, b < a → f b = c b) → c' a ≤ f a) : ll F c' (a + 1) := by
  constructor
  · obtain ⟨f, f1, f2, f3⟩ := h1
    refine ⟨f, f1, fun b hb => ?_⟩
    by_cases e : b = a
    · subst e; exact f3
    · rw [f2 b (by omega), hc b (by omega)]
  · intro f hf k hk hb
    by_cases e : k = a
    · subst e; exact h2 f hf (fun b hb' => by rw [hb b hb', hc b hb'])
    · rw [hc k (by omega)]
      exact h.2 f hf k (by omega) (fun b hb' => by rw [hb b hb', hc b (by omega)])
theorem ll_or1 {F G : (Nat → Nat) → Prop} {c t : Nat → Nat} {A k : Nat} (hF : ll F c A) (hG : ll G t A) (hk : k < A) (h1 : ∀ b, b < k → t b = c b) (h2 : t k < c k) : ll (fun f => F f ∨ G f) t A := by
  constructor
  · obtain ⟨f, f1, f2⟩ := hG.1
    exact ⟨f, Or.inr f1, f2⟩
  · rintro f (hf | hf) j hj hb
    · rcases Nat.lt_trichotomy j k with q | q | q
      · rw [h1 j q]
        exact hF.2 f hf j hj (fun b hb' => by rw [hb b hb', h1 b (by omega)])
      · subst q
        have := hF.2 f hf j hj (fun b hb' => by rw [hb b hb', h1 b (by omega)])
        omega
      · exfalso
        have := hF.2 f hf k hk (fun b hb' => by rw [hb b (by omega), h1 b (by omega)])
        rw [hb k q] at this
        omega
    · exact hG.2 f hf j hj hb
theorem ll_or2 {F G : (Nat → Nat) → Prop} {c t : Nat → Nat} {A : Nat} (hF : ll F c A) (hG : ll G t A) (h : (∀ b, b < A → t b = c b) ∨ ∃ k, k < A ∧ (∀ b, b < k → t b = c b) ∧ c k < t k) : ll (fun f => F f ∨ G f) c A := by
  rcases h with h | ⟨k, hk, h1, h2⟩
  · constructor
    · obtain ⟨f, f1, f2⟩ := hF.1
      exact ⟨f, Or.inl f1, f2⟩
    · rintro f (hf | hf) j hj hb
      · exact hF.2 f hf j hj hb
      · rw [← h j hj]
        exact hG.2 f hf j hj (fun b hb' => by rw [hb b hb', h b (by omega)])
  · have := ll_or1 hG hF hk (fun b hb => (h1 b hb).symm) h2
    refine ⟨?_, fun f hf => this.2 f hf.symm⟩
    obtain ⟨f, f1, f2⟩ := this.1
    exact ⟨f, f1.symm, f2⟩
theorem ll_cong {F G : (Nat → Nat) → Prop} {c : Nat → Nat} {A : Nat} (h : ll F c A) (e : ∀ f, F f ↔ G f) : ll G c A := by
  obtain ⟨⟨f, f1, f2⟩, h2⟩ := h
  exact ⟨⟨f, (e f).mp f1, f2⟩, fun f hf => h2 f ((e f).mpr hf)⟩
