section
/-! the tokens of a text: the pure side -/
def wls : List (List Nat) := [[119, 111, 114, 107, 115], [102, 97, 105, 108, 115], [119, 104, 101, 110], [111, 114], [97, 110, 100], [110, 111, 116], [107, 105, 110, 100], [115, 101, 99, 111, 110, 100], [120], [121], [119, 97, 114, 100, 115], [115, 112, 111, 105, 108, 116], [97, 110, 103, 101, 108], [100, 111, 110, 101], [112, 97, 99, 101], [115, 116, 97, 110, 100], [110, 111, 114, 116, 104], [101, 97, 115, 116], [115, 111, 117, 116, 104], [119, 101, 115, 116], [97, 103, 97, 105, 110], [109, 105, 115, 104, 97, 112], [97, 116], [102, 114, 111, 109], [116, 111], [119, 97, 114, 100], [117, 110, 108, 101, 115, 115], [99, 104, 97, 110, 99, 101], [112, 117, 115, 104], [103, 117, 115, 116], [103, 108, 111, 118, 101], [100, 111, 111, 114], [99, 97, 116], [103, 111], [119, 97, 105, 116]]
def wl (k : Nat) : List Nat := wls.getD k []
def wst (k : Nat) : Nat := ([1, 7, 13, 18, 21, 25, 29, 34, 41, 43, 45, 51, 58, 64, 69, 74, 80, 86, 91, 97, 102, 108, 115, 118, 123, 126, 131, 138, 145, 150, 155, 161, 166, 170, 173] : List Nat).getD k 0
def ctab : List Nat := [115, 116, 97, 110, 100, 32, 110, 111, 114, 116, 104, 32, 101, 97, 115, 116, 32, 115, 111, 117, 116, 104, 32, 119, 101, 115, 116, 32, 97, 103, 97, 105, 110, 32, 109, 105, 115, 104, 97, 112, 32, 97, 116, 32, 102, 114, 111, 109, 32, 116, 111, 32, 119, 97, 114, 100, 32, 117, 110, 108, 101, 115, 115, 32, 99, 104, 97, 110, 99, 101, 32, 112, 117, 115, 104, 32, 103, 117, 115, 116, 32, 103, 108, 111, 118, 101, 32, 100, 111, 111, 114, 32, 99, 97, 116, 32, 103, 111, 32, 119, 97, 105, 116, 32, 119, 111, 114, 107, 115, 32, 102, 97, 105, 108, 115, 32, 119, 104, 101, 110, 32, 111, 114, 32, 97, 110, 100, 32, 110, 111, 116, 32, 107, 105, 110, 100, 32, 115, 101, 99, 111, 110, 100, 32, 120, 32, 121, 32, 119, 97, 114, 100, 115, 32, 115, 112, 111, 105, 108, 116, 32, 97, 110, 103, 101, 108, 32, 100, 111, 110, 101, 32, 112, 97, 99, 101]
def cst (c : Nat) : Nat := ([0, 6, 12, 17, 23, 28, 34, 41, 44, 49, 52, 57, 64, 71, 76, 81, 87, 92, 96, 99, 104, 110, 116, 121, 124, 128, 132, 137, 144, 146, 148, 154, 161, 167, 172] : List Nat).getD c 0
def perm (c : Nat) : Nat := if c < 20 then c + 15 else c - 20
def ev_ch (x : Int) : Int := ((ctab.getD x.toNat 0 : Nat) : Int)
theorem wl_tab : ∀ k, k < 35 → (∀ i, i < (wl k).length → w_tab.getD (wst k + i) 0 = (wl k).getD i 0 ∧ (wl k).getD i 0 ≠ 32 ∧ (wl k).getD i 0 < 128) ∧ w_tab.getD (wst k + (wl k).length) 0 = 32 ∧ (1 ≤ (wl k).length ∧ (wl k).length ≤ 7) := by decide +kernel
theorem wst_next : ∀ k, k < 34 → wst (k + 1) = wst k + (wl k).length + 1 := by decide +kernel
theorem wst_ends : wst 0 = 1 ∧ wst 34 + (wl 34).length = 177 := by decide +kernel
theorem wst_lim : ∀ k, k < 35 → 1 ≤ wst k ∧ wst k + (wl k).length ≤ 177 := by decide +kernel
theorem cl_tab : ∀ c, c < 35 → (∀ i, i < (wl (perm c)).length → ctab.getD (cst c + i) 0 = (wl (perm c)).getD i 0) ∧ (c < 34 → ctab.getD (cst c + (wl (perm c)).length) 0 = 32 ∧ cst (c + 1) = cst c + (wl (perm c)).length + 1) ∧ cst c + (wl (perm c)).length ≤ 176 ∧ (c < 34 → cst c + (wl (perm c)).length < 176) := by decide +kernel
theorem cst_ends : cst 0 = 0 ∧ cst 34 + (wl (perm 34)).length = 176 := by decide +kernel
theorem perm_lt {c : Nat} (h : c < 35) : perm c < 35 := by unfold perm; split <;> omega
theorem wl_inj : ∀ k, k < 35 → ∀ j, j < 35 → wl k = wl j → k = j := by decide +kernel
def wm (b : Nat → Int) (p e k : Nat) : Prop := e = p + (wl k).length ∧ ∀ i, i < (wl k).length → b (p + i) = (((wl k).getD i 0 : Nat) : Int)
theorem wm_inj {b : Nat → Int} {p e k j : Nat} (hk : k < 35) (hj : j < 35) (h1 : wm b p e k) (h2 : wm b p e j) : k = j := by
  refine wl_inj k hk j hj (List.ext_getElem (by have := h1.1; have := h2.1; omega) (fun i i1 i2 => ?_))
  have a := h1.2 i i1
  have c := h2.2 i i2
  have ea : (wl k).getD i 0 = (wl k)[i] := by rw [List.getD_eq_getElem?_getD, List.getElem?_eq_getElem i1]; rfl
  have ec : (wl j).getD i 0 = (wl j)[i] := by rw [List.getD_eq_getElem?_getD, List.getElem?_eq_getElem i2]; rfl
  rw [ea] at a
  rw [ec] at c
  omega
noncomputable def WV (b : Nat → Int) (p e : Nat) : Int := @dite _ (∃ k, k < 35 ∧ wm b p e k) (Classical.propDecidable _) (fun h => ((Classical.choose h : Nat) : Int)) (fun _ => -1)
theorem WV_eq {b : Nat → Int} {p e k : Nat} (hk : k < 35) (h : wm b p e k) : WV b p e = (k : Int) := by
  have hx : ∃ k, k < 35 ∧ wm b p e k := ⟨k, hk, h⟩
  unfold WV
  rw [dif_pos hx]
  have := Classical.choose_spec hx
  rw [wm_inj this.1 hk this.2 h]
theorem WV_no {b : Nat → Int} {p e : Nat} (h : ∀ k, k < 35 → ¬ wm b p e k) : WV b p e = -1 := by
  unfold WV
  rw [dif_neg]
  rintro ⟨k, k1, k2⟩
  exact h k k1 k2
theorem WV_rng (b : Nat → Int) (p e : Nat) : WV b p e = -1 ∨ (0 ≤ WV b p e ∧ WV b p e ≤ 34) := by
  by_cases h : ∃ k, k < 35 ∧ wm b p e k
  · obtain ⟨k, k1, k2⟩ := h
    rw [WV_eq k1 k2]; omega
  · rw [WV_no (fun k k1 k2 => h ⟨k, k1, k2⟩)]; omega
/-! runs of characters -/
def run (P : Int → Bool) (b : Nat → Int) (L : Nat) : Nat → Nat → Nat
  | 0, p => p
  | n + 1, p => if p < L ∧ P (b p) = true then run P b L n (p + 1) else p
def rn (P : Int → Bool) (b : Nat → Int) (L p : Nat) : Nat := run P b L (L - p) p
theorem rn_step {P : Int → Bool} {b : Nat → Int} {L p : Nat} (h : p < L) (hP : P (b p) = true) : rn P b L p = rn P b L (p + 1) := by
  unfold rn
  rw [show L - p = (L - (p + 1)) + 1 by omega]
  simp only [run]
  rw [if_pos ⟨h, hP⟩]
theorem rn_stop {P : Int → Bool} {b : Nat → Int} {L p : Nat} (h : ¬ (p < L ∧ P (b p) = true)) : rn P b L p = p := by
  unfold rn
  cases L - p with
  | zero => rfl
  | succ n => simp only [run]; rw [if_neg h]
theorem rn_prop {P : Int → Bool} {b : Nat → Int} {L : Nat} : ∀ m p, p + m = L → p ≤ rn P b L p ∧ rn P b L p ≤ L ∧ (∀ j, p ≤ j → j < rn P b L p → P (b j) = true) ∧ (rn P b L p < L → P (b (rn P b L p)) = false)
  | 0, p, h => by
    rw [rn_stop (by omega)]
    exact ⟨Nat.le_refl _, by omega, fun j a c => absurd a (by omega), fun q => absurd q (by omega)⟩
  | m + 1, p, h => by
    by_cases c : P (b p) = true
    · obtain ⟨a1, a2, a3, a4⟩ := rn_prop (P := P) (b := b) (L := L) m (p + 1) (by omega)
      rw [rn_step (by omega) c]
      refine ⟨by omega, a2, fun j j1 j2 => ?_, a4⟩
      by_cases e : j = p
      · rw [e]; exact c
      · exact a3 j (by omega) j2
    · rw [rn_stop (fun q => c q.2)]
      exact ⟨Nat.le_refl _, by omega, fun j a c => absurd a (by omega), fun _ => by revert c; cases P (b p) <;> simp⟩
def cBl (c : Int) : Bool := decide (c = 32 ∨ c = 10)
def cLe (c : Int) : Bool := decide ((97 ≤ c ∧ c ≤ 122) ∨ (65 ≤ c ∧ c ≤ 90))
def cDi (c : Int) : Bool := decide (48 ≤ c ∧ c ≤ 57)
def cSi (c : Int) : Bool := decide (c = 59 ∨ c = 43 ∨ c = 45 ∨ c = 42 ∨ c = 47 ∨ c = 40 ∨ c = 41 ∨ c = 60 ∨ c = 61 ∨ c = 62)
def dv (b : Nat → Int) (f : Nat) : Nat → Int
  | 0 => 0
  | n + 1 => 10 * dv b f n + (b (f + n) - 48)
section Tok
variable (b : Nat → Int) (L : Nat)
def tE (f : Nat) : Nat := if cLe (b f) then rn cLe b L (f + 1) else if cDi (b f) then rn cDi b L (f + 1) else f + 1
noncomputable def tT (f : Nat) : Int := if L ≤ f then 0 else if cLe (b f) then (if WV b f (tE b L f) = -1 then 1 else 2) else if cDi (b f) then (if tE b L f < f + 5 then 3 else 1) else if cSi (b f) then 4 else 1
noncomputable def tV (f : Nat) : Int := if cLe (b f) then WV b f (tE b L f) else if cDi (b f) then dv b f (tE b L f - f) else b f
def tp : Nat → Nat
  | 0 => 0
  | j + 1 => if rn cBl b L (tp j) < L then tE b L (rn cBl b L (tp j)) else L
def kF (j : Nat) : Nat := rn cBl b L (tp b L j)
noncomputable def kT (j : Nat) : Int := tT b L (kF b L j)
noncomputable def kV (j : Nat) : Int := tV b L (kF b L j)
end Tok
def kdf (T V : Int) : Int := if T = 0 then 51 else if T = 1 then 52 else if T = 2 then (if V < 15 then V + 20 else V - 15) else if T = 3 then 50 else 100 + V
theorem tE_prop {b : Nat → Int} {L f : Nat} (h : f < L) : f + 1 ≤ tE b L f ∧ tE b L f ≤ L := by
  unfold tE
  have a := rn_prop (P := cLe) (b := b) (L := L) (L - (f + 1)) (f + 1) (by omega)
  have c := rn_prop (P := cDi) (b := b) (L := L) (L - (f + 1)) (f + 1) (by omega)
  split
  · exact ⟨a.1, a.2.1⟩
  · split
    · exact ⟨c.1, c.2.1⟩
    · exact ⟨Nat.le_refl _, h⟩
theorem tp_prop {b : Nat → Int} {L : Nat} : ∀ j, tp b L j ≤ L ∧ (kF b L j < L → j ≤ kF b L j)
  | 0 => ⟨Nat.zero_le _, fun _ => Nat.zero_le _⟩
  | j + 1 => by
    obtain ⟨h1, h2⟩ := tp_prop (b := b) (L := L) j
    have a := rn_prop (P := cBl) (b := b) (L := L) (L - tp b L j) (tp b L j) (by omega)
    have e : tp b L (j + 1) ≤ L ∧ (tp b L (j + 1) < L → j + 1 ≤ tp b L (j + 1)) := by
      simp only [tp]
      split
      · rename_i q
        have c := tE_prop (b := b) q
        have d := h2 q
        unfold kF at d
        exact ⟨c.2, fun _ => by omega⟩
      · exact ⟨Nat.le_refl _, fun q => absurd q (by omega)⟩
    refine ⟨e.1, fun q => ?_⟩
    have c := rn_prop (P := cBl) (b := b) (L := L) (L - tp b L (j + 1)) (tp b L (j + 1)) (by omega)
    unfold kF at q ⊢
    have := e.2 (by omega)
    omega
theorem kF_le {b : Nat → Int} {L : Nat} (j : Nat) : kF b L j ≤ L := (rn_prop (P := cBl) (b := b) (L := L) (L - tp b L j) (tp b L j) (by have := (tp_prop (b := b) (L := L) j).1; omega)).2.1
theorem kF_end {b : Nat → Int} {L n : Nat} (h : kF b L n = L) : ∀ m, kF b L (n + m) = L
  | 0 => h
  | m + 1 => by
    have ih := kF_end h m
    have e : tp b L (n + m + 1) = L := by
      simp only [tp]
      unfold kF at ih
      rw [if_neg (by omega)]
    rw [show n + (m + 1) = n + m + 1 by omega]
    unfold kF
    rw [e, rn_stop (by omega)]
theorem kT_0 {b : Nat → Int} {L j : Nat} (h : kF b L j = L) : kT b L j = 0 := by
  unfold kT tT
  rw [if_pos (by omega)]
theorem dv_rng {b : Nat → Int} {f : Nat} : ∀ n, n ≤ 4 → (∀ i, i < n → cDi (b (f + i)) = true) → 0 ≤ dv b f n ∧ dv b f n < ([1, 10, 100, 1000, 10000] : List Int).getD n 0
  | 0, _, _ => ⟨Int.le_refl 0, (by show (0 : Int) < 1; decide)⟩
  | n + 1, hn, h => by
    obtain ⟨a, c⟩ := dv_rng (b := b) (f := f) n (by omega) (fun i hi => h i (by omega))
    have d := h n (by omega)
    simp only [cDi, decide_eq_true_eq] at d
    simp only [dv]
    rcases (show n = 0 ∨ n = 1 ∨ n = 2 ∨ n = 3 by omega) with rfl | rfl | rfl | rfl
    · simp only [Nat.add_zero] at d
      simp at c ⊢
      omega
    · simp at c ⊢
      omega
    · simp at c ⊢
      omega
    · simp at c ⊢
      omega
/-- what a token may be -/
theorem kT_ok {b : Nat → Int} {L j : Nat} : (kF b L j < L → kT b L j ≠ 0) ∧ (0 ≤ kT b L j ∧ kT b L j ≤ 4) ∧ (kT b L j = 2 → 0 ≤ kV b L j ∧ kV b L j ≤ 34) ∧ (kT b L j = 3 → 0 ≤ kV b L j ∧ kV b L j ≤ 9999) ∧ (kT b L j = 4 → 40 ≤ kV b L j ∧ kV b L j ≤ 62) := by
  unfold kT kV tT tV
  generalize kF b L j = f
  by_cases c0 : L ≤ f
  · rw [if_pos c0]
    refine ⟨fun q => absurd q (by omega), by omega, fun q => absurd q (by omega), fun q => absurd q (by omega), fun q => absurd q (by omega)⟩
  · rw [if_neg c0]
    by_cases c1 : cLe (b f) = true
    · rw [if_pos c1, if_pos c1]
      have := WV_rng b f (tE b L f)
      by_cases c2 : WV b f (tE b L f) = -1
      · rw [if_pos c2]
        exact ⟨fun _ => by omega, by omega, fun q => absurd q (by omega), fun q => absurd q (by omega), fun q => absurd q (by omega)⟩
      · rw [if_neg c2]
        exact ⟨fun _ => by omega, by omega, fun q => by omega, fun q => absurd q (by omega), fun q => absurd q (by omega)⟩
    · rw [if_neg c1, if_neg c1]
      by_cases c2 : cDi (b f) = true
      · rw [if_pos c2, if_pos c2]
        by_cases c3 : tE b L f < f + 5
        · rw [if_pos c3]
          refine ⟨fun _ => by omega, by omega, fun q => absurd q (by omega), fun q => ?_, fun q => absurd q (by omega)⟩
          have e : tE b L f = rn cDi b L (f + 1) := by unfold tE; rw [if_neg c1, if_pos c2]
          have p := rn_prop (P := cDi) (b := b) (L := L) (L - (f + 1)) (f + 1) (by omega)
          have r := dv_rng (b := b) (f := f) (tE b L f - f) (by omega) (fun i hi => by
            by_cases ci : i = 0
            · rw [ci]; exact c2
            · exact p.2.2.1 (f + i) (by omega) (by omega))
          have hn : tE b L f - f = 1 ∨ tE b L f - f = 2 ∨ tE b L f - f = 3 ∨ tE b L f - f = 4 := by omega
          rcases hn with hn | hn | hn | hn <;> rw [hn] at r ⊢ <;> simp at r <;> omega
        · rw [if_neg c3]
          exact ⟨fun _ => by omega, by omega, fun q => absurd q (by omega), fun q => absurd q (by omega), fun q => absurd q (by omega)⟩
      · rw [if_neg c2, if_neg c2]
        by_cases c3 : cSi (b f) = true
        · rw [if_pos c3]
          simp only [cSi, decide_eq_true_eq] at c3
          exact ⟨fun _ => by omega, by omega, fun q => absurd q (by omega), fun q => absurd q (by omega), fun q => by omega⟩
        · rw [if_neg c3]
          exact ⟨fun _ => by omega, by omega, fun q => absurd q (by omega), fun q => absurd q (by omega), fun q => absurd q (by omega)⟩
end
