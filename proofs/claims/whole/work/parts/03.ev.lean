/-! THE PURE PICTURE. A world is a list of cells Y (arrays of ints, objects, arrays of references); what their ints hold is σ, by cell and place; references are numbers of cells. 'Ev Y M d pc l st σ Q': method M, at pc, with locals l and stack st over σ, comes to its end with an answer and a σ' of which Q holds; at most d frames above it. -/
abbrev ev_V : Type := Int ⊕ (Int ⊕ Option Nat)
abbrev ev_i (z : Int) : ev_V := .inl z
abbrev ev_l (z : Int) : ev_V := .inr (.inl z)
abbrev ev_r (k : Nat) : ev_V := .inr (.inr (some k))
abbrev ev_n : ev_V := .inr (.inr none)
abbrev ev_S : Type := Nat → Nat → Int
abbrev ev_C : Type := (Nat × Nat) ⊕ ((Nat × List (Option Nat)) ⊕ (Nat × List Nat))
abbrev ev_M : Type := String × ByteArray × Nat × Option FieldType × Nat
def ev_v (ad : Nat → Nat) : ev_V → Value
  | .inl z => .int (Int32.ofInt z)
  | .inr (.inl z) => .long (Int64.ofInt z)
  | .inr (.inr none) => .null
  | .inr (.inr (some k)) => .ref (ad k)
def ev_R (z : Int) : Prop := -2147483648 ≤ z ∧ z ≤ 2147483647
def ev_RL (z : Int) : Prop := -9223372036854775808 ≤ z ∧ z ≤ 9223372036854775807
def ev_okv : ev_V → Prop
  | .inl z => ev_R z
  | .inr (.inl z) => ev_RL z
  | .inr (.inr _) => True
def ev_ok (σ : ev_S) : Prop := ∀ k i, ev_R (σ k i)
def ev_up (σ : ev_S) (k i : Nat) (z : Int) : ev_S := fun a b => if a = k ∧ b = i then z else σ a b
theorem ev_up_same (σ : ev_S) (k i : Nat) (z : Int) : ev_up σ k i z k i = z := by simp [ev_up]
theorem ev_up_ne (σ : ev_S) {k i a b : Nat} (z : Int) (h : ¬ (a = k ∧ b = i)) : ev_up σ k i z a b = σ a b := by simp [ev_up, h]
theorem ev_up_ok {σ : ev_S} (h : ev_ok σ) {k i : Nat} {z : Int} (hz : ev_R z) : ev_ok (ev_up σ k i z) := by
  intro a b
  unfold ev_up
  split
  · exact hz
  · exact h a b
theorem ev_of (a : Int32) : Int32.ofInt a.toInt = a := Int32.ofInt_toInt a
theorem ev_of64 (a : Int64) : Int64.ofInt a.toInt = a := Int64.ofInt_toInt a
theorem ev_Rt (a : Int32) : ev_R a.toInt := by
  have h1 := Int32.le_toInt a
  have h2 := Int32.toInt_lt a
  constructor <;> omega
theorem ev_RLt (a : Int64) : ev_RL a.toInt := by
  have h1 := Int64.le_toInt a
  have h2 := Int64.toInt_lt a
  constructor <;> omega
theorem ev_to {z : Int} (h : ev_R z) : (Int32.ofInt z).toInt = z := by
  have e : Int32.size = 4294967296 := rfl
  rw [Int32.toInt_ofInt, e]
  exact Int.bmod_eq_of_le (by have := h.1; omega) (by have := h.2; omega)
theorem ev_to64 {z : Int} (h : ev_RL z) : (Int64.ofInt z).toInt = z := by
  have e : Int64.size = 18446744073709551616 := rfl
  rw [Int64.toInt_ofInt, e]
  exact Int.bmod_eq_of_le (by have := h.1; omega) (by have := h.2; omega)

def ev_add (x y : Int) : Int := (Int32.ofInt x + Int32.ofInt y).toInt
def ev_sub (x y : Int) : Int := (Int32.ofInt x - Int32.ofInt y).toInt
def ev_mul (x y : Int) : Int := (Int32.ofInt x * Int32.ofInt y).toInt
def ev_and (x y : Int) : Int := (Int32.ofInt x &&& Int32.ofInt y).toInt
def ev_or (x y : Int) : Int := (Int32.ofInt x ||| Int32.ofInt y).toInt
def ev_xor (x y : Int) : Int := (Int32.ofInt x ^^^ Int32.ofInt y).toInt
def ev_shl (x y : Int) : Int := (Int32.ofInt x <<< (Int32.ofInt y &&& 31)).toInt
def ev_shr (x y : Int) : Int := (Int32.ofInt x >>> (Int32.ofInt y &&& 31)).toInt
def ev_ushr (x y : Int) : Int := (((Int32.ofInt x).toUInt32 >>> ((Int32.ofInt y).toUInt32 &&& Int32.toUInt32 31)).toInt32).toInt
def ev_div (x y : Int) : Int := (Int32.ofInt x / Int32.ofInt y).toInt
def ev_rem (x y : Int) : Int := (Int32.ofInt x - Int32.ofInt x / Int32.ofInt y * Int32.ofInt y).toInt
def ev_ladd (x y : Int) : Int := (Int64.ofInt x + Int64.ofInt y).toInt
def ev_lsub (x y : Int) : Int := (Int64.ofInt x - Int64.ofInt y).toInt
def ev_lmul (x y : Int) : Int := (Int64.ofInt x * Int64.ofInt y).toInt
def ev_ldiv (x y : Int) : Int := (Int64.ofInt x / Int64.ofInt y).toInt
def ev_lrem (x y : Int) : Int := (Int64.ofInt x - Int64.ofInt x / Int64.ofInt y * Int64.ofInt y).toInt
def ev_neg (x : Int) : Int := (-(Int32.ofInt x)).toInt
def ev_i2b (x : Int) : Int := (Int32.ofInt x).toInt8.toInt32.toInt
def ev_i2c (x : Int) : Int := ((Int32.ofInt x).toUInt32 % 65536).toInt32.toInt
def ev_nar (ty : FieldType) (x : Int) : Int := (vp_nar ty (Int32.ofInt x)).toInt
def ev_fl (ad : Nat → Nat) (f : Nat → Int) : Nat → List (Option Nat) → List Value
  | _, [] => []
  | i, none :: r => .int (Int32.ofInt (f i)) :: ev_fl ad f (i + 1) r
  | i, some k :: r => .ref (ad k) :: ev_fl ad f (i + 1) r
def ev_cell (ct : Nat → ClassId) (ad : Nat → Nat) (f : Nat → Int) : ev_C → va_E
  | .inl (t, n) => .inl (ct t, n, .inl (fun j => Int32.ofInt (f j)))
  | .inr (.inl (ci, fs)) => .inr (ci, ev_fl ad f 0 fs)
  | .inr (.inr (t, js)) => .inl (ct t, js.length, .inr (.inr (.inr (.inr (fun i => js[i]?.map ad)))))
def ev_ws (Y : List ev_C) (ct : Nat → ClassId) (ad : Nat → Nat) (σ : ev_S) : va_W := Y.mapIdx (fun k sh => (ad k, ev_cell ct ad (σ k) sh))
def ev_tys (ct : Nat → ClassId) : List (ClassId × FieldType) := [(ct 0, .int), (ct 1, .byte), (ct 2, .boolean), (ct 3, .object "AngelTown$Course")]
def ev_rm (d : Nat) : Room := { frames := d, cells := 0, slots := 0, locals := 64 * d }
theorem ev_at {Y : List ev_C} {ct : Nat → ClassId} {ad : Nat → Nat} {σ : ev_S} {k : Nat} {sh : ev_C} (h : Y[k]? = some sh) : (ev_ws Y ct ad σ)[k]? = some (ad k, ev_cell ct ad (σ k) sh) := by
  simp [ev_ws, List.getElem?_mapIdx, h]
theorem ev_fl_none {ad : Nat → Nat} {f : Nat → Int} : ∀ {fs : List (Option Nat)} {b i : Nat}, fs[i]? = some none → (ev_fl ad f b fs)[i]? = some (.int (Int32.ofInt (f (b + i))))
  | [], _, i, h => by simp at h
  | none :: r, b, 0, h => by simp [ev_fl]
  | some k :: r, b, 0, h => by simp at h
  | none :: r, b, i + 1, h => by
    have := ev_fl_none (ad := ad) (f := f) (fs := r) (b := b + 1) (i := i) (by simpa using h)
    simp only [ev_fl, List.getElem?_cons_succ, this]; congr 4; omega
  | some k :: r, b, i + 1, h => by
    have := ev_fl_none (ad := ad) (f := f) (fs := r) (b := b + 1) (i := i) (by simpa using h)
    simp only [ev_fl, List.getElem?_cons_succ, this]; congr 4; omega
theorem ev_fl_some {ad : Nat → Nat} {f : Nat → Int} {k : Nat} : ∀ {fs : List (Option Nat)} {b i : Nat}, fs[i]? = some (some k) → (ev_fl ad f b fs)[i]? = some (.ref (ad k))
  | [], _, i, h => by simp at h
  | none :: r, b, 0, h => by simp at h
  | some k :: r, b, 0, h => by simp at h; simp [ev_fl, h]
  | none :: r, b, i + 1, h => by
    have := ev_fl_some (ad := ad) (f := f) (k := k) (fs := r) (b := b + 1) (i := i) (by simpa using h)
    simp only [ev_fl, List.getElem?_cons_succ, this]
  | some k :: r, b, i + 1, h => by
    have := ev_fl_some (ad := ad) (f := f) (fs := r) (b := b + 1) (i := i) (by simpa using h)
    simp only [ev_fl, List.getElem?_cons_succ, this]
theorem ev_fl_cong {ad : Nat → Nat} {f g : Nat → Int} : ∀ {fs : List (Option Nat)} {b : Nat}, (∀ j, b ≤ j → f j = g j) → ev_fl ad f b fs = ev_fl ad g b fs
  | [], _, _ => rfl
  | none :: r, b, h => by simp only [ev_fl]; rw [h b (Nat.le_refl b), ev_fl_cong (fun j hj => h j (by omega))]
  | some k :: r, b, h => by simp only [ev_fl]; rw [ev_fl_cong (fun j hj => h j (by omega))]
theorem ev_fl_len {ad : Nat → Nat} {f : Nat → Int} : ∀ {fs : List (Option Nat)} {b : Nat}, (ev_fl ad f b fs).length = fs.length
  | [], _ => rfl
  | none :: r, b => by simp [ev_fl, ev_fl_len]
  | some k :: r, b => by simp [ev_fl, ev_fl_len]
theorem ev_fl_set {ad : Nat → Nat} {f : Nat → Int} {z : Int} : ∀ {fs : List (Option Nat)} {b i : Nat}, fs[i]? = some none → (ev_fl ad f b fs).set i (.int (Int32.ofInt z)) = ev_fl ad (fun j => if j = b + i then z else f j) b fs
  | [], _, i, h => by simp at h
  | none :: r, b, 0, h => by
    simp only [ev_fl, List.set_cons_zero, Nat.add_zero, if_true]
    rw [ev_fl_cong (g := fun j => if j = b then z else f j) (fun j hj => by rw [if_neg (by omega)])]
  | some k :: r, b, 0, h => by simp at h
  | none :: r, b, i + 1, h => by
    have := ev_fl_set (ad := ad) (f := f) (z := z) (fs := r) (b := b + 1) (i := i) (by simpa using h)
    simp only [ev_fl, List.set_cons_succ, this]
    rw [if_neg (by omega)]; congr 2; funext j; congr 1; apply propext; omega
  | some k :: r, b, i + 1, h => by
    have := ev_fl_set (ad := ad) (f := f) (z := z) (fs := r) (b := b + 1) (i := i) (by simpa using h)
    simp only [ev_fl, List.set_cons_succ, this]
    congr 2; funext j; congr 1; apply propext; omega
theorem ev_ws_set {Y : List ev_C} {ct : Nat → ClassId} {ad : Nat → Nat} {σ σ' : ev_S} {k : Nat} {sh : ev_C} {E : va_E} (h : Y[k]? = some sh) (hE : ev_cell ct ad (σ' k) sh = E) (hσ : ∀ j, j ≠ k → σ' j = σ j) : (ev_ws Y ct ad σ).set k (ad k, E) = ev_ws Y ct ad σ' := by
  apply List.ext_getElem?
  intro j
  rw [List.getElem?_set]
  by_cases hj : k = j
  · subst hj
    have hlt : k < (ev_ws Y ct ad σ).length := by
      have := List.getElem?_eq_some_iff.mp h
      simp [ev_ws]; exact this.1
    rw [if_pos rfl, if_pos hlt, ev_at h, hE]
  · rw [if_neg hj]
    simp only [ev_ws, List.getElem?_mapIdx]
    cases hY : Y[j]? with
    | none => rfl
    | some q => simp [hσ j (fun h => hj h.symm)]
def ev_nest : Cond → Bool
  | .fieldLinkNest .. => true
  | .methodLinkNest .. => true
  | _ => false
def ev_tb : List Cond := lw_tbl.filter goodWord
def ev_Ns (U : State) : Prop := ∀ w ∈ lw_tbl, ev_nest w = true → va_Nw w U
theorem ev_Ns_warm {s U : State} (hW : s.WarmedH U.vm) (h : ev_Ns s) : ev_Ns U := by
  intro w hw hn
  have h1 := h w hw hn
  match w, hn with
  | .fieldLinkNest .., _ => exact va_Nw.warmF hW h1
  | .methodLinkNest .., _ => exact va_Nw.warmM hW h1
theorem ev_Ns_same {s U : State} (hv : s.vm = U.vm) (h : ev_Ns s) : ev_Ns U := by
  intro w hw hn
  have h1 := h w hw hn
  match w, hn with
  | .fieldLinkNest .., _ => exact va_Nw.same rfl hv h1
  | .methodLinkNest .., _ => exact va_Nw.same rfl hv h1
def ev_sl : List Nat := [176, 10]
def ev_sb : List (List Int32) := [[115, 116, 97, 110, 100, 32, 110, 111, 114, 116, 104, 32, 101, 97, 115, 116, 32, 115, 111, 117, 116, 104, 32, 119, 101, 115, 116, 32, 97, 103, 97, 105, 110, 32, 109, 105, 115, 104, 97, 112, 32, 97, 116, 32, 102, 114, 111, 109, 32, 116, 111, 32, 119, 97, 114, 100, 32, 117, 110, 108, 101, 115, 115, 32, 99, 104, 97, 110, 99, 101, 32, 112, 117, 115, 104, 32, 103, 117, 115, 116, 32, 103, 108, 111, 118, 101, 32, 100, 111, 111, 114, 32, 99, 97, 116, 32, 103, 111, 32, 119, 97, 105, 116, 32, 119, 111, 114, 107, 115, 32, 102, 97, 105, 108, 115, 32, 119, 104, 101, 110, 32, 111, 114, 32, 97, 110, 100, 32, 110, 111, 116, 32, 107, 105, 110, 100, 32, 115, 101, 99, 111, 110, 100, 32, 120, 32, 121, 32, 119, 97, 114, 100, 115, 32, 115, 112, 111, 105, 108, 116, 32, 97, 110, 103, 101, 108, 32, 100, 111, 110, 101, 32, 112, 97, 99, 101], [59, 43, 45, 42, 47, 40, 41, 60, 61, 62]]
def ev_T (A : Nat → Prop) (U : State) (H : Heap) : Prop := (∃ adK adV : Nat → Nat, vk_S 2 ev_sl ev_sb adK adV A U H ∧ vk_R "AngelTown$Tape" 51 "stand north east south west again mishap at from to ward unless chance push gust glove door cat go wait works fails when or and not kind second x y wards spoilt angel done pace" (adK 0) U ∧ vk_R "AngelTown$Tape" 44 ";+-*/()<=>" (adK 1) U) ∧ va_Z "java/lang/String" "COMPACT_STRINGS" "Z" (.int 1) A U H ∧ va_Zq "jdk/internal/util/Preconditions" "SIOOBE_FORMATTER" "Ljava/util/function/BiFunction;" A U H
theorem ev_T_narrow {A B : Nat → Prop} {U : State} {H : Heap} (h : ev_T A U H) (hAB : ∀ q, B q → A q) : ev_T B U H := by
  obtain ⟨⟨k1, k2, h1, h2, h3⟩, h4, h5⟩ := h
  exact ⟨⟨k1, k2, h1.narrow hAB, h2, h3⟩, h4.narrow hAB, h5.narrow hAB⟩
theorem ev_T_kept {A : Nat → Prop} {U : State} {H H1 : Heap} (h : ev_T A U H) (hq : ∀ a : Nat, a < H.size → ¬ A a → H1[a]? = H[a]?) : ev_T A U H1 := by
  obtain ⟨⟨k1, k2, h1, h2, h3⟩, h4, h5⟩ := h
  exact ⟨⟨k1, k2, h1.kept hq, h2, h3⟩, h4.kept hq, h5.kept hq⟩
theorem ev_T_warm {A : Nat → Prop} {s U : State} {H : Heap} (hW : s.WarmedH U.vm) (h : ev_T A s H) : ev_T A U H := by
  obtain ⟨⟨k1, k2, h1, h2, h3⟩, h4, h5⟩ := h
  exact ⟨⟨k1, k2, h1.moved hW.alike, h2.warm hW, h3.warm hW⟩, h4.moved hW.alike, h5.moved hW.alike⟩
theorem ev_T_same {A : Nat → Prop} {s U : State} {H : Heap} (hv : U.vm = s.vm) (h : ev_T A s H) : ev_T A U H := by
  obtain ⟨⟨k1, k2, h1, h2, h3⟩, h4, h5⟩ := h
  have ha : s.vm.Alike U.vm := by rw [hv]; exact Vm.Alike.refl _
  exact ⟨⟨k1, k2, h1.moved ha, h2.same hv, h3.same hv⟩, h4.moved ha, h5.moved ha⟩
def ev_X (M : ev_M) (p : Program) (s : State) (m : MethodId) (args : Array Value) (meth : Method) (c : Code) (D : va_G) (ct : Nat → ClassId) (A : Nat → Prop) : Prop :=
  p.tables.exec = Jvm.exec ∧ c.code = M.2.1 ∧ meth.sig.returnType = M.2.2.2.1 ∧ c.maxLocals = M.2.2.1 ∧ s.vm.findClass M.1 = some m.cls ∧ meth.locks = false ∧ (∀ w ∈ ev_tb, w.before args s = true) ∧ va_K D vwCl (ev_tys ct) s ∧ (∀ q, s.heap.size ≤ q → A q) ∧ ev_Ns s ∧ ev_T A s s.heap
theorem ev_hts {M : ev_M} {p : Program} {s : State} {m : MethodId} {args : Array Value} {meth : Method} {c : Code} {D : va_G} {ct : Nat → ClassId} {A : Nat → Prop} (X : ev_X M p s m args meth c D ct A) {w : Cond} (hw : w ∈ lw_tbl) (hg : goodWord w = true) : w.before args s = true := X.2.2.2.2.2.2.1 w (List.mem_filter.mpr ⟨hw, hg⟩)
def ev_H (Y : List ev_C) (D : va_G) (ct : Nat → ClassId) (ad : Nat → Nat) (A : Nat → Prop) (s : State) (H : Heap) (locs : List Loc) (σ : ev_S) : Prop :=
  va_P D vwCl (ev_ws Y ct ad σ) H ∧ va_D A (ev_ws Y ct ad σ) ∧ va_S A s.heap H locs ∧ ev_ok σ
def ev_B (Y : List ev_C) (D : va_G) (ct : Nat → ClassId) (ad : Nat → Nat) (A : Nat → Prop) (σ : ev_S) (t : State) : Prop :=
  va_P D vwCl (ev_ws Y ct ad σ) t.heap ∧ va_K D vwCl (ev_tys ct) t ∧ va_D A (ev_ws Y ct ad σ)
def ev_Qc (kind : Nat) (Y : List ev_C) (D : va_G) (ct : Nat → ClassId) (ad : Nat → Nat) (A : Nat → Prop) (Q : Option ev_V → ev_S → Prop) : Array Value → State → Outcome → State → Prop :=
  match kind with
  | 0 => va_Qv (fun u => Q none u ∧ ev_ok u) (ev_B Y D ct ad A) A
  | 1 => va_Qi (fun r u => ∃ z, ev_R z ∧ r = Int32.ofInt z ∧ Q (some (ev_i z)) u ∧ ev_ok u) (ev_B Y D ct ad A) A
  | _ => va_Ql (fun r u => ∃ z, ev_RL z ∧ r = Int64.ofInt z ∧ Q (some (ev_l z)) u ∧ ev_ok u) (ev_B Y D ct ad A) A
def ev_loc (ad : Nat → Nat) (l : List (Nat × ev_V)) : List (Nat × Value) := l.map (fun q => (q.1, ev_v ad q.2))
def Ev (Y : List ev_C) (M : ev_M) (d : Nat) (pc : Nat) (l : List (Nat × ev_V)) (st : List ev_V) (σ : ev_S) (Q : Option ev_V → ev_S → Prop) : Prop :=
  ∀ (p : Program) (L : Launch) (e : Env) (s : State) (m : MethodId) (args : Array Value) (below : List Frame) (meth : Method) (c : Code) (D : va_G) (ct : Nat → ClassId) (ad : Nat → Nat) (A : Nat → Prop) (H : Heap) (locs : List Loc) (ls : Array Slot),
    ev_X M p s m args meth c D ct A → ev_H Y D ct ad A s H locs σ → lv_has ls M.2.2.1 (ev_loc ad l) → (∀ q ∈ l, ev_okv q.2) → (∀ v ∈ st, ev_okv v) →
    W p L e (ev_rm d) s m args below meth c H locs 0 0 (MQ below (ev_Qc M.2.2.2.2 Y D ct ad A Q) args s 0 0 A) (F0 m pc ls (st.map (ev_v ad)))
section EvRows
variable {Y : List ev_C} {M : ev_M} {d pc : Nat} {l : List (Nat × ev_V)} {st : List ev_V} {σ : ev_S} {Q : Option ev_V → ev_S → Prop}
theorem ev_oks_tail {v : ev_V} {vs : List ev_V} (h : ∀ q ∈ v :: vs, ev_okv q) : ∀ q ∈ vs, ev_okv q := fun q hq => h q (List.mem_cons_of_mem _ hq)
theorem ev_oks_head {v : ev_V} {vs : List ev_V} (h : ∀ q ∈ v :: vs, ev_okv q) : ev_okv v := h v List.mem_cons_self
theorem ev_oks_cons {v : ev_V} {vs : List ev_V} (h1 : ev_okv v) (h : ∀ q ∈ vs, ev_okv q) : ∀ q ∈ v :: vs, ev_okv q := fun q hq => (List.mem_cons.mp hq).elim (fun e => e ▸ h1) (h q)
/-- what is known of the numbers at a point -/
theorem Ev_know (k : ev_ok σ → (∀ q ∈ l, ev_okv q.2) → (∀ v ∈ st, ev_okv v) → Ev Y M d pc l st σ Q) : Ev Y M d pc l st σ Q := by
  intro p L e s m args below meth c D ct ad A H locs ls X hH hl ho hs
  exact k hH.2.2.2 ho hs p L e s m args below meth c D ct ad A H locs ls X hH hl ho hs
theorem Ev_sub {l' : List (Nat × ev_V)} (ks : List Nat) (h : ks.filterMap (fun k => l[k]?) = l') (k : Ev Y M d pc l' st σ Q) : Ev Y M d pc l st σ Q := by
  subst h
  intro p L e s m args below meth c D ct ad A H locs ls X hH hl ho hs
  refine k p L e s m args below meth c D ct ad A H locs ls X hH ?_ ?_ hs
  · refine lv_sub hl ks ?_
    simp only [lv_pick, ev_loc, List.map_filterMap, List.getElem?_map]
  · intro q hq
    obtain ⟨i, -, hi⟩ := List.mem_filterMap.mp hq
    exact ho q (List.mem_of_getElem? hi)
theorem Ev_mono {Q' : Option ev_V → ev_S → Prop} (h : ∀ v u, Q v u → Q' v u) (k : Ev Y M d pc l st σ Q) : Ev Y M d pc l st σ Q' := by
  intro p L e s m args below meth c D ct ad A H locs ls X hH hl ho hs T hT S
  obtain ⟨t, h1, o, h2, h3, h4, h5⟩ := k p L e s m args below meth c D ct ad A H locs ls X hH hl ho hs T hT S
  refine ⟨t, h1, o, h2, h3, ?_, h5⟩
  revert h4
  generalize M.2.2.2.2 = kd
  intro h4
  match kd, h4 with
  | 0, h4 =>
    obtain ⟨⟨u, g1, g2, g3⟩, g4⟩ := h4
    exact ⟨⟨u, g1, ⟨h _ _ g2.1, g2.2⟩, g3⟩, g4⟩
  | 1, h4 =>
    obtain ⟨⟨r, u, g1, ⟨z, g2, g5, g6, g7⟩, g3⟩, g4⟩ := h4
    exact ⟨⟨r, u, g1, ⟨z, g2, g5, h _ _ g6, g7⟩, g3⟩, g4⟩
  | kd + 2, h4 =>
    obtain ⟨⟨r, u, g1, ⟨z, g2, g5, g6, g7⟩, g3⟩, g4⟩ := h4
    exact ⟨⟨r, u, g1, ⟨z, g2, g5, h _ _ g6, g7⟩, g3⟩, g4⟩

theorem Ev_iadd {x y : Int} (hd : decode M.2.1 pc = .ok (.iadd, 1)) (k : Ev Y M d (pc + 1) l (ev_i (ev_add x y) :: st) σ Q) : Ev Y M d pc l (ev_i y :: ev_i x :: st) σ Q := by
  intro p L e s m args below meth c D ct ad A H locs ls X hH hl ho hs
  refine lv_iadd X.1 X.2.1 hd ?_
  have h := k p L e s m args below meth c D ct ad A H locs ls X hH hl ho (ev_oks_cons (ev_Rt _) (ev_oks_tail (ev_oks_tail hs)))
  simp only [List.map_cons, ev_v, ev_add, ev_of] at h
  exact h
theorem Ev_isub {x y : Int} (hd : decode M.2.1 pc = .ok (.isub, 1)) (k : Ev Y M d (pc + 1) l (ev_i (ev_sub x y) :: st) σ Q) : Ev Y M d pc l (ev_i y :: ev_i x :: st) σ Q := by
  intro p L e s m args below meth c D ct ad A H locs ls X hH hl ho hs
  refine lv_isub X.1 X.2.1 hd ?_
  have h := k p L e s m args below meth c D ct ad A H locs ls X hH hl ho (ev_oks_cons (ev_Rt _) (ev_oks_tail (ev_oks_tail hs)))
  simp only [List.map_cons, ev_v, ev_sub, ev_of] at h
  exact h
theorem Ev_imul {x y : Int} (hd : decode M.2.1 pc = .ok (.imul, 1)) (k : Ev Y M d (pc + 1) l (ev_i (ev_mul x y) :: st) σ Q) : Ev Y M d pc l (ev_i y :: ev_i x :: st) σ Q := by
  intro p L e s m args below meth c D ct ad A H locs ls X hH hl ho hs
  refine lv_imul X.1 X.2.1 hd ?_
  have h := k p L e s m args below meth c D ct ad A H locs ls X hH hl ho (ev_oks_cons (ev_Rt _) (ev_oks_tail (ev_oks_tail hs)))
  simp only [List.map_cons, ev_v, ev_mul, ev_of] at h
  exact h
theorem Ev_iand {x y : Int} (hd : decode M.2.1 pc = .ok (.iand, 1)) (k : Ev Y M d (pc + 1) l (ev_i (ev_and x y) :: st) σ Q) : Ev Y M d pc l (ev_i y :: ev_i x :: st) σ Q := by
  intro p L e s m args below meth c D ct ad A H locs ls X hH hl ho hs
  refine lv_iand X.1 X.2.1 hd ?_
  have h := k p L e s m args below meth c D ct ad A H locs ls X hH hl ho (ev_oks_cons (ev_Rt _) (ev_oks_tail (ev_oks_tail hs)))
  simp only [List.map_cons, ev_v, ev_and, ev_of] at h
  exact h
theorem Ev_ior {x y : Int} (hd : decode M.2.1 pc = .ok (.ior, 1)) (k : Ev Y M d (pc + 1) l (ev_i (ev_or x y) :: st) σ Q) : Ev Y M d pc l (ev_i y :: ev_i x :: st) σ Q := by
  intro p L e s m args below meth c D ct ad A H locs ls X hH hl ho hs
  refine lv_ior X.1 X.2.1 hd ?_
  have h := k p L e s m args below meth c D ct ad A H locs ls X hH hl ho (ev_oks_cons (ev_Rt _) (ev_oks_tail (ev_oks_tail hs)))
  simp only [List.map_cons, ev_v, ev_or, ev_of] at h
  exact h
theorem Ev_ixor {x y : Int} (hd : decode M.2.1 pc = .ok (.ixor, 1)) (k : Ev Y M d (pc + 1) l (ev_i (ev_xor x y) :: st) σ Q) : Ev Y M d pc l (ev_i y :: ev_i x :: st) σ Q := by
  intro p L e s m args below meth c D ct ad A H locs ls X hH hl ho hs
  refine lv_ixor X.1 X.2.1 hd ?_
  have h := k p L e s m args below meth c D ct ad A H locs ls X hH hl ho (ev_oks_cons (ev_Rt _) (ev_oks_tail (ev_oks_tail hs)))
  simp only [List.map_cons, ev_v, ev_xor, ev_of] at h
  exact h
theorem Ev_ishl {x y : Int} (hd : decode M.2.1 pc = .ok (.ishl, 1)) (k : Ev Y M d (pc + 1) l (ev_i (ev_shl x y) :: st) σ Q) : Ev Y M d pc l (ev_i y :: ev_i x :: st) σ Q := by
  intro p L e s m args below meth c D ct ad A H locs ls X hH hl ho hs
  refine lv_ishl X.1 X.2.1 hd ?_
  have h := k p L e s m args below meth c D ct ad A H locs ls X hH hl ho (ev_oks_cons (ev_Rt _) (ev_oks_tail (ev_oks_tail hs)))
  simp only [List.map_cons, ev_v, ev_shl, ev_of] at h
  exact h
theorem Ev_ishr {x y : Int} (hd : decode M.2.1 pc = .ok (.ishr, 1)) (k : Ev Y M d (pc + 1) l (ev_i (ev_shr x y) :: st) σ Q) : Ev Y M d pc l (ev_i y :: ev_i x :: st) σ Q := by
  intro p L e s m args below meth c D ct ad A H locs ls X hH hl ho hs
  refine lv_ishr X.1 X.2.1 hd ?_
  have h := k p L e s m args below meth c D ct ad A H locs ls X hH hl ho (ev_oks_cons (ev_Rt _) (ev_oks_tail (ev_oks_tail hs)))
  simp only [List.map_cons, ev_v, ev_shr, ev_of] at h
  exact h
theorem Ev_iushr {x y : Int} (hd : decode M.2.1 pc = .ok (.iushr, 1)) (k : Ev Y M d (pc + 1) l (ev_i (ev_ushr x y) :: st) σ Q) : Ev Y M d pc l (ev_i y :: ev_i x :: st) σ Q := by
  intro p L e s m args below meth c D ct ad A H locs ls X hH hl ho hs
  refine lv_iushr X.1 X.2.1 hd rfl ?_
  have h := k p L e s m args below meth c D ct ad A H locs ls X hH hl ho (ev_oks_cons (ev_Rt _) (ev_oks_tail (ev_oks_tail hs)))
  simp only [List.map_cons, ev_v, ev_ushr, ev_of] at h
  exact h
theorem Ev_idiv {x y : Int} (hd : decode M.2.1 pc = .ok (.idiv, 1)) (hne : y ≠ 0) (k : Ev Y M d (pc + 1) l (ev_i (ev_div x y) :: st) σ Q) : Ev Y M d pc l (ev_i y :: ev_i x :: st) σ Q := by
  intro p L e s m args below meth c D ct ad A H locs ls X hH hl ho hs
  refine lv_idiv X.1 X.2.1 hd (fun h => hne (by have h1 := congrArg Int32.toInt h; rw [ev_to (ev_oks_head hs)] at h1; exact h1)) ?_
  have h := k p L e s m args below meth c D ct ad A H locs ls X hH hl ho (ev_oks_cons (ev_Rt _) (ev_oks_tail (ev_oks_tail hs)))
  simp only [List.map_cons, ev_v, ev_div, ev_of] at h
  exact h
theorem Ev_irem {x y : Int} (hd : decode M.2.1 pc = .ok (.irem, 1)) (hne : y ≠ 0) (k : Ev Y M d (pc + 1) l (ev_i (ev_rem x y) :: st) σ Q) : Ev Y M d pc l (ev_i y :: ev_i x :: st) σ Q := by
  intro p L e s m args below meth c D ct ad A H locs ls X hH hl ho hs
  refine lv_irem X.1 X.2.1 hd (fun h => hne (by have h1 := congrArg Int32.toInt h; rw [ev_to (ev_oks_head hs)] at h1; exact h1)) ?_
  have h := k p L e s m args below meth c D ct ad A H locs ls X hH hl ho (ev_oks_cons (ev_Rt _) (ev_oks_tail (ev_oks_tail hs)))
  simp only [List.map_cons, ev_v, ev_rem, ev_of] at h
  exact h
theorem Ev_ladd {x y : Int} (hd : decode M.2.1 pc = .ok (.ladd, 1)) (k : Ev Y M d (pc + 1) l (ev_l (ev_ladd x y) :: st) σ Q) : Ev Y M d pc l (ev_l y :: ev_l x :: st) σ Q := by
  intro p L e s m args below meth c D ct ad A H locs ls X hH hl ho hs
  refine lv_ladd X.1 X.2.1 hd ?_
  have h := k p L e s m args below meth c D ct ad A H locs ls X hH hl ho (ev_oks_cons (ev_RLt _) (ev_oks_tail (ev_oks_tail hs)))
  simp only [List.map_cons, ev_v, ev_ladd, ev_of64] at h
  exact h
theorem Ev_lsub {x y : Int} (hd : decode M.2.1 pc = .ok (.lsub, 1)) (k : Ev Y M d (pc + 1) l (ev_l (ev_lsub x y) :: st) σ Q) : Ev Y M d pc l (ev_l y :: ev_l x :: st) σ Q := by
  intro p L e s m args below meth c D ct ad A H locs ls X hH hl ho hs
  refine lv_lsub X.1 X.2.1 hd ?_
  have h := k p L e s m args below meth c D ct ad A H locs ls X hH hl ho (ev_oks_cons (ev_RLt _) (ev_oks_tail (ev_oks_tail hs)))
  simp only [List.map_cons, ev_v, ev_lsub, ev_of64] at h
  exact h
theorem Ev_lmul {x y : Int} (hd : decode M.2.1 pc = .ok (.lmul, 1)) (k : Ev Y M d (pc + 1) l (ev_l (ev_lmul x y) :: st) σ Q) : Ev Y M d pc l (ev_l y :: ev_l x :: st) σ Q := by
  intro p L e s m args below meth c D ct ad A H locs ls X hH hl ho hs
  refine lv_lmul X.1 X.2.1 hd ?_
  have h := k p L e s m args below meth c D ct ad A H locs ls X hH hl ho (ev_oks_cons (ev_RLt _) (ev_oks_tail (ev_oks_tail hs)))
  simp only [List.map_cons, ev_v, ev_lmul, ev_of64] at h
  exact h
theorem Ev_ldiv {x y : Int} (hd : decode M.2.1 pc = .ok (.ldiv, 1)) (hne : y ≠ 0) (k : Ev Y M d (pc + 1) l (ev_l (ev_ldiv x y) :: st) σ Q) : Ev Y M d pc l (ev_l y :: ev_l x :: st) σ Q := by
  intro p L e s m args below meth c D ct ad A H locs ls X hH hl ho hs
  refine lv_ldiv X.1 X.2.1 hd (fun h => hne (by have h1 := congrArg Int64.toInt h; rw [ev_to64 (ev_oks_head hs)] at h1; exact h1)) ?_
  have h := k p L e s m args below meth c D ct ad A H locs ls X hH hl ho (ev_oks_cons (ev_RLt _) (ev_oks_tail (ev_oks_tail hs)))
  simp only [List.map_cons, ev_v, ev_ldiv, ev_of64] at h
  exact h
theorem Ev_lrem {x y : Int} (hd : decode M.2.1 pc = .ok (.lrem, 1)) (hne : y ≠ 0) (k : Ev Y M d (pc + 1) l (ev_l (ev_lrem x y) :: st) σ Q) : Ev Y M d pc l (ev_l y :: ev_l x :: st) σ Q := by
  intro p L e s m args below meth c D ct ad A H locs ls X hH hl ho hs
  refine lv_lrem X.1 X.2.1 hd (fun h => hne (by have h1 := congrArg Int64.toInt h; rw [ev_to64 (ev_oks_head hs)] at h1; exact h1)) ?_
  have h := k p L e s m args below meth c D ct ad A H locs ls X hH hl ho (ev_oks_cons (ev_RLt _) (ev_oks_tail (ev_oks_tail hs)))
  simp only [List.map_cons, ev_v, ev_lrem, ev_of64] at h
  exact h
theorem Ev_ineg {x : Int} (hd : decode M.2.1 pc = .ok (.ineg, 1)) (k : Ev Y M d (pc + 1) l (ev_i (ev_neg x) :: st) σ Q) : Ev Y M d pc l (ev_i x :: st) σ Q := by
  intro p L e s m args below meth c D ct ad A H locs ls X hH hl ho hs
  refine lv_ineg X.1 X.2.1 hd ?_
  have h := k p L e s m args below meth c D ct ad A H locs ls X hH hl ho (ev_oks_cons (ev_Rt _) (ev_oks_tail hs))
  simp only [List.map_cons, ev_v, ev_neg, ev_of] at h
  exact h
theorem Ev_i2b {x : Int} (hd : decode M.2.1 pc = .ok (.i2b, 1)) (k : Ev Y M d (pc + 1) l (ev_i (ev_i2b x) :: st) σ Q) : Ev Y M d pc l (ev_i x :: st) σ Q := by
  intro p L e s m args below meth c D ct ad A H locs ls X hH hl ho hs
  refine lv_i2b X.1 X.2.1 hd rfl ?_
  have h := k p L e s m args below meth c D ct ad A H locs ls X hH hl ho (ev_oks_cons (ev_Rt _) (ev_oks_tail hs))
  simp only [List.map_cons, ev_v, ev_i2b, ev_of] at h
  exact h
theorem Ev_i2c {x : Int} (hd : decode M.2.1 pc = .ok (.i2c, 1)) (k : Ev Y M d (pc + 1) l (ev_i (ev_i2c x) :: st) σ Q) : Ev Y M d pc l (ev_i x :: st) σ Q := by
  intro p L e s m args below meth c D ct ad A H locs ls X hH hl ho hs
  refine lv_i2c X.1 X.2.1 hd rfl ?_
  have h := k p L e s m args below meth c D ct ad A H locs ls X hH hl ho (ev_oks_cons (ev_Rt _) (ev_oks_tail hs))
  simp only [List.map_cons, ev_v, ev_i2c, ev_of] at h
  exact h
theorem Ev_i2l {x : Int} (hd : decode M.2.1 pc = .ok (.i2l, 1)) (k : Ev Y M d (pc + 1) l (ev_l x :: st) σ Q) : Ev Y M d pc l (ev_i x :: st) σ Q := by
  intro p L e s m args below meth c D ct ad A H locs ls X hH hl ho hs
  have hx : ev_R x := ev_oks_head hs
  have e1 : (Int32.ofInt x).toInt64 = Int64.ofInt x := by
    apply Int64.toInt_inj.mp
    rw [Int32.toInt_toInt64, ev_to hx, ev_to64 ⟨by have := hx.1; omega, by have := hx.2; omega⟩]
  refine lv_i2l X.1 X.2.1 hd e1 ?_
  exact k p L e s m args below meth c D ct ad A H locs ls X hH hl ho (ev_oks_cons (show ev_RL x from ⟨by have := hx.1; omega, by have := hx.2; omega⟩) (ev_oks_tail hs))
theorem Ev_iconst {n z : Int} (hd : decode M.2.1 pc = .ok (.iconst n, 1)) (hz : n = z) (hr : ev_R z) (k : Ev Y M d (pc + 1) l (ev_i z :: st) σ Q) : Ev Y M d pc l st σ Q := by
  intro p L e s m args below meth c D ct ad A H locs ls X hH hl ho hs
  subst hz
  exact lv_iconst X.1 X.2.1 hd rfl (k p L e s m args below meth c D ct ad A H locs ls X hH hl ho (ev_oks_cons hr hs))
theorem Ev_bipush {n z : Int} (hd : decode M.2.1 pc = .ok (.bipush n, 2)) (hz : (Int8.ofInt n).toInt32 = Int32.ofInt z) (hr : ev_R z) (k : Ev Y M d (pc + 2) l (ev_i z :: st) σ Q) : Ev Y M d pc l st σ Q := by
  intro p L e s m args below meth c D ct ad A H locs ls X hH hl ho hs
  exact lv_bipush X.1 X.2.1 hd hz (k p L e s m args below meth c D ct ad A H locs ls X hH hl ho (ev_oks_cons hr hs))
theorem Ev_sipush {n z : Int} (hd : decode M.2.1 pc = .ok (.sipush n, 3)) (hz : (Int16.ofInt n).toInt32 = Int32.ofInt z) (hr : ev_R z) (k : Ev Y M d (pc + 3) l (ev_i z :: st) σ Q) : Ev Y M d pc l st σ Q := by
  intro p L e s m args below meth c D ct ad A H locs ls X hH hl ho hs
  exact lv_sipush X.1 X.2.1 hd hz (k p L e s m args below meth c D ct ad A H locs ls X hH hl ho (ev_oks_cons hr hs))
theorem Ev_ldc {i : Nat} {v : Int32} {z : Int} (hw : Cond.constant M.1 i v ∈ lw_tbl) (hd : decode M.2.1 pc = .ok (.ldc i, 2)) (hz : v = Int32.ofInt z) (hr : ev_R z) (k : Ev Y M d (pc + 2) l (ev_i z :: st) σ Q) : Ev Y M d pc l st σ Q := by
  intro p L e s m args below meth c D ct ad A H locs ls X hH hl ho hs
  subst hz
  exact lv_ldc X.1 X.2.1 X.2.2.2.2.1 (ev_hts X hw rfl) hd (k p L e s m args below meth c D ct ad A H locs ls X hH hl ho (ev_oks_cons hr hs))
theorem Ev_ldcw {i : Nat} {v : Int32} {z : Int} (hw : Cond.constant M.1 i v ∈ lw_tbl) (hd : decode M.2.1 pc = .ok (.ldc_w i, 3)) (hz : v = Int32.ofInt z) (hr : ev_R z) (k : Ev Y M d (pc + 3) l (ev_i z :: st) σ Q) : Ev Y M d pc l st σ Q := by
  intro p L e s m args below meth c D ct ad A H locs ls X hH hl ho hs
  subst hz
  exact lv_ldcw X.1 X.2.1 X.2.2.2.2.1 (ev_hts X hw rfl) hd (k p L e s m args below meth c D ct ad A H locs ls X hH hl ho (ev_oks_cons hr hs))
theorem Ev_ldc2 {i : Nat} {v : Int64} {z : Int} (hw : Cond.constantLong M.1 i v ∈ lw_tbl) (hd : decode M.2.1 pc = .ok (.ldc2_w i, 3)) (hz : v = Int64.ofInt z) (hr : ev_RL z) (k : Ev Y M d (pc + 3) l (ev_l z :: st) σ Q) : Ev Y M d pc l st σ Q := by
  intro p L e s m args below meth c D ct ad A H locs ls X hH hl ho hs
  subst hz
  exact lv_ldc2 X.1 X.2.1 X.2.2.2.2.1 (ev_hts X hw rfl) hd (k p L e s m args below meth c D ct ad A H locs ls X hH hl ho (ev_oks_cons hr hs))
theorem Ev_lconst {n : Fin 2} {z : Int} (hd : decode M.2.1 pc = .ok (.lconst n, 1)) (hz : Int64.ofNat (n : Nat) = Int64.ofInt z) (hr : ev_RL z) (k : Ev Y M d (pc + 1) l (ev_l z :: st) σ Q) : Ev Y M d pc l st σ Q := by
  intro p L e s m args below meth c D ct ad A H locs ls X hH hl ho hs
  exact lv_lconst X.1 X.2.1 hd hz (k p L e s m args below meth c D ct ad A H locs ls X hH hl ho (ev_oks_cons hr hs))
theorem Ev_null (hd : decode M.2.1 pc = .ok (.aconst_null, 1)) (k : Ev Y M d (pc + 1) l (ev_n :: st) σ Q) : Ev Y M d pc l st σ Q := by
  intro p L e s m args below meth c D ct ad A H locs ls X hH hl ho hs
  exact lv_null X.1 X.2.1 hd (k p L e s m args below meth c D ct ad A H locs ls X hH hl ho (ev_oks_cons (show ev_okv ev_n from trivial) hs))
theorem ev_lat {ad : Nat → Nat} {ls : Array Slot} {n : Nat} (hl : lv_has ls n (ev_loc ad l)) {k i : Nat} {v : ev_V} (h : l[k]? = some (i, v)) : ls[i]? = some (.val (ev_v ad v)) := lv_at hl k (by simp [ev_loc, h])
theorem Ev_iload_n {q : Fin 4} {i : Nat} {x : Int} (j : Nat) (hd : decode M.2.1 pc = .ok (.iload_n q, 1)) (hi : (q : Nat) = i) (hj : l[j]? = some (i, ev_i x)) (k : Ev Y M d (pc + 1) l (ev_i x :: st) σ Q) : Ev Y M d pc l st σ Q := by
  intro p L e s m args below meth c D ct ad A H locs ls X hH hl ho hs
  exact lv_iload_n X.1 X.2.1 hd hi (ev_lat hl hj) (k p L e s m args below meth c D ct ad A H locs ls X hH hl ho (ev_oks_cons (ho _ (List.mem_of_getElem? hj)) hs))
theorem Ev_iload {i : Nat} {x : Int} (j : Nat) (hd : decode M.2.1 pc = .ok (.iload i, 2)) (hj : l[j]? = some (i, ev_i x)) (k : Ev Y M d (pc + 2) l (ev_i x :: st) σ Q) : Ev Y M d pc l st σ Q := by
  intro p L e s m args below meth c D ct ad A H locs ls X hH hl ho hs
  exact lv_iload X.1 X.2.1 hd (ev_lat hl hj) (k p L e s m args below meth c D ct ad A H locs ls X hH hl ho (ev_oks_cons (ho _ (List.mem_of_getElem? hj)) hs))
theorem Ev_lload_n {q : Fin 4} {i : Nat} {x : Int} (j : Nat) (hd : decode M.2.1 pc = .ok (.lload_n q, 1)) (hi : (q : Nat) = i) (hj : l[j]? = some (i, ev_l x)) (k : Ev Y M d (pc + 1) l (ev_l x :: st) σ Q) : Ev Y M d pc l st σ Q := by
  intro p L e s m args below meth c D ct ad A H locs ls X hH hl ho hs
  exact lv_lload_n X.1 X.2.1 hd hi (ev_lat hl hj) (k p L e s m args below meth c D ct ad A H locs ls X hH hl ho (ev_oks_cons (ho _ (List.mem_of_getElem? hj)) hs))
theorem Ev_lload {i : Nat} {x : Int} (j : Nat) (hd : decode M.2.1 pc = .ok (.lload i, 2)) (hj : l[j]? = some (i, ev_l x)) (k : Ev Y M d (pc + 2) l (ev_l x :: st) σ Q) : Ev Y M d pc l st σ Q := by
  intro p L e s m args below meth c D ct ad A H locs ls X hH hl ho hs
  exact lv_lload X.1 X.2.1 hd (ev_lat hl hj) (k p L e s m args below meth c D ct ad A H locs ls X hH hl ho (ev_oks_cons (ho _ (List.mem_of_getElem? hj)) hs))
theorem Ev_aload_n {q : Fin 4} {i : Nat} {x : Nat} (j : Nat) (hd : decode M.2.1 pc = .ok (.aload_n q, 1)) (hi : (q : Nat) = i) (hj : l[j]? = some (i, ev_r x)) (k : Ev Y M d (pc + 1) l (ev_r x :: st) σ Q) : Ev Y M d pc l st σ Q := by
  intro p L e s m args below meth c D ct ad A H locs ls X hH hl ho hs
  exact lv_aload_n X.1 X.2.1 hd hi (ev_lat hl hj) (k p L e s m args below meth c D ct ad A H locs ls X hH hl ho (ev_oks_cons (ho _ (List.mem_of_getElem? hj)) hs))
theorem Ev_aload {i : Nat} {x : Nat} (j : Nat) (hd : decode M.2.1 pc = .ok (.aload i, 2)) (hj : l[j]? = some (i, ev_r x)) (k : Ev Y M d (pc + 2) l (ev_r x :: st) σ Q) : Ev Y M d pc l st σ Q := by
  intro p L e s m args below meth c D ct ad A H locs ls X hH hl ho hs
  exact lv_aload X.1 X.2.1 hd (ev_lat hl hj) (k p L e s m args below meth c D ct ad A H locs ls X hH hl ho (ev_oks_cons (ho _ (List.mem_of_getElem? hj)) hs))
theorem Ev_aload_nN {q : Fin 4} {i : Nat} (j : Nat) (hd : decode M.2.1 pc = .ok (.aload_n q, 1)) (hi : (q : Nat) = i) (hj : l[j]? = some (i, ev_n)) (k : Ev Y M d (pc + 1) l (ev_n :: st) σ Q) : Ev Y M d pc l st σ Q := by
  intro p L e s m args below meth c D ct ad A H locs ls X hH hl ho hs
  exact lv_aload_nN X.1 X.2.1 hd hi (ev_lat hl hj) (k p L e s m args below meth c D ct ad A H locs ls X hH hl ho (ev_oks_cons (ho _ (List.mem_of_getElem? hj)) hs))
def ev_is2 : ev_V → Bool
  | .inl _ => false
  | .inr (.inl _) => true
  | .inr (.inr _) => false
theorem ev_cat (ad : Nat → Nat) (v : ev_V) : ((ev_v ad v).category == 2) = ev_is2 v := by
  match v with
  | .inl _ => rfl
  | .inr (.inl _) => rfl
  | .inr (.inr none) => rfl
  | .inr (.inr (some _)) => rfl
theorem ev_loc_filter (ad : Nat → Nat) (i : Nat) (l : List (Nat × ev_V)) : (ev_loc ad l).filter (fun q => !(q.1 == i) && !(q.1 + 1 == i && q.2.category == 2)) = ev_loc ad (l.filter (fun q => !(q.1 == i) && !(q.1 + 1 == i && ev_is2 q.2))) := by
  simp only [ev_loc, List.filter_map]
  congr 1
  apply List.filter_congr
  intro q _
  simp only [Function.comp, ev_cat]
theorem ev_loc_filter2 (ad : Nat → Nat) (i : Nat) (l : List (Nat × ev_V)) : (ev_loc ad l).filter (fun q => !(q.1 == i) && (!(q.1 == i + 1) && !(q.1 + 1 == i && q.2.category == 2))) = ev_loc ad (l.filter (fun q => !(q.1 == i) && (!(q.1 == i + 1) && !(q.1 + 1 == i && ev_is2 q.2)))) := by
  simp only [ev_loc, List.filter_map]
  congr 1
  apply List.filter_congr
  intro q _
  simp only [Function.comp, ev_cat]
def ev_s1 (i : Nat) (v : ev_V) (l : List (Nat × ev_V)) : List (Nat × ev_V) := (i, v) :: l.filter (fun q => !(q.1 == i) && !(q.1 + 1 == i && ev_is2 q.2))
def ev_s2 (i : Nat) (v : ev_V) (l : List (Nat × ev_V)) : List (Nat × ev_V) := (i, v) :: l.filter (fun q => !(q.1 == i) && (!(q.1 == i + 1) && !(q.1 + 1 == i && ev_is2 q.2)))
theorem ev_s1_ok {i : Nat} {v : ev_V} (ho : ∀ q ∈ l, ev_okv q.2) (hv : ev_okv v) : ∀ q ∈ ev_s1 i v l, ev_okv q.2 := fun q hq => (List.mem_cons.mp hq).elim (fun e => e ▸ hv) (fun h => ho q (List.mem_filter.mp h).1)
theorem ev_s2_ok {i : Nat} {v : ev_V} (ho : ∀ q ∈ l, ev_okv q.2) (hv : ev_okv v) : ∀ q ∈ ev_s2 i v l, ev_okv q.2 := fun q hq => (List.mem_cons.mp hq).elim (fun e => e ▸ hv) (fun h => ho q (List.mem_filter.mp h).1)
theorem Ev_istore_n {q : Fin 4} {i : Nat} {x : Int} {l' : List (Nat × ev_V)} (hd : decode M.2.1 pc = .ok (.istore_n q, 1)) (hi : (q : Nat) = i) (hn : i < M.2.2.1) (hl' : ev_s1 i (ev_i x) l = l') (k : Ev Y M d (pc + 1) l' st σ Q) : Ev Y M d pc l (ev_i x :: st) σ Q := by
  subst hl'
  intro p L e s m args below meth c D ct ad A H locs ls X hH hl ho hs
  refine lv_istore_n (lv' := ev_loc ad (ev_s1 i (ev_i x) l)) X.1 X.2.1 hd hi hl hn (by rw [ev_loc_filter]; rfl) (fun ls hl => ?_)
  exact k p L e s m args below meth c D ct ad A H locs ls X hH hl (ev_s1_ok ho (ev_oks_head hs)) (ev_oks_tail hs)
theorem Ev_istore {i : Nat} {x : Int} {l' : List (Nat × ev_V)} (hd : decode M.2.1 pc = .ok (.istore i, 2)) (hn : i < M.2.2.1) (hl' : ev_s1 i (ev_i x) l = l') (k : Ev Y M d (pc + 2) l' st σ Q) : Ev Y M d pc l (ev_i x :: st) σ Q := by
  subst hl'
  intro p L e s m args below meth c D ct ad A H locs ls X hH hl ho hs
  refine lv_istore (lv' := ev_loc ad (ev_s1 i (ev_i x) l)) X.1 X.2.1 hd hl hn (by rw [ev_loc_filter]; rfl) (fun ls hl => ?_)
  exact k p L e s m args below meth c D ct ad A H locs ls X hH hl (ev_s1_ok ho (ev_oks_head hs)) (ev_oks_tail hs)
theorem Ev_astore_n {q : Fin 4} {i : Nat} {x : Nat} {l' : List (Nat × ev_V)} (hd : decode M.2.1 pc = .ok (.astore_n q, 1)) (hi : (q : Nat) = i) (hn : i < M.2.2.1) (hl' : ev_s1 i (ev_r x) l = l') (k : Ev Y M d (pc + 1) l' st σ Q) : Ev Y M d pc l (ev_r x :: st) σ Q := by
  subst hl'
  intro p L e s m args below meth c D ct ad A H locs ls X hH hl ho hs
  refine lv_astore_n (lv' := ev_loc ad (ev_s1 i (ev_r x) l)) X.1 X.2.1 hd hi hl hn (by rw [ev_loc_filter]; rfl) (fun ls hl => ?_)
  exact k p L e s m args below meth c D ct ad A H locs ls X hH hl (ev_s1_ok ho (ev_oks_head hs)) (ev_oks_tail hs)
theorem Ev_astore {i : Nat} {x : Nat} {l' : List (Nat × ev_V)} (hd : decode M.2.1 pc = .ok (.astore i, 2)) (hn : i < M.2.2.1) (hl' : ev_s1 i (ev_r x) l = l') (k : Ev Y M d (pc + 2) l' st σ Q) : Ev Y M d pc l (ev_r x :: st) σ Q := by
  subst hl'
  intro p L e s m args below meth c D ct ad A H locs ls X hH hl ho hs
  refine lv_astore (lv' := ev_loc ad (ev_s1 i (ev_r x) l)) X.1 X.2.1 hd hl hn (by rw [ev_loc_filter]; rfl) (fun ls hl => ?_)
  exact k p L e s m args below meth c D ct ad A H locs ls X hH hl (ev_s1_ok ho (ev_oks_head hs)) (ev_oks_tail hs)
theorem Ev_lstore_n {q : Fin 4} {i : Nat} {x : Int} {l' : List (Nat × ev_V)} (hd : decode M.2.1 pc = .ok (.lstore_n q, 1)) (hi : (q : Nat) = i) (hn : i + 1 < M.2.2.1) (hl' : ev_s2 i (ev_l x) l = l') (k : Ev Y M d (pc + 1) l' st σ Q) : Ev Y M d pc l (ev_l x :: st) σ Q := by
  subst hl'
  intro p L e s m args below meth c D ct ad A H locs ls X hH hl ho hs
  refine lv_lstore_n (lv' := ev_loc ad (ev_s2 i (ev_l x) l)) X.1 X.2.1 hd hi hl hn (by rw [ev_loc_filter2]; rfl) (fun ls hl => ?_)
  exact k p L e s m args below meth c D ct ad A H locs ls X hH hl (ev_s2_ok ho (ev_oks_head hs)) (ev_oks_tail hs)
theorem Ev_lstore {i : Nat} {x : Int} {l' : List (Nat × ev_V)} (hd : decode M.2.1 pc = .ok (.lstore i, 2)) (hn : i + 1 < M.2.2.1) (hl' : ev_s2 i (ev_l x) l = l') (k : Ev Y M d (pc + 2) l' st σ Q) : Ev Y M d pc l (ev_l x :: st) σ Q := by
  subst hl'
  intro p L e s m args below meth c D ct ad A H locs ls X hH hl ho hs
  refine lv_lstore (lv' := ev_loc ad (ev_s2 i (ev_l x) l)) X.1 X.2.1 hd hl hn (by rw [ev_loc_filter2]; rfl) (fun ls hl => ?_)
  exact k p L e s m args below meth c D ct ad A H locs ls X hH hl (ev_s2_ok ho (ev_oks_head hs)) (ev_oks_tail hs)
theorem Ev_astore_nN {q : Fin 4} {i : Nat} {l' : List (Nat × ev_V)} (hd : decode M.2.1 pc = .ok (.astore_n q, 1)) (hi : (q : Nat) = i) (hn : i < M.2.2.1) (hl' : ev_s1 i ev_n l = l') (k : Ev Y M d (pc + 1) l' st σ Q) : Ev Y M d pc l (ev_n :: st) σ Q := by
  subst hl'
  intro p L e s m args below meth c D ct ad A H locs ls X hH hl ho hs
  refine lv_astore_nN (lv' := ev_loc ad (ev_s1 i ev_n l)) X.1 X.2.1 hd hi hl hn (by rw [ev_loc_filter]; rfl) (fun ls hl => ?_)
  exact k p L e s m args below meth c D ct ad A H locs ls X hH hl (ev_s1_ok ho (ev_oks_head hs)) (ev_oks_tail hs)
theorem Ev_iinc {i j : Nat} {n x : Int} {l' : List (Nat × ev_V)} (hd : decode M.2.1 pc = .ok (.iinc i n, 3)) (hj : l[j]? = some (i, ev_i x)) (hn : i < M.2.2.1) (hl' : ev_s1 i (ev_i (ev_add x n)) l = l') (k : Ev Y M d (pc + 3) l' st σ Q) : Ev Y M d pc l st σ Q := by
  subst hl'
  intro p L e s m args below meth c D ct ad A H locs ls X hH hl ho hs
  refine lv_iinc (x := Int32.ofInt x) (v := Int32.ofInt (ev_add x n)) (k := j) (lv' := ev_loc ad (ev_s1 i (ev_i (ev_add x n)) l)) X.1 X.2.1 hd hl (by simp [ev_loc, hj, ev_v]) (by simp only [ev_add, ev_of]) hn (by rw [ev_loc_filter]; rfl) (fun ls hl => ?_)
  exact k p L e s m args below meth c D ct ad A H locs ls X hH hl (ev_s1_ok ho (ev_Rt _)) hs
theorem ev_c1 {v : ev_V} (ad : Nat → Nat) (h : ev_is2 v = false) : (ev_v ad v).category = 1 := by
  match v, h with
  | .inl _, _ => rfl
  | .inr (.inr none), _ => rfl
  | .inr (.inr (some _)), _ => rfl
theorem Ev_dup {v : ev_V} (hd : decode M.2.1 pc = .ok (.dup, 1)) (hv : ev_is2 v = false) (k : Ev Y M d (pc + 1) l (v :: v :: st) σ Q) : Ev Y M d pc l (v :: st) σ Q := by
  intro p L e s m args below meth c D ct ad A H locs ls X hH hl ho hs
  exact lv_dup X.1 X.2.1 hd (ev_c1 ad hv) (k p L e s m args below meth c D ct ad A H locs ls X hH hl ho (ev_oks_cons (ev_oks_head hs) hs))
theorem Ev_pop {v : ev_V} (hd : decode M.2.1 pc = .ok (.pop, 1)) (hv : ev_is2 v = false) (k : Ev Y M d (pc + 1) l st σ Q) : Ev Y M d pc l (v :: st) σ Q := by
  intro p L e s m args below meth c D ct ad A H locs ls X hH hl ho hs
  exact lv_pop X.1 X.2.1 hd (ev_c1 ad hv) (k p L e s m args below meth c D ct ad A H locs ls X hH hl ho (ev_oks_tail hs))
theorem Ev_dup2 {v u : ev_V} (hd : decode M.2.1 pc = .ok (.dup2, 1)) (hv : ev_is2 v = false) (hu : ev_is2 u = false) (k : Ev Y M d (pc + 1) l (v :: u :: v :: u :: st) σ Q) : Ev Y M d pc l (v :: u :: st) σ Q := by
  intro p L e s m args below meth c D ct ad A H locs ls X hH hl ho hs
  exact lv_dup2_11 X.1 X.2.1 hd (ev_c1 ad hv) (ev_c1 ad hu) (k p L e s m args below meth c D ct ad A H locs ls X hH hl ho (ev_oks_cons (ev_oks_head hs) (ev_oks_cons (ev_oks_head (ev_oks_tail hs)) hs)))
theorem Ev_goto {off : Int} {tgt : Nat} (hd : decode M.2.1 pc = .ok (.goto off, 3)) (ht : (pc : Int) + off = (tgt : Int)) (k : Ev Y M d tgt l st σ Q) : Ev Y M d pc l st σ Q := by
  intro p L e s m args below meth c D ct ad A H locs ls X hH hl ho hs
  exact lv_goto X.1 X.2.1 hd ht (k p L e s m args below meth c D ct ad A H locs ls X hH hl ho hs)
theorem ev_lt {x y : Int} (hx : ev_R x) (hy : ev_R y) : Int32.ofInt x < Int32.ofInt y ↔ x < y := by rw [Int32.lt_iff_toInt_lt, ev_to hx, ev_to hy]
theorem ev_le {x y : Int} (hx : ev_R x) (hy : ev_R y) : Int32.ofInt x ≤ Int32.ofInt y ↔ x ≤ y := by rw [Int32.le_iff_toInt_le, ev_to hx, ev_to hy]
theorem ev_eq {x y : Int} (hx : ev_R x) (hy : ev_R y) : Int32.ofInt x = Int32.ofInt y ↔ x = y := by rw [← Int32.toInt_inj, ev_to hx, ev_to hy]
theorem ev_R0 : ev_R 0 := ⟨by omega, by omega⟩
theorem Ev_icmp_eq {x y : Int} {off : Int} {tgt : Nat} (hd : decode M.2.1 pc = .ok (.if_icmp .eq off, 3)) (ht : (pc : Int) + off = (tgt : Int)) (kt : x = y → Ev Y M d tgt l st σ Q) (kf : x ≠ y → Ev Y M d (pc + 3) l st σ Q) : Ev Y M d pc l (ev_i y :: ev_i x :: st) σ Q := by
  intro p L e s m args below meth c D ct ad A H locs ls X hH hl ho hs
  have hy : ev_R y := ev_oks_head hs
  have hx : ev_R x := ev_oks_head (ev_oks_tail hs)
  have hs := ev_oks_tail (ev_oks_tail hs)
  exact lv_icmp_eq X.1 X.2.1 hd ht (fun h => kt ((ev_eq hx hy).mp h) p L e s m args below meth c D ct ad A H locs ls X hH hl ho hs) (fun h => kf (fun g => h ((ev_eq hx hy).mpr g)) p L e s m args below meth c D ct ad A H locs ls X hH hl ho hs)
theorem Ev_if_eq {x : Int} {off : Int} {tgt : Nat} (hd : decode M.2.1 pc = .ok (.ifCond .eq off, 3)) (ht : (pc : Int) + off = (tgt : Int)) (kt : x = 0 → Ev Y M d tgt l st σ Q) (kf : x ≠ 0 → Ev Y M d (pc + 3) l st σ Q) : Ev Y M d pc l (ev_i x :: st) σ Q := by
  intro p L e s m args below meth c D ct ad A H locs ls X hH hl ho hs
  have hx : ev_R x := ev_oks_head hs
  have hy : ev_R 0 := ev_R0
  have hs := ev_oks_tail hs
  exact lv_if_eq X.1 X.2.1 hd ht (fun h => kt ((ev_eq hx hy).mp h) p L e s m args below meth c D ct ad A H locs ls X hH hl ho hs) (fun h => kf (fun g => h ((ev_eq hx hy).mpr g)) p L e s m args below meth c D ct ad A H locs ls X hH hl ho hs)
theorem Ev_icmp_ne {x y : Int} {off : Int} {tgt : Nat} (hd : decode M.2.1 pc = .ok (.if_icmp .ne off, 3)) (ht : (pc : Int) + off = (tgt : Int)) (kt : x ≠ y → Ev Y M d tgt l st σ Q) (kf : x = y → Ev Y M d (pc + 3) l st σ Q) : Ev Y M d pc l (ev_i y :: ev_i x :: st) σ Q := by
  intro p L e s m args below meth c D ct ad A H locs ls X hH hl ho hs
  have hy : ev_R y := ev_oks_head hs
  have hx : ev_R x := ev_oks_head (ev_oks_tail hs)
  have hs := ev_oks_tail (ev_oks_tail hs)
  exact lv_icmp_ne X.1 X.2.1 hd ht (fun h => kt (fun g => h ((ev_eq hx hy).mpr g)) p L e s m args below meth c D ct ad A H locs ls X hH hl ho hs) (fun h => kf ((ev_eq hx hy).mp h) p L e s m args below meth c D ct ad A H locs ls X hH hl ho hs)
theorem Ev_if_ne {x : Int} {off : Int} {tgt : Nat} (hd : decode M.2.1 pc = .ok (.ifCond .ne off, 3)) (ht : (pc : Int) + off = (tgt : Int)) (kt : x ≠ 0 → Ev Y M d tgt l st σ Q) (kf : x = 0 → Ev Y M d (pc + 3) l st σ Q) : Ev Y M d pc l (ev_i x :: st) σ Q := by
  intro p L e s m args below meth c D ct ad A H locs ls X hH hl ho hs
  have hx : ev_R x := ev_oks_head hs
  have hy : ev_R 0 := ev_R0
  have hs := ev_oks_tail hs
  exact lv_if_ne X.1 X.2.1 hd ht (fun h => kt (fun g => h ((ev_eq hx hy).mpr g)) p L e s m args below meth c D ct ad A H locs ls X hH hl ho hs) (fun h => kf ((ev_eq hx hy).mp h) p L e s m args below meth c D ct ad A H locs ls X hH hl ho hs)
theorem Ev_icmp_lt {x y : Int} {off : Int} {tgt : Nat} (hd : decode M.2.1 pc = .ok (.if_icmp .lt off, 3)) (ht : (pc : Int) + off = (tgt : Int)) (kt : x < y → Ev Y M d tgt l st σ Q) (kf : y ≤ x → Ev Y M d (pc + 3) l st σ Q) : Ev Y M d pc l (ev_i y :: ev_i x :: st) σ Q := by
  intro p L e s m args below meth c D ct ad A H locs ls X hH hl ho hs
  have hy : ev_R y := ev_oks_head hs
  have hx : ev_R x := ev_oks_head (ev_oks_tail hs)
  have hs := ev_oks_tail (ev_oks_tail hs)
  exact lv_icmp_lt X.1 X.2.1 hd ht (fun h => kt ((ev_lt hx hy).mp h) p L e s m args below meth c D ct ad A H locs ls X hH hl ho hs) (fun h => kf (Int.not_lt.mp (fun g => h ((ev_lt hx hy).mpr g))) p L e s m args below meth c D ct ad A H locs ls X hH hl ho hs)
theorem Ev_if_lt {x : Int} {off : Int} {tgt : Nat} (hd : decode M.2.1 pc = .ok (.ifCond .lt off, 3)) (ht : (pc : Int) + off = (tgt : Int)) (kt : x < 0 → Ev Y M d tgt l st σ Q) (kf : 0 ≤ x → Ev Y M d (pc + 3) l st σ Q) : Ev Y M d pc l (ev_i x :: st) σ Q := by
  intro p L e s m args below meth c D ct ad A H locs ls X hH hl ho hs
  have hx : ev_R x := ev_oks_head hs
  have hy : ev_R 0 := ev_R0
  have hs := ev_oks_tail hs
  exact lv_if_lt X.1 X.2.1 hd ht (fun h => kt ((ev_lt hx hy).mp h) p L e s m args below meth c D ct ad A H locs ls X hH hl ho hs) (fun h => kf (Int.not_lt.mp (fun g => h ((ev_lt hx hy).mpr g))) p L e s m args below meth c D ct ad A H locs ls X hH hl ho hs)
theorem Ev_icmp_ge {x y : Int} {off : Int} {tgt : Nat} (hd : decode M.2.1 pc = .ok (.if_icmp .ge off, 3)) (ht : (pc : Int) + off = (tgt : Int)) (kt : y ≤ x → Ev Y M d tgt l st σ Q) (kf : x < y → Ev Y M d (pc + 3) l st σ Q) : Ev Y M d pc l (ev_i y :: ev_i x :: st) σ Q := by
  intro p L e s m args below meth c D ct ad A H locs ls X hH hl ho hs
  have hy : ev_R y := ev_oks_head hs
  have hx : ev_R x := ev_oks_head (ev_oks_tail hs)
  have hs := ev_oks_tail (ev_oks_tail hs)
  exact lv_icmp_ge X.1 X.2.1 hd ht (fun h => kt ((ev_le hy hx).mp h) p L e s m args below meth c D ct ad A H locs ls X hH hl ho hs) (fun h => kf (Int.not_le.mp (fun g => h ((ev_le hy hx).mpr g))) p L e s m args below meth c D ct ad A H locs ls X hH hl ho hs)
theorem Ev_if_ge {x : Int} {off : Int} {tgt : Nat} (hd : decode M.2.1 pc = .ok (.ifCond .ge off, 3)) (ht : (pc : Int) + off = (tgt : Int)) (kt : 0 ≤ x → Ev Y M d tgt l st σ Q) (kf : x < 0 → Ev Y M d (pc + 3) l st σ Q) : Ev Y M d pc l (ev_i x :: st) σ Q := by
  intro p L e s m args below meth c D ct ad A H locs ls X hH hl ho hs
  have hx : ev_R x := ev_oks_head hs
  have hy : ev_R 0 := ev_R0
  have hs := ev_oks_tail hs
  exact lv_if_ge X.1 X.2.1 hd ht (fun h => kt ((ev_le hy hx).mp h) p L e s m args below meth c D ct ad A H locs ls X hH hl ho hs) (fun h => kf (Int.not_le.mp (fun g => h ((ev_le hy hx).mpr g))) p L e s m args below meth c D ct ad A H locs ls X hH hl ho hs)
theorem Ev_icmp_gt {x y : Int} {off : Int} {tgt : Nat} (hd : decode M.2.1 pc = .ok (.if_icmp .gt off, 3)) (ht : (pc : Int) + off = (tgt : Int)) (kt : y < x → Ev Y M d tgt l st σ Q) (kf : x ≤ y → Ev Y M d (pc + 3) l st σ Q) : Ev Y M d pc l (ev_i y :: ev_i x :: st) σ Q := by
  intro p L e s m args below meth c D ct ad A H locs ls X hH hl ho hs
  have hy : ev_R y := ev_oks_head hs
  have hx : ev_R x := ev_oks_head (ev_oks_tail hs)
  have hs := ev_oks_tail (ev_oks_tail hs)
  exact lv_icmp_gt X.1 X.2.1 hd ht (fun h => kt ((ev_lt hy hx).mp h) p L e s m args below meth c D ct ad A H locs ls X hH hl ho hs) (fun h => kf (Int.not_lt.mp (fun g => h ((ev_lt hy hx).mpr g))) p L e s m args below meth c D ct ad A H locs ls X hH hl ho hs)
theorem Ev_if_gt {x : Int} {off : Int} {tgt : Nat} (hd : decode M.2.1 pc = .ok (.ifCond .gt off, 3)) (ht : (pc : Int) + off = (tgt : Int)) (kt : 0 < x → Ev Y M d tgt l st σ Q) (kf : x ≤ 0 → Ev Y M d (pc + 3) l st σ Q) : Ev Y M d pc l (ev_i x :: st) σ Q := by
  intro p L e s m args below meth c D ct ad A H locs ls X hH hl ho hs
  have hx : ev_R x := ev_oks_head hs
  have hy : ev_R 0 := ev_R0
  have hs := ev_oks_tail hs
  exact lv_if_gt X.1 X.2.1 hd ht (fun h => kt ((ev_lt hy hx).mp h) p L e s m args below meth c D ct ad A H locs ls X hH hl ho hs) (fun h => kf (Int.not_lt.mp (fun g => h ((ev_lt hy hx).mpr g))) p L e s m args below meth c D ct ad A H locs ls X hH hl ho hs)
theorem Ev_icmp_le {x y : Int} {off : Int} {tgt : Nat} (hd : decode M.2.1 pc = .ok (.if_icmp .le off, 3)) (ht : (pc : Int) + off = (tgt : Int)) (kt : x ≤ y → Ev Y M d tgt l st σ Q) (kf : y < x → Ev Y M d (pc + 3) l st σ Q) : Ev Y M d pc l (ev_i y :: ev_i x :: st) σ Q := by
  intro p L e s m args below meth c D ct ad A H locs ls X hH hl ho hs
  have hy : ev_R y := ev_oks_head hs
  have hx : ev_R x := ev_oks_head (ev_oks_tail hs)
  have hs := ev_oks_tail (ev_oks_tail hs)
  exact lv_icmp_le X.1 X.2.1 hd ht (fun h => kt ((ev_le hx hy).mp h) p L e s m args below meth c D ct ad A H locs ls X hH hl ho hs) (fun h => kf (Int.not_le.mp (fun g => h ((ev_le hx hy).mpr g))) p L e s m args below meth c D ct ad A H locs ls X hH hl ho hs)
theorem Ev_if_le {x : Int} {off : Int} {tgt : Nat} (hd : decode M.2.1 pc = .ok (.ifCond .le off, 3)) (ht : (pc : Int) + off = (tgt : Int)) (kt : x ≤ 0 → Ev Y M d tgt l st σ Q) (kf : 0 < x → Ev Y M d (pc + 3) l st σ Q) : Ev Y M d pc l (ev_i x :: st) σ Q := by
  intro p L e s m args below meth c D ct ad A H locs ls X hH hl ho hs
  have hx : ev_R x := ev_oks_head hs
  have hy : ev_R 0 := ev_R0
  have hs := ev_oks_tail hs
  exact lv_if_le X.1 X.2.1 hd ht (fun h => kt ((ev_le hx hy).mp h) p L e s m args below meth c D ct ad A H locs ls X hH hl ho hs) (fun h => kf (Int.not_le.mp (fun g => h ((ev_le hx hy).mpr g))) p L e s m args below meth c D ct ad A H locs ls X hH hl ho hs)
theorem Ev_ifnull {x : Nat} {off : Int} (hd : decode M.2.1 pc = .ok (.ifnull off, 3)) (k : Ev Y M d (pc + 3) l st σ Q) : Ev Y M d pc l (ev_r x :: st) σ Q := by
  intro p L e s m args below meth c D ct ad A H locs ls X hH hl ho hs
  exact lv_ifnull X.1 X.2.1 hd (k p L e s m args below meth c D ct ad A H locs ls X hH hl ho (ev_oks_tail hs))
theorem Ev_ifnonnull {x : Nat} {off : Int} {tgt : Nat} (hd : decode M.2.1 pc = .ok (.ifnonnull off, 3)) (ht : (pc : Int) + off = (tgt : Int)) (k : Ev Y M d tgt l st σ Q) : Ev Y M d pc l (ev_r x :: st) σ Q := by
  intro p L e s m args below meth c D ct ad A H locs ls X hH hl ho hs
  exact lv_ifnonnull X.1 X.2.1 hd ht (k p L e s m args below meth c D ct ad A H locs ls X hH hl ho (ev_oks_tail hs))
theorem Ev_ifnullN {off : Int} {tgt : Nat} (hd : decode M.2.1 pc = .ok (.ifnull off, 3)) (ht : (pc : Int) + off = (tgt : Int)) (k : Ev Y M d tgt l st σ Q) : Ev Y M d pc l (ev_n :: st) σ Q := by
  intro p L e s m args below meth c D ct ad A H locs ls X hH hl ho hs
  exact lv_ifnullN X.1 X.2.1 hd ht (k p L e s m args below meth c D ct ad A H locs ls X hH hl ho (ev_oks_tail hs))
theorem Ev_ifnonnullN {off : Int} (hd : decode M.2.1 pc = .ok (.ifnonnull off, 3)) (k : Ev Y M d (pc + 3) l st σ Q) : Ev Y M d pc l (ev_n :: st) σ Q := by
  intro p L e s m args below meth c D ct ad A H locs ls X hH hl ho hs
  exact lv_ifnonnullN X.1 X.2.1 hd (k p L e s m args below meth c D ct ad A H locs ls X hH hl ho (ev_oks_tail hs))
theorem Ev_tabOut {dflt lo hi : Int} {offs : Array Int} {len : Nat} {x : Int} {tgt : Nat} (hd : decode M.2.1 pc = .ok (.tableswitch dflt lo hi offs, len)) (h : x < lo ∨ hi < x) (ht : (pc : Int) + dflt = (tgt : Int)) (k : Ev Y M d tgt l st σ Q) : Ev Y M d pc l (ev_i x :: st) σ Q := by
  intro p L e s m args below meth c D ct ad A H locs ls X hH hl ho hs
  have hx := ev_to (ev_oks_head hs)
  exact lv_tableOut X.1 X.2.1 hd (by rw [hx]; exact h) ht (k p L e s m args below meth c D ct ad A H locs ls X hH hl ho (ev_oks_tail hs))
theorem Ev_tabIn {dflt lo hi : Int} {offs : Array Int} {len : Nat} {x off : Int} {tgt : Nat} (hd : decode M.2.1 pc = .ok (.tableswitch dflt lo hi offs, len)) (h1 : ¬ x < lo) (h2 : ¬ hi < x) (h3 : offs[(x - lo).toNat]? = some off) (ht : (pc : Int) + off = (tgt : Int)) (k : Ev Y M d tgt l st σ Q) : Ev Y M d pc l (ev_i x :: st) σ Q := by
  intro p L e s m args below meth c D ct ad A H locs ls X hH hl ho hs
  have hx := ev_to (ev_oks_head hs)
  exact lv_tableIn X.1 X.2.1 hd (by rw [hx]; exact h1) (by rw [hx]; exact h2) (by rw [hx]; exact h3) ht (k p L e s m args below meth c D ct ad A H locs ls X hH hl ho (ev_oks_tail hs))
end EvRows
