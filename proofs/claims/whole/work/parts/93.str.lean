section
/-! String members over the class's two constants (rows owed: machine level) -/
theorem Ev_slen {Y : List ev_C} {M : ev_M} {d pc : Nat} {l : List (Nat × ev_V)} {st : List ev_V} {σ : ev_S} {Q : Option ev_V → ev_S → Prop} (hM : M.1 = "AngelTown$Tape") (hd : decode M.2.1 pc = .ok (.ldc 51, 2)) (hd2 : decode M.2.1 (pc + 2) = .ok (.invokevirtual 53, 3)) (h8 : ev_st8 st) (k : Ev Y M (d + 6) (pc + 5) l (ev_i 176 :: st) σ Q) : Ev Y M (d + 6) pc l st σ Q := by
  sorry
theorem Ev_schar {Y : List ev_C} {M : ev_M} {d pc : Nat} {l : List (Nat × ev_V)} {st : List ev_V} {σ : ev_S} {Q : Option ev_V → ev_S → Prop} {x : Int} {i : Nat} (j : Nat) (hM : M.1 = "AngelTown$Tape") (hd : decode M.2.1 pc = .ok (.ldc 51, 2)) (hd2 : decode M.2.1 (pc + 2) = .ok (.iload i, 2)) (hj : l[j]? = some (i, ev_i x)) (hd3 : decode M.2.1 (pc + 4) = .ok (.invokevirtual 56, 3)) (hx : 0 ≤ x ∧ x < 176) (h8 : ev_st8 st) (k : Ev Y M (d + 6) (pc + 7) l (ev_i (ev_ch x) :: st) σ Q) : Ev Y M (d + 6) pc l st σ Q := by
  sorry
theorem Ev_sidx {d : Nat} {l : List (Nat × ev_V)} {s : ev_S} {Q : Option ev_V → ev_S → Prop} {x : Int} (j0 j2 : Nat) (hj0 : l[j0]? = some (0, ev_r 132)) (hj2 : l[j2]? = some (2, ev_i x)) (hx : 0 ≤ x ∧ x < (400 : Nat)) (hv : 0 < s 133 (Int.toNat x) ∧ s 133 (Int.toNat x) < 128) (k : ∀ r, (0 ≤ r ↔ cSi (s 133 (Int.toNat x)) = true) → Ev layX M_X9_note (d + 8) 100 l [ev_i r] s Q) : Ev layX M_X9_note (d + 8) 88 l [] s Q := by
  sorry
end
