section
/-! seconds, undo -/
def PM (s : ev_S) (N A NO MI U k : Nat) (s' : ev_S) : Prop := (s' 1, s' 9) = m_go s N A NO MI (s 1, s 9) k ∧ s' 0 3 = ((vk U k : Nat) : Int) ∧ (∀ j, j < vk U k → ∀ i, i < 87 → s' 2 (87 * j + i) = m_hist s N A NO MI U (U + k - vk U k + j) i) ∧ (∀ i, i ≠ 0 → i ≠ 3 → s' 0 i = s 0 i) ∧ (∀ c, c ≠ 0 → c ≠ 1 → c ≠ 2 → c ≠ 9 → c ≠ 28 → c ≠ 29 → s' c = s c)
theorem PM_tl {s s' : ev_S} {N A NO MI U k : Nat} (h : PM s N A NO MI U k s') : tl s s' := tl_of (fun i hi => h.2.2.2.1 i (by omega) (by omega)) (fun c hc => h.2.2.2.2 c (by omega) (by omega) (by omega) (by omega) (by omega) (by omega))
theorem sp_mseconds {d N A NO MI U n : Nat} {s : ev_S} {Q : Option ev_V → ev_S → Prop} (hT : m_tok s N A NO MI) (hr : m_rok s N A (s 1, s 9)) (h5 : s 0 5 = 0) (hU : U ≤ 6) (h3 : s 0 3 = (U : Int)) (hn : (n : Int) ≤ 600 - s 1 0) (hn60 : n ≤ 60) (h : ∀ s', PM s N A NO MI U n s' → Q (some (ev_i ((m_gs s N A NO MI (s 1, s 9) n : Nat) : Int))) s') : Ev layM M_X12_seconds (d + 7) 36 [(0, ev_r 0), (1, ev_i (n : Int)), (2, ev_i 0), (3, ev_i 0)] [] (ev_up s 0 0 0) Q := by
  have hM10 := hT.2.2.2.2.1.2
  have key : ∀ m k : Nat, k + m = n → ∀ s1, PM s N A NO MI U k s1 → Ev layM M_X12_seconds (d + 7) 36 [(0, ev_r 0), (1, ev_i (n : Int)), (2, ev_i ((m_gs s N A NO MI (s 1, s 9) k : Nat) : Int)), (3, ev_i (k : Int))] [] s1 Q := by
    intro m
    induction m with
    | zero =>
      intro k hk s1 hp
      have : k = n := by omega
      subst this
      exact wp_X12_seconds_36 ⟨fun _ => h s1 hp, fun q => absurd q (by omega)⟩
    | succ m ih =>
      intro k hk s1 hp
      have ht1 := PM_tl hp
      obtain ⟨p1, p2, p3, p4, p5⟩ := id hp
      have hv := vk_c U k
      have hv1 := vk_c (vk U k) 1
      have hv2 := vk_c U (k + 1)
      refine wp_X12_seconds_36 ⟨fun q => absurd q (by omega), fun _ => sp_keepsAhead p2 (by omega) (fun s2 y1 y2 y3 y4 => ?_)⟩
      have ht2 : tl s s2 := tl_tr ht1 (tl_of (fun i hi => y3 i (by omega)) (fun c hc => y4 c (by omega) (by omega)))
      have e2 : (s2 1, s2 9) = m_go s N A NO MI (s 1, s 9) k := by rw [y4 1 (by omega) (by omega), y4 9 (by omega) (by omega)]; exact p1
      have ok := m_go_ok (NO := NO) (MI := MI) hT hr k (by simp only; omega)
      have e25 : decide (s2 0 5 ≠ 0) = false := by rw [y3 5 (by omega), p4 5 (by omega) (by omega), h5]; rfl
      have e20 : s2 1 0 = s 1 0 + (k : Int) := by have := ok.2; rw [← e2] at this; exact this
      refine sp_goesBy (N := N) (A := A) (NO := NO) (MI := MI) (by rw [tl_tok ht2]; exact hT) (by rw [tl_rok ht2, e2]; exact ok.1) (by rw [e20]; omega) (fun s3 x1 x2 => ev_pi_mk ?_)
      rw [tl_sec ht2, e2, e25] at x1
      rw [tl_sec ht2, e2, e25]
      have hle : (m_sec s N A NO MI false (m_go s N A NO MI (s 1, s 9) k)).2 ≤ MI := m_mis_le MI
      have hgs := m_gs_le (T := s) (N := N) (A := A) (NO := NO) (z := (s 1, s 9)) hM10 k
      rw [ev_add_eq ⟨by omega, by omega⟩, ev_add_eq (x := (k : Int)) (y := 1) ⟨by omega, by omega⟩]
      refine ih (k + 1) (by omega) s3 ⟨x1, ?_, fun j hj i hi => ?_, fun i i0 i3 => ?_, fun c c0 c1 c2 c9 c28 c29 => ?_⟩
      · rw [x2 0 (by omega) (by omega) (by omega) (by omega), y1]
        congr 1
        omega
      · rw [x2 2 (by omega) (by omega) (by omega) (by omega), y2 j (by omega) i hi]
        by_cases c : vk U k + 1 - vk (vk U k) 1 + j < vk U k
        · rw [if_pos c, p3 _ c i hi]
          congr 1
          omega
        · rw [if_neg c]
          have e : U + (k + 1) - vk U (k + 1) + j = U + k := by omega
          rw [e]
          unfold m_hist
          rw [if_neg (by omega), show U + k - U = k by omega, ← p1]
      · rw [x2 0 (by omega) (by omega) (by omega) (by omega), y3 i i3]; exact p4 i i0 i3
      · rw [x2 c c1 c9 c28 c29, y4 c c0 c2]; exact p5 c c0 c1 c2 c9 c28 c29
  have hv0 := vk_c U 0
  refine key n 0 (by omega) _ ⟨?_, ?_, fun j hj i hi => ?_, fun i i0 i3 => ev_up_ne _ _ (by omega), fun c c0 _ _ _ _ _ => ev_upj _ _ c0⟩
  · rw [ev_upj _ _ (by omega), ev_upj _ _ (by omega)]; rfl
  · rw [ev_up_ne _ _ (by omega), h3]
    congr 1
    omega
  · rw [ev_upj _ _ (by omega), show U + 0 - vk U 0 + j = j by omega]
    unfold m_hist
    rw [if_pos (by omega)]
    rfl
def PX (σ s : ev_S) (N A NO MI U nx k : Nat) (σ' : ev_S) : Prop := XC σ' 15 (m_go s N A NO MI (s 1, s 9) k).1 ∧ XB σ' 28 (m_go s N A NO MI (s 1, s 9) k).2 ((m_go s N A NO MI (s 1, s 9) k).1 2).toNat ∧ σ' 29 2 = ((vk U k : Nat) : Int) ∧ σ' 29 1 = (((nx + k) % 6 : Nat) : Int) ∧ (∀ e, e < U + k → U + k ≤ e + vk U k → XC σ' (31 + 12 * ((nx + 6 - U + e) % 6)) (m_hist s N A NO MI U e)) ∧ (∀ c, (c < 14 ∨ c = 27 ∨ c = 30 ∨ (102 < c ∧ c ≠ 145)) → σ' c = σ c)
theorem sp_xseconds {d N A NO MI U nx n : Nat} {σ s : ev_S} {Q : Option ev_V → ev_S → Prop} (hT : m_tok s N A NO MI) (hr : m_rok s N A (s 1, s 9)) (hXT : XT σ 1 s) (hU : U ≤ 6) (hnx : nx < 6) (hn : (n : Int) ≤ 600 - s 1 0) (hn60 : n ≤ 60) (h0 : PX σ s N A NO MI U nx 0 σ) (h : ∀ σ', PX σ s N A NO MI U nx n σ' → Q (some (ev_i ((m_gs s N A NO MI (s 1, s 9) n : Nat) : Int))) (ev_up (ev_up σ' 146 7 0) 162 19 0)) : Ev layX M_X11_seconds (d + 7) 32 [(0, ev_r 0), (1, ev_i (n : Int)), (2, ev_i 0), (3, ev_i 0)] [] σ Q := by
  have hM10 := hT.2.2.2.2.1.2
  have key : ∀ m k : Nat, k + m = n → ∀ s1, PX σ s N A NO MI U nx k s1 → Ev layX M_X11_seconds (d + 7) 32 [(0, ev_r 0), (1, ev_i (n : Int)), (2, ev_i ((m_gs s N A NO MI (s 1, s 9) k : Nat) : Int)), (3, ev_i (k : Int))] [] s1 Q := by
    intro m
    induction m with
    | zero =>
      intro k hk s1 hp
      have : k = n := by omega
      subst this
      refine wp_X11_seconds_32 ⟨fun _ => wp_X11_isChanged_0 ?_, fun q => absurd q (by omega)⟩
      rintro _ rfl _ rfl
      exact h s1 hp
    | succ m ih =>
      intro k hk s1 hp
      obtain ⟨p1, p2, p3, p4, p5, p6⟩ := id hp
      have hv := vk_c U k
      have hv1 := vk_c (vk U k) 1
      have hv2 := vk_c U (k + 1)
      have ok := m_go_ok (NO := NO) (MI := MI) hT hr k (by simp only; omega)
      refine wp_X11_seconds_32 ⟨fun q => absurd q (by omega), fun _ => sp_keep p4 (Nat.mod_lt _ (by omega)) p3 (by omega) p1 (fun s2 y1 y2 y3 y4 => ?_)⟩
      have hXT2 : XT s2 1 s := XT_keep hXT (fun c c1 c2 => by rw [y4 c (by omega) (by omega)]; exact p6 c (by omega))
      refine sp_goBy (d := d + 1) (th := false) (r := (m_go s N A NO MI (s 1, s 9) k).1) (B := (m_go s N A NO MI (s 1, s 9) k).2) is_X2_15 (Or.inl rfl) hT ok.1 (by rw [ok.2]; simp only; omega) rfl hXT2 (XC_keep p1 (fun c c1 c2 => y4 c (by omega) (by omega))) (fun i hi => by rw [y4 28 (by omega) (by omega)]; exact p2 i hi) (fun s3 x1 x2 x3 => ev_pi_mk ?_)
      have hle : (m_sec s N A NO MI false (m_go s N A NO MI (s 1, s 9) k)).2 ≤ MI := m_mis_le MI
      have hgs := m_gs_le (T := s) (N := N) (A := A) (NO := NO) (z := (s 1, s 9)) hM10 k
      have hle2 : (m_sec s N A NO MI false ((m_go s N A NO MI (s 1, s 9) k).1, (m_go s N A NO MI (s 1, s 9) k).2)).2 ≤ MI := m_mis_le MI
      rw [ev_add_eq ⟨by omega, by omega⟩, ev_add_eq (x := (k : Int)) (y := 1) ⟨by omega, by omega⟩]
      have f29 : s3 29 = s2 29 := x3 29 (by omega) (by omega) (by omega) (by omega)
      refine ih (k + 1) (by omega) s3 ⟨x1, x2, ?_, ?_, fun e he1 he2 => ?_, fun c hc => ?_⟩
      · rw [f29, y3]
        congr 1
        omega
      · rw [f29, y2]
        congr 1
        omega
      · by_cases c : e = U + k
        · subst c
          have e1 : (nx + 6 - U + (U + k)) % 6 = (nx + k) % 6 := by omega
          have e2 : m_hist s N A NO MI U (U + k) = (m_go s N A NO MI (s 1, s 9) k).1 := by
            unfold m_hist
            rw [if_neg (by omega), show U + k - U = k by omega]
          rw [e1, e2]
          have hm : (nx + k) % 6 < 6 := Nat.mod_lt _ (by omega)
          exact XC_keep y1 (fun c c1 c2 => x3 c (by omega) (by omega) (by omega) (by omega))
        · have hm : (nx + k) % 6 < 6 := Nat.mod_lt _ (by omega)
          have hm2 : (nx + 6 - U + e) % 6 < 6 := Nat.mod_lt _ (by omega)
          have hne : (nx + 6 - U + e) % 6 ≠ (nx + k) % 6 := by omega
          exact XC_keep (p5 e (by omega) (by omega)) (fun c c1 c2 => by rw [x3 c (by omega) (by omega) (by omega) (by omega)]; exact y4 c (by omega) (by omega))
      · have hm : (nx + k) % 6 < 6 := Nat.mod_lt _ (by omega)
        rw [x3 c (by omega) (by omega) (by omega) (by omega), y4 c (by omega) (by omega)]; exact p6 c hc
  exact key n 0 (by omega) σ h0
theorem sim_seconds (a : Int) : Sim M_X11_seconds M_X12_seconds [(1, ev_i a)] := by
  intro σ s hσ hs hR
  have hR0 := hR
  obtain ⟨N, A, NO, MI, hM, hX, hP, hF, hI, hT⟩ := hR
  obtain ⟨hT0, hr, hz, h5⟩ := hM
  obtain ⟨U, nx, ⟨u1, u2, u3, u4, u5⟩, u6, u7⟩ := hP
  have hr0 := hr.1
  simp only at hr0
  have e15 : σ 15 0 = s 1 0 := hX.2.1.1.1
  by_cases cc : (1 ≤ a ∧ a ≤ 60) ∧ s 1 0 + a ≤ 600
  · obtain ⟨n, rfl⟩ := Int.eq_ofNat_of_zero_le (show 0 ≤ a by omega)
    refine ⟨ev_i ((m_gs s N A NO MI (s 1, s 9) n : Nat) : Int), fun σ' => ∃ σ1, PX σ s N A NO MI U nx n σ1 ∧ σ' = ev_up (ev_up σ1 146 7 0) 162 19 0, PM s N A NO MI U n, ?_, ?_, ?_⟩
    · refine wp_X11_seconds_0 ?_
      rw [e15, ev_add_eq ⟨by omega, by omega⟩]
      refine ⟨fun q => absurd q (by omega), fun _ => ⟨fun q => absurd q (by omega), fun _ => ⟨fun _ => ?_, fun q => absurd q (by omega)⟩⟩⟩
      have hv0 := vk_c U 0
      refine sp_xseconds (d := 53) hT0 hr hX.1 u1 u2 (by omega) (by omega) ⟨hX.2.1, hX.2.2, ?_, ?_, fun e he1 he2 => ?_, fun _ _ => rfl⟩ (fun σ1 hp => ⟨rfl, σ1, hp, rfl⟩)
      · rw [u4]; congr 1; omega
      · rw [u5]; congr 1; omega
      · have e2 : m_hist s N A NO MI U e = rw_ s e := by
          unfold m_hist
          rw [if_pos (by omega)]
        rw [e2]; exact (u6 e (by omega)).1
    · refine wp_X12_seconds_0 ?_
      rintro _ rfl
      refine sp_isIn (ev_pi_mk ?_)
      rw [if_pos cc.1, ev_upj _ _ (show (1 : Nat) ≠ 0 by omega), ev_add_eq ⟨by omega, by omega⟩]
      refine ⟨fun q => absurd q (by omega), fun _ => ⟨fun _ => ?_, fun q => absurd q (by omega)⟩⟩
      exact sp_mseconds (d := 53) hT0 hr h5 u1 u3 (by omega) (by omega) (fun s' hp => ⟨rfl, hp⟩)
    · rintro _ s' ⟨σ1, hx, rfl⟩ hm
      have htl := PM_tl hm
      obtain ⟨p1, p2, p3, p4, p5⟩ := hm
      obtain ⟨x1, x2, x3, x4, x5, x6⟩ := hx
      obtain ⟨ho1, ho2⟩ := m_hist_ok (n := n) hT0 hr hz (by omega) u6 u7
      have ok := (m_go_ok (NO := NO) (MI := MI) hT0 hr n (by simp only; omega)).1
      have hzn := m_go_zer (T := s) (NO := NO) (MI := MI) (z := (s 1, s 9)) hT0.2.2.1.2 hT0.2.1.2 hz n
      have e1 : s' 1 = (m_go s N A NO MI (s 1, s 9) n).1 := by rw [← p1]
      have e9 : s' 9 = (m_go s N A NO MI (s 1, s 9) n).2 := by rw [← p1]
      have fc : ∀ c, c ≠ 146 → c ≠ 162 → ev_up (ev_up σ1 146 7 0) 162 19 0 c = σ1 c := fun c a b => by rw [ev_upj _ _ b, ev_upj _ _ a]
      have hv := vk_c U n
      refine ⟨N, A, NO, MI, ⟨by rw [tl_tok htl]; exact hT0, by rw [tl_rok htl, p1]; exact ok, by rw [e1]; exact hzn, by rw [p4 5 (by omega) (by omega)]; exact h5⟩, ⟨tl_XT htl (XT_keep hX.1 (fun c c1 c2 => by rw [fc c (by omega) (by omega)]; exact x6 c (by omega))), by rw [e1]; exact XC_keep x1 (fun c c1 c2 => fc c (by omega) (by omega)), fun i hi => ?_⟩, ⟨vk U n, (nx + n) % 6, ⟨by omega, Nat.mod_lt _ (by omega), p2, by rw [fc 29 (by omega) (by omega)]; exact x3, by rw [fc 29 (by omega) (by omega)]; exact x4⟩, fun j hj => ?_, fun i j hi hj => ?_⟩, ⟨Or.inl (by rw [ev_upj _ _ (by omega), ev_up_same]), Or.inl (by rw [ev_up_same])⟩, RI_keep hI (p4 61 (by omega) (by omega)) (p5 36 (by omega) (by omega) (by omega) (by omega) (by omega) (by omega)) (by rw [fc 103 (by omega) (by omega), x6 103 (by omega)]) (fun c c1 c2 _ => by rw [fc c (by omega) (by omega)]; exact x6 c (by omega)), RT_keep hT (fun i hi => p4 i (by omega) (by omega)) (p5 10 (by omega) (by omega) (by omega) (by omega) (by omega) (by omega)) (p5 11 (by omega) (by omega) (by omega) (by omega) (by omega) (by omega)) (by rw [fc 132 (by omega) (by omega), x6 132 (by omega)]) (by rw [fc 133 (by omega) (by omega), x6 133 (by omega)]) (by rw [fc 137 (by omega) (by omega), x6 137 (by omega)]) (by rw [fc 137 (by omega) (by omega), x6 137 (by omega)]) (by rw [fc 3 (by omega) (by omega), x6 3 (by omega)]) (by rw [fc 106 (by omega) (by omega), x6 106 (by omega)]) (by rw [fc 141 (by omega) (by omega), x6 141 (by omega)])⟩
      · rw [e1] at hi
        rw [fc 28 (by omega) (by omega), e9]; exact x2 i hi
      · obtain ⟨k1, k2, k3⟩ := ho1 (U + n - vk U n + j) (by omega)
        have er : ∀ i, i < 87 → rw_ s' j i = m_hist s N A NO MI U (U + n - vk U n + j) i := fun i hi => p3 j hj i hi
        have hx5 := x5 (U + n - vk U n + j) (by omega) (by omega)
        have es : ((nx + n) % 6 + 6 - vk U n + j) % 6 = (nx + 6 - U + (U + n - vk U n + j)) % 6 := by omega
        have hm2 : (nx + 6 - U + (U + n - vk U n + j)) % 6 < 6 := Nat.mod_lt _ (by omega)
        refine ⟨?_, ?_, ?_, ?_⟩
        · rw [es]
          exact XC_row (XC_keep hx5 (fun c c1 c2 => fc c (by omega) (by omega))) er
        · rw [tl_rok htl, e9]
          exact m_rok_r hT0.2.1.2 hT0.2.2.1.2 k1 (fun i _ hi => er i (by omega))
        · exact m_zer_r k2 (fun i _ hi => er i (by omega))
        · rw [er 2 (by omega), e1]; exact k3
      · have er : ∀ j, j < vk U n → rw_ s' j 2 = m_hist s N A NO MI U (U + n - vk U n + j) 2 := fun j hj => p3 j hj 2 (by omega)
        rw [er i (by omega), er j hj]
        exact ho2 _ _ (by omega) (by omega)
  · refine ⟨ev_i (-1), fun σ' => σ' = σ, fun s' => s' = ev_up s 0 0 0, ?_, ?_, fun σ' s' e1 e2 => by rw [e1, e2]; exact XR_no hR0⟩
    · refine wp_X11_seconds_0 ?_
      rw [e15]
      refine ⟨fun _ => ⟨rfl, rfl⟩, fun q1 => ⟨fun _ => ⟨rfl, rfl⟩, fun q2 => ?_⟩⟩
      rw [ev_add_eq ⟨by omega, by omega⟩]
      exact ⟨fun q => absurd (And.intro (And.intro q1 q2) q) cc, fun _ => ⟨rfl, rfl⟩⟩
    · refine wp_X12_seconds_0 ?_
      rintro _ rfl
      refine sp_isIn (ev_pi_mk ?_)
      by_cases c1 : 1 ≤ a ∧ a ≤ 60
      · rw [if_pos c1, ev_upj _ _ (show (1 : Nat) ≠ 0 by omega), ev_add_eq ⟨by omega, by omega⟩]
        exact ⟨fun q => absurd q (by omega), fun _ => ⟨fun q => absurd (And.intro c1 q) cc, fun _ => ⟨rfl, rfl⟩⟩⟩
      · rw [if_neg c1]
        exact ⟨fun _ => ⟨rfl, rfl⟩, fun q => absurd rfl q⟩
/-! undo -/
def ku (s : ev_S) (u a : Nat) : Nat → Int := fun i => if i < a then s 2 (87 * u + i) else s 1 i
theorem sp_ku {d u : Nat} {s : ev_S} {Q : Option ev_V → ev_S → Prop} (hu : u ≤ 5) (h3 : s 0 3 = (u : Int)) (h : Q (some (ev_i 1)) (ev_set s 1 (ku s u 87))) : Ev layM M_X12_undo d 26 [(0, ev_r 0), (1, ev_i 0)] [] s Q := by
  have key : ∀ n a : Nat, a + n = 87 → Ev layM M_X12_undo d 26 [(0, ev_r 0), (1, ev_i (a : Int))] [] (ev_set s 1 (ku s u a)) Q := by
    intro n
    induction n with
    | zero =>
      intro a ha
      have : a = 87 := by omega
      subst this
      exact wp_X12_undo_26 ⟨fun _ => h, fun q => absurd q (by omega)⟩
    | succ n ih =>
      intro a ha
      have i2 := ih (a + 1) (by omega)
      refine wp_X12_undo_26 ⟨fun q => absurd q (by omega), fun _ => ?_⟩
      rw [ev_set_ne _ _ (show (0 : Nat) ≠ 1 by omega), ev_set_ne _ _ (show (2 : Nat) ≠ 1 by omega), h3, ev_mul_eq (x := 87) (y := (u : Int)) ⟨by omega, by omega⟩, ev_add_eq (x := 87 * (u : Int)) (y := (a : Int)) ⟨by omega, by omega⟩, ev_add_eq (x := (a : Int)) (y := 1) ⟨by omega, by omega⟩, Int.toNat_natCast, show Int.toNat (87 * (u : Int) + (a : Int)) = 87 * u + a by omega]
      refine ⟨by omega, by omega, ?_⟩
      rintro _ rfl
      rw [ev_up_set, ev_set_same, ev_set_set]
      have e : rup (ku s u a) a (s 2 (87 * u + a)) = ku s u (a + 1) := by
        funext i
        unfold rup ku
        by_cases c : i = a
        · subst c
          rw [if_pos rfl, if_pos (by omega)]
        · rw [if_neg c]
          by_cases c2 : i < a
          · rw [if_pos c2, if_pos (by omega)]
          · rw [if_neg c2, if_neg (by omega)]
      rw [e]
      exact i2
  have k0 := key 87 0 (by omega)
  have e0 : ku s u 0 = s 1 := by
    funext i
    unfold ku
    rw [if_neg (by omega)]
  rw [e0, ev_set_self] at k0
  exact k0
theorem sp_goBack {d nx U : Nat} {s : ev_S} {r : Nat → Int} {Q : Option ev_V → ev_S → Prop} (h1 : s 29 1 = (nx : Int)) (hn : nx < 6) (h2 : s 29 2 = (U : Int)) (hU : U ≤ 6) (hU0 : 0 < U) (hC : XC s (31 + 12 * ((nx + 5) % 6)) r) (h : ∀ s', XC s' 15 r → s' 29 1 = (((nx + 5) % 6 : Nat) : Int) → s' 29 2 = ((U - 1 : Nat) : Int) → (∀ c, c ≠ 29 → (c < 15 ∨ 26 < c) → s' c = s c) → Q (some (ev_i 1)) s') : Ev layX M_X5_goBack (d + 2) 0 [(0, ev_r 29), (1, ev_r 15)] [] s Q := by
  refine wp_X5_goBack_0 is_X2_15 ?_
  rw [h1, h2]
  have go : ∀ s2 : ev_S, s2 29 1 = (((nx + 5) % 6 : Nat) : Int) → s2 29 2 = ((U - 1 : Nat) : Int) → (∀ c, c ≠ 29 → s2 c = s c) → ∀ k, is_X2 k → k = 31 + 12 * Int.toNat (s2 29 1) → Ev layX M_X2_copyFrom (d + 1) 0 [(0, ev_r 15), (1, ev_r k)] [] s2 (fun _ s4 => Q (some (ev_i 1)) s4) := by
    intro s2 y1 y2 y3 k hk ek
    rw [y1, Int.toNat_natCast] at ek
    subst ek
    have hm : (nx + 5) % 6 < 6 := Nat.mod_lt _ (by omega)
    refine sp_copyFrom is_X2_15 hk (by omega) (XC_keep hC (fun c c1 c2 => y3 c (by omega))) (fun s1 z1 z2 => h _ z1 ?_ ?_ (fun c c1 c2 => by rw [z2 c (by omega)]; exact y3 c c1))
    · rw [z2 29 (by omega)]; exact y1
    · rw [z2 29 (by omega)]; exact y2
  refine ⟨fun _ => ⟨fun q => ?_, fun q => ?_⟩, fun q => absurd q (by omega)⟩
  · rw [ev_sub_eq (x := (nx : Int)) (y := 1) ⟨by omega, by omega⟩]
    rintro _ rfl
    rw [ev_up_ne _ _ (by omega), h2, ev_sub_eq (x := (U : Int)) (y := 1) ⟨by omega, by omega⟩]
    intro s2 es2
    have y1 : s2 29 1 = (((nx + 5) % 6 : Nat) : Int) := by rw [← es2, ev_up_ne _ _ (by omega), ev_up_same]; omega
    have y2 : s2 29 2 = ((U - 1 : Nat) : Int) := by rw [← es2, ev_up_same]; omega
    have y3 : ∀ c, c ≠ 29 → s2 c = s c := fun c hc => by rw [← es2, ev_upj _ _ hc, ev_upj _ _ hc]
    refine ⟨fun q => absurd q (by rw [y1]; omega), fun _ => ⟨fun q => absurd q (by rw [y1]; omega), fun _ => ⟨by rw [y1]; omega, fun k hk ek => go s2 y1 y2 y3 k hk ek⟩⟩⟩
  · rintro _ rfl
    rw [ev_up_ne _ _ (by omega), h2, ev_sub_eq (x := (U : Int)) (y := 1) ⟨by omega, by omega⟩]
    intro s2 es2
    have y1 : s2 29 1 = (((nx + 5) % 6 : Nat) : Int) := by rw [← es2, ev_up_ne _ _ (by omega), ev_up_same]; omega
    have y2 : s2 29 2 = ((U - 1 : Nat) : Int) := by rw [← es2, ev_up_same]; omega
    have y3 : ∀ c, c ≠ 29 → s2 c = s c := fun c hc => by rw [← es2, ev_upj _ _ hc, ev_upj _ _ hc]
    refine ⟨fun q => absurd q (by rw [y1]; omega), fun _ => ⟨fun q => absurd q (by rw [y1]; omega), fun _ => ⟨by rw [y1]; omega, fun k hk ek => go s2 y1 y2 y3 k hk ek⟩⟩⟩
theorem sim_undo : Sim M_X11_undo M_X12_undo [] := by
  intro σ s hσ hs hR
  have hR0 := hR
  obtain ⟨N, A, NO, MI, hM, hX, hP, hF, hI, hT⟩ := hR
  obtain ⟨hT0, hr, hz, h5⟩ := hM
  obtain ⟨U, nx, ⟨u1, u2, u3, u4, u5⟩, u6, u7⟩ := hP
  have e3 : ev_up s 0 0 0 0 3 = (U : Int) := by rw [ev_up_ne _ _ (by omega)]; exact u3
  by_cases cU : U = 0
  · subst cU
    refine ⟨ev_i 0, fun σ' => σ' = σ, fun s' => s' = ev_up s 0 0 0, ?_, ?_, fun σ' s' e1 e2 => by rw [e1, e2]; exact XR_no hR0⟩
    · refine wp_X11_undo_0 (wp_X5_goBack_0 is_X2_15 ?_)
      rw [u4]
      refine ⟨fun q => absurd q (by omega), fun _ => ev_pi_mk ?_⟩
      exact ⟨fun q => absurd rfl q, fun _ => ⟨rfl, rfl⟩⟩
    · refine wp_X12_undo_0 ?_
      rintro _ rfl
      rw [e3]
      exact ⟨fun q => absurd rfl q, fun _ => ⟨rfl, rfl⟩⟩
  · obtain ⟨k1, k2, k3, k4⟩ := u6 (U - 1) (by omega)
    have es : (nx + 6 - U + (U - 1)) % 6 = (nx + 5) % 6 := by omega
    rw [es] at k1
    refine ⟨ev_i 1, fun σ' => ∃ σ1, σ' = ev_up (ev_up σ1 146 7 0) 162 19 0 ∧ XC σ1 15 (rw_ s (U - 1)) ∧ σ1 29 1 = (((nx + 5) % 6 : Nat) : Int) ∧ σ1 29 2 = ((U - 1 : Nat) : Int) ∧ (∀ c, c ≠ 29 → (c < 15 ∨ 26 < c) → σ1 c = σ c), fun s' => s' = ev_set (ev_up (ev_up s 0 0 0) 0 3 ((U - 1 : Nat) : Int)) 1 (ku s (U - 1) 87), ?_, ?_, ?_⟩
    · refine wp_X11_undo_0 (sp_goBack (d := 57) u5 u2 u4 u1 (by omega) k1 (fun σ1 z1 z2 z3 z4 => ev_pi_mk ⟨fun _ => wp_X11_isChanged_0 ?_, fun q => absurd q (by omega)⟩))
      rintro _ rfl _ rfl
      exact ⟨rfl, σ1, rfl, z1, z2, z3, z4⟩
    · refine wp_X12_undo_0 ?_
      rintro _ rfl
      rw [e3, ev_sub_eq (x := (U : Int)) (y := 1) ⟨by omega, by omega⟩, show (U : Int) - 1 = ((U - 1 : Nat) : Int) by omega]
      refine ⟨fun _ => ?_, fun q => absurd q (by omega)⟩
      rintro _ rfl
      refine sp_ku (u := U - 1) (by omega) (ev_up_same _ _ _ _) ⟨rfl, ?_⟩
      have e : ku (ev_up (ev_up s 0 0 0) 0 3 ((U - 1 : Nat) : Int)) (U - 1) 87 = ku s (U - 1) 87 := by
        unfold ku
        rw [ev_upj _ _ (by omega), ev_upj _ _ (by omega), ev_upj _ _ (by omega), ev_upj _ _ (by omega)]
      rw [e]
    · rintro _ s' ⟨σ1, rfl, z1, z2, z3, z4⟩ hs'
      have e1 : s' 1 = ku s (U - 1) 87 := by rw [hs', ev_set_same]
      have er : ∀ i, i < 87 → s' 1 i = rw_ s (U - 1) i := fun i hi => by rw [e1]; unfold ku; rw [if_pos hi]; rfl
      have e0 : ∀ i, i ≠ 0 → i ≠ 3 → s' 0 i = s 0 i := fun i i0 i3 => by rw [hs', ev_set_ne _ _ (by omega), ev_up_ne _ _ (by omega), ev_up_ne _ _ (by omega)]
      have e03 : s' 0 3 = ((U - 1 : Nat) : Int) := by rw [hs', ev_set_ne _ _ (by omega), ev_up_same]
      have ec : ∀ c, c ≠ 0 → c ≠ 1 → s' c = s c := fun c c0 c1 => by rw [hs', ev_set_ne _ _ c1, ev_upj _ _ c0, ev_upj _ _ c0]
      have htl : tl s s' := tl_of (fun i hi => e0 i (by omega) (by omega)) (fun c hc => ec c (by omega) (by omega))
      have fc : ∀ c, c ≠ 146 → c ≠ 162 → ev_up (ev_up σ1 146 7 0) 162 19 0 c = σ1 c := fun c a b => by rw [ev_upj _ _ b, ev_upj _ _ a]
      have e9 : s' 9 = s 9 := ec 9 (by omega) (by omega)
      refine ⟨N, A, NO, MI, ⟨by rw [tl_tok htl]; exact hT0, ?_, m_zer_r k3 (fun i _ hi => er i (by omega)), by rw [e0 5 (by omega) (by omega)]; exact h5⟩, ⟨tl_XT htl (XT_keep hX.1 (fun c c1 c2 => by rw [fc c (by omega) (by omega)]; exact z4 c (by omega) (by omega))), XC_row (XC_keep z1 (fun c c1 c2 => fc c (by omega) (by omega))) er, fun i hi => ?_⟩, ⟨U - 1, (nx + 5) % 6, ⟨by omega, Nat.mod_lt _ (by omega), e03, by rw [fc 29 (by omega) (by omega)]; exact z3, by rw [fc 29 (by omega) (by omega)]; exact z2⟩, fun j hj => ?_, fun i j hi hj => ?_⟩, ⟨Or.inl (by rw [ev_upj _ _ (by omega), ev_up_same]), Or.inl (by rw [ev_up_same])⟩, RI_keep hI (e0 61 (by omega) (by omega)) (ec 36 (by omega) (by omega)) (by rw [fc 103 (by omega) (by omega), z4 103 (by omega) (by omega)]) (fun c c1 c2 _ => by rw [fc c (by omega) (by omega)]; exact z4 c (by omega) (by omega)), RT_keep hT (fun i hi => e0 i (by omega) (by omega)) (ec 10 (by omega) (by omega)) (ec 11 (by omega) (by omega)) (by rw [fc 132 (by omega) (by omega), z4 132 (by omega) (by omega)]) (by rw [fc 133 (by omega) (by omega), z4 133 (by omega) (by omega)]) (by rw [fc 137 (by omega) (by omega), z4 137 (by omega) (by omega)]) (by rw [fc 137 (by omega) (by omega), z4 137 (by omega) (by omega)]) (by rw [fc 3 (by omega) (by omega), z4 3 (by omega) (by omega)]) (by rw [fc 106 (by omega) (by omega), z4 106 (by omega) (by omega)]) (by rw [fc 141 (by omega) (by omega), z4 141 (by omega) (by omega)])⟩
      · rw [tl_rok htl, e9]
        exact m_rok_r hT0.2.1.2 hT0.2.2.1.2 k2 (fun i _ hi => er i (by omega))
      · rw [er 2 (by omega)] at hi
        rw [fc 28 (by omega) (by omega), z4 28 (by omega) (by omega), e9]; exact hX.2.2 i (by omega)
      · obtain ⟨j1, j2, j3, j4⟩ := u6 j (by omega)
        have es2 : ((nx + 5) % 6 + 6 - (U - 1) + j) % 6 = (nx + 6 - U + j) % 6 := by omega
        have hm : (nx + 6 - U + j) % 6 < 6 := Nat.mod_lt _ (by omega)
        have ew : rw_ s' j = rw_ s j := by unfold rw_; rw [ec 2 (by omega) (by omega)]
        rw [es2, ew, tl_rok htl, e9, er 2 (by omega)]
        exact ⟨XC_keep j1 (fun c c1 c2 => by rw [fc c (by omega) (by omega)]; exact z4 c (by omega) (by omega)), j2, j3, u7 j (U - 1) (by omega) (by omega)⟩
      · have ew : ∀ j, rw_ s' j = rw_ s j := fun j => by unfold rw_; rw [ec 2 (by omega) (by omega)]
        rw [ew, ew]; exact u7 i j hi (by omega)
end
