theorem z108 : (108 : Int32).toInt = 108 := rfl
theorem fu_P {a : Int32} {μ ν : la_Mem} (h22 : ν 21 = μ 22) {T : Nat} (hT : T ≤ 60) (eT : μ 21 1 = nI T) : ∀ (k n i : Nat), i + k = T → k < n → (∃ j, j < T ∧ fX6_firstUnplayable_L2 μ n (nI i) = some (.inl (nI j)) ∧ fX8_plays_L33 a (nI T) ν n (nI i) = some (.inl (-20 - nI j, ν))) ∨ (fX6_firstUnplayable_L2 μ n (nI i) = some (.inr ()) ∧ fX8_plays_L33 a (nI T) ν n (nI i) = some (.inr ())) := by
  intro k
  induction k with
  | zero =>
    intro n i e1 e2
    obtain ⟨n, rfl⟩ : ∃ m, n = m + 1 := ⟨n - 1, by omega⟩
    have hle : nI T ≤ nI i := by rw [pu_le]; rw [show i = T by omega]; omega
    exact Or.inr ⟨by rw [fX6_firstUnplayable_L2, eT, if_pos hle], by rw [fX8_plays_L33, if_pos hle]⟩
  | succ k ih =>
    intro n i e1 e2
    obtain ⟨n, rfl⟩ : ∃ m, n = m + 1 := ⟨n - 1, by omega⟩
    have hle : ¬ nI T ≤ nI i := by rw [pu_le, nI_toInt (by omega), nI_toInt (by omega)]; omega
    have ix : la_ix (nI i) 60 = true := nI_ix (by omega) (by decide)
    have ni : (nI i).toNatClampNeg = i := nI_clamp (by omega)
    rw [fX6_firstUnplayable_L2, fX8_plays_L33, eT, if_neg hle, if_neg hle]
    unfold fX6_firstUnplayable_J36 fX6_firstUnplayable_J37 fX6_firstUnplayable_J55 fX8_plays_J73
    simp only [pu_if ix, ni, h22, nI_1, if_pos, if_neg nz1]
    by_cases q1 : μ 22 i = 32
    · rw [if_pos q1, if_pos q1, if_pos (show μ 22 i < 97 by rw [q1]; decide)]
      exact ih n (i + 1) (by omega) (by omega)
    · rw [if_neg q1, if_neg q1]
      by_cases q2 : 97 ≤ (μ 22 i).toInt ∧ (μ 22 i).toInt ≤ 108
      · rw [in_t 97 108 rfl rfl q2.1 q2.2, Option.bind_some, if_neg nz1, if_neg (show ¬ μ 22 i < 97 by rw [pu_lt, z97]; omega), if_neg (show ¬ 109 ≤ μ 22 i by rw [pu_le, z109]; omega)]
        exact ih n (i + 1) (by omega) (by omega)
      · rw [in_f 97 108 rfl rfl q2, Option.bind_some, if_pos rfl]
        refine Or.inl ⟨i, by omega, ?_, rfl⟩
        by_cases q3 : μ 22 i < 97
        · rw [if_pos q3]
        · rw [if_neg q3, if_pos (show 109 ≤ μ 22 i by rw [pu_lt, z97] at q3; rw [pu_le, z109]; omega)]
theorem pt_L {a x2 x3 : Int32} (h : ¬ x3 ≤ 0) : ∀ (n : Nat) (i : Int32) (ν : la_Mem), fX8_plays_L115 a x2 x3 n i ν = fX8_ticks_L30 a n i ν := by
  intro n
  induction n with
  | zero => intro i ν; rfl
  | succ n ih => intro i ν; rw [fX8_plays_L115, fX8_ticks_L30, if_neg h]; simp only [ih]
theorem pl_P {a : Int32} {N T : Nat} (hN : N ≤ 30) (ha : a = nI N) (hT : T ≤ 60) : ∀ (k n i : Nat) (μ ν : la_Mem), i + k = T → k + 1 < n → CI μ → Rl μ ν → ∃ (r : Int32) (μ' ν' : la_Mem), (fX7_playTape_L2 (nI T) a n (nI i) μ = some (.inl (r, μ')) ∨ (fX7_playTape_L2 (nI T) a n (nI i) μ = some (.inr μ') ∧ r = nI T)) ∧ fX8_plays_L102 a (nI T) n (nI i) 1 ν = some (r, ν') ∧ Iv μ' ν' := by
  intro k
  induction k with
  | zero =>
    intro n i μ ν e1 e2 hc hr
    obtain ⟨n, rfl⟩ : ∃ m, n = m + 1 := ⟨n - 1, by omega⟩
    have hi : i = T := by omega
    subst hi
    have hle : nI i ≤ nI i := by rw [pu_le]; omega
    exact ⟨nI i, μ, ν, Or.inr ⟨by rw [fX7_playTape_L2, if_pos hle], rfl⟩, by rw [fX8_plays_L102, if_neg nz1, if_pos hle], hc, hr⟩
  | succ k ih =>
    intro n i μ ν e1 e2 hc hr
    obtain ⟨n, rfl⟩ : ∃ m, n = m + 2 := ⟨n - 2, by omega⟩
    have hle : ¬ nI T ≤ nI i := by rw [pu_le, nI_toInt (by omega), nI_toInt (by omega)]; omega
    have ix : la_ix (nI i) 60 = true := nI_ix (by omega) (by decide)
    have ni : (nI i).toNatClampNeg = i := nI_clamp (by omega)
    have hgo : ∃ μ1 ν1, CI μ1 ∧ Rl μ1 ν1 ∧ fX7_playTape_L2 (nI T) a (n + 2) (nI i) μ = fX7_playTape_J16 (fX7_playTape_L2 (nI T) a (n + 1)) (nI T) a (nI i) μ1 ∧ fX8_plays_L102 a (nI T) (n + 2) (nI i) 1 ν = fX8_plays_J135 (fX8_plays_L102 a (nI T) (n + 1)) a (nI T) (nI i) ν1 := by
      by_cases h0 : nI i ≤ 0
      · refine ⟨μ, ν, hc, hr, ?_, ?_⟩
        · rw [fX7_playTape_L2, if_neg hle, if_pos h0]
        · rw [fX8_plays_L102, if_neg nz1, if_neg hle, show (400 : Nat) = 399 + 1 from rfl, fX8_plays_L115, if_pos h0]
          by_cases q : a ≤ 0
          · rw [if_pos q, Option.bind_some]
          · rw [if_neg q, Option.bind_some]
      · obtain ⟨μ1, ν1, r1, r2, r3, r4⟩ := goOn_P (show N ≤ 300 by omega) ha N 400 0 μ ν (by omega) (by omega) hc hr
        refine ⟨μ1, ν1, r3, r4, ?_, ?_⟩
        · rw [fX7_playTape_L2, if_neg hle, if_neg h0]
          unfold fX7_goOn
          rw [show fX7_goOn_L2 a 400 0 μ = _ from r1]
          rfl
        · rw [fX8_plays_L102, if_neg nz1, if_neg hle, pt_L h0, show fX8_ticks_L30 a 400 0 ν = _ from r2, Option.bind_some]
    obtain ⟨μ1, ν1, hc1, hr1, g1, g2⟩ := hgo
    rw [g1, g2]
    have fin : ∀ (r : Int32) (μ2 ν2 : la_Mem), Iv μ2 ν2 → ∃ (r' : Int32) (μ' ν' : la_Mem), (fX7_playTape_J50 (fX7_playTape_L2 (nI T) a (n + 1)) (nI T) a (nI i) r μ2 = some (.inl (r', μ')) ∨ (fX7_playTape_J50 (fX7_playTape_L2 (nI T) a (n + 1)) (nI T) a (nI i) r μ2 = some (.inr μ') ∧ r' = nI T)) ∧ fX8_plays_J166 (fX8_plays_L102 a (nI T) (n + 1)) a (nI T) (nI i) r ν2 = some (r', ν') ∧ Iv μ' ν' := by
      intro r μ2 ν2 h2
      unfold fX7_playTape_J50 fX8_plays_J166 fX8_plays_J178 fX8_plays_J191
      by_cases q : 0 ≤ r
      · rw [if_pos q, if_neg (show ¬ r < 0 by rw [pu_le, z0] at q; rw [pu_lt, z0]; omega), if_neg nz1, pu_st, nI_1]
        exact ih (n + 1) (i + 1) μ2 ν2 (by omega) (by omega) h2.1 h2.2
      · rw [if_neg q, if_pos (show r < 0 by rw [pu_le, z0] at q; rw [pu_lt, z0]; omega), if_pos rfl, pu_st, i_add0]
        exact ⟨nI i, μ2, ν2, Or.inl rfl, by rw [fX8_plays_L102, if_pos rfl], h2⟩
    unfold fX7_playTape_J16 fX8_plays_J135
    simp only [pu_if ix, pu_st, ni, rl_tape hr1]
    by_cases q : μ1 22 i = 32
    · rw [if_pos q, if_pos q]
      obtain ⟨r, μ2, ν2, b1, b2, b3⟩ := st_band μ1 ν1 ⟨hc1, hr1⟩
      rw [b1, b2, pu_b2, pu_b2]
      exact fin r μ2 ν2 b3
    · rw [if_neg q, if_neg q]
      obtain ⟨r, μ2, ν2, b1, b2, b3⟩ := key_P (μ1 22 i - 97) μ1 ν1 hc1 hr1
      rw [b1, b2, pu_b2, pu_b2]
      exact fin r μ2 ν2 b3
theorem st_plays (a : Int32) (μ ν : la_Mem) (h : Iv μ ν) : ∃ (r : Int32) (μ' ν' : la_Mem), fX7_plays a μ = some (r, μ') ∧ fX8_plays a ν = some (r, ν') ∧ Iv μ' ν' := by
  obtain ⟨hc, hr⟩ := h
  unfold fX7_plays fX8_plays fX7_isGap
  by_cases ha : 1 ≤ a.toInt ∧ a.toInt ≤ 30
  · obtain ⟨N, N1, N2, N3⟩ := asN (show 0 ≤ a.toInt by omega) (show a.toInt ≤ (30 : Nat) by omega) (by decide)
    obtain ⟨T, T1, T2, T3⟩ := asN hc.2.2.2.2.2.2.2.1.1 hc.2.2.2.2.2.2.2.1.2 (b := 60) (by decide)
    have hc2 : CI (la_ms μ 21 1 0) := by
      obtain ⟨a1, a2, a3, a4, a5, a6, a7, a8, a9⟩ := hc
      exact ci_21_1 ⟨a1, a2, a3, a4, a5, a6, a7, ⟨by decide, by decide⟩, a9⟩
    have hr2 : Rl (la_ms μ 21 1 0) (la_ms ν 0 29 0) := rw_taped hr 0
    have h22 : la_ms ν 0 29 0 21 = μ 22 := by rw [pu_msr (by decide), rl_tape hr]
    rw [if_neg (show ¬ a < 1 by rw [pu_lt, z1]; omega), if_neg (show ¬ 30 < a by rw [pu_lt, z30]; omega), in_t 1 30 rfl rfl ha.1 ha.2, Option.bind_some, Option.bind_some, if_neg nz1, if_neg nz1, pu_st, pu_st, pu_st, rl_taped hr, rl_now hr2, T2]
    unfold fX6_firstUnplayable
    have hP := fu_P (a := a) h22 T1 T2 T 400 0 (by omega) (by omega)
    by_cases q0 : nI T = 0
    · have t0 : T = 0 := by rw [pu_eq, nI_toInt (by omega), z0] at q0; omega
      rcases hP with ⟨j, j1, -, -⟩ | ⟨h1, h2⟩
      · omega
      · rw [show fX6_firstUnplayable_L2 μ 400 0 = _ from h1, pu_x0r, Option.bind_some, pu_st, if_pos q0, if_pos q0, T2, q0]
        exact ⟨-20, _, _, rfl, rfl, hc2, hr2⟩
    · rcases hP with ⟨j, j1, h1, h2⟩ | ⟨h1, h2⟩
      · rw [show fX6_firstUnplayable_L2 μ 400 0 = _ from h1, show fX8_plays_L33 a (nI T) (la_ms ν 0 29 0) 400 0 = _ from h2, pu_x0l, pu_x0l, Option.bind_some, pu_st, if_neg q0, if_neg q0, if_neg (show ¬ nI T ≤ nI j by rw [pu_le, nI_toInt (by omega), nI_toInt (by omega)]; omega)]
        exact ⟨_, _, _, rfl, rfl, hc2, hr2⟩
      · rw [show fX6_firstUnplayable_L2 μ 400 0 = _ from h1, show fX8_plays_L33 a (nI T) (la_ms ν 0 29 0) 400 0 = _ from h2, pu_x0r, pu_x0r, Option.bind_some, pu_st, if_neg q0, if_neg q0, T2, if_pos (show nI T ≤ nI T by rw [pu_le]; omega), Int32.mul_comm a (nI T - 1)]
        by_cases q1 : la_ms μ 21 1 0 0 11 + (nI T - 1) * a ≤ 99999
        · rw [if_pos q1, if_pos q1]
          obtain ⟨r, μ', ν', r1, r2, r3⟩ := pl_P N1 N2 T1 T 400 0 _ _ (by omega) (by omega) hc2 hr2
          refine ⟨r, μ', ν', ?_, ?_, r3⟩
          · unfold fX7_playTape
            rcases r1 with r1 | ⟨r1, r4⟩
            · rw [show fX7_playTape_L2 (nI T) a 400 0 (la_ms μ 21 1 0) = _ from r1]; rfl
            · rw [show fX7_playTape_L2 (nI T) a 400 0 (la_ms μ 21 1 0) = _ from r1, r4]; rfl
          · rw [show fX8_plays_L102 a (nI T) 400 0 1 (la_ms ν 0 29 0) = _ from r2]; rfl
        · rw [if_neg q1, if_neg q1]
          exact ⟨_, _, _, rfl, rfl, hc2, hr2⟩
  · rw [in_f 1 30 rfl rfl ha, Option.bind_some, if_pos rfl]
    refine ⟨-1, μ, ν, ?_, rfl, hc, hr⟩
    by_cases q1 : a < 1
    · rw [if_pos q1]; rfl
    · rw [if_neg q1, if_pos (show 30 < a by rw [pu_lt, z1] at q1; rw [pu_lt, z30]; omega)]; rfl
