theorem ci_w {μ μ' : la_Mem} (h : CI μ) (hf : ∀ a, ¬ (32 ≤ a ∧ a < 36) → μ' a = μ a) : CI μ' := by
  have e1 : (fun p => μ' (36 + p)) = fun p => μ (36 + p) := funext fun p => hf _ (by omega)
  obtain ⟨a1, a2, a3, a4, a5, a6, a7, a8, a9⟩ := h
  unfold CI
  rw [e1, hf 24 (by omega), hf 2 (by omega), hf 3 (by omega), hf 25 (by omega), hf 26 (by omega), hf 5 (by omega), hf 6 (by omega), hf 9 (by omega), hf 11 (by omega), hf 12 (by omega), hf 15 (by omega), hf 16 (by omega), hf 7 (by omega), hf 20 (by omega), hf 4 (by omega), hf 10 (by omega), hf 14 (by omega), hf 18 (by omega), hf 21 (by omega)]
  refine ⟨a1, a2, a3, a4, a5, a6, a7, a8, fun s hs => ?_⟩
  have := a9 s hs
  dsimp only
  rw [hf (28 + s) (by omega)]
  exact this
theorem cp_1 {x1 x2 x3 x4 x5 : Int32} {C N : Nat} (h1 : 0 ≤ x1.toInt) (h2 : x1.toInt < 4) (hC : x2.toInt = C) (hN : x5 = nI N) (hCN : C + N ≤ 40) : ∀ (k n i : Nat) (ν : la_Mem), i + k = N → k < n → ∃ ν' : la_Mem, fX8_copy_L101 x1 x2 x3 x4 x5 n (nI i) ν = some ν' ∧ (∀ a, a ≠ 25 → ν' a = ν a) ∧ (∀ j, i ≤ j → j < N → ν' 25 j = ν 24 (40 * x1.toNatClampNeg + (C + j))) ∧ (∀ j, j < i → ν' 25 j = ν 25 j) := by
  intro k
  induction k with
  | zero =>
    intro n i ν e1 e2
    obtain ⟨n, rfl⟩ : ∃ m, n = m + 1 := ⟨n - 1, by omega⟩
    have hle : x5 ≤ nI i := by rw [hN, pu_le]; rw [show i = N by omega]; omega
    exact ⟨ν, by rw [fX8_copy_L101, if_pos hle], fun _ _ => rfl, fun j j1 j2 => by omega, fun _ _ => rfl⟩
  | succ k ih =>
    intro n i ν e1 e2
    obtain ⟨n, rfl⟩ : ∃ m, n = m + 1 := ⟨n - 1, by omega⟩
    have hle : ¬ x5 ≤ nI i := by rw [hN, pu_le, nI_toInt (by omega), nI_toInt (by omega)]; omega
    obtain ⟨-, -, y3, y4⟩ := sheet_ix (i := i) h1 h2 hC (by omega)
    have ix : la_ix (nI i) 40 = true := nI_ix (by omega) (by decide)
    have ni : (nI i).toNatClampNeg = i := nI_clamp (by omega)
    obtain ⟨ν', r1, r2, r3, r4⟩ := ih n (i + 1) (la_ms ν 25 i (ν 24 (40 * x1.toNatClampNeg + (C + i)))) (by omega) (by omega)
    refine ⟨ν', ?_, fun a ha => ?_, fun j j1 j2 => ?_, fun j j1 => ?_⟩
    · rw [fX8_copy_L101, if_neg hle, pu_if y3, pu_if ix, pu_st, y4, ni, nI_1, r1]
    · rw [r2 a ha, pu_msr ha]
    · by_cases e : j = i
      · subst e
        rw [r4 j (by omega), la_ms_self, pk_us]
      · rw [r3 j (by omega) j2, pu_msr (by decide)]
    · rw [r4 j (by omega), la_ms_self, pk_un (by omega)]
theorem cp_2 {x3 x4 x5 : Int32} {C N : Nat} (h1 : 0 ≤ x3.toInt) (h2 : x3.toInt < 4) (hC : x4.toInt = C) (hN : x5 = nI N) (hCN : C + N ≤ 40) : ∀ (k n i : Nat) (ν : la_Mem), i + k = N → k < n → ∃ ν' : la_Mem, fX8_copy_L138 x3 x4 x5 n (nI i) ν = some ν' ∧ (∀ a, a ≠ 24 → ν' a = ν a) ∧ ∀ x, ν' 24 x = if 40 * x3.toNatClampNeg + (C + i) ≤ x ∧ x < 40 * x3.toNatClampNeg + (C + N) then ν 25 (x - (40 * x3.toNatClampNeg + C)) else ν 24 x := by
  intro k
  induction k with
  | zero =>
    intro n i ν e1 e2
    obtain ⟨n, rfl⟩ : ∃ m, n = m + 1 := ⟨n - 1, by omega⟩
    have hle : x5 ≤ nI i := by rw [hN, pu_le]; rw [show i = N by omega]; omega
    exact ⟨ν, by rw [fX8_copy_L138, if_pos hle], fun _ _ => rfl, fun x => by rw [if_neg (by omega)]⟩
  | succ k ih =>
    intro n i ν e1 e2
    obtain ⟨n, rfl⟩ : ∃ m, n = m + 1 := ⟨n - 1, by omega⟩
    have hle : ¬ x5 ≤ nI i := by rw [hN, pu_le, nI_toInt (by omega), nI_toInt (by omega)]; omega
    obtain ⟨-, -, y3, y4⟩ := sheet_ix (i := i) h1 h2 hC (by omega)
    have ix : la_ix (nI i) 40 = true := nI_ix (by omega) (by decide)
    have ni : (nI i).toNatClampNeg = i := nI_clamp (by omega)
    obtain ⟨ν', r1, r2, r3⟩ := ih n (i + 1) (la_ms ν 24 (40 * x3.toNatClampNeg + (C + i)) (ν 25 i)) (by omega) (by omega)
    refine ⟨ν', ?_, fun a ha => ?_, fun x => ?_⟩
    · rw [fX8_copy_L138, if_neg hle, pu_if ix, pu_if y3, pu_st, y4, ni, nI_1, r1]
    · rw [r2 a ha, pu_msr ha]
    · rw [r3, pu_msr (show 25 ≠ 24 by decide), la_ms_self]
      by_cases e : x = 40 * x3.toNatClampNeg + (C + i)
      · subst e
        rw [if_neg (by omega), if_pos (by omega), pk_us]
        congr 1
        omega
      · rw [pk_un e]
        by_cases e2 : 40 * x3.toNatClampNeg + (C + (i + 1)) ≤ x ∧ x < 40 * x3.toNatClampNeg + (C + N)
        · rw [if_pos e2, if_pos (by omega)]
        · rw [if_neg e2, if_neg (by omega)]
theorem st_copy (x1 x2 x3 x4 x5 : Int32) (μ ν : la_Mem) (h : Iv μ ν) : ∃ (r : Int32) (μ' ν' : la_Mem), fX7_copy x1 x2 x3 x4 x5 μ = some (r, μ') ∧ fX8_copy x1 x2 x3 x4 x5 ν = some (r, ν') ∧ Iv μ' ν' := by
  obtain ⟨hc, hr⟩ := h
  unfold fX7_copy fX8_copy
  by_cases ha : 0 ≤ x1.toInt ∧ x1.toInt < 4
  rotate_left
  · rw [isS_f ha, mS_f ha]; exact ⟨-1, μ, ν, rfl, rfl, hc, hr⟩
  by_cases hb : 0 ≤ x3.toInt ∧ x3.toInt < 4
  rotate_left
  · rw [isS_t ha.1 ha.2, mS_t ha.1 ha.2, isS_f hb, mS_f hb]; exact ⟨-1, μ, ν, rfl, rfl, hc, hr⟩
  have ixa : la_ix x1 4 = true := pu_ix.mpr ha
  have ixb : la_ix x3 4 = true := pu_ix.mpr hb
  have hs1 := pu_cl (n := 4) ha.1 ha.2
  have hs3 := pu_cl (n := 4) hb.1 hb.2
  have hz1 := CZ_of hc hs1
  have hz3 := CZ_of hc hs3
  obtain ⟨l1, l2⟩ := lane_neg hc hr hs1
  obtain ⟨l3, l4⟩ := lane_neg hc hr hs3
  rw [isS_t ha.1 ha.2, mS_t ha.1 ha.2, isS_t hb.1 hb.2, mS_t hb.1 hb.2, Option.bind_some, Option.bind_some, if_neg nz1, if_neg nz1, Option.bind_some, Option.bind_some, if_neg nz1, if_neg nz1]
  simp only [pu_if ixa, pu_if ixb]
  by_cases q1 : μ (28 + x1.toNatClampNeg) 1 = 0
  · have : ν 22 x1.toNatClampNeg < 0 := by
      have w : ¬ 0 ≤ ν 22 x1.toNatClampNeg := fun q => (l1.mp q) q1
      rw [pu_le, z0] at w
      rw [pu_lt, z0]; omega
    rw [if_pos q1, if_pos this]; exact ⟨-11, μ, ν, rfl, rfl, hc, hr⟩
  have n1 : ¬ ν 22 x1.toNatClampNeg < 0 := by
    have w := l1.mpr q1
    rw [pu_le, z0] at w
    rw [pu_lt, z0]; omega
  rw [if_neg q1, if_neg n1]
  by_cases q2 : μ (28 + x3.toNatClampNeg) 1 = 0
  · rw [if_pos q2, if_neg (fun q => (l3.mp q) q2)]; exact ⟨-11, μ, ν, rfl, rfl, hc, hr⟩
  rw [if_neg q2, if_pos (l3.mpr q2), l2 q1, l4 q2, fault_m hc hr ha.1 ha.2, fault_m hc hr hb.1 hb.2, Option.bind_some, Option.bind_some]
  by_cases q3 : μ (28 + x1.toNatClampNeg) 2 = μ (28 + x3.toNatClampNeg) 2
  rotate_left
  · rw [if_neg q3, if_neg q3]; exact ⟨-12, μ, ν, rfl, rfl, hc, hr⟩
  rw [if_pos q3, if_pos q3]
  by_cases q5 : x5 < 0
  · rw [if_pos q5, spans_f hz1.2.2 (fun q => by rw [pu_lt, z0] at q5; omega), Option.bind_some, if_pos rfl]; exact ⟨-13, μ, ν, rfl, rfl, hc, hr⟩
  have q5' := q5
  rw [pu_lt, z0] at q5'
  rw [if_neg q5]
  unfold flt
  rw [if_neg q1, if_neg q2, if_pos rfl, if_pos rfl]
  by_cases q6 : 0 ≤ x2.toInt ∧ x2.toInt + x5.toInt ≤ (μ (28 + x1.toNatClampNeg) 3).toInt
  rotate_left
  · rw [if_neg q6, spans_f hz1.2.2 (by omega), Option.bind_some, if_pos rfl, if_pos (by decide)]; exact ⟨-13, μ, ν, rfl, rfl, hc, hr⟩
  rw [if_pos q6, spans_t hz1.2.2 q6.1 (by omega) q6.2, Option.bind_some, if_neg nz1, if_neg (by decide)]
  by_cases q7 : 0 ≤ x4.toInt ∧ x4.toInt + x5.toInt ≤ (μ (28 + x3.toNatClampNeg) 3).toInt
  rotate_left
  · rw [if_neg q7, spans_f hz3.2.2 (by omega), Option.bind_some, if_pos rfl, if_neg (by decide)]; exact ⟨-13, μ, ν, rfl, rfl, hc, hr⟩
  rw [if_pos q7, spans_t hz3.2.2 q7.1 (by omega) q7.2, Option.bind_some, if_neg nz1, if_pos (by decide)]
  have b1 := hz1.2.2.2
  have b3 := hz3.2.2.2
  obtain ⟨N, N1, N2, N3⟩ := asN (show 0 ≤ x5.toInt by omega) (show x5.toInt ≤ (40 : Nat) by omega) (by decide)
  obtain ⟨C, C1, C2, C3⟩ := asN q6.1 (show x2.toInt ≤ (40 : Nat) by omega) (by decide)
  obtain ⟨D, D1, D2, D3⟩ := asN q7.1 (show x4.toInt ≤ (40 : Nat) by omega) (by decide)
  have nC : x2.toNatClampNeg = C := by rw [C2, nI_clamp (by omega)]
  have nD : x4.toNatClampNeg = D := by rw [D2, nI_clamp (by omega)]
  have nN : x5.toNatClampNeg = N := by rw [N2, nI_clamp (by omega)]
  have hin : la_in3 x2 x4 x5 40 40 = true := by
    unfold la_in3
    have g1 : ¬ x2 < 0 := by rw [pu_lt, z0]; omega
    have g2 : ¬ x4 < 0 := by rw [pu_lt, z0]; omega
    rw [nC, nD, nN]
    simp [g1, g2, q5]
    omega
  obtain ⟨ν1, r1, r2, r3, r4⟩ := cp_1 (x3 := x3) (x4 := x4) ha.1 ha.2 C3.symm N2 (by omega) N 400 0 ν (by omega) (by omega)
  obtain ⟨ν2, t1, t2, t3⟩ := cp_2 hb.1 hb.2 D3.symm N2 (by omega) N 400 0 ν1 (by omega) (by omega)
  rw [pu_if hin, pu_st, nC, nD, nN, show fX8_copy_L101 x1 x2 x3 x4 x5 400 0 ν = _ from r1, Option.bind_some, show fX8_copy_L138 x3 x4 x5 400 0 ν1 = _ from t1, Option.bind_some]
  refine ⟨x5, _, ν2, rfl, rfl, ci_w hc (fun a h => la_cp_ne (by omega)), ?_⟩
  refine rl_sheet hr (fun a h => la_cp_ne (by omega)) (fun a g1 g2 g3 g4 => by rw [t2 a g3, r2 a g4]) (fun s h1 => ?_) (fun s h1 => ?_) (fun s i h1 h2 => ?_)
  · rw [t2 22 (by decide), r2 22 (by decide), la_cp_ne (by omega)]; exact rl_lane hr h1
  · rw [t2 23 (by decide), r2 23 (by decide), la_cp_ne (by omega)]; exact rl_size hr h1
  · rw [t3, r2 24 (by decide)]
    by_cases e : s = x3.toNatClampNeg
    · subst e
      rw [la_cp_self]
      unfold va_cpy
      by_cases e2 : D ≤ i ∧ i < D + N
      · rw [if_pos e2, if_pos (by omega), r3 _ (by omega) (by omega), ← rl_item hr hs1 (by omega)]
        congr 1
        omega
      · rw [if_neg e2, if_neg (by omega)]
        exact rl_item hr h1 h2
    · rw [if_neg (by omega), la_cp_ne (by omega)]
      exact rl_item hr h1 h2
