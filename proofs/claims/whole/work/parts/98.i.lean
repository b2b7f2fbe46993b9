theorem ly_P {x4 g : Int32} {N : Nat} (hN : x4 = nI N) (hN2 : N ≤ 24) : ∀ (k n i : Nat) (μ ν : la_Mem), i + k = N → k < n → Rl μ ν → RW μ ν N → (∀ j, j < i → ν 20 j = nI j * g + μ 27 j) → ∃ ν' : la_Mem, fX8_lays_L2 x4 g n (nI i) ν = some ν' ∧ Rl μ ν' ∧ (∀ a, a ≠ 20 → ν' a = ν a) ∧ ∀ j, j < N → ν' 20 j = nI j * g + μ 27 j := by
  intro k
  induction k with
  | zero =>
    intro n i μ ν e1 e2 hr hw hd
    obtain ⟨n, rfl⟩ : ∃ m, n = m + 1 := ⟨n - 1, by omega⟩
    have hle : x4 ≤ nI i := by rw [hN, pu_le]; rw [show i = N by omega]; omega
    exact ⟨ν, by rw [fX8_lays_L2, if_pos hle], hr, fun _ _ => rfl, fun j hj => hd j (by omega)⟩
  | succ k ih =>
    intro n i μ ν e1 e2 hr hw hd
    obtain ⟨n, rfl⟩ : ∃ m, n = m + 1 := ⟨n - 1, by omega⟩
    have hle : ¬ x4 ≤ nI i := by rw [hN, pu_le, nI_toInt (by omega), nI_toInt (by omega)]; omega
    have ix : la_ix (nI i) 24 = true := nI_ix (by omega) (by decide)
    have ni : (nI i).toNatClampNeg = i := nI_clamp (by omega)
    obtain ⟨ν', r1, r2, r3, r4⟩ := ih n (i + 1) μ (la_ms ν 20 i (nI i * g + μ 27 i)) (by omega) (by omega) (rw_dues hr i _) (fun j hj => by rw [pu_msr (show 19 ≠ 20 by decide)]; exact hw j hj) (fun j hj => by
      rw [la_ms_self]
      by_cases e : j = i
      · subst e; rw [pk_us]
      · rw [pk_un e]; exact hd j (by omega))
    refine ⟨ν', ?_, r2, fun a ha => by rw [r3 a ha, pu_msr ha], r4⟩
    rw [fX8_lays_L2, if_neg hle, pu_if ix, ni, (hw i (by omega)).2 ν (rl_reaches hr), Option.bind_some, pu_if ix, pu_st, nI_1, Int32.mul_comm g (nI i), r1]
theorem ly_ok {x4 g : Int32} {N : Nat} {μ ν : la_Mem} (hN : x4 = nI N) (hN2 : N ≤ 24) (hr : Rl μ ν) (hw : RW μ ν N) : ∃ ν' : la_Mem, fX8_lays x4 g ν = some ν' ∧ Rl μ ν' ∧ RW μ ν' N ∧ ∀ j, j < N → ν' 20 j = nI j * g + μ 27 j := by
  obtain ⟨ν', r1, r2, r3, r4⟩ := ly_P (g := g) hN hN2 N 400 0 μ ν (by omega) (by omega) hr hw (fun j hj => by omega)
  refine ⟨ν', ?_, r2, fun j hj => by rw [r3 19 (by decide)]; exact hw j hj, r4⟩
  unfold fX8_lays
  rw [show fX8_lays_L2 x4 g 400 0 ν = _ from r1]
  rfl
/-! two orders of one sum -/
def pc (d : Nat → Int32) (i j : Nat) : Nat := if d i ≤ d j then 0 else 1
def col (d : Nat → Int32) (j : Nat) : Nat → Nat | 0 => 0 | i + 1 => col d j i + pc d i j
def cst (d : Nat → Int32) : Nat → Nat | 0 => 0 | j + 1 => cst d j + col d j j
def rwt (d : Nat → Int32) (i : Nat) : Nat → Nat | 0 => 0 | n + 1 => rwt d i n + (if i < n then pc d i n else 0)
def rst (d : Nat → Int32) (n : Nat) : Nat → Nat | 0 => 0 | i + 1 => rst d n i + rwt d i n
theorem rwt_0 (d : Nat → Int32) (i : Nat) : ∀ n, n ≤ i + 1 → rwt d i n = 0
  | 0, _ => rfl
  | n + 1, h => by rw [rwt, rwt_0 d i n (by omega), if_neg (by omega)]
theorem rst_s (d : Nat → Int32) (n : Nat) : ∀ m, m ≤ n → rst d (n + 1) m = rst d n m + col d n m
  | 0, _ => rfl
  | m + 1, h => by
    rw [rst, rst, col, rst_s d n m (by omega), rwt, if_pos (by omega)]
    omega
theorem rst_cst (d : Nat → Int32) : ∀ n, rst d n n = cst d n
  | 0 => rfl
  | n + 1 => by
    rw [rst, rst_s d n n (by omega), rst_cst d n, cst, rwt_0 d n (n + 1) (by omega)]
    rfl
def du (μ : la_Mem) (g : Int32) (j : Nat) : Int32 := nI j * g + μ 27 j
theorem ca_c {μ : la_Mem} {g : Int32} {i j : Nat} (hi : i < 24) (hj : j < 24) : fX7_comesAhead (nI j) (nI i) g μ = some (if du μ g i ≤ du μ g j then 0 else 1) := by
  unfold fX7_comesAhead du
  rw [pu_if (nI_ix hj (by decide)), pu_if (nI_ix hi (by decide)), nI_clamp (by omega), nI_clamp (by omega)]
  split <;> rfl
theorem tp_1 {x1 g : Int32} {μ : la_Mem} {j : Nat} (hj : j < 24) (a : Nat) : ∀ (k n i : Nat), i + k = j → k < n → fX7_turnedPairs_L14 x1 g (nI j) μ n (nI (a + col (du μ g) j i)) (nI i) = some (nI (a + col (du μ g) j j)) := by
  intro k
  induction k with
  | zero =>
    intro n i e1 e2
    obtain ⟨n, rfl⟩ : ∃ m, n = m + 1 := ⟨n - 1, by omega⟩
    have hi : i = j := by omega
    subst hi
    rw [fX7_turnedPairs_L14, if_pos (show nI i ≤ nI i by rw [pu_le]; omega)]
  | succ k ih =>
    intro n i e1 e2
    obtain ⟨n, rfl⟩ : ∃ m, n = m + 1 := ⟨n - 1, by omega⟩
    have h := ih n (i + 1) (by omega) (by omega)
    rw [fX7_turnedPairs_L14, if_neg (show ¬ nI j ≤ nI i by rw [pu_le, nI_toInt (by omega), nI_toInt (by omega)]; omega), ca_c (by omega) hj, Option.bind_some]
    unfold fX7_turnedPairs_J36
    rw [nI_1, nI_1]
    rw [col, pc] at h
    by_cases q : du μ g i ≤ du μ g j
    · rw [if_pos q] at h
      rw [if_pos q, if_pos rfl]; exact h
    · rw [if_neg q] at h
      rw [if_neg q, if_neg nz1]; exact h
theorem tp_2 {x1 g : Int32} {μ : la_Mem} {N : Nat} (hN : x1 = nI N) (hN2 : N ≤ 24) : ∀ (k n j : Nat), j + k = N → k < n → fX7_turnedPairs_L5 x1 g μ n (nI (cst (du μ g) j)) (nI j) = some (nI (cst (du μ g) N)) := by
  intro k
  induction k with
  | zero =>
    intro n j e1 e2
    obtain ⟨n, rfl⟩ : ∃ m, n = m + 1 := ⟨n - 1, by omega⟩
    have hi : j = N := by omega
    subst hi
    rw [fX7_turnedPairs_L5, if_pos (show x1 ≤ nI j by rw [hN, pu_le]; omega)]
  | succ k ih =>
    intro n j e1 e2
    obtain ⟨n, rfl⟩ : ∃ m, n = m + 1 := ⟨n - 1, by omega⟩
    have h1 := tp_1 (x1 := x1) (g := g) (μ := μ) (show j < 24 by omega) (cst (du μ g) j) j 400 0 (by omega) (by omega)
    rw [fX7_turnedPairs_L5, if_neg (show ¬ x1 ≤ nI j by rw [hN, pu_le, nI_toInt (by omega), nI_toInt (by omega)]; omega), show fX7_turnedPairs_L14 x1 g (nI j) μ 400 (nI (cst (du μ g) j)) 0 = _ from h1, Option.bind_some, nI_1]
    exact ih n (j + 1) (by omega) (by omega)
theorem tb_1 {x1 : Int32} {ν : la_Mem} {d : Nat → Int32} {N i : Nat} (hN : x1 = nI N) (hN2 : N ≤ 24) (hi : i < N) (hd : ∀ j, j < N → ν 20 j = d j) (a : Nat) : ∀ (k n j : Nat), i < j → j + k = N → k < n → fX8_turnedBy_L23 x1 (nI i) ν n (nI (a + rwt d i j)) (nI j) = some (nI (a + rwt d i N)) := by
  intro k
  induction k with
  | zero =>
    intro n j e0 e1 e2
    obtain ⟨n, rfl⟩ : ∃ m, n = m + 1 := ⟨n - 1, by omega⟩
    have hj : j = N := by omega
    subst hj
    rw [fX8_turnedBy_L23, if_pos (show x1 ≤ nI j by rw [hN, pu_le]; omega)]
  | succ k ih =>
    intro n j e0 e1 e2
    obtain ⟨n, rfl⟩ : ∃ m, n = m + 1 := ⟨n - 1, by omega⟩
    have h := ih n (j + 1) (by omega) (by omega) (by omega)
    have ni : (nI i).toNatClampNeg = i := nI_clamp (by omega)
    have nj : (nI j).toNatClampNeg = j := nI_clamp (by omega)
    rw [fX8_turnedBy_L23, if_neg (show ¬ x1 ≤ nI j by rw [hN, pu_le, nI_toInt (by omega), nI_toInt (by omega)]; omega), pu_if (nI_ix (show j < 24 by omega) (by decide)), pu_if (nI_ix (show i < 24 by omega) (by decide)), ni, nj, hd i hi, hd j (by omega)]
    unfold fX8_turnedBy_J52
    rw [pu_st, pu_st, nI_1, nI_1, i_add0]
    rw [rwt, if_pos e0, pc] at h
    by_cases q : d i ≤ d j
    · rw [if_pos q] at h
      rw [if_pos q]; exact h
    · rw [if_neg q] at h
      rw [if_neg q]; exact h
theorem tb_2 {x1 : Int32} {ν : la_Mem} {d : Nat → Int32} {N : Nat} (hN : x1 = nI N) (hN2 : N ≤ 24) (hd : ∀ j, j < N → ν 20 j = d j) : ∀ (k n i : Nat), i + k = N → k < n → fX8_turnedBy_L11 x1 ν n (nI (rst d N i)) (nI i) = some (nI (rst d N N)) := by
  intro k
  induction k with
  | zero =>
    intro n i e1 e2
    obtain ⟨n, rfl⟩ : ∃ m, n = m + 1 := ⟨n - 1, by omega⟩
    have hj : i = N := by omega
    subst hj
    rw [fX8_turnedBy_L11, if_pos (show x1 ≤ nI i by rw [hN, pu_le]; omega)]
  | succ k ih =>
    intro n i e1 e2
    obtain ⟨n, rfl⟩ : ∃ m, n = m + 1 := ⟨n - 1, by omega⟩
    have h1 := tb_1 hN hN2 (show i < N by omega) hd (rst d N i) (N - (i + 1)) 400 (i + 1) (by omega) (by omega) (by omega)
    rw [rwt_0 d i (i + 1) (by omega), Nat.add_zero] at h1
    rw [fX8_turnedBy_L11, if_neg (show ¬ x1 ≤ nI i by rw [hN, pu_le, nI_toInt (by omega), nI_toInt (by omega)]; omega), pu_st, nI_1, h1, Option.bind_some]
    exact ih n (i + 1) (by omega) (by omega)
theorem tu_P {x4 g : Int32} {N : Nat} {μ ν : la_Mem} (hN : x4 = nI N) (hN1 : 1 ≤ N) (hN2 : N ≤ 24) (hr : Rl μ ν) (hw : RW μ ν N) : ∃ (r : Int32) (ν' : la_Mem), fX7_turnedPairs x4 g μ = some r ∧ fX8_turnedBy x4 g ν = some (r, ν') ∧ Rl μ ν' ∧ RW μ ν' N := by
  obtain ⟨ν', r1, r2, r3, r4⟩ := ly_ok (g := g) hN hN2 hr hw
  refine ⟨nI (cst (du μ g) N), ν', ?_, ?_, r2, r3⟩
  · unfold fX7_turnedPairs
    rw [show fX7_turnedPairs_L5 x4 g μ 400 0 1 = _ from tp_2 hN hN2 (N - 1) 400 1 (by omega) (by omega)]
    rfl
  · unfold fX8_turnedBy
    rw [r1, Option.bind_some, show fX8_turnedBy_L11 x4 ν' 400 0 0 = _ from tb_2 (d := du μ g) hN hN2 r4 N 400 0 (by omega) (by omega), Option.bind_some, rst_cst]
theorem st_turned (x1 x2 x3 x4 x5 : Int32) (μ ν : la_Mem) (h : Iv μ ν) : ∃ (r : Int32) (μ' ν' : la_Mem), fX7_turned x1 x2 x3 x4 x5 μ = some (r, μ') ∧ fX8_turned x1 x2 x3 x4 x5 ν = some (r, ν') ∧ Iv μ' ν' := by
  obtain ⟨hc, hr⟩ := h
  unfold fX7_turned fX8_turned
  by_cases hg : 1 ≤ x5.toInt ∧ x5.toInt ≤ 30
  · have eg : fX7_isGap x5 μ = some 1 := by
      unfold fX7_isGap
      rw [if_neg (show ¬ x5 < 1 by rw [pu_lt, z1]; omega), if_neg (show ¬ 30 < x5 by rw [pu_lt, z30]; omega)]
    rw [eg, Option.bind_some, if_neg nz1]
    by_cases hv : (0 ≤ x1.toInt ∧ x1.toInt < 4) ∧ (0 ≤ x2.toInt ∧ x2.toInt < 3) ∧ 1 ≤ x4.toInt ∧ x4.toInt ≤ 24
    · obtain ⟨N, N1, N2, N3⟩ := asN (show 0 ≤ x4.toInt by omega) (show x4.toInt ≤ (24 : Nat) by omega) (by decide)
      rw [isRow_t hv.1 hv.2.1 hv.2.2 hg, Option.bind_some, if_neg nz1]
      obtain ⟨r, μ', ν', r1, r2, r3, r4⟩ := row_P (x3 := x3) μ ν hc hr hv.1 hv.2.1 N2 (by omega) N1
      rw [r1, r2, pu_b2, pu_b2]
      rcases r4 with ⟨r0, hw⟩ | ⟨q0, q1⟩
      · subst r0
        obtain ⟨z, ν2, w1, w2, w3, w4⟩ := tu_P (g := x5) N2 (by omega) N1 r3.2 hw
        rw [if_pos rfl, if_pos (by decide), w1, w2, pu_b2, Option.bind_some]
        exact ⟨_, _, _, rfl, rfl, r3.1, w3⟩
      · rw [if_neg q0, if_neg q1]
        exact ⟨_, _, _, rfl, rfl, r3⟩
    · rw [row_f μ hv, isRow_f (fun q => hv ⟨q.1, q.2.1, q.2.2.1⟩), pu_b2, Option.bind_some, if_pos rfl, if_neg (by decide)]
      exact ⟨_, _, _, rfl, rfl, hc, hr⟩
  · have eg : fX7_isGap x5 μ = some 0 := by
      unfold fX7_isGap
      by_cases q1 : x5 < 1
      · rw [if_pos q1]
      · rw [if_neg q1, if_pos (show 30 < x5 by rw [pu_lt, z1] at q1; rw [pu_lt, z30]; omega)]
    rw [eg, isRow_f (fun q => hg q.2.2.2), Option.bind_some, Option.bind_some, if_pos rfl, if_pos rfl]
    exact ⟨_, _, _, rfl, rfl, hc, hr⟩
theorem gp_P {x4 : Int32} {N : Nat} {μ : la_Mem} (hN : x4 = nI N) (hN1 : 1 ≤ N) (hN2 : N ≤ 24) (hc : CI μ) : ∀ (k n i : Nat) (ν : la_Mem), i + k = 31 → k < n → Rl μ ν → RW μ ν N → ∃ ν' : la_Mem, Rl μ ν' ∧ ((∃ r : Int32, fX7_gap_L22 x4 μ n (nI i) = some (.inl (r, μ)) ∧ fX8_gap_L35 x4 n (nI i) ν = some (.inl (r, ν'))) ∨ (fX7_gap_L22 x4 μ n (nI i) = some (.inr ()) ∧ fX8_gap_L35 x4 n (nI i) ν = some (.inr ν'))) := by
  intro k
  induction k with
  | zero =>
    intro n i ν e1 e2 hr hw
    obtain ⟨n, rfl⟩ : ∃ m, n = m + 1 := ⟨n - 1, by omega⟩
    have hi : i = 31 := by omega
    subst hi
    exact ⟨ν, hr, Or.inr ⟨by rw [fX7_gap_L22, if_pos (by decide)], by rw [fX8_gap_L35, if_pos (by decide)]⟩⟩
  | succ k ih =>
    intro n i ν e1 e2 hr hw
    obtain ⟨n, rfl⟩ : ∃ m, n = m + 1 := ⟨n - 1, by omega⟩
    obtain ⟨z, ν2, w1, w2, w3, w4⟩ := tu_P (g := nI i) hN hN1 hN2 hr hw
    have hle : ¬ (30 : Int32) < nI i := by rw [pu_lt, nI_toInt (by omega), z30]; omega
    rw [fX7_gap_L22, fX8_gap_L35, if_neg hle, if_neg hle, w1, w2, Option.bind_some, pu_b2]
    by_cases q : z = 0
    · rw [if_pos q, if_pos q]
      exact ⟨ν2, w3, Or.inl ⟨_, rfl, rfl⟩⟩
    · rw [if_neg q, if_neg q, nI_1]
      exact ih n (i + 1) ν2 (by omega) (by omega) w3 w4
theorem st_gap (x1 x2 x3 x4 : Int32) (μ ν : la_Mem) (h : Iv μ ν) : ∃ (r : Int32) (μ' ν' : la_Mem), fX7_gap x1 x2 x3 x4 μ = some (r, μ') ∧ fX8_gap x1 x2 x3 x4 ν = some (r, ν') ∧ Iv μ' ν' := by
  obtain ⟨hc, hr⟩ := h
  unfold fX7_gap fX8_gap
  by_cases hv : (0 ≤ x1.toInt ∧ x1.toInt < 4) ∧ (0 ≤ x2.toInt ∧ x2.toInt < 3) ∧ 1 ≤ x4.toInt ∧ x4.toInt ≤ 24
  · obtain ⟨N, N1, N2, N3⟩ := asN (show 0 ≤ x4.toInt by omega) (show x4.toInt ≤ (24 : Nat) by omega) (by decide)
    rw [isRow_t hv.1 hv.2.1 hv.2.2 ⟨by decide, by decide⟩, Option.bind_some, if_neg nz1]
    obtain ⟨r, μ', ν', r1, r2, r3, r4⟩ := row_P (x3 := x3) μ ν hc hr hv.1 hv.2.1 N2 (by omega) N1
    rw [r1, r2, pu_b2, pu_b2]
    rcases r4 with ⟨r0, hw⟩ | ⟨q0, q1⟩
    · subst r0
      rw [if_pos rfl, if_pos (by decide)]
      obtain ⟨ν2, w3, ⟨z, w1, w2⟩ | ⟨w1, w2⟩⟩ := gp_P N2 (by omega) N1 r3.1 30 400 1 ν' (by omega) (by omega) r3.2 hw
      · rw [show fX7_gap_L22 x4 μ' 400 1 = _ from w1, show fX8_gap_L35 x4 400 1 ν' = _ from w2, pu_x0l, pu_x1l]
        exact ⟨_, _, _, rfl, rfl, r3.1, w3⟩
      · rw [show fX7_gap_L22 x4 μ' 400 1 = _ from w1, show fX8_gap_L35 x4 400 1 ν' = _ from w2, pu_x0r, pu_x1r]
        exact ⟨_, _, _, rfl, rfl, r3.1, w3⟩
    · rw [if_neg q0, if_neg q1]
      exact ⟨_, _, _, rfl, rfl, r3⟩
  · rw [row_f μ hv, isRow_f (fun q => hv ⟨q.1, q.2.1, q.2.2.1⟩), pu_b2, Option.bind_some, if_pos rfl, if_neg (by decide)]
    exact ⟨_, _, _, rfl, rfl, hc, hr⟩
