def pr (d : Nat → Int32) (i j : Nat) : Nat := if (d j).toInt < (d i).toInt ∨ ((d j).toInt = (d i).toInt ∧ j < i) then 1 else 0
def rk (d : Nat → Int32) (i : Nat) : Nat → Nat | 0 => 0 | n + 1 => rk d i n + pr d i n
theorem rk_le (d : Nat → Int32) (i : Nat) : ∀ n, rk d i n ≤ n
  | 0 => Nat.le_refl 0
  | n + 1 => by
    have := rk_le d i n
    rw [rk, pr]
    split <;> omega
theorem rk_mono {d : Nat → Int32} {i j : Nat} (h : (d i).toInt < (d j).toInt ∨ ((d i).toInt = (d j).toInt ∧ i < j)) : ∀ n, rk d i n + (if i < n then 1 else 0) ≤ rk d j n
  | 0 => by rw [if_neg (by omega)]; exact Nat.le_refl 0
  | n + 1 => by
    have ih := rk_mono h n
    rw [rk, rk, pr, pr]
    by_cases e : n = i
    · subst e
      rw [if_neg (show ¬ ((d n).toInt < (d n).toInt ∨ ((d n).toInt = (d n).toInt ∧ n < n)) by omega), if_pos (show n < n + 1 by omega), if_pos (show ((d n).toInt < (d j).toInt ∨ ((d n).toInt = (d j).toInt ∧ n < j)) from h)]
      rw [if_neg (show ¬ n < n by omega)] at ih
      omega
    · by_cases q : (d n).toInt < (d i).toInt ∨ ((d n).toInt = (d i).toInt ∧ n < i)
      · rw [if_pos q, if_pos (show ((d n).toInt < (d j).toInt ∨ ((d n).toInt = (d j).toInt ∧ n < j)) by omega)]
        by_cases q2 : i < n
        · rw [if_pos q2] at ih; rw [if_pos (by omega)]; omega
        · rw [if_neg q2] at ih; rw [if_neg (by omega)]; omega
      · rw [if_neg q]
        by_cases q2 : i < n
        · rw [if_pos q2] at ih; rw [if_pos (show i < n + 1 by omega)]; omega
        · rw [if_neg q2] at ih; rw [if_neg (show ¬ i < n + 1 by omega)]; omega
theorem rk_inj {d : Nat → Int32} {i j n : Nat} (hi : i < n) (hj : j < n) (h : rk d i n = rk d j n) : i = j := by
  by_cases e : i = j
  · exact e
  · by_cases q : (d i).toInt < (d j).toInt ∨ ((d i).toInt = (d j).toInt ∧ i < j)
    · have := rk_mono q n
      rw [if_pos hi] at this
      omega
    · have := rk_mono (d := d) (i := j) (j := i) (by omega) n
      rw [if_pos hj] at this
      omega
theorem kc_1 {x2 g : Int32} {μ : la_Mem} {N i : Nat} (hN : x2 = nI N) (hN2 : N ≤ 24) (hi : i < N) : ∀ (k n j : Nat), j + k = N → k < n → fX7_comersAheadOf_L6 (nI i) x2 g μ n (nI (rk (du μ g) i j)) (nI j) = some (nI (rk (du μ g) i N)) := by
  intro k
  induction k with
  | zero =>
    intro n j e1 e2
    obtain ⟨n, rfl⟩ : ∃ m, n = m + 1 := ⟨n - 1, by omega⟩
    have hj : j = N := by omega
    subst hj
    rw [fX7_comersAheadOf_L6, if_pos (show x2 ≤ nI j by rw [hN, pu_le]; omega)]
  | succ k ih =>
    intro n j e1 e2
    obtain ⟨n, rfl⟩ : ∃ m, n = m + 1 := ⟨n - 1, by omega⟩
    have h := ih n (j + 1) (by omega) (by omega)
    rw [rk, pr] at h
    have ti : (nI i).toInt = i := nI_toInt (by omega)
    have tj : (nI j).toInt = j := nI_toInt (by omega)
    rw [fX7_comersAheadOf_L6, if_neg (show ¬ x2 ≤ nI j by rw [hN, pu_le, nI_toInt (by omega), tj]; omega), ca_c (show i < 24 by omega) (show j < 24 by omega), ca_c (show j < 24 by omega) (show i < 24 by omega), Option.bind_some, Option.bind_some]
    unfold fX7_comersAheadOf_J58 fX7_comersAheadOf_J59 fX7_comersAheadOf_J69
    rw [nI_1, nI_1, if_pos rfl, if_neg nz1]
    by_cases q1 : i ≤ j
    · rw [if_pos (show nI i ≤ nI j by rw [pu_le]; omega)]
      by_cases q2 : j ≤ i
      · have e : j = i := by omega
        subst e
        rw [if_neg (by omega)] at h
        rw [if_pos (show nI j ≤ nI j by rw [pu_le]; omega)]; exact h
      · rw [if_neg (show ¬ nI j ≤ nI i by rw [pu_le]; omega)]
        by_cases q3 : du μ g i ≤ du μ g j
        · rw [if_neg (by rw [pu_le] at q3; omega)] at h
          rw [if_pos q3, if_pos rfl]; exact h
        · rw [if_pos (by rw [pu_le] at q3; omega)] at h
          rw [if_neg q3, if_neg nz1]; exact h
    · rw [if_neg (show ¬ nI i ≤ nI j by rw [pu_le]; omega)]
      by_cases q3 : du μ g j ≤ du μ g i
      · rw [if_pos (by rw [pu_le] at q3; omega)] at h
        rw [if_pos q3, if_pos rfl]; exact h
      · rw [if_neg (by rw [pu_le] at q3; omega)] at h
        rw [if_neg q3, if_neg nz1]; exact h
theorem kc_2 {x4 x6 x8 : Int32} {ν : la_Mem} {d : Nat → Int32} {N i : Nat} (hN : x4 = nI N) (hN2 : N ≤ 24) (hi : i < N) (hd : ∀ j, j < N → ν 20 j = d j) : ∀ (k n j : Nat), j + k = N → k < n → fX8_comes_L76 x4 x6 x8 (nI i) ν n (nI (rk d i j)) (nI j) = some (nI (rk d i N)) := by
  intro k
  induction k with
  | zero =>
    intro n j e1 e2
    obtain ⟨n, rfl⟩ : ∃ m, n = m + 1 := ⟨n - 1, by omega⟩
    have hj : j = N := by omega
    subst hj
    rw [fX8_comes_L76, if_pos (show x4 ≤ nI j by rw [hN, pu_le]; omega)]
  | succ k ih =>
    intro n j e1 e2
    obtain ⟨n, rfl⟩ : ∃ m, n = m + 1 := ⟨n - 1, by omega⟩
    have h := ih n (j + 1) (by omega) (by omega)
    rw [rk, pr] at h
    have ti : (nI i).toInt = i := nI_toInt (by omega)
    have tj : (nI j).toInt = j := nI_toInt (by omega)
    have ixi : la_ix (nI i) 24 = true := nI_ix (by omega) (by decide)
    have ixj : la_ix (nI j) 24 = true := nI_ix (by omega) (by decide)
    have ni : (nI i).toNatClampNeg = i := nI_clamp (by omega)
    have nj : (nI j).toNatClampNeg = j := nI_clamp (by omega)
    rw [fX8_comes_L76, if_neg (show ¬ x4 ≤ nI j by rw [hN, pu_le, nI_toInt (by omega), tj]; omega)]
    unfold fX8_comes_J126 fX8_comes_J130 fX8_comes_J131
    simp only [pu_if ixi, pu_if ixj, pu_st, ni, nj, hd i hi, hd j (show j < N by omega), nI_1, i_add0]
    by_cases q1 : d j < d i
    · rw [if_pos (by rw [pu_lt] at q1; omega)] at h
      rw [if_pos q1]; exact h
    · rw [if_neg q1]
      by_cases q2 : d j = d i
      · rw [if_pos q2]
        by_cases q3 : i ≤ j
        · rw [if_neg (by rw [pu_lt] at q1; omega)] at h
          rw [if_pos (show nI i ≤ nI j by rw [pu_le]; omega)]; exact h
        · rw [if_pos (by rw [pu_eq] at q2; omega)] at h
          rw [if_neg (show ¬ nI i ≤ nI j by rw [pu_le]; omega)]; exact h
      · rw [if_neg (by rw [pu_eq] at q2; rw [pu_lt] at q1; omega)] at h
        rw [if_neg q2]; exact h
theorem kc_3 {x4 x6 g : Int32} {μ ν : la_Mem} {N : Nat} (hN : x4 = nI N) (hN2 : N ≤ 24) (hd : ∀ j, j < N → ν 20 j = du μ g j) : ∀ (k n i : Nat) (x8 : Int32), i + k = N → k < n → ((∀ j, i ≤ j → j < N → ¬ nI (rk (du μ g) j N) = x6) → fX7_keyThatComes_L3 x4 g x6 μ n (nI i) = some (.inr ()) ∧ fX8_comes_L63 x4 x6 ν n x8 (nI i) = some x8) ∧ (∀ m, i ≤ m → m < N → nI (rk (du μ g) m N) = x6 → (∀ j, j < N → nI (rk (du μ g) j N) = x6 → j = m) → fX7_keyThatComes_L3 x4 g x6 μ n (nI i) = some (.inl (nI m)) ∧ fX8_comes_L63 x4 x6 ν n x8 (nI i) = some (nI m)) := by
  intro k
  induction k with
  | zero =>
    intro n i x8 e1 e2
    obtain ⟨n, rfl⟩ : ∃ m, n = m + 1 := ⟨n - 1, by omega⟩
    have hle : x4 ≤ nI i := by rw [hN, pu_le]; rw [show i = N by omega]; omega
    exact ⟨fun _ => ⟨by rw [fX7_keyThatComes_L3, if_pos hle], by rw [fX8_comes_L63, if_pos hle]⟩, fun m h1 h2 => by omega⟩
  | succ k ih =>
    intro n i x8 e1 e2
    obtain ⟨n, rfl⟩ : ∃ m, n = m + 1 := ⟨n - 1, by omega⟩
    have hle : ¬ x4 ≤ nI i := by rw [hN, pu_le, nI_toInt (by omega), nI_toInt (by omega)]; omega
    have c1 := kc_1 (g := g) (μ := μ) hN hN2 (show i < N by omega) N 400 0 (by omega) (by omega)
    have c2 := kc_2 (x6 := x6) (x8 := x8) hN hN2 (show i < N by omega) hd N 400 0 (by omega) (by omega)
    rw [fX7_keyThatComes_L3, fX8_comes_L63, if_neg hle, if_neg hle]
    unfold fX7_comersAheadOf fX8_comes_J154
    rw [show fX7_comersAheadOf_L6 (nI i) x4 g μ 400 0 0 = _ from c1, Option.bind_some, Option.bind_some, show fX8_comes_L76 x4 x6 x8 (nI i) ν 400 0 0 = _ from c2, Option.bind_some, nI_1]
    by_cases q : nI (rk (du μ g) i N) = x6
    · rw [if_pos q, if_pos q]
      refine ⟨fun h => absurd q (h i (by omega) (by omega)), fun m m1 m2 m3 m4 => ?_⟩
      have em := m4 i (by omega) q
      subst em
      refine ⟨rfl, ((ih n (i + 1) (nI i) (by omega) (by omega)).1 (fun j j1 j2 j3 => ?_)).2⟩
      have := m4 j j2 j3
      omega
    · rw [if_neg q, if_neg q]
      refine ⟨fun h => (ih n (i + 1) x8 (by omega) (by omega)).1 (fun j j1 j2 => h j (by omega) j2), fun m m1 m2 m3 m4 => ?_⟩
      refine (ih n (i + 1) x8 (by omega) (by omega)).2 m ?_ m2 m3 m4
      have : i ≠ m := fun e => q (by rw [e]; exact m3)
      omega
theorem kc_P {x4 x6 g : Int32} {μ ν : la_Mem} {N : Nat} (hN : x4 = nI N) (hN2 : N ≤ 24) (hd : ∀ j, j < N → ν 20 j = du μ g j) : ∃ r : Int32, fX7_keyThatComes x4 g x6 μ = some r ∧ fX8_comes_L63 x4 x6 ν 400 (-4) 0 = some r := by
  obtain ⟨p1, p2⟩ := kc_3 (x6 := x6) hN hN2 hd N 400 0 (-4) (by omega) (by omega)
  unfold fX7_keyThatComes
  by_cases h : ∃ m, m < N ∧ nI (rk (du μ g) m N) = x6
  · obtain ⟨m, m1, m2⟩ := h
    obtain ⟨r1, r2⟩ := p2 m (by omega) m1 m2 (fun j j1 j2 => by
      have l1 := rk_le (du μ g) j N
      have l2 := rk_le (du μ g) m N
      rw [← m2, pu_eq, nI_toInt (by omega), nI_toInt (by omega)] at j2
      exact rk_inj (d := du μ g) j1 m1 (by omega))
    exact ⟨nI m, by rw [show fX7_keyThatComes_L3 x4 g x6 μ 400 0 = _ from r1]; rfl, r2⟩
  · obtain ⟨r1, r2⟩ := p1 (fun j _ j1 j2 => h ⟨j, j1, j2⟩)
    exact ⟨-4, by rw [show fX7_keyThatComes_L3 x4 g x6 μ 400 0 = _ from r1]; rfl, r2⟩
theorem st_comes (x1 x2 x3 x4 x5 x6 : Int32) (μ ν : la_Mem) (h : Iv μ ν) : ∃ (r : Int32) (μ' ν' : la_Mem), fX7_comes x1 x2 x3 x4 x5 x6 μ = some (r, μ') ∧ fX8_comes x1 x2 x3 x4 x5 x6 ν = some (r, ν') ∧ Iv μ' ν' := by
  obtain ⟨hc, hr⟩ := h
  unfold fX7_comes fX8_comes
  by_cases hg : 1 ≤ x5.toInt ∧ x5.toInt ≤ 30
  · have eg : fX7_isGap x5 μ = some 1 := by
      unfold fX7_isGap
      rw [if_neg (show ¬ x5 < 1 by rw [pu_lt, z1]; omega), if_neg (show ¬ 30 < x5 by rw [pu_lt, z30]; omega)]
    rw [eg, Option.bind_some, if_neg nz1]
    by_cases hv : (0 ≤ x1.toInt ∧ x1.toInt < 4) ∧ (0 ≤ x2.toInt ∧ x2.toInt < 3) ∧ 1 ≤ x4.toInt ∧ x4.toInt ≤ 24
    · obtain ⟨N, N1, N2, N3⟩ := asN (show 0 ≤ x4.toInt by omega) (show x4.toInt ≤ (24 : Nat) by omega) (by decide)
      have e4 : (x4 - 1).toInt = x4.toInt - 1 := dec1 (by omega) (by omega)
      rw [isRow_t hv.1 hv.2.1 hv.2.2 hg, Option.bind_some, if_neg nz1]
      by_cases h6 : 0 ≤ x6.toInt ∧ x6.toInt ≤ x4.toInt - 1
      · rw [in_t 0 (x4.toInt - 1) rfl (by rw [Int32.toInt_toInt64, e4]) h6.1 h6.2, Option.bind_some, if_neg nz1, if_neg (show ¬ x6 < 0 by rw [pu_lt, z0]; omega), if_pos (show x6 < x4 by rw [pu_lt]; omega)]
        obtain ⟨r, μ', ν', r1, r2, r3, r4⟩ := row_P (x3 := x3) μ ν hc hr hv.1 hv.2.1 N2 (by omega) N1
        rw [r1, r2, pu_b2, pu_b2]
        rcases r4 with ⟨r0, hw⟩ | ⟨q0, q1⟩
        · subst r0
          obtain ⟨ν2, l1, l2, l3, l4⟩ := ly_ok (g := x5) N2 N1 r3.2 hw
          obtain ⟨z, w1, w2⟩ := kc_P (x6 := x6) (g := x5) (μ := μ') (ν := ν2) N2 N1 l4
          rw [if_pos rfl, if_pos (by decide), w1, l1, Option.bind_some, Option.bind_some, w2, Option.bind_some]
          exact ⟨_, _, _, rfl, rfl, r3.1, l2⟩
        · rw [if_neg q0, if_neg q1]
          exact ⟨_, _, _, rfl, rfl, r3⟩
      · rw [in_f 0 (x4.toInt - 1) rfl (by rw [Int32.toInt_toInt64, e4]) h6, Option.bind_some, if_pos rfl]
        refine ⟨-1, μ, ν, ?_, rfl, hc, hr⟩
        by_cases q1 : x6 < 0
        · rw [if_pos q1]
        · rw [if_neg q1, if_neg (show ¬ x6 < x4 by rw [pu_lt, z0] at q1; rw [pu_lt]; omega)]
    · rw [row_f μ hv, isRow_f (fun q => hv ⟨q.1, q.2.1, q.2.2.1⟩), pu_b2, Option.bind_some, if_pos rfl, if_neg (show ¬ (-1 : Int32) = 0 by decide)]
      refine ⟨-1, μ, ν, ?_, rfl, hc, hr⟩
      split
      · rfl
      · split <;> rfl
  · have eg : fX7_isGap x5 μ = some 0 := by
      unfold fX7_isGap
      by_cases q1 : x5 < 1
      · rw [if_pos q1]
      · rw [if_neg q1, if_pos (show 30 < x5 by rw [pu_lt, z1] at q1; rw [pu_lt, z30]; omega)]
    rw [eg, isRow_f (fun q => hg q.2.2.2), Option.bind_some, Option.bind_some, if_pos rfl, if_pos rfl]
    exact ⟨_, _, _, rfl, rfl, hc, hr⟩
