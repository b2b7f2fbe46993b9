/-! rows of keys -/
def RW (μ ν : la_Mem) (N : Nat) : Prop := ∀ i, i < N → Bd (μ 27 i) 0 20 ∧ ∀ ν2 : la_Mem, ν2 4 = μ 25 → fX8_reachOf (ν 19 i) ν2 = some (μ 27 i)
theorem rr_P {x1 x3 x4 : Int32} {C N : Nat} (h1 : 0 ≤ x1.toInt) (h2 : x1.toInt < 4) (hC : x3.toInt = C) (hN : x4 = nI N) (hN2 : N ≤ 24) (hCN : C + N ≤ 40) : ∀ (k n i : Nat) (μ ν : la_Mem), i + k = N → k + 1 < n → CI μ → Rl μ ν → RW μ ν i → (∃ μ' ν', fX7_readRow_L48 x1 x3 x4 n (nI i) μ = some (.inl (-2, μ')) ∧ fX8_takes_L14 x1 x3 x4 n 0 (nI i) ν = some (-2, ν') ∧ Iv μ' ν') ∨ (∃ μ' ν', fX7_readRow_L48 x1 x3 x4 n (nI i) μ = some (.inr μ') ∧ fX8_takes_L14 x1 x3 x4 n 0 (nI i) ν = some (0, ν') ∧ Iv μ' ν' ∧ RW μ' ν' N) := by
  have hs := pu_cl (n := 4) h1 h2
  intro k
  induction k with
  | zero =>
    intro n i μ ν e1 e2 hc hr hw
    obtain ⟨n, rfl⟩ : ∃ m, n = m + 1 := ⟨n - 1, by omega⟩
    have hi : i = N := by omega
    subst hi
    have hle : x4 ≤ nI i := by rw [hN, pu_le]; omega
    exact Or.inr ⟨μ, ν, by rw [fX7_readRow_L48, if_pos hle], by rw [fX8_takes_L14, if_pos hle], ⟨hc, hr⟩, hw⟩
  | succ k ih =>
    intro n i μ ν e1 e2 hc hr hw
    obtain ⟨n, rfl⟩ : ∃ m, n = m + 2 := ⟨n - 2, by omega⟩
    have hle : ¬ x4 ≤ nI i := by rw [hN, pu_le, nI_toInt (by omega), nI_toInt (by omega)]; omega
    obtain ⟨y1, y2, y3, y4⟩ := sheet_ix (i := i) h1 h2 hC (by omega)
    have hit := rl_item hr hs (show C + i < 40 by omega)
    have ix : la_ix (nI i) 24 = true := nI_ix (by omega) (by decide)
    have ni : (nI i).toNatClampNeg = i := nI_clamp (by omega)
    rw [fX7_readRow_L48, fX8_takes_L14, if_neg hle, if_neg hle, if_pos rfl, pu_if y1, pu_if y3, pu_st, pu_if ix, pu_st, pu_if ix, y2, y4, ni, hit]
    unfold fX8_takes_J71 fX7_readRow_J82 fX7_readRow_J106
    simp only [pu_if ix, pu_st, ni, nI_1, la_ms_self, pk_us]
    generalize hv : μ (28 + x1.toNatClampNeg + 4) (C + i) = v
    have step : ∀ w : Int32, Bd w 0 20 → (∀ ν2 : la_Mem, ν2 4 = μ 25 → fX8_reachOf v ν2 = some w) → (∃ μ' ν', fX7_readRow_L48 x1 x3 x4 (n + 1) (nI (i + 1)) (la_ms μ 27 i w) = some (.inl (-2, μ')) ∧ fX8_takes_L14 x1 x3 x4 (n + 1) 0 (nI (i + 1)) (la_ms ν 19 i v) = some (-2, ν') ∧ Iv μ' ν') ∨ (∃ μ' ν', fX7_readRow_L48 x1 x3 x4 (n + 1) (nI (i + 1)) (la_ms μ 27 i w) = some (.inr μ') ∧ fX8_takes_L14 x1 x3 x4 (n + 1) 0 (nI (i + 1)) (la_ms ν 19 i v) = some (0, ν') ∧ Iv μ' ν' ∧ RW μ' ν' N) := by
      intro w w1 w2
      refine ih (n + 1) (i + 1) _ _ (by omega) (by omega) (ci_free (by omega) hc) (rw_rr (rw_keys hr i v) i w) ?_
      intro j hj
      rw [la_ms_self, la_ms_self, pu_msr (show 25 ≠ 27 by decide)]
      by_cases e : j = i
      · subst e; rw [pk_us, pk_us]; exact ⟨w1, w2⟩
      · rw [pk_un e, pk_un e]; exact hw j (by omega)
    by_cases q1 : 0 ≤ v.toInt ∧ v.toInt < 12
    · have n12 : ¬ v = 12 := by rw [pu_eq, z12]; omega
      have ixv : la_ix v 12 = true := pu_ix.mpr q1
      rw [isPlace_t q1.1 q1.2, in_t 0 12 rfl rfl q1.1 (by omega), Option.bind_some, Option.bind_some, if_neg nz1, if_neg nz1, if_neg n12, pu_if ixv]
      refine step _ (hc.1.1 _ (pu_cl (n := 12) q1.1 q1.2)).2.2.2 (fun ν2 h4 => ?_)
      unfold fX8_reachOf
      rw [if_neg n12, pu_if ixv, h4]
    · by_cases q2 : v = 12
      · rw [isPlace_f q1, in_t 0 12 rfl rfl (by rw [q2]; decide) (by rw [q2]; decide), Option.bind_some, Option.bind_some, if_pos rfl, if_neg nz1, if_pos q2, if_pos q2]
        refine step 0 ⟨by decide, by decide⟩ (fun ν2 h4 => ?_)
        unfold fX8_reachOf
        rw [if_pos q2]
      · rw [isPlace_f q1, in_f 0 12 rfl rfl (fun q => by rw [pu_eq, z12] at q2; omega), Option.bind_some, Option.bind_some, if_pos rfl, if_pos rfl, if_neg q2]
        refine Or.inl ⟨μ, la_ms ν 19 i v, rfl, ?_, hc, rw_keys hr i v⟩
        rw [fX8_takes_L14]
        by_cases q3 : x4 ≤ nI (i + 1)
        · rw [if_pos q3]
        · rw [if_neg q3, if_neg (by decide)]
theorem row_P {x1 x2 x3 x4 : Int32} {N : Nat} (μ ν : la_Mem) (hc : CI μ) (hr : Rl μ ν) (ha : 0 ≤ x1.toInt ∧ x1.toInt < 4) (hb : 0 ≤ x2.toInt ∧ x2.toInt < 3) (hN : x4 = nI N) (hN1 : 1 ≤ N) (hN2 : N ≤ 24) : ∃ (r : Int32) (μ' ν' : la_Mem), fX7_readRow x1 x2 x3 x4 μ = some (r, μ') ∧ fX8_takes x1 x2 x3 x4 ν = some (r, ν') ∧ Iv μ' ν' ∧ ((r = 0 ∧ RW μ' ν' N) ∨ (¬ r = 0 ∧ ¬ 0 ≤ r)) := by
  have eN : x4.toInt = N := by rw [hN, nI_toInt (by omega)]
  have ix : la_ix x1 4 = true := pu_ix.mpr ha
  have hs := pu_cl (n := 4) ha.1 ha.2
  have hz := CZ_of hc hs
  unfold fX7_readRow fX8_takes
  rw [if_neg (show ¬ x4 < 1 by rw [pu_lt, z1]; omega), if_pos (show x4 ≤ 24 by rw [pu_le, z24]; omega), fault_c hc (x3 := x3) (x4 := x4) ha.1 ha.2 hb.1 hb.2 (by omega), fault_m hc hr (x2 := x2) (x3 := x3) (x4 := x4) ha.1 ha.2, Option.bind_some, Option.bind_some]
  rcases flt_cases μ x1.toNatClampNeg x2 x3 x4 with ⟨q0, q1, q2, q3, q4⟩ | ⟨q0, q1⟩
  · have := hz.2.2.2
    obtain ⟨C, C1, C2, C3⟩ := asN q3 (show x3.toInt ≤ (40 : Nat) by omega) (by decide)
    rw [q0, if_pos rfl, pu_if ix]
    rcases rr_P ha.1 ha.2 C3.symm hN hN2 (by omega) N 400 0 μ ν (by omega) (by omega) hc hr (fun i hi => by omega) with ⟨μ', ν', r1, r2, r3⟩ | ⟨μ', ν', r1, r2, r3, r4⟩
    · rw [show fX7_readRow_L48 x1 x3 x4 400 0 μ = _ from r1, show fX8_takes_L14 x1 x3 x4 400 0 0 ν = _ from r2, pu_x1l, pu_b2]
      exact ⟨-2, μ', ν', rfl, rfl, r3, Or.inr ⟨by decide, by decide⟩⟩
    · rw [show fX7_readRow_L48 x1 x3 x4 400 0 μ = _ from r1, show fX8_takes_L14 x1 x3 x4 400 0 0 ν = _ from r2, pu_x1r, pu_b2]
      exact ⟨0, μ', ν', rfl, rfl, r3, Or.inl ⟨rfl, r4⟩⟩
  · rw [if_neg q0, show (400 : Nat) = 399 + 1 from rfl, fX8_takes_L14, if_neg (show ¬ x4 ≤ 0 by rw [pu_le, z0]; omega), if_neg q0, pu_b2]
    exact ⟨_, μ, ν, rfl, rfl, ⟨hc, hr⟩, Or.inr ⟨q0, q1⟩⟩
theorem row_f {x1 x2 x3 x4 : Int32} (μ : la_Mem) (h : ¬ ((0 ≤ x1.toInt ∧ x1.toInt < 4) ∧ (0 ≤ x2.toInt ∧ x2.toInt < 3) ∧ 1 ≤ x4.toInt ∧ x4.toInt ≤ 24)) : fX7_readRow x1 x2 x3 x4 μ = some (-1, μ) := by
  unfold fX7_readRow fX7_sheetFault
  by_cases q1 : x4 < 1
  · rw [if_pos q1]
  rw [if_neg q1]
  by_cases q2 : x4 ≤ 24
  · rw [if_pos q2]
    rw [pu_lt, z1] at q1
    rw [pu_le, z24] at q2
    by_cases ha : 0 ≤ x1.toInt ∧ x1.toInt < 4
    · rw [isS_t ha.1 ha.2, isLn_f (fun q => h ⟨ha, q, by omega, by omega⟩)]; rfl
    · rw [isS_f ha]; rfl
  · rw [if_neg q2]
theorem isRow_t {x1 x2 x4 x5 : Int32} {ν : la_Mem} (ha : 0 ≤ x1.toInt ∧ x1.toInt < 4) (hb : 0 ≤ x2.toInt ∧ x2.toInt < 3) (h4 : 1 ≤ x4.toInt ∧ x4.toInt ≤ 24) (h5 : 1 ≤ x5.toInt ∧ x5.toInt ≤ 30) : fX8_isRow x1 x2 x4 x5 ν = some 1 := by
  unfold fX8_isRow
  rw [mS_t ha.1 ha.2, mL_t hb.1 hb.2, in_t 1 24 rfl rfl h4.1 h4.2, in_t 1 30 rfl rfl h5.1 h5.2]
  rfl
theorem isRow_f {x1 x2 x4 x5 : Int32} {ν : la_Mem} (h : ¬ ((0 ≤ x1.toInt ∧ x1.toInt < 4) ∧ (0 ≤ x2.toInt ∧ x2.toInt < 3) ∧ (1 ≤ x4.toInt ∧ x4.toInt ≤ 24) ∧ (1 ≤ x5.toInt ∧ x5.toInt ≤ 30))) : fX8_isRow x1 x2 x4 x5 ν = some 0 := by
  unfold fX8_isRow
  by_cases ha : 0 ≤ x1.toInt ∧ x1.toInt < 4
  · by_cases hb : 0 ≤ x2.toInt ∧ x2.toInt < 3
    · by_cases h4 : 1 ≤ x4.toInt ∧ x4.toInt ≤ 24
      · rw [mS_t ha.1 ha.2, mL_t hb.1 hb.2, in_t 1 24 rfl rfl h4.1 h4.2, in_f 1 30 rfl rfl (fun q => h ⟨ha, hb, h4, q⟩)]; rfl
      · rw [mS_t ha.1 ha.2, mL_t hb.1 hb.2, in_f 1 24 rfl rfl h4]; rfl
    · rw [mS_t ha.1 ha.2, mL_f hb]; rfl
  · rw [mS_f ha]; rfl
theorem wt_P {x4 : Int32} {N : Nat} {μ ν : la_Mem} (hr : Rl μ ν) (hN : x4 = nI N) (hN2 : N ≤ 24) (hw : RW μ ν N) : ∀ (k n i : Nat) (x : Int32), 1 ≤ i → i + k = N → k < n → 0 ≤ x.toInt → x.toInt ≤ 20 * i → ∃ r : Int32, fX7_waits_L25 x4 μ n x (nI i) = some r ∧ fX8_waits_L38 x4 ν n x (nI i) = some r := by
  intro k
  induction k with
  | zero =>
    intro n i x e0 e1 e2 _ _
    obtain ⟨n, rfl⟩ : ∃ m, n = m + 1 := ⟨n - 1, by omega⟩
    have hle : x4 ≤ nI i := by rw [hN, pu_le]; rw [show i = N by omega]; omega
    exact ⟨x, by rw [fX7_waits_L25, if_pos hle], by rw [fX8_waits_L38, if_pos hle]⟩
  | succ k ih =>
    intro n i x e0 e1 e2 b0 b1
    obtain ⟨n, rfl⟩ : ∃ m, n = m + 1 := ⟨n - 1, by omega⟩
    obtain ⟨j, rfl⟩ : ∃ j, i = j + 1 := ⟨i - 1, by omega⟩
    have hle : ¬ x4 ≤ nI (j + 1) := by rw [hN, pu_le, nI_toInt (by omega), nI_toInt (by omega)]; omega
    have ix : la_ix (nI (j + 1)) 24 = true := nI_ix (by omega) (by decide)
    have ni : (nI (j + 1)).toNatClampNeg = j + 1 := nI_clamp (by omega)
    have ix2 : la_ix (nI j) 24 = true := nI_ix (by omega) (by decide)
    have ni2 : (nI j).toNatClampNeg = j := nI_clamp (by omega)
    obtain ⟨w1, w2⟩ := hw j (by omega)
    obtain ⟨w3, w4⟩ := hw (j + 1) (by omega)
    rw [fX7_waits_L25, fX8_waits_L38, if_neg hle, if_neg hle, nI_pred, pu_if ix2, pu_if ix2, pu_if ix, pu_st, ni2, ni, w2 ν (rl_reaches hr), Option.bind_some, pu_if ix, w4 ν (rl_reaches hr), Option.bind_some, pu_st]
    unfold fX8_waits_J91
    rw [nI_1]
    generalize μ 27 j = a at *
    generalize μ 27 (j + 1) = b at *
    obtain ⟨a1, a2⟩ := w1
    obtain ⟨a3, a4⟩ := w3
    have eab : (a - b).toInt = a.toInt - b.toInt := fb_subI (by omega) (by omega)
    have exa : (x + a).toInt = x.toInt + a.toInt := fb_addI (by omega) (by omega)
    have exab : (x + a - b).toInt = x.toInt + a.toInt - b.toInt := by rw [fb_subI, exa] <;> rw [exa] <;> omega
    have ex1 : (x + 1).toInt = x.toInt + 1 := inc1 (by omega) (by omega)
    by_cases q : 1 < a - b
    · have q' := q
      rw [pu_lt, z1, eab] at q'
      have e : x + (a - b) = x + a - b := by rw [pu_eq, exab, fb_addI] <;> rw [eab] <;> omega
      rw [if_pos q, if_neg (show ¬ x + a - b ≤ x by rw [pu_le, exab]; omega), e]
      exact ih n (j + 1 + 1) _ (by omega) (by omega) (by omega) (by omega) (by omega)
    · have q' := q
      rw [pu_lt, z1, eab] at q'
      rw [if_neg q]
      by_cases q2 : x + a - b ≤ x
      · rw [if_pos q2]
        exact ih n (j + 1 + 1) _ (by omega) (by omega) (by omega) (by omega) (by omega)
      · have q3 := q2
        rw [pu_le, exab] at q3
        have e : x + a - b = x + 1 := by rw [pu_eq, exab, ex1]; omega
        rw [if_neg q2, e]
        exact ih n (j + 1 + 1) _ (by omega) (by omega) (by omega) (by omega) (by omega)
theorem st_waits (x1 x2 x3 x4 : Int32) (μ ν : la_Mem) (h : Iv μ ν) : ∃ (r : Int32) (μ' ν' : la_Mem), fX7_waits x1 x2 x3 x4 μ = some (r, μ') ∧ fX8_waits x1 x2 x3 x4 ν = some (r, ν') ∧ Iv μ' ν' := by
  obtain ⟨hc, hr⟩ := h
  unfold fX7_waits fX8_waits
  by_cases hv : (0 ≤ x1.toInt ∧ x1.toInt < 4) ∧ (0 ≤ x2.toInt ∧ x2.toInt < 3) ∧ 1 ≤ x4.toInt ∧ x4.toInt ≤ 24
  · obtain ⟨N, N1, N2, N3⟩ := asN (show 0 ≤ x4.toInt by omega) (show x4.toInt ≤ (24 : Nat) by omega) (by decide)
    rw [isRow_t hv.1 hv.2.1 hv.2.2 ⟨by decide, by decide⟩, Option.bind_some, if_neg nz1]
    obtain ⟨r, μ', ν', r1, r2, r3, r4⟩ := row_P (x3 := x3) μ ν hc hr hv.1 hv.2.1 N2 (by omega) N1
    rw [r1, r2, pu_b2, pu_b2]
    rcases r4 with ⟨r0, hw⟩ | ⟨q0, q1⟩
    · subst r0
      obtain ⟨z, w1, w2⟩ := wt_P r3.2 N2 N1 hw (N - 1) 400 1 0 (by omega) (by omega) (by omega) (by decide) (by rw [z0]; omega)
      rw [if_pos rfl, if_pos (by decide), show fX7_waits_L25 x4 μ' 400 0 1 = _ from w1, show fX8_waits_L38 x4 ν' 400 0 1 = _ from w2]
      exact ⟨_, _, _, rfl, rfl, r3⟩
    · rw [if_neg q0, if_neg q1]
      exact ⟨_, _, _, rfl, rfl, r3⟩
  · rw [row_f μ hv, isRow_f (fun q => hv ⟨q.1, q.2.1, q.2.2.1⟩), pu_b2, Option.bind_some, if_pos rfl, if_neg (by decide)]
    exact ⟨_, _, _, rfl, rfl, hc, hr⟩
