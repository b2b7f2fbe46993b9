theorem nz1 : ¬ (1 : Int32) = 0 := by decide
theorem sheet_ix {a c : Int32} {C i : Nat} (ha : 0 ≤ a.toInt) (ha4 : a.toInt < 4) (hC : c.toInt = C) (hi : C + i < 40) : la_ix (c + nI i) 40 = true ∧ (c + nI i).toNatClampNeg = C + i ∧ la_ix (40 * a + c + nI i) 160 = true ∧ (40 * a + c + nI i).toNatClampNeg = 40 * a.toNatClampNeg + (C + i) := by
  have hs := pu_cl (n := 4) ha ha4
  have h1 := add_ix (i := i) (n := 40) hC hi (by decide)
  have h2 := mul_t (k := 40) (K := 40) (x := a) (y := c) (a := a.toNatClampNeg) (b := C) rfl (by decide) (pu_nx ha).symm hC (by omega) (by omega)
  have h3 := add_ix (x := 40 * a + c) (a := 40 * a.toNatClampNeg + C) (i := i) (n := 160) (by rw [h2]; omega) (by omega) (by decide)
  exact ⟨h1.1, h1.2, h3.1, by rw [h3.2]; omega⟩
theorem ra_C {a c : Int32} {C : Nat} {μ ν : la_Mem} (hr : Rl μ ν) (ha : 0 ≤ a.toInt) (ha4 : a.toInt < 4) (hC : c.toInt = C) (hC2 : C + 12 ≤ 40) : ∀ (k n i : Nat), i + k = 12 → k < n → (fX7_rails_L33 a c μ n (nI i) = some (.inl (-2, μ)) ∧ fX8_rails_L38 a c ν n (nI i) = some (.inl (-2, ν))) ∨ (fX7_rails_L33 a c μ n (nI i) = some (.inr ()) ∧ fX8_rails_L38 a c ν n (nI i) = some (.inr ()) ∧ ∀ j, i ≤ j → j < 12 → Bd (μ (28 + a.toNatClampNeg + 4) (C + j)) 0 127) := by
  have hs := pu_cl (n := 4) ha ha4
  intro k
  induction k with
  | zero =>
    intro n i e1 e2
    obtain ⟨n, rfl⟩ : ∃ m, n = m + 1 := ⟨n - 1, by omega⟩
    have hi : i = 12 := by omega
    subst hi
    exact Or.inr ⟨by rw [fX7_rails_L33, if_pos (by decide)], by rw [fX8_rails_L38, if_pos (by decide)], fun j h1 h2 => by omega⟩
  | succ k ih =>
    intro n i e1 e2
    obtain ⟨n, rfl⟩ : ∃ m, n = m + 1 := ⟨n - 1, by omega⟩
    have hle : ¬ (12 : Int32) ≤ nI i := by rw [pu_le, nI_toInt (by omega), z12]; omega
    obtain ⟨x1, x2, x3, x4⟩ := sheet_ix (i := i) ha ha4 hC (by omega)
    have hit := rl_item hr hs (show C + i < 40 by omega)
    rw [fX7_rails_L33, fX8_rails_L38, if_neg hle, if_neg hle, pu_if x1, pu_if x3, x2, x4, hit]
    by_cases q : 0 ≤ (μ (28 + a.toNatClampNeg + 4) (C + i)).toInt ∧ (μ (28 + a.toNatClampNeg + 4) (C + i)).toInt ≤ 127
    · rw [isTeeth_t q.1 q.2, in_t 0 127 rfl rfl q.1 q.2, Option.bind_some, Option.bind_some, if_neg (by decide), if_neg (by decide), nI_1]
      rcases ih n (i + 1) (by omega) (by omega) with h | ⟨h1, h2, h3⟩
      · exact Or.inl h
      · refine Or.inr ⟨h1, h2, fun j j1 j2 => ?_⟩
        by_cases e : j = i
        · subst e; exact q
        · exact h3 j (by omega) j2
    · rw [isTeeth_f q, in_f 0 127 rfl rfl q, Option.bind_some, Option.bind_some, if_pos rfl, if_pos rfl]
      exact Or.inl ⟨rfl, rfl⟩
theorem ra_W {a c : Int32} {C : Nat} (ha : 0 ≤ a.toInt) (ha4 : a.toInt < 4) (hC : c.toInt = C) (hC2 : C + 12 ≤ 40) : ∀ (k n i : Nat) (μ ν : la_Mem), i + k = 12 → k < n → CI μ → Rl μ ν → (∀ j, i ≤ j → j < 12 → Bd (μ (28 + a.toNatClampNeg + 4) (C + j)) 0 127) → ∃ μ' ν', fX7_rails_L65 a c n (nI i) μ = some μ' ∧ fX8_rails_L82 a c n (nI i) ν = some ν' ∧ CI μ' ∧ Rl μ' ν' := by
  have hs := pu_cl (n := 4) ha ha4
  intro k
  induction k with
  | zero =>
    intro n i μ ν e1 e2 hc hr hb
    obtain ⟨n, rfl⟩ : ∃ m, n = m + 1 := ⟨n - 1, by omega⟩
    have hi : i = 12 := by omega
    subst hi
    exact ⟨μ, ν, by rw [fX7_rails_L65, if_pos (by decide)], by rw [fX8_rails_L82, if_pos (by decide)], hc, hr⟩
  | succ k ih =>
    intro n i μ ν e1 e2 hc hr hb
    obtain ⟨n, rfl⟩ : ∃ m, n = m + 1 := ⟨n - 1, by omega⟩
    have hle : ¬ (12 : Int32) ≤ nI i := by rw [pu_le, nI_toInt (by omega), z12]; omega
    obtain ⟨x1, x2, x3, x4⟩ := sheet_ix (i := i) ha ha4 hC (by omega)
    have hit := rl_item hr hs (show C + i < 40 by omega)
    have ix : la_ix (nI i) 12 = true := nI_ix (by omega) (by decide)
    have ni : (nI i).toNatClampNeg = i := nI_clamp (by omega)
    rw [fX7_rails_L65, fX8_rails_L82, if_neg hle, if_neg hle, pu_if x1, pu_if x3, pu_if ix, pu_if ix, pu_st, pu_st, x2, x4, hit, ni, nI_1]
    refine ih n (i + 1) _ _ (by omega) (by omega) (ci_3 ⟨CA_r hc.1 (hb i (by omega) (by omega)), hc.2⟩) (rw_brails hr i _) (fun j j1 j2 => ?_)
    rw [pu_msr (by omega)]
    exact hb j (by omega) j2
theorem st_rails (a b c : Int32) (μ ν : la_Mem) (h : Iv μ ν) : ∃ (r : Int32) (μ' ν' : la_Mem), fX7_rails a b c μ = some (r, μ') ∧ fX8_rails a b c ν = some (r, ν') ∧ Iv μ' ν' := by
  obtain ⟨hc, hr⟩ := h
  by_cases ha : 0 ≤ a.toInt ∧ a.toInt < 4
  · by_cases hb : 0 ≤ b.toInt ∧ b.toInt < 3
    · have ix : la_ix a 4 = true := pu_ix.mpr ha
      have hs := pu_cl (n := 4) ha.1 ha.2
      have hz := CZ_of hc hs
      have e1 := fault_c hc (x3 := c) (x4 := 12) ha.1 ha.2 hb.1 hb.2 (by decide)
      have e2 := fault_m hc hr (x2 := b) (x3 := c) (x4 := 12) ha.1 ha.2
      unfold fX7_rails fX8_rails
      rw [e1, e2, mS_t ha.1 ha.2, mL_t hb.1 hb.2, Option.bind_some, Option.bind_some, if_neg nz1, Option.bind_some, if_neg nz1, Option.bind_some]
      rcases flt_cases μ a.toNatClampNeg b c 12 with ⟨q0, q1, q2, q3, q4⟩ | ⟨q0, q1⟩
      · rw [z12] at q4
        have := hz.2.2.2
        obtain ⟨C, C1, C2, C3⟩ := asN q3 (show c.toInt ≤ (28 : Nat) by omega) (by decide)
        rw [q0, if_pos rfl, if_pos (by decide), pu_if ix]
        rcases ra_C hr ha.1 ha.2 C3.symm (by omega) 12 400 0 rfl (by decide) with ⟨h1, h2⟩ | ⟨h1, h2, h3⟩
        · rw [show fX7_rails_L33 a c μ 400 0 = _ from h1, show fX8_rails_L38 a c ν 400 0 = _ from h2, pu_x0l, pu_x0l]
          exact ⟨_, _, _, rfl, rfl, hc, hr⟩
        · rw [show fX7_rails_L33 a c μ 400 0 = _ from h1, show fX8_rails_L38 a c ν 400 0 = _ from h2, pu_x0r, pu_x0r]
          obtain ⟨μ', ν', r1, r2, r3, r4⟩ := ra_W ha.1 ha.2 C3.symm (by omega) 12 400 0 μ ν rfl (by decide) hc hr h3
          rw [show fX7_rails_L65 a c 400 0 μ = _ from r1, show fX8_rails_L82 a c 400 0 ν = _ from r2]
          exact ⟨_, _, _, rfl, rfl, r3, r4⟩
      · rw [if_neg q0, if_neg q1]
        exact ⟨_, _, _, rfl, rfl, hc, hr⟩
    · refine ⟨-1, μ, ν, ?_, ?_, hc, hr⟩
      · unfold fX7_rails fX7_sheetFault; rw [isS_t ha.1 ha.2, isLn_f hb]; rfl
      · unfold fX8_rails; rw [mS_t ha.1 ha.2, mL_f hb]; rfl
  · refine ⟨-1, μ, ν, ?_, ?_, hc, hr⟩
    · unfold fX7_rails fX7_sheetFault; rw [isS_f ha]; rfl
    · unfold fX8_rails; rw [mS_f ha]; rfl
