/-! bits -/
theorem sm_k {k : Nat} (hk : k < 31) : ((nI k &&& 31 : Int32).toBitVec.smod 32).toNat = k := by
  have : ∀ t : Fin 31, ((nI t.val &&& 31 : Int32).toBitVec.smod 32).toNat = t.val := by decide
  exact this ⟨k, hk⟩
theorem one_l {k i : Nat} (hk : k < 31) (hi : i < 32) : ((1 : Int32) <<< (nI k &&& 31)).toBitVec.getLsbD i = decide (i = k) := by
  rw [Int32.toBitVec_shiftLeft, BitVec.shiftLeft_eq', sm_k hk, BitVec.getLsbD_shiftLeft]
  have : ∀ t : Fin 32, (Int32.toBitVec 1).getLsbD t.val = decide (t.val = 0) := by decide
  have h1 := this ⟨i - k, by omega⟩
  rw [h1]
  by_cases q : i < k
  · simp [q, hi]; omega
  · simp [q, hi]; omega
theorem bit_r {t : Int32} {k : Nat} (hk : k < 31) : ((t >>> (nI k &&& 31)) &&& 1) = if t.toBitVec.getLsbD k then 1 else 0 := by
  apply Int32.toBitVec_inj.mp
  rw [Int32.toBitVec_and, Int32.toBitVec_shiftRight]
  unfold BitVec.sshiftRight'
  rw [sm_k hk]
  apply BitVec.eq_of_getLsbD_eq
  intro i hi
  have h1 : ∀ t : Fin 32, (Int32.toBitVec 1).getLsbD t.val = decide (t.val = 0) := by decide
  have h2 := h1 ⟨i, hi⟩
  rw [BitVec.getLsbD_and, BitVec.getLsbD_sshiftRight, h2]
  by_cases e : i = 0
  · subst e
    have : k + 0 < 32 := by omega
    cases hb : t.toBitVec.getLsbD k <;> simp [hb, hk, this] <;> omega
  · have h3 : (Int32.toBitVec 0).getLsbD i = false := by
      have : ∀ t : Fin 32, (Int32.toBitVec 0).getLsbD t.val = false := by decide
      exact this ⟨i, hi⟩
    cases hb : t.toBitVec.getLsbD k
    · rw [if_neg (show ¬ (false = true) by decide), h3]; simp [e]
    · rw [if_pos rfl, h2]; simp [e]
theorem bit_l {t : Int32} {k : Nat} (hk : k < 31) : (t &&& ((1 : Int32) <<< (nI k &&& 31))) = 0 ↔ t.toBitVec.getLsbD k = false := by
  constructor
  · intro h
    have h1 : (t &&& ((1 : Int32) <<< (nI k &&& 31))).toBitVec.getLsbD k = (Int32.toBitVec 0).getLsbD k := by rw [h]
    rw [Int32.toBitVec_and, BitVec.getLsbD_and, one_l hk (by omega)] at h1
    have h3 : (Int32.toBitVec 0).getLsbD k = false := by
      have : ∀ t : Fin 32, (Int32.toBitVec 0).getLsbD t.val = false := by decide
      exact this ⟨k, by omega⟩
    rw [h3] at h1
    simpa using h1
  · intro h
    apply Int32.toBitVec_inj.mp
    apply BitVec.eq_of_getLsbD_eq
    intro i hi
    have h3 : (Int32.toBitVec 0).getLsbD i = false := by
      have : ∀ t : Fin 32, (Int32.toBitVec 0).getLsbD t.val = false := by decide
      exact this ⟨i, hi⟩
    rw [Int32.toBitVec_and, BitVec.getLsbD_and, one_l hk hi, h3]
    by_cases e : i = k
    · subst e; rw [h]; rfl
    · simp [e]
theorem bit_1 {t : Int32} {k : Nat} (hk : k < 31) : (((t >>> (nI k &&& 31)) &&& 1) = 1) ↔ ¬ (t &&& ((1 : Int32) <<< (nI k &&& 31))) = 0 := by
  rw [bit_r hk, bit_l hk]
  cases t.toBitVec.getLsbD k <;> simp
theorem bit_0 {t : Int32} {k : Nat} (hk : k < 31) : (((t >>> (nI k &&& 31)) &&& 1) = 0) ↔ (t &&& ((1 : Int32) <<< (nI k &&& 31))) = 0 := by
  rw [bit_r hk, bit_l hk]
  cases t.toBitVec.getLsbD k <;> simp
/-! teeth at risk -/
theorem rs_P {x1 : Int32} {μ ν : la_Mem} (h2 : ν 2 = μ 2) (h3 : ν 3 = μ 3) (hx : la_ix x1 12 = true) : ∀ (k n i a : Nat), i + k = 7 → k < n → ∃ w : Nat, w ≤ a + k ∧ fX0_teethAtRisk_L4 x1 μ n (nI a) (nI i) = some (nI w) ∧ fX8_riskOf_L4 x1 ν n (nI a) (nI i) = some (nI w) := by
  intro k
  induction k with
  | zero =>
    intro n i a e1 e2
    obtain ⟨n, rfl⟩ : ∃ m, n = m + 1 := ⟨n - 1, by omega⟩
    have hi : i = 7 := by omega
    subst hi
    exact ⟨a, by omega, by rw [fX0_teethAtRisk_L4, if_pos (by decide)], by rw [fX8_riskOf_L4, if_pos (by decide)]⟩
  | succ k ih =>
    intro n i a e1 e2
    obtain ⟨n, rfl⟩ : ∃ m, n = m + 1 := ⟨n - 1, by omega⟩
    have hle : ¬ (7 : Int32) ≤ nI i := by rw [pu_le, nI_toInt (by omega), z7]; omega
    rw [fX0_teethAtRisk_L4, fX8_riskOf_L4, if_neg hle, if_neg hle, pu_st]
    unfold fX0_teethAtRisk_J58 fX0_teethAtRisk_J63 fX0_teethAtRisk_J65 fX8_riskOf_J60 fX8_riskOf_J61 fX8_riskOf_J63
    simp only [pu_if hx, pu_st, h2, nI_1, i_add0, fall_eq h3, fo_some, Option.bind_some]
    by_cases q : (μ 2 x1.toNatClampNeg &&& ((1 : Int32) <<< (nI i &&& 31))) = 0
    · rw [if_pos q, if_neg (fun w => (bit_1 (by omega)).mp w q)]
      obtain ⟨w, w1, w2⟩ := ih n (i + 1) a (by omega) (by omega)
      exact ⟨w, by omega, w2⟩
    · rw [if_neg q, if_pos ((bit_1 (by omega)).mpr q)]
      generalize fo μ (μ 2 x1.toNatClampNeg &&& ((1 : Int32) <<< (nI i &&& 31) ^^^ -1)) = f
      by_cases q1 : f = 12
      · rw [if_pos q1, if_pos q1]
        obtain ⟨w, w1, w2⟩ := ih n (i + 1) a (by omega) (by omega)
        refine ⟨w, by omega, w2.1, ?_⟩
        split <;> exact w2.2
      · rw [if_neg q1, if_neg q1]
        by_cases q2 : f = x1
        · rw [if_pos q2, if_pos q2]
          obtain ⟨w, w1, w2⟩ := ih n (i + 1) a (by omega) (by omega)
          exact ⟨w, by omega, w2⟩
        · rw [if_neg q2, if_neg q2]
          obtain ⟨w, w1, w2⟩ := ih n (i + 1) (a + 1) (by omega) (by omega)
          exact ⟨w, by omega, w2⟩
theorem rs_ok {x1 : Int32} {μ ν : la_Mem} (h2 : ν 2 = μ 2) (h3 : ν 3 = μ 3) (hx : la_ix x1 12 = true) : ∃ w : Nat, w ≤ 7 ∧ fX0_teethAtRisk x1 μ = some (nI w) ∧ fX8_riskOf x1 ν = some (nI w) := by
  obtain ⟨w, w1, w2, w3⟩ := rs_P h2 h3 hx 7 400 0 0 (by omega) (by omega)
  unfold fX0_teethAtRisk fX8_riskOf
  exact ⟨w, by omega, by rw [show fX0_teethAtRisk_L4 x1 μ 400 0 0 = _ from w2]; rfl, by rw [show fX8_riskOf_L4 x1 ν 400 0 0 = _ from w3]; rfl⟩
theorem st_risk (a : Int32) (μ ν : la_Mem) (h : Iv μ ν) : ∃ r : Int32, fX7_risk a μ = some r ∧ fX8_risk a ν = some r := by
  obtain ⟨hc, hr⟩ := h
  unfold fX7_risk fX8_risk
  by_cases ha : 0 ≤ a.toInt ∧ a.toInt < 12
  · obtain ⟨w, w1, w2, w3⟩ := rs_ok (rl_bteeth hr) (rl_brails hr) (pu_ix.mpr ha)
    rw [isLetter_t ha.1 ha.2, isTwelve_t ha.1 ha.2, w2, w3]
    exact ⟨_, rfl, rfl⟩
  · rw [isLetter_f ha, isTwelve_f ha]; exact ⟨_, rfl, rfl⟩
theorem nI_sum {a b : Nat} (ha : a ≤ 1000) (hb : b ≤ 1000) : nI a + nI b = nI (a + b) := by
  have t1 : (nI a).toInt = a := nI_toInt (by omega)
  have t2 : (nI b).toInt = b := nI_toInt (by omega)
  have t3 : (nI (a + b)).toInt = (a + b : Nat) := nI_toInt (by omega)
  have t4 : (nI a + nI b).toInt = (nI a).toInt + (nI b).toInt := fb_addI (by omega) (by omega)
  rw [pu_eq]; omega
theorem al_P {x1 x2 x3 x4 x5 x6 : Int32} {μ ν : la_Mem} (h2 : ν 2 = μ 2) (h3 : ν 3 = μ 3) : ∀ (k n i a : Nat), i + k = 12 → k < n → a ≤ 7 * i → ∃ w : Nat, w ≤ 84 ∧ fX0_allAtRisk_L4 μ n (nI a) (nI i) = some (nI w) ∧ fX8_better_L70 x1 x2 x3 x4 x5 x6 ν n (nI a) (nI i) = some (nI w) := by
  intro k
  induction k with
  | zero =>
    intro n i a e1 e2 e3
    obtain ⟨n, rfl⟩ : ∃ m, n = m + 1 := ⟨n - 1, by omega⟩
    have hi : i = 12 := by omega
    subst hi
    exact ⟨a, by omega, by rw [fX0_allAtRisk_L4, if_pos (by decide)], by rw [fX8_better_L70, if_pos (by decide)]⟩
  | succ k ih =>
    intro n i a e1 e2 e3
    obtain ⟨n, rfl⟩ : ∃ m, n = m + 1 := ⟨n - 1, by omega⟩
    have hle : ¬ (12 : Int32) ≤ nI i := by rw [pu_le, nI_toInt (by omega), z12]; omega
    obtain ⟨w, w1, w2, w3⟩ := rs_ok (x1 := nI i) h2 h3 (nI_ix (by omega) (by decide))
    rw [fX0_allAtRisk_L4, fX8_better_L70, if_neg hle, if_neg hle, w2, w3, Option.bind_some, Option.bind_some, pu_st, pu_st, nI_sum (by omega) (by omega), nI_1]
    exact ih n (i + 1) (a + w) (by omega) (by omega) (by omega)
theorem al_ok {x1 x2 x3 x4 x5 x6 : Int32} {μ ν : la_Mem} (h2 : ν 2 = μ 2) (h3 : ν 3 = μ 3) : ∃ w : Nat, w ≤ 84 ∧ fX0_allAtRisk μ = some (nI w) ∧ fX8_better_L70 x1 x2 x3 x4 x5 x6 ν 400 0 0 = some (nI w) := by
  obtain ⟨w, w1, w2, w3⟩ := al_P (x1 := x1) (x2 := x2) (x3 := x3) (x4 := x4) (x5 := x5) (x6 := x6) h2 h3 12 400 0 0 (by omega) (by omega) (by omega)
  unfold fX0_allAtRisk
  exact ⟨w, w1, by rw [show fX0_allAtRisk_L4 μ 400 0 0 = _ from w2]; rfl, w3⟩
theorem bt_P {x1 v1 v2 : Int32} (ha : 0 ≤ x1.toInt ∧ x1.toInt < 12) : ∀ (k n i : Nat) (x4 m5 n5 : Int32) (μ ν : la_Mem), i + k = 128 → k < n → 1 ≤ i → ((m5 = 85 ∧ n5 = 1000) ∨ (m5 = n5 ∧ m5.toInt ≤ 85)) → CI μ → Rl μ ν → ∃ (r : Int32) (μ' ν' : la_Mem), fX0_betterTeeth_L25 x1 v1 v2 n x4 m5 (nI i) μ = some (r, μ') ∧ fX8_better_L35 x1 v1 v2 n x4 n5 (nI i) ν = some (r, ν') ∧ Iv μ' ν' := by
  have ix : la_ix x1 12 = true := pu_ix.mpr ha
  have zM : (85 : Int32).toInt = 85 := rfl
  have zK : (1000 : Int32).toInt = 1000 := rfl
  intro k
  induction k with
  | zero =>
    intro n i x4 m5 n5 μ ν e1 e2 e3 hm hc hr
    obtain ⟨n, rfl⟩ : ∃ m, n = m + 1 := ⟨n - 1, by omega⟩
    have hi : i = 128 := by omega
    subst hi
    exact ⟨x4, μ, ν, by rw [fX0_betterTeeth_L25, if_pos (by decide)], by rw [fX8_better_L35, if_pos (by decide)], hc, hr⟩
  | succ k ih =>
    intro n i x4 m5 n5 μ ν e1 e2 e3 hm hc hr
    obtain ⟨n, rfl⟩ : ∃ m, n = m + 1 := ⟨n - 1, by omega⟩
    have h1 : ¬ (127 : Int32) < nI i := by rw [pu_lt, nI_toInt (by omega), z127]; omega
    have h2 : ¬ (128 : Int32) ≤ nI i := by rw [pu_le, nI_toInt (by omega), show (128 : Int32).toInt = 128 from rfl]; omega
    have bi : Bd (nI i) 1 127 := by constructor <;> rw [nI_toInt (by omega)] <;> omega
    have c1 : CI (la_ms μ 2 x1.toNatClampNeg (nI i)) := ci_2 ⟨CA_t hc.1 bi, hc.2⟩
    have c2 : CI (la_ms (la_ms μ 2 x1.toNatClampNeg (nI i)) 3 x1.toNatClampNeg (127 &&& (nI i ^^^ -1))) := ci_3 ⟨CA_r c1.1 (bt_and ⟨by decide, by decide⟩), c1.2⟩
    have r2 := rw_brails (rw_bteeth hr x1.toNatClampNeg (nI i)) x1.toNatClampNeg (127 &&& (nI i ^^^ -1))
    rw [fX0_betterTeeth_L25, fX8_better_L35, if_neg h1, if_neg h2]
    simp only [pu_if ix, pu_st]
    generalize la_ms (la_ms μ 2 x1.toNatClampNeg (nI i)) 3 x1.toNatClampNeg (127 &&& (nI i ^^^ -1)) = μ2 at *
    generalize la_ms (la_ms ν 2 x1.toNatClampNeg (nI i)) 3 x1.toNatClampNeg (127 &&& (nI i ^^^ -1)) = ν2 at *
    obtain ⟨w, w1, w2, w3⟩ := al_ok (x1 := x1) (x2 := v1) (x3 := v2) (x4 := x4) (x5 := n5) (x6 := nI i) (rl_bteeth r2) (rl_brails r2)
    have tw : (nI w).toInt = w := nI_toInt (by omega)
    obtain ⟨s, s1, s2⟩ := astr_ok μ2
    rw [w2, w3, astr_eq (rl_brails r2) (rl_bteeth r2), s1, Option.bind_some, Option.bind_some, Option.bind_some, Option.bind_some]
    unfold fX0_betterTeeth_J71 fX0_betterTeeth_J88 fX8_better_J112 fX8_better_J113 fX8_better_J127 fX8_better_J141
    rw [nI_1]
    rw [if_pos (show (0 : Int32) = 0 from rfl), if_pos (show (0 : Int32) = 0 from rfl), if_neg nz1, if_neg nz1]
    rcases s2 with s2 | s2
    · rw [if_pos s2, if_neg (show ¬ 0 ≤ s by rw [s2]; decide)]
      have hq : m5 ≤ nI w ↔ n5 ≤ nI w := by
        rcases hm with ⟨g1, g2⟩ | ⟨g, _⟩
        · rw [g1, g2, pu_le, pu_le, tw, zM, zK]; omega
        · rw [g]
      by_cases q : m5 ≤ nI w
      · rw [if_pos q, if_pos (hq.mp q)]
        exact ih n (i + 1) x4 m5 n5 μ2 ν2 (by omega) (by omega) (by omega) hm c2 r2
      · rw [if_neg q, if_neg (fun z => q (hq.mpr z))]
        exact ih n (i + 1) (nI i) (nI w) (nI w) μ2 ν2 (by omega) (by omega) (by omega) (Or.inr ⟨rfl, by rw [tw]; omega⟩) c2 r2
    · have s3 := s2.1
      have hm85 : m5 ≤ 85 := by
        rw [pu_le, zM]
        rcases hm with ⟨g1, _⟩ | ⟨_, g⟩
        · rw [g1, zM]; omega
        · exact g
      rw [if_neg (show ¬ s = -4 by rw [pu_eq, show (-4 : Int32).toInt = -4 from rfl]; omega), if_pos (show 0 ≤ s by rw [pu_le, z0]; omega), if_pos hm85]
      exact ih n (i + 1) x4 m5 n5 μ2 ν2 (by omega) (by omega) (by omega) hm c2 r2
theorem st_better (a : Int32) (μ ν : la_Mem) (h : Iv μ ν) : ∃ (r : Int32) (μ' ν' : la_Mem), fX7_better a μ = some (r, μ') ∧ fX8_better a ν = some (r, ν') ∧ Iv μ' ν' := by
  obtain ⟨hc, hr⟩ := h
  unfold fX7_better fX8_better
  by_cases ha : 0 ≤ a.toInt ∧ a.toInt < 12
  · have ix : la_ix a 12 = true := pu_ix.mpr ha
    have hp := hc.1.1 _ (pu_cl (n := 12) ha.1 ha.2)
    rw [isLetter_t ha.1 ha.2, isTwelve_t ha.1 ha.2, Option.bind_some, Option.bind_some, if_neg nz1, if_neg nz1]
    unfold fX0_betterTeeth
    obtain ⟨r, μ', ν', r1, r2, r3⟩ := bt_P (v1 := μ 2 a.toNatClampNeg) (v2 := μ 3 a.toNatClampNeg) ha 127 400 1 (-4) 85 1000 μ ν (by omega) (by omega) (by omega) (Or.inl ⟨rfl, rfl⟩) hc hr
    simp only [pu_if ix, pu_st, rl_bteeth hr, rl_brails hr]
    rw [show fX0_betterTeeth_L25 a _ _ 400 (-4) 85 1 μ = _ from r1, show fX8_better_L35 a _ _ 400 (-4) 1000 1 ν = _ from r2, pu_b2, pu_b2, pu_b2]
    have c1 : CI (la_ms μ' 2 a.toNatClampNeg (μ 2 a.toNatClampNeg)) := ci_2 ⟨CA_t r3.1.1 hp.2.1, r3.1.2⟩
    exact ⟨_, _, _, rfl, rfl, ci_3 ⟨CA_r c1.1 hp.2.2.1, c1.2⟩, rw_brails (rw_bteeth r3.2 _ _) _ _⟩
  · rw [isLetter_f ha, isTwelve_f ha]; exact ⟨_, _, _, rfl, rfl, hc, hr⟩
