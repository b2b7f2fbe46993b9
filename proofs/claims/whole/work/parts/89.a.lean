theorem nI_ix {i n : Nat} (h : i < n) (hn : n < 2 ^ 31) : la_ix (nI i) n = true := pu_ix.mpr (by rw [nI_toInt (by omega)]; omega)
theorem fall_L {x : Int32} {μ ν : la_Mem} (h : ν 3 = μ 3) : ∀ (n : Nat) (i : Int32), fX8_fallsAt_L2 x ν n i = fX0_fallOf_L2 x μ n i := by
  intro n
  induction n with
  | zero => intro i; rfl
  | succ n ih => intro i; rw [fX8_fallsAt_L2, fX0_fallOf_L2, h]; simp only [ih]
theorem fall_eq {x : Int32} {μ ν : la_Mem} (h : ν 3 = μ 3) : fX8_fallsAt x ν = fX0_fallOf x μ := by
  unfold fX8_fallsAt fX0_fallOf
  rw [fall_L h]
theorem fall_T (x : Int32) (μ : la_Mem) : ∀ (k n i : Nat), i + k = 12 → k < n → fX0_fallOf_L2 x μ n (nI i) = some (.inr ()) ∨ ∃ p, p < 12 ∧ fX0_fallOf_L2 x μ n (nI i) = some (.inl (nI p)) := by
  intro k
  induction k with
  | zero =>
    intro n i h1 h2
    obtain ⟨n, rfl⟩ : ∃ m, n = m + 1 := ⟨n - 1, by omega⟩
    left
    rw [fX0_fallOf_L2, if_pos (by rw [pu_le, z12, nI_toInt (by omega)]; omega)]
  | succ k ih =>
    intro n i h1 h2
    obtain ⟨n, rfl⟩ : ∃ m, n = m + 1 := ⟨n - 1, by omega⟩
    rw [fX0_fallOf_L2, if_neg (by rw [pu_le, z12, nI_toInt (by omega)]; omega), pu_if (nI_ix (by omega) (by decide))]
    by_cases hc : (μ 3 (nI i).toNatClampNeg &&& x) = 0
    · right
      exact ⟨i, by omega, by rw [if_pos hc]⟩
    · rw [if_neg hc, nI_1]
      exact ih n (i + 1) (by omega) (by omega)
def fo (μ : la_Mem) (x : Int32) : Int32 := (fX0_fallOf x μ).getD 0
theorem fo_ok (x : Int32) (μ : la_Mem) : fX0_fallOf x μ = some (fo μ x) ∧ Bd (fo μ x) 0 12 := by
  unfold fo
  have h := fall_T x μ 12 400 0 rfl (by decide)
  rcases h with h | ⟨p, hp, h⟩
  · have e : fX0_fallOf x μ = some 12 := by unfold fX0_fallOf; rw [show (0 : Int32) = nI 0 from rfl, h]; rfl
    rw [e]; exact ⟨rfl, by decide, by decide⟩
  · have e : fX0_fallOf x μ = some (nI p) := by unfold fX0_fallOf; rw [show (0 : Int32) = nI 0 from rfl, h]; rfl
    rw [e]; exact ⟨rfl, by show (0 : Int) ≤ (nI p).toInt; rw [nI_toInt (by omega)]; omega, by show (nI p).toInt ≤ 12; rw [nI_toInt (by omega)]; omega⟩
theorem fo_some (x : Int32) (μ : la_Mem) : fX0_fallOf x μ = some (fo μ x) := (fo_ok x μ).1
theorem fo_m {μ ν : la_Mem} (h : Rl μ ν) (x : Int32) : fX8_fallsAt x ν = some (fo μ x) := by rw [fall_eq (rl_brails h), fo_some]
theorem st_falls (a : Int32) (μ ν : la_Mem) (h : Iv μ ν) : ∃ r : Int32, fX7_falls a μ = some r ∧ fX8_falls a ν = some r := by
  obtain ⟨hc, hr⟩ := h
  by_cases ha : 0 ≤ a.toInt ∧ a.toInt ≤ 127
  · refine ⟨fo μ a, ?_, ?_⟩
    · unfold fX7_falls; rw [isTeeth_t ha.1 ha.2, fo_some]; rfl
    · unfold fX8_falls; rw [in_t 0 127 rfl rfl ha.1 ha.2, fo_m hr]; rfl
  · refine ⟨-1, ?_, ?_⟩
    · unfold fX7_falls; rw [isTeeth_f ha]; rfl
    · unfold fX8_falls; rw [in_f 0 127 rfl rfl ha]; rfl
theorem astr_L {μ ν : la_Mem} (h3 : ν 3 = μ 3) (h2 : ν 2 = μ 2) : ∀ (n : Nat) (i : Int32), fX8_astray_L2 ν n i = fX0_firstAstray_L2 μ n i := by
  intro n
  induction n with
  | zero => intro i; rfl
  | succ n ih => intro i; rw [fX8_astray_L2, fX0_firstAstray_L2, h2, fall_eq h3]; simp only [ih]
theorem astr_eq {μ ν : la_Mem} (h3 : ν 3 = μ 3) (h2 : ν 2 = μ 2) : fX8_astray ν = fX0_firstAstray μ := by
  unfold fX8_astray fX0_firstAstray
  rw [astr_L h3 h2]
theorem astr_T (μ : la_Mem) : ∀ (k n i : Nat), i + k = 12 → k < n → fX0_firstAstray_L2 μ n (nI i) = some (.inr ()) ∨ ∃ p, p < 12 ∧ fX0_firstAstray_L2 μ n (nI i) = some (.inl (nI p)) := by
  intro k
  induction k with
  | zero =>
    intro n i h1 h2
    obtain ⟨n, rfl⟩ : ∃ m, n = m + 1 := ⟨n - 1, by omega⟩
    left
    rw [fX0_firstAstray_L2, if_pos (by rw [pu_le, z12, nI_toInt (by omega)]; omega)]
  | succ k ih =>
    intro n i h1 h2
    obtain ⟨n, rfl⟩ : ∃ m, n = m + 1 := ⟨n - 1, by omega⟩
    rw [fX0_firstAstray_L2, if_neg (by rw [pu_le, z12, nI_toInt (by omega)]; omega), pu_if (nI_ix (by omega) (by decide)), fo_some, Option.bind_some]
    by_cases hc : fo μ (μ 2 (nI i).toNatClampNeg) = nI i
    · rw [if_pos hc, nI_1]
      exact ih n (i + 1) (by omega) (by omega)
    · right
      exact ⟨i, by omega, by rw [if_neg hc]⟩
theorem astr_ok (μ : la_Mem) : ∃ r : Int32, fX0_firstAstray μ = some r ∧ (r = -4 ∨ Bd r 0 11) := by
  rcases astr_T μ 12 400 0 rfl (by decide) with h | ⟨p, hp, h⟩
  · exact ⟨-4, by unfold fX0_firstAstray; rw [show (0 : Int32) = nI 0 from rfl, h]; rfl, Or.inl rfl⟩
  · refine ⟨nI p, by unfold fX0_firstAstray; rw [show (0 : Int32) = nI 0 from rfl, h]; rfl, Or.inr ⟨?_, ?_⟩⟩ <;> rw [nI_toInt (by omega)] <;> omega
theorem st_astray (μ ν : la_Mem) (h : Iv μ ν) : ∃ r : Int32, fX7_astray μ = some r ∧ fX8_astray ν = some r := by
  obtain ⟨hc, hr⟩ := h
  obtain ⟨r, e, -⟩ := astr_ok μ
  refine ⟨r, ?_, ?_⟩
  · unfold fX7_astray; rw [e]; rfl
  · rw [astr_eq (rl_brails hr) (rl_bteeth hr), e]
theorem st_place (a b c : Int32) (μ ν : la_Mem) (h : Iv μ ν) : ∃ (r : Int32) (μ' ν' : la_Mem), fX7_place a b c μ = some (r, μ') ∧ fX8_place a b c ν = some (r, ν') ∧ Iv μ' ν' := by
  obtain ⟨hc, hr⟩ := h
  by_cases ha : 0 ≤ a.toInt ∧ a.toInt < 12
  · have ix : la_ix a 12 = true := pu_ix.mpr ⟨ha.1, by omega⟩
    by_cases hb : b = 0
    · subst hb
      have e2 : fX8_place a 0 c ν = (fX8_in c.toInt64 0 127 ν).bind (fun r => if r = 0 then some (-1, ν) else some (ν 3 a.toNatClampNeg, la_ms ν 3 a.toNatClampNeg c)) := by
        unfold fX8_place fX8_place_J33 fX8_place_J60
        rw [isTwelve_t ha.1 ha.2, in_t 0 1 rfl rfl (by decide) (by decide)]
        simp only [pu_if ix, pu_st, Option.bind_some]
        rfl
      by_cases hv : 0 ≤ c.toInt ∧ c.toInt ≤ 127
      · refine ⟨μ 3 a.toNatClampNeg, la_ms μ 3 a.toNatClampNeg c, la_ms ν 3 a.toNatClampNeg c, ?_, ?_, ci_3 ⟨CA_r hc.1 hv, hc.2⟩, rw_brails hr _ _⟩
        · unfold fX7_place; rw [isPlace_t ha.1 ha.2, isTeeth_t hv.1 hv.2, exch ha.1 (by omega)]; rfl
        · rw [e2, in_t 0 127 rfl rfl hv.1 hv.2, rl_brails hr]; rfl
      · refine ⟨-1, μ, ν, ?_, ?_, hc, hr⟩
        · unfold fX7_place; rw [isPlace_t ha.1 ha.2, isTeeth_f hv]; rfl
        · rw [e2, in_f 0 127 rfl rfl hv]; rfl
    · by_cases hb1 : b = 1
      · subst hb1
        have e2 : fX8_place a 1 c ν = (fX8_in c.toInt64 0 20 ν).bind (fun r => if r = 0 then some (-1, ν) else some (ν 4 a.toNatClampNeg, la_ms ν 4 a.toNatClampNeg c)) := by
          unfold fX8_place fX8_place_J33 fX8_place_J60
          rw [isTwelve_t ha.1 ha.2, in_t 0 1 rfl rfl (by decide) (by decide)]
          simp only [pu_if ix, pu_st, Option.bind_some]
          rfl
        have e1 : fX7_place a 1 c μ = if c < 0 then some (-1, μ) else if c ≤ 20 then some (μ 25 a.toNatClampNeg, la_ms μ 25 a.toNatClampNeg c) else some (-1, μ) := by
          unfold fX7_place fX7_place_J52; rw [isPlace_t ha.1 ha.2, exch (k := 25) ha.1 (by omega)]; rfl
        by_cases hv : 0 ≤ c.toInt ∧ c.toInt ≤ 20
        · refine ⟨μ 25 a.toNatClampNeg, la_ms μ 25 a.toNatClampNeg c, la_ms ν 4 a.toNatClampNeg c, ?_, ?_, ci_25 ⟨CA_e hc.1 hv, hc.2⟩, rw_reaches hr _ _⟩
          · rw [e1, if_neg (by rw [pu_lt, z0]; omega), if_pos (by rw [pu_le, z20]; omega)]
          · rw [e2, in_t 0 20 rfl rfl hv.1 hv.2, rl_reaches hr]; rfl
        · refine ⟨-1, μ, ν, ?_, ?_, hc, hr⟩
          · rw [e1]
            by_cases h1 : c < 0
            · rw [if_pos h1]
            · rw [if_neg h1, if_neg (by rw [pu_lt, z0] at h1; rw [pu_le, z20]; omega)]
          · rw [e2, in_f 0 20 rfl rfl hv]; rfl
      · refine ⟨-1, μ, ν, ?_, ?_, hc, hr⟩
        · unfold fX7_place; rw [isPlace_t ha.1 ha.2, Option.bind_some, if_neg (by decide), if_neg hb, if_neg hb1]
        · unfold fX8_place
          rw [isTwelve_t ha.1 ha.2, in_f 0 1 rfl rfl (by rw [pu_eq, z0] at hb; rw [pu_eq, z1] at hb1; omega)]
          rfl
  · refine ⟨-1, μ, ν, ?_, ?_, hc, hr⟩
    · unfold fX7_place; rw [isPlace_f ha]; rfl
    · unfold fX8_place; rw [isTwelve_f ha]; rfl
theorem nx0 {i : Int32} {j : Int} (h : i.toInt = j) (h0 : 0 ≤ j) : i.toNatClampNeg = j.toNat := by
  have e : i.toNatClampNeg = i.toInt.toNat := rfl
  rw [e, h]
theorem st_set (a b : Int32) (μ ν : la_Mem) (h : Iv μ ν) : ∃ (r : Int32) (μ' ν' : la_Mem), fX7_set a b μ = some (r, μ') ∧ fX8_set a b ν = some (r, ν') ∧ Iv μ' ν' := by
  obtain ⟨hc, hr⟩ := h
  obtain ⟨hA, s0, s1, s2, s3, s4⟩ := hc.1
  have hx : ∀ (lo hi : Int32) (cond : Prop), 0 ≤ a.toInt → a.toInt ≤ 3 → ((lo.toInt ≤ b.toInt ∧ b.toInt ≤ hi.toInt) ↔ cond) → ¬ cond → fX8_set_J77 a b lo hi ν = some (-1, ν) := by
    intro lo hi cond h1 h2 h3 h4
    unfold fX8_set_J77
    rw [in_f lo.toInt hi.toInt (Int32.toInt_toInt64 lo) (Int32.toInt_toInt64 hi) (fun q => h4 (h3.mp q))]
    rfl
  have hy : ∀ (lo hi : Int32), 0 ≤ a.toInt → a.toInt ≤ 3 → lo.toInt ≤ b.toInt → b.toInt ≤ hi.toInt → fX8_set_J77 a b lo hi ν = some (μ 26 a.toNatClampNeg, la_ms ν 5 a.toNatClampNeg b) := by
    intro lo hi h1 h2 h3 h4
    have ix : la_ix a 4 = true := pu_ix.mpr ⟨h1, by omega⟩
    unfold fX8_set_J77
    rw [in_t lo.toInt hi.toInt (Int32.toInt_toInt64 lo) (Int32.toInt_toInt64 hi) h3 h4, Option.bind_some, if_neg (by decide), pu_if ix, pu_st, pu_if ix, pu_st, rl_sets hr]
  by_cases ha : 0 ≤ a.toInt ∧ a.toInt ≤ 3
  · have e1 : fX7_set a b μ = (fX7_settingFits a b μ).bind (fun r => if r = 0 then some (-1, μ) else some (μ 26 a.toNatClampNeg, la_ms μ 26 a.toNatClampNeg b)) := by
      unfold fX7_set
      rw [if_neg (by rw [pu_lt, z0]; omega), if_neg (by rw [pu_lt, z3]; omega), exch ha.1 (by omega)]
      rfl
    have e2 : fX8_set a b ν = if a = 1 then fX8_set_J39 a b (ν 5 0) ν else if a = 2 then fX8_set_J39 a b 10 ν else fX8_set_J39 a b 1 ν := by
      unfold fX8_set
      rw [in_t 0 3 rfl rfl ha.1 ha.2]
      rfl
    have fin : ∀ (lo hi : Int32), fX8_set a b ν = fX8_set_J77 a b lo hi ν → fX7_settingFits a b μ = (if b < lo then some 0 else if hi < b then some 0 else some 1) → (lo.toInt ≤ b.toInt → b.toInt ≤ hi.toInt → CA (μ 24) (μ 2) (μ 3) (μ 25) (upd (μ 26) a.toNatClampNeg b)) → ∃ (r : Int32) (μ' ν' : la_Mem), fX7_set a b μ = some (r, μ') ∧ fX8_set a b ν = some (r, ν') ∧ Iv μ' ν' := by
      intro lo hi q1 q2 q3
      by_cases hv : lo.toInt ≤ b.toInt ∧ b.toInt ≤ hi.toInt
      · refine ⟨μ 26 a.toNatClampNeg, la_ms μ 26 a.toNatClampNeg b, la_ms ν 5 a.toNatClampNeg b, ?_, ?_, ci_26 ⟨q3 hv.1 hv.2, hc.2⟩, rw_sets hr _ _⟩
        · rw [e1, q2, if_neg (by rw [pu_lt]; omega), if_neg (by rw [pu_lt]; omega)]; rfl
        · rw [q1, hy lo hi ha.1 ha.2 hv.1 hv.2]
      · refine ⟨-1, μ, ν, ?_, ?_, hc, hr⟩
        · rw [e1, q2]
          by_cases h1 : b < lo
          · rw [if_pos h1]; rfl
          · rw [if_neg h1, if_pos (by rw [pu_lt] at *; omega)]; rfl
        · rw [q1, hx lo hi _ ha.1 ha.2 Iff.rfl hv]
    by_cases a0 : a = 0
    · subst a0
      refine fin 1 (μ 26 1) (by rw [e2, if_neg (by decide), if_neg (by decide)]; unfold fX8_set_J39; rw [if_pos rfl, rl_sets hr]) (by unfold fX7_settingFits; rw [if_pos rfl]) (fun h1 h2 => ⟨hA, ?_⟩)
      rw [z1] at h1
      exact ⟨h1, h2, s2, s3, s4⟩
    · by_cases a1 : a = 1
      · subst a1
        refine fin (μ 26 0) 40 (by rw [e2, if_pos rfl]; unfold fX8_set_J39; rw [if_neg (by decide), if_pos rfl, rl_sets hr]) (by unfold fX7_settingFits; rw [if_neg (by decide), if_pos rfl]) (fun h1 h2 => ⟨hA, ?_⟩)
        rw [z40] at h2
        exact ⟨s0, h1, h2, s3, s4⟩
      · by_cases a2 : a = 2
        · subst a2
          refine fin 10 400 (by rw [e2, if_neg (by decide), if_pos rfl]; unfold fX8_set_J39; rw [if_neg (by decide), if_neg (by decide), if_pos rfl]) (by unfold fX7_settingFits; rw [if_neg (by decide), if_neg (by decide), if_pos rfl]) (fun h1 h2 => ⟨hA, s0, s1, s2, ⟨h1, h2⟩, s4⟩)
        · have a3 : a = 3 := by rw [pu_eq] at *; rw [z0] at a0; rw [z1] at a1; rw [z2] at a2; rw [z3]; omega
          subst a3
          refine fin 1 200 (by rw [e2, if_neg (by decide), if_neg (by decide)]; unfold fX8_set_J39; rw [if_neg (by decide), if_neg (by decide), if_neg (by decide)]) (by unfold fX7_settingFits; rw [if_neg (by decide), if_neg (by decide), if_neg (by decide)]) (fun h1 h2 => ⟨hA, s0, s1, s2, s3, ⟨h1, h2⟩⟩)
  · refine ⟨-1, μ, ν, ?_, ?_, hc, hr⟩
    · unfold fX7_set
      by_cases h1 : a < 0
      · rw [if_pos h1]
      · rw [if_neg h1, if_pos (by rw [pu_lt, z0] at h1; rw [pu_lt, z3]; omega)]
    · unfold fX8_set; rw [in_f 0 3 rfl rfl ha]; rfl
