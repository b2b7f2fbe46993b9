/-- Rl out of cells: all but the channels' are as they were -/
theorem rl_ch {μ ν μ' ν' : la_Mem} (h : Rl μ ν) (hm : ∀ a, ¬ (36 ≤ a ∧ a < 48) → μ' a = μ a) (hn : ∀ a, a ≠ 10 → ν' a = ν a) (hc : ∀ p i, p < 12 → i < 8 → ν' 10 (8 * p + i) = μ' (36 + p) i) : Rl μ' ν' := by
  obtain ⟨⟨a0, a1, a2, a3, a4, a5, a6, a7, a8, a9, a10, a11, a12, a13, a14, a15, a16⟩, hs, -, hb, hl, hz, hi⟩ := h
  refine ⟨⟨?_, ?_, ?_, ?_, ?_, ?_, ?_, ?_, ?_, ?_, ?_, ?_, ?_, ?_, ?_, ?_, ?_⟩, ?_, hc, ?_, ?_, ?_, ?_⟩
  · rw [hn _ (by decide), hm _ (by omega), a0]
  · rw [hn _ (by decide), hm _ (by omega), a1]
  · rw [hn _ (by decide), hm _ (by omega), a2]
  · rw [hn _ (by decide), hm _ (by omega), a3]
  · rw [hn _ (by decide), hm _ (by omega), a4]
  · rw [hn _ (by decide), hm _ (by omega), a5]
  · rw [hn _ (by decide), hm _ (by omega), a6]
  · rw [hn _ (by decide), hm _ (by omega), a7]
  · rw [hn _ (by decide), hm _ (by omega), a8]
  · rw [hn _ (by decide), hm _ (by omega), a9]
  · rw [hn _ (by decide), hm _ (by omega), a10]
  · rw [hn _ (by decide), hm _ (by omega), a11]
  · rw [hn _ (by decide), hm _ (by omega), a12]
  · rw [hn _ (by decide), hm _ (by omega), a13]
  · rw [hn _ (by decide), hm _ (by omega), a14]
  · rw [hn _ (by decide), hm _ (by omega), a15]
  · rw [hn _ (by decide), hm _ (by omega), a16]
  · rw [hn 0 (by decide), hm 4 (by omega), hm 0 (by omega), hm 10 (by omega), hm 14 (by omega), hm 18 (by omega), hm 21 (by omega)]; exact hs
  · intro p i h1 h2; rw [hn 18 (by decide), hm _ (by omega)]; exact hb p i h1 h2
  · intro p h1; rw [hn 22 (by decide), hm _ (by omega)]; exact hl p h1
  · intro p h1; rw [hn 23 (by decide), hm _ (by omega)]; exact hz p h1
  · intro p i h1 h2; rw [hn 24 (by decide), hm _ (by omega)]; exact hi p i h1 h2
theorem key_L {x1 x2 : Int32} (h1 : 0 ≤ x1.toInt) (h2 : x1.toInt < 12) {h' : Nat} (hh : h' ≤ 7) : ∀ (k n i : Nat) (ν : la_Mem), i + k = h' → k < n → ν 9 x1.toNatClampNeg = nI h' → ∃ ν' : la_Mem, fX8_key_L60 x1 x2 n (nI i) ν = some ν' ∧ (∀ a, a ≠ 10 → ν' a = ν a) ∧ ∀ x, ν' 10 x = if 8 * x1.toNatClampNeg + i ≤ x ∧ x < 8 * x1.toNatClampNeg + h' then ν 10 (x + 1) else ν 10 x := by
  have ix : la_ix x1 12 = true := pu_ix.mpr ⟨h1, h2⟩
  have hp := pu_cl (n := 12) h1 h2
  intro k
  induction k with
  | zero =>
    intro n i ν e1 e2 e3
    obtain ⟨n, rfl⟩ : ∃ m, n = m + 1 := ⟨n - 1, by omega⟩
    refine ⟨ν, ?_, fun _ _ => rfl, fun x => ?_⟩
    · rw [fX8_key_L60, pu_if ix, e3, if_pos (by rw [pu_le, nI_toInt (by omega), nI_toInt (by omega)]; omega)]
    · rw [if_neg (by omega)]
  | succ k ih =>
    intro n i ν e1 e2 e3
    obtain ⟨n, rfl⟩ : ∃ m, n = m + 1 := ⟨n - 1, by omega⟩
    have q0 := mul_ix (k := 8) (K := 8) (x := x1) (y := nI i) (a := x1.toNatClampNeg) (b := i) (n := 96) rfl (by decide) (pu_nx h1).symm (nI_toInt (by omega)) (by omega) (by omega) (by omega)
    have q1 := mul_t (k := 8) (K := 8) (x := x1) (y := nI i) (a := x1.toNatClampNeg) (b := i) rfl (by decide) (pu_nx h1).symm (nI_toInt (by omega)) (by omega) (by omega)
    have q2 : (8 * x1 + nI i + 1).toInt = 8 * x1.toNatClampNeg + i + 1 := by rw [inc1 (by omega) (by omega), q1]; omega
    have ix2 : la_ix (8 * x1 + nI i + 1) 96 = true := pu_ix.mpr (by rw [q2]; omega)
    have q3 : (8 * x1 + nI i + 1).toNatClampNeg = 8 * x1.toNatClampNeg + i + 1 := by rw [nx0 q2 (by omega)]; omega
    obtain ⟨ν', r1, r2, r3⟩ := ih n (i + 1) (la_ms ν 10 (8 * x1.toNatClampNeg + i) (ν 10 (8 * x1.toNatClampNeg + i + 1))) (by omega) (by omega) (by rw [pu_msr (by decide)]; exact e3)
    refine ⟨ν', ?_, fun a ha => by rw [r2 a ha, pu_msr ha], fun x => ?_⟩
    · rw [fX8_key_L60, pu_if ix, e3, if_neg (by rw [pu_le, nI_toInt (by omega), nI_toInt (by omega)]; omega), pu_if ix2, pu_if q0.1, pu_st, q0.2, q3, nI_1, r1]
    · rw [r3 x, la_ms_self]
      by_cases c1 : 8 * x1.toNatClampNeg + (i + 1) ≤ x ∧ x < 8 * x1.toNatClampNeg + h'
      · rw [if_pos c1, if_pos (by omega), pk_un (by omega)]
      · rw [if_neg c1]
        by_cases c2 : x = 8 * x1.toNatClampNeg + i
        · rw [c2, pk_us, if_pos (by omega)]
        · rw [pk_un c2, if_neg (by omega)]
/-- a thing is let go -/
def go1 (μ : la_Mem) (x d : Int32) : la_Mem := la_ms (la_ms (la_ms μ 12 (μ 10 4).toNatClampNeg x) 13 (μ 10 4).toNatClampNeg d) 10 4 (μ 10 4 + 1)
def go2 (ν : la_Mem) (x d : Int32) : la_Mem := la_ms (la_ms (la_ms ν 12 (ν 0 14).toNatClampNeg x) 13 (ν 0 14).toNatClampNeg d) 0 14 (ν 0 14 + 1)
theorem go_R {μ ν : la_Mem} (hr : Rl μ ν) (x d : Int32) : Rl (go1 μ x d) (go2 ν x d) := by
  unfold go1 go2
  rw [rl_falling hr]
  exact rw_falling (rw_fallD (rw_fallW hr _ _) _ _) _
theorem cf_sum {μ : la_Mem} (hc : CI μ) : (μ 10 3 + μ 10 4).toInt = (μ 10 3).toInt + (μ 10 4).toInt := by
  obtain ⟨l1, l2, l3, -⟩ := hc.2.2.2.1
  rw [fb_addI] <;> omega
theorem isFull_f {μ : la_Mem} (hc : CI μ) (h : (μ 10 3).toInt + (μ 10 4).toInt < 24) : fX2_isFull μ = some 0 := by
  unfold fX2_isFull
  rw [if_pos (by rw [pu_lt, cf_sum hc, z24]; exact h)]
theorem isFull_t {μ : la_Mem} (hc : CI μ) (h : ¬ (μ 10 3).toInt + (μ 10 4).toInt < 24) : fX2_isFull μ = some 1 := by
  unfold fX2_isFull
  rw [if_neg (by rw [pu_lt, cf_sum hc, z24]; exact h)]
theorem go_I {μ : la_Mem} (hc : CI μ) {x d : Int32} (h24 : (μ 10 3).toInt + (μ 10 4).toInt < 24) (hx : x = 100 ∨ (Bd x 0 ((μ 4 5).toInt - 1) ∧ sh (μ 9) 12 + nb (μ 11) (μ 10 3).toInt.toNat + nb (μ 12) (μ 10 4).toInt.toNat + (μ 14 3).toInt + bx (μ 7) (μ 4 5).toInt.toNat + 1 ≤ (μ 4 5).toInt)) : CI (go1 μ x d) := by
  obtain ⟨a1, a2, a3, a4, a5, a6, a7, a8, a9⟩ := hc
  obtain ⟨l1, l2, l3, l4, l5, l6⟩ := a4
  have ei : (μ 10 4 + 1).toInt = (μ 10 4).toInt + 1 := inc1 (by omega) (by omega)
  have f12 : la_ms μ 12 (μ 10 4).toNatClampNeg x 12 = upd (μ 12) (μ 10 4).toNatClampNeg x := la_ms_self
  have hn : (μ 10 4).toNatClampNeg = (μ 10 4).toInt.toNat := rfl
  have hinner : CA (μ 24) (μ 2) (μ 3) (μ 25) (μ 26) ∧ CM (μ 4 5) (μ 5) (μ 6) ∧ CH (μ 4 5) (μ 9) (fun p => μ (36 + p)) ∧ CL (μ 4 5) (μ 10 3) (μ 10 4 + 1) (μ 10 5) (μ 11) (upd (μ 12) (μ 10 4).toNatClampNeg x) ∧ CB (μ 4 5) (μ 14 3) (μ 15) (μ 16) ∧ CE (μ 4 5) (μ 10 3) (μ 10 4 + 1) (μ 14 3) (μ 9) (μ 11) (upd (μ 12) (μ 10 4).toNatClampNeg x) (μ 7) ∧ CS (μ 18 2) (μ 20) ∧ Bd (μ 21 1) 0 60 ∧ CZ (fun s => μ (28 + s)) := by
    refine ⟨a1, a2, a3, ⟨l1, by omega, by omega, l4, l5, fun i hi => ?_⟩, a5, ?_, a7, a8, a9⟩
    · rw [ei] at hi
      unfold upd
      split
      · rcases hx with hx | hx
        · exact Or.inl hx
        · exact Or.inr hx.1
      · exact l6 i (by omega)
    · unfold CE at a6 ⊢
      rw [ei, show ((μ 10 4).toInt + 1).toNat = (μ 10 4).toInt.toNat + 1 by omega, hn, nb_push]
      rcases hx with hx | hx
      · rw [if_pos hx]; omega
      · have := hx.2
        split <;> omega
  unfold go1
  apply ci_10_4
  have g : ∀ a, a ≠ 12 → a ≠ 13 → la_ms (la_ms μ 12 (μ 10 4).toNatClampNeg x) 13 (μ 10 4).toNatClampNeg d a = μ a := fun a h1 h2 => by rw [pu_msr h2, pu_msr h1]
  have g12 : la_ms (la_ms μ 12 (μ 10 4).toNatClampNeg x) 13 (μ 10 4).toNatClampNeg d 12 = upd (μ 12) (μ 10 4).toNatClampNeg x := by rw [pu_msr (by decide), la_ms_self]
  have g36 : (fun p => la_ms (la_ms μ 12 (μ 10 4).toNatClampNeg x) 13 (μ 10 4).toNatClampNeg d (36 + p)) = fun p => μ (36 + p) := funext fun p => g _ (by omega) (by omega)
  have g28 : (fun p => la_ms (la_ms μ 12 (μ 10 4).toNatClampNeg x) 13 (μ 10 4).toNatClampNeg d (28 + p)) = fun p => μ (28 + p) := funext fun p => g _ (by omega) (by omega)
  rw [g36, g28, g12, g 24 (by decide) (by decide), g 2 (by decide) (by decide), g 3 (by decide) (by decide), g 25 (by decide) (by decide), g 26 (by decide) (by decide), g 4 (by decide) (by decide), g 5 (by decide) (by decide), g 6 (by decide) (by decide), g 9 (by decide) (by decide), g 10 (by decide) (by decide), g 11 (by decide) (by decide), g 14 (by decide) (by decide), g 15 (by decide) (by decide), g 16 (by decide) (by decide), g 7 (by decide) (by decide), g 18 (by decide) (by decide), g 20 (by decide) (by decide), g 21 (by decide) (by decide)]
  exact hinner
theorem letGo_c {μ : la_Mem} (hc : CI μ) {x d : Int32} (h24 : (μ 10 3).toInt + (μ 10 4).toInt < 24) : fX2_letGo x d μ = if x = 100 then some (la_ms (go1 μ x d) 10 5 (μ 10 5 + 1)) else some (go1 μ x d) := by
  obtain ⟨l1, l2, l3, -⟩ := hc.2.2.2.1
  have ix : la_ix (μ 10 4) 24 = true := pu_ix.mpr ⟨l2, by omega⟩
  have e1 : ∀ j v, la_ms μ 12 j v 10 = μ 10 := fun j v => pu_msr (by decide)
  have e2 : ∀ (m : la_Mem) j v, la_ms m 13 j v 10 = m 10 := fun m j v => pu_msr (by decide)
  have e3 : ∀ (m : la_Mem) v, la_ms m 10 4 v 10 5 = m 10 5 := fun m v => by rw [la_ms_self, pk_un (by decide)]
  unfold fX2_letGo go1
  rw [isFull_f hc h24]
  simp only [Option.bind_some, pu_st, e1, e2, e3, pu_if ix]
  rw [if_pos trivial]
theorem lets_m {μ ν : la_Mem} (hc : CI μ) (hr : Rl μ ν) {x y : Int32} (h24 : (μ 10 3).toInt + (μ 10 4).toInt < 24) : fX8_lets x y ν = some (ν 0 11 + 2 + y, go2 ν x (ν 0 11 + 2 + y)) := by
  obtain ⟨l1, l2, l3, -⟩ := hc.2.2.2.1
  have ix : la_ix (ν 0 14) 24 = true := pu_ix.mpr (by rw [rl_falling hr]; omega)
  have e1 : ∀ j v, la_ms ν 12 j v 0 = ν 0 := fun j v => pu_msr (by decide)
  have e2 : ∀ (m : la_Mem) j v, la_ms m 13 j v 0 = m 0 := fun m j v => pu_msr (by decide)
  have e3 : ∀ (m : la_Mem) v, la_ms m 0 14 v 0 11 = m 0 11 := fun m v => by rw [la_ms_self, pk_un (by decide)]
  unfold fX8_lets go2
  simp only [pu_st, e1, e2, e3, pu_if ix]
theorem st_band (μ ν : la_Mem) (h : Iv μ ν) : ∃ (r : Int32) (μ' ν' : la_Mem), fX7_band μ = some (r, μ') ∧ fX8_band ν = some (r, ν') ∧ Iv μ' ν' := by
  obtain ⟨hc, hr⟩ := h
  obtain ⟨l1, l2, l3, l4, l5, l6⟩ := hc.2.2.2.1
  unfold fX7_band fX8_band
  rw [rl_bands hr, rl_come hr, rl_falling hr]
  by_cases hb : (μ 10 5).toInt < 12
  · rw [if_pos (show μ 10 5 < 12 by rw [pu_lt, z12]; exact hb), if_neg (show ¬ μ 10 5 = 12 by rw [pu_eq, z12]; omega)]
    by_cases h24 : (μ 10 3).toInt + (μ 10 4).toInt < 24
    · have ei : (μ 10 5 + 1).toInt = (μ 10 5).toInt + 1 := inc1 (by have := l4.1; omega) (by omega)
      have hc2 := go_I hc (x := 100) (d := μ 0 11 + 2) h24 (Or.inl rfl)
      have b10 : go1 μ 100 (μ 0 11 + 2) 10 5 = μ 10 5 := by unfold go1; rw [la_ms_self, pk_un (by decide), pu_msr (show 10 ≠ 13 by decide), pu_msr (show 10 ≠ 12 by decide)]
      have ez : μ 0 11 + 2 + 0 = μ 0 11 + 2 := by simp
      rw [isFull_f hc h24, Option.bind_some, if_pos rfl, pu_st, letGo_c hc h24, if_pos rfl, if_neg (by rw [pu_eq, cf_sum hc, z24]; omega), pu_st]
      have em : fX8_lets 100 0 (la_ms ν 0 17 (μ 10 5 + 1)) = some (μ 0 11 + 2, la_ms (go2 ν 100 (μ 0 11 + 2)) 0 17 (μ 10 5 + 1)) := by
        have ix : la_ix (μ 10 4) 24 = true := pu_ix.mpr ⟨l2, by omega⟩
        have e0 : ∀ v, la_ms ν 0 17 v 0 14 = ν 0 14 := fun v => by rw [la_ms_self, pk_un (by decide)]
        have e0b : ∀ v, la_ms ν 0 17 v 0 11 = ν 0 11 := fun v => by rw [la_ms_self, pk_un (by decide)]
        have e1 : ∀ (m : la_Mem) j v, la_ms m 12 j v 0 = m 0 := fun m j v => pu_msr (by decide)
        have e2 : ∀ (m : la_Mem) j v, la_ms m 13 j v 0 = m 0 := fun m j v => pu_msr (by decide)
        have e3 : ∀ (m : la_Mem) v, la_ms m 0 14 v 0 11 = m 0 11 := fun m v => by rw [la_ms_self, pk_un (by decide)]
        unfold fX8_lets go2
        simp only [pu_st, e1, e2, e3, e0, e0b, rl_falling hr, rl_now hr, pu_if ix, ez]
        congr 2
        rw [ms_comm (a := 0) (b := 12) (by decide), ms_comm (a := 0) (b := 13) (by decide)]
        funext c d
        simp only [pu_ms]
        by_cases hc0 : c = 0
        · by_cases h1 : d = 14
          · subst h1; simp [hc0]
          · by_cases h2 : d = 17
            · subst h2; simp [hc0]
            · simp [hc0, h1, h2]
        · simp [hc0]
      refine ⟨μ 0 11 + 2, _, _, rfl, by rw [em]; rfl, ?_, ?_⟩
      · apply ci_10_5
        obtain ⟨a1, a2, a3, a4, a5, a6, a7, a8, a9⟩ := hc2
        refine ⟨a1, a2, a3, ⟨a4.1, a4.2.1, a4.2.2.1, ⟨by have := l4.1; omega, by omega⟩, a4.2.2.2.2⟩, a5, a6, a7, a8, a9⟩
      · exact rw_bands (go_R hr 100 (μ 0 11 + 2)) (μ 10 5 + 1)
    · rw [isFull_t hc h24, Option.bind_some, if_neg (by decide), if_pos (by rw [pu_eq, cf_sum hc, z24]; omega)]
      exact ⟨-3, μ, ν, rfl, rfl, hc, hr⟩
  · rw [if_neg (show ¬ μ 10 5 < 12 by rw [pu_lt, z12]; exact hb), if_pos (show μ 10 5 = 12 by rw [pu_eq, z12]; have := l4.2; omega)]
    exact ⟨-4, μ, ν, rfl, rfl, hc, hr⟩
