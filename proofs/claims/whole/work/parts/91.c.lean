theorem isS_t {a : Int32} {μ : la_Mem} (h1 : 0 ≤ a.toInt) (h2 : a.toInt < 4) : fX7_isSheet a μ = some 1 := by
  unfold fX7_isSheet
  rw [if_neg (by rw [pu_lt, z0]; omega), if_neg (by rw [pu_le, z4]; omega)]
theorem isS_f {a : Int32} {μ : la_Mem} (h : ¬ (0 ≤ a.toInt ∧ a.toInt < 4)) : fX7_isSheet a μ = some 0 := by
  unfold fX7_isSheet
  by_cases h1 : a < 0
  · rw [if_pos h1]
  · rw [if_neg h1, if_pos (by rw [pu_lt, z0] at h1; rw [pu_le, z4]; omega)]
theorem isLn_t {a : Int32} {μ : la_Mem} (h1 : 0 ≤ a.toInt) (h2 : a.toInt < 3) : fX7_isLane a μ = some 1 := by
  unfold fX7_isLane
  rw [if_neg (by rw [pu_lt, z0]; omega), if_neg (by rw [pu_le, z3]; omega)]
theorem isLn_f {a : Int32} {μ : la_Mem} (h : ¬ (0 ≤ a.toInt ∧ a.toInt < 3)) : fX7_isLane a μ = some 0 := by
  unfold fX7_isLane
  by_cases h1 : a < 0
  · rw [if_pos h1]
  · rw [if_neg h1, if_pos (by rw [pu_lt, z0] at h1; rw [pu_le, z3]; omega)]
theorem mS_t {a : Int32} {μ : la_Mem} (h1 : 0 ≤ a.toInt) (h2 : a.toInt < 4) : fX8_isSheet a μ = some 1 := by
  unfold fX8_isSheet
  rw [in_t 0 3 rfl rfl h1 (by omega)]
  rfl
theorem mS_f {a : Int32} {μ : la_Mem} (h : ¬ (0 ≤ a.toInt ∧ a.toInt < 4)) : fX8_isSheet a μ = some 0 := by
  unfold fX8_isSheet
  rw [in_f 0 3 rfl rfl (by omega)]
  rfl
theorem mL_t {a : Int32} {μ : la_Mem} (h1 : 0 ≤ a.toInt) (h2 : a.toInt < 3) : fX8_isLane a μ = some 1 := by
  unfold fX8_isLane
  rw [in_t 0 2 rfl rfl h1 (by omega)]
  rfl
theorem mL_f {a : Int32} {μ : la_Mem} (h : ¬ (0 ≤ a.toInt ∧ a.toInt < 3)) : fX8_isLane a μ = some 0 := by
  unfold fX8_isLane
  rw [in_f 0 2 rfl rfl (by omega)]
  rfl
theorem CZ_of {μ : la_Mem} (h : CI μ) {s : Nat} (hs : s < 4) : (μ (28 + s) 1 = 0 ∨ μ (28 + s) 1 = 1) ∧ Bd (μ (28 + s) 2) 0 2 ∧ Bd (μ (28 + s) 3) 0 40 := h.2.2.2.2.2.2.2.2 s hs
/-- what refuses n items of a sheet from one on; 0 -/
def flt (μ : la_Mem) (s : Nat) (x2 x3 x4 : Int32) : Int32 := if μ (28 + s) 1 = 0 then -11 else if μ (28 + s) 2 = x2 then (if 0 ≤ x3.toInt ∧ x3.toInt + x4.toInt ≤ (μ (28 + s) 3).toInt then 0 else -13) else -12
theorem spans_t {μ : la_Mem} {s : Nat} {x y : Int32} (hl : Bd (μ (28 + s) 3) 0 40) (h1 : 0 ≤ x.toInt) (hy : 0 ≤ y.toInt) (h2 : x.toInt + y.toInt ≤ (μ (28 + s) 3).toInt) : fX3_spans s x y μ = some 1 := by
  have e : (μ (28 + s) 3 - y).toInt = (μ (28 + s) 3).toInt - y.toInt := by
    obtain ⟨q1, q2⟩ := hl
    rw [fb_subI] <;> omega
  unfold fX3_spans
  rw [if_neg (by rw [pu_lt, z0]; omega), if_neg (by rw [pu_lt, z0]; omega), if_neg (by rw [pu_lt]; omega), if_neg (by rw [pu_lt, e]; omega)]
theorem spans_f {μ : la_Mem} {s : Nat} {x y : Int32} (hl : Bd (μ (28 + s) 3) 0 40) (h : ¬ (0 ≤ x.toInt ∧ 0 ≤ y.toInt ∧ x.toInt + y.toInt ≤ (μ (28 + s) 3).toInt)) : fX3_spans s x y μ = some 0 := by
  obtain ⟨q1, q2⟩ := hl
  unfold fX3_spans
  by_cases h1 : x < 0
  · rw [if_pos h1]
  · rw [if_neg h1]
    by_cases h2 : y < 0
    · rw [if_pos h2]
    · rw [if_neg h2]
      by_cases h3 : μ (28 + s) 3 < y
      · rw [if_pos h3]
      · rw [if_neg h3]
        have e : (μ (28 + s) 3 - y).toInt = (μ (28 + s) 3).toInt - y.toInt := by
          rw [pu_lt, z0] at h2
          rw [pu_lt] at h3
          rw [fb_subI] <;> omega
        rw [pu_lt, z0] at h1 h2
        rw [pu_lt] at h3
        rw [if_pos (by rw [pu_lt, e]; omega)]
theorem fault_c {μ : la_Mem} (hc : CI μ) {x1 x2 x3 x4 : Int32} (h1 : 0 ≤ x1.toInt) (h2 : x1.toInt < 4) (h3 : 0 ≤ x2.toInt) (h4 : x2.toInt < 3) (h5 : 0 ≤ x4.toInt) : fX7_sheetFault x1 x2 x3 x4 μ = some (flt μ x1.toNatClampNeg x2 x3 x4) := by
  have ix : la_ix x1 4 = true := pu_ix.mpr ⟨h1, h2⟩
  have hz := CZ_of hc (pu_cl (n := 4) h1 h2)
  unfold fX7_sheetFault flt
  rw [isS_t h1 h2, isLn_t h3 h4, Option.bind_some, if_neg (by decide), Option.bind_some, if_neg (by decide), pu_if ix]
  by_cases q1 : μ (28 + x1.toNatClampNeg) 1 = 0
  · rw [if_pos q1, if_pos q1]
  · rw [if_neg q1, if_neg q1]
    by_cases q2 : μ (28 + x1.toNatClampNeg) 2 = x2
    · rw [if_pos q2, if_pos q2]
      by_cases q3 : 0 ≤ x3.toInt ∧ x3.toInt + x4.toInt ≤ (μ (28 + x1.toNatClampNeg) 3).toInt
      · rw [if_pos q3, spans_t hz.2.2 q3.1 h5 q3.2]; rfl
      · rw [if_neg q3, spans_f hz.2.2 (by omega)]; rfl
    · rw [if_neg q2, if_neg q2]
theorem lgle (u v : Int64) : lg_cmp u v ≤ 0 ↔ u.toInt ≤ v.toInt := by
  unfold lg_cmp
  by_cases h1 : u > v
  · rw [if_pos h1]
    have : v < u := h1
    rw [Int64.lt_iff_toInt_lt] at this
    constructor
    · intro q; exact absurd q (by decide)
    · intro q; omega
  · rw [if_neg h1]
    have : ¬ v < u := h1
    rw [Int64.lt_iff_toInt_lt] at this
    constructor
    · intro _; omega
    · intro _; split <;> decide
theorem add64 (x y : Int32) : (x.toInt64 + y.toInt64).toInt = x.toInt + y.toInt := by
  have h1 := fb_rng x
  have h2 := fb_rng y
  rw [Int64.toInt_add, Int32.toInt_toInt64, Int32.toInt_toInt64, Int.bmod_eq_of_le (by omega) (by omega)]
theorem lane_neg {μ ν : la_Mem} (hc : CI μ) (hr : Rl μ ν) {s : Nat} (hs : s < 4) : (0 ≤ ν 22 s ↔ ¬ μ (28 + s) 1 = 0) ∧ (¬ μ (28 + s) 1 = 0 → ν 22 s = μ (28 + s) 2) := by
  have hz := CZ_of hc hs
  rw [rl_lane hr hs]
  by_cases q : μ (28 + s) 1 = 0
  · rw [if_pos q]
    exact ⟨⟨fun h => absurd h (by decide), fun h => absurd q h⟩, fun h => absurd q h⟩
  · rw [if_neg q]
    exact ⟨⟨fun _ => q, fun _ => by rw [pu_le, z0]; exact hz.2.1.1⟩, fun _ => rfl⟩
theorem fault_m {μ ν : la_Mem} (hc : CI μ) (hr : Rl μ ν) {x1 x2 x3 x4 : Int32} (h1 : 0 ≤ x1.toInt) (h2 : x1.toInt < 4) : fX8_finds x1 x2 x3 x4 ν = some (flt μ x1.toNatClampNeg x2 x3 x4) := by
  have ix : la_ix x1 4 = true := pu_ix.mpr ⟨h1, h2⟩
  have hs := pu_cl (n := 4) h1 h2
  have hn := lane_neg hc hr hs
  unfold fX8_finds flt fX8_finds_J46
  simp only [pu_if ix]
  by_cases q1 : μ (28 + x1.toNatClampNeg) 1 = 0
  · rw [if_neg (fun q => hn.1.mp q q1), if_pos q1]
  · rw [if_pos (hn.1.mpr q1), if_neg q1, hn.2 q1]
    by_cases q2 : μ (28 + x1.toNatClampNeg) 2 = x2
    · rw [if_pos q2, if_pos q2]
      by_cases q3 : x3 < 0
      · rw [if_pos q3, if_neg (by rw [pu_lt, z0] at q3; omega)]
      · rw [if_neg q3]
        rw [pu_lt, z0] at q3
        by_cases q4 : x3.toInt + x4.toInt ≤ (μ (28 + x1.toNatClampNeg) 3).toInt
        · rw [if_pos (by rw [lgle, add64, rl_size hr hs, Int32.toInt_toInt64]; exact q4), if_pos ⟨by omega, q4⟩]
        · rw [if_neg (by rw [lgle, add64, rl_size hr hs, Int32.toInt_toInt64]; exact q4), if_neg (by omega)]
    · rw [if_neg q2, if_neg q2]
theorem flt_cases (μ : la_Mem) (s : Nat) (x2 x3 x4 : Int32) : (flt μ s x2 x3 x4 = 0 ∧ μ (28 + s) 1 ≠ 0 ∧ μ (28 + s) 2 = x2 ∧ 0 ≤ x3.toInt ∧ x3.toInt + x4.toInt ≤ (μ (28 + s) 3).toInt) ∨ (¬ flt μ s x2 x3 x4 = 0 ∧ ¬ 0 ≤ flt μ s x2 x3 x4) := by
  unfold flt
  by_cases q1 : μ (28 + s) 1 = 0
  · rw [if_pos q1]; exact Or.inr ⟨by decide, by decide⟩
  · rw [if_neg q1]
    by_cases q2 : μ (28 + s) 2 = x2
    · rw [if_pos q2]
      by_cases q3 : 0 ≤ x3.toInt ∧ x3.toInt + x4.toInt ≤ (μ (28 + s) 3).toInt
      · rw [if_pos q3]; exact Or.inl ⟨rfl, q1, q2, q3.1, q3.2⟩
      · rw [if_neg q3]; exact Or.inr ⟨by decide, by decide⟩
    · rw [if_neg q2]; exact Or.inr ⟨by decide, by decide⟩
theorem add_ix {x : Int32} {a i n : Nat} (hx : x.toInt = a) (h : a + i < n) (hn : n ≤ 100000) : la_ix (x + nI i) n = true ∧ (x + nI i).toNatClampNeg = a + i := by
  have ei : (nI i).toInt = i := nI_toInt (by omega)
  have e : (x + nI i).toInt = a + i := by
    rw [fb_addI] <;> rw [hx, ei] <;> omega
  constructor
  · rw [pu_ix, e]; omega
  · rw [nx0 e (by omega)]; omega
theorem st_item (a b c d : Int32) (μ ν : la_Mem) (h : Iv μ ν) : ∃ (r : Int32) (μ' ν' : la_Mem), fX7_item a b c d μ = some (r, μ') ∧ fX8_item a b c d ν = some (r, ν') ∧ Iv μ' ν' := by
  obtain ⟨hc, hr⟩ := h
  by_cases ha : 0 ≤ a.toInt ∧ a.toInt < 4
  · by_cases hb : 0 ≤ b.toInt ∧ b.toInt < 3
    · have ix : la_ix a 4 = true := pu_ix.mpr ha
      have hs := pu_cl (n := 4) ha.1 ha.2
      have hz := CZ_of hc hs
      have e1 := fault_c hc (x3 := c) (x4 := 1) ha.1 ha.2 hb.1 hb.2 (by decide)
      have e2 := fault_m hc hr (x2 := b) (x3 := c) (x4 := 1) ha.1 ha.2
      rcases flt_cases μ a.toNatClampNeg b c 1 with ⟨q0, q1, q2, q3, q4⟩ | ⟨q0, q1⟩
      · rw [z1] at q4
        have h40 : c.toInt < 40 := by have := hz.2.2.2; omega
        have ixc : la_ix c 40 = true := pu_ix.mpr ⟨q3, h40⟩
        have hcl := pu_cl (n := 40) q3 h40
        have hq := mul_ix (k := 40) (K := 40) (x := a) (y := c) (a := a.toNatClampNeg) (b := c.toNatClampNeg) (n := 160) rfl (by decide) (pu_nx ha.1).symm (pu_nx q3).symm (by omega) (by omega) (by omega)
        have fin : ∀ v : Int32, fX7_lowestBits b d μ = some v → (fX8_item a b c d ν = fX8_item_J67 v (40 * a + c) ν) → ∃ (r : Int32) (μ' ν' : la_Mem), fX7_item a b c d μ = some (r, μ') ∧ fX8_item a b c d ν = some (r, ν') ∧ Iv μ' ν' := by
          intro v w1 w2
          refine ⟨1, la_ms μ (28 + a.toNatClampNeg + 4) c.toNatClampNeg v, la_ms ν 24 (40 * a.toNatClampNeg + c.toNatClampNeg) v, ?_, ?_, ci_free (by omega) hc, rw_item hr hs hcl v⟩
          · unfold fX7_item; rw [e1, q0, Option.bind_some, if_pos rfl, pu_if ix, w1, Option.bind_some, pu_if ixc, pu_st]
          · rw [w2]; unfold fX8_item_J67; rw [pu_if hq.1, pu_st, hq.2]
        have e3 : fX8_item a b c d ν = if b = 0 then fX8_item_J67 d.toInt8.toInt32 (40 * a + c) ν else if b = 1 then fX8_item_J67 d.toInt16.toInt32 (40 * a + c) ν else fX8_item_J67 d (40 * a + c) ν := by
          unfold fX8_item
          rw [mS_t ha.1 ha.2, mL_t hb.1 hb.2, e2, q0]
          rfl
        by_cases b0 : b = 0
        · exact fin _ (by unfold fX7_lowestBits; rw [if_pos b0]) (by rw [e3, if_pos b0])
        · by_cases b1 : b = 1
          · exact fin _ (by unfold fX7_lowestBits; rw [if_neg b0, if_pos b1]) (by rw [e3, if_neg b0, if_pos b1])
          · exact fin _ (by unfold fX7_lowestBits; rw [if_neg b0, if_neg b1]) (by rw [e3, if_neg b0, if_neg b1])
      · refine ⟨flt μ a.toNatClampNeg b c 1, μ, ν, ?_, ?_, hc, hr⟩
        · unfold fX7_item; rw [e1, Option.bind_some, if_neg q0]
        · unfold fX8_item; rw [mS_t ha.1 ha.2, mL_t hb.1 hb.2, e2, Option.bind_some, if_neg (by decide), Option.bind_some, if_neg (by decide), Option.bind_some, if_neg q1]
    · refine ⟨-1, μ, ν, ?_, ?_, hc, hr⟩
      · unfold fX7_item fX7_sheetFault; rw [isS_t ha.1 ha.2, isLn_f hb]; rfl
      · unfold fX8_item; rw [mS_t ha.1 ha.2, mL_f hb]; rfl
  · refine ⟨-1, μ, ν, ?_, ?_, hc, hr⟩
    · unfold fX7_item fX7_sheetFault; rw [isS_f ha]; rfl
    · unfold fX8_item; rw [mS_f ha]; rfl
theorem CZ_set {z : Nat → Nat → Int32} {q j : Nat} {v : Int32} (h : CZ z) (h1 : j = 1 → v = 0 ∨ v = 1) (h2 : j = 2 → Bd v 0 2) (h3 : j = 3 → Bd v 0 40) : CZ (fun s => if s = q then upd (z q) j v else z s) := by
  intro s hs
  dsimp only
  by_cases e : s = q
  · subst e
    rw [if_pos rfl]
    obtain ⟨a1, a2, a3⟩ := h s hs
    refine ⟨?_, ?_, ?_⟩
    · unfold upd; split
      · rename_i q; exact h1 q.symm
      · exact a1
    · unfold upd; split
      · rename_i q; exact h2 q.symm
      · exact a2
    · unfold upd; split
      · rename_i q; exact h3 q.symm
      · exact a3
  · rw [if_neg e]; exact h s hs
theorem ci_z {μ : la_Mem} (hc : CI μ) {q j : Nat} {v : Int32} (hq : q < 4) (h1 : j = 1 → v = 0 ∨ v = 1) (h2 : j = 2 → Bd v 0 2) (h3 : j = 3 → Bd v 0 40) : CI (la_ms μ (28 + q) j v) :=
  ci_28 hq ⟨hc.1, hc.2.1, hc.2.2.1, hc.2.2.2.1, hc.2.2.2.2.1, hc.2.2.2.2.2.1, hc.2.2.2.2.2.2.1, hc.2.2.2.2.2.2.2.1, CZ_set (z := fun s => μ (28 + s)) hc.2.2.2.2.2.2.2.2 h1 h2 h3⟩
/-- Rl out of cells: all but the sheets' are as they were -/
theorem rl_sheet {μ ν μ' ν' : la_Mem} (h : Rl μ ν) (hm : ∀ a, ¬ (28 ≤ a ∧ a < 36) → μ' a = μ a) (hn : ∀ a, a ≠ 22 → a ≠ 23 → a ≠ 24 → a ≠ 25 → ν' a = ν a) (hl : ∀ s, s < 4 → ν' 22 s = (if μ' (28 + s) 1 = 0 then -1 else μ' (28 + s) 2)) (hz : ∀ s, s < 4 → ν' 23 s = μ' (28 + s) 3) (hi : ∀ s i, s < 4 → i < 40 → ν' 24 (40 * s + i) = μ' (28 + s + 4) i) : Rl μ' ν' := by
  obtain ⟨⟨a0, a1, a2, a3, a4, a5, a6, a7, a8, a9, a10, a11, a12, a13, a14, a15, a16⟩, hs, hc, hb, -, -, -⟩ := h
  refine ⟨⟨?_, ?_, ?_, ?_, ?_, ?_, ?_, ?_, ?_, ?_, ?_, ?_, ?_, ?_, ?_, ?_, ?_⟩, ?_, ?_, ?_, hl, hz, hi⟩
  · rw [hn _ (by decide) (by decide) (by decide) (by decide), hm _ (by omega), a0]
  · rw [hn _ (by decide) (by decide) (by decide) (by decide), hm _ (by omega), a1]
  · rw [hn _ (by decide) (by decide) (by decide) (by decide), hm _ (by omega), a2]
  · rw [hn _ (by decide) (by decide) (by decide) (by decide), hm _ (by omega), a3]
  · rw [hn _ (by decide) (by decide) (by decide) (by decide), hm _ (by omega), a4]
  · rw [hn _ (by decide) (by decide) (by decide) (by decide), hm _ (by omega), a5]
  · rw [hn _ (by decide) (by decide) (by decide) (by decide), hm _ (by omega), a6]
  · rw [hn _ (by decide) (by decide) (by decide) (by decide), hm _ (by omega), a7]
  · rw [hn _ (by decide) (by decide) (by decide) (by decide), hm _ (by omega), a8]
  · rw [hn _ (by decide) (by decide) (by decide) (by decide), hm _ (by omega), a9]
  · rw [hn _ (by decide) (by decide) (by decide) (by decide), hm _ (by omega), a10]
  · rw [hn _ (by decide) (by decide) (by decide) (by decide), hm _ (by omega), a11]
  · rw [hn _ (by decide) (by decide) (by decide) (by decide), hm _ (by omega), a12]
  · rw [hn _ (by decide) (by decide) (by decide) (by decide), hm _ (by omega), a13]
  · rw [hn _ (by decide) (by decide) (by decide) (by decide), hm _ (by omega), a14]
  · rw [hn _ (by decide) (by decide) (by decide) (by decide), hm _ (by omega), a15]
  · rw [hn _ (by decide) (by decide) (by decide) (by decide), hm _ (by omega), a16]
  · rw [hn 0 (by decide) (by decide) (by decide) (by decide), hm 4 (by omega), hm 0 (by omega), hm 10 (by omega), hm 14 (by omega), hm 18 (by omega), hm 21 (by omega)]; exact hs
  · intro p i h1 h2; rw [hn 10 (by decide) (by decide) (by decide) (by decide), hm _ (by omega)]; exact hc p i h1 h2
  · intro p i h1 h2; rw [hn 18 (by decide) (by decide) (by decide) (by decide), hm _ (by omega)]; exact hb p i h1 h2
theorem st_drop (a : Int32) (μ ν : la_Mem) (h : Iv μ ν) : ∃ (r : Int32) (μ' ν' : la_Mem), fX7_drop a μ = some (r, μ') ∧ fX8_drop a ν = some (r, ν') ∧ Iv μ' ν' := by
  obtain ⟨hc, hr⟩ := h
  by_cases ha : 0 ≤ a.toInt ∧ a.toInt < 4
  · have ix : la_ix a 4 = true := pu_ix.mpr ha
    have hs := pu_cl (n := 4) ha.1 ha.2
    have hn := lane_neg hc hr hs
    by_cases q1 : μ (28 + a.toNatClampNeg) 1 = 0
    · refine ⟨-11, μ, ν, ?_, ?_, hc, hr⟩
      · unfold fX7_drop; rw [isS_t ha.1 ha.2, Option.bind_some, if_neg (by decide), pu_if ix, if_pos q1]
      · unfold fX8_drop; rw [mS_t ha.1 ha.2, Option.bind_some, if_neg (by decide), pu_if ix, if_neg (fun q => hn.1.mp q q1)]
    · refine ⟨μ (28 + a.toNatClampNeg) 3, la_ms μ (28 + a.toNatClampNeg) 1 0, la_ms ν 22 a.toNatClampNeg (-1), ?_, ?_, ci_z hc hs (fun _ => Or.inl rfl) (fun q => by omega) (fun q => by omega), ?_⟩
      · unfold fX7_drop; rw [isS_t ha.1 ha.2, Option.bind_some, if_neg (by decide)]; simp only [pu_if ix, pu_st]; rw [if_neg q1, pu_ms, if_pos rfl, if_neg (by decide)]
      · unfold fX8_drop; rw [mS_t ha.1 ha.2, Option.bind_some, if_neg (by decide)]; simp only [pu_if ix, pu_st]; rw [if_pos (hn.1.mpr q1), pu_msr (by decide), rl_size hr hs]
      · refine rl_sheet hr (fun b hb => pu_msr (by omega)) (fun b h1 _ _ _ => pu_msr h1) (fun s h1 => ?_) (fun s h1 => ?_) (fun s i h1 h2 => ?_)
        · by_cases e : s = a.toNatClampNeg
          · subst e
            simp [pu_ms]
          · simp [pu_ms, e]
            exact rl_lane hr h1
        · rw [pu_msr (by decide), pu_ms]
          by_cases e : s = a.toNatClampNeg
          · rw [if_pos (by omega), if_neg (by decide), ← e]; exact rl_size hr h1
          · rw [if_neg (by omega)]; exact rl_size hr h1
        · rw [pu_msr (by decide), pu_msr (by omega)]; exact rl_item hr h1 h2
  · refine ⟨-1, μ, ν, ?_, ?_, hc, hr⟩
    · unfold fX7_drop; rw [isS_f ha]; rfl
    · unfold fX8_drop; rw [mS_f ha]; rfl
theorem sheet_P {x1 x3 : Int32} (h1 : 0 ≤ x1.toInt) (h2 : x1.toInt < 4) : ∀ (k n i : Nat) (μ ν : la_Mem), i + k = 40 → k < n → CI μ → Rl μ ν → ∃ μ' ν', fX3_hold_L17 x1.toNatClampNeg n (nI i) μ = some μ' ∧ fX8_sheet_L46 x1 x3 n (nI i) ν = some ν' ∧ CI μ' ∧ Rl μ' ν' := by
  have hs := pu_cl (n := 4) h1 h2
  intro k
  induction k with
  | zero =>
    intro n i μ ν e1 e2 hc hr
    obtain ⟨n, rfl⟩ : ∃ m, n = m + 1 := ⟨n - 1, by omega⟩
    have hge : (40 : Int32) ≤ nI i := by rw [pu_le, z40, nI_toInt (by omega)]; omega
    exact ⟨μ, ν, by rw [fX3_hold_L17, if_pos hge], by rw [fX8_sheet_L46, if_pos hge], hc, hr⟩
  | succ k ih =>
    intro n i μ ν e1 e2 hc hr
    obtain ⟨n, rfl⟩ : ∃ m, n = m + 1 := ⟨n - 1, by omega⟩
    have hlt : ¬ (40 : Int32) ≤ nI i := by rw [pu_le, z40, nI_toInt (by omega)]; omega
    have hq := mul_ix (k := 40) (K := 40) (x := x1) (y := nI i) (a := x1.toNatClampNeg) (b := i) (n := 160) rfl (by decide) (pu_nx h1).symm (nI_toInt (by omega)) (by omega) (by omega) (by omega)
    obtain ⟨μ', ν', r1, r2, r3⟩ := ih n (i + 1) (la_ms μ (28 + x1.toNatClampNeg + 4) i 0) (la_ms ν 24 (40 * x1.toNatClampNeg + i) 0) (by omega) (by omega) (ci_free (by omega) hc) (rw_item hr hs (by omega) 0)
    refine ⟨μ', ν', ?_, ?_, r3⟩
    · rw [fX3_hold_L17, if_neg hlt, pu_if (nI_ix (by omega) (by decide)), pu_st, nI_clamp (by omega), nI_1, r1]
    · rw [fX8_sheet_L46, if_neg hlt, pu_if hq.1, pu_st, hq.2, nI_1, r2]
theorem st_sheet (a b c : Int32) (μ ν : la_Mem) (h : Iv μ ν) : ∃ (r : Int32) (μ' ν' : la_Mem), fX7_sheet a b c μ = some (r, μ') ∧ fX8_sheet a b c ν = some (r, ν') ∧ Iv μ' ν' := by
  obtain ⟨hc, hr⟩ := h
  by_cases ha : 0 ≤ a.toInt ∧ a.toInt < 4
  · by_cases hb : 0 ≤ b.toInt ∧ b.toInt < 3
    · have ix : la_ix a 4 = true := pu_ix.mpr ha
      have hs := pu_cl (n := 4) ha.1 ha.2
      by_cases q1 : c ≤ 40
      · by_cases q2 : 0 ≤ c
        · have hc3 : CI (la_ms (la_ms (la_ms μ (28 + a.toNatClampNeg) 1 1) (28 + a.toNatClampNeg) 2 b) (28 + a.toNatClampNeg) 3 c) := by
            refine ci_z (ci_z (ci_z hc hs (fun _ => Or.inr rfl) (fun q => by omega) (fun q => by omega)) hs (fun q => by omega) (fun _ => ⟨hb.1, by omega⟩) (fun q => by omega)) hs (fun q => by omega) (fun q => by omega) (fun _ => ?_)
            rw [pu_le, z40] at q1
            rw [pu_le, z0] at q2
            exact ⟨q2, q1⟩
          have hr3 : Rl (la_ms (la_ms (la_ms μ (28 + a.toNatClampNeg) 1 1) (28 + a.toNatClampNeg) 2 b) (28 + a.toNatClampNeg) 3 c) (la_ms (la_ms ν 22 a.toNatClampNeg b) 23 a.toNatClampNeg c) := by
            refine rl_sheet hr (fun x hx => by rw [pu_msr (by omega), pu_msr (by omega), pu_msr (by omega)]) (fun x h1 h2 _ _ => by rw [pu_msr h2, pu_msr h1]) (fun s h1 => ?_) (fun s h1 => ?_) (fun s i h1 h2 => ?_)
            · by_cases e : s = a.toNatClampNeg
              · subst e
                simp [pu_ms]
              · have e2 : ¬ 28 + s = 28 + a.toNatClampNeg := by omega
                simp [pu_ms, e]
                exact rl_lane hr h1
            · by_cases e : s = a.toNatClampNeg
              · subst e
                simp [pu_ms]
              · simp [pu_ms, e]
                exact rl_size hr h1
            · rw [pu_msr (by decide), pu_msr (by decide), pu_msr (by omega), pu_msr (by omega), pu_msr (by omega)]
              exact rl_item hr h1 h2
          obtain ⟨μ', ν', r1, r2, r3, r4⟩ := sheet_P (x3 := c) ha.1 ha.2 40 400 0 _ _ rfl (by decide) hc3 hr3
          refine ⟨c, μ', ν', ?_, ?_, r3, r4⟩
          · unfold fX7_sheet fX3_hold
            rw [isS_t ha.1 ha.2, isLn_t hb.1 hb.2, Option.bind_some, if_neg (by decide), Option.bind_some, if_neg (by decide), if_pos q1, if_pos q2, pu_if ix, pu_st, pu_st, pu_st, show (0 : Int32) = nI 0 from rfl, r1]
            rfl
          · unfold fX8_sheet
            rw [mS_t ha.1 ha.2, mL_t hb.1 hb.2, Option.bind_some, if_neg (by decide), Option.bind_some, if_neg (by decide), if_pos q1, if_pos q2]
            simp only [pu_if ix, pu_st]
            rw [show (0 : Int32) = nI 0 from rfl, r2]
            rfl
        · refine ⟨-14, μ, ν, ?_, ?_, hc, hr⟩
          · unfold fX7_sheet; rw [isS_t ha.1 ha.2, isLn_t hb.1 hb.2, Option.bind_some, if_neg (by decide), Option.bind_some, if_neg (by decide), if_pos q1, if_neg q2]
          · unfold fX8_sheet; rw [mS_t ha.1 ha.2, mL_t hb.1 hb.2, Option.bind_some, if_neg (by decide), Option.bind_some, if_neg (by decide), if_pos q1, if_neg q2]
      · refine ⟨-1, μ, ν, ?_, ?_, hc, hr⟩
        · unfold fX7_sheet; rw [isS_t ha.1 ha.2, isLn_t hb.1 hb.2, Option.bind_some, if_neg (by decide), Option.bind_some, if_neg (by decide), if_neg q1]
        · unfold fX8_sheet; rw [mS_t ha.1 ha.2, mL_t hb.1 hb.2, Option.bind_some, if_neg (by decide), Option.bind_some, if_neg (by decide), if_neg q1]
    · refine ⟨-1, μ, ν, ?_, ?_, hc, hr⟩
      · unfold fX7_sheet; rw [isS_t ha.1 ha.2, isLn_f hb]; rfl
      · unfold fX8_sheet; rw [mS_t ha.1 ha.2, mL_f hb]; rfl
  · refine ⟨-1, μ, ν, ?_, ?_, hc, hr⟩
    · unfold fX7_sheet; rw [isS_f ha]; rfl
    · unfold fX8_sheet; rw [mS_f ha]; rfl
