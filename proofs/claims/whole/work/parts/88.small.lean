theorem in_t {x : Int32} {A B : Int64} {μ : la_Mem} (lo hi : Int) (hA : A.toInt = lo) (hB : B.toInt = hi) (h1 : lo ≤ x.toInt) (h2 : x.toInt ≤ hi) : fX8_in x.toInt64 A B μ = some 1 := by
  rw [pu_in, if_neg (by rw [Int64.lt_iff_toInt_lt, Int32.toInt_toInt64]; omega), if_neg (by rw [Int64.lt_iff_toInt_lt, Int32.toInt_toInt64]; omega)]
theorem in_f {x : Int32} {A B : Int64} {μ : la_Mem} (lo hi : Int) (hA : A.toInt = lo) (hB : B.toInt = hi) (h : ¬ (lo ≤ x.toInt ∧ x.toInt ≤ hi)) : fX8_in x.toInt64 A B μ = some 0 := by
  rw [pu_in]
  by_cases h1 : x.toInt64 < A
  · rw [if_pos h1]
  · rw [if_neg h1, if_pos]
    rw [Int64.lt_iff_toInt_lt, Int32.toInt_toInt64] at *
    omega
theorem z0 : (0 : Int32).toInt = 0 := rfl
theorem z1 : (1 : Int32).toInt = 1 := rfl
theorem z2 : (2 : Int32).toInt = 2 := rfl
theorem z3 : (3 : Int32).toInt = 3 := rfl
theorem z4 : (4 : Int32).toInt = 4 := rfl
theorem z7 : (7 : Int32).toInt = 7 := rfl
theorem z8 : (8 : Int32).toInt = 8 := rfl
theorem z10 : (10 : Int32).toInt = 10 := rfl
theorem z11 : (11 : Int32).toInt = 11 := rfl
theorem z12 : (12 : Int32).toInt = 12 := rfl
theorem z20 : (20 : Int32).toInt = 20 := rfl
theorem z24 : (24 : Int32).toInt = 24 := rfl
theorem z30 : (30 : Int32).toInt = 30 := rfl
theorem z32 : (32 : Int32).toInt = 32 := rfl
theorem z40 : (40 : Int32).toInt = 40 := rfl
theorem z60 : (60 : Int32).toInt = 60 := rfl
theorem z97 : (97 : Int32).toInt = 97 := rfl
theorem z100 : (100 : Int32).toInt = 100 := rfl
theorem z109 : (109 : Int32).toInt = 109 := rfl
theorem z126 : (126 : Int32).toInt = 126 := rfl
theorem z127 : (127 : Int32).toInt = 127 := rfl
theorem z200 : (200 : Int32).toInt = 200 := rfl
theorem z300 : (300 : Int32).toInt = 300 := rfl
theorem z400 : (400 : Int32).toInt = 400 := rfl
theorem zm1 : (-1 : Int32).toInt = -1 := rfl
theorem isLetter_t {a : Int32} {μ : la_Mem} (h1 : 0 ≤ a.toInt) (h2 : a.toInt < 12) : fX7_isLetter a μ = some 1 := by
  unfold fX7_isLetter
  rw [if_neg (by rw [pu_lt, z0]; omega), if_neg (by rw [pu_le, z12]; omega)]
theorem isLetter_f {a : Int32} {μ : la_Mem} (h : ¬ (0 ≤ a.toInt ∧ a.toInt < 12)) : fX7_isLetter a μ = some 0 := by
  unfold fX7_isLetter
  by_cases h1 : a < 0
  · rw [if_pos h1]
  · rw [if_neg h1, if_pos (by rw [pu_lt, z0] at h1; rw [pu_le, z12]; omega)]
theorem isPlace_t {a : Int32} {μ : la_Mem} (h1 : 0 ≤ a.toInt) (h2 : a.toInt < 12) : fX7_isPlace a μ = some 1 := by
  unfold fX7_isPlace
  rw [if_neg (by rw [pu_lt, z0]; omega), if_neg (by rw [pu_le, z12]; omega)]
theorem isPlace_f {a : Int32} {μ : la_Mem} (h : ¬ (0 ≤ a.toInt ∧ a.toInt < 12)) : fX7_isPlace a μ = some 0 := by
  unfold fX7_isPlace
  by_cases h1 : a < 0
  · rw [if_pos h1]
  · rw [if_neg h1, if_pos (by rw [pu_lt, z0] at h1; rw [pu_le, z12]; omega)]
theorem isTeeth_t {a : Int32} {μ : la_Mem} (h1 : 0 ≤ a.toInt) (h2 : a.toInt ≤ 127) : fX7_isTeeth a μ = some 1 := by
  unfold fX7_isTeeth
  rw [if_neg (by rw [pu_lt, z0]; omega), if_neg (by rw [pu_lt, z127]; omega)]
theorem isTeeth_f {a : Int32} {μ : la_Mem} (h : ¬ (0 ≤ a.toInt ∧ a.toInt ≤ 127)) : fX7_isTeeth a μ = some 0 := by
  unfold fX7_isTeeth
  by_cases h1 : a < 0
  · rw [if_pos h1]
  · rw [if_neg h1, if_pos (by rw [pu_lt, z0] at h1; rw [pu_lt, z127]; omega)]
theorem isTwelve_t {a : Int32} {μ : la_Mem} (h1 : 0 ≤ a.toInt) (h2 : a.toInt < 12) : fX8_isTwelve a μ = some 1 := by
  unfold fX8_isTwelve
  rw [in_t 0 11 rfl rfl h1 (by omega)]
  rfl
theorem isTwelve_f {a : Int32} {μ : la_Mem} (h : ¬ (0 ≤ a.toInt ∧ a.toInt < 12)) : fX8_isTwelve a μ = some 0 := by
  unfold fX8_isTwelve
  rw [in_f 0 11 rfl rfl (by omega)]
  rfl
theorem exch {k n : Nat} {i v : Int32} {μ : la_Mem} (h1 : 0 ≤ i.toInt) (h2 : i.toInt < n) : fX7_exchange k n i v μ = some (μ k i.toNatClampNeg, la_ms μ k i.toNatClampNeg v) := by
  unfold fX7_exchange
  rw [pu_if (pu_ix.mpr ⟨h1, h2⟩), pu_st, pu_if (pu_ix.mpr ⟨h1, h2⟩), pu_st]
theorem CA_w {w t r e s : Nat → Int32} (h : CA w t r e s) {j : Nat} {v : Int32} (hv : Bd v 1 40) : CA (upd w j v) t r e s := ⟨fun i hi => ⟨by unfold upd; split; exact hv; exact (h.1 i hi).1, (h.1 i hi).2⟩, h.2⟩
theorem CA_t {w t r e s : Nat → Int32} (h : CA w t r e s) {j : Nat} {v : Int32} (hv : Bd v 1 127) : CA w (upd t j v) r e s := ⟨fun i hi => ⟨(h.1 i hi).1, by unfold upd; split; exact hv; exact (h.1 i hi).2.1, (h.1 i hi).2.2⟩, h.2⟩
theorem CA_r {w t r e s : Nat → Int32} (h : CA w t r e s) {j : Nat} {v : Int32} (hv : Bd v 0 127) : CA w t (upd r j v) e s := ⟨fun i hi => ⟨(h.1 i hi).1, (h.1 i hi).2.1, by unfold upd; split; exact hv; exact (h.1 i hi).2.2.1, (h.1 i hi).2.2.2⟩, h.2⟩
theorem CA_e {w t r e s : Nat → Int32} (h : CA w t r e s) {j : Nat} {v : Int32} (hv : Bd v 0 20) : CA w t r (upd e j v) s := ⟨fun i hi => ⟨(h.1 i hi).1, (h.1 i hi).2.1, (h.1 i hi).2.2.1, by unfold upd; split; exact hv; exact (h.1 i hi).2.2.2⟩, h.2⟩
theorem st_letter (a b c : Int32) (μ ν : la_Mem) (h : Iv μ ν) : ∃ (r : Int32) (μ' ν' : la_Mem), fX7_letter a b c μ = some (r, μ') ∧ fX8_letter a b c ν = some (r, ν') ∧ Iv μ' ν' := by
  obtain ⟨hc, hr⟩ := h
  by_cases ha : 0 ≤ a.toInt ∧ a.toInt < 12
  · have e1 : fX7_letter a b c μ = (if b = 0 then (if c < 1 then some (-1, μ) else if c ≤ 40 then some (μ 24 a.toNatClampNeg, la_ms μ 24 a.toNatClampNeg c) else some (-1, μ)) else if b = 1 then (if c < 1 then some (-1, μ) else if c ≤ 127 then some (μ 2 a.toNatClampNeg, la_ms μ 2 a.toNatClampNeg c) else some (-1, μ)) else some (-1, μ)) := by
      unfold fX7_letter fX7_letter_J24 fX7_letter_J54
      rw [isLetter_t ha.1 ha.2, exch ha.1 (by omega), exch ha.1 (by omega)]
      rfl
    have ix : la_ix a 12 = true := pu_ix.mpr ⟨ha.1, by omega⟩
    by_cases hb : b = 0
    · subst hb
      have e2 : fX8_letter a 0 c ν = (fX8_in c.toInt64 1 40 ν).bind (fun r => if r = 0 then some (-1, ν) else some (ν 1 a.toNatClampNeg, la_ms ν 1 a.toNatClampNeg c)) := by
        unfold fX8_letter fX8_letter_J33 fX8_letter_J60
        rw [isTwelve_t ha.1 ha.2, in_t 0 1 rfl rfl (by decide) (by decide)]
        simp only [pu_if ix, pu_st, if_pos, Option.bind_some]
        rfl
      by_cases hv : 1 ≤ c.toInt ∧ c.toInt ≤ 40
      · refine ⟨μ 24 a.toNatClampNeg, la_ms μ 24 a.toNatClampNeg c, la_ms ν 1 a.toNatClampNeg c, ?_, ?_, ?_, rw_widths hr _ _⟩
        · rw [e1, if_pos rfl, if_neg (by rw [pu_lt, z1]; omega), if_pos (by rw [pu_le, z40]; omega)]
        · rw [e2, in_t 1 40 rfl rfl hv.1 hv.2, rl_widths hr]; rfl
        · exact ci_24 ⟨CA_w hc.1 hv, hc.2⟩
      · refine ⟨-1, μ, ν, ?_, ?_, hc, hr⟩
        · rw [e1, if_pos rfl]
          by_cases h1 : c < 1
          · rw [if_pos h1]
          · rw [if_neg h1, if_neg (by rw [pu_lt, z1] at h1; rw [pu_le, z40]; omega)]
        · rw [e2, in_f 1 40 rfl rfl hv]; rfl
    · by_cases hb1 : b = 1
      · subst hb1
        have e2 : fX8_letter a 1 c ν = (fX8_in c.toInt64 1 127 ν).bind (fun r => if r = 0 then some (-1, ν) else some (ν 2 a.toNatClampNeg, la_ms ν 2 a.toNatClampNeg c)) := by
          unfold fX8_letter fX8_letter_J33 fX8_letter_J60
          rw [isTwelve_t ha.1 ha.2, in_t 0 1 rfl rfl (by decide) (by decide)]
          simp only [pu_if ix, pu_st, Option.bind_some]
          rfl
        by_cases hv : 1 ≤ c.toInt ∧ c.toInt ≤ 127
        · refine ⟨μ 2 a.toNatClampNeg, la_ms μ 2 a.toNatClampNeg c, la_ms ν 2 a.toNatClampNeg c, ?_, ?_, ?_, rw_bteeth hr _ _⟩
          · rw [e1, if_neg (by decide), if_pos rfl, if_neg (by rw [pu_lt, z1]; omega), if_pos (by rw [pu_le, z127]; omega)]
          · rw [e2, in_t 1 127 rfl rfl hv.1 hv.2, rl_bteeth hr]; rfl
          · exact ci_2 ⟨CA_t hc.1 hv, hc.2⟩
        · refine ⟨-1, μ, ν, ?_, ?_, hc, hr⟩
          · rw [e1, if_neg (by decide), if_pos rfl]
            by_cases h1 : c < 1
            · rw [if_pos h1]
            · rw [if_neg h1, if_neg (by rw [pu_lt, z1] at h1; rw [pu_le, z127]; omega)]
          · rw [e2, in_f 1 127 rfl rfl hv]; rfl
      · refine ⟨-1, μ, ν, ?_, ?_, hc, hr⟩
        · rw [e1, if_neg hb, if_neg hb1]
        · unfold fX8_letter
          rw [isTwelve_t ha.1 ha.2, in_f 0 1 rfl rfl (by rw [pu_eq, z0] at hb; rw [pu_eq, z1] at hb1; omega)]
          rfl
  · refine ⟨-1, μ, ν, ?_, ?_, hc, hr⟩
    · unfold fX7_letter
      rw [isLetter_f ha]
      rfl
    · unfold fX8_letter
      rw [isTwelve_f ha]
      rfl
