/-- the first mould of a channel is taken -/
def take1 (μ : la_Mem) (p : Nat) : la_Mem := la_ms (la_cp (la_ms μ 9 p (μ 9 p - 1)) (36 + p) (36 + p) 1 0 (μ 9 p - 1).toNatClampNeg) 7 (μ (36 + p) 0).toNatClampNeg 13
theorem take_c {μ : la_Mem} (hc : CI μ) {x : Int32} (h1 : 0 ≤ x.toInt) (h2 : x.toInt < 12) (h0 : 0 < (μ 9 x.toNatClampNeg).toInt) : fX5_takeFirst x μ = some (μ (36 + x.toNatClampNeg) 0, take1 μ x.toNatClampNeg) := by
  have ix : la_ix x 12 = true := pu_ix.mpr ⟨h1, h2⟩
  have hp := pu_cl (n := 12) h1 h2
  obtain ⟨b1, b2⟩ := hc.2.2.1 x.toNatClampNeg hp
  have hv := b2 0 (by omega)
  have hm := hc.2.1.1
  have ed : (μ 9 x.toNatClampNeg - 1).toInt = (μ 9 x.toNatClampNeg).toInt - 1 := dec1 (by omega) (by have := b1.2; omega)
  have ixv : la_ix (μ (36 + x.toNatClampNeg) 0) 60 = true := pu_ix.mpr ⟨hv.1, by have := hv.2; have := hm.2; dsimp only at *; omega⟩
  have e9 : la_ms μ 9 x.toNatClampNeg (μ 9 x.toNatClampNeg - 1) 9 x.toNatClampNeg = μ 9 x.toNatClampNeg - 1 := by rw [la_ms_self, pk_us]
  have i3 : la_in3 1 0 (μ 9 x.toNatClampNeg - 1) 8 8 = true := by
    have n1 : (μ 9 x.toNatClampNeg - 1).toNatClampNeg ≤ 7 := by
      have : (μ 9 x.toNatClampNeg - 1).toNatClampNeg = (μ 9 x.toNatClampNeg - 1).toInt.toNat := rfl
      rw [this, ed]; have := b1.2; omega
    unfold la_in3
    simp only [Bool.and_eq_true, Bool.not_eq_true', decide_eq_false_iff_not, decide_eq_true_eq]
    refine ⟨⟨⟨⟨by decide, by decide⟩, by rw [pu_lt, z0, ed]; omega⟩, ?_⟩, ?_⟩
    · show 1 + _ ≤ 8; omega
    · show 0 + _ ≤ 8; omega
  unfold fX5_takeFirst take1
  simp only [pu_if ix, pu_st]
  rw [if_neg (show ¬ μ 9 x.toNatClampNeg = 0 by rw [pu_eq, z0]; omega), e9, pu_if i3, pu_if ixv]
  rfl
theorem take_I {μ : la_Mem} (hc : CI μ) {p : Nat} (hp : p < 12) (h0 : 0 < (μ 9 p).toInt) : CI (take1 μ p) ∧ take1 μ p 10 = μ 10 ∧ take1 μ p 4 = μ 4 ∧ Bd (μ (36 + p) 0) 0 ((μ 4 5).toInt - 1) ∧ sh (take1 μ p 9) 12 + nb (take1 μ p 11) (μ 10 3).toInt.toNat + nb (take1 μ p 12) (μ 10 4).toInt.toNat + (take1 μ p 14 3).toInt + bx (take1 μ p 7) (μ 4 5).toInt.toNat + 1 ≤ (μ 4 5).toInt := by
  obtain ⟨a1, a2, a3, a4, a5, a6, a7, a8, a9⟩ := hc
  obtain ⟨b1, b2⟩ := a3 p hp
  have hv := b2 0 (by omega)
  have hm := a2.1
  have ed : (μ 9 p - 1).toInt = (μ 9 p).toInt - 1 := dec1 (by omega) (by have := b1.2; omega)
  have en : (μ 9 p - 1).toNatClampNeg = ((μ 9 p).toInt - 1).toNat := by
    have : (μ 9 p - 1).toNatClampNeg = (μ 9 p - 1).toInt.toNat := rfl
    rw [this, ed]
  have hvn : ((μ (36 + p) 0).toNatClampNeg : Int) = (μ (36 + p) 0).toInt := pu_nx hv.1
  have f : ∀ a, a ≠ 7 → a ≠ 9 → a ≠ 36 + p → take1 μ p a = μ a := fun a q1 q2 q3 => by unfold take1; rw [pu_msr q1, la_cp_ne q3, pu_msr q2]
  have f7 : take1 μ p 7 = upd (μ 7) (μ (36 + p) 0).toNatClampNeg 13 := by unfold take1; rw [la_ms_self, la_cp_ne (by omega), pu_msr (by decide)]
  have f9 : take1 μ p 9 = upd (μ 9) p (μ 9 p - 1) := by unfold take1; rw [pu_msr (by decide), la_cp_ne (by omega), la_ms_self]
  have fp : take1 μ p (36 + p) = va_cpy (μ (36 + p)) (μ (36 + p)) 1 0 (μ 9 p - 1).toNatClampNeg := by unfold take1; rw [pu_msr (by omega), la_cp_self, pu_msr (by omega)]
  have hCH : CH (μ 4 5) (take1 μ p 9) (fun q => take1 μ p (36 + q)) := by
    intro q hq
    rw [f9]
    dsimp only
    by_cases e : q = p
    · subst e
      rw [pk_us, fp]
      refine ⟨⟨by omega, by have := b1.2; omega⟩, fun i hi => ?_⟩
      rw [ed] at hi
      rw [pk_cpy_in (Nat.zero_le i) (by omega)]
      exact b2 (1 + (i - 0)) (by omega)
    · rw [pk_un e, f _ (by omega) (by omega) (by omega)]
      exact a3 q hq
  have hE : sh (take1 μ p 9) 12 + nb (take1 μ p 11) (μ 10 3).toInt.toNat + nb (take1 μ p 12) (μ 10 4).toInt.toNat + (take1 μ p 14 3).toInt + bx (take1 μ p 7) (μ 4 5).toInt.toNat + 1 ≤ (μ 4 5).toInt := by
    unfold CE at a6
    have hj : (μ (36 + p) 0).toNatClampNeg < (μ 4 5).toInt.toNat := by
      have h9 := hv.2
      dsimp only at h9 hvn
      omega
    rw [f7, f9, f 11 (by decide) (by decide) (by omega), f 12 (by decide) (by decide) (by omega), f 14 (by decide) (by decide) (by omega), sh_in hp, bx_in hj, if_neg (show ¬ (13 : Int32) = 12 by decide), ed]
    split <;> omega
  have hZ : CZ (fun q => take1 μ p (28 + q)) := by
    intro s hs
    have := a9 s hs
    dsimp only
    rw [f _ (by omega) (by omega) (by omega)]
    exact this
  refine ⟨?_, f 10 (by decide) (by decide) (by omega), f 4 (by decide) (by decide) (by omega), hv, hE⟩
  refine ⟨?_, ?_, ?_, ?_, ?_, ?_, ?_, ?_, hZ⟩
  · rw [f 24 (by decide) (by decide) (by omega), f 2 (by decide) (by decide) (by omega), f 3 (by decide) (by decide) (by omega), f 25 (by decide) (by decide) (by omega), f 26 (by decide) (by decide) (by omega)]; exact a1
  · rw [f 4 (by decide) (by decide) (by omega), f 5 (by decide) (by decide) (by omega), f 6 (by decide) (by decide) (by omega)]; exact a2
  · rw [f 4 (by decide) (by decide) (by omega)]; exact hCH
  · rw [f 4 (by decide) (by decide) (by omega), f 10 (by decide) (by decide) (by omega), f 11 (by decide) (by decide) (by omega), f 12 (by decide) (by decide) (by omega)]; exact a4
  · rw [f 4 (by decide) (by decide) (by omega), f 14 (by decide) (by decide) (by omega), f 15 (by decide) (by decide) (by omega), f 16 (by decide) (by decide) (by omega)]; exact a5
  · unfold CE
    rw [f 4 (by decide) (by decide) (by omega), f 10 (by decide) (by decide) (by omega)]
    omega
  · rw [f 18 (by decide) (by decide) (by omega), f 20 (by decide) (by decide) (by omega)]; exact a7
  · rw [f 21 (by decide) (by decide) (by omega)]; exact a8
theorem key_P (a : Int32) (μ ν : la_Mem) (hc : CI μ) (hr : Rl μ ν) : ∃ (r : Int32) (μ' ν' : la_Mem), fX7_key a μ = some (r, μ') ∧ fX8_key a ν = some (r, ν') ∧ Iv μ' ν' := by
  by_cases ha : 0 ≤ a.toInt ∧ a.toInt < 12
  · have ix : la_ix a 12 = true := pu_ix.mpr ⟨ha.1, by omega⟩
    have hp := pu_cl (n := 12) ha.1 ha.2
    obtain ⟨b1, b2⟩ := hc.2.2.1 a.toNatClampNeg hp
    obtain ⟨l1, l2, l3, l4, l5, l6⟩ := hc.2.2.2.1
    by_cases h0 : μ 9 a.toNatClampNeg = 0
    · refine ⟨-4, μ, ν, ?_, ?_, hc, hr⟩
      · unfold fX7_key; rw [isPlace_t ha.1 ha.2, Option.bind_some, if_neg (by decide), pu_if ix, if_pos h0]
      · unfold fX8_key; rw [isTwelve_t ha.1 ha.2, Option.bind_some, if_neg (by decide), pu_if ix, rl_held hr, if_pos h0]
    · have hpos : 0 < (μ 9 a.toNatClampNeg).toInt := by rw [pu_eq, z0] at h0; have := b1.1; omega
      by_cases h24 : (μ 10 3).toInt + (μ 10 4).toInt < 24
      · obtain ⟨t1, t2, t3, t4, t5⟩ := take_I hc hp hpos
        have hm := hc.2.1.1
        generalize hd : μ 0 11 + 2 + μ 25 a.toNatClampNeg = due
        generalize hv : μ (36 + a.toNatClampNeg) 0 = v at t4
        have hv100 : ¬ v = 100 := by rw [pu_eq, z100]; have := t4.2; have := hm.2; omega
        have hgI := go_I t1 (x := v) (d := due) (by rw [t2]; exact h24) (Or.inr ⟨by rw [t3]; exact t4, by rw [t2, t3]; exact t5⟩)
        have ed : (μ 9 a.toNatClampNeg - 1).toInt = (μ 9 a.toNatClampNeg).toInt - 1 := dec1 (by omega) (by have := b1.2; omega)
        have ixv : la_ix v 60 = true := pu_ix.mpr ⟨t4.1, by have := t4.2; have := hm.2; omega⟩
        -- the reference
        obtain ⟨h', hh', eh'⟩ : ∃ h' : Nat, h' ≤ 7 ∧ μ 9 a.toNatClampNeg - 1 = nI h' := by
          refine ⟨((μ 9 a.toNatClampNeg).toInt - 1).toNat, by have := b1.2; omega, ?_⟩
          rw [pu_eq, ed, nI_toInt (by have := b1.2; omega)]
          omega
        obtain ⟨ν2, r1, r2, r3⟩ := key_L (x1 := a) (x2 := v) ha.1 ha.2 hh' h' 400 0 (la_ms ν 9 a.toNatClampNeg (μ 9 a.toNatClampNeg - 1)) (by omega) (by omega) (by rw [la_ms_self, pk_us]; exact eh')
        have q8 : (8 * a).toInt = 8 * a.toNatClampNeg := by
          have := mul_t (k := 8) (K := 8) (x := a) (y := 0) (a := a.toNatClampNeg) (b := 0) rfl (by decide) (pu_nx ha.1).symm rfl (by omega) (by omega)
          simpa using this
        have ix8 : la_ix (8 * a) 96 = true := pu_ix.mpr (by rw [q8]; omega)
        have n8 : (8 * a).toNatClampNeg = 8 * a.toNatClampNeg + 0 := by rw [nx0 q8 (by omega)]; omega
        have ev : ν 10 (8 * a.toNatClampNeg + 0) = v := by rw [rl_chan hr hp (by decide), hv]
        have hRt : Rl (take1 μ a.toNatClampNeg) (la_ms ν2 8 v.toNatClampNeg 13) := by
          unfold take1
          rw [hv]
          refine rw_where (rl_ch (rw_held hr a.toNatClampNeg (μ 9 a.toNatClampNeg - 1)) (fun c hcc => la_cp_ne (by omega)) r2 (fun p i hp1 hi1 => ?_)) _ _
          rw [r3, pu_msr (show 10 ≠ 9 by decide)]
          have en : (μ 9 a.toNatClampNeg - 1).toNatClampNeg = h' := by rw [eh']; exact nI_clamp (by omega)
          by_cases e : p = a.toNatClampNeg
          · rw [e, la_cp_self, pu_msr (by omega), en]
            by_cases c1 : i < h'
            · rw [if_pos (by omega), pk_cpy_in (Nat.zero_le i) (by omega), Nat.add_assoc, rl_chan hr hp (by omega)]
              congr 1
              omega
            · rw [if_neg (by omega), pk_cpy_out (by omega), rl_chan hr hp hi1]
          · rw [if_neg (by omega), la_cp_ne (by omega), pu_msr (by omega), rl_chan hr hp1 hi1]
        have n04 : la_ms ν2 8 v.toNatClampNeg 13 4 = ν 4 := by rw [pu_msr (by decide), r2 4 (by decide), pu_msr (by decide)]
        have n00 : la_ms ν2 8 v.toNatClampNeg 13 0 = ν 0 := by rw [pu_msr (by decide), r2 0 (by decide), pu_msr (by decide)]
        have em := lets_m t1 hRt (x := v) (y := μ 25 a.toNatClampNeg) (by rw [t2]; exact h24)
        rw [n00, rl_now hr, hd] at em
        refine ⟨due, _, _, ?_, ?_, hgI, go_R hRt v due⟩
        · unfold fX7_key
          rw [isPlace_t ha.1 ha.2, Option.bind_some, if_neg (by decide), pu_if ix, if_neg h0, isFull_f hc h24, Option.bind_some, if_pos rfl, pu_if ix, pu_st, take_c hc ha.1 ha.2 hpos, pu_b2, hv, hd, letGo_c t1 (by rw [t2]; exact h24), if_neg hv100]
          rfl
        · unfold fX8_key
          rw [isTwelve_t ha.1 ha.2, Option.bind_some, if_neg (by decide)]
          simp only [pu_if ix, pu_st]
          rw [rl_held hr, if_neg h0, rl_come hr, rl_falling hr, if_neg (show ¬ μ 10 3 + μ 10 4 = 24 by rw [pu_eq, cf_sum hc, z24]; omega), pu_if ix8, n8, ev, show (0 : Int32) = nI 0 from rfl, r1, Option.bind_some, pu_if ixv, n04, rl_reaches hr, em, pu_b2]
      · refine ⟨-3, μ, ν, ?_, ?_, hc, hr⟩
        · unfold fX7_key; rw [isPlace_t ha.1 ha.2, Option.bind_some, if_neg (by decide), pu_if ix, if_neg h0, isFull_t hc h24]; rfl
        · unfold fX8_key; rw [isTwelve_t ha.1 ha.2, Option.bind_some, if_neg (by decide), pu_if ix, rl_held hr, if_neg h0, rl_come hr, rl_falling hr, if_pos (show μ 10 3 + μ 10 4 = 24 by rw [pu_eq, cf_sum hc, z24]; omega)]
  · refine ⟨-1, μ, ν, ?_, ?_, hc, hr⟩
    · unfold fX7_key; rw [isPlace_f ha]; rfl
    · unfold fX8_key; rw [isTwelve_f ha]; rfl
theorem st_key (a : Int32) (μ ν : la_Mem) (h : Iv μ ν) : ∃ (r : Int32) (μ' ν' : la_Mem), fX7_key a μ = some (r, μ') ∧ fX8_key a ν = some (r, ν') ∧ Iv μ' ν' := key_P a μ ν h.1 h.2
