theorem held_m {μ ν : la_Mem} (hc : CI μ) (hr : Rl μ ν) : ∀ p, p < 12 → Bd (ν 9 p) 0 8 := fun p hp => by rw [rl_held hr]; exact (hc.2.2.1 p hp).1
theorem held_c {μ : la_Mem} (hc : CI μ) : ∀ p, p < 12 → Bd (μ 9 p) 0 8 := fun p hp => (hc.2.2.1 p hp).1
/-- a mould of the box comes into a channel, or stays: both sides alike -/
theorem lay_P {μ ν : la_Mem} (hc : CI μ) (hr : Rl μ ν) {x p : Int32} (h1 : 0 ≤ p.toInt) (h2 : p.toInt < 12) (h3 : 0 ≤ x.toInt) (h4 : x.toInt < (μ 4 5).toInt) (hw : μ 7 x.toNatClampNeg = 12) :
    ((μ 9 p.toNatClampNeg).toInt < 8 ∧ fX5_lay x p μ = some (1, lay1 μ x p) ∧ fX8_lies x p ν = some (1, lie1 ν x p) ∧ CI (lay1 μ x p) ∧ Rl (lay1 μ x p) (lie1 ν x p)) ∨ (¬ (μ 9 p.toNatClampNeg).toInt < 8 ∧ fX5_lay x p μ = some (0, μ) ∧ fX8_lies x p ν = some (0, ν)) := by
  have hm := hc.2.1.1
  have hp := pu_cl (n := 12) h1 h2
  have h60 : x.toInt < 60 := by have := hm.2; omega
  have ec := lay_c (held_c hc) h1 h2 h3 h60 (x := x)
  have em := lie_m (held_m hc hr) h1 h2 h3 h60 (x := x)
  rw [rl_held hr] at em
  by_cases q : (μ 9 p.toNatClampNeg).toInt < 8
  · rw [if_pos q] at ec em
    exact Or.inl ⟨q, ec, em, lay_I hc h1 h2 h3 h4 hw q, lay_R hr hp (pu_cl (n := 8) (held_c hc _ hp).1 q)⟩
  · rw [if_neg q] at ec em
    rw [ms_same (by rw [rl_where hr]; exact hw)] at em
    exact Or.inr ⟨q, ec, em⟩
theorem lay1_9 {μ : la_Mem} {x p : Int32} : lay1 μ x p 9 p.toNatClampNeg = μ 9 p.toNatClampNeg + 1 := by
  unfold lay1
  rw [pu_msr (show 9 ≠ 7 by decide), la_ms_self, pk_us]
theorem lie1_9 {ν : la_Mem} {x p : Int32} : lie1 ν x p 9 p.toNatClampNeg = ν 9 p.toNatClampNeg + 1 := by
  unfold lie1
  rw [la_ms_self, pk_us]
theorem st_home (a : Int32) (μ ν : la_Mem) (h : Iv μ ν) : ∃ (r : Int32) (μ' ν' : la_Mem), fX7_home a μ = some (r, μ') ∧ fX8_home a ν = some (r, ν') ∧ Iv μ' ν' := by
  obtain ⟨hc, hr⟩ := h
  have hm := hc.2.1.1
  by_cases ha : 0 ≤ a.toInt ∧ a.toInt < (μ 4 5).toInt
  · have ix : la_ix a 60 = true := pu_ix.mpr ⟨ha.1, by have := hm.2; omega⟩
    have hl := (hc.2.1.2 a.toNatClampNeg (by rw [pu_nx ha.1]; exact ha.2)).1
    have ixl : la_ix (μ 5 a.toNatClampNeg) 12 = true := pu_ix.mpr ⟨hl.1, by have := hl.2; omega⟩
    by_cases hw : μ 7 a.toNatClampNeg = 12
    · have e1 : fX7_home a μ = la_b2 (fX5_lay a (μ 5 a.toNatClampNeg) μ) (fun r m => if r = 0 then some (-3, m) else some (m 9 (μ 5 a.toNatClampNeg).toNatClampNeg, m)) := by
        unfold fX7_home
        rw [knows_t ha.1 ha.2]
        simp only [pu_if ix, pu_st, Option.bind_some, pu_if ixl]
        rw [if_neg (by decide), if_pos hw]
      have e2 : fX8_home a ν = la_b2 (fX8_lies a (μ 5 a.toNatClampNeg) ν) (fun r m => if r = 0 then some (-3, m) else some (m 9 (μ 5 a.toNatClampNeg).toNatClampNeg, m)) := by
        unfold fX8_home
        rw [isM_t hc hr ha.1 ha.2]
        simp only [pu_if ix, pu_st, Option.bind_some, rl_letters hr, rl_where hr, pu_if ixl]
        rw [if_neg (by decide), if_pos hw]
      rcases lay_P hc hr hl.1 (by have := hl.2; omega) ha.1 ha.2 hw with ⟨q, w1, w2, w3, w4⟩ | ⟨q, w1, w2⟩
      · refine ⟨μ 9 (μ 5 a.toNatClampNeg).toNatClampNeg + 1, _, _, ?_, ?_, w3, w4⟩
        · rw [e1, w1, pu_b2, if_neg (by decide), lay1_9]
        · rw [e2, w2, pu_b2, if_neg (by decide), lie1_9, rl_held hr]
      · exact ⟨-3, μ, ν, by rw [e1, w1, pu_b2, if_pos rfl], by rw [e2, w2, pu_b2, if_pos rfl], hc, hr⟩
    · refine ⟨-2, μ, ν, ?_, ?_, hc, hr⟩
      · unfold fX7_home; rw [knows_t ha.1 ha.2, Option.bind_some, if_neg (by decide), pu_if ix, if_neg hw]
      · unfold fX8_home; rw [isM_t hc hr ha.1 ha.2, Option.bind_some, if_neg (by decide), pu_if ix, rl_where hr, if_neg hw]
  · refine ⟨-1, μ, ν, ?_, ?_, hc, hr⟩
    · unfold fX7_home; rw [knows_f ha]; rfl
    · unfold fX8_home; rw [isM_f hc hr ha]; rfl
/-- a new mould, in the box -/
def new1 (μ : la_Mem) (x t : Int32) : la_Mem := la_ms (la_ms (la_ms (la_ms μ 4 5 (μ 4 5 + 1)) 5 (μ 4 5).toNatClampNeg x) 6 (μ 4 5).toNatClampNeg t) 7 (μ 4 5).toNatClampNeg 12
theorem new_I {μ : la_Mem} (hc : CI μ) {x t : Int32} (hx : Bd x 0 11) (ht : Bd t 0 127) (hm : (μ 4 5).toInt < 60) : CI (new1 μ x t) := by
  obtain ⟨a1, a2, a3, a4, a5, a6, a7, a8, a9⟩ := hc
  have h0 := a2.1.1
  have ei : (μ 4 5 + 1).toInt = (μ 4 5).toInt + 1 := inc1 (by omega) (by omega)
  have ej : ((μ 4 5).toNatClampNeg : Int) = (μ 4 5).toInt := pu_nx h0
  have f : ∀ a, a ≠ 4 → a ≠ 5 → a ≠ 6 → a ≠ 7 → new1 μ x t a = μ a := fun a q1 q2 q3 q4 => by unfold new1; rw [pu_msr q4, pu_msr q3, pu_msr q2, pu_msr q1]
  have f4 : new1 μ x t 4 5 = μ 4 5 + 1 := by unfold new1; rw [pu_msr (show 4 ≠ 7 by decide), pu_msr (show 4 ≠ 6 by decide), pu_msr (show 4 ≠ 5 by decide), la_ms_self, pk_us]
  have f5 : new1 μ x t 5 = upd (μ 5) (μ 4 5).toNatClampNeg x := by unfold new1; rw [pu_msr (show 5 ≠ 7 by decide), pu_msr (show 5 ≠ 6 by decide), la_ms_self, pu_msr (show 5 ≠ 4 by decide)]
  have f6 : new1 μ x t 6 = upd (μ 6) (μ 4 5).toNatClampNeg t := by unfold new1; rw [pu_msr (show 6 ≠ 7 by decide), la_ms_self, pu_msr (show 6 ≠ 5 by decide), pu_msr (show 6 ≠ 4 by decide)]
  have f7 : new1 μ x t 7 = upd (μ 7) (μ 4 5).toNatClampNeg 12 := by unfold new1; rw [la_ms_self, pu_msr (show 7 ≠ 6 by decide), pu_msr (show 7 ≠ 5 by decide), pu_msr (show 7 ≠ 4 by decide)]
  have f36 : (fun q => new1 μ x t (36 + q)) = fun q => μ (36 + q) := funext fun q => f _ (by omega) (by omega) (by omega) (by omega)
  have f28 : (fun q => new1 μ x t (28 + q)) = fun q => μ (28 + q) := funext fun q => f _ (by omega) (by omega) (by omega) (by omega)
  unfold CI
  rw [f36, f28, f4, f5, f6, f7, f 24 (by decide) (by decide) (by decide) (by decide), f 2 (by decide) (by decide) (by decide) (by decide), f 3 (by decide) (by decide) (by decide) (by decide), f 25 (by decide) (by decide) (by decide) (by decide), f 26 (by decide) (by decide) (by decide) (by decide), f 9 (by decide) (by decide) (by decide) (by decide), f 10 (by decide) (by decide) (by decide) (by decide), f 11 (by decide) (by decide) (by decide) (by decide), f 12 (by decide) (by decide) (by decide) (by decide), f 14 (by decide) (by decide) (by decide) (by decide), f 15 (by decide) (by decide) (by decide) (by decide), f 16 (by decide) (by decide) (by decide) (by decide), f 18 (by decide) (by decide) (by decide) (by decide), f 20 (by decide) (by decide) (by decide) (by decide), f 21 (by decide) (by decide) (by decide) (by decide)]
  refine ⟨a1, ⟨⟨by omega, by omega⟩, fun i hi => ?_⟩, fun p hp => ⟨(a3 p hp).1, fun i hi => ?_⟩, ⟨a4.1, a4.2.1, a4.2.2.1, a4.2.2.2.1, fun i hi => ?_, fun i hi => ?_⟩, ⟨a5.1, fun i hi => ⟨?_, (a5.2 i hi).2⟩⟩, ?_, a7, a8, a9⟩
  · rw [ei] at hi
    unfold upd
    by_cases e : i = (μ 4 5).toNatClampNeg
    · rw [if_pos e, if_pos e]; exact ⟨hx, ht⟩
    · rw [if_neg e, if_neg e]; exact a2.2 i (by omega)
  · have := (a3 p hp).2 i hi
    rw [ei]
    exact ⟨this.1, by have := this.2; omega⟩
  · rw [ei]
    rcases a4.2.2.2.2.1 i hi with q | q
    · exact Or.inl q
    · exact Or.inr ⟨q.1, by have := q.2; omega⟩
  · rw [ei]
    rcases a4.2.2.2.2.2 i hi with q | q
    · exact Or.inl q
    · exact Or.inr ⟨q.1, by have := q.2; omega⟩
  · have := (a5.2 i hi).1
    rw [ei]
    exact ⟨this.1, by have := this.2; omega⟩
  · unfold CE at a6 ⊢
    rw [ei]
    have e1 : ((μ 4 5).toInt + 1).toNat = (μ 4 5).toInt.toNat + 1 := by omega
    have e2 : (μ 4 5).toNatClampNeg = (μ 4 5).toInt.toNat := rfl
    have e3 : bx (upd (μ 7) (μ 4 5).toNatClampNeg 12) ((μ 4 5).toInt.toNat + 1) = bx (μ 7) (μ 4 5).toInt.toNat + 1 := by
      show bx (upd (μ 7) (μ 4 5).toNatClampNeg 12) ((μ 4 5).toInt.toNat) + (if upd (μ 7) (μ 4 5).toNatClampNeg 12 ((μ 4 5).toInt.toNat) = 12 then 1 else 0) = _
      rw [e2, bx_out (Nat.le_refl _), pk_us, if_pos rfl]
    rw [e1, e3]
    omega
theorem new_R {μ ν : la_Mem} (hr : Rl μ ν) {x t : Int32} : Rl (new1 μ x t) (la_ms (la_ms (la_ms (la_ms ν 6 (μ 4 5).toNatClampNeg x) 7 (μ 4 5).toNatClampNeg t) 8 (μ 4 5).toNatClampNeg 12) 0 5 (μ 4 5 + 1)) := by
  have h := rw_where (rw_has (rw_letters (rw_moulds hr (μ 4 5 + 1)) (μ 4 5).toNatClampNeg x) (μ 4 5).toNatClampNeg t) (μ 4 5).toNatClampNeg 12
  rw [ms_comm (a := 8) (b := 0) (by decide), ms_comm (a := 7) (b := 0) (by decide), ms_comm (a := 6) (b := 0) (by decide)]
  exact h
theorem lies_w {ν : la_Mem} {x p : Int32} (hh : ∀ p, p < 12 → Bd (ν 9 p) 0 8) (h1 : 0 ≤ p.toInt) (h2 : p.toInt < 12) (h3 : 0 ≤ x.toInt) (h4 : x.toInt < 60) : fX8_lies x p (la_ms ν 8 x.toNatClampNeg 12) = fX8_lies x p ν := by
  have e9 : la_ms ν 8 x.toNatClampNeg 12 9 = ν 9 := pu_msr (by decide)
  rw [lie_m (ν := la_ms ν 8 x.toNatClampNeg 12) (by rw [e9]; exact hh) h1 h2 h3 h4, lie_m hh h1 h2 h3 h4, e9]
  unfold lie1
  rw [e9, ms_twice, ms_twice]
theorem lies_05 {ν : la_Mem} {x p v : Int32} (hh : ∀ p, p < 12 → Bd (ν 9 p) 0 8) (h1 : 0 ≤ p.toInt) (h2 : p.toInt < 12) (h3 : 0 ≤ x.toInt) (h4 : x.toInt < 60) {r : Int32} {ν' : la_Mem} (h : fX8_lies x p ν = some (r, ν')) : fX8_lies x p (la_ms ν 0 5 v) = some (r, la_ms ν' 0 5 v) := by
  have e9 : la_ms ν 0 5 v 9 = ν 9 := pu_msr (by decide)
  rw [lie_m hh h1 h2 h3 h4] at h
  rw [lie_m (ν := la_ms ν 0 5 v) (by rw [e9]; exact hh) h1 h2 h3 h4, e9]
  by_cases q : (ν 9 p.toNatClampNeg).toInt < 8
  · rw [if_pos q] at h ⊢
    have h9 := Option.some.inj h
    rw [← (Prod.mk.inj h9).1, ← (Prod.mk.inj h9).2]
    unfold lie1
    rw [e9, ms_comm (a := 0) (b := 8) (by decide), ms_comm (a := 0) (b := 10) (by decide), ms_comm (a := 0) (b := 9) (by decide)]
  · rw [if_neg q] at h ⊢
    have h9 := Option.some.inj h
    rw [← (Prod.mk.inj h9).1, ← (Prod.mk.inj h9).2, ms_comm (a := 0) (b := 8) (by decide)]
theorem st_mould (a b : Int32) (μ ν : la_Mem) (h : Iv μ ν) : ∃ (r : Int32) (μ' ν' : la_Mem), fX7_mould a b μ = some (r, μ') ∧ fX8_mould a b ν = some (r, ν') ∧ Iv μ' ν' := by
  obtain ⟨hc, hr⟩ := h
  have hm := hc.2.1.1
  by_cases ha : 0 ≤ a.toInt ∧ a.toInt < 12
  · have ix : la_ix a 12 = true := pu_ix.mpr ⟨ha.1, by omega⟩
    have hcl := pu_cl (n := 12) ha.1 ha.2
    have ht := (hc.1.1 a.toNatClampNeg hcl).2.1
    have ht0 : Bd (μ 2 a.toNatClampNeg) 0 127 := ⟨by have := ht.1; omega, ht.2⟩
    by_cases hb : (b &&& (μ 2 a.toNatClampNeg ^^^ (-1))) = 0
    · have hv := bt_sub hb ht0
      have e1 : fX7_mould a b μ = la_b2 (fX5_newMould a (μ 2 a.toNatClampNeg &&& (b ^^^ (-1))) μ) (fun r m => some (r, m)) := by
        unfold fX7_mould
        rw [isLetter_t ha.1 ha.2, Option.bind_some, if_neg (by decide), pu_if ix, pu_st, if_pos hb]
      by_cases h60 : (μ 4 5).toInt < 60
      · have ixm : la_ix (μ 4 5) 60 = true := pu_ix.mpr ⟨hm.1, h60⟩
        have hI := new_I hc (x := a) (t := μ 2 a.toNatClampNeg &&& (b ^^^ (-1))) ⟨ha.1, by omega⟩ (bt_and ht0) h60
        have hR := new_R hr (x := a) (t := μ 2 a.toNatClampNeg &&& (b ^^^ (-1)))
        have f4 : new1 μ a (μ 2 a.toNatClampNeg &&& (b ^^^ (-1))) 4 5 = μ 4 5 + 1 := by unfold new1; rw [pu_msr (show 4 ≠ 7 by decide), pu_msr (show 4 ≠ 6 by decide), pu_msr (show 4 ≠ 5 by decide), la_ms_self, pk_us]
        have f7 : new1 μ a (μ 2 a.toNatClampNeg &&& (b ^^^ (-1))) 7 (μ 4 5).toNatClampNeg = 12 := by unfold new1; rw [la_ms_self, pk_us]
        have ei : (μ 4 5 + 1).toInt = (μ 4 5).toInt + 1 := inc1 (by have := hm.1; omega) (by omega)
        have e1b : fX5_newMould a (μ 2 a.toNatClampNeg &&& (b ^^^ (-1))) μ = la_b2 (fX5_lay (μ 4 5) a (new1 μ a (μ 2 a.toNatClampNeg &&& (b ^^^ (-1))))) (fun _ m => some (μ 4 5, m)) := by
          unfold fX5_newMould new1
          rw [if_pos (by rw [pu_lt, z60]; exact h60)]
          simp only [pu_st, pu_if ixm]
        have hh9 : ∀ p, p < 12 → Bd ((la_ms (la_ms ν 6 (μ 4 5).toNatClampNeg a) 7 (μ 4 5).toNatClampNeg (μ 2 a.toNatClampNeg &&& (b ^^^ (-1)))) 9 p) 0 8 := fun p hp => by
          rw [pu_msr (show 9 ≠ 7 by decide), pu_msr (show 9 ≠ 6 by decide)]
          exact held_m hc hr p hp
        have e2 : fX8_mould a b ν = la_b2 (fX8_lies (μ 4 5) a (la_ms (la_ms ν 6 (μ 4 5).toNatClampNeg a) 7 (μ 4 5).toNatClampNeg (μ 2 a.toNatClampNeg &&& (b ^^^ (-1))))) (fun r m => la_st (la_ms m 0 5 (m 0 5 + 1)) (fun m2 => if r = 0 then (if m2 0 5 ≤ 0 then some (-4, m2) else fX8_mould_J106 m2) else fX8_mould_J106 m2)) := by
          have s1 : ∀ j v, la_ms ν 6 j v 0 = ν 0 := fun j v => pu_msr (by decide)
          have s2 : ∀ j v, la_ms ν 6 j v 2 = ν 2 := fun j v => pu_msr (by decide)
          have s3 : ∀ (m : la_Mem) j v, la_ms m 7 j v 0 = m 0 := fun m j v => pu_msr (by decide)
          unfold fX8_mould
          rw [isTwelve_t ha.1 ha.2, in_t 0 127 rfl rfl hv.1 hv.2]
          simp only [Option.bind_some, pu_if ix, pu_st, s1, s2, s3, rl_moulds hr, rl_bteeth hr, pu_if ixm]
          rw [if_neg (by decide), if_neg (by decide), if_pos hb, if_neg (by rw [pu_eq, z60]; omega)]
        have keyR : ∀ (r : Int32) (μ' ν2 : la_Mem), fX5_lay (μ 4 5) a (new1 μ a (μ 2 a.toNatClampNeg &&& (b ^^^ (-1)))) = some (r, μ') → fX8_lies (μ 4 5) a (la_ms (la_ms (la_ms (la_ms ν 6 (μ 4 5).toNatClampNeg a) 7 (μ 4 5).toNatClampNeg (μ 2 a.toNatClampNeg &&& (b ^^^ (-1)))) 8 (μ 4 5).toNatClampNeg 12) 0 5 (μ 4 5 + 1)) = some (r, ν2) → CI μ' → Rl μ' ν2 → ∃ (r : Int32) (μ' ν' : la_Mem), fX7_mould a b μ = some (r, μ') ∧ fX8_mould a b ν = some (r, ν') ∧ Iv μ' ν' := by
          intro r μ' ν2 w1 w2 w3 w4
          have hlie := lie_m hh9 ha.1 ha.2 hm.1 h60 (x := μ 4 5)
          obtain ⟨r', ν3, hl3, hl3b⟩ : ∃ (r' : Int32) (ν3 : la_Mem), fX8_lies (μ 4 5) a (la_ms (la_ms ν 6 (μ 4 5).toNatClampNeg a) 7 (μ 4 5).toNatClampNeg (μ 2 a.toNatClampNeg &&& (b ^^^ (-1)))) = some (r', ν3) ∧ ν3 0 5 = μ 4 5 := by
            rw [hlie]
            split
            · refine ⟨_, _, rfl, ?_⟩
              unfold lie1
              rw [pu_msr (show 0 ≠ 9 by decide), pu_msr (show 0 ≠ 10 by decide), pu_msr (show 0 ≠ 8 by decide), pu_msr (show 0 ≠ 7 by decide), pu_msr (show 0 ≠ 6 by decide)]
              exact rl_moulds hr
            · refine ⟨_, _, rfl, ?_⟩
              rw [pu_msr (show 0 ≠ 8 by decide), pu_msr (show 0 ≠ 7 by decide), pu_msr (show 0 ≠ 6 by decide)]
              exact rl_moulds hr
          have hl4 := lies_05 (v := μ 4 5 + 1) (by intro p hp; rw [pu_msr (show 9 ≠ 8 by decide)]; exact hh9 p hp) ha.1 ha.2 hm.1 h60 ((lies_w hh9 ha.1 ha.2 hm.1 h60).trans hl3)
          rw [hl4] at w2
          have w5 := Option.some.inj w2
          have w6 := (Prod.mk.inj w5).1
          have w7 := (Prod.mk.inj w5).2
          have m5 : (la_ms ν3 0 5 (μ 4 5 + 1)) 0 5 = μ 4 5 + 1 := by rw [la_ms_self, pk_us]
          refine ⟨μ 4 5, μ', ν2, ?_, ?_, w3, w4⟩
          · rw [e1, e1b, w1, pu_b2, pu_b2]
          · have esub : μ 4 5 + 1 - 1 = μ 4 5 := by
              rw [pu_eq, fb_subI] <;> rw [ei, z1] <;> have := hm.1 <;> omega
            have ej : fX8_mould_J106 (la_ms ν3 0 5 (μ 4 5 + 1)) = some (μ 4 5, la_ms ν3 0 5 (μ 4 5 + 1)) := by unfold fX8_mould_J106; rw [m5, esub]
            rw [e2, hl3, pu_b2, pu_st, hl3b, ej, m5, ← w7]
            by_cases hz : r' = 0
            · rw [if_pos hz, if_neg (by rw [pu_le, ei, z0]; have := hm.1; omega)]
            · rw [if_neg hz]
        rcases lay_P hI hR ha.1 ha.2 hm.1 (by rw [f4, ei]; omega) f7 with ⟨q, w1, w2, w3, w4⟩ | ⟨q, w1, w2⟩
        · exact keyR _ _ _ w1 w2 w3 w4
        · exact keyR _ _ _ w1 w2 hI hR
      · have e60 : μ 4 5 = 60 := by rw [pu_eq, z60]; have := hm.2; omega
        refine ⟨-3, μ, ν, ?_, ?_, hc, hr⟩
        · rw [e1]; unfold fX5_newMould; rw [if_neg (by rw [pu_lt, z60]; exact h60)]; rfl
        · unfold fX8_mould
          rw [isTwelve_t ha.1 ha.2, in_t 0 127 rfl rfl hv.1 hv.2, Option.bind_some, if_neg (by decide), Option.bind_some, if_neg (by decide), pu_if ix, rl_bteeth hr, if_pos hb, rl_moulds hr, if_pos e60]
    · refine ⟨-1, μ, ν, ?_, ?_, hc, hr⟩
      · unfold fX7_mould; rw [isLetter_t ha.1 ha.2, Option.bind_some, if_neg (by decide), pu_if ix, pu_st, if_neg hb]
      · unfold fX8_mould
        rw [isTwelve_t ha.1 ha.2, Option.bind_some, if_neg (by decide)]
        by_cases hv : 0 ≤ b.toInt ∧ b.toInt ≤ 127
        · rw [in_t 0 127 rfl rfl hv.1 hv.2, Option.bind_some, if_neg (by decide), pu_if ix, rl_bteeth hr, if_neg hb]
        · rw [in_f 0 127 rfl rfl hv, Option.bind_some, if_pos rfl]
  · refine ⟨-1, μ, ν, ?_, ?_, hc, hr⟩
    · unfold fX7_mould; rw [isLetter_f ha]; rfl
    · unfold fX8_mould; rw [isTwelve_f ha]; rfl
