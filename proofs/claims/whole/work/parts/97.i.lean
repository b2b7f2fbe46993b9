/-! a tick: what is on the bar falls -/
def CN (μ : la_Mem) : Prop := CA (μ 24) (μ 2) (μ 3) (μ 25) (μ 26) ∧ CM (μ 4 5) (μ 5) (μ 6) ∧ CH (μ 4 5) (μ 9) (fun p => μ (36 + p)) ∧ CL (μ 4 5) (μ 10 3) (μ 10 4) (μ 10 5) (μ 11) (μ 12) ∧ CS (μ 18 2) (μ 20) ∧ Bd (μ 21 1) 0 60 ∧ CZ (fun s => μ (28 + s))
theorem cn_of {μ : la_Mem} (h : CI μ) : CN μ := ⟨h.1, h.2.1, h.2.2.1, h.2.2.2.1, h.2.2.2.2.2.2.1, h.2.2.2.2.2.2.2.1, h.2.2.2.2.2.2.2.2⟩
theorem cn_w {μ μ' : la_Mem} (h : CN μ) (hf : ∀ a, a ≠ 0 → a ≠ 7 → a ≠ 13 → a ≠ 14 → a ≠ 15 → a ≠ 16 → a ≠ 17 → μ' a = μ a) : CN μ' := by
  have q : ∀ a, (a = 24 ∨ a = 2 ∨ a = 3 ∨ a = 25 ∨ a = 26 ∨ a = 4 ∨ a = 5 ∨ a = 6 ∨ a = 9 ∨ a = 10 ∨ a = 11 ∨ a = 12 ∨ 18 ≤ a) → μ' a = μ a := fun a h => hf a (by omega) (by omega) (by omega) (by omega) (by omega) (by omega) (by omega)
  have e1 : (fun p => μ' (36 + p)) = fun p => μ (36 + p) := funext fun p => q _ (by omega)
  have e2 : (fun p => μ' (28 + p)) = fun p => μ (28 + p) := funext fun p => q _ (by omega)
  unfold CN
  rw [e1, e2, q 24 (by omega), q 2 (by omega), q 3 (by omega), q 25 (by omega), q 26 (by omega), q 4 (by omega), q 5 (by omega), q 6 (by omega), q 9 (by omega), q 10 (by omega), q 11 (by omega), q 12 (by omega), q 18 (by omega), q 20 (by omega), q 21 (by omega)]
  exact h
theorem cn_lay {μ : la_Mem} (h : CN μ) {x p : Int32} (h1 : 0 ≤ p.toInt) (h2 : p.toInt < 12) (h3 : 0 ≤ x.toInt) (h4 : x.toInt < (μ 4 5).toInt) (h8 : (μ 9 p.toNatClampNeg).toInt < 8) : CN (lay1 μ x p) := by
  have hp := pu_cl (n := 12) h1 h2
  obtain ⟨a1, a2, a3, a4, a5, a6, a7⟩ := h
  have hCH := CH_set a3 hp (v := x) ⟨h3, by omega⟩ h8
  have f : ∀ a, a ≠ 7 → a ≠ 9 → ¬ (36 ≤ a ∧ a < 48) → lay1 μ x p a = μ a := fun a q1 q2 q3 => by unfold lay1; rw [pu_msr q1, pu_msr q2, pu_msr (by omega)]
  have f9 : lay1 μ x p 9 = upd (μ 9) p.toNatClampNeg (μ 9 p.toNatClampNeg + 1) := by unfold lay1; rw [pu_msr (by decide), la_ms_self, pu_msr (by omega)]
  have f36 : (fun q => lay1 μ x p (36 + q)) = fun q => if q = p.toNatClampNeg then upd (μ (36 + p.toNatClampNeg)) (μ 9 p.toNatClampNeg).toNatClampNeg x else μ (36 + q) := by
    funext q
    unfold lay1
    rw [pu_msr (by omega), pu_msr (by omega)]
    by_cases e : q = p.toNatClampNeg
    · rw [if_pos e, e, la_ms_self]
    · rw [if_neg e, pu_msr (by omega)]
  have f28 : CZ (fun q => lay1 μ x p (28 + q)) := by
    intro s hs
    have := a7 s hs
    dsimp only
    rw [f _ (by omega) (by omega) (by omega)]
    exact this
  refine ⟨?_, ?_, ?_, ?_, ?_, ?_, f28⟩
  · rw [f 24 (by decide) (by decide) (by omega), f 2 (by decide) (by decide) (by omega), f 3 (by decide) (by decide) (by omega), f 25 (by decide) (by decide) (by omega), f 26 (by decide) (by decide) (by omega)]; exact a1
  · rw [f 4 (by decide) (by decide) (by omega), f 5 (by decide) (by decide) (by omega), f 6 (by decide) (by decide) (by omega)]; exact a2
  · rw [f 4 (by decide) (by decide) (by omega), f9, f36]; exact hCH
  · rw [f 4 (by decide) (by decide) (by omega), f 10 (by decide) (by decide) (by omega), f 11 (by decide) (by decide) (by omega), f 12 (by decide) (by decide) (by omega)]; exact a4
  · rw [f 18 (by decide) (by decide) (by omega), f 20 (by decide) (by decide) (by omega)]; exact a5
  · rw [f 21 (by decide) (by decide) (by omega)]; exact a6
/-- the numbers that CE adds, without the bar's -/
def ct (μ : la_Mem) : Int := sh (μ 9) 12 + nb (μ 11) (μ 10 3).toInt.toNat + nb (μ 12) (μ 10 4).toInt.toNat + bx (μ 7) (μ 4 5).toInt.toNat
def DI (μ : la_Mem) (L h H : Nat) : Prop := CN μ ∧ μ 14 3 = nI H ∧ H ≤ 60 ∧ L ≤ h ∧ h ≤ H ∧ (∀ i, i < H → Bd (μ 15 i) 0 ((μ 4 5).toInt - 1) ∧ Bd (μ 16 i) 0 12) ∧ ct μ + (L + (H - h) : Nat) ≤ (μ 4 5).toInt
theorem ct_eq {μ μ' : la_Mem} (h9 : μ' 9 = μ 9) (h10 : μ' 10 = μ 10) (h11 : μ' 11 = μ 11) (h12 : μ' 12 = μ 12) (h7 : μ' 7 = μ 7) (h4 : μ' 4 = μ 4) : ct μ' = ct μ := by
  unfold ct
  rw [h9, h10, h11, h12, h7, h4]
theorem ct_box {μ : la_Mem} {j : Nat} : ct (la_ms μ 7 j 12) ≤ ct μ + 1 := by
  unfold ct
  rw [pu_msr (show 9 ≠ 7 by decide), pu_msr (show 10 ≠ 7 by decide), pu_msr (show 11 ≠ 7 by decide), pu_msr (show 12 ≠ 7 by decide), pu_msr (show 4 ≠ 7 by decide), la_ms_self]
  rcases Nat.lt_or_ge j (μ 4 5).toInt.toNat with q | q
  · rw [bx_in q, if_pos rfl]
    split <;> omega
  · rw [bx_out q]; omega
theorem ct_lay {μ : la_Mem} {x p : Int32} (h1 : 0 ≤ p.toInt) (h2 : p.toInt < 12) (h3 : 0 ≤ x.toInt) (h4 : x.toInt < (μ 4 5).toInt) (hw : μ 7 x.toNatClampNeg = 12) (hb : Bd (μ 9 p.toNatClampNeg) 0 8) : ct (lay1 μ x p) ≤ ct μ := by
  have hp := pu_cl (n := 12) h1 h2
  have hx := pu_nx h3
  have ei : (μ 9 p.toNatClampNeg + 1).toInt = (μ 9 p.toNatClampNeg).toInt + 1 := inc1 (by have := hb.1; omega) (by have := hb.2; omega)
  have f : ∀ a, a ≠ 7 → a ≠ 9 → ¬ (36 ≤ a ∧ a < 48) → lay1 μ x p a = μ a := fun a q1 q2 q3 => by unfold lay1; rw [pu_msr q1, pu_msr q2, pu_msr (by omega)]
  have f9 : lay1 μ x p 9 = upd (μ 9) p.toNatClampNeg (μ 9 p.toNatClampNeg + 1) := by unfold lay1; rw [pu_msr (by decide), la_ms_self, pu_msr (by omega)]
  have f7 : lay1 μ x p 7 = upd (μ 7) x.toNatClampNeg p := by unfold lay1; rw [la_ms_self, pu_msr (by decide), pu_msr (by omega)]
  unfold ct
  rw [f 10 (by decide) (by decide) (by omega), f 11 (by decide) (by decide) (by omega), f 12 (by decide) (by decide) (by omega), f 4 (by decide) (by decide) (by omega), f9, f7, sh_in hp, bx_in (show x.toNatClampNeg < (μ 4 5).toInt.toNat by omega), if_pos hw, if_neg (show ¬ p = 12 by rw [pu_eq, z12]; omega), ei]
  omega
/-- one mould falls off the bar: both sides; what becomes of the numbers -/
theorem fall1_P {μ ν : la_Mem} (hc : CN μ) (hr : Rl μ ν) {x t : Int32} (hx : Bd x 0 ((μ 4 5).toInt - 1)) (ht : Bd t 0 12) : ∃ (r v : Int32) (μ' ν' : la_Mem), fX1_letFall x t μ = some (la_ms μ' 14 4 v) ∧ fX8_lies x t ν = some (r, ν') ∧ CN (la_ms μ' 14 4 v) ∧ Rl (la_ms μ' 14 4 v) (la_ms ν' 0 22 v) ∧ ct (la_ms μ' 14 4 v) ≤ ct μ + 1 ∧ (∀ a, a = 0 ∨ a = 4 ∨ a = 15 ∨ a = 16 ∨ a = 17 → (la_ms μ' 14 4 v) a = μ a) ∧ (la_ms μ' 14 4 v) 14 3 = μ 14 3 ∧ ν' 15 = μ 16 ∧ ν' 0 22 = μ 14 4 ∧ v = (if r = 0 then (if t = 12 then μ 14 4 + 0 else μ 14 4 + 1) else μ 14 4 + 0) := by
  have hm := hc.2.1.1
  have h60 : x.toInt < 60 := by have := hx.2; have := hm.2; omega
  have hxm : x.toInt < (μ 4 5).toInt := by have := hx.2; omega
  have ix : la_ix x 60 = true := pu_ix.mpr ⟨hx.1, h60⟩
  have ez : μ 14 4 + 0 = μ 14 4 := by simp
  have hb7 : ∀ a, a ≠ 7 → la_ms μ 7 x.toNatClampNeg 12 a = μ a := fun a h => pu_msr h
  have hc1 : CN (la_ms μ 7 x.toNatClampNeg 12) := cn_w hc (fun a _ h2 _ _ _ _ _ => hb7 a h2)
  have hr1 : Rl (la_ms μ 7 x.toNatClampNeg 12) (la_ms ν 8 x.toNatClampNeg 12) := rw_where hr _ _
  have hhm : ∀ p, p < 12 → Bd (ν 9 p) 0 8 := fun p hp => by rw [rl_held hr]; exact (hc.2.2.1 p hp).1
  have hself : ∀ m : la_Mem, m 14 4 = μ 14 4 → la_ms m 14 4 (μ 14 4) = m := fun m h => ms_same h
  by_cases h12 : t = 12
  · refine ⟨0, μ 14 4, la_ms μ 7 x.toNatClampNeg 12, la_ms ν 8 x.toNatClampNeg 12, ?_, ?_, ?_, ?_, ?_, fun a ha => ?_, ?_, ?_, ?_, ?_⟩
    · unfold fX1_letFall; rw [pu_if ix, pu_st, if_pos h12, hself _ (by rw [hb7 14 (by decide)])]
    · unfold fX8_lies fX8_lies_J21 fX8_lies_J22 fX8_lies_J38
      rw [if_pos (by rw [h12]; decide), if_pos rfl, pu_if ix, pu_st, if_pos rfl, pu_if pu_isb0]
    · rw [hself _ (by rw [hb7 14 (by decide)])]; exact hc1
    · exact rw_jammed hr1 _
    · rw [hself _ (by rw [hb7 14 (by decide)])]; exact ct_box
    · rw [hself _ (by rw [hb7 14 (by decide)])]; exact hb7 a (by omega)
    · rw [hself _ (by rw [hb7 14 (by decide)]), hb7 14 (by decide)]
    · rw [pu_msr (by decide), rl_barP hr]
    · rw [pu_msr (by decide), rl_jammed hr]
    · rw [if_pos rfl, if_pos h12, ez]
  · have t1 : 0 ≤ t.toInt := ht.1
    have t2 : t.toInt < 12 := by rw [pu_eq, z12] at h12; have := ht.2; omega
    have hp := pu_cl (n := 12) t1 t2
    have hheld : ∀ p, p < 12 → Bd (la_ms μ 7 x.toNatClampNeg 12 9 p) 0 8 := fun p hp => by rw [hb7 9 (by decide)]; exact (hc.2.2.1 p hp).1
    have ec := lay_c hheld t1 t2 hx.1 h60 (x := x)
    have em := lie_m hhm t1 t2 hx.1 h60 (x := x)
    rw [hb7 9 (by decide)] at ec
    rw [rl_held hr] at em
    have hw : la_ms μ 7 x.toNatClampNeg 12 7 x.toNatClampNeg = 12 := by rw [la_ms_self, pk_us]
    by_cases q : (μ 9 t.toNatClampNeg).toInt < 8
    · rw [if_pos q] at ec em
      have g14 : lay1 (la_ms μ 7 x.toNatClampNeg 12) x t 14 = μ 14 := by unfold lay1; rw [pu_msr (by decide), pu_msr (by decide), pu_msr (by omega), hb7 14 (by decide)]
      have hb1 := (hc.2.2.1 t.toNatClampNeg hp).1
      refine ⟨1, μ 14 4, lay1 (la_ms μ 7 x.toNatClampNeg 12) x t, lie1 ν x t, ?_, em, ?_, ?_, ?_, fun a ha => ?_, ?_, ?_, ?_, ?_⟩
      · unfold fX1_letFall; rw [pu_if ix, pu_st, if_neg h12, ec, pu_b2, if_neg (by decide), hself _ (by rw [g14])]
      · rw [hself _ (by rw [g14])]
        exact cn_lay hc1 t1 t2 hx.1 (by rw [hb7 4 (by decide)]; exact hxm) (by rw [hb7 9 (by decide)]; exact q)
      · have hR := lay_R hr1 (x := x) hp (by rw [hb7 9 (by decide)]; exact pu_cl (n := 8) hb1.1 q)
        have e : lie1 (la_ms ν 8 x.toNatClampNeg 12) x t = lie1 ν x t := by unfold lie1; rw [ms_twice, pu_msr (show 9 ≠ 8 by decide)]
        rw [e] at hR
        exact rw_jammed hR _
      · rw [hself _ (by rw [g14])]
        have h1 := ct_lay (μ := la_ms μ 7 x.toNatClampNeg 12) t1 t2 hx.1 (by rw [hb7 4 (by decide)]; exact hxm) hw (by rw [hb7 9 (by decide)]; exact hb1)
        have h2 := ct_box (μ := μ) (j := x.toNatClampNeg)
        omega
      · rw [hself _ (by rw [g14])]
        unfold lay1
        rw [pu_msr (by omega), pu_msr (by omega), pu_msr (by omega), hb7 a (by omega)]
      · rw [hself _ (by rw [g14]), g14]
      · unfold lie1; rw [pu_msr (by decide), pu_msr (by decide), pu_msr (by decide), rl_barP hr]
      · unfold lie1; rw [pu_msr (show 0 ≠ 9 by decide), pu_msr (show 0 ≠ 10 by decide), pu_msr (show 0 ≠ 8 by decide), rl_jammed hr]
      · rw [if_neg (by decide), ez]
    · rw [if_neg q] at ec em
      refine ⟨0, μ 14 4 + 1, la_ms μ 7 x.toNatClampNeg 12, la_ms ν 8 x.toNatClampNeg 12, ?_, em, ?_, rw_jammed hr1 _, ?_, fun a ha => ?_, ?_, ?_, ?_, ?_⟩
      · unfold fX1_letFall; rw [pu_if ix, pu_st, if_neg h12, ec, pu_b2, if_pos rfl, pu_st, hb7 14 (by decide)]
      · exact cn_w hc1 (fun a _ _ _ h4 _ _ _ => pu_msr h4)
      · rw [ct_eq (pu_msr (by decide)) (pu_msr (by decide)) (pu_msr (by decide)) (pu_msr (by decide)) (pu_msr (by decide)) (pu_msr (by decide))]
        exact ct_box
      · rw [pu_msr (by omega), hb7 a (by omega)]
      · rw [la_ms_self, pk_un (by decide), hb7 14 (by decide)]
      · rw [pu_msr (by decide), rl_barP hr]
      · rw [pu_msr (by decide), rl_jammed hr]
      · rw [if_pos rfl, if_neg h12]
theorem dd_P (x1 : Int32) : ∀ (k n L h H : Nat) (μ ν : la_Mem), h + k = H → k < n → DI μ L h H → Rl μ ν → μ 0 11 = x1 → ∃ (L' : Nat) (μ' ν' : la_Mem), fX1_dropDue_L5 x1 n (nI L) (nI h) μ = some (nI L', μ') ∧ fX8_tick_L105 n (nI L) (nI h) ν = some (nI L', ν') ∧ DI μ' L' H H ∧ Rl μ' ν' ∧ μ' 0 11 = x1 := by
  intro k
  induction k with
  | zero =>
    intro n L h H μ ν e1 e2 hd hr hx
    obtain ⟨n, rfl⟩ : ∃ m, n = m + 1 := ⟨n - 1, by omega⟩
    have hf : h = H := by omega
    subst hf
    refine ⟨L, μ, ν, ?_, ?_, hd, hr, hx⟩
    · rw [fX1_dropDue_L5, hd.2.1, if_pos (by rw [pu_le]; omega)]
    · rw [fX8_tick_L105, rl_hanging hr, hd.2.1, if_pos (by rw [pu_le]; omega)]
  | succ k ih =>
    intro n L h H μ ν e1 e2 hd hr hx
    obtain ⟨n, rfl⟩ : ∃ m, n = m + 1 := ⟨n - 1, by omega⟩
    obtain ⟨d1, d2, d3, d4, d5, d6, d7⟩ := hd
    have ixh : la_ix (nI h) 60 = true := nI_ix (by omega) (by decide)
    have ixL : la_ix (nI L) 60 = true := nI_ix (by omega) (by decide)
    have nh : (nI h).toNatClampNeg = h := nI_clamp (by omega)
    have nL : (nI L).toNatClampNeg = L := nI_clamp (by omega)
    have hng : ¬ nI H ≤ nI h := by rw [pu_le, nI_toInt (by omega), nI_toInt (by omega)]; omega
    by_cases hdue : μ 17 h = x1
    · obtain ⟨w1, w2⟩ := d6 h (by omega)
      obtain ⟨r, v, μ1, ν1, p1, p2, p3, p4, p5, p6, p7, p8, p9, p10⟩ := fall1_P d1 hr w1 w2
      have hDI : DI (la_ms μ1 14 4 v) L (h + 1) H := by
        refine ⟨p3, by rw [p7]; exact d2, d3, by omega, by omega, fun i hi => ?_, ?_⟩
        · rw [p6 4 (by omega), p6 15 (by omega), p6 16 (by omega)]; exact d6 i hi
        · rw [p6 4 (by omega)]
          have : ((L + (H - h) : Nat) : Int) = ((L + (H - (h + 1)) : Nat) : Int) + 1 := by omega
          omega
      obtain ⟨L', μ', ν', r1, r2, r3⟩ := ih n L (h + 1) H _ _ (by omega) (by omega) hDI p4 (by rw [p6 0 (by omega)]; exact hx)
      refine ⟨L', μ', ν', ?_, ?_, r3⟩
      · rw [fX1_dropDue_L5, d2, if_neg hng, pu_if ixh, nh, if_pos hdue, pu_if ixh, pu_if ixh, p1, Option.bind_some]
        unfold fX1_dropDue_J89
        rw [nI_1, r1]
      · rw [fX8_tick_L105, rl_hanging hr, d2, if_neg hng, pu_if ixh, nh, rl_barD hr, rl_now hr, hx, if_pos hdue, pu_if ixh, pu_if ixh, rl_barW hr, rl_barP hr, p2, pu_b2]
        unfold fX8_tick_J163 fX8_tick_J168 fX8_tick_J214
        rw [p8, p9, pu_if ixh, pu_st, pu_st, nI_1]
        rw [← r2, p10]
        by_cases z : r = 0
        · rw [if_pos z, if_pos z]
          by_cases z2 : μ 16 h = 12
          · rw [if_pos z2, if_pos z2]
          · rw [if_neg z2, if_neg z2]
        · rw [if_neg z, if_neg z]
    · have g : ∀ a, a ≠ 15 → a ≠ 16 → a ≠ 17 → la_ms (la_ms (la_ms μ 15 L (μ 15 h)) 16 L (μ 16 h)) 17 L (μ 17 h) a = μ a := fun a h1 h2 h3 => by rw [pu_msr h3, pu_msr h2, pu_msr h1]
      have g15 : la_ms (la_ms (la_ms μ 15 L (μ 15 h)) 16 L (μ 16 h)) 17 L (μ 17 h) 15 = upd (μ 15) L (μ 15 h) := by rw [pu_msr (by decide), pu_msr (by decide), la_ms_self]
      have g16 : la_ms (la_ms (la_ms μ 15 L (μ 15 h)) 16 L (μ 16 h)) 17 L (μ 17 h) 16 = upd (μ 16) L (μ 16 h) := by rw [pu_msr (by decide), la_ms_self, pu_msr (by decide)]
      have hDI : DI (la_ms (la_ms (la_ms μ 15 L (μ 15 h)) 16 L (μ 16 h)) 17 L (μ 17 h)) (L + 1) (h + 1) H := by
        refine ⟨cn_w d1 (fun a _ _ _ _ h5 h6 h7 => g a h5 h6 h7), by rw [g 14 (by decide) (by decide) (by decide)]; exact d2, d3, by omega, by omega, fun i hi => ?_, ?_⟩
        · rw [g 4 (by decide) (by decide) (by decide), g15, g16]
          unfold upd
          by_cases e : i = L
          · rw [if_pos e, if_pos e]; exact d6 h (by omega)
          · rw [if_neg e, if_neg e]; exact d6 i hi
        · rw [g 4 (by decide) (by decide) (by decide), ct_eq (g 9 (by decide) (by decide) (by decide)) (g 10 (by decide) (by decide) (by decide)) (g 11 (by decide) (by decide) (by decide)) (g 12 (by decide) (by decide) (by decide)) (g 7 (by decide) (by decide) (by decide)) (g 4 (by decide) (by decide) (by decide))]
          have : ((L + 1 + (H - (h + 1)) : Nat) : Int) = ((L + (H - h) : Nat) : Int) := by omega
          omega
      have hR : Rl (la_ms (la_ms (la_ms μ 15 L (μ 15 h)) 16 L (μ 16 h)) 17 L (μ 17 h)) (la_ms (la_ms (la_ms ν 14 L (μ 15 h)) 15 L (μ 16 h)) 16 L (μ 17 h)) := rw_barD (rw_barP (rw_barW hr L (μ 15 h)) L (μ 16 h)) L (μ 17 h)
      obtain ⟨L', μ', ν', r1, r2, r3⟩ := ih n (L + 1) (h + 1) H _ _ (by omega) (by omega) hDI hR (by rw [g 0 (by decide) (by decide) (by decide)]; exact hx)
      refine ⟨L', μ', ν', ?_, ?_, r3⟩
      · rw [fX1_dropDue_L5, d2, if_neg hng, pu_if ixh, nh, if_neg hdue]
        unfold fX1_dropDue_J89
        rw [pu_if ixh, pu_if ixL, nL, pu_st, pu_if ixh, pu_if ixL, pu_st, pu_if ixh, pu_if ixL, pu_st, pu_msr (show 16 ≠ 15 by decide), pu_msr (show 17 ≠ 16 by decide), pu_msr (show 17 ≠ 15 by decide), nI_1, nI_1, r1]
      · rw [fX8_tick_L105, rl_hanging hr, d2, if_neg hng, pu_if ixh, nh, rl_barD hr, rl_now hr, hx, if_neg hdue]
        unfold fX8_tick_J214
        rw [pu_if ixh, pu_if ixL, nL, rl_barW hr, pu_st, pu_if ixh, pu_if ixL, pu_st, pu_if ixh, pu_if ixL, pu_st, pu_msr (show 15 ≠ 14 by decide), pu_msr (show 16 ≠ 15 by decide), pu_msr (show 16 ≠ 14 by decide), rl_barP hr, rl_barD hr, nI_1, nI_1, r2]
theorem hang_le {μ : la_Mem} (hc : CI μ) : (μ 14 3).toInt ≤ 60 := by
  have a6 := hc.2.2.2.2.2.1
  unfold CE at a6
  have h1 := sh_pos (f := μ 9) (n := 12) (fun i hi => (hc.2.2.1 i hi).1.1)
  have h2 := nb_pos (f := μ 11) (n := (μ 10 3).toInt.toNat)
  have h3 := nb_pos (f := μ 12) (n := (μ 10 4).toInt.toNat)
  have h4 := bx_pos (f := μ 7) (n := (μ 4 5).toInt.toNat)
  have := hc.2.1.1.2
  omega
theorem dd_ok {μ ν : la_Mem} (hc : CI μ) (hr : Rl μ ν) : ∃ (L' : Nat) (μ' ν' : la_Mem), fX1_dropDue (μ 0 11) μ = some (la_ms μ' 14 3 (nI L')) ∧ fX8_tick_L105 400 0 0 ν = some (nI L', ν') ∧ CI (la_ms μ' 14 3 (nI L')) ∧ Rl (la_ms μ' 14 3 (nI L')) (la_ms ν' 0 18 (nI L')) := by
  have hb := hc.2.2.2.2.1
  obtain ⟨H, hH, eH, eH2⟩ := asN hb.1 (show (μ 14 3).toInt ≤ (60 : Nat) by have := hang_le hc; omega) (by decide)
  have hDI : DI μ 0 0 H := by
    refine ⟨cn_of hc, eH, hH, Nat.le_refl 0, Nat.zero_le H, fun i hi => hb.2 i (by omega), ?_⟩
    have a6 := hc.2.2.2.2.2.1
    unfold CE at a6
    unfold ct
    omega
  obtain ⟨L', μ', ν', r1, r2, r3, r4, r5⟩ := dd_P (μ 0 11) H 400 0 0 H μ ν (by omega) (by omega) hDI hr rfl
  refine ⟨L', μ', ν', ?_, r2, ?_, rw_hanging r4 (nI L')⟩
  · unfold fX1_dropDue
    rw [show (0 : Int32) = nI 0 from rfl, r1, pu_b2, pu_st]
  · obtain ⟨d1, d2, d3, d4, d5, d6, d7⟩ := r3
    obtain ⟨n1, n2, n3, n4, n5, n6, n7⟩ := d1
    have el : (nI L').toInt = L' := nI_toInt (by omega)
    apply ci_14_3
    refine ⟨n1, n2, n3, n4, ⟨by omega, fun i hi => d6 i (by omega)⟩, ?_, n5, n6, n7⟩
    unfold CE
    unfold ct at d7
    omega
/-- a tick: both sides -/
theorem tick_P {μ ν : la_Mem} (hc : CI μ) (hr : Rl μ ν) : ∃ (μ1 μ' ν' : la_Mem), fX2_takeDue (μ 0 11 + 1) (la_ms μ 0 11 (μ 0 11 + 1)) = some μ1 ∧ fX1_dropDue (μ1 0 11) μ1 = some μ' ∧ fX8_tick ν = some ν' ∧ CI μ' ∧ Rl μ' ν' := by
  have hc0 : CI (la_ms μ 0 11 (μ 0 11 + 1)) := ci_free (Or.inl rfl) hc
  have hr0 : Rl (la_ms μ 0 11 (μ 0 11 + 1)) (la_ms ν 0 11 (μ 0 11 + 1)) := rw_now hr _
  have e0 : la_ms μ 0 11 (μ 0 11 + 1) 0 11 = μ 0 11 + 1 := by rw [la_ms_self, pk_us]
  obtain ⟨L1, m1, n1, a1, a2, a3, a4, a5⟩ := td_ok hc0 hr0
  rw [e0] at a1 a5
  obtain ⟨L2, m2, n2, b1, b2, b3, b4⟩ := dd_ok a3 a4
  refine ⟨_, _, _, a1, b1, ?_, b3, b4⟩
  unfold fX8_tick
  rw [pu_st, rl_now hr, a2, pu_b2, pu_st, b2, pu_b2, pu_st]
theorem goOn_P {x1 : Int32} {N : Nat} (hN : N ≤ 300) (hx : x1 = nI N) : ∀ (k n i : Nat) (μ ν : la_Mem), i + k = N → k < n → CI μ → Rl μ ν → ∃ (μ' ν' : la_Mem), fX7_goOn_L2 x1 n (nI i) μ = some μ' ∧ fX8_ticks_L30 x1 n (nI i) ν = some ν' ∧ CI μ' ∧ Rl μ' ν' := by
  intro k
  induction k with
  | zero =>
    intro n i μ ν e1 e2 hc hr
    obtain ⟨n, rfl⟩ : ∃ m, n = m + 1 := ⟨n - 1, by omega⟩
    have hle : x1 ≤ nI i := by rw [hx, pu_le, nI_toInt (by omega), nI_toInt (by omega)]; omega
    exact ⟨μ, ν, by rw [fX7_goOn_L2, if_pos hle], by rw [fX8_ticks_L30, if_pos hle], hc, hr⟩
  | succ k ih =>
    intro n i μ ν e1 e2 hc hr
    obtain ⟨n, rfl⟩ : ∃ m, n = m + 1 := ⟨n - 1, by omega⟩
    have hle : ¬ x1 ≤ nI i := by rw [hx, pu_le, nI_toInt (by omega), nI_toInt (by omega)]; omega
    obtain ⟨m1, m2, n2, a1, a2, a3, a4, a5⟩ := tick_P hc hr
    obtain ⟨μ', ν', r1, r2, r3⟩ := ih n (i + 1) m2 n2 (by omega) (by omega) a4 a5
    have e0 : la_ms μ 0 11 (μ 0 11 + 1) 0 11 = μ 0 11 + 1 := by rw [la_ms_self, pk_us]
    refine ⟨μ', ν', ?_, ?_, r3⟩
    · rw [fX7_goOn_L2, if_neg hle, pu_st, e0, a1, Option.bind_some, a2, Option.bind_some, nI_1, r1]
    · rw [fX8_ticks_L30, if_neg hle, a3, Option.bind_some, nI_1, r2]
theorem st_ticks (a : Int32) (μ ν : la_Mem) (h : Iv μ ν) : ∃ (r : Int32) (μ' ν' : la_Mem), fX7_ticks a μ = some (r, μ') ∧ fX8_ticks a ν = some (r, ν') ∧ Iv μ' ν' := by
  obtain ⟨hc, hr⟩ := h
  by_cases ha : 1 ≤ a.toInt ∧ a.toInt ≤ 300
  · have e1 : fX7_ticks a μ = if μ 0 11 + a ≤ 99999 then (fX7_goOn a μ).bind (fun m => some (m 0 11, m)) else some (-3, μ) := by
      unfold fX7_ticks
      rw [if_neg (by rw [pu_lt, z1]; omega), if_pos (by rw [pu_le, z300]; omega)]
    have e2 : fX8_ticks a ν = if μ 0 11 + a ≤ 99999 then Option.bind (fX8_ticks_L30 a 400 0 ν) (fun m => some (m 0 11, m)) else some (-3, ν) := by
      unfold fX8_ticks
      rw [in_t 1 300 rfl rfl ha.1 ha.2, Option.bind_some, if_neg (by decide), rl_now hr]
    by_cases q : μ 0 11 + a ≤ 99999
    · obtain ⟨N, hN, eN, -⟩ := asN (show 0 ≤ a.toInt by omega) (show a.toInt ≤ (300 : Nat) by omega) (by decide)
      obtain ⟨μ', ν', r1, r2, r3, r4⟩ := goOn_P hN eN N 400 0 μ ν (by omega) (by omega) hc hr
      refine ⟨μ' 0 11, μ', ν', ?_, ?_, r3, r4⟩
      · rw [e1, if_pos q]
        unfold fX7_goOn
        rw [show (0 : Int32) = nI 0 from rfl, r1]
        rfl
      · rw [e2, if_pos q, show (0 : Int32) = nI 0 from rfl, r2, Option.bind_some, rl_now r4]
    · exact ⟨-3, μ, ν, by rw [e1, if_neg q], by rw [e2, if_neg q], hc, hr⟩
  · refine ⟨-1, μ, ν, ?_, ?_, hc, hr⟩
    · unfold fX7_ticks
      by_cases h1 : a < 1
      · rw [if_pos h1]
      · rw [if_neg h1, if_neg (by rw [pu_lt, z1] at h1; rw [pu_le, z300]; omega)]
    · unfold fX8_ticks; rw [in_f 1 300 rfl rfl ha]; rfl
