/-! a tick: what falls comes to the line -/
def CK (μ : la_Mem) : Prop := CA (μ 24) (μ 2) (μ 3) (μ 25) (μ 26) ∧ CM (μ 4 5) (μ 5) (μ 6) ∧ CH (μ 4 5) (μ 9) (fun p => μ (36 + p)) ∧ Bd (μ 10 5) 0 12 ∧ CB (μ 4 5) (μ 14 3) (μ 15) (μ 16) ∧ CS (μ 18 2) (μ 20) ∧ Bd (μ 21 1) 0 60 ∧ CZ (fun s => μ (28 + s))
theorem ck_of {μ : la_Mem} (h : CI μ) : CK μ := ⟨h.1, h.2.1, h.2.2.1, h.2.2.2.1.2.2.2.1, h.2.2.2.2.1, h.2.2.2.2.2.2.1, h.2.2.2.2.2.2.2.1, h.2.2.2.2.2.2.2.2⟩
theorem ck_w {μ μ' : la_Mem} (h : CK μ) (hf : ∀ a, a ≠ 0 → a ≠ 7 → a ≠ 10 → a ≠ 11 → a ≠ 12 → a ≠ 13 → μ' a = μ a) (hb : μ' 10 5 = μ 10 5) : CK μ' := by
  have e1 : (fun p => μ' (36 + p)) = fun p => μ (36 + p) := funext fun p => hf _ (by omega) (by omega) (by omega) (by omega) (by omega) (by omega)
  have e2 : (fun p => μ' (28 + p)) = fun p => μ (28 + p) := funext fun p => hf _ (by omega) (by omega) (by omega) (by omega) (by omega) (by omega)
  unfold CK
  rw [e1, e2, hb, hf 24 (by decide) (by decide) (by decide) (by decide) (by decide) (by decide), hf 2 (by decide) (by decide) (by decide) (by decide) (by decide) (by decide), hf 3 (by decide) (by decide) (by decide) (by decide) (by decide) (by decide), hf 25 (by decide) (by decide) (by decide) (by decide) (by decide) (by decide), hf 26 (by decide) (by decide) (by decide) (by decide) (by decide) (by decide), hf 4 (by decide) (by decide) (by decide) (by decide) (by decide) (by decide), hf 5 (by decide) (by decide) (by decide) (by decide) (by decide) (by decide), hf 6 (by decide) (by decide) (by decide) (by decide) (by decide) (by decide), hf 9 (by decide) (by decide) (by decide) (by decide) (by decide) (by decide), hf 14 (by decide) (by decide) (by decide) (by decide) (by decide) (by decide), hf 15 (by decide) (by decide) (by decide) (by decide) (by decide) (by decide), hf 16 (by decide) (by decide) (by decide) (by decide) (by decide) (by decide), hf 18 (by decide) (by decide) (by decide) (by decide) (by decide) (by decide), hf 20 (by decide) (by decide) (by decide) (by decide) (by decide) (by decide), hf 21 (by decide) (by decide) (by decide) (by decide) (by decide) (by decide)]
  exact h
/-- an entry of the line: a band, or a mould -/
def En (m x : Int32) : Prop := x = 100 ∨ Bd x 0 (m.toInt - 1)
def TI (μ : la_Mem) (L f F : Nat) : Prop := CK μ ∧ μ 10 4 = nI F ∧ F ≤ 24 ∧ L ≤ f ∧ f ≤ F ∧ ∃ c : Nat, μ 10 3 = nI c ∧ c + L + (F - f) ≤ 24 ∧ (∀ i, i < c → En (μ 4 5) (μ 11 i)) ∧ (∀ i, i < F → En (μ 4 5) (μ 12 i)) ∧ sh (μ 9) 12 + nb (μ 11) c + nb (μ 12) L + (nb (μ 12) F - nb (μ 12) f) + (μ 14 3).toInt + bx (μ 7) (μ 4 5).toInt.toNat ≤ (μ 4 5).toInt
theorem nb_diff {f : Nat → Int32} {j : Nat} {v : Int32} {a : Nat} (ha : j < a) : ∀ {b : Nat}, a ≤ b → nb (upd f j v) b - nb (upd f j v) a = nb f b - nb f a
  | 0, h => by omega
  | b + 1, h => by
    rcases Nat.lt_or_ge b a with q | q
    · rw [show a = b + 1 by omega]; omega
    · have ih := nb_diff (f := f) (v := v) ha q
      show nb (upd f j v) b + (if upd f j v b = 100 then 0 else 1) - nb (upd f j v) a = nb f b + (if f b = 100 then 0 else 1) - nb f a
      rw [pk_un (show b ≠ j by omega)]
      omega
theorem nb_s {f : Nat → Int32} {n : Nat} : nb f (n + 1) = nb f n + (if f n = 100 then 0 else 1) := rfl
theorem td_P (x1 : Int32) : ∀ (k n L f F : Nat) (μ ν : la_Mem), f + k = F → k < n → TI μ L f F → Rl μ ν → μ 0 11 = x1 → ∃ (L' : Nat) (μ' ν' : la_Mem), fX2_takeDue_L4 x1 n (nI L) (nI f) μ = some (nI L', μ') ∧ fX8_tick_L14 n (nI L) (nI f) ν = some (nI L', ν') ∧ TI μ' L' F F ∧ Rl μ' ν' ∧ μ' 0 11 = x1 := by
  intro k
  induction k with
  | zero =>
    intro n L f F μ ν e1 e2 ht hr hx
    obtain ⟨n, rfl⟩ : ∃ m, n = m + 1 := ⟨n - 1, by omega⟩
    have hf : f = F := by omega
    subst hf
    obtain ⟨t1, t2, t3, t4, t5, t6⟩ := id ht
    refine ⟨L, μ, ν, ?_, ?_, ht, hr, hx⟩
    · rw [fX2_takeDue_L4, t2, if_pos (by rw [pu_le]; omega)]
    · rw [fX8_tick_L14, rl_falling hr, t2, if_pos (by rw [pu_le]; omega)]
  | succ k ih =>
    intro n L f F μ ν e1 e2 ht hr hx
    obtain ⟨n, rfl⟩ : ∃ m, n = m + 1 := ⟨n - 1, by omega⟩
    obtain ⟨t1, t2, t3, t4, t5, c, u1, u2, u3, u4, u5⟩ := ht
    have ixf : la_ix (nI f) 24 = true := nI_ix (by omega) (by decide)
    have ixL : la_ix (nI L) 24 = true := nI_ix (by omega) (by decide)
    have ixc : la_ix (nI c) 24 = true := nI_ix (by omega) (by decide)
    have nf : (nI f).toNatClampNeg = f := nI_clamp (by omega)
    have nL : (nI L).toNatClampNeg = L := nI_clamp (by omega)
    have nc : (nI c).toNatClampNeg = c := nI_clamp (by omega)
    have hng : ¬ nI F ≤ nI f := by rw [pu_le, nI_toInt (by omega), nI_toInt (by omega)]; omega
    have hc24 : ¬ (24 : Int32) ≤ nI c := by rw [pu_le, z24, nI_toInt (by omega)]; omega
    by_cases hd : μ 13 f = x1
    · -- it comes
      have hTI : TI (la_ms (la_ms μ 11 c (μ 12 f)) 10 3 (nI (c + 1))) L (f + 1) F := by
        have g : ∀ a, a ≠ 11 → a ≠ 10 → la_ms (la_ms μ 11 c (μ 12 f)) 10 3 (nI (c + 1)) a = μ a := fun a h1 h2 => by rw [pu_msr h2, pu_msr h1]
        have g10 : ∀ j, j ≠ 3 → la_ms (la_ms μ 11 c (μ 12 f)) 10 3 (nI (c + 1)) 10 j = μ 10 j := fun j hj => by rw [la_ms_self, pk_un hj, pu_msr (by decide)]
        have g103 : la_ms (la_ms μ 11 c (μ 12 f)) 10 3 (nI (c + 1)) 10 3 = nI (c + 1) := by rw [la_ms_self, pk_us]
        have g11 : la_ms (la_ms μ 11 c (μ 12 f)) 10 3 (nI (c + 1)) 11 = upd (μ 11) c (μ 12 f) := by rw [pu_msr (by decide), la_ms_self]
        refine ⟨ck_w t1 (fun a _ _ h3 h4 _ _ => g a h4 h3) (g10 5 (by decide)), by rw [g10 4 (by decide)]; exact t2, t3, by omega, by omega, c + 1, g103, by omega, fun i hi => ?_, fun i hi => ?_, ?_⟩
        · rw [g 4 (by decide) (by decide), g11]
          unfold upd
          split
          · exact u4 f (by omega)
          · exact u3 i (by omega)
        · rw [g 4 (by decide) (by decide), g 12 (by decide) (by decide)]; exact u4 i hi
        · rw [g 4 (by decide) (by decide), g 12 (by decide) (by decide), g11, g 9 (by decide) (by decide), g 14 (by decide) (by decide), g 7 (by decide) (by decide), nb_push, nb_s (f := μ 12) (n := f)]
          omega
      have hR : Rl (la_ms (la_ms μ 11 c (μ 12 f)) 10 3 (nI (c + 1))) (la_ms (la_ms ν 11 c (μ 12 f)) 0 12 (nI (c + 1))) := rw_come (rw_line hr c (μ 12 f)) (nI (c + 1))
      obtain ⟨L', μ', ν', r1, r2, r3⟩ := ih n L (f + 1) F _ _ (by omega) (by omega) hTI hR (by rw [pu_msr (by decide), pu_msr (by decide)]; exact hx)
      refine ⟨L', μ', ν', ?_, ?_, r3⟩
      · rw [fX2_takeDue_L4, t2, if_neg hng, pu_if ixf, nf, if_pos hd, u1, if_neg hc24, pu_if ixf, pu_if ixc, nc, pu_st]
        unfold fX2_takeDue_J86
        rw [pu_st, pu_msr (show 10 ≠ 11 by decide), u1, nI_1, nI_1, r1]
      · rw [fX8_tick_L14, rl_falling hr, t2, if_neg hng, pu_if ixf, nf, rl_fallD hr, rl_now hr, hx, if_pos hd, rl_come hr, u1, pu_if ixf, pu_if ixc, nc, pu_st]
        unfold fX8_tick_J90
        rw [pu_st, pu_msr (show 0 ≠ 11 by decide), rl_come hr, u1, rl_fallW hr, nI_1, nI_1, r2]
    · -- it falls on
      have hTI : TI (la_ms (la_ms μ 12 L (μ 12 f)) 13 L (μ 13 f)) (L + 1) (f + 1) F := by
        have g : ∀ a, a ≠ 12 → a ≠ 13 → la_ms (la_ms μ 12 L (μ 12 f)) 13 L (μ 13 f) a = μ a := fun a h1 h2 => by rw [pu_msr h2, pu_msr h1]
        have g12 : la_ms (la_ms μ 12 L (μ 12 f)) 13 L (μ 13 f) 12 = upd (μ 12) L (μ 12 f) := by rw [pu_msr (by decide), la_ms_self]
        refine ⟨ck_w t1 (fun a _ _ _ _ h5 h6 => g a h5 h6) (by rw [g 10 (by decide) (by decide)]), by rw [g 10 (by decide) (by decide)]; exact t2, t3, by omega, by omega, c, by rw [g 10 (by decide) (by decide)]; exact u1, by omega, fun i hi => ?_, fun i hi => ?_, ?_⟩
        · rw [g 4 (by decide) (by decide), g 11 (by decide) (by decide)]; exact u3 i hi
        · rw [g 4 (by decide) (by decide), g12]
          unfold upd
          split
          · exact u4 f (by omega)
          · exact u4 i hi
        · rw [g 4 (by decide) (by decide), g12, g 11 (by decide) (by decide), g 9 (by decide) (by decide), g 14 (by decide) (by decide), g 7 (by decide) (by decide), nb_push, nb_diff (show L < f + 1 by omega) (show f + 1 ≤ F by omega), nb_s (f := μ 12) (n := f)]
          omega
      have hR : Rl (la_ms (la_ms μ 12 L (μ 12 f)) 13 L (μ 13 f)) (la_ms (la_ms ν 12 L (μ 12 f)) 13 L (μ 13 f)) := rw_fallD (rw_fallW hr L (μ 12 f)) L (μ 13 f)
      obtain ⟨L', μ', ν', r1, r2, r3⟩ := ih n (L + 1) (f + 1) F _ _ (by omega) (by omega) hTI hR (by rw [pu_msr (by decide), pu_msr (by decide)]; exact hx)
      refine ⟨L', μ', ν', ?_, ?_, r3⟩
      · rw [fX2_takeDue_L4, t2, if_neg hng, pu_if ixf, nf, if_neg hd]
        unfold fX2_takeDue_J59 fX2_takeDue_J86
        rw [pu_if ixf, pu_if ixL, nf, nL, pu_st, pu_if ixf, pu_if ixL, pu_st, pu_msr (show 13 ≠ 12 by decide), nI_1, nI_1, r1]
      · rw [fX8_tick_L14, rl_falling hr, t2, if_neg hng, pu_if ixf, nf, rl_fallD hr, rl_now hr, hx, if_neg hd]
        unfold fX8_tick_J90
        rw [pu_if ixf, pu_if ixL, nL, rl_fallW hr, pu_st, pu_if ixf, pu_if ixL, pu_st, pu_msr (show 13 ≠ 12 by decide), rl_fallD hr, nI_1, nI_1, r2]
theorem asN {x : Int32} {b : Nat} (h : 0 ≤ x.toInt) (h2 : x.toInt ≤ b) (hb : b < 2 ^ 31) : ∃ n : Nat, n ≤ b ∧ x = nI n ∧ (n : Int) = x.toInt := by
  refine ⟨x.toInt.toNat, by omega, ?_, by omega⟩
  rw [pu_eq, nI_toInt (by omega)]
  omega
/-- what falls comes: both sides -/
theorem td_ok {μ ν : la_Mem} (hc : CI μ) (hr : Rl μ ν) : ∃ (L' : Nat) (μ' ν' : la_Mem), fX2_takeDue (μ 0 11) μ = some (la_ms μ' 10 4 (nI L')) ∧ fX8_tick_L14 400 0 0 ν = some (nI L', ν') ∧ CI (la_ms μ' 10 4 (nI L')) ∧ Rl (la_ms μ' 10 4 (nI L')) (la_ms ν' 0 14 (nI L')) ∧ (la_ms μ' 10 4 (nI L')) 0 11 = μ 0 11 := by
  obtain ⟨l1, l2, l3, l4, l5, l6⟩ := hc.2.2.2.1
  obtain ⟨F, hF, eF, eF2⟩ := asN l2 (show (μ 10 4).toInt ≤ (24 : Nat) by omega) (by decide)
  obtain ⟨c, hcc, ec, ec2⟩ := asN l1 (show (μ 10 3).toInt ≤ (24 : Nat) by omega) (by decide)
  have hTI : TI μ 0 0 F := by
    refine ⟨ck_of hc, eF, by omega, Nat.le_refl 0, Nat.zero_le F, c, ec, by omega, fun i hi => l5 i (by omega), fun i hi => l6 i (by omega), ?_⟩
    have a6 := hc.2.2.2.2.2.1
    unfold CE at a6
    rw [show (μ 10 3).toInt.toNat = c by omega, show (μ 10 4).toInt.toNat = F by omega] at a6
    show sh (μ 9) 12 + nb (μ 11) c + 0 + (nb (μ 12) F - 0) + (μ 14 3).toInt + bx (μ 7) (μ 4 5).toInt.toNat ≤ (μ 4 5).toInt
    omega
  obtain ⟨L', μ', ν', r1, r2, r3, r4, r5⟩ := td_P (μ 0 11) F 400 0 0 F μ ν (by omega) (by omega) hTI hr rfl
  refine ⟨L', μ', ν', ?_, r2, ?_, rw_falling r4 (nI L'), by rw [pu_msr (by decide)]; exact r5⟩
  · unfold fX2_takeDue
    rw [show (0 : Int32) = nI 0 from rfl, r1, pu_b2, pu_st]
  · obtain ⟨t1, t2, t3, t4, t5, c', u1, u2, u3, u4, u5⟩ := r3
    obtain ⟨k1, k2, k3, k4, k5, k6, k7, k8⟩ := t1
    have el : (nI L').toInt = L' := nI_toInt (by omega)
    have ecc : (nI c').toInt = c' := nI_toInt (by omega)
    apply ci_10_4
    rw [u1]
    refine ⟨k1, k2, k3, ⟨by omega, by omega, by omega, k4, fun i hi => u3 i (by omega), fun i hi => u4 i (by omega)⟩, k5, ?_, k6, k7, k8⟩
    unfold CE
    rw [el, ecc, show ((c' : Nat) : Int).toNat = c' by omega, show ((L' : Nat) : Int).toNat = L' by omega]
    omega
