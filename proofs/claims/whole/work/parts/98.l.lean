/-! how many teeth -/
theorem bt_le {x y : Int32} (h : x &&& (y ^^^ (-1)) = 0) (hy : Bd y 0 127) : x.toInt ≤ y.toInt := by
  have hx := bt_sub h hy
  have e0 : x.toBitVec &&& (y.toBitVec ^^^ BitVec.allOnes 32) = 0#32 := by
    have e1 : (x &&& (y ^^^ (-1))).toBitVec = (0 : Int32).toBitVec := by rw [h]
    exact e1
  have e2 : x.toBitVec = y.toBitVec &&& x.toBitVec := by
    apply BitVec.eq_of_getLsbD_eq
    intro i hi
    have h3 : (x.toBitVec &&& (y.toBitVec ^^^ BitVec.allOnes 32)).getLsbD i = (0#32).getLsbD i := by rw [e0]
    simp only [BitVec.getLsbD_and, BitVec.getLsbD_xor, BitVec.getLsbD_allOnes, BitVec.getLsbD_zero] at h3 ⊢
    simp only [hi, decide_true] at h3
    revert h3
    cases x.toBitVec.getLsbD i <;> cases y.toBitVec.getLsbD i <;> simp
  have h4 : x.toBitVec.toNat ≤ y.toBitVec.toNat := by
    rw [e2, BitVec.toNat_and]
    exact Nat.and_le_left
  have h5 := tn_of hx
  have h6 := tn_of hy
  have ex : x.toInt = x.toBitVec.toInt := rfl
  have ey : y.toInt = y.toBitVec.toInt := rfl
  rw [ex, ey, BitVec.toInt_eq_toNat_cond, BitVec.toInt_eq_toNat_cond, if_pos (by omega), if_pos (by omega)]
  omega
def bcv (x0 : Int32) : Int32 :=
  let v9 := x0 - ((la_us x0 1) &&& 1431655765)
  let v23 := (v9 &&& 858993459) + ((la_us v9 2) &&& 858993459)
  let v33 := (v23 + (la_us v23 4)) &&& 252645135
  let v40 := v33 + (la_us v33 8)
  let v47 := v40 + (la_us v40 16)
  v47 &&& 63
def szv (x : Int32) : Int32 := 0 + ((x >>> (nI 0 &&& 31)) &&& 1) + ((x >>> (nI 1 &&& 31)) &&& 1) + ((x >>> (nI 2 &&& 31)) &&& 1) + ((x >>> (nI 3 &&& 31)) &&& 1) + ((x >>> (nI 4 &&& 31)) &&& 1) + ((x >>> (nI 5 &&& 31)) &&& 1) + ((x >>> (nI 6 &&& 31)) &&& 1)
theorem bc_c (x : Int32) (μ : la_Mem) : fJ6_bitCount_0f7a4 x μ = some (bcv x) := rfl
theorem sz_s (x : Int32) (ν : la_Mem) (n i : Nat) (a : Int32) (hi : i < 7) : fX8_size_L4 x ν (n + 1) a (nI i) = fX8_size_L4 x ν n (a + ((x >>> (nI i &&& 31)) &&& 1)) (nI (i + 1)) := by
  rw [fX8_size_L4, if_neg (show ¬ (7 : Int32) ≤ nI i by rw [pu_le, nI_toInt (by omega), z7]; omega), pu_st, nI_1]
theorem sz_m (x : Int32) (ν : la_Mem) : fX8_size x ν = some (szv x) := by
  unfold fX8_size
  rw [show fX8_size_L4 x ν 400 0 0 = fX8_size_L4 x ν (399 + 1) 0 (nI 0) from rfl, sz_s _ _ 399 0 _ (by decide), show (399 : Nat) = 398 + 1 from rfl, sz_s _ _ 398 1 _ (by decide), show (398 : Nat) = 397 + 1 from rfl, sz_s _ _ 397 2 _ (by decide), show (397 : Nat) = 396 + 1 from rfl, sz_s _ _ 396 3 _ (by decide), show (396 : Nat) = 395 + 1 from rfl, sz_s _ _ 395 4 _ (by decide), show (395 : Nat) = 394 + 1 from rfl, sz_s _ _ 394 5 _ (by decide), show (394 : Nat) = 393 + 1 from rfl, sz_s _ _ 393 6 _ (by decide), show (393 : Nat) = 392 + 1 from rfl, fX8_size_L4, if_pos (by decide)]
  rfl
theorem bc_eq : ∀ j : Fin 128, bcv (nI j.val) = szv (nI j.val) := by decide +kernel
theorem bc_ok {x : Int32} (h : Bd x 0 127) : bcv x = szv x := by
  obtain ⟨j, j1, j2, j3⟩ := asN h.1 (show x.toInt ≤ (127 : Nat) from h.2) (by decide)
  rw [j2]
  exact bc_eq ⟨j, by omega⟩
theorem lo_T {x1 x2 t : Int32} {ν : la_Mem} (ix : la_ix x1 12 = true) (et : ν 2 x1.toNatClampNeg = t) (ht : Bd t 0 127) : ∀ (k n i : Nat) (b : Int32), i + k = 128 → k < n → t.toInt < i → fX8_lost_L27 x1 x2 ν n b (nI i) = some b := by
  intro k
  induction k with
  | zero =>
    intro n i b e1 e2 e3
    obtain ⟨n, rfl⟩ : ∃ m, n = m + 1 := ⟨n - 1, by omega⟩
    have hi : i = 128 := by omega
    subst hi
    rw [fX8_lost_L27, if_pos (by decide)]
  | succ k ih =>
    intro n i b e1 e2 e3
    obtain ⟨n, rfl⟩ : ∃ m, n = m + 1 := ⟨n - 1, by omega⟩
    rw [fX8_lost_L27, if_neg (show ¬ (128 : Int32) ≤ nI i by rw [pu_le, nI_toInt (by omega), show (128 : Int32).toInt = 128 from rfl]; omega), pu_if ix, et, if_neg (fun q => by have := bt_le q ht; rw [nI_toInt (by omega)] at this; omega)]
    unfold fX8_lost_J72 fX8_lost_J73 fX8_lost_J101 fX8_lost_J102
    rw [if_pos rfl, nI_1]
    exact ih n (i + 1) b (by omega) (by omega) (by omega)
theorem lo_P {x1 x2 t : Int32} {μ ν : la_Mem} (h3 : ν 3 = μ 3) (ix : la_ix x1 12 = true) (et : ν 2 x1.toNatClampNeg = t) (ht : Bd t 0 127) : ∀ (k n i : Nat) (b : Int32), i + k = 128 → k < n → (b = -4 ∨ Bd b 0 127) → ∃ r : Int32, fX0_fewestLost_L14 x2 t μ n b (nI i) = some r ∧ fX8_lost_L27 x1 x2 ν n b (nI i) = some r := by
  intro k
  induction k with
  | zero =>
    intro n i b e1 e2 hb
    obtain ⟨n, rfl⟩ : ∃ m, n = m + 1 := ⟨n - 1, by omega⟩
    have hi : i = 128 := by omega
    subst hi
    have := ht.2
    exact ⟨b, by rw [fX0_fewestLost_L14, if_pos (show t < nI 128 by rw [pu_lt, nI_toInt (by omega)]; omega)], by rw [fX8_lost_L27, if_pos (by decide)]⟩
  | succ k ih =>
    intro n i b e1 e2 hb
    by_cases q0 : t.toInt < i
    · refine ⟨b, ?_, lo_T ix et ht (k + 1) n i b e1 e2 q0⟩
      obtain ⟨n, rfl⟩ : ∃ m, n = m + 1 := ⟨n - 1, by omega⟩
      rw [fX0_fewestLost_L14, if_pos (show t < nI i by rw [pu_lt, nI_toInt (by omega)]; omega)]
    · obtain ⟨n, rfl⟩ : ∃ m, n = m + 1 := ⟨n - 1, by omega⟩
      have ti : (nI i).toInt = i := nI_toInt (by omega)
      have bi : Bd (nI i) 0 127 := ⟨by omega, by omega⟩
      rw [fX0_fewestLost_L14, fX8_lost_L27, if_neg (show ¬ t < nI i by rw [pu_lt]; omega), if_neg (show ¬ (128 : Int32) ≤ nI i by rw [pu_le, show (128 : Int32).toInt = 128 from rfl]; omega)]
      unfold fX0_fewestLost_J47 fX0_fewestLost_J48 fX0_fewestLost_J75 fX0_fewestLost_J79 fX8_lost_J72 fX8_lost_J73 fX8_lost_J96 fX8_lost_J101 fX8_lost_J102
      simp only [pu_if ix, et, nI_1, fall_eq h3, fo_some, Option.bind_some, bc_c, sz_m, if_neg nz1, if_pos]
      have keep := ih n (i + 1) b (by omega) (by omega) hb
      have take := ih n (i + 1) (nI i) (by omega) (by omega) (Or.inr bi)
      by_cases q1 : (nI i &&& (t ^^^ -1)) = 0
      · rw [if_pos q1, if_pos q1]
        by_cases q2 : fo μ (t &&& (nI i ^^^ -1)) = x2
        · rw [if_pos q2, if_pos q2]
          rcases hb with hb | hb
          · rw [if_pos hb, if_pos (show b < 0 by rw [hb]; decide)]; exact take
          · have hb0 := hb.1
            rw [if_neg (show ¬ b = -4 by rw [pu_eq, show (-4 : Int32).toInt = -4 from rfl]; omega), if_neg (show ¬ b < 0 by rw [pu_lt, z0]; omega), bc_ok hb, bc_ok bi]
            by_cases q3 : szv b ≤ szv (nI i)
            · rw [if_pos q3, if_pos q3]; exact keep
            · rw [if_neg q3, if_neg q3]; exact take
        · rw [if_neg q2, if_neg q2]; exact keep
      · rw [if_neg q1, if_neg q1]; exact keep
theorem st_lost (a b : Int32) (μ ν : la_Mem) (h : Iv μ ν) : ∃ r : Int32, fX7_lost a b μ = some r ∧ fX8_lost a b ν = some r := by
  obtain ⟨hc, hr⟩ := h
  unfold fX7_lost fX8_lost fX7_lost_J22
  by_cases ha : 0 ≤ a.toInt ∧ a.toInt < 12
  · have ix : la_ix a 12 = true := pu_ix.mpr ha
    have hp := (hc.1.1 _ (pu_cl (n := 12) ha.1 ha.2)).2.1
    rw [isLetter_t ha.1 ha.2, isTwelve_t ha.1 ha.2, Option.bind_some, Option.bind_some, if_neg nz1, if_neg nz1]
    obtain ⟨r, r1, r2⟩ := lo_P (x1 := a) (x2 := b) (t := μ 2 a.toNatClampNeg) (rl_brails hr) ix (by rw [rl_bteeth hr]) ⟨by have := hp.1; omega, hp.2⟩ 128 400 0 (-4) (by omega) (by omega) (Or.inl rfl)
    have e1 : fX0_fewestLost a b μ = some r := by
      unfold fX0_fewestLost
      rw [pu_if ix, pu_st, show fX0_fewestLost_L14 b (μ 2 a.toNatClampNeg) μ 400 (-4) 0 = _ from r1]
      rfl
    rw [e1, show fX8_lost_L27 a b ν 400 (-4) 0 = _ from r2]
    by_cases hb : 0 ≤ b.toInt ∧ b.toInt < 12
    · rw [isPlace_t hb.1 hb.2, in_t 0 12 rfl rfl hb.1 (by omega)]; exact ⟨_, rfl, rfl⟩
    · rw [isPlace_f hb]
      by_cases q : b = 12
      · refine ⟨r, ?_, ?_⟩
        · rw [Option.bind_some, Option.bind_some, if_pos rfl, if_pos q]
        · rw [in_t 0 12 rfl rfl (by rw [q]; decide) (by rw [q]; decide)]; rfl
      · refine ⟨-1, ?_, ?_⟩
        · rw [Option.bind_some, Option.bind_some, if_pos rfl, if_neg q]
        · rw [in_f 0 12 rfl rfl (fun w => by rw [pu_eq, z12] at q; omega)]; rfl
  · rw [isLetter_f ha, isTwelve_f ha]; exact ⟨_, rfl, rfl⟩
