theorem by_sh (w : Int64) (s : Nat) (hs : s ≤ 56) (u : Int64) (v : Int32) (hu : u.toBitVec = BitVec.ofNat 64 s) (hv : (v.toInt64.toUInt64 &&& Int64.toUInt64 63).toBitVec = BitVec.ofNat 64 s) : (Int64.toInt32 (la_lus w v)) &&& 255 = Int64.toInt32 ((w >>> u) &&& 255) := by
  apply Int32.toBitVec_inj.mp
  have hsm : ((u.toBitVec).smod 64).toNat = s := by
    rw [hu]
    have : ∀ t : Fin 57, ((BitVec.ofNat 64 t.val).smod 64).toNat = t.val := by decide
    exact this ⟨s, by omega⟩
  have hsm2 : (BitVec.ofNat 64 s % 64).toNat = s := by
    have : ∀ t : Fin 57, (BitVec.ofNat 64 t.val % 64).toNat = t.val := by decide
    exact this ⟨s, by omega⟩
  unfold la_lus
  rw [Int32.toBitVec_and, Int64.toBitVec_toInt32, Int64.toBitVec_toInt32, Int64.toBitVec_and, Int64.toBitVec_shiftRight]
  have e1 : (w.toUInt64 >>> (v.toInt64.toUInt64 &&& Int64.toUInt64 63)).toInt64.toBitVec = w.toBitVec >>> s := by
    rw [UInt64.toBitVec_toInt64, UInt64.toBitVec_shiftRight, hv, BitVec.ushiftRight_eq', hsm2]
    rfl
  rw [e1]
  unfold BitVec.sshiftRight'
  rw [hsm]
  apply BitVec.eq_of_getLsbD_eq
  intro i hi
  have b1 : (Int32.toBitVec 255).getLsbD i = decide (i < 8) := by
    have : ∀ t : Fin 32, (Int32.toBitVec 255).getLsbD t.val = decide (t.val < 8) := by decide
    exact this ⟨i, hi⟩
  have b2 : (Int64.toBitVec 255).getLsbD i = decide (i < 8) := by
    have : ∀ t : Fin 32, (Int64.toBitVec 255).getLsbD t.val = decide (t.val < 8) := by decide
    exact this ⟨i, hi⟩
  have h64 : i < 64 := by omega
  simp only [BitVec.getLsbD_and, BitVec.getLsbD_signExtend, BitVec.getLsbD_ushiftRight, BitVec.getLsbD_sshiftRight, b1, b2, hi, h64, decide_true, Bool.true_and, if_true]
  by_cases h8 : i < 8
  · have h1 : s + i < 64 := by omega
    have h2 : ¬ 64 ≤ i := by omega
    simp [h8, h1, h2]
  · simp [h8]
theorem by_v (w u : Int64) : ∃ b : Int32, Bd b 0 255 ∧ ((w >>> u) &&& 255) = b.toInt64 ∧ Int64.toInt32 ((w >>> u) &&& 255) = b := by
  generalize hx : w >>> u = x
  have hn : (x &&& 255).toBitVec.toNat ≤ 255 := by
    have e : (x &&& 255).toBitVec = x.toBitVec &&& (255 : Int64).toBitVec := rfl
    rw [e, BitVec.toNat_and]
    exact Nat.le_trans Nat.and_le_right (by decide)
  have hi : 0 ≤ (x &&& 255).toInt ∧ (x &&& 255).toInt ≤ 255 := by
    have e : (x &&& 255).toInt = (x &&& 255).toBitVec.toInt := rfl
    rw [e, BitVec.toInt_eq_toNat_cond]
    split <;> omega
  have ht : (Int64.toInt32 (x &&& 255)).toInt = (x &&& 255).toInt := by
    rw [Int64.toInt_toInt32, fb_bmod (by omega) (by omega)]
  refine ⟨Int64.toInt32 (x &&& 255), by unfold Bd; rw [ht]; exact hi, ?_, rfl⟩
  apply Int64.toInt_inj.mp
  rw [Int32.toInt_toInt64, ht]
theorem by_ok (w : Int64) {k : Nat} (hk : k < 8) (μ : la_Mem) : ∃ b : Int32, Bd b 0 255 ∧ fX7_byteOf w (nI k) μ = some b ∧ ((w >>> (Int32.toInt64 (8 * nI k) &&& 63)) &&& 255) = b.toInt64 ∧ Int64.toInt32 ((w >>> (Int32.toInt64 (8 * nI k) &&& 63)) &&& 255) = b := by
  obtain ⟨b, b1, b2, b3⟩ := by_v w (Int32.toInt64 (8 * nI k) &&& 63)
  refine ⟨b, b1, ?_, b2, b3⟩
  unfold fX7_byteOf
  have h1 : (Int32.toInt64 (8 * nI k) &&& 63).toBitVec = BitVec.ofNat 64 (8 * k) := by
    have : ∀ t : Fin 8, (Int32.toInt64 (8 * nI t.val) &&& 63).toBitVec = BitVec.ofNat 64 (8 * t.val) := by decide
    exact this ⟨k, hk⟩
  have h2 : ((8 * nI k).toInt64.toUInt64 &&& Int64.toUInt64 63).toBitVec = BitVec.ofNat 64 (8 * k) := by
    have : ∀ t : Fin 8, ((8 * nI t.val).toInt64.toUInt64 &&& Int64.toUInt64 63).toBitVec = BitVec.ofNat 64 (8 * t.val) := by decide
    exact this ⟨k, hk⟩
  rw [by_sh w (8 * k) (by omega) _ _ h1 h2, b3]
theorem ty_C {w : Int64} {x3 : Int32} {N : Nat} {μ ν : la_Mem} (hN : N ≤ 8) (hx : x3 = nI N) : ∀ (k n i : Nat), i + k = N → k < n → (fX7_type_L16 w x3 μ n (nI i) = some (.inl (-1, μ)) ∧ fX8_type_L17 w x3 ν n (nI i) = some (.inl (-1, ν))) ∨ (fX7_type_L16 w x3 μ n (nI i) = some (.inr ()) ∧ fX8_type_L17 w x3 ν n (nI i) = some (.inr ())) := by
  intro k
  induction k with
  | zero =>
    intro n i e1 e2
    obtain ⟨n, rfl⟩ : ∃ m, n = m + 1 := ⟨n - 1, by omega⟩
    have hle : x3 ≤ nI i := by rw [hx, pu_le]; rw [show i = N by omega]; omega
    exact Or.inr ⟨by rw [fX7_type_L16, if_pos hle], by rw [fX8_type_L17, if_pos hle]⟩
  | succ k ih =>
    intro n i e1 e2
    obtain ⟨n, rfl⟩ : ∃ m, n = m + 1 := ⟨n - 1, by omega⟩
    have hle : ¬ x3 ≤ nI i := by rw [hx, pu_le, nI_toInt (by omega), nI_toInt (by omega)]; omega
    obtain ⟨b, b1, b2, b3, b4⟩ := by_ok w (show i < 8 by omega) μ
    rw [fX7_type_L16, fX8_type_L17, if_neg hle, if_neg hle, b2, b3, Option.bind_some, nI_1]
    by_cases q : 32 ≤ b.toInt ∧ b.toInt ≤ 126
    · rw [in_t 32 126 rfl rfl q.1 q.2, Option.bind_some, if_neg nz1, if_neg (show ¬ b < 32 by rw [pu_lt, z32]; omega), if_pos (show b ≤ 126 by rw [pu_le, z126]; omega)]
      exact ih n (i + 1) (by omega) (by omega)
    · rw [in_f 32 126 rfl rfl q, Option.bind_some, if_pos rfl]
      refine Or.inl ⟨?_, rfl⟩
      by_cases q1 : b < 32
      · rw [if_pos q1]
      · rw [if_neg q1, if_neg (show ¬ b ≤ 126 by rw [pu_lt, z32] at q1; rw [pu_le, z126]; omega)]
theorem i_m1 (x : Int32) : x + (-1) = x - 1 := (Int32.sub_eq_add_neg x 1).symm
theorem ty_W {w : Int64} : ∀ (k n : Nat) (μ ν : la_Mem), k ≤ 8 → k < n → CI μ → Rl μ ν → (μ 21 1).toInt + k ≤ 60 → ∃ μ' ν', fX7_type_L74 w n (nI k - 1) μ = some μ' ∧ fX8_type_L73 w n (nI k - 1) ν = some ν' ∧ CI μ' ∧ Rl μ' ν' := by
  intro k
  induction k with
  | zero =>
    intro n μ ν e1 e2 hc hr h60
    obtain ⟨n, rfl⟩ : ∃ m, n = m + 1 := ⟨n - 1, by omega⟩
    have hlt : nI 0 - 1 < 0 := by decide
    exact ⟨μ, ν, by rw [fX7_type_L74, if_pos hlt], by rw [fX8_type_L73, if_pos hlt], hc, hr⟩
  | succ k ih =>
    intro n μ ν e1 e2 hc hr h60
    obtain ⟨n, rfl⟩ : ∃ m, n = m + 1 := ⟨n - 1, by omega⟩
    have hlt : ¬ nI k < 0 := by rw [pu_lt, nI_toInt (by omega), z0]; omega
    obtain ⟨b, b1, b2, b3, b4⟩ := by_ok w (show k < 8 by omega) μ
    have h0 := hc.2.2.2.2.2.2.2.1.1
    have ix : la_ix (μ 21 1) 60 = true := pu_ix.mpr ⟨h0, by omega⟩
    have ei : (μ 21 1 + 1).toInt = (μ 21 1).toInt + 1 := inc1 (by omega) (by omega)
    have hc2 : CI (la_ms μ 22 (μ 21 1).toNatClampNeg b) := ci_free (by omega) hc
    have hc3 : CI (la_ms (la_ms μ 22 (μ 21 1).toNatClampNeg b) 21 1 (μ 21 1 + 1)) := by
      obtain ⟨a1, a2, a3, a4, a5, a6, a7, a8, a9⟩ := hc2
      exact ci_21_1 ⟨a1, a2, a3, a4, a5, a6, a7, ⟨by omega, by omega⟩, a9⟩
    have hr3 := rw_taped (rw_tape hr (μ 21 1).toNatClampNeg b) (μ 21 1 + 1)
    obtain ⟨μ', ν', r1, r2, r3⟩ := ih n _ _ (by omega) (by omega) hc3 hr3 (by rw [la_ms_self, pk_us]; omega)
    refine ⟨μ', ν', ?_, ?_, r3⟩
    · rw [nI_pred, fX7_type_L74, if_neg hlt, b2, Option.bind_some]
      unfold fX6_append
      rw [if_neg (show ¬ (60 : Int32) ≤ μ 21 1 by rw [pu_le, z60]; omega), pu_if ix, pu_st, pu_st, Option.bind_some, pu_msr (show 21 ≠ 22 by decide), i_m1, r1]
    · rw [nI_pred, fX8_type_L73, if_neg hlt, rl_taped hr, pu_if ix, pu_st, pu_st, pu_msr (show 0 ≠ 21 by decide), rl_taped hr, i_m1, b4, r2]
theorem st_type (w : Int64) (a : Int32) (μ ν : la_Mem) (h : Iv μ ν) : ∃ (r : Int32) (μ' ν' : la_Mem), fX7_type w a μ = some (r, μ') ∧ fX8_type w a ν = some (r, ν') ∧ Iv μ' ν' := by
  obtain ⟨hc, hr⟩ := h
  unfold fX7_type fX8_type
  by_cases ha : 1 ≤ a.toInt ∧ a.toInt ≤ 8
  · obtain ⟨N, N1, N2, N3⟩ := asN (show 0 ≤ a.toInt by omega) (show a.toInt ≤ (8 : Nat) by omega) (by decide)
    have h0 := hc.2.2.2.2.2.2.2.1.1
    have h60 := hc.2.2.2.2.2.2.2.1.2
    have es : (μ 21 1 + a).toInt = (μ 21 1).toInt + a.toInt := fb_addI (by omega) (by omega)
    rw [if_neg (show ¬ a < 1 by rw [pu_lt, z1]; omega), if_pos (show a ≤ 8 by rw [pu_le, z8]; omega), in_t 1 8 rfl rfl ha.1 ha.2, Option.bind_some, if_neg nz1, rl_taped hr]
    rcases ty_C (w := w) (μ := μ) (ν := ν) N1 N2 N 400 0 (by omega) (by omega) with ⟨h1, h2⟩ | ⟨h1, h2⟩
    · rw [show fX7_type_L16 w a μ 400 0 = _ from h1, show fX8_type_L17 w a ν 400 0 = _ from h2, pu_x0l, pu_x0l]
      exact ⟨_, _, _, rfl, rfl, hc, hr⟩
    · rw [show fX7_type_L16 w a μ 400 0 = _ from h1, show fX8_type_L17 w a ν 400 0 = _ from h2, pu_x0r, pu_x0r]
      by_cases q : μ 21 1 + a ≤ 60
      · have q2 := q
        rw [pu_le, z60, es] at q2
        obtain ⟨μ', ν', r1, r2, r3, r4⟩ := ty_W (w := w) N 400 μ ν N1 (by omega) hc hr (by omega)
        rw [if_pos q, if_pos q, pu_st, pu_st, N2, r1, r2, Option.bind_some, Option.bind_some, rl_taped r4]
        exact ⟨_, _, _, rfl, rfl, r3, r4⟩
      · rw [if_neg q, if_neg q]
        exact ⟨_, _, _, rfl, rfl, hc, hr⟩
  · rw [in_f 1 8 rfl rfl ha, Option.bind_some, if_pos rfl]
    refine ⟨-1, μ, ν, ?_, rfl, hc, hr⟩
    by_cases q1 : a < 1
    · rw [if_pos q1]
    · rw [if_neg q1, if_neg (show ¬ a ≤ 8 by rw [pu_lt, z1] at q1; rw [pu_le, z8]; omega)]
