theorem tn_of {y : Int32} (h : Bd y 0 127) : y.toBitVec.toNat ≤ 127 := by
  obtain ⟨h1, h2⟩ := h
  have e : y.toInt = y.toBitVec.toInt := rfl
  rw [e, BitVec.toInt_eq_toNat_cond] at h1 h2
  have := y.toBitVec.isLt
  split at h1 <;> split at h2 <;> omega
theorem of_tn {x : Int32} (h : x.toBitVec.toNat ≤ 127) : Bd x 0 127 := by
  have e : x.toInt = x.toBitVec.toInt := rfl
  unfold Bd
  rw [e, BitVec.toInt_eq_toNat_cond]
  split <;> omega
theorem bt_and {y z : Int32} (h : Bd y 0 127) : Bd (y &&& z) 0 127 := by
  apply of_tn
  have h1 := tn_of h
  have e : (y &&& z).toBitVec = y.toBitVec &&& z.toBitVec := rfl
  rw [e, BitVec.toNat_and]
  exact Nat.le_trans Nat.and_le_left h1
theorem bt_sub {x y : Int32} (h : x &&& (y ^^^ (-1)) = 0) (hy : Bd y 0 127) : Bd x 0 127 := by
  have e0 : x.toBitVec &&& (y.toBitVec ^^^ BitVec.allOnes 32) = 0#32 := by
    have e1 : (x &&& (y ^^^ (-1))).toBitVec = (0 : Int32).toBitVec := by rw [h]
    exact e1
  have e2 : x.toBitVec = y.toBitVec &&& x.toBitVec := by
    apply BitVec.eq_of_getLsbD_eq
    intro i hi
    have h3 : (x.toBitVec &&& (y.toBitVec ^^^ BitVec.allOnes 32)).getLsbD i = (0#32).getLsbD i := by rw [e0]
    simp only [BitVec.getLsbD_and, BitVec.getLsbD_xor, BitVec.getLsbD_allOnes, BitVec.getLsbD_zero] at h3 ⊢
    simp only [hi, decide_true] at h3
    revert h3
    cases x.toBitVec.getLsbD i <;> cases y.toBitVec.getLsbD i <;> simp
  apply of_tn
  rw [e2, BitVec.toNat_and]
  exact Nat.le_trans Nat.and_le_left (tn_of hy)
theorem m_sub {m : Int32} (h : Bd m 0 60) : (m - 1).toInt = m.toInt - 1 := by
  obtain ⟨h1, h2⟩ := h
  rw [fb_subI] <;> rw [z1] <;> omega
theorem knows_t {a : Int32} {μ : la_Mem} (h1 : 0 ≤ a.toInt) (h2 : a.toInt < (μ 4 5).toInt) : fX5_knows a μ = some 1 := by
  unfold fX5_knows
  rw [if_neg (by rw [pu_lt, z0]; omega), if_neg (by rw [pu_le]; omega)]
theorem knows_f {a : Int32} {μ : la_Mem} (h : ¬ (0 ≤ a.toInt ∧ a.toInt < (μ 4 5).toInt)) : fX5_knows a μ = some 0 := by
  unfold fX5_knows
  by_cases h1 : a < 0
  · rw [if_pos h1]
  · rw [if_neg h1, if_pos (by rw [pu_lt, z0] at h1; rw [pu_le]; omega)]
theorem isM_t {a : Int32} {μ ν : la_Mem} (hc : CI μ) (hr : Rl μ ν) (h1 : 0 ≤ a.toInt) (h2 : a.toInt < (μ 4 5).toInt) : fX8_isMould a ν = some 1 := by
  unfold fX8_isMould
  rw [rl_moulds hr, in_t 0 ((μ 4 5).toInt - 1) rfl (by rw [Int32.toInt_toInt64, m_sub hc.2.1.1]) h1 (by omega)]
  rfl
theorem isM_f {a : Int32} {μ ν : la_Mem} (hc : CI μ) (hr : Rl μ ν) (h : ¬ (0 ≤ a.toInt ∧ a.toInt < (μ 4 5).toInt)) : fX8_isMould a ν = some 0 := by
  unfold fX8_isMould
  rw [rl_moulds hr, in_f 0 ((μ 4 5).toInt - 1) rfl (by rw [Int32.toInt_toInt64, m_sub hc.2.1.1]) (by omega)]
  rfl
theorem st_told (a b : Int32) (μ ν : la_Mem) (h : Iv μ ν) : ∃ r : Int32, fX7_told a b μ = some r ∧ fX8_told a b ν = some r := by
  obtain ⟨hc, hr⟩ := h
  have hm := hc.2.1.1
  by_cases ha : 0 ≤ a.toInt ∧ a.toInt < (μ 4 5).toInt
  · have ix : la_ix a 60 = true := pu_ix.mpr ⟨ha.1, by have := hm.2; omega⟩
    have e1 : fX7_told a b μ = (if b = 0 then some (μ 5 a.toNatClampNeg) else if b = 1 then some (μ 6 a.toNatClampNeg) else if b = 2 then some (μ 7 a.toNatClampNeg) else some (-1)) := by
      unfold fX7_told
      rw [knows_t ha.1 ha.2]
      simp only [pu_if ix, Option.bind_some]
      rfl
    by_cases hb : 0 ≤ b.toInt ∧ b.toInt ≤ 2
    · have e2 : fX8_told a b ν = (if b = 0 then some (ν 6 a.toNatClampNeg) else if b = 1 then some (ν 7 a.toNatClampNeg) else some (ν 8 a.toNatClampNeg)) := by
        unfold fX8_told
        rw [isM_t hc hr ha.1 ha.2, in_t 0 2 rfl rfl hb.1 hb.2]
        simp only [pu_if ix, Option.bind_some]
        rfl
      rw [e1, e2, rl_letters hr, rl_has hr, rl_where hr]
      by_cases b0 : b = 0
      · exact ⟨_, by rw [if_pos b0], by rw [if_pos b0]⟩
      · by_cases b1 : b = 1
        · exact ⟨_, by rw [if_neg b0, if_pos b1], by rw [if_neg b0, if_pos b1]⟩
        · have b2 : b = 2 := by rw [pu_eq] at *; rw [z0] at b0; rw [z1] at b1; rw [z2]; omega
          exact ⟨_, by rw [if_neg b0, if_neg b1, if_pos b2], by rw [if_neg b0, if_neg b1]⟩
    · refine ⟨-1, ?_, ?_⟩
      · rw [e1, if_neg (fun q => hb (by rw [q]; decide)), if_neg (fun q => hb (by rw [q]; decide)), if_neg (fun q => hb (by rw [q]; decide))]
      · unfold fX8_told
        rw [isM_t hc hr ha.1 ha.2, in_f 0 2 rfl rfl hb]
        rfl
  · refine ⟨-1, ?_, ?_⟩
    · unfold fX7_told; rw [knows_f ha]; rfl
    · unfold fX8_told; rw [isM_f hc hr ha]; rfl
theorem CM_has {m : Int32} {lt hs : Nat → Int32} (h : CM m lt hs) {j : Nat} {v : Int32} (hv : Bd v 0 127) : CM m lt (upd hs j v) := ⟨h.1, fun i hi => ⟨(h.2 i hi).1, by unfold upd; split; exact hv; exact (h.2 i hi).2⟩⟩
theorem st_wear (a b : Int32) (μ ν : la_Mem) (h : Iv μ ν) : ∃ (r : Int32) (μ' ν' : la_Mem), fX7_wear a b μ = some (r, μ') ∧ fX8_wear a b ν = some (r, ν') ∧ Iv μ' ν' := by
  obtain ⟨hc, hr⟩ := h
  have hm := hc.2.1.1
  by_cases ha : 0 ≤ a.toInt ∧ a.toInt < (μ 4 5).toInt
  · have ix : la_ix a 60 = true := pu_ix.mpr ⟨ha.1, by have := hm.2; omega⟩
    have hh := (hc.2.1.2 a.toNatClampNeg (by rw [pu_nx ha.1]; exact ha.2)).2
    have e1 : fX7_wear a b μ = if (b &&& (μ 6 a.toNatClampNeg ^^^ (-1))) = 0 then some (μ 6 a.toNatClampNeg &&& (b ^^^ (-1)), la_ms μ 6 a.toNatClampNeg (μ 6 a.toNatClampNeg &&& (b ^^^ (-1)))) else some (-1, μ) := by
      unfold fX7_wear
      rw [knows_t ha.1 ha.2]
      simp only [pu_if ix, Option.bind_some, pu_st, la_ms_self, pk_us]
      rfl
    have e2 : fX8_wear a b ν = (fX8_in b.toInt64 0 127 ν).bind (fun r => if r = 0 then some (-1, ν) else if (b &&& (μ 6 a.toNatClampNeg ^^^ (-1))) = 0 then some (μ 6 a.toNatClampNeg &&& (b ^^^ (-1)), la_ms ν 7 a.toNatClampNeg (μ 6 a.toNatClampNeg &&& (b ^^^ (-1)))) else some (-1, ν)) := by
      unfold fX8_wear
      rw [isM_t hc hr ha.1 ha.2]
      simp only [pu_if ix, Option.bind_some, pu_st, la_ms_self, pk_us, rl_has hr]
      rfl
    by_cases hb : (b &&& (μ 6 a.toNatClampNeg ^^^ (-1))) = 0
    · have hv := bt_sub hb hh
      refine ⟨_, _, _, by rw [e1, if_pos hb], by rw [e2, in_t 0 127 rfl rfl hv.1 hv.2, Option.bind_some, if_neg (by decide), if_pos hb], ci_6 ⟨hc.1, CM_has hc.2.1 (bt_and hh), hc.2.2⟩, rw_has hr _ _⟩
    · refine ⟨-1, μ, ν, by rw [e1, if_neg hb], ?_, hc, hr⟩
      rw [e2]
      by_cases hv : 0 ≤ b.toInt ∧ b.toInt ≤ 127
      · rw [in_t 0 127 rfl rfl hv.1 hv.2, Option.bind_some, if_neg (by decide), if_neg hb]
      · rw [in_f 0 127 rfl rfl hv, Option.bind_some, if_pos rfl]
  · refine ⟨-1, μ, ν, ?_, ?_, hc, hr⟩
    · unfold fX7_wear; rw [knows_f ha]; rfl
    · unfold fX8_wear; rw [isM_f hc hr ha]; rfl
theorem st_line (a : Int32) (μ ν : la_Mem) (h : Iv μ ν) : ∃ r : Int32, fX7_line a μ = some r ∧ fX8_line a ν = some r := by
  obtain ⟨hc, hr⟩ := h
  obtain ⟨l1, l2, l3, -⟩ := hc.2.2.2.1
  unfold fX7_line fX8_line
  rw [rl_come hr, rl_line hr]
  by_cases h1 : (-1) ≤ a
  · rw [if_pos h1, if_pos h1]
    by_cases h2 : a = -1
    · exact ⟨μ 10 3, by rw [if_pos h2], by rw [if_neg (by rw [h2]; decide)]⟩
    · have h3 : 0 ≤ a := by rw [pu_le, zm1] at h1; rw [pu_eq, zm1] at h2; rw [pu_le, z0]; omega
      rw [if_neg h2, if_pos h3]
      by_cases h4 : μ 10 3 ≤ a
      · exact ⟨-4, by rw [if_pos h4], by rw [if_pos h4]⟩
      · have ix : la_ix a 24 = true := pu_ix.mpr (by rw [pu_le, z0] at h3; rw [pu_le] at h4; omega)
        exact ⟨_, by rw [if_neg h4, pu_if ix], by rw [if_neg h4, pu_if ix]⟩
  · exact ⟨-1, by rw [if_neg h1], by rw [if_neg h1]⟩
theorem mul_t {k : Nat} {K x y : Int32} (hK : K.toInt = k) (hk : k ≤ 1000) {a b : Nat} (hx : x.toInt = a) (hy : y.toInt = b) (ha : a ≤ 1000) (hb : b ≤ 1000) : (K * x + y).toInt = k * a + b := by
  have h1 : (k : Int) * a ≤ 1000 * 1000 := by
    have : k * a ≤ 1000 * 1000 := Nat.mul_le_mul hk ha
    omega
  have h0 : (0 : Int) ≤ (k : Int) * a := by
    have : 0 ≤ k * a := Nat.zero_le _
    omega
  have e : (K * x).toInt = k * a := by
    rw [fb_mulI] <;> rw [hK, hx] <;> omega
  rw [fb_addI] <;> rw [e, hy] <;> omega
theorem mul_ix {k : Nat} {K x y : Int32} (hK : K.toInt = k) (hk : k ≤ 1000) {a b n : Nat} (hx : x.toInt = a) (hy : y.toInt = b) (ha : a ≤ 1000) (hb : b ≤ 1000) (hn : k * a + b < n) : la_ix (K * x + y) n = true ∧ (K * x + y).toNatClampNeg = k * a + b := by
  have e := mul_t hK hk hx hy ha hb
  have e2 : ((k : Int) * a + b) = ((k * a + b : Nat) : Int) := by omega
  constructor
  · rw [pu_ix, e]; omega
  · rw [nx0 e (by omega)]; omega
theorem st_slug (a b : Int32) (μ ν : la_Mem) (h : Iv μ ν) : ∃ r : Int32, fX7_slug a b μ = some r ∧ fX8_slug a b ν = some r := by
  obtain ⟨hc, hr⟩ := h
  obtain ⟨c1, c2, c3⟩ := hc.2.2.2.2.2.2.1
  have esub : (μ 18 2 - 1).toInt = (μ 18 2).toInt - 1 := by
    obtain ⟨q1, q2⟩ := c1
    rw [fb_subI] <;> rw [z1] <;> omega
  by_cases ha : 0 ≤ a.toInt ∧ a.toInt < (μ 18 2).toInt
  · have ix : la_ix a 40 = true := pu_ix.mpr ⟨ha.1, by have := c1.2; omega⟩
    have hlen := c2 a.toNatClampNeg (by rw [pu_nx ha.1]; exact ha.2)
    have e1 : fX7_slug a b μ = if b < (-1) then some (-1) else if b < μ 20 a.toNatClampNeg then (if b = (-1) then some (μ 20 a.toNatClampNeg) else la_if (la_ix b 24) (some (μ (48 + a.toNatClampNeg) b.toNatClampNeg))) else some (-1) := by
      unfold fX7_slug
      rw [if_neg (by rw [pu_lt, z0]; omega), if_neg (by rw [pu_le]; omega)]
      simp only [pu_if ix]
    have e2 : fX8_slug a b ν = if b < (-1) then some (-1) else if b < μ 20 a.toNatClampNeg then (if 0 ≤ b then la_if (la_ix (24 * a + b) 960) (some (ν 18 (24 * a + b).toNatClampNeg)) else some (μ 20 a.toNatClampNeg)) else some (-1) := by
      unfold fX8_slug
      rw [rl_slugs hr, in_t 0 ((μ 18 2).toInt - 1) rfl (by rw [Int32.toInt_toInt64, esub]) ha.1 (by omega)]
      simp only [pu_if ix, Option.bind_some, rl_slen hr]
      rfl
    rw [e1, e2]
    by_cases h1 : b < (-1)
    · exact ⟨-1, by rw [if_pos h1], by rw [if_pos h1]⟩
    · rw [if_neg h1, if_neg h1]
      by_cases h2 : b < μ 20 a.toNatClampNeg
      · rw [if_pos h2, if_pos h2]
        by_cases h3 : b = -1
        · exact ⟨_, by rw [if_pos h3], by rw [if_neg (by rw [h3]; decide)]⟩
        · have h4 : 0 ≤ b.toInt := by rw [pu_lt, zm1] at h1; rw [pu_eq, zm1] at h3; omega
          have h5 : b.toInt < 24 := by rw [pu_lt] at h2; have := hlen.2; omega
          have hq := mul_ix (k := 24) (K := 24) (x := a) (y := b) (a := a.toNatClampNeg) (b := b.toNatClampNeg) (n := 960) rfl (by decide) (pu_nx ha.1).symm (pu_nx h4).symm (by have := pu_cl (n := 40) ha.1 (by have := c1.2; omega); omega) (by have := pu_cl (n := 24) h4 h5; omega) (by have := pu_cl (n := 40) ha.1 (by have := c1.2; omega); have := pu_cl (n := 24) h4 h5; omega)
          refine ⟨μ (48 + a.toNatClampNeg) b.toNatClampNeg, by rw [if_neg h3, pu_if (pu_ix.mpr ⟨h4, h5⟩)], ?_⟩
          rw [if_pos (by rw [pu_le, z0]; exact h4), pu_if hq.1, hq.2, rl_sbytes hr (pu_cl ha.1 (by have := c1.2; omega)) (pu_cl h4 h5)]
      · exact ⟨-1, by rw [if_neg h2], by rw [if_neg h2]⟩
  · refine ⟨-1, ?_, ?_⟩
    · unfold fX7_slug
      by_cases h1 : a < 0
      · rw [if_pos h1]
      · rw [if_neg h1, if_pos (by rw [pu_lt, z0] at h1; rw [pu_le]; omega)]
    · unfold fX8_slug
      rw [rl_slugs hr, in_f 0 ((μ 18 2).toInt - 1) rfl (by rw [Int32.toInt_toInt64, esub]) (by omega)]
      rfl
theorem st_channel (a b : Int32) (μ ν : la_Mem) (h : Iv μ ν) : ∃ r : Int32, fX7_channel a b μ = some r ∧ fX8_channel a b ν = some r := by
  obtain ⟨hc, hr⟩ := h
  by_cases ha : 0 ≤ a.toInt ∧ a.toInt < 12
  · have ix : la_ix a 12 = true := pu_ix.mpr ⟨ha.1, by omega⟩
    have hcl : a.toNatClampNeg < 12 := pu_cl ha.1 ha.2
    obtain ⟨hh, -⟩ := hc.2.2.1 a.toNatClampNeg hcl
    have e1 : fX7_channel a b μ = if (-1) ≤ b then (if b = (-1) then some (μ 9 a.toNatClampNeg) else if μ 9 a.toNatClampNeg ≤ b then some (-4) else la_if (la_ix b 8) (some (μ (36 + a.toNatClampNeg) b.toNatClampNeg))) else some (-1) := by
      unfold fX7_channel
      rw [isPlace_t ha.1 ha.2]
      simp only [pu_if ix, Option.bind_some]
      rfl
    have e2 : fX8_channel a b ν = if (-1) ≤ b then (if 0 ≤ b then (if μ 9 a.toNatClampNeg ≤ b then some (-4) else la_if (la_ix (8 * a + b) 96) (some (ν 10 (8 * a + b).toNatClampNeg))) else some (μ 9 a.toNatClampNeg)) else some (-1) := by
      unfold fX8_channel
      rw [isTwelve_t ha.1 ha.2]
      simp only [pu_if ix, Option.bind_some, rl_held hr]
      rfl
    rw [e1, e2]
    by_cases h1 : (-1) ≤ b
    · rw [if_pos h1, if_pos h1]
      by_cases h2 : b = -1
      · exact ⟨_, by rw [if_pos h2], by rw [if_neg (by rw [h2]; decide)]⟩
      · have h3 : 0 ≤ b.toInt := by rw [pu_le, zm1] at h1; rw [pu_eq, zm1] at h2; omega
        rw [if_neg h2, if_pos (show (0 : Int32) ≤ b by rw [pu_le, z0]; exact h3)]
        by_cases h4 : μ 9 a.toNatClampNeg ≤ b
        · exact ⟨-4, by rw [if_pos h4], by rw [if_pos h4]⟩
        · have h5 : b.toInt < 8 := by rw [pu_le] at h4; have := hh.2; omega
          have hq := mul_ix (k := 8) (K := 8) (x := a) (y := b) (a := a.toNatClampNeg) (b := b.toNatClampNeg) (n := 96) rfl (by decide) (pu_nx ha.1).symm (pu_nx h3).symm (by omega) (by have := pu_cl (n := 8) h3 h5; omega) (by have := pu_cl (n := 8) h3 h5; omega)
          refine ⟨μ (36 + a.toNatClampNeg) b.toNatClampNeg, by rw [if_neg h4, pu_if (pu_ix.mpr ⟨h3, h5⟩)], ?_⟩
          rw [if_neg h4, pu_if hq.1, hq.2, rl_chan hr hcl (pu_cl h3 h5)]
    · exact ⟨-1, by rw [if_neg h1], by rw [if_neg h1]⟩
  · refine ⟨-1, ?_, ?_⟩
    · unfold fX7_channel; rw [isPlace_f ha]; rfl
    · unfold fX8_channel; rw [isTwelve_f ha]; rfl
