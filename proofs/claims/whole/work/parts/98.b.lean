/-! a line is cast -/
theorem fo_L {x : Int32} {μ μ' : la_Mem} (h : μ' 3 = μ 3) : ∀ (n : Nat) (i : Int32), fX0_fallOf_L2 x μ' n i = fX0_fallOf_L2 x μ n i := by
  intro n
  induction n with
  | zero => intro i; rfl
  | succ n ih => intro i; rw [fX0_fallOf_L2, fX0_fallOf_L2, h]; simp only [ih]
theorem fo_c {μ μ' : la_Mem} (h : μ' 3 = μ 3) (x : Int32) : fo μ' x = fo μ x := by
  unfold fo fX0_fallOf
  rw [fo_L h]
theorem byte_ok {x : Int32} (h1 : 0 ≤ x.toInt) (h2 : x.toInt < 128) : vp_nar .byte (Int8.toInt32 (Int32.toInt8 x)) = x := by
  rw [fb_byte (by omega) h2, vp_nar_byte, fb_byte (by omega) h2]
def CP (μ : la_Mem) : Prop := CA (μ 24) (μ 2) (μ 3) (μ 25) (μ 26) ∧ CM (μ 4 5) (μ 5) (μ 6) ∧ CH (μ 4 5) (μ 9) (fun p => μ (36 + p)) ∧ CL (μ 4 5) (μ 10 3) (μ 10 4) (μ 10 5) (μ 11) (μ 12) ∧ Bd (μ 21 1) 0 60 ∧ CZ (fun s => μ (28 + s))
theorem cp_w {μ μ' : la_Mem} (h : CP μ) (hf : ∀ a, a ≠ 7 → a ≠ 14 → a ≠ 15 → a ≠ 16 → a ≠ 17 → a ≠ 18 → a ≠ 20 → a < 48 → μ' a = μ a) : CP μ' := by
  have q : ∀ a, (a = 24 ∨ a = 2 ∨ a = 3 ∨ a = 25 ∨ a = 26 ∨ a = 4 ∨ a = 5 ∨ a = 6 ∨ a = 9 ∨ a = 10 ∨ a = 11 ∨ a = 12 ∨ a = 21 ∨ (28 ≤ a ∧ a < 48)) → μ' a = μ a := fun a h => hf a (by omega) (by omega) (by omega) (by omega) (by omega) (by omega) (by omega) (by omega)
  obtain ⟨a1, a2, a3, a4, a5, a6⟩ := h
  refine ⟨?_, ?_, ?_, ?_, ?_, ?_⟩
  · rw [q 24 (by omega), q 2 (by omega), q 3 (by omega), q 25 (by omega), q 26 (by omega)]; exact a1
  · rw [q 4 (by omega), q 5 (by omega), q 6 (by omega)]; exact a2
  · intro p hp
    have := a3 p hp
    dsimp only
    rw [q 4 (by omega), q 9 (by omega), q (36 + p) (by omega)]
    exact this
  · rw [q 4 (by omega), q 10 (by omega), q 11 (by omega), q 12 (by omega)]; exact a4
  · rw [q 21 (by omega)]; exact a5
  · intro s hs
    have := a6 s hs
    dsimp only
    rw [q (28 + s) (by omega)]
    exact this
def KI (μ : la_Mem) (s i c : Nat) : Prop := CP μ ∧ CB (μ 4 5) (μ 14 3) (μ 15) (μ 16) ∧ μ 10 3 = nI c ∧ c ≤ 24 ∧ i ≤ c ∧ s < 40 ∧ μ 18 2 = nI (s + 1) ∧ μ 20 s = nI i ∧ (∀ j, j < s → Bd (μ 20 j) 0 24) ∧ (∀ j, s < j → j < 40 → μ 20 j = 0) ∧ sh (μ 9) 12 + (nb (μ 11) c - nb (μ 11) i) + nb (μ 12) (μ 10 4).toInt.toNat + (μ 14 3).toInt + bx (μ 7) (μ 4 5).toInt.toNat ≤ (μ 4 5).toInt
/-- the class's numbers as the reference has them while a slug is made -/
def mid (μ : la_Mem) (s : Nat) : la_Mem := la_ms (la_ms μ 18 2 (nI s)) 20 s 0
theorem mid_w {μ : la_Mem} {s k j : Nat} {v : Int32} (h1 : k ≠ 18) (h2 : k ≠ 20) : mid (la_ms μ k j v) s = la_ms (mid μ s) k j v := by
  unfold mid
  rw [ms_comm (a := k) (b := 18) h1, ms_comm (a := k) (b := 20) h2]
theorem mid_20 {μ : la_Mem} {s : Nat} {v : Int32} : mid (la_ms μ 20 s v) s = mid μ s := by
  unfold mid
  rw [ms_comm (a := 20) (b := 18) (by decide), ms_twice]
/-- a sign comes behind the slug -/
def app1 (μ : la_Mem) (s i : Nat) (v : Int32) : la_Mem := la_ms (la_ms μ (48 + s) i v) 20 s (nI (i + 1))
theorem app_c {μ : la_Mem} {s i : Nat} {v : Int32} (hs : s < 40) (hi : i < 24) (e1 : μ 18 2 = nI (s + 1)) (e2 : μ 20 s = nI i) (v1 : 0 ≤ v.toInt) (v2 : v.toInt < 128) : fX4_append v μ = some (app1 μ s i v) := by
  have es : nI (s + 1) - 1 = nI s := nI_pred s
  have ixs : la_ix (nI s) 40 = true := nI_ix hs (by decide)
  have ixi : la_ix (nI i) 24 = true := nI_ix hi (by decide)
  have ns : (nI s).toNatClampNeg = s := nI_clamp (by omega)
  have ni : (nI i).toNatClampNeg = i := nI_clamp (by omega)
  have g : ∀ j w, la_ms μ (48 + s) j w 20 = μ 20 := fun j w => pu_msr (by omega)
  unfold fX4_append app1
  rw [e1, es]
  simp only [pu_st, pu_if ixs]
  rw [if_neg (show ¬ nI s < 0 by rw [pu_lt, nI_toInt (by omega), z0]; omega), ns, e2, if_neg (show ¬ (24 : Int32) ≤ nI i by rw [pu_le, nI_toInt (by omega), z24]; omega), pu_if ixi, g, e2, nI_1, ni, byte_ok v1 v2]
/-- a mould is hung on the bar -/
def hang1 (μ : la_Mem) (x p d : Int32) : la_Mem := la_ms (la_ms (la_ms (la_ms (la_ms μ 7 x.toNatClampNeg 14) 15 (μ 14 3).toNatClampNeg x) 16 (μ 14 3).toNatClampNeg p) 17 (μ 14 3).toNatClampNeg d) 14 3 (μ 14 3 + 1)
theorem hang_c {μ : la_Mem} {x y : Int32} (hx : la_ix x 60 = true) (h0 : 0 ≤ (μ 14 3).toInt) (h60 : (μ 14 3).toInt < 60) : fX7_hangOnBar x y μ = some (hang1 μ x (fo μ (μ 6 x.toNatClampNeg)) (μ 0 11 + μ 26 3 + y + fo μ (μ 6 x.toNatClampNeg))) := by
  have ix : la_ix (μ 14 3) 60 = true := pu_ix.mpr ⟨h0, h60⟩
  have g7 : ∀ (m : la_Mem) (a : Nat) j w, a ≠ 7 → la_ms m 7 j w a = m a := fun m a j w h => pu_msr h
  have g15 : ∀ (m : la_Mem) j w, la_ms m 15 j w 14 = m 14 := fun m j w => pu_msr (by decide)
  have g16 : ∀ (m : la_Mem) j w, la_ms m 16 j w 14 = m 14 := fun m j w => pu_msr (by decide)
  have g17 : ∀ (m : la_Mem) j w, la_ms m 17 j w 14 = m 14 := fun m j w => pu_msr (by decide)
  unfold fX7_hangOnBar hang1 fX1_hang
  rw [pu_if hx, fo_some, Option.bind_some, pu_if hx, pu_st, g7 μ 0 _ _ (by decide), g7 μ 26 _ _ (by decide), g7 μ 14 _ _ (by decide), if_pos (by rw [pu_lt, z60]; exact h60)]
  simp only [pu_st, g15, g16, g17, g7 μ 14 _ _ (show 14 ≠ 7 by decide), pu_if ix, Option.bind_some]
theorem cs_P {s c : Nat} : ∀ (k n x i : Nat) (μ ν : la_Mem), i + k = c → k < n → KI μ s i c → Rl (mid μ s) ν → ∃ (μ' ν' : la_Mem), fX7_castSlug_L11 n (nI x) (nI i) μ = some μ' ∧ fX8_cast_L54 n (nI x) (nI i) ν = some ν' ∧ KI μ' s c c ∧ Rl (mid μ' s) ν' := by
  intro k
  induction k with
  | zero =>
    intro n x i μ ν e1 e2 hk hr
    obtain ⟨n, rfl⟩ : ∃ m, n = m + 1 := ⟨n - 1, by omega⟩
    have hi : i = c := by omega
    subst hi
    have ec := hk.2.2.1
    have em : mid μ s 10 3 = μ 10 3 := by unfold mid; rw [pu_msr (show 10 ≠ 20 by decide), pu_msr (show 10 ≠ 18 by decide)]
    have hle : μ 10 3 ≤ nI i := by rw [ec, pu_le]; omega
    exact ⟨μ, ν, by rw [fX7_castSlug_L11, if_pos hle], by rw [fX8_cast_L54, rl_come hr, em, if_pos hle], hk, hr⟩
  | succ k ih =>
    intro n x i μ ν e1 e2 hk hr
    obtain ⟨n, rfl⟩ : ∃ m, n = m + 1 := ⟨n - 1, by omega⟩
    obtain ⟨k1, k2, k3, k4, k5, k6, k7, k8, k9, k10, k11⟩ := hk
    have gm : ∀ a, a ≠ 18 → a ≠ 20 → mid μ s a = μ a := fun a h1 h2 => by unfold mid; rw [pu_msr h2, pu_msr h1]
    have m18 : mid μ s 18 2 = nI s := by unfold mid; rw [pu_msr (show 18 ≠ 20 by decide), la_ms_self, pk_us]
    have hle : ¬ μ 10 3 ≤ nI i := by rw [k3, pu_le, nI_toInt (by omega), nI_toInt (by omega)]; omega
    have ix : la_ix (nI i) 24 = true := nI_ix (by omega) (by decide)
    have ni : (nI i).toNatClampNeg = i := nI_clamp (by omega)
    have es := nb_s (f := μ 11) (n := i)
    have hq := mul_ix (k := 24) (K := 24) (x := nI s) (y := nI i) (a := s) (b := i) (n := 960) rfl (by decide) (nI_toInt (by omega)) (nI_toInt (by omega)) (by omega) (by omega) (by omega)
    have hm := k1.2.1.1
    have appf : ∀ v a, a ≠ 20 → a < 48 → app1 μ s i v a = μ a := fun v a h1 h2 => by unfold app1; rw [pu_msr h1, pu_msr (by omega)]
    have app20 : ∀ v, app1 μ s i v 20 = upd (μ 20) s (nI (i + 1)) := fun v => by unfold app1; rw [la_ms_self, pu_msr (by omega)]
    have appm : ∀ v, mid (app1 μ s i v) s = la_ms (mid μ s) (48 + s) i v := fun v => by unfold app1; rw [mid_20, mid_w (by omega) (by omega)]
    by_cases h100 : μ 11 i = 100
    · have hKI : KI (app1 μ s i 32) s (i + 1) c := by
        rw [if_pos h100] at es
        refine ⟨cp_w k1 (fun a _ _ _ _ _ _ h7 h8 => appf 32 a h7 h8), ?_, ?_, k4, by omega, k6, ?_, ?_, fun j hj => ?_, fun j hj hj2 => ?_, ?_⟩
        · rw [appf 32 4 (by decide) (by decide), appf 32 14 (by decide) (by decide), appf 32 15 (by decide) (by decide), appf 32 16 (by decide) (by decide)]; exact k2
        · rw [appf 32 10 (by decide) (by decide)]; exact k3
        · rw [appf 32 18 (by decide) (by decide)]; exact k7
        · rw [app20, pk_us]
        · rw [app20, pk_un (by omega)]; exact k9 j hj
        · rw [app20, pk_un (by omega)]; exact k10 j hj hj2
        · rw [appf 32 4 (by decide) (by decide), appf 32 9 (by decide) (by decide), appf 32 11 (by decide) (by decide), appf 32 12 (by decide) (by decide), appf 32 10 (by decide) (by decide), appf 32 14 (by decide) (by decide), appf 32 7 (by decide) (by decide)]; omega
      have hR : Rl (mid (app1 μ s i 32) s) (la_ms ν 18 (24 * s + i) 32) := by rw [appm]; exact rw_sbytes hr k6 (by omega) 32
      obtain ⟨μ', ν', r1, r2, r3⟩ := ih n x (i + 1) _ _ (by omega) (by omega) hKI hR
      refine ⟨μ', ν', ?_, ?_, r3⟩
      · rw [fX7_castSlug_L11, if_neg hle, pu_if ix, pu_st, ni, if_pos h100, app_c k6 (by omega) k7 k8 (by decide) (by decide), Option.bind_some]
        unfold fX7_castSlug_J78
        rw [nI_1, r1]
      · rw [fX8_cast_L54, rl_come hr, gm 10 (by decide) (by decide), if_neg hle, pu_if ix, pu_st, ni, rl_line hr, gm 11 (by decide) (by decide), if_pos h100, rl_slugs hr, m18]
        unfold fX8_cast_J102 fX8_cast_J191
        rw [pu_if hq.1, pu_st, hq.2, if_pos h100, nI_1, r2]
    · have hent : Bd (μ 11 i) 0 ((μ 4 5).toInt - 1) := by
        have h5 := k1.2.2.2.1.2.2.2.2.1 i (by rw [k3, nI_toInt (by omega)]; omega)
        exact h5.resolve_left h100
      have hb1 := hent.1
      have hb2 := hent.2
      have hm2 := hm.2
      have ixv : la_ix (μ 11 i) 60 = true := pu_ix.mpr ⟨hb1, by omega⟩
      have nv := pu_nx hb1
      have hlet := (k1.2.1.2 (μ 11 i).toNatClampNeg (by rw [nv]; omega)).1
      have hl1 := hlet.1
      have hl2 := hlet.2
      rw [if_neg h100] at es
      -- the bar has room
      have hsh := sh_pos (f := μ 9) (n := 12) (fun j hj => (k1.2.2.1 j hj).1.1)
      have hnf := nb_pos (f := μ 12) (n := (μ 10 4).toInt.toNat)
      have hbx := bx_pos (f := μ 7) (n := (μ 4 5).toInt.toNat)
      have hmono := nb_mono (f := μ 11) (show i + 1 ≤ c by omega)
      have h60 : (μ 14 3).toInt < 60 := by omega
      have h0 := k2.1
      generalize hv : μ 11 i = v at *
      have e97 : (97 + μ 5 v.toNatClampNeg).toInt = 97 + (μ 5 v.toNatClampNeg).toInt := by
        rw [fb_addI] <;> rw [z97] <;> omega
      generalize hsg : 97 + μ 5 v.toNatClampNeg = sg at *
      have e14 : app1 μ s i sg 14 = μ 14 := appf sg 14 (by decide) (by decide)
      have ei : (μ 14 3 + 1).toInt = (μ 14 3).toInt + 1 := inc1 (by omega) (by omega)
      obtain ⟨hh, hhh, ehh, ehh2⟩ := asN h0 (show (μ 14 3).toInt ≤ (60 : Nat) by omega) (by decide)
      generalize hpl : fo μ (μ 6 v.toNatClampNeg) = pl
      have hplB : Bd pl 0 12 := by rw [← hpl]; exact (fo_ok _ _).2
      generalize hdu : μ 0 11 + μ 26 3 + nI x + pl = du
      have hfo : fo (app1 μ s i sg) (app1 μ s i sg 6 v.toNatClampNeg) = pl := by rw [appf sg 6 (by decide) (by decide), fo_c (appf sg 3 (by decide) (by decide)), hpl]
      have hf : ∀ a, a ≠ 7 → a ≠ 14 → a ≠ 15 → a ≠ 16 → a ≠ 17 → hang1 (app1 μ s i sg) v pl du a = app1 μ s i sg a := fun a h1 h2 h3 h4 h5 => by unfold hang1; rw [pu_msr h2, pu_msr h5, pu_msr h4, pu_msr h3, pu_msr h1]
      have f14 : hang1 (app1 μ s i sg) v pl du 14 3 = μ 14 3 + 1 := by unfold hang1; rw [la_ms_self, pk_us, e14]
      have f15 : hang1 (app1 μ s i sg) v pl du 15 = upd (μ 15) (μ 14 3).toNatClampNeg v := by unfold hang1; rw [pu_msr (by decide), pu_msr (by decide), pu_msr (by decide), la_ms_self, pu_msr (by decide), appf sg 15 (by decide) (by decide), e14]
      have f16 : hang1 (app1 μ s i sg) v pl du 16 = upd (μ 16) (μ 14 3).toNatClampNeg pl := by unfold hang1; rw [pu_msr (by decide), pu_msr (by decide), la_ms_self, pu_msr (by decide), pu_msr (by decide), appf sg 16 (by decide) (by decide), e14]
      have f7 : hang1 (app1 μ s i sg) v pl du 7 = upd (μ 7) v.toNatClampNeg 14 := by unfold hang1; rw [pu_msr (by decide), pu_msr (by decide), pu_msr (by decide), pu_msr (by decide), la_ms_self, appf sg 7 (by decide) (by decide)]
      have hfa : ∀ a, a ≠ 7 → a ≠ 14 → a ≠ 15 → a ≠ 16 → a ≠ 17 → a ≠ 20 → a < 48 → hang1 (app1 μ s i sg) v pl du a = μ a := fun a h1 h2 h3 h4 h5 h6 h7 => by rw [hf a h1 h2 h3 h4 h5, appf sg a h6 h7]
      have hKI : KI (hang1 (app1 μ s i sg) v pl du) s (i + 1) c := by
        refine ⟨cp_w k1 (fun a h1 h2 h3 h4 h5 _ h7 h8 => hfa a h1 h2 h3 h4 h5 h7 h8), ⟨by rw [f14]; omega, fun j hj => ?_⟩, ?_, k4, by omega, k6, ?_, ?_, fun j hj => ?_, fun j hj hj2 => ?_, ?_⟩
        · rw [f14, ei] at hj
          rw [hfa 4 (by decide) (by decide) (by decide) (by decide) (by decide) (by decide) (by decide), f15, f16]
          unfold upd
          by_cases e : j = (μ 14 3).toNatClampNeg
          · rw [if_pos e, if_pos e]; exact ⟨hent, hplB⟩
          · rw [if_neg e, if_neg e]
            refine k2.2 j ?_
            have := pu_nx h0
            omega
        · rw [hfa 10 (by decide) (by decide) (by decide) (by decide) (by decide) (by decide) (by decide)]; exact k3
        · rw [hfa 18 (by decide) (by decide) (by decide) (by decide) (by decide) (by decide) (by decide)]; exact k7
        · rw [hf 20 (by decide) (by decide) (by decide) (by decide) (by decide), app20, pk_us]
        · rw [hf 20 (by decide) (by decide) (by decide) (by decide) (by decide), app20, pk_un (by omega)]; exact k9 j hj
        · rw [hf 20 (by decide) (by decide) (by decide) (by decide) (by decide), app20, pk_un (by omega)]; exact k10 j hj hj2
        · rw [hfa 4 (by decide) (by decide) (by decide) (by decide) (by decide) (by decide) (by decide), hfa 9 (by decide) (by decide) (by decide) (by decide) (by decide) (by decide) (by decide), hfa 11 (by decide) (by decide) (by decide) (by decide) (by decide) (by decide) (by decide), hfa 12 (by decide) (by decide) (by decide) (by decide) (by decide) (by decide) (by decide), hfa 10 (by decide) (by decide) (by decide) (by decide) (by decide) (by decide) (by decide), f14, f7, ei, bx_in (show v.toNatClampNeg < (μ 4 5).toInt.toNat by omega), if_neg (show ¬ (14 : Int32) = 12 by decide)]
          split <;> omega
      have hRm : Rl (mid (hang1 (app1 μ s i sg) v pl du) s) (la_ms (la_ms (la_ms (la_ms (la_ms (la_ms ν 18 (24 * s + i) sg) 8 v.toNatClampNeg 14) 14 (μ 14 3).toNatClampNeg v) 15 (μ 14 3).toNatClampNeg pl) 16 (μ 14 3).toNatClampNeg du) 0 18 (μ 14 3 + 1)) := by
        unfold hang1
        rw [e14, mid_w (by decide) (by decide), mid_w (by decide) (by decide), mid_w (by decide) (by decide), mid_w (by decide) (by decide), mid_w (by decide) (by decide), appm]
        exact rw_hanging (rw_barD (rw_barP (rw_barW (rw_where (rw_sbytes hr k6 (show i < 24 by omega) sg) v.toNatClampNeg 14) (μ 14 3).toNatClampNeg v) (μ 14 3).toNatClampNeg pl) (μ 14 3).toNatClampNeg du) (μ 14 3 + 1)
      obtain ⟨μ', ν', r1, r2, r3⟩ := ih n (x + 1) (i + 1) _ _ (by omega) (by omega) hKI hRm
      refine ⟨μ', ν', ?_, ?_, r3⟩
      · rw [fX7_castSlug_L11, if_neg hle, pu_if ix, pu_st, ni, hv, if_neg h100, pu_if ixv, hsg, app_c k6 (by omega) k7 k8 (by omega) (by omega), Option.bind_some, hang_c ixv (by rw [e14]; exact h0) (by rw [e14]; exact h60), hfo, appf sg 0 (by decide) (by decide), appf sg 26 (by decide) (by decide), hdu, Option.bind_some]
        unfold fX7_castSlug_J78
        rw [nI_1, nI_1, r1]
      · have ixh : la_ix (μ 14 3) 60 = true := pu_ix.mpr ⟨h0, h60⟩
        have n0 : ν 0 18 = μ 14 3 := by rw [rl_hanging hr, gm 14 (by decide) (by decide)]
        have n7 : ν 7 = μ 6 := by rw [rl_has hr, gm 6 (by decide) (by decide)]
        have n5 : ν 5 = μ 26 := by rw [rl_sets hr, gm 26 (by decide) (by decide)]
        have n11 : ν 0 11 = μ 0 11 := by rw [rl_now hr, gm 0 (by decide) (by decide)]
        have n3 : ν 3 = μ 3 := by rw [rl_brails hr, gm 3 (by decide) (by decide)]
        have n6 : ν 6 = μ 5 := by rw [rl_letters hr, gm 5 (by decide) (by decide)]
        have h18 : ∀ (m : la_Mem) (a : Nat) j w, a ≠ 18 → la_ms m 18 j w a = m a := fun m a j w h => pu_msr h
        have h14 : ∀ (m : la_Mem) (a : Nat) j w, a ≠ 14 → la_ms m 14 j w a = m a := fun m a j w h => pu_msr h
        have h15 : ∀ (m : la_Mem) (a : Nat) j w, a ≠ 15 → la_ms m 15 j w a = m a := fun m a j w h => pu_msr h
        have h16 : ∀ (m : la_Mem) (a : Nat) j w, a ≠ 16 → la_ms m 16 j w a = m a := fun m a j w h => pu_msr h
        have h8 : ∀ (m : la_Mem) (a : Nat) j w, a ≠ 8 → la_ms m 8 j w a = m a := fun m a j w h => pu_msr h
        rw [fX8_cast_L54, rl_come hr, gm 10 (by decide) (by decide), if_neg hle, pu_if ix, pu_st, ni, rl_line hr, gm 11 (by decide) (by decide), hv, if_neg h100, pu_if ixv, n6, hsg, rl_slugs hr, m18]
        unfold fX8_cast_J102 fX8_cast_J191
        rw [pu_if hq.1, pu_st, hq.2, if_neg h100, h18 ν 0 _ _ (by decide), n0, pu_if ixh, pu_st, pu_if ixv, h14 _ 7 _ _ (by decide), h18 ν 7 _ _ (by decide), n7, fall_eq (μ := μ) (by rw [h14 _ 3 _ _ (by decide), h18 ν 3 _ _ (by decide), n3]), fo_some, hpl, Option.bind_some, h14 _ 0 _ _ (by decide), h18 ν 0 _ _ (by decide), n0, pu_if ixh, pu_st]
        rw [h15 _ 0 _ _ (by decide), h14 _ 0 _ _ (by decide), h18 ν 0 _ _ (by decide), n0, n11, pu_if ixh, pu_if ixh, pu_st, la_ms_self, pk_us, h15 _ 5 _ _ (by decide), h14 _ 5 _ _ (by decide), h18 ν 5 _ _ (by decide), n5, hdu, pu_if ixv, pu_st, pu_st, h8 _ 0 _ _ (by decide), h16 _ 0 _ _ (by decide), h15 _ 0 _ _ (by decide), h14 _ 0 _ _ (by decide), h18 ν 0 _ _ (by decide), n0, nI_1, nI_1]
        rw [← r2]
        congr 1
        rw [ms_comm (a := 16) (b := 8) (by decide), ms_comm (a := 15) (b := 8) (by decide), ms_comm (a := 14) (b := 8) (by decide)]
