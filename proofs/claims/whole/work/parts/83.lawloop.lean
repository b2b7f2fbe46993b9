def lw_S (Inv : la_Mem → la_Mem → Prop) (n : Nat) : Prop := match n with
  | 0 => ∀ (a0 : Int32) (a1 : Int32) (a2 : Int32) (μ ν : la_Mem), Inv μ ν → ∃ (r : Int32) (μ' ν' : la_Mem), fX7_letter a0 a1 a2 μ = some (r, μ') ∧ fX8_letter a0 a1 a2 ν = some (r, ν') ∧ Inv μ' ν'
  | 1 => ∀ (a0 : Int32) (a1 : Int32) (a2 : Int32) (μ ν : la_Mem), Inv μ ν → ∃ (r : Int32) (μ' ν' : la_Mem), fX7_place a0 a1 a2 μ = some (r, μ') ∧ fX8_place a0 a1 a2 ν = some (r, ν') ∧ Inv μ' ν'
  | 2 => ∀ (a0 : Int32) (a1 : Int32) (a2 : Int32) (μ ν : la_Mem), Inv μ ν → ∃ (r : Int32) (μ' ν' : la_Mem), fX7_rails a0 a1 a2 μ = some (r, μ') ∧ fX8_rails a0 a1 a2 ν = some (r, ν') ∧ Inv μ' ν'
  | 3 => ∀ (a0 : Int32) (a1 : Int32) (μ ν : la_Mem), Inv μ ν → ∃ (r : Int32) (μ' ν' : la_Mem), fX7_set a0 a1 μ = some (r, μ') ∧ fX8_set a0 a1 ν = some (r, ν') ∧ Inv μ' ν'
  | 4 => ∀ (a0 : Int32) (μ ν : la_Mem), Inv μ ν → ∃ r : Int32, fX7_falls a0 μ = some r ∧ fX8_falls a0 ν = some r
  | 5 => ∀  (μ ν : la_Mem), Inv μ ν → ∃ r : Int32, fX7_astray  μ = some r ∧ fX8_astray  ν = some r
  | 6 => ∀ (a0 : Int32) (μ ν : la_Mem), Inv μ ν → ∃ r : Int32, fX7_order a0 μ = some r ∧ fX8_order a0 ν = some r
  | 7 => ∀ (a0 : Int32) (a1 : Int32) (μ ν : la_Mem), Inv μ ν → ∃ r : Int32, fX7_lost a0 a1 μ = some r ∧ fX8_lost a0 a1 ν = some r
  | 8 => ∀ (a0 : Int32) (a1 : Int32) (μ ν : la_Mem), Inv μ ν → ∃ (r : Int32) (μ' ν' : la_Mem), fX7_mould a0 a1 μ = some (r, μ') ∧ fX8_mould a0 a1 ν = some (r, ν') ∧ Inv μ' ν'
  | 9 => ∀ (a0 : Int32) (a1 : Int32) (μ ν : la_Mem), Inv μ ν → ∃ r : Int32, fX7_told a0 a1 μ = some r ∧ fX8_told a0 a1 ν = some r
  | 10 => ∀ (a0 : Int32) (a1 : Int32) (μ ν : la_Mem), Inv μ ν → ∃ (r : Int32) (μ' ν' : la_Mem), fX7_wear a0 a1 μ = some (r, μ') ∧ fX8_wear a0 a1 ν = some (r, ν') ∧ Inv μ' ν'
  | 11 => ∀ (a0 : Int32) (μ ν : la_Mem), Inv μ ν → ∃ (r : Int32) (μ' ν' : la_Mem), fX7_home a0 μ = some (r, μ') ∧ fX8_home a0 ν = some (r, ν') ∧ Inv μ' ν'
  | 12 => ∀ (a0 : Int32) (a1 : Int32) (μ ν : la_Mem), Inv μ ν → ∃ r : Int32, fX7_channel a0 a1 μ = some r ∧ fX8_channel a0 a1 ν = some r
  | 13 => ∀ (a0 : Int32) (μ ν : la_Mem), Inv μ ν → ∃ (r : Int32) (μ' ν' : la_Mem), fX7_key a0 μ = some (r, μ') ∧ fX8_key a0 ν = some (r, ν') ∧ Inv μ' ν'
  | 14 => ∀  (μ ν : la_Mem), Inv μ ν → ∃ (r : Int32) (μ' ν' : la_Mem), fX7_band  μ = some (r, μ') ∧ fX8_band  ν = some (r, ν') ∧ Inv μ' ν'
  | 15 => ∀ (a0 : Int32) (μ ν : la_Mem), Inv μ ν → ∃ (r : Int32) (μ' ν' : la_Mem), fX7_ticks a0 μ = some (r, μ') ∧ fX8_ticks a0 ν = some (r, ν') ∧ Inv μ' ν'
  | 16 => ∀ (a0 : Int32) (μ ν : la_Mem), Inv μ ν → ∃ r : Int32, fX7_line a0 μ = some r ∧ fX8_line a0 ν = some r
  | 17 => ∀  (μ ν : la_Mem), Inv μ ν → ∃ r : Int32, fX7_state  μ = some r ∧ fX8_state  ν = some r
  | 18 => ∀ (a0 : Int32) (μ ν : la_Mem), Inv μ ν → ∃ r : Int32, fX7_thick a0 μ = some r ∧ fX8_thick a0 ν = some r
  | 19 => ∀  (μ ν : la_Mem), Inv μ ν → ∃ (r : Int32) (μ' ν' : la_Mem), fX7_cast  μ = some (r, μ') ∧ fX8_cast  ν = some (r, ν') ∧ Inv μ' ν'
  | 20 => ∀  (μ ν : la_Mem), Inv μ ν → ∃ (r : Int32) (μ' ν' : la_Mem), fX7_clear  μ = some (r, μ') ∧ fX8_clear  ν = some (r, ν') ∧ Inv μ' ν'
  | 21 => ∀ (a0 : Int32) (a1 : Int32) (μ ν : la_Mem), Inv μ ν → ∃ r : Int32, fX7_slug a0 a1 μ = some r ∧ fX8_slug a0 a1 ν = some r
  | 22 => ∀ (a0 : Int32) (μ ν : la_Mem), Inv μ ν → ∃ r : Int32, fX7_count a0 μ = some r ∧ fX8_count a0 ν = some r
  | 23 => ∀ (a0 : Int32) (a1 : Int32) (a2 : Int32) (a3 : Int32) (a4 : Int32) (a5 : Int32) (μ ν : la_Mem), Inv μ ν → ∃ (r : Int32) (μ' ν' : la_Mem), fX7_comes a0 a1 a2 a3 a4 a5 μ = some (r, μ') ∧ fX8_comes a0 a1 a2 a3 a4 a5 ν = some (r, ν') ∧ Inv μ' ν'
  | 24 => ∀ (a0 : Int32) (a1 : Int32) (a2 : Int32) (a3 : Int32) (a4 : Int32) (μ ν : la_Mem), Inv μ ν → ∃ (r : Int32) (μ' ν' : la_Mem), fX7_turned a0 a1 a2 a3 a4 μ = some (r, μ') ∧ fX8_turned a0 a1 a2 a3 a4 ν = some (r, ν') ∧ Inv μ' ν'
  | 25 => ∀ (a0 : Int32) (a1 : Int32) (a2 : Int32) (a3 : Int32) (μ ν : la_Mem), Inv μ ν → ∃ (r : Int32) (μ' ν' : la_Mem), fX7_waits a0 a1 a2 a3 μ = some (r, μ') ∧ fX8_waits a0 a1 a2 a3 ν = some (r, ν') ∧ Inv μ' ν'
  | 26 => ∀ (a0 : Int32) (a1 : Int32) (a2 : Int32) (a3 : Int32) (μ ν : la_Mem), Inv μ ν → ∃ (r : Int32) (μ' ν' : la_Mem), fX7_gap a0 a1 a2 a3 μ = some (r, μ') ∧ fX8_gap a0 a1 a2 a3 ν = some (r, ν') ∧ Inv μ' ν'
  | 27 => ∀ (a0 : Int64) (a1 : Int32) (μ ν : la_Mem), Inv μ ν → ∃ (r : Int32) (μ' ν' : la_Mem), fX7_type a0 a1 μ = some (r, μ') ∧ fX8_type a0 a1 ν = some (r, ν') ∧ Inv μ' ν'
  | 28 => ∀ (a0 : Int32) (μ ν : la_Mem), Inv μ ν → ∃ (r : Int32) (μ' ν' : la_Mem), fX7_plays a0 μ = some (r, μ') ∧ fX8_plays a0 ν = some (r, ν') ∧ Inv μ' ν'
  | 29 => ∀ (a0 : Int32) (μ ν : la_Mem), Inv μ ν → ∃ r : Int32, fX7_risk a0 μ = some r ∧ fX8_risk a0 ν = some r
  | 30 => ∀ (a0 : Int32) (μ ν : la_Mem), Inv μ ν → ∃ (r : Int32) (μ' ν' : la_Mem), fX7_better a0 μ = some (r, μ') ∧ fX8_better a0 ν = some (r, ν') ∧ Inv μ' ν'
  | 31 => ∀ (a0 : Int32) (a1 : Int32) (a2 : Int32) (μ ν : la_Mem), Inv μ ν → ∃ (r : Int32) (μ' ν' : la_Mem), fX7_sheet a0 a1 a2 μ = some (r, μ') ∧ fX8_sheet a0 a1 a2 ν = some (r, ν') ∧ Inv μ' ν'
  | 32 => ∀ (a0 : Int32) (μ ν : la_Mem), Inv μ ν → ∃ (r : Int32) (μ' ν' : la_Mem), fX7_drop a0 μ = some (r, μ') ∧ fX8_drop a0 ν = some (r, ν') ∧ Inv μ' ν'
  | 33 => ∀ (a0 : Int32) (a1 : Int32) (a2 : Int32) (a3 : Int32) (μ ν : la_Mem), Inv μ ν → ∃ (r : Int32) (μ' ν' : la_Mem), fX7_item a0 a1 a2 a3 μ = some (r, μ') ∧ fX8_item a0 a1 a2 a3 ν = some (r, ν') ∧ Inv μ' ν'
  | 34 => ∀ (a0 : Int32) (a1 : Int32) (a2 : Int32) (a3 : Int32) (a4 : Int32) (μ ν : la_Mem), Inv μ ν → ∃ (r : Int32) (μ' ν' : la_Mem), fX7_copy a0 a1 a2 a3 a4 μ = some (r, μ') ∧ fX8_copy a0 a1 a2 a3 a4 ν = some (r, ν') ∧ Inv μ' ν'
  | _ => True
theorem lj_ixs {i L k : Nat} (h : i + 7 ≤ L) (hL : L ≤ 3584) (hk : k < 7) {v : Int32} (hv : v = nI k) : la_ix (nI i + v) L = true := by
  subst hv
  rw [nI_add]
  have h1 : (nI (i + k)).toNatClampNeg = i + k := nI_clamp (by omega)
  have h2 : ¬ nI (i + k) < 0 := nI_pos (by omega)
  unfold la_ix
  rw [h1]
  simp [h2]
  omega
set_option maxRecDepth 100000 in
set_option maxHeartbeats 4000000 in
theorem lj_loop {Inv : la_Mem → la_Mem → Prop} (hI : ∀ n, lw_S Inv n) {zc : LCz} {zm : LMz} {l : Launch} {b L : Nat} {xs : Nat → Int32} {Ψ : Nat → List (Nat × Value) → List Value → la_Mem → la_Mem → Prop} (hL : L ≤ 3584) (C : lj_C zc zm l b L xs Ψ) :
    ∀ (n i : Nat) (x : Int32) (μ ν : la_Mem), i ≤ L + 7 → L + 8 ≤ i + n → x = nI i → Inv μ ν → Ψ 18 [(0, .ref b), (1, .ref (zc.2.1 0)), (2, .ref (zm.2.1 0)), (3, .int x)] [] μ ν := by
  intro n
  induction n with
  | zero =>
    intro i x μ ν h1 h2
    omega
  | succ n ih =>
    intro i x μ ν h1 h2 ex hv
    refine lj_iload_n C dL_law_18 3 rfl ?_
    refine lj_aload_n C dL_law_19 0 rfl ?_
    refine lj_slen C dL_law_20 ?_
    refine lj_bipush C (v := 7) dL_law_21 (by decide) ?_
    refine lj_isub C dL_law_23 ?_
    refine lj_gt C (tgt := 1361) dL_law_24 (by decide) (fun hc => ?_) (fun hc => ?_)
    · refine lj_iconst C (v := 1) dL_law_1361 (by decide) ?_
      exact lj_end C dL_law_1362
    · have hlt : i + 7 ≤ L := by
        rcases Nat.lt_or_ge L (i + 7) with q | q
        · exfalso
          apply hc
          rw [ex, Int32.lt_iff_toInt_lt, nI_toInt (show i < 2 ^ 31 by omega), show (7 : Int32) = nI 7 from rfl, pk_sub_toInt (show L < 2 ^ 30 by omega) (by decide)]
          omega
        · exact q
      have nx : ∀ μ' ν' : la_Mem, Inv μ' ν' → Ψ 1355 [(0, .ref b), (1, .ref (zc.2.1 0)), (2, .ref (zm.2.1 0)), (3, .int x)] [] μ' ν' := by
        intro μ' ν' hv'
        refine lj_iinc C (v := x + 7) dL_law_1355 3 rfl rfl (by decide) rfl ?_
        refine lj_goto C (tgt := 18) dL_law_1358 (by decide) ?_
        refine lj_sub C [1, 2, 3, 0] rfl ?_
        exact ih (i + 7) (x + 7) μ' ν' (by omega) (by omega) (by rw [ex, show (7 : Int32) = nI 7 from rfl, nI_add]) hv'
      have h0 : la_ix x L = true := by
        have := lj_ixs (k := 0) hlt hL (by decide) (v := 0) rfl
        rw [ex]
        have e0 : nI i + 0 = nI i := by rw [show (0 : Int32) = nI 0 from rfl, nI_add, Nat.add_zero]
        rw [e0] at this
        exact this
      have h1 : la_ix (x + 1) L = true := by rw [ex]; exact lj_ixs (k := 1) hlt hL (by decide) rfl
      have h2 : la_ix (x + 2) L = true := by rw [ex]; exact lj_ixs (k := 2) hlt hL (by decide) rfl
      have h3 : la_ix (x + 3) L = true := by rw [ex]; exact lj_ixs (k := 3) hlt hL (by decide) rfl
      have h4 : la_ix (x + 4) L = true := by rw [ex]; exact lj_ixs (k := 4) hlt hL (by decide) rfl
      have h5 : la_ix (x + 5) L = true := by rw [ex]; exact lj_ixs (k := 5) hlt hL (by decide) rfl
      have h6 : la_ix (x + 6) L = true := by rw [ex]; exact lj_ixs (k := 6) hlt hL (by decide) rfl
      refine lj_aload_n C dL_law_27 0 rfl ?_
      refine lj_iload_n C dL_law_28 3 rfl ?_
      refine lj_sld C h0 dL_law_29 ?_
      refine lj_bipush C (v := 63) dL_law_30 (by decide) ?_
      refine lj_iand C dL_law_32 ?_
      generalize (xs (Int32.toNatClampNeg x) &&& 63) = o
      by_cases hc0 : o = 0
      · subst hc0
        refine lj_tabIn C (off := 155) (tgt := 188) dL_law_33 (by decide) (by decide) rfl (by decide) ?_
        obtain ⟨r, μ', ν', hc, hm, hv'⟩ := (show ∀ (a0 : Int32) (a1 : Int32) (a2 : Int32) (μ ν : la_Mem), Inv μ ν → ∃ (r : Int32) (μ' ν' : la_Mem), fX7_letter a0 a1 a2 μ = some (r, μ') ∧ fX8_letter a0 a1 a2 ν = some (r, ν') ∧ Inv μ' ν' from hI 0) _ _ _ μ ν hv
        exact lk_0 C x h1 h2 h3 hc hm (nx μ' ν' hv')
      by_cases hc1 : o = 1
      · subst hc1
        refine lj_tabIn C (off := 198) (tgt := 231) dL_law_33 (by decide) (by decide) rfl (by decide) ?_
        obtain ⟨r, μ', ν', hc, hm, hv'⟩ := (show ∀ (a0 : Int32) (a1 : Int32) (a2 : Int32) (μ ν : la_Mem), Inv μ ν → ∃ (r : Int32) (μ' ν' : la_Mem), fX7_place a0 a1 a2 μ = some (r, μ') ∧ fX8_place a0 a1 a2 ν = some (r, ν') ∧ Inv μ' ν' from hI 1) _ _ _ μ ν hv
        exact lk_1 C x h1 h2 h3 hc hm (nx μ' ν' hv')
      by_cases hc2 : o = 2
      · subst hc2
        refine lj_tabIn C (off := 241) (tgt := 274) dL_law_33 (by decide) (by decide) rfl (by decide) ?_
        obtain ⟨r, μ', ν', hc, hm, hv'⟩ := (show ∀ (a0 : Int32) (a1 : Int32) (a2 : Int32) (μ ν : la_Mem), Inv μ ν → ∃ (r : Int32) (μ' ν' : la_Mem), fX7_rails a0 a1 a2 μ = some (r, μ') ∧ fX8_rails a0 a1 a2 ν = some (r, ν') ∧ Inv μ' ν' from hI 2) _ _ _ μ ν hv
        exact lk_2 C x h1 h2 h3 hc hm (nx μ' ν' hv')
      by_cases hc3 : o = 3
      · subst hc3
        refine lj_tabIn C (off := 284) (tgt := 317) dL_law_33 (by decide) (by decide) rfl (by decide) ?_
        obtain ⟨r, μ', ν', hc, hm, hv'⟩ := (show ∀ (a0 : Int32) (a1 : Int32) (μ ν : la_Mem), Inv μ ν → ∃ (r : Int32) (μ' ν' : la_Mem), fX7_set a0 a1 μ = some (r, μ') ∧ fX8_set a0 a1 ν = some (r, ν') ∧ Inv μ' ν' from hI 3) _ _ μ ν hv
        exact lk_3 C x h1 h2 hc hm (nx μ' ν' hv')
      by_cases hc4 : o = 4
      · subst hc4
        refine lj_tabIn C (off := 317) (tgt := 350) dL_law_33 (by decide) (by decide) rfl (by decide) ?_
        obtain ⟨r, hc, hm⟩ := (show ∀ (a0 : Int32) (μ ν : la_Mem), Inv μ ν → ∃ r : Int32, fX7_falls a0 μ = some r ∧ fX8_falls a0 ν = some r from hI 4) _ μ ν hv
        exact lk_4 C x h1 hc hm (nx μ ν hv)
      by_cases hc5 : o = 5
      · subst hc5
        refine lj_tabIn C (off := 340) (tgt := 373) dL_law_33 (by decide) (by decide) rfl (by decide) ?_
        obtain ⟨r, hc, hm⟩ := (show ∀  (μ ν : la_Mem), Inv μ ν → ∃ r : Int32, fX7_astray  μ = some r ∧ fX8_astray  ν = some r from hI 5)  μ ν hv
        exact lk_5 C x  hc hm (nx μ ν hv)
      by_cases hc6 : o = 6
      · subst hc6
        refine lj_tabIn C (off := 353) (tgt := 386) dL_law_33 (by decide) (by decide) rfl (by decide) ?_
        obtain ⟨r, hc, hm⟩ := (show ∀ (a0 : Int32) (μ ν : la_Mem), Inv μ ν → ∃ r : Int32, fX7_order a0 μ = some r ∧ fX8_order a0 ν = some r from hI 6) _ μ ν hv
        exact lk_6 C x h1 hc hm (nx μ ν hv)
      by_cases hc7 : o = 7
      · subst hc7
        refine lj_tabIn C (off := 376) (tgt := 409) dL_law_33 (by decide) (by decide) rfl (by decide) ?_
        obtain ⟨r, hc, hm⟩ := (show ∀ (a0 : Int32) (a1 : Int32) (μ ν : la_Mem), Inv μ ν → ∃ r : Int32, fX7_lost a0 a1 μ = some r ∧ fX8_lost a0 a1 ν = some r from hI 7) _ _ μ ν hv
        exact lk_7 C x h1 h2 hc hm (nx μ ν hv)
      by_cases hc8 : o = 8
      · subst hc8
        refine lj_tabIn C (off := 409) (tgt := 442) dL_law_33 (by decide) (by decide) rfl (by decide) ?_
        obtain ⟨r, μ', ν', hc, hm, hv'⟩ := (show ∀ (a0 : Int32) (a1 : Int32) (μ ν : la_Mem), Inv μ ν → ∃ (r : Int32) (μ' ν' : la_Mem), fX7_mould a0 a1 μ = some (r, μ') ∧ fX8_mould a0 a1 ν = some (r, ν') ∧ Inv μ' ν' from hI 8) _ _ μ ν hv
        exact lk_8 C x h1 h2 hc hm (nx μ' ν' hv')
      by_cases hc9 : o = 9
      · subst hc9
        refine lj_tabIn C (off := 442) (tgt := 475) dL_law_33 (by decide) (by decide) rfl (by decide) ?_
        obtain ⟨r, hc, hm⟩ := (show ∀ (a0 : Int32) (a1 : Int32) (μ ν : la_Mem), Inv μ ν → ∃ r : Int32, fX7_told a0 a1 μ = some r ∧ fX8_told a0 a1 ν = some r from hI 9) _ _ μ ν hv
        exact lk_9 C x h1 h2 hc hm (nx μ ν hv)
      by_cases hc10 : o = 10
      · subst hc10
        refine lj_tabIn C (off := 475) (tgt := 508) dL_law_33 (by decide) (by decide) rfl (by decide) ?_
        obtain ⟨r, μ', ν', hc, hm, hv'⟩ := (show ∀ (a0 : Int32) (a1 : Int32) (μ ν : la_Mem), Inv μ ν → ∃ (r : Int32) (μ' ν' : la_Mem), fX7_wear a0 a1 μ = some (r, μ') ∧ fX8_wear a0 a1 ν = some (r, ν') ∧ Inv μ' ν' from hI 10) _ _ μ ν hv
        exact lk_10 C x h1 h2 hc hm (nx μ' ν' hv')
      by_cases hc11 : o = 11
      · subst hc11
        refine lj_tabIn C (off := 508) (tgt := 541) dL_law_33 (by decide) (by decide) rfl (by decide) ?_
        obtain ⟨r, μ', ν', hc, hm, hv'⟩ := (show ∀ (a0 : Int32) (μ ν : la_Mem), Inv μ ν → ∃ (r : Int32) (μ' ν' : la_Mem), fX7_home a0 μ = some (r, μ') ∧ fX8_home a0 ν = some (r, ν') ∧ Inv μ' ν' from hI 11) _ μ ν hv
        exact lk_11 C x h1 hc hm (nx μ' ν' hv')
      by_cases hc12 : o = 12
      · subst hc12
        refine lj_tabIn C (off := 531) (tgt := 564) dL_law_33 (by decide) (by decide) rfl (by decide) ?_
        obtain ⟨r, hc, hm⟩ := (show ∀ (a0 : Int32) (a1 : Int32) (μ ν : la_Mem), Inv μ ν → ∃ r : Int32, fX7_channel a0 a1 μ = some r ∧ fX8_channel a0 a1 ν = some r from hI 12) _ _ μ ν hv
        exact lk_12 C x h1 h2 hc hm (nx μ ν hv)
      by_cases hc13 : o = 13
      · subst hc13
        refine lj_tabIn C (off := 564) (tgt := 597) dL_law_33 (by decide) (by decide) rfl (by decide) ?_
        obtain ⟨r, μ', ν', hc, hm, hv'⟩ := (show ∀ (a0 : Int32) (μ ν : la_Mem), Inv μ ν → ∃ (r : Int32) (μ' ν' : la_Mem), fX7_key a0 μ = some (r, μ') ∧ fX8_key a0 ν = some (r, ν') ∧ Inv μ' ν' from hI 13) _ μ ν hv
        exact lk_13 C x h1 hc hm (nx μ' ν' hv')
      by_cases hc14 : o = 14
      · subst hc14
        refine lj_tabIn C (off := 587) (tgt := 620) dL_law_33 (by decide) (by decide) rfl (by decide) ?_
        obtain ⟨r, μ', ν', hc, hm, hv'⟩ := (show ∀  (μ ν : la_Mem), Inv μ ν → ∃ (r : Int32) (μ' ν' : la_Mem), fX7_band  μ = some (r, μ') ∧ fX8_band  ν = some (r, ν') ∧ Inv μ' ν' from hI 14)  μ ν hv
        exact lk_14 C x  hc hm (nx μ' ν' hv')
      by_cases hc15 : o = 15
      · subst hc15
        refine lj_tabIn C (off := 600) (tgt := 633) dL_law_33 (by decide) (by decide) rfl (by decide) ?_
        obtain ⟨r, μ', ν', hc, hm, hv'⟩ := (show ∀ (a0 : Int32) (μ ν : la_Mem), Inv μ ν → ∃ (r : Int32) (μ' ν' : la_Mem), fX7_ticks a0 μ = some (r, μ') ∧ fX8_ticks a0 ν = some (r, ν') ∧ Inv μ' ν' from hI 15) _ μ ν hv
        exact lk_15 C x h1 hc hm (nx μ' ν' hv')
      by_cases hc16 : o = 16
      · subst hc16
        refine lj_tabIn C (off := 623) (tgt := 656) dL_law_33 (by decide) (by decide) rfl (by decide) ?_
        obtain ⟨r, hc, hm⟩ := (show ∀ (a0 : Int32) (μ ν : la_Mem), Inv μ ν → ∃ r : Int32, fX7_line a0 μ = some r ∧ fX8_line a0 ν = some r from hI 16) _ μ ν hv
        exact lk_16 C x h1 hc hm (nx μ ν hv)
      by_cases hc17 : o = 17
      · subst hc17
        refine lj_tabIn C (off := 646) (tgt := 679) dL_law_33 (by decide) (by decide) rfl (by decide) ?_
        obtain ⟨r, hc, hm⟩ := (show ∀  (μ ν : la_Mem), Inv μ ν → ∃ r : Int32, fX7_state  μ = some r ∧ fX8_state  ν = some r from hI 17)  μ ν hv
        exact lk_17 C x  hc hm (nx μ ν hv)
      by_cases hc18 : o = 18
      · subst hc18
        refine lj_tabIn C (off := 659) (tgt := 692) dL_law_33 (by decide) (by decide) rfl (by decide) ?_
        obtain ⟨r, hc, hm⟩ := (show ∀ (a0 : Int32) (μ ν : la_Mem), Inv μ ν → ∃ r : Int32, fX7_thick a0 μ = some r ∧ fX8_thick a0 ν = some r from hI 18) _ μ ν hv
        exact lk_18 C x h1 hc hm (nx μ ν hv)
      by_cases hc19 : o = 19
      · subst hc19
        refine lj_tabIn C (off := 682) (tgt := 715) dL_law_33 (by decide) (by decide) rfl (by decide) ?_
        obtain ⟨r, μ', ν', hc, hm, hv'⟩ := (show ∀  (μ ν : la_Mem), Inv μ ν → ∃ (r : Int32) (μ' ν' : la_Mem), fX7_cast  μ = some (r, μ') ∧ fX8_cast  ν = some (r, ν') ∧ Inv μ' ν' from hI 19)  μ ν hv
        exact lk_19 C x  hc hm (nx μ' ν' hv')
      by_cases hc20 : o = 20
      · subst hc20
        refine lj_tabIn C (off := 695) (tgt := 728) dL_law_33 (by decide) (by decide) rfl (by decide) ?_
        obtain ⟨r, μ', ν', hc, hm, hv'⟩ := (show ∀  (μ ν : la_Mem), Inv μ ν → ∃ (r : Int32) (μ' ν' : la_Mem), fX7_clear  μ = some (r, μ') ∧ fX8_clear  ν = some (r, ν') ∧ Inv μ' ν' from hI 20)  μ ν hv
        exact lk_20 C x  hc hm (nx μ' ν' hv')
      by_cases hc21 : o = 21
      · subst hc21
        refine lj_tabIn C (off := 708) (tgt := 741) dL_law_33 (by decide) (by decide) rfl (by decide) ?_
        obtain ⟨r, hc, hm⟩ := (show ∀ (a0 : Int32) (a1 : Int32) (μ ν : la_Mem), Inv μ ν → ∃ r : Int32, fX7_slug a0 a1 μ = some r ∧ fX8_slug a0 a1 ν = some r from hI 21) _ _ μ ν hv
        exact lk_21 C x h1 h2 hc hm (nx μ ν hv)
      by_cases hc22 : o = 22
      · subst hc22
        refine lj_tabIn C (off := 741) (tgt := 774) dL_law_33 (by decide) (by decide) rfl (by decide) ?_
        obtain ⟨r, hc, hm⟩ := (show ∀ (a0 : Int32) (μ ν : la_Mem), Inv μ ν → ∃ r : Int32, fX7_count a0 μ = some r ∧ fX8_count a0 ν = some r from hI 22) _ μ ν hv
        exact lk_22 C x h1 hc hm (nx μ ν hv)
      by_cases hc23 : o = 23
      · subst hc23
        refine lj_tabIn C (off := 764) (tgt := 797) dL_law_33 (by decide) (by decide) rfl (by decide) ?_
        obtain ⟨r, μ', ν', hc, hm, hv'⟩ := (show ∀ (a0 : Int32) (a1 : Int32) (a2 : Int32) (a3 : Int32) (a4 : Int32) (a5 : Int32) (μ ν : la_Mem), Inv μ ν → ∃ (r : Int32) (μ' ν' : la_Mem), fX7_comes a0 a1 a2 a3 a4 a5 μ = some (r, μ') ∧ fX8_comes a0 a1 a2 a3 a4 a5 ν = some (r, ν') ∧ Inv μ' ν' from hI 23) _ _ _ _ _ _ μ ν hv
        exact lk_23 C x h1 h2 h3 h4 h5 h6 hc hm (nx μ' ν' hv')
      by_cases hc24 : o = 24
      · subst hc24
        refine lj_tabIn C (off := 839) (tgt := 872) dL_law_33 (by decide) (by decide) rfl (by decide) ?_
        obtain ⟨r, μ', ν', hc, hm, hv'⟩ := (show ∀ (a0 : Int32) (a1 : Int32) (a2 : Int32) (a3 : Int32) (a4 : Int32) (μ ν : la_Mem), Inv μ ν → ∃ (r : Int32) (μ' ν' : la_Mem), fX7_turned a0 a1 a2 a3 a4 μ = some (r, μ') ∧ fX8_turned a0 a1 a2 a3 a4 ν = some (r, ν') ∧ Inv μ' ν' from hI 24) _ _ _ _ _ μ ν hv
        exact lk_24 C x h1 h2 h3 h4 h5 hc hm (nx μ' ν' hv')
      by_cases hc25 : o = 25
      · subst hc25
        refine lj_tabIn C (off := 902) (tgt := 935) dL_law_33 (by decide) (by decide) rfl (by decide) ?_
        obtain ⟨r, μ', ν', hc, hm, hv'⟩ := (show ∀ (a0 : Int32) (a1 : Int32) (a2 : Int32) (a3 : Int32) (μ ν : la_Mem), Inv μ ν → ∃ (r : Int32) (μ' ν' : la_Mem), fX7_waits a0 a1 a2 a3 μ = some (r, μ') ∧ fX8_waits a0 a1 a2 a3 ν = some (r, ν') ∧ Inv μ' ν' from hI 25) _ _ _ _ μ ν hv
        exact lk_25 C x h1 h2 h3 h4 hc hm (nx μ' ν' hv')
      by_cases hc26 : o = 26
      · subst hc26
        refine lj_tabIn C (off := 955) (tgt := 988) dL_law_33 (by decide) (by decide) rfl (by decide) ?_
        obtain ⟨r, μ', ν', hc, hm, hv'⟩ := (show ∀ (a0 : Int32) (a1 : Int32) (a2 : Int32) (a3 : Int32) (μ ν : la_Mem), Inv μ ν → ∃ (r : Int32) (μ' ν' : la_Mem), fX7_gap a0 a1 a2 a3 μ = some (r, μ') ∧ fX8_gap a0 a1 a2 a3 ν = some (r, ν') ∧ Inv μ' ν' from hI 26) _ _ _ _ μ ν hv
        exact lk_26 C x h1 h2 h3 h4 hc hm (nx μ' ν' hv')
      by_cases hc27 : o = 27
      · subst hc27
        refine lj_tabIn C (off := 1008) (tgt := 1041) dL_law_33 (by decide) (by decide) rfl (by decide) ?_
        obtain ⟨r, μ', ν', hc, hm, hv'⟩ := (show ∀ (a0 : Int64) (a1 : Int32) (μ ν : la_Mem), Inv μ ν → ∃ (r : Int32) (μ' ν' : la_Mem), fX7_type a0 a1 μ = some (r, μ') ∧ fX8_type a0 a1 ν = some (r, ν') ∧ Inv μ' ν' from hI 27) _ _ μ ν hv
        exact lk_27 C x h1 h2 h3 hc hm (nx μ' ν' hv')
      by_cases hc28 : o = 28
      · subst hc28
        refine lj_tabIn C (off := 1071) (tgt := 1104) dL_law_33 (by decide) (by decide) rfl (by decide) ?_
        obtain ⟨r, μ', ν', hc, hm, hv'⟩ := (show ∀ (a0 : Int32) (μ ν : la_Mem), Inv μ ν → ∃ (r : Int32) (μ' ν' : la_Mem), fX7_plays a0 μ = some (r, μ') ∧ fX8_plays a0 ν = some (r, ν') ∧ Inv μ' ν' from hI 28) _ μ ν hv
        exact lk_28 C x h1 hc hm (nx μ' ν' hv')
      by_cases hc29 : o = 29
      · subst hc29
        refine lj_tabIn C (off := 1094) (tgt := 1127) dL_law_33 (by decide) (by decide) rfl (by decide) ?_
        obtain ⟨r, hc, hm⟩ := (show ∀ (a0 : Int32) (μ ν : la_Mem), Inv μ ν → ∃ r : Int32, fX7_risk a0 μ = some r ∧ fX8_risk a0 ν = some r from hI 29) _ μ ν hv
        exact lk_29 C x h1 hc hm (nx μ ν hv)
      by_cases hc30 : o = 30
      · subst hc30
        refine lj_tabIn C (off := 1117) (tgt := 1150) dL_law_33 (by decide) (by decide) rfl (by decide) ?_
        obtain ⟨r, μ', ν', hc, hm, hv'⟩ := (show ∀ (a0 : Int32) (μ ν : la_Mem), Inv μ ν → ∃ (r : Int32) (μ' ν' : la_Mem), fX7_better a0 μ = some (r, μ') ∧ fX8_better a0 ν = some (r, ν') ∧ Inv μ' ν' from hI 30) _ μ ν hv
        exact lk_30 C x h1 hc hm (nx μ' ν' hv')
      by_cases hc31 : o = 31
      · subst hc31
        refine lj_tabIn C (off := 1140) (tgt := 1173) dL_law_33 (by decide) (by decide) rfl (by decide) ?_
        obtain ⟨r, μ', ν', hc, hm, hv'⟩ := (show ∀ (a0 : Int32) (a1 : Int32) (a2 : Int32) (μ ν : la_Mem), Inv μ ν → ∃ (r : Int32) (μ' ν' : la_Mem), fX7_sheet a0 a1 a2 μ = some (r, μ') ∧ fX8_sheet a0 a1 a2 ν = some (r, ν') ∧ Inv μ' ν' from hI 31) _ _ _ μ ν hv
        exact lk_31 C x h1 h2 h3 hc hm (nx μ' ν' hv')
      by_cases hc32 : o = 32
      · subst hc32
        refine lj_tabIn C (off := 1183) (tgt := 1216) dL_law_33 (by decide) (by decide) rfl (by decide) ?_
        obtain ⟨r, μ', ν', hc, hm, hv'⟩ := (show ∀ (a0 : Int32) (μ ν : la_Mem), Inv μ ν → ∃ (r : Int32) (μ' ν' : la_Mem), fX7_drop a0 μ = some (r, μ') ∧ fX8_drop a0 ν = some (r, ν') ∧ Inv μ' ν' from hI 32) _ μ ν hv
        exact lk_32 C x h1 hc hm (nx μ' ν' hv')
      by_cases hc33 : o = 33
      · subst hc33
        refine lj_tabIn C (off := 1206) (tgt := 1239) dL_law_33 (by decide) (by decide) rfl (by decide) ?_
        obtain ⟨r, μ', ν', hc, hm, hv'⟩ := (show ∀ (a0 : Int32) (a1 : Int32) (a2 : Int32) (a3 : Int32) (μ ν : la_Mem), Inv μ ν → ∃ (r : Int32) (μ' ν' : la_Mem), fX7_item a0 a1 a2 a3 μ = some (r, μ') ∧ fX8_item a0 a1 a2 a3 ν = some (r, ν') ∧ Inv μ' ν' from hI 33) _ _ _ _ μ ν hv
        exact lk_33 C x h1 h2 h3 h4 hc hm (nx μ' ν' hv')
      by_cases hc34 : o = 34
      · subst hc34
        refine lj_tabIn C (off := 1259) (tgt := 1292) dL_law_33 (by decide) (by decide) rfl (by decide) ?_
        obtain ⟨r, μ', ν', hc, hm, hv'⟩ := (show ∀ (a0 : Int32) (a1 : Int32) (a2 : Int32) (a3 : Int32) (a4 : Int32) (μ ν : la_Mem), Inv μ ν → ∃ (r : Int32) (μ' ν' : la_Mem), fX7_copy a0 a1 a2 a3 a4 μ = some (r, μ') ∧ fX8_copy a0 a1 a2 a3 a4 ν = some (r, ν') ∧ Inv μ' ν' from hI 34) _ _ _ _ _ μ ν hv
        exact lk_34 C x h1 h2 h3 h4 h5 hc hm (nx μ' ν' hv')
      refine lj_tabOut C (tgt := 1355) dL_law_33 (by have n0 := la_ne (z := 0) hc0 (by decide); have n1 := la_ne (z := 1) hc1 (by decide); have n2 := la_ne (z := 2) hc2 (by decide); have n3 := la_ne (z := 3) hc3 (by decide); have n4 := la_ne (z := 4) hc4 (by decide); have n5 := la_ne (z := 5) hc5 (by decide); have n6 := la_ne (z := 6) hc6 (by decide); have n7 := la_ne (z := 7) hc7 (by decide); have n8 := la_ne (z := 8) hc8 (by decide); have n9 := la_ne (z := 9) hc9 (by decide); have n10 := la_ne (z := 10) hc10 (by decide); have n11 := la_ne (z := 11) hc11 (by decide); have n12 := la_ne (z := 12) hc12 (by decide); have n13 := la_ne (z := 13) hc13 (by decide); have n14 := la_ne (z := 14) hc14 (by decide); have n15 := la_ne (z := 15) hc15 (by decide); have n16 := la_ne (z := 16) hc16 (by decide); have n17 := la_ne (z := 17) hc17 (by decide); have n18 := la_ne (z := 18) hc18 (by decide); have n19 := la_ne (z := 19) hc19 (by decide); have n20 := la_ne (z := 20) hc20 (by decide); have n21 := la_ne (z := 21) hc21 (by decide); have n22 := la_ne (z := 22) hc22 (by decide); have n23 := la_ne (z := 23) hc23 (by decide); have n24 := la_ne (z := 24) hc24 (by decide); have n25 := la_ne (z := 25) hc25 (by decide); have n26 := la_ne (z := 26) hc26 (by decide); have n27 := la_ne (z := 27) hc27 (by decide); have n28 := la_ne (z := 28) hc28 (by decide); have n29 := la_ne (z := 29) hc29 (by decide); have n30 := la_ne (z := 30) hc30 (by decide); have n31 := la_ne (z := 31) hc31 (by decide); have n32 := la_ne (z := 32) hc32 (by decide); have n33 := la_ne (z := 33) hc33 (by decide); have n34 := la_ne (z := 34) hc34 (by decide); omega) (by decide) ?_
      exact nx μ ν hv
