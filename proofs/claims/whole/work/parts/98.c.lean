theorem st_cast (μ ν : la_Mem) (h : Iv μ ν) : ∃ (r : Int32) (μ' ν' : la_Mem), fX7_cast μ = some (r, μ') ∧ fX8_cast ν = some (r, ν') ∧ Iv μ' ν' := by
  obtain ⟨hc, hr⟩ := h
  obtain ⟨w, b, b1, b2, c1, c2, c3, c4⟩ := wb_ok hc hr
  obtain ⟨c, h1, h2, h3⟩ := come_N hc
  unfold fX7_cast fX8_cast
  rw [tight_c c1 c3, rl_falling hr, rl_come hr, c2, Option.bind_some, c4, Option.bind_some, tight_m hr, Option.bind_some, rl_slugs hr]
  by_cases q1 : μ 10 4 ≤ 0
  · rw [if_pos q1, if_pos q1]
    by_cases q2 : μ 10 3 = 0
    · exact ⟨-4, μ, ν, by rw [if_pos q2, Option.bind_some, if_neg (by decide)], by rw [if_pos q2], hc, hr⟩
    · rw [if_neg q2, if_neg q2, Option.bind_some]
      rcases tg_cases μ w (nI b) with q3 | ⟨q3, q4⟩
      · rw [q3, if_pos (show (0 : Int32) ≤ 0 by decide), if_pos rfl, if_pos rfl]
        obtain ⟨a1, a2, a3, a4, a5, a6, a7, a8, a9⟩ := id hc
        obtain ⟨s, s1, s2, s3⟩ := asN a7.1.1 a7.1.2 (b := 40) (by decide)
        by_cases hs : s < 40
        · have f1 : fX4_isFull μ = some 0 := by
            unfold fX4_isFull; rw [if_pos (show μ 18 2 < 40 by rw [pu_lt, z40]; omega)]
          have f2 : fX4_begin μ = some (la_ms μ 18 2 (nI (s + 1))) := by
            unfold fX4_begin; rw [f1, Option.bind_some, if_pos rfl, pu_st, s2, nI_1]
          have e20 : μ 20 s = 0 := a7.2.2 s (by omega) hs
          have em : mid (la_ms μ 18 2 (nI (s + 1))) s = μ := by
            unfold mid; rw [ms_twice, ms_same s2, ms_same e20]
          have g : ∀ z, z ≠ 18 → la_ms μ 18 2 (nI (s + 1)) z = μ z := fun z hz => pu_msr hz
          have hKI : KI (la_ms μ 18 2 (nI (s + 1))) s 0 c := by
            refine ⟨cp_w ⟨a1, a2, a3, a4, a8, a9⟩ (fun a _ _ _ _ _ h6 _ _ => g a h6), ?_, ?_, h1, by omega, hs, ?_, ?_, fun j hj => ?_, fun j hj hj2 => ?_, ?_⟩
            · rw [g 4 (by decide), g 14 (by decide), g 15 (by decide), g 16 (by decide)]; exact a5
            · rw [g 10 (by decide)]; exact h2
            · rw [la_ms_self, pk_us]
            · rw [g 20 (by decide)]; exact e20
            · rw [g 20 (by decide)]; exact a7.2.1 j (by omega)
            · rw [g 20 (by decide)]; exact a7.2.2 j (by omega) hj2
            · rw [g 4 (by decide), g 14 (by decide), g 9 (by decide), g 11 (by decide), g 12 (by decide), g 10 (by decide), g 7 (by decide)]
              unfold CE at a6
              rw [show (μ 10 3).toInt.toNat = c by omega] at a6
              have e9 : nb (μ 11) 0 = 0 := rfl
              omega
          obtain ⟨μ', ν', r1, r2, r3, r4⟩ := cs_P c 400 0 0 _ ν (by omega) (by omega) hKI (by rw [em]; exact hr)
          obtain ⟨k1, k2, k3, k4, k5, k6, k7, k8, k9, k10, k11⟩ := r3
          have n23 : ν' 0 23 = nI s := by rw [rl_slugs r4]; unfold mid; rw [pu_msr (show 18 ≠ 20 by decide), la_ms_self, pk_us]
          have n12 : ν' 0 12 = nI c := by rw [rl_come r4]; unfold mid; rw [pu_msr (show 10 ≠ 20 by decide), pu_msr (show 10 ≠ 18 by decide), k3]
          have eback : la_ms (la_ms (mid μ' s) 20 s (nI c)) 18 2 (nI (s + 1)) = μ' := by
            unfold mid
            rw [ms_twice, ms_comm (a := 20) (b := 18) (by decide), ms_twice, ms_same k7, ms_same k8]
          have hR : Rl (la_ms (la_ms μ' 10 3 0) 10 5 0) (la_ms (la_ms (la_ms (la_ms ν' 17 s (nI c)) 0 23 (nI (s + 1))) 0 12 0) 0 17 0) := by
            have := rw_bands (rw_come (rw_slugs (rw_slen r4 s (nI c)) (nI (s + 1))) 0) 0
            rw [eback] at this
            exact this
          have ns : (nI s).toNatClampNeg = s := nI_clamp (by omega)
          refine ⟨nI s, la_ms (la_ms μ' 10 3 0) 10 5 0, la_ms (la_ms (la_ms (la_ms ν' 17 s (nI c)) 0 23 (nI (s + 1))) 0 12 0) 0 17 0, ?_, ?_, ?_, hR⟩
          · unfold fX7_castSlug fX2_empty
            rw [f1, Option.bind_some, if_pos rfl, f2, Option.bind_some, show fX7_castSlug_L11 400 0 0 (la_ms μ 18 2 (nI (s + 1))) = some μ' from r1, Option.bind_some, Option.bind_some, pu_st, pu_st, Option.bind_some, pu_msr (show 18 ≠ 10 by decide), pu_msr (show 18 ≠ 10 by decide), k7, nI_pred]
          · rw [if_neg (show ¬ μ 18 2 = 40 by rw [pu_eq, z40]; omega), show fX8_cast_L54 400 0 0 ν = some ν' from r2, Option.bind_some, n23, pu_if (nI_ix hs (by decide)), pu_st, pu_st, pu_st, pu_st, n12, ns, pu_msr (show 0 ≠ 17 by decide), n23, nI_1]
            simp only [pu_ms]
            simp [nI_pred]
          · apply ci_10_5
            have g : ∀ z, z ≠ 10 → la_ms μ' 10 3 0 z = μ' z := fun z hz => pu_msr hz
            have g1 : (fun p => la_ms μ' 10 3 0 (36 + p)) = fun p => μ' (36 + p) := funext fun p => g _ (by omega)
            have g2 : (fun p => la_ms μ' 10 3 0 (28 + p)) = fun p => μ' (28 + p) := funext fun p => g _ (by omega)
            have g3 : la_ms μ' 10 3 0 10 3 = 0 := by rw [la_ms_self, pk_us]
            have g4 : la_ms μ' 10 3 0 10 4 = μ' 10 4 := by rw [la_ms_self, pk_un (by decide)]
            obtain ⟨p1, p2, p3, p4, p8, p9⟩ := k1
            have h01 := p4.1
            have h02 := p4.2.2.1
            rw [g1, g2, g3, g4, g 7 (by decide), g 24 (by decide), g 2 (by decide), g 3 (by decide), g 25 (by decide), g 26 (by decide), g 4 (by decide), g 5 (by decide), g 6 (by decide), g 9 (by decide), g 11 (by decide), g 12 (by decide), g 14 (by decide), g 15 (by decide), g 16 (by decide), g 18 (by decide), g 20 (by decide), g 21 (by decide)]
            refine ⟨p1, p2, p3, ⟨by decide, p4.2.1, ?_, ⟨by decide, by decide⟩, fun i hi => ?_, p4.2.2.2.2.2⟩, k2, ?_, ⟨?_, fun i hi => ?_, fun i hi hi2 => ?_⟩, p8, p9⟩
            · rw [z0]; omega
            · rw [z0] at hi; omega
            · unfold CE
              have e0 : nb (μ' 11) (0 : Int32).toInt.toNat = 0 := rfl
              rw [e0]
              omega
            · rw [k7]; constructor <;> rw [nI_toInt (by omega)] <;> omega
            · rw [k7, nI_toInt (by omega)] at hi
              by_cases e : i = s
              · subst e; rw [k8]; constructor <;> rw [nI_toInt (by omega)] <;> omega
              · exact k9 i (by omega)
            · rw [k7, nI_toInt (by omega)] at hi
              exact k10 i (by omega) hi2
        · have hs40 : s = 40 := by omega
          subst hs40
          have f1 : fX4_isFull μ = some 1 := by
            unfold fX4_isFull; rw [if_neg (show ¬ μ 18 2 < 40 by rw [pu_lt, z40]; omega)]
          exact ⟨-3, μ, ν, by rw [f1, Option.bind_some, if_neg (by decide)], by rw [if_pos (show μ 18 2 = 40 from s2)], hc, hr⟩
      · rw [if_pos q4, if_neg q3, if_neg q3]; exact ⟨-2, μ, ν, rfl, rfl, hc, hr⟩
  · rw [if_neg q1, if_neg q1]; exact ⟨-2, μ, ν, by rw [Option.bind_some, if_neg (by decide)], rfl, hc, hr⟩
theorem cb_P {a b : Int32} {μ ν : la_Mem} (hr : Rl μ ν) {m : Nat} (hm : m ≤ 60) (em : μ 4 5 = nI m) : ∀ (k n i : Nat) (x : Int32), i + k = m → k < n → ∃ w : Int32, fX5_countBetween_L5 a b μ n x (nI i) = some w ∧ fX8_whereMany_L5 a b ν n x (nI i) = some w := by
  intro k
  induction k with
  | zero =>
    intro n i x e1 e2
    obtain ⟨n, rfl⟩ : ∃ m, n = m + 1 := ⟨n - 1, by omega⟩
    have hle : μ 4 5 ≤ nI i := by rw [em, pu_le]; rw [show i = m by omega]; omega
    exact ⟨x, by rw [fX5_countBetween_L5, if_pos hle], by rw [fX8_whereMany_L5, rl_moulds hr, if_pos hle]⟩
  | succ k ih =>
    intro n i x e1 e2
    obtain ⟨n, rfl⟩ : ∃ m, n = m + 1 := ⟨n - 1, by omega⟩
    have hle : ¬ μ 4 5 ≤ nI i := by rw [em, pu_le, nI_toInt (by omega), nI_toInt (by omega)]; omega
    have ix : la_ix (nI i) 60 = true := nI_ix (by omega) (by decide)
    have ni : (nI i).toNatClampNeg = i := nI_clamp (by omega)
    rw [fX5_countBetween_L5, fX8_whereMany_L5, rl_moulds hr, if_neg hle, if_neg hle, pu_if ix, pu_if ix, pu_if ix, ni, rl_where hr, pu_in32 (μ 7 i) a b _ _ rfl rfl, Option.bind_some]
    unfold fX5_countBetween_J39 fX8_whereMany_J38
    simp only [pu_st, nI_1]
    by_cases q1 : μ 7 i < a
    · rw [if_pos q1, if_pos q1, if_pos rfl, i_add0]; exact ih n (i + 1) x (by omega) (by omega)
    · rw [if_neg q1, if_neg q1]
      by_cases q2 : b < μ 7 i
      · rw [if_pos q2, if_pos q2, if_pos rfl, i_add0]; exact ih n (i + 1) x (by omega) (by omega)
      · rw [if_neg q2, if_neg q2, if_neg (by decide)]; exact ih n (i + 1) (x + 1) (by omega) (by omega)
theorem st_count (a : Int32) (μ ν : la_Mem) (h : Iv μ ν) : ∃ r : Int32, fX7_count a μ = some r ∧ fX8_count a ν = some r := by
  obtain ⟨hc, hr⟩ := h
  obtain ⟨m, m1, m2, m3⟩ := asN hc.2.1.1.1 hc.2.1.1.2 (b := 60) (by decide)
  have key : ∀ x y : Int32, ∃ r : Int32, (fX5_countBetween x y μ).bind (fun r => some r) = some r ∧ (fX8_whereMany x y ν).bind (fun r => some r) = some r := by
    intro x y
    obtain ⟨w, w1, w2⟩ := cb_P (a := x) (b := y) hr m1 m2 m 400 0 0 (by omega) (by omega)
    unfold fX5_countBetween fX8_whereMany
    exact ⟨w, by rw [show fX5_countBetween_L5 x y μ 400 0 0 = some w from w1]; rfl, by rw [show fX8_whereMany_L5 x y ν 400 0 0 = some w from w2]; rfl⟩
  unfold fX7_count fX8_count
  rw [rl_moulds hr, rl_slugs hr, rl_bands hr, rl_jammed hr, rl_now hr]
  by_cases q0 : a = 0
  · rw [if_pos q0, if_pos q0]; exact ⟨_, rfl, rfl⟩
  rw [if_neg q0, if_neg q0]
  by_cases q1 : a = 1
  · rw [if_pos q1, if_pos q1]; exact key 0 11
  rw [if_neg q1, if_neg q1]
  by_cases q2 : a = 2
  · rw [if_pos q2, if_pos q2]; exact key 12 12
  rw [if_neg q2, if_neg q2]
  by_cases q3 : a = 3
  · rw [if_pos q3, if_pos q3]; exact key 13 13
  rw [if_neg q3, if_neg q3]
  by_cases q4 : a = 4
  · rw [if_pos q4, if_pos q4]; exact key 14 14
  rw [if_neg q4, if_neg q4]
  repeat' split
  all_goals exact ⟨_, rfl, rfl⟩
