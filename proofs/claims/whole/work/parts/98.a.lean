theorem i_add0 (x : Int32) : x + 0 = x := by simp
theorem line_at {μ : la_Mem} (hc : CI μ) {i : Nat} (hi : (i : Int) < (μ 10 3).toInt) (h : ¬ μ 11 i = 100) : Bd (μ 11 i) 0 ((μ 4 5).toInt - 1) ∧ la_ix (μ 11 i) 60 = true ∧ Bd (μ 5 (μ 11 i).toNatClampNeg) 0 11 ∧ la_ix (μ 5 (μ 11 i).toNatClampNeg) 12 = true := by
  rcases hc.2.2.2.1.2.2.2.2.1 i hi with q | q
  · exact absurd q h
  · have hm := hc.2.1.1
    have h1 := q.1
    have h2 := q.2
    have h3 := hm.2
    have hl := (hc.2.1.2 (μ 11 i).toNatClampNeg (by rw [pu_nx h1]; omega)).1
    refine ⟨q, pu_ix.mpr ⟨h1, by omega⟩, hl, pu_ix.mpr ⟨hl.1, ?_⟩⟩
    have := hl.2
    omega
theorem wd_P {μ ν : la_Mem} (hc : CI μ) (hr : Rl μ ν) {c : Nat} (hcc : c ≤ 24) (ec : μ 10 3 = nI c) : ∀ (k n i : Nat) (x : Int32), i + k = c → k < n → ∃ w : Int32, fX7_composedWidth_L4 μ n x (nI i) = some w ∧ fX8_widthOf_L4 ν n x (nI i) = some w := by
  intro k
  induction k with
  | zero =>
    intro n i x e1 e2
    obtain ⟨n, rfl⟩ : ∃ m, n = m + 1 := ⟨n - 1, by omega⟩
    have hle : μ 10 3 ≤ nI i := by rw [ec, pu_le]; rw [show i = c by omega]; omega
    exact ⟨x, by rw [fX7_composedWidth_L4, if_pos hle], by rw [fX8_widthOf_L4, rl_come hr, if_pos hle]⟩
  | succ k ih =>
    intro n i x e1 e2
    obtain ⟨n, rfl⟩ : ∃ m, n = m + 1 := ⟨n - 1, by omega⟩
    have hle : ¬ μ 10 3 ≤ nI i := by rw [ec, pu_le, nI_toInt (by omega), nI_toInt (by omega)]; omega
    have ix : la_ix (nI i) 24 = true := nI_ix (by omega) (by decide)
    have ni : (nI i).toNatClampNeg = i := nI_clamp (by omega)
    by_cases h100 : μ 11 i = 100
    · obtain ⟨w, r1, r2⟩ := ih n (i + 1) x (by omega) (by omega)
      refine ⟨w, ?_, ?_⟩
      · rw [fX7_composedWidth_L4, if_neg hle, pu_if ix, ni, if_pos h100]
        unfold fX7_composedWidth_J54
        rw [nI_1, r1]
      · rw [fX8_widthOf_L4, rl_come hr, if_neg hle, pu_if ix, ni, rl_line hr, if_pos h100]
        unfold fX8_widthOf_J44
        rw [pu_st, i_add0, nI_1, r2]
    · obtain ⟨q1, q2, q3, q4⟩ := line_at hc (i := i) (by rw [ec, nI_toInt (by omega)]; omega) h100
      obtain ⟨w, r1, r2⟩ := ih n (i + 1) (x + μ 24 (μ 5 (μ 11 i).toNatClampNeg).toNatClampNeg) (by omega) (by omega)
      refine ⟨w, ?_, ?_⟩
      · rw [fX7_composedWidth_L4, if_neg hle, pu_if ix, ni, if_neg h100, pu_if ix, pu_if q2, pu_if q4, pu_st]
        unfold fX7_composedWidth_J54
        rw [nI_1, r1]
      · rw [fX8_widthOf_L4, rl_come hr, if_neg hle, pu_if ix, ni, rl_line hr, if_neg h100, pu_if ix, pu_if q2, rl_letters hr, pu_if q4]
        unfold fX8_widthOf_J44
        rw [pu_st, rl_widths hr, nI_1, r2]
theorem bd_P {μ ν : la_Mem} (hr : Rl μ ν) {c : Nat} (hcc : c ≤ 24) (ec : μ 10 3 = nI c) : ∀ (k n i a : Nat), i + k = c → k < n → ∃ w : Nat, w ≤ a + k ∧ fX2_bandsCome_L4 μ n (nI a) (nI i) = some (nI w) ∧ fX8_bandMany_L4 ν n (nI a) (nI i) = some (nI w) := by
  intro k
  induction k with
  | zero =>
    intro n i a e1 e2
    obtain ⟨n, rfl⟩ : ∃ m, n = m + 1 := ⟨n - 1, by omega⟩
    have hle : μ 10 3 ≤ nI i := by rw [ec, pu_le]; rw [show i = c by omega]; omega
    exact ⟨a, by omega, by rw [fX2_bandsCome_L4, if_pos hle], by rw [fX8_bandMany_L4, rl_come hr, if_pos hle]⟩
  | succ k ih =>
    intro n i a e1 e2
    obtain ⟨n, rfl⟩ : ∃ m, n = m + 1 := ⟨n - 1, by omega⟩
    have hle : ¬ μ 10 3 ≤ nI i := by rw [ec, pu_le, nI_toInt (by omega), nI_toInt (by omega)]; omega
    have ix : la_ix (nI i) 24 = true := nI_ix (by omega) (by decide)
    have ni : (nI i).toNatClampNeg = i := nI_clamp (by omega)
    by_cases h100 : μ 11 i = 100
    · obtain ⟨w, r0, r1, r2⟩ := ih n (i + 1) (a + 1) (by omega) (by omega)
      refine ⟨w, by omega, ?_, ?_⟩
      · rw [fX2_bandsCome_L4, if_neg hle, pu_if ix, ni, if_pos h100]
        unfold fX2_bandsCome_J26
        rw [nI_1, nI_1, r1]
      · rw [fX8_bandMany_L4, rl_come hr, if_neg hle, pu_if ix, ni, rl_line hr, if_pos h100]
        unfold fX8_bandMany_J29
        rw [pu_st, nI_1, nI_1, r2]
    · obtain ⟨w, r0, r1, r2⟩ := ih n (i + 1) a (by omega) (by omega)
      refine ⟨w, by omega, ?_, ?_⟩
      · rw [fX2_bandsCome_L4, if_neg hle, pu_if ix, ni, if_neg h100]
        unfold fX2_bandsCome_J26
        rw [nI_1, r1]
      · rw [fX8_bandMany_L4, rl_come hr, if_neg hle, pu_if ix, ni, rl_line hr, if_neg h100]
        unfold fX8_bandMany_J29
        rw [pu_st, i_add0, nI_1, r2]
theorem come_N {μ : la_Mem} (hc : CI μ) : ∃ c : Nat, c ≤ 24 ∧ μ 10 3 = nI c ∧ (c : Int) = (μ 10 3).toInt := by
  obtain ⟨l1, l2, l3, -⟩ := hc.2.2.2.1
  exact asN l1 (show (μ 10 3).toInt ≤ (24 : Nat) by omega) (by decide)
/-- width and bands of the line, on both sides -/
theorem wb_ok {μ ν : la_Mem} (hc : CI μ) (hr : Rl μ ν) : ∃ (w : Int32) (b : Nat), b ≤ 24 ∧ (μ 10 3 = 0 → b = 0) ∧ fX7_composedWidth μ = some w ∧ fX8_widthOf ν = some w ∧ fX2_bandsCome μ = some (nI b) ∧ fX8_bandMany ν = some (nI b) := by
  obtain ⟨c, h1, h2, h3⟩ := come_N hc
  obtain ⟨w, r1, r2⟩ := wd_P hc hr h1 h2 c 400 0 0 (by omega) (by omega)
  obtain ⟨b, s0, s1, s2⟩ := bd_P hr h1 h2 c 400 0 0 (by omega) (by omega)
  refine ⟨w, b, by omega, fun q => ?_, ?_, ?_, ?_, ?_⟩
  · rw [pu_eq, z0] at q; omega
  · unfold fX7_composedWidth; rw [show fX7_composedWidth_L4 μ 400 0 0 = some w from r1]; rfl
  · unfold fX8_widthOf; rw [show fX8_widthOf_L4 ν 400 0 0 = some w from r2]; rfl
  · unfold fX2_bandsCome; rw [show fX2_bandsCome_L4 μ 400 0 0 = some (nI b) from s1]; rfl
  · unfold fX8_bandMany; rw [show fX8_bandMany_L4 ν 400 0 0 = some (nI b) from s2]; rfl
/-- how a line is -/
def tg (μ : la_Mem) (w b : Int32) : Int32 := if μ 26 2 ≤ w + b * μ 26 1 then (if w + b * μ 26 0 ≤ μ 26 2 then 0 else 2) else 1
theorem tight_c {μ : la_Mem} {w b : Int32} (h1 : fX7_composedWidth μ = some w) (h2 : fX2_bandsCome μ = some b) : fX7_tightness μ = if μ 10 4 ≤ 0 then (if μ 10 3 = 0 then some (-4) else some (tg μ w b)) else some (-2) := by
  unfold fX7_tightness tg
  rw [h1, Option.bind_some, h2, Option.bind_some]
  split
  · split
    · rfl
    · split
      · split <;> rfl
      · rfl
  · rfl
theorem tight_m {μ ν : la_Mem} (hr : Rl μ ν) (w b : Int32) : fX8_tightness w b ν = some (tg μ w b) := by
  unfold fX8_tightness tg
  rw [rl_sets hr]
  split
  · split <;> rfl
  · rfl
theorem tg_cases (μ : la_Mem) (w b : Int32) : tg μ w b = 0 ∨ (¬ tg μ w b = 0 ∧ 0 ≤ tg μ w b) := by
  unfold tg
  split
  · split
    · exact Or.inl rfl
    · exact Or.inr ⟨by decide, by decide⟩
  · exact Or.inr ⟨by decide, by decide⟩
theorem st_state (μ ν : la_Mem) (h : Iv μ ν) : ∃ r : Int32, fX7_state μ = some r ∧ fX8_state ν = some r := by
  obtain ⟨hc, hr⟩ := h
  obtain ⟨w, b, b1, b2, c1, c2, c3, c4⟩ := wb_ok hc hr
  unfold fX7_state fX8_state
  rw [tight_c c1 c3, rl_falling hr, rl_come hr, c2, Option.bind_some, c4, Option.bind_some, tight_m hr]
  by_cases q1 : μ 10 4 ≤ 0
  · rw [if_pos q1, if_pos q1]
    by_cases q2 : μ 10 3 = 0
    · exact ⟨-4, by rw [if_pos q2]; rfl, by rw [if_pos q2]⟩
    · exact ⟨tg μ w (nI b), by rw [if_neg q2]; rfl, by rw [if_neg q2]; rfl⟩
  · exact ⟨-2, by rw [if_neg q1]; rfl, by rw [if_neg q1]⟩
theorem st_thick (a : Int32) (μ ν : la_Mem) (h : Iv μ ν) : ∃ r : Int32, fX7_thick a μ = some r ∧ fX8_thick a ν = some r := by
  obtain ⟨hc, hr⟩ := h
  obtain ⟨w, b, b1, b2, c1, c2, c3, c4⟩ := wb_ok hc hr
  have eb : (nI b).toInt = b := nI_toInt (by omega)
  have esub : (nI b - 1).toInt = b - 1 := by rw [dec1 (by omega) (by omega), eb]
  unfold fX7_thick fX8_thick
  rw [c3, Option.bind_some, c4, Option.bind_some]
  by_cases ha : 0 ≤ a.toInt ∧ a.toInt < b
  · have hb0 : ¬ nI b = 0 := by rw [pu_eq, eb, z0]; omega
    have hd : (!(decide (nI b = 0))) = true := by simp [hb0]
    rw [if_neg (show ¬ a < 0 by rw [pu_lt, z0]; omega), if_pos (show a < nI b by rw [pu_lt, eb]; omega), in_t 0 (b - 1) rfl (by rw [Int32.toInt_toInt64, esub]) ha.1 (by omega), Option.bind_some, if_neg (by decide), tight_c c1 c3, rl_falling hr, c2, Option.bind_some, tight_m hr, c1]
    by_cases q1 : μ 10 4 ≤ 0
    · rw [if_pos q1, if_neg (show ¬ 0 < μ 10 4 by rw [pu_le, z0] at q1; rw [pu_lt, z0]; omega), if_neg (fun q => by have := b2 q; omega)]
      by_cases q2 : tg μ w (nI b) = 0
      · rw [q2, Option.bind_some, if_pos rfl, Option.bind_some, Option.bind_some, if_pos rfl, Option.bind_some]
        simp only [pu_st, pu_if hd, rl_sets hr]
        unfold fX7_thick_J53 fX8_thick_J69
        simp only [pu_if hd]
        split
        · exact ⟨_, rfl, rfl⟩
        · exact ⟨_, rfl, rfl⟩
      · exact ⟨-2, by rw [Option.bind_some, if_neg q2], by rw [Option.bind_some, if_neg q2]⟩
    · refine ⟨-2, ?_, ?_⟩
      · rw [if_neg q1]; rfl
      · rw [if_pos (show 0 < μ 10 4 by rw [pu_le, z0] at q1; rw [pu_lt, z0]; omega)]
  · refine ⟨-1, ?_, ?_⟩
    · by_cases h1 : a < 0
      · rw [if_pos h1]
      · rw [if_neg h1, if_neg (show ¬ a < nI b by rw [pu_lt, z0] at h1; rw [pu_lt, eb]; omega)]
    · rw [in_f 0 (b - 1) rfl (by rw [Int32.toInt_toInt64, esub]) (by omega), Option.bind_some, if_pos rfl]
theorem clr_P {c : Nat} (hcc : c ≤ 24) : ∀ (k n i a : Nat) (μ ν : la_Mem), i + k = c → k < n → μ 10 3 = nI c → (μ 4 5).toInt ≤ 60 → (∀ i, i < c → En (μ 4 5) (μ 11 i)) → Rl μ ν → ∃ (r : Int32) (μ' ν' : la_Mem), fX7_clear_L17 n (nI a) (nI i) μ = some (r, μ') ∧ fX8_clear_L14 n (nI a) (nI i) ν = some (r, ν') ∧ (∀ q, q ≠ 7 → μ' q = μ q) ∧ Rl μ' ν' ∧ bx (μ' 7) (μ 4 5).toInt.toNat ≤ bx (μ 7) (μ 4 5).toInt.toNat + (nb (μ 11) c - nb (μ 11) i) := by
  intro k
  induction k with
  | zero =>
    intro n i a μ ν e1 e2 ec hm he hr
    obtain ⟨n, rfl⟩ : ∃ m, n = m + 1 := ⟨n - 1, by omega⟩
    have hle : μ 10 3 ≤ nI i := by rw [ec, pu_le]; rw [show i = c by omega]; omega
    refine ⟨nI a, μ, ν, by rw [fX7_clear_L17, if_pos hle], by rw [fX8_clear_L14, rl_come hr, if_pos hle], fun _ _ => rfl, hr, ?_⟩
    rw [show i = c by omega]
    omega
  | succ k ih =>
    intro n i a μ ν e1 e2 ec hm he hr
    obtain ⟨n, rfl⟩ : ∃ m, n = m + 1 := ⟨n - 1, by omega⟩
    have hle : ¬ μ 10 3 ≤ nI i := by rw [ec, pu_le, nI_toInt (by omega), nI_toInt (by omega)]; omega
    have ix : la_ix (nI i) 24 = true := nI_ix (by omega) (by decide)
    have ni : (nI i).toNatClampNeg = i := nI_clamp (by omega)
    have es := nb_s (f := μ 11) (n := i)
    by_cases h100 : μ 11 i = 100
    · obtain ⟨r, μ', ν', r1, r2, r3, r4, r5⟩ := ih n (i + 1) a μ ν (by omega) (by omega) ec hm he hr
      rw [if_pos h100] at es
      refine ⟨r, μ', ν', ?_, ?_, r3, r4, by omega⟩
      · rw [fX7_clear_L17, if_neg hle, pu_if ix, ni, if_pos h100]
        unfold fX7_clear_J64
        rw [nI_1, r1]
      · rw [fX8_clear_L14, rl_come hr, if_neg hle, pu_if ix, ni, rl_line hr, if_pos h100]
        unfold fX8_clear_J49
        rw [nI_1, r2]
    · have q : Bd (μ 11 i) 0 ((μ 4 5).toInt - 1) := (he i (by omega)).resolve_left h100
      have ix2 : la_ix (μ 11 i) 60 = true := pu_ix.mpr ⟨q.1, by have := q.2; omega⟩
      have g : ∀ z, z ≠ 7 → la_ms μ 7 (μ 11 i).toNatClampNeg 12 z = μ z := fun z hz => pu_msr hz
      obtain ⟨r, μ', ν', r1, r2, r3, r4, r5⟩ := ih n (i + 1) (a + 1) (la_ms μ 7 (μ 11 i).toNatClampNeg 12) (la_ms ν 8 (μ 11 i).toNatClampNeg 12) (by omega) (by omega) (by rw [g 10 (by decide)]; exact ec) (by rw [g 4 (by decide)]; exact hm) (by rw [g 4 (by decide), g 11 (by decide)]; exact he) (rw_where hr _ _)
      rw [if_neg h100] at es
      rw [g 4 (by decide), g 11 (by decide), la_ms_self] at r5
      have hb : bx (upd (μ 7) (μ 11 i).toNatClampNeg 12) (μ 4 5).toInt.toNat ≤ bx (μ 7) (μ 4 5).toInt.toNat + 1 := by
        have hj : (μ 11 i).toNatClampNeg < (μ 4 5).toInt.toNat := by have := pu_nx q.1; have := q.2; omega
        rw [bx_in hj, if_pos rfl]
        split <;> omega
      refine ⟨r, μ', ν', ?_, ?_, fun z hz => by rw [r3 z hz, g z hz], r4, by omega⟩
      · rw [fX7_clear_L17, if_neg hle, pu_if ix, ni, if_neg h100, pu_if ix, pu_if ix2, pu_st]
        unfold fX7_clear_J64
        rw [nI_1, nI_1, r1]
      · rw [fX8_clear_L14, rl_come hr, if_neg hle, pu_if ix, ni, rl_line hr, if_neg h100, pu_if ix, pu_if ix2, pu_st]
        unfold fX8_clear_J49
        rw [nI_1, nI_1, r2]
theorem st_clear (μ ν : la_Mem) (h : Iv μ ν) : ∃ (r : Int32) (μ' ν' : la_Mem), fX7_clear μ = some (r, μ') ∧ fX8_clear ν = some (r, ν') ∧ Iv μ' ν' := by
  obtain ⟨hc, hr⟩ := h
  unfold fX7_clear fX8_clear fX2_empty
  rw [rl_falling hr]
  by_cases q1 : μ 10 4 ≤ 0
  · rw [if_pos q1, if_pos q1]
    obtain ⟨c, h1, h2, h3⟩ := come_N hc
    obtain ⟨a1, a2, a3, a4, a5, a6, a7, a8, a9⟩ := hc
    obtain ⟨r, μ', ν', r1, r2, r3, r4, r5⟩ := clr_P h1 c 400 0 0 μ ν (by omega) (by omega) h2 a2.1.2 (fun i hi => a4.2.2.2.2.1 i (by omega)) hr
    rw [show fX7_clear_L17 400 0 0 μ = some (r, μ') from r1, show fX8_clear_L14 400 0 0 ν = some (r, ν') from r2, pu_b2, pu_b2]
    refine ⟨r, la_ms (la_ms μ' 10 3 0) 10 5 0, la_ms (la_ms ν' 0 12 0) 0 17 0, rfl, rfl, ?_, rw_bands (rw_come r4 0) 0⟩
    have e1 : (fun p => μ' (36 + p)) = fun p => μ (36 + p) := funext fun p => r3 _ (by omega)
    have e2 : (fun p => μ' (28 + p)) = fun p => μ (28 + p) := funext fun p => r3 _ (by omega)
    apply ci_10_5
    have g : ∀ z, z ≠ 10 → la_ms μ' 10 3 0 z = μ' z := fun z hz => pu_msr hz
    have g1 : (fun p => la_ms μ' 10 3 0 (36 + p)) = fun p => μ (36 + p) := by rw [← e1]; exact funext fun p => g _ (by omega)
    have g2 : (fun p => la_ms μ' 10 3 0 (28 + p)) = fun p => μ (28 + p) := by rw [← e2]; exact funext fun p => g _ (by omega)
    have g3 : la_ms μ' 10 3 0 10 3 = 0 := by rw [la_ms_self, pk_us]
    have g4 : la_ms μ' 10 3 0 10 4 = μ 10 4 := by rw [la_ms_self, pk_un (by decide), r3 10 (by decide)]
    rw [g1, g2, g3, g4, g 7 (by decide), g 24 (by decide), g 2 (by decide), g 3 (by decide), g 25 (by decide), g 26 (by decide), g 4 (by decide), g 5 (by decide), g 6 (by decide), g 9 (by decide), g 11 (by decide), g 12 (by decide), g 14 (by decide), g 15 (by decide), g 16 (by decide), g 18 (by decide), g 20 (by decide), g 21 (by decide), r3 24 (by decide), r3 2 (by decide), r3 3 (by decide), r3 25 (by decide), r3 26 (by decide), r3 4 (by decide), r3 5 (by decide), r3 6 (by decide), r3 9 (by decide), r3 11 (by decide), r3 12 (by decide), r3 14 (by decide), r3 15 (by decide), r3 16 (by decide), r3 18 (by decide), r3 20 (by decide), r3 21 (by decide)]
    refine ⟨a1, a2, a3, ⟨by decide, a4.2.1, ?_, ⟨by decide, by decide⟩, fun i hi => ?_, a4.2.2.2.2.2⟩, a5, ?_, a7, a8, a9⟩
    · have := a4.1
      have := a4.2.2.1
      rw [z0]; omega
    · rw [z0] at hi; omega
    · unfold CE at a6 ⊢
      have e0 : nb (μ 11) (0 : Int32).toInt.toNat = 0 := rfl
      have e9 : nb (μ 11) 0 = 0 := rfl
      rw [e0]
      rw [show (μ 10 3).toInt.toNat = c by omega] at a6
      omega
  · exact ⟨-2, μ, ν, by rw [if_neg q1], by rw [if_neg q1], hc, hr⟩
