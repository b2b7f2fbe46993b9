/-! the letters in order -/
def us (M : Int32) (j : Nat) : Bool := M.toBitVec.getLsbD j
def sb (T : Nat → Int32) (j i : Nat) : Prop := (T j &&& (T i ^^^ (-1))) = 0
def Rdy (T : Nat → Int32) (M : Int32) (i : Nat) : Prop := ∀ j, j < 12 → j ≠ i → us M j = false → ¬ sb T j i
def OK (T : Nat → Int32) (M : Int32) (i : Nat) : Prop := us M i = false ∧ Rdy T M i
theorem ir_P {μ : la_Mem} {M : Int32} {i : Nat} (hi : i < 12) : ∀ (k n j : Nat), j + k = 12 → k < n → ((∀ q, j ≤ q → q < 12 → q ≠ i → us M q = false → ¬ sb (μ 2) q i) ∧ fX0_isReady_L2 (nI i) M μ n (nI j) = some (.inr ())) ∨ ((∃ q, j ≤ q ∧ q < 12 ∧ q ≠ i ∧ us M q = false ∧ sb (μ 2) q i) ∧ fX0_isReady_L2 (nI i) M μ n (nI j) = some (.inl 0)) := by
  intro k
  induction k with
  | zero =>
    intro n j e1 e2
    obtain ⟨n, rfl⟩ : ∃ m, n = m + 1 := ⟨n - 1, by omega⟩
    have hj : j = 12 := by omega
    subst hj
    exact Or.inl ⟨fun q q1 q2 => by omega, by rw [fX0_isReady_L2, if_pos (by decide)]⟩
  | succ k ih =>
    intro n j e1 e2
    obtain ⟨n, rfl⟩ : ∃ m, n = m + 1 := ⟨n - 1, by omega⟩
    have hle : ¬ (12 : Int32) ≤ nI j := by rw [pu_le, nI_toInt (by omega), z12]; omega
    have ixi : la_ix (nI i) 12 = true := nI_ix hi (by decide)
    have ixj : la_ix (nI j) 12 = true := nI_ix (by omega) (by decide)
    have ni : (nI i).toNatClampNeg = i := nI_clamp (by omega)
    have nj : (nI j).toNatClampNeg = j := nI_clamp (by omega)
    have hIH := ih n (j + 1) (by omega) (by omega)
    rw [fX0_isReady_L2, if_neg hle]
    unfold fX0_isReady_J25 fX0_isReady_J26 fX0_isReady_J53
    simp only [pu_if ixi, pu_if ixj, ni, nj, nI_1, if_neg nz1, if_pos]
    have skip : (j = i ∨ us M j = true ∨ ¬ sb (μ 2) j i) → ((∀ q, j ≤ q → q < 12 → q ≠ i → us M q = false → ¬ sb (μ 2) q i) ∧ fX0_isReady_L2 (nI i) M μ n (nI (j + 1)) = some (.inr ())) ∨ ((∃ q, j ≤ q ∧ q < 12 ∧ q ≠ i ∧ us M q = false ∧ sb (μ 2) q i) ∧ fX0_isReady_L2 (nI i) M μ n (nI (j + 1)) = some (.inl 0)) := by
      intro hs
      rcases hIH with ⟨h1, h2⟩ | ⟨⟨q, q1, q2⟩, h2⟩
      · refine Or.inl ⟨fun q q1 q2 q3 q4 => ?_, h2⟩
        by_cases e : q = j
        · subst e
          rcases hs with hs | hs | hs
          · exact absurd hs q3
          · rw [hs] at q4; exact absurd q4 (by decide)
          · exact hs
        · exact h1 q (by omega) q2 q3 q4
      · exact Or.inr ⟨⟨q, by omega, q2⟩, h2⟩
    by_cases q1 : j = i
    · rw [if_pos (show nI j = nI i by rw [q1])]
      exact skip (Or.inl q1)
    · rw [if_neg (show ¬ nI j = nI i by rw [pu_eq, nI_toInt (by omega), nI_toInt (by omega)]; omega)]
      by_cases q2 : (M &&& ((1 : Int32) <<< (nI j &&& 31))) = 0
      · rw [if_pos q2]
        by_cases q3 : (μ 2 j &&& (μ 2 i ^^^ -1)) = 0
        · rw [if_pos q3]
          exact Or.inr ⟨⟨j, by omega, by omega, q1, (bit_l (by omega)).mp q2, q3⟩, rfl⟩
        · rw [if_neg q3]
          exact skip (Or.inr (Or.inr q3))
      · rw [if_neg q2]
        refine skip (Or.inr (Or.inl ?_))
        have w := mt (bit_l (t := M) (show j < 31 by omega)).mpr q2
        unfold us
        simpa using w
theorem ir_ok {μ : la_Mem} {M : Int32} {i : Nat} (hi : i < 12) : (Rdy (μ 2) M i ∧ fX0_isReady (nI i) M μ = some 1) ∨ (¬ Rdy (μ 2) M i ∧ fX0_isReady (nI i) M μ = some 0) := by
  unfold fX0_isReady
  rcases ir_P (μ := μ) (M := M) hi 12 400 0 (by omega) (by omega) with ⟨h1, h2⟩ | ⟨⟨q, q1, q2, q3, q4, q5⟩, h2⟩
  · exact Or.inl ⟨fun j j1 => h1 j (by omega) j1, by rw [show fX0_isReady_L2 (nI i) M μ 400 0 = _ from h2]; rfl⟩
  · exact Or.inr ⟨fun h => h q q2 q3 q4 q5, by rw [show fX0_isReady_L2 (nI i) M μ 400 0 = _ from h2]; rfl⟩
theorem im_0 {ν : la_Mem} {x1 x2 x3 x4 x5 : Int32} : ∀ (k n j : Nat), j + k = 12 → k < n → fX8_order_L54 x1 x2 x3 x4 x5 ν n 0 (nI j) = some 0 := by
  intro k
  induction k with
  | zero =>
    intro n j e1 e2
    obtain ⟨n, rfl⟩ : ∃ m, n = m + 1 := ⟨n - 1, by omega⟩
    have hj : j = 12 := by omega
    subst hj
    rw [fX8_order_L54, if_pos (by decide)]
  | succ k ih =>
    intro n j e1 e2
    obtain ⟨n, rfl⟩ : ∃ m, n = m + 1 := ⟨n - 1, by omega⟩
    rw [fX8_order_L54, if_neg (show ¬ (12 : Int32) ≤ nI j by rw [pu_le, nI_toInt (by omega), z12]; omega), if_pos rfl]
    unfold fX8_order_J107 fX8_order_J108
    rw [nI_1]
    exact ih n (j + 1) (by omega) (by omega)
theorem im_P {ν : la_Mem} {M x1 x3 x4 : Int32} {i : Nat} (hi : i < 12) : ∀ (k n j : Nat), j + k = 12 → k < n → ((∀ q, j ≤ q → q < 12 → q ≠ i → us M q = false → ¬ sb (ν 2) q i) ∧ fX8_order_L54 x1 M x3 x4 (nI i) ν n 1 (nI j) = some 1) ∨ ((∃ q, j ≤ q ∧ q < 12 ∧ q ≠ i ∧ us M q = false ∧ sb (ν 2) q i) ∧ fX8_order_L54 x1 M x3 x4 (nI i) ν n 1 (nI j) = some 0) := by
  intro k
  induction k with
  | zero =>
    intro n j e1 e2
    obtain ⟨n, rfl⟩ : ∃ m, n = m + 1 := ⟨n - 1, by omega⟩
    have hj : j = 12 := by omega
    subst hj
    exact Or.inl ⟨fun q q1 q2 => by omega, by rw [fX8_order_L54, if_pos (by decide)]⟩
  | succ k ih =>
    intro n j e1 e2
    obtain ⟨n, rfl⟩ : ∃ m, n = m + 1 := ⟨n - 1, by omega⟩
    have hle : ¬ (12 : Int32) ≤ nI j := by rw [pu_le, nI_toInt (by omega), z12]; omega
    have ixi : la_ix (nI i) 12 = true := nI_ix hi (by decide)
    have ixj : la_ix (nI j) 12 = true := nI_ix (by omega) (by decide)
    have ni : (nI i).toNatClampNeg = i := nI_clamp (by omega)
    have nj : (nI j).toNatClampNeg = j := nI_clamp (by omega)
    have hIH := ih n (j + 1) (by omega) (by omega)
    have h00 := im_0 (ν := ν) (x1 := x1) (x2 := M) (x3 := x3) (x4 := x4) (x5 := nI i) k n (j + 1) (by omega) (by omega)
    rw [fX8_order_L54, if_neg hle, if_neg nz1]
    unfold fX8_order_J107 fX8_order_J103 fX8_order_J108
    rw [pu_if ixj, pu_if ixi, ni, nj, nI_1]
    have skip : (j = i ∨ us M j = true ∨ ¬ sb (ν 2) j i) → ((∀ q, j ≤ q → q < 12 → q ≠ i → us M q = false → ¬ sb (ν 2) q i) ∧ fX8_order_L54 x1 M x3 x4 (nI i) ν n 1 (nI (j + 1)) = some 1) ∨ ((∃ q, j ≤ q ∧ q < 12 ∧ q ≠ i ∧ us M q = false ∧ sb (ν 2) q i) ∧ fX8_order_L54 x1 M x3 x4 (nI i) ν n 1 (nI (j + 1)) = some 0) := by
      intro hs
      rcases hIH with ⟨h1, h2⟩ | ⟨⟨q, q1, q2⟩, h2⟩
      · refine Or.inl ⟨fun q q1 q2 q3 q4 => ?_, h2⟩
        by_cases e : q = j
        · subst e
          rcases hs with hs | hs | hs
          · exact absurd hs q3
          · rw [hs] at q4; exact absurd q4 (by decide)
          · exact hs
        · exact h1 q (by omega) q2 q3 q4
      · exact Or.inr ⟨⟨q, by omega, q2⟩, h2⟩
    by_cases q1 : j = i
    · rw [if_pos (show nI j = nI i by rw [q1])]
      exact skip (Or.inl q1)
    · rw [if_neg (show ¬ nI j = nI i by rw [pu_eq, nI_toInt (by omega), nI_toInt (by omega)]; omega)]
      by_cases q2 : (M &&& ((1 : Int32) <<< (nI j &&& 31))) = 0
      · rw [if_neg (show ¬ (M >>> (nI j &&& 31)) &&& 1 = 1 from fun w => (bit_1 (by omega)).mp w q2)]
        by_cases q3 : (ν 2 j &&& (ν 2 i ^^^ -1)) = 0
        · rw [if_pos q3]
          exact Or.inr ⟨⟨j, by omega, by omega, q1, (bit_l (by omega)).mp q2, q3⟩, h00⟩
        · rw [if_neg q3]
          exact skip (Or.inr (Or.inr q3))
      · rw [if_pos (show (M >>> (nI j &&& 31)) &&& 1 = 1 from (bit_1 (by omega)).mpr q2)]
        refine skip (Or.inr (Or.inl ?_))
        have w := mt (bit_l (t := M) (show j < 31 by omega)).mpr q2
        unfold us
        simpa using w
theorem lr_m {ν : la_Mem} {M x1 x4 : Int32} : ∀ (k n : Nat) (x3 : Int32), k ≤ 12 → k < n → (∃ m, m < k ∧ OK (ν 2) M m ∧ (∀ j, j < m → ¬ OK (ν 2) M j) ∧ fX8_order_L30 x1 M x4 ν n x3 (nI k - 1) = some (nI m)) ∨ ((∀ j, j < k → ¬ OK (ν 2) M j) ∧ fX8_order_L30 x1 M x4 ν n x3 (nI k - 1) = some x3) := by
  intro k
  induction k with
  | zero =>
    intro n x3 e1 e2
    obtain ⟨n, rfl⟩ : ∃ m, n = m + 1 := ⟨n - 1, by omega⟩
    exact Or.inr ⟨fun j hj => by omega, by rw [fX8_order_L30, if_pos (by decide)]⟩
  | succ k ih =>
    intro n x3 e1 e2
    obtain ⟨n, rfl⟩ : ∃ m, n = m + 1 := ⟨n - 1, by omega⟩
    have keep := ih n x3 (by omega) (by omega)
    have take := ih n (nI k) (by omega) (by omega)
    rw [nI_pred, fX8_order_L30, if_neg (show ¬ nI k < 0 by rw [pu_lt, nI_toInt (by omega), z0]; omega)]
    unfold fX8_order_J49 fX8_order_J127
    rw [i_m1]
    have hkeep : ¬ OK (ν 2) M k → (∃ m, m < k + 1 ∧ OK (ν 2) M m ∧ (∀ j, j < m → ¬ OK (ν 2) M j) ∧ fX8_order_L30 x1 M x4 ν n x3 (nI k - 1) = some (nI m)) ∨ ((∀ j, j < k + 1 → ¬ OK (ν 2) M j) ∧ fX8_order_L30 x1 M x4 ν n x3 (nI k - 1) = some x3) := by
      intro hk
      rcases keep with ⟨m, m1, m2⟩ | ⟨h1, h2⟩
      · exact Or.inl ⟨m, by omega, m2⟩
      · refine Or.inr ⟨fun j hj => ?_, h2⟩
        by_cases e : j = k
        · subst e; exact hk
        · exact h1 j (by omega)
    by_cases q : (M &&& ((1 : Int32) <<< (nI k &&& 31))) = 0
    · have hu : us M k = false := (bit_l (by omega)).mp q
      rw [if_pos ((bit_0 (by omega)).mpr q)]
      rcases im_P (ν := ν) (M := M) (x1 := x1) (x3 := x3) (x4 := x4) (show k < 12 by omega) 12 400 0 (by omega) (by omega) with ⟨h1, h2⟩ | ⟨⟨j, j1, j2, j3, j4, j5⟩, h2⟩
      · rw [show fX8_order_L54 x1 M x3 x4 (nI k) ν 400 1 0 = _ from h2, Option.bind_some, if_neg nz1]
        have hok : OK (ν 2) M k := ⟨hu, fun j j1 => h1 j (by omega) j1⟩
        rcases take with ⟨m, m1, m2⟩ | ⟨g1, g2⟩
        · exact Or.inl ⟨m, by omega, m2⟩
        · exact Or.inl ⟨k, by omega, hok, g1, g2⟩
      · rw [show fX8_order_L54 x1 M x3 x4 (nI k) ν 400 1 0 = _ from h2, Option.bind_some, if_pos rfl]
        exact hkeep (fun hok => hok.2 j j2 j3 j4 j5)
    · rw [if_neg (fun w => q ((bit_0 (by omega)).mp w)), show fX8_order_L54 x1 M x3 x4 (nI k) ν 400 0 0 = _ from im_0 12 400 0 (by omega) (by omega), Option.bind_some, if_pos rfl]
      exact hkeep (fun hok => q ((bit_l (by omega)).mpr hok.1))
theorem lr_c {μ : la_Mem} {M : Int32} : ∀ (k n i : Nat), i + k = 11 → k < n → (∃ m, i ≤ m ∧ m < 11 ∧ OK (μ 2) M m ∧ (∀ j, i ≤ j → j < m → ¬ OK (μ 2) M j) ∧ fX0_leastReady_L2 M μ n (nI i) = some (.inl (nI m))) ∨ ((∀ j, i ≤ j → j < 11 → ¬ OK (μ 2) M j) ∧ fX0_leastReady_L2 M μ n (nI i) = some (.inr ())) := by
  intro k
  induction k with
  | zero =>
    intro n i e1 e2
    obtain ⟨n, rfl⟩ : ∃ m, n = m + 1 := ⟨n - 1, by omega⟩
    have hi : i = 11 := by omega
    subst hi
    exact Or.inr ⟨fun j j1 j2 => by omega, by rw [fX0_leastReady_L2, if_pos (by decide)]⟩
  | succ k ih =>
    intro n i e1 e2
    obtain ⟨n, rfl⟩ : ∃ m, n = m + 1 := ⟨n - 1, by omega⟩
    have hIH := ih n (i + 1) (by omega) (by omega)
    rw [fX0_leastReady_L2, if_neg (show ¬ (11 : Int32) ≤ nI i by rw [pu_le, nI_toInt (by omega), z11]; omega)]
    unfold fX0_leastReady_J27
    rw [nI_1]
    have skip : ¬ OK (μ 2) M i → (∃ m, i ≤ m ∧ m < 11 ∧ OK (μ 2) M m ∧ (∀ j, i ≤ j → j < m → ¬ OK (μ 2) M j) ∧ fX0_leastReady_L2 M μ n (nI (i + 1)) = some (.inl (nI m))) ∨ ((∀ j, i ≤ j → j < 11 → ¬ OK (μ 2) M j) ∧ fX0_leastReady_L2 M μ n (nI (i + 1)) = some (.inr ())) := by
      intro hs
      rcases hIH with ⟨m, m1, m2, m3, m4, m5⟩ | ⟨h1, h2⟩
      · refine Or.inl ⟨m, by omega, m2, m3, fun j j1 j2 => ?_, m5⟩
        by_cases e : j = i
        · subst e; exact hs
        · exact m4 j (by omega) j2
      · refine Or.inr ⟨fun j j1 j2 => ?_, h2⟩
        by_cases e : j = i
        · subst e; exact hs
        · exact h1 j (by omega) j2
    by_cases q : (M &&& ((1 : Int32) <<< (nI i &&& 31))) = 0
    · have hu : us M i = false := (bit_l (by omega)).mp q
      rw [if_pos q]
      rcases ir_ok (μ := μ) (M := M) (show i < 12 by omega) with ⟨h1, h2⟩ | ⟨h1, h2⟩
      · rw [h2, Option.bind_some, if_neg nz1]
        exact Or.inl ⟨i, by omega, by omega, ⟨hu, h1⟩, fun j j1 j2 => by omega, rfl⟩
      · rw [h2, Option.bind_some, if_pos rfl]
        exact skip (fun hok => h1 hok.2)
    · rw [if_neg q]
      exact skip (fun hok => q ((bit_l (by omega)).mpr hok.1))
def NT (T : Nat → Int32) : Prop := ∀ i j, i < 12 → j < i → ¬ T i = T j
theorem ok_ex {T : Nat → Int32} {M : Int32} (hT : ∀ i, i < 12 → Bd (T i) 1 127) (hn : NT T) : ∀ (v i : Nat), i < 12 → us M i = false → (T i).toInt.toNat ≤ v → ∃ m, m < 12 ∧ OK T M m := by
  intro v
  induction v with
  | zero =>
    intro i h1 h2 h3
    have := (hT i h1).1
    omega
  | succ v ih =>
    intro i h1 h2 h3
    by_cases hr : Rdy T M i
    · exact ⟨i, h1, h2, hr⟩
    · have : ∃ j, j < 12 ∧ j ≠ i ∧ us M j = false ∧ sb T j i := by
        apply Classical.byContradiction
        intro hne
        exact hr (fun j j1 j2 j3 j4 => hne ⟨j, j1, j2, j3, j4⟩)
      obtain ⟨j, j1, j2, j3, j4⟩ := this
      have hb := hT i h1
      have hbj := hT j j1
      have hle := bt_le j4 ⟨by have := hb.1; omega, hb.2⟩
      have hne : ¬ (T j).toInt = (T i).toInt := by
        intro e
        have e2 : T j = T i := (pu_eq _ _).mpr e
        by_cases q : j < i
        · exact hn i j h1 q e2.symm
        · exact hn j i j1 (by omega) e2
      have := hbj.1
      exact ih j j1 j3 (by omega)
theorem lr_ok {μ ν : la_Mem} {M x1 x4 x3 : Int32} (h2 : ν 2 = μ 2) (hT : ∀ i, i < 12 → Bd (μ 2 i) 1 127) (hn : NT (μ 2)) (hu : ∃ i, i < 12 ∧ us M i = false) : ∃ m, m < 12 ∧ us M m = false ∧ fX0_leastReady M μ = some (nI m) ∧ fX8_order_L30 x1 M x4 ν 400 x3 11 = some (nI m) := by
  obtain ⟨i, i1, i2⟩ := hu
  obtain ⟨p, p1, p2⟩ := ok_ex hT hn (μ 2 i).toInt.toNat i i1 i2 (Nat.le_refl _)
  rcases lr_m (ν := ν) (M := M) (x1 := x1) (x4 := x4) 12 400 x3 (by omega) (by omega) with ⟨m, m1, m2, m3, m4⟩ | ⟨h1, -⟩
  · rw [h2] at m2 m3
    refine ⟨m, m1, m2.1, ?_, m4⟩
    unfold fX0_leastReady
    rcases lr_c (μ := μ) (M := M) 11 400 0 (by omega) (by omega) with ⟨q, q1, q2, q3, q4, q5⟩ | ⟨g1, g2⟩
    · have e : q = m := by
        by_cases a : q < m
        · exact absurd q3 (m3 q a)
        · by_cases b : m < q
          · exact absurd m2 (q4 m (by omega) b)
          · omega
      rw [show fX0_leastReady_L2 M μ 400 0 = _ from q5, e]
      rfl
    · have e : m = 11 := by
        by_cases a : m < 11
        · exact absurd m2 (g1 m (by omega) a)
        · omega
      rw [show fX0_leastReady_L2 M μ 400 0 = _ from g2, e]
      rfl
  · rw [h2] at h1
    exact absurd p2 (h1 p p1)
def un (M : Int32) : Nat → Nat | 0 => 0 | n + 1 => un M n + (if us M n then 0 else 1)
theorem us_or {M : Int32} {m j : Nat} (hm : m < 12) (hj : j < 12) : us (M ||| ((1 : Int32) <<< (nI m &&& 31))) j = (us M j || decide (j = m)) := by
  unfold us
  rw [Int32.toBitVec_or, BitVec.getLsbD_or, one_l (by omega) (by omega)]
theorem un_or {M : Int32} {m : Nat} (hm : m < 12) (hu : us M m = false) : ∀ n, n ≤ 12 → un (M ||| ((1 : Int32) <<< (nI m &&& 31))) n + (if m < n then 1 else 0) = un M n
  | 0, _ => rfl
  | n + 1, h => by
    have ih := un_or hm hu n (by omega)
    rw [un, un, us_or hm (by omega)]
    by_cases e : n = m
    · subst e
      rw [if_neg (show ¬ n < n by omega)] at ih
      rw [hu, if_pos (show n < n + 1 by omega)]
      simp
      omega
    · have e2 : (if m < n + 1 then 1 else 0) = (if m < n then 1 else 0) := by
        by_cases q : m < n
        · rw [if_pos q, if_pos (by omega)]
        · rw [if_neg q, if_neg (by omega)]
      rw [e2]
      simp only [e, decide_false, Bool.or_false]
      omega
theorem un_ex {M : Int32} : ∀ n, 0 < un M n → ∃ i, i < n ∧ us M i = false
  | 0, h => absurd (show 0 < 0 from h) (by decide)
  | n + 1, h => by
    rw [un] at h
    by_cases q : us M n = true
    · rw [if_pos q] at h
      obtain ⟨i, i1, i2⟩ := un_ex n (by omega)
      exact ⟨i, by omega, i2⟩
    · exact ⟨n, by omega, by simpa using q⟩
theorem or_P {μ ν : la_Mem} {x1 : Int32} {P : Nat} (hx : x1 = nI P) (hP : P ≤ 11) (h2 : ν 2 = μ 2) (hT : ∀ i, i < 12 → Bd (μ 2 i) 1 127) (hn : NT (μ 2)) : ∀ (k n i : Nat) (M q0 : Int32), i + k = P → k + 1 < n → un M 12 + i = 12 → ∃ (r M' : Int32), fX0_letterInOrder_L14 x1 μ n M (nI i) = some M' ∧ fX0_leastReady M' μ = some r ∧ fX8_order_L17 x1 ν n M q0 (nI i) = some r := by
  intro k
  induction k with
  | zero =>
    intro n i M q0 e1 e2 e3
    obtain ⟨n, rfl⟩ : ∃ m, n = m + 2 := ⟨n - 2, by omega⟩
    have hi : i = P := by omega
    subst hi
    obtain ⟨m, m1, m2, m3, m4⟩ := lr_ok (x1 := x1) (x4 := nI i) (x3 := -4) h2 hT hn (un_ex (M := M) 12 (by omega))
    refine ⟨nI m, M, by rw [fX0_letterInOrder_L14, if_pos (show x1 ≤ nI i by rw [hx, pu_le]; omega)], m3, ?_⟩
    rw [fX8_order_L17, if_neg (show ¬ x1 < nI i by rw [hx, pu_lt]; omega), m4, Option.bind_some, if_pos (show 0 ≤ nI m by rw [pu_le, z0, nI_toInt (by omega)]; omega)]
    unfold fX8_order_J146
    rw [pu_st, nI_1, fX8_order_L17, if_pos (show x1 < nI (i + 1) by rw [hx, pu_lt, nI_toInt (by omega), nI_toInt (by omega)]; omega)]
  | succ k ih =>
    intro n i M q0 e1 e2 e3
    obtain ⟨n, rfl⟩ : ∃ m, n = m + 1 := ⟨n - 1, by omega⟩
    obtain ⟨m, m1, m2, m3, m4⟩ := lr_ok (x1 := x1) (x4 := nI i) (x3 := -4) h2 hT hn (un_ex (M := M) 12 (by omega))
    have hun := un_or m1 m2 12 (by omega)
    rw [if_pos m1] at hun
    rw [fX0_letterInOrder_L14, if_neg (show ¬ x1 ≤ nI i by rw [hx, pu_le, nI_toInt (by omega), nI_toInt (by omega)]; omega), m3, Option.bind_some, pu_st, nI_1, fX8_order_L17, if_neg (show ¬ x1 < nI i by rw [hx, pu_lt, nI_toInt (by omega), nI_toInt (by omega)]; omega), m4, Option.bind_some, if_pos (show 0 ≤ nI m by rw [pu_le, z0, nI_toInt (by omega)]; omega)]
    unfold fX8_order_J146
    rw [pu_st, nI_1]
    exact ih n (i + 1) _ (nI m) (by omega) (by omega) (by omega)
theorem or_T {ν : la_Mem} {x1 : Int32} {P : Nat} (hx : x1 = nI P) (hP : P ≤ 11) : ∀ (k n i : Nat) (M q0 : Int32), i + k = P + 1 → k < n → ∃ r : Int32, fX8_order_L17 x1 ν n M q0 (nI i) = some r := by
  intro k
  induction k with
  | zero =>
    intro n i M q0 e1 e2
    obtain ⟨n, rfl⟩ : ∃ m, n = m + 1 := ⟨n - 1, by omega⟩
    exact ⟨q0, by rw [fX8_order_L17, if_pos (show x1 < nI i by rw [hx, pu_lt, nI_toInt (by omega), nI_toInt (by omega)]; omega)]⟩
  | succ k ih =>
    intro n i M q0 e1 e2
    obtain ⟨n, rfl⟩ : ∃ m, n = m + 1 := ⟨n - 1, by omega⟩
    have hL : ∃ z, fX8_order_L30 x1 M (nI i) ν 400 (-4) 11 = some z := by
      rcases lr_m (ν := ν) (M := M) (x1 := x1) (x4 := nI i) 12 400 (-4) (by omega) (by omega) with ⟨m, -, -, -, m4⟩ | ⟨-, m4⟩
      · exact ⟨_, m4⟩
      · exact ⟨_, m4⟩
    obtain ⟨z, hz⟩ := hL
    rw [fX8_order_L17, if_neg (show ¬ x1 < nI i by rw [hx, pu_lt, nI_toInt (by omega), nI_toInt (by omega)]; omega), hz, Option.bind_some]
    unfold fX8_order_J146
    rw [pu_st, pu_st, nI_1]
    split
    · exact ih n (i + 1) _ z (by omega) (by omega)
    · exact ih n (i + 1) _ z (by omega) (by omega)
/-! twins -/
theorem tw_1 {μ : la_Mem} {i : Nat} (hi : i < 12) : ∀ (k n j : Nat), j + k = i → k < n → ((∀ q, j ≤ q → q < i → ¬ μ 2 i = μ 2 q) ∧ fX0_hasTwins_L10 (nI i) μ n (nI j) = some (.inr ())) ∨ ((∃ q, j ≤ q ∧ q < i ∧ μ 2 i = μ 2 q) ∧ fX0_hasTwins_L10 (nI i) μ n (nI j) = some (.inl 1)) := by
  intro k
  induction k with
  | zero =>
    intro n j e1 e2
    obtain ⟨n, rfl⟩ : ∃ m, n = m + 1 := ⟨n - 1, by omega⟩
    have hj : j = i := by omega
    subst hj
    exact Or.inl ⟨fun q q1 q2 => by omega, by rw [fX0_hasTwins_L10, if_pos (show nI j ≤ nI j by rw [pu_le]; omega)]⟩
  | succ k ih =>
    intro n j e1 e2
    obtain ⟨n, rfl⟩ : ∃ m, n = m + 1 := ⟨n - 1, by omega⟩
    have hIH := ih n (j + 1) (by omega) (by omega)
    have ni : (nI i).toNatClampNeg = i := nI_clamp (by omega)
    have nj : (nI j).toNatClampNeg = j := nI_clamp (by omega)
    rw [fX0_hasTwins_L10, if_neg (show ¬ nI i ≤ nI j by rw [pu_le, nI_toInt (by omega), nI_toInt (by omega)]; omega), pu_if (nI_ix hi (by decide)), pu_if (nI_ix (show j < 12 by omega) (by decide)), ni, nj, nI_1]
    by_cases q : μ 2 i = μ 2 j
    · rw [if_pos q]
      exact Or.inr ⟨⟨j, by omega, by omega, q⟩, rfl⟩
    · rw [if_neg q]
      rcases hIH with ⟨h1, h2⟩ | ⟨⟨p, p1, p2⟩, h2⟩
      · refine Or.inl ⟨fun p p1 p2 => ?_, h2⟩
        by_cases e : p = j
        · subst e; exact q
        · exact h1 p (by omega) p2
      · exact Or.inr ⟨⟨p, by omega, p2⟩, h2⟩
theorem tw_2 {μ : la_Mem} : ∀ (k n i : Nat), i + k = 12 → k < n → ((∀ p q, i ≤ p → p < 12 → q < p → ¬ μ 2 p = μ 2 q) ∧ fX0_hasTwins_L2 μ n (nI i) = some (.inr ())) ∨ ((∃ p q, p < 12 ∧ q < p ∧ μ 2 p = μ 2 q) ∧ fX0_hasTwins_L2 μ n (nI i) = some (.inl 1)) := by
  intro k
  induction k with
  | zero =>
    intro n i e1 e2
    obtain ⟨n, rfl⟩ : ∃ m, n = m + 1 := ⟨n - 1, by omega⟩
    have hj : i = 12 := by omega
    subst hj
    exact Or.inl ⟨fun p q q1 q2 => by omega, by rw [fX0_hasTwins_L2, if_pos (by decide)]⟩
  | succ k ih =>
    intro n i e1 e2
    obtain ⟨n, rfl⟩ : ∃ m, n = m + 1 := ⟨n - 1, by omega⟩
    have hIH := ih n (i + 1) (by omega) (by omega)
    rw [fX0_hasTwins_L2, if_neg (show ¬ (12 : Int32) ≤ nI i by rw [pu_le, nI_toInt (by omega), z12]; omega)]
    rcases tw_1 (μ := μ) (show i < 12 by omega) i 400 0 (by omega) (by omega) with ⟨h1, h2⟩ | ⟨⟨q, q1, q2, q3⟩, h2⟩
    · rw [show fX0_hasTwins_L10 (nI i) μ 400 0 = _ from h2, pu_x0r, nI_1]
      rcases hIH with ⟨g1, g2⟩ | g
      · refine Or.inl ⟨fun p q p1 p2 p3 => ?_, g2⟩
        by_cases e : p = i
        · subst e; exact h1 q (by omega) p3
        · exact g1 p q (by omega) p2 p3
      · exact Or.inr g
    · rw [show fX0_hasTwins_L10 (nI i) μ 400 0 = _ from h2, pu_x0l]
      exact Or.inr ⟨⟨i, q, by omega, q2, q3⟩, rfl⟩
theorem tm_1 {ν : la_Mem} {i : Nat} (hi : i < 12) : ∀ (k n j : Nat) (x : Int32), j + k = i → k < n → ((∀ q, j ≤ q → q < i → ¬ ν 2 i = ν 2 q) ∧ fX8_order_L167 (nI i) ν n x (nI j) = some x) ∨ ((∃ q, j ≤ q ∧ q < i ∧ ν 2 i = ν 2 q) ∧ fX8_order_L167 (nI i) ν n x (nI j) = some (-4)) := by
  intro k
  induction k with
  | zero =>
    intro n j x e1 e2
    obtain ⟨n, rfl⟩ : ∃ m, n = m + 1 := ⟨n - 1, by omega⟩
    have hj : j = i := by omega
    subst hj
    exact Or.inl ⟨fun q q1 q2 => by omega, by rw [fX8_order_L167, if_pos (show nI j ≤ nI j by rw [pu_le]; omega)]⟩
  | succ k ih =>
    intro n j x e1 e2
    obtain ⟨n, rfl⟩ : ∃ m, n = m + 1 := ⟨n - 1, by omega⟩
    have ni : (nI i).toNatClampNeg = i := nI_clamp (by omega)
    have nj : (nI j).toNatClampNeg = j := nI_clamp (by omega)
    rw [fX8_order_L167, if_neg (show ¬ nI i ≤ nI j by rw [pu_le, nI_toInt (by omega), nI_toInt (by omega)]; omega), pu_if (nI_ix hi (by decide)), pu_if (nI_ix (show j < 12 by omega) (by decide)), ni, nj]
    unfold fX8_order_J197
    rw [nI_1]
    by_cases q : ν 2 i = ν 2 j
    · rw [if_pos q]
      refine Or.inr ⟨⟨j, by omega, by omega, q⟩, ?_⟩
      rcases ih n (j + 1) (-4) (by omega) (by omega) with ⟨-, h2⟩ | ⟨-, h2⟩
      · exact h2
      · exact h2
    · rw [if_neg q]
      rcases ih n (j + 1) x (by omega) (by omega) with ⟨h1, h2⟩ | ⟨⟨p, p1, p2⟩, h2⟩
      · refine Or.inl ⟨fun p p1 p2 => ?_, h2⟩
        by_cases e : p = j
        · subst e; exact q
        · exact h1 p (by omega) p2
      · exact Or.inr ⟨⟨p, by omega, p2⟩, h2⟩
theorem tm_2 {ν : la_Mem} : ∀ (k n i : Nat) (x : Int32), i + k = 12 → k < n → ((∀ p q, i ≤ p → p < 12 → q < p → ¬ ν 2 p = ν 2 q) ∧ fX8_order_L157 ν n x (nI i) = some x) ∨ ((∃ p q, p < 12 ∧ q < p ∧ ν 2 p = ν 2 q) ∧ fX8_order_L157 ν n x (nI i) = some (-4)) := by
  intro k
  induction k with
  | zero =>
    intro n i x e1 e2
    obtain ⟨n, rfl⟩ : ∃ m, n = m + 1 := ⟨n - 1, by omega⟩
    have hj : i = 12 := by omega
    subst hj
    exact Or.inl ⟨fun p q q1 q2 => by omega, by rw [fX8_order_L157, if_pos (by decide)]⟩
  | succ k ih =>
    intro n i x e1 e2
    obtain ⟨n, rfl⟩ : ∃ m, n = m + 1 := ⟨n - 1, by omega⟩
    rw [fX8_order_L157, if_neg (show ¬ (12 : Int32) ≤ nI i by rw [pu_le, nI_toInt (by omega), z12]; omega)]
    rcases tm_1 (ν := ν) (show i < 12 by omega) i 400 0 x (by omega) (by omega) with ⟨h1, h2⟩ | ⟨⟨q, q1, q2, q3⟩, h2⟩
    · rw [show fX8_order_L167 (nI i) ν 400 x 0 = _ from h2, Option.bind_some, nI_1]
      rcases ih n (i + 1) x (by omega) (by omega) with ⟨g1, g2⟩ | g
      · refine Or.inl ⟨fun p q p1 p2 p3 => ?_, g2⟩
        by_cases e : p = i
        · subst e; exact h1 q (by omega) p3
        · exact g1 p q (by omega) p2 p3
      · exact Or.inr g
    · rw [show fX8_order_L167 (nI i) ν 400 x 0 = _ from h2, Option.bind_some, nI_1]
      refine Or.inr ⟨⟨i, q, by omega, q2, q3⟩, ?_⟩
      rcases ih n (i + 1) (-4) (by omega) (by omega) with ⟨-, g⟩ | ⟨-, g⟩
      · exact g
      · exact g
theorem st_order (a : Int32) (μ ν : la_Mem) (h : Iv μ ν) : ∃ r : Int32, fX7_order a μ = some r ∧ fX8_order a ν = some r := by
  obtain ⟨hc, hr⟩ := h
  have h2 := rl_bteeth hr
  unfold fX7_order fX8_order
  by_cases ha : 0 ≤ a.toInt ∧ a.toInt < 12
  · obtain ⟨P, P1, P2, P3⟩ := asN ha.1 (show a.toInt ≤ (11 : Nat) by omega) (by decide)
    rw [isPlace_t ha.1 ha.2, isTwelve_t ha.1 ha.2, Option.bind_some, Option.bind_some, if_neg nz1, if_neg nz1]
    unfold fX0_letterInOrder fX0_hasTwins
    rcases tw_2 (μ := μ) 11 400 1 (by omega) (by omega) with ⟨h1, t1⟩ | ⟨⟨p, q, p1, p2, p3⟩, t1⟩
    · have hn : NT (μ 2) := fun i j i1 i2 => h1 i j (by omega) i1 i2
      obtain ⟨r, M', r1, r2, r3⟩ := or_P P2 P1 h2 (fun i hi => (hc.1.1 i hi).2.1) hn P 400 0 0 (-4) (by omega) (by omega) (by decide)
      rw [show fX0_hasTwins_L2 μ 400 1 = _ from t1, pu_x0r, Option.bind_some, if_pos rfl, show fX0_letterInOrder_L14 a μ 400 0 0 = _ from r1, Option.bind_some, r2, show fX8_order_L17 a ν 400 0 (-4) 0 = _ from r3, Option.bind_some, Option.bind_some, Option.bind_some]
      rcases tm_2 (ν := ν) 12 400 0 r (by omega) (by omega) with ⟨-, g⟩ | ⟨⟨p, q, p1, p2, p3⟩, -⟩
      · rw [show fX8_order_L157 ν 400 r 0 = _ from g]; exact ⟨_, rfl, rfl⟩
      · rw [h2] at p3
        exact absurd p3 (hn p q p1 p2)
    · obtain ⟨r, r1⟩ := or_T (ν := ν) P2 P1 (P + 1) 400 0 0 (-4) (by omega) (by omega)
      rw [show fX0_hasTwins_L2 μ 400 1 = _ from t1, pu_x0l, Option.bind_some, if_neg nz1, show fX8_order_L17 a ν 400 0 (-4) 0 = _ from r1, Option.bind_some, Option.bind_some]
      rcases tm_2 (ν := ν) 12 400 0 r (by omega) (by omega) with ⟨g1, -⟩ | ⟨-, g⟩
      · rw [h2] at g1
        exact absurd p3 (g1 p q (by omega) p1 p2)
      · rw [show fX8_order_L157 ν 400 r 0 = _ from g]; exact ⟨_, rfl, rfl⟩
  · rw [isPlace_f ha, isTwelve_f ha]; exact ⟨_, rfl, rfl⟩
