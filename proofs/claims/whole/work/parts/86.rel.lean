/-! the class's numbers mu beside the reference's nu -/
def Rl (μ ν : la_Mem) : Prop := (ν 1 = μ 24 ∧ ν 2 = μ 2 ∧ ν 3 = μ 3 ∧ ν 4 = μ 25 ∧ ν 5 = μ 26 ∧ ν 6 = μ 5 ∧ ν 7 = μ 6 ∧ ν 8 = μ 7 ∧ ν 9 = μ 9 ∧ ν 11 = μ 11 ∧ ν 12 = μ 12 ∧ ν 13 = μ 13 ∧ ν 14 = μ 15 ∧ ν 15 = μ 16 ∧ ν 16 = μ 17 ∧ ν 17 = μ 20 ∧ ν 21 = μ 22) ∧ (ν 0 5 = μ 4 5 ∧ ν 0 11 = μ 0 11 ∧ ν 0 12 = μ 10 3 ∧ ν 0 14 = μ 10 4 ∧ ν 0 17 = μ 10 5 ∧ ν 0 18 = μ 14 3 ∧ ν 0 22 = μ 14 4 ∧ ν 0 23 = μ 18 2 ∧ ν 0 29 = μ 21 1) ∧ (∀ p i, p < 12 → i < 8 → ν 10 (8 * p + i) = μ (36 + p) i) ∧ (∀ s i, s < 40 → i < 24 → ν 18 (24 * s + i) = μ (48 + s) i) ∧ (∀ s, s < 4 → ν 22 s = (if μ (28 + s) 1 = 0 then -1 else μ (28 + s) 2)) ∧ (∀ s, s < 4 → ν 23 s = μ (28 + s) 3) ∧ (∀ s i, s < 4 → i < 40 → ν 24 (40 * s + i) = μ (28 + s + 4) i)
theorem rl_widths {μ ν : la_Mem} (h : Rl μ ν) : ν 1 = μ 24 := h.1.1
theorem rl_bteeth {μ ν : la_Mem} (h : Rl μ ν) : ν 2 = μ 2 := h.1.2.1
theorem rl_brails {μ ν : la_Mem} (h : Rl μ ν) : ν 3 = μ 3 := h.1.2.2.1
theorem rl_reaches {μ ν : la_Mem} (h : Rl μ ν) : ν 4 = μ 25 := h.1.2.2.2.1
theorem rl_sets {μ ν : la_Mem} (h : Rl μ ν) : ν 5 = μ 26 := h.1.2.2.2.2.1
theorem rl_letters {μ ν : la_Mem} (h : Rl μ ν) : ν 6 = μ 5 := h.1.2.2.2.2.2.1
theorem rl_has {μ ν : la_Mem} (h : Rl μ ν) : ν 7 = μ 6 := h.1.2.2.2.2.2.2.1
theorem rl_where {μ ν : la_Mem} (h : Rl μ ν) : ν 8 = μ 7 := h.1.2.2.2.2.2.2.2.1
theorem rl_held {μ ν : la_Mem} (h : Rl μ ν) : ν 9 = μ 9 := h.1.2.2.2.2.2.2.2.2.1
theorem rl_line {μ ν : la_Mem} (h : Rl μ ν) : ν 11 = μ 11 := h.1.2.2.2.2.2.2.2.2.2.1
theorem rl_fallW {μ ν : la_Mem} (h : Rl μ ν) : ν 12 = μ 12 := h.1.2.2.2.2.2.2.2.2.2.2.1
theorem rl_fallD {μ ν : la_Mem} (h : Rl μ ν) : ν 13 = μ 13 := h.1.2.2.2.2.2.2.2.2.2.2.2.1
theorem rl_barW {μ ν : la_Mem} (h : Rl μ ν) : ν 14 = μ 15 := h.1.2.2.2.2.2.2.2.2.2.2.2.2.1
theorem rl_barP {μ ν : la_Mem} (h : Rl μ ν) : ν 15 = μ 16 := h.1.2.2.2.2.2.2.2.2.2.2.2.2.2.1
theorem rl_barD {μ ν : la_Mem} (h : Rl μ ν) : ν 16 = μ 17 := h.1.2.2.2.2.2.2.2.2.2.2.2.2.2.2.1
theorem rl_slen {μ ν : la_Mem} (h : Rl μ ν) : ν 17 = μ 20 := h.1.2.2.2.2.2.2.2.2.2.2.2.2.2.2.2.1
theorem rl_tape {μ ν : la_Mem} (h : Rl μ ν) : ν 21 = μ 22 := h.1.2.2.2.2.2.2.2.2.2.2.2.2.2.2.2.2
theorem rl_moulds {μ ν : la_Mem} (h : Rl μ ν) : ν 0 5 = μ 4 5 := h.2.1.1
theorem rl_now {μ ν : la_Mem} (h : Rl μ ν) : ν 0 11 = μ 0 11 := h.2.1.2.1
theorem rl_come {μ ν : la_Mem} (h : Rl μ ν) : ν 0 12 = μ 10 3 := h.2.1.2.2.1
theorem rl_falling {μ ν : la_Mem} (h : Rl μ ν) : ν 0 14 = μ 10 4 := h.2.1.2.2.2.1
theorem rl_bands {μ ν : la_Mem} (h : Rl μ ν) : ν 0 17 = μ 10 5 := h.2.1.2.2.2.2.1
theorem rl_hanging {μ ν : la_Mem} (h : Rl μ ν) : ν 0 18 = μ 14 3 := h.2.1.2.2.2.2.2.1
theorem rl_jammed {μ ν : la_Mem} (h : Rl μ ν) : ν 0 22 = μ 14 4 := h.2.1.2.2.2.2.2.2.1
theorem rl_slugs {μ ν : la_Mem} (h : Rl μ ν) : ν 0 23 = μ 18 2 := h.2.1.2.2.2.2.2.2.2.1
theorem rl_taped {μ ν : la_Mem} (h : Rl μ ν) : ν 0 29 = μ 21 1 := h.2.1.2.2.2.2.2.2.2.2
theorem rl_chan {μ ν : la_Mem} (h : Rl μ ν) {p i : Nat} (hp : p < 12) (hi : i < 8) : ν 10 (8 * p + i) = μ (36 + p) i := h.2.2.1 p i hp hi
theorem rl_sbytes {μ ν : la_Mem} (h : Rl μ ν) {s i : Nat} (hp : s < 40) (hi : i < 24) : ν 18 (24 * s + i) = μ (48 + s) i := h.2.2.2.1 s i hp hi
theorem rl_lane {μ ν : la_Mem} (h : Rl μ ν) {s : Nat} (hp : s < 4) : ν 22 s = (if μ (28 + s) 1 = 0 then -1 else μ (28 + s) 2) := h.2.2.2.2.1 s hp
theorem rl_size {μ ν : la_Mem} (h : Rl μ ν) {s : Nat} (hp : s < 4) : ν 23 s = μ (28 + s) 3 := h.2.2.2.2.2.1 s hp
theorem rl_item {μ ν : la_Mem} (h : Rl μ ν) {s i : Nat} (hp : s < 4) (hi : i < 40) : ν 24 (40 * s + i) = μ (28 + s + 4) i := h.2.2.2.2.2.2 s i hp hi
theorem pu_ms (μ : la_Mem) (k j : Nat) (v : Int32) (a b : Nat) : la_ms μ k j v a b = if a = k then (if b = j then v else μ k b) else μ a b := by
  unfold la_ms
  by_cases h : a = k
  · rw [if_pos h, if_pos h]; rfl
  · rw [if_neg h, if_neg h]
theorem pu_msr {μ : la_Mem} {k j a : Nat} {v : Int32} (h : a ≠ k) : la_ms μ k j v a = μ a := if_neg h
theorem rw_widths {μ ν : la_Mem} (h : Rl μ ν) (j : Nat) (v : Int32) : Rl (la_ms μ 24 j v) (la_ms ν 1 j v) := by
  obtain ⟨⟨a0, a1, a2, a3, a4, a5, a6, a7, a8, a9, a10, a11, a12, a13, a14, a15, a16⟩, hs, hc, hb, hl, hz, hi⟩ := h
  refine ⟨⟨?_, ?_, ?_, ?_, ?_, ?_, ?_, ?_, ?_, ?_, ?_, ?_, ?_, ?_, ?_, ?_, ?_⟩, ?_, ?_, ?_, ?_, ?_, ?_⟩
  · rw [la_ms_self, la_ms_self, a0]
  · rw [pu_msr (by decide), pu_msr (by decide), a1]
  · rw [pu_msr (by decide), pu_msr (by decide), a2]
  · rw [pu_msr (by decide), pu_msr (by decide), a3]
  · rw [pu_msr (by decide), pu_msr (by decide), a4]
  · rw [pu_msr (by decide), pu_msr (by decide), a5]
  · rw [pu_msr (by decide), pu_msr (by decide), a6]
  · rw [pu_msr (by decide), pu_msr (by decide), a7]
  · rw [pu_msr (by decide), pu_msr (by decide), a8]
  · rw [pu_msr (by decide), pu_msr (by decide), a9]
  · rw [pu_msr (by decide), pu_msr (by decide), a10]
  · rw [pu_msr (by decide), pu_msr (by decide), a11]
  · rw [pu_msr (by decide), pu_msr (by decide), a12]
  · rw [pu_msr (by decide), pu_msr (by decide), a13]
  · rw [pu_msr (by decide), pu_msr (by decide), a14]
  · rw [pu_msr (by decide), pu_msr (by decide), a15]
  · rw [pu_msr (by decide), pu_msr (by decide), a16]
  · rw [pu_msr (μ := ν) (a := 0) (by decide), pu_msr (a := 4) (by decide), pu_msr (μ := μ) (a := 0) (by decide), pu_msr (a := 10) (by decide), pu_msr (a := 14) (by decide), pu_msr (a := 18) (by decide), pu_msr (a := 21) (by decide)]; exact hs
  · intro p i h1 h2; rw [pu_msr (by decide), pu_msr (by omega)]; exact hc p i h1 h2
  · intro p i h1 h2; rw [pu_msr (by decide), pu_msr (by omega)]; exact hb p i h1 h2
  · intro p h1; rw [pu_msr (by decide), pu_msr (by omega)]; exact hl p h1
  · intro p h1; rw [pu_msr (by decide), pu_msr (by omega)]; exact hz p h1
  · intro p i h1 h2; rw [pu_msr (by decide), pu_msr (by omega)]; exact hi p i h1 h2
theorem rw_bteeth {μ ν : la_Mem} (h : Rl μ ν) (j : Nat) (v : Int32) : Rl (la_ms μ 2 j v) (la_ms ν 2 j v) := by
  obtain ⟨⟨a0, a1, a2, a3, a4, a5, a6, a7, a8, a9, a10, a11, a12, a13, a14, a15, a16⟩, hs, hc, hb, hl, hz, hi⟩ := h
  refine ⟨⟨?_, ?_, ?_, ?_, ?_, ?_, ?_, ?_, ?_, ?_, ?_, ?_, ?_, ?_, ?_, ?_, ?_⟩, ?_, ?_, ?_, ?_, ?_, ?_⟩
  · rw [pu_msr (by decide), pu_msr (by decide), a0]
  · rw [la_ms_self, la_ms_self, a1]
  · rw [pu_msr (by decide), pu_msr (by decide), a2]
  · rw [pu_msr (by decide), pu_msr (by decide), a3]
  · rw [pu_msr (by decide), pu_msr (by decide), a4]
  · rw [pu_msr (by decide), pu_msr (by decide), a5]
  · rw [pu_msr (by decide), pu_msr (by decide), a6]
  · rw [pu_msr (by decide), pu_msr (by decide), a7]
  · rw [pu_msr (by decide), pu_msr (by decide), a8]
  · rw [pu_msr (by decide), pu_msr (by decide), a9]
  · rw [pu_msr (by decide), pu_msr (by decide), a10]
  · rw [pu_msr (by decide), pu_msr (by decide), a11]
  · rw [pu_msr (by decide), pu_msr (by decide), a12]
  · rw [pu_msr (by decide), pu_msr (by decide), a13]
  · rw [pu_msr (by decide), pu_msr (by decide), a14]
  · rw [pu_msr (by decide), pu_msr (by decide), a15]
  · rw [pu_msr (by decide), pu_msr (by decide), a16]
  · rw [pu_msr (μ := ν) (a := 0) (by decide), pu_msr (a := 4) (by decide), pu_msr (μ := μ) (a := 0) (by decide), pu_msr (a := 10) (by decide), pu_msr (a := 14) (by decide), pu_msr (a := 18) (by decide), pu_msr (a := 21) (by decide)]; exact hs
  · intro p i h1 h2; rw [pu_msr (by decide), pu_msr (by omega)]; exact hc p i h1 h2
  · intro p i h1 h2; rw [pu_msr (by decide), pu_msr (by omega)]; exact hb p i h1 h2
  · intro p h1; rw [pu_msr (by decide), pu_msr (by omega)]; exact hl p h1
  · intro p h1; rw [pu_msr (by decide), pu_msr (by omega)]; exact hz p h1
  · intro p i h1 h2; rw [pu_msr (by decide), pu_msr (by omega)]; exact hi p i h1 h2
theorem rw_brails {μ ν : la_Mem} (h : Rl μ ν) (j : Nat) (v : Int32) : Rl (la_ms μ 3 j v) (la_ms ν 3 j v) := by
  obtain ⟨⟨a0, a1, a2, a3, a4, a5, a6, a7, a8, a9, a10, a11, a12, a13, a14, a15, a16⟩, hs, hc, hb, hl, hz, hi⟩ := h
  refine ⟨⟨?_, ?_, ?_, ?_, ?_, ?_, ?_, ?_, ?_, ?_, ?_, ?_, ?_, ?_, ?_, ?_, ?_⟩, ?_, ?_, ?_, ?_, ?_, ?_⟩
  · rw [pu_msr (by decide), pu_msr (by decide), a0]
  · rw [pu_msr (by decide), pu_msr (by decide), a1]
  · rw [la_ms_self, la_ms_self, a2]
  · rw [pu_msr (by decide), pu_msr (by decide), a3]
  · rw [pu_msr (by decide), pu_msr (by decide), a4]
  · rw [pu_msr (by decide), pu_msr (by decide), a5]
  · rw [pu_msr (by decide), pu_msr (by decide), a6]
  · rw [pu_msr (by decide), pu_msr (by decide), a7]
  · rw [pu_msr (by decide), pu_msr (by decide), a8]
  · rw [pu_msr (by decide), pu_msr (by decide), a9]
  · rw [pu_msr (by decide), pu_msr (by decide), a10]
  · rw [pu_msr (by decide), pu_msr (by decide), a11]
  · rw [pu_msr (by decide), pu_msr (by decide), a12]
  · rw [pu_msr (by decide), pu_msr (by decide), a13]
  · rw [pu_msr (by decide), pu_msr (by decide), a14]
  · rw [pu_msr (by decide), pu_msr (by decide), a15]
  · rw [pu_msr (by decide), pu_msr (by decide), a16]
  · rw [pu_msr (μ := ν) (a := 0) (by decide), pu_msr (a := 4) (by decide), pu_msr (μ := μ) (a := 0) (by decide), pu_msr (a := 10) (by decide), pu_msr (a := 14) (by decide), pu_msr (a := 18) (by decide), pu_msr (a := 21) (by decide)]; exact hs
  · intro p i h1 h2; rw [pu_msr (by decide), pu_msr (by omega)]; exact hc p i h1 h2
  · intro p i h1 h2; rw [pu_msr (by decide), pu_msr (by omega)]; exact hb p i h1 h2
  · intro p h1; rw [pu_msr (by decide), pu_msr (by omega)]; exact hl p h1
  · intro p h1; rw [pu_msr (by decide), pu_msr (by omega)]; exact hz p h1
  · intro p i h1 h2; rw [pu_msr (by decide), pu_msr (by omega)]; exact hi p i h1 h2
theorem rw_reaches {μ ν : la_Mem} (h : Rl μ ν) (j : Nat) (v : Int32) : Rl (la_ms μ 25 j v) (la_ms ν 4 j v) := by
  obtain ⟨⟨a0, a1, a2, a3, a4, a5, a6, a7, a8, a9, a10, a11, a12, a13, a14, a15, a16⟩, hs, hc, hb, hl, hz, hi⟩ := h
  refine ⟨⟨?_, ?_, ?_, ?_, ?_, ?_, ?_, ?_, ?_, ?_, ?_, ?_, ?_, ?_, ?_, ?_, ?_⟩, ?_, ?_, ?_, ?_, ?_, ?_⟩
  · rw [pu_msr (by decide), pu_msr (by decide), a0]
  · rw [pu_msr (by decide), pu_msr (by decide), a1]
  · rw [pu_msr (by decide), pu_msr (by decide), a2]
  · rw [la_ms_self, la_ms_self, a3]
  · rw [pu_msr (by decide), pu_msr (by decide), a4]
  · rw [pu_msr (by decide), pu_msr (by decide), a5]
  · rw [pu_msr (by decide), pu_msr (by decide), a6]
  · rw [pu_msr (by decide), pu_msr (by decide), a7]
  · rw [pu_msr (by decide), pu_msr (by decide), a8]
  · rw [pu_msr (by decide), pu_msr (by decide), a9]
  · rw [pu_msr (by decide), pu_msr (by decide), a10]
  · rw [pu_msr (by decide), pu_msr (by decide), a11]
  · rw [pu_msr (by decide), pu_msr (by decide), a12]
  · rw [pu_msr (by decide), pu_msr (by decide), a13]
  · rw [pu_msr (by decide), pu_msr (by decide), a14]
  · rw [pu_msr (by decide), pu_msr (by decide), a15]
  · rw [pu_msr (by decide), pu_msr (by decide), a16]
  · rw [pu_msr (μ := ν) (a := 0) (by decide), pu_msr (a := 4) (by decide), pu_msr (μ := μ) (a := 0) (by decide), pu_msr (a := 10) (by decide), pu_msr (a := 14) (by decide), pu_msr (a := 18) (by decide), pu_msr (a := 21) (by decide)]; exact hs
  · intro p i h1 h2; rw [pu_msr (by decide), pu_msr (by omega)]; exact hc p i h1 h2
  · intro p i h1 h2; rw [pu_msr (by decide), pu_msr (by omega)]; exact hb p i h1 h2
  · intro p h1; rw [pu_msr (by decide), pu_msr (by omega)]; exact hl p h1
  · intro p h1; rw [pu_msr (by decide), pu_msr (by omega)]; exact hz p h1
  · intro p i h1 h2; rw [pu_msr (by decide), pu_msr (by omega)]; exact hi p i h1 h2
theorem rw_sets {μ ν : la_Mem} (h : Rl μ ν) (j : Nat) (v : Int32) : Rl (la_ms μ 26 j v) (la_ms ν 5 j v) := by
  obtain ⟨⟨a0, a1, a2, a3, a4, a5, a6, a7, a8, a9, a10, a11, a12, a13, a14, a15, a16⟩, hs, hc, hb, hl, hz, hi⟩ := h
  refine ⟨⟨?_, ?_, ?_, ?_, ?_, ?_, ?_, ?_, ?_, ?_, ?_, ?_, ?_, ?_, ?_, ?_, ?_⟩, ?_, ?_, ?_, ?_, ?_, ?_⟩
  · rw [pu_msr (by decide), pu_msr (by decide), a0]
  · rw [pu_msr (by decide), pu_msr (by decide), a1]
  · rw [pu_msr (by decide), pu_msr (by decide), a2]
  · rw [pu_msr (by decide), pu_msr (by decide), a3]
  · rw [la_ms_self, la_ms_self, a4]
  · rw [pu_msr (by decide), pu_msr (by decide), a5]
  · rw [pu_msr (by decide), pu_msr (by decide), a6]
  · rw [pu_msr (by decide), pu_msr (by decide), a7]
  · rw [pu_msr (by decide), pu_msr (by decide), a8]
  · rw [pu_msr (by decide), pu_msr (by decide), a9]
  · rw [pu_msr (by decide), pu_msr (by decide), a10]
  · rw [pu_msr (by decide), pu_msr (by decide), a11]
  · rw [pu_msr (by decide), pu_msr (by decide), a12]
  · rw [pu_msr (by decide), pu_msr (by decide), a13]
  · rw [pu_msr (by decide), pu_msr (by decide), a14]
  · rw [pu_msr (by decide), pu_msr (by decide), a15]
  · rw [pu_msr (by decide), pu_msr (by decide), a16]
  · rw [pu_msr (μ := ν) (a := 0) (by decide), pu_msr (a := 4) (by decide), pu_msr (μ := μ) (a := 0) (by decide), pu_msr (a := 10) (by decide), pu_msr (a := 14) (by decide), pu_msr (a := 18) (by decide), pu_msr (a := 21) (by decide)]; exact hs
  · intro p i h1 h2; rw [pu_msr (by decide), pu_msr (by omega)]; exact hc p i h1 h2
  · intro p i h1 h2; rw [pu_msr (by decide), pu_msr (by omega)]; exact hb p i h1 h2
  · intro p h1; rw [pu_msr (by decide), pu_msr (by omega)]; exact hl p h1
  · intro p h1; rw [pu_msr (by decide), pu_msr (by omega)]; exact hz p h1
  · intro p i h1 h2; rw [pu_msr (by decide), pu_msr (by omega)]; exact hi p i h1 h2
theorem rw_letters {μ ν : la_Mem} (h : Rl μ ν) (j : Nat) (v : Int32) : Rl (la_ms μ 5 j v) (la_ms ν 6 j v) := by
  obtain ⟨⟨a0, a1, a2, a3, a4, a5, a6, a7, a8, a9, a10, a11, a12, a13, a14, a15, a16⟩, hs, hc, hb, hl, hz, hi⟩ := h
  refine ⟨⟨?_, ?_, ?_, ?_, ?_, ?_, ?_, ?_, ?_, ?_, ?_, ?_, ?_, ?_, ?_, ?_, ?_⟩, ?_, ?_, ?_, ?_, ?_, ?_⟩
  · rw [pu_msr (by decide), pu_msr (by decide), a0]
  · rw [pu_msr (by decide), pu_msr (by decide), a1]
  · rw [pu_msr (by decide), pu_msr (by decide), a2]
  · rw [pu_msr (by decide), pu_msr (by decide), a3]
  · rw [pu_msr (by decide), pu_msr (by decide), a4]
  · rw [la_ms_self, la_ms_self, a5]
  · rw [pu_msr (by decide), pu_msr (by decide), a6]
  · rw [pu_msr (by decide), pu_msr (by decide), a7]
  · rw [pu_msr (by decide), pu_msr (by decide), a8]
  · rw [pu_msr (by decide), pu_msr (by decide), a9]
  · rw [pu_msr (by decide), pu_msr (by decide), a10]
  · rw [pu_msr (by decide), pu_msr (by decide), a11]
  · rw [pu_msr (by decide), pu_msr (by decide), a12]
  · rw [pu_msr (by decide), pu_msr (by decide), a13]
  · rw [pu_msr (by decide), pu_msr (by decide), a14]
  · rw [pu_msr (by decide), pu_msr (by decide), a15]
  · rw [pu_msr (by decide), pu_msr (by decide), a16]
  · rw [pu_msr (μ := ν) (a := 0) (by decide), pu_msr (a := 4) (by decide), pu_msr (μ := μ) (a := 0) (by decide), pu_msr (a := 10) (by decide), pu_msr (a := 14) (by decide), pu_msr (a := 18) (by decide), pu_msr (a := 21) (by decide)]; exact hs
  · intro p i h1 h2; rw [pu_msr (by decide), pu_msr (by omega)]; exact hc p i h1 h2
  · intro p i h1 h2; rw [pu_msr (by decide), pu_msr (by omega)]; exact hb p i h1 h2
  · intro p h1; rw [pu_msr (by decide), pu_msr (by omega)]; exact hl p h1
  · intro p h1; rw [pu_msr (by decide), pu_msr (by omega)]; exact hz p h1
  · intro p i h1 h2; rw [pu_msr (by decide), pu_msr (by omega)]; exact hi p i h1 h2
theorem rw_has {μ ν : la_Mem} (h : Rl μ ν) (j : Nat) (v : Int32) : Rl (la_ms μ 6 j v) (la_ms ν 7 j v) := by
  obtain ⟨⟨a0, a1, a2, a3, a4, a5, a6, a7, a8, a9, a10, a11, a12, a13, a14, a15, a16⟩, hs, hc, hb, hl, hz, hi⟩ := h
  refine ⟨⟨?_, ?_, ?_, ?_, ?_, ?_, ?_, ?_, ?_, ?_, ?_, ?_, ?_, ?_, ?_, ?_, ?_⟩, ?_, ?_, ?_, ?_, ?_, ?_⟩
  · rw [pu_msr (by decide), pu_msr (by decide), a0]
  · rw [pu_msr (by decide), pu_msr (by decide), a1]
  · rw [pu_msr (by decide), pu_msr (by decide), a2]
  · rw [pu_msr (by decide), pu_msr (by decide), a3]
  · rw [pu_msr (by decide), pu_msr (by decide), a4]
  · rw [pu_msr (by decide), pu_msr (by decide), a5]
  · rw [la_ms_self, la_ms_self, a6]
  · rw [pu_msr (by decide), pu_msr (by decide), a7]
  · rw [pu_msr (by decide), pu_msr (by decide), a8]
  · rw [pu_msr (by decide), pu_msr (by decide), a9]
  · rw [pu_msr (by decide), pu_msr (by decide), a10]
  · rw [pu_msr (by decide), pu_msr (by decide), a11]
  · rw [pu_msr (by decide), pu_msr (by decide), a12]
  · rw [pu_msr (by decide), pu_msr (by decide), a13]
  · rw [pu_msr (by decide), pu_msr (by decide), a14]
  · rw [pu_msr (by decide), pu_msr (by decide), a15]
  · rw [pu_msr (by decide), pu_msr (by decide), a16]
  · rw [pu_msr (μ := ν) (a := 0) (by decide), pu_msr (a := 4) (by decide), pu_msr (μ := μ) (a := 0) (by decide), pu_msr (a := 10) (by decide), pu_msr (a := 14) (by decide), pu_msr (a := 18) (by decide), pu_msr (a := 21) (by decide)]; exact hs
  · intro p i h1 h2; rw [pu_msr (by decide), pu_msr (by omega)]; exact hc p i h1 h2
  · intro p i h1 h2; rw [pu_msr (by decide), pu_msr (by omega)]; exact hb p i h1 h2
  · intro p h1; rw [pu_msr (by decide), pu_msr (by omega)]; exact hl p h1
  · intro p h1; rw [pu_msr (by decide), pu_msr (by omega)]; exact hz p h1
  · intro p i h1 h2; rw [pu_msr (by decide), pu_msr (by omega)]; exact hi p i h1 h2
theorem rw_where {μ ν : la_Mem} (h : Rl μ ν) (j : Nat) (v : Int32) : Rl (la_ms μ 7 j v) (la_ms ν 8 j v) := by
  obtain ⟨⟨a0, a1, a2, a3, a4, a5, a6, a7, a8, a9, a10, a11, a12, a13, a14, a15, a16⟩, hs, hc, hb, hl, hz, hi⟩ := h
  refine ⟨⟨?_, ?_, ?_, ?_, ?_, ?_, ?_, ?_, ?_, ?_, ?_, ?_, ?_, ?_, ?_, ?_, ?_⟩, ?_, ?_, ?_, ?_, ?_, ?_⟩
  · rw [pu_msr (by decide), pu_msr (by decide), a0]
  · rw [pu_msr (by decide), pu_msr (by decide), a1]
  · rw [pu_msr (by decide), pu_msr (by decide), a2]
  · rw [pu_msr (by decide), pu_msr (by decide), a3]
  · rw [pu_msr (by decide), pu_msr (by decide), a4]
  · rw [pu_msr (by decide), pu_msr (by decide), a5]
  · rw [pu_msr (by decide), pu_msr (by decide), a6]
  · rw [la_ms_self, la_ms_self, a7]
  · rw [pu_msr (by decide), pu_msr (by decide), a8]
  · rw [pu_msr (by decide), pu_msr (by decide), a9]
  · rw [pu_msr (by decide), pu_msr (by decide), a10]
  · rw [pu_msr (by decide), pu_msr (by decide), a11]
  · rw [pu_msr (by decide), pu_msr (by decide), a12]
  · rw [pu_msr (by decide), pu_msr (by decide), a13]
  · rw [pu_msr (by decide), pu_msr (by decide), a14]
  · rw [pu_msr (by decide), pu_msr (by decide), a15]
  · rw [pu_msr (by decide), pu_msr (by decide), a16]
  · rw [pu_msr (μ := ν) (a := 0) (by decide), pu_msr (a := 4) (by decide), pu_msr (μ := μ) (a := 0) (by decide), pu_msr (a := 10) (by decide), pu_msr (a := 14) (by decide), pu_msr (a := 18) (by decide), pu_msr (a := 21) (by decide)]; exact hs
  · intro p i h1 h2; rw [pu_msr (by decide), pu_msr (by omega)]; exact hc p i h1 h2
  · intro p i h1 h2; rw [pu_msr (by decide), pu_msr (by omega)]; exact hb p i h1 h2
  · intro p h1; rw [pu_msr (by decide), pu_msr (by omega)]; exact hl p h1
  · intro p h1; rw [pu_msr (by decide), pu_msr (by omega)]; exact hz p h1
  · intro p i h1 h2; rw [pu_msr (by decide), pu_msr (by omega)]; exact hi p i h1 h2
theorem rw_held {μ ν : la_Mem} (h : Rl μ ν) (j : Nat) (v : Int32) : Rl (la_ms μ 9 j v) (la_ms ν 9 j v) := by
  obtain ⟨⟨a0, a1, a2, a3, a4, a5, a6, a7, a8, a9, a10, a11, a12, a13, a14, a15, a16⟩, hs, hc, hb, hl, hz, hi⟩ := h
  refine ⟨⟨?_, ?_, ?_, ?_, ?_, ?_, ?_, ?_, ?_, ?_, ?_, ?_, ?_, ?_, ?_, ?_, ?_⟩, ?_, ?_, ?_, ?_, ?_, ?_⟩
  · rw [pu_msr (by decide), pu_msr (by decide), a0]
  · rw [pu_msr (by decide), pu_msr (by decide), a1]
  · rw [pu_msr (by decide), pu_msr (by decide), a2]
  · rw [pu_msr (by decide), pu_msr (by decide), a3]
  · rw [pu_msr (by decide), pu_msr (by decide), a4]
  · rw [pu_msr (by decide), pu_msr (by decide), a5]
  · rw [pu_msr (by decide), pu_msr (by decide), a6]
  · rw [pu_msr (by decide), pu_msr (by decide), a7]
  · rw [la_ms_self, la_ms_self, a8]
  · rw [pu_msr (by decide), pu_msr (by decide), a9]
  · rw [pu_msr (by decide), pu_msr (by decide), a10]
  · rw [pu_msr (by decide), pu_msr (by decide), a11]
  · rw [pu_msr (by decide), pu_msr (by decide), a12]
  · rw [pu_msr (by decide), pu_msr (by decide), a13]
  · rw [pu_msr (by decide), pu_msr (by decide), a14]
  · rw [pu_msr (by decide), pu_msr (by decide), a15]
  · rw [pu_msr (by decide), pu_msr (by decide), a16]
  · rw [pu_msr (μ := ν) (a := 0) (by decide), pu_msr (a := 4) (by decide), pu_msr (μ := μ) (a := 0) (by decide), pu_msr (a := 10) (by decide), pu_msr (a := 14) (by decide), pu_msr (a := 18) (by decide), pu_msr (a := 21) (by decide)]; exact hs
  · intro p i h1 h2; rw [pu_msr (by decide), pu_msr (by omega)]; exact hc p i h1 h2
  · intro p i h1 h2; rw [pu_msr (by decide), pu_msr (by omega)]; exact hb p i h1 h2
  · intro p h1; rw [pu_msr (by decide), pu_msr (by omega)]; exact hl p h1
  · intro p h1; rw [pu_msr (by decide), pu_msr (by omega)]; exact hz p h1
  · intro p i h1 h2; rw [pu_msr (by decide), pu_msr (by omega)]; exact hi p i h1 h2
theorem rw_line {μ ν : la_Mem} (h : Rl μ ν) (j : Nat) (v : Int32) : Rl (la_ms μ 11 j v) (la_ms ν 11 j v) := by
  obtain ⟨⟨a0, a1, a2, a3, a4, a5, a6, a7, a8, a9, a10, a11, a12, a13, a14, a15, a16⟩, hs, hc, hb, hl, hz, hi⟩ := h
  refine ⟨⟨?_, ?_, ?_, ?_, ?_, ?_, ?_, ?_, ?_, ?_, ?_, ?_, ?_, ?_, ?_, ?_, ?_⟩, ?_, ?_, ?_, ?_, ?_, ?_⟩
  · rw [pu_msr (by decide), pu_msr (by decide), a0]
  · rw [pu_msr (by decide), pu_msr (by decide), a1]
  · rw [pu_msr (by decide), pu_msr (by decide), a2]
  · rw [pu_msr (by decide), pu_msr (by decide), a3]
  · rw [pu_msr (by decide), pu_msr (by decide), a4]
  · rw [pu_msr (by decide), pu_msr (by decide), a5]
  · rw [pu_msr (by decide), pu_msr (by decide), a6]
  · rw [pu_msr (by decide), pu_msr (by decide), a7]
  · rw [pu_msr (by decide), pu_msr (by decide), a8]
  · rw [la_ms_self, la_ms_self, a9]
  · rw [pu_msr (by decide), pu_msr (by decide), a10]
  · rw [pu_msr (by decide), pu_msr (by decide), a11]
  · rw [pu_msr (by decide), pu_msr (by decide), a12]
  · rw [pu_msr (by decide), pu_msr (by decide), a13]
  · rw [pu_msr (by decide), pu_msr (by decide), a14]
  · rw [pu_msr (by decide), pu_msr (by decide), a15]
  · rw [pu_msr (by decide), pu_msr (by decide), a16]
  · rw [pu_msr (μ := ν) (a := 0) (by decide), pu_msr (a := 4) (by decide), pu_msr (μ := μ) (a := 0) (by decide), pu_msr (a := 10) (by decide), pu_msr (a := 14) (by decide), pu_msr (a := 18) (by decide), pu_msr (a := 21) (by decide)]; exact hs
  · intro p i h1 h2; rw [pu_msr (by decide), pu_msr (by omega)]; exact hc p i h1 h2
  · intro p i h1 h2; rw [pu_msr (by decide), pu_msr (by omega)]; exact hb p i h1 h2
  · intro p h1; rw [pu_msr (by decide), pu_msr (by omega)]; exact hl p h1
  · intro p h1; rw [pu_msr (by decide), pu_msr (by omega)]; exact hz p h1
  · intro p i h1 h2; rw [pu_msr (by decide), pu_msr (by omega)]; exact hi p i h1 h2
theorem rw_fallW {μ ν : la_Mem} (h : Rl μ ν) (j : Nat) (v : Int32) : Rl (la_ms μ 12 j v) (la_ms ν 12 j v) := by
  obtain ⟨⟨a0, a1, a2, a3, a4, a5, a6, a7, a8, a9, a10, a11, a12, a13, a14, a15, a16⟩, hs, hc, hb, hl, hz, hi⟩ := h
  refine ⟨⟨?_, ?_, ?_, ?_, ?_, ?_, ?_, ?_, ?_, ?_, ?_, ?_, ?_, ?_, ?_, ?_, ?_⟩, ?_, ?_, ?_, ?_, ?_, ?_⟩
  · rw [pu_msr (by decide), pu_msr (by decide), a0]
  · rw [pu_msr (by decide), pu_msr (by decide), a1]
  · rw [pu_msr (by decide), pu_msr (by decide), a2]
  · rw [pu_msr (by decide), pu_msr (by decide), a3]
  · rw [pu_msr (by decide), pu_msr (by decide), a4]
  · rw [pu_msr (by decide), pu_msr (by decide), a5]
  · rw [pu_msr (by decide), pu_msr (by decide), a6]
  · rw [pu_msr (by decide), pu_msr (by decide), a7]
  · rw [pu_msr (by decide), pu_msr (by decide), a8]
  · rw [pu_msr (by decide), pu_msr (by decide), a9]
  · rw [la_ms_self, la_ms_self, a10]
  · rw [pu_msr (by decide), pu_msr (by decide), a11]
  · rw [pu_msr (by decide), pu_msr (by decide), a12]
  · rw [pu_msr (by decide), pu_msr (by decide), a13]
  · rw [pu_msr (by decide), pu_msr (by decide), a14]
  · rw [pu_msr (by decide), pu_msr (by decide), a15]
  · rw [pu_msr (by decide), pu_msr (by decide), a16]
  · rw [pu_msr (μ := ν) (a := 0) (by decide), pu_msr (a := 4) (by decide), pu_msr (μ := μ) (a := 0) (by decide), pu_msr (a := 10) (by decide), pu_msr (a := 14) (by decide), pu_msr (a := 18) (by decide), pu_msr (a := 21) (by decide)]; exact hs
  · intro p i h1 h2; rw [pu_msr (by decide), pu_msr (by omega)]; exact hc p i h1 h2
  · intro p i h1 h2; rw [pu_msr (by decide), pu_msr (by omega)]; exact hb p i h1 h2
  · intro p h1; rw [pu_msr (by decide), pu_msr (by omega)]; exact hl p h1
  · intro p h1; rw [pu_msr (by decide), pu_msr (by omega)]; exact hz p h1
  · intro p i h1 h2; rw [pu_msr (by decide), pu_msr (by omega)]; exact hi p i h1 h2
theorem rw_fallD {μ ν : la_Mem} (h : Rl μ ν) (j : Nat) (v : Int32) : Rl (la_ms μ 13 j v) (la_ms ν 13 j v) := by
  obtain ⟨⟨a0, a1, a2, a3, a4, a5, a6, a7, a8, a9, a10, a11, a12, a13, a14, a15, a16⟩, hs, hc, hb, hl, hz, hi⟩ := h
  refine ⟨⟨?_, ?_, ?_, ?_, ?_, ?_, ?_, ?_, ?_, ?_, ?_, ?_, ?_, ?_, ?_, ?_, ?_⟩, ?_, ?_, ?_, ?_, ?_, ?_⟩
  · rw [pu_msr (by decide), pu_msr (by decide), a0]
  · rw [pu_msr (by decide), pu_msr (by decide), a1]
  · rw [pu_msr (by decide), pu_msr (by decide), a2]
  · rw [pu_msr (by decide), pu_msr (by decide), a3]
  · rw [pu_msr (by decide), pu_msr (by decide), a4]
  · rw [pu_msr (by decide), pu_msr (by decide), a5]
  · rw [pu_msr (by decide), pu_msr (by decide), a6]
  · rw [pu_msr (by decide), pu_msr (by decide), a7]
  · rw [pu_msr (by decide), pu_msr (by decide), a8]
  · rw [pu_msr (by decide), pu_msr (by decide), a9]
  · rw [pu_msr (by decide), pu_msr (by decide), a10]
  · rw [la_ms_self, la_ms_self, a11]
  · rw [pu_msr (by decide), pu_msr (by decide), a12]
  · rw [pu_msr (by decide), pu_msr (by decide), a13]
  · rw [pu_msr (by decide), pu_msr (by decide), a14]
  · rw [pu_msr (by decide), pu_msr (by decide), a15]
  · rw [pu_msr (by decide), pu_msr (by decide), a16]
  · rw [pu_msr (μ := ν) (a := 0) (by decide), pu_msr (a := 4) (by decide), pu_msr (μ := μ) (a := 0) (by decide), pu_msr (a := 10) (by decide), pu_msr (a := 14) (by decide), pu_msr (a := 18) (by decide), pu_msr (a := 21) (by decide)]; exact hs
  · intro p i h1 h2; rw [pu_msr (by decide), pu_msr (by omega)]; exact hc p i h1 h2
  · intro p i h1 h2; rw [pu_msr (by decide), pu_msr (by omega)]; exact hb p i h1 h2
  · intro p h1; rw [pu_msr (by decide), pu_msr (by omega)]; exact hl p h1
  · intro p h1; rw [pu_msr (by decide), pu_msr (by omega)]; exact hz p h1
  · intro p i h1 h2; rw [pu_msr (by decide), pu_msr (by omega)]; exact hi p i h1 h2
theorem rw_barW {μ ν : la_Mem} (h : Rl μ ν) (j : Nat) (v : Int32) : Rl (la_ms μ 15 j v) (la_ms ν 14 j v) := by
  obtain ⟨⟨a0, a1, a2, a3, a4, a5, a6, a7, a8, a9, a10, a11, a12, a13, a14, a15, a16⟩, hs, hc, hb, hl, hz, hi⟩ := h
  refine ⟨⟨?_, ?_, ?_, ?_, ?_, ?_, ?_, ?_, ?_, ?_, ?_, ?_, ?_, ?_, ?_, ?_, ?_⟩, ?_, ?_, ?_, ?_, ?_, ?_⟩
  · rw [pu_msr (by decide), pu_msr (by decide), a0]
  · rw [pu_msr (by decide), pu_msr (by decide), a1]
  · rw [pu_msr (by decide), pu_msr (by decide), a2]
  · rw [pu_msr (by decide), pu_msr (by decide), a3]
  · rw [pu_msr (by decide), pu_msr (by decide), a4]
  · rw [pu_msr (by decide), pu_msr (by decide), a5]
  · rw [pu_msr (by decide), pu_msr (by decide), a6]
  · rw [pu_msr (by decide), pu_msr (by decide), a7]
  · rw [pu_msr (by decide), pu_msr (by decide), a8]
  · rw [pu_msr (by decide), pu_msr (by decide), a9]
  · rw [pu_msr (by decide), pu_msr (by decide), a10]
  · rw [pu_msr (by decide), pu_msr (by decide), a11]
  · rw [la_ms_self, la_ms_self, a12]
  · rw [pu_msr (by decide), pu_msr (by decide), a13]
  · rw [pu_msr (by decide), pu_msr (by decide), a14]
  · rw [pu_msr (by decide), pu_msr (by decide), a15]
  · rw [pu_msr (by decide), pu_msr (by decide), a16]
  · rw [pu_msr (μ := ν) (a := 0) (by decide), pu_msr (a := 4) (by decide), pu_msr (μ := μ) (a := 0) (by decide), pu_msr (a := 10) (by decide), pu_msr (a := 14) (by decide), pu_msr (a := 18) (by decide), pu_msr (a := 21) (by decide)]; exact hs
  · intro p i h1 h2; rw [pu_msr (by decide), pu_msr (by omega)]; exact hc p i h1 h2
  · intro p i h1 h2; rw [pu_msr (by decide), pu_msr (by omega)]; exact hb p i h1 h2
  · intro p h1; rw [pu_msr (by decide), pu_msr (by omega)]; exact hl p h1
  · intro p h1; rw [pu_msr (by decide), pu_msr (by omega)]; exact hz p h1
  · intro p i h1 h2; rw [pu_msr (by decide), pu_msr (by omega)]; exact hi p i h1 h2
theorem rw_barP {μ ν : la_Mem} (h : Rl μ ν) (j : Nat) (v : Int32) : Rl (la_ms μ 16 j v) (la_ms ν 15 j v) := by
  obtain ⟨⟨a0, a1, a2, a3, a4, a5, a6, a7, a8, a9, a10, a11, a12, a13, a14, a15, a16⟩, hs, hc, hb, hl, hz, hi⟩ := h
  refine ⟨⟨?_, ?_, ?_, ?_, ?_, ?_, ?_, ?_, ?_, ?_, ?_, ?_, ?_, ?_, ?_, ?_, ?_⟩, ?_, ?_, ?_, ?_, ?_, ?_⟩
  · rw [pu_msr (by decide), pu_msr (by decide), a0]
  · rw [pu_msr (by decide), pu_msr (by decide), a1]
  · rw [pu_msr (by decide), pu_msr (by decide), a2]
  · rw [pu_msr (by decide), pu_msr (by decide), a3]
  · rw [pu_msr (by decide), pu_msr (by decide), a4]
  · rw [pu_msr (by decide), pu_msr (by decide), a5]
  · rw [pu_msr (by decide), pu_msr (by decide), a6]
  · rw [pu_msr (by decide), pu_msr (by decide), a7]
  · rw [pu_msr (by decide), pu_msr (by decide), a8]
  · rw [pu_msr (by decide), pu_msr (by decide), a9]
  · rw [pu_msr (by decide), pu_msr (by decide), a10]
  · rw [pu_msr (by decide), pu_msr (by decide), a11]
  · rw [pu_msr (by decide), pu_msr (by decide), a12]
  · rw [la_ms_self, la_ms_self, a13]
  · rw [pu_msr (by decide), pu_msr (by decide), a14]
  · rw [pu_msr (by decide), pu_msr (by decide), a15]
  · rw [pu_msr (by decide), pu_msr (by decide), a16]
  · rw [pu_msr (μ := ν) (a := 0) (by decide), pu_msr (a := 4) (by decide), pu_msr (μ := μ) (a := 0) (by decide), pu_msr (a := 10) (by decide), pu_msr (a := 14) (by decide), pu_msr (a := 18) (by decide), pu_msr (a := 21) (by decide)]; exact hs
  · intro p i h1 h2; rw [pu_msr (by decide), pu_msr (by omega)]; exact hc p i h1 h2
  · intro p i h1 h2; rw [pu_msr (by decide), pu_msr (by omega)]; exact hb p i h1 h2
  · intro p h1; rw [pu_msr (by decide), pu_msr (by omega)]; exact hl p h1
  · intro p h1; rw [pu_msr (by decide), pu_msr (by omega)]; exact hz p h1
  · intro p i h1 h2; rw [pu_msr (by decide), pu_msr (by omega)]; exact hi p i h1 h2
theorem rw_barD {μ ν : la_Mem} (h : Rl μ ν) (j : Nat) (v : Int32) : Rl (la_ms μ 17 j v) (la_ms ν 16 j v) := by
  obtain ⟨⟨a0, a1, a2, a3, a4, a5, a6, a7, a8, a9, a10, a11, a12, a13, a14, a15, a16⟩, hs, hc, hb, hl, hz, hi⟩ := h
  refine ⟨⟨?_, ?_, ?_, ?_, ?_, ?_, ?_, ?_, ?_, ?_, ?_, ?_, ?_, ?_, ?_, ?_, ?_⟩, ?_, ?_, ?_, ?_, ?_, ?_⟩
  · rw [pu_msr (by decide), pu_msr (by decide), a0]
  · rw [pu_msr (by decide), pu_msr (by decide), a1]
  · rw [pu_msr (by decide), pu_msr (by decide), a2]
  · rw [pu_msr (by decide), pu_msr (by decide), a3]
  · rw [pu_msr (by decide), pu_msr (by decide), a4]
  · rw [pu_msr (by decide), pu_msr (by decide), a5]
  · rw [pu_msr (by decide), pu_msr (by decide), a6]
  · rw [pu_msr (by decide), pu_msr (by decide), a7]
  · rw [pu_msr (by decide), pu_msr (by decide), a8]
  · rw [pu_msr (by decide), pu_msr (by decide), a9]
  · rw [pu_msr (by decide), pu_msr (by decide), a10]
  · rw [pu_msr (by decide), pu_msr (by decide), a11]
  · rw [pu_msr (by decide), pu_msr (by decide), a12]
  · rw [pu_msr (by decide), pu_msr (by decide), a13]
  · rw [la_ms_self, la_ms_self, a14]
  · rw [pu_msr (by decide), pu_msr (by decide), a15]
  · rw [pu_msr (by decide), pu_msr (by decide), a16]
  · rw [pu_msr (μ := ν) (a := 0) (by decide), pu_msr (a := 4) (by decide), pu_msr (μ := μ) (a := 0) (by decide), pu_msr (a := 10) (by decide), pu_msr (a := 14) (by decide), pu_msr (a := 18) (by decide), pu_msr (a := 21) (by decide)]; exact hs
  · intro p i h1 h2; rw [pu_msr (by decide), pu_msr (by omega)]; exact hc p i h1 h2
  · intro p i h1 h2; rw [pu_msr (by decide), pu_msr (by omega)]; exact hb p i h1 h2
  · intro p h1; rw [pu_msr (by decide), pu_msr (by omega)]; exact hl p h1
  · intro p h1; rw [pu_msr (by decide), pu_msr (by omega)]; exact hz p h1
  · intro p i h1 h2; rw [pu_msr (by decide), pu_msr (by omega)]; exact hi p i h1 h2
theorem rw_slen {μ ν : la_Mem} (h : Rl μ ν) (j : Nat) (v : Int32) : Rl (la_ms μ 20 j v) (la_ms ν 17 j v) := by
  obtain ⟨⟨a0, a1, a2, a3, a4, a5, a6, a7, a8, a9, a10, a11, a12, a13, a14, a15, a16⟩, hs, hc, hb, hl, hz, hi⟩ := h
  refine ⟨⟨?_, ?_, ?_, ?_, ?_, ?_, ?_, ?_, ?_, ?_, ?_, ?_, ?_, ?_, ?_, ?_, ?_⟩, ?_, ?_, ?_, ?_, ?_, ?_⟩
  · rw [pu_msr (by decide), pu_msr (by decide), a0]
  · rw [pu_msr (by decide), pu_msr (by decide), a1]
  · rw [pu_msr (by decide), pu_msr (by decide), a2]
  · rw [pu_msr (by decide), pu_msr (by decide), a3]
  · rw [pu_msr (by decide), pu_msr (by decide), a4]
  · rw [pu_msr (by decide), pu_msr (by decide), a5]
  · rw [pu_msr (by decide), pu_msr (by decide), a6]
  · rw [pu_msr (by decide), pu_msr (by decide), a7]
  · rw [pu_msr (by decide), pu_msr (by decide), a8]
  · rw [pu_msr (by decide), pu_msr (by decide), a9]
  · rw [pu_msr (by decide), pu_msr (by decide), a10]
  · rw [pu_msr (by decide), pu_msr (by decide), a11]
  · rw [pu_msr (by decide), pu_msr (by decide), a12]
  · rw [pu_msr (by decide), pu_msr (by decide), a13]
  · rw [pu_msr (by decide), pu_msr (by decide), a14]
  · rw [la_ms_self, la_ms_self, a15]
  · rw [pu_msr (by decide), pu_msr (by decide), a16]
  · rw [pu_msr (μ := ν) (a := 0) (by decide), pu_msr (a := 4) (by decide), pu_msr (μ := μ) (a := 0) (by decide), pu_msr (a := 10) (by decide), pu_msr (a := 14) (by decide), pu_msr (a := 18) (by decide), pu_msr (a := 21) (by decide)]; exact hs
  · intro p i h1 h2; rw [pu_msr (by decide), pu_msr (by omega)]; exact hc p i h1 h2
  · intro p i h1 h2; rw [pu_msr (by decide), pu_msr (by omega)]; exact hb p i h1 h2
  · intro p h1; rw [pu_msr (by decide), pu_msr (by omega)]; exact hl p h1
  · intro p h1; rw [pu_msr (by decide), pu_msr (by omega)]; exact hz p h1
  · intro p i h1 h2; rw [pu_msr (by decide), pu_msr (by omega)]; exact hi p i h1 h2
theorem rw_tape {μ ν : la_Mem} (h : Rl μ ν) (j : Nat) (v : Int32) : Rl (la_ms μ 22 j v) (la_ms ν 21 j v) := by
  obtain ⟨⟨a0, a1, a2, a3, a4, a5, a6, a7, a8, a9, a10, a11, a12, a13, a14, a15, a16⟩, hs, hc, hb, hl, hz, hi⟩ := h
  refine ⟨⟨?_, ?_, ?_, ?_, ?_, ?_, ?_, ?_, ?_, ?_, ?_, ?_, ?_, ?_, ?_, ?_, ?_⟩, ?_, ?_, ?_, ?_, ?_, ?_⟩
  · rw [pu_msr (by decide), pu_msr (by decide), a0]
  · rw [pu_msr (by decide), pu_msr (by decide), a1]
  · rw [pu_msr (by decide), pu_msr (by decide), a2]
  · rw [pu_msr (by decide), pu_msr (by decide), a3]
  · rw [pu_msr (by decide), pu_msr (by decide), a4]
  · rw [pu_msr (by decide), pu_msr (by decide), a5]
  · rw [pu_msr (by decide), pu_msr (by decide), a6]
  · rw [pu_msr (by decide), pu_msr (by decide), a7]
  · rw [pu_msr (by decide), pu_msr (by decide), a8]
  · rw [pu_msr (by decide), pu_msr (by decide), a9]
  · rw [pu_msr (by decide), pu_msr (by decide), a10]
  · rw [pu_msr (by decide), pu_msr (by decide), a11]
  · rw [pu_msr (by decide), pu_msr (by decide), a12]
  · rw [pu_msr (by decide), pu_msr (by decide), a13]
  · rw [pu_msr (by decide), pu_msr (by decide), a14]
  · rw [pu_msr (by decide), pu_msr (by decide), a15]
  · rw [la_ms_self, la_ms_self, a16]
  · rw [pu_msr (μ := ν) (a := 0) (by decide), pu_msr (a := 4) (by decide), pu_msr (μ := μ) (a := 0) (by decide), pu_msr (a := 10) (by decide), pu_msr (a := 14) (by decide), pu_msr (a := 18) (by decide), pu_msr (a := 21) (by decide)]; exact hs
  · intro p i h1 h2; rw [pu_msr (by decide), pu_msr (by omega)]; exact hc p i h1 h2
  · intro p i h1 h2; rw [pu_msr (by decide), pu_msr (by omega)]; exact hb p i h1 h2
  · intro p h1; rw [pu_msr (by decide), pu_msr (by omega)]; exact hl p h1
  · intro p h1; rw [pu_msr (by decide), pu_msr (by omega)]; exact hz p h1
  · intro p i h1 h2; rw [pu_msr (by decide), pu_msr (by omega)]; exact hi p i h1 h2
theorem rw_moulds {μ ν : la_Mem} (h : Rl μ ν) (v : Int32) : Rl (la_ms μ 4 5 v) (la_ms ν 0 5 v) := by
  obtain ⟨⟨a0, a1, a2, a3, a4, a5, a6, a7, a8, a9, a10, a11, a12, a13, a14, a15, a16⟩, ⟨s0, s1, s2, s3, s4, s5, s6, s7, s8⟩, hc, hb, hl, hz, hi⟩ := h
  refine ⟨⟨?_, ?_, ?_, ?_, ?_, ?_, ?_, ?_, ?_, ?_, ?_, ?_, ?_, ?_, ?_, ?_, ?_⟩, ⟨?_, ?_, ?_, ?_, ?_, ?_, ?_, ?_, ?_⟩, ?_, ?_, ?_, ?_, ?_⟩
  · rw [pu_msr (by decide), pu_msr (by decide), a0]
  · rw [pu_msr (by decide), pu_msr (by decide), a1]
  · rw [pu_msr (by decide), pu_msr (by decide), a2]
  · rw [pu_msr (by decide), pu_msr (by decide), a3]
  · rw [pu_msr (by decide), pu_msr (by decide), a4]
  · rw [pu_msr (by decide), pu_msr (by decide), a5]
  · rw [pu_msr (by decide), pu_msr (by decide), a6]
  · rw [pu_msr (by decide), pu_msr (by decide), a7]
  · rw [pu_msr (by decide), pu_msr (by decide), a8]
  · rw [pu_msr (by decide), pu_msr (by decide), a9]
  · rw [pu_msr (by decide), pu_msr (by decide), a10]
  · rw [pu_msr (by decide), pu_msr (by decide), a11]
  · rw [pu_msr (by decide), pu_msr (by decide), a12]
  · rw [pu_msr (by decide), pu_msr (by decide), a13]
  · rw [pu_msr (by decide), pu_msr (by decide), a14]
  · rw [pu_msr (by decide), pu_msr (by decide), a15]
  · rw [pu_msr (by decide), pu_msr (by decide), a16]
  · rw [la_ms_self, la_ms_self]; rfl
  · simp only [pu_ms]; simpa using s1
  · simp only [pu_ms]; simpa using s2
  · simp only [pu_ms]; simpa using s3
  · simp only [pu_ms]; simpa using s4
  · simp only [pu_ms]; simpa using s5
  · simp only [pu_ms]; simpa using s6
  · simp only [pu_ms]; simpa using s7
  · simp only [pu_ms]; simpa using s8
  · intro p i h1 h2; rw [pu_msr (by decide), pu_msr (by omega)]; exact hc p i h1 h2
  · intro p i h1 h2; rw [pu_msr (by decide), pu_msr (by omega)]; exact hb p i h1 h2
  · intro p h1; rw [pu_msr (by decide), pu_msr (by omega)]; exact hl p h1
  · intro p h1; rw [pu_msr (by decide), pu_msr (by omega)]; exact hz p h1
  · intro p i h1 h2; rw [pu_msr (by decide), pu_msr (by omega)]; exact hi p i h1 h2
theorem rw_now {μ ν : la_Mem} (h : Rl μ ν) (v : Int32) : Rl (la_ms μ 0 11 v) (la_ms ν 0 11 v) := by
  obtain ⟨⟨a0, a1, a2, a3, a4, a5, a6, a7, a8, a9, a10, a11, a12, a13, a14, a15, a16⟩, ⟨s0, s1, s2, s3, s4, s5, s6, s7, s8⟩, hc, hb, hl, hz, hi⟩ := h
  refine ⟨⟨?_, ?_, ?_, ?_, ?_, ?_, ?_, ?_, ?_, ?_, ?_, ?_, ?_, ?_, ?_, ?_, ?_⟩, ⟨?_, ?_, ?_, ?_, ?_, ?_, ?_, ?_, ?_⟩, ?_, ?_, ?_, ?_, ?_⟩
  · rw [pu_msr (by decide), pu_msr (by decide), a0]
  · rw [pu_msr (by decide), pu_msr (by decide), a1]
  · rw [pu_msr (by decide), pu_msr (by decide), a2]
  · rw [pu_msr (by decide), pu_msr (by decide), a3]
  · rw [pu_msr (by decide), pu_msr (by decide), a4]
  · rw [pu_msr (by decide), pu_msr (by decide), a5]
  · rw [pu_msr (by decide), pu_msr (by decide), a6]
  · rw [pu_msr (by decide), pu_msr (by decide), a7]
  · rw [pu_msr (by decide), pu_msr (by decide), a8]
  · rw [pu_msr (by decide), pu_msr (by decide), a9]
  · rw [pu_msr (by decide), pu_msr (by decide), a10]
  · rw [pu_msr (by decide), pu_msr (by decide), a11]
  · rw [pu_msr (by decide), pu_msr (by decide), a12]
  · rw [pu_msr (by decide), pu_msr (by decide), a13]
  · rw [pu_msr (by decide), pu_msr (by decide), a14]
  · rw [pu_msr (by decide), pu_msr (by decide), a15]
  · rw [pu_msr (by decide), pu_msr (by decide), a16]
  · simp only [pu_ms]; simpa using s0
  · rw [la_ms_self, la_ms_self]; rfl
  · simp only [pu_ms]; simpa using s2
  · simp only [pu_ms]; simpa using s3
  · simp only [pu_ms]; simpa using s4
  · simp only [pu_ms]; simpa using s5
  · simp only [pu_ms]; simpa using s6
  · simp only [pu_ms]; simpa using s7
  · simp only [pu_ms]; simpa using s8
  · intro p i h1 h2; rw [pu_msr (by decide), pu_msr (by omega)]; exact hc p i h1 h2
  · intro p i h1 h2; rw [pu_msr (by decide), pu_msr (by omega)]; exact hb p i h1 h2
  · intro p h1; rw [pu_msr (by decide), pu_msr (by omega)]; exact hl p h1
  · intro p h1; rw [pu_msr (by decide), pu_msr (by omega)]; exact hz p h1
  · intro p i h1 h2; rw [pu_msr (by decide), pu_msr (by omega)]; exact hi p i h1 h2
theorem rw_come {μ ν : la_Mem} (h : Rl μ ν) (v : Int32) : Rl (la_ms μ 10 3 v) (la_ms ν 0 12 v) := by
  obtain ⟨⟨a0, a1, a2, a3, a4, a5, a6, a7, a8, a9, a10, a11, a12, a13, a14, a15, a16⟩, ⟨s0, s1, s2, s3, s4, s5, s6, s7, s8⟩, hc, hb, hl, hz, hi⟩ := h
  refine ⟨⟨?_, ?_, ?_, ?_, ?_, ?_, ?_, ?_, ?_, ?_, ?_, ?_, ?_, ?_, ?_, ?_, ?_⟩, ⟨?_, ?_, ?_, ?_, ?_, ?_, ?_, ?_, ?_⟩, ?_, ?_, ?_, ?_, ?_⟩
  · rw [pu_msr (by decide), pu_msr (by decide), a0]
  · rw [pu_msr (by decide), pu_msr (by decide), a1]
  · rw [pu_msr (by decide), pu_msr (by decide), a2]
  · rw [pu_msr (by decide), pu_msr (by decide), a3]
  · rw [pu_msr (by decide), pu_msr (by decide), a4]
  · rw [pu_msr (by decide), pu_msr (by decide), a5]
  · rw [pu_msr (by decide), pu_msr (by decide), a6]
  · rw [pu_msr (by decide), pu_msr (by decide), a7]
  · rw [pu_msr (by decide), pu_msr (by decide), a8]
  · rw [pu_msr (by decide), pu_msr (by decide), a9]
  · rw [pu_msr (by decide), pu_msr (by decide), a10]
  · rw [pu_msr (by decide), pu_msr (by decide), a11]
  · rw [pu_msr (by decide), pu_msr (by decide), a12]
  · rw [pu_msr (by decide), pu_msr (by decide), a13]
  · rw [pu_msr (by decide), pu_msr (by decide), a14]
  · rw [pu_msr (by decide), pu_msr (by decide), a15]
  · rw [pu_msr (by decide), pu_msr (by decide), a16]
  · simp only [pu_ms]; simpa using s0
  · simp only [pu_ms]; simpa using s1
  · rw [la_ms_self, la_ms_self]; rfl
  · simp only [pu_ms]; simpa using s3
  · simp only [pu_ms]; simpa using s4
  · simp only [pu_ms]; simpa using s5
  · simp only [pu_ms]; simpa using s6
  · simp only [pu_ms]; simpa using s7
  · simp only [pu_ms]; simpa using s8
  · intro p i h1 h2; rw [pu_msr (by decide), pu_msr (by omega)]; exact hc p i h1 h2
  · intro p i h1 h2; rw [pu_msr (by decide), pu_msr (by omega)]; exact hb p i h1 h2
  · intro p h1; rw [pu_msr (by decide), pu_msr (by omega)]; exact hl p h1
  · intro p h1; rw [pu_msr (by decide), pu_msr (by omega)]; exact hz p h1
  · intro p i h1 h2; rw [pu_msr (by decide), pu_msr (by omega)]; exact hi p i h1 h2
theorem rw_falling {μ ν : la_Mem} (h : Rl μ ν) (v : Int32) : Rl (la_ms μ 10 4 v) (la_ms ν 0 14 v) := by
  obtain ⟨⟨a0, a1, a2, a3, a4, a5, a6, a7, a8, a9, a10, a11, a12, a13, a14, a15, a16⟩, ⟨s0, s1, s2, s3, s4, s5, s6, s7, s8⟩, hc, hb, hl, hz, hi⟩ := h
  refine ⟨⟨?_, ?_, ?_, ?_, ?_, ?_, ?_, ?_, ?_, ?_, ?_, ?_, ?_, ?_, ?_, ?_, ?_⟩, ⟨?_, ?_, ?_, ?_, ?_, ?_, ?_, ?_, ?_⟩, ?_, ?_, ?_, ?_, ?_⟩
  · rw [pu_msr (by decide), pu_msr (by decide), a0]
  · rw [pu_msr (by decide), pu_msr (by decide), a1]
  · rw [pu_msr (by decide), pu_msr (by decide), a2]
  · rw [pu_msr (by decide), pu_msr (by decide), a3]
  · rw [pu_msr (by decide), pu_msr (by decide), a4]
  · rw [pu_msr (by decide), pu_msr (by decide), a5]
  · rw [pu_msr (by decide), pu_msr (by decide), a6]
  · rw [pu_msr (by decide), pu_msr (by decide), a7]
  · rw [pu_msr (by decide), pu_msr (by decide), a8]
  · rw [pu_msr (by decide), pu_msr (by decide), a9]
  · rw [pu_msr (by decide), pu_msr (by decide), a10]
  · rw [pu_msr (by decide), pu_msr (by decide), a11]
  · rw [pu_msr (by decide), pu_msr (by decide), a12]
  · rw [pu_msr (by decide), pu_msr (by decide), a13]
  · rw [pu_msr (by decide), pu_msr (by decide), a14]
  · rw [pu_msr (by decide), pu_msr (by decide), a15]
  · rw [pu_msr (by decide), pu_msr (by decide), a16]
  · simp only [pu_ms]; simpa using s0
  · simp only [pu_ms]; simpa using s1
  · simp only [pu_ms]; simpa using s2
  · rw [la_ms_self, la_ms_self]; rfl
  · simp only [pu_ms]; simpa using s4
  · simp only [pu_ms]; simpa using s5
  · simp only [pu_ms]; simpa using s6
  · simp only [pu_ms]; simpa using s7
  · simp only [pu_ms]; simpa using s8
  · intro p i h1 h2; rw [pu_msr (by decide), pu_msr (by omega)]; exact hc p i h1 h2
  · intro p i h1 h2; rw [pu_msr (by decide), pu_msr (by omega)]; exact hb p i h1 h2
  · intro p h1; rw [pu_msr (by decide), pu_msr (by omega)]; exact hl p h1
  · intro p h1; rw [pu_msr (by decide), pu_msr (by omega)]; exact hz p h1
  · intro p i h1 h2; rw [pu_msr (by decide), pu_msr (by omega)]; exact hi p i h1 h2
theorem rw_bands {μ ν : la_Mem} (h : Rl μ ν) (v : Int32) : Rl (la_ms μ 10 5 v) (la_ms ν 0 17 v) := by
  obtain ⟨⟨a0, a1, a2, a3, a4, a5, a6, a7, a8, a9, a10, a11, a12, a13, a14, a15, a16⟩, ⟨s0, s1, s2, s3, s4, s5, s6, s7, s8⟩, hc, hb, hl, hz, hi⟩ := h
  refine ⟨⟨?_, ?_, ?_, ?_, ?_, ?_, ?_, ?_, ?_, ?_, ?_, ?_, ?_, ?_, ?_, ?_, ?_⟩, ⟨?_, ?_, ?_, ?_, ?_, ?_, ?_, ?_, ?_⟩, ?_, ?_, ?_, ?_, ?_⟩
  · rw [pu_msr (by decide), pu_msr (by decide), a0]
  · rw [pu_msr (by decide), pu_msr (by decide), a1]
  · rw [pu_msr (by decide), pu_msr (by decide), a2]
  · rw [pu_msr (by decide), pu_msr (by decide), a3]
  · rw [pu_msr (by decide), pu_msr (by decide), a4]
  · rw [pu_msr (by decide), pu_msr (by decide), a5]
  · rw [pu_msr (by decide), pu_msr (by decide), a6]
  · rw [pu_msr (by decide), pu_msr (by decide), a7]
  · rw [pu_msr (by decide), pu_msr (by decide), a8]
  · rw [pu_msr (by decide), pu_msr (by decide), a9]
  · rw [pu_msr (by decide), pu_msr (by decide), a10]
  · rw [pu_msr (by decide), pu_msr (by decide), a11]
  · rw [pu_msr (by decide), pu_msr (by decide), a12]
  · rw [pu_msr (by decide), pu_msr (by decide), a13]
  · rw [pu_msr (by decide), pu_msr (by decide), a14]
  · rw [pu_msr (by decide), pu_msr (by decide), a15]
  · rw [pu_msr (by decide), pu_msr (by decide), a16]
  · simp only [pu_ms]; simpa using s0
  · simp only [pu_ms]; simpa using s1
  · simp only [pu_ms]; simpa using s2
  · simp only [pu_ms]; simpa using s3
  · rw [la_ms_self, la_ms_self]; rfl
  · simp only [pu_ms]; simpa using s5
  · simp only [pu_ms]; simpa using s6
  · simp only [pu_ms]; simpa using s7
  · simp only [pu_ms]; simpa using s8
  · intro p i h1 h2; rw [pu_msr (by decide), pu_msr (by omega)]; exact hc p i h1 h2
  · intro p i h1 h2; rw [pu_msr (by decide), pu_msr (by omega)]; exact hb p i h1 h2
  · intro p h1; rw [pu_msr (by decide), pu_msr (by omega)]; exact hl p h1
  · intro p h1; rw [pu_msr (by decide), pu_msr (by omega)]; exact hz p h1
  · intro p i h1 h2; rw [pu_msr (by decide), pu_msr (by omega)]; exact hi p i h1 h2
theorem rw_hanging {μ ν : la_Mem} (h : Rl μ ν) (v : Int32) : Rl (la_ms μ 14 3 v) (la_ms ν 0 18 v) := by
  obtain ⟨⟨a0, a1, a2, a3, a4, a5, a6, a7, a8, a9, a10, a11, a12, a13, a14, a15, a16⟩, ⟨s0, s1, s2, s3, s4, s5, s6, s7, s8⟩, hc, hb, hl, hz, hi⟩ := h
  refine ⟨⟨?_, ?_, ?_, ?_, ?_, ?_, ?_, ?_, ?_, ?_, ?_, ?_, ?_, ?_, ?_, ?_, ?_⟩, ⟨?_, ?_, ?_, ?_, ?_, ?_, ?_, ?_, ?_⟩, ?_, ?_, ?_, ?_, ?_⟩
  · rw [pu_msr (by decide), pu_msr (by decide), a0]
  · rw [pu_msr (by decide), pu_msr (by decide), a1]
  · rw [pu_msr (by decide), pu_msr (by decide), a2]
  · rw [pu_msr (by decide), pu_msr (by decide), a3]
  · rw [pu_msr (by decide), pu_msr (by decide), a4]
  · rw [pu_msr (by decide), pu_msr (by decide), a5]
  · rw [pu_msr (by decide), pu_msr (by decide), a6]
  · rw [pu_msr (by decide), pu_msr (by decide), a7]
  · rw [pu_msr (by decide), pu_msr (by decide), a8]
  · rw [pu_msr (by decide), pu_msr (by decide), a9]
  · rw [pu_msr (by decide), pu_msr (by decide), a10]
  · rw [pu_msr (by decide), pu_msr (by decide), a11]
  · rw [pu_msr (by decide), pu_msr (by decide), a12]
  · rw [pu_msr (by decide), pu_msr (by decide), a13]
  · rw [pu_msr (by decide), pu_msr (by decide), a14]
  · rw [pu_msr (by decide), pu_msr (by decide), a15]
  · rw [pu_msr (by decide), pu_msr (by decide), a16]
  · simp only [pu_ms]; simpa using s0
  · simp only [pu_ms]; simpa using s1
  · simp only [pu_ms]; simpa using s2
  · simp only [pu_ms]; simpa using s3
  · simp only [pu_ms]; simpa using s4
  · rw [la_ms_self, la_ms_self]; rfl
  · simp only [pu_ms]; simpa using s6
  · simp only [pu_ms]; simpa using s7
  · simp only [pu_ms]; simpa using s8
  · intro p i h1 h2; rw [pu_msr (by decide), pu_msr (by omega)]; exact hc p i h1 h2
  · intro p i h1 h2; rw [pu_msr (by decide), pu_msr (by omega)]; exact hb p i h1 h2
  · intro p h1; rw [pu_msr (by decide), pu_msr (by omega)]; exact hl p h1
  · intro p h1; rw [pu_msr (by decide), pu_msr (by omega)]; exact hz p h1
  · intro p i h1 h2; rw [pu_msr (by decide), pu_msr (by omega)]; exact hi p i h1 h2
theorem rw_jammed {μ ν : la_Mem} (h : Rl μ ν) (v : Int32) : Rl (la_ms μ 14 4 v) (la_ms ν 0 22 v) := by
  obtain ⟨⟨a0, a1, a2, a3, a4, a5, a6, a7, a8, a9, a10, a11, a12, a13, a14, a15, a16⟩, ⟨s0, s1, s2, s3, s4, s5, s6, s7, s8⟩, hc, hb, hl, hz, hi⟩ := h
  refine ⟨⟨?_, ?_, ?_, ?_, ?_, ?_, ?_, ?_, ?_, ?_, ?_, ?_, ?_, ?_, ?_, ?_, ?_⟩, ⟨?_, ?_, ?_, ?_, ?_, ?_, ?_, ?_, ?_⟩, ?_, ?_, ?_, ?_, ?_⟩
  · rw [pu_msr (by decide), pu_msr (by decide), a0]
  · rw [pu_msr (by decide), pu_msr (by decide), a1]
  · rw [pu_msr (by decide), pu_msr (by decide), a2]
  · rw [pu_msr (by decide), pu_msr (by decide), a3]
  · rw [pu_msr (by decide), pu_msr (by decide), a4]
  · rw [pu_msr (by decide), pu_msr (by decide), a5]
  · rw [pu_msr (by decide), pu_msr (by decide), a6]
  · rw [pu_msr (by decide), pu_msr (by decide), a7]
  · rw [pu_msr (by decide), pu_msr (by decide), a8]
  · rw [pu_msr (by decide), pu_msr (by decide), a9]
  · rw [pu_msr (by decide), pu_msr (by decide), a10]
  · rw [pu_msr (by decide), pu_msr (by decide), a11]
  · rw [pu_msr (by decide), pu_msr (by decide), a12]
  · rw [pu_msr (by decide), pu_msr (by decide), a13]
  · rw [pu_msr (by decide), pu_msr (by decide), a14]
  · rw [pu_msr (by decide), pu_msr (by decide), a15]
  · rw [pu_msr (by decide), pu_msr (by decide), a16]
  · simp only [pu_ms]; simpa using s0
  · simp only [pu_ms]; simpa using s1
  · simp only [pu_ms]; simpa using s2
  · simp only [pu_ms]; simpa using s3
  · simp only [pu_ms]; simpa using s4
  · simp only [pu_ms]; simpa using s5
  · rw [la_ms_self, la_ms_self]; rfl
  · simp only [pu_ms]; simpa using s7
  · simp only [pu_ms]; simpa using s8
  · intro p i h1 h2; rw [pu_msr (by decide), pu_msr (by omega)]; exact hc p i h1 h2
  · intro p i h1 h2; rw [pu_msr (by decide), pu_msr (by omega)]; exact hb p i h1 h2
  · intro p h1; rw [pu_msr (by decide), pu_msr (by omega)]; exact hl p h1
  · intro p h1; rw [pu_msr (by decide), pu_msr (by omega)]; exact hz p h1
  · intro p i h1 h2; rw [pu_msr (by decide), pu_msr (by omega)]; exact hi p i h1 h2
theorem rw_slugs {μ ν : la_Mem} (h : Rl μ ν) (v : Int32) : Rl (la_ms μ 18 2 v) (la_ms ν 0 23 v) := by
  obtain ⟨⟨a0, a1, a2, a3, a4, a5, a6, a7, a8, a9, a10, a11, a12, a13, a14, a15, a16⟩, ⟨s0, s1, s2, s3, s4, s5, s6, s7, s8⟩, hc, hb, hl, hz, hi⟩ := h
  refine ⟨⟨?_, ?_, ?_, ?_, ?_, ?_, ?_, ?_, ?_, ?_, ?_, ?_, ?_, ?_, ?_, ?_, ?_⟩, ⟨?_, ?_, ?_, ?_, ?_, ?_, ?_, ?_, ?_⟩, ?_, ?_, ?_, ?_, ?_⟩
  · rw [pu_msr (by decide), pu_msr (by decide), a0]
  · rw [pu_msr (by decide), pu_msr (by decide), a1]
  · rw [pu_msr (by decide), pu_msr (by decide), a2]
  · rw [pu_msr (by decide), pu_msr (by decide), a3]
  · rw [pu_msr (by decide), pu_msr (by decide), a4]
  · rw [pu_msr (by decide), pu_msr (by decide), a5]
  · rw [pu_msr (by decide), pu_msr (by decide), a6]
  · rw [pu_msr (by decide), pu_msr (by decide), a7]
  · rw [pu_msr (by decide), pu_msr (by decide), a8]
  · rw [pu_msr (by decide), pu_msr (by decide), a9]
  · rw [pu_msr (by decide), pu_msr (by decide), a10]
  · rw [pu_msr (by decide), pu_msr (by decide), a11]
  · rw [pu_msr (by decide), pu_msr (by decide), a12]
  · rw [pu_msr (by decide), pu_msr (by decide), a13]
  · rw [pu_msr (by decide), pu_msr (by decide), a14]
  · rw [pu_msr (by decide), pu_msr (by decide), a15]
  · rw [pu_msr (by decide), pu_msr (by decide), a16]
  · simp only [pu_ms]; simpa using s0
  · simp only [pu_ms]; simpa using s1
  · simp only [pu_ms]; simpa using s2
  · simp only [pu_ms]; simpa using s3
  · simp only [pu_ms]; simpa using s4
  · simp only [pu_ms]; simpa using s5
  · simp only [pu_ms]; simpa using s6
  · rw [la_ms_self, la_ms_self]; rfl
  · simp only [pu_ms]; simpa using s8
  · intro p i h1 h2; rw [pu_msr (by decide), pu_msr (by omega)]; exact hc p i h1 h2
  · intro p i h1 h2; rw [pu_msr (by decide), pu_msr (by omega)]; exact hb p i h1 h2
  · intro p h1; rw [pu_msr (by decide), pu_msr (by omega)]; exact hl p h1
  · intro p h1; rw [pu_msr (by decide), pu_msr (by omega)]; exact hz p h1
  · intro p i h1 h2; rw [pu_msr (by decide), pu_msr (by omega)]; exact hi p i h1 h2
theorem rw_taped {μ ν : la_Mem} (h : Rl μ ν) (v : Int32) : Rl (la_ms μ 21 1 v) (la_ms ν 0 29 v) := by
  obtain ⟨⟨a0, a1, a2, a3, a4, a5, a6, a7, a8, a9, a10, a11, a12, a13, a14, a15, a16⟩, ⟨s0, s1, s2, s3, s4, s5, s6, s7, s8⟩, hc, hb, hl, hz, hi⟩ := h
  refine ⟨⟨?_, ?_, ?_, ?_, ?_, ?_, ?_, ?_, ?_, ?_, ?_, ?_, ?_, ?_, ?_, ?_, ?_⟩, ⟨?_, ?_, ?_, ?_, ?_, ?_, ?_, ?_, ?_⟩, ?_, ?_, ?_, ?_, ?_⟩
  · rw [pu_msr (by decide), pu_msr (by decide), a0]
  · rw [pu_msr (by decide), pu_msr (by decide), a1]
  · rw [pu_msr (by decide), pu_msr (by decide), a2]
  · rw [pu_msr (by decide), pu_msr (by decide), a3]
  · rw [pu_msr (by decide), pu_msr (by decide), a4]
  · rw [pu_msr (by decide), pu_msr (by decide), a5]
  · rw [pu_msr (by decide), pu_msr (by decide), a6]
  · rw [pu_msr (by decide), pu_msr (by decide), a7]
  · rw [pu_msr (by decide), pu_msr (by decide), a8]
  · rw [pu_msr (by decide), pu_msr (by decide), a9]
  · rw [pu_msr (by decide), pu_msr (by decide), a10]
  · rw [pu_msr (by decide), pu_msr (by decide), a11]
  · rw [pu_msr (by decide), pu_msr (by decide), a12]
  · rw [pu_msr (by decide), pu_msr (by decide), a13]
  · rw [pu_msr (by decide), pu_msr (by decide), a14]
  · rw [pu_msr (by decide), pu_msr (by decide), a15]
  · rw [pu_msr (by decide), pu_msr (by decide), a16]
  · simp only [pu_ms]; simpa using s0
  · simp only [pu_ms]; simpa using s1
  · simp only [pu_ms]; simpa using s2
  · simp only [pu_ms]; simpa using s3
  · simp only [pu_ms]; simpa using s4
  · simp only [pu_ms]; simpa using s5
  · simp only [pu_ms]; simpa using s6
  · simp only [pu_ms]; simpa using s7
  · rw [la_ms_self, la_ms_self]; rfl
  · intro p i h1 h2; rw [pu_msr (by decide), pu_msr (by omega)]; exact hc p i h1 h2
  · intro p i h1 h2; rw [pu_msr (by decide), pu_msr (by omega)]; exact hb p i h1 h2
  · intro p h1; rw [pu_msr (by decide), pu_msr (by omega)]; exact hl p h1
  · intro p h1; rw [pu_msr (by decide), pu_msr (by omega)]; exact hz p h1
  · intro p i h1 h2; rw [pu_msr (by decide), pu_msr (by omega)]; exact hi p i h1 h2
theorem rw_chan {μ ν : la_Mem} (h : Rl μ ν) {q j : Nat} (hq : q < 12) (hj : j < 8) (v : Int32) : Rl (la_ms μ (36 + q) j v) (la_ms ν 10 (8 * q + j) v) := by
  obtain ⟨⟨a0, a1, a2, a3, a4, a5, a6, a7, a8, a9, a10, a11, a12, a13, a14, a15, a16⟩, hs, hc, hb, hl, hz, hi⟩ := h
  refine ⟨⟨?_, ?_, ?_, ?_, ?_, ?_, ?_, ?_, ?_, ?_, ?_, ?_, ?_, ?_, ?_, ?_, ?_⟩, ?_, ?_, ?_, ?_, ?_, ?_⟩
  · rw [pu_msr (by decide), pu_msr (by omega), a0]
  · rw [pu_msr (by decide), pu_msr (by omega), a1]
  · rw [pu_msr (by decide), pu_msr (by omega), a2]
  · rw [pu_msr (by decide), pu_msr (by omega), a3]
  · rw [pu_msr (by decide), pu_msr (by omega), a4]
  · rw [pu_msr (by decide), pu_msr (by omega), a5]
  · rw [pu_msr (by decide), pu_msr (by omega), a6]
  · rw [pu_msr (by decide), pu_msr (by omega), a7]
  · rw [pu_msr (by decide), pu_msr (by omega), a8]
  · rw [pu_msr (by decide), pu_msr (by omega), a9]
  · rw [pu_msr (by decide), pu_msr (by omega), a10]
  · rw [pu_msr (by decide), pu_msr (by omega), a11]
  · rw [pu_msr (by decide), pu_msr (by omega), a12]
  · rw [pu_msr (by decide), pu_msr (by omega), a13]
  · rw [pu_msr (by decide), pu_msr (by omega), a14]
  · rw [pu_msr (by decide), pu_msr (by omega), a15]
  · rw [pu_msr (by decide), pu_msr (by omega), a16]
  · rw [pu_msr (μ := ν) (a := 0) (by decide), pu_msr (a := 4) (by omega), pu_msr (μ := μ) (a := 0) (by omega), pu_msr (a := 10) (by omega), pu_msr (a := 14) (by omega), pu_msr (a := 18) (by omega), pu_msr (a := 21) (by omega)]; exact hs
  · intro p i h1 h2
    rw [pu_ms, pu_ms, if_pos rfl]
    by_cases hp : p = q
    · subst hp
      rw [if_pos rfl]
      by_cases he : i = j
      · subst he; rw [if_pos rfl, if_pos rfl]
      · rw [if_neg (by omega), if_neg he]; exact hc p i h1 h2
    · rw [if_neg (show ¬ 8 * p + i = 8 * q + j by omega), if_neg (by omega)]; exact hc p i h1 h2
  · intro p i h1 h2; rw [pu_msr (by decide), pu_msr (by omega)]; exact hb p i h1 h2
  · intro p h1; rw [pu_msr (by decide), pu_msr (by omega)]; exact hl p h1
  · intro p h1; rw [pu_msr (by decide), pu_msr (by omega)]; exact hz p h1
  · intro p i h1 h2; rw [pu_msr (by decide), pu_msr (by omega)]; exact hi p i h1 h2
theorem rw_sbytes {μ ν : la_Mem} (h : Rl μ ν) {q j : Nat} (hq : q < 40) (hj : j < 24) (v : Int32) : Rl (la_ms μ (48 + q) j v) (la_ms ν 18 (24 * q + j) v) := by
  obtain ⟨⟨a0, a1, a2, a3, a4, a5, a6, a7, a8, a9, a10, a11, a12, a13, a14, a15, a16⟩, hs, hc, hb, hl, hz, hi⟩ := h
  refine ⟨⟨?_, ?_, ?_, ?_, ?_, ?_, ?_, ?_, ?_, ?_, ?_, ?_, ?_, ?_, ?_, ?_, ?_⟩, ?_, ?_, ?_, ?_, ?_, ?_⟩
  · rw [pu_msr (by decide), pu_msr (by omega), a0]
  · rw [pu_msr (by decide), pu_msr (by omega), a1]
  · rw [pu_msr (by decide), pu_msr (by omega), a2]
  · rw [pu_msr (by decide), pu_msr (by omega), a3]
  · rw [pu_msr (by decide), pu_msr (by omega), a4]
  · rw [pu_msr (by decide), pu_msr (by omega), a5]
  · rw [pu_msr (by decide), pu_msr (by omega), a6]
  · rw [pu_msr (by decide), pu_msr (by omega), a7]
  · rw [pu_msr (by decide), pu_msr (by omega), a8]
  · rw [pu_msr (by decide), pu_msr (by omega), a9]
  · rw [pu_msr (by decide), pu_msr (by omega), a10]
  · rw [pu_msr (by decide), pu_msr (by omega), a11]
  · rw [pu_msr (by decide), pu_msr (by omega), a12]
  · rw [pu_msr (by decide), pu_msr (by omega), a13]
  · rw [pu_msr (by decide), pu_msr (by omega), a14]
  · rw [pu_msr (by decide), pu_msr (by omega), a15]
  · rw [pu_msr (by decide), pu_msr (by omega), a16]
  · rw [pu_msr (μ := ν) (a := 0) (by decide), pu_msr (a := 4) (by omega), pu_msr (μ := μ) (a := 0) (by omega), pu_msr (a := 10) (by omega), pu_msr (a := 14) (by omega), pu_msr (a := 18) (by omega), pu_msr (a := 21) (by omega)]; exact hs
  · intro p i h1 h2; rw [pu_msr (by decide), pu_msr (by omega)]; exact hc p i h1 h2
  · intro p i h1 h2
    rw [pu_ms, pu_ms, if_pos rfl]
    by_cases hp : p = q
    · subst hp
      rw [if_pos rfl]
      by_cases he : i = j
      · subst he; rw [if_pos rfl, if_pos rfl]
      · rw [if_neg (by omega), if_neg he]; exact hb p i h1 h2
    · rw [if_neg (show ¬ 24 * p + i = 24 * q + j by omega), if_neg (by omega)]; exact hb p i h1 h2
  · intro p h1; rw [pu_msr (by decide), pu_msr (by omega)]; exact hl p h1
  · intro p h1; rw [pu_msr (by decide), pu_msr (by omega)]; exact hz p h1
  · intro p i h1 h2; rw [pu_msr (by decide), pu_msr (by omega)]; exact hi p i h1 h2
theorem rw_item {μ ν : la_Mem} (h : Rl μ ν) {q j : Nat} (hq : q < 4) (hj : j < 40) (v : Int32) : Rl (la_ms μ (28 + q + 4) j v) (la_ms ν 24 (40 * q + j) v) := by
  obtain ⟨⟨a0, a1, a2, a3, a4, a5, a6, a7, a8, a9, a10, a11, a12, a13, a14, a15, a16⟩, hs, hc, hb, hl, hz, hi⟩ := h
  refine ⟨⟨?_, ?_, ?_, ?_, ?_, ?_, ?_, ?_, ?_, ?_, ?_, ?_, ?_, ?_, ?_, ?_, ?_⟩, ?_, ?_, ?_, ?_, ?_, ?_⟩
  · rw [pu_msr (by decide), pu_msr (by omega), a0]
  · rw [pu_msr (by decide), pu_msr (by omega), a1]
  · rw [pu_msr (by decide), pu_msr (by omega), a2]
  · rw [pu_msr (by decide), pu_msr (by omega), a3]
  · rw [pu_msr (by decide), pu_msr (by omega), a4]
  · rw [pu_msr (by decide), pu_msr (by omega), a5]
  · rw [pu_msr (by decide), pu_msr (by omega), a6]
  · rw [pu_msr (by decide), pu_msr (by omega), a7]
  · rw [pu_msr (by decide), pu_msr (by omega), a8]
  · rw [pu_msr (by decide), pu_msr (by omega), a9]
  · rw [pu_msr (by decide), pu_msr (by omega), a10]
  · rw [pu_msr (by decide), pu_msr (by omega), a11]
  · rw [pu_msr (by decide), pu_msr (by omega), a12]
  · rw [pu_msr (by decide), pu_msr (by omega), a13]
  · rw [pu_msr (by decide), pu_msr (by omega), a14]
  · rw [pu_msr (by decide), pu_msr (by omega), a15]
  · rw [pu_msr (by decide), pu_msr (by omega), a16]
  · rw [pu_msr (μ := ν) (a := 0) (by decide), pu_msr (a := 4) (by omega), pu_msr (μ := μ) (a := 0) (by omega), pu_msr (a := 10) (by omega), pu_msr (a := 14) (by omega), pu_msr (a := 18) (by omega), pu_msr (a := 21) (by omega)]; exact hs
  · intro p i h1 h2; rw [pu_msr (by decide), pu_msr (by omega)]; exact hc p i h1 h2
  · intro p i h1 h2; rw [pu_msr (by decide), pu_msr (by omega)]; exact hb p i h1 h2
  · intro p h1; rw [pu_msr (by decide), pu_msr (by omega)]; exact hl p h1
  · intro p h1; rw [pu_msr (by decide), pu_msr (by omega)]; exact hz p h1
  · intro p i h1 h2
    rw [pu_ms, pu_ms, if_pos rfl]
    by_cases hp : p = q
    · subst hp
      rw [if_pos rfl]
      by_cases he : i = j
      · subst he; rw [if_pos rfl, if_pos rfl]
      · rw [if_neg (by omega), if_neg he]; exact hi p i h1 h2
    · rw [if_neg (show ¬ 40 * p + i = 40 * q + j by omega), if_neg (by omega)]; exact hi p i h1 h2
theorem rw_rr {μ ν : la_Mem} (h : Rl μ ν) (j : Nat) (v : Int32) : Rl (la_ms μ 27 j v) (ν) := by
  obtain ⟨⟨a0, a1, a2, a3, a4, a5, a6, a7, a8, a9, a10, a11, a12, a13, a14, a15, a16⟩, hs, hc, hb, hl, hz, hi⟩ := h
  refine ⟨⟨?_, ?_, ?_, ?_, ?_, ?_, ?_, ?_, ?_, ?_, ?_, ?_, ?_, ?_, ?_, ?_, ?_⟩, ?_, ?_, ?_, ?_, ?_, ?_⟩
  · rw [pu_msr (by decide), a0]
  · rw [pu_msr (by decide), a1]
  · rw [pu_msr (by decide), a2]
  · rw [pu_msr (by decide), a3]
  · rw [pu_msr (by decide), a4]
  · rw [pu_msr (by decide), a5]
  · rw [pu_msr (by decide), a6]
  · rw [pu_msr (by decide), a7]
  · rw [pu_msr (by decide), a8]
  · rw [pu_msr (by decide), a9]
  · rw [pu_msr (by decide), a10]
  · rw [pu_msr (by decide), a11]
  · rw [pu_msr (by decide), a12]
  · rw [pu_msr (by decide), a13]
  · rw [pu_msr (by decide), a14]
  · rw [pu_msr (by decide), a15]
  · rw [pu_msr (by decide), a16]
  · rw [pu_msr (a := 4) (by decide), pu_msr (μ := μ) (a := 0) (by decide), pu_msr (a := 10) (by decide), pu_msr (a := 14) (by decide), pu_msr (a := 18) (by decide), pu_msr (a := 21) (by decide)]; exact hs
  · intro p i h1 h2; rw [pu_msr (by omega)]; exact hc p i h1 h2
  · intro p i h1 h2; rw [pu_msr (by omega)]; exact hb p i h1 h2
  · intro p h1; rw [pu_msr (by omega)]; exact hl p h1
  · intro p h1; rw [pu_msr (by omega)]; exact hz p h1
  · intro p i h1 h2; rw [pu_msr (by omega)]; exact hi p i h1 h2
theorem rw_keys {μ ν : la_Mem} (h : Rl μ ν) (j : Nat) (v : Int32) : Rl (μ) (la_ms ν 19 j v) := by
  obtain ⟨⟨a0, a1, a2, a3, a4, a5, a6, a7, a8, a9, a10, a11, a12, a13, a14, a15, a16⟩, hs, hc, hb, hl, hz, hi⟩ := h
  refine ⟨⟨?_, ?_, ?_, ?_, ?_, ?_, ?_, ?_, ?_, ?_, ?_, ?_, ?_, ?_, ?_, ?_, ?_⟩, ?_, ?_, ?_, ?_, ?_, ?_⟩
  · rw [pu_msr (by decide), a0]
  · rw [pu_msr (by decide), a1]
  · rw [pu_msr (by decide), a2]
  · rw [pu_msr (by decide), a3]
  · rw [pu_msr (by decide), a4]
  · rw [pu_msr (by decide), a5]
  · rw [pu_msr (by decide), a6]
  · rw [pu_msr (by decide), a7]
  · rw [pu_msr (by decide), a8]
  · rw [pu_msr (by decide), a9]
  · rw [pu_msr (by decide), a10]
  · rw [pu_msr (by decide), a11]
  · rw [pu_msr (by decide), a12]
  · rw [pu_msr (by decide), a13]
  · rw [pu_msr (by decide), a14]
  · rw [pu_msr (by decide), a15]
  · rw [pu_msr (by decide), a16]
  · rw [pu_msr (μ := ν) (a := 0) (by decide)]; exact hs
  · intro p i h1 h2; rw [pu_msr (by decide)]; exact hc p i h1 h2
  · intro p i h1 h2; rw [pu_msr (by decide)]; exact hb p i h1 h2
  · intro p h1; rw [pu_msr (by decide)]; exact hl p h1
  · intro p h1; rw [pu_msr (by decide)]; exact hz p h1
  · intro p i h1 h2; rw [pu_msr (by decide)]; exact hi p i h1 h2
theorem rw_dues {μ ν : la_Mem} (h : Rl μ ν) (j : Nat) (v : Int32) : Rl (μ) (la_ms ν 20 j v) := by
  obtain ⟨⟨a0, a1, a2, a3, a4, a5, a6, a7, a8, a9, a10, a11, a12, a13, a14, a15, a16⟩, hs, hc, hb, hl, hz, hi⟩ := h
  refine ⟨⟨?_, ?_, ?_, ?_, ?_, ?_, ?_, ?_, ?_, ?_, ?_, ?_, ?_, ?_, ?_, ?_, ?_⟩, ?_, ?_, ?_, ?_, ?_, ?_⟩
  · rw [pu_msr (by decide), a0]
  · rw [pu_msr (by decide), a1]
  · rw [pu_msr (by decide), a2]
  · rw [pu_msr (by decide), a3]
  · rw [pu_msr (by decide), a4]
  · rw [pu_msr (by decide), a5]
  · rw [pu_msr (by decide), a6]
  · rw [pu_msr (by decide), a7]
  · rw [pu_msr (by decide), a8]
  · rw [pu_msr (by decide), a9]
  · rw [pu_msr (by decide), a10]
  · rw [pu_msr (by decide), a11]
  · rw [pu_msr (by decide), a12]
  · rw [pu_msr (by decide), a13]
  · rw [pu_msr (by decide), a14]
  · rw [pu_msr (by decide), a15]
  · rw [pu_msr (by decide), a16]
  · rw [pu_msr (μ := ν) (a := 0) (by decide)]; exact hs
  · intro p i h1 h2; rw [pu_msr (by decide)]; exact hc p i h1 h2
  · intro p i h1 h2; rw [pu_msr (by decide)]; exact hb p i h1 h2
  · intro p h1; rw [pu_msr (by decide)]; exact hl p h1
  · intro p h1; rw [pu_msr (by decide)]; exact hz p h1
  · intro p i h1 h2; rw [pu_msr (by decide)]; exact hi p i h1 h2
theorem rw_moved {μ ν : la_Mem} (h : Rl μ ν) (j : Nat) (v : Int32) : Rl (μ) (la_ms ν 25 j v) := by
  obtain ⟨⟨a0, a1, a2, a3, a4, a5, a6, a7, a8, a9, a10, a11, a12, a13, a14, a15, a16⟩, hs, hc, hb, hl, hz, hi⟩ := h
  refine ⟨⟨?_, ?_, ?_, ?_, ?_, ?_, ?_, ?_, ?_, ?_, ?_, ?_, ?_, ?_, ?_, ?_, ?_⟩, ?_, ?_, ?_, ?_, ?_, ?_⟩
  · rw [pu_msr (by decide), a0]
  · rw [pu_msr (by decide), a1]
  · rw [pu_msr (by decide), a2]
  · rw [pu_msr (by decide), a3]
  · rw [pu_msr (by decide), a4]
  · rw [pu_msr (by decide), a5]
  · rw [pu_msr (by decide), a6]
  · rw [pu_msr (by decide), a7]
  · rw [pu_msr (by decide), a8]
  · rw [pu_msr (by decide), a9]
  · rw [pu_msr (by decide), a10]
  · rw [pu_msr (by decide), a11]
  · rw [pu_msr (by decide), a12]
  · rw [pu_msr (by decide), a13]
  · rw [pu_msr (by decide), a14]
  · rw [pu_msr (by decide), a15]
  · rw [pu_msr (by decide), a16]
  · rw [pu_msr (μ := ν) (a := 0) (by decide)]; exact hs
  · intro p i h1 h2; rw [pu_msr (by decide)]; exact hc p i h1 h2
  · intro p i h1 h2; rw [pu_msr (by decide)]; exact hb p i h1 h2
  · intro p h1; rw [pu_msr (by decide)]; exact hl p h1
  · intro p h1; rw [pu_msr (by decide)]; exact hz p h1
  · intro p i h1 h2; rw [pu_msr (by decide)]; exact hi p i h1 h2
