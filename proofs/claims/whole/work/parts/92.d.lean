theorem ms_comm {ν : la_Mem} {a b i j : Nat} {x y : Int32} (h : a ≠ b) : la_ms (la_ms ν a i x) b j y = la_ms (la_ms ν b j y) a i x := by
  funext c d
  simp only [pu_ms]
  by_cases h1 : c = a
  · have h2 : ¬ c = b := by omega
    have h3 : ¬ b = a := by omega
    simp [h1, h, h3]
  · by_cases h2 : c = b
    · have h3 : ¬ b = a := by omega
      simp [h2, h3]
    · simp [h1, h2]
theorem ms_twice {ν : la_Mem} {a i : Nat} {x y : Int32} : la_ms (la_ms ν a i x) a i y = la_ms ν a i y := by
  funext c d
  simp only [pu_ms]
  by_cases h1 : c = a
  · by_cases h2 : d = i <;> simp [h1, h2]
  · simp [h1]
theorem ms_same {ν : la_Mem} {a i : Nat} {x : Int32} (h : ν a i = x) : la_ms ν a i x = ν := by
  funext c d
  simp only [pu_ms]
  by_cases h1 : c = a
  · by_cases h2 : d = i
    · simp [h1, h2, h]
    · simp [h1, h2]
  · simp [h1]
theorem nb_out {f : Nat → Int32} {j : Nat} {v : Int32} : ∀ {n : Nat}, n ≤ j → nb (upd f j v) n = nb f n
  | 0, _ => rfl
  | n + 1, h => by
    have e : upd f j v n = f n := pk_un (by omega)
    show nb (upd f j v) n + (if upd f j v n = 100 then 0 else 1) = nb f n + (if f n = 100 then 0 else 1)
    rw [nb_out (by omega), e]
theorem nb_push {f : Nat → Int32} {n : Nat} {v : Int32} : nb (upd f n v) (n + 1) = nb f n + (if v = 100 then 0 else 1) := by
  show nb (upd f n v) n + (if upd f n v n = 100 then 0 else 1) = _
  rw [nb_out (Nat.le_refl n), pk_us]
theorem nb_pos {f : Nat → Int32} : ∀ {n : Nat}, 0 ≤ nb f n
  | 0 => Int.le_refl 0
  | n + 1 => by
    have := nb_pos (f := f) (n := n)
    show 0 ≤ nb f n + (if f n = 100 then 0 else 1)
    split <;> omega
theorem nb_mono {f : Nat → Int32} {n : Nat} : ∀ {m : Nat}, n ≤ m → nb f n ≤ nb f m
  | 0, h => by rw [show n = 0 by omega]; exact Int.le_refl _
  | m + 1, h => by
    rcases Nat.lt_or_ge m n with q | q
    · rw [show n = m + 1 by omega]; exact Int.le_refl _
    · have := nb_mono (f := f) q
      show nb f n ≤ nb f m + (if f m = 100 then 0 else 1)
      split <;> omega
theorem bx_pos {f : Nat → Int32} : ∀ {n : Nat}, 0 ≤ bx f n
  | 0 => Int.le_refl 0
  | n + 1 => by
    have := bx_pos (f := f) (n := n)
    show 0 ≤ bx f n + (if f n = 12 then 1 else 0)
    split <;> omega
theorem bx_out {f : Nat → Int32} {j : Nat} {v : Int32} : ∀ {n : Nat}, n ≤ j → bx (upd f j v) n = bx f n
  | 0, _ => rfl
  | n + 1, h => by
    have e : upd f j v n = f n := pk_un (by omega)
    show bx (upd f j v) n + (if upd f j v n = 12 then 1 else 0) = bx f n + (if f n = 12 then 1 else 0)
    rw [bx_out (by omega), e]
theorem bx_in {f : Nat → Int32} {j : Nat} {v : Int32} : ∀ {n : Nat}, j < n → bx (upd f j v) n = bx f n - (if f j = 12 then 1 else 0) + (if v = 12 then 1 else 0)
  | 0, h => by omega
  | n + 1, h => by
    show bx (upd f j v) n + (if upd f j v n = 12 then 1 else 0) = bx f n + (if f n = 12 then 1 else 0) - (if f j = 12 then 1 else 0) + (if v = 12 then 1 else 0)
    rcases Nat.lt_or_ge j n with q | q
    · rw [bx_in q, pk_un (show n ≠ j by omega)]; omega
    · have e : n = j := by omega
      subst e
      rw [bx_out (Nat.le_refl n), pk_us]; omega
theorem sh_out {f : Nat → Int32} {j : Nat} {v : Int32} : ∀ {n : Nat}, n ≤ j → sh (upd f j v) n = sh f n
  | 0, _ => rfl
  | n + 1, h => by
    have e : upd f j v n = f n := pk_un (by omega)
    show sh (upd f j v) n + (upd f j v n).toInt = sh f n + (f n).toInt
    rw [sh_out (by omega), e]
theorem sh_in {f : Nat → Int32} {j : Nat} {v : Int32} : ∀ {n : Nat}, j < n → sh (upd f j v) n = sh f n - (f j).toInt + v.toInt
  | 0, h => by omega
  | n + 1, h => by
    show sh (upd f j v) n + (upd f j v n).toInt = sh f n + (f n).toInt - (f j).toInt + v.toInt
    rcases Nat.lt_or_ge j n with q | q
    · rw [sh_in q, pk_un (show n ≠ j by omega)]; omega
    · have e : n = j := by omega
      subst e
      rw [sh_out (Nat.le_refl n), pk_us]; omega
theorem sh_pos {f : Nat → Int32} : ∀ {n : Nat}, (∀ i, i < n → 0 ≤ (f i).toInt) → 0 ≤ sh f n
  | 0, _ => Int.le_refl 0
  | n + 1, h => by
    have h1 := sh_pos (f := f) (n := n) (fun i hi => h i (by omega))
    have h2 := h n (by omega)
    show 0 ≤ sh f n + (f n).toInt
    omega
theorem inc1 {x : Int32} (h1 : -1000000 ≤ x.toInt) (h2 : x.toInt ≤ 1000000) : (x + 1).toInt = x.toInt + 1 := by
  rw [fb_addI] <;> rw [z1] <;> omega
theorem dec1 {x : Int32} (h1 : -1000000 ≤ x.toInt) (h2 : x.toInt ≤ 1000000) : (x - 1).toInt = x.toInt - 1 := by
  rw [fb_subI] <;> rw [z1] <;> omega
/-- a mould of the box is laid into a channel that has room -/
def lay1 (μ : la_Mem) (x p : Int32) : la_Mem := la_ms (la_ms (la_ms μ (36 + p.toNatClampNeg) (μ 9 p.toNatClampNeg).toNatClampNeg x) 9 p.toNatClampNeg (μ 9 p.toNatClampNeg + 1)) 7 x.toNatClampNeg p
def lie1 (ν : la_Mem) (x p : Int32) : la_Mem := la_ms (la_ms (la_ms ν 8 x.toNatClampNeg p) 10 (8 * p.toNatClampNeg + (ν 9 p.toNatClampNeg).toNatClampNeg) x) 9 p.toNatClampNeg (ν 9 p.toNatClampNeg + 1)
theorem lay_c {μ : la_Mem} {x p : Int32} (hh : ∀ p, p < 12 → Bd (μ 9 p) 0 8) (h1 : 0 ≤ p.toInt) (h2 : p.toInt < 12) (h3 : 0 ≤ x.toInt) (h4 : x.toInt < 60) : fX5_lay x p μ = if (μ 9 p.toNatClampNeg).toInt < 8 then some (1, lay1 μ x p) else some (0, μ) := by
  have ix : la_ix p 12 = true := pu_ix.mpr ⟨h1, h2⟩
  have ix2 : la_ix x 60 = true := pu_ix.mpr ⟨h3, h4⟩
  have hp := pu_cl (n := 12) h1 h2
  have hb := hh p.toNatClampNeg hp
  have e9 : ∀ y : Nat, ∀ v : Int32, la_ms μ (36 + p.toNatClampNeg) y v 9 = μ 9 := fun y v => pu_msr (by omega)
  unfold fX5_lay lay1
  simp only [pu_if ix, pu_if ix2, pu_st]
  by_cases q : (μ 9 p.toNatClampNeg).toInt < 8
  · rw [if_pos (show μ 9 p.toNatClampNeg < 8 by rw [pu_lt, z8]; exact q), if_pos q, pu_if (pu_ix.mpr ⟨hb.1, q⟩), e9]
  · rw [if_neg (show ¬ μ 9 p.toNatClampNeg < 8 by rw [pu_lt, z8]; exact q), if_neg q]
theorem lie_m {ν : la_Mem} {x p : Int32} (hh : ∀ p, p < 12 → Bd (ν 9 p) 0 8) (h1 : 0 ≤ p.toInt) (h2 : p.toInt < 12) (h3 : 0 ≤ x.toInt) (h4 : x.toInt < 60) : fX8_lies x p ν = if (ν 9 p.toNatClampNeg).toInt < 8 then some (1, lie1 ν x p) else some (0, la_ms ν 8 x.toNatClampNeg 12) := by
  have ix : la_ix p 12 = true := pu_ix.mpr ⟨h1, h2⟩
  have ix2 : la_ix x 60 = true := pu_ix.mpr ⟨h3, h4⟩
  have hp := pu_cl (n := 12) h1 h2
  have hb := hh p.toNatClampNeg hp
  unfold fX8_lies fX8_lies_J21 fX8_lies_J22 fX8_lies_J38 lie1
  rw [if_neg (by rw [pu_le, z12]; omega)]
  simp only [pu_if ix, pu_if ix2, pu_st]
  by_cases q : (ν 9 p.toNatClampNeg).toInt < 8
  · have hq := mul_ix (k := 8) (K := 8) (x := p) (y := ν 9 p.toNatClampNeg) (a := p.toNatClampNeg) (b := (ν 9 p.toNatClampNeg).toNatClampNeg) (n := 96) rfl (by decide) (pu_nx h1).symm (pu_nx hb.1).symm (by omega) (by have := pu_cl (n := 8) hb.1 q; omega) (by have := pu_cl (n := 8) hb.1 q; omega)
    rw [if_neg (show ¬ 8 ≤ ν 9 p.toNatClampNeg by rw [pu_le, z8]; omega), if_pos q, if_neg (by decide), if_neg (by decide), pu_msr (show 9 ≠ 8 by decide), pu_if hq.1, hq.2, pu_msr (show 9 ≠ 10 by decide), pu_msr (show 9 ≠ 8 by decide), pu_if pu_isb1]
  · rw [if_pos (show 8 ≤ ν 9 p.toNatClampNeg by rw [pu_le, z8]; omega), if_neg q, if_pos trivial, if_pos trivial, pu_if pu_isb0]
theorem lay_R {μ ν : la_Mem} (hr : Rl μ ν) {x p : Int32} (hp : p.toNatClampNeg < 12) (hh : (μ 9 p.toNatClampNeg).toNatClampNeg < 8) : Rl (lay1 μ x p) (lie1 ν x p) := by
  unfold lay1 lie1
  rw [rl_held hr]
  have h1 := rw_where (rw_held (rw_chan hr hp hh x) p.toNatClampNeg (μ 9 p.toNatClampNeg + 1)) x.toNatClampNeg p
  have e : la_ms (la_ms (la_ms ν 8 x.toNatClampNeg p) 10 (8 * p.toNatClampNeg + (μ 9 p.toNatClampNeg).toNatClampNeg) x) 9 p.toNatClampNeg (μ 9 p.toNatClampNeg + 1) = la_ms (la_ms (la_ms ν 10 (8 * p.toNatClampNeg + (μ 9 p.toNatClampNeg).toNatClampNeg) x) 9 p.toNatClampNeg (μ 9 p.toNatClampNeg + 1)) 8 x.toNatClampNeg p := by
    rw [ms_comm (a := 8) (b := 10) (by decide), ms_comm (a := 8) (b := 9) (by decide)]
  rw [e]
  exact h1
theorem CH_set {m : Int32} {hd : Nat → Int32} {ch : Nat → Nat → Int32} (h : CH m hd ch) {q : Nat} {v : Int32} (hq : q < 12) (hv : Bd v 0 (m.toInt - 1)) (h8 : (hd q).toInt < 8) : CH m (upd hd q (hd q + 1)) (fun p => if p = q then upd (ch q) (hd q).toNatClampNeg v else ch p) := by
  intro p hp
  obtain ⟨a1, a2⟩ := h p hp
  by_cases e : p = q
  · subst e
    have ei : (hd p + 1).toInt = (hd p).toInt + 1 := inc1 (by have := a1.1; omega) (by omega)
    refine ⟨?_, fun i hi => ?_⟩
    · rw [pk_us]; unfold Bd; rw [ei]; have := a1.1; omega
    · rw [pk_us, ei] at hi
      dsimp only
      rw [if_pos rfl]
      unfold upd
      split
      · exact hv
      · rename_i q1
        refine a2 i ?_
        have := pu_nx a1.1
        omega
  · refine ⟨?_, fun i hi => ?_⟩
    · rw [pk_un e]; exact a1
    · rw [pk_un e] at hi
      dsimp only
      rw [if_neg e]; exact a2 i hi
theorem lay_I {μ : la_Mem} (hc : CI μ) {x p : Int32} (h1 : 0 ≤ p.toInt) (h2 : p.toInt < 12) (h3 : 0 ≤ x.toInt) (h4 : x.toInt < (μ 4 5).toInt) (hw : μ 7 x.toNatClampNeg = 12) (h8 : (μ 9 p.toNatClampNeg).toInt < 8) : CI (lay1 μ x p) := by
  have hp := pu_cl (n := 12) h1 h2
  have hm := hc.2.1.1
  obtain ⟨a1, a2, a3, a4, a5, a6, a7, a8, a9⟩ := hc
  have hb := (a3 p.toNatClampNeg hp).1
  have hx : (x.toNatClampNeg : Int) < (μ 4 5).toInt := by rw [pu_nx h3]; exact h4
  have ei : (μ 9 p.toNatClampNeg + 1).toInt = (μ 9 p.toNatClampNeg).toInt + 1 := inc1 (by have := hb.1; omega) (by omega)
  have hCH := CH_set a3 hp (v := x) ⟨h3, by omega⟩ h8
  unfold lay1
  have e9 : ∀ y : Nat, ∀ v : Int32, la_ms μ (36 + p.toNatClampNeg) y v 9 = μ 9 := fun y v => pu_msr (by omega)
  have f : ∀ a, a ≠ 7 → a ≠ 9 → ¬ (36 ≤ a ∧ a < 48) → la_ms (la_ms (la_ms μ (36 + p.toNatClampNeg) (μ 9 p.toNatClampNeg).toNatClampNeg x) 9 p.toNatClampNeg (μ 9 p.toNatClampNeg + 1)) 7 x.toNatClampNeg p a = μ a := fun a q1 q2 q3 => by rw [pu_msr q1, pu_msr q2, pu_msr (by omega)]
  generalize hF : la_ms (la_ms (la_ms μ (36 + p.toNatClampNeg) (μ 9 p.toNatClampNeg).toNatClampNeg x) 9 p.toNatClampNeg (μ 9 p.toNatClampNeg + 1)) 7 x.toNatClampNeg p = F at f
  have f7 : F 7 = upd (μ 7) x.toNatClampNeg p := by rw [← hF, la_ms_self, pu_msr (by decide), pu_msr (by omega)]
  have f9 : F 9 = upd (μ 9) p.toNatClampNeg (μ 9 p.toNatClampNeg + 1) := by rw [← hF, pu_msr (by decide), la_ms_self, e9]
  have f36 : (fun q => F (36 + q)) = fun q => if q = p.toNatClampNeg then upd (μ (36 + p.toNatClampNeg)) (μ 9 p.toNatClampNeg).toNatClampNeg x else μ (36 + q) := by
    funext q
    rw [← hF, pu_msr (by omega), pu_msr (by omega)]
    by_cases e : q = p.toNatClampNeg
    · rw [if_pos e, e, la_ms_self]
    · rw [if_neg e, pu_msr (by omega)]
  have f28 : (fun q => F (28 + q)) = fun q => if q < 8 then μ (28 + q) else F (28 + q) := by
    funext q
    split
    · exact f _ (by omega) (by omega) (by omega)
    · rfl
  have f28z : CZ (fun q => F (28 + q)) := by
    intro s hs
    have := a9 s hs
    dsimp only
    rw [f _ (by omega) (by omega) (by omega)]
    exact this
  unfold CI
  rw [f36, f 24 (by decide) (by decide) (by omega), f 2 (by decide) (by decide) (by omega), f 3 (by decide) (by decide) (by omega), f 25 (by decide) (by decide) (by omega), f 26 (by decide) (by decide) (by omega), f 4 (by decide) (by decide) (by omega), f 5 (by decide) (by decide) (by omega), f 6 (by decide) (by decide) (by omega), f 10 (by decide) (by decide) (by omega), f 11 (by decide) (by decide) (by omega), f 12 (by decide) (by decide) (by omega), f 14 (by decide) (by decide) (by omega), f 15 (by decide) (by decide) (by omega), f 16 (by decide) (by decide) (by omega), f 18 (by decide) (by decide) (by omega), f 20 (by decide) (by decide) (by omega), f 21 (by decide) (by decide) (by omega), f7, f9]
  refine ⟨a1, a2, hCH, a4, a5, ?_, a7, a8, f28z⟩
  unfold CE at a6 ⊢
  rw [sh_in hp, bx_in (show x.toNatClampNeg < (μ 4 5).toInt.toNat by omega), if_pos hw, if_neg (show ¬ p = 12 by rw [pu_eq, z12]; omega), ei]
  omega
