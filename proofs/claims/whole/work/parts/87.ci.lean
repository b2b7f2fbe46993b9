/-! what the class's numbers keep to -/
def Bd (x : Int32) (lo hi : Int) : Prop := lo ≤ x.toInt ∧ x.toInt ≤ hi
/-- how many of f's first n aren't 100 -/
def nb (f : Nat → Int32) : Nat → Int | 0 => 0 | n + 1 => nb f n + (if f n = 100 then 0 else 1)
/-- how many of f's first n are 12 -/
def bx (f : Nat → Int32) : Nat → Int | 0 => 0 | n + 1 => bx f n + (if f n = 12 then 1 else 0)
def sh (f : Nat → Int32) : Nat → Int | 0 => 0 | n + 1 => sh f n + (f n).toInt
def CA (w t r e s : Nat → Int32) : Prop := (∀ i, i < 12 → Bd (w i) 1 40 ∧ Bd (t i) 1 127 ∧ Bd (r i) 0 127 ∧ Bd (e i) 0 20) ∧ 1 ≤ (s 0).toInt ∧ (s 0).toInt ≤ (s 1).toInt ∧ (s 1).toInt ≤ 40 ∧ Bd (s 2) 10 400 ∧ Bd (s 3) 1 200
def CM (m : Int32) (lt : Nat → Int32) : Prop := Bd m 0 60 ∧ ∀ i : Nat, (i : Int) < m.toInt → Bd (lt i) 0 11
def CH (m : Int32) (hd : Nat → Int32) (ch : Nat → Nat → Int32) : Prop := ∀ p, p < 12 → Bd (hd p) 0 8 ∧ ∀ i : Nat, (i : Int) < (hd p).toInt → Bd (ch p i) 0 (m.toInt - 1)
def CL (m c f b : Int32) (th fw : Nat → Int32) : Prop := 0 ≤ c.toInt ∧ 0 ≤ f.toInt ∧ c.toInt + f.toInt ≤ 24 ∧ Bd b 0 12 ∧ (∀ i : Nat, (i : Int) < c.toInt → th i = 100 ∨ Bd (th i) 0 (m.toInt - 1)) ∧ (∀ i : Nat, (i : Int) < f.toInt → fw i = 100 ∨ Bd (fw i) 0 (m.toInt - 1))
def CB (m h : Int32) (bw bp : Nat → Int32) : Prop := 0 ≤ h.toInt ∧ ∀ i : Nat, (i : Int) < h.toInt → Bd (bw i) 0 (m.toInt - 1) ∧ Bd (bp i) 0 12
def CE (m c f h : Int32) (hd th fw wh : Nat → Int32) : Prop := sh hd 12 + nb th c.toInt.toNat + nb fw f.toInt.toNat + h.toInt + bx wh m.toInt.toNat ≤ m.toInt
def CS (n : Int32) (ln : Nat → Int32) : Prop := Bd n 0 40 ∧ (∀ i : Nat, (i : Int) < n.toInt → Bd (ln i) 0 24) ∧ ∀ i : Nat, n.toInt ≤ (i : Int) → i < 40 → ln i = 0
def CZ (z : Nat → Nat → Int32) : Prop := ∀ s, s < 4 → (z s 1 = 0 ∨ z s 1 = 1) ∧ Bd (z s 2) 0 2 ∧ Bd (z s 3) 0 40
def CI (μ : la_Mem) : Prop := CA (μ 24) (μ 2) (μ 3) (μ 25) (μ 26) ∧ CM (μ 4 5) (μ 5) ∧ CH (μ 4 5) (μ 9) (fun p => μ (36 + p)) ∧ CL (μ 4 5) (μ 10 3) (μ 10 4) (μ 10 5) (μ 11) (μ 12) ∧ CB (μ 4 5) (μ 14 3) (μ 15) (μ 16) ∧ CE (μ 4 5) (μ 10 3) (μ 10 4) (μ 14 3) (μ 9) (μ 11) (μ 12) (μ 7) ∧ CS (μ 18 2) (μ 20) ∧ Bd (μ 21 1) 0 60 ∧ CZ (fun s => μ (28 + s))
def Iv (μ ν : la_Mem) : Prop := CI μ ∧ Rl μ ν
theorem pu_lt (a b : Int32) : a < b ↔ a.toInt < b.toInt := Int32.lt_iff_toInt_lt
theorem pu_le (a b : Int32) : a ≤ b ↔ a.toInt ≤ b.toInt := Int32.le_iff_toInt_le
theorem pu_eq (a b : Int32) : a = b ↔ a.toInt = b.toInt := Int32.toInt_inj.symm
theorem pu_ix {i : Int32} {n : Nat} : la_ix i n = true ↔ 0 ≤ i.toInt ∧ i.toInt < n := by
  unfold la_ix
  have e : i.toNatClampNeg = i.toInt.toNat := rfl
  rw [e]
  simp only [Bool.and_eq_true, Bool.not_eq_true', decide_eq_false_iff_not, pu_lt]
  have h0 : (0 : Int32).toInt = 0 := rfl
  rw [h0]
  omega
theorem pu_nx {i : Int32} (h : 0 ≤ i.toInt) : ((i.toNatClampNeg : Nat) : Int) = i.toInt := by
  have e : i.toNatClampNeg = i.toInt.toNat := rfl
  rw [e]
  omega
theorem pu_cl {i : Int32} {n : Nat} (h : 0 ≤ i.toInt) (h2 : i.toInt < n) : i.toNatClampNeg < n := by
  have e : i.toNatClampNeg = i.toInt.toNat := rfl
  rw [e]
  omega
theorem pu_if {α : Type} {b : Bool} {x : Option α} (h : b = true) : la_if b x = x := by rw [h]; rfl
theorem pu_st {α β : Type} (a : α) (f : α → β) : la_st a f = f a := rfl
theorem pu_b2 {α β γ : Type} (a : α) (b : β) (f : α → β → Option γ) : la_b2 (some (a, b)) f = f a b := rfl
theorem pu_b0 {γ : Type} (f : Unit → Option γ) : la_b0 (some ()) f = f () := rfl
theorem pu_b3 {α β δ γ : Type} (a : α) (b : β) (d : δ) (f : α → β → δ → Option γ) : la_b3 (some (a, b, d)) f = f a b d := rfl
theorem pu_x0l {ρ γ : Type} (q : ρ) (g : ρ → Option γ) (f : Unit → Option γ) : la_x0 (some (.inl q)) g f = g q := rfl
theorem pu_x0r {ρ γ : Type} (g : ρ → Option γ) (f : Unit → Option γ) : la_x0 (some (.inr ())) g f = f () := rfl
theorem pu_x1l {ρ α γ : Type} (q : ρ) (g : ρ → Option γ) (f : α → Option γ) : la_x1 (some (.inl q)) g f = g q := rfl
theorem pu_x1r {ρ α γ : Type} (a : α) (g : ρ → Option γ) (f : α → Option γ) : la_x1 (some (.inr a)) g f = f a := rfl
theorem pu_x2l {ρ α β γ : Type} (q : ρ) (g : ρ → Option γ) (f : α → β → Option γ) : la_x2 (some (.inl q)) g f = g q := rfl
theorem pu_x2r {ρ α β γ : Type} (a : α) (b : β) (g : ρ → Option γ) (f : α → β → Option γ) : la_x2 (some (.inr (a, b))) g f = f a b := rfl
theorem pu_isb0 : la_isb 0 = true := rfl
theorem pu_isb1 : la_isb 1 = true := rfl
theorem pu_in (x a b : Int64) (μ : la_Mem) : fX8_in x a b μ = some (if x < a then 0 else if b < x then 0 else 1) := by
  unfold fX8_in
  have key : ∀ u v : Int64, (lg_cmp u v < 0 ↔ u < v) ∧ (0 < lg_cmp u v ↔ v < u) := by
    intro u v
    unfold lg_cmp
    by_cases h1 : v < u
    · have h2 : ¬ u < v := fun q => by rw [Int64.lt_iff_toInt_lt] at *; omega
      simp [h1, h2]
    · by_cases h2 : u < v
      · have h3 : ¬ u = v := fun q => by subst q; exact h1 h2
        simp [h1, h2, h3]
      · have h3 : u = v := by
          apply Int64.toInt_inj.mp
          rw [Int64.lt_iff_toInt_lt] at *
          omega
        simp [h1, h2, h3]
  simp only [(key x a).1, (key x b).2]
  by_cases h1 : x < a
  · simp [h1]
  · by_cases h2 : b < x <;> simp [h1, h2]
theorem pu_w (a b : Int32) : a.toInt64 < b.toInt64 ↔ a < b := by
  rw [Int64.lt_iff_toInt_lt, Int32.lt_iff_toInt_lt, Int32.toInt_toInt64, Int32.toInt_toInt64]
theorem pu_in32 (x a b : Int32) (A B : Int64) (hA : a.toInt64 = A) (hB : b.toInt64 = B) (μ : la_Mem) : fX8_in x.toInt64 A B μ = some (if x < a then 0 else if b < x then 0 else 1) := by
  subst hA hB
  rw [pu_in]
  simp only [pu_w]
