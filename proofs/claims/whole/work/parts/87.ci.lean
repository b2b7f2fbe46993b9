/-! what the class's numbers keep to (the fb_ rows: begun from kit/laws/COUNTS) -/
theorem fb_rng (x : Int32) : -2147483648 ≤ x.toInt ∧ x.toInt < 2147483648 := by
  have h1 := Int32.le_toInt x
  have h2 := Int32.toInt_lt x
  omega
theorem fb_bmod {z : Int} (h1 : -2147483648 ≤ z) (h2 : z < 2147483648) : z.bmod (2 ^ 32) = z := by
  rw [Int.bmod_eq_of_le (by omega) (by omega)]
theorem fb_addI {x y : Int32} (h1 : -2147483648 ≤ x.toInt + y.toInt) (h2 : x.toInt + y.toInt < 2147483648) : (x + y).toInt = x.toInt + y.toInt := by
  rw [Int32.toInt_add, fb_bmod h1 h2]
theorem fb_subI {x y : Int32} (h1 : -2147483648 ≤ x.toInt - y.toInt) (h2 : x.toInt - y.toInt < 2147483648) : (x - y).toInt = x.toInt - y.toInt := by
  rw [Int32.toInt_sub, fb_bmod h1 h2]
theorem fb_mulI {x y : Int32} (h1 : -2147483648 ≤ x.toInt * y.toInt) (h2 : x.toInt * y.toInt < 2147483648) : (x * y).toInt = x.toInt * y.toInt := by
  rw [Int32.toInt_mul, fb_bmod h1 h2]
theorem fb_byte {x : Int32} (h1 : -128 ≤ x.toInt) (h2 : x.toInt < 128) : x.toInt8.toInt32 = x := by
  apply Int32.toInt_inj.1
  rw [Int8.toInt_toInt32, Int32.toInt_toInt8, Int.bmod_eq_of_le (by omega) (by omega)]
def Bd (x : Int32) (lo hi : Int) : Prop := lo ≤ x.toInt ∧ x.toInt ≤ hi
/-- how many of f's first n aren't 100 -/
def nb (f : Nat → Int32) : Nat → Int | 0 => 0 | n + 1 => nb f n + (if f n = 100 then 0 else 1)
/-- how many of f's first n are 12 -/
def bx (f : Nat → Int32) : Nat → Int | 0 => 0 | n + 1 => bx f n + (if f n = 12 then 1 else 0)
def sh (f : Nat → Int32) : Nat → Int | 0 => 0 | n + 1 => sh f n + (f n).toInt
def CA (w t r e s : Nat → Int32) : Prop := (∀ i, i < 12 → Bd (w i) 1 40 ∧ Bd (t i) 1 127 ∧ Bd (r i) 0 127 ∧ Bd (e i) 0 20) ∧ 1 ≤ (s 0).toInt ∧ (s 0).toInt ≤ (s 1).toInt ∧ (s 1).toInt ≤ 40 ∧ Bd (s 2) 10 400 ∧ Bd (s 3) 1 200
def CM (m : Int32) (lt hs : Nat → Int32) : Prop := Bd m 0 60 ∧ ∀ i : Nat, (i : Int) < m.toInt → Bd (lt i) 0 11 ∧ Bd (hs i) 0 127
def CH (m : Int32) (hd : Nat → Int32) (ch : Nat → Nat → Int32) : Prop := ∀ p, p < 12 → Bd (hd p) 0 8 ∧ ∀ i : Nat, (i : Int) < (hd p).toInt → Bd (ch p i) 0 (m.toInt - 1)
def CL (m c f b : Int32) (th fw : Nat → Int32) : Prop := 0 ≤ c.toInt ∧ 0 ≤ f.toInt ∧ c.toInt + f.toInt ≤ 24 ∧ Bd b 0 12 ∧ (∀ i : Nat, (i : Int) < c.toInt → th i = 100 ∨ Bd (th i) 0 (m.toInt - 1)) ∧ (∀ i : Nat, (i : Int) < f.toInt → fw i = 100 ∨ Bd (fw i) 0 (m.toInt - 1))
def CB (m h : Int32) (bw bp : Nat → Int32) : Prop := 0 ≤ h.toInt ∧ ∀ i : Nat, (i : Int) < h.toInt → Bd (bw i) 0 (m.toInt - 1) ∧ Bd (bp i) 0 12
def CE (m c f h : Int32) (hd th fw wh : Nat → Int32) : Prop := sh hd 12 + nb th c.toInt.toNat + nb fw f.toInt.toNat + h.toInt + bx wh m.toInt.toNat ≤ m.toInt
def CS (n : Int32) (ln : Nat → Int32) : Prop := Bd n 0 40 ∧ (∀ i : Nat, (i : Int) < n.toInt → Bd (ln i) 0 24) ∧ ∀ i : Nat, n.toInt ≤ (i : Int) → i < 40 → ln i = 0
def CZ (z : Nat → Nat → Int32) : Prop := ∀ s, s < 4 → (z s 1 = 0 ∨ z s 1 = 1) ∧ Bd (z s 2) 0 2 ∧ Bd (z s 3) 0 40
def CI (μ : la_Mem) : Prop := CA (μ 24) (μ 2) (μ 3) (μ 25) (μ 26) ∧ CM (μ 4 5) (μ 5) (μ 6) ∧ CH (μ 4 5) (μ 9) (fun p => μ (36 + p)) ∧ CL (μ 4 5) (μ 10 3) (μ 10 4) (μ 10 5) (μ 11) (μ 12) ∧ CB (μ 4 5) (μ 14 3) (μ 15) (μ 16) ∧ CE (μ 4 5) (μ 10 3) (μ 10 4) (μ 14 3) (μ 9) (μ 11) (μ 12) (μ 7) ∧ CS (μ 18 2) (μ 20) ∧ Bd (μ 21 1) 0 60 ∧ CZ (fun s => μ (28 + s))
def Iv (μ ν : la_Mem) : Prop := CI μ ∧ Rl μ ν
theorem pu_lt (a b : Int32) : a < b ↔ a.toInt < b.toInt := Int32.lt_iff_toInt_lt
theorem pu_le (a b : Int32) : a ≤ b ↔ a.toInt ≤ b.toInt := Int32.le_iff_toInt_le
theorem pu_eq (a b : Int32) : a = b ↔ a.toInt = b.toInt := Int32.toInt_inj.symm
theorem pu_ix {i : Int32} {n : Nat} : la_ix i n = true ↔ 0 ≤ i.toInt ∧ i.toInt < n := by
  unfold la_ix
  have e : i.toNatClampNeg = i.toInt.toNat := rfl
  rw [e]
  simp only [Bool.and_eq_true, Bool.not_eq_true', decide_eq_false_iff_not, pu_lt]
  have h0 : (0 : Int32).toInt = 0 := rfl
  rw [h0]
  omega
theorem pu_nx {i : Int32} (h : 0 ≤ i.toInt) : ((i.toNatClampNeg : Nat) : Int) = i.toInt := by
  have e : i.toNatClampNeg = i.toInt.toNat := rfl
  rw [e]
  omega
theorem pu_cl {i : Int32} {n : Nat} (h : 0 ≤ i.toInt) (h2 : i.toInt < n) : i.toNatClampNeg < n := by
  have e : i.toNatClampNeg = i.toInt.toNat := rfl
  rw [e]
  omega
theorem pu_if {α : Type} {b : Bool} {x : Option α} (h : b = true) : la_if b x = x := by rw [h]; rfl
theorem pu_st {α β : Type} (a : α) (f : α → β) : la_st a f = f a := rfl
theorem pu_b2 {α β γ : Type} (a : α) (b : β) (f : α → β → Option γ) : la_b2 (some (a, b)) f = f a b := rfl
theorem pu_b0 {γ : Type} (f : Unit → Option γ) : la_b0 (some ()) f = f () := rfl
theorem pu_b3 {α β δ γ : Type} (a : α) (b : β) (d : δ) (f : α → β → δ → Option γ) : la_b3 (some (a, b, d)) f = f a b d := rfl
theorem pu_x0l {ρ γ : Type} (q : ρ) (g : ρ → Option γ) (f : Unit → Option γ) : la_x0 (some (.inl q)) g f = g q := rfl
theorem pu_x0r {ρ γ : Type} (g : ρ → Option γ) (f : Unit → Option γ) : la_x0 (some (.inr ())) g f = f () := rfl
theorem pu_x1l {ρ α γ : Type} (q : ρ) (g : ρ → Option γ) (f : α → Option γ) : la_x1 (some (.inl q)) g f = g q := rfl
theorem pu_x1r {ρ α γ : Type} (a : α) (g : ρ → Option γ) (f : α → Option γ) : la_x1 (some (.inr a)) g f = f a := rfl
theorem pu_x2l {ρ α β γ : Type} (q : ρ) (g : ρ → Option γ) (f : α → β → Option γ) : la_x2 (some (.inl q)) g f = g q := rfl
theorem pu_x2r {ρ α β γ : Type} (a : α) (b : β) (g : ρ → Option γ) (f : α → β → Option γ) : la_x2 (some (.inr (a, b))) g f = f a b := rfl
theorem pu_isb0 : la_isb 0 = true := rfl
theorem pu_isb1 : la_isb 1 = true := rfl
theorem pu_in (x a b : Int64) (μ : la_Mem) : fX8_in x a b μ = some (if x < a then 0 else if b < x then 0 else 1) := by
  unfold fX8_in
  have key : ∀ u v : Int64, (lg_cmp u v < 0 ↔ u < v) ∧ (0 < lg_cmp u v ↔ v < u) := by
    intro u v
    unfold lg_cmp
    by_cases h1 : v < u
    · have h2 : ¬ u < v := fun q => by rw [Int64.lt_iff_toInt_lt] at *; omega
      simp [h1, h2]
    · by_cases h2 : u < v
      · have h3 : ¬ u = v := fun q => by subst q; exact h1 h2
        simp [h1, h2, h3]
      · have h3 : u = v := by
          apply Int64.toInt_inj.mp
          rw [Int64.lt_iff_toInt_lt] at *
          omega
        simp [h1, h2, h3]
  simp only [(key x a).1, (key x b).2]
  by_cases h1 : x < a
  · simp [h1]
  · by_cases h2 : b < x <;> simp [h1, h2]
theorem pu_w (a b : Int32) : a.toInt64 < b.toInt64 ↔ a < b := by
  rw [Int64.lt_iff_toInt_lt, Int32.lt_iff_toInt_lt, Int32.toInt_toInt64, Int32.toInt_toInt64]
theorem pu_in32 (x a b : Int32) (A B : Int64) (hA : a.toInt64 = A) (hB : b.toInt64 = B) (μ : la_Mem) : fX8_in x.toInt64 A B μ = some (if x < a then 0 else if b < x then 0 else 1) := by
  subst hA hB
  rw [pu_in]
  simp only [pu_w]
theorem ci_24 {μ : la_Mem} {j : Nat} {v : Int32} (h : CA (upd (μ 24) j v) (μ 2) (μ 3) (μ 25) (μ 26) ∧ CM (μ 4 5) (μ 5) (μ 6) ∧ CH (μ 4 5) (μ 9) (fun p => μ (36 + p)) ∧ CL (μ 4 5) (μ 10 3) (μ 10 4) (μ 10 5) (μ 11) (μ 12) ∧ CB (μ 4 5) (μ 14 3) (μ 15) (μ 16) ∧ CE (μ 4 5) (μ 10 3) (μ 10 4) (μ 14 3) (μ 9) (μ 11) (μ 12) (μ 7) ∧ CS (μ 18 2) (μ 20) ∧ Bd (μ 21 1) 0 60 ∧ CZ (fun s => μ (28 + s))) : CI (la_ms μ 24 j v) := by
  have e : ∀ a, a ≠ 24 → la_ms μ 24 j v a = μ a := fun a h => pu_msr h
  have e1 : (fun p => la_ms μ 24 j v (36 + p)) = fun p => μ (36 + p) := funext fun p => e _ (by omega)
  have e2 : (fun p => la_ms μ 24 j v (28 + p)) = fun p => μ (28 + p) := funext fun p => e _ (by omega)
  unfold CI
  rw [e1, e2, e 2 (by omega), e 3 (by omega), e 25 (by omega), e 26 (by omega), e 5 (by omega), e 6 (by omega), e 9 (by omega), e 11 (by omega), e 12 (by omega), e 15 (by omega), e 16 (by omega), e 7 (by omega), e 20 (by omega), e 4 (by omega), e 10 (by omega), e 14 (by omega), e 18 (by omega), e 21 (by omega), la_ms_self]
  exact h
theorem ci_2 {μ : la_Mem} {j : Nat} {v : Int32} (h : CA (μ 24) (upd (μ 2) j v) (μ 3) (μ 25) (μ 26) ∧ CM (μ 4 5) (μ 5) (μ 6) ∧ CH (μ 4 5) (μ 9) (fun p => μ (36 + p)) ∧ CL (μ 4 5) (μ 10 3) (μ 10 4) (μ 10 5) (μ 11) (μ 12) ∧ CB (μ 4 5) (μ 14 3) (μ 15) (μ 16) ∧ CE (μ 4 5) (μ 10 3) (μ 10 4) (μ 14 3) (μ 9) (μ 11) (μ 12) (μ 7) ∧ CS (μ 18 2) (μ 20) ∧ Bd (μ 21 1) 0 60 ∧ CZ (fun s => μ (28 + s))) : CI (la_ms μ 2 j v) := by
  have e : ∀ a, a ≠ 2 → la_ms μ 2 j v a = μ a := fun a h => pu_msr h
  have e1 : (fun p => la_ms μ 2 j v (36 + p)) = fun p => μ (36 + p) := funext fun p => e _ (by omega)
  have e2 : (fun p => la_ms μ 2 j v (28 + p)) = fun p => μ (28 + p) := funext fun p => e _ (by omega)
  unfold CI
  rw [e1, e2, e 24 (by omega), e 3 (by omega), e 25 (by omega), e 26 (by omega), e 5 (by omega), e 6 (by omega), e 9 (by omega), e 11 (by omega), e 12 (by omega), e 15 (by omega), e 16 (by omega), e 7 (by omega), e 20 (by omega), e 4 (by omega), e 10 (by omega), e 14 (by omega), e 18 (by omega), e 21 (by omega), la_ms_self]
  exact h
theorem ci_3 {μ : la_Mem} {j : Nat} {v : Int32} (h : CA (μ 24) (μ 2) (upd (μ 3) j v) (μ 25) (μ 26) ∧ CM (μ 4 5) (μ 5) (μ 6) ∧ CH (μ 4 5) (μ 9) (fun p => μ (36 + p)) ∧ CL (μ 4 5) (μ 10 3) (μ 10 4) (μ 10 5) (μ 11) (μ 12) ∧ CB (μ 4 5) (μ 14 3) (μ 15) (μ 16) ∧ CE (μ 4 5) (μ 10 3) (μ 10 4) (μ 14 3) (μ 9) (μ 11) (μ 12) (μ 7) ∧ CS (μ 18 2) (μ 20) ∧ Bd (μ 21 1) 0 60 ∧ CZ (fun s => μ (28 + s))) : CI (la_ms μ 3 j v) := by
  have e : ∀ a, a ≠ 3 → la_ms μ 3 j v a = μ a := fun a h => pu_msr h
  have e1 : (fun p => la_ms μ 3 j v (36 + p)) = fun p => μ (36 + p) := funext fun p => e _ (by omega)
  have e2 : (fun p => la_ms μ 3 j v (28 + p)) = fun p => μ (28 + p) := funext fun p => e _ (by omega)
  unfold CI
  rw [e1, e2, e 24 (by omega), e 2 (by omega), e 25 (by omega), e 26 (by omega), e 5 (by omega), e 6 (by omega), e 9 (by omega), e 11 (by omega), e 12 (by omega), e 15 (by omega), e 16 (by omega), e 7 (by omega), e 20 (by omega), e 4 (by omega), e 10 (by omega), e 14 (by omega), e 18 (by omega), e 21 (by omega), la_ms_self]
  exact h
theorem ci_25 {μ : la_Mem} {j : Nat} {v : Int32} (h : CA (μ 24) (μ 2) (μ 3) (upd (μ 25) j v) (μ 26) ∧ CM (μ 4 5) (μ 5) (μ 6) ∧ CH (μ 4 5) (μ 9) (fun p => μ (36 + p)) ∧ CL (μ 4 5) (μ 10 3) (μ 10 4) (μ 10 5) (μ 11) (μ 12) ∧ CB (μ 4 5) (μ 14 3) (μ 15) (μ 16) ∧ CE (μ 4 5) (μ 10 3) (μ 10 4) (μ 14 3) (μ 9) (μ 11) (μ 12) (μ 7) ∧ CS (μ 18 2) (μ 20) ∧ Bd (μ 21 1) 0 60 ∧ CZ (fun s => μ (28 + s))) : CI (la_ms μ 25 j v) := by
  have e : ∀ a, a ≠ 25 → la_ms μ 25 j v a = μ a := fun a h => pu_msr h
  have e1 : (fun p => la_ms μ 25 j v (36 + p)) = fun p => μ (36 + p) := funext fun p => e _ (by omega)
  have e2 : (fun p => la_ms μ 25 j v (28 + p)) = fun p => μ (28 + p) := funext fun p => e _ (by omega)
  unfold CI
  rw [e1, e2, e 24 (by omega), e 2 (by omega), e 3 (by omega), e 26 (by omega), e 5 (by omega), e 6 (by omega), e 9 (by omega), e 11 (by omega), e 12 (by omega), e 15 (by omega), e 16 (by omega), e 7 (by omega), e 20 (by omega), e 4 (by omega), e 10 (by omega), e 14 (by omega), e 18 (by omega), e 21 (by omega), la_ms_self]
  exact h
theorem ci_26 {μ : la_Mem} {j : Nat} {v : Int32} (h : CA (μ 24) (μ 2) (μ 3) (μ 25) (upd (μ 26) j v) ∧ CM (μ 4 5) (μ 5) (μ 6) ∧ CH (μ 4 5) (μ 9) (fun p => μ (36 + p)) ∧ CL (μ 4 5) (μ 10 3) (μ 10 4) (μ 10 5) (μ 11) (μ 12) ∧ CB (μ 4 5) (μ 14 3) (μ 15) (μ 16) ∧ CE (μ 4 5) (μ 10 3) (μ 10 4) (μ 14 3) (μ 9) (μ 11) (μ 12) (μ 7) ∧ CS (μ 18 2) (μ 20) ∧ Bd (μ 21 1) 0 60 ∧ CZ (fun s => μ (28 + s))) : CI (la_ms μ 26 j v) := by
  have e : ∀ a, a ≠ 26 → la_ms μ 26 j v a = μ a := fun a h => pu_msr h
  have e1 : (fun p => la_ms μ 26 j v (36 + p)) = fun p => μ (36 + p) := funext fun p => e _ (by omega)
  have e2 : (fun p => la_ms μ 26 j v (28 + p)) = fun p => μ (28 + p) := funext fun p => e _ (by omega)
  unfold CI
  rw [e1, e2, e 24 (by omega), e 2 (by omega), e 3 (by omega), e 25 (by omega), e 5 (by omega), e 6 (by omega), e 9 (by omega), e 11 (by omega), e 12 (by omega), e 15 (by omega), e 16 (by omega), e 7 (by omega), e 20 (by omega), e 4 (by omega), e 10 (by omega), e 14 (by omega), e 18 (by omega), e 21 (by omega), la_ms_self]
  exact h
theorem ci_5 {μ : la_Mem} {j : Nat} {v : Int32} (h : CA (μ 24) (μ 2) (μ 3) (μ 25) (μ 26) ∧ CM (μ 4 5) (upd (μ 5) j v) (μ 6) ∧ CH (μ 4 5) (μ 9) (fun p => μ (36 + p)) ∧ CL (μ 4 5) (μ 10 3) (μ 10 4) (μ 10 5) (μ 11) (μ 12) ∧ CB (μ 4 5) (μ 14 3) (μ 15) (μ 16) ∧ CE (μ 4 5) (μ 10 3) (μ 10 4) (μ 14 3) (μ 9) (μ 11) (μ 12) (μ 7) ∧ CS (μ 18 2) (μ 20) ∧ Bd (μ 21 1) 0 60 ∧ CZ (fun s => μ (28 + s))) : CI (la_ms μ 5 j v) := by
  have e : ∀ a, a ≠ 5 → la_ms μ 5 j v a = μ a := fun a h => pu_msr h
  have e1 : (fun p => la_ms μ 5 j v (36 + p)) = fun p => μ (36 + p) := funext fun p => e _ (by omega)
  have e2 : (fun p => la_ms μ 5 j v (28 + p)) = fun p => μ (28 + p) := funext fun p => e _ (by omega)
  unfold CI
  rw [e1, e2, e 24 (by omega), e 2 (by omega), e 3 (by omega), e 25 (by omega), e 26 (by omega), e 6 (by omega), e 9 (by omega), e 11 (by omega), e 12 (by omega), e 15 (by omega), e 16 (by omega), e 7 (by omega), e 20 (by omega), e 4 (by omega), e 10 (by omega), e 14 (by omega), e 18 (by omega), e 21 (by omega), la_ms_self]
  exact h
theorem ci_6 {μ : la_Mem} {j : Nat} {v : Int32} (h : CA (μ 24) (μ 2) (μ 3) (μ 25) (μ 26) ∧ CM (μ 4 5) (μ 5) (upd (μ 6) j v) ∧ CH (μ 4 5) (μ 9) (fun p => μ (36 + p)) ∧ CL (μ 4 5) (μ 10 3) (μ 10 4) (μ 10 5) (μ 11) (μ 12) ∧ CB (μ 4 5) (μ 14 3) (μ 15) (μ 16) ∧ CE (μ 4 5) (μ 10 3) (μ 10 4) (μ 14 3) (μ 9) (μ 11) (μ 12) (μ 7) ∧ CS (μ 18 2) (μ 20) ∧ Bd (μ 21 1) 0 60 ∧ CZ (fun s => μ (28 + s))) : CI (la_ms μ 6 j v) := by
  have e : ∀ a, a ≠ 6 → la_ms μ 6 j v a = μ a := fun a h => pu_msr h
  have e1 : (fun p => la_ms μ 6 j v (36 + p)) = fun p => μ (36 + p) := funext fun p => e _ (by omega)
  have e2 : (fun p => la_ms μ 6 j v (28 + p)) = fun p => μ (28 + p) := funext fun p => e _ (by omega)
  unfold CI
  rw [e1, e2, e 24 (by omega), e 2 (by omega), e 3 (by omega), e 25 (by omega), e 26 (by omega), e 5 (by omega), e 9 (by omega), e 11 (by omega), e 12 (by omega), e 15 (by omega), e 16 (by omega), e 7 (by omega), e 20 (by omega), e 4 (by omega), e 10 (by omega), e 14 (by omega), e 18 (by omega), e 21 (by omega), la_ms_self]
  exact h
theorem ci_9 {μ : la_Mem} {j : Nat} {v : Int32} (h : CA (μ 24) (μ 2) (μ 3) (μ 25) (μ 26) ∧ CM (μ 4 5) (μ 5) (μ 6) ∧ CH (μ 4 5) (upd (μ 9) j v) (fun p => μ (36 + p)) ∧ CL (μ 4 5) (μ 10 3) (μ 10 4) (μ 10 5) (μ 11) (μ 12) ∧ CB (μ 4 5) (μ 14 3) (μ 15) (μ 16) ∧ CE (μ 4 5) (μ 10 3) (μ 10 4) (μ 14 3) (upd (μ 9) j v) (μ 11) (μ 12) (μ 7) ∧ CS (μ 18 2) (μ 20) ∧ Bd (μ 21 1) 0 60 ∧ CZ (fun s => μ (28 + s))) : CI (la_ms μ 9 j v) := by
  have e : ∀ a, a ≠ 9 → la_ms μ 9 j v a = μ a := fun a h => pu_msr h
  have e1 : (fun p => la_ms μ 9 j v (36 + p)) = fun p => μ (36 + p) := funext fun p => e _ (by omega)
  have e2 : (fun p => la_ms μ 9 j v (28 + p)) = fun p => μ (28 + p) := funext fun p => e _ (by omega)
  unfold CI
  rw [e1, e2, e 24 (by omega), e 2 (by omega), e 3 (by omega), e 25 (by omega), e 26 (by omega), e 5 (by omega), e 6 (by omega), e 11 (by omega), e 12 (by omega), e 15 (by omega), e 16 (by omega), e 7 (by omega), e 20 (by omega), e 4 (by omega), e 10 (by omega), e 14 (by omega), e 18 (by omega), e 21 (by omega), la_ms_self]
  exact h
theorem ci_11 {μ : la_Mem} {j : Nat} {v : Int32} (h : CA (μ 24) (μ 2) (μ 3) (μ 25) (μ 26) ∧ CM (μ 4 5) (μ 5) (μ 6) ∧ CH (μ 4 5) (μ 9) (fun p => μ (36 + p)) ∧ CL (μ 4 5) (μ 10 3) (μ 10 4) (μ 10 5) (upd (μ 11) j v) (μ 12) ∧ CB (μ 4 5) (μ 14 3) (μ 15) (μ 16) ∧ CE (μ 4 5) (μ 10 3) (μ 10 4) (μ 14 3) (μ 9) (upd (μ 11) j v) (μ 12) (μ 7) ∧ CS (μ 18 2) (μ 20) ∧ Bd (μ 21 1) 0 60 ∧ CZ (fun s => μ (28 + s))) : CI (la_ms μ 11 j v) := by
  have e : ∀ a, a ≠ 11 → la_ms μ 11 j v a = μ a := fun a h => pu_msr h
  have e1 : (fun p => la_ms μ 11 j v (36 + p)) = fun p => μ (36 + p) := funext fun p => e _ (by omega)
  have e2 : (fun p => la_ms μ 11 j v (28 + p)) = fun p => μ (28 + p) := funext fun p => e _ (by omega)
  unfold CI
  rw [e1, e2, e 24 (by omega), e 2 (by omega), e 3 (by omega), e 25 (by omega), e 26 (by omega), e 5 (by omega), e 6 (by omega), e 9 (by omega), e 12 (by omega), e 15 (by omega), e 16 (by omega), e 7 (by omega), e 20 (by omega), e 4 (by omega), e 10 (by omega), e 14 (by omega), e 18 (by omega), e 21 (by omega), la_ms_self]
  exact h
theorem ci_12 {μ : la_Mem} {j : Nat} {v : Int32} (h : CA (μ 24) (μ 2) (μ 3) (μ 25) (μ 26) ∧ CM (μ 4 5) (μ 5) (μ 6) ∧ CH (μ 4 5) (μ 9) (fun p => μ (36 + p)) ∧ CL (μ 4 5) (μ 10 3) (μ 10 4) (μ 10 5) (μ 11) (upd (μ 12) j v) ∧ CB (μ 4 5) (μ 14 3) (μ 15) (μ 16) ∧ CE (μ 4 5) (μ 10 3) (μ 10 4) (μ 14 3) (μ 9) (μ 11) (upd (μ 12) j v) (μ 7) ∧ CS (μ 18 2) (μ 20) ∧ Bd (μ 21 1) 0 60 ∧ CZ (fun s => μ (28 + s))) : CI (la_ms μ 12 j v) := by
  have e : ∀ a, a ≠ 12 → la_ms μ 12 j v a = μ a := fun a h => pu_msr h
  have e1 : (fun p => la_ms μ 12 j v (36 + p)) = fun p => μ (36 + p) := funext fun p => e _ (by omega)
  have e2 : (fun p => la_ms μ 12 j v (28 + p)) = fun p => μ (28 + p) := funext fun p => e _ (by omega)
  unfold CI
  rw [e1, e2, e 24 (by omega), e 2 (by omega), e 3 (by omega), e 25 (by omega), e 26 (by omega), e 5 (by omega), e 6 (by omega), e 9 (by omega), e 11 (by omega), e 15 (by omega), e 16 (by omega), e 7 (by omega), e 20 (by omega), e 4 (by omega), e 10 (by omega), e 14 (by omega), e 18 (by omega), e 21 (by omega), la_ms_self]
  exact h
theorem ci_15 {μ : la_Mem} {j : Nat} {v : Int32} (h : CA (μ 24) (μ 2) (μ 3) (μ 25) (μ 26) ∧ CM (μ 4 5) (μ 5) (μ 6) ∧ CH (μ 4 5) (μ 9) (fun p => μ (36 + p)) ∧ CL (μ 4 5) (μ 10 3) (μ 10 4) (μ 10 5) (μ 11) (μ 12) ∧ CB (μ 4 5) (μ 14 3) (upd (μ 15) j v) (μ 16) ∧ CE (μ 4 5) (μ 10 3) (μ 10 4) (μ 14 3) (μ 9) (μ 11) (μ 12) (μ 7) ∧ CS (μ 18 2) (μ 20) ∧ Bd (μ 21 1) 0 60 ∧ CZ (fun s => μ (28 + s))) : CI (la_ms μ 15 j v) := by
  have e : ∀ a, a ≠ 15 → la_ms μ 15 j v a = μ a := fun a h => pu_msr h
  have e1 : (fun p => la_ms μ 15 j v (36 + p)) = fun p => μ (36 + p) := funext fun p => e _ (by omega)
  have e2 : (fun p => la_ms μ 15 j v (28 + p)) = fun p => μ (28 + p) := funext fun p => e _ (by omega)
  unfold CI
  rw [e1, e2, e 24 (by omega), e 2 (by omega), e 3 (by omega), e 25 (by omega), e 26 (by omega), e 5 (by omega), e 6 (by omega), e 9 (by omega), e 11 (by omega), e 12 (by omega), e 16 (by omega), e 7 (by omega), e 20 (by omega), e 4 (by omega), e 10 (by omega), e 14 (by omega), e 18 (by omega), e 21 (by omega), la_ms_self]
  exact h
theorem ci_16 {μ : la_Mem} {j : Nat} {v : Int32} (h : CA (μ 24) (μ 2) (μ 3) (μ 25) (μ 26) ∧ CM (μ 4 5) (μ 5) (μ 6) ∧ CH (μ 4 5) (μ 9) (fun p => μ (36 + p)) ∧ CL (μ 4 5) (μ 10 3) (μ 10 4) (μ 10 5) (μ 11) (μ 12) ∧ CB (μ 4 5) (μ 14 3) (μ 15) (upd (μ 16) j v) ∧ CE (μ 4 5) (μ 10 3) (μ 10 4) (μ 14 3) (μ 9) (μ 11) (μ 12) (μ 7) ∧ CS (μ 18 2) (μ 20) ∧ Bd (μ 21 1) 0 60 ∧ CZ (fun s => μ (28 + s))) : CI (la_ms μ 16 j v) := by
  have e : ∀ a, a ≠ 16 → la_ms μ 16 j v a = μ a := fun a h => pu_msr h
  have e1 : (fun p => la_ms μ 16 j v (36 + p)) = fun p => μ (36 + p) := funext fun p => e _ (by omega)
  have e2 : (fun p => la_ms μ 16 j v (28 + p)) = fun p => μ (28 + p) := funext fun p => e _ (by omega)
  unfold CI
  rw [e1, e2, e 24 (by omega), e 2 (by omega), e 3 (by omega), e 25 (by omega), e 26 (by omega), e 5 (by omega), e 6 (by omega), e 9 (by omega), e 11 (by omega), e 12 (by omega), e 15 (by omega), e 7 (by omega), e 20 (by omega), e 4 (by omega), e 10 (by omega), e 14 (by omega), e 18 (by omega), e 21 (by omega), la_ms_self]
  exact h
theorem ci_7 {μ : la_Mem} {j : Nat} {v : Int32} (h : CA (μ 24) (μ 2) (μ 3) (μ 25) (μ 26) ∧ CM (μ 4 5) (μ 5) (μ 6) ∧ CH (μ 4 5) (μ 9) (fun p => μ (36 + p)) ∧ CL (μ 4 5) (μ 10 3) (μ 10 4) (μ 10 5) (μ 11) (μ 12) ∧ CB (μ 4 5) (μ 14 3) (μ 15) (μ 16) ∧ CE (μ 4 5) (μ 10 3) (μ 10 4) (μ 14 3) (μ 9) (μ 11) (μ 12) (upd (μ 7) j v) ∧ CS (μ 18 2) (μ 20) ∧ Bd (μ 21 1) 0 60 ∧ CZ (fun s => μ (28 + s))) : CI (la_ms μ 7 j v) := by
  have e : ∀ a, a ≠ 7 → la_ms μ 7 j v a = μ a := fun a h => pu_msr h
  have e1 : (fun p => la_ms μ 7 j v (36 + p)) = fun p => μ (36 + p) := funext fun p => e _ (by omega)
  have e2 : (fun p => la_ms μ 7 j v (28 + p)) = fun p => μ (28 + p) := funext fun p => e _ (by omega)
  unfold CI
  rw [e1, e2, e 24 (by omega), e 2 (by omega), e 3 (by omega), e 25 (by omega), e 26 (by omega), e 5 (by omega), e 6 (by omega), e 9 (by omega), e 11 (by omega), e 12 (by omega), e 15 (by omega), e 16 (by omega), e 20 (by omega), e 4 (by omega), e 10 (by omega), e 14 (by omega), e 18 (by omega), e 21 (by omega), la_ms_self]
  exact h
theorem ci_20 {μ : la_Mem} {j : Nat} {v : Int32} (h : CA (μ 24) (μ 2) (μ 3) (μ 25) (μ 26) ∧ CM (μ 4 5) (μ 5) (μ 6) ∧ CH (μ 4 5) (μ 9) (fun p => μ (36 + p)) ∧ CL (μ 4 5) (μ 10 3) (μ 10 4) (μ 10 5) (μ 11) (μ 12) ∧ CB (μ 4 5) (μ 14 3) (μ 15) (μ 16) ∧ CE (μ 4 5) (μ 10 3) (μ 10 4) (μ 14 3) (μ 9) (μ 11) (μ 12) (μ 7) ∧ CS (μ 18 2) (upd (μ 20) j v) ∧ Bd (μ 21 1) 0 60 ∧ CZ (fun s => μ (28 + s))) : CI (la_ms μ 20 j v) := by
  have e : ∀ a, a ≠ 20 → la_ms μ 20 j v a = μ a := fun a h => pu_msr h
  have e1 : (fun p => la_ms μ 20 j v (36 + p)) = fun p => μ (36 + p) := funext fun p => e _ (by omega)
  have e2 : (fun p => la_ms μ 20 j v (28 + p)) = fun p => μ (28 + p) := funext fun p => e _ (by omega)
  unfold CI
  rw [e1, e2, e 24 (by omega), e 2 (by omega), e 3 (by omega), e 25 (by omega), e 26 (by omega), e 5 (by omega), e 6 (by omega), e 9 (by omega), e 11 (by omega), e 12 (by omega), e 15 (by omega), e 16 (by omega), e 7 (by omega), e 4 (by omega), e 10 (by omega), e 14 (by omega), e 18 (by omega), e 21 (by omega), la_ms_self]
  exact h
theorem ci_4_5 {μ : la_Mem} {v : Int32} (h : CA (μ 24) (μ 2) (μ 3) (μ 25) (μ 26) ∧ CM v (μ 5) (μ 6) ∧ CH v (μ 9) (fun p => μ (36 + p)) ∧ CL v (μ 10 3) (μ 10 4) (μ 10 5) (μ 11) (μ 12) ∧ CB v (μ 14 3) (μ 15) (μ 16) ∧ CE v (μ 10 3) (μ 10 4) (μ 14 3) (μ 9) (μ 11) (μ 12) (μ 7) ∧ CS (μ 18 2) (μ 20) ∧ Bd (μ 21 1) 0 60 ∧ CZ (fun s => μ (28 + s))) : CI (la_ms μ 4 5 v) := by
  have e : ∀ a, a ≠ 4 → la_ms μ 4 5 v a = μ a := fun a h => pu_msr h
  have e1 : (fun p => la_ms μ 4 5 v (36 + p)) = fun p => μ (36 + p) := funext fun p => e _ (by omega)
  have e2 : (fun p => la_ms μ 4 5 v (28 + p)) = fun p => μ (28 + p) := funext fun p => e _ (by omega)
  unfold CI
  rw [e1, e2, e 24 (by omega), e 2 (by omega), e 3 (by omega), e 25 (by omega), e 26 (by omega), e 5 (by omega), e 6 (by omega), e 9 (by omega), e 11 (by omega), e 12 (by omega), e 15 (by omega), e 16 (by omega), e 7 (by omega), e 20 (by omega), e 10 (by omega), e 14 (by omega), e 18 (by omega), e 21 (by omega), la_ms_self]
  exact h
theorem ci_10_3 {μ : la_Mem} {v : Int32} (h : CA (μ 24) (μ 2) (μ 3) (μ 25) (μ 26) ∧ CM (μ 4 5) (μ 5) (μ 6) ∧ CH (μ 4 5) (μ 9) (fun p => μ (36 + p)) ∧ CL (μ 4 5) v (μ 10 4) (μ 10 5) (μ 11) (μ 12) ∧ CB (μ 4 5) (μ 14 3) (μ 15) (μ 16) ∧ CE (μ 4 5) v (μ 10 4) (μ 14 3) (μ 9) (μ 11) (μ 12) (μ 7) ∧ CS (μ 18 2) (μ 20) ∧ Bd (μ 21 1) 0 60 ∧ CZ (fun s => μ (28 + s))) : CI (la_ms μ 10 3 v) := by
  have e : ∀ a, a ≠ 10 → la_ms μ 10 3 v a = μ a := fun a h => pu_msr h
  have e1 : (fun p => la_ms μ 10 3 v (36 + p)) = fun p => μ (36 + p) := funext fun p => e _ (by omega)
  have e2 : (fun p => la_ms μ 10 3 v (28 + p)) = fun p => μ (28 + p) := funext fun p => e _ (by omega)
  unfold CI
  rw [e1, e2, e 24 (by omega), e 2 (by omega), e 3 (by omega), e 25 (by omega), e 26 (by omega), e 5 (by omega), e 6 (by omega), e 9 (by omega), e 11 (by omega), e 12 (by omega), e 15 (by omega), e 16 (by omega), e 7 (by omega), e 20 (by omega), e 4 (by omega), e 14 (by omega), e 18 (by omega), e 21 (by omega), la_ms_self]
  exact h
theorem ci_10_4 {μ : la_Mem} {v : Int32} (h : CA (μ 24) (μ 2) (μ 3) (μ 25) (μ 26) ∧ CM (μ 4 5) (μ 5) (μ 6) ∧ CH (μ 4 5) (μ 9) (fun p => μ (36 + p)) ∧ CL (μ 4 5) (μ 10 3) v (μ 10 5) (μ 11) (μ 12) ∧ CB (μ 4 5) (μ 14 3) (μ 15) (μ 16) ∧ CE (μ 4 5) (μ 10 3) v (μ 14 3) (μ 9) (μ 11) (μ 12) (μ 7) ∧ CS (μ 18 2) (μ 20) ∧ Bd (μ 21 1) 0 60 ∧ CZ (fun s => μ (28 + s))) : CI (la_ms μ 10 4 v) := by
  have e : ∀ a, a ≠ 10 → la_ms μ 10 4 v a = μ a := fun a h => pu_msr h
  have e1 : (fun p => la_ms μ 10 4 v (36 + p)) = fun p => μ (36 + p) := funext fun p => e _ (by omega)
  have e2 : (fun p => la_ms μ 10 4 v (28 + p)) = fun p => μ (28 + p) := funext fun p => e _ (by omega)
  unfold CI
  rw [e1, e2, e 24 (by omega), e 2 (by omega), e 3 (by omega), e 25 (by omega), e 26 (by omega), e 5 (by omega), e 6 (by omega), e 9 (by omega), e 11 (by omega), e 12 (by omega), e 15 (by omega), e 16 (by omega), e 7 (by omega), e 20 (by omega), e 4 (by omega), e 14 (by omega), e 18 (by omega), e 21 (by omega), la_ms_self]
  exact h
theorem ci_10_5 {μ : la_Mem} {v : Int32} (h : CA (μ 24) (μ 2) (μ 3) (μ 25) (μ 26) ∧ CM (μ 4 5) (μ 5) (μ 6) ∧ CH (μ 4 5) (μ 9) (fun p => μ (36 + p)) ∧ CL (μ 4 5) (μ 10 3) (μ 10 4) v (μ 11) (μ 12) ∧ CB (μ 4 5) (μ 14 3) (μ 15) (μ 16) ∧ CE (μ 4 5) (μ 10 3) (μ 10 4) (μ 14 3) (μ 9) (μ 11) (μ 12) (μ 7) ∧ CS (μ 18 2) (μ 20) ∧ Bd (μ 21 1) 0 60 ∧ CZ (fun s => μ (28 + s))) : CI (la_ms μ 10 5 v) := by
  have e : ∀ a, a ≠ 10 → la_ms μ 10 5 v a = μ a := fun a h => pu_msr h
  have e1 : (fun p => la_ms μ 10 5 v (36 + p)) = fun p => μ (36 + p) := funext fun p => e _ (by omega)
  have e2 : (fun p => la_ms μ 10 5 v (28 + p)) = fun p => μ (28 + p) := funext fun p => e _ (by omega)
  unfold CI
  rw [e1, e2, e 24 (by omega), e 2 (by omega), e 3 (by omega), e 25 (by omega), e 26 (by omega), e 5 (by omega), e 6 (by omega), e 9 (by omega), e 11 (by omega), e 12 (by omega), e 15 (by omega), e 16 (by omega), e 7 (by omega), e 20 (by omega), e 4 (by omega), e 14 (by omega), e 18 (by omega), e 21 (by omega), la_ms_self]
  exact h
theorem ci_14_3 {μ : la_Mem} {v : Int32} (h : CA (μ 24) (μ 2) (μ 3) (μ 25) (μ 26) ∧ CM (μ 4 5) (μ 5) (μ 6) ∧ CH (μ 4 5) (μ 9) (fun p => μ (36 + p)) ∧ CL (μ 4 5) (μ 10 3) (μ 10 4) (μ 10 5) (μ 11) (μ 12) ∧ CB (μ 4 5) v (μ 15) (μ 16) ∧ CE (μ 4 5) (μ 10 3) (μ 10 4) v (μ 9) (μ 11) (μ 12) (μ 7) ∧ CS (μ 18 2) (μ 20) ∧ Bd (μ 21 1) 0 60 ∧ CZ (fun s => μ (28 + s))) : CI (la_ms μ 14 3 v) := by
  have e : ∀ a, a ≠ 14 → la_ms μ 14 3 v a = μ a := fun a h => pu_msr h
  have e1 : (fun p => la_ms μ 14 3 v (36 + p)) = fun p => μ (36 + p) := funext fun p => e _ (by omega)
  have e2 : (fun p => la_ms μ 14 3 v (28 + p)) = fun p => μ (28 + p) := funext fun p => e _ (by omega)
  unfold CI
  rw [e1, e2, e 24 (by omega), e 2 (by omega), e 3 (by omega), e 25 (by omega), e 26 (by omega), e 5 (by omega), e 6 (by omega), e 9 (by omega), e 11 (by omega), e 12 (by omega), e 15 (by omega), e 16 (by omega), e 7 (by omega), e 20 (by omega), e 4 (by omega), e 10 (by omega), e 18 (by omega), e 21 (by omega), la_ms_self]
  exact h
theorem ci_18_2 {μ : la_Mem} {v : Int32} (h : CA (μ 24) (μ 2) (μ 3) (μ 25) (μ 26) ∧ CM (μ 4 5) (μ 5) (μ 6) ∧ CH (μ 4 5) (μ 9) (fun p => μ (36 + p)) ∧ CL (μ 4 5) (μ 10 3) (μ 10 4) (μ 10 5) (μ 11) (μ 12) ∧ CB (μ 4 5) (μ 14 3) (μ 15) (μ 16) ∧ CE (μ 4 5) (μ 10 3) (μ 10 4) (μ 14 3) (μ 9) (μ 11) (μ 12) (μ 7) ∧ CS v (μ 20) ∧ Bd (μ 21 1) 0 60 ∧ CZ (fun s => μ (28 + s))) : CI (la_ms μ 18 2 v) := by
  have e : ∀ a, a ≠ 18 → la_ms μ 18 2 v a = μ a := fun a h => pu_msr h
  have e1 : (fun p => la_ms μ 18 2 v (36 + p)) = fun p => μ (36 + p) := funext fun p => e _ (by omega)
  have e2 : (fun p => la_ms μ 18 2 v (28 + p)) = fun p => μ (28 + p) := funext fun p => e _ (by omega)
  unfold CI
  rw [e1, e2, e 24 (by omega), e 2 (by omega), e 3 (by omega), e 25 (by omega), e 26 (by omega), e 5 (by omega), e 6 (by omega), e 9 (by omega), e 11 (by omega), e 12 (by omega), e 15 (by omega), e 16 (by omega), e 7 (by omega), e 20 (by omega), e 4 (by omega), e 10 (by omega), e 14 (by omega), e 21 (by omega), la_ms_self]
  exact h
theorem ci_21_1 {μ : la_Mem} {v : Int32} (h : CA (μ 24) (μ 2) (μ 3) (μ 25) (μ 26) ∧ CM (μ 4 5) (μ 5) (μ 6) ∧ CH (μ 4 5) (μ 9) (fun p => μ (36 + p)) ∧ CL (μ 4 5) (μ 10 3) (μ 10 4) (μ 10 5) (μ 11) (μ 12) ∧ CB (μ 4 5) (μ 14 3) (μ 15) (μ 16) ∧ CE (μ 4 5) (μ 10 3) (μ 10 4) (μ 14 3) (μ 9) (μ 11) (μ 12) (μ 7) ∧ CS (μ 18 2) (μ 20) ∧ Bd v 0 60 ∧ CZ (fun s => μ (28 + s))) : CI (la_ms μ 21 1 v) := by
  have e : ∀ a, a ≠ 21 → la_ms μ 21 1 v a = μ a := fun a h => pu_msr h
  have e1 : (fun p => la_ms μ 21 1 v (36 + p)) = fun p => μ (36 + p) := funext fun p => e _ (by omega)
  have e2 : (fun p => la_ms μ 21 1 v (28 + p)) = fun p => μ (28 + p) := funext fun p => e _ (by omega)
  unfold CI
  rw [e1, e2, e 24 (by omega), e 2 (by omega), e 3 (by omega), e 25 (by omega), e 26 (by omega), e 5 (by omega), e 6 (by omega), e 9 (by omega), e 11 (by omega), e 12 (by omega), e 15 (by omega), e 16 (by omega), e 7 (by omega), e 20 (by omega), e 4 (by omega), e 10 (by omega), e 14 (by omega), e 18 (by omega), la_ms_self]
  exact h
theorem ci_36 {μ : la_Mem} {q j : Nat} {v : Int32} (hq : q < 12) (h : CA (μ 24) (μ 2) (μ 3) (μ 25) (μ 26) ∧ CM (μ 4 5) (μ 5) (μ 6) ∧ CH (μ 4 5) (μ 9) (fun p => if p = q then upd (μ (36 + q)) j v else μ (36 + p)) ∧ CL (μ 4 5) (μ 10 3) (μ 10 4) (μ 10 5) (μ 11) (μ 12) ∧ CB (μ 4 5) (μ 14 3) (μ 15) (μ 16) ∧ CE (μ 4 5) (μ 10 3) (μ 10 4) (μ 14 3) (μ 9) (μ 11) (μ 12) (μ 7) ∧ CS (μ 18 2) (μ 20) ∧ Bd (μ 21 1) 0 60 ∧ CZ (fun s => μ (28 + s))) : CI (la_ms μ (36 + q) j v) := by
  have e : ∀ a, a ≠ 36 + q → la_ms μ (36 + q) j v a = μ a := fun a h => pu_msr h
  have e1 : (fun p => la_ms μ (36 + q) j v (36 + p)) = fun p => if p = q then upd (μ (36 + q)) j v else μ (36 + p) := funext fun p => by
    by_cases hp : p = q
    · subst hp; rw [if_pos rfl, la_ms_self]
    · rw [if_neg hp]; exact e _ (by omega)
  have hz : CZ (fun p => la_ms μ (36 + q) j v (28 + p)) := by
    intro s hs
    have := h.2.2.2.2.2.2.2.2 s hs
    dsimp only
    rw [e (28 + s) (by omega)]
    exact this
  unfold CI
  rw [e1, e 24 (by omega), e 2 (by omega), e 3 (by omega), e 25 (by omega), e 26 (by omega), e 5 (by omega), e 6 (by omega), e 9 (by omega), e 11 (by omega), e 12 (by omega), e 15 (by omega), e 16 (by omega), e 7 (by omega), e 20 (by omega), e 4 (by omega), e 10 (by omega), e 14 (by omega), e 18 (by omega), e 21 (by omega)]
  exact ⟨h.1, h.2.1, h.2.2.1, h.2.2.2.1, h.2.2.2.2.1, h.2.2.2.2.2.1, h.2.2.2.2.2.2.1, h.2.2.2.2.2.2.2.1, hz⟩
theorem ci_28 {μ : la_Mem} {q j : Nat} {v : Int32} (hq : q < 4) (h : CA (μ 24) (μ 2) (μ 3) (μ 25) (μ 26) ∧ CM (μ 4 5) (μ 5) (μ 6) ∧ CH (μ 4 5) (μ 9) (fun p => μ (36 + p)) ∧ CL (μ 4 5) (μ 10 3) (μ 10 4) (μ 10 5) (μ 11) (μ 12) ∧ CB (μ 4 5) (μ 14 3) (μ 15) (μ 16) ∧ CE (μ 4 5) (μ 10 3) (μ 10 4) (μ 14 3) (μ 9) (μ 11) (μ 12) (μ 7) ∧ CS (μ 18 2) (μ 20) ∧ Bd (μ 21 1) 0 60 ∧ CZ (fun s => if s = q then upd (μ (28 + q)) j v else μ (28 + s))) : CI (la_ms μ (28 + q) j v) := by
  have e : ∀ a, a ≠ 28 + q → la_ms μ (28 + q) j v a = μ a := fun a h => pu_msr h
  have e1 : (fun p => la_ms μ (28 + q) j v (28 + p)) = fun p => if p = q then upd (μ (28 + q)) j v else μ (28 + p) := funext fun p => by
    by_cases hp : p = q
    · subst hp; rw [if_pos rfl, la_ms_self]
    · rw [if_neg hp]; exact e _ (by omega)
  have hz : CH (μ 4 5) (μ 9) (fun p => la_ms μ (28 + q) j v (36 + p)) := by
    intro s hs
    have := h.2.2.1 s hs
    dsimp only
    rw [e (36 + s) (by omega)]
    exact this
  unfold CI
  rw [e1, e 24 (by omega), e 2 (by omega), e 3 (by omega), e 25 (by omega), e 26 (by omega), e 5 (by omega), e 6 (by omega), e 9 (by omega), e 11 (by omega), e 12 (by omega), e 15 (by omega), e 16 (by omega), e 7 (by omega), e 20 (by omega), e 4 (by omega), e 10 (by omega), e 14 (by omega), e 18 (by omega), e 21 (by omega)]
  exact ⟨h.1, h.2.1, hz, h.2.2.2⟩
theorem ci_free {μ : la_Mem} {k j : Nat} {v : Int32} (hk : k = 0 ∨ k = 13 ∨ k = 17 ∨ k = 22 ∨ k = 27 ∨ (32 ≤ k ∧ k < 36) ∨ 48 ≤ k) (h : CI μ) : CI (la_ms μ k j v) := by
  have e : ∀ a, a ≠ k → la_ms μ k j v a = μ a := fun a h => pu_msr h
  have hz : CZ (fun p => la_ms μ k j v (28 + p)) := by
    intro s hs
    have := h.2.2.2.2.2.2.2.2 s hs
    dsimp only
    rw [e (28 + s) (by omega)]
    exact this
  have hz2 : CH (μ 4 5) (μ 9) (fun p => la_ms μ k j v (36 + p)) := by
    intro s hs
    have := h.2.2.1 s hs
    dsimp only
    rw [e (36 + s) (by omega)]
    exact this
  unfold CI
  rw [e 24 (by omega), e 2 (by omega), e 3 (by omega), e 25 (by omega), e 26 (by omega), e 5 (by omega), e 6 (by omega), e 9 (by omega), e 11 (by omega), e 12 (by omega), e 15 (by omega), e 16 (by omega), e 7 (by omega), e 20 (by omega), e 4 (by omega), e 10 (by omega), e 14 (by omega), e 18 (by omega), e 21 (by omega)]
  exact ⟨h.1, h.2.1, hz2, h.2.2.2.1, h.2.2.2.2.1, h.2.2.2.2.2.1, h.2.2.2.2.2.2.1, h.2.2.2.2.2.2.2.1, hz⟩
theorem ci_slot {μ : la_Mem} {v : Int32} (h : CI μ) : CI (la_ms μ 14 4 v) := by
  have e : ∀ a, a ≠ 14 → la_ms μ 14 4 v a = μ a := fun a h => pu_msr h
  have e1 : (fun p => la_ms μ 14 4 v (36 + p)) = fun p => μ (36 + p) := funext fun p => e _ (by omega)
  have e2 : (fun p => la_ms μ 14 4 v (28 + p)) = fun p => μ (28 + p) := funext fun p => e _ (by omega)
  unfold CI
  rw [e1, e2, e 24 (by omega), e 2 (by omega), e 3 (by omega), e 25 (by omega), e 26 (by omega), e 5 (by omega), e 6 (by omega), e 9 (by omega), e 11 (by omega), e 12 (by omega), e 15 (by omega), e 16 (by omega), e 7 (by omega), e 20 (by omega), e 4 (by omega), e 10 (by omega), e 18 (by omega), e 21 (by omega), la_ms_self]
  exact h
