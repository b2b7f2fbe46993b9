abbrev LCz : Type := (ClassId × ClassId × ClassId × ClassId × ClassId) × (Nat → Nat) × va_G
abbrev LMz : Type := ClassId × (Nat → Nat) × va_G
def enC (cI cB cS cRI cRB : ClassId) (ad : Nat → Nat) (k : Nat) (r : Nat → Int32) : va_E :=
  if k = 0 then .inr (7, [.ref (ad 1), .ref (ad 4), .ref (ad 10), .ref (ad 14), .ref (ad 18), .ref (ad 21), .ref (ad 23), .ref (ad 24), .ref (ad 25), .ref (ad 26), .ref (ad 27), .int (r 11)]) else
  if k = 1 then .inr (0, [.ref (ad 2), .ref (ad 3)]) else
  if k = 2 then .inl (cI, 12, .inl r) else
  if k = 3 then .inl (cI, 12, .inl r) else
  if k = 4 then .inr (5, [.ref (ad 5), .ref (ad 6), .ref (ad 7), .ref (ad 8), .ref (ad 9), .int (r 5)]) else
  if k = 5 then .inl (cI, 60, .inl r) else
  if k = 6 then .inl (cI, 60, .inl r) else
  if k = 7 then .inl (cI, 60, .inl r) else
  if k = 8 then .inl (cRI, 12, .inr (.inr (.inr (.inr (fun i => if i < 12 then some (ad (36 + i)) else none))))) else
  if k = 9 then .inl (cI, 12, .inl r) else
  if k = 10 then .inr (2, [.ref (ad 11), .ref (ad 12), .ref (ad 13), .int (r 3), .int (r 4), .int (r 5)]) else
  if k = 11 then .inl (cI, 24, .inl r) else
  if k = 12 then .inl (cI, 24, .inl r) else
  if k = 13 then .inl (cI, 24, .inl r) else
  if k = 14 then .inr (1, [.ref (ad 15), .ref (ad 16), .ref (ad 17), .int (r 3), .int (r 4)]) else
  if k = 15 then .inl (cI, 60, .inl r) else
  if k = 16 then .inl (cI, 60, .inl r) else
  if k = 17 then .inl (cI, 60, .inl r) else
  if k = 18 then .inr (4, [.ref (ad 19), .ref (ad 20), .int (r 2)]) else
  if k = 19 then .inl (cRB, 40, .inr (.inr (.inr (.inr (fun i => if i < 40 then some (ad (48 + i)) else none))))) else
  if k = 20 then .inl (cI, 40, .inl r) else
  if k = 21 then .inr (6, [.ref (ad 22), .int (r 1)]) else
  if k = 22 then .inl (cI, 60, .inl r) else
  if k = 23 then .inl (cS, 4, .inr (.inr (.inr (.inr (fun i => if i < 4 then some (ad (28 + i)) else none))))) else
  if k = 24 then .inl (cI, 12, .inl r) else
  if k = 25 then .inl (cI, 12, .inl r) else
  if k = 26 then .inl (cI, 4, .inl r) else
  if k = 27 then .inl (cI, 24, .inl r) else
  if k < 32 then .inr (3, [.ref (ad (k + 4)), .int (r 1), .int (r 2), .int (r 3)]) else
  if k < 36 then .inl (cI, 40, .inl r) else
  if k < 48 then .inl (cI, 8, .inl r) else .inl (cB, 24, .inl r)
def LC (z : LCz) : la_Lay := (88, enC z.1.1 z.1.2.1 z.1.2.2.1 z.1.2.2.2.1 z.1.2.2.2.2 z.2.1, z.2.1, [(z.1.1, .int), (z.1.2.1, .byte), (z.1.2.2.1, .object "LineCaster$Sheet"), (z.1.2.2.2.1, .array .int), (z.1.2.2.2.2, .array .byte)], z.2.2)
def enM (cI : ClassId) (ad : Nat → Nat) (k : Nat) (r : Nat → Int32) : va_E :=
  if k = 0 then .inr (8, [.ref (ad 1), .ref (ad 2), .ref (ad 3), .ref (ad 4), .ref (ad 5), .int (r 5), .ref (ad 6), .ref (ad 7), .ref (ad 8), .ref (ad 9), .ref (ad 10), .int (r 11), .int (r 12), .ref (ad 11), .int (r 14), .ref (ad 12), .ref (ad 13), .int (r 17), .int (r 18), .ref (ad 14), .ref (ad 15), .ref (ad 16), .int (r 22), .int (r 23), .ref (ad 17), .ref (ad 18), .ref (ad 19), .ref (ad 20), .ref (ad 21), .int (r 29), .ref (ad 22), .ref (ad 23), .ref (ad 24), .ref (ad 25)]) else
  if k = 1 then .inl (cI, 12, .inl r) else
  if k = 2 then .inl (cI, 12, .inl r) else
  if k = 3 then .inl (cI, 12, .inl r) else
  if k = 4 then .inl (cI, 12, .inl r) else
  if k = 5 then .inl (cI, 4, .inl r) else
  if k = 6 then .inl (cI, 60, .inl r) else
  if k = 7 then .inl (cI, 60, .inl r) else
  if k = 8 then .inl (cI, 60, .inl r) else
  if k = 9 then .inl (cI, 12, .inl r) else
  if k = 10 then .inl (cI, 96, .inl r) else
  if k = 11 then .inl (cI, 24, .inl r) else
  if k = 12 then .inl (cI, 24, .inl r) else
  if k = 13 then .inl (cI, 24, .inl r) else
  if k = 14 then .inl (cI, 60, .inl r) else
  if k = 15 then .inl (cI, 60, .inl r) else
  if k = 16 then .inl (cI, 60, .inl r) else
  if k = 17 then .inl (cI, 40, .inl r) else
  if k = 18 then .inl (cI, 960, .inl r) else
  if k = 19 then .inl (cI, 24, .inl r) else
  if k = 20 then .inl (cI, 24, .inl r) else
  if k = 21 then .inl (cI, 60, .inl r) else
  if k = 22 then .inl (cI, 4, .inl r) else
  if k = 23 then .inl (cI, 4, .inl r) else
  if k = 24 then .inl (cI, 160, .inl r) else
  if k = 25 then .inl (cI, 40, .inl r) else
  .inl (cI, 0, .inl r)
def LM (z : LMz) : la_Lay := (26, enM z.1 z.2.1, z.2.1, [(z.1, .int)], z.2.2)
theorem enLC_0 (z : LCz) (r : Nat → Int32) : (LC z).2.1 0 r = .inr (7, [.ref (z.2.1 1), .ref (z.2.1 4), .ref (z.2.1 10), .ref (z.2.1 14), .ref (z.2.1 18), .ref (z.2.1 21), .ref (z.2.1 23), .ref (z.2.1 24), .ref (z.2.1 25), .ref (z.2.1 26), .ref (z.2.1 27), .int (r 11)]) := rfl
theorem enLC_1 (z : LCz) (r : Nat → Int32) : (LC z).2.1 1 r = .inr (0, [.ref (z.2.1 2), .ref (z.2.1 3)]) := rfl
theorem enLC_2 (z : LCz) (r : Nat → Int32) : (LC z).2.1 2 r = .inl (z.1.1, 12, .inl r) := rfl
theorem enLC_3 (z : LCz) (r : Nat → Int32) : (LC z).2.1 3 r = .inl (z.1.1, 12, .inl r) := rfl
theorem enLC_4 (z : LCz) (r : Nat → Int32) : (LC z).2.1 4 r = .inr (5, [.ref (z.2.1 5), .ref (z.2.1 6), .ref (z.2.1 7), .ref (z.2.1 8), .ref (z.2.1 9), .int (r 5)]) := rfl
theorem enLC_5 (z : LCz) (r : Nat → Int32) : (LC z).2.1 5 r = .inl (z.1.1, 60, .inl r) := rfl
theorem enLC_6 (z : LCz) (r : Nat → Int32) : (LC z).2.1 6 r = .inl (z.1.1, 60, .inl r) := rfl
theorem enLC_7 (z : LCz) (r : Nat → Int32) : (LC z).2.1 7 r = .inl (z.1.1, 60, .inl r) := rfl
theorem enLC_8 (z : LCz) (r : Nat → Int32) : (LC z).2.1 8 r = .inl (z.1.2.2.2.1, 12, .inr (.inr (.inr (.inr (fun i => if i < 12 then some (z.2.1 (36 + i)) else none))))) := rfl
theorem enLC_9 (z : LCz) (r : Nat → Int32) : (LC z).2.1 9 r = .inl (z.1.1, 12, .inl r) := rfl
theorem enLC_10 (z : LCz) (r : Nat → Int32) : (LC z).2.1 10 r = .inr (2, [.ref (z.2.1 11), .ref (z.2.1 12), .ref (z.2.1 13), .int (r 3), .int (r 4), .int (r 5)]) := rfl
theorem enLC_11 (z : LCz) (r : Nat → Int32) : (LC z).2.1 11 r = .inl (z.1.1, 24, .inl r) := rfl
theorem enLC_12 (z : LCz) (r : Nat → Int32) : (LC z).2.1 12 r = .inl (z.1.1, 24, .inl r) := rfl
theorem enLC_13 (z : LCz) (r : Nat → Int32) : (LC z).2.1 13 r = .inl (z.1.1, 24, .inl r) := rfl
theorem enLC_14 (z : LCz) (r : Nat → Int32) : (LC z).2.1 14 r = .inr (1, [.ref (z.2.1 15), .ref (z.2.1 16), .ref (z.2.1 17), .int (r 3), .int (r 4)]) := rfl
theorem enLC_15 (z : LCz) (r : Nat → Int32) : (LC z).2.1 15 r = .inl (z.1.1, 60, .inl r) := rfl
theorem enLC_16 (z : LCz) (r : Nat → Int32) : (LC z).2.1 16 r = .inl (z.1.1, 60, .inl r) := rfl
theorem enLC_17 (z : LCz) (r : Nat → Int32) : (LC z).2.1 17 r = .inl (z.1.1, 60, .inl r) := rfl
theorem enLC_18 (z : LCz) (r : Nat → Int32) : (LC z).2.1 18 r = .inr (4, [.ref (z.2.1 19), .ref (z.2.1 20), .int (r 2)]) := rfl
theorem enLC_19 (z : LCz) (r : Nat → Int32) : (LC z).2.1 19 r = .inl (z.1.2.2.2.2, 40, .inr (.inr (.inr (.inr (fun i => if i < 40 then some (z.2.1 (48 + i)) else none))))) := rfl
theorem enLC_20 (z : LCz) (r : Nat → Int32) : (LC z).2.1 20 r = .inl (z.1.1, 40, .inl r) := rfl
theorem enLC_21 (z : LCz) (r : Nat → Int32) : (LC z).2.1 21 r = .inr (6, [.ref (z.2.1 22), .int (r 1)]) := rfl
theorem enLC_22 (z : LCz) (r : Nat → Int32) : (LC z).2.1 22 r = .inl (z.1.1, 60, .inl r) := rfl
theorem enLC_23 (z : LCz) (r : Nat → Int32) : (LC z).2.1 23 r = .inl (z.1.2.2.1, 4, .inr (.inr (.inr (.inr (fun i => if i < 4 then some (z.2.1 (28 + i)) else none))))) := rfl
theorem enLC_24 (z : LCz) (r : Nat → Int32) : (LC z).2.1 24 r = .inl (z.1.1, 12, .inl r) := rfl
theorem enLC_25 (z : LCz) (r : Nat → Int32) : (LC z).2.1 25 r = .inl (z.1.1, 12, .inl r) := rfl
theorem enLC_26 (z : LCz) (r : Nat → Int32) : (LC z).2.1 26 r = .inl (z.1.1, 4, .inl r) := rfl
theorem enLC_27 (z : LCz) (r : Nat → Int32) : (LC z).2.1 27 r = .inl (z.1.1, 24, .inl r) := rfl
theorem enLC_28 (z : LCz) {s : Nat} (hs : s < 4) (r : Nat → Int32) : (LC z).2.1 (28 + s) r = .inr (3, [.ref (z.2.1 (28 + s + 4)), .int (r 1), .int (r 2), .int (r 3)]) := by
  show enC _ _ _ _ _ _ (28 + s) r = _
  unfold enC
  rw [if_neg (show ¬ 28 + s = 0 by omega)]
  rw [if_neg (show ¬ 28 + s = 1 by omega)]
  rw [if_neg (show ¬ 28 + s = 2 by omega)]
  rw [if_neg (show ¬ 28 + s = 3 by omega)]
  rw [if_neg (show ¬ 28 + s = 4 by omega)]
  rw [if_neg (show ¬ 28 + s = 5 by omega)]
  rw [if_neg (show ¬ 28 + s = 6 by omega)]
  rw [if_neg (show ¬ 28 + s = 7 by omega)]
  rw [if_neg (show ¬ 28 + s = 8 by omega)]
  rw [if_neg (show ¬ 28 + s = 9 by omega)]
  rw [if_neg (show ¬ 28 + s = 10 by omega)]
  rw [if_neg (show ¬ 28 + s = 11 by omega)]
  rw [if_neg (show ¬ 28 + s = 12 by omega)]
  rw [if_neg (show ¬ 28 + s = 13 by omega)]
  rw [if_neg (show ¬ 28 + s = 14 by omega)]
  rw [if_neg (show ¬ 28 + s = 15 by omega)]
  rw [if_neg (show ¬ 28 + s = 16 by omega)]
  rw [if_neg (show ¬ 28 + s = 17 by omega)]
  rw [if_neg (show ¬ 28 + s = 18 by omega)]
  rw [if_neg (show ¬ 28 + s = 19 by omega)]
  rw [if_neg (show ¬ 28 + s = 20 by omega)]
  rw [if_neg (show ¬ 28 + s = 21 by omega)]
  rw [if_neg (show ¬ 28 + s = 22 by omega)]
  rw [if_neg (show ¬ 28 + s = 23 by omega)]
  rw [if_neg (show ¬ 28 + s = 24 by omega)]
  rw [if_neg (show ¬ 28 + s = 25 by omega)]
  rw [if_neg (show ¬ 28 + s = 26 by omega)]
  rw [if_neg (show ¬ 28 + s = 27 by omega)]
  rw [if_pos (show 28 + s < 32 by omega)]
theorem ltLC_28 {z : LCz} {s : Nat} (hs : s < 4) : 28 + s < (LC z).1 := by
  show 28 + s < 88
  omega
theorem enLC_32 (z : LCz) {s : Nat} (hs : s < 4) (r : Nat → Int32) : (LC z).2.1 (28 + s + 4) r = .inl (z.1.1, 40, .inl r) := by
  show enC _ _ _ _ _ _ (28 + s + 4) r = _
  unfold enC
  rw [if_neg (show ¬ 28 + s + 4 = 0 by omega)]
  rw [if_neg (show ¬ 28 + s + 4 = 1 by omega)]
  rw [if_neg (show ¬ 28 + s + 4 = 2 by omega)]
  rw [if_neg (show ¬ 28 + s + 4 = 3 by omega)]
  rw [if_neg (show ¬ 28 + s + 4 = 4 by omega)]
  rw [if_neg (show ¬ 28 + s + 4 = 5 by omega)]
  rw [if_neg (show ¬ 28 + s + 4 = 6 by omega)]
  rw [if_neg (show ¬ 28 + s + 4 = 7 by omega)]
  rw [if_neg (show ¬ 28 + s + 4 = 8 by omega)]
  rw [if_neg (show ¬ 28 + s + 4 = 9 by omega)]
  rw [if_neg (show ¬ 28 + s + 4 = 10 by omega)]
  rw [if_neg (show ¬ 28 + s + 4 = 11 by omega)]
  rw [if_neg (show ¬ 28 + s + 4 = 12 by omega)]
  rw [if_neg (show ¬ 28 + s + 4 = 13 by omega)]
  rw [if_neg (show ¬ 28 + s + 4 = 14 by omega)]
  rw [if_neg (show ¬ 28 + s + 4 = 15 by omega)]
  rw [if_neg (show ¬ 28 + s + 4 = 16 by omega)]
  rw [if_neg (show ¬ 28 + s + 4 = 17 by omega)]
  rw [if_neg (show ¬ 28 + s + 4 = 18 by omega)]
  rw [if_neg (show ¬ 28 + s + 4 = 19 by omega)]
  rw [if_neg (show ¬ 28 + s + 4 = 20 by omega)]
  rw [if_neg (show ¬ 28 + s + 4 = 21 by omega)]
  rw [if_neg (show ¬ 28 + s + 4 = 22 by omega)]
  rw [if_neg (show ¬ 28 + s + 4 = 23 by omega)]
  rw [if_neg (show ¬ 28 + s + 4 = 24 by omega)]
  rw [if_neg (show ¬ 28 + s + 4 = 25 by omega)]
  rw [if_neg (show ¬ 28 + s + 4 = 26 by omega)]
  rw [if_neg (show ¬ 28 + s + 4 = 27 by omega)]
  rw [if_neg (show ¬ 28 + s + 4 < 32 by omega)]
  rw [if_pos (show 28 + s + 4 < 36 by omega)]
theorem ltLC_32 {z : LCz} {s : Nat} (hs : s < 4) : 28 + s + 4 < (LC z).1 := by
  show 28 + s + 4 < 88
  omega
theorem enLC_36 (z : LCz) {s : Nat} (hs : s < 12) (r : Nat → Int32) : (LC z).2.1 (36 + s) r = .inl (z.1.1, 8, .inl r) := by
  show enC _ _ _ _ _ _ (36 + s) r = _
  unfold enC
  rw [if_neg (show ¬ 36 + s = 0 by omega)]
  rw [if_neg (show ¬ 36 + s = 1 by omega)]
  rw [if_neg (show ¬ 36 + s = 2 by omega)]
  rw [if_neg (show ¬ 36 + s = 3 by omega)]
  rw [if_neg (show ¬ 36 + s = 4 by omega)]
  rw [if_neg (show ¬ 36 + s = 5 by omega)]
  rw [if_neg (show ¬ 36 + s = 6 by omega)]
  rw [if_neg (show ¬ 36 + s = 7 by omega)]
  rw [if_neg (show ¬ 36 + s = 8 by omega)]
  rw [if_neg (show ¬ 36 + s = 9 by omega)]
  rw [if_neg (show ¬ 36 + s = 10 by omega)]
  rw [if_neg (show ¬ 36 + s = 11 by omega)]
  rw [if_neg (show ¬ 36 + s = 12 by omega)]
  rw [if_neg (show ¬ 36 + s = 13 by omega)]
  rw [if_neg (show ¬ 36 + s = 14 by omega)]
  rw [if_neg (show ¬ 36 + s = 15 by omega)]
  rw [if_neg (show ¬ 36 + s = 16 by omega)]
  rw [if_neg (show ¬ 36 + s = 17 by omega)]
  rw [if_neg (show ¬ 36 + s = 18 by omega)]
  rw [if_neg (show ¬ 36 + s = 19 by omega)]
  rw [if_neg (show ¬ 36 + s = 20 by omega)]
  rw [if_neg (show ¬ 36 + s = 21 by omega)]
  rw [if_neg (show ¬ 36 + s = 22 by omega)]
  rw [if_neg (show ¬ 36 + s = 23 by omega)]
  rw [if_neg (show ¬ 36 + s = 24 by omega)]
  rw [if_neg (show ¬ 36 + s = 25 by omega)]
  rw [if_neg (show ¬ 36 + s = 26 by omega)]
  rw [if_neg (show ¬ 36 + s = 27 by omega)]
  rw [if_neg (show ¬ 36 + s < 32 by omega)]
  rw [if_neg (show ¬ 36 + s < 36 by omega)]
  rw [if_pos (show 36 + s < 48 by omega)]
theorem ltLC_36 {z : LCz} {s : Nat} (hs : s < 12) : 36 + s < (LC z).1 := by
  show 36 + s < 88
  omega
theorem enLC_48 (z : LCz) {s : Nat} (hs : s < 40) (r : Nat → Int32) : (LC z).2.1 (48 + s) r = .inl (z.1.2.1, 24, .inl r) := by
  show enC _ _ _ _ _ _ (48 + s) r = _
  unfold enC
  rw [if_neg (show ¬ 48 + s = 0 by omega)]
  rw [if_neg (show ¬ 48 + s = 1 by omega)]
  rw [if_neg (show ¬ 48 + s = 2 by omega)]
  rw [if_neg (show ¬ 48 + s = 3 by omega)]
  rw [if_neg (show ¬ 48 + s = 4 by omega)]
  rw [if_neg (show ¬ 48 + s = 5 by omega)]
  rw [if_neg (show ¬ 48 + s = 6 by omega)]
  rw [if_neg (show ¬ 48 + s = 7 by omega)]
  rw [if_neg (show ¬ 48 + s = 8 by omega)]
  rw [if_neg (show ¬ 48 + s = 9 by omega)]
  rw [if_neg (show ¬ 48 + s = 10 by omega)]
  rw [if_neg (show ¬ 48 + s = 11 by omega)]
  rw [if_neg (show ¬ 48 + s = 12 by omega)]
  rw [if_neg (show ¬ 48 + s = 13 by omega)]
  rw [if_neg (show ¬ 48 + s = 14 by omega)]
  rw [if_neg (show ¬ 48 + s = 15 by omega)]
  rw [if_neg (show ¬ 48 + s = 16 by omega)]
  rw [if_neg (show ¬ 48 + s = 17 by omega)]
  rw [if_neg (show ¬ 48 + s = 18 by omega)]
  rw [if_neg (show ¬ 48 + s = 19 by omega)]
  rw [if_neg (show ¬ 48 + s = 20 by omega)]
  rw [if_neg (show ¬ 48 + s = 21 by omega)]
  rw [if_neg (show ¬ 48 + s = 22 by omega)]
  rw [if_neg (show ¬ 48 + s = 23 by omega)]
  rw [if_neg (show ¬ 48 + s = 24 by omega)]
  rw [if_neg (show ¬ 48 + s = 25 by omega)]
  rw [if_neg (show ¬ 48 + s = 26 by omega)]
  rw [if_neg (show ¬ 48 + s = 27 by omega)]
  rw [if_neg (show ¬ 48 + s < 32 by omega)]
  rw [if_neg (show ¬ 48 + s < 36 by omega)]
  rw [if_neg (show ¬ 48 + s < 48 by omega)]
theorem ltLC_48 {z : LCz} {s : Nat} (hs : s < 40) : 48 + s < (LC z).1 := by
  show 48 + s < 88
  omega
theorem enLM_0 (z : LMz) (r : Nat → Int32) : (LM z).2.1 0 r = .inr (8, [.ref (z.2.1 1), .ref (z.2.1 2), .ref (z.2.1 3), .ref (z.2.1 4), .ref (z.2.1 5), .int (r 5), .ref (z.2.1 6), .ref (z.2.1 7), .ref (z.2.1 8), .ref (z.2.1 9), .ref (z.2.1 10), .int (r 11), .int (r 12), .ref (z.2.1 11), .int (r 14), .ref (z.2.1 12), .ref (z.2.1 13), .int (r 17), .int (r 18), .ref (z.2.1 14), .ref (z.2.1 15), .ref (z.2.1 16), .int (r 22), .int (r 23), .ref (z.2.1 17), .ref (z.2.1 18), .ref (z.2.1 19), .ref (z.2.1 20), .ref (z.2.1 21), .int (r 29), .ref (z.2.1 22), .ref (z.2.1 23), .ref (z.2.1 24), .ref (z.2.1 25)]) := rfl
theorem enLM_1 (z : LMz) (r : Nat → Int32) : (LM z).2.1 1 r = .inl (z.1, 12, .inl r) := rfl
theorem enLM_2 (z : LMz) (r : Nat → Int32) : (LM z).2.1 2 r = .inl (z.1, 12, .inl r) := rfl
theorem enLM_3 (z : LMz) (r : Nat → Int32) : (LM z).2.1 3 r = .inl (z.1, 12, .inl r) := rfl
theorem enLM_4 (z : LMz) (r : Nat → Int32) : (LM z).2.1 4 r = .inl (z.1, 12, .inl r) := rfl
theorem enLM_5 (z : LMz) (r : Nat → Int32) : (LM z).2.1 5 r = .inl (z.1, 4, .inl r) := rfl
theorem enLM_6 (z : LMz) (r : Nat → Int32) : (LM z).2.1 6 r = .inl (z.1, 60, .inl r) := rfl
theorem enLM_7 (z : LMz) (r : Nat → Int32) : (LM z).2.1 7 r = .inl (z.1, 60, .inl r) := rfl
theorem enLM_8 (z : LMz) (r : Nat → Int32) : (LM z).2.1 8 r = .inl (z.1, 60, .inl r) := rfl
theorem enLM_9 (z : LMz) (r : Nat → Int32) : (LM z).2.1 9 r = .inl (z.1, 12, .inl r) := rfl
theorem enLM_10 (z : LMz) (r : Nat → Int32) : (LM z).2.1 10 r = .inl (z.1, 96, .inl r) := rfl
theorem enLM_11 (z : LMz) (r : Nat → Int32) : (LM z).2.1 11 r = .inl (z.1, 24, .inl r) := rfl
theorem enLM_12 (z : LMz) (r : Nat → Int32) : (LM z).2.1 12 r = .inl (z.1, 24, .inl r) := rfl
theorem enLM_13 (z : LMz) (r : Nat → Int32) : (LM z).2.1 13 r = .inl (z.1, 24, .inl r) := rfl
theorem enLM_14 (z : LMz) (r : Nat → Int32) : (LM z).2.1 14 r = .inl (z.1, 60, .inl r) := rfl
theorem enLM_15 (z : LMz) (r : Nat → Int32) : (LM z).2.1 15 r = .inl (z.1, 60, .inl r) := rfl
theorem enLM_16 (z : LMz) (r : Nat → Int32) : (LM z).2.1 16 r = .inl (z.1, 60, .inl r) := rfl
theorem enLM_17 (z : LMz) (r : Nat → Int32) : (LM z).2.1 17 r = .inl (z.1, 40, .inl r) := rfl
theorem enLM_18 (z : LMz) (r : Nat → Int32) : (LM z).2.1 18 r = .inl (z.1, 960, .inl r) := rfl
theorem enLM_19 (z : LMz) (r : Nat → Int32) : (LM z).2.1 19 r = .inl (z.1, 24, .inl r) := rfl
theorem enLM_20 (z : LMz) (r : Nat → Int32) : (LM z).2.1 20 r = .inl (z.1, 24, .inl r) := rfl
theorem enLM_21 (z : LMz) (r : Nat → Int32) : (LM z).2.1 21 r = .inl (z.1, 60, .inl r) := rfl
theorem enLM_22 (z : LMz) (r : Nat → Int32) : (LM z).2.1 22 r = .inl (z.1, 4, .inl r) := rfl
theorem enLM_23 (z : LMz) (r : Nat → Int32) : (LM z).2.1 23 r = .inl (z.1, 4, .inl r) := rfl
theorem enLM_24 (z : LMz) (r : Nat → Int32) : (LM z).2.1 24 r = .inl (z.1, 160, .inl r) := rfl
theorem enLM_25 (z : LMz) (r : Nat → Int32) : (LM z).2.1 25 r = .inl (z.1, 40, .inl r) := rfl
