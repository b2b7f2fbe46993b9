def fX7_exchange (kq : Nat) (nq : Nat) (x1 : Int32) (x2 : Int32) (μ : la_Mem) : Option (Int32 × la_Mem) :=
  la_if (la_ix x1 nq) (la_st ((μ kq (Int32.toNatClampNeg x1))) (fun v3 => la_if (la_ix x1 nq) (la_st (la_ms μ kq (Int32.toNatClampNeg x1) x2) (fun μ7 => some (v3, μ7)))))
set_option maxRecDepth 10000 in
theorem mX7_exchange {z : LCz} {l : Launch} (kq : Nat) (nq : Nat) (x1 : Int32) (x2 : Int32) (μ : la_Mem) (r0 : Int32) (μ0 : la_Mem)  (hk : kq < (LC z).1) (hke : ∀ r : Nat → Int32, (LC z).2.1 kq r = .inl (z.1.1, nq, .inl r)) (h : fX7_exchange kq nq x1 x2 μ = some (r0, μ0)) : la_M (LC z) l yX7_exchange cX7_exchange 4 (some .int) rmX7_exchange [.ref (z.2.1 kq), .int x1, .int x2] μ (fun r' μ' => r' = r0 ∧ μ' = μ0) := by
  refine la_of (own := RX7) (lv := [(0, .ref (z.2.1 kq)), (1, .int x1), (2, .int x2)]) (by decide) rfl (Nat.le_of_ble_eq_true rfl) rfl (fun Φ C => ?_)
  unfold fX7_exchange at h
  have hret : r0 = r0 ∧ μ0 = μ0 := ⟨rfl, rfl⟩
  refine la_aload_n C dX7_exchange_0 0 rfl ?_
  refine la_iload_n C dX7_exchange_1 1 rfl ?_
  obtain ⟨hi2, h⟩ := la_go h
  refine ALCk C hk hke _ rfl hi2 dX7_exchange_2 ?_
  obtain ⟨v3, ev3, h⟩ := la_so h
  refine la_nm C ev3 ?_
  refine la_istore_n C dX7_exchange_3 (by decide) rfl ?_
  refine la_aload_n C dX7_exchange_4 1 rfl ?_
  refine la_iload_n C dX7_exchange_5 2 rfl ?_
  refine la_iload_n C dX7_exchange_6 3 rfl ?_
  obtain ⟨hi7, h⟩ := la_go h
  obtain ⟨μ7, eμ7, h⟩ := la_so h
  refine BLCk C hk hke _ rfl hi7 eμ7 dX7_exchange_7 ?_
  refine la_iload_n C dX7_exchange_8 0 rfl ?_
  exact la_iret C rfl (la_rW (P := (fun r' μ' => r' = r0 ∧ μ' = μ0)) h hret) dX7_exchange_9

def fX7_isLetter (x0 : Int32) (μ : la_Mem) : Option Int32 :=
  if x0 < 0 then (some 0) else (if 12 ≤ x0 then (some 0) else (some 1))
set_option maxRecDepth 10000 in
theorem mX7_isLetter {z : LCz} {l : Launch} (x0 : Int32) (μ : la_Mem) (r0 : Int32)  (h : fX7_isLetter x0 μ = some r0) : la_M (LC z) l yX7_isLetter cX7_isLetter 1 (some .boolean) rmX7_isLetter [.int x0] μ (fun r' μ' => r' = r0 ∧ μ' = μ) := by
  refine la_of (own := RX7) (lv := [(0, .int x0)]) (by decide) rfl (Nat.le_of_ble_eq_true rfl) rfl (fun Φ C => ?_)
  unfold fX7_isLetter at h
  have hret : r0 = r0 ∧ μ = μ := ⟨rfl, rfl⟩
  refine la_iload_n C dX7_isLetter_0 0 rfl ?_
  refine la_if_lt C (tgt := 14) dX7_isLetter_1 (by decide) (fun hc => ?_) (fun hc => ?_)
  · replace h := la_t hc h
    refine la_iconst C (v := 0) dX7_isLetter_14 (by decide) ?_
    exact la_iret C rfl (la_rR (P := (fun r' μ' => r' = r0 ∧ μ' = μ)) h hret) dX7_isLetter_15
  · replace h := la_f hc h
    refine la_iload_n C dX7_isLetter_4 0 rfl ?_
    refine la_bipush C (v := 12) dX7_isLetter_5 (by decide) ?_
    refine la_icmp_ge C (tgt := 14) dX7_isLetter_7 (by decide) (fun hc => ?_) (fun hc => ?_)
    · replace h := la_t hc h
      refine la_iconst C (v := 0) dX7_isLetter_14 (by decide) ?_
      exact la_iret C rfl (la_rR (P := (fun r' μ' => r' = r0 ∧ μ' = μ)) h hret) dX7_isLetter_15
    · replace h := la_f hc h
      refine la_iconst C (v := 1) dX7_isLetter_10 (by decide) ?_
      refine la_goto C (tgt := 15) dX7_isLetter_11 (by decide) ?_
      exact la_iret C rfl (la_rR (P := (fun r' μ' => r' = r0 ∧ μ' = μ)) h hret) dX7_isLetter_15

def fX7_letter_J54  (μ : la_Mem) : Option (Int32 × la_Mem) :=
  some ((-1), μ)
set_option maxRecDepth 10000 in
theorem wX7_letter_J54 {z : LCz} {l : Launch} {Post : Int32 → la_Mem → Prop} {Φ : Nat → List (Nat × Value) → List Value → la_Mem → Prop} (C : la_C (LC z) l rmX7_letter RX7 cX7_letter 4 (some .int) Post Φ)  (μ : la_Mem)  (ex : (Int32 × la_Mem)) (hret : Post ex.1 ex.2) (h : fX7_letter_J54  μ = some ex) : Φ 54 [] [] μ := by
  unfold fX7_letter_J54 at h
  refine la_iconst C (v := (-1)) dX7_letter_54 (by decide) ?_
  refine la_goto C (tgt := 70) dX7_letter_55 (by decide) ?_
  exact la_iret C rfl (la_rW (P := Post) h hret) dX7_letter_70
def fX7_letter_J24  (μ : la_Mem) : Option (Int32 × la_Mem) :=
  some ((-1), μ)
set_option maxRecDepth 10000 in
theorem wX7_letter_J24 {z : LCz} {l : Launch} {Post : Int32 → la_Mem → Prop} {Φ : Nat → List (Nat × Value) → List Value → la_Mem → Prop} (C : la_C (LC z) l rmX7_letter RX7 cX7_letter 4 (some .int) Post Φ)  (μ : la_Mem)  (ex : (Int32 × la_Mem)) (hret : Post ex.1 ex.2) (h : fX7_letter_J24  μ = some ex) : Φ 24 [] [] μ := by
  unfold fX7_letter_J24 at h
  refine la_iconst C (v := (-1)) dX7_letter_24 (by decide) ?_
  refine la_goto C (tgt := 37) dX7_letter_25 (by decide) ?_
  exact la_iret C rfl (la_rW (P := Post) h hret) dX7_letter_37
def fX7_letter (x1 : Int32) (x2 : Int32) (x3 : Int32) (μ : la_Mem) : Option (Int32 × la_Mem) :=
  (fX7_isLetter x1 μ).bind (fun r1 => if r1 = 0 then (some ((-1), μ)) else (if x2 = 0 then (if x3 < 1 then (fX7_letter_J24  μ) else (if x3 ≤ 40 then (la_b2 (fX7_exchange 24 12 x1 x3 μ) (fun r34 μ34 => some (r34, μ34))) else (fX7_letter_J24  μ))) else (if x2 = 1 then (if x3 < 1 then (fX7_letter_J54  μ) else (if x3 ≤ 127 then (la_b2 (fX7_exchange 2 12 x1 x3 μ) (fun r67 μ67 => some (r67, μ67))) else (fX7_letter_J54  μ))) else (some ((-1), μ)))))
set_option maxRecDepth 10000 in
theorem mX7_letter {z : LCz} {l : Launch} (x1 : Int32) (x2 : Int32) (x3 : Int32) (μ : la_Mem) (r0 : Int32) (μ0 : la_Mem)  (h : fX7_letter x1 x2 x3 μ = some (r0, μ0)) : la_M (LC z) l yX7_letter cX7_letter 4 (some .int) rmX7_letter [.ref (z.2.1 0), .int x1, .int x2, .int x3] μ (fun r' μ' => r' = r0 ∧ μ' = μ0) := by
  refine la_of (own := RX7) (lv := [(0, .ref (z.2.1 0)), (1, .int x1), (2, .int x2), (3, .int x3)]) (by decide) rfl (Nat.le_of_ble_eq_true rfl) rfl (fun Φ C => ?_)
  unfold fX7_letter at h
  have hret : r0 = r0 ∧ μ0 = μ0 := ⟨rfl, rfl⟩
  refine la_iload_n C dX7_letter_0 1 rfl ?_
  obtain ⟨r1, hr1, h⟩ := la_bd h
  refine KLCRX7_75 C [.int x1] [] (mX7_isLetter x1 μ r1 hr1) ⟨by decide, by decide⟩ rfl rfl (Nat.le_of_ble_eq_true rfl) dX7_letter_1 ?_
  refine la_if_ne C (tgt := 9) dX7_letter_4 (by decide) (fun hc => ?_) (fun hc => ?_)
  · replace h := la_f hc h
    refine la_iload_n C dX7_letter_9 2 rfl ?_
    refine la_if_ne C (tgt := 38) dX7_letter_10 (by decide) (fun hc => ?_) (fun hc => ?_)
    · replace h := la_f hc h
      refine la_iload_n C dX7_letter_38 2 rfl ?_
      refine la_iconst C (v := 1) dX7_letter_39 (by decide) ?_
      refine la_icmp_ne C (tgt := 71) dX7_letter_40 (by decide) (fun hc => ?_) (fun hc => ?_)
      · replace h := la_f hc h
        refine la_iconst C (v := (-1)) dX7_letter_71 (by decide) ?_
        exact la_iret C rfl (la_rW (P := (fun r' μ' => r' = r0 ∧ μ' = μ0)) h hret) dX7_letter_72
      · replace h := la_t hc h
        refine la_iload_n C dX7_letter_43 3 rfl ?_
        refine la_iconst C (v := 1) dX7_letter_44 (by decide) ?_
        refine la_icmp_lt C (tgt := 54) dX7_letter_45 (by decide) (fun hc => ?_) (fun hc => ?_)
        · replace h := la_t hc h
          refine la_sub C [] rfl ?_
          exact wX7_letter_J54 C  _  _ hret h
        · replace h := la_f hc h
          refine la_iload_n C dX7_letter_48 3 rfl ?_
          refine la_bipush C (v := 127) dX7_letter_49 (by decide) ?_
          refine la_icmp_le C (tgt := 58) dX7_letter_51 (by decide) (fun hc => ?_) (fun hc => ?_)
          · replace h := la_t hc h
            refine la_aload_n C dX7_letter_58 0 rfl ?_
            refine GLCRX7_12 C dX7_letter_59 ?_
            refine GLCRX7_83 C dX7_letter_62 ?_
            refine la_iload_n C dX7_letter_65 1 rfl ?_
            refine la_iload_n C dX7_letter_66 3 rfl ?_
            obtain ⟨r67, μ67, hr67, h⟩ := la_b2o h
            refine KLCRX7_79 C [.ref (z.2.1 2), .int x1, .int x3] [] (mX7_exchange 2 12 x1 x3 μ r67 μ67 (Nat.le_of_ble_eq_true rfl) (enLC_2 z) hr67) ⟨by decide, by decide⟩ rfl rfl (Nat.le_of_ble_eq_true rfl) dX7_letter_67 ?_
            exact la_iret C rfl (la_rW (P := (fun r' μ' => r' = r0 ∧ μ' = μ0)) h hret) dX7_letter_70
          · replace h := la_f hc h
            refine la_sub C [] rfl ?_
            exact wX7_letter_J54 C  _  _ hret h
    · replace h := la_t hc h
      refine la_iload_n C dX7_letter_13 3 rfl ?_
      refine la_iconst C (v := 1) dX7_letter_14 (by decide) ?_
      refine la_icmp_lt C (tgt := 24) dX7_letter_15 (by decide) (fun hc => ?_) (fun hc => ?_)
      · replace h := la_t hc h
        refine la_sub C [] rfl ?_
        exact wX7_letter_J24 C  _  _ hret h
      · replace h := la_f hc h
        refine la_iload_n C dX7_letter_18 3 rfl ?_
        refine la_bipush C (v := 40) dX7_letter_19 (by decide) ?_
        refine la_icmp_le C (tgt := 28) dX7_letter_21 (by decide) (fun hc => ?_) (fun hc => ?_)
        · replace h := la_t hc h
          refine la_aload_n C dX7_letter_28 0 rfl ?_
          refine GLCRX7_57 C dX7_letter_29 ?_
          refine la_iload_n C dX7_letter_32 1 rfl ?_
          refine la_iload_n C dX7_letter_33 3 rfl ?_
          obtain ⟨r34, μ34, hr34, h⟩ := la_b2o h
          refine KLCRX7_79 C [.ref (z.2.1 24), .int x1, .int x3] [] (mX7_exchange 24 12 x1 x3 μ r34 μ34 (Nat.le_of_ble_eq_true rfl) (enLC_24 z) hr34) ⟨by decide, by decide⟩ rfl rfl (Nat.le_of_ble_eq_true rfl) dX7_letter_34 ?_
          exact la_iret C rfl (la_rW (P := (fun r' μ' => r' = r0 ∧ μ' = μ0)) h hret) dX7_letter_37
        · replace h := la_f hc h
          refine la_sub C [] rfl ?_
          exact wX7_letter_J24 C  _  _ hret h
  · replace h := la_t hc h
    refine la_iconst C (v := (-1)) dX7_letter_7 (by decide) ?_
    exact la_iret C rfl (la_rW (P := (fun r' μ' => r' = r0 ∧ μ' = μ0)) h hret) dX7_letter_8

def fX7_isPlace (x0 : Int32) (μ : la_Mem) : Option Int32 :=
  if x0 < 0 then (some 0) else (if 12 ≤ x0 then (some 0) else (some 1))
set_option maxRecDepth 10000 in
theorem mX7_isPlace {z : LCz} {l : Launch} (x0 : Int32) (μ : la_Mem) (r0 : Int32)  (h : fX7_isPlace x0 μ = some r0) : la_M (LC z) l yX7_isPlace cX7_isPlace 1 (some .boolean) rmX7_isPlace [.int x0] μ (fun r' μ' => r' = r0 ∧ μ' = μ) := by
  refine la_of (own := RX7) (lv := [(0, .int x0)]) (by decide) rfl (Nat.le_of_ble_eq_true rfl) rfl (fun Φ C => ?_)
  unfold fX7_isPlace at h
  have hret : r0 = r0 ∧ μ = μ := ⟨rfl, rfl⟩
  refine la_iload_n C dX7_isPlace_0 0 rfl ?_
  refine la_if_lt C (tgt := 14) dX7_isPlace_1 (by decide) (fun hc => ?_) (fun hc => ?_)
  · replace h := la_t hc h
    refine la_iconst C (v := 0) dX7_isPlace_14 (by decide) ?_
    exact la_iret C rfl (la_rR (P := (fun r' μ' => r' = r0 ∧ μ' = μ)) h hret) dX7_isPlace_15
  · replace h := la_f hc h
    refine la_iload_n C dX7_isPlace_4 0 rfl ?_
    refine la_bipush C (v := 12) dX7_isPlace_5 (by decide) ?_
    refine la_icmp_ge C (tgt := 14) dX7_isPlace_7 (by decide) (fun hc => ?_) (fun hc => ?_)
    · replace h := la_t hc h
      refine la_iconst C (v := 0) dX7_isPlace_14 (by decide) ?_
      exact la_iret C rfl (la_rR (P := (fun r' μ' => r' = r0 ∧ μ' = μ)) h hret) dX7_isPlace_15
    · replace h := la_f hc h
      refine la_iconst C (v := 1) dX7_isPlace_10 (by decide) ?_
      refine la_goto C (tgt := 15) dX7_isPlace_11 (by decide) ?_
      exact la_iret C rfl (la_rR (P := (fun r' μ' => r' = r0 ∧ μ' = μ)) h hret) dX7_isPlace_15

def fX7_isTeeth (x0 : Int32) (μ : la_Mem) : Option Int32 :=
  if x0 < 0 then (some 0) else (if 127 < x0 then (some 0) else (some 1))
set_option maxRecDepth 10000 in
theorem mX7_isTeeth {z : LCz} {l : Launch} (x0 : Int32) (μ : la_Mem) (r0 : Int32)  (h : fX7_isTeeth x0 μ = some r0) : la_M (LC z) l yX7_isTeeth cX7_isTeeth 1 (some .boolean) rmX7_isTeeth [.int x0] μ (fun r' μ' => r' = r0 ∧ μ' = μ) := by
  refine la_of (own := RX7) (lv := [(0, .int x0)]) (by decide) rfl (Nat.le_of_ble_eq_true rfl) rfl (fun Φ C => ?_)
  unfold fX7_isTeeth at h
  have hret : r0 = r0 ∧ μ = μ := ⟨rfl, rfl⟩
  refine la_iload_n C dX7_isTeeth_0 0 rfl ?_
  refine la_if_lt C (tgt := 14) dX7_isTeeth_1 (by decide) (fun hc => ?_) (fun hc => ?_)
  · replace h := la_t hc h
    refine la_iconst C (v := 0) dX7_isTeeth_14 (by decide) ?_
    exact la_iret C rfl (la_rR (P := (fun r' μ' => r' = r0 ∧ μ' = μ)) h hret) dX7_isTeeth_15
  · replace h := la_f hc h
    refine la_iload_n C dX7_isTeeth_4 0 rfl ?_
    refine la_bipush C (v := 127) dX7_isTeeth_5 (by decide) ?_
    refine la_icmp_gt C (tgt := 14) dX7_isTeeth_7 (by decide) (fun hc => ?_) (fun hc => ?_)
    · replace h := la_t hc h
      refine la_iconst C (v := 0) dX7_isTeeth_14 (by decide) ?_
      exact la_iret C rfl (la_rR (P := (fun r' μ' => r' = r0 ∧ μ' = μ)) h hret) dX7_isTeeth_15
    · replace h := la_f hc h
      refine la_iconst C (v := 1) dX7_isTeeth_10 (by decide) ?_
      refine la_goto C (tgt := 15) dX7_isTeeth_11 (by decide) ?_
      exact la_iret C rfl (la_rR (P := (fun r' μ' => r' = r0 ∧ μ' = μ)) h hret) dX7_isTeeth_15

def fX7_place_J52  (μ : la_Mem) : Option (Int32 × la_Mem) :=
  some ((-1), μ)
set_option maxRecDepth 10000 in
theorem wX7_place_J52 {z : LCz} {l : Launch} {Post : Int32 → la_Mem → Prop} {Φ : Nat → List (Nat × Value) → List Value → la_Mem → Prop} (C : la_C (LC z) l rmX7_place RX7 cX7_place 4 (some .int) Post Φ)  (μ : la_Mem)  (ex : (Int32 × la_Mem)) (hret : Post ex.1 ex.2) (h : fX7_place_J52  μ = some ex) : Φ 52 [] [] μ := by
  unfold fX7_place_J52 at h
  refine la_iconst C (v := (-1)) dX7_place_52 (by decide) ?_
  refine la_goto C (tgt := 65) dX7_place_53 (by decide) ?_
  exact la_iret C rfl (la_rW (P := Post) h hret) dX7_place_65
def fX7_place (x1 : Int32) (x2 : Int32) (x3 : Int32) (μ : la_Mem) : Option (Int32 × la_Mem) :=
  (fX7_isPlace x1 μ).bind (fun r1 => if r1 = 0 then (some ((-1), μ)) else (if x2 = 0 then ((fX7_isTeeth x3 μ).bind (fun r14 => if r14 = 0 then (some ((-1), μ)) else (la_b2 (fX7_exchange 3 12 x1 x3 μ) (fun r29 μ29 => some (r29, μ29))))) else (if x2 = 1 then (if x3 < 0 then (fX7_place_J52  μ) else (if x3 ≤ 20 then (la_b2 (fX7_exchange 25 12 x1 x3 μ) (fun r62 μ62 => some (r62, μ62))) else (fX7_place_J52  μ))) else (some ((-1), μ)))))
set_option maxRecDepth 10000 in
theorem mX7_place {z : LCz} {l : Launch} (x1 : Int32) (x2 : Int32) (x3 : Int32) (μ : la_Mem) (r0 : Int32) (μ0 : la_Mem)  (h : fX7_place x1 x2 x3 μ = some (r0, μ0)) : la_M (LC z) l yX7_place cX7_place 4 (some .int) rmX7_place [.ref (z.2.1 0), .int x1, .int x2, .int x3] μ (fun r' μ' => r' = r0 ∧ μ' = μ0) := by
  refine la_of (own := RX7) (lv := [(0, .ref (z.2.1 0)), (1, .int x1), (2, .int x2), (3, .int x3)]) (by decide) rfl (Nat.le_of_ble_eq_true rfl) rfl (fun Φ C => ?_)
  unfold fX7_place at h
  have hret : r0 = r0 ∧ μ0 = μ0 := ⟨rfl, rfl⟩
  refine la_iload_n C dX7_place_0 1 rfl ?_
  obtain ⟨r1, hr1, h⟩ := la_bd h
  refine KLCRX7_86 C [.int x1] [] (mX7_isPlace x1 μ r1 hr1) ⟨by decide, by decide⟩ rfl rfl (Nat.le_of_ble_eq_true rfl) dX7_place_1 ?_
  refine la_if_ne C (tgt := 9) dX7_place_4 (by decide) (fun hc => ?_) (fun hc => ?_)
  · replace h := la_f hc h
    refine la_iload_n C dX7_place_9 2 rfl ?_
    refine la_if_ne C (tgt := 37) dX7_place_10 (by decide) (fun hc => ?_) (fun hc => ?_)
    · replace h := la_f hc h
      refine la_iload_n C dX7_place_37 2 rfl ?_
      refine la_iconst C (v := 1) dX7_place_38 (by decide) ?_
      refine la_icmp_ne C (tgt := 66) dX7_place_39 (by decide) (fun hc => ?_) (fun hc => ?_)
      · replace h := la_f hc h
        refine la_iconst C (v := (-1)) dX7_place_66 (by decide) ?_
        exact la_iret C rfl (la_rW (P := (fun r' μ' => r' = r0 ∧ μ' = μ0)) h hret) dX7_place_67
      · replace h := la_t hc h
        refine la_iload_n C dX7_place_42 3 rfl ?_
        refine la_if_lt C (tgt := 52) dX7_place_43 (by decide) (fun hc => ?_) (fun hc => ?_)
        · replace h := la_t hc h
          refine la_sub C [] rfl ?_
          exact wX7_place_J52 C  _  _ hret h
        · replace h := la_f hc h
          refine la_iload_n C dX7_place_46 3 rfl ?_
          refine la_bipush C (v := 20) dX7_place_47 (by decide) ?_
          refine la_icmp_le C (tgt := 56) dX7_place_49 (by decide) (fun hc => ?_) (fun hc => ?_)
          · replace h := la_t hc h
            refine la_aload_n C dX7_place_56 0 rfl ?_
            refine GLCRX7_61 C dX7_place_57 ?_
            refine la_iload_n C dX7_place_60 1 rfl ?_
            refine la_iload_n C dX7_place_61 3 rfl ?_
            obtain ⟨r62, μ62, hr62, h⟩ := la_b2o h
            refine KLCRX7_79 C [.ref (z.2.1 25), .int x1, .int x3] [] (mX7_exchange 25 12 x1 x3 μ r62 μ62 (Nat.le_of_ble_eq_true rfl) (enLC_25 z) hr62) ⟨by decide, by decide⟩ rfl rfl (Nat.le_of_ble_eq_true rfl) dX7_place_62 ?_
            exact la_iret C rfl (la_rW (P := (fun r' μ' => r' = r0 ∧ μ' = μ0)) h hret) dX7_place_65
          · replace h := la_f hc h
            refine la_sub C [] rfl ?_
            exact wX7_place_J52 C  _  _ hret h
    · replace h := la_t hc h
      refine la_iload_n C dX7_place_13 3 rfl ?_
      obtain ⟨r14, hr14, h⟩ := la_bd h
      refine KLCRX7_89 C [.int x3] [] (mX7_isTeeth x3 μ r14 hr14) ⟨by decide, by decide⟩ rfl rfl (Nat.le_of_ble_eq_true rfl) dX7_place_14 ?_
      refine la_if_eq C (tgt := 35) dX7_place_17 (by decide) (fun hc => ?_) (fun hc => ?_)
      · replace h := la_t hc h
        refine la_iconst C (v := (-1)) dX7_place_35 (by decide) ?_
        exact la_iret C rfl (la_rW (P := (fun r' μ' => r' = r0 ∧ μ' = μ0)) h hret) dX7_place_36
      · replace h := la_f hc h
        refine la_aload_n C dX7_place_20 0 rfl ?_
        refine GLCRX7_12 C dX7_place_21 ?_
        refine GLCRX7_92 C dX7_place_24 ?_
        refine la_iload_n C dX7_place_27 1 rfl ?_
        refine la_iload_n C dX7_place_28 3 rfl ?_
        obtain ⟨r29, μ29, hr29, h⟩ := la_b2o h
        refine KLCRX7_79 C [.ref (z.2.1 3), .int x1, .int x3] [] (mX7_exchange 3 12 x1 x3 μ r29 μ29 (Nat.le_of_ble_eq_true rfl) (enLC_3 z) hr29) ⟨by decide, by decide⟩ rfl rfl (Nat.le_of_ble_eq_true rfl) dX7_place_29 ?_
        refine la_goto C (tgt := 36) dX7_place_32 (by decide) ?_
        exact la_iret C rfl (la_rW (P := (fun r' μ' => r' = r0 ∧ μ' = μ0)) h hret) dX7_place_36
  · replace h := la_t hc h
    refine la_iconst C (v := (-1)) dX7_place_7 (by decide) ?_
    exact la_iret C rfl (la_rW (P := (fun r' μ' => r' = r0 ∧ μ' = μ0)) h hret) dX7_place_8

def fX7_isLane (x0 : Int32) (μ : la_Mem) : Option Int32 :=
  if x0 < 0 then (some 0) else (if 3 ≤ x0 then (some 0) else (some 1))
set_option maxRecDepth 10000 in
theorem mX7_isLane {z : LCz} {l : Launch} (x0 : Int32) (μ : la_Mem) (r0 : Int32)  (h : fX7_isLane x0 μ = some r0) : la_M (LC z) l yX7_isLane cX7_isLane 1 (some .boolean) rmX7_isLane [.int x0] μ (fun r' μ' => r' = r0 ∧ μ' = μ) := by
  refine la_of (own := RX7) (lv := [(0, .int x0)]) (by decide) rfl (Nat.le_of_ble_eq_true rfl) rfl (fun Φ C => ?_)
  unfold fX7_isLane at h
  have hret : r0 = r0 ∧ μ = μ := ⟨rfl, rfl⟩
  refine la_iload_n C dX7_isLane_0 0 rfl ?_
  refine la_if_lt C (tgt := 13) dX7_isLane_1 (by decide) (fun hc => ?_) (fun hc => ?_)
  · replace h := la_t hc h
    refine la_iconst C (v := 0) dX7_isLane_13 (by decide) ?_
    exact la_iret C rfl (la_rR (P := (fun r' μ' => r' = r0 ∧ μ' = μ)) h hret) dX7_isLane_14
  · replace h := la_f hc h
    refine la_iload_n C dX7_isLane_4 0 rfl ?_
    refine la_iconst C (v := 3) dX7_isLane_5 (by decide) ?_
    refine la_icmp_ge C (tgt := 13) dX7_isLane_6 (by decide) (fun hc => ?_) (fun hc => ?_)
    · replace h := la_t hc h
      refine la_iconst C (v := 0) dX7_isLane_13 (by decide) ?_
      exact la_iret C rfl (la_rR (P := (fun r' μ' => r' = r0 ∧ μ' = μ)) h hret) dX7_isLane_14
    · replace h := la_f hc h
      refine la_iconst C (v := 1) dX7_isLane_9 (by decide) ?_
      refine la_goto C (tgt := 14) dX7_isLane_10 (by decide) ?_
      exact la_iret C rfl (la_rR (P := (fun r' μ' => r' = r0 ∧ μ' = μ)) h hret) dX7_isLane_14

def fX7_isSheet (x0 : Int32) (μ : la_Mem) : Option Int32 :=
  if x0 < 0 then (some 0) else (if 4 ≤ x0 then (some 0) else (some 1))
set_option maxRecDepth 10000 in
theorem mX7_isSheet {z : LCz} {l : Launch} (x0 : Int32) (μ : la_Mem) (r0 : Int32)  (h : fX7_isSheet x0 μ = some r0) : la_M (LC z) l yX7_isSheet cX7_isSheet 1 (some .boolean) rmX7_isSheet [.int x0] μ (fun r' μ' => r' = r0 ∧ μ' = μ) := by
  refine la_of (own := RX7) (lv := [(0, .int x0)]) (by decide) rfl (Nat.le_of_ble_eq_true rfl) rfl (fun Φ C => ?_)
  unfold fX7_isSheet at h
  have hret : r0 = r0 ∧ μ = μ := ⟨rfl, rfl⟩
  refine la_iload_n C dX7_isSheet_0 0 rfl ?_
  refine la_if_lt C (tgt := 13) dX7_isSheet_1 (by decide) (fun hc => ?_) (fun hc => ?_)
  · replace h := la_t hc h
    refine la_iconst C (v := 0) dX7_isSheet_13 (by decide) ?_
    exact la_iret C rfl (la_rR (P := (fun r' μ' => r' = r0 ∧ μ' = μ)) h hret) dX7_isSheet_14
  · replace h := la_f hc h
    refine la_iload_n C dX7_isSheet_4 0 rfl ?_
    refine la_iconst C (v := 4) dX7_isSheet_5 (by decide) ?_
    refine la_icmp_ge C (tgt := 13) dX7_isSheet_6 (by decide) (fun hc => ?_) (fun hc => ?_)
    · replace h := la_t hc h
      refine la_iconst C (v := 0) dX7_isSheet_13 (by decide) ?_
      exact la_iret C rfl (la_rR (P := (fun r' μ' => r' = r0 ∧ μ' = μ)) h hret) dX7_isSheet_14
    · replace h := la_f hc h
      refine la_iconst C (v := 1) dX7_isSheet_9 (by decide) ?_
      refine la_goto C (tgt := 14) dX7_isSheet_10 (by decide) ?_
      exact la_iret C rfl (la_rR (P := (fun r' μ' => r' = r0 ∧ μ' = μ)) h hret) dX7_isSheet_14

def fX7_sheetFault (x1 : Int32) (x2 : Int32) (x3 : Int32) (x4 : Int32) (μ : la_Mem) : Option Int32 :=
  (fX7_isSheet x1 μ).bind (fun r1 => if r1 = 0 then (some (-1)) else ((fX7_isLane x2 μ).bind (fun r8 => if r8 = 0 then (some (-1)) else (la_if (la_ix x1 4) (if (μ (28 + (Int32.toNatClampNeg x1)) 1) = 0 then (some (-11)) else (if (μ (28 + (Int32.toNatClampNeg x1)) 2) = x2 then ((fX3_spans (Int32.toNatClampNeg x1) x3 x4 μ).bind (fun r52 => if r52 = 0 then (some (-13)) else (some 0))) else (some (-12))))))))
set_option maxRecDepth 10000 in
theorem mX7_sheetFault {z : LCz} {l : Launch} (x1 : Int32) (x2 : Int32) (x3 : Int32) (x4 : Int32) (μ : la_Mem) (r0 : Int32)  (h : fX7_sheetFault x1 x2 x3 x4 μ = some r0) : la_M (LC z) l yX7_sheetFault cX7_sheetFault 6 (some .int) rmX7_sheetFault [.ref (z.2.1 0), .int x1, .int x2, .int x3, .int x4] μ (fun r' μ' => r' = r0 ∧ μ' = μ) := by
  refine la_of (own := RX7) (lv := [(0, .ref (z.2.1 0)), (1, .int x1), (2, .int x2), (3, .int x3), (4, .int x4)]) (by decide) rfl (Nat.le_of_ble_eq_true rfl) rfl (fun Φ C => ?_)
  unfold fX7_sheetFault at h
  have hret : r0 = r0 ∧ μ = μ := ⟨rfl, rfl⟩
  refine la_iload_n C dX7_sheetFault_0 1 rfl ?_
  obtain ⟨r1, hr1, h⟩ := la_bd h
  refine KLCRX7_247 C [.int x1] [] (mX7_isSheet x1 μ r1 hr1) ⟨by decide, by decide⟩ rfl rfl (Nat.le_of_ble_eq_true rfl) dX7_sheetFault_1 ?_
  refine la_if_eq C (tgt := 14) dX7_sheetFault_4 (by decide) (fun hc => ?_) (fun hc => ?_)
  · replace h := la_t hc h
    refine la_iconst C (v := (-1)) dX7_sheetFault_14 (by decide) ?_
    exact la_iret C rfl (la_rR (P := (fun r' μ' => r' = r0 ∧ μ' = μ)) h hret) dX7_sheetFault_15
  · replace h := la_f hc h
    refine la_iload_n C dX7_sheetFault_7 2 rfl ?_
    obtain ⟨r8, hr8, h⟩ := la_bd h
    refine KLCRX7_250 C [.int x2] [] (mX7_isLane x2 μ r8 hr8) ⟨by decide, by decide⟩ rfl rfl (Nat.le_of_ble_eq_true rfl) dX7_sheetFault_8 ?_
    refine la_if_ne C (tgt := 16) dX7_sheetFault_11 (by decide) (fun hc => ?_) (fun hc => ?_)
    · replace h := la_f hc h
      refine la_aload_n C dX7_sheetFault_16 0 rfl ?_
      refine GLCRX7_53 C dX7_sheetFault_17 ?_
      refine la_iload_n C dX7_sheetFault_20 1 rfl ?_
      obtain ⟨hi21, h⟩ := la_go h
      refine RLC23 C hi21 dX7_sheetFault_21 ?_
      refine la_astore C dX7_sheetFault_22 (by decide) rfl ?_
      refine la_aload C dX7_sheetFault_24 0 rfl ?_
      refine GLCRX7_256 C (la_ix_lt hi21) dX7_sheetFault_26 ?_
      refine la_if_ne C (tgt := 35) dX7_sheetFault_29 (by decide) (fun hc => ?_) (fun hc => ?_)
      · replace h := la_f hc h
        refine la_aload C dX7_sheetFault_35 0 rfl ?_
        refine GLCRX7_264 C (la_ix_lt hi21) dX7_sheetFault_37 ?_
        refine la_iload_n C dX7_sheetFault_40 3 rfl ?_
        refine la_icmp_eq C (tgt := 47) dX7_sheetFault_41 (by decide) (fun hc => ?_) (fun hc => ?_)
        · replace h := la_t hc h
          refine la_aload C dX7_sheetFault_47 0 rfl ?_
          refine la_iload_n C dX7_sheetFault_49 4 rfl ?_
          refine la_iload C dX7_sheetFault_50 5 rfl ?_
          obtain ⟨r52, hr52, h⟩ := la_bd h
          refine KLCRX7_267 C (la_ix_lt hi21) [.int x3, .int x4] [] (mX3_spans (Int32.toNatClampNeg x1) x3 x4 μ r52 (la_ix_lt hi21) hr52) ⟨by decide, by decide⟩ rfl rfl (Nat.le_of_ble_eq_true rfl) dX7_sheetFault_52 ?_
          refine la_if_eq C (tgt := 62) dX7_sheetFault_55 (by decide) (fun hc => ?_) (fun hc => ?_)
          · replace h := la_t hc h
            refine la_bipush C (v := (-13)) dX7_sheetFault_62 (by decide) ?_
            exact la_iret C rfl (la_rR (P := (fun r' μ' => r' = r0 ∧ μ' = μ)) h hret) dX7_sheetFault_64
          · replace h := la_f hc h
            refine la_iconst C (v := 0) dX7_sheetFault_58 (by decide) ?_
            refine la_goto C (tgt := 64) dX7_sheetFault_59 (by decide) ?_
            exact la_iret C rfl (la_rR (P := (fun r' μ' => r' = r0 ∧ μ' = μ)) h hret) dX7_sheetFault_64
        · replace h := la_f hc h
          refine la_bipush C (v := (-12)) dX7_sheetFault_44 (by decide) ?_
          exact la_iret C rfl (la_rR (P := (fun r' μ' => r' = r0 ∧ μ' = μ)) h hret) dX7_sheetFault_46
      · replace h := la_t hc h
        refine la_bipush C (v := (-11)) dX7_sheetFault_32 (by decide) ?_
        exact la_iret C rfl (la_rR (P := (fun r' μ' => r' = r0 ∧ μ' = μ)) h hret) dX7_sheetFault_34
    · replace h := la_t hc h
      refine la_iconst C (v := (-1)) dX7_sheetFault_14 (by decide) ?_
      exact la_iret C rfl (la_rR (P := (fun r' μ' => r' = r0 ∧ μ' = μ)) h hret) dX7_sheetFault_15

def fX7_rails_L33 (x1 : Int32) (x3 : Int32) (μ : la_Mem) : Nat → Int32 → Option ((Int32 × la_Mem) ⊕ (Unit))
  | 0, _ => none
  | n + 1, x6 => if 12 ≤ x6 then (some (.inr ())) else (la_if (la_ix (x3 + x6) 40) ((fX7_isTeeth (μ (28 + (Int32.toNatClampNeg x1) + 4) (Int32.toNatClampNeg (x3 + x6))) μ).bind (fun r47 => if r47 = 0 then (some (.inl ((-2), μ))) else ((fX7_rails_L33 x1 x3 μ n) (x6 + 1)))))
set_option maxRecDepth 10000 in
theorem wX7_rails_L33 {z : LCz} {l : Launch} {Post : Int32 → la_Mem → Prop} {Φ : Nat → List (Nat × Value) → List Value → la_Mem → Prop} (C : la_C (LC z) l rmX7_rails RX7 cX7_rails 7 (some .int) Post Φ) (x1 : Int32) (x3 : Int32) (μ : la_Mem) (hf_Int32toNatClampNegx1 : (Int32.toNatClampNeg x1) < 4) (ex : ((Int32 × la_Mem) ⊕ (Unit))) (hret : ∀ q, ex = .inl q → Post q.1 q.2) (kx : ex = .inr () → Φ 62 [(0, .ref (z.2.1 0)), (3, .int x3), (5, .ref (z.2.1 (28 + (Int32.toNatClampNeg x1) + 4)))] [] μ) : ∀ (n : Nat) (x6 : Int32), fX7_rails_L33 x1 x3 μ n x6 = some ex → Φ 33 [(0, .ref (z.2.1 0)), (3, .int x3), (5, .ref (z.2.1 (28 + (Int32.toNatClampNeg x1) + 4))), (6, .int x6)] [] μ := by
  intro n
  induction n with
  | zero =>
    intro _ h
    cases h
  | succ n hrec =>
    intro x6 h
    rw [fX7_rails_L33] at h
    refine la_iload C dX7_rails_33 3 rfl ?_
    refine la_bipush C (v := 12) dX7_rails_35 (by decide) ?_
    refine la_icmp_ge C (tgt := 62) dX7_rails_37 (by decide) (fun hc => ?_) (fun hc => ?_)
    · replace h := la_t hc h
      refine la_sub C [0, 1, 2] rfl ?_
      exact kx (Option.some.inj h).symm
    · replace h := la_f hc h
      refine la_aload C dX7_rails_40 2 rfl ?_
      refine la_iload_n C dX7_rails_42 1 rfl ?_
      refine la_iload C dX7_rails_43 3 rfl ?_
      refine la_iadd C dX7_rails_45 ?_
      obtain ⟨hi46, h⟩ := la_go h
      refine ALCd32 C hf_Int32toNatClampNegx1 _ rfl hi46 dX7_rails_46 ?_
      obtain ⟨r47, hr47, h⟩ := la_bd h
      refine KLCRX7_89 C [.int (μ (28 + (Int32.toNatClampNeg x1) + 4) (Int32.toNatClampNeg (x3 + x6)))] [] (mX7_isTeeth (μ (28 + (Int32.toNatClampNeg x1) + 4) (Int32.toNatClampNeg (x3 + x6))) μ r47 hr47) ⟨by decide, by decide⟩ rfl rfl (Nat.le_of_ble_eq_true rfl) dX7_rails_47 ?_
      refine la_if_ne C (tgt := 56) dX7_rails_50 (by decide) (fun hc => ?_) (fun hc => ?_)
      · replace h := la_f hc h
        refine la_iinc C (v := (x6 + 1)) dX7_rails_56 3 rfl rfl (by decide) rfl ?_
        refine la_goto C (tgt := 33) dX7_rails_59 (by decide) ?_
        refine la_sub C [1, 2, 3, 0] rfl ?_
        exact hrec _ h
      · replace h := la_t hc h
        refine la_bipush C (v := (-2)) dX7_rails_53 (by decide) ?_
        exact la_iret C rfl (hret ((-2), μ) (Option.some.inj h).symm) dX7_rails_55
def fX7_rails_L65 (x1 : Int32) (x3 : Int32) : Nat → Int32 → la_Mem → Option (la_Mem)
  | 0, _, _ => none
  | n + 1, x6, μ => if 12 ≤ x6 then (some μ) else (la_if (la_ix (x3 + x6) 40) (la_if (la_ix x6 12) (la_st (la_ms μ 3 (Int32.toNatClampNeg x6) (μ (28 + (Int32.toNatClampNeg x1) + 4) (Int32.toNatClampNeg (x3 + x6)))) (fun μ88 => (fX7_rails_L65 x1 x3 n) (x6 + 1) μ88))))
set_option maxRecDepth 10000 in
theorem wX7_rails_L65 {z : LCz} {l : Launch} {Post : Int32 → la_Mem → Prop} {Φ : Nat → List (Nat × Value) → List Value → la_Mem → Prop} (C : la_C (LC z) l rmX7_rails RX7 cX7_rails 7 (some .int) Post Φ) (x1 : Int32) (x3 : Int32) (hf_Int32toNatClampNegx1 : (Int32.toNatClampNeg x1) < 4) (ex : (la_Mem)) (kx : ∀  (ν : la_Mem), ex = ν → Φ 95 [] [] ν) : ∀ (n : Nat) (x6 : Int32) (μ : la_Mem), fX7_rails_L65 x1 x3 n x6 μ = some ex → Φ 65 [(0, .ref (z.2.1 0)), (3, .int x3), (5, .ref (z.2.1 (28 + (Int32.toNatClampNeg x1) + 4))), (6, .int x6)] [] μ := by
  intro n
  induction n with
  | zero =>
    intro _ _ h
    cases h
  | succ n hrec =>
    intro x6 μ h
    rw [fX7_rails_L65] at h
    refine la_iload C dX7_rails_65 3 rfl ?_
    refine la_bipush C (v := 12) dX7_rails_67 (by decide) ?_
    refine la_icmp_ge C (tgt := 95) dX7_rails_69 (by decide) (fun hc => ?_) (fun hc => ?_)
    · replace h := la_t hc h
      refine la_sub C [] rfl ?_
      exact kx _ (Option.some.inj h).symm
    · replace h := la_f hc h
      refine la_aload_n C dX7_rails_72 0 rfl ?_
      refine GLCRX7_12 C dX7_rails_73 ?_
      refine GLCRX7_92 C dX7_rails_76 ?_
      refine la_iload C dX7_rails_79 3 rfl ?_
      refine la_aload C dX7_rails_81 2 rfl ?_
      refine la_iload_n C dX7_rails_83 1 rfl ?_
      refine la_iload C dX7_rails_84 3 rfl ?_
      refine la_iadd C dX7_rails_86 ?_
      obtain ⟨hi87, h⟩ := la_go h
      refine ALCd32 C hf_Int32toNatClampNegx1 _ rfl hi87 dX7_rails_87 ?_
      obtain ⟨hi88, h⟩ := la_go h
      obtain ⟨μ88, eμ88, h⟩ := la_so h
      refine BLC3 C _ rfl hi88 eμ88 dX7_rails_88 ?_
      refine la_iinc C (v := (x6 + 1)) dX7_rails_89 3 rfl rfl (by decide) rfl ?_
      refine la_goto C (tgt := 65) dX7_rails_92 (by decide) ?_
      refine la_sub C [1, 2, 3, 0] rfl ?_
      exact hrec _ _ h
def fX7_rails (x1 : Int32) (x2 : Int32) (x3 : Int32) (μ : la_Mem) : Option (Int32 × la_Mem) :=
  (fX7_sheetFault x1 x2 x3 12 μ).bind (fun r6 => if r6 = 0 then (la_if (la_ix x1 4) (la_x0 (fX7_rails_L33 x1 x3 μ 400 0) some (fun _ => Option.bind (fX7_rails_L65 x1 x3 400 0 μ) (fun ν65 => some (12, ν65))))) else (some (r6, μ)))
set_option maxRecDepth 10000 in
theorem mX7_rails {z : LCz} {l : Launch} (x1 : Int32) (x2 : Int32) (x3 : Int32) (μ : la_Mem) (r0 : Int32) (μ0 : la_Mem)  (h : fX7_rails x1 x2 x3 μ = some (r0, μ0)) : la_M (LC z) l yX7_rails cX7_rails 7 (some .int) rmX7_rails [.ref (z.2.1 0), .int x1, .int x2, .int x3] μ (fun r' μ' => r' = r0 ∧ μ' = μ0) := by
  refine la_of (own := RX7) (lv := [(0, .ref (z.2.1 0)), (1, .int x1), (2, .int x2), (3, .int x3)]) (by decide) rfl (Nat.le_of_ble_eq_true rfl) rfl (fun Φ C => ?_)
  unfold fX7_rails at h
  have hret : r0 = r0 ∧ μ0 = μ0 := ⟨rfl, rfl⟩
  refine la_aload_n C dX7_rails_0 0 rfl ?_
  refine la_iload_n C dX7_rails_1 1 rfl ?_
  refine la_iload_n C dX7_rails_2 2 rfl ?_
  refine la_iload_n C dX7_rails_3 3 rfl ?_
  refine la_bipush C (v := 12) dX7_rails_4 (by decide) ?_
  obtain ⟨r6, hr6, h⟩ := la_bd h
  refine KLCRX7_95 C [.int x1, .int x2, .int x3, .int 12] [] (mX7_sheetFault x1 x2 x3 12 μ r6 hr6) ⟨by decide, by decide⟩ rfl rfl (Nat.le_of_ble_eq_true rfl) dX7_rails_6 ?_
  refine la_istore C dX7_rails_9 (by decide) rfl ?_
  refine la_iload C dX7_rails_11 0 rfl ?_
  refine la_if_eq C (tgt := 19) dX7_rails_13 (by decide) (fun hc => ?_) (fun hc => ?_)
  · replace h := la_t hc h
    refine la_aload_n C dX7_rails_19 1 rfl ?_
    refine GLCRX7_53 C dX7_rails_20 ?_
    refine la_iload_n C dX7_rails_23 2 rfl ?_
    obtain ⟨hi24, h⟩ := la_go h
    refine RLC23 C hi24 dX7_rails_24 ?_
    refine GLCRX7_99 C (la_ix_lt hi24) dX7_rails_25 ?_
    refine la_astore C dX7_rails_28 (by decide) rfl ?_
    refine la_iconst C (v := 0) dX7_rails_30 (by decide) ?_
    refine la_istore C dX7_rails_31 (by decide) rfl ?_
    rcases la_x0o h with ⟨qq33, hL33, h⟩ | ⟨hL33, h⟩
    · refine la_sub C [3, 6, 1, 0] rfl ?_
      refine wX7_rails_L33 C _ _ _ (la_ix_lt hi24) _ (fun _ e => by cases e; cases h; exact hret) (fun e => by cases e) _ _ hL33
    · refine la_sub C [3, 6, 1, 0] rfl ?_
      refine wX7_rails_L33 C _ _ _ (la_ix_lt hi24) _ (fun _ e => by cases e) (fun e => ?_) _ _ hL33
      cases e
      refine la_iconst C (v := 0) dX7_rails_62 (by decide) ?_
      refine la_istore C dX7_rails_63 (by decide) rfl ?_
      obtain ⟨ν65, hL65, h⟩ := la_bd h
      refine la_sub C [1, 2, 3, 0] rfl ?_
      refine wX7_rails_L65 C _ _ (la_ix_lt hi24) _ (fun _ e => ?_) _ _ _ hL65
      cases e
      refine la_bipush C (v := 12) dX7_rails_95 (by decide) ?_
      exact la_iret C rfl (la_rW (P := (fun r' μ' => r' = r0 ∧ μ' = μ0)) h hret) dX7_rails_97
  · replace h := la_f hc h
    refine la_iload C dX7_rails_16 0 rfl ?_
    exact la_iret C rfl (la_rW (P := (fun r' μ' => r' = r0 ∧ μ' = μ0)) h hret) dX7_rails_18

def fX7_settingFits (x1 : Int32) (x2 : Int32) (μ : la_Mem) : Option Int32 :=
  if x1 = 0 then (if x2 < 1 then (some 0) else (if (μ 26 1) < x2 then (some 0) else (some 1))) else if x1 = 1 then (if x2 < (μ 26 0) then (some 0) else (if 40 < x2 then (some 0) else (some 1))) else if x1 = 2 then (if x2 < 10 then (some 0) else (if 400 < x2 then (some 0) else (some 1))) else (if x2 < 1 then (some 0) else (if 200 < x2 then (some 0) else (some 1)))
set_option maxRecDepth 10000 in
theorem mX7_settingFits {z : LCz} {l : Launch} (x1 : Int32) (x2 : Int32) (μ : la_Mem) (r0 : Int32)  (h : fX7_settingFits x1 x2 μ = some r0) : la_M (LC z) l yX7_settingFits cX7_settingFits 3 (some .boolean) rmX7_settingFits [.ref (z.2.1 0), .int x1, .int x2] μ (fun r' μ' => r' = r0 ∧ μ' = μ) := by
  refine la_of (own := RX7) (lv := [(0, .ref (z.2.1 0)), (1, .int x1), (2, .int x2)]) (by decide) rfl (Nat.le_of_ble_eq_true rfl) rfl (fun Φ C => ?_)
  unfold fX7_settingFits at h
  have hret : r0 = r0 ∧ μ = μ := ⟨rfl, rfl⟩
  refine la_iload_n C dX7_settingFits_0 1 rfl ?_
  by_cases hc0 : x1 = 0
  · replace h := la_t hc0 h
    refine la_nmE C hc0 ?_
    refine la_tabIn C (off := 27) (tgt := 28) dX7_settingFits_1 (by decide) (by decide) rfl (by decide) ?_
    refine la_iload_n C dX7_settingFits_28 2 rfl ?_
    refine la_iconst C (v := 1) dX7_settingFits_29 (by decide) ?_
    refine la_icmp_lt C (tgt := 47) dX7_settingFits_30 (by decide) (fun hc => ?_) (fun hc => ?_)
    · replace h := la_t hc h
      refine la_iconst C (v := 0) dX7_settingFits_47 (by decide) ?_
      exact la_iret C rfl (la_rR (P := (fun r' μ' => r' = r0 ∧ μ' = μ)) h hret) dX7_settingFits_48
    · replace h := la_f hc h
      refine la_iload_n C dX7_settingFits_33 2 rfl ?_
      refine la_aload_n C dX7_settingFits_34 0 rfl ?_
      refine GLCRX7_64 C dX7_settingFits_35 ?_
      refine la_iconst C (v := 1) dX7_settingFits_38 (by decide) ?_
      refine ALC26 C 1 (by decide) (by decide) dX7_settingFits_39 ?_
      refine la_icmp_gt C (tgt := 47) dX7_settingFits_40 (by decide) (fun hc => ?_) (fun hc => ?_)
      · replace h := la_t hc h
        refine la_iconst C (v := 0) dX7_settingFits_47 (by decide) ?_
        exact la_iret C rfl (la_rR (P := (fun r' μ' => r' = r0 ∧ μ' = μ)) h hret) dX7_settingFits_48
      · replace h := la_f hc h
        refine la_iconst C (v := 1) dX7_settingFits_43 (by decide) ?_
        refine la_goto C (tgt := 48) dX7_settingFits_44 (by decide) ?_
        exact la_iret C rfl (la_rR (P := (fun r' μ' => r' = r0 ∧ μ' = μ)) h hret) dX7_settingFits_48
  replace h := la_f hc0 h
  by_cases hc1 : x1 = 1
  · replace h := la_t hc1 h
    refine la_nmE C hc1 ?_
    refine la_tabIn C (off := 48) (tgt := 49) dX7_settingFits_1 (by decide) (by decide) rfl (by decide) ?_
    refine la_iload_n C dX7_settingFits_49 2 rfl ?_
    refine la_aload_n C dX7_settingFits_50 0 rfl ?_
    refine GLCRX7_64 C dX7_settingFits_51 ?_
    refine la_iconst C (v := 0) dX7_settingFits_54 (by decide) ?_
    refine ALC26 C 0 (by decide) (by decide) dX7_settingFits_55 ?_
    refine la_icmp_lt C (tgt := 69) dX7_settingFits_56 (by decide) (fun hc => ?_) (fun hc => ?_)
    · replace h := la_t hc h
      refine la_iconst C (v := 0) dX7_settingFits_69 (by decide) ?_
      exact la_iret C rfl (la_rR (P := (fun r' μ' => r' = r0 ∧ μ' = μ)) h hret) dX7_settingFits_70
    · replace h := la_f hc h
      refine la_iload_n C dX7_settingFits_59 2 rfl ?_
      refine la_bipush C (v := 40) dX7_settingFits_60 (by decide) ?_
      refine la_icmp_gt C (tgt := 69) dX7_settingFits_62 (by decide) (fun hc => ?_) (fun hc => ?_)
      · replace h := la_t hc h
        refine la_iconst C (v := 0) dX7_settingFits_69 (by decide) ?_
        exact la_iret C rfl (la_rR (P := (fun r' μ' => r' = r0 ∧ μ' = μ)) h hret) dX7_settingFits_70
      · replace h := la_f hc h
        refine la_iconst C (v := 1) dX7_settingFits_65 (by decide) ?_
        refine la_goto C (tgt := 70) dX7_settingFits_66 (by decide) ?_
        exact la_iret C rfl (la_rR (P := (fun r' μ' => r' = r0 ∧ μ' = μ)) h hret) dX7_settingFits_70
  replace h := la_f hc1 h
  by_cases hc2 : x1 = 2
  · replace h := la_t hc2 h
    refine la_nmE C hc2 ?_
    refine la_tabIn C (off := 70) (tgt := 71) dX7_settingFits_1 (by decide) (by decide) rfl (by decide) ?_
    refine la_iload_n C dX7_settingFits_71 2 rfl ?_
    refine la_bipush C (v := 10) dX7_settingFits_72 (by decide) ?_
    refine la_icmp_lt C (tgt := 88) dX7_settingFits_74 (by decide) (fun hc => ?_) (fun hc => ?_)
    · replace h := la_t hc h
      refine la_iconst C (v := 0) dX7_settingFits_88 (by decide) ?_
      exact la_iret C rfl (la_rR (P := (fun r' μ' => r' = r0 ∧ μ' = μ)) h hret) dX7_settingFits_89
    · replace h := la_f hc h
      refine la_iload_n C dX7_settingFits_77 2 rfl ?_
      refine la_sipush C (v := 400) dX7_settingFits_78 (by decide) ?_
      refine la_icmp_gt C (tgt := 88) dX7_settingFits_81 (by decide) (fun hc => ?_) (fun hc => ?_)
      · replace h := la_t hc h
        refine la_iconst C (v := 0) dX7_settingFits_88 (by decide) ?_
        exact la_iret C rfl (la_rR (P := (fun r' μ' => r' = r0 ∧ μ' = μ)) h hret) dX7_settingFits_89
      · replace h := la_f hc h
        refine la_iconst C (v := 1) dX7_settingFits_84 (by decide) ?_
        refine la_goto C (tgt := 89) dX7_settingFits_85 (by decide) ?_
        exact la_iret C rfl (la_rR (P := (fun r' μ' => r' = r0 ∧ μ' = μ)) h hret) dX7_settingFits_89
  replace h := la_f hc2 h
  refine la_tabOut C (tgt := 90) dX7_settingFits_1 (by have n0 := la_ne (z := 0) hc0 (by decide); have n1 := la_ne (z := 1) hc1 (by decide); have n2 := la_ne (z := 2) hc2 (by decide); omega) (by decide) ?_
  refine la_iload_n C dX7_settingFits_90 2 rfl ?_
  refine la_iconst C (v := 1) dX7_settingFits_91 (by decide) ?_
  refine la_icmp_lt C (tgt := 106) dX7_settingFits_92 (by decide) (fun hc => ?_) (fun hc => ?_)
  · replace h := la_t hc h
    refine la_iconst C (v := 0) dX7_settingFits_106 (by decide) ?_
    exact la_iret C rfl (la_rR (P := (fun r' μ' => r' = r0 ∧ μ' = μ)) h hret) dX7_settingFits_107
  · replace h := la_f hc h
    refine la_iload_n C dX7_settingFits_95 2 rfl ?_
    refine la_sipush C (v := 200) dX7_settingFits_96 (by decide) ?_
    refine la_icmp_gt C (tgt := 106) dX7_settingFits_99 (by decide) (fun hc => ?_) (fun hc => ?_)
    · replace h := la_t hc h
      refine la_iconst C (v := 0) dX7_settingFits_106 (by decide) ?_
      exact la_iret C rfl (la_rR (P := (fun r' μ' => r' = r0 ∧ μ' = μ)) h hret) dX7_settingFits_107
    · replace h := la_f hc h
      refine la_iconst C (v := 1) dX7_settingFits_102 (by decide) ?_
      refine la_goto C (tgt := 107) dX7_settingFits_103 (by decide) ?_
      exact la_iret C rfl (la_rR (P := (fun r' μ' => r' = r0 ∧ μ' = μ)) h hret) dX7_settingFits_107

def fX7_set (x1 : Int32) (x2 : Int32) (μ : la_Mem) : Option (Int32 × la_Mem) :=
  if x1 < 0 then (some ((-1), μ)) else (if 3 < x1 then (some ((-1), μ)) else ((fX7_settingFits x1 x2 μ).bind (fun r12 => if r12 = 0 then (some ((-1), μ)) else (la_b2 (fX7_exchange 26 4 x1 x2 μ) (fun r26 μ26 => some (r26, μ26))))))
set_option maxRecDepth 10000 in
theorem mX7_set {z : LCz} {l : Launch} (x1 : Int32) (x2 : Int32) (μ : la_Mem) (r0 : Int32) (μ0 : la_Mem)  (h : fX7_set x1 x2 μ = some (r0, μ0)) : la_M (LC z) l yX7_set cX7_set 3 (some .int) rmX7_set [.ref (z.2.1 0), .int x1, .int x2] μ (fun r' μ' => r' = r0 ∧ μ' = μ0) := by
  refine la_of (own := RX7) (lv := [(0, .ref (z.2.1 0)), (1, .int x1), (2, .int x2)]) (by decide) rfl (Nat.le_of_ble_eq_true rfl) rfl (fun Φ C => ?_)
  unfold fX7_set at h
  have hret : r0 = r0 ∧ μ0 = μ0 := ⟨rfl, rfl⟩
  refine la_iload_n C dX7_set_0 1 rfl ?_
  refine la_if_lt C (tgt := 18) dX7_set_1 (by decide) (fun hc => ?_) (fun hc => ?_)
  · replace h := la_t hc h
    refine la_iconst C (v := (-1)) dX7_set_18 (by decide) ?_
    exact la_iret C rfl (la_rW (P := (fun r' μ' => r' = r0 ∧ μ' = μ0)) h hret) dX7_set_19
  · replace h := la_f hc h
    refine la_iload_n C dX7_set_4 1 rfl ?_
    refine la_iconst C (v := 3) dX7_set_5 (by decide) ?_
    refine la_icmp_gt C (tgt := 18) dX7_set_6 (by decide) (fun hc => ?_) (fun hc => ?_)
    · replace h := la_t hc h
      refine la_iconst C (v := (-1)) dX7_set_18 (by decide) ?_
      exact la_iret C rfl (la_rW (P := (fun r' μ' => r' = r0 ∧ μ' = μ0)) h hret) dX7_set_19
    · replace h := la_f hc h
      refine la_aload_n C dX7_set_9 0 rfl ?_
      refine la_iload_n C dX7_set_10 1 rfl ?_
      refine la_iload_n C dX7_set_11 2 rfl ?_
      obtain ⟨r12, hr12, h⟩ := la_bd h
      refine KLCRX7_102 C [.int x1, .int x2] [] (mX7_settingFits x1 x2 μ r12 hr12) ⟨by decide, by decide⟩ rfl rfl (Nat.le_of_ble_eq_true rfl) dX7_set_12 ?_
      refine la_if_ne C (tgt := 20) dX7_set_15 (by decide) (fun hc => ?_) (fun hc => ?_)
      · replace h := la_f hc h
        refine la_aload_n C dX7_set_20 0 rfl ?_
        refine GLCRX7_64 C dX7_set_21 ?_
        refine la_iload_n C dX7_set_24 1 rfl ?_
        refine la_iload_n C dX7_set_25 2 rfl ?_
        obtain ⟨r26, μ26, hr26, h⟩ := la_b2o h
        refine KLCRX7_79 C [.ref (z.2.1 26), .int x1, .int x2] [] (mX7_exchange 26 4 x1 x2 μ r26 μ26 (Nat.le_of_ble_eq_true rfl) (enLC_26 z) hr26) ⟨by decide, by decide⟩ rfl rfl (Nat.le_of_ble_eq_true rfl) dX7_set_26 ?_
        exact la_iret C rfl (la_rW (P := (fun r' μ' => r' = r0 ∧ μ' = μ0)) h hret) dX7_set_29
      · replace h := la_t hc h
        refine la_iconst C (v := (-1)) dX7_set_18 (by decide) ?_
        exact la_iret C rfl (la_rW (P := (fun r' μ' => r' = r0 ∧ μ' = μ0)) h hret) dX7_set_19

def fX7_falls (x1 : Int32) (μ : la_Mem) : Option Int32 :=
  (fX7_isTeeth x1 μ).bind (fun r1 => if r1 = 0 then (some (-1)) else ((fX0_fallOf x1 μ).bind (fun r12 => some r12)))
set_option maxRecDepth 10000 in
theorem mX7_falls {z : LCz} {l : Launch} (x1 : Int32) (μ : la_Mem) (r0 : Int32)  (h : fX7_falls x1 μ = some r0) : la_M (LC z) l yX7_falls cX7_falls 2 (some .int) rmX7_falls [.ref (z.2.1 0), .int x1] μ (fun r' μ' => r' = r0 ∧ μ' = μ) := by
  refine la_of (own := RX7) (lv := [(0, .ref (z.2.1 0)), (1, .int x1)]) (by decide) rfl (Nat.le_of_ble_eq_true rfl) rfl (fun Φ C => ?_)
  unfold fX7_falls at h
  have hret : r0 = r0 ∧ μ = μ := ⟨rfl, rfl⟩
  refine la_iload_n C dX7_falls_0 1 rfl ?_
  obtain ⟨r1, hr1, h⟩ := la_bd h
  refine KLCRX7_89 C [.int x1] [] (mX7_isTeeth x1 μ r1 hr1) ⟨by decide, by decide⟩ rfl rfl (Nat.le_of_ble_eq_true rfl) dX7_falls_1 ?_
  refine la_if_eq C (tgt := 18) dX7_falls_4 (by decide) (fun hc => ?_) (fun hc => ?_)
  · replace h := la_t hc h
    refine la_iconst C (v := (-1)) dX7_falls_18 (by decide) ?_
    exact la_iret C rfl (la_rR (P := (fun r' μ' => r' = r0 ∧ μ' = μ)) h hret) dX7_falls_19
  · replace h := la_f hc h
    refine la_aload_n C dX7_falls_7 0 rfl ?_
    refine GLCRX7_12 C dX7_falls_8 ?_
    refine la_iload_n C dX7_falls_11 1 rfl ?_
    obtain ⟨r12, hr12, h⟩ := la_bd h
    refine KLCRX7_106 C [.int x1] [] (mX0_fallOf x1 μ r12 hr12) ⟨by decide, by decide⟩ rfl rfl (Nat.le_of_ble_eq_true rfl) dX7_falls_12 ?_
    refine la_goto C (tgt := 19) dX7_falls_15 (by decide) ?_
    exact la_iret C rfl (la_rR (P := (fun r' μ' => r' = r0 ∧ μ' = μ)) h hret) dX7_falls_19

def fX7_astray  (μ : la_Mem) : Option Int32 :=
  (fX0_firstAstray  μ).bind (fun r4 => some r4)
set_option maxRecDepth 10000 in
theorem mX7_astray {z : LCz} {l : Launch}  (μ : la_Mem) (r0 : Int32)  (h : fX7_astray  μ = some r0) : la_M (LC z) l yX7_astray cX7_astray 1 (some .int) rmX7_astray [.ref (z.2.1 0)] μ (fun r' μ' => r' = r0 ∧ μ' = μ) := by
  refine la_of (own := RX7) (lv := [(0, .ref (z.2.1 0))]) (by decide) rfl (Nat.le_of_ble_eq_true rfl) rfl (fun Φ C => ?_)
  unfold fX7_astray at h
  have hret : r0 = r0 ∧ μ = μ := ⟨rfl, rfl⟩
  refine la_aload_n C dX7_astray_0 0 rfl ?_
  refine GLCRX7_12 C dX7_astray_1 ?_
  obtain ⟨r4, hr4, h⟩ := la_bd h
  refine KLCRX7_110 C [] [] (mX0_firstAstray  μ r4 hr4) ⟨by decide, by decide⟩ rfl rfl (Nat.le_of_ble_eq_true rfl) dX7_astray_4 ?_
  exact la_iret C rfl (la_rR (P := (fun r' μ' => r' = r0 ∧ μ' = μ)) h hret) dX7_astray_7

def fX7_order (x1 : Int32) (μ : la_Mem) : Option Int32 :=
  (fX7_isPlace x1 μ).bind (fun r1 => if r1 = 0 then (some (-1)) else ((fX0_letterInOrder x1 μ).bind (fun r12 => some r12)))
set_option maxRecDepth 10000 in
theorem mX7_order {z : LCz} {l : Launch} (x1 : Int32) (μ : la_Mem) (r0 : Int32)  (h : fX7_order x1 μ = some r0) : la_M (LC z) l yX7_order cX7_order 2 (some .int) rmX7_order [.ref (z.2.1 0), .int x1] μ (fun r' μ' => r' = r0 ∧ μ' = μ) := by
  refine la_of (own := RX7) (lv := [(0, .ref (z.2.1 0)), (1, .int x1)]) (by decide) rfl (Nat.le_of_ble_eq_true rfl) rfl (fun Φ C => ?_)
  unfold fX7_order at h
  have hret : r0 = r0 ∧ μ = μ := ⟨rfl, rfl⟩
  refine la_iload_n C dX7_order_0 1 rfl ?_
  obtain ⟨r1, hr1, h⟩ := la_bd h
  refine KLCRX7_86 C [.int x1] [] (mX7_isPlace x1 μ r1 hr1) ⟨by decide, by decide⟩ rfl rfl (Nat.le_of_ble_eq_true rfl) dX7_order_1 ?_
  refine la_if_eq C (tgt := 18) dX7_order_4 (by decide) (fun hc => ?_) (fun hc => ?_)
  · replace h := la_t hc h
    refine la_iconst C (v := (-1)) dX7_order_18 (by decide) ?_
    exact la_iret C rfl (la_rR (P := (fun r' μ' => r' = r0 ∧ μ' = μ)) h hret) dX7_order_19
  · replace h := la_f hc h
    refine la_aload_n C dX7_order_7 0 rfl ?_
    refine GLCRX7_12 C dX7_order_8 ?_
    refine la_iload_n C dX7_order_11 1 rfl ?_
    obtain ⟨r12, hr12, h⟩ := la_bd h
    refine KLCRX7_114 C [.int x1] [] (mX0_letterInOrder x1 μ r12 hr12) ⟨by decide, by decide⟩ rfl rfl (Nat.le_of_ble_eq_true rfl) dX7_order_12 ?_
    refine la_goto C (tgt := 19) dX7_order_15 (by decide) ?_
    exact la_iret C rfl (la_rR (P := (fun r' μ' => r' = r0 ∧ μ' = μ)) h hret) dX7_order_19

def fX7_lost_J22 (x1 : Int32) (x2 : Int32) (μ : la_Mem) : Option Int32 :=
  (fX0_fewestLost x1 x2 μ).bind (fun r28 => some r28)
set_option maxRecDepth 10000 in
theorem wX7_lost_J22 {z : LCz} {l : Launch} {Post : Int32 → la_Mem → Prop} {Φ : Nat → List (Nat × Value) → List Value → la_Mem → Prop} (C : la_C (LC z) l rmX7_lost RX7 cX7_lost 3 (some .int) Post Φ) (x1 : Int32) (x2 : Int32) (μ : la_Mem)  (ex : Int32) (hret : Post ex μ) (h : fX7_lost_J22 x1 x2 μ = some ex) : Φ 22 [(0, .ref (z.2.1 0)), (1, .int x1), (2, .int x2)] [] μ := by
  unfold fX7_lost_J22 at h
  refine la_aload_n C dX7_lost_22 0 rfl ?_
  refine GLCRX7_12 C dX7_lost_23 ?_
  refine la_iload_n C dX7_lost_26 1 rfl ?_
  refine la_iload_n C dX7_lost_27 2 rfl ?_
  obtain ⟨r28, hr28, h⟩ := la_bd h
  refine KLCRX7_117 C [.int x1, .int x2] [] (mX0_fewestLost x1 x2 μ r28 hr28) ⟨by decide, by decide⟩ rfl rfl (Nat.le_of_ble_eq_true rfl) dX7_lost_28 ?_
  exact la_iret C rfl (la_rR (P := Post) h hret) dX7_lost_31
def fX7_lost (x1 : Int32) (x2 : Int32) (μ : la_Mem) : Option Int32 :=
  (fX7_isLetter x1 μ).bind (fun r1 => if r1 = 0 then (some (-1)) else ((fX7_isPlace x2 μ).bind (fun r8 => if r8 = 0 then (if x2 = 12 then (fX7_lost_J22 x1 x2 μ) else (some (-1))) else (fX7_lost_J22 x1 x2 μ))))
set_option maxRecDepth 10000 in
theorem mX7_lost {z : LCz} {l : Launch} (x1 : Int32) (x2 : Int32) (μ : la_Mem) (r0 : Int32)  (h : fX7_lost x1 x2 μ = some r0) : la_M (LC z) l yX7_lost cX7_lost 3 (some .int) rmX7_lost [.ref (z.2.1 0), .int x1, .int x2] μ (fun r' μ' => r' = r0 ∧ μ' = μ) := by
  refine la_of (own := RX7) (lv := [(0, .ref (z.2.1 0)), (1, .int x1), (2, .int x2)]) (by decide) rfl (Nat.le_of_ble_eq_true rfl) rfl (fun Φ C => ?_)
  unfold fX7_lost at h
  have hret : r0 = r0 ∧ μ = μ := ⟨rfl, rfl⟩
  refine la_iload_n C dX7_lost_0 1 rfl ?_
  obtain ⟨r1, hr1, h⟩ := la_bd h
  refine KLCRX7_75 C [.int x1] [] (mX7_isLetter x1 μ r1 hr1) ⟨by decide, by decide⟩ rfl rfl (Nat.le_of_ble_eq_true rfl) dX7_lost_1 ?_
  refine la_if_eq C (tgt := 20) dX7_lost_4 (by decide) (fun hc => ?_) (fun hc => ?_)
  · replace h := la_t hc h
    refine la_iconst C (v := (-1)) dX7_lost_20 (by decide) ?_
    exact la_iret C rfl (la_rR (P := (fun r' μ' => r' = r0 ∧ μ' = μ)) h hret) dX7_lost_21
  · replace h := la_f hc h
    refine la_iload_n C dX7_lost_7 2 rfl ?_
    obtain ⟨r8, hr8, h⟩ := la_bd h
    refine KLCRX7_86 C [.int x2] [] (mX7_isPlace x2 μ r8 hr8) ⟨by decide, by decide⟩ rfl rfl (Nat.le_of_ble_eq_true rfl) dX7_lost_8 ?_
    refine la_if_ne C (tgt := 22) dX7_lost_11 (by decide) (fun hc => ?_) (fun hc => ?_)
    · replace h := la_f hc h
      refine la_sub C [0, 1, 2] rfl ?_
      exact wX7_lost_J22 C _ _ _  _ hret h
    · replace h := la_t hc h
      refine la_iload_n C dX7_lost_14 2 rfl ?_
      refine la_bipush C (v := 12) dX7_lost_15 (by decide) ?_
      refine la_icmp_eq C (tgt := 22) dX7_lost_17 (by decide) (fun hc => ?_) (fun hc => ?_)
      · replace h := la_t hc h
        refine la_sub C [0, 1, 2] rfl ?_
        exact wX7_lost_J22 C _ _ _  _ hret h
      · replace h := la_f hc h
        refine la_iconst C (v := (-1)) dX7_lost_20 (by decide) ?_
        exact la_iret C rfl (la_rR (P := (fun r' μ' => r' = r0 ∧ μ' = μ)) h hret) dX7_lost_21

def fX7_mould (x1 : Int32) (x2 : Int32) (μ : la_Mem) : Option (Int32 × la_Mem) :=
  (fX7_isLetter x1 μ).bind (fun r1 => if r1 = 0 then (some ((-1), μ)) else (la_if (la_ix x1 12) (la_st ((μ 2 (Int32.toNatClampNeg x1))) (fun v18 => if (x2 &&& (v18 ^^^ (-1))) = 0 then (la_b2 (fX5_newMould x1 (v18 &&& (x2 ^^^ (-1))) μ) (fun r39 μ39 => some (r39, μ39))) else (some ((-1), μ))))))
set_option maxRecDepth 10000 in
theorem mX7_mould {z : LCz} {l : Launch} (x1 : Int32) (x2 : Int32) (μ : la_Mem) (r0 : Int32) (μ0 : la_Mem)  (h : fX7_mould x1 x2 μ = some (r0, μ0)) : la_M (LC z) l yX7_mould cX7_mould 4 (some .int) rmX7_mould [.ref (z.2.1 0), .int x1, .int x2] μ (fun r' μ' => r' = r0 ∧ μ' = μ0) := by
  refine la_of (own := RX7) (lv := [(0, .ref (z.2.1 0)), (1, .int x1), (2, .int x2)]) (by decide) rfl (Nat.le_of_ble_eq_true rfl) rfl (fun Φ C => ?_)
  unfold fX7_mould at h
  have hret : r0 = r0 ∧ μ0 = μ0 := ⟨rfl, rfl⟩
  refine la_iload_n C dX7_mould_0 1 rfl ?_
  obtain ⟨r1, hr1, h⟩ := la_bd h
  refine KLCRX7_75 C [.int x1] [] (mX7_isLetter x1 μ r1 hr1) ⟨by decide, by decide⟩ rfl rfl (Nat.le_of_ble_eq_true rfl) dX7_mould_1 ?_
  refine la_if_ne C (tgt := 9) dX7_mould_4 (by decide) (fun hc => ?_) (fun hc => ?_)
  · replace h := la_f hc h
    refine la_aload_n C dX7_mould_9 0 rfl ?_
    refine GLCRX7_12 C dX7_mould_10 ?_
    refine GLCRX7_83 C dX7_mould_13 ?_
    refine la_iload_n C dX7_mould_16 1 rfl ?_
    obtain ⟨hi17, h⟩ := la_go h
    refine ALC2 C _ rfl hi17 dX7_mould_17 ?_
    obtain ⟨v18, ev18, h⟩ := la_so h
    refine la_nm C ev18 ?_
    refine la_istore_n C dX7_mould_18 (by decide) rfl ?_
    refine la_iload_n C dX7_mould_19 3 rfl ?_
    refine la_iload_n C dX7_mould_20 0 rfl ?_
    refine la_iconst C (v := (-1)) dX7_mould_21 (by decide) ?_
    refine la_ixor C dX7_mould_22 ?_
    refine la_iand C dX7_mould_23 ?_
    refine la_if_eq C (tgt := 29) dX7_mould_24 (by decide) (fun hc => ?_) (fun hc => ?_)
    · replace h := la_t hc h
      refine la_aload_n C dX7_mould_29 1 rfl ?_
      refine GLCRX7_19 C dX7_mould_30 ?_
      refine la_iload_n C dX7_mould_33 2 rfl ?_
      refine la_iload_n C dX7_mould_34 0 rfl ?_
      refine la_iload_n C dX7_mould_35 3 rfl ?_
      refine la_iconst C (v := (-1)) dX7_mould_36 (by decide) ?_
      refine la_ixor C dX7_mould_37 ?_
      refine la_iand C dX7_mould_38 ?_
      obtain ⟨r39, μ39, hr39, h⟩ := la_b2o h
      refine KLCRX7_121 C [.int x1, .int (v18 &&& (x2 ^^^ (-1)))] [] (mX5_newMould x1 (v18 &&& (x2 ^^^ (-1))) μ r39 μ39 hr39) ⟨by decide, by decide⟩ rfl rfl (Nat.le_of_ble_eq_true rfl) dX7_mould_39 ?_
      exact la_iret C rfl (la_rW (P := (fun r' μ' => r' = r0 ∧ μ' = μ0)) h hret) dX7_mould_42
    · replace h := la_f hc h
      refine la_iconst C (v := (-1)) dX7_mould_27 (by decide) ?_
      exact la_iret C rfl (la_rW (P := (fun r' μ' => r' = r0 ∧ μ' = μ0)) h hret) dX7_mould_28
  · replace h := la_t hc h
    refine la_iconst C (v := (-1)) dX7_mould_7 (by decide) ?_
    exact la_iret C rfl (la_rW (P := (fun r' μ' => r' = r0 ∧ μ' = μ0)) h hret) dX7_mould_8

def fX7_told (x1 : Int32) (x2 : Int32) (μ : la_Mem) : Option Int32 :=
  (fX5_knows x1 μ).bind (fun r5 => if r5 = 0 then (some (-1)) else (if x2 = 0 then (la_if (la_ix x1 60) (some (μ 5 (Int32.toNatClampNeg x1)))) else if x2 = 1 then (la_if (la_ix x1 60) (some (μ 6 (Int32.toNatClampNeg x1)))) else if x2 = 2 then (la_if (la_ix x1 60) (some (μ 7 (Int32.toNatClampNeg x1)))) else (some (-1))))
set_option maxRecDepth 10000 in
theorem mX7_told {z : LCz} {l : Launch} (x1 : Int32) (x2 : Int32) (μ : la_Mem) (r0 : Int32)  (h : fX7_told x1 x2 μ = some r0) : la_M (LC z) l yX7_told cX7_told 3 (some .int) rmX7_told [.ref (z.2.1 0), .int x1, .int x2] μ (fun r' μ' => r' = r0 ∧ μ' = μ) := by
  refine la_of (own := RX7) (lv := [(0, .ref (z.2.1 0)), (1, .int x1), (2, .int x2)]) (by decide) rfl (Nat.le_of_ble_eq_true rfl) rfl (fun Φ C => ?_)
  unfold fX7_told at h
  have hret : r0 = r0 ∧ μ = μ := ⟨rfl, rfl⟩
  refine la_aload_n C dX7_told_0 0 rfl ?_
  refine GLCRX7_19 C dX7_told_1 ?_
  refine la_iload_n C dX7_told_4 1 rfl ?_
  obtain ⟨r5, hr5, h⟩ := la_bd h
  refine KLCRX7_124 C [.int x1] [] (mX5_knows x1 μ r5 hr5) ⟨by decide, by decide⟩ rfl rfl (Nat.le_of_ble_eq_true rfl) dX7_told_5 ?_
  refine la_if_ne C (tgt := 13) dX7_told_8 (by decide) (fun hc => ?_) (fun hc => ?_)
  · replace h := la_f hc h
    refine la_iload_n C dX7_told_13 2 rfl ?_
    by_cases hc0 : x2 = 0
    · replace h := la_t hc0 h
      refine la_nmE C hc0 ?_
      refine la_tabIn C (off := 26) (tgt := 40) dX7_told_14 (by decide) (by decide) rfl (by decide) ?_
      refine la_aload_n C dX7_told_40 0 rfl ?_
      refine GLCRX7_19 C dX7_told_41 ?_
      refine GLCRX7_127 C dX7_told_44 ?_
      refine la_iload_n C dX7_told_47 1 rfl ?_
      obtain ⟨hi48, h⟩ := la_go h
      refine ALC5 C _ rfl hi48 dX7_told_48 ?_
      exact la_iret C rfl (la_rR (P := (fun r' μ' => r' = r0 ∧ μ' = μ)) h hret) dX7_told_49
    replace h := la_f hc0 h
    by_cases hc1 : x2 = 1
    · replace h := la_t hc1 h
      refine la_nmE C hc1 ?_
      refine la_tabIn C (off := 36) (tgt := 50) dX7_told_14 (by decide) (by decide) rfl (by decide) ?_
      refine la_aload_n C dX7_told_50 0 rfl ?_
      refine GLCRX7_19 C dX7_told_51 ?_
      refine GLCRX7_130 C dX7_told_54 ?_
      refine la_iload_n C dX7_told_57 1 rfl ?_
      obtain ⟨hi58, h⟩ := la_go h
      refine ALC6 C _ rfl hi58 dX7_told_58 ?_
      exact la_iret C rfl (la_rR (P := (fun r' μ' => r' = r0 ∧ μ' = μ)) h hret) dX7_told_59
    replace h := la_f hc1 h
    by_cases hc2 : x2 = 2
    · replace h := la_t hc2 h
      refine la_nmE C hc2 ?_
      refine la_tabIn C (off := 46) (tgt := 60) dX7_told_14 (by decide) (by decide) rfl (by decide) ?_
      refine la_aload_n C dX7_told_60 0 rfl ?_
      refine GLCRX7_19 C dX7_told_61 ?_
      refine GLCRX7_131 C dX7_told_64 ?_
      refine la_iload_n C dX7_told_67 1 rfl ?_
      obtain ⟨hi68, h⟩ := la_go h
      refine ALC7 C _ rfl hi68 dX7_told_68 ?_
      exact la_iret C rfl (la_rR (P := (fun r' μ' => r' = r0 ∧ μ' = μ)) h hret) dX7_told_69
    replace h := la_f hc2 h
    refine la_tabOut C (tgt := 70) dX7_told_14 (by have n0 := la_ne (z := 0) hc0 (by decide); have n1 := la_ne (z := 1) hc1 (by decide); have n2 := la_ne (z := 2) hc2 (by decide); omega) (by decide) ?_
    refine la_iconst C (v := (-1)) dX7_told_70 (by decide) ?_
    exact la_iret C rfl (la_rR (P := (fun r' μ' => r' = r0 ∧ μ' = μ)) h hret) dX7_told_71
  · replace h := la_t hc h
    refine la_iconst C (v := (-1)) dX7_told_11 (by decide) ?_
    exact la_iret C rfl (la_rR (P := (fun r' μ' => r' = r0 ∧ μ' = μ)) h hret) dX7_told_12

def fX7_wear (x1 : Int32) (x2 : Int32) (μ : la_Mem) : Option (Int32 × la_Mem) :=
  (fX5_knows x1 μ).bind (fun r5 => if r5 = 0 then (some ((-1), μ)) else (la_if (la_ix x1 60) (if (x2 &&& ((μ 6 (Int32.toNatClampNeg x1)) ^^^ (-1))) = 0 then (la_if (la_ix x1 60) (la_if (la_ix x1 60) (la_st (la_ms μ 6 (Int32.toNatClampNeg x1) ((μ 6 (Int32.toNatClampNeg x1)) &&& (x2 ^^^ (-1)))) (fun μ43 => la_if (la_ix x1 60) (some ((μ43 6 (Int32.toNatClampNeg x1)), μ43)))))) else (some ((-1), μ)))))
set_option maxRecDepth 10000 in
theorem mX7_wear {z : LCz} {l : Launch} (x1 : Int32) (x2 : Int32) (μ : la_Mem) (r0 : Int32) (μ0 : la_Mem)  (h : fX7_wear x1 x2 μ = some (r0, μ0)) : la_M (LC z) l yX7_wear cX7_wear 3 (some .int) rmX7_wear [.ref (z.2.1 0), .int x1, .int x2] μ (fun r' μ' => r' = r0 ∧ μ' = μ0) := by
  refine la_of (own := RX7) (lv := [(0, .ref (z.2.1 0)), (1, .int x1), (2, .int x2)]) (by decide) rfl (Nat.le_of_ble_eq_true rfl) rfl (fun Φ C => ?_)
  unfold fX7_wear at h
  have hret : r0 = r0 ∧ μ0 = μ0 := ⟨rfl, rfl⟩
  refine la_aload_n C dX7_wear_0 0 rfl ?_
  refine GLCRX7_19 C dX7_wear_1 ?_
  refine la_iload_n C dX7_wear_4 1 rfl ?_
  obtain ⟨r5, hr5, h⟩ := la_bd h
  refine KLCRX7_124 C [.int x1] [] (mX5_knows x1 μ r5 hr5) ⟨by decide, by decide⟩ rfl rfl (Nat.le_of_ble_eq_true rfl) dX7_wear_5 ?_
  refine la_if_eq C (tgt := 27) dX7_wear_8 (by decide) (fun hc => ?_) (fun hc => ?_)
  · replace h := la_t hc h
    refine la_iconst C (v := (-1)) dX7_wear_27 (by decide) ?_
    exact la_iret C rfl (la_rW (P := (fun r' μ' => r' = r0 ∧ μ' = μ0)) h hret) dX7_wear_28
  · replace h := la_f hc h
    refine la_iload_n C dX7_wear_11 2 rfl ?_
    refine la_aload_n C dX7_wear_12 0 rfl ?_
    refine GLCRX7_19 C dX7_wear_13 ?_
    refine GLCRX7_130 C dX7_wear_16 ?_
    refine la_iload_n C dX7_wear_19 1 rfl ?_
    obtain ⟨hi20, h⟩ := la_go h
    refine ALC6 C _ rfl hi20 dX7_wear_20 ?_
    refine la_iconst C (v := (-1)) dX7_wear_21 (by decide) ?_
    refine la_ixor C dX7_wear_22 ?_
    refine la_iand C dX7_wear_23 ?_
    refine la_if_eq C (tgt := 29) dX7_wear_24 (by decide) (fun hc => ?_) (fun hc => ?_)
    · replace h := la_t hc h
      refine la_aload_n C dX7_wear_29 0 rfl ?_
      refine GLCRX7_19 C dX7_wear_30 ?_
      refine GLCRX7_130 C dX7_wear_33 ?_
      refine la_iload_n C dX7_wear_36 1 rfl ?_
      refine la_dup2 C dX7_wear_37 rfl rfl ?_
      obtain ⟨hi38, h⟩ := la_go h
      refine ALC6 C _ rfl hi38 dX7_wear_38 ?_
      refine la_iload_n C dX7_wear_39 2 rfl ?_
      refine la_iconst C (v := (-1)) dX7_wear_40 (by decide) ?_
      refine la_ixor C dX7_wear_41 ?_
      refine la_iand C dX7_wear_42 ?_
      obtain ⟨hi43, h⟩ := la_go h
      obtain ⟨μ43, eμ43, h⟩ := la_so h
      refine BLC6 C _ rfl hi43 eμ43 dX7_wear_43 ?_
      refine la_aload_n C dX7_wear_44 0 rfl ?_
      refine GLCRX7_19 C dX7_wear_45 ?_
      refine GLCRX7_130 C dX7_wear_48 ?_
      refine la_iload_n C dX7_wear_51 1 rfl ?_
      obtain ⟨hi52, h⟩ := la_go h
      refine ALC6 C _ rfl hi52 dX7_wear_52 ?_
      exact la_iret C rfl (la_rW (P := (fun r' μ' => r' = r0 ∧ μ' = μ0)) h hret) dX7_wear_53
    · replace h := la_f hc h
      refine la_iconst C (v := (-1)) dX7_wear_27 (by decide) ?_
      exact la_iret C rfl (la_rW (P := (fun r' μ' => r' = r0 ∧ μ' = μ0)) h hret) dX7_wear_28

def fX7_home (x1 : Int32) (μ : la_Mem) : Option (Int32 × la_Mem) :=
  (fX5_knows x1 μ).bind (fun r5 => if r5 = 0 then (some ((-1), μ)) else (la_if (la_ix x1 60) (if (μ 7 (Int32.toNatClampNeg x1)) = 12 then (la_if (la_ix x1 60) (la_st ((μ 5 (Int32.toNatClampNeg x1))) (fun v39 => la_b2 (fX5_lay x1 v39 μ) (fun r46 μ46 => if r46 = 0 then (some ((-3), μ46)) else (la_if (la_ix v39 12) (some ((μ46 9 (Int32.toNatClampNeg v39)), μ46))))))) else (some ((-2), μ)))))
set_option maxRecDepth 10000 in
theorem mX7_home {z : LCz} {l : Launch} (x1 : Int32) (μ : la_Mem) (r0 : Int32) (μ0 : la_Mem)  (h : fX7_home x1 μ = some (r0, μ0)) : la_M (LC z) l yX7_home cX7_home 3 (some .int) rmX7_home [.ref (z.2.1 0), .int x1] μ (fun r' μ' => r' = r0 ∧ μ' = μ0) := by
  refine la_of (own := RX7) (lv := [(0, .ref (z.2.1 0)), (1, .int x1)]) (by decide) rfl (Nat.le_of_ble_eq_true rfl) rfl (fun Φ C => ?_)
  unfold fX7_home at h
  have hret : r0 = r0 ∧ μ0 = μ0 := ⟨rfl, rfl⟩
  refine la_aload_n C dX7_home_0 0 rfl ?_
  refine GLCRX7_19 C dX7_home_1 ?_
  refine la_iload_n C dX7_home_4 1 rfl ?_
  obtain ⟨r5, hr5, h⟩ := la_bd h
  refine KLCRX7_124 C [.int x1] [] (mX5_knows x1 μ r5 hr5) ⟨by decide, by decide⟩ rfl rfl (Nat.le_of_ble_eq_true rfl) dX7_home_5 ?_
  refine la_if_ne C (tgt := 13) dX7_home_8 (by decide) (fun hc => ?_) (fun hc => ?_)
  · replace h := la_f hc h
    refine la_aload_n C dX7_home_13 0 rfl ?_
    refine GLCRX7_19 C dX7_home_14 ?_
    refine GLCRX7_131 C dX7_home_17 ?_
    refine la_iload_n C dX7_home_20 1 rfl ?_
    obtain ⟨hi21, h⟩ := la_go h
    refine ALC7 C _ rfl hi21 dX7_home_21 ?_
    refine la_bipush C (v := 12) dX7_home_22 (by decide) ?_
    refine la_icmp_eq C (tgt := 30) dX7_home_24 (by decide) (fun hc => ?_) (fun hc => ?_)
    · replace h := la_t hc h
      refine la_aload_n C dX7_home_30 0 rfl ?_
      refine GLCRX7_19 C dX7_home_31 ?_
      refine GLCRX7_127 C dX7_home_34 ?_
      refine la_iload_n C dX7_home_37 1 rfl ?_
      obtain ⟨hi38, h⟩ := la_go h
      refine ALC5 C _ rfl hi38 dX7_home_38 ?_
      obtain ⟨v39, ev39, h⟩ := la_so h
      refine la_nm C ev39 ?_
      refine la_istore_n C dX7_home_39 (by decide) rfl ?_
      refine la_aload_n C dX7_home_40 1 rfl ?_
      refine GLCRX7_19 C dX7_home_41 ?_
      refine la_iload_n C dX7_home_44 2 rfl ?_
      refine la_iload_n C dX7_home_45 0 rfl ?_
      obtain ⟨r46, μ46, hr46, h⟩ := la_b2o h
      refine KLCRX7_134 C [.int x1, .int v39] [] (mX5_lay x1 v39 μ r46 μ46 hr46) ⟨by decide, by decide⟩ rfl rfl (Nat.le_of_ble_eq_true rfl) dX7_home_46 ?_
      refine la_if_eq C (tgt := 64) dX7_home_49 (by decide) (fun hc => ?_) (fun hc => ?_)
      · replace h := la_t hc h
        refine la_bipush C (v := (-3)) dX7_home_64 (by decide) ?_
        exact la_iret C rfl (la_rW (P := (fun r' μ' => r' = r0 ∧ μ' = μ0)) h hret) dX7_home_66
      · replace h := la_f hc h
        refine la_aload_n C dX7_home_52 1 rfl ?_
        refine GLCRX7_19 C dX7_home_53 ?_
        refine GLCRX7_137 C dX7_home_56 ?_
        refine la_iload_n C dX7_home_59 0 rfl ?_
        obtain ⟨hi60, h⟩ := la_go h
        refine ALC9 C _ rfl hi60 dX7_home_60 ?_
        refine la_goto C (tgt := 66) dX7_home_61 (by decide) ?_
        exact la_iret C rfl (la_rW (P := (fun r' μ' => r' = r0 ∧ μ' = μ0)) h hret) dX7_home_66
    · replace h := la_f hc h
      refine la_bipush C (v := (-2)) dX7_home_27 (by decide) ?_
      exact la_iret C rfl (la_rW (P := (fun r' μ' => r' = r0 ∧ μ' = μ0)) h hret) dX7_home_29
  · replace h := la_t hc h
    refine la_iconst C (v := (-1)) dX7_home_11 (by decide) ?_
    exact la_iret C rfl (la_rW (P := (fun r' μ' => r' = r0 ∧ μ' = μ0)) h hret) dX7_home_12

def fX7_channel (x1 : Int32) (x2 : Int32) (μ : la_Mem) : Option Int32 :=
  (fX7_isPlace x1 μ).bind (fun r1 => if r1 = 0 then (some (-1)) else (if (-1) ≤ x2 then (if x2 = (-1) then (la_if (la_ix x1 12) (some (μ 9 (Int32.toNatClampNeg x1)))) else (la_if (la_ix x1 12) (if (μ 9 (Int32.toNatClampNeg x1)) ≤ x2 then (some (-4)) else (la_if (la_ix x1 12) (la_if (la_ix x2 8) (some (μ (36 + (Int32.toNatClampNeg x1)) (Int32.toNatClampNeg x2)))))))) else (some (-1))))
set_option maxRecDepth 10000 in
theorem mX7_channel {z : LCz} {l : Launch} (x1 : Int32) (x2 : Int32) (μ : la_Mem) (r0 : Int32)  (h : fX7_channel x1 x2 μ = some r0) : la_M (LC z) l yX7_channel cX7_channel 3 (some .int) rmX7_channel [.ref (z.2.1 0), .int x1, .int x2] μ (fun r' μ' => r' = r0 ∧ μ' = μ) := by
  refine la_of (own := RX7) (lv := [(0, .ref (z.2.1 0)), (1, .int x1), (2, .int x2)]) (by decide) rfl (Nat.le_of_ble_eq_true rfl) rfl (fun Φ C => ?_)
  unfold fX7_channel at h
  have hret : r0 = r0 ∧ μ = μ := ⟨rfl, rfl⟩
  refine la_iload_n C dX7_channel_0 1 rfl ?_
  obtain ⟨r1, hr1, h⟩ := la_bd h
  refine KLCRX7_86 C [.int x1] [] (mX7_isPlace x1 μ r1 hr1) ⟨by decide, by decide⟩ rfl rfl (Nat.le_of_ble_eq_true rfl) dX7_channel_1 ?_
  refine la_if_eq C (tgt := 12) dX7_channel_4 (by decide) (fun hc => ?_) (fun hc => ?_)
  · replace h := la_t hc h
    refine la_iconst C (v := (-1)) dX7_channel_12 (by decide) ?_
    exact la_iret C rfl (la_rR (P := (fun r' μ' => r' = r0 ∧ μ' = μ)) h hret) dX7_channel_13
  · replace h := la_f hc h
    refine la_iload_n C dX7_channel_7 2 rfl ?_
    refine la_iconst C (v := (-1)) dX7_channel_8 (by decide) ?_
    refine la_icmp_ge C (tgt := 14) dX7_channel_9 (by decide) (fun hc => ?_) (fun hc => ?_)
    · replace h := la_t hc h
      refine la_iload_n C dX7_channel_14 2 rfl ?_
      refine la_iconst C (v := (-1)) dX7_channel_15 (by decide) ?_
      refine la_icmp_ne C (tgt := 29) dX7_channel_16 (by decide) (fun hc => ?_) (fun hc => ?_)
      · replace h := la_f hc h
        refine la_iload_n C dX7_channel_29 2 rfl ?_
        refine la_aload_n C dX7_channel_30 0 rfl ?_
        refine GLCRX7_19 C dX7_channel_31 ?_
        refine GLCRX7_137 C dX7_channel_34 ?_
        refine la_iload_n C dX7_channel_37 1 rfl ?_
        obtain ⟨hi38, h⟩ := la_go h
        refine ALC9 C _ rfl hi38 dX7_channel_38 ?_
        refine la_icmp_ge C (tgt := 56) dX7_channel_39 (by decide) (fun hc => ?_) (fun hc => ?_)
        · replace h := la_t hc h
          refine la_bipush C (v := (-4)) dX7_channel_56 (by decide) ?_
          exact la_iret C rfl (la_rR (P := (fun r' μ' => r' = r0 ∧ μ' = μ)) h hret) dX7_channel_58
        · replace h := la_f hc h
          refine la_aload_n C dX7_channel_42 0 rfl ?_
          refine GLCRX7_19 C dX7_channel_43 ?_
          refine GLCRX7_140 C dX7_channel_46 ?_
          refine la_iload_n C dX7_channel_49 1 rfl ?_
          obtain ⟨hi50, h⟩ := la_go h
          refine RLC8 C hi50 dX7_channel_50 ?_
          refine la_iload_n C dX7_channel_51 2 rfl ?_
          obtain ⟨hi52, h⟩ := la_go h
          refine ALCd36 C (la_ix_lt hi50) _ rfl hi52 dX7_channel_52 ?_
          refine la_goto C (tgt := 58) dX7_channel_53 (by decide) ?_
          exact la_iret C rfl (la_rR (P := (fun r' μ' => r' = r0 ∧ μ' = μ)) h hret) dX7_channel_58
      · replace h := la_t hc h
        refine la_aload_n C dX7_channel_19 0 rfl ?_
        refine GLCRX7_19 C dX7_channel_20 ?_
        refine GLCRX7_137 C dX7_channel_23 ?_
        refine la_iload_n C dX7_channel_26 1 rfl ?_
        obtain ⟨hi27, h⟩ := la_go h
        refine ALC9 C _ rfl hi27 dX7_channel_27 ?_
        exact la_iret C rfl (la_rR (P := (fun r' μ' => r' = r0 ∧ μ' = μ)) h hret) dX7_channel_28
    · replace h := la_f hc h
      refine la_iconst C (v := (-1)) dX7_channel_12 (by decide) ?_
      exact la_iret C rfl (la_rR (P := (fun r' μ' => r' = r0 ∧ μ' = μ)) h hret) dX7_channel_13

def fX7_key (x1 : Int32) (μ : la_Mem) : Option (Int32 × la_Mem) :=
  (fX7_isPlace x1 μ).bind (fun r1 => if r1 = 0 then (some ((-1), μ)) else (la_if (la_ix x1 12) (if (μ 9 (Int32.toNatClampNeg x1)) = 0 then (some ((-4), μ)) else ((fX2_isFull  μ).bind (fun r28 => if r28 = 0 then (la_if (la_ix x1 12) (la_st ((((μ 0 11) + 2) + (μ 25 (Int32.toNatClampNeg x1)))) (fun v50 => la_b2 (fX5_takeFirst x1 μ) (fun r60 μ60 => (fX2_letGo r60 v50 μ60).bind (fun μ64 => some (v50, μ64)))))) else (some ((-3), μ)))))))
set_option maxRecDepth 10000 in
theorem mX7_key {z : LCz} {l : Launch} (x1 : Int32) (μ : la_Mem) (r0 : Int32) (μ0 : la_Mem)  (h : fX7_key x1 μ = some (r0, μ0)) : la_M (LC z) l yX7_key cX7_key 3 (some .int) rmX7_key [.ref (z.2.1 0), .int x1] μ (fun r' μ' => r' = r0 ∧ μ' = μ0) := by
  refine la_of (own := RX7) (lv := [(0, .ref (z.2.1 0)), (1, .int x1)]) (by decide) rfl (Nat.le_of_ble_eq_true rfl) rfl (fun Φ C => ?_)
  unfold fX7_key at h
  have hret : r0 = r0 ∧ μ0 = μ0 := ⟨rfl, rfl⟩
  refine la_iload_n C dX7_key_0 1 rfl ?_
  obtain ⟨r1, hr1, h⟩ := la_bd h
  refine KLCRX7_86 C [.int x1] [] (mX7_isPlace x1 μ r1 hr1) ⟨by decide, by decide⟩ rfl rfl (Nat.le_of_ble_eq_true rfl) dX7_key_1 ?_
  refine la_if_ne C (tgt := 9) dX7_key_4 (by decide) (fun hc => ?_) (fun hc => ?_)
  · replace h := la_f hc h
    refine la_aload_n C dX7_key_9 0 rfl ?_
    refine GLCRX7_19 C dX7_key_10 ?_
    refine GLCRX7_137 C dX7_key_13 ?_
    refine la_iload_n C dX7_key_16 1 rfl ?_
    obtain ⟨hi17, h⟩ := la_go h
    refine ALC9 C _ rfl hi17 dX7_key_17 ?_
    refine la_if_ne C (tgt := 24) dX7_key_18 (by decide) (fun hc => ?_) (fun hc => ?_)
    · replace h := la_f hc h
      refine la_aload_n C dX7_key_24 0 rfl ?_
      refine GLCRX7_26 C dX7_key_25 ?_
      obtain ⟨r28, hr28, h⟩ := la_bd h
      refine KLCRX7_144 C [] [] (mX2_isFull  μ r28 hr28) ⟨by decide, by decide⟩ rfl rfl (Nat.le_of_ble_eq_true rfl) dX7_key_28 ?_
      refine la_if_eq C (tgt := 37) dX7_key_31 (by decide) (fun hc => ?_) (fun hc => ?_)
      · replace h := la_t hc h
        refine la_aload_n C dX7_key_37 0 rfl ?_
        refine GLCRX7_70 C dX7_key_38 ?_
        refine la_iconst C (v := 2) dX7_key_41 (by decide) ?_
        refine la_iadd C dX7_key_42 ?_
        refine la_aload_n C dX7_key_43 0 rfl ?_
        refine GLCRX7_61 C dX7_key_44 ?_
        refine la_iload_n C dX7_key_47 1 rfl ?_
        obtain ⟨hi48, h⟩ := la_go h
        refine ALC25 C _ rfl hi48 dX7_key_48 ?_
        refine la_iadd C dX7_key_49 ?_
        obtain ⟨v50, ev50, h⟩ := la_so h
        refine la_nm C ev50 ?_
        refine la_istore_n C dX7_key_50 (by decide) rfl ?_
        refine la_aload_n C dX7_key_51 1 rfl ?_
        refine GLCRX7_26 C dX7_key_52 ?_
        refine la_aload_n C dX7_key_55 1 rfl ?_
        refine GLCRX7_19 C dX7_key_56 ?_
        refine la_iload_n C dX7_key_59 2 rfl ?_
        obtain ⟨r60, μ60, hr60, h⟩ := la_b2o h
        refine KLCRX7_148 C [.int x1] [.ref (z.2.1 10)] (mX5_takeFirst x1 μ r60 μ60 hr60) ⟨by decide, by decide⟩ rfl rfl (Nat.le_of_ble_eq_true rfl) dX7_key_60 ?_
        refine la_iload_n C dX7_key_63 0 rfl ?_
        obtain ⟨μ64, hr64, h⟩ := la_bd h
        refine KLCRX7_151 C [.int r60, .int v50] [] (mX2_letGo r60 v50 μ60 μ64 hr64) ⟨by decide, by decide⟩ rfl rfl (Nat.le_of_ble_eq_true rfl) dX7_key_64 ?_
        refine la_iload_n C dX7_key_67 0 rfl ?_
        exact la_iret C rfl (la_rW (P := (fun r' μ' => r' = r0 ∧ μ' = μ0)) h hret) dX7_key_68
      · replace h := la_f hc h
        refine la_bipush C (v := (-3)) dX7_key_34 (by decide) ?_
        exact la_iret C rfl (la_rW (P := (fun r' μ' => r' = r0 ∧ μ' = μ0)) h hret) dX7_key_36
    · replace h := la_t hc h
      refine la_bipush C (v := (-4)) dX7_key_21 (by decide) ?_
      exact la_iret C rfl (la_rW (P := (fun r' μ' => r' = r0 ∧ μ' = μ0)) h hret) dX7_key_23
  · replace h := la_t hc h
    refine la_iconst C (v := (-1)) dX7_key_7 (by decide) ?_
    exact la_iret C rfl (la_rW (P := (fun r' μ' => r' = r0 ∧ μ' = μ0)) h hret) dX7_key_8

def fX7_band  (μ : la_Mem) : Option (Int32 × la_Mem) :=
  if (μ 10 5) < 12 then ((fX2_isFull  μ).bind (fun r19 => if r19 = 0 then (la_st (((μ 0 11) + 2)) (fun v34 => (fX2_letGo 100 v34 μ).bind (fun μ42 => some (v34, μ42)))) else (some ((-3), μ)))) else (some ((-4), μ))
set_option maxRecDepth 10000 in
theorem mX7_band {z : LCz} {l : Launch}  (μ : la_Mem) (r0 : Int32) (μ0 : la_Mem)  (h : fX7_band  μ = some (r0, μ0)) : la_M (LC z) l yX7_band cX7_band 2 (some .int) rmX7_band [.ref (z.2.1 0)] μ (fun r' μ' => r' = r0 ∧ μ' = μ0) := by
  refine la_of (own := RX7) (lv := [(0, .ref (z.2.1 0))]) (by decide) rfl (Nat.le_of_ble_eq_true rfl) rfl (fun Φ C => ?_)
  unfold fX7_band at h
  have hret : r0 = r0 ∧ μ0 = μ0 := ⟨rfl, rfl⟩
  refine la_aload_n C dX7_band_0 0 rfl ?_
  refine GLCRX7_26 C dX7_band_1 ?_
  refine GLCRX7_155 C dX7_band_4 ?_
  refine la_bipush C (v := 12) dX7_band_7 (by decide) ?_
  refine la_icmp_lt C (tgt := 15) dX7_band_9 (by decide) (fun hc => ?_) (fun hc => ?_)
  · replace h := la_t hc h
    refine la_aload_n C dX7_band_15 0 rfl ?_
    refine GLCRX7_26 C dX7_band_16 ?_
    obtain ⟨r19, hr19, h⟩ := la_bd h
    refine KLCRX7_144 C [] [] (mX2_isFull  μ r19 hr19) ⟨by decide, by decide⟩ rfl rfl (Nat.le_of_ble_eq_true rfl) dX7_band_19 ?_
    refine la_if_eq C (tgt := 28) dX7_band_22 (by decide) (fun hc => ?_) (fun hc => ?_)
    · replace h := la_t hc h
      refine la_aload_n C dX7_band_28 0 rfl ?_
      refine GLCRX7_70 C dX7_band_29 ?_
      refine la_iconst C (v := 2) dX7_band_32 (by decide) ?_
      refine la_iadd C dX7_band_33 ?_
      obtain ⟨v34, ev34, h⟩ := la_so h
      refine la_nm C ev34 ?_
      refine la_istore_n C dX7_band_34 (by decide) rfl ?_
      refine la_aload_n C dX7_band_35 1 rfl ?_
      refine GLCRX7_26 C dX7_band_36 ?_
      refine la_bipush C (v := 100) dX7_band_39 (by decide) ?_
      refine la_iload_n C dX7_band_41 0 rfl ?_
      obtain ⟨μ42, hr42, h⟩ := la_bd h
      refine KLCRX7_151 C [.int 100, .int v34] [] (mX2_letGo 100 v34 μ μ42 hr42) ⟨by decide, by decide⟩ rfl rfl (Nat.le_of_ble_eq_true rfl) dX7_band_42 ?_
      refine la_iload_n C dX7_band_45 0 rfl ?_
      exact la_iret C rfl (la_rW (P := (fun r' μ' => r' = r0 ∧ μ' = μ0)) h hret) dX7_band_46
    · replace h := la_f hc h
      refine la_bipush C (v := (-3)) dX7_band_25 (by decide) ?_
      exact la_iret C rfl (la_rW (P := (fun r' μ' => r' = r0 ∧ μ' = μ0)) h hret) dX7_band_27
  · replace h := la_f hc h
    refine la_bipush C (v := (-4)) dX7_band_12 (by decide) ?_
    exact la_iret C rfl (la_rW (P := (fun r' μ' => r' = r0 ∧ μ' = μ0)) h hret) dX7_band_14

def fX7_goOn_L2 (x1 : Int32) : Nat → Int32 → la_Mem → Option (la_Mem)
  | 0, _, _ => none
  | n + 1, x2, μ => if x1 ≤ x2 then (some μ) else (la_st (la_ms μ 0 11 ((μ 0 11) + 1)) (fun μ14 => (fX2_takeDue (μ14 0 11) μ14).bind (fun μ25 => (fX1_dropDue (μ25 0 11) μ25).bind (fun μ40 => (fX7_goOn_L2 x1 n) (x2 + 1) μ40))))
set_option maxRecDepth 10000 in
theorem wX7_goOn_L2 {z : LCz} {l : Launch} {Post : Int32 → la_Mem → Prop} {Φ : Nat → List (Nat × Value) → List Value → la_Mem → Prop} (C : la_C (LC z) l rmX7_goOn RX7 cX7_goOn 3 none Post Φ) (x1 : Int32)  (ex : (la_Mem)) (kx : ∀  (ν : la_Mem), ex = ν → Φ 49 [] [] ν) : ∀ (n : Nat) (x2 : Int32) (μ : la_Mem), fX7_goOn_L2 x1 n x2 μ = some ex → Φ 2 [(0, .ref (z.2.1 0)), (1, .int x1), (2, .int x2)] [] μ := by
  intro n
  induction n with
  | zero =>
    intro _ _ h
    cases h
  | succ n hrec =>
    intro x2 μ h
    rw [fX7_goOn_L2] at h
    refine la_iload_n C dX7_goOn_2 2 rfl ?_
    refine la_iload_n C dX7_goOn_3 1 rfl ?_
    refine la_icmp_ge C (tgt := 49) dX7_goOn_4 (by decide) (fun hc => ?_) (fun hc => ?_)
    · replace h := la_t hc h
      refine la_sub C [] rfl ?_
      exact kx _ (Option.some.inj h).symm
    · replace h := la_f hc h
      refine la_aload_n C dX7_goOn_7 0 rfl ?_
      refine la_dup C dX7_goOn_8 rfl ?_
      refine GLCRX7_70 C dX7_goOn_9 ?_
      refine la_iconst C (v := 1) dX7_goOn_12 (by decide) ?_
      refine la_iadd C dX7_goOn_13 ?_
      obtain ⟨μ14, eμ14, h⟩ := la_so h
      refine SLCRX7_70 C eμ14 dX7_goOn_14 ?_
      refine la_aload_n C dX7_goOn_17 0 rfl ?_
      refine GLCRX7_26 C dX7_goOn_18 ?_
      refine la_aload_n C dX7_goOn_21 0 rfl ?_
      refine GLCRX7_70 C dX7_goOn_22 ?_
      obtain ⟨μ25, hr25, h⟩ := la_bd h
      refine KLCRX7_276 C [.int (μ14 0 11)] [] (mX2_takeDue (μ14 0 11) μ14 μ25 hr25) ⟨by decide, by decide⟩ rfl rfl (Nat.le_of_ble_eq_true rfl) dX7_goOn_25 ?_
      refine la_aload_n C dX7_goOn_28 0 rfl ?_
      refine GLCRX7_33 C dX7_goOn_29 ?_
      refine la_aload_n C dX7_goOn_32 0 rfl ?_
      refine GLCRX7_70 C dX7_goOn_33 ?_
      refine la_aload_n C dX7_goOn_36 0 rfl ?_
      refine GLCRX7_19 C dX7_goOn_37 ?_
      obtain ⟨μ40, hr40, h⟩ := la_bd h
      refine KLCRX7_279 C [.int (μ25 0 11), .ref (z.2.1 4)] [] (mX1_dropDue (μ25 0 11) μ25 μ40 hr40) ⟨by decide, by decide⟩ rfl rfl (Nat.le_of_ble_eq_true rfl) dX7_goOn_40 ?_
      refine la_iinc C (v := (x2 + 1)) dX7_goOn_43 2 rfl rfl (by decide) rfl ?_
      refine la_goto C (tgt := 2) dX7_goOn_46 (by decide) ?_
      refine la_sub C [1, 2, 0] rfl ?_
      exact hrec _ _ h
def fX7_goOn (x1 : Int32) (μ : la_Mem) : Option la_Mem :=
  Option.bind (fX7_goOn_L2 x1 400 0 μ) (fun ν2 => some ν2)
set_option maxRecDepth 10000 in
theorem mX7_goOn {z : LCz} {l : Launch} (x1 : Int32) (μ : la_Mem) (μ0 : la_Mem)  (h : fX7_goOn x1 μ = some μ0) : la_M (LC z) l yX7_goOn cX7_goOn 3 none rmX7_goOn [.ref (z.2.1 0), .int x1] μ (fun _ μ' => μ' = μ0) := by
  refine la_of (own := RX7) (lv := [(0, .ref (z.2.1 0)), (1, .int x1)]) (by decide) rfl (Nat.le_of_ble_eq_true rfl) rfl (fun Φ C => ?_)
  unfold fX7_goOn at h
  have hret : μ0 = μ0 := rfl
  refine la_iconst C (v := 0) dX7_goOn_0 (by decide) ?_
  refine la_istore_n C dX7_goOn_1 (by decide) rfl ?_
  obtain ⟨ν2, hL2, h⟩ := la_bd h
  refine la_sub C [1, 2, 0] rfl ?_
  refine wX7_goOn_L2 C _  _ (fun _ e => ?_) _ _ _ hL2
  cases e
  exact la_vret C (la_rV (P := (fun _ μ' => μ' = μ0)) h hret) dX7_goOn_49

def fX7_ticks (x1 : Int32) (μ : la_Mem) : Option (Int32 × la_Mem) :=
  if x1 < 1 then (some ((-1), μ)) else (if x1 ≤ 300 then (if ((μ 0 11) + x1) ≤ 99999 then ((fX7_goOn x1 μ).bind (fun μ30 => some ((μ30 0 11), μ30))) else (some ((-3), μ))) else (some ((-1), μ)))
set_option maxRecDepth 10000 in
theorem mX7_ticks {z : LCz} {l : Launch} (x1 : Int32) (μ : la_Mem) (r0 : Int32) (μ0 : la_Mem)  (h : fX7_ticks x1 μ = some (r0, μ0)) : la_M (LC z) l yX7_ticks cX7_ticks 2 (some .int) rmX7_ticks [.ref (z.2.1 0), .int x1] μ (fun r' μ' => r' = r0 ∧ μ' = μ0) := by
  refine la_of (own := RX7) (lv := [(0, .ref (z.2.1 0)), (1, .int x1)]) (by decide) rfl (Nat.le_of_ble_eq_true rfl) rfl (fun Φ C => ?_)
  unfold fX7_ticks at h
  have hret : r0 = r0 ∧ μ0 = μ0 := ⟨rfl, rfl⟩
  refine la_iload_n C dX7_ticks_0 1 rfl ?_
  refine la_iconst C (v := 1) dX7_ticks_1 (by decide) ?_
  refine la_icmp_lt C (tgt := 12) dX7_ticks_2 (by decide) (fun hc => ?_) (fun hc => ?_)
  · replace h := la_t hc h
    refine la_iconst C (v := (-1)) dX7_ticks_12 (by decide) ?_
    exact la_iret C rfl (la_rW (P := (fun r' μ' => r' = r0 ∧ μ' = μ0)) h hret) dX7_ticks_13
  · replace h := la_f hc h
    refine la_iload_n C dX7_ticks_5 1 rfl ?_
    refine la_sipush C (v := 300) dX7_ticks_6 (by decide) ?_
    refine la_icmp_le C (tgt := 14) dX7_ticks_9 (by decide) (fun hc => ?_) (fun hc => ?_)
    · replace h := la_t hc h
      refine la_aload_n C dX7_ticks_14 0 rfl ?_
      refine GLCRX7_70 C dX7_ticks_15 ?_
      refine la_iload_n C dX7_ticks_18 1 rfl ?_
      refine la_iadd C dX7_ticks_19 ?_
      refine la_ldc C (v := 99999) wd_407 dX7_ticks_20 ?_
      refine la_icmp_le C (tgt := 28) dX7_ticks_22 (by decide) (fun hc => ?_) (fun hc => ?_)
      · replace h := la_t hc h
        refine la_aload_n C dX7_ticks_28 0 rfl ?_
        refine la_iload_n C dX7_ticks_29 1 rfl ?_
        obtain ⟨μ30, hr30, h⟩ := la_bd h
        refine KLCRX7_159 C [.int x1] [] (mX7_goOn x1 μ μ30 hr30) ⟨by decide, by decide⟩ rfl rfl (Nat.le_of_ble_eq_true rfl) dX7_ticks_30 ?_
        refine la_aload_n C dX7_ticks_33 0 rfl ?_
        refine GLCRX7_70 C dX7_ticks_34 ?_
        exact la_iret C rfl (la_rW (P := (fun r' μ' => r' = r0 ∧ μ' = μ0)) h hret) dX7_ticks_37
      · replace h := la_f hc h
        refine la_bipush C (v := (-3)) dX7_ticks_25 (by decide) ?_
        exact la_iret C rfl (la_rW (P := (fun r' μ' => r' = r0 ∧ μ' = μ0)) h hret) dX7_ticks_27
    · replace h := la_f hc h
      refine la_iconst C (v := (-1)) dX7_ticks_12 (by decide) ?_
      exact la_iret C rfl (la_rW (P := (fun r' μ' => r' = r0 ∧ μ' = μ0)) h hret) dX7_ticks_13

def fX7_line (x1 : Int32) (μ : la_Mem) : Option Int32 :=
  if (-1) ≤ x1 then (if x1 = (-1) then (some (μ 10 3)) else (if (μ 10 3) ≤ x1 then (some (-4)) else (la_if (la_ix x1 24) (some (μ 11 (Int32.toNatClampNeg x1)))))) else (some (-1))
set_option maxRecDepth 10000 in
theorem mX7_line {z : LCz} {l : Launch} (x1 : Int32) (μ : la_Mem) (r0 : Int32)  (h : fX7_line x1 μ = some r0) : la_M (LC z) l yX7_line cX7_line 2 (some .int) rmX7_line [.ref (z.2.1 0), .int x1] μ (fun r' μ' => r' = r0 ∧ μ' = μ) := by
  refine la_of (own := RX7) (lv := [(0, .ref (z.2.1 0)), (1, .int x1)]) (by decide) rfl (Nat.le_of_ble_eq_true rfl) rfl (fun Φ C => ?_)
  unfold fX7_line at h
  have hret : r0 = r0 ∧ μ = μ := ⟨rfl, rfl⟩
  refine la_iload_n C dX7_line_0 1 rfl ?_
  refine la_iconst C (v := (-1)) dX7_line_1 (by decide) ?_
  refine la_icmp_ge C (tgt := 7) dX7_line_2 (by decide) (fun hc => ?_) (fun hc => ?_)
  · replace h := la_t hc h
    refine la_iload_n C dX7_line_7 1 rfl ?_
    refine la_iconst C (v := (-1)) dX7_line_8 (by decide) ?_
    refine la_icmp_ne C (tgt := 20) dX7_line_9 (by decide) (fun hc => ?_) (fun hc => ?_)
    · replace h := la_f hc h
      refine la_iload_n C dX7_line_20 1 rfl ?_
      refine la_aload_n C dX7_line_21 0 rfl ?_
      refine GLCRX7_26 C dX7_line_22 ?_
      refine GLCRX7_163 C dX7_line_25 ?_
      refine la_icmp_ge C (tgt := 43) dX7_line_28 (by decide) (fun hc => ?_) (fun hc => ?_)
      · replace h := la_t hc h
        refine la_bipush C (v := (-4)) dX7_line_43 (by decide) ?_
        exact la_iret C rfl (la_rR (P := (fun r' μ' => r' = r0 ∧ μ' = μ)) h hret) dX7_line_45
      · replace h := la_f hc h
        refine la_aload_n C dX7_line_31 0 rfl ?_
        refine GLCRX7_26 C dX7_line_32 ?_
        refine GLCRX7_166 C dX7_line_35 ?_
        refine la_iload_n C dX7_line_38 1 rfl ?_
        obtain ⟨hi39, h⟩ := la_go h
        refine ALC11 C _ rfl hi39 dX7_line_39 ?_
        refine la_goto C (tgt := 45) dX7_line_40 (by decide) ?_
        exact la_iret C rfl (la_rR (P := (fun r' μ' => r' = r0 ∧ μ' = μ)) h hret) dX7_line_45
    · replace h := la_t hc h
      refine la_aload_n C dX7_line_12 0 rfl ?_
      refine GLCRX7_26 C dX7_line_13 ?_
      refine GLCRX7_163 C dX7_line_16 ?_
      exact la_iret C rfl (la_rR (P := (fun r' μ' => r' = r0 ∧ μ' = μ)) h hret) dX7_line_19
  · replace h := la_f hc h
    refine la_iconst C (v := (-1)) dX7_line_5 (by decide) ?_
    exact la_iret C rfl (la_rR (P := (fun r' μ' => r' = r0 ∧ μ' = μ)) h hret) dX7_line_6

def fX7_composedWidth_J54 (rec : Int32 → Int32 → Option (Int32)) (x1 : Int32) (x2 : Int32) (μ : la_Mem) : Option (Int32) :=
  rec x1 (x2 + 1)
set_option maxRecDepth 10000 in
theorem wX7_composedWidth_J54 {z : LCz} {l : Launch} {Post : Int32 → la_Mem → Prop} {Φ : Nat → List (Nat × Value) → List Value → la_Mem → Prop} (C : la_C (LC z) l rmX7_composedWidth RX7 cX7_composedWidth 3 (some .int) Post Φ) (rec : Int32 → Int32 → Option (Int32)) (x1 : Int32) (x2 : Int32) (μ : la_Mem)  (ex : (Int32)) (hrec : ∀ (y1 : Int32) (y2 : Int32), rec y1 y2 = some ex → Φ 4 [(0, .ref (z.2.1 0)), (1, .int y1), (2, .int y2)] [] μ) (kx : ∀ (y1 : Int32), ex = y1 → Φ 60 [(1, .int y1)] [] μ) (h : fX7_composedWidth_J54 rec x1 x2 μ = some ex) : Φ 54 [(0, .ref (z.2.1 0)), (1, .int x1), (2, .int x2)] [] μ := by
  unfold fX7_composedWidth_J54 at h
  refine la_iinc C (v := (x2 + 1)) dX7_composedWidth_54 2 rfl rfl (by decide) rfl ?_
  refine la_goto C (tgt := 4) dX7_composedWidth_57 (by decide) ?_
  refine la_sub C [1, 2, 0] rfl ?_
  exact hrec _ _ h
def fX7_composedWidth_L4  (μ : la_Mem) : Nat → Int32 → Int32 → Option (Int32)
  | 0, _, _ => none
  | n + 1, x1, x2 => if (μ 10 3) ≤ x2 then (some x1) else (la_if (la_ix x2 24) (if (μ 11 (Int32.toNatClampNeg x2)) = 100 then (fX7_composedWidth_J54 (fX7_composedWidth_L4  μ n) x1 x2 μ) else (la_if (la_ix x2 24) (la_if (la_ix (μ 11 (Int32.toNatClampNeg x2)) 60) (la_if (la_ix (μ 5 (Int32.toNatClampNeg (μ 11 (Int32.toNatClampNeg x2)))) 12) (la_st ((x1 + (μ 24 (Int32.toNatClampNeg (μ 5 (Int32.toNatClampNeg (μ 11 (Int32.toNatClampNeg x2)))))))) (fun v53 => fX7_composedWidth_J54 (fX7_composedWidth_L4  μ n) v53 x2 μ)))))))
set_option maxRecDepth 10000 in
theorem wX7_composedWidth_L4 {z : LCz} {l : Launch} {Post : Int32 → la_Mem → Prop} {Φ : Nat → List (Nat × Value) → List Value → la_Mem → Prop} (C : la_C (LC z) l rmX7_composedWidth RX7 cX7_composedWidth 3 (some .int) Post Φ)  (μ : la_Mem)  (ex : (Int32)) (kx : ∀ (y1 : Int32), ex = y1 → Φ 60 [(1, .int y1)] [] μ) : ∀ (n : Nat) (x1 : Int32) (x2 : Int32), fX7_composedWidth_L4  μ n x1 x2 = some ex → Φ 4 [(0, .ref (z.2.1 0)), (1, .int x1), (2, .int x2)] [] μ := by
  intro n
  induction n with
  | zero =>
    intro _ _ h
    cases h
  | succ n hrec =>
    intro x1 x2 h
    rw [fX7_composedWidth_L4] at h
    refine la_iload_n C dX7_composedWidth_4 2 rfl ?_
    refine la_aload_n C dX7_composedWidth_5 0 rfl ?_
    refine GLCRX7_26 C dX7_composedWidth_6 ?_
    refine GLCRX7_163 C dX7_composedWidth_9 ?_
    refine la_icmp_ge C (tgt := 60) dX7_composedWidth_12 (by decide) (fun hc => ?_) (fun hc => ?_)
    · replace h := la_t hc h
      refine la_sub C [1] rfl ?_
      exact kx _ (Option.some.inj h).symm
    · replace h := la_f hc h
      refine la_aload_n C dX7_composedWidth_15 0 rfl ?_
      refine GLCRX7_26 C dX7_composedWidth_16 ?_
      refine GLCRX7_166 C dX7_composedWidth_19 ?_
      refine la_iload_n C dX7_composedWidth_22 2 rfl ?_
      obtain ⟨hi23, h⟩ := la_go h
      refine ALC11 C _ rfl hi23 dX7_composedWidth_23 ?_
      refine la_bipush C (v := 100) dX7_composedWidth_24 (by decide) ?_
      refine la_icmp_eq C (tgt := 54) dX7_composedWidth_26 (by decide) (fun hc => ?_) (fun hc => ?_)
      · replace h := la_t hc h
        refine la_sub C [0, 1, 2] rfl ?_
        exact wX7_composedWidth_J54 C (fX7_composedWidth_L4  μ n) _ _ _  _ hrec kx h
      · replace h := la_f hc h
        refine la_iload_n C dX7_composedWidth_29 1 rfl ?_
        refine la_aload_n C dX7_composedWidth_30 0 rfl ?_
        refine GLCRX7_57 C dX7_composedWidth_31 ?_
        refine la_aload_n C dX7_composedWidth_34 0 rfl ?_
        refine GLCRX7_19 C dX7_composedWidth_35 ?_
        refine GLCRX7_127 C dX7_composedWidth_38 ?_
        refine la_aload_n C dX7_composedWidth_41 0 rfl ?_
        refine GLCRX7_26 C dX7_composedWidth_42 ?_
        refine GLCRX7_166 C dX7_composedWidth_45 ?_
        refine la_iload_n C dX7_composedWidth_48 2 rfl ?_
        obtain ⟨hi49, h⟩ := la_go h
        refine ALC11 C _ rfl hi49 dX7_composedWidth_49 ?_
        obtain ⟨hi50, h⟩ := la_go h
        refine ALC5 C _ rfl hi50 dX7_composedWidth_50 ?_
        obtain ⟨hi51, h⟩ := la_go h
        refine ALC24 C _ rfl hi51 dX7_composedWidth_51 ?_
        refine la_iadd C dX7_composedWidth_52 ?_
        obtain ⟨v53, ev53, h⟩ := la_so h
        refine la_nm C ev53 ?_
        refine la_istore_n C dX7_composedWidth_53 (by decide) rfl ?_
        refine la_sub C [1, 0, 2] rfl ?_
        exact wX7_composedWidth_J54 C (fX7_composedWidth_L4  μ n) _ _ _  _ hrec kx h
def fX7_composedWidth  (μ : la_Mem) : Option Int32 :=
  Option.bind (fX7_composedWidth_L4  μ 400 0 0) (fun q4_1 => some q4_1)
set_option maxRecDepth 10000 in
theorem mX7_composedWidth {z : LCz} {l : Launch}  (μ : la_Mem) (r0 : Int32)  (h : fX7_composedWidth  μ = some r0) : la_M (LC z) l yX7_composedWidth cX7_composedWidth 3 (some .int) rmX7_composedWidth [.ref (z.2.1 0)] μ (fun r' μ' => r' = r0 ∧ μ' = μ) := by
  refine la_of (own := RX7) (lv := [(0, .ref (z.2.1 0))]) (by decide) rfl (Nat.le_of_ble_eq_true rfl) rfl (fun Φ C => ?_)
  unfold fX7_composedWidth at h
  have hret : r0 = r0 ∧ μ = μ := ⟨rfl, rfl⟩
  refine la_iconst C (v := 0) dX7_composedWidth_0 (by decide) ?_
  refine la_istore_n C dX7_composedWidth_1 (by decide) rfl ?_
  refine la_iconst C (v := 0) dX7_composedWidth_2 (by decide) ?_
  refine la_istore_n C dX7_composedWidth_3 (by decide) rfl ?_
  obtain ⟨q4_1, hL4, h⟩ := la_bd h
  refine la_sub C [2, 1, 0] rfl ?_
  refine wX7_composedWidth_L4 C _  _ (fun _ e => ?_) _ _ _ hL4
  cases e
  refine la_iload_n C dX7_composedWidth_60 0 rfl ?_
  exact la_iret C rfl (la_rR (P := (fun r' μ' => r' = r0 ∧ μ' = μ)) h hret) dX7_composedWidth_61

def fX7_tightness  (μ : la_Mem) : Option Int32 :=
  if (μ 10 4) ≤ 0 then (if (μ 10 3) = 0 then (some (-4)) else ((fX7_composedWidth  μ).bind (fun r27 => (fX2_bandsCome  μ).bind (fun r35 => if (μ 26 2) ≤ (r27 + (r35 * (μ 26 1))) then (if (r27 + (r35 * (μ 26 0))) ≤ (μ 26 2) then (some 0) else (some 2)) else (some 1))))) else (some (-2))
set_option maxRecDepth 10000 in
theorem mX7_tightness {z : LCz} {l : Launch}  (μ : la_Mem) (r0 : Int32)  (h : fX7_tightness  μ = some r0) : la_M (LC z) l yX7_tightness cX7_tightness 3 (some .int) rmX7_tightness [.ref (z.2.1 0)] μ (fun r' μ' => r' = r0 ∧ μ' = μ) := by
  refine la_of (own := RX7) (lv := [(0, .ref (z.2.1 0))]) (by decide) rfl (Nat.le_of_ble_eq_true rfl) rfl (fun Φ C => ?_)
  unfold fX7_tightness at h
  have hret : r0 = r0 ∧ μ = μ := ⟨rfl, rfl⟩
  refine la_aload_n C dX7_tightness_0 0 rfl ?_
  refine GLCRX7_26 C dX7_tightness_1 ?_
  refine GLCRX7_188 C dX7_tightness_4 ?_
  refine la_if_le C (tgt := 13) dX7_tightness_7 (by decide) (fun hc => ?_) (fun hc => ?_)
  · replace h := la_t hc h
    refine la_aload_n C dX7_tightness_13 0 rfl ?_
    refine GLCRX7_26 C dX7_tightness_14 ?_
    refine GLCRX7_163 C dX7_tightness_17 ?_
    refine la_if_ne C (tgt := 26) dX7_tightness_20 (by decide) (fun hc => ?_) (fun hc => ?_)
    · replace h := la_f hc h
      refine la_aload_n C dX7_tightness_26 0 rfl ?_
      obtain ⟨r27, hr27, h⟩ := la_bd h
      refine KLCRX7_175 C [] [] (mX7_composedWidth  μ r27 hr27) ⟨by decide, by decide⟩ rfl rfl (Nat.le_of_ble_eq_true rfl) dX7_tightness_27 ?_
      refine la_istore_n C dX7_tightness_30 (by decide) rfl ?_
      refine la_aload_n C dX7_tightness_31 1 rfl ?_
      refine GLCRX7_26 C dX7_tightness_32 ?_
      obtain ⟨r35, hr35, h⟩ := la_bd h
      refine KLCRX7_172 C [] [] (mX2_bandsCome  μ r35 hr35) ⟨by decide, by decide⟩ rfl rfl (Nat.le_of_ble_eq_true rfl) dX7_tightness_35 ?_
      refine la_istore_n C dX7_tightness_38 (by decide) rfl ?_
      refine la_iload_n C dX7_tightness_39 1 rfl ?_
      refine la_iload_n C dX7_tightness_40 0 rfl ?_
      refine la_aload_n C dX7_tightness_41 2 rfl ?_
      refine GLCRX7_64 C dX7_tightness_42 ?_
      refine la_iconst C (v := 1) dX7_tightness_45 (by decide) ?_
      refine ALC26 C 1 (by decide) (by decide) dX7_tightness_46 ?_
      refine la_imul C dX7_tightness_47 ?_
      refine la_iadd C dX7_tightness_48 ?_
      refine la_aload_n C dX7_tightness_49 2 rfl ?_
      refine GLCRX7_64 C dX7_tightness_50 ?_
      refine la_iconst C (v := 2) dX7_tightness_53 (by decide) ?_
      refine ALC26 C 2 (by decide) (by decide) dX7_tightness_54 ?_
      refine la_icmp_ge C (tgt := 60) dX7_tightness_55 (by decide) (fun hc => ?_) (fun hc => ?_)
      · replace h := la_t hc h
        refine la_iload_n C dX7_tightness_60 1 rfl ?_
        refine la_iload_n C dX7_tightness_61 0 rfl ?_
        refine la_aload_n C dX7_tightness_62 2 rfl ?_
        refine GLCRX7_64 C dX7_tightness_63 ?_
        refine la_iconst C (v := 0) dX7_tightness_66 (by decide) ?_
        refine ALC26 C 0 (by decide) (by decide) dX7_tightness_67 ?_
        refine la_imul C dX7_tightness_68 ?_
        refine la_iadd C dX7_tightness_69 ?_
        refine la_aload_n C dX7_tightness_70 2 rfl ?_
        refine GLCRX7_64 C dX7_tightness_71 ?_
        refine la_iconst C (v := 2) dX7_tightness_74 (by decide) ?_
        refine ALC26 C 2 (by decide) (by decide) dX7_tightness_75 ?_
        refine la_icmp_le C (tgt := 81) dX7_tightness_76 (by decide) (fun hc => ?_) (fun hc => ?_)
        · replace h := la_t hc h
          refine la_iconst C (v := 0) dX7_tightness_81 (by decide) ?_
          exact la_iret C rfl (la_rR (P := (fun r' μ' => r' = r0 ∧ μ' = μ)) h hret) dX7_tightness_82
        · replace h := la_f hc h
          refine la_iconst C (v := 2) dX7_tightness_79 (by decide) ?_
          exact la_iret C rfl (la_rR (P := (fun r' μ' => r' = r0 ∧ μ' = μ)) h hret) dX7_tightness_80
      · replace h := la_f hc h
        refine la_iconst C (v := 1) dX7_tightness_58 (by decide) ?_
        exact la_iret C rfl (la_rR (P := (fun r' μ' => r' = r0 ∧ μ' = μ)) h hret) dX7_tightness_59
    · replace h := la_t hc h
      refine la_bipush C (v := (-4)) dX7_tightness_23 (by decide) ?_
      exact la_iret C rfl (la_rR (P := (fun r' μ' => r' = r0 ∧ μ' = μ)) h hret) dX7_tightness_25
  · replace h := la_f hc h
    refine la_bipush C (v := (-2)) dX7_tightness_10 (by decide) ?_
    exact la_iret C rfl (la_rR (P := (fun r' μ' => r' = r0 ∧ μ' = μ)) h hret) dX7_tightness_12

def fX7_state  (μ : la_Mem) : Option Int32 :=
  (fX7_tightness  μ).bind (fun r1 => some r1)
set_option maxRecDepth 10000 in
theorem mX7_state {z : LCz} {l : Launch}  (μ : la_Mem) (r0 : Int32)  (h : fX7_state  μ = some r0) : la_M (LC z) l yX7_state cX7_state 1 (some .int) rmX7_state [.ref (z.2.1 0)] μ (fun r' μ' => r' = r0 ∧ μ' = μ) := by
  refine la_of (own := RX7) (lv := [(0, .ref (z.2.1 0))]) (by decide) rfl (Nat.le_of_ble_eq_true rfl) rfl (fun Φ C => ?_)
  unfold fX7_state at h
  have hret : r0 = r0 ∧ μ = μ := ⟨rfl, rfl⟩
  refine la_aload_n C dX7_state_0 0 rfl ?_
  obtain ⟨r1, hr1, h⟩ := la_bd h
  refine KLCRX7_169 C [] [] (mX7_tightness  μ r1 hr1) ⟨by decide, by decide⟩ rfl rfl (Nat.le_of_ble_eq_true rfl) dX7_state_1 ?_
  exact la_iret C rfl (la_rR (P := (fun r' μ' => r' = r0 ∧ μ' = μ)) h hret) dX7_state_4

def fX7_thick_J53 (x2 : Int32) (x3 : Int32) (s0 : Int32) (μ : la_Mem) : Option Int32 :=
  la_if (!(decide (x2 = 0))) (some ((x3 / x2) + s0))
set_option maxRecDepth 10000 in
theorem wX7_thick_J53 {z : LCz} {l : Launch} {Post : Int32 → la_Mem → Prop} {Φ : Nat → List (Nat × Value) → List Value → la_Mem → Prop} (C : la_C (LC z) l rmX7_thick RX7 cX7_thick 5 (some .int) Post Φ) (x2 : Int32) (x3 : Int32) (s0 : Int32) (μ : la_Mem)  (ex : Int32) (hret : Post ex μ) (h : fX7_thick_J53 x2 x3 s0 μ = some ex) : Φ 53 [(2, .int x2), (3, .int x3)] [.int s0] μ := by
  unfold fX7_thick_J53 at h
  refine la_istore C dX7_thick_53 (by decide) rfl ?_
  refine la_iload_n C dX7_thick_55 2 rfl ?_
  refine la_iload_n C dX7_thick_56 1 rfl ?_
  obtain ⟨hz57, h⟩ := la_go h
  refine la_idiv C dX7_thick_57 (by simpa using hz57) ?_
  refine la_iload C dX7_thick_58 0 rfl ?_
  refine la_iadd C dX7_thick_60 ?_
  exact la_iret C rfl (la_rR (P := Post) h hret) dX7_thick_61
def fX7_thick (x1 : Int32) (μ : la_Mem) : Option Int32 :=
  (fX2_bandsCome  μ).bind (fun r4 => if x1 < 0 then (some (-1)) else (if x1 < r4 then ((fX7_tightness  μ).bind (fun r20 => if r20 = 0 then ((fX7_composedWidth  μ).bind (fun r36 => la_st (((μ 26 2) - r36)) (fun v40 => la_if (!(decide (r4 = 0))) (if (v40 - v40 / r4 * r4) ≤ x1 then (fX7_thick_J53 r4 v40 0 μ) else (fX7_thick_J53 r4 v40 1 μ))))) else (some (-2)))) else (some (-1))))
set_option maxRecDepth 10000 in
theorem mX7_thick {z : LCz} {l : Launch} (x1 : Int32) (μ : la_Mem) (r0 : Int32)  (h : fX7_thick x1 μ = some r0) : la_M (LC z) l yX7_thick cX7_thick 5 (some .int) rmX7_thick [.ref (z.2.1 0), .int x1] μ (fun r' μ' => r' = r0 ∧ μ' = μ) := by
  refine la_of (own := RX7) (lv := [(0, .ref (z.2.1 0)), (1, .int x1)]) (by decide) rfl (Nat.le_of_ble_eq_true rfl) rfl (fun Φ C => ?_)
  unfold fX7_thick at h
  have hret : r0 = r0 ∧ μ = μ := ⟨rfl, rfl⟩
  refine la_aload_n C dX7_thick_0 0 rfl ?_
  refine GLCRX7_26 C dX7_thick_1 ?_
  obtain ⟨r4, hr4, h⟩ := la_bd h
  refine KLCRX7_172 C [] [] (mX2_bandsCome  μ r4 hr4) ⟨by decide, by decide⟩ rfl rfl (Nat.le_of_ble_eq_true rfl) dX7_thick_4 ?_
  refine la_istore_n C dX7_thick_7 (by decide) rfl ?_
  refine la_iload_n C dX7_thick_8 2 rfl ?_
  refine la_if_lt C (tgt := 17) dX7_thick_9 (by decide) (fun hc => ?_) (fun hc => ?_)
  · replace h := la_t hc h
    refine la_iconst C (v := (-1)) dX7_thick_17 (by decide) ?_
    exact la_iret C rfl (la_rR (P := (fun r' μ' => r' = r0 ∧ μ' = μ)) h hret) dX7_thick_18
  · replace h := la_f hc h
    refine la_iload_n C dX7_thick_12 2 rfl ?_
    refine la_iload_n C dX7_thick_13 0 rfl ?_
    refine la_icmp_lt C (tgt := 19) dX7_thick_14 (by decide) (fun hc => ?_) (fun hc => ?_)
    · replace h := la_t hc h
      refine la_aload_n C dX7_thick_19 1 rfl ?_
      obtain ⟨r20, hr20, h⟩ := la_bd h
      refine KLCRX7_169 C [] [] (mX7_tightness  μ r20 hr20) ⟨by decide, by decide⟩ rfl rfl (Nat.le_of_ble_eq_true rfl) dX7_thick_20 ?_
      refine la_if_eq C (tgt := 29) dX7_thick_23 (by decide) (fun hc => ?_) (fun hc => ?_)
      · replace h := la_t hc h
        refine la_aload_n C dX7_thick_29 1 rfl ?_
        refine GLCRX7_64 C dX7_thick_30 ?_
        refine la_iconst C (v := 2) dX7_thick_33 (by decide) ?_
        refine ALC26 C 2 (by decide) (by decide) dX7_thick_34 ?_
        refine la_aload_n C dX7_thick_35 1 rfl ?_
        obtain ⟨r36, hr36, h⟩ := la_bd h
        refine KLCRX7_175 C [] [.int (μ 26 2)] (mX7_composedWidth  μ r36 hr36) ⟨by decide, by decide⟩ rfl rfl (Nat.le_of_ble_eq_true rfl) dX7_thick_36 ?_
        refine la_isub C dX7_thick_39 ?_
        obtain ⟨v40, ev40, h⟩ := la_so h
        refine la_nm C ev40 ?_
        refine la_istore_n C dX7_thick_40 (by decide) rfl ?_
        refine la_iload_n C dX7_thick_41 3 rfl ?_
        refine la_iload_n C dX7_thick_42 0 rfl ?_
        refine la_iload_n C dX7_thick_43 1 rfl ?_
        obtain ⟨hz44, h⟩ := la_go h
        refine la_irem C dX7_thick_44 (by simpa using hz44) ?_
        refine la_icmp_ge C (tgt := 52) dX7_thick_45 (by decide) (fun hc => ?_) (fun hc => ?_)
        · replace h := la_t hc h
          refine la_iconst C (v := 0) dX7_thick_52 (by decide) ?_
          refine la_sub C [1, 0] rfl ?_
          exact wX7_thick_J53 C _ _ _ _  _ hret h
        · replace h := la_f hc h
          refine la_iconst C (v := 1) dX7_thick_48 (by decide) ?_
          refine la_goto C (tgt := 53) dX7_thick_49 (by decide) ?_
          refine la_sub C [1, 0] rfl ?_
          exact wX7_thick_J53 C _ _ _ _  _ hret h
      · replace h := la_f hc h
        refine la_bipush C (v := (-2)) dX7_thick_26 (by decide) ?_
        exact la_iret C rfl (la_rR (P := (fun r' μ' => r' = r0 ∧ μ' = μ)) h hret) dX7_thick_28
    · replace h := la_f hc h
      refine la_iconst C (v := (-1)) dX7_thick_17 (by decide) ?_
      exact la_iret C rfl (la_rR (P := (fun r' μ' => r' = r0 ∧ μ' = μ)) h hret) dX7_thick_18

def fX7_hangOnBar (x1 : Int32) (x2 : Int32) (μ : la_Mem) : Option la_Mem :=
  la_if (la_ix x1 60) ((fX0_fallOf (μ 6 (Int32.toNatClampNeg x1)) μ).bind (fun r13 => la_if (la_ix x1 60) (la_st (la_ms μ 7 (Int32.toNatClampNeg x1) 14) (fun μ27 => (fX1_hang x1 r13 ((((μ27 0 11) + (μ27 26 3)) + x2) + r13) μ27).bind (fun μ49 => some μ49)))))
set_option maxRecDepth 10000 in
theorem mX7_hangOnBar {z : LCz} {l : Launch} (x1 : Int32) (x2 : Int32) (μ : la_Mem) (μ0 : la_Mem)  (h : fX7_hangOnBar x1 x2 μ = some μ0) : la_M (LC z) l yX7_hangOnBar cX7_hangOnBar 4 none rmX7_hangOnBar [.ref (z.2.1 0), .int x1, .int x2] μ (fun _ μ' => μ' = μ0) := by
  refine la_of (own := RX7) (lv := [(0, .ref (z.2.1 0)), (1, .int x1), (2, .int x2)]) (by decide) rfl (Nat.le_of_ble_eq_true rfl) rfl (fun Φ C => ?_)
  unfold fX7_hangOnBar at h
  have hret : μ0 = μ0 := rfl
  refine la_aload_n C dX7_hangOnBar_0 0 rfl ?_
  refine GLCRX7_12 C dX7_hangOnBar_1 ?_
  refine la_aload_n C dX7_hangOnBar_4 0 rfl ?_
  refine GLCRX7_19 C dX7_hangOnBar_5 ?_
  refine GLCRX7_130 C dX7_hangOnBar_8 ?_
  refine la_iload_n C dX7_hangOnBar_11 1 rfl ?_
  obtain ⟨hi12, h⟩ := la_go h
  refine ALC6 C _ rfl hi12 dX7_hangOnBar_12 ?_
  obtain ⟨r13, hr13, h⟩ := la_bd h
  refine KLCRX7_106 C [.int (μ 6 (Int32.toNatClampNeg x1))] [] (mX0_fallOf (μ 6 (Int32.toNatClampNeg x1)) μ r13 hr13) ⟨by decide, by decide⟩ rfl rfl (Nat.le_of_ble_eq_true rfl) dX7_hangOnBar_13 ?_
  refine la_istore_n C dX7_hangOnBar_16 (by decide) rfl ?_
  refine la_aload_n C dX7_hangOnBar_17 1 rfl ?_
  refine GLCRX7_19 C dX7_hangOnBar_18 ?_
  refine GLCRX7_131 C dX7_hangOnBar_21 ?_
  refine la_iload_n C dX7_hangOnBar_24 2 rfl ?_
  refine la_bipush C (v := 14) dX7_hangOnBar_25 (by decide) ?_
  obtain ⟨hi27, h⟩ := la_go h
  obtain ⟨μ27, eμ27, h⟩ := la_so h
  refine BLC7 C _ rfl hi27 eμ27 dX7_hangOnBar_27 ?_
  refine la_aload_n C dX7_hangOnBar_28 1 rfl ?_
  refine GLCRX7_33 C dX7_hangOnBar_29 ?_
  refine la_iload_n C dX7_hangOnBar_32 2 rfl ?_
  refine la_iload_n C dX7_hangOnBar_33 0 rfl ?_
  refine la_aload_n C dX7_hangOnBar_34 1 rfl ?_
  refine GLCRX7_70 C dX7_hangOnBar_35 ?_
  refine la_aload_n C dX7_hangOnBar_38 1 rfl ?_
  refine GLCRX7_64 C dX7_hangOnBar_39 ?_
  refine la_iconst C (v := 3) dX7_hangOnBar_42 (by decide) ?_
  refine ALC26 C 3 (by decide) (by decide) dX7_hangOnBar_43 ?_
  refine la_iadd C dX7_hangOnBar_44 ?_
  refine la_iload_n C dX7_hangOnBar_45 3 rfl ?_
  refine la_iadd C dX7_hangOnBar_46 ?_
  refine la_iload_n C dX7_hangOnBar_47 0 rfl ?_
  refine la_iadd C dX7_hangOnBar_48 ?_
  obtain ⟨μ49, hr49, h⟩ := la_bd h
  refine KLCRX7_290 C [.int x1, .int r13, .int ((((μ27 0 11) + (μ27 26 3)) + x2) + r13)] [] (mX1_hang x1 r13 ((((μ27 0 11) + (μ27 26 3)) + x2) + r13) μ27 μ49 hr49) ⟨by decide, by decide⟩ rfl rfl (Nat.le_of_ble_eq_true rfl) dX7_hangOnBar_49 ?_
  exact la_vret C (la_rV (P := (fun _ μ' => μ' = μ0)) h hret) dX7_hangOnBar_52

def fX7_castSlug_J78 (rec : Int32 → Int32 → la_Mem → Option (la_Mem)) (x1 : Int32) (x2 : Int32) (μ : la_Mem) : Option (la_Mem) :=
  rec x1 (x2 + 1) μ
set_option maxRecDepth 10000 in
theorem wX7_castSlug_J78 {z : LCz} {l : Launch} {Post : Int32 → la_Mem → Prop} {Φ : Nat → List (Nat × Value) → List Value → la_Mem → Prop} (C : la_C (LC z) l rmX7_castSlug RX7 cX7_castSlug 4 none Post Φ) (rec : Int32 → Int32 → la_Mem → Option (la_Mem)) (x1 : Int32) (x2 : Int32) (μ : la_Mem)  (ex : (la_Mem)) (hrec : ∀ (y1 : Int32) (y2 : Int32) (ν : la_Mem), rec y1 y2 ν = some ex → Φ 11 [(0, .ref (z.2.1 0)), (1, .int y1), (2, .int y2)] [] ν) (kx : ∀  (ν : la_Mem), ex = ν → Φ 84 [] [] ν) (h : fX7_castSlug_J78 rec x1 x2 μ = some ex) : Φ 78 [(0, .ref (z.2.1 0)), (1, .int x1), (2, .int x2)] [] μ := by
  unfold fX7_castSlug_J78 at h
  refine la_iinc C (v := (x2 + 1)) dX7_castSlug_78 2 rfl rfl (by decide) rfl ?_
  refine la_goto C (tgt := 11) dX7_castSlug_81 (by decide) ?_
  refine la_sub C [1, 2, 0] rfl ?_
  exact hrec _ _ _ h
def fX7_castSlug_L11  : Nat → Int32 → Int32 → la_Mem → Option (la_Mem)
  | 0, _, _, _ => none
  | n + 1, x1, x2, μ => if (μ 10 3) ≤ x2 then (some μ) else (la_if (la_ix x2 24) (la_st ((μ 11 (Int32.toNatClampNeg x2))) (fun v31 => if v31 = 100 then ((fX4_append 32 μ).bind (fun μ44 => fX7_castSlug_J78 (fX7_castSlug_L11  n) x1 x2 μ44)) else (la_if (la_ix v31 60) ((fX4_append (97 + (μ 5 (Int32.toNatClampNeg v31))) μ).bind (fun μ66 => (fX7_hangOnBar v31 x1 μ66).bind (fun μ72 => fX7_castSlug_J78 (fX7_castSlug_L11  n) (x1 + 1) x2 μ72)))))))
set_option maxRecDepth 10000 in
theorem wX7_castSlug_L11 {z : LCz} {l : Launch} {Post : Int32 → la_Mem → Prop} {Φ : Nat → List (Nat × Value) → List Value → la_Mem → Prop} (C : la_C (LC z) l rmX7_castSlug RX7 cX7_castSlug 4 none Post Φ)   (ex : (la_Mem)) (kx : ∀  (ν : la_Mem), ex = ν → Φ 84 [] [] ν) : ∀ (n : Nat) (x1 : Int32) (x2 : Int32) (μ : la_Mem), fX7_castSlug_L11  n x1 x2 μ = some ex → Φ 11 [(0, .ref (z.2.1 0)), (1, .int x1), (2, .int x2)] [] μ := by
  intro n
  induction n with
  | zero =>
    intro _ _ _ h
    cases h
  | succ n hrec =>
    intro x1 x2 μ h
    rw [fX7_castSlug_L11] at h
    refine la_iload_n C dX7_castSlug_11 2 rfl ?_
    refine la_aload_n C dX7_castSlug_12 0 rfl ?_
    refine GLCRX7_26 C dX7_castSlug_13 ?_
    refine GLCRX7_163 C dX7_castSlug_16 ?_
    refine la_icmp_ge C (tgt := 84) dX7_castSlug_19 (by decide) (fun hc => ?_) (fun hc => ?_)
    · replace h := la_t hc h
      refine la_sub C [] rfl ?_
      exact kx _ (Option.some.inj h).symm
    · replace h := la_f hc h
      refine la_aload_n C dX7_castSlug_22 0 rfl ?_
      refine GLCRX7_26 C dX7_castSlug_23 ?_
      refine GLCRX7_166 C dX7_castSlug_26 ?_
      refine la_iload_n C dX7_castSlug_29 2 rfl ?_
      obtain ⟨hi30, h⟩ := la_go h
      refine ALC11 C _ rfl hi30 dX7_castSlug_30 ?_
      obtain ⟨v31, ev31, h⟩ := la_so h
      refine la_nm C ev31 ?_
      refine la_istore_n C dX7_castSlug_31 (by decide) rfl ?_
      refine la_iload_n C dX7_castSlug_32 0 rfl ?_
      refine la_bipush C (v := 100) dX7_castSlug_33 (by decide) ?_
      refine la_icmp_ne C (tgt := 50) dX7_castSlug_35 (by decide) (fun hc => ?_) (fun hc => ?_)
      · replace h := la_f hc h
        refine la_aload_n C dX7_castSlug_50 1 rfl ?_
        refine GLCRX7_40 C dX7_castSlug_51 ?_
        refine la_bipush C (v := 97) dX7_castSlug_54 (by decide) ?_
        refine la_aload_n C dX7_castSlug_56 1 rfl ?_
        refine GLCRX7_19 C dX7_castSlug_57 ?_
        refine GLCRX7_127 C dX7_castSlug_60 ?_
        refine la_iload_n C dX7_castSlug_63 0 rfl ?_
        obtain ⟨hi64, h⟩ := la_go h
        refine ALC5 C _ rfl hi64 dX7_castSlug_64 ?_
        refine la_iadd C dX7_castSlug_65 ?_
        obtain ⟨μ66, hr66, h⟩ := la_bd h
        refine KLCRX7_286 C [.int (97 + (μ 5 (Int32.toNatClampNeg v31)))] [] (mX4_append (97 + (μ 5 (Int32.toNatClampNeg v31))) μ μ66 hr66) ⟨by decide, by decide⟩ rfl rfl (Nat.le_of_ble_eq_true rfl) dX7_castSlug_66 ?_
        refine la_aload_n C dX7_castSlug_69 1 rfl ?_
        refine la_iload_n C dX7_castSlug_70 0 rfl ?_
        refine la_iload_n C dX7_castSlug_71 2 rfl ?_
        obtain ⟨μ72, hr72, h⟩ := la_bd h
        refine KLCRX7_287 C [.int v31, .int x1] [] (mX7_hangOnBar v31 x1 μ66 μ72 hr72) ⟨by decide, by decide⟩ rfl rfl (Nat.le_of_ble_eq_true rfl) dX7_castSlug_72 ?_
        refine la_iinc C (v := (x1 + 1)) dX7_castSlug_75 2 rfl rfl (by decide) rfl ?_
        refine la_sub C [2, 0, 3] rfl ?_
        exact wX7_castSlug_J78 C (fX7_castSlug_L11  n) _ _ _  _ hrec kx h
      · replace h := la_t hc h
        refine la_aload_n C dX7_castSlug_38 1 rfl ?_
        refine GLCRX7_40 C dX7_castSlug_39 ?_
        refine la_bipush C (v := 32) dX7_castSlug_42 (by decide) ?_
        obtain ⟨μ44, hr44, h⟩ := la_bd h
        refine KLCRX7_286 C [.int 32] [] (mX4_append 32 μ μ44 hr44) ⟨by decide, by decide⟩ rfl rfl (Nat.le_of_ble_eq_true rfl) dX7_castSlug_44 ?_
        refine la_goto C (tgt := 78) dX7_castSlug_47 (by decide) ?_
        refine la_sub C [1, 2, 3] rfl ?_
        exact wX7_castSlug_J78 C (fX7_castSlug_L11  n) _ _ _  _ hrec kx h
def fX7_castSlug  (μ : la_Mem) : Option la_Mem :=
  (fX4_begin  μ).bind (fun μ4 => Option.bind (fX7_castSlug_L11  400 0 0 μ4) (fun ν11 => some ν11))
set_option maxRecDepth 10000 in
theorem mX7_castSlug {z : LCz} {l : Launch}  (μ : la_Mem) (μ0 : la_Mem)  (h : fX7_castSlug  μ = some μ0) : la_M (LC z) l yX7_castSlug cX7_castSlug 4 none rmX7_castSlug [.ref (z.2.1 0)] μ (fun _ μ' => μ' = μ0) := by
  refine la_of (own := RX7) (lv := [(0, .ref (z.2.1 0))]) (by decide) rfl (Nat.le_of_ble_eq_true rfl) rfl (fun Φ C => ?_)
  unfold fX7_castSlug at h
  have hret : μ0 = μ0 := rfl
  refine la_aload_n C dX7_castSlug_0 0 rfl ?_
  refine GLCRX7_40 C dX7_castSlug_1 ?_
  obtain ⟨μ4, hr4, h⟩ := la_bd h
  refine KLCRX7_283 C [] [] (mX4_begin  μ μ4 hr4) ⟨by decide, by decide⟩ rfl rfl (Nat.le_of_ble_eq_true rfl) dX7_castSlug_4 ?_
  refine la_iconst C (v := 0) dX7_castSlug_7 (by decide) ?_
  refine la_istore_n C dX7_castSlug_8 (by decide) rfl ?_
  refine la_iconst C (v := 0) dX7_castSlug_9 (by decide) ?_
  refine la_istore_n C dX7_castSlug_10 (by decide) rfl ?_
  obtain ⟨ν11, hL11, h⟩ := la_bd h
  refine la_sub C [2, 1, 0] rfl ?_
  refine wX7_castSlug_L11 C   _ (fun _ e => ?_) _ _ _ _ hL11
  cases e
  exact la_vret C (la_rV (P := (fun _ μ' => μ' = μ0)) h hret) dX7_castSlug_84

def fX7_cast  (μ : la_Mem) : Option (Int32 × la_Mem) :=
  (fX7_tightness  μ).bind (fun r1 => if 0 ≤ r1 then (if r1 = 0 then ((fX4_isFull  μ).bind (fun r22 => if r22 = 0 then ((fX7_castSlug  μ).bind (fun μ32 => (fX2_empty  μ32).bind (fun μ39 => some (((μ39 18 2) - 1), μ39)))) else (some ((-3), μ)))) else (some ((-2), μ))) else (some (r1, μ)))
set_option maxRecDepth 10000 in
theorem mX7_cast {z : LCz} {l : Launch}  (μ : la_Mem) (r0 : Int32) (μ0 : la_Mem)  (h : fX7_cast  μ = some (r0, μ0)) : la_M (LC z) l yX7_cast cX7_cast 2 (some .int) rmX7_cast [.ref (z.2.1 0)] μ (fun r' μ' => r' = r0 ∧ μ' = μ0) := by
  refine la_of (own := RX7) (lv := [(0, .ref (z.2.1 0))]) (by decide) rfl (Nat.le_of_ble_eq_true rfl) rfl (fun Φ C => ?_)
  unfold fX7_cast at h
  have hret : r0 = r0 ∧ μ0 = μ0 := ⟨rfl, rfl⟩
  refine la_aload_n C dX7_cast_0 0 rfl ?_
  obtain ⟨r1, hr1, h⟩ := la_bd h
  refine KLCRX7_169 C [] [] (mX7_tightness  μ r1 hr1) ⟨by decide, by decide⟩ rfl rfl (Nat.le_of_ble_eq_true rfl) dX7_cast_1 ?_
  refine la_istore_n C dX7_cast_4 (by decide) rfl ?_
  refine la_iload_n C dX7_cast_5 0 rfl ?_
  refine la_if_ge C (tgt := 11) dX7_cast_6 (by decide) (fun hc => ?_) (fun hc => ?_)
  · replace h := la_t hc h
    refine la_iload_n C dX7_cast_11 0 rfl ?_
    refine la_if_eq C (tgt := 18) dX7_cast_12 (by decide) (fun hc => ?_) (fun hc => ?_)
    · replace h := la_t hc h
      refine la_aload_n C dX7_cast_18 1 rfl ?_
      refine GLCRX7_40 C dX7_cast_19 ?_
      obtain ⟨r22, hr22, h⟩ := la_bd h
      refine KLCRX7_178 C [] [] (mX4_isFull  μ r22 hr22) ⟨by decide, by decide⟩ rfl rfl (Nat.le_of_ble_eq_true rfl) dX7_cast_22 ?_
      refine la_if_eq C (tgt := 31) dX7_cast_25 (by decide) (fun hc => ?_) (fun hc => ?_)
      · replace h := la_t hc h
        refine la_aload_n C dX7_cast_31 1 rfl ?_
        obtain ⟨μ32, hr32, h⟩ := la_bd h
        refine KLCRX7_179 C [] [] (mX7_castSlug  μ μ32 hr32) ⟨by decide, by decide⟩ rfl rfl (Nat.le_of_ble_eq_true rfl) dX7_cast_32 ?_
        refine la_aload_n C dX7_cast_35 1 rfl ?_
        refine GLCRX7_26 C dX7_cast_36 ?_
        obtain ⟨μ39, hr39, h⟩ := la_bd h
        refine KLCRX7_182 C [] [] (mX2_empty  μ32 μ39 hr39) ⟨by decide, by decide⟩ rfl rfl (Nat.le_of_ble_eq_true rfl) dX7_cast_39 ?_
        refine la_aload_n C dX7_cast_42 1 rfl ?_
        refine GLCRX7_40 C dX7_cast_43 ?_
        refine GLCRX7_185 C dX7_cast_46 ?_
        refine la_iconst C (v := 1) dX7_cast_49 (by decide) ?_
        refine la_isub C dX7_cast_50 ?_
        exact la_iret C rfl (la_rW (P := (fun r' μ' => r' = r0 ∧ μ' = μ0)) h hret) dX7_cast_51
      · replace h := la_f hc h
        refine la_bipush C (v := (-3)) dX7_cast_28 (by decide) ?_
        exact la_iret C rfl (la_rW (P := (fun r' μ' => r' = r0 ∧ μ' = μ0)) h hret) dX7_cast_30
    · replace h := la_f hc h
      refine la_bipush C (v := (-2)) dX7_cast_15 (by decide) ?_
      exact la_iret C rfl (la_rW (P := (fun r' μ' => r' = r0 ∧ μ' = μ0)) h hret) dX7_cast_17
  · replace h := la_f hc h
    refine la_iload_n C dX7_cast_9 0 rfl ?_
    exact la_iret C rfl (la_rW (P := (fun r' μ' => r' = r0 ∧ μ' = μ0)) h hret) dX7_cast_10

def fX7_clear_J64 (rec : Int32 → Int32 → la_Mem → Option (Int32 × la_Mem)) (x1 : Int32) (x2 : Int32) (μ : la_Mem) : Option (Int32 × la_Mem) :=
  rec x1 (x2 + 1) μ
set_option maxRecDepth 10000 in
theorem wX7_clear_J64 {z : LCz} {l : Launch} {Post : Int32 → la_Mem → Prop} {Φ : Nat → List (Nat × Value) → List Value → la_Mem → Prop} (C : la_C (LC z) l rmX7_clear RX7 cX7_clear 3 (some .int) Post Φ) (rec : Int32 → Int32 → la_Mem → Option (Int32 × la_Mem)) (x1 : Int32) (x2 : Int32) (μ : la_Mem)  (ex : (Int32 × la_Mem)) (hrec : ∀ (y1 : Int32) (y2 : Int32) (ν : la_Mem), rec y1 y2 ν = some ex → Φ 17 [(0, .ref (z.2.1 0)), (1, .int y1), (2, .int y2)] [] ν) (kx : ∀ (y1 : Int32) (ν : la_Mem), ex = (y1, ν) → Φ 70 [(0, .ref (z.2.1 0)), (1, .int y1)] [] ν) (h : fX7_clear_J64 rec x1 x2 μ = some ex) : Φ 64 [(0, .ref (z.2.1 0)), (1, .int x1), (2, .int x2)] [] μ := by
  unfold fX7_clear_J64 at h
  refine la_iinc C (v := (x2 + 1)) dX7_clear_64 2 rfl rfl (by decide) rfl ?_
  refine la_goto C (tgt := 17) dX7_clear_67 (by decide) ?_
  refine la_sub C [1, 2, 0] rfl ?_
  exact hrec _ _ _ h
def fX7_clear_L17  : Nat → Int32 → Int32 → la_Mem → Option (Int32 × la_Mem)
  | 0, _, _, _ => none
  | n + 1, x1, x2, μ => if (μ 10 3) ≤ x2 then (some (x1, μ)) else (la_if (la_ix x2 24) (if (μ 11 (Int32.toNatClampNeg x2)) = 100 then (fX7_clear_J64 (fX7_clear_L17  n) x1 x2 μ) else (la_if (la_ix x2 24) (la_if (la_ix (μ 11 (Int32.toNatClampNeg x2)) 60) (la_st (la_ms μ 7 (Int32.toNatClampNeg (μ 11 (Int32.toNatClampNeg x2))) 12) (fun μ60 => fX7_clear_J64 (fX7_clear_L17  n) (x1 + 1) x2 μ60))))))
set_option maxRecDepth 10000 in
theorem wX7_clear_L17 {z : LCz} {l : Launch} {Post : Int32 → la_Mem → Prop} {Φ : Nat → List (Nat × Value) → List Value → la_Mem → Prop} (C : la_C (LC z) l rmX7_clear RX7 cX7_clear 3 (some .int) Post Φ)   (ex : (Int32 × la_Mem)) (kx : ∀ (y1 : Int32) (ν : la_Mem), ex = (y1, ν) → Φ 70 [(0, .ref (z.2.1 0)), (1, .int y1)] [] ν) : ∀ (n : Nat) (x1 : Int32) (x2 : Int32) (μ : la_Mem), fX7_clear_L17  n x1 x2 μ = some ex → Φ 17 [(0, .ref (z.2.1 0)), (1, .int x1), (2, .int x2)] [] μ := by
  intro n
  induction n with
  | zero =>
    intro _ _ _ h
    cases h
  | succ n hrec =>
    intro x1 x2 μ h
    rw [fX7_clear_L17] at h
    refine la_iload_n C dX7_clear_17 2 rfl ?_
    refine la_aload_n C dX7_clear_18 0 rfl ?_
    refine GLCRX7_26 C dX7_clear_19 ?_
    refine GLCRX7_163 C dX7_clear_22 ?_
    refine la_icmp_ge C (tgt := 70) dX7_clear_25 (by decide) (fun hc => ?_) (fun hc => ?_)
    · replace h := la_t hc h
      refine la_sub C [0, 1] rfl ?_
      exact kx _ _ (Option.some.inj h).symm
    · replace h := la_f hc h
      refine la_aload_n C dX7_clear_28 0 rfl ?_
      refine GLCRX7_26 C dX7_clear_29 ?_
      refine GLCRX7_166 C dX7_clear_32 ?_
      refine la_iload_n C dX7_clear_35 2 rfl ?_
      obtain ⟨hi36, h⟩ := la_go h
      refine ALC11 C _ rfl hi36 dX7_clear_36 ?_
      refine la_bipush C (v := 100) dX7_clear_37 (by decide) ?_
      refine la_icmp_eq C (tgt := 64) dX7_clear_39 (by decide) (fun hc => ?_) (fun hc => ?_)
      · replace h := la_t hc h
        refine la_sub C [0, 1, 2] rfl ?_
        exact wX7_clear_J64 C (fX7_clear_L17  n) _ _ _  _ hrec kx h
      · replace h := la_f hc h
        refine la_aload_n C dX7_clear_42 0 rfl ?_
        refine GLCRX7_19 C dX7_clear_43 ?_
        refine GLCRX7_131 C dX7_clear_46 ?_
        refine la_aload_n C dX7_clear_49 0 rfl ?_
        refine GLCRX7_26 C dX7_clear_50 ?_
        refine GLCRX7_166 C dX7_clear_53 ?_
        refine la_iload_n C dX7_clear_56 2 rfl ?_
        obtain ⟨hi57, h⟩ := la_go h
        refine ALC11 C _ rfl hi57 dX7_clear_57 ?_
        refine la_bipush C (v := 12) dX7_clear_58 (by decide) ?_
        obtain ⟨hi60, h⟩ := la_go h
        obtain ⟨μ60, eμ60, h⟩ := la_so h
        refine BLC7 C _ rfl hi60 eμ60 dX7_clear_60 ?_
        refine la_iinc C (v := (x1 + 1)) dX7_clear_61 1 rfl rfl (by decide) rfl ?_
        refine la_sub C [1, 0, 2] rfl ?_
        exact wX7_clear_J64 C (fX7_clear_L17  n) _ _ _  _ hrec kx h
def fX7_clear  (μ : la_Mem) : Option (Int32 × la_Mem) :=
  if (μ 10 4) ≤ 0 then (la_b2 (fX7_clear_L17  400 0 0 μ) (fun q17_1 ν17 => (fX2_empty  ν17).bind (fun μ74 => some (q17_1, μ74)))) else (some ((-2), μ))
set_option maxRecDepth 10000 in
theorem mX7_clear {z : LCz} {l : Launch}  (μ : la_Mem) (r0 : Int32) (μ0 : la_Mem)  (h : fX7_clear  μ = some (r0, μ0)) : la_M (LC z) l yX7_clear cX7_clear 3 (some .int) rmX7_clear [.ref (z.2.1 0)] μ (fun r' μ' => r' = r0 ∧ μ' = μ0) := by
  refine la_of (own := RX7) (lv := [(0, .ref (z.2.1 0))]) (by decide) rfl (Nat.le_of_ble_eq_true rfl) rfl (fun Φ C => ?_)
  unfold fX7_clear at h
  have hret : r0 = r0 ∧ μ0 = μ0 := ⟨rfl, rfl⟩
  refine la_aload_n C dX7_clear_0 0 rfl ?_
  refine GLCRX7_26 C dX7_clear_1 ?_
  refine GLCRX7_188 C dX7_clear_4 ?_
  refine la_if_le C (tgt := 13) dX7_clear_7 (by decide) (fun hc => ?_) (fun hc => ?_)
  · replace h := la_t hc h
    refine la_iconst C (v := 0) dX7_clear_13 (by decide) ?_
    refine la_istore_n C dX7_clear_14 (by decide) rfl ?_
    refine la_iconst C (v := 0) dX7_clear_15 (by decide) ?_
    refine la_istore_n C dX7_clear_16 (by decide) rfl ?_
    obtain ⟨q17_1, ν17, hL17, h⟩ := la_b2o h
    refine la_sub C [2, 1, 0] rfl ?_
    refine wX7_clear_L17 C   _ (fun _ _ e => ?_) _ _ _ _ hL17
    cases e
    refine la_aload_n C dX7_clear_70 0 rfl ?_
    refine GLCRX7_26 C dX7_clear_71 ?_
    obtain ⟨μ74, hr74, h⟩ := la_bd h
    refine KLCRX7_182 C [] [] (mX2_empty  ν17 μ74 hr74) ⟨by decide, by decide⟩ rfl rfl (Nat.le_of_ble_eq_true rfl) dX7_clear_74 ?_
    refine la_iload_n C dX7_clear_77 1 rfl ?_
    exact la_iret C rfl (la_rW (P := (fun r' μ' => r' = r0 ∧ μ' = μ0)) h hret) dX7_clear_78
  · replace h := la_f hc h
    refine la_bipush C (v := (-2)) dX7_clear_10 (by decide) ?_
    exact la_iret C rfl (la_rW (P := (fun r' μ' => r' = r0 ∧ μ' = μ0)) h hret) dX7_clear_12

def fX7_slug (x1 : Int32) (x2 : Int32) (μ : la_Mem) : Option Int32 :=
  if x1 < 0 then (some (-1)) else (if (μ 18 2) ≤ x1 then (some (-1)) else (if x2 < (-1) then (some (-1)) else (la_if (la_ix x1 40) (if x2 < (μ 20 (Int32.toNatClampNeg x1)) then (if x2 = (-1) then (la_if (la_ix x1 40) (some (μ 20 (Int32.toNatClampNeg x1)))) else (la_if (la_ix x1 40) (la_if (la_ix x2 24) (some (μ (48 + (Int32.toNatClampNeg x1)) (Int32.toNatClampNeg x2)))))) else (some (-1))))))
set_option maxRecDepth 10000 in
theorem mX7_slug {z : LCz} {l : Launch} (x1 : Int32) (x2 : Int32) (μ : la_Mem) (r0 : Int32)  (h : fX7_slug x1 x2 μ = some r0) : la_M (LC z) l yX7_slug cX7_slug 3 (some .int) rmX7_slug [.ref (z.2.1 0), .int x1, .int x2] μ (fun r' μ' => r' = r0 ∧ μ' = μ) := by
  refine la_of (own := RX7) (lv := [(0, .ref (z.2.1 0)), (1, .int x1), (2, .int x2)]) (by decide) rfl (Nat.le_of_ble_eq_true rfl) rfl (fun Φ C => ?_)
  unfold fX7_slug at h
  have hret : r0 = r0 ∧ μ = μ := ⟨rfl, rfl⟩
  refine la_iload_n C dX7_slug_0 1 rfl ?_
  refine la_if_lt C (tgt := 33) dX7_slug_1 (by decide) (fun hc => ?_) (fun hc => ?_)
  · replace h := la_t hc h
    refine la_iconst C (v := (-1)) dX7_slug_33 (by decide) ?_
    exact la_iret C rfl (la_rR (P := (fun r' μ' => r' = r0 ∧ μ' = μ)) h hret) dX7_slug_34
  · replace h := la_f hc h
    refine la_iload_n C dX7_slug_4 1 rfl ?_
    refine la_aload_n C dX7_slug_5 0 rfl ?_
    refine GLCRX7_40 C dX7_slug_6 ?_
    refine GLCRX7_185 C dX7_slug_9 ?_
    refine la_icmp_ge C (tgt := 33) dX7_slug_12 (by decide) (fun hc => ?_) (fun hc => ?_)
    · replace h := la_t hc h
      refine la_iconst C (v := (-1)) dX7_slug_33 (by decide) ?_
      exact la_iret C rfl (la_rR (P := (fun r' μ' => r' = r0 ∧ μ' = μ)) h hret) dX7_slug_34
    · replace h := la_f hc h
      refine la_iload_n C dX7_slug_15 2 rfl ?_
      refine la_iconst C (v := (-1)) dX7_slug_16 (by decide) ?_
      refine la_icmp_lt C (tgt := 33) dX7_slug_17 (by decide) (fun hc => ?_) (fun hc => ?_)
      · replace h := la_t hc h
        refine la_iconst C (v := (-1)) dX7_slug_33 (by decide) ?_
        exact la_iret C rfl (la_rR (P := (fun r' μ' => r' = r0 ∧ μ' = μ)) h hret) dX7_slug_34
      · replace h := la_f hc h
        refine la_iload_n C dX7_slug_20 2 rfl ?_
        refine la_aload_n C dX7_slug_21 0 rfl ?_
        refine GLCRX7_40 C dX7_slug_22 ?_
        refine GLCRX7_191 C dX7_slug_25 ?_
        refine la_iload_n C dX7_slug_28 1 rfl ?_
        obtain ⟨hi29, h⟩ := la_go h
        refine ALC20 C _ rfl hi29 dX7_slug_29 ?_
        refine la_icmp_lt C (tgt := 35) dX7_slug_30 (by decide) (fun hc => ?_) (fun hc => ?_)
        · replace h := la_t hc h
          refine la_iload_n C dX7_slug_35 2 rfl ?_
          refine la_iconst C (v := (-1)) dX7_slug_36 (by decide) ?_
          refine la_icmp_ne C (tgt := 52) dX7_slug_37 (by decide) (fun hc => ?_) (fun hc => ?_)
          · replace h := la_f hc h
            refine la_aload_n C dX7_slug_52 0 rfl ?_
            refine GLCRX7_40 C dX7_slug_53 ?_
            refine GLCRX7_194 C dX7_slug_56 ?_
            refine la_iload_n C dX7_slug_59 1 rfl ?_
            obtain ⟨hi60, h⟩ := la_go h
            refine RLC19 C hi60 dX7_slug_60 ?_
            refine la_iload_n C dX7_slug_61 2 rfl ?_
            obtain ⟨hi62, h⟩ := la_go h
            refine ALCd48 C (la_ix_lt hi60) _ rfl hi62 dX7_slug_62 ?_
            exact la_iret C rfl (la_rR (P := (fun r' μ' => r' = r0 ∧ μ' = μ)) h hret) dX7_slug_63
          · replace h := la_t hc h
            refine la_aload_n C dX7_slug_40 0 rfl ?_
            refine GLCRX7_40 C dX7_slug_41 ?_
            refine GLCRX7_191 C dX7_slug_44 ?_
            refine la_iload_n C dX7_slug_47 1 rfl ?_
            obtain ⟨hi48, h⟩ := la_go h
            refine ALC20 C _ rfl hi48 dX7_slug_48 ?_
            refine la_goto C (tgt := 63) dX7_slug_49 (by decide) ?_
            exact la_iret C rfl (la_rR (P := (fun r' μ' => r' = r0 ∧ μ' = μ)) h hret) dX7_slug_63
        · replace h := la_f hc h
          refine la_iconst C (v := (-1)) dX7_slug_33 (by decide) ?_
          exact la_iret C rfl (la_rR (P := (fun r' μ' => r' = r0 ∧ μ' = μ)) h hret) dX7_slug_34

def fX7_count (x1 : Int32) (μ : la_Mem) : Option Int32 :=
  if x1 = 0 then (some (μ 4 5)) else if x1 = 1 then ((fX5_countBetween 0 11 μ).bind (fun r67 => some r67)) else if x1 = 2 then ((fX5_countBetween 12 12 μ).bind (fun r79 => some r79)) else if x1 = 3 then ((fX5_countBetween 13 13 μ).bind (fun r91 => some r91)) else if x1 = 4 then ((fX5_countBetween 14 14 μ).bind (fun r103 => some r103)) else if x1 = 5 then (some (μ 18 2)) else if x1 = 6 then (some (12 - (μ 10 5))) else if x1 = 7 then (some (μ 14 4)) else if x1 = 8 then (some (μ 0 11)) else (some (-1))
set_option maxRecDepth 10000 in
theorem mX7_count {z : LCz} {l : Launch} (x1 : Int32) (μ : la_Mem) (r0 : Int32)  (h : fX7_count x1 μ = some r0) : la_M (LC z) l yX7_count cX7_count 2 (some .int) rmX7_count [.ref (z.2.1 0), .int x1] μ (fun r' μ' => r' = r0 ∧ μ' = μ) := by
  refine la_of (own := RX7) (lv := [(0, .ref (z.2.1 0)), (1, .int x1)]) (by decide) rfl (Nat.le_of_ble_eq_true rfl) rfl (fun Φ C => ?_)
  unfold fX7_count at h
  have hret : r0 = r0 ∧ μ = μ := ⟨rfl, rfl⟩
  refine la_iload_n C dX7_count_0 1 rfl ?_
  by_cases hc0 : x1 = 0
  · replace h := la_t hc0 h
    refine la_nmE C hc0 ?_
    refine la_tabIn C (off := 51) (tgt := 52) dX7_count_1 (by decide) (by decide) rfl (by decide) ?_
    refine la_aload_n C dX7_count_52 0 rfl ?_
    refine GLCRX7_19 C dX7_count_53 ?_
    refine GLCRX7_198 C dX7_count_56 ?_
    exact la_iret C rfl (la_rR (P := (fun r' μ' => r' = r0 ∧ μ' = μ)) h hret) dX7_count_59
  replace h := la_f hc0 h
  by_cases hc1 : x1 = 1
  · replace h := la_t hc1 h
    refine la_nmE C hc1 ?_
    refine la_tabIn C (off := 59) (tgt := 60) dX7_count_1 (by decide) (by decide) rfl (by decide) ?_
    refine la_aload_n C dX7_count_60 0 rfl ?_
    refine GLCRX7_19 C dX7_count_61 ?_
    refine la_iconst C (v := 0) dX7_count_64 (by decide) ?_
    refine la_bipush C (v := 11) dX7_count_65 (by decide) ?_
    obtain ⟨r67, hr67, h⟩ := la_bd h
    refine KLCRX7_201 C [.int 0, .int 11] [] (mX5_countBetween 0 11 μ r67 hr67) ⟨by decide, by decide⟩ rfl rfl (Nat.le_of_ble_eq_true rfl) dX7_count_67 ?_
    exact la_iret C rfl (la_rR (P := (fun r' μ' => r' = r0 ∧ μ' = μ)) h hret) dX7_count_70
  replace h := la_f hc1 h
  by_cases hc2 : x1 = 2
  · replace h := la_t hc2 h
    refine la_nmE C hc2 ?_
    refine la_tabIn C (off := 70) (tgt := 71) dX7_count_1 (by decide) (by decide) rfl (by decide) ?_
    refine la_aload_n C dX7_count_71 0 rfl ?_
    refine GLCRX7_19 C dX7_count_72 ?_
    refine la_bipush C (v := 12) dX7_count_75 (by decide) ?_
    refine la_bipush C (v := 12) dX7_count_77 (by decide) ?_
    obtain ⟨r79, hr79, h⟩ := la_bd h
    refine KLCRX7_201 C [.int 12, .int 12] [] (mX5_countBetween 12 12 μ r79 hr79) ⟨by decide, by decide⟩ rfl rfl (Nat.le_of_ble_eq_true rfl) dX7_count_79 ?_
    exact la_iret C rfl (la_rR (P := (fun r' μ' => r' = r0 ∧ μ' = μ)) h hret) dX7_count_82
  replace h := la_f hc2 h
  by_cases hc3 : x1 = 3
  · replace h := la_t hc3 h
    refine la_nmE C hc3 ?_
    refine la_tabIn C (off := 82) (tgt := 83) dX7_count_1 (by decide) (by decide) rfl (by decide) ?_
    refine la_aload_n C dX7_count_83 0 rfl ?_
    refine GLCRX7_19 C dX7_count_84 ?_
    refine la_bipush C (v := 13) dX7_count_87 (by decide) ?_
    refine la_bipush C (v := 13) dX7_count_89 (by decide) ?_
    obtain ⟨r91, hr91, h⟩ := la_bd h
    refine KLCRX7_201 C [.int 13, .int 13] [] (mX5_countBetween 13 13 μ r91 hr91) ⟨by decide, by decide⟩ rfl rfl (Nat.le_of_ble_eq_true rfl) dX7_count_91 ?_
    exact la_iret C rfl (la_rR (P := (fun r' μ' => r' = r0 ∧ μ' = μ)) h hret) dX7_count_94
  replace h := la_f hc3 h
  by_cases hc4 : x1 = 4
  · replace h := la_t hc4 h
    refine la_nmE C hc4 ?_
    refine la_tabIn C (off := 94) (tgt := 95) dX7_count_1 (by decide) (by decide) rfl (by decide) ?_
    refine la_aload_n C dX7_count_95 0 rfl ?_
    refine GLCRX7_19 C dX7_count_96 ?_
    refine la_bipush C (v := 14) dX7_count_99 (by decide) ?_
    refine la_bipush C (v := 14) dX7_count_101 (by decide) ?_
    obtain ⟨r103, hr103, h⟩ := la_bd h
    refine KLCRX7_201 C [.int 14, .int 14] [] (mX5_countBetween 14 14 μ r103 hr103) ⟨by decide, by decide⟩ rfl rfl (Nat.le_of_ble_eq_true rfl) dX7_count_103 ?_
    exact la_iret C rfl (la_rR (P := (fun r' μ' => r' = r0 ∧ μ' = μ)) h hret) dX7_count_106
  replace h := la_f hc4 h
  by_cases hc5 : x1 = 5
  · replace h := la_t hc5 h
    refine la_nmE C hc5 ?_
    refine la_tabIn C (off := 106) (tgt := 107) dX7_count_1 (by decide) (by decide) rfl (by decide) ?_
    refine la_aload_n C dX7_count_107 0 rfl ?_
    refine GLCRX7_40 C dX7_count_108 ?_
    refine GLCRX7_185 C dX7_count_111 ?_
    exact la_iret C rfl (la_rR (P := (fun r' μ' => r' = r0 ∧ μ' = μ)) h hret) dX7_count_114
  replace h := la_f hc5 h
  by_cases hc6 : x1 = 6
  · replace h := la_t hc6 h
    refine la_nmE C hc6 ?_
    refine la_tabIn C (off := 114) (tgt := 115) dX7_count_1 (by decide) (by decide) rfl (by decide) ?_
    refine la_bipush C (v := 12) dX7_count_115 (by decide) ?_
    refine la_aload_n C dX7_count_117 0 rfl ?_
    refine GLCRX7_26 C dX7_count_118 ?_
    refine GLCRX7_155 C dX7_count_121 ?_
    refine la_isub C dX7_count_124 ?_
    exact la_iret C rfl (la_rR (P := (fun r' μ' => r' = r0 ∧ μ' = μ)) h hret) dX7_count_125
  replace h := la_f hc6 h
  by_cases hc7 : x1 = 7
  · replace h := la_t hc7 h
    refine la_nmE C hc7 ?_
    refine la_tabIn C (off := 125) (tgt := 126) dX7_count_1 (by decide) (by decide) rfl (by decide) ?_
    refine la_aload_n C dX7_count_126 0 rfl ?_
    refine GLCRX7_33 C dX7_count_127 ?_
    refine GLCRX7_204 C dX7_count_130 ?_
    exact la_iret C rfl (la_rR (P := (fun r' μ' => r' = r0 ∧ μ' = μ)) h hret) dX7_count_133
  replace h := la_f hc7 h
  by_cases hc8 : x1 = 8
  · replace h := la_t hc8 h
    refine la_nmE C hc8 ?_
    refine la_tabIn C (off := 133) (tgt := 134) dX7_count_1 (by decide) (by decide) rfl (by decide) ?_
    refine la_aload_n C dX7_count_134 0 rfl ?_
    refine GLCRX7_70 C dX7_count_135 ?_
    exact la_iret C rfl (la_rR (P := (fun r' μ' => r' = r0 ∧ μ' = μ)) h hret) dX7_count_138
  replace h := la_f hc8 h
  refine la_tabOut C (tgt := 139) dX7_count_1 (by have n0 := la_ne (z := 0) hc0 (by decide); have n1 := la_ne (z := 1) hc1 (by decide); have n2 := la_ne (z := 2) hc2 (by decide); have n3 := la_ne (z := 3) hc3 (by decide); have n4 := la_ne (z := 4) hc4 (by decide); have n5 := la_ne (z := 5) hc5 (by decide); have n6 := la_ne (z := 6) hc6 (by decide); have n7 := la_ne (z := 7) hc7 (by decide); have n8 := la_ne (z := 8) hc8 (by decide); omega) (by decide) ?_
  refine la_iconst C (v := (-1)) dX7_count_139 (by decide) ?_
  exact la_iret C rfl (la_rR (P := (fun r' μ' => r' = r0 ∧ μ' = μ)) h hret) dX7_count_140

def fX7_isGap (x0 : Int32) (μ : la_Mem) : Option Int32 :=
  if x0 < 1 then (some 0) else (if 30 < x0 then (some 0) else (some 1))
set_option maxRecDepth 10000 in
theorem mX7_isGap {z : LCz} {l : Launch} (x0 : Int32) (μ : la_Mem) (r0 : Int32)  (h : fX7_isGap x0 μ = some r0) : la_M (LC z) l yX7_isGap cX7_isGap 1 (some .boolean) rmX7_isGap [.int x0] μ (fun r' μ' => r' = r0 ∧ μ' = μ) := by
  refine la_of (own := RX7) (lv := [(0, .int x0)]) (by decide) rfl (Nat.le_of_ble_eq_true rfl) rfl (fun Φ C => ?_)
  unfold fX7_isGap at h
  have hret : r0 = r0 ∧ μ = μ := ⟨rfl, rfl⟩
  refine la_iload_n C dX7_isGap_0 0 rfl ?_
  refine la_iconst C (v := 1) dX7_isGap_1 (by decide) ?_
  refine la_icmp_lt C (tgt := 15) dX7_isGap_2 (by decide) (fun hc => ?_) (fun hc => ?_)
  · replace h := la_t hc h
    refine la_iconst C (v := 0) dX7_isGap_15 (by decide) ?_
    exact la_iret C rfl (la_rR (P := (fun r' μ' => r' = r0 ∧ μ' = μ)) h hret) dX7_isGap_16
  · replace h := la_f hc h
    refine la_iload_n C dX7_isGap_5 0 rfl ?_
    refine la_bipush C (v := 30) dX7_isGap_6 (by decide) ?_
    refine la_icmp_gt C (tgt := 15) dX7_isGap_8 (by decide) (fun hc => ?_) (fun hc => ?_)
    · replace h := la_t hc h
      refine la_iconst C (v := 0) dX7_isGap_15 (by decide) ?_
      exact la_iret C rfl (la_rR (P := (fun r' μ' => r' = r0 ∧ μ' = μ)) h hret) dX7_isGap_16
    · replace h := la_f hc h
      refine la_iconst C (v := 1) dX7_isGap_11 (by decide) ?_
      refine la_goto C (tgt := 16) dX7_isGap_12 (by decide) ?_
      exact la_iret C rfl (la_rR (P := (fun r' μ' => r' = r0 ∧ μ' = μ)) h hret) dX7_isGap_16

def fX7_comesAhead (x1 : Int32) (x2 : Int32) (x3 : Int32) (μ : la_Mem) : Option Int32 :=
  la_if (la_ix x1 24) (la_if (la_ix x2 24) (if ((x2 * x3) + (μ 27 (Int32.toNatClampNeg x2))) ≤ ((x1 * x3) + (μ 27 (Int32.toNatClampNeg x1))) then (some 0) else (some 1)))
set_option maxRecDepth 10000 in
theorem mX7_comesAhead {z : LCz} {l : Launch} (x1 : Int32) (x2 : Int32) (x3 : Int32) (μ : la_Mem) (r0 : Int32)  (h : fX7_comesAhead x1 x2 x3 μ = some r0) : la_M (LC z) l yX7_comesAhead cX7_comesAhead 4 (some .boolean) rmX7_comesAhead [.ref (z.2.1 0), .int x1, .int x2, .int x3] μ (fun r' μ' => r' = r0 ∧ μ' = μ) := by
  refine la_of (own := RX7) (lv := [(0, .ref (z.2.1 0)), (1, .int x1), (2, .int x2), (3, .int x3)]) (by decide) rfl (Nat.le_of_ble_eq_true rfl) rfl (fun Φ C => ?_)
  unfold fX7_comesAhead at h
  have hret : r0 = r0 ∧ μ = μ := ⟨rfl, rfl⟩
  refine la_iload_n C dX7_comesAhead_0 1 rfl ?_
  refine la_iload_n C dX7_comesAhead_1 3 rfl ?_
  refine la_imul C dX7_comesAhead_2 ?_
  refine la_aload_n C dX7_comesAhead_3 0 rfl ?_
  refine GLCRX7_67 C dX7_comesAhead_4 ?_
  refine la_iload_n C dX7_comesAhead_7 1 rfl ?_
  obtain ⟨hi8, h⟩ := la_go h
  refine ALC27 C _ rfl hi8 dX7_comesAhead_8 ?_
  refine la_iadd C dX7_comesAhead_9 ?_
  refine la_iload_n C dX7_comesAhead_10 2 rfl ?_
  refine la_iload_n C dX7_comesAhead_11 3 rfl ?_
  refine la_imul C dX7_comesAhead_12 ?_
  refine la_aload_n C dX7_comesAhead_13 0 rfl ?_
  refine GLCRX7_67 C dX7_comesAhead_14 ?_
  refine la_iload_n C dX7_comesAhead_17 2 rfl ?_
  obtain ⟨hi18, h⟩ := la_go h
  refine ALC27 C _ rfl hi18 dX7_comesAhead_18 ?_
  refine la_iadd C dX7_comesAhead_19 ?_
  refine la_icmp_ge C (tgt := 27) dX7_comesAhead_20 (by decide) (fun hc => ?_) (fun hc => ?_)
  · replace h := la_t hc h
    refine la_iconst C (v := 0) dX7_comesAhead_27 (by decide) ?_
    exact la_iret C rfl (la_rR (P := (fun r' μ' => r' = r0 ∧ μ' = μ)) h hret) dX7_comesAhead_28
  · replace h := la_f hc h
    refine la_iconst C (v := 1) dX7_comesAhead_23 (by decide) ?_
    refine la_goto C (tgt := 28) dX7_comesAhead_24 (by decide) ?_
    exact la_iret C rfl (la_rR (P := (fun r' μ' => r' = r0 ∧ μ' = μ)) h hret) dX7_comesAhead_28

def fX7_comersAheadOf_J69 (rec : Int32 → Int32 → Option (Int32)) (x1 : Int32) (x2 : Int32) (x3 : Int32) (x4 : Int32) (x5 : Int32) (μ : la_Mem) : Option (Int32) :=
  rec x4 (x5 + 1)
set_option maxRecDepth 10000 in
theorem wX7_comersAheadOf_J69 {z : LCz} {l : Launch} {Post : Int32 → la_Mem → Prop} {Φ : Nat → List (Nat × Value) → List Value → la_Mem → Prop} (C : la_C (LC z) l rmX7_comersAheadOf RX7 cX7_comersAheadOf 7 (some .int) Post Φ) (rec : Int32 → Int32 → Option (Int32)) (x1 : Int32) (x2 : Int32) (x3 : Int32) (x4 : Int32) (x5 : Int32) (μ : la_Mem)  (ex : (Int32)) (hrec : ∀ (y4 : Int32) (y5 : Int32), rec y4 y5 = some ex → Φ 6 [(0, .ref (z.2.1 0)), (1, .int x1), (2, .int x2), (3, .int x3), (4, .int y4), (5, .int y5)] [] μ) (kx : ∀ (y4 : Int32), ex = y4 → Φ 75 [(4, .int y4)] [] μ) (h : fX7_comersAheadOf_J69 rec x1 x2 x3 x4 x5 μ = some ex) : Φ 69 [(0, .ref (z.2.1 0)), (1, .int x1), (2, .int x2), (3, .int x3), (4, .int x4), (5, .int x5)] [] μ := by
  unfold fX7_comersAheadOf_J69 at h
  refine la_iinc C (v := (x5 + 1)) dX7_comersAheadOf_69 5 rfl rfl (by decide) rfl ?_
  refine la_goto C (tgt := 6) dX7_comersAheadOf_72 (by decide) ?_
  refine la_sub C [1, 2, 3, 4, 5, 0] rfl ?_
  exact hrec _ _ h
def fX7_comersAheadOf_J59 (rec : Int32 → Int32 → Option (Int32)) (x1 : Int32) (x2 : Int32) (x3 : Int32) (x4 : Int32) (x5 : Int32) (s0 : Int32) (μ : la_Mem) : Option (Int32) :=
  if s0 = 0 then (fX7_comersAheadOf_J69 rec x1 x2 x3 x4 x5 μ) else (fX7_comersAheadOf_J69 rec x1 x2 x3 (x4 + 1) x5 μ)
set_option maxRecDepth 10000 in
theorem wX7_comersAheadOf_J59 {z : LCz} {l : Launch} {Post : Int32 → la_Mem → Prop} {Φ : Nat → List (Nat × Value) → List Value → la_Mem → Prop} (C : la_C (LC z) l rmX7_comersAheadOf RX7 cX7_comersAheadOf 7 (some .int) Post Φ) (rec : Int32 → Int32 → Option (Int32)) (x1 : Int32) (x2 : Int32) (x3 : Int32) (x4 : Int32) (x5 : Int32) (s0 : Int32) (μ : la_Mem)  (ex : (Int32)) (hrec : ∀ (y4 : Int32) (y5 : Int32), rec y4 y5 = some ex → Φ 6 [(0, .ref (z.2.1 0)), (1, .int x1), (2, .int x2), (3, .int x3), (4, .int y4), (5, .int y5)] [] μ) (kx : ∀ (y4 : Int32), ex = y4 → Φ 75 [(4, .int y4)] [] μ) (h : fX7_comersAheadOf_J59 rec x1 x2 x3 x4 x5 s0 μ = some ex) : Φ 59 [(0, .ref (z.2.1 0)), (1, .int x1), (2, .int x2), (3, .int x3), (4, .int x4), (5, .int x5)] [.int s0] μ := by
  unfold fX7_comersAheadOf_J59 at h
  refine la_istore C dX7_comersAheadOf_59 (by decide) rfl ?_
  refine la_iload C dX7_comersAheadOf_61 0 rfl ?_
  refine la_if_eq C (tgt := 69) dX7_comersAheadOf_63 (by decide) (fun hc => ?_) (fun hc => ?_)
  · replace h := la_t hc h
    refine la_sub C [1, 2, 3, 4, 5, 6] rfl ?_
    exact wX7_comersAheadOf_J69 C rec _ _ _ _ _ _  _ hrec kx h
  · replace h := la_f hc h
    refine la_iinc C (v := (x4 + 1)) dX7_comersAheadOf_66 5 rfl rfl (by decide) rfl ?_
    refine la_sub C [2, 3, 4, 5, 0, 6] rfl ?_
    exact wX7_comersAheadOf_J69 C rec _ _ _ _ _ _  _ hrec kx h
def fX7_comersAheadOf_J58 (rec : Int32 → Int32 → Option (Int32)) (x1 : Int32) (x2 : Int32) (x3 : Int32) (x4 : Int32) (x5 : Int32) (μ : la_Mem) : Option (Int32) :=
  fX7_comersAheadOf_J59 rec x1 x2 x3 x4 x5 0 μ
set_option maxRecDepth 10000 in
theorem wX7_comersAheadOf_J58 {z : LCz} {l : Launch} {Post : Int32 → la_Mem → Prop} {Φ : Nat → List (Nat × Value) → List Value → la_Mem → Prop} (C : la_C (LC z) l rmX7_comersAheadOf RX7 cX7_comersAheadOf 7 (some .int) Post Φ) (rec : Int32 → Int32 → Option (Int32)) (x1 : Int32) (x2 : Int32) (x3 : Int32) (x4 : Int32) (x5 : Int32) (μ : la_Mem)  (ex : (Int32)) (hrec : ∀ (y4 : Int32) (y5 : Int32), rec y4 y5 = some ex → Φ 6 [(0, .ref (z.2.1 0)), (1, .int x1), (2, .int x2), (3, .int x3), (4, .int y4), (5, .int y5)] [] μ) (kx : ∀ (y4 : Int32), ex = y4 → Φ 75 [(4, .int y4)] [] μ) (h : fX7_comersAheadOf_J58 rec x1 x2 x3 x4 x5 μ = some ex) : Φ 58 [(0, .ref (z.2.1 0)), (1, .int x1), (2, .int x2), (3, .int x3), (4, .int x4), (5, .int x5)] [] μ := by
  unfold fX7_comersAheadOf_J58 at h
  refine la_iconst C (v := 0) dX7_comersAheadOf_58 (by decide) ?_
  refine la_sub C [0, 1, 2, 3, 4, 5] rfl ?_
  exact wX7_comersAheadOf_J59 C rec _ _ _ _ _ _ _  _ hrec kx h
def fX7_comersAheadOf_L6 (x1 : Int32) (x2 : Int32) (x3 : Int32) (μ : la_Mem) : Nat → Int32 → Int32 → Option (Int32)
  | 0, _, _ => none
  | n + 1, x4, x5 => if x2 ≤ x5 then (some x4) else (if x1 ≤ x5 then (if x5 ≤ x1 then (fX7_comersAheadOf_J58 (fX7_comersAheadOf_L6 x1 x2 x3 μ n) x1 x2 x3 x4 x5 μ) else ((fX7_comesAhead x5 x1 x3 μ).bind (fun r48 => if r48 = 0 then (fX7_comersAheadOf_J58 (fX7_comersAheadOf_L6 x1 x2 x3 μ n) x1 x2 x3 x4 x5 μ) else (fX7_comersAheadOf_J59 (fX7_comersAheadOf_L6 x1 x2 x3 μ n) x1 x2 x3 x4 x5 1 μ)))) else ((fX7_comesAhead x1 x5 x3 μ).bind (fun r23 => if r23 = 0 then (fX7_comersAheadOf_J59 (fX7_comersAheadOf_L6 x1 x2 x3 μ n) x1 x2 x3 x4 x5 1 μ) else (fX7_comersAheadOf_J59 (fX7_comersAheadOf_L6 x1 x2 x3 μ n) x1 x2 x3 x4 x5 0 μ))))
set_option maxRecDepth 10000 in
theorem wX7_comersAheadOf_L6 {z : LCz} {l : Launch} {Post : Int32 → la_Mem → Prop} {Φ : Nat → List (Nat × Value) → List Value → la_Mem → Prop} (C : la_C (LC z) l rmX7_comersAheadOf RX7 cX7_comersAheadOf 7 (some .int) Post Φ) (x1 : Int32) (x2 : Int32) (x3 : Int32) (μ : la_Mem)  (ex : (Int32)) (kx : ∀ (y4 : Int32), ex = y4 → Φ 75 [(4, .int y4)] [] μ) : ∀ (n : Nat) (x4 : Int32) (x5 : Int32), fX7_comersAheadOf_L6 x1 x2 x3 μ n x4 x5 = some ex → Φ 6 [(0, .ref (z.2.1 0)), (1, .int x1), (2, .int x2), (3, .int x3), (4, .int x4), (5, .int x5)] [] μ := by
  intro n
  induction n with
  | zero =>
    intro _ _ h
    cases h
  | succ n hrec =>
    intro x4 x5 h
    rw [fX7_comersAheadOf_L6] at h
    refine la_iload C dX7_comersAheadOf_6 5 rfl ?_
    refine la_iload_n C dX7_comersAheadOf_8 2 rfl ?_
    refine la_icmp_ge C (tgt := 75) dX7_comersAheadOf_9 (by decide) (fun hc => ?_) (fun hc => ?_)
    · replace h := la_t hc h
      refine la_sub C [4] rfl ?_
      exact kx _ (Option.some.inj h).symm
    · replace h := la_f hc h
      refine la_iload C dX7_comersAheadOf_12 5 rfl ?_
      refine la_iload_n C dX7_comersAheadOf_14 1 rfl ?_
      refine la_icmp_ge C (tgt := 37) dX7_comersAheadOf_15 (by decide) (fun hc => ?_) (fun hc => ?_)
      · replace h := la_t hc h
        refine la_iload C dX7_comersAheadOf_37 5 rfl ?_
        refine la_iload_n C dX7_comersAheadOf_39 1 rfl ?_
        refine la_icmp_le C (tgt := 58) dX7_comersAheadOf_40 (by decide) (fun hc => ?_) (fun hc => ?_)
        · replace h := la_t hc h
          refine la_sub C [0, 1, 2, 3, 4, 5] rfl ?_
          exact wX7_comersAheadOf_J58 C (fX7_comersAheadOf_L6 x1 x2 x3 μ n) _ _ _ _ _ _  _ hrec kx h
        · replace h := la_f hc h
          refine la_aload_n C dX7_comersAheadOf_43 0 rfl ?_
          refine la_iload C dX7_comersAheadOf_44 5 rfl ?_
          refine la_iload_n C dX7_comersAheadOf_46 1 rfl ?_
          refine la_iload_n C dX7_comersAheadOf_47 3 rfl ?_
          obtain ⟨r48, hr48, h⟩ := la_bd h
          refine KLCRX7_294 C [.int x5, .int x1, .int x3] [] (mX7_comesAhead x5 x1 x3 μ r48 hr48) ⟨by decide, by decide⟩ rfl rfl (Nat.le_of_ble_eq_true rfl) dX7_comersAheadOf_48 ?_
          refine la_if_eq C (tgt := 58) dX7_comersAheadOf_51 (by decide) (fun hc => ?_) (fun hc => ?_)
          · replace h := la_t hc h
            refine la_sub C [0, 1, 2, 3, 4, 5] rfl ?_
            exact wX7_comersAheadOf_J58 C (fX7_comersAheadOf_L6 x1 x2 x3 μ n) _ _ _ _ _ _  _ hrec kx h
          · replace h := la_f hc h
            refine la_iconst C (v := 1) dX7_comersAheadOf_54 (by decide) ?_
            refine la_goto C (tgt := 59) dX7_comersAheadOf_55 (by decide) ?_
            refine la_sub C [0, 1, 2, 3, 4, 5] rfl ?_
            exact wX7_comersAheadOf_J59 C (fX7_comersAheadOf_L6 x1 x2 x3 μ n) _ _ _ _ _ _ _  _ hrec kx h
      · replace h := la_f hc h
        refine la_aload_n C dX7_comersAheadOf_18 0 rfl ?_
        refine la_iload_n C dX7_comersAheadOf_19 1 rfl ?_
        refine la_iload C dX7_comersAheadOf_20 5 rfl ?_
        refine la_iload_n C dX7_comersAheadOf_22 3 rfl ?_
        obtain ⟨r23, hr23, h⟩ := la_bd h
        refine KLCRX7_294 C [.int x1, .int x5, .int x3] [] (mX7_comesAhead x1 x5 x3 μ r23 hr23) ⟨by decide, by decide⟩ rfl rfl (Nat.le_of_ble_eq_true rfl) dX7_comersAheadOf_23 ?_
        refine la_if_ne C (tgt := 33) dX7_comersAheadOf_26 (by decide) (fun hc => ?_) (fun hc => ?_)
        · replace h := la_f hc h
          refine la_iconst C (v := 0) dX7_comersAheadOf_33 (by decide) ?_
          refine la_goto C (tgt := 59) dX7_comersAheadOf_34 (by decide) ?_
          refine la_sub C [0, 1, 2, 3, 4, 5] rfl ?_
          exact wX7_comersAheadOf_J59 C (fX7_comersAheadOf_L6 x1 x2 x3 μ n) _ _ _ _ _ _ _  _ hrec kx h
        · replace h := la_t hc h
          refine la_iconst C (v := 1) dX7_comersAheadOf_29 (by decide) ?_
          refine la_goto C (tgt := 59) dX7_comersAheadOf_30 (by decide) ?_
          refine la_sub C [0, 1, 2, 3, 4, 5] rfl ?_
          exact wX7_comersAheadOf_J59 C (fX7_comersAheadOf_L6 x1 x2 x3 μ n) _ _ _ _ _ _ _  _ hrec kx h
def fX7_comersAheadOf (x1 : Int32) (x2 : Int32) (x3 : Int32) (μ : la_Mem) : Option Int32 :=
  Option.bind (fX7_comersAheadOf_L6 x1 x2 x3 μ 400 0 0) (fun q6_4 => some q6_4)
set_option maxRecDepth 10000 in
theorem mX7_comersAheadOf {z : LCz} {l : Launch} (x1 : Int32) (x2 : Int32) (x3 : Int32) (μ : la_Mem) (r0 : Int32)  (h : fX7_comersAheadOf x1 x2 x3 μ = some r0) : la_M (LC z) l yX7_comersAheadOf cX7_comersAheadOf 7 (some .int) rmX7_comersAheadOf [.ref (z.2.1 0), .int x1, .int x2, .int x3] μ (fun r' μ' => r' = r0 ∧ μ' = μ) := by
  refine la_of (own := RX7) (lv := [(0, .ref (z.2.1 0)), (1, .int x1), (2, .int x2), (3, .int x3)]) (by decide) rfl (Nat.le_of_ble_eq_true rfl) rfl (fun Φ C => ?_)
  unfold fX7_comersAheadOf at h
  have hret : r0 = r0 ∧ μ = μ := ⟨rfl, rfl⟩
  refine la_iconst C (v := 0) dX7_comersAheadOf_0 (by decide) ?_
  refine la_istore C dX7_comersAheadOf_1 (by decide) rfl ?_
  refine la_iconst C (v := 0) dX7_comersAheadOf_3 (by decide) ?_
  refine la_istore C dX7_comersAheadOf_4 (by decide) rfl ?_
  obtain ⟨q6_4, hL6, h⟩ := la_bd h
  refine la_sub C [2, 3, 4, 5, 1, 0] rfl ?_
  refine wX7_comersAheadOf_L6 C _ _ _ _  _ (fun _ e => ?_) _ _ _ hL6
  cases e
  refine la_iload C dX7_comersAheadOf_75 0 rfl ?_
  exact la_iret C rfl (la_rR (P := (fun r' μ' => r' = r0 ∧ μ' = μ)) h hret) dX7_comersAheadOf_77

def fX7_keyThatComes_L3 (x1 : Int32) (x2 : Int32) (x3 : Int32) (μ : la_Mem) : Nat → Int32 → Option (Int32 ⊕ (Unit))
  | 0, _ => none
  | n + 1, x4 => if x1 ≤ x4 then (some (.inr ())) else ((fX7_comersAheadOf x4 x1 x2 μ).bind (fun r14 => if r14 = x3 then (some (.inl x4)) else ((fX7_keyThatComes_L3 x1 x2 x3 μ n) (x4 + 1))))
set_option maxRecDepth 10000 in
theorem wX7_keyThatComes_L3 {z : LCz} {l : Launch} {Post : Int32 → la_Mem → Prop} {Φ : Nat → List (Nat × Value) → List Value → la_Mem → Prop} (C : la_C (LC z) l rmX7_keyThatComes RX7 cX7_keyThatComes 5 (some .int) Post Φ) (x1 : Int32) (x2 : Int32) (x3 : Int32) (μ : la_Mem)  (ex : (Int32 ⊕ (Unit))) (hret : ∀ q, ex = .inl q → Post q μ) (kx : ex = .inr () → Φ 30 [] [] μ) : ∀ (n : Nat) (x4 : Int32), fX7_keyThatComes_L3 x1 x2 x3 μ n x4 = some ex → Φ 3 [(0, .ref (z.2.1 0)), (1, .int x1), (2, .int x2), (3, .int x3), (4, .int x4)] [] μ := by
  intro n
  induction n with
  | zero =>
    intro _ h
    cases h
  | succ n hrec =>
    intro x4 h
    rw [fX7_keyThatComes_L3] at h
    refine la_iload C dX7_keyThatComes_3 4 rfl ?_
    refine la_iload_n C dX7_keyThatComes_5 1 rfl ?_
    refine la_icmp_ge C (tgt := 30) dX7_keyThatComes_6 (by decide) (fun hc => ?_) (fun hc => ?_)
    · replace h := la_t hc h
      refine la_sub C [] rfl ?_
      exact kx (Option.some.inj h).symm
    · replace h := la_f hc h
      refine la_aload_n C dX7_keyThatComes_9 0 rfl ?_
      refine la_iload C dX7_keyThatComes_10 4 rfl ?_
      refine la_iload_n C dX7_keyThatComes_12 1 rfl ?_
      refine la_iload_n C dX7_keyThatComes_13 2 rfl ?_
      obtain ⟨r14, hr14, h⟩ := la_bd h
      refine KLCRX7_298 C [.int x4, .int x1, .int x2] [] (mX7_comersAheadOf x4 x1 x2 μ r14 hr14) ⟨by decide, by decide⟩ rfl rfl (Nat.le_of_ble_eq_true rfl) dX7_keyThatComes_14 ?_
      refine la_iload_n C dX7_keyThatComes_17 3 rfl ?_
      refine la_icmp_ne C (tgt := 24) dX7_keyThatComes_18 (by decide) (fun hc => ?_) (fun hc => ?_)
      · replace h := la_f hc h
        refine la_iinc C (v := (x4 + 1)) dX7_keyThatComes_24 4 rfl rfl (by decide) rfl ?_
        refine la_goto C (tgt := 3) dX7_keyThatComes_27 (by decide) ?_
        refine la_sub C [1, 2, 3, 4, 0] rfl ?_
        exact hrec _ h
      · replace h := la_t hc h
        refine la_iload C dX7_keyThatComes_21 4 rfl ?_
        exact la_iret C rfl (hret x4 (Option.some.inj h).symm) dX7_keyThatComes_23
def fX7_keyThatComes (x1 : Int32) (x2 : Int32) (x3 : Int32) (μ : la_Mem) : Option Int32 :=
  la_x0 (fX7_keyThatComes_L3 x1 x2 x3 μ 400 0) some (fun _ => some (-4))
set_option maxRecDepth 10000 in
theorem mX7_keyThatComes {z : LCz} {l : Launch} (x1 : Int32) (x2 : Int32) (x3 : Int32) (μ : la_Mem) (r0 : Int32)  (h : fX7_keyThatComes x1 x2 x3 μ = some r0) : la_M (LC z) l yX7_keyThatComes cX7_keyThatComes 5 (some .int) rmX7_keyThatComes [.ref (z.2.1 0), .int x1, .int x2, .int x3] μ (fun r' μ' => r' = r0 ∧ μ' = μ) := by
  refine la_of (own := RX7) (lv := [(0, .ref (z.2.1 0)), (1, .int x1), (2, .int x2), (3, .int x3)]) (by decide) rfl (Nat.le_of_ble_eq_true rfl) rfl (fun Φ C => ?_)
  unfold fX7_keyThatComes at h
  have hret : r0 = r0 ∧ μ = μ := ⟨rfl, rfl⟩
  refine la_iconst C (v := 0) dX7_keyThatComes_0 (by decide) ?_
  refine la_istore C dX7_keyThatComes_1 (by decide) rfl ?_
  rcases la_x0o h with ⟨qq3, hL3, h⟩ | ⟨hL3, h⟩
  · refine la_sub C [1, 2, 3, 4, 0] rfl ?_
    refine wX7_keyThatComes_L3 C _ _ _ _  _ (fun _ e => by cases e; cases h; exact hret) (fun e => by cases e) _ _ hL3
  · refine la_sub C [1, 2, 3, 4, 0] rfl ?_
    refine wX7_keyThatComes_L3 C _ _ _ _  _ (fun _ e => by cases e) (fun e => ?_) _ _ hL3
    cases e
    refine la_bipush C (v := (-4)) dX7_keyThatComes_30 (by decide) ?_
    exact la_iret C rfl (la_rR (P := (fun r' μ' => r' = r0 ∧ μ' = μ)) h hret) dX7_keyThatComes_32

def fX7_readRow_J106 (rec : Int32 → la_Mem → Option ((Int32 × la_Mem) ⊕ (la_Mem))) (x1 : Int32) (x3 : Int32) (x4 : Int32) (x7 : Int32) (s0 : Int32) (s1 : Int32) (μ : la_Mem) : Option ((Int32 × la_Mem) ⊕ (la_Mem)) :=
  la_if (la_ix s1 24) (la_st (la_ms μ 27 (Int32.toNatClampNeg s1) s0) (fun μ106 => rec (x7 + 1) μ106))
set_option maxRecDepth 10000 in
theorem wX7_readRow_J106 {z : LCz} {l : Launch} {Post : Int32 → la_Mem → Prop} {Φ : Nat → List (Nat × Value) → List Value → la_Mem → Prop} (C : la_C (LC z) l rmX7_readRow RX7 cX7_readRow 9 (some .int) Post Φ) (rec : Int32 → la_Mem → Option ((Int32 × la_Mem) ⊕ (la_Mem))) (x1 : Int32) (x3 : Int32) (x4 : Int32) (x7 : Int32) (s0 : Int32) (s1 : Int32) (μ : la_Mem) (hf_Int32toNatClampNegx1 : (Int32.toNatClampNeg x1) < 4) (ex : ((Int32 × la_Mem) ⊕ (la_Mem))) (hrec : ∀ (y7 : Int32) (ν : la_Mem), rec y7 ν = some ex → Φ 48 [(0, .ref (z.2.1 0)), (3, .int x3), (4, .int x4), (6, .ref (z.2.1 (28 + (Int32.toNatClampNeg x1) + 4))), (7, .int y7)] [] ν) (hret : ∀ q, ex = .inl q → Post q.1 q.2) (kx : ∀  (ν : la_Mem), ex = .inr ν → Φ 113 [] [] ν) (h : fX7_readRow_J106 rec x1 x3 x4 x7 s0 s1 μ = some ex) : Φ 106 [(0, .ref (z.2.1 0)), (3, .int x3), (4, .int x4), (6, .ref (z.2.1 (28 + (Int32.toNatClampNeg x1) + 4))), (7, .int x7)] [.int s0, .int s1, .ref (z.2.1 27)] μ := by
  unfold fX7_readRow_J106 at h
  obtain ⟨hi106, h⟩ := la_go h
  obtain ⟨μ106, eμ106, h⟩ := la_so h
  refine BLC27 C _ rfl hi106 eμ106 dX7_readRow_106 ?_
  refine la_iinc C (v := (x7 + 1)) dX7_readRow_107 4 rfl rfl (by decide) rfl ?_
  refine la_goto C (tgt := 48) dX7_readRow_110 (by decide) ?_
  refine la_sub C [1, 2, 3, 4, 0] rfl ?_
  exact hrec _ _ h
def fX7_readRow_J82 (rec : Int32 → la_Mem → Option ((Int32 × la_Mem) ⊕ (la_Mem))) (x1 : Int32) (x3 : Int32) (x4 : Int32) (x7 : Int32) (x8 : Int32) (μ : la_Mem) : Option ((Int32 × la_Mem) ⊕ (la_Mem)) :=
  if x8 = 12 then (fX7_readRow_J106 rec x1 x3 x4 x7 0 x7 μ) else (la_if (la_ix x8 12) (fX7_readRow_J106 rec x1 x3 x4 x7 (μ 25 (Int32.toNatClampNeg x8)) x7 μ))
set_option maxRecDepth 10000 in
theorem wX7_readRow_J82 {z : LCz} {l : Launch} {Post : Int32 → la_Mem → Prop} {Φ : Nat → List (Nat × Value) → List Value → la_Mem → Prop} (C : la_C (LC z) l rmX7_readRow RX7 cX7_readRow 9 (some .int) Post Φ) (rec : Int32 → la_Mem → Option ((Int32 × la_Mem) ⊕ (la_Mem))) (x1 : Int32) (x3 : Int32) (x4 : Int32) (x7 : Int32) (x8 : Int32) (μ : la_Mem) (hf_Int32toNatClampNegx1 : (Int32.toNatClampNeg x1) < 4) (ex : ((Int32 × la_Mem) ⊕ (la_Mem))) (hrec : ∀ (y7 : Int32) (ν : la_Mem), rec y7 ν = some ex → Φ 48 [(0, .ref (z.2.1 0)), (3, .int x3), (4, .int x4), (6, .ref (z.2.1 (28 + (Int32.toNatClampNeg x1) + 4))), (7, .int y7)] [] ν) (hret : ∀ q, ex = .inl q → Post q.1 q.2) (kx : ∀  (ν : la_Mem), ex = .inr ν → Φ 113 [] [] ν) (h : fX7_readRow_J82 rec x1 x3 x4 x7 x8 μ = some ex) : Φ 82 [(0, .ref (z.2.1 0)), (3, .int x3), (4, .int x4), (6, .ref (z.2.1 (28 + (Int32.toNatClampNeg x1) + 4))), (7, .int x7), (8, .int x8)] [] μ := by
  unfold fX7_readRow_J82 at h
  refine la_aload_n C dX7_readRow_82 0 rfl ?_
  refine GLCRX7_67 C dX7_readRow_83 ?_
  refine la_iload C dX7_readRow_86 4 rfl ?_
  refine la_iload C dX7_readRow_88 5 rfl ?_
  refine la_bipush C (v := 12) dX7_readRow_90 (by decide) ?_
  refine la_icmp_ne C (tgt := 99) dX7_readRow_92 (by decide) (fun hc => ?_) (fun hc => ?_)
  · replace h := la_f hc h
    refine la_aload_n C dX7_readRow_99 0 rfl ?_
    refine GLCRX7_61 C dX7_readRow_100 ?_
    refine la_iload C dX7_readRow_103 5 rfl ?_
    obtain ⟨hi105, h⟩ := la_go h
    refine ALC25 C _ rfl hi105 dX7_readRow_105 ?_
    refine la_sub C [0, 1, 2, 3, 4] rfl ?_
    exact wX7_readRow_J106 C rec _ _ _ _ _ _ _ hf_Int32toNatClampNegx1 _ hrec hret kx h
  · replace h := la_t hc h
    refine la_iconst C (v := 0) dX7_readRow_95 (by decide) ?_
    refine la_goto C (tgt := 106) dX7_readRow_96 (by decide) ?_
    refine la_sub C [0, 1, 2, 3, 4] rfl ?_
    exact wX7_readRow_J106 C rec _ _ _ _ _ _ _ hf_Int32toNatClampNegx1 _ hrec hret kx h
def fX7_readRow_L48 (x1 : Int32) (x3 : Int32) (x4 : Int32) : Nat → Int32 → la_Mem → Option ((Int32 × la_Mem) ⊕ (la_Mem))
  | 0, _, _ => none
  | n + 1, x7, μ => if x4 ≤ x7 then (some (.inr μ)) else (la_if (la_ix (x3 + x7) 40) (la_st ((μ (28 + (Int32.toNatClampNeg x1) + 4) (Int32.toNatClampNeg (x3 + x7)))) (fun v62 => (fX7_isPlace v62 μ).bind (fun r66 => if r66 = 0 then (if v62 = 12 then (fX7_readRow_J82 (fX7_readRow_L48 x1 x3 x4 n) x1 x3 x4 x7 v62 μ) else (some (.inl ((-2), μ)))) else (fX7_readRow_J82 (fX7_readRow_L48 x1 x3 x4 n) x1 x3 x4 x7 v62 μ)))))
set_option maxRecDepth 10000 in
theorem wX7_readRow_L48 {z : LCz} {l : Launch} {Post : Int32 → la_Mem → Prop} {Φ : Nat → List (Nat × Value) → List Value → la_Mem → Prop} (C : la_C (LC z) l rmX7_readRow RX7 cX7_readRow 9 (some .int) Post Φ) (x1 : Int32) (x3 : Int32) (x4 : Int32) (hf_Int32toNatClampNegx1 : (Int32.toNatClampNeg x1) < 4) (ex : ((Int32 × la_Mem) ⊕ (la_Mem))) (hret : ∀ q, ex = .inl q → Post q.1 q.2) (kx : ∀  (ν : la_Mem), ex = .inr ν → Φ 113 [] [] ν) : ∀ (n : Nat) (x7 : Int32) (μ : la_Mem), fX7_readRow_L48 x1 x3 x4 n x7 μ = some ex → Φ 48 [(0, .ref (z.2.1 0)), (3, .int x3), (4, .int x4), (6, .ref (z.2.1 (28 + (Int32.toNatClampNeg x1) + 4))), (7, .int x7)] [] μ := by
  intro n
  induction n with
  | zero =>
    intro _ _ h
    cases h
  | succ n hrec =>
    intro x7 μ h
    rw [fX7_readRow_L48] at h
    refine la_iload C dX7_readRow_48 4 rfl ?_
    refine la_iload C dX7_readRow_50 2 rfl ?_
    refine la_icmp_ge C (tgt := 113) dX7_readRow_52 (by decide) (fun hc => ?_) (fun hc => ?_)
    · replace h := la_t hc h
      refine la_sub C [] rfl ?_
      exact kx _ (Option.some.inj h).symm
    · replace h := la_f hc h
      refine la_aload C dX7_readRow_55 3 rfl ?_
      refine la_iload_n C dX7_readRow_57 1 rfl ?_
      refine la_iload C dX7_readRow_58 4 rfl ?_
      refine la_iadd C dX7_readRow_60 ?_
      obtain ⟨hi61, h⟩ := la_go h
      refine ALCd32 C hf_Int32toNatClampNegx1 _ rfl hi61 dX7_readRow_61 ?_
      obtain ⟨v62, ev62, h⟩ := la_so h
      refine la_nm C ev62 ?_
      refine la_istore C dX7_readRow_62 (by decide) rfl ?_
      refine la_iload C dX7_readRow_64 0 rfl ?_
      obtain ⟨r66, hr66, h⟩ := la_bd h
      refine KLCRX7_86 C [.int v62] [] (mX7_isPlace v62 μ r66 hr66) ⟨by decide, by decide⟩ rfl rfl (Nat.le_of_ble_eq_true rfl) dX7_readRow_66 ?_
      refine la_if_ne C (tgt := 82) dX7_readRow_69 (by decide) (fun hc => ?_) (fun hc => ?_)
      · replace h := la_f hc h
        refine la_sub C [1, 2, 3, 4, 5, 0] rfl ?_
        exact wX7_readRow_J82 C (fX7_readRow_L48 x1 x3 x4 n) _ _ _ _ _ _ hf_Int32toNatClampNegx1 _ hrec hret kx h
      · replace h := la_t hc h
        refine la_iload C dX7_readRow_72 0 rfl ?_
        refine la_bipush C (v := 12) dX7_readRow_74 (by decide) ?_
        refine la_icmp_eq C (tgt := 82) dX7_readRow_76 (by decide) (fun hc => ?_) (fun hc => ?_)
        · replace h := la_t hc h
          refine la_sub C [1, 2, 3, 4, 5, 0] rfl ?_
          exact wX7_readRow_J82 C (fX7_readRow_L48 x1 x3 x4 n) _ _ _ _ _ _ hf_Int32toNatClampNegx1 _ hrec hret kx h
        · replace h := la_f hc h
          refine la_bipush C (v := (-2)) dX7_readRow_79 (by decide) ?_
          exact la_iret C rfl (hret ((-2), μ) (Option.some.inj h).symm) dX7_readRow_81
def fX7_readRow (x1 : Int32) (x2 : Int32) (x3 : Int32) (x4 : Int32) (μ : la_Mem) : Option (Int32 × la_Mem) :=
  if x4 < 1 then (some ((-1), μ)) else (if x4 ≤ 24 then ((fX7_sheetFault x1 x2 x3 x4 μ).bind (fun r21 => if r21 = 0 then (la_if (la_ix x1 4) (la_x1 (fX7_readRow_L48 x1 x3 x4 400 0 μ) some (fun ν48 => some (0, ν48)))) else (some (r21, μ)))) else (some ((-1), μ)))
set_option maxRecDepth 10000 in
theorem mX7_readRow {z : LCz} {l : Launch} (x1 : Int32) (x2 : Int32) (x3 : Int32) (x4 : Int32) (μ : la_Mem) (r0 : Int32) (μ0 : la_Mem)  (h : fX7_readRow x1 x2 x3 x4 μ = some (r0, μ0)) : la_M (LC z) l yX7_readRow cX7_readRow 9 (some .int) rmX7_readRow [.ref (z.2.1 0), .int x1, .int x2, .int x3, .int x4] μ (fun r' μ' => r' = r0 ∧ μ' = μ0) := by
  refine la_of (own := RX7) (lv := [(0, .ref (z.2.1 0)), (1, .int x1), (2, .int x2), (3, .int x3), (4, .int x4)]) (by decide) rfl (Nat.le_of_ble_eq_true rfl) rfl (fun Φ C => ?_)
  unfold fX7_readRow at h
  have hret : r0 = r0 ∧ μ0 = μ0 := ⟨rfl, rfl⟩
  refine la_iload C dX7_readRow_0 4 rfl ?_
  refine la_iconst C (v := 1) dX7_readRow_2 (by decide) ?_
  refine la_icmp_lt C (tgt := 13) dX7_readRow_3 (by decide) (fun hc => ?_) (fun hc => ?_)
  · replace h := la_t hc h
    refine la_iconst C (v := (-1)) dX7_readRow_13 (by decide) ?_
    exact la_iret C rfl (la_rW (P := (fun r' μ' => r' = r0 ∧ μ' = μ0)) h hret) dX7_readRow_14
  · replace h := la_f hc h
    refine la_iload C dX7_readRow_6 4 rfl ?_
    refine la_bipush C (v := 24) dX7_readRow_8 (by decide) ?_
    refine la_icmp_le C (tgt := 15) dX7_readRow_10 (by decide) (fun hc => ?_) (fun hc => ?_)
    · replace h := la_t hc h
      refine la_aload_n C dX7_readRow_15 0 rfl ?_
      refine la_iload_n C dX7_readRow_16 1 rfl ?_
      refine la_iload_n C dX7_readRow_17 2 rfl ?_
      refine la_iload_n C dX7_readRow_18 3 rfl ?_
      refine la_iload C dX7_readRow_19 4 rfl ?_
      obtain ⟨r21, hr21, h⟩ := la_bd h
      refine KLCRX7_95 C [.int x1, .int x2, .int x3, .int x4] [] (mX7_sheetFault x1 x2 x3 x4 μ r21 hr21) ⟨by decide, by decide⟩ rfl rfl (Nat.le_of_ble_eq_true rfl) dX7_readRow_21 ?_
      refine la_istore C dX7_readRow_24 (by decide) rfl ?_
      refine la_iload C dX7_readRow_26 0 rfl ?_
      refine la_if_eq C (tgt := 34) dX7_readRow_28 (by decide) (fun hc => ?_) (fun hc => ?_)
      · replace h := la_t hc h
        refine la_aload_n C dX7_readRow_34 1 rfl ?_
        refine GLCRX7_53 C dX7_readRow_35 ?_
        refine la_iload_n C dX7_readRow_38 2 rfl ?_
        obtain ⟨hi39, h⟩ := la_go h
        refine RLC23 C hi39 dX7_readRow_39 ?_
        refine GLCRX7_99 C (la_ix_lt hi39) dX7_readRow_40 ?_
        refine la_astore C dX7_readRow_43 (by decide) rfl ?_
        refine la_iconst C (v := 0) dX7_readRow_45 (by decide) ?_
        refine la_istore C dX7_readRow_46 (by decide) rfl ?_
        rcases la_x1o h with ⟨qq48, hL48, h⟩ | ⟨ν48, hL48, h⟩
        · refine la_sub C [3, 6, 7, 1, 0] rfl ?_
          refine wX7_readRow_L48 C _ _ _ (la_ix_lt hi39) _ (fun _ e => by cases e; cases h; exact hret) (fun _ e => by cases e) _ _ _ hL48
        · refine la_sub C [3, 6, 7, 1, 0] rfl ?_
          refine wX7_readRow_L48 C _ _ _ (la_ix_lt hi39) _ (fun _ e => by cases e) (fun _ e => ?_) _ _ _ hL48
          cases e
          refine la_iconst C (v := 0) dX7_readRow_113 (by decide) ?_
          exact la_iret C rfl (la_rW (P := (fun r' μ' => r' = r0 ∧ μ' = μ0)) h hret) dX7_readRow_114
      · replace h := la_f hc h
        refine la_iload C dX7_readRow_31 0 rfl ?_
        exact la_iret C rfl (la_rW (P := (fun r' μ' => r' = r0 ∧ μ' = μ0)) h hret) dX7_readRow_33
    · replace h := la_f hc h
      refine la_iconst C (v := (-1)) dX7_readRow_13 (by decide) ?_
      exact la_iret C rfl (la_rW (P := (fun r' μ' => r' = r0 ∧ μ' = μ0)) h hret) dX7_readRow_14

def fX7_comes (x1 : Int32) (x2 : Int32) (x3 : Int32) (x4 : Int32) (x5 : Int32) (x6 : Int32) (μ : la_Mem) : Option (Int32 × la_Mem) :=
  (fX7_isGap x5 μ).bind (fun r2 => if r2 = 0 then (some ((-1), μ)) else (if x6 < 0 then (some ((-1), μ)) else (if x6 < x4 then (la_b2 (fX7_readRow x1 x2 x3 x4 μ) (fun r28 μ28 => if r28 = 0 then ((fX7_keyThatComes x4 x5 x6 μ28).bind (fun r50 => some (r50, μ28))) else (some (r28, μ28)))) else (some ((-1), μ)))))
set_option maxRecDepth 10000 in
theorem mX7_comes {z : LCz} {l : Launch} (x1 : Int32) (x2 : Int32) (x3 : Int32) (x4 : Int32) (x5 : Int32) (x6 : Int32) (μ : la_Mem) (r0 : Int32) (μ0 : la_Mem)  (h : fX7_comes x1 x2 x3 x4 x5 x6 μ = some (r0, μ0)) : la_M (LC z) l yX7_comes cX7_comes 8 (some .int) rmX7_comes [.ref (z.2.1 0), .int x1, .int x2, .int x3, .int x4, .int x5, .int x6] μ (fun r' μ' => r' = r0 ∧ μ' = μ0) := by
  refine la_of (own := RX7) (lv := [(0, .ref (z.2.1 0)), (1, .int x1), (2, .int x2), (3, .int x3), (4, .int x4), (5, .int x5), (6, .int x6)]) (by decide) rfl (Nat.le_of_ble_eq_true rfl) rfl (fun Φ C => ?_)
  unfold fX7_comes at h
  have hret : r0 = r0 ∧ μ0 = μ0 := ⟨rfl, rfl⟩
  refine la_iload C dX7_comes_0 5 rfl ?_
  obtain ⟨r2, hr2, h⟩ := la_bd h
  refine KLCRX7_207 C [.int x5] [] (mX7_isGap x5 μ r2 hr2) ⟨by decide, by decide⟩ rfl rfl (Nat.le_of_ble_eq_true rfl) dX7_comes_2 ?_
  refine la_if_eq C (tgt := 20) dX7_comes_5 (by decide) (fun hc => ?_) (fun hc => ?_)
  · replace h := la_t hc h
    refine la_iconst C (v := (-1)) dX7_comes_20 (by decide) ?_
    exact la_iret C rfl (la_rW (P := (fun r' μ' => r' = r0 ∧ μ' = μ0)) h hret) dX7_comes_21
  · replace h := la_f hc h
    refine la_iload C dX7_comes_8 6 rfl ?_
    refine la_if_lt C (tgt := 20) dX7_comes_10 (by decide) (fun hc => ?_) (fun hc => ?_)
    · replace h := la_t hc h
      refine la_iconst C (v := (-1)) dX7_comes_20 (by decide) ?_
      exact la_iret C rfl (la_rW (P := (fun r' μ' => r' = r0 ∧ μ' = μ0)) h hret) dX7_comes_21
    · replace h := la_f hc h
      refine la_iload C dX7_comes_13 6 rfl ?_
      refine la_iload C dX7_comes_15 4 rfl ?_
      refine la_icmp_lt C (tgt := 22) dX7_comes_17 (by decide) (fun hc => ?_) (fun hc => ?_)
      · replace h := la_t hc h
        refine la_aload_n C dX7_comes_22 0 rfl ?_
        refine la_iload_n C dX7_comes_23 1 rfl ?_
        refine la_iload_n C dX7_comes_24 2 rfl ?_
        refine la_iload_n C dX7_comes_25 3 rfl ?_
        refine la_iload C dX7_comes_26 4 rfl ?_
        obtain ⟨r28, μ28, hr28, h⟩ := la_b2o h
        refine KLCRX7_210 C [.int x1, .int x2, .int x3, .int x4] [] (mX7_readRow x1 x2 x3 x4 μ r28 μ28 hr28) ⟨by decide, by decide⟩ rfl rfl (Nat.le_of_ble_eq_true rfl) dX7_comes_28 ?_
        refine la_istore C dX7_comes_31 (by decide) rfl ?_
        refine la_iload C dX7_comes_33 0 rfl ?_
        refine la_if_eq C (tgt := 43) dX7_comes_35 (by decide) (fun hc => ?_) (fun hc => ?_)
        · replace h := la_t hc h
          refine la_aload_n C dX7_comes_43 1 rfl ?_
          refine la_iload C dX7_comes_44 5 rfl ?_
          refine la_iload C dX7_comes_46 6 rfl ?_
          refine la_iload C dX7_comes_48 7 rfl ?_
          obtain ⟨r50, hr50, h⟩ := la_bd h
          refine KLCRX7_213 C [.int x4, .int x5, .int x6] [] (mX7_keyThatComes x4 x5 x6 μ28 r50 hr50) ⟨by decide, by decide⟩ rfl rfl (Nat.le_of_ble_eq_true rfl) dX7_comes_50 ?_
          exact la_iret C rfl (la_rW (P := (fun r' μ' => r' = r0 ∧ μ' = μ0)) h hret) dX7_comes_53
        · replace h := la_f hc h
          refine la_iload C dX7_comes_38 0 rfl ?_
          refine la_goto C (tgt := 53) dX7_comes_40 (by decide) ?_
          exact la_iret C rfl (la_rW (P := (fun r' μ' => r' = r0 ∧ μ' = μ0)) h hret) dX7_comes_53
      · replace h := la_f hc h
        refine la_iconst C (v := (-1)) dX7_comes_20 (by decide) ?_
        exact la_iret C rfl (la_rW (P := (fun r' μ' => r' = r0 ∧ μ' = μ0)) h hret) dX7_comes_21

def fX7_turnedPairs_J36 (rec : Int32 → Int32 → Option (Int32)) (x1 : Int32) (x2 : Int32) (x3 : Int32) (x4 : Int32) (x5 : Int32) (μ : la_Mem) : Option (Int32) :=
  rec x3 (x5 + 1)
set_option maxRecDepth 10000 in
theorem wX7_turnedPairs_J36 {z : LCz} {l : Launch} {Post : Int32 → la_Mem → Prop} {Φ : Nat → List (Nat × Value) → List Value → la_Mem → Prop} (C : la_C (LC z) l rmX7_turnedPairs RX7 cX7_turnedPairs 6 (some .int) Post Φ) (rec : Int32 → Int32 → Option (Int32)) (x1 : Int32) (x2 : Int32) (x3 : Int32) (x4 : Int32) (x5 : Int32) (μ : la_Mem)  (ex : (Int32)) (hrec : ∀ (y3 : Int32) (y5 : Int32), rec y3 y5 = some ex → Φ 14 [(0, .ref (z.2.1 0)), (1, .int x1), (2, .int x2), (3, .int y3), (4, .int x4), (5, .int y5)] [] μ) (kx : ∀ (y3 : Int32), ex = y3 → Φ 42 [(0, .ref (z.2.1 0)), (1, .int x1), (2, .int x2), (3, .int y3), (4, .int x4)] [] μ) (h : fX7_turnedPairs_J36 rec x1 x2 x3 x4 x5 μ = some ex) : Φ 36 [(0, .ref (z.2.1 0)), (1, .int x1), (2, .int x2), (3, .int x3), (4, .int x4), (5, .int x5)] [] μ := by
  unfold fX7_turnedPairs_J36 at h
  refine la_iinc C (v := (x5 + 1)) dX7_turnedPairs_36 5 rfl rfl (by decide) rfl ?_
  refine la_goto C (tgt := 14) dX7_turnedPairs_39 (by decide) ?_
  refine la_sub C [1, 2, 3, 4, 5, 0] rfl ?_
  exact hrec _ _ h
def fX7_turnedPairs_L14 (x1 : Int32) (x2 : Int32) (x4 : Int32) (μ : la_Mem) : Nat → Int32 → Int32 → Option (Int32)
  | 0, _, _ => none
  | n + 1, x3, x5 => if x4 ≤ x5 then (some x3) else ((fX7_comesAhead x4 x5 x2 μ).bind (fun r27 => if r27 = 0 then (fX7_turnedPairs_J36 (fX7_turnedPairs_L14 x1 x2 x4 μ n) x1 x2 x3 x4 x5 μ) else (fX7_turnedPairs_J36 (fX7_turnedPairs_L14 x1 x2 x4 μ n) x1 x2 (x3 + 1) x4 x5 μ)))
set_option maxRecDepth 10000 in
theorem wX7_turnedPairs_L14 {z : LCz} {l : Launch} {Post : Int32 → la_Mem → Prop} {Φ : Nat → List (Nat × Value) → List Value → la_Mem → Prop} (C : la_C (LC z) l rmX7_turnedPairs RX7 cX7_turnedPairs 6 (some .int) Post Φ) (x1 : Int32) (x2 : Int32) (x4 : Int32) (μ : la_Mem)  (ex : (Int32)) (kx : ∀ (y3 : Int32), ex = y3 → Φ 42 [(0, .ref (z.2.1 0)), (1, .int x1), (2, .int x2), (3, .int y3), (4, .int x4)] [] μ) : ∀ (n : Nat) (x3 : Int32) (x5 : Int32), fX7_turnedPairs_L14 x1 x2 x4 μ n x3 x5 = some ex → Φ 14 [(0, .ref (z.2.1 0)), (1, .int x1), (2, .int x2), (3, .int x3), (4, .int x4), (5, .int x5)] [] μ := by
  intro n
  induction n with
  | zero =>
    intro _ _ h
    cases h
  | succ n hrec =>
    intro x3 x5 h
    rw [fX7_turnedPairs_L14] at h
    refine la_iload C dX7_turnedPairs_14 5 rfl ?_
    refine la_iload C dX7_turnedPairs_16 4 rfl ?_
    refine la_icmp_ge C (tgt := 42) dX7_turnedPairs_18 (by decide) (fun hc => ?_) (fun hc => ?_)
    · replace h := la_t hc h
      refine la_sub C [0, 1, 2, 3, 4] rfl ?_
      exact kx _ (Option.some.inj h).symm
    · replace h := la_f hc h
      refine la_aload_n C dX7_turnedPairs_21 0 rfl ?_
      refine la_iload C dX7_turnedPairs_22 4 rfl ?_
      refine la_iload C dX7_turnedPairs_24 5 rfl ?_
      refine la_iload_n C dX7_turnedPairs_26 2 rfl ?_
      obtain ⟨r27, hr27, h⟩ := la_bd h
      refine KLCRX7_294 C [.int x4, .int x5, .int x2] [] (mX7_comesAhead x4 x5 x2 μ r27 hr27) ⟨by decide, by decide⟩ rfl rfl (Nat.le_of_ble_eq_true rfl) dX7_turnedPairs_27 ?_
      refine la_if_eq C (tgt := 36) dX7_turnedPairs_30 (by decide) (fun hc => ?_) (fun hc => ?_)
      · replace h := la_t hc h
        refine la_sub C [0, 1, 2, 3, 4, 5] rfl ?_
        exact wX7_turnedPairs_J36 C (fX7_turnedPairs_L14 x1 x2 x4 μ n) _ _ _ _ _ _  _ hrec kx h
      · replace h := la_f hc h
        refine la_iinc C (v := (x3 + 1)) dX7_turnedPairs_33 3 rfl rfl (by decide) rfl ?_
        refine la_sub C [1, 2, 3, 0, 4, 5] rfl ?_
        exact wX7_turnedPairs_J36 C (fX7_turnedPairs_L14 x1 x2 x4 μ n) _ _ _ _ _ _  _ hrec kx h
def fX7_turnedPairs_L5 (x1 : Int32) (x2 : Int32) (μ : la_Mem) : Nat → Int32 → Int32 → Option (Int32)
  | 0, _, _ => none
  | n + 1, x3, x4 => if x1 ≤ x4 then (some x3) else (Option.bind (fX7_turnedPairs_L14 x1 x2 x4 μ 400 x3 0) (fun q14_3 => (fX7_turnedPairs_L5 x1 x2 μ n) q14_3 (x4 + 1)))
set_option maxRecDepth 10000 in
theorem wX7_turnedPairs_L5 {z : LCz} {l : Launch} {Post : Int32 → la_Mem → Prop} {Φ : Nat → List (Nat × Value) → List Value → la_Mem → Prop} (C : la_C (LC z) l rmX7_turnedPairs RX7 cX7_turnedPairs 6 (some .int) Post Φ) (x1 : Int32) (x2 : Int32) (μ : la_Mem)  (ex : (Int32)) (kx : ∀ (y3 : Int32), ex = y3 → Φ 48 [(3, .int y3)] [] μ) : ∀ (n : Nat) (x3 : Int32) (x4 : Int32), fX7_turnedPairs_L5 x1 x2 μ n x3 x4 = some ex → Φ 5 [(0, .ref (z.2.1 0)), (1, .int x1), (2, .int x2), (3, .int x3), (4, .int x4)] [] μ := by
  intro n
  induction n with
  | zero =>
    intro _ _ h
    cases h
  | succ n hrec =>
    intro x3 x4 h
    rw [fX7_turnedPairs_L5] at h
    refine la_iload C dX7_turnedPairs_5 4 rfl ?_
    refine la_iload_n C dX7_turnedPairs_7 1 rfl ?_
    refine la_icmp_ge C (tgt := 48) dX7_turnedPairs_8 (by decide) (fun hc => ?_) (fun hc => ?_)
    · replace h := la_t hc h
      refine la_sub C [3] rfl ?_
      exact kx _ (Option.some.inj h).symm
    · replace h := la_f hc h
      refine la_iconst C (v := 0) dX7_turnedPairs_11 (by decide) ?_
      refine la_istore C dX7_turnedPairs_12 (by decide) rfl ?_
      obtain ⟨q14_3, hL14, h⟩ := la_bd h
      refine la_sub C [1, 2, 3, 4, 5, 0] rfl ?_
      refine wX7_turnedPairs_L14 C _ _ _ _  _ (fun _ e => ?_) _ _ _ hL14
      cases e
      refine la_iinc C (v := (x4 + 1)) dX7_turnedPairs_42 4 rfl rfl (by decide) rfl ?_
      refine la_goto C (tgt := 5) dX7_turnedPairs_45 (by decide) ?_
      refine la_sub C [1, 2, 3, 4, 0] rfl ?_
      exact hrec _ _ h
def fX7_turnedPairs (x1 : Int32) (x2 : Int32) (μ : la_Mem) : Option Int32 :=
  Option.bind (fX7_turnedPairs_L5 x1 x2 μ 400 0 1) (fun q5_3 => some q5_3)
set_option maxRecDepth 10000 in
theorem mX7_turnedPairs {z : LCz} {l : Launch} (x1 : Int32) (x2 : Int32) (μ : la_Mem) (r0 : Int32)  (h : fX7_turnedPairs x1 x2 μ = some r0) : la_M (LC z) l yX7_turnedPairs cX7_turnedPairs 6 (some .int) rmX7_turnedPairs [.ref (z.2.1 0), .int x1, .int x2] μ (fun r' μ' => r' = r0 ∧ μ' = μ) := by
  refine la_of (own := RX7) (lv := [(0, .ref (z.2.1 0)), (1, .int x1), (2, .int x2)]) (by decide) rfl (Nat.le_of_ble_eq_true rfl) rfl (fun Φ C => ?_)
  unfold fX7_turnedPairs at h
  have hret : r0 = r0 ∧ μ = μ := ⟨rfl, rfl⟩
  refine la_iconst C (v := 0) dX7_turnedPairs_0 (by decide) ?_
  refine la_istore_n C dX7_turnedPairs_1 (by decide) rfl ?_
  refine la_iconst C (v := 1) dX7_turnedPairs_2 (by decide) ?_
  refine la_istore C dX7_turnedPairs_3 (by decide) rfl ?_
  obtain ⟨q5_3, hL5, h⟩ := la_bd h
  refine la_sub C [2, 3, 4, 1, 0] rfl ?_
  refine wX7_turnedPairs_L5 C _ _ _  _ (fun _ e => ?_) _ _ _ hL5
  cases e
  refine la_iload_n C dX7_turnedPairs_48 0 rfl ?_
  exact la_iret C rfl (la_rR (P := (fun r' μ' => r' = r0 ∧ μ' = μ)) h hret) dX7_turnedPairs_49

def fX7_turned (x1 : Int32) (x2 : Int32) (x3 : Int32) (x4 : Int32) (x5 : Int32) (μ : la_Mem) : Option (Int32 × la_Mem) :=
  (fX7_isGap x5 μ).bind (fun r2 => if r2 = 0 then (some ((-1), μ)) else (la_b2 (fX7_readRow x1 x2 x3 x4 μ) (fun r16 μ16 => if r16 = 0 then ((fX7_turnedPairs x4 x5 μ16).bind (fun r36 => some (r36, μ16))) else (some (r16, μ16)))))
set_option maxRecDepth 10000 in
theorem mX7_turned {z : LCz} {l : Launch} (x1 : Int32) (x2 : Int32) (x3 : Int32) (x4 : Int32) (x5 : Int32) (μ : la_Mem) (r0 : Int32) (μ0 : la_Mem)  (h : fX7_turned x1 x2 x3 x4 x5 μ = some (r0, μ0)) : la_M (LC z) l yX7_turned cX7_turned 7 (some .int) rmX7_turned [.ref (z.2.1 0), .int x1, .int x2, .int x3, .int x4, .int x5] μ (fun r' μ' => r' = r0 ∧ μ' = μ0) := by
  refine la_of (own := RX7) (lv := [(0, .ref (z.2.1 0)), (1, .int x1), (2, .int x2), (3, .int x3), (4, .int x4), (5, .int x5)]) (by decide) rfl (Nat.le_of_ble_eq_true rfl) rfl (fun Φ C => ?_)
  unfold fX7_turned at h
  have hret : r0 = r0 ∧ μ0 = μ0 := ⟨rfl, rfl⟩
  refine la_iload C dX7_turned_0 5 rfl ?_
  obtain ⟨r2, hr2, h⟩ := la_bd h
  refine KLCRX7_207 C [.int x5] [] (mX7_isGap x5 μ r2 hr2) ⟨by decide, by decide⟩ rfl rfl (Nat.le_of_ble_eq_true rfl) dX7_turned_2 ?_
  refine la_if_ne C (tgt := 10) dX7_turned_5 (by decide) (fun hc => ?_) (fun hc => ?_)
  · replace h := la_f hc h
    refine la_aload_n C dX7_turned_10 0 rfl ?_
    refine la_iload_n C dX7_turned_11 1 rfl ?_
    refine la_iload_n C dX7_turned_12 2 rfl ?_
    refine la_iload_n C dX7_turned_13 3 rfl ?_
    refine la_iload C dX7_turned_14 4 rfl ?_
    obtain ⟨r16, μ16, hr16, h⟩ := la_b2o h
    refine KLCRX7_210 C [.int x1, .int x2, .int x3, .int x4] [] (mX7_readRow x1 x2 x3 x4 μ r16 μ16 hr16) ⟨by decide, by decide⟩ rfl rfl (Nat.le_of_ble_eq_true rfl) dX7_turned_16 ?_
    refine la_istore C dX7_turned_19 (by decide) rfl ?_
    refine la_iload C dX7_turned_21 0 rfl ?_
    refine la_if_eq C (tgt := 31) dX7_turned_23 (by decide) (fun hc => ?_) (fun hc => ?_)
    · replace h := la_t hc h
      refine la_aload_n C dX7_turned_31 1 rfl ?_
      refine la_iload C dX7_turned_32 5 rfl ?_
      refine la_iload C dX7_turned_34 6 rfl ?_
      obtain ⟨r36, hr36, h⟩ := la_bd h
      refine KLCRX7_217 C [.int x4, .int x5] [] (mX7_turnedPairs x4 x5 μ16 r36 hr36) ⟨by decide, by decide⟩ rfl rfl (Nat.le_of_ble_eq_true rfl) dX7_turned_36 ?_
      exact la_iret C rfl (la_rW (P := (fun r' μ' => r' = r0 ∧ μ' = μ0)) h hret) dX7_turned_39
    · replace h := la_f hc h
      refine la_iload C dX7_turned_26 0 rfl ?_
      refine la_goto C (tgt := 39) dX7_turned_28 (by decide) ?_
      exact la_iret C rfl (la_rW (P := (fun r' μ' => r' = r0 ∧ μ' = μ0)) h hret) dX7_turned_39
  · replace h := la_t hc h
    refine la_iconst C (v := (-1)) dX7_turned_8 (by decide) ?_
    exact la_iret C rfl (la_rW (P := (fun r' μ' => r' = r0 ∧ μ' = μ0)) h hret) dX7_turned_9

def fX7_waits_L25 (x4 : Int32) (μ : la_Mem) : Nat → Int32 → Int32 → Option (Int32)
  | 0, _, _ => none
  | n + 1, x6, x7 => if x4 ≤ x7 then (some x6) else (la_if (la_ix (x7 - 1) 24) (la_if (la_ix x7 24) (la_st ((x6 + (if 1 < ((μ 27 (Int32.toNatClampNeg (x7 - 1))) - (μ 27 (Int32.toNatClampNeg x7))) then ((μ 27 (Int32.toNatClampNeg (x7 - 1))) - (μ 27 (Int32.toNatClampNeg x7))) else 1))) (fun v56 => (fX7_waits_L25 x4 μ n) v56 (x7 + 1)))))
set_option maxRecDepth 10000 in
theorem wX7_waits_L25 {z : LCz} {l : Launch} {Post : Int32 → la_Mem → Prop} {Φ : Nat → List (Nat × Value) → List Value → la_Mem → Prop} (C : la_C (LC z) l rmX7_waits RX7 cX7_waits 8 (some .int) Post Φ) (x4 : Int32) (μ : la_Mem)  (ex : (Int32)) (kx : ∀ (y6 : Int32), ex = y6 → Φ 64 [(6, .int y6)] [] μ) : ∀ (n : Nat) (x6 : Int32) (x7 : Int32), fX7_waits_L25 x4 μ n x6 x7 = some ex → Φ 25 [(0, .ref (z.2.1 0)), (4, .int x4), (6, .int x6), (7, .int x7)] [] μ := by
  intro n
  induction n with
  | zero =>
    intro _ _ h
    cases h
  | succ n hrec =>
    intro x6 x7 h
    rw [fX7_waits_L25] at h
    refine la_iload C dX7_waits_25 3 rfl ?_
    refine la_iload C dX7_waits_27 1 rfl ?_
    refine la_icmp_ge C (tgt := 64) dX7_waits_29 (by decide) (fun hc => ?_) (fun hc => ?_)
    · replace h := la_t hc h
      refine la_sub C [2] rfl ?_
      exact kx _ (Option.some.inj h).symm
    · replace h := la_f hc h
      refine la_iload C dX7_waits_32 2 rfl ?_
      refine la_iconst C (v := 1) dX7_waits_34 (by decide) ?_
      refine la_aload_n C dX7_waits_35 0 rfl ?_
      refine GLCRX7_67 C dX7_waits_36 ?_
      refine la_iload C dX7_waits_39 3 rfl ?_
      refine la_iconst C (v := 1) dX7_waits_41 (by decide) ?_
      refine la_isub C dX7_waits_42 ?_
      obtain ⟨hi43, h⟩ := la_go h
      refine ALC27 C _ rfl hi43 dX7_waits_43 ?_
      refine la_aload_n C dX7_waits_44 0 rfl ?_
      refine GLCRX7_67 C dX7_waits_45 ?_
      refine la_iload C dX7_waits_48 3 rfl ?_
      obtain ⟨hi50, h⟩ := la_go h
      refine ALC27 C _ rfl hi50 dX7_waits_50 ?_
      refine la_isub C dX7_waits_51 ?_
      refine la_mmax C wd_628 wd_629 wd_630 wd_631 (by decide) (Nat.le_of_ble_eq_true rfl) dX7_waits_52 ?_
      refine la_iadd C dX7_waits_55 ?_
      obtain ⟨v56, ev56, h⟩ := la_so h
      refine la_nm C ev56 ?_
      refine la_istore C dX7_waits_56 (by decide) rfl ?_
      refine la_iinc C (v := (x7 + 1)) dX7_waits_58 3 rfl rfl (by decide) rfl ?_
      refine la_goto C (tgt := 25) dX7_waits_61 (by decide) ?_
      refine la_sub C [2, 3, 1, 0] rfl ?_
      exact hrec _ _ h
def fX7_waits (x1 : Int32) (x2 : Int32) (x3 : Int32) (x4 : Int32) (μ : la_Mem) : Option (Int32 × la_Mem) :=
  la_b2 (fX7_readRow x1 x2 x3 x4 μ) (fun r6 μ6 => if r6 = 0 then (Option.bind (fX7_waits_L25 x4 μ6 400 0 1) (fun q25_6 => some (q25_6, μ6))) else (some (r6, μ6)))
set_option maxRecDepth 10000 in
theorem mX7_waits {z : LCz} {l : Launch} (x1 : Int32) (x2 : Int32) (x3 : Int32) (x4 : Int32) (μ : la_Mem) (r0 : Int32) (μ0 : la_Mem)  (h : fX7_waits x1 x2 x3 x4 μ = some (r0, μ0)) : la_M (LC z) l yX7_waits cX7_waits 8 (some .int) rmX7_waits [.ref (z.2.1 0), .int x1, .int x2, .int x3, .int x4] μ (fun r' μ' => r' = r0 ∧ μ' = μ0) := by
  refine la_of (own := RX7) (lv := [(0, .ref (z.2.1 0)), (1, .int x1), (2, .int x2), (3, .int x3), (4, .int x4)]) (by decide) rfl (Nat.le_of_ble_eq_true rfl) rfl (fun Φ C => ?_)
  unfold fX7_waits at h
  have hret : r0 = r0 ∧ μ0 = μ0 := ⟨rfl, rfl⟩
  refine la_aload_n C dX7_waits_0 0 rfl ?_
  refine la_iload_n C dX7_waits_1 1 rfl ?_
  refine la_iload_n C dX7_waits_2 2 rfl ?_
  refine la_iload_n C dX7_waits_3 3 rfl ?_
  refine la_iload C dX7_waits_4 4 rfl ?_
  obtain ⟨r6, μ6, hr6, h⟩ := la_b2o h
  refine KLCRX7_210 C [.int x1, .int x2, .int x3, .int x4] [] (mX7_readRow x1 x2 x3 x4 μ r6 μ6 hr6) ⟨by decide, by decide⟩ rfl rfl (Nat.le_of_ble_eq_true rfl) dX7_waits_6 ?_
  refine la_istore C dX7_waits_9 (by decide) rfl ?_
  refine la_iload C dX7_waits_11 0 rfl ?_
  refine la_if_eq C (tgt := 19) dX7_waits_13 (by decide) (fun hc => ?_) (fun hc => ?_)
  · replace h := la_t hc h
    refine la_iconst C (v := 0) dX7_waits_19 (by decide) ?_
    refine la_istore C dX7_waits_20 (by decide) rfl ?_
    refine la_iconst C (v := 1) dX7_waits_22 (by decide) ?_
    refine la_istore C dX7_waits_23 (by decide) rfl ?_
    obtain ⟨q25_6, hL25, h⟩ := la_bd h
    refine la_sub C [3, 7, 1, 0] rfl ?_
    refine wX7_waits_L25 C _ _  _ (fun _ e => ?_) _ _ _ hL25
    cases e
    refine la_iload C dX7_waits_64 0 rfl ?_
    exact la_iret C rfl (la_rW (P := (fun r' μ' => r' = r0 ∧ μ' = μ0)) h hret) dX7_waits_66
  · replace h := la_f hc h
    refine la_iload C dX7_waits_16 0 rfl ?_
    exact la_iret C rfl (la_rW (P := (fun r' μ' => r' = r0 ∧ μ' = μ0)) h hret) dX7_waits_18

def fX7_gap_L22 (x4 : Int32) (μ : la_Mem) : Nat → Int32 → Option ((Int32 × la_Mem) ⊕ (Unit))
  | 0, _ => none
  | n + 1, x6 => if 30 < x6 then (some (.inr ())) else ((fX7_turnedPairs x4 x6 μ).bind (fun r34 => if r34 = 0 then (some (.inl (x6, μ))) else ((fX7_gap_L22 x4 μ n) (x6 + 1))))
set_option maxRecDepth 10000 in
theorem wX7_gap_L22 {z : LCz} {l : Launch} {Post : Int32 → la_Mem → Prop} {Φ : Nat → List (Nat × Value) → List Value → la_Mem → Prop} (C : la_C (LC z) l rmX7_gap RX7 cX7_gap 7 (some .int) Post Φ) (x4 : Int32) (μ : la_Mem)  (ex : ((Int32 × la_Mem) ⊕ (Unit))) (hret : ∀ q, ex = .inl q → Post q.1 q.2) (kx : ex = .inr () → Φ 49 [] [] μ) : ∀ (n : Nat) (x6 : Int32), fX7_gap_L22 x4 μ n x6 = some ex → Φ 22 [(0, .ref (z.2.1 0)), (4, .int x4), (6, .int x6)] [] μ := by
  intro n
  induction n with
  | zero =>
    intro _ h
    cases h
  | succ n hrec =>
    intro x6 h
    rw [fX7_gap_L22] at h
    refine la_iload C dX7_gap_22 2 rfl ?_
    refine la_bipush C (v := 30) dX7_gap_24 (by decide) ?_
    refine la_icmp_gt C (tgt := 49) dX7_gap_26 (by decide) (fun hc => ?_) (fun hc => ?_)
    · replace h := la_t hc h
      refine la_sub C [] rfl ?_
      exact kx (Option.some.inj h).symm
    · replace h := la_f hc h
      refine la_aload_n C dX7_gap_29 0 rfl ?_
      refine la_iload C dX7_gap_30 1 rfl ?_
      refine la_iload C dX7_gap_32 2 rfl ?_
      obtain ⟨r34, hr34, h⟩ := la_bd h
      refine KLCRX7_217 C [.int x4, .int x6] [] (mX7_turnedPairs x4 x6 μ r34 hr34) ⟨by decide, by decide⟩ rfl rfl (Nat.le_of_ble_eq_true rfl) dX7_gap_34 ?_
      refine la_if_ne C (tgt := 43) dX7_gap_37 (by decide) (fun hc => ?_) (fun hc => ?_)
      · replace h := la_f hc h
        refine la_iinc C (v := (x6 + 1)) dX7_gap_43 2 rfl rfl (by decide) rfl ?_
        refine la_goto C (tgt := 22) dX7_gap_46 (by decide) ?_
        refine la_sub C [1, 2, 0] rfl ?_
        exact hrec _ h
      · replace h := la_t hc h
        refine la_iload C dX7_gap_40 2 rfl ?_
        exact la_iret C rfl (hret (x6, μ) (Option.some.inj h).symm) dX7_gap_42
def fX7_gap (x1 : Int32) (x2 : Int32) (x3 : Int32) (x4 : Int32) (μ : la_Mem) : Option (Int32 × la_Mem) :=
  la_b2 (fX7_readRow x1 x2 x3 x4 μ) (fun r6 μ6 => if r6 = 0 then (la_x0 (fX7_gap_L22 x4 μ6 400 1) some (fun _ => some ((-4), μ6))) else (some (r6, μ6)))
set_option maxRecDepth 10000 in
theorem mX7_gap {z : LCz} {l : Launch} (x1 : Int32) (x2 : Int32) (x3 : Int32) (x4 : Int32) (μ : la_Mem) (r0 : Int32) (μ0 : la_Mem)  (h : fX7_gap x1 x2 x3 x4 μ = some (r0, μ0)) : la_M (LC z) l yX7_gap cX7_gap 7 (some .int) rmX7_gap [.ref (z.2.1 0), .int x1, .int x2, .int x3, .int x4] μ (fun r' μ' => r' = r0 ∧ μ' = μ0) := by
  refine la_of (own := RX7) (lv := [(0, .ref (z.2.1 0)), (1, .int x1), (2, .int x2), (3, .int x3), (4, .int x4)]) (by decide) rfl (Nat.le_of_ble_eq_true rfl) rfl (fun Φ C => ?_)
  unfold fX7_gap at h
  have hret : r0 = r0 ∧ μ0 = μ0 := ⟨rfl, rfl⟩
  refine la_aload_n C dX7_gap_0 0 rfl ?_
  refine la_iload_n C dX7_gap_1 1 rfl ?_
  refine la_iload_n C dX7_gap_2 2 rfl ?_
  refine la_iload_n C dX7_gap_3 3 rfl ?_
  refine la_iload C dX7_gap_4 4 rfl ?_
  obtain ⟨r6, μ6, hr6, h⟩ := la_b2o h
  refine KLCRX7_210 C [.int x1, .int x2, .int x3, .int x4] [] (mX7_readRow x1 x2 x3 x4 μ r6 μ6 hr6) ⟨by decide, by decide⟩ rfl rfl (Nat.le_of_ble_eq_true rfl) dX7_gap_6 ?_
  refine la_istore C dX7_gap_9 (by decide) rfl ?_
  refine la_iload C dX7_gap_11 0 rfl ?_
  refine la_if_eq C (tgt := 19) dX7_gap_13 (by decide) (fun hc => ?_) (fun hc => ?_)
  · replace h := la_t hc h
    refine la_iconst C (v := 1) dX7_gap_19 (by decide) ?_
    refine la_istore C dX7_gap_20 (by decide) rfl ?_
    rcases la_x0o h with ⟨qq22, hL22, h⟩ | ⟨hL22, h⟩
    · refine la_sub C [2, 6, 0] rfl ?_
      refine wX7_gap_L22 C _ _  _ (fun _ e => by cases e; cases h; exact hret) (fun e => by cases e) _ _ hL22
    · refine la_sub C [2, 6, 0] rfl ?_
      refine wX7_gap_L22 C _ _  _ (fun _ e => by cases e) (fun e => ?_) _ _ hL22
      cases e
      refine la_bipush C (v := (-4)) dX7_gap_49 (by decide) ?_
      exact la_iret C rfl (la_rW (P := (fun r' μ' => r' = r0 ∧ μ' = μ0)) h hret) dX7_gap_51
  · replace h := la_f hc h
    refine la_iload C dX7_gap_16 0 rfl ?_
    exact la_iret C rfl (la_rW (P := (fun r' μ' => r' = r0 ∧ μ' = μ0)) h hret) dX7_gap_18

def fX7_byteOf (x0 : Int64) (x2 : Int32) (μ : la_Mem) : Option Int32 :=
  some ((Int64.toInt32 (la_lus x0 (8 * x2))) &&& 255)
set_option maxRecDepth 10000 in
theorem mX7_byteOf {z : LCz} {l : Launch} (x0 : Int64) (x2 : Int32) (μ : la_Mem) (r0 : Int32)  (h : fX7_byteOf x0 x2 μ = some r0) : la_M (LC z) l yX7_byteOf cX7_byteOf 3 (some .int) rmX7_byteOf [.long x0, .int x2] μ (fun r' μ' => r' = r0 ∧ μ' = μ) := by
  refine la_of (own := RX7) (lv := [(0, .long x0), (2, .int x2)]) (by decide) rfl (Nat.le_of_ble_eq_true rfl) rfl (fun Φ C => ?_)
  unfold fX7_byteOf at h
  have hret : r0 = r0 ∧ μ = μ := ⟨rfl, rfl⟩
  refine la_lload_n C dX7_byteOf_0 0 rfl ?_
  refine la_bipush C (v := 8) dX7_byteOf_1 (by decide) ?_
  refine la_iload_n C dX7_byteOf_3 1 rfl ?_
  refine la_imul C dX7_byteOf_4 ?_
  refine la_lushr C dX7_byteOf_5 ?_
  refine la_l2i C dX7_byteOf_6 ?_
  refine la_sipush C (v := 255) dX7_byteOf_7 (by decide) ?_
  refine la_iand C dX7_byteOf_10 ?_
  exact la_iret C rfl (la_rR (P := (fun r' μ' => r' = r0 ∧ μ' = μ)) h hret) dX7_byteOf_11

def fX7_type_L16 (x1 : Int64) (x3 : Int32) (μ : la_Mem) : Nat → Int32 → Option ((Int32 × la_Mem) ⊕ (Unit))
  | 0, _ => none
  | n + 1, x4 => if x3 ≤ x4 then (some (.inr ())) else ((fX7_byteOf x1 x4 μ).bind (fun r25 => if r25 < 32 then (some (.inl ((-1), μ))) else (if r25 ≤ 126 then ((fX7_type_L16 x1 x3 μ n) (x4 + 1)) else (some (.inl ((-1), μ))))))
set_option maxRecDepth 10000 in
theorem wX7_type_L16 {z : LCz} {l : Launch} {Post : Int32 → la_Mem → Prop} {Φ : Nat → List (Nat × Value) → List Value → la_Mem → Prop} (C : la_C (LC z) l rmX7_type RX7 cX7_type 6 (some .int) Post Φ) (x1 : Int64) (x3 : Int32) (μ : la_Mem)  (ex : ((Int32 × la_Mem) ⊕ (Unit))) (hret : ∀ q, ex = .inl q → Post q.1 q.2) (kx : ex = .inr () → Φ 52 [(0, .ref (z.2.1 0)), (1, .long x1), (3, .int x3)] [] μ) : ∀ (n : Nat) (x4 : Int32), fX7_type_L16 x1 x3 μ n x4 = some ex → Φ 16 [(0, .ref (z.2.1 0)), (1, .long x1), (3, .int x3), (4, .int x4)] [] μ := by
  intro n
  induction n with
  | zero =>
    intro _ h
    cases h
  | succ n hrec =>
    intro x4 h
    rw [fX7_type_L16] at h
    refine la_iload C dX7_type_16 3 rfl ?_
    refine la_iload_n C dX7_type_18 2 rfl ?_
    refine la_icmp_ge C (tgt := 52) dX7_type_19 (by decide) (fun hc => ?_) (fun hc => ?_)
    · replace h := la_t hc h
      refine la_sub C [0, 1, 2] rfl ?_
      exact kx (Option.some.inj h).symm
    · replace h := la_f hc h
      refine la_lload_n C dX7_type_22 1 rfl ?_
      refine la_iload C dX7_type_23 3 rfl ?_
      obtain ⟨r25, hr25, h⟩ := la_bd h
      refine KLCRX7_225 C [.long x1, .int x4] [] (mX7_byteOf x1 x4 μ r25 hr25) ⟨by decide, by decide⟩ rfl rfl (Nat.le_of_ble_eq_true rfl) dX7_type_25 ?_
      refine la_istore C dX7_type_28 (by decide) rfl ?_
      refine la_iload C dX7_type_30 0 rfl ?_
      refine la_bipush C (v := 32) dX7_type_32 (by decide) ?_
      refine la_icmp_lt C (tgt := 44) dX7_type_34 (by decide) (fun hc => ?_) (fun hc => ?_)
      · replace h := la_t hc h
        refine la_iconst C (v := (-1)) dX7_type_44 (by decide) ?_
        exact la_iret C rfl (hret ((-1), μ) (Option.some.inj h).symm) dX7_type_45
      · replace h := la_f hc h
        refine la_iload C dX7_type_37 0 rfl ?_
        refine la_bipush C (v := 126) dX7_type_39 (by decide) ?_
        refine la_icmp_le C (tgt := 46) dX7_type_41 (by decide) (fun hc => ?_) (fun hc => ?_)
        · replace h := la_t hc h
          refine la_iinc C (v := (x4 + 1)) dX7_type_46 4 rfl rfl (by decide) rfl ?_
          refine la_goto C (tgt := 16) dX7_type_49 (by decide) ?_
          refine la_sub C [2, 3, 4, 0] rfl ?_
          exact hrec _ h
        · replace h := la_f hc h
          refine la_iconst C (v := (-1)) dX7_type_44 (by decide) ?_
          exact la_iret C rfl (hret ((-1), μ) (Option.some.inj h).symm) dX7_type_45
def fX7_type_L74 (x1 : Int64) : Nat → Int32 → la_Mem → Option (la_Mem)
  | 0, _, _ => none
  | n + 1, x4, μ => if x4 < 0 then (some μ) else ((fX7_byteOf x1 x4 μ).bind (fun r86 => (fX6_append r86 μ).bind (fun μ89 => (fX7_type_L74 x1 n) (x4 + (-1)) μ89)))
set_option maxRecDepth 10000 in
theorem wX7_type_L74 {z : LCz} {l : Launch} {Post : Int32 → la_Mem → Prop} {Φ : Nat → List (Nat × Value) → List Value → la_Mem → Prop} (C : la_C (LC z) l rmX7_type RX7 cX7_type 6 (some .int) Post Φ) (x1 : Int64)  (ex : (la_Mem)) (kx : ∀  (ν : la_Mem), ex = ν → Φ 98 [(0, .ref (z.2.1 0))] [] ν) : ∀ (n : Nat) (x4 : Int32) (μ : la_Mem), fX7_type_L74 x1 n x4 μ = some ex → Φ 74 [(0, .ref (z.2.1 0)), (1, .long x1), (4, .int x4)] [] μ := by
  intro n
  induction n with
  | zero =>
    intro _ _ h
    cases h
  | succ n hrec =>
    intro x4 μ h
    rw [fX7_type_L74] at h
    refine la_iload C dX7_type_74 2 rfl ?_
    refine la_if_lt C (tgt := 98) dX7_type_76 (by decide) (fun hc => ?_) (fun hc => ?_)
    · replace h := la_t hc h
      refine la_sub C [0] rfl ?_
      exact kx _ (Option.some.inj h).symm
    · replace h := la_f hc h
      refine la_aload_n C dX7_type_79 0 rfl ?_
      refine GLCRX7_47 C dX7_type_80 ?_
      refine la_lload_n C dX7_type_83 1 rfl ?_
      refine la_iload C dX7_type_84 2 rfl ?_
      obtain ⟨r86, hr86, h⟩ := la_bd h
      refine KLCRX7_225 C [.long x1, .int x4] [.ref (z.2.1 21)] (mX7_byteOf x1 x4 μ r86 hr86) ⟨by decide, by decide⟩ rfl rfl (Nat.le_of_ble_eq_true rfl) dX7_type_86 ?_
      obtain ⟨μ89, hr89, h⟩ := la_bd h
      refine KLCRX7_232 C [.int r86] [] (mX6_append r86 μ μ89 hr89) ⟨by decide, by decide⟩ rfl rfl (Nat.le_of_ble_eq_true rfl) dX7_type_89 ?_
      refine la_iinc C (v := (x4 + (-1))) dX7_type_92 2 rfl rfl (by decide) rfl ?_
      refine la_goto C (tgt := 74) dX7_type_95 (by decide) ?_
      refine la_sub C [1, 2, 0] rfl ?_
      exact hrec _ _ h
def fX7_type (x1 : Int64) (x3 : Int32) (μ : la_Mem) : Option (Int32 × la_Mem) :=
  if x3 < 1 then (some ((-1), μ)) else (if x3 ≤ 8 then (la_x0 (fX7_type_L16 x1 x3 μ 400 0) some (fun _ => if ((μ 21 1) + x3) ≤ 60 then (la_st ((x3 - 1)) (fun v72 => Option.bind (fX7_type_L74 x1 400 v72 μ) (fun ν74 => some ((ν74 21 1), ν74)))) else (some ((-3), μ)))) else (some ((-1), μ)))
set_option maxRecDepth 10000 in
theorem mX7_type {z : LCz} {l : Launch} (x1 : Int64) (x3 : Int32) (μ : la_Mem) (r0 : Int32) (μ0 : la_Mem)  (h : fX7_type x1 x3 μ = some (r0, μ0)) : la_M (LC z) l yX7_type cX7_type 6 (some .int) rmX7_type [.ref (z.2.1 0), .long x1, .int x3] μ (fun r' μ' => r' = r0 ∧ μ' = μ0) := by
  refine la_of (own := RX7) (lv := [(0, .ref (z.2.1 0)), (1, .long x1), (3, .int x3)]) (by decide) rfl (Nat.le_of_ble_eq_true rfl) rfl (fun Φ C => ?_)
  unfold fX7_type at h
  have hret : r0 = r0 ∧ μ0 = μ0 := ⟨rfl, rfl⟩
  refine la_iload_n C dX7_type_0 2 rfl ?_
  refine la_iconst C (v := 1) dX7_type_1 (by decide) ?_
  refine la_icmp_lt C (tgt := 11) dX7_type_2 (by decide) (fun hc => ?_) (fun hc => ?_)
  · replace h := la_t hc h
    refine la_iconst C (v := (-1)) dX7_type_11 (by decide) ?_
    exact la_iret C rfl (la_rW (P := (fun r' μ' => r' = r0 ∧ μ' = μ0)) h hret) dX7_type_12
  · replace h := la_f hc h
    refine la_iload_n C dX7_type_5 2 rfl ?_
    refine la_bipush C (v := 8) dX7_type_6 (by decide) ?_
    refine la_icmp_le C (tgt := 13) dX7_type_8 (by decide) (fun hc => ?_) (fun hc => ?_)
    · replace h := la_t hc h
      refine la_iconst C (v := 0) dX7_type_13 (by decide) ?_
      refine la_istore C dX7_type_14 (by decide) rfl ?_
      rcases la_x0o h with ⟨qq16, hL16, h⟩ | ⟨hL16, h⟩
      · refine la_sub C [1, 2, 3, 0] rfl ?_
        refine wX7_type_L16 C _ _ _  _ (fun _ e => by cases e; cases h; exact hret) (fun e => by cases e) _ _ hL16
      · refine la_sub C [1, 2, 3, 0] rfl ?_
        refine wX7_type_L16 C _ _ _  _ (fun _ e => by cases e) (fun e => ?_) _ _ hL16
        cases e
        refine la_aload_n C dX7_type_52 0 rfl ?_
        refine GLCRX7_47 C dX7_type_53 ?_
        refine GLCRX7_229 C dX7_type_56 ?_
        refine la_iload_n C dX7_type_59 2 rfl ?_
        refine la_iadd C dX7_type_60 ?_
        refine la_bipush C (v := 60) dX7_type_61 (by decide) ?_
        refine la_icmp_le C (tgt := 69) dX7_type_63 (by decide) (fun hc => ?_) (fun hc => ?_)
        · replace h := la_t hc h
          refine la_iload_n C dX7_type_69 2 rfl ?_
          refine la_iconst C (v := 1) dX7_type_70 (by decide) ?_
          refine la_isub C dX7_type_71 ?_
          obtain ⟨v72, ev72, h⟩ := la_so h
          refine la_nm C ev72 ?_
          refine la_istore C dX7_type_72 (by decide) rfl ?_
          obtain ⟨ν74, hL74, h⟩ := la_bd h
          refine la_sub C [1, 2, 0] rfl ?_
          refine wX7_type_L74 C _  _ (fun _ e => ?_) _ _ _ hL74
          cases e
          refine la_aload_n C dX7_type_98 0 rfl ?_
          refine GLCRX7_47 C dX7_type_99 ?_
          refine GLCRX7_229 C dX7_type_102 ?_
          exact la_iret C rfl (la_rW (P := (fun r' μ' => r' = r0 ∧ μ' = μ0)) h hret) dX7_type_105
        · replace h := la_f hc h
          refine la_bipush C (v := (-3)) dX7_type_66 (by decide) ?_
          exact la_iret C rfl (la_rW (P := (fun r' μ' => r' = r0 ∧ μ' = μ0)) h hret) dX7_type_68
    · replace h := la_f hc h
      refine la_iconst C (v := (-1)) dX7_type_11 (by decide) ?_
      exact la_iret C rfl (la_rW (P := (fun r' μ' => r' = r0 ∧ μ' = μ0)) h hret) dX7_type_12

def fX7_playTape_J50 (rec : Int32 → la_Mem → Option ((Int32 × la_Mem) ⊕ (la_Mem))) (x1 : Int32) (x2 : Int32) (x3 : Int32) (s0 : Int32) (μ : la_Mem) : Option ((Int32 × la_Mem) ⊕ (la_Mem)) :=
  if 0 ≤ s0 then (rec (x3 + 1) μ) else (some (.inl (x3, μ)))
set_option maxRecDepth 10000 in
theorem wX7_playTape_J50 {z : LCz} {l : Launch} {Post : Int32 → la_Mem → Prop} {Φ : Nat → List (Nat × Value) → List Value → la_Mem → Prop} (C : la_C (LC z) l rmX7_playTape RX7 cX7_playTape 6 (some .int) Post Φ) (rec : Int32 → la_Mem → Option ((Int32 × la_Mem) ⊕ (la_Mem))) (x1 : Int32) (x2 : Int32) (x3 : Int32) (s0 : Int32) (μ : la_Mem)  (ex : ((Int32 × la_Mem) ⊕ (la_Mem))) (hrec : ∀ (y3 : Int32) (ν : la_Mem), rec y3 ν = some ex → Φ 2 [(0, .ref (z.2.1 0)), (1, .int x1), (2, .int x2), (3, .int y3)] [] ν) (hret : ∀ q, ex = .inl q → Post q.1 q.2) (kx : ∀  (ν : la_Mem), ex = .inr ν → Φ 65 [(1, .int x1)] [] ν) (h : fX7_playTape_J50 rec x1 x2 x3 s0 μ = some ex) : Φ 50 [(0, .ref (z.2.1 0)), (1, .int x1), (2, .int x2), (3, .int x3)] [.int s0] μ := by
  unfold fX7_playTape_J50 at h
  refine la_istore C dX7_playTape_50 (by decide) rfl ?_
  refine la_iload C dX7_playTape_52 0 rfl ?_
  refine la_if_ge C (tgt := 59) dX7_playTape_54 (by decide) (fun hc => ?_) (fun hc => ?_)
  · replace h := la_t hc h
    refine la_iinc C (v := (x3 + 1)) dX7_playTape_59 4 rfl rfl (by decide) rfl ?_
    refine la_goto C (tgt := 2) dX7_playTape_62 (by decide) ?_
    refine la_sub C [2, 3, 4, 0] rfl ?_
    exact hrec _ _ h
  · replace h := la_f hc h
    refine la_iload_n C dX7_playTape_57 4 rfl ?_
    exact la_iret C rfl (hret (x3, μ) (Option.some.inj h).symm) dX7_playTape_58
def fX7_playTape_J16 (rec : Int32 → la_Mem → Option ((Int32 × la_Mem) ⊕ (la_Mem))) (x1 : Int32) (x2 : Int32) (x3 : Int32) (μ : la_Mem) : Option ((Int32 × la_Mem) ⊕ (la_Mem)) :=
  la_if (la_ix x3 60) (la_st ((μ 22 (Int32.toNatClampNeg x3))) (fun v25 => if v25 = 32 then (la_b2 (fX7_band  μ) (fun r35 μ35 => fX7_playTape_J50 rec x1 x2 x3 r35 μ35)) else (la_b2 (fX7_key (v25 - 97) μ) (fun r47 μ47 => fX7_playTape_J50 rec x1 x2 x3 r47 μ47))))
set_option maxRecDepth 10000 in
theorem wX7_playTape_J16 {z : LCz} {l : Launch} {Post : Int32 → la_Mem → Prop} {Φ : Nat → List (Nat × Value) → List Value → la_Mem → Prop} (C : la_C (LC z) l rmX7_playTape RX7 cX7_playTape 6 (some .int) Post Φ) (rec : Int32 → la_Mem → Option ((Int32 × la_Mem) ⊕ (la_Mem))) (x1 : Int32) (x2 : Int32) (x3 : Int32) (μ : la_Mem)  (ex : ((Int32 × la_Mem) ⊕ (la_Mem))) (hrec : ∀ (y3 : Int32) (ν : la_Mem), rec y3 ν = some ex → Φ 2 [(0, .ref (z.2.1 0)), (1, .int x1), (2, .int x2), (3, .int y3)] [] ν) (hret : ∀ q, ex = .inl q → Post q.1 q.2) (kx : ∀  (ν : la_Mem), ex = .inr ν → Φ 65 [(1, .int x1)] [] ν) (h : fX7_playTape_J16 rec x1 x2 x3 μ = some ex) : Φ 16 [(0, .ref (z.2.1 0)), (1, .int x1), (2, .int x2), (3, .int x3)] [] μ := by
  unfold fX7_playTape_J16 at h
  refine la_aload_n C dX7_playTape_16 0 rfl ?_
  refine GLCRX7_47 C dX7_playTape_17 ?_
  refine GLCRX7_301 C dX7_playTape_20 ?_
  refine la_iload_n C dX7_playTape_23 3 rfl ?_
  obtain ⟨hi24, h⟩ := la_go h
  refine ALC22 C _ rfl hi24 dX7_playTape_24 ?_
  obtain ⟨v25, ev25, h⟩ := la_so h
  refine la_nm C ev25 ?_
  refine la_istore C dX7_playTape_25 (by decide) rfl ?_
  refine la_iload C dX7_playTape_27 0 rfl ?_
  refine la_bipush C (v := 32) dX7_playTape_29 (by decide) ?_
  refine la_icmp_ne C (tgt := 41) dX7_playTape_31 (by decide) (fun hc => ?_) (fun hc => ?_)
  · replace h := la_f hc h
    refine la_aload_n C dX7_playTape_41 1 rfl ?_
    refine la_iload C dX7_playTape_42 0 rfl ?_
    refine la_bipush C (v := 97) dX7_playTape_44 (by decide) ?_
    refine la_isub C dX7_playTape_46 ?_
    obtain ⟨r47, μ47, hr47, h⟩ := la_b2o h
    refine KLCRX7_306 C [.int (v25 - 97)] [] (mX7_key (v25 - 97) μ r47 μ47 hr47) ⟨by decide, by decide⟩ rfl rfl (Nat.le_of_ble_eq_true rfl) dX7_playTape_47 ?_
    refine la_sub C [1, 2, 3, 4] rfl ?_
    exact wX7_playTape_J50 C rec _ _ _ _ _  _ hrec hret kx h
  · replace h := la_t hc h
    refine la_aload_n C dX7_playTape_34 1 rfl ?_
    obtain ⟨r35, μ35, hr35, h⟩ := la_b2o h
    refine KLCRX7_303 C [] [] (mX7_band  μ r35 μ35 hr35) ⟨by decide, by decide⟩ rfl rfl (Nat.le_of_ble_eq_true rfl) dX7_playTape_35 ?_
    refine la_goto C (tgt := 50) dX7_playTape_38 (by decide) ?_
    refine la_sub C [1, 2, 3, 4] rfl ?_
    exact wX7_playTape_J50 C rec _ _ _ _ _  _ hrec hret kx h
def fX7_playTape_L2 (x1 : Int32) (x2 : Int32) : Nat → Int32 → la_Mem → Option ((Int32 × la_Mem) ⊕ (la_Mem))
  | 0, _, _ => none
  | n + 1, x3, μ => if x1 ≤ x3 then (some (.inr μ)) else (if x3 ≤ 0 then (fX7_playTape_J16 (fX7_playTape_L2 x1 x2 n) x1 x2 x3 μ) else ((fX7_goOn x2 μ).bind (fun μ13 => fX7_playTape_J16 (fX7_playTape_L2 x1 x2 n) x1 x2 x3 μ13)))
set_option maxRecDepth 10000 in
theorem wX7_playTape_L2 {z : LCz} {l : Launch} {Post : Int32 → la_Mem → Prop} {Φ : Nat → List (Nat × Value) → List Value → la_Mem → Prop} (C : la_C (LC z) l rmX7_playTape RX7 cX7_playTape 6 (some .int) Post Φ) (x1 : Int32) (x2 : Int32)  (ex : ((Int32 × la_Mem) ⊕ (la_Mem))) (hret : ∀ q, ex = .inl q → Post q.1 q.2) (kx : ∀  (ν : la_Mem), ex = .inr ν → Φ 65 [(1, .int x1)] [] ν) : ∀ (n : Nat) (x3 : Int32) (μ : la_Mem), fX7_playTape_L2 x1 x2 n x3 μ = some ex → Φ 2 [(0, .ref (z.2.1 0)), (1, .int x1), (2, .int x2), (3, .int x3)] [] μ := by
  intro n
  induction n with
  | zero =>
    intro _ _ h
    cases h
  | succ n hrec =>
    intro x3 μ h
    rw [fX7_playTape_L2] at h
    refine la_iload_n C dX7_playTape_2 3 rfl ?_
    refine la_iload_n C dX7_playTape_3 1 rfl ?_
    refine la_icmp_ge C (tgt := 65) dX7_playTape_4 (by decide) (fun hc => ?_) (fun hc => ?_)
    · replace h := la_t hc h
      refine la_sub C [1] rfl ?_
      exact kx _ (Option.some.inj h).symm
    · replace h := la_f hc h
      refine la_iload_n C dX7_playTape_7 3 rfl ?_
      refine la_if_le C (tgt := 16) dX7_playTape_8 (by decide) (fun hc => ?_) (fun hc => ?_)
      · replace h := la_t hc h
        refine la_sub C [0, 1, 2, 3] rfl ?_
        exact wX7_playTape_J16 C (fX7_playTape_L2 x1 x2 n) _ _ _ _  _ hrec hret kx h
      · replace h := la_f hc h
        refine la_aload_n C dX7_playTape_11 0 rfl ?_
        refine la_iload_n C dX7_playTape_12 2 rfl ?_
        obtain ⟨μ13, hr13, h⟩ := la_bd h
        refine KLCRX7_159 C [.int x2] [] (mX7_goOn x2 μ μ13 hr13) ⟨by decide, by decide⟩ rfl rfl (Nat.le_of_ble_eq_true rfl) dX7_playTape_13 ?_
        refine la_sub C [0, 1, 2, 3] rfl ?_
        exact wX7_playTape_J16 C (fX7_playTape_L2 x1 x2 n) _ _ _ _  _ hrec hret kx h
def fX7_playTape (x1 : Int32) (x2 : Int32) (μ : la_Mem) : Option (Int32 × la_Mem) :=
  la_x1 (fX7_playTape_L2 x1 x2 400 0 μ) some (fun ν2 => some (x1, ν2))
set_option maxRecDepth 10000 in
theorem mX7_playTape {z : LCz} {l : Launch} (x1 : Int32) (x2 : Int32) (μ : la_Mem) (r0 : Int32) (μ0 : la_Mem)  (h : fX7_playTape x1 x2 μ = some (r0, μ0)) : la_M (LC z) l yX7_playTape cX7_playTape 6 (some .int) rmX7_playTape [.ref (z.2.1 0), .int x1, .int x2] μ (fun r' μ' => r' = r0 ∧ μ' = μ0) := by
  refine la_of (own := RX7) (lv := [(0, .ref (z.2.1 0)), (1, .int x1), (2, .int x2)]) (by decide) rfl (Nat.le_of_ble_eq_true rfl) rfl (fun Φ C => ?_)
  unfold fX7_playTape at h
  have hret : r0 = r0 ∧ μ0 = μ0 := ⟨rfl, rfl⟩
  refine la_iconst C (v := 0) dX7_playTape_0 (by decide) ?_
  refine la_istore_n C dX7_playTape_1 (by decide) rfl ?_
  rcases la_x1o h with ⟨qq2, hL2, h⟩ | ⟨ν2, hL2, h⟩
  · refine la_sub C [1, 2, 3, 0] rfl ?_
    refine wX7_playTape_L2 C _ _  _ (fun _ e => by cases e; cases h; exact hret) (fun _ e => by cases e) _ _ _ hL2
  · refine la_sub C [1, 2, 3, 0] rfl ?_
    refine wX7_playTape_L2 C _ _  _ (fun _ e => by cases e) (fun _ e => ?_) _ _ _ hL2
    cases e
    refine la_iload_n C dX7_playTape_65 0 rfl ?_
    exact la_iret C rfl (la_rW (P := (fun r' μ' => r' = r0 ∧ μ' = μ0)) h hret) dX7_playTape_66

def fX7_plays_J42 (x3 : Int32) (μ : la_Mem) : Option (Int32 × la_Mem) :=
  some (((-20) - x3), μ)
set_option maxRecDepth 10000 in
theorem wX7_plays_J42 {z : LCz} {l : Launch} {Post : Int32 → la_Mem → Prop} {Φ : Nat → List (Nat × Value) → List Value → la_Mem → Prop} (C : la_C (LC z) l rmX7_plays RX7 cX7_plays 4 (some .int) Post Φ) (x3 : Int32) (μ : la_Mem)  (ex : (Int32 × la_Mem)) (hret : Post ex.1 ex.2) (h : fX7_plays_J42 x3 μ = some ex) : Φ 42 [(3, .int x3)] [] μ := by
  unfold fX7_plays_J42 at h
  refine la_bipush C (v := (-20)) dX7_plays_42 (by decide) ?_
  refine la_iload_n C dX7_plays_44 0 rfl ?_
  refine la_isub C dX7_plays_45 ?_
  exact la_iret C rfl (la_rW (P := Post) h hret) dX7_plays_46
def fX7_plays (x1 : Int32) (μ : la_Mem) : Option (Int32 × la_Mem) :=
  (fX7_isGap x1 μ).bind (fun r1 => if r1 = 0 then (some ((-1), μ)) else (la_st ((μ 21 1)) (fun v16 => (fX6_firstUnplayable  μ).bind (fun r21 => la_st (la_ms μ 21 1 0) (fun μ30 => if v16 = 0 then (fX7_plays_J42 r21 μ30) else (if v16 ≤ r21 then (if ((μ30 0 11) + ((v16 - 1) * x1)) ≤ 99999 then (la_b2 (fX7_playTape v16 x1 μ30) (fun r68 μ68 => some (r68, μ68))) else (some ((-3), μ30))) else (fX7_plays_J42 r21 μ30)))))))
set_option maxRecDepth 10000 in
theorem mX7_plays {z : LCz} {l : Launch} (x1 : Int32) (μ : la_Mem) (r0 : Int32) (μ0 : la_Mem)  (h : fX7_plays x1 μ = some (r0, μ0)) : la_M (LC z) l yX7_plays cX7_plays 4 (some .int) rmX7_plays [.ref (z.2.1 0), .int x1] μ (fun r' μ' => r' = r0 ∧ μ' = μ0) := by
  refine la_of (own := RX7) (lv := [(0, .ref (z.2.1 0)), (1, .int x1)]) (by decide) rfl (Nat.le_of_ble_eq_true rfl) rfl (fun Φ C => ?_)
  unfold fX7_plays at h
  have hret : r0 = r0 ∧ μ0 = μ0 := ⟨rfl, rfl⟩
  refine la_iload_n C dX7_plays_0 1 rfl ?_
  obtain ⟨r1, hr1, h⟩ := la_bd h
  refine KLCRX7_207 C [.int x1] [] (mX7_isGap x1 μ r1 hr1) ⟨by decide, by decide⟩ rfl rfl (Nat.le_of_ble_eq_true rfl) dX7_plays_1 ?_
  refine la_if_ne C (tgt := 9) dX7_plays_4 (by decide) (fun hc => ?_) (fun hc => ?_)
  · replace h := la_f hc h
    refine la_aload_n C dX7_plays_9 0 rfl ?_
    refine GLCRX7_47 C dX7_plays_10 ?_
    refine GLCRX7_229 C dX7_plays_13 ?_
    obtain ⟨v16, ev16, h⟩ := la_so h
    refine la_nm C ev16 ?_
    refine la_istore_n C dX7_plays_16 (by decide) rfl ?_
    refine la_aload_n C dX7_plays_17 1 rfl ?_
    refine GLCRX7_47 C dX7_plays_18 ?_
    obtain ⟨r21, hr21, h⟩ := la_bd h
    refine KLCRX7_235 C [] [] (mX6_firstUnplayable  μ r21 hr21) ⟨by decide, by decide⟩ rfl rfl (Nat.le_of_ble_eq_true rfl) dX7_plays_21 ?_
    refine la_istore_n C dX7_plays_24 (by decide) rfl ?_
    refine la_aload_n C dX7_plays_25 2 rfl ?_
    refine GLCRX7_47 C dX7_plays_26 ?_
    refine la_iconst C (v := 0) dX7_plays_29 (by decide) ?_
    obtain ⟨μ30, eμ30, h⟩ := la_so h
    refine SLCRX7_229 C eμ30 dX7_plays_30 ?_
    refine la_iload_n C dX7_plays_33 1 rfl ?_
    refine la_if_eq C (tgt := 42) dX7_plays_34 (by decide) (fun hc => ?_) (fun hc => ?_)
    · replace h := la_t hc h
      refine la_sub C [0] rfl ?_
      exact wX7_plays_J42 C _ _  _ hret h
    · replace h := la_f hc h
      refine la_iload_n C dX7_plays_37 0 rfl ?_
      refine la_iload_n C dX7_plays_38 1 rfl ?_
      refine la_icmp_ge C (tgt := 47) dX7_plays_39 (by decide) (fun hc => ?_) (fun hc => ?_)
      · replace h := la_t hc h
        refine la_aload_n C dX7_plays_47 2 rfl ?_
        refine GLCRX7_70 C dX7_plays_48 ?_
        refine la_iload_n C dX7_plays_51 1 rfl ?_
        refine la_iconst C (v := 1) dX7_plays_52 (by decide) ?_
        refine la_isub C dX7_plays_53 ?_
        refine la_iload_n C dX7_plays_54 3 rfl ?_
        refine la_imul C dX7_plays_55 ?_
        refine la_iadd C dX7_plays_56 ?_
        refine la_ldc C (v := 99999) wd_407 dX7_plays_57 ?_
        refine la_icmp_le C (tgt := 65) dX7_plays_59 (by decide) (fun hc => ?_) (fun hc => ?_)
        · replace h := la_t hc h
          refine la_aload_n C dX7_plays_65 2 rfl ?_
          refine la_iload_n C dX7_plays_66 1 rfl ?_
          refine la_iload_n C dX7_plays_67 3 rfl ?_
          obtain ⟨r68, μ68, hr68, h⟩ := la_b2o h
          refine KLCRX7_238 C [.int v16, .int x1] [] (mX7_playTape v16 x1 μ30 r68 μ68 hr68) ⟨by decide, by decide⟩ rfl rfl (Nat.le_of_ble_eq_true rfl) dX7_plays_68 ?_
          exact la_iret C rfl (la_rW (P := (fun r' μ' => r' = r0 ∧ μ' = μ0)) h hret) dX7_plays_71
        · replace h := la_f hc h
          refine la_bipush C (v := (-3)) dX7_plays_62 (by decide) ?_
          exact la_iret C rfl (la_rW (P := (fun r' μ' => r' = r0 ∧ μ' = μ0)) h hret) dX7_plays_64
      · replace h := la_f hc h
        refine la_sub C [0] rfl ?_
        exact wX7_plays_J42 C _ _  _ hret h
  · replace h := la_t hc h
    refine la_iconst C (v := (-1)) dX7_plays_7 (by decide) ?_
    exact la_iret C rfl (la_rW (P := (fun r' μ' => r' = r0 ∧ μ' = μ0)) h hret) dX7_plays_8

def fX7_risk (x1 : Int32) (μ : la_Mem) : Option Int32 :=
  (fX7_isLetter x1 μ).bind (fun r1 => if r1 = 0 then (some (-1)) else ((fX0_teethAtRisk x1 μ).bind (fun r12 => some r12)))
set_option maxRecDepth 10000 in
theorem mX7_risk {z : LCz} {l : Launch} (x1 : Int32) (μ : la_Mem) (r0 : Int32)  (h : fX7_risk x1 μ = some r0) : la_M (LC z) l yX7_risk cX7_risk 2 (some .int) rmX7_risk [.ref (z.2.1 0), .int x1] μ (fun r' μ' => r' = r0 ∧ μ' = μ) := by
  refine la_of (own := RX7) (lv := [(0, .ref (z.2.1 0)), (1, .int x1)]) (by decide) rfl (Nat.le_of_ble_eq_true rfl) rfl (fun Φ C => ?_)
  unfold fX7_risk at h
  have hret : r0 = r0 ∧ μ = μ := ⟨rfl, rfl⟩
  refine la_iload_n C dX7_risk_0 1 rfl ?_
  obtain ⟨r1, hr1, h⟩ := la_bd h
  refine KLCRX7_75 C [.int x1] [] (mX7_isLetter x1 μ r1 hr1) ⟨by decide, by decide⟩ rfl rfl (Nat.le_of_ble_eq_true rfl) dX7_risk_1 ?_
  refine la_if_eq C (tgt := 18) dX7_risk_4 (by decide) (fun hc => ?_) (fun hc => ?_)
  · replace h := la_t hc h
    refine la_iconst C (v := (-1)) dX7_risk_18 (by decide) ?_
    exact la_iret C rfl (la_rR (P := (fun r' μ' => r' = r0 ∧ μ' = μ)) h hret) dX7_risk_19
  · replace h := la_f hc h
    refine la_aload_n C dX7_risk_7 0 rfl ?_
    refine GLCRX7_12 C dX7_risk_8 ?_
    refine la_iload_n C dX7_risk_11 1 rfl ?_
    obtain ⟨r12, hr12, h⟩ := la_bd h
    refine KLCRX7_241 C [.int x1] [] (mX0_teethAtRisk x1 μ r12 hr12) ⟨by decide, by decide⟩ rfl rfl (Nat.le_of_ble_eq_true rfl) dX7_risk_12 ?_
    refine la_goto C (tgt := 19) dX7_risk_15 (by decide) ?_
    exact la_iret C rfl (la_rR (P := (fun r' μ' => r' = r0 ∧ μ' = μ)) h hret) dX7_risk_19

def fX7_better (x1 : Int32) (μ : la_Mem) : Option (Int32 × la_Mem) :=
  (fX7_isLetter x1 μ).bind (fun r1 => if r1 = 0 then (some ((-1), μ)) else (la_b2 (fX0_betterTeeth x1 μ) (fun r12 μ12 => some (r12, μ12))))
set_option maxRecDepth 10000 in
theorem mX7_better {z : LCz} {l : Launch} (x1 : Int32) (μ : la_Mem) (r0 : Int32) (μ0 : la_Mem)  (h : fX7_better x1 μ = some (r0, μ0)) : la_M (LC z) l yX7_better cX7_better 2 (some .int) rmX7_better [.ref (z.2.1 0), .int x1] μ (fun r' μ' => r' = r0 ∧ μ' = μ0) := by
  refine la_of (own := RX7) (lv := [(0, .ref (z.2.1 0)), (1, .int x1)]) (by decide) rfl (Nat.le_of_ble_eq_true rfl) rfl (fun Φ C => ?_)
  unfold fX7_better at h
  have hret : r0 = r0 ∧ μ0 = μ0 := ⟨rfl, rfl⟩
  refine la_iload_n C dX7_better_0 1 rfl ?_
  obtain ⟨r1, hr1, h⟩ := la_bd h
  refine KLCRX7_75 C [.int x1] [] (mX7_isLetter x1 μ r1 hr1) ⟨by decide, by decide⟩ rfl rfl (Nat.le_of_ble_eq_true rfl) dX7_better_1 ?_
  refine la_if_eq C (tgt := 18) dX7_better_4 (by decide) (fun hc => ?_) (fun hc => ?_)
  · replace h := la_t hc h
    refine la_iconst C (v := (-1)) dX7_better_18 (by decide) ?_
    exact la_iret C rfl (la_rW (P := (fun r' μ' => r' = r0 ∧ μ' = μ0)) h hret) dX7_better_19
  · replace h := la_f hc h
    refine la_aload_n C dX7_better_7 0 rfl ?_
    refine GLCRX7_12 C dX7_better_8 ?_
    refine la_iload_n C dX7_better_11 1 rfl ?_
    obtain ⟨r12, μ12, hr12, h⟩ := la_b2o h
    refine KLCRX7_244 C [.int x1] [] (mX0_betterTeeth x1 μ r12 μ12 hr12) ⟨by decide, by decide⟩ rfl rfl (Nat.le_of_ble_eq_true rfl) dX7_better_12 ?_
    refine la_goto C (tgt := 19) dX7_better_15 (by decide) ?_
    exact la_iret C rfl (la_rW (P := (fun r' μ' => r' = r0 ∧ μ' = μ0)) h hret) dX7_better_19

def fX7_sheet (x1 : Int32) (x2 : Int32) (x3 : Int32) (μ : la_Mem) : Option (Int32 × la_Mem) :=
  (fX7_isSheet x1 μ).bind (fun r1 => if r1 = 0 then (some ((-1), μ)) else ((fX7_isLane x2 μ).bind (fun r8 => if r8 = 0 then (some ((-1), μ)) else (if x3 ≤ 40 then (if 0 ≤ x3 then (la_if (la_ix x1 4) ((fX3_hold (Int32.toNatClampNeg x1) x2 x3 μ).bind (fun μ37 => some (x3, μ37)))) else (some ((-14), μ))) else (some ((-1), μ))))))
set_option maxRecDepth 10000 in
theorem mX7_sheet {z : LCz} {l : Launch} (x1 : Int32) (x2 : Int32) (x3 : Int32) (μ : la_Mem) (r0 : Int32) (μ0 : la_Mem)  (h : fX7_sheet x1 x2 x3 μ = some (r0, μ0)) : la_M (LC z) l yX7_sheet cX7_sheet 4 (some .int) rmX7_sheet [.ref (z.2.1 0), .int x1, .int x2, .int x3] μ (fun r' μ' => r' = r0 ∧ μ' = μ0) := by
  refine la_of (own := RX7) (lv := [(0, .ref (z.2.1 0)), (1, .int x1), (2, .int x2), (3, .int x3)]) (by decide) rfl (Nat.le_of_ble_eq_true rfl) rfl (fun Φ C => ?_)
  unfold fX7_sheet at h
  have hret : r0 = r0 ∧ μ0 = μ0 := ⟨rfl, rfl⟩
  refine la_iload_n C dX7_sheet_0 1 rfl ?_
  obtain ⟨r1, hr1, h⟩ := la_bd h
  refine KLCRX7_247 C [.int x1] [] (mX7_isSheet x1 μ r1 hr1) ⟨by decide, by decide⟩ rfl rfl (Nat.le_of_ble_eq_true rfl) dX7_sheet_1 ?_
  refine la_if_eq C (tgt := 20) dX7_sheet_4 (by decide) (fun hc => ?_) (fun hc => ?_)
  · replace h := la_t hc h
    refine la_iconst C (v := (-1)) dX7_sheet_20 (by decide) ?_
    exact la_iret C rfl (la_rW (P := (fun r' μ' => r' = r0 ∧ μ' = μ0)) h hret) dX7_sheet_21
  · replace h := la_f hc h
    refine la_iload_n C dX7_sheet_7 2 rfl ?_
    obtain ⟨r8, hr8, h⟩ := la_bd h
    refine KLCRX7_250 C [.int x2] [] (mX7_isLane x2 μ r8 hr8) ⟨by decide, by decide⟩ rfl rfl (Nat.le_of_ble_eq_true rfl) dX7_sheet_8 ?_
    refine la_if_eq C (tgt := 20) dX7_sheet_11 (by decide) (fun hc => ?_) (fun hc => ?_)
    · replace h := la_t hc h
      refine la_iconst C (v := (-1)) dX7_sheet_20 (by decide) ?_
      exact la_iret C rfl (la_rW (P := (fun r' μ' => r' = r0 ∧ μ' = μ0)) h hret) dX7_sheet_21
    · replace h := la_f hc h
      refine la_iload_n C dX7_sheet_14 3 rfl ?_
      refine la_bipush C (v := 40) dX7_sheet_15 (by decide) ?_
      refine la_icmp_le C (tgt := 22) dX7_sheet_17 (by decide) (fun hc => ?_) (fun hc => ?_)
      · replace h := la_t hc h
        refine la_iload_n C dX7_sheet_22 3 rfl ?_
        refine la_if_ge C (tgt := 29) dX7_sheet_23 (by decide) (fun hc => ?_) (fun hc => ?_)
        · replace h := la_t hc h
          refine la_aload_n C dX7_sheet_29 0 rfl ?_
          refine GLCRX7_53 C dX7_sheet_30 ?_
          refine la_iload_n C dX7_sheet_33 1 rfl ?_
          obtain ⟨hi34, h⟩ := la_go h
          refine RLC23 C hi34 dX7_sheet_34 ?_
          refine la_iload_n C dX7_sheet_35 2 rfl ?_
          refine la_iload_n C dX7_sheet_36 3 rfl ?_
          obtain ⟨μ37, hr37, h⟩ := la_bd h
          refine KLCRX7_253 C (la_ix_lt hi34) [.int x2, .int x3] [] (mX3_hold (Int32.toNatClampNeg x1) x2 x3 μ μ37 (la_ix_lt hi34) hr37) ⟨by decide, by decide⟩ rfl rfl (Nat.le_of_ble_eq_true rfl) dX7_sheet_37 ?_
          refine la_iload_n C dX7_sheet_40 3 rfl ?_
          exact la_iret C rfl (la_rW (P := (fun r' μ' => r' = r0 ∧ μ' = μ0)) h hret) dX7_sheet_41
        · replace h := la_f hc h
          refine la_bipush C (v := (-14)) dX7_sheet_26 (by decide) ?_
          exact la_iret C rfl (la_rW (P := (fun r' μ' => r' = r0 ∧ μ' = μ0)) h hret) dX7_sheet_28
      · replace h := la_f hc h
        refine la_iconst C (v := (-1)) dX7_sheet_20 (by decide) ?_
        exact la_iret C rfl (la_rW (P := (fun r' μ' => r' = r0 ∧ μ' = μ0)) h hret) dX7_sheet_21

def fX7_drop (x1 : Int32) (μ : la_Mem) : Option (Int32 × la_Mem) :=
  (fX7_isSheet x1 μ).bind (fun r1 => if r1 = 0 then (some ((-1), μ)) else (la_if (la_ix x1 4) (if (μ (28 + (Int32.toNatClampNeg x1)) 1) = 0 then (some ((-11), μ)) else (la_if (la_ix x1 4) (la_st (la_ms μ (28 + (Int32.toNatClampNeg x1)) 1 0) (fun μ31 => la_if (la_ix x1 4) (some ((μ31 (28 + (Int32.toNatClampNeg x1)) 3), μ31))))))))
set_option maxRecDepth 10000 in
theorem mX7_drop {z : LCz} {l : Launch} (x1 : Int32) (μ : la_Mem) (r0 : Int32) (μ0 : la_Mem)  (h : fX7_drop x1 μ = some (r0, μ0)) : la_M (LC z) l yX7_drop cX7_drop 2 (some .int) rmX7_drop [.ref (z.2.1 0), .int x1] μ (fun r' μ' => r' = r0 ∧ μ' = μ0) := by
  refine la_of (own := RX7) (lv := [(0, .ref (z.2.1 0)), (1, .int x1)]) (by decide) rfl (Nat.le_of_ble_eq_true rfl) rfl (fun Φ C => ?_)
  unfold fX7_drop at h
  have hret : r0 = r0 ∧ μ0 = μ0 := ⟨rfl, rfl⟩
  refine la_iload_n C dX7_drop_0 1 rfl ?_
  obtain ⟨r1, hr1, h⟩ := la_bd h
  refine KLCRX7_247 C [.int x1] [] (mX7_isSheet x1 μ r1 hr1) ⟨by decide, by decide⟩ rfl rfl (Nat.le_of_ble_eq_true rfl) dX7_drop_1 ?_
  refine la_if_ne C (tgt := 9) dX7_drop_4 (by decide) (fun hc => ?_) (fun hc => ?_)
  · replace h := la_f hc h
    refine la_aload_n C dX7_drop_9 0 rfl ?_
    refine GLCRX7_53 C dX7_drop_10 ?_
    refine la_iload_n C dX7_drop_13 1 rfl ?_
    obtain ⟨hi14, h⟩ := la_go h
    refine RLC23 C hi14 dX7_drop_14 ?_
    refine GLCRX7_256 C (la_ix_lt hi14) dX7_drop_15 ?_
    refine la_if_ne C (tgt := 24) dX7_drop_18 (by decide) (fun hc => ?_) (fun hc => ?_)
    · replace h := la_f hc h
      refine la_aload_n C dX7_drop_24 0 rfl ?_
      refine GLCRX7_53 C dX7_drop_25 ?_
      refine la_iload_n C dX7_drop_28 1 rfl ?_
      obtain ⟨hi29, h⟩ := la_go h
      refine RLC23 C hi29 dX7_drop_29 ?_
      refine la_iconst C (v := 0) dX7_drop_30 (by decide) ?_
      obtain ⟨μ31, eμ31, h⟩ := la_so h
      refine SLCRX7_256 C (la_ix_lt hi29) eμ31 rfl dX7_drop_31 ?_
      refine la_aload_n C dX7_drop_34 0 rfl ?_
      refine GLCRX7_53 C dX7_drop_35 ?_
      refine la_iload_n C dX7_drop_38 1 rfl ?_
      obtain ⟨hi39, h⟩ := la_go h
      refine RLC23 C hi39 dX7_drop_39 ?_
      refine GLCRX7_260 C (la_ix_lt hi39) dX7_drop_40 ?_
      exact la_iret C rfl (la_rW (P := (fun r' μ' => r' = r0 ∧ μ' = μ0)) h hret) dX7_drop_43
    · replace h := la_t hc h
      refine la_bipush C (v := (-11)) dX7_drop_21 (by decide) ?_
      exact la_iret C rfl (la_rW (P := (fun r' μ' => r' = r0 ∧ μ' = μ0)) h hret) dX7_drop_23
  · replace h := la_t hc h
    refine la_iconst C (v := (-1)) dX7_drop_7 (by decide) ?_
    exact la_iret C rfl (la_rW (P := (fun r' μ' => r' = r0 ∧ μ' = μ0)) h hret) dX7_drop_8

def fX7_lowestBits (x0 : Int32) (x1 : Int32) (μ : la_Mem) : Option Int32 :=
  if x0 = 0 then (some (Int8.toInt32 (Int32.toInt8 x1))) else (if x0 = 1 then (some (Int16.toInt32 (Int32.toInt16 x1))) else (some x1))
set_option maxRecDepth 10000 in
theorem mX7_lowestBits {z : LCz} {l : Launch} (x0 : Int32) (x1 : Int32) (μ : la_Mem) (r0 : Int32)  (h : fX7_lowestBits x0 x1 μ = some r0) : la_M (LC z) l yX7_lowestBits cX7_lowestBits 2 (some .int) rmX7_lowestBits [.int x0, .int x1] μ (fun r' μ' => r' = r0 ∧ μ' = μ) := by
  refine la_of (own := RX7) (lv := [(0, .int x0), (1, .int x1)]) (by decide) rfl (Nat.le_of_ble_eq_true rfl) rfl (fun Φ C => ?_)
  unfold fX7_lowestBits at h
  have hret : r0 = r0 ∧ μ = μ := ⟨rfl, rfl⟩
  refine la_iload_n C dX7_lowestBits_0 0 rfl ?_
  refine la_if_ne C (tgt := 7) dX7_lowestBits_1 (by decide) (fun hc => ?_) (fun hc => ?_)
  · replace h := la_f hc h
    refine la_iload_n C dX7_lowestBits_7 0 rfl ?_
    refine la_iconst C (v := 1) dX7_lowestBits_8 (by decide) ?_
    refine la_icmp_ne C (tgt := 17) dX7_lowestBits_9 (by decide) (fun hc => ?_) (fun hc => ?_)
    · replace h := la_f hc h
      refine la_iload_n C dX7_lowestBits_17 1 rfl ?_
      exact la_iret C rfl (la_rR (P := (fun r' μ' => r' = r0 ∧ μ' = μ)) h hret) dX7_lowestBits_18
    · replace h := la_t hc h
      refine la_iload_n C dX7_lowestBits_12 1 rfl ?_
      refine la_i2s C dX7_lowestBits_13 ?_
      refine la_goto C (tgt := 18) dX7_lowestBits_14 (by decide) ?_
      exact la_iret C rfl (la_rR (P := (fun r' μ' => r' = r0 ∧ μ' = μ)) h hret) dX7_lowestBits_18
  · replace h := la_t hc h
    refine la_iload_n C dX7_lowestBits_4 1 rfl ?_
    refine la_i2b C dX7_lowestBits_5 ?_
    exact la_iret C rfl (la_rR (P := (fun r' μ' => r' = r0 ∧ μ' = μ)) h hret) dX7_lowestBits_6

def fX7_item (x1 : Int32) (x2 : Int32) (x3 : Int32) (x4 : Int32) (μ : la_Mem) : Option (Int32 × la_Mem) :=
  (fX7_sheetFault x1 x2 x3 1 μ).bind (fun r5 => if r5 = 0 then (la_if (la_ix x1 4) ((fX7_lowestBits x2 x4 μ).bind (fun r31 => la_if (la_ix x3 40) (la_st (la_ms μ (28 + (Int32.toNatClampNeg x1) + 4) (Int32.toNatClampNeg x3) r31) (fun μ34 => some (1, μ34)))))) else (some (r5, μ)))
set_option maxRecDepth 10000 in
theorem mX7_item {z : LCz} {l : Launch} (x1 : Int32) (x2 : Int32) (x3 : Int32) (x4 : Int32) (μ : la_Mem) (r0 : Int32) (μ0 : la_Mem)  (h : fX7_item x1 x2 x3 x4 μ = some (r0, μ0)) : la_M (LC z) l yX7_item cX7_item 6 (some .int) rmX7_item [.ref (z.2.1 0), .int x1, .int x2, .int x3, .int x4] μ (fun r' μ' => r' = r0 ∧ μ' = μ0) := by
  refine la_of (own := RX7) (lv := [(0, .ref (z.2.1 0)), (1, .int x1), (2, .int x2), (3, .int x3), (4, .int x4)]) (by decide) rfl (Nat.le_of_ble_eq_true rfl) rfl (fun Φ C => ?_)
  unfold fX7_item at h
  have hret : r0 = r0 ∧ μ0 = μ0 := ⟨rfl, rfl⟩
  refine la_aload_n C dX7_item_0 0 rfl ?_
  refine la_iload_n C dX7_item_1 1 rfl ?_
  refine la_iload_n C dX7_item_2 2 rfl ?_
  refine la_iload_n C dX7_item_3 3 rfl ?_
  refine la_iconst C (v := 1) dX7_item_4 (by decide) ?_
  obtain ⟨r5, hr5, h⟩ := la_bd h
  refine KLCRX7_95 C [.int x1, .int x2, .int x3, .int 1] [] (mX7_sheetFault x1 x2 x3 1 μ r5 hr5) ⟨by decide, by decide⟩ rfl rfl (Nat.le_of_ble_eq_true rfl) dX7_item_5 ?_
  refine la_istore C dX7_item_8 (by decide) rfl ?_
  refine la_iload C dX7_item_10 0 rfl ?_
  refine la_if_eq C (tgt := 18) dX7_item_12 (by decide) (fun hc => ?_) (fun hc => ?_)
  · replace h := la_t hc h
    refine la_aload_n C dX7_item_18 1 rfl ?_
    refine GLCRX7_53 C dX7_item_19 ?_
    refine la_iload_n C dX7_item_22 2 rfl ?_
    obtain ⟨hi23, h⟩ := la_go h
    refine RLC23 C hi23 dX7_item_23 ?_
    refine GLCRX7_99 C (la_ix_lt hi23) dX7_item_24 ?_
    refine la_iload_n C dX7_item_27 4 rfl ?_
    refine la_iload_n C dX7_item_28 3 rfl ?_
    refine la_iload C dX7_item_29 5 rfl ?_
    obtain ⟨r31, hr31, h⟩ := la_bd h
    refine KLCRX7_261 C [.int x2, .int x4] [.int x3, .ref (z.2.1 (28 + (Int32.toNatClampNeg x1) + 4))] (mX7_lowestBits x2 x4 μ r31 hr31) ⟨by decide, by decide⟩ rfl rfl (Nat.le_of_ble_eq_true rfl) dX7_item_31 ?_
    obtain ⟨hi34, h⟩ := la_go h
    obtain ⟨μ34, eμ34, h⟩ := la_so h
    refine BLCd32 C (la_ix_lt hi23) _ rfl hi34 eμ34 dX7_item_34 ?_
    refine la_iconst C (v := 1) dX7_item_35 (by decide) ?_
    exact la_iret C rfl (la_rW (P := (fun r' μ' => r' = r0 ∧ μ' = μ0)) h hret) dX7_item_36
  · replace h := la_f hc h
    refine la_iload C dX7_item_15 0 rfl ?_
    exact la_iret C rfl (la_rW (P := (fun r' μ' => r' = r0 ∧ μ' = μ0)) h hret) dX7_item_17

def fX7_copy (x1 : Int32) (x2 : Int32) (x3 : Int32) (x4 : Int32) (x5 : Int32) (μ : la_Mem) : Option (Int32 × la_Mem) :=
  (fX7_isSheet x1 μ).bind (fun r1 => if r1 = 0 then (some ((-1), μ)) else ((fX7_isSheet x3 μ).bind (fun r8 => if r8 = 0 then (some ((-1), μ)) else (la_if (la_ix x1 4) (la_if (la_ix x3 4) (if (μ (28 + (Int32.toNatClampNeg x1)) 1) = 0 then (some ((-11), μ)) else (if (μ (28 + (Int32.toNatClampNeg x3)) 1) = 0 then (some ((-11), μ)) else (if (μ (28 + (Int32.toNatClampNeg x1)) 2) = (μ (28 + (Int32.toNatClampNeg x3)) 2) then ((fX3_spans (Int32.toNatClampNeg x1) x2 x5 μ).bind (fun r72 => if r72 = 0 then (some ((-13), μ)) else ((fX3_spans (Int32.toNatClampNeg x3) x4 x5 μ).bind (fun r84 => if r84 = 0 then (some ((-13), μ)) else (la_if (la_in3 x2 x4 x5 40 40) (la_st (la_cp μ (28 + (Int32.toNatClampNeg x1) + 4) (28 + (Int32.toNatClampNeg x3) + 4) (Int32.toNatClampNeg x2) (Int32.toNatClampNeg x4) (Int32.toNatClampNeg x5)) (fun μ108 => some (x5, μ108)))))))) else (some ((-12), μ))))))))))
set_option maxRecDepth 10000 in
theorem mX7_copy {z : LCz} {l : Launch} (x1 : Int32) (x2 : Int32) (x3 : Int32) (x4 : Int32) (x5 : Int32) (μ : la_Mem) (r0 : Int32) (μ0 : la_Mem)  (h : fX7_copy x1 x2 x3 x4 x5 μ = some (r0, μ0)) : la_M (LC z) l yX7_copy cX7_copy 8 (some .int) rmX7_copy [.ref (z.2.1 0), .int x1, .int x2, .int x3, .int x4, .int x5] μ (fun r' μ' => r' = r0 ∧ μ' = μ0) := by
  refine la_of (own := RX7) (lv := [(0, .ref (z.2.1 0)), (1, .int x1), (2, .int x2), (3, .int x3), (4, .int x4), (5, .int x5)]) (by decide) rfl (Nat.le_of_ble_eq_true rfl) rfl (fun Φ C => ?_)
  unfold fX7_copy at h
  have hret : r0 = r0 ∧ μ0 = μ0 := ⟨rfl, rfl⟩
  refine la_iload_n C dX7_copy_0 1 rfl ?_
  obtain ⟨r1, hr1, h⟩ := la_bd h
  refine KLCRX7_247 C [.int x1] [] (mX7_isSheet x1 μ r1 hr1) ⟨by decide, by decide⟩ rfl rfl (Nat.le_of_ble_eq_true rfl) dX7_copy_1 ?_
  refine la_if_eq C (tgt := 14) dX7_copy_4 (by decide) (fun hc => ?_) (fun hc => ?_)
  · replace h := la_t hc h
    refine la_iconst C (v := (-1)) dX7_copy_14 (by decide) ?_
    exact la_iret C rfl (la_rW (P := (fun r' μ' => r' = r0 ∧ μ' = μ0)) h hret) dX7_copy_15
  · replace h := la_f hc h
    refine la_iload_n C dX7_copy_7 3 rfl ?_
    obtain ⟨r8, hr8, h⟩ := la_bd h
    refine KLCRX7_247 C [.int x3] [] (mX7_isSheet x3 μ r8 hr8) ⟨by decide, by decide⟩ rfl rfl (Nat.le_of_ble_eq_true rfl) dX7_copy_8 ?_
    refine la_if_ne C (tgt := 16) dX7_copy_11 (by decide) (fun hc => ?_) (fun hc => ?_)
    · replace h := la_f hc h
      refine la_aload_n C dX7_copy_16 0 rfl ?_
      refine GLCRX7_53 C dX7_copy_17 ?_
      refine la_iload_n C dX7_copy_20 1 rfl ?_
      obtain ⟨hi21, h⟩ := la_go h
      refine RLC23 C hi21 dX7_copy_21 ?_
      refine la_astore C dX7_copy_22 (by decide) rfl ?_
      refine la_aload_n C dX7_copy_24 1 rfl ?_
      refine GLCRX7_53 C dX7_copy_25 ?_
      refine la_iload_n C dX7_copy_28 4 rfl ?_
      obtain ⟨hi29, h⟩ := la_go h
      refine RLC23 C hi29 dX7_copy_29 ?_
      refine la_astore C dX7_copy_30 (by decide) rfl ?_
      refine la_aload C dX7_copy_32 1 rfl ?_
      refine GLCRX7_256 C (la_ix_lt hi21) dX7_copy_34 ?_
      refine la_if_eq C (tgt := 48) dX7_copy_37 (by decide) (fun hc => ?_) (fun hc => ?_)
      · replace h := la_t hc h
        refine la_bipush C (v := (-11)) dX7_copy_48 (by decide) ?_
        exact la_iret C rfl (la_rW (P := (fun r' μ' => r' = r0 ∧ μ' = μ0)) h hret) dX7_copy_50
      · replace h := la_f hc h
        refine la_aload C dX7_copy_40 0 rfl ?_
        refine GLCRX7_256 C (la_ix_lt hi29) dX7_copy_42 ?_
        refine la_if_ne C (tgt := 51) dX7_copy_45 (by decide) (fun hc => ?_) (fun hc => ?_)
        · replace h := la_f hc h
          refine la_aload C dX7_copy_51 1 rfl ?_
          refine GLCRX7_264 C (la_ix_lt hi21) dX7_copy_53 ?_
          refine la_aload C dX7_copy_56 0 rfl ?_
          refine GLCRX7_264 C (la_ix_lt hi29) dX7_copy_58 ?_
          refine la_icmp_eq C (tgt := 67) dX7_copy_61 (by decide) (fun hc => ?_) (fun hc => ?_)
          · replace h := la_t hc h
            refine la_aload C dX7_copy_67 1 rfl ?_
            refine la_iload_n C dX7_copy_69 4 rfl ?_
            refine la_iload C dX7_copy_70 7 rfl ?_
            obtain ⟨r72, hr72, h⟩ := la_bd h
            refine KLCRX7_267 C (la_ix_lt hi21) [.int x2, .int x5] [] (mX3_spans (Int32.toNatClampNeg x1) x2 x5 μ r72 (la_ix_lt hi21) hr72) ⟨by decide, by decide⟩ rfl rfl (Nat.le_of_ble_eq_true rfl) dX7_copy_72 ?_
            refine la_if_eq C (tgt := 90) dX7_copy_75 (by decide) (fun hc => ?_) (fun hc => ?_)
            · replace h := la_t hc h
              refine la_bipush C (v := (-13)) dX7_copy_90 (by decide) ?_
              exact la_iret C rfl (la_rW (P := (fun r' μ' => r' = r0 ∧ μ' = μ0)) h hret) dX7_copy_92
            · replace h := la_f hc h
              refine la_aload C dX7_copy_78 0 rfl ?_
              refine la_iload C dX7_copy_80 6 rfl ?_
              refine la_iload C dX7_copy_82 7 rfl ?_
              obtain ⟨r84, hr84, h⟩ := la_bd h
              refine KLCRX7_267 C (la_ix_lt hi29) [.int x4, .int x5] [] (mX3_spans (Int32.toNatClampNeg x3) x4 x5 μ r84 (la_ix_lt hi29) hr84) ⟨by decide, by decide⟩ rfl rfl (Nat.le_of_ble_eq_true rfl) dX7_copy_84 ?_
              refine la_if_ne C (tgt := 93) dX7_copy_87 (by decide) (fun hc => ?_) (fun hc => ?_)
              · replace h := la_f hc h
                refine la_aload C dX7_copy_93 1 rfl ?_
                refine GLCRX7_99 C (la_ix_lt hi21) dX7_copy_95 ?_
                refine la_iload_n C dX7_copy_98 4 rfl ?_
                refine la_aload C dX7_copy_99 0 rfl ?_
                refine GLCRX7_99 C (la_ix_lt hi29) dX7_copy_101 ?_
                refine la_iload C dX7_copy_104 6 rfl ?_
                refine la_iload C dX7_copy_106 7 rfl ?_
                obtain ⟨hi108, h⟩ := la_go h
                obtain ⟨μ108, eμ108, h⟩ := la_so h
                refine la_copy C μ108 (28 + (Int32.toNatClampNeg x1) + 4) (28 + (Int32.toNatClampNeg x3) + 4) 0 rfl rfl (ltLC_32 (la_ix_lt hi21)) (ltLC_32 (la_ix_lt hi29)) (enLC_32 z (la_ix_lt hi21) _) (enLC_32 z (la_ix_lt hi29) _) rfl hi108 wd_759 wd_374 wd_375 wd_376 (by decide) (Nat.le_of_ble_eq_true rfl) (by rw [enLC_32 z (la_ix_lt hi29), eμ108, la_cp_self]) (fun b hb => by rw [eμ108, la_cp_ne hb]) dX7_copy_108 ?_
                refine la_iload C dX7_copy_111 7 rfl ?_
                exact la_iret C rfl (la_rW (P := (fun r' μ' => r' = r0 ∧ μ' = μ0)) h hret) dX7_copy_113
              · replace h := la_t hc h
                refine la_bipush C (v := (-13)) dX7_copy_90 (by decide) ?_
                exact la_iret C rfl (la_rW (P := (fun r' μ' => r' = r0 ∧ μ' = μ0)) h hret) dX7_copy_92
          · replace h := la_f hc h
            refine la_bipush C (v := (-12)) dX7_copy_64 (by decide) ?_
            exact la_iret C rfl (la_rW (P := (fun r' μ' => r' = r0 ∧ μ' = μ0)) h hret) dX7_copy_66
        · replace h := la_t hc h
          refine la_bipush C (v := (-11)) dX7_copy_48 (by decide) ?_
          exact la_iret C rfl (la_rW (P := (fun r' μ' => r' = r0 ∧ μ' = μ0)) h hret) dX7_copy_50
    · replace h := la_t hc h
      refine la_iconst C (v := (-1)) dX7_copy_14 (by decide) ?_
      exact la_iret C rfl (la_rW (P := (fun r' μ' => r' = r0 ∧ μ' = μ0)) h hret) dX7_copy_15

