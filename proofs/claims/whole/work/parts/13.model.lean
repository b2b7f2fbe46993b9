def fX8_in (x0 : Int64) (x2 : Int64) (x4 : Int64) (μ : la_Mem) : Option Int32 :=
  if (lg_cmp x0 x2) < 0 then (some 0) else (if 0 < (lg_cmp x0 x4) then (some 0) else (some 1))
set_option maxRecDepth 10000 in
theorem mX8_in {z : LMz} {l : Launch} (x0 : Int64) (x2 : Int64) (x4 : Int64) (μ : la_Mem) (r0 : Int32)  (h : fX8_in x0 x2 x4 μ = some r0) : la_M (LM z) l yX8_in cX8_in 6 (some .boolean) rmX8_in [.long x0, .long x2, .long x4] μ (fun r' μ' => r' = r0 ∧ μ' = μ) := by
  refine la_of (own := RX8) (lv := [(0, .long x0), (2, .long x2), (4, .long x4)]) (by decide) rfl (Nat.le_of_ble_eq_true rfl) rfl (fun Φ C => ?_)
  unfold fX8_in at h
  have hret : r0 = r0 ∧ μ = μ := ⟨rfl, rfl⟩
  refine la_lload_n C dX8_in_0 0 rfl ?_
  refine la_lload_n C dX8_in_1 1 rfl ?_
  refine la_lcmp C dX8_in_2 ?_
  refine la_if_lt C (tgt := 17) dX8_in_3 (by decide) (fun hc => ?_) (fun hc => ?_)
  · replace h := la_t hc h
    refine la_iconst C (v := 0) dX8_in_17 (by decide) ?_
    exact la_iret C rfl (la_rR (P := (fun r' μ' => r' = r0 ∧ μ' = μ)) h hret) dX8_in_18
  · replace h := la_f hc h
    refine la_lload_n C dX8_in_6 0 rfl ?_
    refine la_lload C dX8_in_7 2 rfl ?_
    refine la_lcmp C dX8_in_9 ?_
    refine la_if_gt C (tgt := 17) dX8_in_10 (by decide) (fun hc => ?_) (fun hc => ?_)
    · replace h := la_t hc h
      refine la_iconst C (v := 0) dX8_in_17 (by decide) ?_
      exact la_iret C rfl (la_rR (P := (fun r' μ' => r' = r0 ∧ μ' = μ)) h hret) dX8_in_18
    · replace h := la_f hc h
      refine la_iconst C (v := 1) dX8_in_13 (by decide) ?_
      refine la_goto C (tgt := 18) dX8_in_14 (by decide) ?_
      exact la_iret C rfl (la_rR (P := (fun r' μ' => r' = r0 ∧ μ' = μ)) h hret) dX8_in_18

def fX8_isTwelve (x0 : Int32) (μ : la_Mem) : Option Int32 :=
  (fX8_in (Int32.toInt64 x0) 0 11 μ).bind (fun r6 => la_if (la_isb r6) (some r6))
set_option maxRecDepth 10000 in
theorem mX8_isTwelve {z : LMz} {l : Launch} (x0 : Int32) (μ : la_Mem) (r0 : Int32)  (h : fX8_isTwelve x0 μ = some r0) : la_M (LM z) l yX8_isTwelve cX8_isTwelve 1 (some .boolean) rmX8_isTwelve [.int x0] μ (fun r' μ' => r' = r0 ∧ μ' = μ) := by
  refine la_of (own := RX8) (lv := [(0, .int x0)]) (by decide) rfl (Nat.le_of_ble_eq_true rfl) rfl (fun Φ C => ?_)
  unfold fX8_isTwelve at h
  have hret : r0 = r0 ∧ μ = μ := ⟨rfl, rfl⟩
  refine la_iload_n C dX8_isTwelve_0 0 rfl ?_
  refine la_i2l C dX8_isTwelve_1 ?_
  refine la_lconst C (v := 0) dX8_isTwelve_2 (by decide) ?_
  refine la_ldc2 C (v := 11) wd_149 dX8_isTwelve_3 ?_
  obtain ⟨r6, hr6, h⟩ := la_bd h
  refine KLMRX8_87 C [.long (Int32.toInt64 x0), .long 0, .long 11] [] (mX8_in (Int32.toInt64 x0) 0 11 μ r6 hr6) ⟨by decide, by decide⟩ rfl rfl (Nat.le_of_ble_eq_true rfl) dX8_isTwelve_6 ?_
  obtain ⟨hz9, h⟩ := la_go h
  exact la_iret C (la_nb hz9) (la_rR (P := (fun r' μ' => r' = r0 ∧ μ' = μ)) h hret) dX8_isTwelve_9

def fX8_letter_J60 (x1 : Int32) (x2 : Int32) (x3 : Int32) (s0 : Int32) (μ : la_Mem) : Option (Int32 × la_Mem) :=
  if x2 = 0 then (la_if (la_ix x1 12) (la_st (la_ms μ 1 (Int32.toNatClampNeg x1) x3) (fun μ72 => some (s0, μ72)))) else (la_if (la_ix x1 12) (la_st (la_ms μ 2 (Int32.toNatClampNeg x1) x3) (fun μ82 => some (s0, μ82))))
set_option maxRecDepth 10000 in
theorem wX8_letter_J60 {z : LMz} {l : Launch} {Post : Int32 → la_Mem → Prop} {Φ : Nat → List (Nat × Value) → List Value → la_Mem → Prop} (C : la_C (LM z) l rmX8_letter RX8 cX8_letter 5 (some .int) Post Φ) (x1 : Int32) (x2 : Int32) (x3 : Int32) (s0 : Int32) (μ : la_Mem)  (ex : (Int32 × la_Mem)) (hret : Post ex.1 ex.2) (h : fX8_letter_J60 x1 x2 x3 s0 μ = some ex) : Φ 60 [(0, .ref (z.2.1 0)), (1, .int x1), (2, .int x2), (3, .int x3)] [.int s0] μ := by
  unfold fX8_letter_J60 at h
  refine la_istore C dX8_letter_60 (by decide) rfl ?_
  refine la_iload_n C dX8_letter_62 3 rfl ?_
  refine la_if_ne C (tgt := 76) dX8_letter_63 (by decide) (fun hc => ?_) (fun hc => ?_)
  · replace h := la_f hc h
    refine la_aload_n C dX8_letter_76 1 rfl ?_
    refine GLMRX8_13 C dX8_letter_77 ?_
    refine la_iload_n C dX8_letter_80 2 rfl ?_
    refine la_iload_n C dX8_letter_81 4 rfl ?_
    obtain ⟨hi82, h⟩ := la_go h
    obtain ⟨μ82, eμ82, h⟩ := la_so h
    refine BLM2 C _ rfl hi82 eμ82 dX8_letter_82 ?_
    refine la_iload C dX8_letter_83 0 rfl ?_
    exact la_iret C rfl (la_rW (P := Post) h hret) dX8_letter_85
  · replace h := la_t hc h
    refine la_aload_n C dX8_letter_66 1 rfl ?_
    refine GLMRX8_7 C dX8_letter_67 ?_
    refine la_iload_n C dX8_letter_70 2 rfl ?_
    refine la_iload_n C dX8_letter_71 4 rfl ?_
    obtain ⟨hi72, h⟩ := la_go h
    obtain ⟨μ72, eμ72, h⟩ := la_so h
    refine BLM1 C _ rfl hi72 eμ72 dX8_letter_72 ?_
    refine la_goto C (tgt := 83) dX8_letter_73 (by decide) ?_
    refine la_iload C dX8_letter_83 0 rfl ?_
    exact la_iret C rfl (la_rW (P := Post) h hret) dX8_letter_85
def fX8_letter_J33 (x1 : Int32) (x2 : Int32) (x3 : Int32) (s0 : Int64) (s1 : Int64) (s2 : Int64) (μ : la_Mem) : Option (Int32 × la_Mem) :=
  (fX8_in s2 s1 s0 μ).bind (fun r33 => if r33 = 0 then (some ((-1), μ)) else (if x2 = 0 then (la_if (la_ix x1 12) (fX8_letter_J60 x1 x2 x3 (μ 1 (Int32.toNatClampNeg x1)) μ)) else (la_if (la_ix x1 12) (fX8_letter_J60 x1 x2 x3 (μ 2 (Int32.toNatClampNeg x1)) μ))))
set_option maxRecDepth 10000 in
theorem wX8_letter_J33 {z : LMz} {l : Launch} {Post : Int32 → la_Mem → Prop} {Φ : Nat → List (Nat × Value) → List Value → la_Mem → Prop} (C : la_C (LM z) l rmX8_letter RX8 cX8_letter 5 (some .int) Post Φ) (x1 : Int32) (x2 : Int32) (x3 : Int32) (s0 : Int64) (s1 : Int64) (s2 : Int64) (μ : la_Mem)  (ex : (Int32 × la_Mem)) (hret : Post ex.1 ex.2) (h : fX8_letter_J33 x1 x2 x3 s0 s1 s2 μ = some ex) : Φ 33 [(0, .ref (z.2.1 0)), (1, .int x1), (2, .int x2), (3, .int x3)] [.long s0, .long s1, .long s2] μ := by
  unfold fX8_letter_J33 at h
  obtain ⟨r33, hr33, h⟩ := la_bd h
  refine KLMRX8_87 C [.long s2, .long s1, .long s0] [] (mX8_in s2 s1 s0 μ r33 hr33) ⟨by decide, by decide⟩ rfl rfl (Nat.le_of_ble_eq_true rfl) dX8_letter_33 ?_
  refine la_if_ne C (tgt := 41) dX8_letter_36 (by decide) (fun hc => ?_) (fun hc => ?_)
  · replace h := la_f hc h
    refine la_iload_n C dX8_letter_41 2 rfl ?_
    refine la_if_ne C (tgt := 54) dX8_letter_42 (by decide) (fun hc => ?_) (fun hc => ?_)
    · replace h := la_f hc h
      refine la_aload_n C dX8_letter_54 0 rfl ?_
      refine GLMRX8_13 C dX8_letter_55 ?_
      refine la_iload_n C dX8_letter_58 1 rfl ?_
      obtain ⟨hi59, h⟩ := la_go h
      refine ALM2 C _ rfl hi59 dX8_letter_59 ?_
      refine la_sub C [0, 1, 2, 3] rfl ?_
      exact wX8_letter_J60 C _ _ _ _ _  _ hret h
    · replace h := la_t hc h
      refine la_aload_n C dX8_letter_45 0 rfl ?_
      refine GLMRX8_7 C dX8_letter_46 ?_
      refine la_iload_n C dX8_letter_49 1 rfl ?_
      obtain ⟨hi50, h⟩ := la_go h
      refine ALM1 C _ rfl hi50 dX8_letter_50 ?_
      refine la_goto C (tgt := 60) dX8_letter_51 (by decide) ?_
      refine la_sub C [0, 1, 2, 3] rfl ?_
      exact wX8_letter_J60 C _ _ _ _ _  _ hret h
  · replace h := la_t hc h
    refine la_iconst C (v := (-1)) dX8_letter_39 (by decide) ?_
    exact la_iret C rfl (la_rW (P := Post) h hret) dX8_letter_40
def fX8_letter (x1 : Int32) (x2 : Int32) (x3 : Int32) (μ : la_Mem) : Option (Int32 × la_Mem) :=
  (fX8_isTwelve x1 μ).bind (fun r1 => if r1 = 0 then (some ((-1), μ)) else ((fX8_in (Int32.toInt64 x2) 0 1 μ).bind (fun r11 => if r11 = 0 then (some ((-1), μ)) else (if x2 = 0 then (fX8_letter_J33 x1 x2 x3 40 1 (Int32.toInt64 x3) μ) else (fX8_letter_J33 x1 x2 x3 127 1 (Int32.toInt64 x3) μ)))))
set_option maxRecDepth 10000 in
theorem mX8_letter {z : LMz} {l : Launch} (x1 : Int32) (x2 : Int32) (x3 : Int32) (μ : la_Mem) (r0 : Int32) (μ0 : la_Mem)  (h : fX8_letter x1 x2 x3 μ = some (r0, μ0)) : la_M (LM z) l yX8_letter cX8_letter 5 (some .int) rmX8_letter [.ref (z.2.1 0), .int x1, .int x2, .int x3] μ (fun r' μ' => r' = r0 ∧ μ' = μ0) := by
  refine la_of (own := RX8) (lv := [(0, .ref (z.2.1 0)), (1, .int x1), (2, .int x2), (3, .int x3)]) (by decide) rfl (Nat.le_of_ble_eq_true rfl) rfl (fun Φ C => ?_)
  unfold fX8_letter at h
  have hret : r0 = r0 ∧ μ0 = μ0 := ⟨rfl, rfl⟩
  refine la_iload_n C dX8_letter_0 1 rfl ?_
  obtain ⟨r1, hr1, h⟩ := la_bd h
  refine KLMRX8_91 C [.int x1] [] (mX8_isTwelve x1 μ r1 hr1) ⟨by decide, by decide⟩ rfl rfl (Nat.le_of_ble_eq_true rfl) dX8_letter_1 ?_
  refine la_if_eq C (tgt := 39) dX8_letter_4 (by decide) (fun hc => ?_) (fun hc => ?_)
  · replace h := la_t hc h
    refine la_iconst C (v := (-1)) dX8_letter_39 (by decide) ?_
    exact la_iret C rfl (la_rW (P := (fun r' μ' => r' = r0 ∧ μ' = μ0)) h hret) dX8_letter_40
  · replace h := la_f hc h
    refine la_iload_n C dX8_letter_7 2 rfl ?_
    refine la_i2l C dX8_letter_8 ?_
    refine la_lconst C (v := 0) dX8_letter_9 (by decide) ?_
    refine la_lconst C (v := 1) dX8_letter_10 (by decide) ?_
    obtain ⟨r11, hr11, h⟩ := la_bd h
    refine KLMRX8_87 C [.long (Int32.toInt64 x2), .long 0, .long 1] [] (mX8_in (Int32.toInt64 x2) 0 1 μ r11 hr11) ⟨by decide, by decide⟩ rfl rfl (Nat.le_of_ble_eq_true rfl) dX8_letter_11 ?_
    refine la_if_eq C (tgt := 39) dX8_letter_14 (by decide) (fun hc => ?_) (fun hc => ?_)
    · replace h := la_t hc h
      refine la_iconst C (v := (-1)) dX8_letter_39 (by decide) ?_
      exact la_iret C rfl (la_rW (P := (fun r' μ' => r' = r0 ∧ μ' = μ0)) h hret) dX8_letter_40
    · replace h := la_f hc h
      refine la_iload_n C dX8_letter_17 3 rfl ?_
      refine la_i2l C dX8_letter_18 ?_
      refine la_lconst C (v := 1) dX8_letter_19 (by decide) ?_
      refine la_iload_n C dX8_letter_20 2 rfl ?_
      refine la_if_ne C (tgt := 30) dX8_letter_21 (by decide) (fun hc => ?_) (fun hc => ?_)
      · replace h := la_f hc h
        refine la_ldc2 C (v := 127) wd_145 dX8_letter_30 ?_
        refine la_sub C [0, 1, 2, 3] rfl ?_
        exact wX8_letter_J33 C _ _ _ _ _ _ _  _ hret h
      · replace h := la_t hc h
        refine la_ldc2 C (v := 40) wd_144 dX8_letter_24 ?_
        refine la_goto C (tgt := 33) dX8_letter_27 (by decide) ?_
        refine la_sub C [0, 1, 2, 3] rfl ?_
        exact wX8_letter_J33 C _ _ _ _ _ _ _  _ hret h

def fX8_place_J60 (x1 : Int32) (x2 : Int32) (x3 : Int32) (s0 : Int32) (μ : la_Mem) : Option (Int32 × la_Mem) :=
  if x2 = 0 then (la_if (la_ix x1 12) (la_st (la_ms μ 3 (Int32.toNatClampNeg x1) x3) (fun μ72 => some (s0, μ72)))) else (la_if (la_ix x1 12) (la_st (la_ms μ 4 (Int32.toNatClampNeg x1) x3) (fun μ82 => some (s0, μ82))))
set_option maxRecDepth 10000 in
theorem wX8_place_J60 {z : LMz} {l : Launch} {Post : Int32 → la_Mem → Prop} {Φ : Nat → List (Nat × Value) → List Value → la_Mem → Prop} (C : la_C (LM z) l rmX8_place RX8 cX8_place 5 (some .int) Post Φ) (x1 : Int32) (x2 : Int32) (x3 : Int32) (s0 : Int32) (μ : la_Mem)  (ex : (Int32 × la_Mem)) (hret : Post ex.1 ex.2) (h : fX8_place_J60 x1 x2 x3 s0 μ = some ex) : Φ 60 [(0, .ref (z.2.1 0)), (1, .int x1), (2, .int x2), (3, .int x3)] [.int s0] μ := by
  unfold fX8_place_J60 at h
  refine la_istore C dX8_place_60 (by decide) rfl ?_
  refine la_iload_n C dX8_place_62 3 rfl ?_
  refine la_if_ne C (tgt := 76) dX8_place_63 (by decide) (fun hc => ?_) (fun hc => ?_)
  · replace h := la_f hc h
    refine la_aload_n C dX8_place_76 1 rfl ?_
    refine GLMRX8_19 C dX8_place_77 ?_
    refine la_iload_n C dX8_place_80 2 rfl ?_
    refine la_iload_n C dX8_place_81 4 rfl ?_
    obtain ⟨hi82, h⟩ := la_go h
    obtain ⟨μ82, eμ82, h⟩ := la_so h
    refine BLM4 C _ rfl hi82 eμ82 dX8_place_82 ?_
    refine la_iload C dX8_place_83 0 rfl ?_
    exact la_iret C rfl (la_rW (P := Post) h hret) dX8_place_85
  · replace h := la_t hc h
    refine la_aload_n C dX8_place_66 1 rfl ?_
    refine GLMRX8_16 C dX8_place_67 ?_
    refine la_iload_n C dX8_place_70 2 rfl ?_
    refine la_iload_n C dX8_place_71 4 rfl ?_
    obtain ⟨hi72, h⟩ := la_go h
    obtain ⟨μ72, eμ72, h⟩ := la_so h
    refine BLM3 C _ rfl hi72 eμ72 dX8_place_72 ?_
    refine la_goto C (tgt := 83) dX8_place_73 (by decide) ?_
    refine la_iload C dX8_place_83 0 rfl ?_
    exact la_iret C rfl (la_rW (P := Post) h hret) dX8_place_85
def fX8_place_J33 (x1 : Int32) (x2 : Int32) (x3 : Int32) (s0 : Int64) (s1 : Int64) (s2 : Int64) (μ : la_Mem) : Option (Int32 × la_Mem) :=
  (fX8_in s2 s1 s0 μ).bind (fun r33 => if r33 = 0 then (some ((-1), μ)) else (if x2 = 0 then (la_if (la_ix x1 12) (fX8_place_J60 x1 x2 x3 (μ 3 (Int32.toNatClampNeg x1)) μ)) else (la_if (la_ix x1 12) (fX8_place_J60 x1 x2 x3 (μ 4 (Int32.toNatClampNeg x1)) μ))))
set_option maxRecDepth 10000 in
theorem wX8_place_J33 {z : LMz} {l : Launch} {Post : Int32 → la_Mem → Prop} {Φ : Nat → List (Nat × Value) → List Value → la_Mem → Prop} (C : la_C (LM z) l rmX8_place RX8 cX8_place 5 (some .int) Post Φ) (x1 : Int32) (x2 : Int32) (x3 : Int32) (s0 : Int64) (s1 : Int64) (s2 : Int64) (μ : la_Mem)  (ex : (Int32 × la_Mem)) (hret : Post ex.1 ex.2) (h : fX8_place_J33 x1 x2 x3 s0 s1 s2 μ = some ex) : Φ 33 [(0, .ref (z.2.1 0)), (1, .int x1), (2, .int x2), (3, .int x3)] [.long s0, .long s1, .long s2] μ := by
  unfold fX8_place_J33 at h
  obtain ⟨r33, hr33, h⟩ := la_bd h
  refine KLMRX8_87 C [.long s2, .long s1, .long s0] [] (mX8_in s2 s1 s0 μ r33 hr33) ⟨by decide, by decide⟩ rfl rfl (Nat.le_of_ble_eq_true rfl) dX8_place_33 ?_
  refine la_if_ne C (tgt := 41) dX8_place_36 (by decide) (fun hc => ?_) (fun hc => ?_)
  · replace h := la_f hc h
    refine la_iload_n C dX8_place_41 2 rfl ?_
    refine la_if_ne C (tgt := 54) dX8_place_42 (by decide) (fun hc => ?_) (fun hc => ?_)
    · replace h := la_f hc h
      refine la_aload_n C dX8_place_54 0 rfl ?_
      refine GLMRX8_19 C dX8_place_55 ?_
      refine la_iload_n C dX8_place_58 1 rfl ?_
      obtain ⟨hi59, h⟩ := la_go h
      refine ALM4 C _ rfl hi59 dX8_place_59 ?_
      refine la_sub C [0, 1, 2, 3] rfl ?_
      exact wX8_place_J60 C _ _ _ _ _  _ hret h
    · replace h := la_t hc h
      refine la_aload_n C dX8_place_45 0 rfl ?_
      refine GLMRX8_16 C dX8_place_46 ?_
      refine la_iload_n C dX8_place_49 1 rfl ?_
      obtain ⟨hi50, h⟩ := la_go h
      refine ALM3 C _ rfl hi50 dX8_place_50 ?_
      refine la_goto C (tgt := 60) dX8_place_51 (by decide) ?_
      refine la_sub C [0, 1, 2, 3] rfl ?_
      exact wX8_place_J60 C _ _ _ _ _  _ hret h
  · replace h := la_t hc h
    refine la_iconst C (v := (-1)) dX8_place_39 (by decide) ?_
    exact la_iret C rfl (la_rW (P := Post) h hret) dX8_place_40
def fX8_place (x1 : Int32) (x2 : Int32) (x3 : Int32) (μ : la_Mem) : Option (Int32 × la_Mem) :=
  (fX8_isTwelve x1 μ).bind (fun r1 => if r1 = 0 then (some ((-1), μ)) else ((fX8_in (Int32.toInt64 x2) 0 1 μ).bind (fun r11 => if r11 = 0 then (some ((-1), μ)) else (if x2 = 0 then (fX8_place_J33 x1 x2 x3 127 0 (Int32.toInt64 x3) μ) else (fX8_place_J33 x1 x2 x3 20 0 (Int32.toInt64 x3) μ)))))
set_option maxRecDepth 10000 in
theorem mX8_place {z : LMz} {l : Launch} (x1 : Int32) (x2 : Int32) (x3 : Int32) (μ : la_Mem) (r0 : Int32) (μ0 : la_Mem)  (h : fX8_place x1 x2 x3 μ = some (r0, μ0)) : la_M (LM z) l yX8_place cX8_place 5 (some .int) rmX8_place [.ref (z.2.1 0), .int x1, .int x2, .int x3] μ (fun r' μ' => r' = r0 ∧ μ' = μ0) := by
  refine la_of (own := RX8) (lv := [(0, .ref (z.2.1 0)), (1, .int x1), (2, .int x2), (3, .int x3)]) (by decide) rfl (Nat.le_of_ble_eq_true rfl) rfl (fun Φ C => ?_)
  unfold fX8_place at h
  have hret : r0 = r0 ∧ μ0 = μ0 := ⟨rfl, rfl⟩
  refine la_iload_n C dX8_place_0 1 rfl ?_
  obtain ⟨r1, hr1, h⟩ := la_bd h
  refine KLMRX8_91 C [.int x1] [] (mX8_isTwelve x1 μ r1 hr1) ⟨by decide, by decide⟩ rfl rfl (Nat.le_of_ble_eq_true rfl) dX8_place_1 ?_
  refine la_if_eq C (tgt := 39) dX8_place_4 (by decide) (fun hc => ?_) (fun hc => ?_)
  · replace h := la_t hc h
    refine la_iconst C (v := (-1)) dX8_place_39 (by decide) ?_
    exact la_iret C rfl (la_rW (P := (fun r' μ' => r' = r0 ∧ μ' = μ0)) h hret) dX8_place_40
  · replace h := la_f hc h
    refine la_iload_n C dX8_place_7 2 rfl ?_
    refine la_i2l C dX8_place_8 ?_
    refine la_lconst C (v := 0) dX8_place_9 (by decide) ?_
    refine la_lconst C (v := 1) dX8_place_10 (by decide) ?_
    obtain ⟨r11, hr11, h⟩ := la_bd h
    refine KLMRX8_87 C [.long (Int32.toInt64 x2), .long 0, .long 1] [] (mX8_in (Int32.toInt64 x2) 0 1 μ r11 hr11) ⟨by decide, by decide⟩ rfl rfl (Nat.le_of_ble_eq_true rfl) dX8_place_11 ?_
    refine la_if_eq C (tgt := 39) dX8_place_14 (by decide) (fun hc => ?_) (fun hc => ?_)
    · replace h := la_t hc h
      refine la_iconst C (v := (-1)) dX8_place_39 (by decide) ?_
      exact la_iret C rfl (la_rW (P := (fun r' μ' => r' = r0 ∧ μ' = μ0)) h hret) dX8_place_40
    · replace h := la_f hc h
      refine la_iload_n C dX8_place_17 3 rfl ?_
      refine la_i2l C dX8_place_18 ?_
      refine la_lconst C (v := 0) dX8_place_19 (by decide) ?_
      refine la_iload_n C dX8_place_20 2 rfl ?_
      refine la_if_ne C (tgt := 30) dX8_place_21 (by decide) (fun hc => ?_) (fun hc => ?_)
      · replace h := la_f hc h
        refine la_ldc2 C (v := 20) wd_168 dX8_place_30 ?_
        refine la_sub C [0, 1, 2, 3] rfl ?_
        exact wX8_place_J33 C _ _ _ _ _ _ _  _ hret h
      · replace h := la_t hc h
        refine la_ldc2 C (v := 127) wd_145 dX8_place_24 ?_
        refine la_goto C (tgt := 33) dX8_place_27 (by decide) ?_
        refine la_sub C [0, 1, 2, 3] rfl ?_
        exact wX8_place_J33 C _ _ _ _ _ _ _  _ hret h

def fX8_finds_J46  (μ : la_Mem) : Option Int32 :=
  some (-13)
set_option maxRecDepth 10000 in
theorem wX8_finds_J46 {z : LMz} {l : Launch} {Post : Int32 → la_Mem → Prop} {Φ : Nat → List (Nat × Value) → List Value → la_Mem → Prop} (C : la_C (LM z) l rmX8_finds RX8 cX8_finds 5 (some .int) Post Φ)  (μ : la_Mem)  (ex : Int32) (hret : Post ex μ) (h : fX8_finds_J46  μ = some ex) : Φ 46 [] [] μ := by
  unfold fX8_finds_J46 at h
  refine la_bipush C (v := (-13)) dX8_finds_46 (by decide) ?_
  refine la_goto C (tgt := 52) dX8_finds_48 (by decide) ?_
  exact la_iret C rfl (la_rR (P := Post) h hret) dX8_finds_52
def fX8_finds (x1 : Int32) (x2 : Int32) (x3 : Int32) (x4 : Int32) (μ : la_Mem) : Option Int32 :=
  la_if (la_ix x1 4) (if 0 ≤ (μ 22 (Int32.toNatClampNeg x1)) then (la_if (la_ix x1 4) (if (μ 22 (Int32.toNatClampNeg x1)) = x2 then (if x3 < 0 then (fX8_finds_J46  μ) else (la_if (la_ix x1 4) (if (lg_cmp ((Int32.toInt64 x3) + (Int32.toInt64 x4)) (Int32.toInt64 (μ 23 (Int32.toNatClampNeg x1)))) ≤ 0 then (some 0) else (fX8_finds_J46  μ)))) else (some (-12)))) else (some (-11)))
set_option maxRecDepth 10000 in
theorem mX8_finds {z : LMz} {l : Launch} (x1 : Int32) (x2 : Int32) (x3 : Int32) (x4 : Int32) (μ : la_Mem) (r0 : Int32)  (h : fX8_finds x1 x2 x3 x4 μ = some r0) : la_M (LM z) l yX8_finds cX8_finds 5 (some .int) rmX8_finds [.ref (z.2.1 0), .int x1, .int x2, .int x3, .int x4] μ (fun r' μ' => r' = r0 ∧ μ' = μ) := by
  refine la_of (own := RX8) (lv := [(0, .ref (z.2.1 0)), (1, .int x1), (2, .int x2), (3, .int x3), (4, .int x4)]) (by decide) rfl (Nat.le_of_ble_eq_true rfl) rfl (fun Φ C => ?_)
  unfold fX8_finds at h
  have hret : r0 = r0 ∧ μ = μ := ⟨rfl, rfl⟩
  refine la_aload_n C dX8_finds_0 0 rfl ?_
  refine GLMRX8_73 C dX8_finds_1 ?_
  refine la_iload_n C dX8_finds_4 1 rfl ?_
  obtain ⟨hi5, h⟩ := la_go h
  refine ALM22 C _ rfl hi5 dX8_finds_5 ?_
  refine la_if_ge C (tgt := 12) dX8_finds_6 (by decide) (fun hc => ?_) (fun hc => ?_)
  · replace h := la_t hc h
    refine la_aload_n C dX8_finds_12 0 rfl ?_
    refine GLMRX8_73 C dX8_finds_13 ?_
    refine la_iload_n C dX8_finds_16 1 rfl ?_
    obtain ⟨hi17, h⟩ := la_go h
    refine ALM22 C _ rfl hi17 dX8_finds_17 ?_
    refine la_iload_n C dX8_finds_18 2 rfl ?_
    refine la_icmp_eq C (tgt := 25) dX8_finds_19 (by decide) (fun hc => ?_) (fun hc => ?_)
    · replace h := la_t hc h
      refine la_iload_n C dX8_finds_25 3 rfl ?_
      refine la_if_lt C (tgt := 46) dX8_finds_26 (by decide) (fun hc => ?_) (fun hc => ?_)
      · replace h := la_t hc h
        refine la_sub C [] rfl ?_
        exact wX8_finds_J46 C  _  _ hret h
      · replace h := la_f hc h
        refine la_iload_n C dX8_finds_29 3 rfl ?_
        refine la_i2l C dX8_finds_30 ?_
        refine la_iload C dX8_finds_31 4 rfl ?_
        refine la_i2l C dX8_finds_33 ?_
        refine la_ladd C dX8_finds_34 ?_
        refine la_aload_n C dX8_finds_35 0 rfl ?_
        refine GLMRX8_76 C dX8_finds_36 ?_
        refine la_iload_n C dX8_finds_39 1 rfl ?_
        obtain ⟨hi40, h⟩ := la_go h
        refine ALM23 C _ rfl hi40 dX8_finds_40 ?_
        refine la_i2l C dX8_finds_41 ?_
        refine la_lcmp C dX8_finds_42 ?_
        refine la_if_le C (tgt := 51) dX8_finds_43 (by decide) (fun hc => ?_) (fun hc => ?_)
        · replace h := la_t hc h
          refine la_iconst C (v := 0) dX8_finds_51 (by decide) ?_
          exact la_iret C rfl (la_rR (P := (fun r' μ' => r' = r0 ∧ μ' = μ)) h hret) dX8_finds_52
        · replace h := la_f hc h
          refine la_sub C [] rfl ?_
          exact wX8_finds_J46 C  _  _ hret h
    · replace h := la_f hc h
      refine la_bipush C (v := (-12)) dX8_finds_22 (by decide) ?_
      exact la_iret C rfl (la_rR (P := (fun r' μ' => r' = r0 ∧ μ' = μ)) h hret) dX8_finds_24
  · replace h := la_f hc h
    refine la_bipush C (v := (-11)) dX8_finds_9 (by decide) ?_
    exact la_iret C rfl (la_rR (P := (fun r' μ' => r' = r0 ∧ μ' = μ)) h hret) dX8_finds_11

def fX8_isLane (x0 : Int32) (μ : la_Mem) : Option Int32 :=
  (fX8_in (Int32.toInt64 x0) 0 2 μ).bind (fun r6 => la_if (la_isb r6) (some r6))
set_option maxRecDepth 10000 in
theorem mX8_isLane {z : LMz} {l : Launch} (x0 : Int32) (μ : la_Mem) (r0 : Int32)  (h : fX8_isLane x0 μ = some r0) : la_M (LM z) l yX8_isLane cX8_isLane 1 (some .boolean) rmX8_isLane [.int x0] μ (fun r' μ' => r' = r0 ∧ μ' = μ) := by
  refine la_of (own := RX8) (lv := [(0, .int x0)]) (by decide) rfl (Nat.le_of_ble_eq_true rfl) rfl (fun Φ C => ?_)
  unfold fX8_isLane at h
  have hret : r0 = r0 ∧ μ = μ := ⟨rfl, rfl⟩
  refine la_iload_n C dX8_isLane_0 0 rfl ?_
  refine la_i2l C dX8_isLane_1 ?_
  refine la_lconst C (v := 0) dX8_isLane_2 (by decide) ?_
  refine la_ldc2 C (v := 2) wd_201 dX8_isLane_3 ?_
  obtain ⟨r6, hr6, h⟩ := la_bd h
  refine KLMRX8_87 C [.long (Int32.toInt64 x0), .long 0, .long 2] [] (mX8_in (Int32.toInt64 x0) 0 2 μ r6 hr6) ⟨by decide, by decide⟩ rfl rfl (Nat.le_of_ble_eq_true rfl) dX8_isLane_6 ?_
  obtain ⟨hz9, h⟩ := la_go h
  exact la_iret C (la_nb hz9) (la_rR (P := (fun r' μ' => r' = r0 ∧ μ' = μ)) h hret) dX8_isLane_9

def fX8_isSheet (x0 : Int32) (μ : la_Mem) : Option Int32 :=
  (fX8_in (Int32.toInt64 x0) 0 3 μ).bind (fun r6 => la_if (la_isb r6) (some r6))
set_option maxRecDepth 10000 in
theorem mX8_isSheet {z : LMz} {l : Launch} (x0 : Int32) (μ : la_Mem) (r0 : Int32)  (h : fX8_isSheet x0 μ = some r0) : la_M (LM z) l yX8_isSheet cX8_isSheet 1 (some .boolean) rmX8_isSheet [.int x0] μ (fun r' μ' => r' = r0 ∧ μ' = μ) := by
  refine la_of (own := RX8) (lv := [(0, .int x0)]) (by decide) rfl (Nat.le_of_ble_eq_true rfl) rfl (fun Φ C => ?_)
  unfold fX8_isSheet at h
  have hret : r0 = r0 ∧ μ = μ := ⟨rfl, rfl⟩
  refine la_iload_n C dX8_isSheet_0 0 rfl ?_
  refine la_i2l C dX8_isSheet_1 ?_
  refine la_lconst C (v := 0) dX8_isSheet_2 (by decide) ?_
  refine la_ldc2 C (v := 3) wd_197 dX8_isSheet_3 ?_
  obtain ⟨r6, hr6, h⟩ := la_bd h
  refine KLMRX8_87 C [.long (Int32.toInt64 x0), .long 0, .long 3] [] (mX8_in (Int32.toInt64 x0) 0 3 μ r6 hr6) ⟨by decide, by decide⟩ rfl rfl (Nat.le_of_ble_eq_true rfl) dX8_isSheet_6 ?_
  obtain ⟨hz9, h⟩ := la_go h
  exact la_iret C (la_nb hz9) (la_rR (P := (fun r' μ' => r' = r0 ∧ μ' = μ)) h hret) dX8_isSheet_9

def fX8_rails_L38 (x1 : Int32) (x3 : Int32) (μ : la_Mem) : Nat → Int32 → Option ((Int32 × la_Mem) ⊕ (Unit))
  | 0, _ => none
  | n + 1, x5 => if 12 ≤ x5 then (some (.inr ())) else (la_if (la_ix (((40 * x1) + x3) + x5) 160) ((fX8_in (Int32.toInt64 (μ 24 (Int32.toNatClampNeg (((40 * x1) + x3) + x5)))) 0 127 μ).bind (fun r64 => if r64 = 0 then (some (.inl ((-2), μ))) else ((fX8_rails_L38 x1 x3 μ n) (x5 + 1)))))
set_option maxRecDepth 10000 in
theorem wX8_rails_L38 {z : LMz} {l : Launch} {Post : Int32 → la_Mem → Prop} {Φ : Nat → List (Nat × Value) → List Value → la_Mem → Prop} (C : la_C (LM z) l rmX8_rails RX8 cX8_rails 6 (some .int) Post Φ) (x1 : Int32) (x3 : Int32) (μ : la_Mem)  (ex : ((Int32 × la_Mem) ⊕ (Unit))) (hret : ∀ q, ex = .inl q → Post q.1 q.2) (kx : ex = .inr () → Φ 79 [(0, .ref (z.2.1 0)), (1, .int x1), (3, .int x3)] [] μ) : ∀ (n : Nat) (x5 : Int32), fX8_rails_L38 x1 x3 μ n x5 = some ex → Φ 38 [(0, .ref (z.2.1 0)), (1, .int x1), (3, .int x3), (5, .int x5)] [] μ := by
  intro n
  induction n with
  | zero =>
    intro _ h
    cases h
  | succ n hrec =>
    intro x5 h
    rw [fX8_rails_L38] at h
    refine la_iload C dX8_rails_38 3 rfl ?_
    refine la_bipush C (v := 12) dX8_rails_40 (by decide) ?_
    refine la_icmp_ge C (tgt := 79) dX8_rails_42 (by decide) (fun hc => ?_) (fun hc => ?_)
    · replace h := la_t hc h
      refine la_sub C [0, 1, 2] rfl ?_
      exact kx (Option.some.inj h).symm
    · replace h := la_f hc h
      refine la_aload_n C dX8_rails_45 0 rfl ?_
      refine GLMRX8_79 C dX8_rails_46 ?_
      refine la_bipush C (v := 40) dX8_rails_49 (by decide) ?_
      refine la_iload_n C dX8_rails_51 1 rfl ?_
      refine la_imul C dX8_rails_52 ?_
      refine la_iload_n C dX8_rails_53 2 rfl ?_
      refine la_iadd C dX8_rails_54 ?_
      refine la_iload C dX8_rails_55 3 rfl ?_
      refine la_iadd C dX8_rails_57 ?_
      obtain ⟨hi58, h⟩ := la_go h
      refine ALM24 C _ rfl hi58 dX8_rails_58 ?_
      refine la_i2l C dX8_rails_59 ?_
      refine la_lconst C (v := 0) dX8_rails_60 (by decide) ?_
      refine la_ldc2 C (v := 127) wd_145 dX8_rails_61 ?_
      obtain ⟨r64, hr64, h⟩ := la_bd h
      refine KLMRX8_87 C [.long (Int32.toInt64 (μ 24 (Int32.toNatClampNeg (((40 * x1) + x3) + x5)))), .long 0, .long 127] [] (mX8_in (Int32.toInt64 (μ 24 (Int32.toNatClampNeg (((40 * x1) + x3) + x5)))) 0 127 μ r64 hr64) ⟨by decide, by decide⟩ rfl rfl (Nat.le_of_ble_eq_true rfl) dX8_rails_64 ?_
      refine la_if_ne C (tgt := 73) dX8_rails_67 (by decide) (fun hc => ?_) (fun hc => ?_)
      · replace h := la_f hc h
        refine la_iinc C (v := (x5 + 1)) dX8_rails_73 3 rfl rfl (by decide) rfl ?_
        refine la_goto C (tgt := 38) dX8_rails_76 (by decide) ?_
        refine la_sub C [1, 2, 3, 0] rfl ?_
        exact hrec _ h
      · replace h := la_t hc h
        refine la_bipush C (v := (-2)) dX8_rails_70 (by decide) ?_
        exact la_iret C rfl (hret ((-2), μ) (Option.some.inj h).symm) dX8_rails_72
def fX8_rails_L82 (x1 : Int32) (x3 : Int32) : Nat → Int32 → la_Mem → Option (la_Mem)
  | 0, _, _ => none
  | n + 1, x5, μ => if 12 ≤ x5 then (some μ) else (la_if (la_ix (((40 * x1) + x3) + x5) 160) (la_if (la_ix x5 12) (la_st (la_ms μ 3 (Int32.toNatClampNeg x5) (μ 24 (Int32.toNatClampNeg (((40 * x1) + x3) + x5)))) (fun μ109 => (fX8_rails_L82 x1 x3 n) (x5 + 1) μ109))))
set_option maxRecDepth 10000 in
theorem wX8_rails_L82 {z : LMz} {l : Launch} {Post : Int32 → la_Mem → Prop} {Φ : Nat → List (Nat × Value) → List Value → la_Mem → Prop} (C : la_C (LM z) l rmX8_rails RX8 cX8_rails 6 (some .int) Post Φ) (x1 : Int32) (x3 : Int32)  (ex : (la_Mem)) (kx : ∀  (ν : la_Mem), ex = ν → Φ 116 [] [] ν) : ∀ (n : Nat) (x5 : Int32) (μ : la_Mem), fX8_rails_L82 x1 x3 n x5 μ = some ex → Φ 82 [(0, .ref (z.2.1 0)), (1, .int x1), (3, .int x3), (5, .int x5)] [] μ := by
  intro n
  induction n with
  | zero =>
    intro _ _ h
    cases h
  | succ n hrec =>
    intro x5 μ h
    rw [fX8_rails_L82] at h
    refine la_iload C dX8_rails_82 3 rfl ?_
    refine la_bipush C (v := 12) dX8_rails_84 (by decide) ?_
    refine la_icmp_ge C (tgt := 116) dX8_rails_86 (by decide) (fun hc => ?_) (fun hc => ?_)
    · replace h := la_t hc h
      refine la_sub C [] rfl ?_
      exact kx _ (Option.some.inj h).symm
    · replace h := la_f hc h
      refine la_aload_n C dX8_rails_89 0 rfl ?_
      refine GLMRX8_16 C dX8_rails_90 ?_
      refine la_iload C dX8_rails_93 3 rfl ?_
      refine la_aload_n C dX8_rails_95 0 rfl ?_
      refine GLMRX8_79 C dX8_rails_96 ?_
      refine la_bipush C (v := 40) dX8_rails_99 (by decide) ?_
      refine la_iload_n C dX8_rails_101 1 rfl ?_
      refine la_imul C dX8_rails_102 ?_
      refine la_iload_n C dX8_rails_103 2 rfl ?_
      refine la_iadd C dX8_rails_104 ?_
      refine la_iload C dX8_rails_105 3 rfl ?_
      refine la_iadd C dX8_rails_107 ?_
      obtain ⟨hi108, h⟩ := la_go h
      refine ALM24 C _ rfl hi108 dX8_rails_108 ?_
      obtain ⟨hi109, h⟩ := la_go h
      obtain ⟨μ109, eμ109, h⟩ := la_so h
      refine BLM3 C _ rfl hi109 eμ109 dX8_rails_109 ?_
      refine la_iinc C (v := (x5 + 1)) dX8_rails_110 3 rfl rfl (by decide) rfl ?_
      refine la_goto C (tgt := 82) dX8_rails_113 (by decide) ?_
      refine la_sub C [1, 2, 3, 0] rfl ?_
      exact hrec _ _ h
def fX8_rails (x1 : Int32) (x2 : Int32) (x3 : Int32) (μ : la_Mem) : Option (Int32 × la_Mem) :=
  (fX8_isSheet x1 μ).bind (fun r1 => if r1 = 0 then (some ((-1), μ)) else ((fX8_isLane x2 μ).bind (fun r8 => if r8 = 0 then (some ((-1), μ)) else ((fX8_finds x1 x2 x3 12 μ).bind (fun r22 => if 0 ≤ r22 then (la_x0 (fX8_rails_L38 x1 x3 μ 400 0) some (fun _ => Option.bind (fX8_rails_L82 x1 x3 400 0 μ) (fun ν82 => some (12, ν82)))) else (some (r22, μ)))))))
set_option maxRecDepth 10000 in
theorem mX8_rails {z : LMz} {l : Launch} (x1 : Int32) (x2 : Int32) (x3 : Int32) (μ : la_Mem) (r0 : Int32) (μ0 : la_Mem)  (h : fX8_rails x1 x2 x3 μ = some (r0, μ0)) : la_M (LM z) l yX8_rails cX8_rails 6 (some .int) rmX8_rails [.ref (z.2.1 0), .int x1, .int x2, .int x3] μ (fun r' μ' => r' = r0 ∧ μ' = μ0) := by
  refine la_of (own := RX8) (lv := [(0, .ref (z.2.1 0)), (1, .int x1), (2, .int x2), (3, .int x3)]) (by decide) rfl (Nat.le_of_ble_eq_true rfl) rfl (fun Φ C => ?_)
  unfold fX8_rails at h
  have hret : r0 = r0 ∧ μ0 = μ0 := ⟨rfl, rfl⟩
  refine la_iload_n C dX8_rails_0 1 rfl ?_
  obtain ⟨r1, hr1, h⟩ := la_bd h
  refine KLMRX8_101 C [.int x1] [] (mX8_isSheet x1 μ r1 hr1) ⟨by decide, by decide⟩ rfl rfl (Nat.le_of_ble_eq_true rfl) dX8_rails_1 ?_
  refine la_if_eq C (tgt := 14) dX8_rails_4 (by decide) (fun hc => ?_) (fun hc => ?_)
  · replace h := la_t hc h
    refine la_iconst C (v := (-1)) dX8_rails_14 (by decide) ?_
    exact la_iret C rfl (la_rW (P := (fun r' μ' => r' = r0 ∧ μ' = μ0)) h hret) dX8_rails_15
  · replace h := la_f hc h
    refine la_iload_n C dX8_rails_7 2 rfl ?_
    obtain ⟨r8, hr8, h⟩ := la_bd h
    refine KLMRX8_104 C [.int x2] [] (mX8_isLane x2 μ r8 hr8) ⟨by decide, by decide⟩ rfl rfl (Nat.le_of_ble_eq_true rfl) dX8_rails_8 ?_
    refine la_if_ne C (tgt := 16) dX8_rails_11 (by decide) (fun hc => ?_) (fun hc => ?_)
    · replace h := la_f hc h
      refine la_aload_n C dX8_rails_16 0 rfl ?_
      refine la_iload_n C dX8_rails_17 1 rfl ?_
      refine la_iload_n C dX8_rails_18 2 rfl ?_
      refine la_iload_n C dX8_rails_19 3 rfl ?_
      refine la_bipush C (v := 12) dX8_rails_20 (by decide) ?_
      obtain ⟨r22, hr22, h⟩ := la_bd h
      refine KLMRX8_107 C [.int x1, .int x2, .int x3, .int 12] [] (mX8_finds x1 x2 x3 12 μ r22 hr22) ⟨by decide, by decide⟩ rfl rfl (Nat.le_of_ble_eq_true rfl) dX8_rails_22 ?_
      refine la_istore C dX8_rails_25 (by decide) rfl ?_
      refine la_iload C dX8_rails_27 0 rfl ?_
      refine la_if_ge C (tgt := 35) dX8_rails_29 (by decide) (fun hc => ?_) (fun hc => ?_)
      · replace h := la_t hc h
        refine la_iconst C (v := 0) dX8_rails_35 (by decide) ?_
        refine la_istore C dX8_rails_36 (by decide) rfl ?_
        rcases la_x0o h with ⟨qq38, hL38, h⟩ | ⟨hL38, h⟩
        · refine la_sub C [2, 3, 5, 0] rfl ?_
          refine wX8_rails_L38 C _ _ _  _ (fun _ e => by cases e; cases h; exact hret) (fun e => by cases e) _ _ hL38
        · refine la_sub C [2, 3, 5, 0] rfl ?_
          refine wX8_rails_L38 C _ _ _  _ (fun _ e => by cases e) (fun e => ?_) _ _ hL38
          cases e
          refine la_iconst C (v := 0) dX8_rails_79 (by decide) ?_
          refine la_istore C dX8_rails_80 (by decide) rfl ?_
          obtain ⟨ν82, hL82, h⟩ := la_bd h
          refine la_sub C [1, 2, 3, 0] rfl ?_
          refine wX8_rails_L82 C _ _  _ (fun _ e => ?_) _ _ _ hL82
          cases e
          refine la_bipush C (v := 12) dX8_rails_116 (by decide) ?_
          exact la_iret C rfl (la_rW (P := (fun r' μ' => r' = r0 ∧ μ' = μ0)) h hret) dX8_rails_118
      · replace h := la_f hc h
        refine la_iload C dX8_rails_32 0 rfl ?_
        exact la_iret C rfl (la_rW (P := (fun r' μ' => r' = r0 ∧ μ' = μ0)) h hret) dX8_rails_34
    · replace h := la_t hc h
      refine la_iconst C (v := (-1)) dX8_rails_14 (by decide) ?_
      exact la_iret C rfl (la_rW (P := (fun r' μ' => r' = r0 ∧ μ' = μ0)) h hret) dX8_rails_15

def fX8_set_J77 (x1 : Int32) (x2 : Int32) (x3 : Int32) (s0 : Int32) (μ : la_Mem) : Option (Int32 × la_Mem) :=
  (fX8_in (Int32.toInt64 x2) (Int32.toInt64 x3) (Int32.toInt64 s0) μ).bind (fun r86 => if r86 = 0 then (some ((-1), μ)) else (la_if (la_ix x1 4) (la_st ((μ 5 (Int32.toNatClampNeg x1))) (fun v100 => la_if (la_ix x1 4) (la_st (la_ms μ 5 (Int32.toNatClampNeg x1) x2) (fun μ108 => some (v100, μ108)))))))
set_option maxRecDepth 10000 in
theorem wX8_set_J77 {z : LMz} {l : Launch} {Post : Int32 → la_Mem → Prop} {Φ : Nat → List (Nat × Value) → List Value → la_Mem → Prop} (C : la_C (LM z) l rmX8_set RX8 cX8_set 6 (some .int) Post Φ) (x1 : Int32) (x2 : Int32) (x3 : Int32) (s0 : Int32) (μ : la_Mem)  (ex : (Int32 × la_Mem)) (hret : Post ex.1 ex.2) (h : fX8_set_J77 x1 x2 x3 s0 μ = some ex) : Φ 77 [(0, .ref (z.2.1 0)), (1, .int x1), (2, .int x2), (3, .int x3)] [.int s0] μ := by
  unfold fX8_set_J77 at h
  refine la_istore C dX8_set_77 (by decide) rfl ?_
  refine la_iload_n C dX8_set_79 3 rfl ?_
  refine la_i2l C dX8_set_80 ?_
  refine la_iload_n C dX8_set_81 4 rfl ?_
  refine la_i2l C dX8_set_82 ?_
  refine la_iload C dX8_set_83 0 rfl ?_
  refine la_i2l C dX8_set_85 ?_
  obtain ⟨r86, hr86, h⟩ := la_bd h
  refine KLMRX8_87 C [.long (Int32.toInt64 x2), .long (Int32.toInt64 x3), .long (Int32.toInt64 s0)] [] (mX8_in (Int32.toInt64 x2) (Int32.toInt64 x3) (Int32.toInt64 s0) μ r86 hr86) ⟨by decide, by decide⟩ rfl rfl (Nat.le_of_ble_eq_true rfl) dX8_set_86 ?_
  refine la_if_ne C (tgt := 94) dX8_set_89 (by decide) (fun hc => ?_) (fun hc => ?_)
  · replace h := la_f hc h
    refine la_aload_n C dX8_set_94 1 rfl ?_
    refine GLMRX8_22 C dX8_set_95 ?_
    refine la_iload_n C dX8_set_98 2 rfl ?_
    obtain ⟨hi99, h⟩ := la_go h
    refine ALM5 C _ rfl hi99 dX8_set_99 ?_
    obtain ⟨v100, ev100, h⟩ := la_so h
    refine la_nm C ev100 ?_
    refine la_istore C dX8_set_100 (by decide) rfl ?_
    refine la_aload_n C dX8_set_102 2 rfl ?_
    refine GLMRX8_22 C dX8_set_103 ?_
    refine la_iload_n C dX8_set_106 3 rfl ?_
    refine la_iload_n C dX8_set_107 4 rfl ?_
    obtain ⟨hi108, h⟩ := la_go h
    obtain ⟨μ108, eμ108, h⟩ := la_so h
    refine BLM5 C _ rfl hi108 eμ108 dX8_set_108 ?_
    refine la_iload C dX8_set_109 0 rfl ?_
    exact la_iret C rfl (la_rW (P := Post) h hret) dX8_set_111
  · replace h := la_t hc h
    refine la_iconst C (v := (-1)) dX8_set_92 (by decide) ?_
    exact la_iret C rfl (la_rW (P := Post) h hret) dX8_set_93
def fX8_set_J39 (x1 : Int32) (x2 : Int32) (s0 : Int32) (μ : la_Mem) : Option (Int32 × la_Mem) :=
  if x1 = 0 then (fX8_set_J77 x1 x2 s0 (μ 5 1) μ) else (if x1 = 1 then (fX8_set_J77 x1 x2 s0 40 μ) else (if x1 = 2 then (fX8_set_J77 x1 x2 s0 400 μ) else (fX8_set_J77 x1 x2 s0 200 μ)))
set_option maxRecDepth 10000 in
theorem wX8_set_J39 {z : LMz} {l : Launch} {Post : Int32 → la_Mem → Prop} {Φ : Nat → List (Nat × Value) → List Value → la_Mem → Prop} (C : la_C (LM z) l rmX8_set RX8 cX8_set 6 (some .int) Post Φ) (x1 : Int32) (x2 : Int32) (s0 : Int32) (μ : la_Mem)  (ex : (Int32 × la_Mem)) (hret : Post ex.1 ex.2) (h : fX8_set_J39 x1 x2 s0 μ = some ex) : Φ 39 [(0, .ref (z.2.1 0)), (1, .int x1), (2, .int x2)] [.int s0] μ := by
  unfold fX8_set_J39 at h
  refine la_istore_n C dX8_set_39 (by decide) rfl ?_
  refine la_iload_n C dX8_set_40 2 rfl ?_
  refine la_if_ne C (tgt := 53) dX8_set_41 (by decide) (fun hc => ?_) (fun hc => ?_)
  · replace h := la_f hc h
    refine la_iload_n C dX8_set_53 2 rfl ?_
    refine la_iconst C (v := 1) dX8_set_54 (by decide) ?_
    refine la_icmp_ne C (tgt := 63) dX8_set_55 (by decide) (fun hc => ?_) (fun hc => ?_)
    · replace h := la_f hc h
      refine la_iload_n C dX8_set_63 2 rfl ?_
      refine la_iconst C (v := 2) dX8_set_64 (by decide) ?_
      refine la_icmp_ne C (tgt := 74) dX8_set_65 (by decide) (fun hc => ?_) (fun hc => ?_)
      · replace h := la_f hc h
        refine la_sipush C (v := 200) dX8_set_74 (by decide) ?_
        refine la_sub C [1, 2, 3, 0] rfl ?_
        exact wX8_set_J77 C _ _ _ _ _  _ hret h
      · replace h := la_t hc h
        refine la_sipush C (v := 400) dX8_set_68 (by decide) ?_
        refine la_goto C (tgt := 77) dX8_set_71 (by decide) ?_
        refine la_sub C [1, 2, 3, 0] rfl ?_
        exact wX8_set_J77 C _ _ _ _ _  _ hret h
    · replace h := la_t hc h
      refine la_bipush C (v := 40) dX8_set_58 (by decide) ?_
      refine la_goto C (tgt := 77) dX8_set_60 (by decide) ?_
      refine la_sub C [1, 2, 3, 0] rfl ?_
      exact wX8_set_J77 C _ _ _ _ _  _ hret h
  · replace h := la_t hc h
    refine la_aload_n C dX8_set_44 1 rfl ?_
    refine GLMRX8_22 C dX8_set_45 ?_
    refine la_iconst C (v := 1) dX8_set_48 (by decide) ?_
    refine ALM5 C 1 (by decide) (by decide) dX8_set_49 ?_
    refine la_goto C (tgt := 77) dX8_set_50 (by decide) ?_
    refine la_sub C [1, 2, 3, 0] rfl ?_
    exact wX8_set_J77 C _ _ _ _ _  _ hret h
def fX8_set (x1 : Int32) (x2 : Int32) (μ : la_Mem) : Option (Int32 × la_Mem) :=
  (fX8_in (Int32.toInt64 x1) 0 3 μ).bind (fun r6 => if r6 = 0 then (some ((-1), μ)) else (if x1 = 1 then (fX8_set_J39 x1 x2 (μ 5 0) μ) else (if x1 = 2 then (fX8_set_J39 x1 x2 10 μ) else (fX8_set_J39 x1 x2 1 μ))))
set_option maxRecDepth 10000 in
theorem mX8_set {z : LMz} {l : Launch} (x1 : Int32) (x2 : Int32) (μ : la_Mem) (r0 : Int32) (μ0 : la_Mem)  (h : fX8_set x1 x2 μ = some (r0, μ0)) : la_M (LM z) l yX8_set cX8_set 6 (some .int) rmX8_set [.ref (z.2.1 0), .int x1, .int x2] μ (fun r' μ' => r' = r0 ∧ μ' = μ0) := by
  refine la_of (own := RX8) (lv := [(0, .ref (z.2.1 0)), (1, .int x1), (2, .int x2)]) (by decide) rfl (Nat.le_of_ble_eq_true rfl) rfl (fun Φ C => ?_)
  unfold fX8_set at h
  have hret : r0 = r0 ∧ μ0 = μ0 := ⟨rfl, rfl⟩
  refine la_iload_n C dX8_set_0 1 rfl ?_
  refine la_i2l C dX8_set_1 ?_
  refine la_lconst C (v := 0) dX8_set_2 (by decide) ?_
  refine la_ldc2 C (v := 3) wd_197 dX8_set_3 ?_
  obtain ⟨r6, hr6, h⟩ := la_bd h
  refine KLMRX8_87 C [.long (Int32.toInt64 x1), .long 0, .long 3] [] (mX8_in (Int32.toInt64 x1) 0 3 μ r6 hr6) ⟨by decide, by decide⟩ rfl rfl (Nat.le_of_ble_eq_true rfl) dX8_set_6 ?_
  refine la_if_ne C (tgt := 14) dX8_set_9 (by decide) (fun hc => ?_) (fun hc => ?_)
  · replace h := la_f hc h
    refine la_iload_n C dX8_set_14 1 rfl ?_
    refine la_iconst C (v := 1) dX8_set_15 (by decide) ?_
    refine la_icmp_ne C (tgt := 28) dX8_set_16 (by decide) (fun hc => ?_) (fun hc => ?_)
    · replace h := la_f hc h
      refine la_iload_n C dX8_set_28 1 rfl ?_
      refine la_iconst C (v := 2) dX8_set_29 (by decide) ?_
      refine la_icmp_ne C (tgt := 38) dX8_set_30 (by decide) (fun hc => ?_) (fun hc => ?_)
      · replace h := la_f hc h
        refine la_iconst C (v := 1) dX8_set_38 (by decide) ?_
        refine la_sub C [0, 1, 2] rfl ?_
        exact wX8_set_J39 C _ _ _ _  _ hret h
      · replace h := la_t hc h
        refine la_bipush C (v := 10) dX8_set_33 (by decide) ?_
        refine la_goto C (tgt := 39) dX8_set_35 (by decide) ?_
        refine la_sub C [0, 1, 2] rfl ?_
        exact wX8_set_J39 C _ _ _ _  _ hret h
    · replace h := la_t hc h
      refine la_aload_n C dX8_set_19 0 rfl ?_
      refine GLMRX8_22 C dX8_set_20 ?_
      refine la_iconst C (v := 0) dX8_set_23 (by decide) ?_
      refine ALM5 C 0 (by decide) (by decide) dX8_set_24 ?_
      refine la_goto C (tgt := 39) dX8_set_25 (by decide) ?_
      refine la_sub C [0, 1, 2] rfl ?_
      exact wX8_set_J39 C _ _ _ _  _ hret h
  · replace h := la_t hc h
    refine la_iconst C (v := (-1)) dX8_set_12 (by decide) ?_
    exact la_iret C rfl (la_rW (P := (fun r' μ' => r' = r0 ∧ μ' = μ0)) h hret) dX8_set_13

def fX8_fallsAt_L2 (x1 : Int32) (μ : la_Mem) : Nat → Int32 → Option (Int32 ⊕ (Unit))
  | 0, _ => none
  | n + 1, x2 => if 12 ≤ x2 then (some (.inr ())) else (la_if (la_ix x2 12) (if ((μ 3 (Int32.toNatClampNeg x2)) &&& x1) = 0 then (some (.inl x2)) else ((fX8_fallsAt_L2 x1 μ n) (x2 + 1))))
set_option maxRecDepth 10000 in
theorem wX8_fallsAt_L2 {z : LMz} {l : Launch} {Post : Int32 → la_Mem → Prop} {Φ : Nat → List (Nat × Value) → List Value → la_Mem → Prop} (C : la_C (LM z) l rmX8_fallsAt RX8 cX8_fallsAt 3 (some .int) Post Φ) (x1 : Int32) (μ : la_Mem)  (ex : (Int32 ⊕ (Unit))) (hret : ∀ q, ex = .inl q → Post q μ) (kx : ex = .inr () → Φ 27 [] [] μ) : ∀ (n : Nat) (x2 : Int32), fX8_fallsAt_L2 x1 μ n x2 = some ex → Φ 2 [(0, .ref (z.2.1 0)), (1, .int x1), (2, .int x2)] [] μ := by
  intro n
  induction n with
  | zero =>
    intro _ h
    cases h
  | succ n hrec =>
    intro x2 h
    rw [fX8_fallsAt_L2] at h
    refine la_iload_n C dX8_fallsAt_2 2 rfl ?_
    refine la_bipush C (v := 12) dX8_fallsAt_3 (by decide) ?_
    refine la_icmp_ge C (tgt := 27) dX8_fallsAt_5 (by decide) (fun hc => ?_) (fun hc => ?_)
    · replace h := la_t hc h
      refine la_sub C [] rfl ?_
      exact kx (Option.some.inj h).symm
    · replace h := la_f hc h
      refine la_aload_n C dX8_fallsAt_8 0 rfl ?_
      refine GLMRX8_16 C dX8_fallsAt_9 ?_
      refine la_iload_n C dX8_fallsAt_12 2 rfl ?_
      obtain ⟨hi13, h⟩ := la_go h
      refine ALM3 C _ rfl hi13 dX8_fallsAt_13 ?_
      refine la_iload_n C dX8_fallsAt_14 1 rfl ?_
      refine la_iand C dX8_fallsAt_15 ?_
      refine la_if_ne C (tgt := 21) dX8_fallsAt_16 (by decide) (fun hc => ?_) (fun hc => ?_)
      · replace h := la_f hc h
        refine la_iinc C (v := (x2 + 1)) dX8_fallsAt_21 2 rfl rfl (by decide) rfl ?_
        refine la_goto C (tgt := 2) dX8_fallsAt_24 (by decide) ?_
        refine la_sub C [1, 2, 0] rfl ?_
        exact hrec _ h
      · replace h := la_t hc h
        refine la_iload_n C dX8_fallsAt_19 2 rfl ?_
        exact la_iret C rfl (hret x2 (Option.some.inj h).symm) dX8_fallsAt_20
def fX8_fallsAt (x1 : Int32) (μ : la_Mem) : Option Int32 :=
  la_x0 (fX8_fallsAt_L2 x1 μ 400 0) some (fun _ => some 12)
set_option maxRecDepth 10000 in
theorem mX8_fallsAt {z : LMz} {l : Launch} (x1 : Int32) (μ : la_Mem) (r0 : Int32)  (h : fX8_fallsAt x1 μ = some r0) : la_M (LM z) l yX8_fallsAt cX8_fallsAt 3 (some .int) rmX8_fallsAt [.ref (z.2.1 0), .int x1] μ (fun r' μ' => r' = r0 ∧ μ' = μ) := by
  refine la_of (own := RX8) (lv := [(0, .ref (z.2.1 0)), (1, .int x1)]) (by decide) rfl (Nat.le_of_ble_eq_true rfl) rfl (fun Φ C => ?_)
  unfold fX8_fallsAt at h
  have hret : r0 = r0 ∧ μ = μ := ⟨rfl, rfl⟩
  refine la_iconst C (v := 0) dX8_fallsAt_0 (by decide) ?_
  refine la_istore_n C dX8_fallsAt_1 (by decide) rfl ?_
  rcases la_x0o h with ⟨qq2, hL2, h⟩ | ⟨hL2, h⟩
  · refine la_sub C [1, 2, 0] rfl ?_
    refine wX8_fallsAt_L2 C _ _  _ (fun _ e => by cases e; cases h; exact hret) (fun e => by cases e) _ _ hL2
  · refine la_sub C [1, 2, 0] rfl ?_
    refine wX8_fallsAt_L2 C _ _  _ (fun _ e => by cases e) (fun e => ?_) _ _ hL2
    cases e
    refine la_bipush C (v := 12) dX8_fallsAt_27 (by decide) ?_
    exact la_iret C rfl (la_rR (P := (fun r' μ' => r' = r0 ∧ μ' = μ)) h hret) dX8_fallsAt_29

def fX8_falls (x1 : Int32) (μ : la_Mem) : Option Int32 :=
  (fX8_in (Int32.toInt64 x1) 0 127 μ).bind (fun r6 => if r6 = 0 then (some (-1)) else ((fX8_fallsAt x1 μ).bind (fun r14 => some r14)))
set_option maxRecDepth 10000 in
theorem mX8_falls {z : LMz} {l : Launch} (x1 : Int32) (μ : la_Mem) (r0 : Int32)  (h : fX8_falls x1 μ = some r0) : la_M (LM z) l yX8_falls cX8_falls 2 (some .int) rmX8_falls [.ref (z.2.1 0), .int x1] μ (fun r' μ' => r' = r0 ∧ μ' = μ) := by
  refine la_of (own := RX8) (lv := [(0, .ref (z.2.1 0)), (1, .int x1)]) (by decide) rfl (Nat.le_of_ble_eq_true rfl) rfl (fun Φ C => ?_)
  unfold fX8_falls at h
  have hret : r0 = r0 ∧ μ = μ := ⟨rfl, rfl⟩
  refine la_iload_n C dX8_falls_0 1 rfl ?_
  refine la_i2l C dX8_falls_1 ?_
  refine la_lconst C (v := 0) dX8_falls_2 (by decide) ?_
  refine la_ldc2 C (v := 127) wd_145 dX8_falls_3 ?_
  obtain ⟨r6, hr6, h⟩ := la_bd h
  refine KLMRX8_87 C [.long (Int32.toInt64 x1), .long 0, .long 127] [] (mX8_in (Int32.toInt64 x1) 0 127 μ r6 hr6) ⟨by decide, by decide⟩ rfl rfl (Nat.le_of_ble_eq_true rfl) dX8_falls_6 ?_
  refine la_if_eq C (tgt := 20) dX8_falls_9 (by decide) (fun hc => ?_) (fun hc => ?_)
  · replace h := la_t hc h
    refine la_iconst C (v := (-1)) dX8_falls_20 (by decide) ?_
    exact la_iret C rfl (la_rR (P := (fun r' μ' => r' = r0 ∧ μ' = μ)) h hret) dX8_falls_21
  · replace h := la_f hc h
    refine la_aload_n C dX8_falls_12 0 rfl ?_
    refine la_iload_n C dX8_falls_13 1 rfl ?_
    obtain ⟨r14, hr14, h⟩ := la_bd h
    refine KLMRX8_113 C [.int x1] [] (mX8_fallsAt x1 μ r14 hr14) ⟨by decide, by decide⟩ rfl rfl (Nat.le_of_ble_eq_true rfl) dX8_falls_14 ?_
    refine la_goto C (tgt := 21) dX8_falls_17 (by decide) ?_
    exact la_iret C rfl (la_rR (P := (fun r' μ' => r' = r0 ∧ μ' = μ)) h hret) dX8_falls_21

def fX8_astray_L2  (μ : la_Mem) : Nat → Int32 → Option (Int32 ⊕ (Unit))
  | 0, _ => none
  | n + 1, x1 => if 12 ≤ x1 then (some (.inr ())) else (la_if (la_ix x1 12) ((fX8_fallsAt (μ 2 (Int32.toNatClampNeg x1)) μ).bind (fun r15 => if r15 = x1 then ((fX8_astray_L2  μ n) (x1 + 1)) else (some (.inl x1)))))
set_option maxRecDepth 10000 in
theorem wX8_astray_L2 {z : LMz} {l : Launch} {Post : Int32 → la_Mem → Prop} {Φ : Nat → List (Nat × Value) → List Value → la_Mem → Prop} (C : la_C (LM z) l rmX8_astray RX8 cX8_astray 2 (some .int) Post Φ)  (μ : la_Mem)  (ex : (Int32 ⊕ (Unit))) (hret : ∀ q, ex = .inl q → Post q μ) (kx : ex = .inr () → Φ 30 [] [] μ) : ∀ (n : Nat) (x1 : Int32), fX8_astray_L2  μ n x1 = some ex → Φ 2 [(0, .ref (z.2.1 0)), (1, .int x1)] [] μ := by
  intro n
  induction n with
  | zero =>
    intro _ h
    cases h
  | succ n hrec =>
    intro x1 h
    rw [fX8_astray_L2] at h
    refine la_iload_n C dX8_astray_2 1 rfl ?_
    refine la_bipush C (v := 12) dX8_astray_3 (by decide) ?_
    refine la_icmp_ge C (tgt := 30) dX8_astray_5 (by decide) (fun hc => ?_) (fun hc => ?_)
    · replace h := la_t hc h
      refine la_sub C [] rfl ?_
      exact kx (Option.some.inj h).symm
    · replace h := la_f hc h
      refine la_aload_n C dX8_astray_8 0 rfl ?_
      refine la_aload_n C dX8_astray_9 0 rfl ?_
      refine GLMRX8_13 C dX8_astray_10 ?_
      refine la_iload_n C dX8_astray_13 1 rfl ?_
      obtain ⟨hi14, h⟩ := la_go h
      refine ALM2 C _ rfl hi14 dX8_astray_14 ?_
      obtain ⟨r15, hr15, h⟩ := la_bd h
      refine KLMRX8_113 C [.int (μ 2 (Int32.toNatClampNeg x1))] [] (mX8_fallsAt (μ 2 (Int32.toNatClampNeg x1)) μ r15 hr15) ⟨by decide, by decide⟩ rfl rfl (Nat.le_of_ble_eq_true rfl) dX8_astray_15 ?_
      refine la_iload_n C dX8_astray_18 1 rfl ?_
      refine la_icmp_eq C (tgt := 24) dX8_astray_19 (by decide) (fun hc => ?_) (fun hc => ?_)
      · replace h := la_t hc h
        refine la_iinc C (v := (x1 + 1)) dX8_astray_24 1 rfl rfl (by decide) rfl ?_
        refine la_goto C (tgt := 2) dX8_astray_27 (by decide) ?_
        refine la_sub C [1, 0] rfl ?_
        exact hrec _ h
      · replace h := la_f hc h
        refine la_iload_n C dX8_astray_22 1 rfl ?_
        exact la_iret C rfl (hret x1 (Option.some.inj h).symm) dX8_astray_23
def fX8_astray  (μ : la_Mem) : Option Int32 :=
  la_x0 (fX8_astray_L2  μ 400 0) some (fun _ => some (-4))
set_option maxRecDepth 10000 in
theorem mX8_astray {z : LMz} {l : Launch}  (μ : la_Mem) (r0 : Int32)  (h : fX8_astray  μ = some r0) : la_M (LM z) l yX8_astray cX8_astray 2 (some .int) rmX8_astray [.ref (z.2.1 0)] μ (fun r' μ' => r' = r0 ∧ μ' = μ) := by
  refine la_of (own := RX8) (lv := [(0, .ref (z.2.1 0))]) (by decide) rfl (Nat.le_of_ble_eq_true rfl) rfl (fun Φ C => ?_)
  unfold fX8_astray at h
  have hret : r0 = r0 ∧ μ = μ := ⟨rfl, rfl⟩
  refine la_iconst C (v := 0) dX8_astray_0 (by decide) ?_
  refine la_istore_n C dX8_astray_1 (by decide) rfl ?_
  rcases la_x0o h with ⟨qq2, hL2, h⟩ | ⟨hL2, h⟩
  · refine la_sub C [1, 0] rfl ?_
    refine wX8_astray_L2 C _  _ (fun _ e => by cases e; cases h; exact hret) (fun e => by cases e) _ _ hL2
  · refine la_sub C [1, 0] rfl ?_
    refine wX8_astray_L2 C _  _ (fun _ e => by cases e) (fun e => ?_) _ _ hL2
    cases e
    refine la_bipush C (v := (-4)) dX8_astray_30 (by decide) ?_
    exact la_iret C rfl (la_rR (P := (fun r' μ' => r' = r0 ∧ μ' = μ)) h hret) dX8_astray_32

def fX8_order_J108 (rec : Int32 → Int32 → Option (Int32)) (x1 : Int32) (x2 : Int32) (x3 : Int32) (x4 : Int32) (x5 : Int32) (x7 : Int32) (s0 : Int32) (μ : la_Mem) : Option (Int32) :=
  rec s0 (x7 + 1)
set_option maxRecDepth 10000 in
theorem wX8_order_J108 {z : LMz} {l : Launch} {Post : Int32 → la_Mem → Prop} {Φ : Nat → List (Nat × Value) → List Value → la_Mem → Prop} (C : la_C (LM z) l rmX8_order RX8 cX8_order 8 (some .int) Post Φ) (rec : Int32 → Int32 → Option (Int32)) (x1 : Int32) (x2 : Int32) (x3 : Int32) (x4 : Int32) (x5 : Int32) (x7 : Int32) (s0 : Int32) (μ : la_Mem)  (ex : (Int32)) (hrec : ∀ (y6 : Int32) (y7 : Int32), rec y6 y7 = some ex → Φ 54 [(0, .ref (z.2.1 0)), (1, .int x1), (2, .int x2), (3, .int x3), (4, .int x4), (5, .int x5), (6, .int y6), (7, .int y7)] [] μ) (kx : ∀ (y6 : Int32), ex = y6 → Φ 116 [(0, .ref (z.2.1 0)), (1, .int x1), (2, .int x2), (3, .int x3), (4, .int x4), (5, .int x5), (6, .int y6)] [] μ) (h : fX8_order_J108 rec x1 x2 x3 x4 x5 x7 s0 μ = some ex) : Φ 108 [(0, .ref (z.2.1 0)), (1, .int x1), (2, .int x2), (3, .int x3), (4, .int x4), (5, .int x5), (7, .int x7)] [.int s0] μ := by
  unfold fX8_order_J108 at h
  refine la_istore C dX8_order_108 (by decide) rfl ?_
  refine la_iinc C (v := (x7 + 1)) dX8_order_110 7 rfl rfl (by decide) rfl ?_
  refine la_goto C (tgt := 54) dX8_order_113 (by decide) ?_
  refine la_sub C [2, 3, 4, 5, 6, 7, 1, 0] rfl ?_
  exact hrec _ _ h
def fX8_order_J107 (rec : Int32 → Int32 → Option (Int32)) (x1 : Int32) (x2 : Int32) (x3 : Int32) (x4 : Int32) (x5 : Int32) (x7 : Int32) (μ : la_Mem) : Option (Int32) :=
  fX8_order_J108 rec x1 x2 x3 x4 x5 x7 0 μ
set_option maxRecDepth 10000 in
theorem wX8_order_J107 {z : LMz} {l : Launch} {Post : Int32 → la_Mem → Prop} {Φ : Nat → List (Nat × Value) → List Value → la_Mem → Prop} (C : la_C (LM z) l rmX8_order RX8 cX8_order 8 (some .int) Post Φ) (rec : Int32 → Int32 → Option (Int32)) (x1 : Int32) (x2 : Int32) (x3 : Int32) (x4 : Int32) (x5 : Int32) (x7 : Int32) (μ : la_Mem)  (ex : (Int32)) (hrec : ∀ (y6 : Int32) (y7 : Int32), rec y6 y7 = some ex → Φ 54 [(0, .ref (z.2.1 0)), (1, .int x1), (2, .int x2), (3, .int x3), (4, .int x4), (5, .int x5), (6, .int y6), (7, .int y7)] [] μ) (kx : ∀ (y6 : Int32), ex = y6 → Φ 116 [(0, .ref (z.2.1 0)), (1, .int x1), (2, .int x2), (3, .int x3), (4, .int x4), (5, .int x5), (6, .int y6)] [] μ) (h : fX8_order_J107 rec x1 x2 x3 x4 x5 x7 μ = some ex) : Φ 107 [(0, .ref (z.2.1 0)), (1, .int x1), (2, .int x2), (3, .int x3), (4, .int x4), (5, .int x5), (7, .int x7)] [] μ := by
  unfold fX8_order_J107 at h
  refine la_iconst C (v := 0) dX8_order_107 (by decide) ?_
  refine la_sub C [0, 1, 2, 3, 4, 5, 6] rfl ?_
  exact wX8_order_J108 C rec _ _ _ _ _ _ _ _  _ hrec kx h
def fX8_order_J103 (rec : Int32 → Int32 → Option (Int32)) (x1 : Int32) (x2 : Int32) (x3 : Int32) (x4 : Int32) (x5 : Int32) (x7 : Int32) (μ : la_Mem) : Option (Int32) :=
  fX8_order_J108 rec x1 x2 x3 x4 x5 x7 1 μ
set_option maxRecDepth 10000 in
theorem wX8_order_J103 {z : LMz} {l : Launch} {Post : Int32 → la_Mem → Prop} {Φ : Nat → List (Nat × Value) → List Value → la_Mem → Prop} (C : la_C (LM z) l rmX8_order RX8 cX8_order 8 (some .int) Post Φ) (rec : Int32 → Int32 → Option (Int32)) (x1 : Int32) (x2 : Int32) (x3 : Int32) (x4 : Int32) (x5 : Int32) (x7 : Int32) (μ : la_Mem)  (ex : (Int32)) (hrec : ∀ (y6 : Int32) (y7 : Int32), rec y6 y7 = some ex → Φ 54 [(0, .ref (z.2.1 0)), (1, .int x1), (2, .int x2), (3, .int x3), (4, .int x4), (5, .int x5), (6, .int y6), (7, .int y7)] [] μ) (kx : ∀ (y6 : Int32), ex = y6 → Φ 116 [(0, .ref (z.2.1 0)), (1, .int x1), (2, .int x2), (3, .int x3), (4, .int x4), (5, .int x5), (6, .int y6)] [] μ) (h : fX8_order_J103 rec x1 x2 x3 x4 x5 x7 μ = some ex) : Φ 103 [(0, .ref (z.2.1 0)), (1, .int x1), (2, .int x2), (3, .int x3), (4, .int x4), (5, .int x5), (7, .int x7)] [] μ := by
  unfold fX8_order_J103 at h
  refine la_iconst C (v := 1) dX8_order_103 (by decide) ?_
  refine la_goto C (tgt := 108) dX8_order_104 (by decide) ?_
  refine la_sub C [0, 1, 2, 3, 4, 5, 6] rfl ?_
  exact wX8_order_J108 C rec _ _ _ _ _ _ _ _  _ hrec kx h
def fX8_order_L54 (x1 : Int32) (x2 : Int32) (x3 : Int32) (x4 : Int32) (x5 : Int32) (μ : la_Mem) : Nat → Int32 → Int32 → Option (Int32)
  | 0, _, _ => none
  | n + 1, x6, x7 => if 12 ≤ x7 then (some x6) else (if x6 = 0 then (fX8_order_J107 (fX8_order_L54 x1 x2 x3 x4 x5 μ n) x1 x2 x3 x4 x5 x7 μ) else (if x7 = x5 then (fX8_order_J103 (fX8_order_L54 x1 x2 x3 x4 x5 μ n) x1 x2 x3 x4 x5 x7 μ) else (if ((x2 >>> (x7 &&& 31)) &&& 1) = 1 then (fX8_order_J103 (fX8_order_L54 x1 x2 x3 x4 x5 μ n) x1 x2 x3 x4 x5 x7 μ) else (la_if (la_ix x7 12) (la_if (la_ix x5 12) (if ((μ 2 (Int32.toNatClampNeg x7)) &&& ((μ 2 (Int32.toNatClampNeg x5)) ^^^ (-1))) = 0 then (fX8_order_J107 (fX8_order_L54 x1 x2 x3 x4 x5 μ n) x1 x2 x3 x4 x5 x7 μ) else (fX8_order_J103 (fX8_order_L54 x1 x2 x3 x4 x5 μ n) x1 x2 x3 x4 x5 x7 μ)))))))
set_option maxRecDepth 10000 in
theorem wX8_order_L54 {z : LMz} {l : Launch} {Post : Int32 → la_Mem → Prop} {Φ : Nat → List (Nat × Value) → List Value → la_Mem → Prop} (C : la_C (LM z) l rmX8_order RX8 cX8_order 8 (some .int) Post Φ) (x1 : Int32) (x2 : Int32) (x3 : Int32) (x4 : Int32) (x5 : Int32) (μ : la_Mem)  (ex : (Int32)) (kx : ∀ (y6 : Int32), ex = y6 → Φ 116 [(0, .ref (z.2.1 0)), (1, .int x1), (2, .int x2), (3, .int x3), (4, .int x4), (5, .int x5), (6, .int y6)] [] μ) : ∀ (n : Nat) (x6 : Int32) (x7 : Int32), fX8_order_L54 x1 x2 x3 x4 x5 μ n x6 x7 = some ex → Φ 54 [(0, .ref (z.2.1 0)), (1, .int x1), (2, .int x2), (3, .int x3), (4, .int x4), (5, .int x5), (6, .int x6), (7, .int x7)] [] μ := by
  intro n
  induction n with
  | zero =>
    intro _ _ h
    cases h
  | succ n hrec =>
    intro x6 x7 h
    rw [fX8_order_L54] at h
    refine la_iload C dX8_order_54 7 rfl ?_
    refine la_bipush C (v := 12) dX8_order_56 (by decide) ?_
    refine la_icmp_ge C (tgt := 116) dX8_order_58 (by decide) (fun hc => ?_) (fun hc => ?_)
    · replace h := la_t hc h
      refine la_sub C [0, 1, 2, 3, 4, 5, 6] rfl ?_
      exact kx _ (Option.some.inj h).symm
    · replace h := la_f hc h
      refine la_iload C dX8_order_61 6 rfl ?_
      refine la_if_eq C (tgt := 107) dX8_order_63 (by decide) (fun hc => ?_) (fun hc => ?_)
      · replace h := la_t hc h
        refine la_sub C [0, 1, 2, 3, 4, 5, 7] rfl ?_
        exact wX8_order_J107 C (fX8_order_L54 x1 x2 x3 x4 x5 μ n) _ _ _ _ _ _ _  _ hrec kx h
      · replace h := la_f hc h
        refine la_iload C dX8_order_66 7 rfl ?_
        refine la_iload C dX8_order_68 5 rfl ?_
        refine la_icmp_eq C (tgt := 103) dX8_order_70 (by decide) (fun hc => ?_) (fun hc => ?_)
        · replace h := la_t hc h
          refine la_sub C [0, 1, 2, 3, 4, 5, 7] rfl ?_
          exact wX8_order_J103 C (fX8_order_L54 x1 x2 x3 x4 x5 μ n) _ _ _ _ _ _ _  _ hrec kx h
        · replace h := la_f hc h
          refine la_iload_n C dX8_order_73 2 rfl ?_
          refine la_iload C dX8_order_74 7 rfl ?_
          refine la_ishr C dX8_order_76 ?_
          refine la_iconst C (v := 1) dX8_order_77 (by decide) ?_
          refine la_iand C dX8_order_78 ?_
          refine la_iconst C (v := 1) dX8_order_79 (by decide) ?_
          refine la_icmp_eq C (tgt := 103) dX8_order_80 (by decide) (fun hc => ?_) (fun hc => ?_)
          · replace h := la_t hc h
            refine la_sub C [0, 1, 2, 3, 4, 5, 7] rfl ?_
            exact wX8_order_J103 C (fX8_order_L54 x1 x2 x3 x4 x5 μ n) _ _ _ _ _ _ _  _ hrec kx h
          · replace h := la_f hc h
            refine la_aload_n C dX8_order_83 0 rfl ?_
            refine GLMRX8_13 C dX8_order_84 ?_
            refine la_iload C dX8_order_87 7 rfl ?_
            obtain ⟨hi89, h⟩ := la_go h
            refine ALM2 C _ rfl hi89 dX8_order_89 ?_
            refine la_aload_n C dX8_order_90 0 rfl ?_
            refine GLMRX8_13 C dX8_order_91 ?_
            refine la_iload C dX8_order_94 5 rfl ?_
            obtain ⟨hi96, h⟩ := la_go h
            refine ALM2 C _ rfl hi96 dX8_order_96 ?_
            refine la_iconst C (v := (-1)) dX8_order_97 (by decide) ?_
            refine la_ixor C dX8_order_98 ?_
            refine la_iand C dX8_order_99 ?_
            refine la_if_eq C (tgt := 107) dX8_order_100 (by decide) (fun hc => ?_) (fun hc => ?_)
            · replace h := la_t hc h
              refine la_sub C [0, 1, 2, 3, 4, 5, 7] rfl ?_
              exact wX8_order_J107 C (fX8_order_L54 x1 x2 x3 x4 x5 μ n) _ _ _ _ _ _ _  _ hrec kx h
            · replace h := la_f hc h
              refine la_sub C [0, 1, 2, 3, 4, 5, 7] rfl ?_
              exact wX8_order_J103 C (fX8_order_L54 x1 x2 x3 x4 x5 μ n) _ _ _ _ _ _ _  _ hrec kx h
def fX8_order_J127 (rec : Int32 → Int32 → Option (Int32)) (x1 : Int32) (x2 : Int32) (x4 : Int32) (x5 : Int32) (s0 : Int32) (μ : la_Mem) : Option (Int32) :=
  rec s0 (x5 + (-1))
set_option maxRecDepth 10000 in
theorem wX8_order_J127 {z : LMz} {l : Launch} {Post : Int32 → la_Mem → Prop} {Φ : Nat → List (Nat × Value) → List Value → la_Mem → Prop} (C : la_C (LM z) l rmX8_order RX8 cX8_order 8 (some .int) Post Φ) (rec : Int32 → Int32 → Option (Int32)) (x1 : Int32) (x2 : Int32) (x4 : Int32) (x5 : Int32) (s0 : Int32) (μ : la_Mem)  (ex : (Int32)) (hrec : ∀ (y3 : Int32) (y5 : Int32), rec y3 y5 = some ex → Φ 30 [(0, .ref (z.2.1 0)), (1, .int x1), (2, .int x2), (3, .int y3), (4, .int x4), (5, .int y5)] [] μ) (kx : ∀ (y3 : Int32), ex = y3 → Φ 134 [(0, .ref (z.2.1 0)), (1, .int x1), (2, .int x2), (3, .int y3), (4, .int x4)] [] μ) (h : fX8_order_J127 rec x1 x2 x4 x5 s0 μ = some ex) : Φ 127 [(0, .ref (z.2.1 0)), (1, .int x1), (2, .int x2), (4, .int x4), (5, .int x5)] [.int s0] μ := by
  unfold fX8_order_J127 at h
  refine la_istore_n C dX8_order_127 (by decide) rfl ?_
  refine la_iinc C (v := (x5 + (-1))) dX8_order_128 5 rfl rfl (by decide) rfl ?_
  refine la_goto C (tgt := 30) dX8_order_131 (by decide) ?_
  refine la_sub C [2, 3, 4, 1, 5, 0] rfl ?_
  exact hrec _ _ h
def fX8_order_J49 (rec : Int32 → Int32 → Option (Int32)) (x1 : Int32) (x2 : Int32) (x3 : Int32) (x4 : Int32) (x5 : Int32) (s0 : Int32) (μ : la_Mem) : Option (Int32) :=
  Option.bind (fX8_order_L54 x1 x2 x3 x4 x5 μ 400 s0 0) (fun q54_6 => if q54_6 = 0 then (fX8_order_J127 rec x1 x2 x4 x5 x3 μ) else (fX8_order_J127 rec x1 x2 x4 x5 x5 μ))
set_option maxRecDepth 10000 in
theorem wX8_order_J49 {z : LMz} {l : Launch} {Post : Int32 → la_Mem → Prop} {Φ : Nat → List (Nat × Value) → List Value → la_Mem → Prop} (C : la_C (LM z) l rmX8_order RX8 cX8_order 8 (some .int) Post Φ) (rec : Int32 → Int32 → Option (Int32)) (x1 : Int32) (x2 : Int32) (x3 : Int32) (x4 : Int32) (x5 : Int32) (s0 : Int32) (μ : la_Mem)  (ex : (Int32)) (hrec : ∀ (y3 : Int32) (y5 : Int32), rec y3 y5 = some ex → Φ 30 [(0, .ref (z.2.1 0)), (1, .int x1), (2, .int x2), (3, .int y3), (4, .int x4), (5, .int y5)] [] μ) (kx : ∀ (y3 : Int32), ex = y3 → Φ 134 [(0, .ref (z.2.1 0)), (1, .int x1), (2, .int x2), (3, .int y3), (4, .int x4)] [] μ) (h : fX8_order_J49 rec x1 x2 x3 x4 x5 s0 μ = some ex) : Φ 49 [(0, .ref (z.2.1 0)), (1, .int x1), (2, .int x2), (3, .int x3), (4, .int x4), (5, .int x5)] [.int s0] μ := by
  unfold fX8_order_J49 at h
  refine la_istore C dX8_order_49 (by decide) rfl ?_
  refine la_iconst C (v := 0) dX8_order_51 (by decide) ?_
  refine la_istore C dX8_order_52 (by decide) rfl ?_
  obtain ⟨q54_6, hL54, h⟩ := la_bd h
  refine la_sub C [2, 3, 4, 5, 6, 7, 1, 0] rfl ?_
  refine wX8_order_L54 C _ _ _ _ _ _  _ (fun _ e => ?_) _ _ _ hL54
  cases e
  refine la_iload C dX8_order_116 6 rfl ?_
  refine la_if_eq C (tgt := 126) dX8_order_118 (by decide) (fun hc => ?_) (fun hc => ?_)
  · replace h := la_t hc h
    refine la_iload_n C dX8_order_126 3 rfl ?_
    refine la_sub C [0, 1, 2, 4, 5] rfl ?_
    exact wX8_order_J127 C rec _ _ _ _ _ _  _ hrec kx h
  · replace h := la_f hc h
    refine la_iload C dX8_order_121 5 rfl ?_
    refine la_goto C (tgt := 127) dX8_order_123 (by decide) ?_
    refine la_sub C [0, 1, 2, 4, 5] rfl ?_
    exact wX8_order_J127 C rec _ _ _ _ _ _  _ hrec kx h
def fX8_order_L30 (x1 : Int32) (x2 : Int32) (x4 : Int32) (μ : la_Mem) : Nat → Int32 → Int32 → Option (Int32)
  | 0, _, _ => none
  | n + 1, x3, x5 => if x5 < 0 then (some x3) else (if ((x2 >>> (x5 &&& 31)) &&& 1) = 0 then (fX8_order_J49 (fX8_order_L30 x1 x2 x4 μ n) x1 x2 x3 x4 x5 1 μ) else (fX8_order_J49 (fX8_order_L30 x1 x2 x4 μ n) x1 x2 x3 x4 x5 0 μ))
set_option maxRecDepth 10000 in
theorem wX8_order_L30 {z : LMz} {l : Launch} {Post : Int32 → la_Mem → Prop} {Φ : Nat → List (Nat × Value) → List Value → la_Mem → Prop} (C : la_C (LM z) l rmX8_order RX8 cX8_order 8 (some .int) Post Φ) (x1 : Int32) (x2 : Int32) (x4 : Int32) (μ : la_Mem)  (ex : (Int32)) (kx : ∀ (y3 : Int32), ex = y3 → Φ 134 [(0, .ref (z.2.1 0)), (1, .int x1), (2, .int x2), (3, .int y3), (4, .int x4)] [] μ) : ∀ (n : Nat) (x3 : Int32) (x5 : Int32), fX8_order_L30 x1 x2 x4 μ n x3 x5 = some ex → Φ 30 [(0, .ref (z.2.1 0)), (1, .int x1), (2, .int x2), (3, .int x3), (4, .int x4), (5, .int x5)] [] μ := by
  intro n
  induction n with
  | zero =>
    intro _ _ h
    cases h
  | succ n hrec =>
    intro x3 x5 h
    rw [fX8_order_L30] at h
    refine la_iload C dX8_order_30 5 rfl ?_
    refine la_if_lt C (tgt := 134) dX8_order_32 (by decide) (fun hc => ?_) (fun hc => ?_)
    · replace h := la_t hc h
      refine la_sub C [0, 1, 2, 3, 4] rfl ?_
      exact kx _ (Option.some.inj h).symm
    · replace h := la_f hc h
      refine la_iload_n C dX8_order_35 2 rfl ?_
      refine la_iload C dX8_order_36 5 rfl ?_
      refine la_ishr C dX8_order_38 ?_
      refine la_iconst C (v := 1) dX8_order_39 (by decide) ?_
      refine la_iand C dX8_order_40 ?_
      refine la_if_ne C (tgt := 48) dX8_order_41 (by decide) (fun hc => ?_) (fun hc => ?_)
      · replace h := la_f hc h
        refine la_iconst C (v := 0) dX8_order_48 (by decide) ?_
        refine la_sub C [0, 1, 2, 3, 4, 5] rfl ?_
        exact wX8_order_J49 C (fX8_order_L30 x1 x2 x4 μ n) _ _ _ _ _ _ _  _ hrec kx h
      · replace h := la_t hc h
        refine la_iconst C (v := 1) dX8_order_44 (by decide) ?_
        refine la_goto C (tgt := 49) dX8_order_45 (by decide) ?_
        refine la_sub C [0, 1, 2, 3, 4, 5] rfl ?_
        exact wX8_order_J49 C (fX8_order_L30 x1 x2 x4 μ n) _ _ _ _ _ _ _  _ hrec kx h
def fX8_order_J146 (rec : Int32 → Int32 → Int32 → Option (Int32)) (x1 : Int32) (x3 : Int32) (x4 : Int32) (s0 : Int32) (s1 : Int32) (μ : la_Mem) : Option (Int32) :=
  la_st ((s1 ||| s0)) (fun v147 => rec v147 x3 (x4 + 1))
set_option maxRecDepth 10000 in
theorem wX8_order_J146 {z : LMz} {l : Launch} {Post : Int32 → la_Mem → Prop} {Φ : Nat → List (Nat × Value) → List Value → la_Mem → Prop} (C : la_C (LM z) l rmX8_order RX8 cX8_order 8 (some .int) Post Φ) (rec : Int32 → Int32 → Int32 → Option (Int32)) (x1 : Int32) (x3 : Int32) (x4 : Int32) (s0 : Int32) (s1 : Int32) (μ : la_Mem)  (ex : (Int32)) (hrec : ∀ (y2 : Int32) (y3 : Int32) (y4 : Int32), rec y2 y3 y4 = some ex → Φ 17 [(0, .ref (z.2.1 0)), (1, .int x1), (2, .int y2), (3, .int y3), (4, .int y4)] [] μ) (kx : ∀ (y3 : Int32), ex = y3 → Φ 154 [(0, .ref (z.2.1 0)), (3, .int y3)] [] μ) (h : fX8_order_J146 rec x1 x3 x4 s0 s1 μ = some ex) : Φ 146 [(0, .ref (z.2.1 0)), (1, .int x1), (3, .int x3), (4, .int x4)] [.int s0, .int s1] μ := by
  unfold fX8_order_J146 at h
  refine la_ior C dX8_order_146 ?_
  obtain ⟨v147, ev147, h⟩ := la_so h
  refine la_nm C ev147 ?_
  refine la_istore_n C dX8_order_147 (by decide) rfl ?_
  refine la_iinc C (v := (x4 + 1)) dX8_order_148 4 rfl rfl (by decide) rfl ?_
  refine la_goto C (tgt := 17) dX8_order_151 (by decide) ?_
  refine la_sub C [2, 3, 1, 4, 0] rfl ?_
  exact hrec _ _ _ h
def fX8_order_L17 (x1 : Int32) (μ : la_Mem) : Nat → Int32 → Int32 → Int32 → Option (Int32)
  | 0, _, _, _ => none
  | n + 1, x2, x3, x4 => if x1 < x4 then (some x3) else (Option.bind (fX8_order_L30 x1 x2 x4 μ 400 (-4) 11) (fun q30_3 => if 0 ≤ q30_3 then (fX8_order_J146 (fX8_order_L17 x1 μ n) x1 q30_3 x4 (1 <<< (q30_3 &&& 31)) x2 μ) else (fX8_order_J146 (fX8_order_L17 x1 μ n) x1 q30_3 x4 0 x2 μ)))
set_option maxRecDepth 10000 in
theorem wX8_order_L17 {z : LMz} {l : Launch} {Post : Int32 → la_Mem → Prop} {Φ : Nat → List (Nat × Value) → List Value → la_Mem → Prop} (C : la_C (LM z) l rmX8_order RX8 cX8_order 8 (some .int) Post Φ) (x1 : Int32) (μ : la_Mem)  (ex : (Int32)) (kx : ∀ (y3 : Int32), ex = y3 → Φ 154 [(0, .ref (z.2.1 0)), (3, .int y3)] [] μ) : ∀ (n : Nat) (x2 : Int32) (x3 : Int32) (x4 : Int32), fX8_order_L17 x1 μ n x2 x3 x4 = some ex → Φ 17 [(0, .ref (z.2.1 0)), (1, .int x1), (2, .int x2), (3, .int x3), (4, .int x4)] [] μ := by
  intro n
  induction n with
  | zero =>
    intro _ _ _ h
    cases h
  | succ n hrec =>
    intro x2 x3 x4 h
    rw [fX8_order_L17] at h
    refine la_iload C dX8_order_17 4 rfl ?_
    refine la_iload_n C dX8_order_19 1 rfl ?_
    refine la_icmp_gt C (tgt := 154) dX8_order_20 (by decide) (fun hc => ?_) (fun hc => ?_)
    · replace h := la_t hc h
      refine la_sub C [0, 3] rfl ?_
      exact kx _ (Option.some.inj h).symm
    · replace h := la_f hc h
      refine la_bipush C (v := (-4)) dX8_order_23 (by decide) ?_
      refine la_istore_n C dX8_order_25 (by decide) rfl ?_
      refine la_bipush C (v := 11) dX8_order_26 (by decide) ?_
      refine la_istore C dX8_order_28 (by decide) rfl ?_
      obtain ⟨q30_3, hL30, h⟩ := la_bd h
      refine la_sub C [2, 3, 4, 1, 5, 0] rfl ?_
      refine wX8_order_L30 C _ _ _ _  _ (fun _ e => ?_) _ _ _ hL30
      cases e
      refine la_iload_n C dX8_order_134 2 rfl ?_
      refine la_iload_n C dX8_order_135 3 rfl ?_
      refine la_if_ge C (tgt := 143) dX8_order_136 (by decide) (fun hc => ?_) (fun hc => ?_)
      · replace h := la_t hc h
        refine la_iconst C (v := 1) dX8_order_143 (by decide) ?_
        refine la_iload_n C dX8_order_144 3 rfl ?_
        refine la_ishl C dX8_order_145 ?_
        refine la_sub C [0, 1, 3, 4] rfl ?_
        exact wX8_order_J146 C (fX8_order_L17 x1 μ n) _ _ _ _ _ _  _ hrec kx h
      · replace h := la_f hc h
        refine la_iconst C (v := 0) dX8_order_139 (by decide) ?_
        refine la_goto C (tgt := 146) dX8_order_140 (by decide) ?_
        refine la_sub C [0, 1, 3, 4] rfl ?_
        exact wX8_order_J146 C (fX8_order_L17 x1 μ n) _ _ _ _ _ _  _ hrec kx h
def fX8_order_J197 (rec : Int32 → Int32 → Option (Int32)) (x4 : Int32) (x5 : Int32) (s0 : Int32) (μ : la_Mem) : Option (Int32) :=
  rec s0 (x5 + 1)
set_option maxRecDepth 10000 in
theorem wX8_order_J197 {z : LMz} {l : Launch} {Post : Int32 → la_Mem → Prop} {Φ : Nat → List (Nat × Value) → List Value → la_Mem → Prop} (C : la_C (LM z) l rmX8_order RX8 cX8_order 8 (some .int) Post Φ) (rec : Int32 → Int32 → Option (Int32)) (x4 : Int32) (x5 : Int32) (s0 : Int32) (μ : la_Mem)  (ex : (Int32)) (hrec : ∀ (y3 : Int32) (y5 : Int32), rec y3 y5 = some ex → Φ 167 [(0, .ref (z.2.1 0)), (3, .int y3), (4, .int x4), (5, .int y5)] [] μ) (kx : ∀ (y3 : Int32), ex = y3 → Φ 204 [(0, .ref (z.2.1 0)), (3, .int y3), (4, .int x4)] [] μ) (h : fX8_order_J197 rec x4 x5 s0 μ = some ex) : Φ 197 [(0, .ref (z.2.1 0)), (4, .int x4), (5, .int x5)] [.int s0] μ := by
  unfold fX8_order_J197 at h
  refine la_istore_n C dX8_order_197 (by decide) rfl ?_
  refine la_iinc C (v := (x5 + 1)) dX8_order_198 3 rfl rfl (by decide) rfl ?_
  refine la_goto C (tgt := 167) dX8_order_201 (by decide) ?_
  refine la_sub C [2, 1, 3, 0] rfl ?_
  exact hrec _ _ h
def fX8_order_L167 (x4 : Int32) (μ : la_Mem) : Nat → Int32 → Int32 → Option (Int32)
  | 0, _, _ => none
  | n + 1, x3, x5 => if x4 ≤ x5 then (some x3) else (la_if (la_ix x4 12) (la_if (la_ix x5 12) (if (μ 2 (Int32.toNatClampNeg x4)) = (μ 2 (Int32.toNatClampNeg x5)) then (fX8_order_J197 (fX8_order_L167 x4 μ n) x4 x5 (-4) μ) else (fX8_order_J197 (fX8_order_L167 x4 μ n) x4 x5 x3 μ))))
set_option maxRecDepth 10000 in
theorem wX8_order_L167 {z : LMz} {l : Launch} {Post : Int32 → la_Mem → Prop} {Φ : Nat → List (Nat × Value) → List Value → la_Mem → Prop} (C : la_C (LM z) l rmX8_order RX8 cX8_order 8 (some .int) Post Φ) (x4 : Int32) (μ : la_Mem)  (ex : (Int32)) (kx : ∀ (y3 : Int32), ex = y3 → Φ 204 [(0, .ref (z.2.1 0)), (3, .int y3), (4, .int x4)] [] μ) : ∀ (n : Nat) (x3 : Int32) (x5 : Int32), fX8_order_L167 x4 μ n x3 x5 = some ex → Φ 167 [(0, .ref (z.2.1 0)), (3, .int x3), (4, .int x4), (5, .int x5)] [] μ := by
  intro n
  induction n with
  | zero =>
    intro _ _ h
    cases h
  | succ n hrec =>
    intro x3 x5 h
    rw [fX8_order_L167] at h
    refine la_iload C dX8_order_167 3 rfl ?_
    refine la_iload C dX8_order_169 2 rfl ?_
    refine la_icmp_ge C (tgt := 204) dX8_order_171 (by decide) (fun hc => ?_) (fun hc => ?_)
    · replace h := la_t hc h
      refine la_sub C [0, 1, 2] rfl ?_
      exact kx _ (Option.some.inj h).symm
    · replace h := la_f hc h
      refine la_aload_n C dX8_order_174 0 rfl ?_
      refine GLMRX8_13 C dX8_order_175 ?_
      refine la_iload C dX8_order_178 2 rfl ?_
      obtain ⟨hi180, h⟩ := la_go h
      refine ALM2 C _ rfl hi180 dX8_order_180 ?_
      refine la_aload_n C dX8_order_181 0 rfl ?_
      refine GLMRX8_13 C dX8_order_182 ?_
      refine la_iload C dX8_order_185 3 rfl ?_
      obtain ⟨hi187, h⟩ := la_go h
      refine ALM2 C _ rfl hi187 dX8_order_187 ?_
      refine la_icmp_ne C (tgt := 196) dX8_order_188 (by decide) (fun hc => ?_) (fun hc => ?_)
      · replace h := la_f hc h
        refine la_iload_n C dX8_order_196 1 rfl ?_
        refine la_sub C [0, 2, 3] rfl ?_
        exact wX8_order_J197 C (fX8_order_L167 x4 μ n) _ _ _ _  _ hrec kx h
      · replace h := la_t hc h
        refine la_bipush C (v := (-4)) dX8_order_191 (by decide) ?_
        refine la_goto C (tgt := 197) dX8_order_193 (by decide) ?_
        refine la_sub C [0, 2, 3] rfl ?_
        exact wX8_order_J197 C (fX8_order_L167 x4 μ n) _ _ _ _  _ hrec kx h
def fX8_order_L157  (μ : la_Mem) : Nat → Int32 → Int32 → Option (Int32)
  | 0, _, _ => none
  | n + 1, x3, x4 => if 12 ≤ x4 then (some x3) else (Option.bind (fX8_order_L167 x4 μ 400 x3 0) (fun q167_3 => (fX8_order_L157  μ n) q167_3 (x4 + 1)))
set_option maxRecDepth 10000 in
theorem wX8_order_L157 {z : LMz} {l : Launch} {Post : Int32 → la_Mem → Prop} {Φ : Nat → List (Nat × Value) → List Value → la_Mem → Prop} (C : la_C (LM z) l rmX8_order RX8 cX8_order 8 (some .int) Post Φ)  (μ : la_Mem)  (ex : (Int32)) (kx : ∀ (y3 : Int32), ex = y3 → Φ 210 [(3, .int y3)] [] μ) : ∀ (n : Nat) (x3 : Int32) (x4 : Int32), fX8_order_L157  μ n x3 x4 = some ex → Φ 157 [(0, .ref (z.2.1 0)), (3, .int x3), (4, .int x4)] [] μ := by
  intro n
  induction n with
  | zero =>
    intro _ _ h
    cases h
  | succ n hrec =>
    intro x3 x4 h
    rw [fX8_order_L157] at h
    refine la_iload C dX8_order_157 2 rfl ?_
    refine la_bipush C (v := 12) dX8_order_159 (by decide) ?_
    refine la_icmp_ge C (tgt := 210) dX8_order_161 (by decide) (fun hc => ?_) (fun hc => ?_)
    · replace h := la_t hc h
      refine la_sub C [1] rfl ?_
      exact kx _ (Option.some.inj h).symm
    · replace h := la_f hc h
      refine la_iconst C (v := 0) dX8_order_164 (by decide) ?_
      refine la_istore C dX8_order_165 (by decide) rfl ?_
      obtain ⟨q167_3, hL167, h⟩ := la_bd h
      refine la_sub C [1, 2, 3, 0] rfl ?_
      refine wX8_order_L167 C _ _  _ (fun _ e => ?_) _ _ _ hL167
      cases e
      refine la_iinc C (v := (x4 + 1)) dX8_order_204 2 rfl rfl (by decide) rfl ?_
      refine la_goto C (tgt := 157) dX8_order_207 (by decide) ?_
      refine la_sub C [1, 2, 0] rfl ?_
      exact hrec _ _ h
def fX8_order (x1 : Int32) (μ : la_Mem) : Option Int32 :=
  (fX8_isTwelve x1 μ).bind (fun r1 => if r1 = 0 then (some (-1)) else (Option.bind (fX8_order_L17 x1 μ 400 0 (-4) 0) (fun q17_3 => Option.bind (fX8_order_L157  μ 400 q17_3 0) (fun q157_3 => some q157_3))))
set_option maxRecDepth 10000 in
theorem mX8_order {z : LMz} {l : Launch} (x1 : Int32) (μ : la_Mem) (r0 : Int32)  (h : fX8_order x1 μ = some r0) : la_M (LM z) l yX8_order cX8_order 8 (some .int) rmX8_order [.ref (z.2.1 0), .int x1] μ (fun r' μ' => r' = r0 ∧ μ' = μ) := by
  refine la_of (own := RX8) (lv := [(0, .ref (z.2.1 0)), (1, .int x1)]) (by decide) rfl (Nat.le_of_ble_eq_true rfl) rfl (fun Φ C => ?_)
  unfold fX8_order at h
  have hret : r0 = r0 ∧ μ = μ := ⟨rfl, rfl⟩
  refine la_iload_n C dX8_order_0 1 rfl ?_
  obtain ⟨r1, hr1, h⟩ := la_bd h
  refine KLMRX8_91 C [.int x1] [] (mX8_isTwelve x1 μ r1 hr1) ⟨by decide, by decide⟩ rfl rfl (Nat.le_of_ble_eq_true rfl) dX8_order_1 ?_
  refine la_if_ne C (tgt := 9) dX8_order_4 (by decide) (fun hc => ?_) (fun hc => ?_)
  · replace h := la_f hc h
    refine la_iconst C (v := 0) dX8_order_9 (by decide) ?_
    refine la_istore_n C dX8_order_10 (by decide) rfl ?_
    refine la_bipush C (v := (-4)) dX8_order_11 (by decide) ?_
    refine la_istore_n C dX8_order_13 (by decide) rfl ?_
    refine la_iconst C (v := 0) dX8_order_14 (by decide) ?_
    refine la_istore C dX8_order_15 (by decide) rfl ?_
    obtain ⟨q17_3, hL17, h⟩ := la_bd h
    refine la_sub C [3, 4, 2, 1, 0] rfl ?_
    refine wX8_order_L17 C _ _  _ (fun _ e => ?_) _ _ _ _ hL17
    cases e
    refine la_iconst C (v := 0) dX8_order_154 (by decide) ?_
    refine la_istore C dX8_order_155 (by decide) rfl ?_
    obtain ⟨q157_3, hL157, h⟩ := la_bd h
    refine la_sub C [1, 2, 0] rfl ?_
    refine wX8_order_L157 C _  _ (fun _ e => ?_) _ _ _ hL157
    cases e
    refine la_iload_n C dX8_order_210 0 rfl ?_
    exact la_iret C rfl (la_rR (P := (fun r' μ' => r' = r0 ∧ μ' = μ)) h hret) dX8_order_211
  · replace h := la_t hc h
    refine la_iconst C (v := (-1)) dX8_order_7 (by decide) ?_
    exact la_iret C rfl (la_rR (P := (fun r' μ' => r' = r0 ∧ μ' = μ)) h hret) dX8_order_8

def fX8_size_L4 (x0 : Int32) (μ : la_Mem) : Nat → Int32 → Int32 → Option (Int32)
  | 0, _, _ => none
  | n + 1, x1, x2 => if 7 ≤ x2 then (some x1) else (la_st ((x1 + ((x0 >>> (x2 &&& 31)) &&& 1))) (fun v17 => (fX8_size_L4 x0 μ n) v17 (x2 + 1)))
set_option maxRecDepth 10000 in
theorem wX8_size_L4 {z : LMz} {l : Launch} {Post : Int32 → la_Mem → Prop} {Φ : Nat → List (Nat × Value) → List Value → la_Mem → Prop} (C : la_C (LM z) l rmX8_size RX8 cX8_size 3 (some .int) Post Φ) (x0 : Int32) (μ : la_Mem)  (ex : (Int32)) (kx : ∀ (y1 : Int32), ex = y1 → Φ 24 [(1, .int y1)] [] μ) : ∀ (n : Nat) (x1 : Int32) (x2 : Int32), fX8_size_L4 x0 μ n x1 x2 = some ex → Φ 4 [(0, .int x0), (1, .int x1), (2, .int x2)] [] μ := by
  intro n
  induction n with
  | zero =>
    intro _ _ h
    cases h
  | succ n hrec =>
    intro x1 x2 h
    rw [fX8_size_L4] at h
    refine la_iload_n C dX8_size_4 2 rfl ?_
    refine la_bipush C (v := 7) dX8_size_5 (by decide) ?_
    refine la_icmp_ge C (tgt := 24) dX8_size_7 (by decide) (fun hc => ?_) (fun hc => ?_)
    · replace h := la_t hc h
      refine la_sub C [1] rfl ?_
      exact kx _ (Option.some.inj h).symm
    · replace h := la_f hc h
      refine la_iload_n C dX8_size_10 1 rfl ?_
      refine la_iload_n C dX8_size_11 0 rfl ?_
      refine la_iload_n C dX8_size_12 2 rfl ?_
      refine la_ishr C dX8_size_13 ?_
      refine la_iconst C (v := 1) dX8_size_14 (by decide) ?_
      refine la_iand C dX8_size_15 ?_
      refine la_iadd C dX8_size_16 ?_
      obtain ⟨v17, ev17, h⟩ := la_so h
      refine la_nm C ev17 ?_
      refine la_istore_n C dX8_size_17 (by decide) rfl ?_
      refine la_iinc C (v := (x2 + 1)) dX8_size_18 2 rfl rfl (by decide) rfl ?_
      refine la_goto C (tgt := 4) dX8_size_21 (by decide) ?_
      refine la_sub C [2, 1, 0] rfl ?_
      exact hrec _ _ h
def fX8_size (x0 : Int32) (μ : la_Mem) : Option Int32 :=
  Option.bind (fX8_size_L4 x0 μ 400 0 0) (fun q4_1 => some q4_1)
set_option maxRecDepth 10000 in
theorem mX8_size {z : LMz} {l : Launch} (x0 : Int32) (μ : la_Mem) (r0 : Int32)  (h : fX8_size x0 μ = some r0) : la_M (LM z) l yX8_size cX8_size 3 (some .int) rmX8_size [.int x0] μ (fun r' μ' => r' = r0 ∧ μ' = μ) := by
  refine la_of (own := RX8) (lv := [(0, .int x0)]) (by decide) rfl (Nat.le_of_ble_eq_true rfl) rfl (fun Φ C => ?_)
  unfold fX8_size at h
  have hret : r0 = r0 ∧ μ = μ := ⟨rfl, rfl⟩
  refine la_iconst C (v := 0) dX8_size_0 (by decide) ?_
  refine la_istore_n C dX8_size_1 (by decide) rfl ?_
  refine la_iconst C (v := 0) dX8_size_2 (by decide) ?_
  refine la_istore_n C dX8_size_3 (by decide) rfl ?_
  obtain ⟨q4_1, hL4, h⟩ := la_bd h
  refine la_sub C [2, 1, 0] rfl ?_
  refine wX8_size_L4 C _ _  _ (fun _ e => ?_) _ _ _ hL4
  cases e
  refine la_iload_n C dX8_size_24 0 rfl ?_
  exact la_iret C rfl (la_rR (P := (fun r' μ' => r' = r0 ∧ μ' = μ)) h hret) dX8_size_25

def fX8_lost_J102 (rec : Int32 → Int32 → Option (Int32)) (x1 : Int32) (x2 : Int32) (x4 : Int32) (s0 : Int32) (μ : la_Mem) : Option (Int32) :=
  rec s0 (x4 + 1)
set_option maxRecDepth 10000 in
theorem wX8_lost_J102 {z : LMz} {l : Launch} {Post : Int32 → la_Mem → Prop} {Φ : Nat → List (Nat × Value) → List Value → la_Mem → Prop} (C : la_C (LM z) l rmX8_lost RX8 cX8_lost 6 (some .int) Post Φ) (rec : Int32 → Int32 → Option (Int32)) (x1 : Int32) (x2 : Int32) (x4 : Int32) (s0 : Int32) (μ : la_Mem)  (ex : (Int32)) (hrec : ∀ (y3 : Int32) (y4 : Int32), rec y3 y4 = some ex → Φ 27 [(0, .ref (z.2.1 0)), (1, .int x1), (2, .int x2), (3, .int y3), (4, .int y4)] [] μ) (kx : ∀ (y3 : Int32), ex = y3 → Φ 109 [(3, .int y3)] [] μ) (h : fX8_lost_J102 rec x1 x2 x4 s0 μ = some ex) : Φ 102 [(0, .ref (z.2.1 0)), (1, .int x1), (2, .int x2), (4, .int x4)] [.int s0] μ := by
  unfold fX8_lost_J102 at h
  refine la_istore_n C dX8_lost_102 (by decide) rfl ?_
  refine la_iinc C (v := (x4 + 1)) dX8_lost_103 4 rfl rfl (by decide) rfl ?_
  refine la_goto C (tgt := 27) dX8_lost_106 (by decide) ?_
  refine la_sub C [2, 3, 4, 1, 0] rfl ?_
  exact hrec _ _ h
def fX8_lost_J101 (rec : Int32 → Int32 → Option (Int32)) (x1 : Int32) (x2 : Int32) (x3 : Int32) (x4 : Int32) (μ : la_Mem) : Option (Int32) :=
  fX8_lost_J102 rec x1 x2 x4 x3 μ
set_option maxRecDepth 10000 in
theorem wX8_lost_J101 {z : LMz} {l : Launch} {Post : Int32 → la_Mem → Prop} {Φ : Nat → List (Nat × Value) → List Value → la_Mem → Prop} (C : la_C (LM z) l rmX8_lost RX8 cX8_lost 6 (some .int) Post Φ) (rec : Int32 → Int32 → Option (Int32)) (x1 : Int32) (x2 : Int32) (x3 : Int32) (x4 : Int32) (μ : la_Mem)  (ex : (Int32)) (hrec : ∀ (y3 : Int32) (y4 : Int32), rec y3 y4 = some ex → Φ 27 [(0, .ref (z.2.1 0)), (1, .int x1), (2, .int x2), (3, .int y3), (4, .int y4)] [] μ) (kx : ∀ (y3 : Int32), ex = y3 → Φ 109 [(3, .int y3)] [] μ) (h : fX8_lost_J101 rec x1 x2 x3 x4 μ = some ex) : Φ 101 [(0, .ref (z.2.1 0)), (1, .int x1), (2, .int x2), (3, .int x3), (4, .int x4)] [] μ := by
  unfold fX8_lost_J101 at h
  refine la_iload_n C dX8_lost_101 3 rfl ?_
  refine la_sub C [0, 1, 2, 4] rfl ?_
  exact wX8_lost_J102 C rec _ _ _ _ _  _ hrec kx h
def fX8_lost_J96 (rec : Int32 → Int32 → Option (Int32)) (x1 : Int32) (x2 : Int32) (x4 : Int32) (μ : la_Mem) : Option (Int32) :=
  fX8_lost_J102 rec x1 x2 x4 x4 μ
set_option maxRecDepth 10000 in
theorem wX8_lost_J96 {z : LMz} {l : Launch} {Post : Int32 → la_Mem → Prop} {Φ : Nat → List (Nat × Value) → List Value → la_Mem → Prop} (C : la_C (LM z) l rmX8_lost RX8 cX8_lost 6 (some .int) Post Φ) (rec : Int32 → Int32 → Option (Int32)) (x1 : Int32) (x2 : Int32) (x4 : Int32) (μ : la_Mem)  (ex : (Int32)) (hrec : ∀ (y3 : Int32) (y4 : Int32), rec y3 y4 = some ex → Φ 27 [(0, .ref (z.2.1 0)), (1, .int x1), (2, .int x2), (3, .int y3), (4, .int y4)] [] μ) (kx : ∀ (y3 : Int32), ex = y3 → Φ 109 [(3, .int y3)] [] μ) (h : fX8_lost_J96 rec x1 x2 x4 μ = some ex) : Φ 96 [(0, .ref (z.2.1 0)), (1, .int x1), (2, .int x2), (4, .int x4)] [] μ := by
  unfold fX8_lost_J96 at h
  refine la_iload C dX8_lost_96 3 rfl ?_
  refine la_goto C (tgt := 102) dX8_lost_98 (by decide) ?_
  refine la_sub C [0, 1, 2, 3] rfl ?_
  exact wX8_lost_J102 C rec _ _ _ _ _  _ hrec kx h
def fX8_lost_J73 (rec : Int32 → Int32 → Option (Int32)) (x1 : Int32) (x2 : Int32) (x3 : Int32) (x4 : Int32) (s0 : Int32) (μ : la_Mem) : Option (Int32) :=
  if s0 = 0 then (fX8_lost_J101 rec x1 x2 x3 x4 μ) else (if x3 < 0 then (fX8_lost_J96 rec x1 x2 x4 μ) else ((fX8_size x4 μ).bind (fun r86 => (fX8_size x3 μ).bind (fun r90 => if r90 ≤ r86 then (fX8_lost_J101 rec x1 x2 x3 x4 μ) else (fX8_lost_J96 rec x1 x2 x4 μ)))))
set_option maxRecDepth 10000 in
theorem wX8_lost_J73 {z : LMz} {l : Launch} {Post : Int32 → la_Mem → Prop} {Φ : Nat → List (Nat × Value) → List Value → la_Mem → Prop} (C : la_C (LM z) l rmX8_lost RX8 cX8_lost 6 (some .int) Post Φ) (rec : Int32 → Int32 → Option (Int32)) (x1 : Int32) (x2 : Int32) (x3 : Int32) (x4 : Int32) (s0 : Int32) (μ : la_Mem)  (ex : (Int32)) (hrec : ∀ (y3 : Int32) (y4 : Int32), rec y3 y4 = some ex → Φ 27 [(0, .ref (z.2.1 0)), (1, .int x1), (2, .int x2), (3, .int y3), (4, .int y4)] [] μ) (kx : ∀ (y3 : Int32), ex = y3 → Φ 109 [(3, .int y3)] [] μ) (h : fX8_lost_J73 rec x1 x2 x3 x4 s0 μ = some ex) : Φ 73 [(0, .ref (z.2.1 0)), (1, .int x1), (2, .int x2), (3, .int x3), (4, .int x4)] [.int s0] μ := by
  unfold fX8_lost_J73 at h
  refine la_istore C dX8_lost_73 (by decide) rfl ?_
  refine la_iload C dX8_lost_75 0 rfl ?_
  refine la_if_eq C (tgt := 101) dX8_lost_77 (by decide) (fun hc => ?_) (fun hc => ?_)
  · replace h := la_t hc h
    refine la_sub C [1, 2, 3, 4, 5] rfl ?_
    exact wX8_lost_J101 C rec _ _ _ _ _  _ hrec kx h
  · replace h := la_f hc h
    refine la_iload_n C dX8_lost_80 4 rfl ?_
    refine la_if_lt C (tgt := 96) dX8_lost_81 (by decide) (fun hc => ?_) (fun hc => ?_)
    · replace h := la_t hc h
      refine la_sub C [1, 2, 3, 5] rfl ?_
      exact wX8_lost_J96 C rec _ _ _ _  _ hrec kx h
    · replace h := la_f hc h
      refine la_iload C dX8_lost_84 5 rfl ?_
      obtain ⟨r86, hr86, h⟩ := la_bd h
      refine KLMRX8_119 C [.int x4] [] (mX8_size x4 μ r86 hr86) ⟨by decide, by decide⟩ rfl rfl (Nat.le_of_ble_eq_true rfl) dX8_lost_86 ?_
      refine la_iload_n C dX8_lost_89 4 rfl ?_
      obtain ⟨r90, hr90, h⟩ := la_bd h
      refine KLMRX8_119 C [.int x3] [.int r86] (mX8_size x3 μ r90 hr90) ⟨by decide, by decide⟩ rfl rfl (Nat.le_of_ble_eq_true rfl) dX8_lost_90 ?_
      refine la_icmp_ge C (tgt := 101) dX8_lost_93 (by decide) (fun hc => ?_) (fun hc => ?_)
      · replace h := la_t hc h
        refine la_sub C [1, 2, 3, 4, 5] rfl ?_
        exact wX8_lost_J101 C rec _ _ _ _ _  _ hrec kx h
      · replace h := la_f hc h
        refine la_sub C [1, 2, 3, 5] rfl ?_
        exact wX8_lost_J96 C rec _ _ _ _  _ hrec kx h
def fX8_lost_J72 (rec : Int32 → Int32 → Option (Int32)) (x1 : Int32) (x2 : Int32) (x3 : Int32) (x4 : Int32) (μ : la_Mem) : Option (Int32) :=
  fX8_lost_J73 rec x1 x2 x3 x4 0 μ
set_option maxRecDepth 10000 in
theorem wX8_lost_J72 {z : LMz} {l : Launch} {Post : Int32 → la_Mem → Prop} {Φ : Nat → List (Nat × Value) → List Value → la_Mem → Prop} (C : la_C (LM z) l rmX8_lost RX8 cX8_lost 6 (some .int) Post Φ) (rec : Int32 → Int32 → Option (Int32)) (x1 : Int32) (x2 : Int32) (x3 : Int32) (x4 : Int32) (μ : la_Mem)  (ex : (Int32)) (hrec : ∀ (y3 : Int32) (y4 : Int32), rec y3 y4 = some ex → Φ 27 [(0, .ref (z.2.1 0)), (1, .int x1), (2, .int x2), (3, .int y3), (4, .int y4)] [] μ) (kx : ∀ (y3 : Int32), ex = y3 → Φ 109 [(3, .int y3)] [] μ) (h : fX8_lost_J72 rec x1 x2 x3 x4 μ = some ex) : Φ 72 [(0, .ref (z.2.1 0)), (1, .int x1), (2, .int x2), (3, .int x3), (4, .int x4)] [] μ := by
  unfold fX8_lost_J72 at h
  refine la_iconst C (v := 0) dX8_lost_72 (by decide) ?_
  refine la_sub C [0, 1, 2, 3, 4] rfl ?_
  exact wX8_lost_J73 C rec _ _ _ _ _ _  _ hrec kx h
def fX8_lost_L27 (x1 : Int32) (x2 : Int32) (μ : la_Mem) : Nat → Int32 → Int32 → Option (Int32)
  | 0, _, _ => none
  | n + 1, x3, x4 => if 128 ≤ x4 then (some x3) else (la_if (la_ix x1 12) (if (x4 &&& ((μ 2 (Int32.toNatClampNeg x1)) ^^^ (-1))) = 0 then (la_if (la_ix x1 12) ((fX8_fallsAt ((μ 2 (Int32.toNatClampNeg x1)) &&& (x4 ^^^ (-1))) μ).bind (fun r61 => if r61 = x2 then (fX8_lost_J73 (fX8_lost_L27 x1 x2 μ n) x1 x2 x3 x4 1 μ) else (fX8_lost_J72 (fX8_lost_L27 x1 x2 μ n) x1 x2 x3 x4 μ)))) else (fX8_lost_J72 (fX8_lost_L27 x1 x2 μ n) x1 x2 x3 x4 μ)))
set_option maxRecDepth 10000 in
theorem wX8_lost_L27 {z : LMz} {l : Launch} {Post : Int32 → la_Mem → Prop} {Φ : Nat → List (Nat × Value) → List Value → la_Mem → Prop} (C : la_C (LM z) l rmX8_lost RX8 cX8_lost 6 (some .int) Post Φ) (x1 : Int32) (x2 : Int32) (μ : la_Mem)  (ex : (Int32)) (kx : ∀ (y3 : Int32), ex = y3 → Φ 109 [(3, .int y3)] [] μ) : ∀ (n : Nat) (x3 : Int32) (x4 : Int32), fX8_lost_L27 x1 x2 μ n x3 x4 = some ex → Φ 27 [(0, .ref (z.2.1 0)), (1, .int x1), (2, .int x2), (3, .int x3), (4, .int x4)] [] μ := by
  intro n
  induction n with
  | zero =>
    intro _ _ h
    cases h
  | succ n hrec =>
    intro x3 x4 h
    rw [fX8_lost_L27] at h
    refine la_iload C dX8_lost_27 4 rfl ?_
    refine la_sipush C (v := 128) dX8_lost_29 (by decide) ?_
    refine la_icmp_ge C (tgt := 109) dX8_lost_32 (by decide) (fun hc => ?_) (fun hc => ?_)
    · replace h := la_t hc h
      refine la_sub C [3] rfl ?_
      exact kx _ (Option.some.inj h).symm
    · replace h := la_f hc h
      refine la_iload C dX8_lost_35 4 rfl ?_
      refine la_aload_n C dX8_lost_37 0 rfl ?_
      refine GLMRX8_13 C dX8_lost_38 ?_
      refine la_iload_n C dX8_lost_41 1 rfl ?_
      obtain ⟨hi42, h⟩ := la_go h
      refine ALM2 C _ rfl hi42 dX8_lost_42 ?_
      refine la_iconst C (v := (-1)) dX8_lost_43 (by decide) ?_
      refine la_ixor C dX8_lost_44 ?_
      refine la_iand C dX8_lost_45 ?_
      refine la_if_ne C (tgt := 72) dX8_lost_46 (by decide) (fun hc => ?_) (fun hc => ?_)
      · replace h := la_f hc h
        refine la_sub C [0, 1, 2, 3, 4] rfl ?_
        exact wX8_lost_J72 C (fX8_lost_L27 x1 x2 μ n) _ _ _ _ _  _ hrec kx h
      · replace h := la_t hc h
        refine la_aload_n C dX8_lost_49 0 rfl ?_
        refine la_aload_n C dX8_lost_50 0 rfl ?_
        refine GLMRX8_13 C dX8_lost_51 ?_
        refine la_iload_n C dX8_lost_54 1 rfl ?_
        obtain ⟨hi55, h⟩ := la_go h
        refine ALM2 C _ rfl hi55 dX8_lost_55 ?_
        refine la_iload C dX8_lost_56 4 rfl ?_
        refine la_iconst C (v := (-1)) dX8_lost_58 (by decide) ?_
        refine la_ixor C dX8_lost_59 ?_
        refine la_iand C dX8_lost_60 ?_
        obtain ⟨r61, hr61, h⟩ := la_bd h
        refine KLMRX8_113 C [.int ((μ 2 (Int32.toNatClampNeg x1)) &&& (x4 ^^^ (-1)))] [] (mX8_fallsAt ((μ 2 (Int32.toNatClampNeg x1)) &&& (x4 ^^^ (-1))) μ r61 hr61) ⟨by decide, by decide⟩ rfl rfl (Nat.le_of_ble_eq_true rfl) dX8_lost_61 ?_
        refine la_iload_n C dX8_lost_64 2 rfl ?_
        refine la_icmp_ne C (tgt := 72) dX8_lost_65 (by decide) (fun hc => ?_) (fun hc => ?_)
        · replace h := la_f hc h
          refine la_sub C [0, 1, 2, 3, 4] rfl ?_
          exact wX8_lost_J72 C (fX8_lost_L27 x1 x2 μ n) _ _ _ _ _  _ hrec kx h
        · replace h := la_t hc h
          refine la_iconst C (v := 1) dX8_lost_68 (by decide) ?_
          refine la_goto C (tgt := 73) dX8_lost_69 (by decide) ?_
          refine la_sub C [0, 1, 2, 3, 4] rfl ?_
          exact wX8_lost_J73 C (fX8_lost_L27 x1 x2 μ n) _ _ _ _ _ _  _ hrec kx h
def fX8_lost (x1 : Int32) (x2 : Int32) (μ : la_Mem) : Option Int32 :=
  (fX8_isTwelve x1 μ).bind (fun r1 => if r1 = 0 then (some (-1)) else ((fX8_in (Int32.toInt64 x2) 0 12 μ).bind (fun r13 => if r13 = 0 then (some (-1)) else (Option.bind (fX8_lost_L27 x1 x2 μ 400 (-4) 0) (fun q27_3 => some q27_3)))))
set_option maxRecDepth 10000 in
theorem mX8_lost {z : LMz} {l : Launch} (x1 : Int32) (x2 : Int32) (μ : la_Mem) (r0 : Int32)  (h : fX8_lost x1 x2 μ = some r0) : la_M (LM z) l yX8_lost cX8_lost 6 (some .int) rmX8_lost [.ref (z.2.1 0), .int x1, .int x2] μ (fun r' μ' => r' = r0 ∧ μ' = μ) := by
  refine la_of (own := RX8) (lv := [(0, .ref (z.2.1 0)), (1, .int x1), (2, .int x2)]) (by decide) rfl (Nat.le_of_ble_eq_true rfl) rfl (fun Φ C => ?_)
  unfold fX8_lost at h
  have hret : r0 = r0 ∧ μ = μ := ⟨rfl, rfl⟩
  refine la_iload_n C dX8_lost_0 1 rfl ?_
  obtain ⟨r1, hr1, h⟩ := la_bd h
  refine KLMRX8_91 C [.int x1] [] (mX8_isTwelve x1 μ r1 hr1) ⟨by decide, by decide⟩ rfl rfl (Nat.le_of_ble_eq_true rfl) dX8_lost_1 ?_
  refine la_if_eq C (tgt := 19) dX8_lost_4 (by decide) (fun hc => ?_) (fun hc => ?_)
  · replace h := la_t hc h
    refine la_iconst C (v := (-1)) dX8_lost_19 (by decide) ?_
    exact la_iret C rfl (la_rR (P := (fun r' μ' => r' = r0 ∧ μ' = μ)) h hret) dX8_lost_20
  · replace h := la_f hc h
    refine la_iload_n C dX8_lost_7 2 rfl ?_
    refine la_i2l C dX8_lost_8 ?_
    refine la_lconst C (v := 0) dX8_lost_9 (by decide) ?_
    refine la_ldc2 C (v := 12) wd_290 dX8_lost_10 ?_
    obtain ⟨r13, hr13, h⟩ := la_bd h
    refine KLMRX8_87 C [.long (Int32.toInt64 x2), .long 0, .long 12] [] (mX8_in (Int32.toInt64 x2) 0 12 μ r13 hr13) ⟨by decide, by decide⟩ rfl rfl (Nat.le_of_ble_eq_true rfl) dX8_lost_13 ?_
    refine la_if_ne C (tgt := 21) dX8_lost_16 (by decide) (fun hc => ?_) (fun hc => ?_)
    · replace h := la_f hc h
      refine la_bipush C (v := (-4)) dX8_lost_21 (by decide) ?_
      refine la_istore_n C dX8_lost_23 (by decide) rfl ?_
      refine la_iconst C (v := 0) dX8_lost_24 (by decide) ?_
      refine la_istore C dX8_lost_25 (by decide) rfl ?_
      obtain ⟨q27_3, hL27, h⟩ := la_bd h
      refine la_sub C [2, 3, 4, 1, 0] rfl ?_
      refine wX8_lost_L27 C _ _ _  _ (fun _ e => ?_) _ _ _ hL27
      cases e
      refine la_iload_n C dX8_lost_109 0 rfl ?_
      exact la_iret C rfl (la_rR (P := (fun r' μ' => r' = r0 ∧ μ' = μ)) h hret) dX8_lost_110
    · replace h := la_t hc h
      refine la_iconst C (v := (-1)) dX8_lost_19 (by decide) ?_
      exact la_iret C rfl (la_rR (P := (fun r' μ' => r' = r0 ∧ μ' = μ)) h hret) dX8_lost_20

def fX8_isMould (x1 : Int32) (μ : la_Mem) : Option Int32 :=
  (fX8_in (Int32.toInt64 x1) 0 (Int32.toInt64 ((μ 0 5) - 1)) μ).bind (fun r10 => la_if (la_isb r10) (some r10))
set_option maxRecDepth 10000 in
theorem mX8_isMould {z : LMz} {l : Launch} (x1 : Int32) (μ : la_Mem) (r0 : Int32)  (h : fX8_isMould x1 μ = some r0) : la_M (LM z) l yX8_isMould cX8_isMould 2 (some .boolean) rmX8_isMould [.ref (z.2.1 0), .int x1] μ (fun r' μ' => r' = r0 ∧ μ' = μ) := by
  refine la_of (own := RX8) (lv := [(0, .ref (z.2.1 0)), (1, .int x1)]) (by decide) rfl (Nat.le_of_ble_eq_true rfl) rfl (fun Φ C => ?_)
  unfold fX8_isMould at h
  have hret : r0 = r0 ∧ μ = μ := ⟨rfl, rfl⟩
  refine la_iload_n C dX8_isMould_0 1 rfl ?_
  refine la_i2l C dX8_isMould_1 ?_
  refine la_lconst C (v := 0) dX8_isMould_2 (by decide) ?_
  refine la_aload_n C dX8_isMould_3 0 rfl ?_
  refine GLMRX8_122 C dX8_isMould_4 ?_
  refine la_iconst C (v := 1) dX8_isMould_7 (by decide) ?_
  refine la_isub C dX8_isMould_8 ?_
  refine la_i2l C dX8_isMould_9 ?_
  obtain ⟨r10, hr10, h⟩ := la_bd h
  refine KLMRX8_87 C [.long (Int32.toInt64 x1), .long 0, .long (Int32.toInt64 ((μ 0 5) - 1))] [] (mX8_in (Int32.toInt64 x1) 0 (Int32.toInt64 ((μ 0 5) - 1)) μ r10 hr10) ⟨by decide, by decide⟩ rfl rfl (Nat.le_of_ble_eq_true rfl) dX8_isMould_10 ?_
  obtain ⟨hz13, h⟩ := la_go h
  exact la_iret C (la_nb hz13) (la_rR (P := (fun r' μ' => r' = r0 ∧ μ' = μ)) h hret) dX8_isMould_13

def fX8_lies_J38 (x1 : Int32) (x2 : Int32) (x3 : Int32) (s0 : Int32) (s1 : Int32) (μ : la_Mem) : Option (Int32 × la_Mem) :=
  la_if (la_ix s1 60) (la_st (la_ms μ 8 (Int32.toNatClampNeg s1) s0) (fun μ38 => if x3 = 0 then (la_if (la_isb x3) (some (x3, μ38))) else (la_if (la_ix x2 12) (la_if (la_ix ((8 * x2) + (μ38 9 (Int32.toNatClampNeg x2))) 96) (la_st (la_ms μ38 10 (Int32.toNatClampNeg ((8 * x2) + (μ38 9 (Int32.toNatClampNeg x2)))) x1) (fun μ59 => la_if (la_ix x2 12) (la_if (la_ix x2 12) (la_st (la_ms μ59 9 (Int32.toNatClampNeg x2) ((μ59 9 (Int32.toNatClampNeg x2)) + 1)) (fun μ69 => la_if (la_isb x3) (some (x3, μ69)))))))))))
set_option maxRecDepth 10000 in
theorem wX8_lies_J38 {z : LMz} {l : Launch} {Post : Int32 → la_Mem → Prop} {Φ : Nat → List (Nat × Value) → List Value → la_Mem → Prop} (C : la_C (LM z) l rmX8_lies RX8 cX8_lies 4 (some .boolean) Post Φ) (x1 : Int32) (x2 : Int32) (x3 : Int32) (s0 : Int32) (s1 : Int32) (μ : la_Mem)  (ex : (Int32 × la_Mem)) (hret : Post ex.1 ex.2) (h : fX8_lies_J38 x1 x2 x3 s0 s1 μ = some ex) : Φ 38 [(0, .ref (z.2.1 0)), (1, .int x1), (2, .int x2), (3, .int x3)] [.int s0, .int s1, .ref (z.2.1 8)] μ := by
  unfold fX8_lies_J38 at h
  obtain ⟨hi38, h⟩ := la_go h
  obtain ⟨μ38, eμ38, h⟩ := la_so h
  refine BLM8 C _ rfl hi38 eμ38 dX8_lies_38 ?_
  refine la_iload_n C dX8_lies_39 3 rfl ?_
  refine la_if_eq C (tgt := 70) dX8_lies_40 (by decide) (fun hc => ?_) (fun hc => ?_)
  · replace h := la_t hc h
    refine la_iload_n C dX8_lies_70 3 rfl ?_
    obtain ⟨hz71, h⟩ := la_go h
    exact la_iret C (la_nb hz71) (la_rW (P := Post) h hret) dX8_lies_71
  · replace h := la_f hc h
    refine la_aload_n C dX8_lies_43 0 rfl ?_
    refine GLMRX8_37 C dX8_lies_44 ?_
    refine la_bipush C (v := 8) dX8_lies_47 (by decide) ?_
    refine la_iload_n C dX8_lies_49 2 rfl ?_
    refine la_imul C dX8_lies_50 ?_
    refine la_aload_n C dX8_lies_51 0 rfl ?_
    refine GLMRX8_34 C dX8_lies_52 ?_
    refine la_iload_n C dX8_lies_55 2 rfl ?_
    obtain ⟨hi56, h⟩ := la_go h
    refine ALM9 C _ rfl hi56 dX8_lies_56 ?_
    refine la_iadd C dX8_lies_57 ?_
    refine la_iload_n C dX8_lies_58 1 rfl ?_
    obtain ⟨hi59, h⟩ := la_go h
    obtain ⟨μ59, eμ59, h⟩ := la_so h
    refine BLM10 C _ rfl hi59 eμ59 dX8_lies_59 ?_
    refine la_aload_n C dX8_lies_60 0 rfl ?_
    refine GLMRX8_34 C dX8_lies_61 ?_
    refine la_iload_n C dX8_lies_64 2 rfl ?_
    refine la_dup2 C dX8_lies_65 rfl rfl ?_
    obtain ⟨hi66, h⟩ := la_go h
    refine ALM9 C _ rfl hi66 dX8_lies_66 ?_
    refine la_iconst C (v := 1) dX8_lies_67 (by decide) ?_
    refine la_iadd C dX8_lies_68 ?_
    obtain ⟨hi69, h⟩ := la_go h
    obtain ⟨μ69, eμ69, h⟩ := la_so h
    refine BLM9 C _ rfl hi69 eμ69 dX8_lies_69 ?_
    refine la_iload_n C dX8_lies_70 3 rfl ?_
    obtain ⟨hz71, h⟩ := la_go h
    exact la_iret C (la_nb hz71) (la_rW (P := Post) h hret) dX8_lies_71
def fX8_lies_J22 (x1 : Int32) (x2 : Int32) (s0 : Int32) (μ : la_Mem) : Option (Int32 × la_Mem) :=
  if s0 = 0 then (fX8_lies_J38 x1 x2 s0 12 x1 μ) else (fX8_lies_J38 x1 x2 s0 x2 x1 μ)
set_option maxRecDepth 10000 in
theorem wX8_lies_J22 {z : LMz} {l : Launch} {Post : Int32 → la_Mem → Prop} {Φ : Nat → List (Nat × Value) → List Value → la_Mem → Prop} (C : la_C (LM z) l rmX8_lies RX8 cX8_lies 4 (some .boolean) Post Φ) (x1 : Int32) (x2 : Int32) (s0 : Int32) (μ : la_Mem)  (ex : (Int32 × la_Mem)) (hret : Post ex.1 ex.2) (h : fX8_lies_J22 x1 x2 s0 μ = some ex) : Φ 22 [(0, .ref (z.2.1 0)), (1, .int x1), (2, .int x2)] [.int s0] μ := by
  unfold fX8_lies_J22 at h
  refine la_istore_n C dX8_lies_22 (by decide) rfl ?_
  refine la_aload_n C dX8_lies_23 1 rfl ?_
  refine GLMRX8_31 C dX8_lies_24 ?_
  refine la_iload_n C dX8_lies_27 2 rfl ?_
  refine la_iload_n C dX8_lies_28 0 rfl ?_
  refine la_if_eq C (tgt := 36) dX8_lies_29 (by decide) (fun hc => ?_) (fun hc => ?_)
  · replace h := la_t hc h
    refine la_bipush C (v := 12) dX8_lies_36 (by decide) ?_
    refine la_sub C [1, 2, 3, 0] rfl ?_
    exact wX8_lies_J38 C _ _ _ _ _ _  _ hret h
  · replace h := la_f hc h
    refine la_iload_n C dX8_lies_32 3 rfl ?_
    refine la_goto C (tgt := 38) dX8_lies_33 (by decide) ?_
    refine la_sub C [1, 2, 3, 0] rfl ?_
    exact wX8_lies_J38 C _ _ _ _ _ _  _ hret h
def fX8_lies_J21 (x1 : Int32) (x2 : Int32) (μ : la_Mem) : Option (Int32 × la_Mem) :=
  fX8_lies_J22 x1 x2 0 μ
set_option maxRecDepth 10000 in
theorem wX8_lies_J21 {z : LMz} {l : Launch} {Post : Int32 → la_Mem → Prop} {Φ : Nat → List (Nat × Value) → List Value → la_Mem → Prop} (C : la_C (LM z) l rmX8_lies RX8 cX8_lies 4 (some .boolean) Post Φ) (x1 : Int32) (x2 : Int32) (μ : la_Mem)  (ex : (Int32 × la_Mem)) (hret : Post ex.1 ex.2) (h : fX8_lies_J21 x1 x2 μ = some ex) : Φ 21 [(0, .ref (z.2.1 0)), (1, .int x1), (2, .int x2)] [] μ := by
  unfold fX8_lies_J21 at h
  refine la_iconst C (v := 0) dX8_lies_21 (by decide) ?_
  refine la_sub C [0, 1, 2] rfl ?_
  exact wX8_lies_J22 C _ _ _ _  _ hret h
def fX8_lies (x1 : Int32) (x2 : Int32) (μ : la_Mem) : Option (Int32 × la_Mem) :=
  if 12 ≤ x2 then (fX8_lies_J21 x1 x2 μ) else (la_if (la_ix x2 12) (if 8 ≤ (μ 9 (Int32.toNatClampNeg x2)) then (fX8_lies_J21 x1 x2 μ) else (fX8_lies_J22 x1 x2 1 μ)))
set_option maxRecDepth 10000 in
theorem mX8_lies {z : LMz} {l : Launch} (x1 : Int32) (x2 : Int32) (μ : la_Mem) (r0 : Int32) (μ0 : la_Mem)  (h : fX8_lies x1 x2 μ = some (r0, μ0)) : la_M (LM z) l yX8_lies cX8_lies 4 (some .boolean) rmX8_lies [.ref (z.2.1 0), .int x1, .int x2] μ (fun r' μ' => r' = r0 ∧ μ' = μ0) := by
  refine la_of (own := RX8) (lv := [(0, .ref (z.2.1 0)), (1, .int x1), (2, .int x2)]) (by decide) rfl (Nat.le_of_ble_eq_true rfl) rfl (fun Φ C => ?_)
  unfold fX8_lies at h
  have hret : r0 = r0 ∧ μ0 = μ0 := ⟨rfl, rfl⟩
  refine la_iload_n C dX8_lies_0 2 rfl ?_
  refine la_bipush C (v := 12) dX8_lies_1 (by decide) ?_
  refine la_icmp_ge C (tgt := 21) dX8_lies_3 (by decide) (fun hc => ?_) (fun hc => ?_)
  · replace h := la_t hc h
    refine la_sub C [0, 1, 2] rfl ?_
    exact wX8_lies_J21 C _ _ _  _ hret h
  · replace h := la_f hc h
    refine la_aload_n C dX8_lies_6 0 rfl ?_
    refine GLMRX8_34 C dX8_lies_7 ?_
    refine la_iload_n C dX8_lies_10 2 rfl ?_
    obtain ⟨hi11, h⟩ := la_go h
    refine ALM9 C _ rfl hi11 dX8_lies_11 ?_
    refine la_bipush C (v := 8) dX8_lies_12 (by decide) ?_
    refine la_icmp_ge C (tgt := 21) dX8_lies_14 (by decide) (fun hc => ?_) (fun hc => ?_)
    · replace h := la_t hc h
      refine la_sub C [0, 1, 2] rfl ?_
      exact wX8_lies_J21 C _ _ _  _ hret h
    · replace h := la_f hc h
      refine la_iconst C (v := 1) dX8_lies_17 (by decide) ?_
      refine la_goto C (tgt := 22) dX8_lies_18 (by decide) ?_
      refine la_sub C [0, 1, 2] rfl ?_
      exact wX8_lies_J22 C _ _ _ _  _ hret h

def fX8_mould_J106  (μ : la_Mem) : Option (Int32 × la_Mem) :=
  some (((μ 0 5) - 1), μ)
set_option maxRecDepth 10000 in
theorem wX8_mould_J106 {z : LMz} {l : Launch} {Post : Int32 → la_Mem → Prop} {Φ : Nat → List (Nat × Value) → List Value → la_Mem → Prop} (C : la_C (LM z) l rmX8_mould RX8 cX8_mould 4 (some .int) Post Φ)  (μ : la_Mem)  (ex : (Int32 × la_Mem)) (hret : Post ex.1 ex.2) (h : fX8_mould_J106  μ = some ex) : Φ 106 [(0, .ref (z.2.1 0))] [] μ := by
  unfold fX8_mould_J106 at h
  refine la_aload_n C dX8_mould_106 0 rfl ?_
  refine GLMRX8_122 C dX8_mould_107 ?_
  refine la_iconst C (v := 1) dX8_mould_110 (by decide) ?_
  refine la_isub C dX8_mould_111 ?_
  refine la_goto C (tgt := 117) dX8_mould_112 (by decide) ?_
  exact la_iret C rfl (la_rW (P := Post) h hret) dX8_mould_117
def fX8_mould (x1 : Int32) (x2 : Int32) (μ : la_Mem) : Option (Int32 × la_Mem) :=
  (fX8_isTwelve x1 μ).bind (fun r1 => if r1 = 0 then (some ((-1), μ)) else ((fX8_in (Int32.toInt64 x2) 0 127 μ).bind (fun r13 => if r13 = 0 then (some ((-1), μ)) else (la_if (la_ix x1 12) (if (x2 &&& ((μ 2 (Int32.toNatClampNeg x1)) ^^^ (-1))) = 0 then (if (μ 0 5) = 60 then (some ((-3), μ)) else (la_if (la_ix (μ 0 5) 60) (la_st (la_ms μ 6 (Int32.toNatClampNeg (μ 0 5)) x1) (fun μ55 => la_if (la_ix x1 12) (la_if (la_ix (μ55 0 5) 60) (la_st (la_ms μ55 7 (Int32.toNatClampNeg (μ55 0 5)) ((μ55 2 (Int32.toNatClampNeg x1)) &&& (x2 ^^^ (-1)))) (fun μ74 => la_b2 (fX8_lies (μ74 0 5) x1 μ74) (fun r81 μ81 => la_st (la_ms μ81 0 5 ((μ81 0 5) + 1)) (fun μ92 => if r81 = 0 then (if (μ92 0 5) ≤ 0 then (some ((-4), μ92)) else (fX8_mould_J106  μ92)) else (fX8_mould_J106  μ92)))))))))) else (some ((-1), μ)))))))
set_option maxRecDepth 10000 in
theorem mX8_mould {z : LMz} {l : Launch} (x1 : Int32) (x2 : Int32) (μ : la_Mem) (r0 : Int32) (μ0 : la_Mem)  (h : fX8_mould x1 x2 μ = some (r0, μ0)) : la_M (LM z) l yX8_mould cX8_mould 4 (some .int) rmX8_mould [.ref (z.2.1 0), .int x1, .int x2] μ (fun r' μ' => r' = r0 ∧ μ' = μ0) := by
  refine la_of (own := RX8) (lv := [(0, .ref (z.2.1 0)), (1, .int x1), (2, .int x2)]) (by decide) rfl (Nat.le_of_ble_eq_true rfl) rfl (fun Φ C => ?_)
  unfold fX8_mould at h
  have hret : r0 = r0 ∧ μ0 = μ0 := ⟨rfl, rfl⟩
  refine la_iload_n C dX8_mould_0 1 rfl ?_
  obtain ⟨r1, hr1, h⟩ := la_bd h
  refine KLMRX8_91 C [.int x1] [] (mX8_isTwelve x1 μ r1 hr1) ⟨by decide, by decide⟩ rfl rfl (Nat.le_of_ble_eq_true rfl) dX8_mould_1 ?_
  refine la_if_eq C (tgt := 32) dX8_mould_4 (by decide) (fun hc => ?_) (fun hc => ?_)
  · replace h := la_t hc h
    refine la_iconst C (v := (-1)) dX8_mould_32 (by decide) ?_
    exact la_iret C rfl (la_rW (P := (fun r' μ' => r' = r0 ∧ μ' = μ0)) h hret) dX8_mould_33
  · replace h := la_f hc h
    refine la_iload_n C dX8_mould_7 2 rfl ?_
    refine la_i2l C dX8_mould_8 ?_
    refine la_lconst C (v := 0) dX8_mould_9 (by decide) ?_
    refine la_ldc2 C (v := 127) wd_145 dX8_mould_10 ?_
    obtain ⟨r13, hr13, h⟩ := la_bd h
    refine KLMRX8_87 C [.long (Int32.toInt64 x2), .long 0, .long 127] [] (mX8_in (Int32.toInt64 x2) 0 127 μ r13 hr13) ⟨by decide, by decide⟩ rfl rfl (Nat.le_of_ble_eq_true rfl) dX8_mould_13 ?_
    refine la_if_eq C (tgt := 32) dX8_mould_16 (by decide) (fun hc => ?_) (fun hc => ?_)
    · replace h := la_t hc h
      refine la_iconst C (v := (-1)) dX8_mould_32 (by decide) ?_
      exact la_iret C rfl (la_rW (P := (fun r' μ' => r' = r0 ∧ μ' = μ0)) h hret) dX8_mould_33
    · replace h := la_f hc h
      refine la_iload_n C dX8_mould_19 2 rfl ?_
      refine la_aload_n C dX8_mould_20 0 rfl ?_
      refine GLMRX8_13 C dX8_mould_21 ?_
      refine la_iload_n C dX8_mould_24 1 rfl ?_
      obtain ⟨hi25, h⟩ := la_go h
      refine ALM2 C _ rfl hi25 dX8_mould_25 ?_
      refine la_iconst C (v := (-1)) dX8_mould_26 (by decide) ?_
      refine la_ixor C dX8_mould_27 ?_
      refine la_iand C dX8_mould_28 ?_
      refine la_if_eq C (tgt := 34) dX8_mould_29 (by decide) (fun hc => ?_) (fun hc => ?_)
      · replace h := la_t hc h
        refine la_aload_n C dX8_mould_34 0 rfl ?_
        refine GLMRX8_122 C dX8_mould_35 ?_
        refine la_bipush C (v := 60) dX8_mould_38 (by decide) ?_
        refine la_icmp_ne C (tgt := 46) dX8_mould_40 (by decide) (fun hc => ?_) (fun hc => ?_)
        · replace h := la_f hc h
          refine la_aload_n C dX8_mould_46 0 rfl ?_
          refine GLMRX8_25 C dX8_mould_47 ?_
          refine la_aload_n C dX8_mould_50 0 rfl ?_
          refine GLMRX8_122 C dX8_mould_51 ?_
          refine la_iload_n C dX8_mould_54 1 rfl ?_
          obtain ⟨hi55, h⟩ := la_go h
          obtain ⟨μ55, eμ55, h⟩ := la_so h
          refine BLM6 C _ rfl hi55 eμ55 dX8_mould_55 ?_
          refine la_aload_n C dX8_mould_56 0 rfl ?_
          refine GLMRX8_28 C dX8_mould_57 ?_
          refine la_aload_n C dX8_mould_60 0 rfl ?_
          refine GLMRX8_122 C dX8_mould_61 ?_
          refine la_aload_n C dX8_mould_64 0 rfl ?_
          refine GLMRX8_13 C dX8_mould_65 ?_
          refine la_iload_n C dX8_mould_68 1 rfl ?_
          obtain ⟨hi69, h⟩ := la_go h
          refine ALM2 C _ rfl hi69 dX8_mould_69 ?_
          refine la_iload_n C dX8_mould_70 2 rfl ?_
          refine la_iconst C (v := (-1)) dX8_mould_71 (by decide) ?_
          refine la_ixor C dX8_mould_72 ?_
          refine la_iand C dX8_mould_73 ?_
          obtain ⟨hi74, h⟩ := la_go h
          obtain ⟨μ74, eμ74, h⟩ := la_so h
          refine BLM7 C _ rfl hi74 eμ74 dX8_mould_74 ?_
          refine la_aload_n C dX8_mould_75 0 rfl ?_
          refine la_aload_n C dX8_mould_76 0 rfl ?_
          refine GLMRX8_122 C dX8_mould_77 ?_
          refine la_iload_n C dX8_mould_80 1 rfl ?_
          obtain ⟨r81, μ81, hr81, h⟩ := la_b2o h
          refine KLMRX8_126 C [.int (μ74 0 5), .int x1] [] (mX8_lies (μ74 0 5) x1 μ74 r81 μ81 hr81) ⟨by decide, by decide⟩ rfl rfl (Nat.le_of_ble_eq_true rfl) dX8_mould_81 ?_
          refine la_istore_n C dX8_mould_84 (by decide) rfl ?_
          refine la_aload_n C dX8_mould_85 1 rfl ?_
          refine la_dup C dX8_mould_86 rfl ?_
          refine GLMRX8_122 C dX8_mould_87 ?_
          refine la_iconst C (v := 1) dX8_mould_90 (by decide) ?_
          refine la_iadd C dX8_mould_91 ?_
          obtain ⟨μ92, eμ92, h⟩ := la_so h
          refine SLMRX8_122 C eμ92 dX8_mould_92 ?_
          refine la_iload_n C dX8_mould_95 0 rfl ?_
          refine la_if_ne C (tgt := 106) dX8_mould_96 (by decide) (fun hc => ?_) (fun hc => ?_)
          · replace h := la_f hc h
            refine la_sub C [1] rfl ?_
            exact wX8_mould_J106 C  _  _ hret h
          · replace h := la_t hc h
            refine la_aload_n C dX8_mould_99 1 rfl ?_
            refine GLMRX8_122 C dX8_mould_100 ?_
            refine la_if_le C (tgt := 115) dX8_mould_103 (by decide) (fun hc => ?_) (fun hc => ?_)
            · replace h := la_t hc h
              refine la_bipush C (v := (-4)) dX8_mould_115 (by decide) ?_
              exact la_iret C rfl (la_rW (P := (fun r' μ' => r' = r0 ∧ μ' = μ0)) h hret) dX8_mould_117
            · replace h := la_f hc h
              refine la_sub C [1] rfl ?_
              exact wX8_mould_J106 C  _  _ hret h
        · replace h := la_t hc h
          refine la_bipush C (v := (-3)) dX8_mould_43 (by decide) ?_
          exact la_iret C rfl (la_rW (P := (fun r' μ' => r' = r0 ∧ μ' = μ0)) h hret) dX8_mould_45
      · replace h := la_f hc h
        refine la_iconst C (v := (-1)) dX8_mould_32 (by decide) ?_
        exact la_iret C rfl (la_rW (P := (fun r' μ' => r' = r0 ∧ μ' = μ0)) h hret) dX8_mould_33

def fX8_told (x1 : Int32) (x2 : Int32) (μ : la_Mem) : Option Int32 :=
  (fX8_isMould x1 μ).bind (fun r2 => if r2 = 0 then (some (-1)) else ((fX8_in (Int32.toInt64 x2) 0 2 μ).bind (fun r14 => if r14 = 0 then (some (-1)) else (if x2 = 0 then (la_if (la_ix x1 60) (some (μ 6 (Int32.toNatClampNeg x1)))) else (if x2 = 1 then (la_if (la_ix x1 60) (some (μ 7 (Int32.toNatClampNeg x1)))) else (la_if (la_ix x1 60) (some (μ 8 (Int32.toNatClampNeg x1)))))))))
set_option maxRecDepth 10000 in
theorem mX8_told {z : LMz} {l : Launch} (x1 : Int32) (x2 : Int32) (μ : la_Mem) (r0 : Int32)  (h : fX8_told x1 x2 μ = some r0) : la_M (LM z) l yX8_told cX8_told 3 (some .int) rmX8_told [.ref (z.2.1 0), .int x1, .int x2] μ (fun r' μ' => r' = r0 ∧ μ' = μ) := by
  refine la_of (own := RX8) (lv := [(0, .ref (z.2.1 0)), (1, .int x1), (2, .int x2)]) (by decide) rfl (Nat.le_of_ble_eq_true rfl) rfl (fun Φ C => ?_)
  unfold fX8_told at h
  have hret : r0 = r0 ∧ μ = μ := ⟨rfl, rfl⟩
  refine la_aload_n C dX8_told_0 0 rfl ?_
  refine la_iload_n C dX8_told_1 1 rfl ?_
  obtain ⟨r2, hr2, h⟩ := la_bd h
  refine KLMRX8_130 C [.int x1] [] (mX8_isMould x1 μ r2 hr2) ⟨by decide, by decide⟩ rfl rfl (Nat.le_of_ble_eq_true rfl) dX8_told_2 ?_
  refine la_if_eq C (tgt := 20) dX8_told_5 (by decide) (fun hc => ?_) (fun hc => ?_)
  · replace h := la_t hc h
    refine la_iconst C (v := (-1)) dX8_told_20 (by decide) ?_
    exact la_iret C rfl (la_rR (P := (fun r' μ' => r' = r0 ∧ μ' = μ)) h hret) dX8_told_21
  · replace h := la_f hc h
    refine la_iload_n C dX8_told_8 2 rfl ?_
    refine la_i2l C dX8_told_9 ?_
    refine la_lconst C (v := 0) dX8_told_10 (by decide) ?_
    refine la_ldc2 C (v := 2) wd_201 dX8_told_11 ?_
    obtain ⟨r14, hr14, h⟩ := la_bd h
    refine KLMRX8_87 C [.long (Int32.toInt64 x2), .long 0, .long 2] [] (mX8_in (Int32.toInt64 x2) 0 2 μ r14 hr14) ⟨by decide, by decide⟩ rfl rfl (Nat.le_of_ble_eq_true rfl) dX8_told_14 ?_
    refine la_if_ne C (tgt := 22) dX8_told_17 (by decide) (fun hc => ?_) (fun hc => ?_)
    · replace h := la_f hc h
      refine la_iload_n C dX8_told_22 2 rfl ?_
      refine la_if_ne C (tgt := 35) dX8_told_23 (by decide) (fun hc => ?_) (fun hc => ?_)
      · replace h := la_f hc h
        refine la_iload_n C dX8_told_35 2 rfl ?_
        refine la_iconst C (v := 1) dX8_told_36 (by decide) ?_
        refine la_icmp_ne C (tgt := 49) dX8_told_37 (by decide) (fun hc => ?_) (fun hc => ?_)
        · replace h := la_f hc h
          refine la_aload_n C dX8_told_49 0 rfl ?_
          refine GLMRX8_31 C dX8_told_50 ?_
          refine la_iload_n C dX8_told_53 1 rfl ?_
          obtain ⟨hi54, h⟩ := la_go h
          refine ALM8 C _ rfl hi54 dX8_told_54 ?_
          exact la_iret C rfl (la_rR (P := (fun r' μ' => r' = r0 ∧ μ' = μ)) h hret) dX8_told_55
        · replace h := la_t hc h
          refine la_aload_n C dX8_told_40 0 rfl ?_
          refine GLMRX8_28 C dX8_told_41 ?_
          refine la_iload_n C dX8_told_44 1 rfl ?_
          obtain ⟨hi45, h⟩ := la_go h
          refine ALM7 C _ rfl hi45 dX8_told_45 ?_
          refine la_goto C (tgt := 55) dX8_told_46 (by decide) ?_
          exact la_iret C rfl (la_rR (P := (fun r' μ' => r' = r0 ∧ μ' = μ)) h hret) dX8_told_55
      · replace h := la_t hc h
        refine la_aload_n C dX8_told_26 0 rfl ?_
        refine GLMRX8_25 C dX8_told_27 ?_
        refine la_iload_n C dX8_told_30 1 rfl ?_
        obtain ⟨hi31, h⟩ := la_go h
        refine ALM6 C _ rfl hi31 dX8_told_31 ?_
        refine la_goto C (tgt := 55) dX8_told_32 (by decide) ?_
        exact la_iret C rfl (la_rR (P := (fun r' μ' => r' = r0 ∧ μ' = μ)) h hret) dX8_told_55
    · replace h := la_t hc h
      refine la_iconst C (v := (-1)) dX8_told_20 (by decide) ?_
      exact la_iret C rfl (la_rR (P := (fun r' μ' => r' = r0 ∧ μ' = μ)) h hret) dX8_told_21

def fX8_wear (x1 : Int32) (x2 : Int32) (μ : la_Mem) : Option (Int32 × la_Mem) :=
  (fX8_isMould x1 μ).bind (fun r2 => if r2 = 0 then (some ((-1), μ)) else ((fX8_in (Int32.toInt64 x2) 0 127 μ).bind (fun r14 => if r14 = 0 then (some ((-1), μ)) else (la_if (la_ix x1 60) (if (x2 &&& ((μ 7 (Int32.toNatClampNeg x1)) ^^^ (-1))) = 0 then (la_if (la_ix x1 60) (la_if (la_ix x1 60) (la_st (la_ms μ 7 (Int32.toNatClampNeg x1) ((μ 7 (Int32.toNatClampNeg x1)) &&& (x2 ^^^ (-1)))) (fun μ46 => la_if (la_ix x1 60) (some ((μ46 7 (Int32.toNatClampNeg x1)), μ46)))))) else (some ((-1), μ)))))))
set_option maxRecDepth 10000 in
theorem mX8_wear {z : LMz} {l : Launch} (x1 : Int32) (x2 : Int32) (μ : la_Mem) (r0 : Int32) (μ0 : la_Mem)  (h : fX8_wear x1 x2 μ = some (r0, μ0)) : la_M (LM z) l yX8_wear cX8_wear 3 (some .int) rmX8_wear [.ref (z.2.1 0), .int x1, .int x2] μ (fun r' μ' => r' = r0 ∧ μ' = μ0) := by
  refine la_of (own := RX8) (lv := [(0, .ref (z.2.1 0)), (1, .int x1), (2, .int x2)]) (by decide) rfl (Nat.le_of_ble_eq_true rfl) rfl (fun Φ C => ?_)
  unfold fX8_wear at h
  have hret : r0 = r0 ∧ μ0 = μ0 := ⟨rfl, rfl⟩
  refine la_aload_n C dX8_wear_0 0 rfl ?_
  refine la_iload_n C dX8_wear_1 1 rfl ?_
  obtain ⟨r2, hr2, h⟩ := la_bd h
  refine KLMRX8_130 C [.int x1] [] (mX8_isMould x1 μ r2 hr2) ⟨by decide, by decide⟩ rfl rfl (Nat.le_of_ble_eq_true rfl) dX8_wear_2 ?_
  refine la_if_eq C (tgt := 33) dX8_wear_5 (by decide) (fun hc => ?_) (fun hc => ?_)
  · replace h := la_t hc h
    refine la_iconst C (v := (-1)) dX8_wear_33 (by decide) ?_
    exact la_iret C rfl (la_rW (P := (fun r' μ' => r' = r0 ∧ μ' = μ0)) h hret) dX8_wear_34
  · replace h := la_f hc h
    refine la_iload_n C dX8_wear_8 2 rfl ?_
    refine la_i2l C dX8_wear_9 ?_
    refine la_lconst C (v := 0) dX8_wear_10 (by decide) ?_
    refine la_ldc2 C (v := 127) wd_145 dX8_wear_11 ?_
    obtain ⟨r14, hr14, h⟩ := la_bd h
    refine KLMRX8_87 C [.long (Int32.toInt64 x2), .long 0, .long 127] [] (mX8_in (Int32.toInt64 x2) 0 127 μ r14 hr14) ⟨by decide, by decide⟩ rfl rfl (Nat.le_of_ble_eq_true rfl) dX8_wear_14 ?_
    refine la_if_eq C (tgt := 33) dX8_wear_17 (by decide) (fun hc => ?_) (fun hc => ?_)
    · replace h := la_t hc h
      refine la_iconst C (v := (-1)) dX8_wear_33 (by decide) ?_
      exact la_iret C rfl (la_rW (P := (fun r' μ' => r' = r0 ∧ μ' = μ0)) h hret) dX8_wear_34
    · replace h := la_f hc h
      refine la_iload_n C dX8_wear_20 2 rfl ?_
      refine la_aload_n C dX8_wear_21 0 rfl ?_
      refine GLMRX8_28 C dX8_wear_22 ?_
      refine la_iload_n C dX8_wear_25 1 rfl ?_
      obtain ⟨hi26, h⟩ := la_go h
      refine ALM7 C _ rfl hi26 dX8_wear_26 ?_
      refine la_iconst C (v := (-1)) dX8_wear_27 (by decide) ?_
      refine la_ixor C dX8_wear_28 ?_
      refine la_iand C dX8_wear_29 ?_
      refine la_if_eq C (tgt := 35) dX8_wear_30 (by decide) (fun hc => ?_) (fun hc => ?_)
      · replace h := la_t hc h
        refine la_aload_n C dX8_wear_35 0 rfl ?_
        refine GLMRX8_28 C dX8_wear_36 ?_
        refine la_iload_n C dX8_wear_39 1 rfl ?_
        refine la_dup2 C dX8_wear_40 rfl rfl ?_
        obtain ⟨hi41, h⟩ := la_go h
        refine ALM7 C _ rfl hi41 dX8_wear_41 ?_
        refine la_iload_n C dX8_wear_42 2 rfl ?_
        refine la_iconst C (v := (-1)) dX8_wear_43 (by decide) ?_
        refine la_ixor C dX8_wear_44 ?_
        refine la_iand C dX8_wear_45 ?_
        obtain ⟨hi46, h⟩ := la_go h
        obtain ⟨μ46, eμ46, h⟩ := la_so h
        refine BLM7 C _ rfl hi46 eμ46 dX8_wear_46 ?_
        refine la_aload_n C dX8_wear_47 0 rfl ?_
        refine GLMRX8_28 C dX8_wear_48 ?_
        refine la_iload_n C dX8_wear_51 1 rfl ?_
        obtain ⟨hi52, h⟩ := la_go h
        refine ALM7 C _ rfl hi52 dX8_wear_52 ?_
        exact la_iret C rfl (la_rW (P := (fun r' μ' => r' = r0 ∧ μ' = μ0)) h hret) dX8_wear_53
      · replace h := la_f hc h
        refine la_iconst C (v := (-1)) dX8_wear_33 (by decide) ?_
        exact la_iret C rfl (la_rW (P := (fun r' μ' => r' = r0 ∧ μ' = μ0)) h hret) dX8_wear_34

def fX8_home (x1 : Int32) (μ : la_Mem) : Option (Int32 × la_Mem) :=
  (fX8_isMould x1 μ).bind (fun r2 => if r2 = 0 then (some ((-1), μ)) else (la_if (la_ix x1 60) (if (μ 8 (Int32.toNatClampNeg x1)) = 12 then (la_if (la_ix x1 60) (la_st ((μ 6 (Int32.toNatClampNeg x1))) (fun v30 => la_b2 (fX8_lies x1 v30 μ) (fun r34 μ34 => if r34 = 0 then (some ((-3), μ34)) else (la_if (la_ix v30 12) (some ((μ34 9 (Int32.toNatClampNeg v30)), μ34))))))) else (some ((-2), μ)))))
set_option maxRecDepth 10000 in
theorem mX8_home {z : LMz} {l : Launch} (x1 : Int32) (μ : la_Mem) (r0 : Int32) (μ0 : la_Mem)  (h : fX8_home x1 μ = some (r0, μ0)) : la_M (LM z) l yX8_home cX8_home 3 (some .int) rmX8_home [.ref (z.2.1 0), .int x1] μ (fun r' μ' => r' = r0 ∧ μ' = μ0) := by
  refine la_of (own := RX8) (lv := [(0, .ref (z.2.1 0)), (1, .int x1)]) (by decide) rfl (Nat.le_of_ble_eq_true rfl) rfl (fun Φ C => ?_)
  unfold fX8_home at h
  have hret : r0 = r0 ∧ μ0 = μ0 := ⟨rfl, rfl⟩
  refine la_aload_n C dX8_home_0 0 rfl ?_
  refine la_iload_n C dX8_home_1 1 rfl ?_
  obtain ⟨r2, hr2, h⟩ := la_bd h
  refine KLMRX8_130 C [.int x1] [] (mX8_isMould x1 μ r2 hr2) ⟨by decide, by decide⟩ rfl rfl (Nat.le_of_ble_eq_true rfl) dX8_home_2 ?_
  refine la_if_ne C (tgt := 10) dX8_home_5 (by decide) (fun hc => ?_) (fun hc => ?_)
  · replace h := la_f hc h
    refine la_aload_n C dX8_home_10 0 rfl ?_
    refine GLMRX8_31 C dX8_home_11 ?_
    refine la_iload_n C dX8_home_14 1 rfl ?_
    obtain ⟨hi15, h⟩ := la_go h
    refine ALM8 C _ rfl hi15 dX8_home_15 ?_
    refine la_bipush C (v := 12) dX8_home_16 (by decide) ?_
    refine la_icmp_eq C (tgt := 24) dX8_home_18 (by decide) (fun hc => ?_) (fun hc => ?_)
    · replace h := la_t hc h
      refine la_aload_n C dX8_home_24 0 rfl ?_
      refine GLMRX8_25 C dX8_home_25 ?_
      refine la_iload_n C dX8_home_28 1 rfl ?_
      obtain ⟨hi29, h⟩ := la_go h
      refine ALM6 C _ rfl hi29 dX8_home_29 ?_
      obtain ⟨v30, ev30, h⟩ := la_so h
      refine la_nm C ev30 ?_
      refine la_istore_n C dX8_home_30 (by decide) rfl ?_
      refine la_aload_n C dX8_home_31 1 rfl ?_
      refine la_iload_n C dX8_home_32 2 rfl ?_
      refine la_iload_n C dX8_home_33 0 rfl ?_
      obtain ⟨r34, μ34, hr34, h⟩ := la_b2o h
      refine KLMRX8_126 C [.int x1, .int v30] [] (mX8_lies x1 v30 μ r34 μ34 hr34) ⟨by decide, by decide⟩ rfl rfl (Nat.le_of_ble_eq_true rfl) dX8_home_34 ?_
      refine la_if_eq C (tgt := 49) dX8_home_37 (by decide) (fun hc => ?_) (fun hc => ?_)
      · replace h := la_t hc h
        refine la_bipush C (v := (-3)) dX8_home_49 (by decide) ?_
        exact la_iret C rfl (la_rW (P := (fun r' μ' => r' = r0 ∧ μ' = μ0)) h hret) dX8_home_51
      · replace h := la_f hc h
        refine la_aload_n C dX8_home_40 1 rfl ?_
        refine GLMRX8_34 C dX8_home_41 ?_
        refine la_iload_n C dX8_home_44 0 rfl ?_
        obtain ⟨hi45, h⟩ := la_go h
        refine ALM9 C _ rfl hi45 dX8_home_45 ?_
        refine la_goto C (tgt := 51) dX8_home_46 (by decide) ?_
        exact la_iret C rfl (la_rW (P := (fun r' μ' => r' = r0 ∧ μ' = μ0)) h hret) dX8_home_51
    · replace h := la_f hc h
      refine la_bipush C (v := (-2)) dX8_home_21 (by decide) ?_
      exact la_iret C rfl (la_rW (P := (fun r' μ' => r' = r0 ∧ μ' = μ0)) h hret) dX8_home_23
  · replace h := la_t hc h
    refine la_iconst C (v := (-1)) dX8_home_8 (by decide) ?_
    exact la_iret C rfl (la_rW (P := (fun r' μ' => r' = r0 ∧ μ' = μ0)) h hret) dX8_home_9

def fX8_channel (x1 : Int32) (x2 : Int32) (μ : la_Mem) : Option Int32 :=
  (fX8_isTwelve x1 μ).bind (fun r1 => if r1 = 0 then (some (-1)) else (if (-1) ≤ x2 then (if 0 ≤ x2 then (la_if (la_ix x1 12) (if (μ 9 (Int32.toNatClampNeg x1)) ≤ x2 then (some (-4)) else (la_if (la_ix ((8 * x1) + x2) 96) (some (μ 10 (Int32.toNatClampNeg ((8 * x1) + x2))))))) else (la_if (la_ix x1 12) (some (μ 9 (Int32.toNatClampNeg x1))))) else (some (-1))))
set_option maxRecDepth 10000 in
theorem mX8_channel {z : LMz} {l : Launch} (x1 : Int32) (x2 : Int32) (μ : la_Mem) (r0 : Int32)  (h : fX8_channel x1 x2 μ = some r0) : la_M (LM z) l yX8_channel cX8_channel 3 (some .int) rmX8_channel [.ref (z.2.1 0), .int x1, .int x2] μ (fun r' μ' => r' = r0 ∧ μ' = μ) := by
  refine la_of (own := RX8) (lv := [(0, .ref (z.2.1 0)), (1, .int x1), (2, .int x2)]) (by decide) rfl (Nat.le_of_ble_eq_true rfl) rfl (fun Φ C => ?_)
  unfold fX8_channel at h
  have hret : r0 = r0 ∧ μ = μ := ⟨rfl, rfl⟩
  refine la_iload_n C dX8_channel_0 1 rfl ?_
  obtain ⟨r1, hr1, h⟩ := la_bd h
  refine KLMRX8_91 C [.int x1] [] (mX8_isTwelve x1 μ r1 hr1) ⟨by decide, by decide⟩ rfl rfl (Nat.le_of_ble_eq_true rfl) dX8_channel_1 ?_
  refine la_if_eq C (tgt := 12) dX8_channel_4 (by decide) (fun hc => ?_) (fun hc => ?_)
  · replace h := la_t hc h
    refine la_iconst C (v := (-1)) dX8_channel_12 (by decide) ?_
    exact la_iret C rfl (la_rR (P := (fun r' μ' => r' = r0 ∧ μ' = μ)) h hret) dX8_channel_13
  · replace h := la_f hc h
    refine la_iload_n C dX8_channel_7 2 rfl ?_
    refine la_iconst C (v := (-1)) dX8_channel_8 (by decide) ?_
    refine la_icmp_ge C (tgt := 14) dX8_channel_9 (by decide) (fun hc => ?_) (fun hc => ?_)
    · replace h := la_t hc h
      refine la_iload_n C dX8_channel_14 2 rfl ?_
      refine la_if_ge C (tgt := 27) dX8_channel_15 (by decide) (fun hc => ?_) (fun hc => ?_)
      · replace h := la_t hc h
        refine la_iload_n C dX8_channel_27 2 rfl ?_
        refine la_aload_n C dX8_channel_28 0 rfl ?_
        refine GLMRX8_34 C dX8_channel_29 ?_
        refine la_iload_n C dX8_channel_32 1 rfl ?_
        obtain ⟨hi33, h⟩ := la_go h
        refine ALM9 C _ rfl hi33 dX8_channel_33 ?_
        refine la_icmp_ge C (tgt := 51) dX8_channel_34 (by decide) (fun hc => ?_) (fun hc => ?_)
        · replace h := la_t hc h
          refine la_bipush C (v := (-4)) dX8_channel_51 (by decide) ?_
          exact la_iret C rfl (la_rR (P := (fun r' μ' => r' = r0 ∧ μ' = μ)) h hret) dX8_channel_53
        · replace h := la_f hc h
          refine la_aload_n C dX8_channel_37 0 rfl ?_
          refine GLMRX8_37 C dX8_channel_38 ?_
          refine la_bipush C (v := 8) dX8_channel_41 (by decide) ?_
          refine la_iload_n C dX8_channel_43 1 rfl ?_
          refine la_imul C dX8_channel_44 ?_
          refine la_iload_n C dX8_channel_45 2 rfl ?_
          refine la_iadd C dX8_channel_46 ?_
          obtain ⟨hi47, h⟩ := la_go h
          refine ALM10 C _ rfl hi47 dX8_channel_47 ?_
          refine la_goto C (tgt := 53) dX8_channel_48 (by decide) ?_
          exact la_iret C rfl (la_rR (P := (fun r' μ' => r' = r0 ∧ μ' = μ)) h hret) dX8_channel_53
      · replace h := la_f hc h
        refine la_aload_n C dX8_channel_18 0 rfl ?_
        refine GLMRX8_34 C dX8_channel_19 ?_
        refine la_iload_n C dX8_channel_22 1 rfl ?_
        obtain ⟨hi23, h⟩ := la_go h
        refine ALM9 C _ rfl hi23 dX8_channel_23 ?_
        refine la_goto C (tgt := 53) dX8_channel_24 (by decide) ?_
        exact la_iret C rfl (la_rR (P := (fun r' μ' => r' = r0 ∧ μ' = μ)) h hret) dX8_channel_53
    · replace h := la_f hc h
      refine la_iconst C (v := (-1)) dX8_channel_12 (by decide) ?_
      exact la_iret C rfl (la_rR (P := (fun r' μ' => r' = r0 ∧ μ' = μ)) h hret) dX8_channel_13

def fX8_lets (x1 : Int32) (x2 : Int32) (μ : la_Mem) : Option (Int32 × la_Mem) :=
  la_if (la_ix (μ 0 14) 24) (la_st (la_ms μ 12 (Int32.toNatClampNeg (μ 0 14)) x1) (fun μ9 => la_if (la_ix (μ9 0 14) 24) (la_st (la_ms μ9 13 (Int32.toNatClampNeg (μ9 0 14)) (((μ9 0 11) + 2) + x2)) (fun μ26 => la_st (la_ms μ26 0 14 ((μ26 0 14) + 1)) (fun μ34 => some ((((μ34 0 11) + 2) + x2), μ34))))))
set_option maxRecDepth 10000 in
theorem mX8_lets {z : LMz} {l : Launch} (x1 : Int32) (x2 : Int32) (μ : la_Mem) (r0 : Int32) (μ0 : la_Mem)  (h : fX8_lets x1 x2 μ = some (r0, μ0)) : la_M (LM z) l yX8_lets cX8_lets 3 (some .int) rmX8_lets [.ref (z.2.1 0), .int x1, .int x2] μ (fun r' μ' => r' = r0 ∧ μ' = μ0) := by
  refine la_of (own := RX8) (lv := [(0, .ref (z.2.1 0)), (1, .int x1), (2, .int x2)]) (by decide) rfl (Nat.le_of_ble_eq_true rfl) rfl (fun Φ C => ?_)
  unfold fX8_lets at h
  have hret : r0 = r0 ∧ μ0 = μ0 := ⟨rfl, rfl⟩
  refine la_aload_n C dX8_lets_0 0 rfl ?_
  refine GLMRX8_43 C dX8_lets_1 ?_
  refine la_aload_n C dX8_lets_4 0 rfl ?_
  refine GLMRX8_135 C dX8_lets_5 ?_
  refine la_iload_n C dX8_lets_8 1 rfl ?_
  obtain ⟨hi9, h⟩ := la_go h
  obtain ⟨μ9, eμ9, h⟩ := la_so h
  refine BLM12 C _ rfl hi9 eμ9 dX8_lets_9 ?_
  refine la_aload_n C dX8_lets_10 0 rfl ?_
  refine GLMRX8_46 C dX8_lets_11 ?_
  refine la_aload_n C dX8_lets_14 0 rfl ?_
  refine GLMRX8_135 C dX8_lets_15 ?_
  refine la_aload_n C dX8_lets_18 0 rfl ?_
  refine GLMRX8_138 C dX8_lets_19 ?_
  refine la_iconst C (v := 2) dX8_lets_22 (by decide) ?_
  refine la_iadd C dX8_lets_23 ?_
  refine la_iload_n C dX8_lets_24 2 rfl ?_
  refine la_iadd C dX8_lets_25 ?_
  obtain ⟨hi26, h⟩ := la_go h
  obtain ⟨μ26, eμ26, h⟩ := la_so h
  refine BLM13 C _ rfl hi26 eμ26 dX8_lets_26 ?_
  refine la_aload_n C dX8_lets_27 0 rfl ?_
  refine la_dup C dX8_lets_28 rfl ?_
  refine GLMRX8_135 C dX8_lets_29 ?_
  refine la_iconst C (v := 1) dX8_lets_32 (by decide) ?_
  refine la_iadd C dX8_lets_33 ?_
  obtain ⟨μ34, eμ34, h⟩ := la_so h
  refine SLMRX8_135 C eμ34 dX8_lets_34 ?_
  refine la_aload_n C dX8_lets_37 0 rfl ?_
  refine GLMRX8_138 C dX8_lets_38 ?_
  refine la_iconst C (v := 2) dX8_lets_41 (by decide) ?_
  refine la_iadd C dX8_lets_42 ?_
  refine la_iload_n C dX8_lets_43 2 rfl ?_
  refine la_iadd C dX8_lets_44 ?_
  exact la_iret C rfl (la_rW (P := (fun r' μ' => r' = r0 ∧ μ' = μ0)) h hret) dX8_lets_45

def fX8_key_L60 (x1 : Int32) (x2 : Int32) : Nat → Int32 → la_Mem → Option (la_Mem)
  | 0, _, _ => none
  | n + 1, x3, μ => la_if (la_ix x1 12) (if (μ 9 (Int32.toNatClampNeg x1)) ≤ x3 then (some μ) else (la_if (la_ix (((8 * x1) + x3) + 1) 96) (la_if (la_ix ((8 * x1) + x3) 96) (la_st (la_ms μ 10 (Int32.toNatClampNeg ((8 * x1) + x3)) (μ 10 (Int32.toNatClampNeg (((8 * x1) + x3) + 1)))) (fun μ93 => (fX8_key_L60 x1 x2 n) (x3 + 1) μ93)))))
set_option maxRecDepth 10000 in
theorem wX8_key_L60 {z : LMz} {l : Launch} {Post : Int32 → la_Mem → Prop} {Φ : Nat → List (Nat × Value) → List Value → la_Mem → Prop} (C : la_C (LM z) l rmX8_key RX8 cX8_key 4 (some .int) Post Φ) (x1 : Int32) (x2 : Int32)  (ex : (la_Mem)) (kx : ∀  (ν : la_Mem), ex = ν → Φ 100 [(0, .ref (z.2.1 0)), (1, .int x1), (2, .int x2)] [] ν) : ∀ (n : Nat) (x3 : Int32) (μ : la_Mem), fX8_key_L60 x1 x2 n x3 μ = some ex → Φ 60 [(0, .ref (z.2.1 0)), (1, .int x1), (2, .int x2), (3, .int x3)] [] μ := by
  intro n
  induction n with
  | zero =>
    intro _ _ h
    cases h
  | succ n hrec =>
    intro x3 μ h
    rw [fX8_key_L60] at h
    refine la_iload_n C dX8_key_60 3 rfl ?_
    refine la_aload_n C dX8_key_61 0 rfl ?_
    refine GLMRX8_34 C dX8_key_62 ?_
    refine la_iload_n C dX8_key_65 1 rfl ?_
    obtain ⟨hi66, h⟩ := la_go h
    refine ALM9 C _ rfl hi66 dX8_key_66 ?_
    refine la_icmp_ge C (tgt := 100) dX8_key_67 (by decide) (fun hc => ?_) (fun hc => ?_)
    · replace h := la_t hc h
      refine la_sub C [0, 1, 2] rfl ?_
      exact kx _ (Option.some.inj h).symm
    · replace h := la_f hc h
      refine la_aload_n C dX8_key_70 0 rfl ?_
      refine GLMRX8_37 C dX8_key_71 ?_
      refine la_bipush C (v := 8) dX8_key_74 (by decide) ?_
      refine la_iload_n C dX8_key_76 1 rfl ?_
      refine la_imul C dX8_key_77 ?_
      refine la_iload_n C dX8_key_78 3 rfl ?_
      refine la_iadd C dX8_key_79 ?_
      refine la_aload_n C dX8_key_80 0 rfl ?_
      refine GLMRX8_37 C dX8_key_81 ?_
      refine la_bipush C (v := 8) dX8_key_84 (by decide) ?_
      refine la_iload_n C dX8_key_86 1 rfl ?_
      refine la_imul C dX8_key_87 ?_
      refine la_iload_n C dX8_key_88 3 rfl ?_
      refine la_iadd C dX8_key_89 ?_
      refine la_iconst C (v := 1) dX8_key_90 (by decide) ?_
      refine la_iadd C dX8_key_91 ?_
      obtain ⟨hi92, h⟩ := la_go h
      refine ALM10 C _ rfl hi92 dX8_key_92 ?_
      obtain ⟨hi93, h⟩ := la_go h
      obtain ⟨μ93, eμ93, h⟩ := la_so h
      refine BLM10 C _ rfl hi93 eμ93 dX8_key_93 ?_
      refine la_iinc C (v := (x3 + 1)) dX8_key_94 3 rfl rfl (by decide) rfl ?_
      refine la_goto C (tgt := 60) dX8_key_97 (by decide) ?_
      refine la_sub C [1, 2, 3, 0] rfl ?_
      exact hrec _ _ h
def fX8_key (x1 : Int32) (μ : la_Mem) : Option (Int32 × la_Mem) :=
  (fX8_isTwelve x1 μ).bind (fun r1 => if r1 = 0 then (some ((-1), μ)) else (la_if (la_ix x1 12) (if (μ 9 (Int32.toNatClampNeg x1)) = 0 then (some ((-4), μ)) else (if ((μ 0 12) + (μ 0 14)) = 24 then (some ((-3), μ)) else (la_if (la_ix (8 * x1) 96) (la_st ((μ 10 (Int32.toNatClampNeg (8 * x1)))) (fun v47 => la_if (la_ix x1 12) (la_if (la_ix x1 12) (la_st (la_ms μ 9 (Int32.toNatClampNeg x1) ((μ 9 (Int32.toNatClampNeg x1)) - 1)) (fun μ57 => Option.bind (fX8_key_L60 x1 v47 400 0 μ57) (fun ν60 => la_if (la_ix v47 60) (la_st (la_ms ν60 8 (Int32.toNatClampNeg v47) 13) (fun μ107 => la_if (la_ix x1 12) (la_b2 (fX8_lets v47 (μ107 4 (Int32.toNatClampNeg x1)) μ107) (fun r116 μ116 => some (r116, μ116))))))))))))))))
set_option maxRecDepth 10000 in
theorem mX8_key {z : LMz} {l : Launch} (x1 : Int32) (μ : la_Mem) (r0 : Int32) (μ0 : la_Mem)  (h : fX8_key x1 μ = some (r0, μ0)) : la_M (LM z) l yX8_key cX8_key 4 (some .int) rmX8_key [.ref (z.2.1 0), .int x1] μ (fun r' μ' => r' = r0 ∧ μ' = μ0) := by
  refine la_of (own := RX8) (lv := [(0, .ref (z.2.1 0)), (1, .int x1)]) (by decide) rfl (Nat.le_of_ble_eq_true rfl) rfl (fun Φ C => ?_)
  unfold fX8_key at h
  have hret : r0 = r0 ∧ μ0 = μ0 := ⟨rfl, rfl⟩
  refine la_iload_n C dX8_key_0 1 rfl ?_
  obtain ⟨r1, hr1, h⟩ := la_bd h
  refine KLMRX8_91 C [.int x1] [] (mX8_isTwelve x1 μ r1 hr1) ⟨by decide, by decide⟩ rfl rfl (Nat.le_of_ble_eq_true rfl) dX8_key_1 ?_
  refine la_if_ne C (tgt := 9) dX8_key_4 (by decide) (fun hc => ?_) (fun hc => ?_)
  · replace h := la_f hc h
    refine la_aload_n C dX8_key_9 0 rfl ?_
    refine GLMRX8_34 C dX8_key_10 ?_
    refine la_iload_n C dX8_key_13 1 rfl ?_
    obtain ⟨hi14, h⟩ := la_go h
    refine ALM9 C _ rfl hi14 dX8_key_14 ?_
    refine la_if_ne C (tgt := 21) dX8_key_15 (by decide) (fun hc => ?_) (fun hc => ?_)
    · replace h := la_f hc h
      refine la_aload_n C dX8_key_21 0 rfl ?_
      refine GLMRX8_141 C dX8_key_22 ?_
      refine la_aload_n C dX8_key_25 0 rfl ?_
      refine GLMRX8_135 C dX8_key_26 ?_
      refine la_iadd C dX8_key_29 ?_
      refine la_bipush C (v := 24) dX8_key_30 (by decide) ?_
      refine la_icmp_ne C (tgt := 38) dX8_key_32 (by decide) (fun hc => ?_) (fun hc => ?_)
      · replace h := la_f hc h
        refine la_aload_n C dX8_key_38 0 rfl ?_
        refine GLMRX8_37 C dX8_key_39 ?_
        refine la_bipush C (v := 8) dX8_key_42 (by decide) ?_
        refine la_iload_n C dX8_key_44 1 rfl ?_
        refine la_imul C dX8_key_45 ?_
        obtain ⟨hi46, h⟩ := la_go h
        refine ALM10 C _ rfl hi46 dX8_key_46 ?_
        obtain ⟨v47, ev47, h⟩ := la_so h
        refine la_nm C ev47 ?_
        refine la_istore_n C dX8_key_47 (by decide) rfl ?_
        refine la_aload_n C dX8_key_48 1 rfl ?_
        refine GLMRX8_34 C dX8_key_49 ?_
        refine la_iload_n C dX8_key_52 2 rfl ?_
        refine la_dup2 C dX8_key_53 rfl rfl ?_
        obtain ⟨hi54, h⟩ := la_go h
        refine ALM9 C _ rfl hi54 dX8_key_54 ?_
        refine la_iconst C (v := 1) dX8_key_55 (by decide) ?_
        refine la_isub C dX8_key_56 ?_
        obtain ⟨hi57, h⟩ := la_go h
        obtain ⟨μ57, eμ57, h⟩ := la_so h
        refine BLM9 C _ rfl hi57 eμ57 dX8_key_57 ?_
        refine la_iconst C (v := 0) dX8_key_58 (by decide) ?_
        refine la_istore_n C dX8_key_59 (by decide) rfl ?_
        obtain ⟨ν60, hL60, h⟩ := la_bd h
        refine la_sub C [2, 3, 1, 0] rfl ?_
        refine wX8_key_L60 C _ _  _ (fun _ e => ?_) _ _ _ hL60
        cases e
        refine la_aload_n C dX8_key_100 0 rfl ?_
        refine GLMRX8_31 C dX8_key_101 ?_
        refine la_iload_n C dX8_key_104 2 rfl ?_
        refine la_bipush C (v := 13) dX8_key_105 (by decide) ?_
        obtain ⟨hi107, h⟩ := la_go h
        obtain ⟨μ107, eμ107, h⟩ := la_so h
        refine BLM8 C _ rfl hi107 eμ107 dX8_key_107 ?_
        refine la_aload_n C dX8_key_108 0 rfl ?_
        refine la_iload_n C dX8_key_109 2 rfl ?_
        refine la_aload_n C dX8_key_110 0 rfl ?_
        refine GLMRX8_19 C dX8_key_111 ?_
        refine la_iload_n C dX8_key_114 1 rfl ?_
        obtain ⟨hi115, h⟩ := la_go h
        refine ALM4 C _ rfl hi115 dX8_key_115 ?_
        obtain ⟨r116, μ116, hr116, h⟩ := la_b2o h
        refine KLMRX8_144 C [.int v47, .int (μ107 4 (Int32.toNatClampNeg x1))] [] (mX8_lets v47 (μ107 4 (Int32.toNatClampNeg x1)) μ107 r116 μ116 hr116) ⟨by decide, by decide⟩ rfl rfl (Nat.le_of_ble_eq_true rfl) dX8_key_116 ?_
        exact la_iret C rfl (la_rW (P := (fun r' μ' => r' = r0 ∧ μ' = μ0)) h hret) dX8_key_119
      · replace h := la_t hc h
        refine la_bipush C (v := (-3)) dX8_key_35 (by decide) ?_
        exact la_iret C rfl (la_rW (P := (fun r' μ' => r' = r0 ∧ μ' = μ0)) h hret) dX8_key_37
    · replace h := la_t hc h
      refine la_bipush C (v := (-4)) dX8_key_18 (by decide) ?_
      exact la_iret C rfl (la_rW (P := (fun r' μ' => r' = r0 ∧ μ' = μ0)) h hret) dX8_key_20
  · replace h := la_t hc h
    refine la_iconst C (v := (-1)) dX8_key_7 (by decide) ?_
    exact la_iret C rfl (la_rW (P := (fun r' μ' => r' = r0 ∧ μ' = μ0)) h hret) dX8_key_8

def fX8_band  (μ : la_Mem) : Option (Int32 × la_Mem) :=
  if (μ 0 17) = 12 then (some ((-4), μ)) else (if ((μ 0 12) + (μ 0 14)) = 24 then (some ((-3), μ)) else (la_st (la_ms μ 0 17 ((μ 0 17) + 1)) (fun μ36 => la_b2 (fX8_lets 100 0 μ36) (fun r43 μ43 => some (r43, μ43)))))
set_option maxRecDepth 10000 in
theorem mX8_band {z : LMz} {l : Launch}  (μ : la_Mem) (r0 : Int32) (μ0 : la_Mem)  (h : fX8_band  μ = some (r0, μ0)) : la_M (LM z) l yX8_band cX8_band 1 (some .int) rmX8_band [.ref (z.2.1 0)] μ (fun r' μ' => r' = r0 ∧ μ' = μ0) := by
  refine la_of (own := RX8) (lv := [(0, .ref (z.2.1 0))]) (by decide) rfl (Nat.le_of_ble_eq_true rfl) rfl (fun Φ C => ?_)
  unfold fX8_band at h
  have hret : r0 = r0 ∧ μ0 = μ0 := ⟨rfl, rfl⟩
  refine la_aload_n C dX8_band_0 0 rfl ?_
  refine GLMRX8_148 C dX8_band_1 ?_
  refine la_bipush C (v := 12) dX8_band_4 (by decide) ?_
  refine la_icmp_ne C (tgt := 12) dX8_band_6 (by decide) (fun hc => ?_) (fun hc => ?_)
  · replace h := la_f hc h
    refine la_aload_n C dX8_band_12 0 rfl ?_
    refine GLMRX8_141 C dX8_band_13 ?_
    refine la_aload_n C dX8_band_16 0 rfl ?_
    refine GLMRX8_135 C dX8_band_17 ?_
    refine la_iadd C dX8_band_20 ?_
    refine la_bipush C (v := 24) dX8_band_21 (by decide) ?_
    refine la_icmp_ne C (tgt := 29) dX8_band_23 (by decide) (fun hc => ?_) (fun hc => ?_)
    · replace h := la_f hc h
      refine la_aload_n C dX8_band_29 0 rfl ?_
      refine la_dup C dX8_band_30 rfl ?_
      refine GLMRX8_148 C dX8_band_31 ?_
      refine la_iconst C (v := 1) dX8_band_34 (by decide) ?_
      refine la_iadd C dX8_band_35 ?_
      obtain ⟨μ36, eμ36, h⟩ := la_so h
      refine SLMRX8_148 C eμ36 dX8_band_36 ?_
      refine la_aload_n C dX8_band_39 0 rfl ?_
      refine la_bipush C (v := 100) dX8_band_40 (by decide) ?_
      refine la_iconst C (v := 0) dX8_band_42 (by decide) ?_
      obtain ⟨r43, μ43, hr43, h⟩ := la_b2o h
      refine KLMRX8_144 C [.int 100, .int 0] [] (mX8_lets 100 0 μ36 r43 μ43 hr43) ⟨by decide, by decide⟩ rfl rfl (Nat.le_of_ble_eq_true rfl) dX8_band_43 ?_
      exact la_iret C rfl (la_rW (P := (fun r' μ' => r' = r0 ∧ μ' = μ0)) h hret) dX8_band_46
    · replace h := la_t hc h
      refine la_bipush C (v := (-3)) dX8_band_26 (by decide) ?_
      exact la_iret C rfl (la_rW (P := (fun r' μ' => r' = r0 ∧ μ' = μ0)) h hret) dX8_band_28
  · replace h := la_t hc h
    refine la_bipush C (v := (-4)) dX8_band_9 (by decide) ?_
    exact la_iret C rfl (la_rW (P := (fun r' μ' => r' = r0 ∧ μ' = μ0)) h hret) dX8_band_11

def fX8_tick_J90 (rec : Int32 → Int32 → la_Mem → Option (Int32 × la_Mem)) (x1 : Int32) (x2 : Int32) (μ : la_Mem) : Option (Int32 × la_Mem) :=
  rec x1 (x2 + 1) μ
set_option maxRecDepth 10000 in
theorem wX8_tick_J90 {z : LMz} {l : Launch} {Post : Int32 → la_Mem → Prop} {Φ : Nat → List (Nat × Value) → List Value → la_Mem → Prop} (C : la_C (LM z) l rmX8_tick RX8 cX8_tick 4 none Post Φ) (rec : Int32 → Int32 → la_Mem → Option (Int32 × la_Mem)) (x1 : Int32) (x2 : Int32) (μ : la_Mem)  (ex : (Int32 × la_Mem)) (hrec : ∀ (y1 : Int32) (y2 : Int32) (ν : la_Mem), rec y1 y2 ν = some ex → Φ 14 [(0, .ref (z.2.1 0)), (1, .int y1), (2, .int y2)] [] ν) (kx : ∀ (y1 : Int32) (ν : la_Mem), ex = (y1, ν) → Φ 96 [(0, .ref (z.2.1 0)), (1, .int y1)] [] ν) (h : fX8_tick_J90 rec x1 x2 μ = some ex) : Φ 90 [(0, .ref (z.2.1 0)), (1, .int x1), (2, .int x2)] [] μ := by
  unfold fX8_tick_J90 at h
  refine la_iinc C (v := (x2 + 1)) dX8_tick_90 2 rfl rfl (by decide) rfl ?_
  refine la_goto C (tgt := 14) dX8_tick_93 (by decide) ?_
  refine la_sub C [1, 2, 0] rfl ?_
  exact hrec _ _ _ h
def fX8_tick_L14  : Nat → Int32 → Int32 → la_Mem → Option (Int32 × la_Mem)
  | 0, _, _, _ => none
  | n + 1, x1, x2, μ => if (μ 0 14) ≤ x2 then (some (x1, μ)) else (la_if (la_ix x2 24) (if (μ 13 (Int32.toNatClampNeg x2)) = (μ 0 11) then (la_if (la_ix x2 24) (la_if (la_ix (μ 0 12) 24) (la_st (la_ms μ 11 (Int32.toNatClampNeg (μ 0 12)) (μ 12 (Int32.toNatClampNeg x2))) (fun μ49 => la_st (la_ms μ49 0 12 ((μ49 0 12) + 1)) (fun μ57 => fX8_tick_J90 (fX8_tick_L14  n) x1 x2 μ57))))) else (la_if (la_ix x2 24) (la_if (la_ix x1 24) (la_st (la_ms μ 12 (Int32.toNatClampNeg x1) (μ 12 (Int32.toNatClampNeg x2))) (fun μ74 => la_if (la_ix x2 24) (la_if (la_ix x1 24) (la_st (la_ms μ74 13 (Int32.toNatClampNeg x1) (μ74 13 (Int32.toNatClampNeg x2))) (fun μ86 => fX8_tick_J90 (fX8_tick_L14  n) (x1 + 1) x2 μ86)))))))))
set_option maxRecDepth 10000 in
theorem wX8_tick_L14 {z : LMz} {l : Launch} {Post : Int32 → la_Mem → Prop} {Φ : Nat → List (Nat × Value) → List Value → la_Mem → Prop} (C : la_C (LM z) l rmX8_tick RX8 cX8_tick 4 none Post Φ)   (ex : (Int32 × la_Mem)) (kx : ∀ (y1 : Int32) (ν : la_Mem), ex = (y1, ν) → Φ 96 [(0, .ref (z.2.1 0)), (1, .int y1)] [] ν) : ∀ (n : Nat) (x1 : Int32) (x2 : Int32) (μ : la_Mem), fX8_tick_L14  n x1 x2 μ = some ex → Φ 14 [(0, .ref (z.2.1 0)), (1, .int x1), (2, .int x2)] [] μ := by
  intro n
  induction n with
  | zero =>
    intro _ _ _ h
    cases h
  | succ n hrec =>
    intro x1 x2 μ h
    rw [fX8_tick_L14] at h
    refine la_iload_n C dX8_tick_14 2 rfl ?_
    refine la_aload_n C dX8_tick_15 0 rfl ?_
    refine GLMRX8_135 C dX8_tick_16 ?_
    refine la_icmp_ge C (tgt := 96) dX8_tick_19 (by decide) (fun hc => ?_) (fun hc => ?_)
    · replace h := la_t hc h
      refine la_sub C [0, 1] rfl ?_
      exact kx _ _ (Option.some.inj h).symm
    · replace h := la_f hc h
      refine la_aload_n C dX8_tick_22 0 rfl ?_
      refine GLMRX8_46 C dX8_tick_23 ?_
      refine la_iload_n C dX8_tick_26 2 rfl ?_
      obtain ⟨hi27, h⟩ := la_go h
      refine ALM13 C _ rfl hi27 dX8_tick_27 ?_
      refine la_aload_n C dX8_tick_28 0 rfl ?_
      refine GLMRX8_138 C dX8_tick_29 ?_
      refine la_icmp_ne C (tgt := 63) dX8_tick_32 (by decide) (fun hc => ?_) (fun hc => ?_)
      · replace h := la_f hc h
        refine la_aload_n C dX8_tick_63 0 rfl ?_
        refine GLMRX8_43 C dX8_tick_64 ?_
        refine la_iload_n C dX8_tick_67 1 rfl ?_
        refine la_aload_n C dX8_tick_68 0 rfl ?_
        refine GLMRX8_43 C dX8_tick_69 ?_
        refine la_iload_n C dX8_tick_72 2 rfl ?_
        obtain ⟨hi73, h⟩ := la_go h
        refine ALM12 C _ rfl hi73 dX8_tick_73 ?_
        obtain ⟨hi74, h⟩ := la_go h
        obtain ⟨μ74, eμ74, h⟩ := la_so h
        refine BLM12 C _ rfl hi74 eμ74 dX8_tick_74 ?_
        refine la_aload_n C dX8_tick_75 0 rfl ?_
        refine GLMRX8_46 C dX8_tick_76 ?_
        refine la_iload_n C dX8_tick_79 1 rfl ?_
        refine la_aload_n C dX8_tick_80 0 rfl ?_
        refine GLMRX8_46 C dX8_tick_81 ?_
        refine la_iload_n C dX8_tick_84 2 rfl ?_
        obtain ⟨hi85, h⟩ := la_go h
        refine ALM13 C _ rfl hi85 dX8_tick_85 ?_
        obtain ⟨hi86, h⟩ := la_go h
        obtain ⟨μ86, eμ86, h⟩ := la_so h
        refine BLM13 C _ rfl hi86 eμ86 dX8_tick_86 ?_
        refine la_iinc C (v := (x1 + 1)) dX8_tick_87 1 rfl rfl (by decide) rfl ?_
        refine la_sub C [1, 0, 2] rfl ?_
        exact wX8_tick_J90 C (fX8_tick_L14  n) _ _ _  _ hrec kx h
      · replace h := la_t hc h
        refine la_aload_n C dX8_tick_35 0 rfl ?_
        refine GLMRX8_40 C dX8_tick_36 ?_
        refine la_aload_n C dX8_tick_39 0 rfl ?_
        refine GLMRX8_141 C dX8_tick_40 ?_
        refine la_aload_n C dX8_tick_43 0 rfl ?_
        refine GLMRX8_43 C dX8_tick_44 ?_
        refine la_iload_n C dX8_tick_47 2 rfl ?_
        obtain ⟨hi48, h⟩ := la_go h
        refine ALM12 C _ rfl hi48 dX8_tick_48 ?_
        obtain ⟨hi49, h⟩ := la_go h
        obtain ⟨μ49, eμ49, h⟩ := la_so h
        refine BLM11 C _ rfl hi49 eμ49 dX8_tick_49 ?_
        refine la_aload_n C dX8_tick_50 0 rfl ?_
        refine la_dup C dX8_tick_51 rfl ?_
        refine GLMRX8_141 C dX8_tick_52 ?_
        refine la_iconst C (v := 1) dX8_tick_55 (by decide) ?_
        refine la_iadd C dX8_tick_56 ?_
        obtain ⟨μ57, eμ57, h⟩ := la_so h
        refine SLMRX8_141 C eμ57 dX8_tick_57 ?_
        refine la_goto C (tgt := 90) dX8_tick_60 (by decide) ?_
        refine la_sub C [0, 1, 2] rfl ?_
        exact wX8_tick_J90 C (fX8_tick_L14  n) _ _ _  _ hrec kx h
def fX8_tick_J214 (rec : Int32 → Int32 → la_Mem → Option (Int32 × la_Mem)) (x1 : Int32) (x2 : Int32) (μ : la_Mem) : Option (Int32 × la_Mem) :=
  rec x1 (x2 + 1) μ
set_option maxRecDepth 10000 in
theorem wX8_tick_J214 {z : LMz} {l : Launch} {Post : Int32 → la_Mem → Prop} {Φ : Nat → List (Nat × Value) → List Value → la_Mem → Prop} (C : la_C (LM z) l rmX8_tick RX8 cX8_tick 4 none Post Φ) (rec : Int32 → Int32 → la_Mem → Option (Int32 × la_Mem)) (x1 : Int32) (x2 : Int32) (μ : la_Mem)  (ex : (Int32 × la_Mem)) (hrec : ∀ (y1 : Int32) (y2 : Int32) (ν : la_Mem), rec y1 y2 ν = some ex → Φ 105 [(0, .ref (z.2.1 0)), (1, .int y1), (2, .int y2)] [] ν) (kx : ∀ (y1 : Int32) (ν : la_Mem), ex = (y1, ν) → Φ 220 [(0, .ref (z.2.1 0)), (1, .int y1)] [] ν) (h : fX8_tick_J214 rec x1 x2 μ = some ex) : Φ 214 [(0, .ref (z.2.1 0)), (1, .int x1), (2, .int x2)] [] μ := by
  unfold fX8_tick_J214 at h
  refine la_iinc C (v := (x2 + 1)) dX8_tick_214 2 rfl rfl (by decide) rfl ?_
  refine la_goto C (tgt := 105) dX8_tick_217 (by decide) ?_
  refine la_sub C [1, 2, 0] rfl ?_
  exact hrec _ _ _ h
def fX8_tick_J168 (rec : Int32 → Int32 → la_Mem → Option (Int32 × la_Mem)) (x1 : Int32) (x2 : Int32) (s0 : Int32) (s1 : Int32) (μ : la_Mem) : Option (Int32 × la_Mem) :=
  la_st (la_ms μ 0 22 (s1 + s0)) (fun μ169 => fX8_tick_J214 rec x1 x2 μ169)
set_option maxRecDepth 10000 in
theorem wX8_tick_J168 {z : LMz} {l : Launch} {Post : Int32 → la_Mem → Prop} {Φ : Nat → List (Nat × Value) → List Value → la_Mem → Prop} (C : la_C (LM z) l rmX8_tick RX8 cX8_tick 4 none Post Φ) (rec : Int32 → Int32 → la_Mem → Option (Int32 × la_Mem)) (x1 : Int32) (x2 : Int32) (s0 : Int32) (s1 : Int32) (μ : la_Mem)  (ex : (Int32 × la_Mem)) (hrec : ∀ (y1 : Int32) (y2 : Int32) (ν : la_Mem), rec y1 y2 ν = some ex → Φ 105 [(0, .ref (z.2.1 0)), (1, .int y1), (2, .int y2)] [] ν) (kx : ∀ (y1 : Int32) (ν : la_Mem), ex = (y1, ν) → Φ 220 [(0, .ref (z.2.1 0)), (1, .int y1)] [] ν) (h : fX8_tick_J168 rec x1 x2 s0 s1 μ = some ex) : Φ 168 [(0, .ref (z.2.1 0)), (1, .int x1), (2, .int x2)] [.int s0, .int s1, .ref (z.2.1 0)] μ := by
  unfold fX8_tick_J168 at h
  refine la_iadd C dX8_tick_168 ?_
  obtain ⟨μ169, eμ169, h⟩ := la_so h
  refine SLMRX8_154 C eμ169 dX8_tick_169 ?_
  refine la_goto C (tgt := 214) dX8_tick_172 (by decide) ?_
  refine la_sub C [0, 1, 2] rfl ?_
  exact wX8_tick_J214 C rec _ _ _  _ hrec kx h
def fX8_tick_J163 (rec : Int32 → Int32 → la_Mem → Option (Int32 × la_Mem)) (x1 : Int32) (x2 : Int32) (s0 : Int32) (μ : la_Mem) : Option (Int32 × la_Mem) :=
  fX8_tick_J168 rec x1 x2 0 s0 μ
set_option maxRecDepth 10000 in
theorem wX8_tick_J163 {z : LMz} {l : Launch} {Post : Int32 → la_Mem → Prop} {Φ : Nat → List (Nat × Value) → List Value → la_Mem → Prop} (C : la_C (LM z) l rmX8_tick RX8 cX8_tick 4 none Post Φ) (rec : Int32 → Int32 → la_Mem → Option (Int32 × la_Mem)) (x1 : Int32) (x2 : Int32) (s0 : Int32) (μ : la_Mem)  (ex : (Int32 × la_Mem)) (hrec : ∀ (y1 : Int32) (y2 : Int32) (ν : la_Mem), rec y1 y2 ν = some ex → Φ 105 [(0, .ref (z.2.1 0)), (1, .int y1), (2, .int y2)] [] ν) (kx : ∀ (y1 : Int32) (ν : la_Mem), ex = (y1, ν) → Φ 220 [(0, .ref (z.2.1 0)), (1, .int y1)] [] ν) (h : fX8_tick_J163 rec x1 x2 s0 μ = some ex) : Φ 163 [(0, .ref (z.2.1 0)), (1, .int x1), (2, .int x2)] [.int s0, .ref (z.2.1 0)] μ := by
  unfold fX8_tick_J163 at h
  refine la_iconst C (v := 0) dX8_tick_163 (by decide) ?_
  refine la_goto C (tgt := 168) dX8_tick_164 (by decide) ?_
  refine la_sub C [0, 1, 2] rfl ?_
  exact wX8_tick_J168 C rec _ _ _ _ _  _ hrec kx h
def fX8_tick_L105  : Nat → Int32 → Int32 → la_Mem → Option (Int32 × la_Mem)
  | 0, _, _, _ => none
  | n + 1, x1, x2, μ => if (μ 0 18) ≤ x2 then (some (x1, μ)) else (la_if (la_ix x2 60) (if (μ 16 (Int32.toNatClampNeg x2)) = (μ 0 11) then (la_if (la_ix x2 60) (la_if (la_ix x2 60) (la_b2 (fX8_lies (μ 14 (Int32.toNatClampNeg x2)) (μ 15 (Int32.toNatClampNeg x2)) μ) (fun r139 μ139 => if r139 = 0 then (la_if (la_ix x2 60) (if (μ139 15 (Int32.toNatClampNeg x2)) = 12 then (fX8_tick_J163 (fX8_tick_L105  n) x1 x2 (μ139 0 22) μ139) else (fX8_tick_J168 (fX8_tick_L105  n) x1 x2 1 (μ139 0 22) μ139))) else (fX8_tick_J163 (fX8_tick_L105  n) x1 x2 (μ139 0 22) μ139))))) else (la_if (la_ix x2 60) (la_if (la_ix x1 60) (la_st (la_ms μ 14 (Int32.toNatClampNeg x1) (μ 14 (Int32.toNatClampNeg x2))) (fun μ186 => la_if (la_ix x2 60) (la_if (la_ix x1 60) (la_st (la_ms μ186 15 (Int32.toNatClampNeg x1) (μ186 15 (Int32.toNatClampNeg x2))) (fun μ198 => la_if (la_ix x2 60) (la_if (la_ix x1 60) (la_st (la_ms μ198 16 (Int32.toNatClampNeg x1) (μ198 16 (Int32.toNatClampNeg x2))) (fun μ210 => fX8_tick_J214 (fX8_tick_L105  n) (x1 + 1) x2 μ210))))))))))))
set_option maxRecDepth 10000 in
theorem wX8_tick_L105 {z : LMz} {l : Launch} {Post : Int32 → la_Mem → Prop} {Φ : Nat → List (Nat × Value) → List Value → la_Mem → Prop} (C : la_C (LM z) l rmX8_tick RX8 cX8_tick 4 none Post Φ)   (ex : (Int32 × la_Mem)) (kx : ∀ (y1 : Int32) (ν : la_Mem), ex = (y1, ν) → Φ 220 [(0, .ref (z.2.1 0)), (1, .int y1)] [] ν) : ∀ (n : Nat) (x1 : Int32) (x2 : Int32) (μ : la_Mem), fX8_tick_L105  n x1 x2 μ = some ex → Φ 105 [(0, .ref (z.2.1 0)), (1, .int x1), (2, .int x2)] [] μ := by
  intro n
  induction n with
  | zero =>
    intro _ _ _ h
    cases h
  | succ n hrec =>
    intro x1 x2 μ h
    rw [fX8_tick_L105] at h
    refine la_iload_n C dX8_tick_105 2 rfl ?_
    refine la_aload_n C dX8_tick_106 0 rfl ?_
    refine GLMRX8_151 C dX8_tick_107 ?_
    refine la_icmp_ge C (tgt := 220) dX8_tick_110 (by decide) (fun hc => ?_) (fun hc => ?_)
    · replace h := la_t hc h
      refine la_sub C [0, 1] rfl ?_
      exact kx _ _ (Option.some.inj h).symm
    · replace h := la_f hc h
      refine la_aload_n C dX8_tick_113 0 rfl ?_
      refine GLMRX8_55 C dX8_tick_114 ?_
      refine la_iload_n C dX8_tick_117 2 rfl ?_
      obtain ⟨hi118, h⟩ := la_go h
      refine ALM16 C _ rfl hi118 dX8_tick_118 ?_
      refine la_aload_n C dX8_tick_119 0 rfl ?_
      refine GLMRX8_138 C dX8_tick_120 ?_
      refine la_icmp_ne C (tgt := 175) dX8_tick_123 (by decide) (fun hc => ?_) (fun hc => ?_)
      · replace h := la_f hc h
        refine la_aload_n C dX8_tick_175 0 rfl ?_
        refine GLMRX8_49 C dX8_tick_176 ?_
        refine la_iload_n C dX8_tick_179 1 rfl ?_
        refine la_aload_n C dX8_tick_180 0 rfl ?_
        refine GLMRX8_49 C dX8_tick_181 ?_
        refine la_iload_n C dX8_tick_184 2 rfl ?_
        obtain ⟨hi185, h⟩ := la_go h
        refine ALM14 C _ rfl hi185 dX8_tick_185 ?_
        obtain ⟨hi186, h⟩ := la_go h
        obtain ⟨μ186, eμ186, h⟩ := la_so h
        refine BLM14 C _ rfl hi186 eμ186 dX8_tick_186 ?_
        refine la_aload_n C dX8_tick_187 0 rfl ?_
        refine GLMRX8_52 C dX8_tick_188 ?_
        refine la_iload_n C dX8_tick_191 1 rfl ?_
        refine la_aload_n C dX8_tick_192 0 rfl ?_
        refine GLMRX8_52 C dX8_tick_193 ?_
        refine la_iload_n C dX8_tick_196 2 rfl ?_
        obtain ⟨hi197, h⟩ := la_go h
        refine ALM15 C _ rfl hi197 dX8_tick_197 ?_
        obtain ⟨hi198, h⟩ := la_go h
        obtain ⟨μ198, eμ198, h⟩ := la_so h
        refine BLM15 C _ rfl hi198 eμ198 dX8_tick_198 ?_
        refine la_aload_n C dX8_tick_199 0 rfl ?_
        refine GLMRX8_55 C dX8_tick_200 ?_
        refine la_iload_n C dX8_tick_203 1 rfl ?_
        refine la_aload_n C dX8_tick_204 0 rfl ?_
        refine GLMRX8_55 C dX8_tick_205 ?_
        refine la_iload_n C dX8_tick_208 2 rfl ?_
        obtain ⟨hi209, h⟩ := la_go h
        refine ALM16 C _ rfl hi209 dX8_tick_209 ?_
        obtain ⟨hi210, h⟩ := la_go h
        obtain ⟨μ210, eμ210, h⟩ := la_so h
        refine BLM16 C _ rfl hi210 eμ210 dX8_tick_210 ?_
        refine la_iinc C (v := (x1 + 1)) dX8_tick_211 1 rfl rfl (by decide) rfl ?_
        refine la_sub C [1, 0, 2] rfl ?_
        exact wX8_tick_J214 C (fX8_tick_L105  n) _ _ _  _ hrec kx h
      · replace h := la_t hc h
        refine la_aload_n C dX8_tick_126 0 rfl ?_
        refine la_aload_n C dX8_tick_127 0 rfl ?_
        refine GLMRX8_49 C dX8_tick_128 ?_
        refine la_iload_n C dX8_tick_131 2 rfl ?_
        obtain ⟨hi132, h⟩ := la_go h
        refine ALM14 C _ rfl hi132 dX8_tick_132 ?_
        refine la_aload_n C dX8_tick_133 0 rfl ?_
        refine GLMRX8_52 C dX8_tick_134 ?_
        refine la_iload_n C dX8_tick_137 2 rfl ?_
        obtain ⟨hi138, h⟩ := la_go h
        refine ALM15 C _ rfl hi138 dX8_tick_138 ?_
        obtain ⟨r139, μ139, hr139, h⟩ := la_b2o h
        refine KLMRX8_126 C [.int (μ 14 (Int32.toNatClampNeg x2)), .int (μ 15 (Int32.toNatClampNeg x2))] [] (mX8_lies (μ 14 (Int32.toNatClampNeg x2)) (μ 15 (Int32.toNatClampNeg x2)) μ r139 μ139 hr139) ⟨by decide, by decide⟩ rfl rfl (Nat.le_of_ble_eq_true rfl) dX8_tick_139 ?_
        refine la_istore_n C dX8_tick_142 (by decide) rfl ?_
        refine la_aload_n C dX8_tick_143 1 rfl ?_
        refine la_dup C dX8_tick_144 rfl ?_
        refine GLMRX8_154 C dX8_tick_145 ?_
        refine la_iload_n C dX8_tick_148 0 rfl ?_
        refine la_if_ne C (tgt := 163) dX8_tick_149 (by decide) (fun hc => ?_) (fun hc => ?_)
        · replace h := la_f hc h
          refine la_sub C [1, 2, 3] rfl ?_
          exact wX8_tick_J163 C (fX8_tick_L105  n) _ _ _ _  _ hrec kx h
        · replace h := la_t hc h
          refine la_aload_n C dX8_tick_152 1 rfl ?_
          refine GLMRX8_52 C dX8_tick_153 ?_
          refine la_iload_n C dX8_tick_156 3 rfl ?_
          obtain ⟨hi157, h⟩ := la_go h
          refine ALM15 C _ rfl hi157 dX8_tick_157 ?_
          refine la_bipush C (v := 12) dX8_tick_158 (by decide) ?_
          refine la_icmp_ne C (tgt := 167) dX8_tick_160 (by decide) (fun hc => ?_) (fun hc => ?_)
          · replace h := la_f hc h
            refine la_iconst C (v := 1) dX8_tick_167 (by decide) ?_
            refine la_sub C [1, 2, 3] rfl ?_
            exact wX8_tick_J168 C (fX8_tick_L105  n) _ _ _ _ _  _ hrec kx h
          · replace h := la_t hc h
            refine la_sub C [1, 2, 3] rfl ?_
            exact wX8_tick_J163 C (fX8_tick_L105  n) _ _ _ _  _ hrec kx h
def fX8_tick  (μ : la_Mem) : Option la_Mem :=
  la_st (la_ms μ 0 11 ((μ 0 11) + 1)) (fun μ7 => la_b2 (fX8_tick_L14  400 0 0 μ7) (fun q14_1 ν14 => la_st (la_ms ν14 0 14 q14_1) (fun μ98 => la_b2 (fX8_tick_L105  400 0 0 μ98) (fun q105_1 ν105 => la_st (la_ms ν105 0 18 q105_1) (fun μ222 => some μ222)))))
set_option maxRecDepth 10000 in
theorem mX8_tick {z : LMz} {l : Launch}  (μ : la_Mem) (μ0 : la_Mem)  (h : fX8_tick  μ = some μ0) : la_M (LM z) l yX8_tick cX8_tick 4 none rmX8_tick [.ref (z.2.1 0)] μ (fun _ μ' => μ' = μ0) := by
  refine la_of (own := RX8) (lv := [(0, .ref (z.2.1 0))]) (by decide) rfl (Nat.le_of_ble_eq_true rfl) rfl (fun Φ C => ?_)
  unfold fX8_tick at h
  have hret : μ0 = μ0 := rfl
  refine la_aload_n C dX8_tick_0 0 rfl ?_
  refine la_dup C dX8_tick_1 rfl ?_
  refine GLMRX8_138 C dX8_tick_2 ?_
  refine la_iconst C (v := 1) dX8_tick_5 (by decide) ?_
  refine la_iadd C dX8_tick_6 ?_
  obtain ⟨μ7, eμ7, h⟩ := la_so h
  refine SLMRX8_138 C eμ7 dX8_tick_7 ?_
  refine la_iconst C (v := 0) dX8_tick_10 (by decide) ?_
  refine la_istore_n C dX8_tick_11 (by decide) rfl ?_
  refine la_iconst C (v := 0) dX8_tick_12 (by decide) ?_
  refine la_istore_n C dX8_tick_13 (by decide) rfl ?_
  obtain ⟨q14_1, ν14, hL14, h⟩ := la_b2o h
  refine la_sub C [2, 1, 0] rfl ?_
  refine wX8_tick_L14 C   _ (fun _ _ e => ?_) _ _ _ _ hL14
  cases e
  refine la_aload_n C dX8_tick_96 0 rfl ?_
  refine la_iload_n C dX8_tick_97 1 rfl ?_
  obtain ⟨μ98, eμ98, h⟩ := la_so h
  refine SLMRX8_135 C eμ98 dX8_tick_98 ?_
  refine la_iconst C (v := 0) dX8_tick_101 (by decide) ?_
  refine la_istore_n C dX8_tick_102 (by decide) rfl ?_
  refine la_iconst C (v := 0) dX8_tick_103 (by decide) ?_
  refine la_istore_n C dX8_tick_104 (by decide) rfl ?_
  obtain ⟨q105_1, ν105, hL105, h⟩ := la_b2o h
  refine la_sub C [2, 1, 0] rfl ?_
  refine wX8_tick_L105 C   _ (fun _ _ e => ?_) _ _ _ _ hL105
  cases e
  refine la_aload_n C dX8_tick_220 0 rfl ?_
  refine la_iload_n C dX8_tick_221 1 rfl ?_
  obtain ⟨μ222, eμ222, h⟩ := la_so h
  refine SLMRX8_151 C eμ222 dX8_tick_222 ?_
  exact la_vret C (la_rV (P := (fun _ μ' => μ' = μ0)) h hret) dX8_tick_225

def fX8_ticks_L30 (x1 : Int32) : Nat → Int32 → la_Mem → Option (la_Mem)
  | 0, _, _ => none
  | n + 1, x2, μ => if x1 ≤ x2 then (some μ) else ((fX8_tick  μ).bind (fun μ36 => (fX8_ticks_L30 x1 n) (x2 + 1) μ36))
set_option maxRecDepth 10000 in
theorem wX8_ticks_L30 {z : LMz} {l : Launch} {Post : Int32 → la_Mem → Prop} {Φ : Nat → List (Nat × Value) → List Value → la_Mem → Prop} (C : la_C (LM z) l rmX8_ticks RX8 cX8_ticks 3 (some .int) Post Φ) (x1 : Int32)  (ex : (la_Mem)) (kx : ∀  (ν : la_Mem), ex = ν → Φ 45 [(0, .ref (z.2.1 0))] [] ν) : ∀ (n : Nat) (x2 : Int32) (μ : la_Mem), fX8_ticks_L30 x1 n x2 μ = some ex → Φ 30 [(0, .ref (z.2.1 0)), (1, .int x1), (2, .int x2)] [] μ := by
  intro n
  induction n with
  | zero =>
    intro _ _ h
    cases h
  | succ n hrec =>
    intro x2 μ h
    rw [fX8_ticks_L30] at h
    refine la_iload_n C dX8_ticks_30 2 rfl ?_
    refine la_iload_n C dX8_ticks_31 1 rfl ?_
    refine la_icmp_ge C (tgt := 45) dX8_ticks_32 (by decide) (fun hc => ?_) (fun hc => ?_)
    · replace h := la_t hc h
      refine la_sub C [0] rfl ?_
      exact kx _ (Option.some.inj h).symm
    · replace h := la_f hc h
      refine la_aload_n C dX8_ticks_35 0 rfl ?_
      obtain ⟨μ36, hr36, h⟩ := la_bd h
      refine KLMRX8_160 C [] [] (mX8_tick  μ μ36 hr36) ⟨by decide, by decide⟩ rfl rfl (Nat.le_of_ble_eq_true rfl) dX8_ticks_36 ?_
      refine la_iinc C (v := (x2 + 1)) dX8_ticks_39 2 rfl rfl (by decide) rfl ?_
      refine la_goto C (tgt := 30) dX8_ticks_42 (by decide) ?_
      refine la_sub C [1, 2, 0] rfl ?_
      exact hrec _ _ h
def fX8_ticks (x1 : Int32) (μ : la_Mem) : Option (Int32 × la_Mem) :=
  (fX8_in (Int32.toInt64 x1) 1 300 μ).bind (fun r6 => if r6 = 0 then (some ((-1), μ)) else (if ((μ 0 11) + x1) ≤ 99999 then (Option.bind (fX8_ticks_L30 x1 400 0 μ) (fun ν30 => some ((ν30 0 11), ν30))) else (some ((-3), μ))))
set_option maxRecDepth 10000 in
theorem mX8_ticks {z : LMz} {l : Launch} (x1 : Int32) (μ : la_Mem) (r0 : Int32) (μ0 : la_Mem)  (h : fX8_ticks x1 μ = some (r0, μ0)) : la_M (LM z) l yX8_ticks cX8_ticks 3 (some .int) rmX8_ticks [.ref (z.2.1 0), .int x1] μ (fun r' μ' => r' = r0 ∧ μ' = μ0) := by
  refine la_of (own := RX8) (lv := [(0, .ref (z.2.1 0)), (1, .int x1)]) (by decide) rfl (Nat.le_of_ble_eq_true rfl) rfl (fun Φ C => ?_)
  unfold fX8_ticks at h
  have hret : r0 = r0 ∧ μ0 = μ0 := ⟨rfl, rfl⟩
  refine la_iload_n C dX8_ticks_0 1 rfl ?_
  refine la_i2l C dX8_ticks_1 ?_
  refine la_lconst C (v := 1) dX8_ticks_2 (by decide) ?_
  refine la_ldc2 C (v := 300) wd_430 dX8_ticks_3 ?_
  obtain ⟨r6, hr6, h⟩ := la_bd h
  refine KLMRX8_87 C [.long (Int32.toInt64 x1), .long 1, .long 300] [] (mX8_in (Int32.toInt64 x1) 1 300 μ r6 hr6) ⟨by decide, by decide⟩ rfl rfl (Nat.le_of_ble_eq_true rfl) dX8_ticks_6 ?_
  refine la_if_ne C (tgt := 14) dX8_ticks_9 (by decide) (fun hc => ?_) (fun hc => ?_)
  · replace h := la_f hc h
    refine la_aload_n C dX8_ticks_14 0 rfl ?_
    refine GLMRX8_138 C dX8_ticks_15 ?_
    refine la_iload_n C dX8_ticks_18 1 rfl ?_
    refine la_iadd C dX8_ticks_19 ?_
    refine la_ldc C (v := 99999) wd_431 dX8_ticks_20 ?_
    refine la_icmp_le C (tgt := 28) dX8_ticks_22 (by decide) (fun hc => ?_) (fun hc => ?_)
    · replace h := la_t hc h
      refine la_iconst C (v := 0) dX8_ticks_28 (by decide) ?_
      refine la_istore_n C dX8_ticks_29 (by decide) rfl ?_
      obtain ⟨ν30, hL30, h⟩ := la_bd h
      refine la_sub C [1, 2, 0] rfl ?_
      refine wX8_ticks_L30 C _  _ (fun _ e => ?_) _ _ _ hL30
      cases e
      refine la_aload_n C dX8_ticks_45 0 rfl ?_
      refine GLMRX8_138 C dX8_ticks_46 ?_
      exact la_iret C rfl (la_rW (P := (fun r' μ' => r' = r0 ∧ μ' = μ0)) h hret) dX8_ticks_49
    · replace h := la_f hc h
      refine la_bipush C (v := (-3)) dX8_ticks_25 (by decide) ?_
      exact la_iret C rfl (la_rW (P := (fun r' μ' => r' = r0 ∧ μ' = μ0)) h hret) dX8_ticks_27
  · replace h := la_t hc h
    refine la_iconst C (v := (-1)) dX8_ticks_12 (by decide) ?_
    exact la_iret C rfl (la_rW (P := (fun r' μ' => r' = r0 ∧ μ' = μ0)) h hret) dX8_ticks_13

def fX8_line (x1 : Int32) (μ : la_Mem) : Option Int32 :=
  if (-1) ≤ x1 then (if 0 ≤ x1 then (if (μ 0 12) ≤ x1 then (some (-4)) else (la_if (la_ix x1 24) (some (μ 11 (Int32.toNatClampNeg x1))))) else (some (μ 0 12))) else (some (-1))
set_option maxRecDepth 10000 in
theorem mX8_line {z : LMz} {l : Launch} (x1 : Int32) (μ : la_Mem) (r0 : Int32)  (h : fX8_line x1 μ = some r0) : la_M (LM z) l yX8_line cX8_line 2 (some .int) rmX8_line [.ref (z.2.1 0), .int x1] μ (fun r' μ' => r' = r0 ∧ μ' = μ) := by
  refine la_of (own := RX8) (lv := [(0, .ref (z.2.1 0)), (1, .int x1)]) (by decide) rfl (Nat.le_of_ble_eq_true rfl) rfl (fun Φ C => ?_)
  unfold fX8_line at h
  have hret : r0 = r0 ∧ μ = μ := ⟨rfl, rfl⟩
  refine la_iload_n C dX8_line_0 1 rfl ?_
  refine la_iconst C (v := (-1)) dX8_line_1 (by decide) ?_
  refine la_icmp_ge C (tgt := 9) dX8_line_2 (by decide) (fun hc => ?_) (fun hc => ?_)
  · replace h := la_t hc h
    refine la_iload_n C dX8_line_9 1 rfl ?_
    refine la_if_ge C (tgt := 20) dX8_line_10 (by decide) (fun hc => ?_) (fun hc => ?_)
    · replace h := la_t hc h
      refine la_iload_n C dX8_line_20 1 rfl ?_
      refine la_aload_n C dX8_line_21 0 rfl ?_
      refine GLMRX8_141 C dX8_line_22 ?_
      refine la_icmp_ge C (tgt := 37) dX8_line_25 (by decide) (fun hc => ?_) (fun hc => ?_)
      · replace h := la_t hc h
        refine la_bipush C (v := (-4)) dX8_line_37 (by decide) ?_
        exact la_iret C rfl (la_rR (P := (fun r' μ' => r' = r0 ∧ μ' = μ)) h hret) dX8_line_39
      · replace h := la_f hc h
        refine la_aload_n C dX8_line_28 0 rfl ?_
        refine GLMRX8_40 C dX8_line_29 ?_
        refine la_iload_n C dX8_line_32 1 rfl ?_
        obtain ⟨hi33, h⟩ := la_go h
        refine ALM11 C _ rfl hi33 dX8_line_33 ?_
        refine la_goto C (tgt := 39) dX8_line_34 (by decide) ?_
        exact la_iret C rfl (la_rR (P := (fun r' μ' => r' = r0 ∧ μ' = μ)) h hret) dX8_line_39
    · replace h := la_f hc h
      refine la_aload_n C dX8_line_13 0 rfl ?_
      refine GLMRX8_141 C dX8_line_14 ?_
      refine la_goto C (tgt := 39) dX8_line_17 (by decide) ?_
      exact la_iret C rfl (la_rR (P := (fun r' μ' => r' = r0 ∧ μ' = μ)) h hret) dX8_line_39
  · replace h := la_f hc h
    refine la_iconst C (v := (-1)) dX8_line_5 (by decide) ?_
    refine la_goto C (tgt := 39) dX8_line_6 (by decide) ?_
    exact la_iret C rfl (la_rR (P := (fun r' μ' => r' = r0 ∧ μ' = μ)) h hret) dX8_line_39

def fX8_widthOf_J44 (rec : Int32 → Int32 → Option (Int32)) (x2 : Int32) (s0 : Int32) (s1 : Int32) (μ : la_Mem) : Option (Int32) :=
  la_st ((s1 + s0)) (fun v45 => rec v45 (x2 + 1))
set_option maxRecDepth 10000 in
theorem wX8_widthOf_J44 {z : LMz} {l : Launch} {Post : Int32 → la_Mem → Prop} {Φ : Nat → List (Nat × Value) → List Value → la_Mem → Prop} (C : la_C (LM z) l rmX8_widthOf RX8 cX8_widthOf 3 (some .int) Post Φ) (rec : Int32 → Int32 → Option (Int32)) (x2 : Int32) (s0 : Int32) (s1 : Int32) (μ : la_Mem)  (ex : (Int32)) (hrec : ∀ (y1 : Int32) (y2 : Int32), rec y1 y2 = some ex → Φ 4 [(0, .ref (z.2.1 0)), (1, .int y1), (2, .int y2)] [] μ) (kx : ∀ (y1 : Int32), ex = y1 → Φ 52 [(1, .int y1)] [] μ) (h : fX8_widthOf_J44 rec x2 s0 s1 μ = some ex) : Φ 44 [(0, .ref (z.2.1 0)), (2, .int x2)] [.int s0, .int s1] μ := by
  unfold fX8_widthOf_J44 at h
  refine la_iadd C dX8_widthOf_44 ?_
  obtain ⟨v45, ev45, h⟩ := la_so h
  refine la_nm C ev45 ?_
  refine la_istore_n C dX8_widthOf_45 (by decide) rfl ?_
  refine la_iinc C (v := (x2 + 1)) dX8_widthOf_46 2 rfl rfl (by decide) rfl ?_
  refine la_goto C (tgt := 4) dX8_widthOf_49 (by decide) ?_
  refine la_sub C [2, 1, 0] rfl ?_
  exact hrec _ _ h
def fX8_widthOf_L4  (μ : la_Mem) : Nat → Int32 → Int32 → Option (Int32)
  | 0, _, _ => none
  | n + 1, x1, x2 => if (μ 0 12) ≤ x2 then (some x1) else (la_if (la_ix x2 24) (if (μ 11 (Int32.toNatClampNeg x2)) = 100 then (fX8_widthOf_J44 (fX8_widthOf_L4  μ n) x2 0 x1 μ) else (la_if (la_ix x2 24) (la_if (la_ix (μ 11 (Int32.toNatClampNeg x2)) 60) (la_if (la_ix (μ 6 (Int32.toNatClampNeg (μ 11 (Int32.toNatClampNeg x2)))) 12) (fX8_widthOf_J44 (fX8_widthOf_L4  μ n) x2 (μ 1 (Int32.toNatClampNeg (μ 6 (Int32.toNatClampNeg (μ 11 (Int32.toNatClampNeg x2)))))) x1 μ))))))
set_option maxRecDepth 10000 in
theorem wX8_widthOf_L4 {z : LMz} {l : Launch} {Post : Int32 → la_Mem → Prop} {Φ : Nat → List (Nat × Value) → List Value → la_Mem → Prop} (C : la_C (LM z) l rmX8_widthOf RX8 cX8_widthOf 3 (some .int) Post Φ)  (μ : la_Mem)  (ex : (Int32)) (kx : ∀ (y1 : Int32), ex = y1 → Φ 52 [(1, .int y1)] [] μ) : ∀ (n : Nat) (x1 : Int32) (x2 : Int32), fX8_widthOf_L4  μ n x1 x2 = some ex → Φ 4 [(0, .ref (z.2.1 0)), (1, .int x1), (2, .int x2)] [] μ := by
  intro n
  induction n with
  | zero =>
    intro _ _ h
    cases h
  | succ n hrec =>
    intro x1 x2 h
    rw [fX8_widthOf_L4] at h
    refine la_iload_n C dX8_widthOf_4 2 rfl ?_
    refine la_aload_n C dX8_widthOf_5 0 rfl ?_
    refine GLMRX8_141 C dX8_widthOf_6 ?_
    refine la_icmp_ge C (tgt := 52) dX8_widthOf_9 (by decide) (fun hc => ?_) (fun hc => ?_)
    · replace h := la_t hc h
      refine la_sub C [1] rfl ?_
      exact kx _ (Option.some.inj h).symm
    · replace h := la_f hc h
      refine la_iload_n C dX8_widthOf_12 1 rfl ?_
      refine la_aload_n C dX8_widthOf_13 0 rfl ?_
      refine GLMRX8_40 C dX8_widthOf_14 ?_
      refine la_iload_n C dX8_widthOf_17 2 rfl ?_
      obtain ⟨hi18, h⟩ := la_go h
      refine ALM11 C _ rfl hi18 dX8_widthOf_18 ?_
      refine la_bipush C (v := 100) dX8_widthOf_19 (by decide) ?_
      refine la_icmp_ne C (tgt := 28) dX8_widthOf_21 (by decide) (fun hc => ?_) (fun hc => ?_)
      · replace h := la_f hc h
        refine la_aload_n C dX8_widthOf_28 0 rfl ?_
        refine GLMRX8_7 C dX8_widthOf_29 ?_
        refine la_aload_n C dX8_widthOf_32 0 rfl ?_
        refine GLMRX8_25 C dX8_widthOf_33 ?_
        refine la_aload_n C dX8_widthOf_36 0 rfl ?_
        refine GLMRX8_40 C dX8_widthOf_37 ?_
        refine la_iload_n C dX8_widthOf_40 2 rfl ?_
        obtain ⟨hi41, h⟩ := la_go h
        refine ALM11 C _ rfl hi41 dX8_widthOf_41 ?_
        obtain ⟨hi42, h⟩ := la_go h
        refine ALM6 C _ rfl hi42 dX8_widthOf_42 ?_
        obtain ⟨hi43, h⟩ := la_go h
        refine ALM1 C _ rfl hi43 dX8_widthOf_43 ?_
        refine la_sub C [0, 2] rfl ?_
        exact wX8_widthOf_J44 C (fX8_widthOf_L4  μ n) _ _ _ _  _ hrec kx h
      · replace h := la_t hc h
        refine la_iconst C (v := 0) dX8_widthOf_24 (by decide) ?_
        refine la_goto C (tgt := 44) dX8_widthOf_25 (by decide) ?_
        refine la_sub C [0, 2] rfl ?_
        exact wX8_widthOf_J44 C (fX8_widthOf_L4  μ n) _ _ _ _  _ hrec kx h
def fX8_widthOf  (μ : la_Mem) : Option Int32 :=
  Option.bind (fX8_widthOf_L4  μ 400 0 0) (fun q4_1 => some q4_1)
set_option maxRecDepth 10000 in
theorem mX8_widthOf {z : LMz} {l : Launch}  (μ : la_Mem) (r0 : Int32)  (h : fX8_widthOf  μ = some r0) : la_M (LM z) l yX8_widthOf cX8_widthOf 3 (some .int) rmX8_widthOf [.ref (z.2.1 0)] μ (fun r' μ' => r' = r0 ∧ μ' = μ) := by
  refine la_of (own := RX8) (lv := [(0, .ref (z.2.1 0))]) (by decide) rfl (Nat.le_of_ble_eq_true rfl) rfl (fun Φ C => ?_)
  unfold fX8_widthOf at h
  have hret : r0 = r0 ∧ μ = μ := ⟨rfl, rfl⟩
  refine la_iconst C (v := 0) dX8_widthOf_0 (by decide) ?_
  refine la_istore_n C dX8_widthOf_1 (by decide) rfl ?_
  refine la_iconst C (v := 0) dX8_widthOf_2 (by decide) ?_
  refine la_istore_n C dX8_widthOf_3 (by decide) rfl ?_
  obtain ⟨q4_1, hL4, h⟩ := la_bd h
  refine la_sub C [2, 1, 0] rfl ?_
  refine wX8_widthOf_L4 C _  _ (fun _ e => ?_) _ _ _ hL4
  cases e
  refine la_iload_n C dX8_widthOf_52 0 rfl ?_
  exact la_iret C rfl (la_rR (P := (fun r' μ' => r' = r0 ∧ μ' = μ)) h hret) dX8_widthOf_53

def fX8_bandMany_J29 (rec : Int32 → Int32 → Option (Int32)) (x2 : Int32) (s0 : Int32) (s1 : Int32) (μ : la_Mem) : Option (Int32) :=
  la_st ((s1 + s0)) (fun v30 => rec v30 (x2 + 1))
set_option maxRecDepth 10000 in
theorem wX8_bandMany_J29 {z : LMz} {l : Launch} {Post : Int32 → la_Mem → Prop} {Φ : Nat → List (Nat × Value) → List Value → la_Mem → Prop} (C : la_C (LM z) l rmX8_bandMany RX8 cX8_bandMany 3 (some .int) Post Φ) (rec : Int32 → Int32 → Option (Int32)) (x2 : Int32) (s0 : Int32) (s1 : Int32) (μ : la_Mem)  (ex : (Int32)) (hrec : ∀ (y1 : Int32) (y2 : Int32), rec y1 y2 = some ex → Φ 4 [(0, .ref (z.2.1 0)), (1, .int y1), (2, .int y2)] [] μ) (kx : ∀ (y1 : Int32), ex = y1 → Φ 37 [(1, .int y1)] [] μ) (h : fX8_bandMany_J29 rec x2 s0 s1 μ = some ex) : Φ 29 [(0, .ref (z.2.1 0)), (2, .int x2)] [.int s0, .int s1] μ := by
  unfold fX8_bandMany_J29 at h
  refine la_iadd C dX8_bandMany_29 ?_
  obtain ⟨v30, ev30, h⟩ := la_so h
  refine la_nm C ev30 ?_
  refine la_istore_n C dX8_bandMany_30 (by decide) rfl ?_
  refine la_iinc C (v := (x2 + 1)) dX8_bandMany_31 2 rfl rfl (by decide) rfl ?_
  refine la_goto C (tgt := 4) dX8_bandMany_34 (by decide) ?_
  refine la_sub C [2, 1, 0] rfl ?_
  exact hrec _ _ h
def fX8_bandMany_L4  (μ : la_Mem) : Nat → Int32 → Int32 → Option (Int32)
  | 0, _, _ => none
  | n + 1, x1, x2 => if (μ 0 12) ≤ x2 then (some x1) else (la_if (la_ix x2 24) (if (μ 11 (Int32.toNatClampNeg x2)) = 100 then (fX8_bandMany_J29 (fX8_bandMany_L4  μ n) x2 1 x1 μ) else (fX8_bandMany_J29 (fX8_bandMany_L4  μ n) x2 0 x1 μ)))
set_option maxRecDepth 10000 in
theorem wX8_bandMany_L4 {z : LMz} {l : Launch} {Post : Int32 → la_Mem → Prop} {Φ : Nat → List (Nat × Value) → List Value → la_Mem → Prop} (C : la_C (LM z) l rmX8_bandMany RX8 cX8_bandMany 3 (some .int) Post Φ)  (μ : la_Mem)  (ex : (Int32)) (kx : ∀ (y1 : Int32), ex = y1 → Φ 37 [(1, .int y1)] [] μ) : ∀ (n : Nat) (x1 : Int32) (x2 : Int32), fX8_bandMany_L4  μ n x1 x2 = some ex → Φ 4 [(0, .ref (z.2.1 0)), (1, .int x1), (2, .int x2)] [] μ := by
  intro n
  induction n with
  | zero =>
    intro _ _ h
    cases h
  | succ n hrec =>
    intro x1 x2 h
    rw [fX8_bandMany_L4] at h
    refine la_iload_n C dX8_bandMany_4 2 rfl ?_
    refine la_aload_n C dX8_bandMany_5 0 rfl ?_
    refine GLMRX8_141 C dX8_bandMany_6 ?_
    refine la_icmp_ge C (tgt := 37) dX8_bandMany_9 (by decide) (fun hc => ?_) (fun hc => ?_)
    · replace h := la_t hc h
      refine la_sub C [1] rfl ?_
      exact kx _ (Option.some.inj h).symm
    · replace h := la_f hc h
      refine la_iload_n C dX8_bandMany_12 1 rfl ?_
      refine la_aload_n C dX8_bandMany_13 0 rfl ?_
      refine GLMRX8_40 C dX8_bandMany_14 ?_
      refine la_iload_n C dX8_bandMany_17 2 rfl ?_
      obtain ⟨hi18, h⟩ := la_go h
      refine ALM11 C _ rfl hi18 dX8_bandMany_18 ?_
      refine la_bipush C (v := 100) dX8_bandMany_19 (by decide) ?_
      refine la_icmp_ne C (tgt := 28) dX8_bandMany_21 (by decide) (fun hc => ?_) (fun hc => ?_)
      · replace h := la_f hc h
        refine la_iconst C (v := 0) dX8_bandMany_28 (by decide) ?_
        refine la_sub C [0, 2] rfl ?_
        exact wX8_bandMany_J29 C (fX8_bandMany_L4  μ n) _ _ _ _  _ hrec kx h
      · replace h := la_t hc h
        refine la_iconst C (v := 1) dX8_bandMany_24 (by decide) ?_
        refine la_goto C (tgt := 29) dX8_bandMany_25 (by decide) ?_
        refine la_sub C [0, 2] rfl ?_
        exact wX8_bandMany_J29 C (fX8_bandMany_L4  μ n) _ _ _ _  _ hrec kx h
def fX8_bandMany  (μ : la_Mem) : Option Int32 :=
  Option.bind (fX8_bandMany_L4  μ 400 0 0) (fun q4_1 => some q4_1)
set_option maxRecDepth 10000 in
theorem mX8_bandMany {z : LMz} {l : Launch}  (μ : la_Mem) (r0 : Int32)  (h : fX8_bandMany  μ = some r0) : la_M (LM z) l yX8_bandMany cX8_bandMany 3 (some .int) rmX8_bandMany [.ref (z.2.1 0)] μ (fun r' μ' => r' = r0 ∧ μ' = μ) := by
  refine la_of (own := RX8) (lv := [(0, .ref (z.2.1 0))]) (by decide) rfl (Nat.le_of_ble_eq_true rfl) rfl (fun Φ C => ?_)
  unfold fX8_bandMany at h
  have hret : r0 = r0 ∧ μ = μ := ⟨rfl, rfl⟩
  refine la_iconst C (v := 0) dX8_bandMany_0 (by decide) ?_
  refine la_istore_n C dX8_bandMany_1 (by decide) rfl ?_
  refine la_iconst C (v := 0) dX8_bandMany_2 (by decide) ?_
  refine la_istore_n C dX8_bandMany_3 (by decide) rfl ?_
  obtain ⟨q4_1, hL4, h⟩ := la_bd h
  refine la_sub C [2, 1, 0] rfl ?_
  refine wX8_bandMany_L4 C _  _ (fun _ e => ?_) _ _ _ hL4
  cases e
  refine la_iload_n C dX8_bandMany_37 0 rfl ?_
  exact la_iret C rfl (la_rR (P := (fun r' μ' => r' = r0 ∧ μ' = μ)) h hret) dX8_bandMany_38

def fX8_tightness (x1 : Int32) (x2 : Int32) (μ : la_Mem) : Option Int32 :=
  if (μ 5 2) ≤ (x1 + (x2 * (μ 5 1))) then (if (x1 + (x2 * (μ 5 0))) ≤ (μ 5 2) then (some 0) else (some 2)) else (some 1)
set_option maxRecDepth 10000 in
theorem mX8_tightness {z : LMz} {l : Launch} (x1 : Int32) (x2 : Int32) (μ : la_Mem) (r0 : Int32)  (h : fX8_tightness x1 x2 μ = some r0) : la_M (LM z) l yX8_tightness cX8_tightness 3 (some .int) rmX8_tightness [.ref (z.2.1 0), .int x1, .int x2] μ (fun r' μ' => r' = r0 ∧ μ' = μ) := by
  refine la_of (own := RX8) (lv := [(0, .ref (z.2.1 0)), (1, .int x1), (2, .int x2)]) (by decide) rfl (Nat.le_of_ble_eq_true rfl) rfl (fun Φ C => ?_)
  unfold fX8_tightness at h
  have hret : r0 = r0 ∧ μ = μ := ⟨rfl, rfl⟩
  refine la_iload_n C dX8_tightness_0 1 rfl ?_
  refine la_iload_n C dX8_tightness_1 2 rfl ?_
  refine la_aload_n C dX8_tightness_2 0 rfl ?_
  refine GLMRX8_22 C dX8_tightness_3 ?_
  refine la_iconst C (v := 1) dX8_tightness_6 (by decide) ?_
  refine ALM5 C 1 (by decide) (by decide) dX8_tightness_7 ?_
  refine la_imul C dX8_tightness_8 ?_
  refine la_iadd C dX8_tightness_9 ?_
  refine la_aload_n C dX8_tightness_10 0 rfl ?_
  refine GLMRX8_22 C dX8_tightness_11 ?_
  refine la_iconst C (v := 2) dX8_tightness_14 (by decide) ?_
  refine ALM5 C 2 (by decide) (by decide) dX8_tightness_15 ?_
  refine la_icmp_ge C (tgt := 23) dX8_tightness_16 (by decide) (fun hc => ?_) (fun hc => ?_)
  · replace h := la_t hc h
    refine la_iload_n C dX8_tightness_23 1 rfl ?_
    refine la_iload_n C dX8_tightness_24 2 rfl ?_
    refine la_aload_n C dX8_tightness_25 0 rfl ?_
    refine GLMRX8_22 C dX8_tightness_26 ?_
    refine la_iconst C (v := 0) dX8_tightness_29 (by decide) ?_
    refine ALM5 C 0 (by decide) (by decide) dX8_tightness_30 ?_
    refine la_imul C dX8_tightness_31 ?_
    refine la_iadd C dX8_tightness_32 ?_
    refine la_aload_n C dX8_tightness_33 0 rfl ?_
    refine GLMRX8_22 C dX8_tightness_34 ?_
    refine la_iconst C (v := 2) dX8_tightness_37 (by decide) ?_
    refine ALM5 C 2 (by decide) (by decide) dX8_tightness_38 ?_
    refine la_icmp_le C (tgt := 46) dX8_tightness_39 (by decide) (fun hc => ?_) (fun hc => ?_)
    · replace h := la_t hc h
      refine la_iconst C (v := 0) dX8_tightness_46 (by decide) ?_
      exact la_iret C rfl (la_rR (P := (fun r' μ' => r' = r0 ∧ μ' = μ)) h hret) dX8_tightness_47
    · replace h := la_f hc h
      refine la_iconst C (v := 2) dX8_tightness_42 (by decide) ?_
      refine la_goto C (tgt := 47) dX8_tightness_43 (by decide) ?_
      exact la_iret C rfl (la_rR (P := (fun r' μ' => r' = r0 ∧ μ' = μ)) h hret) dX8_tightness_47
  · replace h := la_f hc h
    refine la_iconst C (v := 1) dX8_tightness_19 (by decide) ?_
    refine la_goto C (tgt := 47) dX8_tightness_20 (by decide) ?_
    exact la_iret C rfl (la_rR (P := (fun r' μ' => r' = r0 ∧ μ' = μ)) h hret) dX8_tightness_47

def fX8_state  (μ : la_Mem) : Option Int32 :=
  if (μ 0 14) ≤ 0 then (if (μ 0 12) = 0 then (some (-4)) else ((fX8_widthOf  μ).bind (fun r24 => (fX8_bandMany  μ).bind (fun r28 => (fX8_tightness r24 r28 μ).bind (fun r31 => some r31))))) else (some (-2))
set_option maxRecDepth 10000 in
theorem mX8_state {z : LMz} {l : Launch}  (μ : la_Mem) (r0 : Int32)  (h : fX8_state  μ = some r0) : la_M (LM z) l yX8_state cX8_state 1 (some .int) rmX8_state [.ref (z.2.1 0)] μ (fun r' μ' => r' = r0 ∧ μ' = μ) := by
  refine la_of (own := RX8) (lv := [(0, .ref (z.2.1 0))]) (by decide) rfl (Nat.le_of_ble_eq_true rfl) rfl (fun Φ C => ?_)
  unfold fX8_state at h
  have hret : r0 = r0 ∧ μ = μ := ⟨rfl, rfl⟩
  refine la_aload_n C dX8_state_0 0 rfl ?_
  refine GLMRX8_135 C dX8_state_1 ?_
  refine la_if_le C (tgt := 10) dX8_state_4 (by decide) (fun hc => ?_) (fun hc => ?_)
  · replace h := la_t hc h
    refine la_aload_n C dX8_state_10 0 rfl ?_
    refine GLMRX8_141 C dX8_state_11 ?_
    refine la_if_ne C (tgt := 22) dX8_state_14 (by decide) (fun hc => ?_) (fun hc => ?_)
    · replace h := la_f hc h
      refine la_aload_n C dX8_state_22 0 rfl ?_
      refine la_aload_n C dX8_state_23 0 rfl ?_
      obtain ⟨r24, hr24, h⟩ := la_bd h
      refine KLMRX8_163 C [] [.ref (z.2.1 0)] (mX8_widthOf  μ r24 hr24) ⟨by decide, by decide⟩ rfl rfl (Nat.le_of_ble_eq_true rfl) dX8_state_24 ?_
      refine la_aload_n C dX8_state_27 0 rfl ?_
      obtain ⟨r28, hr28, h⟩ := la_bd h
      refine KLMRX8_167 C [] [.int r24, .ref (z.2.1 0)] (mX8_bandMany  μ r28 hr28) ⟨by decide, by decide⟩ rfl rfl (Nat.le_of_ble_eq_true rfl) dX8_state_28 ?_
      obtain ⟨r31, hr31, h⟩ := la_bd h
      refine KLMRX8_170 C [.int r24, .int r28] [] (mX8_tightness r24 r28 μ r31 hr31) ⟨by decide, by decide⟩ rfl rfl (Nat.le_of_ble_eq_true rfl) dX8_state_31 ?_
      exact la_iret C rfl (la_rR (P := (fun r' μ' => r' = r0 ∧ μ' = μ)) h hret) dX8_state_34
    · replace h := la_t hc h
      refine la_bipush C (v := (-4)) dX8_state_17 (by decide) ?_
      refine la_goto C (tgt := 34) dX8_state_19 (by decide) ?_
      exact la_iret C rfl (la_rR (P := (fun r' μ' => r' = r0 ∧ μ' = μ)) h hret) dX8_state_34
  · replace h := la_f hc h
    refine la_bipush C (v := (-2)) dX8_state_7 (by decide) ?_
    exact la_iret C rfl (la_rR (P := (fun r' μ' => r' = r0 ∧ μ' = μ)) h hret) dX8_state_9

def fX8_thick_J69 (s0 : Int32) (s1 : Int32) (μ : la_Mem) : Option Int32 :=
  some (s1 + s0)
set_option maxRecDepth 10000 in
theorem wX8_thick_J69 {z : LMz} {l : Launch} {Post : Int32 → la_Mem → Prop} {Φ : Nat → List (Nat × Value) → List Value → la_Mem → Prop} (C : la_C (LM z) l rmX8_thick RX8 cX8_thick 4 (some .int) Post Φ) (s0 : Int32) (s1 : Int32) (μ : la_Mem)  (ex : Int32) (hret : Post ex μ) (h : fX8_thick_J69 s0 s1 μ = some ex) : Φ 69 [] [.int s0, .int s1] μ := by
  unfold fX8_thick_J69 at h
  refine la_iadd C dX8_thick_69 ?_
  exact la_iret C rfl (la_rR (P := Post) h hret) dX8_thick_70
def fX8_thick (x1 : Int32) (μ : la_Mem) : Option Int32 :=
  (fX8_bandMany  μ).bind (fun r1 => (fX8_in (Int32.toInt64 x1) 0 (Int32.toInt64 (r1 - 1)) μ).bind (fun r12 => if r12 = 0 then (some (-1)) else (if 0 < (μ 0 14) then (some (-2)) else ((fX8_widthOf  μ).bind (fun r29 => (fX8_tightness r29 r1 μ).bind (fun r33 => if r33 = 0 then ((fX8_widthOf  μ).bind (fun r49 => la_st (((μ 5 2) - r49)) (fun v53 => la_if (!(decide (r1 = 0))) (la_if (!(decide (r1 = 0))) (if (v53 - v53 / r1 * r1) ≤ x1 then (fX8_thick_J69 0 (v53 / r1) μ) else (fX8_thick_J69 1 (v53 / r1) μ)))))) else (some (-2))))))))
set_option maxRecDepth 10000 in
theorem mX8_thick {z : LMz} {l : Launch} (x1 : Int32) (μ : la_Mem) (r0 : Int32)  (h : fX8_thick x1 μ = some r0) : la_M (LM z) l yX8_thick cX8_thick 4 (some .int) rmX8_thick [.ref (z.2.1 0), .int x1] μ (fun r' μ' => r' = r0 ∧ μ' = μ) := by
  refine la_of (own := RX8) (lv := [(0, .ref (z.2.1 0)), (1, .int x1)]) (by decide) rfl (Nat.le_of_ble_eq_true rfl) rfl (fun Φ C => ?_)
  unfold fX8_thick at h
  have hret : r0 = r0 ∧ μ = μ := ⟨rfl, rfl⟩
  refine la_aload_n C dX8_thick_0 0 rfl ?_
  obtain ⟨r1, hr1, h⟩ := la_bd h
  refine KLMRX8_167 C [] [] (mX8_bandMany  μ r1 hr1) ⟨by decide, by decide⟩ rfl rfl (Nat.le_of_ble_eq_true rfl) dX8_thick_1 ?_
  refine la_istore_n C dX8_thick_4 (by decide) rfl ?_
  refine la_iload_n C dX8_thick_5 2 rfl ?_
  refine la_i2l C dX8_thick_6 ?_
  refine la_lconst C (v := 0) dX8_thick_7 (by decide) ?_
  refine la_iload_n C dX8_thick_8 0 rfl ?_
  refine la_iconst C (v := 1) dX8_thick_9 (by decide) ?_
  refine la_isub C dX8_thick_10 ?_
  refine la_i2l C dX8_thick_11 ?_
  obtain ⟨r12, hr12, h⟩ := la_bd h
  refine KLMRX8_87 C [.long (Int32.toInt64 x1), .long 0, .long (Int32.toInt64 (r1 - 1))] [] (mX8_in (Int32.toInt64 x1) 0 (Int32.toInt64 (r1 - 1)) μ r12 hr12) ⟨by decide, by decide⟩ rfl rfl (Nat.le_of_ble_eq_true rfl) dX8_thick_12 ?_
  refine la_if_ne C (tgt := 20) dX8_thick_15 (by decide) (fun hc => ?_) (fun hc => ?_)
  · replace h := la_f hc h
    refine la_aload_n C dX8_thick_20 1 rfl ?_
    refine GLMRX8_135 C dX8_thick_21 ?_
    refine la_if_gt C (tgt := 39) dX8_thick_24 (by decide) (fun hc => ?_) (fun hc => ?_)
    · replace h := la_t hc h
      refine la_bipush C (v := (-2)) dX8_thick_39 (by decide) ?_
      exact la_iret C rfl (la_rR (P := (fun r' μ' => r' = r0 ∧ μ' = μ)) h hret) dX8_thick_41
    · replace h := la_f hc h
      refine la_aload_n C dX8_thick_27 1 rfl ?_
      refine la_aload_n C dX8_thick_28 1 rfl ?_
      obtain ⟨r29, hr29, h⟩ := la_bd h
      refine KLMRX8_163 C [] [.ref (z.2.1 0)] (mX8_widthOf  μ r29 hr29) ⟨by decide, by decide⟩ rfl rfl (Nat.le_of_ble_eq_true rfl) dX8_thick_29 ?_
      refine la_iload_n C dX8_thick_32 0 rfl ?_
      obtain ⟨r33, hr33, h⟩ := la_bd h
      refine KLMRX8_170 C [.int r29, .int r1] [] (mX8_tightness r29 r1 μ r33 hr33) ⟨by decide, by decide⟩ rfl rfl (Nat.le_of_ble_eq_true rfl) dX8_thick_33 ?_
      refine la_if_eq C (tgt := 42) dX8_thick_36 (by decide) (fun hc => ?_) (fun hc => ?_)
      · replace h := la_t hc h
        refine la_aload_n C dX8_thick_42 1 rfl ?_
        refine GLMRX8_22 C dX8_thick_43 ?_
        refine la_iconst C (v := 2) dX8_thick_46 (by decide) ?_
        refine ALM5 C 2 (by decide) (by decide) dX8_thick_47 ?_
        refine la_aload_n C dX8_thick_48 1 rfl ?_
        obtain ⟨r49, hr49, h⟩ := la_bd h
        refine KLMRX8_163 C [] [.int (μ 5 2)] (mX8_widthOf  μ r49 hr49) ⟨by decide, by decide⟩ rfl rfl (Nat.le_of_ble_eq_true rfl) dX8_thick_49 ?_
        refine la_isub C dX8_thick_52 ?_
        obtain ⟨v53, ev53, h⟩ := la_so h
        refine la_nm C ev53 ?_
        refine la_istore_n C dX8_thick_53 (by decide) rfl ?_
        refine la_iload_n C dX8_thick_54 0 rfl ?_
        refine la_iload_n C dX8_thick_55 1 rfl ?_
        obtain ⟨hz56, h⟩ := la_go h
        refine la_idiv C dX8_thick_56 (by simpa using hz56) ?_
        refine la_iload_n C dX8_thick_57 3 rfl ?_
        refine la_iload_n C dX8_thick_58 0 rfl ?_
        refine la_iload_n C dX8_thick_59 1 rfl ?_
        obtain ⟨hz60, h⟩ := la_go h
        refine la_irem C dX8_thick_60 (by simpa using hz60) ?_
        refine la_icmp_ge C (tgt := 68) dX8_thick_61 (by decide) (fun hc => ?_) (fun hc => ?_)
        · replace h := la_t hc h
          refine la_iconst C (v := 0) dX8_thick_68 (by decide) ?_
          refine la_sub C [] rfl ?_
          exact wX8_thick_J69 C _ _ _  _ hret h
        · replace h := la_f hc h
          refine la_iconst C (v := 1) dX8_thick_64 (by decide) ?_
          refine la_goto C (tgt := 69) dX8_thick_65 (by decide) ?_
          refine la_sub C [] rfl ?_
          exact wX8_thick_J69 C _ _ _  _ hret h
      · replace h := la_f hc h
        refine la_bipush C (v := (-2)) dX8_thick_39 (by decide) ?_
        exact la_iret C rfl (la_rR (P := (fun r' μ' => r' = r0 ∧ μ' = μ)) h hret) dX8_thick_41
  · replace h := la_t hc h
    refine la_iconst C (v := (-1)) dX8_thick_18 (by decide) ?_
    exact la_iret C rfl (la_rR (P := (fun r' μ' => r' = r0 ∧ μ' = μ)) h hret) dX8_thick_19

def fX8_cast_J191 (rec : Int32 → Int32 → la_Mem → Option (la_Mem)) (x1 : Int32) (x2 : Int32) (μ : la_Mem) : Option (la_Mem) :=
  rec x1 (x2 + 1) μ
set_option maxRecDepth 10000 in
theorem wX8_cast_J191 {z : LMz} {l : Launch} {Post : Int32 → la_Mem → Prop} {Φ : Nat → List (Nat × Value) → List Value → la_Mem → Prop} (C : la_C (LM z) l rmX8_cast RX8 cX8_cast 4 (some .int) Post Φ) (rec : Int32 → Int32 → la_Mem → Option (la_Mem)) (x1 : Int32) (x2 : Int32) (μ : la_Mem)  (ex : (la_Mem)) (hrec : ∀ (y1 : Int32) (y2 : Int32) (ν : la_Mem), rec y1 y2 ν = some ex → Φ 54 [(0, .ref (z.2.1 0)), (1, .int y1), (2, .int y2)] [] ν) (kx : ∀  (ν : la_Mem), ex = ν → Φ 197 [(0, .ref (z.2.1 0))] [] ν) (h : fX8_cast_J191 rec x1 x2 μ = some ex) : Φ 191 [(0, .ref (z.2.1 0)), (1, .int x1), (2, .int x2)] [] μ := by
  unfold fX8_cast_J191 at h
  refine la_iinc C (v := (x2 + 1)) dX8_cast_191 2 rfl rfl (by decide) rfl ?_
  refine la_goto C (tgt := 54) dX8_cast_194 (by decide) ?_
  refine la_sub C [1, 2, 0] rfl ?_
  exact hrec _ _ _ h
def fX8_cast_J102 (rec : Int32 → Int32 → la_Mem → Option (la_Mem)) (x1 : Int32) (x2 : Int32) (x3 : Int32) (s0 : Int32) (s1 : Int32) (μ : la_Mem) : Option (la_Mem) :=
  la_if (la_ix s1 960) (la_st (la_ms μ 18 (Int32.toNatClampNeg s1) s0) (fun μ102 => if x3 = 100 then (fX8_cast_J191 rec x1 x2 μ102) else (la_if (la_ix (μ102 0 18) 60) (la_st (la_ms μ102 14 (Int32.toNatClampNeg (μ102 0 18)) x3) (fun μ118 => la_if (la_ix x3 60) ((fX8_fallsAt (μ118 7 (Int32.toNatClampNeg x3)) μ118).bind (fun r134 => la_if (la_ix (μ118 0 18) 60) (la_st (la_ms μ118 15 (Int32.toNatClampNeg (μ118 0 18)) r134) (fun μ137 => la_if (la_ix (μ137 0 18) 60) (la_if (la_ix (μ137 0 18) 60) (la_st (la_ms μ137 16 (Int32.toNatClampNeg (μ137 0 18)) ((((μ137 0 11) + (μ137 5 3)) + x1) + (μ137 15 (Int32.toNatClampNeg (μ137 0 18))))) (fun μ169 => la_if (la_ix x3 60) (la_st (la_ms μ169 8 (Int32.toNatClampNeg x3) 14) (fun μ177 => la_st (la_ms μ177 0 18 ((μ177 0 18) + 1)) (fun μ185 => fX8_cast_J191 rec (x1 + 1) x2 μ185)))))))))))))))
set_option maxRecDepth 10000 in
theorem wX8_cast_J102 {z : LMz} {l : Launch} {Post : Int32 → la_Mem → Prop} {Φ : Nat → List (Nat × Value) → List Value → la_Mem → Prop} (C : la_C (LM z) l rmX8_cast RX8 cX8_cast 4 (some .int) Post Φ) (rec : Int32 → Int32 → la_Mem → Option (la_Mem)) (x1 : Int32) (x2 : Int32) (x3 : Int32) (s0 : Int32) (s1 : Int32) (μ : la_Mem)  (ex : (la_Mem)) (hrec : ∀ (y1 : Int32) (y2 : Int32) (ν : la_Mem), rec y1 y2 ν = some ex → Φ 54 [(0, .ref (z.2.1 0)), (1, .int y1), (2, .int y2)] [] ν) (kx : ∀  (ν : la_Mem), ex = ν → Φ 197 [(0, .ref (z.2.1 0))] [] ν) (h : fX8_cast_J102 rec x1 x2 x3 s0 s1 μ = some ex) : Φ 102 [(0, .ref (z.2.1 0)), (1, .int x1), (2, .int x2), (3, .int x3)] [.int s0, .int s1, .ref (z.2.1 18)] μ := by
  unfold fX8_cast_J102 at h
  obtain ⟨hi102, h⟩ := la_go h
  obtain ⟨μ102, eμ102, h⟩ := la_so h
  refine BLM18 C _ rfl hi102 eμ102 dX8_cast_102 ?_
  refine la_iload_n C dX8_cast_103 3 rfl ?_
  refine la_bipush C (v := 100) dX8_cast_104 (by decide) ?_
  refine la_icmp_eq C (tgt := 191) dX8_cast_106 (by decide) (fun hc => ?_) (fun hc => ?_)
  · replace h := la_t hc h
    refine la_sub C [0, 1, 2] rfl ?_
    exact wX8_cast_J191 C rec _ _ _  _ hrec kx h
  · replace h := la_f hc h
    refine la_aload_n C dX8_cast_109 0 rfl ?_
    refine GLMRX8_49 C dX8_cast_110 ?_
    refine la_aload_n C dX8_cast_113 0 rfl ?_
    refine GLMRX8_151 C dX8_cast_114 ?_
    refine la_iload_n C dX8_cast_117 3 rfl ?_
    obtain ⟨hi118, h⟩ := la_go h
    obtain ⟨μ118, eμ118, h⟩ := la_so h
    refine BLM14 C _ rfl hi118 eμ118 dX8_cast_118 ?_
    refine la_aload_n C dX8_cast_119 0 rfl ?_
    refine GLMRX8_52 C dX8_cast_120 ?_
    refine la_aload_n C dX8_cast_123 0 rfl ?_
    refine GLMRX8_151 C dX8_cast_124 ?_
    refine la_aload_n C dX8_cast_127 0 rfl ?_
    refine la_aload_n C dX8_cast_128 0 rfl ?_
    refine GLMRX8_28 C dX8_cast_129 ?_
    refine la_iload_n C dX8_cast_132 3 rfl ?_
    obtain ⟨hi133, h⟩ := la_go h
    refine ALM7 C _ rfl hi133 dX8_cast_133 ?_
    obtain ⟨r134, hr134, h⟩ := la_bd h
    refine KLMRX8_113 C [.int (μ118 7 (Int32.toNatClampNeg x3))] [.int (μ118 0 18), .ref (z.2.1 15)] (mX8_fallsAt (μ118 7 (Int32.toNatClampNeg x3)) μ118 r134 hr134) ⟨by decide, by decide⟩ rfl rfl (Nat.le_of_ble_eq_true rfl) dX8_cast_134 ?_
    obtain ⟨hi137, h⟩ := la_go h
    obtain ⟨μ137, eμ137, h⟩ := la_so h
    refine BLM15 C _ rfl hi137 eμ137 dX8_cast_137 ?_
    refine la_aload_n C dX8_cast_138 0 rfl ?_
    refine GLMRX8_55 C dX8_cast_139 ?_
    refine la_aload_n C dX8_cast_142 0 rfl ?_
    refine GLMRX8_151 C dX8_cast_143 ?_
    refine la_aload_n C dX8_cast_146 0 rfl ?_
    refine GLMRX8_138 C dX8_cast_147 ?_
    refine la_aload_n C dX8_cast_150 0 rfl ?_
    refine GLMRX8_22 C dX8_cast_151 ?_
    refine la_iconst C (v := 3) dX8_cast_154 (by decide) ?_
    refine ALM5 C 3 (by decide) (by decide) dX8_cast_155 ?_
    refine la_iadd C dX8_cast_156 ?_
    refine la_iload_n C dX8_cast_157 1 rfl ?_
    refine la_iadd C dX8_cast_158 ?_
    refine la_aload_n C dX8_cast_159 0 rfl ?_
    refine GLMRX8_52 C dX8_cast_160 ?_
    refine la_aload_n C dX8_cast_163 0 rfl ?_
    refine GLMRX8_151 C dX8_cast_164 ?_
    obtain ⟨hi167, h⟩ := la_go h
    refine ALM15 C _ rfl hi167 dX8_cast_167 ?_
    refine la_iadd C dX8_cast_168 ?_
    obtain ⟨hi169, h⟩ := la_go h
    obtain ⟨μ169, eμ169, h⟩ := la_so h
    refine BLM16 C _ rfl hi169 eμ169 dX8_cast_169 ?_
    refine la_aload_n C dX8_cast_170 0 rfl ?_
    refine GLMRX8_31 C dX8_cast_171 ?_
    refine la_iload_n C dX8_cast_174 3 rfl ?_
    refine la_bipush C (v := 14) dX8_cast_175 (by decide) ?_
    obtain ⟨hi177, h⟩ := la_go h
    obtain ⟨μ177, eμ177, h⟩ := la_so h
    refine BLM8 C _ rfl hi177 eμ177 dX8_cast_177 ?_
    refine la_aload_n C dX8_cast_178 0 rfl ?_
    refine la_dup C dX8_cast_179 rfl ?_
    refine GLMRX8_151 C dX8_cast_180 ?_
    refine la_iconst C (v := 1) dX8_cast_183 (by decide) ?_
    refine la_iadd C dX8_cast_184 ?_
    obtain ⟨μ185, eμ185, h⟩ := la_so h
    refine SLMRX8_151 C eμ185 dX8_cast_185 ?_
    refine la_iinc C (v := (x1 + 1)) dX8_cast_188 1 rfl rfl (by decide) rfl ?_
    refine la_sub C [1, 0, 2] rfl ?_
    exact wX8_cast_J191 C rec _ _ _  _ hrec kx h
def fX8_cast_L54  : Nat → Int32 → Int32 → la_Mem → Option (la_Mem)
  | 0, _, _, _ => none
  | n + 1, x1, x2, μ => if (μ 0 12) ≤ x2 then (some μ) else (la_if (la_ix x2 24) (la_st ((μ 11 (Int32.toNatClampNeg x2))) (fun v68 => if v68 = 100 then (fX8_cast_J102 (fX8_cast_L54  n) x1 x2 v68 32 ((24 * (μ 0 23)) + x2) μ) else (la_if (la_ix v68 60) (fX8_cast_J102 (fX8_cast_L54  n) x1 x2 v68 (97 + (μ 6 (Int32.toNatClampNeg v68))) ((24 * (μ 0 23)) + x2) μ)))))
set_option maxRecDepth 10000 in
theorem wX8_cast_L54 {z : LMz} {l : Launch} {Post : Int32 → la_Mem → Prop} {Φ : Nat → List (Nat × Value) → List Value → la_Mem → Prop} (C : la_C (LM z) l rmX8_cast RX8 cX8_cast 4 (some .int) Post Φ)   (ex : (la_Mem)) (kx : ∀  (ν : la_Mem), ex = ν → Φ 197 [(0, .ref (z.2.1 0))] [] ν) : ∀ (n : Nat) (x1 : Int32) (x2 : Int32) (μ : la_Mem), fX8_cast_L54  n x1 x2 μ = some ex → Φ 54 [(0, .ref (z.2.1 0)), (1, .int x1), (2, .int x2)] [] μ := by
  intro n
  induction n with
  | zero =>
    intro _ _ _ h
    cases h
  | succ n hrec =>
    intro x1 x2 μ h
    rw [fX8_cast_L54] at h
    refine la_iload_n C dX8_cast_54 2 rfl ?_
    refine la_aload_n C dX8_cast_55 0 rfl ?_
    refine GLMRX8_141 C dX8_cast_56 ?_
    refine la_icmp_ge C (tgt := 197) dX8_cast_59 (by decide) (fun hc => ?_) (fun hc => ?_)
    · replace h := la_t hc h
      refine la_sub C [0] rfl ?_
      exact kx _ (Option.some.inj h).symm
    · replace h := la_f hc h
      refine la_aload_n C dX8_cast_62 0 rfl ?_
      refine GLMRX8_40 C dX8_cast_63 ?_
      refine la_iload_n C dX8_cast_66 2 rfl ?_
      obtain ⟨hi67, h⟩ := la_go h
      refine ALM11 C _ rfl hi67 dX8_cast_67 ?_
      obtain ⟨v68, ev68, h⟩ := la_so h
      refine la_nm C ev68 ?_
      refine la_istore_n C dX8_cast_68 (by decide) rfl ?_
      refine la_aload_n C dX8_cast_69 1 rfl ?_
      refine GLMRX8_61 C dX8_cast_70 ?_
      refine la_bipush C (v := 24) dX8_cast_73 (by decide) ?_
      refine la_aload_n C dX8_cast_75 1 rfl ?_
      refine GLMRX8_173 C dX8_cast_76 ?_
      refine la_imul C dX8_cast_79 ?_
      refine la_iload_n C dX8_cast_80 3 rfl ?_
      refine la_iadd C dX8_cast_81 ?_
      refine la_iload_n C dX8_cast_82 0 rfl ?_
      refine la_bipush C (v := 100) dX8_cast_83 (by decide) ?_
      refine la_icmp_ne C (tgt := 93) dX8_cast_85 (by decide) (fun hc => ?_) (fun hc => ?_)
      · replace h := la_f hc h
        refine la_bipush C (v := 97) dX8_cast_93 (by decide) ?_
        refine la_aload_n C dX8_cast_95 1 rfl ?_
        refine GLMRX8_25 C dX8_cast_96 ?_
        refine la_iload_n C dX8_cast_99 0 rfl ?_
        obtain ⟨hi100, h⟩ := la_go h
        refine ALM6 C _ rfl hi100 dX8_cast_100 ?_
        refine la_iadd C dX8_cast_101 ?_
        refine la_sub C [1, 2, 3, 0] rfl ?_
        exact wX8_cast_J102 C (fX8_cast_L54  n) _ _ _ _ _ _  _ hrec kx h
      · replace h := la_t hc h
        refine la_bipush C (v := 32) dX8_cast_88 (by decide) ?_
        refine la_goto C (tgt := 102) dX8_cast_90 (by decide) ?_
        refine la_sub C [1, 2, 3, 0] rfl ?_
        exact wX8_cast_J102 C (fX8_cast_L54  n) _ _ _ _ _ _  _ hrec kx h
def fX8_cast  (μ : la_Mem) : Option (Int32 × la_Mem) :=
  if (μ 0 14) ≤ 0 then (if (μ 0 12) = 0 then (some ((-4), μ)) else ((fX8_widthOf  μ).bind (fun r22 => (fX8_bandMany  μ).bind (fun r26 => (fX8_tightness r22 r26 μ).bind (fun r29 => if r29 = 0 then (if (μ 0 23) = 40 then (some ((-3), μ)) else (Option.bind (fX8_cast_L54  400 0 0 μ) (fun ν54 => la_if (la_ix (ν54 0 23) 40) (la_st (la_ms ν54 17 (Int32.toNatClampNeg (ν54 0 23)) (ν54 0 12)) (fun μ209 => la_st (la_ms μ209 0 23 ((μ209 0 23) + 1)) (fun μ217 => la_st (la_ms μ217 0 12 0) (fun μ222 => la_st (la_ms μ222 0 17 0) (fun μ227 => some (((μ227 0 23) - 1), μ227))))))))) else (some ((-2), μ))))))) else (some ((-2), μ))
set_option maxRecDepth 10000 in
theorem mX8_cast {z : LMz} {l : Launch}  (μ : la_Mem) (r0 : Int32) (μ0 : la_Mem)  (h : fX8_cast  μ = some (r0, μ0)) : la_M (LM z) l yX8_cast cX8_cast 4 (some .int) rmX8_cast [.ref (z.2.1 0)] μ (fun r' μ' => r' = r0 ∧ μ' = μ0) := by
  refine la_of (own := RX8) (lv := [(0, .ref (z.2.1 0))]) (by decide) rfl (Nat.le_of_ble_eq_true rfl) rfl (fun Φ C => ?_)
  unfold fX8_cast at h
  have hret : r0 = r0 ∧ μ0 = μ0 := ⟨rfl, rfl⟩
  refine la_aload_n C dX8_cast_0 0 rfl ?_
  refine GLMRX8_135 C dX8_cast_1 ?_
  refine la_if_le C (tgt := 10) dX8_cast_4 (by decide) (fun hc => ?_) (fun hc => ?_)
  · replace h := la_t hc h
    refine la_aload_n C dX8_cast_10 0 rfl ?_
    refine GLMRX8_141 C dX8_cast_11 ?_
    refine la_if_ne C (tgt := 20) dX8_cast_14 (by decide) (fun hc => ?_) (fun hc => ?_)
    · replace h := la_f hc h
      refine la_aload_n C dX8_cast_20 0 rfl ?_
      refine la_aload_n C dX8_cast_21 0 rfl ?_
      obtain ⟨r22, hr22, h⟩ := la_bd h
      refine KLMRX8_163 C [] [.ref (z.2.1 0)] (mX8_widthOf  μ r22 hr22) ⟨by decide, by decide⟩ rfl rfl (Nat.le_of_ble_eq_true rfl) dX8_cast_22 ?_
      refine la_aload_n C dX8_cast_25 0 rfl ?_
      obtain ⟨r26, hr26, h⟩ := la_bd h
      refine KLMRX8_167 C [] [.int r22, .ref (z.2.1 0)] (mX8_bandMany  μ r26 hr26) ⟨by decide, by decide⟩ rfl rfl (Nat.le_of_ble_eq_true rfl) dX8_cast_26 ?_
      obtain ⟨r29, hr29, h⟩ := la_bd h
      refine KLMRX8_170 C [.int r22, .int r26] [] (mX8_tightness r22 r26 μ r29 hr29) ⟨by decide, by decide⟩ rfl rfl (Nat.le_of_ble_eq_true rfl) dX8_cast_29 ?_
      refine la_if_eq C (tgt := 38) dX8_cast_32 (by decide) (fun hc => ?_) (fun hc => ?_)
      · replace h := la_t hc h
        refine la_aload_n C dX8_cast_38 0 rfl ?_
        refine GLMRX8_173 C dX8_cast_39 ?_
        refine la_bipush C (v := 40) dX8_cast_42 (by decide) ?_
        refine la_icmp_ne C (tgt := 50) dX8_cast_44 (by decide) (fun hc => ?_) (fun hc => ?_)
        · replace h := la_f hc h
          refine la_iconst C (v := 0) dX8_cast_50 (by decide) ?_
          refine la_istore_n C dX8_cast_51 (by decide) rfl ?_
          refine la_iconst C (v := 0) dX8_cast_52 (by decide) ?_
          refine la_istore_n C dX8_cast_53 (by decide) rfl ?_
          obtain ⟨ν54, hL54, h⟩ := la_bd h
          refine la_sub C [2, 1, 0] rfl ?_
          refine wX8_cast_L54 C   _ (fun _ e => ?_) _ _ _ _ hL54
          cases e
          refine la_aload_n C dX8_cast_197 0 rfl ?_
          refine GLMRX8_58 C dX8_cast_198 ?_
          refine la_aload_n C dX8_cast_201 0 rfl ?_
          refine GLMRX8_173 C dX8_cast_202 ?_
          refine la_aload_n C dX8_cast_205 0 rfl ?_
          refine GLMRX8_141 C dX8_cast_206 ?_
          obtain ⟨hi209, h⟩ := la_go h
          obtain ⟨μ209, eμ209, h⟩ := la_so h
          refine BLM17 C _ rfl hi209 eμ209 dX8_cast_209 ?_
          refine la_aload_n C dX8_cast_210 0 rfl ?_
          refine la_dup C dX8_cast_211 rfl ?_
          refine GLMRX8_173 C dX8_cast_212 ?_
          refine la_iconst C (v := 1) dX8_cast_215 (by decide) ?_
          refine la_iadd C dX8_cast_216 ?_
          obtain ⟨μ217, eμ217, h⟩ := la_so h
          refine SLMRX8_173 C eμ217 dX8_cast_217 ?_
          refine la_aload_n C dX8_cast_220 0 rfl ?_
          refine la_iconst C (v := 0) dX8_cast_221 (by decide) ?_
          obtain ⟨μ222, eμ222, h⟩ := la_so h
          refine SLMRX8_141 C eμ222 dX8_cast_222 ?_
          refine la_aload_n C dX8_cast_225 0 rfl ?_
          refine la_iconst C (v := 0) dX8_cast_226 (by decide) ?_
          obtain ⟨μ227, eμ227, h⟩ := la_so h
          refine SLMRX8_148 C eμ227 dX8_cast_227 ?_
          refine la_aload_n C dX8_cast_230 0 rfl ?_
          refine GLMRX8_173 C dX8_cast_231 ?_
          refine la_iconst C (v := 1) dX8_cast_234 (by decide) ?_
          refine la_isub C dX8_cast_235 ?_
          exact la_iret C rfl (la_rW (P := (fun r' μ' => r' = r0 ∧ μ' = μ0)) h hret) dX8_cast_236
        · replace h := la_t hc h
          refine la_bipush C (v := (-3)) dX8_cast_47 (by decide) ?_
          exact la_iret C rfl (la_rW (P := (fun r' μ' => r' = r0 ∧ μ' = μ0)) h hret) dX8_cast_49
      · replace h := la_f hc h
        refine la_bipush C (v := (-2)) dX8_cast_35 (by decide) ?_
        exact la_iret C rfl (la_rW (P := (fun r' μ' => r' = r0 ∧ μ' = μ0)) h hret) dX8_cast_37
    · replace h := la_t hc h
      refine la_bipush C (v := (-4)) dX8_cast_17 (by decide) ?_
      exact la_iret C rfl (la_rW (P := (fun r' μ' => r' = r0 ∧ μ' = μ0)) h hret) dX8_cast_19
  · replace h := la_f hc h
    refine la_bipush C (v := (-2)) dX8_cast_7 (by decide) ?_
    exact la_iret C rfl (la_rW (P := (fun r' μ' => r' = r0 ∧ μ' = μ0)) h hret) dX8_cast_9

def fX8_clear_J49 (rec : Int32 → Int32 → la_Mem → Option (Int32 × la_Mem)) (x1 : Int32) (x2 : Int32) (μ : la_Mem) : Option (Int32 × la_Mem) :=
  rec x1 (x2 + 1) μ
set_option maxRecDepth 10000 in
theorem wX8_clear_J49 {z : LMz} {l : Launch} {Post : Int32 → la_Mem → Prop} {Φ : Nat → List (Nat × Value) → List Value → la_Mem → Prop} (C : la_C (LM z) l rmX8_clear RX8 cX8_clear 3 (some .int) Post Φ) (rec : Int32 → Int32 → la_Mem → Option (Int32 × la_Mem)) (x1 : Int32) (x2 : Int32) (μ : la_Mem)  (ex : (Int32 × la_Mem)) (hrec : ∀ (y1 : Int32) (y2 : Int32) (ν : la_Mem), rec y1 y2 ν = some ex → Φ 14 [(0, .ref (z.2.1 0)), (1, .int y1), (2, .int y2)] [] ν) (kx : ∀ (y1 : Int32) (ν : la_Mem), ex = (y1, ν) → Φ 55 [(0, .ref (z.2.1 0)), (1, .int y1)] [] ν) (h : fX8_clear_J49 rec x1 x2 μ = some ex) : Φ 49 [(0, .ref (z.2.1 0)), (1, .int x1), (2, .int x2)] [] μ := by
  unfold fX8_clear_J49 at h
  refine la_iinc C (v := (x2 + 1)) dX8_clear_49 2 rfl rfl (by decide) rfl ?_
  refine la_goto C (tgt := 14) dX8_clear_52 (by decide) ?_
  refine la_sub C [1, 2, 0] rfl ?_
  exact hrec _ _ _ h
def fX8_clear_L14  : Nat → Int32 → Int32 → la_Mem → Option (Int32 × la_Mem)
  | 0, _, _, _ => none
  | n + 1, x1, x2, μ => if (μ 0 12) ≤ x2 then (some (x1, μ)) else (la_if (la_ix x2 24) (if (μ 11 (Int32.toNatClampNeg x2)) = 100 then (fX8_clear_J49 (fX8_clear_L14  n) x1 x2 μ) else (la_if (la_ix x2 24) (la_if (la_ix (μ 11 (Int32.toNatClampNeg x2)) 60) (la_st (la_ms μ 8 (Int32.toNatClampNeg (μ 11 (Int32.toNatClampNeg x2))) 12) (fun μ45 => fX8_clear_J49 (fX8_clear_L14  n) (x1 + 1) x2 μ45))))))
set_option maxRecDepth 10000 in
theorem wX8_clear_L14 {z : LMz} {l : Launch} {Post : Int32 → la_Mem → Prop} {Φ : Nat → List (Nat × Value) → List Value → la_Mem → Prop} (C : la_C (LM z) l rmX8_clear RX8 cX8_clear 3 (some .int) Post Φ)   (ex : (Int32 × la_Mem)) (kx : ∀ (y1 : Int32) (ν : la_Mem), ex = (y1, ν) → Φ 55 [(0, .ref (z.2.1 0)), (1, .int y1)] [] ν) : ∀ (n : Nat) (x1 : Int32) (x2 : Int32) (μ : la_Mem), fX8_clear_L14  n x1 x2 μ = some ex → Φ 14 [(0, .ref (z.2.1 0)), (1, .int x1), (2, .int x2)] [] μ := by
  intro n
  induction n with
  | zero =>
    intro _ _ _ h
    cases h
  | succ n hrec =>
    intro x1 x2 μ h
    rw [fX8_clear_L14] at h
    refine la_iload_n C dX8_clear_14 2 rfl ?_
    refine la_aload_n C dX8_clear_15 0 rfl ?_
    refine GLMRX8_141 C dX8_clear_16 ?_
    refine la_icmp_ge C (tgt := 55) dX8_clear_19 (by decide) (fun hc => ?_) (fun hc => ?_)
    · replace h := la_t hc h
      refine la_sub C [0, 1] rfl ?_
      exact kx _ _ (Option.some.inj h).symm
    · replace h := la_f hc h
      refine la_aload_n C dX8_clear_22 0 rfl ?_
      refine GLMRX8_40 C dX8_clear_23 ?_
      refine la_iload_n C dX8_clear_26 2 rfl ?_
      obtain ⟨hi27, h⟩ := la_go h
      refine ALM11 C _ rfl hi27 dX8_clear_27 ?_
      refine la_bipush C (v := 100) dX8_clear_28 (by decide) ?_
      refine la_icmp_eq C (tgt := 49) dX8_clear_30 (by decide) (fun hc => ?_) (fun hc => ?_)
      · replace h := la_t hc h
        refine la_sub C [0, 1, 2] rfl ?_
        exact wX8_clear_J49 C (fX8_clear_L14  n) _ _ _  _ hrec kx h
      · replace h := la_f hc h
        refine la_aload_n C dX8_clear_33 0 rfl ?_
        refine GLMRX8_31 C dX8_clear_34 ?_
        refine la_aload_n C dX8_clear_37 0 rfl ?_
        refine GLMRX8_40 C dX8_clear_38 ?_
        refine la_iload_n C dX8_clear_41 2 rfl ?_
        obtain ⟨hi42, h⟩ := la_go h
        refine ALM11 C _ rfl hi42 dX8_clear_42 ?_
        refine la_bipush C (v := 12) dX8_clear_43 (by decide) ?_
        obtain ⟨hi45, h⟩ := la_go h
        obtain ⟨μ45, eμ45, h⟩ := la_so h
        refine BLM8 C _ rfl hi45 eμ45 dX8_clear_45 ?_
        refine la_iinc C (v := (x1 + 1)) dX8_clear_46 1 rfl rfl (by decide) rfl ?_
        refine la_sub C [1, 0, 2] rfl ?_
        exact wX8_clear_J49 C (fX8_clear_L14  n) _ _ _  _ hrec kx h
def fX8_clear  (μ : la_Mem) : Option (Int32 × la_Mem) :=
  if (μ 0 14) ≤ 0 then (la_b2 (fX8_clear_L14  400 0 0 μ) (fun q14_1 ν14 => la_st (la_ms ν14 0 12 0) (fun μ57 => la_st (la_ms μ57 0 17 0) (fun μ62 => some (q14_1, μ62))))) else (some ((-2), μ))
set_option maxRecDepth 10000 in
theorem mX8_clear {z : LMz} {l : Launch}  (μ : la_Mem) (r0 : Int32) (μ0 : la_Mem)  (h : fX8_clear  μ = some (r0, μ0)) : la_M (LM z) l yX8_clear cX8_clear 3 (some .int) rmX8_clear [.ref (z.2.1 0)] μ (fun r' μ' => r' = r0 ∧ μ' = μ0) := by
  refine la_of (own := RX8) (lv := [(0, .ref (z.2.1 0))]) (by decide) rfl (Nat.le_of_ble_eq_true rfl) rfl (fun Φ C => ?_)
  unfold fX8_clear at h
  have hret : r0 = r0 ∧ μ0 = μ0 := ⟨rfl, rfl⟩
  refine la_aload_n C dX8_clear_0 0 rfl ?_
  refine GLMRX8_135 C dX8_clear_1 ?_
  refine la_if_le C (tgt := 10) dX8_clear_4 (by decide) (fun hc => ?_) (fun hc => ?_)
  · replace h := la_t hc h
    refine la_iconst C (v := 0) dX8_clear_10 (by decide) ?_
    refine la_istore_n C dX8_clear_11 (by decide) rfl ?_
    refine la_iconst C (v := 0) dX8_clear_12 (by decide) ?_
    refine la_istore_n C dX8_clear_13 (by decide) rfl ?_
    obtain ⟨q14_1, ν14, hL14, h⟩ := la_b2o h
    refine la_sub C [2, 1, 0] rfl ?_
    refine wX8_clear_L14 C   _ (fun _ _ e => ?_) _ _ _ _ hL14
    cases e
    refine la_aload_n C dX8_clear_55 0 rfl ?_
    refine la_iconst C (v := 0) dX8_clear_56 (by decide) ?_
    obtain ⟨μ57, eμ57, h⟩ := la_so h
    refine SLMRX8_141 C eμ57 dX8_clear_57 ?_
    refine la_aload_n C dX8_clear_60 0 rfl ?_
    refine la_iconst C (v := 0) dX8_clear_61 (by decide) ?_
    obtain ⟨μ62, eμ62, h⟩ := la_so h
    refine SLMRX8_148 C eμ62 dX8_clear_62 ?_
    refine la_iload_n C dX8_clear_65 1 rfl ?_
    exact la_iret C rfl (la_rW (P := (fun r' μ' => r' = r0 ∧ μ' = μ0)) h hret) dX8_clear_66
  · replace h := la_f hc h
    refine la_bipush C (v := (-2)) dX8_clear_7 (by decide) ?_
    exact la_iret C rfl (la_rW (P := (fun r' μ' => r' = r0 ∧ μ' = μ0)) h hret) dX8_clear_9

def fX8_slug (x1 : Int32) (x2 : Int32) (μ : la_Mem) : Option Int32 :=
  (fX8_in (Int32.toInt64 x1) 0 (Int32.toInt64 ((μ 0 23) - 1)) μ).bind (fun r10 => if r10 = 0 then (some (-1)) else (if x2 < (-1) then (some (-1)) else (la_if (la_ix x1 40) (if x2 < (μ 17 (Int32.toNatClampNeg x1)) then (if 0 ≤ x2 then (la_if (la_ix ((24 * x1) + x2) 960) (some (μ 18 (Int32.toNatClampNeg ((24 * x1) + x2))))) else (la_if (la_ix x1 40) (some (μ 17 (Int32.toNatClampNeg x1))))) else (some (-1))))))
set_option maxRecDepth 10000 in
theorem mX8_slug {z : LMz} {l : Launch} (x1 : Int32) (x2 : Int32) (μ : la_Mem) (r0 : Int32)  (h : fX8_slug x1 x2 μ = some r0) : la_M (LM z) l yX8_slug cX8_slug 3 (some .int) rmX8_slug [.ref (z.2.1 0), .int x1, .int x2] μ (fun r' μ' => r' = r0 ∧ μ' = μ) := by
  refine la_of (own := RX8) (lv := [(0, .ref (z.2.1 0)), (1, .int x1), (2, .int x2)]) (by decide) rfl (Nat.le_of_ble_eq_true rfl) rfl (fun Φ C => ?_)
  unfold fX8_slug at h
  have hret : r0 = r0 ∧ μ = μ := ⟨rfl, rfl⟩
  refine la_iload_n C dX8_slug_0 1 rfl ?_
  refine la_i2l C dX8_slug_1 ?_
  refine la_lconst C (v := 0) dX8_slug_2 (by decide) ?_
  refine la_aload_n C dX8_slug_3 0 rfl ?_
  refine GLMRX8_173 C dX8_slug_4 ?_
  refine la_iconst C (v := 1) dX8_slug_7 (by decide) ?_
  refine la_isub C dX8_slug_8 ?_
  refine la_i2l C dX8_slug_9 ?_
  obtain ⟨r10, hr10, h⟩ := la_bd h
  refine KLMRX8_87 C [.long (Int32.toInt64 x1), .long 0, .long (Int32.toInt64 ((μ 0 23) - 1))] [] (mX8_in (Int32.toInt64 x1) 0 (Int32.toInt64 ((μ 0 23) - 1)) μ r10 hr10) ⟨by decide, by decide⟩ rfl rfl (Nat.le_of_ble_eq_true rfl) dX8_slug_10 ?_
  refine la_if_eq C (tgt := 31) dX8_slug_13 (by decide) (fun hc => ?_) (fun hc => ?_)
  · replace h := la_t hc h
    refine la_iconst C (v := (-1)) dX8_slug_31 (by decide) ?_
    exact la_iret C rfl (la_rR (P := (fun r' μ' => r' = r0 ∧ μ' = μ)) h hret) dX8_slug_32
  · replace h := la_f hc h
    refine la_iload_n C dX8_slug_16 2 rfl ?_
    refine la_iconst C (v := (-1)) dX8_slug_17 (by decide) ?_
    refine la_icmp_lt C (tgt := 31) dX8_slug_18 (by decide) (fun hc => ?_) (fun hc => ?_)
    · replace h := la_t hc h
      refine la_iconst C (v := (-1)) dX8_slug_31 (by decide) ?_
      exact la_iret C rfl (la_rR (P := (fun r' μ' => r' = r0 ∧ μ' = μ)) h hret) dX8_slug_32
    · replace h := la_f hc h
      refine la_iload_n C dX8_slug_21 2 rfl ?_
      refine la_aload_n C dX8_slug_22 0 rfl ?_
      refine GLMRX8_58 C dX8_slug_23 ?_
      refine la_iload_n C dX8_slug_26 1 rfl ?_
      obtain ⟨hi27, h⟩ := la_go h
      refine ALM17 C _ rfl hi27 dX8_slug_27 ?_
      refine la_icmp_lt C (tgt := 33) dX8_slug_28 (by decide) (fun hc => ?_) (fun hc => ?_)
      · replace h := la_t hc h
        refine la_iload_n C dX8_slug_33 2 rfl ?_
        refine la_if_ge C (tgt := 46) dX8_slug_34 (by decide) (fun hc => ?_) (fun hc => ?_)
        · replace h := la_t hc h
          refine la_aload_n C dX8_slug_46 0 rfl ?_
          refine GLMRX8_61 C dX8_slug_47 ?_
          refine la_bipush C (v := 24) dX8_slug_50 (by decide) ?_
          refine la_iload_n C dX8_slug_52 1 rfl ?_
          refine la_imul C dX8_slug_53 ?_
          refine la_iload_n C dX8_slug_54 2 rfl ?_
          refine la_iadd C dX8_slug_55 ?_
          obtain ⟨hi56, h⟩ := la_go h
          refine ALM18 C _ rfl hi56 dX8_slug_56 ?_
          exact la_iret C rfl (la_rR (P := (fun r' μ' => r' = r0 ∧ μ' = μ)) h hret) dX8_slug_57
        · replace h := la_f hc h
          refine la_aload_n C dX8_slug_37 0 rfl ?_
          refine GLMRX8_58 C dX8_slug_38 ?_
          refine la_iload_n C dX8_slug_41 1 rfl ?_
          obtain ⟨hi42, h⟩ := la_go h
          refine ALM17 C _ rfl hi42 dX8_slug_42 ?_
          refine la_goto C (tgt := 57) dX8_slug_43 (by decide) ?_
          exact la_iret C rfl (la_rR (P := (fun r' μ' => r' = r0 ∧ μ' = μ)) h hret) dX8_slug_57
      · replace h := la_f hc h
        refine la_iconst C (v := (-1)) dX8_slug_31 (by decide) ?_
        exact la_iret C rfl (la_rR (P := (fun r' μ' => r' = r0 ∧ μ' = μ)) h hret) dX8_slug_32

def fX8_whereMany_J38 (rec : Int32 → Int32 → Option (Int32)) (x1 : Int32) (x2 : Int32) (x4 : Int32) (s0 : Int32) (s1 : Int32) (μ : la_Mem) : Option (Int32) :=
  la_st ((s1 + s0)) (fun v39 => rec v39 (x4 + 1))
set_option maxRecDepth 10000 in
theorem wX8_whereMany_J38 {z : LMz} {l : Launch} {Post : Int32 → la_Mem → Prop} {Φ : Nat → List (Nat × Value) → List Value → la_Mem → Prop} (C : la_C (LM z) l rmX8_whereMany RX8 cX8_whereMany 5 (some .int) Post Φ) (rec : Int32 → Int32 → Option (Int32)) (x1 : Int32) (x2 : Int32) (x4 : Int32) (s0 : Int32) (s1 : Int32) (μ : la_Mem)  (ex : (Int32)) (hrec : ∀ (y3 : Int32) (y4 : Int32), rec y3 y4 = some ex → Φ 5 [(0, .ref (z.2.1 0)), (1, .int x1), (2, .int x2), (3, .int y3), (4, .int y4)] [] μ) (kx : ∀ (y3 : Int32), ex = y3 → Φ 46 [(3, .int y3)] [] μ) (h : fX8_whereMany_J38 rec x1 x2 x4 s0 s1 μ = some ex) : Φ 38 [(0, .ref (z.2.1 0)), (1, .int x1), (2, .int x2), (4, .int x4)] [.int s0, .int s1] μ := by
  unfold fX8_whereMany_J38 at h
  refine la_iadd C dX8_whereMany_38 ?_
  obtain ⟨v39, ev39, h⟩ := la_so h
  refine la_nm C ev39 ?_
  refine la_istore_n C dX8_whereMany_39 (by decide) rfl ?_
  refine la_iinc C (v := (x4 + 1)) dX8_whereMany_40 4 rfl rfl (by decide) rfl ?_
  refine la_goto C (tgt := 5) dX8_whereMany_43 (by decide) ?_
  refine la_sub C [2, 3, 4, 1, 0] rfl ?_
  exact hrec _ _ h
def fX8_whereMany_L5 (x1 : Int32) (x2 : Int32) (μ : la_Mem) : Nat → Int32 → Int32 → Option (Int32)
  | 0, _, _ => none
  | n + 1, x3, x4 => if (μ 0 5) ≤ x4 then (some x3) else (la_if (la_ix x4 60) ((fX8_in (Int32.toInt64 (μ 8 (Int32.toNatClampNeg x4))) (Int32.toInt64 x1) (Int32.toInt64 x2) μ).bind (fun r27 => if r27 = 0 then (fX8_whereMany_J38 (fX8_whereMany_L5 x1 x2 μ n) x1 x2 x4 0 x3 μ) else (fX8_whereMany_J38 (fX8_whereMany_L5 x1 x2 μ n) x1 x2 x4 1 x3 μ))))
set_option maxRecDepth 10000 in
theorem wX8_whereMany_L5 {z : LMz} {l : Launch} {Post : Int32 → la_Mem → Prop} {Φ : Nat → List (Nat × Value) → List Value → la_Mem → Prop} (C : la_C (LM z) l rmX8_whereMany RX8 cX8_whereMany 5 (some .int) Post Φ) (x1 : Int32) (x2 : Int32) (μ : la_Mem)  (ex : (Int32)) (kx : ∀ (y3 : Int32), ex = y3 → Φ 46 [(3, .int y3)] [] μ) : ∀ (n : Nat) (x3 : Int32) (x4 : Int32), fX8_whereMany_L5 x1 x2 μ n x3 x4 = some ex → Φ 5 [(0, .ref (z.2.1 0)), (1, .int x1), (2, .int x2), (3, .int x3), (4, .int x4)] [] μ := by
  intro n
  induction n with
  | zero =>
    intro _ _ h
    cases h
  | succ n hrec =>
    intro x3 x4 h
    rw [fX8_whereMany_L5] at h
    refine la_iload C dX8_whereMany_5 4 rfl ?_
    refine la_aload_n C dX8_whereMany_7 0 rfl ?_
    refine GLMRX8_122 C dX8_whereMany_8 ?_
    refine la_icmp_ge C (tgt := 46) dX8_whereMany_11 (by decide) (fun hc => ?_) (fun hc => ?_)
    · replace h := la_t hc h
      refine la_sub C [3] rfl ?_
      exact kx _ (Option.some.inj h).symm
    · replace h := la_f hc h
      refine la_iload_n C dX8_whereMany_14 3 rfl ?_
      refine la_aload_n C dX8_whereMany_15 0 rfl ?_
      refine GLMRX8_31 C dX8_whereMany_16 ?_
      refine la_iload C dX8_whereMany_19 4 rfl ?_
      obtain ⟨hi21, h⟩ := la_go h
      refine ALM8 C _ rfl hi21 dX8_whereMany_21 ?_
      refine la_i2l C dX8_whereMany_22 ?_
      refine la_iload_n C dX8_whereMany_23 1 rfl ?_
      refine la_i2l C dX8_whereMany_24 ?_
      refine la_iload_n C dX8_whereMany_25 2 rfl ?_
      refine la_i2l C dX8_whereMany_26 ?_
      obtain ⟨r27, hr27, h⟩ := la_bd h
      refine KLMRX8_87 C [.long (Int32.toInt64 (μ 8 (Int32.toNatClampNeg x4))), .long (Int32.toInt64 x1), .long (Int32.toInt64 x2)] [.int x3] (mX8_in (Int32.toInt64 (μ 8 (Int32.toNatClampNeg x4))) (Int32.toInt64 x1) (Int32.toInt64 x2) μ r27 hr27) ⟨by decide, by decide⟩ rfl rfl (Nat.le_of_ble_eq_true rfl) dX8_whereMany_27 ?_
      refine la_if_eq C (tgt := 37) dX8_whereMany_30 (by decide) (fun hc => ?_) (fun hc => ?_)
      · replace h := la_t hc h
        refine la_iconst C (v := 0) dX8_whereMany_37 (by decide) ?_
        refine la_sub C [0, 1, 2, 4] rfl ?_
        exact wX8_whereMany_J38 C (fX8_whereMany_L5 x1 x2 μ n) _ _ _ _ _ _  _ hrec kx h
      · replace h := la_f hc h
        refine la_iconst C (v := 1) dX8_whereMany_33 (by decide) ?_
        refine la_goto C (tgt := 38) dX8_whereMany_34 (by decide) ?_
        refine la_sub C [0, 1, 2, 4] rfl ?_
        exact wX8_whereMany_J38 C (fX8_whereMany_L5 x1 x2 μ n) _ _ _ _ _ _  _ hrec kx h
def fX8_whereMany (x1 : Int32) (x2 : Int32) (μ : la_Mem) : Option Int32 :=
  Option.bind (fX8_whereMany_L5 x1 x2 μ 400 0 0) (fun q5_3 => some q5_3)
set_option maxRecDepth 10000 in
theorem mX8_whereMany {z : LMz} {l : Launch} (x1 : Int32) (x2 : Int32) (μ : la_Mem) (r0 : Int32)  (h : fX8_whereMany x1 x2 μ = some r0) : la_M (LM z) l yX8_whereMany cX8_whereMany 5 (some .int) rmX8_whereMany [.ref (z.2.1 0), .int x1, .int x2] μ (fun r' μ' => r' = r0 ∧ μ' = μ) := by
  refine la_of (own := RX8) (lv := [(0, .ref (z.2.1 0)), (1, .int x1), (2, .int x2)]) (by decide) rfl (Nat.le_of_ble_eq_true rfl) rfl (fun Φ C => ?_)
  unfold fX8_whereMany at h
  have hret : r0 = r0 ∧ μ = μ := ⟨rfl, rfl⟩
  refine la_iconst C (v := 0) dX8_whereMany_0 (by decide) ?_
  refine la_istore_n C dX8_whereMany_1 (by decide) rfl ?_
  refine la_iconst C (v := 0) dX8_whereMany_2 (by decide) ?_
  refine la_istore C dX8_whereMany_3 (by decide) rfl ?_
  obtain ⟨q5_3, hL5, h⟩ := la_bd h
  refine la_sub C [2, 3, 4, 1, 0] rfl ?_
  refine wX8_whereMany_L5 C _ _ _  _ (fun _ e => ?_) _ _ _ hL5
  cases e
  refine la_iload_n C dX8_whereMany_46 0 rfl ?_
  exact la_iret C rfl (la_rR (P := (fun r' μ' => r' = r0 ∧ μ' = μ)) h hret) dX8_whereMany_47

def fX8_count (x1 : Int32) (μ : la_Mem) : Option Int32 :=
  if x1 = 0 then (some (μ 0 5)) else if x1 = 1 then ((fX8_whereMany 0 11 μ).bind (fun r61 => some r61)) else if x1 = 2 then ((fX8_whereMany 12 12 μ).bind (fun r70 => some r70)) else if x1 = 3 then ((fX8_whereMany 13 13 μ).bind (fun r79 => some r79)) else if x1 = 4 then ((fX8_whereMany 14 14 μ).bind (fun r88 => some r88)) else if x1 = 5 then (some (μ 0 23)) else if x1 = 6 then (some (12 - (μ 0 17))) else if x1 = 7 then (some (μ 0 22)) else if x1 = 8 then (some (μ 0 11)) else (some (-1))
set_option maxRecDepth 10000 in
theorem mX8_count {z : LMz} {l : Launch} (x1 : Int32) (μ : la_Mem) (r0 : Int32)  (h : fX8_count x1 μ = some r0) : la_M (LM z) l yX8_count cX8_count 2 (some .int) rmX8_count [.ref (z.2.1 0), .int x1] μ (fun r' μ' => r' = r0 ∧ μ' = μ) := by
  refine la_of (own := RX8) (lv := [(0, .ref (z.2.1 0)), (1, .int x1)]) (by decide) rfl (Nat.le_of_ble_eq_true rfl) rfl (fun Φ C => ?_)
  unfold fX8_count at h
  have hret : r0 = r0 ∧ μ = μ := ⟨rfl, rfl⟩
  refine la_iload_n C dX8_count_0 1 rfl ?_
  by_cases hc0 : x1 = 0
  · replace h := la_t hc0 h
    refine la_nmE C hc0 ?_
    refine la_tabIn C (off := 51) (tgt := 52) dX8_count_1 (by decide) (by decide) rfl (by decide) ?_
    refine la_aload_n C dX8_count_52 0 rfl ?_
    refine GLMRX8_122 C dX8_count_53 ?_
    exact la_iret C rfl (la_rR (P := (fun r' μ' => r' = r0 ∧ μ' = μ)) h hret) dX8_count_56
  replace h := la_f hc0 h
  by_cases hc1 : x1 = 1
  · replace h := la_t hc1 h
    refine la_nmE C hc1 ?_
    refine la_tabIn C (off := 56) (tgt := 57) dX8_count_1 (by decide) (by decide) rfl (by decide) ?_
    refine la_aload_n C dX8_count_57 0 rfl ?_
    refine la_iconst C (v := 0) dX8_count_58 (by decide) ?_
    refine la_bipush C (v := 11) dX8_count_59 (by decide) ?_
    obtain ⟨r61, hr61, h⟩ := la_bd h
    refine KLMRX8_176 C [.int 0, .int 11] [] (mX8_whereMany 0 11 μ r61 hr61) ⟨by decide, by decide⟩ rfl rfl (Nat.le_of_ble_eq_true rfl) dX8_count_61 ?_
    exact la_iret C rfl (la_rR (P := (fun r' μ' => r' = r0 ∧ μ' = μ)) h hret) dX8_count_64
  replace h := la_f hc1 h
  by_cases hc2 : x1 = 2
  · replace h := la_t hc2 h
    refine la_nmE C hc2 ?_
    refine la_tabIn C (off := 64) (tgt := 65) dX8_count_1 (by decide) (by decide) rfl (by decide) ?_
    refine la_aload_n C dX8_count_65 0 rfl ?_
    refine la_bipush C (v := 12) dX8_count_66 (by decide) ?_
    refine la_bipush C (v := 12) dX8_count_68 (by decide) ?_
    obtain ⟨r70, hr70, h⟩ := la_bd h
    refine KLMRX8_176 C [.int 12, .int 12] [] (mX8_whereMany 12 12 μ r70 hr70) ⟨by decide, by decide⟩ rfl rfl (Nat.le_of_ble_eq_true rfl) dX8_count_70 ?_
    exact la_iret C rfl (la_rR (P := (fun r' μ' => r' = r0 ∧ μ' = μ)) h hret) dX8_count_73
  replace h := la_f hc2 h
  by_cases hc3 : x1 = 3
  · replace h := la_t hc3 h
    refine la_nmE C hc3 ?_
    refine la_tabIn C (off := 73) (tgt := 74) dX8_count_1 (by decide) (by decide) rfl (by decide) ?_
    refine la_aload_n C dX8_count_74 0 rfl ?_
    refine la_bipush C (v := 13) dX8_count_75 (by decide) ?_
    refine la_bipush C (v := 13) dX8_count_77 (by decide) ?_
    obtain ⟨r79, hr79, h⟩ := la_bd h
    refine KLMRX8_176 C [.int 13, .int 13] [] (mX8_whereMany 13 13 μ r79 hr79) ⟨by decide, by decide⟩ rfl rfl (Nat.le_of_ble_eq_true rfl) dX8_count_79 ?_
    exact la_iret C rfl (la_rR (P := (fun r' μ' => r' = r0 ∧ μ' = μ)) h hret) dX8_count_82
  replace h := la_f hc3 h
  by_cases hc4 : x1 = 4
  · replace h := la_t hc4 h
    refine la_nmE C hc4 ?_
    refine la_tabIn C (off := 82) (tgt := 83) dX8_count_1 (by decide) (by decide) rfl (by decide) ?_
    refine la_aload_n C dX8_count_83 0 rfl ?_
    refine la_bipush C (v := 14) dX8_count_84 (by decide) ?_
    refine la_bipush C (v := 14) dX8_count_86 (by decide) ?_
    obtain ⟨r88, hr88, h⟩ := la_bd h
    refine KLMRX8_176 C [.int 14, .int 14] [] (mX8_whereMany 14 14 μ r88 hr88) ⟨by decide, by decide⟩ rfl rfl (Nat.le_of_ble_eq_true rfl) dX8_count_88 ?_
    exact la_iret C rfl (la_rR (P := (fun r' μ' => r' = r0 ∧ μ' = μ)) h hret) dX8_count_91
  replace h := la_f hc4 h
  by_cases hc5 : x1 = 5
  · replace h := la_t hc5 h
    refine la_nmE C hc5 ?_
    refine la_tabIn C (off := 91) (tgt := 92) dX8_count_1 (by decide) (by decide) rfl (by decide) ?_
    refine la_aload_n C dX8_count_92 0 rfl ?_
    refine GLMRX8_173 C dX8_count_93 ?_
    exact la_iret C rfl (la_rR (P := (fun r' μ' => r' = r0 ∧ μ' = μ)) h hret) dX8_count_96
  replace h := la_f hc5 h
  by_cases hc6 : x1 = 6
  · replace h := la_t hc6 h
    refine la_nmE C hc6 ?_
    refine la_tabIn C (off := 96) (tgt := 97) dX8_count_1 (by decide) (by decide) rfl (by decide) ?_
    refine la_bipush C (v := 12) dX8_count_97 (by decide) ?_
    refine la_aload_n C dX8_count_99 0 rfl ?_
    refine GLMRX8_148 C dX8_count_100 ?_
    refine la_isub C dX8_count_103 ?_
    exact la_iret C rfl (la_rR (P := (fun r' μ' => r' = r0 ∧ μ' = μ)) h hret) dX8_count_104
  replace h := la_f hc6 h
  by_cases hc7 : x1 = 7
  · replace h := la_t hc7 h
    refine la_nmE C hc7 ?_
    refine la_tabIn C (off := 104) (tgt := 105) dX8_count_1 (by decide) (by decide) rfl (by decide) ?_
    refine la_aload_n C dX8_count_105 0 rfl ?_
    refine GLMRX8_154 C dX8_count_106 ?_
    exact la_iret C rfl (la_rR (P := (fun r' μ' => r' = r0 ∧ μ' = μ)) h hret) dX8_count_109
  replace h := la_f hc7 h
  by_cases hc8 : x1 = 8
  · replace h := la_t hc8 h
    refine la_nmE C hc8 ?_
    refine la_tabIn C (off := 109) (tgt := 110) dX8_count_1 (by decide) (by decide) rfl (by decide) ?_
    refine la_aload_n C dX8_count_110 0 rfl ?_
    refine GLMRX8_138 C dX8_count_111 ?_
    exact la_iret C rfl (la_rR (P := (fun r' μ' => r' = r0 ∧ μ' = μ)) h hret) dX8_count_114
  replace h := la_f hc8 h
  refine la_tabOut C (tgt := 115) dX8_count_1 (by have n0 := la_ne (z := 0) hc0 (by decide); have n1 := la_ne (z := 1) hc1 (by decide); have n2 := la_ne (z := 2) hc2 (by decide); have n3 := la_ne (z := 3) hc3 (by decide); have n4 := la_ne (z := 4) hc4 (by decide); have n5 := la_ne (z := 5) hc5 (by decide); have n6 := la_ne (z := 6) hc6 (by decide); have n7 := la_ne (z := 7) hc7 (by decide); have n8 := la_ne (z := 8) hc8 (by decide); omega) (by decide) ?_
  refine la_iconst C (v := (-1)) dX8_count_115 (by decide) ?_
  exact la_iret C rfl (la_rR (P := (fun r' μ' => r' = r0 ∧ μ' = μ)) h hret) dX8_count_116

def fX8_reachOf (x1 : Int32) (μ : la_Mem) : Option Int32 :=
  if x1 = 12 then (some 0) else (la_if (la_ix x1 12) (some (μ 4 (Int32.toNatClampNeg x1))))
set_option maxRecDepth 10000 in
theorem mX8_reachOf {z : LMz} {l : Launch} (x1 : Int32) (μ : la_Mem) (r0 : Int32)  (h : fX8_reachOf x1 μ = some r0) : la_M (LM z) l yX8_reachOf cX8_reachOf 2 (some .int) rmX8_reachOf [.ref (z.2.1 0), .int x1] μ (fun r' μ' => r' = r0 ∧ μ' = μ) := by
  refine la_of (own := RX8) (lv := [(0, .ref (z.2.1 0)), (1, .int x1)]) (by decide) rfl (Nat.le_of_ble_eq_true rfl) rfl (fun Φ C => ?_)
  unfold fX8_reachOf at h
  have hret : r0 = r0 ∧ μ = μ := ⟨rfl, rfl⟩
  refine la_iload_n C dX8_reachOf_0 1 rfl ?_
  refine la_bipush C (v := 12) dX8_reachOf_1 (by decide) ?_
  refine la_icmp_ne C (tgt := 10) dX8_reachOf_3 (by decide) (fun hc => ?_) (fun hc => ?_)
  · replace h := la_f hc h
    refine la_aload_n C dX8_reachOf_10 0 rfl ?_
    refine GLMRX8_19 C dX8_reachOf_11 ?_
    refine la_iload_n C dX8_reachOf_14 1 rfl ?_
    obtain ⟨hi15, h⟩ := la_go h
    refine ALM4 C _ rfl hi15 dX8_reachOf_15 ?_
    exact la_iret C rfl (la_rR (P := (fun r' μ' => r' = r0 ∧ μ' = μ)) h hret) dX8_reachOf_16
  · replace h := la_t hc h
    refine la_iconst C (v := 0) dX8_reachOf_6 (by decide) ?_
    refine la_goto C (tgt := 16) dX8_reachOf_7 (by decide) ?_
    exact la_iret C rfl (la_rR (P := (fun r' μ' => r' = r0 ∧ μ' = μ)) h hret) dX8_reachOf_16

def fX8_takes_J71 (rec : Int32 → Int32 → la_Mem → Option (Int32 × la_Mem)) (x1 : Int32) (x3 : Int32) (x4 : Int32) (x6 : Int32) (s0 : Int32) (μ : la_Mem) : Option (Int32 × la_Mem) :=
  rec s0 (x6 + 1) μ
set_option maxRecDepth 10000 in
theorem wX8_takes_J71 {z : LMz} {l : Launch} {Post : Int32 → la_Mem → Prop} {Φ : Nat → List (Nat × Value) → List Value → la_Mem → Prop} (C : la_C (LM z) l rmX8_takes RX8 cX8_takes 7 (some .int) Post Φ) (rec : Int32 → Int32 → la_Mem → Option (Int32 × la_Mem)) (x1 : Int32) (x3 : Int32) (x4 : Int32) (x6 : Int32) (s0 : Int32) (μ : la_Mem)  (ex : (Int32 × la_Mem)) (hrec : ∀ (y5 : Int32) (y6 : Int32) (ν : la_Mem), rec y5 y6 ν = some ex → Φ 14 [(0, .ref (z.2.1 0)), (1, .int x1), (3, .int x3), (4, .int x4), (5, .int y5), (6, .int y6)] [] ν) (kx : ∀ (y5 : Int32) (ν : la_Mem), ex = (y5, ν) → Φ 79 [(5, .int y5)] [] ν) (h : fX8_takes_J71 rec x1 x3 x4 x6 s0 μ = some ex) : Φ 71 [(0, .ref (z.2.1 0)), (1, .int x1), (3, .int x3), (4, .int x4), (6, .int x6)] [.int s0] μ := by
  unfold fX8_takes_J71 at h
  refine la_istore C dX8_takes_71 (by decide) rfl ?_
  refine la_iinc C (v := (x6 + 1)) dX8_takes_73 5 rfl rfl (by decide) rfl ?_
  refine la_goto C (tgt := 14) dX8_takes_76 (by decide) ?_
  refine la_sub C [2, 3, 4, 5, 1, 0] rfl ?_
  exact hrec _ _ _ h
def fX8_takes_L14 (x1 : Int32) (x3 : Int32) (x4 : Int32) : Nat → Int32 → Int32 → la_Mem → Option (Int32 × la_Mem)
  | 0, _, _, _ => none
  | n + 1, x5, x6, μ => if x4 ≤ x6 then (some (x5, μ)) else (if x5 = 0 then (la_if (la_ix (((40 * x1) + x3) + x6) 160) (la_if (la_ix x6 24) (la_st (la_ms μ 19 (Int32.toNatClampNeg x6) (μ 24 (Int32.toNatClampNeg (((40 * x1) + x3) + x6)))) (fun μ46 => la_if (la_ix x6 24) ((fX8_in (Int32.toInt64 (μ46 19 (Int32.toNatClampNeg x6))) 0 12 μ46).bind (fun r59 => if r59 = 0 then (fX8_takes_J71 (fX8_takes_L14 x1 x3 x4 n) x1 x3 x4 x6 (-2) μ46) else (fX8_takes_J71 (fX8_takes_L14 x1 x3 x4 n) x1 x3 x4 x6 0 μ46))))))) else (some (x5, μ)))
set_option maxRecDepth 10000 in
theorem wX8_takes_L14 {z : LMz} {l : Launch} {Post : Int32 → la_Mem → Prop} {Φ : Nat → List (Nat × Value) → List Value → la_Mem → Prop} (C : la_C (LM z) l rmX8_takes RX8 cX8_takes 7 (some .int) Post Φ) (x1 : Int32) (x3 : Int32) (x4 : Int32)  (ex : (Int32 × la_Mem)) (kx : ∀ (y5 : Int32) (ν : la_Mem), ex = (y5, ν) → Φ 79 [(5, .int y5)] [] ν) : ∀ (n : Nat) (x5 : Int32) (x6 : Int32) (μ : la_Mem), fX8_takes_L14 x1 x3 x4 n x5 x6 μ = some ex → Φ 14 [(0, .ref (z.2.1 0)), (1, .int x1), (3, .int x3), (4, .int x4), (5, .int x5), (6, .int x6)] [] μ := by
  intro n
  induction n with
  | zero =>
    intro _ _ _ h
    cases h
  | succ n hrec =>
    intro x5 x6 μ h
    rw [fX8_takes_L14] at h
    refine la_iload C dX8_takes_14 5 rfl ?_
    refine la_iload C dX8_takes_16 3 rfl ?_
    refine la_icmp_ge C (tgt := 79) dX8_takes_18 (by decide) (fun hc => ?_) (fun hc => ?_)
    · replace h := la_t hc h
      refine la_sub C [4] rfl ?_
      exact kx _ _ (Option.some.inj h).symm
    · replace h := la_f hc h
      refine la_iload C dX8_takes_21 4 rfl ?_
      refine la_if_ne C (tgt := 79) dX8_takes_23 (by decide) (fun hc => ?_) (fun hc => ?_)
      · replace h := la_f hc h
        refine la_sub C [4] rfl ?_
        exact kx _ _ (Option.some.inj h).symm
      · replace h := la_t hc h
        refine la_aload_n C dX8_takes_26 0 rfl ?_
        refine GLMRX8_64 C dX8_takes_27 ?_
        refine la_iload C dX8_takes_30 5 rfl ?_
        refine la_aload_n C dX8_takes_32 0 rfl ?_
        refine GLMRX8_79 C dX8_takes_33 ?_
        refine la_bipush C (v := 40) dX8_takes_36 (by decide) ?_
        refine la_iload_n C dX8_takes_38 1 rfl ?_
        refine la_imul C dX8_takes_39 ?_
        refine la_iload_n C dX8_takes_40 2 rfl ?_
        refine la_iadd C dX8_takes_41 ?_
        refine la_iload C dX8_takes_42 5 rfl ?_
        refine la_iadd C dX8_takes_44 ?_
        obtain ⟨hi45, h⟩ := la_go h
        refine ALM24 C _ rfl hi45 dX8_takes_45 ?_
        obtain ⟨hi46, h⟩ := la_go h
        obtain ⟨μ46, eμ46, h⟩ := la_so h
        refine BLM19 C _ rfl hi46 eμ46 dX8_takes_46 ?_
        refine la_aload_n C dX8_takes_47 0 rfl ?_
        refine GLMRX8_64 C dX8_takes_48 ?_
        refine la_iload C dX8_takes_51 5 rfl ?_
        obtain ⟨hi53, h⟩ := la_go h
        refine ALM19 C _ rfl hi53 dX8_takes_53 ?_
        refine la_i2l C dX8_takes_54 ?_
        refine la_lconst C (v := 0) dX8_takes_55 (by decide) ?_
        refine la_ldc2 C (v := 12) wd_290 dX8_takes_56 ?_
        obtain ⟨r59, hr59, h⟩ := la_bd h
        refine KLMRX8_87 C [.long (Int32.toInt64 (μ46 19 (Int32.toNatClampNeg x6))), .long 0, .long 12] [] (mX8_in (Int32.toInt64 (μ46 19 (Int32.toNatClampNeg x6))) 0 12 μ46 r59 hr59) ⟨by decide, by decide⟩ rfl rfl (Nat.le_of_ble_eq_true rfl) dX8_takes_59 ?_
        refine la_if_eq C (tgt := 69) dX8_takes_62 (by decide) (fun hc => ?_) (fun hc => ?_)
        · replace h := la_t hc h
          refine la_bipush C (v := (-2)) dX8_takes_69 (by decide) ?_
          refine la_sub C [0, 1, 2, 3, 5] rfl ?_
          exact wX8_takes_J71 C (fX8_takes_L14 x1 x3 x4 n) _ _ _ _ _ _  _ hrec kx h
        · replace h := la_f hc h
          refine la_iconst C (v := 0) dX8_takes_65 (by decide) ?_
          refine la_goto C (tgt := 71) dX8_takes_66 (by decide) ?_
          refine la_sub C [0, 1, 2, 3, 5] rfl ?_
          exact wX8_takes_J71 C (fX8_takes_L14 x1 x3 x4 n) _ _ _ _ _ _  _ hrec kx h
def fX8_takes (x1 : Int32) (x2 : Int32) (x3 : Int32) (x4 : Int32) (μ : la_Mem) : Option (Int32 × la_Mem) :=
  (fX8_finds x1 x2 x3 x4 μ).bind (fun r6 => la_b2 (fX8_takes_L14 x1 x3 x4 400 r6 0 μ) (fun q14_5 ν14 => some (q14_5, ν14)))
set_option maxRecDepth 10000 in
theorem mX8_takes {z : LMz} {l : Launch} (x1 : Int32) (x2 : Int32) (x3 : Int32) (x4 : Int32) (μ : la_Mem) (r0 : Int32) (μ0 : la_Mem)  (h : fX8_takes x1 x2 x3 x4 μ = some (r0, μ0)) : la_M (LM z) l yX8_takes cX8_takes 7 (some .int) rmX8_takes [.ref (z.2.1 0), .int x1, .int x2, .int x3, .int x4] μ (fun r' μ' => r' = r0 ∧ μ' = μ0) := by
  refine la_of (own := RX8) (lv := [(0, .ref (z.2.1 0)), (1, .int x1), (2, .int x2), (3, .int x3), (4, .int x4)]) (by decide) rfl (Nat.le_of_ble_eq_true rfl) rfl (fun Φ C => ?_)
  unfold fX8_takes at h
  have hret : r0 = r0 ∧ μ0 = μ0 := ⟨rfl, rfl⟩
  refine la_aload_n C dX8_takes_0 0 rfl ?_
  refine la_iload_n C dX8_takes_1 1 rfl ?_
  refine la_iload_n C dX8_takes_2 2 rfl ?_
  refine la_iload_n C dX8_takes_3 3 rfl ?_
  refine la_iload C dX8_takes_4 4 rfl ?_
  obtain ⟨r6, hr6, h⟩ := la_bd h
  refine KLMRX8_107 C [.int x1, .int x2, .int x3, .int x4] [] (mX8_finds x1 x2 x3 x4 μ r6 hr6) ⟨by decide, by decide⟩ rfl rfl (Nat.le_of_ble_eq_true rfl) dX8_takes_6 ?_
  refine la_istore C dX8_takes_9 (by decide) rfl ?_
  refine la_iconst C (v := 0) dX8_takes_11 (by decide) ?_
  refine la_istore C dX8_takes_12 (by decide) rfl ?_
  obtain ⟨q14_5, ν14, hL14, h⟩ := la_b2o h
  refine la_sub C [2, 3, 5, 6, 1, 0] rfl ?_
  refine wX8_takes_L14 C _ _ _  _ (fun _ _ e => ?_) _ _ _ _ hL14
  cases e
  refine la_iload C dX8_takes_79 0 rfl ?_
  exact la_iret C rfl (la_rW (P := (fun r' μ' => r' = r0 ∧ μ' = μ0)) h hret) dX8_takes_81

def fX8_lays_L2 (x1 : Int32) (x2 : Int32) : Nat → Int32 → la_Mem → Option (la_Mem)
  | 0, _, _ => none
  | n + 1, x3, μ => if x1 ≤ x3 then (some μ) else (la_if (la_ix x3 24) ((fX8_reachOf (μ 19 (Int32.toNatClampNeg x3)) μ).bind (fun r22 => la_if (la_ix x3 24) (la_st (la_ms μ 20 (Int32.toNatClampNeg x3) ((x2 * x3) + r22)) (fun μ26 => (fX8_lays_L2 x1 x2 n) (x3 + 1) μ26)))))
set_option maxRecDepth 10000 in
theorem wX8_lays_L2 {z : LMz} {l : Launch} {Post : Int32 → la_Mem → Prop} {Φ : Nat → List (Nat × Value) → List Value → la_Mem → Prop} (C : la_C (LM z) l rmX8_lays RX8 cX8_lays 4 none Post Φ) (x1 : Int32) (x2 : Int32)  (ex : (la_Mem)) (kx : ∀  (ν : la_Mem), ex = ν → Φ 33 [] [] ν) : ∀ (n : Nat) (x3 : Int32) (μ : la_Mem), fX8_lays_L2 x1 x2 n x3 μ = some ex → Φ 2 [(0, .ref (z.2.1 0)), (1, .int x1), (2, .int x2), (3, .int x3)] [] μ := by
  intro n
  induction n with
  | zero =>
    intro _ _ h
    cases h
  | succ n hrec =>
    intro x3 μ h
    rw [fX8_lays_L2] at h
    refine la_iload_n C dX8_lays_2 3 rfl ?_
    refine la_iload_n C dX8_lays_3 1 rfl ?_
    refine la_icmp_ge C (tgt := 33) dX8_lays_4 (by decide) (fun hc => ?_) (fun hc => ?_)
    · replace h := la_t hc h
      refine la_sub C [] rfl ?_
      exact kx _ (Option.some.inj h).symm
    · replace h := la_f hc h
      refine la_aload_n C dX8_lays_7 0 rfl ?_
      refine GLMRX8_67 C dX8_lays_8 ?_
      refine la_iload_n C dX8_lays_11 3 rfl ?_
      refine la_iload_n C dX8_lays_12 2 rfl ?_
      refine la_iload_n C dX8_lays_13 3 rfl ?_
      refine la_imul C dX8_lays_14 ?_
      refine la_aload_n C dX8_lays_15 0 rfl ?_
      refine la_aload_n C dX8_lays_16 0 rfl ?_
      refine GLMRX8_64 C dX8_lays_17 ?_
      refine la_iload_n C dX8_lays_20 3 rfl ?_
      obtain ⟨hi21, h⟩ := la_go h
      refine ALM19 C _ rfl hi21 dX8_lays_21 ?_
      obtain ⟨r22, hr22, h⟩ := la_bd h
      refine KLMRX8_179 C [.int (μ 19 (Int32.toNatClampNeg x3))] [.int (x2 * x3), .int x3, .ref (z.2.1 20)] (mX8_reachOf (μ 19 (Int32.toNatClampNeg x3)) μ r22 hr22) ⟨by decide, by decide⟩ rfl rfl (Nat.le_of_ble_eq_true rfl) dX8_lays_22 ?_
      refine la_iadd C dX8_lays_25 ?_
      obtain ⟨hi26, h⟩ := la_go h
      obtain ⟨μ26, eμ26, h⟩ := la_so h
      refine BLM20 C _ rfl hi26 eμ26 dX8_lays_26 ?_
      refine la_iinc C (v := (x3 + 1)) dX8_lays_27 3 rfl rfl (by decide) rfl ?_
      refine la_goto C (tgt := 2) dX8_lays_30 (by decide) ?_
      refine la_sub C [1, 2, 3, 0] rfl ?_
      exact hrec _ _ h
def fX8_lays (x1 : Int32) (x2 : Int32) (μ : la_Mem) : Option la_Mem :=
  Option.bind (fX8_lays_L2 x1 x2 400 0 μ) (fun ν2 => some ν2)
set_option maxRecDepth 10000 in
theorem mX8_lays {z : LMz} {l : Launch} (x1 : Int32) (x2 : Int32) (μ : la_Mem) (μ0 : la_Mem)  (h : fX8_lays x1 x2 μ = some μ0) : la_M (LM z) l yX8_lays cX8_lays 4 none rmX8_lays [.ref (z.2.1 0), .int x1, .int x2] μ (fun _ μ' => μ' = μ0) := by
  refine la_of (own := RX8) (lv := [(0, .ref (z.2.1 0)), (1, .int x1), (2, .int x2)]) (by decide) rfl (Nat.le_of_ble_eq_true rfl) rfl (fun Φ C => ?_)
  unfold fX8_lays at h
  have hret : μ0 = μ0 := rfl
  refine la_iconst C (v := 0) dX8_lays_0 (by decide) ?_
  refine la_istore_n C dX8_lays_1 (by decide) rfl ?_
  obtain ⟨ν2, hL2, h⟩ := la_bd h
  refine la_sub C [1, 2, 3, 0] rfl ?_
  refine wX8_lays_L2 C _ _  _ (fun _ e => ?_) _ _ _ hL2
  cases e
  exact la_vret C (la_rV (P := (fun _ μ' => μ' = μ0)) h hret) dX8_lays_33

def fX8_isRow (x0 : Int32) (x1 : Int32) (x2 : Int32) (x3 : Int32) (μ : la_Mem) : Option Int32 :=
  (fX8_isSheet x0 μ).bind (fun r1 => if r1 = 0 then (some 0) else ((fX8_isLane x1 μ).bind (fun r8 => if r8 = 0 then (some 0) else ((fX8_in (Int32.toInt64 x2) 1 24 μ).bind (fun r20 => if r20 = 0 then (some 0) else ((fX8_in (Int32.toInt64 x3) 1 30 μ).bind (fun r32 => if r32 = 0 then (some 0) else (some 1))))))))
set_option maxRecDepth 10000 in
theorem mX8_isRow {z : LMz} {l : Launch} (x0 : Int32) (x1 : Int32) (x2 : Int32) (x3 : Int32) (μ : la_Mem) (r0 : Int32)  (h : fX8_isRow x0 x1 x2 x3 μ = some r0) : la_M (LM z) l yX8_isRow cX8_isRow 4 (some .boolean) rmX8_isRow [.int x0, .int x1, .int x2, .int x3] μ (fun r' μ' => r' = r0 ∧ μ' = μ) := by
  refine la_of (own := RX8) (lv := [(0, .int x0), (1, .int x1), (2, .int x2), (3, .int x3)]) (by decide) rfl (Nat.le_of_ble_eq_true rfl) rfl (fun Φ C => ?_)
  unfold fX8_isRow at h
  have hret : r0 = r0 ∧ μ = μ := ⟨rfl, rfl⟩
  refine la_iload_n C dX8_isRow_0 0 rfl ?_
  obtain ⟨r1, hr1, h⟩ := la_bd h
  refine KLMRX8_101 C [.int x0] [] (mX8_isSheet x0 μ r1 hr1) ⟨by decide, by decide⟩ rfl rfl (Nat.le_of_ble_eq_true rfl) dX8_isRow_1 ?_
  refine la_if_eq C (tgt := 42) dX8_isRow_4 (by decide) (fun hc => ?_) (fun hc => ?_)
  · replace h := la_t hc h
    refine la_iconst C (v := 0) dX8_isRow_42 (by decide) ?_
    exact la_iret C rfl (la_rR (P := (fun r' μ' => r' = r0 ∧ μ' = μ)) h hret) dX8_isRow_43
  · replace h := la_f hc h
    refine la_iload_n C dX8_isRow_7 1 rfl ?_
    obtain ⟨r8, hr8, h⟩ := la_bd h
    refine KLMRX8_104 C [.int x1] [] (mX8_isLane x1 μ r8 hr8) ⟨by decide, by decide⟩ rfl rfl (Nat.le_of_ble_eq_true rfl) dX8_isRow_8 ?_
    refine la_if_eq C (tgt := 42) dX8_isRow_11 (by decide) (fun hc => ?_) (fun hc => ?_)
    · replace h := la_t hc h
      refine la_iconst C (v := 0) dX8_isRow_42 (by decide) ?_
      exact la_iret C rfl (la_rR (P := (fun r' μ' => r' = r0 ∧ μ' = μ)) h hret) dX8_isRow_43
    · replace h := la_f hc h
      refine la_iload_n C dX8_isRow_14 2 rfl ?_
      refine la_i2l C dX8_isRow_15 ?_
      refine la_lconst C (v := 1) dX8_isRow_16 (by decide) ?_
      refine la_ldc2 C (v := 24) wd_594 dX8_isRow_17 ?_
      obtain ⟨r20, hr20, h⟩ := la_bd h
      refine KLMRX8_87 C [.long (Int32.toInt64 x2), .long 1, .long 24] [] (mX8_in (Int32.toInt64 x2) 1 24 μ r20 hr20) ⟨by decide, by decide⟩ rfl rfl (Nat.le_of_ble_eq_true rfl) dX8_isRow_20 ?_
      refine la_if_eq C (tgt := 42) dX8_isRow_23 (by decide) (fun hc => ?_) (fun hc => ?_)
      · replace h := la_t hc h
        refine la_iconst C (v := 0) dX8_isRow_42 (by decide) ?_
        exact la_iret C rfl (la_rR (P := (fun r' μ' => r' = r0 ∧ μ' = μ)) h hret) dX8_isRow_43
      · replace h := la_f hc h
        refine la_iload_n C dX8_isRow_26 3 rfl ?_
        refine la_i2l C dX8_isRow_27 ?_
        refine la_lconst C (v := 1) dX8_isRow_28 (by decide) ?_
        refine la_ldc2 C (v := 30) wd_595 dX8_isRow_29 ?_
        obtain ⟨r32, hr32, h⟩ := la_bd h
        refine KLMRX8_87 C [.long (Int32.toInt64 x3), .long 1, .long 30] [] (mX8_in (Int32.toInt64 x3) 1 30 μ r32 hr32) ⟨by decide, by decide⟩ rfl rfl (Nat.le_of_ble_eq_true rfl) dX8_isRow_32 ?_
        refine la_if_eq C (tgt := 42) dX8_isRow_35 (by decide) (fun hc => ?_) (fun hc => ?_)
        · replace h := la_t hc h
          refine la_iconst C (v := 0) dX8_isRow_42 (by decide) ?_
          exact la_iret C rfl (la_rR (P := (fun r' μ' => r' = r0 ∧ μ' = μ)) h hret) dX8_isRow_43
        · replace h := la_f hc h
          refine la_iconst C (v := 1) dX8_isRow_38 (by decide) ?_
          refine la_goto C (tgt := 43) dX8_isRow_39 (by decide) ?_
          exact la_iret C rfl (la_rR (P := (fun r' μ' => r' = r0 ∧ μ' = μ)) h hret) dX8_isRow_43

def fX8_comes_J131 (rec : Int32 → Int32 → Option (Int32)) (x4 : Int32) (x6 : Int32) (x8 : Int32) (x9 : Int32) (x11 : Int32) (s0 : Int32) (s1 : Int32) (μ : la_Mem) : Option (Int32) :=
  la_st ((s1 + s0)) (fun v132 => rec v132 (x11 + 1))
set_option maxRecDepth 10000 in
theorem wX8_comes_J131 {z : LMz} {l : Launch} {Post : Int32 → la_Mem → Prop} {Φ : Nat → List (Nat × Value) → List Value → la_Mem → Prop} (C : la_C (LM z) l rmX8_comes RX8 cX8_comes 12 (some .int) Post Φ) (rec : Int32 → Int32 → Option (Int32)) (x4 : Int32) (x6 : Int32) (x8 : Int32) (x9 : Int32) (x11 : Int32) (s0 : Int32) (s1 : Int32) (μ : la_Mem)  (ex : (Int32)) (hrec : ∀ (y10 : Int32) (y11 : Int32), rec y10 y11 = some ex → Φ 76 [(0, .ref (z.2.1 0)), (4, .int x4), (6, .int x6), (8, .int x8), (9, .int x9), (10, .int y10), (11, .int y11)] [] μ) (kx : ∀ (y10 : Int32), ex = y10 → Φ 140 [(0, .ref (z.2.1 0)), (4, .int x4), (6, .int x6), (8, .int x8), (9, .int x9), (10, .int y10)] [] μ) (h : fX8_comes_J131 rec x4 x6 x8 x9 x11 s0 s1 μ = some ex) : Φ 131 [(0, .ref (z.2.1 0)), (4, .int x4), (6, .int x6), (8, .int x8), (9, .int x9), (11, .int x11)] [.int s0, .int s1] μ := by
  unfold fX8_comes_J131 at h
  refine la_iadd C dX8_comes_131 ?_
  obtain ⟨v132, ev132, h⟩ := la_so h
  refine la_nm C ev132 ?_
  refine la_istore C dX8_comes_132 (by decide) rfl ?_
  refine la_iinc C (v := (x11 + 1)) dX8_comes_134 6 rfl rfl (by decide) rfl ?_
  refine la_goto C (tgt := 76) dX8_comes_137 (by decide) ?_
  refine la_sub C [2, 3, 4, 5, 6, 1, 0] rfl ?_
  exact hrec _ _ h
def fX8_comes_J126 (rec : Int32 → Int32 → Option (Int32)) (x4 : Int32) (x6 : Int32) (x8 : Int32) (x9 : Int32) (x11 : Int32) (s0 : Int32) (μ : la_Mem) : Option (Int32) :=
  fX8_comes_J131 rec x4 x6 x8 x9 x11 1 s0 μ
set_option maxRecDepth 10000 in
theorem wX8_comes_J126 {z : LMz} {l : Launch} {Post : Int32 → la_Mem → Prop} {Φ : Nat → List (Nat × Value) → List Value → la_Mem → Prop} (C : la_C (LM z) l rmX8_comes RX8 cX8_comes 12 (some .int) Post Φ) (rec : Int32 → Int32 → Option (Int32)) (x4 : Int32) (x6 : Int32) (x8 : Int32) (x9 : Int32) (x11 : Int32) (s0 : Int32) (μ : la_Mem)  (ex : (Int32)) (hrec : ∀ (y10 : Int32) (y11 : Int32), rec y10 y11 = some ex → Φ 76 [(0, .ref (z.2.1 0)), (4, .int x4), (6, .int x6), (8, .int x8), (9, .int x9), (10, .int y10), (11, .int y11)] [] μ) (kx : ∀ (y10 : Int32), ex = y10 → Φ 140 [(0, .ref (z.2.1 0)), (4, .int x4), (6, .int x6), (8, .int x8), (9, .int x9), (10, .int y10)] [] μ) (h : fX8_comes_J126 rec x4 x6 x8 x9 x11 s0 μ = some ex) : Φ 126 [(0, .ref (z.2.1 0)), (4, .int x4), (6, .int x6), (8, .int x8), (9, .int x9), (11, .int x11)] [.int s0] μ := by
  unfold fX8_comes_J126 at h
  refine la_iconst C (v := 1) dX8_comes_126 (by decide) ?_
  refine la_goto C (tgt := 131) dX8_comes_127 (by decide) ?_
  refine la_sub C [0, 1, 2, 3, 4, 5] rfl ?_
  exact wX8_comes_J131 C rec _ _ _ _ _ _ _ _  _ hrec kx h
def fX8_comes_J130 (rec : Int32 → Int32 → Option (Int32)) (x4 : Int32) (x6 : Int32) (x8 : Int32) (x9 : Int32) (x11 : Int32) (s0 : Int32) (μ : la_Mem) : Option (Int32) :=
  fX8_comes_J131 rec x4 x6 x8 x9 x11 0 s0 μ
set_option maxRecDepth 10000 in
theorem wX8_comes_J130 {z : LMz} {l : Launch} {Post : Int32 → la_Mem → Prop} {Φ : Nat → List (Nat × Value) → List Value → la_Mem → Prop} (C : la_C (LM z) l rmX8_comes RX8 cX8_comes 12 (some .int) Post Φ) (rec : Int32 → Int32 → Option (Int32)) (x4 : Int32) (x6 : Int32) (x8 : Int32) (x9 : Int32) (x11 : Int32) (s0 : Int32) (μ : la_Mem)  (ex : (Int32)) (hrec : ∀ (y10 : Int32) (y11 : Int32), rec y10 y11 = some ex → Φ 76 [(0, .ref (z.2.1 0)), (4, .int x4), (6, .int x6), (8, .int x8), (9, .int x9), (10, .int y10), (11, .int y11)] [] μ) (kx : ∀ (y10 : Int32), ex = y10 → Φ 140 [(0, .ref (z.2.1 0)), (4, .int x4), (6, .int x6), (8, .int x8), (9, .int x9), (10, .int y10)] [] μ) (h : fX8_comes_J130 rec x4 x6 x8 x9 x11 s0 μ = some ex) : Φ 130 [(0, .ref (z.2.1 0)), (4, .int x4), (6, .int x6), (8, .int x8), (9, .int x9), (11, .int x11)] [.int s0] μ := by
  unfold fX8_comes_J130 at h
  refine la_iconst C (v := 0) dX8_comes_130 (by decide) ?_
  refine la_sub C [0, 1, 2, 3, 4, 5] rfl ?_
  exact wX8_comes_J131 C rec _ _ _ _ _ _ _ _  _ hrec kx h
def fX8_comes_L76 (x4 : Int32) (x6 : Int32) (x8 : Int32) (x9 : Int32) (μ : la_Mem) : Nat → Int32 → Int32 → Option (Int32)
  | 0, _, _ => none
  | n + 1, x10, x11 => if x4 ≤ x11 then (some x10) else (la_if (la_ix x11 24) (la_if (la_ix x9 24) (if (μ 20 (Int32.toNatClampNeg x11)) < (μ 20 (Int32.toNatClampNeg x9)) then (fX8_comes_J126 (fX8_comes_L76 x4 x6 x8 x9 μ n) x4 x6 x8 x9 x11 x10 μ) else (la_if (la_ix x11 24) (la_if (la_ix x9 24) (if (μ 20 (Int32.toNatClampNeg x11)) = (μ 20 (Int32.toNatClampNeg x9)) then (if x9 ≤ x11 then (fX8_comes_J130 (fX8_comes_L76 x4 x6 x8 x9 μ n) x4 x6 x8 x9 x11 x10 μ) else (fX8_comes_J126 (fX8_comes_L76 x4 x6 x8 x9 μ n) x4 x6 x8 x9 x11 x10 μ)) else (fX8_comes_J130 (fX8_comes_L76 x4 x6 x8 x9 μ n) x4 x6 x8 x9 x11 x10 μ)))))))
set_option maxRecDepth 10000 in
theorem wX8_comes_L76 {z : LMz} {l : Launch} {Post : Int32 → la_Mem → Prop} {Φ : Nat → List (Nat × Value) → List Value → la_Mem → Prop} (C : la_C (LM z) l rmX8_comes RX8 cX8_comes 12 (some .int) Post Φ) (x4 : Int32) (x6 : Int32) (x8 : Int32) (x9 : Int32) (μ : la_Mem)  (ex : (Int32)) (kx : ∀ (y10 : Int32), ex = y10 → Φ 140 [(0, .ref (z.2.1 0)), (4, .int x4), (6, .int x6), (8, .int x8), (9, .int x9), (10, .int y10)] [] μ) : ∀ (n : Nat) (x10 : Int32) (x11 : Int32), fX8_comes_L76 x4 x6 x8 x9 μ n x10 x11 = some ex → Φ 76 [(0, .ref (z.2.1 0)), (4, .int x4), (6, .int x6), (8, .int x8), (9, .int x9), (10, .int x10), (11, .int x11)] [] μ := by
  intro n
  induction n with
  | zero =>
    intro _ _ h
    cases h
  | succ n hrec =>
    intro x10 x11 h
    rw [fX8_comes_L76] at h
    refine la_iload C dX8_comes_76 6 rfl ?_
    refine la_iload C dX8_comes_78 1 rfl ?_
    refine la_icmp_ge C (tgt := 140) dX8_comes_80 (by decide) (fun hc => ?_) (fun hc => ?_)
    · replace h := la_t hc h
      refine la_sub C [0, 1, 2, 3, 4, 5] rfl ?_
      exact kx _ (Option.some.inj h).symm
    · replace h := la_f hc h
      refine la_iload C dX8_comes_83 5 rfl ?_
      refine la_aload_n C dX8_comes_85 0 rfl ?_
      refine GLMRX8_67 C dX8_comes_86 ?_
      refine la_iload C dX8_comes_89 6 rfl ?_
      obtain ⟨hi91, h⟩ := la_go h
      refine ALM20 C _ rfl hi91 dX8_comes_91 ?_
      refine la_aload_n C dX8_comes_92 0 rfl ?_
      refine GLMRX8_67 C dX8_comes_93 ?_
      refine la_iload C dX8_comes_96 4 rfl ?_
      obtain ⟨hi98, h⟩ := la_go h
      refine ALM20 C _ rfl hi98 dX8_comes_98 ?_
      refine la_icmp_lt C (tgt := 126) dX8_comes_99 (by decide) (fun hc => ?_) (fun hc => ?_)
      · replace h := la_t hc h
        refine la_sub C [0, 1, 2, 3, 4, 6] rfl ?_
        exact wX8_comes_J126 C (fX8_comes_L76 x4 x6 x8 x9 μ n) _ _ _ _ _ _ _  _ hrec kx h
      · replace h := la_f hc h
        refine la_aload_n C dX8_comes_102 0 rfl ?_
        refine GLMRX8_67 C dX8_comes_103 ?_
        refine la_iload C dX8_comes_106 6 rfl ?_
        obtain ⟨hi108, h⟩ := la_go h
        refine ALM20 C _ rfl hi108 dX8_comes_108 ?_
        refine la_aload_n C dX8_comes_109 0 rfl ?_
        refine GLMRX8_67 C dX8_comes_110 ?_
        refine la_iload C dX8_comes_113 4 rfl ?_
        obtain ⟨hi115, h⟩ := la_go h
        refine ALM20 C _ rfl hi115 dX8_comes_115 ?_
        refine la_icmp_ne C (tgt := 130) dX8_comes_116 (by decide) (fun hc => ?_) (fun hc => ?_)
        · replace h := la_f hc h
          refine la_sub C [0, 1, 2, 3, 4, 6] rfl ?_
          exact wX8_comes_J130 C (fX8_comes_L76 x4 x6 x8 x9 μ n) _ _ _ _ _ _ _  _ hrec kx h
        · replace h := la_t hc h
          refine la_iload C dX8_comes_119 6 rfl ?_
          refine la_iload C dX8_comes_121 4 rfl ?_
          refine la_icmp_ge C (tgt := 130) dX8_comes_123 (by decide) (fun hc => ?_) (fun hc => ?_)
          · replace h := la_t hc h
            refine la_sub C [0, 1, 2, 3, 4, 6] rfl ?_
            exact wX8_comes_J130 C (fX8_comes_L76 x4 x6 x8 x9 μ n) _ _ _ _ _ _ _  _ hrec kx h
          · replace h := la_f hc h
            refine la_sub C [0, 1, 2, 3, 4, 6] rfl ?_
            exact wX8_comes_J126 C (fX8_comes_L76 x4 x6 x8 x9 μ n) _ _ _ _ _ _ _  _ hrec kx h
def fX8_comes_J154 (rec : Int32 → Int32 → Option (Int32)) (x4 : Int32) (x6 : Int32) (x9 : Int32) (s0 : Int32) (μ : la_Mem) : Option (Int32) :=
  rec s0 (x9 + 1)
set_option maxRecDepth 10000 in
theorem wX8_comes_J154 {z : LMz} {l : Launch} {Post : Int32 → la_Mem → Prop} {Φ : Nat → List (Nat × Value) → List Value → la_Mem → Prop} (C : la_C (LM z) l rmX8_comes RX8 cX8_comes 12 (some .int) Post Φ) (rec : Int32 → Int32 → Option (Int32)) (x4 : Int32) (x6 : Int32) (x9 : Int32) (s0 : Int32) (μ : la_Mem)  (ex : (Int32)) (hrec : ∀ (y8 : Int32) (y9 : Int32), rec y8 y9 = some ex → Φ 63 [(0, .ref (z.2.1 0)), (4, .int x4), (6, .int x6), (8, .int y8), (9, .int y9)] [] μ) (kx : ∀ (y8 : Int32), ex = y8 → Φ 162 [(8, .int y8)] [] μ) (h : fX8_comes_J154 rec x4 x6 x9 s0 μ = some ex) : Φ 154 [(0, .ref (z.2.1 0)), (4, .int x4), (6, .int x6), (9, .int x9)] [.int s0] μ := by
  unfold fX8_comes_J154 at h
  refine la_istore C dX8_comes_154 (by decide) rfl ?_
  refine la_iinc C (v := (x9 + 1)) dX8_comes_156 4 rfl rfl (by decide) rfl ?_
  refine la_goto C (tgt := 63) dX8_comes_159 (by decide) ?_
  refine la_sub C [2, 3, 4, 1, 0] rfl ?_
  exact hrec _ _ h
def fX8_comes_L63 (x4 : Int32) (x6 : Int32) (μ : la_Mem) : Nat → Int32 → Int32 → Option (Int32)
  | 0, _, _ => none
  | n + 1, x8, x9 => if x4 ≤ x9 then (some x8) else (Option.bind (fX8_comes_L76 x4 x6 x8 x9 μ 400 0 0) (fun q76_10 => if q76_10 = x6 then (fX8_comes_J154 (fX8_comes_L63 x4 x6 μ n) x4 x6 x9 x9 μ) else (fX8_comes_J154 (fX8_comes_L63 x4 x6 μ n) x4 x6 x9 x8 μ)))
set_option maxRecDepth 10000 in
theorem wX8_comes_L63 {z : LMz} {l : Launch} {Post : Int32 → la_Mem → Prop} {Φ : Nat → List (Nat × Value) → List Value → la_Mem → Prop} (C : la_C (LM z) l rmX8_comes RX8 cX8_comes 12 (some .int) Post Φ) (x4 : Int32) (x6 : Int32) (μ : la_Mem)  (ex : (Int32)) (kx : ∀ (y8 : Int32), ex = y8 → Φ 162 [(8, .int y8)] [] μ) : ∀ (n : Nat) (x8 : Int32) (x9 : Int32), fX8_comes_L63 x4 x6 μ n x8 x9 = some ex → Φ 63 [(0, .ref (z.2.1 0)), (4, .int x4), (6, .int x6), (8, .int x8), (9, .int x9)] [] μ := by
  intro n
  induction n with
  | zero =>
    intro _ _ h
    cases h
  | succ n hrec =>
    intro x8 x9 h
    rw [fX8_comes_L63] at h
    refine la_iload C dX8_comes_63 4 rfl ?_
    refine la_iload C dX8_comes_65 1 rfl ?_
    refine la_icmp_ge C (tgt := 162) dX8_comes_67 (by decide) (fun hc => ?_) (fun hc => ?_)
    · replace h := la_t hc h
      refine la_sub C [3] rfl ?_
      exact kx _ (Option.some.inj h).symm
    · replace h := la_f hc h
      refine la_iconst C (v := 0) dX8_comes_70 (by decide) ?_
      refine la_istore C dX8_comes_71 (by decide) rfl ?_
      refine la_iconst C (v := 0) dX8_comes_73 (by decide) ?_
      refine la_istore C dX8_comes_74 (by decide) rfl ?_
      obtain ⟨q76_10, hL76, h⟩ := la_bd h
      refine la_sub C [2, 3, 4, 5, 6, 1, 0] rfl ?_
      refine wX8_comes_L76 C _ _ _ _ _  _ (fun _ e => ?_) _ _ _ hL76
      cases e
      refine la_iload C dX8_comes_140 5 rfl ?_
      refine la_iload C dX8_comes_142 2 rfl ?_
      refine la_icmp_ne C (tgt := 152) dX8_comes_144 (by decide) (fun hc => ?_) (fun hc => ?_)
      · replace h := la_f hc h
        refine la_iload C dX8_comes_152 3 rfl ?_
        refine la_sub C [0, 1, 2, 4] rfl ?_
        exact wX8_comes_J154 C (fX8_comes_L63 x4 x6 μ n) _ _ _ _ _  _ hrec kx h
      · replace h := la_t hc h
        refine la_iload C dX8_comes_147 4 rfl ?_
        refine la_goto C (tgt := 154) dX8_comes_149 (by decide) ?_
        refine la_sub C [0, 1, 2, 4] rfl ?_
        exact wX8_comes_J154 C (fX8_comes_L63 x4 x6 μ n) _ _ _ _ _  _ hrec kx h
def fX8_comes (x1 : Int32) (x2 : Int32) (x3 : Int32) (x4 : Int32) (x5 : Int32) (x6 : Int32) (μ : la_Mem) : Option (Int32 × la_Mem) :=
  (fX8_isRow x1 x2 x4 x5 μ).bind (fun r6 => if r6 = 0 then (some ((-1), μ)) else ((fX8_in (Int32.toInt64 x6) 0 (Int32.toInt64 (x4 - 1)) μ).bind (fun r21 => if r21 = 0 then (some ((-1), μ)) else (la_b2 (fX8_takes x1 x2 x3 x4 μ) (fun r35 μ35 => if 0 ≤ r35 then ((fX8_lays x4 x5 μ35).bind (fun μ53 => Option.bind (fX8_comes_L63 x4 x6 μ53 400 (-4) 0) (fun q63_8 => some (q63_8, μ53)))) else (some (r35, μ35)))))))
set_option maxRecDepth 10000 in
theorem mX8_comes {z : LMz} {l : Launch} (x1 : Int32) (x2 : Int32) (x3 : Int32) (x4 : Int32) (x5 : Int32) (x6 : Int32) (μ : la_Mem) (r0 : Int32) (μ0 : la_Mem)  (h : fX8_comes x1 x2 x3 x4 x5 x6 μ = some (r0, μ0)) : la_M (LM z) l yX8_comes cX8_comes 12 (some .int) rmX8_comes [.ref (z.2.1 0), .int x1, .int x2, .int x3, .int x4, .int x5, .int x6] μ (fun r' μ' => r' = r0 ∧ μ' = μ0) := by
  refine la_of (own := RX8) (lv := [(0, .ref (z.2.1 0)), (1, .int x1), (2, .int x2), (3, .int x3), (4, .int x4), (5, .int x5), (6, .int x6)]) (by decide) rfl (Nat.le_of_ble_eq_true rfl) rfl (fun Φ C => ?_)
  unfold fX8_comes at h
  have hret : r0 = r0 ∧ μ0 = μ0 := ⟨rfl, rfl⟩
  refine la_iload_n C dX8_comes_0 1 rfl ?_
  refine la_iload_n C dX8_comes_1 2 rfl ?_
  refine la_iload C dX8_comes_2 4 rfl ?_
  refine la_iload C dX8_comes_4 5 rfl ?_
  obtain ⟨r6, hr6, h⟩ := la_bd h
  refine KLMRX8_186 C [.int x1, .int x2, .int x4, .int x5] [] (mX8_isRow x1 x2 x4 x5 μ r6 hr6) ⟨by decide, by decide⟩ rfl rfl (Nat.le_of_ble_eq_true rfl) dX8_comes_6 ?_
  refine la_if_eq C (tgt := 27) dX8_comes_9 (by decide) (fun hc => ?_) (fun hc => ?_)
  · replace h := la_t hc h
    refine la_iconst C (v := (-1)) dX8_comes_27 (by decide) ?_
    exact la_iret C rfl (la_rW (P := (fun r' μ' => r' = r0 ∧ μ' = μ0)) h hret) dX8_comes_28
  · replace h := la_f hc h
    refine la_iload C dX8_comes_12 6 rfl ?_
    refine la_i2l C dX8_comes_14 ?_
    refine la_lconst C (v := 0) dX8_comes_15 (by decide) ?_
    refine la_iload C dX8_comes_16 4 rfl ?_
    refine la_iconst C (v := 1) dX8_comes_18 (by decide) ?_
    refine la_isub C dX8_comes_19 ?_
    refine la_i2l C dX8_comes_20 ?_
    obtain ⟨r21, hr21, h⟩ := la_bd h
    refine KLMRX8_87 C [.long (Int32.toInt64 x6), .long 0, .long (Int32.toInt64 (x4 - 1))] [] (mX8_in (Int32.toInt64 x6) 0 (Int32.toInt64 (x4 - 1)) μ r21 hr21) ⟨by decide, by decide⟩ rfl rfl (Nat.le_of_ble_eq_true rfl) dX8_comes_21 ?_
    refine la_if_ne C (tgt := 29) dX8_comes_24 (by decide) (fun hc => ?_) (fun hc => ?_)
    · replace h := la_f hc h
      refine la_aload_n C dX8_comes_29 0 rfl ?_
      refine la_iload_n C dX8_comes_30 1 rfl ?_
      refine la_iload_n C dX8_comes_31 2 rfl ?_
      refine la_iload_n C dX8_comes_32 3 rfl ?_
      refine la_iload C dX8_comes_33 4 rfl ?_
      obtain ⟨r35, μ35, hr35, h⟩ := la_b2o h
      refine KLMRX8_190 C [.int x1, .int x2, .int x3, .int x4] [] (mX8_takes x1 x2 x3 x4 μ r35 μ35 hr35) ⟨by decide, by decide⟩ rfl rfl (Nat.le_of_ble_eq_true rfl) dX8_comes_35 ?_
      refine la_istore C dX8_comes_38 (by decide) rfl ?_
      refine la_iload C dX8_comes_40 0 rfl ?_
      refine la_if_ge C (tgt := 48) dX8_comes_42 (by decide) (fun hc => ?_) (fun hc => ?_)
      · replace h := la_t hc h
        refine la_aload_n C dX8_comes_48 1 rfl ?_
        refine la_iload C dX8_comes_49 5 rfl ?_
        refine la_iload C dX8_comes_51 6 rfl ?_
        obtain ⟨μ53, hr53, h⟩ := la_bd h
        refine KLMRX8_193 C [.int x4, .int x5] [] (mX8_lays x4 x5 μ35 μ53 hr53) ⟨by decide, by decide⟩ rfl rfl (Nat.le_of_ble_eq_true rfl) dX8_comes_53 ?_
        refine la_bipush C (v := (-4)) dX8_comes_56 (by decide) ?_
        refine la_istore C dX8_comes_58 (by decide) rfl ?_
        refine la_iconst C (v := 0) dX8_comes_60 (by decide) ?_
        refine la_istore C dX8_comes_61 (by decide) rfl ?_
        obtain ⟨q63_8, hL63, h⟩ := la_bd h
        refine la_sub C [3, 7, 9, 1, 0] rfl ?_
        refine wX8_comes_L63 C _ _ _  _ (fun _ e => ?_) _ _ _ hL63
        cases e
        refine la_iload C dX8_comes_162 0 rfl ?_
        exact la_iret C rfl (la_rW (P := (fun r' μ' => r' = r0 ∧ μ' = μ0)) h hret) dX8_comes_164
      · replace h := la_f hc h
        refine la_iload C dX8_comes_45 0 rfl ?_
        exact la_iret C rfl (la_rW (P := (fun r' μ' => r' = r0 ∧ μ' = μ0)) h hret) dX8_comes_47
    · replace h := la_t hc h
      refine la_iconst C (v := (-1)) dX8_comes_27 (by decide) ?_
      exact la_iret C rfl (la_rW (P := (fun r' μ' => r' = r0 ∧ μ' = μ0)) h hret) dX8_comes_28

def fX8_turnedBy_J52 (rec : Int32 → Int32 → Option (Int32)) (x1 : Int32) (x4 : Int32) (x5 : Int32) (s0 : Int32) (s1 : Int32) (μ : la_Mem) : Option (Int32) :=
  la_st ((s1 + s0)) (fun v53 => rec v53 (x5 + 1))
set_option maxRecDepth 10000 in
theorem wX8_turnedBy_J52 {z : LMz} {l : Launch} {Post : Int32 → la_Mem → Prop} {Φ : Nat → List (Nat × Value) → List Value → la_Mem → Prop} (C : la_C (LM z) l rmX8_turnedBy RX8 cX8_turnedBy 6 (some .int) Post Φ) (rec : Int32 → Int32 → Option (Int32)) (x1 : Int32) (x4 : Int32) (x5 : Int32) (s0 : Int32) (s1 : Int32) (μ : la_Mem)  (ex : (Int32)) (hrec : ∀ (y3 : Int32) (y5 : Int32), rec y3 y5 = some ex → Φ 23 [(0, .ref (z.2.1 0)), (1, .int x1), (3, .int y3), (4, .int x4), (5, .int y5)] [] μ) (kx : ∀ (y3 : Int32), ex = y3 → Φ 60 [(0, .ref (z.2.1 0)), (1, .int x1), (3, .int y3), (4, .int x4)] [] μ) (h : fX8_turnedBy_J52 rec x1 x4 x5 s0 s1 μ = some ex) : Φ 52 [(0, .ref (z.2.1 0)), (1, .int x1), (4, .int x4), (5, .int x5)] [.int s0, .int s1] μ := by
  unfold fX8_turnedBy_J52 at h
  refine la_iadd C dX8_turnedBy_52 ?_
  obtain ⟨v53, ev53, h⟩ := la_so h
  refine la_nm C ev53 ?_
  refine la_istore_n C dX8_turnedBy_53 (by decide) rfl ?_
  refine la_iinc C (v := (x5 + 1)) dX8_turnedBy_54 4 rfl rfl (by decide) rfl ?_
  refine la_goto C (tgt := 23) dX8_turnedBy_57 (by decide) ?_
  refine la_sub C [2, 3, 1, 4, 0] rfl ?_
  exact hrec _ _ h
def fX8_turnedBy_L23 (x1 : Int32) (x4 : Int32) (μ : la_Mem) : Nat → Int32 → Int32 → Option (Int32)
  | 0, _, _ => none
  | n + 1, x3, x5 => if x1 ≤ x5 then (some x3) else (la_if (la_ix x5 24) (la_if (la_ix x4 24) (if (μ 20 (Int32.toNatClampNeg x4)) ≤ (μ 20 (Int32.toNatClampNeg x5)) then (fX8_turnedBy_J52 (fX8_turnedBy_L23 x1 x4 μ n) x1 x4 x5 0 x3 μ) else (fX8_turnedBy_J52 (fX8_turnedBy_L23 x1 x4 μ n) x1 x4 x5 1 x3 μ))))
set_option maxRecDepth 10000 in
theorem wX8_turnedBy_L23 {z : LMz} {l : Launch} {Post : Int32 → la_Mem → Prop} {Φ : Nat → List (Nat × Value) → List Value → la_Mem → Prop} (C : la_C (LM z) l rmX8_turnedBy RX8 cX8_turnedBy 6 (some .int) Post Φ) (x1 : Int32) (x4 : Int32) (μ : la_Mem)  (ex : (Int32)) (kx : ∀ (y3 : Int32), ex = y3 → Φ 60 [(0, .ref (z.2.1 0)), (1, .int x1), (3, .int y3), (4, .int x4)] [] μ) : ∀ (n : Nat) (x3 : Int32) (x5 : Int32), fX8_turnedBy_L23 x1 x4 μ n x3 x5 = some ex → Φ 23 [(0, .ref (z.2.1 0)), (1, .int x1), (3, .int x3), (4, .int x4), (5, .int x5)] [] μ := by
  intro n
  induction n with
  | zero =>
    intro _ _ h
    cases h
  | succ n hrec =>
    intro x3 x5 h
    rw [fX8_turnedBy_L23] at h
    refine la_iload C dX8_turnedBy_23 4 rfl ?_
    refine la_iload_n C dX8_turnedBy_25 1 rfl ?_
    refine la_icmp_ge C (tgt := 60) dX8_turnedBy_26 (by decide) (fun hc => ?_) (fun hc => ?_)
    · replace h := la_t hc h
      refine la_sub C [0, 1, 2, 3] rfl ?_
      exact kx _ (Option.some.inj h).symm
    · replace h := la_f hc h
      refine la_iload_n C dX8_turnedBy_29 2 rfl ?_
      refine la_aload_n C dX8_turnedBy_30 0 rfl ?_
      refine GLMRX8_67 C dX8_turnedBy_31 ?_
      refine la_iload C dX8_turnedBy_34 4 rfl ?_
      obtain ⟨hi36, h⟩ := la_go h
      refine ALM20 C _ rfl hi36 dX8_turnedBy_36 ?_
      refine la_aload_n C dX8_turnedBy_37 0 rfl ?_
      refine GLMRX8_67 C dX8_turnedBy_38 ?_
      refine la_iload C dX8_turnedBy_41 3 rfl ?_
      obtain ⟨hi43, h⟩ := la_go h
      refine ALM20 C _ rfl hi43 dX8_turnedBy_43 ?_
      refine la_icmp_ge C (tgt := 51) dX8_turnedBy_44 (by decide) (fun hc => ?_) (fun hc => ?_)
      · replace h := la_t hc h
        refine la_iconst C (v := 0) dX8_turnedBy_51 (by decide) ?_
        refine la_sub C [0, 1, 3, 4] rfl ?_
        exact wX8_turnedBy_J52 C (fX8_turnedBy_L23 x1 x4 μ n) _ _ _ _ _ _  _ hrec kx h
      · replace h := la_f hc h
        refine la_iconst C (v := 1) dX8_turnedBy_47 (by decide) ?_
        refine la_goto C (tgt := 52) dX8_turnedBy_48 (by decide) ?_
        refine la_sub C [0, 1, 3, 4] rfl ?_
        exact wX8_turnedBy_J52 C (fX8_turnedBy_L23 x1 x4 μ n) _ _ _ _ _ _  _ hrec kx h
def fX8_turnedBy_L11 (x1 : Int32) (μ : la_Mem) : Nat → Int32 → Int32 → Option (Int32)
  | 0, _, _ => none
  | n + 1, x3, x4 => if x1 ≤ x4 then (some x3) else (la_st ((x4 + 1)) (fun v21 => Option.bind (fX8_turnedBy_L23 x1 x4 μ 400 x3 v21) (fun q23_3 => (fX8_turnedBy_L11 x1 μ n) q23_3 (x4 + 1))))
set_option maxRecDepth 10000 in
theorem wX8_turnedBy_L11 {z : LMz} {l : Launch} {Post : Int32 → la_Mem → Prop} {Φ : Nat → List (Nat × Value) → List Value → la_Mem → Prop} (C : la_C (LM z) l rmX8_turnedBy RX8 cX8_turnedBy 6 (some .int) Post Φ) (x1 : Int32) (μ : la_Mem)  (ex : (Int32)) (kx : ∀ (y3 : Int32), ex = y3 → Φ 66 [(3, .int y3)] [] μ) : ∀ (n : Nat) (x3 : Int32) (x4 : Int32), fX8_turnedBy_L11 x1 μ n x3 x4 = some ex → Φ 11 [(0, .ref (z.2.1 0)), (1, .int x1), (3, .int x3), (4, .int x4)] [] μ := by
  intro n
  induction n with
  | zero =>
    intro _ _ h
    cases h
  | succ n hrec =>
    intro x3 x4 h
    rw [fX8_turnedBy_L11] at h
    refine la_iload C dX8_turnedBy_11 3 rfl ?_
    refine la_iload_n C dX8_turnedBy_13 1 rfl ?_
    refine la_icmp_ge C (tgt := 66) dX8_turnedBy_14 (by decide) (fun hc => ?_) (fun hc => ?_)
    · replace h := la_t hc h
      refine la_sub C [2] rfl ?_
      exact kx _ (Option.some.inj h).symm
    · replace h := la_f hc h
      refine la_iload C dX8_turnedBy_17 3 rfl ?_
      refine la_iconst C (v := 1) dX8_turnedBy_19 (by decide) ?_
      refine la_iadd C dX8_turnedBy_20 ?_
      obtain ⟨v21, ev21, h⟩ := la_so h
      refine la_nm C ev21 ?_
      refine la_istore C dX8_turnedBy_21 (by decide) rfl ?_
      obtain ⟨q23_3, hL23, h⟩ := la_bd h
      refine la_sub C [1, 2, 3, 4, 0] rfl ?_
      refine wX8_turnedBy_L23 C _ _ _  _ (fun _ e => ?_) _ _ _ hL23
      cases e
      refine la_iinc C (v := (x4 + 1)) dX8_turnedBy_60 3 rfl rfl (by decide) rfl ?_
      refine la_goto C (tgt := 11) dX8_turnedBy_63 (by decide) ?_
      refine la_sub C [1, 2, 3, 0] rfl ?_
      exact hrec _ _ h
def fX8_turnedBy (x1 : Int32) (x2 : Int32) (μ : la_Mem) : Option (Int32 × la_Mem) :=
  (fX8_lays x1 x2 μ).bind (fun μ3 => Option.bind (fX8_turnedBy_L11 x1 μ3 400 0 0) (fun q11_3 => some (q11_3, μ3)))
set_option maxRecDepth 10000 in
theorem mX8_turnedBy {z : LMz} {l : Launch} (x1 : Int32) (x2 : Int32) (μ : la_Mem) (r0 : Int32) (μ0 : la_Mem)  (h : fX8_turnedBy x1 x2 μ = some (r0, μ0)) : la_M (LM z) l yX8_turnedBy cX8_turnedBy 6 (some .int) rmX8_turnedBy [.ref (z.2.1 0), .int x1, .int x2] μ (fun r' μ' => r' = r0 ∧ μ' = μ0) := by
  refine la_of (own := RX8) (lv := [(0, .ref (z.2.1 0)), (1, .int x1), (2, .int x2)]) (by decide) rfl (Nat.le_of_ble_eq_true rfl) rfl (fun Φ C => ?_)
  unfold fX8_turnedBy at h
  have hret : r0 = r0 ∧ μ0 = μ0 := ⟨rfl, rfl⟩
  refine la_aload_n C dX8_turnedBy_0 0 rfl ?_
  refine la_iload_n C dX8_turnedBy_1 1 rfl ?_
  refine la_iload_n C dX8_turnedBy_2 2 rfl ?_
  obtain ⟨μ3, hr3, h⟩ := la_bd h
  refine KLMRX8_193 C [.int x1, .int x2] [] (mX8_lays x1 x2 μ μ3 hr3) ⟨by decide, by decide⟩ rfl rfl (Nat.le_of_ble_eq_true rfl) dX8_turnedBy_3 ?_
  refine la_iconst C (v := 0) dX8_turnedBy_6 (by decide) ?_
  refine la_istore_n C dX8_turnedBy_7 (by decide) rfl ?_
  refine la_iconst C (v := 0) dX8_turnedBy_8 (by decide) ?_
  refine la_istore C dX8_turnedBy_9 (by decide) rfl ?_
  obtain ⟨q11_3, hL11, h⟩ := la_bd h
  refine la_sub C [2, 3, 1, 0] rfl ?_
  refine wX8_turnedBy_L11 C _ _  _ (fun _ e => ?_) _ _ _ hL11
  cases e
  refine la_iload_n C dX8_turnedBy_66 0 rfl ?_
  exact la_iret C rfl (la_rW (P := (fun r' μ' => r' = r0 ∧ μ' = μ0)) h hret) dX8_turnedBy_67

def fX8_turned (x1 : Int32) (x2 : Int32) (x3 : Int32) (x4 : Int32) (x5 : Int32) (μ : la_Mem) : Option (Int32 × la_Mem) :=
  (fX8_isRow x1 x2 x4 x5 μ).bind (fun r6 => if r6 = 0 then (some ((-1), μ)) else (la_b2 (fX8_takes x1 x2 x3 x4 μ) (fun r20 μ20 => if 0 ≤ r20 then (la_b2 (fX8_turnedBy x4 x5 μ20) (fun r40 μ40 => some (r40, μ40))) else (some (r20, μ20)))))
set_option maxRecDepth 10000 in
theorem mX8_turned {z : LMz} {l : Launch} (x1 : Int32) (x2 : Int32) (x3 : Int32) (x4 : Int32) (x5 : Int32) (μ : la_Mem) (r0 : Int32) (μ0 : la_Mem)  (h : fX8_turned x1 x2 x3 x4 x5 μ = some (r0, μ0)) : la_M (LM z) l yX8_turned cX8_turned 7 (some .int) rmX8_turned [.ref (z.2.1 0), .int x1, .int x2, .int x3, .int x4, .int x5] μ (fun r' μ' => r' = r0 ∧ μ' = μ0) := by
  refine la_of (own := RX8) (lv := [(0, .ref (z.2.1 0)), (1, .int x1), (2, .int x2), (3, .int x3), (4, .int x4), (5, .int x5)]) (by decide) rfl (Nat.le_of_ble_eq_true rfl) rfl (fun Φ C => ?_)
  unfold fX8_turned at h
  have hret : r0 = r0 ∧ μ0 = μ0 := ⟨rfl, rfl⟩
  refine la_iload_n C dX8_turned_0 1 rfl ?_
  refine la_iload_n C dX8_turned_1 2 rfl ?_
  refine la_iload C dX8_turned_2 4 rfl ?_
  refine la_iload C dX8_turned_4 5 rfl ?_
  obtain ⟨r6, hr6, h⟩ := la_bd h
  refine KLMRX8_186 C [.int x1, .int x2, .int x4, .int x5] [] (mX8_isRow x1 x2 x4 x5 μ r6 hr6) ⟨by decide, by decide⟩ rfl rfl (Nat.le_of_ble_eq_true rfl) dX8_turned_6 ?_
  refine la_if_ne C (tgt := 14) dX8_turned_9 (by decide) (fun hc => ?_) (fun hc => ?_)
  · replace h := la_f hc h
    refine la_aload_n C dX8_turned_14 0 rfl ?_
    refine la_iload_n C dX8_turned_15 1 rfl ?_
    refine la_iload_n C dX8_turned_16 2 rfl ?_
    refine la_iload_n C dX8_turned_17 3 rfl ?_
    refine la_iload C dX8_turned_18 4 rfl ?_
    obtain ⟨r20, μ20, hr20, h⟩ := la_b2o h
    refine KLMRX8_190 C [.int x1, .int x2, .int x3, .int x4] [] (mX8_takes x1 x2 x3 x4 μ r20 μ20 hr20) ⟨by decide, by decide⟩ rfl rfl (Nat.le_of_ble_eq_true rfl) dX8_turned_20 ?_
    refine la_istore C dX8_turned_23 (by decide) rfl ?_
    refine la_iload C dX8_turned_25 0 rfl ?_
    refine la_if_ge C (tgt := 35) dX8_turned_27 (by decide) (fun hc => ?_) (fun hc => ?_)
    · replace h := la_t hc h
      refine la_aload_n C dX8_turned_35 1 rfl ?_
      refine la_iload C dX8_turned_36 5 rfl ?_
      refine la_iload C dX8_turned_38 6 rfl ?_
      obtain ⟨r40, μ40, hr40, h⟩ := la_b2o h
      refine KLMRX8_197 C [.int x4, .int x5] [] (mX8_turnedBy x4 x5 μ20 r40 μ40 hr40) ⟨by decide, by decide⟩ rfl rfl (Nat.le_of_ble_eq_true rfl) dX8_turned_40 ?_
      exact la_iret C rfl (la_rW (P := (fun r' μ' => r' = r0 ∧ μ' = μ0)) h hret) dX8_turned_43
    · replace h := la_f hc h
      refine la_iload C dX8_turned_30 0 rfl ?_
      refine la_goto C (tgt := 43) dX8_turned_32 (by decide) ?_
      exact la_iret C rfl (la_rW (P := (fun r' μ' => r' = r0 ∧ μ' = μ0)) h hret) dX8_turned_43
  · replace h := la_t hc h
    refine la_iconst C (v := (-1)) dX8_turned_12 (by decide) ?_
    exact la_iret C rfl (la_rW (P := (fun r' μ' => r' = r0 ∧ μ' = μ0)) h hret) dX8_turned_13

def fX8_waits_J91 (rec : Int32 → Int32 → Option (Int32)) (x4 : Int32) (x7 : Int32) (s0 : Int32) (μ : la_Mem) : Option (Int32) :=
  rec s0 (x7 + 1)
set_option maxRecDepth 10000 in
theorem wX8_waits_J91 {z : LMz} {l : Launch} {Post : Int32 → la_Mem → Prop} {Φ : Nat → List (Nat × Value) → List Value → la_Mem → Prop} (C : la_C (LM z) l rmX8_waits RX8 cX8_waits 9 (some .int) Post Φ) (rec : Int32 → Int32 → Option (Int32)) (x4 : Int32) (x7 : Int32) (s0 : Int32) (μ : la_Mem)  (ex : (Int32)) (hrec : ∀ (y6 : Int32) (y7 : Int32), rec y6 y7 = some ex → Φ 38 [(0, .ref (z.2.1 0)), (4, .int x4), (6, .int y6), (7, .int y7)] [] μ) (kx : ∀ (y6 : Int32), ex = y6 → Φ 99 [(6, .int y6)] [] μ) (h : fX8_waits_J91 rec x4 x7 s0 μ = some ex) : Φ 91 [(0, .ref (z.2.1 0)), (4, .int x4), (7, .int x7)] [.int s0] μ := by
  unfold fX8_waits_J91 at h
  refine la_istore C dX8_waits_91 (by decide) rfl ?_
  refine la_iinc C (v := (x7 + 1)) dX8_waits_93 3 rfl rfl (by decide) rfl ?_
  refine la_goto C (tgt := 38) dX8_waits_96 (by decide) ?_
  refine la_sub C [2, 3, 1, 0] rfl ?_
  exact hrec _ _ h
def fX8_waits_L38 (x4 : Int32) (μ : la_Mem) : Nat → Int32 → Int32 → Option (Int32)
  | 0, _, _ => none
  | n + 1, x6, x7 => if x4 ≤ x7 then (some x6) else (la_if (la_ix (x7 - 1) 24) ((fX8_reachOf (μ 19 (Int32.toNatClampNeg (x7 - 1))) μ).bind (fun r57 => la_if (la_ix x7 24) ((fX8_reachOf (μ 19 (Int32.toNatClampNeg x7)) μ).bind (fun r69 => la_st (((x6 + r57) - r69)) (fun v73 => if v73 ≤ x6 then (fX8_waits_J91 (fX8_waits_L38 x4 μ n) x4 x7 (x6 + 1) μ) else (fX8_waits_J91 (fX8_waits_L38 x4 μ n) x4 x7 v73 μ)))))))
set_option maxRecDepth 10000 in
theorem wX8_waits_L38 {z : LMz} {l : Launch} {Post : Int32 → la_Mem → Prop} {Φ : Nat → List (Nat × Value) → List Value → la_Mem → Prop} (C : la_C (LM z) l rmX8_waits RX8 cX8_waits 9 (some .int) Post Φ) (x4 : Int32) (μ : la_Mem)  (ex : (Int32)) (kx : ∀ (y6 : Int32), ex = y6 → Φ 99 [(6, .int y6)] [] μ) : ∀ (n : Nat) (x6 : Int32) (x7 : Int32), fX8_waits_L38 x4 μ n x6 x7 = some ex → Φ 38 [(0, .ref (z.2.1 0)), (4, .int x4), (6, .int x6), (7, .int x7)] [] μ := by
  intro n
  induction n with
  | zero =>
    intro _ _ h
    cases h
  | succ n hrec =>
    intro x6 x7 h
    rw [fX8_waits_L38] at h
    refine la_iload C dX8_waits_38 3 rfl ?_
    refine la_iload C dX8_waits_40 1 rfl ?_
    refine la_icmp_ge C (tgt := 99) dX8_waits_42 (by decide) (fun hc => ?_) (fun hc => ?_)
    · replace h := la_t hc h
      refine la_sub C [2] rfl ?_
      exact kx _ (Option.some.inj h).symm
    · replace h := la_f hc h
      refine la_iload C dX8_waits_45 2 rfl ?_
      refine la_aload_n C dX8_waits_47 0 rfl ?_
      refine la_aload_n C dX8_waits_48 0 rfl ?_
      refine GLMRX8_64 C dX8_waits_49 ?_
      refine la_iload C dX8_waits_52 3 rfl ?_
      refine la_iconst C (v := 1) dX8_waits_54 (by decide) ?_
      refine la_isub C dX8_waits_55 ?_
      obtain ⟨hi56, h⟩ := la_go h
      refine ALM19 C _ rfl hi56 dX8_waits_56 ?_
      obtain ⟨r57, hr57, h⟩ := la_bd h
      refine KLMRX8_179 C [.int (μ 19 (Int32.toNatClampNeg (x7 - 1)))] [.int x6] (mX8_reachOf (μ 19 (Int32.toNatClampNeg (x7 - 1))) μ r57 hr57) ⟨by decide, by decide⟩ rfl rfl (Nat.le_of_ble_eq_true rfl) dX8_waits_57 ?_
      refine la_iadd C dX8_waits_60 ?_
      refine la_aload_n C dX8_waits_61 0 rfl ?_
      refine la_aload_n C dX8_waits_62 0 rfl ?_
      refine GLMRX8_64 C dX8_waits_63 ?_
      refine la_iload C dX8_waits_66 3 rfl ?_
      obtain ⟨hi68, h⟩ := la_go h
      refine ALM19 C _ rfl hi68 dX8_waits_68 ?_
      obtain ⟨r69, hr69, h⟩ := la_bd h
      refine KLMRX8_179 C [.int (μ 19 (Int32.toNatClampNeg x7))] [.int (x6 + r57)] (mX8_reachOf (μ 19 (Int32.toNatClampNeg x7)) μ r69 hr69) ⟨by decide, by decide⟩ rfl rfl (Nat.le_of_ble_eq_true rfl) dX8_waits_69 ?_
      refine la_isub C dX8_waits_72 ?_
      obtain ⟨v73, ev73, h⟩ := la_so h
      refine la_nm C ev73 ?_
      refine la_istore C dX8_waits_73 (by decide) rfl ?_
      refine la_iload C dX8_waits_75 0 rfl ?_
      refine la_iload C dX8_waits_77 3 rfl ?_
      refine la_icmp_le C (tgt := 87) dX8_waits_79 (by decide) (fun hc => ?_) (fun hc => ?_)
      · replace h := la_t hc h
        refine la_iload C dX8_waits_87 3 rfl ?_
        refine la_iconst C (v := 1) dX8_waits_89 (by decide) ?_
        refine la_iadd C dX8_waits_90 ?_
        refine la_sub C [1, 2, 4] rfl ?_
        exact wX8_waits_J91 C (fX8_waits_L38 x4 μ n) _ _ _ _  _ hrec kx h
      · replace h := la_f hc h
        refine la_iload C dX8_waits_82 0 rfl ?_
        refine la_goto C (tgt := 91) dX8_waits_84 (by decide) ?_
        refine la_sub C [1, 2, 4] rfl ?_
        exact wX8_waits_J91 C (fX8_waits_L38 x4 μ n) _ _ _ _  _ hrec kx h
def fX8_waits (x1 : Int32) (x2 : Int32) (x3 : Int32) (x4 : Int32) (μ : la_Mem) : Option (Int32 × la_Mem) :=
  (fX8_isRow x1 x2 x4 1 μ).bind (fun r5 => if r5 = 0 then (some ((-1), μ)) else (la_b2 (fX8_takes x1 x2 x3 x4 μ) (fun r19 μ19 => if 0 ≤ r19 then (Option.bind (fX8_waits_L38 x4 μ19 400 0 1) (fun q38_6 => some (q38_6, μ19))) else (some (r19, μ19)))))
set_option maxRecDepth 10000 in
theorem mX8_waits {z : LMz} {l : Launch} (x1 : Int32) (x2 : Int32) (x3 : Int32) (x4 : Int32) (μ : la_Mem) (r0 : Int32) (μ0 : la_Mem)  (h : fX8_waits x1 x2 x3 x4 μ = some (r0, μ0)) : la_M (LM z) l yX8_waits cX8_waits 9 (some .int) rmX8_waits [.ref (z.2.1 0), .int x1, .int x2, .int x3, .int x4] μ (fun r' μ' => r' = r0 ∧ μ' = μ0) := by
  refine la_of (own := RX8) (lv := [(0, .ref (z.2.1 0)), (1, .int x1), (2, .int x2), (3, .int x3), (4, .int x4)]) (by decide) rfl (Nat.le_of_ble_eq_true rfl) rfl (fun Φ C => ?_)
  unfold fX8_waits at h
  have hret : r0 = r0 ∧ μ0 = μ0 := ⟨rfl, rfl⟩
  refine la_iload_n C dX8_waits_0 1 rfl ?_
  refine la_iload_n C dX8_waits_1 2 rfl ?_
  refine la_iload C dX8_waits_2 4 rfl ?_
  refine la_iconst C (v := 1) dX8_waits_4 (by decide) ?_
  obtain ⟨r5, hr5, h⟩ := la_bd h
  refine KLMRX8_186 C [.int x1, .int x2, .int x4, .int 1] [] (mX8_isRow x1 x2 x4 1 μ r5 hr5) ⟨by decide, by decide⟩ rfl rfl (Nat.le_of_ble_eq_true rfl) dX8_waits_5 ?_
  refine la_if_ne C (tgt := 13) dX8_waits_8 (by decide) (fun hc => ?_) (fun hc => ?_)
  · replace h := la_f hc h
    refine la_aload_n C dX8_waits_13 0 rfl ?_
    refine la_iload_n C dX8_waits_14 1 rfl ?_
    refine la_iload_n C dX8_waits_15 2 rfl ?_
    refine la_iload_n C dX8_waits_16 3 rfl ?_
    refine la_iload C dX8_waits_17 4 rfl ?_
    obtain ⟨r19, μ19, hr19, h⟩ := la_b2o h
    refine KLMRX8_190 C [.int x1, .int x2, .int x3, .int x4] [] (mX8_takes x1 x2 x3 x4 μ r19 μ19 hr19) ⟨by decide, by decide⟩ rfl rfl (Nat.le_of_ble_eq_true rfl) dX8_waits_19 ?_
    refine la_istore C dX8_waits_22 (by decide) rfl ?_
    refine la_iload C dX8_waits_24 0 rfl ?_
    refine la_if_ge C (tgt := 32) dX8_waits_26 (by decide) (fun hc => ?_) (fun hc => ?_)
    · replace h := la_t hc h
      refine la_iconst C (v := 0) dX8_waits_32 (by decide) ?_
      refine la_istore C dX8_waits_33 (by decide) rfl ?_
      refine la_iconst C (v := 1) dX8_waits_35 (by decide) ?_
      refine la_istore C dX8_waits_36 (by decide) rfl ?_
      obtain ⟨q38_6, hL38, h⟩ := la_bd h
      refine la_sub C [3, 7, 1, 0] rfl ?_
      refine wX8_waits_L38 C _ _  _ (fun _ e => ?_) _ _ _ hL38
      cases e
      refine la_iload C dX8_waits_99 0 rfl ?_
      exact la_iret C rfl (la_rW (P := (fun r' μ' => r' = r0 ∧ μ' = μ0)) h hret) dX8_waits_101
    · replace h := la_f hc h
      refine la_iload C dX8_waits_29 0 rfl ?_
      exact la_iret C rfl (la_rW (P := (fun r' μ' => r' = r0 ∧ μ' = μ0)) h hret) dX8_waits_31
  · replace h := la_t hc h
    refine la_iconst C (v := (-1)) dX8_waits_11 (by decide) ?_
    exact la_iret C rfl (la_rW (P := (fun r' μ' => r' = r0 ∧ μ' = μ0)) h hret) dX8_waits_12

def fX8_gap_L35 (x4 : Int32) : Nat → Int32 → la_Mem → Option ((Int32 × la_Mem) ⊕ (la_Mem))
  | 0, _, _ => none
  | n + 1, x6, μ => if 30 < x6 then (some (.inr μ)) else (la_b2 (fX8_turnedBy x4 x6 μ) (fun r47 μ47 => if r47 = 0 then (some (.inl (x6, μ47))) else ((fX8_gap_L35 x4 n) (x6 + 1) μ47)))
set_option maxRecDepth 10000 in
theorem wX8_gap_L35 {z : LMz} {l : Launch} {Post : Int32 → la_Mem → Prop} {Φ : Nat → List (Nat × Value) → List Value → la_Mem → Prop} (C : la_C (LM z) l rmX8_gap RX8 cX8_gap 7 (some .int) Post Φ) (x4 : Int32)  (ex : ((Int32 × la_Mem) ⊕ (la_Mem))) (hret : ∀ q, ex = .inl q → Post q.1 q.2) (kx : ∀  (ν : la_Mem), ex = .inr ν → Φ 62 [] [] ν) : ∀ (n : Nat) (x6 : Int32) (μ : la_Mem), fX8_gap_L35 x4 n x6 μ = some ex → Φ 35 [(0, .ref (z.2.1 0)), (4, .int x4), (6, .int x6)] [] μ := by
  intro n
  induction n with
  | zero =>
    intro _ _ h
    cases h
  | succ n hrec =>
    intro x6 μ h
    rw [fX8_gap_L35] at h
    refine la_iload C dX8_gap_35 2 rfl ?_
    refine la_bipush C (v := 30) dX8_gap_37 (by decide) ?_
    refine la_icmp_gt C (tgt := 62) dX8_gap_39 (by decide) (fun hc => ?_) (fun hc => ?_)
    · replace h := la_t hc h
      refine la_sub C [] rfl ?_
      exact kx _ (Option.some.inj h).symm
    · replace h := la_f hc h
      refine la_aload_n C dX8_gap_42 0 rfl ?_
      refine la_iload C dX8_gap_43 1 rfl ?_
      refine la_iload C dX8_gap_45 2 rfl ?_
      obtain ⟨r47, μ47, hr47, h⟩ := la_b2o h
      refine KLMRX8_197 C [.int x4, .int x6] [] (mX8_turnedBy x4 x6 μ r47 μ47 hr47) ⟨by decide, by decide⟩ rfl rfl (Nat.le_of_ble_eq_true rfl) dX8_gap_47 ?_
      refine la_if_ne C (tgt := 56) dX8_gap_50 (by decide) (fun hc => ?_) (fun hc => ?_)
      · replace h := la_f hc h
        refine la_iinc C (v := (x6 + 1)) dX8_gap_56 2 rfl rfl (by decide) rfl ?_
        refine la_goto C (tgt := 35) dX8_gap_59 (by decide) ?_
        refine la_sub C [1, 2, 0] rfl ?_
        exact hrec _ _ h
      · replace h := la_t hc h
        refine la_iload C dX8_gap_53 2 rfl ?_
        exact la_iret C rfl (hret (x6, μ47) (Option.some.inj h).symm) dX8_gap_55
def fX8_gap (x1 : Int32) (x2 : Int32) (x3 : Int32) (x4 : Int32) (μ : la_Mem) : Option (Int32 × la_Mem) :=
  (fX8_isRow x1 x2 x4 1 μ).bind (fun r5 => if r5 = 0 then (some ((-1), μ)) else (la_b2 (fX8_takes x1 x2 x3 x4 μ) (fun r19 μ19 => if 0 ≤ r19 then (la_x1 (fX8_gap_L35 x4 400 1 μ19) some (fun ν35 => some ((-4), ν35))) else (some (r19, μ19)))))
set_option maxRecDepth 10000 in
theorem mX8_gap {z : LMz} {l : Launch} (x1 : Int32) (x2 : Int32) (x3 : Int32) (x4 : Int32) (μ : la_Mem) (r0 : Int32) (μ0 : la_Mem)  (h : fX8_gap x1 x2 x3 x4 μ = some (r0, μ0)) : la_M (LM z) l yX8_gap cX8_gap 7 (some .int) rmX8_gap [.ref (z.2.1 0), .int x1, .int x2, .int x3, .int x4] μ (fun r' μ' => r' = r0 ∧ μ' = μ0) := by
  refine la_of (own := RX8) (lv := [(0, .ref (z.2.1 0)), (1, .int x1), (2, .int x2), (3, .int x3), (4, .int x4)]) (by decide) rfl (Nat.le_of_ble_eq_true rfl) rfl (fun Φ C => ?_)
  unfold fX8_gap at h
  have hret : r0 = r0 ∧ μ0 = μ0 := ⟨rfl, rfl⟩
  refine la_iload_n C dX8_gap_0 1 rfl ?_
  refine la_iload_n C dX8_gap_1 2 rfl ?_
  refine la_iload C dX8_gap_2 4 rfl ?_
  refine la_iconst C (v := 1) dX8_gap_4 (by decide) ?_
  obtain ⟨r5, hr5, h⟩ := la_bd h
  refine KLMRX8_186 C [.int x1, .int x2, .int x4, .int 1] [] (mX8_isRow x1 x2 x4 1 μ r5 hr5) ⟨by decide, by decide⟩ rfl rfl (Nat.le_of_ble_eq_true rfl) dX8_gap_5 ?_
  refine la_if_ne C (tgt := 13) dX8_gap_8 (by decide) (fun hc => ?_) (fun hc => ?_)
  · replace h := la_f hc h
    refine la_aload_n C dX8_gap_13 0 rfl ?_
    refine la_iload_n C dX8_gap_14 1 rfl ?_
    refine la_iload_n C dX8_gap_15 2 rfl ?_
    refine la_iload_n C dX8_gap_16 3 rfl ?_
    refine la_iload C dX8_gap_17 4 rfl ?_
    obtain ⟨r19, μ19, hr19, h⟩ := la_b2o h
    refine KLMRX8_190 C [.int x1, .int x2, .int x3, .int x4] [] (mX8_takes x1 x2 x3 x4 μ r19 μ19 hr19) ⟨by decide, by decide⟩ rfl rfl (Nat.le_of_ble_eq_true rfl) dX8_gap_19 ?_
    refine la_istore C dX8_gap_22 (by decide) rfl ?_
    refine la_iload C dX8_gap_24 0 rfl ?_
    refine la_if_ge C (tgt := 32) dX8_gap_26 (by decide) (fun hc => ?_) (fun hc => ?_)
    · replace h := la_t hc h
      refine la_iconst C (v := 1) dX8_gap_32 (by decide) ?_
      refine la_istore C dX8_gap_33 (by decide) rfl ?_
      rcases la_x1o h with ⟨qq35, hL35, h⟩ | ⟨ν35, hL35, h⟩
      · refine la_sub C [2, 6, 0] rfl ?_
        refine wX8_gap_L35 C _  _ (fun _ e => by cases e; cases h; exact hret) (fun _ e => by cases e) _ _ _ hL35
      · refine la_sub C [2, 6, 0] rfl ?_
        refine wX8_gap_L35 C _  _ (fun _ e => by cases e) (fun _ e => ?_) _ _ _ hL35
        cases e
        refine la_bipush C (v := (-4)) dX8_gap_62 (by decide) ?_
        exact la_iret C rfl (la_rW (P := (fun r' μ' => r' = r0 ∧ μ' = μ0)) h hret) dX8_gap_64
    · replace h := la_f hc h
      refine la_iload C dX8_gap_29 0 rfl ?_
      exact la_iret C rfl (la_rW (P := (fun r' μ' => r' = r0 ∧ μ' = μ0)) h hret) dX8_gap_31
  · replace h := la_t hc h
    refine la_iconst C (v := (-1)) dX8_gap_11 (by decide) ?_
    exact la_iret C rfl (la_rW (P := (fun r' μ' => r' = r0 ∧ μ' = μ0)) h hret) dX8_gap_12

def fX8_type_L17 (x1 : Int64) (x3 : Int32) (μ : la_Mem) : Nat → Int32 → Option ((Int32 × la_Mem) ⊕ (Unit))
  | 0, _ => none
  | n + 1, x4 => if x3 ≤ x4 then (some (.inr ())) else ((fX8_in ((x1 >>> (Int32.toInt64 (8 * x4) &&& 63)) &&& 255) 32 126 μ).bind (fun r40 => if r40 = 0 then (some (.inl ((-1), μ))) else ((fX8_type_L17 x1 x3 μ n) (x4 + 1))))
set_option maxRecDepth 10000 in
theorem wX8_type_L17 {z : LMz} {l : Launch} {Post : Int32 → la_Mem → Prop} {Φ : Nat → List (Nat × Value) → List Value → la_Mem → Prop} (C : la_C (LM z) l rmX8_type RX8 cX8_type 5 (some .int) Post Φ) (x1 : Int64) (x3 : Int32) (μ : la_Mem)  (ex : ((Int32 × la_Mem) ⊕ (Unit))) (hret : ∀ q, ex = .inl q → Post q.1 q.2) (kx : ex = .inr () → Φ 54 [(0, .ref (z.2.1 0)), (1, .long x1), (3, .int x3)] [] μ) : ∀ (n : Nat) (x4 : Int32), fX8_type_L17 x1 x3 μ n x4 = some ex → Φ 17 [(0, .ref (z.2.1 0)), (1, .long x1), (3, .int x3), (4, .int x4)] [] μ := by
  intro n
  induction n with
  | zero =>
    intro _ h
    cases h
  | succ n hrec =>
    intro x4 h
    rw [fX8_type_L17] at h
    refine la_iload C dX8_type_17 3 rfl ?_
    refine la_iload_n C dX8_type_19 2 rfl ?_
    refine la_icmp_ge C (tgt := 54) dX8_type_20 (by decide) (fun hc => ?_) (fun hc => ?_)
    · replace h := la_t hc h
      refine la_sub C [0, 1, 2] rfl ?_
      exact kx (Option.some.inj h).symm
    · replace h := la_f hc h
      refine la_lload_n C dX8_type_23 1 rfl ?_
      refine la_bipush C (v := 8) dX8_type_24 (by decide) ?_
      refine la_iload C dX8_type_26 3 rfl ?_
      refine la_imul C dX8_type_28 ?_
      refine la_lshr C dX8_type_29 ?_
      refine la_ldc2 C (v := 255) wd_661 dX8_type_30 ?_
      refine la_land C dX8_type_33 ?_
      refine la_ldc2 C (v := 32) wd_662 dX8_type_34 ?_
      refine la_ldc2 C (v := 126) wd_663 dX8_type_37 ?_
      obtain ⟨r40, hr40, h⟩ := la_bd h
      refine KLMRX8_87 C [.long ((x1 >>> (Int32.toInt64 (8 * x4) &&& 63)) &&& 255), .long 32, .long 126] [] (mX8_in ((x1 >>> (Int32.toInt64 (8 * x4) &&& 63)) &&& 255) 32 126 μ r40 hr40) ⟨by decide, by decide⟩ rfl rfl (Nat.le_of_ble_eq_true rfl) dX8_type_40 ?_
      refine la_if_ne C (tgt := 48) dX8_type_43 (by decide) (fun hc => ?_) (fun hc => ?_)
      · replace h := la_f hc h
        refine la_iinc C (v := (x4 + 1)) dX8_type_48 3 rfl rfl (by decide) rfl ?_
        refine la_goto C (tgt := 17) dX8_type_51 (by decide) ?_
        refine la_sub C [1, 2, 3, 0] rfl ?_
        exact hrec _ h
      · replace h := la_t hc h
        refine la_iconst C (v := (-1)) dX8_type_46 (by decide) ?_
        exact la_iret C rfl (hret ((-1), μ) (Option.some.inj h).symm) dX8_type_47
def fX8_type_L73 (x1 : Int64) : Nat → Int32 → la_Mem → Option (la_Mem)
  | 0, _, _ => none
  | n + 1, x4, μ => if x4 < 0 then (some μ) else (la_if (la_ix (μ 0 29) 60) (la_st (la_ms μ 21 (Int32.toNatClampNeg (μ 0 29)) (Int64.toInt32 ((x1 >>> (Int32.toInt64 (8 * x4) &&& 63)) &&& 255))) (fun μ98 => la_st (la_ms μ98 0 29 ((μ98 0 29) + 1)) (fun μ106 => (fX8_type_L73 x1 n) (x4 + (-1)) μ106))))
set_option maxRecDepth 10000 in
theorem wX8_type_L73 {z : LMz} {l : Launch} {Post : Int32 → la_Mem → Prop} {Φ : Nat → List (Nat × Value) → List Value → la_Mem → Prop} (C : la_C (LM z) l rmX8_type RX8 cX8_type 5 (some .int) Post Φ) (x1 : Int64)  (ex : (la_Mem)) (kx : ∀  (ν : la_Mem), ex = ν → Φ 115 [(0, .ref (z.2.1 0))] [] ν) : ∀ (n : Nat) (x4 : Int32) (μ : la_Mem), fX8_type_L73 x1 n x4 μ = some ex → Φ 73 [(0, .ref (z.2.1 0)), (1, .long x1), (4, .int x4)] [] μ := by
  intro n
  induction n with
  | zero =>
    intro _ _ h
    cases h
  | succ n hrec =>
    intro x4 μ h
    rw [fX8_type_L73] at h
    refine la_iload C dX8_type_73 2 rfl ?_
    refine la_if_lt C (tgt := 115) dX8_type_75 (by decide) (fun hc => ?_) (fun hc => ?_)
    · replace h := la_t hc h
      refine la_sub C [0] rfl ?_
      exact kx _ (Option.some.inj h).symm
    · replace h := la_f hc h
      refine la_aload_n C dX8_type_78 0 rfl ?_
      refine GLMRX8_70 C dX8_type_79 ?_
      refine la_aload_n C dX8_type_82 0 rfl ?_
      refine GLMRX8_208 C dX8_type_83 ?_
      refine la_lload_n C dX8_type_86 1 rfl ?_
      refine la_bipush C (v := 8) dX8_type_87 (by decide) ?_
      refine la_iload C dX8_type_89 2 rfl ?_
      refine la_imul C dX8_type_91 ?_
      refine la_lshr C dX8_type_92 ?_
      refine la_ldc2 C (v := 255) wd_661 dX8_type_93 ?_
      refine la_land C dX8_type_96 ?_
      refine la_l2i C dX8_type_97 ?_
      obtain ⟨hi98, h⟩ := la_go h
      obtain ⟨μ98, eμ98, h⟩ := la_so h
      refine BLM21 C _ rfl hi98 eμ98 dX8_type_98 ?_
      refine la_aload_n C dX8_type_99 0 rfl ?_
      refine la_dup C dX8_type_100 rfl ?_
      refine GLMRX8_208 C dX8_type_101 ?_
      refine la_iconst C (v := 1) dX8_type_104 (by decide) ?_
      refine la_iadd C dX8_type_105 ?_
      obtain ⟨μ106, eμ106, h⟩ := la_so h
      refine SLMRX8_208 C eμ106 dX8_type_106 ?_
      refine la_iinc C (v := (x4 + (-1))) dX8_type_109 2 rfl rfl (by decide) rfl ?_
      refine la_goto C (tgt := 73) dX8_type_112 (by decide) ?_
      refine la_sub C [1, 2, 0] rfl ?_
      exact hrec _ _ h
def fX8_type (x1 : Int64) (x3 : Int32) (μ : la_Mem) : Option (Int32 × la_Mem) :=
  (fX8_in (Int32.toInt64 x3) 1 8 μ).bind (fun r6 => if r6 = 0 then (some ((-1), μ)) else (la_x0 (fX8_type_L17 x1 x3 μ 400 0) some (fun _ => if ((μ 0 29) + x3) ≤ 60 then (la_st ((x3 - 1)) (fun v71 => Option.bind (fX8_type_L73 x1 400 v71 μ) (fun ν73 => some ((ν73 0 29), ν73)))) else (some ((-3), μ)))))
set_option maxRecDepth 10000 in
theorem mX8_type {z : LMz} {l : Launch} (x1 : Int64) (x3 : Int32) (μ : la_Mem) (r0 : Int32) (μ0 : la_Mem)  (h : fX8_type x1 x3 μ = some (r0, μ0)) : la_M (LM z) l yX8_type cX8_type 5 (some .int) rmX8_type [.ref (z.2.1 0), .long x1, .int x3] μ (fun r' μ' => r' = r0 ∧ μ' = μ0) := by
  refine la_of (own := RX8) (lv := [(0, .ref (z.2.1 0)), (1, .long x1), (3, .int x3)]) (by decide) rfl (Nat.le_of_ble_eq_true rfl) rfl (fun Φ C => ?_)
  unfold fX8_type at h
  have hret : r0 = r0 ∧ μ0 = μ0 := ⟨rfl, rfl⟩
  refine la_iload_n C dX8_type_0 2 rfl ?_
  refine la_i2l C dX8_type_1 ?_
  refine la_lconst C (v := 1) dX8_type_2 (by decide) ?_
  refine la_ldc2 C (v := 8) wd_660 dX8_type_3 ?_
  obtain ⟨r6, hr6, h⟩ := la_bd h
  refine KLMRX8_87 C [.long (Int32.toInt64 x3), .long 1, .long 8] [] (mX8_in (Int32.toInt64 x3) 1 8 μ r6 hr6) ⟨by decide, by decide⟩ rfl rfl (Nat.le_of_ble_eq_true rfl) dX8_type_6 ?_
  refine la_if_ne C (tgt := 14) dX8_type_9 (by decide) (fun hc => ?_) (fun hc => ?_)
  · replace h := la_f hc h
    refine la_iconst C (v := 0) dX8_type_14 (by decide) ?_
    refine la_istore C dX8_type_15 (by decide) rfl ?_
    rcases la_x0o h with ⟨qq17, hL17, h⟩ | ⟨hL17, h⟩
    · refine la_sub C [1, 2, 3, 0] rfl ?_
      refine wX8_type_L17 C _ _ _  _ (fun _ e => by cases e; cases h; exact hret) (fun e => by cases e) _ _ hL17
    · refine la_sub C [1, 2, 3, 0] rfl ?_
      refine wX8_type_L17 C _ _ _  _ (fun _ e => by cases e) (fun e => ?_) _ _ hL17
      cases e
      refine la_aload_n C dX8_type_54 0 rfl ?_
      refine GLMRX8_208 C dX8_type_55 ?_
      refine la_iload_n C dX8_type_58 2 rfl ?_
      refine la_iadd C dX8_type_59 ?_
      refine la_bipush C (v := 60) dX8_type_60 (by decide) ?_
      refine la_icmp_le C (tgt := 68) dX8_type_62 (by decide) (fun hc => ?_) (fun hc => ?_)
      · replace h := la_t hc h
        refine la_iload_n C dX8_type_68 2 rfl ?_
        refine la_iconst C (v := 1) dX8_type_69 (by decide) ?_
        refine la_isub C dX8_type_70 ?_
        obtain ⟨v71, ev71, h⟩ := la_so h
        refine la_nm C ev71 ?_
        refine la_istore C dX8_type_71 (by decide) rfl ?_
        obtain ⟨ν73, hL73, h⟩ := la_bd h
        refine la_sub C [1, 2, 0] rfl ?_
        refine wX8_type_L73 C _  _ (fun _ e => ?_) _ _ _ hL73
        cases e
        refine la_aload_n C dX8_type_115 0 rfl ?_
        refine GLMRX8_208 C dX8_type_116 ?_
        exact la_iret C rfl (la_rW (P := (fun r' μ' => r' = r0 ∧ μ' = μ0)) h hret) dX8_type_119
      · replace h := la_f hc h
        refine la_bipush C (v := (-3)) dX8_type_65 (by decide) ?_
        exact la_iret C rfl (la_rW (P := (fun r' μ' => r' = r0 ∧ μ' = μ0)) h hret) dX8_type_67
  · replace h := la_t hc h
    refine la_iconst C (v := (-1)) dX8_type_12 (by decide) ?_
    exact la_iret C rfl (la_rW (P := (fun r' μ' => r' = r0 ∧ μ' = μ0)) h hret) dX8_type_13

def fX8_plays_J73 (rec : Int32 → Option ((Int32 × la_Mem) ⊕ (Unit))) (x1 : Int32) (x2 : Int32) (x3 : Int32) (μ : la_Mem) : Option ((Int32 × la_Mem) ⊕ (Unit)) :=
  rec (x3 + 1)
set_option maxRecDepth 10000 in
theorem wX8_plays_J73 {z : LMz} {l : Launch} {Post : Int32 → la_Mem → Prop} {Φ : Nat → List (Nat × Value) → List Value → la_Mem → Prop} (C : la_C (LM z) l rmX8_plays RX8 cX8_plays 6 (some .int) Post Φ) (rec : Int32 → Option ((Int32 × la_Mem) ⊕ (Unit))) (x1 : Int32) (x2 : Int32) (x3 : Int32) (μ : la_Mem)  (ex : ((Int32 × la_Mem) ⊕ (Unit))) (hrec : ∀ (y3 : Int32), rec y3 = some ex → Φ 33 [(0, .ref (z.2.1 0)), (1, .int x1), (2, .int x2), (3, .int y3)] [] μ) (hret : ∀ q, ex = .inl q → Post q.1 q.2) (kx : ex = .inr () → Φ 79 [(0, .ref (z.2.1 0)), (1, .int x1), (2, .int x2)] [] μ) (h : fX8_plays_J73 rec x1 x2 x3 μ = some ex) : Φ 73 [(0, .ref (z.2.1 0)), (1, .int x1), (2, .int x2), (3, .int x3)] [] μ := by
  unfold fX8_plays_J73 at h
  refine la_iinc C (v := (x3 + 1)) dX8_plays_73 3 rfl rfl (by decide) rfl ?_
  refine la_goto C (tgt := 33) dX8_plays_76 (by decide) ?_
  refine la_sub C [1, 2, 3, 0] rfl ?_
  exact hrec _ h
def fX8_plays_L33 (x1 : Int32) (x2 : Int32) (μ : la_Mem) : Nat → Int32 → Option ((Int32 × la_Mem) ⊕ (Unit))
  | 0, _ => none
  | n + 1, x3 => if x2 ≤ x3 then (some (.inr ())) else (la_if (la_ix x3 60) (if (μ 21 (Int32.toNatClampNeg x3)) = 32 then (fX8_plays_J73 (fX8_plays_L33 x1 x2 μ n) x1 x2 x3 μ) else (la_if (la_ix x3 60) ((fX8_in (Int32.toInt64 (μ 21 (Int32.toNatClampNeg x3))) 97 108 μ).bind (fun r62 => if r62 = 0 then (some (.inl (((-20) - x3), μ))) else (fX8_plays_J73 (fX8_plays_L33 x1 x2 μ n) x1 x2 x3 μ))))))
set_option maxRecDepth 10000 in
theorem wX8_plays_L33 {z : LMz} {l : Launch} {Post : Int32 → la_Mem → Prop} {Φ : Nat → List (Nat × Value) → List Value → la_Mem → Prop} (C : la_C (LM z) l rmX8_plays RX8 cX8_plays 6 (some .int) Post Φ) (x1 : Int32) (x2 : Int32) (μ : la_Mem)  (ex : ((Int32 × la_Mem) ⊕ (Unit))) (hret : ∀ q, ex = .inl q → Post q.1 q.2) (kx : ex = .inr () → Φ 79 [(0, .ref (z.2.1 0)), (1, .int x1), (2, .int x2)] [] μ) : ∀ (n : Nat) (x3 : Int32), fX8_plays_L33 x1 x2 μ n x3 = some ex → Φ 33 [(0, .ref (z.2.1 0)), (1, .int x1), (2, .int x2), (3, .int x3)] [] μ := by
  intro n
  induction n with
  | zero =>
    intro _ h
    cases h
  | succ n hrec =>
    intro x3 h
    rw [fX8_plays_L33] at h
    refine la_iload_n C dX8_plays_33 3 rfl ?_
    refine la_iload_n C dX8_plays_34 2 rfl ?_
    refine la_icmp_ge C (tgt := 79) dX8_plays_35 (by decide) (fun hc => ?_) (fun hc => ?_)
    · replace h := la_t hc h
      refine la_sub C [0, 1, 2] rfl ?_
      exact kx (Option.some.inj h).symm
    · replace h := la_f hc h
      refine la_aload_n C dX8_plays_38 0 rfl ?_
      refine GLMRX8_70 C dX8_plays_39 ?_
      refine la_iload_n C dX8_plays_42 3 rfl ?_
      obtain ⟨hi43, h⟩ := la_go h
      refine ALM21 C _ rfl hi43 dX8_plays_43 ?_
      refine la_bipush C (v := 32) dX8_plays_44 (by decide) ?_
      refine la_icmp_eq C (tgt := 73) dX8_plays_46 (by decide) (fun hc => ?_) (fun hc => ?_)
      · replace h := la_t hc h
        refine la_sub C [0, 1, 2, 3] rfl ?_
        exact wX8_plays_J73 C (fX8_plays_L33 x1 x2 μ n) _ _ _ _  _ hrec hret kx h
      · replace h := la_f hc h
        refine la_aload_n C dX8_plays_49 0 rfl ?_
        refine GLMRX8_70 C dX8_plays_50 ?_
        refine la_iload_n C dX8_plays_53 3 rfl ?_
        obtain ⟨hi54, h⟩ := la_go h
        refine ALM21 C _ rfl hi54 dX8_plays_54 ?_
        refine la_i2l C dX8_plays_55 ?_
        refine la_ldc2 C (v := 97) wd_684 dX8_plays_56 ?_
        refine la_ldc2 C (v := 108) wd_685 dX8_plays_59 ?_
        obtain ⟨r62, hr62, h⟩ := la_bd h
        refine KLMRX8_87 C [.long (Int32.toInt64 (μ 21 (Int32.toNatClampNeg x3))), .long 97, .long 108] [] (mX8_in (Int32.toInt64 (μ 21 (Int32.toNatClampNeg x3))) 97 108 μ r62 hr62) ⟨by decide, by decide⟩ rfl rfl (Nat.le_of_ble_eq_true rfl) dX8_plays_62 ?_
        refine la_if_ne C (tgt := 73) dX8_plays_65 (by decide) (fun hc => ?_) (fun hc => ?_)
        · replace h := la_f hc h
          refine la_sub C [0, 1, 2, 3] rfl ?_
          exact wX8_plays_J73 C (fX8_plays_L33 x1 x2 μ n) _ _ _ _  _ hrec hret kx h
        · replace h := la_t hc h
          refine la_bipush C (v := (-20)) dX8_plays_68 (by decide) ?_
          refine la_iload_n C dX8_plays_70 3 rfl ?_
          refine la_isub C dX8_plays_71 ?_
          exact la_iret C rfl (hret (((-20) - x3), μ) (Option.some.inj h).symm) dX8_plays_72
def fX8_plays_L115 (x1 : Int32) (x2 : Int32) (x3 : Int32) : Nat → Int32 → la_Mem → Option (la_Mem)
  | 0, _, _ => none
  | n + 1, x5, μ => if x1 ≤ x5 then (some μ) else (if x3 ≤ 0 then (some μ) else ((fX8_tick  μ).bind (fun μ126 => (fX8_plays_L115 x1 x2 x3 n) (x5 + 1) μ126)))
set_option maxRecDepth 10000 in
theorem wX8_plays_L115 {z : LMz} {l : Launch} {Post : Int32 → la_Mem → Prop} {Φ : Nat → List (Nat × Value) → List Value → la_Mem → Prop} (C : la_C (LM z) l rmX8_plays RX8 cX8_plays 6 (some .int) Post Φ) (x1 : Int32) (x2 : Int32) (x3 : Int32)  (ex : (la_Mem)) (kx : ∀  (ν : la_Mem), ex = ν → Φ 135 [(0, .ref (z.2.1 0)), (1, .int x1), (2, .int x2), (3, .int x3)] [] ν) : ∀ (n : Nat) (x5 : Int32) (μ : la_Mem), fX8_plays_L115 x1 x2 x3 n x5 μ = some ex → Φ 115 [(0, .ref (z.2.1 0)), (1, .int x1), (2, .int x2), (3, .int x3), (5, .int x5)] [] μ := by
  intro n
  induction n with
  | zero =>
    intro _ _ h
    cases h
  | succ n hrec =>
    intro x5 μ h
    rw [fX8_plays_L115] at h
    refine la_iload C dX8_plays_115 4 rfl ?_
    refine la_iload_n C dX8_plays_117 1 rfl ?_
    refine la_icmp_ge C (tgt := 135) dX8_plays_118 (by decide) (fun hc => ?_) (fun hc => ?_)
    · replace h := la_t hc h
      refine la_sub C [0, 1, 2, 3] rfl ?_
      exact kx _ (Option.some.inj h).symm
    · replace h := la_f hc h
      refine la_iload_n C dX8_plays_121 3 rfl ?_
      refine la_if_le C (tgt := 135) dX8_plays_122 (by decide) (fun hc => ?_) (fun hc => ?_)
      · replace h := la_t hc h
        refine la_sub C [0, 1, 2, 3] rfl ?_
        exact kx _ (Option.some.inj h).symm
      · replace h := la_f hc h
        refine la_aload_n C dX8_plays_125 0 rfl ?_
        obtain ⟨μ126, hr126, h⟩ := la_bd h
        refine KLMRX8_160 C [] [] (mX8_tick  μ μ126 hr126) ⟨by decide, by decide⟩ rfl rfl (Nat.le_of_ble_eq_true rfl) dX8_plays_126 ?_
        refine la_iinc C (v := (x5 + 1)) dX8_plays_129 4 rfl rfl (by decide) rfl ?_
        refine la_goto C (tgt := 115) dX8_plays_132 (by decide) ?_
        refine la_sub C [1, 2, 3, 4, 0] rfl ?_
        exact hrec _ _ h
def fX8_plays_J191 (rec : Int32 → Int32 → la_Mem → Option (Int32 × la_Mem)) (x1 : Int32) (x2 : Int32) (x4 : Int32) (s0 : Int32) (s1 : Int32) (μ : la_Mem) : Option (Int32 × la_Mem) :=
  la_st ((s1 + s0)) (fun v192 => rec v192 x4 μ)
set_option maxRecDepth 10000 in
theorem wX8_plays_J191 {z : LMz} {l : Launch} {Post : Int32 → la_Mem → Prop} {Φ : Nat → List (Nat × Value) → List Value → la_Mem → Prop} (C : la_C (LM z) l rmX8_plays RX8 cX8_plays 6 (some .int) Post Φ) (rec : Int32 → Int32 → la_Mem → Option (Int32 × la_Mem)) (x1 : Int32) (x2 : Int32) (x4 : Int32) (s0 : Int32) (s1 : Int32) (μ : la_Mem)  (ex : (Int32 × la_Mem)) (hrec : ∀ (y3 : Int32) (y4 : Int32) (ν : la_Mem), rec y3 y4 ν = some ex → Φ 102 [(0, .ref (z.2.1 0)), (1, .int x1), (2, .int x2), (3, .int y3), (4, .int y4)] [] ν) (kx : ∀ (y3 : Int32) (ν : la_Mem), ex = (y3, ν) → Φ 196 [(3, .int y3)] [] ν) (h : fX8_plays_J191 rec x1 x2 x4 s0 s1 μ = some ex) : Φ 191 [(0, .ref (z.2.1 0)), (1, .int x1), (2, .int x2), (4, .int x4)] [.int s0, .int s1] μ := by
  unfold fX8_plays_J191 at h
  refine la_iadd C dX8_plays_191 ?_
  obtain ⟨v192, ev192, h⟩ := la_so h
  refine la_nm C ev192 ?_
  refine la_istore_n C dX8_plays_192 (by decide) rfl ?_
  refine la_goto C (tgt := 102) dX8_plays_193 (by decide) ?_
  refine la_sub C [1, 2, 3, 0, 4] rfl ?_
  exact hrec _ _ _ h
def fX8_plays_J178 (rec : Int32 → Int32 → la_Mem → Option (Int32 × la_Mem)) (x1 : Int32) (x2 : Int32) (x3 : Int32) (s0 : Int32) (μ : la_Mem) : Option (Int32 × la_Mem) :=
  if s0 = 0 then (fX8_plays_J191 rec x1 x2 s0 0 x3 μ) else (fX8_plays_J191 rec x1 x2 s0 1 x3 μ)
set_option maxRecDepth 10000 in
theorem wX8_plays_J178 {z : LMz} {l : Launch} {Post : Int32 → la_Mem → Prop} {Φ : Nat → List (Nat × Value) → List Value → la_Mem → Prop} (C : la_C (LM z) l rmX8_plays RX8 cX8_plays 6 (some .int) Post Φ) (rec : Int32 → Int32 → la_Mem → Option (Int32 × la_Mem)) (x1 : Int32) (x2 : Int32) (x3 : Int32) (s0 : Int32) (μ : la_Mem)  (ex : (Int32 × la_Mem)) (hrec : ∀ (y3 : Int32) (y4 : Int32) (ν : la_Mem), rec y3 y4 ν = some ex → Φ 102 [(0, .ref (z.2.1 0)), (1, .int x1), (2, .int x2), (3, .int y3), (4, .int y4)] [] ν) (kx : ∀ (y3 : Int32) (ν : la_Mem), ex = (y3, ν) → Φ 196 [(3, .int y3)] [] ν) (h : fX8_plays_J178 rec x1 x2 x3 s0 μ = some ex) : Φ 178 [(0, .ref (z.2.1 0)), (1, .int x1), (2, .int x2), (3, .int x3)] [.int s0] μ := by
  unfold fX8_plays_J178 at h
  refine la_istore C dX8_plays_178 (by decide) rfl ?_
  refine la_iload_n C dX8_plays_180 4 rfl ?_
  refine la_iload C dX8_plays_181 0 rfl ?_
  refine la_if_eq C (tgt := 190) dX8_plays_183 (by decide) (fun hc => ?_) (fun hc => ?_)
  · replace h := la_t hc h
    refine la_iconst C (v := 0) dX8_plays_190 (by decide) ?_
    refine la_sub C [1, 2, 3, 0] rfl ?_
    exact wX8_plays_J191 C rec _ _ _ _ _ _  _ hrec kx h
  · replace h := la_f hc h
    refine la_iconst C (v := 1) dX8_plays_186 (by decide) ?_
    refine la_goto C (tgt := 191) dX8_plays_187 (by decide) ?_
    refine la_sub C [1, 2, 3, 0] rfl ?_
    exact wX8_plays_J191 C rec _ _ _ _ _ _  _ hrec kx h
def fX8_plays_J166 (rec : Int32 → Int32 → la_Mem → Option (Int32 × la_Mem)) (x1 : Int32) (x2 : Int32) (x3 : Int32) (s0 : Int32) (μ : la_Mem) : Option (Int32 × la_Mem) :=
  if s0 < 0 then (fX8_plays_J178 rec x1 x2 x3 0 μ) else (fX8_plays_J178 rec x1 x2 x3 1 μ)
set_option maxRecDepth 10000 in
theorem wX8_plays_J166 {z : LMz} {l : Launch} {Post : Int32 → la_Mem → Prop} {Φ : Nat → List (Nat × Value) → List Value → la_Mem → Prop} (C : la_C (LM z) l rmX8_plays RX8 cX8_plays 6 (some .int) Post Φ) (rec : Int32 → Int32 → la_Mem → Option (Int32 × la_Mem)) (x1 : Int32) (x2 : Int32) (x3 : Int32) (s0 : Int32) (μ : la_Mem)  (ex : (Int32 × la_Mem)) (hrec : ∀ (y3 : Int32) (y4 : Int32) (ν : la_Mem), rec y3 y4 ν = some ex → Φ 102 [(0, .ref (z.2.1 0)), (1, .int x1), (2, .int x2), (3, .int y3), (4, .int y4)] [] ν) (kx : ∀ (y3 : Int32) (ν : la_Mem), ex = (y3, ν) → Φ 196 [(3, .int y3)] [] ν) (h : fX8_plays_J166 rec x1 x2 x3 s0 μ = some ex) : Φ 166 [(0, .ref (z.2.1 0)), (1, .int x1), (2, .int x2), (3, .int x3)] [.int s0] μ := by
  unfold fX8_plays_J166 at h
  refine la_istore C dX8_plays_166 (by decide) rfl ?_
  refine la_iload C dX8_plays_168 0 rfl ?_
  refine la_if_lt C (tgt := 177) dX8_plays_170 (by decide) (fun hc => ?_) (fun hc => ?_)
  · replace h := la_t hc h
    refine la_iconst C (v := 0) dX8_plays_177 (by decide) ?_
    refine la_sub C [1, 2, 3, 4] rfl ?_
    exact wX8_plays_J178 C rec _ _ _ _ _  _ hrec kx h
  · replace h := la_f hc h
    refine la_iconst C (v := 1) dX8_plays_173 (by decide) ?_
    refine la_goto C (tgt := 178) dX8_plays_174 (by decide) ?_
    refine la_sub C [1, 2, 3, 4] rfl ?_
    exact wX8_plays_J178 C rec _ _ _ _ _  _ hrec kx h
def fX8_plays_J135 (rec : Int32 → Int32 → la_Mem → Option (Int32 × la_Mem)) (x1 : Int32) (x2 : Int32) (x3 : Int32) (μ : la_Mem) : Option (Int32 × la_Mem) :=
  la_if (la_ix x3 60) (if (μ 21 (Int32.toNatClampNeg x3)) = 32 then (la_b2 (fX8_band  μ) (fun r147 μ147 => fX8_plays_J166 rec x1 x2 x3 r147 μ147)) else (la_if (la_ix x3 60) (la_b2 (fX8_key ((μ 21 (Int32.toNatClampNeg x3)) - 97) μ) (fun r163 μ163 => fX8_plays_J166 rec x1 x2 x3 r163 μ163))))
set_option maxRecDepth 10000 in
theorem wX8_plays_J135 {z : LMz} {l : Launch} {Post : Int32 → la_Mem → Prop} {Φ : Nat → List (Nat × Value) → List Value → la_Mem → Prop} (C : la_C (LM z) l rmX8_plays RX8 cX8_plays 6 (some .int) Post Φ) (rec : Int32 → Int32 → la_Mem → Option (Int32 × la_Mem)) (x1 : Int32) (x2 : Int32) (x3 : Int32) (μ : la_Mem)  (ex : (Int32 × la_Mem)) (hrec : ∀ (y3 : Int32) (y4 : Int32) (ν : la_Mem), rec y3 y4 ν = some ex → Φ 102 [(0, .ref (z.2.1 0)), (1, .int x1), (2, .int x2), (3, .int y3), (4, .int y4)] [] ν) (kx : ∀ (y3 : Int32) (ν : la_Mem), ex = (y3, ν) → Φ 196 [(3, .int y3)] [] ν) (h : fX8_plays_J135 rec x1 x2 x3 μ = some ex) : Φ 135 [(0, .ref (z.2.1 0)), (1, .int x1), (2, .int x2), (3, .int x3)] [] μ := by
  unfold fX8_plays_J135 at h
  refine la_aload_n C dX8_plays_135 0 rfl ?_
  refine GLMRX8_70 C dX8_plays_136 ?_
  refine la_iload_n C dX8_plays_139 3 rfl ?_
  obtain ⟨hi140, h⟩ := la_go h
  refine ALM21 C _ rfl hi140 dX8_plays_140 ?_
  refine la_bipush C (v := 32) dX8_plays_141 (by decide) ?_
  refine la_icmp_ne C (tgt := 153) dX8_plays_143 (by decide) (fun hc => ?_) (fun hc => ?_)
  · replace h := la_f hc h
    refine la_aload_n C dX8_plays_153 0 rfl ?_
    refine la_aload_n C dX8_plays_154 0 rfl ?_
    refine GLMRX8_70 C dX8_plays_155 ?_
    refine la_iload_n C dX8_plays_158 3 rfl ?_
    obtain ⟨hi159, h⟩ := la_go h
    refine ALM21 C _ rfl hi159 dX8_plays_159 ?_
    refine la_bipush C (v := 97) dX8_plays_160 (by decide) ?_
    refine la_isub C dX8_plays_162 ?_
    obtain ⟨r163, μ163, hr163, h⟩ := la_b2o h
    refine KLMRX8_218 C [.int ((μ 21 (Int32.toNatClampNeg x3)) - 97)] [] (mX8_key ((μ 21 (Int32.toNatClampNeg x3)) - 97) μ r163 μ163 hr163) ⟨by decide, by decide⟩ rfl rfl (Nat.le_of_ble_eq_true rfl) dX8_plays_163 ?_
    refine la_sub C [0, 1, 2, 3] rfl ?_
    exact wX8_plays_J166 C rec _ _ _ _ _  _ hrec kx h
  · replace h := la_t hc h
    refine la_aload_n C dX8_plays_146 0 rfl ?_
    obtain ⟨r147, μ147, hr147, h⟩ := la_b2o h
    refine KLMRX8_215 C [] [] (mX8_band  μ r147 μ147 hr147) ⟨by decide, by decide⟩ rfl rfl (Nat.le_of_ble_eq_true rfl) dX8_plays_147 ?_
    refine la_goto C (tgt := 166) dX8_plays_150 (by decide) ?_
    refine la_sub C [0, 1, 2, 3] rfl ?_
    exact wX8_plays_J166 C rec _ _ _ _ _  _ hrec kx h
def fX8_plays_L102 (x1 : Int32) (x2 : Int32) : Nat → Int32 → Int32 → la_Mem → Option (Int32 × la_Mem)
  | 0, _, _, _ => none
  | n + 1, x3, x4, μ => if x4 = 0 then (some (x3, μ)) else (if x2 ≤ x3 then (some (x3, μ)) else (Option.bind (fX8_plays_L115 x1 x2 x3 400 0 μ) (fun ν115 => fX8_plays_J135 (fX8_plays_L102 x1 x2 n) x1 x2 x3 ν115)))
set_option maxRecDepth 10000 in
theorem wX8_plays_L102 {z : LMz} {l : Launch} {Post : Int32 → la_Mem → Prop} {Φ : Nat → List (Nat × Value) → List Value → la_Mem → Prop} (C : la_C (LM z) l rmX8_plays RX8 cX8_plays 6 (some .int) Post Φ) (x1 : Int32) (x2 : Int32)  (ex : (Int32 × la_Mem)) (kx : ∀ (y3 : Int32) (ν : la_Mem), ex = (y3, ν) → Φ 196 [(3, .int y3)] [] ν) : ∀ (n : Nat) (x3 : Int32) (x4 : Int32) (μ : la_Mem), fX8_plays_L102 x1 x2 n x3 x4 μ = some ex → Φ 102 [(0, .ref (z.2.1 0)), (1, .int x1), (2, .int x2), (3, .int x3), (4, .int x4)] [] μ := by
  intro n
  induction n with
  | zero =>
    intro _ _ _ h
    cases h
  | succ n hrec =>
    intro x3 x4 μ h
    rw [fX8_plays_L102] at h
    refine la_iload C dX8_plays_102 4 rfl ?_
    refine la_if_eq C (tgt := 196) dX8_plays_104 (by decide) (fun hc => ?_) (fun hc => ?_)
    · replace h := la_t hc h
      refine la_sub C [3] rfl ?_
      exact kx _ _ (Option.some.inj h).symm
    · replace h := la_f hc h
      refine la_iload_n C dX8_plays_107 3 rfl ?_
      refine la_iload_n C dX8_plays_108 2 rfl ?_
      refine la_icmp_ge C (tgt := 196) dX8_plays_109 (by decide) (fun hc => ?_) (fun hc => ?_)
      · replace h := la_t hc h
        refine la_sub C [3] rfl ?_
        exact kx _ _ (Option.some.inj h).symm
      · replace h := la_f hc h
        refine la_iconst C (v := 0) dX8_plays_112 (by decide) ?_
        refine la_istore C dX8_plays_113 (by decide) rfl ?_
        obtain ⟨ν115, hL115, h⟩ := la_bd h
        refine la_sub C [1, 2, 3, 4, 0] rfl ?_
        refine wX8_plays_L115 C _ _ _  _ (fun _ e => ?_) _ _ _ hL115
        cases e
        refine la_sub C [0, 1, 2, 3] rfl ?_
        exact wX8_plays_J135 C (fX8_plays_L102 x1 x2 n) _ _ _ _  _ hrec kx h
def fX8_plays (x1 : Int32) (μ : la_Mem) : Option (Int32 × la_Mem) :=
  (fX8_in (Int32.toInt64 x1) 1 30 μ).bind (fun r6 => if r6 = 0 then (some ((-1), μ)) else (la_st ((μ 0 29)) (fun v18 => la_st (la_ms μ 0 29 0) (fun μ21 => if v18 = 0 then (some ((-20), μ21)) else (la_x0 (fX8_plays_L33 x1 v18 μ21 400 0) some (fun _ => if ((μ21 0 11) + (x1 * (v18 - 1))) ≤ 99999 then (la_b2 (fX8_plays_L102 x1 v18 400 0 1 μ21) (fun q102_3 ν102 => some (q102_3, ν102))) else (some ((-3), μ21))))))))
set_option maxRecDepth 10000 in
theorem mX8_plays {z : LMz} {l : Launch} (x1 : Int32) (μ : la_Mem) (r0 : Int32) (μ0 : la_Mem)  (h : fX8_plays x1 μ = some (r0, μ0)) : la_M (LM z) l yX8_plays cX8_plays 6 (some .int) rmX8_plays [.ref (z.2.1 0), .int x1] μ (fun r' μ' => r' = r0 ∧ μ' = μ0) := by
  refine la_of (own := RX8) (lv := [(0, .ref (z.2.1 0)), (1, .int x1)]) (by decide) rfl (Nat.le_of_ble_eq_true rfl) rfl (fun Φ C => ?_)
  unfold fX8_plays at h
  have hret : r0 = r0 ∧ μ0 = μ0 := ⟨rfl, rfl⟩
  refine la_iload_n C dX8_plays_0 1 rfl ?_
  refine la_i2l C dX8_plays_1 ?_
  refine la_lconst C (v := 1) dX8_plays_2 (by decide) ?_
  refine la_ldc2 C (v := 30) wd_595 dX8_plays_3 ?_
  obtain ⟨r6, hr6, h⟩ := la_bd h
  refine KLMRX8_87 C [.long (Int32.toInt64 x1), .long 1, .long 30] [] (mX8_in (Int32.toInt64 x1) 1 30 μ r6 hr6) ⟨by decide, by decide⟩ rfl rfl (Nat.le_of_ble_eq_true rfl) dX8_plays_6 ?_
  refine la_if_ne C (tgt := 14) dX8_plays_9 (by decide) (fun hc => ?_) (fun hc => ?_)
  · replace h := la_f hc h
    refine la_aload_n C dX8_plays_14 0 rfl ?_
    refine GLMRX8_208 C dX8_plays_15 ?_
    obtain ⟨v18, ev18, h⟩ := la_so h
    refine la_nm C ev18 ?_
    refine la_istore_n C dX8_plays_18 (by decide) rfl ?_
    refine la_aload_n C dX8_plays_19 1 rfl ?_
    refine la_iconst C (v := 0) dX8_plays_20 (by decide) ?_
    obtain ⟨μ21, eμ21, h⟩ := la_so h
    refine SLMRX8_208 C eμ21 dX8_plays_21 ?_
    refine la_iload_n C dX8_plays_24 0 rfl ?_
    refine la_if_ne C (tgt := 31) dX8_plays_25 (by decide) (fun hc => ?_) (fun hc => ?_)
    · replace h := la_f hc h
      refine la_iconst C (v := 0) dX8_plays_31 (by decide) ?_
      refine la_istore_n C dX8_plays_32 (by decide) rfl ?_
      rcases la_x0o h with ⟨qq33, hL33, h⟩ | ⟨hL33, h⟩
      · refine la_sub C [2, 3, 1, 0] rfl ?_
        refine wX8_plays_L33 C _ _ _  _ (fun _ e => by cases e; cases h; exact hret) (fun e => by cases e) _ _ hL33
      · refine la_sub C [2, 3, 1, 0] rfl ?_
        refine wX8_plays_L33 C _ _ _  _ (fun _ e => by cases e) (fun e => ?_) _ _ hL33
        cases e
        refine la_aload_n C dX8_plays_79 0 rfl ?_
        refine GLMRX8_138 C dX8_plays_80 ?_
        refine la_iload_n C dX8_plays_83 1 rfl ?_
        refine la_iload_n C dX8_plays_84 2 rfl ?_
        refine la_iconst C (v := 1) dX8_plays_85 (by decide) ?_
        refine la_isub C dX8_plays_86 ?_
        refine la_imul C dX8_plays_87 ?_
        refine la_iadd C dX8_plays_88 ?_
        refine la_ldc C (v := 99999) wd_431 dX8_plays_89 ?_
        refine la_icmp_le C (tgt := 97) dX8_plays_91 (by decide) (fun hc => ?_) (fun hc => ?_)
        · replace h := la_t hc h
          refine la_iconst C (v := 0) dX8_plays_97 (by decide) ?_
          refine la_istore_n C dX8_plays_98 (by decide) rfl ?_
          refine la_iconst C (v := 1) dX8_plays_99 (by decide) ?_
          refine la_istore C dX8_plays_100 (by decide) rfl ?_
          obtain ⟨q102_3, ν102, hL102, h⟩ := la_b2o h
          refine la_sub C [2, 3, 4, 1, 0] rfl ?_
          refine wX8_plays_L102 C _ _  _ (fun _ _ e => ?_) _ _ _ _ hL102
          cases e
          refine la_iload_n C dX8_plays_196 0 rfl ?_
          exact la_iret C rfl (la_rW (P := (fun r' μ' => r' = r0 ∧ μ' = μ0)) h hret) dX8_plays_197
        · replace h := la_f hc h
          refine la_bipush C (v := (-3)) dX8_plays_94 (by decide) ?_
          exact la_iret C rfl (la_rW (P := (fun r' μ' => r' = r0 ∧ μ' = μ0)) h hret) dX8_plays_96
    · replace h := la_t hc h
      refine la_bipush C (v := (-20)) dX8_plays_28 (by decide) ?_
      exact la_iret C rfl (la_rW (P := (fun r' μ' => r' = r0 ∧ μ' = μ0)) h hret) dX8_plays_30
  · replace h := la_t hc h
    refine la_iconst C (v := (-1)) dX8_plays_12 (by decide) ?_
    exact la_iret C rfl (la_rW (P := (fun r' μ' => r' = r0 ∧ μ' = μ0)) h hret) dX8_plays_13

def fX8_riskOf_J63 (rec : Int32 → Int32 → Option (Int32)) (x1 : Int32) (x2 : Int32) (x3 : Int32) (μ : la_Mem) : Option (Int32) :=
  rec x2 (x3 + 1)
set_option maxRecDepth 10000 in
theorem wX8_riskOf_J63 {z : LMz} {l : Launch} {Post : Int32 → la_Mem → Prop} {Φ : Nat → List (Nat × Value) → List Value → la_Mem → Prop} (C : la_C (LM z) l rmX8_riskOf RX8 cX8_riskOf 5 (some .int) Post Φ) (rec : Int32 → Int32 → Option (Int32)) (x1 : Int32) (x2 : Int32) (x3 : Int32) (μ : la_Mem)  (ex : (Int32)) (hrec : ∀ (y2 : Int32) (y3 : Int32), rec y2 y3 = some ex → Φ 4 [(0, .ref (z.2.1 0)), (1, .int x1), (2, .int y2), (3, .int y3)] [] μ) (kx : ∀ (y2 : Int32), ex = y2 → Φ 69 [(2, .int y2)] [] μ) (h : fX8_riskOf_J63 rec x1 x2 x3 μ = some ex) : Φ 63 [(0, .ref (z.2.1 0)), (1, .int x1), (2, .int x2), (3, .int x3)] [] μ := by
  unfold fX8_riskOf_J63 at h
  refine la_iinc C (v := (x3 + 1)) dX8_riskOf_63 3 rfl rfl (by decide) rfl ?_
  refine la_goto C (tgt := 4) dX8_riskOf_66 (by decide) ?_
  refine la_sub C [1, 2, 3, 0] rfl ?_
  exact hrec _ _ h
def fX8_riskOf_J61 (rec : Int32 → Int32 → Option (Int32)) (x1 : Int32) (x3 : Int32) (s0 : Int32) (s1 : Int32) (μ : la_Mem) : Option (Int32) :=
  la_st ((s1 + s0)) (fun v62 => fX8_riskOf_J63 rec x1 v62 x3 μ)
set_option maxRecDepth 10000 in
theorem wX8_riskOf_J61 {z : LMz} {l : Launch} {Post : Int32 → la_Mem → Prop} {Φ : Nat → List (Nat × Value) → List Value → la_Mem → Prop} (C : la_C (LM z) l rmX8_riskOf RX8 cX8_riskOf 5 (some .int) Post Φ) (rec : Int32 → Int32 → Option (Int32)) (x1 : Int32) (x3 : Int32) (s0 : Int32) (s1 : Int32) (μ : la_Mem)  (ex : (Int32)) (hrec : ∀ (y2 : Int32) (y3 : Int32), rec y2 y3 = some ex → Φ 4 [(0, .ref (z.2.1 0)), (1, .int x1), (2, .int y2), (3, .int y3)] [] μ) (kx : ∀ (y2 : Int32), ex = y2 → Φ 69 [(2, .int y2)] [] μ) (h : fX8_riskOf_J61 rec x1 x3 s0 s1 μ = some ex) : Φ 61 [(0, .ref (z.2.1 0)), (1, .int x1), (3, .int x3)] [.int s0, .int s1] μ := by
  unfold fX8_riskOf_J61 at h
  refine la_iadd C dX8_riskOf_61 ?_
  obtain ⟨v62, ev62, h⟩ := la_so h
  refine la_nm C ev62 ?_
  refine la_istore_n C dX8_riskOf_62 (by decide) rfl ?_
  refine la_sub C [1, 2, 0, 3] rfl ?_
  exact wX8_riskOf_J63 C rec _ _ _ _  _ hrec kx h
def fX8_riskOf_J60 (rec : Int32 → Int32 → Option (Int32)) (x1 : Int32) (x3 : Int32) (s0 : Int32) (μ : la_Mem) : Option (Int32) :=
  fX8_riskOf_J61 rec x1 x3 0 s0 μ
set_option maxRecDepth 10000 in
theorem wX8_riskOf_J60 {z : LMz} {l : Launch} {Post : Int32 → la_Mem → Prop} {Φ : Nat → List (Nat × Value) → List Value → la_Mem → Prop} (C : la_C (LM z) l rmX8_riskOf RX8 cX8_riskOf 5 (some .int) Post Φ) (rec : Int32 → Int32 → Option (Int32)) (x1 : Int32) (x3 : Int32) (s0 : Int32) (μ : la_Mem)  (ex : (Int32)) (hrec : ∀ (y2 : Int32) (y3 : Int32), rec y2 y3 = some ex → Φ 4 [(0, .ref (z.2.1 0)), (1, .int x1), (2, .int y2), (3, .int y3)] [] μ) (kx : ∀ (y2 : Int32), ex = y2 → Φ 69 [(2, .int y2)] [] μ) (h : fX8_riskOf_J60 rec x1 x3 s0 μ = some ex) : Φ 60 [(0, .ref (z.2.1 0)), (1, .int x1), (3, .int x3)] [.int s0] μ := by
  unfold fX8_riskOf_J60 at h
  refine la_iconst C (v := 0) dX8_riskOf_60 (by decide) ?_
  refine la_sub C [0, 1, 2] rfl ?_
  exact wX8_riskOf_J61 C rec _ _ _ _ _  _ hrec kx h
def fX8_riskOf_L4 (x1 : Int32) (μ : la_Mem) : Nat → Int32 → Int32 → Option (Int32)
  | 0, _, _ => none
  | n + 1, x2, x3 => if 7 ≤ x3 then (some x2) else (la_if (la_ix x1 12) (if (((μ 2 (Int32.toNatClampNeg x1)) >>> (x3 &&& 31)) &&& 1) = 1 then (la_if (la_ix x1 12) ((fX8_fallsAt ((μ 2 (Int32.toNatClampNeg x1)) &&& ((1 <<< (x3 &&& 31)) ^^^ (-1))) μ).bind (fun r37 => if r37 = x1 then (fX8_riskOf_J60 (fX8_riskOf_L4 x1 μ n) x1 x3 x2 μ) else (if r37 = 12 then (fX8_riskOf_J60 (fX8_riskOf_L4 x1 μ n) x1 x3 x2 μ) else (fX8_riskOf_J61 (fX8_riskOf_L4 x1 μ n) x1 x3 1 x2 μ))))) else (fX8_riskOf_J63 (fX8_riskOf_L4 x1 μ n) x1 x2 x3 μ)))
set_option maxRecDepth 10000 in
theorem wX8_riskOf_L4 {z : LMz} {l : Launch} {Post : Int32 → la_Mem → Prop} {Φ : Nat → List (Nat × Value) → List Value → la_Mem → Prop} (C : la_C (LM z) l rmX8_riskOf RX8 cX8_riskOf 5 (some .int) Post Φ) (x1 : Int32) (μ : la_Mem)  (ex : (Int32)) (kx : ∀ (y2 : Int32), ex = y2 → Φ 69 [(2, .int y2)] [] μ) : ∀ (n : Nat) (x2 : Int32) (x3 : Int32), fX8_riskOf_L4 x1 μ n x2 x3 = some ex → Φ 4 [(0, .ref (z.2.1 0)), (1, .int x1), (2, .int x2), (3, .int x3)] [] μ := by
  intro n
  induction n with
  | zero =>
    intro _ _ h
    cases h
  | succ n hrec =>
    intro x2 x3 h
    rw [fX8_riskOf_L4] at h
    refine la_iload_n C dX8_riskOf_4 3 rfl ?_
    refine la_bipush C (v := 7) dX8_riskOf_5 (by decide) ?_
    refine la_icmp_ge C (tgt := 69) dX8_riskOf_7 (by decide) (fun hc => ?_) (fun hc => ?_)
    · replace h := la_t hc h
      refine la_sub C [2] rfl ?_
      exact kx _ (Option.some.inj h).symm
    · replace h := la_f hc h
      refine la_aload_n C dX8_riskOf_10 0 rfl ?_
      refine GLMRX8_13 C dX8_riskOf_11 ?_
      refine la_iload_n C dX8_riskOf_14 1 rfl ?_
      obtain ⟨hi15, h⟩ := la_go h
      refine ALM2 C _ rfl hi15 dX8_riskOf_15 ?_
      refine la_iload_n C dX8_riskOf_16 3 rfl ?_
      refine la_ishr C dX8_riskOf_17 ?_
      refine la_iconst C (v := 1) dX8_riskOf_18 (by decide) ?_
      refine la_iand C dX8_riskOf_19 ?_
      refine la_iconst C (v := 1) dX8_riskOf_20 (by decide) ?_
      refine la_icmp_ne C (tgt := 63) dX8_riskOf_21 (by decide) (fun hc => ?_) (fun hc => ?_)
      · replace h := la_f hc h
        refine la_sub C [0, 1, 2, 3] rfl ?_
        exact wX8_riskOf_J63 C (fX8_riskOf_L4 x1 μ n) _ _ _ _  _ hrec kx h
      · replace h := la_t hc h
        refine la_aload_n C dX8_riskOf_24 0 rfl ?_
        refine la_aload_n C dX8_riskOf_25 0 rfl ?_
        refine GLMRX8_13 C dX8_riskOf_26 ?_
        refine la_iload_n C dX8_riskOf_29 1 rfl ?_
        obtain ⟨hi30, h⟩ := la_go h
        refine ALM2 C _ rfl hi30 dX8_riskOf_30 ?_
        refine la_iconst C (v := 1) dX8_riskOf_31 (by decide) ?_
        refine la_iload_n C dX8_riskOf_32 3 rfl ?_
        refine la_ishl C dX8_riskOf_33 ?_
        refine la_iconst C (v := (-1)) dX8_riskOf_34 (by decide) ?_
        refine la_ixor C dX8_riskOf_35 ?_
        refine la_iand C dX8_riskOf_36 ?_
        obtain ⟨r37, hr37, h⟩ := la_bd h
        refine KLMRX8_113 C [.int ((μ 2 (Int32.toNatClampNeg x1)) &&& ((1 <<< (x3 &&& 31)) ^^^ (-1)))] [] (mX8_fallsAt ((μ 2 (Int32.toNatClampNeg x1)) &&& ((1 <<< (x3 &&& 31)) ^^^ (-1))) μ r37 hr37) ⟨by decide, by decide⟩ rfl rfl (Nat.le_of_ble_eq_true rfl) dX8_riskOf_37 ?_
        refine la_istore C dX8_riskOf_40 (by decide) rfl ?_
        refine la_iload_n C dX8_riskOf_42 3 rfl ?_
        refine la_iload C dX8_riskOf_43 0 rfl ?_
        refine la_iload_n C dX8_riskOf_45 2 rfl ?_
        refine la_icmp_eq C (tgt := 60) dX8_riskOf_46 (by decide) (fun hc => ?_) (fun hc => ?_)
        · replace h := la_t hc h
          refine la_sub C [1, 2, 4] rfl ?_
          exact wX8_riskOf_J60 C (fX8_riskOf_L4 x1 μ n) _ _ _ _  _ hrec kx h
        · replace h := la_f hc h
          refine la_iload C dX8_riskOf_49 0 rfl ?_
          refine la_bipush C (v := 12) dX8_riskOf_51 (by decide) ?_
          refine la_icmp_eq C (tgt := 60) dX8_riskOf_53 (by decide) (fun hc => ?_) (fun hc => ?_)
          · replace h := la_t hc h
            refine la_sub C [1, 2, 4] rfl ?_
            exact wX8_riskOf_J60 C (fX8_riskOf_L4 x1 μ n) _ _ _ _  _ hrec kx h
          · replace h := la_f hc h
            refine la_iconst C (v := 1) dX8_riskOf_56 (by decide) ?_
            refine la_goto C (tgt := 61) dX8_riskOf_57 (by decide) ?_
            refine la_sub C [1, 2, 4] rfl ?_
            exact wX8_riskOf_J61 C (fX8_riskOf_L4 x1 μ n) _ _ _ _ _  _ hrec kx h
def fX8_riskOf (x1 : Int32) (μ : la_Mem) : Option Int32 :=
  Option.bind (fX8_riskOf_L4 x1 μ 400 0 0) (fun q4_2 => some q4_2)
set_option maxRecDepth 10000 in
theorem mX8_riskOf {z : LMz} {l : Launch} (x1 : Int32) (μ : la_Mem) (r0 : Int32)  (h : fX8_riskOf x1 μ = some r0) : la_M (LM z) l yX8_riskOf cX8_riskOf 5 (some .int) rmX8_riskOf [.ref (z.2.1 0), .int x1] μ (fun r' μ' => r' = r0 ∧ μ' = μ) := by
  refine la_of (own := RX8) (lv := [(0, .ref (z.2.1 0)), (1, .int x1)]) (by decide) rfl (Nat.le_of_ble_eq_true rfl) rfl (fun Φ C => ?_)
  unfold fX8_riskOf at h
  have hret : r0 = r0 ∧ μ = μ := ⟨rfl, rfl⟩
  refine la_iconst C (v := 0) dX8_riskOf_0 (by decide) ?_
  refine la_istore_n C dX8_riskOf_1 (by decide) rfl ?_
  refine la_iconst C (v := 0) dX8_riskOf_2 (by decide) ?_
  refine la_istore_n C dX8_riskOf_3 (by decide) rfl ?_
  obtain ⟨q4_2, hL4, h⟩ := la_bd h
  refine la_sub C [2, 3, 1, 0] rfl ?_
  refine wX8_riskOf_L4 C _ _  _ (fun _ e => ?_) _ _ _ hL4
  cases e
  refine la_iload_n C dX8_riskOf_69 0 rfl ?_
  exact la_iret C rfl (la_rR (P := (fun r' μ' => r' = r0 ∧ μ' = μ)) h hret) dX8_riskOf_70

def fX8_risk (x1 : Int32) (μ : la_Mem) : Option Int32 :=
  (fX8_isTwelve x1 μ).bind (fun r1 => if r1 = 0 then (some (-1)) else ((fX8_riskOf x1 μ).bind (fun r9 => some r9)))
set_option maxRecDepth 10000 in
theorem mX8_risk {z : LMz} {l : Launch} (x1 : Int32) (μ : la_Mem) (r0 : Int32)  (h : fX8_risk x1 μ = some r0) : la_M (LM z) l yX8_risk cX8_risk 2 (some .int) rmX8_risk [.ref (z.2.1 0), .int x1] μ (fun r' μ' => r' = r0 ∧ μ' = μ) := by
  refine la_of (own := RX8) (lv := [(0, .ref (z.2.1 0)), (1, .int x1)]) (by decide) rfl (Nat.le_of_ble_eq_true rfl) rfl (fun Φ C => ?_)
  unfold fX8_risk at h
  have hret : r0 = r0 ∧ μ = μ := ⟨rfl, rfl⟩
  refine la_iload_n C dX8_risk_0 1 rfl ?_
  obtain ⟨r1, hr1, h⟩ := la_bd h
  refine KLMRX8_91 C [.int x1] [] (mX8_isTwelve x1 μ r1 hr1) ⟨by decide, by decide⟩ rfl rfl (Nat.le_of_ble_eq_true rfl) dX8_risk_1 ?_
  refine la_if_eq C (tgt := 15) dX8_risk_4 (by decide) (fun hc => ?_) (fun hc => ?_)
  · replace h := la_t hc h
    refine la_iconst C (v := (-1)) dX8_risk_15 (by decide) ?_
    exact la_iret C rfl (la_rR (P := (fun r' μ' => r' = r0 ∧ μ' = μ)) h hret) dX8_risk_16
  · replace h := la_f hc h
    refine la_aload_n C dX8_risk_7 0 rfl ?_
    refine la_iload_n C dX8_risk_8 1 rfl ?_
    obtain ⟨r9, hr9, h⟩ := la_bd h
    refine KLMRX8_221 C [.int x1] [] (mX8_riskOf x1 μ r9 hr9) ⟨by decide, by decide⟩ rfl rfl (Nat.le_of_ble_eq_true rfl) dX8_risk_9 ?_
    refine la_goto C (tgt := 16) dX8_risk_12 (by decide) ?_
    exact la_iret C rfl (la_rR (P := (fun r' μ' => r' = r0 ∧ μ' = μ)) h hret) dX8_risk_16

def fX8_better_L70 (x1 : Int32) (x2 : Int32) (x3 : Int32) (x4 : Int32) (x5 : Int32) (x6 : Int32) (μ : la_Mem) : Nat → Int32 → Int32 → Option (Int32)
  | 0, _, _ => none
  | n + 1, x7, x8 => if 12 ≤ x8 then (some x7) else ((fX8_riskOf x8 μ).bind (fun r82 => la_st ((x7 + r82)) (fun v86 => (fX8_better_L70 x1 x2 x3 x4 x5 x6 μ n) v86 (x8 + 1))))
set_option maxRecDepth 10000 in
theorem wX8_better_L70 {z : LMz} {l : Launch} {Post : Int32 → la_Mem → Prop} {Φ : Nat → List (Nat × Value) → List Value → la_Mem → Prop} (C : la_C (LM z) l rmX8_better RX8 cX8_better 9 (some .int) Post Φ) (x1 : Int32) (x2 : Int32) (x3 : Int32) (x4 : Int32) (x5 : Int32) (x6 : Int32) (μ : la_Mem)  (ex : (Int32)) (kx : ∀ (y7 : Int32), ex = y7 → Φ 94 [(0, .ref (z.2.1 0)), (1, .int x1), (2, .int x2), (3, .int x3), (4, .int x4), (5, .int x5), (6, .int x6), (7, .int y7)] [] μ) : ∀ (n : Nat) (x7 : Int32) (x8 : Int32), fX8_better_L70 x1 x2 x3 x4 x5 x6 μ n x7 x8 = some ex → Φ 70 [(0, .ref (z.2.1 0)), (1, .int x1), (2, .int x2), (3, .int x3), (4, .int x4), (5, .int x5), (6, .int x6), (7, .int x7), (8, .int x8)] [] μ := by
  intro n
  induction n with
  | zero =>
    intro _ _ h
    cases h
  | succ n hrec =>
    intro x7 x8 h
    rw [fX8_better_L70] at h
    refine la_iload C dX8_better_70 8 rfl ?_
    refine la_bipush C (v := 12) dX8_better_72 (by decide) ?_
    refine la_icmp_ge C (tgt := 94) dX8_better_74 (by decide) (fun hc => ?_) (fun hc => ?_)
    · replace h := la_t hc h
      refine la_sub C [0, 1, 2, 3, 4, 5, 6, 7] rfl ?_
      exact kx _ (Option.some.inj h).symm
    · replace h := la_f hc h
      refine la_iload C dX8_better_77 7 rfl ?_
      refine la_aload_n C dX8_better_79 0 rfl ?_
      refine la_iload C dX8_better_80 8 rfl ?_
      obtain ⟨r82, hr82, h⟩ := la_bd h
      refine KLMRX8_221 C [.int x8] [.int x7] (mX8_riskOf x8 μ r82 hr82) ⟨by decide, by decide⟩ rfl rfl (Nat.le_of_ble_eq_true rfl) dX8_better_82 ?_
      refine la_iadd C dX8_better_85 ?_
      obtain ⟨v86, ev86, h⟩ := la_so h
      refine la_nm C ev86 ?_
      refine la_istore C dX8_better_86 (by decide) rfl ?_
      refine la_iinc C (v := (x8 + 1)) dX8_better_88 8 rfl rfl (by decide) rfl ?_
      refine la_goto C (tgt := 70) dX8_better_91 (by decide) ?_
      refine la_sub C [2, 3, 4, 5, 6, 7, 8, 1, 0] rfl ?_
      exact hrec _ _ h
def fX8_better_J141 (rec : Int32 → Int32 → Int32 → la_Mem → Option (Int32 × la_Mem)) (x1 : Int32) (x2 : Int32) (x3 : Int32) (x4 : Int32) (x6 : Int32) (s0 : Int32) (μ : la_Mem) : Option (Int32 × la_Mem) :=
  rec x4 s0 (x6 + 1) μ
set_option maxRecDepth 10000 in
theorem wX8_better_J141 {z : LMz} {l : Launch} {Post : Int32 → la_Mem → Prop} {Φ : Nat → List (Nat × Value) → List Value → la_Mem → Prop} (C : la_C (LM z) l rmX8_better RX8 cX8_better 9 (some .int) Post Φ) (rec : Int32 → Int32 → Int32 → la_Mem → Option (Int32 × la_Mem)) (x1 : Int32) (x2 : Int32) (x3 : Int32) (x4 : Int32) (x6 : Int32) (s0 : Int32) (μ : la_Mem)  (ex : (Int32 × la_Mem)) (hrec : ∀ (y4 : Int32) (y5 : Int32) (y6 : Int32) (ν : la_Mem), rec y4 y5 y6 ν = some ex → Φ 35 [(0, .ref (z.2.1 0)), (1, .int x1), (2, .int x2), (3, .int x3), (4, .int y4), (5, .int y5), (6, .int y6)] [] ν) (kx : ∀ (y4 : Int32) (ν : la_Mem), ex = (y4, ν) → Φ 149 [(0, .ref (z.2.1 0)), (1, .int x1), (2, .int x2), (3, .int x3), (4, .int y4)] [] ν) (h : fX8_better_J141 rec x1 x2 x3 x4 x6 s0 μ = some ex) : Φ 141 [(0, .ref (z.2.1 0)), (1, .int x1), (2, .int x2), (3, .int x3), (4, .int x4), (6, .int x6)] [.int s0] μ := by
  unfold fX8_better_J141 at h
  refine la_istore C dX8_better_141 (by decide) rfl ?_
  refine la_iinc C (v := (x6 + 1)) dX8_better_143 6 rfl rfl (by decide) rfl ?_
  refine la_goto C (tgt := 35) dX8_better_146 (by decide) ?_
  refine la_sub C [2, 3, 4, 5, 6, 1, 0] rfl ?_
  exact hrec _ _ _ _ h
def fX8_better_J127 (rec : Int32 → Int32 → Int32 → la_Mem → Option (Int32 × la_Mem)) (x1 : Int32) (x2 : Int32) (x3 : Int32) (x5 : Int32) (x6 : Int32) (x7 : Int32) (x8 : Int32) (s0 : Int32) (μ : la_Mem) : Option (Int32 × la_Mem) :=
  if x8 = 0 then (fX8_better_J141 rec x1 x2 x3 s0 x6 x5 μ) else (fX8_better_J141 rec x1 x2 x3 s0 x6 x7 μ)
set_option maxRecDepth 10000 in
theorem wX8_better_J127 {z : LMz} {l : Launch} {Post : Int32 → la_Mem → Prop} {Φ : Nat → List (Nat × Value) → List Value → la_Mem → Prop} (C : la_C (LM z) l rmX8_better RX8 cX8_better 9 (some .int) Post Φ) (rec : Int32 → Int32 → Int32 → la_Mem → Option (Int32 × la_Mem)) (x1 : Int32) (x2 : Int32) (x3 : Int32) (x5 : Int32) (x6 : Int32) (x7 : Int32) (x8 : Int32) (s0 : Int32) (μ : la_Mem)  (ex : (Int32 × la_Mem)) (hrec : ∀ (y4 : Int32) (y5 : Int32) (y6 : Int32) (ν : la_Mem), rec y4 y5 y6 ν = some ex → Φ 35 [(0, .ref (z.2.1 0)), (1, .int x1), (2, .int x2), (3, .int x3), (4, .int y4), (5, .int y5), (6, .int y6)] [] ν) (kx : ∀ (y4 : Int32) (ν : la_Mem), ex = (y4, ν) → Φ 149 [(0, .ref (z.2.1 0)), (1, .int x1), (2, .int x2), (3, .int x3), (4, .int y4)] [] ν) (h : fX8_better_J127 rec x1 x2 x3 x5 x6 x7 x8 s0 μ = some ex) : Φ 127 [(0, .ref (z.2.1 0)), (1, .int x1), (2, .int x2), (3, .int x3), (5, .int x5), (6, .int x6), (7, .int x7), (8, .int x8)] [.int s0] μ := by
  unfold fX8_better_J127 at h
  refine la_istore C dX8_better_127 (by decide) rfl ?_
  refine la_iload C dX8_better_129 8 rfl ?_
  refine la_if_eq C (tgt := 139) dX8_better_131 (by decide) (fun hc => ?_) (fun hc => ?_)
  · replace h := la_t hc h
    refine la_iload C dX8_better_139 5 rfl ?_
    refine la_sub C [1, 2, 3, 4, 0, 6] rfl ?_
    exact wX8_better_J141 C rec _ _ _ _ _ _ _  _ hrec kx h
  · replace h := la_f hc h
    refine la_iload C dX8_better_134 7 rfl ?_
    refine la_goto C (tgt := 141) dX8_better_136 (by decide) ?_
    refine la_sub C [1, 2, 3, 4, 0, 6] rfl ?_
    exact wX8_better_J141 C rec _ _ _ _ _ _ _  _ hrec kx h
def fX8_better_J113 (rec : Int32 → Int32 → Int32 → la_Mem → Option (Int32 × la_Mem)) (x1 : Int32) (x2 : Int32) (x3 : Int32) (x4 : Int32) (x5 : Int32) (x6 : Int32) (x7 : Int32) (s0 : Int32) (μ : la_Mem) : Option (Int32 × la_Mem) :=
  if s0 = 0 then (fX8_better_J127 rec x1 x2 x3 x5 x6 x7 s0 x4 μ) else (fX8_better_J127 rec x1 x2 x3 x5 x6 x7 s0 x6 μ)
set_option maxRecDepth 10000 in
theorem wX8_better_J113 {z : LMz} {l : Launch} {Post : Int32 → la_Mem → Prop} {Φ : Nat → List (Nat × Value) → List Value → la_Mem → Prop} (C : la_C (LM z) l rmX8_better RX8 cX8_better 9 (some .int) Post Φ) (rec : Int32 → Int32 → Int32 → la_Mem → Option (Int32 × la_Mem)) (x1 : Int32) (x2 : Int32) (x3 : Int32) (x4 : Int32) (x5 : Int32) (x6 : Int32) (x7 : Int32) (s0 : Int32) (μ : la_Mem)  (ex : (Int32 × la_Mem)) (hrec : ∀ (y4 : Int32) (y5 : Int32) (y6 : Int32) (ν : la_Mem), rec y4 y5 y6 ν = some ex → Φ 35 [(0, .ref (z.2.1 0)), (1, .int x1), (2, .int x2), (3, .int x3), (4, .int y4), (5, .int y5), (6, .int y6)] [] ν) (kx : ∀ (y4 : Int32) (ν : la_Mem), ex = (y4, ν) → Φ 149 [(0, .ref (z.2.1 0)), (1, .int x1), (2, .int x2), (3, .int x3), (4, .int y4)] [] ν) (h : fX8_better_J113 rec x1 x2 x3 x4 x5 x6 x7 s0 μ = some ex) : Φ 113 [(0, .ref (z.2.1 0)), (1, .int x1), (2, .int x2), (3, .int x3), (4, .int x4), (5, .int x5), (6, .int x6), (7, .int x7)] [.int s0] μ := by
  unfold fX8_better_J113 at h
  refine la_istore C dX8_better_113 (by decide) rfl ?_
  refine la_iload C dX8_better_115 0 rfl ?_
  refine la_if_eq C (tgt := 125) dX8_better_117 (by decide) (fun hc => ?_) (fun hc => ?_)
  · replace h := la_t hc h
    refine la_iload C dX8_better_125 5 rfl ?_
    refine la_sub C [1, 2, 3, 4, 6, 7, 8, 0] rfl ?_
    exact wX8_better_J127 C rec _ _ _ _ _ _ _ _ _  _ hrec kx h
  · replace h := la_f hc h
    refine la_iload C dX8_better_120 7 rfl ?_
    refine la_goto C (tgt := 127) dX8_better_122 (by decide) ?_
    refine la_sub C [1, 2, 3, 4, 6, 7, 8, 0] rfl ?_
    exact wX8_better_J127 C rec _ _ _ _ _ _ _ _ _  _ hrec kx h
def fX8_better_J112 (rec : Int32 → Int32 → Int32 → la_Mem → Option (Int32 × la_Mem)) (x1 : Int32) (x2 : Int32) (x3 : Int32) (x4 : Int32) (x5 : Int32) (x6 : Int32) (x7 : Int32) (μ : la_Mem) : Option (Int32 × la_Mem) :=
  fX8_better_J113 rec x1 x2 x3 x4 x5 x6 x7 0 μ
set_option maxRecDepth 10000 in
theorem wX8_better_J112 {z : LMz} {l : Launch} {Post : Int32 → la_Mem → Prop} {Φ : Nat → List (Nat × Value) → List Value → la_Mem → Prop} (C : la_C (LM z) l rmX8_better RX8 cX8_better 9 (some .int) Post Φ) (rec : Int32 → Int32 → Int32 → la_Mem → Option (Int32 × la_Mem)) (x1 : Int32) (x2 : Int32) (x3 : Int32) (x4 : Int32) (x5 : Int32) (x6 : Int32) (x7 : Int32) (μ : la_Mem)  (ex : (Int32 × la_Mem)) (hrec : ∀ (y4 : Int32) (y5 : Int32) (y6 : Int32) (ν : la_Mem), rec y4 y5 y6 ν = some ex → Φ 35 [(0, .ref (z.2.1 0)), (1, .int x1), (2, .int x2), (3, .int x3), (4, .int y4), (5, .int y5), (6, .int y6)] [] ν) (kx : ∀ (y4 : Int32) (ν : la_Mem), ex = (y4, ν) → Φ 149 [(0, .ref (z.2.1 0)), (1, .int x1), (2, .int x2), (3, .int x3), (4, .int y4)] [] ν) (h : fX8_better_J112 rec x1 x2 x3 x4 x5 x6 x7 μ = some ex) : Φ 112 [(0, .ref (z.2.1 0)), (1, .int x1), (2, .int x2), (3, .int x3), (4, .int x4), (5, .int x5), (6, .int x6), (7, .int x7)] [] μ := by
  unfold fX8_better_J112 at h
  refine la_iconst C (v := 0) dX8_better_112 (by decide) ?_
  refine la_sub C [0, 1, 2, 3, 4, 5, 6, 7] rfl ?_
  exact wX8_better_J113 C rec _ _ _ _ _ _ _ _ _  _ hrec kx h
def fX8_better_L35 (x1 : Int32) (x2 : Int32) (x3 : Int32) : Nat → Int32 → Int32 → Int32 → la_Mem → Option (Int32 × la_Mem)
  | 0, _, _, _, _ => none
  | n + 1, x4, x5, x6, μ => if 128 ≤ x6 then (some (x4, μ)) else (la_if (la_ix x1 12) (la_st (la_ms μ 2 (Int32.toNatClampNeg x1) x6) (fun μ50 => la_if (la_ix x1 12) (la_st (la_ms μ50 3 (Int32.toNatClampNeg x1) (127 &&& (x6 ^^^ (-1)))) (fun μ63 => Option.bind (fX8_better_L70 x1 x2 x3 x4 x5 x6 μ63 400 0 0) (fun q70_7 => (fX8_astray  μ63).bind (fun r95 => if 0 ≤ r95 then (fX8_better_J112 (fX8_better_L35 x1 x2 x3 n) x1 x2 x3 x4 x5 x6 q70_7 μ63) else (if x5 ≤ q70_7 then (fX8_better_J112 (fX8_better_L35 x1 x2 x3 n) x1 x2 x3 x4 x5 x6 q70_7 μ63) else (fX8_better_J113 (fX8_better_L35 x1 x2 x3 n) x1 x2 x3 x4 x5 x6 q70_7 1 μ63)))))))))
set_option maxRecDepth 10000 in
theorem wX8_better_L35 {z : LMz} {l : Launch} {Post : Int32 → la_Mem → Prop} {Φ : Nat → List (Nat × Value) → List Value → la_Mem → Prop} (C : la_C (LM z) l rmX8_better RX8 cX8_better 9 (some .int) Post Φ) (x1 : Int32) (x2 : Int32) (x3 : Int32)  (ex : (Int32 × la_Mem)) (kx : ∀ (y4 : Int32) (ν : la_Mem), ex = (y4, ν) → Φ 149 [(0, .ref (z.2.1 0)), (1, .int x1), (2, .int x2), (3, .int x3), (4, .int y4)] [] ν) : ∀ (n : Nat) (x4 : Int32) (x5 : Int32) (x6 : Int32) (μ : la_Mem), fX8_better_L35 x1 x2 x3 n x4 x5 x6 μ = some ex → Φ 35 [(0, .ref (z.2.1 0)), (1, .int x1), (2, .int x2), (3, .int x3), (4, .int x4), (5, .int x5), (6, .int x6)] [] μ := by
  intro n
  induction n with
  | zero =>
    intro _ _ _ _ h
    cases h
  | succ n hrec =>
    intro x4 x5 x6 μ h
    rw [fX8_better_L35] at h
    refine la_iload C dX8_better_35 6 rfl ?_
    refine la_sipush C (v := 128) dX8_better_37 (by decide) ?_
    refine la_icmp_ge C (tgt := 149) dX8_better_40 (by decide) (fun hc => ?_) (fun hc => ?_)
    · replace h := la_t hc h
      refine la_sub C [0, 1, 2, 3, 4] rfl ?_
      exact kx _ _ (Option.some.inj h).symm
    · replace h := la_f hc h
      refine la_aload_n C dX8_better_43 0 rfl ?_
      refine GLMRX8_13 C dX8_better_44 ?_
      refine la_iload_n C dX8_better_47 1 rfl ?_
      refine la_iload C dX8_better_48 6 rfl ?_
      obtain ⟨hi50, h⟩ := la_go h
      obtain ⟨μ50, eμ50, h⟩ := la_so h
      refine BLM2 C _ rfl hi50 eμ50 dX8_better_50 ?_
      refine la_aload_n C dX8_better_51 0 rfl ?_
      refine GLMRX8_16 C dX8_better_52 ?_
      refine la_iload_n C dX8_better_55 1 rfl ?_
      refine la_bipush C (v := 127) dX8_better_56 (by decide) ?_
      refine la_iload C dX8_better_58 6 rfl ?_
      refine la_iconst C (v := (-1)) dX8_better_60 (by decide) ?_
      refine la_ixor C dX8_better_61 ?_
      refine la_iand C dX8_better_62 ?_
      obtain ⟨hi63, h⟩ := la_go h
      obtain ⟨μ63, eμ63, h⟩ := la_so h
      refine BLM3 C _ rfl hi63 eμ63 dX8_better_63 ?_
      refine la_iconst C (v := 0) dX8_better_64 (by decide) ?_
      refine la_istore C dX8_better_65 (by decide) rfl ?_
      refine la_iconst C (v := 0) dX8_better_67 (by decide) ?_
      refine la_istore C dX8_better_68 (by decide) rfl ?_
      obtain ⟨q70_7, hL70, h⟩ := la_bd h
      refine la_sub C [2, 3, 4, 5, 6, 7, 8, 1, 0] rfl ?_
      refine wX8_better_L70 C _ _ _ _ _ _ _  _ (fun _ e => ?_) _ _ _ hL70
      cases e
      refine la_aload_n C dX8_better_94 0 rfl ?_
      obtain ⟨r95, hr95, h⟩ := la_bd h
      refine KLMRX8_224 C [] [] (mX8_astray  μ63 r95 hr95) ⟨by decide, by decide⟩ rfl rfl (Nat.le_of_ble_eq_true rfl) dX8_better_95 ?_
      refine la_if_ge C (tgt := 112) dX8_better_98 (by decide) (fun hc => ?_) (fun hc => ?_)
      · replace h := la_t hc h
        refine la_sub C [0, 1, 2, 3, 4, 5, 6, 7] rfl ?_
        exact wX8_better_J112 C (fX8_better_L35 x1 x2 x3 n) _ _ _ _ _ _ _ _  _ hrec kx h
      · replace h := la_f hc h
        refine la_iload C dX8_better_101 7 rfl ?_
        refine la_iload C dX8_better_103 5 rfl ?_
        refine la_icmp_ge C (tgt := 112) dX8_better_105 (by decide) (fun hc => ?_) (fun hc => ?_)
        · replace h := la_t hc h
          refine la_sub C [0, 1, 2, 3, 4, 5, 6, 7] rfl ?_
          exact wX8_better_J112 C (fX8_better_L35 x1 x2 x3 n) _ _ _ _ _ _ _ _  _ hrec kx h
        · replace h := la_f hc h
          refine la_iconst C (v := 1) dX8_better_108 (by decide) ?_
          refine la_goto C (tgt := 113) dX8_better_109 (by decide) ?_
          refine la_sub C [0, 1, 2, 3, 4, 5, 6, 7] rfl ?_
          exact wX8_better_J113 C (fX8_better_L35 x1 x2 x3 n) _ _ _ _ _ _ _ _ _  _ hrec kx h
def fX8_better (x1 : Int32) (μ : la_Mem) : Option (Int32 × la_Mem) :=
  (fX8_isTwelve x1 μ).bind (fun r1 => if r1 = 0 then (some ((-1), μ)) else (la_if (la_ix x1 12) (la_st ((μ 2 (Int32.toNatClampNeg x1))) (fun v15 => la_if (la_ix x1 12) (la_st ((μ 3 (Int32.toNatClampNeg x1))) (fun v22 => la_b2 (fX8_better_L35 x1 v15 v22 400 (-4) 1000 1 μ) (fun q35_4 ν35 => la_if (la_ix x1 12) (la_st (la_ms ν35 2 (Int32.toNatClampNeg x1) v15) (fun μ155 => la_if (la_ix x1 12) (la_st (la_ms μ155 3 (Int32.toNatClampNeg x1) v22) (fun μ162 => some (q35_4, μ162))))))))))))
set_option maxRecDepth 10000 in
theorem mX8_better {z : LMz} {l : Launch} (x1 : Int32) (μ : la_Mem) (r0 : Int32) (μ0 : la_Mem)  (h : fX8_better x1 μ = some (r0, μ0)) : la_M (LM z) l yX8_better cX8_better 9 (some .int) rmX8_better [.ref (z.2.1 0), .int x1] μ (fun r' μ' => r' = r0 ∧ μ' = μ0) := by
  refine la_of (own := RX8) (lv := [(0, .ref (z.2.1 0)), (1, .int x1)]) (by decide) rfl (Nat.le_of_ble_eq_true rfl) rfl (fun Φ C => ?_)
  unfold fX8_better at h
  have hret : r0 = r0 ∧ μ0 = μ0 := ⟨rfl, rfl⟩
  refine la_iload_n C dX8_better_0 1 rfl ?_
  obtain ⟨r1, hr1, h⟩ := la_bd h
  refine KLMRX8_91 C [.int x1] [] (mX8_isTwelve x1 μ r1 hr1) ⟨by decide, by decide⟩ rfl rfl (Nat.le_of_ble_eq_true rfl) dX8_better_1 ?_
  refine la_if_ne C (tgt := 9) dX8_better_4 (by decide) (fun hc => ?_) (fun hc => ?_)
  · replace h := la_f hc h
    refine la_aload_n C dX8_better_9 0 rfl ?_
    refine GLMRX8_13 C dX8_better_10 ?_
    refine la_iload_n C dX8_better_13 1 rfl ?_
    obtain ⟨hi14, h⟩ := la_go h
    refine ALM2 C _ rfl hi14 dX8_better_14 ?_
    obtain ⟨v15, ev15, h⟩ := la_so h
    refine la_nm C ev15 ?_
    refine la_istore_n C dX8_better_15 (by decide) rfl ?_
    refine la_aload_n C dX8_better_16 1 rfl ?_
    refine GLMRX8_16 C dX8_better_17 ?_
    refine la_iload_n C dX8_better_20 2 rfl ?_
    obtain ⟨hi21, h⟩ := la_go h
    refine ALM3 C _ rfl hi21 dX8_better_21 ?_
    obtain ⟨v22, ev22, h⟩ := la_so h
    refine la_nm C ev22 ?_
    refine la_istore_n C dX8_better_22 (by decide) rfl ?_
    refine la_bipush C (v := (-4)) dX8_better_23 (by decide) ?_
    refine la_istore C dX8_better_25 (by decide) rfl ?_
    refine la_sipush C (v := 1000) dX8_better_27 (by decide) ?_
    refine la_istore C dX8_better_30 (by decide) rfl ?_
    refine la_iconst C (v := 1) dX8_better_32 (by decide) ?_
    refine la_istore C dX8_better_33 (by decide) rfl ?_
    obtain ⟨q35_4, ν35, hL35, h⟩ := la_b2o h
    refine la_sub C [5, 6, 4, 3, 2, 1, 0] rfl ?_
    refine wX8_better_L35 C _ _ _  _ (fun _ _ e => ?_) _ _ _ _ _ hL35
    cases e
    refine la_aload_n C dX8_better_149 0 rfl ?_
    refine GLMRX8_13 C dX8_better_150 ?_
    refine la_iload_n C dX8_better_153 1 rfl ?_
    refine la_iload_n C dX8_better_154 2 rfl ?_
    obtain ⟨hi155, h⟩ := la_go h
    obtain ⟨μ155, eμ155, h⟩ := la_so h
    refine BLM2 C _ rfl hi155 eμ155 dX8_better_155 ?_
    refine la_aload_n C dX8_better_156 0 rfl ?_
    refine GLMRX8_16 C dX8_better_157 ?_
    refine la_iload_n C dX8_better_160 1 rfl ?_
    refine la_iload_n C dX8_better_161 3 rfl ?_
    obtain ⟨hi162, h⟩ := la_go h
    obtain ⟨μ162, eμ162, h⟩ := la_so h
    refine BLM3 C _ rfl hi162 eμ162 dX8_better_162 ?_
    refine la_iload C dX8_better_163 4 rfl ?_
    exact la_iret C rfl (la_rW (P := (fun r' μ' => r' = r0 ∧ μ' = μ0)) h hret) dX8_better_165
  · replace h := la_t hc h
    refine la_iconst C (v := (-1)) dX8_better_7 (by decide) ?_
    exact la_iret C rfl (la_rW (P := (fun r' μ' => r' = r0 ∧ μ' = μ0)) h hret) dX8_better_8

def fX8_sheet_L46 (x1 : Int32) (x3 : Int32) : Nat → Int32 → la_Mem → Option (la_Mem)
  | 0, _, _ => none
  | n + 1, x4, μ => if 40 ≤ x4 then (some μ) else (la_if (la_ix ((40 * x1) + x4) 160) (la_st (la_ms μ 24 (Int32.toNatClampNeg ((40 * x1) + x4)) 0) (fun μ65 => (fX8_sheet_L46 x1 x3 n) (x4 + 1) μ65)))
set_option maxRecDepth 10000 in
theorem wX8_sheet_L46 {z : LMz} {l : Launch} {Post : Int32 → la_Mem → Prop} {Φ : Nat → List (Nat × Value) → List Value → la_Mem → Prop} (C : la_C (LM z) l rmX8_sheet RX8 cX8_sheet 5 (some .int) Post Φ) (x1 : Int32) (x3 : Int32)  (ex : (la_Mem)) (kx : ∀  (ν : la_Mem), ex = ν → Φ 72 [(3, .int x3)] [] ν) : ∀ (n : Nat) (x4 : Int32) (μ : la_Mem), fX8_sheet_L46 x1 x3 n x4 μ = some ex → Φ 46 [(0, .ref (z.2.1 0)), (1, .int x1), (3, .int x3), (4, .int x4)] [] μ := by
  intro n
  induction n with
  | zero =>
    intro _ _ h
    cases h
  | succ n hrec =>
    intro x4 μ h
    rw [fX8_sheet_L46] at h
    refine la_iload C dX8_sheet_46 3 rfl ?_
    refine la_bipush C (v := 40) dX8_sheet_48 (by decide) ?_
    refine la_icmp_ge C (tgt := 72) dX8_sheet_50 (by decide) (fun hc => ?_) (fun hc => ?_)
    · replace h := la_t hc h
      refine la_sub C [2] rfl ?_
      exact kx _ (Option.some.inj h).symm
    · replace h := la_f hc h
      refine la_aload_n C dX8_sheet_53 0 rfl ?_
      refine GLMRX8_79 C dX8_sheet_54 ?_
      refine la_bipush C (v := 40) dX8_sheet_57 (by decide) ?_
      refine la_iload_n C dX8_sheet_59 1 rfl ?_
      refine la_imul C dX8_sheet_60 ?_
      refine la_iload C dX8_sheet_61 3 rfl ?_
      refine la_iadd C dX8_sheet_63 ?_
      refine la_iconst C (v := 0) dX8_sheet_64 (by decide) ?_
      obtain ⟨hi65, h⟩ := la_go h
      obtain ⟨μ65, eμ65, h⟩ := la_so h
      refine BLM24 C _ rfl hi65 eμ65 dX8_sheet_65 ?_
      refine la_iinc C (v := (x4 + 1)) dX8_sheet_66 3 rfl rfl (by decide) rfl ?_
      refine la_goto C (tgt := 46) dX8_sheet_69 (by decide) ?_
      refine la_sub C [1, 2, 3, 0] rfl ?_
      exact hrec _ _ h
def fX8_sheet (x1 : Int32) (x2 : Int32) (x3 : Int32) (μ : la_Mem) : Option (Int32 × la_Mem) :=
  (fX8_isSheet x1 μ).bind (fun r1 => if r1 = 0 then (some ((-1), μ)) else ((fX8_isLane x2 μ).bind (fun r8 => if r8 = 0 then (some ((-1), μ)) else (if x3 ≤ 40 then (if 0 ≤ x3 then (la_if (la_ix x1 4) (la_st (la_ms μ 22 (Int32.toNatClampNeg x1) x2) (fun μ35 => la_if (la_ix x1 4) (la_st (la_ms μ35 23 (Int32.toNatClampNeg x1) x3) (fun μ42 => Option.bind (fX8_sheet_L46 x1 x3 400 0 μ42) (fun ν46 => some (x3, ν46))))))) else (some ((-14), μ))) else (some ((-1), μ))))))
set_option maxRecDepth 10000 in
theorem mX8_sheet {z : LMz} {l : Launch} (x1 : Int32) (x2 : Int32) (x3 : Int32) (μ : la_Mem) (r0 : Int32) (μ0 : la_Mem)  (h : fX8_sheet x1 x2 x3 μ = some (r0, μ0)) : la_M (LM z) l yX8_sheet cX8_sheet 5 (some .int) rmX8_sheet [.ref (z.2.1 0), .int x1, .int x2, .int x3] μ (fun r' μ' => r' = r0 ∧ μ' = μ0) := by
  refine la_of (own := RX8) (lv := [(0, .ref (z.2.1 0)), (1, .int x1), (2, .int x2), (3, .int x3)]) (by decide) rfl (Nat.le_of_ble_eq_true rfl) rfl (fun Φ C => ?_)
  unfold fX8_sheet at h
  have hret : r0 = r0 ∧ μ0 = μ0 := ⟨rfl, rfl⟩
  refine la_iload_n C dX8_sheet_0 1 rfl ?_
  obtain ⟨r1, hr1, h⟩ := la_bd h
  refine KLMRX8_101 C [.int x1] [] (mX8_isSheet x1 μ r1 hr1) ⟨by decide, by decide⟩ rfl rfl (Nat.le_of_ble_eq_true rfl) dX8_sheet_1 ?_
  refine la_if_eq C (tgt := 20) dX8_sheet_4 (by decide) (fun hc => ?_) (fun hc => ?_)
  · replace h := la_t hc h
    refine la_iconst C (v := (-1)) dX8_sheet_20 (by decide) ?_
    exact la_iret C rfl (la_rW (P := (fun r' μ' => r' = r0 ∧ μ' = μ0)) h hret) dX8_sheet_21
  · replace h := la_f hc h
    refine la_iload_n C dX8_sheet_7 2 rfl ?_
    obtain ⟨r8, hr8, h⟩ := la_bd h
    refine KLMRX8_104 C [.int x2] [] (mX8_isLane x2 μ r8 hr8) ⟨by decide, by decide⟩ rfl rfl (Nat.le_of_ble_eq_true rfl) dX8_sheet_8 ?_
    refine la_if_eq C (tgt := 20) dX8_sheet_11 (by decide) (fun hc => ?_) (fun hc => ?_)
    · replace h := la_t hc h
      refine la_iconst C (v := (-1)) dX8_sheet_20 (by decide) ?_
      exact la_iret C rfl (la_rW (P := (fun r' μ' => r' = r0 ∧ μ' = μ0)) h hret) dX8_sheet_21
    · replace h := la_f hc h
      refine la_iload_n C dX8_sheet_14 3 rfl ?_
      refine la_bipush C (v := 40) dX8_sheet_15 (by decide) ?_
      refine la_icmp_le C (tgt := 22) dX8_sheet_17 (by decide) (fun hc => ?_) (fun hc => ?_)
      · replace h := la_t hc h
        refine la_iload_n C dX8_sheet_22 3 rfl ?_
        refine la_if_ge C (tgt := 29) dX8_sheet_23 (by decide) (fun hc => ?_) (fun hc => ?_)
        · replace h := la_t hc h
          refine la_aload_n C dX8_sheet_29 0 rfl ?_
          refine GLMRX8_73 C dX8_sheet_30 ?_
          refine la_iload_n C dX8_sheet_33 1 rfl ?_
          refine la_iload_n C dX8_sheet_34 2 rfl ?_
          obtain ⟨hi35, h⟩ := la_go h
          obtain ⟨μ35, eμ35, h⟩ := la_so h
          refine BLM22 C _ rfl hi35 eμ35 dX8_sheet_35 ?_
          refine la_aload_n C dX8_sheet_36 0 rfl ?_
          refine GLMRX8_76 C dX8_sheet_37 ?_
          refine la_iload_n C dX8_sheet_40 1 rfl ?_
          refine la_iload_n C dX8_sheet_41 3 rfl ?_
          obtain ⟨hi42, h⟩ := la_go h
          obtain ⟨μ42, eμ42, h⟩ := la_so h
          refine BLM23 C _ rfl hi42 eμ42 dX8_sheet_42 ?_
          refine la_iconst C (v := 0) dX8_sheet_43 (by decide) ?_
          refine la_istore C dX8_sheet_44 (by decide) rfl ?_
          obtain ⟨ν46, hL46, h⟩ := la_bd h
          refine la_sub C [1, 2, 4, 0] rfl ?_
          refine wX8_sheet_L46 C _ _  _ (fun _ e => ?_) _ _ _ hL46
          cases e
          refine la_iload_n C dX8_sheet_72 0 rfl ?_
          exact la_iret C rfl (la_rW (P := (fun r' μ' => r' = r0 ∧ μ' = μ0)) h hret) dX8_sheet_73
        · replace h := la_f hc h
          refine la_bipush C (v := (-14)) dX8_sheet_26 (by decide) ?_
          exact la_iret C rfl (la_rW (P := (fun r' μ' => r' = r0 ∧ μ' = μ0)) h hret) dX8_sheet_28
      · replace h := la_f hc h
        refine la_iconst C (v := (-1)) dX8_sheet_20 (by decide) ?_
        exact la_iret C rfl (la_rW (P := (fun r' μ' => r' = r0 ∧ μ' = μ0)) h hret) dX8_sheet_21

def fX8_drop (x1 : Int32) (μ : la_Mem) : Option (Int32 × la_Mem) :=
  (fX8_isSheet x1 μ).bind (fun r1 => if r1 = 0 then (some ((-1), μ)) else (la_if (la_ix x1 4) (if 0 ≤ (μ 22 (Int32.toNatClampNeg x1)) then (la_if (la_ix x1 4) (la_st (la_ms μ 22 (Int32.toNatClampNeg x1) (-1)) (fun μ27 => la_if (la_ix x1 4) (some ((μ27 23 (Int32.toNatClampNeg x1)), μ27))))) else (some ((-11), μ)))))
set_option maxRecDepth 10000 in
theorem mX8_drop {z : LMz} {l : Launch} (x1 : Int32) (μ : la_Mem) (r0 : Int32) (μ0 : la_Mem)  (h : fX8_drop x1 μ = some (r0, μ0)) : la_M (LM z) l yX8_drop cX8_drop 2 (some .int) rmX8_drop [.ref (z.2.1 0), .int x1] μ (fun r' μ' => r' = r0 ∧ μ' = μ0) := by
  refine la_of (own := RX8) (lv := [(0, .ref (z.2.1 0)), (1, .int x1)]) (by decide) rfl (Nat.le_of_ble_eq_true rfl) rfl (fun Φ C => ?_)
  unfold fX8_drop at h
  have hret : r0 = r0 ∧ μ0 = μ0 := ⟨rfl, rfl⟩
  refine la_iload_n C dX8_drop_0 1 rfl ?_
  obtain ⟨r1, hr1, h⟩ := la_bd h
  refine KLMRX8_101 C [.int x1] [] (mX8_isSheet x1 μ r1 hr1) ⟨by decide, by decide⟩ rfl rfl (Nat.le_of_ble_eq_true rfl) dX8_drop_1 ?_
  refine la_if_ne C (tgt := 9) dX8_drop_4 (by decide) (fun hc => ?_) (fun hc => ?_)
  · replace h := la_f hc h
    refine la_aload_n C dX8_drop_9 0 rfl ?_
    refine GLMRX8_73 C dX8_drop_10 ?_
    refine la_iload_n C dX8_drop_13 1 rfl ?_
    obtain ⟨hi14, h⟩ := la_go h
    refine ALM22 C _ rfl hi14 dX8_drop_14 ?_
    refine la_if_ge C (tgt := 21) dX8_drop_15 (by decide) (fun hc => ?_) (fun hc => ?_)
    · replace h := la_t hc h
      refine la_aload_n C dX8_drop_21 0 rfl ?_
      refine GLMRX8_73 C dX8_drop_22 ?_
      refine la_iload_n C dX8_drop_25 1 rfl ?_
      refine la_iconst C (v := (-1)) dX8_drop_26 (by decide) ?_
      obtain ⟨hi27, h⟩ := la_go h
      obtain ⟨μ27, eμ27, h⟩ := la_so h
      refine BLM22 C _ rfl hi27 eμ27 dX8_drop_27 ?_
      refine la_aload_n C dX8_drop_28 0 rfl ?_
      refine GLMRX8_76 C dX8_drop_29 ?_
      refine la_iload_n C dX8_drop_32 1 rfl ?_
      obtain ⟨hi33, h⟩ := la_go h
      refine ALM23 C _ rfl hi33 dX8_drop_33 ?_
      exact la_iret C rfl (la_rW (P := (fun r' μ' => r' = r0 ∧ μ' = μ0)) h hret) dX8_drop_34
    · replace h := la_f hc h
      refine la_bipush C (v := (-11)) dX8_drop_18 (by decide) ?_
      exact la_iret C rfl (la_rW (P := (fun r' μ' => r' = r0 ∧ μ' = μ0)) h hret) dX8_drop_20
  · replace h := la_t hc h
    refine la_iconst C (v := (-1)) dX8_drop_7 (by decide) ?_
    exact la_iret C rfl (la_rW (P := (fun r' μ' => r' = r0 ∧ μ' = μ0)) h hret) dX8_drop_8

def fX8_item_J67 (s0 : Int32) (s1 : Int32) (μ : la_Mem) : Option (Int32 × la_Mem) :=
  la_if (la_ix s1 160) (la_st (la_ms μ 24 (Int32.toNatClampNeg s1) s0) (fun μ67 => some (1, μ67)))
set_option maxRecDepth 10000 in
theorem wX8_item_J67 {z : LMz} {l : Launch} {Post : Int32 → la_Mem → Prop} {Φ : Nat → List (Nat × Value) → List Value → la_Mem → Prop} (C : la_C (LM z) l rmX8_item RX8 cX8_item 6 (some .int) Post Φ) (s0 : Int32) (s1 : Int32) (μ : la_Mem)  (ex : (Int32 × la_Mem)) (hret : Post ex.1 ex.2) (h : fX8_item_J67 s0 s1 μ = some ex) : Φ 67 [] [.int s0, .int s1, .ref (z.2.1 24)] μ := by
  unfold fX8_item_J67 at h
  obtain ⟨hi67, h⟩ := la_go h
  obtain ⟨μ67, eμ67, h⟩ := la_so h
  refine BLM24 C _ rfl hi67 eμ67 dX8_item_67 ?_
  refine la_iconst C (v := 1) dX8_item_68 (by decide) ?_
  exact la_iret C rfl (la_rW (P := Post) h hret) dX8_item_69
def fX8_item (x1 : Int32) (x2 : Int32) (x3 : Int32) (x4 : Int32) (μ : la_Mem) : Option (Int32 × la_Mem) :=
  (fX8_isSheet x1 μ).bind (fun r1 => if r1 = 0 then (some ((-1), μ)) else ((fX8_isLane x2 μ).bind (fun r8 => if r8 = 0 then (some ((-1), μ)) else ((fX8_finds x1 x2 x3 1 μ).bind (fun r21 => if 0 ≤ r21 then (if x2 = 0 then (fX8_item_J67 (Int8.toInt32 (Int32.toInt8 x4)) ((40 * x1) + x3) μ) else (if x2 = 1 then (fX8_item_J67 (Int16.toInt32 (Int32.toInt16 x4)) ((40 * x1) + x3) μ) else (fX8_item_J67 x4 ((40 * x1) + x3) μ))) else (some (r21, μ)))))))
set_option maxRecDepth 10000 in
theorem mX8_item {z : LMz} {l : Launch} (x1 : Int32) (x2 : Int32) (x3 : Int32) (x4 : Int32) (μ : la_Mem) (r0 : Int32) (μ0 : la_Mem)  (h : fX8_item x1 x2 x3 x4 μ = some (r0, μ0)) : la_M (LM z) l yX8_item cX8_item 6 (some .int) rmX8_item [.ref (z.2.1 0), .int x1, .int x2, .int x3, .int x4] μ (fun r' μ' => r' = r0 ∧ μ' = μ0) := by
  refine la_of (own := RX8) (lv := [(0, .ref (z.2.1 0)), (1, .int x1), (2, .int x2), (3, .int x3), (4, .int x4)]) (by decide) rfl (Nat.le_of_ble_eq_true rfl) rfl (fun Φ C => ?_)
  unfold fX8_item at h
  have hret : r0 = r0 ∧ μ0 = μ0 := ⟨rfl, rfl⟩
  refine la_iload_n C dX8_item_0 1 rfl ?_
  obtain ⟨r1, hr1, h⟩ := la_bd h
  refine KLMRX8_101 C [.int x1] [] (mX8_isSheet x1 μ r1 hr1) ⟨by decide, by decide⟩ rfl rfl (Nat.le_of_ble_eq_true rfl) dX8_item_1 ?_
  refine la_if_eq C (tgt := 14) dX8_item_4 (by decide) (fun hc => ?_) (fun hc => ?_)
  · replace h := la_t hc h
    refine la_iconst C (v := (-1)) dX8_item_14 (by decide) ?_
    exact la_iret C rfl (la_rW (P := (fun r' μ' => r' = r0 ∧ μ' = μ0)) h hret) dX8_item_15
  · replace h := la_f hc h
    refine la_iload_n C dX8_item_7 2 rfl ?_
    obtain ⟨r8, hr8, h⟩ := la_bd h
    refine KLMRX8_104 C [.int x2] [] (mX8_isLane x2 μ r8 hr8) ⟨by decide, by decide⟩ rfl rfl (Nat.le_of_ble_eq_true rfl) dX8_item_8 ?_
    refine la_if_ne C (tgt := 16) dX8_item_11 (by decide) (fun hc => ?_) (fun hc => ?_)
    · replace h := la_f hc h
      refine la_aload_n C dX8_item_16 0 rfl ?_
      refine la_iload_n C dX8_item_17 1 rfl ?_
      refine la_iload_n C dX8_item_18 2 rfl ?_
      refine la_iload_n C dX8_item_19 3 rfl ?_
      refine la_iconst C (v := 1) dX8_item_20 (by decide) ?_
      obtain ⟨r21, hr21, h⟩ := la_bd h
      refine KLMRX8_107 C [.int x1, .int x2, .int x3, .int 1] [] (mX8_finds x1 x2 x3 1 μ r21 hr21) ⟨by decide, by decide⟩ rfl rfl (Nat.le_of_ble_eq_true rfl) dX8_item_21 ?_
      refine la_istore C dX8_item_24 (by decide) rfl ?_
      refine la_iload C dX8_item_26 0 rfl ?_
      refine la_if_ge C (tgt := 34) dX8_item_28 (by decide) (fun hc => ?_) (fun hc => ?_)
      · replace h := la_t hc h
        refine la_aload_n C dX8_item_34 1 rfl ?_
        refine GLMRX8_79 C dX8_item_35 ?_
        refine la_bipush C (v := 40) dX8_item_38 (by decide) ?_
        refine la_iload_n C dX8_item_40 2 rfl ?_
        refine la_imul C dX8_item_41 ?_
        refine la_iload_n C dX8_item_42 4 rfl ?_
        refine la_iadd C dX8_item_43 ?_
        refine la_iload_n C dX8_item_44 3 rfl ?_
        refine la_if_ne C (tgt := 54) dX8_item_45 (by decide) (fun hc => ?_) (fun hc => ?_)
        · replace h := la_f hc h
          refine la_iload_n C dX8_item_54 3 rfl ?_
          refine la_iconst C (v := 1) dX8_item_55 (by decide) ?_
          refine la_icmp_ne C (tgt := 65) dX8_item_56 (by decide) (fun hc => ?_) (fun hc => ?_)
          · replace h := la_f hc h
            refine la_iload C dX8_item_65 5 rfl ?_
            refine la_sub C [] rfl ?_
            exact wX8_item_J67 C _ _ _  _ hret h
          · replace h := la_t hc h
            refine la_iload C dX8_item_59 5 rfl ?_
            refine la_i2s C dX8_item_61 ?_
            refine la_goto C (tgt := 67) dX8_item_62 (by decide) ?_
            refine la_sub C [] rfl ?_
            exact wX8_item_J67 C _ _ _  _ hret h
        · replace h := la_t hc h
          refine la_iload C dX8_item_48 5 rfl ?_
          refine la_i2b C dX8_item_50 ?_
          refine la_goto C (tgt := 67) dX8_item_51 (by decide) ?_
          refine la_sub C [] rfl ?_
          exact wX8_item_J67 C _ _ _  _ hret h
      · replace h := la_f hc h
        refine la_iload C dX8_item_31 0 rfl ?_
        exact la_iret C rfl (la_rW (P := (fun r' μ' => r' = r0 ∧ μ' = μ0)) h hret) dX8_item_33
    · replace h := la_t hc h
      refine la_iconst C (v := (-1)) dX8_item_14 (by decide) ?_
      exact la_iret C rfl (la_rW (P := (fun r' μ' => r' = r0 ∧ μ' = μ0)) h hret) dX8_item_15

def fX8_copy_L101 (x1 : Int32) (x2 : Int32) (x3 : Int32) (x4 : Int32) (x5 : Int32) : Nat → Int32 → la_Mem → Option (la_Mem)
  | 0, _, _ => none
  | n + 1, x6, μ => if x5 ≤ x6 then (some μ) else (la_if (la_ix (((40 * x1) + x2) + x6) 160) (la_if (la_ix x6 40) (la_st (la_ms μ 25 (Int32.toNatClampNeg x6) (μ 24 (Int32.toNatClampNeg (((40 * x1) + x2) + x6)))) (fun μ128 => (fX8_copy_L101 x1 x2 x3 x4 x5 n) (x6 + 1) μ128))))
set_option maxRecDepth 10000 in
theorem wX8_copy_L101 {z : LMz} {l : Launch} {Post : Int32 → la_Mem → Prop} {Φ : Nat → List (Nat × Value) → List Value → la_Mem → Prop} (C : la_C (LM z) l rmX8_copy RX8 cX8_copy 7 (some .int) Post Φ) (x1 : Int32) (x2 : Int32) (x3 : Int32) (x4 : Int32) (x5 : Int32)  (ex : (la_Mem)) (kx : ∀  (ν : la_Mem), ex = ν → Φ 135 [(0, .ref (z.2.1 0)), (3, .int x3), (4, .int x4), (5, .int x5)] [] ν) : ∀ (n : Nat) (x6 : Int32) (μ : la_Mem), fX8_copy_L101 x1 x2 x3 x4 x5 n x6 μ = some ex → Φ 101 [(0, .ref (z.2.1 0)), (1, .int x1), (2, .int x2), (3, .int x3), (4, .int x4), (5, .int x5), (6, .int x6)] [] μ := by
  intro n
  induction n with
  | zero =>
    intro _ _ h
    cases h
  | succ n hrec =>
    intro x6 μ h
    rw [fX8_copy_L101] at h
    refine la_iload C dX8_copy_101 6 rfl ?_
    refine la_iload C dX8_copy_103 5 rfl ?_
    refine la_icmp_ge C (tgt := 135) dX8_copy_105 (by decide) (fun hc => ?_) (fun hc => ?_)
    · replace h := la_t hc h
      refine la_sub C [0, 3, 4, 5] rfl ?_
      exact kx _ (Option.some.inj h).symm
    · replace h := la_f hc h
      refine la_aload_n C dX8_copy_108 0 rfl ?_
      refine GLMRX8_82 C dX8_copy_109 ?_
      refine la_iload C dX8_copy_112 6 rfl ?_
      refine la_aload_n C dX8_copy_114 0 rfl ?_
      refine GLMRX8_79 C dX8_copy_115 ?_
      refine la_bipush C (v := 40) dX8_copy_118 (by decide) ?_
      refine la_iload_n C dX8_copy_120 1 rfl ?_
      refine la_imul C dX8_copy_121 ?_
      refine la_iload_n C dX8_copy_122 2 rfl ?_
      refine la_iadd C dX8_copy_123 ?_
      refine la_iload C dX8_copy_124 6 rfl ?_
      refine la_iadd C dX8_copy_126 ?_
      obtain ⟨hi127, h⟩ := la_go h
      refine ALM24 C _ rfl hi127 dX8_copy_127 ?_
      obtain ⟨hi128, h⟩ := la_go h
      obtain ⟨μ128, eμ128, h⟩ := la_so h
      refine BLM25 C _ rfl hi128 eμ128 dX8_copy_128 ?_
      refine la_iinc C (v := (x6 + 1)) dX8_copy_129 6 rfl rfl (by decide) rfl ?_
      refine la_goto C (tgt := 101) dX8_copy_132 (by decide) ?_
      refine la_sub C [1, 2, 3, 4, 5, 6, 0] rfl ?_
      exact hrec _ _ h
def fX8_copy_L138 (x3 : Int32) (x4 : Int32) (x5 : Int32) : Nat → Int32 → la_Mem → Option (la_Mem)
  | 0, _, _ => none
  | n + 1, x6, μ => if x5 ≤ x6 then (some μ) else (la_if (la_ix x6 40) (la_if (la_ix (((40 * x3) + x4) + x6) 160) (la_st (la_ms μ 24 (Int32.toNatClampNeg (((40 * x3) + x4) + x6)) (μ 25 (Int32.toNatClampNeg x6))) (fun μ166 => (fX8_copy_L138 x3 x4 x5 n) (x6 + 1) μ166))))
set_option maxRecDepth 10000 in
theorem wX8_copy_L138 {z : LMz} {l : Launch} {Post : Int32 → la_Mem → Prop} {Φ : Nat → List (Nat × Value) → List Value → la_Mem → Prop} (C : la_C (LM z) l rmX8_copy RX8 cX8_copy 7 (some .int) Post Φ) (x3 : Int32) (x4 : Int32) (x5 : Int32)  (ex : (la_Mem)) (kx : ∀  (ν : la_Mem), ex = ν → Φ 173 [(5, .int x5)] [] ν) : ∀ (n : Nat) (x6 : Int32) (μ : la_Mem), fX8_copy_L138 x3 x4 x5 n x6 μ = some ex → Φ 138 [(0, .ref (z.2.1 0)), (3, .int x3), (4, .int x4), (5, .int x5), (6, .int x6)] [] μ := by
  intro n
  induction n with
  | zero =>
    intro _ _ h
    cases h
  | succ n hrec =>
    intro x6 μ h
    rw [fX8_copy_L138] at h
    refine la_iload C dX8_copy_138 4 rfl ?_
    refine la_iload C dX8_copy_140 3 rfl ?_
    refine la_icmp_ge C (tgt := 173) dX8_copy_142 (by decide) (fun hc => ?_) (fun hc => ?_)
    · replace h := la_t hc h
      refine la_sub C [3] rfl ?_
      exact kx _ (Option.some.inj h).symm
    · replace h := la_f hc h
      refine la_aload_n C dX8_copy_145 0 rfl ?_
      refine GLMRX8_79 C dX8_copy_146 ?_
      refine la_bipush C (v := 40) dX8_copy_149 (by decide) ?_
      refine la_iload_n C dX8_copy_151 1 rfl ?_
      refine la_imul C dX8_copy_152 ?_
      refine la_iload C dX8_copy_153 2 rfl ?_
      refine la_iadd C dX8_copy_155 ?_
      refine la_iload C dX8_copy_156 4 rfl ?_
      refine la_iadd C dX8_copy_158 ?_
      refine la_aload_n C dX8_copy_159 0 rfl ?_
      refine GLMRX8_82 C dX8_copy_160 ?_
      refine la_iload C dX8_copy_163 4 rfl ?_
      obtain ⟨hi165, h⟩ := la_go h
      refine ALM25 C _ rfl hi165 dX8_copy_165 ?_
      obtain ⟨hi166, h⟩ := la_go h
      obtain ⟨μ166, eμ166, h⟩ := la_so h
      refine BLM24 C _ rfl hi166 eμ166 dX8_copy_166 ?_
      refine la_iinc C (v := (x6 + 1)) dX8_copy_167 4 rfl rfl (by decide) rfl ?_
      refine la_goto C (tgt := 138) dX8_copy_170 (by decide) ?_
      refine la_sub C [1, 2, 3, 4, 0] rfl ?_
      exact hrec _ _ h
def fX8_copy (x1 : Int32) (x2 : Int32) (x3 : Int32) (x4 : Int32) (x5 : Int32) (μ : la_Mem) : Option (Int32 × la_Mem) :=
  (fX8_isSheet x1 μ).bind (fun r1 => if r1 = 0 then (some ((-1), μ)) else ((fX8_isSheet x3 μ).bind (fun r8 => if r8 = 0 then (some ((-1), μ)) else (la_if (la_ix x1 4) (if (μ 22 (Int32.toNatClampNeg x1)) < 0 then (some ((-11), μ)) else (la_if (la_ix x3 4) (if 0 ≤ (μ 22 (Int32.toNatClampNeg x3)) then (la_if (la_ix x1 4) (la_if (la_ix x3 4) (if (μ 22 (Int32.toNatClampNeg x1)) = (μ 22 (Int32.toNatClampNeg x3)) then (if x5 < 0 then (some ((-13), μ)) else (la_if (la_ix x1 4) ((fX8_finds x1 (μ 22 (Int32.toNatClampNeg x1)) x2 x5 μ).bind (fun r71 => if r71 < 0 then (some ((-13), μ)) else (la_if (la_ix x3 4) ((fX8_finds x3 (μ 22 (Int32.toNatClampNeg x3)) x4 x5 μ).bind (fun r89 => if 0 ≤ r89 then (Option.bind (fX8_copy_L101 x1 x2 x3 x4 x5 400 0 μ) (fun ν101 => Option.bind (fX8_copy_L138 x3 x4 x5 400 0 ν101) (fun ν138 => some (x5, ν138)))) else (some ((-13), μ))))))))) else (some ((-12), μ))))) else (some ((-11), μ)))))))))
set_option maxRecDepth 10000 in
theorem mX8_copy {z : LMz} {l : Launch} (x1 : Int32) (x2 : Int32) (x3 : Int32) (x4 : Int32) (x5 : Int32) (μ : la_Mem) (r0 : Int32) (μ0 : la_Mem)  (h : fX8_copy x1 x2 x3 x4 x5 μ = some (r0, μ0)) : la_M (LM z) l yX8_copy cX8_copy 7 (some .int) rmX8_copy [.ref (z.2.1 0), .int x1, .int x2, .int x3, .int x4, .int x5] μ (fun r' μ' => r' = r0 ∧ μ' = μ0) := by
  refine la_of (own := RX8) (lv := [(0, .ref (z.2.1 0)), (1, .int x1), (2, .int x2), (3, .int x3), (4, .int x4), (5, .int x5)]) (by decide) rfl (Nat.le_of_ble_eq_true rfl) rfl (fun Φ C => ?_)
  unfold fX8_copy at h
  have hret : r0 = r0 ∧ μ0 = μ0 := ⟨rfl, rfl⟩
  refine la_iload_n C dX8_copy_0 1 rfl ?_
  obtain ⟨r1, hr1, h⟩ := la_bd h
  refine KLMRX8_101 C [.int x1] [] (mX8_isSheet x1 μ r1 hr1) ⟨by decide, by decide⟩ rfl rfl (Nat.le_of_ble_eq_true rfl) dX8_copy_1 ?_
  refine la_if_eq C (tgt := 14) dX8_copy_4 (by decide) (fun hc => ?_) (fun hc => ?_)
  · replace h := la_t hc h
    refine la_iconst C (v := (-1)) dX8_copy_14 (by decide) ?_
    exact la_iret C rfl (la_rW (P := (fun r' μ' => r' = r0 ∧ μ' = μ0)) h hret) dX8_copy_15
  · replace h := la_f hc h
    refine la_iload_n C dX8_copy_7 3 rfl ?_
    obtain ⟨r8, hr8, h⟩ := la_bd h
    refine KLMRX8_101 C [.int x3] [] (mX8_isSheet x3 μ r8 hr8) ⟨by decide, by decide⟩ rfl rfl (Nat.le_of_ble_eq_true rfl) dX8_copy_8 ?_
    refine la_if_ne C (tgt := 16) dX8_copy_11 (by decide) (fun hc => ?_) (fun hc => ?_)
    · replace h := la_f hc h
      refine la_aload_n C dX8_copy_16 0 rfl ?_
      refine GLMRX8_73 C dX8_copy_17 ?_
      refine la_iload_n C dX8_copy_20 1 rfl ?_
      obtain ⟨hi21, h⟩ := la_go h
      refine ALM22 C _ rfl hi21 dX8_copy_21 ?_
      refine la_if_lt C (tgt := 34) dX8_copy_22 (by decide) (fun hc => ?_) (fun hc => ?_)
      · replace h := la_t hc h
        refine la_bipush C (v := (-11)) dX8_copy_34 (by decide) ?_
        exact la_iret C rfl (la_rW (P := (fun r' μ' => r' = r0 ∧ μ' = μ0)) h hret) dX8_copy_36
      · replace h := la_f hc h
        refine la_aload_n C dX8_copy_25 0 rfl ?_
        refine GLMRX8_73 C dX8_copy_26 ?_
        refine la_iload_n C dX8_copy_29 3 rfl ?_
        obtain ⟨hi30, h⟩ := la_go h
        refine ALM22 C _ rfl hi30 dX8_copy_30 ?_
        refine la_if_ge C (tgt := 37) dX8_copy_31 (by decide) (fun hc => ?_) (fun hc => ?_)
        · replace h := la_t hc h
          refine la_aload_n C dX8_copy_37 0 rfl ?_
          refine GLMRX8_73 C dX8_copy_38 ?_
          refine la_iload_n C dX8_copy_41 1 rfl ?_
          obtain ⟨hi42, h⟩ := la_go h
          refine ALM22 C _ rfl hi42 dX8_copy_42 ?_
          refine la_aload_n C dX8_copy_43 0 rfl ?_
          refine GLMRX8_73 C dX8_copy_44 ?_
          refine la_iload_n C dX8_copy_47 3 rfl ?_
          obtain ⟨hi48, h⟩ := la_go h
          refine ALM22 C _ rfl hi48 dX8_copy_48 ?_
          refine la_icmp_eq C (tgt := 55) dX8_copy_49 (by decide) (fun hc => ?_) (fun hc => ?_)
          · replace h := la_t hc h
            refine la_iload C dX8_copy_55 5 rfl ?_
            refine la_if_lt C (tgt := 95) dX8_copy_57 (by decide) (fun hc => ?_) (fun hc => ?_)
            · replace h := la_t hc h
              refine la_bipush C (v := (-13)) dX8_copy_95 (by decide) ?_
              exact la_iret C rfl (la_rW (P := (fun r' μ' => r' = r0 ∧ μ' = μ0)) h hret) dX8_copy_97
            · replace h := la_f hc h
              refine la_aload_n C dX8_copy_60 0 rfl ?_
              refine la_iload_n C dX8_copy_61 1 rfl ?_
              refine la_aload_n C dX8_copy_62 0 rfl ?_
              refine GLMRX8_73 C dX8_copy_63 ?_
              refine la_iload_n C dX8_copy_66 1 rfl ?_
              obtain ⟨hi67, h⟩ := la_go h
              refine ALM22 C _ rfl hi67 dX8_copy_67 ?_
              refine la_iload_n C dX8_copy_68 2 rfl ?_
              refine la_iload C dX8_copy_69 5 rfl ?_
              obtain ⟨r71, hr71, h⟩ := la_bd h
              refine KLMRX8_107 C [.int x1, .int (μ 22 (Int32.toNatClampNeg x1)), .int x2, .int x5] [] (mX8_finds x1 (μ 22 (Int32.toNatClampNeg x1)) x2 x5 μ r71 hr71) ⟨by decide, by decide⟩ rfl rfl (Nat.le_of_ble_eq_true rfl) dX8_copy_71 ?_
              refine la_if_lt C (tgt := 95) dX8_copy_74 (by decide) (fun hc => ?_) (fun hc => ?_)
              · replace h := la_t hc h
                refine la_bipush C (v := (-13)) dX8_copy_95 (by decide) ?_
                exact la_iret C rfl (la_rW (P := (fun r' μ' => r' = r0 ∧ μ' = μ0)) h hret) dX8_copy_97
              · replace h := la_f hc h
                refine la_aload_n C dX8_copy_77 0 rfl ?_
                refine la_iload_n C dX8_copy_78 3 rfl ?_
                refine la_aload_n C dX8_copy_79 0 rfl ?_
                refine GLMRX8_73 C dX8_copy_80 ?_
                refine la_iload_n C dX8_copy_83 3 rfl ?_
                obtain ⟨hi84, h⟩ := la_go h
                refine ALM22 C _ rfl hi84 dX8_copy_84 ?_
                refine la_iload C dX8_copy_85 4 rfl ?_
                refine la_iload C dX8_copy_87 5 rfl ?_
                obtain ⟨r89, hr89, h⟩ := la_bd h
                refine KLMRX8_107 C [.int x3, .int (μ 22 (Int32.toNatClampNeg x3)), .int x4, .int x5] [] (mX8_finds x3 (μ 22 (Int32.toNatClampNeg x3)) x4 x5 μ r89 hr89) ⟨by decide, by decide⟩ rfl rfl (Nat.le_of_ble_eq_true rfl) dX8_copy_89 ?_
                refine la_if_ge C (tgt := 98) dX8_copy_92 (by decide) (fun hc => ?_) (fun hc => ?_)
                · replace h := la_t hc h
                  refine la_iconst C (v := 0) dX8_copy_98 (by decide) ?_
                  refine la_istore C dX8_copy_99 (by decide) rfl ?_
                  obtain ⟨ν101, hL101, h⟩ := la_bd h
                  refine la_sub C [1, 2, 3, 4, 5, 6, 0] rfl ?_
                  refine wX8_copy_L101 C _ _ _ _ _  _ (fun _ e => ?_) _ _ _ hL101
                  cases e
                  refine la_iconst C (v := 0) dX8_copy_135 (by decide) ?_
                  refine la_istore C dX8_copy_136 (by decide) rfl ?_
                  obtain ⟨ν138, hL138, h⟩ := la_bd h
                  refine la_sub C [1, 2, 3, 4, 0] rfl ?_
                  refine wX8_copy_L138 C _ _ _  _ (fun _ e => ?_) _ _ _ hL138
                  cases e
                  refine la_iload C dX8_copy_173 0 rfl ?_
                  exact la_iret C rfl (la_rW (P := (fun r' μ' => r' = r0 ∧ μ' = μ0)) h hret) dX8_copy_175
                · replace h := la_f hc h
                  refine la_bipush C (v := (-13)) dX8_copy_95 (by decide) ?_
                  exact la_iret C rfl (la_rW (P := (fun r' μ' => r' = r0 ∧ μ' = μ0)) h hret) dX8_copy_97
          · replace h := la_f hc h
            refine la_bipush C (v := (-12)) dX8_copy_52 (by decide) ?_
            exact la_iret C rfl (la_rW (P := (fun r' μ' => r' = r0 ∧ μ' = μ0)) h hret) dX8_copy_54
        · replace h := la_f hc h
          refine la_bipush C (v := (-11)) dX8_copy_34 (by decide) ?_
          exact la_iret C rfl (la_rW (P := (fun r' μ' => r' = r0 ∧ μ' = μ0)) h hret) dX8_copy_36
    · replace h := la_t hc h
      refine la_iconst C (v := (-1)) dX8_copy_14 (by decide) ?_
      exact la_iret C rfl (la_rW (P := (fun r' μ' => r' = r0 ∧ μ' = μ0)) h hret) dX8_copy_15

