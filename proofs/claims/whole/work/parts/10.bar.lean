def fX0_fallOf_L2 (x1 : Int32) (μ : la_Mem) : Nat → Int32 → Option (Int32 ⊕ (Unit))
  | 0, _ => none
  | n + 1, x2 => if 12 ≤ x2 then (some (.inr ())) else (la_if (la_ix x2 12) (if ((μ 3 (Int32.toNatClampNeg x2)) &&& x1) = 0 then (some (.inl x2)) else ((fX0_fallOf_L2 x1 μ n) (x2 + 1))))
set_option maxRecDepth 10000 in
theorem wX0_fallOf_L2 {z : LCz} {l : Launch} {Post : Int32 → la_Mem → Prop} {Φ : Nat → List (Nat × Value) → List Value → la_Mem → Prop} (C : la_C (LC z) l rmX0_fallOf RX0 cX0_fallOf 3 (some .int) Post Φ) (x1 : Int32) (μ : la_Mem)  (ex : (Int32 ⊕ (Unit))) (hret : ∀ q, ex = .inl q → Post q μ) (kx : ex = .inr () → Φ 27 [] [] μ) : ∀ (n : Nat) (x2 : Int32), fX0_fallOf_L2 x1 μ n x2 = some ex → Φ 2 [(0, .ref (z.2.1 1)), (1, .int x1), (2, .int x2)] [] μ := by
  intro n
  induction n with
  | zero =>
    intro _ h
    cases h
  | succ n hrec =>
    intro x2 h
    rw [fX0_fallOf_L2] at h
    refine la_iload_n C dX0_fallOf_2 2 rfl ?_
    refine la_bipush C (v := 12) dX0_fallOf_3 (by decide) ?_
    refine la_icmp_ge C (tgt := 27) dX0_fallOf_5 (by decide) (fun hc => ?_) (fun hc => ?_)
    · replace h := la_t hc h
      refine la_sub C [] rfl ?_
      exact kx (Option.some.inj h).symm
    · replace h := la_f hc h
      refine la_aload_n C dX0_fallOf_8 0 rfl ?_
      refine GLCRX0_15 C dX0_fallOf_9 ?_
      refine la_iload_n C dX0_fallOf_12 2 rfl ?_
      obtain ⟨hi13, h⟩ := la_go h
      refine ALC3 C _ rfl hi13 dX0_fallOf_13 ?_
      refine la_iload_n C dX0_fallOf_14 1 rfl ?_
      refine la_iand C dX0_fallOf_15 ?_
      refine la_if_ne C (tgt := 21) dX0_fallOf_16 (by decide) (fun hc => ?_) (fun hc => ?_)
      · replace h := la_f hc h
        refine la_iinc C (v := (x2 + 1)) dX0_fallOf_21 2 rfl rfl (by decide) rfl ?_
        refine la_goto C (tgt := 2) dX0_fallOf_24 (by decide) ?_
        refine la_sub C [1, 2, 0] rfl ?_
        exact hrec _ h
      · replace h := la_t hc h
        refine la_iload_n C dX0_fallOf_19 2 rfl ?_
        exact la_iret C rfl (hret x2 (Option.some.inj h).symm) dX0_fallOf_20
def fX0_fallOf (x1 : Int32) (μ : la_Mem) : Option Int32 :=
  la_x0 (fX0_fallOf_L2 x1 μ 400 0) some (fun _ => some 12)
set_option maxRecDepth 10000 in
theorem mX0_fallOf {z : LCz} {l : Launch} (x1 : Int32) (μ : la_Mem) (r0 : Int32)  (h : fX0_fallOf x1 μ = some r0) : la_M (LC z) l yX0_fallOf cX0_fallOf 3 (some .int) rmX0_fallOf [.ref (z.2.1 1), .int x1] μ (fun r' μ' => r' = r0 ∧ μ' = μ) := by
  refine la_of (own := RX0) (lv := [(0, .ref (z.2.1 1)), (1, .int x1)]) (by decide) rfl (Nat.le_of_ble_eq_true rfl) rfl (fun Φ C => ?_)
  unfold fX0_fallOf at h
  have hret : r0 = r0 ∧ μ = μ := ⟨rfl, rfl⟩
  refine la_iconst C (v := 0) dX0_fallOf_0 (by decide) ?_
  refine la_istore_n C dX0_fallOf_1 (by decide) rfl ?_
  rcases la_x0o h with ⟨qq2, hL2, h⟩ | ⟨hL2, h⟩
  · refine la_sub C [1, 2, 0] rfl ?_
    refine wX0_fallOf_L2 C _ _  _ (fun _ e => by cases e; cases h; exact hret) (fun e => by cases e) _ _ hL2
  · refine la_sub C [1, 2, 0] rfl ?_
    refine wX0_fallOf_L2 C _ _  _ (fun _ e => by cases e) (fun e => ?_) _ _ hL2
    cases e
    refine la_bipush C (v := 12) dX0_fallOf_27 (by decide) ?_
    exact la_iret C rfl (la_rR (P := (fun r' μ' => r' = r0 ∧ μ' = μ)) h hret) dX0_fallOf_29

def fX0_firstAstray_L2  (μ : la_Mem) : Nat → Int32 → Option (Int32 ⊕ (Unit))
  | 0, _ => none
  | n + 1, x1 => if 12 ≤ x1 then (some (.inr ())) else (la_if (la_ix x1 12) ((fX0_fallOf (μ 2 (Int32.toNatClampNeg x1)) μ).bind (fun r15 => if r15 = x1 then ((fX0_firstAstray_L2  μ n) (x1 + 1)) else (some (.inl x1)))))
set_option maxRecDepth 10000 in
theorem wX0_firstAstray_L2 {z : LCz} {l : Launch} {Post : Int32 → la_Mem → Prop} {Φ : Nat → List (Nat × Value) → List Value → la_Mem → Prop} (C : la_C (LC z) l rmX0_firstAstray RX0 cX0_firstAstray 2 (some .int) Post Φ)  (μ : la_Mem)  (ex : (Int32 ⊕ (Unit))) (hret : ∀ q, ex = .inl q → Post q μ) (kx : ex = .inr () → Φ 30 [] [] μ) : ∀ (n : Nat) (x1 : Int32), fX0_firstAstray_L2  μ n x1 = some ex → Φ 2 [(0, .ref (z.2.1 1)), (1, .int x1)] [] μ := by
  intro n
  induction n with
  | zero =>
    intro _ h
    cases h
  | succ n hrec =>
    intro x1 h
    rw [fX0_firstAstray_L2] at h
    refine la_iload_n C dX0_firstAstray_2 1 rfl ?_
    refine la_bipush C (v := 12) dX0_firstAstray_3 (by decide) ?_
    refine la_icmp_ge C (tgt := 30) dX0_firstAstray_5 (by decide) (fun hc => ?_) (fun hc => ?_)
    · replace h := la_t hc h
      refine la_sub C [] rfl ?_
      exact kx (Option.some.inj h).symm
    · replace h := la_f hc h
      refine la_aload_n C dX0_firstAstray_8 0 rfl ?_
      refine la_aload_n C dX0_firstAstray_9 0 rfl ?_
      refine GLCRX0_9 C dX0_firstAstray_10 ?_
      refine la_iload_n C dX0_firstAstray_13 1 rfl ?_
      obtain ⟨hi14, h⟩ := la_go h
      refine ALC2 C _ rfl hi14 dX0_firstAstray_14 ?_
      obtain ⟨r15, hr15, h⟩ := la_bd h
      refine KLCRX0_18 C [.int (μ 2 (Int32.toNatClampNeg x1))] [] (mX0_fallOf (μ 2 (Int32.toNatClampNeg x1)) μ r15 hr15) ⟨by decide, by decide⟩ rfl rfl (Nat.le_of_ble_eq_true rfl) dX0_firstAstray_15 ?_
      refine la_iload_n C dX0_firstAstray_18 1 rfl ?_
      refine la_icmp_eq C (tgt := 24) dX0_firstAstray_19 (by decide) (fun hc => ?_) (fun hc => ?_)
      · replace h := la_t hc h
        refine la_iinc C (v := (x1 + 1)) dX0_firstAstray_24 1 rfl rfl (by decide) rfl ?_
        refine la_goto C (tgt := 2) dX0_firstAstray_27 (by decide) ?_
        refine la_sub C [1, 0] rfl ?_
        exact hrec _ h
      · replace h := la_f hc h
        refine la_iload_n C dX0_firstAstray_22 1 rfl ?_
        exact la_iret C rfl (hret x1 (Option.some.inj h).symm) dX0_firstAstray_23
def fX0_firstAstray  (μ : la_Mem) : Option Int32 :=
  la_x0 (fX0_firstAstray_L2  μ 400 0) some (fun _ => some (-4))
set_option maxRecDepth 10000 in
theorem mX0_firstAstray {z : LCz} {l : Launch}  (μ : la_Mem) (r0 : Int32)  (h : fX0_firstAstray  μ = some r0) : la_M (LC z) l yX0_firstAstray cX0_firstAstray 2 (some .int) rmX0_firstAstray [.ref (z.2.1 1)] μ (fun r' μ' => r' = r0 ∧ μ' = μ) := by
  refine la_of (own := RX0) (lv := [(0, .ref (z.2.1 1))]) (by decide) rfl (Nat.le_of_ble_eq_true rfl) rfl (fun Φ C => ?_)
  unfold fX0_firstAstray at h
  have hret : r0 = r0 ∧ μ = μ := ⟨rfl, rfl⟩
  refine la_iconst C (v := 0) dX0_firstAstray_0 (by decide) ?_
  refine la_istore_n C dX0_firstAstray_1 (by decide) rfl ?_
  rcases la_x0o h with ⟨qq2, hL2, h⟩ | ⟨hL2, h⟩
  · refine la_sub C [1, 0] rfl ?_
    refine wX0_firstAstray_L2 C _  _ (fun _ e => by cases e; cases h; exact hret) (fun e => by cases e) _ _ hL2
  · refine la_sub C [1, 0] rfl ?_
    refine wX0_firstAstray_L2 C _  _ (fun _ e => by cases e) (fun e => ?_) _ _ hL2
    cases e
    refine la_bipush C (v := (-4)) dX0_firstAstray_30 (by decide) ?_
    exact la_iret C rfl (la_rR (P := (fun r' μ' => r' = r0 ∧ μ' = μ)) h hret) dX0_firstAstray_32

def fJ6_bitCount_0f7a4 (x0 : Int32) (μ : la_Mem) : Option Int32 :=
  la_st ((x0 - ((la_us x0 1) &&& 1431655765))) (fun v9 => la_st (((v9 &&& 858993459) + ((la_us v9 2) &&& 858993459))) (fun v23 => la_st (((v23 + (la_us v23 4)) &&& 252645135)) (fun v33 => la_st ((v33 + (la_us v33 8))) (fun v40 => la_st ((v40 + (la_us v40 16))) (fun v47 => some (v47 &&& 63))))))
set_option maxRecDepth 10000 in
theorem mJ6_bitCount_0f7a4 {z : LCz} {l : Launch} (x0 : Int32) (μ : la_Mem) (r0 : Int32)  (h : fJ6_bitCount_0f7a4 x0 μ = some r0) : la_M (LC z) l yJ6_bitCount_0f7a4 cJ6_bitCount_0f7a4 1 (some .int) rmJ6_bitCount_0f7a4 [.int x0] μ (fun r' μ' => r' = r0 ∧ μ' = μ) := by
  refine la_of (own := RJ6) (lv := [(0, .int x0)]) (by decide) rfl (Nat.le_of_ble_eq_true rfl) rfl (fun Φ C => ?_)
  unfold fJ6_bitCount_0f7a4 at h
  have hret : r0 = r0 ∧ μ = μ := ⟨rfl, rfl⟩
  refine la_iload_n C dJ6_bitCount_0f7a4_0 0 rfl ?_
  refine la_iload_n C dJ6_bitCount_0f7a4_1 0 rfl ?_
  refine la_iconst C (v := 1) dJ6_bitCount_0f7a4_2 (by decide) ?_
  refine la_iushr C dJ6_bitCount_0f7a4_3 ?_
  refine la_ldcw C (v := 1431655765) wd_283 dJ6_bitCount_0f7a4_4 ?_
  refine la_iand C dJ6_bitCount_0f7a4_7 ?_
  refine la_isub C dJ6_bitCount_0f7a4_8 ?_
  obtain ⟨v9, ev9, h⟩ := la_so h
  refine la_nm C ev9 ?_
  refine la_istore_n C dJ6_bitCount_0f7a4_9 (by decide) rfl ?_
  refine la_iload_n C dJ6_bitCount_0f7a4_10 0 rfl ?_
  refine la_ldcw C (v := 858993459) wd_284 dJ6_bitCount_0f7a4_11 ?_
  refine la_iand C dJ6_bitCount_0f7a4_14 ?_
  refine la_iload_n C dJ6_bitCount_0f7a4_15 0 rfl ?_
  refine la_iconst C (v := 2) dJ6_bitCount_0f7a4_16 (by decide) ?_
  refine la_iushr C dJ6_bitCount_0f7a4_17 ?_
  refine la_ldcw C (v := 858993459) wd_284 dJ6_bitCount_0f7a4_18 ?_
  refine la_iand C dJ6_bitCount_0f7a4_21 ?_
  refine la_iadd C dJ6_bitCount_0f7a4_22 ?_
  obtain ⟨v23, ev23, h⟩ := la_so h
  refine la_nm C ev23 ?_
  refine la_istore_n C dJ6_bitCount_0f7a4_23 (by decide) rfl ?_
  refine la_iload_n C dJ6_bitCount_0f7a4_24 0 rfl ?_
  refine la_iload_n C dJ6_bitCount_0f7a4_25 0 rfl ?_
  refine la_iconst C (v := 4) dJ6_bitCount_0f7a4_26 (by decide) ?_
  refine la_iushr C dJ6_bitCount_0f7a4_27 ?_
  refine la_iadd C dJ6_bitCount_0f7a4_28 ?_
  refine la_ldcw C (v := 252645135) wd_285 dJ6_bitCount_0f7a4_29 ?_
  refine la_iand C dJ6_bitCount_0f7a4_32 ?_
  obtain ⟨v33, ev33, h⟩ := la_so h
  refine la_nm C ev33 ?_
  refine la_istore_n C dJ6_bitCount_0f7a4_33 (by decide) rfl ?_
  refine la_iload_n C dJ6_bitCount_0f7a4_34 0 rfl ?_
  refine la_iload_n C dJ6_bitCount_0f7a4_35 0 rfl ?_
  refine la_bipush C (v := 8) dJ6_bitCount_0f7a4_36 (by decide) ?_
  refine la_iushr C dJ6_bitCount_0f7a4_38 ?_
  refine la_iadd C dJ6_bitCount_0f7a4_39 ?_
  obtain ⟨v40, ev40, h⟩ := la_so h
  refine la_nm C ev40 ?_
  refine la_istore_n C dJ6_bitCount_0f7a4_40 (by decide) rfl ?_
  refine la_iload_n C dJ6_bitCount_0f7a4_41 0 rfl ?_
  refine la_iload_n C dJ6_bitCount_0f7a4_42 0 rfl ?_
  refine la_bipush C (v := 16) dJ6_bitCount_0f7a4_43 (by decide) ?_
  refine la_iushr C dJ6_bitCount_0f7a4_45 ?_
  refine la_iadd C dJ6_bitCount_0f7a4_46 ?_
  obtain ⟨v47, ev47, h⟩ := la_so h
  refine la_nm C ev47 ?_
  refine la_istore_n C dJ6_bitCount_0f7a4_47 (by decide) rfl ?_
  refine la_iload_n C dJ6_bitCount_0f7a4_48 0 rfl ?_
  refine la_bipush C (v := 63) dJ6_bitCount_0f7a4_49 (by decide) ?_
  refine la_iand C dJ6_bitCount_0f7a4_51 ?_
  exact la_iret C rfl (la_rR (P := (fun r' μ' => r' = r0 ∧ μ' = μ)) h hret) dJ6_bitCount_0f7a4_52

def fX0_fewestLost_J79 (rec : Int32 → Int32 → Option (Int32)) (x2 : Int32) (x3 : Int32) (x4 : Int32) (x5 : Int32) (μ : la_Mem) : Option (Int32) :=
  rec x4 (x5 + 1)
set_option maxRecDepth 10000 in
theorem wX0_fewestLost_J79 {z : LCz} {l : Launch} {Post : Int32 → la_Mem → Prop} {Φ : Nat → List (Nat × Value) → List Value → la_Mem → Prop} (C : la_C (LC z) l rmX0_fewestLost RX0 cX0_fewestLost 7 (some .int) Post Φ) (rec : Int32 → Int32 → Option (Int32)) (x2 : Int32) (x3 : Int32) (x4 : Int32) (x5 : Int32) (μ : la_Mem)  (ex : (Int32)) (hrec : ∀ (y4 : Int32) (y5 : Int32), rec y4 y5 = some ex → Φ 14 [(0, .ref (z.2.1 1)), (2, .int x2), (3, .int x3), (4, .int y4), (5, .int y5)] [] μ) (kx : ∀ (y4 : Int32), ex = y4 → Φ 85 [(4, .int y4)] [] μ) (h : fX0_fewestLost_J79 rec x2 x3 x4 x5 μ = some ex) : Φ 79 [(0, .ref (z.2.1 1)), (2, .int x2), (3, .int x3), (4, .int x4), (5, .int x5)] [] μ := by
  unfold fX0_fewestLost_J79 at h
  refine la_iinc C (v := (x5 + 1)) dX0_fewestLost_79 4 rfl rfl (by decide) rfl ?_
  refine la_goto C (tgt := 14) dX0_fewestLost_82 (by decide) ?_
  refine la_sub C [1, 2, 3, 4, 0] rfl ?_
  exact hrec _ _ h
def fX0_fewestLost_J75 (rec : Int32 → Int32 → Option (Int32)) (x2 : Int32) (x3 : Int32) (x5 : Int32) (μ : la_Mem) : Option (Int32) :=
  fX0_fewestLost_J79 rec x2 x3 x5 x5 μ
set_option maxRecDepth 10000 in
theorem wX0_fewestLost_J75 {z : LCz} {l : Launch} {Post : Int32 → la_Mem → Prop} {Φ : Nat → List (Nat × Value) → List Value → la_Mem → Prop} (C : la_C (LC z) l rmX0_fewestLost RX0 cX0_fewestLost 7 (some .int) Post Φ) (rec : Int32 → Int32 → Option (Int32)) (x2 : Int32) (x3 : Int32) (x5 : Int32) (μ : la_Mem)  (ex : (Int32)) (hrec : ∀ (y4 : Int32) (y5 : Int32), rec y4 y5 = some ex → Φ 14 [(0, .ref (z.2.1 1)), (2, .int x2), (3, .int x3), (4, .int y4), (5, .int y5)] [] μ) (kx : ∀ (y4 : Int32), ex = y4 → Φ 85 [(4, .int y4)] [] μ) (h : fX0_fewestLost_J75 rec x2 x3 x5 μ = some ex) : Φ 75 [(0, .ref (z.2.1 1)), (2, .int x2), (3, .int x3), (5, .int x5)] [] μ := by
  unfold fX0_fewestLost_J75 at h
  refine la_iload C dX0_fewestLost_75 3 rfl ?_
  refine la_istore C dX0_fewestLost_77 (by decide) rfl ?_
  refine la_sub C [1, 2, 3, 0, 4] rfl ?_
  exact wX0_fewestLost_J79 C rec _ _ _ _ _  _ hrec kx h
def fX0_fewestLost_J48 (rec : Int32 → Int32 → Option (Int32)) (x2 : Int32) (x3 : Int32) (x4 : Int32) (x5 : Int32) (s0 : Int32) (μ : la_Mem) : Option (Int32) :=
  if s0 = 0 then (fX0_fewestLost_J79 rec x2 x3 x4 x5 μ) else (if x4 = (-4) then (fX0_fewestLost_J75 rec x2 x3 x5 μ) else ((fJ6_bitCount_0f7a4 x5 μ).bind (fun r64 => (fJ6_bitCount_0f7a4 x4 μ).bind (fun r69 => if r69 ≤ r64 then (fX0_fewestLost_J79 rec x2 x3 x4 x5 μ) else (fX0_fewestLost_J75 rec x2 x3 x5 μ)))))
set_option maxRecDepth 10000 in
theorem wX0_fewestLost_J48 {z : LCz} {l : Launch} {Post : Int32 → la_Mem → Prop} {Φ : Nat → List (Nat × Value) → List Value → la_Mem → Prop} (C : la_C (LC z) l rmX0_fewestLost RX0 cX0_fewestLost 7 (some .int) Post Φ) (rec : Int32 → Int32 → Option (Int32)) (x2 : Int32) (x3 : Int32) (x4 : Int32) (x5 : Int32) (s0 : Int32) (μ : la_Mem)  (ex : (Int32)) (hrec : ∀ (y4 : Int32) (y5 : Int32), rec y4 y5 = some ex → Φ 14 [(0, .ref (z.2.1 1)), (2, .int x2), (3, .int x3), (4, .int y4), (5, .int y5)] [] μ) (kx : ∀ (y4 : Int32), ex = y4 → Φ 85 [(4, .int y4)] [] μ) (h : fX0_fewestLost_J48 rec x2 x3 x4 x5 s0 μ = some ex) : Φ 48 [(0, .ref (z.2.1 1)), (2, .int x2), (3, .int x3), (4, .int x4), (5, .int x5)] [.int s0] μ := by
  unfold fX0_fewestLost_J48 at h
  refine la_istore C dX0_fewestLost_48 (by decide) rfl ?_
  refine la_iload C dX0_fewestLost_50 0 rfl ?_
  refine la_if_eq C (tgt := 79) dX0_fewestLost_52 (by decide) (fun hc => ?_) (fun hc => ?_)
  · replace h := la_t hc h
    refine la_sub C [1, 2, 3, 4, 5] rfl ?_
    exact wX0_fewestLost_J79 C rec _ _ _ _ _  _ hrec kx h
  · replace h := la_f hc h
    refine la_iload C dX0_fewestLost_55 4 rfl ?_
    refine la_bipush C (v := (-4)) dX0_fewestLost_57 (by decide) ?_
    refine la_icmp_eq C (tgt := 75) dX0_fewestLost_59 (by decide) (fun hc => ?_) (fun hc => ?_)
    · replace h := la_t hc h
      refine la_sub C [1, 2, 3, 5] rfl ?_
      exact wX0_fewestLost_J75 C rec _ _ _ _  _ hrec kx h
    · replace h := la_f hc h
      refine la_iload C dX0_fewestLost_62 5 rfl ?_
      obtain ⟨r64, hr64, h⟩ := la_bd h
      refine KLCRX0_22 C [.int x5] [] (mJ6_bitCount_0f7a4 x5 μ r64 hr64) ⟨by decide, by decide⟩ rfl rfl (Nat.le_of_ble_eq_true rfl) dX0_fewestLost_64 ?_
      refine la_iload C dX0_fewestLost_67 4 rfl ?_
      obtain ⟨r69, hr69, h⟩ := la_bd h
      refine KLCRX0_22 C [.int x4] [.int r64] (mJ6_bitCount_0f7a4 x4 μ r69 hr69) ⟨by decide, by decide⟩ rfl rfl (Nat.le_of_ble_eq_true rfl) dX0_fewestLost_69 ?_
      refine la_icmp_ge C (tgt := 79) dX0_fewestLost_72 (by decide) (fun hc => ?_) (fun hc => ?_)
      · replace h := la_t hc h
        refine la_sub C [1, 2, 3, 4, 5] rfl ?_
        exact wX0_fewestLost_J79 C rec _ _ _ _ _  _ hrec kx h
      · replace h := la_f hc h
        refine la_sub C [1, 2, 3, 5] rfl ?_
        exact wX0_fewestLost_J75 C rec _ _ _ _  _ hrec kx h
def fX0_fewestLost_J47 (rec : Int32 → Int32 → Option (Int32)) (x2 : Int32) (x3 : Int32) (x4 : Int32) (x5 : Int32) (μ : la_Mem) : Option (Int32) :=
  fX0_fewestLost_J48 rec x2 x3 x4 x5 0 μ
set_option maxRecDepth 10000 in
theorem wX0_fewestLost_J47 {z : LCz} {l : Launch} {Post : Int32 → la_Mem → Prop} {Φ : Nat → List (Nat × Value) → List Value → la_Mem → Prop} (C : la_C (LC z) l rmX0_fewestLost RX0 cX0_fewestLost 7 (some .int) Post Φ) (rec : Int32 → Int32 → Option (Int32)) (x2 : Int32) (x3 : Int32) (x4 : Int32) (x5 : Int32) (μ : la_Mem)  (ex : (Int32)) (hrec : ∀ (y4 : Int32) (y5 : Int32), rec y4 y5 = some ex → Φ 14 [(0, .ref (z.2.1 1)), (2, .int x2), (3, .int x3), (4, .int y4), (5, .int y5)] [] μ) (kx : ∀ (y4 : Int32), ex = y4 → Φ 85 [(4, .int y4)] [] μ) (h : fX0_fewestLost_J47 rec x2 x3 x4 x5 μ = some ex) : Φ 47 [(0, .ref (z.2.1 1)), (2, .int x2), (3, .int x3), (4, .int x4), (5, .int x5)] [] μ := by
  unfold fX0_fewestLost_J47 at h
  refine la_iconst C (v := 0) dX0_fewestLost_47 (by decide) ?_
  refine la_sub C [0, 1, 2, 3, 4] rfl ?_
  exact wX0_fewestLost_J48 C rec _ _ _ _ _ _  _ hrec kx h
def fX0_fewestLost_L14 (x2 : Int32) (x3 : Int32) (μ : la_Mem) : Nat → Int32 → Int32 → Option (Int32)
  | 0, _, _ => none
  | n + 1, x4, x5 => if x3 < x5 then (some x4) else (if (x5 &&& (x3 ^^^ (-1))) = 0 then ((fX0_fallOf (x3 &&& (x5 ^^^ (-1))) μ).bind (fun r36 => if r36 = x2 then (fX0_fewestLost_J48 (fX0_fewestLost_L14 x2 x3 μ n) x2 x3 x4 x5 1 μ) else (fX0_fewestLost_J47 (fX0_fewestLost_L14 x2 x3 μ n) x2 x3 x4 x5 μ))) else (fX0_fewestLost_J47 (fX0_fewestLost_L14 x2 x3 μ n) x2 x3 x4 x5 μ))
set_option maxRecDepth 10000 in
theorem wX0_fewestLost_L14 {z : LCz} {l : Launch} {Post : Int32 → la_Mem → Prop} {Φ : Nat → List (Nat × Value) → List Value → la_Mem → Prop} (C : la_C (LC z) l rmX0_fewestLost RX0 cX0_fewestLost 7 (some .int) Post Φ) (x2 : Int32) (x3 : Int32) (μ : la_Mem)  (ex : (Int32)) (kx : ∀ (y4 : Int32), ex = y4 → Φ 85 [(4, .int y4)] [] μ) : ∀ (n : Nat) (x4 : Int32) (x5 : Int32), fX0_fewestLost_L14 x2 x3 μ n x4 x5 = some ex → Φ 14 [(0, .ref (z.2.1 1)), (2, .int x2), (3, .int x3), (4, .int x4), (5, .int x5)] [] μ := by
  intro n
  induction n with
  | zero =>
    intro _ _ h
    cases h
  | succ n hrec =>
    intro x4 x5 h
    rw [fX0_fewestLost_L14] at h
    refine la_iload C dX0_fewestLost_14 4 rfl ?_
    refine la_iload_n C dX0_fewestLost_16 2 rfl ?_
    refine la_icmp_gt C (tgt := 85) dX0_fewestLost_17 (by decide) (fun hc => ?_) (fun hc => ?_)
    · replace h := la_t hc h
      refine la_sub C [3] rfl ?_
      exact kx _ (Option.some.inj h).symm
    · replace h := la_f hc h
      refine la_iload C dX0_fewestLost_20 4 rfl ?_
      refine la_iload_n C dX0_fewestLost_22 2 rfl ?_
      refine la_iconst C (v := (-1)) dX0_fewestLost_23 (by decide) ?_
      refine la_ixor C dX0_fewestLost_24 ?_
      refine la_iand C dX0_fewestLost_25 ?_
      refine la_if_ne C (tgt := 47) dX0_fewestLost_26 (by decide) (fun hc => ?_) (fun hc => ?_)
      · replace h := la_f hc h
        refine la_sub C [0, 1, 2, 3, 4] rfl ?_
        exact wX0_fewestLost_J47 C (fX0_fewestLost_L14 x2 x3 μ n) _ _ _ _ _  _ hrec kx h
      · replace h := la_t hc h
        refine la_aload_n C dX0_fewestLost_29 0 rfl ?_
        refine la_iload_n C dX0_fewestLost_30 2 rfl ?_
        refine la_iload C dX0_fewestLost_31 4 rfl ?_
        refine la_iconst C (v := (-1)) dX0_fewestLost_33 (by decide) ?_
        refine la_ixor C dX0_fewestLost_34 ?_
        refine la_iand C dX0_fewestLost_35 ?_
        obtain ⟨r36, hr36, h⟩ := la_bd h
        refine KLCRX0_18 C [.int (x3 &&& (x5 ^^^ (-1)))] [] (mX0_fallOf (x3 &&& (x5 ^^^ (-1))) μ r36 hr36) ⟨by decide, by decide⟩ rfl rfl (Nat.le_of_ble_eq_true rfl) dX0_fewestLost_36 ?_
        refine la_iload_n C dX0_fewestLost_39 1 rfl ?_
        refine la_icmp_ne C (tgt := 47) dX0_fewestLost_40 (by decide) (fun hc => ?_) (fun hc => ?_)
        · replace h := la_f hc h
          refine la_sub C [0, 1, 2, 3, 4] rfl ?_
          exact wX0_fewestLost_J47 C (fX0_fewestLost_L14 x2 x3 μ n) _ _ _ _ _  _ hrec kx h
        · replace h := la_t hc h
          refine la_iconst C (v := 1) dX0_fewestLost_43 (by decide) ?_
          refine la_goto C (tgt := 48) dX0_fewestLost_44 (by decide) ?_
          refine la_sub C [0, 1, 2, 3, 4] rfl ?_
          exact wX0_fewestLost_J48 C (fX0_fewestLost_L14 x2 x3 μ n) _ _ _ _ _ _  _ hrec kx h
def fX0_fewestLost (x1 : Int32) (x2 : Int32) (μ : la_Mem) : Option Int32 :=
  la_if (la_ix x1 12) (la_st ((μ 2 (Int32.toNatClampNeg x1))) (fun v6 => Option.bind (fX0_fewestLost_L14 x2 v6 μ 400 (-4) 0) (fun q14_4 => some q14_4)))
set_option maxRecDepth 10000 in
theorem mX0_fewestLost {z : LCz} {l : Launch} (x1 : Int32) (x2 : Int32) (μ : la_Mem) (r0 : Int32)  (h : fX0_fewestLost x1 x2 μ = some r0) : la_M (LC z) l yX0_fewestLost cX0_fewestLost 7 (some .int) rmX0_fewestLost [.ref (z.2.1 1), .int x1, .int x2] μ (fun r' μ' => r' = r0 ∧ μ' = μ) := by
  refine la_of (own := RX0) (lv := [(0, .ref (z.2.1 1)), (1, .int x1), (2, .int x2)]) (by decide) rfl (Nat.le_of_ble_eq_true rfl) rfl (fun Φ C => ?_)
  unfold fX0_fewestLost at h
  have hret : r0 = r0 ∧ μ = μ := ⟨rfl, rfl⟩
  refine la_aload_n C dX0_fewestLost_0 0 rfl ?_
  refine GLCRX0_9 C dX0_fewestLost_1 ?_
  refine la_iload_n C dX0_fewestLost_4 1 rfl ?_
  obtain ⟨hi5, h⟩ := la_go h
  refine ALC2 C _ rfl hi5 dX0_fewestLost_5 ?_
  obtain ⟨v6, ev6, h⟩ := la_so h
  refine la_nm C ev6 ?_
  refine la_istore_n C dX0_fewestLost_6 (by decide) rfl ?_
  refine la_bipush C (v := (-4)) dX0_fewestLost_7 (by decide) ?_
  refine la_istore C dX0_fewestLost_9 (by decide) rfl ?_
  refine la_iconst C (v := 0) dX0_fewestLost_11 (by decide) ?_
  refine la_istore C dX0_fewestLost_12 (by decide) rfl ?_
  obtain ⟨q14_4, hL14, h⟩ := la_bd h
  refine la_sub C [3, 5, 2, 1, 0] rfl ?_
  refine wX0_fewestLost_L14 C _ _ _  _ (fun _ e => ?_) _ _ _ hL14
  cases e
  refine la_iload C dX0_fewestLost_85 0 rfl ?_
  exact la_iret C rfl (la_rR (P := (fun r' μ' => r' = r0 ∧ μ' = μ)) h hret) dX0_fewestLost_87

def fX0_hasTwins_L10 (x1 : Int32) (μ : la_Mem) : Nat → Int32 → Option (Int32 ⊕ (Unit))
  | 0, _ => none
  | n + 1, x2 => if x1 ≤ x2 then (some (.inr ())) else (la_if (la_ix x1 12) (la_if (la_ix x2 12) (if (μ 2 (Int32.toNatClampNeg x1)) = (μ 2 (Int32.toNatClampNeg x2)) then (some (.inl 1)) else ((fX0_hasTwins_L10 x1 μ n) (x2 + 1)))))
set_option maxRecDepth 10000 in
theorem wX0_hasTwins_L10 {z : LCz} {l : Launch} {Post : Int32 → la_Mem → Prop} {Φ : Nat → List (Nat × Value) → List Value → la_Mem → Prop} (C : la_C (LC z) l rmX0_hasTwins RX0 cX0_hasTwins 3 (some .boolean) Post Φ) (x1 : Int32) (μ : la_Mem)  (ex : (Int32 ⊕ (Unit))) (hret : ∀ q, ex = .inl q → Post q μ) (kx : ex = .inr () → Φ 38 [(0, .ref (z.2.1 1)), (1, .int x1)] [] μ) : ∀ (n : Nat) (x2 : Int32), fX0_hasTwins_L10 x1 μ n x2 = some ex → Φ 10 [(0, .ref (z.2.1 1)), (1, .int x1), (2, .int x2)] [] μ := by
  intro n
  induction n with
  | zero =>
    intro _ h
    cases h
  | succ n hrec =>
    intro x2 h
    rw [fX0_hasTwins_L10] at h
    refine la_iload_n C dX0_hasTwins_10 2 rfl ?_
    refine la_iload_n C dX0_hasTwins_11 1 rfl ?_
    refine la_icmp_ge C (tgt := 38) dX0_hasTwins_12 (by decide) (fun hc => ?_) (fun hc => ?_)
    · replace h := la_t hc h
      refine la_sub C [0, 1] rfl ?_
      exact kx (Option.some.inj h).symm
    · replace h := la_f hc h
      refine la_aload_n C dX0_hasTwins_15 0 rfl ?_
      refine GLCRX0_9 C dX0_hasTwins_16 ?_
      refine la_iload_n C dX0_hasTwins_19 1 rfl ?_
      obtain ⟨hi20, h⟩ := la_go h
      refine ALC2 C _ rfl hi20 dX0_hasTwins_20 ?_
      refine la_aload_n C dX0_hasTwins_21 0 rfl ?_
      refine GLCRX0_9 C dX0_hasTwins_22 ?_
      refine la_iload_n C dX0_hasTwins_25 2 rfl ?_
      obtain ⟨hi26, h⟩ := la_go h
      refine ALC2 C _ rfl hi26 dX0_hasTwins_26 ?_
      refine la_icmp_ne C (tgt := 32) dX0_hasTwins_27 (by decide) (fun hc => ?_) (fun hc => ?_)
      · replace h := la_f hc h
        refine la_iinc C (v := (x2 + 1)) dX0_hasTwins_32 2 rfl rfl (by decide) rfl ?_
        refine la_goto C (tgt := 10) dX0_hasTwins_35 (by decide) ?_
        refine la_sub C [1, 2, 0] rfl ?_
        exact hrec _ h
      · replace h := la_t hc h
        refine la_iconst C (v := 1) dX0_hasTwins_30 (by decide) ?_
        exact la_iret C rfl (hret 1 (Option.some.inj h).symm) dX0_hasTwins_31
def fX0_hasTwins_L2  (μ : la_Mem) : Nat → Int32 → Option (Int32 ⊕ (Unit))
  | 0, _ => none
  | n + 1, x1 => if 12 ≤ x1 then (some (.inr ())) else (la_x0 (fX0_hasTwins_L10 x1 μ 400 0) (fun q => some (.inl q)) (fun _ => (fX0_hasTwins_L2  μ n) (x1 + 1)))
set_option maxRecDepth 10000 in
theorem wX0_hasTwins_L2 {z : LCz} {l : Launch} {Post : Int32 → la_Mem → Prop} {Φ : Nat → List (Nat × Value) → List Value → la_Mem → Prop} (C : la_C (LC z) l rmX0_hasTwins RX0 cX0_hasTwins 3 (some .boolean) Post Φ)  (μ : la_Mem)  (ex : (Int32 ⊕ (Unit))) (hret : ∀ q, ex = .inl q → Post q μ) (kx : ex = .inr () → Φ 44 [] [] μ) : ∀ (n : Nat) (x1 : Int32), fX0_hasTwins_L2  μ n x1 = some ex → Φ 2 [(0, .ref (z.2.1 1)), (1, .int x1)] [] μ := by
  intro n
  induction n with
  | zero =>
    intro _ h
    cases h
  | succ n hrec =>
    intro x1 h
    rw [fX0_hasTwins_L2] at h
    refine la_iload_n C dX0_hasTwins_2 1 rfl ?_
    refine la_bipush C (v := 12) dX0_hasTwins_3 (by decide) ?_
    refine la_icmp_ge C (tgt := 44) dX0_hasTwins_5 (by decide) (fun hc => ?_) (fun hc => ?_)
    · replace h := la_t hc h
      refine la_sub C [] rfl ?_
      exact kx (Option.some.inj h).symm
    · replace h := la_f hc h
      refine la_iconst C (v := 0) dX0_hasTwins_8 (by decide) ?_
      refine la_istore_n C dX0_hasTwins_9 (by decide) rfl ?_
      rcases la_x0o h with ⟨qq10, hL10, h⟩ | ⟨hL10, h⟩
      · refine la_sub C [1, 2, 0] rfl ?_
        refine wX0_hasTwins_L10 C _ _  _ (fun _ e => by cases e; exact hret _ (Option.some.inj h).symm) (fun e => by cases e) _ _ hL10
      · refine la_sub C [1, 2, 0] rfl ?_
        refine wX0_hasTwins_L10 C _ _  _ (fun _ e => by cases e) (fun e => ?_) _ _ hL10
        cases e
        refine la_iinc C (v := (x1 + 1)) dX0_hasTwins_38 1 rfl rfl (by decide) rfl ?_
        refine la_goto C (tgt := 2) dX0_hasTwins_41 (by decide) ?_
        refine la_sub C [1, 0] rfl ?_
        exact hrec _ h
def fX0_hasTwins  (μ : la_Mem) : Option Int32 :=
  la_x0 (fX0_hasTwins_L2  μ 400 1) some (fun _ => some 0)
set_option maxRecDepth 10000 in
theorem mX0_hasTwins {z : LCz} {l : Launch}  (μ : la_Mem) (r0 : Int32)  (h : fX0_hasTwins  μ = some r0) : la_M (LC z) l yX0_hasTwins cX0_hasTwins 3 (some .boolean) rmX0_hasTwins [.ref (z.2.1 1)] μ (fun r' μ' => r' = r0 ∧ μ' = μ) := by
  refine la_of (own := RX0) (lv := [(0, .ref (z.2.1 1))]) (by decide) rfl (Nat.le_of_ble_eq_true rfl) rfl (fun Φ C => ?_)
  unfold fX0_hasTwins at h
  have hret : r0 = r0 ∧ μ = μ := ⟨rfl, rfl⟩
  refine la_iconst C (v := 1) dX0_hasTwins_0 (by decide) ?_
  refine la_istore_n C dX0_hasTwins_1 (by decide) rfl ?_
  rcases la_x0o h with ⟨qq2, hL2, h⟩ | ⟨hL2, h⟩
  · refine la_sub C [1, 0] rfl ?_
    refine wX0_hasTwins_L2 C _  _ (fun _ e => by cases e; cases h; exact hret) (fun e => by cases e) _ _ hL2
  · refine la_sub C [1, 0] rfl ?_
    refine wX0_hasTwins_L2 C _  _ (fun _ e => by cases e) (fun e => ?_) _ _ hL2
    cases e
    refine la_iconst C (v := 0) dX0_hasTwins_44 (by decide) ?_
    exact la_iret C rfl (la_rR (P := (fun r' μ' => r' = r0 ∧ μ' = μ)) h hret) dX0_hasTwins_45

def fX0_isReady_J53 (rec : Int32 → Option (Int32 ⊕ (Unit))) (x1 : Int32) (x2 : Int32) (x3 : Int32) (μ : la_Mem) : Option (Int32 ⊕ (Unit)) :=
  rec (x3 + 1)
set_option maxRecDepth 10000 in
theorem wX0_isReady_J53 {z : LCz} {l : Launch} {Post : Int32 → la_Mem → Prop} {Φ : Nat → List (Nat × Value) → List Value → la_Mem → Prop} (C : la_C (LC z) l rmX0_isReady RX0 cX0_isReady 5 (some .boolean) Post Φ) (rec : Int32 → Option (Int32 ⊕ (Unit))) (x1 : Int32) (x2 : Int32) (x3 : Int32) (μ : la_Mem)  (ex : (Int32 ⊕ (Unit))) (hrec : ∀ (y3 : Int32), rec y3 = some ex → Φ 2 [(0, .ref (z.2.1 1)), (1, .int x1), (2, .int x2), (3, .int y3)] [] μ) (hret : ∀ q, ex = .inl q → Post q μ) (kx : ex = .inr () → Φ 59 [] [] μ) (h : fX0_isReady_J53 rec x1 x2 x3 μ = some ex) : Φ 53 [(0, .ref (z.2.1 1)), (1, .int x1), (2, .int x2), (3, .int x3)] [] μ := by
  unfold fX0_isReady_J53 at h
  refine la_iinc C (v := (x3 + 1)) dX0_isReady_53 3 rfl rfl (by decide) rfl ?_
  refine la_goto C (tgt := 2) dX0_isReady_56 (by decide) ?_
  refine la_sub C [1, 2, 3, 0] rfl ?_
  exact hrec _ h
def fX0_isReady_J26 (rec : Int32 → Option (Int32 ⊕ (Unit))) (x1 : Int32) (x2 : Int32) (x3 : Int32) (s0 : Int32) (μ : la_Mem) : Option (Int32 ⊕ (Unit)) :=
  if s0 = 0 then (fX0_isReady_J53 rec x1 x2 x3 μ) else (la_if (la_ix x3 12) (la_if (la_ix x1 12) (if ((μ 2 (Int32.toNatClampNeg x3)) &&& ((μ 2 (Int32.toNatClampNeg x1)) ^^^ (-1))) = 0 then (some (.inl 0)) else (fX0_isReady_J53 rec x1 x2 x3 μ))))
set_option maxRecDepth 10000 in
theorem wX0_isReady_J26 {z : LCz} {l : Launch} {Post : Int32 → la_Mem → Prop} {Φ : Nat → List (Nat × Value) → List Value → la_Mem → Prop} (C : la_C (LC z) l rmX0_isReady RX0 cX0_isReady 5 (some .boolean) Post Φ) (rec : Int32 → Option (Int32 ⊕ (Unit))) (x1 : Int32) (x2 : Int32) (x3 : Int32) (s0 : Int32) (μ : la_Mem)  (ex : (Int32 ⊕ (Unit))) (hrec : ∀ (y3 : Int32), rec y3 = some ex → Φ 2 [(0, .ref (z.2.1 1)), (1, .int x1), (2, .int x2), (3, .int y3)] [] μ) (hret : ∀ q, ex = .inl q → Post q μ) (kx : ex = .inr () → Φ 59 [] [] μ) (h : fX0_isReady_J26 rec x1 x2 x3 s0 μ = some ex) : Φ 26 [(0, .ref (z.2.1 1)), (1, .int x1), (2, .int x2), (3, .int x3)] [.int s0] μ := by
  unfold fX0_isReady_J26 at h
  refine la_istore C dX0_isReady_26 (by decide) rfl ?_
  refine la_iload C dX0_isReady_28 0 rfl ?_
  refine la_if_eq C (tgt := 53) dX0_isReady_30 (by decide) (fun hc => ?_) (fun hc => ?_)
  · replace h := la_t hc h
    refine la_sub C [1, 2, 3, 4] rfl ?_
    exact wX0_isReady_J53 C rec _ _ _ _  _ hrec hret kx h
  · replace h := la_f hc h
    refine la_aload_n C dX0_isReady_33 1 rfl ?_
    refine GLCRX0_9 C dX0_isReady_34 ?_
    refine la_iload_n C dX0_isReady_37 4 rfl ?_
    obtain ⟨hi38, h⟩ := la_go h
    refine ALC2 C _ rfl hi38 dX0_isReady_38 ?_
    refine la_aload_n C dX0_isReady_39 1 rfl ?_
    refine GLCRX0_9 C dX0_isReady_40 ?_
    refine la_iload_n C dX0_isReady_43 2 rfl ?_
    obtain ⟨hi44, h⟩ := la_go h
    refine ALC2 C _ rfl hi44 dX0_isReady_44 ?_
    refine la_iconst C (v := (-1)) dX0_isReady_45 (by decide) ?_
    refine la_ixor C dX0_isReady_46 ?_
    refine la_iand C dX0_isReady_47 ?_
    refine la_if_ne C (tgt := 53) dX0_isReady_48 (by decide) (fun hc => ?_) (fun hc => ?_)
    · replace h := la_f hc h
      refine la_sub C [1, 2, 3, 4] rfl ?_
      exact wX0_isReady_J53 C rec _ _ _ _  _ hrec hret kx h
    · replace h := la_t hc h
      refine la_iconst C (v := 0) dX0_isReady_51 (by decide) ?_
      exact la_iret C rfl (hret 0 (Option.some.inj h).symm) dX0_isReady_52
def fX0_isReady_J25 (rec : Int32 → Option (Int32 ⊕ (Unit))) (x1 : Int32) (x2 : Int32) (x3 : Int32) (μ : la_Mem) : Option (Int32 ⊕ (Unit)) :=
  fX0_isReady_J26 rec x1 x2 x3 0 μ
set_option maxRecDepth 10000 in
theorem wX0_isReady_J25 {z : LCz} {l : Launch} {Post : Int32 → la_Mem → Prop} {Φ : Nat → List (Nat × Value) → List Value → la_Mem → Prop} (C : la_C (LC z) l rmX0_isReady RX0 cX0_isReady 5 (some .boolean) Post Φ) (rec : Int32 → Option (Int32 ⊕ (Unit))) (x1 : Int32) (x2 : Int32) (x3 : Int32) (μ : la_Mem)  (ex : (Int32 ⊕ (Unit))) (hrec : ∀ (y3 : Int32), rec y3 = some ex → Φ 2 [(0, .ref (z.2.1 1)), (1, .int x1), (2, .int x2), (3, .int y3)] [] μ) (hret : ∀ q, ex = .inl q → Post q μ) (kx : ex = .inr () → Φ 59 [] [] μ) (h : fX0_isReady_J25 rec x1 x2 x3 μ = some ex) : Φ 25 [(0, .ref (z.2.1 1)), (1, .int x1), (2, .int x2), (3, .int x3)] [] μ := by
  unfold fX0_isReady_J25 at h
  refine la_iconst C (v := 0) dX0_isReady_25 (by decide) ?_
  refine la_sub C [0, 1, 2, 3] rfl ?_
  exact wX0_isReady_J26 C rec _ _ _ _ _  _ hrec hret kx h
def fX0_isReady_L2 (x1 : Int32) (x2 : Int32) (μ : la_Mem) : Nat → Int32 → Option (Int32 ⊕ (Unit))
  | 0, _ => none
  | n + 1, x3 => if 12 ≤ x3 then (some (.inr ())) else (if x3 = x1 then (fX0_isReady_J25 (fX0_isReady_L2 x1 x2 μ n) x1 x2 x3 μ) else (if (x2 &&& (1 <<< (x3 &&& 31))) = 0 then (fX0_isReady_J26 (fX0_isReady_L2 x1 x2 μ n) x1 x2 x3 1 μ) else (fX0_isReady_J25 (fX0_isReady_L2 x1 x2 μ n) x1 x2 x3 μ)))
set_option maxRecDepth 10000 in
theorem wX0_isReady_L2 {z : LCz} {l : Launch} {Post : Int32 → la_Mem → Prop} {Φ : Nat → List (Nat × Value) → List Value → la_Mem → Prop} (C : la_C (LC z) l rmX0_isReady RX0 cX0_isReady 5 (some .boolean) Post Φ) (x1 : Int32) (x2 : Int32) (μ : la_Mem)  (ex : (Int32 ⊕ (Unit))) (hret : ∀ q, ex = .inl q → Post q μ) (kx : ex = .inr () → Φ 59 [] [] μ) : ∀ (n : Nat) (x3 : Int32), fX0_isReady_L2 x1 x2 μ n x3 = some ex → Φ 2 [(0, .ref (z.2.1 1)), (1, .int x1), (2, .int x2), (3, .int x3)] [] μ := by
  intro n
  induction n with
  | zero =>
    intro _ h
    cases h
  | succ n hrec =>
    intro x3 h
    rw [fX0_isReady_L2] at h
    refine la_iload_n C dX0_isReady_2 3 rfl ?_
    refine la_bipush C (v := 12) dX0_isReady_3 (by decide) ?_
    refine la_icmp_ge C (tgt := 59) dX0_isReady_5 (by decide) (fun hc => ?_) (fun hc => ?_)
    · replace h := la_t hc h
      refine la_sub C [] rfl ?_
      exact kx (Option.some.inj h).symm
    · replace h := la_f hc h
      refine la_iload_n C dX0_isReady_8 3 rfl ?_
      refine la_iload_n C dX0_isReady_9 1 rfl ?_
      refine la_icmp_eq C (tgt := 25) dX0_isReady_10 (by decide) (fun hc => ?_) (fun hc => ?_)
      · replace h := la_t hc h
        refine la_sub C [0, 1, 2, 3] rfl ?_
        exact wX0_isReady_J25 C (fX0_isReady_L2 x1 x2 μ n) _ _ _ _  _ hrec hret kx h
      · replace h := la_f hc h
        refine la_iload_n C dX0_isReady_13 2 rfl ?_
        refine la_iconst C (v := 1) dX0_isReady_14 (by decide) ?_
        refine la_iload_n C dX0_isReady_15 3 rfl ?_
        refine la_ishl C dX0_isReady_16 ?_
        refine la_iand C dX0_isReady_17 ?_
        refine la_if_ne C (tgt := 25) dX0_isReady_18 (by decide) (fun hc => ?_) (fun hc => ?_)
        · replace h := la_f hc h
          refine la_sub C [0, 1, 2, 3] rfl ?_
          exact wX0_isReady_J25 C (fX0_isReady_L2 x1 x2 μ n) _ _ _ _  _ hrec hret kx h
        · replace h := la_t hc h
          refine la_iconst C (v := 1) dX0_isReady_21 (by decide) ?_
          refine la_goto C (tgt := 26) dX0_isReady_22 (by decide) ?_
          refine la_sub C [0, 1, 2, 3] rfl ?_
          exact wX0_isReady_J26 C (fX0_isReady_L2 x1 x2 μ n) _ _ _ _ _  _ hrec hret kx h
def fX0_isReady (x1 : Int32) (x2 : Int32) (μ : la_Mem) : Option Int32 :=
  la_x0 (fX0_isReady_L2 x1 x2 μ 400 0) some (fun _ => some 1)
set_option maxRecDepth 10000 in
theorem mX0_isReady {z : LCz} {l : Launch} (x1 : Int32) (x2 : Int32) (μ : la_Mem) (r0 : Int32)  (h : fX0_isReady x1 x2 μ = some r0) : la_M (LC z) l yX0_isReady cX0_isReady 5 (some .boolean) rmX0_isReady [.ref (z.2.1 1), .int x1, .int x2] μ (fun r' μ' => r' = r0 ∧ μ' = μ) := by
  refine la_of (own := RX0) (lv := [(0, .ref (z.2.1 1)), (1, .int x1), (2, .int x2)]) (by decide) rfl (Nat.le_of_ble_eq_true rfl) rfl (fun Φ C => ?_)
  unfold fX0_isReady at h
  have hret : r0 = r0 ∧ μ = μ := ⟨rfl, rfl⟩
  refine la_iconst C (v := 0) dX0_isReady_0 (by decide) ?_
  refine la_istore_n C dX0_isReady_1 (by decide) rfl ?_
  rcases la_x0o h with ⟨qq2, hL2, h⟩ | ⟨hL2, h⟩
  · refine la_sub C [1, 2, 3, 0] rfl ?_
    refine wX0_isReady_L2 C _ _ _  _ (fun _ e => by cases e; cases h; exact hret) (fun e => by cases e) _ _ hL2
  · refine la_sub C [1, 2, 3, 0] rfl ?_
    refine wX0_isReady_L2 C _ _ _  _ (fun _ e => by cases e) (fun e => ?_) _ _ hL2
    cases e
    refine la_iconst C (v := 1) dX0_isReady_59 (by decide) ?_
    exact la_iret C rfl (la_rR (P := (fun r' μ' => r' = r0 ∧ μ' = μ)) h hret) dX0_isReady_60

def fX0_leastReady_J27 (rec : Int32 → Option (Int32 ⊕ (Unit))) (x1 : Int32) (x2 : Int32) (μ : la_Mem) : Option (Int32 ⊕ (Unit)) :=
  rec (x2 + 1)
set_option maxRecDepth 10000 in
theorem wX0_leastReady_J27 {z : LCz} {l : Launch} {Post : Int32 → la_Mem → Prop} {Φ : Nat → List (Nat × Value) → List Value → la_Mem → Prop} (C : la_C (LC z) l rmX0_leastReady RX0 cX0_leastReady 3 (some .int) Post Φ) (rec : Int32 → Option (Int32 ⊕ (Unit))) (x1 : Int32) (x2 : Int32) (μ : la_Mem)  (ex : (Int32 ⊕ (Unit))) (hrec : ∀ (y2 : Int32), rec y2 = some ex → Φ 2 [(0, .ref (z.2.1 1)), (1, .int x1), (2, .int y2)] [] μ) (hret : ∀ q, ex = .inl q → Post q μ) (kx : ex = .inr () → Φ 33 [] [] μ) (h : fX0_leastReady_J27 rec x1 x2 μ = some ex) : Φ 27 [(0, .ref (z.2.1 1)), (1, .int x1), (2, .int x2)] [] μ := by
  unfold fX0_leastReady_J27 at h
  refine la_iinc C (v := (x2 + 1)) dX0_leastReady_27 2 rfl rfl (by decide) rfl ?_
  refine la_goto C (tgt := 2) dX0_leastReady_30 (by decide) ?_
  refine la_sub C [1, 2, 0] rfl ?_
  exact hrec _ h
def fX0_leastReady_L2 (x1 : Int32) (μ : la_Mem) : Nat → Int32 → Option (Int32 ⊕ (Unit))
  | 0, _ => none
  | n + 1, x2 => if 11 ≤ x2 then (some (.inr ())) else (if (x1 &&& (1 <<< (x2 &&& 31))) = 0 then ((fX0_isReady x2 x1 μ).bind (fun r19 => if r19 = 0 then (fX0_leastReady_J27 (fX0_leastReady_L2 x1 μ n) x1 x2 μ) else (some (.inl x2)))) else (fX0_leastReady_J27 (fX0_leastReady_L2 x1 μ n) x1 x2 μ))
set_option maxRecDepth 10000 in
theorem wX0_leastReady_L2 {z : LCz} {l : Launch} {Post : Int32 → la_Mem → Prop} {Φ : Nat → List (Nat × Value) → List Value → la_Mem → Prop} (C : la_C (LC z) l rmX0_leastReady RX0 cX0_leastReady 3 (some .int) Post Φ) (x1 : Int32) (μ : la_Mem)  (ex : (Int32 ⊕ (Unit))) (hret : ∀ q, ex = .inl q → Post q μ) (kx : ex = .inr () → Φ 33 [] [] μ) : ∀ (n : Nat) (x2 : Int32), fX0_leastReady_L2 x1 μ n x2 = some ex → Φ 2 [(0, .ref (z.2.1 1)), (1, .int x1), (2, .int x2)] [] μ := by
  intro n
  induction n with
  | zero =>
    intro _ h
    cases h
  | succ n hrec =>
    intro x2 h
    rw [fX0_leastReady_L2] at h
    refine la_iload_n C dX0_leastReady_2 2 rfl ?_
    refine la_bipush C (v := 11) dX0_leastReady_3 (by decide) ?_
    refine la_icmp_ge C (tgt := 33) dX0_leastReady_5 (by decide) (fun hc => ?_) (fun hc => ?_)
    · replace h := la_t hc h
      refine la_sub C [] rfl ?_
      exact kx (Option.some.inj h).symm
    · replace h := la_f hc h
      refine la_iload_n C dX0_leastReady_8 1 rfl ?_
      refine la_iconst C (v := 1) dX0_leastReady_9 (by decide) ?_
      refine la_iload_n C dX0_leastReady_10 2 rfl ?_
      refine la_ishl C dX0_leastReady_11 ?_
      refine la_iand C dX0_leastReady_12 ?_
      refine la_if_ne C (tgt := 27) dX0_leastReady_13 (by decide) (fun hc => ?_) (fun hc => ?_)
      · replace h := la_f hc h
        refine la_sub C [0, 1, 2] rfl ?_
        exact wX0_leastReady_J27 C (fX0_leastReady_L2 x1 μ n) _ _ _  _ hrec hret kx h
      · replace h := la_t hc h
        refine la_aload_n C dX0_leastReady_16 0 rfl ?_
        refine la_iload_n C dX0_leastReady_17 2 rfl ?_
        refine la_iload_n C dX0_leastReady_18 1 rfl ?_
        obtain ⟨r19, hr19, h⟩ := la_bd h
        refine KLCRX0_34 C [.int x2, .int x1] [] (mX0_isReady x2 x1 μ r19 hr19) ⟨by decide, by decide⟩ rfl rfl (Nat.le_of_ble_eq_true rfl) dX0_leastReady_19 ?_
        refine la_if_eq C (tgt := 27) dX0_leastReady_22 (by decide) (fun hc => ?_) (fun hc => ?_)
        · replace h := la_t hc h
          refine la_sub C [0, 1, 2] rfl ?_
          exact wX0_leastReady_J27 C (fX0_leastReady_L2 x1 μ n) _ _ _  _ hrec hret kx h
        · replace h := la_f hc h
          refine la_iload_n C dX0_leastReady_25 2 rfl ?_
          exact la_iret C rfl (hret x2 (Option.some.inj h).symm) dX0_leastReady_26
def fX0_leastReady (x1 : Int32) (μ : la_Mem) : Option Int32 :=
  la_x0 (fX0_leastReady_L2 x1 μ 400 0) some (fun _ => some 11)
set_option maxRecDepth 10000 in
theorem mX0_leastReady {z : LCz} {l : Launch} (x1 : Int32) (μ : la_Mem) (r0 : Int32)  (h : fX0_leastReady x1 μ = some r0) : la_M (LC z) l yX0_leastReady cX0_leastReady 3 (some .int) rmX0_leastReady [.ref (z.2.1 1), .int x1] μ (fun r' μ' => r' = r0 ∧ μ' = μ) := by
  refine la_of (own := RX0) (lv := [(0, .ref (z.2.1 1)), (1, .int x1)]) (by decide) rfl (Nat.le_of_ble_eq_true rfl) rfl (fun Φ C => ?_)
  unfold fX0_leastReady at h
  have hret : r0 = r0 ∧ μ = μ := ⟨rfl, rfl⟩
  refine la_iconst C (v := 0) dX0_leastReady_0 (by decide) ?_
  refine la_istore_n C dX0_leastReady_1 (by decide) rfl ?_
  rcases la_x0o h with ⟨qq2, hL2, h⟩ | ⟨hL2, h⟩
  · refine la_sub C [1, 2, 0] rfl ?_
    refine wX0_leastReady_L2 C _ _  _ (fun _ e => by cases e; cases h; exact hret) (fun e => by cases e) _ _ hL2
  · refine la_sub C [1, 2, 0] rfl ?_
    refine wX0_leastReady_L2 C _ _  _ (fun _ e => by cases e) (fun e => ?_) _ _ hL2
    cases e
    refine la_bipush C (v := 11) dX0_leastReady_33 (by decide) ?_
    exact la_iret C rfl (la_rR (P := (fun r' μ' => r' = r0 ∧ μ' = μ)) h hret) dX0_leastReady_35

def fX0_letterInOrder_L14 (x1 : Int32) (μ : la_Mem) : Nat → Int32 → Int32 → Option (Int32)
  | 0, _, _ => none
  | n + 1, x2, x3 => if x1 ≤ x3 then (some x2) else ((fX0_leastReady x2 μ).bind (fun r23 => la_st ((x2 ||| (1 <<< (r23 &&& 31)))) (fun v28 => (fX0_letterInOrder_L14 x1 μ n) v28 (x3 + 1))))
set_option maxRecDepth 10000 in
theorem wX0_letterInOrder_L14 {z : LCz} {l : Launch} {Post : Int32 → la_Mem → Prop} {Φ : Nat → List (Nat × Value) → List Value → la_Mem → Prop} (C : la_C (LC z) l rmX0_letterInOrder RX0 cX0_letterInOrder 4 (some .int) Post Φ) (x1 : Int32) (μ : la_Mem)  (ex : (Int32)) (kx : ∀ (y2 : Int32), ex = y2 → Φ 35 [(0, .ref (z.2.1 1)), (2, .int y2)] [] μ) : ∀ (n : Nat) (x2 : Int32) (x3 : Int32), fX0_letterInOrder_L14 x1 μ n x2 x3 = some ex → Φ 14 [(0, .ref (z.2.1 1)), (1, .int x1), (2, .int x2), (3, .int x3)] [] μ := by
  intro n
  induction n with
  | zero =>
    intro _ _ h
    cases h
  | succ n hrec =>
    intro x2 x3 h
    rw [fX0_letterInOrder_L14] at h
    refine la_iload_n C dX0_letterInOrder_14 3 rfl ?_
    refine la_iload_n C dX0_letterInOrder_15 1 rfl ?_
    refine la_icmp_ge C (tgt := 35) dX0_letterInOrder_16 (by decide) (fun hc => ?_) (fun hc => ?_)
    · replace h := la_t hc h
      refine la_sub C [0, 2] rfl ?_
      exact kx _ (Option.some.inj h).symm
    · replace h := la_f hc h
      refine la_iload_n C dX0_letterInOrder_19 2 rfl ?_
      refine la_iconst C (v := 1) dX0_letterInOrder_20 (by decide) ?_
      refine la_aload_n C dX0_letterInOrder_21 0 rfl ?_
      refine la_iload_n C dX0_letterInOrder_22 2 rfl ?_
      obtain ⟨r23, hr23, h⟩ := la_bd h
      refine KLCRX0_31 C [.int x2] [.int 1, .int x2] (mX0_leastReady x2 μ r23 hr23) ⟨by decide, by decide⟩ rfl rfl (Nat.le_of_ble_eq_true rfl) dX0_letterInOrder_23 ?_
      refine la_ishl C dX0_letterInOrder_26 ?_
      refine la_ior C dX0_letterInOrder_27 ?_
      obtain ⟨v28, ev28, h⟩ := la_so h
      refine la_nm C ev28 ?_
      refine la_istore_n C dX0_letterInOrder_28 (by decide) rfl ?_
      refine la_iinc C (v := (x3 + 1)) dX0_letterInOrder_29 3 rfl rfl (by decide) rfl ?_
      refine la_goto C (tgt := 14) dX0_letterInOrder_32 (by decide) ?_
      refine la_sub C [2, 3, 1, 0] rfl ?_
      exact hrec _ _ h
def fX0_letterInOrder (x1 : Int32) (μ : la_Mem) : Option Int32 :=
  (fX0_hasTwins  μ).bind (fun r1 => if r1 = 0 then (Option.bind (fX0_letterInOrder_L14 x1 μ 400 0 0) (fun q14_2 => (fX0_leastReady q14_2 μ).bind (fun r37 => some r37))) else (some (-4)))
set_option maxRecDepth 10000 in
theorem mX0_letterInOrder {z : LCz} {l : Launch} (x1 : Int32) (μ : la_Mem) (r0 : Int32)  (h : fX0_letterInOrder x1 μ = some r0) : la_M (LC z) l yX0_letterInOrder cX0_letterInOrder 4 (some .int) rmX0_letterInOrder [.ref (z.2.1 1), .int x1] μ (fun r' μ' => r' = r0 ∧ μ' = μ) := by
  refine la_of (own := RX0) (lv := [(0, .ref (z.2.1 1)), (1, .int x1)]) (by decide) rfl (Nat.le_of_ble_eq_true rfl) rfl (fun Φ C => ?_)
  unfold fX0_letterInOrder at h
  have hret : r0 = r0 ∧ μ = μ := ⟨rfl, rfl⟩
  refine la_aload_n C dX0_letterInOrder_0 0 rfl ?_
  obtain ⟨r1, hr1, h⟩ := la_bd h
  refine KLCRX0_27 C [] [] (mX0_hasTwins  μ r1 hr1) ⟨by decide, by decide⟩ rfl rfl (Nat.le_of_ble_eq_true rfl) dX0_letterInOrder_1 ?_
  refine la_if_eq C (tgt := 10) dX0_letterInOrder_4 (by decide) (fun hc => ?_) (fun hc => ?_)
  · replace h := la_t hc h
    refine la_iconst C (v := 0) dX0_letterInOrder_10 (by decide) ?_
    refine la_istore_n C dX0_letterInOrder_11 (by decide) rfl ?_
    refine la_iconst C (v := 0) dX0_letterInOrder_12 (by decide) ?_
    refine la_istore_n C dX0_letterInOrder_13 (by decide) rfl ?_
    obtain ⟨q14_2, hL14, h⟩ := la_bd h
    refine la_sub C [2, 3, 1, 0] rfl ?_
    refine wX0_letterInOrder_L14 C _ _  _ (fun _ e => ?_) _ _ _ hL14
    cases e
    refine la_aload_n C dX0_letterInOrder_35 0 rfl ?_
    refine la_iload_n C dX0_letterInOrder_36 1 rfl ?_
    obtain ⟨r37, hr37, h⟩ := la_bd h
    refine KLCRX0_31 C [.int q14_2] [] (mX0_leastReady q14_2 μ r37 hr37) ⟨by decide, by decide⟩ rfl rfl (Nat.le_of_ble_eq_true rfl) dX0_letterInOrder_37 ?_
    exact la_iret C rfl (la_rR (P := (fun r' μ' => r' = r0 ∧ μ' = μ)) h hret) dX0_letterInOrder_40
  · replace h := la_f hc h
    refine la_bipush C (v := (-4)) dX0_letterInOrder_7 (by decide) ?_
    exact la_iret C rfl (la_rR (P := (fun r' μ' => r' = r0 ∧ μ' = μ)) h hret) dX0_letterInOrder_9

def fX0_teethAtRisk_J65 (rec : Int32 → Int32 → Option (Int32)) (x1 : Int32) (x2 : Int32) (x3 : Int32) (μ : la_Mem) : Option (Int32) :=
  rec x2 (x3 + 1)
set_option maxRecDepth 10000 in
theorem wX0_teethAtRisk_J65 {z : LCz} {l : Launch} {Post : Int32 → la_Mem → Prop} {Φ : Nat → List (Nat × Value) → List Value → la_Mem → Prop} (C : la_C (LC z) l rmX0_teethAtRisk RX0 cX0_teethAtRisk 6 (some .int) Post Φ) (rec : Int32 → Int32 → Option (Int32)) (x1 : Int32) (x2 : Int32) (x3 : Int32) (μ : la_Mem)  (ex : (Int32)) (hrec : ∀ (y2 : Int32) (y3 : Int32), rec y2 y3 = some ex → Φ 4 [(0, .ref (z.2.1 1)), (1, .int x1), (2, .int y2), (3, .int y3)] [] μ) (kx : ∀ (y2 : Int32), ex = y2 → Φ 71 [(2, .int y2)] [] μ) (h : fX0_teethAtRisk_J65 rec x1 x2 x3 μ = some ex) : Φ 65 [(0, .ref (z.2.1 1)), (1, .int x1), (2, .int x2), (3, .int x3)] [] μ := by
  unfold fX0_teethAtRisk_J65 at h
  refine la_iinc C (v := (x3 + 1)) dX0_teethAtRisk_65 3 rfl rfl (by decide) rfl ?_
  refine la_goto C (tgt := 4) dX0_teethAtRisk_68 (by decide) ?_
  refine la_sub C [1, 2, 3, 0] rfl ?_
  exact hrec _ _ h
def fX0_teethAtRisk_J63 (rec : Int32 → Int32 → Option (Int32)) (x1 : Int32) (x3 : Int32) (s0 : Int32) (s1 : Int32) (μ : la_Mem) : Option (Int32) :=
  la_st ((s1 + s0)) (fun v64 => fX0_teethAtRisk_J65 rec x1 v64 x3 μ)
set_option maxRecDepth 10000 in
theorem wX0_teethAtRisk_J63 {z : LCz} {l : Launch} {Post : Int32 → la_Mem → Prop} {Φ : Nat → List (Nat × Value) → List Value → la_Mem → Prop} (C : la_C (LC z) l rmX0_teethAtRisk RX0 cX0_teethAtRisk 6 (some .int) Post Φ) (rec : Int32 → Int32 → Option (Int32)) (x1 : Int32) (x3 : Int32) (s0 : Int32) (s1 : Int32) (μ : la_Mem)  (ex : (Int32)) (hrec : ∀ (y2 : Int32) (y3 : Int32), rec y2 y3 = some ex → Φ 4 [(0, .ref (z.2.1 1)), (1, .int x1), (2, .int y2), (3, .int y3)] [] μ) (kx : ∀ (y2 : Int32), ex = y2 → Φ 71 [(2, .int y2)] [] μ) (h : fX0_teethAtRisk_J63 rec x1 x3 s0 s1 μ = some ex) : Φ 63 [(0, .ref (z.2.1 1)), (1, .int x1), (3, .int x3)] [.int s0, .int s1] μ := by
  unfold fX0_teethAtRisk_J63 at h
  refine la_iadd C dX0_teethAtRisk_63 ?_
  obtain ⟨v64, ev64, h⟩ := la_so h
  refine la_nm C ev64 ?_
  refine la_istore_n C dX0_teethAtRisk_64 (by decide) rfl ?_
  refine la_sub C [1, 2, 0, 3] rfl ?_
  exact wX0_teethAtRisk_J65 C rec _ _ _ _  _ hrec kx h
def fX0_teethAtRisk_J58 (rec : Int32 → Int32 → Option (Int32)) (x1 : Int32) (x3 : Int32) (s0 : Int32) (μ : la_Mem) : Option (Int32) :=
  fX0_teethAtRisk_J63 rec x1 x3 0 s0 μ
set_option maxRecDepth 10000 in
theorem wX0_teethAtRisk_J58 {z : LCz} {l : Launch} {Post : Int32 → la_Mem → Prop} {Φ : Nat → List (Nat × Value) → List Value → la_Mem → Prop} (C : la_C (LC z) l rmX0_teethAtRisk RX0 cX0_teethAtRisk 6 (some .int) Post Φ) (rec : Int32 → Int32 → Option (Int32)) (x1 : Int32) (x3 : Int32) (s0 : Int32) (μ : la_Mem)  (ex : (Int32)) (hrec : ∀ (y2 : Int32) (y3 : Int32), rec y2 y3 = some ex → Φ 4 [(0, .ref (z.2.1 1)), (1, .int x1), (2, .int y2), (3, .int y3)] [] μ) (kx : ∀ (y2 : Int32), ex = y2 → Φ 71 [(2, .int y2)] [] μ) (h : fX0_teethAtRisk_J58 rec x1 x3 s0 μ = some ex) : Φ 58 [(0, .ref (z.2.1 1)), (1, .int x1), (3, .int x3)] [.int s0] μ := by
  unfold fX0_teethAtRisk_J58 at h
  refine la_iconst C (v := 0) dX0_teethAtRisk_58 (by decide) ?_
  refine la_goto C (tgt := 63) dX0_teethAtRisk_59 (by decide) ?_
  refine la_sub C [0, 1, 2] rfl ?_
  exact wX0_teethAtRisk_J63 C rec _ _ _ _ _  _ hrec kx h
def fX0_teethAtRisk_L4 (x1 : Int32) (μ : la_Mem) : Nat → Int32 → Int32 → Option (Int32)
  | 0, _, _ => none
  | n + 1, x2, x3 => if 7 ≤ x3 then (some x2) else (la_st ((1 <<< (x3 &&& 31))) (fun v13 => la_if (la_ix x1 12) (if ((μ 2 (Int32.toNatClampNeg x1)) &&& v13) = 0 then (fX0_teethAtRisk_J65 (fX0_teethAtRisk_L4 x1 μ n) x1 x2 x3 μ) else (la_if (la_ix x1 12) ((fX0_fallOf ((μ 2 (Int32.toNatClampNeg x1)) &&& (v13 ^^^ (-1))) μ).bind (fun r39 => if r39 = 12 then (fX0_teethAtRisk_J58 (fX0_teethAtRisk_L4 x1 μ n) x1 x3 x2 μ) else (if r39 = x1 then (fX0_teethAtRisk_J58 (fX0_teethAtRisk_L4 x1 μ n) x1 x3 x2 μ) else (fX0_teethAtRisk_J63 (fX0_teethAtRisk_L4 x1 μ n) x1 x3 1 x2 μ))))))))
set_option maxRecDepth 10000 in
theorem wX0_teethAtRisk_L4 {z : LCz} {l : Launch} {Post : Int32 → la_Mem → Prop} {Φ : Nat → List (Nat × Value) → List Value → la_Mem → Prop} (C : la_C (LC z) l rmX0_teethAtRisk RX0 cX0_teethAtRisk 6 (some .int) Post Φ) (x1 : Int32) (μ : la_Mem)  (ex : (Int32)) (kx : ∀ (y2 : Int32), ex = y2 → Φ 71 [(2, .int y2)] [] μ) : ∀ (n : Nat) (x2 : Int32) (x3 : Int32), fX0_teethAtRisk_L4 x1 μ n x2 x3 = some ex → Φ 4 [(0, .ref (z.2.1 1)), (1, .int x1), (2, .int x2), (3, .int x3)] [] μ := by
  intro n
  induction n with
  | zero =>
    intro _ _ h
    cases h
  | succ n hrec =>
    intro x2 x3 h
    rw [fX0_teethAtRisk_L4] at h
    refine la_iload_n C dX0_teethAtRisk_4 3 rfl ?_
    refine la_bipush C (v := 7) dX0_teethAtRisk_5 (by decide) ?_
    refine la_icmp_ge C (tgt := 71) dX0_teethAtRisk_7 (by decide) (fun hc => ?_) (fun hc => ?_)
    · replace h := la_t hc h
      refine la_sub C [2] rfl ?_
      exact kx _ (Option.some.inj h).symm
    · replace h := la_f hc h
      refine la_iconst C (v := 1) dX0_teethAtRisk_10 (by decide) ?_
      refine la_iload_n C dX0_teethAtRisk_11 3 rfl ?_
      refine la_ishl C dX0_teethAtRisk_12 ?_
      obtain ⟨v13, ev13, h⟩ := la_so h
      refine la_nm C ev13 ?_
      refine la_istore C dX0_teethAtRisk_13 (by decide) rfl ?_
      refine la_aload_n C dX0_teethAtRisk_15 1 rfl ?_
      refine GLCRX0_9 C dX0_teethAtRisk_16 ?_
      refine la_iload_n C dX0_teethAtRisk_19 2 rfl ?_
      obtain ⟨hi20, h⟩ := la_go h
      refine ALC2 C _ rfl hi20 dX0_teethAtRisk_20 ?_
      refine la_iload C dX0_teethAtRisk_21 0 rfl ?_
      refine la_iand C dX0_teethAtRisk_23 ?_
      refine la_if_eq C (tgt := 65) dX0_teethAtRisk_24 (by decide) (fun hc => ?_) (fun hc => ?_)
      · replace h := la_t hc h
        refine la_sub C [1, 2, 3, 4] rfl ?_
        exact wX0_teethAtRisk_J65 C (fX0_teethAtRisk_L4 x1 μ n) _ _ _ _  _ hrec kx h
      · replace h := la_f hc h
        refine la_aload_n C dX0_teethAtRisk_27 1 rfl ?_
        refine la_aload_n C dX0_teethAtRisk_28 1 rfl ?_
        refine GLCRX0_9 C dX0_teethAtRisk_29 ?_
        refine la_iload_n C dX0_teethAtRisk_32 2 rfl ?_
        obtain ⟨hi33, h⟩ := la_go h
        refine ALC2 C _ rfl hi33 dX0_teethAtRisk_33 ?_
        refine la_iload C dX0_teethAtRisk_34 0 rfl ?_
        refine la_iconst C (v := (-1)) dX0_teethAtRisk_36 (by decide) ?_
        refine la_ixor C dX0_teethAtRisk_37 ?_
        refine la_iand C dX0_teethAtRisk_38 ?_
        obtain ⟨r39, hr39, h⟩ := la_bd h
        refine KLCRX0_18 C [.int ((μ 2 (Int32.toNatClampNeg x1)) &&& (v13 ^^^ (-1)))] [] (mX0_fallOf ((μ 2 (Int32.toNatClampNeg x1)) &&& (v13 ^^^ (-1))) μ r39 hr39) ⟨by decide, by decide⟩ rfl rfl (Nat.le_of_ble_eq_true rfl) dX0_teethAtRisk_39 ?_
        refine la_istore C dX0_teethAtRisk_42 (by decide) rfl ?_
        refine la_iload_n C dX0_teethAtRisk_44 4 rfl ?_
        refine la_iload C dX0_teethAtRisk_45 0 rfl ?_
        refine la_bipush C (v := 12) dX0_teethAtRisk_47 (by decide) ?_
        refine la_icmp_eq C (tgt := 58) dX0_teethAtRisk_49 (by decide) (fun hc => ?_) (fun hc => ?_)
        · replace h := la_t hc h
          refine la_sub C [2, 3, 5] rfl ?_
          exact wX0_teethAtRisk_J58 C (fX0_teethAtRisk_L4 x1 μ n) _ _ _ _  _ hrec kx h
        · replace h := la_f hc h
          refine la_iload C dX0_teethAtRisk_52 0 rfl ?_
          refine la_iload_n C dX0_teethAtRisk_54 3 rfl ?_
          refine la_icmp_ne C (tgt := 62) dX0_teethAtRisk_55 (by decide) (fun hc => ?_) (fun hc => ?_)
          · replace h := la_f hc h
            refine la_iconst C (v := 1) dX0_teethAtRisk_62 (by decide) ?_
            refine la_sub C [2, 3, 5] rfl ?_
            exact wX0_teethAtRisk_J63 C (fX0_teethAtRisk_L4 x1 μ n) _ _ _ _ _  _ hrec kx h
          · replace h := la_t hc h
            refine la_sub C [2, 3, 5] rfl ?_
            exact wX0_teethAtRisk_J58 C (fX0_teethAtRisk_L4 x1 μ n) _ _ _ _  _ hrec kx h
def fX0_teethAtRisk (x1 : Int32) (μ : la_Mem) : Option Int32 :=
  Option.bind (fX0_teethAtRisk_L4 x1 μ 400 0 0) (fun q4_2 => some q4_2)
set_option maxRecDepth 10000 in
theorem mX0_teethAtRisk {z : LCz} {l : Launch} (x1 : Int32) (μ : la_Mem) (r0 : Int32)  (h : fX0_teethAtRisk x1 μ = some r0) : la_M (LC z) l yX0_teethAtRisk cX0_teethAtRisk 6 (some .int) rmX0_teethAtRisk [.ref (z.2.1 1), .int x1] μ (fun r' μ' => r' = r0 ∧ μ' = μ) := by
  refine la_of (own := RX0) (lv := [(0, .ref (z.2.1 1)), (1, .int x1)]) (by decide) rfl (Nat.le_of_ble_eq_true rfl) rfl (fun Φ C => ?_)
  unfold fX0_teethAtRisk at h
  have hret : r0 = r0 ∧ μ = μ := ⟨rfl, rfl⟩
  refine la_iconst C (v := 0) dX0_teethAtRisk_0 (by decide) ?_
  refine la_istore_n C dX0_teethAtRisk_1 (by decide) rfl ?_
  refine la_iconst C (v := 0) dX0_teethAtRisk_2 (by decide) ?_
  refine la_istore_n C dX0_teethAtRisk_3 (by decide) rfl ?_
  obtain ⟨q4_2, hL4, h⟩ := la_bd h
  refine la_sub C [2, 3, 1, 0] rfl ?_
  refine wX0_teethAtRisk_L4 C _ _  _ (fun _ e => ?_) _ _ _ hL4
  cases e
  refine la_iload_n C dX0_teethAtRisk_71 0 rfl ?_
  exact la_iret C rfl (la_rR (P := (fun r' μ' => r' = r0 ∧ μ' = μ)) h hret) dX0_teethAtRisk_72

def fX0_allAtRisk_L4  (μ : la_Mem) : Nat → Int32 → Int32 → Option (Int32)
  | 0, _, _ => none
  | n + 1, x1, x2 => if 12 ≤ x2 then (some x1) else ((fX0_teethAtRisk x2 μ).bind (fun r13 => la_st ((x1 + r13)) (fun v17 => (fX0_allAtRisk_L4  μ n) v17 (x2 + 1))))
set_option maxRecDepth 10000 in
theorem wX0_allAtRisk_L4 {z : LCz} {l : Launch} {Post : Int32 → la_Mem → Prop} {Φ : Nat → List (Nat × Value) → List Value → la_Mem → Prop} (C : la_C (LC z) l rmX0_allAtRisk RX0 cX0_allAtRisk 3 (some .int) Post Φ)  (μ : la_Mem)  (ex : (Int32)) (kx : ∀ (y1 : Int32), ex = y1 → Φ 24 [(1, .int y1)] [] μ) : ∀ (n : Nat) (x1 : Int32) (x2 : Int32), fX0_allAtRisk_L4  μ n x1 x2 = some ex → Φ 4 [(0, .ref (z.2.1 1)), (1, .int x1), (2, .int x2)] [] μ := by
  intro n
  induction n with
  | zero =>
    intro _ _ h
    cases h
  | succ n hrec =>
    intro x1 x2 h
    rw [fX0_allAtRisk_L4] at h
    refine la_iload_n C dX0_allAtRisk_4 2 rfl ?_
    refine la_bipush C (v := 12) dX0_allAtRisk_5 (by decide) ?_
    refine la_icmp_ge C (tgt := 24) dX0_allAtRisk_7 (by decide) (fun hc => ?_) (fun hc => ?_)
    · replace h := la_t hc h
      refine la_sub C [1] rfl ?_
      exact kx _ (Option.some.inj h).symm
    · replace h := la_f hc h
      refine la_iload_n C dX0_allAtRisk_10 1 rfl ?_
      refine la_aload_n C dX0_allAtRisk_11 0 rfl ?_
      refine la_iload_n C dX0_allAtRisk_12 2 rfl ?_
      obtain ⟨r13, hr13, h⟩ := la_bd h
      refine KLCRX0_38 C [.int x2] [.int x1] (mX0_teethAtRisk x2 μ r13 hr13) ⟨by decide, by decide⟩ rfl rfl (Nat.le_of_ble_eq_true rfl) dX0_allAtRisk_13 ?_
      refine la_iadd C dX0_allAtRisk_16 ?_
      obtain ⟨v17, ev17, h⟩ := la_so h
      refine la_nm C ev17 ?_
      refine la_istore_n C dX0_allAtRisk_17 (by decide) rfl ?_
      refine la_iinc C (v := (x2 + 1)) dX0_allAtRisk_18 2 rfl rfl (by decide) rfl ?_
      refine la_goto C (tgt := 4) dX0_allAtRisk_21 (by decide) ?_
      refine la_sub C [2, 1, 0] rfl ?_
      exact hrec _ _ h
def fX0_allAtRisk  (μ : la_Mem) : Option Int32 :=
  Option.bind (fX0_allAtRisk_L4  μ 400 0 0) (fun q4_1 => some q4_1)
set_option maxRecDepth 10000 in
theorem mX0_allAtRisk {z : LCz} {l : Launch}  (μ : la_Mem) (r0 : Int32)  (h : fX0_allAtRisk  μ = some r0) : la_M (LC z) l yX0_allAtRisk cX0_allAtRisk 3 (some .int) rmX0_allAtRisk [.ref (z.2.1 1)] μ (fun r' μ' => r' = r0 ∧ μ' = μ) := by
  refine la_of (own := RX0) (lv := [(0, .ref (z.2.1 1))]) (by decide) rfl (Nat.le_of_ble_eq_true rfl) rfl (fun Φ C => ?_)
  unfold fX0_allAtRisk at h
  have hret : r0 = r0 ∧ μ = μ := ⟨rfl, rfl⟩
  refine la_iconst C (v := 0) dX0_allAtRisk_0 (by decide) ?_
  refine la_istore_n C dX0_allAtRisk_1 (by decide) rfl ?_
  refine la_iconst C (v := 0) dX0_allAtRisk_2 (by decide) ?_
  refine la_istore_n C dX0_allAtRisk_3 (by decide) rfl ?_
  obtain ⟨q4_1, hL4, h⟩ := la_bd h
  refine la_sub C [2, 1, 0] rfl ?_
  refine wX0_allAtRisk_L4 C _  _ (fun _ e => ?_) _ _ _ hL4
  cases e
  refine la_iload_n C dX0_allAtRisk_24 0 rfl ?_
  exact la_iret C rfl (la_rR (P := (fun r' μ' => r' = r0 ∧ μ' = μ)) h hret) dX0_allAtRisk_25

def fX0_betterTeeth_J88 (rec : Int32 → Int32 → Int32 → la_Mem → Option (Int32 × la_Mem)) (x1 : Int32) (x2 : Int32) (x3 : Int32) (x4 : Int32) (x5 : Int32) (x6 : Int32) (μ : la_Mem) : Option (Int32 × la_Mem) :=
  rec x4 x5 (x6 + 1) μ
set_option maxRecDepth 10000 in
theorem wX0_betterTeeth_J88 {z : LCz} {l : Launch} {Post : Int32 → la_Mem → Prop} {Φ : Nat → List (Nat × Value) → List Value → la_Mem → Prop} (C : la_C (LC z) l rmX0_betterTeeth RX0 cX0_betterTeeth 8 (some .int) Post Φ) (rec : Int32 → Int32 → Int32 → la_Mem → Option (Int32 × la_Mem)) (x1 : Int32) (x2 : Int32) (x3 : Int32) (x4 : Int32) (x5 : Int32) (x6 : Int32) (μ : la_Mem)  (ex : (Int32 × la_Mem)) (hrec : ∀ (y4 : Int32) (y5 : Int32) (y6 : Int32) (ν : la_Mem), rec y4 y5 y6 ν = some ex → Φ 25 [(0, .ref (z.2.1 1)), (1, .int x1), (2, .int x2), (3, .int x3), (4, .int y4), (5, .int y5), (6, .int y6)] [] ν) (kx : ∀ (y4 : Int32) (ν : la_Mem), ex = (y4, ν) → Φ 94 [(0, .ref (z.2.1 1)), (1, .int x1), (2, .int x2), (3, .int x3), (4, .int y4)] [] ν) (h : fX0_betterTeeth_J88 rec x1 x2 x3 x4 x5 x6 μ = some ex) : Φ 88 [(0, .ref (z.2.1 1)), (1, .int x1), (2, .int x2), (3, .int x3), (4, .int x4), (5, .int x5), (6, .int x6)] [] μ := by
  unfold fX0_betterTeeth_J88 at h
  refine la_iinc C (v := (x6 + 1)) dX0_betterTeeth_88 6 rfl rfl (by decide) rfl ?_
  refine la_goto C (tgt := 25) dX0_betterTeeth_91 (by decide) ?_
  refine la_sub C [1, 2, 3, 4, 5, 6, 0] rfl ?_
  exact hrec _ _ _ _ h
def fX0_betterTeeth_J71 (rec : Int32 → Int32 → Int32 → la_Mem → Option (Int32 × la_Mem)) (x1 : Int32) (x2 : Int32) (x3 : Int32) (x4 : Int32) (x5 : Int32) (x6 : Int32) (s0 : Int32) (μ : la_Mem) : Option (Int32 × la_Mem) :=
  if x5 ≤ s0 then (fX0_betterTeeth_J88 rec x1 x2 x3 x4 x5 x6 μ) else (fX0_betterTeeth_J88 rec x1 x2 x3 x6 s0 x6 μ)
set_option maxRecDepth 10000 in
theorem wX0_betterTeeth_J71 {z : LCz} {l : Launch} {Post : Int32 → la_Mem → Prop} {Φ : Nat → List (Nat × Value) → List Value → la_Mem → Prop} (C : la_C (LC z) l rmX0_betterTeeth RX0 cX0_betterTeeth 8 (some .int) Post Φ) (rec : Int32 → Int32 → Int32 → la_Mem → Option (Int32 × la_Mem)) (x1 : Int32) (x2 : Int32) (x3 : Int32) (x4 : Int32) (x5 : Int32) (x6 : Int32) (s0 : Int32) (μ : la_Mem)  (ex : (Int32 × la_Mem)) (hrec : ∀ (y4 : Int32) (y5 : Int32) (y6 : Int32) (ν : la_Mem), rec y4 y5 y6 ν = some ex → Φ 25 [(0, .ref (z.2.1 1)), (1, .int x1), (2, .int x2), (3, .int x3), (4, .int y4), (5, .int y5), (6, .int y6)] [] ν) (kx : ∀ (y4 : Int32) (ν : la_Mem), ex = (y4, ν) → Φ 94 [(0, .ref (z.2.1 1)), (1, .int x1), (2, .int x2), (3, .int x3), (4, .int y4)] [] ν) (h : fX0_betterTeeth_J71 rec x1 x2 x3 x4 x5 x6 s0 μ = some ex) : Φ 71 [(0, .ref (z.2.1 1)), (1, .int x1), (2, .int x2), (3, .int x3), (4, .int x4), (5, .int x5), (6, .int x6)] [.int s0] μ := by
  unfold fX0_betterTeeth_J71 at h
  refine la_istore C dX0_betterTeeth_71 (by decide) rfl ?_
  refine la_iload C dX0_betterTeeth_73 0 rfl ?_
  refine la_iload C dX0_betterTeeth_75 6 rfl ?_
  refine la_icmp_ge C (tgt := 88) dX0_betterTeeth_77 (by decide) (fun hc => ?_) (fun hc => ?_)
  · replace h := la_t hc h
    refine la_sub C [1, 2, 3, 4, 5, 6, 7] rfl ?_
    exact wX0_betterTeeth_J88 C rec _ _ _ _ _ _ _  _ hrec kx h
  · replace h := la_f hc h
    refine la_iload C dX0_betterTeeth_80 0 rfl ?_
    refine la_istore C dX0_betterTeeth_82 (by decide) rfl ?_
    refine la_iload C dX0_betterTeeth_84 7 rfl ?_
    refine la_istore C dX0_betterTeeth_86 (by decide) rfl ?_
    refine la_sub C [3, 4, 5, 6, 0, 1, 7] rfl ?_
    exact wX0_betterTeeth_J88 C rec _ _ _ _ _ _ _  _ hrec kx h
def fX0_betterTeeth_L25 (x1 : Int32) (x2 : Int32) (x3 : Int32) : Nat → Int32 → Int32 → Int32 → la_Mem → Option (Int32 × la_Mem)
  | 0, _, _, _, _ => none
  | n + 1, x4, x5, x6, μ => if 127 < x6 then (some (x4, μ)) else (la_if (la_ix x1 12) (la_st (la_ms μ 2 (Int32.toNatClampNeg x1) x6) (fun μ39 => la_if (la_ix x1 12) (la_st (la_ms μ39 3 (Int32.toNatClampNeg x1) (127 &&& (x6 ^^^ (-1)))) (fun μ52 => (fX0_firstAstray  μ52).bind (fun r54 => if r54 = (-4) then ((fX0_allAtRisk  μ52).bind (fun r63 => fX0_betterTeeth_J71 (fX0_betterTeeth_L25 x1 x2 x3 n) x1 x2 x3 x4 x5 x6 r63 μ52)) else (fX0_betterTeeth_J71 (fX0_betterTeeth_L25 x1 x2 x3 n) x1 x2 x3 x4 x5 x6 85 μ52)))))))
set_option maxRecDepth 10000 in
theorem wX0_betterTeeth_L25 {z : LCz} {l : Launch} {Post : Int32 → la_Mem → Prop} {Φ : Nat → List (Nat × Value) → List Value → la_Mem → Prop} (C : la_C (LC z) l rmX0_betterTeeth RX0 cX0_betterTeeth 8 (some .int) Post Φ) (x1 : Int32) (x2 : Int32) (x3 : Int32)  (ex : (Int32 × la_Mem)) (kx : ∀ (y4 : Int32) (ν : la_Mem), ex = (y4, ν) → Φ 94 [(0, .ref (z.2.1 1)), (1, .int x1), (2, .int x2), (3, .int x3), (4, .int y4)] [] ν) : ∀ (n : Nat) (x4 : Int32) (x5 : Int32) (x6 : Int32) (μ : la_Mem), fX0_betterTeeth_L25 x1 x2 x3 n x4 x5 x6 μ = some ex → Φ 25 [(0, .ref (z.2.1 1)), (1, .int x1), (2, .int x2), (3, .int x3), (4, .int x4), (5, .int x5), (6, .int x6)] [] μ := by
  intro n
  induction n with
  | zero =>
    intro _ _ _ _ h
    cases h
  | succ n hrec =>
    intro x4 x5 x6 μ h
    rw [fX0_betterTeeth_L25] at h
    refine la_iload C dX0_betterTeeth_25 6 rfl ?_
    refine la_bipush C (v := 127) dX0_betterTeeth_27 (by decide) ?_
    refine la_icmp_gt C (tgt := 94) dX0_betterTeeth_29 (by decide) (fun hc => ?_) (fun hc => ?_)
    · replace h := la_t hc h
      refine la_sub C [0, 1, 2, 3, 4] rfl ?_
      exact kx _ _ (Option.some.inj h).symm
    · replace h := la_f hc h
      refine la_aload_n C dX0_betterTeeth_32 0 rfl ?_
      refine GLCRX0_9 C dX0_betterTeeth_33 ?_
      refine la_iload_n C dX0_betterTeeth_36 1 rfl ?_
      refine la_iload C dX0_betterTeeth_37 6 rfl ?_
      obtain ⟨hi39, h⟩ := la_go h
      obtain ⟨μ39, eμ39, h⟩ := la_so h
      refine BLC2 C _ rfl hi39 eμ39 dX0_betterTeeth_39 ?_
      refine la_aload_n C dX0_betterTeeth_40 0 rfl ?_
      refine GLCRX0_15 C dX0_betterTeeth_41 ?_
      refine la_iload_n C dX0_betterTeeth_44 1 rfl ?_
      refine la_bipush C (v := 127) dX0_betterTeeth_45 (by decide) ?_
      refine la_iload C dX0_betterTeeth_47 6 rfl ?_
      refine la_iconst C (v := (-1)) dX0_betterTeeth_49 (by decide) ?_
      refine la_ixor C dX0_betterTeeth_50 ?_
      refine la_iand C dX0_betterTeeth_51 ?_
      obtain ⟨hi52, h⟩ := la_go h
      obtain ⟨μ52, eμ52, h⟩ := la_so h
      refine BLC3 C _ rfl hi52 eμ52 dX0_betterTeeth_52 ?_
      refine la_aload_n C dX0_betterTeeth_53 0 rfl ?_
      obtain ⟨r54, hr54, h⟩ := la_bd h
      refine KLCRX0_41 C [] [] (mX0_firstAstray  μ52 r54 hr54) ⟨by decide, by decide⟩ rfl rfl (Nat.le_of_ble_eq_true rfl) dX0_betterTeeth_54 ?_
      refine la_bipush C (v := (-4)) dX0_betterTeeth_57 (by decide) ?_
      refine la_icmp_ne C (tgt := 69) dX0_betterTeeth_59 (by decide) (fun hc => ?_) (fun hc => ?_)
      · replace h := la_f hc h
        refine la_bipush C (v := 85) dX0_betterTeeth_69 (by decide) ?_
        refine la_sub C [0, 1, 2, 3, 4, 5, 6] rfl ?_
        exact wX0_betterTeeth_J71 C (fX0_betterTeeth_L25 x1 x2 x3 n) _ _ _ _ _ _ _ _  _ hrec kx h
      · replace h := la_t hc h
        refine la_aload_n C dX0_betterTeeth_62 0 rfl ?_
        obtain ⟨r63, hr63, h⟩ := la_bd h
        refine KLCRX0_45 C [] [] (mX0_allAtRisk  μ52 r63 hr63) ⟨by decide, by decide⟩ rfl rfl (Nat.le_of_ble_eq_true rfl) dX0_betterTeeth_63 ?_
        refine la_goto C (tgt := 71) dX0_betterTeeth_66 (by decide) ?_
        refine la_sub C [0, 1, 2, 3, 4, 5, 6] rfl ?_
        exact wX0_betterTeeth_J71 C (fX0_betterTeeth_L25 x1 x2 x3 n) _ _ _ _ _ _ _ _  _ hrec kx h
def fX0_betterTeeth (x1 : Int32) (μ : la_Mem) : Option (Int32 × la_Mem) :=
  la_if (la_ix x1 12) (la_st ((μ 2 (Int32.toNatClampNeg x1))) (fun v6 => la_if (la_ix x1 12) (la_st ((μ 3 (Int32.toNatClampNeg x1))) (fun v13 => la_b2 (fX0_betterTeeth_L25 x1 v6 v13 400 (-4) 85 1 μ) (fun q25_4 ν25 => la_if (la_ix x1 12) (la_st (la_ms ν25 2 (Int32.toNatClampNeg x1) v6) (fun μ100 => la_if (la_ix x1 12) (la_st (la_ms μ100 3 (Int32.toNatClampNeg x1) v13) (fun μ107 => some (q25_4, μ107))))))))))
set_option maxRecDepth 10000 in
theorem mX0_betterTeeth {z : LCz} {l : Launch} (x1 : Int32) (μ : la_Mem) (r0 : Int32) (μ0 : la_Mem)  (h : fX0_betterTeeth x1 μ = some (r0, μ0)) : la_M (LC z) l yX0_betterTeeth cX0_betterTeeth 8 (some .int) rmX0_betterTeeth [.ref (z.2.1 1), .int x1] μ (fun r' μ' => r' = r0 ∧ μ' = μ0) := by
  refine la_of (own := RX0) (lv := [(0, .ref (z.2.1 1)), (1, .int x1)]) (by decide) rfl (Nat.le_of_ble_eq_true rfl) rfl (fun Φ C => ?_)
  unfold fX0_betterTeeth at h
  have hret : r0 = r0 ∧ μ0 = μ0 := ⟨rfl, rfl⟩
  refine la_aload_n C dX0_betterTeeth_0 0 rfl ?_
  refine GLCRX0_9 C dX0_betterTeeth_1 ?_
  refine la_iload_n C dX0_betterTeeth_4 1 rfl ?_
  obtain ⟨hi5, h⟩ := la_go h
  refine ALC2 C _ rfl hi5 dX0_betterTeeth_5 ?_
  obtain ⟨v6, ev6, h⟩ := la_so h
  refine la_nm C ev6 ?_
  refine la_istore_n C dX0_betterTeeth_6 (by decide) rfl ?_
  refine la_aload_n C dX0_betterTeeth_7 1 rfl ?_
  refine GLCRX0_15 C dX0_betterTeeth_8 ?_
  refine la_iload_n C dX0_betterTeeth_11 2 rfl ?_
  obtain ⟨hi12, h⟩ := la_go h
  refine ALC3 C _ rfl hi12 dX0_betterTeeth_12 ?_
  obtain ⟨v13, ev13, h⟩ := la_so h
  refine la_nm C ev13 ?_
  refine la_istore_n C dX0_betterTeeth_13 (by decide) rfl ?_
  refine la_bipush C (v := (-4)) dX0_betterTeeth_14 (by decide) ?_
  refine la_istore C dX0_betterTeeth_16 (by decide) rfl ?_
  refine la_bipush C (v := 85) dX0_betterTeeth_18 (by decide) ?_
  refine la_istore C dX0_betterTeeth_20 (by decide) rfl ?_
  refine la_iconst C (v := 1) dX0_betterTeeth_22 (by decide) ?_
  refine la_istore C dX0_betterTeeth_23 (by decide) rfl ?_
  obtain ⟨q25_4, ν25, hL25, h⟩ := la_b2o h
  refine la_sub C [5, 6, 4, 3, 2, 1, 0] rfl ?_
  refine wX0_betterTeeth_L25 C _ _ _  _ (fun _ _ e => ?_) _ _ _ _ _ hL25
  cases e
  refine la_aload_n C dX0_betterTeeth_94 0 rfl ?_
  refine GLCRX0_9 C dX0_betterTeeth_95 ?_
  refine la_iload_n C dX0_betterTeeth_98 1 rfl ?_
  refine la_iload_n C dX0_betterTeeth_99 2 rfl ?_
  obtain ⟨hi100, h⟩ := la_go h
  obtain ⟨μ100, eμ100, h⟩ := la_so h
  refine BLC2 C _ rfl hi100 eμ100 dX0_betterTeeth_100 ?_
  refine la_aload_n C dX0_betterTeeth_101 0 rfl ?_
  refine GLCRX0_15 C dX0_betterTeeth_102 ?_
  refine la_iload_n C dX0_betterTeeth_105 1 rfl ?_
  refine la_iload_n C dX0_betterTeeth_106 3 rfl ?_
  obtain ⟨hi107, h⟩ := la_go h
  obtain ⟨μ107, eμ107, h⟩ := la_so h
  refine BLC3 C _ rfl hi107 eμ107 dX0_betterTeeth_107 ?_
  refine la_iload C dX0_betterTeeth_108 4 rfl ?_
  exact la_iret C rfl (la_rW (P := (fun r' μ' => r' = r0 ∧ μ' = μ0)) h hret) dX0_betterTeeth_110

