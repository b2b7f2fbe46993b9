def fX1_hang (x1 : Int32) (x2 : Int32) (x3 : Int32) (μ : la_Mem) : Option la_Mem :=
  if (μ 14 3) < 60 then (la_if (la_ix (μ 14 3) 60) (la_st (la_ms μ 15 (Int32.toNatClampNeg (μ 14 3)) x1) (fun μ19 => la_if (la_ix (μ19 14 3) 60) (la_st (la_ms μ19 16 (Int32.toNatClampNeg (μ19 14 3)) x2) (fun μ29 => la_if (la_ix (μ29 14 3) 60) (la_st (la_ms μ29 17 (Int32.toNatClampNeg (μ29 14 3)) x3) (fun μ39 => la_st (la_ms μ39 14 3 ((μ39 14 3) + 1)) (fun μ47 => some μ47)))))))) else (some μ)
set_option maxRecDepth 10000 in
theorem mX1_hang {z : LCz} {l : Launch} (x1 : Int32) (x2 : Int32) (x3 : Int32) (μ : la_Mem) (μ0 : la_Mem)  (h : fX1_hang x1 x2 x3 μ = some μ0) : la_M (LC z) l yX1_hang cX1_hang 4 none rmX1_hang [.ref (z.2.1 14), .int x1, .int x2, .int x3] μ (fun _ μ' => μ' = μ0) := by
  refine la_of (own := RX1) (lv := [(0, .ref (z.2.1 14)), (1, .int x1), (2, .int x2), (3, .int x3)]) (by decide) rfl (Nat.le_of_ble_eq_true rfl) rfl (fun Φ C => ?_)
  unfold fX1_hang at h
  have hret : μ0 = μ0 := rfl
  refine la_aload_n C dX1_hang_0 0 rfl ?_
  refine GLCRX1_21 C dX1_hang_1 ?_
  refine la_bipush C (v := 60) dX1_hang_4 (by decide) ?_
  refine la_icmp_lt C (tgt := 10) dX1_hang_6 (by decide) (fun hc => ?_) (fun hc => ?_)
  · replace h := la_t hc h
    refine la_aload_n C dX1_hang_10 0 rfl ?_
    refine GLCRX1_9 C dX1_hang_11 ?_
    refine la_aload_n C dX1_hang_14 0 rfl ?_
    refine GLCRX1_21 C dX1_hang_15 ?_
    refine la_iload_n C dX1_hang_18 1 rfl ?_
    obtain ⟨hi19, h⟩ := la_go h
    obtain ⟨μ19, eμ19, h⟩ := la_so h
    refine BLC15 C _ rfl hi19 eμ19 dX1_hang_19 ?_
    refine la_aload_n C dX1_hang_20 0 rfl ?_
    refine GLCRX1_15 C dX1_hang_21 ?_
    refine la_aload_n C dX1_hang_24 0 rfl ?_
    refine GLCRX1_21 C dX1_hang_25 ?_
    refine la_iload_n C dX1_hang_28 2 rfl ?_
    obtain ⟨hi29, h⟩ := la_go h
    obtain ⟨μ29, eμ29, h⟩ := la_so h
    refine BLC16 C _ rfl hi29 eμ29 dX1_hang_29 ?_
    refine la_aload_n C dX1_hang_30 0 rfl ?_
    refine GLCRX1_18 C dX1_hang_31 ?_
    refine la_aload_n C dX1_hang_34 0 rfl ?_
    refine GLCRX1_21 C dX1_hang_35 ?_
    refine la_iload_n C dX1_hang_38 3 rfl ?_
    obtain ⟨hi39, h⟩ := la_go h
    obtain ⟨μ39, eμ39, h⟩ := la_so h
    refine BLC17 C _ rfl hi39 eμ39 dX1_hang_39 ?_
    refine la_aload_n C dX1_hang_40 0 rfl ?_
    refine la_dup C dX1_hang_41 rfl ?_
    refine GLCRX1_21 C dX1_hang_42 ?_
    refine la_iconst C (v := 1) dX1_hang_45 (by decide) ?_
    refine la_iadd C dX1_hang_46 ?_
    obtain ⟨μ47, eμ47, h⟩ := la_so h
    refine SLCRX1_21 C eμ47 dX1_hang_47 ?_
    exact la_vret C (la_rV (P := (fun _ μ' => μ' = μ0)) h hret) dX1_hang_50
  · replace h := la_f hc h
    exact la_vret C (la_rV (P := (fun _ μ' => μ' = μ0)) h hret) dX1_hang_9

def fX5_lay (x1 : Int32) (x2 : Int32) (μ : la_Mem) : Option (Int32 × la_Mem) :=
  la_if (la_ix x2 12) (if (μ 9 (Int32.toNatClampNeg x2)) < 8 then (la_if (la_ix x2 12) (la_if (la_ix x2 12) (la_if (la_ix (μ 9 (Int32.toNatClampNeg x2)) 8) (la_st (la_ms μ (36 + (Int32.toNatClampNeg x2)) (Int32.toNatClampNeg (μ 9 (Int32.toNatClampNeg x2))) x1) (fun μ26 => la_if (la_ix x2 12) (la_if (la_ix x2 12) (la_st (la_ms μ26 9 (Int32.toNatClampNeg x2) ((μ26 9 (Int32.toNatClampNeg x2)) + 1)) (fun μ36 => la_if (la_ix x1 60) (la_st (la_ms μ36 7 (Int32.toNatClampNeg x1) x2) (fun μ43 => some (1, μ43))))))))))) else (some (0, μ)))
set_option maxRecDepth 10000 in
theorem mX5_lay {z : LCz} {l : Launch} (x1 : Int32) (x2 : Int32) (μ : la_Mem) (r0 : Int32) (μ0 : la_Mem)  (h : fX5_lay x1 x2 μ = some (r0, μ0)) : la_M (LC z) l yX5_lay cX5_lay 3 (some .boolean) rmX5_lay [.ref (z.2.1 4), .int x1, .int x2] μ (fun r' μ' => r' = r0 ∧ μ' = μ0) := by
  refine la_of (own := RX5) (lv := [(0, .ref (z.2.1 4)), (1, .int x1), (2, .int x2)]) (by decide) rfl (Nat.le_of_ble_eq_true rfl) rfl (fun Φ C => ?_)
  unfold fX5_lay at h
  have hret : r0 = r0 ∧ μ0 = μ0 := ⟨rfl, rfl⟩
  refine la_aload_n C dX5_lay_0 0 rfl ?_
  refine GLCRX5_26 C dX5_lay_1 ?_
  refine la_iload_n C dX5_lay_4 2 rfl ?_
  obtain ⟨hi5, h⟩ := la_go h
  refine ALC9 C _ rfl hi5 dX5_lay_5 ?_
  refine la_bipush C (v := 8) dX5_lay_6 (by decide) ?_
  refine la_icmp_lt C (tgt := 13) dX5_lay_8 (by decide) (fun hc => ?_) (fun hc => ?_)
  · replace h := la_t hc h
    refine la_aload_n C dX5_lay_13 0 rfl ?_
    refine GLCRX5_23 C dX5_lay_14 ?_
    refine la_iload_n C dX5_lay_17 2 rfl ?_
    obtain ⟨hi18, h⟩ := la_go h
    refine RLC8 C hi18 dX5_lay_18 ?_
    refine la_aload_n C dX5_lay_19 0 rfl ?_
    refine GLCRX5_26 C dX5_lay_20 ?_
    refine la_iload_n C dX5_lay_23 2 rfl ?_
    obtain ⟨hi24, h⟩ := la_go h
    refine ALC9 C _ rfl hi24 dX5_lay_24 ?_
    refine la_iload_n C dX5_lay_25 1 rfl ?_
    obtain ⟨hi26, h⟩ := la_go h
    obtain ⟨μ26, eμ26, h⟩ := la_so h
    refine BLCd36 C (la_ix_lt hi18) _ rfl hi26 eμ26 dX5_lay_26 ?_
    refine la_aload_n C dX5_lay_27 0 rfl ?_
    refine GLCRX5_26 C dX5_lay_28 ?_
    refine la_iload_n C dX5_lay_31 2 rfl ?_
    refine la_dup2 C dX5_lay_32 rfl rfl ?_
    obtain ⟨hi33, h⟩ := la_go h
    refine ALC9 C _ rfl hi33 dX5_lay_33 ?_
    refine la_iconst C (v := 1) dX5_lay_34 (by decide) ?_
    refine la_iadd C dX5_lay_35 ?_
    obtain ⟨hi36, h⟩ := la_go h
    obtain ⟨μ36, eμ36, h⟩ := la_so h
    refine BLC9 C _ rfl hi36 eμ36 dX5_lay_36 ?_
    refine la_aload_n C dX5_lay_37 0 rfl ?_
    refine GLCRX5_18 C dX5_lay_38 ?_
    refine la_iload_n C dX5_lay_41 1 rfl ?_
    refine la_iload_n C dX5_lay_42 2 rfl ?_
    obtain ⟨hi43, h⟩ := la_go h
    obtain ⟨μ43, eμ43, h⟩ := la_so h
    refine BLC7 C _ rfl hi43 eμ43 dX5_lay_43 ?_
    refine la_iconst C (v := 1) dX5_lay_44 (by decide) ?_
    exact la_iret C rfl (la_rW (P := (fun r' μ' => r' = r0 ∧ μ' = μ0)) h hret) dX5_lay_45
  · replace h := la_f hc h
    refine la_iconst C (v := 0) dX5_lay_11 (by decide) ?_
    exact la_iret C rfl (la_rW (P := (fun r' μ' => r' = r0 ∧ μ' = μ0)) h hret) dX5_lay_12

def fX1_letFall (x1 : Int32) (x2 : Int32) (μ : la_Mem) : Option la_Mem :=
  la_if (la_ix x1 60) (la_st (la_ms μ 7 (Int32.toNatClampNeg x1) 12) (fun μ7 => if x2 = 12 then (some μ7) else (la_b2 (fX5_lay x1 x2 μ7) (fun r17 μ17 => if r17 = 0 then (la_st (la_ms μ17 14 4 ((μ17 14 4) + 1)) (fun μ30 => some μ30)) else (some μ17)))))
set_option maxRecDepth 10000 in
theorem mX1_letFall {z : LCz} {l : Launch} (x1 : Int32) (x2 : Int32) (μ : la_Mem) (μ0 : la_Mem)  (h : fX1_letFall x1 x2 μ = some μ0) : la_M (LC z) l yX1_letFall cX1_letFall 4 none rmX1_letFall [.ref (z.2.1 14), .int x1, .int x2, .ref (z.2.1 4)] μ (fun _ μ' => μ' = μ0) := by
  refine la_of (own := RX1) (lv := [(0, .ref (z.2.1 14)), (1, .int x1), (2, .int x2), (3, .ref (z.2.1 4))]) (by decide) rfl (Nat.le_of_ble_eq_true rfl) rfl (fun Φ C => ?_)
  unfold fX1_letFall at h
  have hret : μ0 = μ0 := rfl
  refine la_aload_n C dX1_letFall_0 3 rfl ?_
  refine GLCRX1_32 C dX1_letFall_1 ?_
  refine la_iload_n C dX1_letFall_4 1 rfl ?_
  refine la_bipush C (v := 12) dX1_letFall_5 (by decide) ?_
  obtain ⟨hi7, h⟩ := la_go h
  obtain ⟨μ7, eμ7, h⟩ := la_so h
  refine BLC7 C _ rfl hi7 eμ7 dX1_letFall_7 ?_
  refine la_iload_n C dX1_letFall_8 2 rfl ?_
  refine la_bipush C (v := 12) dX1_letFall_9 (by decide) ?_
  refine la_icmp_eq C (tgt := 33) dX1_letFall_11 (by decide) (fun hc => ?_) (fun hc => ?_)
  · replace h := la_t hc h
    exact la_vret C (la_rV (P := (fun _ μ' => μ' = μ0)) h hret) dX1_letFall_33
  · replace h := la_f hc h
    refine la_aload_n C dX1_letFall_14 3 rfl ?_
    refine la_iload_n C dX1_letFall_15 1 rfl ?_
    refine la_iload_n C dX1_letFall_16 2 rfl ?_
    obtain ⟨r17, μ17, hr17, h⟩ := la_b2o h
    refine KLCRX1_37 C [.int x1, .int x2] [] (mX5_lay x1 x2 μ7 r17 μ17 hr17) ⟨by decide, by decide⟩ rfl rfl (Nat.le_of_ble_eq_true rfl) dX1_letFall_17 ?_
    refine la_if_ne C (tgt := 33) dX1_letFall_20 (by decide) (fun hc => ?_) (fun hc => ?_)
    · replace h := la_f hc h
      exact la_vret C (la_rV (P := (fun _ μ' => μ' = μ0)) h hret) dX1_letFall_33
    · replace h := la_t hc h
      refine la_aload_n C dX1_letFall_23 0 rfl ?_
      refine la_dup C dX1_letFall_24 rfl ?_
      refine GLCRX1_25 C dX1_letFall_25 ?_
      refine la_iconst C (v := 1) dX1_letFall_28 (by decide) ?_
      refine la_iadd C dX1_letFall_29 ?_
      obtain ⟨μ30, eμ30, h⟩ := la_so h
      refine SLCRX1_25 C eμ30 dX1_letFall_30 ?_
      exact la_vret C (la_rV (P := (fun _ μ' => μ' = μ0)) h hret) dX1_letFall_33

def fX1_dropDue_J89 (rec : Int32 → Int32 → la_Mem → Option (Int32 × la_Mem)) (x1 : Int32) (x3 : Int32) (x4 : Int32) (μ : la_Mem) : Option (Int32 × la_Mem) :=
  rec x3 (x4 + 1) μ
set_option maxRecDepth 10000 in
theorem wX1_dropDue_J89 {z : LCz} {l : Launch} {Post : Int32 → la_Mem → Prop} {Φ : Nat → List (Nat × Value) → List Value → la_Mem → Prop} (C : la_C (LC z) l rmX1_dropDue RX1 cX1_dropDue 5 none Post Φ) (rec : Int32 → Int32 → la_Mem → Option (Int32 × la_Mem)) (x1 : Int32) (x3 : Int32) (x4 : Int32) (μ : la_Mem)  (ex : (Int32 × la_Mem)) (hrec : ∀ (y3 : Int32) (y4 : Int32) (ν : la_Mem), rec y3 y4 ν = some ex → Φ 5 [(0, .ref (z.2.1 14)), (1, .int x1), (2, .ref (z.2.1 4)), (3, .int y3), (4, .int y4)] [] ν) (kx : ∀ (y3 : Int32) (ν : la_Mem), ex = (y3, ν) → Φ 95 [(0, .ref (z.2.1 14)), (3, .int y3)] [] ν) (h : fX1_dropDue_J89 rec x1 x3 x4 μ = some ex) : Φ 89 [(0, .ref (z.2.1 14)), (1, .int x1), (2, .ref (z.2.1 4)), (3, .int x3), (4, .int x4)] [] μ := by
  unfold fX1_dropDue_J89 at h
  refine la_iinc C (v := (x4 + 1)) dX1_dropDue_89 4 rfl rfl (by decide) rfl ?_
  refine la_goto C (tgt := 5) dX1_dropDue_92 (by decide) ?_
  refine la_sub C [1, 2, 3, 4, 0] rfl ?_
  exact hrec _ _ _ h
def fX1_dropDue_L5 (x1 : Int32) : Nat → Int32 → Int32 → la_Mem → Option (Int32 × la_Mem)
  | 0, _, _, _ => none
  | n + 1, x3, x4, μ => if (μ 14 3) ≤ x4 then (some (x3, μ)) else (la_if (la_ix x4 60) (if (μ 17 (Int32.toNatClampNeg x4)) = x1 then (la_if (la_ix x4 60) (la_if (la_ix x4 60) ((fX1_letFall (μ 15 (Int32.toNatClampNeg x4)) (μ 16 (Int32.toNatClampNeg x4)) μ).bind (fun μ41 => fX1_dropDue_J89 (fX1_dropDue_L5 x1 n) x1 x3 x4 μ41)))) else (la_if (la_ix x4 60) (la_if (la_ix x3 60) (la_st (la_ms μ 15 (Int32.toNatClampNeg x3) (μ 15 (Int32.toNatClampNeg x4))) (fun μ59 => la_if (la_ix x4 60) (la_if (la_ix x3 60) (la_st (la_ms μ59 16 (Int32.toNatClampNeg x3) (μ59 16 (Int32.toNatClampNeg x4))) (fun μ72 => la_if (la_ix x4 60) (la_if (la_ix x3 60) (la_st (la_ms μ72 17 (Int32.toNatClampNeg x3) (μ72 17 (Int32.toNatClampNeg x4))) (fun μ85 => fX1_dropDue_J89 (fX1_dropDue_L5 x1 n) x1 (x3 + 1) x4 μ85))))))))))))
set_option maxRecDepth 10000 in
theorem wX1_dropDue_L5 {z : LCz} {l : Launch} {Post : Int32 → la_Mem → Prop} {Φ : Nat → List (Nat × Value) → List Value → la_Mem → Prop} (C : la_C (LC z) l rmX1_dropDue RX1 cX1_dropDue 5 none Post Φ) (x1 : Int32)  (ex : (Int32 × la_Mem)) (kx : ∀ (y3 : Int32) (ν : la_Mem), ex = (y3, ν) → Φ 95 [(0, .ref (z.2.1 14)), (3, .int y3)] [] ν) : ∀ (n : Nat) (x3 : Int32) (x4 : Int32) (μ : la_Mem), fX1_dropDue_L5 x1 n x3 x4 μ = some ex → Φ 5 [(0, .ref (z.2.1 14)), (1, .int x1), (2, .ref (z.2.1 4)), (3, .int x3), (4, .int x4)] [] μ := by
  intro n
  induction n with
  | zero =>
    intro _ _ _ h
    cases h
  | succ n hrec =>
    intro x3 x4 μ h
    rw [fX1_dropDue_L5] at h
    refine la_iload C dX1_dropDue_5 4 rfl ?_
    refine la_aload_n C dX1_dropDue_7 0 rfl ?_
    refine GLCRX1_21 C dX1_dropDue_8 ?_
    refine la_icmp_ge C (tgt := 95) dX1_dropDue_11 (by decide) (fun hc => ?_) (fun hc => ?_)
    · replace h := la_t hc h
      refine la_sub C [0, 3] rfl ?_
      exact kx _ _ (Option.some.inj h).symm
    · replace h := la_f hc h
      refine la_aload_n C dX1_dropDue_14 0 rfl ?_
      refine GLCRX1_18 C dX1_dropDue_15 ?_
      refine la_iload C dX1_dropDue_18 4 rfl ?_
      obtain ⟨hi20, h⟩ := la_go h
      refine ALC17 C _ rfl hi20 dX1_dropDue_20 ?_
      refine la_iload_n C dX1_dropDue_21 1 rfl ?_
      refine la_icmp_ne C (tgt := 47) dX1_dropDue_22 (by decide) (fun hc => ?_) (fun hc => ?_)
      · replace h := la_f hc h
        refine la_aload_n C dX1_dropDue_47 0 rfl ?_
        refine GLCRX1_9 C dX1_dropDue_48 ?_
        refine la_iload_n C dX1_dropDue_51 3 rfl ?_
        refine la_aload_n C dX1_dropDue_52 0 rfl ?_
        refine GLCRX1_9 C dX1_dropDue_53 ?_
        refine la_iload C dX1_dropDue_56 4 rfl ?_
        obtain ⟨hi58, h⟩ := la_go h
        refine ALC15 C _ rfl hi58 dX1_dropDue_58 ?_
        obtain ⟨hi59, h⟩ := la_go h
        obtain ⟨μ59, eμ59, h⟩ := la_so h
        refine BLC15 C _ rfl hi59 eμ59 dX1_dropDue_59 ?_
        refine la_aload_n C dX1_dropDue_60 0 rfl ?_
        refine GLCRX1_15 C dX1_dropDue_61 ?_
        refine la_iload_n C dX1_dropDue_64 3 rfl ?_
        refine la_aload_n C dX1_dropDue_65 0 rfl ?_
        refine GLCRX1_15 C dX1_dropDue_66 ?_
        refine la_iload C dX1_dropDue_69 4 rfl ?_
        obtain ⟨hi71, h⟩ := la_go h
        refine ALC16 C _ rfl hi71 dX1_dropDue_71 ?_
        obtain ⟨hi72, h⟩ := la_go h
        obtain ⟨μ72, eμ72, h⟩ := la_so h
        refine BLC16 C _ rfl hi72 eμ72 dX1_dropDue_72 ?_
        refine la_aload_n C dX1_dropDue_73 0 rfl ?_
        refine GLCRX1_18 C dX1_dropDue_74 ?_
        refine la_iload_n C dX1_dropDue_77 3 rfl ?_
        refine la_aload_n C dX1_dropDue_78 0 rfl ?_
        refine GLCRX1_18 C dX1_dropDue_79 ?_
        refine la_iload C dX1_dropDue_82 4 rfl ?_
        obtain ⟨hi84, h⟩ := la_go h
        refine ALC17 C _ rfl hi84 dX1_dropDue_84 ?_
        obtain ⟨hi85, h⟩ := la_go h
        obtain ⟨μ85, eμ85, h⟩ := la_so h
        refine BLC17 C _ rfl hi85 eμ85 dX1_dropDue_85 ?_
        refine la_iinc C (v := (x3 + 1)) dX1_dropDue_86 3 rfl rfl (by decide) rfl ?_
        refine la_sub C [1, 2, 3, 0, 4] rfl ?_
        exact wX1_dropDue_J89 C (fX1_dropDue_L5 x1 n) _ _ _ _  _ hrec kx h
      · replace h := la_t hc h
        refine la_aload_n C dX1_dropDue_25 0 rfl ?_
        refine la_aload_n C dX1_dropDue_26 0 rfl ?_
        refine GLCRX1_9 C dX1_dropDue_27 ?_
        refine la_iload C dX1_dropDue_30 4 rfl ?_
        obtain ⟨hi32, h⟩ := la_go h
        refine ALC15 C _ rfl hi32 dX1_dropDue_32 ?_
        refine la_aload_n C dX1_dropDue_33 0 rfl ?_
        refine GLCRX1_15 C dX1_dropDue_34 ?_
        refine la_iload C dX1_dropDue_37 4 rfl ?_
        obtain ⟨hi39, h⟩ := la_go h
        refine ALC16 C _ rfl hi39 dX1_dropDue_39 ?_
        refine la_aload_n C dX1_dropDue_40 2 rfl ?_
        obtain ⟨μ41, hr41, h⟩ := la_bd h
        refine KLCRX1_28 C [.int (μ 15 (Int32.toNatClampNeg x4)), .int (μ 16 (Int32.toNatClampNeg x4)), .ref (z.2.1 4)] [] (mX1_letFall (μ 15 (Int32.toNatClampNeg x4)) (μ 16 (Int32.toNatClampNeg x4)) μ μ41 hr41) ⟨by decide, by decide⟩ rfl rfl (Nat.le_of_ble_eq_true rfl) dX1_dropDue_41 ?_
        refine la_goto C (tgt := 89) dX1_dropDue_44 (by decide) ?_
        refine la_sub C [0, 1, 2, 3, 4] rfl ?_
        exact wX1_dropDue_J89 C (fX1_dropDue_L5 x1 n) _ _ _ _  _ hrec kx h
def fX1_dropDue (x1 : Int32) (μ : la_Mem) : Option la_Mem :=
  la_b2 (fX1_dropDue_L5 x1 400 0 0 μ) (fun q5_3 ν5 => la_st (la_ms ν5 14 3 q5_3) (fun μ97 => some μ97))
set_option maxRecDepth 10000 in
theorem mX1_dropDue {z : LCz} {l : Launch} (x1 : Int32) (μ : la_Mem) (μ0 : la_Mem)  (h : fX1_dropDue x1 μ = some μ0) : la_M (LC z) l yX1_dropDue cX1_dropDue 5 none rmX1_dropDue [.ref (z.2.1 14), .int x1, .ref (z.2.1 4)] μ (fun _ μ' => μ' = μ0) := by
  refine la_of (own := RX1) (lv := [(0, .ref (z.2.1 14)), (1, .int x1), (2, .ref (z.2.1 4))]) (by decide) rfl (Nat.le_of_ble_eq_true rfl) rfl (fun Φ C => ?_)
  unfold fX1_dropDue at h
  have hret : μ0 = μ0 := rfl
  refine la_iconst C (v := 0) dX1_dropDue_0 (by decide) ?_
  refine la_istore_n C dX1_dropDue_1 (by decide) rfl ?_
  refine la_iconst C (v := 0) dX1_dropDue_2 (by decide) ?_
  refine la_istore C dX1_dropDue_3 (by decide) rfl ?_
  obtain ⟨q5_3, ν5, hL5, h⟩ := la_b2o h
  refine la_sub C [2, 3, 4, 1, 0] rfl ?_
  refine wX1_dropDue_L5 C _  _ (fun _ _ e => ?_) _ _ _ _ hL5
  cases e
  refine la_aload_n C dX1_dropDue_95 0 rfl ?_
  refine la_iload_n C dX1_dropDue_96 1 rfl ?_
  obtain ⟨μ97, eμ97, h⟩ := la_so h
  refine SLCRX1_21 C eμ97 dX1_dropDue_97 ?_
  exact la_vret C (la_rV (P := (fun _ μ' => μ' = μ0)) h hret) dX1_dropDue_100

def fX2_isFull  (μ : la_Mem) : Option Int32 :=
  if ((μ 10 3) + (μ 10 4)) < 24 then (some 0) else (some 1)
set_option maxRecDepth 10000 in
theorem mX2_isFull {z : LCz} {l : Launch}  (μ : la_Mem) (r0 : Int32)  (h : fX2_isFull  μ = some r0) : la_M (LC z) l yX2_isFull cX2_isFull 1 (some .boolean) rmX2_isFull [.ref (z.2.1 10)] μ (fun r' μ' => r' = r0 ∧ μ' = μ) := by
  refine la_of (own := RX2) (lv := [(0, .ref (z.2.1 10))]) (by decide) rfl (Nat.le_of_ble_eq_true rfl) rfl (fun Φ C => ?_)
  unfold fX2_isFull at h
  have hret : r0 = r0 ∧ μ = μ := ⟨rfl, rfl⟩
  refine la_aload_n C dX2_isFull_0 0 rfl ?_
  refine GLCRX2_21 C dX2_isFull_1 ?_
  refine la_aload_n C dX2_isFull_4 0 rfl ?_
  refine GLCRX2_25 C dX2_isFull_5 ?_
  refine la_iadd C dX2_isFull_8 ?_
  refine la_bipush C (v := 24) dX2_isFull_9 (by decide) ?_
  refine la_icmp_lt C (tgt := 18) dX2_isFull_11 (by decide) (fun hc => ?_) (fun hc => ?_)
  · replace h := la_t hc h
    refine la_iconst C (v := 0) dX2_isFull_18 (by decide) ?_
    exact la_iret C rfl (la_rR (P := (fun r' μ' => r' = r0 ∧ μ' = μ)) h hret) dX2_isFull_19
  · replace h := la_f hc h
    refine la_iconst C (v := 1) dX2_isFull_14 (by decide) ?_
    refine la_goto C (tgt := 19) dX2_isFull_15 (by decide) ?_
    exact la_iret C rfl (la_rR (P := (fun r' μ' => r' = r0 ∧ μ' = μ)) h hret) dX2_isFull_19

def fX2_letGo (x1 : Int32) (x2 : Int32) (μ : la_Mem) : Option la_Mem :=
  (fX2_isFull  μ).bind (fun r1 => if r1 = 0 then (la_if (la_ix (μ 10 4) 24) (la_st (la_ms μ 12 (Int32.toNatClampNeg (μ 10 4)) x1) (fun μ17 => la_if (la_ix (μ17 10 4) 24) (la_st (la_ms μ17 13 (Int32.toNatClampNeg (μ17 10 4)) x2) (fun μ27 => la_st (la_ms μ27 10 4 ((μ27 10 4) + 1)) (fun μ35 => if x1 = 100 then (la_st (la_ms μ35 10 5 ((μ35 10 5) + 1)) (fun μ51 => some μ51)) else (some μ35))))))) else (some μ))
set_option maxRecDepth 10000 in
theorem mX2_letGo {z : LCz} {l : Launch} (x1 : Int32) (x2 : Int32) (μ : la_Mem) (μ0 : la_Mem)  (h : fX2_letGo x1 x2 μ = some μ0) : la_M (LC z) l yX2_letGo cX2_letGo 3 none rmX2_letGo [.ref (z.2.1 10), .int x1, .int x2] μ (fun _ μ' => μ' = μ0) := by
  refine la_of (own := RX2) (lv := [(0, .ref (z.2.1 10)), (1, .int x1), (2, .int x2)]) (by decide) rfl (Nat.le_of_ble_eq_true rfl) rfl (fun Φ C => ?_)
  unfold fX2_letGo at h
  have hret : μ0 = μ0 := rfl
  refine la_aload_n C dX2_letGo_0 0 rfl ?_
  obtain ⟨r1, hr1, h⟩ := la_bd h
  refine KLCRX2_31 C [] [] (mX2_isFull  μ r1 hr1) ⟨by decide, by decide⟩ rfl rfl (Nat.le_of_ble_eq_true rfl) dX2_letGo_1 ?_
  refine la_if_eq C (tgt := 8) dX2_letGo_4 (by decide) (fun hc => ?_) (fun hc => ?_)
  · replace h := la_t hc h
    refine la_aload_n C dX2_letGo_8 0 rfl ?_
    refine GLCRX2_15 C dX2_letGo_9 ?_
    refine la_aload_n C dX2_letGo_12 0 rfl ?_
    refine GLCRX2_25 C dX2_letGo_13 ?_
    refine la_iload_n C dX2_letGo_16 1 rfl ?_
    obtain ⟨hi17, h⟩ := la_go h
    obtain ⟨μ17, eμ17, h⟩ := la_so h
    refine BLC12 C _ rfl hi17 eμ17 dX2_letGo_17 ?_
    refine la_aload_n C dX2_letGo_18 0 rfl ?_
    refine GLCRX2_18 C dX2_letGo_19 ?_
    refine la_aload_n C dX2_letGo_22 0 rfl ?_
    refine GLCRX2_25 C dX2_letGo_23 ?_
    refine la_iload_n C dX2_letGo_26 2 rfl ?_
    obtain ⟨hi27, h⟩ := la_go h
    obtain ⟨μ27, eμ27, h⟩ := la_so h
    refine BLC13 C _ rfl hi27 eμ27 dX2_letGo_27 ?_
    refine la_aload_n C dX2_letGo_28 0 rfl ?_
    refine la_dup C dX2_letGo_29 rfl ?_
    refine GLCRX2_25 C dX2_letGo_30 ?_
    refine la_iconst C (v := 1) dX2_letGo_33 (by decide) ?_
    refine la_iadd C dX2_letGo_34 ?_
    obtain ⟨μ35, eμ35, h⟩ := la_so h
    refine SLCRX2_25 C eμ35 dX2_letGo_35 ?_
    refine la_iload_n C dX2_letGo_38 1 rfl ?_
    refine la_bipush C (v := 100) dX2_letGo_39 (by decide) ?_
    refine la_icmp_ne C (tgt := 54) dX2_letGo_41 (by decide) (fun hc => ?_) (fun hc => ?_)
    · replace h := la_f hc h
      exact la_vret C (la_rV (P := (fun _ μ' => μ' = μ0)) h hret) dX2_letGo_54
    · replace h := la_t hc h
      refine la_aload_n C dX2_letGo_44 0 rfl ?_
      refine la_dup C dX2_letGo_45 rfl ?_
      refine GLCRX2_28 C dX2_letGo_46 ?_
      refine la_iconst C (v := 1) dX2_letGo_49 (by decide) ?_
      refine la_iadd C dX2_letGo_50 ?_
      obtain ⟨μ51, eμ51, h⟩ := la_so h
      refine SLCRX2_28 C eμ51 dX2_letGo_51 ?_
      exact la_vret C (la_rV (P := (fun _ μ' => μ' = μ0)) h hret) dX2_letGo_54
  · replace h := la_f hc h
    exact la_vret C (la_rV (P := (fun _ μ' => μ' = μ0)) h hret) dX2_letGo_7

def fX2_takeDue_J86 (rec : Int32 → Int32 → la_Mem → Option (Int32 × la_Mem)) (x1 : Int32) (x2 : Int32) (x3 : Int32) (μ : la_Mem) : Option (Int32 × la_Mem) :=
  rec x2 (x3 + 1) μ
set_option maxRecDepth 10000 in
theorem wX2_takeDue_J86 {z : LCz} {l : Launch} {Post : Int32 → la_Mem → Prop} {Φ : Nat → List (Nat × Value) → List Value → la_Mem → Prop} (C : la_C (LC z) l rmX2_takeDue RX2 cX2_takeDue 4 none Post Φ) (rec : Int32 → Int32 → la_Mem → Option (Int32 × la_Mem)) (x1 : Int32) (x2 : Int32) (x3 : Int32) (μ : la_Mem)  (ex : (Int32 × la_Mem)) (hrec : ∀ (y2 : Int32) (y3 : Int32) (ν : la_Mem), rec y2 y3 ν = some ex → Φ 4 [(0, .ref (z.2.1 10)), (1, .int x1), (2, .int y2), (3, .int y3)] [] ν) (kx : ∀ (y2 : Int32) (ν : la_Mem), ex = (y2, ν) → Φ 92 [(0, .ref (z.2.1 10)), (2, .int y2)] [] ν) (h : fX2_takeDue_J86 rec x1 x2 x3 μ = some ex) : Φ 86 [(0, .ref (z.2.1 10)), (1, .int x1), (2, .int x2), (3, .int x3)] [] μ := by
  unfold fX2_takeDue_J86 at h
  refine la_iinc C (v := (x3 + 1)) dX2_takeDue_86 3 rfl rfl (by decide) rfl ?_
  refine la_goto C (tgt := 4) dX2_takeDue_89 (by decide) ?_
  refine la_sub C [1, 2, 3, 0] rfl ?_
  exact hrec _ _ _ h
def fX2_takeDue_J59 (rec : Int32 → Int32 → la_Mem → Option (Int32 × la_Mem)) (x1 : Int32) (x2 : Int32) (x3 : Int32) (μ : la_Mem) : Option (Int32 × la_Mem) :=
  la_if (la_ix x3 24) (la_if (la_ix x2 24) (la_st (la_ms μ 12 (Int32.toNatClampNeg x2) (μ 12 (Int32.toNatClampNeg x3))) (fun μ70 => la_if (la_ix x3 24) (la_if (la_ix x2 24) (la_st (la_ms μ70 13 (Int32.toNatClampNeg x2) (μ70 13 (Int32.toNatClampNeg x3))) (fun μ82 => fX2_takeDue_J86 rec x1 (x2 + 1) x3 μ82))))))
set_option maxRecDepth 10000 in
theorem wX2_takeDue_J59 {z : LCz} {l : Launch} {Post : Int32 → la_Mem → Prop} {Φ : Nat → List (Nat × Value) → List Value → la_Mem → Prop} (C : la_C (LC z) l rmX2_takeDue RX2 cX2_takeDue 4 none Post Φ) (rec : Int32 → Int32 → la_Mem → Option (Int32 × la_Mem)) (x1 : Int32) (x2 : Int32) (x3 : Int32) (μ : la_Mem)  (ex : (Int32 × la_Mem)) (hrec : ∀ (y2 : Int32) (y3 : Int32) (ν : la_Mem), rec y2 y3 ν = some ex → Φ 4 [(0, .ref (z.2.1 10)), (1, .int x1), (2, .int y2), (3, .int y3)] [] ν) (kx : ∀ (y2 : Int32) (ν : la_Mem), ex = (y2, ν) → Φ 92 [(0, .ref (z.2.1 10)), (2, .int y2)] [] ν) (h : fX2_takeDue_J59 rec x1 x2 x3 μ = some ex) : Φ 59 [(0, .ref (z.2.1 10)), (1, .int x1), (2, .int x2), (3, .int x3)] [] μ := by
  unfold fX2_takeDue_J59 at h
  refine la_aload_n C dX2_takeDue_59 0 rfl ?_
  refine GLCRX2_15 C dX2_takeDue_60 ?_
  refine la_iload_n C dX2_takeDue_63 2 rfl ?_
  refine la_aload_n C dX2_takeDue_64 0 rfl ?_
  refine GLCRX2_15 C dX2_takeDue_65 ?_
  refine la_iload_n C dX2_takeDue_68 3 rfl ?_
  obtain ⟨hi69, h⟩ := la_go h
  refine ALC12 C _ rfl hi69 dX2_takeDue_69 ?_
  obtain ⟨hi70, h⟩ := la_go h
  obtain ⟨μ70, eμ70, h⟩ := la_so h
  refine BLC12 C _ rfl hi70 eμ70 dX2_takeDue_70 ?_
  refine la_aload_n C dX2_takeDue_71 0 rfl ?_
  refine GLCRX2_18 C dX2_takeDue_72 ?_
  refine la_iload_n C dX2_takeDue_75 2 rfl ?_
  refine la_aload_n C dX2_takeDue_76 0 rfl ?_
  refine GLCRX2_18 C dX2_takeDue_77 ?_
  refine la_iload_n C dX2_takeDue_80 3 rfl ?_
  obtain ⟨hi81, h⟩ := la_go h
  refine ALC13 C _ rfl hi81 dX2_takeDue_81 ?_
  obtain ⟨hi82, h⟩ := la_go h
  obtain ⟨μ82, eμ82, h⟩ := la_so h
  refine BLC13 C _ rfl hi82 eμ82 dX2_takeDue_82 ?_
  refine la_iinc C (v := (x2 + 1)) dX2_takeDue_83 2 rfl rfl (by decide) rfl ?_
  refine la_sub C [1, 2, 0, 3] rfl ?_
  exact wX2_takeDue_J86 C rec _ _ _ _  _ hrec kx h
def fX2_takeDue_L4 (x1 : Int32) : Nat → Int32 → Int32 → la_Mem → Option (Int32 × la_Mem)
  | 0, _, _, _ => none
  | n + 1, x2, x3, μ => if (μ 10 4) ≤ x3 then (some (x2, μ)) else (la_if (la_ix x3 24) (if (μ 13 (Int32.toNatClampNeg x3)) = x1 then (if 24 ≤ (μ 10 3) then (fX2_takeDue_J59 (fX2_takeDue_L4 x1 n) x1 x2 x3 μ) else (la_if (la_ix x3 24) (la_if (la_ix (μ 10 3) 24) (la_st (la_ms μ 11 (Int32.toNatClampNeg (μ 10 3)) (μ 12 (Int32.toNatClampNeg x3))) (fun μ45 => la_st (la_ms μ45 10 3 ((μ45 10 3) + 1)) (fun μ53 => fX2_takeDue_J86 (fX2_takeDue_L4 x1 n) x1 x2 x3 μ53)))))) else (fX2_takeDue_J59 (fX2_takeDue_L4 x1 n) x1 x2 x3 μ)))
set_option maxRecDepth 10000 in
theorem wX2_takeDue_L4 {z : LCz} {l : Launch} {Post : Int32 → la_Mem → Prop} {Φ : Nat → List (Nat × Value) → List Value → la_Mem → Prop} (C : la_C (LC z) l rmX2_takeDue RX2 cX2_takeDue 4 none Post Φ) (x1 : Int32)  (ex : (Int32 × la_Mem)) (kx : ∀ (y2 : Int32) (ν : la_Mem), ex = (y2, ν) → Φ 92 [(0, .ref (z.2.1 10)), (2, .int y2)] [] ν) : ∀ (n : Nat) (x2 : Int32) (x3 : Int32) (μ : la_Mem), fX2_takeDue_L4 x1 n x2 x3 μ = some ex → Φ 4 [(0, .ref (z.2.1 10)), (1, .int x1), (2, .int x2), (3, .int x3)] [] μ := by
  intro n
  induction n with
  | zero =>
    intro _ _ _ h
    cases h
  | succ n hrec =>
    intro x2 x3 μ h
    rw [fX2_takeDue_L4] at h
    refine la_iload_n C dX2_takeDue_4 3 rfl ?_
    refine la_aload_n C dX2_takeDue_5 0 rfl ?_
    refine GLCRX2_25 C dX2_takeDue_6 ?_
    refine la_icmp_ge C (tgt := 92) dX2_takeDue_9 (by decide) (fun hc => ?_) (fun hc => ?_)
    · replace h := la_t hc h
      refine la_sub C [0, 2] rfl ?_
      exact kx _ _ (Option.some.inj h).symm
    · replace h := la_f hc h
      refine la_aload_n C dX2_takeDue_12 0 rfl ?_
      refine GLCRX2_18 C dX2_takeDue_13 ?_
      refine la_iload_n C dX2_takeDue_16 3 rfl ?_
      obtain ⟨hi17, h⟩ := la_go h
      refine ALC13 C _ rfl hi17 dX2_takeDue_17 ?_
      refine la_iload_n C dX2_takeDue_18 1 rfl ?_
      refine la_icmp_ne C (tgt := 59) dX2_takeDue_19 (by decide) (fun hc => ?_) (fun hc => ?_)
      · replace h := la_f hc h
        refine la_sub C [0, 1, 2, 3] rfl ?_
        exact wX2_takeDue_J59 C (fX2_takeDue_L4 x1 n) _ _ _ _  _ hrec kx h
      · replace h := la_t hc h
        refine la_aload_n C dX2_takeDue_22 0 rfl ?_
        refine GLCRX2_21 C dX2_takeDue_23 ?_
        refine la_bipush C (v := 24) dX2_takeDue_26 (by decide) ?_
        refine la_icmp_ge C (tgt := 59) dX2_takeDue_28 (by decide) (fun hc => ?_) (fun hc => ?_)
        · replace h := la_t hc h
          refine la_sub C [0, 1, 2, 3] rfl ?_
          exact wX2_takeDue_J59 C (fX2_takeDue_L4 x1 n) _ _ _ _  _ hrec kx h
        · replace h := la_f hc h
          refine la_aload_n C dX2_takeDue_31 0 rfl ?_
          refine GLCRX2_9 C dX2_takeDue_32 ?_
          refine la_aload_n C dX2_takeDue_35 0 rfl ?_
          refine GLCRX2_21 C dX2_takeDue_36 ?_
          refine la_aload_n C dX2_takeDue_39 0 rfl ?_
          refine GLCRX2_15 C dX2_takeDue_40 ?_
          refine la_iload_n C dX2_takeDue_43 3 rfl ?_
          obtain ⟨hi44, h⟩ := la_go h
          refine ALC12 C _ rfl hi44 dX2_takeDue_44 ?_
          obtain ⟨hi45, h⟩ := la_go h
          obtain ⟨μ45, eμ45, h⟩ := la_so h
          refine BLC11 C _ rfl hi45 eμ45 dX2_takeDue_45 ?_
          refine la_aload_n C dX2_takeDue_46 0 rfl ?_
          refine la_dup C dX2_takeDue_47 rfl ?_
          refine GLCRX2_21 C dX2_takeDue_48 ?_
          refine la_iconst C (v := 1) dX2_takeDue_51 (by decide) ?_
          refine la_iadd C dX2_takeDue_52 ?_
          obtain ⟨μ53, eμ53, h⟩ := la_so h
          refine SLCRX2_21 C eμ53 dX2_takeDue_53 ?_
          refine la_goto C (tgt := 86) dX2_takeDue_56 (by decide) ?_
          refine la_sub C [0, 1, 2, 3] rfl ?_
          exact wX2_takeDue_J86 C (fX2_takeDue_L4 x1 n) _ _ _ _  _ hrec kx h
def fX2_takeDue (x1 : Int32) (μ : la_Mem) : Option la_Mem :=
  la_b2 (fX2_takeDue_L4 x1 400 0 0 μ) (fun q4_2 ν4 => la_st (la_ms ν4 10 4 q4_2) (fun μ94 => some μ94))
set_option maxRecDepth 10000 in
theorem mX2_takeDue {z : LCz} {l : Launch} (x1 : Int32) (μ : la_Mem) (μ0 : la_Mem)  (h : fX2_takeDue x1 μ = some μ0) : la_M (LC z) l yX2_takeDue cX2_takeDue 4 none rmX2_takeDue [.ref (z.2.1 10), .int x1] μ (fun _ μ' => μ' = μ0) := by
  refine la_of (own := RX2) (lv := [(0, .ref (z.2.1 10)), (1, .int x1)]) (by decide) rfl (Nat.le_of_ble_eq_true rfl) rfl (fun Φ C => ?_)
  unfold fX2_takeDue at h
  have hret : μ0 = μ0 := rfl
  refine la_iconst C (v := 0) dX2_takeDue_0 (by decide) ?_
  refine la_istore_n C dX2_takeDue_1 (by decide) rfl ?_
  refine la_iconst C (v := 0) dX2_takeDue_2 (by decide) ?_
  refine la_istore_n C dX2_takeDue_3 (by decide) rfl ?_
  obtain ⟨q4_2, ν4, hL4, h⟩ := la_b2o h
  refine la_sub C [2, 3, 1, 0] rfl ?_
  refine wX2_takeDue_L4 C _  _ (fun _ _ e => ?_) _ _ _ _ hL4
  cases e
  refine la_aload_n C dX2_takeDue_92 0 rfl ?_
  refine la_iload_n C dX2_takeDue_93 1 rfl ?_
  obtain ⟨μ94, eμ94, h⟩ := la_so h
  refine SLCRX2_25 C eμ94 dX2_takeDue_94 ?_
  exact la_vret C (la_rV (P := (fun _ μ' => μ' = μ0)) h hret) dX2_takeDue_97

def fX2_bandsCome_J26 (rec : Int32 → Int32 → Option (Int32)) (x1 : Int32) (x2 : Int32) (μ : la_Mem) : Option (Int32) :=
  rec x1 (x2 + 1)
set_option maxRecDepth 10000 in
theorem wX2_bandsCome_J26 {z : LCz} {l : Launch} {Post : Int32 → la_Mem → Prop} {Φ : Nat → List (Nat × Value) → List Value → la_Mem → Prop} (C : la_C (LC z) l rmX2_bandsCome RX2 cX2_bandsCome 3 (some .int) Post Φ) (rec : Int32 → Int32 → Option (Int32)) (x1 : Int32) (x2 : Int32) (μ : la_Mem)  (ex : (Int32)) (hrec : ∀ (y1 : Int32) (y2 : Int32), rec y1 y2 = some ex → Φ 4 [(0, .ref (z.2.1 10)), (1, .int y1), (2, .int y2)] [] μ) (kx : ∀ (y1 : Int32), ex = y1 → Φ 32 [(1, .int y1)] [] μ) (h : fX2_bandsCome_J26 rec x1 x2 μ = some ex) : Φ 26 [(0, .ref (z.2.1 10)), (1, .int x1), (2, .int x2)] [] μ := by
  unfold fX2_bandsCome_J26 at h
  refine la_iinc C (v := (x2 + 1)) dX2_bandsCome_26 2 rfl rfl (by decide) rfl ?_
  refine la_goto C (tgt := 4) dX2_bandsCome_29 (by decide) ?_
  refine la_sub C [1, 2, 0] rfl ?_
  exact hrec _ _ h
def fX2_bandsCome_L4  (μ : la_Mem) : Nat → Int32 → Int32 → Option (Int32)
  | 0, _, _ => none
  | n + 1, x1, x2 => if (μ 10 3) ≤ x2 then (some x1) else (la_if (la_ix x2 24) (if (μ 11 (Int32.toNatClampNeg x2)) = 100 then (fX2_bandsCome_J26 (fX2_bandsCome_L4  μ n) (x1 + 1) x2 μ) else (fX2_bandsCome_J26 (fX2_bandsCome_L4  μ n) x1 x2 μ)))
set_option maxRecDepth 10000 in
theorem wX2_bandsCome_L4 {z : LCz} {l : Launch} {Post : Int32 → la_Mem → Prop} {Φ : Nat → List (Nat × Value) → List Value → la_Mem → Prop} (C : la_C (LC z) l rmX2_bandsCome RX2 cX2_bandsCome 3 (some .int) Post Φ)  (μ : la_Mem)  (ex : (Int32)) (kx : ∀ (y1 : Int32), ex = y1 → Φ 32 [(1, .int y1)] [] μ) : ∀ (n : Nat) (x1 : Int32) (x2 : Int32), fX2_bandsCome_L4  μ n x1 x2 = some ex → Φ 4 [(0, .ref (z.2.1 10)), (1, .int x1), (2, .int x2)] [] μ := by
  intro n
  induction n with
  | zero =>
    intro _ _ h
    cases h
  | succ n hrec =>
    intro x1 x2 h
    rw [fX2_bandsCome_L4] at h
    refine la_iload_n C dX2_bandsCome_4 2 rfl ?_
    refine la_aload_n C dX2_bandsCome_5 0 rfl ?_
    refine GLCRX2_21 C dX2_bandsCome_6 ?_
    refine la_icmp_ge C (tgt := 32) dX2_bandsCome_9 (by decide) (fun hc => ?_) (fun hc => ?_)
    · replace h := la_t hc h
      refine la_sub C [1] rfl ?_
      exact kx _ (Option.some.inj h).symm
    · replace h := la_f hc h
      refine la_aload_n C dX2_bandsCome_12 0 rfl ?_
      refine GLCRX2_9 C dX2_bandsCome_13 ?_
      refine la_iload_n C dX2_bandsCome_16 2 rfl ?_
      obtain ⟨hi17, h⟩ := la_go h
      refine ALC11 C _ rfl hi17 dX2_bandsCome_17 ?_
      refine la_bipush C (v := 100) dX2_bandsCome_18 (by decide) ?_
      refine la_icmp_ne C (tgt := 26) dX2_bandsCome_20 (by decide) (fun hc => ?_) (fun hc => ?_)
      · replace h := la_f hc h
        refine la_sub C [0, 1, 2] rfl ?_
        exact wX2_bandsCome_J26 C (fX2_bandsCome_L4  μ n) _ _ _  _ hrec kx h
      · replace h := la_t hc h
        refine la_iinc C (v := (x1 + 1)) dX2_bandsCome_23 1 rfl rfl (by decide) rfl ?_
        refine la_sub C [1, 0, 2] rfl ?_
        exact wX2_bandsCome_J26 C (fX2_bandsCome_L4  μ n) _ _ _  _ hrec kx h
def fX2_bandsCome  (μ : la_Mem) : Option Int32 :=
  Option.bind (fX2_bandsCome_L4  μ 400 0 0) (fun q4_1 => some q4_1)
set_option maxRecDepth 10000 in
theorem mX2_bandsCome {z : LCz} {l : Launch}  (μ : la_Mem) (r0 : Int32)  (h : fX2_bandsCome  μ = some r0) : la_M (LC z) l yX2_bandsCome cX2_bandsCome 3 (some .int) rmX2_bandsCome [.ref (z.2.1 10)] μ (fun r' μ' => r' = r0 ∧ μ' = μ) := by
  refine la_of (own := RX2) (lv := [(0, .ref (z.2.1 10))]) (by decide) rfl (Nat.le_of_ble_eq_true rfl) rfl (fun Φ C => ?_)
  unfold fX2_bandsCome at h
  have hret : r0 = r0 ∧ μ = μ := ⟨rfl, rfl⟩
  refine la_iconst C (v := 0) dX2_bandsCome_0 (by decide) ?_
  refine la_istore_n C dX2_bandsCome_1 (by decide) rfl ?_
  refine la_iconst C (v := 0) dX2_bandsCome_2 (by decide) ?_
  refine la_istore_n C dX2_bandsCome_3 (by decide) rfl ?_
  obtain ⟨q4_1, hL4, h⟩ := la_bd h
  refine la_sub C [2, 1, 0] rfl ?_
  refine wX2_bandsCome_L4 C _  _ (fun _ e => ?_) _ _ _ hL4
  cases e
  refine la_iload_n C dX2_bandsCome_32 0 rfl ?_
  exact la_iret C rfl (la_rR (P := (fun r' μ' => r' = r0 ∧ μ' = μ)) h hret) dX2_bandsCome_33

def fX2_empty  (μ : la_Mem) : Option la_Mem :=
  la_st (la_ms μ 10 3 0) (fun μ2 => la_st (la_ms μ2 10 5 0) (fun μ7 => some μ7))
set_option maxRecDepth 10000 in
theorem mX2_empty {z : LCz} {l : Launch}  (μ : la_Mem) (μ0 : la_Mem)  (h : fX2_empty  μ = some μ0) : la_M (LC z) l yX2_empty cX2_empty 1 none rmX2_empty [.ref (z.2.1 10)] μ (fun _ μ' => μ' = μ0) := by
  refine la_of (own := RX2) (lv := [(0, .ref (z.2.1 10))]) (by decide) rfl (Nat.le_of_ble_eq_true rfl) rfl (fun Φ C => ?_)
  unfold fX2_empty at h
  have hret : μ0 = μ0 := rfl
  refine la_aload_n C dX2_empty_0 0 rfl ?_
  refine la_iconst C (v := 0) dX2_empty_1 (by decide) ?_
  obtain ⟨μ2, eμ2, h⟩ := la_so h
  refine SLCRX2_21 C eμ2 dX2_empty_2 ?_
  refine la_aload_n C dX2_empty_5 0 rfl ?_
  refine la_iconst C (v := 0) dX2_empty_6 (by decide) ?_
  obtain ⟨μ7, eμ7, h⟩ := la_so h
  refine SLCRX2_28 C eμ7 dX2_empty_7 ?_
  exact la_vret C (la_rV (P := (fun _ μ' => μ' = μ0)) h hret) dX2_empty_10

def fX3_hold_L17 (s : Nat) : Nat → Int32 → la_Mem → Option (la_Mem)
  | 0, _, _ => none
  | n + 1, x3, μ => if 40 ≤ x3 then (some μ) else (la_if (la_ix x3 40) (la_st (la_ms μ (28 + s + 4) (Int32.toNatClampNeg x3) 0) (fun μ29 => (fX3_hold_L17 s n) (x3 + 1) μ29)))
set_option maxRecDepth 10000 in
theorem wX3_hold_L17 {z : LCz} {l : Launch} {Post : Int32 → la_Mem → Prop} {Φ : Nat → List (Nat × Value) → List Value → la_Mem → Prop} (C : la_C (LC z) l rmX3_hold RX3 cX3_hold 4 none Post Φ) (s : Nat) (hs_s : s < 4) (ex : (la_Mem)) (kx : ∀  (ν : la_Mem), ex = ν → Φ 36 [] [] ν) : ∀ (n : Nat) (x3 : Int32) (μ : la_Mem), fX3_hold_L17 s n x3 μ = some ex → Φ 17 [(0, .ref (z.2.1 (28 + s))), (3, .int x3)] [] μ := by
  intro n
  induction n with
  | zero =>
    intro _ _ h
    cases h
  | succ n hrec =>
    intro x3 μ h
    rw [fX3_hold_L17] at h
    refine la_iload_n C dX3_hold_17 1 rfl ?_
    refine la_bipush C (v := 40) dX3_hold_18 (by decide) ?_
    refine la_icmp_ge C (tgt := 36) dX3_hold_20 (by decide) (fun hc => ?_) (fun hc => ?_)
    · replace h := la_t hc h
      refine la_sub C [] rfl ?_
      exact kx _ (Option.some.inj h).symm
    · replace h := la_f hc h
      refine la_aload_n C dX3_hold_23 0 rfl ?_
      refine GLCRX3_9 C hs_s dX3_hold_24 ?_
      refine la_iload_n C dX3_hold_27 1 rfl ?_
      refine la_iconst C (v := 0) dX3_hold_28 (by decide) ?_
      obtain ⟨hi29, h⟩ := la_go h
      obtain ⟨μ29, eμ29, h⟩ := la_so h
      refine BLCd32 C hs_s _ rfl hi29 eμ29 dX3_hold_29 ?_
      refine la_iinc C (v := (x3 + 1)) dX3_hold_30 1 rfl rfl (by decide) rfl ?_
      refine la_goto C (tgt := 17) dX3_hold_33 (by decide) ?_
      refine la_sub C [1, 0] rfl ?_
      exact hrec _ _ h
def fX3_hold (s : Nat) (x1 : Int32) (x2 : Int32) (μ : la_Mem) : Option la_Mem :=
  la_st (la_ms μ (28 + s) 1 1) (fun μ2 => la_st (la_ms μ2 (28 + s) 2 x1) (fun μ7 => la_st (la_ms μ7 (28 + s) 3 x2) (fun μ12 => Option.bind (fX3_hold_L17 s 400 0 μ12) (fun ν17 => some ν17))))
set_option maxRecDepth 10000 in
theorem mX3_hold {z : LCz} {l : Launch} (s : Nat) (x1 : Int32) (x2 : Int32) (μ : la_Mem) (μ0 : la_Mem) (hs_s : s < 4) (h : fX3_hold s x1 x2 μ = some μ0) : la_M (LC z) l yX3_hold cX3_hold 4 none rmX3_hold [.ref (z.2.1 (28 + s)), .int x1, .int x2] μ (fun _ μ' => μ' = μ0) := by
  refine la_of (own := RX3) (lv := [(0, .ref (z.2.1 (28 + s))), (1, .int x1), (2, .int x2)]) (by decide) rfl (Nat.le_of_ble_eq_true rfl) rfl (fun Φ C => ?_)
  unfold fX3_hold at h
  have hret : μ0 = μ0 := rfl
  refine la_aload_n C dX3_hold_0 0 rfl ?_
  refine la_iconst C (v := 1) dX3_hold_1 (by decide) ?_
  obtain ⟨μ2, eμ2, h⟩ := la_so h
  refine SLCRX3_15 C hs_s eμ2 rfl dX3_hold_2 ?_
  refine la_aload_n C dX3_hold_5 0 rfl ?_
  refine la_iload_n C dX3_hold_6 1 rfl ?_
  obtain ⟨μ7, eμ7, h⟩ := la_so h
  refine SLCRX3_19 C hs_s eμ7 dX3_hold_7 ?_
  refine la_aload_n C dX3_hold_10 0 rfl ?_
  refine la_iload_n C dX3_hold_11 2 rfl ?_
  obtain ⟨μ12, eμ12, h⟩ := la_so h
  refine SLCRX3_23 C hs_s eμ12 dX3_hold_12 ?_
  refine la_iconst C (v := 0) dX3_hold_15 (by decide) ?_
  refine la_istore_n C dX3_hold_16 (by decide) rfl ?_
  obtain ⟨ν17, hL17, h⟩ := la_bd h
  refine la_sub C [1, 0] rfl ?_
  refine wX3_hold_L17 C _ hs_s _ (fun _ e => ?_) _ _ _ hL17
  cases e
  exact la_vret C (la_rV (P := (fun _ μ' => μ' = μ0)) h hret) dX3_hold_36

def fX3_spans (s : Nat) (x1 : Int32) (x2 : Int32) (μ : la_Mem) : Option Int32 :=
  if x1 < 0 then (some 0) else (if x2 < 0 then (some 0) else (if (μ (28 + s) 3) < x2 then (some 0) else (if ((μ (28 + s) 3) - x2) < x1 then (some 0) else (some 1))))
set_option maxRecDepth 10000 in
theorem mX3_spans {z : LCz} {l : Launch} (s : Nat) (x1 : Int32) (x2 : Int32) (μ : la_Mem) (r0 : Int32) (hs_s : s < 4) (h : fX3_spans s x1 x2 μ = some r0) : la_M (LC z) l yX3_spans cX3_spans 3 (some .boolean) rmX3_spans [.ref (z.2.1 (28 + s)), .int x1, .int x2] μ (fun r' μ' => r' = r0 ∧ μ' = μ) := by
  refine la_of (own := RX3) (lv := [(0, .ref (z.2.1 (28 + s))), (1, .int x1), (2, .int x2)]) (by decide) rfl (Nat.le_of_ble_eq_true rfl) rfl (fun Φ C => ?_)
  unfold fX3_spans at h
  have hret : r0 = r0 ∧ μ = μ := ⟨rfl, rfl⟩
  refine la_iload_n C dX3_spans_0 1 rfl ?_
  refine la_if_lt C (tgt := 30) dX3_spans_1 (by decide) (fun hc => ?_) (fun hc => ?_)
  · replace h := la_t hc h
    refine la_iconst C (v := 0) dX3_spans_30 (by decide) ?_
    exact la_iret C rfl (la_rR (P := (fun r' μ' => r' = r0 ∧ μ' = μ)) h hret) dX3_spans_31
  · replace h := la_f hc h
    refine la_iload_n C dX3_spans_4 2 rfl ?_
    refine la_if_lt C (tgt := 30) dX3_spans_5 (by decide) (fun hc => ?_) (fun hc => ?_)
    · replace h := la_t hc h
      refine la_iconst C (v := 0) dX3_spans_30 (by decide) ?_
      exact la_iret C rfl (la_rR (P := (fun r' μ' => r' = r0 ∧ μ' = μ)) h hret) dX3_spans_31
    · replace h := la_f hc h
      refine la_iload_n C dX3_spans_8 2 rfl ?_
      refine la_aload_n C dX3_spans_9 0 rfl ?_
      refine GLCRX3_23 C hs_s dX3_spans_10 ?_
      refine la_icmp_gt C (tgt := 30) dX3_spans_13 (by decide) (fun hc => ?_) (fun hc => ?_)
      · replace h := la_t hc h
        refine la_iconst C (v := 0) dX3_spans_30 (by decide) ?_
        exact la_iret C rfl (la_rR (P := (fun r' μ' => r' = r0 ∧ μ' = μ)) h hret) dX3_spans_31
      · replace h := la_f hc h
        refine la_iload_n C dX3_spans_16 1 rfl ?_
        refine la_aload_n C dX3_spans_17 0 rfl ?_
        refine GLCRX3_23 C hs_s dX3_spans_18 ?_
        refine la_iload_n C dX3_spans_21 2 rfl ?_
        refine la_isub C dX3_spans_22 ?_
        refine la_icmp_gt C (tgt := 30) dX3_spans_23 (by decide) (fun hc => ?_) (fun hc => ?_)
        · replace h := la_t hc h
          refine la_iconst C (v := 0) dX3_spans_30 (by decide) ?_
          exact la_iret C rfl (la_rR (P := (fun r' μ' => r' = r0 ∧ μ' = μ)) h hret) dX3_spans_31
        · replace h := la_f hc h
          refine la_iconst C (v := 1) dX3_spans_26 (by decide) ?_
          refine la_goto C (tgt := 31) dX3_spans_27 (by decide) ?_
          exact la_iret C rfl (la_rR (P := (fun r' μ' => r' = r0 ∧ μ' = μ)) h hret) dX3_spans_31

def fX4_isFull  (μ : la_Mem) : Option Int32 :=
  if (μ 18 2) < 40 then (some 0) else (some 1)
set_option maxRecDepth 10000 in
theorem mX4_isFull {z : LCz} {l : Launch}  (μ : la_Mem) (r0 : Int32)  (h : fX4_isFull  μ = some r0) : la_M (LC z) l yX4_isFull cX4_isFull 1 (some .boolean) rmX4_isFull [.ref (z.2.1 18)] μ (fun r' μ' => r' = r0 ∧ μ' = μ) := by
  refine la_of (own := RX4) (lv := [(0, .ref (z.2.1 18))]) (by decide) rfl (Nat.le_of_ble_eq_true rfl) rfl (fun Φ C => ?_)
  unfold fX4_isFull at h
  have hret : r0 = r0 ∧ μ = μ := ⟨rfl, rfl⟩
  refine la_aload_n C dX4_isFull_0 0 rfl ?_
  refine GLCRX4_20 C dX4_isFull_1 ?_
  refine la_bipush C (v := 40) dX4_isFull_4 (by decide) ?_
  refine la_icmp_lt C (tgt := 13) dX4_isFull_6 (by decide) (fun hc => ?_) (fun hc => ?_)
  · replace h := la_t hc h
    refine la_iconst C (v := 0) dX4_isFull_13 (by decide) ?_
    exact la_iret C rfl (la_rR (P := (fun r' μ' => r' = r0 ∧ μ' = μ)) h hret) dX4_isFull_14
  · replace h := la_f hc h
    refine la_iconst C (v := 1) dX4_isFull_9 (by decide) ?_
    refine la_goto C (tgt := 14) dX4_isFull_10 (by decide) ?_
    exact la_iret C rfl (la_rR (P := (fun r' μ' => r' = r0 ∧ μ' = μ)) h hret) dX4_isFull_14

def fX4_begin  (μ : la_Mem) : Option la_Mem :=
  (fX4_isFull  μ).bind (fun r1 => if r1 = 0 then (la_st (la_ms μ 18 2 ((μ 18 2) + 1)) (fun μ14 => some μ14)) else (some μ))
set_option maxRecDepth 10000 in
theorem mX4_begin {z : LCz} {l : Launch}  (μ : la_Mem) (μ0 : la_Mem)  (h : fX4_begin  μ = some μ0) : la_M (LC z) l yX4_begin cX4_begin 1 none rmX4_begin [.ref (z.2.1 18)] μ (fun _ μ' => μ' = μ0) := by
  refine la_of (own := RX4) (lv := [(0, .ref (z.2.1 18))]) (by decide) rfl (Nat.le_of_ble_eq_true rfl) rfl (fun Φ C => ?_)
  unfold fX4_begin at h
  have hret : μ0 = μ0 := rfl
  refine la_aload_n C dX4_begin_0 0 rfl ?_
  obtain ⟨r1, hr1, h⟩ := la_bd h
  refine KLCRX4_24 C [] [] (mX4_isFull  μ r1 hr1) ⟨by decide, by decide⟩ rfl rfl (Nat.le_of_ble_eq_true rfl) dX4_begin_1 ?_
  refine la_if_ne C (tgt := 17) dX4_begin_4 (by decide) (fun hc => ?_) (fun hc => ?_)
  · replace h := la_f hc h
    exact la_vret C (la_rV (P := (fun _ μ' => μ' = μ0)) h hret) dX4_begin_17
  · replace h := la_t hc h
    refine la_aload_n C dX4_begin_7 0 rfl ?_
    refine la_dup C dX4_begin_8 rfl ?_
    refine GLCRX4_20 C dX4_begin_9 ?_
    refine la_iconst C (v := 1) dX4_begin_12 (by decide) ?_
    refine la_iadd C dX4_begin_13 ?_
    obtain ⟨μ14, eμ14, h⟩ := la_so h
    refine SLCRX4_20 C eμ14 dX4_begin_14 ?_
    exact la_vret C (la_rV (P := (fun _ μ' => μ' = μ0)) h hret) dX4_begin_17

def fX4_append (x1 : Int32) (μ : la_Mem) : Option la_Mem :=
  la_st (((μ 18 2) - 1)) (fun v6 => if v6 < 0 then (some μ) else (la_if (la_ix v6 40) (if 24 ≤ (μ 20 (Int32.toNatClampNeg v6)) then (some μ) else (la_if (la_ix v6 40) (la_if (la_ix v6 40) (la_if (la_ix (μ 20 (Int32.toNatClampNeg v6)) 24) (la_st (la_ms μ (48 + (Int32.toNatClampNeg v6)) (Int32.toNatClampNeg (μ 20 (Int32.toNatClampNeg v6))) (vp_nar .byte (Int8.toInt32 (Int32.toInt8 x1)))) (fun μ36 => la_if (la_ix v6 40) (la_if (la_ix v6 40) (la_st (la_ms μ36 20 (Int32.toNatClampNeg v6) ((μ36 20 (Int32.toNatClampNeg v6)) + 1)) (fun μ46 => some μ46)))))))))))
set_option maxRecDepth 10000 in
theorem mX4_append {z : LCz} {l : Launch} (x1 : Int32) (μ : la_Mem) (μ0 : la_Mem)  (h : fX4_append x1 μ = some μ0) : la_M (LC z) l yX4_append cX4_append 3 none rmX4_append [.ref (z.2.1 18), .int x1] μ (fun _ μ' => μ' = μ0) := by
  refine la_of (own := RX4) (lv := [(0, .ref (z.2.1 18)), (1, .int x1)]) (by decide) rfl (Nat.le_of_ble_eq_true rfl) rfl (fun Φ C => ?_)
  unfold fX4_append at h
  have hret : μ0 = μ0 := rfl
  refine la_aload_n C dX4_append_0 0 rfl ?_
  refine GLCRX4_20 C dX4_append_1 ?_
  refine la_iconst C (v := 1) dX4_append_4 (by decide) ?_
  refine la_isub C dX4_append_5 ?_
  obtain ⟨v6, ev6, h⟩ := la_so h
  refine la_nm C ev6 ?_
  refine la_istore_n C dX4_append_6 (by decide) rfl ?_
  refine la_iload_n C dX4_append_7 0 rfl ?_
  refine la_if_lt C (tgt := 47) dX4_append_8 (by decide) (fun hc => ?_) (fun hc => ?_)
  · replace h := la_t hc h
    exact la_vret C (la_rV (P := (fun _ μ' => μ' = μ0)) h hret) dX4_append_47
  · replace h := la_f hc h
    refine la_aload_n C dX4_append_11 1 rfl ?_
    refine GLCRX4_16 C dX4_append_12 ?_
    refine la_iload_n C dX4_append_15 0 rfl ?_
    obtain ⟨hi16, h⟩ := la_go h
    refine ALC20 C _ rfl hi16 dX4_append_16 ?_
    refine la_bipush C (v := 24) dX4_append_17 (by decide) ?_
    refine la_icmp_ge C (tgt := 47) dX4_append_19 (by decide) (fun hc => ?_) (fun hc => ?_)
    · replace h := la_t hc h
      exact la_vret C (la_rV (P := (fun _ μ' => μ' = μ0)) h hret) dX4_append_47
    · replace h := la_f hc h
      refine la_aload_n C dX4_append_22 1 rfl ?_
      refine GLCRX4_11 C dX4_append_23 ?_
      refine la_iload_n C dX4_append_26 0 rfl ?_
      obtain ⟨hi27, h⟩ := la_go h
      refine RLC19 C hi27 dX4_append_27 ?_
      refine la_aload_n C dX4_append_28 1 rfl ?_
      refine GLCRX4_16 C dX4_append_29 ?_
      refine la_iload_n C dX4_append_32 0 rfl ?_
      obtain ⟨hi33, h⟩ := la_go h
      refine ALC20 C _ rfl hi33 dX4_append_33 ?_
      refine la_iload_n C dX4_append_34 2 rfl ?_
      refine la_i2b C dX4_append_35 ?_
      obtain ⟨hi36, h⟩ := la_go h
      obtain ⟨μ36, eμ36, h⟩ := la_so h
      refine BLCd48 C (la_ix_lt hi27) _ rfl hi36 eμ36 dX4_append_36 ?_
      refine la_aload_n C dX4_append_37 1 rfl ?_
      refine GLCRX4_16 C dX4_append_38 ?_
      refine la_iload_n C dX4_append_41 0 rfl ?_
      refine la_dup2 C dX4_append_42 rfl rfl ?_
      obtain ⟨hi43, h⟩ := la_go h
      refine ALC20 C _ rfl hi43 dX4_append_43 ?_
      refine la_iconst C (v := 1) dX4_append_44 (by decide) ?_
      refine la_iadd C dX4_append_45 ?_
      obtain ⟨hi46, h⟩ := la_go h
      obtain ⟨μ46, eμ46, h⟩ := la_so h
      refine BLC20 C _ rfl hi46 eμ46 dX4_append_46 ?_
      exact la_vret C (la_rV (P := (fun _ μ' => μ' = μ0)) h hret) dX4_append_47

def fX5_knows (x1 : Int32) (μ : la_Mem) : Option Int32 :=
  if x1 < 0 then (some 0) else (if (μ 4 5) ≤ x1 then (some 0) else (some 1))
set_option maxRecDepth 10000 in
theorem mX5_knows {z : LCz} {l : Launch} (x1 : Int32) (μ : la_Mem) (r0 : Int32)  (h : fX5_knows x1 μ = some r0) : la_M (LC z) l yX5_knows cX5_knows 2 (some .boolean) rmX5_knows [.ref (z.2.1 4), .int x1] μ (fun r' μ' => r' = r0 ∧ μ' = μ) := by
  refine la_of (own := RX5) (lv := [(0, .ref (z.2.1 4)), (1, .int x1)]) (by decide) rfl (Nat.le_of_ble_eq_true rfl) rfl (fun Φ C => ?_)
  unfold fX5_knows at h
  have hret : r0 = r0 ∧ μ = μ := ⟨rfl, rfl⟩
  refine la_iload_n C dX5_knows_0 1 rfl ?_
  refine la_if_lt C (tgt := 16) dX5_knows_1 (by decide) (fun hc => ?_) (fun hc => ?_)
  · replace h := la_t hc h
    refine la_iconst C (v := 0) dX5_knows_16 (by decide) ?_
    exact la_iret C rfl (la_rR (P := (fun r' μ' => r' = r0 ∧ μ' = μ)) h hret) dX5_knows_17
  · replace h := la_f hc h
    refine la_iload_n C dX5_knows_4 1 rfl ?_
    refine la_aload_n C dX5_knows_5 0 rfl ?_
    refine GLCRX5_29 C dX5_knows_6 ?_
    refine la_icmp_ge C (tgt := 16) dX5_knows_9 (by decide) (fun hc => ?_) (fun hc => ?_)
    · replace h := la_t hc h
      refine la_iconst C (v := 0) dX5_knows_16 (by decide) ?_
      exact la_iret C rfl (la_rR (P := (fun r' μ' => r' = r0 ∧ μ' = μ)) h hret) dX5_knows_17
    · replace h := la_f hc h
      refine la_iconst C (v := 1) dX5_knows_12 (by decide) ?_
      refine la_goto C (tgt := 17) dX5_knows_13 (by decide) ?_
      exact la_iret C rfl (la_rR (P := (fun r' μ' => r' = r0 ∧ μ' = μ)) h hret) dX5_knows_17

def fX5_newMould (x1 : Int32) (x2 : Int32) (μ : la_Mem) : Option (Int32 × la_Mem) :=
  if (μ 4 5) < 60 then (la_st ((μ 4 5)) (fun v16 => la_st (la_ms μ 4 5 ((μ 4 5) + 1)) (fun μ24 => la_if (la_ix v16 60) (la_st (la_ms μ24 5 (Int32.toNatClampNeg v16) x1) (fun μ33 => la_if (la_ix v16 60) (la_st (la_ms μ33 6 (Int32.toNatClampNeg v16) x2) (fun μ40 => la_if (la_ix v16 60) (la_st (la_ms μ40 7 (Int32.toNatClampNeg v16) 12) (fun μ48 => la_b2 (fX5_lay v16 x1 μ48) (fun r52 μ52 => some (v16, μ52))))))))))) else (some ((-3), μ))
set_option maxRecDepth 10000 in
theorem mX5_newMould {z : LCz} {l : Launch} (x1 : Int32) (x2 : Int32) (μ : la_Mem) (r0 : Int32) (μ0 : la_Mem)  (h : fX5_newMould x1 x2 μ = some (r0, μ0)) : la_M (LC z) l yX5_newMould cX5_newMould 4 (some .int) rmX5_newMould [.ref (z.2.1 4), .int x1, .int x2] μ (fun r' μ' => r' = r0 ∧ μ' = μ0) := by
  refine la_of (own := RX5) (lv := [(0, .ref (z.2.1 4)), (1, .int x1), (2, .int x2)]) (by decide) rfl (Nat.le_of_ble_eq_true rfl) rfl (fun Φ C => ?_)
  unfold fX5_newMould at h
  have hret : r0 = r0 ∧ μ0 = μ0 := ⟨rfl, rfl⟩
  refine la_aload_n C dX5_newMould_0 0 rfl ?_
  refine GLCRX5_29 C dX5_newMould_1 ?_
  refine la_bipush C (v := 60) dX5_newMould_4 (by decide) ?_
  refine la_icmp_lt C (tgt := 12) dX5_newMould_6 (by decide) (fun hc => ?_) (fun hc => ?_)
  · replace h := la_t hc h
    refine la_aload_n C dX5_newMould_12 0 rfl ?_
    refine GLCRX5_29 C dX5_newMould_13 ?_
    obtain ⟨v16, ev16, h⟩ := la_so h
    refine la_nm C ev16 ?_
    refine la_istore_n C dX5_newMould_16 (by decide) rfl ?_
    refine la_aload_n C dX5_newMould_17 1 rfl ?_
    refine la_dup C dX5_newMould_18 rfl ?_
    refine GLCRX5_29 C dX5_newMould_19 ?_
    refine la_iconst C (v := 1) dX5_newMould_22 (by decide) ?_
    refine la_iadd C dX5_newMould_23 ?_
    obtain ⟨μ24, eμ24, h⟩ := la_so h
    refine SLCRX5_29 C eμ24 dX5_newMould_24 ?_
    refine la_aload_n C dX5_newMould_27 1 rfl ?_
    refine GLCRX5_9 C dX5_newMould_28 ?_
    refine la_iload_n C dX5_newMould_31 0 rfl ?_
    refine la_iload_n C dX5_newMould_32 2 rfl ?_
    obtain ⟨hi33, h⟩ := la_go h
    obtain ⟨μ33, eμ33, h⟩ := la_so h
    refine BLC5 C _ rfl hi33 eμ33 dX5_newMould_33 ?_
    refine la_aload_n C dX5_newMould_34 1 rfl ?_
    refine GLCRX5_15 C dX5_newMould_35 ?_
    refine la_iload_n C dX5_newMould_38 0 rfl ?_
    refine la_iload_n C dX5_newMould_39 3 rfl ?_
    obtain ⟨hi40, h⟩ := la_go h
    obtain ⟨μ40, eμ40, h⟩ := la_so h
    refine BLC6 C _ rfl hi40 eμ40 dX5_newMould_40 ?_
    refine la_aload_n C dX5_newMould_41 1 rfl ?_
    refine GLCRX5_18 C dX5_newMould_42 ?_
    refine la_iload_n C dX5_newMould_45 0 rfl ?_
    refine la_bipush C (v := 12) dX5_newMould_46 (by decide) ?_
    obtain ⟨hi48, h⟩ := la_go h
    obtain ⟨μ48, eμ48, h⟩ := la_so h
    refine BLC7 C _ rfl hi48 eμ48 dX5_newMould_48 ?_
    refine la_aload_n C dX5_newMould_49 1 rfl ?_
    refine la_iload_n C dX5_newMould_50 0 rfl ?_
    refine la_iload_n C dX5_newMould_51 2 rfl ?_
    obtain ⟨r52, μ52, hr52, h⟩ := la_b2o h
    refine KLCRX5_33 C [.int v16, .int x1] [] (mX5_lay v16 x1 μ48 r52 μ52 hr52) ⟨by decide, by decide⟩ rfl rfl (Nat.le_of_ble_eq_true rfl) dX5_newMould_52 ?_
    refine la_pop C dX5_newMould_55 rfl ?_
    refine la_iload_n C dX5_newMould_56 0 rfl ?_
    exact la_iret C rfl (la_rW (P := (fun r' μ' => r' = r0 ∧ μ' = μ0)) h hret) dX5_newMould_57
  · replace h := la_f hc h
    refine la_bipush C (v := (-3)) dX5_newMould_9 (by decide) ?_
    exact la_iret C rfl (la_rW (P := (fun r' μ' => r' = r0 ∧ μ' = μ0)) h hret) dX5_newMould_11

def fX5_takeFirst (x1 : Int32) (μ : la_Mem) : Option (Int32 × la_Mem) :=
  la_if (la_ix x1 12) (if (μ 9 (Int32.toNatClampNeg x1)) = 0 then (some ((-4), μ)) else (la_if (la_ix x1 12) (la_st ((μ (36 + (Int32.toNatClampNeg x1)) 0)) (fun v22 => la_if (la_ix x1 12) (la_if (la_ix x1 12) (la_st (la_ms μ 9 (Int32.toNatClampNeg x1) ((μ 9 (Int32.toNatClampNeg x1)) - 1)) (fun μ32 => la_if (la_ix x1 12) (la_if (la_in3 1 0 (μ32 9 (Int32.toNatClampNeg x1)) 8 8) (la_st (la_cp μ32 (36 + (Int32.toNatClampNeg x1)) (36 + (Int32.toNatClampNeg x1)) (Int32.toNatClampNeg 1) (Int32.toNatClampNeg 0) (Int32.toNatClampNeg (μ32 9 (Int32.toNatClampNeg x1)))) (fun μ43 => la_if (la_ix v22 60) (la_st (la_ms μ43 7 (Int32.toNatClampNeg v22) 13) (fun μ53 => some (v22, μ53)))))))))))))
set_option maxRecDepth 10000 in
theorem mX5_takeFirst {z : LCz} {l : Launch} (x1 : Int32) (μ : la_Mem) (r0 : Int32) (μ0 : la_Mem)  (h : fX5_takeFirst x1 μ = some (r0, μ0)) : la_M (LC z) l yX5_takeFirst cX5_takeFirst 4 (some .int) rmX5_takeFirst [.ref (z.2.1 4), .int x1] μ (fun r' μ' => r' = r0 ∧ μ' = μ0) := by
  refine la_of (own := RX5) (lv := [(0, .ref (z.2.1 4)), (1, .int x1)]) (by decide) rfl (Nat.le_of_ble_eq_true rfl) rfl (fun Φ C => ?_)
  unfold fX5_takeFirst at h
  have hret : r0 = r0 ∧ μ0 = μ0 := ⟨rfl, rfl⟩
  refine la_aload_n C dX5_takeFirst_0 0 rfl ?_
  refine GLCRX5_26 C dX5_takeFirst_1 ?_
  refine la_iload_n C dX5_takeFirst_4 1 rfl ?_
  obtain ⟨hi5, h⟩ := la_go h
  refine ALC9 C _ rfl hi5 dX5_takeFirst_5 ?_
  refine la_if_ne C (tgt := 12) dX5_takeFirst_6 (by decide) (fun hc => ?_) (fun hc => ?_)
  · replace h := la_f hc h
    refine la_aload_n C dX5_takeFirst_12 0 rfl ?_
    refine GLCRX5_23 C dX5_takeFirst_13 ?_
    refine la_iload_n C dX5_takeFirst_16 1 rfl ?_
    obtain ⟨hi17, h⟩ := la_go h
    refine RLC8 C hi17 dX5_takeFirst_17 ?_
    refine la_astore_n C dX5_takeFirst_18 (by decide) rfl ?_
    refine la_aload_n C dX5_takeFirst_19 0 rfl ?_
    refine la_iconst C (v := 0) dX5_takeFirst_20 (by decide) ?_
    refine ALCd36 C (la_ix_lt hi17) 0 (by decide) (by decide) dX5_takeFirst_21 ?_
    obtain ⟨v22, ev22, h⟩ := la_so h
    refine la_nm C ev22 ?_
    refine la_istore_n C dX5_takeFirst_22 (by decide) rfl ?_
    refine la_aload_n C dX5_takeFirst_23 2 rfl ?_
    refine GLCRX5_26 C dX5_takeFirst_24 ?_
    refine la_iload_n C dX5_takeFirst_27 3 rfl ?_
    refine la_dup2 C dX5_takeFirst_28 rfl rfl ?_
    obtain ⟨hi29, h⟩ := la_go h
    refine ALC9 C _ rfl hi29 dX5_takeFirst_29 ?_
    refine la_iconst C (v := 1) dX5_takeFirst_30 (by decide) ?_
    refine la_isub C dX5_takeFirst_31 ?_
    obtain ⟨hi32, h⟩ := la_go h
    obtain ⟨μ32, eμ32, h⟩ := la_so h
    refine BLC9 C _ rfl hi32 eμ32 dX5_takeFirst_32 ?_
    refine la_aload_n C dX5_takeFirst_33 1 rfl ?_
    refine la_iconst C (v := 1) dX5_takeFirst_34 (by decide) ?_
    refine la_aload_n C dX5_takeFirst_35 1 rfl ?_
    refine la_iconst C (v := 0) dX5_takeFirst_36 (by decide) ?_
    refine la_aload_n C dX5_takeFirst_37 2 rfl ?_
    refine GLCRX5_26 C dX5_takeFirst_38 ?_
    refine la_iload_n C dX5_takeFirst_41 3 rfl ?_
    obtain ⟨hi42, h⟩ := la_go h
    refine ALC9 C _ rfl hi42 dX5_takeFirst_42 ?_
    obtain ⟨hi43, h⟩ := la_go h
    obtain ⟨μ43, eμ43, h⟩ := la_so h
    refine la_copy C μ43 (36 + (Int32.toNatClampNeg x1)) (36 + (Int32.toNatClampNeg x1)) 0 rfl rfl (ltLC_36 (la_ix_lt hi17)) (ltLC_36 (la_ix_lt hi17)) (enLC_36 z (la_ix_lt hi17) _) (enLC_36 z (la_ix_lt hi17) _) rfl hi43 wd_373 wd_374 wd_375 wd_376 (by decide) (Nat.le_of_ble_eq_true rfl) (by rw [enLC_36 z (la_ix_lt hi17), eμ43, la_cp_self]) (fun b hb => by rw [eμ43, la_cp_ne hb]) dX5_takeFirst_43 ?_
    refine la_aload_n C dX5_takeFirst_46 2 rfl ?_
    refine GLCRX5_18 C dX5_takeFirst_47 ?_
    refine la_iload_n C dX5_takeFirst_50 0 rfl ?_
    refine la_bipush C (v := 13) dX5_takeFirst_51 (by decide) ?_
    obtain ⟨hi53, h⟩ := la_go h
    obtain ⟨μ53, eμ53, h⟩ := la_so h
    refine BLC7 C _ rfl hi53 eμ53 dX5_takeFirst_53 ?_
    refine la_iload_n C dX5_takeFirst_54 0 rfl ?_
    exact la_iret C rfl (la_rW (P := (fun r' μ' => r' = r0 ∧ μ' = μ0)) h hret) dX5_takeFirst_55
  · replace h := la_t hc h
    refine la_bipush C (v := (-4)) dX5_takeFirst_9 (by decide) ?_
    exact la_iret C rfl (la_rW (P := (fun r' μ' => r' = r0 ∧ μ' = μ0)) h hret) dX5_takeFirst_11

def fX5_countBetween_J39 (rec : Int32 → Int32 → Option (Int32)) (x1 : Int32) (x2 : Int32) (x3 : Int32) (x4 : Int32) (μ : la_Mem) : Option (Int32) :=
  rec x3 (x4 + 1)
set_option maxRecDepth 10000 in
theorem wX5_countBetween_J39 {z : LCz} {l : Launch} {Post : Int32 → la_Mem → Prop} {Φ : Nat → List (Nat × Value) → List Value → la_Mem → Prop} (C : la_C (LC z) l rmX5_countBetween RX5 cX5_countBetween 5 (some .int) Post Φ) (rec : Int32 → Int32 → Option (Int32)) (x1 : Int32) (x2 : Int32) (x3 : Int32) (x4 : Int32) (μ : la_Mem)  (ex : (Int32)) (hrec : ∀ (y3 : Int32) (y4 : Int32), rec y3 y4 = some ex → Φ 5 [(0, .ref (z.2.1 4)), (1, .int x1), (2, .int x2), (3, .int y3), (4, .int y4)] [] μ) (kx : ∀ (y3 : Int32), ex = y3 → Φ 45 [(3, .int y3)] [] μ) (h : fX5_countBetween_J39 rec x1 x2 x3 x4 μ = some ex) : Φ 39 [(0, .ref (z.2.1 4)), (1, .int x1), (2, .int x2), (3, .int x3), (4, .int x4)] [] μ := by
  unfold fX5_countBetween_J39 at h
  refine la_iinc C (v := (x4 + 1)) dX5_countBetween_39 4 rfl rfl (by decide) rfl ?_
  refine la_goto C (tgt := 5) dX5_countBetween_42 (by decide) ?_
  refine la_sub C [1, 2, 3, 4, 0] rfl ?_
  exact hrec _ _ h
def fX5_countBetween_L5 (x1 : Int32) (x2 : Int32) (μ : la_Mem) : Nat → Int32 → Int32 → Option (Int32)
  | 0, _, _ => none
  | n + 1, x3, x4 => if (μ 4 5) ≤ x4 then (some x3) else (la_if (la_ix x4 60) (if (μ 7 (Int32.toNatClampNeg x4)) < x1 then (fX5_countBetween_J39 (fX5_countBetween_L5 x1 x2 μ n) x1 x2 x3 x4 μ) else (la_if (la_ix x4 60) (if x2 < (μ 7 (Int32.toNatClampNeg x4)) then (fX5_countBetween_J39 (fX5_countBetween_L5 x1 x2 μ n) x1 x2 x3 x4 μ) else (fX5_countBetween_J39 (fX5_countBetween_L5 x1 x2 μ n) x1 x2 (x3 + 1) x4 μ)))))
set_option maxRecDepth 10000 in
theorem wX5_countBetween_L5 {z : LCz} {l : Launch} {Post : Int32 → la_Mem → Prop} {Φ : Nat → List (Nat × Value) → List Value → la_Mem → Prop} (C : la_C (LC z) l rmX5_countBetween RX5 cX5_countBetween 5 (some .int) Post Φ) (x1 : Int32) (x2 : Int32) (μ : la_Mem)  (ex : (Int32)) (kx : ∀ (y3 : Int32), ex = y3 → Φ 45 [(3, .int y3)] [] μ) : ∀ (n : Nat) (x3 : Int32) (x4 : Int32), fX5_countBetween_L5 x1 x2 μ n x3 x4 = some ex → Φ 5 [(0, .ref (z.2.1 4)), (1, .int x1), (2, .int x2), (3, .int x3), (4, .int x4)] [] μ := by
  intro n
  induction n with
  | zero =>
    intro _ _ h
    cases h
  | succ n hrec =>
    intro x3 x4 h
    rw [fX5_countBetween_L5] at h
    refine la_iload C dX5_countBetween_5 4 rfl ?_
    refine la_aload_n C dX5_countBetween_7 0 rfl ?_
    refine GLCRX5_29 C dX5_countBetween_8 ?_
    refine la_icmp_ge C (tgt := 45) dX5_countBetween_11 (by decide) (fun hc => ?_) (fun hc => ?_)
    · replace h := la_t hc h
      refine la_sub C [3] rfl ?_
      exact kx _ (Option.some.inj h).symm
    · replace h := la_f hc h
      refine la_aload_n C dX5_countBetween_14 0 rfl ?_
      refine GLCRX5_18 C dX5_countBetween_15 ?_
      refine la_iload C dX5_countBetween_18 4 rfl ?_
      obtain ⟨hi20, h⟩ := la_go h
      refine ALC7 C _ rfl hi20 dX5_countBetween_20 ?_
      refine la_iload_n C dX5_countBetween_21 1 rfl ?_
      refine la_icmp_lt C (tgt := 39) dX5_countBetween_22 (by decide) (fun hc => ?_) (fun hc => ?_)
      · replace h := la_t hc h
        refine la_sub C [0, 1, 2, 3, 4] rfl ?_
        exact wX5_countBetween_J39 C (fX5_countBetween_L5 x1 x2 μ n) _ _ _ _ _  _ hrec kx h
      · replace h := la_f hc h
        refine la_aload_n C dX5_countBetween_25 0 rfl ?_
        refine GLCRX5_18 C dX5_countBetween_26 ?_
        refine la_iload C dX5_countBetween_29 4 rfl ?_
        obtain ⟨hi31, h⟩ := la_go h
        refine ALC7 C _ rfl hi31 dX5_countBetween_31 ?_
        refine la_iload_n C dX5_countBetween_32 2 rfl ?_
        refine la_icmp_gt C (tgt := 39) dX5_countBetween_33 (by decide) (fun hc => ?_) (fun hc => ?_)
        · replace h := la_t hc h
          refine la_sub C [0, 1, 2, 3, 4] rfl ?_
          exact wX5_countBetween_J39 C (fX5_countBetween_L5 x1 x2 μ n) _ _ _ _ _  _ hrec kx h
        · replace h := la_f hc h
          refine la_iinc C (v := (x3 + 1)) dX5_countBetween_36 3 rfl rfl (by decide) rfl ?_
          refine la_sub C [1, 2, 3, 0, 4] rfl ?_
          exact wX5_countBetween_J39 C (fX5_countBetween_L5 x1 x2 μ n) _ _ _ _ _  _ hrec kx h
def fX5_countBetween (x1 : Int32) (x2 : Int32) (μ : la_Mem) : Option Int32 :=
  Option.bind (fX5_countBetween_L5 x1 x2 μ 400 0 0) (fun q5_3 => some q5_3)
set_option maxRecDepth 10000 in
theorem mX5_countBetween {z : LCz} {l : Launch} (x1 : Int32) (x2 : Int32) (μ : la_Mem) (r0 : Int32)  (h : fX5_countBetween x1 x2 μ = some r0) : la_M (LC z) l yX5_countBetween cX5_countBetween 5 (some .int) rmX5_countBetween [.ref (z.2.1 4), .int x1, .int x2] μ (fun r' μ' => r' = r0 ∧ μ' = μ) := by
  refine la_of (own := RX5) (lv := [(0, .ref (z.2.1 4)), (1, .int x1), (2, .int x2)]) (by decide) rfl (Nat.le_of_ble_eq_true rfl) rfl (fun Φ C => ?_)
  unfold fX5_countBetween at h
  have hret : r0 = r0 ∧ μ = μ := ⟨rfl, rfl⟩
  refine la_iconst C (v := 0) dX5_countBetween_0 (by decide) ?_
  refine la_istore_n C dX5_countBetween_1 (by decide) rfl ?_
  refine la_iconst C (v := 0) dX5_countBetween_2 (by decide) ?_
  refine la_istore C dX5_countBetween_3 (by decide) rfl ?_
  obtain ⟨q5_3, hL5, h⟩ := la_bd h
  refine la_sub C [2, 3, 4, 1, 0] rfl ?_
  refine wX5_countBetween_L5 C _ _ _  _ (fun _ e => ?_) _ _ _ hL5
  cases e
  refine la_iload_n C dX5_countBetween_45 0 rfl ?_
  exact la_iret C rfl (la_rR (P := (fun r' μ' => r' = r0 ∧ μ' = μ)) h hret) dX5_countBetween_46

def fX6_append (x1 : Int32) (μ : la_Mem) : Option la_Mem :=
  if 60 ≤ (μ 21 1) then (some μ) else (la_if (la_ix (μ 21 1) 60) (la_st (la_ms μ 22 (Int32.toNatClampNeg (μ 21 1)) x1) (fun μ18 => la_st (la_ms μ18 21 1 ((μ18 21 1) + 1)) (fun μ26 => some μ26))))
set_option maxRecDepth 10000 in
theorem mX6_append {z : LCz} {l : Launch} (x1 : Int32) (μ : la_Mem) (μ0 : la_Mem)  (h : fX6_append x1 μ = some μ0) : la_M (LC z) l yX6_append cX6_append 2 none rmX6_append [.ref (z.2.1 21), .int x1] μ (fun _ μ' => μ' = μ0) := by
  refine la_of (own := RX6) (lv := [(0, .ref (z.2.1 21)), (1, .int x1)]) (by decide) rfl (Nat.le_of_ble_eq_true rfl) rfl (fun Φ C => ?_)
  unfold fX6_append at h
  have hret : μ0 = μ0 := rfl
  refine la_aload_n C dX6_append_0 0 rfl ?_
  refine GLCRX6_15 C dX6_append_1 ?_
  refine la_bipush C (v := 60) dX6_append_4 (by decide) ?_
  refine la_icmp_ge C (tgt := 29) dX6_append_6 (by decide) (fun hc => ?_) (fun hc => ?_)
  · replace h := la_t hc h
    exact la_vret C (la_rV (P := (fun _ μ' => μ' = μ0)) h hret) dX6_append_29
  · replace h := la_f hc h
    refine la_aload_n C dX6_append_9 0 rfl ?_
    refine GLCRX6_9 C dX6_append_10 ?_
    refine la_aload_n C dX6_append_13 0 rfl ?_
    refine GLCRX6_15 C dX6_append_14 ?_
    refine la_iload_n C dX6_append_17 1 rfl ?_
    obtain ⟨hi18, h⟩ := la_go h
    obtain ⟨μ18, eμ18, h⟩ := la_so h
    refine BLC22 C _ rfl hi18 eμ18 dX6_append_18 ?_
    refine la_aload_n C dX6_append_19 0 rfl ?_
    refine la_dup C dX6_append_20 rfl ?_
    refine GLCRX6_15 C dX6_append_21 ?_
    refine la_iconst C (v := 1) dX6_append_24 (by decide) ?_
    refine la_iadd C dX6_append_25 ?_
    obtain ⟨μ26, eμ26, h⟩ := la_so h
    refine SLCRX6_15 C eμ26 dX6_append_26 ?_
    exact la_vret C (la_rV (P := (fun _ μ' => μ' = μ0)) h hret) dX6_append_29

def fX6_firstUnplayable_J55 (rec : Int32 → Option (Int32 ⊕ (Unit))) (x1 : Int32) (μ : la_Mem) : Option (Int32 ⊕ (Unit)) :=
  rec (x1 + 1)
set_option maxRecDepth 10000 in
theorem wX6_firstUnplayable_J55 {z : LCz} {l : Launch} {Post : Int32 → la_Mem → Prop} {Φ : Nat → List (Nat × Value) → List Value → la_Mem → Prop} (C : la_C (LC z) l rmX6_firstUnplayable RX6 cX6_firstUnplayable 3 (some .int) Post Φ) (rec : Int32 → Option (Int32 ⊕ (Unit))) (x1 : Int32) (μ : la_Mem)  (ex : (Int32 ⊕ (Unit))) (hrec : ∀ (y1 : Int32), rec y1 = some ex → Φ 2 [(0, .ref (z.2.1 21)), (1, .int y1)] [] μ) (hret : ∀ q, ex = .inl q → Post q μ) (kx : ex = .inr () → Φ 61 [(0, .ref (z.2.1 21))] [] μ) (h : fX6_firstUnplayable_J55 rec x1 μ = some ex) : Φ 55 [(0, .ref (z.2.1 21)), (1, .int x1)] [] μ := by
  unfold fX6_firstUnplayable_J55 at h
  refine la_iinc C (v := (x1 + 1)) dX6_firstUnplayable_55 1 rfl rfl (by decide) rfl ?_
  refine la_goto C (tgt := 2) dX6_firstUnplayable_58 (by decide) ?_
  refine la_sub C [1, 0] rfl ?_
  exact hrec _ h
def fX6_firstUnplayable_J37 (rec : Int32 → Option (Int32 ⊕ (Unit))) (x1 : Int32) (s0 : Int32) (μ : la_Mem) : Option (Int32 ⊕ (Unit)) :=
  if s0 = 0 then (la_if (la_ix x1 60) (if (μ 22 (Int32.toNatClampNeg x1)) = 32 then (fX6_firstUnplayable_J55 rec x1 μ) else (some (.inl x1)))) else (fX6_firstUnplayable_J55 rec x1 μ)
set_option maxRecDepth 10000 in
theorem wX6_firstUnplayable_J37 {z : LCz} {l : Launch} {Post : Int32 → la_Mem → Prop} {Φ : Nat → List (Nat × Value) → List Value → la_Mem → Prop} (C : la_C (LC z) l rmX6_firstUnplayable RX6 cX6_firstUnplayable 3 (some .int) Post Φ) (rec : Int32 → Option (Int32 ⊕ (Unit))) (x1 : Int32) (s0 : Int32) (μ : la_Mem)  (ex : (Int32 ⊕ (Unit))) (hrec : ∀ (y1 : Int32), rec y1 = some ex → Φ 2 [(0, .ref (z.2.1 21)), (1, .int y1)] [] μ) (hret : ∀ q, ex = .inl q → Post q μ) (kx : ex = .inr () → Φ 61 [(0, .ref (z.2.1 21))] [] μ) (h : fX6_firstUnplayable_J37 rec x1 s0 μ = some ex) : Φ 37 [(0, .ref (z.2.1 21)), (1, .int x1)] [.int s0] μ := by
  unfold fX6_firstUnplayable_J37 at h
  refine la_istore_n C dX6_firstUnplayable_37 (by decide) rfl ?_
  refine la_iload_n C dX6_firstUnplayable_38 0 rfl ?_
  refine la_if_ne C (tgt := 55) dX6_firstUnplayable_39 (by decide) (fun hc => ?_) (fun hc => ?_)
  · replace h := la_f hc h
    refine la_sub C [1, 2] rfl ?_
    exact wX6_firstUnplayable_J55 C rec _ _  _ hrec hret kx h
  · replace h := la_t hc h
    refine la_aload_n C dX6_firstUnplayable_42 1 rfl ?_
    refine GLCRX6_9 C dX6_firstUnplayable_43 ?_
    refine la_iload_n C dX6_firstUnplayable_46 2 rfl ?_
    obtain ⟨hi47, h⟩ := la_go h
    refine ALC22 C _ rfl hi47 dX6_firstUnplayable_47 ?_
    refine la_bipush C (v := 32) dX6_firstUnplayable_48 (by decide) ?_
    refine la_icmp_eq C (tgt := 55) dX6_firstUnplayable_50 (by decide) (fun hc => ?_) (fun hc => ?_)
    · replace h := la_t hc h
      refine la_sub C [1, 2] rfl ?_
      exact wX6_firstUnplayable_J55 C rec _ _  _ hrec hret kx h
    · replace h := la_f hc h
      refine la_iload_n C dX6_firstUnplayable_53 2 rfl ?_
      exact la_iret C rfl (hret x1 (Option.some.inj h).symm) dX6_firstUnplayable_54
def fX6_firstUnplayable_J36 (rec : Int32 → Option (Int32 ⊕ (Unit))) (x1 : Int32) (μ : la_Mem) : Option (Int32 ⊕ (Unit)) :=
  fX6_firstUnplayable_J37 rec x1 0 μ
set_option maxRecDepth 10000 in
theorem wX6_firstUnplayable_J36 {z : LCz} {l : Launch} {Post : Int32 → la_Mem → Prop} {Φ : Nat → List (Nat × Value) → List Value → la_Mem → Prop} (C : la_C (LC z) l rmX6_firstUnplayable RX6 cX6_firstUnplayable 3 (some .int) Post Φ) (rec : Int32 → Option (Int32 ⊕ (Unit))) (x1 : Int32) (μ : la_Mem)  (ex : (Int32 ⊕ (Unit))) (hrec : ∀ (y1 : Int32), rec y1 = some ex → Φ 2 [(0, .ref (z.2.1 21)), (1, .int y1)] [] μ) (hret : ∀ q, ex = .inl q → Post q μ) (kx : ex = .inr () → Φ 61 [(0, .ref (z.2.1 21))] [] μ) (h : fX6_firstUnplayable_J36 rec x1 μ = some ex) : Φ 36 [(0, .ref (z.2.1 21)), (1, .int x1)] [] μ := by
  unfold fX6_firstUnplayable_J36 at h
  refine la_iconst C (v := 0) dX6_firstUnplayable_36 (by decide) ?_
  refine la_sub C [0, 1] rfl ?_
  exact wX6_firstUnplayable_J37 C rec _ _ _  _ hrec hret kx h
def fX6_firstUnplayable_L2  (μ : la_Mem) : Nat → Int32 → Option (Int32 ⊕ (Unit))
  | 0, _ => none
  | n + 1, x1 => if (μ 21 1) ≤ x1 then (some (.inr ())) else (la_if (la_ix x1 60) (if (μ 22 (Int32.toNatClampNeg x1)) < 97 then (fX6_firstUnplayable_J36 (fX6_firstUnplayable_L2  μ n) x1 μ) else (la_if (la_ix x1 60) (if 109 ≤ (μ 22 (Int32.toNatClampNeg x1)) then (fX6_firstUnplayable_J36 (fX6_firstUnplayable_L2  μ n) x1 μ) else (fX6_firstUnplayable_J37 (fX6_firstUnplayable_L2  μ n) x1 1 μ)))))
set_option maxRecDepth 10000 in
theorem wX6_firstUnplayable_L2 {z : LCz} {l : Launch} {Post : Int32 → la_Mem → Prop} {Φ : Nat → List (Nat × Value) → List Value → la_Mem → Prop} (C : la_C (LC z) l rmX6_firstUnplayable RX6 cX6_firstUnplayable 3 (some .int) Post Φ)  (μ : la_Mem)  (ex : (Int32 ⊕ (Unit))) (hret : ∀ q, ex = .inl q → Post q μ) (kx : ex = .inr () → Φ 61 [(0, .ref (z.2.1 21))] [] μ) : ∀ (n : Nat) (x1 : Int32), fX6_firstUnplayable_L2  μ n x1 = some ex → Φ 2 [(0, .ref (z.2.1 21)), (1, .int x1)] [] μ := by
  intro n
  induction n with
  | zero =>
    intro _ h
    cases h
  | succ n hrec =>
    intro x1 h
    rw [fX6_firstUnplayable_L2] at h
    refine la_iload_n C dX6_firstUnplayable_2 1 rfl ?_
    refine la_aload_n C dX6_firstUnplayable_3 0 rfl ?_
    refine GLCRX6_15 C dX6_firstUnplayable_4 ?_
    refine la_icmp_ge C (tgt := 61) dX6_firstUnplayable_7 (by decide) (fun hc => ?_) (fun hc => ?_)
    · replace h := la_t hc h
      refine la_sub C [0] rfl ?_
      exact kx (Option.some.inj h).symm
    · replace h := la_f hc h
      refine la_aload_n C dX6_firstUnplayable_10 0 rfl ?_
      refine GLCRX6_9 C dX6_firstUnplayable_11 ?_
      refine la_iload_n C dX6_firstUnplayable_14 1 rfl ?_
      obtain ⟨hi15, h⟩ := la_go h
      refine ALC22 C _ rfl hi15 dX6_firstUnplayable_15 ?_
      refine la_bipush C (v := 97) dX6_firstUnplayable_16 (by decide) ?_
      refine la_icmp_lt C (tgt := 36) dX6_firstUnplayable_18 (by decide) (fun hc => ?_) (fun hc => ?_)
      · replace h := la_t hc h
        refine la_sub C [0, 1] rfl ?_
        exact wX6_firstUnplayable_J36 C (fX6_firstUnplayable_L2  μ n) _ _  _ hrec hret kx h
      · replace h := la_f hc h
        refine la_aload_n C dX6_firstUnplayable_21 0 rfl ?_
        refine GLCRX6_9 C dX6_firstUnplayable_22 ?_
        refine la_iload_n C dX6_firstUnplayable_25 1 rfl ?_
        obtain ⟨hi26, h⟩ := la_go h
        refine ALC22 C _ rfl hi26 dX6_firstUnplayable_26 ?_
        refine la_bipush C (v := 109) dX6_firstUnplayable_27 (by decide) ?_
        refine la_icmp_ge C (tgt := 36) dX6_firstUnplayable_29 (by decide) (fun hc => ?_) (fun hc => ?_)
        · replace h := la_t hc h
          refine la_sub C [0, 1] rfl ?_
          exact wX6_firstUnplayable_J36 C (fX6_firstUnplayable_L2  μ n) _ _  _ hrec hret kx h
        · replace h := la_f hc h
          refine la_iconst C (v := 1) dX6_firstUnplayable_32 (by decide) ?_
          refine la_goto C (tgt := 37) dX6_firstUnplayable_33 (by decide) ?_
          refine la_sub C [0, 1] rfl ?_
          exact wX6_firstUnplayable_J37 C (fX6_firstUnplayable_L2  μ n) _ _ _  _ hrec hret kx h
def fX6_firstUnplayable  (μ : la_Mem) : Option Int32 :=
  la_x0 (fX6_firstUnplayable_L2  μ 400 0) some (fun _ => some (μ 21 1))
set_option maxRecDepth 10000 in
theorem mX6_firstUnplayable {z : LCz} {l : Launch}  (μ : la_Mem) (r0 : Int32)  (h : fX6_firstUnplayable  μ = some r0) : la_M (LC z) l yX6_firstUnplayable cX6_firstUnplayable 3 (some .int) rmX6_firstUnplayable [.ref (z.2.1 21)] μ (fun r' μ' => r' = r0 ∧ μ' = μ) := by
  refine la_of (own := RX6) (lv := [(0, .ref (z.2.1 21))]) (by decide) rfl (Nat.le_of_ble_eq_true rfl) rfl (fun Φ C => ?_)
  unfold fX6_firstUnplayable at h
  have hret : r0 = r0 ∧ μ = μ := ⟨rfl, rfl⟩
  refine la_iconst C (v := 0) dX6_firstUnplayable_0 (by decide) ?_
  refine la_istore_n C dX6_firstUnplayable_1 (by decide) rfl ?_
  rcases la_x0o h with ⟨qq2, hL2, h⟩ | ⟨hL2, h⟩
  · refine la_sub C [1, 0] rfl ?_
    refine wX6_firstUnplayable_L2 C _  _ (fun _ e => by cases e; cases h; exact hret) (fun e => by cases e) _ _ hL2
  · refine la_sub C [1, 0] rfl ?_
    refine wX6_firstUnplayable_L2 C _  _ (fun _ e => by cases e) (fun e => ?_) _ _ hL2
    cases e
    refine la_aload_n C dX6_firstUnplayable_61 0 rfl ?_
    refine GLCRX6_15 C dX6_firstUnplayable_62 ?_
    exact la_iret C rfl (la_rR (P := (fun r' μ' => r' = r0 ∧ μ' = μ)) h hret) dX6_firstUnplayable_65

