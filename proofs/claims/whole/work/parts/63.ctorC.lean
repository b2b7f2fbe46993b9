abbrev rmIX7 : Room := { frames := 2, cells := 87, slots := 1932, locals := 33 }
def ctX7_24 : Nat → Int32 := (upd (upd (upd (upd (upd (upd (upd (upd (upd (upd (upd (upd (fun _ => 0) 0 10) 1 10) 2 10) 3 10) 4 10) 5 10) 6 10) 7 10) 8 10) 9 10) 10 10) 11 10)
def ctX7_25 : Nat → Int32 := (upd (upd (upd (upd (upd (upd (upd (upd (upd (upd (upd (upd (fun _ => 0) 0 0) 1 1) 2 2) 3 3) 4 4) 5 5) 6 6) 7 7) 8 8) 9 9) 10 10) 11 11)
def ctX7_26 : Nat → Int32 := (upd (upd (upd (upd (fun _ => 0) 0 4) 1 12) 2 100) 3 20)
def muX7 : la_Mem := fun k => if k = 2 then ctX0_1 else if k = 3 then ctX0_2 else if k = 24 then ctX7_24 else if k = 25 then ctX7_25 else if k = 26 then ctX7_26 else fun _ => 0
set_option maxRecDepth 100000 in
theorem iX7_s0 {l : Launch} {D : va_G} {cI cB cS cRI cRB : ClassId} {h0 : Nat} {Ω : Nat → List (Nat × Value) → List Value → va_W → va_W → Nat → Nat → Prop} (C : io_C D [(cI, .int), (cB, .byte), (cS, .object "LineCaster$Sheet"), (cRI, .array .int), (cRB, .array .byte)] l rmIX7 RX7 cX7_init 2 [(h0, .inr (7, [.null, .null, .null, .null, .null, .null, .null, .null, .null, .null, .null, .int 0]))] (fun u : Nat → Nat => la_cells ((fun u : Nat → Nat => LC ((cI, cB, cS, cRI, cRB), u, D)) u) muX7) (fun u : Nat → Nat => u 0 = h0) 87 1932 Ω)   (k : ∀ (q0 : Nat) (u0 : Nat → Nat) (q1 : Nat) (u1 : (Nat → Nat) × (Nat → Nat)) (q2 : Nat) (u2 : Nat → Nat) (q3 : Nat) (u3 : Nat → Nat) (q4 : Nat) (u4 : (Nat → Nat) × (Nat → Nat)) (q5 : Nat) (u5 : Nat → Nat), Ω 70 [(0, .ref h0)] [] [(h0, .inr (7, [.ref q0, .ref q1, .ref q2, .ref q3, .ref q4, .ref q5, .null, .null, .null, .null, .null, .int 0]))] (wIX6 cI cB cS cRI cRB q5 u5 ++ (wIX4 cI cB cS cRI cRB q4 u4 ++ (wIX1 cI cB cS cRI cRB q3 u3 ++ (wIX2 cI cB cS cRI cRB q2 u2 ++ (wIX5 cI cB cS cRI cRB q1 u1 ++ (wIX0 cI cB cS cRI cRB q0 u0 ++ ([]))))))) 74 1700) : Ω 0 [(0, .ref h0)] [] [(h0, .inr (7, [.null, .null, .null, .null, .null, .null, .null, .null, .null, .null, .null, .int 0]))] ([]) 0 0 := by
  refine io_aload_n C dX7_init_0 0 rfl ?_
  refine io_objI C wd_10 wd_11 wd_12 (by decide) (by decide) dX7_init_1 ?_
  refine io_aload_n C dX7_init_4 0 rfl ?_
  refine io_new C (ci := 0) (fs := [.null, .null]) rfl inlX0 tyX0 tyX0_ok wd_13 wd_14 wd_15 (by decide) (Nat.le_of_ble_eq_true rfl) (Nat.le_of_ble_eq_true rfl) dX7_init_5 (fun q0 => ?_)
  refine io_dup C dX7_init_8 rfl ?_
  refine io_call C (G := [(h0, .inr (7, [.null, .null, .null, .null, .null, .null, .null, .null, .null, .null, .null, .int 0]))]) (iX0 l D cI cB cS cRI cRB q0) (Or.inr wd_47) wd_49 wd_48 wd_15 rfl (by decide +kernel) ⟨by decide, by decide⟩ rfl rfl (Nat.le_of_ble_eq_true rfl) (Nat.le_of_ble_eq_true rfl) (Nat.le_of_ble_eq_true rfl) rfl dX7_init_9 (fun u0 _ => ?_)
  refine io_putF C (F1 := [(h0, .inr (7, [.ref q0, .null, .null, .null, .null, .null, .null, .null, .null, .null, .null, .int 0]))]) 0 rfl rfl inlX7 tyX7 tyX7_ok nmX7 0 (by decide) wd_16 rfl rfl rfl (tyX7_ok 0 (by decide)) rfl rfl (Nat.le_of_ble_eq_true rfl) rfl dX7_init_12 ?_
  refine io_aload_n C dX7_init_15 0 rfl ?_
  refine io_new C (ci := 5) (fs := [.null, .null, .null, .null, .null, .int 0]) rfl inlX5 tyX5 tyX5_ok wd_17 wd_18 wd_19 (by decide) (Nat.le_of_ble_eq_true rfl) (Nat.le_of_ble_eq_true rfl) dX7_init_16 (fun q1 => ?_)
  refine io_dup C dX7_init_19 rfl ?_
  refine io_call C (G := [(h0, .inr (7, [.ref q0, .null, .null, .null, .null, .null, .null, .null, .null, .null, .null, .int 0]))]) (iX5 l D cI cB cS cRI cRB q1) (Or.inl ⟨"LineCaster", rfl, fun s h => h.2.2.2.1⟩) wd_54 wd_53 wd_19 rfl (by decide +kernel) ⟨by decide, by decide⟩ rfl rfl (Nat.le_of_ble_eq_true rfl) (Nat.le_of_ble_eq_true rfl) (Nat.le_of_ble_eq_true rfl) rfl dX7_init_20 (fun u1 _ => ?_)
  refine io_putF C (F1 := [(h0, .inr (7, [.ref q0, .ref q1, .null, .null, .null, .null, .null, .null, .null, .null, .null, .int 0]))]) 0 rfl rfl inlX7 tyX7 tyX7_ok nmX7 1 (by decide) wd_20 rfl rfl rfl (tyX7_ok 1 (by decide)) rfl rfl (Nat.le_of_ble_eq_true rfl) rfl dX7_init_23 ?_
  refine io_aload_n C dX7_init_26 0 rfl ?_
  refine io_new C (ci := 2) (fs := [.null, .null, .null, .int 0, .int 0, .int 0]) rfl inlX2 tyX2 tyX2_ok wd_21 wd_22 wd_23 (by decide) (Nat.le_of_ble_eq_true rfl) (Nat.le_of_ble_eq_true rfl) dX7_init_27 (fun q2 => ?_)
  refine io_dup C dX7_init_30 rfl ?_
  refine io_call C (G := [(h0, .inr (7, [.ref q0, .ref q1, .null, .null, .null, .null, .null, .null, .null, .null, .null, .int 0]))]) (iX2 l D cI cB cS cRI cRB q2) (Or.inl ⟨"LineCaster", rfl, fun s h => h.2.2.2.2.1⟩) wd_64 wd_63 wd_23 rfl (by decide +kernel) ⟨by decide, by decide⟩ rfl rfl (Nat.le_of_ble_eq_true rfl) (Nat.le_of_ble_eq_true rfl) (Nat.le_of_ble_eq_true rfl) rfl dX7_init_31 (fun u2 _ => ?_)
  refine io_putF C (F1 := [(h0, .inr (7, [.ref q0, .ref q1, .ref q2, .null, .null, .null, .null, .null, .null, .null, .null, .int 0]))]) 0 rfl rfl inlX7 tyX7 tyX7_ok nmX7 2 (by decide) wd_24 rfl rfl rfl (tyX7_ok 2 (by decide)) rfl rfl (Nat.le_of_ble_eq_true rfl) rfl dX7_init_34 ?_
  refine io_aload_n C dX7_init_37 0 rfl ?_
  refine io_new C (ci := 1) (fs := [.null, .null, .null, .int 0, .int 0]) rfl inlX1 tyX1 tyX1_ok wd_25 wd_26 wd_27 (by decide) (Nat.le_of_ble_eq_true rfl) (Nat.le_of_ble_eq_true rfl) dX7_init_38 (fun q3 => ?_)
  refine io_dup C dX7_init_41 rfl ?_
  refine io_call C (G := [(h0, .inr (7, [.ref q0, .ref q1, .ref q2, .null, .null, .null, .null, .null, .null, .null, .null, .int 0]))]) (iX1 l D cI cB cS cRI cRB q3) (Or.inl ⟨"LineCaster", rfl, fun s h => h.2.2.2.2.2.1⟩) wd_73 wd_72 wd_27 rfl (by decide +kernel) ⟨by decide, by decide⟩ rfl rfl (Nat.le_of_ble_eq_true rfl) (Nat.le_of_ble_eq_true rfl) (Nat.le_of_ble_eq_true rfl) rfl dX7_init_42 (fun u3 _ => ?_)
  refine io_putF C (F1 := [(h0, .inr (7, [.ref q0, .ref q1, .ref q2, .ref q3, .null, .null, .null, .null, .null, .null, .null, .int 0]))]) 0 rfl rfl inlX7 tyX7 tyX7_ok nmX7 3 (by decide) wd_28 rfl rfl rfl (tyX7_ok 3 (by decide)) rfl rfl (Nat.le_of_ble_eq_true rfl) rfl dX7_init_45 ?_
  refine io_aload_n C dX7_init_48 0 rfl ?_
  refine io_new C (ci := 4) (fs := [.null, .null, .int 0]) rfl inlX4 tyX4 tyX4_ok wd_29 wd_30 wd_31 (by decide) (Nat.le_of_ble_eq_true rfl) (Nat.le_of_ble_eq_true rfl) dX7_init_49 (fun q4 => ?_)
  refine io_dup C dX7_init_52 rfl ?_
  refine io_call C (G := [(h0, .inr (7, [.ref q0, .ref q1, .ref q2, .ref q3, .null, .null, .null, .null, .null, .null, .null, .int 0]))]) (iX4 l D cI cB cS cRI cRB q4) (Or.inl ⟨"LineCaster", rfl, fun s h => h.2.2.2.2.2.2.1⟩) wd_81 wd_80 wd_31 rfl (by decide +kernel) ⟨by decide, by decide⟩ rfl rfl (Nat.le_of_ble_eq_true rfl) (Nat.le_of_ble_eq_true rfl) (Nat.le_of_ble_eq_true rfl) rfl dX7_init_53 (fun u4 _ => ?_)
  refine io_putF C (F1 := [(h0, .inr (7, [.ref q0, .ref q1, .ref q2, .ref q3, .ref q4, .null, .null, .null, .null, .null, .null, .int 0]))]) 0 rfl rfl inlX7 tyX7 tyX7_ok nmX7 4 (by decide) wd_32 rfl rfl rfl (tyX7_ok 4 (by decide)) rfl rfl (Nat.le_of_ble_eq_true rfl) rfl dX7_init_56 ?_
  refine io_aload_n C dX7_init_59 0 rfl ?_
  refine io_new C (ci := 6) (fs := [.null, .int 0]) rfl inlX6 tyX6 tyX6_ok wd_33 wd_34 wd_35 (by decide) (Nat.le_of_ble_eq_true rfl) (Nat.le_of_ble_eq_true rfl) dX7_init_60 (fun q5 => ?_)
  refine io_dup C dX7_init_63 rfl ?_
  refine io_call C (G := [(h0, .inr (7, [.ref q0, .ref q1, .ref q2, .ref q3, .ref q4, .null, .null, .null, .null, .null, .null, .int 0]))]) (iX6 l D cI cB cS cRI cRB q5) (Or.inl ⟨"LineCaster", rfl, fun s h => h.2.2.2.2.2.2.2.1⟩) wd_89 wd_88 wd_35 rfl (by decide +kernel) ⟨by decide, by decide⟩ rfl rfl (Nat.le_of_ble_eq_true rfl) (Nat.le_of_ble_eq_true rfl) (Nat.le_of_ble_eq_true rfl) rfl dX7_init_64 (fun u5 _ => ?_)
  refine io_putF C (F1 := [(h0, .inr (7, [.ref q0, .ref q1, .ref q2, .ref q3, .ref q4, .ref q5, .null, .null, .null, .null, .null, .int 0]))]) 0 rfl rfl inlX7 tyX7 tyX7_ok nmX7 5 (by decide) wd_36 rfl rfl rfl (tyX7_ok 5 (by decide)) rfl rfl (Nat.le_of_ble_eq_true rfl) rfl dX7_init_67 ?_
  exact k q0 u0 q1 u1 q2 u2 q3 u3 q4 u4 q5 u5
set_option maxRecDepth 100000 in
theorem iX7_s1 {l : Launch} {D : va_G} {cI cB cS cRI cRB : ClassId} {h0 q0 q1 q2 q3 q4 q5 : Nat} {Ω : Nat → List (Nat × Value) → List Value → va_W → va_W → Nat → Nat → Prop} (C : io_C D [(cI, .int), (cB, .byte), (cS, .object "LineCaster$Sheet"), (cRI, .array .int), (cRB, .array .byte)] l rmIX7 RX7 cX7_init 2 [(h0, .inr (7, [.null, .null, .null, .null, .null, .null, .null, .null, .null, .null, .null, .int 0]))] (fun u : Nat → Nat => la_cells ((fun u : Nat → Nat => LC ((cI, cB, cS, cRI, cRB), u, D)) u) muX7) (fun u : Nat → Nat => u 0 = h0) 87 1932 Ω) (u0 : Nat → Nat) (u1 : (Nat → Nat) × (Nat → Nat)) (u2 : Nat → Nat) (u3 : Nat → Nat) (u4 : (Nat → Nat) × (Nat → Nat)) (u5 : Nat → Nat)  (k : ∀ (q6 : Nat) (q7 : Nat) (q8 : Nat) (q9 : Nat), Ω 120 [(0, .ref h0)] [] [(h0, .inr (7, [.ref q0, .ref q1, .ref q2, .ref q3, .ref q4, .ref q5, .ref q6, .ref q7, .ref q8, .ref q9, .null, .int 0])), (q6, .inl (cS, 4, .inr (.inr (.inr (.inr (fun _ => none)))))), (q7, .inl (cI, 12, .inl (fun _ => 0))), (q8, .inl (cI, 12, .inl (fun _ => 0))), (q9, .inl (cI, 4, .inl (upd (upd (upd (upd (fun _ => 0) 0 4) 1 12) 2 100) 3 20)))] (wIX6 cI cB cS cRI cRB q5 u5 ++ (wIX4 cI cB cS cRI cRB q4 u4 ++ (wIX1 cI cB cS cRI cRB q3 u3 ++ (wIX2 cI cB cS cRI cRB q2 u2 ++ (wIX5 cI cB cS cRI cRB q1 u1 ++ (wIX0 cI cB cS cRI cRB q0 u0 ++ ([]))))))) 78 1732) : Ω 70 [(0, .ref h0)] [] [(h0, .inr (7, [.ref q0, .ref q1, .ref q2, .ref q3, .ref q4, .ref q5, .null, .null, .null, .null, .null, .int 0]))] (wIX6 cI cB cS cRI cRB q5 u5 ++ (wIX4 cI cB cS cRI cRB q4 u4 ++ (wIX1 cI cB cS cRI cRB q3 u3 ++ (wIX2 cI cB cS cRI cRB q2 u2 ++ (wIX5 cI cB cS cRI cRB q1 u1 ++ (wIX0 cI cB cS cRI cRB q0 u0 ++ ([]))))))) 74 1700 := by
  refine io_aload_n C dX7_init_70 0 rfl ?_
  refine io_iconst C (v := 4) dX7_init_71 (by decide) ?_
  refine io_newq C 2 rfl wd_37 (by decide) (N := 4) (by decide) (Nat.le_of_ble_eq_true rfl) (Nat.le_of_ble_eq_true rfl) (Nat.le_of_ble_eq_true rfl) dX7_init_72 (fun q6 => ?_)
  refine io_putF C (F1 := [(h0, .inr (7, [.ref q0, .ref q1, .ref q2, .ref q3, .ref q4, .ref q5, .ref q6, .null, .null, .null, .null, .int 0])), (q6, .inl (cS, 4, .inr (.inr (.inr (.inr (fun _ => none))))))]) 0 rfl rfl inlX7 tyX7 tyX7_ok nmX7 6 (by decide) wd_38 rfl rfl rfl (tyX7_ok 6 (by decide)) rfl rfl (Nat.le_of_ble_eq_true rfl) rfl dX7_init_75 ?_
  refine io_aload_n C dX7_init_78 0 rfl ?_
  refine io_bipush C (v := 12) dX7_init_79 (by decide) ?_
  refine io_newI C 0 rfl wd_39 (by decide) (N := 12) (by decide) (Nat.le_of_ble_eq_true rfl) (Nat.le_of_ble_eq_true rfl) (Nat.le_of_ble_eq_true rfl) dX7_init_81 (fun q7 => ?_)
  refine io_putF C (F1 := [(h0, .inr (7, [.ref q0, .ref q1, .ref q2, .ref q3, .ref q4, .ref q5, .ref q6, .ref q7, .null, .null, .null, .int 0])), (q6, .inl (cS, 4, .inr (.inr (.inr (.inr (fun _ => none)))))), (q7, .inl (cI, 12, .inl (fun _ => 0)))]) 0 rfl rfl inlX7 tyX7 tyX7_ok nmX7 7 (by decide) wd_40 rfl rfl rfl (tyX7_ok 7 (by decide)) rfl rfl (Nat.le_of_ble_eq_true rfl) rfl dX7_init_83 ?_
  refine io_aload_n C dX7_init_86 0 rfl ?_
  refine io_bipush C (v := 12) dX7_init_87 (by decide) ?_
  refine io_newI C 0 rfl wd_39 (by decide) (N := 12) (by decide) (Nat.le_of_ble_eq_true rfl) (Nat.le_of_ble_eq_true rfl) (Nat.le_of_ble_eq_true rfl) dX7_init_89 (fun q8 => ?_)
  refine io_putF C (F1 := [(h0, .inr (7, [.ref q0, .ref q1, .ref q2, .ref q3, .ref q4, .ref q5, .ref q6, .ref q7, .ref q8, .null, .null, .int 0])), (q6, .inl (cS, 4, .inr (.inr (.inr (.inr (fun _ => none)))))), (q7, .inl (cI, 12, .inl (fun _ => 0))), (q8, .inl (cI, 12, .inl (fun _ => 0)))]) 0 rfl rfl inlX7 tyX7 tyX7_ok nmX7 8 (by decide) wd_41 rfl rfl rfl (tyX7_ok 8 (by decide)) rfl rfl (Nat.le_of_ble_eq_true rfl) rfl dX7_init_91 ?_
  refine io_aload_n C dX7_init_94 0 rfl ?_
  refine io_iconst C (v := 4) dX7_init_95 (by decide) ?_
  refine io_newI C 0 rfl wd_39 (by decide) (N := 4) (by decide) (Nat.le_of_ble_eq_true rfl) (Nat.le_of_ble_eq_true rfl) (Nat.le_of_ble_eq_true rfl) dX7_init_96 (fun q9 => ?_)
  refine io_dup C dX7_init_98 rfl ?_
  refine io_iconst C (v := 0) dX7_init_99 (by decide) ?_
  refine io_iconst C (v := 4) dX7_init_100 (by decide) ?_
  refine io_iast C (F1 := [(h0, .inr (7, [.ref q0, .ref q1, .ref q2, .ref q3, .ref q4, .ref q5, .ref q6, .ref q7, .ref q8, .null, .null, .int 0])), (q6, .inl (cS, 4, .inr (.inr (.inr (.inr (fun _ => none)))))), (q7, .inl (cI, 12, .inl (fun _ => 0))), (q8, .inl (cI, 12, .inl (fun _ => 0))), (q9, .inl (cI, 4, .inl (upd (fun _ => 0) 0 4)))]) 4 0 rfl rfl (la_ix_in rfl) (j := 0) (by decide) rfl dX7_init_101 ?_
  refine io_dup C dX7_init_102 rfl ?_
  refine io_iconst C (v := 1) dX7_init_103 (by decide) ?_
  refine io_bipush C (v := 12) dX7_init_104 (by decide) ?_
  refine io_iast C (F1 := [(h0, .inr (7, [.ref q0, .ref q1, .ref q2, .ref q3, .ref q4, .ref q5, .ref q6, .ref q7, .ref q8, .null, .null, .int 0])), (q6, .inl (cS, 4, .inr (.inr (.inr (.inr (fun _ => none)))))), (q7, .inl (cI, 12, .inl (fun _ => 0))), (q8, .inl (cI, 12, .inl (fun _ => 0))), (q9, .inl (cI, 4, .inl (upd (upd (fun _ => 0) 0 4) 1 12)))]) 4 0 rfl rfl (la_ix_in rfl) (j := 1) (by decide) rfl dX7_init_106 ?_
  refine io_dup C dX7_init_107 rfl ?_
  refine io_iconst C (v := 2) dX7_init_108 (by decide) ?_
  refine io_bipush C (v := 100) dX7_init_109 (by decide) ?_
  refine io_iast C (F1 := [(h0, .inr (7, [.ref q0, .ref q1, .ref q2, .ref q3, .ref q4, .ref q5, .ref q6, .ref q7, .ref q8, .null, .null, .int 0])), (q6, .inl (cS, 4, .inr (.inr (.inr (.inr (fun _ => none)))))), (q7, .inl (cI, 12, .inl (fun _ => 0))), (q8, .inl (cI, 12, .inl (fun _ => 0))), (q9, .inl (cI, 4, .inl (upd (upd (upd (fun _ => 0) 0 4) 1 12) 2 100)))]) 4 0 rfl rfl (la_ix_in rfl) (j := 2) (by decide) rfl dX7_init_111 ?_
  refine io_dup C dX7_init_112 rfl ?_
  refine io_iconst C (v := 3) dX7_init_113 (by decide) ?_
  refine io_bipush C (v := 20) dX7_init_114 (by decide) ?_
  refine io_iast C (F1 := [(h0, .inr (7, [.ref q0, .ref q1, .ref q2, .ref q3, .ref q4, .ref q5, .ref q6, .ref q7, .ref q8, .null, .null, .int 0])), (q6, .inl (cS, 4, .inr (.inr (.inr (.inr (fun _ => none)))))), (q7, .inl (cI, 12, .inl (fun _ => 0))), (q8, .inl (cI, 12, .inl (fun _ => 0))), (q9, .inl (cI, 4, .inl (upd (upd (upd (upd (fun _ => 0) 0 4) 1 12) 2 100) 3 20)))]) 4 0 rfl rfl (la_ix_in rfl) (j := 3) (by decide) rfl dX7_init_116 ?_
  refine io_putF C (F1 := [(h0, .inr (7, [.ref q0, .ref q1, .ref q2, .ref q3, .ref q4, .ref q5, .ref q6, .ref q7, .ref q8, .ref q9, .null, .int 0])), (q6, .inl (cS, 4, .inr (.inr (.inr (.inr (fun _ => none)))))), (q7, .inl (cI, 12, .inl (fun _ => 0))), (q8, .inl (cI, 12, .inl (fun _ => 0))), (q9, .inl (cI, 4, .inl (upd (upd (upd (upd (fun _ => 0) 0 4) 1 12) 2 100) 3 20)))]) 0 rfl rfl inlX7 tyX7 tyX7_ok nmX7 9 (by decide) wd_42 rfl rfl rfl (tyX7_ok 9 (by decide)) rfl rfl (Nat.le_of_ble_eq_true rfl) rfl dX7_init_117 ?_
  exact k q6 q7 q8 q9
set_option maxRecDepth 100000 in
theorem iX7_s2 {l : Launch} {D : va_G} {cI cB cS cRI cRB : ClassId} {h0 q0 q1 q2 q3 q4 q5 q6 q7 q8 q9 : Nat} {Ω : Nat → List (Nat × Value) → List Value → va_W → va_W → Nat → Nat → Prop} (C : io_C D [(cI, .int), (cB, .byte), (cS, .object "LineCaster$Sheet"), (cRI, .array .int), (cRB, .array .byte)] l rmIX7 RX7 cX7_init 2 [(h0, .inr (7, [.null, .null, .null, .null, .null, .null, .null, .null, .null, .null, .null, .int 0]))] (fun u : Nat → Nat => la_cells ((fun u : Nat → Nat => LC ((cI, cB, cS, cRI, cRB), u, D)) u) muX7) (fun u : Nat → Nat => u 0 = h0) 87 1932 Ω) (u0 : Nat → Nat) (u1 : (Nat → Nat) × (Nat → Nat)) (u2 : Nat → Nat) (u3 : Nat → Nat) (u4 : (Nat → Nat) × (Nat → Nat)) (u5 : Nat → Nat) (fq9 : Nat → Int32) (k : ∀ (q10 : Nat), Ω 141 [(1, .int 2), (0, .ref h0)] [] [(h0, .inr (7, [.ref q0, .ref q1, .ref q2, .ref q3, .ref q4, .ref q5, .ref q6, .ref q7, .ref q8, .ref q9, .ref q10, .int 0])), (q6, .inl (cS, 4, .inr (.inr (.inr (.inr (fun _ => none)))))), (q7, .inl (cI, 12, .inl (upd (upd (fun _ => 0) 0 10) 1 10))), (q8, .inl (cI, 12, .inl (fun _ => 0))), (q9, .inl (cI, 4, .inl fq9)), (q10, .inl (cI, 24, .inl (fun _ => 0)))] (wIX6 cI cB cS cRI cRB q5 u5 ++ (wIX4 cI cB cS cRI cRB q4 u4 ++ (wIX1 cI cB cS cRI cRB q3 u3 ++ (wIX2 cI cB cS cRI cRB q2 u2 ++ (wIX5 cI cB cS cRI cRB q1 u1 ++ (wIX0 cI cB cS cRI cRB q0 u0 ++ ([]))))))) 79 1756) : Ω 120 [(0, .ref h0)] [] [(h0, .inr (7, [.ref q0, .ref q1, .ref q2, .ref q3, .ref q4, .ref q5, .ref q6, .ref q7, .ref q8, .ref q9, .null, .int 0])), (q6, .inl (cS, 4, .inr (.inr (.inr (.inr (fun _ => none)))))), (q7, .inl (cI, 12, .inl (fun _ => 0))), (q8, .inl (cI, 12, .inl (fun _ => 0))), (q9, .inl (cI, 4, .inl fq9))] (wIX6 cI cB cS cRI cRB q5 u5 ++ (wIX4 cI cB cS cRI cRB q4 u4 ++ (wIX1 cI cB cS cRI cRB q3 u3 ++ (wIX2 cI cB cS cRI cRB q2 u2 ++ (wIX5 cI cB cS cRI cRB q1 u1 ++ (wIX0 cI cB cS cRI cRB q0 u0 ++ ([]))))))) 78 1732 := by
  refine io_aload_n C dX7_init_120 0 rfl ?_
  refine io_bipush C (v := 24) dX7_init_121 (by decide) ?_
  refine io_newI C 0 rfl wd_39 (by decide) (N := 24) (by decide) (Nat.le_of_ble_eq_true rfl) (Nat.le_of_ble_eq_true rfl) (Nat.le_of_ble_eq_true rfl) dX7_init_123 (fun q10 => ?_)
  refine io_putF C (F1 := [(h0, .inr (7, [.ref q0, .ref q1, .ref q2, .ref q3, .ref q4, .ref q5, .ref q6, .ref q7, .ref q8, .ref q9, .ref q10, .int 0])), (q6, .inl (cS, 4, .inr (.inr (.inr (.inr (fun _ => none)))))), (q7, .inl (cI, 12, .inl (fun _ => 0))), (q8, .inl (cI, 12, .inl (fun _ => 0))), (q9, .inl (cI, 4, .inl fq9)), (q10, .inl (cI, 24, .inl (fun _ => 0)))]) 0 rfl rfl inlX7 tyX7 tyX7_ok nmX7 10 (by decide) wd_43 rfl rfl rfl (tyX7_ok 10 (by decide)) rfl rfl (Nat.le_of_ble_eq_true rfl) rfl dX7_init_125 ?_
  refine io_aload_n C dX7_init_128 0 rfl ?_
  refine io_iconst C (v := 0) dX7_init_129 (by decide) ?_
  refine io_putf C (F1 := [(h0, .inr (7, [.ref q0, .ref q1, .ref q2, .ref q3, .ref q4, .ref q5, .ref q6, .ref q7, .ref q8, .ref q9, .ref q10, .int 0])), (q6, .inl (cS, 4, .inr (.inr (.inr (.inr (fun _ => none)))))), (q7, .inl (cI, 12, .inl (fun _ => 0))), (q8, .inl (cI, 12, .inl (fun _ => 0))), (q9, .inl (cI, 4, .inl fq9)), (q10, .inl (cI, 24, .inl (fun _ => 0)))]) 0 rfl rfl inlX7 tyX7 tyX7_ok nmX7 11 (by decide) wd_44 rfl rfl (tyX7_ok 11 (by decide)) rfl rfl (Nat.le_of_ble_eq_true rfl) rfl dX7_init_130 ?_
  refine io_iconst C (v := 0) dX7_init_133 (by decide) ?_
  refine io_istore_n C dX7_init_134 (by decide) rfl ?_
  refine io_iload_n C dX7_init_135 0 rfl ?_
  refine io_bipush C (v := 12) dX7_init_136 (by decide) ?_
  refine io_geF C 155 dX7_init_138 (by decide) (by decide) ?_
  refine io_aload_n C dX7_init_141 1 rfl ?_
  refine io_getf C 0 rfl rfl inlX7 7 (by decide) wd_40 rfl rfl dX7_init_142 ?_
  refine io_iload_n C dX7_init_145 0 rfl ?_
  refine io_bipush C (v := 10) dX7_init_146 (by decide) ?_
  refine io_iast C (F1 := [(h0, .inr (7, [.ref q0, .ref q1, .ref q2, .ref q3, .ref q4, .ref q5, .ref q6, .ref q7, .ref q8, .ref q9, .ref q10, .int 0])), (q6, .inl (cS, 4, .inr (.inr (.inr (.inr (fun _ => none)))))), (q7, .inl (cI, 12, .inl (upd (fun _ => 0) 0 10))), (q8, .inl (cI, 12, .inl (fun _ => 0))), (q9, .inl (cI, 4, .inl fq9)), (q10, .inl (cI, 24, .inl (fun _ => 0)))]) 2 0 rfl rfl (la_ix_in rfl) (j := 0) (by decide) rfl dX7_init_148 ?_
  refine io_iinc C (v := 1) dX7_init_149 0 rfl (by decide) (by decide) rfl ?_
  refine io_goto C (tgt := 135) dX7_init_152 (by decide) ?_
  refine io_iload_n C dX7_init_135 0 rfl ?_
  refine io_bipush C (v := 12) dX7_init_136 (by decide) ?_
  refine io_geF C 155 dX7_init_138 (by decide) (by decide) ?_
  refine io_aload_n C dX7_init_141 1 rfl ?_
  refine io_getf C 0 rfl rfl inlX7 7 (by decide) wd_40 rfl rfl dX7_init_142 ?_
  refine io_iload_n C dX7_init_145 0 rfl ?_
  refine io_bipush C (v := 10) dX7_init_146 (by decide) ?_
  refine io_iast C (F1 := [(h0, .inr (7, [.ref q0, .ref q1, .ref q2, .ref q3, .ref q4, .ref q5, .ref q6, .ref q7, .ref q8, .ref q9, .ref q10, .int 0])), (q6, .inl (cS, 4, .inr (.inr (.inr (.inr (fun _ => none)))))), (q7, .inl (cI, 12, .inl (upd (upd (fun _ => 0) 0 10) 1 10))), (q8, .inl (cI, 12, .inl (fun _ => 0))), (q9, .inl (cI, 4, .inl fq9)), (q10, .inl (cI, 24, .inl (fun _ => 0)))]) 2 0 rfl rfl (la_ix_in rfl) (j := 1) (by decide) rfl dX7_init_148 ?_
  refine io_iinc C (v := 2) dX7_init_149 0 rfl (by decide) (by decide) rfl ?_
  refine io_goto C (tgt := 135) dX7_init_152 (by decide) ?_
  refine io_iload_n C dX7_init_135 0 rfl ?_
  refine io_bipush C (v := 12) dX7_init_136 (by decide) ?_
  refine io_geF C 155 dX7_init_138 (by decide) (by decide) ?_
  exact k q10
set_option maxRecDepth 100000 in
theorem iX7_s3 {l : Launch} {D : va_G} {cI cB cS cRI cRB : ClassId} {h0 q0 q1 q2 q3 q4 q5 q6 q7 q8 q9 q10 : Nat} {Ω : Nat → List (Nat × Value) → List Value → va_W → va_W → Nat → Nat → Prop} (C : io_C D [(cI, .int), (cB, .byte), (cS, .object "LineCaster$Sheet"), (cRI, .array .int), (cRB, .array .byte)] l rmIX7 RX7 cX7_init 2 [(h0, .inr (7, [.null, .null, .null, .null, .null, .null, .null, .null, .null, .null, .null, .int 0]))] (fun u : Nat → Nat => la_cells ((fun u : Nat → Nat => LC ((cI, cB, cS, cRI, cRB), u, D)) u) muX7) (fun u : Nat → Nat => u 0 = h0) 87 1932 Ω) (u0 : Nat → Nat) (u1 : (Nat → Nat) × (Nat → Nat)) (u2 : Nat → Nat) (u3 : Nat → Nat) (u4 : (Nat → Nat) × (Nat → Nat)) (u5 : Nat → Nat) (fq7 : Nat → Int32) (fq9 : Nat → Int32) (k : Ω 141 [(1, .int 5), (0, .ref h0)] [] [(h0, .inr (7, [.ref q0, .ref q1, .ref q2, .ref q3, .ref q4, .ref q5, .ref q6, .ref q7, .ref q8, .ref q9, .ref q10, .int 0])), (q6, .inl (cS, 4, .inr (.inr (.inr (.inr (fun _ => none)))))), (q7, .inl (cI, 12, .inl (upd (upd (upd fq7 2 10) 3 10) 4 10))), (q8, .inl (cI, 12, .inl (fun _ => 0))), (q9, .inl (cI, 4, .inl fq9)), (q10, .inl (cI, 24, .inl (fun _ => 0)))] (wIX6 cI cB cS cRI cRB q5 u5 ++ (wIX4 cI cB cS cRI cRB q4 u4 ++ (wIX1 cI cB cS cRI cRB q3 u3 ++ (wIX2 cI cB cS cRI cRB q2 u2 ++ (wIX5 cI cB cS cRI cRB q1 u1 ++ (wIX0 cI cB cS cRI cRB q0 u0 ++ ([]))))))) 79 1756) : Ω 141 [(1, .int 2), (0, .ref h0)] [] [(h0, .inr (7, [.ref q0, .ref q1, .ref q2, .ref q3, .ref q4, .ref q5, .ref q6, .ref q7, .ref q8, .ref q9, .ref q10, .int 0])), (q6, .inl (cS, 4, .inr (.inr (.inr (.inr (fun _ => none)))))), (q7, .inl (cI, 12, .inl fq7)), (q8, .inl (cI, 12, .inl (fun _ => 0))), (q9, .inl (cI, 4, .inl fq9)), (q10, .inl (cI, 24, .inl (fun _ => 0)))] (wIX6 cI cB cS cRI cRB q5 u5 ++ (wIX4 cI cB cS cRI cRB q4 u4 ++ (wIX1 cI cB cS cRI cRB q3 u3 ++ (wIX2 cI cB cS cRI cRB q2 u2 ++ (wIX5 cI cB cS cRI cRB q1 u1 ++ (wIX0 cI cB cS cRI cRB q0 u0 ++ ([]))))))) 79 1756 := by
  refine io_aload_n C dX7_init_141 1 rfl ?_
  refine io_getf C 0 rfl rfl inlX7 7 (by decide) wd_40 rfl rfl dX7_init_142 ?_
  refine io_iload_n C dX7_init_145 0 rfl ?_
  refine io_bipush C (v := 10) dX7_init_146 (by decide) ?_
  refine io_iast C (F1 := [(h0, .inr (7, [.ref q0, .ref q1, .ref q2, .ref q3, .ref q4, .ref q5, .ref q6, .ref q7, .ref q8, .ref q9, .ref q10, .int 0])), (q6, .inl (cS, 4, .inr (.inr (.inr (.inr (fun _ => none)))))), (q7, .inl (cI, 12, .inl (upd fq7 2 10))), (q8, .inl (cI, 12, .inl (fun _ => 0))), (q9, .inl (cI, 4, .inl fq9)), (q10, .inl (cI, 24, .inl (fun _ => 0)))]) 2 0 rfl rfl (la_ix_in rfl) (j := 2) (by decide) rfl dX7_init_148 ?_
  refine io_iinc C (v := 3) dX7_init_149 0 rfl (by decide) (by decide) rfl ?_
  refine io_goto C (tgt := 135) dX7_init_152 (by decide) ?_
  refine io_iload_n C dX7_init_135 0 rfl ?_
  refine io_bipush C (v := 12) dX7_init_136 (by decide) ?_
  refine io_geF C 155 dX7_init_138 (by decide) (by decide) ?_
  refine io_aload_n C dX7_init_141 1 rfl ?_
  refine io_getf C 0 rfl rfl inlX7 7 (by decide) wd_40 rfl rfl dX7_init_142 ?_
  refine io_iload_n C dX7_init_145 0 rfl ?_
  refine io_bipush C (v := 10) dX7_init_146 (by decide) ?_
  refine io_iast C (F1 := [(h0, .inr (7, [.ref q0, .ref q1, .ref q2, .ref q3, .ref q4, .ref q5, .ref q6, .ref q7, .ref q8, .ref q9, .ref q10, .int 0])), (q6, .inl (cS, 4, .inr (.inr (.inr (.inr (fun _ => none)))))), (q7, .inl (cI, 12, .inl (upd (upd fq7 2 10) 3 10))), (q8, .inl (cI, 12, .inl (fun _ => 0))), (q9, .inl (cI, 4, .inl fq9)), (q10, .inl (cI, 24, .inl (fun _ => 0)))]) 2 0 rfl rfl (la_ix_in rfl) (j := 3) (by decide) rfl dX7_init_148 ?_
  refine io_iinc C (v := 4) dX7_init_149 0 rfl (by decide) (by decide) rfl ?_
  refine io_goto C (tgt := 135) dX7_init_152 (by decide) ?_
  refine io_iload_n C dX7_init_135 0 rfl ?_
  refine io_bipush C (v := 12) dX7_init_136 (by decide) ?_
  refine io_geF C 155 dX7_init_138 (by decide) (by decide) ?_
  refine io_aload_n C dX7_init_141 1 rfl ?_
  refine io_getf C 0 rfl rfl inlX7 7 (by decide) wd_40 rfl rfl dX7_init_142 ?_
  refine io_iload_n C dX7_init_145 0 rfl ?_
  refine io_bipush C (v := 10) dX7_init_146 (by decide) ?_
  refine io_iast C (F1 := [(h0, .inr (7, [.ref q0, .ref q1, .ref q2, .ref q3, .ref q4, .ref q5, .ref q6, .ref q7, .ref q8, .ref q9, .ref q10, .int 0])), (q6, .inl (cS, 4, .inr (.inr (.inr (.inr (fun _ => none)))))), (q7, .inl (cI, 12, .inl (upd (upd (upd fq7 2 10) 3 10) 4 10))), (q8, .inl (cI, 12, .inl (fun _ => 0))), (q9, .inl (cI, 4, .inl fq9)), (q10, .inl (cI, 24, .inl (fun _ => 0)))]) 2 0 rfl rfl (la_ix_in rfl) (j := 4) (by decide) rfl dX7_init_148 ?_
  refine io_iinc C (v := 5) dX7_init_149 0 rfl (by decide) (by decide) rfl ?_
  refine io_goto C (tgt := 135) dX7_init_152 (by decide) ?_
  refine io_iload_n C dX7_init_135 0 rfl ?_
  refine io_bipush C (v := 12) dX7_init_136 (by decide) ?_
  refine io_geF C 155 dX7_init_138 (by decide) (by decide) ?_
  exact k
set_option maxRecDepth 100000 in
theorem iX7_s4 {l : Launch} {D : va_G} {cI cB cS cRI cRB : ClassId} {h0 q0 q1 q2 q3 q4 q5 q6 q7 q8 q9 q10 : Nat} {Ω : Nat → List (Nat × Value) → List Value → va_W → va_W → Nat → Nat → Prop} (C : io_C D [(cI, .int), (cB, .byte), (cS, .object "LineCaster$Sheet"), (cRI, .array .int), (cRB, .array .byte)] l rmIX7 RX7 cX7_init 2 [(h0, .inr (7, [.null, .null, .null, .null, .null, .null, .null, .null, .null, .null, .null, .int 0]))] (fun u : Nat → Nat => la_cells ((fun u : Nat → Nat => LC ((cI, cB, cS, cRI, cRB), u, D)) u) muX7) (fun u : Nat → Nat => u 0 = h0) 87 1932 Ω) (u0 : Nat → Nat) (u1 : (Nat → Nat) × (Nat → Nat)) (u2 : Nat → Nat) (u3 : Nat → Nat) (u4 : (Nat → Nat) × (Nat → Nat)) (u5 : Nat → Nat) (fq7 : Nat → Int32) (fq9 : Nat → Int32) (k : Ω 141 [(1, .int 8), (0, .ref h0)] [] [(h0, .inr (7, [.ref q0, .ref q1, .ref q2, .ref q3, .ref q4, .ref q5, .ref q6, .ref q7, .ref q8, .ref q9, .ref q10, .int 0])), (q6, .inl (cS, 4, .inr (.inr (.inr (.inr (fun _ => none)))))), (q7, .inl (cI, 12, .inl (upd (upd (upd fq7 5 10) 6 10) 7 10))), (q8, .inl (cI, 12, .inl (fun _ => 0))), (q9, .inl (cI, 4, .inl fq9)), (q10, .inl (cI, 24, .inl (fun _ => 0)))] (wIX6 cI cB cS cRI cRB q5 u5 ++ (wIX4 cI cB cS cRI cRB q4 u4 ++ (wIX1 cI cB cS cRI cRB q3 u3 ++ (wIX2 cI cB cS cRI cRB q2 u2 ++ (wIX5 cI cB cS cRI cRB q1 u1 ++ (wIX0 cI cB cS cRI cRB q0 u0 ++ ([]))))))) 79 1756) : Ω 141 [(1, .int 5), (0, .ref h0)] [] [(h0, .inr (7, [.ref q0, .ref q1, .ref q2, .ref q3, .ref q4, .ref q5, .ref q6, .ref q7, .ref q8, .ref q9, .ref q10, .int 0])), (q6, .inl (cS, 4, .inr (.inr (.inr (.inr (fun _ => none)))))), (q7, .inl (cI, 12, .inl fq7)), (q8, .inl (cI, 12, .inl (fun _ => 0))), (q9, .inl (cI, 4, .inl fq9)), (q10, .inl (cI, 24, .inl (fun _ => 0)))] (wIX6 cI cB cS cRI cRB q5 u5 ++ (wIX4 cI cB cS cRI cRB q4 u4 ++ (wIX1 cI cB cS cRI cRB q3 u3 ++ (wIX2 cI cB cS cRI cRB q2 u2 ++ (wIX5 cI cB cS cRI cRB q1 u1 ++ (wIX0 cI cB cS cRI cRB q0 u0 ++ ([]))))))) 79 1756 := by
  refine io_aload_n C dX7_init_141 1 rfl ?_
  refine io_getf C 0 rfl rfl inlX7 7 (by decide) wd_40 rfl rfl dX7_init_142 ?_
  refine io_iload_n C dX7_init_145 0 rfl ?_
  refine io_bipush C (v := 10) dX7_init_146 (by decide) ?_
  refine io_iast C (F1 := [(h0, .inr (7, [.ref q0, .ref q1, .ref q2, .ref q3, .ref q4, .ref q5, .ref q6, .ref q7, .ref q8, .ref q9, .ref q10, .int 0])), (q6, .inl (cS, 4, .inr (.inr (.inr (.inr (fun _ => none)))))), (q7, .inl (cI, 12, .inl (upd fq7 5 10))), (q8, .inl (cI, 12, .inl (fun _ => 0))), (q9, .inl (cI, 4, .inl fq9)), (q10, .inl (cI, 24, .inl (fun _ => 0)))]) 2 0 rfl rfl (la_ix_in rfl) (j := 5) (by decide) rfl dX7_init_148 ?_
  refine io_iinc C (v := 6) dX7_init_149 0 rfl (by decide) (by decide) rfl ?_
  refine io_goto C (tgt := 135) dX7_init_152 (by decide) ?_
  refine io_iload_n C dX7_init_135 0 rfl ?_
  refine io_bipush C (v := 12) dX7_init_136 (by decide) ?_
  refine io_geF C 155 dX7_init_138 (by decide) (by decide) ?_
  refine io_aload_n C dX7_init_141 1 rfl ?_
  refine io_getf C 0 rfl rfl inlX7 7 (by decide) wd_40 rfl rfl dX7_init_142 ?_
  refine io_iload_n C dX7_init_145 0 rfl ?_
  refine io_bipush C (v := 10) dX7_init_146 (by decide) ?_
  refine io_iast C (F1 := [(h0, .inr (7, [.ref q0, .ref q1, .ref q2, .ref q3, .ref q4, .ref q5, .ref q6, .ref q7, .ref q8, .ref q9, .ref q10, .int 0])), (q6, .inl (cS, 4, .inr (.inr (.inr (.inr (fun _ => none)))))), (q7, .inl (cI, 12, .inl (upd (upd fq7 5 10) 6 10))), (q8, .inl (cI, 12, .inl (fun _ => 0))), (q9, .inl (cI, 4, .inl fq9)), (q10, .inl (cI, 24, .inl (fun _ => 0)))]) 2 0 rfl rfl (la_ix_in rfl) (j := 6) (by decide) rfl dX7_init_148 ?_
  refine io_iinc C (v := 7) dX7_init_149 0 rfl (by decide) (by decide) rfl ?_
  refine io_goto C (tgt := 135) dX7_init_152 (by decide) ?_
  refine io_iload_n C dX7_init_135 0 rfl ?_
  refine io_bipush C (v := 12) dX7_init_136 (by decide) ?_
  refine io_geF C 155 dX7_init_138 (by decide) (by decide) ?_
  refine io_aload_n C dX7_init_141 1 rfl ?_
  refine io_getf C 0 rfl rfl inlX7 7 (by decide) wd_40 rfl rfl dX7_init_142 ?_
  refine io_iload_n C dX7_init_145 0 rfl ?_
  refine io_bipush C (v := 10) dX7_init_146 (by decide) ?_
  refine io_iast C (F1 := [(h0, .inr (7, [.ref q0, .ref q1, .ref q2, .ref q3, .ref q4, .ref q5, .ref q6, .ref q7, .ref q8, .ref q9, .ref q10, .int 0])), (q6, .inl (cS, 4, .inr (.inr (.inr (.inr (fun _ => none)))))), (q7, .inl (cI, 12, .inl (upd (upd (upd fq7 5 10) 6 10) 7 10))), (q8, .inl (cI, 12, .inl (fun _ => 0))), (q9, .inl (cI, 4, .inl fq9)), (q10, .inl (cI, 24, .inl (fun _ => 0)))]) 2 0 rfl rfl (la_ix_in rfl) (j := 7) (by decide) rfl dX7_init_148 ?_
  refine io_iinc C (v := 8) dX7_init_149 0 rfl (by decide) (by decide) rfl ?_
  refine io_goto C (tgt := 135) dX7_init_152 (by decide) ?_
  refine io_iload_n C dX7_init_135 0 rfl ?_
  refine io_bipush C (v := 12) dX7_init_136 (by decide) ?_
  refine io_geF C 155 dX7_init_138 (by decide) (by decide) ?_
  exact k
set_option maxRecDepth 100000 in
theorem iX7_s5 {l : Launch} {D : va_G} {cI cB cS cRI cRB : ClassId} {h0 q0 q1 q2 q3 q4 q5 q6 q7 q8 q9 q10 : Nat} {Ω : Nat → List (Nat × Value) → List Value → va_W → va_W → Nat → Nat → Prop} (C : io_C D [(cI, .int), (cB, .byte), (cS, .object "LineCaster$Sheet"), (cRI, .array .int), (cRB, .array .byte)] l rmIX7 RX7 cX7_init 2 [(h0, .inr (7, [.null, .null, .null, .null, .null, .null, .null, .null, .null, .null, .null, .int 0]))] (fun u : Nat → Nat => la_cells ((fun u : Nat → Nat => LC ((cI, cB, cS, cRI, cRB), u, D)) u) muX7) (fun u : Nat → Nat => u 0 = h0) 87 1932 Ω) (u0 : Nat → Nat) (u1 : (Nat → Nat) × (Nat → Nat)) (u2 : Nat → Nat) (u3 : Nat → Nat) (u4 : (Nat → Nat) × (Nat → Nat)) (u5 : Nat → Nat) (fq7 : Nat → Int32) (fq9 : Nat → Int32) (k : Ω 141 [(1, .int 11), (0, .ref h0)] [] [(h0, .inr (7, [.ref q0, .ref q1, .ref q2, .ref q3, .ref q4, .ref q5, .ref q6, .ref q7, .ref q8, .ref q9, .ref q10, .int 0])), (q6, .inl (cS, 4, .inr (.inr (.inr (.inr (fun _ => none)))))), (q7, .inl (cI, 12, .inl (upd (upd (upd fq7 8 10) 9 10) 10 10))), (q8, .inl (cI, 12, .inl (fun _ => 0))), (q9, .inl (cI, 4, .inl fq9)), (q10, .inl (cI, 24, .inl (fun _ => 0)))] (wIX6 cI cB cS cRI cRB q5 u5 ++ (wIX4 cI cB cS cRI cRB q4 u4 ++ (wIX1 cI cB cS cRI cRB q3 u3 ++ (wIX2 cI cB cS cRI cRB q2 u2 ++ (wIX5 cI cB cS cRI cRB q1 u1 ++ (wIX0 cI cB cS cRI cRB q0 u0 ++ ([]))))))) 79 1756) : Ω 141 [(1, .int 8), (0, .ref h0)] [] [(h0, .inr (7, [.ref q0, .ref q1, .ref q2, .ref q3, .ref q4, .ref q5, .ref q6, .ref q7, .ref q8, .ref q9, .ref q10, .int 0])), (q6, .inl (cS, 4, .inr (.inr (.inr (.inr (fun _ => none)))))), (q7, .inl (cI, 12, .inl fq7)), (q8, .inl (cI, 12, .inl (fun _ => 0))), (q9, .inl (cI, 4, .inl fq9)), (q10, .inl (cI, 24, .inl (fun _ => 0)))] (wIX6 cI cB cS cRI cRB q5 u5 ++ (wIX4 cI cB cS cRI cRB q4 u4 ++ (wIX1 cI cB cS cRI cRB q3 u3 ++ (wIX2 cI cB cS cRI cRB q2 u2 ++ (wIX5 cI cB cS cRI cRB q1 u1 ++ (wIX0 cI cB cS cRI cRB q0 u0 ++ ([]))))))) 79 1756 := by
  refine io_aload_n C dX7_init_141 1 rfl ?_
  refine io_getf C 0 rfl rfl inlX7 7 (by decide) wd_40 rfl rfl dX7_init_142 ?_
  refine io_iload_n C dX7_init_145 0 rfl ?_
  refine io_bipush C (v := 10) dX7_init_146 (by decide) ?_
  refine io_iast C (F1 := [(h0, .inr (7, [.ref q0, .ref q1, .ref q2, .ref q3, .ref q4, .ref q5, .ref q6, .ref q7, .ref q8, .ref q9, .ref q10, .int 0])), (q6, .inl (cS, 4, .inr (.inr (.inr (.inr (fun _ => none)))))), (q7, .inl (cI, 12, .inl (upd fq7 8 10))), (q8, .inl (cI, 12, .inl (fun _ => 0))), (q9, .inl (cI, 4, .inl fq9)), (q10, .inl (cI, 24, .inl (fun _ => 0)))]) 2 0 rfl rfl (la_ix_in rfl) (j := 8) (by decide) rfl dX7_init_148 ?_
  refine io_iinc C (v := 9) dX7_init_149 0 rfl (by decide) (by decide) rfl ?_
  refine io_goto C (tgt := 135) dX7_init_152 (by decide) ?_
  refine io_iload_n C dX7_init_135 0 rfl ?_
  refine io_bipush C (v := 12) dX7_init_136 (by decide) ?_
  refine io_geF C 155 dX7_init_138 (by decide) (by decide) ?_
  refine io_aload_n C dX7_init_141 1 rfl ?_
  refine io_getf C 0 rfl rfl inlX7 7 (by decide) wd_40 rfl rfl dX7_init_142 ?_
  refine io_iload_n C dX7_init_145 0 rfl ?_
  refine io_bipush C (v := 10) dX7_init_146 (by decide) ?_
  refine io_iast C (F1 := [(h0, .inr (7, [.ref q0, .ref q1, .ref q2, .ref q3, .ref q4, .ref q5, .ref q6, .ref q7, .ref q8, .ref q9, .ref q10, .int 0])), (q6, .inl (cS, 4, .inr (.inr (.inr (.inr (fun _ => none)))))), (q7, .inl (cI, 12, .inl (upd (upd fq7 8 10) 9 10))), (q8, .inl (cI, 12, .inl (fun _ => 0))), (q9, .inl (cI, 4, .inl fq9)), (q10, .inl (cI, 24, .inl (fun _ => 0)))]) 2 0 rfl rfl (la_ix_in rfl) (j := 9) (by decide) rfl dX7_init_148 ?_
  refine io_iinc C (v := 10) dX7_init_149 0 rfl (by decide) (by decide) rfl ?_
  refine io_goto C (tgt := 135) dX7_init_152 (by decide) ?_
  refine io_iload_n C dX7_init_135 0 rfl ?_
  refine io_bipush C (v := 12) dX7_init_136 (by decide) ?_
  refine io_geF C 155 dX7_init_138 (by decide) (by decide) ?_
  refine io_aload_n C dX7_init_141 1 rfl ?_
  refine io_getf C 0 rfl rfl inlX7 7 (by decide) wd_40 rfl rfl dX7_init_142 ?_
  refine io_iload_n C dX7_init_145 0 rfl ?_
  refine io_bipush C (v := 10) dX7_init_146 (by decide) ?_
  refine io_iast C (F1 := [(h0, .inr (7, [.ref q0, .ref q1, .ref q2, .ref q3, .ref q4, .ref q5, .ref q6, .ref q7, .ref q8, .ref q9, .ref q10, .int 0])), (q6, .inl (cS, 4, .inr (.inr (.inr (.inr (fun _ => none)))))), (q7, .inl (cI, 12, .inl (upd (upd (upd fq7 8 10) 9 10) 10 10))), (q8, .inl (cI, 12, .inl (fun _ => 0))), (q9, .inl (cI, 4, .inl fq9)), (q10, .inl (cI, 24, .inl (fun _ => 0)))]) 2 0 rfl rfl (la_ix_in rfl) (j := 10) (by decide) rfl dX7_init_148 ?_
  refine io_iinc C (v := 11) dX7_init_149 0 rfl (by decide) (by decide) rfl ?_
  refine io_goto C (tgt := 135) dX7_init_152 (by decide) ?_
  refine io_iload_n C dX7_init_135 0 rfl ?_
  refine io_bipush C (v := 12) dX7_init_136 (by decide) ?_
  refine io_geF C 155 dX7_init_138 (by decide) (by decide) ?_
  exact k
set_option maxRecDepth 100000 in
theorem iX7_s6 {l : Launch} {D : va_G} {cI cB cS cRI cRB : ClassId} {h0 q0 q1 q2 q3 q4 q5 q6 q7 q8 q9 q10 : Nat} {Ω : Nat → List (Nat × Value) → List Value → va_W → va_W → Nat → Nat → Prop} (C : io_C D [(cI, .int), (cB, .byte), (cS, .object "LineCaster$Sheet"), (cRI, .array .int), (cRB, .array .byte)] l rmIX7 RX7 cX7_init 2 [(h0, .inr (7, [.null, .null, .null, .null, .null, .null, .null, .null, .null, .null, .null, .int 0]))] (fun u : Nat → Nat => la_cells ((fun u : Nat → Nat => LC ((cI, cB, cS, cRI, cRB), u, D)) u) muX7) (fun u : Nat → Nat => u 0 = h0) 87 1932 Ω) (u0 : Nat → Nat) (u1 : (Nat → Nat) × (Nat → Nat)) (u2 : Nat → Nat) (u3 : Nat → Nat) (u4 : (Nat → Nat) × (Nat → Nat)) (u5 : Nat → Nat) (fq7 : Nat → Int32) (fq9 : Nat → Int32) (k : Ω 170 [(1, .int 1), (0, .ref h0)] [] [(h0, .inr (7, [.ref q0, .ref q1, .ref q2, .ref q3, .ref q4, .ref q5, .ref q6, .ref q7, .ref q8, .ref q9, .ref q10, .int 0])), (q6, .inl (cS, 4, .inr (.inr (.inr (.inr (fun _ => none)))))), (q7, .inl (cI, 12, .inl (upd fq7 11 10))), (q8, .inl (cI, 12, .inl (upd (upd (fun _ => 0) 0 0) 1 1))), (q9, .inl (cI, 4, .inl fq9)), (q10, .inl (cI, 24, .inl (fun _ => 0)))] (wIX6 cI cB cS cRI cRB q5 u5 ++ (wIX4 cI cB cS cRI cRB q4 u4 ++ (wIX1 cI cB cS cRI cRB q3 u3 ++ (wIX2 cI cB cS cRI cRB q2 u2 ++ (wIX5 cI cB cS cRI cRB q1 u1 ++ (wIX0 cI cB cS cRI cRB q0 u0 ++ ([]))))))) 79 1756) : Ω 141 [(1, .int 11), (0, .ref h0)] [] [(h0, .inr (7, [.ref q0, .ref q1, .ref q2, .ref q3, .ref q4, .ref q5, .ref q6, .ref q7, .ref q8, .ref q9, .ref q10, .int 0])), (q6, .inl (cS, 4, .inr (.inr (.inr (.inr (fun _ => none)))))), (q7, .inl (cI, 12, .inl fq7)), (q8, .inl (cI, 12, .inl (fun _ => 0))), (q9, .inl (cI, 4, .inl fq9)), (q10, .inl (cI, 24, .inl (fun _ => 0)))] (wIX6 cI cB cS cRI cRB q5 u5 ++ (wIX4 cI cB cS cRI cRB q4 u4 ++ (wIX1 cI cB cS cRI cRB q3 u3 ++ (wIX2 cI cB cS cRI cRB q2 u2 ++ (wIX5 cI cB cS cRI cRB q1 u1 ++ (wIX0 cI cB cS cRI cRB q0 u0 ++ ([]))))))) 79 1756 := by
  refine io_aload_n C dX7_init_141 1 rfl ?_
  refine io_getf C 0 rfl rfl inlX7 7 (by decide) wd_40 rfl rfl dX7_init_142 ?_
  refine io_iload_n C dX7_init_145 0 rfl ?_
  refine io_bipush C (v := 10) dX7_init_146 (by decide) ?_
  refine io_iast C (F1 := [(h0, .inr (7, [.ref q0, .ref q1, .ref q2, .ref q3, .ref q4, .ref q5, .ref q6, .ref q7, .ref q8, .ref q9, .ref q10, .int 0])), (q6, .inl (cS, 4, .inr (.inr (.inr (.inr (fun _ => none)))))), (q7, .inl (cI, 12, .inl (upd fq7 11 10))), (q8, .inl (cI, 12, .inl (fun _ => 0))), (q9, .inl (cI, 4, .inl fq9)), (q10, .inl (cI, 24, .inl (fun _ => 0)))]) 2 0 rfl rfl (la_ix_in rfl) (j := 11) (by decide) rfl dX7_init_148 ?_
  refine io_iinc C (v := 12) dX7_init_149 0 rfl (by decide) (by decide) rfl ?_
  refine io_goto C (tgt := 135) dX7_init_152 (by decide) ?_
  refine io_iload_n C dX7_init_135 0 rfl ?_
  refine io_bipush C (v := 12) dX7_init_136 (by decide) ?_
  refine io_geT C (tgt := 155) dX7_init_138 (by decide) (by decide) ?_
  refine io_iconst C (v := 0) dX7_init_155 (by decide) ?_
  refine io_istore_n C dX7_init_156 (by decide) rfl ?_
  refine io_iload_n C dX7_init_157 0 rfl ?_
  refine io_bipush C (v := 12) dX7_init_158 (by decide) ?_
  refine io_geF C 176 dX7_init_160 (by decide) (by decide) ?_
  refine io_aload_n C dX7_init_163 1 rfl ?_
  refine io_getf C 0 rfl rfl inlX7 8 (by decide) wd_41 rfl rfl dX7_init_164 ?_
  refine io_iload_n C dX7_init_167 0 rfl ?_
  refine io_iload_n C dX7_init_168 0 rfl ?_
  refine io_iast C (F1 := [(h0, .inr (7, [.ref q0, .ref q1, .ref q2, .ref q3, .ref q4, .ref q5, .ref q6, .ref q7, .ref q8, .ref q9, .ref q10, .int 0])), (q6, .inl (cS, 4, .inr (.inr (.inr (.inr (fun _ => none)))))), (q7, .inl (cI, 12, .inl (upd fq7 11 10))), (q8, .inl (cI, 12, .inl (upd (fun _ => 0) 0 0))), (q9, .inl (cI, 4, .inl fq9)), (q10, .inl (cI, 24, .inl (fun _ => 0)))]) 3 0 rfl rfl (la_ix_in rfl) (j := 0) (by decide) rfl dX7_init_169 ?_
  refine io_iinc C (v := 1) dX7_init_170 0 rfl (by decide) (by decide) rfl ?_
  refine io_goto C (tgt := 157) dX7_init_173 (by decide) ?_
  refine io_iload_n C dX7_init_157 0 rfl ?_
  refine io_bipush C (v := 12) dX7_init_158 (by decide) ?_
  refine io_geF C 176 dX7_init_160 (by decide) (by decide) ?_
  refine io_aload_n C dX7_init_163 1 rfl ?_
  refine io_getf C 0 rfl rfl inlX7 8 (by decide) wd_41 rfl rfl dX7_init_164 ?_
  refine io_iload_n C dX7_init_167 0 rfl ?_
  refine io_iload_n C dX7_init_168 0 rfl ?_
  refine io_iast C (F1 := [(h0, .inr (7, [.ref q0, .ref q1, .ref q2, .ref q3, .ref q4, .ref q5, .ref q6, .ref q7, .ref q8, .ref q9, .ref q10, .int 0])), (q6, .inl (cS, 4, .inr (.inr (.inr (.inr (fun _ => none)))))), (q7, .inl (cI, 12, .inl (upd fq7 11 10))), (q8, .inl (cI, 12, .inl (upd (upd (fun _ => 0) 0 0) 1 1))), (q9, .inl (cI, 4, .inl fq9)), (q10, .inl (cI, 24, .inl (fun _ => 0)))]) 3 0 rfl rfl (la_ix_in rfl) (j := 1) (by decide) rfl dX7_init_169 ?_
  exact k
set_option maxRecDepth 100000 in
theorem iX7_s7 {l : Launch} {D : va_G} {cI cB cS cRI cRB : ClassId} {h0 q0 q1 q2 q3 q4 q5 q6 q7 q8 q9 q10 : Nat} {Ω : Nat → List (Nat × Value) → List Value → va_W → va_W → Nat → Nat → Prop} (C : io_C D [(cI, .int), (cB, .byte), (cS, .object "LineCaster$Sheet"), (cRI, .array .int), (cRB, .array .byte)] l rmIX7 RX7 cX7_init 2 [(h0, .inr (7, [.null, .null, .null, .null, .null, .null, .null, .null, .null, .null, .null, .int 0]))] (fun u : Nat → Nat => la_cells ((fun u : Nat → Nat => LC ((cI, cB, cS, cRI, cRB), u, D)) u) muX7) (fun u : Nat → Nat => u 0 = h0) 87 1932 Ω) (u0 : Nat → Nat) (u1 : (Nat → Nat) × (Nat → Nat)) (u2 : Nat → Nat) (u3 : Nat → Nat) (u4 : (Nat → Nat) × (Nat → Nat)) (u5 : Nat → Nat) (fq7 : Nat → Int32) (fq8 : Nat → Int32) (fq9 : Nat → Int32) (k : Ω 170 [(1, .int 4), (0, .ref h0)] [] [(h0, .inr (7, [.ref q0, .ref q1, .ref q2, .ref q3, .ref q4, .ref q5, .ref q6, .ref q7, .ref q8, .ref q9, .ref q10, .int 0])), (q6, .inl (cS, 4, .inr (.inr (.inr (.inr (fun _ => none)))))), (q7, .inl (cI, 12, .inl fq7)), (q8, .inl (cI, 12, .inl (upd (upd (upd fq8 2 2) 3 3) 4 4))), (q9, .inl (cI, 4, .inl fq9)), (q10, .inl (cI, 24, .inl (fun _ => 0)))] (wIX6 cI cB cS cRI cRB q5 u5 ++ (wIX4 cI cB cS cRI cRB q4 u4 ++ (wIX1 cI cB cS cRI cRB q3 u3 ++ (wIX2 cI cB cS cRI cRB q2 u2 ++ (wIX5 cI cB cS cRI cRB q1 u1 ++ (wIX0 cI cB cS cRI cRB q0 u0 ++ ([]))))))) 79 1756) : Ω 170 [(1, .int 1), (0, .ref h0)] [] [(h0, .inr (7, [.ref q0, .ref q1, .ref q2, .ref q3, .ref q4, .ref q5, .ref q6, .ref q7, .ref q8, .ref q9, .ref q10, .int 0])), (q6, .inl (cS, 4, .inr (.inr (.inr (.inr (fun _ => none)))))), (q7, .inl (cI, 12, .inl fq7)), (q8, .inl (cI, 12, .inl fq8)), (q9, .inl (cI, 4, .inl fq9)), (q10, .inl (cI, 24, .inl (fun _ => 0)))] (wIX6 cI cB cS cRI cRB q5 u5 ++ (wIX4 cI cB cS cRI cRB q4 u4 ++ (wIX1 cI cB cS cRI cRB q3 u3 ++ (wIX2 cI cB cS cRI cRB q2 u2 ++ (wIX5 cI cB cS cRI cRB q1 u1 ++ (wIX0 cI cB cS cRI cRB q0 u0 ++ ([]))))))) 79 1756 := by
  refine io_iinc C (v := 2) dX7_init_170 0 rfl (by decide) (by decide) rfl ?_
  refine io_goto C (tgt := 157) dX7_init_173 (by decide) ?_
  refine io_iload_n C dX7_init_157 0 rfl ?_
  refine io_bipush C (v := 12) dX7_init_158 (by decide) ?_
  refine io_geF C 176 dX7_init_160 (by decide) (by decide) ?_
  refine io_aload_n C dX7_init_163 1 rfl ?_
  refine io_getf C 0 rfl rfl inlX7 8 (by decide) wd_41 rfl rfl dX7_init_164 ?_
  refine io_iload_n C dX7_init_167 0 rfl ?_
  refine io_iload_n C dX7_init_168 0 rfl ?_
  refine io_iast C (F1 := [(h0, .inr (7, [.ref q0, .ref q1, .ref q2, .ref q3, .ref q4, .ref q5, .ref q6, .ref q7, .ref q8, .ref q9, .ref q10, .int 0])), (q6, .inl (cS, 4, .inr (.inr (.inr (.inr (fun _ => none)))))), (q7, .inl (cI, 12, .inl fq7)), (q8, .inl (cI, 12, .inl (upd fq8 2 2))), (q9, .inl (cI, 4, .inl fq9)), (q10, .inl (cI, 24, .inl (fun _ => 0)))]) 3 0 rfl rfl (la_ix_in rfl) (j := 2) (by decide) rfl dX7_init_169 ?_
  refine io_iinc C (v := 3) dX7_init_170 0 rfl (by decide) (by decide) rfl ?_
  refine io_goto C (tgt := 157) dX7_init_173 (by decide) ?_
  refine io_iload_n C dX7_init_157 0 rfl ?_
  refine io_bipush C (v := 12) dX7_init_158 (by decide) ?_
  refine io_geF C 176 dX7_init_160 (by decide) (by decide) ?_
  refine io_aload_n C dX7_init_163 1 rfl ?_
  refine io_getf C 0 rfl rfl inlX7 8 (by decide) wd_41 rfl rfl dX7_init_164 ?_
  refine io_iload_n C dX7_init_167 0 rfl ?_
  refine io_iload_n C dX7_init_168 0 rfl ?_
  refine io_iast C (F1 := [(h0, .inr (7, [.ref q0, .ref q1, .ref q2, .ref q3, .ref q4, .ref q5, .ref q6, .ref q7, .ref q8, .ref q9, .ref q10, .int 0])), (q6, .inl (cS, 4, .inr (.inr (.inr (.inr (fun _ => none)))))), (q7, .inl (cI, 12, .inl fq7)), (q8, .inl (cI, 12, .inl (upd (upd fq8 2 2) 3 3))), (q9, .inl (cI, 4, .inl fq9)), (q10, .inl (cI, 24, .inl (fun _ => 0)))]) 3 0 rfl rfl (la_ix_in rfl) (j := 3) (by decide) rfl dX7_init_169 ?_
  refine io_iinc C (v := 4) dX7_init_170 0 rfl (by decide) (by decide) rfl ?_
  refine io_goto C (tgt := 157) dX7_init_173 (by decide) ?_
  refine io_iload_n C dX7_init_157 0 rfl ?_
  refine io_bipush C (v := 12) dX7_init_158 (by decide) ?_
  refine io_geF C 176 dX7_init_160 (by decide) (by decide) ?_
  refine io_aload_n C dX7_init_163 1 rfl ?_
  refine io_getf C 0 rfl rfl inlX7 8 (by decide) wd_41 rfl rfl dX7_init_164 ?_
  refine io_iload_n C dX7_init_167 0 rfl ?_
  refine io_iload_n C dX7_init_168 0 rfl ?_
  refine io_iast C (F1 := [(h0, .inr (7, [.ref q0, .ref q1, .ref q2, .ref q3, .ref q4, .ref q5, .ref q6, .ref q7, .ref q8, .ref q9, .ref q10, .int 0])), (q6, .inl (cS, 4, .inr (.inr (.inr (.inr (fun _ => none)))))), (q7, .inl (cI, 12, .inl fq7)), (q8, .inl (cI, 12, .inl (upd (upd (upd fq8 2 2) 3 3) 4 4))), (q9, .inl (cI, 4, .inl fq9)), (q10, .inl (cI, 24, .inl (fun _ => 0)))]) 3 0 rfl rfl (la_ix_in rfl) (j := 4) (by decide) rfl dX7_init_169 ?_
  exact k
set_option maxRecDepth 100000 in
theorem iX7_s8 {l : Launch} {D : va_G} {cI cB cS cRI cRB : ClassId} {h0 q0 q1 q2 q3 q4 q5 q6 q7 q8 q9 q10 : Nat} {Ω : Nat → List (Nat × Value) → List Value → va_W → va_W → Nat → Nat → Prop} (C : io_C D [(cI, .int), (cB, .byte), (cS, .object "LineCaster$Sheet"), (cRI, .array .int), (cRB, .array .byte)] l rmIX7 RX7 cX7_init 2 [(h0, .inr (7, [.null, .null, .null, .null, .null, .null, .null, .null, .null, .null, .null, .int 0]))] (fun u : Nat → Nat => la_cells ((fun u : Nat → Nat => LC ((cI, cB, cS, cRI, cRB), u, D)) u) muX7) (fun u : Nat → Nat => u 0 = h0) 87 1932 Ω) (u0 : Nat → Nat) (u1 : (Nat → Nat) × (Nat → Nat)) (u2 : Nat → Nat) (u3 : Nat → Nat) (u4 : (Nat → Nat) × (Nat → Nat)) (u5 : Nat → Nat) (fq7 : Nat → Int32) (fq8 : Nat → Int32) (fq9 : Nat → Int32) (k : Ω 170 [(1, .int 7), (0, .ref h0)] [] [(h0, .inr (7, [.ref q0, .ref q1, .ref q2, .ref q3, .ref q4, .ref q5, .ref q6, .ref q7, .ref q8, .ref q9, .ref q10, .int 0])), (q6, .inl (cS, 4, .inr (.inr (.inr (.inr (fun _ => none)))))), (q7, .inl (cI, 12, .inl fq7)), (q8, .inl (cI, 12, .inl (upd (upd (upd fq8 5 5) 6 6) 7 7))), (q9, .inl (cI, 4, .inl fq9)), (q10, .inl (cI, 24, .inl (fun _ => 0)))] (wIX6 cI cB cS cRI cRB q5 u5 ++ (wIX4 cI cB cS cRI cRB q4 u4 ++ (wIX1 cI cB cS cRI cRB q3 u3 ++ (wIX2 cI cB cS cRI cRB q2 u2 ++ (wIX5 cI cB cS cRI cRB q1 u1 ++ (wIX0 cI cB cS cRI cRB q0 u0 ++ ([]))))))) 79 1756) : Ω 170 [(1, .int 4), (0, .ref h0)] [] [(h0, .inr (7, [.ref q0, .ref q1, .ref q2, .ref q3, .ref q4, .ref q5, .ref q6, .ref q7, .ref q8, .ref q9, .ref q10, .int 0])), (q6, .inl (cS, 4, .inr (.inr (.inr (.inr (fun _ => none)))))), (q7, .inl (cI, 12, .inl fq7)), (q8, .inl (cI, 12, .inl fq8)), (q9, .inl (cI, 4, .inl fq9)), (q10, .inl (cI, 24, .inl (fun _ => 0)))] (wIX6 cI cB cS cRI cRB q5 u5 ++ (wIX4 cI cB cS cRI cRB q4 u4 ++ (wIX1 cI cB cS cRI cRB q3 u3 ++ (wIX2 cI cB cS cRI cRB q2 u2 ++ (wIX5 cI cB cS cRI cRB q1 u1 ++ (wIX0 cI cB cS cRI cRB q0 u0 ++ ([]))))))) 79 1756 := by
  refine io_iinc C (v := 5) dX7_init_170 0 rfl (by decide) (by decide) rfl ?_
  refine io_goto C (tgt := 157) dX7_init_173 (by decide) ?_
  refine io_iload_n C dX7_init_157 0 rfl ?_
  refine io_bipush C (v := 12) dX7_init_158 (by decide) ?_
  refine io_geF C 176 dX7_init_160 (by decide) (by decide) ?_
  refine io_aload_n C dX7_init_163 1 rfl ?_
  refine io_getf C 0 rfl rfl inlX7 8 (by decide) wd_41 rfl rfl dX7_init_164 ?_
  refine io_iload_n C dX7_init_167 0 rfl ?_
  refine io_iload_n C dX7_init_168 0 rfl ?_
  refine io_iast C (F1 := [(h0, .inr (7, [.ref q0, .ref q1, .ref q2, .ref q3, .ref q4, .ref q5, .ref q6, .ref q7, .ref q8, .ref q9, .ref q10, .int 0])), (q6, .inl (cS, 4, .inr (.inr (.inr (.inr (fun _ => none)))))), (q7, .inl (cI, 12, .inl fq7)), (q8, .inl (cI, 12, .inl (upd fq8 5 5))), (q9, .inl (cI, 4, .inl fq9)), (q10, .inl (cI, 24, .inl (fun _ => 0)))]) 3 0 rfl rfl (la_ix_in rfl) (j := 5) (by decide) rfl dX7_init_169 ?_
  refine io_iinc C (v := 6) dX7_init_170 0 rfl (by decide) (by decide) rfl ?_
  refine io_goto C (tgt := 157) dX7_init_173 (by decide) ?_
  refine io_iload_n C dX7_init_157 0 rfl ?_
  refine io_bipush C (v := 12) dX7_init_158 (by decide) ?_
  refine io_geF C 176 dX7_init_160 (by decide) (by decide) ?_
  refine io_aload_n C dX7_init_163 1 rfl ?_
  refine io_getf C 0 rfl rfl inlX7 8 (by decide) wd_41 rfl rfl dX7_init_164 ?_
  refine io_iload_n C dX7_init_167 0 rfl ?_
  refine io_iload_n C dX7_init_168 0 rfl ?_
  refine io_iast C (F1 := [(h0, .inr (7, [.ref q0, .ref q1, .ref q2, .ref q3, .ref q4, .ref q5, .ref q6, .ref q7, .ref q8, .ref q9, .ref q10, .int 0])), (q6, .inl (cS, 4, .inr (.inr (.inr (.inr (fun _ => none)))))), (q7, .inl (cI, 12, .inl fq7)), (q8, .inl (cI, 12, .inl (upd (upd fq8 5 5) 6 6))), (q9, .inl (cI, 4, .inl fq9)), (q10, .inl (cI, 24, .inl (fun _ => 0)))]) 3 0 rfl rfl (la_ix_in rfl) (j := 6) (by decide) rfl dX7_init_169 ?_
  refine io_iinc C (v := 7) dX7_init_170 0 rfl (by decide) (by decide) rfl ?_
  refine io_goto C (tgt := 157) dX7_init_173 (by decide) ?_
  refine io_iload_n C dX7_init_157 0 rfl ?_
  refine io_bipush C (v := 12) dX7_init_158 (by decide) ?_
  refine io_geF C 176 dX7_init_160 (by decide) (by decide) ?_
  refine io_aload_n C dX7_init_163 1 rfl ?_
  refine io_getf C 0 rfl rfl inlX7 8 (by decide) wd_41 rfl rfl dX7_init_164 ?_
  refine io_iload_n C dX7_init_167 0 rfl ?_
  refine io_iload_n C dX7_init_168 0 rfl ?_
  refine io_iast C (F1 := [(h0, .inr (7, [.ref q0, .ref q1, .ref q2, .ref q3, .ref q4, .ref q5, .ref q6, .ref q7, .ref q8, .ref q9, .ref q10, .int 0])), (q6, .inl (cS, 4, .inr (.inr (.inr (.inr (fun _ => none)))))), (q7, .inl (cI, 12, .inl fq7)), (q8, .inl (cI, 12, .inl (upd (upd (upd fq8 5 5) 6 6) 7 7))), (q9, .inl (cI, 4, .inl fq9)), (q10, .inl (cI, 24, .inl (fun _ => 0)))]) 3 0 rfl rfl (la_ix_in rfl) (j := 7) (by decide) rfl dX7_init_169 ?_
  exact k
set_option maxRecDepth 100000 in
theorem iX7_s9 {l : Launch} {D : va_G} {cI cB cS cRI cRB : ClassId} {h0 q0 q1 q2 q3 q4 q5 q6 q7 q8 q9 q10 : Nat} {Ω : Nat → List (Nat × Value) → List Value → va_W → va_W → Nat → Nat → Prop} (C : io_C D [(cI, .int), (cB, .byte), (cS, .object "LineCaster$Sheet"), (cRI, .array .int), (cRB, .array .byte)] l rmIX7 RX7 cX7_init 2 [(h0, .inr (7, [.null, .null, .null, .null, .null, .null, .null, .null, .null, .null, .null, .int 0]))] (fun u : Nat → Nat => la_cells ((fun u : Nat → Nat => LC ((cI, cB, cS, cRI, cRB), u, D)) u) muX7) (fun u : Nat → Nat => u 0 = h0) 87 1932 Ω) (u0 : Nat → Nat) (u1 : (Nat → Nat) × (Nat → Nat)) (u2 : Nat → Nat) (u3 : Nat → Nat) (u4 : (Nat → Nat) × (Nat → Nat)) (u5 : Nat → Nat) (fq7 : Nat → Int32) (fq8 : Nat → Int32) (fq9 : Nat → Int32) (k : Ω 170 [(1, .int 10), (0, .ref h0)] [] [(h0, .inr (7, [.ref q0, .ref q1, .ref q2, .ref q3, .ref q4, .ref q5, .ref q6, .ref q7, .ref q8, .ref q9, .ref q10, .int 0])), (q6, .inl (cS, 4, .inr (.inr (.inr (.inr (fun _ => none)))))), (q7, .inl (cI, 12, .inl fq7)), (q8, .inl (cI, 12, .inl (upd (upd (upd fq8 8 8) 9 9) 10 10))), (q9, .inl (cI, 4, .inl fq9)), (q10, .inl (cI, 24, .inl (fun _ => 0)))] (wIX6 cI cB cS cRI cRB q5 u5 ++ (wIX4 cI cB cS cRI cRB q4 u4 ++ (wIX1 cI cB cS cRI cRB q3 u3 ++ (wIX2 cI cB cS cRI cRB q2 u2 ++ (wIX5 cI cB cS cRI cRB q1 u1 ++ (wIX0 cI cB cS cRI cRB q0 u0 ++ ([]))))))) 79 1756) : Ω 170 [(1, .int 7), (0, .ref h0)] [] [(h0, .inr (7, [.ref q0, .ref q1, .ref q2, .ref q3, .ref q4, .ref q5, .ref q6, .ref q7, .ref q8, .ref q9, .ref q10, .int 0])), (q6, .inl (cS, 4, .inr (.inr (.inr (.inr (fun _ => none)))))), (q7, .inl (cI, 12, .inl fq7)), (q8, .inl (cI, 12, .inl fq8)), (q9, .inl (cI, 4, .inl fq9)), (q10, .inl (cI, 24, .inl (fun _ => 0)))] (wIX6 cI cB cS cRI cRB q5 u5 ++ (wIX4 cI cB cS cRI cRB q4 u4 ++ (wIX1 cI cB cS cRI cRB q3 u3 ++ (wIX2 cI cB cS cRI cRB q2 u2 ++ (wIX5 cI cB cS cRI cRB q1 u1 ++ (wIX0 cI cB cS cRI cRB q0 u0 ++ ([]))))))) 79 1756 := by
  refine io_iinc C (v := 8) dX7_init_170 0 rfl (by decide) (by decide) rfl ?_
  refine io_goto C (tgt := 157) dX7_init_173 (by decide) ?_
  refine io_iload_n C dX7_init_157 0 rfl ?_
  refine io_bipush C (v := 12) dX7_init_158 (by decide) ?_
  refine io_geF C 176 dX7_init_160 (by decide) (by decide) ?_
  refine io_aload_n C dX7_init_163 1 rfl ?_
  refine io_getf C 0 rfl rfl inlX7 8 (by decide) wd_41 rfl rfl dX7_init_164 ?_
  refine io_iload_n C dX7_init_167 0 rfl ?_
  refine io_iload_n C dX7_init_168 0 rfl ?_
  refine io_iast C (F1 := [(h0, .inr (7, [.ref q0, .ref q1, .ref q2, .ref q3, .ref q4, .ref q5, .ref q6, .ref q7, .ref q8, .ref q9, .ref q10, .int 0])), (q6, .inl (cS, 4, .inr (.inr (.inr (.inr (fun _ => none)))))), (q7, .inl (cI, 12, .inl fq7)), (q8, .inl (cI, 12, .inl (upd fq8 8 8))), (q9, .inl (cI, 4, .inl fq9)), (q10, .inl (cI, 24, .inl (fun _ => 0)))]) 3 0 rfl rfl (la_ix_in rfl) (j := 8) (by decide) rfl dX7_init_169 ?_
  refine io_iinc C (v := 9) dX7_init_170 0 rfl (by decide) (by decide) rfl ?_
  refine io_goto C (tgt := 157) dX7_init_173 (by decide) ?_
  refine io_iload_n C dX7_init_157 0 rfl ?_
  refine io_bipush C (v := 12) dX7_init_158 (by decide) ?_
  refine io_geF C 176 dX7_init_160 (by decide) (by decide) ?_
  refine io_aload_n C dX7_init_163 1 rfl ?_
  refine io_getf C 0 rfl rfl inlX7 8 (by decide) wd_41 rfl rfl dX7_init_164 ?_
  refine io_iload_n C dX7_init_167 0 rfl ?_
  refine io_iload_n C dX7_init_168 0 rfl ?_
  refine io_iast C (F1 := [(h0, .inr (7, [.ref q0, .ref q1, .ref q2, .ref q3, .ref q4, .ref q5, .ref q6, .ref q7, .ref q8, .ref q9, .ref q10, .int 0])), (q6, .inl (cS, 4, .inr (.inr (.inr (.inr (fun _ => none)))))), (q7, .inl (cI, 12, .inl fq7)), (q8, .inl (cI, 12, .inl (upd (upd fq8 8 8) 9 9))), (q9, .inl (cI, 4, .inl fq9)), (q10, .inl (cI, 24, .inl (fun _ => 0)))]) 3 0 rfl rfl (la_ix_in rfl) (j := 9) (by decide) rfl dX7_init_169 ?_
  refine io_iinc C (v := 10) dX7_init_170 0 rfl (by decide) (by decide) rfl ?_
  refine io_goto C (tgt := 157) dX7_init_173 (by decide) ?_
  refine io_iload_n C dX7_init_157 0 rfl ?_
  refine io_bipush C (v := 12) dX7_init_158 (by decide) ?_
  refine io_geF C 176 dX7_init_160 (by decide) (by decide) ?_
  refine io_aload_n C dX7_init_163 1 rfl ?_
  refine io_getf C 0 rfl rfl inlX7 8 (by decide) wd_41 rfl rfl dX7_init_164 ?_
  refine io_iload_n C dX7_init_167 0 rfl ?_
  refine io_iload_n C dX7_init_168 0 rfl ?_
  refine io_iast C (F1 := [(h0, .inr (7, [.ref q0, .ref q1, .ref q2, .ref q3, .ref q4, .ref q5, .ref q6, .ref q7, .ref q8, .ref q9, .ref q10, .int 0])), (q6, .inl (cS, 4, .inr (.inr (.inr (.inr (fun _ => none)))))), (q7, .inl (cI, 12, .inl fq7)), (q8, .inl (cI, 12, .inl (upd (upd (upd fq8 8 8) 9 9) 10 10))), (q9, .inl (cI, 4, .inl fq9)), (q10, .inl (cI, 24, .inl (fun _ => 0)))]) 3 0 rfl rfl (la_ix_in rfl) (j := 10) (by decide) rfl dX7_init_169 ?_
  exact k
set_option maxRecDepth 100000 in
theorem iX7_s10 {l : Launch} {D : va_G} {cI cB cS cRI cRB : ClassId} {h0 q0 q1 q2 q3 q4 q5 q6 q7 q8 q9 q10 : Nat} {Ω : Nat → List (Nat × Value) → List Value → va_W → va_W → Nat → Nat → Prop} (C : io_C D [(cI, .int), (cB, .byte), (cS, .object "LineCaster$Sheet"), (cRI, .array .int), (cRB, .array .byte)] l rmIX7 RX7 cX7_init 2 [(h0, .inr (7, [.null, .null, .null, .null, .null, .null, .null, .null, .null, .null, .null, .int 0]))] (fun u : Nat → Nat => la_cells ((fun u : Nat → Nat => LC ((cI, cB, cS, cRI, cRB), u, D)) u) muX7) (fun u : Nat → Nat => u 0 = h0) 87 1932 Ω) (u0 : Nat → Nat) (u1 : (Nat → Nat) × (Nat → Nat)) (u2 : Nat → Nat) (u3 : Nat → Nat) (u4 : (Nat → Nat) × (Nat → Nat)) (u5 : Nat → Nat) (fq7 : Nat → Int32) (fq8 : Nat → Int32) (fq9 : Nat → Int32) (k : ∀ (q11 : Nat) (u11 : Nat → Nat), Ω 183 [(1, .int 1), (0, .ref h0)] [] [(h0, .inr (7, [.ref q0, .ref q1, .ref q2, .ref q3, .ref q4, .ref q5, .ref q6, .ref q7, .ref q8, .ref q9, .ref q10, .int 0])), (q6, .inl (cS, 4, .inr (.inr (.inr (.inr (va_up (fun _ => none) 0 (some q11))))))), (q7, .inl (cI, 12, .inl fq7)), (q8, .inl (cI, 12, .inl (upd fq8 11 11))), (q9, .inl (cI, 4, .inl fq9)), (q10, .inl (cI, 24, .inl (fun _ => 0)))] (wIX3 cI cB cS cRI cRB q11 u11 ++ (wIX6 cI cB cS cRI cRB q5 u5 ++ (wIX4 cI cB cS cRI cRB q4 u4 ++ (wIX1 cI cB cS cRI cRB q3 u3 ++ (wIX2 cI cB cS cRI cRB q2 u2 ++ (wIX5 cI cB cS cRI cRB q1 u1 ++ (wIX0 cI cB cS cRI cRB q0 u0 ++ ([])))))))) 81 1800) : Ω 170 [(1, .int 10), (0, .ref h0)] [] [(h0, .inr (7, [.ref q0, .ref q1, .ref q2, .ref q3, .ref q4, .ref q5, .ref q6, .ref q7, .ref q8, .ref q9, .ref q10, .int 0])), (q6, .inl (cS, 4, .inr (.inr (.inr (.inr (fun _ => none)))))), (q7, .inl (cI, 12, .inl fq7)), (q8, .inl (cI, 12, .inl fq8)), (q9, .inl (cI, 4, .inl fq9)), (q10, .inl (cI, 24, .inl (fun _ => 0)))] (wIX6 cI cB cS cRI cRB q5 u5 ++ (wIX4 cI cB cS cRI cRB q4 u4 ++ (wIX1 cI cB cS cRI cRB q3 u3 ++ (wIX2 cI cB cS cRI cRB q2 u2 ++ (wIX5 cI cB cS cRI cRB q1 u1 ++ (wIX0 cI cB cS cRI cRB q0 u0 ++ ([]))))))) 79 1756 := by
  refine io_iinc C (v := 11) dX7_init_170 0 rfl (by decide) (by decide) rfl ?_
  refine io_goto C (tgt := 157) dX7_init_173 (by decide) ?_
  refine io_iload_n C dX7_init_157 0 rfl ?_
  refine io_bipush C (v := 12) dX7_init_158 (by decide) ?_
  refine io_geF C 176 dX7_init_160 (by decide) (by decide) ?_
  refine io_aload_n C dX7_init_163 1 rfl ?_
  refine io_getf C 0 rfl rfl inlX7 8 (by decide) wd_41 rfl rfl dX7_init_164 ?_
  refine io_iload_n C dX7_init_167 0 rfl ?_
  refine io_iload_n C dX7_init_168 0 rfl ?_
  refine io_iast C (F1 := [(h0, .inr (7, [.ref q0, .ref q1, .ref q2, .ref q3, .ref q4, .ref q5, .ref q6, .ref q7, .ref q8, .ref q9, .ref q10, .int 0])), (q6, .inl (cS, 4, .inr (.inr (.inr (.inr (fun _ => none)))))), (q7, .inl (cI, 12, .inl fq7)), (q8, .inl (cI, 12, .inl (upd fq8 11 11))), (q9, .inl (cI, 4, .inl fq9)), (q10, .inl (cI, 24, .inl (fun _ => 0)))]) 3 0 rfl rfl (la_ix_in rfl) (j := 11) (by decide) rfl dX7_init_169 ?_
  refine io_iinc C (v := 12) dX7_init_170 0 rfl (by decide) (by decide) rfl ?_
  refine io_goto C (tgt := 157) dX7_init_173 (by decide) ?_
  refine io_iload_n C dX7_init_157 0 rfl ?_
  refine io_bipush C (v := 12) dX7_init_158 (by decide) ?_
  refine io_geT C (tgt := 176) dX7_init_160 (by decide) (by decide) ?_
  refine io_iconst C (v := 0) dX7_init_176 (by decide) ?_
  refine io_istore_n C dX7_init_177 (by decide) rfl ?_
  refine io_iload_n C dX7_init_178 0 rfl ?_
  refine io_iconst C (v := 4) dX7_init_179 (by decide) ?_
  refine io_geF C 202 dX7_init_180 (by decide) (by decide) ?_
  refine io_aload_n C dX7_init_183 1 rfl ?_
  refine io_getf C 0 rfl rfl inlX7 6 (by decide) wd_38 rfl rfl dX7_init_184 ?_
  refine io_iload_n C dX7_init_187 0 rfl ?_
  refine io_new C (ci := 3) (fs := [.null, .int 0, .int 0, .int 0]) rfl inlX3 tyX3 tyX3_ok wd_37 wd_45 wd_46 (by decide) (Nat.le_of_ble_eq_true rfl) (Nat.le_of_ble_eq_true rfl) dX7_init_188 (fun q11 => ?_)
  refine io_dup C dX7_init_191 rfl ?_
  refine io_call C (G := [(h0, .inr (7, [.ref q0, .ref q1, .ref q2, .ref q3, .ref q4, .ref q5, .ref q6, .ref q7, .ref q8, .ref q9, .ref q10, .int 0])), (q6, .inl (cS, 4, .inr (.inr (.inr (.inr (fun _ => none)))))), (q7, .inl (cI, 12, .inl fq7)), (q8, .inl (cI, 12, .inl (upd fq8 11 11))), (q9, .inl (cI, 4, .inl fq9)), (q10, .inl (cI, 24, .inl (fun _ => 0)))]) (iX3 l D cI cB cS cRI cRB q11) (Or.inl ⟨"LineCaster", rfl, fun s h => h.2.2.2.2.2.2.2.2⟩) wd_94 wd_93 wd_46 rfl (by decide +kernel) ⟨by decide, by decide⟩ rfl rfl (Nat.le_of_ble_eq_true rfl) (Nat.le_of_ble_eq_true rfl) (Nat.le_of_ble_eq_true rfl) rfl dX7_init_192 (fun u11 _ => ?_)
  refine io_astq C (F1 := [(h0, .inr (7, [.ref q0, .ref q1, .ref q2, .ref q3, .ref q4, .ref q5, .ref q6, .ref q7, .ref q8, .ref q9, .ref q10, .int 0])), (q6, .inl (cS, 4, .inr (.inr (.inr (.inr (va_up (fun _ => none) 0 (some q11))))))), (q7, .inl (cI, 12, .inl fq7)), (q8, .inl (cI, 12, .inl (upd fq8 11 11))), (q9, .inl (cI, 4, .inl fq9)), (q10, .inl (cI, 24, .inl (fun _ => 0)))]) (r := (RX3, TX3, 4)) (ci := 3) 1 2 rfl rfl rfl rfl (la_ix_in rfl) (j := 0) (by decide) rfl dX7_init_195 ?_
  refine io_iinc C (v := 1) dX7_init_196 0 rfl (by decide) (by decide) rfl ?_
  refine io_goto C (tgt := 178) dX7_init_199 (by decide) ?_
  refine io_iload_n C dX7_init_178 0 rfl ?_
  refine io_iconst C (v := 4) dX7_init_179 (by decide) ?_
  refine io_geF C 202 dX7_init_180 (by decide) (by decide) ?_
  exact k q11 u11
set_option maxRecDepth 100000 in
theorem iX7_s11 {l : Launch} {D : va_G} {cI cB cS cRI cRB : ClassId} {h0 q0 q1 q2 q3 q4 q5 q6 q7 q8 q9 q10 q11 : Nat} {Ω : Nat → List (Nat × Value) → List Value → va_W → va_W → Nat → Nat → Prop} (C : io_C D [(cI, .int), (cB, .byte), (cS, .object "LineCaster$Sheet"), (cRI, .array .int), (cRB, .array .byte)] l rmIX7 RX7 cX7_init 2 [(h0, .inr (7, [.null, .null, .null, .null, .null, .null, .null, .null, .null, .null, .null, .int 0]))] (fun u : Nat → Nat => la_cells ((fun u : Nat → Nat => LC ((cI, cB, cS, cRI, cRB), u, D)) u) muX7) (fun u : Nat → Nat => u 0 = h0) 87 1932 Ω) (u0 : Nat → Nat) (u1 : (Nat → Nat) × (Nat → Nat)) (u2 : Nat → Nat) (u3 : Nat → Nat) (u4 : (Nat → Nat) × (Nat → Nat)) (u5 : Nat → Nat) (u11 : Nat → Nat) (gq6 : Nat → Option Nat) (fq7 : Nat → Int32) (fq8 : Nat → Int32) (fq9 : Nat → Int32) (k : ∀ (q12 : Nat) (u12 : Nat → Nat) (q13 : Nat) (u13 : Nat → Nat) (q14 : Nat) (u14 : Nat → Nat), Ω 196 [(1, .int 3), (0, .ref h0)] [] [(h0, .inr (7, [.ref q0, .ref q1, .ref q2, .ref q3, .ref q4, .ref q5, .ref q6, .ref q7, .ref q8, .ref q9, .ref q10, .int 0])), (q6, .inl (cS, 4, .inr (.inr (.inr (.inr (va_up (va_up (va_up gq6 1 (some q12)) 2 (some q13)) 3 (some q14))))))), (q7, .inl (cI, 12, .inl fq7)), (q8, .inl (cI, 12, .inl fq8)), (q9, .inl (cI, 4, .inl fq9)), (q10, .inl (cI, 24, .inl (fun _ => 0)))] (wIX3 cI cB cS cRI cRB q14 u14 ++ (wIX3 cI cB cS cRI cRB q13 u13 ++ (wIX3 cI cB cS cRI cRB q12 u12 ++ (wIX3 cI cB cS cRI cRB q11 u11 ++ (wIX6 cI cB cS cRI cRB q5 u5 ++ (wIX4 cI cB cS cRI cRB q4 u4 ++ (wIX1 cI cB cS cRI cRB q3 u3 ++ (wIX2 cI cB cS cRI cRB q2 u2 ++ (wIX5 cI cB cS cRI cRB q1 u1 ++ (wIX0 cI cB cS cRI cRB q0 u0 ++ ([]))))))))))) 87 1932) : Ω 183 [(1, .int 1), (0, .ref h0)] [] [(h0, .inr (7, [.ref q0, .ref q1, .ref q2, .ref q3, .ref q4, .ref q5, .ref q6, .ref q7, .ref q8, .ref q9, .ref q10, .int 0])), (q6, .inl (cS, 4, .inr (.inr (.inr (.inr gq6))))), (q7, .inl (cI, 12, .inl fq7)), (q8, .inl (cI, 12, .inl fq8)), (q9, .inl (cI, 4, .inl fq9)), (q10, .inl (cI, 24, .inl (fun _ => 0)))] (wIX3 cI cB cS cRI cRB q11 u11 ++ (wIX6 cI cB cS cRI cRB q5 u5 ++ (wIX4 cI cB cS cRI cRB q4 u4 ++ (wIX1 cI cB cS cRI cRB q3 u3 ++ (wIX2 cI cB cS cRI cRB q2 u2 ++ (wIX5 cI cB cS cRI cRB q1 u1 ++ (wIX0 cI cB cS cRI cRB q0 u0 ++ ([])))))))) 81 1800 := by
  refine io_aload_n C dX7_init_183 1 rfl ?_
  refine io_getf C 0 rfl rfl inlX7 6 (by decide) wd_38 rfl rfl dX7_init_184 ?_
  refine io_iload_n C dX7_init_187 0 rfl ?_
  refine io_new C (ci := 3) (fs := [.null, .int 0, .int 0, .int 0]) rfl inlX3 tyX3 tyX3_ok wd_37 wd_45 wd_46 (by decide) (Nat.le_of_ble_eq_true rfl) (Nat.le_of_ble_eq_true rfl) dX7_init_188 (fun q12 => ?_)
  refine io_dup C dX7_init_191 rfl ?_
  refine io_call C (G := [(h0, .inr (7, [.ref q0, .ref q1, .ref q2, .ref q3, .ref q4, .ref q5, .ref q6, .ref q7, .ref q8, .ref q9, .ref q10, .int 0])), (q6, .inl (cS, 4, .inr (.inr (.inr (.inr gq6))))), (q7, .inl (cI, 12, .inl fq7)), (q8, .inl (cI, 12, .inl fq8)), (q9, .inl (cI, 4, .inl fq9)), (q10, .inl (cI, 24, .inl (fun _ => 0)))]) (iX3 l D cI cB cS cRI cRB q12) (Or.inl ⟨"LineCaster", rfl, fun s h => h.2.2.2.2.2.2.2.2⟩) wd_94 wd_93 wd_46 rfl (by decide +kernel) ⟨by decide, by decide⟩ rfl rfl (Nat.le_of_ble_eq_true rfl) (Nat.le_of_ble_eq_true rfl) (Nat.le_of_ble_eq_true rfl) rfl dX7_init_192 (fun u12 _ => ?_)
  refine io_astq C (F1 := [(h0, .inr (7, [.ref q0, .ref q1, .ref q2, .ref q3, .ref q4, .ref q5, .ref q6, .ref q7, .ref q8, .ref q9, .ref q10, .int 0])), (q6, .inl (cS, 4, .inr (.inr (.inr (.inr (va_up gq6 1 (some q12))))))), (q7, .inl (cI, 12, .inl fq7)), (q8, .inl (cI, 12, .inl fq8)), (q9, .inl (cI, 4, .inl fq9)), (q10, .inl (cI, 24, .inl (fun _ => 0)))]) (r := (RX3, TX3, 4)) (ci := 3) 1 2 rfl rfl rfl rfl (la_ix_in rfl) (j := 1) (by decide) rfl dX7_init_195 ?_
  refine io_iinc C (v := 2) dX7_init_196 0 rfl (by decide) (by decide) rfl ?_
  refine io_goto C (tgt := 178) dX7_init_199 (by decide) ?_
  refine io_iload_n C dX7_init_178 0 rfl ?_
  refine io_iconst C (v := 4) dX7_init_179 (by decide) ?_
  refine io_geF C 202 dX7_init_180 (by decide) (by decide) ?_
  refine io_aload_n C dX7_init_183 1 rfl ?_
  refine io_getf C 0 rfl rfl inlX7 6 (by decide) wd_38 rfl rfl dX7_init_184 ?_
  refine io_iload_n C dX7_init_187 0 rfl ?_
  refine io_new C (ci := 3) (fs := [.null, .int 0, .int 0, .int 0]) rfl inlX3 tyX3 tyX3_ok wd_37 wd_45 wd_46 (by decide) (Nat.le_of_ble_eq_true rfl) (Nat.le_of_ble_eq_true rfl) dX7_init_188 (fun q13 => ?_)
  refine io_dup C dX7_init_191 rfl ?_
  refine io_call C (G := [(h0, .inr (7, [.ref q0, .ref q1, .ref q2, .ref q3, .ref q4, .ref q5, .ref q6, .ref q7, .ref q8, .ref q9, .ref q10, .int 0])), (q6, .inl (cS, 4, .inr (.inr (.inr (.inr (va_up gq6 1 (some q12))))))), (q7, .inl (cI, 12, .inl fq7)), (q8, .inl (cI, 12, .inl fq8)), (q9, .inl (cI, 4, .inl fq9)), (q10, .inl (cI, 24, .inl (fun _ => 0)))]) (iX3 l D cI cB cS cRI cRB q13) (Or.inl ⟨"LineCaster", rfl, fun s h => h.2.2.2.2.2.2.2.2⟩) wd_94 wd_93 wd_46 rfl (by decide +kernel) ⟨by decide, by decide⟩ rfl rfl (Nat.le_of_ble_eq_true rfl) (Nat.le_of_ble_eq_true rfl) (Nat.le_of_ble_eq_true rfl) rfl dX7_init_192 (fun u13 _ => ?_)
  refine io_astq C (F1 := [(h0, .inr (7, [.ref q0, .ref q1, .ref q2, .ref q3, .ref q4, .ref q5, .ref q6, .ref q7, .ref q8, .ref q9, .ref q10, .int 0])), (q6, .inl (cS, 4, .inr (.inr (.inr (.inr (va_up (va_up gq6 1 (some q12)) 2 (some q13))))))), (q7, .inl (cI, 12, .inl fq7)), (q8, .inl (cI, 12, .inl fq8)), (q9, .inl (cI, 4, .inl fq9)), (q10, .inl (cI, 24, .inl (fun _ => 0)))]) (r := (RX3, TX3, 4)) (ci := 3) 1 2 rfl rfl rfl rfl (la_ix_in rfl) (j := 2) (by decide) rfl dX7_init_195 ?_
  refine io_iinc C (v := 3) dX7_init_196 0 rfl (by decide) (by decide) rfl ?_
  refine io_goto C (tgt := 178) dX7_init_199 (by decide) ?_
  refine io_iload_n C dX7_init_178 0 rfl ?_
  refine io_iconst C (v := 4) dX7_init_179 (by decide) ?_
  refine io_geF C 202 dX7_init_180 (by decide) (by decide) ?_
  refine io_aload_n C dX7_init_183 1 rfl ?_
  refine io_getf C 0 rfl rfl inlX7 6 (by decide) wd_38 rfl rfl dX7_init_184 ?_
  refine io_iload_n C dX7_init_187 0 rfl ?_
  refine io_new C (ci := 3) (fs := [.null, .int 0, .int 0, .int 0]) rfl inlX3 tyX3 tyX3_ok wd_37 wd_45 wd_46 (by decide) (Nat.le_of_ble_eq_true rfl) (Nat.le_of_ble_eq_true rfl) dX7_init_188 (fun q14 => ?_)
  refine io_dup C dX7_init_191 rfl ?_
  refine io_call C (G := [(h0, .inr (7, [.ref q0, .ref q1, .ref q2, .ref q3, .ref q4, .ref q5, .ref q6, .ref q7, .ref q8, .ref q9, .ref q10, .int 0])), (q6, .inl (cS, 4, .inr (.inr (.inr (.inr (va_up (va_up gq6 1 (some q12)) 2 (some q13))))))), (q7, .inl (cI, 12, .inl fq7)), (q8, .inl (cI, 12, .inl fq8)), (q9, .inl (cI, 4, .inl fq9)), (q10, .inl (cI, 24, .inl (fun _ => 0)))]) (iX3 l D cI cB cS cRI cRB q14) (Or.inl ⟨"LineCaster", rfl, fun s h => h.2.2.2.2.2.2.2.2⟩) wd_94 wd_93 wd_46 rfl (by decide +kernel) ⟨by decide, by decide⟩ rfl rfl (Nat.le_of_ble_eq_true rfl) (Nat.le_of_ble_eq_true rfl) (Nat.le_of_ble_eq_true rfl) rfl dX7_init_192 (fun u14 _ => ?_)
  refine io_astq C (F1 := [(h0, .inr (7, [.ref q0, .ref q1, .ref q2, .ref q3, .ref q4, .ref q5, .ref q6, .ref q7, .ref q8, .ref q9, .ref q10, .int 0])), (q6, .inl (cS, 4, .inr (.inr (.inr (.inr (va_up (va_up (va_up gq6 1 (some q12)) 2 (some q13)) 3 (some q14))))))), (q7, .inl (cI, 12, .inl fq7)), (q8, .inl (cI, 12, .inl fq8)), (q9, .inl (cI, 4, .inl fq9)), (q10, .inl (cI, 24, .inl (fun _ => 0)))]) (r := (RX3, TX3, 4)) (ci := 3) 1 2 rfl rfl rfl rfl (la_ix_in rfl) (j := 3) (by decide) rfl dX7_init_195 ?_
  exact k q12 u12 q13 u13 q14 u14
set_option maxRecDepth 100000 in
set_option maxHeartbeats 4000000 in
theorem iX7 (l : Launch) (D : va_G) (cI cB cS cRI cRB : ClassId) (h0 : Nat) : io_M D [(cI, .int), (cB, .byte), (cS, .object "LineCaster$Sheet"), (cRI, .array .int), (cRB, .array .byte)] l yX7_init cX7_init 2 rmIX7 h0 [(h0, .inr (7, [.null, .null, .null, .null, .null, .null, .null, .null, .null, .null, .null, .int 0]))] (fun u => la_cells ((fun u : Nat → Nat => LC ((cI, cB, cS, cRI, cRB), u, D)) u) muX7) (fun u => u 0 = h0) 87 1932 := by
  refine io_of (own := RX7) (by decide) rfl rfl (Nat.le_of_ble_eq_true rfl) (fun Ω C => ?_)
  refine iX7_s0 C (fun q0 u0 q1 u1 q2 u2 q3 u3 q4 u4 q5 u5 => ?_)
  refine iX7_s1 C _ _ _ _ _ _ (fun q6 q7 q8 q9 => ?_)
  refine iX7_s2 C _ _ _ _ _ _ _ (fun q10 => ?_)
  refine iX7_s3 C _ _ _ _ _ _ _ _ ?_
  refine iX7_s4 C _ _ _ _ _ _ _ _ ?_
  refine iX7_s5 C _ _ _ _ _ _ _ _ ?_
  refine iX7_s6 C _ _ _ _ _ _ _ _ ?_
  refine iX7_s7 C _ _ _ _ _ _ _ _ _ ?_
  refine iX7_s8 C _ _ _ _ _ _ _ _ _ ?_
  refine iX7_s9 C _ _ _ _ _ _ _ _ _ ?_
  refine iX7_s10 C _ _ _ _ _ _ _ _ _ (fun q11 u11 => ?_)
  refine iX7_s11 C _ _ _ _ _ _ _ _ _ _ _ (fun q12 u12 q13 u13 q14 u14 => ?_)
  refine io_iinc C (v := 4) dX7_init_196 0 rfl (by decide) (by decide) rfl ?_
  refine io_goto C (tgt := 178) dX7_init_199 (by decide) ?_
  refine io_iload_n C dX7_init_178 0 rfl ?_
  refine io_iconst C (v := 4) dX7_init_179 (by decide) ?_
  refine io_geT C (tgt := 202) dX7_init_180 (by decide) (by decide) ?_
  refine io_retL (Yu := (fun u : Nat → Nat => LC ((cI, cB, cS, cRI, cRB), u, D))) C (fun k => if k < 36 then [h0, q0, (u0 0), (u0 1), q1, (u1.1 0), (u1.1 1), (u1.1 2), (u1.1 3), (u1.1 4), q2, (u2 0), (u2 1), (u2 2), q3, (u3 0), (u3 1), (u3 2), q4, (u4.1 0), (u4.1 1), q5, (u5 0), q6, q7, q8, q9, q10, q11, q12, q13, q14, (u11 0), (u12 0), (u13 0), (u14 0)].getD k 0 else if k < 48 then u1.2 (k - 36) else u4.2 (k - 48)) rfl [0, 85, 86, 87, 67, 68, 69, 70, 71, 72, 63, 64, 65, 66, 59, 60, 61, 62, 16, 17, 18, 14, 15, 1, 2, 3, 4, 5, 12, 10, 8, 6, 13, 11, 9, 7, 73, 74, 75, 76, 77, 78, 79, 80, 81, 82, 83, 84, 19, 20, 21, 22, 23, 24, 25, 26, 27, 28, 29, 30, 31, 32, 33, 34, 35, 36, 37, 38, 39, 40, 41, 42, 43, 44, 45, 46, 47, 48, 49, 50, 51, 52, 53, 54, 55, 56, 57, 58] (show ∀ i, i < 88 → ∀ j, j < 88 → ([0, 85, 86, 87, 67, 68, 69, 70, 71, 72, 63, 64, 65, 66, 59, 60, 61, 62, 16, 17, 18, 14, 15, 1, 2, 3, 4, 5, 12, 10, 8, 6, 13, 11, 9, 7, 73, 74, 75, 76, 77, 78, 79, 80, 81, 82, 83, 84, 19, 20, 21, 22, 23, 24, 25, 26, 27, 28, 29, 30, 31, 32, 33, 34, 35, 36, 37, 38, 39, 40, 41, 42, 43, 44, 45, 46, 47, 48, 49, 50, 51, 52, 53, 54, 55, 56, 57, 58] : List Nat).getD i 0 = ([0, 85, 86, 87, 67, 68, 69, 70, 71, 72, 63, 64, 65, 66, 59, 60, 61, 62, 16, 17, 18, 14, 15, 1, 2, 3, 4, 5, 12, 10, 8, 6, 13, 11, 9, 7, 73, 74, 75, 76, 77, 78, 79, 80, 81, 82, 83, 84, 19, 20, 21, 22, 23, 24, 25, 26, 27, 28, 29, 30, 31, 32, 33, 34, 35, 36, 37, 38, 39, 40, 41, 42, 43, 44, 45, 46, 47, 48, 49, 50, 51, 52, 53, 54, 55, 56, 57, 58] : List Nat).getD j 0 → i = j by decide +kernel) ?_ rfl rfl dX7_init_202
  intro k hk
  have hk : k < 88 := hk
  match k, hk with
  | 0, _ => rfl
  | 1, _ => rfl
  | 2, _ => rfl
  | 3, _ => rfl
  | 4, _ => rfl
  | 5, _ => rfl
  | 6, _ => rfl
  | 7, _ => rfl
  | 8, _ => exact congrArg (fun f => some (((u1.1 3) : Nat), (.inl (cRI, 12, .inr (.inr (.inr (.inr f)))) : va_E))) (funext fun i => by by_cases hi : i < 12 <;> simp [hi, show ¬ 36 + i < 36 by omega, show 36 + i < 48 ↔ i < 12 by omega])
  | 9, _ => rfl
  | 10, _ => rfl
  | 11, _ => rfl
  | 12, _ => rfl
  | 13, _ => rfl
  | 14, _ => rfl
  | 15, _ => rfl
  | 16, _ => rfl
  | 17, _ => rfl
  | 18, _ => rfl
  | 19, _ => exact congrArg (fun f => some (((u4.1 0) : Nat), (.inl (cRB, 40, .inr (.inr (.inr (.inr f)))) : va_E))) (funext fun i => by by_cases hi : i < 40 <;> simp [hi, show ¬ 48 + i < 36 by omega, show ¬ 48 + i < 48 by omega])
  | 20, _ => rfl
  | 21, _ => rfl
  | 22, _ => rfl
  | 23, _ => exact congrArg (fun f => some ((q6 : Nat), (.inl (cS, 4, .inr (.inr (.inr (.inr f)))) : va_E))) (funext fun i => by match i with | 0 => rfl | 1 => rfl | 2 => rfl | 3 => rfl | i + 4 => simp [va_up])
  | 24, _ => rfl
  | 25, _ => rfl
  | 26, _ => rfl
  | 27, _ => rfl
  | 28, _ => rfl
  | 29, _ => rfl
  | 30, _ => rfl
  | 31, _ => rfl
  | 32, _ => rfl
  | 33, _ => rfl
  | 34, _ => rfl
  | 35, _ => rfl
  | 36, _ => rfl
  | 37, _ => rfl
  | 38, _ => rfl
  | 39, _ => rfl
  | 40, _ => rfl
  | 41, _ => rfl
  | 42, _ => rfl
  | 43, _ => rfl
  | 44, _ => rfl
  | 45, _ => rfl
  | 46, _ => rfl
  | 47, _ => rfl
  | 48, _ => rfl
  | 49, _ => rfl
  | 50, _ => rfl
  | 51, _ => rfl
  | 52, _ => rfl
  | 53, _ => rfl
  | 54, _ => rfl
  | 55, _ => rfl
  | 56, _ => rfl
  | 57, _ => rfl
  | 58, _ => rfl
  | 59, _ => rfl
  | 60, _ => rfl
  | 61, _ => rfl
  | 62, _ => rfl
  | 63, _ => rfl
  | 64, _ => rfl
  | 65, _ => rfl
  | 66, _ => rfl
  | 67, _ => rfl
  | 68, _ => rfl
  | 69, _ => rfl
  | 70, _ => rfl
  | 71, _ => rfl
  | 72, _ => rfl
  | 73, _ => rfl
  | 74, _ => rfl
  | 75, _ => rfl
  | 76, _ => rfl
  | 77, _ => rfl
  | 78, _ => rfl
  | 79, _ => rfl
  | 80, _ => rfl
  | 81, _ => rfl
  | 82, _ => rfl
  | 83, _ => rfl
  | 84, _ => rfl
  | 85, _ => rfl
  | 86, _ => rfl
  | 87, _ => rfl
  | k + 88, hk => omega
