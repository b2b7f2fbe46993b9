theorem wd_10 : Cond.methodLink RX7 3 objectInit ∈ wsL_law := List.mem_of_getElem? (i := 10) (by decide +kernel)
theorem wd_11 : Cond.instanceMethod objectInit ∈ wsL_law := List.mem_of_getElem? (i := 11) (by decide +kernel)
theorem wd_12 : Cond.code objectInit ⟨#[0xb1]⟩ 1 none ∈ wsL_law := List.mem_of_getElem? (i := 12) (by decide +kernel)
theorem wd_13 : Cond.classLink RX7 9 RX0 ∈ wsL_law := List.mem_of_getElem? (i := 13) (by decide +kernel)
theorem wd_14 : Cond.instantiable RX0 2 ∈ wsL_law := List.mem_of_getElem? (i := 14) (by decide +kernel)
theorem wd_17 : Cond.classLink RX7 16 RX5 ∈ wsL_law := List.mem_of_getElem? (i := 17) (by decide +kernel)
theorem wd_18 : Cond.instantiable RX5 6 ∈ wsL_law := List.mem_of_getElem? (i := 18) (by decide +kernel)
theorem wd_21 : Cond.classLink RX7 23 RX2 ∈ wsL_law := List.mem_of_getElem? (i := 21) (by decide +kernel)
theorem wd_22 : Cond.instantiable RX2 6 ∈ wsL_law := List.mem_of_getElem? (i := 22) (by decide +kernel)
theorem wd_25 : Cond.classLink RX7 30 RX1 ∈ wsL_law := List.mem_of_getElem? (i := 25) (by decide +kernel)
theorem wd_26 : Cond.instantiable RX1 5 ∈ wsL_law := List.mem_of_getElem? (i := 26) (by decide +kernel)
theorem wd_29 : Cond.classLink RX7 37 RX4 ∈ wsL_law := List.mem_of_getElem? (i := 29) (by decide +kernel)
theorem wd_30 : Cond.instantiable RX4 3 ∈ wsL_law := List.mem_of_getElem? (i := 30) (by decide +kernel)
theorem wd_33 : Cond.classLink RX7 44 RX6 ∈ wsL_law := List.mem_of_getElem? (i := 33) (by decide +kernel)
theorem wd_34 : Cond.instantiable RX6 2 ∈ wsL_law := List.mem_of_getElem? (i := 34) (by decide +kernel)
theorem wd_37 : Cond.classLink RX7 51 RX3 ∈ wsL_law := List.mem_of_getElem? (i := 37) (by decide +kernel)
theorem wd_39 : Cond.arrayClass .int ∈ wsL_law := List.mem_of_getElem? (i := 39) (by decide +kernel)
theorem wd_45 : Cond.instantiable RX3 4 ∈ wsL_law := List.mem_of_getElem? (i := 45) (by decide +kernel)
theorem wd_47 : Cond.methodLink RX7 11 yX0_init ∈ wsL_law := List.mem_of_getElem? (i := 47) (by decide +kernel)
theorem wd_48 : Cond.instanceMethod yX0_init ∈ wsL_law := List.mem_of_getElem? (i := 48) (by decide +kernel)
theorem wd_49 : Cond.code yX0_init cX0_init 2 none ∈ wsL_law := List.mem_of_getElem? (i := 49) (by decide +kernel)
theorem wd_50 : Cond.methodLink RX0 3 objectInit ∈ wsL_law := List.mem_of_getElem? (i := 50) (by decide +kernel)
theorem wd_53 : Cond.instanceMethod yX5_init ∈ wsL_law := List.mem_of_getElem? (i := 53) (by decide +kernel)
theorem wd_54 : Cond.code yX5_init cX5_init 1 none ∈ wsL_law := List.mem_of_getElem? (i := 54) (by decide +kernel)
theorem wd_55 : Cond.methodLink RX5 3 objectInit ∈ wsL_law := List.mem_of_getElem? (i := 55) (by decide +kernel)
theorem wd_59 : Cond.classLink RX5 21 "[[I" ∈ wsL_law := List.mem_of_getElem? (i := 59) (by decide +kernel)
theorem wd_63 : Cond.instanceMethod yX2_init ∈ wsL_law := List.mem_of_getElem? (i := 63) (by decide +kernel)
theorem wd_64 : Cond.code yX2_init cX2_init 1 none ∈ wsL_law := List.mem_of_getElem? (i := 64) (by decide +kernel)
theorem wd_65 : Cond.methodLink RX2 3 objectInit ∈ wsL_law := List.mem_of_getElem? (i := 65) (by decide +kernel)
theorem wd_72 : Cond.instanceMethod yX1_init ∈ wsL_law := List.mem_of_getElem? (i := 72) (by decide +kernel)
theorem wd_73 : Cond.code yX1_init cX1_init 1 none ∈ wsL_law := List.mem_of_getElem? (i := 73) (by decide +kernel)
theorem wd_74 : Cond.methodLink RX1 3 objectInit ∈ wsL_law := List.mem_of_getElem? (i := 74) (by decide +kernel)
theorem wd_80 : Cond.instanceMethod yX4_init ∈ wsL_law := List.mem_of_getElem? (i := 80) (by decide +kernel)
theorem wd_81 : Cond.code yX4_init cX4_init 1 none ∈ wsL_law := List.mem_of_getElem? (i := 81) (by decide +kernel)
theorem wd_82 : Cond.methodLink RX4 3 objectInit ∈ wsL_law := List.mem_of_getElem? (i := 82) (by decide +kernel)
theorem wd_83 : Cond.classLink RX4 9 "[[B" ∈ wsL_law := List.mem_of_getElem? (i := 83) (by decide +kernel)
theorem wd_84 : Cond.arrayClass .byte ∈ wsL_law := List.mem_of_getElem? (i := 84) (by decide +kernel)
theorem wd_88 : Cond.instanceMethod yX6_init ∈ wsL_law := List.mem_of_getElem? (i := 88) (by decide +kernel)
theorem wd_89 : Cond.code yX6_init cX6_init 1 none ∈ wsL_law := List.mem_of_getElem? (i := 89) (by decide +kernel)
theorem wd_90 : Cond.methodLink RX6 3 objectInit ∈ wsL_law := List.mem_of_getElem? (i := 90) (by decide +kernel)
theorem wd_93 : Cond.instanceMethod yX3_init ∈ wsL_law := List.mem_of_getElem? (i := 93) (by decide +kernel)
theorem wd_94 : Cond.code yX3_init cX3_init 1 none ∈ wsL_law := List.mem_of_getElem? (i := 94) (by decide +kernel)
theorem wd_95 : Cond.methodLink RX3 3 objectInit ∈ wsL_law := List.mem_of_getElem? (i := 95) (by decide +kernel)
theorem wd_103 : Cond.methodLink RX8 1 objectInit ∈ wsL_law := List.mem_of_getElem? (i := 103) (by decide +kernel)
abbrev rmIX0 : Room := { frames := 1, cells := 2, slots := 24, locals := 12 }
def ctX0_1 : Nat → Int32 := (upd (upd (upd (upd (upd (upd (upd (upd (upd (upd (upd (upd (fun _ => 0) 0 1) 1 2) 2 3) 3 4) 4 5) 5 6) 6 7) 7 8) 8 9) 9 10) 10 11) 11 12)
def ctX0_2 : Nat → Int32 := (upd (upd (upd (upd (upd (upd (upd (upd (upd (upd (upd (upd (fun _ => 0) 0 126) 1 125) 2 124) 3 123) 4 122) 5 121) 6 120) 7 119) 8 118) 9 117) 10 116) 11 115)
def wIX0 (cI cB cS cRI cRB : ClassId) (h : Nat) (u : (Nat → Nat)) : va_W := [(h, .inr (0, [.ref (u 0), .ref (u 1)])), ((u 0), .inl (cI, 12, .inl ctX0_1)), ((u 1), .inl (cI, 12, .inl ctX0_2))]
set_option maxRecDepth 100000 in
set_option maxHeartbeats 4000000 in
theorem iX0 (l : Launch) (D : va_G) (cI cB cS cRI cRB : ClassId) (h0 : Nat) : io_M D [(cI, .int), (cB, .byte), (cS, .object "LineCaster$Sheet"), (cRI, .array .int), (cRB, .array .byte)] l yX0_init cX0_init 2 rmIX0 h0 [(h0, .inr (0, [.null, .null]))] (wIX0 cI cB cS cRI cRB h0) (fun _ => True) 2 24 := by
  refine io_of (own := RX0) (by decide) rfl rfl (Nat.le_of_ble_eq_true rfl) (fun Ω C => ?_)
  refine io_aload_n C dX0_init_0 0 rfl ?_
  refine io_objI C wd_50 wd_11 wd_12 (by decide) (by decide) dX0_init_1 ?_
  refine io_aload_n C dX0_init_4 0 rfl ?_
  refine io_bipush C (v := 12) dX0_init_5 (by decide) ?_
  refine io_newI C 0 rfl wd_39 (by decide) (N := 12) (by decide) (Nat.le_of_ble_eq_true rfl) (Nat.le_of_ble_eq_true rfl) (Nat.le_of_ble_eq_true rfl) dX0_init_7 (fun q0 => ?_)
  refine io_putF C (F1 := [(h0, .inr (0, [.ref q0, .null])), (q0, .inl (cI, 12, .inl (fun _ => 0)))]) 0 rfl rfl inlX0 tyX0 tyX0_ok nmX0 0 (by decide) wd_51 rfl rfl rfl (tyX0_ok 0 (by decide)) rfl rfl (Nat.le_of_ble_eq_true rfl) rfl dX0_init_9 ?_
  refine io_aload_n C dX0_init_12 0 rfl ?_
  refine io_bipush C (v := 12) dX0_init_13 (by decide) ?_
  refine io_newI C 0 rfl wd_39 (by decide) (N := 12) (by decide) (Nat.le_of_ble_eq_true rfl) (Nat.le_of_ble_eq_true rfl) (Nat.le_of_ble_eq_true rfl) dX0_init_15 (fun q1 => ?_)
  refine io_putF C (F1 := [(h0, .inr (0, [.ref q0, .ref q1])), (q0, .inl (cI, 12, .inl (fun _ => 0))), (q1, .inl (cI, 12, .inl (fun _ => 0)))]) 0 rfl rfl inlX0 tyX0 tyX0_ok nmX0 1 (by decide) wd_52 rfl rfl rfl (tyX0_ok 1 (by decide)) rfl rfl (Nat.le_of_ble_eq_true rfl) rfl dX0_init_17 ?_
  refine io_iconst C (v := 0) dX0_init_20 (by decide) ?_
  refine io_istore_n C dX0_init_21 (by decide) rfl ?_
  refine io_iload_n C dX0_init_22 0 rfl ?_
  refine io_bipush C (v := 12) dX0_init_23 (by decide) ?_
  refine io_geF C 60 dX0_init_25 (by decide) (by decide) ?_
  refine io_aload_n C dX0_init_28 1 rfl ?_
  refine io_getf C 0 rfl rfl inlX0 0 (by decide) wd_51 rfl rfl dX0_init_29 ?_
  refine io_iload_n C dX0_init_32 0 rfl ?_
  refine io_iload_n C dX0_init_33 0 rfl ?_
  refine io_iconst C (v := 1) dX0_init_34 (by decide) ?_
  refine io_iadd C (v := 1) dX0_init_35 (by decide) ?_
  refine io_iast C (F1 := [(h0, .inr (0, [.ref q0, .ref q1])), (q0, .inl (cI, 12, .inl (upd (fun _ => 0) 0 1))), (q1, .inl (cI, 12, .inl (fun _ => 0)))]) 1 0 rfl rfl (la_ix_in rfl) (j := 0) (by decide) rfl dX0_init_36 ?_
  refine io_aload_n C dX0_init_37 1 rfl ?_
  refine io_getf C 0 rfl rfl inlX0 1 (by decide) wd_52 rfl rfl dX0_init_38 ?_
  refine io_iload_n C dX0_init_41 0 rfl ?_
  refine io_bipush C (v := 127) dX0_init_42 (by decide) ?_
  refine io_aload_n C dX0_init_44 1 rfl ?_
  refine io_getf C 0 rfl rfl inlX0 0 (by decide) wd_51 rfl rfl dX0_init_45 ?_
  refine io_iload_n C dX0_init_48 0 rfl ?_
  refine io_iald C (v := 1) 1 0 rfl rfl (la_ix_in rfl) (by decide) dX0_init_49 ?_
  refine io_iconst C (v := (-1)) dX0_init_50 (by decide) ?_
  refine io_ixor C (v := (-2)) dX0_init_51 (by decide) ?_
  refine io_iand C (v := 126) dX0_init_52 (by decide) ?_
  refine io_iast C (F1 := [(h0, .inr (0, [.ref q0, .ref q1])), (q0, .inl (cI, 12, .inl (upd (fun _ => 0) 0 1))), (q1, .inl (cI, 12, .inl (upd (fun _ => 0) 0 126)))]) 2 0 rfl rfl (la_ix_in rfl) (j := 0) (by decide) rfl dX0_init_53 ?_
  refine io_iinc C (v := 1) dX0_init_54 0 rfl (by decide) (by decide) rfl ?_
  refine io_goto C (tgt := 22) dX0_init_57 (by decide) ?_
  refine io_iload_n C dX0_init_22 0 rfl ?_
  refine io_bipush C (v := 12) dX0_init_23 (by decide) ?_
  refine io_geF C 60 dX0_init_25 (by decide) (by decide) ?_
  refine io_aload_n C dX0_init_28 1 rfl ?_
  refine io_getf C 0 rfl rfl inlX0 0 (by decide) wd_51 rfl rfl dX0_init_29 ?_
  refine io_iload_n C dX0_init_32 0 rfl ?_
  refine io_iload_n C dX0_init_33 0 rfl ?_
  refine io_iconst C (v := 1) dX0_init_34 (by decide) ?_
  refine io_iadd C (v := 2) dX0_init_35 (by decide) ?_
  refine io_iast C (F1 := [(h0, .inr (0, [.ref q0, .ref q1])), (q0, .inl (cI, 12, .inl (upd (upd (fun _ => 0) 0 1) 1 2))), (q1, .inl (cI, 12, .inl (upd (fun _ => 0) 0 126)))]) 1 0 rfl rfl (la_ix_in rfl) (j := 1) (by decide) rfl dX0_init_36 ?_
  refine io_aload_n C dX0_init_37 1 rfl ?_
  refine io_getf C 0 rfl rfl inlX0 1 (by decide) wd_52 rfl rfl dX0_init_38 ?_
  refine io_iload_n C dX0_init_41 0 rfl ?_
  refine io_bipush C (v := 127) dX0_init_42 (by decide) ?_
  refine io_aload_n C dX0_init_44 1 rfl ?_
  refine io_getf C 0 rfl rfl inlX0 0 (by decide) wd_51 rfl rfl dX0_init_45 ?_
  refine io_iload_n C dX0_init_48 0 rfl ?_
  refine io_iald C (v := 2) 1 0 rfl rfl (la_ix_in rfl) (by decide) dX0_init_49 ?_
  refine io_iconst C (v := (-1)) dX0_init_50 (by decide) ?_
  refine io_ixor C (v := (-3)) dX0_init_51 (by decide) ?_
  refine io_iand C (v := 125) dX0_init_52 (by decide) ?_
  refine io_iast C (F1 := [(h0, .inr (0, [.ref q0, .ref q1])), (q0, .inl (cI, 12, .inl (upd (upd (fun _ => 0) 0 1) 1 2))), (q1, .inl (cI, 12, .inl (upd (upd (fun _ => 0) 0 126) 1 125)))]) 2 0 rfl rfl (la_ix_in rfl) (j := 1) (by decide) rfl dX0_init_53 ?_
  refine io_iinc C (v := 2) dX0_init_54 0 rfl (by decide) (by decide) rfl ?_
  refine io_goto C (tgt := 22) dX0_init_57 (by decide) ?_
  refine io_iload_n C dX0_init_22 0 rfl ?_
  refine io_bipush C (v := 12) dX0_init_23 (by decide) ?_
  refine io_geF C 60 dX0_init_25 (by decide) (by decide) ?_
  refine io_aload_n C dX0_init_28 1 rfl ?_
  refine io_getf C 0 rfl rfl inlX0 0 (by decide) wd_51 rfl rfl dX0_init_29 ?_
  refine io_iload_n C dX0_init_32 0 rfl ?_
  refine io_iload_n C dX0_init_33 0 rfl ?_
  refine io_iconst C (v := 1) dX0_init_34 (by decide) ?_
  refine io_iadd C (v := 3) dX0_init_35 (by decide) ?_
  refine io_iast C (F1 := [(h0, .inr (0, [.ref q0, .ref q1])), (q0, .inl (cI, 12, .inl (upd (upd (upd (fun _ => 0) 0 1) 1 2) 2 3))), (q1, .inl (cI, 12, .inl (upd (upd (fun _ => 0) 0 126) 1 125)))]) 1 0 rfl rfl (la_ix_in rfl) (j := 2) (by decide) rfl dX0_init_36 ?_
  refine io_aload_n C dX0_init_37 1 rfl ?_
  refine io_getf C 0 rfl rfl inlX0 1 (by decide) wd_52 rfl rfl dX0_init_38 ?_
  refine io_iload_n C dX0_init_41 0 rfl ?_
  refine io_bipush C (v := 127) dX0_init_42 (by decide) ?_
  refine io_aload_n C dX0_init_44 1 rfl ?_
  refine io_getf C 0 rfl rfl inlX0 0 (by decide) wd_51 rfl rfl dX0_init_45 ?_
  refine io_iload_n C dX0_init_48 0 rfl ?_
  refine io_iald C (v := 3) 1 0 rfl rfl (la_ix_in rfl) (by decide) dX0_init_49 ?_
  refine io_iconst C (v := (-1)) dX0_init_50 (by decide) ?_
  refine io_ixor C (v := (-4)) dX0_init_51 (by decide) ?_
  refine io_iand C (v := 124) dX0_init_52 (by decide) ?_
  refine io_iast C (F1 := [(h0, .inr (0, [.ref q0, .ref q1])), (q0, .inl (cI, 12, .inl (upd (upd (upd (fun _ => 0) 0 1) 1 2) 2 3))), (q1, .inl (cI, 12, .inl (upd (upd (upd (fun _ => 0) 0 126) 1 125) 2 124)))]) 2 0 rfl rfl (la_ix_in rfl) (j := 2) (by decide) rfl dX0_init_53 ?_
  refine io_iinc C (v := 3) dX0_init_54 0 rfl (by decide) (by decide) rfl ?_
  refine io_goto C (tgt := 22) dX0_init_57 (by decide) ?_
  refine io_iload_n C dX0_init_22 0 rfl ?_
  refine io_bipush C (v := 12) dX0_init_23 (by decide) ?_
  refine io_geF C 60 dX0_init_25 (by decide) (by decide) ?_
  refine io_aload_n C dX0_init_28 1 rfl ?_
  refine io_getf C 0 rfl rfl inlX0 0 (by decide) wd_51 rfl rfl dX0_init_29 ?_
  refine io_iload_n C dX0_init_32 0 rfl ?_
  refine io_iload_n C dX0_init_33 0 rfl ?_
  refine io_iconst C (v := 1) dX0_init_34 (by decide) ?_
  refine io_iadd C (v := 4) dX0_init_35 (by decide) ?_
  refine io_iast C (F1 := [(h0, .inr (0, [.ref q0, .ref q1])), (q0, .inl (cI, 12, .inl (upd (upd (upd (upd (fun _ => 0) 0 1) 1 2) 2 3) 3 4))), (q1, .inl (cI, 12, .inl (upd (upd (upd (fun _ => 0) 0 126) 1 125) 2 124)))]) 1 0 rfl rfl (la_ix_in rfl) (j := 3) (by decide) rfl dX0_init_36 ?_
  refine io_aload_n C dX0_init_37 1 rfl ?_
  refine io_getf C 0 rfl rfl inlX0 1 (by decide) wd_52 rfl rfl dX0_init_38 ?_
  refine io_iload_n C dX0_init_41 0 rfl ?_
  refine io_bipush C (v := 127) dX0_init_42 (by decide) ?_
  refine io_aload_n C dX0_init_44 1 rfl ?_
  refine io_getf C 0 rfl rfl inlX0 0 (by decide) wd_51 rfl rfl dX0_init_45 ?_
  refine io_iload_n C dX0_init_48 0 rfl ?_
  refine io_iald C (v := 4) 1 0 rfl rfl (la_ix_in rfl) (by decide) dX0_init_49 ?_
  refine io_iconst C (v := (-1)) dX0_init_50 (by decide) ?_
  refine io_ixor C (v := (-5)) dX0_init_51 (by decide) ?_
  refine io_iand C (v := 123) dX0_init_52 (by decide) ?_
  refine io_iast C (F1 := [(h0, .inr (0, [.ref q0, .ref q1])), (q0, .inl (cI, 12, .inl (upd (upd (upd (upd (fun _ => 0) 0 1) 1 2) 2 3) 3 4))), (q1, .inl (cI, 12, .inl (upd (upd (upd (upd (fun _ => 0) 0 126) 1 125) 2 124) 3 123)))]) 2 0 rfl rfl (la_ix_in rfl) (j := 3) (by decide) rfl dX0_init_53 ?_
  refine io_iinc C (v := 4) dX0_init_54 0 rfl (by decide) (by decide) rfl ?_
  refine io_goto C (tgt := 22) dX0_init_57 (by decide) ?_
  refine io_iload_n C dX0_init_22 0 rfl ?_
  refine io_bipush C (v := 12) dX0_init_23 (by decide) ?_
  refine io_geF C 60 dX0_init_25 (by decide) (by decide) ?_
  refine io_aload_n C dX0_init_28 1 rfl ?_
  refine io_getf C 0 rfl rfl inlX0 0 (by decide) wd_51 rfl rfl dX0_init_29 ?_
  refine io_iload_n C dX0_init_32 0 rfl ?_
  refine io_iload_n C dX0_init_33 0 rfl ?_
  refine io_iconst C (v := 1) dX0_init_34 (by decide) ?_
  refine io_iadd C (v := 5) dX0_init_35 (by decide) ?_
  refine io_iast C (F1 := [(h0, .inr (0, [.ref q0, .ref q1])), (q0, .inl (cI, 12, .inl (upd (upd (upd (upd (upd (fun _ => 0) 0 1) 1 2) 2 3) 3 4) 4 5))), (q1, .inl (cI, 12, .inl (upd (upd (upd (upd (fun _ => 0) 0 126) 1 125) 2 124) 3 123)))]) 1 0 rfl rfl (la_ix_in rfl) (j := 4) (by decide) rfl dX0_init_36 ?_
  refine io_aload_n C dX0_init_37 1 rfl ?_
  refine io_getf C 0 rfl rfl inlX0 1 (by decide) wd_52 rfl rfl dX0_init_38 ?_
  refine io_iload_n C dX0_init_41 0 rfl ?_
  refine io_bipush C (v := 127) dX0_init_42 (by decide) ?_
  refine io_aload_n C dX0_init_44 1 rfl ?_
  refine io_getf C 0 rfl rfl inlX0 0 (by decide) wd_51 rfl rfl dX0_init_45 ?_
  refine io_iload_n C dX0_init_48 0 rfl ?_
  refine io_iald C (v := 5) 1 0 rfl rfl (la_ix_in rfl) (by decide) dX0_init_49 ?_
  refine io_iconst C (v := (-1)) dX0_init_50 (by decide) ?_
  refine io_ixor C (v := (-6)) dX0_init_51 (by decide) ?_
  refine io_iand C (v := 122) dX0_init_52 (by decide) ?_
  refine io_iast C (F1 := [(h0, .inr (0, [.ref q0, .ref q1])), (q0, .inl (cI, 12, .inl (upd (upd (upd (upd (upd (fun _ => 0) 0 1) 1 2) 2 3) 3 4) 4 5))), (q1, .inl (cI, 12, .inl (upd (upd (upd (upd (upd (fun _ => 0) 0 126) 1 125) 2 124) 3 123) 4 122)))]) 2 0 rfl rfl (la_ix_in rfl) (j := 4) (by decide) rfl dX0_init_53 ?_
  refine io_iinc C (v := 5) dX0_init_54 0 rfl (by decide) (by decide) rfl ?_
  refine io_goto C (tgt := 22) dX0_init_57 (by decide) ?_
  refine io_iload_n C dX0_init_22 0 rfl ?_
  refine io_bipush C (v := 12) dX0_init_23 (by decide) ?_
  refine io_geF C 60 dX0_init_25 (by decide) (by decide) ?_
  refine io_aload_n C dX0_init_28 1 rfl ?_
  refine io_getf C 0 rfl rfl inlX0 0 (by decide) wd_51 rfl rfl dX0_init_29 ?_
  refine io_iload_n C dX0_init_32 0 rfl ?_
  refine io_iload_n C dX0_init_33 0 rfl ?_
  refine io_iconst C (v := 1) dX0_init_34 (by decide) ?_
  refine io_iadd C (v := 6) dX0_init_35 (by decide) ?_
  refine io_iast C (F1 := [(h0, .inr (0, [.ref q0, .ref q1])), (q0, .inl (cI, 12, .inl (upd (upd (upd (upd (upd (upd (fun _ => 0) 0 1) 1 2) 2 3) 3 4) 4 5) 5 6))), (q1, .inl (cI, 12, .inl (upd (upd (upd (upd (upd (fun _ => 0) 0 126) 1 125) 2 124) 3 123) 4 122)))]) 1 0 rfl rfl (la_ix_in rfl) (j := 5) (by decide) rfl dX0_init_36 ?_
  refine io_aload_n C dX0_init_37 1 rfl ?_
  refine io_getf C 0 rfl rfl inlX0 1 (by decide) wd_52 rfl rfl dX0_init_38 ?_
  refine io_iload_n C dX0_init_41 0 rfl ?_
  refine io_bipush C (v := 127) dX0_init_42 (by decide) ?_
  refine io_aload_n C dX0_init_44 1 rfl ?_
  refine io_getf C 0 rfl rfl inlX0 0 (by decide) wd_51 rfl rfl dX0_init_45 ?_
  refine io_iload_n C dX0_init_48 0 rfl ?_
  refine io_iald C (v := 6) 1 0 rfl rfl (la_ix_in rfl) (by decide) dX0_init_49 ?_
  refine io_iconst C (v := (-1)) dX0_init_50 (by decide) ?_
  refine io_ixor C (v := (-7)) dX0_init_51 (by decide) ?_
  refine io_iand C (v := 121) dX0_init_52 (by decide) ?_
  refine io_iast C (F1 := [(h0, .inr (0, [.ref q0, .ref q1])), (q0, .inl (cI, 12, .inl (upd (upd (upd (upd (upd (upd (fun _ => 0) 0 1) 1 2) 2 3) 3 4) 4 5) 5 6))), (q1, .inl (cI, 12, .inl (upd (upd (upd (upd (upd (upd (fun _ => 0) 0 126) 1 125) 2 124) 3 123) 4 122) 5 121)))]) 2 0 rfl rfl (la_ix_in rfl) (j := 5) (by decide) rfl dX0_init_53 ?_
  refine io_iinc C (v := 6) dX0_init_54 0 rfl (by decide) (by decide) rfl ?_
  refine io_goto C (tgt := 22) dX0_init_57 (by decide) ?_
  refine io_iload_n C dX0_init_22 0 rfl ?_
  refine io_bipush C (v := 12) dX0_init_23 (by decide) ?_
  refine io_geF C 60 dX0_init_25 (by decide) (by decide) ?_
  refine io_aload_n C dX0_init_28 1 rfl ?_
  refine io_getf C 0 rfl rfl inlX0 0 (by decide) wd_51 rfl rfl dX0_init_29 ?_
  refine io_iload_n C dX0_init_32 0 rfl ?_
  refine io_iload_n C dX0_init_33 0 rfl ?_
  refine io_iconst C (v := 1) dX0_init_34 (by decide) ?_
  refine io_iadd C (v := 7) dX0_init_35 (by decide) ?_
  refine io_iast C (F1 := [(h0, .inr (0, [.ref q0, .ref q1])), (q0, .inl (cI, 12, .inl (upd (upd (upd (upd (upd (upd (upd (fun _ => 0) 0 1) 1 2) 2 3) 3 4) 4 5) 5 6) 6 7))), (q1, .inl (cI, 12, .inl (upd (upd (upd (upd (upd (upd (fun _ => 0) 0 126) 1 125) 2 124) 3 123) 4 122) 5 121)))]) 1 0 rfl rfl (la_ix_in rfl) (j := 6) (by decide) rfl dX0_init_36 ?_
  refine io_aload_n C dX0_init_37 1 rfl ?_
  refine io_getf C 0 rfl rfl inlX0 1 (by decide) wd_52 rfl rfl dX0_init_38 ?_
  refine io_iload_n C dX0_init_41 0 rfl ?_
  refine io_bipush C (v := 127) dX0_init_42 (by decide) ?_
  refine io_aload_n C dX0_init_44 1 rfl ?_
  refine io_getf C 0 rfl rfl inlX0 0 (by decide) wd_51 rfl rfl dX0_init_45 ?_
  refine io_iload_n C dX0_init_48 0 rfl ?_
  refine io_iald C (v := 7) 1 0 rfl rfl (la_ix_in rfl) (by decide) dX0_init_49 ?_
  refine io_iconst C (v := (-1)) dX0_init_50 (by decide) ?_
  refine io_ixor C (v := (-8)) dX0_init_51 (by decide) ?_
  refine io_iand C (v := 120) dX0_init_52 (by decide) ?_
  refine io_iast C (F1 := [(h0, .inr (0, [.ref q0, .ref q1])), (q0, .inl (cI, 12, .inl (upd (upd (upd (upd (upd (upd (upd (fun _ => 0) 0 1) 1 2) 2 3) 3 4) 4 5) 5 6) 6 7))), (q1, .inl (cI, 12, .inl (upd (upd (upd (upd (upd (upd (upd (fun _ => 0) 0 126) 1 125) 2 124) 3 123) 4 122) 5 121) 6 120)))]) 2 0 rfl rfl (la_ix_in rfl) (j := 6) (by decide) rfl dX0_init_53 ?_
  refine io_iinc C (v := 7) dX0_init_54 0 rfl (by decide) (by decide) rfl ?_
  refine io_goto C (tgt := 22) dX0_init_57 (by decide) ?_
  refine io_iload_n C dX0_init_22 0 rfl ?_
  refine io_bipush C (v := 12) dX0_init_23 (by decide) ?_
  refine io_geF C 60 dX0_init_25 (by decide) (by decide) ?_
  refine io_aload_n C dX0_init_28 1 rfl ?_
  refine io_getf C 0 rfl rfl inlX0 0 (by decide) wd_51 rfl rfl dX0_init_29 ?_
  refine io_iload_n C dX0_init_32 0 rfl ?_
  refine io_iload_n C dX0_init_33 0 rfl ?_
  refine io_iconst C (v := 1) dX0_init_34 (by decide) ?_
  refine io_iadd C (v := 8) dX0_init_35 (by decide) ?_
  refine io_iast C (F1 := [(h0, .inr (0, [.ref q0, .ref q1])), (q0, .inl (cI, 12, .inl (upd (upd (upd (upd (upd (upd (upd (upd (fun _ => 0) 0 1) 1 2) 2 3) 3 4) 4 5) 5 6) 6 7) 7 8))), (q1, .inl (cI, 12, .inl (upd (upd (upd (upd (upd (upd (upd (fun _ => 0) 0 126) 1 125) 2 124) 3 123) 4 122) 5 121) 6 120)))]) 1 0 rfl rfl (la_ix_in rfl) (j := 7) (by decide) rfl dX0_init_36 ?_
  refine io_aload_n C dX0_init_37 1 rfl ?_
  refine io_getf C 0 rfl rfl inlX0 1 (by decide) wd_52 rfl rfl dX0_init_38 ?_
  refine io_iload_n C dX0_init_41 0 rfl ?_
  refine io_bipush C (v := 127) dX0_init_42 (by decide) ?_
  refine io_aload_n C dX0_init_44 1 rfl ?_
  refine io_getf C 0 rfl rfl inlX0 0 (by decide) wd_51 rfl rfl dX0_init_45 ?_
  refine io_iload_n C dX0_init_48 0 rfl ?_
  refine io_iald C (v := 8) 1 0 rfl rfl (la_ix_in rfl) (by decide) dX0_init_49 ?_
  refine io_iconst C (v := (-1)) dX0_init_50 (by decide) ?_
  refine io_ixor C (v := (-9)) dX0_init_51 (by decide) ?_
  refine io_iand C (v := 119) dX0_init_52 (by decide) ?_
  refine io_iast C (F1 := [(h0, .inr (0, [.ref q0, .ref q1])), (q0, .inl (cI, 12, .inl (upd (upd (upd (upd (upd (upd (upd (upd (fun _ => 0) 0 1) 1 2) 2 3) 3 4) 4 5) 5 6) 6 7) 7 8))), (q1, .inl (cI, 12, .inl (upd (upd (upd (upd (upd (upd (upd (upd (fun _ => 0) 0 126) 1 125) 2 124) 3 123) 4 122) 5 121) 6 120) 7 119)))]) 2 0 rfl rfl (la_ix_in rfl) (j := 7) (by decide) rfl dX0_init_53 ?_
  refine io_iinc C (v := 8) dX0_init_54 0 rfl (by decide) (by decide) rfl ?_
  refine io_goto C (tgt := 22) dX0_init_57 (by decide) ?_
  refine io_iload_n C dX0_init_22 0 rfl ?_
  refine io_bipush C (v := 12) dX0_init_23 (by decide) ?_
  refine io_geF C 60 dX0_init_25 (by decide) (by decide) ?_
  refine io_aload_n C dX0_init_28 1 rfl ?_
  refine io_getf C 0 rfl rfl inlX0 0 (by decide) wd_51 rfl rfl dX0_init_29 ?_
  refine io_iload_n C dX0_init_32 0 rfl ?_
  refine io_iload_n C dX0_init_33 0 rfl ?_
  refine io_iconst C (v := 1) dX0_init_34 (by decide) ?_
  refine io_iadd C (v := 9) dX0_init_35 (by decide) ?_
  refine io_iast C (F1 := [(h0, .inr (0, [.ref q0, .ref q1])), (q0, .inl (cI, 12, .inl (upd (upd (upd (upd (upd (upd (upd (upd (upd (fun _ => 0) 0 1) 1 2) 2 3) 3 4) 4 5) 5 6) 6 7) 7 8) 8 9))), (q1, .inl (cI, 12, .inl (upd (upd (upd (upd (upd (upd (upd (upd (fun _ => 0) 0 126) 1 125) 2 124) 3 123) 4 122) 5 121) 6 120) 7 119)))]) 1 0 rfl rfl (la_ix_in rfl) (j := 8) (by decide) rfl dX0_init_36 ?_
  refine io_aload_n C dX0_init_37 1 rfl ?_
  refine io_getf C 0 rfl rfl inlX0 1 (by decide) wd_52 rfl rfl dX0_init_38 ?_
  refine io_iload_n C dX0_init_41 0 rfl ?_
  refine io_bipush C (v := 127) dX0_init_42 (by decide) ?_
  refine io_aload_n C dX0_init_44 1 rfl ?_
  refine io_getf C 0 rfl rfl inlX0 0 (by decide) wd_51 rfl rfl dX0_init_45 ?_
  refine io_iload_n C dX0_init_48 0 rfl ?_
  refine io_iald C (v := 9) 1 0 rfl rfl (la_ix_in rfl) (by decide) dX0_init_49 ?_
  refine io_iconst C (v := (-1)) dX0_init_50 (by decide) ?_
  refine io_ixor C (v := (-10)) dX0_init_51 (by decide) ?_
  refine io_iand C (v := 118) dX0_init_52 (by decide) ?_
  refine io_iast C (F1 := [(h0, .inr (0, [.ref q0, .ref q1])), (q0, .inl (cI, 12, .inl (upd (upd (upd (upd (upd (upd (upd (upd (upd (fun _ => 0) 0 1) 1 2) 2 3) 3 4) 4 5) 5 6) 6 7) 7 8) 8 9))), (q1, .inl (cI, 12, .inl (upd (upd (upd (upd (upd (upd (upd (upd (upd (fun _ => 0) 0 126) 1 125) 2 124) 3 123) 4 122) 5 121) 6 120) 7 119) 8 118)))]) 2 0 rfl rfl (la_ix_in rfl) (j := 8) (by decide) rfl dX0_init_53 ?_
  refine io_iinc C (v := 9) dX0_init_54 0 rfl (by decide) (by decide) rfl ?_
  refine io_goto C (tgt := 22) dX0_init_57 (by decide) ?_
  refine io_iload_n C dX0_init_22 0 rfl ?_
  refine io_bipush C (v := 12) dX0_init_23 (by decide) ?_
  refine io_geF C 60 dX0_init_25 (by decide) (by decide) ?_
  refine io_aload_n C dX0_init_28 1 rfl ?_
  refine io_getf C 0 rfl rfl inlX0 0 (by decide) wd_51 rfl rfl dX0_init_29 ?_
  refine io_iload_n C dX0_init_32 0 rfl ?_
  refine io_iload_n C dX0_init_33 0 rfl ?_
  refine io_iconst C (v := 1) dX0_init_34 (by decide) ?_
  refine io_iadd C (v := 10) dX0_init_35 (by decide) ?_
  refine io_iast C (F1 := [(h0, .inr (0, [.ref q0, .ref q1])), (q0, .inl (cI, 12, .inl (upd (upd (upd (upd (upd (upd (upd (upd (upd (upd (fun _ => 0) 0 1) 1 2) 2 3) 3 4) 4 5) 5 6) 6 7) 7 8) 8 9) 9 10))), (q1, .inl (cI, 12, .inl (upd (upd (upd (upd (upd (upd (upd (upd (upd (fun _ => 0) 0 126) 1 125) 2 124) 3 123) 4 122) 5 121) 6 120) 7 119) 8 118)))]) 1 0 rfl rfl (la_ix_in rfl) (j := 9) (by decide) rfl dX0_init_36 ?_
  refine io_aload_n C dX0_init_37 1 rfl ?_
  refine io_getf C 0 rfl rfl inlX0 1 (by decide) wd_52 rfl rfl dX0_init_38 ?_
  refine io_iload_n C dX0_init_41 0 rfl ?_
  refine io_bipush C (v := 127) dX0_init_42 (by decide) ?_
  refine io_aload_n C dX0_init_44 1 rfl ?_
  refine io_getf C 0 rfl rfl inlX0 0 (by decide) wd_51 rfl rfl dX0_init_45 ?_
  refine io_iload_n C dX0_init_48 0 rfl ?_
  refine io_iald C (v := 10) 1 0 rfl rfl (la_ix_in rfl) (by decide) dX0_init_49 ?_
  refine io_iconst C (v := (-1)) dX0_init_50 (by decide) ?_
  refine io_ixor C (v := (-11)) dX0_init_51 (by decide) ?_
  refine io_iand C (v := 117) dX0_init_52 (by decide) ?_
  refine io_iast C (F1 := [(h0, .inr (0, [.ref q0, .ref q1])), (q0, .inl (cI, 12, .inl (upd (upd (upd (upd (upd (upd (upd (upd (upd (upd (fun _ => 0) 0 1) 1 2) 2 3) 3 4) 4 5) 5 6) 6 7) 7 8) 8 9) 9 10))), (q1, .inl (cI, 12, .inl (upd (upd (upd (upd (upd (upd (upd (upd (upd (upd (fun _ => 0) 0 126) 1 125) 2 124) 3 123) 4 122) 5 121) 6 120) 7 119) 8 118) 9 117)))]) 2 0 rfl rfl (la_ix_in rfl) (j := 9) (by decide) rfl dX0_init_53 ?_
  refine io_iinc C (v := 10) dX0_init_54 0 rfl (by decide) (by decide) rfl ?_
  refine io_goto C (tgt := 22) dX0_init_57 (by decide) ?_
  refine io_iload_n C dX0_init_22 0 rfl ?_
  refine io_bipush C (v := 12) dX0_init_23 (by decide) ?_
  refine io_geF C 60 dX0_init_25 (by decide) (by decide) ?_
  refine io_aload_n C dX0_init_28 1 rfl ?_
  refine io_getf C 0 rfl rfl inlX0 0 (by decide) wd_51 rfl rfl dX0_init_29 ?_
  refine io_iload_n C dX0_init_32 0 rfl ?_
  refine io_iload_n C dX0_init_33 0 rfl ?_
  refine io_iconst C (v := 1) dX0_init_34 (by decide) ?_
  refine io_iadd C (v := 11) dX0_init_35 (by decide) ?_
  refine io_iast C (F1 := [(h0, .inr (0, [.ref q0, .ref q1])), (q0, .inl (cI, 12, .inl (upd (upd (upd (upd (upd (upd (upd (upd (upd (upd (upd (fun _ => 0) 0 1) 1 2) 2 3) 3 4) 4 5) 5 6) 6 7) 7 8) 8 9) 9 10) 10 11))), (q1, .inl (cI, 12, .inl (upd (upd (upd (upd (upd (upd (upd (upd (upd (upd (fun _ => 0) 0 126) 1 125) 2 124) 3 123) 4 122) 5 121) 6 120) 7 119) 8 118) 9 117)))]) 1 0 rfl rfl (la_ix_in rfl) (j := 10) (by decide) rfl dX0_init_36 ?_
  refine io_aload_n C dX0_init_37 1 rfl ?_
  refine io_getf C 0 rfl rfl inlX0 1 (by decide) wd_52 rfl rfl dX0_init_38 ?_
  refine io_iload_n C dX0_init_41 0 rfl ?_
  refine io_bipush C (v := 127) dX0_init_42 (by decide) ?_
  refine io_aload_n C dX0_init_44 1 rfl ?_
  refine io_getf C 0 rfl rfl inlX0 0 (by decide) wd_51 rfl rfl dX0_init_45 ?_
  refine io_iload_n C dX0_init_48 0 rfl ?_
  refine io_iald C (v := 11) 1 0 rfl rfl (la_ix_in rfl) (by decide) dX0_init_49 ?_
  refine io_iconst C (v := (-1)) dX0_init_50 (by decide) ?_
  refine io_ixor C (v := (-12)) dX0_init_51 (by decide) ?_
  refine io_iand C (v := 116) dX0_init_52 (by decide) ?_
  refine io_iast C (F1 := [(h0, .inr (0, [.ref q0, .ref q1])), (q0, .inl (cI, 12, .inl (upd (upd (upd (upd (upd (upd (upd (upd (upd (upd (upd (fun _ => 0) 0 1) 1 2) 2 3) 3 4) 4 5) 5 6) 6 7) 7 8) 8 9) 9 10) 10 11))), (q1, .inl (cI, 12, .inl (upd (upd (upd (upd (upd (upd (upd (upd (upd (upd (upd (fun _ => 0) 0 126) 1 125) 2 124) 3 123) 4 122) 5 121) 6 120) 7 119) 8 118) 9 117) 10 116)))]) 2 0 rfl rfl (la_ix_in rfl) (j := 10) (by decide) rfl dX0_init_53 ?_
  refine io_iinc C (v := 11) dX0_init_54 0 rfl (by decide) (by decide) rfl ?_
  refine io_goto C (tgt := 22) dX0_init_57 (by decide) ?_
  refine io_iload_n C dX0_init_22 0 rfl ?_
  refine io_bipush C (v := 12) dX0_init_23 (by decide) ?_
  refine io_geF C 60 dX0_init_25 (by decide) (by decide) ?_
  refine io_aload_n C dX0_init_28 1 rfl ?_
  refine io_getf C 0 rfl rfl inlX0 0 (by decide) wd_51 rfl rfl dX0_init_29 ?_
  refine io_iload_n C dX0_init_32 0 rfl ?_
  refine io_iload_n C dX0_init_33 0 rfl ?_
  refine io_iconst C (v := 1) dX0_init_34 (by decide) ?_
  refine io_iadd C (v := 12) dX0_init_35 (by decide) ?_
  refine io_iast C (F1 := [(h0, .inr (0, [.ref q0, .ref q1])), (q0, .inl (cI, 12, .inl (upd (upd (upd (upd (upd (upd (upd (upd (upd (upd (upd (upd (fun _ => 0) 0 1) 1 2) 2 3) 3 4) 4 5) 5 6) 6 7) 7 8) 8 9) 9 10) 10 11) 11 12))), (q1, .inl (cI, 12, .inl (upd (upd (upd (upd (upd (upd (upd (upd (upd (upd (upd (fun _ => 0) 0 126) 1 125) 2 124) 3 123) 4 122) 5 121) 6 120) 7 119) 8 118) 9 117) 10 116)))]) 1 0 rfl rfl (la_ix_in rfl) (j := 11) (by decide) rfl dX0_init_36 ?_
  refine io_aload_n C dX0_init_37 1 rfl ?_
  refine io_getf C 0 rfl rfl inlX0 1 (by decide) wd_52 rfl rfl dX0_init_38 ?_
  refine io_iload_n C dX0_init_41 0 rfl ?_
  refine io_bipush C (v := 127) dX0_init_42 (by decide) ?_
  refine io_aload_n C dX0_init_44 1 rfl ?_
  refine io_getf C 0 rfl rfl inlX0 0 (by decide) wd_51 rfl rfl dX0_init_45 ?_
  refine io_iload_n C dX0_init_48 0 rfl ?_
  refine io_iald C (v := 12) 1 0 rfl rfl (la_ix_in rfl) (by decide) dX0_init_49 ?_
  refine io_iconst C (v := (-1)) dX0_init_50 (by decide) ?_
  refine io_ixor C (v := (-13)) dX0_init_51 (by decide) ?_
  refine io_iand C (v := 115) dX0_init_52 (by decide) ?_
  refine io_iast C (F1 := [(h0, .inr (0, [.ref q0, .ref q1])), (q0, .inl (cI, 12, .inl (upd (upd (upd (upd (upd (upd (upd (upd (upd (upd (upd (upd (fun _ => 0) 0 1) 1 2) 2 3) 3 4) 4 5) 5 6) 6 7) 7 8) 8 9) 9 10) 10 11) 11 12))), (q1, .inl (cI, 12, .inl (upd (upd (upd (upd (upd (upd (upd (upd (upd (upd (upd (upd (fun _ => 0) 0 126) 1 125) 2 124) 3 123) 4 122) 5 121) 6 120) 7 119) 8 118) 9 117) 10 116) 11 115)))]) 2 0 rfl rfl (la_ix_in rfl) (j := 11) (by decide) rfl dX0_init_53 ?_
  refine io_iinc C (v := 12) dX0_init_54 0 rfl (by decide) (by decide) rfl ?_
  refine io_goto C (tgt := 22) dX0_init_57 (by decide) ?_
  refine io_iload_n C dX0_init_22 0 rfl ?_
  refine io_bipush C (v := 12) dX0_init_23 (by decide) ?_
  refine io_geT C (tgt := 60) dX0_init_25 (by decide) (by decide) ?_
  exact io_ret C (fun i => [q0, q1].getD i 0) trivial (is := [0, 1, 2]) rfl (by decide) rfl rfl dX0_init_60
abbrev rmIX5 : Room := { frames := 1, cells := 17, slots := 300, locals := 12 }
def wIX5 (cI cB cS cRI cRB : ClassId) (h : Nat) (u : ((Nat → Nat) × (Nat → Nat))) : va_W := [(h, .inr (5, [.ref (u.1 0), .ref (u.1 1), .ref (u.1 2), .ref (u.1 3), .ref (u.1 4), .int 0])), ((u.1 0), .inl (cI, 60, .inl (fun _ => 0))), ((u.1 1), .inl (cI, 60, .inl (fun _ => 0))), ((u.1 2), .inl (cI, 60, .inl (fun _ => 0))), ((u.1 3), .inl (cRI, 12, .inr (.inr (.inr (.inr (fun i => if i < 12 then some (u.2 i) else none)))))), ((u.1 4), .inl (cI, 12, .inl (fun _ => 0)))] ++ (List.range 12).map (fun i => (u.2 i, .inl (cI, 8, .inl (fun _ => 0))))
set_option maxRecDepth 100000 in
set_option maxHeartbeats 4000000 in
theorem iX5 (l : Launch) (D : va_G) (cI cB cS cRI cRB : ClassId) (h0 : Nat) : io_M D [(cI, .int), (cB, .byte), (cS, .object "LineCaster$Sheet"), (cRI, .array .int), (cRB, .array .byte)] l yX5_init cX5_init 1 rmIX5 h0 [(h0, .inr (5, [.null, .null, .null, .null, .null, .int 0]))] (wIX5 cI cB cS cRI cRB h0) (fun _ => True) 17 300 := by
  refine io_of (own := RX5) (by decide) rfl rfl (Nat.le_of_ble_eq_true rfl) (fun Ω C => ?_)
  refine io_aload_n C dX5_init_0 0 rfl ?_
  refine io_objI C wd_55 wd_11 wd_12 (by decide) (by decide) dX5_init_1 ?_
  refine io_aload_n C dX5_init_4 0 rfl ?_
  refine io_bipush C (v := 60) dX5_init_5 (by decide) ?_
  refine io_newI C 0 rfl wd_39 (by decide) (N := 60) (by decide) (Nat.le_of_ble_eq_true rfl) (Nat.le_of_ble_eq_true rfl) (Nat.le_of_ble_eq_true rfl) dX5_init_7 (fun q0 => ?_)
  refine io_putF C (F1 := [(h0, .inr (5, [.ref q0, .null, .null, .null, .null, .int 0])), (q0, .inl (cI, 60, .inl (fun _ => 0)))]) 0 rfl rfl inlX5 tyX5 tyX5_ok nmX5 0 (by decide) wd_56 rfl rfl rfl (tyX5_ok 0 (by decide)) rfl rfl (Nat.le_of_ble_eq_true rfl) rfl dX5_init_9 ?_
  refine io_aload_n C dX5_init_12 0 rfl ?_
  refine io_bipush C (v := 60) dX5_init_13 (by decide) ?_
  refine io_newI C 0 rfl wd_39 (by decide) (N := 60) (by decide) (Nat.le_of_ble_eq_true rfl) (Nat.le_of_ble_eq_true rfl) (Nat.le_of_ble_eq_true rfl) dX5_init_15 (fun q1 => ?_)
  refine io_putF C (F1 := [(h0, .inr (5, [.ref q0, .ref q1, .null, .null, .null, .int 0])), (q0, .inl (cI, 60, .inl (fun _ => 0))), (q1, .inl (cI, 60, .inl (fun _ => 0)))]) 0 rfl rfl inlX5 tyX5 tyX5_ok nmX5 1 (by decide) wd_57 rfl rfl rfl (tyX5_ok 1 (by decide)) rfl rfl (Nat.le_of_ble_eq_true rfl) rfl dX5_init_17 ?_
  refine io_aload_n C dX5_init_20 0 rfl ?_
  refine io_bipush C (v := 60) dX5_init_21 (by decide) ?_
  refine io_newI C 0 rfl wd_39 (by decide) (N := 60) (by decide) (Nat.le_of_ble_eq_true rfl) (Nat.le_of_ble_eq_true rfl) (Nat.le_of_ble_eq_true rfl) dX5_init_23 (fun q2 => ?_)
  refine io_putF C (F1 := [(h0, .inr (5, [.ref q0, .ref q1, .ref q2, .null, .null, .int 0])), (q0, .inl (cI, 60, .inl (fun _ => 0))), (q1, .inl (cI, 60, .inl (fun _ => 0))), (q2, .inl (cI, 60, .inl (fun _ => 0)))]) 0 rfl rfl inlX5 tyX5 tyX5_ok nmX5 2 (by decide) wd_58 rfl rfl rfl (tyX5_ok 2 (by decide)) rfl rfl (Nat.le_of_ble_eq_true rfl) rfl dX5_init_25 ?_
  refine io_aload_n C dX5_init_28 0 rfl ?_
  refine io_bipush C (v := 12) dX5_init_29 (by decide) ?_
  refine io_bipush C (v := 8) dX5_init_31 (by decide) ?_
  refine io_mnaI C 3 0 rfl rfl wd_59 wd_39 (by decide) (by decide) (N := 12) (K := 8) (by decide) (by decide) (Nat.le_of_ble_eq_true rfl) (Nat.le_of_ble_eq_true rfl) (Nat.le_of_ble_eq_true rfl) (Nat.le_of_ble_eq_true rfl) (Nat.le_of_ble_eq_true rfl) dX5_init_33 (fun q3 rr => ?_)
  refine io_putF C (F1 := [(h0, .inr (5, [.ref q0, .ref q1, .ref q2, .ref q3, .null, .int 0])), (q0, .inl (cI, 60, .inl (fun _ => 0))), (q1, .inl (cI, 60, .inl (fun _ => 0))), (q2, .inl (cI, 60, .inl (fun _ => 0))), (q3, .inl (cRI, 12, .inr (.inr (.inr (.inr (fun i => if i < 12 then some (rr i) else none))))))]) 0 rfl rfl inlX5 tyX5 tyX5_ok nmX5 3 (by decide) wd_60 rfl rfl rfl (tyX5_ok 3 (by decide)) rfl rfl (Nat.le_of_ble_eq_true rfl) rfl dX5_init_37 ?_
  refine io_aload_n C dX5_init_40 0 rfl ?_
  refine io_bipush C (v := 12) dX5_init_41 (by decide) ?_
  refine io_newI C 0 rfl wd_39 (by decide) (N := 12) (by decide) (Nat.le_of_ble_eq_true rfl) (Nat.le_of_ble_eq_true rfl) (Nat.le_of_ble_eq_true rfl) dX5_init_43 (fun q4 => ?_)
  refine io_putF C (F1 := [(h0, .inr (5, [.ref q0, .ref q1, .ref q2, .ref q3, .ref q4, .int 0])), (q0, .inl (cI, 60, .inl (fun _ => 0))), (q1, .inl (cI, 60, .inl (fun _ => 0))), (q2, .inl (cI, 60, .inl (fun _ => 0))), (q3, .inl (cRI, 12, .inr (.inr (.inr (.inr (fun i => if i < 12 then some (rr i) else none)))))), (q4, .inl (cI, 12, .inl (fun _ => 0)))]) 0 rfl rfl inlX5 tyX5 tyX5_ok nmX5 4 (by decide) wd_61 rfl rfl rfl (tyX5_ok 4 (by decide)) rfl rfl (Nat.le_of_ble_eq_true rfl) rfl dX5_init_45 ?_
  refine io_aload_n C dX5_init_48 0 rfl ?_
  refine io_iconst C (v := 0) dX5_init_49 (by decide) ?_
  refine io_putf C (F1 := [(h0, .inr (5, [.ref q0, .ref q1, .ref q2, .ref q3, .ref q4, .int 0])), (q0, .inl (cI, 60, .inl (fun _ => 0))), (q1, .inl (cI, 60, .inl (fun _ => 0))), (q2, .inl (cI, 60, .inl (fun _ => 0))), (q3, .inl (cRI, 12, .inr (.inr (.inr (.inr (fun i => if i < 12 then some (rr i) else none)))))), (q4, .inl (cI, 12, .inl (fun _ => 0)))]) 0 rfl rfl inlX5 tyX5 tyX5_ok nmX5 5 (by decide) wd_62 rfl rfl (tyX5_ok 5 (by decide)) rfl rfl (Nat.le_of_ble_eq_true rfl) rfl dX5_init_50 ?_
  exact io_ret C (fun i => [q0, q1, q2, q3, q4].getD i 0, rr) trivial (is := [0, 1, 2, 3, 4, 5, 6, 7, 8, 9, 10, 11, 12, 13, 14, 15, 16, 17]) rfl (by decide) rfl rfl dX5_init_53
abbrev rmIX2 : Room := { frames := 1, cells := 3, slots := 72, locals := 12 }
def wIX2 (cI cB cS cRI cRB : ClassId) (h : Nat) (u : (Nat → Nat)) : va_W := [(h, .inr (2, [.ref (u 0), .ref (u 1), .ref (u 2), .int 0, .int 0, .int 0])), ((u 0), .inl (cI, 24, .inl (fun _ => 0))), ((u 1), .inl (cI, 24, .inl (fun _ => 0))), ((u 2), .inl (cI, 24, .inl (fun _ => 0)))]
set_option maxRecDepth 100000 in
set_option maxHeartbeats 4000000 in
theorem iX2 (l : Launch) (D : va_G) (cI cB cS cRI cRB : ClassId) (h0 : Nat) : io_M D [(cI, .int), (cB, .byte), (cS, .object "LineCaster$Sheet"), (cRI, .array .int), (cRB, .array .byte)] l yX2_init cX2_init 1 rmIX2 h0 [(h0, .inr (2, [.null, .null, .null, .int 0, .int 0, .int 0]))] (wIX2 cI cB cS cRI cRB h0) (fun _ => True) 3 72 := by
  refine io_of (own := RX2) (by decide) rfl rfl (Nat.le_of_ble_eq_true rfl) (fun Ω C => ?_)
  refine io_aload_n C dX2_init_0 0 rfl ?_
  refine io_objI C wd_65 wd_11 wd_12 (by decide) (by decide) dX2_init_1 ?_
  refine io_aload_n C dX2_init_4 0 rfl ?_
  refine io_bipush C (v := 24) dX2_init_5 (by decide) ?_
  refine io_newI C 0 rfl wd_39 (by decide) (N := 24) (by decide) (Nat.le_of_ble_eq_true rfl) (Nat.le_of_ble_eq_true rfl) (Nat.le_of_ble_eq_true rfl) dX2_init_7 (fun q0 => ?_)
  refine io_putF C (F1 := [(h0, .inr (2, [.ref q0, .null, .null, .int 0, .int 0, .int 0])), (q0, .inl (cI, 24, .inl (fun _ => 0)))]) 0 rfl rfl inlX2 tyX2 tyX2_ok nmX2 0 (by decide) wd_66 rfl rfl rfl (tyX2_ok 0 (by decide)) rfl rfl (Nat.le_of_ble_eq_true rfl) rfl dX2_init_9 ?_
  refine io_aload_n C dX2_init_12 0 rfl ?_
  refine io_bipush C (v := 24) dX2_init_13 (by decide) ?_
  refine io_newI C 0 rfl wd_39 (by decide) (N := 24) (by decide) (Nat.le_of_ble_eq_true rfl) (Nat.le_of_ble_eq_true rfl) (Nat.le_of_ble_eq_true rfl) dX2_init_15 (fun q1 => ?_)
  refine io_putF C (F1 := [(h0, .inr (2, [.ref q0, .ref q1, .null, .int 0, .int 0, .int 0])), (q0, .inl (cI, 24, .inl (fun _ => 0))), (q1, .inl (cI, 24, .inl (fun _ => 0)))]) 0 rfl rfl inlX2 tyX2 tyX2_ok nmX2 1 (by decide) wd_67 rfl rfl rfl (tyX2_ok 1 (by decide)) rfl rfl (Nat.le_of_ble_eq_true rfl) rfl dX2_init_17 ?_
  refine io_aload_n C dX2_init_20 0 rfl ?_
  refine io_bipush C (v := 24) dX2_init_21 (by decide) ?_
  refine io_newI C 0 rfl wd_39 (by decide) (N := 24) (by decide) (Nat.le_of_ble_eq_true rfl) (Nat.le_of_ble_eq_true rfl) (Nat.le_of_ble_eq_true rfl) dX2_init_23 (fun q2 => ?_)
  refine io_putF C (F1 := [(h0, .inr (2, [.ref q0, .ref q1, .ref q2, .int 0, .int 0, .int 0])), (q0, .inl (cI, 24, .inl (fun _ => 0))), (q1, .inl (cI, 24, .inl (fun _ => 0))), (q2, .inl (cI, 24, .inl (fun _ => 0)))]) 0 rfl rfl inlX2 tyX2 tyX2_ok nmX2 2 (by decide) wd_68 rfl rfl rfl (tyX2_ok 2 (by decide)) rfl rfl (Nat.le_of_ble_eq_true rfl) rfl dX2_init_25 ?_
  refine io_aload_n C dX2_init_28 0 rfl ?_
  refine io_iconst C (v := 0) dX2_init_29 (by decide) ?_
  refine io_putf C (F1 := [(h0, .inr (2, [.ref q0, .ref q1, .ref q2, .int 0, .int 0, .int 0])), (q0, .inl (cI, 24, .inl (fun _ => 0))), (q1, .inl (cI, 24, .inl (fun _ => 0))), (q2, .inl (cI, 24, .inl (fun _ => 0)))]) 0 rfl rfl inlX2 tyX2 tyX2_ok nmX2 3 (by decide) wd_69 rfl rfl (tyX2_ok 3 (by decide)) rfl rfl (Nat.le_of_ble_eq_true rfl) rfl dX2_init_30 ?_
  refine io_aload_n C dX2_init_33 0 rfl ?_
  refine io_iconst C (v := 0) dX2_init_34 (by decide) ?_
  refine io_putf C (F1 := [(h0, .inr (2, [.ref q0, .ref q1, .ref q2, .int 0, .int 0, .int 0])), (q0, .inl (cI, 24, .inl (fun _ => 0))), (q1, .inl (cI, 24, .inl (fun _ => 0))), (q2, .inl (cI, 24, .inl (fun _ => 0)))]) 0 rfl rfl inlX2 tyX2 tyX2_ok nmX2 4 (by decide) wd_70 rfl rfl (tyX2_ok 4 (by decide)) rfl rfl (Nat.le_of_ble_eq_true rfl) rfl dX2_init_35 ?_
  refine io_aload_n C dX2_init_38 0 rfl ?_
  refine io_iconst C (v := 0) dX2_init_39 (by decide) ?_
  refine io_putf C (F1 := [(h0, .inr (2, [.ref q0, .ref q1, .ref q2, .int 0, .int 0, .int 0])), (q0, .inl (cI, 24, .inl (fun _ => 0))), (q1, .inl (cI, 24, .inl (fun _ => 0))), (q2, .inl (cI, 24, .inl (fun _ => 0)))]) 0 rfl rfl inlX2 tyX2 tyX2_ok nmX2 5 (by decide) wd_71 rfl rfl (tyX2_ok 5 (by decide)) rfl rfl (Nat.le_of_ble_eq_true rfl) rfl dX2_init_40 ?_
  exact io_ret C (fun i => [q0, q1, q2].getD i 0) trivial (is := [0, 1, 2, 3]) rfl (by decide) rfl rfl dX2_init_43
abbrev rmIX1 : Room := { frames := 1, cells := 3, slots := 180, locals := 12 }
def wIX1 (cI cB cS cRI cRB : ClassId) (h : Nat) (u : (Nat → Nat)) : va_W := [(h, .inr (1, [.ref (u 0), .ref (u 1), .ref (u 2), .int 0, .int 0])), ((u 0), .inl (cI, 60, .inl (fun _ => 0))), ((u 1), .inl (cI, 60, .inl (fun _ => 0))), ((u 2), .inl (cI, 60, .inl (fun _ => 0)))]
set_option maxRecDepth 100000 in
set_option maxHeartbeats 4000000 in
theorem iX1 (l : Launch) (D : va_G) (cI cB cS cRI cRB : ClassId) (h0 : Nat) : io_M D [(cI, .int), (cB, .byte), (cS, .object "LineCaster$Sheet"), (cRI, .array .int), (cRB, .array .byte)] l yX1_init cX1_init 1 rmIX1 h0 [(h0, .inr (1, [.null, .null, .null, .int 0, .int 0]))] (wIX1 cI cB cS cRI cRB h0) (fun _ => True) 3 180 := by
  refine io_of (own := RX1) (by decide) rfl rfl (Nat.le_of_ble_eq_true rfl) (fun Ω C => ?_)
  refine io_aload_n C dX1_init_0 0 rfl ?_
  refine io_objI C wd_74 wd_11 wd_12 (by decide) (by decide) dX1_init_1 ?_
  refine io_aload_n C dX1_init_4 0 rfl ?_
  refine io_bipush C (v := 60) dX1_init_5 (by decide) ?_
  refine io_newI C 0 rfl wd_39 (by decide) (N := 60) (by decide) (Nat.le_of_ble_eq_true rfl) (Nat.le_of_ble_eq_true rfl) (Nat.le_of_ble_eq_true rfl) dX1_init_7 (fun q0 => ?_)
  refine io_putF C (F1 := [(h0, .inr (1, [.ref q0, .null, .null, .int 0, .int 0])), (q0, .inl (cI, 60, .inl (fun _ => 0)))]) 0 rfl rfl inlX1 tyX1 tyX1_ok nmX1 0 (by decide) wd_75 rfl rfl rfl (tyX1_ok 0 (by decide)) rfl rfl (Nat.le_of_ble_eq_true rfl) rfl dX1_init_9 ?_
  refine io_aload_n C dX1_init_12 0 rfl ?_
  refine io_bipush C (v := 60) dX1_init_13 (by decide) ?_
  refine io_newI C 0 rfl wd_39 (by decide) (N := 60) (by decide) (Nat.le_of_ble_eq_true rfl) (Nat.le_of_ble_eq_true rfl) (Nat.le_of_ble_eq_true rfl) dX1_init_15 (fun q1 => ?_)
  refine io_putF C (F1 := [(h0, .inr (1, [.ref q0, .ref q1, .null, .int 0, .int 0])), (q0, .inl (cI, 60, .inl (fun _ => 0))), (q1, .inl (cI, 60, .inl (fun _ => 0)))]) 0 rfl rfl inlX1 tyX1 tyX1_ok nmX1 1 (by decide) wd_76 rfl rfl rfl (tyX1_ok 1 (by decide)) rfl rfl (Nat.le_of_ble_eq_true rfl) rfl dX1_init_17 ?_
  refine io_aload_n C dX1_init_20 0 rfl ?_
  refine io_bipush C (v := 60) dX1_init_21 (by decide) ?_
  refine io_newI C 0 rfl wd_39 (by decide) (N := 60) (by decide) (Nat.le_of_ble_eq_true rfl) (Nat.le_of_ble_eq_true rfl) (Nat.le_of_ble_eq_true rfl) dX1_init_23 (fun q2 => ?_)
  refine io_putF C (F1 := [(h0, .inr (1, [.ref q0, .ref q1, .ref q2, .int 0, .int 0])), (q0, .inl (cI, 60, .inl (fun _ => 0))), (q1, .inl (cI, 60, .inl (fun _ => 0))), (q2, .inl (cI, 60, .inl (fun _ => 0)))]) 0 rfl rfl inlX1 tyX1 tyX1_ok nmX1 2 (by decide) wd_77 rfl rfl rfl (tyX1_ok 2 (by decide)) rfl rfl (Nat.le_of_ble_eq_true rfl) rfl dX1_init_25 ?_
  refine io_aload_n C dX1_init_28 0 rfl ?_
  refine io_iconst C (v := 0) dX1_init_29 (by decide) ?_
  refine io_putf C (F1 := [(h0, .inr (1, [.ref q0, .ref q1, .ref q2, .int 0, .int 0])), (q0, .inl (cI, 60, .inl (fun _ => 0))), (q1, .inl (cI, 60, .inl (fun _ => 0))), (q2, .inl (cI, 60, .inl (fun _ => 0)))]) 0 rfl rfl inlX1 tyX1 tyX1_ok nmX1 3 (by decide) wd_78 rfl rfl (tyX1_ok 3 (by decide)) rfl rfl (Nat.le_of_ble_eq_true rfl) rfl dX1_init_30 ?_
  refine io_aload_n C dX1_init_33 0 rfl ?_
  refine io_iconst C (v := 0) dX1_init_34 (by decide) ?_
  refine io_putf C (F1 := [(h0, .inr (1, [.ref q0, .ref q1, .ref q2, .int 0, .int 0])), (q0, .inl (cI, 60, .inl (fun _ => 0))), (q1, .inl (cI, 60, .inl (fun _ => 0))), (q2, .inl (cI, 60, .inl (fun _ => 0)))]) 0 rfl rfl inlX1 tyX1 tyX1_ok nmX1 4 (by decide) wd_79 rfl rfl (tyX1_ok 4 (by decide)) rfl rfl (Nat.le_of_ble_eq_true rfl) rfl dX1_init_35 ?_
  exact io_ret C (fun i => [q0, q1, q2].getD i 0) trivial (is := [0, 1, 2, 3]) rfl (by decide) rfl rfl dX1_init_38
abbrev rmIX4 : Room := { frames := 1, cells := 42, slots := 1040, locals := 12 }
def wIX4 (cI cB cS cRI cRB : ClassId) (h : Nat) (u : ((Nat → Nat) × (Nat → Nat))) : va_W := [(h, .inr (4, [.ref (u.1 0), .ref (u.1 1), .int 0])), ((u.1 0), .inl (cRB, 40, .inr (.inr (.inr (.inr (fun i => if i < 40 then some (u.2 i) else none)))))), ((u.1 1), .inl (cI, 40, .inl (fun _ => 0)))] ++ (List.range 40).map (fun i => (u.2 i, .inl (cB, 24, .inl (fun _ => 0))))
set_option maxRecDepth 100000 in
set_option maxHeartbeats 4000000 in
theorem iX4 (l : Launch) (D : va_G) (cI cB cS cRI cRB : ClassId) (h0 : Nat) : io_M D [(cI, .int), (cB, .byte), (cS, .object "LineCaster$Sheet"), (cRI, .array .int), (cRB, .array .byte)] l yX4_init cX4_init 1 rmIX4 h0 [(h0, .inr (4, [.null, .null, .int 0]))] (wIX4 cI cB cS cRI cRB h0) (fun _ => True) 42 1040 := by
  refine io_of (own := RX4) (by decide) rfl rfl (Nat.le_of_ble_eq_true rfl) (fun Ω C => ?_)
  refine io_aload_n C dX4_init_0 0 rfl ?_
  refine io_objI C wd_82 wd_11 wd_12 (by decide) (by decide) dX4_init_1 ?_
  refine io_aload_n C dX4_init_4 0 rfl ?_
  refine io_bipush C (v := 40) dX4_init_5 (by decide) ?_
  refine io_bipush C (v := 24) dX4_init_7 (by decide) ?_
  refine io_mnaB C 4 1 rfl rfl wd_83 wd_84 (by decide) (by decide) (N := 40) (K := 24) (by decide) (by decide) (Nat.le_of_ble_eq_true rfl) (Nat.le_of_ble_eq_true rfl) (Nat.le_of_ble_eq_true rfl) (Nat.le_of_ble_eq_true rfl) (Nat.le_of_ble_eq_true rfl) dX4_init_9 (fun q0 rr => ?_)
  refine io_putF C (F1 := [(h0, .inr (4, [.ref q0, .null, .int 0])), (q0, .inl (cRB, 40, .inr (.inr (.inr (.inr (fun i => if i < 40 then some (rr i) else none))))))]) 0 rfl rfl inlX4 tyX4 tyX4_ok nmX4 0 (by decide) wd_85 rfl rfl rfl (tyX4_ok 0 (by decide)) rfl rfl (Nat.le_of_ble_eq_true rfl) rfl dX4_init_13 ?_
  refine io_aload_n C dX4_init_16 0 rfl ?_
  refine io_bipush C (v := 40) dX4_init_17 (by decide) ?_
  refine io_newI C 0 rfl wd_39 (by decide) (N := 40) (by decide) (Nat.le_of_ble_eq_true rfl) (Nat.le_of_ble_eq_true rfl) (Nat.le_of_ble_eq_true rfl) dX4_init_19 (fun q1 => ?_)
  refine io_putF C (F1 := [(h0, .inr (4, [.ref q0, .ref q1, .int 0])), (q0, .inl (cRB, 40, .inr (.inr (.inr (.inr (fun i => if i < 40 then some (rr i) else none)))))), (q1, .inl (cI, 40, .inl (fun _ => 0)))]) 0 rfl rfl inlX4 tyX4 tyX4_ok nmX4 1 (by decide) wd_86 rfl rfl rfl (tyX4_ok 1 (by decide)) rfl rfl (Nat.le_of_ble_eq_true rfl) rfl dX4_init_21 ?_
  refine io_aload_n C dX4_init_24 0 rfl ?_
  refine io_iconst C (v := 0) dX4_init_25 (by decide) ?_
  refine io_putf C (F1 := [(h0, .inr (4, [.ref q0, .ref q1, .int 0])), (q0, .inl (cRB, 40, .inr (.inr (.inr (.inr (fun i => if i < 40 then some (rr i) else none)))))), (q1, .inl (cI, 40, .inl (fun _ => 0)))]) 0 rfl rfl inlX4 tyX4 tyX4_ok nmX4 2 (by decide) wd_87 rfl rfl (tyX4_ok 2 (by decide)) rfl rfl (Nat.le_of_ble_eq_true rfl) rfl dX4_init_26 ?_
  exact io_ret C (fun i => [q0, q1].getD i 0, rr) trivial (is := [0, 1, 2, 3, 4, 5, 6, 7, 8, 9, 10, 11, 12, 13, 14, 15, 16, 17, 18, 19, 20, 21, 22, 23, 24, 25, 26, 27, 28, 29, 30, 31, 32, 33, 34, 35, 36, 37, 38, 39, 40, 41, 42]) rfl (by decide) rfl rfl dX4_init_29
abbrev rmIX6 : Room := { frames := 1, cells := 1, slots := 60, locals := 12 }
def wIX6 (cI cB cS cRI cRB : ClassId) (h : Nat) (u : (Nat → Nat)) : va_W := [(h, .inr (6, [.ref (u 0), .int 0])), ((u 0), .inl (cI, 60, .inl (fun _ => 0)))]
set_option maxRecDepth 100000 in
set_option maxHeartbeats 4000000 in
theorem iX6 (l : Launch) (D : va_G) (cI cB cS cRI cRB : ClassId) (h0 : Nat) : io_M D [(cI, .int), (cB, .byte), (cS, .object "LineCaster$Sheet"), (cRI, .array .int), (cRB, .array .byte)] l yX6_init cX6_init 1 rmIX6 h0 [(h0, .inr (6, [.null, .int 0]))] (wIX6 cI cB cS cRI cRB h0) (fun _ => True) 1 60 := by
  refine io_of (own := RX6) (by decide) rfl rfl (Nat.le_of_ble_eq_true rfl) (fun Ω C => ?_)
  refine io_aload_n C dX6_init_0 0 rfl ?_
  refine io_objI C wd_90 wd_11 wd_12 (by decide) (by decide) dX6_init_1 ?_
  refine io_aload_n C dX6_init_4 0 rfl ?_
  refine io_bipush C (v := 60) dX6_init_5 (by decide) ?_
  refine io_newI C 0 rfl wd_39 (by decide) (N := 60) (by decide) (Nat.le_of_ble_eq_true rfl) (Nat.le_of_ble_eq_true rfl) (Nat.le_of_ble_eq_true rfl) dX6_init_7 (fun q0 => ?_)
  refine io_putF C (F1 := [(h0, .inr (6, [.ref q0, .int 0])), (q0, .inl (cI, 60, .inl (fun _ => 0)))]) 0 rfl rfl inlX6 tyX6 tyX6_ok nmX6 0 (by decide) wd_91 rfl rfl rfl (tyX6_ok 0 (by decide)) rfl rfl (Nat.le_of_ble_eq_true rfl) rfl dX6_init_9 ?_
  refine io_aload_n C dX6_init_12 0 rfl ?_
  refine io_iconst C (v := 0) dX6_init_13 (by decide) ?_
  refine io_putf C (F1 := [(h0, .inr (6, [.ref q0, .int 0])), (q0, .inl (cI, 60, .inl (fun _ => 0)))]) 0 rfl rfl inlX6 tyX6 tyX6_ok nmX6 1 (by decide) wd_92 rfl rfl (tyX6_ok 1 (by decide)) rfl rfl (Nat.le_of_ble_eq_true rfl) rfl dX6_init_14 ?_
  exact io_ret C (fun i => [q0].getD i 0) trivial (is := [0, 1]) rfl (by decide) rfl rfl dX6_init_17
abbrev rmIX3 : Room := { frames := 1, cells := 1, slots := 40, locals := 12 }
def wIX3 (cI cB cS cRI cRB : ClassId) (h : Nat) (u : (Nat → Nat)) : va_W := [(h, .inr (3, [.ref (u 0), .int 0, .int 0, .int 0])), ((u 0), .inl (cI, 40, .inl (fun _ => 0)))]
set_option maxRecDepth 100000 in
set_option maxHeartbeats 4000000 in
theorem iX3 (l : Launch) (D : va_G) (cI cB cS cRI cRB : ClassId) (h0 : Nat) : io_M D [(cI, .int), (cB, .byte), (cS, .object "LineCaster$Sheet"), (cRI, .array .int), (cRB, .array .byte)] l yX3_init cX3_init 1 rmIX3 h0 [(h0, .inr (3, [.null, .int 0, .int 0, .int 0]))] (wIX3 cI cB cS cRI cRB h0) (fun _ => True) 1 40 := by
  refine io_of (own := RX3) (by decide) rfl rfl (Nat.le_of_ble_eq_true rfl) (fun Ω C => ?_)
  refine io_aload_n C dX3_init_0 0 rfl ?_
  refine io_objI C wd_95 wd_11 wd_12 (by decide) (by decide) dX3_init_1 ?_
  refine io_aload_n C dX3_init_4 0 rfl ?_
  refine io_bipush C (v := 40) dX3_init_5 (by decide) ?_
  refine io_newI C 0 rfl wd_39 (by decide) (N := 40) (by decide) (Nat.le_of_ble_eq_true rfl) (Nat.le_of_ble_eq_true rfl) (Nat.le_of_ble_eq_true rfl) dX3_init_7 (fun q0 => ?_)
  refine io_putF C (F1 := [(h0, .inr (3, [.ref q0, .int 0, .int 0, .int 0])), (q0, .inl (cI, 40, .inl (fun _ => 0)))]) 0 rfl rfl inlX3 tyX3 tyX3_ok nmX3 0 (by decide) wd_96 rfl rfl rfl (tyX3_ok 0 (by decide)) rfl rfl (Nat.le_of_ble_eq_true rfl) rfl dX3_init_9 ?_
  refine io_aload_n C dX3_init_12 0 rfl ?_
  refine io_iconst C (v := 0) dX3_init_13 (by decide) ?_
  refine io_putf C (F1 := [(h0, .inr (3, [.ref q0, .int 0, .int 0, .int 0])), (q0, .inl (cI, 40, .inl (fun _ => 0)))]) 0 rfl rfl inlX3 tyX3 tyX3_ok nmX3 1 (by decide) wd_97 rfl rfl (tyX3_ok 1 (by decide)) rfl rfl (Nat.le_of_ble_eq_true rfl) rfl dX3_init_14 ?_
  refine io_aload_n C dX3_init_17 0 rfl ?_
  refine io_iconst C (v := 0) dX3_init_18 (by decide) ?_
  refine io_putf C (F1 := [(h0, .inr (3, [.ref q0, .int 0, .int 0, .int 0])), (q0, .inl (cI, 40, .inl (fun _ => 0)))]) 0 rfl rfl inlX3 tyX3 tyX3_ok nmX3 2 (by decide) wd_98 rfl rfl (tyX3_ok 2 (by decide)) rfl rfl (Nat.le_of_ble_eq_true rfl) rfl dX3_init_19 ?_
  refine io_aload_n C dX3_init_22 0 rfl ?_
  refine io_iconst C (v := 0) dX3_init_23 (by decide) ?_
  refine io_putf C (F1 := [(h0, .inr (3, [.ref q0, .int 0, .int 0, .int 0])), (q0, .inl (cI, 40, .inl (fun _ => 0)))]) 0 rfl rfl inlX3 tyX3 tyX3_ok nmX3 3 (by decide) wd_99 rfl rfl (tyX3_ok 3 (by decide)) rfl rfl (Nat.le_of_ble_eq_true rfl) rfl dX3_init_24 ?_
  exact io_ret C (fun i => [q0].getD i 0) trivial (is := [0, 1]) rfl (by decide) rfl rfl dX3_init_27
