set_option maxHeartbeats 4000000 in
set_option maxRecDepth 100000 in
theorem whole_start_of {Inv : la_Mem → la_Mem → Prop} (hI : ∀ n, lw_S Inv n) (hI0 : Inv muX7 muX8) {p : Program} {e : Env} {s : State} {m : MethodId} {below : List Frame} {meth : Method} {c : Code} (l : Launch) {b L : Nat} {xs : Nat → Int32} (hL : L ≤ 3584) (C0 : lw_At p s m meth c b L xs) : W p l e room_1 s m #[Value.ref b] below meth c s.heap [] 0 0 (lw_Z below #[Value.ref b] s) (entryFrame m ([Value.ref b] : List Value).toArray 4) := by
  obtain ⟨hx, hb, hr, hml, hown, hts0, hX, hbl, hlocks, hgv⟩ := C0
  have hts : ∀ w ∈ wsL_law, w.before #[Value.ref b] s = true := fun w h => hts0 w (wsL_law_in w h)
  have hA : ∀ q : Nat, s.heap.size ≤ q → (fun q : Nat => s.heap.size ≤ q) q := fun _ h => h
  obtain ⟨c0, iS0, hKn0⟩ := u_known (C := RX0) (T := TX0) (N := 2) (n := 2) hts inlX0 (hts (Cond.instantiable RX0 2) (List.mem_of_getElem? (i := 14) (by decide +kernel)))
  obtain ⟨c1, iS1, hKn1⟩ := u_known (C := RX1) (T := TX1) (N := 5) (n := 5) hts inlX1 (hts (Cond.instantiable RX1 5) (List.mem_of_getElem? (i := 26) (by decide +kernel)))
  obtain ⟨c2, iS2, hKn2⟩ := u_known (C := RX2) (T := TX2) (N := 6) (n := 6) hts inlX2 (hts (Cond.instantiable RX2 6) (List.mem_of_getElem? (i := 22) (by decide +kernel)))
  obtain ⟨c3, iS3, hKn3⟩ := u_known (C := RX3) (T := TX3) (N := 4) (n := 4) hts inlX3 (hts (Cond.instantiable RX3 4) (List.mem_of_getElem? (i := 45) (by decide +kernel)))
  obtain ⟨c4, iS4, hKn4⟩ := u_known (C := RX4) (T := TX4) (N := 3) (n := 3) hts inlX4 (hts (Cond.instantiable RX4 3) (List.mem_of_getElem? (i := 30) (by decide +kernel)))
  obtain ⟨c5, iS5, hKn5⟩ := u_known (C := RX5) (T := TX5) (N := 6) (n := 6) hts inlX5 (hts (Cond.instantiable RX5 6) (List.mem_of_getElem? (i := 18) (by decide +kernel)))
  obtain ⟨c6, iS6, hKn6⟩ := u_known (C := RX6) (T := TX6) (N := 2) (n := 2) hts inlX6 (hts (Cond.instantiable RX6 2) (List.mem_of_getElem? (i := 34) (by decide +kernel)))
  obtain ⟨c7, iS7, hKn7⟩ := u_known (C := RX7) (T := TX7) (N := 12) (n := 12) hts inlX7 (hts (Cond.instantiable RX7 12) (List.mem_of_getElem? (i := 1) (by decide +kernel)))
  obtain ⟨c8, iS8, hKn8⟩ := u_known (C := RX8) (T := TX8) (N := 34) (n := 34) hts inlX8 (hts (Cond.instantiable RX8 34) (List.mem_of_getElem? (i := 4) (by decide +kernel)))
  obtain ⟨D, hKc⟩ : ∃ D : va_G, ∀ (k : Nat) (q : vw_C), vwCl[k]? = some q → u_Kn s q.1 q.2.1 q.2.2 (D.1 k) (D.2 k) := by
    refine ⟨(fun k => if k = 0 then c0 else if k = 1 then c1 else if k = 2 then c2 else if k = 3 then c3 else if k = 4 then c4 else if k = 5 then c5 else if k = 6 then c6 else if k = 7 then c7 else c8, fun k => if k = 0 then iS0 else if k = 1 then iS1 else if k = 2 then iS2 else if k = 3 then iS3 else if k = 4 then iS4 else if k = 5 then iS5 else if k = 6 then iS6 else if k = 7 then iS7 else iS8), ?_⟩
    intro k q hq
    match k, hq with
    | 0, hq => cases hq; exact hKn0
    | 1, hq => cases hq; exact hKn1
    | 2, hq => cases hq; exact hKn2
    | 3, hq => cases hq; exact hKn3
    | 4, hq => cases hq; exact hKn4
    | 5, hq => cases hq; exact hKn5
    | 6, hq => cases hq; exact hKn6
    | 7, hq => cases hq; exact hKn7
    | 8, hq => cases hq; exact hKn8
    | k + 9, hq => simp [vwCl] at hq
  obtain ⟨cI, kI, pI, fI, gI, eI⟩ := Cond.arrayClass_spec (hts (Cond.arrayClass .int) (List.mem_of_getElem? (i := 39) (by decide +kernel)))
  obtain ⟨cB, kB, pB, fB, gB, eB⟩ := Cond.arrayClass_spec (hts (Cond.arrayClass .byte) (List.mem_of_getElem? (i := 84) (by decide +kernel)))
  have hS0 : va_AO "LineCaster$Sheet" s := va_AO.of (A := #[Value.ref b]) (hts0 _ (by decide +kernel))
  have hRI0 : va_AOA .int s := hts0 (Cond.arrayOver (.array .int)) (by decide +kernel)
  have hRB0 : va_AOA .byte s := hts0 (Cond.arrayOver (.array .byte)) (by decide +kernel)
  obtain ⟨pS, cS, kS, fS, -, gS, eS, nS⟩ := Cond.arrayOver_spec hS0
  obtain ⟨pRI, cRI, kRI, fRI, gRI, eRI, nRI⟩ := Cond.arrayOver_specA hRI0
  obtain ⟨pRB, cRB, kRB, fRB, gRB, eRB, nRB⟩ := Cond.arrayOver_specA hRB0
  have hE : io_E s := ⟨hS0, hRI0, hRB0, va_Nw.of rfl (hts0 (Cond.methodLinkNest RX7 18 yX5_init "LineCaster") (by decide +kernel)), va_Nw.of rfl (hts0 (Cond.methodLinkNest RX7 25 yX2_init "LineCaster") (by decide +kernel)), va_Nw.of rfl (hts0 (Cond.methodLinkNest RX7 32 yX1_init "LineCaster") (by decide +kernel)), va_Nw.of rfl (hts0 (Cond.methodLinkNest RX7 39 yX4_init "LineCaster") (by decide +kernel)), va_Nw.of rfl (hts0 (Cond.methodLinkNest RX7 46 yX6_init "LineCaster") (by decide +kernel)), va_Nw.of rfl (hts0 (Cond.methodLinkNest RX7 74 yX3_init "LineCaster") (by decide +kernel))⟩
  have hK : va_K D vwCl [(cI, .int), (cB, .byte), (cS, .object "LineCaster$Sheet"), (cRI, .array .int), (cRB, .array .byte)] s := by
    refine ⟨hKc, fun k q hk => ?_⟩
    match k, hk with
    | 0, hk => cases hk; exact ⟨fun n z => ⟨fun k h => (by cases h), kI, gI, pI, eI⟩, fI⟩
    | 1, hk => cases hk; exact ⟨fun n z => ⟨fun k h => (by cases h), kB, gB, pB, eB⟩, fB⟩
    | 2, hk => cases hk; exact ⟨fun n z => ⟨fun k h => (by cases h), kS, gS, pS, eS⟩, ⟨kS, pS, gS, eS, fS, nS⟩⟩
    | 3, hk => cases hk; exact ⟨fun n z => ⟨fun k h => (by cases h), kRI, gRI, pRI, eRI⟩, nRI⟩
    | 4, hk => cases hk; exact ⟨fun n z => ⟨fun k h => (by cases h), kRB, gRB, pRB, eRB⟩, nRB⟩
    | k + 5, hk => simp at hk
  have hKm : va_K D vwCl [(cI, .int)] s := hK.sub [0] rfl
  have hS : va_S (fun q : Nat => s.heap.size ≤ q) s.heap s.heap [] := va_S.rf
  have hP : va_P D vwCl [] s.heap := fun k q h => by simp at h
  have hD : va_D (fun q : Nat => s.heap.size ≤ q) [] := ⟨fun i j p q h => by simp at h, fun k q h => by simp at h⟩
  have hl := lv_entry ([.ref b]) (n := 4) (Nat.le_of_ble_eq_true rfl)
  rw [lg_entry_eq]
  generalize (lg_sl ([.ref b]) ++ List.replicate (4 - (lg_sl ([.ref b])).length) Slot.unset).toArray = ls at hl ⊢
  have hl : lv_has ls 4 [(0, .ref b)] := hl
  refine va_new (ci := 7) (fs := [.null, .null, .null, .null, .null, .null, .null, .null, .null, .null, .null, .int 0]) (C := RX7) (T := TX7) (N := 12) hx hb hts inlX7 tyX7 tyX7_ok hown (hts (Cond.classLink RL 7 RX7) (List.mem_of_getElem? (i := 0) (by decide +kernel))) (hts (Cond.instantiable RX7 12) (List.mem_of_getElem? (i := 1) (by decide +kernel))) (hts (Cond.initialized RX7) (List.mem_of_getElem? (i := 2) (by decide +kernel))) hK hP hD hS hA rfl (by decide) (Nat.le_of_ble_eq_true rfl) (Nat.le_of_ble_eq_true rfl) dL_law_0 (fun q0 H hP hD hS => ?_)
  refine lv_dup hx hb dL_law_3 rfl ?_
  have hFc : ∀ a, va_A [(q0, .inr (7, [.null, .null, .null, .null, .null, .null, .null, .null, .null, .null, .null, .int 0]))] H.size a → s.heap.size ≤ a := by
    intro a h
    rcases h with ⟨k2, e2, h⟩ | h
    · exact hD.2 k2 (a, e2) h
    · exact Nat.le_trans hS.1 h
  refine va_callv (va_runI (As := []) (rest := [.ref q0]) ⟨hx, hb, hml, hown, hts⟩ (iX7 l D cI cB cS cRI cRB q0 H.size) (cwI 0 hts (fun w0 h0 => by rcases List.mem_cons.mp h0 with rfl | h0; exact la_gw _ (List.mem_of_getElem? (i := 9) (by decide +kernel)); exact la_gw _ h0) rfl rfl rfl (hts (Cond.initialized RX7) (List.mem_of_getElem? (i := 2) (by decide +kernel))) (hts (Cond.methodLink RL 9 yX7_init) (List.mem_of_getElem? (i := 7) (by decide +kernel))) (hts (Cond.instanceMethod yX7_init) (List.mem_of_getElem? (i := 8) (by decide +kernel))) rfl (by decide +kernel) ⟨Nat.le_of_ble_eq_true rfl, Nat.le_of_ble_eq_true rfl⟩) ⟨io_blind _ _ _, fun U hU hW => ⟨rfl, by rw [hU], by rw [hU]; exact hP, va_K.moved hW.alike hK, hD.weaken (fun _ _ _ _ => trivial), io_Ew hW hE⟩⟩ rfl rfl hl.1 rfl (lv_room (Nat.le_of_ble_eq_true rfl)) dL_law_4 ⟨Nat.le_of_ble_eq_true rfl, Nat.le_of_ble_eq_true rfl⟩) hS (fun a _ h => hFc a h) hFc (fun u t H1 locs ht hvm hw hB hz1 hk1 hS => ?_)
  obtain ⟨hP1, hD1⟩ := hB
  rw [ht] at hP1
  have hw : u 0 = q0 := hw
  subst hw
  have hD1 : va_D (fun q : Nat => s.heap.size ≤ q) (la_cells (LC ((cI, cB, cS, cRI, cRB), u, D)) muX7) := hD1.weaken (fun _ q _ h => hFc q.1 h)
  clear hk1 hFc hP hD
  generalize H1 = H at hP1 hS ⊢
  have hP : va_P D vwCl (la_cells (LC ((cI, cB, cS, cRI, cRB), u, D)) muX7) H := hP1
  have hD := hD1
  refine lv_astore_n (lv' := [(1, .ref (u 0)), (0, .ref b)]) hx hb dL_law_7 rfl hl (by decide) rfl (fun ls hl => ?_)
  refine va_new (ci := 8) (fs := [.null, .null, .null, .null, .null, .int 0, .null, .null, .null, .null, .null, .int 0, .int 0, .null, .int 0, .null, .null, .int 0, .int 0, .null, .null, .null, .int 0, .int 0, .null, .null, .null, .null, .null, .int 0, .null, .null, .null, .null]) (C := RX8) (T := TX8) (N := 34) hx hb hts inlX8 tyX8 tyX8_ok hown (hts (Cond.classLink RL 10 RX8) (List.mem_of_getElem? (i := 3) (by decide +kernel))) (hts (Cond.instantiable RX8 34) (List.mem_of_getElem? (i := 4) (by decide +kernel))) (hts (Cond.initialized RX8) (List.mem_of_getElem? (i := 5) (by decide +kernel))) hK hP hD hS hA rfl (by decide) (Nat.le_of_ble_eq_true rfl) (Nat.le_of_ble_eq_true rfl) dL_law_8 (fun q1 H hP hD hS => ?_)
  refine lv_dup hx hb dL_law_11 rfl ?_
  have hFc : ∀ a, va_A [(q1, .inr (8, [.null, .null, .null, .null, .null, .int 0, .null, .null, .null, .null, .null, .int 0, .int 0, .null, .int 0, .null, .null, .int 0, .int 0, .null, .null, .null, .int 0, .int 0, .null, .null, .null, .null, .null, .int 0, .null, .null, .null, .null]))] H.size a → s.heap.size ≤ a := by
    intro a h
    rcases h with ⟨k2, e2, h⟩ | h
    · have h0 : k2 = 0 := by
        have := (List.getElem?_eq_some_iff.mp h).1
        simp at this
        exact this
      subst h0
      have hx2 : (q1, (.inr (8, [.null, .null, .null, .null, .null, .int 0, .null, .null, .null, .null, .null, .int 0, .int 0, .null, .int 0, .null, .null, .int 0, .int 0, .null, .null, .null, .int 0, .int 0, .null, .null, .null, .null, .null, .int 0, .null, .null, .null, .null]) : va_E)) = (a, e2) := Option.some.inj h
      have h9 := hD.2 (la_cells (LC ((cI, cB, cS, cRI, cRB), u, D)) muX7).length (q1, .inr (8, [.null, .null, .null, .null, .null, .int 0, .null, .null, .null, .null, .null, .int 0, .int 0, .null, .int 0, .null, .null, .int 0, .int 0, .null, .null, .null, .int 0, .int 0, .null, .null, .null, .null, .null, .int 0, .null, .null, .null, .null])) (by simp)
      rw [hx2] at h9
      exact h9
    · exact Nat.le_trans hS.1 h
  have hPc : va_P D vwCl [(q1, .inr (8, [.null, .null, .null, .null, .null, .int 0, .null, .null, .null, .null, .null, .int 0, .int 0, .null, .int 0, .null, .null, .int 0, .int 0, .null, .null, .null, .int 0, .int 0, .null, .null, .null, .null, .null, .int 0, .null, .null, .null, .null]))] H := by
    intro k0 y0 hk0
    have h0 : k0 = 0 := by
      have := (List.getElem?_eq_some_iff.mp hk0).1
      simp at this
      exact this
    subst h0
    exact hP (la_cells (LC ((cI, cB, cS, cRI, cRB), u, D)) muX7).length y0 (by simpa using hk0)
  have hDc : va_D (fun _ => True) [(q1, (.inr (8, [.null, .null, .null, .null, .null, .int 0, .null, .null, .null, .null, .null, .int 0, .int 0, .null, .int 0, .null, .null, .int 0, .int 0, .null, .null, .null, .int 0, .int 0, .null, .null, .null, .null, .null, .int 0, .null, .null, .null, .null]) : va_E))] := ⟨fun i j a b ha hb _ => by
        have := (List.getElem?_eq_some_iff.mp ha).1
        have := (List.getElem?_eq_some_iff.mp hb).1
        simp at *
        omega, fun _ _ _ => trivial⟩
  refine va_callv (va_runI (As := []) (rest := [.ref q1]) ⟨hx, hb, hml, hown, hts⟩ (iX8 l D cI cB cS cRI cRB q1 H.size) (cwI 0 hts (fun w0 h0 => by rcases List.mem_cons.mp h0 with rfl | h0; exact la_gw _ (List.mem_of_getElem? (i := 102) (by decide +kernel)); exact la_gw _ h0) rfl rfl rfl (hts (Cond.initialized RX8) (List.mem_of_getElem? (i := 5) (by decide +kernel))) (hts (Cond.methodLink RL 12 yX8_init) (List.mem_of_getElem? (i := 100) (by decide +kernel))) (hts (Cond.instanceMethod yX8_init) (List.mem_of_getElem? (i := 101) (by decide +kernel))) rfl (by decide +kernel) ⟨Nat.le_of_ble_eq_true rfl, Nat.le_of_ble_eq_true rfl⟩) ⟨io_blind _ _ _, fun U hU hW => ⟨rfl, by rw [hU], by rw [hU]; exact hPc, va_K.moved hW.alike hK, hDc, io_Ew hW hE⟩⟩ rfl rfl hl.1 rfl (lv_room (Nat.le_of_ble_eq_true rfl)) dL_law_12 ⟨Nat.le_of_ble_eq_true rfl, Nat.le_of_ble_eq_true rfl⟩) hS (fun a _ h => hFc a h) hFc (fun v t H1 locs ht hvm hw hB hz1 hk1 hS => ?_)
  obtain ⟨hP1, hD1⟩ := hB
  rw [ht] at hP1
  have hw : v 0 = q1 := hw
  subst hw
  obtain ⟨hP3, hD3⟩ := io_join hP hD hk1 hFc hP1 hD1
  clear hk1 hFc hP hD hPc hDc
  generalize H1 = H at hP1 hP3 hS ⊢
  refine lv_astore_n (lv' := [(2, .ref (v 0)), (1, .ref (u 0)), (0, .ref b)]) hx hb dL_law_15 rfl hl (by decide) rfl (fun ls hl => ?_)
  refine lv_iconst (v := 0) hx hb dL_law_16 (by decide) ?_
  refine lv_istore_n (lv' := [(3, .int 0), (2, .ref (v 0)), (1, .ref (u 0)), (0, .ref b)]) hx hb dL_law_17 rfl hl (by decide) rfl (fun ls hl => ?_)
  refine W.widen (k := 600000) (n := 7302249) (Nat.le_of_ble_eq_true rfl) (Nat.le_of_ble_eq_true rfl) ?_
  have len : (la_cells (LC ((cI, cB, cS, cRI, cRB), u, D)) muX7).length = 88 := by unfold la_cells; rw [List.length_map, List.length_range]; rfl
  have gc : ∀ i, i < 88 → (la_cells (LC ((cI, cB, cS, cRI, cRB), u, D)) muX7 ++ la_cells (LM (cI, v, D)) muX8)[i]? = some (u i, (LC ((cI, cB, cS, cRI, cRB), u, D)).2.1 i (muX7 i)) := fun i hi => by
    rw [List.getElem?_append_left (by rw [len]; exact hi)]
    exact la_get (Y := LC ((cI, cB, cS, cRI, cRB), u, D)) hi
  have gm : ∀ i, i < 26 → (la_cells (LC ((cI, cB, cS, cRI, cRB), u, D)) muX7 ++ la_cells (LM (cI, v, D)) muX8)[88 + i]? = some (v i, (LM (cI, v, D)).2.1 i (muX8 i)) := fun i hi => by
    rw [List.getElem?_append_right (by rw [len]; exact Nat.le_add_right _ _), len, Nat.add_sub_cancel_left]
    exact la_get (Y := LM (cI, v, D)) hi
  have hPc : va_P D vwCl (la_cells (LC ((cI, cB, cS, cRI, cRB), u, D)) muX7) H := fun k q hk => by
    obtain ⟨h1, rfl⟩ := la_got hk
    exact hP3 k _ (gc k h1)
  refine lj_loop (zc := ((cI, cB, cS, cRI, cRB), u, D)) (zm := (cI, v, D)) hI hL ⟨p, e, s, m, below, meth, c, hx, hb, hr, hml, hown, hts, hlocks, hK, hKm, fun i j hi hj q => hD3.1 i j _ _ (gc i hi) (gc j hj) q, fun i j hi hj q => ?_, fun i j hi hj q => ?_, fun i hi => hD3.2 i _ (gc i hi), fun i hi => hD3.2 (88 + i) _ (gm i hi), hX, hbl, rfl⟩ (L + 8) 0 0 muX7 muX8 (by omega) (by omega) nI_0.symm hI0 H _ ls hPc hP1 hS (lv_sub hl [3, 2, 1, 0] rfl)
  · have h9 := hD3.1 (88 + i) (88 + j) _ _ (gm i hi) (gm j hj) q
    omega
  · have h9 := hD3.1 i (88 + j) _ _ (gc i hi) (gm j hj) q
    omega
