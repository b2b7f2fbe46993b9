/-! constructors: a world that grows; all loops of theirs run over written numbers and are walked to their end -/
def va_AOA (ty : FieldType) (U : State) : Prop := (Cond.arrayOver (.array ty)).before #[] U = true
theorem va_AOA.use {ty : FieldType} {A : Array Value} {U : State} (h : va_AOA ty U) : (Cond.arrayOver (.array ty)).before A U = true := h
theorem va_AOA.moved {ty : FieldType} {u U : State} (hvm : u.vm.Alike U.vm) (h : va_AOA ty u) : va_AOA ty U := by
  have h1 : (Cond.arrayOver (.array ty)).before #[] (u.setVm U.vm) = true := by rw [Cond.arrayOver_setVmC hvm]; exact h
  exact h1
/-! ===== BEGIN new T[n][m]: the outer array a place, the inner ones among the pooled ===== -/
/-- f, but v at every address of l -/
def vr_up {α : Type} (f : Nat → α) (l : List Nat) (v : α) : Nat → α := fun a => if a ∈ l then v else f a
theorem vr_up_in {α : Type} {f : Nat → α} {l : List Nat} {v : α} {a : Nat} (h : a ∈ l) : vr_up f l v a = v := if_pos h
theorem vr_up_ne {α : Type} {f : Nat → α} {l : List Nat} {v : α} {a : Nat} (h : a ∉ l) : vr_up f l v a = f a := if_neg h
theorem vr_rows {L l : List Nat} {f : Nat → va_E} {e : va_E} (h : ∀ a, a ∈ l → a ∉ L) : va_pl L f ++ l.map (fun a => (a, e)) = va_pl (L ++ l) (vr_up f l e) := by
  unfold va_pl
  rw [List.map_append]
  congr 1
  · apply List.map_congr_left
    intro a ha
    rw [vr_up_ne (fun q => h a q ha)]
  · apply List.map_congr_left
    intro a ha
    rw [vr_up_in ha]
theorem vr_lay {X rows : va_W} {x : Nat × va_E} {pl : va_W} {D : va_G} {cl : List vw_C} {H : Heap} (hP : va_P D cl (((X ++ pl) ++ [x]) ++ rows) H) : va_P D cl ((X ++ [x]) ++ (pl ++ rows)) H := by
  rw [List.append_assoc (X ++ pl)] at hP
  have h := va_P.swap hP
  rw [← List.append_assoc X] at h
  have h2 := va_P.swap h
  rw [List.append_assoc (X ++ [x])] at h2
  exact h2
theorem vr_layD {X rows : va_W} {x : Nat × va_E} {pl : va_W} {A : Nat → Prop} (hD : va_D A (((X ++ pl) ++ [x]) ++ rows)) : va_D A ((X ++ [x]) ++ (pl ++ rows)) := by
  rw [List.append_assoc (X ++ pl)] at hD
  have h := va_D.swap hD
  rw [← List.append_assoc X] at h
  have h2 := va_D.swap h
  rw [List.append_assoc (X ++ [x])] at h2
  exact h2
theorem vr_outer (c : ClassId) (N h0 : Nat) : ∀ i : Nat, Jvm.Free.Multi.outerC c N h0 i = arrV c N (fun j => va_rf (if j < i then some (h0 + 1 + j) else none))
  | 0 => by
    show ({ cls := c, slots := Array.replicate N .null, vm := .none } : Cell) = _
    rw [arrV_new]
    refine congrArg (arrV c N) (funext fun j => ?_)
    simp [va_rf]
  | i + 1 => by
    show (Jvm.Free.Multi.outerC c N h0 i).setSlot i (.ref (h0 + 1 + i)) = _
    rw [vr_outer c N h0 i, arrV_store]
    refine congrArg (arrV c N) (funext fun j => ?_)
    by_cases e : j = i
    · subst e
      simp [updV, va_rf]
    · by_cases h : j < i
      · simp [updV, e, h, Nat.lt_succ_of_lt h]
      · simp [updV, e, h, show ¬ j < i + 1 by omega]
section VGM
variable {p : Program} {l : Launch} {e : Env} {R : Room} {s : State} {m : MethodId} {args : Array Value} {below : List Frame} {meth : Method} {c : Code} {H : Heap} {locs : List Loc} {cells slots : Nat} {Q : State → Prop}
variable {cc : ByteArray} {pc : Nat} {ls : Array Slot} {rest : List Value} {D : va_G} {cl : List vw_C} {A : Nat → Prop} {a : Nat} {tys : List (ClassId × FieldType)} {ws : va_W} {H0 : Heap}
theorem va_mna {X : va_W} {L : List Nat} {f : Nat → va_E} {cc : ByteArray} (hexec : p.tables.exec = Jvm.exec) (hb : c.code = cc) {own : String} {index : Nat} {ty : FieldType} {cy : ClassId} (hown : s.vm.findClass own = some m.cls) (hclink : (Cond.classLink own index ("[" ++ (FieldType.array ty).toString)).before args s = true) (hover : va_AOA ty s) (harr : (Cond.arrayClass ty).before args s = true) (hcy : s.vm.findClass (FieldType.array ty).toString = some cy)
    (hK : va_K D cl tys s) (hP : va_P D cl (X ++ va_pl L f) H) (hD : va_D A (X ++ va_pl L f)) (hS : va_S A H0 H locs) (hA : ∀ q, H0.size ≤ q → A q) {n k : Int32} {N' K' : Nat} {z : vp_A} (hn : ¬ n < 0) (hk : ¬ k < 0) (hN : n.toNatClampNeg = N') (hM : k.toNatClampNeg = K')
    (hb1 : N' * 4 ≤ 536870912) (hb2 : K' * componentBytes ty ≤ 536870912) (hb3 : K' ≤ 536870912) (hdf : fits ty (defaultValue ty) = true) (hdd : (defaultValue ty).isDefault = true) (hcells : cells + (1 + N') ≤ R.cells) (hslots : slots + (N' + N' * K') ≤ R.slots) (hz : ∀ c : ClassId, Jvm.Free.Multi.innerC c K' (defaultValue ty) = vp_cell c z) (hdg : decode cc pc = .ok (.multianewarray index 2, 4))
    (kk : ∀ (q : Nat) (r : Nat → Nat) (cA : ClassId) (H1 : Heap), (∀ i j : Nat, i < N' → j < N' → r i = r j → i = j) → (∀ i : Nat, i < N' → r i ∉ L) → va_K D cl (tys ++ [(cA, .array ty)]) s →
      va_P D cl ((X ++ [(q, .inl (cA, N', .inr (.inr (.inr (.inr (fun i => if i < N' then some (r i) else none))))))]) ++ va_pl (L ++ (List.range N').map r) (vr_up f ((List.range N').map r) (.inl (cy, z)))) H1 → va_D A ((X ++ [(q, .inl (cA, N', .inr (.inr (.inr (.inr (fun i => if i < N' then some (r i) else none))))))]) ++ va_pl (L ++ (List.range N').map r) (vr_up f ((List.range N').map r) (.inl (cy, z)))) → va_S A H0 H1 locs →
      W p l e R s m args below meth c H1 locs (cells + 1 + N') (slots + N' + N' * K') Q (F0 m (pc + 4) ls (.ref q :: rest))) : W p l e R s m args below meth c H locs cells slots Q (F0 m pc ls (.int k :: .int n :: rest)) := by
  subst hN
  subst hM
  intro T hT Xs
  obtain ⟨vm₁, cA, comp, -, fA, fC, hO, -, X', step⟩ := Xs.multianewarray2F hexec hown hclink (va_AOA.use hover) harr (g := F0 m pc ls (.int k :: .int n :: rest)) rfl (by rw [hb]; exact hdg) rfl hn hk hb1 hb2 hb3 hdf hdd hcells hslots
  have ec : some cy = some comp := hcy.symm.trans fC
  cases ec
  generalize hF : Jvm.Free.Multi.fill (T.setVm vm₁) cA cy n.toNatClampNeg k.toNatClampNeg (defaultValue ty) n.toNatClampNeg = F at X' step
  have hTh : (T.setVm vm₁).heap = H := hT
  obtain ⟨f1, f2, -, -⟩ := Jvm.Free.Multi.fill_facts (T.setVm vm₁) cA cy n.toNatClampNeg k.toNatClampNeg (defaultValue ty) n.toNatClampNeg
  rw [hF, hTh] at f1 f2
  have hold : ∀ x : Nat, x < H.size → F.heap[x]? = H[x]? := fun x hx => by
    have := Jvm.Free.Multi.fill_old (T.setVm vm₁) cA cy n.toNatClampNeg k.toNatClampNeg (defaultValue ty) (a := x) (by rw [hTh]; exact hx) n.toNatClampNeg
    rw [hF, hTh] at this
    exact this
  have hrow : ∀ j : Nat, j < n.toNatClampNeg → F.heap[H.size + 1 + j]? = some (vp_cell cy z) := fun j hj => by
    have := Jvm.Free.Multi.fill_inner (T.setVm vm₁) cA cy n.toNatClampNeg k.toNatClampNeg (defaultValue ty) n.toNatClampNeg j hj
    rw [hF, hTh, hz] at this
    exact this
  have hout : Jvm.Free.Multi.outerC cA n.toNatClampNeg H.size n.toNatClampNeg = vp_cell cA (n.toNatClampNeg, .inr (.inr (.inr (.inr (fun i => if i < n.toNatClampNeg then some (H.size + 1 + i) else none))))) := by
    rw [vp_cell_q]
    exact vr_outer cA n.toNatClampNeg H.size n.toNatClampNeg
  rw [hout] at f2
  have hlt : ∀ a, a ∈ L → a < H.size := fun a ha => by
    obtain ⟨k9, hk9⟩ := va_pl_get (X := X) (f := f) ha
    exact (hP k9 _ hk9).lt
  have hnl : ∀ i : Nat, i < n.toNatClampNeg → H.size + 1 + i ∉ L := fun i _ h => by
    have := hlt _ h
    omega
  have hnm : ∀ a, a ∈ (List.range n.toNatClampNeg).map (fun i => H.size + 1 + i) → a ∉ L := fun a ha h => by
    obtain ⟨i, -, rfl⟩ := List.mem_map.mp ha
    have := hlt _ h
    omega
  have hP0 : va_P D cl (X ++ va_pl L f) F.heap := hP.kept (fun k9 x hx => hold x.1 ((hP k9 x hx).lt))
  have hP1 : va_P D cl ((X ++ va_pl L f) ++ [(H.size, .inl (cA, n.toNatClampNeg, .inr (.inr (.inr (.inr (fun i => if i < n.toNatClampNeg then some (H.size + 1 + i) else none))))))]) F.heap := hP0.app (fun k9 x hx => by
    have h0 : k9 < 1 := (List.getElem?_eq_some_iff.mp hx).1
    rw [show k9 = 0 by omega] at hx
    cases hx
    exact f2)
  have hP2 : va_P D cl (((X ++ va_pl L f) ++ [(H.size, .inl (cA, n.toNatClampNeg, .inr (.inr (.inr (.inr (fun i => if i < n.toNatClampNeg then some (H.size + 1 + i) else none))))))]) ++ ((List.range n.toNatClampNeg).map (fun i => H.size + 1 + i)).map (fun a => (a, .inl (cy, z)))) F.heap := hP1.app (fun k9 x hx => by
    obtain ⟨a, ha, rfl⟩ := List.mem_map.mp (List.mem_of_getElem? hx)
    obtain ⟨i, hi, rfl⟩ := List.mem_map.mp ha
    exact hrow i (List.mem_range.mp hi))
  have hD2 : va_D A (((X ++ va_pl L f) ++ [(H.size, .inl (cA, n.toNatClampNeg, .inr (.inr (.inr (.inr (fun i => if i < n.toNatClampNeg then some (H.size + 1 + i) else none))))))]) ++ ((List.range n.toNatClampNeg).map (fun i => H.size + 1 + i)).map (fun a => (a, .inl (cy, z)))) := by
    have hD1 := hD.push (e := .inl (cA, n.toNatClampNeg, .inr (.inr (.inr (.inr (fun i => if i < n.toNatClampNeg then some (H.size + 1 + i) else none)))))) hP rfl (hA _ hS.1)
    generalize hW1 : (X ++ va_pl L f) ++ [(H.size, .inl (cA, n.toNatClampNeg, .inr (.inr (.inr (.inr (fun i => if i < n.toNatClampNeg then some (H.size + 1 + i) else none))))))] = W1 at hD1 hP1 ⊢
    have hle : ∀ (k9 : Nat) (x : Nat × va_E), W1[k9]? = some x → x.1 ≤ H.size := fun k9 x hx => by
      rw [← hW1] at hx
      by_cases hl : k9 < (X ++ va_pl L f).length
      · rw [List.getElem?_append_left hl] at hx
        exact Nat.le_of_lt ((hP k9 x hx).lt)
      · rw [List.getElem?_append_right (by omega)] at hx
        have h0 : k9 - (X ++ va_pl L f).length < 1 := (List.getElem?_eq_some_iff.mp hx).1
        rw [show k9 - (X ++ va_pl L f).length = 0 by omega] at hx
        cases hx
        exact Nat.le_refl _
    have hr : ∀ (k9 : Nat) (x : Nat × va_E), (((List.range n.toNatClampNeg).map (fun i => H.size + 1 + i)).map (fun a => ((a, .inl (cy, z)) : Nat × va_E)))[k9]? = some x → x.1 = H.size + 1 + k9 := fun k9 x hx => by
      rw [List.getElem?_map, List.getElem?_map] at hx
      by_cases h9 : k9 < n.toNatClampNeg
      · rw [List.getElem?_range h9] at hx
        cases hx
        rfl
      · have hn0 : (List.range n.toNatClampNeg)[k9]? = none := List.getElem?_eq_none (by rw [List.length_range]; omega)
        rw [hn0] at hx
        cases hx
    refine ⟨fun i j x y hi hj hxy => ?_, fun k9 x hx => ?_⟩
    · by_cases h1 : i < W1.length <;> by_cases h2 : j < W1.length
      · rw [List.getElem?_append_left h1] at hi
        rw [List.getElem?_append_left h2] at hj
        exact hD1.1 i j x y hi hj hxy
      · rw [List.getElem?_append_left h1] at hi
        rw [List.getElem?_append_right (by omega)] at hj
        have := hle _ _ hi
        have := hr _ _ hj
        omega
      · rw [List.getElem?_append_right (by omega)] at hi
        rw [List.getElem?_append_left h2] at hj
        have := hle _ _ hj
        have := hr _ _ hi
        omega
      · rw [List.getElem?_append_right (by omega)] at hi hj
        have := hr _ _ hi
        have := hr _ _ hj
        omega
    · by_cases h1 : k9 < W1.length
      · rw [List.getElem?_append_left h1] at hx
        exact hD1.2 k9 x hx
      · rw [List.getElem?_append_right (by omega)] at hx
        have := hr _ _ hx
        exact hA _ (by have := hS.1; omega)
  have hAr : ArrOfT s cA (.array ty) := fun N9 z9 => by
    obtain ⟨-, k9, hk9, cm9, hkk9⟩ := (hO 0 0 0).1
    exact ⟨(fun q hq => by cases hq), k9, hk9, cm9, hkk9⟩
  have hK2 : va_K D cl (tys ++ [(cA, .array ty)]) s := ⟨hK.1, fun k9 x hx => by
    by_cases hl : k9 < tys.length
    · rw [List.getElem?_append_left hl] at hx
      exact hK.2 k9 x hx
    · rw [List.getElem?_append_right (by omega)] at hx
      have h0 : k9 - tys.length < 1 := (List.getElem?_eq_some_iff.mp hx).1
      rw [show k9 - tys.length = 0 by omega] at hx
      cases hx
      exact ⟨hAr, fA⟩⟩
  obtain ⟨t, a1, b1⟩ := kk H.size (fun i => H.size + 1 + i) cA F.heap (fun i j _ _ h => by have h9 : H.size + 1 + i = H.size + 1 + j := h; omega) hnl hK2 (by rw [← vr_rows hnm]; exact vr_lay hP2) (by rw [← vr_rows hnm]; exact vr_layD hD2) ⟨by rw [f1]; have := hS.1; omega, fun x h1 h2 => (hold x (Nat.lt_of_lt_of_le h1 hS.1)).trans (hS.2.1 x h1 h2), hS.2.2⟩ F rfl X'
  refine ⟨t, step t ?_, b1⟩
  have e : T.heap.size = H.size := by rw [hT]
  rw [e]
  exact a1
end VGM
/-! ===== END ===== -/

def io_E (U : State) : Prop := va_AO "LineCaster$Sheet" U ∧ va_AOA .int U ∧ va_AOA .byte U ∧ va_Nw (.methodLinkNest RX7 18 yX5_init "LineCaster") U ∧ va_Nw (.methodLinkNest RX7 25 yX2_init "LineCaster") U ∧ va_Nw (.methodLinkNest RX7 32 yX1_init "LineCaster") U ∧ va_Nw (.methodLinkNest RX7 39 yX4_init "LineCaster") U ∧ va_Nw (.methodLinkNest RX7 46 yX6_init "LineCaster") U ∧ va_Nw (.methodLinkNest RX7 74 yX3_init "LineCaster") U
theorem io_Ew {s U : State} (hW : s.WarmedH U.vm) (h : io_E s) : io_E U := ⟨h.1.moved hW.alike, h.2.1.moved hW.alike, h.2.2.1.moved hW.alike, va_Nw.warmM hW h.2.2.2.1, va_Nw.warmM hW h.2.2.2.2.1, va_Nw.warmM hW h.2.2.2.2.2.1, va_Nw.warmM hW h.2.2.2.2.2.2.1, va_Nw.warmM hW h.2.2.2.2.2.2.2.1, va_Nw.warmM hW h.2.2.2.2.2.2.2.2⟩
theorem io_Es {s U : State} (e : s.vm = U.vm) (h : io_E s) : io_E U := ⟨h.1.moved (e ▸ Vm.Alike.refl s.vm), h.2.1.moved (e ▸ Vm.Alike.refl s.vm), h.2.2.1.moved (e ▸ Vm.Alike.refl s.vm), va_Nw.same rfl e h.2.2.2.1, va_Nw.same rfl e h.2.2.2.2.1, va_Nw.same rfl e h.2.2.2.2.2.1, va_Nw.same rfl e h.2.2.2.2.2.2.1, va_Nw.same rfl e h.2.2.2.2.2.2.2.1, va_Nw.same rfl e h.2.2.2.2.2.2.2.2⟩
theorem io_at {F B : va_W} {q : Nat} {x : Nat × va_E} (h : F[q]? = some x) : (F ++ B)[q]? = some x := by
  rw [List.getElem?_append_left (List.getElem?_eq_some_iff.mp h).1]
  exact h
theorem io_set {F B : va_W} {q : Nat} {x y : Nat × va_E} (h : F[q]? = some x) : (F ++ B).set q y = F.set q y ++ B := List.set_append_left _ _ (List.getElem?_eq_some_iff.mp h).1
theorem io_mv {D : va_G} {cl : List vw_C} {F B : va_W} {x : Nat × va_E} {H : Heap} (h : va_P D cl ((F ++ B) ++ [x]) H) : va_P D cl ((F ++ [x]) ++ B) H := va_P.swap h
theorem io_mvD {A : Nat → Prop} {F B : va_W} {x : Nat × va_E} (h : va_D A ((F ++ B) ++ [x])) : va_D A ((F ++ [x]) ++ B) := va_D.swap h
theorem io_mv2 {D : va_G} {cl : List vw_C} {F B r : va_W} {x : Nat × va_E} {H : Heap} (h : va_P D cl (((F ++ B) ++ [x]) ++ r) H) : va_P D cl ((F ++ [x]) ++ (B ++ r)) H := by
  rw [List.append_assoc] at h
  have h2 := va_P.swap h
  rw [← List.append_assoc] at h2
  have h3 := va_P.swap h2
  rw [List.append_assoc] at h3
  exact h3
theorem io_mv2D {A : Nat → Prop} {F B r : va_W} {x : Nat × va_E} (h : va_D A (((F ++ B) ++ [x]) ++ r)) : va_D A ((F ++ [x]) ++ (B ++ r)) := by
  rw [List.append_assoc] at h
  have h2 := va_D.swap h
  rw [← List.append_assoc] at h2
  have h3 := va_D.swap h2
  rw [List.append_assoc] at h3
  exact h3
theorem io_rows {N : Nat} {r : Nat → Nat} {f : Nat → va_E} {y : va_E} : va_pl ([] ++ (List.range N).map r) (vr_up f ((List.range N).map r) y) = (List.range N).map (fun i => (r i, y)) := by
  rw [List.nil_append]
  unfold va_pl
  rw [List.map_map]
  apply List.map_congr_left
  intro a ha
  show (r a, vr_up f ((List.range N).map r) y (r a)) = (r a, y)
  rw [vr_up_in (List.mem_map_of_mem ha)]
theorem io_join {A0 : Nat → Prop} {D : va_G} {cl : List vw_C} {X w1 : va_W} {x : Nat × va_E} {H H1 : Heap} (hP : va_P D cl (X ++ [x]) H) (hD : va_D A0 (X ++ [x])) (hk : ∀ q : Nat, q < H.size → ¬ va_A [x] H.size q → H1[q]? = H[q]?) (hF : ∀ q, va_A [x] H.size q → A0 q) (hP1 : va_P D cl w1 H1) (hD1 : va_D (va_A [x] H.size) w1) : va_P D cl (X ++ w1) H1 ∧ va_D A0 (X ++ w1) := by
  have at' : ∀ (k : Nat) (q : Nat × va_E), X[k]? = some q → (X ++ [x])[k]? = some q := fun k q h => io_at h
  have apart : ∀ (k : Nat) (q : Nat × va_E), X[k]? = some q → q.1 < H.size ∧ ¬ va_A [x] H.size q.1 := by
    intro k q hq
    have hl := (hP k q (at' k q hq)).lt
    refine ⟨hl, fun h => ?_⟩
    rcases h with ⟨k2, e, h⟩ | h
    · have h0 : k2 = 0 := by
        have := (List.getElem?_eq_some_iff.mp h).1
        simp at this
        exact this
      subst h0
      have hx : x = (q.1, e) := Option.some.inj h
      have hij := hD.1 k X.length q x (at' k q hq) (by simp) (by rw [hx])
      have := (List.getElem?_eq_some_iff.mp hq).1
      omega
    · omega
  refine ⟨va_P.app (fun k q hq => ?_) hP1, va_D.app ⟨fun i j a b ha hb e => hD.1 i j a b (at' i a ha) (at' j b hb) e, fun k q hq => hD.2 k q (at' k q hq)⟩ (hD1.weaken (fun k q _ h => hF q.1 h)) (fun i j a b ha hb hab => ?_)⟩
  · obtain ⟨g1, g2⟩ := apart k q hq
    exact (hP k q (at' k q hq)).kept (hk q.1 g1 g2)
  · exact (apart i a ha).2 (by rw [hab]; exact hD1.2 j b hb)
def io_Pre (D : va_G) (T : List (ClassId × FieldType)) (ws : va_W) (sz : Nat) (U : State) : Prop := U.heap.size = sz ∧ va_P D vwCl ws U.heap ∧ va_K D vwCl T U ∧ va_D (fun _ => True) ws ∧ io_E U
def io_B {S : Type} (D : va_G) (A : Nat → Prop) (w : S → va_W) (u : S) (t : State) : Prop := va_P D vwCl (w u) t.heap ∧ va_D A (w u)
def io_M {S : Type} (D : va_G) (T : List (ClassId × FieldType)) (l : Launch) (y : MethodName) (cc : ByteArray) (nL : Nat) (rm : Room) (h0 : Nat) (ws0 : va_W) (w : S → va_W) (po : S → Prop) (mc ms : Nat) : Prop :=
  ∀ sz : Nat, Met l y (Cond.code y cc nL none :: wsL_law) rm (va_Pc [.ref h0] (io_Pre D T ws0 sz)) (va_Qv po (io_B D (va_A ws0 sz) w) (va_A ws0 sz)) mc ms (va_A ws0 sz)
def io_C {S : Type} (D : va_G) (T : List (ClassId × FieldType)) (l : Launch) (R : Room) (own : String) (cc : ByteArray) (nL : Nat) (ws0 : va_W) (w : S → va_W) (po : S → Prop) (mc ms : Nat) (Ω : Nat → List (Nat × Value) → List Value → va_W → va_W → Nat → Nat → Prop) : Prop :=
  ∃ (p : Program) (e : Env) (s : State) (m : MethodId) (args : Array Value) (below : List Frame) (meth : Method) (c : Code),
    p.tables.exec = Jvm.exec ∧ c.code = cc ∧ meth.sig.returnType = none ∧ c.maxLocals = nL ∧ s.vm.findClass own = some m.cls ∧ (∀ w ∈ wsL_law, w.before args s = true) ∧ meth.locks = false ∧ meth.name = "<init>" ∧ va_K D vwCl T s ∧ io_E s ∧
    Ω = fun pc lv st F B kc ks => ∀ (H : Heap) (locs : List Loc) (ls : Array Slot), va_P D vwCl (F ++ B) H → va_D (va_A ws0 s.heap.size) (F ++ B) → va_S (va_A ws0 s.heap.size) s.heap H locs → lv_has ls nL lv →
      W p l e R s m args below meth c H locs kc ks (MQ below (va_Qv po (io_B D (va_A ws0 s.heap.size) w) (va_A ws0 s.heap.size)) args s mc ms (va_A ws0 s.heap.size)) (F0 m pc ls st)
theorem io_fm {ws w1 : va_W} {is : List Nat} (h : is.map (fun i => ws[i]?) = w1.map some) : is.filterMap (fun i => ws[i]?) = w1 := by
  have e : is.filterMap (fun i => ws[i]?) = (is.map (fun i => ws[i]?)).filterMap id := by
    rw [List.filterMap_map]
    rfl
  rw [e, h, List.filterMap_map]
  simp
section IoRules
variable {S : Type} {po : S → Prop} {D : va_G} {T : List (ClassId × FieldType)} {l : Launch} {R : Room} {own : String} {cc : ByteArray} {nL : Nat} {ws0 : va_W} {w : S → va_W} {mc ms : Nat} {Ω : Nat → List (Nat × Value) → List Value → va_W → va_W → Nat → Nat → Prop}
variable {pc : Nat} {lv : List (Nat × Value)} {st : List Value} {F B : va_W} {kc ks : Nat}
theorem io_iconst (C : io_C D T l R own cc nL ws0 w po mc ms Ω) {n : Int} {v : Int32} (d : decode cc pc = .ok (.iconst n, 1)) (hv : Int32.ofInt n = v) (k : Ω (pc + 1) lv (.int v :: st) F B kc ks) : Ω pc lv st F B kc ks := by
  obtain ⟨p, e, s, m, args, below, meth, c, hx, hb, hr, hml, hown, hts, hlocks, hin, hK, hE, rfl⟩ := C
  exact fun H locs ls hP hD hS hl => lv_iconst hx hb d hv (k H locs ls hP hD hS hl)
theorem io_bipush (C : io_C D T l R own cc nL ws0 w po mc ms Ω) {n : Int} {v : Int32} (d : decode cc pc = .ok (.bipush n, 2)) (hv : (Int8.ofInt n).toInt32 = v) (k : Ω (pc + 2) lv (.int v :: st) F B kc ks) : Ω pc lv st F B kc ks := by
  obtain ⟨p, e, s, m, args, below, meth, c, hx, hb, hr, hml, hown, hts, hlocks, hin, hK, hE, rfl⟩ := C
  exact fun H locs ls hP hD hS hl => lv_bipush hx hb d hv (k H locs ls hP hD hS hl)
theorem io_sipush (C : io_C D T l R own cc nL ws0 w po mc ms Ω) {n : Int} {v : Int32} (d : decode cc pc = .ok (.sipush n, 3)) (hv : (Int16.ofInt n).toInt32 = v) (k : Ω (pc + 3) lv (.int v :: st) F B kc ks) : Ω pc lv st F B kc ks := by
  obtain ⟨p, e, s, m, args, below, meth, c, hx, hb, hr, hml, hown, hts, hlocks, hin, hK, hE, rfl⟩ := C
  exact fun H locs ls hP hD hS hl => lv_sipush hx hb d hv (k H locs ls hP hD hS hl)
theorem io_iload_n (C : io_C D T l R own cc nL ws0 w po mc ms Ω) {q : Fin 4} {x : Int32} (d : decode cc pc = .ok (.iload_n q, 1)) (j : Nat) (h : lv[j]? = some ((q : Nat), .int x)) (k : Ω (pc + 1) lv (.int x :: st) F B kc ks) : Ω pc lv st F B kc ks := by
  obtain ⟨p, e, s, m, args, below, meth, c, hx, hb, hr, hml, hown, hts, hlocks, hin, hK, hE, rfl⟩ := C
  exact fun H locs ls hP hD hS hl => lv_iload_n hx hb d rfl (lv_at hl j h) (k H locs ls hP hD hS hl)
theorem io_aload_n (C : io_C D T l R own cc nL ws0 w po mc ms Ω) {q : Fin 4} {x : Nat} (d : decode cc pc = .ok (.aload_n q, 1)) (j : Nat) (h : lv[j]? = some ((q : Nat), .ref x)) (k : Ω (pc + 1) lv (.ref x :: st) F B kc ks) : Ω pc lv st F B kc ks := by
  obtain ⟨p, e, s, m, args, below, meth, c, hx, hb, hr, hml, hown, hts, hlocks, hin, hK, hE, rfl⟩ := C
  exact fun H locs ls hP hD hS hl => lv_aload_n hx hb d rfl (lv_at hl j h) (k H locs ls hP hD hS hl)
theorem io_istore_n (C : io_C D T l R own cc nL ws0 w po mc ms Ω) {z : Fin 4} {x : Int32} {lv1 : List (Nat × Value)} (d : decode cc pc = .ok (.istore_n z, 1)) (hn : (z : Nat) < nL) (h : ((z : Nat), Value.int x) :: lv.filter (fun q => !(q.1 == (z : Nat)) && !(q.1 + 1 == (z : Nat) && q.2.category == 2)) = lv1) (k : Ω (pc + 1) lv1 st F B kc ks) : Ω pc lv (.int x :: st) F B kc ks := by
  obtain ⟨p, e, s, m, args, below, meth, c, hx, hb, hr, hml, hown, hts, hlocks, hin, hK, hE, rfl⟩ := C
  exact fun H locs ls hP hD hS hl => lv_istore_n hx hb d rfl hl hn h (fun ls hl => k H locs ls hP hD hS hl)
theorem io_iinc (C : io_C D T l R own cc nL ws0 w po mc ms Ω) {i : Nat} {n : Int} {x v : Int32} {lv1 : List (Nat × Value)} (d : decode cc pc = .ok (.iinc i n, 3)) (j : Nat) (hj : lv[j]? = some (i, .int x)) (hv : x + Int32.ofInt n = v) (hn : i < nL) (h : (i, Value.int v) :: lv.filter (fun q => !(q.1 == i) && !(q.1 + 1 == i && q.2.category == 2)) = lv1) (k : Ω (pc + 3) lv1 st F B kc ks) : Ω pc lv st F B kc ks := by
  obtain ⟨p, e, s, m, args, below, meth, c, hx, hb, hr, hml, hown, hts, hlocks, hin, hK, hE, rfl⟩ := C
  exact fun H locs ls hP hD hS hl => lv_iinc hx hb d hl hj hv hn h (fun ls hl => k H locs ls hP hD hS hl)
theorem io_iadd (C : io_C D T l R own cc nL ws0 w po mc ms Ω) {x y v : Int32} (d : decode cc pc = .ok (.iadd, 1)) (hv : x + y = v) (k : Ω (pc + 1) lv (.int v :: st) F B kc ks) : Ω pc lv (.int y :: .int x :: st) F B kc ks := by
  obtain ⟨p, e, s, m, args, below, meth, c, hx, hb, hr, hml, hown, hts, hlocks, hin, hK, hE, rfl⟩ := C
  exact fun H locs ls hP hD hS hl => lv_iadd hx hb d (hv ▸ (k H locs ls hP hD hS hl))
theorem io_iand (C : io_C D T l R own cc nL ws0 w po mc ms Ω) {x y v : Int32} (d : decode cc pc = .ok (.iand, 1)) (hv : x &&& y = v) (k : Ω (pc + 1) lv (.int v :: st) F B kc ks) : Ω pc lv (.int y :: .int x :: st) F B kc ks := by
  obtain ⟨p, e, s, m, args, below, meth, c, hx, hb, hr, hml, hown, hts, hlocks, hin, hK, hE, rfl⟩ := C
  exact fun H locs ls hP hD hS hl => lv_iand hx hb d (hv ▸ (k H locs ls hP hD hS hl))
theorem io_ixor (C : io_C D T l R own cc nL ws0 w po mc ms Ω) {x y v : Int32} (d : decode cc pc = .ok (.ixor, 1)) (hv : x ^^^ y = v) (k : Ω (pc + 1) lv (.int v :: st) F B kc ks) : Ω pc lv (.int y :: .int x :: st) F B kc ks := by
  obtain ⟨p, e, s, m, args, below, meth, c, hx, hb, hr, hml, hown, hts, hlocks, hin, hK, hE, rfl⟩ := C
  exact fun H locs ls hP hD hS hl => lv_ixor hx hb d (hv ▸ (k H locs ls hP hD hS hl))
theorem io_dup (C : io_C D T l R own cc nL ws0 w po mc ms Ω) {a : Value} (d : decode cc pc = .ok (.dup, 1)) (ha : a.category = 1) (k : Ω (pc + 1) lv (a :: a :: st) F B kc ks) : Ω pc lv (a :: st) F B kc ks := by
  obtain ⟨p, e, s, m, args, below, meth, c, hx, hb, hr, hml, hown, hts, hlocks, hin, hK, hE, rfl⟩ := C
  exact fun H locs ls hP hD hS hl => lv_dup hx hb d ha (k H locs ls hP hD hS hl)
theorem io_geT (C : io_C D T l R own cc nL ws0 w po mc ms Ω) {x y : Int32} {off : Int} {tgt : Nat} (d : decode cc pc = .ok (.if_icmp .ge off, 3)) (ht : (pc : Int) + off = (tgt : Int)) (hc : y ≤ x) (k : Ω tgt lv st F B kc ks) : Ω pc lv (.int y :: .int x :: st) F B kc ks := by
  obtain ⟨p, e, s, m, args, below, meth, c, hx, hb, hr, hml, hown, hts, hlocks, hin, hK, hE, rfl⟩ := C
  exact fun H locs ls hP hD hS hl => lv_icmp_ge hx hb d ht (fun _ => (k H locs ls hP hD hS hl)) (fun q => absurd hc q)
theorem io_geF (C : io_C D T l R own cc nL ws0 w po mc ms Ω) {x y : Int32} {off : Int} (tgt : Nat) (d : decode cc pc = .ok (.if_icmp .ge off, 3)) (ht : (pc : Int) + off = (tgt : Int)) (hc : ¬ y ≤ x) (k : Ω (pc + 3) lv st F B kc ks) : Ω pc lv (.int y :: .int x :: st) F B kc ks := by
  obtain ⟨p, e, s, m, args, below, meth, c, hx, hb, hr, hml, hown, hts, hlocks, hin, hK, hE, rfl⟩ := C
  exact fun H locs ls hP hD hS hl => lv_icmp_ge hx hb d ht (fun q => absurd q hc) (fun _ => (k H locs ls hP hD hS hl))
theorem io_goto (C : io_C D T l R own cc nL ws0 w po mc ms Ω) {off : Int} {tgt : Nat} (d : decode cc pc = .ok (.goto off, 3)) (ht : (pc : Int) + off = (tgt : Int)) (k : Ω tgt lv st F B kc ks) : Ω pc lv st F B kc ks := by
  obtain ⟨p, e, s, m, args, below, meth, c, hx, hb, hr, hml, hown, hts, hlocks, hin, hK, hE, rfl⟩ := C
  exact fun H locs ls hP hD hS hl => lv_goto hx hb d ht (k H locs ls hP hD hS hl)
theorem io_getf (C : io_C D T l R own cc nL ws0 w po mc ms Ω) {a ci index : Nat} {ref Cn : String} {Tf : u_T} {N : Nat} {fs : List Value} {v : Value} (q : Nat) (he : F[q]? = some (a, .inr (ci, fs))) (hc : vwCl[ci]? = some (Cn, Tf, N)) (hi : ∀ w ∈ u_ws Cn Tf N, w ∈ wsL_law) (j : Nat) (hj : j < N) (hw : Cond.fieldLink own index ref (Tf j).2.1 (Tf j).2.2.1 ∈ wsL_law) (href : (Tf j).1 = ref) (hv : fs[j]? = some v) (d : decode cc pc = .ok (.getfield index, 3)) (k : Ω (pc + 3) lv (v :: st) F B kc ks) : Ω pc lv (.ref a :: st) F B kc ks := by
  obtain ⟨p, e, s, m, args, below, meth, c, hx, hb, hr, hml, hown, hts, hlocks, hin, hK, hE, rfl⟩ := C
  exact fun H locs ls hP hD hS hl => va_get (D := D) (ci := ci) (v := v) (C := Cn) (T := Tf) (N := N) hx hb hts hi hown hK hP q (io_at he) hc j hj (hts _ hw) (fun _ h9 => href ▸ h9) hv d (k H locs ls hP hD hS hl)
theorem io_putf (C : io_C D T l R own cc nL ws0 w po mc ms Ω) {a ci index : Nat} {ref Cn : String} {Tf : u_T} {N : Nat} {fs : List Value} {v : Value} {ty : FieldType} {F1 : va_W} (q : Nat) (he : F[q]? = some (a, .inr (ci, fs))) (hc : vwCl[ci]? = some (Cn, Tf, N)) (hi : ∀ w ∈ u_ws Cn Tf N, w ∈ wsL_law) (ty0 : Nat → FieldType) (hty : ∀ k, k < N → parseFieldDescriptor (Tf k).2.2.1 = some (ty0 k)) (hnm : ∀ a, a < N → ∀ b, b < N → a ≠ b → (Tf a).2.1 ≠ (Tf b).2.1) (j : Nat) (hj : j < N) (hw : Cond.fieldLink own index ref (Tf j).2.1 (Tf j).2.2.1 ∈ wsL_law) (href : (Tf j).1 = ref) (hfin : (Tf j).2.2.2 = false) (hd : parseFieldDescriptor (Tf j).2.2.1 = some ty) (hn : narrow ty v = v) (hfit : fits ty v = true) (hl0 : j < fs.length) (h1 : F.set q (a, .inr (ci, fs.set j v)) = F1) (d : decode cc pc = .ok (.putfield index, 3)) (k : Ω (pc + 3) lv st F1 B kc ks) : Ω pc lv (v :: .ref a :: st) F B kc ks := by
  obtain ⟨p, e, s, m, args, below, meth, c, hx, hb, hr, hml, hown, hts, hlocks, hin, hK, hE, rfl⟩ := C
  exact fun H locs ls hP hD hS hl => va_put (D := D) (ci := ci) (v := v) (C := Cn) (T := Tf) (N := N) hx hb hts hi ty0 hty hnm hown hK hP hD hS q (io_at he) hc j hj (hts _ hw) (fun _ h9 => href ▸ h9) hfin hd hn hfit hl0 d (fun H1 locs1 hP1 hD1 hS1 => k H1 locs1 ls (h1 ▸ io_set he ▸ hP1) (h1 ▸ io_set he ▸ hD1) hS1 hl)
theorem io_putF (C : io_C D T l R own cc nL ws0 w po mc ms Ω) {a ci index : Nat} {ref Cn : String} {Tf : u_T} {N : Nat} {fs : List Value} {v : Value} {ty : FieldType} {F1 : va_W} (q : Nat) (he : F[q]? = some (a, .inr (ci, fs))) (hc : vwCl[ci]? = some (Cn, Tf, N)) (hi : ∀ w ∈ u_ws Cn Tf N, w ∈ wsL_law) (ty0 : Nat → FieldType) (hty : ∀ k, k < N → parseFieldDescriptor (Tf k).2.2.1 = some (ty0 k)) (hnm : ∀ a, a < N → ∀ b, b < N → a ≠ b → (Tf a).2.1 ≠ (Tf b).2.1) (j : Nat) (hj : j < N) (hw : Cond.fieldLink own index ref (Tf j).2.1 (Tf j).2.2.1 ∈ wsL_law) (href : (Tf j).1 = ref) (hfin : (Tf j).2.2.2 = true) (hdecl : (Tf j).1 = own) (hd : parseFieldDescriptor (Tf j).2.2.1 = some ty) (hn : narrow ty v = v) (hfit : fits ty v = true) (hl0 : j < fs.length) (h1 : F.set q (a, .inr (ci, fs.set j v)) = F1) (d : decode cc pc = .ok (.putfield index, 3)) (k : Ω (pc + 3) lv st F1 B kc ks) : Ω pc lv (v :: .ref a :: st) F B kc ks := by
  obtain ⟨p, e, s, m, args, below, meth, c, hx, hb, hr, hml, hown, hts, hlocks, hin, hK, hE, rfl⟩ := C
  exact fun H locs ls hP hD hS hl => va_putF (D := D) (ci := ci) (v := v) (C := Cn) (T := Tf) (N := N) hx hb hts hi ty0 hty hnm hown hK hP hD hS q (io_at he) hc j hj (hts _ hw) (fun _ h9 => href ▸ h9) hfin hin hdecl hd hn hfit hl0 d (fun H1 locs1 hP1 hD1 hS1 => k H1 locs1 ls (h1 ▸ io_set he ▸ hP1) (h1 ▸ io_set he ▸ hD1) hS1 hl)
theorem io_iald (C : io_C D T l R own cc nL ws0 w po mc ms Ω) {a n : Nat} {cA : ClassId} {f : Nat → Int32} {i v : Int32} (q t0 : Nat) (he : F[q]? = some (a, .inl (cA, n, .inl f))) (ht : T[t0]? = some (cA, .int)) (hi : vp_in i n) (hv : f i.toNatClampNeg = v) (d : decode cc pc = .ok (.iaload, 1)) (k : Ω (pc + 1) lv (.int v :: st) F B kc ks) : Ω pc lv (.int i :: .ref a :: st) F B kc ks := by
  obtain ⟨p, e, s, m, args, below, meth, c, hx, hb, hr, hml, hown, hts, hlocks, hin, hK, hE, rfl⟩ := C
  exact fun H locs ls hP hD hS hl => va_iald hx hb hK hP q t0 (io_at he) ht hi d (hv ▸ (k H locs ls hP hD hS hl))
theorem io_iast (C : io_C D T l R own cc nL ws0 w po mc ms Ω) {a n j : Nat} {cA : ClassId} {f : Nat → Int32} {i x : Int32} {F1 : va_W} (q t0 : Nat) (he : F[q]? = some (a, .inl (cA, n, .inl f))) (ht : T[t0]? = some (cA, .int)) (hi : vp_in i n) (hj : i.toNatClampNeg = j) (h1 : F.set q (a, .inl (cA, n, .inl (upd f j x))) = F1) (d : decode cc pc = .ok (.iastore, 1)) (k : Ω (pc + 1) lv st F1 B kc ks) : Ω pc lv (.int x :: .int i :: .ref a :: st) F B kc ks := by
  obtain ⟨p, e, s, m, args, below, meth, c, hx, hb, hr, hml, hown, hts, hlocks, hin, hK, hE, rfl⟩ := C
  exact fun H locs ls hP hD hS hl => va_iast hx hb hK hP hD hS q t0 (io_at he) ht hi d (fun H1 locs1 hP1 hD1 hS1 => k H1 locs1 ls (h1 ▸ hj ▸ io_set he ▸ hP1) (h1 ▸ hj ▸ io_set he ▸ hD1) hS1 hl)
theorem io_astq (C : io_C D T l R own cc nL ws0 w po mc ms Ω) {a n j v : Nat} {cA : ClassId} {f : Nat → Option Nat} {i : Int32} {F1 : va_W} {r : vw_C} {vs : List Value} {ci : Nat} (q t0 : Nat) (he : F[q]? = some (a, .inl (cA, n, .inr (.inr (.inr (.inr f)))))) (ht : T[t0]? = some (cA, .object r.1)) (hv : B[0]? = some (v, .inr (ci, vs))) (hc : vwCl[ci]? = some r) (hi : vp_in i n) (hj : i.toNatClampNeg = j) (h1 : F.set q (a, .inl (cA, n, .inr (.inr (.inr (.inr (va_up f j (some v))))))) = F1) (d : decode cc pc = .ok (.aastore, 1)) (k : Ω (pc + 1) lv st F1 B kc ks) : Ω pc lv (.ref v :: .int i :: .ref a :: st) F B kc ks := by
  obtain ⟨p, e, s, m, args, below, meth, c, hx, hb, hr, hml, hown, hts, hlocks, hin, hK, hE, rfl⟩ := C
  exact fun H locs ls hP hD hS hl => va_astq hx hb hK hP hD hS q t0 (F.length + 0) ci (io_at he) ht (by rw [List.getElem?_append_right (Nat.le_add_right _ _), Nat.add_sub_cancel_left]; exact hv) hc hi d (fun H1 locs1 hP1 hD1 hS1 => k H1 locs1 ls (h1 ▸ hj ▸ io_set he ▸ hP1) (h1 ▸ hj ▸ io_set he ▸ hD1) hS1 hl)
theorem io_objI (C : io_C D T l R own cc nL ws0 w po mc ms Ω) {idx a : Nat} (hw : Cond.methodLink own idx objectInit ∈ wsL_law) (hw2 : Cond.instanceMethod objectInit ∈ wsL_law) (hw3 : Cond.code objectInit ⟨#[0xb1]⟩ 1 none ∈ wsL_law) (hf : 1 ≤ R.frames) (hlo : (st.map fun v => v.category).sum + 12 ≤ R.locals) (d : decode cc pc = .ok (.invokespecial idx, 3)) (k : Ω (pc + 3) lv st F B kc ks) : Ω pc lv (.ref a :: st) F B kc ks := by
  obtain ⟨p, e, s, m, args, below, meth, c, hx, hb, hr, hml, hown, hts, hlocks, hin, hK, hE, rfl⟩ := C
  exact fun H locs ls hP hD hS hl => W.objInit hx hb hown (hts _ hw) (hts _ hw2) (hts _ hw3) rfl (by rw [hml]; exact hl.1) rfl d hf (by simpa using hlo) (k H locs ls hP hD hS hl)
theorem io_new (C : io_C D T l R own cc nL ws0 w po mc ms Ω) {ci index : Nat} {Cn : String} {Tf : u_T} {N : Nat} {fs : List Value} (hc : vwCl[ci]? = some (Cn, Tf, N)) (hi : ∀ w ∈ u_ws Cn Tf N, w ∈ wsL_law) (ty0 : Nat → FieldType) (hty : ∀ k, k < N → parseFieldDescriptor (Tf k).2.2.1 = some (ty0 k)) (hw1 : Cond.classLink own index Cn ∈ wsL_law) (hw2 : Cond.instantiable Cn N ∈ wsL_law) (hw3 : Cond.initialized Cn ∈ wsL_law) (hfs : ∀ j, j < N → defaultValue (ty0 j) = vp_V fs j) (hcc : kc + 1 ≤ R.cells) (hcs : ks + N ≤ R.slots) (d : decode cc pc = .ok (.new index, 3)) (k : ∀ q, Ω (pc + 3) lv (.ref q :: st) (F ++ [(q, .inr (ci, fs))]) B (kc + 1) (ks + N)) : Ω pc lv st F B kc ks := by
  obtain ⟨p, e, s, m, args, below, meth, c, hx, hb, hr, hml, hown, hts, hlocks, hin, hK, hE, rfl⟩ := C
  exact fun H locs ls hP hD hS hl => va_new (ci := ci) (fs := fs) (C := Cn) (T := Tf) (N := N) hx hb hts hi ty0 hty hown (hts _ hw1) (hts _ hw2) (hts _ hw3) hK hP hD hS (fun q h => Or.inr h) hc hfs hcc hcs d (fun q H1 hP1 hD1 hS1 => k q H1 locs ls (io_mv hP1) (io_mvD hD1) hS1 hl)
theorem io_newI (C : io_C D T l R own cc nL ws0 w po mc ms Ω) {n : Int32} {N : Nat} {cI : ClassId} (t0 : Nat) (ht : T[t0]? = some (cI, .int)) (hw : Cond.arrayClass .int ∈ wsL_law) (hn : ¬ n < 0) (hN : n.toNatClampNeg = N) (hb0 : N * 4 ≤ 536870912) (hcc : kc + 1 ≤ R.cells) (hcs : ks + N ≤ R.slots) (d : decode cc pc = .ok (.newarray .int, 2)) (k : ∀ q, Ω (pc + 2) lv (.ref q :: st) (F ++ [(q, .inl (cI, N, .inl (fun _ => 0)))]) B (kc + 1) (ks + N)) : Ω pc lv (.int n :: st) F B kc ks := by
  obtain ⟨p, e, s, m, args, below, meth, c, hx, hb, hr, hml, hown, hts, hlocks, hin, hK, hE, rfl⟩ := C
  exact fun H locs ls hP hD hS hl => va_newa (atype := .int) (ty := .int) (N' := N) (a0 := (N, .inl (fun _ => 0))) hx hb (hts _ hw) rfl hK hP hD hS (fun q h => Or.inr h) (fun _ => rfl) hn hN hb0 hcc hcs d (fun q cA H1 hK1 hP1 hD1 hS1 => by
    have e1 : s.vm.findClass ("[" ++ FieldType.int.toString) = some cA := (hK1.2 T.length (cA, .int) (by simp)).2
    have e2 : s.vm.findClass ("[" ++ FieldType.int.toString) = some cI := (hK.2 t0 (cI, .int) ht).2
    have e3 : cI = cA := Option.some.inj (e2.symm.trans e1)
    subst e3
    exact k q H1 locs ls (io_mv hP1) (io_mvD hD1) hS1 hl)
theorem io_newq (C : io_C D T l R own cc nL ws0 w po mc ms Ω) {n : Int32} {N index : Nat} {cS : ClassId} (t0 : Nat) (ht : T[t0]? = some (cS, .object "LineCaster$Sheet")) (hw : Cond.classLink own index "LineCaster$Sheet" ∈ wsL_law) (hn : ¬ n < 0) (hN : n.toNatClampNeg = N) (hb0 : N * 4 ≤ 536870912) (hcc : kc + 1 ≤ R.cells) (hcs : ks + N ≤ R.slots) (d : decode cc pc = .ok (.anewarray index, 3)) (k : ∀ q, Ω (pc + 3) lv (.ref q :: st) (F ++ [(q, .inl (cS, N, .inr (.inr (.inr (.inr (fun _ => none))))))]) B (kc + 1) (ks + N)) : Ω pc lv (.int n :: st) F B kc ks := by
  obtain ⟨p, e, s, m, args, below, meth, c, hx, hb, hr, hml, hown, hts, hlocks, hin, hK, hE, rfl⟩ := C
  exact fun H locs ls hP hD hS hl => va_newq (C := "LineCaster$Sheet") (N' := N) hx hb hown (hts _ hw) hE.1 hK hP hD hS (fun q h => Or.inr h) hn hN hb0 hcc hcs d (fun q cA H1 hK1 hP1 hD1 hS1 => by
    obtain ⟨_, _, _, _, _, e1⟩ := (hK1.2 T.length (cA, .object "LineCaster$Sheet") (by simp)).2
    obtain ⟨_, _, _, _, _, e2⟩ := (hK.2 t0 (cS, .object "LineCaster$Sheet") ht).2
    have e3 : cS = cA := Option.some.inj (e2.symm.trans e1)
    subst e3
    exact k q H1 locs ls (io_mv hP1) (io_mvD hD1) hS1 hl)
theorem io_mnaI (C : io_C D T l R own cc nL ws0 w po mc ms Ω) {n kk : Int32} {N K index : Nat} {cA0 cy : ClassId} (t0 t1 : Nat) (ht : T[t0]? = some (cA0, .array .int)) (ht1 : T[t1]? = some (cy, .int)) (hw : Cond.classLink own index ("[" ++ (FieldType.array .int).toString) ∈ wsL_law) (hw2 : Cond.arrayClass .int ∈ wsL_law) (hn : ¬ n < 0) (hk : ¬ kk < 0) (hN : n.toNatClampNeg = N) (hKK : kk.toNatClampNeg = K) (hb1 : N * 4 ≤ 536870912) (hb2 : K * 4 ≤ 536870912) (hb3 : K ≤ 536870912) (hcc : kc + (1 + N) ≤ R.cells) (hcs : ks + (N + N * K) ≤ R.slots) (d : decode cc pc = .ok (.multianewarray index 2, 4)) (k : ∀ (q : Nat) (r : Nat → Nat), Ω (pc + 4) lv (.ref q :: st) (F ++ [(q, .inl (cA0, N, .inr (.inr (.inr (.inr (fun i => if i < N then some (r i) else none))))))]) (B ++ (List.range N).map (fun i => (r i, .inl (cy, K, .inl (fun _ => 0))))) (kc + 1 + N) (ks + N + N * K)) : Ω pc lv (.int kk :: .int n :: st) F B kc ks := by
  obtain ⟨p, e, s, m, args, below, meth, c, hx, hb, hr, hml, hown, hts, hlocks, hin, hK, hE, rfl⟩ := C
  exact fun H locs ls hP hD hS hl => va_mna (X := F ++ B) (L := []) (f := fun _ => .inr (0, [])) (N' := N) (K' := K) (z := (K, .inl (fun _ => 0))) hx hb hown (hts _ hw) hE.2.1 (hts _ hw2) (hK.2 t1 (cy, .int) ht1).2 hK (by rw [va_pl, List.map_nil, List.append_nil]; exact hP) (by rw [va_pl, List.map_nil, List.append_nil]; exact hD) hS (fun q h => Or.inr h) hn hk hN hKK hb1 hb2 hb3 rfl rfl hcc hcs (fun cq => by show ({ cls := cq, slots := Array.replicate K (defaultValue .int), vm := .none } : Cell) = _; rw [arrV_new]; rfl) d (fun q r cA H1 hr1 hr2 hK1 hP1 hD1 hS1 => by
    have e1 : s.vm.findClass ("[" ++ (FieldType.array .int).toString) = some cA := (hK1.2 T.length (cA, .array .int) (by simp)).2
    have e2 : s.vm.findClass ("[" ++ (FieldType.array .int).toString) = some cA0 := (hK.2 t0 (cA0, .array .int) ht).2
    have e3 : cA0 = cA := Option.some.inj (e2.symm.trans e1)
    subst e3
    rw [io_rows] at hP1 hD1
    exact k q r H1 locs ls (io_mv2 hP1) (io_mv2D hD1) hS1 hl)
theorem io_mnaB (C : io_C D T l R own cc nL ws0 w po mc ms Ω) {n kk : Int32} {N K index : Nat} {cA0 cy : ClassId} (t0 t1 : Nat) (ht : T[t0]? = some (cA0, .array .byte)) (ht1 : T[t1]? = some (cy, .byte)) (hw : Cond.classLink own index ("[" ++ (FieldType.array .byte).toString) ∈ wsL_law) (hw2 : Cond.arrayClass .byte ∈ wsL_law) (hn : ¬ n < 0) (hk : ¬ kk < 0) (hN : n.toNatClampNeg = N) (hKK : kk.toNatClampNeg = K) (hb1 : N * 4 ≤ 536870912) (hb2 : K * 1 ≤ 536870912) (hb3 : K ≤ 536870912) (hcc : kc + (1 + N) ≤ R.cells) (hcs : ks + (N + N * K) ≤ R.slots) (d : decode cc pc = .ok (.multianewarray index 2, 4)) (k : ∀ (q : Nat) (r : Nat → Nat), Ω (pc + 4) lv (.ref q :: st) (F ++ [(q, .inl (cA0, N, .inr (.inr (.inr (.inr (fun i => if i < N then some (r i) else none))))))]) (B ++ (List.range N).map (fun i => (r i, .inl (cy, K, .inl (fun _ => 0))))) (kc + 1 + N) (ks + N + N * K)) : Ω pc lv (.int kk :: .int n :: st) F B kc ks := by
  obtain ⟨p, e, s, m, args, below, meth, c, hx, hb, hr, hml, hown, hts, hlocks, hin, hK, hE, rfl⟩ := C
  exact fun H locs ls hP hD hS hl => va_mna (X := F ++ B) (L := []) (f := fun _ => .inr (0, [])) (N' := N) (K' := K) (z := (K, .inl (fun _ => 0))) hx hb hown (hts _ hw) hE.2.2.1 (hts _ hw2) (hK.2 t1 (cy, .byte) ht1).2 hK (by rw [va_pl, List.map_nil, List.append_nil]; exact hP) (by rw [va_pl, List.map_nil, List.append_nil]; exact hD) hS (fun q h => Or.inr h) hn hk hN hKK hb1 hb2 hb3 rfl rfl hcc hcs (fun cq => by show ({ cls := cq, slots := Array.replicate K (defaultValue .byte), vm := .none } : Cell) = _; rw [arrV_new]; rfl) d (fun q r cA H1 hr1 hr2 hK1 hP1 hD1 hS1 => by
    have e1 : s.vm.findClass ("[" ++ (FieldType.array .byte).toString) = some cA := (hK1.2 T.length (cA, .array .byte) (by simp)).2
    have e2 : s.vm.findClass ("[" ++ (FieldType.array .byte).toString) = some cA0 := (hK.2 t0 (cA0, .array .byte) ht).2
    have e3 : cA0 = cA := Option.some.inj (e2.symm.trans e1)
    subst e3
    rw [io_rows] at hP1 hD1
    exact k q r H1 locs ls (io_mv2 hP1) (io_mv2D hD1) hS1 hl)
theorem io_ret (C : io_C D T l R own cc nL ws0 w po mc ms Ω) (u : S) (hu : po u) {is : List Nat} (hw : is.map (fun i => (F ++ B)[i]?) = (w u).map some) (hn : va_nd is = true) (hk : kc = mc) (hs : ks = ms) (d : decode cc pc = .ok (.return_, 1)) : Ω pc lv [] F B kc ks := by
  obtain ⟨p, e, s, m, args, below, meth, c, hx, hb, hr, hml, hown, hts, hlocks, hin, hK, hE, rfl⟩ := C
  subst hk
  subst hs
  exact fun H locs ls hP hD hS hl => W.vret hx hb hr (fun t ht hW => ⟨⟨u, rfl, hu, by rw [ht]; exact hP.sub is (io_fm hw), hD.sub is hn hw⟩, hS.F ht⟩) hS.2.2 d
theorem io_lay {Y : la_Lay} {μ : la_Mem} {W0 : va_W} {D : va_G} {cl : List vw_C} {A : Nat → Prop} {H : Heap} (ps : List Nat) (hp : ∀ i, i < Y.1 → ∀ j, j < Y.1 → ps.getD i 0 = ps.getD j 0 → i = j) (key : ∀ k, k < Y.1 → W0[ps.getD k 0]? = some (Y.2.2.1 k, Y.2.1 k (μ k))) (hP : va_P D cl W0 H) (hD : va_D A W0) : va_P D cl (la_cells Y μ) H ∧ va_D A (la_cells Y μ) := by
  refine ⟨fun k q hk => ?_, fun i j a b ha hb e => ?_, fun k q hk => ?_⟩
  · obtain ⟨h1, rfl⟩ := la_got hk
    exact hP _ _ (key k h1)
  · obtain ⟨h1, rfl⟩ := la_got ha
    obtain ⟨h2, rfl⟩ := la_got hb
    exact hp i h1 j h2 (hD.1 _ _ _ _ (key i h1) (key j h2) e)
  · obtain ⟨h1, rfl⟩ := la_got hk
    exact hD.2 _ _ (key k h1)
theorem io_retL {Yu : S → la_Lay} {μ : la_Mem} (C : io_C D T l R own cc nL ws0 (fun u => la_cells (Yu u) μ) po mc ms Ω) (u : S) (hu : po u) (ps : List Nat) (hp : ∀ i, i < (Yu u).1 → ∀ j, j < (Yu u).1 → ps.getD i 0 = ps.getD j 0 → i = j) (key : ∀ k, k < (Yu u).1 → (F ++ B)[ps.getD k 0]? = some ((Yu u).2.2.1 k, (Yu u).2.1 k (μ k))) (hk : kc = mc) (hs : ks = ms) (d : decode cc pc = .ok (.return_, 1)) : Ω pc lv [] F B kc ks := by
  obtain ⟨p, e, s, m, args, below, meth, c, hx, hb, hr, hml, hown, hts, hlocks, hin, hK, hE, rfl⟩ := C
  subst hk
  subst hs
  exact fun H locs ls hP hD hS hl => W.vret hx hb hr (fun t ht hW => ⟨⟨u, rfl, hu, by rw [ht]; exact (io_lay ps hp key hP hD).1, (io_lay ps hp key hP hD).2⟩, hS.F ht⟩) hS.2.2 d
theorem io_blind (av : List Value) (ws : va_W) (sz : Nat) : FrameBlind (va_Pc av (io_Pre D T ws sz)) := fun a U g mk q => by
  obtain ⟨q0, q1, qP, qK, qD, qE⟩ := q
  exact ⟨q0, q1, qP, va_K.moved (u := U) (U := U.calling g mk a) (Vm.Alike.refl U.vm) qK, qD, io_Es (s := U) rfl qE⟩
theorem io_call (C : io_C D T l R own cc nL ws0 w po mc ms Ω) {y : MethodName} {bytes : ByteArray} {maxL idx q mc1 ms1 : Nat} {rm : Room} {x : va_E} {S1 : Type} {po1 : S1 → Prop} {w1 : S1 → va_W} {G : va_W} (hM : io_M D T l y bytes maxL rm q [(q, x)] w1 po1 mc1 ms1)
    (hn : (∃ host : String, io_E = io_E ∧ (∀ s : State, io_E s → va_Nw (.methodLinkNest own idx y host) s)) ∨ Cond.methodLink own idx y ∈ wsL_law)
    (hwc : Cond.code y bytes maxL none ∈ wsL_law) (hwi : Cond.instanceMethod y ∈ wsL_law) (hwn : Cond.initialized y.cls ∈ wsL_law) (hy : y.name = "<init>")
    (hd : y.cls ≠ "java/lang/invoke/MethodHandle" ∧ y.cls ≠ "java/lang/invoke/VarHandle" ∧ (parseMethodDescriptor y.desc).map (fun d => d.parameters.length) = some 0)
    (hR : rm.frames + 1 ≤ R.frames ∧ 8 + (maxL + 11) + rm.locals ≤ R.locals) (hc0 : rm.cells = mc1) (hs0 : rm.slots = ms1) (hW : (st.map fun v => v.category).sum ≤ 8) (hcc : kc + mc1 ≤ R.cells) (hcs : ks + ms1 ≤ R.slots) (hG : F = G ++ [(q, x)])
    (d : decode cc pc = .ok (.invokespecial idx, 3)) (k : ∀ u : S1, po1 u → Ω (pc + 3) lv st G (w1 u ++ B) (kc + mc1) (ks + ms1)) : Ω pc lv (.ref q :: st) F B kc ks := by
  obtain ⟨p, e, s, m, args, below, meth, c, hx, hb, hr, hml, hown, hts, hlocks, hin, hK, hE, rfl⟩ := C
  intro H locs ls hP hD hS hl
  subst hG
  have hP2 : va_P D vwCl ((G ++ B) ++ [(q, x)]) H := va_P.swap hP
  have hD2 : va_D (va_A ws0 s.heap.size) ((G ++ B) ++ [(q, x)]) := va_D.swap hD
  have hFc : ∀ a, va_A [(q, x)] H.size a → va_A ws0 s.heap.size a := by
    intro a h
    rcases h with ⟨k2, e2, h⟩ | h
    · have h0 : k2 = 0 := by
        have := (List.getElem?_eq_some_iff.mp h).1
        simp at this
        exact this
      subst h0
      have hx2 : (q, x) = (a, e2) := Option.some.inj h
      have := hD2.2 (G ++ B).length (q, x) (by simp)
      rw [hx2] at this
      exact this
    · exact Or.inr (Nat.le_trans hS.1 h)
  have hgood : GoodIn wsL_law (Cond.code y bytes maxL none :: wsL_law) := fun w0 h0 => by
    rcases List.mem_cons.mp h0 with rfl | h0
    · exact la_gw _ hwc
    · exact la_gw _ h0
  have hpre : PreS s H (va_Pc [.ref q] (io_Pre D T [(q, x)] H.size)) [.ref q] := ⟨io_blind _ _ _, fun U hU hW => ⟨rfl, by rw [hU], by
      rw [hU]
      intro k0 q0 hk0
      have h0 : k0 = 0 := by
        have := (List.getElem?_eq_some_iff.mp hk0).1
        simp at this
        exact this
      subst h0
      exact hP2 (G ++ B).length q0 (by simpa using hk0), va_K.moved hW.alike hK, ⟨fun i j a b ha hb _ => by
        have := (List.getElem?_eq_some_iff.mp ha).1
        have := (List.getElem?_eq_some_iff.mp hb).1
        simp at *
        omega, fun _ _ _ => trivial⟩, io_Ew hW hE⟩⟩
  have hrun : va_Run p l e R s m args below meth c H locs kc ks mc1 ms1 (F0 m pc ls (.ref q :: st)) st (va_Qv po1 (io_B D (va_A [(q, x)] H.size) w1) (va_A [(q, x)] H.size) #[.ref q]) (va_A [(q, x)] H.size) := by
    rcases hn with ⟨host, -, hn⟩ | hn
    · exact va_runIN (As := []) (rest := st) ⟨hx, hb, hml, hown, hts⟩ (hM H.size) ⟨va_cnB 0 hts hgood rfl hc0 hs0 (hn s hE) (hts _ hwn) hd hR, hy, hts _ hwi⟩ hpre rfl rfl hl.1 rfl (lv_room hW) d ⟨hcc, hcs⟩
    · exact va_runI (As := []) (rest := st) ⟨hx, hb, hml, hown, hts⟩ (hM H.size) (cwI 0 hts hgood rfl hc0 hs0 (hts _ hwn) (hts _ hn) (hts _ hwi) hy hd hR) hpre rfl rfl hl.1 rfl (lv_room hW) d ⟨hcc, hcs⟩
  refine va_callv hrun hS (fun a _ h => hFc a h) hFc (fun u t H1 locs1 ht hvm hw hB hz1 hk1 hS1 => ?_)
  obtain ⟨hP1, hD1⟩ := hB
  rw [ht] at hP1
  obtain ⟨hP3, hD3⟩ := io_join hP2 hD2 hk1 hFc hP1 hD1
  refine k u hw H1 locs1 ls ?_ ?_ hS1 hl
  · have h9 := va_P.swap hP3
    rw [List.append_assoc] at h9
    exact h9
  · have h9 := va_D.swap hD3
    rw [List.append_assoc] at h9
    exact h9
theorem io_of {y : MethodName} {rm : Room} {h0 : Nat} (hy : plainName y.cls = true) (hyc : y.cls = own) (hyn : y.name = "<init>") (hn : 1 ≤ nL)
    (body : ∀ Ω : Nat → List (Nat × Value) → List Value → va_W → va_W → Nat → Nat → Prop, io_C D T l rm own cc nL ws0 w po mc ms Ω → Ω 0 [(0, .ref h0)] [] ws0 [] 0 0) : io_M D T l y cc nL rm h0 ws0 w po mc ms := by
  intro sz
  refine Met.ofW (cc := cc) (maxL := nL) (ret := none) hy rfl ?_
  intro p e s m args below meth c s₁ Bd hml hv
  obtain ⟨rfl, rfl, hP, hK, hD, hE⟩ := hv
  have hts := atoms_spec (ws := Cond.code y cc nL none :: wsL_law) Bd.pre
  have hown : s.vm.findClass own = some m.cls := hyc ▸ findClass_of_methodNamed Bd.named
  have hin : meth.name = "<init>" := (name_of_methodNamed Bd.named Bd.method).1.trans hyn
  have hl := lv_entry [.ref h0] (n := nL) hn
  rw [lg_entry_eq]
  exact body _ ⟨p, e, s, m, #[.ref h0], below, meth, c, Bd.exec, Bd.bytes, Bd.returns, hml, hown, fun w0 hw => hts w0 (List.mem_cons_of_mem _ hw), Bd.notSynchronized, hin, hK, hE, rfl⟩ s.heap [] _ (by rw [List.append_nil]; exact hP) (by rw [List.append_nil]; exact hD.self) va_S.rf hl
end IoRules
