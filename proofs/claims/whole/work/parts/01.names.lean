/-! ===== BEGIN words of one list among another's, by their places ===== -/
theorem goodIn_r {big : List Cond} (ws : List Cond) (ps : List Nat) (hp : ws = ps.filterMap (fun i => big[i]?)) (h : ws.all goodWord = true) : GoodIn big ws := by
  intro w hw
  have h1 := List.all_eq_true.mp h w hw
  rw [hp] at hw
  obtain ⟨i, -, hi⟩ := List.mem_filterMap.mp hw
  have hm : w ∈ big := by first | exact List.mem_of_getElem? hi | exact List.getElem?_mem hi
  exact ⟨hm, good_of_word h1⟩
theorem goodIn_app {big a b : List Cond} (ha : GoodIn big a) (hb : GoodIn big b) : GoodIn big (a ++ b) := fun w h => (List.mem_append.mp h).elim (ha w) (hb w)
theorem goodIn_ca {big a b : List Cond} {c : Cond} (ha : GoodIn big (c :: a)) (hb : GoodIn big b) : GoodIn big (c :: (a ++ b)) := fun w h => (List.mem_cons.mp h).elim (fun e => ha w (List.mem_cons.mpr (Or.inl e))) (fun h => (List.mem_append.mp h).elim (fun h => ha w (List.mem_cons.mpr (Or.inr h))) (hb w))
theorem goodIn_sub {big ws : List Cond} (hm : ∀ w ∈ ws, w ∈ big) (h : ws.all goodWord = true) : GoodIn big ws := fun w hw => ⟨hm w hw, good_of_word (List.all_eq_true.mp h w hw)⟩
/-! ===== END ===== -/

/-! ===== BEGIN new T[n][m]: the outer array a place, the inner ones among the pooled ===== -/
/-- f, but v at every address of l -/
def vr_up {α : Type} (f : Nat → α) (l : List Nat) (v : α) : Nat → α := fun a => if a ∈ l then v else f a
theorem vr_up_in {α : Type} {f : Nat → α} {l : List Nat} {v : α} {a : Nat} (h : a ∈ l) : vr_up f l v a = v := if_pos h
theorem vr_up_ne {α : Type} {f : Nat → α} {l : List Nat} {v : α} {a : Nat} (h : a ∉ l) : vr_up f l v a = f a := if_neg h
theorem vr_rows {L l : List Nat} {f : Nat → va_E} {e : va_E} (h : ∀ a, a ∈ l → a ∉ L) : va_pl L f ++ l.map (fun a => (a, e)) = va_pl (L ++ l) (vr_up f l e) := by
  unfold va_pl
  rw [List.map_append]
  congr 1
  · apply List.map_congr_left
    intro a ha
    rw [vr_up_ne (fun q => h a q ha)]
  · apply List.map_congr_left
    intro a ha
    rw [vr_up_in ha]
theorem vr_lay {X rows : va_W} {x : Nat × va_E} {pl : va_W} {D : va_G} {cl : List vw_C} {H : Heap} (hP : va_P D cl (((X ++ pl) ++ [x]) ++ rows) H) : va_P D cl ((X ++ [x]) ++ (pl ++ rows)) H := by
  rw [List.append_assoc (X ++ pl)] at hP
  have h := va_P.swap hP
  rw [← List.append_assoc X] at h
  have h2 := va_P.swap h
  rw [List.append_assoc (X ++ [x])] at h2
  exact h2
theorem vr_layD {X rows : va_W} {x : Nat × va_E} {pl : va_W} {A : Nat → Prop} (hD : va_D A (((X ++ pl) ++ [x]) ++ rows)) : va_D A ((X ++ [x]) ++ (pl ++ rows)) := by
  rw [List.append_assoc (X ++ pl)] at hD
  have h := va_D.swap hD
  rw [← List.append_assoc X] at h
  have h2 := va_D.swap h
  rw [List.append_assoc (X ++ [x])] at h2
  exact h2
theorem vr_outer (c : ClassId) (N h0 : Nat) : ∀ i : Nat, Jvm.Free.Multi.outerC c N h0 i = arrV c N (fun j => va_rf (if j < i then some (h0 + 1 + j) else none))
  | 0 => by
    show ({ cls := c, slots := Array.replicate N .null, vm := .none } : Cell) = _
    rw [arrV_new]
    refine congrArg (arrV c N) (funext fun j => ?_)
    simp [va_rf]
  | i + 1 => by
    show (Jvm.Free.Multi.outerC c N h0 i).setSlot i (.ref (h0 + 1 + i)) = _
    rw [vr_outer c N h0 i, arrV_store]
    refine congrArg (arrV c N) (funext fun j => ?_)
    by_cases e : j = i
    · subst e
      simp [updV, va_rf]
    · by_cases h : j < i
      · simp [updV, e, h, Nat.lt_succ_of_lt h]
      · simp [updV, e, h, show ¬ j < i + 1 by omega]
section VGM
variable {p : Program} {l : Launch} {e : Env} {R : Room} {s : State} {m : MethodId} {args : Array Value} {below : List Frame} {meth : Method} {c : Code} {H : Heap} {locs : List Loc} {cells slots : Nat} {Q : State → Prop}
variable {cc : ByteArray} {pc : Nat} {ls : Array Slot} {rest : List Value} {D : va_G} {cl : List vw_C} {A : Nat → Prop} {a : Nat} {tys : List (ClassId × FieldType)} {ws : va_W} {H0 : Heap}
theorem va_mna {X : va_W} {L : List Nat} {f : Nat → va_E} {cc : ByteArray} (hexec : p.tables.exec = Jvm.exec) (hb : c.code = cc) {own : String} {index : Nat} {ty : FieldType} {cy : ClassId} (hown : s.vm.findClass own = some m.cls) (hclink : (Cond.classLink own index ("[" ++ (FieldType.array ty).toString)).before args s = true) (hover : va_AOA ty s) (harr : (Cond.arrayClass ty).before args s = true) (hcy : s.vm.findClass (FieldType.array ty).toString = some cy)
    (hK : va_K D cl tys s) (hP : va_P D cl (X ++ va_pl L f) H) (hD : va_D A (X ++ va_pl L f)) (hS : va_S A H0 H locs) (hA : ∀ q, H0.size ≤ q → A q) {n k : Int32} {N' K' : Nat} {z : vp_A} (hn : ¬ n < 0) (hk : ¬ k < 0) (hN : n.toNatClampNeg = N') (hM : k.toNatClampNeg = K')
    (hb1 : N' * 4 ≤ 536870912) (hb2 : K' * componentBytes ty ≤ 536870912) (hb3 : K' ≤ 536870912) (hdf : fits ty (defaultValue ty) = true) (hdd : (defaultValue ty).isDefault = true) (hcells : cells + (1 + N') ≤ R.cells) (hslots : slots + (N' + N' * K') ≤ R.slots) (hz : ∀ c : ClassId, Jvm.Free.Multi.innerC c K' (defaultValue ty) = vp_cell c z) (hdg : decode cc pc = .ok (.multianewarray index 2, 4))
    (kk : ∀ (q : Nat) (r : Nat → Nat) (cA : ClassId) (H1 : Heap), (∀ i j : Nat, i < N' → j < N' → r i = r j → i = j) → (∀ i : Nat, i < N' → r i ∉ L) → va_K D cl (tys ++ [(cA, .array ty)]) s →
      va_P D cl ((X ++ [(q, .inl (cA, N', .inr (.inr (.inr (.inr (fun i => if i < N' then some (r i) else none))))))]) ++ va_pl (L ++ (List.range N').map r) (vr_up f ((List.range N').map r) (.inl (cy, z)))) H1 → va_D A ((X ++ [(q, .inl (cA, N', .inr (.inr (.inr (.inr (fun i => if i < N' then some (r i) else none))))))]) ++ va_pl (L ++ (List.range N').map r) (vr_up f ((List.range N').map r) (.inl (cy, z)))) → va_S A H0 H1 locs →
      W p l e R s m args below meth c H1 locs (cells + 1 + N') (slots + N' + N' * K') Q (F0 m (pc + 4) ls (.ref q :: rest))) : W p l e R s m args below meth c H locs cells slots Q (F0 m pc ls (.int k :: .int n :: rest)) := by
  subst hN
  subst hM
  intro T hT Xs
  obtain ⟨vm₁, cA, comp, -, fA, fC, hO, -, X', step⟩ := Xs.multianewarray2F hexec hown hclink (va_AOA.use hover) harr (g := F0 m pc ls (.int k :: .int n :: rest)) rfl (by rw [hb]; exact hdg) rfl hn hk hb1 hb2 hb3 hdf hdd hcells hslots
  have ec : some cy = some comp := hcy.symm.trans fC
  cases ec
  generalize hF : Jvm.Free.Multi.fill (T.setVm vm₁) cA cy n.toNatClampNeg k.toNatClampNeg (defaultValue ty) n.toNatClampNeg = F at X' step
  have hTh : (T.setVm vm₁).heap = H := hT
  obtain ⟨f1, f2, -, -⟩ := Jvm.Free.Multi.fill_facts (T.setVm vm₁) cA cy n.toNatClampNeg k.toNatClampNeg (defaultValue ty) n.toNatClampNeg
  rw [hF, hTh] at f1 f2
  have hold : ∀ x : Nat, x < H.size → F.heap[x]? = H[x]? := fun x hx => by
    have := Jvm.Free.Multi.fill_old (T.setVm vm₁) cA cy n.toNatClampNeg k.toNatClampNeg (defaultValue ty) (a := x) (by rw [hTh]; exact hx) n.toNatClampNeg
    rw [hF, hTh] at this
    exact this
  have hrow : ∀ j : Nat, j < n.toNatClampNeg → F.heap[H.size + 1 + j]? = some (vp_cell cy z) := fun j hj => by
    have := Jvm.Free.Multi.fill_inner (T.setVm vm₁) cA cy n.toNatClampNeg k.toNatClampNeg (defaultValue ty) n.toNatClampNeg j hj
    rw [hF, hTh, hz] at this
    exact this
  have hout : Jvm.Free.Multi.outerC cA n.toNatClampNeg H.size n.toNatClampNeg = vp_cell cA (n.toNatClampNeg, .inr (.inr (.inr (.inr (fun i => if i < n.toNatClampNeg then some (H.size + 1 + i) else none))))) := by
    rw [vp_cell_q]
    exact vr_outer cA n.toNatClampNeg H.size n.toNatClampNeg
  rw [hout] at f2
  have hlt : ∀ a, a ∈ L → a < H.size := fun a ha => by
    obtain ⟨k9, hk9⟩ := va_pl_get (X := X) (f := f) ha
    exact (hP k9 _ hk9).lt
  have hnl : ∀ i : Nat, i < n.toNatClampNeg → H.size + 1 + i ∉ L := fun i _ h => by
    have := hlt _ h
    omega
  have hnm : ∀ a, a ∈ (List.range n.toNatClampNeg).map (fun i => H.size + 1 + i) → a ∉ L := fun a ha h => by
    obtain ⟨i, -, rfl⟩ := List.mem_map.mp ha
    have := hlt _ h
    omega
  have hP0 : va_P D cl (X ++ va_pl L f) F.heap := hP.kept (fun k9 x hx => hold x.1 ((hP k9 x hx).lt))
  have hP1 : va_P D cl ((X ++ va_pl L f) ++ [(H.size, .inl (cA, n.toNatClampNeg, .inr (.inr (.inr (.inr (fun i => if i < n.toNatClampNeg then some (H.size + 1 + i) else none))))))]) F.heap := hP0.app (fun k9 x hx => by
    have h0 : k9 < 1 := (List.getElem?_eq_some_iff.mp hx).1
    rw [show k9 = 0 by omega] at hx
    cases hx
    exact f2)
  have hP2 : va_P D cl (((X ++ va_pl L f) ++ [(H.size, .inl (cA, n.toNatClampNeg, .inr (.inr (.inr (.inr (fun i => if i < n.toNatClampNeg then some (H.size + 1 + i) else none))))))]) ++ ((List.range n.toNatClampNeg).map (fun i => H.size + 1 + i)).map (fun a => (a, .inl (cy, z)))) F.heap := hP1.app (fun k9 x hx => by
    obtain ⟨a, ha, rfl⟩ := List.mem_map.mp (List.mem_of_getElem? hx)
    obtain ⟨i, hi, rfl⟩ := List.mem_map.mp ha
    exact hrow i (List.mem_range.mp hi))
  have hD2 : va_D A (((X ++ va_pl L f) ++ [(H.size, .inl (cA, n.toNatClampNeg, .inr (.inr (.inr (.inr (fun i => if i < n.toNatClampNeg then some (H.size + 1 + i) else none))))))]) ++ ((List.range n.toNatClampNeg).map (fun i => H.size + 1 + i)).map (fun a => (a, .inl (cy, z)))) := by
    have hD1 := hD.push (e := .inl (cA, n.toNatClampNeg, .inr (.inr (.inr (.inr (fun i => if i < n.toNatClampNeg then some (H.size + 1 + i) else none)))))) hP rfl (hA _ hS.1)
    generalize hW1 : (X ++ va_pl L f) ++ [(H.size, .inl (cA, n.toNatClampNeg, .inr (.inr (.inr (.inr (fun i => if i < n.toNatClampNeg then some (H.size + 1 + i) else none))))))] = W1 at hD1 hP1 ⊢
    have hle : ∀ (k9 : Nat) (x : Nat × va_E), W1[k9]? = some x → x.1 ≤ H.size := fun k9 x hx => by
      rw [← hW1] at hx
      by_cases hl : k9 < (X ++ va_pl L f).length
      · rw [List.getElem?_append_left hl] at hx
        exact Nat.le_of_lt ((hP k9 x hx).lt)
      · rw [List.getElem?_append_right (by omega)] at hx
        have h0 : k9 - (X ++ va_pl L f).length < 1 := (List.getElem?_eq_some_iff.mp hx).1
        rw [show k9 - (X ++ va_pl L f).length = 0 by omega] at hx
        cases hx
        exact Nat.le_refl _
    have hr : ∀ (k9 : Nat) (x : Nat × va_E), (((List.range n.toNatClampNeg).map (fun i => H.size + 1 + i)).map (fun a => ((a, .inl (cy, z)) : Nat × va_E)))[k9]? = some x → x.1 = H.size + 1 + k9 := fun k9 x hx => by
      rw [List.getElem?_map, List.getElem?_map] at hx
      by_cases h9 : k9 < n.toNatClampNeg
      · rw [List.getElem?_range h9] at hx
        cases hx
        rfl
      · have hn0 : (List.range n.toNatClampNeg)[k9]? = none := List.getElem?_eq_none (by rw [List.length_range]; omega)
        rw [hn0] at hx
        cases hx
    refine ⟨fun i j x y hi hj hxy => ?_, fun k9 x hx => ?_⟩
    · by_cases h1 : i < W1.length <;> by_cases h2 : j < W1.length
      · rw [List.getElem?_append_left h1] at hi
        rw [List.getElem?_append_left h2] at hj
        exact hD1.1 i j x y hi hj hxy
      · rw [List.getElem?_append_left h1] at hi
        rw [List.getElem?_append_right (by omega)] at hj
        have := hle _ _ hi
        have := hr _ _ hj
        omega
      · rw [List.getElem?_append_right (by omega)] at hi
        rw [List.getElem?_append_left h2] at hj
        have := hle _ _ hj
        have := hr _ _ hi
        omega
      · rw [List.getElem?_append_right (by omega)] at hi hj
        have := hr _ _ hi
        have := hr _ _ hj
        omega
    · by_cases h1 : k9 < W1.length
      · rw [List.getElem?_append_left h1] at hx
        exact hD1.2 k9 x hx
      · rw [List.getElem?_append_right (by omega)] at hx
        have := hr _ _ hx
        exact hA _ (by have := hS.1; omega)
  have hAr : ArrOfT s cA (.array ty) := fun N9 z9 => by
    obtain ⟨-, k9, hk9, cm9, hkk9⟩ := (hO 0 0 0).1
    exact ⟨(fun q hq => by cases hq), k9, hk9, cm9, hkk9⟩
  have hK2 : va_K D cl (tys ++ [(cA, .array ty)]) s := ⟨hK.1, fun k9 x hx => by
    by_cases hl : k9 < tys.length
    · rw [List.getElem?_append_left hl] at hx
      exact hK.2 k9 x hx
    · rw [List.getElem?_append_right (by omega)] at hx
      have h0 : k9 - tys.length < 1 := (List.getElem?_eq_some_iff.mp hx).1
      rw [show k9 - tys.length = 0 by omega] at hx
      cases hx
      exact ⟨hAr, fA⟩⟩
  obtain ⟨t, a1, b1⟩ := kk H.size (fun i => H.size + 1 + i) cA F.heap (fun i j _ _ h => by have h9 : H.size + 1 + i = H.size + 1 + j := h; omega) hnl hK2 (by rw [← vr_rows hnm]; exact vr_lay hP2) (by rw [← vr_rows hnm]; exact vr_layD hD2) ⟨by rw [f1]; have := hS.1; omega, fun x h1 h2 => (hold x (Nat.lt_of_lt_of_le h1 hS.1)).trans (hS.2.1 x h1 h2), hS.2.2⟩ F rfl X'
  refine ⟨t, step t ?_, b1⟩
  have e : T.heap.size = H.size := by rw [hT]
  rw [e]
  exact a1
end VGM
/-! ===== END ===== -/

def RX0 : String := "LineCaster$Bar"
def TX0 : u_T := fun k => match k with
  | 0 => ("LineCaster$Bar", "teeth", "[I", true)
  | _ => ("LineCaster$Bar", "rails", "[I", true)
def tyX0 : Nat → FieldType := fun k => match k with
  | 0 => .array .int
  | _ => .array .int
abbrev wsX00 : List Cond := u_ws RX0 TX0 2
theorem nmX0 : ∀ a, a < 2 → ∀ b, b < 2 → a ≠ b → (TX0 a).2.1 ≠ (TX0 b).2.1 := by decide +kernel
theorem tyX0_ok : ∀ k, k < 2 → parseFieldDescriptor (TX0 k).2.2.1 = some (tyX0 k) := by decide +kernel
abbrev cX0_init : ByteArray := prog_2_method_1_code
def yX0_init : MethodName := ⟨RX0, "<init>", "()V"⟩
abbrev cX0_fallOf : ByteArray := prog_2_method_2_code
def yX0_fallOf : MethodName := ⟨RX0, "fallOf", "(I)I"⟩
abbrev cX0_firstAstray : ByteArray := prog_2_method_3_code
def yX0_firstAstray : MethodName := ⟨RX0, "firstAstray", "()I"⟩
abbrev cX0_fewestLost : ByteArray := prog_2_method_4_code
def yX0_fewestLost : MethodName := ⟨RX0, "fewestLost", "(II)I"⟩
abbrev cX0_letterInOrder : ByteArray := prog_2_method_5_code
def yX0_letterInOrder : MethodName := ⟨RX0, "letterInOrder", "(I)I"⟩
abbrev cX0_hasTwins : ByteArray := prog_2_method_6_code
def yX0_hasTwins : MethodName := ⟨RX0, "hasTwins", "()Z"⟩
abbrev cX0_leastReady : ByteArray := prog_2_method_7_code
def yX0_leastReady : MethodName := ⟨RX0, "leastReady", "(I)I"⟩
abbrev cX0_isReady : ByteArray := prog_2_method_8_code
def yX0_isReady : MethodName := ⟨RX0, "isReady", "(II)Z"⟩
abbrev cX0_teethAtRisk : ByteArray := prog_2_method_9_code
def yX0_teethAtRisk : MethodName := ⟨RX0, "teethAtRisk", "(I)I"⟩
abbrev cX0_allAtRisk : ByteArray := prog_2_method_10_code
def yX0_allAtRisk : MethodName := ⟨RX0, "allAtRisk", "()I"⟩
abbrev cX0_betterTeeth : ByteArray := prog_2_method_11_code
def yX0_betterTeeth : MethodName := ⟨RX0, "betterTeeth", "(I)I"⟩
def RX1 : String := "LineCaster$Carriage"
def TX1 : u_T := fun k => match k with
  | 0 => ("LineCaster$Carriage", "hangingMoulds", "[I", true)
  | 1 => ("LineCaster$Carriage", "targets", "[I", true)
  | 2 => ("LineCaster$Carriage", "dueTicks", "[I", true)
  | 3 => ("LineCaster$Carriage", "hanging", "I", false)
  | _ => ("LineCaster$Carriage", "jammed", "I", false)
def tyX1 : Nat → FieldType := fun k => match k with
  | 0 => .array .int
  | 1 => .array .int
  | 2 => .array .int
  | 3 => .int
  | _ => .int
abbrev wsX10 : List Cond := u_ws RX1 TX1 5
theorem nmX1 : ∀ a, a < 5 → ∀ b, b < 5 → a ≠ b → (TX1 a).2.1 ≠ (TX1 b).2.1 := by decide +kernel
theorem tyX1_ok : ∀ k, k < 5 → parseFieldDescriptor (TX1 k).2.2.1 = some (tyX1 k) := by decide +kernel
abbrev cX1_init : ByteArray := prog_3_method_1_code
def yX1_init : MethodName := ⟨RX1, "<init>", "()V"⟩
abbrev cX1_hang : ByteArray := prog_3_method_2_code
def yX1_hang : MethodName := ⟨RX1, "hang", "(III)V"⟩
abbrev cX1_dropDue : ByteArray := prog_3_method_3_code
def yX1_dropDue : MethodName := ⟨RX1, "dropDue", "(ILLineCaster$Stock;)V"⟩
abbrev cX1_letFall : ByteArray := prog_3_method_4_code
def yX1_letFall : MethodName := ⟨RX1, "letFall", "(IILLineCaster$Stock;)V"⟩
def RX2 : String := "LineCaster$Line"
def TX2 : u_T := fun k => match k with
  | 0 => ("LineCaster$Line", "things", "[I", true)
  | 1 => ("LineCaster$Line", "fallingThings", "[I", true)
  | 2 => ("LineCaster$Line", "dueTicks", "[I", true)
  | 3 => ("LineCaster$Line", "come", "I", false)
  | 4 => ("LineCaster$Line", "falling", "I", false)
  | _ => ("LineCaster$Line", "bands", "I", false)
def tyX2 : Nat → FieldType := fun k => match k with
  | 0 => .array .int
  | 1 => .array .int
  | 2 => .array .int
  | 3 => .int
  | 4 => .int
  | _ => .int
abbrev wsX20 : List Cond := u_ws RX2 TX2 6
theorem nmX2 : ∀ a, a < 6 → ∀ b, b < 6 → a ≠ b → (TX2 a).2.1 ≠ (TX2 b).2.1 := by decide +kernel
theorem tyX2_ok : ∀ k, k < 6 → parseFieldDescriptor (TX2 k).2.2.1 = some (tyX2 k) := by decide +kernel
abbrev cX2_init : ByteArray := prog_4_method_1_code
def yX2_init : MethodName := ⟨RX2, "<init>", "()V"⟩
abbrev cX2_isFull : ByteArray := prog_4_method_2_code
def yX2_isFull : MethodName := ⟨RX2, "isFull", "()Z"⟩
abbrev cX2_letGo : ByteArray := prog_4_method_3_code
def yX2_letGo : MethodName := ⟨RX2, "letGo", "(II)V"⟩
abbrev cX2_takeDue : ByteArray := prog_4_method_4_code
def yX2_takeDue : MethodName := ⟨RX2, "takeDue", "(I)V"⟩
abbrev cX2_bandsCome : ByteArray := prog_4_method_5_code
def yX2_bandsCome : MethodName := ⟨RX2, "bandsCome", "()I"⟩
abbrev cX2_empty : ByteArray := prog_4_method_6_code
def yX2_empty : MethodName := ⟨RX2, "empty", "()V"⟩
def RX3 : String := "LineCaster$Sheet"
def TX3 : u_T := fun k => match k with
  | 0 => ("LineCaster$Sheet", "items", "[I", true)
  | 1 => ("LineCaster$Sheet", "holdsRow", "Z", false)
  | 2 => ("LineCaster$Sheet", "lane", "I", false)
  | _ => ("LineCaster$Sheet", "length", "I", false)
def tyX3 : Nat → FieldType := fun k => match k with
  | 0 => .array .int
  | 1 => .boolean
  | 2 => .int
  | _ => .int
abbrev wsX30 : List Cond := u_ws RX3 TX3 4
theorem nmX3 : ∀ a, a < 4 → ∀ b, b < 4 → a ≠ b → (TX3 a).2.1 ≠ (TX3 b).2.1 := by decide +kernel
theorem tyX3_ok : ∀ k, k < 4 → parseFieldDescriptor (TX3 k).2.2.1 = some (tyX3 k) := by decide +kernel
abbrev cX3_init : ByteArray := prog_5_method_1_code
def yX3_init : MethodName := ⟨RX3, "<init>", "()V"⟩
abbrev cX3_hold : ByteArray := prog_5_method_2_code
def yX3_hold : MethodName := ⟨RX3, "hold", "(II)V"⟩
abbrev cX3_spans : ByteArray := prog_5_method_3_code
def yX3_spans : MethodName := ⟨RX3, "spans", "(II)Z"⟩
def RX4 : String := "LineCaster$Slugs"
def TX4 : u_T := fun k => match k with
  | 0 => ("LineCaster$Slugs", "signs", "[[B", true)
  | 1 => ("LineCaster$Slugs", "lengths", "[I", true)
  | _ => ("LineCaster$Slugs", "count", "I", false)
def tyX4 : Nat → FieldType := fun k => match k with
  | 0 => .array (.array .byte)
  | 1 => .array .int
  | _ => .int
abbrev wsX40 : List Cond := u_ws RX4 TX4 3
theorem nmX4 : ∀ a, a < 3 → ∀ b, b < 3 → a ≠ b → (TX4 a).2.1 ≠ (TX4 b).2.1 := by decide +kernel
theorem tyX4_ok : ∀ k, k < 3 → parseFieldDescriptor (TX4 k).2.2.1 = some (tyX4 k) := by decide +kernel
abbrev cX4_init : ByteArray := prog_6_method_1_code
def yX4_init : MethodName := ⟨RX4, "<init>", "()V"⟩
abbrev cX4_isFull : ByteArray := prog_6_method_2_code
def yX4_isFull : MethodName := ⟨RX4, "isFull", "()Z"⟩
abbrev cX4_begin : ByteArray := prog_6_method_3_code
def yX4_begin : MethodName := ⟨RX4, "begin", "()V"⟩
abbrev cX4_append : ByteArray := prog_6_method_4_code
def yX4_append : MethodName := ⟨RX4, "append", "(I)V"⟩
def RX5 : String := "LineCaster$Stock"
def TX5 : u_T := fun k => match k with
  | 0 => ("LineCaster$Stock", "letters", "[I", true)
  | 1 => ("LineCaster$Stock", "teeth", "[I", true)
  | 2 => ("LineCaster$Stock", "where", "[I", true)
  | 3 => ("LineCaster$Stock", "channels", "[[I", true)
  | 4 => ("LineCaster$Stock", "held", "[I", true)
  | _ => ("LineCaster$Stock", "moulds", "I", false)
def tyX5 : Nat → FieldType := fun k => match k with
  | 0 => .array .int
  | 1 => .array .int
  | 2 => .array .int
  | 3 => .array (.array .int)
  | 4 => .array .int
  | _ => .int
abbrev wsX50 : List Cond := u_ws RX5 TX5 6
theorem nmX5 : ∀ a, a < 6 → ∀ b, b < 6 → a ≠ b → (TX5 a).2.1 ≠ (TX5 b).2.1 := by decide +kernel
theorem tyX5_ok : ∀ k, k < 6 → parseFieldDescriptor (TX5 k).2.2.1 = some (tyX5 k) := by decide +kernel
abbrev cX5_init : ByteArray := prog_7_method_1_code
def yX5_init : MethodName := ⟨RX5, "<init>", "()V"⟩
abbrev cX5_knows : ByteArray := prog_7_method_2_code
def yX5_knows : MethodName := ⟨RX5, "knows", "(I)Z"⟩
abbrev cX5_newMould : ByteArray := prog_7_method_3_code
def yX5_newMould : MethodName := ⟨RX5, "newMould", "(II)I"⟩
abbrev cX5_lay : ByteArray := prog_7_method_4_code
def yX5_lay : MethodName := ⟨RX5, "lay", "(II)Z"⟩
abbrev cX5_takeFirst : ByteArray := prog_7_method_5_code
def yX5_takeFirst : MethodName := ⟨RX5, "takeFirst", "(I)I"⟩
abbrev cX5_countBetween : ByteArray := prog_7_method_6_code
def yX5_countBetween : MethodName := ⟨RX5, "countBetween", "(II)I"⟩
def RX6 : String := "LineCaster$Tape"
def TX6 : u_T := fun k => match k with
  | 0 => ("LineCaster$Tape", "signs", "[I", true)
  | _ => ("LineCaster$Tape", "length", "I", false)
def tyX6 : Nat → FieldType := fun k => match k with
  | 0 => .array .int
  | _ => .int
abbrev wsX60 : List Cond := u_ws RX6 TX6 2
theorem nmX6 : ∀ a, a < 2 → ∀ b, b < 2 → a ≠ b → (TX6 a).2.1 ≠ (TX6 b).2.1 := by decide +kernel
theorem tyX6_ok : ∀ k, k < 2 → parseFieldDescriptor (TX6 k).2.2.1 = some (tyX6 k) := by decide +kernel
abbrev cX6_init : ByteArray := prog_8_method_1_code
def yX6_init : MethodName := ⟨RX6, "<init>", "()V"⟩
abbrev cX6_append : ByteArray := prog_8_method_2_code
def yX6_append : MethodName := ⟨RX6, "append", "(I)V"⟩
abbrev cX6_firstUnplayable : ByteArray := prog_8_method_3_code
def yX6_firstUnplayable : MethodName := ⟨RX6, "firstUnplayable", "()I"⟩
def RX7 : String := "LineCaster"
def TX7 : u_T := fun k => match k with
  | 0 => ("LineCaster", "bar", "LLineCaster$Bar;", true)
  | 1 => ("LineCaster", "stock", "LLineCaster$Stock;", true)
  | 2 => ("LineCaster", "composed", "LLineCaster$Line;", true)
  | 3 => ("LineCaster", "carriage", "LLineCaster$Carriage;", true)
  | 4 => ("LineCaster", "slugs", "LLineCaster$Slugs;", true)
  | 5 => ("LineCaster", "tape", "LLineCaster$Tape;", true)
  | 6 => ("LineCaster", "sheets", "[LLineCaster$Sheet;", true)
  | 7 => ("LineCaster", "widths", "[I", true)
  | 8 => ("LineCaster", "reaches", "[I", true)
  | 9 => ("LineCaster", "settings", "[I", true)
  | 10 => ("LineCaster", "rowReaches", "[I", true)
  | _ => ("LineCaster", "now", "I", false)
def tyX7 : Nat → FieldType := fun k => match k with
  | 0 => .object "LineCaster$Bar"
  | 1 => .object "LineCaster$Stock"
  | 2 => .object "LineCaster$Line"
  | 3 => .object "LineCaster$Carriage"
  | 4 => .object "LineCaster$Slugs"
  | 5 => .object "LineCaster$Tape"
  | 6 => .array (.object "LineCaster$Sheet")
  | 7 => .array .int
  | 8 => .array .int
  | 9 => .array .int
  | 10 => .array .int
  | _ => .int
abbrev wsX70 : List Cond := u_ws RX7 TX7 12
theorem nmX7 : ∀ a, a < 12 → ∀ b, b < 12 → a ≠ b → (TX7 a).2.1 ≠ (TX7 b).2.1 := by decide +kernel
theorem tyX7_ok : ∀ k, k < 12 → parseFieldDescriptor (TX7 k).2.2.1 = some (tyX7 k) := by decide +kernel
abbrev cX7_init : ByteArray := prog_1_method_1_code
def yX7_init : MethodName := ⟨RX7, "<init>", "()V"⟩
abbrev cX7_letter : ByteArray := prog_1_method_2_code
def yX7_letter : MethodName := ⟨RX7, "letter", "(III)I"⟩
abbrev cX7_place : ByteArray := prog_1_method_3_code
def yX7_place : MethodName := ⟨RX7, "place", "(III)I"⟩
abbrev cX7_rails : ByteArray := prog_1_method_4_code
def yX7_rails : MethodName := ⟨RX7, "rails", "(III)I"⟩
abbrev cX7_set : ByteArray := prog_1_method_5_code
def yX7_set : MethodName := ⟨RX7, "set", "(II)I"⟩
abbrev cX7_falls : ByteArray := prog_1_method_6_code
def yX7_falls : MethodName := ⟨RX7, "falls", "(I)I"⟩
abbrev cX7_astray : ByteArray := prog_1_method_7_code
def yX7_astray : MethodName := ⟨RX7, "astray", "()I"⟩
abbrev cX7_order : ByteArray := prog_1_method_8_code
def yX7_order : MethodName := ⟨RX7, "order", "(I)I"⟩
abbrev cX7_lost : ByteArray := prog_1_method_9_code
def yX7_lost : MethodName := ⟨RX7, "lost", "(II)I"⟩
abbrev cX7_mould : ByteArray := prog_1_method_10_code
def yX7_mould : MethodName := ⟨RX7, "mould", "(II)I"⟩
abbrev cX7_told : ByteArray := prog_1_method_11_code
def yX7_told : MethodName := ⟨RX7, "told", "(II)I"⟩
abbrev cX7_wear : ByteArray := prog_1_method_12_code
def yX7_wear : MethodName := ⟨RX7, "wear", "(II)I"⟩
abbrev cX7_home : ByteArray := prog_1_method_13_code
def yX7_home : MethodName := ⟨RX7, "home", "(I)I"⟩
abbrev cX7_channel : ByteArray := prog_1_method_14_code
def yX7_channel : MethodName := ⟨RX7, "channel", "(II)I"⟩
abbrev cX7_key : ByteArray := prog_1_method_15_code
def yX7_key : MethodName := ⟨RX7, "key", "(I)I"⟩
abbrev cX7_band : ByteArray := prog_1_method_16_code
def yX7_band : MethodName := ⟨RX7, "band", "()I"⟩
abbrev cX7_ticks : ByteArray := prog_1_method_17_code
def yX7_ticks : MethodName := ⟨RX7, "ticks", "(I)I"⟩
abbrev cX7_line : ByteArray := prog_1_method_18_code
def yX7_line : MethodName := ⟨RX7, "line", "(I)I"⟩
abbrev cX7_state : ByteArray := prog_1_method_19_code
def yX7_state : MethodName := ⟨RX7, "state", "()I"⟩
abbrev cX7_thick : ByteArray := prog_1_method_20_code
def yX7_thick : MethodName := ⟨RX7, "thick", "(I)I"⟩
abbrev cX7_cast : ByteArray := prog_1_method_21_code
def yX7_cast : MethodName := ⟨RX7, "cast", "()I"⟩
abbrev cX7_clear : ByteArray := prog_1_method_22_code
def yX7_clear : MethodName := ⟨RX7, "clear", "()I"⟩
abbrev cX7_slug : ByteArray := prog_1_method_23_code
def yX7_slug : MethodName := ⟨RX7, "slug", "(II)I"⟩
abbrev cX7_count : ByteArray := prog_1_method_24_code
def yX7_count : MethodName := ⟨RX7, "count", "(I)I"⟩
abbrev cX7_comes : ByteArray := prog_1_method_25_code
def yX7_comes : MethodName := ⟨RX7, "comes", "(IIIIII)I"⟩
abbrev cX7_turned : ByteArray := prog_1_method_26_code
def yX7_turned : MethodName := ⟨RX7, "turned", "(IIIII)I"⟩
abbrev cX7_waits : ByteArray := prog_1_method_27_code
def yX7_waits : MethodName := ⟨RX7, "waits", "(IIII)I"⟩
abbrev cX7_gap : ByteArray := prog_1_method_28_code
def yX7_gap : MethodName := ⟨RX7, "gap", "(IIII)I"⟩
abbrev cX7_type : ByteArray := prog_1_method_29_code
def yX7_type : MethodName := ⟨RX7, "type", "(JI)I"⟩
abbrev cX7_plays : ByteArray := prog_1_method_30_code
def yX7_plays : MethodName := ⟨RX7, "plays", "(I)I"⟩
abbrev cX7_risk : ByteArray := prog_1_method_31_code
def yX7_risk : MethodName := ⟨RX7, "risk", "(I)I"⟩
abbrev cX7_better : ByteArray := prog_1_method_32_code
def yX7_better : MethodName := ⟨RX7, "better", "(I)I"⟩
abbrev cX7_sheet : ByteArray := prog_1_method_33_code
def yX7_sheet : MethodName := ⟨RX7, "sheet", "(III)I"⟩
abbrev cX7_drop : ByteArray := prog_1_method_34_code
def yX7_drop : MethodName := ⟨RX7, "drop", "(I)I"⟩
abbrev cX7_item : ByteArray := prog_1_method_35_code
def yX7_item : MethodName := ⟨RX7, "item", "(IIII)I"⟩
abbrev cX7_copy : ByteArray := prog_1_method_36_code
def yX7_copy : MethodName := ⟨RX7, "copy", "(IIIII)I"⟩
abbrev cX7_isLetter : ByteArray := prog_1_method_37_code
def yX7_isLetter : MethodName := ⟨RX7, "isLetter", "(I)Z"⟩
abbrev cX7_isPlace : ByteArray := prog_1_method_38_code
def yX7_isPlace : MethodName := ⟨RX7, "isPlace", "(I)Z"⟩
abbrev cX7_isTeeth : ByteArray := prog_1_method_39_code
def yX7_isTeeth : MethodName := ⟨RX7, "isTeeth", "(I)Z"⟩
abbrev cX7_isGap : ByteArray := prog_1_method_40_code
def yX7_isGap : MethodName := ⟨RX7, "isGap", "(I)Z"⟩
abbrev cX7_isSheet : ByteArray := prog_1_method_41_code
def yX7_isSheet : MethodName := ⟨RX7, "isSheet", "(I)Z"⟩
abbrev cX7_isLane : ByteArray := prog_1_method_42_code
def yX7_isLane : MethodName := ⟨RX7, "isLane", "(I)Z"⟩
abbrev cX7_settingFits : ByteArray := prog_1_method_43_code
def yX7_settingFits : MethodName := ⟨RX7, "settingFits", "(II)Z"⟩
abbrev cX7_exchange : ByteArray := prog_1_method_44_code
def yX7_exchange : MethodName := ⟨RX7, "exchange", "([III)I"⟩
abbrev cX7_goOn : ByteArray := prog_1_method_45_code
def yX7_goOn : MethodName := ⟨RX7, "goOn", "(I)V"⟩
abbrev cX7_composedWidth : ByteArray := prog_1_method_46_code
def yX7_composedWidth : MethodName := ⟨RX7, "composedWidth", "()I"⟩
abbrev cX7_tightness : ByteArray := prog_1_method_47_code
def yX7_tightness : MethodName := ⟨RX7, "tightness", "()I"⟩
abbrev cX7_castSlug : ByteArray := prog_1_method_48_code
def yX7_castSlug : MethodName := ⟨RX7, "castSlug", "()V"⟩
abbrev cX7_hangOnBar : ByteArray := prog_1_method_49_code
def yX7_hangOnBar : MethodName := ⟨RX7, "hangOnBar", "(II)V"⟩
abbrev cX7_readRow : ByteArray := prog_1_method_50_code
def yX7_readRow : MethodName := ⟨RX7, "readRow", "(IIII)I"⟩
abbrev cX7_comesAhead : ByteArray := prog_1_method_51_code
def yX7_comesAhead : MethodName := ⟨RX7, "comesAhead", "(III)Z"⟩
abbrev cX7_turnedPairs : ByteArray := prog_1_method_52_code
def yX7_turnedPairs : MethodName := ⟨RX7, "turnedPairs", "(II)I"⟩
abbrev cX7_keyThatComes : ByteArray := prog_1_method_53_code
def yX7_keyThatComes : MethodName := ⟨RX7, "keyThatComes", "(III)I"⟩
abbrev cX7_comersAheadOf : ByteArray := prog_1_method_54_code
def yX7_comersAheadOf : MethodName := ⟨RX7, "comersAheadOf", "(III)I"⟩
abbrev cX7_byteOf : ByteArray := prog_1_method_55_code
def yX7_byteOf : MethodName := ⟨RX7, "byteOf", "(JI)I"⟩
abbrev cX7_playTape : ByteArray := prog_1_method_56_code
def yX7_playTape : MethodName := ⟨RX7, "playTape", "(II)I"⟩
abbrev cX7_sheetFault : ByteArray := prog_1_method_57_code
def yX7_sheetFault : MethodName := ⟨RX7, "sheetFault", "(IIII)I"⟩
abbrev cX7_lowestBits : ByteArray := prog_1_method_58_code
def yX7_lowestBits : MethodName := ⟨RX7, "lowestBits", "(II)I"⟩
def RX8 : String := "LineCasterModel"
def TX8 : u_T := fun k => match k with
  | 0 => ("LineCasterModel", "widths", "[I", true)
  | 1 => ("LineCasterModel", "teeth", "[I", true)
  | 2 => ("LineCasterModel", "railAt", "[I", true)
  | 3 => ("LineCasterModel", "reaches", "[I", true)
  | 4 => ("LineCasterModel", "sets", "[I", true)
  | 5 => ("LineCasterModel", "moulds", "I", false)
  | 6 => ("LineCasterModel", "letters", "[I", true)
  | 7 => ("LineCasterModel", "has", "[I", true)
  | 8 => ("LineCasterModel", "wheres", "[I", true)
  | 9 => ("LineCasterModel", "held", "[I", true)
  | 10 => ("LineCasterModel", "rows", "[I", true)
  | 11 => ("LineCasterModel", "now", "I", false)
  | 12 => ("LineCasterModel", "came", "I", false)
  | 13 => ("LineCasterModel", "line", "[I", true)
  | 14 => ("LineCasterModel", "falling", "I", false)
  | 15 => ("LineCasterModel", "fallWhat", "[I", true)
  | 16 => ("LineCasterModel", "fallDue", "[I", true)
  | 17 => ("LineCasterModel", "bands", "I", false)
  | 18 => ("LineCasterModel", "carried", "I", false)
  | 19 => ("LineCasterModel", "barWhat", "[I", true)
  | 20 => ("LineCasterModel", "barPlace", "[I", true)
  | 21 => ("LineCasterModel", "barDue", "[I", true)
  | 22 => ("LineCasterModel", "jammed", "I", false)
  | 23 => ("LineCasterModel", "slugs", "I", false)
  | 24 => ("LineCasterModel", "slugSize", "[I", true)
  | 25 => ("LineCasterModel", "slugBytes", "[I", true)
  | 26 => ("LineCasterModel", "keys", "[I", true)
  | 27 => ("LineCasterModel", "dues", "[I", true)
  | 28 => ("LineCasterModel", "tape", "[I", true)
  | 29 => ("LineCasterModel", "taped", "I", false)
  | 30 => ("LineCasterModel", "lanes", "[I", true)
  | 31 => ("LineCasterModel", "sizes", "[I", true)
  | 32 => ("LineCasterModel", "items", "[I", true)
  | _ => ("LineCasterModel", "moved", "[I", true)
def tyX8 : Nat → FieldType := fun k => match k with
  | 0 => .array .int
  | 1 => .array .int
  | 2 => .array .int
  | 3 => .array .int
  | 4 => .array .int
  | 5 => .int
  | 6 => .array .int
  | 7 => .array .int
  | 8 => .array .int
  | 9 => .array .int
  | 10 => .array .int
  | 11 => .int
  | 12 => .int
  | 13 => .array .int
  | 14 => .int
  | 15 => .array .int
  | 16 => .array .int
  | 17 => .int
  | 18 => .int
  | 19 => .array .int
  | 20 => .array .int
  | 21 => .array .int
  | 22 => .int
  | 23 => .int
  | 24 => .array .int
  | 25 => .array .int
  | 26 => .array .int
  | 27 => .array .int
  | 28 => .array .int
  | 29 => .int
  | 30 => .array .int
  | 31 => .array .int
  | 32 => .array .int
  | _ => .array .int
abbrev wsX80 : List Cond := u_ws RX8 TX8 34
theorem nmX8 : ∀ a, a < 34 → ∀ b, b < 34 → a ≠ b → (TX8 a).2.1 ≠ (TX8 b).2.1 := by decide +kernel
theorem tyX8_ok : ∀ k, k < 34 → parseFieldDescriptor (TX8 k).2.2.1 = some (tyX8 k) := by decide +kernel
abbrev cX8_in : ByteArray := prog_10_method_2_code
def yX8_in : MethodName := ⟨RX8, "in", "(JJJ)Z"⟩
abbrev cX8_init : ByteArray := prog_10_method_3_code
def yX8_init : MethodName := ⟨RX8, "<init>", "()V"⟩
abbrev cX8_isTwelve : ByteArray := prog_10_method_4_code
def yX8_isTwelve : MethodName := ⟨RX8, "isTwelve", "(I)Z"⟩
abbrev cX8_letter : ByteArray := prog_10_method_5_code
def yX8_letter : MethodName := ⟨RX8, "letter", "(III)I"⟩
abbrev cX8_place : ByteArray := prog_10_method_6_code
def yX8_place : MethodName := ⟨RX8, "place", "(III)I"⟩
abbrev cX8_rails : ByteArray := prog_10_method_7_code
def yX8_rails : MethodName := ⟨RX8, "rails", "(III)I"⟩
abbrev cX8_set : ByteArray := prog_10_method_8_code
def yX8_set : MethodName := ⟨RX8, "set", "(II)I"⟩
abbrev cX8_fallsAt : ByteArray := prog_10_method_9_code
def yX8_fallsAt : MethodName := ⟨RX8, "fallsAt", "(I)I"⟩
abbrev cX8_falls : ByteArray := prog_10_method_10_code
def yX8_falls : MethodName := ⟨RX8, "falls", "(I)I"⟩
abbrev cX8_astray : ByteArray := prog_10_method_11_code
def yX8_astray : MethodName := ⟨RX8, "astray", "()I"⟩
abbrev cX8_order : ByteArray := prog_10_method_12_code
def yX8_order : MethodName := ⟨RX8, "order", "(I)I"⟩
abbrev cX8_size : ByteArray := prog_10_method_13_code
def yX8_size : MethodName := ⟨RX8, "size", "(I)I"⟩
abbrev cX8_lost : ByteArray := prog_10_method_14_code
def yX8_lost : MethodName := ⟨RX8, "lost", "(II)I"⟩
abbrev cX8_isMould : ByteArray := prog_10_method_15_code
def yX8_isMould : MethodName := ⟨RX8, "isMould", "(I)Z"⟩
abbrev cX8_lies : ByteArray := prog_10_method_16_code
def yX8_lies : MethodName := ⟨RX8, "lies", "(II)Z"⟩
abbrev cX8_mould : ByteArray := prog_10_method_17_code
def yX8_mould : MethodName := ⟨RX8, "mould", "(II)I"⟩
abbrev cX8_told : ByteArray := prog_10_method_18_code
def yX8_told : MethodName := ⟨RX8, "told", "(II)I"⟩
abbrev cX8_wear : ByteArray := prog_10_method_19_code
def yX8_wear : MethodName := ⟨RX8, "wear", "(II)I"⟩
abbrev cX8_home : ByteArray := prog_10_method_20_code
def yX8_home : MethodName := ⟨RX8, "home", "(I)I"⟩
abbrev cX8_channel : ByteArray := prog_10_method_21_code
def yX8_channel : MethodName := ⟨RX8, "channel", "(II)I"⟩
abbrev cX8_lets : ByteArray := prog_10_method_22_code
def yX8_lets : MethodName := ⟨RX8, "lets", "(II)I"⟩
abbrev cX8_key : ByteArray := prog_10_method_23_code
def yX8_key : MethodName := ⟨RX8, "key", "(I)I"⟩
abbrev cX8_band : ByteArray := prog_10_method_24_code
def yX8_band : MethodName := ⟨RX8, "band", "()I"⟩
abbrev cX8_tick : ByteArray := prog_10_method_25_code
def yX8_tick : MethodName := ⟨RX8, "tick", "()V"⟩
abbrev cX8_ticks : ByteArray := prog_10_method_26_code
def yX8_ticks : MethodName := ⟨RX8, "ticks", "(I)I"⟩
abbrev cX8_line : ByteArray := prog_10_method_27_code
def yX8_line : MethodName := ⟨RX8, "line", "(I)I"⟩
abbrev cX8_widthOf : ByteArray := prog_10_method_28_code
def yX8_widthOf : MethodName := ⟨RX8, "widthOf", "()I"⟩
abbrev cX8_bandMany : ByteArray := prog_10_method_29_code
def yX8_bandMany : MethodName := ⟨RX8, "bandMany", "()I"⟩
abbrev cX8_tightness : ByteArray := prog_10_method_30_code
def yX8_tightness : MethodName := ⟨RX8, "tightness", "(II)I"⟩
abbrev cX8_state : ByteArray := prog_10_method_31_code
def yX8_state : MethodName := ⟨RX8, "state", "()I"⟩
abbrev cX8_thick : ByteArray := prog_10_method_32_code
def yX8_thick : MethodName := ⟨RX8, "thick", "(I)I"⟩
abbrev cX8_cast : ByteArray := prog_10_method_33_code
def yX8_cast : MethodName := ⟨RX8, "cast", "()I"⟩
abbrev cX8_clear : ByteArray := prog_10_method_34_code
def yX8_clear : MethodName := ⟨RX8, "clear", "()I"⟩
abbrev cX8_slug : ByteArray := prog_10_method_35_code
def yX8_slug : MethodName := ⟨RX8, "slug", "(II)I"⟩
abbrev cX8_whereMany : ByteArray := prog_10_method_36_code
def yX8_whereMany : MethodName := ⟨RX8, "whereMany", "(II)I"⟩
abbrev cX8_count : ByteArray := prog_10_method_37_code
def yX8_count : MethodName := ⟨RX8, "count", "(I)I"⟩
abbrev cX8_reachOf : ByteArray := prog_10_method_38_code
def yX8_reachOf : MethodName := ⟨RX8, "reachOf", "(I)I"⟩
abbrev cX8_takes : ByteArray := prog_10_method_39_code
def yX8_takes : MethodName := ⟨RX8, "takes", "(IIII)I"⟩
abbrev cX8_lays : ByteArray := prog_10_method_40_code
def yX8_lays : MethodName := ⟨RX8, "lays", "(II)V"⟩
abbrev cX8_isRow : ByteArray := prog_10_method_41_code
def yX8_isRow : MethodName := ⟨RX8, "isRow", "(IIII)Z"⟩
abbrev cX8_comes : ByteArray := prog_10_method_42_code
def yX8_comes : MethodName := ⟨RX8, "comes", "(IIIIII)I"⟩
abbrev cX8_turnedBy : ByteArray := prog_10_method_43_code
def yX8_turnedBy : MethodName := ⟨RX8, "turnedBy", "(II)I"⟩
abbrev cX8_turned : ByteArray := prog_10_method_44_code
def yX8_turned : MethodName := ⟨RX8, "turned", "(IIIII)I"⟩
abbrev cX8_waits : ByteArray := prog_10_method_45_code
def yX8_waits : MethodName := ⟨RX8, "waits", "(IIII)I"⟩
abbrev cX8_gap : ByteArray := prog_10_method_46_code
def yX8_gap : MethodName := ⟨RX8, "gap", "(IIII)I"⟩
abbrev cX8_type : ByteArray := prog_10_method_47_code
def yX8_type : MethodName := ⟨RX8, "type", "(JI)I"⟩
abbrev cX8_plays : ByteArray := prog_10_method_48_code
def yX8_plays : MethodName := ⟨RX8, "plays", "(I)I"⟩
abbrev cX8_riskOf : ByteArray := prog_10_method_49_code
def yX8_riskOf : MethodName := ⟨RX8, "riskOf", "(I)I"⟩
abbrev cX8_risk : ByteArray := prog_10_method_50_code
def yX8_risk : MethodName := ⟨RX8, "risk", "(I)I"⟩
abbrev cX8_better : ByteArray := prog_10_method_51_code
def yX8_better : MethodName := ⟨RX8, "better", "(I)I"⟩
abbrev cX8_isSheet : ByteArray := prog_10_method_52_code
def yX8_isSheet : MethodName := ⟨RX8, "isSheet", "(I)Z"⟩
abbrev cX8_isLane : ByteArray := prog_10_method_53_code
def yX8_isLane : MethodName := ⟨RX8, "isLane", "(I)Z"⟩
abbrev cX8_finds : ByteArray := prog_10_method_54_code
def yX8_finds : MethodName := ⟨RX8, "finds", "(IIII)I"⟩
abbrev cX8_sheet : ByteArray := prog_10_method_55_code
def yX8_sheet : MethodName := ⟨RX8, "sheet", "(III)I"⟩
abbrev cX8_drop : ByteArray := prog_10_method_56_code
def yX8_drop : MethodName := ⟨RX8, "drop", "(I)I"⟩
abbrev cX8_item : ByteArray := prog_10_method_57_code
def yX8_item : MethodName := ⟨RX8, "item", "(IIII)I"⟩
abbrev cX8_copy : ByteArray := prog_10_method_58_code
def yX8_copy : MethodName := ⟨RX8, "copy", "(IIIII)I"⟩
def RJ6 : String := "java/lang/Integer"
def TJ6 : u_T := fun k => match k with
  | _ => ("", "", "", false)
def tyJ6 : Nat → FieldType := fun k => match k with
  | _ => .int
abbrev wsJ60 : List Cond := u_ws RJ6 TJ6 0
theorem nmJ6 : ∀ a, a < 0 → ∀ b, b < 0 → a ≠ b → (TJ6 a).2.1 ≠ (TJ6 b).2.1 := by decide +kernel
theorem tyJ6_ok : ∀ k, k < 0 → parseFieldDescriptor (TJ6 k).2.2.1 = some (tyJ6 k) := by decide +kernel
abbrev cJ6_bitCount_0f7a4 : ByteArray := prog_11_method_49_code
def yJ6_bitCount_0f7a4 : MethodName := ⟨RJ6, "bitCount", "(I)I"⟩
def RJ9 : String := "java/lang/Math"
def TJ9 : u_T := fun k => match k with
  | _ => ("", "", "", false)
def tyJ9 : Nat → FieldType := fun k => match k with
  | _ => .int
abbrev wsJ90 : List Cond := u_ws RJ9 TJ9 0
theorem nmJ9 : ∀ a, a < 0 → ∀ b, b < 0 → a ≠ b → (TJ9 a).2.1 ≠ (TJ9 b).2.1 := by decide +kernel
theorem tyJ9_ok : ∀ k, k < 0 → parseFieldDescriptor (TJ9 k).2.2.1 = some (tyJ9 k) := by decide +kernel
abbrev cJ9_max_7cf53 : ByteArray := prog_12_method_65_code
def yJ9_max_7cf53 : MethodName := ⟨RJ9, "max", "(II)I"⟩
def RJ10 : String := "java/lang/System"
def TJ10 : u_T := fun k => match k with
  | _ => ("", "", "", false)
def tyJ10 : Nat → FieldType := fun k => match k with
  | _ => .int
abbrev wsJ100 : List Cond := u_ws RJ10 TJ10 0
theorem nmJ10 : ∀ a, a < 0 → ∀ b, b < 0 → a ≠ b → (TJ10 a).2.1 ≠ (TJ10 b).2.1 := by decide +kernel
theorem tyJ10_ok : ∀ k, k < 0 → parseFieldDescriptor (TJ10 k).2.2.1 = some (tyJ10 k) := by decide +kernel
def RL : String := "LineCasterLaw"
abbrev cL_law : ByteArray := code
def yL_law : MethodName := ⟨RL, "law", "([I)Z"⟩
def wsX7_init_r1 : List Cond := [Cond.methodLink RX7 1 objectInit, Cond.instanceMethod objectInit, Cond.code objectInit ⟨#[0xb1]⟩ 1 none, Cond.classLink RX7 7 RX0, Cond.instantiable RX0 2, Cond.initialized RX0, Cond.fieldLink RX7 10 "LineCaster" "bar" "LLineCaster$Bar;", Cond.classLink RX7 16 RX5, Cond.instantiable RX5 6, Cond.initialized RX5, Cond.fieldLink RX7 19 "LineCaster" "stock" "LLineCaster$Stock;", Cond.classLink RX7 23 RX2, Cond.instantiable RX2 6, Cond.initialized RX2, Cond.fieldLink RX7 26 "LineCaster" "composed" "LLineCaster$Line;", Cond.classLink RX7 30 RX1, Cond.instantiable RX1 5, Cond.initialized RX1, Cond.fieldLink RX7 33 "LineCaster" "carriage" "LLineCaster$Carriage;", Cond.classLink RX7 37 RX4, Cond.instantiable RX4 3, Cond.initialized RX4, Cond.fieldLink RX7 40 "LineCaster" "slugs" "LLineCaster$Slugs;", Cond.classLink RX7 44 RX6]
def wsX7_init_r2 : List Cond := [Cond.instantiable RX6 2, Cond.initialized RX6, Cond.fieldLink RX7 47 "LineCaster" "tape" "LLineCaster$Tape;", Cond.classLink RX7 51 RX3, Cond.fieldLink RX7 53 "LineCaster" "sheets" "[LLineCaster$Sheet;", Cond.arrayClass .int, Cond.fieldLink RX7 57 "LineCaster" "widths" "[I", Cond.fieldLink RX7 61 "LineCaster" "reaches" "[I", Cond.fieldLink RX7 64 "LineCaster" "settings" "[I", Cond.fieldLink RX7 67 "LineCaster" "rowReaches" "[I", Cond.fieldLink RX7 70 "LineCaster" "now" "I", Cond.instantiable RX3 4, Cond.initialized RX3, Cond.methodLink RX7 9 yX0_init, Cond.instanceMethod yX0_init, Cond.code yX0_init cX0_init 2 none, Cond.methodLink RX0 3 objectInit, Cond.fieldLink RX0 9 "LineCaster$Bar" "teeth" "[I", Cond.fieldLink RX0 15 "LineCaster$Bar" "rails" "[I", Cond.instanceMethod yX5_init, Cond.code yX5_init cX5_init 1 none, Cond.methodLink RX5 3 objectInit, Cond.fieldLink RX5 9 "LineCaster$Stock" "letters" "[I", Cond.fieldLink RX5 15 "LineCaster$Stock" "teeth" "[I"]
def wsX7_init_r3 : List Cond := [Cond.fieldLink RX5 18 "LineCaster$Stock" "where" "[I", Cond.classLink RX5 21 "[[I", Cond.fieldLink RX5 23 "LineCaster$Stock" "channels" "[[I", Cond.fieldLink RX5 26 "LineCaster$Stock" "held" "[I", Cond.fieldLink RX5 29 "LineCaster$Stock" "moulds" "I", Cond.instanceMethod yX2_init, Cond.code yX2_init cX2_init 1 none, Cond.methodLink RX2 3 objectInit, Cond.fieldLink RX2 9 "LineCaster$Line" "things" "[I", Cond.fieldLink RX2 15 "LineCaster$Line" "fallingThings" "[I", Cond.fieldLink RX2 18 "LineCaster$Line" "dueTicks" "[I", Cond.fieldLink RX2 21 "LineCaster$Line" "come" "I", Cond.fieldLink RX2 25 "LineCaster$Line" "falling" "I", Cond.fieldLink RX2 28 "LineCaster$Line" "bands" "I", Cond.instanceMethod yX1_init, Cond.code yX1_init cX1_init 1 none, Cond.methodLink RX1 3 objectInit, Cond.fieldLink RX1 9 "LineCaster$Carriage" "hangingMoulds" "[I", Cond.fieldLink RX1 15 "LineCaster$Carriage" "targets" "[I", Cond.fieldLink RX1 18 "LineCaster$Carriage" "dueTicks" "[I", Cond.fieldLink RX1 21 "LineCaster$Carriage" "hanging" "I", Cond.fieldLink RX1 25 "LineCaster$Carriage" "jammed" "I", Cond.instanceMethod yX4_init, Cond.code yX4_init cX4_init 1 none]
def wsX7_init_r4 : List Cond := [Cond.methodLink RX4 3 objectInit, Cond.classLink RX4 9 "[[B", Cond.arrayClass .byte, Cond.fieldLink RX4 11 "LineCaster$Slugs" "signs" "[[B", Cond.fieldLink RX4 16 "LineCaster$Slugs" "lengths" "[I", Cond.fieldLink RX4 20 "LineCaster$Slugs" "count" "I", Cond.instanceMethod yX6_init, Cond.code yX6_init cX6_init 1 none, Cond.methodLink RX6 3 objectInit, Cond.fieldLink RX6 9 "LineCaster$Tape" "signs" "[I", Cond.fieldLink RX6 15 "LineCaster$Tape" "length" "I", Cond.instanceMethod yX3_init, Cond.code yX3_init cX3_init 1 none, Cond.methodLink RX3 3 objectInit, Cond.fieldLink RX3 9 "LineCaster$Sheet" "items" "[I", Cond.fieldLink RX3 15 "LineCaster$Sheet" "holdsRow" "Z", Cond.fieldLink RX3 19 "LineCaster$Sheet" "lane" "I", Cond.fieldLink RX3 23 "LineCaster$Sheet" "length" "I"]
def wsX7_rails_r1 : List Cond := [Cond.fieldLink RX7 53 "LineCaster" "sheets" "[LLineCaster$Sheet;", Cond.fieldLink RX7 99 "LineCaster$Sheet" "items" "[I", Cond.fieldLink RX7 10 "LineCaster" "bar" "LLineCaster$Bar;", Cond.fieldLink RX7 92 "LineCaster$Bar" "rails" "[I", Cond.methodLink RX7 95 yX7_sheetFault, Cond.instanceMethod yX7_sheetFault, Cond.selects RX7 yX7_sheetFault yX7_sheetFault, Cond.initialized RX7, Cond.code yX7_sheetFault cX7_sheetFault 6 (some .int), Cond.fieldLink RX7 256 "LineCaster$Sheet" "holdsRow" "Z", Cond.fieldLink RX7 264 "LineCaster$Sheet" "lane" "I", Cond.methodLink RX7 247 yX7_isSheet, Cond.static yX7_isSheet, Cond.code yX7_isSheet cX7_isSheet 1 (some .boolean), Cond.methodLink RX7 250 yX7_isLane, Cond.static yX7_isLane, Cond.code yX7_isLane cX7_isLane 1 (some .boolean), Cond.methodLink RX7 267 yX3_spans, Cond.instanceMethod yX3_spans, Cond.selects RX3 yX3_spans yX3_spans, Cond.initialized RX3, Cond.code yX3_spans cX3_spans 3 (some .boolean), Cond.fieldLink RX3 23 "LineCaster$Sheet" "length" "I", Cond.methodLink RX7 89 yX7_isTeeth]
def wsX7_rails_r2 : List Cond := [Cond.static yX7_isTeeth, Cond.code yX7_isTeeth cX7_isTeeth 1 (some .boolean)]
def wsX7_lost_r1 : List Cond := [Cond.fieldLink RX7 10 "LineCaster" "bar" "LLineCaster$Bar;", Cond.methodLink RX7 75 yX7_isLetter, Cond.static yX7_isLetter, Cond.initialized RX7, Cond.code yX7_isLetter cX7_isLetter 1 (some .boolean), Cond.methodLink RX7 86 yX7_isPlace, Cond.static yX7_isPlace, Cond.code yX7_isPlace cX7_isPlace 1 (some .boolean), Cond.methodLink RX7 117 yX0_fewestLost, Cond.instanceMethod yX0_fewestLost, Cond.selects RX0 yX0_fewestLost yX0_fewestLost, Cond.initialized RX0, Cond.code yX0_fewestLost cX0_fewestLost 7 (some .int), Cond.fieldLink RX0 9 "LineCaster$Bar" "teeth" "[I", Cond.methodLink RX0 18 yX0_fallOf, Cond.instanceMethod yX0_fallOf, Cond.selects RX0 yX0_fallOf yX0_fallOf, Cond.code yX0_fallOf cX0_fallOf 3 (some .int), Cond.fieldLink RX0 15 "LineCaster$Bar" "rails" "[I", Cond.methodLink RX0 22 yJ6_bitCount_0f7a4, Cond.static yJ6_bitCount_0f7a4, Cond.initialized RJ6, Cond.code yJ6_bitCount_0f7a4 cJ6_bitCount_0f7a4 1 (some .int), Cond.constant RJ6 265 (1431655765)]
def wsX7_lost_r2 : List Cond := [Cond.constant RJ6 266 (858993459), Cond.constant RJ6 267 (252645135)]
def wsX7_key_r1 : List Cond := [Cond.fieldLink RX7 19 "LineCaster" "stock" "LLineCaster$Stock;", Cond.fieldLink RX7 137 "LineCaster$Stock" "held" "[I", Cond.fieldLink RX7 26 "LineCaster" "composed" "LLineCaster$Line;", Cond.fieldLink RX7 70 "LineCaster" "now" "I", Cond.fieldLink RX7 61 "LineCaster" "reaches" "[I", Cond.methodLink RX7 86 yX7_isPlace, Cond.static yX7_isPlace, Cond.initialized RX7, Cond.code yX7_isPlace cX7_isPlace 1 (some .boolean), Cond.methodLink RX7 144 yX2_isFull, Cond.instanceMethod yX2_isFull, Cond.selects RX2 yX2_isFull yX2_isFull, Cond.initialized RX2, Cond.code yX2_isFull cX2_isFull 1 (some .boolean), Cond.fieldLink RX2 21 "LineCaster$Line" "come" "I", Cond.fieldLink RX2 25 "LineCaster$Line" "falling" "I", Cond.methodLink RX7 148 yX5_takeFirst, Cond.instanceMethod yX5_takeFirst, Cond.selects RX5 yX5_takeFirst yX5_takeFirst, Cond.initialized RX5, Cond.code yX5_takeFirst cX5_takeFirst 4 (some .int), Cond.fieldLink RX5 26 "LineCaster$Stock" "held" "[I", Cond.fieldLink RX5 23 "LineCaster$Stock" "channels" "[[I", Cond.methodLink RX5 37 arraycopyName]
def wsX7_key_r2 : List Cond := [Cond.native arraycopyName, Cond.static arraycopyName, Cond.initialized "java/lang/System", Cond.fieldLink RX5 18 "LineCaster$Stock" "where" "[I", Cond.methodLink RX7 151 yX2_letGo, Cond.instanceMethod yX2_letGo, Cond.selects RX2 yX2_letGo yX2_letGo, Cond.code yX2_letGo cX2_letGo 3 none, Cond.fieldLink RX2 15 "LineCaster$Line" "fallingThings" "[I", Cond.fieldLink RX2 18 "LineCaster$Line" "dueTicks" "[I", Cond.fieldLink RX2 28 "LineCaster$Line" "bands" "I", Cond.methodLink RX2 31 yX2_isFull]
def wsX7_goOn_r1 : List Cond := [Cond.fieldLink RX7 70 "LineCaster" "now" "I", Cond.fieldLink RX7 26 "LineCaster" "composed" "LLineCaster$Line;", Cond.fieldLink RX7 33 "LineCaster" "carriage" "LLineCaster$Carriage;", Cond.fieldLink RX7 19 "LineCaster" "stock" "LLineCaster$Stock;", Cond.methodLink RX7 276 yX2_takeDue, Cond.instanceMethod yX2_takeDue, Cond.selects RX2 yX2_takeDue yX2_takeDue, Cond.initialized RX2, Cond.code yX2_takeDue cX2_takeDue 4 none, Cond.fieldLink RX2 25 "LineCaster$Line" "falling" "I", Cond.fieldLink RX2 18 "LineCaster$Line" "dueTicks" "[I", Cond.fieldLink RX2 21 "LineCaster$Line" "come" "I", Cond.fieldLink RX2 9 "LineCaster$Line" "things" "[I", Cond.fieldLink RX2 15 "LineCaster$Line" "fallingThings" "[I", Cond.methodLink RX7 279 yX1_dropDue, Cond.instanceMethod yX1_dropDue, Cond.selects RX1 yX1_dropDue yX1_dropDue, Cond.initialized RX1, Cond.code yX1_dropDue cX1_dropDue 5 none, Cond.fieldLink RX1 21 "LineCaster$Carriage" "hanging" "I", Cond.fieldLink RX1 18 "LineCaster$Carriage" "dueTicks" "[I", Cond.fieldLink RX1 9 "LineCaster$Carriage" "hangingMoulds" "[I", Cond.fieldLink RX1 15 "LineCaster$Carriage" "targets" "[I", Cond.methodLink RX1 28 yX1_letFall]
def wsX7_goOn_r2 : List Cond := [Cond.instanceMethod yX1_letFall, Cond.selects RX1 yX1_letFall yX1_letFall, Cond.code yX1_letFall cX1_letFall 4 none, Cond.fieldLink RX1 32 "LineCaster$Stock" "where" "[I", Cond.fieldLink RX1 25 "LineCaster$Carriage" "jammed" "I", Cond.methodLink RX1 37 yX5_lay, Cond.instanceMethod yX5_lay, Cond.selects RX5 yX5_lay yX5_lay, Cond.initialized RX5, Cond.code yX5_lay cX5_lay 3 (some .boolean), Cond.fieldLink RX5 26 "LineCaster$Stock" "held" "[I", Cond.fieldLink RX5 23 "LineCaster$Stock" "channels" "[[I", Cond.fieldLink RX5 18 "LineCaster$Stock" "where" "[I"]
def wsX7_ticks_r1 : List Cond := [Cond.fieldLink RX7 70 "LineCaster" "now" "I", Cond.constant RX7 158 (99999), Cond.methodLink RX7 159 yX7_goOn, Cond.instanceMethod yX7_goOn, Cond.selects RX7 yX7_goOn yX7_goOn, Cond.initialized RX7, Cond.code yX7_goOn cX7_goOn 3 none, Cond.fieldLink RX7 26 "LineCaster" "composed" "LLineCaster$Line;", Cond.fieldLink RX7 33 "LineCaster" "carriage" "LLineCaster$Carriage;", Cond.fieldLink RX7 19 "LineCaster" "stock" "LLineCaster$Stock;", Cond.methodLink RX7 276 yX2_takeDue, Cond.instanceMethod yX2_takeDue, Cond.selects RX2 yX2_takeDue yX2_takeDue, Cond.initialized RX2, Cond.code yX2_takeDue cX2_takeDue 4 none, Cond.fieldLink RX2 25 "LineCaster$Line" "falling" "I", Cond.fieldLink RX2 18 "LineCaster$Line" "dueTicks" "[I", Cond.fieldLink RX2 21 "LineCaster$Line" "come" "I", Cond.fieldLink RX2 9 "LineCaster$Line" "things" "[I", Cond.fieldLink RX2 15 "LineCaster$Line" "fallingThings" "[I", Cond.methodLink RX7 279 yX1_dropDue, Cond.instanceMethod yX1_dropDue, Cond.selects RX1 yX1_dropDue yX1_dropDue, Cond.initialized RX1]
def wsX7_ticks_r2 : List Cond := [Cond.code yX1_dropDue cX1_dropDue 5 none, Cond.fieldLink RX1 21 "LineCaster$Carriage" "hanging" "I", Cond.fieldLink RX1 18 "LineCaster$Carriage" "dueTicks" "[I", Cond.fieldLink RX1 9 "LineCaster$Carriage" "hangingMoulds" "[I", Cond.fieldLink RX1 15 "LineCaster$Carriage" "targets" "[I", Cond.methodLink RX1 28 yX1_letFall, Cond.instanceMethod yX1_letFall, Cond.selects RX1 yX1_letFall yX1_letFall, Cond.code yX1_letFall cX1_letFall 4 none, Cond.fieldLink RX1 32 "LineCaster$Stock" "where" "[I", Cond.fieldLink RX1 25 "LineCaster$Carriage" "jammed" "I", Cond.methodLink RX1 37 yX5_lay, Cond.instanceMethod yX5_lay, Cond.selects RX5 yX5_lay yX5_lay, Cond.initialized RX5, Cond.code yX5_lay cX5_lay 3 (some .boolean), Cond.fieldLink RX5 26 "LineCaster$Stock" "held" "[I", Cond.fieldLink RX5 23 "LineCaster$Stock" "channels" "[[I", Cond.fieldLink RX5 18 "LineCaster$Stock" "where" "[I"]
def wsX7_castSlug_r1 : List Cond := [Cond.fieldLink RX7 40 "LineCaster" "slugs" "LLineCaster$Slugs;", Cond.fieldLink RX7 26 "LineCaster" "composed" "LLineCaster$Line;", Cond.fieldLink RX7 163 "LineCaster$Line" "come" "I", Cond.fieldLink RX7 166 "LineCaster$Line" "things" "[I", Cond.fieldLink RX7 19 "LineCaster" "stock" "LLineCaster$Stock;", Cond.fieldLink RX7 127 "LineCaster$Stock" "letters" "[I", Cond.methodLink RX7 283 yX4_begin, Cond.instanceMethod yX4_begin, Cond.selects RX4 yX4_begin yX4_begin, Cond.initialized RX4, Cond.code yX4_begin cX4_begin 1 none, Cond.fieldLink RX4 20 "LineCaster$Slugs" "count" "I", Cond.methodLink RX4 24 yX4_isFull, Cond.instanceMethod yX4_isFull, Cond.selects RX4 yX4_isFull yX4_isFull, Cond.code yX4_isFull cX4_isFull 1 (some .boolean), Cond.methodLink RX7 286 yX4_append, Cond.instanceMethod yX4_append, Cond.selects RX4 yX4_append yX4_append, Cond.code yX4_append cX4_append 3 none, Cond.fieldLink RX4 16 "LineCaster$Slugs" "lengths" "[I", Cond.fieldLink RX4 11 "LineCaster$Slugs" "signs" "[[B", Cond.methodLink RX7 287 yX7_hangOnBar, Cond.instanceMethod yX7_hangOnBar]
def wsX7_castSlug_r2 : List Cond := [Cond.selects RX7 yX7_hangOnBar yX7_hangOnBar, Cond.initialized RX7, Cond.code yX7_hangOnBar cX7_hangOnBar 4 none, Cond.fieldLink RX7 10 "LineCaster" "bar" "LLineCaster$Bar;", Cond.fieldLink RX7 130 "LineCaster$Stock" "teeth" "[I", Cond.fieldLink RX7 131 "LineCaster$Stock" "where" "[I", Cond.fieldLink RX7 33 "LineCaster" "carriage" "LLineCaster$Carriage;", Cond.fieldLink RX7 70 "LineCaster" "now" "I", Cond.fieldLink RX7 64 "LineCaster" "settings" "[I", Cond.methodLink RX7 106 yX0_fallOf, Cond.instanceMethod yX0_fallOf, Cond.selects RX0 yX0_fallOf yX0_fallOf, Cond.initialized RX0, Cond.code yX0_fallOf cX0_fallOf 3 (some .int), Cond.fieldLink RX0 15 "LineCaster$Bar" "rails" "[I", Cond.methodLink RX7 290 yX1_hang, Cond.instanceMethod yX1_hang, Cond.selects RX1 yX1_hang yX1_hang, Cond.initialized RX1, Cond.code yX1_hang cX1_hang 4 none, Cond.fieldLink RX1 21 "LineCaster$Carriage" "hanging" "I", Cond.fieldLink RX1 9 "LineCaster$Carriage" "hangingMoulds" "[I", Cond.fieldLink RX1 15 "LineCaster$Carriage" "targets" "[I", Cond.fieldLink RX1 18 "LineCaster$Carriage" "dueTicks" "[I"]
def wsX7_cast_r1 : List Cond := [Cond.fieldLink RX7 40 "LineCaster" "slugs" "LLineCaster$Slugs;", Cond.fieldLink RX7 26 "LineCaster" "composed" "LLineCaster$Line;", Cond.fieldLink RX7 185 "LineCaster$Slugs" "count" "I", Cond.methodLink RX7 169 yX7_tightness, Cond.instanceMethod yX7_tightness, Cond.selects RX7 yX7_tightness yX7_tightness, Cond.initialized RX7, Cond.code yX7_tightness cX7_tightness 3 (some .int), Cond.fieldLink RX7 188 "LineCaster$Line" "falling" "I", Cond.fieldLink RX7 163 "LineCaster$Line" "come" "I", Cond.fieldLink RX7 64 "LineCaster" "settings" "[I", Cond.methodLink RX7 175 yX7_composedWidth, Cond.instanceMethod yX7_composedWidth, Cond.selects RX7 yX7_composedWidth yX7_composedWidth, Cond.code yX7_composedWidth cX7_composedWidth 3 (some .int), Cond.fieldLink RX7 166 "LineCaster$Line" "things" "[I", Cond.fieldLink RX7 57 "LineCaster" "widths" "[I", Cond.fieldLink RX7 19 "LineCaster" "stock" "LLineCaster$Stock;", Cond.fieldLink RX7 127 "LineCaster$Stock" "letters" "[I", Cond.methodLink RX7 172 yX2_bandsCome, Cond.instanceMethod yX2_bandsCome, Cond.selects RX2 yX2_bandsCome yX2_bandsCome, Cond.initialized RX2, Cond.code yX2_bandsCome cX2_bandsCome 3 (some .int)]
def wsX7_cast_r2 : List Cond := [Cond.fieldLink RX2 21 "LineCaster$Line" "come" "I", Cond.fieldLink RX2 9 "LineCaster$Line" "things" "[I", Cond.methodLink RX7 178 yX4_isFull, Cond.instanceMethod yX4_isFull, Cond.selects RX4 yX4_isFull yX4_isFull, Cond.initialized RX4, Cond.code yX4_isFull cX4_isFull 1 (some .boolean), Cond.fieldLink RX4 20 "LineCaster$Slugs" "count" "I", Cond.methodLink RX7 179 yX7_castSlug, Cond.instanceMethod yX7_castSlug, Cond.selects RX7 yX7_castSlug yX7_castSlug, Cond.code yX7_castSlug cX7_castSlug 4 none, Cond.methodLink RX7 283 yX4_begin, Cond.instanceMethod yX4_begin, Cond.selects RX4 yX4_begin yX4_begin, Cond.code yX4_begin cX4_begin 1 none, Cond.methodLink RX4 24 yX4_isFull, Cond.methodLink RX7 286 yX4_append, Cond.instanceMethod yX4_append, Cond.selects RX4 yX4_append yX4_append, Cond.code yX4_append cX4_append 3 none, Cond.fieldLink RX4 16 "LineCaster$Slugs" "lengths" "[I", Cond.fieldLink RX4 11 "LineCaster$Slugs" "signs" "[[B", Cond.methodLink RX7 287 yX7_hangOnBar]
def wsX7_cast_r3 : List Cond := [Cond.instanceMethod yX7_hangOnBar, Cond.selects RX7 yX7_hangOnBar yX7_hangOnBar, Cond.code yX7_hangOnBar cX7_hangOnBar 4 none, Cond.fieldLink RX7 10 "LineCaster" "bar" "LLineCaster$Bar;", Cond.fieldLink RX7 130 "LineCaster$Stock" "teeth" "[I", Cond.fieldLink RX7 131 "LineCaster$Stock" "where" "[I", Cond.fieldLink RX7 33 "LineCaster" "carriage" "LLineCaster$Carriage;", Cond.fieldLink RX7 70 "LineCaster" "now" "I", Cond.methodLink RX7 106 yX0_fallOf, Cond.instanceMethod yX0_fallOf, Cond.selects RX0 yX0_fallOf yX0_fallOf, Cond.initialized RX0, Cond.code yX0_fallOf cX0_fallOf 3 (some .int), Cond.fieldLink RX0 15 "LineCaster$Bar" "rails" "[I", Cond.methodLink RX7 290 yX1_hang, Cond.instanceMethod yX1_hang, Cond.selects RX1 yX1_hang yX1_hang, Cond.initialized RX1, Cond.code yX1_hang cX1_hang 4 none, Cond.fieldLink RX1 21 "LineCaster$Carriage" "hanging" "I", Cond.fieldLink RX1 9 "LineCaster$Carriage" "hangingMoulds" "[I", Cond.fieldLink RX1 15 "LineCaster$Carriage" "targets" "[I", Cond.fieldLink RX1 18 "LineCaster$Carriage" "dueTicks" "[I", Cond.methodLink RX7 182 yX2_empty]
def wsX7_cast_r4 : List Cond := [Cond.instanceMethod yX2_empty, Cond.selects RX2 yX2_empty yX2_empty, Cond.code yX2_empty cX2_empty 1 none, Cond.fieldLink RX2 28 "LineCaster$Line" "bands" "I"]
def wsX7_readRow_r1 : List Cond := [Cond.fieldLink RX7 53 "LineCaster" "sheets" "[LLineCaster$Sheet;", Cond.fieldLink RX7 99 "LineCaster$Sheet" "items" "[I", Cond.fieldLink RX7 67 "LineCaster" "rowReaches" "[I", Cond.fieldLink RX7 61 "LineCaster" "reaches" "[I", Cond.methodLink RX7 95 yX7_sheetFault, Cond.instanceMethod yX7_sheetFault, Cond.selects RX7 yX7_sheetFault yX7_sheetFault, Cond.initialized RX7, Cond.code yX7_sheetFault cX7_sheetFault 6 (some .int), Cond.fieldLink RX7 256 "LineCaster$Sheet" "holdsRow" "Z", Cond.fieldLink RX7 264 "LineCaster$Sheet" "lane" "I", Cond.methodLink RX7 247 yX7_isSheet, Cond.static yX7_isSheet, Cond.code yX7_isSheet cX7_isSheet 1 (some .boolean), Cond.methodLink RX7 250 yX7_isLane, Cond.static yX7_isLane, Cond.code yX7_isLane cX7_isLane 1 (some .boolean), Cond.methodLink RX7 267 yX3_spans, Cond.instanceMethod yX3_spans, Cond.selects RX3 yX3_spans yX3_spans, Cond.initialized RX3, Cond.code yX3_spans cX3_spans 3 (some .boolean), Cond.fieldLink RX3 23 "LineCaster$Sheet" "length" "I", Cond.methodLink RX7 86 yX7_isPlace]
def wsX7_readRow_r2 : List Cond := [Cond.static yX7_isPlace, Cond.code yX7_isPlace cX7_isPlace 1 (some .boolean)]
def wsX7_comes_r1 : List Cond := [Cond.methodLink RX7 207 yX7_isGap, Cond.static yX7_isGap, Cond.initialized RX7, Cond.code yX7_isGap cX7_isGap 1 (some .boolean), Cond.methodLink RX7 210 yX7_readRow, Cond.instanceMethod yX7_readRow, Cond.selects RX7 yX7_readRow yX7_readRow, Cond.code yX7_readRow cX7_readRow 9 (some .int), Cond.fieldLink RX7 53 "LineCaster" "sheets" "[LLineCaster$Sheet;", Cond.fieldLink RX7 99 "LineCaster$Sheet" "items" "[I", Cond.fieldLink RX7 67 "LineCaster" "rowReaches" "[I", Cond.fieldLink RX7 61 "LineCaster" "reaches" "[I", Cond.methodLink RX7 95 yX7_sheetFault, Cond.instanceMethod yX7_sheetFault, Cond.selects RX7 yX7_sheetFault yX7_sheetFault, Cond.code yX7_sheetFault cX7_sheetFault 6 (some .int), Cond.fieldLink RX7 256 "LineCaster$Sheet" "holdsRow" "Z", Cond.fieldLink RX7 264 "LineCaster$Sheet" "lane" "I", Cond.methodLink RX7 247 yX7_isSheet, Cond.static yX7_isSheet, Cond.code yX7_isSheet cX7_isSheet 1 (some .boolean), Cond.methodLink RX7 250 yX7_isLane, Cond.static yX7_isLane, Cond.code yX7_isLane cX7_isLane 1 (some .boolean)]
def wsX7_comes_r2 : List Cond := [Cond.methodLink RX7 267 yX3_spans, Cond.instanceMethod yX3_spans, Cond.selects RX3 yX3_spans yX3_spans, Cond.initialized RX3, Cond.code yX3_spans cX3_spans 3 (some .boolean), Cond.fieldLink RX3 23 "LineCaster$Sheet" "length" "I", Cond.methodLink RX7 86 yX7_isPlace, Cond.static yX7_isPlace, Cond.code yX7_isPlace cX7_isPlace 1 (some .boolean), Cond.methodLink RX7 213 yX7_keyThatComes, Cond.instanceMethod yX7_keyThatComes, Cond.selects RX7 yX7_keyThatComes yX7_keyThatComes, Cond.code yX7_keyThatComes cX7_keyThatComes 5 (some .int), Cond.methodLink RX7 298 yX7_comersAheadOf, Cond.instanceMethod yX7_comersAheadOf, Cond.selects RX7 yX7_comersAheadOf yX7_comersAheadOf, Cond.code yX7_comersAheadOf cX7_comersAheadOf 7 (some .int), Cond.methodLink RX7 294 yX7_comesAhead, Cond.instanceMethod yX7_comesAhead, Cond.selects RX7 yX7_comesAhead yX7_comesAhead, Cond.code yX7_comesAhead cX7_comesAhead 4 (some .boolean)]
def wsX7_turned_r1 : List Cond := [Cond.methodLink RX7 207 yX7_isGap, Cond.static yX7_isGap, Cond.initialized RX7, Cond.code yX7_isGap cX7_isGap 1 (some .boolean), Cond.methodLink RX7 210 yX7_readRow, Cond.instanceMethod yX7_readRow, Cond.selects RX7 yX7_readRow yX7_readRow, Cond.code yX7_readRow cX7_readRow 9 (some .int), Cond.fieldLink RX7 53 "LineCaster" "sheets" "[LLineCaster$Sheet;", Cond.fieldLink RX7 99 "LineCaster$Sheet" "items" "[I", Cond.fieldLink RX7 67 "LineCaster" "rowReaches" "[I", Cond.fieldLink RX7 61 "LineCaster" "reaches" "[I", Cond.methodLink RX7 95 yX7_sheetFault, Cond.instanceMethod yX7_sheetFault, Cond.selects RX7 yX7_sheetFault yX7_sheetFault, Cond.code yX7_sheetFault cX7_sheetFault 6 (some .int), Cond.fieldLink RX7 256 "LineCaster$Sheet" "holdsRow" "Z", Cond.fieldLink RX7 264 "LineCaster$Sheet" "lane" "I", Cond.methodLink RX7 247 yX7_isSheet, Cond.static yX7_isSheet, Cond.code yX7_isSheet cX7_isSheet 1 (some .boolean), Cond.methodLink RX7 250 yX7_isLane, Cond.static yX7_isLane, Cond.code yX7_isLane cX7_isLane 1 (some .boolean)]
def wsX7_turned_r2 : List Cond := [Cond.methodLink RX7 267 yX3_spans, Cond.instanceMethod yX3_spans, Cond.selects RX3 yX3_spans yX3_spans, Cond.initialized RX3, Cond.code yX3_spans cX3_spans 3 (some .boolean), Cond.fieldLink RX3 23 "LineCaster$Sheet" "length" "I", Cond.methodLink RX7 86 yX7_isPlace, Cond.static yX7_isPlace, Cond.code yX7_isPlace cX7_isPlace 1 (some .boolean), Cond.methodLink RX7 217 yX7_turnedPairs, Cond.instanceMethod yX7_turnedPairs, Cond.selects RX7 yX7_turnedPairs yX7_turnedPairs, Cond.code yX7_turnedPairs cX7_turnedPairs 6 (some .int), Cond.methodLink RX7 294 yX7_comesAhead, Cond.instanceMethod yX7_comesAhead, Cond.selects RX7 yX7_comesAhead yX7_comesAhead, Cond.code yX7_comesAhead cX7_comesAhead 4 (some .boolean)]
def wsX7_waits_r1 : List Cond := [Cond.fieldLink RX7 67 "LineCaster" "rowReaches" "[I", Cond.methodLink RX7 220 Lib.Math.max.name, Cond.static Lib.Math.max.name, Cond.initialized "java/lang/Math", Cond.code Lib.Math.max.name Lib.Math.max.code 2 (some .int), Cond.methodLink RX7 210 yX7_readRow, Cond.instanceMethod yX7_readRow, Cond.selects RX7 yX7_readRow yX7_readRow, Cond.initialized RX7, Cond.code yX7_readRow cX7_readRow 9 (some .int), Cond.fieldLink RX7 53 "LineCaster" "sheets" "[LLineCaster$Sheet;", Cond.fieldLink RX7 99 "LineCaster$Sheet" "items" "[I", Cond.fieldLink RX7 61 "LineCaster" "reaches" "[I", Cond.methodLink RX7 95 yX7_sheetFault, Cond.instanceMethod yX7_sheetFault, Cond.selects RX7 yX7_sheetFault yX7_sheetFault, Cond.code yX7_sheetFault cX7_sheetFault 6 (some .int), Cond.fieldLink RX7 256 "LineCaster$Sheet" "holdsRow" "Z", Cond.fieldLink RX7 264 "LineCaster$Sheet" "lane" "I", Cond.methodLink RX7 247 yX7_isSheet, Cond.static yX7_isSheet, Cond.code yX7_isSheet cX7_isSheet 1 (some .boolean), Cond.methodLink RX7 250 yX7_isLane, Cond.static yX7_isLane]
def wsX7_waits_r2 : List Cond := [Cond.code yX7_isLane cX7_isLane 1 (some .boolean), Cond.methodLink RX7 267 yX3_spans, Cond.instanceMethod yX3_spans, Cond.selects RX3 yX3_spans yX3_spans, Cond.initialized RX3, Cond.code yX3_spans cX3_spans 3 (some .boolean), Cond.fieldLink RX3 23 "LineCaster$Sheet" "length" "I", Cond.methodLink RX7 86 yX7_isPlace, Cond.static yX7_isPlace, Cond.code yX7_isPlace cX7_isPlace 1 (some .boolean)]
def wsX7_gap_r1 : List Cond := [Cond.methodLink RX7 210 yX7_readRow, Cond.instanceMethod yX7_readRow, Cond.selects RX7 yX7_readRow yX7_readRow, Cond.initialized RX7, Cond.code yX7_readRow cX7_readRow 9 (some .int), Cond.fieldLink RX7 53 "LineCaster" "sheets" "[LLineCaster$Sheet;", Cond.fieldLink RX7 99 "LineCaster$Sheet" "items" "[I", Cond.fieldLink RX7 67 "LineCaster" "rowReaches" "[I", Cond.fieldLink RX7 61 "LineCaster" "reaches" "[I", Cond.methodLink RX7 95 yX7_sheetFault, Cond.instanceMethod yX7_sheetFault, Cond.selects RX7 yX7_sheetFault yX7_sheetFault, Cond.code yX7_sheetFault cX7_sheetFault 6 (some .int), Cond.fieldLink RX7 256 "LineCaster$Sheet" "holdsRow" "Z", Cond.fieldLink RX7 264 "LineCaster$Sheet" "lane" "I", Cond.methodLink RX7 247 yX7_isSheet, Cond.static yX7_isSheet, Cond.code yX7_isSheet cX7_isSheet 1 (some .boolean), Cond.methodLink RX7 250 yX7_isLane, Cond.static yX7_isLane, Cond.code yX7_isLane cX7_isLane 1 (some .boolean), Cond.methodLink RX7 267 yX3_spans, Cond.instanceMethod yX3_spans, Cond.selects RX3 yX3_spans yX3_spans]
def wsX7_gap_r2 : List Cond := [Cond.initialized RX3, Cond.code yX3_spans cX3_spans 3 (some .boolean), Cond.fieldLink RX3 23 "LineCaster$Sheet" "length" "I", Cond.methodLink RX7 86 yX7_isPlace, Cond.static yX7_isPlace, Cond.code yX7_isPlace cX7_isPlace 1 (some .boolean), Cond.methodLink RX7 217 yX7_turnedPairs, Cond.instanceMethod yX7_turnedPairs, Cond.selects RX7 yX7_turnedPairs yX7_turnedPairs, Cond.code yX7_turnedPairs cX7_turnedPairs 6 (some .int), Cond.methodLink RX7 294 yX7_comesAhead, Cond.instanceMethod yX7_comesAhead, Cond.selects RX7 yX7_comesAhead yX7_comesAhead, Cond.code yX7_comesAhead cX7_comesAhead 4 (some .boolean)]
def wsX7_playTape_r1 : List Cond := [Cond.fieldLink RX7 47 "LineCaster" "tape" "LLineCaster$Tape;", Cond.fieldLink RX7 301 "LineCaster$Tape" "signs" "[I", Cond.methodLink RX7 159 yX7_goOn, Cond.instanceMethod yX7_goOn, Cond.selects RX7 yX7_goOn yX7_goOn, Cond.initialized RX7, Cond.code yX7_goOn cX7_goOn 3 none, Cond.fieldLink RX7 70 "LineCaster" "now" "I", Cond.fieldLink RX7 26 "LineCaster" "composed" "LLineCaster$Line;", Cond.fieldLink RX7 33 "LineCaster" "carriage" "LLineCaster$Carriage;", Cond.fieldLink RX7 19 "LineCaster" "stock" "LLineCaster$Stock;", Cond.methodLink RX7 276 yX2_takeDue, Cond.instanceMethod yX2_takeDue, Cond.selects RX2 yX2_takeDue yX2_takeDue, Cond.initialized RX2, Cond.code yX2_takeDue cX2_takeDue 4 none, Cond.fieldLink RX2 25 "LineCaster$Line" "falling" "I", Cond.fieldLink RX2 18 "LineCaster$Line" "dueTicks" "[I", Cond.fieldLink RX2 21 "LineCaster$Line" "come" "I", Cond.fieldLink RX2 9 "LineCaster$Line" "things" "[I", Cond.fieldLink RX2 15 "LineCaster$Line" "fallingThings" "[I", Cond.methodLink RX7 279 yX1_dropDue, Cond.instanceMethod yX1_dropDue, Cond.selects RX1 yX1_dropDue yX1_dropDue]
def wsX7_playTape_r2 : List Cond := [Cond.initialized RX1, Cond.code yX1_dropDue cX1_dropDue 5 none, Cond.fieldLink RX1 21 "LineCaster$Carriage" "hanging" "I", Cond.fieldLink RX1 18 "LineCaster$Carriage" "dueTicks" "[I", Cond.fieldLink RX1 9 "LineCaster$Carriage" "hangingMoulds" "[I", Cond.fieldLink RX1 15 "LineCaster$Carriage" "targets" "[I", Cond.methodLink RX1 28 yX1_letFall, Cond.instanceMethod yX1_letFall, Cond.selects RX1 yX1_letFall yX1_letFall, Cond.code yX1_letFall cX1_letFall 4 none, Cond.fieldLink RX1 32 "LineCaster$Stock" "where" "[I", Cond.fieldLink RX1 25 "LineCaster$Carriage" "jammed" "I", Cond.methodLink RX1 37 yX5_lay, Cond.instanceMethod yX5_lay, Cond.selects RX5 yX5_lay yX5_lay, Cond.initialized RX5, Cond.code yX5_lay cX5_lay 3 (some .boolean), Cond.fieldLink RX5 26 "LineCaster$Stock" "held" "[I", Cond.fieldLink RX5 23 "LineCaster$Stock" "channels" "[[I", Cond.fieldLink RX5 18 "LineCaster$Stock" "where" "[I", Cond.methodLink RX7 303 yX7_band, Cond.instanceMethod yX7_band, Cond.selects RX7 yX7_band yX7_band, Cond.code yX7_band cX7_band 2 (some .int)]
def wsX7_playTape_r3 : List Cond := [Cond.fieldLink RX7 155 "LineCaster$Line" "bands" "I", Cond.methodLink RX7 144 yX2_isFull, Cond.instanceMethod yX2_isFull, Cond.selects RX2 yX2_isFull yX2_isFull, Cond.code yX2_isFull cX2_isFull 1 (some .boolean), Cond.methodLink RX7 151 yX2_letGo, Cond.instanceMethod yX2_letGo, Cond.selects RX2 yX2_letGo yX2_letGo, Cond.code yX2_letGo cX2_letGo 3 none, Cond.fieldLink RX2 28 "LineCaster$Line" "bands" "I", Cond.methodLink RX2 31 yX2_isFull, Cond.methodLink RX7 306 yX7_key, Cond.instanceMethod yX7_key, Cond.selects RX7 yX7_key yX7_key, Cond.code yX7_key cX7_key 3 (some .int), Cond.fieldLink RX7 137 "LineCaster$Stock" "held" "[I", Cond.fieldLink RX7 61 "LineCaster" "reaches" "[I", Cond.methodLink RX7 86 yX7_isPlace, Cond.static yX7_isPlace, Cond.code yX7_isPlace cX7_isPlace 1 (some .boolean), Cond.methodLink RX7 148 yX5_takeFirst, Cond.instanceMethod yX5_takeFirst, Cond.selects RX5 yX5_takeFirst yX5_takeFirst, Cond.code yX5_takeFirst cX5_takeFirst 4 (some .int)]
def wsX7_playTape_r4 : List Cond := [Cond.methodLink RX5 37 arraycopyName, Cond.native arraycopyName, Cond.static arraycopyName, Cond.initialized "java/lang/System"]
def wsX7_plays_r1 : List Cond := [Cond.fieldLink RX7 47 "LineCaster" "tape" "LLineCaster$Tape;", Cond.fieldLink RX7 229 "LineCaster$Tape" "length" "I", Cond.fieldLink RX7 70 "LineCaster" "now" "I", Cond.constant RX7 158 (99999), Cond.methodLink RX7 207 yX7_isGap, Cond.static yX7_isGap, Cond.initialized RX7, Cond.code yX7_isGap cX7_isGap 1 (some .boolean), Cond.methodLink RX7 235 yX6_firstUnplayable, Cond.instanceMethod yX6_firstUnplayable, Cond.selects RX6 yX6_firstUnplayable yX6_firstUnplayable, Cond.initialized RX6, Cond.code yX6_firstUnplayable cX6_firstUnplayable 3 (some .int), Cond.fieldLink RX6 15 "LineCaster$Tape" "length" "I", Cond.fieldLink RX6 9 "LineCaster$Tape" "signs" "[I", Cond.methodLink RX7 238 yX7_playTape, Cond.instanceMethod yX7_playTape, Cond.selects RX7 yX7_playTape yX7_playTape, Cond.code yX7_playTape cX7_playTape 6 (some .int), Cond.fieldLink RX7 301 "LineCaster$Tape" "signs" "[I", Cond.methodLink RX7 159 yX7_goOn, Cond.instanceMethod yX7_goOn, Cond.selects RX7 yX7_goOn yX7_goOn, Cond.code yX7_goOn cX7_goOn 3 none]
def wsX7_plays_r2 : List Cond := [Cond.fieldLink RX7 26 "LineCaster" "composed" "LLineCaster$Line;", Cond.fieldLink RX7 33 "LineCaster" "carriage" "LLineCaster$Carriage;", Cond.fieldLink RX7 19 "LineCaster" "stock" "LLineCaster$Stock;", Cond.methodLink RX7 276 yX2_takeDue, Cond.instanceMethod yX2_takeDue, Cond.selects RX2 yX2_takeDue yX2_takeDue, Cond.initialized RX2, Cond.code yX2_takeDue cX2_takeDue 4 none, Cond.fieldLink RX2 25 "LineCaster$Line" "falling" "I", Cond.fieldLink RX2 18 "LineCaster$Line" "dueTicks" "[I", Cond.fieldLink RX2 21 "LineCaster$Line" "come" "I", Cond.fieldLink RX2 9 "LineCaster$Line" "things" "[I", Cond.fieldLink RX2 15 "LineCaster$Line" "fallingThings" "[I", Cond.methodLink RX7 279 yX1_dropDue, Cond.instanceMethod yX1_dropDue, Cond.selects RX1 yX1_dropDue yX1_dropDue, Cond.initialized RX1, Cond.code yX1_dropDue cX1_dropDue 5 none, Cond.fieldLink RX1 21 "LineCaster$Carriage" "hanging" "I", Cond.fieldLink RX1 18 "LineCaster$Carriage" "dueTicks" "[I", Cond.fieldLink RX1 9 "LineCaster$Carriage" "hangingMoulds" "[I", Cond.fieldLink RX1 15 "LineCaster$Carriage" "targets" "[I", Cond.methodLink RX1 28 yX1_letFall, Cond.instanceMethod yX1_letFall]
def wsX7_plays_r3 : List Cond := [Cond.selects RX1 yX1_letFall yX1_letFall, Cond.code yX1_letFall cX1_letFall 4 none, Cond.fieldLink RX1 32 "LineCaster$Stock" "where" "[I", Cond.fieldLink RX1 25 "LineCaster$Carriage" "jammed" "I", Cond.methodLink RX1 37 yX5_lay, Cond.instanceMethod yX5_lay, Cond.selects RX5 yX5_lay yX5_lay, Cond.initialized RX5, Cond.code yX5_lay cX5_lay 3 (some .boolean), Cond.fieldLink RX5 26 "LineCaster$Stock" "held" "[I", Cond.fieldLink RX5 23 "LineCaster$Stock" "channels" "[[I", Cond.fieldLink RX5 18 "LineCaster$Stock" "where" "[I", Cond.methodLink RX7 303 yX7_band, Cond.instanceMethod yX7_band, Cond.selects RX7 yX7_band yX7_band, Cond.code yX7_band cX7_band 2 (some .int), Cond.fieldLink RX7 155 "LineCaster$Line" "bands" "I", Cond.methodLink RX7 144 yX2_isFull, Cond.instanceMethod yX2_isFull, Cond.selects RX2 yX2_isFull yX2_isFull, Cond.code yX2_isFull cX2_isFull 1 (some .boolean), Cond.methodLink RX7 151 yX2_letGo, Cond.instanceMethod yX2_letGo, Cond.selects RX2 yX2_letGo yX2_letGo]
def wsX7_plays_r4 : List Cond := [Cond.code yX2_letGo cX2_letGo 3 none, Cond.fieldLink RX2 28 "LineCaster$Line" "bands" "I", Cond.methodLink RX2 31 yX2_isFull, Cond.methodLink RX7 306 yX7_key, Cond.instanceMethod yX7_key, Cond.selects RX7 yX7_key yX7_key, Cond.code yX7_key cX7_key 3 (some .int), Cond.fieldLink RX7 137 "LineCaster$Stock" "held" "[I", Cond.fieldLink RX7 61 "LineCaster" "reaches" "[I", Cond.methodLink RX7 86 yX7_isPlace, Cond.static yX7_isPlace, Cond.code yX7_isPlace cX7_isPlace 1 (some .boolean), Cond.methodLink RX7 148 yX5_takeFirst, Cond.instanceMethod yX5_takeFirst, Cond.selects RX5 yX5_takeFirst yX5_takeFirst, Cond.code yX5_takeFirst cX5_takeFirst 4 (some .int), Cond.methodLink RX5 37 arraycopyName, Cond.native arraycopyName, Cond.static arraycopyName, Cond.initialized "java/lang/System"]
def wsX7_better_r1 : List Cond := [Cond.fieldLink RX7 10 "LineCaster" "bar" "LLineCaster$Bar;", Cond.methodLink RX7 75 yX7_isLetter, Cond.static yX7_isLetter, Cond.initialized RX7, Cond.code yX7_isLetter cX7_isLetter 1 (some .boolean), Cond.methodLink RX7 244 yX0_betterTeeth, Cond.instanceMethod yX0_betterTeeth, Cond.selects RX0 yX0_betterTeeth yX0_betterTeeth, Cond.initialized RX0, Cond.code yX0_betterTeeth cX0_betterTeeth 8 (some .int), Cond.fieldLink RX0 9 "LineCaster$Bar" "teeth" "[I", Cond.fieldLink RX0 15 "LineCaster$Bar" "rails" "[I", Cond.constant RX0 41 (2147483647), Cond.methodLink RX0 42 yX0_firstAstray, Cond.instanceMethod yX0_firstAstray, Cond.selects RX0 yX0_firstAstray yX0_firstAstray, Cond.code yX0_firstAstray cX0_firstAstray 2 (some .int), Cond.methodLink RX0 18 yX0_fallOf, Cond.instanceMethod yX0_fallOf, Cond.selects RX0 yX0_fallOf yX0_fallOf, Cond.code yX0_fallOf cX0_fallOf 3 (some .int), Cond.methodLink RX0 46 yX0_allAtRisk, Cond.instanceMethod yX0_allAtRisk, Cond.selects RX0 yX0_allAtRisk yX0_allAtRisk]
def wsX7_better_r2 : List Cond := [Cond.code yX0_allAtRisk cX0_allAtRisk 3 (some .int), Cond.methodLink RX0 38 yX0_teethAtRisk, Cond.instanceMethod yX0_teethAtRisk, Cond.selects RX0 yX0_teethAtRisk yX0_teethAtRisk, Cond.code yX0_teethAtRisk cX0_teethAtRisk 6 (some .int)]
def wsX8_init_r1 : List Cond := [Cond.methodLink RX8 1 objectInit, Cond.instanceMethod objectInit, Cond.code objectInit ⟨#[0xb1]⟩ 1 none, Cond.arrayClass .int, Cond.fieldLink RX8 7 "LineCasterModel" "widths" "[I", Cond.fieldLink RX8 13 "LineCasterModel" "teeth" "[I", Cond.fieldLink RX8 16 "LineCasterModel" "railAt" "[I", Cond.fieldLink RX8 19 "LineCasterModel" "reaches" "[I", Cond.fieldLink RX8 22 "LineCasterModel" "sets" "[I", Cond.fieldLink RX8 25 "LineCasterModel" "letters" "[I", Cond.fieldLink RX8 28 "LineCasterModel" "has" "[I", Cond.fieldLink RX8 31 "LineCasterModel" "wheres" "[I", Cond.fieldLink RX8 34 "LineCasterModel" "held" "[I", Cond.fieldLink RX8 37 "LineCasterModel" "rows" "[I", Cond.fieldLink RX8 40 "LineCasterModel" "line" "[I", Cond.fieldLink RX8 43 "LineCasterModel" "fallWhat" "[I", Cond.fieldLink RX8 46 "LineCasterModel" "fallDue" "[I", Cond.fieldLink RX8 49 "LineCasterModel" "barWhat" "[I", Cond.fieldLink RX8 52 "LineCasterModel" "barPlace" "[I", Cond.fieldLink RX8 55 "LineCasterModel" "barDue" "[I", Cond.fieldLink RX8 58 "LineCasterModel" "slugSize" "[I", Cond.fieldLink RX8 61 "LineCasterModel" "slugBytes" "[I", Cond.fieldLink RX8 64 "LineCasterModel" "keys" "[I", Cond.fieldLink RX8 67 "LineCasterModel" "dues" "[I"]
def wsX8_init_r2 : List Cond := [Cond.fieldLink RX8 70 "LineCasterModel" "tape" "[I", Cond.fieldLink RX8 73 "LineCasterModel" "lanes" "[I", Cond.fieldLink RX8 76 "LineCasterModel" "sizes" "[I", Cond.fieldLink RX8 79 "LineCasterModel" "items" "[I", Cond.fieldLink RX8 82 "LineCasterModel" "moved" "[I"]
def wsX8_ticks_r1 : List Cond := [Cond.constantLong RX8 157 (300), Cond.fieldLink RX8 138 "LineCasterModel" "now" "I", Cond.constant RX8 159 (99999), Cond.methodLink RX8 87 yX8_in, Cond.static yX8_in, Cond.initialized RX8, Cond.code yX8_in cX8_in 6 (some .boolean), Cond.methodLink RX8 160 yX8_tick, Cond.instanceMethod yX8_tick, Cond.selects RX8 yX8_tick yX8_tick, Cond.code yX8_tick cX8_tick 4 none, Cond.fieldLink RX8 135 "LineCasterModel" "falling" "I", Cond.fieldLink RX8 46 "LineCasterModel" "fallDue" "[I", Cond.fieldLink RX8 40 "LineCasterModel" "line" "[I", Cond.fieldLink RX8 141 "LineCasterModel" "came" "I", Cond.fieldLink RX8 43 "LineCasterModel" "fallWhat" "[I", Cond.fieldLink RX8 151 "LineCasterModel" "carried" "I", Cond.fieldLink RX8 55 "LineCasterModel" "barDue" "[I", Cond.fieldLink RX8 49 "LineCasterModel" "barWhat" "[I", Cond.fieldLink RX8 52 "LineCasterModel" "barPlace" "[I", Cond.fieldLink RX8 154 "LineCasterModel" "jammed" "I", Cond.methodLink RX8 126 yX8_lies, Cond.instanceMethod yX8_lies, Cond.selects RX8 yX8_lies yX8_lies]
def wsX8_ticks_r2 : List Cond := [Cond.code yX8_lies cX8_lies 4 (some .boolean), Cond.fieldLink RX8 34 "LineCasterModel" "held" "[I", Cond.fieldLink RX8 31 "LineCasterModel" "wheres" "[I", Cond.fieldLink RX8 37 "LineCasterModel" "rows" "[I"]
def wsX8_cast_r1 : List Cond := [Cond.fieldLink RX8 135 "LineCasterModel" "falling" "I", Cond.fieldLink RX8 141 "LineCasterModel" "came" "I", Cond.fieldLink RX8 173 "LineCasterModel" "slugs" "I", Cond.fieldLink RX8 40 "LineCasterModel" "line" "[I", Cond.fieldLink RX8 61 "LineCasterModel" "slugBytes" "[I", Cond.fieldLink RX8 25 "LineCasterModel" "letters" "[I", Cond.fieldLink RX8 49 "LineCasterModel" "barWhat" "[I", Cond.fieldLink RX8 151 "LineCasterModel" "carried" "I", Cond.fieldLink RX8 52 "LineCasterModel" "barPlace" "[I", Cond.fieldLink RX8 28 "LineCasterModel" "has" "[I", Cond.fieldLink RX8 55 "LineCasterModel" "barDue" "[I", Cond.fieldLink RX8 138 "LineCasterModel" "now" "I", Cond.fieldLink RX8 22 "LineCasterModel" "sets" "[I", Cond.fieldLink RX8 31 "LineCasterModel" "wheres" "[I", Cond.fieldLink RX8 58 "LineCasterModel" "slugSize" "[I", Cond.fieldLink RX8 148 "LineCasterModel" "bands" "I", Cond.methodLink RX8 163 yX8_widthOf, Cond.instanceMethod yX8_widthOf, Cond.selects RX8 yX8_widthOf yX8_widthOf, Cond.initialized RX8, Cond.code yX8_widthOf cX8_widthOf 3 (some .int), Cond.fieldLink RX8 7 "LineCasterModel" "widths" "[I", Cond.methodLink RX8 167 yX8_bandMany, Cond.instanceMethod yX8_bandMany]
def wsX8_cast_r2 : List Cond := [Cond.selects RX8 yX8_bandMany yX8_bandMany, Cond.code yX8_bandMany cX8_bandMany 3 (some .int), Cond.methodLink RX8 170 yX8_tightness, Cond.instanceMethod yX8_tightness, Cond.selects RX8 yX8_tightness yX8_tightness, Cond.code yX8_tightness cX8_tightness 3 (some .int), Cond.methodLink RX8 113 yX8_fallsAt, Cond.instanceMethod yX8_fallsAt, Cond.selects RX8 yX8_fallsAt yX8_fallsAt, Cond.code yX8_fallsAt cX8_fallsAt 3 (some .int), Cond.fieldLink RX8 16 "LineCasterModel" "railAt" "[I"]
def wsX8_comes_r1 : List Cond := [Cond.fieldLink RX8 67 "LineCasterModel" "dues" "[I", Cond.methodLink RX8 186 yX8_isRow, Cond.static yX8_isRow, Cond.initialized RX8, Cond.code yX8_isRow cX8_isRow 4 (some .boolean), Cond.constantLong RX8 182 (24), Cond.constantLong RX8 184 (30), Cond.methodLink RX8 101 yX8_isSheet, Cond.static yX8_isSheet, Cond.code yX8_isSheet cX8_isSheet 1 (some .boolean), Cond.constantLong RX8 111 (3), Cond.methodLink RX8 87 yX8_in, Cond.static yX8_in, Cond.code yX8_in cX8_in 6 (some .boolean), Cond.methodLink RX8 104 yX8_isLane, Cond.static yX8_isLane, Cond.code yX8_isLane cX8_isLane 1 (some .boolean), Cond.constantLong RX8 133 (2), Cond.methodLink RX8 190 yX8_takes, Cond.instanceMethod yX8_takes, Cond.selects RX8 yX8_takes yX8_takes, Cond.code yX8_takes cX8_takes 7 (some .int), Cond.fieldLink RX8 64 "LineCasterModel" "keys" "[I", Cond.fieldLink RX8 79 "LineCasterModel" "items" "[I"]
def wsX8_comes_r2 : List Cond := [Cond.constantLong RX8 117 (12), Cond.methodLink RX8 107 yX8_finds, Cond.instanceMethod yX8_finds, Cond.selects RX8 yX8_finds yX8_finds, Cond.code yX8_finds cX8_finds 5 (some .int), Cond.fieldLink RX8 73 "LineCasterModel" "lanes" "[I", Cond.fieldLink RX8 76 "LineCasterModel" "sizes" "[I", Cond.methodLink RX8 193 yX8_lays, Cond.instanceMethod yX8_lays, Cond.selects RX8 yX8_lays yX8_lays, Cond.code yX8_lays cX8_lays 4 none, Cond.methodLink RX8 179 yX8_reachOf, Cond.instanceMethod yX8_reachOf, Cond.selects RX8 yX8_reachOf yX8_reachOf, Cond.code yX8_reachOf cX8_reachOf 2 (some .int), Cond.fieldLink RX8 19 "LineCasterModel" "reaches" "[I"]
def wsX8_turned_r1 : List Cond := [Cond.methodLink RX8 186 yX8_isRow, Cond.static yX8_isRow, Cond.initialized RX8, Cond.code yX8_isRow cX8_isRow 4 (some .boolean), Cond.constantLong RX8 182 (24), Cond.constantLong RX8 184 (30), Cond.methodLink RX8 101 yX8_isSheet, Cond.static yX8_isSheet, Cond.code yX8_isSheet cX8_isSheet 1 (some .boolean), Cond.constantLong RX8 111 (3), Cond.methodLink RX8 87 yX8_in, Cond.static yX8_in, Cond.code yX8_in cX8_in 6 (some .boolean), Cond.methodLink RX8 104 yX8_isLane, Cond.static yX8_isLane, Cond.code yX8_isLane cX8_isLane 1 (some .boolean), Cond.constantLong RX8 133 (2), Cond.methodLink RX8 190 yX8_takes, Cond.instanceMethod yX8_takes, Cond.selects RX8 yX8_takes yX8_takes, Cond.code yX8_takes cX8_takes 7 (some .int), Cond.fieldLink RX8 64 "LineCasterModel" "keys" "[I", Cond.fieldLink RX8 79 "LineCasterModel" "items" "[I", Cond.constantLong RX8 117 (12)]
def wsX8_turned_r2 : List Cond := [Cond.methodLink RX8 107 yX8_finds, Cond.instanceMethod yX8_finds, Cond.selects RX8 yX8_finds yX8_finds, Cond.code yX8_finds cX8_finds 5 (some .int), Cond.fieldLink RX8 73 "LineCasterModel" "lanes" "[I", Cond.fieldLink RX8 76 "LineCasterModel" "sizes" "[I", Cond.methodLink RX8 197 yX8_turnedBy, Cond.instanceMethod yX8_turnedBy, Cond.selects RX8 yX8_turnedBy yX8_turnedBy, Cond.code yX8_turnedBy cX8_turnedBy 6 (some .int), Cond.fieldLink RX8 67 "LineCasterModel" "dues" "[I", Cond.methodLink RX8 193 yX8_lays, Cond.instanceMethod yX8_lays, Cond.selects RX8 yX8_lays yX8_lays, Cond.code yX8_lays cX8_lays 4 none, Cond.methodLink RX8 179 yX8_reachOf, Cond.instanceMethod yX8_reachOf, Cond.selects RX8 yX8_reachOf yX8_reachOf, Cond.code yX8_reachOf cX8_reachOf 2 (some .int), Cond.fieldLink RX8 19 "LineCasterModel" "reaches" "[I"]
def wsX8_waits_r1 : List Cond := [Cond.fieldLink RX8 64 "LineCasterModel" "keys" "[I", Cond.methodLink RX8 186 yX8_isRow, Cond.static yX8_isRow, Cond.initialized RX8, Cond.code yX8_isRow cX8_isRow 4 (some .boolean), Cond.constantLong RX8 182 (24), Cond.constantLong RX8 184 (30), Cond.methodLink RX8 101 yX8_isSheet, Cond.static yX8_isSheet, Cond.code yX8_isSheet cX8_isSheet 1 (some .boolean), Cond.constantLong RX8 111 (3), Cond.methodLink RX8 87 yX8_in, Cond.static yX8_in, Cond.code yX8_in cX8_in 6 (some .boolean), Cond.methodLink RX8 104 yX8_isLane, Cond.static yX8_isLane, Cond.code yX8_isLane cX8_isLane 1 (some .boolean), Cond.constantLong RX8 133 (2), Cond.methodLink RX8 190 yX8_takes, Cond.instanceMethod yX8_takes, Cond.selects RX8 yX8_takes yX8_takes, Cond.code yX8_takes cX8_takes 7 (some .int), Cond.fieldLink RX8 79 "LineCasterModel" "items" "[I", Cond.constantLong RX8 117 (12)]
def wsX8_waits_r2 : List Cond := [Cond.methodLink RX8 107 yX8_finds, Cond.instanceMethod yX8_finds, Cond.selects RX8 yX8_finds yX8_finds, Cond.code yX8_finds cX8_finds 5 (some .int), Cond.fieldLink RX8 73 "LineCasterModel" "lanes" "[I", Cond.fieldLink RX8 76 "LineCasterModel" "sizes" "[I", Cond.methodLink RX8 179 yX8_reachOf, Cond.instanceMethod yX8_reachOf, Cond.selects RX8 yX8_reachOf yX8_reachOf, Cond.code yX8_reachOf cX8_reachOf 2 (some .int), Cond.fieldLink RX8 19 "LineCasterModel" "reaches" "[I"]
def wsX8_gap_r1 : List Cond := [Cond.methodLink RX8 186 yX8_isRow, Cond.static yX8_isRow, Cond.initialized RX8, Cond.code yX8_isRow cX8_isRow 4 (some .boolean), Cond.constantLong RX8 182 (24), Cond.constantLong RX8 184 (30), Cond.methodLink RX8 101 yX8_isSheet, Cond.static yX8_isSheet, Cond.code yX8_isSheet cX8_isSheet 1 (some .boolean), Cond.constantLong RX8 111 (3), Cond.methodLink RX8 87 yX8_in, Cond.static yX8_in, Cond.code yX8_in cX8_in 6 (some .boolean), Cond.methodLink RX8 104 yX8_isLane, Cond.static yX8_isLane, Cond.code yX8_isLane cX8_isLane 1 (some .boolean), Cond.constantLong RX8 133 (2), Cond.methodLink RX8 190 yX8_takes, Cond.instanceMethod yX8_takes, Cond.selects RX8 yX8_takes yX8_takes, Cond.code yX8_takes cX8_takes 7 (some .int), Cond.fieldLink RX8 64 "LineCasterModel" "keys" "[I", Cond.fieldLink RX8 79 "LineCasterModel" "items" "[I", Cond.constantLong RX8 117 (12)]
def wsX8_gap_r2 : List Cond := [Cond.methodLink RX8 107 yX8_finds, Cond.instanceMethod yX8_finds, Cond.selects RX8 yX8_finds yX8_finds, Cond.code yX8_finds cX8_finds 5 (some .int), Cond.fieldLink RX8 73 "LineCasterModel" "lanes" "[I", Cond.fieldLink RX8 76 "LineCasterModel" "sizes" "[I", Cond.methodLink RX8 197 yX8_turnedBy, Cond.instanceMethod yX8_turnedBy, Cond.selects RX8 yX8_turnedBy yX8_turnedBy, Cond.code yX8_turnedBy cX8_turnedBy 6 (some .int), Cond.fieldLink RX8 67 "LineCasterModel" "dues" "[I", Cond.methodLink RX8 193 yX8_lays, Cond.instanceMethod yX8_lays, Cond.selects RX8 yX8_lays yX8_lays, Cond.code yX8_lays cX8_lays 4 none, Cond.methodLink RX8 179 yX8_reachOf, Cond.instanceMethod yX8_reachOf, Cond.selects RX8 yX8_reachOf yX8_reachOf, Cond.code yX8_reachOf cX8_reachOf 2 (some .int), Cond.fieldLink RX8 19 "LineCasterModel" "reaches" "[I"]
def wsX8_plays_r1 : List Cond := [Cond.constantLong RX8 184 (30), Cond.fieldLink RX8 208 "LineCasterModel" "taped" "I", Cond.fieldLink RX8 70 "LineCasterModel" "tape" "[I", Cond.constantLong RX8 211 (97), Cond.constantLong RX8 213 (108), Cond.fieldLink RX8 138 "LineCasterModel" "now" "I", Cond.constant RX8 159 (99999), Cond.methodLink RX8 87 yX8_in, Cond.static yX8_in, Cond.initialized RX8, Cond.code yX8_in cX8_in 6 (some .boolean), Cond.methodLink RX8 160 yX8_tick, Cond.instanceMethod yX8_tick, Cond.selects RX8 yX8_tick yX8_tick, Cond.code yX8_tick cX8_tick 4 none, Cond.fieldLink RX8 135 "LineCasterModel" "falling" "I", Cond.fieldLink RX8 46 "LineCasterModel" "fallDue" "[I", Cond.fieldLink RX8 40 "LineCasterModel" "line" "[I", Cond.fieldLink RX8 141 "LineCasterModel" "came" "I", Cond.fieldLink RX8 43 "LineCasterModel" "fallWhat" "[I", Cond.fieldLink RX8 151 "LineCasterModel" "carried" "I", Cond.fieldLink RX8 55 "LineCasterModel" "barDue" "[I", Cond.fieldLink RX8 49 "LineCasterModel" "barWhat" "[I", Cond.fieldLink RX8 52 "LineCasterModel" "barPlace" "[I"]
def wsX8_plays_r2 : List Cond := [Cond.fieldLink RX8 154 "LineCasterModel" "jammed" "I", Cond.methodLink RX8 126 yX8_lies, Cond.instanceMethod yX8_lies, Cond.selects RX8 yX8_lies yX8_lies, Cond.code yX8_lies cX8_lies 4 (some .boolean), Cond.fieldLink RX8 34 "LineCasterModel" "held" "[I", Cond.fieldLink RX8 31 "LineCasterModel" "wheres" "[I", Cond.fieldLink RX8 37 "LineCasterModel" "rows" "[I", Cond.methodLink RX8 215 yX8_band, Cond.instanceMethod yX8_band, Cond.selects RX8 yX8_band yX8_band, Cond.code yX8_band cX8_band 1 (some .int), Cond.fieldLink RX8 148 "LineCasterModel" "bands" "I", Cond.methodLink RX8 144 yX8_lets, Cond.instanceMethod yX8_lets, Cond.selects RX8 yX8_lets yX8_lets, Cond.code yX8_lets cX8_lets 3 (some .int), Cond.methodLink RX8 218 yX8_key, Cond.instanceMethod yX8_key, Cond.selects RX8 yX8_key yX8_key, Cond.code yX8_key cX8_key 4 (some .int), Cond.fieldLink RX8 19 "LineCasterModel" "reaches" "[I", Cond.methodLink RX8 91 yX8_isTwelve, Cond.static yX8_isTwelve]
def wsX8_plays_r3 : List Cond := [Cond.code yX8_isTwelve cX8_isTwelve 1 (some .boolean), Cond.constantLong RX8 85 (11)]
def wsL_law_r1 : List Cond := [Cond.classLink RL 7 RX7, Cond.instantiable RX7 12, Cond.initialized RX7, Cond.classLink RL 10 RX8, Cond.instantiable RX8 34, Cond.initialized RX8, Cond.constantLong RL 128 (4294967295), Cond.methodLink RL 9 yX7_init, Cond.instanceMethod yX7_init, Cond.code yX7_init cX7_init 2 none, Cond.methodLink RX7 1 objectInit, Cond.instanceMethod objectInit, Cond.code objectInit ⟨#[0xb1]⟩ 1 none, Cond.classLink RX7 7 RX0, Cond.instantiable RX0 2, Cond.initialized RX0, Cond.fieldLink RX7 10 "LineCaster" "bar" "LLineCaster$Bar;", Cond.classLink RX7 16 RX5, Cond.instantiable RX5 6, Cond.initialized RX5, Cond.fieldLink RX7 19 "LineCaster" "stock" "LLineCaster$Stock;", Cond.classLink RX7 23 RX2, Cond.instantiable RX2 6, Cond.initialized RX2]
def wsL_law_r2 : List Cond := [Cond.fieldLink RX7 26 "LineCaster" "composed" "LLineCaster$Line;", Cond.classLink RX7 30 RX1, Cond.instantiable RX1 5, Cond.initialized RX1, Cond.fieldLink RX7 33 "LineCaster" "carriage" "LLineCaster$Carriage;", Cond.classLink RX7 37 RX4, Cond.instantiable RX4 3, Cond.initialized RX4, Cond.fieldLink RX7 40 "LineCaster" "slugs" "LLineCaster$Slugs;", Cond.classLink RX7 44 RX6, Cond.instantiable RX6 2, Cond.initialized RX6, Cond.fieldLink RX7 47 "LineCaster" "tape" "LLineCaster$Tape;", Cond.classLink RX7 51 RX3, Cond.fieldLink RX7 53 "LineCaster" "sheets" "[LLineCaster$Sheet;", Cond.arrayClass .int, Cond.fieldLink RX7 57 "LineCaster" "widths" "[I", Cond.fieldLink RX7 61 "LineCaster" "reaches" "[I", Cond.fieldLink RX7 64 "LineCaster" "settings" "[I", Cond.fieldLink RX7 67 "LineCaster" "rowReaches" "[I", Cond.fieldLink RX7 70 "LineCaster" "now" "I", Cond.instantiable RX3 4, Cond.initialized RX3, Cond.methodLink RX7 9 yX0_init]
def wsL_law_r3 : List Cond := [Cond.instanceMethod yX0_init, Cond.code yX0_init cX0_init 2 none, Cond.methodLink RX0 3 objectInit, Cond.fieldLink RX0 9 "LineCaster$Bar" "teeth" "[I", Cond.fieldLink RX0 15 "LineCaster$Bar" "rails" "[I", Cond.instanceMethod yX5_init, Cond.code yX5_init cX5_init 1 none, Cond.methodLink RX5 3 objectInit, Cond.fieldLink RX5 9 "LineCaster$Stock" "letters" "[I", Cond.fieldLink RX5 15 "LineCaster$Stock" "teeth" "[I", Cond.fieldLink RX5 18 "LineCaster$Stock" "where" "[I", Cond.classLink RX5 21 "[[I", Cond.fieldLink RX5 23 "LineCaster$Stock" "channels" "[[I", Cond.fieldLink RX5 26 "LineCaster$Stock" "held" "[I", Cond.fieldLink RX5 29 "LineCaster$Stock" "moulds" "I", Cond.instanceMethod yX2_init, Cond.code yX2_init cX2_init 1 none, Cond.methodLink RX2 3 objectInit, Cond.fieldLink RX2 9 "LineCaster$Line" "things" "[I", Cond.fieldLink RX2 15 "LineCaster$Line" "fallingThings" "[I", Cond.fieldLink RX2 18 "LineCaster$Line" "dueTicks" "[I", Cond.fieldLink RX2 21 "LineCaster$Line" "come" "I", Cond.fieldLink RX2 25 "LineCaster$Line" "falling" "I", Cond.fieldLink RX2 28 "LineCaster$Line" "bands" "I"]
def wsL_law_r4 : List Cond := [Cond.instanceMethod yX1_init, Cond.code yX1_init cX1_init 1 none, Cond.methodLink RX1 3 objectInit, Cond.fieldLink RX1 9 "LineCaster$Carriage" "hangingMoulds" "[I", Cond.fieldLink RX1 15 "LineCaster$Carriage" "targets" "[I", Cond.fieldLink RX1 18 "LineCaster$Carriage" "dueTicks" "[I", Cond.fieldLink RX1 21 "LineCaster$Carriage" "hanging" "I", Cond.fieldLink RX1 25 "LineCaster$Carriage" "jammed" "I", Cond.instanceMethod yX4_init, Cond.code yX4_init cX4_init 1 none, Cond.methodLink RX4 3 objectInit, Cond.classLink RX4 9 "[[B", Cond.arrayClass .byte, Cond.fieldLink RX4 11 "LineCaster$Slugs" "signs" "[[B", Cond.fieldLink RX4 16 "LineCaster$Slugs" "lengths" "[I", Cond.fieldLink RX4 20 "LineCaster$Slugs" "count" "I", Cond.instanceMethod yX6_init, Cond.code yX6_init cX6_init 1 none, Cond.methodLink RX6 3 objectInit, Cond.fieldLink RX6 9 "LineCaster$Tape" "signs" "[I", Cond.fieldLink RX6 15 "LineCaster$Tape" "length" "I", Cond.instanceMethod yX3_init, Cond.code yX3_init cX3_init 1 none, Cond.methodLink RX3 3 objectInit]
def wsL_law_r5 : List Cond := [Cond.fieldLink RX3 9 "LineCaster$Sheet" "items" "[I", Cond.fieldLink RX3 15 "LineCaster$Sheet" "holdsRow" "Z", Cond.fieldLink RX3 19 "LineCaster$Sheet" "lane" "I", Cond.fieldLink RX3 23 "LineCaster$Sheet" "length" "I", Cond.methodLink RL 12 yX8_init, Cond.instanceMethod yX8_init, Cond.code yX8_init cX8_init 2 none, Cond.methodLink RX8 1 objectInit, Cond.fieldLink RX8 7 "LineCasterModel" "widths" "[I", Cond.fieldLink RX8 13 "LineCasterModel" "teeth" "[I", Cond.fieldLink RX8 16 "LineCasterModel" "railAt" "[I", Cond.fieldLink RX8 19 "LineCasterModel" "reaches" "[I", Cond.fieldLink RX8 22 "LineCasterModel" "sets" "[I", Cond.fieldLink RX8 25 "LineCasterModel" "letters" "[I", Cond.fieldLink RX8 28 "LineCasterModel" "has" "[I", Cond.fieldLink RX8 31 "LineCasterModel" "wheres" "[I", Cond.fieldLink RX8 34 "LineCasterModel" "held" "[I", Cond.fieldLink RX8 37 "LineCasterModel" "rows" "[I", Cond.fieldLink RX8 40 "LineCasterModel" "line" "[I", Cond.fieldLink RX8 43 "LineCasterModel" "fallWhat" "[I", Cond.fieldLink RX8 46 "LineCasterModel" "fallDue" "[I", Cond.fieldLink RX8 49 "LineCasterModel" "barWhat" "[I", Cond.fieldLink RX8 52 "LineCasterModel" "barPlace" "[I", Cond.fieldLink RX8 55 "LineCasterModel" "barDue" "[I"]
def wsL_law_r6 : List Cond := [Cond.fieldLink RX8 58 "LineCasterModel" "slugSize" "[I", Cond.fieldLink RX8 61 "LineCasterModel" "slugBytes" "[I", Cond.fieldLink RX8 64 "LineCasterModel" "keys" "[I", Cond.fieldLink RX8 67 "LineCasterModel" "dues" "[I", Cond.fieldLink RX8 70 "LineCasterModel" "tape" "[I", Cond.fieldLink RX8 73 "LineCasterModel" "lanes" "[I", Cond.fieldLink RX8 76 "LineCasterModel" "sizes" "[I", Cond.fieldLink RX8 79 "LineCasterModel" "items" "[I", Cond.fieldLink RX8 82 "LineCasterModel" "moved" "[I", Cond.methodLink RL 13 yX7_letter, Cond.instanceMethod yX7_letter, Cond.selects RX7 yX7_letter yX7_letter, Cond.code yX7_letter cX7_letter 4 (some .int), Cond.fieldLink RX7 83 "LineCaster$Bar" "teeth" "[I", Cond.methodLink RX7 75 yX7_isLetter, Cond.static yX7_isLetter, Cond.code yX7_isLetter cX7_isLetter 1 (some .boolean), Cond.methodLink RX7 79 yX7_exchange, Cond.static yX7_exchange, Cond.code yX7_exchange cX7_exchange 4 (some .int), Cond.methodLink RL 17 yX8_letter, Cond.instanceMethod yX8_letter, Cond.selects RX8 yX8_letter yX8_letter, Cond.code yX8_letter cX8_letter 5 (some .int)]
def wsL_law_r7 : List Cond := [Cond.constantLong RX8 95 (40), Cond.constantLong RX8 97 (127), Cond.methodLink RX8 91 yX8_isTwelve, Cond.static yX8_isTwelve, Cond.code yX8_isTwelve cX8_isTwelve 1 (some .boolean), Cond.constantLong RX8 85 (11), Cond.methodLink RX8 87 yX8_in, Cond.static yX8_in, Cond.code yX8_in cX8_in 6 (some .boolean), Cond.methodLink RL 18 yX7_place, Cond.instanceMethod yX7_place, Cond.selects RX7 yX7_place yX7_place, Cond.code yX7_place cX7_place 4 (some .int), Cond.fieldLink RX7 92 "LineCaster$Bar" "rails" "[I", Cond.methodLink RX7 86 yX7_isPlace, Cond.static yX7_isPlace, Cond.code yX7_isPlace cX7_isPlace 1 (some .boolean), Cond.methodLink RX7 89 yX7_isTeeth, Cond.static yX7_isTeeth, Cond.code yX7_isTeeth cX7_isTeeth 1 (some .boolean), Cond.methodLink RL 21 yX8_place, Cond.instanceMethod yX8_place, Cond.selects RX8 yX8_place yX8_place, Cond.code yX8_place cX8_place 5 (some .int)]
def wsL_law_r8 : List Cond := [Cond.constantLong RX8 99 (20), Cond.methodLink RL 22 yX7_rails, Cond.instanceMethod yX7_rails, Cond.selects RX7 yX7_rails yX7_rails, Cond.code yX7_rails cX7_rails 7 (some .int), Cond.fieldLink RX7 99 "LineCaster$Sheet" "items" "[I", Cond.methodLink RX7 95 yX7_sheetFault, Cond.instanceMethod yX7_sheetFault, Cond.selects RX7 yX7_sheetFault yX7_sheetFault, Cond.code yX7_sheetFault cX7_sheetFault 6 (some .int), Cond.fieldLink RX7 256 "LineCaster$Sheet" "holdsRow" "Z", Cond.fieldLink RX7 264 "LineCaster$Sheet" "lane" "I", Cond.methodLink RX7 247 yX7_isSheet, Cond.static yX7_isSheet, Cond.code yX7_isSheet cX7_isSheet 1 (some .boolean), Cond.methodLink RX7 250 yX7_isLane, Cond.static yX7_isLane, Cond.code yX7_isLane cX7_isLane 1 (some .boolean), Cond.methodLink RX7 267 yX3_spans, Cond.instanceMethod yX3_spans, Cond.selects RX3 yX3_spans yX3_spans, Cond.code yX3_spans cX3_spans 3 (some .boolean), Cond.methodLink RL 25 yX8_rails, Cond.instanceMethod yX8_rails]
def wsL_law_r9 : List Cond := [Cond.selects RX8 yX8_rails yX8_rails, Cond.code yX8_rails cX8_rails 6 (some .int), Cond.methodLink RX8 101 yX8_isSheet, Cond.static yX8_isSheet, Cond.code yX8_isSheet cX8_isSheet 1 (some .boolean), Cond.constantLong RX8 111 (3), Cond.methodLink RX8 104 yX8_isLane, Cond.static yX8_isLane, Cond.code yX8_isLane cX8_isLane 1 (some .boolean), Cond.constantLong RX8 133 (2), Cond.methodLink RX8 107 yX8_finds, Cond.instanceMethod yX8_finds, Cond.selects RX8 yX8_finds yX8_finds, Cond.code yX8_finds cX8_finds 5 (some .int), Cond.methodLink RL 26 yX7_set, Cond.instanceMethod yX7_set, Cond.selects RX7 yX7_set yX7_set, Cond.code yX7_set cX7_set 3 (some .int), Cond.methodLink RX7 102 yX7_settingFits, Cond.instanceMethod yX7_settingFits, Cond.selects RX7 yX7_settingFits yX7_settingFits, Cond.code yX7_settingFits cX7_settingFits 3 (some .boolean), Cond.methodLink RL 30 yX8_set, Cond.instanceMethod yX8_set]
def wsL_law_r10 : List Cond := [Cond.selects RX8 yX8_set yX8_set, Cond.code yX8_set cX8_set 6 (some .int), Cond.methodLink RL 31 yX7_falls, Cond.instanceMethod yX7_falls, Cond.selects RX7 yX7_falls yX7_falls, Cond.code yX7_falls cX7_falls 2 (some .int), Cond.methodLink RX7 106 yX0_fallOf, Cond.instanceMethod yX0_fallOf, Cond.selects RX0 yX0_fallOf yX0_fallOf, Cond.code yX0_fallOf cX0_fallOf 3 (some .int), Cond.methodLink RL 35 yX8_falls, Cond.instanceMethod yX8_falls, Cond.selects RX8 yX8_falls yX8_falls, Cond.code yX8_falls cX8_falls 2 (some .int), Cond.methodLink RX8 113 yX8_fallsAt, Cond.instanceMethod yX8_fallsAt, Cond.selects RX8 yX8_fallsAt yX8_fallsAt, Cond.code yX8_fallsAt cX8_fallsAt 3 (some .int), Cond.methodLink RL 36 yX7_astray, Cond.instanceMethod yX7_astray, Cond.selects RX7 yX7_astray yX7_astray, Cond.code yX7_astray cX7_astray 1 (some .int), Cond.methodLink RX7 110 yX0_firstAstray, Cond.instanceMethod yX0_firstAstray]
def wsL_law_r11 : List Cond := [Cond.selects RX0 yX0_firstAstray yX0_firstAstray, Cond.code yX0_firstAstray cX0_firstAstray 2 (some .int), Cond.methodLink RX0 18 yX0_fallOf, Cond.methodLink RL 40 yX8_astray, Cond.instanceMethod yX8_astray, Cond.selects RX8 yX8_astray yX8_astray, Cond.code yX8_astray cX8_astray 2 (some .int), Cond.methodLink RL 41 yX7_order, Cond.instanceMethod yX7_order, Cond.selects RX7 yX7_order yX7_order, Cond.code yX7_order cX7_order 2 (some .int), Cond.methodLink RX7 114 yX0_letterInOrder, Cond.instanceMethod yX0_letterInOrder, Cond.selects RX0 yX0_letterInOrder yX0_letterInOrder, Cond.code yX0_letterInOrder cX0_letterInOrder 4 (some .int), Cond.methodLink RX0 27 yX0_hasTwins, Cond.instanceMethod yX0_hasTwins, Cond.selects RX0 yX0_hasTwins yX0_hasTwins, Cond.code yX0_hasTwins cX0_hasTwins 3 (some .boolean), Cond.methodLink RX0 31 yX0_leastReady, Cond.instanceMethod yX0_leastReady, Cond.selects RX0 yX0_leastReady yX0_leastReady, Cond.code yX0_leastReady cX0_leastReady 3 (some .int), Cond.methodLink RX0 34 yX0_isReady]
def wsL_law_r12 : List Cond := [Cond.instanceMethod yX0_isReady, Cond.selects RX0 yX0_isReady yX0_isReady, Cond.code yX0_isReady cX0_isReady 5 (some .boolean), Cond.methodLink RL 44 yX8_order, Cond.instanceMethod yX8_order, Cond.selects RX8 yX8_order yX8_order, Cond.code yX8_order cX8_order 8 (some .int), Cond.methodLink RL 45 yX7_lost, Cond.instanceMethod yX7_lost, Cond.selects RX7 yX7_lost yX7_lost, Cond.code yX7_lost cX7_lost 3 (some .int), Cond.methodLink RX7 117 yX0_fewestLost, Cond.instanceMethod yX0_fewestLost, Cond.selects RX0 yX0_fewestLost yX0_fewestLost, Cond.code yX0_fewestLost cX0_fewestLost 7 (some .int), Cond.methodLink RX0 22 yJ6_bitCount_0f7a4, Cond.static yJ6_bitCount_0f7a4, Cond.initialized RJ6, Cond.code yJ6_bitCount_0f7a4 cJ6_bitCount_0f7a4 1 (some .int), Cond.constant RJ6 265 (1431655765), Cond.constant RJ6 266 (858993459), Cond.constant RJ6 267 (252645135), Cond.methodLink RL 48 yX8_lost, Cond.instanceMethod yX8_lost]
def wsL_law_r13 : List Cond := [Cond.selects RX8 yX8_lost yX8_lost, Cond.code yX8_lost cX8_lost 6 (some .int), Cond.constantLong RX8 117 (12), Cond.methodLink RX8 119 yX8_size, Cond.static yX8_size, Cond.code yX8_size cX8_size 3 (some .int), Cond.methodLink RL 49 yX7_mould, Cond.instanceMethod yX7_mould, Cond.selects RX7 yX7_mould yX7_mould, Cond.code yX7_mould cX7_mould 4 (some .int), Cond.methodLink RX7 121 yX5_newMould, Cond.instanceMethod yX5_newMould, Cond.selects RX5 yX5_newMould yX5_newMould, Cond.code yX5_newMould cX5_newMould 4 (some .int), Cond.methodLink RX5 33 yX5_lay, Cond.instanceMethod yX5_lay, Cond.selects RX5 yX5_lay yX5_lay, Cond.code yX5_lay cX5_lay 3 (some .boolean), Cond.methodLink RL 52 yX8_mould, Cond.instanceMethod yX8_mould, Cond.selects RX8 yX8_mould yX8_mould, Cond.code yX8_mould cX8_mould 4 (some .int), Cond.fieldLink RX8 122 "LineCasterModel" "moulds" "I", Cond.methodLink RX8 126 yX8_lies]
def wsL_law_r14 : List Cond := [Cond.instanceMethod yX8_lies, Cond.selects RX8 yX8_lies yX8_lies, Cond.code yX8_lies cX8_lies 4 (some .boolean), Cond.methodLink RL 53 yX7_told, Cond.instanceMethod yX7_told, Cond.selects RX7 yX7_told yX7_told, Cond.code yX7_told cX7_told 3 (some .int), Cond.fieldLink RX7 127 "LineCaster$Stock" "letters" "[I", Cond.fieldLink RX7 130 "LineCaster$Stock" "teeth" "[I", Cond.fieldLink RX7 131 "LineCaster$Stock" "where" "[I", Cond.methodLink RX7 124 yX5_knows, Cond.instanceMethod yX5_knows, Cond.selects RX5 yX5_knows yX5_knows, Cond.code yX5_knows cX5_knows 2 (some .boolean), Cond.methodLink RL 56 yX8_told, Cond.instanceMethod yX8_told, Cond.selects RX8 yX8_told yX8_told, Cond.code yX8_told cX8_told 3 (some .int), Cond.methodLink RX8 130 yX8_isMould, Cond.instanceMethod yX8_isMould, Cond.selects RX8 yX8_isMould yX8_isMould, Cond.code yX8_isMould cX8_isMould 2 (some .boolean), Cond.methodLink RL 57 yX7_wear, Cond.instanceMethod yX7_wear]
def wsL_law_r15 : List Cond := [Cond.selects RX7 yX7_wear yX7_wear, Cond.code yX7_wear cX7_wear 3 (some .int), Cond.methodLink RL 60 yX8_wear, Cond.instanceMethod yX8_wear, Cond.selects RX8 yX8_wear yX8_wear, Cond.code yX8_wear cX8_wear 3 (some .int), Cond.methodLink RL 61 yX7_home, Cond.instanceMethod yX7_home, Cond.selects RX7 yX7_home yX7_home, Cond.code yX7_home cX7_home 3 (some .int), Cond.fieldLink RX7 137 "LineCaster$Stock" "held" "[I", Cond.methodLink RX7 134 yX5_lay, Cond.methodLink RL 64 yX8_home, Cond.instanceMethod yX8_home, Cond.selects RX8 yX8_home yX8_home, Cond.code yX8_home cX8_home 3 (some .int), Cond.methodLink RL 65 yX7_channel, Cond.instanceMethod yX7_channel, Cond.selects RX7 yX7_channel yX7_channel, Cond.code yX7_channel cX7_channel 3 (some .int), Cond.fieldLink RX7 140 "LineCaster$Stock" "channels" "[[I", Cond.methodLink RL 68 yX8_channel, Cond.instanceMethod yX8_channel, Cond.selects RX8 yX8_channel yX8_channel]
def wsL_law_r16 : List Cond := [Cond.code yX8_channel cX8_channel 3 (some .int), Cond.methodLink RL 69 yX7_key, Cond.instanceMethod yX7_key, Cond.selects RX7 yX7_key yX7_key, Cond.code yX7_key cX7_key 3 (some .int), Cond.methodLink RX7 144 yX2_isFull, Cond.instanceMethod yX2_isFull, Cond.selects RX2 yX2_isFull yX2_isFull, Cond.code yX2_isFull cX2_isFull 1 (some .boolean), Cond.methodLink RX7 148 yX5_takeFirst, Cond.instanceMethod yX5_takeFirst, Cond.selects RX5 yX5_takeFirst yX5_takeFirst, Cond.code yX5_takeFirst cX5_takeFirst 4 (some .int), Cond.methodLink RX5 37 arraycopyName, Cond.native arraycopyName, Cond.static arraycopyName, Cond.initialized "java/lang/System", Cond.methodLink RX7 151 yX2_letGo, Cond.instanceMethod yX2_letGo, Cond.selects RX2 yX2_letGo yX2_letGo, Cond.code yX2_letGo cX2_letGo 3 none, Cond.methodLink RX2 31 yX2_isFull, Cond.methodLink RL 72 yX8_key, Cond.instanceMethod yX8_key]
def wsL_law_r17 : List Cond := [Cond.selects RX8 yX8_key yX8_key, Cond.code yX8_key cX8_key 4 (some .int), Cond.fieldLink RX8 141 "LineCasterModel" "came" "I", Cond.fieldLink RX8 135 "LineCasterModel" "falling" "I", Cond.methodLink RX8 144 yX8_lets, Cond.instanceMethod yX8_lets, Cond.selects RX8 yX8_lets yX8_lets, Cond.code yX8_lets cX8_lets 3 (some .int), Cond.fieldLink RX8 138 "LineCasterModel" "now" "I", Cond.methodLink RL 73 yX7_band, Cond.instanceMethod yX7_band, Cond.selects RX7 yX7_band yX7_band, Cond.code yX7_band cX7_band 2 (some .int), Cond.fieldLink RX7 155 "LineCaster$Line" "bands" "I", Cond.methodLink RL 76 yX8_band, Cond.instanceMethod yX8_band, Cond.selects RX8 yX8_band yX8_band, Cond.code yX8_band cX8_band 1 (some .int), Cond.fieldLink RX8 148 "LineCasterModel" "bands" "I", Cond.methodLink RL 77 yX7_ticks, Cond.instanceMethod yX7_ticks, Cond.selects RX7 yX7_ticks yX7_ticks, Cond.code yX7_ticks cX7_ticks 2 (some .int), Cond.constant RX7 158 (99999)]
def wsL_law_r18 : List Cond := [Cond.methodLink RX7 159 yX7_goOn, Cond.instanceMethod yX7_goOn, Cond.selects RX7 yX7_goOn yX7_goOn, Cond.code yX7_goOn cX7_goOn 3 none, Cond.methodLink RX7 276 yX2_takeDue, Cond.instanceMethod yX2_takeDue, Cond.selects RX2 yX2_takeDue yX2_takeDue, Cond.code yX2_takeDue cX2_takeDue 4 none, Cond.methodLink RX7 279 yX1_dropDue, Cond.instanceMethod yX1_dropDue, Cond.selects RX1 yX1_dropDue yX1_dropDue, Cond.code yX1_dropDue cX1_dropDue 5 none, Cond.methodLink RX1 28 yX1_letFall, Cond.instanceMethod yX1_letFall, Cond.selects RX1 yX1_letFall yX1_letFall, Cond.code yX1_letFall cX1_letFall 4 none, Cond.fieldLink RX1 32 "LineCaster$Stock" "where" "[I", Cond.methodLink RX1 37 yX5_lay, Cond.methodLink RL 80 yX8_ticks, Cond.instanceMethod yX8_ticks, Cond.selects RX8 yX8_ticks yX8_ticks, Cond.code yX8_ticks cX8_ticks 3 (some .int), Cond.constantLong RX8 157 (300), Cond.constant RX8 159 (99999)]
def wsL_law_r19 : List Cond := [Cond.methodLink RX8 160 yX8_tick, Cond.instanceMethod yX8_tick, Cond.selects RX8 yX8_tick yX8_tick, Cond.code yX8_tick cX8_tick 4 none, Cond.fieldLink RX8 151 "LineCasterModel" "carried" "I", Cond.fieldLink RX8 154 "LineCasterModel" "jammed" "I", Cond.methodLink RL 81 yX7_line, Cond.instanceMethod yX7_line, Cond.selects RX7 yX7_line yX7_line, Cond.code yX7_line cX7_line 2 (some .int), Cond.fieldLink RX7 163 "LineCaster$Line" "come" "I", Cond.fieldLink RX7 166 "LineCaster$Line" "things" "[I", Cond.methodLink RL 84 yX8_line, Cond.instanceMethod yX8_line, Cond.selects RX8 yX8_line yX8_line, Cond.code yX8_line cX8_line 2 (some .int), Cond.methodLink RL 85 yX7_state, Cond.instanceMethod yX7_state, Cond.selects RX7 yX7_state yX7_state, Cond.code yX7_state cX7_state 1 (some .int), Cond.methodLink RX7 169 yX7_tightness, Cond.instanceMethod yX7_tightness, Cond.selects RX7 yX7_tightness yX7_tightness, Cond.code yX7_tightness cX7_tightness 3 (some .int)]
def wsL_law_r20 : List Cond := [Cond.fieldLink RX7 188 "LineCaster$Line" "falling" "I", Cond.methodLink RX7 175 yX7_composedWidth, Cond.instanceMethod yX7_composedWidth, Cond.selects RX7 yX7_composedWidth yX7_composedWidth, Cond.code yX7_composedWidth cX7_composedWidth 3 (some .int), Cond.methodLink RX7 172 yX2_bandsCome, Cond.instanceMethod yX2_bandsCome, Cond.selects RX2 yX2_bandsCome yX2_bandsCome, Cond.code yX2_bandsCome cX2_bandsCome 3 (some .int), Cond.methodLink RL 88 yX8_state, Cond.instanceMethod yX8_state, Cond.selects RX8 yX8_state yX8_state, Cond.code yX8_state cX8_state 1 (some .int), Cond.methodLink RX8 163 yX8_widthOf, Cond.instanceMethod yX8_widthOf, Cond.selects RX8 yX8_widthOf yX8_widthOf, Cond.code yX8_widthOf cX8_widthOf 3 (some .int), Cond.methodLink RX8 167 yX8_bandMany, Cond.instanceMethod yX8_bandMany, Cond.selects RX8 yX8_bandMany yX8_bandMany, Cond.code yX8_bandMany cX8_bandMany 3 (some .int), Cond.methodLink RX8 170 yX8_tightness, Cond.instanceMethod yX8_tightness, Cond.selects RX8 yX8_tightness yX8_tightness]
def wsL_law_r21 : List Cond := [Cond.code yX8_tightness cX8_tightness 3 (some .int), Cond.methodLink RL 89 yX7_thick, Cond.instanceMethod yX7_thick, Cond.selects RX7 yX7_thick yX7_thick, Cond.code yX7_thick cX7_thick 5 (some .int), Cond.methodLink RL 92 yX8_thick, Cond.instanceMethod yX8_thick, Cond.selects RX8 yX8_thick yX8_thick, Cond.code yX8_thick cX8_thick 4 (some .int), Cond.methodLink RL 93 yX7_cast, Cond.instanceMethod yX7_cast, Cond.selects RX7 yX7_cast yX7_cast, Cond.code yX7_cast cX7_cast 2 (some .int), Cond.fieldLink RX7 185 "LineCaster$Slugs" "count" "I", Cond.methodLink RX7 178 yX4_isFull, Cond.instanceMethod yX4_isFull, Cond.selects RX4 yX4_isFull yX4_isFull, Cond.code yX4_isFull cX4_isFull 1 (some .boolean), Cond.methodLink RX7 179 yX7_castSlug, Cond.instanceMethod yX7_castSlug, Cond.selects RX7 yX7_castSlug yX7_castSlug, Cond.code yX7_castSlug cX7_castSlug 4 none, Cond.methodLink RX7 283 yX4_begin, Cond.instanceMethod yX4_begin]
def wsL_law_r22 : List Cond := [Cond.selects RX4 yX4_begin yX4_begin, Cond.code yX4_begin cX4_begin 1 none, Cond.methodLink RX4 24 yX4_isFull, Cond.methodLink RX7 286 yX4_append, Cond.instanceMethod yX4_append, Cond.selects RX4 yX4_append yX4_append, Cond.code yX4_append cX4_append 3 none, Cond.methodLink RX7 287 yX7_hangOnBar, Cond.instanceMethod yX7_hangOnBar, Cond.selects RX7 yX7_hangOnBar yX7_hangOnBar, Cond.code yX7_hangOnBar cX7_hangOnBar 4 none, Cond.methodLink RX7 290 yX1_hang, Cond.instanceMethod yX1_hang, Cond.selects RX1 yX1_hang yX1_hang, Cond.code yX1_hang cX1_hang 4 none, Cond.methodLink RX7 182 yX2_empty, Cond.instanceMethod yX2_empty, Cond.selects RX2 yX2_empty yX2_empty, Cond.code yX2_empty cX2_empty 1 none, Cond.methodLink RL 96 yX8_cast, Cond.instanceMethod yX8_cast, Cond.selects RX8 yX8_cast yX8_cast, Cond.code yX8_cast cX8_cast 4 (some .int), Cond.fieldLink RX8 173 "LineCasterModel" "slugs" "I"]
def wsL_law_r23 : List Cond := [Cond.methodLink RL 97 yX7_clear, Cond.instanceMethod yX7_clear, Cond.selects RX7 yX7_clear yX7_clear, Cond.code yX7_clear cX7_clear 3 (some .int), Cond.methodLink RL 100 yX8_clear, Cond.instanceMethod yX8_clear, Cond.selects RX8 yX8_clear yX8_clear, Cond.code yX8_clear cX8_clear 3 (some .int), Cond.methodLink RL 101 yX7_slug, Cond.instanceMethod yX7_slug, Cond.selects RX7 yX7_slug yX7_slug, Cond.code yX7_slug cX7_slug 3 (some .int), Cond.fieldLink RX7 191 "LineCaster$Slugs" "lengths" "[I", Cond.fieldLink RX7 194 "LineCaster$Slugs" "signs" "[[B", Cond.methodLink RL 104 yX8_slug, Cond.instanceMethod yX8_slug, Cond.selects RX8 yX8_slug yX8_slug, Cond.code yX8_slug cX8_slug 3 (some .int), Cond.methodLink RL 105 yX7_count, Cond.instanceMethod yX7_count, Cond.selects RX7 yX7_count yX7_count, Cond.code yX7_count cX7_count 2 (some .int), Cond.fieldLink RX7 198 "LineCaster$Stock" "moulds" "I", Cond.fieldLink RX7 204 "LineCaster$Carriage" "jammed" "I"]
def wsL_law_r24 : List Cond := [Cond.methodLink RX7 201 yX5_countBetween, Cond.instanceMethod yX5_countBetween, Cond.selects RX5 yX5_countBetween yX5_countBetween, Cond.code yX5_countBetween cX5_countBetween 5 (some .int), Cond.methodLink RL 108 yX8_count, Cond.instanceMethod yX8_count, Cond.selects RX8 yX8_count yX8_count, Cond.code yX8_count cX8_count 2 (some .int), Cond.methodLink RX8 176 yX8_whereMany, Cond.instanceMethod yX8_whereMany, Cond.selects RX8 yX8_whereMany yX8_whereMany, Cond.code yX8_whereMany cX8_whereMany 5 (some .int), Cond.methodLink RL 109 yX7_comes, Cond.instanceMethod yX7_comes, Cond.selects RX7 yX7_comes yX7_comes, Cond.code yX7_comes cX7_comes 8 (some .int), Cond.methodLink RX7 207 yX7_isGap, Cond.static yX7_isGap, Cond.code yX7_isGap cX7_isGap 1 (some .boolean), Cond.methodLink RX7 210 yX7_readRow, Cond.instanceMethod yX7_readRow, Cond.selects RX7 yX7_readRow yX7_readRow, Cond.code yX7_readRow cX7_readRow 9 (some .int), Cond.methodLink RX7 213 yX7_keyThatComes]
def wsL_law_r25 : List Cond := [Cond.instanceMethod yX7_keyThatComes, Cond.selects RX7 yX7_keyThatComes yX7_keyThatComes, Cond.code yX7_keyThatComes cX7_keyThatComes 5 (some .int), Cond.methodLink RX7 298 yX7_comersAheadOf, Cond.instanceMethod yX7_comersAheadOf, Cond.selects RX7 yX7_comersAheadOf yX7_comersAheadOf, Cond.code yX7_comersAheadOf cX7_comersAheadOf 7 (some .int), Cond.methodLink RX7 294 yX7_comesAhead, Cond.instanceMethod yX7_comesAhead, Cond.selects RX7 yX7_comesAhead yX7_comesAhead, Cond.code yX7_comesAhead cX7_comesAhead 4 (some .boolean), Cond.methodLink RL 113 yX8_comes, Cond.instanceMethod yX8_comes, Cond.selects RX8 yX8_comes yX8_comes, Cond.code yX8_comes cX8_comes 12 (some .int), Cond.methodLink RX8 186 yX8_isRow, Cond.static yX8_isRow, Cond.code yX8_isRow cX8_isRow 4 (some .boolean), Cond.constantLong RX8 182 (24), Cond.constantLong RX8 184 (30), Cond.methodLink RX8 190 yX8_takes, Cond.instanceMethod yX8_takes, Cond.selects RX8 yX8_takes yX8_takes, Cond.code yX8_takes cX8_takes 7 (some .int)]
def wsL_law_r26 : List Cond := [Cond.methodLink RX8 193 yX8_lays, Cond.instanceMethod yX8_lays, Cond.selects RX8 yX8_lays yX8_lays, Cond.code yX8_lays cX8_lays 4 none, Cond.methodLink RX8 179 yX8_reachOf, Cond.instanceMethod yX8_reachOf, Cond.selects RX8 yX8_reachOf yX8_reachOf, Cond.code yX8_reachOf cX8_reachOf 2 (some .int), Cond.methodLink RL 114 yX7_turned, Cond.instanceMethod yX7_turned, Cond.selects RX7 yX7_turned yX7_turned, Cond.code yX7_turned cX7_turned 7 (some .int), Cond.methodLink RX7 217 yX7_turnedPairs, Cond.instanceMethod yX7_turnedPairs, Cond.selects RX7 yX7_turnedPairs yX7_turnedPairs, Cond.code yX7_turnedPairs cX7_turnedPairs 6 (some .int), Cond.methodLink RL 118 yX8_turned, Cond.instanceMethod yX8_turned, Cond.selects RX8 yX8_turned yX8_turned, Cond.code yX8_turned cX8_turned 7 (some .int), Cond.methodLink RX8 197 yX8_turnedBy, Cond.instanceMethod yX8_turnedBy, Cond.selects RX8 yX8_turnedBy yX8_turnedBy, Cond.code yX8_turnedBy cX8_turnedBy 6 (some .int)]
def wsL_law_r27 : List Cond := [Cond.methodLink RL 119 yX7_waits, Cond.instanceMethod yX7_waits, Cond.selects RX7 yX7_waits yX7_waits, Cond.code yX7_waits cX7_waits 8 (some .int), Cond.methodLink RX7 220 Lib.Math.max.name, Cond.static Lib.Math.max.name, Cond.initialized "java/lang/Math", Cond.code Lib.Math.max.name Lib.Math.max.code 2 (some .int), Cond.methodLink RL 123 yX8_waits, Cond.instanceMethod yX8_waits, Cond.selects RX8 yX8_waits yX8_waits, Cond.code yX8_waits cX8_waits 9 (some .int), Cond.methodLink RL 124 yX7_gap, Cond.instanceMethod yX7_gap, Cond.selects RX7 yX7_gap yX7_gap, Cond.code yX7_gap cX7_gap 7 (some .int), Cond.methodLink RL 127 yX8_gap, Cond.instanceMethod yX8_gap, Cond.selects RX8 yX8_gap yX8_gap, Cond.code yX8_gap cX8_gap 7 (some .int), Cond.methodLink RL 130 yX7_type, Cond.instanceMethod yX7_type, Cond.selects RX7 yX7_type yX7_type, Cond.code yX7_type cX7_type 6 (some .int)]
def wsL_law_r28 : List Cond := [Cond.fieldLink RX7 229 "LineCaster$Tape" "length" "I", Cond.methodLink RX7 225 yX7_byteOf, Cond.static yX7_byteOf, Cond.code yX7_byteOf cX7_byteOf 3 (some .int), Cond.methodLink RX7 232 yX6_append, Cond.instanceMethod yX6_append, Cond.selects RX6 yX6_append yX6_append, Cond.code yX6_append cX6_append 2 none, Cond.methodLink RL 134 yX8_type, Cond.instanceMethod yX8_type, Cond.selects RX8 yX8_type yX8_type, Cond.code yX8_type cX8_type 5 (some .int), Cond.constantLong RX8 200 (8), Cond.constantLong RX8 202 (255), Cond.constantLong RX8 204 (32), Cond.constantLong RX8 206 (126), Cond.fieldLink RX8 208 "LineCasterModel" "taped" "I", Cond.methodLink RL 135 yX7_plays, Cond.instanceMethod yX7_plays, Cond.selects RX7 yX7_plays yX7_plays, Cond.code yX7_plays cX7_plays 4 (some .int), Cond.methodLink RX7 235 yX6_firstUnplayable, Cond.instanceMethod yX6_firstUnplayable, Cond.selects RX6 yX6_firstUnplayable yX6_firstUnplayable]
def wsL_law_r29 : List Cond := [Cond.code yX6_firstUnplayable cX6_firstUnplayable 3 (some .int), Cond.methodLink RX7 238 yX7_playTape, Cond.instanceMethod yX7_playTape, Cond.selects RX7 yX7_playTape yX7_playTape, Cond.code yX7_playTape cX7_playTape 6 (some .int), Cond.fieldLink RX7 301 "LineCaster$Tape" "signs" "[I", Cond.methodLink RX7 303 yX7_band, Cond.methodLink RX7 306 yX7_key, Cond.methodLink RL 138 yX8_plays, Cond.instanceMethod yX8_plays, Cond.selects RX8 yX8_plays yX8_plays, Cond.code yX8_plays cX8_plays 6 (some .int), Cond.constantLong RX8 211 (97), Cond.constantLong RX8 213 (108), Cond.methodLink RX8 215 yX8_band, Cond.methodLink RX8 218 yX8_key, Cond.methodLink RL 139 yX7_risk, Cond.instanceMethod yX7_risk, Cond.selects RX7 yX7_risk yX7_risk, Cond.code yX7_risk cX7_risk 2 (some .int), Cond.methodLink RX7 241 yX0_teethAtRisk, Cond.instanceMethod yX0_teethAtRisk, Cond.selects RX0 yX0_teethAtRisk yX0_teethAtRisk, Cond.code yX0_teethAtRisk cX0_teethAtRisk 6 (some .int)]
def wsL_law_r30 : List Cond := [Cond.methodLink RL 142 yX8_risk, Cond.instanceMethod yX8_risk, Cond.selects RX8 yX8_risk yX8_risk, Cond.code yX8_risk cX8_risk 2 (some .int), Cond.methodLink RX8 221 yX8_riskOf, Cond.instanceMethod yX8_riskOf, Cond.selects RX8 yX8_riskOf yX8_riskOf, Cond.code yX8_riskOf cX8_riskOf 5 (some .int), Cond.methodLink RL 143 yX7_better, Cond.instanceMethod yX7_better, Cond.selects RX7 yX7_better yX7_better, Cond.code yX7_better cX7_better 2 (some .int), Cond.methodLink RX7 244 yX0_betterTeeth, Cond.instanceMethod yX0_betterTeeth, Cond.selects RX0 yX0_betterTeeth yX0_betterTeeth, Cond.code yX0_betterTeeth cX0_betterTeeth 8 (some .int), Cond.constant RX0 41 (2147483647), Cond.methodLink RX0 42 yX0_firstAstray, Cond.methodLink RX0 46 yX0_allAtRisk, Cond.instanceMethod yX0_allAtRisk, Cond.selects RX0 yX0_allAtRisk yX0_allAtRisk, Cond.code yX0_allAtRisk cX0_allAtRisk 3 (some .int), Cond.methodLink RX0 38 yX0_teethAtRisk, Cond.methodLink RL 146 yX8_better]
def wsL_law_r31 : List Cond := [Cond.instanceMethod yX8_better, Cond.selects RX8 yX8_better yX8_better, Cond.code yX8_better cX8_better 9 (some .int), Cond.methodLink RX8 224 yX8_astray, Cond.methodLink RL 147 yX7_sheet, Cond.instanceMethod yX7_sheet, Cond.selects RX7 yX7_sheet yX7_sheet, Cond.code yX7_sheet cX7_sheet 4 (some .int), Cond.methodLink RX7 253 yX3_hold, Cond.instanceMethod yX3_hold, Cond.selects RX3 yX3_hold yX3_hold, Cond.code yX3_hold cX3_hold 4 none, Cond.methodLink RL 150 yX8_sheet, Cond.instanceMethod yX8_sheet, Cond.selects RX8 yX8_sheet yX8_sheet, Cond.code yX8_sheet cX8_sheet 5 (some .int), Cond.methodLink RL 151 yX7_drop, Cond.instanceMethod yX7_drop, Cond.selects RX7 yX7_drop yX7_drop, Cond.code yX7_drop cX7_drop 2 (some .int), Cond.fieldLink RX7 260 "LineCaster$Sheet" "length" "I", Cond.methodLink RL 154 yX8_drop, Cond.instanceMethod yX8_drop, Cond.selects RX8 yX8_drop yX8_drop]
def wsL_law_r32 : List Cond := [Cond.code yX8_drop cX8_drop 2 (some .int), Cond.methodLink RL 155 yX7_item, Cond.instanceMethod yX7_item, Cond.selects RX7 yX7_item yX7_item, Cond.code yX7_item cX7_item 6 (some .int), Cond.methodLink RX7 261 yX7_lowestBits, Cond.static yX7_lowestBits, Cond.code yX7_lowestBits cX7_lowestBits 2 (some .int), Cond.methodLink RL 158 yX8_item, Cond.instanceMethod yX8_item, Cond.selects RX8 yX8_item yX8_item, Cond.code yX8_item cX8_item 6 (some .int), Cond.methodLink RL 159 yX7_copy, Cond.instanceMethod yX7_copy, Cond.selects RX7 yX7_copy yX7_copy, Cond.code yX7_copy cX7_copy 8 (some .int), Cond.methodLink RX7 270 arraycopyName, Cond.methodLink RL 162 yX8_copy, Cond.instanceMethod yX8_copy, Cond.selects RX8 yX8_copy yX8_copy, Cond.code yX8_copy cX8_copy 7 (some .int)]
def wsL_law : List Cond := (wsL_law_r1 ++ (wsL_law_r2 ++ (wsL_law_r3 ++ (wsL_law_r4 ++ (wsL_law_r5 ++ (wsL_law_r6 ++ (wsL_law_r7 ++ (wsL_law_r8 ++ (wsL_law_r9 ++ (wsL_law_r10 ++ (wsL_law_r11 ++ (wsL_law_r12 ++ (wsL_law_r13 ++ (wsL_law_r14 ++ (wsL_law_r15 ++ (wsL_law_r16 ++ (wsL_law_r17 ++ (wsL_law_r18 ++ (wsL_law_r19 ++ (wsL_law_r20 ++ (wsL_law_r21 ++ (wsL_law_r22 ++ (wsL_law_r23 ++ (wsL_law_r24 ++ (wsL_law_r25 ++ (wsL_law_r26 ++ (wsL_law_r27 ++ (wsL_law_r28 ++ (wsL_law_r29 ++ (wsL_law_r30 ++ (wsL_law_r31 ++ wsL_law_r32))))))))))))))))))))))))))))))) ++ wsX70 ++ wsX80 ++ wsX00 ++ wsX50 ++ wsX20 ++ wsX10 ++ wsX40 ++ wsX60 ++ wsX30 ++ ([] : List Cond)
set_option maxRecDepth 20000 in
theorem wsL_law_in : ∀ w ∈ wsL_law, w ∈ lw_tbl := fun w h => (goodIn_p wsL_law [50, 53, 58, 74, 108, 137, 160, 182, 198, 621, 257, 260, 263, 729, 732, 736, 267, 270, 273, 742, 277, 281, 284, 287, 291, 747, 750, 754, 759, 295, 299, 763, 303, 307, 767, 771, 311, 315, 775, 320, 324, 328, 332, 336, 779, 340, 344, 347, 783, 787, 354, 358, 362, 791, 795, 366, 370, 799, 803, 374, 807, 378, 811, 383, 815, 387, 391, 395, 402, 819, 823, 407, 827, 411, 416, 420, 424, 428, 831, 837, 433, 841, 437, 441, 445, 449, 845, 849, 853, 857, 453, 861, 457, 461, 465, 469, 474, 478, 482, 486, 865, 490, 869, 494, 873, 498, 502, 877, 881, 506, 509, 513, 517, 521, 525, 885, 888, 894, 898, 902, 529, 533, 906, 910, 537, 540, 914, 544, 918, 548, 551, 555, 922, 559, 563, 567, 930, 573, 577, 938, 942, 581, 585, 591, 946, 596, 600, 951, 604, 955, 608, 611, 959, 615, 963] (by decide +kernel) (by decide +kernel) w h).1
theorem inlX0 : ∀ w ∈ wsX00, w ∈ wsL_law := fun _ h => List.mem_append_left _ (List.mem_append_left _ (List.mem_append_left _ (List.mem_append_left _ (List.mem_append_left _ (List.mem_append_left _ (List.mem_append_left _ (List.mem_append_right _ h)))))))
theorem inX0 : ∀ w ∈ wsX00, w ∈ lw_tbl := fun w h => wsL_law_in w (inlX0 w h)
theorem inlX1 : ∀ w ∈ wsX10, w ∈ wsL_law := fun _ h => List.mem_append_left _ (List.mem_append_left _ (List.mem_append_left _ (List.mem_append_left _ (List.mem_append_right _ h))))
theorem inX1 : ∀ w ∈ wsX10, w ∈ lw_tbl := fun w h => wsL_law_in w (inlX1 w h)
theorem inlX2 : ∀ w ∈ wsX20, w ∈ wsL_law := fun _ h => List.mem_append_left _ (List.mem_append_left _ (List.mem_append_left _ (List.mem_append_left _ (List.mem_append_left _ (List.mem_append_right _ h)))))
theorem inX2 : ∀ w ∈ wsX20, w ∈ lw_tbl := fun w h => wsL_law_in w (inlX2 w h)
theorem inlX3 : ∀ w ∈ wsX30, w ∈ wsL_law := fun _ h => List.mem_append_left _ (List.mem_append_right _ h)
theorem inX3 : ∀ w ∈ wsX30, w ∈ lw_tbl := fun w h => wsL_law_in w (inlX3 w h)
theorem inlX4 : ∀ w ∈ wsX40, w ∈ wsL_law := fun _ h => List.mem_append_left _ (List.mem_append_left _ (List.mem_append_left _ (List.mem_append_right _ h)))
theorem inX4 : ∀ w ∈ wsX40, w ∈ lw_tbl := fun w h => wsL_law_in w (inlX4 w h)
theorem inlX5 : ∀ w ∈ wsX50, w ∈ wsL_law := fun _ h => List.mem_append_left _ (List.mem_append_left _ (List.mem_append_left _ (List.mem_append_left _ (List.mem_append_left _ (List.mem_append_left _ (List.mem_append_right _ h))))))
theorem inX5 : ∀ w ∈ wsX50, w ∈ lw_tbl := fun w h => wsL_law_in w (inlX5 w h)
theorem inlX6 : ∀ w ∈ wsX60, w ∈ wsL_law := fun _ h => List.mem_append_left _ (List.mem_append_left _ (List.mem_append_right _ h))
theorem inX6 : ∀ w ∈ wsX60, w ∈ lw_tbl := fun w h => wsL_law_in w (inlX6 w h)
theorem inlX7 : ∀ w ∈ wsX70, w ∈ wsL_law := fun _ h => List.mem_append_left _ (List.mem_append_left _ (List.mem_append_left _ (List.mem_append_left _ (List.mem_append_left _ (List.mem_append_left _ (List.mem_append_left _ (List.mem_append_left _ (List.mem_append_left _ (List.mem_append_right _ h)))))))))
theorem inX7 : ∀ w ∈ wsX70, w ∈ lw_tbl := fun w h => wsL_law_in w (inlX7 w h)
theorem inlX8 : ∀ w ∈ wsX80, w ∈ wsL_law := fun _ h => List.mem_append_left _ (List.mem_append_left _ (List.mem_append_left _ (List.mem_append_left _ (List.mem_append_left _ (List.mem_append_left _ (List.mem_append_left _ (List.mem_append_left _ (List.mem_append_right _ h))))))))
theorem inX8 : ∀ w ∈ wsX80, w ∈ lw_tbl := fun w h => wsL_law_in w (inlX8 w h)
theorem inJ6 : ∀ w ∈ wsJ60, w ∈ lw_tbl := by decide +kernel
theorem inJ9 : ∀ w ∈ wsJ90, w ∈ lw_tbl := by decide +kernel
theorem inJ10 : ∀ w ∈ wsJ100, w ∈ lw_tbl := by decide +kernel
abbrev vwCl : List vw_C := [(RX0, TX0, 2), (RX1, TX1, 5), (RX2, TX2, 6), (RX3, TX3, 4), (RX4, TX4, 3), (RX5, TX5, 6), (RX6, TX6, 2), (RX7, TX7, 12), (RX8, TX8, 34)]
