/-! The state of a system of fixed cells as numbers: mem k j is slot j of cell k. A layout: how many cells, what cell k is out of its numbers, where it lies, array classes, class table. -/
abbrev la_Mem : Type := Nat → Nat → Int32
abbrev la_Lay : Type := Nat × (Nat → (Nat → Int32) → va_E) × (Nat → Nat) × List (ClassId × FieldType) × va_G
def la_cells (Y : la_Lay) (μ : la_Mem) : va_W := (List.range Y.1).map (fun k => (Y.2.2.1 k, Y.2.1 k (μ k)))
def la_ms (μ : la_Mem) (k j : Nat) (v : Int32) : la_Mem := fun a => if a = k then upd (μ k) j v else μ a
def la_cp (μ : la_Mem) (k0 k1 sp dp n : Nat) : la_Mem := fun a => if a = k1 then va_cpy (μ k0) (μ k1) sp dp n else μ a
def la_ap (Y : la_Lay) : Prop := ∀ i j, i < Y.1 → j < Y.1 → Y.2.2.1 i = Y.2.2.1 j → i = j
def la_A (Y : la_Lay) (sz : Nat) : Nat → Prop := fun q => (∃ k, k < Y.1 ∧ q = Y.2.2.1 k) ∨ sz ≤ q
/-- an index is in its row -/
def la_ix (i : Int32) (n : Nat) : Bool := !(decide (i < 0)) && !(decide (n ≤ i.toNatClampNeg))
def la_isb (v : Int32) : Bool := decide (v = 0) || decide (v = 1)
/-- a row of n from i on lies in a row of N -/
def la_in3 (sp dp n : Int32) (n0 n1 : Nat) : Bool := !(decide (sp < 0)) && !(decide (dp < 0)) && !(decide (n < 0)) && decide (sp.toNatClampNeg + n.toNatClampNeg ≤ n0) && decide (dp.toNatClampNeg + n.toNatClampNeg ≤ n1)
theorem la_ix_in {i : Int32} {n : Nat} (h : la_ix i n = true) : vp_in i n := by
  intro q
  unfold la_ix at h
  rcases q with q | q <;> simp [q] at h
theorem la_ix_lt {i : Int32} {n : Nat} (h : la_ix i n = true) : i.toNatClampNeg < n := by
  unfold la_ix at h
  simp at h
  omega
/-- what is told of a computation that ends well -/
def la_if {α : Type} (b : Bool) (x : Option α) : Option α := bif b then x else none
theorem la_go {α : Type} {b : Bool} {x : Option α} {r : α} (h : la_if b x = some r) : b = true ∧ x = some r := by
  cases b with
  | false => cases h
  | true => exact ⟨rfl, h⟩
def la_st {α β : Type} (a : α) (f : α → β) : β := f a
theorem la_so {α β : Type} {a : α} {f : α → Option β} {r : β} (h : la_st a f = some r) : ∃ x, x = a ∧ f x = some r := ⟨a, rfl, h⟩
theorem la_t {α : Type} {c : Prop} {i : Decidable c} {a b r : α} (hc : c) (h : (@ite α c i a b) = r) : a = r := by rw [if_pos hc] at h; exact h
theorem la_f {α : Type} {c : Prop} {i : Decidable c} {a b r : α} (hc : ¬ c) (h : (@ite α c i a b) = r) : b = r := by rw [if_neg hc] at h; exact h
def la_b0 {γ : Type} (x : Option Unit) (f : Unit → Option γ) : Option γ := x.bind f
theorem la_b0o {γ : Type} {x : Option Unit} {f : Unit → Option γ} {r : γ} (h : la_b0 x f = some r) : x = some () ∧ f () = some r := by
  cases x with
  | none => cases h
  | some a => exact ⟨rfl, h⟩
def la_b2 {α β γ : Type} (x : Option (α × β)) (f : α → β → Option γ) : Option γ := x.bind (fun q => f q.1 q.2)
theorem la_b2o {α β γ : Type} {x : Option (α × β)} {f : α → β → Option γ} {r : γ} (h : la_b2 x f = some r) : ∃ a b, x = some (a, b) ∧ f a b = some r := by
  cases x with
  | none => cases h
  | some a => exact ⟨a.1, a.2, rfl, h⟩
def la_b3 {α β δ γ : Type} (x : Option (α × β × δ)) (f : α → β → δ → Option γ) : Option γ := x.bind (fun q => f q.1 q.2.1 q.2.2)
theorem la_b3o {α β δ γ : Type} {x : Option (α × β × δ)} {f : α → β → δ → Option γ} {r : γ} (h : la_b3 x f = some r) : ∃ a b d, x = some (a, b, d) ∧ f a b d = some r := by
  cases x with
  | none => cases h
  | some a => exact ⟨a.1, a.2.1, a.2.2, rfl, h⟩
def la_x0 {ρ γ : Type} (x : Option (ρ ⊕ Unit)) (g : ρ → Option γ) (f : Unit → Option γ) : Option γ := x.bind (fun q => Sum.elim g f q)
theorem la_x0o {ρ γ : Type} {x : Option (ρ ⊕ Unit)} {g : ρ → Option γ} {f : Unit → Option γ} {r : γ} (h : la_x0 x g f = some r) : (∃ q, x = some (.inl q) ∧ g q = some r) ∨ (x = some (.inr ()) ∧ f () = some r) := by
  cases x with
  | none => cases h
  | some a => cases a with
    | inl q => exact Or.inl ⟨q, rfl, h⟩
    | inr q => exact Or.inr ⟨rfl, h⟩
def la_x1 {ρ α γ : Type} (x : Option (ρ ⊕ α)) (g : ρ → Option γ) (f : α → Option γ) : Option γ := x.bind (fun q => Sum.elim g f q)
theorem la_x1o {ρ α γ : Type} {x : Option (ρ ⊕ α)} {g : ρ → Option γ} {f : α → Option γ} {r : γ} (h : la_x1 x g f = some r) : (∃ q, x = some (.inl q) ∧ g q = some r) ∨ (∃ a, x = some (.inr a) ∧ f a = some r) := by
  cases x with
  | none => cases h
  | some a => cases a with
    | inl q => exact Or.inl ⟨q, rfl, h⟩
    | inr q => exact Or.inr ⟨q, rfl, h⟩
def la_x2 {ρ α β γ : Type} (x : Option (ρ ⊕ (α × β))) (g : ρ → Option γ) (f : α → β → Option γ) : Option γ := x.bind (fun q => Sum.elim g (fun s => f s.1 s.2) q)
theorem la_x2o {ρ α β γ : Type} {x : Option (ρ ⊕ (α × β))} {g : ρ → Option γ} {f : α → β → Option γ} {r : γ} (h : la_x2 x g f = some r) : (∃ q, x = some (.inl q) ∧ g q = some r) ∨ (∃ a b, x = some (.inr (a, b)) ∧ f a b = some r) := by
  cases x with
  | none => cases h
  | some a => cases a with
    | inl q => exact Or.inl ⟨q, rfl, h⟩
    | inr q => exact Or.inr ⟨q.1, q.2, rfl, h⟩
theorem la_rR {μ : la_Mem} {v ex : Int32} {P : Int32 → la_Mem → Prop} (h : some v = some ex) (hret : P ex μ) : P v μ := (Option.some.inj h) ▸ hret
theorem la_rW {μ : la_Mem} {v : Int32} {ex : Int32 × la_Mem} {P : Int32 → la_Mem → Prop} (h : some (v, μ) = some ex) (hret : P ex.1 ex.2) : P v μ := by
  have e := Option.some.inj h
  rw [← e] at hret
  exact hret
theorem la_rV {μ ex : la_Mem} {P : Int32 → la_Mem → Prop} (h : some μ = some ex) (hret : P 0 ex) : P 0 μ := (Option.some.inj h) ▸ hret
theorem la_ms_self {μ : la_Mem} {k j : Nat} {v : Int32} : la_ms μ k j v k = upd (μ k) j v := if_pos rfl
theorem la_ms_ne {μ : la_Mem} {k j b : Nat} {v : Int32} (h : b ≠ k) : la_ms μ k j v b = μ b := if_neg h
theorem la_cp_self {μ : la_Mem} {k0 k1 sp dp n : Nat} : la_cp μ k0 k1 sp dp n k1 = va_cpy (μ k0) (μ k1) sp dp n := if_pos rfl
theorem la_cp_ne {μ : la_Mem} {k0 k1 sp dp n b : Nat} (h : b ≠ k1) : la_cp μ k0 k1 sp dp n b = μ b := if_neg h
theorem la_gw : GoodIn wsL_law wsL_law := goodIn_sub (fun _ h => h) (by decide +kernel)
theorem la_gv {own C : String} {idx : Nat} {y : MethodName} {bytes : ByteArray} {n : Nat} {r : Option FieldType} (h1 : Cond.methodLink own idx y ∈ wsL_law) (h2 : Cond.instanceMethod y ∈ wsL_law) (h3 : Cond.selects C y y ∈ wsL_law) (h4 : Cond.initialized C ∈ wsL_law) (h5 : Cond.code y bytes n r ∈ wsL_law) : GoodIn wsL_law (wsV own idx C y (Cond.code y bytes n r :: wsL_law)) := by
  intro w hw
  have hm : w ∈ wsL_law := by
    simp only [wsV, List.mem_append, List.mem_cons, List.not_mem_nil, or_false] at hw
    rcases hw with (rfl | rfl | rfl | rfl) | rfl | hw <;> assumption
  exact la_gw w hm
theorem la_gs {own : String} {idx : Nat} {y : MethodName} {bytes : ByteArray} {n : Nat} {r : Option FieldType} (h1 : Cond.methodLink own idx y ∈ wsL_law) (h2 : Cond.static y ∈ wsL_law) (h4 : Cond.initialized y.cls ∈ wsL_law) (h5 : Cond.code y bytes n r ∈ wsL_law) : GoodIn wsL_law (va_wsS own idx y (Cond.code y bytes n r :: wsL_law)) := by
  intro w hw
  have hm : w ∈ wsL_law := by
    simp only [va_wsS, List.mem_append, List.mem_cons, List.not_mem_nil, or_false] at hw
    rcases hw with (rfl | rfl | rfl) | rfl | hw <;> assumption
  exact la_gw w hm
theorem la_bd {α β : Type} {x : Option α} {f : α → Option β} {r : β} (h : x.bind f = some r) : ∃ a, x = some a ∧ f a = some r := by
  cases x with
  | none => cases h
  | some a => exact ⟨a, rfl, h⟩
theorem la_get {Y : la_Lay} {μ : la_Mem} {k : Nat} (hk : k < Y.1) : (la_cells Y μ)[k]? = some (Y.2.2.1 k, Y.2.1 k (μ k)) := by
  unfold la_cells
  rw [List.getElem?_map, List.getElem?_range hk]
  rfl
theorem la_got {Y : la_Lay} {μ : la_Mem} {k : Nat} {q : Nat × va_E} (h : (la_cells Y μ)[k]? = some q) : k < Y.1 ∧ q = (Y.2.2.1 k, Y.2.1 k (μ k)) := by
  have hk : k < Y.1 := by
    have h1 := (List.getElem?_eq_some_iff.mp h).1
    unfold la_cells at h1
    rw [List.length_map, List.length_range] at h1
    exact h1
  rw [la_get hk] at h
  exact ⟨hk, (Option.some.inj h).symm⟩
theorem la_put {Y : la_Lay} {μ μ' : la_Mem} {k : Nat} {e : va_E} (hk : k < Y.1) (he : e = Y.2.1 k (μ' k)) (ho : ∀ a, a ≠ k → μ' a = μ a) : (la_cells Y μ).set k (Y.2.2.1 k, e) = la_cells Y μ' := by
  subst he
  apply List.ext_getElem?
  intro i
  have hlen : (la_cells Y μ).length = Y.1 := by unfold la_cells; rw [List.length_map, List.length_range]
  by_cases h : k = i
  · subst h
    rw [List.getElem?_set_self (by rw [hlen]; exact hk), la_get hk]
  · rw [List.getElem?_set_ne h]
    by_cases hi : i < Y.1
    · rw [la_get hi, la_get hi, ho i (fun q => h q.symm)]
    · have e1 : ∀ ν : la_Mem, (la_cells Y ν)[i]? = none := fun ν => by
        apply List.getElem?_eq_none
        unfold la_cells
        rw [List.length_map, List.length_range]
        omega
      rw [e1, e1]
theorem la_D {Y : la_Lay} {μ : la_Mem} (sz : Nat) (h : la_ap Y) : va_D (la_A Y sz) (la_cells Y μ) := by
  refine ⟨fun i j p q hp hq e => ?_, fun k q hk => ?_⟩
  · obtain ⟨hi, rfl⟩ := la_got hp
    obtain ⟨hj, rfl⟩ := la_got hq
    exact h i j hi hj e
  · obtain ⟨hi, rfl⟩ := la_got hk
    exact Or.inl ⟨k, hi, rfl⟩
def la_B (Y : la_Lay) (μ : la_Mem) (t : State) : Prop := va_P Y.2.2.2.2 vwCl (la_cells Y μ) t.heap
def la_Q (Y : la_Lay) (ret : Option FieldType) (Post : Int32 → la_Mem → Prop) (sz : Nat) : Array Value → State → Outcome → State → Prop := match ret with
  | none => va_Qv (Post 0) (la_B Y) (la_A Y sz)
  | some _ => va_Qi Post (la_B Y) (la_A Y sz)
def la_Pre (Y : la_Lay) (μ : la_Mem) (sz : Nat) (U : State) : Prop := U.heap.size = sz ∧ la_ap Y ∧ va_P Y.2.2.2.2 vwCl (la_cells Y μ) U.heap ∧ va_K Y.2.2.2.2 vwCl Y.2.2.2.1 U
/-- a method's contract: from the numbers mu, with these arguments, its answer and the numbers behind it meet Post -/
def la_M (Y : la_Lay) (l : Launch) (y : MethodName) (cc : ByteArray) (nL : Nat) (ret : Option FieldType) (rm : Room) (av : List Value) (μ : la_Mem) (Post : Int32 → la_Mem → Prop) : Prop :=
  ∀ sz : Nat, Met l y (Cond.code y cc nL ret :: wsL_law) rm (va_Pc av (la_Pre Y μ sz)) (la_Q Y ret Post sz) 0 0 (la_A Y sz)
/-- the walk's judgement: Φ pc locals stack numbers -/
def la_C (Y : la_Lay) (l : Launch) (R : Room) (own : String) (cc : ByteArray) (nL : Nat) (ret : Option FieldType) (Post : Int32 → la_Mem → Prop) (Φ : Nat → List (Nat × Value) → List Value → la_Mem → Prop) : Prop :=
  ∃ (p : Program) (e : Env) (s : State) (m : MethodId) (args : Array Value) (below : List Frame) (meth : Method) (c : Code),
    p.tables.exec = Jvm.exec ∧ c.code = cc ∧ meth.sig.returnType = ret ∧ c.maxLocals = nL ∧ s.vm.findClass own = some m.cls ∧ (∀ w ∈ wsL_law, w.before args s = true) ∧ meth.locks = false ∧ va_K Y.2.2.2.2 vwCl Y.2.2.2.1 s ∧ la_ap Y ∧
    Φ = fun pc lv st μ => ∀ (H : Heap) (locs : List Loc) (ls : Array Slot), va_P Y.2.2.2.2 vwCl (la_cells Y μ) H → va_S (la_A Y s.heap.size) s.heap H locs → lv_has ls nL lv →
      W p l e R s m args below meth c H locs 0 0 (MQ below (la_Q Y ret Post s.heap.size) args s 0 0 (la_A Y s.heap.size)) (F0 m pc ls st)
def la_us (x y : Int32) : Int32 := (x.toUInt32 >>> (y.toUInt32 &&& Int32.toUInt32 31)).toInt32
def la_lus (x : Int64) (y : Int32) : Int64 := (x.toUInt64 >>> (y.toInt64.toUInt64 &&& Int64.toUInt64 63)).toInt64
theorem la_in3_of {sp dp n : Int32} {n0 n1 : Nat} (h : la_in3 sp dp n n0 n1 = true) : ¬ sp < 0 ∧ ¬ dp < 0 ∧ ¬ n < 0 ∧ sp.toNatClampNeg + n.toNatClampNeg ≤ n0 ∧ dp.toNatClampNeg + n.toNatClampNeg ≤ n1 := by
  unfold la_in3 at h
  simp only [Bool.and_eq_true, Bool.not_eq_true', decide_eq_false_iff_not, decide_eq_true_eq] at h
  exact ⟨h.1.1.1.1, h.1.1.1.2, h.1.1.2, h.1.2, h.2⟩
section LaAald
variable {p : Program} {l : Launch} {e : Env} {R : Room} {s : State} {m : MethodId} {args : Array Value} {below : List Frame} {meth : Method} {c : Code} {H : Heap} {locs : List Loc} {cells slots : Nat} {Q : State → Prop}
variable {cc : ByteArray} {pc : Nat} {ls : Array Slot} {rest : List Value} {D : va_G} {cl : List vw_C} {a : Nat} {tys : List (ClassId × FieldType)} {ws : va_W}
theorem la_aaload (hexec : p.tables.exec = Jvm.exec) (hb : c.code = cc) (hK : va_K D cl tys s) (hP : va_P D cl ws H) (q0 t0 : Nat) {cA : ClassId} {ty : FieldType} {n : Nat} {f : Nat → Option Nat} (ha : ws[q0]? = some (a, .inl (cA, n, .inr (.inr (.inr (.inr f)))))) (ht : tys[t0]? = some (cA, ty)) (hty : ty.isReference = true) {i : Int32} (hin : vp_in i n) (hdg : decode cc pc = .ok (.aaload, 1))
    (kk : W p l e R s m args below meth c H locs cells slots Q (F0 m (pc + 1) ls (va_rf (f i.toNatClampNeg) :: rest))) : W p l e R s m args below meth c H locs cells slots Q (F0 m pc ls (.int i :: .ref a :: rest)) := by
  have hlt : i.toNatClampNeg < n := Nat.not_le.mp fun q => hin (Or.inr q)
  exact W.aald (v := va_rf (f i.toNatClampNeg)) (ty := ty) hexec hb (hP q0 _ ha) ((hK.2 t0 _ ht).1 n (fun j => va_rf (f j))) hty (fun q => by cases q) (by show ¬ (i < 0 ∨ (arrV _ _ _).slots.size ≤ _); rw [arrV_size]; exact hin) (by show (arrV _ _ _).slots[_]? = _; rw [arrV_read _ _ hlt]) rfl rfl hdg kk
end LaAald
section LaRules
variable {Y : la_Lay} {l : Launch} {R : Room} {own : String} {cc : ByteArray} {nL : Nat} {ret : Option FieldType} {Post : Int32 → la_Mem → Prop} {Φ : Nat → List (Nat × Value) → List Value → la_Mem → Prop}
variable {pc : Nat} {lv : List (Nat × Value)} {st : List Value} {μ : la_Mem}
theorem la_sub (C : la_C Y l R own cc nL ret Post Φ) {lv' : List (Nat × Value)} (ks : List Nat) (h : lv_pick lv ks = lv') (k : Φ pc lv' st μ) : Φ pc lv st μ := by
  obtain ⟨p, e, s, m, args, below, meth, c, hx, hb, hr, hml, hown, hts, hlocks, hK, hap, rfl⟩ := C
  exact fun H locs ls hP hS hl => k H locs ls hP hS (lv_sub hl ks h)
theorem la_iconst (C : la_C Y l R own cc nL ret Post Φ) {n : Int} {v : Int32} (d : decode cc pc = .ok (.iconst n, 1)) (hv : Int32.ofInt n = v) (k : Φ (pc + 1) lv (.int v :: st) μ) : Φ pc lv st μ := by
  obtain ⟨p, e, s, m, args, below, meth, c, hx, hb, hr, hml, hown, hts, hlocks, hK, hap, rfl⟩ := C
  exact fun H locs ls hP hS hl => lv_iconst hx hb d hv (k H locs ls hP hS hl)
theorem la_bipush (C : la_C Y l R own cc nL ret Post Φ) {n : Int} {v : Int32} (d : decode cc pc = .ok (.bipush n, 2)) (hv : (Int8.ofInt n).toInt32 = v) (k : Φ (pc + 2) lv (.int v :: st) μ) : Φ pc lv st μ := by
  obtain ⟨p, e, s, m, args, below, meth, c, hx, hb, hr, hml, hown, hts, hlocks, hK, hap, rfl⟩ := C
  exact fun H locs ls hP hS hl => lv_bipush hx hb d hv (k H locs ls hP hS hl)
theorem la_sipush (C : la_C Y l R own cc nL ret Post Φ) {n : Int} {v : Int32} (d : decode cc pc = .ok (.sipush n, 3)) (hv : (Int16.ofInt n).toInt32 = v) (k : Φ (pc + 3) lv (.int v :: st) μ) : Φ pc lv st μ := by
  obtain ⟨p, e, s, m, args, below, meth, c, hx, hb, hr, hml, hown, hts, hlocks, hK, hap, rfl⟩ := C
  exact fun H locs ls hP hS hl => lv_sipush hx hb d hv (k H locs ls hP hS hl)
theorem la_lconst (C : la_C Y l R own cc nL ret Post Φ) {n : Fin 2} {v : Int64} (d : decode cc pc = .ok (.lconst n, 1)) (hv : Int64.ofNat (n : Nat) = v) (k : Φ (pc + 1) lv (.long v :: st) μ) : Φ pc lv st μ := by
  obtain ⟨p, e, s, m, args, below, meth, c, hx, hb, hr, hml, hown, hts, hlocks, hK, hap, rfl⟩ := C
  exact fun H locs ls hP hS hl => lv_lconst hx hb d hv (k H locs ls hP hS hl)
theorem la_ldc (C : la_C Y l R own cc nL ret Post Φ) {index : Nat} {v : Int32} (hw : Cond.constant own index v ∈ wsL_law) (d : decode cc pc = .ok (.ldc index, 2)) (k : Φ (pc + 2) lv (.int v :: st) μ) : Φ pc lv st μ := by
  obtain ⟨p, e, s, m, args, below, meth, c, hx, hb, hr, hml, hown, hts, hlocks, hK, hap, rfl⟩ := C
  exact fun H locs ls hP hS hl => lv_ldc hx hb hown (hts _ hw) d (k H locs ls hP hS hl)
theorem la_ldcw (C : la_C Y l R own cc nL ret Post Φ) {index : Nat} {v : Int32} (hw : Cond.constant own index v ∈ wsL_law) (d : decode cc pc = .ok (.ldc_w index, 3)) (k : Φ (pc + 3) lv (.int v :: st) μ) : Φ pc lv st μ := by
  obtain ⟨p, e, s, m, args, below, meth, c, hx, hb, hr, hml, hown, hts, hlocks, hK, hap, rfl⟩ := C
  exact fun H locs ls hP hS hl => lv_ldcw hx hb hown (hts _ hw) d (k H locs ls hP hS hl)
theorem la_ldc2 (C : la_C Y l R own cc nL ret Post Φ) {index : Nat} {v : Int64} (hw : Cond.constantLong own index v ∈ wsL_law) (d : decode cc pc = .ok (.ldc2_w index, 3)) (k : Φ (pc + 3) lv (.long v :: st) μ) : Φ pc lv st μ := by
  obtain ⟨p, e, s, m, args, below, meth, c, hx, hb, hr, hml, hown, hts, hlocks, hK, hap, rfl⟩ := C
  exact fun H locs ls hP hS hl => lv_ldc2 hx hb hown (hts _ hw) d (k H locs ls hP hS hl)
theorem la_iload_n (C : la_C Y l R own cc nL ret Post Φ) {q : Fin 4} {x : Int32} (d : decode cc pc = .ok (.iload_n q, 1)) (j : Nat) (h : lv[j]? = some ((q : Nat), .int x)) (k : Φ (pc + 1) lv (.int x :: st) μ) : Φ pc lv st μ := by
  obtain ⟨p, e, s, m, args, below, meth, c, hx, hb, hr, hml, hown, hts, hlocks, hK, hap, rfl⟩ := C
  exact fun H locs ls hP hS hl => lv_iload_n hx hb d rfl (lv_at hl j h) (k H locs ls hP hS hl)
theorem la_iload (C : la_C Y l R own cc nL ret Post Φ) {i : Nat} {x : Int32} (d : decode cc pc = .ok (.iload i, 2)) (j : Nat) (h : lv[j]? = some (i, .int x)) (k : Φ (pc + 2) lv (.int x :: st) μ) : Φ pc lv st μ := by
  obtain ⟨p, e, s, m, args, below, meth, c, hx, hb, hr, hml, hown, hts, hlocks, hK, hap, rfl⟩ := C
  exact fun H locs ls hP hS hl => lv_iload hx hb d (lv_at hl j h) (k H locs ls hP hS hl)
theorem la_lload_n (C : la_C Y l R own cc nL ret Post Φ) {q : Fin 4} {x : Int64} (d : decode cc pc = .ok (.lload_n q, 1)) (j : Nat) (h : lv[j]? = some ((q : Nat), .long x)) (k : Φ (pc + 1) lv (.long x :: st) μ) : Φ pc lv st μ := by
  obtain ⟨p, e, s, m, args, below, meth, c, hx, hb, hr, hml, hown, hts, hlocks, hK, hap, rfl⟩ := C
  exact fun H locs ls hP hS hl => lv_lload_n hx hb d rfl (lv_at hl j h) (k H locs ls hP hS hl)
theorem la_lload (C : la_C Y l R own cc nL ret Post Φ) {i : Nat} {x : Int64} (d : decode cc pc = .ok (.lload i, 2)) (j : Nat) (h : lv[j]? = some (i, .long x)) (k : Φ (pc + 2) lv (.long x :: st) μ) : Φ pc lv st μ := by
  obtain ⟨p, e, s, m, args, below, meth, c, hx, hb, hr, hml, hown, hts, hlocks, hK, hap, rfl⟩ := C
  exact fun H locs ls hP hS hl => lv_lload hx hb d (lv_at hl j h) (k H locs ls hP hS hl)
theorem la_aload_n (C : la_C Y l R own cc nL ret Post Φ) {q : Fin 4} {x : Nat} (d : decode cc pc = .ok (.aload_n q, 1)) (j : Nat) (h : lv[j]? = some ((q : Nat), .ref x)) (k : Φ (pc + 1) lv (.ref x :: st) μ) : Φ pc lv st μ := by
  obtain ⟨p, e, s, m, args, below, meth, c, hx, hb, hr, hml, hown, hts, hlocks, hK, hap, rfl⟩ := C
  exact fun H locs ls hP hS hl => lv_aload_n hx hb d rfl (lv_at hl j h) (k H locs ls hP hS hl)
theorem la_aload (C : la_C Y l R own cc nL ret Post Φ) {i : Nat} {x : Nat} (d : decode cc pc = .ok (.aload i, 2)) (j : Nat) (h : lv[j]? = some (i, .ref x)) (k : Φ (pc + 2) lv (.ref x :: st) μ) : Φ pc lv st μ := by
  obtain ⟨p, e, s, m, args, below, meth, c, hx, hb, hr, hml, hown, hts, hlocks, hK, hap, rfl⟩ := C
  exact fun H locs ls hP hS hl => lv_aload hx hb d (lv_at hl j h) (k H locs ls hP hS hl)
theorem la_istore_n (C : la_C Y l R own cc nL ret Post Φ) {z : Fin 4} {x : Int32} {lv1 : List (Nat × Value)} (d : decode cc pc = .ok (.istore_n z, 1)) (hn : (z : Nat) < nL) (h : ((z : Nat), Value.int x) :: lv.filter (fun q => !(q.1 == (z : Nat)) && !(q.1 + 1 == (z : Nat) && q.2.category == 2)) = lv1) (k : Φ (pc + 1) lv1 st μ) : Φ pc lv (.int x :: st) μ := by
  obtain ⟨p, e, s, m, args, below, meth, c, hx, hb, hr, hml, hown, hts, hlocks, hK, hap, rfl⟩ := C
  exact fun H locs ls hP hS hl => lv_istore_n hx hb d rfl hl hn h (fun ls hl => k H locs ls hP hS hl)
theorem la_istore (C : la_C Y l R own cc nL ret Post Φ) {i : Nat} {x : Int32} {lv1 : List (Nat × Value)} (d : decode cc pc = .ok (.istore i, 2)) (hn : i < nL) (h : (i, Value.int x) :: lv.filter (fun q => !(q.1 == i) && !(q.1 + 1 == i && q.2.category == 2)) = lv1) (k : Φ (pc + 2) lv1 st μ) : Φ pc lv (.int x :: st) μ := by
  obtain ⟨p, e, s, m, args, below, meth, c, hx, hb, hr, hml, hown, hts, hlocks, hK, hap, rfl⟩ := C
  exact fun H locs ls hP hS hl => lv_istore hx hb d hl hn h (fun ls hl => k H locs ls hP hS hl)
theorem la_astore_n (C : la_C Y l R own cc nL ret Post Φ) {z : Fin 4} {x : Nat} {lv1 : List (Nat × Value)} (d : decode cc pc = .ok (.astore_n z, 1)) (hn : (z : Nat) < nL) (h : ((z : Nat), Value.ref x) :: lv.filter (fun q => !(q.1 == (z : Nat)) && !(q.1 + 1 == (z : Nat) && q.2.category == 2)) = lv1) (k : Φ (pc + 1) lv1 st μ) : Φ pc lv (.ref x :: st) μ := by
  obtain ⟨p, e, s, m, args, below, meth, c, hx, hb, hr, hml, hown, hts, hlocks, hK, hap, rfl⟩ := C
  exact fun H locs ls hP hS hl => lv_astore_n hx hb d rfl hl hn h (fun ls hl => k H locs ls hP hS hl)
theorem la_astore (C : la_C Y l R own cc nL ret Post Φ) {i : Nat} {x : Nat} {lv1 : List (Nat × Value)} (d : decode cc pc = .ok (.astore i, 2)) (hn : i < nL) (h : (i, Value.ref x) :: lv.filter (fun q => !(q.1 == i) && !(q.1 + 1 == i && q.2.category == 2)) = lv1) (k : Φ (pc + 2) lv1 st μ) : Φ pc lv (.ref x :: st) μ := by
  obtain ⟨p, e, s, m, args, below, meth, c, hx, hb, hr, hml, hown, hts, hlocks, hK, hap, rfl⟩ := C
  exact fun H locs ls hP hS hl => lv_astore hx hb d hl hn h (fun ls hl => k H locs ls hP hS hl)
theorem la_iinc (C : la_C Y l R own cc nL ret Post Φ) {i : Nat} {n : Int} {x v : Int32} {lv1 : List (Nat × Value)} (d : decode cc pc = .ok (.iinc i n, 3)) (j : Nat) (hj : lv[j]? = some (i, .int x)) (hv : x + Int32.ofInt n = v) (hn : i < nL) (h : (i, Value.int v) :: lv.filter (fun q => !(q.1 == i) && !(q.1 + 1 == i && q.2.category == 2)) = lv1) (k : Φ (pc + 3) lv1 st μ) : Φ pc lv st μ := by
  obtain ⟨p, e, s, m, args, below, meth, c, hx, hb, hr, hml, hown, hts, hlocks, hK, hap, rfl⟩ := C
  exact fun H locs ls hP hS hl => lv_iinc hx hb d hl hj hv hn h (fun ls hl => k H locs ls hP hS hl)
theorem la_iadd (C : la_C Y l R own cc nL ret Post Φ) {x y : Int32} (d : decode cc pc = .ok (.iadd, 1)) (k : Φ (pc + 1) lv (.int (x + y) :: st) μ) : Φ pc lv (.int y :: .int x :: st) μ := by
  obtain ⟨p, e, s, m, args, below, meth, c, hx, hb, hr, hml, hown, hts, hlocks, hK, hap, rfl⟩ := C
  exact fun H locs ls hP hS hl => lv_iadd hx hb d (k H locs ls hP hS hl)
theorem la_isub (C : la_C Y l R own cc nL ret Post Φ) {x y : Int32} (d : decode cc pc = .ok (.isub, 1)) (k : Φ (pc + 1) lv (.int (x - y) :: st) μ) : Φ pc lv (.int y :: .int x :: st) μ := by
  obtain ⟨p, e, s, m, args, below, meth, c, hx, hb, hr, hml, hown, hts, hlocks, hK, hap, rfl⟩ := C
  exact fun H locs ls hP hS hl => lv_isub hx hb d (k H locs ls hP hS hl)
theorem la_imul (C : la_C Y l R own cc nL ret Post Φ) {x y : Int32} (d : decode cc pc = .ok (.imul, 1)) (k : Φ (pc + 1) lv (.int (x * y) :: st) μ) : Φ pc lv (.int y :: .int x :: st) μ := by
  obtain ⟨p, e, s, m, args, below, meth, c, hx, hb, hr, hml, hown, hts, hlocks, hK, hap, rfl⟩ := C
  exact fun H locs ls hP hS hl => lv_imul hx hb d (k H locs ls hP hS hl)
theorem la_iand (C : la_C Y l R own cc nL ret Post Φ) {x y : Int32} (d : decode cc pc = .ok (.iand, 1)) (k : Φ (pc + 1) lv (.int (x &&& y) :: st) μ) : Φ pc lv (.int y :: .int x :: st) μ := by
  obtain ⟨p, e, s, m, args, below, meth, c, hx, hb, hr, hml, hown, hts, hlocks, hK, hap, rfl⟩ := C
  exact fun H locs ls hP hS hl => lv_iand hx hb d (k H locs ls hP hS hl)
theorem la_ior (C : la_C Y l R own cc nL ret Post Φ) {x y : Int32} (d : decode cc pc = .ok (.ior, 1)) (k : Φ (pc + 1) lv (.int (x ||| y) :: st) μ) : Φ pc lv (.int y :: .int x :: st) μ := by
  obtain ⟨p, e, s, m, args, below, meth, c, hx, hb, hr, hml, hown, hts, hlocks, hK, hap, rfl⟩ := C
  exact fun H locs ls hP hS hl => lv_ior hx hb d (k H locs ls hP hS hl)
theorem la_ixor (C : la_C Y l R own cc nL ret Post Φ) {x y : Int32} (d : decode cc pc = .ok (.ixor, 1)) (k : Φ (pc + 1) lv (.int (x ^^^ y) :: st) μ) : Φ pc lv (.int y :: .int x :: st) μ := by
  obtain ⟨p, e, s, m, args, below, meth, c, hx, hb, hr, hml, hown, hts, hlocks, hK, hap, rfl⟩ := C
  exact fun H locs ls hP hS hl => lv_ixor hx hb d (k H locs ls hP hS hl)
theorem la_ishl (C : la_C Y l R own cc nL ret Post Φ) {x y : Int32} (d : decode cc pc = .ok (.ishl, 1)) (k : Φ (pc + 1) lv (.int (x <<< (y &&& 31)) :: st) μ) : Φ pc lv (.int y :: .int x :: st) μ := by
  obtain ⟨p, e, s, m, args, below, meth, c, hx, hb, hr, hml, hown, hts, hlocks, hK, hap, rfl⟩ := C
  exact fun H locs ls hP hS hl => lv_ishl hx hb d (k H locs ls hP hS hl)
theorem la_ishr (C : la_C Y l R own cc nL ret Post Φ) {x y : Int32} (d : decode cc pc = .ok (.ishr, 1)) (k : Φ (pc + 1) lv (.int (x >>> (y &&& 31)) :: st) μ) : Φ pc lv (.int y :: .int x :: st) μ := by
  obtain ⟨p, e, s, m, args, below, meth, c, hx, hb, hr, hml, hown, hts, hlocks, hK, hap, rfl⟩ := C
  exact fun H locs ls hP hS hl => lv_ishr hx hb d (k H locs ls hP hS hl)
theorem la_idiv (C : la_C Y l R own cc nL ret Post Φ) {x y : Int32} (d : decode cc pc = .ok (.idiv, 1)) (hne : ¬ y = 0) (k : Φ (pc + 1) lv (.int (x / y) :: st) μ) : Φ pc lv (.int y :: .int x :: st) μ := by
  obtain ⟨p, e, s, m, args, below, meth, c, hx, hb, hr, hml, hown, hts, hlocks, hK, hap, rfl⟩ := C
  exact fun H locs ls hP hS hl => lv_idiv hx hb d hne (k H locs ls hP hS hl)
theorem la_irem (C : la_C Y l R own cc nL ret Post Φ) {x y : Int32} (d : decode cc pc = .ok (.irem, 1)) (hne : ¬ y = 0) (k : Φ (pc + 1) lv (.int (x - x / y * y) :: st) μ) : Φ pc lv (.int y :: .int x :: st) μ := by
  obtain ⟨p, e, s, m, args, below, meth, c, hx, hb, hr, hml, hown, hts, hlocks, hK, hap, rfl⟩ := C
  exact fun H locs ls hP hS hl => lv_irem hx hb d hne (k H locs ls hP hS hl)
theorem la_iushr (C : la_C Y l R own cc nL ret Post Φ) {x y : Int32} (d : decode cc pc = .ok (.iushr, 1)) (k : Φ (pc + 1) lv (.int (la_us x y) :: st) μ) : Φ pc lv (.int y :: .int x :: st) μ := by
  obtain ⟨p, e, s, m, args, below, meth, c, hx, hb, hr, hml, hown, hts, hlocks, hK, hap, rfl⟩ := C
  exact fun H locs ls hP hS hl => lv_iushr hx hb d rfl (k H locs ls hP hS hl)
theorem la_lushr (C : la_C Y l R own cc nL ret Post Φ) {x : Int64} {y : Int32} (d : decode cc pc = .ok (.lushr, 1)) (k : Φ (pc + 1) lv (.long (la_lus x y) :: st) μ) : Φ pc lv (.int y :: .long x :: st) μ := by
  obtain ⟨p, e, s, m, args, below, meth, c, hx, hb, hr, hml, hown, hts, hlocks, hK, hap, rfl⟩ := C
  exact fun H locs ls hP hS hl => lv_lushr hx hb d rfl (k H locs ls hP hS hl)
theorem la_lshr (C : la_C Y l R own cc nL ret Post Φ) {x : Int64} {y : Int32} (d : decode cc pc = .ok (.lshr, 1)) (k : Φ (pc + 1) lv (.long (x >>> (y.toInt64 &&& 63)) :: st) μ) : Φ pc lv (.int y :: .long x :: st) μ := by
  obtain ⟨p, e, s, m, args, below, meth, c, hx, hb, hr, hml, hown, hts, hlocks, hK, hap, rfl⟩ := C
  exact fun H locs ls hP hS hl => lv_lshr hx hb d rfl (k H locs ls hP hS hl)
theorem la_lshl (C : la_C Y l R own cc nL ret Post Φ) {x : Int64} {y : Int32} (d : decode cc pc = .ok (.lshl, 1)) (k : Φ (pc + 1) lv (.long (x <<< (y.toInt64 &&& 63)) :: st) μ) : Φ pc lv (.int y :: .long x :: st) μ := by
  obtain ⟨p, e, s, m, args, below, meth, c, hx, hb, hr, hml, hown, hts, hlocks, hK, hap, rfl⟩ := C
  exact fun H locs ls hP hS hl => lv_lshl hx hb d rfl (k H locs ls hP hS hl)
theorem la_ladd (C : la_C Y l R own cc nL ret Post Φ) {x y : Int64} (d : decode cc pc = .ok (.ladd, 1)) (k : Φ (pc + 1) lv (.long (x + y) :: st) μ) : Φ pc lv (.long y :: .long x :: st) μ := by
  obtain ⟨p, e, s, m, args, below, meth, c, hx, hb, hr, hml, hown, hts, hlocks, hK, hap, rfl⟩ := C
  exact fun H locs ls hP hS hl => lv_ladd hx hb d (k H locs ls hP hS hl)
theorem la_land (C : la_C Y l R own cc nL ret Post Φ) {x y : Int64} (d : decode cc pc = .ok (.land, 1)) (k : Φ (pc + 1) lv (.long (x &&& y) :: st) μ) : Φ pc lv (.long y :: .long x :: st) μ := by
  obtain ⟨p, e, s, m, args, below, meth, c, hx, hb, hr, hml, hown, hts, hlocks, hK, hap, rfl⟩ := C
  exact fun H locs ls hP hS hl => lv_land hx hb d (k H locs ls hP hS hl)
theorem la_lor (C : la_C Y l R own cc nL ret Post Φ) {x y : Int64} (d : decode cc pc = .ok (.lor, 1)) (k : Φ (pc + 1) lv (.long (x ||| y) :: st) μ) : Φ pc lv (.long y :: .long x :: st) μ := by
  obtain ⟨p, e, s, m, args, below, meth, c, hx, hb, hr, hml, hown, hts, hlocks, hK, hap, rfl⟩ := C
  exact fun H locs ls hP hS hl => lv_lor hx hb d (k H locs ls hP hS hl)
theorem la_lcmp (C : la_C Y l R own cc nL ret Post Φ) {x y : Int64} (d : decode cc pc = .ok (.lcmp, 1)) (k : Φ (pc + 1) lv (.int (lg_cmp x y) :: st) μ) : Φ pc lv (.long y :: .long x :: st) μ := by
  obtain ⟨p, e, s, m, args, below, meth, c, hx, hb, hr, hml, hown, hts, hlocks, hK, hap, rfl⟩ := C
  exact fun H locs ls hP hS hl => W.lcmp hx hb d (k H locs ls hP hS hl)
theorem la_i2l (C : la_C Y l R own cc nL ret Post Φ) {x : Int32} (d : decode cc pc = .ok (.i2l, 1)) (k : Φ (pc + 1) lv (.long (x.toInt64) :: st) μ) : Φ pc lv (.int x :: st) μ := by
  obtain ⟨p, e, s, m, args, below, meth, c, hx, hb, hr, hml, hown, hts, hlocks, hK, hap, rfl⟩ := C
  exact fun H locs ls hP hS hl => lv_i2l hx hb d rfl (k H locs ls hP hS hl)
theorem la_l2i (C : la_C Y l R own cc nL ret Post Φ) {x : Int64} (d : decode cc pc = .ok (.l2i, 1)) (k : Φ (pc + 1) lv (.int (x.toInt32) :: st) μ) : Φ pc lv (.long x :: st) μ := by
  obtain ⟨p, e, s, m, args, below, meth, c, hx, hb, hr, hml, hown, hts, hlocks, hK, hap, rfl⟩ := C
  exact fun H locs ls hP hS hl => lv_l2i hx hb d rfl (k H locs ls hP hS hl)
theorem la_i2b (C : la_C Y l R own cc nL ret Post Φ) {x : Int32} (d : decode cc pc = .ok (.i2b, 1)) (k : Φ (pc + 1) lv (.int (x.toInt8.toInt32) :: st) μ) : Φ pc lv (.int x :: st) μ := by
  obtain ⟨p, e, s, m, args, below, meth, c, hx, hb, hr, hml, hown, hts, hlocks, hK, hap, rfl⟩ := C
  exact fun H locs ls hP hS hl => lv_i2b hx hb d rfl (k H locs ls hP hS hl)
theorem la_i2s (C : la_C Y l R own cc nL ret Post Φ) {x : Int32} (d : decode cc pc = .ok (.i2s, 1)) (k : Φ (pc + 1) lv (.int (x.toInt16.toInt32) :: st) μ) : Φ pc lv (.int x :: st) μ := by
  obtain ⟨p, e, s, m, args, below, meth, c, hx, hb, hr, hml, hown, hts, hlocks, hK, hap, rfl⟩ := C
  exact fun H locs ls hP hS hl => lv_i2s hx hb d rfl (k H locs ls hP hS hl)
theorem la_dup (C : la_C Y l R own cc nL ret Post Φ) {a : Value} (d : decode cc pc = .ok (.dup, 1)) (ha : a.category = 1) (k : Φ (pc + 1) lv (a :: a :: st) μ) : Φ pc lv (a :: st) μ := by
  obtain ⟨p, e, s, m, args, below, meth, c, hx, hb, hr, hml, hown, hts, hlocks, hK, hap, rfl⟩ := C
  exact fun H locs ls hP hS hl => lv_dup hx hb d ha (k H locs ls hP hS hl)
theorem la_dup2 (C : la_C Y l R own cc nL ret Post Φ) {a b : Value} (d : decode cc pc = .ok (.dup2, 1)) (ha : a.category = 1) (hb1 : b.category = 1) (k : Φ (pc + 1) lv (a :: b :: a :: b :: st) μ) : Φ pc lv (a :: b :: st) μ := by
  obtain ⟨p, e, s, m, args, below, meth, c, hx, hb, hr, hml, hown, hts, hlocks, hK, hap, rfl⟩ := C
  exact fun H locs ls hP hS hl => lv_dup2_11 hx hb d ha hb1 (k H locs ls hP hS hl)
theorem la_pop (C : la_C Y l R own cc nL ret Post Φ) {a : Value} (d : decode cc pc = .ok (.pop, 1)) (ha : a.category = 1) (k : Φ (pc + 1) lv st μ) : Φ pc lv (a :: st) μ := by
  obtain ⟨p, e, s, m, args, below, meth, c, hx, hb, hr, hml, hown, hts, hlocks, hK, hap, rfl⟩ := C
  exact fun H locs ls hP hS hl => lv_pop hx hb d ha (k H locs ls hP hS hl)
theorem la_if_eq (C : la_C Y l R own cc nL ret Post Φ) {x : Int32} {off : Int} {tgt : Nat} (d : decode cc pc = .ok (.ifCond .eq off, 3)) (ht : (pc : Int) + off = (tgt : Int)) (kt : x = 0 → Φ tgt lv st μ) (kf : ¬ x = 0 → Φ (pc + 3) lv st μ) : Φ pc lv (.int x :: st) μ := by
  obtain ⟨p, e, s, m, args, below, meth, c, hx, hb, hr, hml, hown, hts, hlocks, hK, hap, rfl⟩ := C
  exact fun H locs ls hP hS hl => lv_if_eq hx hb d ht (fun q => kt q H locs ls hP hS hl) (fun q => kf q H locs ls hP hS hl)
theorem la_if_ne (C : la_C Y l R own cc nL ret Post Φ) {x : Int32} {off : Int} {tgt : Nat} (d : decode cc pc = .ok (.ifCond .ne off, 3)) (ht : (pc : Int) + off = (tgt : Int)) (kt : ¬ x = 0 → Φ tgt lv st μ) (kf : x = 0 → Φ (pc + 3) lv st μ) : Φ pc lv (.int x :: st) μ := by
  obtain ⟨p, e, s, m, args, below, meth, c, hx, hb, hr, hml, hown, hts, hlocks, hK, hap, rfl⟩ := C
  exact fun H locs ls hP hS hl => lv_if_ne hx hb d ht (fun q => kt q H locs ls hP hS hl) (fun q => kf q H locs ls hP hS hl)
theorem la_if_lt (C : la_C Y l R own cc nL ret Post Φ) {x : Int32} {off : Int} {tgt : Nat} (d : decode cc pc = .ok (.ifCond .lt off, 3)) (ht : (pc : Int) + off = (tgt : Int)) (kt : x < 0 → Φ tgt lv st μ) (kf : ¬ x < 0 → Φ (pc + 3) lv st μ) : Φ pc lv (.int x :: st) μ := by
  obtain ⟨p, e, s, m, args, below, meth, c, hx, hb, hr, hml, hown, hts, hlocks, hK, hap, rfl⟩ := C
  exact fun H locs ls hP hS hl => lv_if_lt hx hb d ht (fun q => kt q H locs ls hP hS hl) (fun q => kf q H locs ls hP hS hl)
theorem la_if_ge (C : la_C Y l R own cc nL ret Post Φ) {x : Int32} {off : Int} {tgt : Nat} (d : decode cc pc = .ok (.ifCond .ge off, 3)) (ht : (pc : Int) + off = (tgt : Int)) (kt : 0 ≤ x → Φ tgt lv st μ) (kf : ¬ 0 ≤ x → Φ (pc + 3) lv st μ) : Φ pc lv (.int x :: st) μ := by
  obtain ⟨p, e, s, m, args, below, meth, c, hx, hb, hr, hml, hown, hts, hlocks, hK, hap, rfl⟩ := C
  exact fun H locs ls hP hS hl => lv_if_ge hx hb d ht (fun q => kt q H locs ls hP hS hl) (fun q => kf q H locs ls hP hS hl)
theorem la_if_gt (C : la_C Y l R own cc nL ret Post Φ) {x : Int32} {off : Int} {tgt : Nat} (d : decode cc pc = .ok (.ifCond .gt off, 3)) (ht : (pc : Int) + off = (tgt : Int)) (kt : 0 < x → Φ tgt lv st μ) (kf : ¬ 0 < x → Φ (pc + 3) lv st μ) : Φ pc lv (.int x :: st) μ := by
  obtain ⟨p, e, s, m, args, below, meth, c, hx, hb, hr, hml, hown, hts, hlocks, hK, hap, rfl⟩ := C
  exact fun H locs ls hP hS hl => lv_if_gt hx hb d ht (fun q => kt q H locs ls hP hS hl) (fun q => kf q H locs ls hP hS hl)
theorem la_if_le (C : la_C Y l R own cc nL ret Post Φ) {x : Int32} {off : Int} {tgt : Nat} (d : decode cc pc = .ok (.ifCond .le off, 3)) (ht : (pc : Int) + off = (tgt : Int)) (kt : x ≤ 0 → Φ tgt lv st μ) (kf : ¬ x ≤ 0 → Φ (pc + 3) lv st μ) : Φ pc lv (.int x :: st) μ := by
  obtain ⟨p, e, s, m, args, below, meth, c, hx, hb, hr, hml, hown, hts, hlocks, hK, hap, rfl⟩ := C
  exact fun H locs ls hP hS hl => lv_if_le hx hb d ht (fun q => kt q H locs ls hP hS hl) (fun q => kf q H locs ls hP hS hl)
theorem la_icmp_eq (C : la_C Y l R own cc nL ret Post Φ) {x y : Int32} {off : Int} {tgt : Nat} (d : decode cc pc = .ok (.if_icmp .eq off, 3)) (ht : (pc : Int) + off = (tgt : Int)) (kt : x = y → Φ tgt lv st μ) (kf : ¬ x = y → Φ (pc + 3) lv st μ) : Φ pc lv (.int y :: .int x :: st) μ := by
  obtain ⟨p, e, s, m, args, below, meth, c, hx, hb, hr, hml, hown, hts, hlocks, hK, hap, rfl⟩ := C
  exact fun H locs ls hP hS hl => lv_icmp_eq hx hb d ht (fun q => kt q H locs ls hP hS hl) (fun q => kf q H locs ls hP hS hl)
theorem la_icmp_ne (C : la_C Y l R own cc nL ret Post Φ) {x y : Int32} {off : Int} {tgt : Nat} (d : decode cc pc = .ok (.if_icmp .ne off, 3)) (ht : (pc : Int) + off = (tgt : Int)) (kt : ¬ x = y → Φ tgt lv st μ) (kf : x = y → Φ (pc + 3) lv st μ) : Φ pc lv (.int y :: .int x :: st) μ := by
  obtain ⟨p, e, s, m, args, below, meth, c, hx, hb, hr, hml, hown, hts, hlocks, hK, hap, rfl⟩ := C
  exact fun H locs ls hP hS hl => lv_icmp_ne hx hb d ht (fun q => kt q H locs ls hP hS hl) (fun q => kf q H locs ls hP hS hl)
theorem la_icmp_lt (C : la_C Y l R own cc nL ret Post Φ) {x y : Int32} {off : Int} {tgt : Nat} (d : decode cc pc = .ok (.if_icmp .lt off, 3)) (ht : (pc : Int) + off = (tgt : Int)) (kt : x < y → Φ tgt lv st μ) (kf : ¬ x < y → Φ (pc + 3) lv st μ) : Φ pc lv (.int y :: .int x :: st) μ := by
  obtain ⟨p, e, s, m, args, below, meth, c, hx, hb, hr, hml, hown, hts, hlocks, hK, hap, rfl⟩ := C
  exact fun H locs ls hP hS hl => lv_icmp_lt hx hb d ht (fun q => kt q H locs ls hP hS hl) (fun q => kf q H locs ls hP hS hl)
theorem la_icmp_ge (C : la_C Y l R own cc nL ret Post Φ) {x y : Int32} {off : Int} {tgt : Nat} (d : decode cc pc = .ok (.if_icmp .ge off, 3)) (ht : (pc : Int) + off = (tgt : Int)) (kt : y ≤ x → Φ tgt lv st μ) (kf : ¬ y ≤ x → Φ (pc + 3) lv st μ) : Φ pc lv (.int y :: .int x :: st) μ := by
  obtain ⟨p, e, s, m, args, below, meth, c, hx, hb, hr, hml, hown, hts, hlocks, hK, hap, rfl⟩ := C
  exact fun H locs ls hP hS hl => lv_icmp_ge hx hb d ht (fun q => kt q H locs ls hP hS hl) (fun q => kf q H locs ls hP hS hl)
theorem la_icmp_gt (C : la_C Y l R own cc nL ret Post Φ) {x y : Int32} {off : Int} {tgt : Nat} (d : decode cc pc = .ok (.if_icmp .gt off, 3)) (ht : (pc : Int) + off = (tgt : Int)) (kt : y < x → Φ tgt lv st μ) (kf : ¬ y < x → Φ (pc + 3) lv st μ) : Φ pc lv (.int y :: .int x :: st) μ := by
  obtain ⟨p, e, s, m, args, below, meth, c, hx, hb, hr, hml, hown, hts, hlocks, hK, hap, rfl⟩ := C
  exact fun H locs ls hP hS hl => lv_icmp_gt hx hb d ht (fun q => kt q H locs ls hP hS hl) (fun q => kf q H locs ls hP hS hl)
theorem la_icmp_le (C : la_C Y l R own cc nL ret Post Φ) {x y : Int32} {off : Int} {tgt : Nat} (d : decode cc pc = .ok (.if_icmp .le off, 3)) (ht : (pc : Int) + off = (tgt : Int)) (kt : x ≤ y → Φ tgt lv st μ) (kf : ¬ x ≤ y → Φ (pc + 3) lv st μ) : Φ pc lv (.int y :: .int x :: st) μ := by
  obtain ⟨p, e, s, m, args, below, meth, c, hx, hb, hr, hml, hown, hts, hlocks, hK, hap, rfl⟩ := C
  exact fun H locs ls hP hS hl => lv_icmp_le hx hb d ht (fun q => kt q H locs ls hP hS hl) (fun q => kf q H locs ls hP hS hl)
theorem la_goto (C : la_C Y l R own cc nL ret Post Φ) {off : Int} {tgt : Nat} (d : decode cc pc = .ok (.goto off, 3)) (ht : (pc : Int) + off = (tgt : Int)) (k : Φ tgt lv st μ) : Φ pc lv st μ := by
  obtain ⟨p, e, s, m, args, below, meth, c, hx, hb, hr, hml, hown, hts, hlocks, hK, hap, rfl⟩ := C
  exact fun H locs ls hP hS hl => lv_goto hx hb d ht (k H locs ls hP hS hl)
theorem la_tabIn (C : la_C Y l R own cc nL ret Post Φ) {dflt lo hi : Int} {offs : Array Int} {len : Nat} {x : Int32} {off : Int} {tgt : Nat} (d : decode cc pc = .ok (.tableswitch dflt lo hi offs, len)) (h1 : ¬ x.toInt < lo) (h2 : ¬ hi < x.toInt) (ho : offs[(x.toInt - lo).toNat]? = some off) (ht : (pc : Int) + off = (tgt : Int)) (k : Φ tgt lv st μ) : Φ pc lv (.int x :: st) μ := by
  obtain ⟨p, e, s, m, args, below, meth, c, hx, hb, hr, hml, hown, hts, hlocks, hK, hap, rfl⟩ := C
  exact fun H locs ls hP hS hl => lv_tableIn hx hb d h1 h2 ho ht (k H locs ls hP hS hl)
theorem la_tabOut (C : la_C Y l R own cc nL ret Post Φ) {dflt lo hi : Int} {offs : Array Int} {len : Nat} {x : Int32} {tgt : Nat} (d : decode cc pc = .ok (.tableswitch dflt lo hi offs, len)) (h1 : x.toInt < lo ∨ hi < x.toInt) (ht : (pc : Int) + dflt = (tgt : Int)) (k : Φ tgt lv st μ) : Φ pc lv (.int x :: st) μ := by
  obtain ⟨p, e, s, m, args, below, meth, c, hx, hb, hr, hml, hown, hts, hlocks, hK, hap, rfl⟩ := C
  exact fun H locs ls hP hS hl => lv_tableOut hx hb d h1 ht (k H locs ls hP hS hl)
theorem la_getf (C : la_C Y l R own cc nL ret Post Φ) {a ci index : Nat} {ref Cn : String} {T : u_T} {N : Nat} {fs : List Value} {v : Value} (q : Nat) (ha : Y.2.2.1 q = a) (hq : q < Y.1) (he : Y.2.1 q (μ q) = .inr (ci, fs)) (hc : vwCl[ci]? = some (Cn, T, N)) (hin : ∀ w ∈ u_ws Cn T N, w ∈ wsL_law) (j : Nat) (hj : j < N) (hw : Cond.fieldLink own index ref (T j).2.1 (T j).2.2.1 ∈ wsL_law) (href : (T j).1 = ref) (hv : fs[j]? = some v) (d : decode cc pc = .ok (.getfield index, 3)) (k : Φ (pc + 3) lv (v :: st) μ) : Φ pc lv (.ref a :: st) μ := by
  obtain ⟨p, e, s, m, args, below, meth, c, hx, hb, hr, hml, hown, hts, hlocks, hK, hap, rfl⟩ := C
  exact fun H locs ls hP hS hl => ha ▸ va_get (D := Y.2.2.2.2) (ci := ci) (v := v) (C := Cn) (T := T) (N := N) hx hb hts hin hown hK hP q (he ▸ la_get hq) hc j hj (hts _ hw) (fun _ h9 => href ▸ h9) hv d (k H locs ls hP hS hl)
theorem la_putf (C : la_C Y l R own cc nL ret Post Φ) {a ci index : Nat} {ref Cn : String} {T : u_T} {N : Nat} {fs : List Value} {v : Value} {ty : FieldType} (μ1 : la_Mem) (q : Nat) (ha : Y.2.2.1 q = a) (hq : q < Y.1) (he : Y.2.1 q (μ q) = .inr (ci, fs)) (hc : vwCl[ci]? = some (Cn, T, N)) (hin : ∀ w ∈ u_ws Cn T N, w ∈ wsL_law) (ty0 : Nat → FieldType) (hty : ∀ k, k < N → parseFieldDescriptor (T k).2.2.1 = some (ty0 k)) (hnm : ∀ a, a < N → ∀ b, b < N → a ≠ b → (T a).2.1 ≠ (T b).2.1) (j : Nat) (hj : j < N) (hw : Cond.fieldLink own index ref (T j).2.1 (T j).2.2.1 ∈ wsL_law) (href : (T j).1 = ref) (hfin : (T j).2.2.2 = false) (hd : parseFieldDescriptor (T j).2.2.1 = some ty) (hn : narrow ty v = v) (hfit : fits ty v = true) (hl0 : j < fs.length) (h1 : .inr (ci, fs.set j v) = Y.2.1 q (μ1 q)) (h2 : ∀ b, b ≠ q → μ1 b = μ b) (d : decode cc pc = .ok (.putfield index, 3)) (k : Φ (pc + 3) lv st μ1) : Φ pc lv (v :: .ref a :: st) μ := by
  obtain ⟨p, e, s, m, args, below, meth, c, hx, hb, hr, hml, hown, hts, hlocks, hK, hap, rfl⟩ := C
  exact fun H locs ls hP hS hl => ha ▸ va_put (D := Y.2.2.2.2) (ci := ci) (v := v) (C := Cn) (T := T) (N := N) hx hb hts hin ty0 hty hnm hown hK hP (la_D _ hap) hS q (he ▸ la_get hq) hc j hj (hts _ hw) (fun _ h9 => href ▸ h9) hfin hd hn hfit hl0 d (fun H1 locs1 hP1 _ hS1 => k H1 locs1 ls ((la_put hq h1 h2) ▸ hP1) hS1 hl)
theorem la_iald (C : la_C Y l R own cc nL ret Post Φ) {a : Nat} {cA : ClassId} {n : Nat} {f : Nat → Int32} {i : Int32} (q t0 : Nat) (ha : Y.2.2.1 q = a) (hq : q < Y.1) (he : Y.2.1 q (μ q) = .inl (cA, n, .inl f)) (ht : Y.2.2.2.1[t0]? = some (cA, .int)) (hi : la_ix i n = true) (d : decode cc pc = .ok (.iaload, 1)) (k : Φ (pc + 1) lv (.int (f i.toNatClampNeg) :: st) μ) : Φ pc lv (.int i :: .ref a :: st) μ := by
  obtain ⟨p, e, s, m, args, below, meth, c, hx, hb, hr, hml, hown, hts, hlocks, hK, hap, rfl⟩ := C
  exact fun H locs ls hP hS hl => ha ▸ va_iald hx hb hK hP q t0 (he ▸ la_get hq) ht (la_ix_in hi) d (k H locs ls hP hS hl)
theorem la_bald (C : la_C Y l R own cc nL ret Post Φ) {a : Nat} {cA : ClassId} {n : Nat} {f : Nat → Int32} {i : Int32} (q t0 : Nat) (ha : Y.2.2.1 q = a) (hq : q < Y.1) (he : Y.2.1 q (μ q) = .inl (cA, n, .inl f)) (ht : Y.2.2.2.1[t0]? = some (cA, .byte)) (hi : la_ix i n = true) (d : decode cc pc = .ok (.baload, 1)) (k : Φ (pc + 1) lv (.int (f i.toNatClampNeg) :: st) μ) : Φ pc lv (.int i :: .ref a :: st) μ := by
  obtain ⟨p, e, s, m, args, below, meth, c, hx, hb, hr, hml, hown, hts, hlocks, hK, hap, rfl⟩ := C
  exact fun H locs ls hP hS hl => ha ▸ va_bald hx hb hK hP q t0 (he ▸ la_get hq) ht (la_ix_in hi) d (k H locs ls hP hS hl)
theorem la_iast (C : la_C Y l R own cc nL ret Post Φ) {a : Nat} {cA : ClassId} {n : Nat} {f : Nat → Int32} {i x : Int32} (μ1 : la_Mem) (q t0 : Nat) (ha : Y.2.2.1 q = a) (hq : q < Y.1) (he : Y.2.1 q (μ q) = .inl (cA, n, .inl f)) (ht : Y.2.2.2.1[t0]? = some (cA, .int)) (hi : la_ix i n = true) (h1 : .inl (cA, n, .inl (upd f i.toNatClampNeg x)) = Y.2.1 q (μ1 q)) (h2 : ∀ b, b ≠ q → μ1 b = μ b) (d : decode cc pc = .ok (.iastore, 1)) (k : Φ (pc + 1) lv st μ1) : Φ pc lv (.int x :: .int i :: .ref a :: st) μ := by
  obtain ⟨p, e, s, m, args, below, meth, c, hx, hb, hr, hml, hown, hts, hlocks, hK, hap, rfl⟩ := C
  exact fun H locs ls hP hS hl => ha ▸ va_iast hx hb hK hP (la_D _ hap) hS q t0 (he ▸ la_get hq) ht (la_ix_in hi) d (fun H1 locs1 hP1 _ hS1 => k H1 locs1 ls ((la_put hq h1 h2) ▸ hP1) hS1 hl)
theorem la_bast (C : la_C Y l R own cc nL ret Post Φ) {a : Nat} {cA : ClassId} {n : Nat} {f : Nat → Int32} {i x : Int32} (μ1 : la_Mem) (q t0 : Nat) (ha : Y.2.2.1 q = a) (hq : q < Y.1) (he : Y.2.1 q (μ q) = .inl (cA, n, .inl f)) (ht : Y.2.2.2.1[t0]? = some (cA, .byte)) (hi : la_ix i n = true) (h1 : .inl (cA, n, .inl (upd f i.toNatClampNeg (vp_nar .byte x))) = Y.2.1 q (μ1 q)) (h2 : ∀ b, b ≠ q → μ1 b = μ b) (d : decode cc pc = .ok (.bastore, 1)) (k : Φ (pc + 1) lv st μ1) : Φ pc lv (.int x :: .int i :: .ref a :: st) μ := by
  obtain ⟨p, e, s, m, args, below, meth, c, hx, hb, hr, hml, hown, hts, hlocks, hK, hap, rfl⟩ := C
  exact fun H locs ls hP hS hl => ha ▸ va_bast hx hb hK hP (la_D _ hap) hS q t0 (he ▸ la_get hq) ht (la_ix_in hi) d (fun H1 locs1 hP1 _ hS1 => k H1 locs1 ls ((la_put hq h1 h2) ▸ hP1) hS1 hl)
theorem la_aald (C : la_C Y l R own cc nL ret Post Φ) {a b : Nat} {cA : ClassId} {n : Nat} {f : Nat → Option Nat} {ty : FieldType} {i : Int32} (q t0 : Nat) (ha : Y.2.2.1 q = a) (hq : q < Y.1) (he : Y.2.1 q (μ q) = .inl (cA, n, .inr (.inr (.inr (.inr f))))) (ht : Y.2.2.2.1[t0]? = some (cA, ty)) (hty : ty.isReference = true) (hi : la_ix i n = true) (hv : f i.toNatClampNeg = some b) (d : decode cc pc = .ok (.aaload, 1)) (k : Φ (pc + 1) lv (.ref b :: st) μ) : Φ pc lv (.int i :: .ref a :: st) μ := by
  obtain ⟨p, e, s, m, args, below, meth, c, hx, hb, hr, hml, hown, hts, hlocks, hK, hap, rfl⟩ := C
  exact fun H locs ls hP hS hl => ha ▸ la_aaload hx hb hK hP q t0 (he ▸ la_get hq) ht hty (la_ix_in hi) d (by rw [hv]; exact (k H locs ls hP hS hl))
theorem la_mmax (C : la_C Y l R own cc nL ret Post Φ) {x y : Int32} {index : Nat} (hw1 : Cond.methodLink own index Lib.Math.max.name ∈ wsL_law) (hw2 : Cond.static Lib.Math.max.name ∈ wsL_law) (hw3 : Cond.initialized "java/lang/Math" ∈ wsL_law) (hw4 : Cond.code Lib.Math.max.name Lib.Math.max.code 2 (some .int) ∈ wsL_law) (hf : 1 ≤ R.frames) (hlo : (st.map fun v => v.category).sum + 13 ≤ R.locals) (d : decode cc pc = .ok (.invokestatic index, 3)) (k : Φ (pc + 3) lv (.int (if x < y then y else x) :: st) μ) : Φ pc lv (.int y :: .int x :: st) μ := by
  obtain ⟨p, e, s, m, args, below, meth, c, hx, hb, hr, hml, hown, hts, hlocks, hK, hap, rfl⟩ := C
  exact fun H locs ls hP hS hl => va_mmax hx hb (hml.trans hl.1.symm) hown (hts _ hw1) (hts _ hw2) (hts _ hw3) (hts _ hw4) hf hlo (Nat.zero_le _) (Nat.zero_le _) d (k H locs ls hP hS hl)
theorem la_copy (C : la_C Y l R own cc nL ret Post Φ) {a0 a1 : Nat} {cA : ClassId} {n0 n1 : Nat} {f g : Nat → Int32} {sp dp n : Int32} {index : Nat} (μ1 : la_Mem) (q0 q1 t0 : Nat) (ha0 : Y.2.2.1 q0 = a0) (ha1 : Y.2.2.1 q1 = a1) (hq0 : q0 < Y.1) (hq1 : q1 < Y.1) (he0 : Y.2.1 q0 (μ q0) = .inl (cA, n0, .inl f)) (he1 : Y.2.1 q1 (μ q1) = .inl (cA, n1, .inl g)) (ht : Y.2.2.2.1[t0]? = some (cA, .int)) (hi : la_in3 sp dp n n0 n1 = true) (hw1 : Cond.methodLink own index arraycopyName ∈ wsL_law) (hw2 : Cond.native arraycopyName ∈ wsL_law) (hw3 : Cond.static arraycopyName ∈ wsL_law) (hw4 : Cond.initialized "java/lang/System" ∈ wsL_law) (hf : 1 ≤ R.frames) (hlo : (st.map fun v => v.category).sum + (nativeFrameWords "java/lang/System" "arraycopy" 5 + 11) ≤ R.locals) (h1 : .inl (cA, n1, .inl (va_cpy f g sp.toNatClampNeg dp.toNatClampNeg n.toNatClampNeg)) = Y.2.1 q1 (μ1 q1)) (h2 : ∀ b, b ≠ q1 → μ1 b = μ b) (d : decode cc pc = .ok (.invokestatic index, 3)) (k : Φ (pc + 3) lv st μ1) : Φ pc lv (.int n :: .int dp :: .ref a1 :: .int sp :: .ref a0 :: st) μ := by
  obtain ⟨p, e, s, m, args, below, meth, c, hx, hb, hr, hml, hown, hts, hlocks, hK, hap, rfl⟩ := C
  exact fun H locs ls hP hS hl => ha0 ▸ ha1 ▸ va_copyi hx hb (hml.trans hl.1.symm) hown (hts _ hw1) (hts _ hw2) (hts _ hw3) (hts _ hw4) hK hP (la_D _ hap) hS q0 q1 t0 t0 (he0 ▸ la_get hq0) (he1 ▸ la_get hq1) ht ht rfl (la_in3_of hi).1 (la_in3_of hi).2.1 (la_in3_of hi).2.2.1 (la_in3_of hi).2.2.2.1 (la_in3_of hi).2.2.2.2 (fun _ _ => rfl) hf hlo d (fun H1 locs1 hP1 _ hS1 => k H1 locs1 ls ((la_put hq1 h1 h2) ▸ hP1) hS1 hl)
theorem la_iret {tyr : FieldType} (C : la_C Y l R own cc nL (some tyr) Post Φ) {v : Int32} (hn : narrow tyr (.int v) = .int v) (hp : Post v μ) (d : decode cc pc = .ok (.ireturn, 1)) : Φ pc lv [.int v] μ := by
  obtain ⟨p, e, s, m, args, below, meth, c, hx, hb, hr, hml, hown, hts, hlocks, hK, hap, rfl⟩ := C
  exact fun H locs ls hP hS hl => W.zret hx hb hr hn (fun t ht hW => ⟨⟨v, μ, rfl, hp, by show va_P _ _ _ _; rw [ht]; exact hP⟩, hS.F ht⟩) hS.2.2 d
theorem la_vret (C : la_C Y l R own cc nL none Post Φ) (hp : Post 0 μ) (d : decode cc pc = .ok (.return_, 1)) : Φ pc lv [] μ := by
  obtain ⟨p, e, s, m, args, below, meth, c, hx, hb, hr, hml, hown, hts, hlocks, hK, hap, rfl⟩ := C
  exact fun H locs ls hP hS hl => W.vret hx hb hr (fun t ht hW => ⟨⟨μ, rfl, hp, by show va_P _ _ _ _; rw [ht]; exact hP⟩, hS.F ht⟩) hS.2.2 d
theorem la_nb {v : Int32} (h : la_isb v = true) : narrow .boolean (.int v) = .int v := by
  unfold la_isb at h
  simp only [Bool.or_eq_true, decide_eq_true_eq] at h
  rcases h with rfl | rfl <;> rfl
theorem la_blind (av : List Value) (μ : la_Mem) (sz : Nat) : FrameBlind (va_Pc av (la_Pre Y μ sz)) := fun a U g mk q => by
  obtain ⟨q0, q1, q2, qP, qK⟩ := q
  exact ⟨q0, q1, q2, qP, va_K.moved (u := U) (U := U.calling g mk a) (Vm.Alike.refl U.vm) qK⟩
theorem la_callV (C : la_C Y l R own cc nL ret Post Φ) {y : MethodName} {bytes : ByteArray} {maxL n idx ci N : Nat} {tyr : FieldType} {rm : Room} {Cn : String} {T : u_T} {fs : List Value} {a : Nat} (As : List Value) (rest : List Value) {r0 : Int32} {μ0 : la_Mem}
    (q : Nat) (ha : Y.2.2.1 q = a) (hM : la_M Y l y bytes maxL (some tyr) rm (.ref a :: As) μ (fun r' μ' => r' = r0 ∧ μ' = μ0))
    (hg : GoodIn wsL_law (wsV own idx Cn y (Cond.code y bytes maxL (some tyr) :: wsL_law)))
    (hd : y.cls = Cn ∧ y.cls ≠ "java/lang/invoke/MethodHandle" ∧ y.cls ≠ "java/lang/invoke/VarHandle" ∧ (parseMethodDescriptor y.desc).map (fun d => d.parameters.length) = some n)
    (hR : rm.frames + 1 ≤ R.frames ∧ 8 + (maxL + 11) + rm.locals ≤ R.locals) (hc0 : rm.cells = 0) (hs0 : rm.slots = 0)
    (hq : q < Y.1) (he : Y.2.1 q (μ q) = .inr (ci, fs)) (hc : vwCl[ci]? = some (Cn, T, N)) (hn : As.length = n) (hst : st = As.reverse ++ .ref a :: rest) (hW : (rest.map fun v => v.category).sum ≤ 8)
    (d : decode cc pc = .ok (.invokevirtual idx, 3)) (k : Φ (pc + 3) lv (.int r0 :: rest) μ0) : Φ pc lv st μ := by
  obtain ⟨p, e, s, m, args, below, meth, c, hx, hb, hr, hml, hown, hts, hlocks, hK, hap, rfl⟩ := C
  intro H locs ls hP hS hl
  have hF : ∀ x, la_A Y H.size x → la_A Y s.heap.size x := fun x h => h.elim Or.inl (fun h => Or.inr (Nat.le_trans hS.1 h))
  exact va_calli (va_runV (As := As) (rest := rest) ⟨hx, hb, hml, hown, hts⟩ (hM H.size) (cwV n hts hg rfl hc0 hs0 hd hR) ⟨la_blind _ _ _, ha ▸ va_recv hK hP (ci := ci) (q0 := q) hc (he ▸ la_get hq), fun U hU hW => ⟨rfl, by rw [hU], hap, by rw [hU]; exact hP, va_K.moved hW.alike hK⟩⟩ rfl hn hl.1 hst (lv_room hW) d ⟨Nat.zero_le _, Nat.zero_le _⟩) hS (fun x _ h => hF x h) hF
    (fun r u t H1 locs1 ht hvm hw hB hz1 hk1 hS1 => by
      obtain ⟨rfl, rfl⟩ := hw
      exact k H1 locs1 ls (ht ▸ hB) hS1 hl)
theorem la_callVv (C : la_C Y l R own cc nL ret Post Φ) {y : MethodName} {bytes : ByteArray} {maxL n idx ci N : Nat} {rm : Room} {Cn : String} {T : u_T} {fs : List Value} {a : Nat} (As : List Value) (rest : List Value) {μ0 : la_Mem}
    (q : Nat) (ha : Y.2.2.1 q = a) (hM : la_M Y l y bytes maxL none rm (.ref a :: As) μ (fun _ μ' => μ' = μ0))
    (hg : GoodIn wsL_law (wsV own idx Cn y (Cond.code y bytes maxL none :: wsL_law)))
    (hd : y.cls = Cn ∧ y.cls ≠ "java/lang/invoke/MethodHandle" ∧ y.cls ≠ "java/lang/invoke/VarHandle" ∧ (parseMethodDescriptor y.desc).map (fun d => d.parameters.length) = some n)
    (hR : rm.frames + 1 ≤ R.frames ∧ 8 + (maxL + 11) + rm.locals ≤ R.locals) (hc0 : rm.cells = 0) (hs0 : rm.slots = 0)
    (hq : q < Y.1) (he : Y.2.1 q (μ q) = .inr (ci, fs)) (hc : vwCl[ci]? = some (Cn, T, N)) (hn : As.length = n) (hst : st = As.reverse ++ .ref a :: rest) (hW : (rest.map fun v => v.category).sum ≤ 8)
    (d : decode cc pc = .ok (.invokevirtual idx, 3)) (k : Φ (pc + 3) lv rest μ0) : Φ pc lv st μ := by
  obtain ⟨p, e, s, m, args, below, meth, c, hx, hb, hr, hml, hown, hts, hlocks, hK, hap, rfl⟩ := C
  intro H locs ls hP hS hl
  have hF : ∀ x, la_A Y H.size x → la_A Y s.heap.size x := fun x h => h.elim Or.inl (fun h => Or.inr (Nat.le_trans hS.1 h))
  exact va_callv (va_runV (As := As) (rest := rest) ⟨hx, hb, hml, hown, hts⟩ (hM H.size) (cwV n hts hg rfl hc0 hs0 hd hR) ⟨la_blind _ _ _, ha ▸ va_recv hK hP (ci := ci) (q0 := q) hc (he ▸ la_get hq), fun U hU hW => ⟨rfl, by rw [hU], hap, by rw [hU]; exact hP, va_K.moved hW.alike hK⟩⟩ rfl hn hl.1 hst (lv_room hW) d ⟨Nat.zero_le _, Nat.zero_le _⟩) hS (fun x _ h => hF x h) hF
    (fun u t H1 locs1 ht hvm hw hB hz1 hk1 hS1 => by
      have hw : u = μ0 := hw
      subst hw
      exact k H1 locs1 ls (ht ▸ hB) hS1 hl)
theorem la_callS (C : la_C Y l R own cc nL ret Post Φ) {y : MethodName} {bytes : ByteArray} {maxL n idx : Nat} {tyr : FieldType} {rm : Room} (As : List Value) (rest : List Value) {r0 : Int32} {μ0 : la_Mem}
    (hM : la_M Y l y bytes maxL (some tyr) rm As μ (fun r' μ' => r' = r0 ∧ μ' = μ0))
    (hg : GoodIn wsL_law (va_wsS own idx y (Cond.code y bytes maxL (some tyr) :: wsL_law)))
    (hd : y.cls ≠ "java/lang/invoke/MethodHandle" ∧ y.cls ≠ "java/lang/invoke/VarHandle" ∧ (parseMethodDescriptor y.desc).map (fun d => d.parameters.length) = some n)
    (hR : rm.frames + 1 ≤ R.frames ∧ 8 + (maxL + 11) + rm.locals ≤ R.locals) (hc0 : rm.cells = 0) (hs0 : rm.slots = 0)
    (hn : As.length = n) (hst : st = As.reverse ++ rest) (hW : (rest.map fun v => v.category).sum ≤ 8)
    (d : decode cc pc = .ok (.invokestatic idx, 3)) (k : Φ (pc + 3) lv (.int r0 :: rest) μ0) : Φ pc lv st μ := by
  obtain ⟨p, e, s, m, args, below, meth, c, hx, hb, hr, hml, hown, hts, hlocks, hK, hap, rfl⟩ := C
  intro H locs ls hP hS hl
  have hF : ∀ x, la_A Y H.size x → la_A Y s.heap.size x := fun x h => h.elim Or.inl (fun h => Or.inr (Nat.le_trans hS.1 h))
  exact va_calli (va_runS (As := As) (rest := rest) ⟨hx, hb, hml, hown, hts⟩ (hM H.size) (va_cwS n hts hg rfl hc0 hs0 hd hR) ⟨la_blind _ _ _, fun U hU hW => ⟨rfl, by rw [hU], hap, by rw [hU]; exact hP, va_K.moved hW.alike hK⟩⟩ rfl hn hl.1 hst (lv_room hW) d ⟨Nat.zero_le _, Nat.zero_le _⟩) hS (fun x _ h => hF x h) hF
    (fun r u t H1 locs1 ht hvm hw hB hz1 hk1 hS1 => by
      obtain ⟨rfl, rfl⟩ := hw
      exact k H1 locs1 ls (ht ▸ hB) hS1 hl)
/-- a contract out of a walk -/
theorem la_of {y : MethodName} {rm : Room} {av : List Value} (hy : plainName y.cls = true) (hyc : y.cls = own) (hn : (lg_sl av).length ≤ nL) (hlv : lv_args 0 av = lv)
    (body : ∀ Φ : Nat → List (Nat × Value) → List Value → la_Mem → Prop, la_C Y l rm own cc nL ret Post Φ → Φ 0 lv [] μ) : la_M Y l y cc nL ret rm av μ Post := by
  intro sz
  refine Met.ofW (cc := cc) (maxL := nL) (ret := ret) hy rfl ?_
  intro p e s m args below meth c s₁ B hml hv
  obtain ⟨rfl, rfl, hap, hP, hK⟩ := hv
  have hts := atoms_spec (ws := Cond.code y cc nL ret :: wsL_law) B.pre
  have hown : s.vm.findClass own = some m.cls := hyc ▸ findClass_of_methodNamed B.named
  have hl := lv_entry av hn
  rw [lg_entry_eq]
  rw [hlv] at hl
  exact body _ ⟨p, e, s, m, av.toArray, below, meth, c, B.exec, B.bytes, B.returns, hml, hown, fun w hw => hts w (List.mem_cons_of_mem _ hw), B.notSynchronized, hK, hap, rfl⟩ s.heap [] _ hP va_S.rf hl
theorem la_nm (_ : la_C Y l R own cc nL ret Post Φ) {x v : Int32} (e : x = v) (k : Φ pc lv (.int x :: st) μ) : Φ pc lv (.int v :: st) μ := e ▸ k
theorem la_nmE (_ : la_C Y l R own cc nL ret Post Φ) {x v : Int32} (e : x = v) (k : Φ pc lv (.int v :: st) μ) : Φ pc lv (.int x :: st) μ := e ▸ k
theorem la_ne {x v : Int32} {z : Int} (h : ¬ x = v) (hz : v.toInt = z) : x.toInt ≠ z := fun q => h (Int32.toInt_inj.mp (q.trans hz.symm))
end LaRules
