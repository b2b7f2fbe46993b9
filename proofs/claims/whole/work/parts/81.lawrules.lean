/-! THE CLAIM OUT OF ONE WALK OF THE LAW'S BODY. Your part is whole_start (and what it stands on); all else here is the same for every law, but numbers. -/
def R_law : String := "LineCasterLaw"
def lw_P (b : Addr) (xs : List Int32) (args : Array Value) (s : State) : Prop := args = #[.ref b] ∧ s.IntsAt b xs ∧ xs.length ≤ 3584 ∧ (Jvm.Cond.and given_1 narrow_1).before args s = true
def lw_Q (_ : Array Value) (s : State) (o : Outcome) (t : State) : Prop := o = .returned (some (.int 1)) ∧ Framed s o t [] 600000 7302249
def lw_Z (below : List Frame) (a : Array Value) (s : State) : State → Prop := fun t => ∃ o, t.status = .running ∧ Ended t below o ∧ lw_Q a s o t
/-- the law's own end, with 1 on the stack, nothing written that was there before, its room as the claim has it -/
theorem lw_ret {p : Program} {l : Launch} {e : Env} {s : State} {m : MethodId} {below : List Frame} {meth : Method} {c : Code} {b : Nat} (hx : p.tables.exec = Jvm.exec) (hb : c.code = code) (hr : meth.sig.returnType = ret) (hlocks : meth.locks = false) {pc : Nat} {H : Heap} {ls : Array Slot} (hdg : decode code pc = .ok (.ireturn, 1)) : W p l e room_1 s m #[Value.ref b] below meth c H [] 600000 7302249 (lw_Z below #[Value.ref b] s) (F0 m pc ls [.int 1]) := by
  intro T hT X
  obtain ⟨fs, hret, hrun, hended, hW, hframe⟩ := X.leave (v := some (.int 1)) (hlocks := hlocks) (fun h => by rw [hr] at h; cases h)
  have hmeth' : T.vm.method? m = some meth := X.method'
  refine ⟨T.setFrames fs, ?_, .returned (some (.int 1)), hrun, hended, rfl, ⟨_, rfl⟩, hW, hframe⟩
  jvm_step X.here [X.here.top, hx, hb, hdg, hmeth', hr, ret, narrow_b1]
  (try refine ⟨rfl, ?_⟩); (try refine ⟨rfl, ?_⟩)
  first | (intro acts; rw [hret _ acts rfl rfl rfl]) | rw [hret _ _ rfl rfl rfl]
  exact Steps.refl _
/-- what holds at the law's entry: the machine, the code, the tables' words (any of lw_tbl by 'hts w (by decide +kernel)'), the script of L ints xs at the cell b, what the Statement gives of the start (any of its parts by flat_of_before) -/
def lw_At (p : Program) (s : State) (m : MethodId) (meth : Method) (c : Code) (b L : Nat) (xs : Nat → Int32) : Prop :=
  p.tables.exec = Jvm.exec ∧ c.code = code ∧ meth.sig.returnType = ret ∧ c.maxLocals = 4 ∧ s.vm.findClass R_law = some m.cls ∧ (∀ w ∈ lw_tbl, w.before #[Value.ref b] s = true) ∧ va_X b L xs s s.heap ∧ b < s.heap.size ∧ meth.locks = false ∧ (Jvm.Cond.and given_1 narrow_1).before #[Value.ref b] s = true
/-! the law: two systems side by side, class and reference, and the script -/
def lj_C (zc : LCz) (zm : LMz) (l : Launch) (b L : Nat) (xs : Nat → Int32) (Ψ : Nat → List (Nat × Value) → List Value → la_Mem → la_Mem → Prop) : Prop :=
  ∃ (p : Program) (e : Env) (s : State) (m : MethodId) (below : List Frame) (meth : Method) (c : Code),
    p.tables.exec = Jvm.exec ∧ c.code = code ∧ meth.sig.returnType = ret ∧ c.maxLocals = 4 ∧ s.vm.findClass RL = some m.cls ∧ (∀ w ∈ wsL_law, w.before #[Value.ref b] s = true) ∧ meth.locks = false ∧ va_K zc.2.2 vwCl (LC zc).2.2.2.1 s ∧ va_K zm.2.2 vwCl (LM zm).2.2.2.1 s ∧ la_ap (LC zc) ∧ la_ap (LM zm) ∧
    (∀ i j, i < 88 → j < 26 → zc.2.1 i ≠ zm.2.1 j) ∧ (∀ i, i < 88 → s.heap.size ≤ zc.2.1 i) ∧ (∀ i, i < 26 → s.heap.size ≤ zm.2.1 i) ∧ va_X b L xs s s.heap ∧ b < s.heap.size ∧
    Ψ = fun pc lv st μ ν => ∀ (H : Heap) (locs : List Loc) (ls : Array Slot), va_P zc.2.2 vwCl (la_cells (LC zc) μ) H → va_P zm.2.2 vwCl (la_cells (LM zm) ν) H → va_S (fun q : Nat => s.heap.size ≤ q) s.heap H locs → lv_has ls 4 lv →
      W p l e room_1 s m #[Value.ref b] below meth c H locs 600000 7302249 (lw_Z below #[Value.ref b] s) (F0 m pc ls st)
section LjRules
variable {zc : LCz} {zm : LMz} {l : Launch} {b L : Nat} {xs : Nat → Int32} {Ψ : Nat → List (Nat × Value) → List Value → la_Mem → la_Mem → Prop}
variable {pc : Nat} {lv : List (Nat × Value)} {st : List Value} {μ ν : la_Mem}
theorem lj_kept {Y1 Y2 : la_Lay} {μ2 : la_Mem} {D : va_G} {H H1 : Heap} (hP : va_P D vwCl (la_cells Y2 μ2) H) (hdj : ∀ i j, i < Y1.1 → j < Y2.1 → Y1.2.2.1 i ≠ Y2.2.2.1 j) (hk : ∀ q : Nat, q < H.size → ¬ la_A Y1 H.size q → H1[q]? = H[q]?) : va_P D vwCl (la_cells Y2 μ2) H1 := by
  intro k q hq
  have h0 := hP k q hq
  obtain ⟨hk2, e⟩ := la_got hq
  refine h0.kept (hk q.1 h0.lt (fun h => ?_))
  rcases h with ⟨i, hi, e2⟩ | h
  · exact hdj i k hi hk2 (by rw [← e2, e])
  · exact absurd h0.lt (Nat.not_lt.mpr h)
theorem lj_iconst (C : lj_C zc zm l b L xs Ψ) {n : Int} {v : Int32} (d : decode code pc = .ok (.iconst n, 1)) (hv : Int32.ofInt n = v) (k : Ψ (pc + 1) lv (.int v :: st) μ ν) : Ψ pc lv st μ ν := by
  obtain ⟨p, e, s, m, below, meth, c, hx, hb, hr, hml, hown, hts, hlocks, hKc, hKm, hac, ham, hdj, hlc, hlm, hX, hbl, rfl⟩ := C
  exact fun H locs ls hP hQ hS hl => lv_iconst hx hb d hv (k H locs ls hP hQ hS hl)
theorem lj_bipush (C : lj_C zc zm l b L xs Ψ) {n : Int} {v : Int32} (d : decode code pc = .ok (.bipush n, 2)) (hv : (Int8.ofInt n).toInt32 = v) (k : Ψ (pc + 2) lv (.int v :: st) μ ν) : Ψ pc lv st μ ν := by
  obtain ⟨p, e, s, m, below, meth, c, hx, hb, hr, hml, hown, hts, hlocks, hKc, hKm, hac, ham, hdj, hlc, hlm, hX, hbl, rfl⟩ := C
  exact fun H locs ls hP hQ hS hl => lv_bipush hx hb d hv (k H locs ls hP hQ hS hl)
theorem lj_ldc2 (C : lj_C zc zm l b L xs Ψ) {index : Nat} {v : Int64} (hw : Cond.constantLong RL index v ∈ wsL_law) (d : decode code pc = .ok (.ldc2_w index, 3)) (k : Ψ (pc + 3) lv (.long v :: st) μ ν) : Ψ pc lv st μ ν := by
  obtain ⟨p, e, s, m, below, meth, c, hx, hb, hr, hml, hown, hts, hlocks, hKc, hKm, hac, ham, hdj, hlc, hlm, hX, hbl, rfl⟩ := C
  exact fun H locs ls hP hQ hS hl => lv_ldc2 hx hb hown (hts _ hw) d (k H locs ls hP hQ hS hl)
theorem lj_iload_n (C : lj_C zc zm l b L xs Ψ) {q : Fin 4} {x : Int32} (d : decode code pc = .ok (.iload_n q, 1)) (j : Nat) (h : lv[j]? = some ((q : Nat), .int x)) (k : Ψ (pc + 1) lv (.int x :: st) μ ν) : Ψ pc lv st μ ν := by
  obtain ⟨p, e, s, m, below, meth, c, hx, hb, hr, hml, hown, hts, hlocks, hKc, hKm, hac, ham, hdj, hlc, hlm, hX, hbl, rfl⟩ := C
  exact fun H locs ls hP hQ hS hl => lv_iload_n hx hb d rfl (lv_at hl j h) (k H locs ls hP hQ hS hl)
theorem lj_aload_n (C : lj_C zc zm l b L xs Ψ) {q : Fin 4} {x : Nat} (d : decode code pc = .ok (.aload_n q, 1)) (j : Nat) (h : lv[j]? = some ((q : Nat), .ref x)) (k : Ψ (pc + 1) lv (.ref x :: st) μ ν) : Ψ pc lv st μ ν := by
  obtain ⟨p, e, s, m, below, meth, c, hx, hb, hr, hml, hown, hts, hlocks, hKc, hKm, hac, ham, hdj, hlc, hlm, hX, hbl, rfl⟩ := C
  exact fun H locs ls hP hQ hS hl => lv_aload_n hx hb d rfl (lv_at hl j h) (k H locs ls hP hQ hS hl)
theorem lj_iinc (C : lj_C zc zm l b L xs Ψ) {i : Nat} {n : Int} {x v : Int32} {lv1 : List (Nat × Value)} (d : decode code pc = .ok (.iinc i n, 3)) (j : Nat) (hj : lv[j]? = some (i, .int x)) (hv : x + Int32.ofInt n = v) (hn : i < 4) (h : (i, Value.int v) :: lv.filter (fun q => !(q.1 == i) && !(q.1 + 1 == i && q.2.category == 2)) = lv1) (k : Ψ (pc + 3) lv1 st μ ν) : Ψ pc lv st μ ν := by
  obtain ⟨p, e, s, m, below, meth, c, hx, hb, hr, hml, hown, hts, hlocks, hKc, hKm, hac, ham, hdj, hlc, hlm, hX, hbl, rfl⟩ := C
  exact fun H locs ls hP hQ hS hl => lv_iinc hx hb d hl hj hv hn h (fun ls hl => k H locs ls hP hQ hS hl)
theorem lj_sub (C : lj_C zc zm l b L xs Ψ) {lv1 : List (Nat × Value)} (js : List Nat) (h : lv_pick lv js = lv1) (k : Ψ pc lv1 st μ ν) : Ψ pc lv st μ ν := by
  obtain ⟨p, e, s, m, below, meth, c, hx, hb, hr, hml, hown, hts, hlocks, hKc, hKm, hac, ham, hdj, hlc, hlm, hX, hbl, rfl⟩ := C
  exact fun H locs ls hP hQ hS hl => k H locs ls hP hQ hS (lv_sub hl js h)
theorem lj_iadd (C : lj_C zc zm l b L xs Ψ) {x y : Int32} (d : decode code pc = .ok (.iadd, 1)) (k : Ψ (pc + 1) lv (.int (x + y) :: st) μ ν) : Ψ pc lv (.int y :: .int x :: st) μ ν := by
  obtain ⟨p, e, s, m, below, meth, c, hx, hb, hr, hml, hown, hts, hlocks, hKc, hKm, hac, ham, hdj, hlc, hlm, hX, hbl, rfl⟩ := C
  exact fun H locs ls hP hQ hS hl => lv_iadd hx hb d (k H locs ls hP hQ hS hl)
theorem lj_isub (C : lj_C zc zm l b L xs Ψ) {x y : Int32} (d : decode code pc = .ok (.isub, 1)) (k : Ψ (pc + 1) lv (.int (x - y) :: st) μ ν) : Ψ pc lv (.int y :: .int x :: st) μ ν := by
  obtain ⟨p, e, s, m, below, meth, c, hx, hb, hr, hml, hown, hts, hlocks, hKc, hKm, hac, ham, hdj, hlc, hlm, hX, hbl, rfl⟩ := C
  exact fun H locs ls hP hQ hS hl => lv_isub hx hb d (k H locs ls hP hQ hS hl)
theorem lj_iand (C : lj_C zc zm l b L xs Ψ) {x y : Int32} (d : decode code pc = .ok (.iand, 1)) (k : Ψ (pc + 1) lv (.int (x &&& y) :: st) μ ν) : Ψ pc lv (.int y :: .int x :: st) μ ν := by
  obtain ⟨p, e, s, m, below, meth, c, hx, hb, hr, hml, hown, hts, hlocks, hKc, hKm, hac, ham, hdj, hlc, hlm, hX, hbl, rfl⟩ := C
  exact fun H locs ls hP hQ hS hl => lv_iand hx hb d (k H locs ls hP hQ hS hl)
theorem lj_land (C : lj_C zc zm l b L xs Ψ) {x y : Int64} (d : decode code pc = .ok (.land, 1)) (k : Ψ (pc + 1) lv (.long (x &&& y) :: st) μ ν) : Ψ pc lv (.long y :: .long x :: st) μ ν := by
  obtain ⟨p, e, s, m, below, meth, c, hx, hb, hr, hml, hown, hts, hlocks, hKc, hKm, hac, ham, hdj, hlc, hlm, hX, hbl, rfl⟩ := C
  exact fun H locs ls hP hQ hS hl => lv_land hx hb d (k H locs ls hP hQ hS hl)
theorem lj_lor (C : lj_C zc zm l b L xs Ψ) {x y : Int64} (d : decode code pc = .ok (.lor, 1)) (k : Ψ (pc + 1) lv (.long (x ||| y) :: st) μ ν) : Ψ pc lv (.long y :: .long x :: st) μ ν := by
  obtain ⟨p, e, s, m, below, meth, c, hx, hb, hr, hml, hown, hts, hlocks, hKc, hKm, hac, ham, hdj, hlc, hlm, hX, hbl, rfl⟩ := C
  exact fun H locs ls hP hQ hS hl => lv_lor hx hb d (k H locs ls hP hQ hS hl)
theorem lj_lshl (C : lj_C zc zm l b L xs Ψ) {x : Int64} {y : Int32} (d : decode code pc = .ok (.lshl, 1)) (k : Ψ (pc + 1) lv (.long (x <<< (y.toInt64 &&& 63)) :: st) μ ν) : Ψ pc lv (.int y :: .long x :: st) μ ν := by
  obtain ⟨p, e, s, m, below, meth, c, hx, hb, hr, hml, hown, hts, hlocks, hKc, hKm, hac, ham, hdj, hlc, hlm, hX, hbl, rfl⟩ := C
  exact fun H locs ls hP hQ hS hl => lv_lshl hx hb d rfl (k H locs ls hP hQ hS hl)
theorem lj_i2l (C : lj_C zc zm l b L xs Ψ) {x : Int32} (d : decode code pc = .ok (.i2l, 1)) (k : Ψ (pc + 1) lv (.long (x.toInt64) :: st) μ ν) : Ψ pc lv (.int x :: st) μ ν := by
  obtain ⟨p, e, s, m, below, meth, c, hx, hb, hr, hml, hown, hts, hlocks, hKc, hKm, hac, ham, hdj, hlc, hlm, hX, hbl, rfl⟩ := C
  exact fun H locs ls hP hQ hS hl => lv_i2l hx hb d rfl (k H locs ls hP hQ hS hl)
theorem lj_gt (C : lj_C zc zm l b L xs Ψ) {x y : Int32} {off : Int} {tgt : Nat} (d : decode code pc = .ok (.if_icmp .gt off, 3)) (ht : (pc : Int) + off = (tgt : Int)) (kt : y < x → Ψ tgt lv st μ ν) (kf : ¬ y < x → Ψ (pc + 3) lv st μ ν) : Ψ pc lv (.int y :: .int x :: st) μ ν := by
  obtain ⟨p, e, s, m, below, meth, c, hx, hb, hr, hml, hown, hts, hlocks, hKc, hKm, hac, ham, hdj, hlc, hlm, hX, hbl, rfl⟩ := C
  exact fun H locs ls hP hQ hS hl => lv_icmp_gt hx hb d ht (fun q => kt q H locs ls hP hQ hS hl) (fun q => kf q H locs ls hP hQ hS hl)
theorem lj_eqT (C : lj_C zc zm l b L xs Ψ) {x : Int32} {off : Int} {tgt : Nat} (d : decode code pc = .ok (.if_icmp .eq off, 3)) (ht : (pc : Int) + off = (tgt : Int)) (k : Ψ tgt lv st μ ν) : Ψ pc lv (.int x :: .int x :: st) μ ν := by
  obtain ⟨p, e, s, m, below, meth, c, hx, hb, hr, hml, hown, hts, hlocks, hKc, hKm, hac, ham, hdj, hlc, hlm, hX, hbl, rfl⟩ := C
  exact fun H locs ls hP hQ hS hl => lv_icmp_eq hx hb d ht (fun _ => (k H locs ls hP hQ hS hl)) (fun q => absurd rfl q)
theorem lj_goto (C : lj_C zc zm l b L xs Ψ) {off : Int} {tgt : Nat} (d : decode code pc = .ok (.goto off, 3)) (ht : (pc : Int) + off = (tgt : Int)) (k : Ψ tgt lv st μ ν) : Ψ pc lv st μ ν := by
  obtain ⟨p, e, s, m, below, meth, c, hx, hb, hr, hml, hown, hts, hlocks, hKc, hKm, hac, ham, hdj, hlc, hlm, hX, hbl, rfl⟩ := C
  exact fun H locs ls hP hQ hS hl => lv_goto hx hb d ht (k H locs ls hP hQ hS hl)
theorem lj_tabIn (C : lj_C zc zm l b L xs Ψ) {dflt lo hi : Int} {offs : Array Int} {len : Nat} {x : Int32} {off : Int} {tgt : Nat} (d : decode code pc = .ok (.tableswitch dflt lo hi offs, len)) (h1 : ¬ x.toInt < lo) (h2 : ¬ hi < x.toInt) (ho : offs[(x.toInt - lo).toNat]? = some off) (ht : (pc : Int) + off = (tgt : Int)) (k : Ψ tgt lv st μ ν) : Ψ pc lv (.int x :: st) μ ν := by
  obtain ⟨p, e, s, m, below, meth, c, hx, hb, hr, hml, hown, hts, hlocks, hKc, hKm, hac, ham, hdj, hlc, hlm, hX, hbl, rfl⟩ := C
  exact fun H locs ls hP hQ hS hl => lv_tableIn hx hb d h1 h2 ho ht (k H locs ls hP hQ hS hl)
theorem lj_tabOut (C : lj_C zc zm l b L xs Ψ) {dflt lo hi : Int} {offs : Array Int} {len : Nat} {x : Int32} {tgt : Nat} (d : decode code pc = .ok (.tableswitch dflt lo hi offs, len)) (h1 : x.toInt < lo ∨ hi < x.toInt) (ht : (pc : Int) + dflt = (tgt : Int)) (k : Ψ tgt lv st μ ν) : Ψ pc lv (.int x :: st) μ ν := by
  obtain ⟨p, e, s, m, below, meth, c, hx, hb, hr, hml, hown, hts, hlocks, hKc, hKm, hac, ham, hdj, hlc, hlm, hX, hbl, rfl⟩ := C
  exact fun H locs ls hP hQ hS hl => lv_tableOut hx hb d h1 ht (k H locs ls hP hQ hS hl)
theorem lj_sld (C : lj_C zc zm l b L xs Ψ) {i : Int32} (hi : la_ix i L = true) (d : decode code pc = .ok (.iaload, 1)) (k : Ψ (pc + 1) lv (.int (xs i.toNatClampNeg) :: st) μ ν) : Ψ pc lv (.int i :: .ref b :: st) μ ν := by
  obtain ⟨p, e, s, m, below, meth, c, hx, hb, hr, hml, hown, hts, hlocks, hKc, hKm, hac, ham, hdj, hlc, hlm, hX, hbl, rfl⟩ := C
  exact fun H locs ls hP hQ hS hl => va_sld hx hb hX hbl (Nat.not_le.mpr hbl) hS (la_ix_in hi) d (k H locs ls hP hQ hS hl)
theorem lj_slen (C : lj_C zc zm l b L xs Ψ) (d : decode code pc = .ok (.arraylength, 1)) (k : Ψ (pc + 1) lv (.int (nI L) :: st) μ ν) : Ψ pc lv (.ref b :: st) μ ν := by
  obtain ⟨p, e, s, m, below, meth, c, hx, hb, hr, hml, hown, hts, hlocks, hKc, hKm, hac, ham, hdj, hlc, hlm, hX, hbl, rfl⟩ := C
  exact fun H locs ls hP hQ hS hl => va_slen hx hb hX hbl (Nat.not_le.mpr hbl) hS d (k H locs ls hP hQ hS hl)
theorem lj_end (C : lj_C zc zm l b L xs Ψ) (d : decode code pc = .ok (.ireturn, 1))  : Ψ pc lv [.int 1] μ ν := by
  obtain ⟨p, e, s, m, below, meth, c, hx, hb, hr, hml, hown, hts, hlocks, hKc, hKm, hac, ham, hdj, hlc, hlm, hX, hbl, rfl⟩ := C
  exact fun H locs ls hP hQ hS hl => va_forget (fun q hq => hS.2.2 q hq) (lw_ret hx hb hr hlocks d)
theorem lj_callC (C : lj_C zc zm l b L xs Ψ) {y : MethodName} {bytes : ByteArray} {maxL n idx : Nat} {tyr : FieldType} {rm : Room} (As rest : List Value) {r0 : Int32} {μ0 : la_Mem}
    (hM : la_M (LC zc) l y bytes maxL (some tyr) rm (.ref (zc.2.1 0) :: As) μ (fun r' μ' => r' = r0 ∧ μ' = μ0))
    (hg : GoodIn wsL_law (wsV RL idx RX7 y (Cond.code y bytes maxL (some tyr) :: wsL_law)))
    (hd : y.cls = RX7 ∧ y.cls ≠ "java/lang/invoke/MethodHandle" ∧ y.cls ≠ "java/lang/invoke/VarHandle" ∧ (parseMethodDescriptor y.desc).map (fun d => d.parameters.length) = some n)
    (hR : rm.frames + 1 ≤ room_1.frames ∧ 8 + (maxL + 11) + rm.locals ≤ room_1.locals) (hc0 : rm.cells = 0) (hs0 : rm.slots = 0) (hn : As.length = n) (hst : st = As.reverse ++ .ref (zc.2.1 0) :: rest) (hW : (rest.map fun v => v.category).sum ≤ 8)
    (d : decode code pc = .ok (.invokevirtual idx, 3)) (k : Ψ (pc + 3) lv (.int r0 :: rest) μ0 ν) : Ψ pc lv st μ ν := by
  obtain ⟨p, e, s, m, below, meth, c, hx, hb, hr, hml, hown, hts, hlocks, hKc, hKm, hac, ham, hdj, hlc, hlm, hX, hbl, rfl⟩ := C
  intro H locs ls hP hQ hS hl
  have hF : ∀ x, la_A (LC zc) H.size x → s.heap.size ≤ x := fun x h => by
    rcases h with ⟨i, hi, rfl⟩ | h
    · exact hlc i hi
    · exact Nat.le_trans hS.1 h
  exact va_calli (va_runV (As := As) (rest := rest) ⟨hx, hb, hml, hown, hts⟩ (hM H.size) (cwV n hts hg rfl hc0 hs0 hd hR) ⟨la_blind _ _ _, va_recv hKc hP (ci := 7) (q0 := 0) (q := (RX7, TX7, 12)) rfl ((enLC_0 zc _) ▸ la_get (Y := LC zc) (Nat.le_of_ble_eq_true rfl)), fun U hU hW => ⟨rfl, by rw [hU], hac, by rw [hU]; exact hP, va_K.moved hW.alike hKc⟩⟩ rfl hn hl.1 hst (lv_room hW) d ⟨Nat.le_of_ble_eq_true rfl, Nat.le_of_ble_eq_true rfl⟩) hS (fun x _ h => hF x h) hF
    (fun r u t H1 locs1 ht hvm hw hB hz1 hk1 hS1 => by
      obtain ⟨rfl, rfl⟩ := hw
      exact k H1 locs1 ls (ht ▸ hB) (lj_kept (Y1 := LC zc) hQ (fun i j hi hj => hdj i j hi hj) hk1) hS1 hl)
theorem lj_callM (C : lj_C zc zm l b L xs Ψ) {y : MethodName} {bytes : ByteArray} {maxL n idx : Nat} {tyr : FieldType} {rm : Room} (As rest : List Value) {r0 : Int32} {μ0 : la_Mem}
    (hM : la_M (LM zm) l y bytes maxL (some tyr) rm (.ref (zm.2.1 0) :: As) ν (fun r' μ' => r' = r0 ∧ μ' = μ0))
    (hg : GoodIn wsL_law (wsV RL idx RX8 y (Cond.code y bytes maxL (some tyr) :: wsL_law)))
    (hd : y.cls = RX8 ∧ y.cls ≠ "java/lang/invoke/MethodHandle" ∧ y.cls ≠ "java/lang/invoke/VarHandle" ∧ (parseMethodDescriptor y.desc).map (fun d => d.parameters.length) = some n)
    (hR : rm.frames + 1 ≤ room_1.frames ∧ 8 + (maxL + 11) + rm.locals ≤ room_1.locals) (hc0 : rm.cells = 0) (hs0 : rm.slots = 0) (hn : As.length = n) (hst : st = As.reverse ++ .ref (zm.2.1 0) :: rest) (hW : (rest.map fun v => v.category).sum ≤ 8)
    (d : decode code pc = .ok (.invokevirtual idx, 3)) (k : Ψ (pc + 3) lv (.int r0 :: rest) μ μ0) : Ψ pc lv st μ ν := by
  obtain ⟨p, e, s, m, below, meth, c, hx, hb, hr, hml, hown, hts, hlocks, hKc, hKm, hac, ham, hdj, hlc, hlm, hX, hbl, rfl⟩ := C
  intro H locs ls hP hQ hS hl
  have hF : ∀ x, la_A (LM zm) H.size x → s.heap.size ≤ x := fun x h => by
    rcases h with ⟨i, hi, rfl⟩ | h
    · exact hlm i hi
    · exact Nat.le_trans hS.1 h
  exact va_calli (va_runV (As := As) (rest := rest) ⟨hx, hb, hml, hown, hts⟩ (hM H.size) (cwV n hts hg rfl hc0 hs0 hd hR) ⟨la_blind _ _ _, va_recv hKm hQ (ci := 8) (q0 := 0) (q := (RX8, TX8, 34)) rfl ((enLM_0 zm _) ▸ la_get (Y := LM zm) (Nat.le_of_ble_eq_true rfl)), fun U hU hW => ⟨rfl, by rw [hU], ham, by rw [hU]; exact hQ, va_K.moved hW.alike hKm⟩⟩ rfl hn hl.1 hst (lv_room hW) d ⟨Nat.le_of_ble_eq_true rfl, Nat.le_of_ble_eq_true rfl⟩) hS (fun x _ h => hF x h) hF
    (fun r u t H1 locs1 ht hvm hw hB hz1 hk1 hS1 => by
      obtain ⟨rfl, rfl⟩ := hw
      exact k H1 locs1 ls (lj_kept (Y1 := LM zm) hP (fun i j hi hj q => hdj j i hj hi q.symm) hk1) (ht ▸ hB) hS1 hl)
end LjRules
