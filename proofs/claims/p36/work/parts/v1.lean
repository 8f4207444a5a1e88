theorem gj_20 : Cond.initialized RX10 ∈ goodTbl := mgP tb_1 1 rfl (by decide +kernel)
theorem gj_41 : Cond.classLink RL 20 "HallRegisters" ∈ goodTbl := mgP tb_1 22 rfl (by decide +kernel)
theorem gj_42 : Cond.instantiable RX10 17 ∈ goodTbl := mgP tb_1 23 rfl (by decide +kernel)
theorem gj_43 : Cond.methodLink RL 71 yX10_init ∈ goodTbl := mgP tb_1 24 rfl (by decide +kernel)
theorem gj_44 : Cond.instanceMethod yX10_init ∈ goodTbl := mgP tb_1 25 rfl (by decide +kernel)
theorem gj_50 : Cond.instantiable RX8 3 ∈ goodTbl := mgP tb_1 31 rfl (by decide +kernel)
theorem gj_56 : Cond.instantiable RX6 3 ∈ goodTbl := mgP tb_1 37 rfl (by decide +kernel)
theorem gj_91 : Cond.arrayClass .long ∈ goodTbl := mgP tb_1 72 rfl (by decide +kernel)
theorem gj_94 : Cond.instantiable RX2 7 ∈ goodTbl := mgP tb_1 75 rfl (by decide +kernel)
theorem gj_124 : Cond.instantiable RX4 9 ∈ goodTbl := mgP tb_1 105 rfl (by decide +kernel)
theorem gj_133 : Cond.instantiable RX9 4 ∈ goodTbl := mgP tb_1 114 rfl (by decide +kernel)
theorem gj_185 : Cond.instantiable RX0 8 ∈ goodTbl := mgP tb_1 166 rfl (by decide +kernel)
theorem gj_216 : Cond.instantiable RX7 11 ∈ goodTbl := mgP tb_1 197 rfl (by decide +kernel)
theorem gj_222 : Cond.instantiable RX3 3 ∈ goodTbl := mgP tb_1 203 rfl (by decide +kernel)
theorem gj_275 : Cond.instantiable RX1 10 ∈ goodTbl := mgP tb_2 16 rfl (by decide +kernel)
theorem gj_314 : Cond.instantiable RX5 11 ∈ goodTbl := mgP tb_2 55 rfl (by decide +kernel)
/-! THE CLAIM OUT OF ONE WALK OF THE LAW'S BODY. Your part is whole_start (and what it stands on); all else here is the same for every law, but numbers. -/
def R_law : String := "HallRegistersLaw"
def lw_P (b : Addr) (xs : List Int32) (args : Array Value) (s : State) : Prop := args = #[.ref b] ∧ s.IntsAt b xs ∧ xs.length ≤ 260 ∧ (Jvm.Cond.and given_1 narrow_1).before args s = true
def lw_Q (_ : Array Value) (s : State) (o : Outcome) (t : State) : Prop := o = .returned (some (.int 1)) ∧ Framed s o t [] 600000 7302250
def lw_Z (below : List Frame) (a : Array Value) (s : State) : State → Prop := fun t => ∃ o, t.status = .running ∧ Ended t below o ∧ lw_Q a s o t
/-- the law's own end, with 1 on the stack, nothing written that was there before, its room as the claim has it -/
theorem lw_ret {p : Program} {l : Launch} {e : Env} {s : State} {m : MethodId} {below : List Frame} {meth : Method} {c : Code} {b : Nat} (hx : p.tables.exec = Jvm.exec) (hb : c.code = code) (hr : meth.sig.returnType = ret) (hlocks : meth.locks = false) {pc : Nat} {H : Heap} {ls : Array Slot} (hdg : decode code pc = .ok (.ireturn, 1)) : W p l e room_1 s m #[Value.ref b] below meth c H [] 600000 7302250 (lw_Z below #[Value.ref b] s) (F0 m pc ls [.int 1]) := by
  intro T hT X
  obtain ⟨fs, hret, hrun, hended, hW, hframe⟩ := X.leave (v := some (.int 1)) (hlocks := hlocks) (fun h => by rw [hr] at h; cases h)
  have hmeth' : T.vm.method? m = some meth := X.method'
  refine ⟨T.setFrames fs, ?_, .returned (some (.int 1)), hrun, hended, rfl, ⟨_, rfl⟩, hW, hframe⟩
  jvm_step X.here [X.here.top, hx, hb, hdg, hmeth', hr, ret, narrow_b1]
  (try refine ⟨rfl, ?_⟩); (try refine ⟨rfl, ?_⟩)
  first | (intro acts; rw [hret _ acts rfl rfl rfl]) | rw [hret _ _ rfl rfl rfl]
  exact Steps.refl _
/-- what holds at the law's entry: the machine, the code, the tables' words (any of lw_tbl by 'hts w (by decide +kernel)'), the script of L ints xs at the cell b, what the Statement gives of the start (any of its parts by flat_of_before) -/
def lw_At (p : Program) (s : State) (m : MethodId) (meth : Method) (c : Code) (b L : Nat) (xs : Nat → Int32) : Prop :=
  p.tables.exec = Jvm.exec ∧ c.code = code ∧ meth.sig.returnType = ret ∧ c.maxLocals = 9 ∧ s.vm.findClass R_law = some m.cls ∧ (∀ w ∈ lw_tbl, w.before #[Value.ref b] s = true) ∧ va_X b L xs s s.heap ∧ b < s.heap.size ∧ meth.locks = false ∧ (Jvm.Cond.and given_1 narrow_1).before #[Value.ref b] s = true
theorem arrT {s : State} {b : Nat} {ty : FieldType} (h : (Cond.arrayClass ty).before #[Value.ref b] s = true) : ∃ cA : ClassId, ArrOfT s cA ty ∧ s.vm.findClass ("[" ++ ty.toString) = some cA := by
  obtain ⟨c, k, comp, h1, h2, h3⟩ := Cond.arrayClass_spec h
  exact ⟨c, fun n z => ⟨(fun k h => by cases h), k, h2, comp, h3⟩, h1⟩
theorem arrO {s : State} {b : Nat} {C : String} (h : (Cond.arrayOver (.object C)).before #[Value.ref b] s = true) : ∃ cA : ClassId, ArrOfT s cA (.object C) ∧ va_RA s cA (.object C) := by
  obtain ⟨comp, c, k, h1, h2, h3, h4, h5⟩ := Cond.arrayOver_spec h
  exact ⟨c, fun n z => ⟨(fun k h => by cases h), k, h3, comp, h4⟩, k, comp, h3, h4, h1, h5⟩
theorem arrLL {s : State} (h : AOL s) : ∃ cA : ClassId, ArrOfT s cA (.array .long) ∧ va_RA s cA (.array .long) := by
  obtain ⟨comp, c, k, h1, h2, h3, h4, h5⟩ := arrayOverA_spec h
  exact ⟨c, fun n z => ⟨(fun k h => by cases h), k, h3, comp, h4⟩, h5⟩
section ST
variable {s : State} {b : Nat}
def HG (s : State) (b : Nat) : Prop := (Jvm.Cond.and given_1 narrow_1).before #[Value.ref b] s = true
set_option maxRecDepth 20000 in
theorem tabT_0 {A : Nat → Prop} (h : HG s b) (hA : ∀ a : Nat, a < s.heap.size → ¬ A a) : ∃ t : Nat, (Term.static "HallRegisters" "KIND_SIZES" "[I").eval #[Value.ref b] s none [] s = some (.ref t) ∧ va_T .int t 4 (fun j => .int (tab 0 j)) A s s.heap := by
  have hs := flat_of_before _ h
  refine va_Tof (Nat.lt_of_lt_of_le (ltb (b := 64) rfl) (by decide)) (hs (Cond.arrayOf (Term.static "HallRegisters" "KIND_SIZES" "[I") .int) (by decide +kernel)) (va_eqt (hs (Cond.eq (.length (Term.static "HallRegisters" "KIND_SIZES" "[I")) (.int 4)) (by decide +kernel))) (fun j hj => ?_) hA
  have z0 := va_eqt (hs (Cond.eq (.elem (Term.static "HallRegisters" "KIND_SIZES" "[I") (.int 0)) (.int 3)) (by decide +kernel))
  have z1 := va_eqt (hs (Cond.eq (.elem (Term.static "HallRegisters" "KIND_SIZES" "[I") (.int 1)) (.int 5)) (by decide +kernel))
  have z2 := va_eqt (hs (Cond.eq (.elem (Term.static "HallRegisters" "KIND_SIZES" "[I") (.int 2)) (.int 6)) (by decide +kernel))
  have z3 := va_eqt (hs (Cond.eq (.elem (Term.static "HallRegisters" "KIND_SIZES" "[I") (.int 3)) (.int 6)) (by decide +kernel))
  match j, hj with
  | 0, _ => exact z0
  | 1, _ => exact z1
  | 2, _ => exact z2
  | 3, _ => exact z3
  | j + 4, hj => exact absurd hj (by omega)
set_option maxRecDepth 20000 in
theorem tabT_1 {A : Nat → Prop} (h : HG s b) (hA : ∀ a : Nat, a < s.heap.size → ¬ A a) : ∃ t : Nat, (Term.static "HallRegisters" "KIND_WEIGHTS" "[I").eval #[Value.ref b] s none [] s = some (.ref t) ∧ va_T .int t 4 (fun j => .int (tab 1 j)) A s s.heap := by
  have hs := flat_of_before _ h
  refine va_Tof (Nat.lt_of_lt_of_le (ltb (b := 64) rfl) (by decide)) (hs (Cond.arrayOf (Term.static "HallRegisters" "KIND_WEIGHTS" "[I") .int) (by decide +kernel)) (va_eqt (hs (Cond.eq (.length (Term.static "HallRegisters" "KIND_WEIGHTS" "[I")) (.int 4)) (by decide +kernel))) (fun j hj => ?_) hA
  have z0 := va_eqt (hs (Cond.eq (.elem (Term.static "HallRegisters" "KIND_WEIGHTS" "[I") (.int 0)) (.int 37)) (by decide +kernel))
  have z1 := va_eqt (hs (Cond.eq (.elem (Term.static "HallRegisters" "KIND_WEIGHTS" "[I") (.int 1)) (.int 997)) (by decide +kernel))
  have z2 := va_eqt (hs (Cond.eq (.elem (Term.static "HallRegisters" "KIND_WEIGHTS" "[I") (.int 2)) (.int 3733)) (by decide +kernel))
  have z3 := va_eqt (hs (Cond.eq (.elem (Term.static "HallRegisters" "KIND_WEIGHTS" "[I") (.int 3)) (.int 1365)) (by decide +kernel))
  match j, hj with
  | 0, _ => exact z0
  | 1, _ => exact z1
  | 2, _ => exact z2
  | 3, _ => exact z3
  | j + 4, hj => exact absurd hj (by omega)
set_option maxRecDepth 20000 in
theorem tabT_2 {A : Nat → Prop} (h : HG s b) (hA : ∀ a : Nat, a < s.heap.size → ¬ A a) : ∃ t : Nat, (Term.static "HallRegisters" "KIND_TAILS" "[I").eval #[Value.ref b] s none [] s = some (.ref t) ∧ va_T .int t 32 (fun j => .int (tab 2 j)) A s s.heap := by
  have hs := flat_of_before _ h
  refine va_Tof (Nat.lt_of_lt_of_le (ltb (b := 64) rfl) (by decide)) (hs (Cond.arrayOf (Term.static "HallRegisters" "KIND_TAILS" "[I") .int) (by decide +kernel)) (va_eqt (hs (Cond.eq (.length (Term.static "HallRegisters" "KIND_TAILS" "[I")) (.int 32)) (by decide +kernel))) (fun j hj => ?_) hA
  have z0 := va_eqt (hs (Cond.eq (.elem (Term.static "HallRegisters" "KIND_TAILS" "[I") (.int 0)) (.int 0)) (by decide +kernel))
  have z1 := va_eqt (hs (Cond.eq (.elem (Term.static "HallRegisters" "KIND_TAILS" "[I") (.int 1)) (.int 2)) (by decide +kernel))
  have z2 := va_eqt (hs (Cond.eq (.elem (Term.static "HallRegisters" "KIND_TAILS" "[I") (.int 2)) (.int 1)) (by decide +kernel))
  have z3 := va_eqt (hs (Cond.eq (.elem (Term.static "HallRegisters" "KIND_TAILS" "[I") (.int 3)) (.int 3)) (by decide +kernel))
  have z4 := va_eqt (hs (Cond.eq (.elem (Term.static "HallRegisters" "KIND_TAILS" "[I") (.int 4)) (.int 1)) (by decide +kernel))
  have z5 := va_eqt (hs (Cond.eq (.elem (Term.static "HallRegisters" "KIND_TAILS" "[I") (.int 5)) (.int 2)) (by decide +kernel))
  have z6 := va_eqt (hs (Cond.eq (.elem (Term.static "HallRegisters" "KIND_TAILS" "[I") (.int 6)) (.int 1)) (by decide +kernel))
  have z7 := va_eqt (hs (Cond.eq (.elem (Term.static "HallRegisters" "KIND_TAILS" "[I") (.int 7)) (.int 3)) (by decide +kernel))
  have z8 := va_eqt (hs (Cond.eq (.elem (Term.static "HallRegisters" "KIND_TAILS" "[I") (.int 8)) (.int 1)) (by decide +kernel))
  have z9 := va_eqt (hs (Cond.eq (.elem (Term.static "HallRegisters" "KIND_TAILS" "[I") (.int 9)) (.int 3)) (by decide +kernel))
  have z10 := va_eqt (hs (Cond.eq (.elem (Term.static "HallRegisters" "KIND_TAILS" "[I") (.int 10)) (.int 1)) (by decide +kernel))
  have z11 := va_eqt (hs (Cond.eq (.elem (Term.static "HallRegisters" "KIND_TAILS" "[I") (.int 11)) (.int 4)) (by decide +kernel))
  have z12 := va_eqt (hs (Cond.eq (.elem (Term.static "HallRegisters" "KIND_TAILS" "[I") (.int 12)) (.int 1)) (by decide +kernel))
  have z13 := va_eqt (hs (Cond.eq (.elem (Term.static "HallRegisters" "KIND_TAILS" "[I") (.int 13)) (.int 3)) (by decide +kernel))
  have z14 := va_eqt (hs (Cond.eq (.elem (Term.static "HallRegisters" "KIND_TAILS" "[I") (.int 14)) (.int 2)) (by decide +kernel))
  have z15 := va_eqt (hs (Cond.eq (.elem (Term.static "HallRegisters" "KIND_TAILS" "[I") (.int 15)) (.int 5)) (by decide +kernel))
  have z16 := va_eqt (hs (Cond.eq (.elem (Term.static "HallRegisters" "KIND_TAILS" "[I") (.int 16)) (.int 2)) (by decide +kernel))
  have z17 := va_eqt (hs (Cond.eq (.elem (Term.static "HallRegisters" "KIND_TAILS" "[I") (.int 17)) (.int 3)) (by decide +kernel))
  have z18 := va_eqt (hs (Cond.eq (.elem (Term.static "HallRegisters" "KIND_TAILS" "[I") (.int 18)) (.int 1)) (by decide +kernel))
  have z19 := va_eqt (hs (Cond.eq (.elem (Term.static "HallRegisters" "KIND_TAILS" "[I") (.int 19)) (.int 4)) (by decide +kernel))
  have z20 := va_eqt (hs (Cond.eq (.elem (Term.static "HallRegisters" "KIND_TAILS" "[I") (.int 20)) (.int 2)) (by decide +kernel))
  have z21 := va_eqt (hs (Cond.eq (.elem (Term.static "HallRegisters" "KIND_TAILS" "[I") (.int 21)) (.int 3)) (by decide +kernel))
  have z22 := va_eqt (hs (Cond.eq (.elem (Term.static "HallRegisters" "KIND_TAILS" "[I") (.int 22)) (.int 2)) (by decide +kernel))
  have z23 := va_eqt (hs (Cond.eq (.elem (Term.static "HallRegisters" "KIND_TAILS" "[I") (.int 23)) (.int 5)) (by decide +kernel))
  have z24 := va_eqt (hs (Cond.eq (.elem (Term.static "HallRegisters" "KIND_TAILS" "[I") (.int 24)) (.int 2)) (by decide +kernel))
  have z25 := va_eqt (hs (Cond.eq (.elem (Term.static "HallRegisters" "KIND_TAILS" "[I") (.int 25)) (.int 4)) (by decide +kernel))
  have z26 := va_eqt (hs (Cond.eq (.elem (Term.static "HallRegisters" "KIND_TAILS" "[I") (.int 26)) (.int 2)) (by decide +kernel))
  have z27 := va_eqt (hs (Cond.eq (.elem (Term.static "HallRegisters" "KIND_TAILS" "[I") (.int 27)) (.int 6)) (by decide +kernel))
  have z28 := va_eqt (hs (Cond.eq (.elem (Term.static "HallRegisters" "KIND_TAILS" "[I") (.int 28)) (.int 2)) (by decide +kernel))
  have z29 := va_eqt (hs (Cond.eq (.elem (Term.static "HallRegisters" "KIND_TAILS" "[I") (.int 29)) (.int 5)) (by decide +kernel))
  have z30 := va_eqt (hs (Cond.eq (.elem (Term.static "HallRegisters" "KIND_TAILS" "[I") (.int 30)) (.int 1)) (by decide +kernel))
  have z31 := va_eqt (hs (Cond.eq (.elem (Term.static "HallRegisters" "KIND_TAILS" "[I") (.int 31)) (.int 6)) (by decide +kernel))
  match j, hj with
  | 0, _ => exact z0
  | 1, _ => exact z1
  | 2, _ => exact z2
  | 3, _ => exact z3
  | 4, _ => exact z4
  | 5, _ => exact z5
  | 6, _ => exact z6
  | 7, _ => exact z7
  | 8, _ => exact z8
  | 9, _ => exact z9
  | 10, _ => exact z10
  | 11, _ => exact z11
  | 12, _ => exact z12
  | 13, _ => exact z13
  | 14, _ => exact z14
  | 15, _ => exact z15
  | 16, _ => exact z16
  | 17, _ => exact z17
  | 18, _ => exact z18
  | 19, _ => exact z19
  | 20, _ => exact z20
  | 21, _ => exact z21
  | 22, _ => exact z22
  | 23, _ => exact z23
  | 24, _ => exact z24
  | 25, _ => exact z25
  | 26, _ => exact z26
  | 27, _ => exact z27
  | 28, _ => exact z28
  | 29, _ => exact z29
  | 30, _ => exact z30
  | 31, _ => exact z31
  | j + 32, hj => exact absurd hj (by omega)
end ST
theorem sel_priv {C : String} {y z : MethodName} {s : State} {args : Array Value} (hy : y.cls ≠ "java/lang/invoke/MethodHandle" ∧ y.cls ≠ "java/lang/invoke/VarHandle") (hz : (Cond.selects C z z).before args s = true) (hyz : z.cls = y.cls)
    (hpriv : (Cond.privateMethod y).before args s = true) (hinst : (Cond.instanceMethod y).before args s = true) : (Cond.selects C y y).before args s = true := by
  obtain ⟨c, r, m, hc, hr, hm, hsel0, k0, hk0, hni⟩ := Cond.selects_spec (args := args) (first := s) (o := none) (s := s) (idx := []) hz
  obtain ⟨mk, methM, hnamed, hmethM, -, -⟩ := Cond.instanceMethod_spec hinst
  have hfound : s.methodFound? y.cls y.name y.desc = some mk := State.methodFound?_of_named hnamed hy
  have hcls : mk.cls = m.cls := Option.some.inj ((findClass_of_methodNamed hnamed).symm.trans (by rw [← hyz]; exact findClass_of_methodNamed hm))
  have hsel : selectMethod {} s.vm c mk = .method mk := selectMethod_private hmethM (Cond.privateMethod_at hpriv mk methM hnamed hmethM)
  simp only [Cond.before, Cond.holds, Cond.value, hc, hfound, hnamed, hsel, hcls, hk0]
  simp; exact hni
theorem ks_of {w : Wd} {s : State} {b L : Nat} {xs : Nat → Int32} (hts : ∀ w ∈ lw_tbl, w.before #[Value.ref b] s = true) (hg : ∀ t ∈ goodTbl, t.before #[Value.ref b] s = true) (hh : HG s b) (hw : wb w = s.heap.size) (hX : va_X b L xs s s.heap) (hL : L ≤ 260) (h3 : wt w 3 = b) (h4 : wt w 4 = L) (hxs : wS w = xs)
    (h0 : ∀ k, k < 3 → (Term.static "HallRegisters" (tabN k) "[I").eval #[Value.ref b] s none [] s = some (.ref (wt w k)) ∧ va_T .int (wt w k) (tabL k) (fun j => .int (tab k j)) (own w) s s.heap) : KS w s := by
  have hA : ∀ a : Nat, a < s.heap.size → ¬ own w a := fun a ha => by show ¬ wb w ≤ a; omega
  have hs := flat_of_before _ hh
  refine ⟨?_, ?_, fun k hk => ⟨?_, (h0 k hk).2⟩, ?_, by rw [h4]; exact hL, ?_, ?_, ?_, ?_⟩
  · intro q hq
    have key : ∀ q ∈ nestM, (Cond.methodLinkNest q.1 q.2.1 q.2.2.1 q.2.2.2) ∈ lw_tbl := by
      unfold nestM
      simp only [List.forall_mem_cons]
      exact ⟨List.mem_of_getElem? (i := 51) (by decide +kernel), List.mem_of_getElem? (i := 95) (by decide +kernel), List.mem_of_getElem? (i := 312) (by decide +kernel), List.mem_of_getElem? (i := 130) (by decide +kernel), List.mem_of_getElem? (i := 134) (by decide +kernel), List.mem_of_getElem? (i := 223) (by decide +kernel), List.mem_of_getElem? (i := 239) (by decide +kernel), List.mem_of_getElem? (i := 57) (by decide +kernel), List.mem_of_getElem? (i := 474) (by decide +kernel), fun _ h => absurd h List.not_mem_nil⟩
    exact va_Nw.of rfl (hts _ (key q hq))
  · intro q hq
    have key : ∀ q ∈ nestF, (Cond.fieldLinkNest q.1 q.2.1 q.2.2.1 q.2.2.2.1 q.2.2.2.2.1 q.2.2.2.2.2) ∈ lw_tbl := by
      unfold nestF
      simp only [List.forall_mem_cons]
      exact ⟨List.mem_of_getElem? (i := 358) (by decide +kernel), List.mem_of_getElem? (i := 360) (by decide +kernel), List.mem_of_getElem? (i := 369) (by decide +kernel), fun _ h => absurd h List.not_mem_nil⟩
    exact va_Nw.of rfl (hts _ (key q hq))
  · refine va_Zof ?_ (hg _ gj_20) (h0 k hk).1 hA
    match k, hk with
    | 0, _ => exact hts _ (List.mem_of_getElem? (i := 359) (by decide +kernel))
    | 1, _ => exact hts _ (List.mem_of_getElem? (i := 361) (by decide +kernel))
    | 2, _ => exact hts _ (List.mem_of_getElem? (i := 370) (by decide +kernel))
    | k + 3, hk => exact absurd hk (by omega)
  · obtain ⟨scr, a1, a2, a3, a4, a5⟩ := hX
    rw [h3, h4, hxs]
    exact ⟨scr, a1, a2, a3, Nat.le_of_eq a4.symm, by rw [a4], a5, hA b (Array.getElem?_eq_some_iff.mp a1).1⟩
  · exact va_Zof (hts _ (List.mem_of_getElem? (i := 720) (by decide +kernel))) (hg _ gj_36) (va_eqt (hs (Cond.eq (Term.static "java/lang/String" "COMPACT_STRINGS" "Z") (.int 1)) (by decide +kernel))) hA
  · exact va_Zqof (hts _ (List.mem_of_getElem? (i := 736) (by decide +kernel))) (hg _ gj_40) (hs (Cond.isRef (.static "jdk/internal/util/Preconditions" "SIOOBE_FORMATTER" "Ljava/util/function/BiFunction;")) (by decide +kernel)) hA
  · exact va_Nw.of rfl (sel_priv ⟨by decide +kernel, by decide +kernel⟩ (hg _ gj_855) (by decide +kernel) (hts (Cond.privateMethod yJ5_ensureCapacityInternal_d00df) (List.mem_of_getElem? (i := 824) (by decide +kernel))) (hts (Cond.instanceMethod yJ5_ensureCapacityInternal_d00df) (List.mem_of_getElem? (i := 825) (by decide +kernel))))
  · exact va_Nw.of rfl (hts _ (List.mem_of_getElem? (i := 848) (by decide +kernel)))
theorem kn_all {s : State} {b : Nat} (hg : ∀ t ∈ goodTbl, t.before #[Value.ref b] s = true) : ∃ (dC : Nat → ClassId) (dI : Nat → Nat → Nat), ∀ (k : Nat) (q : vw_C), vwCl[k]? = some q → u_Kn s q.1 q.2.1 q.2.2 (dC k) (dI k) := by
  obtain ⟨c0, i0, h0⟩ := u_known (C := RX0) (T := TX0) (N := 8) (n := 8) hg ws_0 (hg _ gj_185)
  obtain ⟨c1, i1, h1⟩ := u_known (C := RX1) (T := TX1) (N := 10) (n := 10) hg ws_1 (hg _ gj_275)
  obtain ⟨c2, i2, h2⟩ := u_known (C := RX2) (T := TX2) (N := 7) (n := 7) hg ws_2 (hg _ gj_94)
  obtain ⟨c3, i3, h3⟩ := u_known (C := RX3) (T := TX3) (N := 3) (n := 3) hg ws_3 (hg _ gj_222)
  obtain ⟨c4, i4, h4⟩ := u_known (C := RX4) (T := TX4) (N := 9) (n := 9) hg ws_4 (hg _ gj_124)
  obtain ⟨c5, i5, h5⟩ := u_known (C := RX5) (T := TX5) (N := 11) (n := 11) hg ws_5 (hg _ gj_314)
  obtain ⟨c6, i6, h6⟩ := u_known (C := RX6) (T := TX6) (N := 3) (n := 3) hg ws_6 (hg _ gj_56)
  obtain ⟨c7, i7, h7⟩ := u_known (C := RX7) (T := TX7) (N := 11) (n := 11) hg ws_7 (hg _ gj_216)
  obtain ⟨c8, i8, h8⟩ := u_known (C := RX8) (T := TX8) (N := 3) (n := 3) hg ws_8 (hg _ gj_50)
  obtain ⟨c9, i9, h9⟩ := u_known (C := RX9) (T := TX9) (N := 4) (n := 4) hg ws_9 (hg _ gj_133)
  obtain ⟨c10, i10, h10⟩ := u_known (C := RX10) (T := TX10) (N := 17) (n := 17) hg ws_10 (hg _ gj_42)
  obtain ⟨c11, i11, h11⟩ := u_known (C := RX10) (T := TX10) (N := 17) (n := 17) hg ws_10 (hg _ gj_42)
  obtain ⟨c12, i12, h12⟩ := u_known (C := RJ0) (T := TJ0) (N := 4) (n := 4) hg wsJ0 (hg _ gj_890)
  obtain ⟨c13, i13, h13⟩ := u_known (C := RJ4) (T := TJ4) (N := 4) (n := 4) hg wsJ4 (hg _ gj_786)
  refine ⟨fun k => match k with | 0 => c0 | 1 => c1 | 2 => c2 | 3 => c3 | 4 => c4 | 5 => c5 | 6 => c6 | 7 => c7 | 8 => c8 | 9 => c9 | 10 => c10 | 11 => c11 | 12 => c12 | _ => c13, fun k => match k with | 0 => i0 | 1 => i1 | 2 => i2 | 3 => i3 | 4 => i4 | 5 => i5 | 6 => i6 | 7 => i7 | 8 => i8 | 9 => i9 | 10 => i10 | 11 => i11 | 12 => i12 | _ => i13, ?_⟩
  intro k q hq
  match k, hq with
  | 0, hq => cases hq; exact h0
  | 1, hq => cases hq; exact h1
  | 2, hq => cases hq; exact h2
  | 3, hq => cases hq; exact h3
  | 4, hq => cases hq; exact h4
  | 5, hq => cases hq; exact h5
  | 6, hq => cases hq; exact h6
  | 7, hq => cases hq; exact h7
  | 8, hq => cases hq; exact h8
  | 9, hq => cases hq; exact h9
  | 10, hq => cases hq; exact h10
  | 11, hq => cases hq; exact h11
  | 12, hq => cases hq; exact h12
  | 13, hq => cases hq; exact h13
  | k + 14, hq => simp at hq
section WL
variable {p : Program} {e : Env} {s : State} {m : MethodId} {args : Array Value} {below : List Frame} {meth : Method} {c0 : Code} {H : Heap} {locs : List Loc} {ls : Array Slot} {R0 : Room} {Q : State → Prop} {w : Wd} {n : Nat} {L : PL} {σ : Mem} {k sl pc : Nat} {rest st : List Value}
theorem wl_new {c N idx : Nat} {C1 ownc : String} {T : u_T} {R : PL} {cc : ByteArray} (hx : p.tables.exec = Jvm.exec) (hb : c0.code = cc) (hown : s.vm.findClass ownc = some m.cls) (hg : ∀ t ∈ goodTbl, t.before args s = true) (hKC : KC w s) (ty : Nat → FieldType) (hty : ∀ j, j < N → parseFieldDescriptor (T j).2.2.1 = some (ty j)) (hws : ∀ w ∈ u_ws C1 T N, w ∈ goodTbl) (hcl : vwCl[c]? = some (C1, T, N)) (hc : c < 12) (hkn0 : kd n = c) (hfr : Fresh σ n)
    (hl0 : Cond.classLink ownc idx C1 ∈ goodTbl) (hin : Cond.instantiable C1 N ∈ goodTbl) (hii : Cond.initialized C1 ∈ goodTbl) (hR : ∀ q ∈ R, q.1 = n) (hdef : ∀ j, j < N → defaultValue (ty j) = vp_V ((ftl c).map (fun b => if b then Value.null else .int 0)) j) (hRc : ∀ j, j < (ftl c).length → (ftl c)[j]? = some true → R.contains (n, j) = true) (hk : k + 1 ≤ R0.cells) (hs : sl + N ≤ R0.slots)
    (hP : va_P (wD w) vwCl (wdC w n L σ) H) (hsz : s.heap.size + k = wb w + n) (hkn : k ≤ n) (hS : va_S (own w) s.heap H locs) (hd : decode cc pc = .ok (.new idx, 3))
    (kk : ∀ H1 : Heap, va_P (wD w) vwCl (wdC w (n + 1) (R ++ L) σ) H1 → va_S (own w) s.heap H1 locs → W p w.1 e R0 s m args below meth c0 H1 locs (k + 1) (sl + N) Q (F0 m (pc + 3) ls (.ref (adr w n) :: rest))) : W p w.1 e R0 s m args below meth c0 H locs k sl Q (F0 m pc ls rest) := by
  refine w_sized (fun hz => ?_)
  have hH := hsize hP hz hsz hkn hS.1
  have hKn := hKC.1.1 c _ hcl
  refine W.newcK (own := ownc) (C := C1) (n := N) hx hb hown (hg _ hl0) (hg _ hin) (hg _ hii) rfl hd hk hs hKn.2.1 (h := adr w n) hH fun H1 kC hkC e1 z1 o1 => ?_
  have hnew : fldC w (R ++ L) σ c n = (ftl c).map (fun b => if b then Value.null else .int 0) := by
    apply List.ext_getElem?
    intro j
    rw [fldC_get, List.getElem?_map]
    cases hj : (ftl c)[j]? with
    | none => rfl
    | some b =>
      cases b with
      | false => simp [(hfr n (Nat.le_refl n) j).1]
      | true =>
        have h1 := hRc j (List.getElem?_eq_some_iff.mp hj).1 hj
        have h2 : (R ++ L).contains (n, j) = true := by
          rw [List.contains_iff_mem] at h1 ⊢
          exact List.mem_append_left _ h1
        simp only [Option.map_some, h2, if_true]
  have hP1 : va_P (wD w) vwCl (wdC w (n + 1) (R ++ L) σ) H1 := wdC_push hP o1 (fun a ha => entC_app (fun q hq => Nat.le_of_eq (hR q hq).symm) ha) (by
    have h9 : entC w (R ++ L) σ n = .inr (c, (ftl c).map (fun b => if b then Value.null else .int 0)) := by
      rw [← hnew]; simp [entC, hkn0, hc]
    rw [h9]
    exact ⟨_, hcl, (u_born ty hg hws hKn hkC e1 hty).to hdef⟩)
  refine W.eq (g2 := F0 m (pc + 3) ls (.ref (adr w n) :: rest)) rfl ?_
  exact kk H1 hP1 ⟨by rw [z1]; show _ ≤ adr w n + 1; unfold adr; have := hS.1; omega, fun x h1 h2 => (o1 x (by show x < adr w n; unfold adr; have := hS.1; omega)).trans (hS.2.1 x h1 h2), hS.2.2⟩
theorem wl_call {μ' : MD} {C' S' a idx nn nL : Nat} {ownc : String} {As : List Value} {f' : FinT} {cc : ByteArray} (hx : p.tables.exec = Jvm.exec) (hb : c0.code = cc) (hml : c0.maxLocals = nL) (hls : ls.size = nL) (hown : s.vm.findClass ownc = some m.cls) (hg : ∀ t ∈ goodTbl, t.before args s = true) (hKC : KC w s) (hM : MCC w μ' C' S' (.ref (adr w a) :: As) n L σ f') (ok : MOK μ' nn) (hret : μ'.2.2.2.1 = none) (hname : μ'.1.name = "<init>") (hfr : μ'.2.2.2.2 + 1 ≤ R0.frames) (hlo : 8 + (μ'.2.2.1 + 11) + 48 * μ'.2.2.2.2 ≤ R0.locals) (hlk : Cond.methodLink ownc idx μ'.1 ∈ goodTbl) (him : Cond.instanceMethod μ'.1 ∈ goodTbl) (hn : As.length = nn) (hst : As.reverse ++ .ref (adr w a) :: rest = st) (hcat : (rest.map fun v => v.category).sum ≤ 8) (hk : k + C' ≤ R0.cells) (hs : sl + S' ≤ R0.slots)
    (hP : va_P (wD w) vwCl (wdC w n L σ) H) (hsz : s.heap.size + k = wb w + n) (hkn : k ≤ n) (hS : va_S (own w) s.heap H locs) (hd : decode cc pc = .ok (.invokespecial idx, 3))
    (kk : ∀ (H1 : Heap) (locs1 : List Loc), va_P (wD w) vwCl (wdC w f'.1 f'.2.1 f'.2.2) H1 → va_S (own w) s.heap H1 locs1 → W p w.1 e R0 s m args below meth c0 H1 locs1 (k + C') (sl + S') Q (F0 m (pc + 3) ls rest)) : W p w.1 e R0 s m args below meth c0 H locs k sl Q (F0 m pc ls st) := by
  refine w_sized (fun hz => ?_)
  have hH := hsize hP hz hsz hkn hS.1
  have hcb := callB_of (R := R0) nn hg (good_sub (wsM_in ok)) (rm := rmC μ'.2.2.2.2 C' S') rfl rfl rfl (hg _ ok.2.1) (hg _ hlk) ok.2.2.2.1 ⟨hfr, hlo⟩
  rw [hret] at hcb
  have run := va_runI (p := p) (e := e) (below := below) (meth := meth) (locs := locs) (cells := k) (slots := sl) (g := F0 m pc ls st) (rest := rest) (H := H) (As := As) (Ts := goodTbl) ⟨hx, hb, hml, hown, hg⟩ hM ⟨hcb, hname, hg _ him⟩ ⟨PcC.blind, fun U hU hW => ⟨rfl, by rw [hU]; exact hP, by rw [hU]; exact hH, hKC.moved hW (fun a h1 h2 => by rw [hU]; exact hS.2.1 a h1 h2)⟩⟩ rfl hn hls hst.symm (lv_room hcat) hd ⟨hk, hs⟩
  intro T hT X
  obtain ⟨v, st₀, t, T', L0, h0, X', hL, e1, e2, ⟨hv, hR, hz2, hF⟩, go⟩ := run T hT X
  cases hv
  rw [h0] at hz2 hF
  obtain ⟨t2, a1, b1⟩ := kk T'.heap (locs ++ L0) (by rw [e1]; exact hR) ⟨Nat.le_trans hS.1 (by rw [e1]; exact hz2), fun q h1 h2 => by rw [e1, hF q (Nat.lt_of_lt_of_le h1 hS.1) h2]; exact hS.2.1 q h1 h2, fun q hq => by
      rcases List.mem_append.mp hq with h | h
      · exact hS.2.2 q h
      · exact hL q h⟩ T' rfl X'
  exact ⟨t2, go t2 a1, b1⟩
end WL
section BGC
theorem kf_0 : gn (kf 0 8) = 3 := by decide +kernel
theorem nil_get {α : Type} (j : Nat) (x : α) (h : ([] : List α)[j]? = some x) : False := by simp at h
theorem nil_mem {α : Type} (x : α) (h : x ∈ ([] : List α)) : False := by cases h
theorem none_some {α : Type} (x : α) (h : (none : Option α) = some x) : False := by cases h
theorem start_cls : ∃ σ1 σ2 S, f_X6_takeKind (wI zM 144 1 (-1)) 2 0 = some σ1 ∧ f_X4_follow σ1 2 = some σ2 ∧ OKS S ∧ ICls 0 S σ2 ∧ aP S = [] := by
  have e0 : ∀ x y, x ≠ 144 → (wI zM 144 1 (-1)).1 x y = 0 := fun x y hx => by rw [wI_1, if_neg (fun q => hx q.1)]; rfl
  obtain ⟨σ1, e1, f1, m1⟩ := c_takeKind (σ := wI zM 144 1 (-1)) (κ := 0) (by omega)
  have hG : GOK (kf 0 8) := kf_ok (by omega) 8 (by omega)
  have g1 : ∀ x y, x ≠ 2 → x ≠ 3 → x ≠ 4 → x ≠ 144 → σ1.1 x y = 0 := fun x y h1 h2 h3 h4 => by rw [f1.2 x h1 h2 h3]; exact e0 x y h4
  have no41 : ¬ CG σ1 41 (kf 0 8) := fun z => by
    have := z.1
    rw [g1 41 0 (by omega) (by omega) (by omega) (by omega), kf_0] at this
    exact absurd this (by decide)
  obtain ⟨σ2, e2, f2, m2, l2, hed⟩ := c_follow (σ := σ1) hG m1 (ed := 0) (g1 40 4 (by omega) (by omega) (by omega) (by omega)) (fun z => absurd z no41)
  have hed2 : σ2.1 40 4 = i32 1 := by
    rcases hed with rfl | h
    · exact absurd m2 no41
    · exact h
  have g2 : ∀ x y, (x < 2 ∨ (5 ≤ x ∧ x < 35) ∨ (128 ≤ x ∧ x ≠ 144)) → σ2.1 x y = 0 := fun x y hx => by
    rw [(f2 x (by omega)).1]
    exact g1 x y (by omega) (by omega) (by omega) (by omega)
  have g2L : ∀ x y, x < 35 ∨ 128 ≤ x → σ2.2 x y = 0 := fun x y hx => by
    rw [(f2 x (by omega)).2, f1.1]
    rfl
  have h144 : σ2.1 144 0 = 0 ∧ σ2.1 144 1 = -1 := by
    rw [(f2 144 (by omega)).1, f1.2 144 (by omega) (by omega) (by omega)]
    exact ⟨by rw [wI_1, if_neg (by omega)]; rfl, by rw [wI_1, if_pos ⟨rfl, rfl⟩]⟩
  refine ⟨σ1, σ2, (((kf 0 8, fun _ _ => 0), (0, 0, fun _ => 0), [], none, [], (0, -1)) : AS), e1, e2, ?_, ?_, rfl⟩
  · exact ⟨⟨hG, fun _ _ => ⟨by show (-999 : Int) ≤ 0; omega, by show (0 : Int) ≤ 999; omega⟩, fun _ _ _ => rfl⟩, Nat.zero_le _, ⟨Nat.zero_le _, fun X hX => (nil_mem X hX).elim⟩, fun Y hY => (none_some Y hY).elim, Nat.zero_le _, fun x hx => (nil_mem x hx).elim⟩
  · refine ⟨⟨?_, fun r i hr hi => ?_⟩, ⟨g2 16 0 (by omega), g2 16 1 (by omega), fun i hi => absurd hi (Nat.not_lt_zero i)⟩, ⟨g2 0 4 (by omega), 0, by omega, g2 0 5 (by omega), fun j X hj => (nil_get j X hj).elim⟩, ⟨g2 0 2 (by omega), fun y hy => (none_some y hy).elim⟩, ⟨g2 0 7 (by omega), fun p x hp => (nil_get p x hp).elim⟩, h144, ?_⟩
    · unfold CG
      rw [(f2 (1 + 1) (by omega)).1, (f2 (1 + 1 + 1) (by omega)).1, (f2 (1 + 1 + 2) (by omega)).1]
      exact m1
    · rw [g2L (1 + 5 + r) i (by omega)]
      rfl
    · exact ⟨m2, l2, 1, 0, hed2, g2 128 2 (by omega), by omega, by omega, fun q => by omega⟩
end BGC
/-- the law's end as the skeleton has it -/
theorem w_conv {w : Wd} {p : Program} {l : Launch} {e : Env} {R : Room} {s : State} {m : MethodId} {args : Array Value} {below : List Frame} {meth : Method} {c : Code} {H : Heap} {locs : List Loc} {cells slots : Nat} {g : JFrame} (hfree : ∀ q, own w q → s.heap.size ≤ q) (h : W p l e R s m args below meth c H locs cells slots (QW w below args s) g) : W p l e R s m args below meth c H locs cells slots (lw_Z below args s) g := by
  intro T hT X
  obtain ⟨t, a1, o, b1, b2, ⟨r, L', ho, hr, -⟩, Lc, hF, hfr⟩ := h T hT X
  obtain ⟨f1, f2, f3, f4, f5, f6, f7, f8⟩ := hF
  refine ⟨t, a1, o, b1, b2, by rw [ho, hr], f1, f2, f3, f4, f5, f6, f7, fun a c0 hc0 => ?_⟩
  obtain ⟨c', q1, q2, q3, q4⟩ := f8 a c0 hc0
  refine ⟨c', q1, q2, q3, fun i _ => q4 i (fun hm => ?_)⟩
  have h1 := hfree _ (hfr _ hm)
  have h2 : a < s.heap.size := (Array.getElem?_eq_some_iff.mp hc0).1
  exact absurd h2 (Nat.not_lt.mpr h1)
theorem defI_10 : ∀ j, j < 17 → defaultValue (tyX10 j) = vp_V ((ftl 10).map (fun b => if b then Value.null else .int 0)) j := by decide +kernel
set_option maxHeartbeats 4000000 in
theorem whole_start {p : Program} {e : Env} {s : State} {m : MethodId} {below : List Frame} {meth : Method} {c : Code} (l : Launch) {b L : Nat} {xs : Nat → Int32} (hL : L ≤ 260) (hnm : meth.name = "law") (C0 : lw_At p s m meth c b L xs) : W p l e room_1 s m #[Value.ref b] below meth c s.heap [] 0 0 (lw_Z below #[Value.ref b] s) (entryFrame m ([Value.ref b] : List Value).toArray 9) := by
  obtain ⟨hx, hb, hr, hml, hown, hts, hX, hbl, hlocks, hgv⟩ := id C0
  obtain ⟨σ1, σ2, S, t1, t2, okS, hI, hP0⟩ := start_cls
  have hg : ∀ t ∈ goodTbl, t.before #[Value.ref b] s = true := fun t ht => hts t (List.mem_filter.mp ht).1
  obtain ⟨dC, dI, hKc⟩ := kn_all hg
  obtain ⟨a12, k12, n12⟩ := arrT (hg _ gj_75)
  obtain ⟨a13, k13, n13⟩ := arrT (hg _ gj_91)
  obtain ⟨a17, k17, n17⟩ := arrT (hg _ gj_815)
  have hao1 : va_AO "HallRegisters$State" s := va_AO.of (hts (.arrayOver (.object "HallRegisters$State")) (List.mem_of_getElem? (i := 92) (by decide +kernel)))
  have hao2 : va_AO "HallRegisters$Sum" s := va_AO.of (hts (.arrayOver (.object "HallRegisters$Sum")) (List.mem_of_getElem? (i := 132) (by decide +kernel)))
  have hao3 : AOL s := hts (.arrayOver (.array .long)) (List.mem_of_getElem? (i := 77) (by decide +kernel))
  obtain ⟨a14, k14, n14⟩ := arrO (b := b) (va_AO.use hao1)
  obtain ⟨a15, k15, n15⟩ := arrO (b := b) (va_AO.use hao2)
  obtain ⟨a16, k16, n16⟩ := arrLL hao3
  have hA : ∀ a : Nat, a < s.heap.size → ¬ (fun q : Nat => s.heap.size ≤ q) a := fun a ha => Nat.not_le.mpr ha
  obtain ⟨u0, f0, g0⟩ := tabT_0 hgv hA
  obtain ⟨u1, f1, g1⟩ := tabT_1 hgv hA
  obtain ⟨u2, f2, g2⟩ := tabT_2 hgv hA
  generalize hwc : (fun k : Nat => if k = 12 then a12 else if k = 13 then a13 else if k = 14 then a14 else if k = 15 then a15 else if k = 16 then a16 else a17) = wc
  generalize hwt : (fun k : Nat => if k = 0 then u0 else if k = 1 then u1 else if k = 2 then u2 else if k = 3 then b else L) = wt0
  generalize hwd : ((l, (dC, dI), wc, s.heap.size, NC, wt0, xs) : Wd) = w
  have hlw : w.1 = l := by rw [← hwd]
  have hbw : wb w = s.heap.size := by rw [← hwd]; rfl
  have hNw : wn w = NC := by rw [← hwd]; rfl
  have ht3 : wt w 3 = b := by rw [← hwd, ← hwt]; rfl
  have ht4 : wt w 4 = L := by rw [← hwd, ← hwt]; rfl
  have hKC : KC w s := by
    refine ⟨⟨by rw [← hwd]; exact hKc, ?_⟩, ?_, hao1, hao2, hao3⟩
    · intro k q hq
      rw [← hwd] at hq
      subst hwc
      match k, hq with
      | 0, hq => cases hq; exact ⟨k12, n12⟩
      | 1, hq => cases hq; exact ⟨k13, n13⟩
      | 2, hq => cases hq; exact ⟨k14, n14⟩
      | 3, hq => cases hq; exact ⟨k15, n15⟩
      | 4, hq => cases hq; exact ⟨k16, n16⟩
      | 5, hq => cases hq; exact ⟨k17, n17⟩
      | k + 6, hq => simp [ctys] at hq
    · refine ks_of hts hg hgv hbw hX hL ht3 ht4 (by rw [← hwd]; rfl) (fun k hk => ?_)
      have how : own w = fun q : Nat => s.heap.size ≤ q := by funext q; show (wb w ≤ q) = _; rw [hbw]
      rw [how, ← hwd]
      subst hwt
      match k, hk with
      | 0, _ => exact ⟨f0, g0⟩
      | 1, _ => exact ⟨f1, g1⟩
      | 2, _ => exact ⟨f2, g2⟩
      | k + 3, hk => exact absurd hk (by omega)
  have hl := lv_entry ([.ref b]) (n := 9) (Nat.le_of_ble_eq_true rfl)
  rw [lg_entry_eq]
  generalize (lg_sl ([.ref b]) ++ List.replicate (9 - (lg_sl ([.ref b])).length) Slot.unset).toArray = ls at hl ⊢
  have hl : lv_has ls 9 [(0, .ref b)] := hl
  have hfz : Fresh zM 0 := fun _ _ _ => ⟨rfl, rfl⟩
  have hS0 : va_S (own w) s.heap s.heap [] := va_S.rf
  refine w_conv (w := w) (fun q hq => by rw [← hbw]; exact hq) ?_
  rw [← hlw]
  refine wl_new (w := w) (n := 0) (L := []) (σ := zM) (R := [(0, 0), (0, 1), (0, 3), (0, 6), (0, 8), (0, 9), (0, 10), (0, 11), (0, 12), (0, 13), (0, 14), (0, 15), (0, 16)]) (ownc := RL) hx hb hown hg hKC tyX10 tyX10_ok ws_10 rfl (by decide) (by decide +kernel) hfz gj_41 gj_42 gj_20 (by decide) defI_10 (by decide +kernel) (Nat.le_of_ble_eq_true rfl) (Nat.le_of_ble_eq_true rfl) (fun k q h => by simp [wdC] at h) (by omega) (Nat.le_refl 0) hS0 dL_law_0 (fun H1 hP1 hS1 => ?_)
  refine lv_dup hx hb dL_law_3 rfl ?_
  refine wl_call (w := w) (ownc := RL) (As := []) hx hb hml hl.1 hown hg hKC (cI_X10_0 hfz (Or.inl hNw) hNw t1 t2) okI_X10 rfl rfl (Nat.le_of_ble_eq_true rfl) (Nat.le_of_ble_eq_true rfl) gj_43 gj_44 rfl rfl (Nat.le_of_ble_eq_true rfl) (Nat.le_of_ble_eq_true rfl) (Nat.le_of_ble_eq_true rfl) hP1 (by omega) (Nat.le_of_ble_eq_true rfl) hS1 dL_law_4 (fun H2 locs2 hP2 hS2 => ?_)
  refine lv_astore_n (lv' := [(1, .ref (adr w 0)), (0, .ref b)]) hx hb dL_law_7 rfl hl (ltb rfl) rfl (fun ls2 hl2 => ?_)
  have hR : RH w σ2 H2 := by
    unfold RH
    rw [← wd_all (n := 306) hNw]
    exact hP2
  have h10 : isk w 0 10 := ⟨by rw [hNw]; decide, by decide +kernel⟩
  have hgo := l0_group (w := w) (ws := []) (k := 0 + 1 + 305) (sl := 0 + 17 + 55212) (Or.inl hNw) h10 (by rw [ht4]; exact hL) hI okS (by omega) hP0 (by omega) (by omega)
  rw [ht3, List.append_nil] at hgo
  exact hgo p e s m _ below meth c H2 locs2 ls2 ⟨hx, hb, hml, hr, hown, hg, hlocks, hKC.1, hKC.2.1⟩ hnm (fun q hq => by show wb w ≤ q; rw [hbw]; exact hq) hR (wd_D.weaken (fun _ _ _ h => h.1)) hS2 hl2
