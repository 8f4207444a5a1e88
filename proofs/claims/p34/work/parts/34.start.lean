theorem gw_174 : Cond.instantiable RX10 17 ∈ goodTbl := mgP tb_1 17 rfl (by decide +kernel)
theorem gw_1275 : Cond.instantiable RX11 39 ∈ goodTbl := mgP tb_5 158 rfl (by decide +kernel)
theorem gw_173 : Cond.classLink RL 7 RX10 ∈ goodTbl := mgP tb_1 16 rfl (by decide +kernel)
theorem gw_1274 : Cond.classLink RL 10 RX11 ∈ goodTbl := mgP tb_5 157 rfl (by decide +kernel)
theorem gw_175 : Cond.methodLink RL 9 yX10_init ∈ goodTbl := mgP tb_1 18 rfl (by decide +kernel)
theorem gw_1276 : Cond.methodLink RL 12 yX11_init ∈ goodTbl := mgP tb_5 159 rfl (by decide +kernel)
theorem gw_176 : Cond.instanceMethod yX10_init ∈ goodTbl := mgP tb_1 19 rfl (by decide +kernel)
theorem gw_1277 : Cond.instanceMethod yX11_init ∈ goodTbl := mgP tb_5 160 rfl (by decide +kernel)
theorem defI_10 : ∀ j, j < 17 → defaultValue (tyX10 j) = vp_V ((ftl 10).map (fun b => if b then Value.null else .int 0)) j := by decide +kernel
theorem defI_11 : ∀ j, j < 39 → defaultValue (tyX11 j) = vp_V ((ftl 11).map (fun b => if b then Value.null else .int 0)) j := by decide +kernel
def zM : Mem := (fun _ _ => 0, fun _ _ => 0)
def trim (σ : Mem) (n : Nat) : Mem := (fun x y => if x < n then σ.1 x y else 0, fun x y => if x < n then σ.2 x y else 0)
theorem trim_fresh {σ : Mem} {n : Nat} : Fresh (trim σ n) n := fun x hx y => by
  have : ¬ x < n := by omega
  simp [trim, this]
theorem wdC_trim {w : Wd} {n : Nat} {L : PL} {σ : Mem} : wdC w n L (trim σ n) = wdC w n L σ := by
  unfold wdC
  refine List.map_congr_left (fun a ha => ?_)
  have h : a < n := List.mem_range.mp ha
  have e1 : ∀ y, (trim σ n).1 a y = σ.1 a y := fun y => by simp [trim, h]
  have e2 : (trim σ n).1 a = σ.1 a := funext e1
  have e3 : (trim σ n).2 a = σ.2 a := funext (fun y => by simp [trim, h])
  unfold entC fldC
  simp only [e1, e2, e3]
/-- the objects at their start, and the invariant there -/
def Start (I : Nat → Mem → Prop) : Prop := ∃ σ1 σ2 σ3 : Mem, f_X6_takeKind (wI zM 144 1 (-1)) 2 0 = some σ1 ∧ f_X4_follow σ1 2 = some σ2 ∧ f_X11_plain (wI (wI (trim σ2 306) 306 20 (-1)) 306 24 (-1)) = some σ3 ∧ I 0 σ3
section ST
variable {s : State} {b : Nat}
def HG (s : State) (b : Nat) : Prop := (Jvm.Cond.and given_1 narrow_1).before #[Value.ref b] s = true
set_option maxRecDepth 20000 in
theorem tabT_0 {A : Nat → Prop} (h : HG s b) (hA : ∀ a : Nat, a < s.heap.size → ¬ A a) : ∃ t : Nat, (Term.static "HallRegisters" "KIND_SIZES" "[I").eval #[Value.ref b] s none [] s = some (.ref t) ∧ va_T .int t 4 (fun j => .int (tab 0 j)) A s s.heap := by
  have hs := flat_of_before _ h
  refine va_Tof (Nat.lt_of_lt_of_le (ltb (b := 64) rfl) (by decide)) (hs (Cond.arrayOf (Term.static "HallRegisters" "KIND_SIZES" "[I") .int) (by decide +kernel)) (va_eqt (hs (Cond.eq (.length (Term.static "HallRegisters" "KIND_SIZES" "[I")) (.int 4)) (by decide +kernel))) (fun j hj => ?_) hA
  have z0 := va_eqt (hs (Cond.eq (.elem (Term.static "HallRegisters" "KIND_SIZES" "[I") (.int 0)) (.int 3)) (by decide +kernel))
  have z1 := va_eqt (hs (Cond.eq (.elem (Term.static "HallRegisters" "KIND_SIZES" "[I") (.int 1)) (.int 5)) (by decide +kernel))
  have z2 := va_eqt (hs (Cond.eq (.elem (Term.static "HallRegisters" "KIND_SIZES" "[I") (.int 2)) (.int 6)) (by decide +kernel))
  have z3 := va_eqt (hs (Cond.eq (.elem (Term.static "HallRegisters" "KIND_SIZES" "[I") (.int 3)) (.int 6)) (by decide +kernel))
  match j, hj with
  | 0, _ => exact z0
  | 1, _ => exact z1
  | 2, _ => exact z2
  | 3, _ => exact z3
  | j + 4, hj => exact absurd hj (by omega)
set_option maxRecDepth 20000 in
theorem tabT_1 {A : Nat → Prop} (h : HG s b) (hA : ∀ a : Nat, a < s.heap.size → ¬ A a) : ∃ t : Nat, (Term.static "HallRegisters" "KIND_WEIGHTS" "[I").eval #[Value.ref b] s none [] s = some (.ref t) ∧ va_T .int t 4 (fun j => .int (tab 1 j)) A s s.heap := by
  have hs := flat_of_before _ h
  refine va_Tof (Nat.lt_of_lt_of_le (ltb (b := 64) rfl) (by decide)) (hs (Cond.arrayOf (Term.static "HallRegisters" "KIND_WEIGHTS" "[I") .int) (by decide +kernel)) (va_eqt (hs (Cond.eq (.length (Term.static "HallRegisters" "KIND_WEIGHTS" "[I")) (.int 4)) (by decide +kernel))) (fun j hj => ?_) hA
  have z0 := va_eqt (hs (Cond.eq (.elem (Term.static "HallRegisters" "KIND_WEIGHTS" "[I") (.int 0)) (.int 37)) (by decide +kernel))
  have z1 := va_eqt (hs (Cond.eq (.elem (Term.static "HallRegisters" "KIND_WEIGHTS" "[I") (.int 1)) (.int 997)) (by decide +kernel))
  have z2 := va_eqt (hs (Cond.eq (.elem (Term.static "HallRegisters" "KIND_WEIGHTS" "[I") (.int 2)) (.int 3733)) (by decide +kernel))
  have z3 := va_eqt (hs (Cond.eq (.elem (Term.static "HallRegisters" "KIND_WEIGHTS" "[I") (.int 3)) (.int 1365)) (by decide +kernel))
  match j, hj with
  | 0, _ => exact z0
  | 1, _ => exact z1
  | 2, _ => exact z2
  | 3, _ => exact z3
  | j + 4, hj => exact absurd hj (by omega)
set_option maxRecDepth 20000 in
theorem tabT_2 {A : Nat → Prop} (h : HG s b) (hA : ∀ a : Nat, a < s.heap.size → ¬ A a) : ∃ t : Nat, (Term.static "HallRegisters" "KIND_TAILS" "[I").eval #[Value.ref b] s none [] s = some (.ref t) ∧ va_T .int t 32 (fun j => .int (tab 2 j)) A s s.heap := by
  have hs := flat_of_before _ h
  refine va_Tof (Nat.lt_of_lt_of_le (ltb (b := 64) rfl) (by decide)) (hs (Cond.arrayOf (Term.static "HallRegisters" "KIND_TAILS" "[I") .int) (by decide +kernel)) (va_eqt (hs (Cond.eq (.length (Term.static "HallRegisters" "KIND_TAILS" "[I")) (.int 32)) (by decide +kernel))) (fun j hj => ?_) hA
  have z0 := va_eqt (hs (Cond.eq (.elem (Term.static "HallRegisters" "KIND_TAILS" "[I") (.int 0)) (.int 0)) (by decide +kernel))
  have z1 := va_eqt (hs (Cond.eq (.elem (Term.static "HallRegisters" "KIND_TAILS" "[I") (.int 1)) (.int 2)) (by decide +kernel))
  have z2 := va_eqt (hs (Cond.eq (.elem (Term.static "HallRegisters" "KIND_TAILS" "[I") (.int 2)) (.int 1)) (by decide +kernel))
  have z3 := va_eqt (hs (Cond.eq (.elem (Term.static "HallRegisters" "KIND_TAILS" "[I") (.int 3)) (.int 3)) (by decide +kernel))
  have z4 := va_eqt (hs (Cond.eq (.elem (Term.static "HallRegisters" "KIND_TAILS" "[I") (.int 4)) (.int 1)) (by decide +kernel))
  have z5 := va_eqt (hs (Cond.eq (.elem (Term.static "HallRegisters" "KIND_TAILS" "[I") (.int 5)) (.int 2)) (by decide +kernel))
  have z6 := va_eqt (hs (Cond.eq (.elem (Term.static "HallRegisters" "KIND_TAILS" "[I") (.int 6)) (.int 1)) (by decide +kernel))
  have z7 := va_eqt (hs (Cond.eq (.elem (Term.static "HallRegisters" "KIND_TAILS" "[I") (.int 7)) (.int 3)) (by decide +kernel))
  have z8 := va_eqt (hs (Cond.eq (.elem (Term.static "HallRegisters" "KIND_TAILS" "[I") (.int 8)) (.int 1)) (by decide +kernel))
  have z9 := va_eqt (hs (Cond.eq (.elem (Term.static "HallRegisters" "KIND_TAILS" "[I") (.int 9)) (.int 3)) (by decide +kernel))
  have z10 := va_eqt (hs (Cond.eq (.elem (Term.static "HallRegisters" "KIND_TAILS" "[I") (.int 10)) (.int 1)) (by decide +kernel))
  have z11 := va_eqt (hs (Cond.eq (.elem (Term.static "HallRegisters" "KIND_TAILS" "[I") (.int 11)) (.int 4)) (by decide +kernel))
  have z12 := va_eqt (hs (Cond.eq (.elem (Term.static "HallRegisters" "KIND_TAILS" "[I") (.int 12)) (.int 1)) (by decide +kernel))
  have z13 := va_eqt (hs (Cond.eq (.elem (Term.static "HallRegisters" "KIND_TAILS" "[I") (.int 13)) (.int 3)) (by decide +kernel))
  have z14 := va_eqt (hs (Cond.eq (.elem (Term.static "HallRegisters" "KIND_TAILS" "[I") (.int 14)) (.int 2)) (by decide +kernel))
  have z15 := va_eqt (hs (Cond.eq (.elem (Term.static "HallRegisters" "KIND_TAILS" "[I") (.int 15)) (.int 5)) (by decide +kernel))
  have z16 := va_eqt (hs (Cond.eq (.elem (Term.static "HallRegisters" "KIND_TAILS" "[I") (.int 16)) (.int 2)) (by decide +kernel))
  have z17 := va_eqt (hs (Cond.eq (.elem (Term.static "HallRegisters" "KIND_TAILS" "[I") (.int 17)) (.int 3)) (by decide +kernel))
  have z18 := va_eqt (hs (Cond.eq (.elem (Term.static "HallRegisters" "KIND_TAILS" "[I") (.int 18)) (.int 1)) (by decide +kernel))
  have z19 := va_eqt (hs (Cond.eq (.elem (Term.static "HallRegisters" "KIND_TAILS" "[I") (.int 19)) (.int 4)) (by decide +kernel))
  have z20 := va_eqt (hs (Cond.eq (.elem (Term.static "HallRegisters" "KIND_TAILS" "[I") (.int 20)) (.int 2)) (by decide +kernel))
  have z21 := va_eqt (hs (Cond.eq (.elem (Term.static "HallRegisters" "KIND_TAILS" "[I") (.int 21)) (.int 3)) (by decide +kernel))
  have z22 := va_eqt (hs (Cond.eq (.elem (Term.static "HallRegisters" "KIND_TAILS" "[I") (.int 22)) (.int 2)) (by decide +kernel))
  have z23 := va_eqt (hs (Cond.eq (.elem (Term.static "HallRegisters" "KIND_TAILS" "[I") (.int 23)) (.int 5)) (by decide +kernel))
  have z24 := va_eqt (hs (Cond.eq (.elem (Term.static "HallRegisters" "KIND_TAILS" "[I") (.int 24)) (.int 2)) (by decide +kernel))
  have z25 := va_eqt (hs (Cond.eq (.elem (Term.static "HallRegisters" "KIND_TAILS" "[I") (.int 25)) (.int 4)) (by decide +kernel))
  have z26 := va_eqt (hs (Cond.eq (.elem (Term.static "HallRegisters" "KIND_TAILS" "[I") (.int 26)) (.int 2)) (by decide +kernel))
  have z27 := va_eqt (hs (Cond.eq (.elem (Term.static "HallRegisters" "KIND_TAILS" "[I") (.int 27)) (.int 6)) (by decide +kernel))
  have z28 := va_eqt (hs (Cond.eq (.elem (Term.static "HallRegisters" "KIND_TAILS" "[I") (.int 28)) (.int 2)) (by decide +kernel))
  have z29 := va_eqt (hs (Cond.eq (.elem (Term.static "HallRegisters" "KIND_TAILS" "[I") (.int 29)) (.int 5)) (by decide +kernel))
  have z30 := va_eqt (hs (Cond.eq (.elem (Term.static "HallRegisters" "KIND_TAILS" "[I") (.int 30)) (.int 1)) (by decide +kernel))
  have z31 := va_eqt (hs (Cond.eq (.elem (Term.static "HallRegisters" "KIND_TAILS" "[I") (.int 31)) (.int 6)) (by decide +kernel))
  match j, hj with
  | 0, _ => exact z0
  | 1, _ => exact z1
  | 2, _ => exact z2
  | 3, _ => exact z3
  | 4, _ => exact z4
  | 5, _ => exact z5
  | 6, _ => exact z6
  | 7, _ => exact z7
  | 8, _ => exact z8
  | 9, _ => exact z9
  | 10, _ => exact z10
  | 11, _ => exact z11
  | 12, _ => exact z12
  | 13, _ => exact z13
  | 14, _ => exact z14
  | 15, _ => exact z15
  | 16, _ => exact z16
  | 17, _ => exact z17
  | 18, _ => exact z18
  | 19, _ => exact z19
  | 20, _ => exact z20
  | 21, _ => exact z21
  | 22, _ => exact z22
  | 23, _ => exact z23
  | 24, _ => exact z24
  | 25, _ => exact z25
  | 26, _ => exact z26
  | 27, _ => exact z27
  | 28, _ => exact z28
  | 29, _ => exact z29
  | 30, _ => exact z30
  | 31, _ => exact z31
  | j + 32, hj => exact absurd hj (by omega)
end ST
theorem ks_of {w : Wd} {s : State} {b : Nat} (hts : ∀ w ∈ lw_tbl, w.before #[Value.ref b] s = true) (hg : ∀ t ∈ goodTbl, t.before #[Value.ref b] s = true) (hh : HG s b) (hw : wb w = s.heap.size) (h0 : ∀ k, k < 3 → (Term.static "HallRegisters" (tabN k) "[I").eval #[Value.ref b] s none [] s = some (.ref (wt w k)) ∧ va_T .int (wt w k) (tabL k) (fun j => .int (tab k j)) (mine w) s s.heap) : KS w s := by
  have hA : ∀ a : Nat, a < s.heap.size → ¬ mine w a := fun a ha => by show ¬ wb w ≤ a; omega
  refine ⟨?_, ?_, fun k hk => ⟨?_, (h0 k hk).2⟩⟩
  · intro q hq
    have key : ∀ q ∈ nestM, (Cond.methodLinkNest q.1 q.2.1 q.2.2.1 q.2.2.2) ∈ lw_tbl := by
      unfold nestM
      simp only [List.forall_mem_cons]
      exact ⟨List.mem_of_getElem? (i := 183) (by decide +kernel), List.mem_of_getElem? (i := 236) (by decide +kernel), List.mem_of_getElem? (i := 463) (by decide +kernel), List.mem_of_getElem? (i := 271) (by decide +kernel), List.mem_of_getElem? (i := 275) (by decide +kernel), List.mem_of_getElem? (i := 995) (by decide +kernel), List.mem_of_getElem? (i := 373) (by decide +kernel), List.mem_of_getElem? (i := 390) (by decide +kernel), List.mem_of_getElem? (i := 189) (by decide +kernel), List.mem_of_getElem? (i := 628) (by decide +kernel), fun _ h => absurd h List.not_mem_nil⟩
    exact va_Nw.of rfl (hts _ (key q hq))
  · intro q hq
    have key : ∀ q ∈ nestF, (Cond.fieldLinkNest q.1 q.2.1 q.2.2.1 q.2.2.2.1 q.2.2.2.2.1 q.2.2.2.2.2) ∈ lw_tbl := by
      unfold nestF
      simp only [List.forall_mem_cons]
      exact ⟨List.mem_of_getElem? (i := 512) (by decide +kernel), List.mem_of_getElem? (i := 514) (by decide +kernel), List.mem_of_getElem? (i := 523) (by decide +kernel), fun _ h => absurd h List.not_mem_nil⟩
    exact va_Nw.of rfl (hts _ (key q hq))
  · refine va_Zof ?_ (hg _ gw_158) (h0 k hk).1 hA
    match k, hk with
    | 0, _ => exact hts _ (List.mem_of_getElem? (i := 513) (by decide +kernel))
    | 1, _ => exact hts _ (List.mem_of_getElem? (i := 515) (by decide +kernel))
    | 2, _ => exact hts _ (List.mem_of_getElem? (i := 524) (by decide +kernel))
    | k + 3, hk => exact absurd hk (by omega)
theorem arrT {s : State} {b : Nat} {ty : FieldType} (h : (Cond.arrayClass ty).before #[Value.ref b] s = true) : ∃ cA : ClassId, ArrOfT s cA ty ∧ s.vm.findClass ("[" ++ ty.toString) = some cA := by
  obtain ⟨c, k, comp, h1, h2, h3⟩ := Cond.arrayClass_spec h
  exact ⟨c, fun n z => ⟨(fun k h => by cases h), k, h2, comp, h3⟩, h1⟩
theorem arrO {s : State} {b : Nat} {C : String} (h : (Cond.arrayOver (.object C)).before #[Value.ref b] s = true) : ∃ cA : ClassId, ArrOfT s cA (.object C) ∧ va_RA s cA (.object C) := by
  obtain ⟨comp, c, k, h1, h2, h3, h4, h5⟩ := Cond.arrayOver_spec h
  exact ⟨c, fun n z => ⟨(fun k h => by cases h), k, h3, comp, h4⟩, k, comp, h3, h4, h1, h5⟩
theorem arrLL {s : State} (h : AOL s) : ∃ cA : ClassId, ArrOfT s cA (.array .long) ∧ va_RA s cA (.array .long) := by
  obtain ⟨comp, c, k, h1, h2, h3, h4, h5⟩ := arrayOverA_spec h
  exact ⟨c, fun n z => ⟨(fun k h => by cases h), k, h3, comp, h4⟩, h5⟩
theorem kn_all {s : State} {b : Nat} (hg : ∀ t ∈ goodTbl, t.before #[Value.ref b] s = true) : ∃ (dC : Nat → ClassId) (dI : Nat → Nat → Nat), ∀ (k : Nat) (q : vw_C), vwCl[k]? = some q → u_Kn s q.1 q.2.1 q.2.2 (dC k) (dI k) := by
  obtain ⟨c0, i0, h0⟩ := u_known (C := RX0) (T := TX0) (N := 8) (n := 8) hg ws_0 (hg _ gw_335)
  obtain ⟨c1, i1, h1⟩ := u_known (C := RX1) (T := TX1) (N := 10) (n := 10) hg ws_1 (hg _ gw_426)
  obtain ⟨c2, i2, h2⟩ := u_known (C := RX2) (T := TX2) (N := 7) (n := 7) hg ws_2 (hg _ gw_235)
  obtain ⟨c3, i3, h3⟩ := u_known (C := RX3) (T := TX3) (N := 3) (n := 3) hg ws_3 (hg _ gw_372)
  obtain ⟨c4, i4, h4⟩ := u_known (C := RX4) (T := TX4) (N := 9) (n := 9) hg ws_4 (hg _ gw_265)
  obtain ⟨c5, i5, h5⟩ := u_known (C := RX5) (T := TX5) (N := 11) (n := 11) hg ws_5 (hg _ gw_465)
  obtain ⟨c6, i6, h6⟩ := u_known (C := RX6) (T := TX6) (N := 3) (n := 3) hg ws_6 (hg _ gw_188)
  obtain ⟨c7, i7, h7⟩ := u_known (C := RX7) (T := TX7) (N := 11) (n := 11) hg ws_7 (hg _ gw_366)
  obtain ⟨c8, i8, h8⟩ := u_known (C := RX8) (T := TX8) (N := 3) (n := 3) hg ws_8 (hg _ gw_182)
  obtain ⟨c9, i9, h9⟩ := u_known (C := RX9) (T := TX9) (N := 4) (n := 4) hg ws_9 (hg _ gw_274)
  obtain ⟨c10, i10, h10⟩ := u_known (C := RX10) (T := TX10) (N := 17) (n := 17) hg ws_10 (hg _ gw_174)
  obtain ⟨c11, i11, h11⟩ := u_known (C := RX11) (T := TX11) (N := 39) (n := 39) hg ws_11 (hg _ gw_1275)
  refine ⟨fun k => match k with | 0 => c0 | 1 => c1 | 2 => c2 | 3 => c3 | 4 => c4 | 5 => c5 | 6 => c6 | 7 => c7 | 8 => c8 | 9 => c9 | 10 => c10 | _ => c11, fun k => match k with | 0 => i0 | 1 => i1 | 2 => i2 | 3 => i3 | 4 => i4 | 5 => i5 | 6 => i6 | 7 => i7 | 8 => i8 | 9 => i9 | 10 => i10 | _ => i11, ?_⟩
  intro k q hq
  match k, hq with
  | 0, hq => cases hq; exact h0
  | 1, hq => cases hq; exact h1
  | 2, hq => cases hq; exact h2
  | 3, hq => cases hq; exact h3
  | 4, hq => cases hq; exact h4
  | 5, hq => cases hq; exact h5
  | 6, hq => cases hq; exact h6
  | 7, hq => cases hq; exact h7
  | 8, hq => cases hq; exact h8
  | 9, hq => cases hq; exact h9
  | 10, hq => cases hq; exact h10
  | 11, hq => cases hq; exact h11
  | k + 12, hq => simp at hq
section WL
variable {p : Program} {e : Env} {s : State} {m : MethodId} {args : Array Value} {below : List Frame} {meth : Method} {c0 : Code} {H : Heap} {locs : List Loc} {ls : Array Slot} {R0 : Room} {Q : State → Prop} {w : Wd} {n : Nat} {L : PL} {σ : Mem} {k sl pc : Nat} {rest st : List Value}
theorem wl_new {c N idx : Nat} {C1 own : String} {T : u_T} {R : PL} {cc : ByteArray} (hx : p.tables.exec = Jvm.exec) (hb : c0.code = cc) (hown : s.vm.findClass own = some m.cls) (hg : ∀ t ∈ goodTbl, t.before args s = true) (hKC : KC w s) (ty : Nat → FieldType) (hty : ∀ j, j < N → parseFieldDescriptor (T j).2.2.1 = some (ty j)) (hws : ∀ w ∈ u_ws C1 T N, w ∈ goodTbl) (hcl : vwCl[c]? = some (C1, T, N)) (hc : c < 12) (hkn0 : kd n = c) (hfr : Fresh σ n)
    (hl0 : Cond.classLink own idx C1 ∈ goodTbl) (hin : Cond.instantiable C1 N ∈ goodTbl) (hii : Cond.initialized C1 ∈ goodTbl) (hR : ∀ q ∈ R, q.1 = n) (hdef : ∀ j, j < N → defaultValue (ty j) = vp_V ((ftl c).map (fun b => if b then Value.null else .int 0)) j) (hRc : ∀ j, j < (ftl c).length → (ftl c)[j]? = some true → R.contains (n, j) = true) (hk : k + 1 ≤ R0.cells) (hs : sl + N ≤ R0.slots)
    (hP : va_P (wD w) vwCl (wdC w n L σ) H) (hsz : s.heap.size + k = wb w + n) (hkn : k ≤ n) (hS : va_S (mine w) s.heap H locs) (hd : decode cc pc = .ok (.new idx, 3))
    (kk : ∀ H1 : Heap, va_P (wD w) vwCl (wdC w (n + 1) (R ++ L) σ) H1 → va_S (mine w) s.heap H1 locs → W p w.1 e R0 s m args below meth c0 H1 locs (k + 1) (sl + N) Q (F0 m (pc + 3) ls (.ref (adr w n) :: rest))) : W p w.1 e R0 s m args below meth c0 H locs k sl Q (F0 m pc ls rest) := by
  refine w_sized (fun hz => ?_)
  have hH := hsize hP hz hsz hkn hS.1
  have hKn := hKC.1.1 c _ hcl
  refine W.newcK (own := own) (C := C1) (n := N) hx hb hown (hg _ hl0) (hg _ hin) (hg _ hii) rfl hd hk hs hKn.2.1 (h := adr w n) hH fun H1 kC hkC e1 z1 o1 => ?_
  have hnew : fldC w (R ++ L) σ c n = (ftl c).map (fun b => if b then Value.null else .int 0) := by
    apply List.ext_getElem?
    intro j
    rw [fldC_get, List.getElem?_map]
    cases hj : (ftl c)[j]? with
    | none => rfl
    | some b =>
      cases b with
      | false => simp [(hfr n (Nat.le_refl n) j).1]
      | true =>
        have h1 := hRc j (List.getElem?_eq_some_iff.mp hj).1 hj
        have h2 : (R ++ L).contains (n, j) = true := by
          rw [List.contains_iff_mem] at h1 ⊢
          exact List.mem_append_left _ h1
        simp only [Option.map_some, h2, if_true]
  have hP1 : va_P (wD w) vwCl (wdC w (n + 1) (R ++ L) σ) H1 := wdC_push hP o1 (fun a ha => entC_app (fun q hq => Nat.le_of_eq (hR q hq).symm) ha) (by
    have h9 : entC w (R ++ L) σ n = .inr (c, (ftl c).map (fun b => if b then Value.null else .int 0)) := by
      rw [← hnew]; simp [entC, hkn0, hc]
    rw [h9]
    exact ⟨_, hcl, (u_born ty hg hws hKn hkC e1 hty).to hdef⟩)
  refine W.eq (g2 := F0 m (pc + 3) ls (.ref (adr w n) :: rest)) rfl ?_
  exact kk H1 hP1 ⟨by rw [z1]; show _ ≤ adr w n + 1; unfold adr; have := hS.1; omega, fun x h1 h2 => (o1 x (by show x < adr w n; unfold adr; have := hS.1; omega)).trans (hS.2.1 x h1 h2), hS.2.2⟩
theorem wl_call {μ' : MD} {C' S' a idx nn nL : Nat} {own : String} {As : List Value} {f' : FinT} {cc : ByteArray} (hx : p.tables.exec = Jvm.exec) (hb : c0.code = cc) (hml : c0.maxLocals = nL) (hls : ls.size = nL) (hown : s.vm.findClass own = some m.cls) (hg : ∀ t ∈ goodTbl, t.before args s = true) (hKC : KC w s) (hM : MCC w μ' C' S' (.ref (adr w a) :: As) n L σ f') (ok : MOK μ' nn) (hret : μ'.2.2.2.1 = none) (hname : μ'.1.name = "<init>") (hfr : μ'.2.2.2.2 + 1 ≤ R0.frames) (hlo : 8 + (μ'.2.2.1 + 11) + 48 * μ'.2.2.2.2 ≤ R0.locals) (hlk : Cond.methodLink own idx μ'.1 ∈ goodTbl) (him : Cond.instanceMethod μ'.1 ∈ goodTbl) (hn : As.length = nn) (hst : As.reverse ++ .ref (adr w a) :: rest = st) (hcat : (rest.map fun v => v.category).sum ≤ 8) (hk : k + C' ≤ R0.cells) (hs : sl + S' ≤ R0.slots)
    (hP : va_P (wD w) vwCl (wdC w n L σ) H) (hsz : s.heap.size + k = wb w + n) (hkn : k ≤ n) (hS : va_S (mine w) s.heap H locs) (hd : decode cc pc = .ok (.invokespecial idx, 3))
    (kk : ∀ (H1 : Heap) (locs1 : List Loc), va_P (wD w) vwCl (wdC w f'.1 f'.2.1 f'.2.2) H1 → va_S (mine w) s.heap H1 locs1 → W p w.1 e R0 s m args below meth c0 H1 locs1 (k + C') (sl + S') Q (F0 m (pc + 3) ls rest)) : W p w.1 e R0 s m args below meth c0 H locs k sl Q (F0 m pc ls st) := by
  refine w_sized (fun hz => ?_)
  have hH := hsize hP hz hsz hkn hS.1
  have hcb := callB_of (R := R0) nn hg (good_sub (wsM_in ok)) (rm := rmC μ'.2.2.2.2 C' S') rfl rfl rfl (hg _ ok.2.1) (hg _ hlk) ok.2.2.2.1 ⟨hfr, hlo⟩
  rw [hret] at hcb
  have run := va_runI (p := p) (e := e) (below := below) (meth := meth) (locs := locs) (cells := k) (slots := sl) (g := F0 m pc ls st) (rest := rest) (H := H) (As := As) (Ts := goodTbl) ⟨hx, hb, hml, hown, hg⟩ hM ⟨hcb, hname, hg _ him⟩ ⟨PcC.blind, fun U hU hW => ⟨rfl, by rw [hU]; exact hP, by rw [hU]; exact hH, hKC.moved hW (fun a h1 h2 => by rw [hU]; exact hS.2.1 a h1 h2)⟩⟩ rfl hn hls hst.symm (lv_room hcat) hd ⟨hk, hs⟩
  intro T hT X
  obtain ⟨v, st₀, t, T', L0, h0, X', hL, e1, e2, ⟨hv, hR, hz2, hF⟩, go⟩ := run T hT X
  cases hv
  rw [h0] at hz2 hF
  obtain ⟨t2, a1, b1⟩ := kk T'.heap (locs ++ L0) (by rw [e1]; exact hR) ⟨Nat.le_trans hS.1 (by rw [e1]; exact hz2), fun q h1 h2 => by rw [e1, hF q (Nat.lt_of_lt_of_le h1 hS.1) h2]; exact hS.2.1 q h1 h2, fun q hq => by
      rcases List.mem_append.mp hq with h | h
      · exact hS.2.2 q h
      · exact hL q h⟩ T' rfl X'
  exact ⟨t2, go t2 a1, b1⟩
end WL
set_option maxHeartbeats 4000000 in
theorem law_start {p : Program} {e : Env} {s : State} {m : MethodId} {below : List Frame} {meth : Method} {c : Code} (l : Launch) {b L : Nat} {xs : Nat → Int32} (hL : L ≤ 3072) (C0 : lw_At p s m meth c b L xs) {I : Nat → Mem → Prop} (ok : LawOK I) (up : ∀ c σ, I c σ → I (c + 1) σ) (hI : Start I) : W p l e room_1 s m #[Value.ref b] below meth c s.heap [] 0 0 (lw_Z below #[Value.ref b] s) (entryFrame m ([Value.ref b] : List Value).toArray 4) := by
  obtain ⟨hx, hb, hr, hml, hown, hts, hX, hbl, hlocks, hgv⟩ := id C0
  obtain ⟨σ1, σ2, σ3, t1, t2, t3, hI3⟩ := hI
  have hg : ∀ t ∈ goodTbl, t.before #[Value.ref b] s = true := fun t ht => hts t (List.mem_filter.mp ht).1
  obtain ⟨dC, dI, hKc⟩ := kn_all hg
  obtain ⟨a12, k12, n12⟩ := arrT (hg _ gw_214)
  obtain ⟨a13, k13, n13⟩ := arrT (hg _ gw_232)
  have hao1 : va_AO "HallRegisters$State" s := va_AO.of (hts (.arrayOver (.object "HallRegisters$State")) (List.mem_of_getElem? (i := 233) (by decide +kernel)))
  have hao2 : va_AO "HallRegisters$Sum" s := va_AO.of (hts (.arrayOver (.object "HallRegisters$Sum")) (List.mem_of_getElem? (i := 273) (by decide +kernel)))
  have hao3 : AOL s := hts (.arrayOver (.array .long)) (List.mem_of_getElem? (i := 216) (by decide +kernel))
  obtain ⟨a14, k14, n14⟩ := arrO (b := b) (va_AO.use hao1)
  obtain ⟨a15, k15, n15⟩ := arrO (b := b) (va_AO.use hao2)
  obtain ⟨a16, k16, n16⟩ := arrLL hao3
  have hA : ∀ a : Nat, a < s.heap.size → ¬ (fun q : Nat => s.heap.size ≤ q) a := fun a ha => Nat.not_le.mpr ha
  obtain ⟨u0, f0, g0⟩ := tabT_0 hgv hA
  obtain ⟨u1, f1, g1⟩ := tabT_1 hgv hA
  obtain ⟨u2, f2, g2⟩ := tabT_2 hgv hA
  generalize hwc : (fun k : Nat => if k = 12 then a12 else if k = 13 then a13 else if k = 14 then a14 else if k = 15 then a15 else a16) = wc
  generalize hwt : (fun k : Nat => if k = 0 then u0 else if k = 1 then u1 else u2) = wt0
  have hmk : ∀ N : Nat, KC ((l, (dC, dI), wc, s.heap.size, N, wt0) : Wd) s := by
    intro N
    refine ⟨⟨hKc, ?_⟩, ?_, hao1, hao2, hao3⟩
    · intro k q hq
      subst hwc
      match k, hq with
      | 0, hq => cases hq; exact ⟨k12, n12⟩
      | 1, hq => cases hq; exact ⟨k13, n13⟩
      | 2, hq => cases hq; exact ⟨k14, n14⟩
      | 3, hq => cases hq; exact ⟨k15, n15⟩
      | 4, hq => cases hq; exact ⟨k16, n16⟩
      | k + 5, hq => simp [ctys] at hq
    · refine ks_of hts hg hgv rfl (fun k hk => ?_)
      subst hwt
      match k, hk with
      | 0, _ => exact ⟨f0, g0⟩
      | 1, _ => exact ⟨f1, g1⟩
      | 2, _ => exact ⟨f2, g2⟩
      | k + 3, hk => exact absurd hk (by omega)
  generalize hw1 : ((l, (dC, dI), wc, s.heap.size, NC, wt0) : Wd) = w1
  generalize hw2 : ((l, (dC, dI), wc, s.heap.size, NT, wt0) : Wd) = w2
  have hKC1 : KC w1 s := by rw [← hw1]; exact hmk NC
  have hKC2 : KC w2 s := by rw [← hw2]; exact hmk NT
  have hlw1 : w1.1 = l := by rw [← hw1]
  have hlw2 : w2.1 = l := by rw [← hw2]
  have hb1 : wb w1 = s.heap.size := by rw [← hw1]; rfl
  have hb2 : wb w2 = s.heap.size := by rw [← hw2]; rfl
  have hN1 : wn w1 = NC := by rw [← hw1]; rfl
  have hN2 : wn w2 = NT := by rw [← hw2]; rfl
  have hD12 : wD w1 = wD w2 := by rw [← hw1, ← hw2]; rfl
  have h12 : ∀ (n : Nat) (τ : Mem), wdC w1 n [] τ = wdC w2 n [] τ := fun n τ => by rw [← hw1, ← hw2]; rfl
  have hm12 : mine w1 = mine w2 := by rw [← hw1, ← hw2]; rfl
  have ha12 : ∀ a, adr w1 a = adr w2 a := fun a => by rw [← hw1, ← hw2]; rfl
  have hl := lv_entry ([.ref b]) (n := 4) (Nat.le_of_ble_eq_true rfl)
  rw [lg_entry_eq]
  generalize (lg_sl ([.ref b]) ++ List.replicate (4 - (lg_sl ([.ref b])).length) Slot.unset).toArray = ls at hl ⊢
  have hl : lv_has ls 4 [(0, .ref b)] := hl
  have hfz : Fresh zM 0 := fun _ _ _ => ⟨rfl, rfl⟩
  have hS0 : va_S (mine w1) s.heap s.heap [] := va_S.rf
  rw [← hlw1]
  refine wl_new (w := w1) (n := 0) (L := []) (σ := zM) (R := [(0, 0), (0, 1), (0, 3), (0, 6), (0, 8), (0, 9), (0, 10), (0, 11), (0, 12), (0, 13), (0, 14), (0, 15), (0, 16)]) (own := RL) hx hb hown hg hKC1 tyX10 tyX10_ok ws_10 rfl (by decide) (by decide +kernel) hfz gw_173 gw_174 gw_158 (by decide) defI_10 (by decide +kernel) (Nat.le_of_ble_eq_true rfl) (Nat.le_of_ble_eq_true rfl) (fun k q h => by simp [wdC] at h) (by omega) (Nat.le_refl 0) hS0 dL_law_0 (fun H1 hP1 hS1 => ?_)
  refine lv_dup hx hb dL_law_3 rfl ?_
  refine wl_call (w := w1) (own := RL) (As := []) hx hb hml hl.1 hown hg hKC1 (cI_X10_0 hfz (Or.inl hN1) hN1 t1 t2) okI_X10 rfl rfl (Nat.le_of_ble_eq_true rfl) (Nat.le_of_ble_eq_true rfl) gw_175 gw_176 rfl rfl (Nat.le_of_ble_eq_true rfl) (Nat.le_of_ble_eq_true rfl) (Nat.le_of_ble_eq_true rfl) hP1 (by omega) (Nat.le_of_ble_eq_true rfl) hS1 dL_law_4 (fun H2 locs2 hP2 hS2 => ?_)
  refine lv_astore_n (lv' := [(1, .ref (adr w1 0)), (0, .ref b)]) hx hb dL_law_7 rfl hl (ltb rfl) rfl (fun ls2 hl2 => ?_)
  have hP2' : va_P (wD w2) vwCl (wdC w2 306 [] (trim σ2 306)) H2 := by
    rw [wdC_trim, ← h12, ← hD12]; exact hP2
  have hS2' : va_S (mine w2) s.heap H2 locs2 := by rw [← hm12]; exact hS2
  rw [hlw1, ← hlw2]
  refine wl_new (w := w2) (n := 306) (L := []) (σ := trim σ2 306) (R := [(306, 1), (306, 2), (306, 5), (306, 8), (306, 11), (306, 12), (306, 13), (306, 14), (306, 15), (306, 16), (306, 17), (306, 26), (306, 28), (306, 30), (306, 32), (306, 35), (306, 38)]) (own := RL) hx hb hown hg hKC2 tyX11 tyX11_ok ws_11 rfl (by decide) (by decide +kernel) trim_fresh gw_1274 gw_1275 gw_171 (by decide) defI_11 (by decide +kernel) (Nat.le_of_ble_eq_true rfl) (Nat.le_of_ble_eq_true rfl) hP2' (by omega) (Nat.le_of_ble_eq_true rfl) hS2' dL_law_8 (fun H3 hP3 hS3 => ?_)
  refine lv_dup hx hb dL_law_11 rfl ?_
  refine wl_call (w := w2) (own := RL) (As := []) hx hb hml hl2.1 hown hg hKC2 (cI_X11_306 trim_fresh (Or.inr hN2) hN2 t3) okI_X11 rfl rfl (Nat.le_of_ble_eq_true rfl) (Nat.le_of_ble_eq_true rfl) gw_1276 gw_1277 rfl rfl (Nat.le_of_ble_eq_true rfl) (Nat.le_of_ble_eq_true rfl) (Nat.le_of_ble_eq_true rfl) hP3 (by omega) (Nat.le_of_ble_eq_true rfl) hS3 dL_law_12 (fun H4 locs4 hP4 hS4 => ?_)
  refine lv_astore_n (lv' := [(2, .ref (adr w2 306)), (1, .ref (adr w1 0)), (0, .ref b)]) hx hb dL_law_15 rfl hl2 (ltb rfl) rfl (fun ls3 hl3 => ?_)
  refine lv_iconst (v := 0) hx hb dL_law_16 ic_i_0 ?_
  refine lv_istore_n (lv' := [(3, .int 0), (2, .ref (adr w2 306)), (1, .ref (adr w1 0)), (0, .ref b)]) hx hb dL_law_17 rfl hl3 (ltb rfl) rfl (fun ls4 hl4 => ?_)
  have hR : RH w2 σ3 H4 := by
    unfold RH
    rw [← wd_all (n := 324) hN2]
    exact hP4
  rw [ha12] at hl4
  have hLX : LX ((p, e, s, m), (below, meth, c, l), (b, L, xs)) w2 := ⟨C0, hlw2, hKC2.1, hKC2.2.1, hb2, Or.inr hN2, hN2, hL⟩
  have hgo := law_loop (E := ((p, e, s, m), (below, meth, c, l), (b, L, xs))) (w := w2) ⟨hLX, trivial⟩ ok up (L + 1) 0 0 σ3 rfl (by show L < L + 1 + 0; omega) (Nat.zero_le _) hI3 hLX H4 locs4 ls4 hR hS4 (lv_sub hl4 [3, 2, 1, 0] rfl)
  rw [hlw2]
  exact hgo
