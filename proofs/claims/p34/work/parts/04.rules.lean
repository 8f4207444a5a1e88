/-! THE JUDGEMENT: a frame of a method whose world is all cells; what it does is a function on memories, an option whose none is a place that isn't reached -/
/-- a method: name, code, locals, result, how deep it calls -/
abbrev MD : Type := MethodName × ByteArray × Nat × Option FieldType × Nat
def goodTbl : List Cond := lw_tbl.filter goodWord
theorem mgood {w : Cond} (i : Nat) (h : lw_tbl[i]? = some w) (g : goodWord w = true) : w ∈ goodTbl := List.mem_filter.mpr ⟨List.mem_of_getElem? h, g⟩
theorem good_all : ∀ w ∈ goodTbl, goodWord w = true := fun _ h => (List.mem_filter.mp h).2
def rmD (d : Nat) : Room := { frames := d, cells := 0, slots := 0, locals := 48 * d }
def ctys (w : Wd) : List (ClassId × FieldType) := [(wcs w 12, .int), (wcs w 13, .long), (wcs w 14, .object "HallRegisters$State"), (wcs w 15, .object "HallRegisters$Sum"), (wcs w 16, .array .long)]
def nestM : List (String × Nat × MethodName × String) := [("HallRegisters", 11, ⟨"HallRegisters$State", "<init>", "()V"⟩, "HallRegisters"), ("HallRegisters", 43, ⟨"HallRegisters$Collector", "<init>", "()V"⟩, "HallRegisters"), ("HallRegisters", 84, ⟨"HallRegisters$Lattice", "<init>", "()V"⟩, "HallRegisters"), ("HallRegisters$Law", 11, ⟨"HallRegisters$Rules", "<init>", "()V"⟩, "HallRegisters"), ("HallRegisters$Law", 50, ⟨"HallRegisters$Sum", "<init>", "()V"⟩, "HallRegisters"), ("HallRegisters$Reader", 140, ⟨"HallRegisters", "isRegister", "(I)Z"⟩, "HallRegisters"), ("HallRegisters$Search", 11, ⟨"HallRegisters$Lattice", "<init>", "()V"⟩, "HallRegisters"), ("HallRegisters$Search", 54, ⟨"HallRegisters$Sum", "<init>", "()V"⟩, "HallRegisters"), ("HallRegisters$State", 11, ⟨"HallRegisters$Rules", "<init>", "()V"⟩, "HallRegisters"), ("HallRegisters$Sum", 34, ⟨"HallRegisters", "degree", "(II)I"⟩, "HallRegisters")]
def nestF : List (String × Nat × String × String × String × String) := [("HallRegisters$Rules", 28, "HallRegisters", "KIND_SIZES", "[I", "HallRegisters"), ("HallRegisters$Rules", 31, "HallRegisters", "KIND_WEIGHTS", "[I", "HallRegisters"), ("HallRegisters$Rules", 38, "HallRegisters", "KIND_TAILS", "[I", "HallRegisters")]
def tabN : Nat → String | 0 => "KIND_SIZES" | 1 => "KIND_WEIGHTS" | _ => "KIND_TAILS"
def tabV : Nat → List Int32 | 0 => [3, 5, 6, 6] | 1 => [37, 997, 3733, 1365] | _ => [0, 2, 1, 3, 1, 2, 1, 3, 1, 3, 1, 4, 1, 3, 2, 5, 2, 3, 1, 4, 2, 3, 2, 5, 2, 4, 2, 6, 2, 5, 1, 6]
def tabL (k : Nat) : Nat := (tabV k).length
def tab (k j : Nat) : Int32 := (tabV k).getD j 0
/-- the cells of the run: everything from wb on -/
abbrev mine (w : Wd) : Nat → Prop := fun q => wb w ≤ q
/-- what a state holds besides the world: links of nest mates, the three static tables -/
def KS (w : Wd) (U : State) : Prop := (∀ q ∈ nestM, va_Nw (.methodLinkNest q.1 q.2.1 q.2.2.1 q.2.2.2) U) ∧ (∀ q ∈ nestF, va_Nw (.fieldLinkNest q.1 q.2.1 q.2.2.1 q.2.2.2.1 q.2.2.2.2.1 q.2.2.2.2.2) U) ∧ ∀ k, k < 3 → va_Z "HallRegisters" (tabN k) "[I" (.ref (wt w k)) (mine w) U U.heap ∧ va_T .int (wt w k) (tabL k) (fun j => .int (tab k j)) (mine w) U U.heap
theorem KS.moved {w : Wd} {s U : State} (h : KS w s) (hW : s.WarmedH U.vm) (hk : ∀ a : Nat, a < s.heap.size → ¬ mine w a → U.heap[a]? = s.heap[a]?) : KS w U := by
  refine ⟨fun q hq => (h.1 q hq).warmM hW, fun q hq => (h.2.1 q hq).warmF hW, fun k hlt => ⟨?_, ?_⟩⟩
  · exact ((h.2.2 k hlt).1.moved hW.alike).kept hk
  · exact ((h.2.2 k hlt).2.moved hW.alike).kept hk
/-- the heap holds the memory -/
def RH (w : Wd) (σ : Mem) (H : Heap) : Prop := va_P (wD w) vwCl (wd w σ) H
def PcM (w : Wd) (args : List Value) (σ : Mem) : Array Value → State → Prop := fun v U => v = args.toArray ∧ RH w σ U.heap ∧ va_K (wD w) vwCl (ctys w) U ∧ KS w U
def QcM (w : Wd) (r : Option Value) (σ : Mem) : Array Value → State → Outcome → State → Prop := fun _ st o t => o = .returned r ∧ RH w σ t.heap ∧ va_F (mine w) st t
def wsM (μ : MD) : List Cond := Cond.code μ.1 μ.2.1 μ.2.2.1 μ.2.2.2.1 :: goodTbl
/-- a method's contract at these arguments -/
def MC (w : Wd) (μ : MD) (r : Option Value) (args : List Value) (σ σ' : Mem) : Prop := Met w.1 μ.1 (wsM μ) (rmD μ.2.2.2.2) (PcM w args σ) (QcM w r σ') 0 0 (mine w)
def MOK (μ : MD) (n : Nat) : Prop := Cond.code μ.1 μ.2.1 μ.2.2.1 μ.2.2.2.1 ∈ goodTbl ∧ Cond.initialized μ.1.cls ∈ goodTbl ∧ plainFor μ.1 = true ∧ (μ.1.cls ≠ "java/lang/invoke/MethodHandle" ∧ μ.1.cls ≠ "java/lang/invoke/VarHandle" ∧ (parseMethodDescriptor μ.1.desc).map (fun d => d.parameters.length) = some n) ∧ μ.2.2.1 ≤ 20
/-- what stays the same while a frame runs -/
def CX (w : Wd) (μ : MD) (p : Program) (s : State) (m : MethodId) (args : Array Value) (meth : Method) (c : Code) : Prop :=
  p.tables.exec = Jvm.exec ∧ c.code = μ.2.1 ∧ c.maxLocals = μ.2.2.1 ∧ meth.sig.returnType = μ.2.2.2.1 ∧ s.vm.findClass μ.1.cls = some m.cls ∧ (∀ t ∈ goodTbl, t.before args s = true) ∧ meth.locks = false ∧ va_K (wD w) vwCl (ctys w) s ∧ KS w s
def JO {ρ α : Type} (w : Wd) (μ : MD) (tv : ρ → Option Value) (σ : Mem) (lv : List (Nat × Value)) (st : List Value) (pc : Nat) (x : Option α) (K : α → Option (ρ × Mem)) : Prop :=
  ∀ (r : ρ) (σ' : Mem), x.bind K = some (r, σ') → ∀ (p : Program) (e : Env) (s : State) (m : MethodId) (args : Array Value) (below : List Frame) (meth : Method) (c : Code) (H : Heap) (locs : List Loc) (ls : Array Slot),
    CX w μ p s m args meth c → RH w σ H → va_S (mine w) s.heap H locs → lv_has ls μ.2.2.1 lv →
    W p w.1 e (rmD μ.2.2.2.2) s m args below meth c H locs 0 0 (MQ below (QcM w (tv r) σ') args s 0 0 (mine w)) (F0 m pc ls st)
def vI : Int32 → Option Value := fun v => some (.int v)
def vL : Int64 → Option Value := fun v => some (.long v)
def vV : Unit → Option Value := fun _ => none
section JOS
variable {ρ α : Type} {w : Wd} {μ : MD} {tv : ρ → Option Value} {σ : Mem} {lv lv' : List (Nat × Value)} {rest : List Value} {pc : Nat} {x : Option α} {K : α → Option (ρ × Mem)}
theorem jo_none {st : List Value} : JO w μ tv σ lv st pc (none : Option α) K := fun r σ' h => by cases h
theorem jo_lv {st : List Value} (ks : List Nat) (hl : lv_pick lv ks = lv') (k : JO w μ tv σ lv' st pc x K) : JO w μ tv σ lv st pc x K :=
  fun r σ' hx p e s m args below meth c H locs ls C hH hS h => k r σ' hx p e s m args below meth c H locs ls C hH hS (lv_sub h ks hl)
theorem jo_bind {β : Type} {st : List Value} {y : Option β} {g : β → Option α} (k : JO w μ tv σ lv st pc y (fun b => (g b).bind K)) : JO w μ tv σ lv st pc (y.bind g) K :=
  fun r σ' hx => k r σ' (by rw [← Option.bind_assoc]; exact hx)
theorem jo_leaf {β : Type} {st : List Value} {a : α} {y : Option β} {K' : β → Option (ρ × Mem)} (h : K a = y.bind K') (k : JO w μ tv σ lv st pc y K') : JO w μ tv σ lv st pc (some a) K :=
  fun r σ' hx => k r σ' (by rw [← h]; exact hx)
/-- naming -/
def bd {α β : Type} (v : β) (f : β → Option α) : Option α := f v
theorem jo_bd {β : Type} {st : List Value} {v : β} {f : β → Option α} (k : JO w μ tv σ lv st pc (f v) K) : JO w μ tv σ lv st pc (bd v f) K := k

theorem jo_iconst {n : Int} {v : Int32} (hd : decode μ.2.1 pc = .ok (.iconst n, 1)) (hv : Int32.ofInt n = v) (k : JO w μ tv σ lv (.int v :: rest) (pc + 1) x K) : JO w μ tv σ lv (rest) (pc) x K := by
  intro r σ' hx p e s m args below meth c H locs ls C hH hS hl
  exact lv_iconst C.1 C.2.1 hd hv (k r σ' hx p e s m args below meth c H locs ls C hH hS hl)
theorem jo_bipush {n : Int} {v : Int32} (hd : decode μ.2.1 pc = .ok (.bipush n, 2)) (hv : (Int8.ofInt n).toInt32 = v) (k : JO w μ tv σ lv (.int v :: rest) (pc + 2) x K) : JO w μ tv σ lv (rest) (pc) x K := by
  intro r σ' hx p e s m args below meth c H locs ls C hH hS hl
  exact lv_bipush C.1 C.2.1 hd hv (k r σ' hx p e s m args below meth c H locs ls C hH hS hl)
theorem jo_sipush {n : Int} {v : Int32} (hd : decode μ.2.1 pc = .ok (.sipush n, 3)) (hv : (Int16.ofInt n).toInt32 = v) (k : JO w μ tv σ lv (.int v :: rest) (pc + 3) x K) : JO w μ tv σ lv (rest) (pc) x K := by
  intro r σ' hx p e s m args below meth c H locs ls C hH hS hl
  exact lv_sipush C.1 C.2.1 hd hv (k r σ' hx p e s m args below meth c H locs ls C hH hS hl)
theorem jo_lconst {n : Fin 2} {v : Int64} (hd : decode μ.2.1 pc = .ok (.lconst n, 1)) (hv : Int64.ofNat (n : Nat) = v) (k : JO w μ tv σ lv (.long v :: rest) (pc + 1) x K) : JO w μ tv σ lv (rest) (pc) x K := by
  intro r σ' hx p e s m args below meth c H locs ls C hH hS hl
  exact lv_lconst C.1 C.2.1 hd hv (k r σ' hx p e s m args below meth c H locs ls C hH hS hl)
theorem jo_ldc {i : Nat} {v : Int32} (hd : decode μ.2.1 pc = .ok (.ldc i, 2)) (hc : Cond.constant μ.1.cls i v ∈ goodTbl) (k : JO w μ tv σ lv (.int v :: rest) (pc + 2) x K) : JO w μ tv σ lv (rest) (pc) x K := by
  intro r σ' hx p e s m args below meth c H locs ls C hH hS hl
  exact lv_ldc C.1 C.2.1 C.2.2.2.2.1 (C.2.2.2.2.2.1 _ hc) hd (k r σ' hx p e s m args below meth c H locs ls C hH hS hl)
theorem jo_ldc2 {i : Nat} {v : Int64} (hd : decode μ.2.1 pc = .ok (.ldc2_w i, 3)) (hc : Cond.constantLong μ.1.cls i v ∈ goodTbl) (k : JO w μ tv σ lv (.long v :: rest) (pc + 3) x K) : JO w μ tv σ lv (rest) (pc) x K := by
  intro r σ' hx p e s m args below meth c H locs ls C hH hS hl
  exact lv_ldc2 C.1 C.2.1 C.2.2.2.2.1 (C.2.2.2.2.2.1 _ hc) hd (k r σ' hx p e s m args below meth c H locs ls C hH hS hl)
theorem jo_iload_n {n : Fin 4} {i : Nat} {v : Int32} (j : Nat) (hj : lv[j]? = some (i, .int v)) (hd : decode μ.2.1 pc = .ok (.iload_n n, 1)) (hi : (n : Nat) = i) (k : JO w μ tv σ lv (.int v :: rest) (pc + 1) x K) : JO w μ tv σ lv (rest) (pc) x K := by
  intro r σ' hx p e s m args below meth c H locs ls C hH hS hl
  exact lv_iload_n C.1 C.2.1 hd hi (lv_at hl j hj) (k r σ' hx p e s m args below meth c H locs ls C hH hS hl)
theorem jo_iload {i : Nat} {v : Int32} (j : Nat) (hj : lv[j]? = some (i, .int v)) (hd : decode μ.2.1 pc = .ok (.iload i, 2)) (k : JO w μ tv σ lv (.int v :: rest) (pc + 2) x K) : JO w μ tv σ lv (rest) (pc) x K := by
  intro r σ' hx p e s m args below meth c H locs ls C hH hS hl
  exact lv_iload C.1 C.2.1 hd (lv_at hl j hj) (k r σ' hx p e s m args below meth c H locs ls C hH hS hl)
theorem jo_lload_n {n : Fin 4} {i : Nat} {v : Int64} (j : Nat) (hj : lv[j]? = some (i, .long v)) (hd : decode μ.2.1 pc = .ok (.lload_n n, 1)) (hi : (n : Nat) = i) (k : JO w μ tv σ lv (.long v :: rest) (pc + 1) x K) : JO w μ tv σ lv (rest) (pc) x K := by
  intro r σ' hx p e s m args below meth c H locs ls C hH hS hl
  exact lv_lload_n C.1 C.2.1 hd hi (lv_at hl j hj) (k r σ' hx p e s m args below meth c H locs ls C hH hS hl)
theorem jo_lload {i : Nat} {v : Int64} (j : Nat) (hj : lv[j]? = some (i, .long v)) (hd : decode μ.2.1 pc = .ok (.lload i, 2)) (k : JO w μ tv σ lv (.long v :: rest) (pc + 2) x K) : JO w μ tv σ lv (rest) (pc) x K := by
  intro r σ' hx p e s m args below meth c H locs ls C hH hS hl
  exact lv_lload C.1 C.2.1 hd (lv_at hl j hj) (k r σ' hx p e s m args below meth c H locs ls C hH hS hl)
theorem jo_aload_n {n : Fin 4} {i : Nat} {v : Nat} (j : Nat) (hj : lv[j]? = some (i, .ref v)) (hd : decode μ.2.1 pc = .ok (.aload_n n, 1)) (hi : (n : Nat) = i) (k : JO w μ tv σ lv (.ref v :: rest) (pc + 1) x K) : JO w μ tv σ lv (rest) (pc) x K := by
  intro r σ' hx p e s m args below meth c H locs ls C hH hS hl
  exact lv_aload_n C.1 C.2.1 hd hi (lv_at hl j hj) (k r σ' hx p e s m args below meth c H locs ls C hH hS hl)
theorem jo_aload {i : Nat} {v : Nat} (j : Nat) (hj : lv[j]? = some (i, .ref v)) (hd : decode μ.2.1 pc = .ok (.aload i, 2)) (k : JO w μ tv σ lv (.ref v :: rest) (pc + 2) x K) : JO w μ tv σ lv (rest) (pc) x K := by
  intro r σ' hx p e s m args below meth c H locs ls C hH hS hl
  exact lv_aload C.1 C.2.1 hd (lv_at hl j hj) (k r σ' hx p e s m args below meth c H locs ls C hH hS hl)
theorem jo_istore_n {n : Fin 4} {i : Nat} {v : Int32} (hd : decode μ.2.1 pc = .ok (.istore_n n, 1)) (hi : (n : Nat) = i) (hn : i < μ.2.2.1) (hl : (i, Value.int v) :: lv.filter (fun q => !(q.1 == i) && !(q.1 + 1 == i && q.2.category == 2)) = lv') (k : JO w μ tv σ lv' (rest) (pc + 1) x K) : JO w μ tv σ lv (.int v :: rest) (pc) x K := by
  intro r σ' hx p e s m args below meth c H locs ls C hH hS hl
  exact lv_istore_n C.1 C.2.1 hd hi hl hn ‹_› (fun ls' hl' => (k r σ' hx p e s m args below meth c H locs ls' C hH hS hl'))
theorem jo_istore {i : Nat} {v : Int32} (hd : decode μ.2.1 pc = .ok (.istore i, 2)) (hn : i < μ.2.2.1) (hl : (i, Value.int v) :: lv.filter (fun q => !(q.1 == i) && !(q.1 + 1 == i && q.2.category == 2)) = lv') (k : JO w μ tv σ lv' (rest) (pc + 2) x K) : JO w μ tv σ lv (.int v :: rest) (pc) x K := by
  intro r σ' hx p e s m args below meth c H locs ls C hH hS hl
  exact lv_istore C.1 C.2.1 hd hl hn ‹_› (fun ls' hl' => (k r σ' hx p e s m args below meth c H locs ls' C hH hS hl'))
theorem jo_lstore_n {n : Fin 4} {i : Nat} {v : Int64} (hd : decode μ.2.1 pc = .ok (.lstore_n n, 1)) (hi : (n : Nat) = i) (hn : i + 1 < μ.2.2.1) (hl : (i, Value.long v) :: lv.filter (fun q => !(q.1 == i) && (!(q.1 == i + 1) && !(q.1 + 1 == i && q.2.category == 2))) = lv') (k : JO w μ tv σ lv' (rest) (pc + 1) x K) : JO w μ tv σ lv (.long v :: rest) (pc) x K := by
  intro r σ' hx p e s m args below meth c H locs ls C hH hS hl
  exact lv_lstore_n C.1 C.2.1 hd hi hl hn ‹_› (fun ls' hl' => (k r σ' hx p e s m args below meth c H locs ls' C hH hS hl'))
theorem jo_lstore {i : Nat} {v : Int64} (hd : decode μ.2.1 pc = .ok (.lstore i, 2)) (hn : i + 1 < μ.2.2.1) (hl : (i, Value.long v) :: lv.filter (fun q => !(q.1 == i) && (!(q.1 == i + 1) && !(q.1 + 1 == i && q.2.category == 2))) = lv') (k : JO w μ tv σ lv' (rest) (pc + 2) x K) : JO w μ tv σ lv (.long v :: rest) (pc) x K := by
  intro r σ' hx p e s m args below meth c H locs ls C hH hS hl
  exact lv_lstore C.1 C.2.1 hd hl hn ‹_› (fun ls' hl' => (k r σ' hx p e s m args below meth c H locs ls' C hH hS hl'))
theorem jo_astore_n {n : Fin 4} {i : Nat} {v : Nat} (hd : decode μ.2.1 pc = .ok (.astore_n n, 1)) (hi : (n : Nat) = i) (hn : i < μ.2.2.1) (hl : (i, Value.ref v) :: lv.filter (fun q => !(q.1 == i) && !(q.1 + 1 == i && q.2.category == 2)) = lv') (k : JO w μ tv σ lv' (rest) (pc + 1) x K) : JO w μ tv σ lv (.ref v :: rest) (pc) x K := by
  intro r σ' hx p e s m args below meth c H locs ls C hH hS hl
  exact lv_astore_n C.1 C.2.1 hd hi hl hn ‹_› (fun ls' hl' => (k r σ' hx p e s m args below meth c H locs ls' C hH hS hl'))
theorem jo_astore {i : Nat} {v : Nat} (hd : decode μ.2.1 pc = .ok (.astore i, 2)) (hn : i < μ.2.2.1) (hl : (i, Value.ref v) :: lv.filter (fun q => !(q.1 == i) && !(q.1 + 1 == i && q.2.category == 2)) = lv') (k : JO w μ tv σ lv' (rest) (pc + 2) x K) : JO w μ tv σ lv (.ref v :: rest) (pc) x K := by
  intro r σ' hx p e s m args below meth c H locs ls C hH hS hl
  exact lv_astore C.1 C.2.1 hd hl hn ‹_› (fun ls' hl' => (k r σ' hx p e s m args below meth c H locs ls' C hH hS hl'))
theorem jo_iinc {i : Nat} {n : Int} {x0 v : Int32} (j : Nat) (hj : lv[j]? = some (i, .int x0)) (hd : decode μ.2.1 pc = .ok (.iinc i n, 3)) (hv : x0 + Int32.ofInt n = v) (hn : i < μ.2.2.1) (hq : (i, Value.int v) :: lv.filter (fun q => !(q.1 == i) && !(q.1 + 1 == i && q.2.category == 2)) = lv') (k : JO w μ tv σ lv' (rest) (pc + 3) x K) : JO w μ tv σ lv (rest) (pc) x K := by
  intro r σ' hx p e s m args below meth c H locs ls C hH hS hl
  exact lv_iinc C.1 C.2.1 hd hl hj hv hn hq (fun ls' hl' => (k r σ' hx p e s m args below meth c H locs ls' C hH hS hl'))
theorem jo_iadd {x0 y0 : Int32} (hd : decode μ.2.1 pc = .ok (.iadd, 1)) (k : JO w μ tv σ lv (.int (x0 + y0) :: rest) (pc + 1) x K) : JO w μ tv σ lv (.int y0 :: .int x0 :: rest) (pc) x K := by
  intro r σ' hx p e s m args below meth c H locs ls C hH hS hl
  exact lv_iadd C.1 C.2.1 hd (k r σ' hx p e s m args below meth c H locs ls C hH hS hl)
theorem jo_isub {x0 y0 : Int32} (hd : decode μ.2.1 pc = .ok (.isub, 1)) (k : JO w μ tv σ lv (.int (x0 - y0) :: rest) (pc + 1) x K) : JO w μ tv σ lv (.int y0 :: .int x0 :: rest) (pc) x K := by
  intro r σ' hx p e s m args below meth c H locs ls C hH hS hl
  exact lv_isub C.1 C.2.1 hd (k r σ' hx p e s m args below meth c H locs ls C hH hS hl)
theorem jo_imul {x0 y0 : Int32} (hd : decode μ.2.1 pc = .ok (.imul, 1)) (k : JO w μ tv σ lv (.int (x0 * y0) :: rest) (pc + 1) x K) : JO w μ tv σ lv (.int y0 :: .int x0 :: rest) (pc) x K := by
  intro r σ' hx p e s m args below meth c H locs ls C hH hS hl
  exact lv_imul C.1 C.2.1 hd (k r σ' hx p e s m args below meth c H locs ls C hH hS hl)
theorem jo_iand {x0 y0 : Int32} (hd : decode μ.2.1 pc = .ok (.iand, 1)) (k : JO w μ tv σ lv (.int (x0 &&& y0) :: rest) (pc + 1) x K) : JO w μ tv σ lv (.int y0 :: .int x0 :: rest) (pc) x K := by
  intro r σ' hx p e s m args below meth c H locs ls C hH hS hl
  exact lv_iand C.1 C.2.1 hd (k r σ' hx p e s m args below meth c H locs ls C hH hS hl)
theorem jo_ior {x0 y0 : Int32} (hd : decode μ.2.1 pc = .ok (.ior, 1)) (k : JO w μ tv σ lv (.int (x0 ||| y0) :: rest) (pc + 1) x K) : JO w μ tv σ lv (.int y0 :: .int x0 :: rest) (pc) x K := by
  intro r σ' hx p e s m args below meth c H locs ls C hH hS hl
  exact lv_ior C.1 C.2.1 hd (k r σ' hx p e s m args below meth c H locs ls C hH hS hl)
theorem jo_ishl {x0 y0 : Int32} (hd : decode μ.2.1 pc = .ok (.ishl, 1)) (k : JO w μ tv σ lv (.int (x0 <<< (y0 &&& 31)) :: rest) (pc + 1) x K) : JO w μ tv σ lv (.int y0 :: .int x0 :: rest) (pc) x K := by
  intro r σ' hx p e s m args below meth c H locs ls C hH hS hl
  exact lv_ishl C.1 C.2.1 hd (k r σ' hx p e s m args below meth c H locs ls C hH hS hl)
theorem jo_ishr {x0 y0 : Int32} (hd : decode μ.2.1 pc = .ok (.ishr, 1)) (k : JO w μ tv σ lv (.int (x0 >>> (y0 &&& 31)) :: rest) (pc + 1) x K) : JO w μ tv σ lv (.int y0 :: .int x0 :: rest) (pc) x K := by
  intro r σ' hx p e s m args below meth c H locs ls C hH hS hl
  exact lv_ishr C.1 C.2.1 hd (k r σ' hx p e s m args below meth c H locs ls C hH hS hl)
theorem jo_ladd {x0 y0 : Int64} (hd : decode μ.2.1 pc = .ok (.ladd, 1)) (k : JO w μ tv σ lv (.long (x0 + y0) :: rest) (pc + 1) x K) : JO w μ tv σ lv (.long y0 :: .long x0 :: rest) (pc) x K := by
  intro r σ' hx p e s m args below meth c H locs ls C hH hS hl
  exact lv_ladd C.1 C.2.1 hd (k r σ' hx p e s m args below meth c H locs ls C hH hS hl)
theorem jo_lsub {x0 y0 : Int64} (hd : decode μ.2.1 pc = .ok (.lsub, 1)) (k : JO w μ tv σ lv (.long (x0 - y0) :: rest) (pc + 1) x K) : JO w μ tv σ lv (.long y0 :: .long x0 :: rest) (pc) x K := by
  intro r σ' hx p e s m args below meth c H locs ls C hH hS hl
  exact lv_lsub C.1 C.2.1 hd (k r σ' hx p e s m args below meth c H locs ls C hH hS hl)
theorem jo_lmul {x0 y0 : Int64} (hd : decode μ.2.1 pc = .ok (.lmul, 1)) (k : JO w μ tv σ lv (.long (x0 * y0) :: rest) (pc + 1) x K) : JO w μ tv σ lv (.long y0 :: .long x0 :: rest) (pc) x K := by
  intro r σ' hx p e s m args below meth c H locs ls C hH hS hl
  exact lv_lmul C.1 C.2.1 hd (k r σ' hx p e s m args below meth c H locs ls C hH hS hl)
theorem jo_lxor {x0 y0 : Int64} (hd : decode μ.2.1 pc = .ok (.lxor, 1)) (k : JO w μ tv σ lv (.long (x0 ^^^ y0) :: rest) (pc + 1) x K) : JO w μ tv σ lv (.long y0 :: .long x0 :: rest) (pc) x K := by
  intro r σ' hx p e s m args below meth c H locs ls C hH hS hl
  exact lv_lxor C.1 C.2.1 hd (k r σ' hx p e s m args below meth c H locs ls C hH hS hl)
/-- a divisor that is not 0 -/
def nzI (y : Int32) (f : Option α) : Option α := if y = 0 then none else f
def nzL (y : Int64) (f : Option α) : Option α := if y = 0 then none else f
theorem jo_idiv {x0 y0 : Int32} (hd : decode μ.2.1 pc = .ok (.idiv, 1)) (k : JO w μ tv σ lv (.int (x0 / y0) :: rest) (pc + 1) x K) : JO w μ tv σ lv (.int y0 :: .int x0 :: rest) (pc) (nzI y0 x) K := by
  intro r σ' hx p e s m args below meth c H locs ls C hH hS hl
  by_cases h0 : y0 = 0
  · rw [show nzI y0 x = none from if_pos h0] at hx; cases hx
  · rw [show nzI y0 x = x from if_neg h0] at hx
    exact lv_idiv C.1 C.2.1 hd h0 (k r σ' hx p e s m args below meth c H locs ls C hH hS hl)
theorem jo_irem {x0 y0 : Int32} (hd : decode μ.2.1 pc = .ok (.irem, 1)) (k : JO w μ tv σ lv (.int (x0 - x0 / y0 * y0) :: rest) (pc + 1) x K) : JO w μ tv σ lv (.int y0 :: .int x0 :: rest) (pc) (nzI y0 x) K := by
  intro r σ' hx p e s m args below meth c H locs ls C hH hS hl
  by_cases h0 : y0 = 0
  · rw [show nzI y0 x = none from if_pos h0] at hx; cases hx
  · rw [show nzI y0 x = x from if_neg h0] at hx
    exact lv_irem C.1 C.2.1 hd h0 (k r σ' hx p e s m args below meth c H locs ls C hH hS hl)
theorem jo_ldiv {x0 y0 : Int64} (hd : decode μ.2.1 pc = .ok (.ldiv, 1)) (k : JO w μ tv σ lv (.long (x0 / y0) :: rest) (pc + 1) x K) : JO w μ tv σ lv (.long y0 :: .long x0 :: rest) (pc) (nzL y0 x) K := by
  intro r σ' hx p e s m args below meth c H locs ls C hH hS hl
  by_cases h0 : y0 = 0
  · rw [show nzL y0 x = none from if_pos h0] at hx; cases hx
  · rw [show nzL y0 x = x from if_neg h0] at hx
    exact lv_ldiv C.1 C.2.1 hd h0 (k r σ' hx p e s m args below meth c H locs ls C hH hS hl)
theorem jo_lrem {x0 y0 : Int64} (hd : decode μ.2.1 pc = .ok (.lrem, 1)) (k : JO w μ tv σ lv (.long (x0 - x0 / y0 * y0) :: rest) (pc + 1) x K) : JO w μ tv σ lv (.long y0 :: .long x0 :: rest) (pc) (nzL y0 x) K := by
  intro r σ' hx p e s m args below meth c H locs ls C hH hS hl
  by_cases h0 : y0 = 0
  · rw [show nzL y0 x = none from if_pos h0] at hx; cases hx
  · rw [show nzL y0 x = x from if_neg h0] at hx
    exact lv_lrem C.1 C.2.1 hd h0 (k r σ' hx p e s m args below meth c H locs ls C hH hS hl)
theorem jo_ineg {x0 : Int32} (hd : decode μ.2.1 pc = .ok (.ineg, 1)) (k : JO w μ tv σ lv (.int (-x0) :: rest) (pc + 1) x K) : JO w μ tv σ lv (.int x0 :: rest) (pc) x K := by
  intro r σ' hx p e s m args below meth c H locs ls C hH hS hl
  exact lv_ineg C.1 C.2.1 hd (k r σ' hx p e s m args below meth c H locs ls C hH hS hl)
theorem jo_lneg {x0 : Int64} (hd : decode μ.2.1 pc = .ok (.lneg, 1)) (k : JO w μ tv σ lv (.long (-x0) :: rest) (pc + 1) x K) : JO w μ tv σ lv (.long x0 :: rest) (pc) x K := by
  intro r σ' hx p e s m args below meth c H locs ls C hH hS hl
  exact lv_lneg C.1 C.2.1 hd (k r σ' hx p e s m args below meth c H locs ls C hH hS hl)
theorem jo_i2l {x0 : Int32} (hd : decode μ.2.1 pc = .ok (.i2l, 1)) (k : JO w μ tv σ lv (.long x0.toInt64 :: rest) (pc + 1) x K) : JO w μ tv σ lv (.int x0 :: rest) (pc) x K := by
  intro r σ' hx p e s m args below meth c H locs ls C hH hS hl
  exact lv_i2l C.1 C.2.1 hd rfl (k r σ' hx p e s m args below meth c H locs ls C hH hS hl)
theorem jo_l2i {x0 : Int64} (hd : decode μ.2.1 pc = .ok (.l2i, 1)) (k : JO w μ tv σ lv (.int x0.toInt32 :: rest) (pc + 1) x K) : JO w μ tv σ lv (.long x0 :: rest) (pc) x K := by
  intro r σ' hx p e s m args below meth c H locs ls C hH hS hl
  exact lv_l2i C.1 C.2.1 hd rfl (k r σ' hx p e s m args below meth c H locs ls C hH hS hl)
theorem jo_dup {va : Value} (hd : decode μ.2.1 pc = .ok (.dup, 1)) (hc : va.category = 1) (k : JO w μ tv σ lv (va :: va :: rest) (pc + 1) x K) : JO w μ tv σ lv (va :: rest) (pc) x K := by
  intro r σ' hx p e s m args below meth c H locs ls C hH hS hl
  exact lv_dup C.1 C.2.1 hd hc (k r σ' hx p e s m args below meth c H locs ls C hH hS hl)
theorem jo_pop {va : Value} (hd : decode μ.2.1 pc = .ok (.pop, 1)) (hc : va.category = 1) (k : JO w μ tv σ lv (rest) (pc + 1) x K) : JO w μ tv σ lv (va :: rest) (pc) x K := by
  intro r σ' hx p e s m args below meth c H locs ls C hH hS hl
  exact lv_pop C.1 C.2.1 hd hc (k r σ' hx p e s m args below meth c H locs ls C hH hS hl)
theorem jo_dup2 {va vb : Value} (hd : decode μ.2.1 pc = .ok (.dup2, 1)) (hc : va.category = 1) (hc2 : vb.category = 1) (k : JO w μ tv σ lv (va :: vb :: va :: vb :: rest) (pc + 1) x K) : JO w μ tv σ lv (va :: vb :: rest) (pc) x K := by
  intro r σ' hx p e s m args below meth c H locs ls C hH hS hl
  exact lv_dup2_11 C.1 C.2.1 hd hc hc2 (k r σ' hx p e s m args below meth c H locs ls C hH hS hl)
section BR
variable {tgt : Nat} {off : Int} {xt xf : Option α}
theorem jo_if_eq {x0 : Int32} (hd : decode μ.2.1 pc = .ok (.ifCond .eq off, 3)) (ht : (pc : Int) + off = (tgt : Int)) (kt : JO w μ tv σ lv (rest) (tgt) xt K) (kf : JO w μ tv σ lv (rest) (pc + 3) xf K) : JO w μ tv σ lv (.int x0 :: rest) (pc) (if x0 = 0 then xt else xf) K := by
  intro r σ' hx p e s m args below meth c H locs ls C hH hS hl
  refine lv_if_eq C.1 C.2.1 hd ht (fun h => ?_) (fun h => ?_)
  · rw [if_pos h] at hx; exact kt r σ' hx p e s m args below meth c H locs ls C hH hS hl
  · rw [if_neg h] at hx; exact kf r σ' hx p e s m args below meth c H locs ls C hH hS hl
theorem jo_icmp_eq {x0 y0 : Int32} (hd : decode μ.2.1 pc = .ok (.if_icmp .eq off, 3)) (ht : (pc : Int) + off = (tgt : Int)) (kt : JO w μ tv σ lv (rest) (tgt) xt K) (kf : JO w μ tv σ lv (rest) (pc + 3) xf K) : JO w μ tv σ lv (.int y0 :: .int x0 :: rest) (pc) (if x0 = y0 then xt else xf) K := by
  intro r σ' hx p e s m args below meth c H locs ls C hH hS hl
  refine lv_icmp_eq C.1 C.2.1 hd ht (fun h => ?_) (fun h => ?_)
  · rw [if_pos h] at hx; exact kt r σ' hx p e s m args below meth c H locs ls C hH hS hl
  · rw [if_neg h] at hx; exact kf r σ' hx p e s m args below meth c H locs ls C hH hS hl
theorem jo_if_ne {x0 : Int32} (hd : decode μ.2.1 pc = .ok (.ifCond .ne off, 3)) (ht : (pc : Int) + off = (tgt : Int)) (kt : JO w μ tv σ lv (rest) (tgt) xt K) (kf : JO w μ tv σ lv (rest) (pc + 3) xf K) : JO w μ tv σ lv (.int x0 :: rest) (pc) (if x0 = 0 then xf else xt) K := by
  intro r σ' hx p e s m args below meth c H locs ls C hH hS hl
  refine lv_if_ne C.1 C.2.1 hd ht (fun h => ?_) (fun h => ?_)
  · rw [if_neg h] at hx; exact kt r σ' hx p e s m args below meth c H locs ls C hH hS hl
  · rw [if_pos h] at hx; exact kf r σ' hx p e s m args below meth c H locs ls C hH hS hl
theorem jo_icmp_ne {x0 y0 : Int32} (hd : decode μ.2.1 pc = .ok (.if_icmp .ne off, 3)) (ht : (pc : Int) + off = (tgt : Int)) (kt : JO w μ tv σ lv (rest) (tgt) xt K) (kf : JO w μ tv σ lv (rest) (pc + 3) xf K) : JO w μ tv σ lv (.int y0 :: .int x0 :: rest) (pc) (if x0 = y0 then xf else xt) K := by
  intro r σ' hx p e s m args below meth c H locs ls C hH hS hl
  refine lv_icmp_ne C.1 C.2.1 hd ht (fun h => ?_) (fun h => ?_)
  · rw [if_neg h] at hx; exact kt r σ' hx p e s m args below meth c H locs ls C hH hS hl
  · rw [if_pos h] at hx; exact kf r σ' hx p e s m args below meth c H locs ls C hH hS hl
theorem jo_if_lt {x0 : Int32} (hd : decode μ.2.1 pc = .ok (.ifCond .lt off, 3)) (ht : (pc : Int) + off = (tgt : Int)) (kt : JO w μ tv σ lv (rest) (tgt) xt K) (kf : JO w μ tv σ lv (rest) (pc + 3) xf K) : JO w μ tv σ lv (.int x0 :: rest) (pc) (if x0 < 0 then xt else xf) K := by
  intro r σ' hx p e s m args below meth c H locs ls C hH hS hl
  refine lv_if_lt C.1 C.2.1 hd ht (fun h => ?_) (fun h => ?_)
  · rw [if_pos h] at hx; exact kt r σ' hx p e s m args below meth c H locs ls C hH hS hl
  · rw [if_neg h] at hx; exact kf r σ' hx p e s m args below meth c H locs ls C hH hS hl
theorem jo_icmp_lt {x0 y0 : Int32} (hd : decode μ.2.1 pc = .ok (.if_icmp .lt off, 3)) (ht : (pc : Int) + off = (tgt : Int)) (kt : JO w μ tv σ lv (rest) (tgt) xt K) (kf : JO w μ tv σ lv (rest) (pc + 3) xf K) : JO w μ tv σ lv (.int y0 :: .int x0 :: rest) (pc) (if x0 < y0 then xt else xf) K := by
  intro r σ' hx p e s m args below meth c H locs ls C hH hS hl
  refine lv_icmp_lt C.1 C.2.1 hd ht (fun h => ?_) (fun h => ?_)
  · rw [if_pos h] at hx; exact kt r σ' hx p e s m args below meth c H locs ls C hH hS hl
  · rw [if_neg h] at hx; exact kf r σ' hx p e s m args below meth c H locs ls C hH hS hl
theorem jo_if_ge {x0 : Int32} (hd : decode μ.2.1 pc = .ok (.ifCond .ge off, 3)) (ht : (pc : Int) + off = (tgt : Int)) (kt : JO w μ tv σ lv (rest) (tgt) xt K) (kf : JO w μ tv σ lv (rest) (pc + 3) xf K) : JO w μ tv σ lv (.int x0 :: rest) (pc) (if 0 ≤ x0 then xt else xf) K := by
  intro r σ' hx p e s m args below meth c H locs ls C hH hS hl
  refine lv_if_ge C.1 C.2.1 hd ht (fun h => ?_) (fun h => ?_)
  · rw [if_pos h] at hx; exact kt r σ' hx p e s m args below meth c H locs ls C hH hS hl
  · rw [if_neg h] at hx; exact kf r σ' hx p e s m args below meth c H locs ls C hH hS hl
theorem jo_icmp_ge {x0 y0 : Int32} (hd : decode μ.2.1 pc = .ok (.if_icmp .ge off, 3)) (ht : (pc : Int) + off = (tgt : Int)) (kt : JO w μ tv σ lv (rest) (tgt) xt K) (kf : JO w μ tv σ lv (rest) (pc + 3) xf K) : JO w μ tv σ lv (.int y0 :: .int x0 :: rest) (pc) (if y0 ≤ x0 then xt else xf) K := by
  intro r σ' hx p e s m args below meth c H locs ls C hH hS hl
  refine lv_icmp_ge C.1 C.2.1 hd ht (fun h => ?_) (fun h => ?_)
  · rw [if_pos h] at hx; exact kt r σ' hx p e s m args below meth c H locs ls C hH hS hl
  · rw [if_neg h] at hx; exact kf r σ' hx p e s m args below meth c H locs ls C hH hS hl
theorem jo_if_gt {x0 : Int32} (hd : decode μ.2.1 pc = .ok (.ifCond .gt off, 3)) (ht : (pc : Int) + off = (tgt : Int)) (kt : JO w μ tv σ lv (rest) (tgt) xt K) (kf : JO w μ tv σ lv (rest) (pc + 3) xf K) : JO w μ tv σ lv (.int x0 :: rest) (pc) (if 0 < x0 then xt else xf) K := by
  intro r σ' hx p e s m args below meth c H locs ls C hH hS hl
  refine lv_if_gt C.1 C.2.1 hd ht (fun h => ?_) (fun h => ?_)
  · rw [if_pos h] at hx; exact kt r σ' hx p e s m args below meth c H locs ls C hH hS hl
  · rw [if_neg h] at hx; exact kf r σ' hx p e s m args below meth c H locs ls C hH hS hl
theorem jo_icmp_gt {x0 y0 : Int32} (hd : decode μ.2.1 pc = .ok (.if_icmp .gt off, 3)) (ht : (pc : Int) + off = (tgt : Int)) (kt : JO w μ tv σ lv (rest) (tgt) xt K) (kf : JO w μ tv σ lv (rest) (pc + 3) xf K) : JO w μ tv σ lv (.int y0 :: .int x0 :: rest) (pc) (if y0 < x0 then xt else xf) K := by
  intro r σ' hx p e s m args below meth c H locs ls C hH hS hl
  refine lv_icmp_gt C.1 C.2.1 hd ht (fun h => ?_) (fun h => ?_)
  · rw [if_pos h] at hx; exact kt r σ' hx p e s m args below meth c H locs ls C hH hS hl
  · rw [if_neg h] at hx; exact kf r σ' hx p e s m args below meth c H locs ls C hH hS hl
theorem jo_if_le {x0 : Int32} (hd : decode μ.2.1 pc = .ok (.ifCond .le off, 3)) (ht : (pc : Int) + off = (tgt : Int)) (kt : JO w μ tv σ lv (rest) (tgt) xt K) (kf : JO w μ tv σ lv (rest) (pc + 3) xf K) : JO w μ tv σ lv (.int x0 :: rest) (pc) (if x0 ≤ 0 then xt else xf) K := by
  intro r σ' hx p e s m args below meth c H locs ls C hH hS hl
  refine lv_if_le C.1 C.2.1 hd ht (fun h => ?_) (fun h => ?_)
  · rw [if_pos h] at hx; exact kt r σ' hx p e s m args below meth c H locs ls C hH hS hl
  · rw [if_neg h] at hx; exact kf r σ' hx p e s m args below meth c H locs ls C hH hS hl
theorem jo_icmp_le {x0 y0 : Int32} (hd : decode μ.2.1 pc = .ok (.if_icmp .le off, 3)) (ht : (pc : Int) + off = (tgt : Int)) (kt : JO w μ tv σ lv (rest) (tgt) xt K) (kf : JO w μ tv σ lv (rest) (pc + 3) xf K) : JO w μ tv σ lv (.int y0 :: .int x0 :: rest) (pc) (if x0 ≤ y0 then xt else xf) K := by
  intro r σ' hx p e s m args below meth c H locs ls C hH hS hl
  refine lv_icmp_le C.1 C.2.1 hd ht (fun h => ?_) (fun h => ?_)
  · rw [if_pos h] at hx; exact kt r σ' hx p e s m args below meth c H locs ls C hH hS hl
  · rw [if_neg h] at hx; exact kf r σ' hx p e s m args below meth c H locs ls C hH hS hl
theorem lgc_eq (x0 y0 : Int64) : ((lg_cmp x0 y0) = 0) ↔ x0 = y0 := by
  unfold lg_cmp
  simp only [gt_iff_lt, Int64.lt_iff_toInt_lt, Int64.le_iff_toInt_le, ← Int64.toInt_inj]
  split
  · simp; omega
  · split
    · simp; omega
    · simp; omega
theorem jo_lcmp_eq {x0 y0 : Int64} (hd : decode μ.2.1 pc = .ok (.lcmp, 1)) (hd2 : decode μ.2.1 (pc + 1) = .ok (.ifCond .eq off, 3)) (ht : ((pc + 1 : Nat) : Int) + off = (tgt : Int)) (kt : JO w μ tv σ lv (rest) (tgt) xt K) (kf : JO w μ tv σ lv (rest) (pc + 4) xf K) : JO w μ tv σ lv (.long y0 :: .long x0 :: rest) (pc) (if x0 = y0 then xt else xf) K := by
  intro r σ' hx p e s m args below meth c H locs ls C hH hS hl
  refine W.lcmp C.1 C.2.1 hd ?_
  refine lv_if_eq C.1 C.2.1 hd2 ht (fun h => ?_) (fun h => ?_)
  · rw [if_pos ((lgc_eq x0 y0).mp h)] at hx; exact kt r σ' hx p e s m args below meth c H locs ls C hH hS hl
  · rw [if_neg (mt (lgc_eq x0 y0).mpr h)] at hx; exact kf r σ' hx p e s m args below meth c H locs ls C hH hS hl

theorem jo_lcmp_ne {x0 y0 : Int64} (hd : decode μ.2.1 pc = .ok (.lcmp, 1)) (hd2 : decode μ.2.1 (pc + 1) = .ok (.ifCond .ne off, 3)) (ht : ((pc + 1 : Nat) : Int) + off = (tgt : Int)) (kt : JO w μ tv σ lv (rest) (tgt) xt K) (kf : JO w μ tv σ lv (rest) (pc + 4) xf K) : JO w μ tv σ lv (.long y0 :: .long x0 :: rest) (pc) (if x0 = y0 then xf else xt) K := by
  intro r σ' hx p e s m args below meth c H locs ls C hH hS hl
  refine W.lcmp C.1 C.2.1 hd ?_
  refine lv_if_ne C.1 C.2.1 hd2 ht (fun h => ?_) (fun h => ?_)
  · rw [if_neg (mt (lgc_eq x0 y0).mpr h)] at hx; exact kt r σ' hx p e s m args below meth c H locs ls C hH hS hl
  · rw [if_pos ((lgc_eq x0 y0).mp h)] at hx; exact kf r σ' hx p e s m args below meth c H locs ls C hH hS hl
theorem lgc_lt (x0 y0 : Int64) : ((lg_cmp x0 y0) < 0) ↔ x0 < y0 := by
  unfold lg_cmp
  simp only [gt_iff_lt, Int64.lt_iff_toInt_lt, Int64.le_iff_toInt_le, ← Int64.toInt_inj]
  split
  · simp; omega
  · split
    · simp; omega
    · simp; omega
theorem jo_lcmp_lt {x0 y0 : Int64} (hd : decode μ.2.1 pc = .ok (.lcmp, 1)) (hd2 : decode μ.2.1 (pc + 1) = .ok (.ifCond .lt off, 3)) (ht : ((pc + 1 : Nat) : Int) + off = (tgt : Int)) (kt : JO w μ tv σ lv (rest) (tgt) xt K) (kf : JO w μ tv σ lv (rest) (pc + 4) xf K) : JO w μ tv σ lv (.long y0 :: .long x0 :: rest) (pc) (if x0 < y0 then xt else xf) K := by
  intro r σ' hx p e s m args below meth c H locs ls C hH hS hl
  refine W.lcmp C.1 C.2.1 hd ?_
  refine lv_if_lt C.1 C.2.1 hd2 ht (fun h => ?_) (fun h => ?_)
  · rw [if_pos ((lgc_lt x0 y0).mp h)] at hx; exact kt r σ' hx p e s m args below meth c H locs ls C hH hS hl
  · rw [if_neg (mt (lgc_lt x0 y0).mpr h)] at hx; exact kf r σ' hx p e s m args below meth c H locs ls C hH hS hl
theorem lgc_ge (x0 y0 : Int64) : (0 ≤ (lg_cmp x0 y0)) ↔ y0 ≤ x0 := by
  unfold lg_cmp
  simp only [gt_iff_lt, Int64.lt_iff_toInt_lt, Int64.le_iff_toInt_le, ← Int64.toInt_inj]
  split
  · simp; omega
  · split
    · simp; omega
    · simp; omega
theorem jo_lcmp_ge {x0 y0 : Int64} (hd : decode μ.2.1 pc = .ok (.lcmp, 1)) (hd2 : decode μ.2.1 (pc + 1) = .ok (.ifCond .ge off, 3)) (ht : ((pc + 1 : Nat) : Int) + off = (tgt : Int)) (kt : JO w μ tv σ lv (rest) (tgt) xt K) (kf : JO w μ tv σ lv (rest) (pc + 4) xf K) : JO w μ tv σ lv (.long y0 :: .long x0 :: rest) (pc) (if y0 ≤ x0 then xt else xf) K := by
  intro r σ' hx p e s m args below meth c H locs ls C hH hS hl
  refine W.lcmp C.1 C.2.1 hd ?_
  refine lv_if_ge C.1 C.2.1 hd2 ht (fun h => ?_) (fun h => ?_)
  · rw [if_pos ((lgc_ge x0 y0).mp h)] at hx; exact kt r σ' hx p e s m args below meth c H locs ls C hH hS hl
  · rw [if_neg (mt (lgc_ge x0 y0).mpr h)] at hx; exact kf r σ' hx p e s m args below meth c H locs ls C hH hS hl
theorem lgc_gt (x0 y0 : Int64) : (0 < (lg_cmp x0 y0)) ↔ y0 < x0 := by
  unfold lg_cmp
  simp only [gt_iff_lt, Int64.lt_iff_toInt_lt, Int64.le_iff_toInt_le, ← Int64.toInt_inj]
  split
  · simp; omega
  · split
    · simp; omega
    · simp; omega
theorem jo_lcmp_gt {x0 y0 : Int64} (hd : decode μ.2.1 pc = .ok (.lcmp, 1)) (hd2 : decode μ.2.1 (pc + 1) = .ok (.ifCond .gt off, 3)) (ht : ((pc + 1 : Nat) : Int) + off = (tgt : Int)) (kt : JO w μ tv σ lv (rest) (tgt) xt K) (kf : JO w μ tv σ lv (rest) (pc + 4) xf K) : JO w μ tv σ lv (.long y0 :: .long x0 :: rest) (pc) (if y0 < x0 then xt else xf) K := by
  intro r σ' hx p e s m args below meth c H locs ls C hH hS hl
  refine W.lcmp C.1 C.2.1 hd ?_
  refine lv_if_gt C.1 C.2.1 hd2 ht (fun h => ?_) (fun h => ?_)
  · rw [if_pos ((lgc_gt x0 y0).mp h)] at hx; exact kt r σ' hx p e s m args below meth c H locs ls C hH hS hl
  · rw [if_neg (mt (lgc_gt x0 y0).mpr h)] at hx; exact kf r σ' hx p e s m args below meth c H locs ls C hH hS hl
theorem lgc_le (x0 y0 : Int64) : ((lg_cmp x0 y0) ≤ 0) ↔ x0 ≤ y0 := by
  unfold lg_cmp
  simp only [gt_iff_lt, Int64.lt_iff_toInt_lt, Int64.le_iff_toInt_le, ← Int64.toInt_inj]
  split
  · simp; omega
  · split
    · simp; omega
    · simp; omega
theorem jo_lcmp_le {x0 y0 : Int64} (hd : decode μ.2.1 pc = .ok (.lcmp, 1)) (hd2 : decode μ.2.1 (pc + 1) = .ok (.ifCond .le off, 3)) (ht : ((pc + 1 : Nat) : Int) + off = (tgt : Int)) (kt : JO w μ tv σ lv (rest) (tgt) xt K) (kf : JO w μ tv σ lv (rest) (pc + 4) xf K) : JO w μ tv σ lv (.long y0 :: .long x0 :: rest) (pc) (if x0 ≤ y0 then xt else xf) K := by
  intro r σ' hx p e s m args below meth c H locs ls C hH hS hl
  refine W.lcmp C.1 C.2.1 hd ?_
  refine lv_if_le C.1 C.2.1 hd2 ht (fun h => ?_) (fun h => ?_)
  · rw [if_pos ((lgc_le x0 y0).mp h)] at hx; exact kt r σ' hx p e s m args below meth c H locs ls C hH hS hl
  · rw [if_neg (mt (lgc_le x0 y0).mpr h)] at hx; exact kf r σ' hx p e s m args below meth c H locs ls C hH hS hl
theorem jo_goto (hd : decode μ.2.1 pc = .ok (.goto off, 3)) (ht : (pc : Int) + off = (tgt : Int)) (k : JO w μ tv σ lv (rest) (tgt) x K) : JO w μ tv σ lv (rest) (pc) x K := by
  intro r σ' hx p e s m args below meth c H locs ls C hH hS hl
  exact lv_goto C.1 C.2.1 hd ht (k r σ' hx p e s m args below meth c H locs ls C hH hS hl)
end BR
theorem jo_tableOut {dflt lo hi : Int} {offs : Array Int} {len tgt : Nat} {x0 : Int32} (hd : decode μ.2.1 pc = .ok (.tableswitch dflt lo hi offs, len)) (h : x0.toInt < lo ∨ hi < x0.toInt) (ht : (pc : Int) + dflt = (tgt : Int)) (k : JO w μ tv σ lv (rest) (tgt) x K) : JO w μ tv σ lv (.int x0 :: rest) (pc) x K := by
  intro r σ' hx p e s m args below meth c H locs ls C hH hS hl
  exact lv_tableOut C.1 C.2.1 hd h ht (k r σ' hx p e s m args below meth c H locs ls C hH hS hl)
theorem jo_tableIn {dflt lo hi : Int} {offs : Array Int} {len tgt : Nat} {x0 : Int32} {off : Int} (hd : decode μ.2.1 pc = .ok (.tableswitch dflt lo hi offs, len)) (h1 : ¬ x0.toInt < lo) (h2 : ¬ hi < x0.toInt) (ho : offs[(x0.toInt - lo).toNat]? = some off) (ht : (pc : Int) + off = (tgt : Int)) (k : JO w μ tv σ lv (rest) (tgt) x K) : JO w μ tv σ lv (.int x0 :: rest) (pc) x K := by
  intro r σ' hx p e s m args below meth c H locs ls C hH hS hl
  exact lv_tableIn C.1 C.2.1 hd h1 h2 ho ht (k r σ' hx p e s m args below meth c H locs ls C hH hS hl)
theorem jo_lookup {dflt : Int} {ps : Array (Int × Int)} {len tgt : Nat} {x0 : Int32} {off : Int} (hd : decode μ.2.1 pc = .ok (.lookupswitch dflt ps, len)) (hp : (ps.toList.zip (ps.toList.drop 1)).all (fun (a, next) => a.1 < next.1) = true) (ho : Op.lookupswitch.offset ps.toList dflt x0.toInt = off) (ht : (pc : Int) + off = (tgt : Int)) (k : JO w μ tv σ lv (rest) (tgt) x K) : JO w μ tv σ lv (.int x0 :: rest) (pc) x K := by
  intro r σ' hx p e s m args below meth c H locs ls C hH hS hl
  exact lv_lookup C.1 C.2.1 hd hp ho ht (k r σ' hx p e s m args below meth c H locs ls C hH hS hl)
theorem jo_case {st : List Value} {x0 v : Int32} {xt xf : Option α} (kt : x0 = v → JO w μ tv σ lv st pc xt K) (kf : ¬ x0 = v → JO w μ tv σ lv st pc xf K) : JO w μ tv σ lv st pc (if x0 = v then xt else xf) K := by
  by_cases h : x0 = v
  · rw [if_pos h]; exact kt h
  · rw [if_neg h]; exact kf h
end JOS
