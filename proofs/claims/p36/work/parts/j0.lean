/-! p36: frames over a list of cells: what is told of the heap is a list L of cells in a free set F; rules -/
abbrev QF : Type := List Frame → Array Value → State → State → Prop
def rmJ (d mc ms : Nat) : Room := { frames := d, cells := mc, slots := ms, locals := 48 * d }
def PJ (w : Wd) (F : Nat → Prop) (args : List Value) (L : va_W) : Array Value → State → Prop := fun v U => v = args.toArray ∧ va_P (wD w) vwCl L U.heap ∧ va_D F L ∧ (∀ q, U.heap.size ≤ q → F q) ∧ va_K (wD w) vwCl (ctys w) U ∧ KS w U
def QJ (w : Wd) (F : Nat → Prop) (post : Option Value → va_W → Prop) : Array Value → State → Outcome → State → Prop := fun _ st o t => ∃ r L', o = .returned r ∧ post r L' ∧ va_P (wD w) vwCl L' t.heap ∧ va_D F L' ∧ va_F F st t
/-- a contract over cells -/
def MJ (w : Wd) (μ : MD) (F : Nat → Prop) (mc ms : Nat) (args : List Value) (L : va_W) (post : Option Value → va_W → Prop) : Prop := Met w.1 μ.1 (wsM μ) (rmJ μ.2.2.2.2 mc ms) (PJ w F args L) (QJ w F post) mc ms F
def LW (w : Wd) (μ : MD) (R : Room) (F : Nat → Prop) (Q : QF) (L : va_W) (k sl : Nat) (lv : List (Nat × Value)) (st : List Value) (pc : Nat) : Prop :=
  ∀ (p : Program) (e : Env) (s : State) (m : MethodId) (args : Array Value) (below : List Frame) (meth : Method) (c : Code) (H : Heap) (locs : List Loc) (ls : Array Slot),
    CX w μ p s m args meth c → meth.name = μ.1.name → (∀ q, s.heap.size ≤ q → F q) → va_P (wD w) vwCl L H → va_D F L → va_S F s.heap H locs → lv_has ls μ.2.2.1 lv →
    W p w.1 e R s m args below meth c H locs k sl (Q below args s) (F0 m pc ls st)
def QM (w : Wd) (F : Nat → Prop) (post : Option Value → va_W → Prop) (mc ms : Nat) : QF := fun below args s => MQ below (QJ w F post) args s mc ms F
theorem va_S.sup {F G : Nat → Prop} {H0 H : Heap} {locs : List Loc} (h : va_S F H0 H locs) (hFG : ∀ q, F q → G q) : va_S G H0 H locs := ⟨h.1, fun q h1 h2 => h.2.1 q h1 (fun z => h2 (hFG q z)), fun l hl => hFG _ (h.2.2 l hl)⟩
section LYS
variable {w : Wd} {μ : MD} {R : Room} {F : Nat → Prop} {Q : QF} {L : va_W} {k sl : Nat} {lv lv' : List (Nat × Value)} {rest st : List Value} {pc : Nat}
theorem mj_of {post : Option Value → va_W → Prop} {mc ms n : Nat} {args : List Value} (ok : MOK μ n) (hlv : lv_args 0 args = lv) (hlen : (lg_sl args).length ≤ μ.2.2.1) (h : LW w μ (rmJ μ.2.2.2.2 mc ms) F (QM w F post mc ms) L 0 0 lv [] 0) : MJ w μ F mc ms args L post := by
  refine Met_ofWF (cc := μ.2.1) (maxL := μ.2.2.1) (ret := μ.2.2.2.1) ok.2.2.1 rfl ?_
  intro p e s m as below meth c s₁ B hml hv
  obtain ⟨rfl, hP, hD, hA, hK, hZ⟩ := hv
  rw [lg_entry_eq]
  have hl := lv_entry args (n := μ.2.2.1) hlen
  rw [hlv] at hl
  have hts := atoms_spec (ws := wsM μ) B.pre
  exact h p e s m _ below meth c s.heap [] _ ⟨B.exec, B.bytes, hml, B.returns, findClass_of_methodNamed B.named, fun t ht => hts t (List.mem_cons_of_mem _ ht), B.notSynchronized, hK, hZ⟩ (name_of_methodNamed B.named B.method).1 hA hP hD va_S.rf hl
theorem ly_lv (ks : List Nat) (hl : lv_pick lv ks = lv') (kk : LW w μ R F Q L k sl lv' st pc) : LW w μ R F Q L k sl lv st pc :=
  fun p e s m args below meth c H locs ls C N hA hP hD hS h => kk p e s m args below meth c H locs ls C N hA hP hD hS (lv_sub h ks hl)
theorem ly_widen {k' sl' : Nat} (hk : k ≤ k') (hs : sl ≤ sl') (kk : LW w μ R F Q L k' sl' lv st pc) : LW w μ R F Q L k sl lv st pc :=
  fun p e s m args below meth c H locs ls C N hA hP hD hS h => W.widen hk hs (kk p e s m args below meth c H locs ls C N hA hP hD hS h)
theorem ly_call_D {P : Prop} (h : va_D F L → LW w μ R F Q L k sl lv st pc) : LW w μ R F Q L k sl lv st pc :=
  fun p e s m args below meth c H locs ls C N hA hP hD hS hl => h hD p e s m args below meth c H locs ls C N hA hP hD hS hl

theorem ly_iconst {n : Int} {v : Int32} (hd : decode μ.2.1 pc = .ok (.iconst n, 1)) (hv : Int32.ofInt n = v) (kk : LW w μ R F Q L k sl lv (.int v :: rest) (pc + 1)) : LW w μ R F Q L k sl lv (rest) (pc) := by
  intro p e s m args below meth c H locs ls C N hA hP hD hS hl
  exact lv_iconst C.1 C.2.1 hd hv (kk p e s m args below meth c H locs ls C N hA hP hD hS hl)
theorem ly_bipush {n : Int} {v : Int32} (hd : decode μ.2.1 pc = .ok (.bipush n, 2)) (hv : (Int8.ofInt n).toInt32 = v) (kk : LW w μ R F Q L k sl lv (.int v :: rest) (pc + 2)) : LW w μ R F Q L k sl lv (rest) (pc) := by
  intro p e s m args below meth c H locs ls C N hA hP hD hS hl
  exact lv_bipush C.1 C.2.1 hd hv (kk p e s m args below meth c H locs ls C N hA hP hD hS hl)
theorem ly_sipush {n : Int} {v : Int32} (hd : decode μ.2.1 pc = .ok (.sipush n, 3)) (hv : (Int16.ofInt n).toInt32 = v) (kk : LW w μ R F Q L k sl lv (.int v :: rest) (pc + 3)) : LW w μ R F Q L k sl lv (rest) (pc) := by
  intro p e s m args below meth c H locs ls C N hA hP hD hS hl
  exact lv_sipush C.1 C.2.1 hd hv (kk p e s m args below meth c H locs ls C N hA hP hD hS hl)
theorem ly_null (hd : decode μ.2.1 pc = .ok (.aconst_null, 1)) (kk : LW w μ R F Q L k sl lv (.null :: rest) (pc + 1)) : LW w μ R F Q L k sl lv (rest) (pc) := by
  intro p e s m args below meth c H locs ls C N hA hP hD hS hl
  exact lv_null C.1 C.2.1 hd (kk p e s m args below meth c H locs ls C N hA hP hD hS hl)
theorem ly_iload_n {n : Fin 4} {i : Nat} {v : Int32} (j : Nat) (hj : lv[j]? = some (i, .int v)) (hd : decode μ.2.1 pc = .ok (.iload_n n, 1)) (hi : (n : Nat) = i) (kk : LW w μ R F Q L k sl lv (.int v :: rest) (pc + 1)) : LW w μ R F Q L k sl lv (rest) (pc) := by
  intro p e s m args below meth c H locs ls C N hA hP hD hS hl
  exact lv_iload_n C.1 C.2.1 hd hi (lv_at hl j hj) (kk p e s m args below meth c H locs ls C N hA hP hD hS hl)
theorem ly_iload {i : Nat} {v : Int32} (j : Nat) (hj : lv[j]? = some (i, .int v)) (hd : decode μ.2.1 pc = .ok (.iload i, 2)) (kk : LW w μ R F Q L k sl lv (.int v :: rest) (pc + 2)) : LW w μ R F Q L k sl lv (rest) (pc) := by
  intro p e s m args below meth c H locs ls C N hA hP hD hS hl
  exact lv_iload C.1 C.2.1 hd (lv_at hl j hj) (kk p e s m args below meth c H locs ls C N hA hP hD hS hl)
theorem ly_aload_n {n : Fin 4} {i : Nat} {v : Nat} (j : Nat) (hj : lv[j]? = some (i, .ref v)) (hd : decode μ.2.1 pc = .ok (.aload_n n, 1)) (hi : (n : Nat) = i) (kk : LW w μ R F Q L k sl lv (.ref v :: rest) (pc + 1)) : LW w μ R F Q L k sl lv (rest) (pc) := by
  intro p e s m args below meth c H locs ls C N hA hP hD hS hl
  exact lv_aload_n C.1 C.2.1 hd hi (lv_at hl j hj) (kk p e s m args below meth c H locs ls C N hA hP hD hS hl)
theorem ly_aload {i : Nat} {v : Nat} (j : Nat) (hj : lv[j]? = some (i, .ref v)) (hd : decode μ.2.1 pc = .ok (.aload i, 2)) (kk : LW w μ R F Q L k sl lv (.ref v :: rest) (pc + 2)) : LW w μ R F Q L k sl lv (rest) (pc) := by
  intro p e s m args below meth c H locs ls C N hA hP hD hS hl
  exact lv_aload C.1 C.2.1 hd (lv_at hl j hj) (kk p e s m args below meth c H locs ls C N hA hP hD hS hl)
theorem ly_istore_n {n : Fin 4} {i : Nat} {v : Int32} (hd : decode μ.2.1 pc = .ok (.istore_n n, 1)) (hi : (n : Nat) = i) (hn : i < μ.2.2.1) (hq : (i, Value.int v) :: lv.filter (fun q => !(q.1 == i) && !(q.1 + 1 == i && q.2.category == 2)) = lv') (kk : LW w μ R F Q L k sl lv' (rest) (pc + 1)) : LW w μ R F Q L k sl lv (.int v :: rest) (pc) := by
  intro p e s m args below meth c H locs ls C N hA hP hD hS hl
  exact lv_istore_n C.1 C.2.1 hd hi hl hn hq (fun ls' hl' => (kk p e s m args below meth c H locs ls' C N hA hP hD hS hl'))
theorem ly_istore {i : Nat} {v : Int32} (hd : decode μ.2.1 pc = .ok (.istore i, 2)) (hn : i < μ.2.2.1) (hq : (i, Value.int v) :: lv.filter (fun q => !(q.1 == i) && !(q.1 + 1 == i && q.2.category == 2)) = lv') (kk : LW w μ R F Q L k sl lv' (rest) (pc + 2)) : LW w μ R F Q L k sl lv (.int v :: rest) (pc) := by
  intro p e s m args below meth c H locs ls C N hA hP hD hS hl
  exact lv_istore C.1 C.2.1 hd hl hn hq (fun ls' hl' => (kk p e s m args below meth c H locs ls' C N hA hP hD hS hl'))
theorem ly_astore_n {n : Fin 4} {i : Nat} {v : Nat} (hd : decode μ.2.1 pc = .ok (.astore_n n, 1)) (hi : (n : Nat) = i) (hn : i < μ.2.2.1) (hq : (i, Value.ref v) :: lv.filter (fun q => !(q.1 == i) && !(q.1 + 1 == i && q.2.category == 2)) = lv') (kk : LW w μ R F Q L k sl lv' (rest) (pc + 1)) : LW w μ R F Q L k sl lv (.ref v :: rest) (pc) := by
  intro p e s m args below meth c H locs ls C N hA hP hD hS hl
  exact lv_astore_n C.1 C.2.1 hd hi hl hn hq (fun ls' hl' => (kk p e s m args below meth c H locs ls' C N hA hP hD hS hl'))
theorem ly_astore {i : Nat} {v : Nat} (hd : decode μ.2.1 pc = .ok (.astore i, 2)) (hn : i < μ.2.2.1) (hq : (i, Value.ref v) :: lv.filter (fun q => !(q.1 == i) && !(q.1 + 1 == i && q.2.category == 2)) = lv') (kk : LW w μ R F Q L k sl lv' (rest) (pc + 2)) : LW w μ R F Q L k sl lv (.ref v :: rest) (pc) := by
  intro p e s m args below meth c H locs ls C N hA hP hD hS hl
  exact lv_astore C.1 C.2.1 hd hl hn hq (fun ls' hl' => (kk p e s m args below meth c H locs ls' C N hA hP hD hS hl'))
theorem ly_iinc {i : Nat} {n : Int} {x0 v : Int32} (j : Nat) (hj : lv[j]? = some (i, .int x0)) (hd : decode μ.2.1 pc = .ok (.iinc i n, 3)) (hv : x0 + Int32.ofInt n = v) (hn : i < μ.2.2.1) (hq : (i, Value.int v) :: lv.filter (fun q => !(q.1 == i) && !(q.1 + 1 == i && q.2.category == 2)) = lv') (kk : LW w μ R F Q L k sl lv' (rest) (pc + 3)) : LW w μ R F Q L k sl lv (rest) (pc) := by
  intro p e s m args below meth c H locs ls C N hA hP hD hS hl
  exact lv_iinc C.1 C.2.1 hd hl hj hv hn hq (fun ls' hl' => (kk p e s m args below meth c H locs ls' C N hA hP hD hS hl'))
theorem ly_iadd {x0 y0 : Int32} (hd : decode μ.2.1 pc = .ok (.iadd, 1)) (kk : LW w μ R F Q L k sl lv (.int (x0 + y0) :: rest) (pc + 1)) : LW w μ R F Q L k sl lv (.int y0 :: .int x0 :: rest) (pc) := by
  intro p e s m args below meth c H locs ls C N hA hP hD hS hl
  exact lv_iadd C.1 C.2.1 hd (kk p e s m args below meth c H locs ls C N hA hP hD hS hl)
theorem ly_isub {x0 y0 : Int32} (hd : decode μ.2.1 pc = .ok (.isub, 1)) (kk : LW w μ R F Q L k sl lv (.int (x0 - y0) :: rest) (pc + 1)) : LW w μ R F Q L k sl lv (.int y0 :: .int x0 :: rest) (pc) := by
  intro p e s m args below meth c H locs ls C N hA hP hD hS hl
  exact lv_isub C.1 C.2.1 hd (kk p e s m args below meth c H locs ls C N hA hP hD hS hl)
theorem ly_imul {x0 y0 : Int32} (hd : decode μ.2.1 pc = .ok (.imul, 1)) (kk : LW w μ R F Q L k sl lv (.int (x0 * y0) :: rest) (pc + 1)) : LW w μ R F Q L k sl lv (.int y0 :: .int x0 :: rest) (pc) := by
  intro p e s m args below meth c H locs ls C N hA hP hD hS hl
  exact lv_imul C.1 C.2.1 hd (kk p e s m args below meth c H locs ls C N hA hP hD hS hl)
theorem ly_iand {x0 y0 : Int32} (hd : decode μ.2.1 pc = .ok (.iand, 1)) (kk : LW w μ R F Q L k sl lv (.int (x0 &&& y0) :: rest) (pc + 1)) : LW w μ R F Q L k sl lv (.int y0 :: .int x0 :: rest) (pc) := by
  intro p e s m args below meth c H locs ls C N hA hP hD hS hl
  exact lv_iand C.1 C.2.1 hd (kk p e s m args below meth c H locs ls C N hA hP hD hS hl)
theorem ly_ior {x0 y0 : Int32} (hd : decode μ.2.1 pc = .ok (.ior, 1)) (kk : LW w μ R F Q L k sl lv (.int (x0 ||| y0) :: rest) (pc + 1)) : LW w μ R F Q L k sl lv (.int y0 :: .int x0 :: rest) (pc) := by
  intro p e s m args below meth c H locs ls C N hA hP hD hS hl
  exact lv_ior C.1 C.2.1 hd (kk p e s m args below meth c H locs ls C N hA hP hD hS hl)
theorem ly_ishl {x0 y0 : Int32} (hd : decode μ.2.1 pc = .ok (.ishl, 1)) (kk : LW w μ R F Q L k sl lv (.int (x0 <<< (y0 &&& 31)) :: rest) (pc + 1)) : LW w μ R F Q L k sl lv (.int y0 :: .int x0 :: rest) (pc) := by
  intro p e s m args below meth c H locs ls C N hA hP hD hS hl
  exact lv_ishl C.1 C.2.1 hd (kk p e s m args below meth c H locs ls C N hA hP hD hS hl)
theorem ly_ishr {x0 y0 : Int32} (hd : decode μ.2.1 pc = .ok (.ishr, 1)) (kk : LW w μ R F Q L k sl lv (.int (x0 >>> (y0 &&& 31)) :: rest) (pc + 1)) : LW w μ R F Q L k sl lv (.int y0 :: .int x0 :: rest) (pc) := by
  intro p e s m args below meth c H locs ls C N hA hP hD hS hl
  exact lv_ishr C.1 C.2.1 hd (kk p e s m args below meth c H locs ls C N hA hP hD hS hl)
theorem ly_idiv {x0 y0 : Int32} (hd : decode μ.2.1 pc = .ok (.idiv, 1)) (h0 : ¬ y0 = 0) (kk : LW w μ R F Q L k sl lv (.int (x0 / y0) :: rest) (pc + 1)) : LW w μ R F Q L k sl lv (.int y0 :: .int x0 :: rest) (pc) := by
  intro p e s m args below meth c H locs ls C N hA hP hD hS hl
  exact lv_idiv C.1 C.2.1 hd h0 (kk p e s m args below meth c H locs ls C N hA hP hD hS hl)
theorem ly_irem {x0 y0 : Int32} (hd : decode μ.2.1 pc = .ok (.irem, 1)) (h0 : ¬ y0 = 0) (kk : LW w μ R F Q L k sl lv (.int (x0 - x0 / y0 * y0) :: rest) (pc + 1)) : LW w μ R F Q L k sl lv (.int y0 :: .int x0 :: rest) (pc) := by
  intro p e s m args below meth c H locs ls C N hA hP hD hS hl
  exact lv_irem C.1 C.2.1 hd h0 (kk p e s m args below meth c H locs ls C N hA hP hD hS hl)
theorem ly_i2c {x0 v : Int32} (hd : decode μ.2.1 pc = .ok (.i2c, 1)) (hv : (x0.toUInt32 % 65536).toInt32 = v) (kk : LW w μ R F Q L k sl lv (.int v :: rest) (pc + 1)) : LW w μ R F Q L k sl lv (.int x0 :: rest) (pc) := by
  intro p e s m args below meth c H locs ls C N hA hP hD hS hl
  exact lv_i2c C.1 C.2.1 hd hv (kk p e s m args below meth c H locs ls C N hA hP hD hS hl)
theorem ly_i2b {x0 v : Int32} (hd : decode μ.2.1 pc = .ok (.i2b, 1)) (hv : x0.toInt8.toInt32 = v) (kk : LW w μ R F Q L k sl lv (.int v :: rest) (pc + 1)) : LW w μ R F Q L k sl lv (.int x0 :: rest) (pc) := by
  intro p e s m args below meth c H locs ls C N hA hP hD hS hl
  exact lv_i2b C.1 C.2.1 hd hv (kk p e s m args below meth c H locs ls C N hA hP hD hS hl)
theorem ly_dup {va : Value} (hd : decode μ.2.1 pc = .ok (.dup, 1)) (hc : va.category = 1) (kk : LW w μ R F Q L k sl lv (va :: va :: rest) (pc + 1)) : LW w μ R F Q L k sl lv (va :: rest) (pc) := by
  intro p e s m args below meth c H locs ls C N hA hP hD hS hl
  exact lv_dup C.1 C.2.1 hd hc (kk p e s m args below meth c H locs ls C N hA hP hD hS hl)
theorem ly_dup2 {va vb : Value} (hd : decode μ.2.1 pc = .ok (.dup2, 1)) (hc : va.category = 1) (hc2 : vb.category = 1) (kk : LW w μ R F Q L k sl lv (va :: vb :: va :: vb :: rest) (pc + 1)) : LW w μ R F Q L k sl lv (va :: vb :: rest) (pc) := by
  intro p e s m args below meth c H locs ls C N hA hP hD hS hl
  exact lv_dup2_11 C.1 C.2.1 hd hc hc2 (kk p e s m args below meth c H locs ls C N hA hP hD hS hl)
theorem ly_dup_x1 {va vb : Value} (hd : decode μ.2.1 pc = .ok (.dup_x1, 1)) (hc : va.category = 1) (hc2 : vb.category = 1) (kk : LW w μ R F Q L k sl lv (va :: vb :: va :: rest) (pc + 1)) : LW w μ R F Q L k sl lv (va :: vb :: rest) (pc) := by
  intro p e s m args below meth c H locs ls C N hA hP hD hS hl
  exact lv_dup_x1 C.1 C.2.1 hd hc hc2 (kk p e s m args below meth c H locs ls C N hA hP hD hS hl)
theorem ly_pop {va : Value} (hd : decode μ.2.1 pc = .ok (.pop, 1)) (hc : va.category = 1) (kk : LW w μ R F Q L k sl lv (rest) (pc + 1)) : LW w μ R F Q L k sl lv (va :: rest) (pc) := by
  intro p e s m args below meth c H locs ls C N hA hP hD hS hl
  exact lv_pop C.1 C.2.1 hd hc (kk p e s m args below meth c H locs ls C N hA hP hD hS hl)
theorem ly_if_eq {x0 : Int32} {tgt : Nat} {off : Int} (hd : decode μ.2.1 pc = .ok (.ifCond .eq off, 3)) (ht : (pc : Int) + off = (tgt : Int)) (kt : (x0 = 0) → LW w μ R F Q L k sl lv (rest) (tgt)) (kf : ¬ (x0 = 0) → LW w μ R F Q L k sl lv (rest) (pc + 3)) : LW w μ R F Q L k sl lv (.int x0 :: rest) (pc) := by
  intro p e s m args below meth c H locs ls C N hA hP hD hS hl
  exact lv_if_eq C.1 C.2.1 hd ht (fun h => kt h p e s m args below meth c H locs ls C N hA hP hD hS hl) (fun h => kf h p e s m args below meth c H locs ls C N hA hP hD hS hl)
theorem ly_icmp_eq {x0 y0 : Int32} {tgt : Nat} {off : Int} (hd : decode μ.2.1 pc = .ok (.if_icmp .eq off, 3)) (ht : (pc : Int) + off = (tgt : Int)) (kt : (x0 = y0) → LW w μ R F Q L k sl lv (rest) (tgt)) (kf : ¬ (x0 = y0) → LW w μ R F Q L k sl lv (rest) (pc + 3)) : LW w μ R F Q L k sl lv (.int y0 :: .int x0 :: rest) (pc) := by
  intro p e s m args below meth c H locs ls C N hA hP hD hS hl
  exact lv_icmp_eq C.1 C.2.1 hd ht (fun h => kt h p e s m args below meth c H locs ls C N hA hP hD hS hl) (fun h => kf h p e s m args below meth c H locs ls C N hA hP hD hS hl)
theorem ly_if_ne {x0 : Int32} {tgt : Nat} {off : Int} (hd : decode μ.2.1 pc = .ok (.ifCond .ne off, 3)) (ht : (pc : Int) + off = (tgt : Int)) (kt : (¬ x0 = 0) → LW w μ R F Q L k sl lv (rest) (tgt)) (kf : x0 = 0 → LW w μ R F Q L k sl lv (rest) (pc + 3)) : LW w μ R F Q L k sl lv (.int x0 :: rest) (pc) := by
  intro p e s m args below meth c H locs ls C N hA hP hD hS hl
  exact lv_if_ne C.1 C.2.1 hd ht (fun h => kt h p e s m args below meth c H locs ls C N hA hP hD hS hl) (fun h => kf h p e s m args below meth c H locs ls C N hA hP hD hS hl)
theorem ly_icmp_ne {x0 y0 : Int32} {tgt : Nat} {off : Int} (hd : decode μ.2.1 pc = .ok (.if_icmp .ne off, 3)) (ht : (pc : Int) + off = (tgt : Int)) (kt : (¬ x0 = y0) → LW w μ R F Q L k sl lv (rest) (tgt)) (kf : x0 = y0 → LW w μ R F Q L k sl lv (rest) (pc + 3)) : LW w μ R F Q L k sl lv (.int y0 :: .int x0 :: rest) (pc) := by
  intro p e s m args below meth c H locs ls C N hA hP hD hS hl
  exact lv_icmp_ne C.1 C.2.1 hd ht (fun h => kt h p e s m args below meth c H locs ls C N hA hP hD hS hl) (fun h => kf h p e s m args below meth c H locs ls C N hA hP hD hS hl)
theorem ly_if_lt {x0 : Int32} {tgt : Nat} {off : Int} (hd : decode μ.2.1 pc = .ok (.ifCond .lt off, 3)) (ht : (pc : Int) + off = (tgt : Int)) (kt : (x0 < 0) → LW w μ R F Q L k sl lv (rest) (tgt)) (kf : ¬ (x0 < 0) → LW w μ R F Q L k sl lv (rest) (pc + 3)) : LW w μ R F Q L k sl lv (.int x0 :: rest) (pc) := by
  intro p e s m args below meth c H locs ls C N hA hP hD hS hl
  exact lv_if_lt C.1 C.2.1 hd ht (fun h => kt h p e s m args below meth c H locs ls C N hA hP hD hS hl) (fun h => kf h p e s m args below meth c H locs ls C N hA hP hD hS hl)
theorem ly_icmp_lt {x0 y0 : Int32} {tgt : Nat} {off : Int} (hd : decode μ.2.1 pc = .ok (.if_icmp .lt off, 3)) (ht : (pc : Int) + off = (tgt : Int)) (kt : (x0 < y0) → LW w μ R F Q L k sl lv (rest) (tgt)) (kf : ¬ (x0 < y0) → LW w μ R F Q L k sl lv (rest) (pc + 3)) : LW w μ R F Q L k sl lv (.int y0 :: .int x0 :: rest) (pc) := by
  intro p e s m args below meth c H locs ls C N hA hP hD hS hl
  exact lv_icmp_lt C.1 C.2.1 hd ht (fun h => kt h p e s m args below meth c H locs ls C N hA hP hD hS hl) (fun h => kf h p e s m args below meth c H locs ls C N hA hP hD hS hl)
theorem ly_if_ge {x0 : Int32} {tgt : Nat} {off : Int} (hd : decode μ.2.1 pc = .ok (.ifCond .ge off, 3)) (ht : (pc : Int) + off = (tgt : Int)) (kt : (0 ≤ x0) → LW w μ R F Q L k sl lv (rest) (tgt)) (kf : ¬ (0 ≤ x0) → LW w μ R F Q L k sl lv (rest) (pc + 3)) : LW w μ R F Q L k sl lv (.int x0 :: rest) (pc) := by
  intro p e s m args below meth c H locs ls C N hA hP hD hS hl
  exact lv_if_ge C.1 C.2.1 hd ht (fun h => kt h p e s m args below meth c H locs ls C N hA hP hD hS hl) (fun h => kf h p e s m args below meth c H locs ls C N hA hP hD hS hl)
theorem ly_icmp_ge {x0 y0 : Int32} {tgt : Nat} {off : Int} (hd : decode μ.2.1 pc = .ok (.if_icmp .ge off, 3)) (ht : (pc : Int) + off = (tgt : Int)) (kt : (y0 ≤ x0) → LW w μ R F Q L k sl lv (rest) (tgt)) (kf : ¬ (y0 ≤ x0) → LW w μ R F Q L k sl lv (rest) (pc + 3)) : LW w μ R F Q L k sl lv (.int y0 :: .int x0 :: rest) (pc) := by
  intro p e s m args below meth c H locs ls C N hA hP hD hS hl
  exact lv_icmp_ge C.1 C.2.1 hd ht (fun h => kt h p e s m args below meth c H locs ls C N hA hP hD hS hl) (fun h => kf h p e s m args below meth c H locs ls C N hA hP hD hS hl)
theorem ly_if_gt {x0 : Int32} {tgt : Nat} {off : Int} (hd : decode μ.2.1 pc = .ok (.ifCond .gt off, 3)) (ht : (pc : Int) + off = (tgt : Int)) (kt : (0 < x0) → LW w μ R F Q L k sl lv (rest) (tgt)) (kf : ¬ (0 < x0) → LW w μ R F Q L k sl lv (rest) (pc + 3)) : LW w μ R F Q L k sl lv (.int x0 :: rest) (pc) := by
  intro p e s m args below meth c H locs ls C N hA hP hD hS hl
  exact lv_if_gt C.1 C.2.1 hd ht (fun h => kt h p e s m args below meth c H locs ls C N hA hP hD hS hl) (fun h => kf h p e s m args below meth c H locs ls C N hA hP hD hS hl)
theorem ly_icmp_gt {x0 y0 : Int32} {tgt : Nat} {off : Int} (hd : decode μ.2.1 pc = .ok (.if_icmp .gt off, 3)) (ht : (pc : Int) + off = (tgt : Int)) (kt : (y0 < x0) → LW w μ R F Q L k sl lv (rest) (tgt)) (kf : ¬ (y0 < x0) → LW w μ R F Q L k sl lv (rest) (pc + 3)) : LW w μ R F Q L k sl lv (.int y0 :: .int x0 :: rest) (pc) := by
  intro p e s m args below meth c H locs ls C N hA hP hD hS hl
  exact lv_icmp_gt C.1 C.2.1 hd ht (fun h => kt h p e s m args below meth c H locs ls C N hA hP hD hS hl) (fun h => kf h p e s m args below meth c H locs ls C N hA hP hD hS hl)
theorem ly_if_le {x0 : Int32} {tgt : Nat} {off : Int} (hd : decode μ.2.1 pc = .ok (.ifCond .le off, 3)) (ht : (pc : Int) + off = (tgt : Int)) (kt : (x0 ≤ 0) → LW w μ R F Q L k sl lv (rest) (tgt)) (kf : ¬ (x0 ≤ 0) → LW w μ R F Q L k sl lv (rest) (pc + 3)) : LW w μ R F Q L k sl lv (.int x0 :: rest) (pc) := by
  intro p e s m args below meth c H locs ls C N hA hP hD hS hl
  exact lv_if_le C.1 C.2.1 hd ht (fun h => kt h p e s m args below meth c H locs ls C N hA hP hD hS hl) (fun h => kf h p e s m args below meth c H locs ls C N hA hP hD hS hl)
theorem ly_icmp_le {x0 y0 : Int32} {tgt : Nat} {off : Int} (hd : decode μ.2.1 pc = .ok (.if_icmp .le off, 3)) (ht : (pc : Int) + off = (tgt : Int)) (kt : (x0 ≤ y0) → LW w μ R F Q L k sl lv (rest) (tgt)) (kf : ¬ (x0 ≤ y0) → LW w μ R F Q L k sl lv (rest) (pc + 3)) : LW w μ R F Q L k sl lv (.int y0 :: .int x0 :: rest) (pc) := by
  intro p e s m args below meth c H locs ls C N hA hP hD hS hl
  exact lv_icmp_le C.1 C.2.1 hd ht (fun h => kt h p e s m args below meth c H locs ls C N hA hP hD hS hl) (fun h => kf h p e s m args below meth c H locs ls C N hA hP hD hS hl)
theorem ly_goto {tgt : Nat} {off : Int} (hd : decode μ.2.1 pc = .ok (.goto off, 3)) (ht : (pc : Int) + off = (tgt : Int)) (kk : LW w μ R F Q L k sl lv (rest) (tgt)) : LW w μ R F Q L k sl lv (rest) (pc) := by
  intro p e s m args below meth c H locs ls C N hA hP hD hS hl
  exact lv_goto C.1 C.2.1 hd ht (kk p e s m args below meth c H locs ls C N hA hP hD hS hl)
/-! fields -/
theorem ly_get {ci i j idx a N : Nat} {Cn : String} {T : u_T} {fs : List Value} {v : Value} (hcl : vwCl[ci]? = some (Cn, T, N)) (hws : ∀ z ∈ u_ws Cn T N, z ∈ goodTbl) (he : L[i]? = some (a, .inr (ci, fs))) (hj : j < N) (hlk : Cond.fieldLink μ.1.cls idx (T j).1 (T j).2.1 (T j).2.2.1 ∈ goodTbl) (hv : fs[j]? = some v) (hd : decode μ.2.1 pc = .ok (.getfield idx, 3)) (kk : LW w μ R F Q L k sl lv (v :: rest) (pc + 3)) : LW w μ R F Q L k sl lv (.ref a :: rest) pc := by
  intro p e s m args below meth c H locs ls C N' hA hP hD hS hl
  exact va_get C.1 C.2.1 C.2.2.2.2.2.1 hws C.2.2.2.2.1 C.2.2.2.2.2.2.2.1 hP i he hcl j hj (C.2.2.2.2.2.1 _ hlk) (fun _ h => h) hv hd (kk p e s m args below meth c H locs ls C N' hA hP hD hS hl)
theorem ly_put {ci i j idx a N : Nat} {Cn : String} {T : u_T} {fs : List Value} {v : Value} {ty : FieldType} {ty0 : Nat → FieldType} (hcl : vwCl[ci]? = some (Cn, T, N)) (hws : ∀ z ∈ u_ws Cn T N, z ∈ goodTbl) (hty : ∀ k, k < N → parseFieldDescriptor (T k).2.2.1 = some (ty0 k)) (hnm : ∀ a, a < N → ∀ b, b < N → a ≠ b → (T a).2.1 ≠ (T b).2.1) (he : L[i]? = some (a, .inr (ci, fs))) (hj : j < N) (hlk : Cond.fieldLink μ.1.cls idx (T j).1 (T j).2.1 (T j).2.2.1 ∈ goodTbl) (hfin : (T j).2.2.2 = false) (hp : parseFieldDescriptor (T j).2.2.1 = some ty) (hn : narrow ty v = v) (hf : fits ty v = true) (hlen : j < fs.length) (hd : decode μ.2.1 pc = .ok (.putfield idx, 3)) (kk : LW w μ R F Q (L.set i (a, .inr (ci, fs.set j v))) k sl lv rest (pc + 3)) : LW w μ R F Q L k sl lv (v :: .ref a :: rest) pc := by
  intro p e s m args below meth c H locs ls C N' hA hP hD hS hl
  exact va_put C.1 C.2.1 C.2.2.2.2.2.1 hws ty0 hty hnm C.2.2.2.2.1 C.2.2.2.2.2.2.2.1 hP hD hS i he hcl j hj (C.2.2.2.2.2.1 _ hlk) (fun _ h => h) hfin hp hn hf hlen hd (fun H1 locs1 hP1 hD1 hS1 => kk p e s m args below meth c H1 locs1 ls C N' hA hP1 hD1 hS1 hl)
theorem ly_putF {ci i j idx a N : Nat} {Cn : String} {T : u_T} {fs : List Value} {v : Value} {ty : FieldType} {ty0 : Nat → FieldType} (hcl : vwCl[ci]? = some (Cn, T, N)) (hws : ∀ z ∈ u_ws Cn T N, z ∈ goodTbl) (hty : ∀ k, k < N → parseFieldDescriptor (T k).2.2.1 = some (ty0 k)) (hnm : ∀ a, a < N → ∀ b, b < N → a ≠ b → (T a).2.1 ≠ (T b).2.1) (he : L[i]? = some (a, .inr (ci, fs))) (hj : j < N) (hlk : Cond.fieldLink μ.1.cls idx (T j).1 (T j).2.1 (T j).2.2.1 ∈ goodTbl) (hfin : (T j).2.2.2 = true) (hin : μ.1.name = "<init>") (hdecl : (T j).1 = μ.1.cls) (hp : parseFieldDescriptor (T j).2.2.1 = some ty) (hn : narrow ty v = v) (hf : fits ty v = true) (hlen : j < fs.length) (hd : decode μ.2.1 pc = .ok (.putfield idx, 3)) (kk : LW w μ R F Q (L.set i (a, .inr (ci, fs.set j v))) k sl lv rest (pc + 3)) : LW w μ R F Q L k sl lv (v :: .ref a :: rest) pc := by
  intro p e s m args below meth c H locs ls C N' hA hP hD hS hl
  exact va_putF C.1 C.2.1 C.2.2.2.2.2.1 hws ty0 hty hnm C.2.2.2.2.1 C.2.2.2.2.2.2.2.1 hP hD hS i he hcl j hj (C.2.2.2.2.2.1 _ hlk) (fun _ h => h) hfin (N'.trans hin) hdecl hp hn hf hlen hd (fun H1 locs1 hP1 hD1 hS1 => kk p e s m args below meth c H1 locs1 ls C N' hA hP1 hD1 hS1 hl)
theorem ly_compact {idx : Nat} (hF : ∀ q, F q → own w q) (hlk : Cond.fieldLink μ.1.cls idx "java/lang/String" "COMPACT_STRINGS" "Z" ∈ goodTbl) (hd : decode μ.2.1 pc = .ok (.getstatic idx, 3)) (kk : LW w μ R F Q L k sl lv (.int 1 :: rest) (pc + 3)) : LW w μ R F Q L k sl lv rest pc := by
  intro p e s m args below meth c H locs ls C N hA hP hD hS hl
  exact va_gets C.1 C.2.1 C.2.2.2.2.2.2.2.2.2.2.2.2.2.1 (hS.sup hF) C.2.2.2.2.1 (C.2.2.2.2.2.1 _ hlk) (fun _ h => h) hd (kk p e s m args below meth c H locs ls C N hA hP hD hS hl)
theorem ly_sioobe {idx : Nat} (hF : ∀ q, F q → own w q) (hlk : Cond.fieldLink μ.1.cls idx "jdk/internal/util/Preconditions" "SIOOBE_FORMATTER" "Ljava/util/function/BiFunction;" ∈ goodTbl) (hd : decode μ.2.1 pc = .ok (.getstatic idx, 3)) (kn : LW w μ R F Q L k sl lv (.null :: rest) (pc + 3)) (kr : ∀ t : Nat, LW w μ R F Q L k sl lv (.ref t :: rest) (pc + 3)) : LW w μ R F Q L k sl lv rest pc := by
  intro p e s m args below meth c H locs ls C N hA hP hD hS hl
  rcases C.2.2.2.2.2.2.2.2.2.2.2.2.2.2.1 with h | ⟨t, h⟩
  · exact va_gets C.1 C.2.1 h (hS.sup hF) C.2.2.2.2.1 (C.2.2.2.2.2.1 _ hlk) (fun _ h => h) hd (kn p e s m args below meth c H locs ls C N hA hP hD hS hl)
  · exact va_gets C.1 C.2.1 h (hS.sup hF) C.2.2.2.2.1 (C.2.2.2.2.2.1 _ hlk) (fun _ h => h) hd (kr t p e s m args below meth c H locs ls C N hA hP hD hS hl)
/-! arrays -/
theorem ct_get {j cls0 : Nat} {ty : FieldType} (h : (ctys w)[j]? = some (wcs w cls0, ty)) : (ctys w)[j]? = some (wcs w cls0, ty) := h
theorem ly_alenB {i a n : Nat} {f : Nat → Int32} {v : Int32} (he : L[i]? = some (a, .inl (wcs w 17, n, .inl f))) (hv : Int32.ofNat n = v) (hd : decode μ.2.1 pc = .ok (.arraylength, 1)) (kk : LW w μ R F Q L k sl lv (.int v :: rest) (pc + 1)) : LW w μ R F Q L k sl lv (.ref a :: rest) pc := by
  intro p e s m args below meth c H locs ls C N hA hP hD hS hl
  exact va_alen C.1 C.2.1 C.2.2.2.2.2.2.2.1 hP i 5 he rfl hv hd (kk p e s m args below meth c H locs ls C N hA hP hD hS hl)
theorem ly_bald {i a n : Nat} {f : Nat → Int32} {x : Int32} (he : L[i]? = some (a, .inl (wcs w 17, n, .inl f))) (hin : vp_in x n) (hd : decode μ.2.1 pc = .ok (.baload, 1)) (kk : LW w μ R F Q L k sl lv (.int (f x.toNatClampNeg) :: rest) (pc + 1)) : LW w μ R F Q L k sl lv (.int x :: .ref a :: rest) pc := by
  intro p e s m args below meth c H locs ls C N hA hP hD hS hl
  exact va_bald C.1 C.2.1 C.2.2.2.2.2.2.2.1 hP i 5 he rfl hin hd (kk p e s m args below meth c H locs ls C N hA hP hD hS hl)
theorem ly_bast {i a n : Nat} {f : Nat → Int32} {x v : Int32} (he : L[i]? = some (a, .inl (wcs w 17, n, .inl f))) (hin : vp_in x n) (hd : decode μ.2.1 pc = .ok (.bastore, 1)) (kk : LW w μ R F Q (L.set i (a, .inl (wcs w 17, n, .inl (upd f x.toNatClampNeg (vp_nar .byte v))))) k sl lv rest (pc + 1)) : LW w μ R F Q L k sl lv (.int v :: .int x :: .ref a :: rest) pc := by
  intro p e s m args below meth c H locs ls C N hA hP hD hS hl
  exact va_bast C.1 C.2.1 C.2.2.2.2.2.2.2.1 hP hD hS i 5 he rfl hin hd (fun H1 locs1 hP1 hD1 hS1 => kk p e s m args below meth c H1 locs1 ls C N hA hP1 hD1 hS1 hl)
theorem ly_iald {i a n : Nat} {f : Nat → Int32} {x : Int32} (he : L[i]? = some (a, .inl (wcs w 12, n, .inl f))) (hin : vp_in x n) (hd : decode μ.2.1 pc = .ok (.iaload, 1)) (kk : LW w μ R F Q L k sl lv (.int (f x.toNatClampNeg) :: rest) (pc + 1)) : LW w μ R F Q L k sl lv (.int x :: .ref a :: rest) pc := by
  intro p e s m args below meth c H locs ls C N hA hP hD hS hl
  exact va_iald C.1 C.2.1 C.2.2.2.2.2.2.2.1 hP i 0 he rfl hin hd (kk p e s m args below meth c H locs ls C N hA hP hD hS hl)
theorem ly_iast {i a n : Nat} {f : Nat → Int32} {x v : Int32} (he : L[i]? = some (a, .inl (wcs w 12, n, .inl f))) (hin : vp_in x n) (hd : decode μ.2.1 pc = .ok (.iastore, 1)) (kk : LW w μ R F Q (L.set i (a, .inl (wcs w 12, n, .inl (upd f x.toNatClampNeg v)))) k sl lv rest (pc + 1)) : LW w μ R F Q L k sl lv (.int v :: .int x :: .ref a :: rest) pc := by
  intro p e s m args below meth c H locs ls C N hA hP hD hS hl
  exact va_iast C.1 C.2.1 C.2.2.2.2.2.2.2.1 hP hD hS i 0 he rfl hin hd (fun H1 locs1 hP1 hD1 hS1 => kk p e s m args below meth c H1 locs1 ls C N hA hP1 hD1 hS1 hl)
theorem ly_new {ci idx N : Nat} {Cn : String} {T : u_T} {fs : List Value} {ty0 : Nat → FieldType} (hcl : vwCl[ci]? = some (Cn, T, N)) (hws : ∀ z ∈ u_ws Cn T N, z ∈ goodTbl) (hty : ∀ k, k < N → parseFieldDescriptor (T k).2.2.1 = some (ty0 k)) (hcx : Cond.classLink μ.1.cls idx Cn ∈ goodTbl) (hin : Cond.instantiable Cn N ∈ goodTbl) (hii : Cond.initialized Cn ∈ goodTbl) (hfs : ∀ j, j < N → defaultValue (ty0 j) = vp_V fs j) (hk : k + 1 ≤ R.cells) (hs : sl + N ≤ R.slots) (hd : decode μ.2.1 pc = .ok (.new idx, 3)) (kk : ∀ q : Nat, LW w μ R F Q (L ++ [(q, .inr (ci, fs))]) (k + 1) (sl + N) lv (.ref q :: rest) (pc + 3)) : LW w μ R F Q L k sl lv rest pc := by
  intro p e s m args below meth c H locs ls C N' hA hP hD hS hl
  exact va_new C.1 C.2.1 C.2.2.2.2.2.1 hws ty0 hty C.2.2.2.2.1 (C.2.2.2.2.2.1 _ hcx) (C.2.2.2.2.2.1 _ hin) (C.2.2.2.2.2.1 _ hii) C.2.2.2.2.2.2.2.1 hP hD hS hA hcl hfs hk hs hd (fun q H1 hP1 hD1 hS1 => kk q p e s m args below meth c H1 locs ls C N' hA hP1 hD1 hS1 hl)
theorem cls_same {U : State} {ty : FieldType} {cA cB : ClassId} (h1 : va_RA U cA ty) (h2 : va_RA U cB ty) (hty : ty = .byte ∨ ty = .int) : cA = cB := by
  rcases hty with rfl | rfl
  · have a : U.vm.findClass ("[" ++ FieldType.byte.toString) = some cA := h1
    have b : U.vm.findClass ("[" ++ FieldType.byte.toString) = some cB := h2
    rw [a] at b; exact Option.some.inj b
  · have a : U.vm.findClass ("[" ++ FieldType.int.toString) = some cA := h1
    have b : U.vm.findClass ("[" ++ FieldType.int.toString) = some cB := h2
    rw [a] at b; exact Option.some.inj b
theorem ly_newB {n : Int32} {N' : Nat} (harr : Cond.arrayClass .byte ∈ goodTbl) (hn : ¬ n < 0) (hN : n.toNatClampNeg = N') (hb : N' ≤ 1000) (hk : k + 1 ≤ R.cells) (hs : sl + N' ≤ R.slots) (hd : decode μ.2.1 pc = .ok (.newarray .byte, 2)) (kk : ∀ q : Nat, LW w μ R F Q (L ++ [(q, .inl (wcs w 17, N', .inl (fun _ => 0)))]) (k + 1) (sl + N') lv (.ref q :: rest) (pc + 2)) : LW w μ R F Q L k sl lv (.int n :: rest) pc := by
  intro p e s m args below meth c H locs ls C N hA hP hD hS hl
  refine va_newa (atype := .byte) (a0 := (N', .inl (fun _ => 0))) C.1 C.2.1 (C.2.2.2.2.2.1 _ harr) (ty := .byte) rfl C.2.2.2.2.2.2.2.1 hP hD hS hA (fun cA => rfl) hn hN (by show N' * 1 ≤ 536870912; omega) hk hs hd (fun q cA H1 hK1 hP1 hD1 hS1 => ?_)
  have e17 : cA = wcs w 17 := cls_same (hK1.2 6 (cA, .byte) rfl).2 (C.2.2.2.2.2.2.2.1.2 5 (wcs w 17, .byte) rfl).2 (Or.inl rfl)
  subst e17
  exact kk q p e s m args below meth c H1 locs ls C N hA hP1 hD1 hS1 hl
theorem ly_newI {n : Int32} {N' : Nat} (harr : Cond.arrayClass .int ∈ goodTbl) (hn : ¬ n < 0) (hN : n.toNatClampNeg = N') (hb : N' ≤ 1000) (hk : k + 1 ≤ R.cells) (hs : sl + N' ≤ R.slots) (hd : decode μ.2.1 pc = .ok (.newarray .int, 2)) (kk : ∀ q : Nat, LW w μ R F Q (L ++ [(q, .inl (wcs w 12, N', .inl (fun _ => 0)))]) (k + 1) (sl + N') lv (.ref q :: rest) (pc + 2)) : LW w μ R F Q L k sl lv (.int n :: rest) pc := by
  intro p e s m args below meth c H locs ls C N hA hP hD hS hl
  refine va_newa (atype := .int) (a0 := (N', .inl (fun _ => 0))) C.1 C.2.1 (C.2.2.2.2.2.1 _ harr) (ty := .int) rfl C.2.2.2.2.2.2.2.1 hP hD hS hA (fun cA => rfl) hn hN (by show N' * 4 ≤ 536870912; omega) hk hs hd (fun q cA H1 hK1 hP1 hD1 hS1 => ?_)
  have e12 : cA = wcs w 12 := cls_same (hK1.2 6 (cA, .int) rfl).2 (C.2.2.2.2.2.2.2.1.2 0 (wcs w 12, .int) rfl).2 (Or.inr rfl)
  subst e12
  exact kk q p e s m args below meth c H1 locs ls C N hA hP1 hD1 hS1 hl
theorem ly_objInit {idx a : Nat} (hlk : Cond.methodLink μ.1.cls idx Lib.objectInit ∈ goodTbl) (hin : Cond.instanceMethod Lib.objectInit ∈ goodTbl) (hco : Cond.code Lib.objectInit ⟨#[0xb1]⟩ 1 none ∈ goodTbl) (hfr : 1 ≤ R.frames) (hlo : (rest.map fun v => v.category).sum + 12 ≤ R.locals) (hd : decode μ.2.1 pc = .ok (.invokespecial idx, 3)) (kk : LW w μ R F Q L k sl lv rest (pc + 3)) : LW w μ R F Q L k sl lv (.ref a :: rest) pc := by
  intro p e s m args below meth c H locs ls C N hA hP hD hS hl
  refine W.objInit C.1 C.2.1 C.2.2.2.2.1 (C.2.2.2.2.2.1 _ hlk) (C.2.2.2.2.2.1 _ hin) (C.2.2.2.2.2.1 _ hco) rfl (hl.1.trans C.2.2.1.symm) rfl hd hfr (by show 2 * 0 + _ + 12 ≤ _; omega) ?_
  exact kk p e s m args below meth c H locs ls C N hA hP hD hS hl
/-! ends -/
section LYE
variable {post : Option Value → va_W → Prop} {mc ms : Nat}
theorem ly_iret {v : Int32} (hp : post (some (.int v)) L) (hr : μ.2.2.2.1 = some .int) (hk : k = mc) (hs : sl = ms) (hd : decode μ.2.1 pc = .ok (.ireturn, 1)) : LW w μ R F (QM w F post mc ms) L k sl lv [.int v] pc := by
  intro p e s m args below meth c H locs ls C N hA hP hD hS hl
  subst hk hs
  exact W.iret C.1 C.2.1 (C.2.2.2.1.trans hr) (fun t ht hW => ⟨_, L, rfl, hp, by rw [ht]; exact hP, hD, hS.F ht⟩) hS.2.2 hd C.2.2.2.2.2.2.1
theorem ly_zret {v : Int32} {ty : FieldType} (hp : post (some (.int v)) L) (hr : μ.2.2.2.1 = some ty) (hn : narrow ty (.int v) = .int v) (hk : k = mc) (hs : sl = ms) (hd : decode μ.2.1 pc = .ok (.ireturn, 1)) : LW w μ R F (QM w F post mc ms) L k sl lv [.int v] pc := by
  intro p e s m args below meth c H locs ls C N hA hP hD hS hl
  subst hk hs
  exact W.zret C.1 C.2.1 (C.2.2.2.1.trans hr) hn (fun t ht hW => ⟨_, L, rfl, hp, by rw [ht]; exact hP, hD, hS.F ht⟩) hS.2.2 hd C.2.2.2.2.2.2.1
theorem ly_aret {a : Nat} {ty : FieldType} (hp : post (some (.ref a)) L) (hr : μ.2.2.2.1 = some ty) (hty : (∃ n, ty = .object n) ∨ ∃ t, ty = .array t) (hk : k = mc) (hs : sl = ms) (hd : decode μ.2.1 pc = .ok (.areturn, 1)) : LW w μ R F (QM w F post mc ms) L k sl lv [.ref a] pc := by
  intro p e s m args below meth c H locs ls C N hA hP hD hS hl
  subst hk hs
  exact W.aret C.1 C.2.1 (C.2.2.2.1.trans hr) hty (Or.inr ⟨a, rfl⟩) (fun t ht hW => ⟨_, L, rfl, hp, by rw [ht]; exact hP, hD, hS.F ht⟩) hS.2.2 hd C.2.2.2.2.2.2.1
theorem ly_vret (hp : post none L) (hr : μ.2.2.2.1 = none) (hk : k = mc) (hs : sl = ms) (hd : decode μ.2.1 pc = .ok (.return_, 1)) : LW w μ R F (QM w F post mc ms) L k sl lv [] pc := by
  intro p e s m args below meth c H locs ls C N hA hP hD hS hl
  subst hk hs
  exact W.vret C.1 C.2.1 (C.2.2.2.1.trans hr) (fun t ht hW => ⟨_, L, rfl, hp, by rw [ht]; exact hP, hD, hS.F ht⟩) hS.2.2 hd C.2.2.2.2.2.2.1
end LYE
end LYS
