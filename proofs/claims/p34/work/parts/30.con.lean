/-! THE CONSTRUCTORS: the cells come one behind another, in the order of the layout; references that are not yet laid are told by a list -/
abbrev PL : Type := List (Nat × Nat)
def fldC (w : Wd) (L : PL) (σ : Mem) (c a : Nat) : List Value := (ftl c).mapIdx (fun k b => if b then (if L.contains (a, k) then .null else .ref (adr w (rf a k))) else .int (σ.1 a k))
def entC (w : Wd) (L : PL) (σ : Mem) (a : Nat) : va_E :=
  if kd a < 12 then .inr (kd a, fldC w L σ (kd a) a)
  else if kd a = 12 then .inl (wcs w 12, ln a, .inl (σ.1 a))
  else if kd a = 13 then .inl (wcs w 13, ln a, .inr (.inl (σ.2 a)))
  else .inl (wcs w (kd a), ln a, .inr (.inr (.inr (.inr (fun j => if L.contains (a, j) then none else some (adr w (rf a j)))))))
def wdC (w : Wd) (n : Nat) (L : PL) (σ : Mem) : va_W := (List.range n).map (fun a => (adr w a, entC w L σ a))
theorem wdC_get {w : Wd} {n : Nat} {L : PL} {σ : Mem} {a : Nat} (h : a < n) : (wdC w n L σ)[a]? = some (adr w a, entC w L σ a) := by
  simp [wdC, h]
theorem wdC_obj {w : Wd} {n : Nat} {L : PL} {σ : Mem} {a c : Nat} (h : a < n) (hk : kd a = c) (hc : c < 12) : (wdC w n L σ)[a]? = some (adr w a, .inr (c, fldC w L σ c a)) := by
  rw [wdC_get h]; simp [entC, hk, hc]
theorem wdC_refs {w : Wd} {n : Nat} {L : PL} {σ : Mem} {a c : Nat} (h : a < n) (hk : kd a = c) (hc : 14 ≤ c) : (wdC w n L σ)[a]? = some (adr w a, .inl (wcs w c, ln a, .inr (.inr (.inr (.inr (fun j => if L.contains (a, j) then none else some (adr w (rf a j)))))))) := by
  rw [wdC_get h]
  have h1 : ¬ c < 12 := by omega
  have h2 : ¬ c = 12 := by omega
  have h3 : ¬ c = 13 := by omega
  simp [entC, hk, h1, h2, h3]
theorem wdC_D {w : Wd} {n : Nat} {L : PL} {σ : Mem} : va_D (mine w) (wdC w n L σ) := by
  have key : ∀ (i : Nat) (p : Nat × va_E), (wdC w n L σ)[i]? = some p → p.1 = adr w i := by
    intro i p h
    by_cases hl : i < n
    · rw [wdC_get hl] at h; cases h; rfl
    · simp [wdC, Nat.not_lt.mp hl] at h
  refine ⟨fun i j p q hi hj hpq => ?_, fun k q hk => ?_⟩
  · rw [key i p hi, key j q hj] at hpq
    exact adr_inj hpq
  · rw [key k q hk]; show wb w ≤ _; unfold adr; omega
theorem wdC_set {w : Wd} {n : Nat} {L L' : PL} {σ σ' : Mem} {a : Nat} (ho : ∀ b, b ≠ a → entC w L' σ' b = entC w L σ b) : (wdC w n L σ).set a (adr w a, entC w L' σ' a) = wdC w n L' σ' := by
  apply List.ext_getElem?
  intro i
  by_cases hl : i < n
  · by_cases hi : i = a
    · subst hi
      rw [List.getElem?_set_self (by simp [wdC, hl]), wdC_get hl]
    · rw [List.getElem?_set_ne (fun q => hi q.symm), wdC_get hl, wdC_get hl, ho i hi]
  · have h1 : (wdC w n L' σ').length ≤ i := by simp [wdC]; omega
    rw [List.getElem?_eq_none h1, List.getElem?_eq_none (by simp [wdC]; omega)]
/-- L less a place -/
def pdel (L : PL) (a k : Nat) : PL := L.filter (fun q => !(q.1 == a && q.2 == k))
theorem pdel_self {L : PL} {a k : Nat} : (pdel L a k).contains (a, k) = false := by
  simp [pdel]
theorem pdel_ne {L : PL} {a k b j : Nat} (h : ¬ (b = a ∧ j = k)) : (pdel L a k).contains (b, j) = L.contains (b, j) := by
  rw [Bool.eq_iff_iff]
  simp only [pdel, List.contains_iff_mem, List.mem_filter, Bool.not_eq_true', Bool.and_eq_false_iff, beq_eq_false_iff_ne, ne_eq]
  constructor
  · exact fun q => q.1
  · intro q
    refine ⟨q, ?_⟩
    by_cases hb : b = a
    · exact Or.inr (fun e => h ⟨hb, e⟩)
    · exact Or.inl hb
theorem entC_del {w : Wd} {L : PL} {σ : Mem} {a k b : Nat} (h : b ≠ a) : entC w (pdel L a k) σ b = entC w L σ b := by
  have e : ∀ j, (pdel L a k).contains (b, j) = L.contains (b, j) := fun j => pdel_ne (fun q => h q.1)
  unfold entC fldC
  simp only [e]
theorem fldC_get {w : Wd} {L : PL} {σ : Mem} {c a k : Nat} : (fldC w L σ c a)[k]? = ((ftl c)[k]?).map (fun b => if b then (if L.contains (a, k) then .null else .ref (adr w (rf a k))) else .int (σ.1 a k)) := by
  simp [fldC]
theorem fldC_setR {w : Wd} {L : PL} {σ : Mem} {c a k : Nat} (hk : (ftl c)[k]? = some true) : (fldC w L σ c a).set k (.ref (adr w (rf a k))) = fldC w (pdel L a k) σ c a := by
  apply List.ext_getElem?
  intro i
  by_cases hi : i = k
  · subst hi
    have hl : i < (ftl c).length := (List.getElem?_eq_some_iff.mp hk).1
    rw [List.getElem?_set_self (by simp [fldC, hl]), fldC_get, hk]
    simp only [Option.map_some, pdel_self, if_true, Bool.false_eq_true, if_false]
  · rw [List.getElem?_set_ne (fun q => hi q.symm), fldC_get, fldC_get]
    congr 1
    funext b
    rw [pdel_ne (fun q => hi q.2)]
theorem fldC_setI {w : Wd} {L : PL} {σ : Mem} {c a k : Nat} {v : Int32} (hk : (ftl c)[k]? = some false) : (fldC w L σ c a).set k (.int v) = fldC w L (wI σ a k v) c a := by
  apply List.ext_getElem?
  intro i
  by_cases hi : i = k
  · subst hi
    have hl : i < (ftl c).length := (List.getElem?_eq_some_iff.mp hk).1
    rw [List.getElem?_set_self (by simp [fldC, hl]), fldC_get, hk]
    simp [wI]
  · rw [List.getElem?_set_ne (fun q => hi q.symm), fldC_get, fldC_get]
    congr 1
    funext b
    simp [wI, hi]
def Fresh (σ : Mem) (n : Nat) : Prop := ∀ x, n ≤ x → ∀ y, σ.1 x y = 0 ∧ σ.2 x y = 0
theorem Fresh.up {σ : Mem} {n m : Nat} (h : Fresh σ n) (hm : n ≤ m) : Fresh σ m := fun x hx => h x (Nat.le_trans hm hx)
theorem fresh_wI {σ : Mem} {n a k : Nat} {v : Int32} (h : Fresh σ n) (ha : a < n) : Fresh (wI σ a k v) n := fun x hx y => by
  have e : ¬ (x = a ∧ y = k) := fun q => by omega
  have h1 := h x hx y
  simp only [wI, e, if_false]
  exact h1
def AOL (U : State) : Prop := (Cond.arrayOver (.array .long)).before #[] U = true
theorem AOL.moved {u U : State} (hvm : u.vm.Alike U.vm) (h : AOL u) : AOL U := by
  obtain ⟨comp, c, k, h1, h2, h3, h4, h5⟩ := arrayOverA_spec h
  obtain ⟨k', hk', he⟩ := hvm.2.2 _ _ h3
  have hi2 := (va_idx_bare u.vm comp).trans h2
  have hb : u.vm.bare = U.vm.bare := by first | exact hvm.bare_eq | exact hvm.bare_eq.symm
  rw [hb] at hi2
  have hi := (va_idx_bare U.vm comp).symm.trans hi2
  have hkind : k'.kind = .array comp (.array .long) := by rw [he]; exact h4
  have f1 : U.vm.findClass (FieldType.array .long).toString = some comp := by rw [hvm.findClass]; exact h1
  have f2 : U.vm.findClass ("[" ++ (FieldType.array .long).toString) = some c := by rw [hvm.findClass]; exact h5
  unfold AOL Cond.before Cond.holds
  simp only [Cond.value]
  rw [f1, Option.bind_some]
  refine (congrArg (fun o : Option Nat => (o.bind (fun c => (U.vm.classes[c]?).map fun (k : Class) => match k.kind with | .array _ ty => decide (ty = FieldType.array .long) && decide (U.vm.findClass ("[" ++ (FieldType.array .long).toString) = some c) | _ => false) == some true)) hi).trans ?_
  simp [hk', hkind, f2]
def KC (w : Wd) (U : State) : Prop := va_K (wD w) vwCl (ctys w) U ∧ KS w U ∧ va_AO "HallRegisters$State" U ∧ va_AO "HallRegisters$Sum" U ∧ AOL U
def rmC (d C S : Nat) : Room := { frames := d, cells := C, slots := S, locals := 48 * d }
abbrev FinT : Type := Nat × PL × Mem
def PcC (w : Wd) (args : List Value) (n : Nat) (L : PL) (σ : Mem) : Array Value → State → Prop := fun v U => v = args.toArray ∧ va_P (wD w) vwCl (wdC w n L σ) U.heap ∧ U.heap.size = wb w + n ∧ KC w U
def QcC (w : Wd) (f : FinT) : Array Value → State → Outcome → State → Prop := fun _ st o t => o = .returned none ∧ va_P (wD w) vwCl (wdC w f.1 f.2.1 f.2.2) t.heap ∧ va_F (mine w) st t
def MCC (w : Wd) (μ : MD) (C S : Nat) (args : List Value) (n : Nat) (L : PL) (σ : Mem) (f : FinT) : Prop := Met w.1 μ.1 (wsM μ) (rmC μ.2.2.2.2 C S) (PcC w args n L σ) (QcC w f) C S (mine w)
def CXC (w : Wd) (μ : MD) (p : Program) (s : State) (m : MethodId) (args : Array Value) (meth : Method) (c : Code) : Prop := CX w μ p s m args meth c ∧ meth.name = "<init>" ∧ KC w s
def CO (w : Wd) (μ : MD) (C S : Nat) (f : FinT) (n : Nat) (L : PL) (σ : Mem) (k sl : Nat) (lv : List (Nat × Value)) (st : List Value) (pc : Nat) : Prop :=
  ∀ (p : Program) (e : Env) (s : State) (m : MethodId) (args : Array Value) (below : List Frame) (meth : Method) (c : Code) (H : Heap) (locs : List Loc) (ls : Array Slot),
    CXC w μ p s m args meth c → va_P (wD w) vwCl (wdC w n L σ) H → s.heap.size + k = wb w + n → k ≤ n → va_S (mine w) s.heap H locs → lv_has ls μ.2.2.1 lv →
    W p w.1 e (rmC μ.2.2.2.2 C S) s m args below meth c H locs k sl (MQ below (QcC w f) args s C S (mine w)) (F0 m pc ls st)
theorem w_sized {p : Program} {l : Launch} {e : Env} {R : Room} {s : State} {m : MethodId} {args : Array Value} {below : List Frame} {meth : Method} {c : Code} {H : Heap} {locs : List Loc} {cells slots : Nat} {Q : State → Prop} {g : JFrame} (h : H.size ≤ s.heap.size + cells → W p l e R s m args below meth c H locs cells slots Q g) : W p l e R s m args below meth c H locs cells slots Q g :=
  fun T hT X => h (by rw [← hT]; exact X.heapSize) T hT X
theorem hsize {w : Wd} {n : Nat} {L : PL} {σ : Mem} {H H0 : Heap} {k : Nat} (hP : va_P (wD w) vwCl (wdC w n L σ) H) (h1 : H.size ≤ H0.size + k) (h2 : H0.size + k = wb w + n) (h4 : k ≤ n) (h3 : H0.size ≤ H.size) : H.size = wb w + n := by
  cases n with
  | zero => omega
  | succ n =>
    have h := (hP n _ (wdC_get (Nat.lt_succ_self n))).lt
    simp only [adr] at h
    omega
section COS
variable {w : Wd} {μ : MD} {C S : Nat} {f : FinT} {n : Nat} {L L' : PL} {σ : Mem} {k sl : Nat} {lv lv' : List (Nat × Value)} {rest : List Value} {pc : Nat}
theorem co_iconst {z : Int} {v : Int32} (hd : decode μ.2.1 pc = .ok (.iconst z, 1)) (hv : Int32.ofInt z = v) (kk : CO w μ C S f (n) (L) (σ) (k) (sl) lv (.int v :: rest) (pc + 1)) : CO w μ C S f (n) (L) (σ) (k) (sl) lv (rest) (pc) := by
  intro p e s m args below meth c H locs ls C0 hP hsz hkn hS hl
  exact lv_iconst C0.1.1 C0.1.2.1 hd hv (kk p e s m args below meth c H locs ls C0 hP hsz hkn hS hl)
theorem co_bipush {z : Int} {v : Int32} (hd : decode μ.2.1 pc = .ok (.bipush z, 2)) (hv : (Int8.ofInt z).toInt32 = v) (kk : CO w μ C S f (n) (L) (σ) (k) (sl) lv (.int v :: rest) (pc + 2)) : CO w μ C S f (n) (L) (σ) (k) (sl) lv (rest) (pc) := by
  intro p e s m args below meth c H locs ls C0 hP hsz hkn hS hl
  exact lv_bipush C0.1.1 C0.1.2.1 hd hv (kk p e s m args below meth c H locs ls C0 hP hsz hkn hS hl)
theorem co_sipush {z : Int} {v : Int32} (hd : decode μ.2.1 pc = .ok (.sipush z, 3)) (hv : (Int16.ofInt z).toInt32 = v) (kk : CO w μ C S f (n) (L) (σ) (k) (sl) lv (.int v :: rest) (pc + 3)) : CO w μ C S f (n) (L) (σ) (k) (sl) lv (rest) (pc) := by
  intro p e s m args below meth c H locs ls C0 hP hsz hkn hS hl
  exact lv_sipush C0.1.1 C0.1.2.1 hd hv (kk p e s m args below meth c H locs ls C0 hP hsz hkn hS hl)
theorem co_ldc {i : Nat} {v : Int32} (hd : decode μ.2.1 pc = .ok (.ldc i, 2)) (hc : Cond.constant μ.1.cls i v ∈ goodTbl) (kk : CO w μ C S f (n) (L) (σ) (k) (sl) lv (.int v :: rest) (pc + 2)) : CO w μ C S f (n) (L) (σ) (k) (sl) lv (rest) (pc) := by
  intro p e s m args below meth c H locs ls C0 hP hsz hkn hS hl
  exact lv_ldc C0.1.1 C0.1.2.1 C0.1.2.2.2.2.1 (C0.1.2.2.2.2.2.1 _ hc) hd (kk p e s m args below meth c H locs ls C0 hP hsz hkn hS hl)
theorem co_iload_n {z : Fin 4} {i : Nat} {v : Int32} (j : Nat) (hj : lv[j]? = some (i, .int v)) (hd : decode μ.2.1 pc = .ok (.iload_n z, 1)) (hi : (z : Nat) = i) (kk : CO w μ C S f (n) (L) (σ) (k) (sl) lv (.int v :: rest) (pc + 1)) : CO w μ C S f (n) (L) (σ) (k) (sl) lv (rest) (pc) := by
  intro p e s m args below meth c H locs ls C0 hP hsz hkn hS hl
  exact lv_iload_n C0.1.1 C0.1.2.1 hd hi (lv_at hl j hj) (kk p e s m args below meth c H locs ls C0 hP hsz hkn hS hl)
theorem co_aload_n {z : Fin 4} {i : Nat} {v : Nat} (j : Nat) (hj : lv[j]? = some (i, .ref v)) (hd : decode μ.2.1 pc = .ok (.aload_n z, 1)) (hi : (z : Nat) = i) (kk : CO w μ C S f (n) (L) (σ) (k) (sl) lv (.ref v :: rest) (pc + 1)) : CO w μ C S f (n) (L) (σ) (k) (sl) lv (rest) (pc) := by
  intro p e s m args below meth c H locs ls C0 hP hsz hkn hS hl
  exact lv_aload_n C0.1.1 C0.1.2.1 hd hi (lv_at hl j hj) (kk p e s m args below meth c H locs ls C0 hP hsz hkn hS hl)
theorem co_istore_n {z : Fin 4} {i : Nat} {v : Int32} (hd : decode μ.2.1 pc = .ok (.istore_n z, 1)) (hi : (z : Nat) = i) (hn : i < μ.2.2.1) (hq : (i, Value.int v) :: lv.filter (fun q => !(q.1 == i) && !(q.1 + 1 == i && q.2.category == 2)) = lv') (kk : CO w μ C S f (n) (L) (σ) (k) (sl) lv' (rest) (pc + 1)) : CO w μ C S f (n) (L) (σ) (k) (sl) lv (.int v :: rest) (pc) := by
  intro p e s m args below meth c H locs ls C0 hP hsz hkn hS hl
  exact lv_istore_n C0.1.1 C0.1.2.1 hd hi hl hn hq (fun ls' hl' => (kk p e s m args below meth c H locs ls' C0 hP hsz hkn hS hl'))
theorem co_iinc {i : Nat} {z : Int} {x0 v : Int32} (j : Nat) (hj : lv[j]? = some (i, .int x0)) (hd : decode μ.2.1 pc = .ok (.iinc i z, 3)) (hv : x0 + Int32.ofInt z = v) (hn : i < μ.2.2.1) (hq : (i, Value.int v) :: lv.filter (fun q => !(q.1 == i) && !(q.1 + 1 == i && q.2.category == 2)) = lv') (kk : CO w μ C S f (n) (L) (σ) (k) (sl) lv' (rest) (pc + 3)) : CO w μ C S f (n) (L) (σ) (k) (sl) lv (rest) (pc) := by
  intro p e s m args below meth c H locs ls C0 hP hsz hkn hS hl
  exact lv_iinc C0.1.1 C0.1.2.1 hd hl hj hv hn hq (fun ls' hl' => (kk p e s m args below meth c H locs ls' C0 hP hsz hkn hS hl'))
theorem co_dup {va : Value} (hd : decode μ.2.1 pc = .ok (.dup, 1)) (hc : va.category = 1) (kk : CO w μ C S f (n) (L) (σ) (k) (sl) lv (va :: va :: rest) (pc + 1)) : CO w μ C S f (n) (L) (σ) (k) (sl) lv (va :: rest) (pc) := by
  intro p e s m args below meth c H locs ls C0 hP hsz hkn hS hl
  exact lv_dup C0.1.1 C0.1.2.1 hd hc (kk p e s m args below meth c H locs ls C0 hP hsz hkn hS hl)
theorem co_goto {tgt : Nat} {off : Int} (hd : decode μ.2.1 pc = .ok (.goto off, 3)) (ht : (pc : Int) + off = (tgt : Int)) (kk : CO w μ C S f (n) (L) (σ) (k) (sl) lv (rest) (tgt)) : CO w μ C S f (n) (L) (σ) (k) (sl) lv (rest) (pc) := by
  intro p e s m args below meth c H locs ls C0 hP hsz hkn hS hl
  exact lv_goto C0.1.1 C0.1.2.1 hd ht (kk p e s m args below meth c H locs ls C0 hP hsz hkn hS hl)
theorem co_ge_t {tgt : Nat} {off : Int} {x0 y0 : Int32} (hd : decode μ.2.1 pc = .ok (.if_icmp .ge off, 3)) (ht : (pc : Int) + off = (tgt : Int)) (hc : y0 ≤ x0) (kk : CO w μ C S f (n) (L) (σ) (k) (sl) lv (rest) (tgt)) : CO w μ C S f (n) (L) (σ) (k) (sl) lv (.int y0 :: .int x0 :: rest) (pc) := by
  intro p e s m args below meth c H locs ls C0 hP hsz hkn hS hl
  exact lv_icmp_ge C0.1.1 C0.1.2.1 hd ht (fun h => (kk p e s m args below meth c H locs ls C0 hP hsz hkn hS hl)) (fun h => absurd hc h)
theorem co_ge_f {tgt : Nat} {off : Int} {x0 y0 : Int32} (hd : decode μ.2.1 pc = .ok (.if_icmp .ge off, 3)) (ht : (pc : Int) + off = (tgt : Int)) (hc : ¬ y0 ≤ x0) (kk : CO w μ C S f (n) (L) (σ) (k) (sl) lv (rest) (pc + 3)) : CO w μ C S f (n) (L) (σ) (k) (sl) lv (.int y0 :: .int x0 :: rest) (pc) := by
  intro p e s m args below meth c H locs ls C0 hP hsz hkn hS hl
  exact lv_icmp_ge C0.1.1 C0.1.2.1 hd ht (fun h => absurd h hc) (fun h => (kk p e s m args below meth c H locs ls C0 hP hsz hkn hS hl))
theorem co_getr {c k1 : Nat} {C1 : String} {T : u_T} {N idx a b : Nat} (ok : FOK c k1 C1 T N true) (ha : a < n) (hka : kd a = c) (hL : L.contains (a, k1) = false) (he : rf a k1 = b) (hl0 : Cond.fieldLink μ.1.cls idx (T k1).1 (T k1).2.1 (T k1).2.2.1 ∈ goodTbl) (hd : decode μ.2.1 pc = .ok (.getfield idx, 3)) (kk : CO w μ C S f (n) (L) (σ) (k) (sl) lv (.ref (adr w b) :: rest) (pc + 3)) : CO w μ C S f (n) (L) (σ) (k) (sl) lv (.ref (adr w a) :: rest) (pc) := by
  intro p e s m args below meth c0 H locs ls C0 hP hsz hkn hS hl
  refine va_get C0.1.1 C0.1.2.1 C0.1.2.2.2.2.2.1 ok.2.2.2.1 C0.1.2.2.2.2.1 C0.1.2.2.2.2.2.2.2.1 hP a (wdC_obj ha hka ok.1) ok.2.1 k1 ok.2.2.1 (C0.1.2.2.2.2.2.1 _ hl0) (fun _ h => h) (v := .ref (adr w b)) (by rw [fldC_get, ok.2.2.2.2, hL, he]; rfl) hd ?_
  exact kk p e s m args below meth c0 H locs ls C0 hP hsz hkn hS hl

def FOKq (c k1 : Nat) (T : u_T) (N : Nat) (ty : FieldType) (fin : Bool) : Prop := (∃ ty0 : Nat → FieldType, ∀ j, j < N → parseFieldDescriptor (T j).2.2.1 = some (ty0 j)) ∧ (∀ a, a < N → ∀ b, b < N → a ≠ b → (T a).2.1 ≠ (T b).2.1) ∧ (T k1).2.2.2 = fin ∧ parseFieldDescriptor (T k1).2.2.1 = some ty ∧ k1 < (ftl c).length
theorem co_putr {c k1 : Nat} {C1 : String} {T : u_T} {N idx a b : Nat} {ty : FieldType} (ok : FOK c k1 C1 T N true) (okq : FOKq c k1 T N ty false) (hty : ty.isReference = true) (ha : a < n) (hka : kd a = c) (he : rf a k1 = b) (hL : pdel L a k1 = L') (hl0 : Cond.fieldLink μ.1.cls idx (T k1).1 (T k1).2.1 (T k1).2.2.1 ∈ goodTbl) (hd : decode μ.2.1 pc = .ok (.putfield idx, 3)) (kk : CO w μ C S f (n) (L') (σ) (k) (sl) lv (rest) (pc + 3)) : CO w μ C S f (n) (L) (σ) (k) (sl) lv (.ref (adr w b) :: .ref (adr w a) :: rest) (pc) := by
  intro p e s m args below meth c0 H locs ls C0 hP hsz hkn hS hl
  obtain ⟨ty0, hty0⟩ := okq.1
  subst he
  refine va_put C0.1.1 C0.1.2.1 C0.1.2.2.2.2.2.1 ok.2.2.2.1 ty0 hty0 okq.2.1 C0.1.2.2.2.2.1 C0.1.2.2.2.2.2.2.2.1 hP wdC_D hS a (wdC_obj ha hka ok.1) ok.2.1 k1 ok.2.2.1 (C0.1.2.2.2.2.2.1 _ hl0) (fun _ h => h) okq.2.2.1 (v := .ref (adr w (rf a k1))) okq.2.2.2.1 (by cases ty <;> first | rfl | cases hty) (by cases ty <;> first | rfl | cases hty) (by simp [fldC]; exact okq.2.2.2.2) hd (fun H1 locs1 hP1 _ hS1 => ?_)
  have e1 : (adr w a, (Sum.inr (c, (fldC w L σ c a).set k1 (.ref (adr w (rf a k1)))) : va_E)) = (adr w a, entC w (pdel L a k1) σ a) := by
    rw [fldC_setR ok.2.2.2.2]; simp [entC, hka, ok.1]
  rw [e1, wdC_set (fun b hb => entC_del hb), hL] at hP1
  exact kk p e s m args below meth c0 H1 locs1 ls C0 hP1 hsz hkn hS1 hl

theorem co_putrF {c k1 : Nat} {C1 : String} {T : u_T} {N idx a b : Nat} {ty : FieldType} (ok : FOK c k1 C1 T N true) (okq : FOKq c k1 T N ty true) (hdecl : (T k1).1 = μ.1.cls) (hty : ty.isReference = true) (ha : a < n) (hka : kd a = c) (he : rf a k1 = b) (hL : pdel L a k1 = L') (hl0 : Cond.fieldLink μ.1.cls idx (T k1).1 (T k1).2.1 (T k1).2.2.1 ∈ goodTbl) (hd : decode μ.2.1 pc = .ok (.putfield idx, 3)) (kk : CO w μ C S f (n) (L') (σ) (k) (sl) lv (rest) (pc + 3)) : CO w μ C S f (n) (L) (σ) (k) (sl) lv (.ref (adr w b) :: .ref (adr w a) :: rest) (pc) := by
  intro p e s m args below meth c0 H locs ls C0 hP hsz hkn hS hl
  obtain ⟨ty0, hty0⟩ := okq.1
  subst he
  refine va_putF C0.1.1 C0.1.2.1 C0.1.2.2.2.2.2.1 ok.2.2.2.1 ty0 hty0 okq.2.1 C0.1.2.2.2.2.1 C0.1.2.2.2.2.2.2.2.1 hP wdC_D hS a (wdC_obj ha hka ok.1) ok.2.1 k1 ok.2.2.1 (C0.1.2.2.2.2.2.1 _ hl0) (fun _ h => h) okq.2.2.1 C0.2.1 hdecl (v := .ref (adr w (rf a k1))) okq.2.2.2.1 (by cases ty <;> first | rfl | cases hty) (by cases ty <;> first | rfl | cases hty) (by simp [fldC]; exact okq.2.2.2.2) hd (fun H1 locs1 hP1 _ hS1 => ?_)
  have e1 : (adr w a, (Sum.inr (c, (fldC w L σ c a).set k1 (.ref (adr w (rf a k1)))) : va_E)) = (adr w a, entC w (pdel L a k1) σ a) := by
    rw [fldC_setR ok.2.2.2.2]; simp [entC, hka, ok.1]
  rw [e1, wdC_set (fun b hb => entC_del hb), hL] at hP1
  exact kk p e s m args below meth c0 H1 locs1 ls C0 hP1 hsz hkn hS1 hl

theorem co_putf {c k1 : Nat} {C1 : String} {T : u_T} {N idx a : Nat} {ty : FieldType} {v : Int32} {σ' : Mem} (ok : FOK c k1 C1 T N false) (okq : FOKq c k1 T N ty false) (hv : narrow ty (.int v) = .int v ∧ fits ty (.int v) = true) (ha : a < n) (hka : kd a = c) (hσ : wI σ a k1 v = σ') (hl0 : Cond.fieldLink μ.1.cls idx (T k1).1 (T k1).2.1 (T k1).2.2.1 ∈ goodTbl) (hd : decode μ.2.1 pc = .ok (.putfield idx, 3)) (kk : CO w μ C S f (n) (L) (σ') (k) (sl) lv (rest) (pc + 3)) : CO w μ C S f (n) (L) (σ) (k) (sl) lv (.int v :: .ref (adr w a) :: rest) (pc) := by
  intro p e s m args below meth c0 H locs ls C0 hP hsz hkn hS hl
  obtain ⟨ty0, hty0⟩ := okq.1
  refine va_put C0.1.1 C0.1.2.1 C0.1.2.2.2.2.2.1 ok.2.2.2.1 ty0 hty0 okq.2.1 C0.1.2.2.2.2.1 C0.1.2.2.2.2.2.2.2.1 hP wdC_D hS a (wdC_obj ha hka ok.1) ok.2.1 k1 ok.2.2.1 (C0.1.2.2.2.2.2.1 _ hl0) (fun _ h => h) okq.2.2.1 (v := .int v) okq.2.2.2.1 hv.1 hv.2 (by simp [fldC]; exact okq.2.2.2.2) hd (fun H1 locs1 hP1 _ hS1 => ?_)
  have e1 : (adr w a, (Sum.inr (c, (fldC w L σ c a).set k1 (.int v)) : va_E)) = (adr w a, entC w L (wI σ a k1 v) a) := by
    rw [fldC_setI ok.2.2.2.2]; simp [entC, hka, ok.1]
  rw [e1, wdC_set (fun b hb => by simp [entC, fldC, wI, hb]), hσ] at hP1
  exact kk p e s m args below meth c0 H1 locs1 ls C0 hP1 hsz hkn hS1 hl

theorem co_putfF {c k1 : Nat} {C1 : String} {T : u_T} {N idx a : Nat} {ty : FieldType} {v : Int32} {σ' : Mem} (ok : FOK c k1 C1 T N false) (okq : FOKq c k1 T N ty true) (hdecl : (T k1).1 = μ.1.cls) (hv : narrow ty (.int v) = .int v ∧ fits ty (.int v) = true) (ha : a < n) (hka : kd a = c) (hσ : wI σ a k1 v = σ') (hl0 : Cond.fieldLink μ.1.cls idx (T k1).1 (T k1).2.1 (T k1).2.2.1 ∈ goodTbl) (hd : decode μ.2.1 pc = .ok (.putfield idx, 3)) (kk : CO w μ C S f (n) (L) (σ') (k) (sl) lv (rest) (pc + 3)) : CO w μ C S f (n) (L) (σ) (k) (sl) lv (.int v :: .ref (adr w a) :: rest) (pc) := by
  intro p e s m args below meth c0 H locs ls C0 hP hsz hkn hS hl
  obtain ⟨ty0, hty0⟩ := okq.1
  refine va_putF C0.1.1 C0.1.2.1 C0.1.2.2.2.2.2.1 ok.2.2.2.1 ty0 hty0 okq.2.1 C0.1.2.2.2.2.1 C0.1.2.2.2.2.2.2.2.1 hP wdC_D hS a (wdC_obj ha hka ok.1) ok.2.1 k1 ok.2.2.1 (C0.1.2.2.2.2.2.1 _ hl0) (fun _ h => h) okq.2.2.1 C0.2.1 hdecl (v := .int v) okq.2.2.2.1 hv.1 hv.2 (by simp [fldC]; exact okq.2.2.2.2) hd (fun H1 locs1 hP1 _ hS1 => ?_)
  have e1 : (adr w a, (Sum.inr (c, (fldC w L σ c a).set k1 (.int v)) : va_E)) = (adr w a, entC w L (wI σ a k1 v) a) := by
    rw [fldC_setI ok.2.2.2.2]; simp [entC, hka, ok.1]
  rw [e1, wdC_set (fun b hb => by simp [entC, fldC, wI, hb]), hσ] at hP1
  exact kk p e s m args below meth c0 H1 locs1 ls C0 hP1 hsz hkn hS1 hl

theorem wI_same {σ : Mem} {a k : Nat} {v : Int32} (h : σ.1 a k = v) : wI σ a k v = σ := by
  unfold wI
  refine Prod.ext ?_ rfl
  funext x y
  show (if x = a ∧ y = k then v else σ.1 x y) = σ.1 x y
  by_cases e : x = a ∧ y = k
  · rw [if_pos e, e.1, e.2, h]
  · rw [if_neg e]
theorem co_objInit {idx a : Nat} (h1 : Cond.methodLink μ.1.cls idx Lib.objectInit ∈ goodTbl) (h2 : Cond.instanceMethod Lib.objectInit ∈ goodTbl) (h3 : Cond.code Lib.objectInit ⟨#[0xb1]⟩ 1 none ∈ goodTbl) (hdep : 0 < μ.2.2.2.2) (hcat : (rest.map fun v => v.category).sum ≤ 8) (hd : decode μ.2.1 pc = .ok (.invokespecial idx, 3)) (kk : CO w μ C S f (n) (L) (σ) (k) (sl) lv (rest) (pc + 3)) : CO w μ C S f (n) (L) (σ) (k) (sl) lv (.ref (adr w a) :: rest) (pc) := by
  intro p e s m args below meth c H locs ls C0 hP hsz hkn hS hl
  refine W.objInit C0.1.1 C0.1.2.1 C0.1.2.2.2.2.1 (C0.1.2.2.2.2.2.1 _ h1) (C0.1.2.2.2.2.2.1 _ h2) (C0.1.2.2.2.2.2.1 _ h3) rfl (by rw [C0.1.2.2.1]; exact hl.1) rfl hd hdep (by show 2 * 0 + _ + 12 ≤ 48 * _; omega) ?_
  exact W.eq (g2 := F0 m (pc + 3) ls rest) rfl (kk p e s m args below meth c H locs ls C0 hP hsz hkn hS hl)
theorem co_ret (hk : k = C) (hs : sl = S) (hr : μ.2.2.2.1 = none) (hd : decode μ.2.1 pc = .ok (.return_, 1)) (hf : f = (n, L, σ)) : CO w μ C S f (n) (L) (σ) (k) (sl) lv ([]) (pc) := by
  intro p e s m args below meth c H locs ls C0 hP hsz hkn hS hl
  subst hk; subst hs; subst hf
  exact W.vret C0.1.1 C0.1.2.1 (C0.1.2.2.2.1.trans hr) (fun t ht hW => ⟨rfl, by rw [ht]; exact hP, hS.F ht⟩) hS.2.2 hd C0.1.2.2.2.2.2.2.1

/-- an object of class c comes at n: its references are not yet laid -/
theorem co_new {c N idx : Nat} {C1 : String} {T : u_T} {R : PL} (ty : Nat → FieldType) (hty : ∀ j, j < N → parseFieldDescriptor (T j).2.2.1 = some (ty j)) (hws : ∀ w ∈ u_ws C1 T N, w ∈ goodTbl) (hcl : vwCl[c]? = some (C1, T, N)) (hc : c < 12) (hkn0 : kd n = c) (hfr : Fresh σ n)
    (hl0 : Cond.classLink μ.1.cls idx C1 ∈ goodTbl) (hin : Cond.instantiable C1 N ∈ goodTbl) (hii : Cond.initialized C1 ∈ goodTbl) (hR : ∀ q ∈ R, q.1 = n) (hdef : ∀ j, j < N → defaultValue (ty j) = vp_V ((ftl c).map (fun b => if b then Value.null else .int 0)) j) (hRc : ∀ j, j < (ftl c).length → (ftl c)[j]? = some true → R.contains (n, j) = true) (hk : k + 1 ≤ C) (hs : sl + N ≤ S)
    (hd : decode μ.2.1 pc = .ok (.new idx, 3)) (kk : CO w μ C S f (n + 1) (R ++ L) (σ) (k + 1) (sl + N) lv (.ref (adr w n) :: rest) (pc + 3)) : CO w μ C S f (n) (L) (σ) (k) (sl) lv (rest) (pc) := by
  intro p e s m args below meth c0 H locs ls C0 hP hsz hkn hS hl
  refine w_sized (fun hz => ?_)
  have hH := hsize hP hz hsz hkn hS.1
  have hKn := C0.1.2.2.2.2.2.2.2.1.1 c _ hcl
  refine W.newcK (own := μ.1.cls) (C := C1) (n := N) C0.1.1 C0.1.2.1 C0.1.2.2.2.2.1 (C0.1.2.2.2.2.2.1 _ hl0) (C0.1.2.2.2.2.2.1 _ hin) (C0.1.2.2.2.2.2.1 _ hii) rfl hd hk hs hKn.2.1 (h := adr w n) hH fun H1 kC hkC e1 z1 o1 => ?_
  have hold : ∀ a, a < n → entC w (R ++ L) σ a = entC w L σ a := fun a ha => by
    have e : ∀ j, (R ++ L).contains (a, j) = L.contains (a, j) := fun j => by
      rw [Bool.eq_iff_iff, List.contains_iff_mem, List.contains_iff_mem, List.mem_append]
      refine ⟨fun q => q.resolve_left (fun h => ?_), Or.inr⟩
      have := hR _ h
      have : a = n := this
      omega
    unfold entC fldC
    simp only [e]
  have hnew : fldC w (R ++ L) σ c n = (ftl c).map (fun b => if b then Value.null else .int 0) := by
    apply List.ext_getElem?
    intro j
    rw [fldC_get, List.getElem?_map]
    cases hj : (ftl c)[j]? with
    | none => rfl
    | some b =>
      cases b with
      | false => simp [(hfr n (Nat.le_refl n) j).1]
      | true =>
        have h1 := hRc j (List.getElem?_eq_some_iff.mp hj).1 hj
        have h2 : (R ++ L).contains (n, j) = true := by
          rw [List.contains_iff_mem] at h1 ⊢
          exact List.mem_append_left _ h1
        simp only [Option.map_some, h2, if_true]
  have hP1 : va_P (wD w) vwCl (wdC w (n + 1) (R ++ L) σ) H1 := by
    intro i q hq
    by_cases hi : i < n + 1
    · rw [wdC_get hi] at hq
      cases hq
      by_cases hin1 : i < n
      · rw [hold i hin1]
        exact (hP i _ (wdC_get hin1)).kept (o1 _ (by show adr w i < adr w n; unfold adr; omega))
      · have : i = n := by omega
        subst this
        have h9 : entC w (R ++ L) σ i = .inr (c, (ftl c).map (fun b => if b then Value.null else .int 0)) := by
          rw [← hnew]; simp [entC, hkn0, hc]
        rw [h9]
        exact ⟨_, hcl, (u_born ty C0.1.2.2.2.2.2.1 hws hKn hkC e1 hty).to hdef⟩
    · have h1 : (wdC w (n + 1) (R ++ L) σ).length ≤ i := by simp [wdC]; omega
      rw [List.getElem?_eq_none h1] at hq; cases hq
  refine W.eq (g2 := F0 m (pc + 3) ls (.ref (adr w n) :: rest)) rfl ?_
  exact kk p e s m args below meth c0 H1 locs ls C0 hP1 (by omega) (by omega) ⟨by rw [z1]; show _ ≤ adr w n + 1; unfold adr; have := hS.1; omega, fun x h1 h2 => (o1 x (by show x < adr w n; unfold adr; have := hS.1; omega)).trans (hS.2.1 x h1 h2), hS.2.2⟩ hl

end COS
theorem vk_ty {w : Wd} {s : State} (h : KC w s) (t0 : Nat) {cA : ClassId} {ty : FieldType} (ht : (ctys w)[t0]? = some (cA, ty)) : ArrOfT s cA ty ∧ va_RA s cA ty := h.1.2 t0 _ ht
theorem wdC_push {w : Wd} {n : Nat} {L L' : PL} {σ : Mem} {H H1 : Heap} (hP : va_P (wD w) vwCl (wdC w n L σ) H) (ho : ∀ q, q < adr w n → H1[q]? = H[q]?) (hL : ∀ a, a < n → entC w L' σ a = entC w L σ a) (hn : va_at (wD w) vwCl (adr w n, entC w L' σ n) H1) : va_P (wD w) vwCl (wdC w (n + 1) L' σ) H1 := by
  intro i q hq
  by_cases hi : i < n + 1
  · rw [wdC_get hi] at hq
    cases hq
    by_cases hin1 : i < n
    · rw [hL i hin1]
      exact (hP i _ (wdC_get hin1)).kept (ho _ (by show adr w i < adr w n; unfold adr; omega))
    · have : i = n := by omega
      subst this
      exact hn
  · have h1 : (wdC w (n + 1) L' σ).length ≤ i := by simp [wdC]; omega
    rw [List.getElem?_eq_none h1] at hq; cases hq
theorem entC_app {w : Wd} {R L : PL} {σ : Mem} {n : Nat} (hR : ∀ q ∈ R, n ≤ q.1) {a : Nat} (ha : a < n) : entC w (R ++ L) σ a = entC w L σ a := by
  have e : ∀ j, (R ++ L).contains (a, j) = L.contains (a, j) := fun j => by
    rw [Bool.eq_iff_iff, List.contains_iff_mem, List.contains_iff_mem, List.mem_append]
    refine ⟨fun q => q.resolve_left (fun h => ?_), Or.inr⟩
    have := hR _ h
    have : n ≤ a := this
    omega
  unfold entC fldC
  simp only [e]
theorem arrV_cg {c : ClassId} {N : Nat} {f g : Nat → Value} (h : ∀ j, j < N → f j = g j) : arrV c N f = arrV c N g := by
  unfold arrV
  congr 2
  funext j
  exact h j.1 j.2
section COA
variable {w : Wd} {μ : MD} {C S : Nat} {f : FinT} {n : Nat} {L L' : PL} {σ : Mem} {k sl : Nat} {lv lv' : List (Nat × Value)} {rest : List Value} {pc : Nat}
theorem co_newI {z : Int32} {N : Nat} (hk0 : kd n = 12) (hln : ln n = N) (hfr : Fresh σ n) (harr : Cond.arrayClass (newarray.typeOf .int) ∈ goodTbl) (hz0 : ¬ z < 0) (hN : z.toNatClampNeg = N) (hb : N * componentBytes .int ≤ 536870912) (hk : k + 1 ≤ C) (hs : sl + N ≤ S) (hd : decode μ.2.1 pc = .ok (.newarray .int, 2)) (kk : CO w μ C S f (n + 1) (L) (σ) (k + 1) (sl + N) lv (.ref (adr w n) :: rest) (pc + 2)) : CO w μ C S f (n) (L) (σ) (k) (sl) lv (.int z :: rest) (pc) := by
  intro p e s m args below meth c0 H locs ls C0 hP hsz hkn hS hl
  refine w_sized (fun hz => ?_)
  have hH := hsize hP hz hsz hkn hS.1
  refine va_newaK (atype := .int) C0.1.1 C0.1.2.1 (C0.1.2.2.2.2.2.1 _ harr) rfl hd rfl hz0 hN hb hk hs (h := adr w n) hH fun H1 cA e1 z1 o1 hAr hNm => ?_
  have hty := (vk_ty C0.2.2 0 (ty := .int) rfl).2
  have hcA : cA = wcs w 12 := Option.some.inj (hNm.symm.trans hty)
  subst hcA
  have hP1 : va_P (wD w) vwCl (wdC w (n + 1) L σ) H1 := wdC_push hP o1 (fun a ha => rfl) (by
    have h9 : entC w L σ n = .inl (wcs w 12, ln n, .inl (σ.1 n)) := by simp [entC, hk0]
    rw [h9]
    show H1[adr w n]? = some (vp_cell _ (_, .inl _))
    rw [vp_cell_i, e1, hln]
    congr 2
    funext j
    have := (hfr n (Nat.le_refl n) j).1
    rw [this]; rfl)
  refine W.eq (g2 := F0 m (pc + 2) ls (.ref (adr w n) :: rest)) rfl ?_
  exact kk p e s m args below meth c0 H1 locs ls C0 hP1 (by omega) (by omega) ⟨by rw [z1]; show _ ≤ adr w n + 1; unfold adr; have := hS.1; omega, fun x h1 h2 => (o1 x (by show x < adr w n; unfold adr; have := hS.1; omega)).trans (hS.2.1 x h1 h2), hS.2.2⟩ hl

theorem co_newL {z : Int32} {N : Nat} (hk0 : kd n = 13) (hln : ln n = N) (hfr : Fresh σ n) (harr : Cond.arrayClass (newarray.typeOf .long) ∈ goodTbl) (hz0 : ¬ z < 0) (hN : z.toNatClampNeg = N) (hb : N * componentBytes .long ≤ 536870912) (hk : k + 1 ≤ C) (hs : sl + N ≤ S) (hd : decode μ.2.1 pc = .ok (.newarray .long, 2)) (kk : CO w μ C S f (n + 1) (L) (σ) (k + 1) (sl + N) lv (.ref (adr w n) :: rest) (pc + 2)) : CO w μ C S f (n) (L) (σ) (k) (sl) lv (.int z :: rest) (pc) := by
  intro p e s m args below meth c0 H locs ls C0 hP hsz hkn hS hl
  refine w_sized (fun hz => ?_)
  have hH := hsize hP hz hsz hkn hS.1
  refine va_newaK (atype := .long) C0.1.1 C0.1.2.1 (C0.1.2.2.2.2.2.1 _ harr) rfl hd rfl hz0 hN hb hk hs (h := adr w n) hH fun H1 cA e1 z1 o1 hAr hNm => ?_
  have hty := (vk_ty C0.2.2 1 (ty := .long) rfl).2
  have hcA : cA = wcs w 13 := Option.some.inj (hNm.symm.trans hty)
  subst hcA
  have hP1 : va_P (wD w) vwCl (wdC w (n + 1) L σ) H1 := wdC_push hP o1 (fun a ha => rfl) (by
    have h9 : entC w L σ n = .inl (wcs w 13, ln n, .inr (.inl (σ.2 n))) := by simp [entC, hk0]
    rw [h9]
    show H1[adr w n]? = some (vp_cell _ (_, .inr (.inl _)))
    rw [vp_cell_l, e1, hln]
    congr 2
    funext j
    have := (hfr n (Nat.le_refl n) j).2
    rw [this]; rfl)
  refine W.eq (g2 := F0 m (pc + 2) ls (.ref (adr w n) :: rest)) rfl ?_
  exact kk p e s m args below meth c0 H1 locs ls C0 hP1 (by omega) (by omega) ⟨by rw [z1]; show _ ≤ adr w n + 1; unfold adr; have := hS.1; omega, fun x h1 h2 => (o1 x (by show x < adr w n; unfold adr; have := hS.1; omega)).trans (hS.2.1 x h1 h2), hS.2.2⟩ hl

theorem co_anew {c t0 idx : Nat} {C1 : String} {z : Int32} {N : Nat} {R : PL} (hc : 14 ≤ c) (hk0 : kd n = c) (hln : ln n = N) (ht : (ctys w)[t0]? = some (wcs w c, .object C1)) (hao : ∀ s, KC w s → va_AO C1 s) (hR : ∀ q ∈ R, n ≤ q.1) (hRc : ∀ j, j < N → R.contains (n, j) = true) (hl0 : Cond.classLink μ.1.cls idx C1 ∈ goodTbl) (hz0 : ¬ z < 0) (hN : z.toNatClampNeg = N) (hb : N * 4 ≤ 536870912) (hk : k + 1 ≤ C) (hs : sl + N ≤ S) (hd : decode μ.2.1 pc = .ok (.anewarray idx, 3)) (kk : CO w μ C S f (n + 1) (R ++ L) (σ) (k + 1) (sl + N) lv (.ref (adr w n) :: rest) (pc + 3)) : CO w μ C S f (n) (L) (σ) (k) (sl) lv (.int z :: rest) (pc) := by
  intro p e s m args below meth c0 H locs ls C0 hP hsz hkn hS hl
  refine w_sized (fun hz => ?_)
  have hH := hsize hP hz hsz hkn hS.1
  subst hN
  refine W.anew C0.1.1 C0.1.2.1 C0.1.2.2.2.2.1 (C0.1.2.2.2.2.2.1 _ hl0) (va_AO.use (hao s C0.2.2)) rfl hd rfl hz0 hb hk hs fun cA kA comp f1 f2 f3 f4 => ?_
  generalize hH1 : H.push ({ cls := cA, slots := Array.replicate z.toNatClampNeg .null, vm := .none } : Cell) = H1
  have z1 : H1.size = adr w n + 1 := by rw [← hH1, Array.size_push, hH]; rfl
  have e1 : H1[adr w n]? = some (arrV cA z.toNatClampNeg (fun _ => .null)) := by rw [← hH1, show adr w n = H.size from hH.symm, Array.getElem?_push_size, ← arrV_new]
  have o1 : ∀ q : Nat, q < adr w n → H1[q]? = H[q]? := fun q hq => by rw [← hH1, Array.getElem?_push, if_neg (by rw [hH]; exact Nat.ne_of_lt hq)]
  obtain ⟨-, kA', comp', g1, g2, g3, g4⟩ : True ∧ ∃ (kA : Class) (comp : ClassId), s.vm.classes[wcs w c]? = some kA ∧ kA.kind = .array comp (.object C1) ∧ s.vm.findClass C1 = some comp ∧ s.vm.findClass ("[" ++ (FieldType.object C1).toString) = some (wcs w c) := ⟨trivial, (vk_ty C0.2.2 t0 ht).2⟩
  have hcA : cA = wcs w c := Option.some.inj (f1.symm.trans g4)
  subst hcA
  have hP1 : va_P (wD w) vwCl (wdC w (n + 1) (R ++ L) σ) H1 := wdC_push hP o1 (fun a ha => entC_app hR ha) (by
    have h1 : ¬ c < 12 := by omega
    have h2 : ¬ c = 12 := by omega
    have h3 : ¬ c = 13 := by omega
    have h9 : entC w (R ++ L) σ n = .inl (wcs w c, ln n, .inr (.inr (.inr (.inr (fun j => if (R ++ L).contains (n, j) then none else some (adr w (rf n j))))))) := by
      unfold entC; rw [hk0, if_neg h1, if_neg h2, if_neg h3]
    rw [h9]
    show H1[adr w n]? = some (vp_cell _ (_, .inr (.inr (.inr (.inr _)))))
    rw [vp_cell_q, e1, hln]
    congr 1
    apply arrV_cg
    intro j hj
    have h1 := hRc j hj
    have h2 : (R ++ L).contains (n, j) = true := by
      rw [List.contains_iff_mem] at h1 ⊢
      exact List.mem_append_left _ h1
    simp only [h2, if_true]
    rfl)
  have hst : H.size = adr w n := hH
  rw [hst]
  refine W.eq (g2 := F0 m (pc + 3) ls (.ref (adr w n) :: rest)) rfl ?_
  exact kk p e s m args below meth c0 H1 locs ls C0 hP1 (by omega) (by omega) ⟨by rw [z1]; show _ ≤ adr w n + 1; unfold adr; have := hS.1; omega, fun x h1 h2 => (o1 x (by show x < adr w n; unfold adr; have := hS.1; omega)).trans (hS.2.1 x h1 h2), hS.2.2⟩ hl

/-- a reference comes to its place in a row -/
theorem co_aast {c ci t0 a b j : Nat} {q : vw_C} {i : Int32} (hc : 14 ≤ c) (ha : a < n) (hka : kd a = c) (hb : b < n) (hkb : kd b = ci) (hci : ci < 12) (hcl : vwCl[ci]? = some q) (ht : (ctys w)[t0]? = some (wcs w c, .object q.1)) (hi : i.toNatClampNeg = j) (hin : vp_in i (ln a)) (he : rf a j = b) (hL : pdel L a j = L') (hd : decode μ.2.1 pc = .ok (.aastore, 1)) (kk : CO w μ C S f (n) (L') (σ) (k) (sl) lv (rest) (pc + 1)) : CO w μ C S f (n) (L) (σ) (k) (sl) lv (.ref (adr w b) :: .int i :: .ref (adr w a) :: rest) (pc) := by
  intro p e s m args below meth c0 H locs ls C0 hP hsz hkn hS hl
  refine va_astq C0.1.1 C0.1.2.1 C0.1.2.2.2.2.2.2.2.1 hP wdC_D hS a t0 b ci (wdC_refs ha hka hc) ht (wdC_obj hb hkb hci) hcl hin hd (fun H1 locs1 hP1 _ hS1 => ?_)
  have h1 : ¬ c < 12 := by omega
  have h2 : ¬ c = 12 := by omega
  have h3 : ¬ c = 13 := by omega
  have e1 : (adr w a, (Sum.inl (wcs w c, ln a, .inr (.inr (.inr (.inr (va_up (fun j => if L.contains (a, j) then none else some (adr w (rf a j))) i.toNatClampNeg (some (adr w b))))))) : va_E)) = (adr w a, entC w (pdel L a j) σ a) := by
    unfold entC
    rw [hka, if_neg h1, if_neg h2, if_neg h3]
    congr 8
    funext y
    rw [hi]
    unfold va_up
    by_cases hy : y = j
    · subst hy
      rw [if_pos rfl, pdel_self, he]; rfl
    · rw [if_neg hy, pdel_ne (fun q => hy q.2)]
  rw [e1, wdC_set (fun b hb => entC_del hb), hL] at hP1
  exact kk p e s m args below meth c0 H1 locs1 ls C0 hP1 hsz hkn hS1 hl

end COA
theorem KC.moved {w : Wd} {s U : State} (h : KC w s) (hW : s.WarmedH U.vm) (hk : ∀ a : Nat, a < s.heap.size → ¬ mine w a → U.heap[a]? = s.heap[a]?) : KC w U :=
  ⟨va_K.moved hW.alike h.1, h.2.1.moved hW hk, h.2.2.1.moved hW.alike, h.2.2.2.1.moved hW.alike, h.2.2.2.2.moved hW.alike⟩
theorem PcC.blind {w : Wd} {args : List Value} {n : Nat} {L : PL} {σ : Mem} : FrameBlind (PcC w args n L σ) := fun a U g mk h => ⟨h.1, h.2.1, h.2.2.1, va_K.moved (u := U) (U := U.calling g mk a) (Vm.Alike.refl U.vm) h.2.2.2.1, ⟨fun q hq => va_Nw.same rfl rfl (h.2.2.2.2.1.1 q hq), fun q hq => va_Nw.same rfl rfl (h.2.2.2.2.1.2.1 q hq), fun k hk => ⟨(h.2.2.2.2.1.2.2 k hk).1.moved (U := U.calling g mk a) (Vm.Alike.refl U.vm), (h.2.2.2.2.1.2.2 k hk).2.moved (U := U.calling g mk a) (Vm.Alike.refl U.vm)⟩⟩, h.2.2.2.2.2.1.moved (U := U.calling g mk a) (Vm.Alike.refl U.vm), h.2.2.2.2.2.2.1.moved (U := U.calling g mk a) (Vm.Alike.refl U.vm), h.2.2.2.2.2.2.2.moved (U := U.calling g mk a) (Vm.Alike.refl U.vm)⟩
section COC
variable {w : Wd} {μ : MD} {C S : Nat} {f : FinT} {n : Nat} {L L' : PL} {σ : Mem} {k sl : Nat} {lv lv' : List (Nat × Value)} {rest st : List Value} {pc : Nat}
theorem co_pc {p : Program} {s U : State} {m : MethodId} {args : Array Value} {meth : Method} {c : Code} {H : Heap} {locs : List Loc} {As : List Value} (C0 : CXC w μ p s m args meth c) (hP : va_P (wD w) vwCl (wdC w n L σ) H) (hH : H.size = wb w + n) (hS : va_S (mine w) s.heap H locs) (hU : U.heap = H) (hW : s.WarmedH U.vm) : PcC w As n L σ As.toArray U :=
  ⟨rfl, by rw [hU]; exact hP, by rw [hU]; exact hH, C0.2.2.moved hW (fun a h1 h2 => by rw [hU]; exact hS.2.1 a h1 h2)⟩
theorem co_after {C' S' : Nat} {f' : FinT}
    (run : ∀ (p : Program) (e : Env) (s : State) (m : MethodId) (args : Array Value) (below : List Frame) (meth : Method) (c : Code) (H : Heap) (locs : List Loc) (ls : Array Slot), CXC w μ p s m args meth c → va_P (wD w) vwCl (wdC w n L σ) H → H.size = wb w + n → va_S (mine w) s.heap H locs → lv_has ls μ.2.2.1 lv →
      va_Run p w.1 e (rmC μ.2.2.2.2 C S) s m args below meth c H locs k sl C' S' (F0 m pc ls st) rest (QcC w f' #[]) (mine w))
    (hf' : f'.1 = n + C') (cont : CO w μ C S f f'.1 f'.2.1 f'.2.2 (k + C') (sl + S') lv rest (pc + 3)) : CO w μ C S f n L σ k sl lv st pc := by
  intro p e s m args below meth c H locs ls C0 hP hsz hkn hS hl
  refine w_sized (fun hz => ?_)
  have hH := hsize hP hz hsz hkn hS.1
  intro T hT X
  obtain ⟨v, st₀, t, T', L0, h0, X', hL, e1, e2, ⟨hv, hR, hz2, hF⟩, go⟩ := run p e s m args below meth c H locs ls C0 hP hH hS hl T hT X
  cases hv
  rw [h0] at hz2 hF
  obtain ⟨t2, a1, b1⟩ := cont p e s m args below meth c T'.heap (locs ++ L0) ls C0 (by rw [e1]; exact hR) (by omega) (by omega) ⟨Nat.le_trans hS.1 (by rw [e1]; exact hz2), fun q h1 h2 => by rw [e1, hF q (Nat.lt_of_lt_of_le h1 hS.1) h2]; exact hS.2.1 q h1 h2, fun q hq => by
      rcases List.mem_append.mp hq with h | h
      · exact hS.2.2 q h
      · exact hL q h⟩ hl T' rfl X'
  exact ⟨t2, go t2 a1, b1⟩
theorem roomC {μ' : MD} {nn C' S' : Nat} (ok : MOK μ' nn) (hdep : μ'.2.2.2.2 < μ.2.2.2.2) : (rmC μ'.2.2.2.2 C' S').frames + 1 ≤ (rmC μ.2.2.2.2 C S).frames ∧ 8 + (μ'.2.2.1 + 11) + (rmC μ'.2.2.2.2 C' S').locals ≤ (rmC μ.2.2.2.2 C S).locals := by
  have := ok.2.2.2.2
  show μ'.2.2.2.2 + 1 ≤ μ.2.2.2.2 ∧ 8 + (μ'.2.2.1 + 11) + 48 * μ'.2.2.2.2 ≤ 48 * μ.2.2.2.2
  omega
theorem co_call {μ' : MD} {C' S' a idx nn : Nat} {As : List Value} {f' : FinT} (hM : MCC w μ' C' S' (.ref (adr w a) :: As) n L σ f') (ok : MOK μ' nn) (hret : μ'.2.2.2.1 = none) (hname : μ'.1.name = "<init>") (hdep : μ'.2.2.2.2 < μ.2.2.2.2) (hlk : Cond.methodLink μ.1.cls idx μ'.1 ∈ goodTbl) (him : Cond.instanceMethod μ'.1 ∈ goodTbl) (hn : As.length = nn) (hst : As.reverse ++ .ref (adr w a) :: rest = st) (hcat : (rest.map fun v => v.category).sum ≤ 8) (hf' : f'.1 = n + C') (hk : k + C' ≤ C) (hs : sl + S' ≤ S) (hd : decode μ.2.1 pc = .ok (.invokespecial idx, 3)) (cont : CO w μ C S f f'.1 f'.2.1 f'.2.2 (k + C') (sl + S') lv rest (pc + 3)) : CO w μ C S f n L σ k sl lv st pc := by
  refine co_after (fun p e s m args below meth c H locs ls C0 hP hH hS hls => ?_) hf' cont
  have hcb := callB_of (R := rmC μ.2.2.2.2 C S) nn C0.1.2.2.2.2.2.1 (good_sub (wsM_in ok)) rfl rfl rfl (C0.1.2.2.2.2.2.1 _ ok.2.1) (C0.1.2.2.2.2.2.1 _ hlk) ok.2.2.2.1 (roomC (C := C) (S := S) (C' := C') (S' := S') ok hdep)
  rw [hret] at hcb
  exact va_runI (As := As) (Ts := goodTbl) ⟨C0.1.1, C0.1.2.1, C0.1.2.2.1, C0.1.2.2.2.2.1, C0.1.2.2.2.2.2.1⟩ hM ⟨hcb, hname, C0.1.2.2.2.2.2.1 _ him⟩ ⟨PcC.blind, fun U hU hW => co_pc C0 hP hH hS hU hW⟩ rfl hn hls.1 hst.symm (lv_room hcat) hd ⟨hk, hs⟩
theorem co_callN {μ' : MD} {C' S' a idx nn : Nat} {As : List Value} {f' : FinT} {host : String} (hM : MCC w μ' C' S' (.ref (adr w a) :: As) n L σ f') (ok : MOK μ' nn) (hret : μ'.2.2.2.1 = none) (hname : μ'.1.name = "<init>") (hdep : μ'.2.2.2.2 < μ.2.2.2.2) (hlk : (μ.1.cls, idx, μ'.1, host) ∈ nestM) (him : Cond.instanceMethod μ'.1 ∈ goodTbl) (hn : As.length = nn) (hst : As.reverse ++ .ref (adr w a) :: rest = st) (hcat : (rest.map fun v => v.category).sum ≤ 8) (hf' : f'.1 = n + C') (hk : k + C' ≤ C) (hs : sl + S' ≤ S) (hd : decode μ.2.1 pc = .ok (.invokespecial idx, 3)) (cont : CO w μ C S f f'.1 f'.2.1 f'.2.2 (k + C') (sl + S') lv rest (pc + 3)) : CO w μ C S f n L σ k sl lv st pc := by
  refine co_after (fun p e s m args below meth c H locs ls C0 hP hH hS hls => ?_) hf' cont
  have hcb := va_cnB (R := rmC μ.2.2.2.2 C S) nn C0.1.2.2.2.2.2.1 (good_sub (wsM_in ok)) rfl rfl rfl (C0.1.2.2.2.2.2.2.2.2.1 _ hlk) (C0.1.2.2.2.2.2.1 _ ok.2.1) ok.2.2.2.1 (roomC (C := C) (S := S) (C' := C') (S' := S') ok hdep)
  rw [hret] at hcb
  exact va_runIN (As := As) (Ts := goodTbl) ⟨C0.1.1, C0.1.2.1, C0.1.2.2.1, C0.1.2.2.2.2.1, C0.1.2.2.2.2.2.1⟩ hM ⟨hcb, hname, C0.1.2.2.2.2.2.1 _ him⟩ ⟨PcC.blind, fun U hU hW => co_pc C0 hP hH hS hU hW⟩ rfl hn hls.1 hst.symm (lv_room hcat) hd ⟨hk, hs⟩
end COC

section COD
variable {w : Wd} {μ : MD} {C S : Nat} {f : FinT} {n : Nat} {L L' : PL} {σ : Mem} {k sl : Nat} {lv lv' : List (Nat × Value)} {rest st : List Value} {pc : Nat}
/-- a method of objects that are laid already -/
theorem co_callM {μ' : MD} {a ci idx nn : Nat} {As : List Value} {q : vw_C} {σ1 : Mem} (hall : ∀ τ : Mem, wdC w n L τ = wd w τ) (hM : MC w μ' none (.ref (adr w a) :: As) σ σ1) (ok : MOK μ' nn) (hdep : μ'.2.2.2.2 < μ.2.2.2.2)
    (hw : ∀ z ∈ ([.methodLink μ.1.cls idx μ'.1, .instanceMethod μ'.1, .selects μ'.1.cls μ'.1 μ'.1] : List Cond), z ∈ goodTbl) (ha : isk w a ci) (hci : ci < 12) (hcl : vwCl[ci]? = some q) (hq : q.1 = μ'.1.cls) (hn : As.length = nn) (hst : As.reverse ++ .ref (adr w a) :: rest = st) (hcat : (rest.map fun v => v.category).sum ≤ 8) (hk : k ≤ C) (hs : sl ≤ S) (hd : decode μ.2.1 pc = .ok (.invokevirtual idx, 3)) (cont : CO w μ C S f n L σ1 k sl lv rest (pc + 3)) : CO w μ C S f n L σ k sl lv st pc := by
  have run : ∀ (p : Program) (e : Env) (s : State) (m : MethodId) (args : Array Value) (below : List Frame) (meth : Method) (c : Code) (H : Heap) (locs : List Loc) (ls : Array Slot), CXC w μ p s m args meth c → va_P (wD w) vwCl (wdC w n L σ) H → H.size = wb w + n → va_S (mine w) s.heap H locs → lv_has ls μ.2.2.1 lv →
      va_Run p w.1 e (rmC μ.2.2.2.2 C S) s m args below meth c H locs k sl 0 0 (F0 m pc ls st) rest (QcM w none σ1 #[]) (mine w) := fun p e s m args below meth c H locs ls C0 hP hH hS hls => by
    have hR : RH w σ H := by unfold RH; rw [← hall]; exact hP
    have hrec := va_recv C0.1.2.2.2.2.2.2.2.1 hR hcl (wd_obj (σ := σ) ha hci)
    rw [hq] at hrec
    have hrm : (rmD μ'.2.2.2.2).frames + 1 ≤ (rmC μ.2.2.2.2 C S).frames ∧ 8 + (μ'.2.2.1 + 11) + (rmD μ'.2.2.2.2).locals ≤ (rmC μ.2.2.2.2 C S).locals := by
      have := ok.2.2.2.2
      show μ'.2.2.2.2 + 1 ≤ μ.2.2.2.2 ∧ 8 + (μ'.2.2.1 + 11) + 48 * μ'.2.2.2.2 ≤ 48 * μ.2.2.2.2
      omega
    exact va_runV (As := As) (Ts := goodTbl) ⟨C0.1.1, C0.1.2.1, C0.1.2.2.1, C0.1.2.2.2.2.1, C0.1.2.2.2.2.2.1⟩ hM ⟨callB_of nn C0.1.2.2.2.2.2.1 (good_sub (wsM_in ok)) rfl rfl rfl (C0.1.2.2.2.2.2.1 _ ok.2.1) (C0.1.2.2.2.2.2.1 _ (hw _ (by simp))) ok.2.2.2.1 hrm, C0.1.2.2.2.2.2.1 _ (hw _ (by simp)), C0.1.2.2.2.2.2.1 _ (hw _ (by simp))⟩ ⟨PcM.blind, hrec, fun U hU hW => cx_pc C0.1 hR hS hU hW⟩ rfl hn hls.1 hst.symm (lv_room hcat) hd ⟨hk, hs⟩
  intro p e s m args below meth c H locs ls C0 hP hsz hkn hS hl
  refine w_sized (fun hz => ?_)
  have hH := hsize hP hz hsz hkn hS.1
  intro T hT X
  obtain ⟨v, st₀, t, T', L0, h0, X', hL, e1, e2, ⟨hv, hR, hz2, hF⟩, go⟩ := run p e s m args below meth c H locs ls C0 hP hH hS hl T hT X
  cases hv
  rw [h0] at hz2 hF
  obtain ⟨t2, a1, b1⟩ := cont p e s m args below meth c T'.heap (locs ++ L0) ls C0 (by rw [e1, hall]; exact hR) hsz hkn ⟨Nat.le_trans hS.1 (by rw [e1]; exact hz2), fun q h1 h2 => by rw [e1, hF q (Nat.lt_of_lt_of_le h1 hS.1) h2]; exact hS.2.1 q h1 h2, fun q hq => by
      rcases List.mem_append.mp hq with h | h
      · exact hS.2.2 q h
      · exact hL q h⟩ hl T' rfl X'
  exact ⟨t2, go t2 a1, b1⟩
theorem mcc_of {args : List Value} {nn : Nat} (ok : MOK μ nn) (hname : μ.1.name = "<init>") (hlv : lv_args 0 args = lv) (hlen : (lg_sl args).length ≤ μ.2.2.1) (h : CO w μ C S f n L σ 0 0 lv [] 0) : MCC w μ C S args n L σ f := by
  refine Met_ofWF (cc := μ.2.1) (maxL := μ.2.2.1) (ret := μ.2.2.2.1) ok.2.2.1 rfl ?_
  intro p e s m as below meth c s₁ B hml hv
  obtain ⟨rfl, hP, hH, hK⟩ := hv
  rw [lg_entry_eq]
  have hl := lv_entry args (n := μ.2.2.1) hlen
  rw [hlv] at hl
  have hts := atoms_spec (ws := wsM μ) B.pre
  exact h p e s m _ below meth c s.heap [] _ ⟨⟨B.exec, B.bytes, hml, B.returns, findClass_of_methodNamed B.named, fun t ht => hts t (List.mem_cons_of_mem _ ht), B.notSynchronized, hK.1, hK.2.1⟩, (name_of_methodNamed B.named B.method).1.trans hname, hK⟩ hP hH (Nat.zero_le _) va_S.rf hl
theorem outerC_arr (c : ClassId) (N h0 : Nat) : ∀ i : Nat, Jvm.Free.Multi.outerC c N h0 i = arrV c N (fun j => va_rf (if j < i then some (h0 + 1 + j) else none))
  | 0 => by
    show ({ cls := c, slots := Array.replicate N .null, vm := .none } : Cell) = _
    rw [arrV_new]
    refine congrArg (arrV c N) (funext fun j => ?_)
    rw [if_neg (Nat.not_lt_zero j)]
    rfl
  | i + 1 => by
    show (Jvm.Free.Multi.outerC c N h0 i).setSlot i (.ref (h0 + 1 + i)) = _
    rw [outerC_arr c N h0 i, arrV_store]
    refine congrArg (arrV c N) (funext fun j => ?_)
    by_cases e : j = i
    · subst e
      rw [if_pos (Nat.lt_succ_self j)]
      simp [updV, va_rf]
    · by_cases h : j < i
      · simp [updV, e, h, Nat.lt_succ_of_lt h]
      · simp [updV, e, h, show ¬ j < i + 1 by omega]
/-- rows of longs -/
theorem co_mna {z1 z2 : Int32} {N M idx : Nat} (hk0 : kd n = 16) (hln : ln n = N) (hrow : ∀ j, j < N → kd (n + 1 + j) = 13 ∧ ln (n + 1 + j) = M ∧ rf n j = n + 1 + j) (hfr : Fresh σ n) (hLn : ∀ q ∈ L, q.1 < n) (hl0 : Cond.classLink μ.1.cls idx ("[" ++ (FieldType.array .long).toString) ∈ goodTbl) (harr : Cond.arrayClass .long ∈ goodTbl) (h1 : ¬ z1 < 0) (h2 : ¬ z2 < 0) (hN : z1.toNatClampNeg = N) (hM : z2.toNatClampNeg = M) (hb1 : N * 4 ≤ 536870912) (hb2 : M * componentBytes .long ≤ 536870912) (hb3 : M ≤ 536870912) (hk : k + (1 + N) ≤ C) (hs : sl + (N + N * M) ≤ S) (hd : decode μ.2.1 pc = .ok (.multianewarray idx 2, 4)) (kk : CO w μ C S f (n + 1 + N) (L) (σ) (k + 1 + N) (sl + N + N * M) lv (.ref (adr w n) :: rest) (pc + 4)) : CO w μ C S f (n) (L) (σ) (k) (sl) lv (.int z2 :: .int z1 :: rest) (pc) := by
  intro p e s m args below meth c H locs ls C0 hP hsz hkn hS hl
  refine w_sized (fun hz => ?_)
  have hH := hsize hP hz hsz hkn hS.1
  subst hN
  subst hM
  intro T hT Xs
  obtain ⟨vm₁, cA, comp, -, fA, fC, hO, -, X', step⟩ := Xs.multianewarray2F C0.1.1 C0.1.2.2.2.2.1 (C0.1.2.2.2.2.2.1 _ hl0) C0.2.2.2.2.2.2 (C0.1.2.2.2.2.2.1 _ harr) (g := F0 m pc ls (.int z2 :: .int z1 :: rest)) rfl (by rw [C0.1.2.1]; exact hd) rfl h1 h2 hb1 hb2 hb3 (by rfl) (by rfl) hk hs
  have hcA : cA = wcs w 16 := Option.some.inj (fA.symm.trans (vk_ty C0.2.2 4 (ty := .array .long) rfl).2)
  have hcc : comp = wcs w 13 := Option.some.inj (fC.symm.trans (vk_ty C0.2.2 1 (ty := .long) rfl).2)
  subst hcA
  subst hcc
  generalize hF : Jvm.Free.Multi.fill (T.setVm vm₁) (wcs w 16) (wcs w 13) z1.toNatClampNeg z2.toNatClampNeg (defaultValue .long) z1.toNatClampNeg = F at X' step
  have hTh : (T.setVm vm₁).heap = H := hT
  obtain ⟨f1, f2, -, -⟩ := Jvm.Free.Multi.fill_facts (T.setVm vm₁) (wcs w 16) (wcs w 13) z1.toNatClampNeg z2.toNatClampNeg (defaultValue .long) z1.toNatClampNeg
  rw [hF, hTh] at f1 f2
  have hold : ∀ x : Nat, x < H.size → F.heap[x]? = H[x]? := fun x hx => by
    have := Jvm.Free.Multi.fill_old (T.setVm vm₁) (wcs w 16) (wcs w 13) z1.toNatClampNeg z2.toNatClampNeg (defaultValue .long) (a := x) (by rw [hTh]; exact hx) z1.toNatClampNeg
    rw [hF, hTh] at this
    exact this
  have hrw : ∀ j : Nat, j < z1.toNatClampNeg → F.heap[H.size + 1 + j]? = some (Jvm.Free.Multi.innerC (wcs w 13) z2.toNatClampNeg (defaultValue .long)) := fun j hj => by
    have := Jvm.Free.Multi.fill_inner (T.setVm vm₁) (wcs w 16) (wcs w 13) z1.toNatClampNeg z2.toNatClampNeg (defaultValue .long) z1.toNatClampNeg j hj
    rw [hF, hTh] at this
    exact this
  rw [outerC_arr] at f2
  have hP1 : va_P (wD w) vwCl (wdC w (n + 1 + z1.toNatClampNeg) L σ) F.heap := by
    intro i q hq
    by_cases hi : i < n + 1 + z1.toNatClampNeg
    · rw [wdC_get hi] at hq
      cases hq
      by_cases hi1 : i < n
      · exact (hP i _ (wdC_get hi1)).kept (hold _ (by show adr w i < _; unfold adr; omega))
      · by_cases hi2 : i = n
        · subst hi2
          have h9 : entC w L σ i = .inl (wcs w 16, ln i, .inr (.inr (.inr (.inr (fun j => if L.contains (i, j) then none else some (adr w (rf i j))))))) := by
            unfold entC; rw [hk0, if_neg (by decide), if_neg (by decide), if_neg (by decide)]
          rw [h9]
          show F.heap[adr w i]? = some (vp_cell _ (_, .inr (.inr (.inr (.inr _)))))
          rw [vp_cell_q, show adr w i = H.size from hH.symm, f2, hln]
          congr 1
          apply arrV_cg
          intro j hj
          have hc : L.contains (i, j) = false := by
            rw [Bool.eq_false_iff]
            intro hx
            rw [List.contains_iff_mem] at hx
            exact absurd (hLn _ hx) (Nat.lt_irrefl i)
          rw [if_pos hj, hc, (hrow j hj).2.2]
          show va_rf (some (H.size + 1 + j)) = va_rf (some (adr w (i + 1 + j)))
          congr 2
          unfold adr
          omega
        · obtain ⟨j, rfl⟩ : ∃ j, i = n + 1 + j := ⟨i - (n + 1), by omega⟩
          have hj : j < z1.toNatClampNeg := by omega
          obtain ⟨g1, g2, g3⟩ := hrow j hj
          have h9 : entC w L σ (n + 1 + j) = .inl (wcs w 13, ln (n + 1 + j), .inr (.inl (σ.2 (n + 1 + j)))) := by
            unfold entC; rw [g1, if_neg (by decide), if_neg (by decide), if_pos rfl]
          rw [h9]
          show F.heap[adr w (n + 1 + j)]? = some (vp_cell _ (_, .inr (.inl _)))
          rw [vp_cell_l, show adr w (n + 1 + j) = H.size + 1 + j by unfold adr; omega, hrw j hj, g2]
          show some ({ cls := wcs w 13, slots := Array.replicate z2.toNatClampNeg (defaultValue .long), vm := .none } : Cell) = _
          rw [arrV_new]
          congr 1
          apply arrV_cg
          intro y hy
          rw [(hfr (n + 1 + j) (by omega) y).2]
          rfl
    · have h1 : (wdC w (n + 1 + z1.toNatClampNeg) L σ).length ≤ i := by simp [wdC]; omega
      rw [List.getElem?_eq_none h1] at hq; cases hq
  obtain ⟨t, a1, b1⟩ := kk p e s m args below meth c F.heap locs ls C0 hP1 (by omega) (by omega) ⟨by rw [f1]; have := hS.1; omega, fun x h1 h2 => (hold x (Nat.lt_of_lt_of_le h1 hS.1)).trans (hS.2.1 x h1 h2), hS.2.2⟩ hl F rfl X'
  refine ⟨t, step t ?_, b1⟩
  have e : T.heap.size = adr w n := by rw [hT]; exact hH
  rw [e]
  exact a1
end COD

