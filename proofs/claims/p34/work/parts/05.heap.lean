section JOS2
variable {ρ α : Type} {w : Wd} {μ : MD} {tv : ρ → Option Value} {σ : Mem} {lv lv' : List (Nat × Value)} {rest : List Value} {pc : Nat} {x : Option α} {K : α → Option (ρ × Mem)}
/-! reads and writes of fields and rows -/
/-- a place within a row -/
abbrev inb (i : Int32) (n : Nat) : Prop := ¬ (i < 0 ∨ n ≤ i.toNatClampNeg)
def gF (σ : Mem) (a k : Nat) (f : Int32 → Option α) : Option α := f (σ.1 a k)
def pF (σ : Mem) (a k : Nat) (v : Int32) (f : Mem → Option α) : Option α := f (wI σ a k v)
/-- a boolean field's write -/
def pZ (σ : Mem) (a k : Nat) (v : Int32) (f : Mem → Option α) : Option α := if v = 0 ∨ v = 1 then f (wI σ a k v) else none
def gI (σ : Mem) (a : Nat) (i : Int32) (f : Int32 → Option α) : Option α := if inb i (ln a) then f (σ.1 a i.toNatClampNeg) else none
def gL (σ : Mem) (a : Nat) (i : Int32) (f : Int64 → Option α) : Option α := if inb i (ln a) then f (σ.2 a i.toNatClampNeg) else none
def gR (a : Nat) (i : Int32) (f : Nat → Option α) : Option α := if inb i (ln a) then f (rf a i.toNatClampNeg) else none
def pI (σ : Mem) (a : Nat) (i : Int32) (v : Int32) (f : Mem → Option α) : Option α := if inb i (ln a) then f (wI σ a i.toNatClampNeg v) else none
def pL (σ : Mem) (a : Nat) (i : Int32) (v : Int64) (f : Mem → Option α) : Option α := if inb i (ln a) then f (wL σ a i.toNatClampNeg v) else none
def gT (k : Nat) (i : Int32) (f : Int32 → Option α) : Option α := if inb i (tabL k) then f (tab k i.toNatClampNeg) else none
def cI (σ : Mem) (a : Nat) (sp : Int32) (b : Nat) (dp n : Int32) (f : Mem → Option α) : Option α := if (¬ sp < 0 ∧ ¬ dp < 0 ∧ ¬ n < 0) ∧ sp.toNatClampNeg + n.toNatClampNeg ≤ ln a ∧ dp.toNatClampNeg + n.toNatClampNeg ≤ ln b then f (cpI σ a b sp.toNatClampNeg dp.toNatClampNeg n.toNatClampNeg) else none
def cL (σ : Mem) (a : Nat) (sp : Int32) (b : Nat) (dp n : Int32) (f : Mem → Option α) : Option α := if (¬ sp < 0 ∧ ¬ dp < 0 ∧ ¬ n < 0) ∧ sp.toNatClampNeg + n.toNatClampNeg ≤ ln a ∧ dp.toNatClampNeg + n.toNatClampNeg ≤ ln b then f (cpL σ a b sp.toNatClampNeg dp.toNatClampNeg n.toNatClampNeg) else none
theorem if_some {c : Prop} [Decidable c] {β : Type} {y : Option α} {g : α → Option β} {z : β} (h : (if c then y else none).bind g = some z) : c ∧ y.bind g = some z := by
  by_cases hc : c
  · rw [if_pos hc] at h; exact ⟨hc, h⟩
  · rw [if_neg hc] at h; cases h
/-- what is known of a class of the program: its table of fields -/
def FOK (c k : Nat) (C : String) (T : u_T) (N : Nat) (isRef : Bool) : Prop := c < 12 ∧ vwCl[c]? = some (C, T, N) ∧ k < N ∧ (∀ w ∈ u_ws C T N, w ∈ goodTbl) ∧ (ftl c)[k]? = some isRef
def FOKp (c k : Nat) (T : u_T) (N : Nat) (ty : FieldType) : Prop := (∃ ty0 : Nat → FieldType, ∀ j, j < N → parseFieldDescriptor (T j).2.2.1 = some (ty0 j)) ∧ (∀ a, a < N → ∀ b, b < N → a ≠ b → (T a).2.1 ≠ (T b).2.1) ∧ (T k).2.2.2 = false ∧ parseFieldDescriptor (T k).2.2.1 = some ty ∧ k < (ftl c).length
theorem jo_getf {c k : Nat} {C : String} {T : u_T} {N idx a : Nat} {f : Int32 → Option α} (ok : FOK c k C T N false) (hw : isk w a c) (hl : Cond.fieldLink μ.1.cls idx (T k).1 (T k).2.1 (T k).2.2.1 ∈ goodTbl) (hd : decode μ.2.1 pc = .ok (.getfield idx, 3)) (kk : ∀ v : Int32, JO w μ tv σ lv (.int v :: rest) (pc + 3) (f v) K) : JO w μ tv σ lv (.ref (adr w a) :: rest) pc (gF σ a k f) K := by
  intro r σ' hx p e s m args below meth c0 H locs ls C0 hH hS hls
  refine va_get C0.1 C0.2.1 C0.2.2.2.2.2.1 ok.2.2.2.1 C0.2.2.2.2.1 C0.2.2.2.2.2.2.2.1 hH a (wd_obj hw ok.1) ok.2.1 k ok.2.2.1 (C0.2.2.2.2.2.1 _ hl) (fun _ h => h) (v := .int (σ.1 a k)) (by rw [flds_get, ok.2.2.2.2]; rfl) hd ?_
  exact kk _ r σ' hx p e s m args below meth c0 H locs ls C0 hH hS hls
theorem jo_getr {c k : Nat} {C : String} {T : u_T} {N idx a : Nat} (ok : FOK c k C T N true) (hw : isk w a c) (hl : Cond.fieldLink μ.1.cls idx (T k).1 (T k).2.1 (T k).2.2.1 ∈ goodTbl) (hd : decode μ.2.1 pc = .ok (.getfield idx, 3)) (kk : JO w μ tv σ lv (.ref (adr w (rf a k)) :: rest) (pc + 3) x K) : JO w μ tv σ lv (.ref (adr w a) :: rest) pc x K := by
  intro r σ' hx p e s m args below meth c0 H locs ls C0 hH hS hls
  refine va_get C0.1 C0.2.1 C0.2.2.2.2.2.1 ok.2.2.2.1 C0.2.2.2.2.1 C0.2.2.2.2.2.2.2.1 hH a (wd_obj hw ok.1) ok.2.1 k ok.2.2.1 (C0.2.2.2.2.2.1 _ hl) (fun _ h => h) (v := .ref (adr w (rf a k))) (by rw [flds_get, ok.2.2.2.2]; rfl) hd ?_
  exact kk r σ' hx p e s m args below meth c0 H locs ls C0 hH hS hls
theorem jo_putf {c k : Nat} {C : String} {T : u_T} {N idx a : Nat} {v : Int32} {f : Mem → Option α} (ok : FOK c k C T N false) (okp : FOKp c k T N .int) (hw : isk w a c) (hl : Cond.fieldLink μ.1.cls idx (T k).1 (T k).2.1 (T k).2.2.1 ∈ goodTbl) (hd : decode μ.2.1 pc = .ok (.putfield idx, 3)) (kk : ∀ σ1 : Mem, JO w μ tv σ1 lv rest (pc + 3) (f σ1) K) : JO w μ tv σ lv (.int v :: .ref (adr w a) :: rest) pc (pF σ a k v f) K := by
  intro r σ' hx p e s m args below meth c0 H locs ls C0 hH hS hls
  obtain ⟨ty0, hty⟩ := okp.1
  refine va_put C0.1 C0.2.1 C0.2.2.2.2.2.1 ok.2.2.2.1 ty0 hty okp.2.1 C0.2.2.2.2.1 C0.2.2.2.2.2.2.2.1 hH wd_D hS a (wd_obj hw ok.1) ok.2.1 k ok.2.2.1 (C0.2.2.2.2.2.1 _ hl) (fun _ h => h) okp.2.2.1 (v := .int v) okp.2.2.2.1 rfl rfl (by simp [flds]; exact okp.2.2.2.2) hd (fun H1 locs1 hP1 _ hS1 => ?_)
  rw [wd_setF hw ok.1 ok.2.2.2.2] at hP1
  exact kk _ r σ' hx p e s m args below meth c0 H1 locs1 ls C0 hP1 hS1 hls
theorem jo_putz {c k : Nat} {C : String} {T : u_T} {N idx a : Nat} {v : Int32} {f : Mem → Option α} (ok : FOK c k C T N false) (okp : FOKp c k T N .boolean) (hw : isk w a c) (hl : Cond.fieldLink μ.1.cls idx (T k).1 (T k).2.1 (T k).2.2.1 ∈ goodTbl) (hd : decode μ.2.1 pc = .ok (.putfield idx, 3)) (kk : ∀ σ1 : Mem, JO w μ tv σ1 lv rest (pc + 3) (f σ1) K) : JO w μ tv σ lv (.int v :: .ref (adr w a) :: rest) pc (pZ σ a k v f) K := by
  intro r σ' hx p e s m args below meth c0 H locs ls C0 hH hS hls
  obtain ⟨hv, hx⟩ := if_some hx
  obtain ⟨ty0, hty⟩ := okp.1
  refine va_put C0.1 C0.2.1 C0.2.2.2.2.2.1 ok.2.2.2.1 ty0 hty okp.2.1 C0.2.2.2.2.1 C0.2.2.2.2.2.2.2.1 hH wd_D hS a (wd_obj hw ok.1) ok.2.1 k ok.2.2.1 (C0.2.2.2.2.2.1 _ hl) (fun _ h => h) okp.2.2.1 (v := .int v) okp.2.2.2.1 (by rcases hv with rfl | rfl <;> rfl) (by rcases hv with rfl | rfl <;> rfl) (by simp [flds]; exact okp.2.2.2.2) hd (fun H1 locs1 hP1 _ hS1 => ?_)
  rw [wd_setF hw ok.1 ok.2.2.2.2] at hP1
  exact kk _ r σ' hx p e s m args below meth c0 H1 locs1 ls C0 hP1 hS1 hls
theorem jo_iald {a : Nat} {i : Int32} {f : Int32 → Option α} (hw : isk w a 12) (hd : decode μ.2.1 pc = .ok (.iaload, 1)) (kk : ∀ v : Int32, JO w μ tv σ lv (.int v :: rest) (pc + 1) (f v) K) : JO w μ tv σ lv (.int i :: .ref (adr w a) :: rest) pc (gI σ a i f) K := by
  intro r σ' hx p e s m args below meth c0 H locs ls C0 hH hS hls
  obtain ⟨hi, hx⟩ := if_some hx
  exact va_iald C0.1 C0.2.1 C0.2.2.2.2.2.2.2.1 hH a 0 (wd_int hw) rfl hi hd (kk _ r σ' hx p e s m args below meth c0 H locs ls C0 hH hS hls)
theorem jo_lald {a : Nat} {i : Int32} {f : Int64 → Option α} (hw : isk w a 13) (hd : decode μ.2.1 pc = .ok (.laload, 1)) (kk : ∀ v : Int64, JO w μ tv σ lv (.long v :: rest) (pc + 1) (f v) K) : JO w μ tv σ lv (.int i :: .ref (adr w a) :: rest) pc (gL σ a i f) K := by
  intro r σ' hx p e s m args below meth c0 H locs ls C0 hH hS hls
  obtain ⟨hi, hx⟩ := if_some hx
  exact va_lald C0.1 C0.2.1 C0.2.2.2.2.2.2.2.1 hH a 1 (wd_long hw) rfl hi hd (kk _ r σ' hx p e s m args below meth c0 H locs ls C0 hH hS hls)
theorem jo_iast {a : Nat} {i v : Int32} {f : Mem → Option α} (hw : isk w a 12) (hd : decode μ.2.1 pc = .ok (.iastore, 1)) (kk : ∀ σ1 : Mem, JO w μ tv σ1 lv rest (pc + 1) (f σ1) K) : JO w μ tv σ lv (.int v :: .int i :: .ref (adr w a) :: rest) pc (pI σ a i v f) K := by
  intro r σ' hx p e s m args below meth c0 H locs ls C0 hH hS hls
  obtain ⟨hi, hx⟩ := if_some hx
  refine va_iast C0.1 C0.2.1 C0.2.2.2.2.2.2.2.1 hH wd_D hS a 0 (wd_int hw) rfl hi hd (fun H1 locs1 hP1 _ hS1 => ?_)
  rw [wd_setI hw] at hP1
  exact kk _ r σ' hx p e s m args below meth c0 H1 locs1 ls C0 hP1 hS1 hls
theorem jo_last {a : Nat} {i : Int32} {v : Int64} {f : Mem → Option α} (hw : isk w a 13) (hd : decode μ.2.1 pc = .ok (.lastore, 1)) (kk : ∀ σ1 : Mem, JO w μ tv σ1 lv rest (pc + 1) (f σ1) K) : JO w μ tv σ lv (.long v :: .int i :: .ref (adr w a) :: rest) pc (pL σ a i v f) K := by
  intro r σ' hx p e s m args below meth c0 H locs ls C0 hH hS hls
  obtain ⟨hi, hx⟩ := if_some hx
  refine va_last C0.1 C0.2.1 C0.2.2.2.2.2.2.2.1 hH wd_D hS a 1 (wd_long hw) rfl hi hd (fun H1 locs1 hP1 _ hS1 => ?_)
  rw [wd_setL hw] at hP1
  exact kk _ r σ' hx p e s m args below meth c0 H1 locs1 ls C0 hP1 hS1 hls
/-- a reference out of a row of references -/
theorem jo_aald {a c t : Nat} {ty : FieldType} {i : Int32} {f : Nat → Option α} (hw : isk w a c) (hc : 14 ≤ c) (ht : (ctys w)[t]? = some (wcs w c, ty)) (hty : ty.isReference = true) (hd : decode μ.2.1 pc = .ok (.aaload, 1)) (kk : i.toNatClampNeg < ln a → JO w μ tv σ lv (.ref (adr w (rf a i.toNatClampNeg)) :: rest) (pc + 1) (f (rf a i.toNatClampNeg)) K) : JO w μ tv σ lv (.int i :: .ref (adr w a) :: rest) pc (gR a i f) K := by
  intro r σ' hx p e s m args below meth c0 H locs ls C0 hH hS hls
  obtain ⟨hi, hx⟩ := if_some hx
  have hlt : i.toNatClampNeg < ln a := Nat.not_le.mp (fun q => hi (Or.inr q))
  have hcell := hH a _ (wd_refs (σ := σ) hw hc)
  refine W.aald C0.1 C0.2.1 (v := .ref (adr w (rf a i.toNatClampNeg))) hcell ((C0.2.2.2.2.2.2.2.1.2 t _ ht).1 (ln a) (fun j => va_rf (some (adr w (rf a j))))) hty (fun q => by cases q) (by show ¬ (i < 0 ∨ (arrV _ _ _).slots.size ≤ _); rw [arrV_size]; exact hi) ?_ rfl rfl hd (kk hlt r σ' hx p e s m args below meth c0 H locs ls C0 hH hS hls)
  show (arrV _ _ _).slots[_]? = _
  rw [arrV_read _ _ hlt]
  rfl
theorem jo_alenI {a c t : Nat} {ty : FieldType} (hw : isk w a c) (hc : 12 ≤ c) (ht : (ctys w)[t]? = some (wcs w c, ty)) (hd : decode μ.2.1 pc = .ok (.arraylength, 1)) (kk : JO w μ tv σ lv (.int (Int32.ofNat (ln a)) :: rest) (pc + 1) x K) : JO w μ tv σ lv (.ref (adr w a) :: rest) pc x K := by
  intro r σ' hx p e s m args below meth c0 H locs ls C0 hH hS hls
  have k := kk r σ' hx p e s m args below meth c0 H locs ls C0 hH hS hls
  by_cases h12 : c = 12
  · subst h12
    exact va_alen C0.1 C0.2.1 C0.2.2.2.2.2.2.2.1 hH a t (wd_int hw) ht rfl hd k
  · by_cases h13 : c = 13
    · subst h13
      exact va_alen C0.1 C0.2.1 C0.2.2.2.2.2.2.2.1 hH a t (wd_long hw) ht rfl hd k
    · exact va_alen C0.1 C0.2.1 C0.2.2.2.2.2.2.2.1 hH a t (wd_refs hw (by omega)) ht rfl hd k
end JOS2
