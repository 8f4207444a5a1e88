section JOM
variable {ρ α : Type} {w : Wd} {μ : MD} {tv : ρ → Option Value} {σ : Mem} {lv lv' : List (Nat × Value)} {rest st : List Value} {pc : Nat} {x : Option α} {K : α → Option (ρ × Mem)}
def b2i : Bool → Int32 | true => 1 | false => 0
theorem b2i_eq {b : Bool} : b2i b = 0 ↔ b = false := by cases b <;> decide
def vB : Bool → Option Value := fun b => some (.int (b2i b))
theorem all2 {P : Cond → Prop} {a b : Cond} (h1 : P a) (h2 : P b) : ∀ z ∈ [a, b], P z := List.forall_mem_cons.mpr ⟨h1, List.forall_mem_cons.mpr ⟨h2, fun _ h => absurd h List.not_mem_nil⟩⟩
theorem all3 {P : Cond → Prop} {a b c : Cond} (h1 : P a) (h2 : P b) (h3 : P c) : ∀ z ∈ [a, b, c], P z := List.forall_mem_cons.mpr ⟨h1, all2 h2 h3⟩
theorem all4 {P : Cond → Prop} {a b c d : Cond} (h1 : P a) (h2 : P b) (h3 : P c) (h4 : P d) : ∀ z ∈ [a, b, c, d], P z := List.forall_mem_cons.mpr ⟨h1, all3 h2 h3 h4⟩
theorem ws_of {ws : List Cond} (h : ws.all (fun w => lw_tbl.contains w && goodWord w) = true) : ∀ w ∈ ws, w ∈ goodTbl := fun w hw => by
  have h1 := List.all_eq_true.mp h w hw
  simp only [Bool.and_eq_true, List.contains_iff_mem] at h1
  exact List.mem_filter.mpr h1
/-- a boolean out of an int -/
def rB (v : Int32) (f : Bool → Option α) : Option α := if v = 0 then f false else if v = 1 then f true else none
theorem jo_rB {v : Int32} {f : Bool → Option α} (kk : ∀ b, JO w μ tv σ lv (.int (b2i b) :: rest) pc (f b) K) : JO w μ tv σ lv (.int v :: rest) pc (rB v f) K := by
  unfold rB
  by_cases h0 : v = 0
  · rw [if_pos h0, h0]; exact kk false
  · rw [if_neg h0]
    by_cases h1 : v = 1
    · rw [if_pos h1, h1]; exact kk true
    · rw [if_neg h1]; exact jo_none
def gZ (σ : Mem) (a k : Nat) (f : Bool → Option α) : Option α := rB (σ.1 a k) f
theorem jo_getz {c k : Nat} {C : String} {T : u_T} {N idx a : Nat} {f : Bool → Option α} (ok : FOK c k C T N false) (hw : isk w a c) (hl : Cond.fieldLink μ.1.cls idx (T k).1 (T k).2.1 (T k).2.2.1 ∈ goodTbl) (hd : decode μ.2.1 pc = .ok (.getfield idx, 3)) (kk : ∀ b, JO w μ tv σ lv (.int (b2i b) :: rest) (pc + 3) (f b) K) : JO w μ tv σ lv (.ref (adr w a) :: rest) pc (gZ σ a k f) K :=
  jo_getf (f := fun v => rB v f) ok hw hl hd (fun v => jo_rB kk)
theorem jo_getrE {c k : Nat} {C : String} {T : u_T} {N idx a b : Nat} (ok : FOK c k C T N true) (hw : isk w a c) (he : rf a k = b) (hl : Cond.fieldLink μ.1.cls idx (T k).1 (T k).2.1 (T k).2.2.1 ∈ goodTbl) (hd : decode μ.2.1 pc = .ok (.getfield idx, 3)) (kk : JO w μ tv σ lv (.ref (adr w b) :: rest) (pc + 3) x K) : JO w μ tv σ lv (.ref (adr w a) :: rest) pc x K :=
  jo_getr ok hw hl hd (by rw [he]; exact kk)
theorem jo_putz01 {c k : Nat} {C : String} {T : u_T} {N idx a : Nat} {v : Int32} {f : Mem → Option α} (hv : v = 0 ∨ v = 1) (ok : FOK c k C T N false) (okp : FOKp c k T N .boolean) (hw : isk w a c) (hl : Cond.fieldLink μ.1.cls idx (T k).1 (T k).2.1 (T k).2.2.1 ∈ goodTbl) (hd : decode μ.2.1 pc = .ok (.putfield idx, 3)) (kk : ∀ σ1 : Mem, JO w μ tv σ1 lv rest (pc + 3) (f σ1) K) : JO w μ tv σ lv (.int v :: .ref (adr w a) :: rest) pc (pF σ a k v f) K := by
  have h := jo_putz (v := v) (f := f) ok okp hw hl hd kk (σ := σ)
  unfold pZ at h
  rw [if_pos hv] at h
  exact h
theorem jo_putzB {c k : Nat} {C : String} {T : u_T} {N idx a : Nat} {b : Bool} {f : Mem → Option α} (ok : FOK c k C T N false) (okp : FOKp c k T N .boolean) (hw : isk w a c) (hl : Cond.fieldLink μ.1.cls idx (T k).1 (T k).2.1 (T k).2.2.1 ∈ goodTbl) (hd : decode μ.2.1 pc = .ok (.putfield idx, 3)) (kk : ∀ σ1 : Mem, JO w μ tv σ1 lv rest (pc + 3) (f σ1) K) : JO w μ tv σ lv (.int (b2i b) :: .ref (adr w a) :: rest) pc (pF σ a k (b2i b) f) K :=
  jo_putz01 (by cases b; exact Or.inl rfl; exact Or.inr rfl) ok okp hw hl hd kk
theorem jo_aaldG {a c z t : Nat} {ty : FieldType} {i : Int32} {f : Nat → Option α} (hW : WOK w) (hw : isk w a c) (hm : (c, z) ∈ wtE) (ht : (ctys w)[t]? = some (wcs w c, ty)) (hty : ty.isReference = true) (hc : 14 ≤ c) (hd : decode μ.2.1 pc = .ok (.aaload, 1)) (kk : ∀ b, isk w b z → JO w μ tv σ lv (.ref (adr w b) :: rest) (pc + 1) (f b) K) : JO w μ tv σ lv (.int i :: .ref (adr w a) :: rest) pc (gR a i f) K :=
  jo_aald hw hc ht hty hd (fun hlt => kk _ (isk_e hW hw hm hlt))

section BZ
variable {tgt : Nat} {off : Int} {xt xf : Option α} {b : Bool}
theorem jo_ifz_eq (hd : decode μ.2.1 pc = .ok (.ifCond .eq off, 3)) (ht : (pc : Int) + off = (tgt : Int)) (kt : JO w μ tv σ lv rest tgt xt K) (kf : JO w μ tv σ lv rest (pc + 3) xf K) : JO w μ tv σ lv (.int (b2i b) :: rest) pc (if b then xf else xt) K := by
  have h := jo_if_eq (x0 := b2i b) hd ht kt kf
  cases b
  · exact h
  · exact h
theorem jo_ifz_ne (hd : decode μ.2.1 pc = .ok (.ifCond .ne off, 3)) (ht : (pc : Int) + off = (tgt : Int)) (kt : JO w μ tv σ lv rest tgt xt K) (kf : JO w μ tv σ lv rest (pc + 3) xf K) : JO w μ tv σ lv (.int (b2i b) :: rest) pc (if b then xt else xf) K := by
  have h := jo_if_ne (x0 := b2i b) hd ht kt kf
  cases b
  · exact h
  · exact h
end BZ
theorem jo_breturn {K : α → Option (Bool × Mem)} {b : Bool} (hx0 : x.bind K = some (b, σ)) (hr : μ.2.2.2.1 = some .boolean) (hd : decode μ.2.1 pc = .ok (.ireturn, 1)) : JO w μ vB σ lv [.int (b2i b)] pc x K :=
  jo_end hx0 (fun p e s m args below meth c H locs ls C0 hq hf => W.zret C0.1 C0.2.1 (C0.2.2.2.1.trans hr) (nar_z (by cases b; exact Or.inl rfl; exact Or.inr rfl)) hq hf hd C0.2.2.2.2.2.2.1)
/-- joins -/
theorem jo_joinS {S : Type} {y : Option (S ⊕ α)} {ey : S → Option α} (sg : S → Mem) (lvs : S → List (Nat × Value)) (stk : S → List Value) (pcy : Nat) (hy : ∀ s, JO w μ tv (sg s) (lvs s) (stk s) pcy (ey s) K) (hin : (∀ s, JO w μ tv (sg s) (lvs s) (stk s) pcy (ey s) K) → JO w μ tv σ lv st pc y (fun b => (Sum.elim ey some b).bind K)) : JO w μ tv σ lv st pc (y.bind (Sum.elim ey some)) K := jo_bind (hin hy)
theorem jo_join1 {S : Type} {y : Option S} {ey : S → Option α} (sg : S → Mem) (lvs : S → List (Nat × Value)) (stk : S → List Value) (pcy : Nat) (hy : ∀ s, JO w μ tv (sg s) (lvs s) (stk s) pcy (ey s) K) (hin : (∀ s, JO w μ tv (sg s) (lvs s) (stk s) pcy (ey s) K) → JO w μ tv σ lv st pc y (fun b => (ey b).bind K)) : JO w μ tv σ lv st pc (y.bind ey) K := jo_bind (hin hy)
theorem jo_getsN {idx k : Nat} (hk : k < 3) (hl : (μ.1.cls, idx, "HallRegisters", tabN k, "[I", "HallRegisters") ∈ nestF) (hd : decode μ.2.1 pc = .ok (.getstatic idx, 3)) (kk : JO w μ tv σ lv (.ref (wt w k) :: rest) (pc + 3) x K) : JO w μ tv σ lv rest pc x K := by
  intro r σ' hx p e s m args below meth c0 H locs ls C0 hH hS hls
  exact va_getsN C0.1 C0.2.1 (C0.2.2.2.2.2.2.2.2.2.2 k hk).1 hS C0.2.2.2.2.1 (C0.2.2.2.2.2.2.2.2.2.1 _ hl) (fun _ h => h) hd (kk r σ' hx p e s m args below meth c0 H locs ls C0 hH hS hls)
theorem jo_tswHit {dflt lo hi : Int} {offs : Array Int} {len tgt : Nat} {x0 v : Int32} {off : Int} (hd : decode μ.2.1 pc = .ok (.tableswitch dflt lo hi offs, len)) (hv : x0 = v) (h1 : ¬ v.toInt < lo) (h2 : ¬ hi < v.toInt) (ho : offs[(v.toInt - lo).toNat]? = some off) (ht : (pc : Int) + off = (tgt : Int)) (k : JO w μ tv σ lv rest tgt x K) : JO w μ tv σ lv (.int x0 :: rest) pc x K := by
  subst hv; exact jo_tableIn hd h1 h2 ho ht k
theorem jo_lswHit {dflt : Int} {ps : Array (Int × Int)} {len tgt : Nat} {x0 v : Int32} {off : Int} (hd : decode μ.2.1 pc = .ok (.lookupswitch dflt ps, len)) (hv : x0 = v) (hp : (ps.toList.zip (ps.toList.drop 1)).all (fun (a, next) => a.1 < next.1) = true) (ho : Op.lookupswitch.offset ps.toList dflt v.toInt = off) (ht : (pc : Int) + off = (tgt : Int)) (k : JO w μ tv σ lv rest tgt x K) : JO w μ tv σ lv (.int x0 :: rest) pc x K := by
  subst hv; exact jo_lookup hd hp ho ht k
/-- an answer and a memory -/
def bq {β : Type} (fx : Option (β × Mem)) (k : β → Mem → Option α) : Option α := fx.bind (fun q => k q.1 q.2)
end JOM
section JOC
variable {ρ α : Type} {w : Wd} {μ : MD} {tv : ρ → Option Value} {σ : Mem} {lv : List (Nat × Value)} {rest : List Value} {pc : Nat} {K : α → Option (ρ × Mem)} {μ' : MD} {As st : List Value} {idx n : Nat}
theorem mapF {β γ : Type} {f : Option β} {g : β → γ} {k : γ → Option α} : (f.map g).bind k = f.bind (fun b => k (g b)) := by cases f <;> rfl
theorem ofmap {β : Type} {f : Option β} {s : β → Mem} {r1 : β} {σ1 : Mem} (h : f.map (fun b => (b, s b)) = some (r1, σ1)) : f = some r1 ∧ s r1 = σ1 := by
  cases f with
  | none => cases h
  | some b => cases h; exact ⟨rfl, rfl⟩
theorem ofmapV {f : Option Mem} {u : Unit} {σ1 : Mem} (h : f.map (fun b => ((), b)) = some (u, σ1)) : f = some σ1 := by
  cases f with
  | none => cases h
  | some b => cases h; rfl

theorem jo_cV_I_i {a ci : Nat} {fx : Option (Int32 × Mem)} {k : Int32 → Mem → Option α} (hM : ∀ r1 σ1, fx = some (r1, σ1) → MC w μ' (vI r1) (.ref (adr w a) :: As) σ σ1) (ok : MOK μ' n) (hdep : μ'.2.2.2.2 < μ.2.2.2.2) (hw : ∀ z ∈ ([.methodLink μ.1.cls idx μ'.1, .instanceMethod μ'.1, .selects μ'.1.cls μ'.1 μ'.1] : List Cond), z ∈ goodTbl) (ha : isk w a ci) (hci : ci < 12) {q : vw_C} (hcl : vwCl[ci]? = some q) (hq : q.1 = μ'.1.cls) (hn : As.length = n) (hst : As.reverse ++ .ref (adr w a) :: rest = st) (hcat : (rest.map fun v => v.category).sum ≤ 8) (hd : decode μ.2.1 pc = .ok (.invokevirtual idx, 3)) (cont : ∀ r1 σ1, JO w μ tv σ1 lv (.int r1 :: rest) (pc + 3) (k r1 σ1) K) : JO w μ tv σ lv st pc (bq fx k) K :=
  jo_callV (tv' := vI) hM ok hdep hw ha hci hcl hq hn hst hcat hd (fun r1 σ1 => cont r1 σ1)
theorem jo_cV_I_p {a ci : Nat} {fx : Option Int32} {k : Int32 → Option α} (hM : ∀ r1, fx = some r1 → MC w μ' (vI r1) (.ref (adr w a) :: As) σ σ) (ok : MOK μ' n) (hdep : μ'.2.2.2.2 < μ.2.2.2.2) (hw : ∀ z ∈ ([.methodLink μ.1.cls idx μ'.1, .instanceMethod μ'.1, .selects μ'.1.cls μ'.1 μ'.1] : List Cond), z ∈ goodTbl) (ha : isk w a ci) (hci : ci < 12) {q : vw_C} (hcl : vwCl[ci]? = some q) (hq : q.1 = μ'.1.cls) (hn : As.length = n) (hst : As.reverse ++ .ref (adr w a) :: rest = st) (hcat : (rest.map fun v => v.category).sum ≤ 8) (hd : decode μ.2.1 pc = .ok (.invokevirtual idx, 3)) (cont : ∀ r1, JO w μ tv σ lv (.int r1 :: rest) (pc + 3) (k r1) K) : JO w μ tv σ lv st pc (fx.bind k) K := by
  have h := jo_cV_I_i (tv := tv) (lv := lv) (K := K) (fx := fx.map (fun b => (b, σ))) (k := fun r1 σ1 => @dite (Option α) (σ1 = σ) (Classical.propDecidable _) (fun _ => k r1) (fun _ => none)) (fun r1 σ1 h => by obtain ⟨h1, h2⟩ := ofmap h; subst h2; exact hM r1 h1) ok hdep hw ha hci hcl hq hn hst hcat hd (fun r1 σ1 => by
    by_cases e : σ1 = σ
    · subst e; rw [dif_pos rfl]; exact cont r1
    · rw [dif_neg e]; exact jo_none)
  rw [show bq (fx.map (fun b => (b, σ))) (fun r1 σ1 => @dite (Option α) (σ1 = σ) (Classical.propDecidable _) (fun _ => k r1) (fun _ => none)) = fx.bind k by cases fx with | none => rfl | some b => exact dif_pos rfl] at h
  exact h
theorem jo_cV_J_i {a ci : Nat} {fx : Option (Int64 × Mem)} {k : Int64 → Mem → Option α} (hM : ∀ r1 σ1, fx = some (r1, σ1) → MC w μ' (vL r1) (.ref (adr w a) :: As) σ σ1) (ok : MOK μ' n) (hdep : μ'.2.2.2.2 < μ.2.2.2.2) (hw : ∀ z ∈ ([.methodLink μ.1.cls idx μ'.1, .instanceMethod μ'.1, .selects μ'.1.cls μ'.1 μ'.1] : List Cond), z ∈ goodTbl) (ha : isk w a ci) (hci : ci < 12) {q : vw_C} (hcl : vwCl[ci]? = some q) (hq : q.1 = μ'.1.cls) (hn : As.length = n) (hst : As.reverse ++ .ref (adr w a) :: rest = st) (hcat : (rest.map fun v => v.category).sum ≤ 8) (hd : decode μ.2.1 pc = .ok (.invokevirtual idx, 3)) (cont : ∀ r1 σ1, JO w μ tv σ1 lv (.long r1 :: rest) (pc + 3) (k r1 σ1) K) : JO w μ tv σ lv st pc (bq fx k) K :=
  jo_callV (tv' := vL) hM ok hdep hw ha hci hcl hq hn hst hcat hd (fun r1 σ1 => cont r1 σ1)
theorem jo_cV_J_p {a ci : Nat} {fx : Option Int64} {k : Int64 → Option α} (hM : ∀ r1, fx = some r1 → MC w μ' (vL r1) (.ref (adr w a) :: As) σ σ) (ok : MOK μ' n) (hdep : μ'.2.2.2.2 < μ.2.2.2.2) (hw : ∀ z ∈ ([.methodLink μ.1.cls idx μ'.1, .instanceMethod μ'.1, .selects μ'.1.cls μ'.1 μ'.1] : List Cond), z ∈ goodTbl) (ha : isk w a ci) (hci : ci < 12) {q : vw_C} (hcl : vwCl[ci]? = some q) (hq : q.1 = μ'.1.cls) (hn : As.length = n) (hst : As.reverse ++ .ref (adr w a) :: rest = st) (hcat : (rest.map fun v => v.category).sum ≤ 8) (hd : decode μ.2.1 pc = .ok (.invokevirtual idx, 3)) (cont : ∀ r1, JO w μ tv σ lv (.long r1 :: rest) (pc + 3) (k r1) K) : JO w μ tv σ lv st pc (fx.bind k) K := by
  have h := jo_cV_J_i (tv := tv) (lv := lv) (K := K) (fx := fx.map (fun b => (b, σ))) (k := fun r1 σ1 => @dite (Option α) (σ1 = σ) (Classical.propDecidable _) (fun _ => k r1) (fun _ => none)) (fun r1 σ1 h => by obtain ⟨h1, h2⟩ := ofmap h; subst h2; exact hM r1 h1) ok hdep hw ha hci hcl hq hn hst hcat hd (fun r1 σ1 => by
    by_cases e : σ1 = σ
    · subst e; rw [dif_pos rfl]; exact cont r1
    · rw [dif_neg e]; exact jo_none)
  rw [show bq (fx.map (fun b => (b, σ))) (fun r1 σ1 => @dite (Option α) (σ1 = σ) (Classical.propDecidable _) (fun _ => k r1) (fun _ => none)) = fx.bind k by cases fx with | none => rfl | some b => exact dif_pos rfl] at h
  exact h
theorem jo_cV_Z_i {a ci : Nat} {fx : Option (Bool × Mem)} {k : Bool → Mem → Option α} (hM : ∀ r1 σ1, fx = some (r1, σ1) → MC w μ' (vB r1) (.ref (adr w a) :: As) σ σ1) (ok : MOK μ' n) (hdep : μ'.2.2.2.2 < μ.2.2.2.2) (hw : ∀ z ∈ ([.methodLink μ.1.cls idx μ'.1, .instanceMethod μ'.1, .selects μ'.1.cls μ'.1 μ'.1] : List Cond), z ∈ goodTbl) (ha : isk w a ci) (hci : ci < 12) {q : vw_C} (hcl : vwCl[ci]? = some q) (hq : q.1 = μ'.1.cls) (hn : As.length = n) (hst : As.reverse ++ .ref (adr w a) :: rest = st) (hcat : (rest.map fun v => v.category).sum ≤ 8) (hd : decode μ.2.1 pc = .ok (.invokevirtual idx, 3)) (cont : ∀ r1 σ1, JO w μ tv σ1 lv (.int (b2i r1) :: rest) (pc + 3) (k r1 σ1) K) : JO w μ tv σ lv st pc (bq fx k) K :=
  jo_callV (tv' := vB) hM ok hdep hw ha hci hcl hq hn hst hcat hd (fun r1 σ1 => cont r1 σ1)
theorem jo_cV_Z_p {a ci : Nat} {fx : Option Bool} {k : Bool → Option α} (hM : ∀ r1, fx = some r1 → MC w μ' (vB r1) (.ref (adr w a) :: As) σ σ) (ok : MOK μ' n) (hdep : μ'.2.2.2.2 < μ.2.2.2.2) (hw : ∀ z ∈ ([.methodLink μ.1.cls idx μ'.1, .instanceMethod μ'.1, .selects μ'.1.cls μ'.1 μ'.1] : List Cond), z ∈ goodTbl) (ha : isk w a ci) (hci : ci < 12) {q : vw_C} (hcl : vwCl[ci]? = some q) (hq : q.1 = μ'.1.cls) (hn : As.length = n) (hst : As.reverse ++ .ref (adr w a) :: rest = st) (hcat : (rest.map fun v => v.category).sum ≤ 8) (hd : decode μ.2.1 pc = .ok (.invokevirtual idx, 3)) (cont : ∀ r1, JO w μ tv σ lv (.int (b2i r1) :: rest) (pc + 3) (k r1) K) : JO w μ tv σ lv st pc (fx.bind k) K := by
  have h := jo_cV_Z_i (tv := tv) (lv := lv) (K := K) (fx := fx.map (fun b => (b, σ))) (k := fun r1 σ1 => @dite (Option α) (σ1 = σ) (Classical.propDecidable _) (fun _ => k r1) (fun _ => none)) (fun r1 σ1 h => by obtain ⟨h1, h2⟩ := ofmap h; subst h2; exact hM r1 h1) ok hdep hw ha hci hcl hq hn hst hcat hd (fun r1 σ1 => by
    by_cases e : σ1 = σ
    · subst e; rw [dif_pos rfl]; exact cont r1
    · rw [dif_neg e]; exact jo_none)
  rw [show bq (fx.map (fun b => (b, σ))) (fun r1 σ1 => @dite (Option α) (σ1 = σ) (Classical.propDecidable _) (fun _ => k r1) (fun _ => none)) = fx.bind k by cases fx with | none => rfl | some b => exact dif_pos rfl] at h
  exact h
theorem jo_cV_V_i {a ci : Nat} {fx : Option Mem} {k : Mem → Option α} (hM : ∀ σ1, fx = some σ1 → MC w μ' none (.ref (adr w a) :: As) σ σ1) (ok : MOK μ' n) (hdep : μ'.2.2.2.2 < μ.2.2.2.2) (hw : ∀ z ∈ ([.methodLink μ.1.cls idx μ'.1, .instanceMethod μ'.1, .selects μ'.1.cls μ'.1 μ'.1] : List Cond), z ∈ goodTbl) (ha : isk w a ci) (hci : ci < 12) {q : vw_C} (hcl : vwCl[ci]? = some q) (hq : q.1 = μ'.1.cls) (hn : As.length = n) (hst : As.reverse ++ .ref (adr w a) :: rest = st) (hcat : (rest.map fun v => v.category).sum ≤ 8) (hd : decode μ.2.1 pc = .ok (.invokevirtual idx, 3)) (cont : ∀ σ1, JO w μ tv σ1 lv rest (pc + 3) (k σ1) K) : JO w μ tv σ lv st pc (fx.bind k) K := by
  have h := jo_callV (tv' := vV) (fx := fx.map (fun b => ((), b))) (k := fun z => k z.2) (tv := tv) (lv := lv) (K := K) (fun r1 σ1 h => hM σ1 (ofmapV h)) ok hdep hw ha hci hcl hq hn hst hcat hd (fun r1 σ1 => cont σ1)
  rw [mapF] at h
  exact h
theorem jo_cS_I_i {fx : Option (Int32 × Mem)} {k : Int32 → Mem → Option α} (hM : ∀ r1 σ1, fx = some (r1, σ1) → MC w μ' (vI r1) As σ σ1) (ok : MOK μ' n) (hdep : μ'.2.2.2.2 < μ.2.2.2.2) (hw : ∀ z ∈ ([.methodLink μ.1.cls idx μ'.1, .static μ'.1] : List Cond), z ∈ goodTbl) (hn : As.length = n) (hst : As.reverse ++ rest = st) (hcat : (rest.map fun v => v.category).sum ≤ 8) (hd : decode μ.2.1 pc = .ok (.invokestatic idx, 3)) (cont : ∀ r1 σ1, JO w μ tv σ1 lv (.int r1 :: rest) (pc + 3) (k r1 σ1) K) : JO w μ tv σ lv st pc (bq fx k) K :=
  jo_callS (tv' := vI) hM ok hdep hw hn hst hcat hd (fun r1 σ1 => cont r1 σ1)
theorem jo_cS_I_p {fx : Option Int32} {k : Int32 → Option α} (hM : ∀ r1, fx = some r1 → MC w μ' (vI r1) As σ σ) (ok : MOK μ' n) (hdep : μ'.2.2.2.2 < μ.2.2.2.2) (hw : ∀ z ∈ ([.methodLink μ.1.cls idx μ'.1, .static μ'.1] : List Cond), z ∈ goodTbl) (hn : As.length = n) (hst : As.reverse ++ rest = st) (hcat : (rest.map fun v => v.category).sum ≤ 8) (hd : decode μ.2.1 pc = .ok (.invokestatic idx, 3)) (cont : ∀ r1, JO w μ tv σ lv (.int r1 :: rest) (pc + 3) (k r1) K) : JO w μ tv σ lv st pc (fx.bind k) K := by
  have h := jo_cS_I_i (tv := tv) (lv := lv) (K := K) (fx := fx.map (fun b => (b, σ))) (k := fun r1 σ1 => @dite (Option α) (σ1 = σ) (Classical.propDecidable _) (fun _ => k r1) (fun _ => none)) (fun r1 σ1 h => by obtain ⟨h1, h2⟩ := ofmap h; subst h2; exact hM r1 h1) ok hdep hw hn hst hcat hd (fun r1 σ1 => by
    by_cases e : σ1 = σ
    · subst e; rw [dif_pos rfl]; exact cont r1
    · rw [dif_neg e]; exact jo_none)
  rw [show bq (fx.map (fun b => (b, σ))) (fun r1 σ1 => @dite (Option α) (σ1 = σ) (Classical.propDecidable _) (fun _ => k r1) (fun _ => none)) = fx.bind k by cases fx with | none => rfl | some b => exact dif_pos rfl] at h
  exact h
theorem jo_cS_J_i {fx : Option (Int64 × Mem)} {k : Int64 → Mem → Option α} (hM : ∀ r1 σ1, fx = some (r1, σ1) → MC w μ' (vL r1) As σ σ1) (ok : MOK μ' n) (hdep : μ'.2.2.2.2 < μ.2.2.2.2) (hw : ∀ z ∈ ([.methodLink μ.1.cls idx μ'.1, .static μ'.1] : List Cond), z ∈ goodTbl) (hn : As.length = n) (hst : As.reverse ++ rest = st) (hcat : (rest.map fun v => v.category).sum ≤ 8) (hd : decode μ.2.1 pc = .ok (.invokestatic idx, 3)) (cont : ∀ r1 σ1, JO w μ tv σ1 lv (.long r1 :: rest) (pc + 3) (k r1 σ1) K) : JO w μ tv σ lv st pc (bq fx k) K :=
  jo_callS (tv' := vL) hM ok hdep hw hn hst hcat hd (fun r1 σ1 => cont r1 σ1)
theorem jo_cS_J_p {fx : Option Int64} {k : Int64 → Option α} (hM : ∀ r1, fx = some r1 → MC w μ' (vL r1) As σ σ) (ok : MOK μ' n) (hdep : μ'.2.2.2.2 < μ.2.2.2.2) (hw : ∀ z ∈ ([.methodLink μ.1.cls idx μ'.1, .static μ'.1] : List Cond), z ∈ goodTbl) (hn : As.length = n) (hst : As.reverse ++ rest = st) (hcat : (rest.map fun v => v.category).sum ≤ 8) (hd : decode μ.2.1 pc = .ok (.invokestatic idx, 3)) (cont : ∀ r1, JO w μ tv σ lv (.long r1 :: rest) (pc + 3) (k r1) K) : JO w μ tv σ lv st pc (fx.bind k) K := by
  have h := jo_cS_J_i (tv := tv) (lv := lv) (K := K) (fx := fx.map (fun b => (b, σ))) (k := fun r1 σ1 => @dite (Option α) (σ1 = σ) (Classical.propDecidable _) (fun _ => k r1) (fun _ => none)) (fun r1 σ1 h => by obtain ⟨h1, h2⟩ := ofmap h; subst h2; exact hM r1 h1) ok hdep hw hn hst hcat hd (fun r1 σ1 => by
    by_cases e : σ1 = σ
    · subst e; rw [dif_pos rfl]; exact cont r1
    · rw [dif_neg e]; exact jo_none)
  rw [show bq (fx.map (fun b => (b, σ))) (fun r1 σ1 => @dite (Option α) (σ1 = σ) (Classical.propDecidable _) (fun _ => k r1) (fun _ => none)) = fx.bind k by cases fx with | none => rfl | some b => exact dif_pos rfl] at h
  exact h
theorem jo_cS_Z_i {fx : Option (Bool × Mem)} {k : Bool → Mem → Option α} (hM : ∀ r1 σ1, fx = some (r1, σ1) → MC w μ' (vB r1) As σ σ1) (ok : MOK μ' n) (hdep : μ'.2.2.2.2 < μ.2.2.2.2) (hw : ∀ z ∈ ([.methodLink μ.1.cls idx μ'.1, .static μ'.1] : List Cond), z ∈ goodTbl) (hn : As.length = n) (hst : As.reverse ++ rest = st) (hcat : (rest.map fun v => v.category).sum ≤ 8) (hd : decode μ.2.1 pc = .ok (.invokestatic idx, 3)) (cont : ∀ r1 σ1, JO w μ tv σ1 lv (.int (b2i r1) :: rest) (pc + 3) (k r1 σ1) K) : JO w μ tv σ lv st pc (bq fx k) K :=
  jo_callS (tv' := vB) hM ok hdep hw hn hst hcat hd (fun r1 σ1 => cont r1 σ1)
theorem jo_cS_Z_p {fx : Option Bool} {k : Bool → Option α} (hM : ∀ r1, fx = some r1 → MC w μ' (vB r1) As σ σ) (ok : MOK μ' n) (hdep : μ'.2.2.2.2 < μ.2.2.2.2) (hw : ∀ z ∈ ([.methodLink μ.1.cls idx μ'.1, .static μ'.1] : List Cond), z ∈ goodTbl) (hn : As.length = n) (hst : As.reverse ++ rest = st) (hcat : (rest.map fun v => v.category).sum ≤ 8) (hd : decode μ.2.1 pc = .ok (.invokestatic idx, 3)) (cont : ∀ r1, JO w μ tv σ lv (.int (b2i r1) :: rest) (pc + 3) (k r1) K) : JO w μ tv σ lv st pc (fx.bind k) K := by
  have h := jo_cS_Z_i (tv := tv) (lv := lv) (K := K) (fx := fx.map (fun b => (b, σ))) (k := fun r1 σ1 => @dite (Option α) (σ1 = σ) (Classical.propDecidable _) (fun _ => k r1) (fun _ => none)) (fun r1 σ1 h => by obtain ⟨h1, h2⟩ := ofmap h; subst h2; exact hM r1 h1) ok hdep hw hn hst hcat hd (fun r1 σ1 => by
    by_cases e : σ1 = σ
    · subst e; rw [dif_pos rfl]; exact cont r1
    · rw [dif_neg e]; exact jo_none)
  rw [show bq (fx.map (fun b => (b, σ))) (fun r1 σ1 => @dite (Option α) (σ1 = σ) (Classical.propDecidable _) (fun _ => k r1) (fun _ => none)) = fx.bind k by cases fx with | none => rfl | some b => exact dif_pos rfl] at h
  exact h
theorem jo_cS_V_i {fx : Option Mem} {k : Mem → Option α} (hM : ∀ σ1, fx = some σ1 → MC w μ' none As σ σ1) (ok : MOK μ' n) (hdep : μ'.2.2.2.2 < μ.2.2.2.2) (hw : ∀ z ∈ ([.methodLink μ.1.cls idx μ'.1, .static μ'.1] : List Cond), z ∈ goodTbl) (hn : As.length = n) (hst : As.reverse ++ rest = st) (hcat : (rest.map fun v => v.category).sum ≤ 8) (hd : decode μ.2.1 pc = .ok (.invokestatic idx, 3)) (cont : ∀ σ1, JO w μ tv σ1 lv rest (pc + 3) (k σ1) K) : JO w μ tv σ lv st pc (fx.bind k) K := by
  have h := jo_callS (tv' := vV) (fx := fx.map (fun b => ((), b))) (k := fun z => k z.2) (tv := tv) (lv := lv) (K := K) (fun r1 σ1 h => hM σ1 (ofmapV h)) ok hdep hw hn hst hcat hd (fun r1 σ1 => cont σ1)
  rw [mapF] at h
  exact h
theorem jo_cSN_I_i {fx : Option (Int32 × Mem)} {k : Int32 → Mem → Option α} (hM : ∀ r1 σ1, fx = some (r1, σ1) → MC w μ' (vI r1) As σ σ1) (ok : MOK μ' n) (hdep : μ'.2.2.2.2 < μ.2.2.2.2) {host : String} (hnest : (μ.1.cls, idx, μ'.1, host) ∈ nestM) (hw : Cond.static μ'.1 ∈ goodTbl) (hn : As.length = n) (hst : As.reverse ++ rest = st) (hcat : (rest.map fun v => v.category).sum ≤ 8) (hd : decode μ.2.1 pc = .ok (.invokestatic idx, 3)) (cont : ∀ r1 σ1, JO w μ tv σ1 lv (.int r1 :: rest) (pc + 3) (k r1 σ1) K) : JO w μ tv σ lv st pc (bq fx k) K :=
  jo_callSN (tv' := vI) hM ok hdep hnest hw hn hst hcat hd (fun r1 σ1 => cont r1 σ1)
theorem jo_cSN_I_p {fx : Option Int32} {k : Int32 → Option α} (hM : ∀ r1, fx = some r1 → MC w μ' (vI r1) As σ σ) (ok : MOK μ' n) (hdep : μ'.2.2.2.2 < μ.2.2.2.2) {host : String} (hnest : (μ.1.cls, idx, μ'.1, host) ∈ nestM) (hw : Cond.static μ'.1 ∈ goodTbl) (hn : As.length = n) (hst : As.reverse ++ rest = st) (hcat : (rest.map fun v => v.category).sum ≤ 8) (hd : decode μ.2.1 pc = .ok (.invokestatic idx, 3)) (cont : ∀ r1, JO w μ tv σ lv (.int r1 :: rest) (pc + 3) (k r1) K) : JO w μ tv σ lv st pc (fx.bind k) K := by
  have h := jo_cSN_I_i (tv := tv) (lv := lv) (K := K) (fx := fx.map (fun b => (b, σ))) (k := fun r1 σ1 => @dite (Option α) (σ1 = σ) (Classical.propDecidable _) (fun _ => k r1) (fun _ => none)) (fun r1 σ1 h => by obtain ⟨h1, h2⟩ := ofmap h; subst h2; exact hM r1 h1) ok hdep hnest hw hn hst hcat hd (fun r1 σ1 => by
    by_cases e : σ1 = σ
    · subst e; rw [dif_pos rfl]; exact cont r1
    · rw [dif_neg e]; exact jo_none)
  rw [show bq (fx.map (fun b => (b, σ))) (fun r1 σ1 => @dite (Option α) (σ1 = σ) (Classical.propDecidable _) (fun _ => k r1) (fun _ => none)) = fx.bind k by cases fx with | none => rfl | some b => exact dif_pos rfl] at h
  exact h
theorem jo_cSN_J_i {fx : Option (Int64 × Mem)} {k : Int64 → Mem → Option α} (hM : ∀ r1 σ1, fx = some (r1, σ1) → MC w μ' (vL r1) As σ σ1) (ok : MOK μ' n) (hdep : μ'.2.2.2.2 < μ.2.2.2.2) {host : String} (hnest : (μ.1.cls, idx, μ'.1, host) ∈ nestM) (hw : Cond.static μ'.1 ∈ goodTbl) (hn : As.length = n) (hst : As.reverse ++ rest = st) (hcat : (rest.map fun v => v.category).sum ≤ 8) (hd : decode μ.2.1 pc = .ok (.invokestatic idx, 3)) (cont : ∀ r1 σ1, JO w μ tv σ1 lv (.long r1 :: rest) (pc + 3) (k r1 σ1) K) : JO w μ tv σ lv st pc (bq fx k) K :=
  jo_callSN (tv' := vL) hM ok hdep hnest hw hn hst hcat hd (fun r1 σ1 => cont r1 σ1)
theorem jo_cSN_J_p {fx : Option Int64} {k : Int64 → Option α} (hM : ∀ r1, fx = some r1 → MC w μ' (vL r1) As σ σ) (ok : MOK μ' n) (hdep : μ'.2.2.2.2 < μ.2.2.2.2) {host : String} (hnest : (μ.1.cls, idx, μ'.1, host) ∈ nestM) (hw : Cond.static μ'.1 ∈ goodTbl) (hn : As.length = n) (hst : As.reverse ++ rest = st) (hcat : (rest.map fun v => v.category).sum ≤ 8) (hd : decode μ.2.1 pc = .ok (.invokestatic idx, 3)) (cont : ∀ r1, JO w μ tv σ lv (.long r1 :: rest) (pc + 3) (k r1) K) : JO w μ tv σ lv st pc (fx.bind k) K := by
  have h := jo_cSN_J_i (tv := tv) (lv := lv) (K := K) (fx := fx.map (fun b => (b, σ))) (k := fun r1 σ1 => @dite (Option α) (σ1 = σ) (Classical.propDecidable _) (fun _ => k r1) (fun _ => none)) (fun r1 σ1 h => by obtain ⟨h1, h2⟩ := ofmap h; subst h2; exact hM r1 h1) ok hdep hnest hw hn hst hcat hd (fun r1 σ1 => by
    by_cases e : σ1 = σ
    · subst e; rw [dif_pos rfl]; exact cont r1
    · rw [dif_neg e]; exact jo_none)
  rw [show bq (fx.map (fun b => (b, σ))) (fun r1 σ1 => @dite (Option α) (σ1 = σ) (Classical.propDecidable _) (fun _ => k r1) (fun _ => none)) = fx.bind k by cases fx with | none => rfl | some b => exact dif_pos rfl] at h
  exact h
theorem jo_cSN_Z_i {fx : Option (Bool × Mem)} {k : Bool → Mem → Option α} (hM : ∀ r1 σ1, fx = some (r1, σ1) → MC w μ' (vB r1) As σ σ1) (ok : MOK μ' n) (hdep : μ'.2.2.2.2 < μ.2.2.2.2) {host : String} (hnest : (μ.1.cls, idx, μ'.1, host) ∈ nestM) (hw : Cond.static μ'.1 ∈ goodTbl) (hn : As.length = n) (hst : As.reverse ++ rest = st) (hcat : (rest.map fun v => v.category).sum ≤ 8) (hd : decode μ.2.1 pc = .ok (.invokestatic idx, 3)) (cont : ∀ r1 σ1, JO w μ tv σ1 lv (.int (b2i r1) :: rest) (pc + 3) (k r1 σ1) K) : JO w μ tv σ lv st pc (bq fx k) K :=
  jo_callSN (tv' := vB) hM ok hdep hnest hw hn hst hcat hd (fun r1 σ1 => cont r1 σ1)
theorem jo_cSN_Z_p {fx : Option Bool} {k : Bool → Option α} (hM : ∀ r1, fx = some r1 → MC w μ' (vB r1) As σ σ) (ok : MOK μ' n) (hdep : μ'.2.2.2.2 < μ.2.2.2.2) {host : String} (hnest : (μ.1.cls, idx, μ'.1, host) ∈ nestM) (hw : Cond.static μ'.1 ∈ goodTbl) (hn : As.length = n) (hst : As.reverse ++ rest = st) (hcat : (rest.map fun v => v.category).sum ≤ 8) (hd : decode μ.2.1 pc = .ok (.invokestatic idx, 3)) (cont : ∀ r1, JO w μ tv σ lv (.int (b2i r1) :: rest) (pc + 3) (k r1) K) : JO w μ tv σ lv st pc (fx.bind k) K := by
  have h := jo_cSN_Z_i (tv := tv) (lv := lv) (K := K) (fx := fx.map (fun b => (b, σ))) (k := fun r1 σ1 => @dite (Option α) (σ1 = σ) (Classical.propDecidable _) (fun _ => k r1) (fun _ => none)) (fun r1 σ1 h => by obtain ⟨h1, h2⟩ := ofmap h; subst h2; exact hM r1 h1) ok hdep hnest hw hn hst hcat hd (fun r1 σ1 => by
    by_cases e : σ1 = σ
    · subst e; rw [dif_pos rfl]; exact cont r1
    · rw [dif_neg e]; exact jo_none)
  rw [show bq (fx.map (fun b => (b, σ))) (fun r1 σ1 => @dite (Option α) (σ1 = σ) (Classical.propDecidable _) (fun _ => k r1) (fun _ => none)) = fx.bind k by cases fx with | none => rfl | some b => exact dif_pos rfl] at h
  exact h
theorem jo_cSN_V_i {fx : Option Mem} {k : Mem → Option α} (hM : ∀ σ1, fx = some σ1 → MC w μ' none As σ σ1) (ok : MOK μ' n) (hdep : μ'.2.2.2.2 < μ.2.2.2.2) {host : String} (hnest : (μ.1.cls, idx, μ'.1, host) ∈ nestM) (hw : Cond.static μ'.1 ∈ goodTbl) (hn : As.length = n) (hst : As.reverse ++ rest = st) (hcat : (rest.map fun v => v.category).sum ≤ 8) (hd : decode μ.2.1 pc = .ok (.invokestatic idx, 3)) (cont : ∀ σ1, JO w μ tv σ1 lv rest (pc + 3) (k σ1) K) : JO w μ tv σ lv st pc (fx.bind k) K := by
  have h := jo_callSN (tv' := vV) (fx := fx.map (fun b => ((), b))) (k := fun z => k z.2) (tv := tv) (lv := lv) (K := K) (fun r1 σ1 h => hM σ1 (ofmapV h)) ok hdep hnest hw hn hst hcat hd (fun r1 σ1 => cont σ1)
  rw [mapF] at h
  exact h
end JOC
theorem mc_ofP {ρ : Type} {w : Wd} {μ : MD} {tv : ρ → Option Value} {σ : Mem} {args : List Value} {f : Option ρ} {lv : List (Nat × Value)} {n : Nat} (ok : MOK μ n) (hlv : lv_args 0 args = lv) (hlen : (lg_sl args).length ≤ μ.2.2.1) (h : JO w μ tv σ lv [] 0 f (fun z => some (z, σ))) : ∀ r, f = some r → MC w μ (tv r) args σ σ := by
  intro r hf
  exact mc_of (f := f.map (fun z => (z, σ))) ok hlv hlen (fun r' σ' hx => h r' σ' (by rw [← hx]; cases f <;> rfl)) r σ (by rw [hf]; rfl)
theorem mc_ofV {w : Wd} {μ : MD} {σ : Mem} {args : List Value} {f : Option Mem} {lv : List (Nat × Value)} {n : Nat} (ok : MOK μ n) (hlv : lv_args 0 args = lv) (hlen : (lg_sl args).length ≤ μ.2.2.1) (h : JO w μ vV σ lv [] 0 f (fun z => some ((), z))) : ∀ σ', f = some σ' → MC w μ none args σ σ' := by
  intro σ' hf
  exact mc_of (tv := vV) (f := f.map (fun z => ((), z))) ok hlv hlen (fun r' σ' hx => h r' σ' (by rw [← hx]; cases f <;> rfl)) () σ' (by rw [hf]; rfl)
