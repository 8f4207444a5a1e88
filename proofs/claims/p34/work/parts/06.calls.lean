section JOS3
variable {ρ α : Type} {w : Wd} {μ : MD} {tv : ρ → Option Value} {σ : Mem} {lv lv' : List (Nat × Value)} {rest : List Value} {pc : Nat} {x : Option α} {K : α → Option (ρ × Mem)}
theorem jo_gets {idx k : Nat} (hk : k < 3) (hl : Cond.fieldLink μ.1.cls idx "HallRegisters" (tabN k) "[I" ∈ goodTbl) (hd : decode μ.2.1 pc = .ok (.getstatic idx, 3)) (kk : JO w μ tv σ lv (.ref (wt w k) :: rest) (pc + 3) x K) : JO w μ tv σ lv rest pc x K := by
  intro r σ' hx p e s m args below meth c0 H locs ls C0 hH hS hls
  exact va_gets C0.1 C0.2.1 (C0.2.2.2.2.2.2.2.2.2.2 k hk).1 hS C0.2.2.2.2.1 (C0.2.2.2.2.2.1 _ hl) (fun _ h => h) hd (kk r σ' hx p e s m args below meth c0 H locs ls C0 hH hS hls)
theorem jo_tabld {k : Nat} {i : Int32} {f : Int32 → Option α} (hk : k < 3) (hd : decode μ.2.1 pc = .ok (.iaload, 1)) (kk : ∀ v : Int32, JO w μ tv σ lv (.int v :: rest) (pc + 1) (f v) K) : JO w μ tv σ lv (.int i :: .ref (wt w k) :: rest) pc (gT k i f) K := by
  intro r σ' hx p e s m args below meth c0 H locs ls C0 hH hS hls
  obtain ⟨hi, hx⟩ := if_some hx
  obtain ⟨cell, h1, h2, h3, h4, h5, h6, h7⟩ := (C0.2.2.2.2.2.2.2.2.2.2 k hk).2
  have hlt : i.toNatClampNeg < tabL k := Nat.not_le.mp (fun q => hi (Or.inr q))
  have hcell : H[wt w k]? = some cell := by rw [hS.2.1 _ (Array.getElem?_eq_some_iff.mp h1).1 h7]; exact h1
  exact W.iald C0.1 C0.2.1 hcell h2 h3 (fun q => hi (q.imp id (fun z => Nat.le_trans h4 z))) (h6 _ hlt) rfl rfl hd (kk _ r σ' hx p e s m args below meth c0 H locs ls C0 hH hS hls)
theorem jo_tablen {k : Nat} (hk : k < 3) (hd : decode μ.2.1 pc = .ok (.arraylength, 1)) (kk : JO w μ tv σ lv (.int (Int32.ofNat (tabL k)) :: rest) (pc + 1) x K) : JO w μ tv σ lv (.ref (wt w k) :: rest) pc x K := by
  intro r σ' hx p e s m args below meth c0 H locs ls C0 hH hS hls
  obtain ⟨cell, h1, h2, h3, h4, h5, h6, h7⟩ := (C0.2.2.2.2.2.2.2.2.2.2 k hk).2
  have hcell : H[wt w k]? = some cell := by rw [hS.2.1 _ (Array.getElem?_eq_some_iff.mp h1).1 h7]; exact h1
  exact W.alen C0.1 C0.2.1 hcell h2 h5 rfl rfl hd (kk r σ' hx p e s m args below meth c0 H locs ls C0 hH hS hls)
def acWords (own : String) (idx : Nat) : List Cond := [.methodLink own idx arraycopyName, .native arraycopyName, .static arraycopyName, .initialized "java/lang/System"]
theorem jo_acI {idx a b : Nat} {sp dp n : Int32} {f : Mem → Option α} (ha : isk w a 12) (hb : isk w b 12) (hwd : ∀ z ∈ acWords μ.1.cls idx, z ∈ goodTbl) (hdep : 0 < μ.2.2.2.2) (hcat : (rest.map fun v => v.category).sum ≤ 8) (hd : decode μ.2.1 pc = .ok (.invokestatic idx, 3)) (kk : ∀ σ1 : Mem, JO w μ tv σ1 lv rest (pc + 3) (f σ1) K) : JO w μ tv σ lv (.int n :: .int dp :: .ref (adr w b) :: .int sp :: .ref (adr w a) :: rest) pc (cI σ a sp b dp n f) K := by
  intro r σ' hx p e s m args below meth c0 H locs ls C0 hH hS hls
  obtain ⟨⟨⟨h1, h2, h3⟩, h4, h5⟩, hx⟩ := if_some hx
  have hW := fun z hz => C0.2.2.2.2.2.1 z (hwd z hz)
  refine va_copyi C0.1 C0.2.1 (C0.2.2.1.trans hls.1.symm) C0.2.2.2.2.1 (hW _ (by simp [acWords])) (hW _ (by simp [acWords])) (hW _ (by simp [acWords])) (hW _ (by simp [acWords])) C0.2.2.2.2.2.2.2.1 hH wd_D hS a b 0 0 (wd_int ha) (wd_int hb) rfl rfl rfl h1 h2 h3 h4 h5 (fun _ _ => rfl) hdep ?_ hd (fun H1 locs1 hP1 _ hS1 => ?_)
  · have : nativeFrameWords "java/lang/System" "arraycopy" 5 ≤ 20 := by decide +kernel
    show _ ≤ 48 * μ.2.2.2.2
    omega
  · rw [wd_cpI hb] at hP1
    exact kk _ r σ' hx p e s m args below meth c0 H1 locs1 ls C0 hP1 hS1 hls
theorem jo_acL {idx a b : Nat} {sp dp n : Int32} {f : Mem → Option α} (ha : isk w a 13) (hb : isk w b 13) (hwd : ∀ z ∈ acWords μ.1.cls idx, z ∈ goodTbl) (hdep : 0 < μ.2.2.2.2) (hcat : (rest.map fun v => v.category).sum ≤ 8) (hd : decode μ.2.1 pc = .ok (.invokestatic idx, 3)) (kk : ∀ σ1 : Mem, JO w μ tv σ1 lv rest (pc + 3) (f σ1) K) : JO w μ tv σ lv (.int n :: .int dp :: .ref (adr w b) :: .int sp :: .ref (adr w a) :: rest) pc (cL σ a sp b dp n f) K := by
  intro r σ' hx p e s m args below meth c0 H locs ls C0 hH hS hls
  obtain ⟨⟨⟨h1, h2, h3⟩, h4, h5⟩, hx⟩ := if_some hx
  have hW := fun z hz => C0.2.2.2.2.2.1 z (hwd z hz)
  refine va_copyl C0.1 C0.2.1 (C0.2.2.1.trans hls.1.symm) C0.2.2.2.2.1 (hW _ (by simp [acWords])) (hW _ (by simp [acWords])) (hW _ (by simp [acWords])) (hW _ (by simp [acWords])) C0.2.2.2.2.2.2.2.1 hH wd_D hS a b 1 1 (wd_long ha) (wd_long hb) rfl rfl rfl h1 h2 h3 h4 h5 (fun _ _ => rfl) hdep ?_ hd (fun H1 locs1 hP1 _ hS1 => ?_)
  · have : nativeFrameWords "java/lang/System" "arraycopy" 5 ≤ 20 := by decide +kernel
    show _ ≤ 48 * μ.2.2.2.2
    omega
  · rw [wd_cpL hb] at hP1
    exact kk _ r σ' hx p e s m args below meth c0 H1 locs1 ls C0 hP1 hS1 hls
/-- behind a call -/
theorem jo_after {ρ' : Type} {μ' : MD} {tv' : ρ' → Option Value} {fx : Option (ρ' × Mem)} {k : ρ' × Mem → Option α} {As st : List Value}
    (run : ∀ (r1 : ρ') (σ1 : Mem), fx = some (r1, σ1) → ∀ (p : Program) (e : Env) (s : State) (m : MethodId) (args : Array Value) (below : List Frame) (meth : Method) (c : Code) (H : Heap) (locs : List Loc) (ls : Array Slot), CX w μ p s m args meth c → RH w σ H → va_S (mine w) s.heap H locs → lv_has ls μ.2.2.1 lv →
      va_Run p w.1 e (rmD μ.2.2.2.2) s m args below meth c H locs 0 0 0 0 (F0 m pc ls st) rest (QcM w (tv' r1) σ1 #[]) (mine w))
    (cont : ∀ (r1 : ρ') (σ1 : Mem), JO w μ tv σ1 lv ((tv' r1).toList ++ rest) (pc + 3) (k (r1, σ1)) K) : JO w μ tv σ lv st pc (fx.bind k) K := by
  intro r σ' hx p e s m args below meth c H locs ls C0 hH hS hls
  cases hfx : fx with
  | none => rw [hfx] at hx; cases hx
  | some q =>
    obtain ⟨r1, σ1⟩ := q
    rw [hfx] at hx
    intro T hT X
    obtain ⟨v, st₀, t, T', L, h0, X', hL, e1, e2, ⟨hv, hR, hz, hF⟩, go⟩ := run r1 σ1 hfx p e s m args below meth c H locs ls C0 hH hS hls T hT X
    cases hv
    rw [h0] at hz hF
    obtain ⟨t2, a1, b1⟩ := cont r1 σ1 r σ' hx p e s m args below meth c T'.heap (locs ++ L) ls C0 (by rw [e1]; exact hR) ⟨Nat.le_trans hS.1 (by rw [e1]; exact hz), fun q h1 h2 => by rw [e1, hF q (Nat.lt_of_lt_of_le h1 hS.1) h2]; exact hS.2.1 q h1 h2, fun q hq => by
      rcases List.mem_append.mp hq with h | h
      · exact hS.2.2 q h
      · exact hL q h⟩ hls T' rfl X'
    exact ⟨t2, go t2 a1, b1⟩
theorem PcM.blind {args : List Value} : FrameBlind (PcM w args σ) := fun a U g mk h => ⟨h.1, h.2.1, va_K.moved (u := U) (U := U.calling g mk a) (Vm.Alike.refl U.vm) h.2.2.1, ⟨fun q hq => va_Nw.same rfl rfl (h.2.2.2.1 q hq), fun q hq => va_Nw.same rfl rfl (h.2.2.2.2.1 q hq), fun k hk => ⟨(h.2.2.2.2.2 k hk).1.moved (U := U.calling g mk a) (Vm.Alike.refl U.vm), (h.2.2.2.2.2 k hk).2.moved (U := U.calling g mk a) (Vm.Alike.refl U.vm)⟩⟩⟩
theorem cx_pc {p : Program} {s U : State} {m : MethodId} {args : Array Value} {meth : Method} {c : Code} {H : Heap} {locs : List Loc} {As : List Value} (C0 : CX w μ p s m args meth c) (hH : RH w σ H) (hS : va_S (mine w) s.heap H locs) (hU : U.heap = H) (hW : s.WarmedH U.vm) : PcM w As σ As.toArray U :=
  ⟨rfl, by rw [hU]; exact hH, va_K.moved hW.alike C0.2.2.2.2.2.2.2.1, C0.2.2.2.2.2.2.2.2.moved hW (fun a h1 h2 => by rw [hU]; exact hS.2.1 a h1 h2)⟩
theorem good_sub {z : List Cond} (h : ∀ t ∈ z, t ∈ goodTbl) : GoodIn goodTbl z := fun t ht => ⟨h t ht, good_of_word (good_all t (h t ht))⟩
theorem wsM_in {μ' : MD} {n : Nat} (ok : MOK μ' n) : ∀ t ∈ wsM μ', t ∈ goodTbl := fun t ht => by
  rcases List.mem_cons.mp ht with h | h
  · rw [h]; exact ok.1
  · exact h
theorem roomM {μ' : MD} {n : Nat} (ok : MOK μ' n) (hdep : μ'.2.2.2.2 < μ.2.2.2.2) : (rmD μ'.2.2.2.2).frames + 1 ≤ (rmD μ.2.2.2.2).frames ∧ 8 + (μ'.2.2.1 + 11) + (rmD μ'.2.2.2.2).locals ≤ (rmD μ.2.2.2.2).locals := by
  have := ok.2.2.2.2
  show μ'.2.2.2.2 + 1 ≤ μ.2.2.2.2 ∧ 8 + (μ'.2.2.1 + 11) + 48 * μ'.2.2.2.2 ≤ 48 * μ.2.2.2.2
  omega
theorem jo_callV {ρ' : Type} {μ' : MD} {tv' : ρ' → Option Value} {fx : Option (ρ' × Mem)} {k : ρ' × Mem → Option α} {As st : List Value} {idx n a ci : Nat} {q : vw_C}
    (hM : ∀ r1 σ1, fx = some (r1, σ1) → MC w μ' (tv' r1) (.ref (adr w a) :: As) σ σ1) (ok : MOK μ' n) (hdep : μ'.2.2.2.2 < μ.2.2.2.2)
    (hw : ∀ z ∈ ([.methodLink μ.1.cls idx μ'.1, .instanceMethod μ'.1, .selects μ'.1.cls μ'.1 μ'.1] : List Cond), z ∈ goodTbl)
    (ha : isk w a ci) (hci : ci < 12) (hcl : vwCl[ci]? = some q) (hq : q.1 = μ'.1.cls) (hn : As.length = n) (hst : As.reverse ++ .ref (adr w a) :: rest = st) (hcat : (rest.map fun v => v.category).sum ≤ 8) (hd : decode μ.2.1 pc = .ok (.invokevirtual idx, 3))
    (cont : ∀ (r1 : ρ') (σ1 : Mem), JO w μ tv σ1 lv ((tv' r1).toList ++ rest) (pc + 3) (k (r1, σ1)) K) : JO w μ tv σ lv st pc (fx.bind k) K := by
  refine jo_after (tv' := tv') (μ' := μ') (As := As) (fun r1 σ1 hfx p e s m args below meth c H locs ls C0 hH hS hls => ?_) cont
  have hg := good_sub hw
  have hrec := va_recv C0.2.2.2.2.2.2.2.1 hH hcl (wd_obj (σ := σ) ha hci)
  rw [hq] at hrec
  exact va_runV (As := As) (Ts := goodTbl) ⟨C0.1, C0.2.1, C0.2.2.1, C0.2.2.2.2.1, C0.2.2.2.2.2.1⟩ (hM r1 σ1 hfx) ⟨callB_of n C0.2.2.2.2.2.1 (good_sub (wsM_in ok)) rfl rfl rfl (C0.2.2.2.2.2.1 _ ok.2.1) (C0.2.2.2.2.2.1 _ (hw _ (by simp))) ok.2.2.2.1 (roomM ok hdep), C0.2.2.2.2.2.1 _ (hw _ (by simp)), C0.2.2.2.2.2.1 _ (hw _ (by simp))⟩ ⟨PcM.blind, hrec, fun U hU hW => cx_pc C0 hH hS hU hW⟩ rfl hn hls.1 hst.symm (lv_room hcat) hd ⟨Nat.le_refl _, Nat.le_refl _⟩
theorem jo_callS {ρ' : Type} {μ' : MD} {tv' : ρ' → Option Value} {fx : Option (ρ' × Mem)} {k : ρ' × Mem → Option α} {As st : List Value} {idx n : Nat}
    (hM : ∀ r1 σ1, fx = some (r1, σ1) → MC w μ' (tv' r1) As σ σ1) (ok : MOK μ' n) (hdep : μ'.2.2.2.2 < μ.2.2.2.2)
    (hw : ∀ z ∈ ([.methodLink μ.1.cls idx μ'.1, .static μ'.1] : List Cond), z ∈ goodTbl)
    (hn : As.length = n) (hst : As.reverse ++ rest = st) (hcat : (rest.map fun v => v.category).sum ≤ 8) (hd : decode μ.2.1 pc = .ok (.invokestatic idx, 3))
    (cont : ∀ (r1 : ρ') (σ1 : Mem), JO w μ tv σ1 lv ((tv' r1).toList ++ rest) (pc + 3) (k (r1, σ1)) K) : JO w μ tv σ lv st pc (fx.bind k) K := by
  refine jo_after (tv' := tv') (μ' := μ') (As := As) (fun r1 σ1 hfx p e s m args below meth c H locs ls C0 hH hS hls => ?_) cont
  exact va_runS (As := As) (Ts := goodTbl) ⟨C0.1, C0.2.1, C0.2.2.1, C0.2.2.2.2.1, C0.2.2.2.2.2.1⟩ (hM r1 σ1 hfx) ⟨callB_of n C0.2.2.2.2.2.1 (good_sub (wsM_in ok)) rfl rfl rfl (C0.2.2.2.2.2.1 _ ok.2.1) (C0.2.2.2.2.2.1 _ (hw _ (by simp))) ok.2.2.2.1 (roomM ok hdep), C0.2.2.2.2.2.1 _ (hw _ (by simp))⟩ ⟨PcM.blind, fun U hU hW => cx_pc C0 hH hS hU hW⟩ rfl hn hls.1 hst.symm (lv_room hcat) hd ⟨Nat.le_refl _, Nat.le_refl _⟩
/-- a private static of a nest mate -/
theorem jo_callSN {ρ' : Type} {μ' : MD} {tv' : ρ' → Option Value} {fx : Option (ρ' × Mem)} {k : ρ' × Mem → Option α} {As st : List Value} {idx n : Nat} {host : String}
    (hM : ∀ r1 σ1, fx = some (r1, σ1) → MC w μ' (tv' r1) As σ σ1) (ok : MOK μ' n) (hdep : μ'.2.2.2.2 < μ.2.2.2.2)
    (hnest : (μ.1.cls, idx, μ'.1, host) ∈ nestM) (hw : Cond.static μ'.1 ∈ goodTbl)
    (hn : As.length = n) (hst : As.reverse ++ rest = st) (hcat : (rest.map fun v => v.category).sum ≤ 8) (hd : decode μ.2.1 pc = .ok (.invokestatic idx, 3))
    (cont : ∀ (r1 : ρ') (σ1 : Mem), JO w μ tv σ1 lv ((tv' r1).toList ++ rest) (pc + 3) (k (r1, σ1)) K) : JO w μ tv σ lv st pc (fx.bind k) K := by
  refine jo_after (tv' := tv') (μ' := μ') (As := As) (fun r1 σ1 hfx p e s m args below meth c H locs ls C0 hH hS hls => ?_) cont
  exact va_runSN (As := As) (Ts := goodTbl) ⟨C0.1, C0.2.1, C0.2.2.1, C0.2.2.2.2.1, C0.2.2.2.2.2.1⟩ (hM r1 σ1 hfx) ⟨va_cnB n C0.2.2.2.2.2.1 (good_sub (wsM_in ok)) rfl rfl rfl (C0.2.2.2.2.2.2.2.2.1 _ hnest) (C0.2.2.2.2.2.1 _ ok.2.1) ok.2.2.2.1 (roomM ok hdep), C0.2.2.2.2.2.1 _ hw, trivial⟩ ⟨PcM.blind, fun U hU hW => cx_pc C0 hH hS hU hW⟩ rfl hn hls.1 hst.symm (lv_room hcat) hd ⟨Nat.le_refl _, Nat.le_refl _⟩
end JOS3
section JOR
variable {α : Type} {w : Wd} {μ : MD} {σ : Mem} {lv : List (Nat × Value)} {pc : Nat} {x : Option α}
theorem jo_end {ρ : Type} {tv : ρ → Option Value} {K : α → Option (ρ × Mem)} {v : ρ} {st : List Value} (hx0 : x.bind K = some (v, σ))
    (h : ∀ (p : Program) (e : Env) (s : State) (m : MethodId) (args : Array Value) (below : List Frame) (meth : Method) (c : Code) (H : Heap) (locs : List Loc) (ls : Array Slot), CX w μ p s m args meth c → (∀ t : State, t.heap = H → s.WarmedH t.vm → QcM w (tv v) σ args s (.returned (tv v)) t) → (∀ q ∈ locs, mine w q.base) → W p w.1 e (rmD μ.2.2.2.2) s m args below meth c H locs 0 0 (MQ below (QcM w (tv v) σ) args s 0 0 (mine w)) (F0 m pc ls st)) : JO w μ tv σ lv st pc x K := by
  intro r σ' hx p e s m args below meth c H locs ls C0 hH hS hls
  have h0 := hx0.symm.trans hx
  cases h0
  exact h p e s m args below meth c H locs ls C0 (fun t ht hW => ⟨rfl, by rw [ht]; exact hH, hS.F ht⟩) hS.2.2
theorem jo_ireturn {K : α → Option (Int32 × Mem)} {v : Int32} (hx0 : x.bind K = some (v, σ)) (hr : μ.2.2.2.1 = some .int) (hd : decode μ.2.1 pc = .ok (.ireturn, 1)) : JO w μ vI σ lv [.int v] pc x K :=
  jo_end hx0 (fun p e s m args below meth c H locs ls C0 hq hf => W.iret C0.1 C0.2.1 (C0.2.2.2.1.trans hr) hq hf hd C0.2.2.2.2.2.2.1)
theorem nar_z {v : Int32} (h : v = 0 ∨ v = 1) : narrow .boolean (.int v) = .int v := by rcases h with rfl | rfl <;> rfl
/-- a boolean answer -/
def rZ (v : Int32) (y : Option α) : Option α := if v = 0 ∨ v = 1 then y else none
theorem jo_zreturn {K : α → Option (Int32 × Mem)} {v : Int32} (hx0 : x.bind K = some (v, σ)) (hr : μ.2.2.2.1 = some .boolean) (hd : decode μ.2.1 pc = .ok (.ireturn, 1)) : JO w μ vI σ lv [.int v] pc (rZ v x) K := by
  by_cases hv : v = 0 ∨ v = 1
  · rw [show rZ v x = x from if_pos hv]
    exact jo_end hx0 (fun p e s m args below meth c H locs ls C0 hq hf => W.zret C0.1 C0.2.1 (C0.2.2.2.1.trans hr) (nar_z hv) hq hf hd C0.2.2.2.2.2.2.1)
  · rw [show rZ v x = none from if_neg hv]; exact jo_none
theorem jo_zreturnC {K : α → Option (Int32 × Mem)} {v : Int32} (hx0 : x.bind K = some (v, σ)) (hv : v = 0 ∨ v = 1) (hr : μ.2.2.2.1 = some .boolean) (hd : decode μ.2.1 pc = .ok (.ireturn, 1)) : JO w μ vI σ lv [.int v] pc x K :=
  jo_end hx0 (fun p e s m args below meth c H locs ls C0 hq hf => W.zret C0.1 C0.2.1 (C0.2.2.2.1.trans hr) (nar_z hv) hq hf hd C0.2.2.2.2.2.2.1)
theorem jo_lreturn {K : α → Option (Int64 × Mem)} {v : Int64} (hx0 : x.bind K = some (v, σ)) (hr : μ.2.2.2.1 = some .long) (hd : decode μ.2.1 pc = .ok (.lreturn, 1)) : JO w μ vL σ lv [.long v] pc x K :=
  jo_end hx0 (fun p e s m args below meth c H locs ls C0 hq hf => W.lret C0.1 C0.2.1 (C0.2.2.2.1.trans hr) hq hf hd C0.2.2.2.2.2.2.1)
theorem jo_return {K : α → Option (Unit × Mem)} (hx0 : x.bind K = some ((), σ)) (hr : μ.2.2.2.1 = none) (hd : decode μ.2.1 pc = .ok (.return_, 1)) : JO w μ vV σ lv [] pc x K :=
  jo_end hx0 (fun p e s m args below meth c H locs ls C0 hq hf => W.vret C0.1 C0.2.1 (C0.2.2.2.1.trans hr) hq hf hd C0.2.2.2.2.2.2.1)
end JOR
theorem Met_ofWF {l : Launch} {y : MethodName} {ws ws' : List Cond} {rm : Room} {Pc : Array Value → State → Prop} {Qc : Array Value → State → Outcome → State → Prop} {mc ms : Nat} {free : Addr → Prop} {cc : ByteArray} {maxL : Nat} {ret : Option FieldType}
    (hy : plainFor y = true) (hw : ws = Cond.code y cc maxL ret :: ws')
    (body : ∀ p e s m args below meth c s₁, BodyLoose p l y (headSpec ws rm) cc maxL ret e s m args below meth c s₁ → c.maxLocals = maxL → Pc args s →
      W p l e (headSpec ws rm).room s m args below meth c s.heap [] 0 0 (MQ below Qc args s mc ms free) (entryFrame m args maxL)) : Met l y ws rm Pc Qc mc ms free := by
  refine MetFree.of_bodySF (code := cc) (maxLocals := maxL) (ret := ret) hy ?_ ?_
  · intro args s m h hn
    obtain ⟨meth, c, h1, h2, h3, h4, h5, h6, -, -⟩ := Cond.code_spec hn (atoms_spec (ws := ws) h _ (by rw [hw]; exact List.mem_cons_self))
    exact ⟨meth, c, h1, h2, h3, h4, h5, h6⟩
  · intro p e s m args below meth c s₁ B hml hP _
    have hh0 : s₁.heap = s.heap := by rw [B.state]; rfl
    obtain ⟨t, a1, o, b1, b2, b3⟩ := body p e s m args below meth c s₁ B hml hP s₁ hh0 (Stand.of_body B)
    exact ⟨t, o, a1, b1, b2, ⟨b3.1, b3.2⟩⟩
/-- a method's contract out of its walk -/
theorem mc_of {ρ : Type} {w : Wd} {μ : MD} {tv : ρ → Option Value} {σ : Mem} {args : List Value} {f : Option (ρ × Mem)} {lv : List (Nat × Value)} {n : Nat} (ok : MOK μ n) (hlv : lv_args 0 args = lv) (hlen : (lg_sl args).length ≤ μ.2.2.1) (h : JO w μ tv σ lv [] 0 f some) : ∀ r σ', f = some (r, σ') → MC w μ (tv r) args σ σ' := by
  intro r σ' hf
  refine Met_ofWF (cc := μ.2.1) (maxL := μ.2.2.1) (ret := μ.2.2.2.1) ok.2.2.1 rfl ?_
  intro p e s m as below meth c s₁ B hml hv
  obtain ⟨rfl, hH, hK, hZ⟩ := hv
  rw [lg_entry_eq]
  have hl := lv_entry args (n := μ.2.2.1) hlen
  rw [hlv] at hl
  have hts := atoms_spec (ws := wsM μ) B.pre
  exact h r σ' (by rw [hf]; rfl) p e s m _ below meth c s.heap [] _ ⟨B.exec, B.bytes, hml, B.returns, findClass_of_methodNamed B.named, fun t ht => hts t (List.mem_cons_of_mem _ ht), B.notSynchronized, hK, hZ⟩ hH va_S.rf hl
/-! loops -/
def itO {S X : Type} (body : S → Option (S ⊕ X)) : Nat → S → Option X
  | 0, _ => none
  | n + 1, s => (body s).bind (Sum.elim (itO body n) some)
theorem itO_up {S X : Type} {body : S → Option (S ⊕ X)} : ∀ {n : Nat} {s : S} {y : X}, itO body n s = some y → ∀ m, n ≤ m → itO body m s = some y := by
  intro n
  induction n with
  | zero => intro s y h; cases h
  | succ n ih =>
    intro s y h m hm
    obtain ⟨m, rfl⟩ : ∃ k, m = k + 1 := ⟨m - 1, by omega⟩
    simp only [itO] at h ⊢
    cases hb : body s with
    | none => rw [hb] at h; cases h
    | some q =>
      rw [hb] at h
      cases q with
      | inl s' => exact ih h m (by omega)
      | inr x => exact h

noncomputable def loopO {S X : Type} (body : S → Option (S ⊕ X)) (s : S) : Option X := @dite (Option X) (∃ (n : Nat) (y : X), itO body n s = some y) (Classical.propDecidable _) (fun h => some h.choose_spec.choose) (fun _ => none)
theorem loopO_of {S X : Type} {body : S → Option (S ⊕ X)} {s : S} {n : Nat} {y : X} (h : itO body n s = some y) : loopO body s = some y := by
  unfold loopO
  have hx : ∃ (n : Nat) (y : X), itO body n s = some y := ⟨n, y, h⟩
  rw [dif_pos hx]
  have h2 := hx.choose_spec.choose_spec
  have h3 := itO_up h2 _ (Nat.le_max_left _ n)
  have h4 := itO_up h _ (Nat.le_max_right hx.choose n)
  exact h3.symm.trans h4
theorem loopO_it {S X : Type} {body : S → Option (S ⊕ X)} {s : S} {y : X} (h : loopO body s = some y) : ∃ n, itO body n s = some y := by
  unfold loopO at h
  by_cases hx : ∃ (n : Nat) (y : X), itO body n s = some y
  · rw [dif_pos hx] at h
    cases h
    exact ⟨_, hx.choose_spec.choose_spec⟩
  · rw [dif_neg hx] at h; cases h
theorem loopO_eq {S X : Type} (body : S → Option (S ⊕ X)) (s : S) : loopO body s = (body s).bind (Sum.elim (loopO body) some) := by
  have key : ∀ y, (body s).bind (Sum.elim (loopO body) some) = some y → loopO body s = some y := by
    intro y h
    cases hb : body s with
    | none => rw [hb] at h; cases h
    | some q =>
      rw [hb] at h
      cases q with
      | inl s' =>
        obtain ⟨n, hn⟩ := loopO_it (show loopO body s' = some y from h)
        exact loopO_of (n := n + 1) (by simp only [itO, hb]; exact hn)
      | inr x => exact loopO_of (n := 1) (by simp only [itO, hb]; exact h)
  cases hl : loopO body s with
  | some y =>
    obtain ⟨n, hn⟩ := loopO_it hl
    cases n with
    | zero => cases hn
    | succ n =>
      simp only [itO] at hn
      cases hb : body s with
      | none => rw [hb] at hn; cases hn
      | some q =>
        rw [hb] at hn
        cases q with
        | inl s' => exact (loopO_of (show itO body n s' = some y from hn)).symm
        | inr x => exact hn.symm
  | none =>
    cases hr : (body s).bind (Sum.elim (loopO body) some) with
    | none => rfl
    | some y => rw [key y hr] at hl; cases hl
theorem jo_loop {ρ S X : Type} {w : Wd} {μ : MD} {tv : ρ → Option Value} {K : X → Option (ρ × Mem)} {body : S → Option (S ⊕ X)} {pc : Nat} {st : List Value} (mem : S → Mem) (lvs : S → List (Nat × Value))
    (hb : ∀ F : S → Option X, (∀ s, JO w μ tv (mem s) (lvs s) st pc (F s) K) → ∀ s, JO w μ tv (mem s) (lvs s) st pc (body s) (Sum.elim (fun s' => (F s').bind K) K)) (s : S) : JO w μ tv (mem s) (lvs s) st pc (loopO body s) K := by
  have key : ∀ n s, JO w μ tv (mem s) (lvs s) st pc (itO body n s) K := by
    intro n
    induction n with
    | zero => intro s; exact jo_none
    | succ n ih =>
      intro s r σ' hx
      refine hb (itO body n) ih s r σ' ?_
      rw [← hx]
      simp only [itO]
      cases body s with
      | none => rfl
      | some q => cases q <;> rfl
  intro r σ' hx
  cases hl : loopO body s with
  | none => rw [hl] at hx; cases hx
  | some y =>
    obtain ⟨n, hn⟩ := loopO_it hl
    exact key n s r σ' (by rw [hn]; rw [hl] at hx; exact hx)
