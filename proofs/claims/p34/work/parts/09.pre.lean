theorem ltb {a b : Nat} (h : Nat.blt a b = true) : a < b := Nat.blt_eq.mp h
/-! a call above more than eight words of the operand stack -/
section WIDE
variable {p : Program} {l : Launch} {e : Env} {R : Room} {s : State} {m : MethodId} {args : Array Value} {below : List Frame} {meth : Method} {c : Code} {H : Heap} {locs : List Loc} {cells slots : Nat}
  {Ts ws ws' : List Cond} {cc bytes : ByteArray} {nL maxL index n mc ms : Nat} {own C : String} {y : MethodName} {ret : Option FieldType} {rm : Room} {Pc : Array Value → State → Prop} {Qc : Array Value → State → Outcome → State → Prop} {free : Addr → Prop}
  {b : Addr} {As rest : List Value} {g : JFrame}
theorem runVW (S : CallFix p m c cc nL s args Ts own) (hM : Met l y ws rm Pc Qc mc ms free) (cw : CallW R s args own C index y bytes maxL ret ws rm mc ms n) (hlo : 16 + (maxL + 11) + rm.locals ≤ R.locals) (hp : PreV s H C b Pc As)
    (hg : g.method = m) (hn : As.length = n) (hsize : g.locals.size = nL) (hstack : g.stack = As.reverse ++ .ref b :: rest) (hW : 2 * g.monitorRoom + (rest.map fun v => v.category).sum ≤ 16) (hdg : decode cc g.pc = .ok (.invokevirtual index, 3)) (hf : cells + mc ≤ R.cells ∧ slots + ms ≤ R.slots) :
    va_Run p l e R s m args below meth c H locs cells slots mc ms g rest (Qc (Value.ref b :: As).toArray) (free) := by
  have hK : Back l R p e below s args y 3 16 (PreOf R mc ms Pc) (PostOf Qc mc ms free) := by
    obtain ⟨hrc, hrs, hfr, -, hws, hcw, -, hini, -⟩ := cw.1
    exact back_of (bytes := bytes) (maxL := maxL) (ret := ret) hM hp.1 hrc hrs hfr hlo hws hcw (fun a' U hW => word_at hW (Or.inl (by first | rfl | simp [Cond.onTables, Cond.keeps, Cond.steady])) hini)
  obtain ⟨⟨-, -, -, -, -, -, hcode, -, hy, hlen, hl⟩, hin, hse⟩ := cw
  obtain ⟨hx, hb, hml, ho, -⟩ := S
  obtain ⟨-, ⟨cellB, hcB, hoB, hclB⟩, hPc⟩ := hp
  intro T hT X
  obtain ⟨v, vm₁, ⟨U', l2, c2, s2⟩, hW₁, X', ⟨g', mk, t, L, e1, e2, hq, h1, hL, h2, h3⟩, st⟩ := callV X hx (C := C) (bytes := bytes) (maxL := maxL) (ret := ret) ho hl hin hse hcode hy hK (by rw [hT]; exact hcB) hoB hclB hg (hsize.trans hml.symm) (argsL := As) (rest := rest) (fun sig h => hn.trans (hlen sig h)) hstack hW (by rw [hb]; exact hdg)
    (fun vm₁ hW₁ => ⟨hf.1, hf.2, hPc (T.setVm vm₁) hT hW₁⟩)
  dsimp only [Pt.U, Pt.locs, Pt.cells, Pt.slots] at X' e1 e2 h1 h2 h3 st
  subst h1; subst h2; subst h3
  exact ⟨v, (T.setVm vm₁).calling g' mk (Value.ref b :: As).toArray, t, U', L, hT, X', hL, e1, e2, hq, st⟩
end WIDE
section WIDE2
variable {ρ α : Type} {w : Wd} {μ : MD} {tv : ρ → Option Value} {σ : Mem} {lv : List (Nat × Value)} {rest : List Value} {pc : Nat} {K : α → Option (ρ × Mem)} {μ' : MD} {As st : List Value} {idx n : Nat}
theorem jo_callVW {ρ' : Type} {tv' : ρ' → Option Value} {fx : Option (ρ' × Mem)} {k : ρ' × Mem → Option α} {a ci : Nat} {q : vw_C}
    (hM : ∀ r1 σ1, fx = some (r1, σ1) → MC w μ' (tv' r1) (.ref (adr w a) :: As) σ σ1) (ok : MOK μ' n) (hdep : μ'.2.2.2.2 < μ.2.2.2.2)
    (hw : ∀ z ∈ ([.methodLink μ.1.cls idx μ'.1, .instanceMethod μ'.1, .selects μ'.1.cls μ'.1 μ'.1] : List Cond), z ∈ goodTbl)
    (ha : isk w a ci) (hci : ci < 12) (hcl : vwCl[ci]? = some q) (hq : q.1 = μ'.1.cls) (hn : As.length = n) (hst : As.reverse ++ .ref (adr w a) :: rest = st) (hcat : (rest.map fun v => v.category).sum ≤ 16) (hd : decode μ.2.1 pc = .ok (.invokevirtual idx, 3))
    (cont : ∀ (r1 : ρ') (σ1 : Mem), JO w μ tv σ1 lv ((tv' r1).toList ++ rest) (pc + 3) (k (r1, σ1)) K) : JO w μ tv σ lv st pc (fx.bind k) K := by
  refine jo_after (tv' := tv') (μ' := μ') (As := As) (fun r1 σ1 hfx p e s m args below meth c H locs ls C0 hH hS hls => ?_) cont
  have hrec := va_recv C0.2.2.2.2.2.2.2.1 hH hcl (wd_obj (σ := σ) ha hci)
  rw [hq] at hrec
  exact runVW (As := As) (Ts := goodTbl) ⟨C0.1, C0.2.1, C0.2.2.1, C0.2.2.2.2.1, C0.2.2.2.2.2.1⟩ (hM r1 σ1 hfx) ⟨callB_of n C0.2.2.2.2.2.1 (good_sub (wsM_in ok)) rfl rfl rfl (C0.2.2.2.2.2.1 _ ok.2.1) (C0.2.2.2.2.2.1 _ (hw _ (by simp))) ok.2.2.2.1 (roomM ok hdep), C0.2.2.2.2.2.1 _ (hw _ (by simp)), C0.2.2.2.2.2.1 _ (hw _ (by simp))⟩ (by have := ok.2.2.2.2; show 16 + (μ'.2.2.1 + 11) + 48 * μ'.2.2.2.2 ≤ 48 * μ.2.2.2.2; omega) ⟨PcM.blind, hrec, fun U hU hW => cx_pc C0 hH hS hU hW⟩ rfl hn hls.1 hst.symm (by show 2 * 0 + _ ≤ 16; omega) hd ⟨Nat.le_refl _, Nat.le_refl _⟩
theorem jo_cV_J_pW {a ci : Nat} {fx : Option Int64} {k : Int64 → Option α} (hM : ∀ r1, fx = some r1 → MC w μ' (vL r1) (.ref (adr w a) :: As) σ σ) (ok : MOK μ' n) (hdep : μ'.2.2.2.2 < μ.2.2.2.2) (hw : ∀ z ∈ ([.methodLink μ.1.cls idx μ'.1, .instanceMethod μ'.1, .selects μ'.1.cls μ'.1 μ'.1] : List Cond), z ∈ goodTbl) (ha : isk w a ci) (hci : ci < 12) {q : vw_C} (hcl : vwCl[ci]? = some q) (hq : q.1 = μ'.1.cls) (hn : As.length = n) (hst : As.reverse ++ .ref (adr w a) :: rest = st) (hcat : (rest.map fun v => v.category).sum ≤ 16) (hd : decode μ.2.1 pc = .ok (.invokevirtual idx, 3)) (cont : ∀ r1, JO w μ tv σ lv (.long r1 :: rest) (pc + 3) (k r1) K) : JO w μ tv σ lv st pc (fx.bind k) K := by
  have h := jo_callVW (tv' := vL) (tv := tv) (lv := lv) (K := K) (fx := fx.map (fun b => (b, σ))) (k := fun z => @dite (Option α) (z.2 = σ) (Classical.propDecidable _) (fun _ => k z.1) (fun _ => none)) (fun r1 σ1 h => by obtain ⟨h1, h2⟩ := ofmap h; subst h2; exact hM r1 h1) ok hdep hw ha hci hcl hq hn hst hcat hd (fun r1 σ1 => by
    by_cases e : σ1 = σ
    · subst e; rw [dif_pos rfl]; exact cont r1
    · rw [dif_neg e]; exact jo_none)
  rw [show (fx.map (fun b => (b, σ))).bind (fun z => @dite (Option α) (z.2 = σ) (Classical.propDecidable _) (fun _ => k z.1) (fun _ => none)) = fx.bind k by cases fx with | none => rfl | some b => exact dif_pos rfl] at h
  exact h
end WIDE2
