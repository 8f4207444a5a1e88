/-! p36: the law's frames: the class's world, behind it the law's own cells -/
section LYW
variable {w : Wd} {μ : MD} {R : Room} {Q : QF} {σ : Mem} {ws : va_W} {k sl : Nat} {lv : List (Nat × Value)} {rest st : List Value} {pc : Nat}
theorem own_own : ∀ q, own w q → own w q := fun _ h => h
theorem dyn_own : ∀ q, dyn w q → own w q := fun q h => Nat.le_trans (Nat.le_add_right _ _) h
theorem wdN_len : (wd w σ).length = wn w := by simp [wd]
theorem sp_r {i : Nat} {q : Nat × va_E} (h : ws[i]? = some q) : (wd w σ ++ ws)[wn w + i]? = some q := by
  rw [List.getElem?_append_right (by rw [wdN_len]; exact Nat.le_add_right _ _), wdN_len, Nat.add_sub_cancel_left]; exact h
theorem sp_P {H : Heap} (h : va_P (wD w) vwCl (wd w σ ++ ws) H) : RH w σ H ∧ va_P (wD w) vwCl ws H :=
  ⟨fun k q hk => h k q (by rw [List.getElem?_append_left (List.getElem?_eq_some_iff.mp hk).1]; exact hk), fun k q hk => h (wn w + k) q (sp_r hk)⟩
theorem sp_D (h : va_D (own w) (wd w σ ++ ws)) : va_D (dyn w) ws := by
  refine ⟨fun i j p q hi hj hpq => ?_, fun k q hk => ?_⟩
  · have := h.1 (wn w + i) (wn w + j) p q (sp_r hi) (sp_r hj) hpq
    omega
  · have hk' := sp_r (w := w) (σ := σ) hk
    have ho : wb w ≤ q.1 := h.2 _ q hk'
    by_cases hq : wb w + wn w ≤ q.1
    · exact hq
    · exfalso
      have hlt : q.1 - wb w < wn w := by omega
      have ha : (wd w σ ++ ws)[q.1 - wb w]? = some (adr w (q.1 - wb w), ent w σ (q.1 - wb w)) := by
        rw [List.getElem?_append_left (by rw [wdN_len]; exact hlt)]; exact wd_get hlt
      have e : adr w (q.1 - wb w) = q.1 := by unfold adr; omega
      have := h.1 _ _ _ _ ha hk' e
      omega
theorem sp_join {H : Heap} (hR : RH w σ H) (hP : va_P (wD w) vwCl ws H) (hD : va_D (dyn w) ws) : va_P (wD w) vwCl (wd w σ ++ ws) H ∧ va_D (own w) (wd w σ ++ ws) :=
  ⟨va_P.app hR hP, va_D.app (wd_D.weaken (fun _ _ _ h => h.1)) (hD.weaken (fun _ q _ h => dyn_own q.1 h)) (fun i j p q hp hq e => by
    have h1 := ((wd_D (w := w) (σ := σ)).2 i p hp).2
    have h2 : wb w + wn w ≤ q.1 := hD.2 j q hq
    omega)⟩
/-- behind a call of the class -/
theorem ly_afterM {r : Option Value} {σ1 : Mem}
    (run : ∀ (p : Program) (e : Env) (s : State) (m : MethodId) (args : Array Value) (below : List Frame) (meth : Method) (c : Code) (H : Heap) (locs : List Loc) (ls : Array Slot), CX w μ p s m args meth c → RH w σ H → va_S (own w) s.heap H locs → lv_has ls μ.2.2.1 lv →
      va_Run p w.1 e R s m args below meth c H locs k sl 0 0 (F0 m pc ls st) rest (QcM w r σ1 #[]) (mine w))
    (cont : LW w μ R (own w) Q (wd w σ1 ++ ws) k sl lv (r.toList ++ rest) (pc + 3)) : LW w μ R (own w) Q (wd w σ ++ ws) k sl lv st pc := by
  intro p e s m args below meth c H locs ls C0 N hA hP hD hS hl T hT X
  obtain ⟨hR0, hP0⟩ := sp_P hP
  have hD0 := sp_D hD
  obtain ⟨v, st₀, t, T', L0, h0, X', hL, e1, e2, ⟨hv, hR1, hz, hF⟩, go⟩ := run p e s m args below meth c H locs ls C0 hR0 hS hl T hT X
  cases hv
  rw [h0] at hz hF
  have hP1 : va_P (wD w) vwCl ws t.heap := hP0.kept (fun k q hk => hF q.1 (va_at.lt (hP0 k q hk)) (fun z => by
    have h1 : wb w + wn w ≤ q.1 := hD0.2 k q hk
    have h2 := z.2
    omega))
  obtain ⟨hP2, hD2⟩ := sp_join hR1 hP1 hD0
  obtain ⟨t2, a1, b1⟩ := cont p e s m args below meth c T'.heap (locs ++ L0) ls C0 N hA (by rw [e1]; exact hP2) hD2 ⟨Nat.le_trans hS.1 (by rw [e1]; exact hz), fun q h1 h2 => by rw [e1, hF q (Nat.lt_of_lt_of_le h1 hS.1) (fun z => h2 z.1)]; exact hS.2.1 q h1 h2, fun q hq => by
      rcases List.mem_append.mp hq with h | h
      · exact hS.2.2 q h
      · exact (hL q h).1⟩ hl T' rfl X'
  exact ⟨t2, go t2 a1, b1⟩
theorem ly_cV {μ' : MD} {r : Option Value} {σ1 : Mem} {As : List Value} {idx n : Nat} (hM : MC w μ' r (.ref (adr w 0) :: As) σ σ1) (ok : MOK μ' n) (hq : RX10 = μ'.1.cls) (hR : μ'.2.2.2.2 + 1 ≤ R.frames ∧ 8 + (μ'.2.2.1 + 11) + 48 * μ'.2.2.2.2 ≤ R.locals)
    (hw : ∀ z ∈ ([.methodLink μ.1.cls idx μ'.1, .instanceMethod μ'.1, .selects μ'.1.cls μ'.1 μ'.1] : List Cond), z ∈ goodTbl) (ha : isk w 0 10) (hn : As.length = n) (hst : As.reverse ++ .ref (adr w 0) :: rest = st) (hcat : (rest.map fun v => v.category).sum ≤ 8) (hk : k ≤ R.cells) (hs : sl ≤ R.slots) (hd : decode μ.2.1 pc = .ok (.invokevirtual idx, 3))
    (cont : LW w μ R (own w) Q (wd w σ1 ++ ws) k sl lv (r.toList ++ rest) (pc + 3)) : LW w μ R (own w) Q (wd w σ ++ ws) k sl lv st pc := by
  refine ly_afterM (fun p e s m args below meth c H locs ls C0 hR0 hS hl => ?_) cont
  have hrec := va_recv C0.2.2.2.2.2.2.2.1 hR0 (show vwCl[10]? = some (RX10, TX10, 17) from rfl) (wd_obj (σ := σ) ha (by decide))
  have hrec2 : ∃ cell : Cell, H[adr w 0]? = some cell ∧ cell.vm.isStatics = false ∧ s.vm.findClass μ'.1.cls = some cell.cls := by rw [← hq]; exact hrec
  exact va_runV (As := As) (Ts := goodTbl) ⟨C0.1, C0.2.1, C0.2.2.1, C0.2.2.2.2.1, C0.2.2.2.2.2.1⟩ hM ⟨callB_of n C0.2.2.2.2.2.1 (good_sub (wsM_in ok)) rfl rfl rfl (C0.2.2.2.2.2.1 _ ok.2.1) (C0.2.2.2.2.2.1 _ (hw _ (by simp))) ok.2.2.2.1 hR, C0.2.2.2.2.2.1 _ (hw _ (by simp)), C0.2.2.2.2.2.1 _ (hw _ (by simp))⟩ ⟨PcM.blind, hrec2, fun U hU hW => pc_own C0 hR0 hS hU hW⟩ rfl hn hl.1 hst.symm (lv_room hcat) hd ⟨hk, hs⟩
theorem ly_cS {μ' : MD} {r : Option Value} {σ1 : Mem} {As : List Value} {idx n : Nat} (hM : MC w μ' r As σ σ1) (ok : MOK μ' n) (hR : μ'.2.2.2.2 + 1 ≤ R.frames ∧ 8 + (μ'.2.2.1 + 11) + 48 * μ'.2.2.2.2 ≤ R.locals)
    (hw : ∀ z ∈ ([.methodLink μ.1.cls idx μ'.1, .static μ'.1] : List Cond), z ∈ goodTbl) (hn : As.length = n) (hst : As.reverse ++ rest = st) (hcat : (rest.map fun v => v.category).sum ≤ 8) (hk : k ≤ R.cells) (hs : sl ≤ R.slots) (hd : decode μ.2.1 pc = .ok (.invokestatic idx, 3))
    (cont : LW w μ R (own w) Q (wd w σ1 ++ ws) k sl lv (r.toList ++ rest) (pc + 3)) : LW w μ R (own w) Q (wd w σ ++ ws) k sl lv st pc := by
  refine ly_afterM (fun p e s m args below meth c H locs ls C0 hR0 hS hl => ?_) cont
  exact va_runS (As := As) (Ts := goodTbl) ⟨C0.1, C0.2.1, C0.2.2.1, C0.2.2.2.2.1, C0.2.2.2.2.2.1⟩ hM ⟨callB_of n C0.2.2.2.2.2.1 (good_sub (wsM_in ok)) rfl rfl rfl (C0.2.2.2.2.2.1 _ ok.2.1) (C0.2.2.2.2.2.1 _ (hw _ (by simp))) ok.2.2.2.1 hR, C0.2.2.2.2.2.1 _ (hw _ (by simp))⟩ ⟨PcM.blind, fun U hU hW => pc_own C0 hR0 hS hU hW⟩ rfl hn hl.1 hst.symm (lv_room hcat) hd ⟨hk, hs⟩
theorem sp_set {i : Nat} {y : Nat × va_E} : (wd w σ ++ ws).set (wn w + i) y = wd w σ ++ ws.set i y := by
  rw [List.set_append_right _ _ (by rw [wdN_len]; exact Nat.le_add_right _ _), wdN_len, Nat.add_sub_cancel_left]
theorem sp_app {X : va_W} : (wd w σ ++ ws) ++ X = wd w σ ++ (ws ++ X) := List.append_assoc ..
end LYW
