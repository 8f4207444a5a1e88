/-! p36: calls between frames over cells -/
section LYC
variable {w : Wd} {μ : MD} {R : Room} {F : Nat → Prop} {Q : QF} {L : va_W} {k sl : Nat} {lv : List (Nat × Value)} {rest st : List Value} {pc : Nat}
theorem PJ.blind {args : List Value} : FrameBlind (PJ w F args L) := fun a U g mk h => ⟨h.1, h.2.1, h.2.2.1, h.2.2.2.1, va_K.moved (u := U) (U := U.calling g mk a) (Vm.Alike.refl U.vm) h.2.2.2.2.1, ⟨fun q hq => va_Nw.same rfl rfl (h.2.2.2.2.2.1 q hq), fun q hq => va_Nw.same rfl rfl (h.2.2.2.2.2.2.1 q hq), fun k hk => ⟨(h.2.2.2.2.2.2.2.1 k hk).1.moved (U := U.calling g mk a) (Vm.Alike.refl U.vm), (h.2.2.2.2.2.2.2.1 k hk).2.moved (U := U.calling g mk a) (Vm.Alike.refl U.vm)⟩, h.2.2.2.2.2.2.2.2.moved (U := U.calling g mk a) (Vm.Alike.refl U.vm) (fun z => z.same rfl) (fun _ _ _ => rfl)⟩⟩
theorem pj_pc {p : Program} {s U : State} {m : MethodId} {args : Array Value} {meth : Method} {c : Code} {H : Heap} {locs : List Loc} {As : List Value} (hFo : ∀ q, F q → own w q) (C0 : CX w μ p s m args meth c) (hA : ∀ q, s.heap.size ≤ q → F q) (hP : va_P (wD w) vwCl L H) (hD : va_D F L) (hS : va_S F s.heap H locs) (hU : U.heap = H) (hW : s.WarmedH U.vm) : PJ w F As L As.toArray U :=
  ⟨rfl, by rw [hU]; exact hP, hD, fun q hq => hA q (Nat.le_trans hS.1 (by rw [← hU]; exact hq)), va_K.moved hW.alike C0.2.2.2.2.2.2.2.1, C0.2.2.2.2.2.2.2.2.movedO hW (fun a h1 h2 => by rw [hU]; exact hS.2.1 a h1 (fun z => h2 (hFo a z)))⟩
/-- behind a call that is told by cells -/
theorem ly_after {μ' : MD} {mc ms : Nat} {As : List Value} {post : Option Value → va_W → Prop} {x0 : List Value}
    (run : ∀ (p : Program) (e : Env) (s : State) (m : MethodId) (args : Array Value) (below : List Frame) (meth : Method) (c : Code) (H : Heap) (locs : List Loc) (ls : Array Slot), CX w μ p s m args meth c → (∀ q, s.heap.size ≤ q → F q) → va_P (wD w) vwCl L H → va_D F L → va_S F s.heap H locs → lv_has ls μ.2.2.1 lv →
      va_Run p w.1 e R s m args below meth c H locs k sl mc ms (F0 m pc ls st) rest (QJ w F post #[]) F)
    (cont : ∀ r L', post r L' → LW w μ R F Q L' (k + mc) (sl + ms) lv (r.toList ++ rest) (pc + 3)) : LW w μ R F Q L k sl lv st pc := by
  intro p e s m args below meth c H locs ls C0 N hA hP hD hS hl T hT X
  obtain ⟨v, st₀, t, T', L0, h0, X', hL, e1, e2, ⟨r, L', hv, hpost, hP1, hD1, hF⟩, go⟩ := run p e s m args below meth c H locs ls C0 hA hP hD hS hl T hT X
  cases hv
  obtain ⟨hz, hFr⟩ := hF
  rw [h0] at hz hFr
  obtain ⟨t2, a1, b1⟩ := cont _ L' hpost p e s m args below meth c T'.heap (locs ++ L0) ls C0 N hA (by rw [e1]; exact hP1) hD1 ⟨Nat.le_trans hS.1 (by rw [e1]; exact hz), fun q h1 h2 => by rw [e1, hFr q (Nat.lt_of_lt_of_le h1 hS.1) h2]; exact hS.2.1 q h1 h2, fun q hq => by
      rcases List.mem_append.mp hq with h | h
      · exact hS.2.2 q h
      · exact hL q h⟩ hl T' rfl X'
  exact ⟨t2, go t2 a1, b1⟩
theorem ly_callS {μ' : MD} {mc ms n idx : Nat} {As : List Value} {post : Option Value → va_W → Prop} (hFo : ∀ q, F q → own w q) (hM : MJ w μ' F mc ms As L post) (ok : MOK μ' n) (hR : μ'.2.2.2.2 + 1 ≤ R.frames ∧ 8 + (μ'.2.2.1 + 11) + 48 * μ'.2.2.2.2 ≤ R.locals)
    (hw : ∀ z ∈ ([.methodLink μ.1.cls idx μ'.1, .static μ'.1] : List Cond), z ∈ goodTbl) (hn : As.length = n) (hst : As.reverse ++ rest = st) (hcat : (rest.map fun v => v.category).sum ≤ 8) (hk : k + mc ≤ R.cells) (hs : sl + ms ≤ R.slots) (hd : decode μ.2.1 pc = .ok (.invokestatic idx, 3))
    (cont : ∀ r L', post r L' → LW w μ R F Q L' (k + mc) (sl + ms) lv (r.toList ++ rest) (pc + 3)) : LW w μ R F Q L k sl lv st pc := by
  refine ly_after (μ' := μ') (As := As) (x0 := []) (fun p e s m args below meth c H locs ls C0 hA hP hD hS hl => ?_) cont
  exact va_runS (As := As) (Ts := goodTbl) ⟨C0.1, C0.2.1, C0.2.2.1, C0.2.2.2.2.1, C0.2.2.2.2.2.1⟩ hM ⟨callB_of n C0.2.2.2.2.2.1 (good_sub (wsM_in ok)) rfl rfl rfl (C0.2.2.2.2.2.1 _ ok.2.1) (C0.2.2.2.2.2.1 _ (hw _ (by simp))) ok.2.2.2.1 hR, C0.2.2.2.2.2.1 _ (hw _ (by simp))⟩ ⟨PJ.blind, fun U hU hW => pj_pc hFo C0 hA hP hD hS hU hW⟩ rfl hn hl.1 hst.symm (lv_room hcat) hd ⟨hk, hs⟩
theorem ly_callV {μ' : MD} {C : String} {mc ms n idx i a ci : Nat} {fs : List Value} {q : vw_C} {As : List Value} {post : Option Value → va_W → Prop} (hFo : ∀ q, F q → own w q) (he : L[i]? = some (a, .inr (ci, fs))) (hcl : vwCl[ci]? = some q) (hq : q.1 = C) (hM : MJ w μ' F mc ms (.ref a :: As) L post) (ok : MOK μ' n) (hR : μ'.2.2.2.2 + 1 ≤ R.frames ∧ 8 + (μ'.2.2.1 + 11) + 48 * μ'.2.2.2.2 ≤ R.locals)
    (hl1 : Cond.methodLink μ.1.cls idx μ'.1 ∈ goodTbl) (hl2 : Cond.instanceMethod μ'.1 ∈ goodTbl) (hsel : ∀ {p : Program} {s : State} {m : MethodId} {args : Array Value} {meth : Method} {c : Code}, CX w μ p s m args meth c → (Cond.selects C μ'.1 μ'.1).before args s = true) (hn : As.length = n) (hst : As.reverse ++ .ref a :: rest = st) (hcat : (rest.map fun v => v.category).sum ≤ 8) (hk : k + mc ≤ R.cells) (hs : sl + ms ≤ R.slots) (hd : decode μ.2.1 pc = .ok (.invokevirtual idx, 3))
    (cont : ∀ r L', post r L' → LW w μ R F Q L' (k + mc) (sl + ms) lv (r.toList ++ rest) (pc + 3)) : LW w μ R F Q L k sl lv st pc := by
  refine ly_after (μ' := μ') (As := .ref a :: As) (x0 := []) (fun p e s m args below meth c H locs ls C0 hA hP hD hS hl => ?_) cont
  have hrec := va_recv C0.2.2.2.2.2.2.2.1 hP hcl he
  rw [hq] at hrec
  exact va_runV (As := As) (Ts := goodTbl) ⟨C0.1, C0.2.1, C0.2.2.1, C0.2.2.2.2.1, C0.2.2.2.2.2.1⟩ hM ⟨callB_of n C0.2.2.2.2.2.1 (good_sub (wsM_in ok)) rfl rfl rfl (C0.2.2.2.2.2.1 _ ok.2.1) (C0.2.2.2.2.2.1 _ hl1) ok.2.2.2.1 hR, C0.2.2.2.2.2.1 _ hl2, hsel C0⟩ ⟨PJ.blind, hrec, fun U hU hW => pj_pc hFo C0 hA hP hD hS hU hW⟩ rfl hn hl.1 hst.symm (lv_room hcat) hd ⟨hk, hs⟩
theorem ly_callI {μ' : MD} {mc ms n idx a : Nat} {As : List Value} {post : Option Value → va_W → Prop} (hFo : ∀ q, F q → own w q) (hM : MJ w μ' F mc ms (.ref a :: As) L post) (ok : MOK μ' n) (hret : μ'.2.2.2.1 = none) (hname : μ'.1.name = "<init>") (hR : μ'.2.2.2.2 + 1 ≤ R.frames ∧ 8 + (μ'.2.2.1 + 11) + 48 * μ'.2.2.2.2 ≤ R.locals)
    (hw : ∀ z ∈ ([.methodLink μ.1.cls idx μ'.1, .instanceMethod μ'.1] : List Cond), z ∈ goodTbl) (hn : As.length = n) (hst : As.reverse ++ .ref a :: rest = st) (hcat : (rest.map fun v => v.category).sum ≤ 8) (hk : k + mc ≤ R.cells) (hs : sl + ms ≤ R.slots) (hd : decode μ.2.1 pc = .ok (.invokespecial idx, 3))
    (cont : ∀ r L', post r L' → LW w μ R F Q L' (k + mc) (sl + ms) lv (r.toList ++ rest) (pc + 3)) : LW w μ R F Q L k sl lv st pc := by
  refine ly_after (μ' := μ') (As := .ref a :: As) (x0 := []) (fun p e s m args below meth c H locs ls C0 hA hP hD hS hl => ?_) cont
  have hcb := callB_of (R := R) n C0.2.2.2.2.2.1 (good_sub (wsM_in ok)) (rm := rmJ μ'.2.2.2.2 mc ms) rfl rfl rfl (C0.2.2.2.2.2.1 _ ok.2.1) (C0.2.2.2.2.2.1 (.methodLink μ.1.cls idx μ'.1) (hw _ (by simp))) ok.2.2.2.1 hR
  rw [hret] at hcb
  exact va_runI (As := As) (Ts := goodTbl) ⟨C0.1, C0.2.1, C0.2.2.1, C0.2.2.2.2.1, C0.2.2.2.2.2.1⟩ hM ⟨hcb, hname, C0.2.2.2.2.2.1 _ (hw _ (by simp))⟩ ⟨PJ.blind, fun U hU hW => pj_pc hFo C0 hA hP hD hS hU hW⟩ rfl hn hl.1 hst.symm (lv_room hcat) hd ⟨hk, hs⟩
/-- a super call -/
theorem ly_callSU {μ' : MD} {mc ms n idx i a ci : Nat} {fs : List Value} {q : vw_C} {As : List Value} {post : Option Value → va_W → Prop} (hFo : ∀ q, F q → own w q) (he : L[i]? = some (a, .inr (ci, fs))) (hcl : vwCl[ci]? = some q) (hM : MJ w μ' F mc ms (.ref a :: As) L post) (ok : MOK μ' n) (hname : μ'.1.name ≠ "<init>") (hR : μ'.2.2.2.2 + 1 ≤ R.frames ∧ 8 + (μ'.2.2.1 + 11) + 48 * μ'.2.2.2.2 ≤ R.locals)
    (hl1 : Cond.methodLink μ.1.cls idx μ'.1 ∈ goodTbl) (hl2 : Cond.sameMethod μ'.1.cls μ'.1.cls μ'.1.name μ'.1.desc ∈ goodTbl) (hl3 : Cond.superclass μ.1.cls μ'.1.cls ∈ goodTbl) (hl4 : Cond.instanceMethod μ'.1 ∈ goodTbl) (hn : As.length = n) (hst : As.reverse ++ .ref a :: rest = st) (hcat : (rest.map fun v => v.category).sum ≤ 8) (hk : k + mc ≤ R.cells) (hs : sl + ms ≤ R.slots) (hd : decode μ.2.1 pc = .ok (.invokespecial idx, 3))
    (cont : ∀ r L', post r L' → LW w μ R F Q L' (k + mc) (sl + ms) lv (r.toList ++ rest) (pc + 3)) : LW w μ R F Q L k sl lv st pc := by
  refine ly_after (μ' := μ') (As := .ref a :: As) (x0 := []) (fun p e s m args below meth c H locs ls C0 hA hP hD hS hl => ?_) cont
  have hT : GoodIn goodTbl (va_wsSU μ.1.cls idx μ'.1 (wsM μ')) := good_sub (fun t ht => by
    rcases List.mem_append.mp ht with h | h
    · simp only [List.mem_cons, List.not_mem_nil, or_false] at h
      rcases h with rfl | rfl | rfl | rfl | rfl
      · exact hl1
      · exact hl2
      · exact hl3
      · exact hl4
      · exact ok.2.1
    · exact wsM_in ok t h)
  exact va_runSU (As := As) (Ts := goodTbl) (C0.2.2.2.2.2.2.2.1.1 ci q hcl).2 ⟨C0.1, C0.2.1, C0.2.2.1, C0.2.2.2.2.1, C0.2.2.2.2.2.1⟩ hM (va_cwSU n C0.2.2.2.2.2.1 hT rfl rfl rfl ⟨hname, ok.2.2.2.1.2.2⟩ hR) ⟨PJ.blind, va_recv C0.2.2.2.2.2.2.2.1 hP hcl he, fun U hU hW => pj_pc hFo C0 hA hP hD hS hU hW⟩ rfl hn hl.1 hst.symm (lv_room hcat) hd ⟨hk, hs⟩
/-- an overriding method: x is what the reference names, μ' what runs -/
theorem ly_callO {μ' : MD} {x : MethodName} {C : String} {b0 : ByteArray} {m0 : Nat} {r0 : Option FieldType} {mc ms n idx i a ci : Nat} {fs : List Value} {q : vw_C} {As : List Value} {post : Option Value → va_W → Prop} (hFo : ∀ q, F q → own w q) (he : L[i]? = some (a, .inr (ci, fs))) (hcl : vwCl[ci]? = some q) (hq : q.1 = C) (hM : MJ w μ' F mc ms (.ref a :: As) L post) (ok : MOK μ' n) (h0 : Cond.code x b0 m0 r0 ∈ goodTbl) (hd3 : x.cls ≠ "java/lang/invoke/MethodHandle" ∧ x.cls ≠ "java/lang/invoke/VarHandle" ∧ (parseMethodDescriptor x.desc).map (fun d => d.parameters.length) = some n) (hR : μ'.2.2.2.2 + 1 ≤ R.frames ∧ 8 + (μ'.2.2.1 + 11) + 48 * μ'.2.2.2.2 ≤ R.locals)
    (hl1 : Cond.methodLink μ.1.cls idx x ∈ goodTbl) (hl2 : Cond.sameMethod x.cls x.cls x.name x.desc ∈ goodTbl) (hl3 : Cond.instanceMethod x ∈ goodTbl) (hl4 : Cond.selects C x μ'.1 ∈ goodTbl) (hl5 : Cond.instanceMethod μ'.1 ∈ goodTbl) (hn : As.length = n) (hst : As.reverse ++ .ref a :: rest = st) (hcat : (rest.map fun v => v.category).sum ≤ 8) (hk : k + mc ≤ R.cells) (hs : sl + ms ≤ R.slots) (hd : decode μ.2.1 pc = .ok (.invokevirtual idx, 3))
    (cont : ∀ r L', post r L' → LW w μ R F Q L' (k + mc) (sl + ms) lv (r.toList ++ rest) (pc + 3)) : LW w μ R F Q L k sl lv st pc := by
  refine ly_after (μ' := μ') (As := .ref a :: As) (x0 := []) (fun p e s m args below meth c H locs ls C0 hA hP hD hS hl => ?_) cont
  have hrec := va_recv C0.2.2.2.2.2.2.2.1 hP hcl he
  rw [hq] at hrec
  have hT : GoodIn goodTbl (va_wsO μ.1.cls idx C x.cls x μ'.1 (wsM μ')) := good_sub (fun t ht => by
    rcases List.mem_append.mp ht with h | h
    · simp only [List.mem_cons, List.not_mem_nil, or_false] at h
      rcases h with rfl | rfl | rfl | rfl | rfl | rfl
      · exact hl1
      · exact hl2
      · exact hl3
      · exact hl4
      · exact hl5
      · exact ok.2.1
    · exact wsM_in ok t h)
  exact va_runU (As := As) (Ts := goodTbl) ⟨C0.1, C0.2.1, C0.2.2.1, C0.2.2.2.2.1, C0.2.2.2.2.2.1⟩ hM (va_cwO n C0.2.2.2.2.2.1 hT rfl rfl rfl h0 hd3 hR) ⟨PJ.blind, hrec, fun U hU hW => pj_pc hFo C0 hA hP hD hS hU hW⟩ rfl hn hl.1 hst.symm (lv_room hcat) hd ⟨hk, hs⟩
/-- Math.min -/
theorem ly_min {idx : Nat} {x0 y0 : Int32} (hl : Cond.methodLink μ.1.cls idx Lib.Math.min.name ∈ goodTbl) (h2 : Cond.static Lib.Math.min.name ∈ goodTbl) (h3 : Cond.initialized "java/lang/Math" ∈ goodTbl) (h4 : Cond.code Lib.Math.min.name Lib.Math.min.code 2 (some .int) ∈ goodTbl) (hfr : 1 ≤ R.frames) (hlo : (rest.map fun v => v.category).sum + 13 ≤ R.locals) (hk : k ≤ R.cells) (hs : sl ≤ R.slots) (hd : decode μ.2.1 pc = .ok (.invokestatic idx, 3)) (kk : LW w μ R F Q L k sl lv (.int (if y0 < x0 then y0 else x0) :: rest) (pc + 3)) : LW w μ R F Q L k sl lv (.int y0 :: .int x0 :: rest) pc := by
  intro p e s m args below meth c H locs ls C N hA hP hD hS hlv
  exact va_mmin C.1 C.2.1 (C.2.2.1.trans hlv.1.symm) C.2.2.2.2.1 (C.2.2.2.2.2.1 _ hl) (C.2.2.2.2.2.1 _ h2) (C.2.2.2.2.2.1 _ h3) (C.2.2.2.2.2.1 _ h4) hfr hlo hk hs hd (kk p e s m args below meth c H locs ls C N hA hP hD hS hlv)
/-- bytes copied -/
theorem ly_copyB {idx i j a b na nb : Nat} {f g : Nat → Int32} {sp dp n : Int32} (ha : L[i]? = some (a, .inl (wcs w 17, na, .inl f))) (hb : L[j]? = some (b, .inl (wcs w 17, nb, .inl g))) (hwd : ∀ z ∈ acWords μ.1.cls idx, z ∈ goodTbl) (h1 : ¬ sp < 0) (h2 : ¬ dp < 0) (h3 : ¬ n < 0) (h4 : sp.toNatClampNeg + n.toNatClampNeg ≤ na) (h5 : dp.toNatClampNeg + n.toNatClampNeg ≤ nb) (hfit : ∀ i, i < na → fits .byte (.int (f i)) = true) (hfr : 1 ≤ R.frames) (hlo : (rest.map fun v => v.category).sum + 31 ≤ R.locals) (hd : decode μ.2.1 pc = .ok (.invokestatic idx, 3)) (kk : LW w μ R F Q (L.set j (b, .inl (wcs w 17, nb, .inl (va_cpy f g sp.toNatClampNeg dp.toNatClampNeg n.toNatClampNeg)))) k sl lv rest (pc + 3)) : LW w μ R F Q L k sl lv (.int n :: .int dp :: .ref b :: .int sp :: .ref a :: rest) pc := by
  intro p e s m args below meth c H locs ls C N hA hP hD hS hlv
  have hW := fun z hz => C.2.2.2.2.2.1 z (hwd z hz)
  refine va_copyi C.1 C.2.1 (C.2.2.1.trans hlv.1.symm) C.2.2.2.2.1 (hW _ (by simp [acWords])) (hW _ (by simp [acWords])) (hW _ (by simp [acWords])) (hW _ (by simp [acWords])) C.2.2.2.2.2.2.2.1 hP hD hS i j 5 5 ha hb rfl rfl rfl h1 h2 h3 h4 h5 (fun q hq => hfit _ (by omega)) hfr ?_ hd (fun H1 locs1 hP1 hD1 hS1 => kk p e s m args below meth c H1 locs1 ls C N hA hP1 hD1 hS1 hlv)
  have : nativeFrameWords "java/lang/System" "arraycopy" 5 ≤ 20 := by decide +kernel
  omega
/-- bytes cloned -/
theorem ly_cloneB {idx i a n : Nat} {f : Nat → Int32} (he : L[i]? = some (a, .inl (wcs w 17, n, .inl f))) (hl1 : Cond.methodLink μ.1.cls idx ⟨"[B", "clone", "()Ljava/lang/Object;"⟩ ∈ goodTbl) (hl2 : Cond.sameMethod "[B" "java/lang/Object" "clone" "()Ljava/lang/Object;" ∈ goodTbl) (hl3 : Cond.native ⟨"java/lang/Object", "clone", "()Ljava/lang/Object;"⟩ ∈ goodTbl) (hl4 : Cond.instanceMethod ⟨"java/lang/Object", "clone", "()Ljava/lang/Object;"⟩ ∈ goodTbl) (hl5 : Cond.selects "[B" ⟨"[B", "clone", "()Ljava/lang/Object;"⟩ ⟨"java/lang/Object", "clone", "()Ljava/lang/Object;"⟩ ∈ goodTbl) (hfit : ∀ i, i < n → fits .byte (.int (f i)) = true) (hfr : 1 ≤ R.frames) (hlo : (rest.map fun v => v.category).sum + 14 ≤ R.locals) (hk : k + 1 ≤ R.cells) (hs : sl + n ≤ R.slots) (hd : decode μ.2.1 pc = .ok (.invokevirtual idx, 3)) (kk : ∀ q : Nat, LW w μ R F Q (L ++ [(q, .inl (wcs w 17, n, .inl f))]) (k + 1) (sl + n) lv (.ref q :: rest) (pc + 3)) : LW w μ R F Q L k sl lv (.ref a :: rest) pc := by
  intro p e s m args below meth c H locs ls C N hA hP hD hS hlv
  refine va_clone C.1 C.2.1 (C.2.2.1.trans hlv.1.symm) C.2.2.2.2.1 (C.2.2.2.2.2.1 _ hl1) (C.2.2.2.2.2.1 _ hl2) (C.2.2.2.2.2.1 _ hl3) (C.2.2.2.2.2.1 _ hl4) (C.2.2.2.2.2.1 _ hl5) C.2.2.2.2.2.2.2.2.2.2.2.2.2.2.2.2 C.2.2.2.2.2.2.2.1 hP hD hS hA i 5 he rfl (C.2.2.2.2.2.2.2.1.2 5 (wcs w 17, .byte) rfl).2 ?_ hfr hlo hk hs hd (fun q H1 hK1 hP1 hD1 hS1 => kk q p e s m args below meth c H1 locs ls C N hA hP1 hD1 hS1 hlv)
  intro z v hv
  by_cases h : z < n
  · have e1 : (vp_cell (wcs w 17) (n, .inl f)).slots[z]? = some (.int (f z)) := arrV_read _ _ h
    rw [e1] at hv
    cases hv
    exact hfit z h
  · have hsz : (vp_cell (wcs w 17) (n, .inl f)).slots.size = n := arrV_size _ _ _
    rw [Array.getElem?_eq_none (by omega)] at hv
    cases hv
theorem ly_castB {idx i a n : Nat} {f : Nat → Int32} (he : L[i]? = some (a, .inl (wcs w 17, n, .inl f))) (hl1 : Cond.classLink μ.1.cls idx "[B" ∈ goodTbl) (hd : decode μ.2.1 pc = .ok (.checkcast idx, 3)) (kk : LW w μ R F Q L k sl lv (.ref a :: rest) (pc + 3)) : LW w μ R F Q L k sl lv (.ref a :: rest) pc := by
  intro p e s m args below meth c H locs ls C N hA hP hD hS hlv
  exact va_castA C.1 C.2.1 C.2.2.2.2.1 (C.2.2.2.2.2.1 _ hl1) hP i he (C.2.2.2.2.2.2.2.1.2 5 (wcs w 17, .byte) rfl).2 hd (kk p e s m args below meth c H locs ls C N hA hP hD hS hlv)
end LYC
