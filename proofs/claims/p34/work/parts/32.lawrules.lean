/-! THE LAW: what stays while it runs, its judgement, its rows -/
abbrev LEn : Type := (Program × Env × State × MethodId) × (List Frame × Method × Code × Launch) × (Nat × Nat × (Nat → Int32))
abbrev eb (E : LEn) : Nat := E.2.2.1
abbrev eL (E : LEn) : Nat := E.2.2.2.1
abbrev exs (E : LEn) : Nat → Int32 := E.2.2.2.2
abbrev es (E : LEn) : State := E.1.2.2.1
abbrev CELLS : Nat := 324
abbrev SLOTS : Nat := 136019
def LX (E : LEn) (w : Wd) : Prop := lw_At E.1.1 E.1.2.2.1 E.1.2.2.2 E.2.1.2.1 E.2.1.2.2.1 E.2.2.1 E.2.2.2.1 E.2.2.2.2 ∧ w.1 = E.2.1.2.2.2 ∧ va_K (wD w) vwCl (ctys w) E.1.2.2.1 ∧ KS w E.1.2.2.1 ∧ wb w = E.1.2.2.1.heap.size ∧ WOK w ∧ wn w = NT ∧ E.2.2.2.1 ≤ 3072
def LJ (E : LEn) (w : Wd) (σ : Mem) (lv : List (Nat × Value)) (st : List Value) (pc : Nat) : Prop :=
  LX E w → ∀ (H : Heap) (locs : List Loc) (ls : Array Slot), RH w σ H → va_S (mine w) E.1.2.2.1.heap H locs → lv_has ls 4 lv →
    W E.1.1 E.2.1.2.2.2 E.1.2.1 room_1 E.1.2.2.1 E.1.2.2.2 #[Value.ref E.2.2.1] E.2.1.1 E.2.1.2.1 E.2.1.2.2.1 H locs CELLS SLOTS (lw_Z E.2.1.1 #[Value.ref E.2.2.1] E.1.2.2.1) (F0 E.1.2.2.2 pc ls st)
theorem n32 {a : Nat} (h : a < 2 ^ 31) : (Int32.ofNat a).toNatClampNeg = a := by
  have h1 : (Int32.ofNat a).toInt = a := Int32.toInt_ofNat_small h
  rw [Int32.toNatClampNeg, h1]; rfl
theorem vpin {a n : Nat} (h : a < n) (hn : n < 2 ^ 31) : vp_in (Int32.ofNat a) n := by
  have h1 : (Int32.ofNat a).toInt = a := Int32.toInt_ofNat_small (by omega)
  rintro (q | q)
  · have := Int32.lt_iff_toInt_lt.mp q
    rw [h1] at this
    have h0 : (0 : Int32).toInt = 0 := by decide
    omega
  · rw [n32 (by omega)] at q
    omega
theorem ofNat_add {a b : Nat} : Int32.ofNat a + Int32.ofNat b = Int32.ofNat (a + b) := (Int32.ofNat_add a b).symm
section LJS
variable {E : LEn} {w : Wd} {σ : Mem} {lv lv' : List (Nat × Value)} {rest st : List Value} {pc : Nat}
theorem lj_sub (h : LX E w → LJ E w σ lv st pc) : LJ E w σ lv st pc := fun hX => h hX hX
section K
variable {k : Nat}
abbrev lvk (E : LEn) (w : Wd) (k : Nat) : List (Nat × Value) := [(0, .ref (eb E)), (1, .ref (adr w 0)), (2, .ref (adr w 306)), (3, .int (Int32.ofNat k))]
theorem lj_aload1 (hd : decode cL_law pc = .ok (.aload_n 1, 1)) (kk : LJ E w σ (lvk E w k) (.ref (adr w 0) :: rest) (pc + 1)) : LJ E w σ (lvk E w k) rest pc := by
  intro hX H locs ls hR hS hl
  exact lv_aload_n hX.1.1 hX.1.2.1 hd rfl (lv_at hl 1 rfl) (kk hX H locs ls hR hS hl)
theorem lj_aload2 (hd : decode cL_law pc = .ok (.aload_n 2, 1)) (kk : LJ E w σ (lvk E w k) (.ref (adr w 306) :: rest) (pc + 1)) : LJ E w σ (lvk E w k) rest pc := by
  intro hX H locs ls hR hS hl
  exact lv_aload_n hX.1.1 hX.1.2.1 hd rfl (lv_at hl 2 rfl) (kk hX H locs ls hR hS hl)
theorem not_mine (hX : LX E w) : ¬ mine w (eb E) := by
  have h1 := hX.1.2.2.2.2.2.2.2.1
  have h2 := hX.2.2.2.2.1
  show ¬ wb w ≤ eb E
  rw [h2]
  exact Nat.not_le.mpr h1
theorem lj_arg {z : Int} {v : Int32} (j : Nat) (hk : k + 6 ≤ eL E) (hj : j < 6) (hd0 : decode cL_law pc = .ok (.aload_n 0, 1)) (hd1 : decode cL_law (pc + 1) = .ok (.iload_n 3, 1)) (hd2 : decode cL_law (pc + 2) = .ok (.iconst z, 1)) (hd3 : decode cL_law (pc + 3) = .ok (.iadd, 1)) (hd4 : decode cL_law (pc + 4) = .ok (.iaload, 1)) (hv : Int32.ofInt z = v)
    (kk : LJ E w σ (lvk E w k) (.int (exs E (k + j)) :: rest) (pc + 5)) (hvj : v = Int32.ofNat j := by rfl) : LJ E w σ (lvk E w k) rest pc := by
  intro hX H locs ls hR hS hl
  have hL : eL E ≤ 3072 := hX.2.2.2.2.2.2.2
  subst hvj
  refine lv_aload_n hX.1.1 hX.1.2.1 hd0 rfl (lv_at hl 0 rfl) ?_
  refine lv_iload_n hX.1.1 hX.1.2.1 hd1 rfl (lv_at hl 3 rfl) ?_
  refine lv_iconst hX.1.1 hX.1.2.1 hd2 hv ?_
  refine lv_iadd hX.1.1 hX.1.2.1 hd3 ?_
  rw [ofNat_add]
  have e : exs E (k + j) = exs E ((Int32.ofNat (k + j)).toNatClampNeg) := by rw [n32 (by omega)]
  have kk2 := kk hX H locs ls hR hS hl
  rw [e] at kk2
  have hvp : vp_in (Int32.ofNat (k + j)) (eL E) := vpin (by omega) (by omega)
  exact va_sld hX.1.1 hX.1.2.1 hX.1.2.2.2.2.2.2.1 hX.1.2.2.2.2.2.2.2.1 (not_mine hX) hS hvp hd4 kk2
theorem lj_op {z : Int} {v : Int32} (hX0 : LX E w) (hk : k + 6 ≤ eL E) (hd0 : decode cL_law pc = .ok (.aload_n 0, 1)) (hd1 : decode cL_law (pc + 1) = .ok (.iload_n 3, 1)) (hd2 : decode cL_law (pc + 2) = .ok (.iaload, 1)) (hd3 : decode cL_law (pc + 3) = .ok (.bipush z, 2)) (hv : (Int8.ofInt z).toInt32 = v) (hd4 : decode cL_law (pc + 5) = .ok (.iand, 1))
    (kk : LJ E w σ (lvk E w k) [.int (exs E k &&& v)] (pc + 6)) : LJ E w σ (lvk E w k) [] pc := by
  intro hX H locs ls hR hS hl
  have hL : eL E ≤ 3072 := hX.2.2.2.2.2.2.2
  refine lv_aload_n hX.1.1 hX.1.2.1 hd0 rfl (lv_at hl 0 rfl) ?_
  refine lv_iload_n hX.1.1 hX.1.2.1 hd1 rfl (lv_at hl 3 rfl) ?_
  have hvp : vp_in (Int32.ofNat k) (eL E) := vpin (by omega) (by omega)
  refine va_sld hX.1.1 hX.1.2.1 hX.1.2.2.2.2.2.2.1 hX.1.2.2.2.2.2.2.2.1 (not_mine hX) hS hvp hd2 ?_
  refine lv_bipush hX.1.1 hX.1.2.1 hd3 hv ?_
  refine lv_iand hX.1.1 hX.1.2.1 hd4 ?_
  rw [n32 (by omega)]
  exact kk hX H locs ls hR hS hl
theorem lj_inc {tgt : Nat} {off : Int} (hX0 : LX E w) (hk : k + 6 ≤ eL E) (hd : decode cL_law pc = .ok (.iinc 3 6, 3)) (hd2 : decode cL_law (pc + 3) = .ok (.goto off, 3)) (ht : ((pc + 3 : Nat) : Int) + off = (tgt : Int)) (kk : LJ E w σ (lvk E w (k + 6)) [] tgt) : LJ E w σ (lvk E w k) [] pc := by
  intro hX H locs ls hR hS hl
  refine lv_iinc (lv' := [(3, .int (Int32.ofNat (k + 6))), (0, .ref (eb E)), (1, .ref (adr w 0)), (2, .ref (adr w 306))]) (k := 3) hX.1.1 hX.1.2.1 hd hl rfl (by rw [← ofNat_add]; rfl) (by decide) rfl (fun ls' hl' => ?_)
  refine lv_goto hX.1.1 hX.1.2.1 hd2 ht ?_
  exact kk hX H locs ls' hR hS (lv_sub hl' [1, 2, 3, 0] rfl)
theorem head_lt {k L : Nat} (hL : L ≤ 3072) (hk : k ≤ L + 6) : (Int32.ofNat L - 6 < Int32.ofNat k) ↔ L < k + 6 := by
  have h1 : (Int32.ofNat k).toInt = k := Int32.toInt_ofNat_small (by omega)
  have h2 : (Int32.ofNat L).toInt = L := Int32.toInt_ofNat_small (by omega)
  rw [Int32.lt_iff_toInt_lt, Int32.toInt_sub, h1, h2]
  have h6 : (6 : Int32).toInt = 6 := by decide
  rw [h6]
  have hb : ((L : Int) - 6).bmod (2 ^ 32) = (L : Int) - 6 := by
    apply Int.bmod_eq_of_le <;> omega
  rw [hb]
  omega
theorem lj_head {v : Int32} {z off : Int} {tgt : Nat} (hX0 : LX E w) (hk : k ≤ eL E + 6) (hd0 : decode cL_law pc = .ok (.iload_n 3, 1)) (hd1 : decode cL_law (pc + 1) = .ok (.aload_n 0, 1)) (hd2 : decode cL_law (pc + 2) = .ok (.arraylength, 1)) (hd3 : decode cL_law (pc + 3) = .ok (.bipush z, 2)) (hv : (Int8.ofInt z).toInt32 = v) (h6 : v = 6) (hd4 : decode cL_law (pc + 5) = .ok (.isub, 1)) (hd5 : decode cL_law (pc + 6) = .ok (.if_icmp .gt off, 3)) (ht : ((pc + 6 : Nat) : Int) + off = (tgt : Int))
    (ko : eL E < k + 6 → LJ E w σ (lvk E w k) [] tgt) (ki : k + 6 ≤ eL E → LJ E w σ (lvk E w k) [] (pc + 9)) : LJ E w σ (lvk E w k) [] pc := by
  intro hX H locs ls hR hS hl
  have hL : eL E ≤ 3072 := hX.2.2.2.2.2.2.2
  subst h6
  refine lv_iload_n hX.1.1 hX.1.2.1 hd0 rfl (lv_at hl 3 rfl) ?_
  refine lv_aload_n hX.1.1 hX.1.2.1 hd1 rfl (lv_at hl 0 rfl) ?_
  refine va_slen hX.1.1 hX.1.2.1 hX.1.2.2.2.2.2.2.1 hX.1.2.2.2.2.2.2.2.1 (not_mine hX) hS hd2 ?_
  refine lv_bipush hX.1.1 hX.1.2.1 hd3 hv ?_
  refine lv_isub hX.1.1 hX.1.2.1 hd4 ?_
  refine lv_icmp_gt hX.1.1 hX.1.2.1 hd5 ht (fun h => ?_) (fun h => ?_)
  · exact ko ((head_lt hL hk).mp h) hX H locs ls hR hS hl
  · exact ki (Nat.not_lt.mp (fun q => h ((head_lt hL hk).mpr q))) hX H locs ls hR hS hl
theorem lj_head_out {v : Int32} {z off : Int} {tgt : Nat} (hX0 : LX E w) (ho : eL E < k + 6) (hk : k ≤ eL E + 6) (hd0 : decode cL_law pc = .ok (.iload_n 3, 1)) (hd1 : decode cL_law (pc + 1) = .ok (.aload_n 0, 1)) (hd2 : decode cL_law (pc + 2) = .ok (.arraylength, 1)) (hd3 : decode cL_law (pc + 3) = .ok (.bipush z, 2)) (hv : (Int8.ofInt z).toInt32 = v) (hd4 : decode cL_law (pc + 5) = .ok (.isub, 1)) (hd5 : decode cL_law (pc + 6) = .ok (.if_icmp .gt off, 3)) (ht : ((pc + 6 : Nat) : Int) + off = (tgt : Int))
    (kk : LJ E w σ (lvk E w k) [] tgt) (h6 : v = 6 := by rfl) : LJ E w σ (lvk E w k) [] pc := lj_head hX0 hk hd0 hd1 hd2 hd3 hv h6 hd4 hd5 ht (fun _ => kk) (fun h => absurd ho (by omega))
theorem lj_head_in {v : Int32} {z off : Int} {tgt : Nat} (hX0 : LX E w) (hi : k + 6 ≤ eL E) (hd0 : decode cL_law pc = .ok (.iload_n 3, 1)) (hd1 : decode cL_law (pc + 1) = .ok (.aload_n 0, 1)) (hd2 : decode cL_law (pc + 2) = .ok (.arraylength, 1)) (hd3 : decode cL_law (pc + 3) = .ok (.bipush z, 2)) (hv : (Int8.ofInt z).toInt32 = v) (hd4 : decode cL_law (pc + 5) = .ok (.isub, 1)) (hd5 : decode cL_law (pc + 6) = .ok (.if_icmp .gt off, 3)) (ht : ((pc + 6 : Nat) : Int) + off = (tgt : Int))
    (kk : LJ E w σ (lvk E w k) [] (pc + 9)) (h6 : v = 6 := by rfl) : LJ E w σ (lvk E w k) [] pc := lj_head hX0 (by omega) hd0 hd1 hd2 hd3 hv h6 hd4 hd5 ht (fun h => absurd hi (by omega)) (fun _ => kk)
end K
theorem lj_nz {t a1 l2 : Nat} {off off2 : Int} {x : Int32} (hd : decode cL_law pc = .ok (.ifCond .eq off, 3)) (ht : (pc : Int) + off = (t : Int)) (ha : a1 = pc + 3) (hd1 : decode cL_law a1 = .ok (.iconst 1, 1)) (hd2 : decode cL_law (a1 + 1) = .ok (.goto off2, 3)) (ht2 : ((a1 + 1 : Nat) : Int) + off2 = (l2 : Int)) (hd3 : decode cL_law t = .ok (.iconst 0, 1)) (hl2 : t + 1 = l2)
    (kk : LJ E w σ lv (.int (b2i (decide (x ≠ 0))) :: rest) l2) : LJ E w σ lv (.int x :: rest) pc := by
  intro hX H locs ls hR hS hl
  have k2 := kk hX H locs ls hR hS hl
  refine lv_if_eq hX.1.1 hX.1.2.1 hd ht (fun h => ?_) (fun h => ?_)
  · refine lv_iconst hX.1.1 hX.1.2.1 hd3 (v := 0) rfl ?_
    rw [hl2]
    rw [show decide (x ≠ 0) = false from decide_eq_false (fun q => q h)] at k2
    exact k2
  · subst ha
    refine lv_iconst hX.1.1 hX.1.2.1 hd1 (v := 1) rfl ?_
    refine lv_goto hX.1.1 hX.1.2.1 hd2 ht2 ?_
    rw [show decide (x ≠ 0) = true from decide_eq_true h] at k2
    exact k2
theorem lj_goto {tgt : Nat} {off : Int} (hd : decode cL_law pc = .ok (.goto off, 3)) (ht : (pc : Int) + off = (tgt : Int)) (kk : LJ E w σ lv rest tgt) : LJ E w σ lv rest pc := by
  intro hX H locs ls hR hS hl
  exact lv_goto hX.1.1 hX.1.2.1 hd ht (kk hX H locs ls hR hS hl)
theorem lj_eq {tgt : Nat} {off : Int} {x : Int32} (hd : decode cL_law pc = .ok (.if_icmp .eq off, 3)) (ht : (pc : Int) + off = (tgt : Int)) (kk : LJ E w σ lv rest tgt) : LJ E w σ lv (.int x :: .int x :: rest) pc := by
  intro hX H locs ls hR hS hl
  exact lv_icmp_eq hX.1.1 hX.1.2.1 hd ht (fun _ => kk hX H locs ls hR hS hl) (fun h => absurd rfl h)
theorem lj_lceq {tgt : Nat} {off : Int} {x : Int64} (hd : decode cL_law pc = .ok (.lcmp, 1)) (hd2 : decode cL_law (pc + 1) = .ok (.ifCond .eq off, 3)) (ht : ((pc + 1 : Nat) : Int) + off = (tgt : Int)) (kk : LJ E w σ lv rest tgt) : LJ E w σ lv (.long x :: .long x :: rest) pc := by
  intro hX H locs ls hR hS hl
  refine W.lcmp hX.1.1 hX.1.2.1 hd ?_
  exact lv_if_eq hX.1.1 hX.1.2.1 hd2 ht (fun _ => kk hX H locs ls hR hS hl) (fun h => absurd ((lgc_eq x x).mpr rfl) h)
theorem lj_tsHit {dflt lo hi : Int} {offs : Array Int} {len tgt : Nat} {x0 v : Int32} {off : Int} (hX0 : LX E w) (hd : decode cL_law pc = .ok (.tableswitch dflt lo hi offs, len)) (hv : x0 = v) (h1 : ¬ v.toInt < lo) (h2 : ¬ hi < v.toInt) (ho : offs[(v.toInt - lo).toNat]? = some off) (ht : (pc : Int) + off = (tgt : Int)) (kk : LJ E w σ lv rest tgt) : LJ E w σ lv (.int x0 :: rest) pc := by
  intro hX H locs ls hR hS hl
  subst hv
  exact lv_tableIn hX.1.1 hX.1.2.1 hd h1 h2 ho ht (kk hX H locs ls hR hS hl)
theorem lj_tsOut {dflt lo hi : Int} {offs : Array Int} {len tgt : Nat} {x0 : Int32} (hX0 : LX E w) (hd : decode cL_law pc = .ok (.tableswitch dflt lo hi offs, len)) (h : x0.toInt < lo ∨ hi < x0.toInt) (ht : (pc : Int) + dflt = (tgt : Int)) (kk : LJ E w σ lv rest tgt) : LJ E w σ lv (.int x0 :: rest) pc := by
  intro hX H locs ls hR hS hl
  exact lv_tableOut hX.1.1 hX.1.2.1 hd h ht (kk hX H locs ls hR hS hl)
theorem lj_call {μ' : MD} {r : Option Value} {σ1 : Mem} {a ci idx n : Nat} {As : List Value} {q : vw_C} (hX0 : LX E w) (hM : MC w μ' r (.ref (adr w a) :: As) σ σ1) (ok : MOK μ' n) (hfr : μ'.2.2.2.2 + 1 ≤ 2048) (hlo : 8 + (μ'.2.2.1 + 11) + 48 * μ'.2.2.2.2 ≤ 84000)
    (hw : ∀ z ∈ ([.methodLink RL idx μ'.1, .instanceMethod μ'.1, .selects μ'.1.cls μ'.1 μ'.1] : List Cond), z ∈ goodTbl) (ha : isk w a ci) (hci : ci < 12) (hcl : vwCl[ci]? = some q) (hq : q.1 = μ'.1.cls) (hn : As.length = n) (hst : As.reverse ++ .ref (adr w a) :: rest = st) (hcat : (rest.map fun v => v.category).sum ≤ 8) (hd : decode cL_law pc = .ok (.invokevirtual idx, 3))
    (cont : LJ E w σ1 lv (r.toList ++ rest) (pc + 3)) : LJ E w σ lv st pc := by
  intro hX H locs ls hR hS hls
  have hts : ∀ t ∈ goodTbl, t.before #[Value.ref (eb E)] (es E) = true := fun t ht => hX.1.2.2.2.2.2.1 t (List.mem_filter.mp ht).1
  have hrec := va_recv hX.2.2.1 hR hcl (wd_obj (σ := σ) ha hci)
  rw [hq] at hrec
  have hl1 := hX.2.1
  have hM2 : Met E.2.1.2.2.2 μ'.1 (wsM μ') (rmD μ'.2.2.2.2) (PcM w (.ref (adr w a) :: As) σ) (QcM w r σ1) 0 0 (mine w) := by rw [← hl1]; exact hM
  have run := va_runV (p := E.1.1) (e := E.1.2.1) (below := E.2.1.1) (meth := E.2.1.2.1) (As := As) (Ts := goodTbl) (own := RL) (R := room_1) (locs := locs) (cells := CELLS) (slots := SLOTS) (g := F0 E.1.2.2.2 pc ls st) (rest := rest) (nL := 4) (cc := cL_law) (c := E.2.1.2.2.1) (H := H)
    ⟨hX.1.1, hX.1.2.1, hX.1.2.2.2.1, hX.1.2.2.2.2.1, hts⟩ hM2 ⟨callB_of n hts (good_sub (wsM_in ok)) rfl rfl rfl (hts _ ok.2.1) (hts _ (hw _ (by simp))) ok.2.2.2.1 ⟨hfr, hlo⟩, hts _ (hw _ (by simp)), hts _ (hw _ (by simp))⟩ ⟨PcM.blind, hrec, fun U hU hW => ⟨rfl, by rw [hU]; exact hR, va_K.moved hW.alike hX.2.2.1, hX.2.2.2.1.moved hW (fun a h1 h2 => by rw [hU]; exact hS.2.1 a h1 h2)⟩⟩ rfl hn hls.1 hst.symm (lv_room hcat) hd ⟨Nat.le_of_ble_eq_true rfl, Nat.le_of_ble_eq_true rfl⟩
  intro T hT X
  obtain ⟨v, st₀, t, T', L0, h0, X', hL, e1, e2, ⟨hv, hR1, hz, hF⟩, go⟩ := run T hT X
  cases hv
  rw [h0] at hz hF
  obtain ⟨t2, a1, b1⟩ := cont hX T'.heap (locs ++ L0) ls (by rw [e1]; exact hR1) ⟨Nat.le_trans hS.1 (by rw [e1]; exact hz), fun q h1 h2 => by rw [e1, hF q (Nat.lt_of_lt_of_le h1 hS.1) h2]; exact hS.2.1 q h1 h2, fun q hq => by
      rcases List.mem_append.mp hq with h | h
      · exact hS.2.2 q h
      · exact hL q h⟩ hls T' rfl X'
  exact ⟨t2, go t2 a1, b1⟩
theorem lj_end {z : Int} {v : Int32} (hX0 : LX E w) (hd : decode cL_law pc = .ok (.iconst z, 1)) (hv : Int32.ofInt z = v) (hd2 : decode cL_law (pc + 1) = .ok (.ireturn, 1)) (h1 : v = 1 := by rfl) : LJ E w σ lv [] pc := by
  intro hX H locs ls hR hS hl
  subst h1
  refine lv_iconst hX.1.1 hX.1.2.1 hd hv ?_
  refine va_forget (fun q hq => ?_) ?_
  · have := hS.2.2 q hq
    rw [← hX.2.2.2.2.1]
    exact this
  refine W.widen (k := 600000) (n := 7302250) (Nat.le_of_ble_eq_true rfl) (Nat.le_of_ble_eq_true rfl) ?_
  exact lw_ret hX.1.1 hX.1.2.1 hX.1.2.2.1 hX.1.2.2.2.2.2.2.2.2.1 hd2
end LJS
