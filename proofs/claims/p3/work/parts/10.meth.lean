abbrev mu_X0_copy : MD := (yX0_copy, cX0_copy, 2, none, 1)
theorem ok_X0_copy : MOK mu_X0_copy 2 := ⟨gw_705, gw_164, (by decide +kernel : plainFor yX0_copy = true), ⟨(by decide +kernel : yX0_copy.cls ≠ "java/lang/invoke/MethodHandle"), (by decide +kernel : yX0_copy.cls ≠ "java/lang/invoke/VarHandle"), (by decide +kernel : (parseMethodDescriptor yX0_copy.desc).map (fun d => d.parameters.length) = some 2)⟩, Nat.le_of_ble_eq_true rfl⟩
noncomputable def f_X0_copy (σ : Mem) (x0 : Nat) (x1 : Nat) : Option Mem :=
  cL σ x0 0 x1 0 6 (fun (σ1 : Mem) => some σ1)
theorem t_X0_copy {w : Wd} (hw : WOK w) {σ : Mem} {x0 : Nat} {x1 : Nat} (hx0 : isk w x0 13) (hx1 : isk w x1 13) : JO w mu_X0_copy vV σ [(0, .ref (adr w x0)), (1, .ref (adr w x1))] [] 0 (f_X0_copy σ x0 x1) (fun z => some ((), z)) := by
  unfold f_X0_copy
  refine jo_aload_n (pc := 0) 0 rfl dX0_copy_0 rfl ?_
  refine jo_iconst (pc := 1) dX0_copy_1 (ic_i_0) ?_
  refine jo_aload_n (pc := 2) 1 rfl dX0_copy_2 rfl ?_
  refine jo_iconst (pc := 3) dX0_copy_3 (ic_i_0) ?_
  refine jo_bipush (pc := 4) dX0_copy_4 (ic_b_6) ?_
  refine jo_acL (pc := 6) (hx0) (hx1) (all4 gw_706 gw_547 gw_546 gw_170) (ltb rfl) (Nat.le_of_ble_eq_true rfl) dX0_copy_6 (fun σ1 => ?_)
  exact jo_return (pc := 9) rfl rfl dX0_copy_9
theorem c_X0_copy {w : Wd} (hw : WOK w) {σ : Mem} {x0 : Nat} {x1 : Nat} (hx0 : isk w x0 13) (hx1 : isk w x1 13) : ∀ σ', f_X0_copy σ x0 x1 = some σ' → MC w mu_X0_copy none [.ref (adr w x0), .ref (adr w x1)] σ σ' := mc_ofV ok_X0_copy rfl (Nat.le_of_ble_eq_true rfl) (t_X0_copy hw hx0 hx1)
abbrev mu_X0_areSame : MD := (yX0_areSame, cX0_areSame, 3, some .boolean, 0)
theorem ok_X0_areSame : MOK mu_X0_areSame 2 := ⟨gw_1073, gw_164, (by decide +kernel : plainFor yX0_areSame = true), ⟨(by decide +kernel : yX0_areSame.cls ≠ "java/lang/invoke/MethodHandle"), (by decide +kernel : yX0_areSame.cls ≠ "java/lang/invoke/VarHandle"), (by decide +kernel : (parseMethodDescriptor yX0_areSame.desc).map (fun d => d.parameters.length) = some 2)⟩, Nat.le_of_ble_eq_true rfl⟩
noncomputable def l_X0_areSame_2 (σ : Mem) (x0 : Nat) (x1 : Nat) (i1 : Int32) : Option (Int32 ⊕ Bool) :=
  if 6 ≤ i1 then (some (Sum.inr true)) else (gL σ x0 i1 (fun (v2 : Int64) => gL σ x1 i1 (fun (v3 : Int64) => if v2 = v3 then (some (Sum.inl (i1 + 1))) else (some (Sum.inr false)))))
noncomputable def f_X0_areSame (σ : Mem) (x0 : Nat) (x1 : Nat) : Option Bool :=
  loopO (fun (z1 : Int32) => l_X0_areSame_2 σ x0 x1 z1) 0
theorem t_X0_areSame {w : Wd} (hw : WOK w) {σ : Mem} {x0 : Nat} {x1 : Nat} (hx0 : isk w x0 13) (hx1 : isk w x1 13) : JO w mu_X0_areSame vB σ [(0, .ref (adr w x0)), (1, .ref (adr w x1))] [] 0 (f_X0_areSame σ x0 x1) (fun z => some (z, σ)) := by
  unfold f_X0_areSame
  refine jo_iconst (pc := 0) dX0_areSame_0 (ic_i_0) ?_
  refine jo_istore_n (pc := 1) (lv' := [(2, .int 0), (0, .ref (adr w x0)), (1, .ref (adr w x1))]) dX0_areSame_1 rfl (ltb rfl) rfl ?_
  refine jo_lv (lv' := [(0, .ref (adr w x0)), (1, .ref (adr w x1)), (2, .int 0)]) [1, 2, 0] rfl ?_
  refine jo_loop (X := Bool) (fun (z1 : Int32) => σ) (fun (z1 : Int32) => [(0, .ref (adr w x0)), (1, .ref (adr w x1)), (2, .int z1)]) (body := (fun (z1 : Int32) => l_X0_areSame_2 σ x0 x1 z1)) (fun F2_1 hF2_1 s => ?_) 0
  revert s; intro i1
  show JO w mu_X0_areSame vB σ [(0, .ref (adr w x0)), (1, .ref (adr w x1)), (2, .int i1)] [] 2 (l_X0_areSame_2 σ x0 x1 i1) _
  unfold l_X0_areSame_2
  refine jo_iload_n (pc := 2) 2 rfl dX0_areSame_2 rfl ?_
  refine jo_bipush (pc := 3) dX0_areSame_3 (ic_b_6) ?_
  refine jo_icmp_ge (pc := 5) dX0_areSame_5 (tgt := 26) rfl ?_ ?_
  · refine jo_iconst (pc := 26) dX0_areSame_26 (ic_i_1) ?_
    exact jo_breturn (pc := 27) (b := true) rfl rfl dX0_areSame_27
  · refine jo_aload_n (pc := 8) 0 rfl dX0_areSame_8 rfl ?_
    refine jo_iload_n (pc := 9) 2 rfl dX0_areSame_9 rfl ?_
    refine jo_lald (pc := 10) (hx0) dX0_areSame_10 (fun v2 => ?_)
    refine jo_aload_n (pc := 11) 1 rfl dX0_areSame_11 rfl ?_
    refine jo_iload_n (pc := 12) 2 rfl dX0_areSame_12 rfl ?_
    refine jo_lald (pc := 13) (hx1) dX0_areSame_13 (fun v3 => ?_)
    refine jo_lcmp_eq (pc := 14) dX0_areSame_14 dX0_areSame_15 (tgt := 20) rfl ?_ ?_
    · refine jo_iinc (pc := 20) (lv' := [(2, .int (i1 + 1)), (0, .ref (adr w x0)), (1, .ref (adr w x1))]) 2 rfl dX0_areSame_20 (congrArg (fun z => i1 + z) (ic_i_1)) (ltb rfl) rfl ?_
      refine jo_goto (pc := 23) dX0_areSame_23 (tgt := 2) rfl ?_
      refine jo_lv (lv' := [(0, .ref (adr w x0)), (1, .ref (adr w x1)), (2, .int (i1 + 1))]) [1, 2, 0] rfl ?_
      exact jo_leaf (by rfl) (hF2_1 (i1 + 1))
    · refine jo_iconst (pc := 18) dX0_areSame_18 (ic_i_0) ?_
      exact jo_breturn (pc := 19) (b := false) rfl rfl dX0_areSame_19
theorem c_X0_areSame {w : Wd} (hw : WOK w) {σ : Mem} {x0 : Nat} {x1 : Nat} (hx0 : isk w x0 13) (hx1 : isk w x1 13) : ∀ r, f_X0_areSame σ x0 x1 = some r → MC w mu_X0_areSame (vB r) [.ref (adr w x0), .ref (adr w x1)] σ σ := mc_ofP ok_X0_areSame rfl (Nat.le_of_ble_eq_true rfl) (t_X0_areSame hw hx0 hx1)
abbrev mu_X0_isWithin : MD := (yX0_isWithin, cX0_isWithin, 4, some .boolean, 0)
theorem ok_X0_isWithin : MOK mu_X0_isWithin 2 := ⟨gw_827, gw_164, (by decide +kernel : plainFor yX0_isWithin = true), ⟨(by decide +kernel : yX0_isWithin.cls ≠ "java/lang/invoke/MethodHandle"), (by decide +kernel : yX0_isWithin.cls ≠ "java/lang/invoke/VarHandle"), (by decide +kernel : (parseMethodDescriptor yX0_isWithin.desc).map (fun d => d.parameters.length) = some 2)⟩, Nat.le_of_ble_eq_true rfl⟩
noncomputable def l_X0_isWithin_2 (σ : Mem) (x0 : Nat) (x1 : Int64) (i1 : Int32) : Option (Int32 ⊕ Bool) :=
  if 6 ≤ i1 then (some (Sum.inr true)) else (gL σ x0 i1 (fun (v2 : Int64) => if v2 < (-x1) then (some (Sum.inr false)) else (gL σ x0 i1 (fun (v3 : Int64) => if v3 ≤ x1 then (some (Sum.inl (i1 + 1))) else (some (Sum.inr false))))))
noncomputable def f_X0_isWithin (σ : Mem) (x0 : Nat) (x1 : Int64) : Option Bool :=
  loopO (fun (z1 : Int32) => l_X0_isWithin_2 σ x0 x1 z1) 0
theorem t_X0_isWithin {w : Wd} (hw : WOK w) {σ : Mem} {x0 : Nat} {x1 : Int64} (hx0 : isk w x0 13) : JO w mu_X0_isWithin vB σ [(0, .ref (adr w x0)), (1, .long x1)] [] 0 (f_X0_isWithin σ x0 x1) (fun z => some (z, σ)) := by
  unfold f_X0_isWithin
  refine jo_iconst (pc := 0) dX0_isWithin_0 (ic_i_0) ?_
  refine jo_istore_n (pc := 1) (lv' := [(3, .int 0), (0, .ref (adr w x0)), (1, .long x1)]) dX0_isWithin_1 rfl (ltb rfl) rfl ?_
  refine jo_lv (lv' := [(0, .ref (adr w x0)), (1, .long x1), (3, .int 0)]) [1, 2, 0] rfl ?_
  refine jo_loop (X := Bool) (fun (z1 : Int32) => σ) (fun (z1 : Int32) => [(0, .ref (adr w x0)), (1, .long x1), (3, .int z1)]) (body := (fun (z1 : Int32) => l_X0_isWithin_2 σ x0 x1 z1)) (fun F2_1 hF2_1 s => ?_) 0
  revert s; intro i1
  show JO w mu_X0_isWithin vB σ [(0, .ref (adr w x0)), (1, .long x1), (3, .int i1)] [] 2 (l_X0_isWithin_2 σ x0 x1 i1) _
  unfold l_X0_isWithin_2
  refine jo_iload_n (pc := 2) 2 rfl dX0_isWithin_2 rfl ?_
  refine jo_bipush (pc := 3) dX0_isWithin_3 (ic_b_6) ?_
  refine jo_icmp_ge (pc := 5) dX0_isWithin_5 (tgt := 33) rfl ?_ ?_
  · refine jo_iconst (pc := 33) dX0_isWithin_33 (ic_i_1) ?_
    exact jo_breturn (pc := 34) (b := true) rfl rfl dX0_isWithin_34
  · refine jo_aload_n (pc := 8) 0 rfl dX0_isWithin_8 rfl ?_
    refine jo_iload_n (pc := 9) 2 rfl dX0_isWithin_9 rfl ?_
    refine jo_lald (pc := 10) (hx0) dX0_isWithin_10 (fun v2 => ?_)
    refine jo_lload_n (pc := 11) 1 rfl dX0_isWithin_11 rfl ?_
    refine jo_lneg (pc := 12) dX0_isWithin_12 ?_
    refine jo_lcmp_lt (pc := 13) dX0_isWithin_13 dX0_isWithin_14 (tgt := 25) rfl ?_ ?_
    · refine jo_iconst (pc := 25) dX0_isWithin_25 (ic_i_0) ?_
      exact jo_breturn (pc := 26) (b := false) rfl rfl dX0_isWithin_26
    · refine jo_aload_n (pc := 17) 0 rfl dX0_isWithin_17 rfl ?_
      refine jo_iload_n (pc := 18) 2 rfl dX0_isWithin_18 rfl ?_
      refine jo_lald (pc := 19) (hx0) dX0_isWithin_19 (fun v3 => ?_)
      refine jo_lload_n (pc := 20) 1 rfl dX0_isWithin_20 rfl ?_
      refine jo_lcmp_le (pc := 21) dX0_isWithin_21 dX0_isWithin_22 (tgt := 27) rfl ?_ ?_
      · refine jo_iinc (pc := 27) (lv' := [(3, .int (i1 + 1)), (0, .ref (adr w x0)), (1, .long x1)]) 2 rfl dX0_isWithin_27 (congrArg (fun z => i1 + z) (ic_i_1)) (ltb rfl) rfl ?_
        refine jo_goto (pc := 30) dX0_isWithin_30 (tgt := 2) rfl ?_
        refine jo_lv (lv' := [(0, .ref (adr w x0)), (1, .long x1), (3, .int (i1 + 1))]) [1, 2, 0] rfl ?_
        exact jo_leaf (by rfl) (hF2_1 (i1 + 1))
      · refine jo_iconst (pc := 25) dX0_isWithin_25 (ic_i_0) ?_
        exact jo_breturn (pc := 26) (b := false) rfl rfl dX0_isWithin_26
theorem c_X0_isWithin {w : Wd} (hw : WOK w) {σ : Mem} {x0 : Nat} {x1 : Int64} (hx0 : isk w x0 13) : ∀ r, f_X0_isWithin σ x0 x1 = some r → MC w mu_X0_isWithin (vB r) [.ref (adr w x0), .long x1] σ σ := mc_ofP ok_X0_isWithin rfl (Nat.le_of_ble_eq_true rfl) (t_X0_isWithin hw hx0)
abbrev mu_X0_isOne : MD := (yX0_isOne, cX0_isOne, 1, some .boolean, 1)
theorem ok_X0_isOne : MOK mu_X0_isOne 1 := ⟨gw_1076, gw_164, (by decide +kernel : plainFor yX0_isOne = true), ⟨(by decide +kernel : yX0_isOne.cls ≠ "java/lang/invoke/MethodHandle"), (by decide +kernel : yX0_isOne.cls ≠ "java/lang/invoke/VarHandle"), (by decide +kernel : (parseMethodDescriptor yX0_isOne.desc).map (fun d => d.parameters.length) = some 1)⟩, Nat.le_of_ble_eq_true rfl⟩
noncomputable def f_X0_isOne (σ : Mem) (x0 : Nat) : Option Bool :=
  (f_X0_isWithin σ x0 0).bind (fun (b1 : Bool) => some b1)
theorem t_X0_isOne {w : Wd} (hw : WOK w) {σ : Mem} {x0 : Nat} (hx0 : isk w x0 13) : JO w mu_X0_isOne vB σ [(0, .ref (adr w x0))] [] 0 (f_X0_isOne σ x0) (fun z => some (z, σ)) := by
  unfold f_X0_isOne
  refine jo_aload_n (pc := 0) 0 rfl dX0_isOne_0 rfl ?_
  refine jo_lconst (pc := 1) dX0_isOne_1 (ic_l_0) ?_
  refine jo_cS_Z_p (pc := 2) (μ' := mu_X0_isWithin) (fx := f_X0_isWithin σ x0 0) (As := [.ref (adr w x0), .long 0]) (c_X0_isWithin hw (hx0)) (ok_X0_isWithin) (ltb rfl) (all2 gw_1077 gw_826) rfl rfl (Nat.le_of_ble_eq_true rfl) dX0_isOne_2 (fun b1 => ?_)
  exact jo_breturn (pc := 5) (b := b1) rfl rfl dX0_isOne_5
theorem c_X0_isOne {w : Wd} (hw : WOK w) {σ : Mem} {x0 : Nat} (hx0 : isk w x0 13) : ∀ r, f_X0_isOne σ x0 = some r → MC w mu_X0_isOne (vB r) [.ref (adr w x0)] σ σ := mc_ofP ok_X0_isOne rfl (Nat.le_of_ble_eq_true rfl) (t_X0_isOne hw hx0)
abbrev mu_J7_fill_d0a16 : MD := (yJ7_fill_d0a16, cJ7_fill_d0a16, 5, none, 0)
theorem ok_J7_fill_d0a16 : MOK mu_J7_fill_d0a16 2 := ⟨gw_716, gw_169, (by decide +kernel : plainFor yJ7_fill_d0a16 = true), ⟨(by decide +kernel : yJ7_fill_d0a16.cls ≠ "java/lang/invoke/MethodHandle"), (by decide +kernel : yJ7_fill_d0a16.cls ≠ "java/lang/invoke/VarHandle"), (by decide +kernel : (parseMethodDescriptor yJ7_fill_d0a16.desc).map (fun d => d.parameters.length) = some 2)⟩, Nat.le_of_ble_eq_true rfl⟩
noncomputable def l_J7_fill_d0a16_6 (x0 : Nat) (x1 : Int64) (v1 : Int32) (σ2 : Mem) (i3 : Int32) : Option ((Mem × Int32) ⊕ Mem) :=
  if v1 ≤ i3 then (some (Sum.inr σ2)) else (pL σ2 x0 i3 x1 (fun (σ4 : Mem) => some (Sum.inl (σ4, i3 + 1))))
noncomputable def f_J7_fill_d0a16 (σ : Mem) (x0 : Nat) (x1 : Int64) : Option Mem :=
  bd (Int32.ofNat (ln x0)) (fun (v1 : Int32) => loopO (fun (z3 : (Mem × Int32)) => l_J7_fill_d0a16_6 x0 x1 v1 z3.1 z3.2) (σ, 0))
theorem t_J7_fill_d0a16 {w : Wd} (hw : WOK w) {σ : Mem} {x0 : Nat} {x1 : Int64} (hx0 : isk w x0 13) : JO w mu_J7_fill_d0a16 vV σ [(0, .ref (adr w x0)), (1, .long x1)] [] 0 (f_J7_fill_d0a16 σ x0 x1) (fun z => some ((), z)) := by
  unfold f_J7_fill_d0a16
  refine jo_iconst (pc := 0) dJ7_fill_d0a16_0 (ic_i_0) ?_
  refine jo_istore_n (pc := 1) (lv' := [(3, .int 0), (0, .ref (adr w x0)), (1, .long x1)]) dJ7_fill_d0a16_1 rfl (ltb rfl) rfl ?_
  refine jo_aload_n (pc := 2) 1 rfl dJ7_fill_d0a16_2 rfl ?_
  refine jo_alenI (pc := 3) (hx0) (by decide) (t := 1) rfl dJ7_fill_d0a16_3 ?_
  refine jo_bd ?_
  refine jo_istore (pc := 4) (lv' := [(4, .int (Int32.ofNat (ln x0))), (3, .int 0), (0, .ref (adr w x0)), (1, .long x1)]) dJ7_fill_d0a16_4 (ltb rfl) rfl ?_
  generalize (Int32.ofNat (ln x0)) = v1
  refine jo_lv (lv' := [(4, .int v1), (0, .ref (adr w x0)), (1, .long x1), (3, .int 0)]) [0, 2, 3, 1] rfl ?_
  refine jo_loop (X := Mem) (fun (z3 : (Mem × Int32)) => z3.1) (fun (z3 : (Mem × Int32)) => [(4, .int v1), (0, .ref (adr w x0)), (1, .long x1), (3, .int z3.2)]) (body := (fun (z3 : (Mem × Int32)) => l_J7_fill_d0a16_6 x0 x1 v1 z3.1 z3.2)) (fun F6_3 hF6_3 s => ?_) (σ, 0)
  obtain ⟨σ2, i3⟩ := s
  show JO w mu_J7_fill_d0a16 vV σ2 [(4, .int v1), (0, .ref (adr w x0)), (1, .long x1), (3, .int i3)] [] 6 (l_J7_fill_d0a16_6 x0 x1 v1 σ2 i3) _
  unfold l_J7_fill_d0a16_6
  refine jo_iload_n (pc := 6) 3 rfl dJ7_fill_d0a16_6 rfl ?_
  refine jo_iload (pc := 7) 0 rfl dJ7_fill_d0a16_7 ?_
  refine jo_icmp_ge (pc := 9) dJ7_fill_d0a16_9 (tgt := 22) rfl ?_ ?_
  · exact jo_return (pc := 22) rfl rfl dJ7_fill_d0a16_22
  · refine jo_aload_n (pc := 12) 1 rfl dJ7_fill_d0a16_12 rfl ?_
    refine jo_iload_n (pc := 13) 3 rfl dJ7_fill_d0a16_13 rfl ?_
    refine jo_lload_n (pc := 14) 2 rfl dJ7_fill_d0a16_14 rfl ?_
    refine jo_last (pc := 15) (hx0) dJ7_fill_d0a16_15 (fun σ4 => ?_)
    refine jo_iinc (pc := 16) (lv' := [(3, .int (i3 + 1)), (4, .int v1), (0, .ref (adr w x0)), (1, .long x1)]) 3 rfl dJ7_fill_d0a16_16 (congrArg (fun z => i3 + z) (ic_i_1)) (ltb rfl) rfl ?_
    refine jo_goto (pc := 19) dJ7_fill_d0a16_19 (tgt := 6) rfl ?_
    refine jo_lv (lv' := [(4, .int v1), (0, .ref (adr w x0)), (1, .long x1), (3, .int (i3 + 1))]) [1, 2, 3, 0] rfl ?_
    exact jo_leaf (by rfl) (hF6_3 (σ4, i3 + 1))
theorem c_J7_fill_d0a16 {w : Wd} (hw : WOK w) {σ : Mem} {x0 : Nat} {x1 : Int64} (hx0 : isk w x0 13) : ∀ σ', f_J7_fill_d0a16 σ x0 x1 = some σ' → MC w mu_J7_fill_d0a16 none [.ref (adr w x0), .long x1] σ σ' := mc_ofV ok_J7_fill_d0a16 rfl (Nat.le_of_ble_eq_true rfl) (t_J7_fill_d0a16 hw hx0)
abbrev mu_X0_makeGenerator : MD := (yX0_makeGenerator, cX0_makeGenerator, 4, none, 1)
theorem ok_X0_makeGenerator : MOK mu_X0_makeGenerator 3 := ⟨gw_1011, gw_164, (by decide +kernel : plainFor yX0_makeGenerator = true), ⟨(by decide +kernel : yX0_makeGenerator.cls ≠ "java/lang/invoke/MethodHandle"), (by decide +kernel : yX0_makeGenerator.cls ≠ "java/lang/invoke/VarHandle"), (by decide +kernel : (parseMethodDescriptor yX0_makeGenerator.desc).map (fun d => d.parameters.length) = some 3)⟩, Nat.le_of_ble_eq_true rfl⟩
noncomputable def f_X0_makeGenerator (σ : Mem) (x0 : Nat) (x1 : Int32) (x2 : Int64) : Option Mem :=
  (f_J7_fill_d0a16 σ x0 0).bind (fun (σ1 : Mem) => if x1 < 0 then (some σ1) else (if 6 ≤ x1 then (some σ1) else (pL σ1 x0 x1 x2 (fun (σ2 : Mem) => some σ2))))
theorem t_X0_makeGenerator {w : Wd} (hw : WOK w) {σ : Mem} {x0 : Nat} {x1 : Int32} {x2 : Int64} (hx0 : isk w x0 13) : JO w mu_X0_makeGenerator vV σ [(0, .ref (adr w x0)), (1, .int x1), (2, .long x2)] [] 0 (f_X0_makeGenerator σ x0 x1 x2) (fun z => some ((), z)) := by
  unfold f_X0_makeGenerator
  refine jo_aload_n (pc := 0) 0 rfl dX0_makeGenerator_0 rfl ?_
  refine jo_lconst (pc := 1) dX0_makeGenerator_1 (ic_l_0) ?_
  refine jo_cS_V_i (pc := 2) (μ' := mu_J7_fill_d0a16) (fx := f_J7_fill_d0a16 σ x0 0) (As := [.ref (adr w x0), .long 0]) (c_J7_fill_d0a16 hw (hx0)) (ok_J7_fill_d0a16) (ltb rfl) (all2 gw_1012 gw_715) rfl rfl (Nat.le_of_ble_eq_true rfl) dX0_makeGenerator_2 (fun σ1 => ?_)
  refine jo_iload_n (pc := 5) 1 rfl dX0_makeGenerator_5 rfl ?_
  refine jo_if_lt (pc := 6) dX0_makeGenerator_6 (tgt := 19) rfl ?_ ?_
  · exact jo_return (pc := 19) rfl rfl dX0_makeGenerator_19
  · refine jo_iload_n (pc := 9) 1 rfl dX0_makeGenerator_9 rfl ?_
    refine jo_bipush (pc := 10) dX0_makeGenerator_10 (ic_b_6) ?_
    refine jo_icmp_ge (pc := 12) dX0_makeGenerator_12 (tgt := 19) rfl ?_ ?_
    · exact jo_return (pc := 19) rfl rfl dX0_makeGenerator_19
    · refine jo_aload_n (pc := 15) 0 rfl dX0_makeGenerator_15 rfl ?_
      refine jo_iload_n (pc := 16) 1 rfl dX0_makeGenerator_16 rfl ?_
      refine jo_lload_n (pc := 17) 2 rfl dX0_makeGenerator_17 rfl ?_
      refine jo_last (pc := 18) (hx0) dX0_makeGenerator_18 (fun σ2 => ?_)
      exact jo_return (pc := 19) rfl rfl dX0_makeGenerator_19
theorem c_X0_makeGenerator {w : Wd} (hw : WOK w) {σ : Mem} {x0 : Nat} {x1 : Int32} {x2 : Int64} (hx0 : isk w x0 13) : ∀ σ', f_X0_makeGenerator σ x0 x1 x2 = some σ' → MC w mu_X0_makeGenerator none [.ref (adr w x0), .int x1, .long x2] σ σ' := mc_ofV ok_X0_makeGenerator rfl (Nat.le_of_ble_eq_true rfl) (t_X0_makeGenerator hw hx0)
abbrev mu_X4_put : MD := (yX4_put, cX4_put, 5, none, 0)
theorem ok_X4_put : MOK mu_X4_put 3 := ⟨gw_615, gw_162, (by decide +kernel : plainFor yX4_put = true), ⟨(by decide +kernel : yX4_put.cls ≠ "java/lang/invoke/MethodHandle"), (by decide +kernel : yX4_put.cls ≠ "java/lang/invoke/VarHandle"), (by decide +kernel : (parseMethodDescriptor yX4_put.desc).map (fun d => d.parameters.length) = some 3)⟩, Nat.le_of_ble_eq_true rfl⟩
noncomputable def f_X4_put (σ : Mem) (x0 : Nat) (x1 : Int32) (x2 : Int64) : Option Mem :=
  bd (4 * x1) (fun (v1 : Int32) => if v1 < 0 then (some σ) else (if (v1 + 2) < (Int32.ofNat (ln x0)) then (pL σ x0 v1 1 (fun (σ2 : Mem) => pL σ2 x0 (v1 + 1) x2 (fun (σ3 : Mem) => nzL 2 (pL σ3 x0 (v1 + 2) ((x2 * (x2 - 1)) / 2) (fun (σ4 : Mem) => some σ4))))) else (some σ)))
theorem t_X4_put {w : Wd} (hw : WOK w) {σ : Mem} {x0 : Nat} {x1 : Int32} {x2 : Int64} (hx0 : isk w x0 13) : JO w mu_X4_put vV σ [(0, .ref (adr w x0)), (1, .int x1), (2, .long x2)] [] 0 (f_X4_put σ x0 x1 x2) (fun z => some ((), z)) := by
  unfold f_X4_put
  refine jo_iconst (pc := 0) dX4_put_0 (ic_i_4) ?_
  refine jo_iload_n (pc := 1) 1 rfl dX4_put_1 rfl ?_
  refine jo_imul (pc := 2) dX4_put_2 ?_
  refine jo_bd ?_
  refine jo_istore (pc := 3) (lv' := [(4, .int (4 * x1)), (0, .ref (adr w x0)), (1, .int x1), (2, .long x2)]) dX4_put_3 (ltb rfl) rfl ?_
  generalize (4 * x1) = v1
  refine jo_iload (pc := 5) 0 rfl dX4_put_5 ?_
  refine jo_if_lt (pc := 7) dX4_put_7 (tgt := 19) rfl ?_ ?_
  · exact jo_return (pc := 19) rfl rfl dX4_put_19
  · refine jo_iload (pc := 10) 0 rfl dX4_put_10 ?_
    refine jo_iconst (pc := 12) dX4_put_12 (ic_i_2) ?_
    refine jo_iadd (pc := 13) dX4_put_13 ?_
    refine jo_aload_n (pc := 14) 1 rfl dX4_put_14 rfl ?_
    refine jo_alenI (pc := 15) (hx0) (by decide) (t := 1) rfl dX4_put_15 ?_
    refine jo_icmp_lt (pc := 16) dX4_put_16 (tgt := 20) rfl ?_ ?_
    · refine jo_aload_n (pc := 20) 1 rfl dX4_put_20 rfl ?_
      refine jo_iload (pc := 21) 0 rfl dX4_put_21 ?_
      refine jo_lconst (pc := 23) dX4_put_23 (ic_l_1) ?_
      refine jo_last (pc := 24) (hx0) dX4_put_24 (fun σ2 => ?_)
      refine jo_aload_n (pc := 25) 1 rfl dX4_put_25 rfl ?_
      refine jo_iload (pc := 26) 0 rfl dX4_put_26 ?_
      refine jo_iconst (pc := 28) dX4_put_28 (ic_i_1) ?_
      refine jo_iadd (pc := 29) dX4_put_29 ?_
      refine jo_lload_n (pc := 30) 3 rfl dX4_put_30 rfl ?_
      refine jo_last (pc := 31) (hx0) dX4_put_31 (fun σ3 => ?_)
      refine jo_aload_n (pc := 32) 1 rfl dX4_put_32 rfl ?_
      refine jo_iload (pc := 33) 0 rfl dX4_put_33 ?_
      refine jo_iconst (pc := 35) dX4_put_35 (ic_i_2) ?_
      refine jo_iadd (pc := 36) dX4_put_36 ?_
      refine jo_lload_n (pc := 37) 3 rfl dX4_put_37 rfl ?_
      refine jo_lload_n (pc := 38) 3 rfl dX4_put_38 rfl ?_
      refine jo_lconst (pc := 39) dX4_put_39 (ic_l_1) ?_
      refine jo_lsub (pc := 40) dX4_put_40 ?_
      refine jo_lmul (pc := 41) dX4_put_41 ?_
      refine jo_ldc2 (pc := 42) dX4_put_42 gw_616 ?_
      refine jo_ldiv (pc := 45) dX4_put_45 ?_
      refine jo_last (pc := 46) (hx0) dX4_put_46 (fun σ4 => ?_)
      exact jo_return (pc := 47) rfl rfl dX4_put_47
    · exact jo_return (pc := 19) rfl rfl dX4_put_19
theorem c_X4_put {w : Wd} (hw : WOK w) {σ : Mem} {x0 : Nat} {x1 : Int32} {x2 : Int64} (hx0 : isk w x0 13) : ∀ σ', f_X4_put σ x0 x1 x2 = some σ' → MC w mu_X4_put none [.ref (adr w x0), .int x1, .long x2] σ σ' := mc_ofV ok_X4_put rfl (Nat.le_of_ble_eq_true rfl) (t_X4_put hw hx0)
abbrev mu_X9_value : MD := (yX9_value, cX9_value, 6, some .long, 0)
theorem ok_X9_value : MOK mu_X9_value 1 := ⟨gw_620, gw_163, (by decide +kernel : plainFor yX9_value = true), ⟨(by decide +kernel : yX9_value.cls ≠ "java/lang/invoke/MethodHandle"), (by decide +kernel : yX9_value.cls ≠ "java/lang/invoke/VarHandle"), (by decide +kernel : (parseMethodDescriptor yX9_value.desc).map (fun d => d.parameters.length) = some 1)⟩, Nat.le_of_ble_eq_true rfl⟩
noncomputable def l_X9_value_5 (σ : Mem) (a : Nat) (x0 : Nat) (l1 : Int64) (i2 : Int32) : Option ((Int64 × Int32) ⊕ Int64) :=
  gF σ a 0 (fun (v3 : Int32) => if v3 ≤ i2 then (some (Sum.inr l1)) else (gI σ (rf a 3) i2 (fun (v4 : Int32) => gL σ (rf a 2) i2 (fun (v5 : Int64) => gL σ x0 (v4 &&& 63) (fun (v6 : Int64) => gL σ x0 ((v4 >>> (6 &&& 31)) &&& 63) (fun (v7 : Int64) => gL σ x0 ((v4 >>> (12 &&& 31)) &&& 63) (fun (v8 : Int64) => bd (l1 + (((v5 * v6) * v7) * v8)) (fun (v9 : Int64) => some (Sum.inl (v9, i2 + 1))))))))))
noncomputable def f_X9_value (σ : Mem) (a : Nat) (x0 : Nat) : Option Int64 :=
  loopO (fun (z2 : (Int64 × Int32)) => l_X9_value_5 σ a x0 z2.1 z2.2) (0, 0)
theorem t_X9_value {w : Wd} (hw : WOK w) {σ : Mem} {a : Nat} {x0 : Nat} (ha : isk w a 9) (hx0 : isk w x0 13) : JO w mu_X9_value vL σ [(0, .ref (adr w a)), (1, .ref (adr w x0))] [] 0 (f_X9_value σ a x0) (fun z => some (z, σ)) := by
  unfold f_X9_value
  refine jo_lconst (pc := 0) dX9_value_0 (ic_l_0) ?_
  refine jo_lstore_n (pc := 1) (lv' := [(2, .long 0), (0, .ref (adr w a)), (1, .ref (adr w x0))]) dX9_value_1 rfl (ltb rfl) rfl ?_
  refine jo_iconst (pc := 2) dX9_value_2 (ic_i_0) ?_
  refine jo_istore (pc := 3) (lv' := [(4, .int 0), (2, .long 0), (0, .ref (adr w a)), (1, .ref (adr w x0))]) dX9_value_3 (ltb rfl) rfl ?_
  refine jo_lv (lv' := [(0, .ref (adr w a)), (1, .ref (adr w x0)), (2, .long 0), (4, .int 0)]) [2, 3, 1, 0] rfl ?_
  refine jo_loop (X := Int64) (fun (z2 : (Int64 × Int32)) => σ) (fun (z2 : (Int64 × Int32)) => [(0, .ref (adr w a)), (1, .ref (adr w x0)), (2, .long z2.1), (4, .int z2.2)]) (body := (fun (z2 : (Int64 × Int32)) => l_X9_value_5 σ a x0 z2.1 z2.2)) (fun F5_2 hF5_2 s => ?_) (0, 0)
  obtain ⟨l1, i2⟩ := s
  show JO w mu_X9_value vL σ [(0, .ref (adr w a)), (1, .ref (adr w x0)), (2, .long l1), (4, .int i2)] [] 5 (l_X9_value_5 σ a x0 l1 i2) _
  unfold l_X9_value_5
  refine jo_iload (pc := 5) 3 rfl dX9_value_5 ?_
  refine jo_aload_n (pc := 7) 0 rfl dX9_value_7 rfl ?_
  refine jo_getf (pc := 8) ok_9_0 (ha) gw_279 dX9_value_8 (fun v3 => ?_)
  refine jo_icmp_ge (pc := 11) dX9_value_11 (tgt := 69) rfl ?_ ?_
  · refine jo_lload_n (pc := 69) 2 rfl dX9_value_69 rfl ?_
    exact jo_lreturn (pc := 70) rfl rfl dX9_value_70
  · refine jo_aload_n (pc := 14) 0 rfl dX9_value_14 rfl ?_
    refine jo_getr (pc := 15) ok_9_3 (ha) gw_289 dX9_value_15 ?_
    refine jo_iload (pc := 18) 3 rfl dX9_value_18 ?_
    refine jo_iald (pc := 20) (wf_9_3 hw (ha)) dX9_value_20 (fun v4 => ?_)
    refine jo_istore (pc := 21) (lv' := [(5, .int v4), (0, .ref (adr w a)), (1, .ref (adr w x0)), (2, .long l1), (4, .int i2)]) dX9_value_21 (ltb rfl) rfl ?_
    refine jo_lload_n (pc := 23) 3 rfl dX9_value_23 rfl ?_
    refine jo_aload_n (pc := 24) 1 rfl dX9_value_24 rfl ?_
    refine jo_getr (pc := 25) ok_9_2 (ha) gw_286 dX9_value_25 ?_
    refine jo_iload (pc := 28) 4 rfl dX9_value_28 ?_
    refine jo_lald (pc := 30) (wf_9_2 hw (ha)) dX9_value_30 (fun v5 => ?_)
    refine jo_aload_n (pc := 31) 2 rfl dX9_value_31 rfl ?_
    refine jo_iload (pc := 32) 0 rfl dX9_value_32 ?_
    refine jo_bipush (pc := 34) dX9_value_34 (ic_b_63) ?_
    refine jo_iand (pc := 36) dX9_value_36 ?_
    refine jo_lald (pc := 37) (hx0) dX9_value_37 (fun v6 => ?_)
    refine jo_lmul (pc := 38) dX9_value_38 ?_
    refine jo_aload_n (pc := 39) 2 rfl dX9_value_39 rfl ?_
    refine jo_iload (pc := 40) 0 rfl dX9_value_40 ?_
    refine jo_bipush (pc := 42) dX9_value_42 (ic_b_6) ?_
    refine jo_ishr (pc := 44) dX9_value_44 ?_
    refine jo_bipush (pc := 45) dX9_value_45 (ic_b_63) ?_
    refine jo_iand (pc := 47) dX9_value_47 ?_
    refine jo_lald (pc := 48) (hx0) dX9_value_48 (fun v7 => ?_)
    refine jo_lmul (pc := 49) dX9_value_49 ?_
    refine jo_aload_n (pc := 50) 2 rfl dX9_value_50 rfl ?_
    refine jo_iload (pc := 51) 0 rfl dX9_value_51 ?_
    refine jo_bipush (pc := 53) dX9_value_53 (ic_b_12) ?_
    refine jo_ishr (pc := 55) dX9_value_55 ?_
    refine jo_bipush (pc := 56) dX9_value_56 (ic_b_63) ?_
    refine jo_iand (pc := 58) dX9_value_58 ?_
    refine jo_lald (pc := 59) (hx0) dX9_value_59 (fun v8 => ?_)
    refine jo_lmul (pc := 60) dX9_value_60 ?_
    refine jo_ladd (pc := 61) dX9_value_61 ?_
    refine jo_bd ?_
    refine jo_lstore_n (pc := 62) (lv' := [(2, .long (l1 + (((v5 * v6) * v7) * v8))), (5, .int v4), (0, .ref (adr w a)), (1, .ref (adr w x0)), (4, .int i2)]) dX9_value_62 rfl (ltb rfl) rfl ?_
    generalize (l1 + (((v5 * v6) * v7) * v8)) = v9
    refine jo_iinc (pc := 63) (lv' := [(4, .int (i2 + 1)), (2, .long v9), (5, .int v4), (0, .ref (adr w a)), (1, .ref (adr w x0))]) 4 rfl dX9_value_63 (congrArg (fun z => i2 + z) (ic_i_1)) (ltb rfl) rfl ?_
    refine jo_goto (pc := 66) dX9_value_66 (tgt := 5) rfl ?_
    refine jo_lv (lv' := [(0, .ref (adr w a)), (1, .ref (adr w x0)), (2, .long v9), (4, .int (i2 + 1))]) [3, 4, 1, 0] rfl ?_
    exact jo_leaf (by rfl) (hF5_2 (v9, i2 + 1))
theorem c_X9_value {w : Wd} (hw : WOK w) {σ : Mem} {a : Nat} {x0 : Nat} (ha : isk w a 9) (hx0 : isk w x0 13) : ∀ r, f_X9_value σ a x0 = some r → MC w mu_X9_value (vL r) [.ref (adr w a), .ref (adr w x0)] σ σ := mc_ofP ok_X9_value rfl (Nat.le_of_ble_eq_true rfl) (t_X9_value hw ha hx0)
abbrev mu_X0_product : MD := (yX0_product, cX0_product, 5, none, 1)
theorem ok_X0_product : MOK mu_X0_product 3 := ⟨gw_817, gw_164, (by decide +kernel : plainFor yX0_product = true), ⟨(by decide +kernel : yX0_product.cls ≠ "java/lang/invoke/MethodHandle"), (by decide +kernel : yX0_product.cls ≠ "java/lang/invoke/VarHandle"), (by decide +kernel : (parseMethodDescriptor yX0_product.desc).map (fun d => d.parameters.length) = some 3)⟩, Nat.le_of_ble_eq_true rfl⟩
noncomputable def l_X0_product_48 (x0 : Nat) (σ2 : Mem) (i3 : Int32) : Option ((Mem × Int32) ⊕ Mem) :=
  if 6 ≤ i3 then (some (Sum.inr σ2)) else (gR 44 i3 (fun (p4 : Nat) => (f_X9_value σ2 p4 73).bind (fun (v5 : Int64) => pL σ2 x0 i3 v5 (fun (σ6 : Mem) => some (Sum.inl (σ6, i3 + 1))))))
noncomputable def j_X0_product_45 (x0 : Nat) (σ1 : Mem) : Option Mem :=
  loopO (fun (z3 : (Mem × Int32)) => l_X0_product_48 x0 z3.1 z3.2) (σ1, 0)
noncomputable def l_X0_product_3 (x1 : Nat) (x2 : Nat) (σ7 : Mem) (i8 : Int32) : Option ((Mem × Int32) ⊕ Mem) :=
  if 6 ≤ i8 then (some (Sum.inr σ7)) else (gL σ7 x1 i8 (fun (v9 : Int64) => (f_X4_put σ7 73 i8 v9).bind (fun (σ10 : Mem) => gL σ10 x2 i8 (fun (v11 : Int64) => (f_X4_put σ10 73 (6 + i8) v11).bind (fun (σ12 : Mem) => some (Sum.inl (σ12, i8 + 1)))))))
noncomputable def f_X0_product (σ : Mem) (x0 : Nat) (x1 : Nat) (x2 : Nat) : Option Mem :=
  (loopO (fun (z8 : (Mem × Int32)) => l_X0_product_3 x1 x2 z8.1 z8.2) (σ, 0) : Option Mem).bind (fun (z1 : Mem) => j_X0_product_45 x0 z1)
theorem t_X0_product {w : Wd} (hw : WOK w) {σ : Mem} {x0 : Nat} {x1 : Nat} {x2 : Nat} (hx0 : isk w x0 13) (hx1 : isk w x1 13) (hx2 : isk w x2 13) : JO w mu_X0_product vV σ [(0, .ref (adr w 72)), (1, .ref (adr w x0)), (2, .ref (adr w x1)), (3, .ref (adr w x2))] [] 0 (f_X0_product σ x0 x1 x2) (fun z => some ((), z)) := by
  unfold f_X0_product
  refine jo_iconst (pc := 0) dX0_product_0 (ic_i_0) ?_
  refine jo_istore (pc := 1) (lv' := [(4, .int 0), (0, .ref (adr w 72)), (1, .ref (adr w x0)), (2, .ref (adr w x1)), (3, .ref (adr w x2))]) dX0_product_1 (ltb rfl) rfl ?_
  refine jo_join1 (S := Mem) (fun (z1 : Mem) => z1) (fun (z1 : Mem) => [(0, .ref (adr w 72)), (1, .ref (adr w x0))]) (fun (z1 : Mem) => []) 45 ?_ (fun h45_1 => ?_)
  · intro σ1
    show JO w mu_X0_product vV σ1 [(0, .ref (adr w 72)), (1, .ref (adr w x0))] [] 45 (j_X0_product_45 x0 σ1) _
    unfold j_X0_product_45
    refine jo_iconst (pc := 45) dX0_product_45 (ic_i_0) ?_
    refine jo_istore (pc := 46) (lv' := [(4, .int 0), (0, .ref (adr w 72)), (1, .ref (adr w x0))]) dX0_product_46 (ltb rfl) rfl ?_
    refine jo_lv (lv' := [(0, .ref (adr w 72)), (1, .ref (adr w x0)), (4, .int 0)]) [1, 2, 0] rfl ?_
    refine jo_loop (X := Mem) (fun (z3 : (Mem × Int32)) => z3.1) (fun (z3 : (Mem × Int32)) => [(0, .ref (adr w 72)), (1, .ref (adr w x0)), (4, .int z3.2)]) (body := (fun (z3 : (Mem × Int32)) => l_X0_product_48 x0 z3.1 z3.2)) (fun F48_3 hF48_3 s => ?_) (σ1, 0)
    obtain ⟨σ2, i3⟩ := s
    show JO w mu_X0_product vV σ2 [(0, .ref (adr w 72)), (1, .ref (adr w x0)), (4, .int i3)] [] 48 (l_X0_product_48 x0 σ2 i3) _
    unfold l_X0_product_48
    refine jo_iload (pc := 48) 2 rfl dX0_product_48 ?_
    refine jo_bipush (pc := 50) dX0_product_50 (ic_b_6) ?_
    refine jo_icmp_ge (pc := 52) dX0_product_52 (tgt := 82) rfl ?_ ?_
    · exact jo_return (pc := 82) rfl rfl dX0_product_82
    · refine jo_aload_n (pc := 55) 1 rfl dX0_product_55 rfl ?_
      refine jo_iload (pc := 56) 2 rfl dX0_product_56 ?_
      refine jo_aload_n (pc := 58) 0 rfl dX0_product_58 rfl ?_
      refine jo_getrE (pc := 59) ok_0_0 (ik_72 hw) rf_72_0 gw_340 dX0_product_59 ?_
      refine jo_getrE (pc := 62) ok_4_2 (ik_40 hw) rf_40_2 gw_305 dX0_product_62 ?_
      refine jo_iload (pc := 65) 2 rfl dX0_product_65 ?_
      refine jo_aaldG (pc := 67) (z := 9) hw (ik_44 hw) (by decide) (t := 3) rfl rfl (by decide) dX0_product_67 (fun p4 hp4 => ?_)
      refine jo_aload_n (pc := 68) 0 rfl dX0_product_68 rfl ?_
      refine jo_getrE (pc := 69) ok_0_1 (ik_72 hw) rf_72_1 gw_341 dX0_product_69 ?_
      refine jo_cV_J_p (pc := 72) (μ' := mu_X9_value) (fx := f_X9_value σ2 p4 73) (As := [.ref (adr w 73)]) (c_X9_value hw (hp4) (ik_73 hw)) (ok_X9_value) (ltb rfl) (all3 gw_819 gw_618 gw_619) (hp4) (by decide) (q := (RX9, TX9, 4)) rfl rfl rfl rfl (Nat.le_of_ble_eq_true rfl) dX0_product_72 (fun v5 => ?_)
      refine jo_last (pc := 75) (hx0) dX0_product_75 (fun σ6 => ?_)
      refine jo_iinc (pc := 76) (lv' := [(4, .int (i3 + 1)), (0, .ref (adr w 72)), (1, .ref (adr w x0))]) 2 rfl dX0_product_76 (congrArg (fun z => i3 + z) (ic_i_1)) (ltb rfl) rfl ?_
      refine jo_goto (pc := 79) dX0_product_79 (tgt := 48) rfl ?_
      refine jo_lv (lv' := [(0, .ref (adr w 72)), (1, .ref (adr w x0)), (4, .int (i3 + 1))]) [1, 2, 0] rfl ?_
      exact jo_leaf (by rfl) (hF48_3 (σ6, i3 + 1))
  · refine jo_lv (lv' := [(0, .ref (adr w 72)), (1, .ref (adr w x0)), (2, .ref (adr w x1)), (3, .ref (adr w x2)), (4, .int 0)]) [1, 2, 3, 4, 0] rfl ?_
    refine jo_loop (X := Mem) (fun (z8 : (Mem × Int32)) => z8.1) (fun (z8 : (Mem × Int32)) => [(0, .ref (adr w 72)), (1, .ref (adr w x0)), (2, .ref (adr w x1)), (3, .ref (adr w x2)), (4, .int z8.2)]) (body := (fun (z8 : (Mem × Int32)) => l_X0_product_3 x1 x2 z8.1 z8.2)) (fun F3_8 hF3_8 s => ?_) (σ, 0)
    obtain ⟨σ7, i8⟩ := s
    show JO w mu_X0_product vV σ7 [(0, .ref (adr w 72)), (1, .ref (adr w x0)), (2, .ref (adr w x1)), (3, .ref (adr w x2)), (4, .int i8)] [] 3 (l_X0_product_3 x1 x2 σ7 i8) _
    unfold l_X0_product_3
    refine jo_iload (pc := 3) 4 rfl dX0_product_3 ?_
    refine jo_bipush (pc := 5) dX0_product_5 (ic_b_6) ?_
    refine jo_icmp_ge (pc := 7) dX0_product_7 (tgt := 45) rfl ?_ ?_
    · refine jo_lv (lv' := [(0, .ref (adr w 72)), (1, .ref (adr w x0))]) [0, 1] rfl ?_
      exact jo_leaf (by rfl) (h45_1 σ7)
    · refine jo_aload_n (pc := 10) 0 rfl dX0_product_10 rfl ?_
      refine jo_getrE (pc := 11) ok_0_1 (ik_72 hw) rf_72_1 gw_341 dX0_product_11 ?_
      refine jo_iload (pc := 14) 4 rfl dX0_product_14 ?_
      refine jo_aload_n (pc := 16) 2 rfl dX0_product_16 rfl ?_
      refine jo_iload (pc := 17) 4 rfl dX0_product_17 ?_
      refine jo_lald (pc := 19) (hx1) dX0_product_19 (fun v9 => ?_)
      refine jo_cS_V_i (pc := 20) (μ' := mu_X4_put) (fx := f_X4_put σ7 73 i8 v9) (As := [.ref (adr w 73), .int i8, .long v9]) (c_X4_put hw (ik_73 hw)) (ok_X4_put) (ltb rfl) (all2 gw_818 gw_614) rfl rfl (Nat.le_of_ble_eq_true rfl) dX0_product_20 (fun σ10 => ?_)
      refine jo_aload_n (pc := 23) 0 rfl dX0_product_23 rfl ?_
      refine jo_getrE (pc := 24) ok_0_1 (ik_72 hw) rf_72_1 gw_341 dX0_product_24 ?_
      refine jo_bipush (pc := 27) dX0_product_27 (ic_b_6) ?_
      refine jo_iload (pc := 29) 4 rfl dX0_product_29 ?_
      refine jo_iadd (pc := 31) dX0_product_31 ?_
      refine jo_aload_n (pc := 32) 3 rfl dX0_product_32 rfl ?_
      refine jo_iload (pc := 33) 4 rfl dX0_product_33 ?_
      refine jo_lald (pc := 35) (hx2) dX0_product_35 (fun v11 => ?_)
      refine jo_cS_V_i (pc := 36) (μ' := mu_X4_put) (fx := f_X4_put σ10 73 (6 + i8) v11) (As := [.ref (adr w 73), .int (6 + i8), .long v11]) (c_X4_put hw (ik_73 hw)) (ok_X4_put) (ltb rfl) (all2 gw_818 gw_614) rfl rfl (Nat.le_of_ble_eq_true rfl) dX0_product_36 (fun σ12 => ?_)
      refine jo_iinc (pc := 39) (lv' := [(4, .int (i8 + 1)), (0, .ref (adr w 72)), (1, .ref (adr w x0)), (2, .ref (adr w x1)), (3, .ref (adr w x2))]) 4 rfl dX0_product_39 (congrArg (fun z => i8 + z) (ic_i_1)) (ltb rfl) rfl ?_
      refine jo_goto (pc := 42) dX0_product_42 (tgt := 3) rfl ?_
      refine jo_lv (lv' := [(0, .ref (adr w 72)), (1, .ref (adr w x0)), (2, .ref (adr w x1)), (3, .ref (adr w x2)), (4, .int (i8 + 1))]) [1, 2, 3, 4, 0] rfl ?_
      exact jo_leaf (by rfl) (hF3_8 (σ12, i8 + 1))
theorem c_X0_product {w : Wd} (hw : WOK w) {σ : Mem} {x0 : Nat} {x1 : Nat} {x2 : Nat} (hx0 : isk w x0 13) (hx1 : isk w x1 13) (hx2 : isk w x2 13) : ∀ σ', f_X0_product σ x0 x1 x2 = some σ' → MC w mu_X0_product none [.ref (adr w 72), .ref (adr w x0), .ref (adr w x1), .ref (adr w x2)] σ σ' := mc_ofV ok_X0_product rfl (Nat.le_of_ble_eq_true rfl) (t_X0_product hw hx0 hx1 hx2)
abbrev mu_X0_inverse : MD := (yX0_inverse, cX0_inverse, 4, none, 1)
theorem ok_X0_inverse : MOK mu_X0_inverse 2 := ⟨gw_840, gw_164, (by decide +kernel : plainFor yX0_inverse = true), ⟨(by decide +kernel : yX0_inverse.cls ≠ "java/lang/invoke/MethodHandle"), (by decide +kernel : yX0_inverse.cls ≠ "java/lang/invoke/VarHandle"), (by decide +kernel : (parseMethodDescriptor yX0_inverse.desc).map (fun d => d.parameters.length) = some 2)⟩, Nat.le_of_ble_eq_true rfl⟩
noncomputable def l_X0_inverse_39 (x0 : Nat) (σ2 : Mem) (i3 : Int32) : Option ((Mem × Int32) ⊕ Mem) :=
  if 6 ≤ i3 then (some (Sum.inr σ2)) else (gR 44 i3 (fun (p4 : Nat) => (f_X9_value σ2 p4 73).bind (fun (v5 : Int64) => pL σ2 x0 i3 (-v5) (fun (σ6 : Mem) => gL σ6 x0 i3 (fun (v7 : Int64) => (f_X4_put σ6 73 (6 + i3) v7).bind (fun (σ8 : Mem) => some (Sum.inl (σ8, i3 + 1))))))))
noncomputable def j_X0_inverse_37 (x0 : Nat) (σ1 : Mem) : Option Mem :=
  loopO (fun (z3 : (Mem × Int32)) => l_X0_inverse_39 x0 z3.1 z3.2) (σ1, 0)
noncomputable def l_X0_inverse_2 (x1 : Nat) (σ9 : Mem) (i10 : Int32) : Option ((Mem × Int32) ⊕ Mem) :=
  if 6 ≤ i10 then (some (Sum.inr σ9)) else (gL σ9 x1 i10 (fun (v11 : Int64) => (f_X4_put σ9 73 i10 v11).bind (fun (σ12 : Mem) => (f_X4_put σ12 73 (6 + i10) 0).bind (fun (σ13 : Mem) => some (Sum.inl (σ13, i10 + 1))))))
noncomputable def f_X0_inverse (σ : Mem) (x0 : Nat) (x1 : Nat) : Option Mem :=
  (loopO (fun (z10 : (Mem × Int32)) => l_X0_inverse_2 x1 z10.1 z10.2) (σ, 0) : Option Mem).bind (fun (z1 : Mem) => j_X0_inverse_37 x0 z1)
theorem t_X0_inverse {w : Wd} (hw : WOK w) {σ : Mem} {x0 : Nat} {x1 : Nat} (hx0 : isk w x0 13) (hx1 : isk w x1 13) : JO w mu_X0_inverse vV σ [(0, .ref (adr w 72)), (1, .ref (adr w x0)), (2, .ref (adr w x1))] [] 0 (f_X0_inverse σ x0 x1) (fun z => some ((), z)) := by
  unfold f_X0_inverse
  refine jo_iconst (pc := 0) dX0_inverse_0 (ic_i_0) ?_
  refine jo_istore_n (pc := 1) (lv' := [(3, .int 0), (0, .ref (adr w 72)), (1, .ref (adr w x0)), (2, .ref (adr w x1))]) dX0_inverse_1 rfl (ltb rfl) rfl ?_
  refine jo_join1 (S := Mem) (fun (z1 : Mem) => z1) (fun (z1 : Mem) => [(0, .ref (adr w 72)), (1, .ref (adr w x0))]) (fun (z1 : Mem) => []) 37 ?_ (fun h37_1 => ?_)
  · intro σ1
    show JO w mu_X0_inverse vV σ1 [(0, .ref (adr w 72)), (1, .ref (adr w x0))] [] 37 (j_X0_inverse_37 x0 σ1) _
    unfold j_X0_inverse_37
    refine jo_iconst (pc := 37) dX0_inverse_37 (ic_i_0) ?_
    refine jo_istore_n (pc := 38) (lv' := [(3, .int 0), (0, .ref (adr w 72)), (1, .ref (adr w x0))]) dX0_inverse_38 rfl (ltb rfl) rfl ?_
    refine jo_lv (lv' := [(0, .ref (adr w 72)), (1, .ref (adr w x0)), (3, .int 0)]) [1, 2, 0] rfl ?_
    refine jo_loop (X := Mem) (fun (z3 : (Mem × Int32)) => z3.1) (fun (z3 : (Mem × Int32)) => [(0, .ref (adr w 72)), (1, .ref (adr w x0)), (3, .int z3.2)]) (body := (fun (z3 : (Mem × Int32)) => l_X0_inverse_39 x0 z3.1 z3.2)) (fun F39_3 hF39_3 s => ?_) (σ1, 0)
    obtain ⟨σ2, i3⟩ := s
    show JO w mu_X0_inverse vV σ2 [(0, .ref (adr w 72)), (1, .ref (adr w x0)), (3, .int i3)] [] 39 (l_X0_inverse_39 x0 σ2 i3) _
    unfold l_X0_inverse_39
    refine jo_iload_n (pc := 39) 2 rfl dX0_inverse_39 rfl ?_
    refine jo_bipush (pc := 40) dX0_inverse_40 (ic_b_6) ?_
    refine jo_icmp_ge (pc := 42) dX0_inverse_42 (tgt := 85) rfl ?_ ?_
    · exact jo_return (pc := 85) rfl rfl dX0_inverse_85
    · refine jo_aload_n (pc := 45) 1 rfl dX0_inverse_45 rfl ?_
      refine jo_iload_n (pc := 46) 2 rfl dX0_inverse_46 rfl ?_
      refine jo_aload_n (pc := 47) 0 rfl dX0_inverse_47 rfl ?_
      refine jo_getrE (pc := 48) ok_0_0 (ik_72 hw) rf_72_0 gw_340 dX0_inverse_48 ?_
      refine jo_getrE (pc := 51) ok_4_2 (ik_40 hw) rf_40_2 gw_305 dX0_inverse_51 ?_
      refine jo_iload_n (pc := 54) 2 rfl dX0_inverse_54 rfl ?_
      refine jo_aaldG (pc := 55) (z := 9) hw (ik_44 hw) (by decide) (t := 3) rfl rfl (by decide) dX0_inverse_55 (fun p4 hp4 => ?_)
      refine jo_aload_n (pc := 56) 0 rfl dX0_inverse_56 rfl ?_
      refine jo_getrE (pc := 57) ok_0_1 (ik_72 hw) rf_72_1 gw_341 dX0_inverse_57 ?_
      refine jo_cV_J_p (pc := 60) (μ' := mu_X9_value) (fx := f_X9_value σ2 p4 73) (As := [.ref (adr w 73)]) (c_X9_value hw (hp4) (ik_73 hw)) (ok_X9_value) (ltb rfl) (all3 gw_819 gw_618 gw_619) (hp4) (by decide) (q := (RX9, TX9, 4)) rfl rfl rfl rfl (Nat.le_of_ble_eq_true rfl) dX0_inverse_60 (fun v5 => ?_)
      refine jo_lneg (pc := 63) dX0_inverse_63 ?_
      refine jo_last (pc := 64) (hx0) dX0_inverse_64 (fun σ6 => ?_)
      refine jo_aload_n (pc := 65) 0 rfl dX0_inverse_65 rfl ?_
      refine jo_getrE (pc := 66) ok_0_1 (ik_72 hw) rf_72_1 gw_341 dX0_inverse_66 ?_
      refine jo_bipush (pc := 69) dX0_inverse_69 (ic_b_6) ?_
      refine jo_iload_n (pc := 71) 2 rfl dX0_inverse_71 rfl ?_
      refine jo_iadd (pc := 72) dX0_inverse_72 ?_
      refine jo_aload_n (pc := 73) 1 rfl dX0_inverse_73 rfl ?_
      refine jo_iload_n (pc := 74) 2 rfl dX0_inverse_74 rfl ?_
      refine jo_lald (pc := 75) (hx0) dX0_inverse_75 (fun v7 => ?_)
      refine jo_cS_V_i (pc := 76) (μ' := mu_X4_put) (fx := f_X4_put σ6 73 (6 + i3) v7) (As := [.ref (adr w 73), .int (6 + i3), .long v7]) (c_X4_put hw (ik_73 hw)) (ok_X4_put) (ltb rfl) (all2 gw_818 gw_614) rfl rfl (Nat.le_of_ble_eq_true rfl) dX0_inverse_76 (fun σ8 => ?_)
      refine jo_iinc (pc := 79) (lv' := [(3, .int (i3 + 1)), (0, .ref (adr w 72)), (1, .ref (adr w x0))]) 2 rfl dX0_inverse_79 (congrArg (fun z => i3 + z) (ic_i_1)) (ltb rfl) rfl ?_
      refine jo_goto (pc := 82) dX0_inverse_82 (tgt := 39) rfl ?_
      refine jo_lv (lv' := [(0, .ref (adr w 72)), (1, .ref (adr w x0)), (3, .int (i3 + 1))]) [1, 2, 0] rfl ?_
      exact jo_leaf (by rfl) (hF39_3 (σ8, i3 + 1))
  · refine jo_lv (lv' := [(0, .ref (adr w 72)), (1, .ref (adr w x0)), (2, .ref (adr w x1)), (3, .int 0)]) [1, 2, 3, 0] rfl ?_
    refine jo_loop (X := Mem) (fun (z10 : (Mem × Int32)) => z10.1) (fun (z10 : (Mem × Int32)) => [(0, .ref (adr w 72)), (1, .ref (adr w x0)), (2, .ref (adr w x1)), (3, .int z10.2)]) (body := (fun (z10 : (Mem × Int32)) => l_X0_inverse_2 x1 z10.1 z10.2)) (fun F2_10 hF2_10 s => ?_) (σ, 0)
    obtain ⟨σ9, i10⟩ := s
    show JO w mu_X0_inverse vV σ9 [(0, .ref (adr w 72)), (1, .ref (adr w x0)), (2, .ref (adr w x1)), (3, .int i10)] [] 2 (l_X0_inverse_2 x1 σ9 i10) _
    unfold l_X0_inverse_2
    refine jo_iload_n (pc := 2) 3 rfl dX0_inverse_2 rfl ?_
    refine jo_bipush (pc := 3) dX0_inverse_3 (ic_b_6) ?_
    refine jo_icmp_ge (pc := 5) dX0_inverse_5 (tgt := 37) rfl ?_ ?_
    · refine jo_lv (lv' := [(0, .ref (adr w 72)), (1, .ref (adr w x0))]) [0, 1] rfl ?_
      exact jo_leaf (by rfl) (h37_1 σ9)
    · refine jo_aload_n (pc := 8) 0 rfl dX0_inverse_8 rfl ?_
      refine jo_getrE (pc := 9) ok_0_1 (ik_72 hw) rf_72_1 gw_341 dX0_inverse_9 ?_
      refine jo_iload_n (pc := 12) 3 rfl dX0_inverse_12 rfl ?_
      refine jo_aload_n (pc := 13) 2 rfl dX0_inverse_13 rfl ?_
      refine jo_iload_n (pc := 14) 3 rfl dX0_inverse_14 rfl ?_
      refine jo_lald (pc := 15) (hx1) dX0_inverse_15 (fun v11 => ?_)
      refine jo_cS_V_i (pc := 16) (μ' := mu_X4_put) (fx := f_X4_put σ9 73 i10 v11) (As := [.ref (adr w 73), .int i10, .long v11]) (c_X4_put hw (ik_73 hw)) (ok_X4_put) (ltb rfl) (all2 gw_818 gw_614) rfl rfl (Nat.le_of_ble_eq_true rfl) dX0_inverse_16 (fun σ12 => ?_)
      refine jo_aload_n (pc := 19) 0 rfl dX0_inverse_19 rfl ?_
      refine jo_getrE (pc := 20) ok_0_1 (ik_72 hw) rf_72_1 gw_341 dX0_inverse_20 ?_
      refine jo_bipush (pc := 23) dX0_inverse_23 (ic_b_6) ?_
      refine jo_iload_n (pc := 25) 3 rfl dX0_inverse_25 rfl ?_
      refine jo_iadd (pc := 26) dX0_inverse_26 ?_
      refine jo_lconst (pc := 27) dX0_inverse_27 (ic_l_0) ?_
      refine jo_cS_V_i (pc := 28) (μ' := mu_X4_put) (fx := f_X4_put σ12 73 (6 + i10) 0) (As := [.ref (adr w 73), .int (6 + i10), .long 0]) (c_X4_put hw (ik_73 hw)) (ok_X4_put) (ltb rfl) (all2 gw_818 gw_614) rfl rfl (Nat.le_of_ble_eq_true rfl) dX0_inverse_28 (fun σ13 => ?_)
      refine jo_iinc (pc := 31) (lv' := [(3, .int (i10 + 1)), (0, .ref (adr w 72)), (1, .ref (adr w x0)), (2, .ref (adr w x1))]) 3 rfl dX0_inverse_31 (congrArg (fun z => i10 + z) (ic_i_1)) (ltb rfl) rfl ?_
      refine jo_goto (pc := 34) dX0_inverse_34 (tgt := 2) rfl ?_
      refine jo_lv (lv' := [(0, .ref (adr w 72)), (1, .ref (adr w x0)), (2, .ref (adr w x1)), (3, .int (i10 + 1))]) [1, 2, 3, 0] rfl ?_
      exact jo_leaf (by rfl) (hF2_10 (σ13, i10 + 1))
theorem c_X0_inverse {w : Wd} (hw : WOK w) {σ : Mem} {x0 : Nat} {x1 : Nat} (hx0 : isk w x0 13) (hx1 : isk w x1 13) : ∀ σ', f_X0_inverse σ x0 x1 = some σ' → MC w mu_X0_inverse none [.ref (adr w 72), .ref (adr w x0), .ref (adr w x1)] σ σ' := mc_ofV ok_X0_inverse rfl (Nat.le_of_ble_eq_true rfl) (t_X0_inverse hw hx0 hx1)
abbrev mu_X0_commutator : MD := (yX0_commutator, cX0_commutator, 4, none, 2)
theorem ok_X0_commutator : MOK mu_X0_commutator 3 := ⟨gw_873, gw_164, (by decide +kernel : plainFor yX0_commutator = true), ⟨(by decide +kernel : yX0_commutator.cls ≠ "java/lang/invoke/MethodHandle"), (by decide +kernel : yX0_commutator.cls ≠ "java/lang/invoke/VarHandle"), (by decide +kernel : (parseMethodDescriptor yX0_commutator.desc).map (fun d => d.parameters.length) = some 3)⟩, Nat.le_of_ble_eq_true rfl⟩
noncomputable def f_X0_commutator (σ : Mem) (x0 : Nat) (x1 : Nat) (x2 : Nat) : Option Mem :=
  (f_X0_product σ 79 x1 x2).bind (fun (σ1 : Mem) => (f_X0_product σ1 78 x2 x1).bind (fun (σ2 : Mem) => (f_X0_inverse σ2 78 78).bind (fun (σ3 : Mem) => (f_X0_product σ3 x0 78 79).bind (fun (σ4 : Mem) => some σ4))))
theorem t_X0_commutator {w : Wd} (hw : WOK w) {σ : Mem} {x0 : Nat} {x1 : Nat} {x2 : Nat} (hx0 : isk w x0 13) (hx1 : isk w x1 13) (hx2 : isk w x2 13) : JO w mu_X0_commutator vV σ [(0, .ref (adr w 72)), (1, .ref (adr w x0)), (2, .ref (adr w x1)), (3, .ref (adr w x2))] [] 0 (f_X0_commutator σ x0 x1 x2) (fun z => some ((), z)) := by
  unfold f_X0_commutator
  refine jo_aload_n (pc := 0) 0 rfl dX0_commutator_0 rfl ?_
  refine jo_aload_n (pc := 1) 0 rfl dX0_commutator_1 rfl ?_
  refine jo_getrE (pc := 2) ok_0_7 (ik_72 hw) rf_72_7 gw_347 dX0_commutator_2 ?_
  refine jo_aload_n (pc := 5) 2 rfl dX0_commutator_5 rfl ?_
  refine jo_aload_n (pc := 6) 3 rfl dX0_commutator_6 rfl ?_
  refine jo_cV_V_i (pc := 7) (μ' := mu_X0_product) (fx := f_X0_product σ 79 x1 x2) (As := [.ref (adr w 79), .ref (adr w x1), .ref (adr w x2)]) (c_X0_product hw (ik_79 hw) (hx1) (hx2)) (ok_X0_product) (ltb rfl) (all3 gw_854 gw_815 gw_816) (ik_72 hw) (by decide) (q := (RX0, TX0, 8)) rfl rfl rfl rfl (Nat.le_of_ble_eq_true rfl) dX0_commutator_7 (fun σ1 => ?_)
  refine jo_aload_n (pc := 10) 0 rfl dX0_commutator_10 rfl ?_
  refine jo_aload_n (pc := 11) 0 rfl dX0_commutator_11 rfl ?_
  refine jo_getrE (pc := 12) ok_0_6 (ik_72 hw) rf_72_6 gw_346 dX0_commutator_12 ?_
  refine jo_aload_n (pc := 15) 3 rfl dX0_commutator_15 rfl ?_
  refine jo_aload_n (pc := 16) 2 rfl dX0_commutator_16 rfl ?_
  refine jo_cV_V_i (pc := 17) (μ' := mu_X0_product) (fx := f_X0_product σ1 78 x2 x1) (As := [.ref (adr w 78), .ref (adr w x2), .ref (adr w x1)]) (c_X0_product hw (ik_78 hw) (hx2) (hx1)) (ok_X0_product) (ltb rfl) (all3 gw_854 gw_815 gw_816) (ik_72 hw) (by decide) (q := (RX0, TX0, 8)) rfl rfl rfl rfl (Nat.le_of_ble_eq_true rfl) dX0_commutator_17 (fun σ2 => ?_)
  refine jo_aload_n (pc := 20) 0 rfl dX0_commutator_20 rfl ?_
  refine jo_aload_n (pc := 21) 0 rfl dX0_commutator_21 rfl ?_
  refine jo_getrE (pc := 22) ok_0_6 (ik_72 hw) rf_72_6 gw_346 dX0_commutator_22 ?_
  refine jo_aload_n (pc := 25) 0 rfl dX0_commutator_25 rfl ?_
  refine jo_getrE (pc := 26) ok_0_6 (ik_72 hw) rf_72_6 gw_346 dX0_commutator_26 ?_
  refine jo_cV_V_i (pc := 29) (μ' := mu_X0_inverse) (fx := f_X0_inverse σ2 78 78) (As := [.ref (adr w 78), .ref (adr w 78)]) (c_X0_inverse hw (ik_78 hw) (ik_78 hw)) (ok_X0_inverse) (ltb rfl) (all3 gw_874 gw_838 gw_839) (ik_72 hw) (by decide) (q := (RX0, TX0, 8)) rfl rfl rfl rfl (Nat.le_of_ble_eq_true rfl) dX0_commutator_29 (fun σ3 => ?_)
  refine jo_aload_n (pc := 32) 0 rfl dX0_commutator_32 rfl ?_
  refine jo_aload_n (pc := 33) 1 rfl dX0_commutator_33 rfl ?_
  refine jo_aload_n (pc := 34) 0 rfl dX0_commutator_34 rfl ?_
  refine jo_getrE (pc := 35) ok_0_6 (ik_72 hw) rf_72_6 gw_346 dX0_commutator_35 ?_
  refine jo_aload_n (pc := 38) 0 rfl dX0_commutator_38 rfl ?_
  refine jo_getrE (pc := 39) ok_0_7 (ik_72 hw) rf_72_7 gw_347 dX0_commutator_39 ?_
  refine jo_cV_V_i (pc := 42) (μ' := mu_X0_product) (fx := f_X0_product σ3 x0 78 79) (As := [.ref (adr w x0), .ref (adr w 78), .ref (adr w 79)]) (c_X0_product hw (hx0) (ik_78 hw) (ik_79 hw)) (ok_X0_product) (ltb rfl) (all3 gw_854 gw_815 gw_816) (ik_72 hw) (by decide) (q := (RX0, TX0, 8)) rfl rfl rfl rfl (Nat.le_of_ble_eq_true rfl) dX0_commutator_42 (fun σ4 => ?_)
  exact jo_return (pc := 45) rfl rfl dX0_commutator_45
theorem c_X0_commutator {w : Wd} (hw : WOK w) {σ : Mem} {x0 : Nat} {x1 : Nat} {x2 : Nat} (hx0 : isk w x0 13) (hx1 : isk w x1 13) (hx2 : isk w x2 13) : ∀ σ', f_X0_commutator σ x0 x1 x2 = some σ' → MC w mu_X0_commutator none [.ref (adr w 72), .ref (adr w x0), .ref (adr w x1), .ref (adr w x2)] σ σ' := mc_ofV ok_X0_commutator rfl (Nat.le_of_ble_eq_true rfl) (t_X0_commutator hw hx0 hx1 hx2)
abbrev mu_X0_conjugated : MD := (yX0_conjugated, cX0_conjugated, 4, none, 2)
theorem ok_X0_conjugated : MOK mu_X0_conjugated 3 := ⟨gw_882, gw_164, (by decide +kernel : plainFor yX0_conjugated = true), ⟨(by decide +kernel : yX0_conjugated.cls ≠ "java/lang/invoke/MethodHandle"), (by decide +kernel : yX0_conjugated.cls ≠ "java/lang/invoke/VarHandle"), (by decide +kernel : (parseMethodDescriptor yX0_conjugated.desc).map (fun d => d.parameters.length) = some 3)⟩, Nat.le_of_ble_eq_true rfl⟩
noncomputable def f_X0_conjugated (σ : Mem) (x0 : Nat) (x1 : Nat) (x2 : Nat) : Option Mem :=
  (f_X0_product σ 79 x1 x2).bind (fun (σ1 : Mem) => (f_X0_inverse σ1 78 x2).bind (fun (σ2 : Mem) => (f_X0_product σ2 x0 78 79).bind (fun (σ3 : Mem) => some σ3)))
theorem t_X0_conjugated {w : Wd} (hw : WOK w) {σ : Mem} {x0 : Nat} {x1 : Nat} {x2 : Nat} (hx0 : isk w x0 13) (hx1 : isk w x1 13) (hx2 : isk w x2 13) : JO w mu_X0_conjugated vV σ [(0, .ref (adr w 72)), (1, .ref (adr w x0)), (2, .ref (adr w x1)), (3, .ref (adr w x2))] [] 0 (f_X0_conjugated σ x0 x1 x2) (fun z => some ((), z)) := by
  unfold f_X0_conjugated
  refine jo_aload_n (pc := 0) 0 rfl dX0_conjugated_0 rfl ?_
  refine jo_aload_n (pc := 1) 0 rfl dX0_conjugated_1 rfl ?_
  refine jo_getrE (pc := 2) ok_0_7 (ik_72 hw) rf_72_7 gw_347 dX0_conjugated_2 ?_
  refine jo_aload_n (pc := 5) 2 rfl dX0_conjugated_5 rfl ?_
  refine jo_aload_n (pc := 6) 3 rfl dX0_conjugated_6 rfl ?_
  refine jo_cV_V_i (pc := 7) (μ' := mu_X0_product) (fx := f_X0_product σ 79 x1 x2) (As := [.ref (adr w 79), .ref (adr w x1), .ref (adr w x2)]) (c_X0_product hw (ik_79 hw) (hx1) (hx2)) (ok_X0_product) (ltb rfl) (all3 gw_854 gw_815 gw_816) (ik_72 hw) (by decide) (q := (RX0, TX0, 8)) rfl rfl rfl rfl (Nat.le_of_ble_eq_true rfl) dX0_conjugated_7 (fun σ1 => ?_)
  refine jo_aload_n (pc := 10) 0 rfl dX0_conjugated_10 rfl ?_
  refine jo_aload_n (pc := 11) 0 rfl dX0_conjugated_11 rfl ?_
  refine jo_getrE (pc := 12) ok_0_6 (ik_72 hw) rf_72_6 gw_346 dX0_conjugated_12 ?_
  refine jo_aload_n (pc := 15) 3 rfl dX0_conjugated_15 rfl ?_
  refine jo_cV_V_i (pc := 16) (μ' := mu_X0_inverse) (fx := f_X0_inverse σ1 78 x2) (As := [.ref (adr w 78), .ref (adr w x2)]) (c_X0_inverse hw (ik_78 hw) (hx2)) (ok_X0_inverse) (ltb rfl) (all3 gw_874 gw_838 gw_839) (ik_72 hw) (by decide) (q := (RX0, TX0, 8)) rfl rfl rfl rfl (Nat.le_of_ble_eq_true rfl) dX0_conjugated_16 (fun σ2 => ?_)
  refine jo_aload_n (pc := 19) 0 rfl dX0_conjugated_19 rfl ?_
  refine jo_aload_n (pc := 20) 1 rfl dX0_conjugated_20 rfl ?_
  refine jo_aload_n (pc := 21) 0 rfl dX0_conjugated_21 rfl ?_
  refine jo_getrE (pc := 22) ok_0_6 (ik_72 hw) rf_72_6 gw_346 dX0_conjugated_22 ?_
  refine jo_aload_n (pc := 25) 0 rfl dX0_conjugated_25 rfl ?_
  refine jo_getrE (pc := 26) ok_0_7 (ik_72 hw) rf_72_7 gw_347 dX0_conjugated_26 ?_
  refine jo_cV_V_i (pc := 29) (μ' := mu_X0_product) (fx := f_X0_product σ2 x0 78 79) (As := [.ref (adr w x0), .ref (adr w 78), .ref (adr w 79)]) (c_X0_product hw (hx0) (ik_78 hw) (ik_79 hw)) (ok_X0_product) (ltb rfl) (all3 gw_854 gw_815 gw_816) (ik_72 hw) (by decide) (q := (RX0, TX0, 8)) rfl rfl rfl rfl (Nat.le_of_ble_eq_true rfl) dX0_conjugated_29 (fun σ3 => ?_)
  exact jo_return (pc := 32) rfl rfl dX0_conjugated_32
theorem c_X0_conjugated {w : Wd} (hw : WOK w) {σ : Mem} {x0 : Nat} {x1 : Nat} {x2 : Nat} (hx0 : isk w x0 13) (hx1 : isk w x1 13) (hx2 : isk w x2 13) : ∀ σ', f_X0_conjugated σ x0 x1 x2 = some σ' → MC w mu_X0_conjugated none [.ref (adr w 72), .ref (adr w x0), .ref (adr w x1), .ref (adr w x2)] σ σ' := mc_ofV ok_X0_conjugated rfl (Nat.le_of_ble_eq_true rfl) (t_X0_conjugated hw hx0 hx1 hx2)
abbrev mu_X0_doCommute : MD := (yX0_doCommute, cX0_doCommute, 3, some .boolean, 2)
theorem ok_X0_doCommute : MOK mu_X0_doCommute 2 := ⟨gw_1070, gw_164, (by decide +kernel : plainFor yX0_doCommute = true), ⟨(by decide +kernel : yX0_doCommute.cls ≠ "java/lang/invoke/MethodHandle"), (by decide +kernel : yX0_doCommute.cls ≠ "java/lang/invoke/VarHandle"), (by decide +kernel : (parseMethodDescriptor yX0_doCommute.desc).map (fun d => d.parameters.length) = some 2)⟩, Nat.le_of_ble_eq_true rfl⟩
noncomputable def f_X0_doCommute (σ : Mem) (x0 : Nat) (x1 : Nat) : Option (Bool × Mem) :=
  (f_X0_product σ 78 x0 x1).bind (fun (σ1 : Mem) => (f_X0_product σ1 79 x1 x0).bind (fun (σ2 : Mem) => (f_X0_areSame σ2 78 79).bind (fun (b3 : Bool) => some (b3, σ2))))
theorem t_X0_doCommute {w : Wd} (hw : WOK w) {σ : Mem} {x0 : Nat} {x1 : Nat} (hx0 : isk w x0 13) (hx1 : isk w x1 13) : JO w mu_X0_doCommute vB σ [(0, .ref (adr w 72)), (1, .ref (adr w x0)), (2, .ref (adr w x1))] [] 0 (f_X0_doCommute σ x0 x1) some := by
  unfold f_X0_doCommute
  refine jo_aload_n (pc := 0) 0 rfl dX0_doCommute_0 rfl ?_
  refine jo_aload_n (pc := 1) 0 rfl dX0_doCommute_1 rfl ?_
  refine jo_getrE (pc := 2) ok_0_6 (ik_72 hw) rf_72_6 gw_346 dX0_doCommute_2 ?_
  refine jo_aload_n (pc := 5) 1 rfl dX0_doCommute_5 rfl ?_
  refine jo_aload_n (pc := 6) 2 rfl dX0_doCommute_6 rfl ?_
  refine jo_cV_V_i (pc := 7) (μ' := mu_X0_product) (fx := f_X0_product σ 78 x0 x1) (As := [.ref (adr w 78), .ref (adr w x0), .ref (adr w x1)]) (c_X0_product hw (ik_78 hw) (hx0) (hx1)) (ok_X0_product) (ltb rfl) (all3 gw_854 gw_815 gw_816) (ik_72 hw) (by decide) (q := (RX0, TX0, 8)) rfl rfl rfl rfl (Nat.le_of_ble_eq_true rfl) dX0_doCommute_7 (fun σ1 => ?_)
  refine jo_aload_n (pc := 10) 0 rfl dX0_doCommute_10 rfl ?_
  refine jo_aload_n (pc := 11) 0 rfl dX0_doCommute_11 rfl ?_
  refine jo_getrE (pc := 12) ok_0_7 (ik_72 hw) rf_72_7 gw_347 dX0_doCommute_12 ?_
  refine jo_aload_n (pc := 15) 2 rfl dX0_doCommute_15 rfl ?_
  refine jo_aload_n (pc := 16) 1 rfl dX0_doCommute_16 rfl ?_
  refine jo_cV_V_i (pc := 17) (μ' := mu_X0_product) (fx := f_X0_product σ1 79 x1 x0) (As := [.ref (adr w 79), .ref (adr w x1), .ref (adr w x0)]) (c_X0_product hw (ik_79 hw) (hx1) (hx0)) (ok_X0_product) (ltb rfl) (all3 gw_854 gw_815 gw_816) (ik_72 hw) (by decide) (q := (RX0, TX0, 8)) rfl rfl rfl rfl (Nat.le_of_ble_eq_true rfl) dX0_doCommute_17 (fun σ2 => ?_)
  refine jo_aload_n (pc := 20) 0 rfl dX0_doCommute_20 rfl ?_
  refine jo_getrE (pc := 21) ok_0_6 (ik_72 hw) rf_72_6 gw_346 dX0_doCommute_21 ?_
  refine jo_aload_n (pc := 24) 0 rfl dX0_doCommute_24 rfl ?_
  refine jo_getrE (pc := 25) ok_0_7 (ik_72 hw) rf_72_7 gw_347 dX0_doCommute_25 ?_
  refine jo_cS_Z_p (pc := 28) (μ' := mu_X0_areSame) (fx := f_X0_areSame σ2 78 79) (As := [.ref (adr w 78), .ref (adr w 79)]) (c_X0_areSame hw (ik_78 hw) (ik_79 hw)) (ok_X0_areSame) (ltb rfl) (all2 gw_1071 gw_1072) rfl rfl (Nat.le_of_ble_eq_true rfl) dX0_doCommute_28 (fun b3 => ?_)
  exact jo_breturn (pc := 31) (b := b3) rfl rfl dX0_doCommute_31
theorem c_X0_doCommute {w : Wd} (hw : WOK w) {σ : Mem} {x0 : Nat} {x1 : Nat} (hx0 : isk w x0 13) (hx1 : isk w x1 13) : ∀ r σ', f_X0_doCommute σ x0 x1 = some (r, σ') → MC w mu_X0_doCommute (vB r) [.ref (adr w 72), .ref (adr w x0), .ref (adr w x1)] σ σ' := mc_of ok_X0_doCommute rfl (Nat.le_of_ble_eq_true rfl) (t_X0_doCommute hw hx0 hx1)
abbrev mu_X0_findPowers : MD := (yX0_findPowers, cX0_findPowers, 2, none, 2)
theorem ok_X0_findPowers : MOK mu_X0_findPowers 1 := ⟨gw_852, gw_164, (by decide +kernel : plainFor yX0_findPowers = true), ⟨(by decide +kernel : yX0_findPowers.cls ≠ "java/lang/invoke/MethodHandle"), (by decide +kernel : yX0_findPowers.cls ≠ "java/lang/invoke/VarHandle"), (by decide +kernel : (parseMethodDescriptor yX0_findPowers.desc).map (fun d => d.parameters.length) = some 1)⟩, Nat.le_of_ble_eq_true rfl⟩
noncomputable def f_X0_findPowers (σ : Mem) (x0 : Nat) : Option Mem :=
  (f_X0_copy σ x0 75).bind (fun (σ1 : Mem) => (f_X0_product σ1 76 75 75).bind (fun (σ2 : Mem) => (f_X0_product σ2 77 76 75).bind (fun (σ3 : Mem) => some σ3)))
theorem t_X0_findPowers {w : Wd} (hw : WOK w) {σ : Mem} {x0 : Nat} (hx0 : isk w x0 13) : JO w mu_X0_findPowers vV σ [(0, .ref (adr w 72)), (1, .ref (adr w x0))] [] 0 (f_X0_findPowers σ x0) (fun z => some ((), z)) := by
  unfold f_X0_findPowers
  refine jo_aload_n (pc := 0) 1 rfl dX0_findPowers_0 rfl ?_
  refine jo_aload_n (pc := 1) 0 rfl dX0_findPowers_1 rfl ?_
  refine jo_getrE (pc := 2) ok_0_3 (ik_72 hw) rf_72_3 gw_343 dX0_findPowers_2 ?_
  refine jo_cS_V_i (pc := 5) (μ' := mu_X0_copy) (fx := f_X0_copy σ x0 75) (As := [.ref (adr w x0), .ref (adr w 75)]) (c_X0_copy hw (hx0) (ik_75 hw)) (ok_X0_copy) (ltb rfl) (all2 gw_853 gw_704) rfl rfl (Nat.le_of_ble_eq_true rfl) dX0_findPowers_5 (fun σ1 => ?_)
  refine jo_aload_n (pc := 8) 0 rfl dX0_findPowers_8 rfl ?_
  refine jo_aload_n (pc := 9) 0 rfl dX0_findPowers_9 rfl ?_
  refine jo_getrE (pc := 10) ok_0_4 (ik_72 hw) rf_72_4 gw_344 dX0_findPowers_10 ?_
  refine jo_aload_n (pc := 13) 0 rfl dX0_findPowers_13 rfl ?_
  refine jo_getrE (pc := 14) ok_0_3 (ik_72 hw) rf_72_3 gw_343 dX0_findPowers_14 ?_
  refine jo_aload_n (pc := 17) 0 rfl dX0_findPowers_17 rfl ?_
  refine jo_getrE (pc := 18) ok_0_3 (ik_72 hw) rf_72_3 gw_343 dX0_findPowers_18 ?_
  refine jo_cV_V_i (pc := 21) (μ' := mu_X0_product) (fx := f_X0_product σ1 76 75 75) (As := [.ref (adr w 76), .ref (adr w 75), .ref (adr w 75)]) (c_X0_product hw (ik_76 hw) (ik_75 hw) (ik_75 hw)) (ok_X0_product) (ltb rfl) (all3 gw_854 gw_815 gw_816) (ik_72 hw) (by decide) (q := (RX0, TX0, 8)) rfl rfl rfl rfl (Nat.le_of_ble_eq_true rfl) dX0_findPowers_21 (fun σ2 => ?_)
  refine jo_aload_n (pc := 24) 0 rfl dX0_findPowers_24 rfl ?_
  refine jo_aload_n (pc := 25) 0 rfl dX0_findPowers_25 rfl ?_
  refine jo_getrE (pc := 26) ok_0_5 (ik_72 hw) rf_72_5 gw_345 dX0_findPowers_26 ?_
  refine jo_aload_n (pc := 29) 0 rfl dX0_findPowers_29 rfl ?_
  refine jo_getrE (pc := 30) ok_0_4 (ik_72 hw) rf_72_4 gw_344 dX0_findPowers_30 ?_
  refine jo_aload_n (pc := 33) 0 rfl dX0_findPowers_33 rfl ?_
  refine jo_getrE (pc := 34) ok_0_3 (ik_72 hw) rf_72_3 gw_343 dX0_findPowers_34 ?_
  refine jo_cV_V_i (pc := 37) (μ' := mu_X0_product) (fx := f_X0_product σ2 77 76 75) (As := [.ref (adr w 77), .ref (adr w 76), .ref (adr w 75)]) (c_X0_product hw (ik_77 hw) (ik_76 hw) (ik_75 hw)) (ok_X0_product) (ltb rfl) (all3 gw_854 gw_815 gw_816) (ik_72 hw) (by decide) (q := (RX0, TX0, 8)) rfl rfl rfl rfl (Nat.le_of_ble_eq_true rfl) dX0_findPowers_37 (fun σ3 => ?_)
  exact jo_return (pc := 40) rfl rfl dX0_findPowers_40
theorem c_X0_findPowers {w : Wd} (hw : WOK w) {σ : Mem} {x0 : Nat} (hx0 : isk w x0 13) : ∀ σ', f_X0_findPowers σ x0 = some σ' → MC w mu_X0_findPowers none [.ref (adr w 72), .ref (adr w x0)] σ σ' := mc_ofV ok_X0_findPowers rfl (Nat.le_of_ble_eq_true rfl) (t_X0_findPowers hw hx0)
abbrev mu_X0_powerNumber : MD := (yX0_powerNumber, cX0_powerNumber, 3, some .long, 0)
theorem ok_X0_powerNumber : MOK mu_X0_powerNumber 2 := ⟨gw_862, gw_164, (by decide +kernel : plainFor yX0_powerNumber = true), ⟨(by decide +kernel : yX0_powerNumber.cls ≠ "java/lang/invoke/MethodHandle"), (by decide +kernel : yX0_powerNumber.cls ≠ "java/lang/invoke/VarHandle"), (by decide +kernel : (parseMethodDescriptor yX0_powerNumber.desc).map (fun d => d.parameters.length) = some 2)⟩, Nat.le_of_ble_eq_true rfl⟩
noncomputable def f_X0_powerNumber (σ : Mem) (x0 : Int32) (x1 : Int32) : Option Int64 :=
  if x0 < 0 then (some 0) else (if x0 < 6 then (if x1 = 1 then (gL σ 75 x0 (fun (v2 : Int64) => some v2)) else if x1 = 2 then (gL σ 76 x0 (fun (v4 : Int64) => gL σ 75 x0 (fun (v5 : Int64) => some (v4 - (2 * v5))))) else if x1 = 3 then (gL σ 77 x0 (fun (v7 : Int64) => gL σ 76 x0 (fun (v8 : Int64) => gL σ 75 x0 (fun (v9 : Int64) => some ((v7 - (3 * v8)) + (3 * v9)))))) else (some 0)) else (some 0))
theorem t_X0_powerNumber {w : Wd} (hw : WOK w) {σ : Mem} {x0 : Int32} {x1 : Int32} : JO w mu_X0_powerNumber vL σ [(0, .ref (adr w 72)), (1, .int x0), (2, .int x1)] [] 0 (f_X0_powerNumber σ x0 x1) (fun z => some (z, σ)) := by
  unfold f_X0_powerNumber
  refine jo_iload_n (pc := 0) 1 rfl dX0_powerNumber_0 rfl ?_
  refine jo_if_lt (pc := 1) dX0_powerNumber_1 (tgt := 10) rfl ?_ ?_
  · refine jo_lconst (pc := 10) dX0_powerNumber_10 (ic_l_0) ?_
    exact jo_lreturn (pc := 11) rfl rfl dX0_powerNumber_11
  · refine jo_iload_n (pc := 4) 1 rfl dX0_powerNumber_4 rfl ?_
    refine jo_bipush (pc := 5) dX0_powerNumber_5 (ic_b_6) ?_
    refine jo_icmp_lt (pc := 7) dX0_powerNumber_7 (tgt := 12) rfl ?_ ?_
    · refine jo_iload_n (pc := 12) 2 rfl dX0_powerNumber_12 rfl ?_
      refine jo_case (v := 1) (fun h1 => ?_) (fun h1 => ?_)
      · refine jo_tswHit (pc := 13) dX0_powerNumber_13 h1 (by decide) (by decide) (off := 27) (by rfl) (tgt := 40) rfl ?_
        refine jo_aload_n (pc := 40) 0 rfl dX0_powerNumber_40 rfl ?_
        refine jo_getrE (pc := 41) ok_0_3 (ik_72 hw) rf_72_3 gw_343 dX0_powerNumber_41 ?_
        refine jo_iload_n (pc := 44) 1 rfl dX0_powerNumber_44 rfl ?_
        refine jo_lald (pc := 45) (ik_75 hw) dX0_powerNumber_45 (fun v2 => ?_)
        exact jo_lreturn (pc := 46) rfl rfl dX0_powerNumber_46
      refine jo_case (v := 2) (fun h3 => ?_) (fun h3 => ?_)
      · refine jo_tswHit (pc := 13) dX0_powerNumber_13 h3 (by decide) (by decide) (off := 34) (by rfl) (tgt := 47) rfl ?_
        refine jo_aload_n (pc := 47) 0 rfl dX0_powerNumber_47 rfl ?_
        refine jo_getrE (pc := 48) ok_0_4 (ik_72 hw) rf_72_4 gw_344 dX0_powerNumber_48 ?_
        refine jo_iload_n (pc := 51) 1 rfl dX0_powerNumber_51 rfl ?_
        refine jo_lald (pc := 52) (ik_76 hw) dX0_powerNumber_52 (fun v4 => ?_)
        refine jo_ldc2 (pc := 53) dX0_powerNumber_53 gw_863 ?_
        refine jo_aload_n (pc := 56) 0 rfl dX0_powerNumber_56 rfl ?_
        refine jo_getrE (pc := 57) ok_0_3 (ik_72 hw) rf_72_3 gw_343 dX0_powerNumber_57 ?_
        refine jo_iload_n (pc := 60) 1 rfl dX0_powerNumber_60 rfl ?_
        refine jo_lald (pc := 61) (ik_75 hw) dX0_powerNumber_61 (fun v5 => ?_)
        refine jo_lmul (pc := 62) dX0_powerNumber_62 ?_
        refine jo_lsub (pc := 63) dX0_powerNumber_63 ?_
        exact jo_lreturn (pc := 64) rfl rfl dX0_powerNumber_64
      refine jo_case (v := 3) (fun h6 => ?_) (fun h6 => ?_)
      · refine jo_tswHit (pc := 13) dX0_powerNumber_13 h6 (by decide) (by decide) (off := 52) (by rfl) (tgt := 65) rfl ?_
        refine jo_aload_n (pc := 65) 0 rfl dX0_powerNumber_65 rfl ?_
        refine jo_getrE (pc := 66) ok_0_5 (ik_72 hw) rf_72_5 gw_345 dX0_powerNumber_66 ?_
        refine jo_iload_n (pc := 69) 1 rfl dX0_powerNumber_69 rfl ?_
        refine jo_lald (pc := 70) (ik_77 hw) dX0_powerNumber_70 (fun v7 => ?_)
        refine jo_ldc2 (pc := 71) dX0_powerNumber_71 gw_864 ?_
        refine jo_aload_n (pc := 74) 0 rfl dX0_powerNumber_74 rfl ?_
        refine jo_getrE (pc := 75) ok_0_4 (ik_72 hw) rf_72_4 gw_344 dX0_powerNumber_75 ?_
        refine jo_iload_n (pc := 78) 1 rfl dX0_powerNumber_78 rfl ?_
        refine jo_lald (pc := 79) (ik_76 hw) dX0_powerNumber_79 (fun v8 => ?_)
        refine jo_lmul (pc := 80) dX0_powerNumber_80 ?_
        refine jo_lsub (pc := 81) dX0_powerNumber_81 ?_
        refine jo_ldc2 (pc := 82) dX0_powerNumber_82 gw_864 ?_
        refine jo_aload_n (pc := 85) 0 rfl dX0_powerNumber_85 rfl ?_
        refine jo_getrE (pc := 86) ok_0_3 (ik_72 hw) rf_72_3 gw_343 dX0_powerNumber_86 ?_
        refine jo_iload_n (pc := 89) 1 rfl dX0_powerNumber_89 rfl ?_
        refine jo_lald (pc := 90) (ik_75 hw) dX0_powerNumber_90 (fun v9 => ?_)
        refine jo_lmul (pc := 91) dX0_powerNumber_91 ?_
        refine jo_ladd (pc := 92) dX0_powerNumber_92 ?_
        exact jo_lreturn (pc := 93) rfl rfl dX0_powerNumber_93
      have qh1 : (x1).toInt ≠ 1 := fun e => h1 (Int32.toInt_inj.mp (e.trans (by decide)))
      have qh3 : (x1).toInt ≠ 2 := fun e => h3 (Int32.toInt_inj.mp (e.trans (by decide)))
      have qh6 : (x1).toInt ≠ 3 := fun e => h6 (Int32.toInt_inj.mp (e.trans (by decide)))
      refine jo_tableOut (pc := 13) dX0_powerNumber_13 (by omega) (tgt := 94) rfl ?_
      refine jo_lconst (pc := 94) dX0_powerNumber_94 (ic_l_0) ?_
      exact jo_lreturn (pc := 95) rfl rfl dX0_powerNumber_95
    · refine jo_lconst (pc := 10) dX0_powerNumber_10 (ic_l_0) ?_
      exact jo_lreturn (pc := 11) rfl rfl dX0_powerNumber_11
theorem c_X0_powerNumber {w : Wd} (hw : WOK w) {σ : Mem} {x0 : Int32} {x1 : Int32} : ∀ r, f_X0_powerNumber σ x0 x1 = some r → MC w mu_X0_powerNumber (vL r) [.ref (adr w 72), .int x0, .int x1] σ σ := mc_ofP ok_X0_powerNumber rfl (Nat.le_of_ble_eq_true rfl) (t_X0_powerNumber hw)
abbrev mu_X0_powerAt : MD := (yX0_powerAt, cX0_powerAt, 4, some .long, 1)
theorem ok_X0_powerAt : MOK mu_X0_powerAt 2 := ⟨gw_858, gw_164, (by decide +kernel : plainFor yX0_powerAt = true), ⟨(by decide +kernel : yX0_powerAt.cls ≠ "java/lang/invoke/MethodHandle"), (by decide +kernel : yX0_powerAt.cls ≠ "java/lang/invoke/VarHandle"), (by decide +kernel : (parseMethodDescriptor yX0_powerAt.desc).map (fun d => d.parameters.length) = some 2)⟩, Nat.le_of_ble_eq_true rfl⟩
noncomputable def f_X0_powerAt (σ : Mem) (x0 : Int32) (x1 : Int64) : Option Int64 :=
  (f_X0_powerNumber σ x0 1).bind (fun (v1 : Int64) => (f_X0_powerNumber σ x0 2).bind (fun (v2 : Int64) => nzL 2 ((f_X0_powerNumber σ x0 3).bind (fun (v3 : Int64) => nzL 6 (some (((v1 * x1) + (v2 * ((x1 * (x1 - 1)) / 2))) + (v3 * (((x1 * (x1 - 1)) * (x1 - 2)) / 6))))))))
theorem t_X0_powerAt {w : Wd} (hw : WOK w) {σ : Mem} {x0 : Int32} {x1 : Int64} : JO w mu_X0_powerAt vL σ [(0, .ref (adr w 72)), (1, .int x0), (2, .long x1)] [] 0 (f_X0_powerAt σ x0 x1) (fun z => some (z, σ)) := by
  unfold f_X0_powerAt
  refine jo_aload_n (pc := 0) 0 rfl dX0_powerAt_0 rfl ?_
  refine jo_iload_n (pc := 1) 1 rfl dX0_powerAt_1 rfl ?_
  refine jo_iconst (pc := 2) dX0_powerAt_2 (ic_i_1) ?_
  refine jo_cV_J_p (pc := 3) (μ' := mu_X0_powerNumber) (fx := f_X0_powerNumber σ x0 1) (As := [.int x0, .int 1]) (c_X0_powerNumber hw) (ok_X0_powerNumber) (ltb rfl) (all3 gw_859 gw_860 gw_861) (ik_72 hw) (by decide) (q := (RX0, TX0, 8)) rfl rfl rfl rfl (Nat.le_of_ble_eq_true rfl) dX0_powerAt_3 (fun v1 => ?_)
  refine jo_lload_n (pc := 6) 2 rfl dX0_powerAt_6 rfl ?_
  refine jo_lmul (pc := 7) dX0_powerAt_7 ?_
  refine jo_aload_n (pc := 8) 0 rfl dX0_powerAt_8 rfl ?_
  refine jo_iload_n (pc := 9) 1 rfl dX0_powerAt_9 rfl ?_
  refine jo_iconst (pc := 10) dX0_powerAt_10 (ic_i_2) ?_
  refine jo_cV_J_p (pc := 11) (μ' := mu_X0_powerNumber) (fx := f_X0_powerNumber σ x0 2) (As := [.int x0, .int 2]) (c_X0_powerNumber hw) (ok_X0_powerNumber) (ltb rfl) (all3 gw_859 gw_860 gw_861) (ik_72 hw) (by decide) (q := (RX0, TX0, 8)) rfl rfl rfl rfl (Nat.le_of_ble_eq_true rfl) dX0_powerAt_11 (fun v2 => ?_)
  refine jo_lload_n (pc := 14) 2 rfl dX0_powerAt_14 rfl ?_
  refine jo_lload_n (pc := 15) 2 rfl dX0_powerAt_15 rfl ?_
  refine jo_lconst (pc := 16) dX0_powerAt_16 (ic_l_1) ?_
  refine jo_lsub (pc := 17) dX0_powerAt_17 ?_
  refine jo_lmul (pc := 18) dX0_powerAt_18 ?_
  refine jo_ldc2 (pc := 19) dX0_powerAt_19 gw_863 ?_
  refine jo_ldiv (pc := 22) dX0_powerAt_22 ?_
  refine jo_lmul (pc := 23) dX0_powerAt_23 ?_
  refine jo_ladd (pc := 24) dX0_powerAt_24 ?_
  refine jo_aload_n (pc := 25) 0 rfl dX0_powerAt_25 rfl ?_
  refine jo_iload_n (pc := 26) 1 rfl dX0_powerAt_26 rfl ?_
  refine jo_iconst (pc := 27) dX0_powerAt_27 (ic_i_3) ?_
  refine jo_cV_J_p (pc := 28) (μ' := mu_X0_powerNumber) (fx := f_X0_powerNumber σ x0 3) (As := [.int x0, .int 3]) (c_X0_powerNumber hw) (ok_X0_powerNumber) (ltb rfl) (all3 gw_859 gw_860 gw_861) (ik_72 hw) (by decide) (q := (RX0, TX0, 8)) rfl rfl rfl rfl (Nat.le_of_ble_eq_true rfl) dX0_powerAt_28 (fun v3 => ?_)
  refine jo_lload_n (pc := 31) 2 rfl dX0_powerAt_31 rfl ?_
  refine jo_lload_n (pc := 32) 2 rfl dX0_powerAt_32 rfl ?_
  refine jo_lconst (pc := 33) dX0_powerAt_33 (ic_l_1) ?_
  refine jo_lsub (pc := 34) dX0_powerAt_34 ?_
  refine jo_lmul (pc := 35) dX0_powerAt_35 ?_
  refine jo_lload_n (pc := 36) 2 rfl dX0_powerAt_36 rfl ?_
  refine jo_ldc2 (pc := 37) dX0_powerAt_37 gw_863 ?_
  refine jo_lsub (pc := 40) dX0_powerAt_40 ?_
  refine jo_lmul (pc := 41) dX0_powerAt_41 ?_
  refine jo_ldc2 (pc := 42) dX0_powerAt_42 gw_865 ?_
  refine jo_ldiv (pc := 45) dX0_powerAt_45 ?_
  refine jo_lmul (pc := 46) dX0_powerAt_46 ?_
  refine jo_ladd (pc := 47) dX0_powerAt_47 ?_
  exact jo_lreturn (pc := 48) rfl rfl dX0_powerAt_48
theorem c_X0_powerAt {w : Wd} (hw : WOK w) {σ : Mem} {x0 : Int32} {x1 : Int64} : ∀ r, f_X0_powerAt σ x0 x1 = some r → MC w mu_X0_powerAt (vL r) [.ref (adr w 72), .int x0, .long x1] σ σ := mc_ofP ok_X0_powerAt rfl (Nat.le_of_ble_eq_true rfl) (t_X0_powerAt hw)
abbrev mu_X0_raise : MD := (yX0_raise, cX0_raise, 6, none, 3)
theorem ok_X0_raise : MOK mu_X0_raise 3 := ⟨gw_848, gw_164, (by decide +kernel : plainFor yX0_raise = true), ⟨(by decide +kernel : yX0_raise.cls ≠ "java/lang/invoke/MethodHandle"), (by decide +kernel : yX0_raise.cls ≠ "java/lang/invoke/VarHandle"), (by decide +kernel : (parseMethodDescriptor yX0_raise.desc).map (fun d => d.parameters.length) = some 3)⟩, Nat.le_of_ble_eq_true rfl⟩
noncomputable def l_X0_raise_8 (x0 : Nat) (x2 : Int64) (σ2 : Mem) (i3 : Int32) : Option ((Mem × Int32) ⊕ Mem) :=
  if 6 ≤ i3 then (some (Sum.inr σ2)) else ((f_X0_powerAt σ2 i3 x2).bind (fun (v4 : Int64) => pL σ2 x0 i3 v4 (fun (σ5 : Mem) => some (Sum.inl (σ5, i3 + 1)))))
noncomputable def f_X0_raise (σ : Mem) (x0 : Nat) (x1 : Nat) (x2 : Int64) : Option Mem :=
  (f_X0_findPowers σ x1).bind (fun (σ1 : Mem) => loopO (fun (z3 : (Mem × Int32)) => l_X0_raise_8 x0 x2 z3.1 z3.2) (σ1, 0))
theorem t_X0_raise {w : Wd} (hw : WOK w) {σ : Mem} {x0 : Nat} {x1 : Nat} {x2 : Int64} (hx0 : isk w x0 13) (hx1 : isk w x1 13) : JO w mu_X0_raise vV σ [(0, .ref (adr w 72)), (1, .ref (adr w x0)), (2, .ref (adr w x1)), (3, .long x2)] [] 0 (f_X0_raise σ x0 x1 x2) (fun z => some ((), z)) := by
  unfold f_X0_raise
  refine jo_aload_n (pc := 0) 0 rfl dX0_raise_0 rfl ?_
  refine jo_aload_n (pc := 1) 2 rfl dX0_raise_1 rfl ?_
  refine jo_cV_V_i (pc := 2) (μ' := mu_X0_findPowers) (fx := f_X0_findPowers σ x1) (As := [.ref (adr w x1)]) (c_X0_findPowers hw (hx1)) (ok_X0_findPowers) (ltb rfl) (all3 gw_849 gw_850 gw_851) (ik_72 hw) (by decide) (q := (RX0, TX0, 8)) rfl rfl rfl rfl (Nat.le_of_ble_eq_true rfl) dX0_raise_2 (fun σ1 => ?_)
  refine jo_iconst (pc := 5) dX0_raise_5 (ic_i_0) ?_
  refine jo_istore (pc := 6) (lv' := [(5, .int 0), (0, .ref (adr w 72)), (1, .ref (adr w x0)), (2, .ref (adr w x1)), (3, .long x2)]) dX0_raise_6 (ltb rfl) rfl ?_
  refine jo_lv (lv' := [(0, .ref (adr w 72)), (1, .ref (adr w x0)), (3, .long x2), (5, .int 0)]) [1, 2, 4, 0] rfl ?_
  refine jo_loop (X := Mem) (fun (z3 : (Mem × Int32)) => z3.1) (fun (z3 : (Mem × Int32)) => [(0, .ref (adr w 72)), (1, .ref (adr w x0)), (3, .long x2), (5, .int z3.2)]) (body := (fun (z3 : (Mem × Int32)) => l_X0_raise_8 x0 x2 z3.1 z3.2)) (fun F8_3 hF8_3 s => ?_) (σ1, 0)
  obtain ⟨σ2, i3⟩ := s
  show JO w mu_X0_raise vV σ2 [(0, .ref (adr w 72)), (1, .ref (adr w x0)), (3, .long x2), (5, .int i3)] [] 8 (l_X0_raise_8 x0 x2 σ2 i3) _
  unfold l_X0_raise_8
  refine jo_iload (pc := 8) 3 rfl dX0_raise_8 ?_
  refine jo_bipush (pc := 10) dX0_raise_10 (ic_b_6) ?_
  refine jo_icmp_ge (pc := 12) dX0_raise_12 (tgt := 32) rfl ?_ ?_
  · exact jo_return (pc := 32) rfl rfl dX0_raise_32
  · refine jo_aload_n (pc := 15) 1 rfl dX0_raise_15 rfl ?_
    refine jo_iload (pc := 16) 3 rfl dX0_raise_16 ?_
    refine jo_aload_n (pc := 18) 0 rfl dX0_raise_18 rfl ?_
    refine jo_iload (pc := 19) 3 rfl dX0_raise_19 ?_
    refine jo_lload_n (pc := 21) 2 rfl dX0_raise_21 rfl ?_
    refine jo_cV_J_p (pc := 22) (μ' := mu_X0_powerAt) (fx := f_X0_powerAt σ2 i3 x2) (As := [.int i3, .long x2]) (c_X0_powerAt hw) (ok_X0_powerAt) (ltb rfl) (all3 gw_855 gw_857 gw_16) (ik_72 hw) (by decide) (q := (RX0, TX0, 8)) rfl rfl rfl rfl (Nat.le_of_ble_eq_true rfl) dX0_raise_22 (fun v4 => ?_)
    refine jo_last (pc := 25) (hx0) dX0_raise_25 (fun σ5 => ?_)
    refine jo_iinc (pc := 26) (lv' := [(5, .int (i3 + 1)), (0, .ref (adr w 72)), (1, .ref (adr w x0)), (3, .long x2)]) 3 rfl dX0_raise_26 (congrArg (fun z => i3 + z) (ic_i_1)) (ltb rfl) rfl ?_
    refine jo_goto (pc := 29) dX0_raise_29 (tgt := 8) rfl ?_
    refine jo_lv (lv' := [(0, .ref (adr w 72)), (1, .ref (adr w x0)), (3, .long x2), (5, .int (i3 + 1))]) [1, 2, 3, 0] rfl ?_
    exact jo_leaf (by rfl) (hF8_3 (σ5, i3 + 1))
theorem c_X0_raise {w : Wd} (hw : WOK w) {σ : Mem} {x0 : Nat} {x1 : Nat} {x2 : Int64} (hx0 : isk w x0 13) (hx1 : isk w x1 13) : ∀ σ', f_X0_raise σ x0 x1 x2 = some σ' → MC w mu_X0_raise none [.ref (adr w 72), .ref (adr w x0), .ref (adr w x1), .long x2] σ σ' := mc_ofV ok_X0_raise rfl (Nat.le_of_ble_eq_true rfl) (t_X0_raise hw hx0 hx1)
abbrev mu_X0_putRoot : MD := (yX0_putRoot, cX0_putRoot, 4, none, 1)
theorem ok_X0_putRoot : MOK mu_X0_putRoot 2 := ⟨gw_894, gw_164, (by decide +kernel : plainFor yX0_putRoot = true), ⟨(by decide +kernel : yX0_putRoot.cls ≠ "java/lang/invoke/MethodHandle"), (by decide +kernel : yX0_putRoot.cls ≠ "java/lang/invoke/VarHandle"), (by decide +kernel : (parseMethodDescriptor yX0_putRoot.desc).map (fun d => d.parameters.length) = some 2)⟩, Nat.le_of_ble_eq_true rfl⟩
noncomputable def f_X0_putRoot (σ : Mem) (x0 : Int32) (x1 : Int64) : Option Mem :=
  pL σ 75 x0 x1 (fun (σ1 : Mem) => (f_X4_put σ1 73 x0 x1).bind (fun (σ2 : Mem) => (f_X4_put σ2 73 (6 + x0) x1).bind (fun (σ3 : Mem) => (f_X4_put σ3 74 (6 + x0) x1).bind (fun (σ4 : Mem) => some σ4))))
theorem t_X0_putRoot {w : Wd} (hw : WOK w) {σ : Mem} {x0 : Int32} {x1 : Int64} : JO w mu_X0_putRoot vV σ [(0, .ref (adr w 72)), (1, .int x0), (2, .long x1)] [] 0 (f_X0_putRoot σ x0 x1) (fun z => some ((), z)) := by
  unfold f_X0_putRoot
  refine jo_aload_n (pc := 0) 0 rfl dX0_putRoot_0 rfl ?_
  refine jo_getrE (pc := 1) ok_0_3 (ik_72 hw) rf_72_3 gw_343 dX0_putRoot_1 ?_
  refine jo_iload_n (pc := 4) 1 rfl dX0_putRoot_4 rfl ?_
  refine jo_lload_n (pc := 5) 2 rfl dX0_putRoot_5 rfl ?_
  refine jo_last (pc := 6) (ik_75 hw) dX0_putRoot_6 (fun σ1 => ?_)
  refine jo_aload_n (pc := 7) 0 rfl dX0_putRoot_7 rfl ?_
  refine jo_getrE (pc := 8) ok_0_1 (ik_72 hw) rf_72_1 gw_341 dX0_putRoot_8 ?_
  refine jo_iload_n (pc := 11) 1 rfl dX0_putRoot_11 rfl ?_
  refine jo_lload_n (pc := 12) 2 rfl dX0_putRoot_12 rfl ?_
  refine jo_cS_V_i (pc := 13) (μ' := mu_X4_put) (fx := f_X4_put σ1 73 x0 x1) (As := [.ref (adr w 73), .int x0, .long x1]) (c_X4_put hw (ik_73 hw)) (ok_X4_put) (ltb rfl) (all2 gw_818 gw_614) rfl rfl (Nat.le_of_ble_eq_true rfl) dX0_putRoot_13 (fun σ2 => ?_)
  refine jo_aload_n (pc := 16) 0 rfl dX0_putRoot_16 rfl ?_
  refine jo_getrE (pc := 17) ok_0_1 (ik_72 hw) rf_72_1 gw_341 dX0_putRoot_17 ?_
  refine jo_bipush (pc := 20) dX0_putRoot_20 (ic_b_6) ?_
  refine jo_iload_n (pc := 22) 1 rfl dX0_putRoot_22 rfl ?_
  refine jo_iadd (pc := 23) dX0_putRoot_23 ?_
  refine jo_lload_n (pc := 24) 2 rfl dX0_putRoot_24 rfl ?_
  refine jo_cS_V_i (pc := 25) (μ' := mu_X4_put) (fx := f_X4_put σ2 73 (6 + x0) x1) (As := [.ref (adr w 73), .int (6 + x0), .long x1]) (c_X4_put hw (ik_73 hw)) (ok_X4_put) (ltb rfl) (all2 gw_818 gw_614) rfl rfl (Nat.le_of_ble_eq_true rfl) dX0_putRoot_25 (fun σ3 => ?_)
  refine jo_aload_n (pc := 28) 0 rfl dX0_putRoot_28 rfl ?_
  refine jo_getrE (pc := 29) ok_0_2 (ik_72 hw) rf_72_2 gw_342 dX0_putRoot_29 ?_
  refine jo_bipush (pc := 32) dX0_putRoot_32 (ic_b_6) ?_
  refine jo_iload_n (pc := 34) 1 rfl dX0_putRoot_34 rfl ?_
  refine jo_iadd (pc := 35) dX0_putRoot_35 ?_
  refine jo_lload_n (pc := 36) 2 rfl dX0_putRoot_36 rfl ?_
  refine jo_cS_V_i (pc := 37) (μ' := mu_X4_put) (fx := f_X4_put σ3 74 (6 + x0) x1) (As := [.ref (adr w 74), .int (6 + x0), .long x1]) (c_X4_put hw (ik_74 hw)) (ok_X4_put) (ltb rfl) (all2 gw_818 gw_614) rfl rfl (Nat.le_of_ble_eq_true rfl) dX0_putRoot_37 (fun σ4 => ?_)
  exact jo_return (pc := 40) rfl rfl dX0_putRoot_40
theorem c_X0_putRoot {w : Wd} (hw : WOK w) {σ : Mem} {x0 : Int32} {x1 : Int64} : ∀ σ', f_X0_putRoot σ x0 x1 = some σ' → MC w mu_X0_putRoot none [.ref (adr w 72), .int x0, .long x1] σ σ' := mc_ofV ok_X0_putRoot rfl (Nat.le_of_ble_eq_true rfl) (t_X0_putRoot hw)
abbrev mu_X0_extract : MD := (yX0_extract, cX0_extract, 10, some .boolean, 2)
theorem ok_X0_extract : MOK mu_X0_extract 3 := ⟨gw_890, gw_164, (by decide +kernel : plainFor yX0_extract = true), ⟨(by decide +kernel : yX0_extract.cls ≠ "java/lang/invoke/MethodHandle"), (by decide +kernel : yX0_extract.cls ≠ "java/lang/invoke/VarHandle"), (by decide +kernel : (parseMethodDescriptor yX0_extract.desc).map (fun d => d.parameters.length) = some 3)⟩, Nat.le_of_ble_eq_true rfl⟩
noncomputable def j_X0_extract_185 (x0 : Nat) (σ1 : Mem) : Option (Bool × Mem) :=
  (f_X0_copy σ1 75 x0).bind (fun (σ2 : Mem) => some (true, σ2))
noncomputable def l_X0_extract_11 (x1 : Nat) (x2 : Int64) (σ3 : Mem) (i4 : Int32) : Option ((Mem × Int32) ⊕ (Mem ⊕ (Bool × Mem))) :=
  if 6 ≤ i4 then (some (Sum.inr (Sum.inl σ3))) else ((f_X0_putRoot σ3 i4 0).bind (fun (σ5 : Mem) => gR 44 i4 (fun (p6 : Nat) => (f_X9_value σ5 p6 73).bind (fun (v7 : Int64) => pL σ5 76 i4 v7 (fun (σ8 : Mem) => gL σ8 76 i4 (fun (v9 : Int64) => (f_X4_put σ8 74 i4 v9).bind (fun (σ10 : Mem) => gR 44 i4 (fun (p11 : Nat) => (f_X9_value σ10 p11 74).bind (fun (v12 : Int64) => pL σ10 77 i4 v12 (fun (σ13 : Mem) => gL σ13 x1 i4 (fun (v14 : Int64) => (f_X0_powerAt σ13 i4 x2).bind (fun (v15 : Int64) => bd (v14 - v15) (fun (v16 : Int64) => nzL x2 (bd (v16 / x2) (fun (v17 : Int64) => if (v17 * x2) = v16 then (if v17 < (-999) then (some (Sum.inr (Sum.inr (false, σ13)))) else (if v17 ≤ 999 then ((f_X0_putRoot σ13 i4 v17).bind (fun (σ18 : Mem) => gL σ18 76 i4 (fun (v19 : Int64) => pL σ18 76 i4 (v19 + (2 * v17)) (fun (σ20 : Mem) => gL σ20 76 i4 (fun (v21 : Int64) => (f_X4_put σ20 74 i4 v21).bind (fun (σ22 : Mem) => some (Sum.inl (σ22, i4 + 1)))))))) else (some (Sum.inr (Sum.inr (false, σ13)))))) else (some (Sum.inr (Sum.inr (false, σ13)))))))))))))))))))
noncomputable def f_X0_extract (σ : Mem) (x0 : Nat) (x1 : Nat) (x2 : Int64) : Option (Bool × Mem) :=
  if 1 ≤ x2 then ((loopO (fun (z4 : (Mem × Int32)) => l_X0_extract_11 x1 x2 z4.1 z4.2) (σ, 0) : Option (Mem ⊕ (Bool × Mem))).bind (Sum.elim (fun (z1 : Mem) => j_X0_extract_185 x0 z1) some)) else (some (false, σ))
theorem t_X0_extract {w : Wd} (hw : WOK w) {σ : Mem} {x0 : Nat} {x1 : Nat} {x2 : Int64} (hx0 : isk w x0 13) (hx1 : isk w x1 13) : JO w mu_X0_extract vB σ [(0, .ref (adr w 72)), (1, .ref (adr w x0)), (2, .ref (adr w x1)), (3, .long x2)] [] 0 (f_X0_extract σ x0 x1 x2) some := by
  unfold f_X0_extract
  refine jo_lload_n (pc := 0) 3 rfl dX0_extract_0 rfl ?_
  refine jo_lconst (pc := 1) dX0_extract_1 (ic_l_1) ?_
  refine jo_lcmp_ge (pc := 2) dX0_extract_2 dX0_extract_3 (tgt := 8) rfl ?_ ?_
  · refine jo_iconst (pc := 8) dX0_extract_8 (ic_i_0) ?_
    refine jo_istore (pc := 9) (lv' := [(5, .int 0), (0, .ref (adr w 72)), (1, .ref (adr w x0)), (2, .ref (adr w x1)), (3, .long x2)]) dX0_extract_9 (ltb rfl) rfl ?_
    refine jo_joinS (S := Mem) (fun (z1 : Mem) => z1) (fun (z1 : Mem) => [(0, .ref (adr w 72)), (1, .ref (adr w x0))]) (fun (z1 : Mem) => []) 185 ?_ (fun h185_1 => ?_)
    · intro σ1
      show JO w mu_X0_extract vB σ1 [(0, .ref (adr w 72)), (1, .ref (adr w x0))] [] 185 (j_X0_extract_185 x0 σ1) _
      unfold j_X0_extract_185
      refine jo_aload_n (pc := 185) 0 rfl dX0_extract_185 rfl ?_
      refine jo_getrE (pc := 186) ok_0_3 (ik_72 hw) rf_72_3 gw_343 dX0_extract_186 ?_
      refine jo_aload_n (pc := 189) 1 rfl dX0_extract_189 rfl ?_
      refine jo_cS_V_i (pc := 190) (μ' := mu_X0_copy) (fx := f_X0_copy σ1 75 x0) (As := [.ref (adr w 75), .ref (adr w x0)]) (c_X0_copy hw (ik_75 hw) (hx0)) (ok_X0_copy) (ltb rfl) (all2 gw_853 gw_704) rfl rfl (Nat.le_of_ble_eq_true rfl) dX0_extract_190 (fun σ2 => ?_)
      refine jo_iconst (pc := 193) dX0_extract_193 (ic_i_1) ?_
      exact jo_breturn (pc := 194) (b := true) rfl rfl dX0_extract_194
    · refine jo_lv (lv' := [(0, .ref (adr w 72)), (1, .ref (adr w x0)), (2, .ref (adr w x1)), (3, .long x2), (5, .int 0)]) [1, 2, 3, 4, 0] rfl ?_
      refine jo_loop (X := Mem ⊕ (Bool × Mem)) (fun (z4 : (Mem × Int32)) => z4.1) (fun (z4 : (Mem × Int32)) => [(0, .ref (adr w 72)), (1, .ref (adr w x0)), (2, .ref (adr w x1)), (3, .long x2), (5, .int z4.2)]) (body := (fun (z4 : (Mem × Int32)) => l_X0_extract_11 x1 x2 z4.1 z4.2)) (fun F11_4 hF11_4 s => ?_) (σ, 0)
      obtain ⟨σ3, i4⟩ := s
      show JO w mu_X0_extract vB σ3 [(0, .ref (adr w 72)), (1, .ref (adr w x0)), (2, .ref (adr w x1)), (3, .long x2), (5, .int i4)] [] 11 (l_X0_extract_11 x1 x2 σ3 i4) _
      unfold l_X0_extract_11
      refine jo_iload (pc := 11) 4 rfl dX0_extract_11 ?_
      refine jo_bipush (pc := 13) dX0_extract_13 (ic_b_6) ?_
      refine jo_icmp_ge (pc := 15) dX0_extract_15 (tgt := 185) rfl ?_ ?_
      · refine jo_lv (lv' := [(0, .ref (adr w 72)), (1, .ref (adr w x0))]) [0, 1] rfl ?_
        exact jo_leaf (by rfl) (h185_1 σ3)
      · refine jo_aload_n (pc := 18) 0 rfl dX0_extract_18 rfl ?_
        refine jo_iload (pc := 19) 4 rfl dX0_extract_19 ?_
        refine jo_lconst (pc := 21) dX0_extract_21 (ic_l_0) ?_
        refine jo_cV_V_i (pc := 22) (μ' := mu_X0_putRoot) (fx := f_X0_putRoot σ3 i4 0) (As := [.int i4, .long 0]) (c_X0_putRoot hw) (ok_X0_putRoot) (ltb rfl) (all3 gw_891 gw_893 gw_17) (ik_72 hw) (by decide) (q := (RX0, TX0, 8)) rfl rfl rfl rfl (Nat.le_of_ble_eq_true rfl) dX0_extract_22 (fun σ5 => ?_)
        refine jo_aload_n (pc := 25) 0 rfl dX0_extract_25 rfl ?_
        refine jo_getrE (pc := 26) ok_0_4 (ik_72 hw) rf_72_4 gw_344 dX0_extract_26 ?_
        refine jo_iload (pc := 29) 4 rfl dX0_extract_29 ?_
        refine jo_aload_n (pc := 31) 0 rfl dX0_extract_31 rfl ?_
        refine jo_getrE (pc := 32) ok_0_0 (ik_72 hw) rf_72_0 gw_340 dX0_extract_32 ?_
        refine jo_getrE (pc := 35) ok_4_2 (ik_40 hw) rf_40_2 gw_305 dX0_extract_35 ?_
        refine jo_iload (pc := 38) 4 rfl dX0_extract_38 ?_
        refine jo_aaldG (pc := 40) (z := 9) hw (ik_44 hw) (by decide) (t := 3) rfl rfl (by decide) dX0_extract_40 (fun p6 hp6 => ?_)
        refine jo_aload_n (pc := 41) 0 rfl dX0_extract_41 rfl ?_
        refine jo_getrE (pc := 42) ok_0_1 (ik_72 hw) rf_72_1 gw_341 dX0_extract_42 ?_
        refine jo_cV_J_p (pc := 45) (μ' := mu_X9_value) (fx := f_X9_value σ5 p6 73) (As := [.ref (adr w 73)]) (c_X9_value hw (hp6) (ik_73 hw)) (ok_X9_value) (ltb rfl) (all3 gw_819 gw_618 gw_619) (hp6) (by decide) (q := (RX9, TX9, 4)) rfl rfl rfl rfl (Nat.le_of_ble_eq_true rfl) dX0_extract_45 (fun v7 => ?_)
        refine jo_last (pc := 48) (ik_76 hw) dX0_extract_48 (fun σ8 => ?_)
        refine jo_aload_n (pc := 49) 0 rfl dX0_extract_49 rfl ?_
        refine jo_getrE (pc := 50) ok_0_2 (ik_72 hw) rf_72_2 gw_342 dX0_extract_50 ?_
        refine jo_iload (pc := 53) 4 rfl dX0_extract_53 ?_
        refine jo_aload_n (pc := 55) 0 rfl dX0_extract_55 rfl ?_
        refine jo_getrE (pc := 56) ok_0_4 (ik_72 hw) rf_72_4 gw_344 dX0_extract_56 ?_
        refine jo_iload (pc := 59) 4 rfl dX0_extract_59 ?_
        refine jo_lald (pc := 61) (ik_76 hw) dX0_extract_61 (fun v9 => ?_)
        refine jo_cS_V_i (pc := 62) (μ' := mu_X4_put) (fx := f_X4_put σ8 74 i4 v9) (As := [.ref (adr w 74), .int i4, .long v9]) (c_X4_put hw (ik_74 hw)) (ok_X4_put) (ltb rfl) (all2 gw_818 gw_614) rfl rfl (Nat.le_of_ble_eq_true rfl) dX0_extract_62 (fun σ10 => ?_)
        refine jo_aload_n (pc := 65) 0 rfl dX0_extract_65 rfl ?_
        refine jo_getrE (pc := 66) ok_0_5 (ik_72 hw) rf_72_5 gw_345 dX0_extract_66 ?_
        refine jo_iload (pc := 69) 4 rfl dX0_extract_69 ?_
        refine jo_aload_n (pc := 71) 0 rfl dX0_extract_71 rfl ?_
        refine jo_getrE (pc := 72) ok_0_0 (ik_72 hw) rf_72_0 gw_340 dX0_extract_72 ?_
        refine jo_getrE (pc := 75) ok_4_2 (ik_40 hw) rf_40_2 gw_305 dX0_extract_75 ?_
        refine jo_iload (pc := 78) 4 rfl dX0_extract_78 ?_
        refine jo_aaldG (pc := 80) (z := 9) hw (ik_44 hw) (by decide) (t := 3) rfl rfl (by decide) dX0_extract_80 (fun p11 hp11 => ?_)
        refine jo_aload_n (pc := 81) 0 rfl dX0_extract_81 rfl ?_
        refine jo_getrE (pc := 82) ok_0_2 (ik_72 hw) rf_72_2 gw_342 dX0_extract_82 ?_
        refine jo_cV_J_p (pc := 85) (μ' := mu_X9_value) (fx := f_X9_value σ10 p11 74) (As := [.ref (adr w 74)]) (c_X9_value hw (hp11) (ik_74 hw)) (ok_X9_value) (ltb rfl) (all3 gw_819 gw_618 gw_619) (hp11) (by decide) (q := (RX9, TX9, 4)) rfl rfl rfl rfl (Nat.le_of_ble_eq_true rfl) dX0_extract_85 (fun v12 => ?_)
        refine jo_last (pc := 88) (ik_77 hw) dX0_extract_88 (fun σ13 => ?_)
        refine jo_aload_n (pc := 89) 2 rfl dX0_extract_89 rfl ?_
        refine jo_iload (pc := 90) 4 rfl dX0_extract_90 ?_
        refine jo_lald (pc := 92) (hx1) dX0_extract_92 (fun v14 => ?_)
        refine jo_aload_n (pc := 93) 0 rfl dX0_extract_93 rfl ?_
        refine jo_iload (pc := 94) 4 rfl dX0_extract_94 ?_
        refine jo_lload_n (pc := 96) 3 rfl dX0_extract_96 rfl ?_
        refine jo_cV_J_p (pc := 97) (μ' := mu_X0_powerAt) (fx := f_X0_powerAt σ13 i4 x2) (As := [.int i4, .long x2]) (c_X0_powerAt hw) (ok_X0_powerAt) (ltb rfl) (all3 gw_855 gw_857 gw_16) (ik_72 hw) (by decide) (q := (RX0, TX0, 8)) rfl rfl rfl rfl (Nat.le_of_ble_eq_true rfl) dX0_extract_97 (fun v15 => ?_)
        refine jo_lsub (pc := 100) dX0_extract_100 ?_
        refine jo_bd ?_
        refine jo_lstore (pc := 101) (lv' := [(6, .long (v14 - v15)), (0, .ref (adr w 72)), (1, .ref (adr w x0)), (2, .ref (adr w x1)), (3, .long x2), (5, .int i4)]) dX0_extract_101 (ltb rfl) rfl ?_
        generalize (v14 - v15) = v16
        refine jo_lload (pc := 103) 0 rfl dX0_extract_103 ?_
        refine jo_lload_n (pc := 105) 4 rfl dX0_extract_105 rfl ?_
        refine jo_ldiv (pc := 106) dX0_extract_106 ?_
        refine jo_bd ?_
        refine jo_lstore (pc := 107) (lv' := [(8, .long (v16 / x2)), (6, .long v16), (0, .ref (adr w 72)), (1, .ref (adr w x0)), (2, .ref (adr w x1)), (3, .long x2), (5, .int i4)]) dX0_extract_107 (ltb rfl) rfl ?_
        generalize (v16 / x2) = v17
        refine jo_lload (pc := 109) 0 rfl dX0_extract_109 ?_
        refine jo_lload_n (pc := 111) 5 rfl dX0_extract_111 rfl ?_
        refine jo_lmul (pc := 112) dX0_extract_112 ?_
        refine jo_lload (pc := 113) 1 rfl dX0_extract_113 ?_
        refine jo_lcmp_ne (pc := 115) dX0_extract_115 dX0_extract_116 (tgt := 137) rfl ?_ ?_
        · refine jo_iconst (pc := 137) dX0_extract_137 (ic_i_0) ?_
          exact jo_breturn (pc := 138) (b := false) rfl rfl dX0_extract_138
        · refine jo_lload (pc := 119) 0 rfl dX0_extract_119 ?_
          refine jo_ldc2 (pc := 121) dX0_extract_121 gw_895 ?_
          refine jo_lcmp_lt (pc := 124) dX0_extract_124 dX0_extract_125 (tgt := 137) rfl ?_ ?_
          · refine jo_iconst (pc := 137) dX0_extract_137 (ic_i_0) ?_
            exact jo_breturn (pc := 138) (b := false) rfl rfl dX0_extract_138
          · refine jo_lload (pc := 128) 0 rfl dX0_extract_128 ?_
            refine jo_ldc2 (pc := 130) dX0_extract_130 gw_896 ?_
            refine jo_lcmp_le (pc := 133) dX0_extract_133 dX0_extract_134 (tgt := 139) rfl ?_ ?_
            · refine jo_aload_n (pc := 139) 2 rfl dX0_extract_139 rfl ?_
              refine jo_iload (pc := 140) 6 rfl dX0_extract_140 ?_
              refine jo_lload (pc := 142) 0 rfl dX0_extract_142 ?_
              refine jo_cV_V_i (pc := 144) (μ' := mu_X0_putRoot) (fx := f_X0_putRoot σ13 i4 v17) (As := [.int i4, .long v17]) (c_X0_putRoot hw) (ok_X0_putRoot) (ltb rfl) (all3 gw_891 gw_893 gw_17) (ik_72 hw) (by decide) (q := (RX0, TX0, 8)) rfl rfl rfl rfl (Nat.le_of_ble_eq_true rfl) dX0_extract_144 (fun σ18 => ?_)
              refine jo_aload_n (pc := 147) 2 rfl dX0_extract_147 rfl ?_
              refine jo_getrE (pc := 148) ok_0_4 (ik_72 hw) rf_72_4 gw_344 dX0_extract_148 ?_
              refine jo_iload (pc := 151) 6 rfl dX0_extract_151 ?_
              refine jo_dup2 (pc := 153) dX0_extract_153 rfl rfl ?_
              refine jo_lald (pc := 154) (ik_76 hw) dX0_extract_154 (fun v19 => ?_)
              refine jo_ldc2 (pc := 155) dX0_extract_155 gw_863 ?_
              refine jo_lload (pc := 158) 0 rfl dX0_extract_158 ?_
              refine jo_lmul (pc := 160) dX0_extract_160 ?_
              refine jo_ladd (pc := 161) dX0_extract_161 ?_
              refine jo_last (pc := 162) (ik_76 hw) dX0_extract_162 (fun σ20 => ?_)
              refine jo_aload_n (pc := 163) 2 rfl dX0_extract_163 rfl ?_
              refine jo_getrE (pc := 164) ok_0_2 (ik_72 hw) rf_72_2 gw_342 dX0_extract_164 ?_
              refine jo_iload (pc := 167) 6 rfl dX0_extract_167 ?_
              refine jo_aload_n (pc := 169) 2 rfl dX0_extract_169 rfl ?_
              refine jo_getrE (pc := 170) ok_0_4 (ik_72 hw) rf_72_4 gw_344 dX0_extract_170 ?_
              refine jo_iload (pc := 173) 6 rfl dX0_extract_173 ?_
              refine jo_lald (pc := 175) (ik_76 hw) dX0_extract_175 (fun v21 => ?_)
              refine jo_cS_V_i (pc := 176) (μ' := mu_X4_put) (fx := f_X4_put σ20 74 i4 v21) (As := [.ref (adr w 74), .int i4, .long v21]) (c_X4_put hw (ik_74 hw)) (ok_X4_put) (ltb rfl) (all2 gw_818 gw_614) rfl rfl (Nat.le_of_ble_eq_true rfl) dX0_extract_176 (fun σ22 => ?_)
              refine jo_iinc (pc := 179) (lv' := [(5, .int (i4 + 1)), (8, .long v17), (6, .long v16), (0, .ref (adr w 72)), (1, .ref (adr w x0)), (2, .ref (adr w x1)), (3, .long x2)]) 6 rfl dX0_extract_179 (congrArg (fun z => i4 + z) (ic_i_1)) (ltb rfl) rfl ?_
              refine jo_goto (pc := 182) dX0_extract_182 (tgt := 11) rfl ?_
              refine jo_lv (lv' := [(0, .ref (adr w 72)), (1, .ref (adr w x0)), (2, .ref (adr w x1)), (3, .long x2), (5, .int (i4 + 1))]) [3, 4, 5, 6, 0] rfl ?_
              exact jo_leaf (by rfl) (hF11_4 (σ22, i4 + 1))
            · refine jo_iconst (pc := 137) dX0_extract_137 (ic_i_0) ?_
              exact jo_breturn (pc := 138) (b := false) rfl rfl dX0_extract_138
  · refine jo_iconst (pc := 6) dX0_extract_6 (ic_i_0) ?_
    exact jo_breturn (pc := 7) (b := false) rfl rfl dX0_extract_7
theorem c_X0_extract {w : Wd} (hw : WOK w) {σ : Mem} {x0 : Nat} {x1 : Nat} {x2 : Int64} (hx0 : isk w x0 13) (hx1 : isk w x1 13) : ∀ r σ', f_X0_extract σ x0 x1 x2 = some (r, σ') → MC w mu_X0_extract (vB r) [.ref (adr w 72), .ref (adr w x0), .ref (adr w x1), .long x2] σ σ' := mc_of ok_X0_extract rfl (Nat.le_of_ble_eq_true rfl) (t_X0_extract hw hx0 hx1)
abbrev mu_J7_fill_53178 : MD := (yJ7_fill_53178, cJ7_fill_53178, 4, none, 0)
theorem ok_J7_fill_53178 : MOK mu_J7_fill_53178 2 := ⟨gw_522, gw_169, (by decide +kernel : plainFor yJ7_fill_53178 = true), ⟨(by decide +kernel : yJ7_fill_53178.cls ≠ "java/lang/invoke/MethodHandle"), (by decide +kernel : yJ7_fill_53178.cls ≠ "java/lang/invoke/VarHandle"), (by decide +kernel : (parseMethodDescriptor yJ7_fill_53178.desc).map (fun d => d.parameters.length) = some 2)⟩, Nat.le_of_ble_eq_true rfl⟩
noncomputable def l_J7_fill_53178_5 (x0 : Nat) (x1 : Int32) (v1 : Int32) (σ2 : Mem) (i3 : Int32) : Option ((Mem × Int32) ⊕ Mem) :=
  if v1 ≤ i3 then (some (Sum.inr σ2)) else (pI σ2 x0 i3 x1 (fun (σ4 : Mem) => some (Sum.inl (σ4, i3 + 1))))
noncomputable def f_J7_fill_53178 (σ : Mem) (x0 : Nat) (x1 : Int32) : Option Mem :=
  bd (Int32.ofNat (ln x0)) (fun (v1 : Int32) => loopO (fun (z3 : (Mem × Int32)) => l_J7_fill_53178_5 x0 x1 v1 z3.1 z3.2) (σ, 0))
theorem t_J7_fill_53178 {w : Wd} (hw : WOK w) {σ : Mem} {x0 : Nat} {x1 : Int32} (hx0 : isk w x0 12) : JO w mu_J7_fill_53178 vV σ [(0, .ref (adr w x0)), (1, .int x1)] [] 0 (f_J7_fill_53178 σ x0 x1) (fun z => some ((), z)) := by
  unfold f_J7_fill_53178
  refine jo_iconst (pc := 0) dJ7_fill_53178_0 (ic_i_0) ?_
  refine jo_istore_n (pc := 1) (lv' := [(2, .int 0), (0, .ref (adr w x0)), (1, .int x1)]) dJ7_fill_53178_1 rfl (ltb rfl) rfl ?_
  refine jo_aload_n (pc := 2) 1 rfl dJ7_fill_53178_2 rfl ?_
  refine jo_alenI (pc := 3) (hx0) (by decide) (t := 0) rfl dJ7_fill_53178_3 ?_
  refine jo_bd ?_
  refine jo_istore_n (pc := 4) (lv' := [(3, .int (Int32.ofNat (ln x0))), (2, .int 0), (0, .ref (adr w x0)), (1, .int x1)]) dJ7_fill_53178_4 rfl (ltb rfl) rfl ?_
  generalize (Int32.ofNat (ln x0)) = v1
  refine jo_lv (lv' := [(3, .int v1), (0, .ref (adr w x0)), (1, .int x1), (2, .int 0)]) [0, 2, 3, 1] rfl ?_
  refine jo_loop (X := Mem) (fun (z3 : (Mem × Int32)) => z3.1) (fun (z3 : (Mem × Int32)) => [(3, .int v1), (0, .ref (adr w x0)), (1, .int x1), (2, .int z3.2)]) (body := (fun (z3 : (Mem × Int32)) => l_J7_fill_53178_5 x0 x1 v1 z3.1 z3.2)) (fun F5_3 hF5_3 s => ?_) (σ, 0)
  obtain ⟨σ2, i3⟩ := s
  show JO w mu_J7_fill_53178 vV σ2 [(3, .int v1), (0, .ref (adr w x0)), (1, .int x1), (2, .int i3)] [] 5 (l_J7_fill_53178_5 x0 x1 v1 σ2 i3) _
  unfold l_J7_fill_53178_5
  refine jo_iload_n (pc := 5) 3 rfl dJ7_fill_53178_5 rfl ?_
  refine jo_iload_n (pc := 6) 0 rfl dJ7_fill_53178_6 rfl ?_
  refine jo_icmp_ge (pc := 7) dJ7_fill_53178_7 (tgt := 20) rfl ?_ ?_
  · exact jo_return (pc := 20) rfl rfl dJ7_fill_53178_20
  · refine jo_aload_n (pc := 10) 1 rfl dJ7_fill_53178_10 rfl ?_
    refine jo_iload_n (pc := 11) 3 rfl dJ7_fill_53178_11 rfl ?_
    refine jo_iload_n (pc := 12) 2 rfl dJ7_fill_53178_12 rfl ?_
    refine jo_iast (pc := 13) (hx0) dJ7_fill_53178_13 (fun σ4 => ?_)
    refine jo_iinc (pc := 14) (lv' := [(2, .int (i3 + 1)), (3, .int v1), (0, .ref (adr w x0)), (1, .int x1)]) 3 rfl dJ7_fill_53178_14 (congrArg (fun z => i3 + z) (ic_i_1)) (ltb rfl) rfl ?_
    refine jo_goto (pc := 17) dJ7_fill_53178_17 (tgt := 5) rfl ?_
    refine jo_lv (lv' := [(3, .int v1), (0, .ref (adr w x0)), (1, .int x1), (2, .int (i3 + 1))]) [1, 2, 3, 0] rfl ?_
    exact jo_leaf (by rfl) (hF5_3 (σ4, i3 + 1))
theorem c_J7_fill_53178 {w : Wd} (hw : WOK w) {σ : Mem} {x0 : Nat} {x1 : Int32} (hx0 : isk w x0 12) : ∀ σ', f_J7_fill_53178 σ x0 x1 = some σ' → MC w mu_J7_fill_53178 none [.ref (adr w x0), .int x1] σ σ' := mc_ofV ok_J7_fill_53178 rfl (Nat.le_of_ble_eq_true rfl) (t_J7_fill_53178 hw hx0)
abbrev mu_X1_isAt : MD := (yX1_isAt, cX1_isAt, 4, some .boolean, 0)
theorem ok_X1_isAt : MOK mu_X1_isAt 2 := ⟨gw_1100, gw_167, (by decide +kernel : plainFor yX1_isAt = true), ⟨(by decide +kernel : yX1_isAt.cls ≠ "java/lang/invoke/MethodHandle"), (by decide +kernel : yX1_isAt.cls ≠ "java/lang/invoke/VarHandle"), (by decide +kernel : (parseMethodDescriptor yX1_isAt.desc).map (fun d => d.parameters.length) = some 2)⟩, Nat.le_of_ble_eq_true rfl⟩
noncomputable def l_X1_isAt_2 (σ : Mem) (x0 : Int32) (x1 : Nat) (i1 : Int32) : Option (Int32 ⊕ Bool) :=
  if 6 ≤ i1 then (some (Sum.inr true)) else (gL σ 130 ((x0 * 6) + i1) (fun (v2 : Int64) => gL σ x1 i1 (fun (v3 : Int64) => if v2 = v3 then (some (Sum.inl (i1 + 1))) else (some (Sum.inr false)))))
noncomputable def f_X1_isAt (σ : Mem) (x0 : Int32) (x1 : Nat) : Option Bool :=
  loopO (fun (z1 : Int32) => l_X1_isAt_2 σ x0 x1 z1) 0
theorem t_X1_isAt {w : Wd} (hw : WOK w) {σ : Mem} {x0 : Int32} {x1 : Nat} (hx1 : isk w x1 13) : JO w mu_X1_isAt vB σ [(0, .ref (adr w 128)), (1, .int x0), (2, .ref (adr w x1))] [] 0 (f_X1_isAt σ x0 x1) (fun z => some (z, σ)) := by
  unfold f_X1_isAt
  refine jo_iconst (pc := 0) dX1_isAt_0 (ic_i_0) ?_
  refine jo_istore_n (pc := 1) (lv' := [(3, .int 0), (0, .ref (adr w 128)), (1, .int x0), (2, .ref (adr w x1))]) dX1_isAt_1 rfl (ltb rfl) rfl ?_
  refine jo_lv (lv' := [(0, .ref (adr w 128)), (1, .int x0), (2, .ref (adr w x1)), (3, .int 0)]) [1, 2, 3, 0] rfl ?_
  refine jo_loop (X := Bool) (fun (z1 : Int32) => σ) (fun (z1 : Int32) => [(0, .ref (adr w 128)), (1, .int x0), (2, .ref (adr w x1)), (3, .int z1)]) (body := (fun (z1 : Int32) => l_X1_isAt_2 σ x0 x1 z1)) (fun F2_1 hF2_1 s => ?_) 0
  revert s; intro i1
  show JO w mu_X1_isAt vB σ [(0, .ref (adr w 128)), (1, .int x0), (2, .ref (adr w x1)), (3, .int i1)] [] 2 (l_X1_isAt_2 σ x0 x1 i1) _
  unfold l_X1_isAt_2
  refine jo_iload_n (pc := 2) 3 rfl dX1_isAt_2 rfl ?_
  refine jo_bipush (pc := 3) dX1_isAt_3 (ic_b_6) ?_
  refine jo_icmp_ge (pc := 5) dX1_isAt_5 (tgt := 34) rfl ?_ ?_
  · refine jo_iconst (pc := 34) dX1_isAt_34 (ic_i_1) ?_
    exact jo_breturn (pc := 35) (b := true) rfl rfl dX1_isAt_35
  · refine jo_aload_n (pc := 8) 0 rfl dX1_isAt_8 rfl ?_
    refine jo_getrE (pc := 9) ok_1_4 (ik_128 hw) rf_128_4 gw_435 dX1_isAt_9 ?_
    refine jo_iload_n (pc := 12) 1 rfl dX1_isAt_12 rfl ?_
    refine jo_bipush (pc := 13) dX1_isAt_13 (ic_b_6) ?_
    refine jo_imul (pc := 15) dX1_isAt_15 ?_
    refine jo_iload_n (pc := 16) 3 rfl dX1_isAt_16 rfl ?_
    refine jo_iadd (pc := 17) dX1_isAt_17 ?_
    refine jo_lald (pc := 18) (ik_130 hw) dX1_isAt_18 (fun v2 => ?_)
    refine jo_aload_n (pc := 19) 2 rfl dX1_isAt_19 rfl ?_
    refine jo_iload_n (pc := 20) 3 rfl dX1_isAt_20 rfl ?_
    refine jo_lald (pc := 21) (hx1) dX1_isAt_21 (fun v3 => ?_)
    refine jo_lcmp_eq (pc := 22) dX1_isAt_22 dX1_isAt_23 (tgt := 28) rfl ?_ ?_
    · refine jo_iinc (pc := 28) (lv' := [(3, .int (i1 + 1)), (0, .ref (adr w 128)), (1, .int x0), (2, .ref (adr w x1))]) 3 rfl dX1_isAt_28 (congrArg (fun z => i1 + z) (ic_i_1)) (ltb rfl) rfl ?_
      refine jo_goto (pc := 31) dX1_isAt_31 (tgt := 2) rfl ?_
      refine jo_lv (lv' := [(0, .ref (adr w 128)), (1, .int x0), (2, .ref (adr w x1)), (3, .int (i1 + 1))]) [1, 2, 3, 0] rfl ?_
      exact jo_leaf (by rfl) (hF2_1 (i1 + 1))
    · refine jo_iconst (pc := 26) dX1_isAt_26 (ic_i_0) ?_
      exact jo_breturn (pc := 27) (b := false) rfl rfl dX1_isAt_27
theorem c_X1_isAt {w : Wd} (hw : WOK w) {σ : Mem} {x0 : Int32} {x1 : Nat} (hx1 : isk w x1 13) : ∀ r, f_X1_isAt σ x0 x1 = some r → MC w mu_X1_isAt (vB r) [.ref (adr w 128), .int x0, .ref (adr w x1)] σ σ := mc_ofP ok_X1_isAt rfl (Nat.le_of_ble_eq_true rfl) (t_X1_isAt hw hx1)
abbrev mu_X1_slotOf : MD := (yX1_slotOf, cX1_slotOf, 6, some .int, 1)
theorem ok_X1_slotOf : MOK mu_X1_slotOf 1 := ⟨gw_1095, gw_167, (by decide +kernel : plainFor yX1_slotOf = true), ⟨(by decide +kernel : yX1_slotOf.cls ≠ "java/lang/invoke/MethodHandle"), (by decide +kernel : yX1_slotOf.cls ≠ "java/lang/invoke/VarHandle"), (by decide +kernel : (parseMethodDescriptor yX1_slotOf.desc).map (fun d => d.parameters.length) = some 1)⟩, Nat.le_of_ble_eq_true rfl⟩
noncomputable def l_X1_slotOf_40 (σ : Mem) (x0 : Nat) (i3 : Int32) (i4 : Int32) : Option ((Int32 × Int32) ⊕ Int32) :=
  if 4096 ≤ i4 then (some (Sum.inr i3)) else (gI σ 131 i3 (fun (v5 : Int32) => if v5 = 0 then (some (Sum.inr i3)) else (gI σ 131 i3 (fun (v6 : Int32) => (f_X1_isAt σ (v6 - 1) x0).bind (fun (b7 : Bool) => if b7 then some (Sum.inr i3) else bd ((i3 + 1) &&& 4095) (fun (v8 : Int32) => some (Sum.inl (v8, i4 + 1))))))))
noncomputable def j_X1_slotOf_29 (σ : Mem) (x0 : Nat) (l1 : Int64) : Option Int32 :=
  bd ((Int64.toInt32 l1) &&& 4095) (fun (v2 : Int32) => loopO (fun (z4 : (Int32 × Int32)) => l_X1_slotOf_40 σ x0 z4.1 z4.2) (v2, 0))
noncomputable def l_X1_slotOf_5 (σ : Mem) (x0 : Nat) (l9 : Int64) (i10 : Int32) : Option ((Int64 × Int32) ⊕ Int64) :=
  if 6 ≤ i10 then (some (Sum.inr l9)) else (gL σ x0 i10 (fun (v11 : Int64) => bd ((l9 * 31) + v11) (fun (v12 : Int64) => some (Sum.inl (v12, i10 + 1)))))
noncomputable def f_X1_slotOf (σ : Mem) (x0 : Nat) : Option Int32 :=
  (loopO (fun (z10 : (Int64 × Int32)) => l_X1_slotOf_5 σ x0 z10.1 z10.2) (0, 0) : Option Int64).bind (fun (z1 : Int64) => j_X1_slotOf_29 σ x0 z1)
theorem t_X1_slotOf {w : Wd} (hw : WOK w) {σ : Mem} {x0 : Nat} (hx0 : isk w x0 13) : JO w mu_X1_slotOf vI σ [(0, .ref (adr w 128)), (1, .ref (adr w x0))] [] 0 (f_X1_slotOf σ x0) (fun z => some (z, σ)) := by
  unfold f_X1_slotOf
  refine jo_lconst (pc := 0) dX1_slotOf_0 (ic_l_0) ?_
  refine jo_lstore_n (pc := 1) (lv' := [(2, .long 0), (0, .ref (adr w 128)), (1, .ref (adr w x0))]) dX1_slotOf_1 rfl (ltb rfl) rfl ?_
  refine jo_iconst (pc := 2) dX1_slotOf_2 (ic_i_0) ?_
  refine jo_istore (pc := 3) (lv' := [(4, .int 0), (2, .long 0), (0, .ref (adr w 128)), (1, .ref (adr w x0))]) dX1_slotOf_3 (ltb rfl) rfl ?_
  refine jo_join1 (S := Int64) (fun (z1 : Int64) => σ) (fun (z1 : Int64) => [(0, .ref (adr w 128)), (1, .ref (adr w x0)), (2, .long z1)]) (fun (z1 : Int64) => []) 29 ?_ (fun h29_1 => ?_)
  · intro l1
    show JO w mu_X1_slotOf vI σ [(0, .ref (adr w 128)), (1, .ref (adr w x0)), (2, .long l1)] [] 29 (j_X1_slotOf_29 σ x0 l1) _
    unfold j_X1_slotOf_29
    refine jo_lload_n (pc := 29) 2 rfl dX1_slotOf_29 rfl ?_
    refine jo_l2i (pc := 30) dX1_slotOf_30 ?_
    refine jo_sipush (pc := 31) dX1_slotOf_31 (ic_s_4095) ?_
    refine jo_iand (pc := 34) dX1_slotOf_34 ?_
    refine jo_bd ?_
    refine jo_istore (pc := 35) (lv' := [(4, .int ((Int64.toInt32 l1) &&& 4095)), (0, .ref (adr w 128)), (1, .ref (adr w x0)), (2, .long l1)]) dX1_slotOf_35 (ltb rfl) rfl ?_
    generalize ((Int64.toInt32 l1) &&& 4095) = v2
    refine jo_iconst (pc := 37) dX1_slotOf_37 (ic_i_0) ?_
    refine jo_istore (pc := 38) (lv' := [(5, .int 0), (4, .int v2), (0, .ref (adr w 128)), (1, .ref (adr w x0)), (2, .long l1)]) dX1_slotOf_38 (ltb rfl) rfl ?_
    refine jo_lv (lv' := [(0, .ref (adr w 128)), (1, .ref (adr w x0)), (4, .int v2), (5, .int 0)]) [2, 3, 1, 0] rfl ?_
    refine jo_loop (X := Int32) (fun (z4 : (Int32 × Int32)) => σ) (fun (z4 : (Int32 × Int32)) => [(0, .ref (adr w 128)), (1, .ref (adr w x0)), (4, .int z4.1), (5, .int z4.2)]) (body := (fun (z4 : (Int32 × Int32)) => l_X1_slotOf_40 σ x0 z4.1 z4.2)) (fun F40_4 hF40_4 s => ?_) (v2, 0)
    obtain ⟨i3, i4⟩ := s
    show JO w mu_X1_slotOf vI σ [(0, .ref (adr w 128)), (1, .ref (adr w x0)), (4, .int i3), (5, .int i4)] [] 40 (l_X1_slotOf_40 σ x0 i3 i4) _
    unfold l_X1_slotOf_40
    refine jo_iload (pc := 40) 3 rfl dX1_slotOf_40 ?_
    refine jo_sipush (pc := 42) dX1_slotOf_42 (ic_s_4096) ?_
    refine jo_icmp_ge (pc := 45) dX1_slotOf_45 (tgt := 91) rfl ?_ ?_
    · refine jo_iload (pc := 91) 2 rfl dX1_slotOf_91 ?_
      exact jo_ireturn (pc := 93) rfl rfl dX1_slotOf_93
    · refine jo_aload_n (pc := 48) 0 rfl dX1_slotOf_48 rfl ?_
      refine jo_getrE (pc := 49) ok_1_5 (ik_128 hw) rf_128_5 gw_436 dX1_slotOf_49 ?_
      refine jo_iload (pc := 52) 2 rfl dX1_slotOf_52 ?_
      refine jo_iald (pc := 54) (ik_131 hw) dX1_slotOf_54 (fun v5 => ?_)
      refine jo_if_eq (pc := 55) dX1_slotOf_55 (tgt := 91) rfl ?_ ?_
      · refine jo_iload (pc := 91) 2 rfl dX1_slotOf_91 ?_
        exact jo_ireturn (pc := 93) rfl rfl dX1_slotOf_93
      · refine jo_aload_n (pc := 58) 0 rfl dX1_slotOf_58 rfl ?_
        refine jo_aload_n (pc := 59) 0 rfl dX1_slotOf_59 rfl ?_
        refine jo_getrE (pc := 60) ok_1_5 (ik_128 hw) rf_128_5 gw_436 dX1_slotOf_60 ?_
        refine jo_iload (pc := 63) 2 rfl dX1_slotOf_63 ?_
        refine jo_iald (pc := 65) (ik_131 hw) dX1_slotOf_65 (fun v6 => ?_)
        refine jo_iconst (pc := 66) dX1_slotOf_66 (ic_i_1) ?_
        refine jo_isub (pc := 67) dX1_slotOf_67 ?_
        refine jo_aload_n (pc := 68) 1 rfl dX1_slotOf_68 rfl ?_
        refine jo_cV_Z_p (pc := 69) (μ' := mu_X1_isAt) (fx := f_X1_isAt σ (v6 - 1) x0) (As := [.int (v6 - 1), .ref (adr w x0)]) (c_X1_isAt hw (hx0)) (ok_X1_isAt) (ltb rfl) (all3 gw_1097 gw_1099 gw_41) (ik_128 hw) (by decide) (q := (RX1, TX1, 10)) rfl rfl rfl rfl (Nat.le_of_ble_eq_true rfl) dX1_slotOf_69 (fun b7 => ?_)
        refine jo_ifz_ne (pc := 72) dX1_slotOf_72 (tgt := 91) rfl ?_ ?_
        · refine jo_iload (pc := 91) 2 rfl dX1_slotOf_91 ?_
          exact jo_ireturn (pc := 93) rfl rfl dX1_slotOf_93
        · refine jo_iload (pc := 75) 2 rfl dX1_slotOf_75 ?_
          refine jo_iconst (pc := 77) dX1_slotOf_77 (ic_i_1) ?_
          refine jo_iadd (pc := 78) dX1_slotOf_78 ?_
          refine jo_sipush (pc := 79) dX1_slotOf_79 (ic_s_4095) ?_
          refine jo_iand (pc := 82) dX1_slotOf_82 ?_
          refine jo_bd ?_
          refine jo_istore (pc := 83) (lv' := [(4, .int ((i3 + 1) &&& 4095)), (0, .ref (adr w 128)), (1, .ref (adr w x0)), (5, .int i4)]) dX1_slotOf_83 (ltb rfl) rfl ?_
          generalize ((i3 + 1) &&& 4095) = v8
          refine jo_iinc (pc := 85) (lv' := [(5, .int (i4 + 1)), (4, .int v8), (0, .ref (adr w 128)), (1, .ref (adr w x0))]) 3 rfl dX1_slotOf_85 (congrArg (fun z => i4 + z) (ic_i_1)) (ltb rfl) rfl ?_
          refine jo_goto (pc := 88) dX1_slotOf_88 (tgt := 40) rfl ?_
          refine jo_lv (lv' := [(0, .ref (adr w 128)), (1, .ref (adr w x0)), (4, .int v8), (5, .int (i4 + 1))]) [2, 3, 1, 0] rfl ?_
          exact jo_leaf (by rfl) (hF40_4 (v8, i4 + 1))
  · refine jo_lv (lv' := [(0, .ref (adr w 128)), (1, .ref (adr w x0)), (2, .long 0), (4, .int 0)]) [2, 3, 1, 0] rfl ?_
    refine jo_loop (X := Int64) (fun (z10 : (Int64 × Int32)) => σ) (fun (z10 : (Int64 × Int32)) => [(0, .ref (adr w 128)), (1, .ref (adr w x0)), (2, .long z10.1), (4, .int z10.2)]) (body := (fun (z10 : (Int64 × Int32)) => l_X1_slotOf_5 σ x0 z10.1 z10.2)) (fun F5_10 hF5_10 s => ?_) (0, 0)
    obtain ⟨l9, i10⟩ := s
    show JO w mu_X1_slotOf vI σ [(0, .ref (adr w 128)), (1, .ref (adr w x0)), (2, .long l9), (4, .int i10)] [] 5 (l_X1_slotOf_5 σ x0 l9 i10) _
    unfold l_X1_slotOf_5
    refine jo_iload (pc := 5) 3 rfl dX1_slotOf_5 ?_
    refine jo_bipush (pc := 7) dX1_slotOf_7 (ic_b_6) ?_
    refine jo_icmp_ge (pc := 9) dX1_slotOf_9 (tgt := 29) rfl ?_ ?_
    · refine jo_lv (lv' := [(0, .ref (adr w 128)), (1, .ref (adr w x0)), (2, .long l9)]) [0, 1, 2] rfl ?_
      exact jo_leaf (by rfl) (h29_1 l9)
    · refine jo_lload_n (pc := 12) 2 rfl dX1_slotOf_12 rfl ?_
      refine jo_ldc2 (pc := 13) dX1_slotOf_13 gw_1096 ?_
      refine jo_lmul (pc := 16) dX1_slotOf_16 ?_
      refine jo_aload_n (pc := 17) 1 rfl dX1_slotOf_17 rfl ?_
      refine jo_iload (pc := 18) 3 rfl dX1_slotOf_18 ?_
      refine jo_lald (pc := 20) (hx0) dX1_slotOf_20 (fun v11 => ?_)
      refine jo_ladd (pc := 21) dX1_slotOf_21 ?_
      refine jo_bd ?_
      refine jo_lstore_n (pc := 22) (lv' := [(2, .long ((l9 * 31) + v11)), (0, .ref (adr w 128)), (1, .ref (adr w x0)), (4, .int i10)]) dX1_slotOf_22 rfl (ltb rfl) rfl ?_
      generalize ((l9 * 31) + v11) = v12
      refine jo_iinc (pc := 23) (lv' := [(4, .int (i10 + 1)), (2, .long v12), (0, .ref (adr w 128)), (1, .ref (adr w x0))]) 3 rfl dX1_slotOf_23 (congrArg (fun z => i10 + z) (ic_i_1)) (ltb rfl) rfl ?_
      refine jo_goto (pc := 26) dX1_slotOf_26 (tgt := 5) rfl ?_
      refine jo_lv (lv' := [(0, .ref (adr w 128)), (1, .ref (adr w x0)), (2, .long v12), (4, .int (i10 + 1))]) [2, 3, 1, 0] rfl ?_
      exact jo_leaf (by rfl) (hF5_10 (v12, i10 + 1))
theorem c_X1_slotOf {w : Wd} (hw : WOK w) {σ : Mem} {x0 : Nat} (hx0 : isk w x0 13) : ∀ r, f_X1_slotOf σ x0 = some r → MC w mu_X1_slotOf (vI r) [.ref (adr w 128), .ref (adr w x0)] σ σ := mc_ofP ok_X1_slotOf rfl (Nat.le_of_ble_eq_true rfl) (t_X1_slotOf hw hx0)
