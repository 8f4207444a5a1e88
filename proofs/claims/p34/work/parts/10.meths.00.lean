section
abbrev mu_X0_copy : MD := (yX0_copy, cX0_copy, 2, none, 1)
theorem ok_X0_copy : MOK mu_X0_copy 2 := ⟨gw_705, gw_164, (by decide +kernel : plainFor yX0_copy = true), ⟨(by decide +kernel : yX0_copy.cls ≠ "java/lang/invoke/MethodHandle"), (by decide +kernel : yX0_copy.cls ≠ "java/lang/invoke/VarHandle"), (by decide +kernel : (parseMethodDescriptor yX0_copy.desc).map (fun d => d.parameters.length) = some 2)⟩, Nat.le_of_ble_eq_true rfl⟩
noncomputable def f_X0_copy (σ : Mem) (x0 : Nat) (x1 : Nat) : Option Mem :=
  cL σ x0 0 x1 0 6 (fun (σ1 : Mem) => some σ1)
theorem t_X0_copy {w : Wd} (hw : WOK w) {σ : Mem} {x0 : Nat} {x1 : Nat} (hx0 : isk w x0 13) (hx1 : isk w x1 13) : JO w mu_X0_copy vV σ [(0, .ref (adr w x0)), (1, .ref (adr w x1))] [] 0 (f_X0_copy σ x0 x1) (fun z => some ((), z)) := by
  unfold f_X0_copy
  refine jo_aload_n (pc := 0) 0 rfl dX0_copy_0 rfl ?_
  refine jo_iconst (pc := 1) dX0_copy_1 (ic_i_0) ?_
  refine jo_aload_n (pc := 2) 1 rfl dX0_copy_2 rfl ?_
  refine jo_iconst (pc := 3) dX0_copy_3 (ic_i_0) ?_
  refine jo_bipush (pc := 4) dX0_copy_4 (ic_b_6) ?_
  refine jo_acL (pc := 6) (hx0) (hx1) (all4 gw_706 gw_547 gw_546 gw_170) (ltb rfl) (Nat.le_of_ble_eq_true rfl) dX0_copy_6 (fun σ1 => ?_)
  exact jo_return (pc := 9) rfl rfl dX0_copy_9
theorem c_X0_copy {w : Wd} (hw : WOK w) {σ : Mem} {x0 : Nat} {x1 : Nat} (hx0 : isk w x0 13) (hx1 : isk w x1 13) : ∀ σ', f_X0_copy σ x0 x1 = some σ' → MC w mu_X0_copy none [.ref (adr w x0), .ref (adr w x1)] σ σ' := mc_ofV ok_X0_copy rfl (Nat.le_of_ble_eq_true rfl) (t_X0_copy hw hx0 hx1)
abbrev mu_X0_areSame : MD := (yX0_areSame, cX0_areSame, 3, some .boolean, 0)
theorem ok_X0_areSame : MOK mu_X0_areSame 2 := ⟨gw_1073, gw_164, (by decide +kernel : plainFor yX0_areSame = true), ⟨(by decide +kernel : yX0_areSame.cls ≠ "java/lang/invoke/MethodHandle"), (by decide +kernel : yX0_areSame.cls ≠ "java/lang/invoke/VarHandle"), (by decide +kernel : (parseMethodDescriptor yX0_areSame.desc).map (fun d => d.parameters.length) = some 2)⟩, Nat.le_of_ble_eq_true rfl⟩
noncomputable def l_X0_areSame_2 (σ : Mem) (x0 : Nat) (x1 : Nat) (i1 : Int32) : Option (Int32 ⊕ Bool) :=
  if 6 ≤ i1 then (some (Sum.inr true)) else (gL σ x0 i1 (fun (v2 : Int64) => gL σ x1 i1 (fun (v3 : Int64) => if v2 = v3 then (some (Sum.inl (i1 + 1))) else (some (Sum.inr false)))))
noncomputable def f_X0_areSame (σ : Mem) (x0 : Nat) (x1 : Nat) : Option Bool :=
  loopO (fun (z1 : Int32) => l_X0_areSame_2 σ x0 x1 z1) 0
theorem t_X0_areSame {w : Wd} (hw : WOK w) {σ : Mem} {x0 : Nat} {x1 : Nat} (hx0 : isk w x0 13) (hx1 : isk w x1 13) : JO w mu_X0_areSame vB σ [(0, .ref (adr w x0)), (1, .ref (adr w x1))] [] 0 (f_X0_areSame σ x0 x1) (fun z => some (z, σ)) := by
  unfold f_X0_areSame
  refine jo_iconst (pc := 0) dX0_areSame_0 (ic_i_0) ?_
  refine jo_istore_n (pc := 1) (lv' := [(2, .int 0), (0, .ref (adr w x0)), (1, .ref (adr w x1))]) dX0_areSame_1 rfl (ltb rfl) rfl ?_
  refine jo_lv (lv' := [(0, .ref (adr w x0)), (1, .ref (adr w x1)), (2, .int 0)]) [1, 2, 0] rfl ?_
  refine jo_loop (X := Bool) (fun (z1 : Int32) => σ) (fun (z1 : Int32) => [(0, .ref (adr w x0)), (1, .ref (adr w x1)), (2, .int z1)]) (body := (fun (z1 : Int32) => l_X0_areSame_2 σ x0 x1 z1)) (fun F2_1 hF2_1 s => ?_) 0
  revert s; intro i1
  show JO w mu_X0_areSame vB σ [(0, .ref (adr w x0)), (1, .ref (adr w x1)), (2, .int i1)] [] 2 (l_X0_areSame_2 σ x0 x1 i1) _
  unfold l_X0_areSame_2
  refine jo_iload_n (pc := 2) 2 rfl dX0_areSame_2 rfl ?_
  refine jo_bipush (pc := 3) dX0_areSame_3 (ic_b_6) ?_
  refine jo_icmp_ge (pc := 5) dX0_areSame_5 (tgt := 26) rfl ?_ ?_
  · refine jo_iconst (pc := 26) dX0_areSame_26 (ic_i_1) ?_
    exact jo_breturn (pc := 27) (b := true) rfl rfl dX0_areSame_27
  · refine jo_aload_n (pc := 8) 0 rfl dX0_areSame_8 rfl ?_
    refine jo_iload_n (pc := 9) 2 rfl dX0_areSame_9 rfl ?_
    refine jo_lald (pc := 10) (hx0) dX0_areSame_10 (fun v2 => ?_)
    refine jo_aload_n (pc := 11) 1 rfl dX0_areSame_11 rfl ?_
    refine jo_iload_n (pc := 12) 2 rfl dX0_areSame_12 rfl ?_
    refine jo_lald (pc := 13) (hx1) dX0_areSame_13 (fun v3 => ?_)
    refine jo_lcmp_eq (pc := 14) dX0_areSame_14 dX0_areSame_15 (tgt := 20) rfl ?_ ?_
    · refine jo_iinc (pc := 20) (lv' := [(2, .int (i1 + 1)), (0, .ref (adr w x0)), (1, .ref (adr w x1))]) 2 rfl dX0_areSame_20 (congrArg (fun z => i1 + z) (ic_i_1)) (ltb rfl) rfl ?_
      refine jo_goto (pc := 23) dX0_areSame_23 (tgt := 2) rfl ?_
      refine jo_lv (lv' := [(0, .ref (adr w x0)), (1, .ref (adr w x1)), (2, .int (i1 + 1))]) [1, 2, 0] rfl ?_
      exact jo_leaf (by rfl) (hF2_1 (i1 + 1))
    · refine jo_iconst (pc := 18) dX0_areSame_18 (ic_i_0) ?_
      exact jo_breturn (pc := 19) (b := false) rfl rfl dX0_areSame_19
theorem c_X0_areSame {w : Wd} (hw : WOK w) {σ : Mem} {x0 : Nat} {x1 : Nat} (hx0 : isk w x0 13) (hx1 : isk w x1 13) : ∀ r, f_X0_areSame σ x0 x1 = some r → MC w mu_X0_areSame (vB r) [.ref (adr w x0), .ref (adr w x1)] σ σ := mc_ofP ok_X0_areSame rfl (Nat.le_of_ble_eq_true rfl) (t_X0_areSame hw hx0 hx1)
abbrev mu_X0_isWithin : MD := (yX0_isWithin, cX0_isWithin, 4, some .boolean, 0)
theorem ok_X0_isWithin : MOK mu_X0_isWithin 2 := ⟨gw_827, gw_164, (by decide +kernel : plainFor yX0_isWithin = true), ⟨(by decide +kernel : yX0_isWithin.cls ≠ "java/lang/invoke/MethodHandle"), (by decide +kernel : yX0_isWithin.cls ≠ "java/lang/invoke/VarHandle"), (by decide +kernel : (parseMethodDescriptor yX0_isWithin.desc).map (fun d => d.parameters.length) = some 2)⟩, Nat.le_of_ble_eq_true rfl⟩
noncomputable def l_X0_isWithin_2 (σ : Mem) (x0 : Nat) (x1 : Int64) (i1 : Int32) : Option (Int32 ⊕ Bool) :=
  if 6 ≤ i1 then (some (Sum.inr true)) else (gL σ x0 i1 (fun (v2 : Int64) => if v2 < (-x1) then (some (Sum.inr false)) else (gL σ x0 i1 (fun (v3 : Int64) => if v3 ≤ x1 then (some (Sum.inl (i1 + 1))) else (some (Sum.inr false))))))
noncomputable def f_X0_isWithin (σ : Mem) (x0 : Nat) (x1 : Int64) : Option Bool :=
  loopO (fun (z1 : Int32) => l_X0_isWithin_2 σ x0 x1 z1) 0
theorem t_X0_isWithin {w : Wd} (hw : WOK w) {σ : Mem} {x0 : Nat} {x1 : Int64} (hx0 : isk w x0 13) : JO w mu_X0_isWithin vB σ [(0, .ref (adr w x0)), (1, .long x1)] [] 0 (f_X0_isWithin σ x0 x1) (fun z => some (z, σ)) := by
  unfold f_X0_isWithin
  refine jo_iconst (pc := 0) dX0_isWithin_0 (ic_i_0) ?_
  refine jo_istore_n (pc := 1) (lv' := [(3, .int 0), (0, .ref (adr w x0)), (1, .long x1)]) dX0_isWithin_1 rfl (ltb rfl) rfl ?_
  refine jo_lv (lv' := [(0, .ref (adr w x0)), (1, .long x1), (3, .int 0)]) [1, 2, 0] rfl ?_
  refine jo_loop (X := Bool) (fun (z1 : Int32) => σ) (fun (z1 : Int32) => [(0, .ref (adr w x0)), (1, .long x1), (3, .int z1)]) (body := (fun (z1 : Int32) => l_X0_isWithin_2 σ x0 x1 z1)) (fun F2_1 hF2_1 s => ?_) 0
  revert s; intro i1
  show JO w mu_X0_isWithin vB σ [(0, .ref (adr w x0)), (1, .long x1), (3, .int i1)] [] 2 (l_X0_isWithin_2 σ x0 x1 i1) _
  unfold l_X0_isWithin_2
  refine jo_iload_n (pc := 2) 2 rfl dX0_isWithin_2 rfl ?_
  refine jo_bipush (pc := 3) dX0_isWithin_3 (ic_b_6) ?_
  refine jo_icmp_ge (pc := 5) dX0_isWithin_5 (tgt := 33) rfl ?_ ?_
  · refine jo_iconst (pc := 33) dX0_isWithin_33 (ic_i_1) ?_
    exact jo_breturn (pc := 34) (b := true) rfl rfl dX0_isWithin_34
  · refine jo_aload_n (pc := 8) 0 rfl dX0_isWithin_8 rfl ?_
    refine jo_iload_n (pc := 9) 2 rfl dX0_isWithin_9 rfl ?_
    refine jo_lald (pc := 10) (hx0) dX0_isWithin_10 (fun v2 => ?_)
    refine jo_lload_n (pc := 11) 1 rfl dX0_isWithin_11 rfl ?_
    refine jo_lneg (pc := 12) dX0_isWithin_12 ?_
    refine jo_lcmp_lt (pc := 13) dX0_isWithin_13 dX0_isWithin_14 (tgt := 25) rfl ?_ ?_
    · refine jo_iconst (pc := 25) dX0_isWithin_25 (ic_i_0) ?_
      exact jo_breturn (pc := 26) (b := false) rfl rfl dX0_isWithin_26
    · refine jo_aload_n (pc := 17) 0 rfl dX0_isWithin_17 rfl ?_
      refine jo_iload_n (pc := 18) 2 rfl dX0_isWithin_18 rfl ?_
      refine jo_lald (pc := 19) (hx0) dX0_isWithin_19 (fun v3 => ?_)
      refine jo_lload_n (pc := 20) 1 rfl dX0_isWithin_20 rfl ?_
      refine jo_lcmp_le (pc := 21) dX0_isWithin_21 dX0_isWithin_22 (tgt := 27) rfl ?_ ?_
      · refine jo_iinc (pc := 27) (lv' := [(3, .int (i1 + 1)), (0, .ref (adr w x0)), (1, .long x1)]) 2 rfl dX0_isWithin_27 (congrArg (fun z => i1 + z) (ic_i_1)) (ltb rfl) rfl ?_
        refine jo_goto (pc := 30) dX0_isWithin_30 (tgt := 2) rfl ?_
        refine jo_lv (lv' := [(0, .ref (adr w x0)), (1, .long x1), (3, .int (i1 + 1))]) [1, 2, 0] rfl ?_
        exact jo_leaf (by rfl) (hF2_1 (i1 + 1))
      · refine jo_iconst (pc := 25) dX0_isWithin_25 (ic_i_0) ?_
        exact jo_breturn (pc := 26) (b := false) rfl rfl dX0_isWithin_26
theorem c_X0_isWithin {w : Wd} (hw : WOK w) {σ : Mem} {x0 : Nat} {x1 : Int64} (hx0 : isk w x0 13) : ∀ r, f_X0_isWithin σ x0 x1 = some r → MC w mu_X0_isWithin (vB r) [.ref (adr w x0), .long x1] σ σ := mc_ofP ok_X0_isWithin rfl (Nat.le_of_ble_eq_true rfl) (t_X0_isWithin hw hx0)
abbrev mu_X0_isOne : MD := (yX0_isOne, cX0_isOne, 1, some .boolean, 1)
theorem ok_X0_isOne : MOK mu_X0_isOne 1 := ⟨gw_1076, gw_164, (by decide +kernel : plainFor yX0_isOne = true), ⟨(by decide +kernel : yX0_isOne.cls ≠ "java/lang/invoke/MethodHandle"), (by decide +kernel : yX0_isOne.cls ≠ "java/lang/invoke/VarHandle"), (by decide +kernel : (parseMethodDescriptor yX0_isOne.desc).map (fun d => d.parameters.length) = some 1)⟩, Nat.le_of_ble_eq_true rfl⟩
noncomputable def f_X0_isOne (σ : Mem) (x0 : Nat) : Option Bool :=
  (f_X0_isWithin σ x0 0).bind (fun (b1 : Bool) => some b1)
theorem t_X0_isOne {w : Wd} (hw : WOK w) {σ : Mem} {x0 : Nat} (hx0 : isk w x0 13) : JO w mu_X0_isOne vB σ [(0, .ref (adr w x0))] [] 0 (f_X0_isOne σ x0) (fun z => some (z, σ)) := by
  unfold f_X0_isOne
  refine jo_aload_n (pc := 0) 0 rfl dX0_isOne_0 rfl ?_
  refine jo_lconst (pc := 1) dX0_isOne_1 (ic_l_0) ?_
  refine jo_cS_Z_p (pc := 2) (μ' := mu_X0_isWithin) (fx := f_X0_isWithin σ x0 0) (As := [.ref (adr w x0), .long 0]) (c_X0_isWithin hw (hx0)) (ok_X0_isWithin) (ltb rfl) (all2 gw_1077 gw_826) rfl rfl (Nat.le_of_ble_eq_true rfl) dX0_isOne_2 (fun b1 => ?_)
  exact jo_breturn (pc := 5) (b := b1) rfl rfl dX0_isOne_5
theorem c_X0_isOne {w : Wd} (hw : WOK w) {σ : Mem} {x0 : Nat} (hx0 : isk w x0 13) : ∀ r, f_X0_isOne σ x0 = some r → MC w mu_X0_isOne (vB r) [.ref (adr w x0)] σ σ := mc_ofP ok_X0_isOne rfl (Nat.le_of_ble_eq_true rfl) (t_X0_isOne hw hx0)
abbrev mu_J7_fill_d0a16 : MD := (yJ7_fill_d0a16, cJ7_fill_d0a16, 5, none, 0)
theorem ok_J7_fill_d0a16 : MOK mu_J7_fill_d0a16 2 := ⟨gw_716, gw_169, (by decide +kernel : plainFor yJ7_fill_d0a16 = true), ⟨(by decide +kernel : yJ7_fill_d0a16.cls ≠ "java/lang/invoke/MethodHandle"), (by decide +kernel : yJ7_fill_d0a16.cls ≠ "java/lang/invoke/VarHandle"), (by decide +kernel : (parseMethodDescriptor yJ7_fill_d0a16.desc).map (fun d => d.parameters.length) = some 2)⟩, Nat.le_of_ble_eq_true rfl⟩
noncomputable def l_J7_fill_d0a16_6 (x0 : Nat) (x1 : Int64) (v1 : Int32) (σ2 : Mem) (i3 : Int32) : Option ((Mem × Int32) ⊕ Mem) :=
  if v1 ≤ i3 then (some (Sum.inr σ2)) else (pL σ2 x0 i3 x1 (fun (σ4 : Mem) => some (Sum.inl (σ4, i3 + 1))))
noncomputable def f_J7_fill_d0a16 (σ : Mem) (x0 : Nat) (x1 : Int64) : Option Mem :=
  bd (Int32.ofNat (ln x0)) (fun (v1 : Int32) => loopO (fun (z3 : (Mem × Int32)) => l_J7_fill_d0a16_6 x0 x1 v1 z3.1 z3.2) (σ, 0))
theorem t_J7_fill_d0a16 {w : Wd} (hw : WOK w) {σ : Mem} {x0 : Nat} {x1 : Int64} (hx0 : isk w x0 13) : JO w mu_J7_fill_d0a16 vV σ [(0, .ref (adr w x0)), (1, .long x1)] [] 0 (f_J7_fill_d0a16 σ x0 x1) (fun z => some ((), z)) := by
  unfold f_J7_fill_d0a16
  refine jo_iconst (pc := 0) dJ7_fill_d0a16_0 (ic_i_0) ?_
  refine jo_istore_n (pc := 1) (lv' := [(3, .int 0), (0, .ref (adr w x0)), (1, .long x1)]) dJ7_fill_d0a16_1 rfl (ltb rfl) rfl ?_
  refine jo_aload_n (pc := 2) 1 rfl dJ7_fill_d0a16_2 rfl ?_
  refine jo_alenI (pc := 3) (hx0) (by decide) (t := 1) rfl dJ7_fill_d0a16_3 ?_
  refine jo_bd ?_
  refine jo_istore (pc := 4) (lv' := [(4, .int (Int32.ofNat (ln x0))), (3, .int 0), (0, .ref (adr w x0)), (1, .long x1)]) dJ7_fill_d0a16_4 (ltb rfl) rfl ?_
  generalize (Int32.ofNat (ln x0)) = v1
  refine jo_lv (lv' := [(4, .int v1), (0, .ref (adr w x0)), (1, .long x1), (3, .int 0)]) [0, 2, 3, 1] rfl ?_
  refine jo_loop (X := Mem) (fun (z3 : (Mem × Int32)) => z3.1) (fun (z3 : (Mem × Int32)) => [(4, .int v1), (0, .ref (adr w x0)), (1, .long x1), (3, .int z3.2)]) (body := (fun (z3 : (Mem × Int32)) => l_J7_fill_d0a16_6 x0 x1 v1 z3.1 z3.2)) (fun F6_3 hF6_3 s => ?_) (σ, 0)
  obtain ⟨σ2, i3⟩ := s
  show JO w mu_J7_fill_d0a16 vV σ2 [(4, .int v1), (0, .ref (adr w x0)), (1, .long x1), (3, .int i3)] [] 6 (l_J7_fill_d0a16_6 x0 x1 v1 σ2 i3) _
  unfold l_J7_fill_d0a16_6
  refine jo_iload_n (pc := 6) 3 rfl dJ7_fill_d0a16_6 rfl ?_
  refine jo_iload (pc := 7) 0 rfl dJ7_fill_d0a16_7 ?_
  refine jo_icmp_ge (pc := 9) dJ7_fill_d0a16_9 (tgt := 22) rfl ?_ ?_
  · exact jo_return (pc := 22) rfl rfl dJ7_fill_d0a16_22
  · refine jo_aload_n (pc := 12) 1 rfl dJ7_fill_d0a16_12 rfl ?_
    refine jo_iload_n (pc := 13) 3 rfl dJ7_fill_d0a16_13 rfl ?_
    refine jo_lload_n (pc := 14) 2 rfl dJ7_fill_d0a16_14 rfl ?_
    refine jo_last (pc := 15) (hx0) dJ7_fill_d0a16_15 (fun σ4 => ?_)
    refine jo_iinc (pc := 16) (lv' := [(3, .int (i3 + 1)), (4, .int v1), (0, .ref (adr w x0)), (1, .long x1)]) 3 rfl dJ7_fill_d0a16_16 (congrArg (fun z => i3 + z) (ic_i_1)) (ltb rfl) rfl ?_
    refine jo_goto (pc := 19) dJ7_fill_d0a16_19 (tgt := 6) rfl ?_
    refine jo_lv (lv' := [(4, .int v1), (0, .ref (adr w x0)), (1, .long x1), (3, .int (i3 + 1))]) [1, 2, 3, 0] rfl ?_
    exact jo_leaf (by rfl) (hF6_3 (σ4, i3 + 1))
theorem c_J7_fill_d0a16 {w : Wd} (hw : WOK w) {σ : Mem} {x0 : Nat} {x1 : Int64} (hx0 : isk w x0 13) : ∀ σ', f_J7_fill_d0a16 σ x0 x1 = some σ' → MC w mu_J7_fill_d0a16 none [.ref (adr w x0), .long x1] σ σ' := mc_ofV ok_J7_fill_d0a16 rfl (Nat.le_of_ble_eq_true rfl) (t_J7_fill_d0a16 hw hx0)
abbrev mu_X0_makeGenerator : MD := (yX0_makeGenerator, cX0_makeGenerator, 4, none, 1)
theorem ok_X0_makeGenerator : MOK mu_X0_makeGenerator 3 := ⟨gw_1011, gw_164, (by decide +kernel : plainFor yX0_makeGenerator = true), ⟨(by decide +kernel : yX0_makeGenerator.cls ≠ "java/lang/invoke/MethodHandle"), (by decide +kernel : yX0_makeGenerator.cls ≠ "java/lang/invoke/VarHandle"), (by decide +kernel : (parseMethodDescriptor yX0_makeGenerator.desc).map (fun d => d.parameters.length) = some 3)⟩, Nat.le_of_ble_eq_true rfl⟩
noncomputable def f_X0_makeGenerator (σ : Mem) (x0 : Nat) (x1 : Int32) (x2 : Int64) : Option Mem :=
  (f_J7_fill_d0a16 σ x0 0).bind (fun (σ1 : Mem) => if x1 < 0 then (some σ1) else (if 6 ≤ x1 then (some σ1) else (pL σ1 x0 x1 x2 (fun (σ2 : Mem) => some σ2))))
theorem t_X0_makeGenerator {w : Wd} (hw : WOK w) {σ : Mem} {x0 : Nat} {x1 : Int32} {x2 : Int64} (hx0 : isk w x0 13) : JO w mu_X0_makeGenerator vV σ [(0, .ref (adr w x0)), (1, .int x1), (2, .long x2)] [] 0 (f_X0_makeGenerator σ x0 x1 x2) (fun z => some ((), z)) := by
  unfold f_X0_makeGenerator
  refine jo_aload_n (pc := 0) 0 rfl dX0_makeGenerator_0 rfl ?_
  refine jo_lconst (pc := 1) dX0_makeGenerator_1 (ic_l_0) ?_
  refine jo_cS_V_i (pc := 2) (μ' := mu_J7_fill_d0a16) (fx := f_J7_fill_d0a16 σ x0 0) (As := [.ref (adr w x0), .long 0]) (c_J7_fill_d0a16 hw (hx0)) (ok_J7_fill_d0a16) (ltb rfl) (all2 gw_1012 gw_715) rfl rfl (Nat.le_of_ble_eq_true rfl) dX0_makeGenerator_2 (fun σ1 => ?_)
  refine jo_iload_n (pc := 5) 1 rfl dX0_makeGenerator_5 rfl ?_
  refine jo_if_lt (pc := 6) dX0_makeGenerator_6 (tgt := 19) rfl ?_ ?_
  · exact jo_return (pc := 19) rfl rfl dX0_makeGenerator_19
  · refine jo_iload_n (pc := 9) 1 rfl dX0_makeGenerator_9 rfl ?_
    refine jo_bipush (pc := 10) dX0_makeGenerator_10 (ic_b_6) ?_
    refine jo_icmp_ge (pc := 12) dX0_makeGenerator_12 (tgt := 19) rfl ?_ ?_
    · exact jo_return (pc := 19) rfl rfl dX0_makeGenerator_19
    · refine jo_aload_n (pc := 15) 0 rfl dX0_makeGenerator_15 rfl ?_
      refine jo_iload_n (pc := 16) 1 rfl dX0_makeGenerator_16 rfl ?_
      refine jo_lload_n (pc := 17) 2 rfl dX0_makeGenerator_17 rfl ?_
      refine jo_last (pc := 18) (hx0) dX0_makeGenerator_18 (fun σ2 => ?_)
      exact jo_return (pc := 19) rfl rfl dX0_makeGenerator_19
theorem c_X0_makeGenerator {w : Wd} (hw : WOK w) {σ : Mem} {x0 : Nat} {x1 : Int32} {x2 : Int64} (hx0 : isk w x0 13) : ∀ σ', f_X0_makeGenerator σ x0 x1 x2 = some σ' → MC w mu_X0_makeGenerator none [.ref (adr w x0), .int x1, .long x2] σ σ' := mc_ofV ok_X0_makeGenerator rfl (Nat.le_of_ble_eq_true rfl) (t_X0_makeGenerator hw hx0)
abbrev mu_X4_put : MD := (yX4_put, cX4_put, 5, none, 0)
theorem ok_X4_put : MOK mu_X4_put 3 := ⟨gw_615, gw_162, (by decide +kernel : plainFor yX4_put = true), ⟨(by decide +kernel : yX4_put.cls ≠ "java/lang/invoke/MethodHandle"), (by decide +kernel : yX4_put.cls ≠ "java/lang/invoke/VarHandle"), (by decide +kernel : (parseMethodDescriptor yX4_put.desc).map (fun d => d.parameters.length) = some 3)⟩, Nat.le_of_ble_eq_true rfl⟩
noncomputable def f_X4_put (σ : Mem) (x0 : Nat) (x1 : Int32) (x2 : Int64) : Option Mem :=
  bd (4 * x1) (fun (v1 : Int32) => if v1 < 0 then (some σ) else (if (v1 + 2) < (Int32.ofNat (ln x0)) then (pL σ x0 v1 1 (fun (σ2 : Mem) => pL σ2 x0 (v1 + 1) x2 (fun (σ3 : Mem) => nzL 2 (pL σ3 x0 (v1 + 2) ((x2 * (x2 - 1)) / 2) (fun (σ4 : Mem) => some σ4))))) else (some σ)))
theorem t_X4_put {w : Wd} (hw : WOK w) {σ : Mem} {x0 : Nat} {x1 : Int32} {x2 : Int64} (hx0 : isk w x0 13) : JO w mu_X4_put vV σ [(0, .ref (adr w x0)), (1, .int x1), (2, .long x2)] [] 0 (f_X4_put σ x0 x1 x2) (fun z => some ((), z)) := by
  unfold f_X4_put
  refine jo_iconst (pc := 0) dX4_put_0 (ic_i_4) ?_
  refine jo_iload_n (pc := 1) 1 rfl dX4_put_1 rfl ?_
  refine jo_imul (pc := 2) dX4_put_2 ?_
  refine jo_bd ?_
  refine jo_istore (pc := 3) (lv' := [(4, .int (4 * x1)), (0, .ref (adr w x0)), (1, .int x1), (2, .long x2)]) dX4_put_3 (ltb rfl) rfl ?_
  generalize (4 * x1) = v1
  refine jo_iload (pc := 5) 0 rfl dX4_put_5 ?_
  refine jo_if_lt (pc := 7) dX4_put_7 (tgt := 19) rfl ?_ ?_
  · exact jo_return (pc := 19) rfl rfl dX4_put_19
  · refine jo_iload (pc := 10) 0 rfl dX4_put_10 ?_
    refine jo_iconst (pc := 12) dX4_put_12 (ic_i_2) ?_
    refine jo_iadd (pc := 13) dX4_put_13 ?_
    refine jo_aload_n (pc := 14) 1 rfl dX4_put_14 rfl ?_
    refine jo_alenI (pc := 15) (hx0) (by decide) (t := 1) rfl dX4_put_15 ?_
    refine jo_icmp_lt (pc := 16) dX4_put_16 (tgt := 20) rfl ?_ ?_
    · refine jo_aload_n (pc := 20) 1 rfl dX4_put_20 rfl ?_
      refine jo_iload (pc := 21) 0 rfl dX4_put_21 ?_
      refine jo_lconst (pc := 23) dX4_put_23 (ic_l_1) ?_
      refine jo_last (pc := 24) (hx0) dX4_put_24 (fun σ2 => ?_)
      refine jo_aload_n (pc := 25) 1 rfl dX4_put_25 rfl ?_
      refine jo_iload (pc := 26) 0 rfl dX4_put_26 ?_
      refine jo_iconst (pc := 28) dX4_put_28 (ic_i_1) ?_
      refine jo_iadd (pc := 29) dX4_put_29 ?_
      refine jo_lload_n (pc := 30) 3 rfl dX4_put_30 rfl ?_
      refine jo_last (pc := 31) (hx0) dX4_put_31 (fun σ3 => ?_)
      refine jo_aload_n (pc := 32) 1 rfl dX4_put_32 rfl ?_
      refine jo_iload (pc := 33) 0 rfl dX4_put_33 ?_
      refine jo_iconst (pc := 35) dX4_put_35 (ic_i_2) ?_
      refine jo_iadd (pc := 36) dX4_put_36 ?_
      refine jo_lload_n (pc := 37) 3 rfl dX4_put_37 rfl ?_
      refine jo_lload_n (pc := 38) 3 rfl dX4_put_38 rfl ?_
      refine jo_lconst (pc := 39) dX4_put_39 (ic_l_1) ?_
      refine jo_lsub (pc := 40) dX4_put_40 ?_
      refine jo_lmul (pc := 41) dX4_put_41 ?_
      refine jo_ldc2 (pc := 42) dX4_put_42 gw_616 ?_
      refine jo_ldiv (pc := 45) dX4_put_45 ?_
      refine jo_last (pc := 46) (hx0) dX4_put_46 (fun σ4 => ?_)
      exact jo_return (pc := 47) rfl rfl dX4_put_47
    · exact jo_return (pc := 19) rfl rfl dX4_put_19
theorem c_X4_put {w : Wd} (hw : WOK w) {σ : Mem} {x0 : Nat} {x1 : Int32} {x2 : Int64} (hx0 : isk w x0 13) : ∀ σ', f_X4_put σ x0 x1 x2 = some σ' → MC w mu_X4_put none [.ref (adr w x0), .int x1, .long x2] σ σ' := mc_ofV ok_X4_put rfl (Nat.le_of_ble_eq_true rfl) (t_X4_put hw hx0)
abbrev mu_X9_value : MD := (yX9_value, cX9_value, 6, some .long, 0)
theorem ok_X9_value : MOK mu_X9_value 1 := ⟨gw_620, gw_163, (by decide +kernel : plainFor yX9_value = true), ⟨(by decide +kernel : yX9_value.cls ≠ "java/lang/invoke/MethodHandle"), (by decide +kernel : yX9_value.cls ≠ "java/lang/invoke/VarHandle"), (by decide +kernel : (parseMethodDescriptor yX9_value.desc).map (fun d => d.parameters.length) = some 1)⟩, Nat.le_of_ble_eq_true rfl⟩
noncomputable def l_X9_value_5 (σ : Mem) (a : Nat) (x0 : Nat) (l1 : Int64) (i2 : Int32) : Option ((Int64 × Int32) ⊕ Int64) :=
  gF σ a 0 (fun (v3 : Int32) => if v3 ≤ i2 then (some (Sum.inr l1)) else (gI σ (rf a 3) i2 (fun (v4 : Int32) => gL σ (rf a 2) i2 (fun (v5 : Int64) => gL σ x0 (v4 &&& 63) (fun (v6 : Int64) => gL σ x0 ((v4 >>> (6 &&& 31)) &&& 63) (fun (v7 : Int64) => gL σ x0 ((v4 >>> (12 &&& 31)) &&& 63) (fun (v8 : Int64) => bd (l1 + (((v5 * v6) * v7) * v8)) (fun (v9 : Int64) => some (Sum.inl (v9, i2 + 1))))))))))
noncomputable def f_X9_value (σ : Mem) (a : Nat) (x0 : Nat) : Option Int64 :=
  loopO (fun (z2 : (Int64 × Int32)) => l_X9_value_5 σ a x0 z2.1 z2.2) (0, 0)
theorem t_X9_value {w : Wd} (hw : WOK w) {σ : Mem} {a : Nat} {x0 : Nat} (ha : isk w a 9) (hx0 : isk w x0 13) : JO w mu_X9_value vL σ [(0, .ref (adr w a)), (1, .ref (adr w x0))] [] 0 (f_X9_value σ a x0) (fun z => some (z, σ)) := by
  unfold f_X9_value
  refine jo_lconst (pc := 0) dX9_value_0 (ic_l_0) ?_
  refine jo_lstore_n (pc := 1) (lv' := [(2, .long 0), (0, .ref (adr w a)), (1, .ref (adr w x0))]) dX9_value_1 rfl (ltb rfl) rfl ?_
  refine jo_iconst (pc := 2) dX9_value_2 (ic_i_0) ?_
  refine jo_istore (pc := 3) (lv' := [(4, .int 0), (2, .long 0), (0, .ref (adr w a)), (1, .ref (adr w x0))]) dX9_value_3 (ltb rfl) rfl ?_
  refine jo_lv (lv' := [(0, .ref (adr w a)), (1, .ref (adr w x0)), (2, .long 0), (4, .int 0)]) [2, 3, 1, 0] rfl ?_
  refine jo_loop (X := Int64) (fun (z2 : (Int64 × Int32)) => σ) (fun (z2 : (Int64 × Int32)) => [(0, .ref (adr w a)), (1, .ref (adr w x0)), (2, .long z2.1), (4, .int z2.2)]) (body := (fun (z2 : (Int64 × Int32)) => l_X9_value_5 σ a x0 z2.1 z2.2)) (fun F5_2 hF5_2 s => ?_) (0, 0)
  obtain ⟨l1, i2⟩ := s
  show JO w mu_X9_value vL σ [(0, .ref (adr w a)), (1, .ref (adr w x0)), (2, .long l1), (4, .int i2)] [] 5 (l_X9_value_5 σ a x0 l1 i2) _
  unfold l_X9_value_5
  refine jo_iload (pc := 5) 3 rfl dX9_value_5 ?_
  refine jo_aload_n (pc := 7) 0 rfl dX9_value_7 rfl ?_
  refine jo_getf (pc := 8) ok_9_0 (ha) gw_279 dX9_value_8 (fun v3 => ?_)
  refine jo_icmp_ge (pc := 11) dX9_value_11 (tgt := 69) rfl ?_ ?_
  · refine jo_lload_n (pc := 69) 2 rfl dX9_value_69 rfl ?_
    exact jo_lreturn (pc := 70) rfl rfl dX9_value_70
  · refine jo_aload_n (pc := 14) 0 rfl dX9_value_14 rfl ?_
    refine jo_getr (pc := 15) ok_9_3 (ha) gw_289 dX9_value_15 ?_
    refine jo_iload (pc := 18) 3 rfl dX9_value_18 ?_
    refine jo_iald (pc := 20) (wf_9_3 hw (ha)) dX9_value_20 (fun v4 => ?_)
    refine jo_istore (pc := 21) (lv' := [(5, .int v4), (0, .ref (adr w a)), (1, .ref (adr w x0)), (2, .long l1), (4, .int i2)]) dX9_value_21 (ltb rfl) rfl ?_
    refine jo_lload_n (pc := 23) 3 rfl dX9_value_23 rfl ?_
    refine jo_aload_n (pc := 24) 1 rfl dX9_value_24 rfl ?_
    refine jo_getr (pc := 25) ok_9_2 (ha) gw_286 dX9_value_25 ?_
    refine jo_iload (pc := 28) 4 rfl dX9_value_28 ?_
    refine jo_lald (pc := 30) (wf_9_2 hw (ha)) dX9_value_30 (fun v5 => ?_)
    refine jo_aload_n (pc := 31) 2 rfl dX9_value_31 rfl ?_
    refine jo_iload (pc := 32) 0 rfl dX9_value_32 ?_
    refine jo_bipush (pc := 34) dX9_value_34 (ic_b_63) ?_
    refine jo_iand (pc := 36) dX9_value_36 ?_
    refine jo_lald (pc := 37) (hx0) dX9_value_37 (fun v6 => ?_)
    refine jo_lmul (pc := 38) dX9_value_38 ?_
    refine jo_aload_n (pc := 39) 2 rfl dX9_value_39 rfl ?_
    refine jo_iload (pc := 40) 0 rfl dX9_value_40 ?_
    refine jo_bipush (pc := 42) dX9_value_42 (ic_b_6) ?_
    refine jo_ishr (pc := 44) dX9_value_44 ?_
    refine jo_bipush (pc := 45) dX9_value_45 (ic_b_63) ?_
    refine jo_iand (pc := 47) dX9_value_47 ?_
    refine jo_lald (pc := 48) (hx0) dX9_value_48 (fun v7 => ?_)
    refine jo_lmul (pc := 49) dX9_value_49 ?_
    refine jo_aload_n (pc := 50) 2 rfl dX9_value_50 rfl ?_
    refine jo_iload (pc := 51) 0 rfl dX9_value_51 ?_
    refine jo_bipush (pc := 53) dX9_value_53 (ic_b_12) ?_
    refine jo_ishr (pc := 55) dX9_value_55 ?_
    refine jo_bipush (pc := 56) dX9_value_56 (ic_b_63) ?_
    refine jo_iand (pc := 58) dX9_value_58 ?_
    refine jo_lald (pc := 59) (hx0) dX9_value_59 (fun v8 => ?_)
    refine jo_lmul (pc := 60) dX9_value_60 ?_
    refine jo_ladd (pc := 61) dX9_value_61 ?_
    refine jo_bd ?_
    refine jo_lstore_n (pc := 62) (lv' := [(2, .long (l1 + (((v5 * v6) * v7) * v8))), (5, .int v4), (0, .ref (adr w a)), (1, .ref (adr w x0)), (4, .int i2)]) dX9_value_62 rfl (ltb rfl) rfl ?_
    generalize (l1 + (((v5 * v6) * v7) * v8)) = v9
    refine jo_iinc (pc := 63) (lv' := [(4, .int (i2 + 1)), (2, .long v9), (5, .int v4), (0, .ref (adr w a)), (1, .ref (adr w x0))]) 4 rfl dX9_value_63 (congrArg (fun z => i2 + z) (ic_i_1)) (ltb rfl) rfl ?_
    refine jo_goto (pc := 66) dX9_value_66 (tgt := 5) rfl ?_
    refine jo_lv (lv' := [(0, .ref (adr w a)), (1, .ref (adr w x0)), (2, .long v9), (4, .int (i2 + 1))]) [3, 4, 1, 0] rfl ?_
    exact jo_leaf (by rfl) (hF5_2 (v9, i2 + 1))
theorem c_X9_value {w : Wd} (hw : WOK w) {σ : Mem} {a : Nat} {x0 : Nat} (ha : isk w a 9) (hx0 : isk w x0 13) : ∀ r, f_X9_value σ a x0 = some r → MC w mu_X9_value (vL r) [.ref (adr w a), .ref (adr w x0)] σ σ := mc_ofP ok_X9_value rfl (Nat.le_of_ble_eq_true rfl) (t_X9_value hw ha hx0)
abbrev mu_X0_product : MD := (yX0_product, cX0_product, 5, none, 1)
theorem ok_X0_product : MOK mu_X0_product 3 := ⟨gw_817, gw_164, (by decide +kernel : plainFor yX0_product = true), ⟨(by decide +kernel : yX0_product.cls ≠ "java/lang/invoke/MethodHandle"), (by decide +kernel : yX0_product.cls ≠ "java/lang/invoke/VarHandle"), (by decide +kernel : (parseMethodDescriptor yX0_product.desc).map (fun d => d.parameters.length) = some 3)⟩, Nat.le_of_ble_eq_true rfl⟩
noncomputable def l_X0_product_48 (x0 : Nat) (σ2 : Mem) (i3 : Int32) : Option ((Mem × Int32) ⊕ Mem) :=
  if 6 ≤ i3 then (some (Sum.inr σ2)) else (gR 44 i3 (fun (p4 : Nat) => (f_X9_value σ2 p4 73).bind (fun (v5 : Int64) => pL σ2 x0 i3 v5 (fun (σ6 : Mem) => some (Sum.inl (σ6, i3 + 1))))))
noncomputable def j_X0_product_45 (x0 : Nat) (σ1 : Mem) : Option Mem :=
  loopO (fun (z3 : (Mem × Int32)) => l_X0_product_48 x0 z3.1 z3.2) (σ1, 0)
noncomputable def l_X0_product_3 (x1 : Nat) (x2 : Nat) (σ7 : Mem) (i8 : Int32) : Option ((Mem × Int32) ⊕ Mem) :=
  if 6 ≤ i8 then (some (Sum.inr σ7)) else (gL σ7 x1 i8 (fun (v9 : Int64) => (f_X4_put σ7 73 i8 v9).bind (fun (σ10 : Mem) => gL σ10 x2 i8 (fun (v11 : Int64) => (f_X4_put σ10 73 (6 + i8) v11).bind (fun (σ12 : Mem) => some (Sum.inl (σ12, i8 + 1)))))))
noncomputable def f_X0_product (σ : Mem) (x0 : Nat) (x1 : Nat) (x2 : Nat) : Option Mem :=
  (loopO (fun (z8 : (Mem × Int32)) => l_X0_product_3 x1 x2 z8.1 z8.2) (σ, 0) : Option Mem).bind (fun (z1 : Mem) => j_X0_product_45 x0 z1)
theorem t_X0_product {w : Wd} (hw : WOK w) {σ : Mem} {x0 : Nat} {x1 : Nat} {x2 : Nat} (hx0 : isk w x0 13) (hx1 : isk w x1 13) (hx2 : isk w x2 13) : JO w mu_X0_product vV σ [(0, .ref (adr w 72)), (1, .ref (adr w x0)), (2, .ref (adr w x1)), (3, .ref (adr w x2))] [] 0 (f_X0_product σ x0 x1 x2) (fun z => some ((), z)) := by
  unfold f_X0_product
  refine jo_iconst (pc := 0) dX0_product_0 (ic_i_0) ?_
  refine jo_istore (pc := 1) (lv' := [(4, .int 0), (0, .ref (adr w 72)), (1, .ref (adr w x0)), (2, .ref (adr w x1)), (3, .ref (adr w x2))]) dX0_product_1 (ltb rfl) rfl ?_
  refine jo_join1 (S := Mem) (fun (z1 : Mem) => z1) (fun (z1 : Mem) => [(0, .ref (adr w 72)), (1, .ref (adr w x0))]) (fun (z1 : Mem) => []) 45 ?_ (fun h45_1 => ?_)
  · intro σ1
    show JO w mu_X0_product vV σ1 [(0, .ref (adr w 72)), (1, .ref (adr w x0))] [] 45 (j_X0_product_45 x0 σ1) _
    unfold j_X0_product_45
    refine jo_iconst (pc := 45) dX0_product_45 (ic_i_0) ?_
    refine jo_istore (pc := 46) (lv' := [(4, .int 0), (0, .ref (adr w 72)), (1, .ref (adr w x0))]) dX0_product_46 (ltb rfl) rfl ?_
    refine jo_lv (lv' := [(0, .ref (adr w 72)), (1, .ref (adr w x0)), (4, .int 0)]) [1, 2, 0] rfl ?_
    refine jo_loop (X := Mem) (fun (z3 : (Mem × Int32)) => z3.1) (fun (z3 : (Mem × Int32)) => [(0, .ref (adr w 72)), (1, .ref (adr w x0)), (4, .int z3.2)]) (body := (fun (z3 : (Mem × Int32)) => l_X0_product_48 x0 z3.1 z3.2)) (fun F48_3 hF48_3 s => ?_) (σ1, 0)
    obtain ⟨σ2, i3⟩ := s
    show JO w mu_X0_product vV σ2 [(0, .ref (adr w 72)), (1, .ref (adr w x0)), (4, .int i3)] [] 48 (l_X0_product_48 x0 σ2 i3) _
    unfold l_X0_product_48
    refine jo_iload (pc := 48) 2 rfl dX0_product_48 ?_
    refine jo_bipush (pc := 50) dX0_product_50 (ic_b_6) ?_
    refine jo_icmp_ge (pc := 52) dX0_product_52 (tgt := 82) rfl ?_ ?_
    · exact jo_return (pc := 82) rfl rfl dX0_product_82
    · refine jo_aload_n (pc := 55) 1 rfl dX0_product_55 rfl ?_
      refine jo_iload (pc := 56) 2 rfl dX0_product_56 ?_
      refine jo_aload_n (pc := 58) 0 rfl dX0_product_58 rfl ?_
      refine jo_getrE (pc := 59) ok_0_0 (ik_72 hw) rf_72_0 gw_340 dX0_product_59 ?_
      refine jo_getrE (pc := 62) ok_4_2 (ik_40 hw) rf_40_2 gw_305 dX0_product_62 ?_
      refine jo_iload (pc := 65) 2 rfl dX0_product_65 ?_
      refine jo_aaldG (pc := 67) (z := 9) hw (ik_44 hw) (by decide) (t := 3) rfl rfl (by decide) dX0_product_67 (fun p4 hp4 => ?_)
      refine jo_aload_n (pc := 68) 0 rfl dX0_product_68 rfl ?_
      refine jo_getrE (pc := 69) ok_0_1 (ik_72 hw) rf_72_1 gw_341 dX0_product_69 ?_
      refine jo_cV_J_p (pc := 72) (μ' := mu_X9_value) (fx := f_X9_value σ2 p4 73) (As := [.ref (adr w 73)]) (c_X9_value hw (hp4) (ik_73 hw)) (ok_X9_value) (ltb rfl) (all3 gw_819 gw_618 gw_619) (hp4) (by decide) (q := (RX9, TX9, 4)) rfl rfl rfl rfl (Nat.le_of_ble_eq_true rfl) dX0_product_72 (fun v5 => ?_)
      refine jo_last (pc := 75) (hx0) dX0_product_75 (fun σ6 => ?_)
      refine jo_iinc (pc := 76) (lv' := [(4, .int (i3 + 1)), (0, .ref (adr w 72)), (1, .ref (adr w x0))]) 2 rfl dX0_product_76 (congrArg (fun z => i3 + z) (ic_i_1)) (ltb rfl) rfl ?_
      refine jo_goto (pc := 79) dX0_product_79 (tgt := 48) rfl ?_
      refine jo_lv (lv' := [(0, .ref (adr w 72)), (1, .ref (adr w x0)), (4, .int (i3 + 1))]) [1, 2, 0] rfl ?_
      exact jo_leaf (by rfl) (hF48_3 (σ6, i3 + 1))
  · refine jo_lv (lv' := [(0, .ref (adr w 72)), (1, .ref (adr w x0)), (2, .ref (adr w x1)), (3, .ref (adr w x2)), (4, .int 0)]) [1, 2, 3, 4, 0] rfl ?_
    refine jo_loop (X := Mem) (fun (z8 : (Mem × Int32)) => z8.1) (fun (z8 : (Mem × Int32)) => [(0, .ref (adr w 72)), (1, .ref (adr w x0)), (2, .ref (adr w x1)), (3, .ref (adr w x2)), (4, .int z8.2)]) (body := (fun (z8 : (Mem × Int32)) => l_X0_product_3 x1 x2 z8.1 z8.2)) (fun F3_8 hF3_8 s => ?_) (σ, 0)
    obtain ⟨σ7, i8⟩ := s
    show JO w mu_X0_product vV σ7 [(0, .ref (adr w 72)), (1, .ref (adr w x0)), (2, .ref (adr w x1)), (3, .ref (adr w x2)), (4, .int i8)] [] 3 (l_X0_product_3 x1 x2 σ7 i8) _
    unfold l_X0_product_3
    refine jo_iload (pc := 3) 4 rfl dX0_product_3 ?_
    refine jo_bipush (pc := 5) dX0_product_5 (ic_b_6) ?_
    refine jo_icmp_ge (pc := 7) dX0_product_7 (tgt := 45) rfl ?_ ?_
    · refine jo_lv (lv' := [(0, .ref (adr w 72)), (1, .ref (adr w x0))]) [0, 1] rfl ?_
      exact jo_leaf (by rfl) (h45_1 σ7)
    · refine jo_aload_n (pc := 10) 0 rfl dX0_product_10 rfl ?_
      refine jo_getrE (pc := 11) ok_0_1 (ik_72 hw) rf_72_1 gw_341 dX0_product_11 ?_
      refine jo_iload (pc := 14) 4 rfl dX0_product_14 ?_
      refine jo_aload_n (pc := 16) 2 rfl dX0_product_16 rfl ?_
      refine jo_iload (pc := 17) 4 rfl dX0_product_17 ?_
      refine jo_lald (pc := 19) (hx1) dX0_product_19 (fun v9 => ?_)
      refine jo_cS_V_i (pc := 20) (μ' := mu_X4_put) (fx := f_X4_put σ7 73 i8 v9) (As := [.ref (adr w 73), .int i8, .long v9]) (c_X4_put hw (ik_73 hw)) (ok_X4_put) (ltb rfl) (all2 gw_818 gw_614) rfl rfl (Nat.le_of_ble_eq_true rfl) dX0_product_20 (fun σ10 => ?_)
      refine jo_aload_n (pc := 23) 0 rfl dX0_product_23 rfl ?_
      refine jo_getrE (pc := 24) ok_0_1 (ik_72 hw) rf_72_1 gw_341 dX0_product_24 ?_
      refine jo_bipush (pc := 27) dX0_product_27 (ic_b_6) ?_
      refine jo_iload (pc := 29) 4 rfl dX0_product_29 ?_
      refine jo_iadd (pc := 31) dX0_product_31 ?_
      refine jo_aload_n (pc := 32) 3 rfl dX0_product_32 rfl ?_
      refine jo_iload (pc := 33) 4 rfl dX0_product_33 ?_
      refine jo_lald (pc := 35) (hx2) dX0_product_35 (fun v11 => ?_)
      refine jo_cS_V_i (pc := 36) (μ' := mu_X4_put) (fx := f_X4_put σ10 73 (6 + i8) v11) (As := [.ref (adr w 73), .int (6 + i8), .long v11]) (c_X4_put hw (ik_73 hw)) (ok_X4_put) (ltb rfl) (all2 gw_818 gw_614) rfl rfl (Nat.le_of_ble_eq_true rfl) dX0_product_36 (fun σ12 => ?_)
      refine jo_iinc (pc := 39) (lv' := [(4, .int (i8 + 1)), (0, .ref (adr w 72)), (1, .ref (adr w x0)), (2, .ref (adr w x1)), (3, .ref (adr w x2))]) 4 rfl dX0_product_39 (congrArg (fun z => i8 + z) (ic_i_1)) (ltb rfl) rfl ?_
      refine jo_goto (pc := 42) dX0_product_42 (tgt := 3) rfl ?_
      refine jo_lv (lv' := [(0, .ref (adr w 72)), (1, .ref (adr w x0)), (2, .ref (adr w x1)), (3, .ref (adr w x2)), (4, .int (i8 + 1))]) [1, 2, 3, 4, 0] rfl ?_
      exact jo_leaf (by rfl) (hF3_8 (σ12, i8 + 1))
theorem c_X0_product {w : Wd} (hw : WOK w) {σ : Mem} {x0 : Nat} {x1 : Nat} {x2 : Nat} (hx0 : isk w x0 13) (hx1 : isk w x1 13) (hx2 : isk w x2 13) : ∀ σ', f_X0_product σ x0 x1 x2 = some σ' → MC w mu_X0_product none [.ref (adr w 72), .ref (adr w x0), .ref (adr w x1), .ref (adr w x2)] σ σ' := mc_ofV ok_X0_product rfl (Nat.le_of_ble_eq_true rfl) (t_X0_product hw hx0 hx1 hx2)
abbrev mu_X0_inverse : MD := (yX0_inverse, cX0_inverse, 4, none, 1)
theorem ok_X0_inverse : MOK mu_X0_inverse 2 := ⟨gw_840, gw_164, (by decide +kernel : plainFor yX0_inverse = true), ⟨(by decide +kernel : yX0_inverse.cls ≠ "java/lang/invoke/MethodHandle"), (by decide +kernel : yX0_inverse.cls ≠ "java/lang/invoke/VarHandle"), (by decide +kernel : (parseMethodDescriptor yX0_inverse.desc).map (fun d => d.parameters.length) = some 2)⟩, Nat.le_of_ble_eq_true rfl⟩
noncomputable def l_X0_inverse_39 (x0 : Nat) (σ2 : Mem) (i3 : Int32) : Option ((Mem × Int32) ⊕ Mem) :=
  if 6 ≤ i3 then (some (Sum.inr σ2)) else (gR 44 i3 (fun (p4 : Nat) => (f_X9_value σ2 p4 73).bind (fun (v5 : Int64) => pL σ2 x0 i3 (-v5) (fun (σ6 : Mem) => gL σ6 x0 i3 (fun (v7 : Int64) => (f_X4_put σ6 73 (6 + i3) v7).bind (fun (σ8 : Mem) => some (Sum.inl (σ8, i3 + 1))))))))
noncomputable def j_X0_inverse_37 (x0 : Nat) (σ1 : Mem) : Option Mem :=
  loopO (fun (z3 : (Mem × Int32)) => l_X0_inverse_39 x0 z3.1 z3.2) (σ1, 0)
noncomputable def l_X0_inverse_2 (x1 : Nat) (σ9 : Mem) (i10 : Int32) : Option ((Mem × Int32) ⊕ Mem) :=
  if 6 ≤ i10 then (some (Sum.inr σ9)) else (gL σ9 x1 i10 (fun (v11 : Int64) => (f_X4_put σ9 73 i10 v11).bind (fun (σ12 : Mem) => (f_X4_put σ12 73 (6 + i10) 0).bind (fun (σ13 : Mem) => some (Sum.inl (σ13, i10 + 1))))))
noncomputable def f_X0_inverse (σ : Mem) (x0 : Nat) (x1 : Nat) : Option Mem :=
  (loopO (fun (z10 : (Mem × Int32)) => l_X0_inverse_2 x1 z10.1 z10.2) (σ, 0) : Option Mem).bind (fun (z1 : Mem) => j_X0_inverse_37 x0 z1)
theorem t_X0_inverse {w : Wd} (hw : WOK w) {σ : Mem} {x0 : Nat} {x1 : Nat} (hx0 : isk w x0 13) (hx1 : isk w x1 13) : JO w mu_X0_inverse vV σ [(0, .ref (adr w 72)), (1, .ref (adr w x0)), (2, .ref (adr w x1))] [] 0 (f_X0_inverse σ x0 x1) (fun z => some ((), z)) := by
  unfold f_X0_inverse
  refine jo_iconst (pc := 0) dX0_inverse_0 (ic_i_0) ?_
  refine jo_istore_n (pc := 1) (lv' := [(3, .int 0), (0, .ref (adr w 72)), (1, .ref (adr w x0)), (2, .ref (adr w x1))]) dX0_inverse_1 rfl (ltb rfl) rfl ?_
  refine jo_join1 (S := Mem) (fun (z1 : Mem) => z1) (fun (z1 : Mem) => [(0, .ref (adr w 72)), (1, .ref (adr w x0))]) (fun (z1 : Mem) => []) 37 ?_ (fun h37_1 => ?_)
  · intro σ1
    show JO w mu_X0_inverse vV σ1 [(0, .ref (adr w 72)), (1, .ref (adr w x0))] [] 37 (j_X0_inverse_37 x0 σ1) _
    unfold j_X0_inverse_37
    refine jo_iconst (pc := 37) dX0_inverse_37 (ic_i_0) ?_
    refine jo_istore_n (pc := 38) (lv' := [(3, .int 0), (0, .ref (adr w 72)), (1, .ref (adr w x0))]) dX0_inverse_38 rfl (ltb rfl) rfl ?_
    refine jo_lv (lv' := [(0, .ref (adr w 72)), (1, .ref (adr w x0)), (3, .int 0)]) [1, 2, 0] rfl ?_
    refine jo_loop (X := Mem) (fun (z3 : (Mem × Int32)) => z3.1) (fun (z3 : (Mem × Int32)) => [(0, .ref (adr w 72)), (1, .ref (adr w x0)), (3, .int z3.2)]) (body := (fun (z3 : (Mem × Int32)) => l_X0_inverse_39 x0 z3.1 z3.2)) (fun F39_3 hF39_3 s => ?_) (σ1, 0)
    obtain ⟨σ2, i3⟩ := s
    show JO w mu_X0_inverse vV σ2 [(0, .ref (adr w 72)), (1, .ref (adr w x0)), (3, .int i3)] [] 39 (l_X0_inverse_39 x0 σ2 i3) _
    unfold l_X0_inverse_39
    refine jo_iload_n (pc := 39) 2 rfl dX0_inverse_39 rfl ?_
    refine jo_bipush (pc := 40) dX0_inverse_40 (ic_b_6) ?_
    refine jo_icmp_ge (pc := 42) dX0_inverse_42 (tgt := 85) rfl ?_ ?_
    · exact jo_return (pc := 85) rfl rfl dX0_inverse_85
    · refine jo_aload_n (pc := 45) 1 rfl dX0_inverse_45 rfl ?_
      refine jo_iload_n (pc := 46) 2 rfl dX0_inverse_46 rfl ?_
      refine jo_aload_n (pc := 47) 0 rfl dX0_inverse_47 rfl ?_
      refine jo_getrE (pc := 48) ok_0_0 (ik_72 hw) rf_72_0 gw_340 dX0_inverse_48 ?_
      refine jo_getrE (pc := 51) ok_4_2 (ik_40 hw) rf_40_2 gw_305 dX0_inverse_51 ?_
      refine jo_iload_n (pc := 54) 2 rfl dX0_inverse_54 rfl ?_
      refine jo_aaldG (pc := 55) (z := 9) hw (ik_44 hw) (by decide) (t := 3) rfl rfl (by decide) dX0_inverse_55 (fun p4 hp4 => ?_)
      refine jo_aload_n (pc := 56) 0 rfl dX0_inverse_56 rfl ?_
      refine jo_getrE (pc := 57) ok_0_1 (ik_72 hw) rf_72_1 gw_341 dX0_inverse_57 ?_
      refine jo_cV_J_p (pc := 60) (μ' := mu_X9_value) (fx := f_X9_value σ2 p4 73) (As := [.ref (adr w 73)]) (c_X9_value hw (hp4) (ik_73 hw)) (ok_X9_value) (ltb rfl) (all3 gw_819 gw_618 gw_619) (hp4) (by decide) (q := (RX9, TX9, 4)) rfl rfl rfl rfl (Nat.le_of_ble_eq_true rfl) dX0_inverse_60 (fun v5 => ?_)
      refine jo_lneg (pc := 63) dX0_inverse_63 ?_
      refine jo_last (pc := 64) (hx0) dX0_inverse_64 (fun σ6 => ?_)
      refine jo_aload_n (pc := 65) 0 rfl dX0_inverse_65 rfl ?_
      refine jo_getrE (pc := 66) ok_0_1 (ik_72 hw) rf_72_1 gw_341 dX0_inverse_66 ?_
      refine jo_bipush (pc := 69) dX0_inverse_69 (ic_b_6) ?_
      refine jo_iload_n (pc := 71) 2 rfl dX0_inverse_71 rfl ?_
      refine jo_iadd (pc := 72) dX0_inverse_72 ?_
      refine jo_aload_n (pc := 73) 1 rfl dX0_inverse_73 rfl ?_
      refine jo_iload_n (pc := 74) 2 rfl dX0_inverse_74 rfl ?_
      refine jo_lald (pc := 75) (hx0) dX0_inverse_75 (fun v7 => ?_)
      refine jo_cS_V_i (pc := 76) (μ' := mu_X4_put) (fx := f_X4_put σ6 73 (6 + i3) v7) (As := [.ref (adr w 73), .int (6 + i3), .long v7]) (c_X4_put hw (ik_73 hw)) (ok_X4_put) (ltb rfl) (all2 gw_818 gw_614) rfl rfl (Nat.le_of_ble_eq_true rfl) dX0_inverse_76 (fun σ8 => ?_)
      refine jo_iinc (pc := 79) (lv' := [(3, .int (i3 + 1)), (0, .ref (adr w 72)), (1, .ref (adr w x0))]) 2 rfl dX0_inverse_79 (congrArg (fun z => i3 + z) (ic_i_1)) (ltb rfl) rfl ?_
      refine jo_goto (pc := 82) dX0_inverse_82 (tgt := 39) rfl ?_
      refine jo_lv (lv' := [(0, .ref (adr w 72)), (1, .ref (adr w x0)), (3, .int (i3 + 1))]) [1, 2, 0] rfl ?_
      exact jo_leaf (by rfl) (hF39_3 (σ8, i3 + 1))
  · refine jo_lv (lv' := [(0, .ref (adr w 72)), (1, .ref (adr w x0)), (2, .ref (adr w x1)), (3, .int 0)]) [1, 2, 3, 0] rfl ?_
    refine jo_loop (X := Mem) (fun (z10 : (Mem × Int32)) => z10.1) (fun (z10 : (Mem × Int32)) => [(0, .ref (adr w 72)), (1, .ref (adr w x0)), (2, .ref (adr w x1)), (3, .int z10.2)]) (body := (fun (z10 : (Mem × Int32)) => l_X0_inverse_2 x1 z10.1 z10.2)) (fun F2_10 hF2_10 s => ?_) (σ, 0)
    obtain ⟨σ9, i10⟩ := s
    show JO w mu_X0_inverse vV σ9 [(0, .ref (adr w 72)), (1, .ref (adr w x0)), (2, .ref (adr w x1)), (3, .int i10)] [] 2 (l_X0_inverse_2 x1 σ9 i10) _
    unfold l_X0_inverse_2
    refine jo_iload_n (pc := 2) 3 rfl dX0_inverse_2 rfl ?_
    refine jo_bipush (pc := 3) dX0_inverse_3 (ic_b_6) ?_
    refine jo_icmp_ge (pc := 5) dX0_inverse_5 (tgt := 37) rfl ?_ ?_
    · refine jo_lv (lv' := [(0, .ref (adr w 72)), (1, .ref (adr w x0))]) [0, 1] rfl ?_
      exact jo_leaf (by rfl) (h37_1 σ9)
    · refine jo_aload_n (pc := 8) 0 rfl dX0_inverse_8 rfl ?_
      refine jo_getrE (pc := 9) ok_0_1 (ik_72 hw) rf_72_1 gw_341 dX0_inverse_9 ?_
      refine jo_iload_n (pc := 12) 3 rfl dX0_inverse_12 rfl ?_
      refine jo_aload_n (pc := 13) 2 rfl dX0_inverse_13 rfl ?_
      refine jo_iload_n (pc := 14) 3 rfl dX0_inverse_14 rfl ?_
      refine jo_lald (pc := 15) (hx1) dX0_inverse_15 (fun v11 => ?_)
      refine jo_cS_V_i (pc := 16) (μ' := mu_X4_put) (fx := f_X4_put σ9 73 i10 v11) (As := [.ref (adr w 73), .int i10, .long v11]) (c_X4_put hw (ik_73 hw)) (ok_X4_put) (ltb rfl) (all2 gw_818 gw_614) rfl rfl (Nat.le_of_ble_eq_true rfl) dX0_inverse_16 (fun σ12 => ?_)
      refine jo_aload_n (pc := 19) 0 rfl dX0_inverse_19 rfl ?_
      refine jo_getrE (pc := 20) ok_0_1 (ik_72 hw) rf_72_1 gw_341 dX0_inverse_20 ?_
      refine jo_bipush (pc := 23) dX0_inverse_23 (ic_b_6) ?_
      refine jo_iload_n (pc := 25) 3 rfl dX0_inverse_25 rfl ?_
      refine jo_iadd (pc := 26) dX0_inverse_26 ?_
      refine jo_lconst (pc := 27) dX0_inverse_27 (ic_l_0) ?_
      refine jo_cS_V_i (pc := 28) (μ' := mu_X4_put) (fx := f_X4_put σ12 73 (6 + i10) 0) (As := [.ref (adr w 73), .int (6 + i10), .long 0]) (c_X4_put hw (ik_73 hw)) (ok_X4_put) (ltb rfl) (all2 gw_818 gw_614) rfl rfl (Nat.le_of_ble_eq_true rfl) dX0_inverse_28 (fun σ13 => ?_)
      refine jo_iinc (pc := 31) (lv' := [(3, .int (i10 + 1)), (0, .ref (adr w 72)), (1, .ref (adr w x0)), (2, .ref (adr w x1))]) 3 rfl dX0_inverse_31 (congrArg (fun z => i10 + z) (ic_i_1)) (ltb rfl) rfl ?_
      refine jo_goto (pc := 34) dX0_inverse_34 (tgt := 2) rfl ?_
      refine jo_lv (lv' := [(0, .ref (adr w 72)), (1, .ref (adr w x0)), (2, .ref (adr w x1)), (3, .int (i10 + 1))]) [1, 2, 3, 0] rfl ?_
      exact jo_leaf (by rfl) (hF2_10 (σ13, i10 + 1))
theorem c_X0_inverse {w : Wd} (hw : WOK w) {σ : Mem} {x0 : Nat} {x1 : Nat} (hx0 : isk w x0 13) (hx1 : isk w x1 13) : ∀ σ', f_X0_inverse σ x0 x1 = some σ' → MC w mu_X0_inverse none [.ref (adr w 72), .ref (adr w x0), .ref (adr w x1)] σ σ' := mc_ofV ok_X0_inverse rfl (Nat.le_of_ble_eq_true rfl) (t_X0_inverse hw hx0 hx1)
abbrev mu_X0_commutator : MD := (yX0_commutator, cX0_commutator, 4, none, 2)
theorem ok_X0_commutator : MOK mu_X0_commutator 3 := ⟨gw_873, gw_164, (by decide +kernel : plainFor yX0_commutator = true), ⟨(by decide +kernel : yX0_commutator.cls ≠ "java/lang/invoke/MethodHandle"), (by decide +kernel : yX0_commutator.cls ≠ "java/lang/invoke/VarHandle"), (by decide +kernel : (parseMethodDescriptor yX0_commutator.desc).map (fun d => d.parameters.length) = some 3)⟩, Nat.le_of_ble_eq_true rfl⟩
noncomputable def f_X0_commutator (σ : Mem) (x0 : Nat) (x1 : Nat) (x2 : Nat) : Option Mem :=
  (f_X0_product σ 79 x1 x2).bind (fun (σ1 : Mem) => (f_X0_product σ1 78 x2 x1).bind (fun (σ2 : Mem) => (f_X0_inverse σ2 78 78).bind (fun (σ3 : Mem) => (f_X0_product σ3 x0 78 79).bind (fun (σ4 : Mem) => some σ4))))
theorem t_X0_commutator {w : Wd} (hw : WOK w) {σ : Mem} {x0 : Nat} {x1 : Nat} {x2 : Nat} (hx0 : isk w x0 13) (hx1 : isk w x1 13) (hx2 : isk w x2 13) : JO w mu_X0_commutator vV σ [(0, .ref (adr w 72)), (1, .ref (adr w x0)), (2, .ref (adr w x1)), (3, .ref (adr w x2))] [] 0 (f_X0_commutator σ x0 x1 x2) (fun z => some ((), z)) := by
  unfold f_X0_commutator
  refine jo_aload_n (pc := 0) 0 rfl dX0_commutator_0 rfl ?_
  refine jo_aload_n (pc := 1) 0 rfl dX0_commutator_1 rfl ?_
  refine jo_getrE (pc := 2) ok_0_7 (ik_72 hw) rf_72_7 gw_347 dX0_commutator_2 ?_
  refine jo_aload_n (pc := 5) 2 rfl dX0_commutator_5 rfl ?_
  refine jo_aload_n (pc := 6) 3 rfl dX0_commutator_6 rfl ?_
  refine jo_cV_V_i (pc := 7) (μ' := mu_X0_product) (fx := f_X0_product σ 79 x1 x2) (As := [.ref (adr w 79), .ref (adr w x1), .ref (adr w x2)]) (c_X0_product hw (ik_79 hw) (hx1) (hx2)) (ok_X0_product) (ltb rfl) (all3 gw_854 gw_815 gw_816) (ik_72 hw) (by decide) (q := (RX0, TX0, 8)) rfl rfl rfl rfl (Nat.le_of_ble_eq_true rfl) dX0_commutator_7 (fun σ1 => ?_)
  refine jo_aload_n (pc := 10) 0 rfl dX0_commutator_10 rfl ?_
  refine jo_aload_n (pc := 11) 0 rfl dX0_commutator_11 rfl ?_
  refine jo_getrE (pc := 12) ok_0_6 (ik_72 hw) rf_72_6 gw_346 dX0_commutator_12 ?_
  refine jo_aload_n (pc := 15) 3 rfl dX0_commutator_15 rfl ?_
  refine jo_aload_n (pc := 16) 2 rfl dX0_commutator_16 rfl ?_
  refine jo_cV_V_i (pc := 17) (μ' := mu_X0_product) (fx := f_X0_product σ1 78 x2 x1) (As := [.ref (adr w 78), .ref (adr w x2), .ref (adr w x1)]) (c_X0_product hw (ik_78 hw) (hx2) (hx1)) (ok_X0_product) (ltb rfl) (all3 gw_854 gw_815 gw_816) (ik_72 hw) (by decide) (q := (RX0, TX0, 8)) rfl rfl rfl rfl (Nat.le_of_ble_eq_true rfl) dX0_commutator_17 (fun σ2 => ?_)
  refine jo_aload_n (pc := 20) 0 rfl dX0_commutator_20 rfl ?_
  refine jo_aload_n (pc := 21) 0 rfl dX0_commutator_21 rfl ?_
  refine jo_getrE (pc := 22) ok_0_6 (ik_72 hw) rf_72_6 gw_346 dX0_commutator_22 ?_
  refine jo_aload_n (pc := 25) 0 rfl dX0_commutator_25 rfl ?_
  refine jo_getrE (pc := 26) ok_0_6 (ik_72 hw) rf_72_6 gw_346 dX0_commutator_26 ?_
  refine jo_cV_V_i (pc := 29) (μ' := mu_X0_inverse) (fx := f_X0_inverse σ2 78 78) (As := [.ref (adr w 78), .ref (adr w 78)]) (c_X0_inverse hw (ik_78 hw) (ik_78 hw)) (ok_X0_inverse) (ltb rfl) (all3 gw_874 gw_838 gw_839) (ik_72 hw) (by decide) (q := (RX0, TX0, 8)) rfl rfl rfl rfl (Nat.le_of_ble_eq_true rfl) dX0_commutator_29 (fun σ3 => ?_)
  refine jo_aload_n (pc := 32) 0 rfl dX0_commutator_32 rfl ?_
  refine jo_aload_n (pc := 33) 1 rfl dX0_commutator_33 rfl ?_
  refine jo_aload_n (pc := 34) 0 rfl dX0_commutator_34 rfl ?_
  refine jo_getrE (pc := 35) ok_0_6 (ik_72 hw) rf_72_6 gw_346 dX0_commutator_35 ?_
  refine jo_aload_n (pc := 38) 0 rfl dX0_commutator_38 rfl ?_
  refine jo_getrE (pc := 39) ok_0_7 (ik_72 hw) rf_72_7 gw_347 dX0_commutator_39 ?_
  refine jo_cV_V_i (pc := 42) (μ' := mu_X0_product) (fx := f_X0_product σ3 x0 78 79) (As := [.ref (adr w x0), .ref (adr w 78), .ref (adr w 79)]) (c_X0_product hw (hx0) (ik_78 hw) (ik_79 hw)) (ok_X0_product) (ltb rfl) (all3 gw_854 gw_815 gw_816) (ik_72 hw) (by decide) (q := (RX0, TX0, 8)) rfl rfl rfl rfl (Nat.le_of_ble_eq_true rfl) dX0_commutator_42 (fun σ4 => ?_)
  exact jo_return (pc := 45) rfl rfl dX0_commutator_45
theorem c_X0_commutator {w : Wd} (hw : WOK w) {σ : Mem} {x0 : Nat} {x1 : Nat} {x2 : Nat} (hx0 : isk w x0 13) (hx1 : isk w x1 13) (hx2 : isk w x2 13) : ∀ σ', f_X0_commutator σ x0 x1 x2 = some σ' → MC w mu_X0_commutator none [.ref (adr w 72), .ref (adr w x0), .ref (adr w x1), .ref (adr w x2)] σ σ' := mc_ofV ok_X0_commutator rfl (Nat.le_of_ble_eq_true rfl) (t_X0_commutator hw hx0 hx1 hx2)
abbrev mu_X0_conjugated : MD := (yX0_conjugated, cX0_conjugated, 4, none, 2)
theorem ok_X0_conjugated : MOK mu_X0_conjugated 3 := ⟨gw_882, gw_164, (by decide +kernel : plainFor yX0_conjugated = true), ⟨(by decide +kernel : yX0_conjugated.cls ≠ "java/lang/invoke/MethodHandle"), (by decide +kernel : yX0_conjugated.cls ≠ "java/lang/invoke/VarHandle"), (by decide +kernel : (parseMethodDescriptor yX0_conjugated.desc).map (fun d => d.parameters.length) = some 3)⟩, Nat.le_of_ble_eq_true rfl⟩
noncomputable def f_X0_conjugated (σ : Mem) (x0 : Nat) (x1 : Nat) (x2 : Nat) : Option Mem :=
  (f_X0_product σ 79 x1 x2).bind (fun (σ1 : Mem) => (f_X0_inverse σ1 78 x2).bind (fun (σ2 : Mem) => (f_X0_product σ2 x0 78 79).bind (fun (σ3 : Mem) => some σ3)))
theorem t_X0_conjugated {w : Wd} (hw : WOK w) {σ : Mem} {x0 : Nat} {x1 : Nat} {x2 : Nat} (hx0 : isk w x0 13) (hx1 : isk w x1 13) (hx2 : isk w x2 13) : JO w mu_X0_conjugated vV σ [(0, .ref (adr w 72)), (1, .ref (adr w x0)), (2, .ref (adr w x1)), (3, .ref (adr w x2))] [] 0 (f_X0_conjugated σ x0 x1 x2) (fun z => some ((), z)) := by
  unfold f_X0_conjugated
  refine jo_aload_n (pc := 0) 0 rfl dX0_conjugated_0 rfl ?_
  refine jo_aload_n (pc := 1) 0 rfl dX0_conjugated_1 rfl ?_
  refine jo_getrE (pc := 2) ok_0_7 (ik_72 hw) rf_72_7 gw_347 dX0_conjugated_2 ?_
  refine jo_aload_n (pc := 5) 2 rfl dX0_conjugated_5 rfl ?_
  refine jo_aload_n (pc := 6) 3 rfl dX0_conjugated_6 rfl ?_
  refine jo_cV_V_i (pc := 7) (μ' := mu_X0_product) (fx := f_X0_product σ 79 x1 x2) (As := [.ref (adr w 79), .ref (adr w x1), .ref (adr w x2)]) (c_X0_product hw (ik_79 hw) (hx1) (hx2)) (ok_X0_product) (ltb rfl) (all3 gw_854 gw_815 gw_816) (ik_72 hw) (by decide) (q := (RX0, TX0, 8)) rfl rfl rfl rfl (Nat.le_of_ble_eq_true rfl) dX0_conjugated_7 (fun σ1 => ?_)
  refine jo_aload_n (pc := 10) 0 rfl dX0_conjugated_10 rfl ?_
  refine jo_aload_n (pc := 11) 0 rfl dX0_conjugated_11 rfl ?_
  refine jo_getrE (pc := 12) ok_0_6 (ik_72 hw) rf_72_6 gw_346 dX0_conjugated_12 ?_
  refine jo_aload_n (pc := 15) 3 rfl dX0_conjugated_15 rfl ?_
  refine jo_cV_V_i (pc := 16) (μ' := mu_X0_inverse) (fx := f_X0_inverse σ1 78 x2) (As := [.ref (adr w 78), .ref (adr w x2)]) (c_X0_inverse hw (ik_78 hw) (hx2)) (ok_X0_inverse) (ltb rfl) (all3 gw_874 gw_838 gw_839) (ik_72 hw) (by decide) (q := (RX0, TX0, 8)) rfl rfl rfl rfl (Nat.le_of_ble_eq_true rfl) dX0_conjugated_16 (fun σ2 => ?_)
  refine jo_aload_n (pc := 19) 0 rfl dX0_conjugated_19 rfl ?_
  refine jo_aload_n (pc := 20) 1 rfl dX0_conjugated_20 rfl ?_
  refine jo_aload_n (pc := 21) 0 rfl dX0_conjugated_21 rfl ?_
  refine jo_getrE (pc := 22) ok_0_6 (ik_72 hw) rf_72_6 gw_346 dX0_conjugated_22 ?_
  refine jo_aload_n (pc := 25) 0 rfl dX0_conjugated_25 rfl ?_
  refine jo_getrE (pc := 26) ok_0_7 (ik_72 hw) rf_72_7 gw_347 dX0_conjugated_26 ?_
  refine jo_cV_V_i (pc := 29) (μ' := mu_X0_product) (fx := f_X0_product σ2 x0 78 79) (As := [.ref (adr w x0), .ref (adr w 78), .ref (adr w 79)]) (c_X0_product hw (hx0) (ik_78 hw) (ik_79 hw)) (ok_X0_product) (ltb rfl) (all3 gw_854 gw_815 gw_816) (ik_72 hw) (by decide) (q := (RX0, TX0, 8)) rfl rfl rfl rfl (Nat.le_of_ble_eq_true rfl) dX0_conjugated_29 (fun σ3 => ?_)
  exact jo_return (pc := 32) rfl rfl dX0_conjugated_32
theorem c_X0_conjugated {w : Wd} (hw : WOK w) {σ : Mem} {x0 : Nat} {x1 : Nat} {x2 : Nat} (hx0 : isk w x0 13) (hx1 : isk w x1 13) (hx2 : isk w x2 13) : ∀ σ', f_X0_conjugated σ x0 x1 x2 = some σ' → MC w mu_X0_conjugated none [.ref (adr w 72), .ref (adr w x0), .ref (adr w x1), .ref (adr w x2)] σ σ' := mc_ofV ok_X0_conjugated rfl (Nat.le_of_ble_eq_true rfl) (t_X0_conjugated hw hx0 hx1 hx2)
abbrev mu_X0_doCommute : MD := (yX0_doCommute, cX0_doCommute, 3, some .boolean, 2)
theorem ok_X0_doCommute : MOK mu_X0_doCommute 2 := ⟨gw_1070, gw_164, (by decide +kernel : plainFor yX0_doCommute = true), ⟨(by decide +kernel : yX0_doCommute.cls ≠ "java/lang/invoke/MethodHandle"), (by decide +kernel : yX0_doCommute.cls ≠ "java/lang/invoke/VarHandle"), (by decide +kernel : (parseMethodDescriptor yX0_doCommute.desc).map (fun d => d.parameters.length) = some 2)⟩, Nat.le_of_ble_eq_true rfl⟩
noncomputable def f_X0_doCommute (σ : Mem) (x0 : Nat) (x1 : Nat) : Option (Bool × Mem) :=
  (f_X0_product σ 78 x0 x1).bind (fun (σ1 : Mem) => (f_X0_product σ1 79 x1 x0).bind (fun (σ2 : Mem) => (f_X0_areSame σ2 78 79).bind (fun (b3 : Bool) => some (b3, σ2))))
theorem t_X0_doCommute {w : Wd} (hw : WOK w) {σ : Mem} {x0 : Nat} {x1 : Nat} (hx0 : isk w x0 13) (hx1 : isk w x1 13) : JO w mu_X0_doCommute vB σ [(0, .ref (adr w 72)), (1, .ref (adr w x0)), (2, .ref (adr w x1))] [] 0 (f_X0_doCommute σ x0 x1) some := by
  unfold f_X0_doCommute
  refine jo_aload_n (pc := 0) 0 rfl dX0_doCommute_0 rfl ?_
  refine jo_aload_n (pc := 1) 0 rfl dX0_doCommute_1 rfl ?_
  refine jo_getrE (pc := 2) ok_0_6 (ik_72 hw) rf_72_6 gw_346 dX0_doCommute_2 ?_
  refine jo_aload_n (pc := 5) 1 rfl dX0_doCommute_5 rfl ?_
  refine jo_aload_n (pc := 6) 2 rfl dX0_doCommute_6 rfl ?_
  refine jo_cV_V_i (pc := 7) (μ' := mu_X0_product) (fx := f_X0_product σ 78 x0 x1) (As := [.ref (adr w 78), .ref (adr w x0), .ref (adr w x1)]) (c_X0_product hw (ik_78 hw) (hx0) (hx1)) (ok_X0_product) (ltb rfl) (all3 gw_854 gw_815 gw_816) (ik_72 hw) (by decide) (q := (RX0, TX0, 8)) rfl rfl rfl rfl (Nat.le_of_ble_eq_true rfl) dX0_doCommute_7 (fun σ1 => ?_)
  refine jo_aload_n (pc := 10) 0 rfl dX0_doCommute_10 rfl ?_
  refine jo_aload_n (pc := 11) 0 rfl dX0_doCommute_11 rfl ?_
  refine jo_getrE (pc := 12) ok_0_7 (ik_72 hw) rf_72_7 gw_347 dX0_doCommute_12 ?_
  refine jo_aload_n (pc := 15) 2 rfl dX0_doCommute_15 rfl ?_
  refine jo_aload_n (pc := 16) 1 rfl dX0_doCommute_16 rfl ?_
  refine jo_cV_V_i (pc := 17) (μ' := mu_X0_product) (fx := f_X0_product σ1 79 x1 x0) (As := [.ref (adr w 79), .ref (adr w x1), .ref (adr w x0)]) (c_X0_product hw (ik_79 hw) (hx1) (hx0)) (ok_X0_product) (ltb rfl) (all3 gw_854 gw_815 gw_816) (ik_72 hw) (by decide) (q := (RX0, TX0, 8)) rfl rfl rfl rfl (Nat.le_of_ble_eq_true rfl) dX0_doCommute_17 (fun σ2 => ?_)
  refine jo_aload_n (pc := 20) 0 rfl dX0_doCommute_20 rfl ?_
  refine jo_getrE (pc := 21) ok_0_6 (ik_72 hw) rf_72_6 gw_346 dX0_doCommute_21 ?_
  refine jo_aload_n (pc := 24) 0 rfl dX0_doCommute_24 rfl ?_
  refine jo_getrE (pc := 25) ok_0_7 (ik_72 hw) rf_72_7 gw_347 dX0_doCommute_25 ?_
  refine jo_cS_Z_p (pc := 28) (μ' := mu_X0_areSame) (fx := f_X0_areSame σ2 78 79) (As := [.ref (adr w 78), .ref (adr w 79)]) (c_X0_areSame hw (ik_78 hw) (ik_79 hw)) (ok_X0_areSame) (ltb rfl) (all2 gw_1071 gw_1072) rfl rfl (Nat.le_of_ble_eq_true rfl) dX0_doCommute_28 (fun b3 => ?_)
  exact jo_breturn (pc := 31) (b := b3) rfl rfl dX0_doCommute_31
theorem c_X0_doCommute {w : Wd} (hw : WOK w) {σ : Mem} {x0 : Nat} {x1 : Nat} (hx0 : isk w x0 13) (hx1 : isk w x1 13) : ∀ r σ', f_X0_doCommute σ x0 x1 = some (r, σ') → MC w mu_X0_doCommute (vB r) [.ref (adr w 72), .ref (adr w x0), .ref (adr w x1)] σ σ' := mc_of ok_X0_doCommute rfl (Nat.le_of_ble_eq_true rfl) (t_X0_doCommute hw hx0 hx1)
abbrev mu_X0_findPowers : MD := (yX0_findPowers, cX0_findPowers, 2, none, 2)
theorem ok_X0_findPowers : MOK mu_X0_findPowers 1 := ⟨gw_852, gw_164, (by decide +kernel : plainFor yX0_findPowers = true), ⟨(by decide +kernel : yX0_findPowers.cls ≠ "java/lang/invoke/MethodHandle"), (by decide +kernel : yX0_findPowers.cls ≠ "java/lang/invoke/VarHandle"), (by decide +kernel : (parseMethodDescriptor yX0_findPowers.desc).map (fun d => d.parameters.length) = some 1)⟩, Nat.le_of_ble_eq_true rfl⟩
noncomputable def f_X0_findPowers (σ : Mem) (x0 : Nat) : Option Mem :=
  (f_X0_copy σ x0 75).bind (fun (σ1 : Mem) => (f_X0_product σ1 76 75 75).bind (fun (σ2 : Mem) => (f_X0_product σ2 77 76 75).bind (fun (σ3 : Mem) => some σ3)))
theorem t_X0_findPowers {w : Wd} (hw : WOK w) {σ : Mem} {x0 : Nat} (hx0 : isk w x0 13) : JO w mu_X0_findPowers vV σ [(0, .ref (adr w 72)), (1, .ref (adr w x0))] [] 0 (f_X0_findPowers σ x0) (fun z => some ((), z)) := by
  unfold f_X0_findPowers
  refine jo_aload_n (pc := 0) 1 rfl dX0_findPowers_0 rfl ?_
  refine jo_aload_n (pc := 1) 0 rfl dX0_findPowers_1 rfl ?_
  refine jo_getrE (pc := 2) ok_0_3 (ik_72 hw) rf_72_3 gw_343 dX0_findPowers_2 ?_
  refine jo_cS_V_i (pc := 5) (μ' := mu_X0_copy) (fx := f_X0_copy σ x0 75) (As := [.ref (adr w x0), .ref (adr w 75)]) (c_X0_copy hw (hx0) (ik_75 hw)) (ok_X0_copy) (ltb rfl) (all2 gw_853 gw_704) rfl rfl (Nat.le_of_ble_eq_true rfl) dX0_findPowers_5 (fun σ1 => ?_)
  refine jo_aload_n (pc := 8) 0 rfl dX0_findPowers_8 rfl ?_
  refine jo_aload_n (pc := 9) 0 rfl dX0_findPowers_9 rfl ?_
  refine jo_getrE (pc := 10) ok_0_4 (ik_72 hw) rf_72_4 gw_344 dX0_findPowers_10 ?_
  refine jo_aload_n (pc := 13) 0 rfl dX0_findPowers_13 rfl ?_
  refine jo_getrE (pc := 14) ok_0_3 (ik_72 hw) rf_72_3 gw_343 dX0_findPowers_14 ?_
  refine jo_aload_n (pc := 17) 0 rfl dX0_findPowers_17 rfl ?_
  refine jo_getrE (pc := 18) ok_0_3 (ik_72 hw) rf_72_3 gw_343 dX0_findPowers_18 ?_
  refine jo_cV_V_i (pc := 21) (μ' := mu_X0_product) (fx := f_X0_product σ1 76 75 75) (As := [.ref (adr w 76), .ref (adr w 75), .ref (adr w 75)]) (c_X0_product hw (ik_76 hw) (ik_75 hw) (ik_75 hw)) (ok_X0_product) (ltb rfl) (all3 gw_854 gw_815 gw_816) (ik_72 hw) (by decide) (q := (RX0, TX0, 8)) rfl rfl rfl rfl (Nat.le_of_ble_eq_true rfl) dX0_findPowers_21 (fun σ2 => ?_)
  refine jo_aload_n (pc := 24) 0 rfl dX0_findPowers_24 rfl ?_
  refine jo_aload_n (pc := 25) 0 rfl dX0_findPowers_25 rfl ?_
  refine jo_getrE (pc := 26) ok_0_5 (ik_72 hw) rf_72_5 gw_345 dX0_findPowers_26 ?_
  refine jo_aload_n (pc := 29) 0 rfl dX0_findPowers_29 rfl ?_
  refine jo_getrE (pc := 30) ok_0_4 (ik_72 hw) rf_72_4 gw_344 dX0_findPowers_30 ?_
  refine jo_aload_n (pc := 33) 0 rfl dX0_findPowers_33 rfl ?_
  refine jo_getrE (pc := 34) ok_0_3 (ik_72 hw) rf_72_3 gw_343 dX0_findPowers_34 ?_
  refine jo_cV_V_i (pc := 37) (μ' := mu_X0_product) (fx := f_X0_product σ2 77 76 75) (As := [.ref (adr w 77), .ref (adr w 76), .ref (adr w 75)]) (c_X0_product hw (ik_77 hw) (ik_76 hw) (ik_75 hw)) (ok_X0_product) (ltb rfl) (all3 gw_854 gw_815 gw_816) (ik_72 hw) (by decide) (q := (RX0, TX0, 8)) rfl rfl rfl rfl (Nat.le_of_ble_eq_true rfl) dX0_findPowers_37 (fun σ3 => ?_)
  exact jo_return (pc := 40) rfl rfl dX0_findPowers_40
theorem c_X0_findPowers {w : Wd} (hw : WOK w) {σ : Mem} {x0 : Nat} (hx0 : isk w x0 13) : ∀ σ', f_X0_findPowers σ x0 = some σ' → MC w mu_X0_findPowers none [.ref (adr w 72), .ref (adr w x0)] σ σ' := mc_ofV ok_X0_findPowers rfl (Nat.le_of_ble_eq_true rfl) (t_X0_findPowers hw hx0)
abbrev mu_X0_powerNumber : MD := (yX0_powerNumber, cX0_powerNumber, 3, some .long, 0)
theorem ok_X0_powerNumber : MOK mu_X0_powerNumber 2 := ⟨gw_862, gw_164, (by decide +kernel : plainFor yX0_powerNumber = true), ⟨(by decide +kernel : yX0_powerNumber.cls ≠ "java/lang/invoke/MethodHandle"), (by decide +kernel : yX0_powerNumber.cls ≠ "java/lang/invoke/VarHandle"), (by decide +kernel : (parseMethodDescriptor yX0_powerNumber.desc).map (fun d => d.parameters.length) = some 2)⟩, Nat.le_of_ble_eq_true rfl⟩
noncomputable def f_X0_powerNumber (σ : Mem) (x0 : Int32) (x1 : Int32) : Option Int64 :=
  if x0 < 0 then (some 0) else (if x0 < 6 then (if x1 = 1 then (gL σ 75 x0 (fun (v2 : Int64) => some v2)) else if x1 = 2 then (gL σ 76 x0 (fun (v4 : Int64) => gL σ 75 x0 (fun (v5 : Int64) => some (v4 - (2 * v5))))) else if x1 = 3 then (gL σ 77 x0 (fun (v7 : Int64) => gL σ 76 x0 (fun (v8 : Int64) => gL σ 75 x0 (fun (v9 : Int64) => some ((v7 - (3 * v8)) + (3 * v9)))))) else (some 0)) else (some 0))
theorem t_X0_powerNumber {w : Wd} (hw : WOK w) {σ : Mem} {x0 : Int32} {x1 : Int32} : JO w mu_X0_powerNumber vL σ [(0, .ref (adr w 72)), (1, .int x0), (2, .int x1)] [] 0 (f_X0_powerNumber σ x0 x1) (fun z => some (z, σ)) := by
  unfold f_X0_powerNumber
  refine jo_iload_n (pc := 0) 1 rfl dX0_powerNumber_0 rfl ?_
  refine jo_if_lt (pc := 1) dX0_powerNumber_1 (tgt := 10) rfl ?_ ?_
  · refine jo_lconst (pc := 10) dX0_powerNumber_10 (ic_l_0) ?_
    exact jo_lreturn (pc := 11) rfl rfl dX0_powerNumber_11
  · refine jo_iload_n (pc := 4) 1 rfl dX0_powerNumber_4 rfl ?_
    refine jo_bipush (pc := 5) dX0_powerNumber_5 (ic_b_6) ?_
    refine jo_icmp_lt (pc := 7) dX0_powerNumber_7 (tgt := 12) rfl ?_ ?_
    · refine jo_iload_n (pc := 12) 2 rfl dX0_powerNumber_12 rfl ?_
      refine jo_case (v := 1) (fun h1 => ?_) (fun h1 => ?_)
      · refine jo_tswHit (pc := 13) dX0_powerNumber_13 h1 (by decide) (by decide) (off := 27) (by rfl) (tgt := 40) rfl ?_
        refine jo_aload_n (pc := 40) 0 rfl dX0_powerNumber_40 rfl ?_
        refine jo_getrE (pc := 41) ok_0_3 (ik_72 hw) rf_72_3 gw_343 dX0_powerNumber_41 ?_
        refine jo_iload_n (pc := 44) 1 rfl dX0_powerNumber_44 rfl ?_
        refine jo_lald (pc := 45) (ik_75 hw) dX0_powerNumber_45 (fun v2 => ?_)
        exact jo_lreturn (pc := 46) rfl rfl dX0_powerNumber_46
      refine jo_case (v := 2) (fun h3 => ?_) (fun h3 => ?_)
      · refine jo_tswHit (pc := 13) dX0_powerNumber_13 h3 (by decide) (by decide) (off := 34) (by rfl) (tgt := 47) rfl ?_
        refine jo_aload_n (pc := 47) 0 rfl dX0_powerNumber_47 rfl ?_
        refine jo_getrE (pc := 48) ok_0_4 (ik_72 hw) rf_72_4 gw_344 dX0_powerNumber_48 ?_
        refine jo_iload_n (pc := 51) 1 rfl dX0_powerNumber_51 rfl ?_
        refine jo_lald (pc := 52) (ik_76 hw) dX0_powerNumber_52 (fun v4 => ?_)
        refine jo_ldc2 (pc := 53) dX0_powerNumber_53 gw_863 ?_
        refine jo_aload_n (pc := 56) 0 rfl dX0_powerNumber_56 rfl ?_
        refine jo_getrE (pc := 57) ok_0_3 (ik_72 hw) rf_72_3 gw_343 dX0_powerNumber_57 ?_
        refine jo_iload_n (pc := 60) 1 rfl dX0_powerNumber_60 rfl ?_
        refine jo_lald (pc := 61) (ik_75 hw) dX0_powerNumber_61 (fun v5 => ?_)
        refine jo_lmul (pc := 62) dX0_powerNumber_62 ?_
        refine jo_lsub (pc := 63) dX0_powerNumber_63 ?_
        exact jo_lreturn (pc := 64) rfl rfl dX0_powerNumber_64
      refine jo_case (v := 3) (fun h6 => ?_) (fun h6 => ?_)
      · refine jo_tswHit (pc := 13) dX0_powerNumber_13 h6 (by decide) (by decide) (off := 52) (by rfl) (tgt := 65) rfl ?_
        refine jo_aload_n (pc := 65) 0 rfl dX0_powerNumber_65 rfl ?_
        refine jo_getrE (pc := 66) ok_0_5 (ik_72 hw) rf_72_5 gw_345 dX0_powerNumber_66 ?_
        refine jo_iload_n (pc := 69) 1 rfl dX0_powerNumber_69 rfl ?_
        refine jo_lald (pc := 70) (ik_77 hw) dX0_powerNumber_70 (fun v7 => ?_)
        refine jo_ldc2 (pc := 71) dX0_powerNumber_71 gw_864 ?_
        refine jo_aload_n (pc := 74) 0 rfl dX0_powerNumber_74 rfl ?_
        refine jo_getrE (pc := 75) ok_0_4 (ik_72 hw) rf_72_4 gw_344 dX0_powerNumber_75 ?_
        refine jo_iload_n (pc := 78) 1 rfl dX0_powerNumber_78 rfl ?_
        refine jo_lald (pc := 79) (ik_76 hw) dX0_powerNumber_79 (fun v8 => ?_)
        refine jo_lmul (pc := 80) dX0_powerNumber_80 ?_
        refine jo_lsub (pc := 81) dX0_powerNumber_81 ?_
        refine jo_ldc2 (pc := 82) dX0_powerNumber_82 gw_864 ?_
        refine jo_aload_n (pc := 85) 0 rfl dX0_powerNumber_85 rfl ?_
        refine jo_getrE (pc := 86) ok_0_3 (ik_72 hw) rf_72_3 gw_343 dX0_powerNumber_86 ?_
        refine jo_iload_n (pc := 89) 1 rfl dX0_powerNumber_89 rfl ?_
        refine jo_lald (pc := 90) (ik_75 hw) dX0_powerNumber_90 (fun v9 => ?_)
        refine jo_lmul (pc := 91) dX0_powerNumber_91 ?_
        refine jo_ladd (pc := 92) dX0_powerNumber_92 ?_
        exact jo_lreturn (pc := 93) rfl rfl dX0_powerNumber_93
      have qh1 : (x1).toInt ≠ 1 := fun e => h1 (Int32.toInt_inj.mp (e.trans (by decide)))
      have qh3 : (x1).toInt ≠ 2 := fun e => h3 (Int32.toInt_inj.mp (e.trans (by decide)))
      have qh6 : (x1).toInt ≠ 3 := fun e => h6 (Int32.toInt_inj.mp (e.trans (by decide)))
      refine jo_tableOut (pc := 13) dX0_powerNumber_13 (by omega) (tgt := 94) rfl ?_
      refine jo_lconst (pc := 94) dX0_powerNumber_94 (ic_l_0) ?_
      exact jo_lreturn (pc := 95) rfl rfl dX0_powerNumber_95
    · refine jo_lconst (pc := 10) dX0_powerNumber_10 (ic_l_0) ?_
      exact jo_lreturn (pc := 11) rfl rfl dX0_powerNumber_11
theorem c_X0_powerNumber {w : Wd} (hw : WOK w) {σ : Mem} {x0 : Int32} {x1 : Int32} : ∀ r, f_X0_powerNumber σ x0 x1 = some r → MC w mu_X0_powerNumber (vL r) [.ref (adr w 72), .int x0, .int x1] σ σ := mc_ofP ok_X0_powerNumber rfl (Nat.le_of_ble_eq_true rfl) (t_X0_powerNumber hw)
abbrev mu_X0_powerAt : MD := (yX0_powerAt, cX0_powerAt, 4, some .long, 1)
theorem ok_X0_powerAt : MOK mu_X0_powerAt 2 := ⟨gw_858, gw_164, (by decide +kernel : plainFor yX0_powerAt = true), ⟨(by decide +kernel : yX0_powerAt.cls ≠ "java/lang/invoke/MethodHandle"), (by decide +kernel : yX0_powerAt.cls ≠ "java/lang/invoke/VarHandle"), (by decide +kernel : (parseMethodDescriptor yX0_powerAt.desc).map (fun d => d.parameters.length) = some 2)⟩, Nat.le_of_ble_eq_true rfl⟩
noncomputable def f_X0_powerAt (σ : Mem) (x0 : Int32) (x1 : Int64) : Option Int64 :=
  (f_X0_powerNumber σ x0 1).bind (fun (v1 : Int64) => (f_X0_powerNumber σ x0 2).bind (fun (v2 : Int64) => nzL 2 ((f_X0_powerNumber σ x0 3).bind (fun (v3 : Int64) => nzL 6 (some (((v1 * x1) + (v2 * ((x1 * (x1 - 1)) / 2))) + (v3 * (((x1 * (x1 - 1)) * (x1 - 2)) / 6))))))))
theorem t_X0_powerAt {w : Wd} (hw : WOK w) {σ : Mem} {x0 : Int32} {x1 : Int64} : JO w mu_X0_powerAt vL σ [(0, .ref (adr w 72)), (1, .int x0), (2, .long x1)] [] 0 (f_X0_powerAt σ x0 x1) (fun z => some (z, σ)) := by
  unfold f_X0_powerAt
  refine jo_aload_n (pc := 0) 0 rfl dX0_powerAt_0 rfl ?_
  refine jo_iload_n (pc := 1) 1 rfl dX0_powerAt_1 rfl ?_
  refine jo_iconst (pc := 2) dX0_powerAt_2 (ic_i_1) ?_
  refine jo_cV_J_p (pc := 3) (μ' := mu_X0_powerNumber) (fx := f_X0_powerNumber σ x0 1) (As := [.int x0, .int 1]) (c_X0_powerNumber hw) (ok_X0_powerNumber) (ltb rfl) (all3 gw_859 gw_860 gw_861) (ik_72 hw) (by decide) (q := (RX0, TX0, 8)) rfl rfl rfl rfl (Nat.le_of_ble_eq_true rfl) dX0_powerAt_3 (fun v1 => ?_)
  refine jo_lload_n (pc := 6) 2 rfl dX0_powerAt_6 rfl ?_
  refine jo_lmul (pc := 7) dX0_powerAt_7 ?_
  refine jo_aload_n (pc := 8) 0 rfl dX0_powerAt_8 rfl ?_
  refine jo_iload_n (pc := 9) 1 rfl dX0_powerAt_9 rfl ?_
  refine jo_iconst (pc := 10) dX0_powerAt_10 (ic_i_2) ?_
  refine jo_cV_J_p (pc := 11) (μ' := mu_X0_powerNumber) (fx := f_X0_powerNumber σ x0 2) (As := [.int x0, .int 2]) (c_X0_powerNumber hw) (ok_X0_powerNumber) (ltb rfl) (all3 gw_859 gw_860 gw_861) (ik_72 hw) (by decide) (q := (RX0, TX0, 8)) rfl rfl rfl rfl (Nat.le_of_ble_eq_true rfl) dX0_powerAt_11 (fun v2 => ?_)
  refine jo_lload_n (pc := 14) 2 rfl dX0_powerAt_14 rfl ?_
  refine jo_lload_n (pc := 15) 2 rfl dX0_powerAt_15 rfl ?_
  refine jo_lconst (pc := 16) dX0_powerAt_16 (ic_l_1) ?_
  refine jo_lsub (pc := 17) dX0_powerAt_17 ?_
  refine jo_lmul (pc := 18) dX0_powerAt_18 ?_
  refine jo_ldc2 (pc := 19) dX0_powerAt_19 gw_863 ?_
  refine jo_ldiv (pc := 22) dX0_powerAt_22 ?_
  refine jo_lmul (pc := 23) dX0_powerAt_23 ?_
  refine jo_ladd (pc := 24) dX0_powerAt_24 ?_
  refine jo_aload_n (pc := 25) 0 rfl dX0_powerAt_25 rfl ?_
  refine jo_iload_n (pc := 26) 1 rfl dX0_powerAt_26 rfl ?_
  refine jo_iconst (pc := 27) dX0_powerAt_27 (ic_i_3) ?_
  refine jo_cV_J_p (pc := 28) (μ' := mu_X0_powerNumber) (fx := f_X0_powerNumber σ x0 3) (As := [.int x0, .int 3]) (c_X0_powerNumber hw) (ok_X0_powerNumber) (ltb rfl) (all3 gw_859 gw_860 gw_861) (ik_72 hw) (by decide) (q := (RX0, TX0, 8)) rfl rfl rfl rfl (Nat.le_of_ble_eq_true rfl) dX0_powerAt_28 (fun v3 => ?_)
  refine jo_lload_n (pc := 31) 2 rfl dX0_powerAt_31 rfl ?_
  refine jo_lload_n (pc := 32) 2 rfl dX0_powerAt_32 rfl ?_
  refine jo_lconst (pc := 33) dX0_powerAt_33 (ic_l_1) ?_
  refine jo_lsub (pc := 34) dX0_powerAt_34 ?_
  refine jo_lmul (pc := 35) dX0_powerAt_35 ?_
  refine jo_lload_n (pc := 36) 2 rfl dX0_powerAt_36 rfl ?_
  refine jo_ldc2 (pc := 37) dX0_powerAt_37 gw_863 ?_
  refine jo_lsub (pc := 40) dX0_powerAt_40 ?_
  refine jo_lmul (pc := 41) dX0_powerAt_41 ?_
  refine jo_ldc2 (pc := 42) dX0_powerAt_42 gw_865 ?_
  refine jo_ldiv (pc := 45) dX0_powerAt_45 ?_
  refine jo_lmul (pc := 46) dX0_powerAt_46 ?_
  refine jo_ladd (pc := 47) dX0_powerAt_47 ?_
  exact jo_lreturn (pc := 48) rfl rfl dX0_powerAt_48
theorem c_X0_powerAt {w : Wd} (hw : WOK w) {σ : Mem} {x0 : Int32} {x1 : Int64} : ∀ r, f_X0_powerAt σ x0 x1 = some r → MC w mu_X0_powerAt (vL r) [.ref (adr w 72), .int x0, .long x1] σ σ := mc_ofP ok_X0_powerAt rfl (Nat.le_of_ble_eq_true rfl) (t_X0_powerAt hw)
abbrev mu_X0_raise : MD := (yX0_raise, cX0_raise, 6, none, 3)
theorem ok_X0_raise : MOK mu_X0_raise 3 := ⟨gw_848, gw_164, (by decide +kernel : plainFor yX0_raise = true), ⟨(by decide +kernel : yX0_raise.cls ≠ "java/lang/invoke/MethodHandle"), (by decide +kernel : yX0_raise.cls ≠ "java/lang/invoke/VarHandle"), (by decide +kernel : (parseMethodDescriptor yX0_raise.desc).map (fun d => d.parameters.length) = some 3)⟩, Nat.le_of_ble_eq_true rfl⟩
noncomputable def l_X0_raise_8 (x0 : Nat) (x2 : Int64) (σ2 : Mem) (i3 : Int32) : Option ((Mem × Int32) ⊕ Mem) :=
  if 6 ≤ i3 then (some (Sum.inr σ2)) else ((f_X0_powerAt σ2 i3 x2).bind (fun (v4 : Int64) => pL σ2 x0 i3 v4 (fun (σ5 : Mem) => some (Sum.inl (σ5, i3 + 1)))))
noncomputable def f_X0_raise (σ : Mem) (x0 : Nat) (x1 : Nat) (x2 : Int64) : Option Mem :=
  (f_X0_findPowers σ x1).bind (fun (σ1 : Mem) => loopO (fun (z3 : (Mem × Int32)) => l_X0_raise_8 x0 x2 z3.1 z3.2) (σ1, 0))
theorem t_X0_raise {w : Wd} (hw : WOK w) {σ : Mem} {x0 : Nat} {x1 : Nat} {x2 : Int64} (hx0 : isk w x0 13) (hx1 : isk w x1 13) : JO w mu_X0_raise vV σ [(0, .ref (adr w 72)), (1, .ref (adr w x0)), (2, .ref (adr w x1)), (3, .long x2)] [] 0 (f_X0_raise σ x0 x1 x2) (fun z => some ((), z)) := by
  unfold f_X0_raise
  refine jo_aload_n (pc := 0) 0 rfl dX0_raise_0 rfl ?_
  refine jo_aload_n (pc := 1) 2 rfl dX0_raise_1 rfl ?_
  refine jo_cV_V_i (pc := 2) (μ' := mu_X0_findPowers) (fx := f_X0_findPowers σ x1) (As := [.ref (adr w x1)]) (c_X0_findPowers hw (hx1)) (ok_X0_findPowers) (ltb rfl) (all3 gw_849 gw_850 gw_851) (ik_72 hw) (by decide) (q := (RX0, TX0, 8)) rfl rfl rfl rfl (Nat.le_of_ble_eq_true rfl) dX0_raise_2 (fun σ1 => ?_)
  refine jo_iconst (pc := 5) dX0_raise_5 (ic_i_0) ?_
  refine jo_istore (pc := 6) (lv' := [(5, .int 0), (0, .ref (adr w 72)), (1, .ref (adr w x0)), (2, .ref (adr w x1)), (3, .long x2)]) dX0_raise_6 (ltb rfl) rfl ?_
  refine jo_lv (lv' := [(0, .ref (adr w 72)), (1, .ref (adr w x0)), (3, .long x2), (5, .int 0)]) [1, 2, 4, 0] rfl ?_
  refine jo_loop (X := Mem) (fun (z3 : (Mem × Int32)) => z3.1) (fun (z3 : (Mem × Int32)) => [(0, .ref (adr w 72)), (1, .ref (adr w x0)), (3, .long x2), (5, .int z3.2)]) (body := (fun (z3 : (Mem × Int32)) => l_X0_raise_8 x0 x2 z3.1 z3.2)) (fun F8_3 hF8_3 s => ?_) (σ1, 0)
  obtain ⟨σ2, i3⟩ := s
  show JO w mu_X0_raise vV σ2 [(0, .ref (adr w 72)), (1, .ref (adr w x0)), (3, .long x2), (5, .int i3)] [] 8 (l_X0_raise_8 x0 x2 σ2 i3) _
  unfold l_X0_raise_8
  refine jo_iload (pc := 8) 3 rfl dX0_raise_8 ?_
  refine jo_bipush (pc := 10) dX0_raise_10 (ic_b_6) ?_
  refine jo_icmp_ge (pc := 12) dX0_raise_12 (tgt := 32) rfl ?_ ?_
  · exact jo_return (pc := 32) rfl rfl dX0_raise_32
  · refine jo_aload_n (pc := 15) 1 rfl dX0_raise_15 rfl ?_
    refine jo_iload (pc := 16) 3 rfl dX0_raise_16 ?_
    refine jo_aload_n (pc := 18) 0 rfl dX0_raise_18 rfl ?_
    refine jo_iload (pc := 19) 3 rfl dX0_raise_19 ?_
    refine jo_lload_n (pc := 21) 2 rfl dX0_raise_21 rfl ?_
    refine jo_cV_J_p (pc := 22) (μ' := mu_X0_powerAt) (fx := f_X0_powerAt σ2 i3 x2) (As := [.int i3, .long x2]) (c_X0_powerAt hw) (ok_X0_powerAt) (ltb rfl) (all3 gw_855 gw_857 gw_16) (ik_72 hw) (by decide) (q := (RX0, TX0, 8)) rfl rfl rfl rfl (Nat.le_of_ble_eq_true rfl) dX0_raise_22 (fun v4 => ?_)
    refine jo_last (pc := 25) (hx0) dX0_raise_25 (fun σ5 => ?_)
    refine jo_iinc (pc := 26) (lv' := [(5, .int (i3 + 1)), (0, .ref (adr w 72)), (1, .ref (adr w x0)), (3, .long x2)]) 3 rfl dX0_raise_26 (congrArg (fun z => i3 + z) (ic_i_1)) (ltb rfl) rfl ?_
    refine jo_goto (pc := 29) dX0_raise_29 (tgt := 8) rfl ?_
    refine jo_lv (lv' := [(0, .ref (adr w 72)), (1, .ref (adr w x0)), (3, .long x2), (5, .int (i3 + 1))]) [1, 2, 3, 0] rfl ?_
    exact jo_leaf (by rfl) (hF8_3 (σ5, i3 + 1))
theorem c_X0_raise {w : Wd} (hw : WOK w) {σ : Mem} {x0 : Nat} {x1 : Nat} {x2 : Int64} (hx0 : isk w x0 13) (hx1 : isk w x1 13) : ∀ σ', f_X0_raise σ x0 x1 x2 = some σ' → MC w mu_X0_raise none [.ref (adr w 72), .ref (adr w x0), .ref (adr w x1), .long x2] σ σ' := mc_ofV ok_X0_raise rfl (Nat.le_of_ble_eq_true rfl) (t_X0_raise hw hx0 hx1)
abbrev mu_X0_putRoot : MD := (yX0_putRoot, cX0_putRoot, 4, none, 1)
theorem ok_X0_putRoot : MOK mu_X0_putRoot 2 := ⟨gw_894, gw_164, (by decide +kernel : plainFor yX0_putRoot = true), ⟨(by decide +kernel : yX0_putRoot.cls ≠ "java/lang/invoke/MethodHandle"), (by decide +kernel : yX0_putRoot.cls ≠ "java/lang/invoke/VarHandle"), (by decide +kernel : (parseMethodDescriptor yX0_putRoot.desc).map (fun d => d.parameters.length) = some 2)⟩, Nat.le_of_ble_eq_true rfl⟩
noncomputable def f_X0_putRoot (σ : Mem) (x0 : Int32) (x1 : Int64) : Option Mem :=
  pL σ 75 x0 x1 (fun (σ1 : Mem) => (f_X4_put σ1 73 x0 x1).bind (fun (σ2 : Mem) => (f_X4_put σ2 73 (6 + x0) x1).bind (fun (σ3 : Mem) => (f_X4_put σ3 74 (6 + x0) x1).bind (fun (σ4 : Mem) => some σ4))))
theorem t_X0_putRoot {w : Wd} (hw : WOK w) {σ : Mem} {x0 : Int32} {x1 : Int64} : JO w mu_X0_putRoot vV σ [(0, .ref (adr w 72)), (1, .int x0), (2, .long x1)] [] 0 (f_X0_putRoot σ x0 x1) (fun z => some ((), z)) := by
  unfold f_X0_putRoot
  refine jo_aload_n (pc := 0) 0 rfl dX0_putRoot_0 rfl ?_
  refine jo_getrE (pc := 1) ok_0_3 (ik_72 hw) rf_72_3 gw_343 dX0_putRoot_1 ?_
  refine jo_iload_n (pc := 4) 1 rfl dX0_putRoot_4 rfl ?_
  refine jo_lload_n (pc := 5) 2 rfl dX0_putRoot_5 rfl ?_
  refine jo_last (pc := 6) (ik_75 hw) dX0_putRoot_6 (fun σ1 => ?_)
  refine jo_aload_n (pc := 7) 0 rfl dX0_putRoot_7 rfl ?_
  refine jo_getrE (pc := 8) ok_0_1 (ik_72 hw) rf_72_1 gw_341 dX0_putRoot_8 ?_
  refine jo_iload_n (pc := 11) 1 rfl dX0_putRoot_11 rfl ?_
  refine jo_lload_n (pc := 12) 2 rfl dX0_putRoot_12 rfl ?_
  refine jo_cS_V_i (pc := 13) (μ' := mu_X4_put) (fx := f_X4_put σ1 73 x0 x1) (As := [.ref (adr w 73), .int x0, .long x1]) (c_X4_put hw (ik_73 hw)) (ok_X4_put) (ltb rfl) (all2 gw_818 gw_614) rfl rfl (Nat.le_of_ble_eq_true rfl) dX0_putRoot_13 (fun σ2 => ?_)
  refine jo_aload_n (pc := 16) 0 rfl dX0_putRoot_16 rfl ?_
  refine jo_getrE (pc := 17) ok_0_1 (ik_72 hw) rf_72_1 gw_341 dX0_putRoot_17 ?_
  refine jo_bipush (pc := 20) dX0_putRoot_20 (ic_b_6) ?_
  refine jo_iload_n (pc := 22) 1 rfl dX0_putRoot_22 rfl ?_
  refine jo_iadd (pc := 23) dX0_putRoot_23 ?_
  refine jo_lload_n (pc := 24) 2 rfl dX0_putRoot_24 rfl ?_
  refine jo_cS_V_i (pc := 25) (μ' := mu_X4_put) (fx := f_X4_put σ2 73 (6 + x0) x1) (As := [.ref (adr w 73), .int (6 + x0), .long x1]) (c_X4_put hw (ik_73 hw)) (ok_X4_put) (ltb rfl) (all2 gw_818 gw_614) rfl rfl (Nat.le_of_ble_eq_true rfl) dX0_putRoot_25 (fun σ3 => ?_)
  refine jo_aload_n (pc := 28) 0 rfl dX0_putRoot_28 rfl ?_
  refine jo_getrE (pc := 29) ok_0_2 (ik_72 hw) rf_72_2 gw_342 dX0_putRoot_29 ?_
  refine jo_bipush (pc := 32) dX0_putRoot_32 (ic_b_6) ?_
  refine jo_iload_n (pc := 34) 1 rfl dX0_putRoot_34 rfl ?_
  refine jo_iadd (pc := 35) dX0_putRoot_35 ?_
  refine jo_lload_n (pc := 36) 2 rfl dX0_putRoot_36 rfl ?_
  refine jo_cS_V_i (pc := 37) (μ' := mu_X4_put) (fx := f_X4_put σ3 74 (6 + x0) x1) (As := [.ref (adr w 74), .int (6 + x0), .long x1]) (c_X4_put hw (ik_74 hw)) (ok_X4_put) (ltb rfl) (all2 gw_818 gw_614) rfl rfl (Nat.le_of_ble_eq_true rfl) dX0_putRoot_37 (fun σ4 => ?_)
  exact jo_return (pc := 40) rfl rfl dX0_putRoot_40
theorem c_X0_putRoot {w : Wd} (hw : WOK w) {σ : Mem} {x0 : Int32} {x1 : Int64} : ∀ σ', f_X0_putRoot σ x0 x1 = some σ' → MC w mu_X0_putRoot none [.ref (adr w 72), .int x0, .long x1] σ σ' := mc_ofV ok_X0_putRoot rfl (Nat.le_of_ble_eq_true rfl) (t_X0_putRoot hw)
abbrev mu_X0_extract : MD := (yX0_extract, cX0_extract, 10, some .boolean, 2)
theorem ok_X0_extract : MOK mu_X0_extract 3 := ⟨gw_890, gw_164, (by decide +kernel : plainFor yX0_extract = true), ⟨(by decide +kernel : yX0_extract.cls ≠ "java/lang/invoke/MethodHandle"), (by decide +kernel : yX0_extract.cls ≠ "java/lang/invoke/VarHandle"), (by decide +kernel : (parseMethodDescriptor yX0_extract.desc).map (fun d => d.parameters.length) = some 3)⟩, Nat.le_of_ble_eq_true rfl⟩
noncomputable def j_X0_extract_185 (x0 : Nat) (σ1 : Mem) : Option (Bool × Mem) :=
  (f_X0_copy σ1 75 x0).bind (fun (σ2 : Mem) => some (true, σ2))
noncomputable def l_X0_extract_11 (x1 : Nat) (x2 : Int64) (σ3 : Mem) (i4 : Int32) : Option ((Mem × Int32) ⊕ (Mem ⊕ (Bool × Mem))) :=
  if 6 ≤ i4 then (some (Sum.inr (Sum.inl σ3))) else ((f_X0_putRoot σ3 i4 0).bind (fun (σ5 : Mem) => gR 44 i4 (fun (p6 : Nat) => (f_X9_value σ5 p6 73).bind (fun (v7 : Int64) => pL σ5 76 i4 v7 (fun (σ8 : Mem) => gL σ8 76 i4 (fun (v9 : Int64) => (f_X4_put σ8 74 i4 v9).bind (fun (σ10 : Mem) => gR 44 i4 (fun (p11 : Nat) => (f_X9_value σ10 p11 74).bind (fun (v12 : Int64) => pL σ10 77 i4 v12 (fun (σ13 : Mem) => gL σ13 x1 i4 (fun (v14 : Int64) => (f_X0_powerAt σ13 i4 x2).bind (fun (v15 : Int64) => bd (v14 - v15) (fun (v16 : Int64) => nzL x2 (bd (v16 / x2) (fun (v17 : Int64) => if (v17 * x2) = v16 then (if v17 < (-999) then (some (Sum.inr (Sum.inr (false, σ13)))) else (if v17 ≤ 999 then ((f_X0_putRoot σ13 i4 v17).bind (fun (σ18 : Mem) => gL σ18 76 i4 (fun (v19 : Int64) => pL σ18 76 i4 (v19 + (2 * v17)) (fun (σ20 : Mem) => gL σ20 76 i4 (fun (v21 : Int64) => (f_X4_put σ20 74 i4 v21).bind (fun (σ22 : Mem) => some (Sum.inl (σ22, i4 + 1)))))))) else (some (Sum.inr (Sum.inr (false, σ13)))))) else (some (Sum.inr (Sum.inr (false, σ13)))))))))))))))))))
noncomputable def f_X0_extract (σ : Mem) (x0 : Nat) (x1 : Nat) (x2 : Int64) : Option (Bool × Mem) :=
  if 1 ≤ x2 then ((loopO (fun (z4 : (Mem × Int32)) => l_X0_extract_11 x1 x2 z4.1 z4.2) (σ, 0) : Option (Mem ⊕ (Bool × Mem))).bind (Sum.elim (fun (z1 : Mem) => j_X0_extract_185 x0 z1) some)) else (some (false, σ))
theorem t_X0_extract {w : Wd} (hw : WOK w) {σ : Mem} {x0 : Nat} {x1 : Nat} {x2 : Int64} (hx0 : isk w x0 13) (hx1 : isk w x1 13) : JO w mu_X0_extract vB σ [(0, .ref (adr w 72)), (1, .ref (adr w x0)), (2, .ref (adr w x1)), (3, .long x2)] [] 0 (f_X0_extract σ x0 x1 x2) some := by
  unfold f_X0_extract
  refine jo_lload_n (pc := 0) 3 rfl dX0_extract_0 rfl ?_
  refine jo_lconst (pc := 1) dX0_extract_1 (ic_l_1) ?_
  refine jo_lcmp_ge (pc := 2) dX0_extract_2 dX0_extract_3 (tgt := 8) rfl ?_ ?_
  · refine jo_iconst (pc := 8) dX0_extract_8 (ic_i_0) ?_
    refine jo_istore (pc := 9) (lv' := [(5, .int 0), (0, .ref (adr w 72)), (1, .ref (adr w x0)), (2, .ref (adr w x1)), (3, .long x2)]) dX0_extract_9 (ltb rfl) rfl ?_
    refine jo_joinS (S := Mem) (fun (z1 : Mem) => z1) (fun (z1 : Mem) => [(0, .ref (adr w 72)), (1, .ref (adr w x0))]) (fun (z1 : Mem) => []) 185 ?_ (fun h185_1 => ?_)
    · intro σ1
      show JO w mu_X0_extract vB σ1 [(0, .ref (adr w 72)), (1, .ref (adr w x0))] [] 185 (j_X0_extract_185 x0 σ1) _
      unfold j_X0_extract_185
      refine jo_aload_n (pc := 185) 0 rfl dX0_extract_185 rfl ?_
      refine jo_getrE (pc := 186) ok_0_3 (ik_72 hw) rf_72_3 gw_343 dX0_extract_186 ?_
      refine jo_aload_n (pc := 189) 1 rfl dX0_extract_189 rfl ?_
      refine jo_cS_V_i (pc := 190) (μ' := mu_X0_copy) (fx := f_X0_copy σ1 75 x0) (As := [.ref (adr w 75), .ref (adr w x0)]) (c_X0_copy hw (ik_75 hw) (hx0)) (ok_X0_copy) (ltb rfl) (all2 gw_853 gw_704) rfl rfl (Nat.le_of_ble_eq_true rfl) dX0_extract_190 (fun σ2 => ?_)
      refine jo_iconst (pc := 193) dX0_extract_193 (ic_i_1) ?_
      exact jo_breturn (pc := 194) (b := true) rfl rfl dX0_extract_194
    · refine jo_lv (lv' := [(0, .ref (adr w 72)), (1, .ref (adr w x0)), (2, .ref (adr w x1)), (3, .long x2), (5, .int 0)]) [1, 2, 3, 4, 0] rfl ?_
      refine jo_loop (X := Mem ⊕ (Bool × Mem)) (fun (z4 : (Mem × Int32)) => z4.1) (fun (z4 : (Mem × Int32)) => [(0, .ref (adr w 72)), (1, .ref (adr w x0)), (2, .ref (adr w x1)), (3, .long x2), (5, .int z4.2)]) (body := (fun (z4 : (Mem × Int32)) => l_X0_extract_11 x1 x2 z4.1 z4.2)) (fun F11_4 hF11_4 s => ?_) (σ, 0)
      obtain ⟨σ3, i4⟩ := s
      show JO w mu_X0_extract vB σ3 [(0, .ref (adr w 72)), (1, .ref (adr w x0)), (2, .ref (adr w x1)), (3, .long x2), (5, .int i4)] [] 11 (l_X0_extract_11 x1 x2 σ3 i4) _
      unfold l_X0_extract_11
      refine jo_iload (pc := 11) 4 rfl dX0_extract_11 ?_
      refine jo_bipush (pc := 13) dX0_extract_13 (ic_b_6) ?_
      refine jo_icmp_ge (pc := 15) dX0_extract_15 (tgt := 185) rfl ?_ ?_
      · refine jo_lv (lv' := [(0, .ref (adr w 72)), (1, .ref (adr w x0))]) [0, 1] rfl ?_
        exact jo_leaf (by rfl) (h185_1 σ3)
      · refine jo_aload_n (pc := 18) 0 rfl dX0_extract_18 rfl ?_
        refine jo_iload (pc := 19) 4 rfl dX0_extract_19 ?_
        refine jo_lconst (pc := 21) dX0_extract_21 (ic_l_0) ?_
        refine jo_cV_V_i (pc := 22) (μ' := mu_X0_putRoot) (fx := f_X0_putRoot σ3 i4 0) (As := [.int i4, .long 0]) (c_X0_putRoot hw) (ok_X0_putRoot) (ltb rfl) (all3 gw_891 gw_893 gw_17) (ik_72 hw) (by decide) (q := (RX0, TX0, 8)) rfl rfl rfl rfl (Nat.le_of_ble_eq_true rfl) dX0_extract_22 (fun σ5 => ?_)
        refine jo_aload_n (pc := 25) 0 rfl dX0_extract_25 rfl ?_
        refine jo_getrE (pc := 26) ok_0_4 (ik_72 hw) rf_72_4 gw_344 dX0_extract_26 ?_
        refine jo_iload (pc := 29) 4 rfl dX0_extract_29 ?_
        refine jo_aload_n (pc := 31) 0 rfl dX0_extract_31 rfl ?_
        refine jo_getrE (pc := 32) ok_0_0 (ik_72 hw) rf_72_0 gw_340 dX0_extract_32 ?_
        refine jo_getrE (pc := 35) ok_4_2 (ik_40 hw) rf_40_2 gw_305 dX0_extract_35 ?_
        refine jo_iload (pc := 38) 4 rfl dX0_extract_38 ?_
        refine jo_aaldG (pc := 40) (z := 9) hw (ik_44 hw) (by decide) (t := 3) rfl rfl (by decide) dX0_extract_40 (fun p6 hp6 => ?_)
        refine jo_aload_n (pc := 41) 0 rfl dX0_extract_41 rfl ?_
        refine jo_getrE (pc := 42) ok_0_1 (ik_72 hw) rf_72_1 gw_341 dX0_extract_42 ?_
        refine jo_cV_J_p (pc := 45) (μ' := mu_X9_value) (fx := f_X9_value σ5 p6 73) (As := [.ref (adr w 73)]) (c_X9_value hw (hp6) (ik_73 hw)) (ok_X9_value) (ltb rfl) (all3 gw_819 gw_618 gw_619) (hp6) (by decide) (q := (RX9, TX9, 4)) rfl rfl rfl rfl (Nat.le_of_ble_eq_true rfl) dX0_extract_45 (fun v7 => ?_)
        refine jo_last (pc := 48) (ik_76 hw) dX0_extract_48 (fun σ8 => ?_)
        refine jo_aload_n (pc := 49) 0 rfl dX0_extract_49 rfl ?_
        refine jo_getrE (pc := 50) ok_0_2 (ik_72 hw) rf_72_2 gw_342 dX0_extract_50 ?_
        refine jo_iload (pc := 53) 4 rfl dX0_extract_53 ?_
        refine jo_aload_n (pc := 55) 0 rfl dX0_extract_55 rfl ?_
        refine jo_getrE (pc := 56) ok_0_4 (ik_72 hw) rf_72_4 gw_344 dX0_extract_56 ?_
        refine jo_iload (pc := 59) 4 rfl dX0_extract_59 ?_
        refine jo_lald (pc := 61) (ik_76 hw) dX0_extract_61 (fun v9 => ?_)
        refine jo_cS_V_i (pc := 62) (μ' := mu_X4_put) (fx := f_X4_put σ8 74 i4 v9) (As := [.ref (adr w 74), .int i4, .long v9]) (c_X4_put hw (ik_74 hw)) (ok_X4_put) (ltb rfl) (all2 gw_818 gw_614) rfl rfl (Nat.le_of_ble_eq_true rfl) dX0_extract_62 (fun σ10 => ?_)
        refine jo_aload_n (pc := 65) 0 rfl dX0_extract_65 rfl ?_
        refine jo_getrE (pc := 66) ok_0_5 (ik_72 hw) rf_72_5 gw_345 dX0_extract_66 ?_
        refine jo_iload (pc := 69) 4 rfl dX0_extract_69 ?_
        refine jo_aload_n (pc := 71) 0 rfl dX0_extract_71 rfl ?_
        refine jo_getrE (pc := 72) ok_0_0 (ik_72 hw) rf_72_0 gw_340 dX0_extract_72 ?_
        refine jo_getrE (pc := 75) ok_4_2 (ik_40 hw) rf_40_2 gw_305 dX0_extract_75 ?_
        refine jo_iload (pc := 78) 4 rfl dX0_extract_78 ?_
        refine jo_aaldG (pc := 80) (z := 9) hw (ik_44 hw) (by decide) (t := 3) rfl rfl (by decide) dX0_extract_80 (fun p11 hp11 => ?_)
        refine jo_aload_n (pc := 81) 0 rfl dX0_extract_81 rfl ?_
        refine jo_getrE (pc := 82) ok_0_2 (ik_72 hw) rf_72_2 gw_342 dX0_extract_82 ?_
        refine jo_cV_J_p (pc := 85) (μ' := mu_X9_value) (fx := f_X9_value σ10 p11 74) (As := [.ref (adr w 74)]) (c_X9_value hw (hp11) (ik_74 hw)) (ok_X9_value) (ltb rfl) (all3 gw_819 gw_618 gw_619) (hp11) (by decide) (q := (RX9, TX9, 4)) rfl rfl rfl rfl (Nat.le_of_ble_eq_true rfl) dX0_extract_85 (fun v12 => ?_)
        refine jo_last (pc := 88) (ik_77 hw) dX0_extract_88 (fun σ13 => ?_)
        refine jo_aload_n (pc := 89) 2 rfl dX0_extract_89 rfl ?_
        refine jo_iload (pc := 90) 4 rfl dX0_extract_90 ?_
        refine jo_lald (pc := 92) (hx1) dX0_extract_92 (fun v14 => ?_)
        refine jo_aload_n (pc := 93) 0 rfl dX0_extract_93 rfl ?_
        refine jo_iload (pc := 94) 4 rfl dX0_extract_94 ?_
        refine jo_lload_n (pc := 96) 3 rfl dX0_extract_96 rfl ?_
        refine jo_cV_J_p (pc := 97) (μ' := mu_X0_powerAt) (fx := f_X0_powerAt σ13 i4 x2) (As := [.int i4, .long x2]) (c_X0_powerAt hw) (ok_X0_powerAt) (ltb rfl) (all3 gw_855 gw_857 gw_16) (ik_72 hw) (by decide) (q := (RX0, TX0, 8)) rfl rfl rfl rfl (Nat.le_of_ble_eq_true rfl) dX0_extract_97 (fun v15 => ?_)
        refine jo_lsub (pc := 100) dX0_extract_100 ?_
        refine jo_bd ?_
        refine jo_lstore (pc := 101) (lv' := [(6, .long (v14 - v15)), (0, .ref (adr w 72)), (1, .ref (adr w x0)), (2, .ref (adr w x1)), (3, .long x2), (5, .int i4)]) dX0_extract_101 (ltb rfl) rfl ?_
        generalize (v14 - v15) = v16
        refine jo_lload (pc := 103) 0 rfl dX0_extract_103 ?_
        refine jo_lload_n (pc := 105) 4 rfl dX0_extract_105 rfl ?_
        refine jo_ldiv (pc := 106) dX0_extract_106 ?_
        refine jo_bd ?_
        refine jo_lstore (pc := 107) (lv' := [(8, .long (v16 / x2)), (6, .long v16), (0, .ref (adr w 72)), (1, .ref (adr w x0)), (2, .ref (adr w x1)), (3, .long x2), (5, .int i4)]) dX0_extract_107 (ltb rfl) rfl ?_
        generalize (v16 / x2) = v17
        refine jo_lload (pc := 109) 0 rfl dX0_extract_109 ?_
        refine jo_lload_n (pc := 111) 5 rfl dX0_extract_111 rfl ?_
        refine jo_lmul (pc := 112) dX0_extract_112 ?_
        refine jo_lload (pc := 113) 1 rfl dX0_extract_113 ?_
        refine jo_lcmp_ne (pc := 115) dX0_extract_115 dX0_extract_116 (tgt := 137) rfl ?_ ?_
        · refine jo_iconst (pc := 137) dX0_extract_137 (ic_i_0) ?_
          exact jo_breturn (pc := 138) (b := false) rfl rfl dX0_extract_138
        · refine jo_lload (pc := 119) 0 rfl dX0_extract_119 ?_
          refine jo_ldc2 (pc := 121) dX0_extract_121 gw_895 ?_
          refine jo_lcmp_lt (pc := 124) dX0_extract_124 dX0_extract_125 (tgt := 137) rfl ?_ ?_
          · refine jo_iconst (pc := 137) dX0_extract_137 (ic_i_0) ?_
            exact jo_breturn (pc := 138) (b := false) rfl rfl dX0_extract_138
          · refine jo_lload (pc := 128) 0 rfl dX0_extract_128 ?_
            refine jo_ldc2 (pc := 130) dX0_extract_130 gw_896 ?_
            refine jo_lcmp_le (pc := 133) dX0_extract_133 dX0_extract_134 (tgt := 139) rfl ?_ ?_
            · refine jo_aload_n (pc := 139) 2 rfl dX0_extract_139 rfl ?_
              refine jo_iload (pc := 140) 6 rfl dX0_extract_140 ?_
              refine jo_lload (pc := 142) 0 rfl dX0_extract_142 ?_
              refine jo_cV_V_i (pc := 144) (μ' := mu_X0_putRoot) (fx := f_X0_putRoot σ13 i4 v17) (As := [.int i4, .long v17]) (c_X0_putRoot hw) (ok_X0_putRoot) (ltb rfl) (all3 gw_891 gw_893 gw_17) (ik_72 hw) (by decide) (q := (RX0, TX0, 8)) rfl rfl rfl rfl (Nat.le_of_ble_eq_true rfl) dX0_extract_144 (fun σ18 => ?_)
              refine jo_aload_n (pc := 147) 2 rfl dX0_extract_147 rfl ?_
              refine jo_getrE (pc := 148) ok_0_4 (ik_72 hw) rf_72_4 gw_344 dX0_extract_148 ?_
              refine jo_iload (pc := 151) 6 rfl dX0_extract_151 ?_
              refine jo_dup2 (pc := 153) dX0_extract_153 rfl rfl ?_
              refine jo_lald (pc := 154) (ik_76 hw) dX0_extract_154 (fun v19 => ?_)
              refine jo_ldc2 (pc := 155) dX0_extract_155 gw_863 ?_
              refine jo_lload (pc := 158) 0 rfl dX0_extract_158 ?_
              refine jo_lmul (pc := 160) dX0_extract_160 ?_
              refine jo_ladd (pc := 161) dX0_extract_161 ?_
              refine jo_last (pc := 162) (ik_76 hw) dX0_extract_162 (fun σ20 => ?_)
              refine jo_aload_n (pc := 163) 2 rfl dX0_extract_163 rfl ?_
              refine jo_getrE (pc := 164) ok_0_2 (ik_72 hw) rf_72_2 gw_342 dX0_extract_164 ?_
              refine jo_iload (pc := 167) 6 rfl dX0_extract_167 ?_
              refine jo_aload_n (pc := 169) 2 rfl dX0_extract_169 rfl ?_
              refine jo_getrE (pc := 170) ok_0_4 (ik_72 hw) rf_72_4 gw_344 dX0_extract_170 ?_
              refine jo_iload (pc := 173) 6 rfl dX0_extract_173 ?_
              refine jo_lald (pc := 175) (ik_76 hw) dX0_extract_175 (fun v21 => ?_)
              refine jo_cS_V_i (pc := 176) (μ' := mu_X4_put) (fx := f_X4_put σ20 74 i4 v21) (As := [.ref (adr w 74), .int i4, .long v21]) (c_X4_put hw (ik_74 hw)) (ok_X4_put) (ltb rfl) (all2 gw_818 gw_614) rfl rfl (Nat.le_of_ble_eq_true rfl) dX0_extract_176 (fun σ22 => ?_)
              refine jo_iinc (pc := 179) (lv' := [(5, .int (i4 + 1)), (8, .long v17), (6, .long v16), (0, .ref (adr w 72)), (1, .ref (adr w x0)), (2, .ref (adr w x1)), (3, .long x2)]) 6 rfl dX0_extract_179 (congrArg (fun z => i4 + z) (ic_i_1)) (ltb rfl) rfl ?_
              refine jo_goto (pc := 182) dX0_extract_182 (tgt := 11) rfl ?_
              refine jo_lv (lv' := [(0, .ref (adr w 72)), (1, .ref (adr w x0)), (2, .ref (adr w x1)), (3, .long x2), (5, .int (i4 + 1))]) [3, 4, 5, 6, 0] rfl ?_
              exact jo_leaf (by rfl) (hF11_4 (σ22, i4 + 1))
            · refine jo_iconst (pc := 137) dX0_extract_137 (ic_i_0) ?_
              exact jo_breturn (pc := 138) (b := false) rfl rfl dX0_extract_138
  · refine jo_iconst (pc := 6) dX0_extract_6 (ic_i_0) ?_
    exact jo_breturn (pc := 7) (b := false) rfl rfl dX0_extract_7
theorem c_X0_extract {w : Wd} (hw : WOK w) {σ : Mem} {x0 : Nat} {x1 : Nat} {x2 : Int64} (hx0 : isk w x0 13) (hx1 : isk w x1 13) : ∀ r σ', f_X0_extract σ x0 x1 x2 = some (r, σ') → MC w mu_X0_extract (vB r) [.ref (adr w 72), .ref (adr w x0), .ref (adr w x1), .long x2] σ σ' := mc_of ok_X0_extract rfl (Nat.le_of_ble_eq_true rfl) (t_X0_extract hw hx0 hx1)
abbrev mu_J7_fill_53178 : MD := (yJ7_fill_53178, cJ7_fill_53178, 4, none, 0)
theorem ok_J7_fill_53178 : MOK mu_J7_fill_53178 2 := ⟨gw_522, gw_169, (by decide +kernel : plainFor yJ7_fill_53178 = true), ⟨(by decide +kernel : yJ7_fill_53178.cls ≠ "java/lang/invoke/MethodHandle"), (by decide +kernel : yJ7_fill_53178.cls ≠ "java/lang/invoke/VarHandle"), (by decide +kernel : (parseMethodDescriptor yJ7_fill_53178.desc).map (fun d => d.parameters.length) = some 2)⟩, Nat.le_of_ble_eq_true rfl⟩
noncomputable def l_J7_fill_53178_5 (x0 : Nat) (x1 : Int32) (v1 : Int32) (σ2 : Mem) (i3 : Int32) : Option ((Mem × Int32) ⊕ Mem) :=
  if v1 ≤ i3 then (some (Sum.inr σ2)) else (pI σ2 x0 i3 x1 (fun (σ4 : Mem) => some (Sum.inl (σ4, i3 + 1))))
noncomputable def f_J7_fill_53178 (σ : Mem) (x0 : Nat) (x1 : Int32) : Option Mem :=
  bd (Int32.ofNat (ln x0)) (fun (v1 : Int32) => loopO (fun (z3 : (Mem × Int32)) => l_J7_fill_53178_5 x0 x1 v1 z3.1 z3.2) (σ, 0))
theorem t_J7_fill_53178 {w : Wd} (hw : WOK w) {σ : Mem} {x0 : Nat} {x1 : Int32} (hx0 : isk w x0 12) : JO w mu_J7_fill_53178 vV σ [(0, .ref (adr w x0)), (1, .int x1)] [] 0 (f_J7_fill_53178 σ x0 x1) (fun z => some ((), z)) := by
  unfold f_J7_fill_53178
  refine jo_iconst (pc := 0) dJ7_fill_53178_0 (ic_i_0) ?_
  refine jo_istore_n (pc := 1) (lv' := [(2, .int 0), (0, .ref (adr w x0)), (1, .int x1)]) dJ7_fill_53178_1 rfl (ltb rfl) rfl ?_
  refine jo_aload_n (pc := 2) 1 rfl dJ7_fill_53178_2 rfl ?_
  refine jo_alenI (pc := 3) (hx0) (by decide) (t := 0) rfl dJ7_fill_53178_3 ?_
  refine jo_bd ?_
  refine jo_istore_n (pc := 4) (lv' := [(3, .int (Int32.ofNat (ln x0))), (2, .int 0), (0, .ref (adr w x0)), (1, .int x1)]) dJ7_fill_53178_4 rfl (ltb rfl) rfl ?_
  generalize (Int32.ofNat (ln x0)) = v1
  refine jo_lv (lv' := [(3, .int v1), (0, .ref (adr w x0)), (1, .int x1), (2, .int 0)]) [0, 2, 3, 1] rfl ?_
  refine jo_loop (X := Mem) (fun (z3 : (Mem × Int32)) => z3.1) (fun (z3 : (Mem × Int32)) => [(3, .int v1), (0, .ref (adr w x0)), (1, .int x1), (2, .int z3.2)]) (body := (fun (z3 : (Mem × Int32)) => l_J7_fill_53178_5 x0 x1 v1 z3.1 z3.2)) (fun F5_3 hF5_3 s => ?_) (σ, 0)
  obtain ⟨σ2, i3⟩ := s
  show JO w mu_J7_fill_53178 vV σ2 [(3, .int v1), (0, .ref (adr w x0)), (1, .int x1), (2, .int i3)] [] 5 (l_J7_fill_53178_5 x0 x1 v1 σ2 i3) _
  unfold l_J7_fill_53178_5
  refine jo_iload_n (pc := 5) 3 rfl dJ7_fill_53178_5 rfl ?_
  refine jo_iload_n (pc := 6) 0 rfl dJ7_fill_53178_6 rfl ?_
  refine jo_icmp_ge (pc := 7) dJ7_fill_53178_7 (tgt := 20) rfl ?_ ?_
  · exact jo_return (pc := 20) rfl rfl dJ7_fill_53178_20
  · refine jo_aload_n (pc := 10) 1 rfl dJ7_fill_53178_10 rfl ?_
    refine jo_iload_n (pc := 11) 3 rfl dJ7_fill_53178_11 rfl ?_
    refine jo_iload_n (pc := 12) 2 rfl dJ7_fill_53178_12 rfl ?_
    refine jo_iast (pc := 13) (hx0) dJ7_fill_53178_13 (fun σ4 => ?_)
    refine jo_iinc (pc := 14) (lv' := [(2, .int (i3 + 1)), (3, .int v1), (0, .ref (adr w x0)), (1, .int x1)]) 3 rfl dJ7_fill_53178_14 (congrArg (fun z => i3 + z) (ic_i_1)) (ltb rfl) rfl ?_
    refine jo_goto (pc := 17) dJ7_fill_53178_17 (tgt := 5) rfl ?_
    refine jo_lv (lv' := [(3, .int v1), (0, .ref (adr w x0)), (1, .int x1), (2, .int (i3 + 1))]) [1, 2, 3, 0] rfl ?_
    exact jo_leaf (by rfl) (hF5_3 (σ4, i3 + 1))
theorem c_J7_fill_53178 {w : Wd} (hw : WOK w) {σ : Mem} {x0 : Nat} {x1 : Int32} (hx0 : isk w x0 12) : ∀ σ', f_J7_fill_53178 σ x0 x1 = some σ' → MC w mu_J7_fill_53178 none [.ref (adr w x0), .int x1] σ σ' := mc_ofV ok_J7_fill_53178 rfl (Nat.le_of_ble_eq_true rfl) (t_J7_fill_53178 hw hx0)
abbrev mu_X1_isAt : MD := (yX1_isAt, cX1_isAt, 4, some .boolean, 0)
theorem ok_X1_isAt : MOK mu_X1_isAt 2 := ⟨gw_1100, gw_167, (by decide +kernel : plainFor yX1_isAt = true), ⟨(by decide +kernel : yX1_isAt.cls ≠ "java/lang/invoke/MethodHandle"), (by decide +kernel : yX1_isAt.cls ≠ "java/lang/invoke/VarHandle"), (by decide +kernel : (parseMethodDescriptor yX1_isAt.desc).map (fun d => d.parameters.length) = some 2)⟩, Nat.le_of_ble_eq_true rfl⟩
noncomputable def l_X1_isAt_2 (σ : Mem) (x0 : Int32) (x1 : Nat) (i1 : Int32) : Option (Int32 ⊕ Bool) :=
  if 6 ≤ i1 then (some (Sum.inr true)) else (gL σ 130 ((x0 * 6) + i1) (fun (v2 : Int64) => gL σ x1 i1 (fun (v3 : Int64) => if v2 = v3 then (some (Sum.inl (i1 + 1))) else (some (Sum.inr false)))))
noncomputable def f_X1_isAt (σ : Mem) (x0 : Int32) (x1 : Nat) : Option Bool :=
  loopO (fun (z1 : Int32) => l_X1_isAt_2 σ x0 x1 z1) 0
theorem t_X1_isAt {w : Wd} (hw : WOK w) {σ : Mem} {x0 : Int32} {x1 : Nat} (hx1 : isk w x1 13) : JO w mu_X1_isAt vB σ [(0, .ref (adr w 128)), (1, .int x0), (2, .ref (adr w x1))] [] 0 (f_X1_isAt σ x0 x1) (fun z => some (z, σ)) := by
  unfold f_X1_isAt
  refine jo_iconst (pc := 0) dX1_isAt_0 (ic_i_0) ?_
  refine jo_istore_n (pc := 1) (lv' := [(3, .int 0), (0, .ref (adr w 128)), (1, .int x0), (2, .ref (adr w x1))]) dX1_isAt_1 rfl (ltb rfl) rfl ?_
  refine jo_lv (lv' := [(0, .ref (adr w 128)), (1, .int x0), (2, .ref (adr w x1)), (3, .int 0)]) [1, 2, 3, 0] rfl ?_
  refine jo_loop (X := Bool) (fun (z1 : Int32) => σ) (fun (z1 : Int32) => [(0, .ref (adr w 128)), (1, .int x0), (2, .ref (adr w x1)), (3, .int z1)]) (body := (fun (z1 : Int32) => l_X1_isAt_2 σ x0 x1 z1)) (fun F2_1 hF2_1 s => ?_) 0
  revert s; intro i1
  show JO w mu_X1_isAt vB σ [(0, .ref (adr w 128)), (1, .int x0), (2, .ref (adr w x1)), (3, .int i1)] [] 2 (l_X1_isAt_2 σ x0 x1 i1) _
  unfold l_X1_isAt_2
  refine jo_iload_n (pc := 2) 3 rfl dX1_isAt_2 rfl ?_
  refine jo_bipush (pc := 3) dX1_isAt_3 (ic_b_6) ?_
  refine jo_icmp_ge (pc := 5) dX1_isAt_5 (tgt := 34) rfl ?_ ?_
  · refine jo_iconst (pc := 34) dX1_isAt_34 (ic_i_1) ?_
    exact jo_breturn (pc := 35) (b := true) rfl rfl dX1_isAt_35
  · refine jo_aload_n (pc := 8) 0 rfl dX1_isAt_8 rfl ?_
    refine jo_getrE (pc := 9) ok_1_4 (ik_128 hw) rf_128_4 gw_435 dX1_isAt_9 ?_
    refine jo_iload_n (pc := 12) 1 rfl dX1_isAt_12 rfl ?_
    refine jo_bipush (pc := 13) dX1_isAt_13 (ic_b_6) ?_
    refine jo_imul (pc := 15) dX1_isAt_15 ?_
    refine jo_iload_n (pc := 16) 3 rfl dX1_isAt_16 rfl ?_
    refine jo_iadd (pc := 17) dX1_isAt_17 ?_
    refine jo_lald (pc := 18) (ik_130 hw) dX1_isAt_18 (fun v2 => ?_)
    refine jo_aload_n (pc := 19) 2 rfl dX1_isAt_19 rfl ?_
    refine jo_iload_n (pc := 20) 3 rfl dX1_isAt_20 rfl ?_
    refine jo_lald (pc := 21) (hx1) dX1_isAt_21 (fun v3 => ?_)
    refine jo_lcmp_eq (pc := 22) dX1_isAt_22 dX1_isAt_23 (tgt := 28) rfl ?_ ?_
    · refine jo_iinc (pc := 28) (lv' := [(3, .int (i1 + 1)), (0, .ref (adr w 128)), (1, .int x0), (2, .ref (adr w x1))]) 3 rfl dX1_isAt_28 (congrArg (fun z => i1 + z) (ic_i_1)) (ltb rfl) rfl ?_
      refine jo_goto (pc := 31) dX1_isAt_31 (tgt := 2) rfl ?_
      refine jo_lv (lv' := [(0, .ref (adr w 128)), (1, .int x0), (2, .ref (adr w x1)), (3, .int (i1 + 1))]) [1, 2, 3, 0] rfl ?_
      exact jo_leaf (by rfl) (hF2_1 (i1 + 1))
    · refine jo_iconst (pc := 26) dX1_isAt_26 (ic_i_0) ?_
      exact jo_breturn (pc := 27) (b := false) rfl rfl dX1_isAt_27
theorem c_X1_isAt {w : Wd} (hw : WOK w) {σ : Mem} {x0 : Int32} {x1 : Nat} (hx1 : isk w x1 13) : ∀ r, f_X1_isAt σ x0 x1 = some r → MC w mu_X1_isAt (vB r) [.ref (adr w 128), .int x0, .ref (adr w x1)] σ σ := mc_ofP ok_X1_isAt rfl (Nat.le_of_ble_eq_true rfl) (t_X1_isAt hw hx1)
abbrev mu_X1_slotOf : MD := (yX1_slotOf, cX1_slotOf, 6, some .int, 1)
theorem ok_X1_slotOf : MOK mu_X1_slotOf 1 := ⟨gw_1095, gw_167, (by decide +kernel : plainFor yX1_slotOf = true), ⟨(by decide +kernel : yX1_slotOf.cls ≠ "java/lang/invoke/MethodHandle"), (by decide +kernel : yX1_slotOf.cls ≠ "java/lang/invoke/VarHandle"), (by decide +kernel : (parseMethodDescriptor yX1_slotOf.desc).map (fun d => d.parameters.length) = some 1)⟩, Nat.le_of_ble_eq_true rfl⟩
noncomputable def l_X1_slotOf_40 (σ : Mem) (x0 : Nat) (i3 : Int32) (i4 : Int32) : Option ((Int32 × Int32) ⊕ Int32) :=
  if 4096 ≤ i4 then (some (Sum.inr i3)) else (gI σ 131 i3 (fun (v5 : Int32) => if v5 = 0 then (some (Sum.inr i3)) else (gI σ 131 i3 (fun (v6 : Int32) => (f_X1_isAt σ (v6 - 1) x0).bind (fun (b7 : Bool) => if b7 then some (Sum.inr i3) else bd ((i3 + 1) &&& 4095) (fun (v8 : Int32) => some (Sum.inl (v8, i4 + 1))))))))
noncomputable def j_X1_slotOf_29 (σ : Mem) (x0 : Nat) (l1 : Int64) : Option Int32 :=
  bd ((Int64.toInt32 l1) &&& 4095) (fun (v2 : Int32) => loopO (fun (z4 : (Int32 × Int32)) => l_X1_slotOf_40 σ x0 z4.1 z4.2) (v2, 0))
noncomputable def l_X1_slotOf_5 (σ : Mem) (x0 : Nat) (l9 : Int64) (i10 : Int32) : Option ((Int64 × Int32) ⊕ Int64) :=
  if 6 ≤ i10 then (some (Sum.inr l9)) else (gL σ x0 i10 (fun (v11 : Int64) => bd ((l9 * 31) + v11) (fun (v12 : Int64) => some (Sum.inl (v12, i10 + 1)))))
noncomputable def f_X1_slotOf (σ : Mem) (x0 : Nat) : Option Int32 :=
  (loopO (fun (z10 : (Int64 × Int32)) => l_X1_slotOf_5 σ x0 z10.1 z10.2) (0, 0) : Option Int64).bind (fun (z1 : Int64) => j_X1_slotOf_29 σ x0 z1)
theorem t_X1_slotOf {w : Wd} (hw : WOK w) {σ : Mem} {x0 : Nat} (hx0 : isk w x0 13) : JO w mu_X1_slotOf vI σ [(0, .ref (adr w 128)), (1, .ref (adr w x0))] [] 0 (f_X1_slotOf σ x0) (fun z => some (z, σ)) := by
  unfold f_X1_slotOf
  refine jo_lconst (pc := 0) dX1_slotOf_0 (ic_l_0) ?_
  refine jo_lstore_n (pc := 1) (lv' := [(2, .long 0), (0, .ref (adr w 128)), (1, .ref (adr w x0))]) dX1_slotOf_1 rfl (ltb rfl) rfl ?_
  refine jo_iconst (pc := 2) dX1_slotOf_2 (ic_i_0) ?_
  refine jo_istore (pc := 3) (lv' := [(4, .int 0), (2, .long 0), (0, .ref (adr w 128)), (1, .ref (adr w x0))]) dX1_slotOf_3 (ltb rfl) rfl ?_
  refine jo_join1 (S := Int64) (fun (z1 : Int64) => σ) (fun (z1 : Int64) => [(0, .ref (adr w 128)), (1, .ref (adr w x0)), (2, .long z1)]) (fun (z1 : Int64) => []) 29 ?_ (fun h29_1 => ?_)
  · intro l1
    show JO w mu_X1_slotOf vI σ [(0, .ref (adr w 128)), (1, .ref (adr w x0)), (2, .long l1)] [] 29 (j_X1_slotOf_29 σ x0 l1) _
    unfold j_X1_slotOf_29
    refine jo_lload_n (pc := 29) 2 rfl dX1_slotOf_29 rfl ?_
    refine jo_l2i (pc := 30) dX1_slotOf_30 ?_
    refine jo_sipush (pc := 31) dX1_slotOf_31 (ic_s_4095) ?_
    refine jo_iand (pc := 34) dX1_slotOf_34 ?_
    refine jo_bd ?_
    refine jo_istore (pc := 35) (lv' := [(4, .int ((Int64.toInt32 l1) &&& 4095)), (0, .ref (adr w 128)), (1, .ref (adr w x0)), (2, .long l1)]) dX1_slotOf_35 (ltb rfl) rfl ?_
    generalize ((Int64.toInt32 l1) &&& 4095) = v2
    refine jo_iconst (pc := 37) dX1_slotOf_37 (ic_i_0) ?_
    refine jo_istore (pc := 38) (lv' := [(5, .int 0), (4, .int v2), (0, .ref (adr w 128)), (1, .ref (adr w x0)), (2, .long l1)]) dX1_slotOf_38 (ltb rfl) rfl ?_
    refine jo_lv (lv' := [(0, .ref (adr w 128)), (1, .ref (adr w x0)), (4, .int v2), (5, .int 0)]) [2, 3, 1, 0] rfl ?_
    refine jo_loop (X := Int32) (fun (z4 : (Int32 × Int32)) => σ) (fun (z4 : (Int32 × Int32)) => [(0, .ref (adr w 128)), (1, .ref (adr w x0)), (4, .int z4.1), (5, .int z4.2)]) (body := (fun (z4 : (Int32 × Int32)) => l_X1_slotOf_40 σ x0 z4.1 z4.2)) (fun F40_4 hF40_4 s => ?_) (v2, 0)
    obtain ⟨i3, i4⟩ := s
    show JO w mu_X1_slotOf vI σ [(0, .ref (adr w 128)), (1, .ref (adr w x0)), (4, .int i3), (5, .int i4)] [] 40 (l_X1_slotOf_40 σ x0 i3 i4) _
    unfold l_X1_slotOf_40
    refine jo_iload (pc := 40) 3 rfl dX1_slotOf_40 ?_
    refine jo_sipush (pc := 42) dX1_slotOf_42 (ic_s_4096) ?_
    refine jo_icmp_ge (pc := 45) dX1_slotOf_45 (tgt := 91) rfl ?_ ?_
    · refine jo_iload (pc := 91) 2 rfl dX1_slotOf_91 ?_
      exact jo_ireturn (pc := 93) rfl rfl dX1_slotOf_93
    · refine jo_aload_n (pc := 48) 0 rfl dX1_slotOf_48 rfl ?_
      refine jo_getrE (pc := 49) ok_1_5 (ik_128 hw) rf_128_5 gw_436 dX1_slotOf_49 ?_
      refine jo_iload (pc := 52) 2 rfl dX1_slotOf_52 ?_
      refine jo_iald (pc := 54) (ik_131 hw) dX1_slotOf_54 (fun v5 => ?_)
      refine jo_if_eq (pc := 55) dX1_slotOf_55 (tgt := 91) rfl ?_ ?_
      · refine jo_iload (pc := 91) 2 rfl dX1_slotOf_91 ?_
        exact jo_ireturn (pc := 93) rfl rfl dX1_slotOf_93
      · refine jo_aload_n (pc := 58) 0 rfl dX1_slotOf_58 rfl ?_
        refine jo_aload_n (pc := 59) 0 rfl dX1_slotOf_59 rfl ?_
        refine jo_getrE (pc := 60) ok_1_5 (ik_128 hw) rf_128_5 gw_436 dX1_slotOf_60 ?_
        refine jo_iload (pc := 63) 2 rfl dX1_slotOf_63 ?_
        refine jo_iald (pc := 65) (ik_131 hw) dX1_slotOf_65 (fun v6 => ?_)
        refine jo_iconst (pc := 66) dX1_slotOf_66 (ic_i_1) ?_
        refine jo_isub (pc := 67) dX1_slotOf_67 ?_
        refine jo_aload_n (pc := 68) 1 rfl dX1_slotOf_68 rfl ?_
        refine jo_cV_Z_p (pc := 69) (μ' := mu_X1_isAt) (fx := f_X1_isAt σ (v6 - 1) x0) (As := [.int (v6 - 1), .ref (adr w x0)]) (c_X1_isAt hw (hx0)) (ok_X1_isAt) (ltb rfl) (all3 gw_1097 gw_1099 gw_41) (ik_128 hw) (by decide) (q := (RX1, TX1, 10)) rfl rfl rfl rfl (Nat.le_of_ble_eq_true rfl) dX1_slotOf_69 (fun b7 => ?_)
        refine jo_ifz_ne (pc := 72) dX1_slotOf_72 (tgt := 91) rfl ?_ ?_
        · refine jo_iload (pc := 91) 2 rfl dX1_slotOf_91 ?_
          exact jo_ireturn (pc := 93) rfl rfl dX1_slotOf_93
        · refine jo_iload (pc := 75) 2 rfl dX1_slotOf_75 ?_
          refine jo_iconst (pc := 77) dX1_slotOf_77 (ic_i_1) ?_
          refine jo_iadd (pc := 78) dX1_slotOf_78 ?_
          refine jo_sipush (pc := 79) dX1_slotOf_79 (ic_s_4095) ?_
          refine jo_iand (pc := 82) dX1_slotOf_82 ?_
          refine jo_bd ?_
          refine jo_istore (pc := 83) (lv' := [(4, .int ((i3 + 1) &&& 4095)), (0, .ref (adr w 128)), (1, .ref (adr w x0)), (5, .int i4)]) dX1_slotOf_83 (ltb rfl) rfl ?_
          generalize ((i3 + 1) &&& 4095) = v8
          refine jo_iinc (pc := 85) (lv' := [(5, .int (i4 + 1)), (4, .int v8), (0, .ref (adr w 128)), (1, .ref (adr w x0))]) 3 rfl dX1_slotOf_85 (congrArg (fun z => i4 + z) (ic_i_1)) (ltb rfl) rfl ?_
          refine jo_goto (pc := 88) dX1_slotOf_88 (tgt := 40) rfl ?_
          refine jo_lv (lv' := [(0, .ref (adr w 128)), (1, .ref (adr w x0)), (4, .int v8), (5, .int (i4 + 1))]) [2, 3, 1, 0] rfl ?_
          exact jo_leaf (by rfl) (hF40_4 (v8, i4 + 1))
  · refine jo_lv (lv' := [(0, .ref (adr w 128)), (1, .ref (adr w x0)), (2, .long 0), (4, .int 0)]) [2, 3, 1, 0] rfl ?_
    refine jo_loop (X := Int64) (fun (z10 : (Int64 × Int32)) => σ) (fun (z10 : (Int64 × Int32)) => [(0, .ref (adr w 128)), (1, .ref (adr w x0)), (2, .long z10.1), (4, .int z10.2)]) (body := (fun (z10 : (Int64 × Int32)) => l_X1_slotOf_5 σ x0 z10.1 z10.2)) (fun F5_10 hF5_10 s => ?_) (0, 0)
    obtain ⟨l9, i10⟩ := s
    show JO w mu_X1_slotOf vI σ [(0, .ref (adr w 128)), (1, .ref (adr w x0)), (2, .long l9), (4, .int i10)] [] 5 (l_X1_slotOf_5 σ x0 l9 i10) _
    unfold l_X1_slotOf_5
    refine jo_iload (pc := 5) 3 rfl dX1_slotOf_5 ?_
    refine jo_bipush (pc := 7) dX1_slotOf_7 (ic_b_6) ?_
    refine jo_icmp_ge (pc := 9) dX1_slotOf_9 (tgt := 29) rfl ?_ ?_
    · refine jo_lv (lv' := [(0, .ref (adr w 128)), (1, .ref (adr w x0)), (2, .long l9)]) [0, 1, 2] rfl ?_
      exact jo_leaf (by rfl) (h29_1 l9)
    · refine jo_lload_n (pc := 12) 2 rfl dX1_slotOf_12 rfl ?_
      refine jo_ldc2 (pc := 13) dX1_slotOf_13 gw_1096 ?_
      refine jo_lmul (pc := 16) dX1_slotOf_16 ?_
      refine jo_aload_n (pc := 17) 1 rfl dX1_slotOf_17 rfl ?_
      refine jo_iload (pc := 18) 3 rfl dX1_slotOf_18 ?_
      refine jo_lald (pc := 20) (hx0) dX1_slotOf_20 (fun v11 => ?_)
      refine jo_ladd (pc := 21) dX1_slotOf_21 ?_
      refine jo_bd ?_
      refine jo_lstore_n (pc := 22) (lv' := [(2, .long ((l9 * 31) + v11)), (0, .ref (adr w 128)), (1, .ref (adr w x0)), (4, .int i10)]) dX1_slotOf_22 rfl (ltb rfl) rfl ?_
      generalize ((l9 * 31) + v11) = v12
      refine jo_iinc (pc := 23) (lv' := [(4, .int (i10 + 1)), (2, .long v12), (0, .ref (adr w 128)), (1, .ref (adr w x0))]) 3 rfl dX1_slotOf_23 (congrArg (fun z => i10 + z) (ic_i_1)) (ltb rfl) rfl ?_
      refine jo_goto (pc := 26) dX1_slotOf_26 (tgt := 5) rfl ?_
      refine jo_lv (lv' := [(0, .ref (adr w 128)), (1, .ref (adr w x0)), (2, .long v12), (4, .int (i10 + 1))]) [2, 3, 1, 0] rfl ?_
      exact jo_leaf (by rfl) (hF5_10 (v12, i10 + 1))
theorem c_X1_slotOf {w : Wd} (hw : WOK w) {σ : Mem} {x0 : Nat} (hx0 : isk w x0 13) : ∀ r, f_X1_slotOf σ x0 = some r → MC w mu_X1_slotOf (vI r) [.ref (adr w 128), .ref (adr w x0)] σ σ := mc_ofP ok_X1_slotOf rfl (Nat.le_of_ble_eq_true rfl) (t_X1_slotOf hw hx0)
end
section
abbrev mu_X1_keepMade : MD := (yX1_keepMade, cX1_keepMade, 2, none, 2)
theorem ok_X1_keepMade : MOK mu_X1_keepMade 0 := ⟨gw_1091, gw_167, (by decide +kernel : plainFor yX1_keepMade = true), ⟨(by decide +kernel : yX1_keepMade.cls ≠ "java/lang/invoke/MethodHandle"), (by decide +kernel : yX1_keepMade.cls ≠ "java/lang/invoke/VarHandle"), (by decide +kernel : (parseMethodDescriptor yX1_keepMade.desc).map (fun d => d.parameters.length) = some 0)⟩, Nat.le_of_ble_eq_true rfl⟩
noncomputable def f_X1_keepMade (σ : Mem) : Option Mem :=
  (f_X1_slotOf σ 134).bind (fun (v1 : Int32) => gI σ 131 v1 (fun (v2 : Int32) => if v2 = 0 then (gF σ 128 6 (fun (v3 : Int32) => if 1000 < v3 then (some σ) else (gF σ 128 6 (fun (v4 : Int32) => cL σ 134 0 130 (v4 * 6) 6 (fun (σ5 : Mem) => gF σ5 128 6 (fun (v6 : Int32) => pF σ5 128 6 (v6 + 1) (fun (σ7 : Mem) => gF σ7 128 6 (fun (v8 : Int32) => pI σ7 131 v1 v8 (fun (σ9 : Mem) => some σ9))))))))) else (some σ)))
theorem t_X1_keepMade {w : Wd} (hw : WOK w) {σ : Mem} : JO w mu_X1_keepMade vV σ [(0, .ref (adr w 128))] [] 0 (f_X1_keepMade σ) (fun z => some ((), z)) := by
  unfold f_X1_keepMade
  refine jo_aload_n (pc := 0) 0 rfl dX1_keepMade_0 rfl ?_
  refine jo_aload_n (pc := 1) 0 rfl dX1_keepMade_1 rfl ?_
  refine jo_getrE (pc := 2) ok_1_9 (ik_128 hw) rf_128_9 gw_440 dX1_keepMade_2 ?_
  refine jo_cV_I_p (pc := 5) (μ' := mu_X1_slotOf) (fx := f_X1_slotOf σ 134) (As := [.ref (adr w 134)]) (c_X1_slotOf hw (ik_134 hw)) (ok_X1_slotOf) (ltb rfl) (all3 gw_1092 gw_1094 gw_40) (ik_128 hw) (by decide) (q := (RX1, TX1, 10)) rfl rfl rfl rfl (Nat.le_of_ble_eq_true rfl) dX1_keepMade_5 (fun v1 => ?_)
  refine jo_istore_n (pc := 8) (lv' := [(1, .int v1), (0, .ref (adr w 128))]) dX1_keepMade_8 rfl (ltb rfl) rfl ?_
  refine jo_aload_n (pc := 9) 1 rfl dX1_keepMade_9 rfl ?_
  refine jo_getrE (pc := 10) ok_1_5 (ik_128 hw) rf_128_5 gw_436 dX1_keepMade_10 ?_
  refine jo_iload_n (pc := 13) 0 rfl dX1_keepMade_13 rfl ?_
  refine jo_iald (pc := 14) (ik_131 hw) dX1_keepMade_14 (fun v2 => ?_)
  refine jo_if_ne (pc := 15) dX1_keepMade_15 (tgt := 69) rfl ?_ ?_
  · exact jo_return (pc := 69) rfl rfl dX1_keepMade_69
  · refine jo_aload_n (pc := 18) 1 rfl dX1_keepMade_18 rfl ?_
    refine jo_getf (pc := 19) ok_1_6 (ik_128 hw) gw_437 dX1_keepMade_19 (fun v3 => ?_)
    refine jo_sipush (pc := 22) dX1_keepMade_22 (ic_s_1000) ?_
    refine jo_icmp_gt (pc := 25) dX1_keepMade_25 (tgt := 69) rfl ?_ ?_
    · exact jo_return (pc := 69) rfl rfl dX1_keepMade_69
    · refine jo_aload_n (pc := 28) 1 rfl dX1_keepMade_28 rfl ?_
      refine jo_getrE (pc := 29) ok_1_9 (ik_128 hw) rf_128_9 gw_440 dX1_keepMade_29 ?_
      refine jo_iconst (pc := 32) dX1_keepMade_32 (ic_i_0) ?_
      refine jo_aload_n (pc := 33) 1 rfl dX1_keepMade_33 rfl ?_
      refine jo_getrE (pc := 34) ok_1_4 (ik_128 hw) rf_128_4 gw_435 dX1_keepMade_34 ?_
      refine jo_aload_n (pc := 37) 1 rfl dX1_keepMade_37 rfl ?_
      refine jo_getf (pc := 38) ok_1_6 (ik_128 hw) gw_437 dX1_keepMade_38 (fun v4 => ?_)
      refine jo_bipush (pc := 41) dX1_keepMade_41 (ic_b_6) ?_
      refine jo_imul (pc := 43) dX1_keepMade_43 ?_
      refine jo_bipush (pc := 44) dX1_keepMade_44 (ic_b_6) ?_
      refine jo_acL (pc := 46) (ik_134 hw) (ik_130 hw) (all4 gw_1101 gw_547 gw_546 gw_170) (ltb rfl) (Nat.le_of_ble_eq_true rfl) dX1_keepMade_46 (fun σ5 => ?_)
      refine jo_aload_n (pc := 49) 1 rfl dX1_keepMade_49 rfl ?_
      refine jo_dup (pc := 50) dX1_keepMade_50 rfl ?_
      refine jo_getf (pc := 51) ok_1_6 (ik_128 hw) gw_437 dX1_keepMade_51 (fun v6 => ?_)
      refine jo_iconst (pc := 54) dX1_keepMade_54 (ic_i_1) ?_
      refine jo_iadd (pc := 55) dX1_keepMade_55 ?_
      refine jo_putf (pc := 56) ok_1_6 okp_1_6 (ik_128 hw) gw_437 dX1_keepMade_56 (fun σ7 => ?_)
      refine jo_aload_n (pc := 59) 1 rfl dX1_keepMade_59 rfl ?_
      refine jo_getrE (pc := 60) ok_1_5 (ik_128 hw) rf_128_5 gw_436 dX1_keepMade_60 ?_
      refine jo_iload_n (pc := 63) 0 rfl dX1_keepMade_63 rfl ?_
      refine jo_aload_n (pc := 64) 1 rfl dX1_keepMade_64 rfl ?_
      refine jo_getf (pc := 65) ok_1_6 (ik_128 hw) gw_437 dX1_keepMade_65 (fun v8 => ?_)
      refine jo_iast (pc := 68) (ik_131 hw) dX1_keepMade_68 (fun σ9 => ?_)
      exact jo_return (pc := 69) rfl rfl dX1_keepMade_69
theorem c_X1_keepMade {w : Wd} (hw : WOK w) {σ : Mem} : ∀ σ', f_X1_keepMade σ = some σ' → MC w mu_X1_keepMade none [.ref (adr w 128)] σ σ' := mc_ofV ok_X1_keepMade rfl (Nat.le_of_ble_eq_true rfl) (t_X1_keepMade hw)
abbrev mu_X1_growBy : MD := (yX1_growBy, cX1_growBy, 3, none, 3)
theorem ok_X1_growBy : MOK mu_X1_growBy 2 := ⟨gw_1109, gw_167, (by decide +kernel : plainFor yX1_growBy = true), ⟨(by decide +kernel : yX1_growBy.cls ≠ "java/lang/invoke/MethodHandle"), (by decide +kernel : yX1_growBy.cls ≠ "java/lang/invoke/VarHandle"), (by decide +kernel : (parseMethodDescriptor yX1_growBy.desc).map (fun d => d.parameters.length) = some 2)⟩, Nat.le_of_ble_eq_true rfl⟩
noncomputable def f_X1_growBy (σ : Mem) (x0 : Int32) (x1 : Int32) : Option Mem :=
  (f_X0_makeGenerator σ 133 x0 (Int32.toInt64 x1)).bind (fun (σ1 : Mem) => (f_X0_product σ1 134 132 133).bind (fun (σ2 : Mem) => (f_X1_keepMade σ2).bind (fun (σ3 : Mem) => some σ3)))
theorem t_X1_growBy {w : Wd} (hw : WOK w) {σ : Mem} {x0 : Int32} {x1 : Int32} : JO w mu_X1_growBy vV σ [(0, .ref (adr w 128)), (1, .int x0), (2, .int x1)] [] 0 (f_X1_growBy σ x0 x1) (fun z => some ((), z)) := by
  unfold f_X1_growBy
  refine jo_aload_n (pc := 0) 0 rfl dX1_growBy_0 rfl ?_
  refine jo_getrE (pc := 1) ok_1_8 (ik_128 hw) rf_128_8 gw_439 dX1_growBy_1 ?_
  refine jo_iload_n (pc := 4) 1 rfl dX1_growBy_4 rfl ?_
  refine jo_iload_n (pc := 5) 2 rfl dX1_growBy_5 rfl ?_
  refine jo_i2l (pc := 6) dX1_growBy_6 ?_
  refine jo_cS_V_i (pc := 7) (μ' := mu_X0_makeGenerator) (fx := f_X0_makeGenerator σ 133 x0 (Int32.toInt64 x1)) (As := [.ref (adr w 133), .int x0, .long (Int32.toInt64 x1)]) (c_X0_makeGenerator hw (ik_133 hw)) (ok_X0_makeGenerator) (ltb rfl) (all2 gw_1110 gw_1010) rfl rfl (Nat.le_of_ble_eq_true rfl) dX1_growBy_7 (fun σ1 => ?_)
  refine jo_aload_n (pc := 10) 0 rfl dX1_growBy_10 rfl ?_
  refine jo_getrE (pc := 11) ok_1_1 (ik_128 hw) rf_128_1 gw_432 dX1_growBy_11 ?_
  refine jo_aload_n (pc := 14) 0 rfl dX1_growBy_14 rfl ?_
  refine jo_getrE (pc := 15) ok_1_9 (ik_128 hw) rf_128_9 gw_440 dX1_growBy_15 ?_
  refine jo_aload_n (pc := 18) 0 rfl dX1_growBy_18 rfl ?_
  refine jo_getrE (pc := 19) ok_1_7 (ik_128 hw) rf_128_7 gw_438 dX1_growBy_19 ?_
  refine jo_aload_n (pc := 22) 0 rfl dX1_growBy_22 rfl ?_
  refine jo_getrE (pc := 23) ok_1_8 (ik_128 hw) rf_128_8 gw_439 dX1_growBy_23 ?_
  refine jo_cV_V_i (pc := 26) (μ' := mu_X0_product) (fx := f_X0_product σ1 134 132 133) (As := [.ref (adr w 134), .ref (adr w 132), .ref (adr w 133)]) (c_X0_product hw (ik_134 hw) (ik_132 hw) (ik_133 hw)) (ok_X0_product) (ltb rfl) (all3 gw_1111 gw_815 gw_816) (ik_72 hw) (by decide) (q := (RX0, TX0, 8)) rfl rfl rfl rfl (Nat.le_of_ble_eq_true rfl) dX1_growBy_26 (fun σ2 => ?_)
  refine jo_aload_n (pc := 29) 0 rfl dX1_growBy_29 rfl ?_
  refine jo_cV_V_i (pc := 30) (μ' := mu_X1_keepMade) (fx := f_X1_keepMade σ2) (As := []) (c_X1_keepMade hw) (ok_X1_keepMade) (ltb rfl) (all3 gw_1088 gw_1090 gw_39) (ik_128 hw) (by decide) (q := (RX1, TX1, 10)) rfl rfl rfl rfl (Nat.le_of_ble_eq_true rfl) dX1_growBy_30 (fun σ3 => ?_)
  exact jo_return (pc := 33) rfl rfl dX1_growBy_33
theorem c_X1_growBy {w : Wd} (hw : WOK w) {σ : Mem} {x0 : Int32} {x1 : Int32} : ∀ σ', f_X1_growBy σ x0 x1 = some σ' → MC w mu_X1_growBy none [.ref (adr w 128), .int x0, .int x1] σ σ' := mc_ofV ok_X1_growBy rfl (Nat.le_of_ble_eq_true rfl) (t_X1_growBy hw)
abbrev mu_X1_grow : MD := (yX1_grow, cX1_grow, 5, none, 4)
theorem ok_X1_grow : MOK mu_X1_grow 2 := ⟨gw_1105, gw_167, (by decide +kernel : plainFor yX1_grow = true), ⟨(by decide +kernel : yX1_grow.cls ≠ "java/lang/invoke/MethodHandle"), (by decide +kernel : yX1_grow.cls ≠ "java/lang/invoke/VarHandle"), (by decide +kernel : (parseMethodDescriptor yX1_grow.desc).map (fun d => d.parameters.length) = some 2)⟩, Nat.le_of_ble_eq_true rfl⟩
noncomputable def j_X1_grow_90 (i2 : Int32) (σ5 : Mem) : Option ((Mem × Int32) ⊕ Mem) :=
  some (Sum.inl (σ5, i2 + 1))
noncomputable def l_X1_grow_38 (σ6 : Mem) (i7 : Int32) : Option ((Mem × Int32) ⊕ Mem) :=
  gF σ6 41 0 (fun (v8 : Int32) => if v8 ≤ i7 then (some (Sum.inr σ6)) else (gI σ6 42 i7 (fun (v9 : Int32) => if v9 = 1 then ((f_X1_growBy σ6 i7 1).bind (fun (σ10 : Mem) => (f_X1_growBy σ10 i7 (-1)).bind (fun (σ11 : Mem) => some (Sum.inl (σ11, i7 + 1))))) else (some (Sum.inr σ6)))))
noncomputable def l_X1_grow_2 (x1 : Int32) (σ1 : Mem) (i2 : Int32) : Option ((Mem × Int32) ⊕ Mem) :=
  if x1 ≤ i2 then (some (Sum.inr σ1)) else (gF σ1 128 6 (fun (v3 : Int32) => if 1000 < v3 then (some (Sum.inr σ1)) else (cL σ1 130 (i2 * 6) 132 0 6 (fun (σ4 : Mem) => (loopO (fun (z7 : (Mem × Int32)) => l_X1_grow_38 z7.1 z7.2) (σ4, 0) : Option Mem).bind (fun (z5 : Mem) => j_X1_grow_90 i2 z5)))))
noncomputable def f_X1_grow (σ : Mem) (x0 : Int32) (x1 : Int32) : Option Mem :=
  loopO (fun (z2 : (Mem × Int32)) => l_X1_grow_2 x1 z2.1 z2.2) (σ, x0)
theorem t_X1_grow {w : Wd} (hw : WOK w) {σ : Mem} {x0 : Int32} {x1 : Int32} : JO w mu_X1_grow vV σ [(0, .ref (adr w 128)), (1, .int x0), (2, .int x1)] [] 0 (f_X1_grow σ x0 x1) (fun z => some ((), z)) := by
  unfold f_X1_grow
  refine jo_iload_n (pc := 0) 1 rfl dX1_grow_0 rfl ?_
  refine jo_istore_n (pc := 1) (lv' := [(3, .int x0), (0, .ref (adr w 128)), (1, .int x0), (2, .int x1)]) dX1_grow_1 rfl (ltb rfl) rfl ?_
  refine jo_lv (lv' := [(0, .ref (adr w 128)), (2, .int x1), (3, .int x0)]) [1, 3, 0] rfl ?_
  refine jo_loop (X := Mem) (fun (z2 : (Mem × Int32)) => z2.1) (fun (z2 : (Mem × Int32)) => [(0, .ref (adr w 128)), (2, .int x1), (3, .int z2.2)]) (body := (fun (z2 : (Mem × Int32)) => l_X1_grow_2 x1 z2.1 z2.2)) (fun F2_2 hF2_2 s => ?_) (σ, x0)
  obtain ⟨σ1, i2⟩ := s
  show JO w mu_X1_grow vV σ1 [(0, .ref (adr w 128)), (2, .int x1), (3, .int i2)] [] 2 (l_X1_grow_2 x1 σ1 i2) _
  unfold l_X1_grow_2
  refine jo_iload_n (pc := 2) 2 rfl dX1_grow_2 rfl ?_
  refine jo_iload_n (pc := 3) 1 rfl dX1_grow_3 rfl ?_
  refine jo_icmp_ge (pc := 4) dX1_grow_4 (tgt := 96) rfl ?_ ?_
  · exact jo_return (pc := 96) rfl rfl dX1_grow_96
  · refine jo_aload_n (pc := 7) 0 rfl dX1_grow_7 rfl ?_
    refine jo_getf (pc := 8) ok_1_6 (ik_128 hw) gw_437 dX1_grow_8 (fun v3 => ?_)
    refine jo_sipush (pc := 11) dX1_grow_11 (ic_s_1000) ?_
    refine jo_icmp_gt (pc := 14) dX1_grow_14 (tgt := 96) rfl ?_ ?_
    · exact jo_return (pc := 96) rfl rfl dX1_grow_96
    · refine jo_aload_n (pc := 17) 0 rfl dX1_grow_17 rfl ?_
      refine jo_getrE (pc := 18) ok_1_4 (ik_128 hw) rf_128_4 gw_435 dX1_grow_18 ?_
      refine jo_iload_n (pc := 21) 2 rfl dX1_grow_21 rfl ?_
      refine jo_bipush (pc := 22) dX1_grow_22 (ic_b_6) ?_
      refine jo_imul (pc := 24) dX1_grow_24 ?_
      refine jo_aload_n (pc := 25) 0 rfl dX1_grow_25 rfl ?_
      refine jo_getrE (pc := 26) ok_1_7 (ik_128 hw) rf_128_7 gw_438 dX1_grow_26 ?_
      refine jo_iconst (pc := 29) dX1_grow_29 (ic_i_0) ?_
      refine jo_bipush (pc := 30) dX1_grow_30 (ic_b_6) ?_
      refine jo_acL (pc := 32) (ik_130 hw) (ik_132 hw) (all4 gw_1101 gw_547 gw_546 gw_170) (ltb rfl) (Nat.le_of_ble_eq_true rfl) dX1_grow_32 (fun σ4 => ?_)
      refine jo_iconst (pc := 35) dX1_grow_35 (ic_i_0) ?_
      refine jo_istore (pc := 36) (lv' := [(4, .int 0), (0, .ref (adr w 128)), (2, .int x1), (3, .int i2)]) dX1_grow_36 (ltb rfl) rfl ?_
      refine jo_join1 (S := Mem) (fun (z5 : Mem) => z5) (fun (z5 : Mem) => [(0, .ref (adr w 128)), (2, .int x1), (3, .int i2)]) (fun (z5 : Mem) => []) 90 ?_ (fun h90_5 => ?_)
      · intro σ5
        show JO w mu_X1_grow vV σ5 [(0, .ref (adr w 128)), (2, .int x1), (3, .int i2)] [] 90 (j_X1_grow_90 i2 σ5) _
        unfold j_X1_grow_90
        refine jo_iinc (pc := 90) (lv' := [(3, .int (i2 + 1)), (0, .ref (adr w 128)), (2, .int x1)]) 2 rfl dX1_grow_90 (congrArg (fun z => i2 + z) (ic_i_1)) (ltb rfl) rfl ?_
        refine jo_goto (pc := 93) dX1_grow_93 (tgt := 2) rfl ?_
        refine jo_lv (lv' := [(0, .ref (adr w 128)), (2, .int x1), (3, .int (i2 + 1))]) [1, 2, 0] rfl ?_
        exact jo_leaf (by rfl) (hF2_2 (σ5, i2 + 1))
      · refine jo_lv (lv' := [(0, .ref (adr w 128)), (2, .int x1), (3, .int i2), (4, .int 0)]) [1, 2, 3, 0] rfl ?_
        refine jo_loop (X := Mem) (fun (z7 : (Mem × Int32)) => z7.1) (fun (z7 : (Mem × Int32)) => [(0, .ref (adr w 128)), (2, .int x1), (3, .int i2), (4, .int z7.2)]) (body := (fun (z7 : (Mem × Int32)) => l_X1_grow_38 z7.1 z7.2)) (fun F38_7 hF38_7 s => ?_) (σ4, 0)
        obtain ⟨σ6, i7⟩ := s
        show JO w mu_X1_grow vV σ6 [(0, .ref (adr w 128)), (2, .int x1), (3, .int i2), (4, .int i7)] [] 38 (l_X1_grow_38 σ6 i7) _
        unfold l_X1_grow_38
        refine jo_iload (pc := 38) 3 rfl dX1_grow_38 ?_
        refine jo_aload_n (pc := 40) 0 rfl dX1_grow_40 rfl ?_
        refine jo_getrE (pc := 41) ok_1_0 (ik_128 hw) rf_128_0 gw_431 dX1_grow_41 ?_
        refine jo_getrE (pc := 44) ok_4_0 (ik_40 hw) rf_40_0 gw_301 dX1_grow_44 ?_
        refine jo_getf (pc := 47) ok_6_0 (ik_41 hw) gw_197 dX1_grow_47 (fun v8 => ?_)
        refine jo_icmp_ge (pc := 50) dX1_grow_50 (tgt := 90) rfl ?_ ?_
        · refine jo_lv (lv' := [(0, .ref (adr w 128)), (2, .int x1), (3, .int i2)]) [0, 1, 2] rfl ?_
          exact jo_leaf (by rfl) (h90_5 σ6)
        · refine jo_aload_n (pc := 53) 0 rfl dX1_grow_53 rfl ?_
          refine jo_getrE (pc := 54) ok_1_0 (ik_128 hw) rf_128_0 gw_431 dX1_grow_54 ?_
          refine jo_getrE (pc := 57) ok_4_0 (ik_40 hw) rf_40_0 gw_301 dX1_grow_57 ?_
          refine jo_getrE (pc := 60) ok_6_1 (ik_41 hw) rf_41_1 gw_202 dX1_grow_60 ?_
          refine jo_iload (pc := 63) 3 rfl dX1_grow_63 ?_
          refine jo_iald (pc := 65) (ik_42 hw) dX1_grow_65 (fun v9 => ?_)
          refine jo_iconst (pc := 66) dX1_grow_66 (ic_i_1) ?_
          refine jo_icmp_ne (pc := 67) dX1_grow_67 (tgt := 90) rfl ?_ ?_
          · refine jo_lv (lv' := [(0, .ref (adr w 128)), (2, .int x1), (3, .int i2)]) [0, 1, 2] rfl ?_
            exact jo_leaf (by rfl) (h90_5 σ6)
          · refine jo_aload_n (pc := 70) 0 rfl dX1_grow_70 rfl ?_
            refine jo_iload (pc := 71) 3 rfl dX1_grow_71 ?_
            refine jo_iconst (pc := 73) dX1_grow_73 (ic_i_1) ?_
            refine jo_cV_V_i (pc := 74) (μ' := mu_X1_growBy) (fx := f_X1_growBy σ6 i7 1) (As := [.int i7, .int 1]) (c_X1_growBy hw) (ok_X1_growBy) (ltb rfl) (all3 gw_1106 gw_1108 gw_43) (ik_128 hw) (by decide) (q := (RX1, TX1, 10)) rfl rfl rfl rfl (Nat.le_of_ble_eq_true rfl) dX1_grow_74 (fun σ10 => ?_)
            refine jo_aload_n (pc := 77) 0 rfl dX1_grow_77 rfl ?_
            refine jo_iload (pc := 78) 3 rfl dX1_grow_78 ?_
            refine jo_iconst (pc := 80) dX1_grow_80 (ic_i_m1) ?_
            refine jo_cV_V_i (pc := 81) (μ' := mu_X1_growBy) (fx := f_X1_growBy σ10 i7 (-1)) (As := [.int i7, .int (-1)]) (c_X1_growBy hw) (ok_X1_growBy) (ltb rfl) (all3 gw_1106 gw_1108 gw_43) (ik_128 hw) (by decide) (q := (RX1, TX1, 10)) rfl rfl rfl rfl (Nat.le_of_ble_eq_true rfl) dX1_grow_81 (fun σ11 => ?_)
            refine jo_iinc (pc := 84) (lv' := [(4, .int (i7 + 1)), (0, .ref (adr w 128)), (2, .int x1), (3, .int i2)]) 3 rfl dX1_grow_84 (congrArg (fun z => i7 + z) (ic_i_1)) (ltb rfl) rfl ?_
            refine jo_goto (pc := 87) dX1_grow_87 (tgt := 38) rfl ?_
            refine jo_lv (lv' := [(0, .ref (adr w 128)), (2, .int x1), (3, .int i2), (4, .int (i7 + 1))]) [1, 2, 3, 0] rfl ?_
            exact jo_leaf (by rfl) (hF38_7 (σ11, i7 + 1))
theorem c_X1_grow {w : Wd} (hw : WOK w) {σ : Mem} {x0 : Int32} {x1 : Int32} : ∀ σ', f_X1_grow σ x0 x1 = some σ' → MC w mu_X1_grow none [.ref (adr w 128), .int x0, .int x1] σ σ' := mc_ofV ok_X1_grow rfl (Nat.le_of_ble_eq_true rfl) (t_X1_grow hw)
abbrev mu_X1_find : MD := (yX1_find, cX1_find, 4, none, 5)
theorem ok_X1_find : MOK mu_X1_find 0 := ⟨gw_1085, gw_167, (by decide +kernel : plainFor yX1_find = true), ⟨(by decide +kernel : yX1_find.cls ≠ "java/lang/invoke/MethodHandle"), (by decide +kernel : yX1_find.cls ≠ "java/lang/invoke/VarHandle"), (by decide +kernel : (parseMethodDescriptor yX1_find.desc).map (fun d => d.parameters.length) = some 0)⟩, Nat.le_of_ble_eq_true rfl⟩
noncomputable def j_X1_find_104 (i13 : Int32) (v14 : Int32) (σ15 : Mem) (i17 : Int32) : Option ((Mem × Int32 × Int32) ⊕ Mem) :=
  pI σ15 129 i13 i17 (fun (σ18 : Mem) => some (Sum.inl (σ18, v14, i13 + 1)))
noncomputable def l_X1_find_65 (σ11 : Mem) (i12 : Int32) (i13 : Int32) : Option ((Mem × Int32 × Int32) ⊕ Mem) :=
  if 4 < i13 then (some (Sum.inr σ11)) else (gF σ11 128 6 (fun (v14 : Int32) => (f_X1_grow σ11 i12 v14).bind (fun (σ15 : Mem) => gF σ15 128 6 (fun (v16 : Int32) => (if v16 ≤ 1000 then (gF σ15 128 6 (fun (v19 : Int32) => some v19)) else (some (-1)) : Option Int32).bind (fun (z17 : Int32) => j_X1_find_104 i13 v14 σ15 z17)))))
noncomputable def f_X1_find (σ : Mem) : Option Mem :=
  gF σ 128 2 (fun (v1 : Int32) => gF σ 40 4 (fun (v2 : Int32) => if v1 = v2 then (some σ) else (gF σ 40 4 (fun (v3 : Int32) => pF σ 128 2 v3 (fun (σ4 : Mem) => (f_J7_fill_53178 σ4 131 0).bind (fun (σ5 : Mem) => pF σ5 128 6 0 (fun (σ6 : Mem) => (f_J7_fill_d0a16 σ6 134 0).bind (fun (σ7 : Mem) => (f_X1_keepMade σ7).bind (fun (σ8 : Mem) => gF σ8 128 6 (fun (v9 : Int32) => pI σ8 129 0 v9 (fun (σ10 : Mem) => loopO (fun (z13 : (Mem × Int32 × Int32)) => l_X1_find_65 z13.1 z13.2.1 z13.2.2) (σ10, 0, 1))))))))))))
theorem t_X1_find {w : Wd} (hw : WOK w) {σ : Mem} : JO w mu_X1_find vV σ [(0, .ref (adr w 128))] [] 0 (f_X1_find σ) (fun z => some ((), z)) := by
  unfold f_X1_find
  refine jo_aload_n (pc := 0) 0 rfl dX1_find_0 rfl ?_
  refine jo_getf (pc := 1) ok_1_2 (ik_128 hw) gw_433 dX1_find_1 (fun v1 => ?_)
  refine jo_aload_n (pc := 4) 0 rfl dX1_find_4 rfl ?_
  refine jo_getrE (pc := 5) ok_1_0 (ik_128 hw) rf_128_0 gw_431 dX1_find_5 ?_
  refine jo_getf (pc := 8) ok_4_4 (ik_40 hw) gw_310 dX1_find_8 (fun v2 => ?_)
  refine jo_icmp_ne (pc := 11) dX1_find_11 (tgt := 15) rfl ?_ ?_
  · refine jo_aload_n (pc := 15) 0 rfl dX1_find_15 rfl ?_
    refine jo_aload_n (pc := 16) 0 rfl dX1_find_16 rfl ?_
    refine jo_getrE (pc := 17) ok_1_0 (ik_128 hw) rf_128_0 gw_431 dX1_find_17 ?_
    refine jo_getf (pc := 20) ok_4_4 (ik_40 hw) gw_310 dX1_find_20 (fun v3 => ?_)
    refine jo_putf (pc := 23) ok_1_2 okp_1_2 (ik_128 hw) gw_433 dX1_find_23 (fun σ4 => ?_)
    refine jo_aload_n (pc := 26) 0 rfl dX1_find_26 rfl ?_
    refine jo_getrE (pc := 27) ok_1_5 (ik_128 hw) rf_128_5 gw_436 dX1_find_27 ?_
    refine jo_iconst (pc := 30) dX1_find_30 (ic_i_0) ?_
    refine jo_cS_V_i (pc := 31) (μ' := mu_J7_fill_53178) (fx := f_J7_fill_53178 σ4 131 0) (As := [.ref (adr w 131), .int 0]) (c_J7_fill_53178 hw (ik_131 hw)) (ok_J7_fill_53178) (ltb rfl) (all2 gw_1086 gw_521) rfl rfl (Nat.le_of_ble_eq_true rfl) dX1_find_31 (fun σ5 => ?_)
    refine jo_aload_n (pc := 34) 0 rfl dX1_find_34 rfl ?_
    refine jo_iconst (pc := 35) dX1_find_35 (ic_i_0) ?_
    refine jo_putf (pc := 36) ok_1_6 okp_1_6 (ik_128 hw) gw_437 dX1_find_36 (fun σ6 => ?_)
    refine jo_aload_n (pc := 39) 0 rfl dX1_find_39 rfl ?_
    refine jo_getrE (pc := 40) ok_1_9 (ik_128 hw) rf_128_9 gw_440 dX1_find_40 ?_
    refine jo_lconst (pc := 43) dX1_find_43 (ic_l_0) ?_
    refine jo_cS_V_i (pc := 44) (μ' := mu_J7_fill_d0a16) (fx := f_J7_fill_d0a16 σ6 134 0) (As := [.ref (adr w 134), .long 0]) (c_J7_fill_d0a16 hw (ik_134 hw)) (ok_J7_fill_d0a16) (ltb rfl) (all2 gw_1087 gw_715) rfl rfl (Nat.le_of_ble_eq_true rfl) dX1_find_44 (fun σ7 => ?_)
    refine jo_aload_n (pc := 47) 0 rfl dX1_find_47 rfl ?_
    refine jo_cV_V_i (pc := 48) (μ' := mu_X1_keepMade) (fx := f_X1_keepMade σ7) (As := []) (c_X1_keepMade hw) (ok_X1_keepMade) (ltb rfl) (all3 gw_1088 gw_1090 gw_39) (ik_128 hw) (by decide) (q := (RX1, TX1, 10)) rfl rfl rfl rfl (Nat.le_of_ble_eq_true rfl) dX1_find_48 (fun σ8 => ?_)
    refine jo_aload_n (pc := 51) 0 rfl dX1_find_51 rfl ?_
    refine jo_getrE (pc := 52) ok_1_3 (ik_128 hw) rf_128_3 gw_434 dX1_find_52 ?_
    refine jo_iconst (pc := 55) dX1_find_55 (ic_i_0) ?_
    refine jo_aload_n (pc := 56) 0 rfl dX1_find_56 rfl ?_
    refine jo_getf (pc := 57) ok_1_6 (ik_128 hw) gw_437 dX1_find_57 (fun v9 => ?_)
    refine jo_iast (pc := 60) (ik_129 hw) dX1_find_60 (fun σ10 => ?_)
    refine jo_iconst (pc := 61) dX1_find_61 (ic_i_0) ?_
    refine jo_istore_n (pc := 62) (lv' := [(1, .int 0), (0, .ref (adr w 128))]) dX1_find_62 rfl (ltb rfl) rfl ?_
    refine jo_iconst (pc := 63) dX1_find_63 (ic_i_1) ?_
    refine jo_istore_n (pc := 64) (lv' := [(2, .int 1), (1, .int 0), (0, .ref (adr w 128))]) dX1_find_64 rfl (ltb rfl) rfl ?_
    refine jo_lv (lv' := [(0, .ref (adr w 128)), (1, .int 0), (2, .int 1)]) [2, 1, 0] rfl ?_
    refine jo_loop (X := Mem) (fun (z13 : (Mem × Int32 × Int32)) => z13.1) (fun (z13 : (Mem × Int32 × Int32)) => [(0, .ref (adr w 128)), (1, .int z13.2.1), (2, .int z13.2.2)]) (body := (fun (z13 : (Mem × Int32 × Int32)) => l_X1_find_65 z13.1 z13.2.1 z13.2.2)) (fun F65_13 hF65_13 s => ?_) (σ10, 0, 1)
    obtain ⟨σ11, i12, i13⟩ := s
    show JO w mu_X1_find vV σ11 [(0, .ref (adr w 128)), (1, .int i12), (2, .int i13)] [] 65 (l_X1_find_65 σ11 i12 i13) _
    unfold l_X1_find_65
    refine jo_iload_n (pc := 65) 2 rfl dX1_find_65 rfl ?_
    refine jo_iconst (pc := 66) dX1_find_66 (ic_i_4) ?_
    refine jo_icmp_gt (pc := 67) dX1_find_67 (tgt := 113) rfl ?_ ?_
    · exact jo_return (pc := 113) rfl rfl dX1_find_113
    · refine jo_aload_n (pc := 70) 0 rfl dX1_find_70 rfl ?_
      refine jo_getf (pc := 71) ok_1_6 (ik_128 hw) gw_437 dX1_find_71 (fun v14 => ?_)
      refine jo_istore_n (pc := 74) (lv' := [(3, .int v14), (0, .ref (adr w 128)), (1, .int i12), (2, .int i13)]) dX1_find_74 rfl (ltb rfl) rfl ?_
      refine jo_aload_n (pc := 75) 1 rfl dX1_find_75 rfl ?_
      refine jo_iload_n (pc := 76) 2 rfl dX1_find_76 rfl ?_
      refine jo_iload_n (pc := 77) 0 rfl dX1_find_77 rfl ?_
      refine jo_cV_V_i (pc := 78) (μ' := mu_X1_grow) (fx := f_X1_grow σ11 i12 v14) (As := [.int i12, .int v14]) (c_X1_grow hw) (ok_X1_grow) (ltb rfl) (all3 gw_1102 gw_1104 gw_42) (ik_128 hw) (by decide) (q := (RX1, TX1, 10)) rfl rfl rfl rfl (Nat.le_of_ble_eq_true rfl) dX1_find_78 (fun σ15 => ?_)
      refine jo_aload_n (pc := 81) 1 rfl dX1_find_81 rfl ?_
      refine jo_getrE (pc := 82) ok_1_3 (ik_128 hw) rf_128_3 gw_434 dX1_find_82 ?_
      refine jo_iload_n (pc := 85) 3 rfl dX1_find_85 rfl ?_
      refine jo_aload_n (pc := 86) 1 rfl dX1_find_86 rfl ?_
      refine jo_getf (pc := 87) ok_1_6 (ik_128 hw) gw_437 dX1_find_87 (fun v16 => ?_)
      refine jo_sipush (pc := 90) dX1_find_90 (ic_s_1000) ?_
      refine jo_join1 (S := Int32) (fun (z17 : Int32) => σ15) (fun (z17 : Int32) => [(3, .int v14), (0, .ref (adr w 128)), (2, .int i13)]) (fun (z17 : Int32) => [.int z17, .int i13, .ref (adr w 129)]) 104 ?_ (fun h104_17 => ?_)
      · intro i17
        show JO w mu_X1_find vV σ15 [(3, .int v14), (0, .ref (adr w 128)), (2, .int i13)] [.int i17, .int i13, .ref (adr w 129)] 104 (j_X1_find_104 i13 v14 σ15 i17) _
        unfold j_X1_find_104
        refine jo_iast (pc := 104) (ik_129 hw) dX1_find_104 (fun σ18 => ?_)
        refine jo_iload_n (pc := 105) 0 rfl dX1_find_105 rfl ?_
        refine jo_istore_n (pc := 106) (lv' := [(1, .int v14), (3, .int v14), (0, .ref (adr w 128)), (2, .int i13)]) dX1_find_106 rfl (ltb rfl) rfl ?_
        refine jo_iinc (pc := 107) (lv' := [(2, .int (i13 + 1)), (1, .int v14), (3, .int v14), (0, .ref (adr w 128))]) 3 rfl dX1_find_107 (congrArg (fun z => i13 + z) (ic_i_1)) (ltb rfl) rfl ?_
        refine jo_goto (pc := 110) dX1_find_110 (tgt := 65) rfl ?_
        refine jo_lv (lv' := [(0, .ref (adr w 128)), (1, .int v14), (2, .int (i13 + 1))]) [3, 1, 0] rfl ?_
        exact jo_leaf (by rfl) (hF65_13 (σ18, v14, i13 + 1))
      · refine jo_icmp_le (pc := 93) dX1_find_93 (tgt := 100) rfl ?_ ?_
        · refine jo_aload_n (pc := 100) 1 rfl dX1_find_100 rfl ?_
          refine jo_getf (pc := 101) ok_1_6 (ik_128 hw) gw_437 dX1_find_101 (fun v19 => ?_)
          refine jo_lv (lv' := [(3, .int v14), (0, .ref (adr w 128)), (2, .int i13)]) [0, 1, 3] rfl ?_
          exact jo_leaf (by rfl) (h104_17 v19)
        · refine jo_iconst (pc := 96) dX1_find_96 (ic_i_m1) ?_
          refine jo_goto (pc := 97) dX1_find_97 (tgt := 104) rfl ?_
          refine jo_lv (lv' := [(3, .int v14), (0, .ref (adr w 128)), (2, .int i13)]) [0, 1, 3] rfl ?_
          exact jo_leaf (by rfl) (h104_17 (-1))
  · exact jo_return (pc := 14) rfl rfl dX1_find_14
theorem c_X1_find {w : Wd} (hw : WOK w) {σ : Mem} : ∀ σ', f_X1_find σ = some σ' → MC w mu_X1_find none [.ref (adr w 128)] σ σ' := mc_ofV ok_X1_find rfl (Nat.le_of_ble_eq_true rfl) (t_X1_find hw)
abbrev mu_X1_sizeOf : MD := (yX1_sizeOf, cX1_sizeOf, 2, some .int, 6)
theorem ok_X1_sizeOf : MOK mu_X1_sizeOf 1 := ⟨gw_1239, gw_167, (by decide +kernel : plainFor yX1_sizeOf = true), ⟨(by decide +kernel : yX1_sizeOf.cls ≠ "java/lang/invoke/MethodHandle"), (by decide +kernel : yX1_sizeOf.cls ≠ "java/lang/invoke/VarHandle"), (by decide +kernel : (parseMethodDescriptor yX1_sizeOf.desc).map (fun d => d.parameters.length) = some 1)⟩, Nat.le_of_ble_eq_true rfl⟩
noncomputable def j_X1_sizeOf_22 (σ1 : Mem) : Option (Int32 × Mem) :=
  some ((-1), σ1)
noncomputable def f_X1_sizeOf (σ : Mem) (x0 : Int32) : Option (Int32 × Mem) :=
  (f_X1_find σ).bind (fun (σ1 : Mem) => (if x0 < 0 then (some (Sum.inl ())) else (if 4 < x0 then (some (Sum.inl ())) else (gI σ1 129 x0 (fun (v2 : Int32) => some (Sum.inr (v2, σ1))))) : Option (Unit ⊕ (Int32 × Mem))).bind (Sum.elim (fun (z1 : Unit) => j_X1_sizeOf_22 σ1) some))
theorem t_X1_sizeOf {w : Wd} (hw : WOK w) {σ : Mem} {x0 : Int32} : JO w mu_X1_sizeOf vI σ [(0, .ref (adr w 128)), (1, .int x0)] [] 0 (f_X1_sizeOf σ x0) some := by
  unfold f_X1_sizeOf
  refine jo_aload_n (pc := 0) 0 rfl dX1_sizeOf_0 rfl ?_
  refine jo_cV_V_i (pc := 1) (μ' := mu_X1_find) (fx := f_X1_find σ) (As := []) (c_X1_find hw) (ok_X1_find) (ltb rfl) (all3 gw_1082 gw_1084 gw_38) (ik_128 hw) (by decide) (q := (RX1, TX1, 10)) rfl rfl rfl rfl (Nat.le_of_ble_eq_true rfl) dX1_sizeOf_1 (fun σ1 => ?_)
  refine jo_iload_n (pc := 4) 1 rfl dX1_sizeOf_4 rfl ?_
  refine jo_joinS (S := Unit) (fun (z1 : Unit) => σ1) (fun (z1 : Unit) => []) (fun (z1 : Unit) => []) 22 ?_ (fun h22_1 => ?_)
  · intro _
    show JO w mu_X1_sizeOf vI σ1 [] [] 22 (j_X1_sizeOf_22 σ1) _
    unfold j_X1_sizeOf_22
    refine jo_iconst (pc := 22) dX1_sizeOf_22 (ic_i_m1) ?_
    exact jo_ireturn (pc := 23) rfl rfl dX1_sizeOf_23
  · refine jo_if_lt (pc := 5) dX1_sizeOf_5 (tgt := 22) rfl ?_ ?_
    · refine jo_lv (lv' := []) [] rfl ?_
      exact jo_leaf (by rfl) (h22_1 ())
    · refine jo_iload_n (pc := 8) 1 rfl dX1_sizeOf_8 rfl ?_
      refine jo_iconst (pc := 9) dX1_sizeOf_9 (ic_i_4) ?_
      refine jo_icmp_gt (pc := 10) dX1_sizeOf_10 (tgt := 22) rfl ?_ ?_
      · refine jo_lv (lv' := []) [] rfl ?_
        exact jo_leaf (by rfl) (h22_1 ())
      · refine jo_aload_n (pc := 13) 0 rfl dX1_sizeOf_13 rfl ?_
        refine jo_getrE (pc := 14) ok_1_3 (ik_128 hw) rf_128_3 gw_434 dX1_sizeOf_14 ?_
        refine jo_iload_n (pc := 17) 1 rfl dX1_sizeOf_17 rfl ?_
        refine jo_iald (pc := 18) (ik_129 hw) dX1_sizeOf_18 (fun v2 => ?_)
        refine jo_goto (pc := 19) dX1_sizeOf_19 (tgt := 23) rfl ?_
        exact jo_ireturn (pc := 23) rfl rfl dX1_sizeOf_23
theorem c_X1_sizeOf {w : Wd} (hw : WOK w) {σ : Mem} {x0 : Int32} : ∀ r σ', f_X1_sizeOf σ x0 = some (r, σ') → MC w mu_X1_sizeOf (vI r) [.ref (adr w 128), .int x0] σ σ' := mc_of ok_X1_sizeOf rfl (Nat.le_of_ble_eq_true rfl) (t_X1_sizeOf hw)
abbrev mu_X1_levelOf : MD := (yX1_levelOf, cX1_levelOf, 4, some .int, 6)
theorem ok_X1_levelOf : MOK mu_X1_levelOf 1 := ⟨gw_1081, gw_167, (by decide +kernel : plainFor yX1_levelOf = true), ⟨(by decide +kernel : yX1_levelOf.cls ≠ "java/lang/invoke/MethodHandle"), (by decide +kernel : yX1_levelOf.cls ≠ "java/lang/invoke/VarHandle"), (by decide +kernel : (parseMethodDescriptor yX1_levelOf.desc).map (fun d => d.parameters.length) = some 1)⟩, Nat.le_of_ble_eq_true rfl⟩
noncomputable def l_X1_levelOf_19 (σ1 : Mem) (v4 : Int32) (i5 : Int32) : Option (Int32 ⊕ (Int32 × Mem)) :=
  if 4 < i5 then (some (Sum.inr ((-1), σ1))) else (if v4 < 0 then (some (Sum.inr ((-1), σ1))) else (gI σ1 129 i5 (fun (v6 : Int32) => if v6 = (-1) then (some (Sum.inr ((-1), σ1))) else (gI σ1 129 i5 (fun (v7 : Int32) => if v7 ≤ v4 then (some (Sum.inl (i5 + 1))) else (some (Sum.inr (i5, σ1))))))))
noncomputable def f_X1_levelOf (σ : Mem) (x0 : Nat) : Option (Int32 × Mem) :=
  (f_X1_find σ).bind (fun (σ1 : Mem) => (f_X1_slotOf σ1 x0).bind (fun (v2 : Int32) => gI σ1 131 v2 (fun (v3 : Int32) => bd (v3 - 1) (fun (v4 : Int32) => loopO (fun (z5 : Int32) => l_X1_levelOf_19 σ1 v4 z5) 0))))
theorem t_X1_levelOf {w : Wd} (hw : WOK w) {σ : Mem} {x0 : Nat} (hx0 : isk w x0 13) : JO w mu_X1_levelOf vI σ [(0, .ref (adr w 128)), (1, .ref (adr w x0))] [] 0 (f_X1_levelOf σ x0) some := by
  unfold f_X1_levelOf
  refine jo_aload_n (pc := 0) 0 rfl dX1_levelOf_0 rfl ?_
  refine jo_cV_V_i (pc := 1) (μ' := mu_X1_find) (fx := f_X1_find σ) (As := []) (c_X1_find hw) (ok_X1_find) (ltb rfl) (all3 gw_1082 gw_1084 gw_38) (ik_128 hw) (by decide) (q := (RX1, TX1, 10)) rfl rfl rfl rfl (Nat.le_of_ble_eq_true rfl) dX1_levelOf_1 (fun σ1 => ?_)
  refine jo_aload_n (pc := 4) 0 rfl dX1_levelOf_4 rfl ?_
  refine jo_getrE (pc := 5) ok_1_5 (ik_128 hw) rf_128_5 gw_436 dX1_levelOf_5 ?_
  refine jo_aload_n (pc := 8) 0 rfl dX1_levelOf_8 rfl ?_
  refine jo_aload_n (pc := 9) 1 rfl dX1_levelOf_9 rfl ?_
  refine jo_cV_I_p (pc := 10) (μ' := mu_X1_slotOf) (fx := f_X1_slotOf σ1 x0) (As := [.ref (adr w x0)]) (c_X1_slotOf hw (hx0)) (ok_X1_slotOf) (ltb rfl) (all3 gw_1092 gw_1094 gw_40) (ik_128 hw) (by decide) (q := (RX1, TX1, 10)) rfl rfl rfl rfl (Nat.le_of_ble_eq_true rfl) dX1_levelOf_10 (fun v2 => ?_)
  refine jo_iald (pc := 13) (ik_131 hw) dX1_levelOf_13 (fun v3 => ?_)
  refine jo_iconst (pc := 14) dX1_levelOf_14 (ic_i_1) ?_
  refine jo_isub (pc := 15) dX1_levelOf_15 ?_
  refine jo_bd ?_
  refine jo_istore_n (pc := 16) (lv' := [(2, .int (v3 - 1)), (0, .ref (adr w 128)), (1, .ref (adr w x0))]) dX1_levelOf_16 rfl (ltb rfl) rfl ?_
  generalize (v3 - 1) = v4
  refine jo_iconst (pc := 17) dX1_levelOf_17 (ic_i_0) ?_
  refine jo_istore_n (pc := 18) (lv' := [(3, .int 0), (2, .int v4), (0, .ref (adr w 128)), (1, .ref (adr w x0))]) dX1_levelOf_18 rfl (ltb rfl) rfl ?_
  refine jo_lv (lv' := [(2, .int v4), (0, .ref (adr w 128)), (3, .int 0)]) [1, 2, 0] rfl ?_
  refine jo_loop (X := (Int32 × Mem)) (fun (z5 : Int32) => σ1) (fun (z5 : Int32) => [(2, .int v4), (0, .ref (adr w 128)), (3, .int z5)]) (body := (fun (z5 : Int32) => l_X1_levelOf_19 σ1 v4 z5)) (fun F19_5 hF19_5 s => ?_) 0
  revert s; intro i5
  show JO w mu_X1_levelOf vI σ1 [(2, .int v4), (0, .ref (adr w 128)), (3, .int i5)] [] 19 (l_X1_levelOf_19 σ1 v4 i5) _
  unfold l_X1_levelOf_19
  refine jo_iload_n (pc := 19) 2 rfl dX1_levelOf_19 rfl ?_
  refine jo_iconst (pc := 20) dX1_levelOf_20 (ic_i_4) ?_
  refine jo_icmp_gt (pc := 21) dX1_levelOf_21 (tgt := 56) rfl ?_ ?_
  · refine jo_iconst (pc := 56) dX1_levelOf_56 (ic_i_m1) ?_
    exact jo_ireturn (pc := 57) rfl rfl dX1_levelOf_57
  · refine jo_iload_n (pc := 24) 0 rfl dX1_levelOf_24 rfl ?_
    refine jo_if_lt (pc := 25) dX1_levelOf_25 (tgt := 56) rfl ?_ ?_
    · refine jo_iconst (pc := 56) dX1_levelOf_56 (ic_i_m1) ?_
      exact jo_ireturn (pc := 57) rfl rfl dX1_levelOf_57
    · refine jo_aload_n (pc := 28) 1 rfl dX1_levelOf_28 rfl ?_
      refine jo_getrE (pc := 29) ok_1_3 (ik_128 hw) rf_128_3 gw_434 dX1_levelOf_29 ?_
      refine jo_iload_n (pc := 32) 2 rfl dX1_levelOf_32 rfl ?_
      refine jo_iald (pc := 33) (ik_129 hw) dX1_levelOf_33 (fun v6 => ?_)
      refine jo_iconst (pc := 34) dX1_levelOf_34 (ic_i_m1) ?_
      refine jo_icmp_eq (pc := 35) dX1_levelOf_35 (tgt := 56) rfl ?_ ?_
      · refine jo_iconst (pc := 56) dX1_levelOf_56 (ic_i_m1) ?_
        exact jo_ireturn (pc := 57) rfl rfl dX1_levelOf_57
      · refine jo_iload_n (pc := 38) 0 rfl dX1_levelOf_38 rfl ?_
        refine jo_aload_n (pc := 39) 1 rfl dX1_levelOf_39 rfl ?_
        refine jo_getrE (pc := 40) ok_1_3 (ik_128 hw) rf_128_3 gw_434 dX1_levelOf_40 ?_
        refine jo_iload_n (pc := 43) 2 rfl dX1_levelOf_43 rfl ?_
        refine jo_iald (pc := 44) (ik_129 hw) dX1_levelOf_44 (fun v7 => ?_)
        refine jo_icmp_ge (pc := 45) dX1_levelOf_45 (tgt := 50) rfl ?_ ?_
        · refine jo_iinc (pc := 50) (lv' := [(3, .int (i5 + 1)), (2, .int v4), (0, .ref (adr w 128))]) 2 rfl dX1_levelOf_50 (congrArg (fun z => i5 + z) (ic_i_1)) (ltb rfl) rfl ?_
          refine jo_goto (pc := 53) dX1_levelOf_53 (tgt := 19) rfl ?_
          refine jo_lv (lv' := [(2, .int v4), (0, .ref (adr w 128)), (3, .int (i5 + 1))]) [1, 2, 0] rfl ?_
          exact jo_leaf (by rfl) (hF19_5 (i5 + 1))
        · refine jo_iload_n (pc := 48) 2 rfl dX1_levelOf_48 rfl ?_
          exact jo_ireturn (pc := 49) rfl rfl dX1_levelOf_49
theorem c_X1_levelOf {w : Wd} (hw : WOK w) {σ : Mem} {x0 : Nat} (hx0 : isk w x0 13) : ∀ r σ', f_X1_levelOf σ x0 = some (r, σ') → MC w mu_X1_levelOf (vI r) [.ref (adr w 128), .ref (adr w x0)] σ σ' := mc_of ok_X1_levelOf rfl (Nat.le_of_ble_eq_true rfl) (t_X1_levelOf hw hx0)
abbrev mu_X2_begin : MD := (yX2_begin, cX2_begin, 1, none, 0)
theorem ok_X2_begin : MOK mu_X2_begin 0 := ⟨gw_559, gw_161, (by decide +kernel : plainFor yX2_begin = true), ⟨(by decide +kernel : yX2_begin.cls ≠ "java/lang/invoke/MethodHandle"), (by decide +kernel : yX2_begin.cls ≠ "java/lang/invoke/VarHandle"), (by decide +kernel : (parseMethodDescriptor yX2_begin.desc).map (fun d => d.parameters.length) = some 0)⟩, Nat.le_of_ble_eq_true rfl⟩
noncomputable def f_X2_begin (σ : Mem) : Option Mem :=
  pF σ 35 1 0 (fun (σ1 : Mem) => some σ1)
theorem t_X2_begin {w : Wd} (hw : WOK w) {σ : Mem} : JO w mu_X2_begin vV σ [(0, .ref (adr w 35))] [] 0 (f_X2_begin σ) (fun z => some ((), z)) := by
  unfold f_X2_begin
  refine jo_aload_n (pc := 0) 0 rfl dX2_begin_0 rfl ?_
  refine jo_iconst (pc := 1) dX2_begin_1 (ic_i_0) ?_
  refine jo_putf (pc := 2) ok_2_1 okp_2_1 (ik_35 hw) gw_241 dX2_begin_2 (fun σ1 => ?_)
  exact jo_return (pc := 5) rfl rfl dX2_begin_5
theorem c_X2_begin {w : Wd} (hw : WOK w) {σ : Mem} : ∀ σ', f_X2_begin σ = some σ' → MC w mu_X2_begin none [.ref (adr w 35)] σ σ' := mc_ofV ok_X2_begin rfl (Nat.le_of_ble_eq_true rfl) (t_X2_begin hw)
abbrev mu_X2_add : MD := (yX2_add, cX2_add, 2, none, 0)
theorem ok_X2_add : MOK mu_X2_add 1 := ⟨gw_563, gw_161, (by decide +kernel : plainFor yX2_add = true), ⟨(by decide +kernel : yX2_add.cls ≠ "java/lang/invoke/MethodHandle"), (by decide +kernel : yX2_add.cls ≠ "java/lang/invoke/VarHandle"), (by decide +kernel : (parseMethodDescriptor yX2_add.desc).map (fun d => d.parameters.length) = some 1)⟩, Nat.le_of_ble_eq_true rfl⟩
noncomputable def f_X2_add (σ : Mem) (x0 : Int32) : Option Mem :=
  gF σ 35 1 (fun (v1 : Int32) => if 64 ≤ v1 then (some σ) else (if x0 < 0 then (some σ) else (if 6 ≤ x0 then (some σ) else (gF σ 35 1 (fun (v2 : Int32) => pI σ 36 v2 x0 (fun (σ3 : Mem) => gF σ3 35 1 (fun (v4 : Int32) => pF σ3 35 1 (v4 + 1) (fun (σ5 : Mem) => some σ5))))))))
theorem t_X2_add {w : Wd} (hw : WOK w) {σ : Mem} {x0 : Int32} : JO w mu_X2_add vV σ [(0, .ref (adr w 35)), (1, .int x0)] [] 0 (f_X2_add σ x0) (fun z => some ((), z)) := by
  unfold f_X2_add
  refine jo_aload_n (pc := 0) 0 rfl dX2_add_0 rfl ?_
  refine jo_getf (pc := 1) ok_2_1 (ik_35 hw) gw_241 dX2_add_1 (fun v1 => ?_)
  refine jo_bipush (pc := 4) dX2_add_4 (ic_b_64) ?_
  refine jo_icmp_ge (pc := 6) dX2_add_6 (tgt := 39) rfl ?_ ?_
  · exact jo_return (pc := 39) rfl rfl dX2_add_39
  · refine jo_iload_n (pc := 9) 1 rfl dX2_add_9 rfl ?_
    refine jo_if_lt (pc := 10) dX2_add_10 (tgt := 39) rfl ?_ ?_
    · exact jo_return (pc := 39) rfl rfl dX2_add_39
    · refine jo_iload_n (pc := 13) 1 rfl dX2_add_13 rfl ?_
      refine jo_bipush (pc := 14) dX2_add_14 (ic_b_6) ?_
      refine jo_icmp_ge (pc := 16) dX2_add_16 (tgt := 39) rfl ?_ ?_
      · exact jo_return (pc := 39) rfl rfl dX2_add_39
      · refine jo_aload_n (pc := 19) 0 rfl dX2_add_19 rfl ?_
        refine jo_getrE (pc := 20) ok_2_0 (ik_35 hw) rf_35_0 gw_240 dX2_add_20 ?_
        refine jo_aload_n (pc := 23) 0 rfl dX2_add_23 rfl ?_
        refine jo_getf (pc := 24) ok_2_1 (ik_35 hw) gw_241 dX2_add_24 (fun v2 => ?_)
        refine jo_iload_n (pc := 27) 1 rfl dX2_add_27 rfl ?_
        refine jo_iast (pc := 28) (ik_36 hw) dX2_add_28 (fun σ3 => ?_)
        refine jo_aload_n (pc := 29) 0 rfl dX2_add_29 rfl ?_
        refine jo_dup (pc := 30) dX2_add_30 rfl ?_
        refine jo_getf (pc := 31) ok_2_1 (ik_35 hw) gw_241 dX2_add_31 (fun v4 => ?_)
        refine jo_iconst (pc := 34) dX2_add_34 (ic_i_1) ?_
        refine jo_iadd (pc := 35) dX2_add_35 ?_
        refine jo_putf (pc := 36) ok_2_1 okp_2_1 (ik_35 hw) gw_241 dX2_add_36 (fun σ5 => ?_)
        exact jo_return (pc := 39) rfl rfl dX2_add_39
theorem c_X2_add {w : Wd} (hw : WOK w) {σ : Mem} {x0 : Int32} : ∀ σ', f_X2_add σ x0 = some σ' → MC w mu_X2_add none [.ref (adr w 35), .int x0] σ σ' := mc_ofV ok_X2_add rfl (Nat.le_of_ble_eq_true rfl) (t_X2_add hw)
abbrev mu_X6_isTail : MD := (yX6_isTail, cX6_isTail, 4, some .boolean, 0)
theorem ok_X6_isTail : MOK mu_X6_isTail 3 := ⟨gw_532, gw_160, (by decide +kernel : plainFor yX6_isTail = true), ⟨(by decide +kernel : yX6_isTail.cls ≠ "java/lang/invoke/MethodHandle"), (by decide +kernel : yX6_isTail.cls ≠ "java/lang/invoke/VarHandle"), (by decide +kernel : (parseMethodDescriptor yX6_isTail.desc).map (fun d => d.parameters.length) = some 3)⟩, Nat.le_of_ble_eq_true rfl⟩
noncomputable def j_X6_isTail_26  : Option Bool :=
  some false
noncomputable def f_X6_isTail (σ : Mem) (a : Nat) (x0 : Int32) (x1 : Int32) (x2 : Int32) : Option Bool :=
  (if x1 < 0 then (some (Sum.inl ())) else (if x0 ≤ x1 then (some (Sum.inl ())) else (if x2 ≤ x0 then (some (Sum.inl ())) else (gF σ a 0 (fun (v1 : Int32) => if v1 ≤ x2 then (some (Sum.inl ())) else (some (Sum.inr true)))))) : Option (Unit ⊕ Bool)).bind (Sum.elim (fun (z0 : Unit) => j_X6_isTail_26) some)
theorem t_X6_isTail {w : Wd} (hw : WOK w) {σ : Mem} {a : Nat} {x0 : Int32} {x1 : Int32} {x2 : Int32} (ha : isk w a 6) : JO w mu_X6_isTail vB σ [(0, .ref (adr w a)), (1, .int x0), (2, .int x1), (3, .int x2)] [] 0 (f_X6_isTail σ a x0 x1 x2) (fun z => some (z, σ)) := by
  unfold f_X6_isTail
  refine jo_iload_n (pc := 0) 2 rfl dX6_isTail_0 rfl ?_
  refine jo_joinS (S := Unit) (fun (z0 : Unit) => σ) (fun (z0 : Unit) => []) (fun (z0 : Unit) => []) 26 ?_ (fun h26_0 => ?_)
  · intro _
    show JO w mu_X6_isTail vB σ [] [] 26 (j_X6_isTail_26) _
    unfold j_X6_isTail_26
    refine jo_iconst (pc := 26) dX6_isTail_26 (ic_i_0) ?_
    exact jo_breturn (pc := 27) (b := false) rfl rfl dX6_isTail_27
  · refine jo_if_lt (pc := 1) dX6_isTail_1 (tgt := 26) rfl ?_ ?_
    · refine jo_lv (lv' := []) [] rfl ?_
      exact jo_leaf (by rfl) (h26_0 ())
    · refine jo_iload_n (pc := 4) 1 rfl dX6_isTail_4 rfl ?_
      refine jo_iload_n (pc := 5) 2 rfl dX6_isTail_5 rfl ?_
      refine jo_icmp_le (pc := 6) dX6_isTail_6 (tgt := 26) rfl ?_ ?_
      · refine jo_lv (lv' := []) [] rfl ?_
        exact jo_leaf (by rfl) (h26_0 ())
      · refine jo_iload_n (pc := 9) 3 rfl dX6_isTail_9 rfl ?_
        refine jo_iload_n (pc := 10) 1 rfl dX6_isTail_10 rfl ?_
        refine jo_icmp_le (pc := 11) dX6_isTail_11 (tgt := 26) rfl ?_ ?_
        · refine jo_lv (lv' := []) [] rfl ?_
          exact jo_leaf (by rfl) (h26_0 ())
        · refine jo_iload_n (pc := 14) 3 rfl dX6_isTail_14 rfl ?_
          refine jo_aload_n (pc := 15) 0 rfl dX6_isTail_15 rfl ?_
          refine jo_getf (pc := 16) ok_6_0 (ha) gw_193 dX6_isTail_16 (fun v1 => ?_)
          refine jo_icmp_ge (pc := 19) dX6_isTail_19 (tgt := 26) rfl ?_ ?_
          · refine jo_lv (lv' := []) [] rfl ?_
            exact jo_leaf (by rfl) (h26_0 ())
          · refine jo_iconst (pc := 22) dX6_isTail_22 (ic_i_1) ?_
            refine jo_goto (pc := 23) dX6_isTail_23 (tgt := 27) rfl ?_
            exact jo_breturn (pc := 27) (b := true) rfl rfl dX6_isTail_27
theorem c_X6_isTail {w : Wd} (hw : WOK w) {σ : Mem} {a : Nat} {x0 : Int32} {x1 : Int32} {x2 : Int32} (ha : isk w a 6) : ∀ r, f_X6_isTail σ a x0 x1 x2 = some r → MC w mu_X6_isTail (vB r) [.ref (adr w a), .int x0, .int x1, .int x2] σ σ := mc_ofP ok_X6_isTail rfl (Nat.le_of_ble_eq_true rfl) (t_X6_isTail hw ha)
abbrev mu_X6_read : MD := (yX6_read, cX6_read, 4, some .int, 1)
theorem ok_X6_read : MOK mu_X6_read 3 := ⟨gw_571, gw_160, (by decide +kernel : plainFor yX6_read = true), ⟨(by decide +kernel : yX6_read.cls ≠ "java/lang/invoke/MethodHandle"), (by decide +kernel : yX6_read.cls ≠ "java/lang/invoke/VarHandle"), (by decide +kernel : (parseMethodDescriptor yX6_read.desc).map (fun d => d.parameters.length) = some 3)⟩, Nat.le_of_ble_eq_true rfl⟩
noncomputable def f_X6_read (σ : Mem) (a : Nat) (x0 : Int32) (x1 : Int32) (x2 : Int32) : Option Int32 :=
  (f_X6_isTail σ a x0 x1 x2).bind (fun (b1 : Bool) => if b1 then gI σ (rf a 2) ((((x0 * 6) + x1) * 6) + x2) (fun (v2 : Int32) => some v2) else some 0)
theorem t_X6_read {w : Wd} (hw : WOK w) {σ : Mem} {a : Nat} {x0 : Int32} {x1 : Int32} {x2 : Int32} (ha : isk w a 6) : JO w mu_X6_read vI σ [(0, .ref (adr w a)), (1, .int x0), (2, .int x1), (3, .int x2)] [] 0 (f_X6_read σ a x0 x1 x2) (fun z => some (z, σ)) := by
  unfold f_X6_read
  refine jo_aload_n (pc := 0) 0 rfl dX6_read_0 rfl ?_
  refine jo_iload_n (pc := 1) 1 rfl dX6_read_1 rfl ?_
  refine jo_iload_n (pc := 2) 2 rfl dX6_read_2 rfl ?_
  refine jo_iload_n (pc := 3) 3 rfl dX6_read_3 rfl ?_
  refine jo_cV_Z_p (pc := 4) (μ' := mu_X6_isTail) (fx := f_X6_isTail σ a x0 x1 x2) (As := [.int x0, .int x1, .int x2]) (c_X6_isTail hw (ha)) (ok_X6_isTail) (ltb rfl) (all3 gw_529 gw_530 gw_531) (ha) (by decide) (q := (RX6, TX6, 3)) rfl rfl rfl rfl (Nat.le_of_ble_eq_true rfl) dX6_read_4 (fun b1 => ?_)
  refine jo_ifz_eq (pc := 7) dX6_read_7 (tgt := 29) rfl ?_ ?_
  · refine jo_iconst (pc := 29) dX6_read_29 (ic_i_0) ?_
    exact jo_ireturn (pc := 30) rfl rfl dX6_read_30
  · refine jo_aload_n (pc := 10) 0 rfl dX6_read_10 rfl ?_
    refine jo_getr (pc := 11) ok_6_2 (ha) gw_206 dX6_read_11 ?_
    refine jo_iload_n (pc := 14) 1 rfl dX6_read_14 rfl ?_
    refine jo_bipush (pc := 15) dX6_read_15 (ic_b_6) ?_
    refine jo_imul (pc := 17) dX6_read_17 ?_
    refine jo_iload_n (pc := 18) 2 rfl dX6_read_18 rfl ?_
    refine jo_iadd (pc := 19) dX6_read_19 ?_
    refine jo_bipush (pc := 20) dX6_read_20 (ic_b_6) ?_
    refine jo_imul (pc := 22) dX6_read_22 ?_
    refine jo_iload_n (pc := 23) 3 rfl dX6_read_23 rfl ?_
    refine jo_iadd (pc := 24) dX6_read_24 ?_
    refine jo_iald (pc := 25) (wf_6_2 hw (ha)) dX6_read_25 (fun v2 => ?_)
    refine jo_goto (pc := 26) dX6_read_26 (tgt := 30) rfl ?_
    exact jo_ireturn (pc := 30) rfl rfl dX6_read_30
theorem c_X6_read {w : Wd} (hw : WOK w) {σ : Mem} {a : Nat} {x0 : Int32} {x1 : Int32} {x2 : Int32} (ha : isk w a 6) : ∀ r, f_X6_read σ a x0 x1 x2 = some r → MC w mu_X6_read (vI r) [.ref (adr w a), .int x0, .int x1, .int x2] σ σ := mc_ofP ok_X6_read rfl (Nat.le_of_ble_eq_true rfl) (t_X6_read hw ha)
abbrev mu_X2_addTails : MD := (yX2_addTails, cX2_addTails, 6, none, 2)
theorem ok_X2_addTails : MOK mu_X2_addTails 3 := ⟨gw_567, gw_161, (by decide +kernel : plainFor yX2_addTails = true), ⟨(by decide +kernel : yX2_addTails.cls ≠ "java/lang/invoke/MethodHandle"), (by decide +kernel : yX2_addTails.cls ≠ "java/lang/invoke/VarHandle"), (by decide +kernel : (parseMethodDescriptor yX2_addTails.desc).map (fun d => d.parameters.length) = some 3)⟩, Nat.le_of_ble_eq_true rfl⟩
noncomputable def j_X2_addTails_41 (i3 : Int32) (σ6 : Mem) : Option ((Mem × Int32) ⊕ Mem) :=
  some (Sum.inl (σ6, i3 + 1))
noncomputable def l_X2_addTails_24 (i3 : Int32) (σ7 : Mem) (i8 : Int32) : Option ((Mem × Int32) ⊕ Mem) :=
  if i8 ≤ 0 then (some (Sum.inr σ7)) else ((f_X2_add σ7 i3).bind (fun (σ9 : Mem) => some (Sum.inl (σ9, i8 + (-1)))))
noncomputable def l_X2_addTails_5 (x0 : Nat) (x1 : Int32) (x2 : Int32) (σ2 : Mem) (i3 : Int32) : Option ((Mem × Int32) ⊕ Mem) :=
  gF σ2 x0 0 (fun (v4 : Int32) => if v4 ≤ i3 then (some (Sum.inr σ2)) else ((f_X6_read σ2 x0 x1 x2 i3).bind (fun (v5 : Int32) => (loopO (fun (z8 : (Mem × Int32)) => l_X2_addTails_24 i3 z8.1 z8.2) (σ2, v5) : Option Mem).bind (fun (z6 : Mem) => j_X2_addTails_41 i3 z6))))
noncomputable def f_X2_addTails (σ : Mem) (x0 : Nat) (x1 : Int32) (x2 : Int32) : Option Mem :=
  bd (x1 + 1) (fun (v1 : Int32) => loopO (fun (z3 : (Mem × Int32)) => l_X2_addTails_5 x0 x1 x2 z3.1 z3.2) (σ, v1))
theorem t_X2_addTails {w : Wd} (hw : WOK w) {σ : Mem} {x0 : Nat} {x1 : Int32} {x2 : Int32} (hx0 : isk w x0 6) : JO w mu_X2_addTails vV σ [(0, .ref (adr w 35)), (1, .ref (adr w x0)), (2, .int x1), (3, .int x2)] [] 0 (f_X2_addTails σ x0 x1 x2) (fun z => some ((), z)) := by
  unfold f_X2_addTails
  refine jo_iload_n (pc := 0) 2 rfl dX2_addTails_0 rfl ?_
  refine jo_iconst (pc := 1) dX2_addTails_1 (ic_i_1) ?_
  refine jo_iadd (pc := 2) dX2_addTails_2 ?_
  refine jo_bd ?_
  refine jo_istore (pc := 3) (lv' := [(4, .int (x1 + 1)), (0, .ref (adr w 35)), (1, .ref (adr w x0)), (2, .int x1), (3, .int x2)]) dX2_addTails_3 (ltb rfl) rfl ?_
  generalize (x1 + 1) = v1
  refine jo_lv (lv' := [(0, .ref (adr w 35)), (1, .ref (adr w x0)), (2, .int x1), (3, .int x2), (4, .int v1)]) [1, 2, 3, 4, 0] rfl ?_
  refine jo_loop (X := Mem) (fun (z3 : (Mem × Int32)) => z3.1) (fun (z3 : (Mem × Int32)) => [(0, .ref (adr w 35)), (1, .ref (adr w x0)), (2, .int x1), (3, .int x2), (4, .int z3.2)]) (body := (fun (z3 : (Mem × Int32)) => l_X2_addTails_5 x0 x1 x2 z3.1 z3.2)) (fun F5_3 hF5_3 s => ?_) (σ, v1)
  obtain ⟨σ2, i3⟩ := s
  show JO w mu_X2_addTails vV σ2 [(0, .ref (adr w 35)), (1, .ref (adr w x0)), (2, .int x1), (3, .int x2), (4, .int i3)] [] 5 (l_X2_addTails_5 x0 x1 x2 σ2 i3) _
  unfold l_X2_addTails_5
  refine jo_iload (pc := 5) 4 rfl dX2_addTails_5 ?_
  refine jo_aload_n (pc := 7) 1 rfl dX2_addTails_7 rfl ?_
  refine jo_getf (pc := 8) ok_6_0 (hx0) gw_194 dX2_addTails_8 (fun v4 => ?_)
  refine jo_icmp_ge (pc := 11) dX2_addTails_11 (tgt := 47) rfl ?_ ?_
  · exact jo_return (pc := 47) rfl rfl dX2_addTails_47
  · refine jo_aload_n (pc := 14) 1 rfl dX2_addTails_14 rfl ?_
    refine jo_iload_n (pc := 15) 2 rfl dX2_addTails_15 rfl ?_
    refine jo_iload_n (pc := 16) 3 rfl dX2_addTails_16 rfl ?_
    refine jo_iload (pc := 17) 4 rfl dX2_addTails_17 ?_
    refine jo_cV_I_p (pc := 19) (μ' := mu_X6_read) (fx := f_X6_read σ2 x0 x1 x2 i3) (As := [.int x1, .int x2, .int i3]) (c_X6_read hw (hx0)) (ok_X6_read) (ltb rfl) (all3 gw_568 gw_569 gw_570) (hx0) (by decide) (q := (RX6, TX6, 3)) rfl rfl rfl rfl (Nat.le_of_ble_eq_true rfl) dX2_addTails_19 (fun v5 => ?_)
    refine jo_istore (pc := 22) (lv' := [(5, .int v5), (0, .ref (adr w 35)), (1, .ref (adr w x0)), (2, .int x1), (3, .int x2), (4, .int i3)]) dX2_addTails_22 (ltb rfl) rfl ?_
    refine jo_join1 (S := Mem) (fun (z6 : Mem) => z6) (fun (z6 : Mem) => [(0, .ref (adr w 35)), (1, .ref (adr w x0)), (2, .int x1), (3, .int x2), (4, .int i3)]) (fun (z6 : Mem) => []) 41 ?_ (fun h41_6 => ?_)
    · intro σ6
      show JO w mu_X2_addTails vV σ6 [(0, .ref (adr w 35)), (1, .ref (adr w x0)), (2, .int x1), (3, .int x2), (4, .int i3)] [] 41 (j_X2_addTails_41 i3 σ6) _
      unfold j_X2_addTails_41
      refine jo_iinc (pc := 41) (lv' := [(4, .int (i3 + 1)), (0, .ref (adr w 35)), (1, .ref (adr w x0)), (2, .int x1), (3, .int x2)]) 4 rfl dX2_addTails_41 (congrArg (fun z => i3 + z) (ic_i_1)) (ltb rfl) rfl ?_
      refine jo_goto (pc := 44) dX2_addTails_44 (tgt := 5) rfl ?_
      refine jo_lv (lv' := [(0, .ref (adr w 35)), (1, .ref (adr w x0)), (2, .int x1), (3, .int x2), (4, .int (i3 + 1))]) [1, 2, 3, 4, 0] rfl ?_
      exact jo_leaf (by rfl) (hF5_3 (σ6, i3 + 1))
    · refine jo_lv (lv' := [(0, .ref (adr w 35)), (1, .ref (adr w x0)), (2, .int x1), (3, .int x2), (4, .int i3), (5, .int v5)]) [1, 2, 3, 4, 5, 0] rfl ?_
      refine jo_loop (X := Mem) (fun (z8 : (Mem × Int32)) => z8.1) (fun (z8 : (Mem × Int32)) => [(0, .ref (adr w 35)), (1, .ref (adr w x0)), (2, .int x1), (3, .int x2), (4, .int i3), (5, .int z8.2)]) (body := (fun (z8 : (Mem × Int32)) => l_X2_addTails_24 i3 z8.1 z8.2)) (fun F24_8 hF24_8 s => ?_) (σ2, v5)
      obtain ⟨σ7, i8⟩ := s
      show JO w mu_X2_addTails vV σ7 [(0, .ref (adr w 35)), (1, .ref (adr w x0)), (2, .int x1), (3, .int x2), (4, .int i3), (5, .int i8)] [] 24 (l_X2_addTails_24 i3 σ7 i8) _
      unfold l_X2_addTails_24
      refine jo_iload (pc := 24) 5 rfl dX2_addTails_24 ?_
      refine jo_if_le (pc := 26) dX2_addTails_26 (tgt := 41) rfl ?_ ?_
      · refine jo_lv (lv' := [(0, .ref (adr w 35)), (1, .ref (adr w x0)), (2, .int x1), (3, .int x2), (4, .int i3)]) [0, 1, 2, 3, 4] rfl ?_
        exact jo_leaf (by rfl) (h41_6 σ7)
      · refine jo_aload_n (pc := 29) 0 rfl dX2_addTails_29 rfl ?_
        refine jo_iload (pc := 30) 4 rfl dX2_addTails_30 ?_
        refine jo_cV_V_i (pc := 32) (μ' := mu_X2_add) (fx := f_X2_add σ7 i3) (As := [.int i3]) (c_X2_add hw) (ok_X2_add) (ltb rfl) (all3 gw_572 gw_561 gw_562) (ik_35 hw) (by decide) (q := (RX2, TX2, 7)) rfl rfl rfl rfl (Nat.le_of_ble_eq_true rfl) dX2_addTails_32 (fun σ9 => ?_)
        refine jo_iinc (pc := 35) (lv' := [(5, .int (i8 + (-1))), (0, .ref (adr w 35)), (1, .ref (adr w x0)), (2, .int x1), (3, .int x2), (4, .int i3)]) 5 rfl dX2_addTails_35 (congrArg (fun z => i8 + z) (ic_i_m1)) (ltb rfl) rfl ?_
        refine jo_goto (pc := 38) dX2_addTails_38 (tgt := 24) rfl ?_
        refine jo_lv (lv' := [(0, .ref (adr w 35)), (1, .ref (adr w x0)), (2, .int x1), (3, .int x2), (4, .int i3), (5, .int (i8 + (-1)))]) [1, 2, 3, 4, 5, 0] rfl ?_
        exact jo_leaf (by rfl) (hF24_8 (σ9, i8 + (-1)))
theorem c_X2_addTails {w : Wd} (hw : WOK w) {σ : Mem} {x0 : Nat} {x1 : Int32} {x2 : Int32} (hx0 : isk w x0 6) : ∀ σ', f_X2_addTails σ x0 x1 x2 = some σ' → MC w mu_X2_addTails none [.ref (adr w 35), .ref (adr w x0), .int x1, .int x2] σ σ' := mc_ofV ok_X2_addTails rfl (Nat.le_of_ble_eq_true rfl) (t_X2_addTails hw hx0)
abbrev mu_X2_putAhead : MD := (yX2_putAhead, cX2_putAhead, 2, none, 0)
theorem ok_X2_putAhead : MOK mu_X2_putAhead 1 := ⟨gw_580, gw_161, (by decide +kernel : plainFor yX2_putAhead = true), ⟨(by decide +kernel : yX2_putAhead.cls ≠ "java/lang/invoke/MethodHandle"), (by decide +kernel : yX2_putAhead.cls ≠ "java/lang/invoke/VarHandle"), (by decide +kernel : (parseMethodDescriptor yX2_putAhead.desc).map (fun d => d.parameters.length) = some 1)⟩, Nat.le_of_ble_eq_true rfl⟩
noncomputable def f_X2_putAhead (σ : Mem) (x0 : Int32) : Option Mem :=
  gF σ 35 5 (fun (v1 : Int32) => if 12076 ≤ v1 then (some σ) else (gF σ 35 5 (fun (v2 : Int32) => pI σ 38 v2 x0 (fun (σ3 : Mem) => gF σ3 35 5 (fun (v4 : Int32) => pF σ3 35 5 (v4 + 1) (fun (σ5 : Mem) => some σ5))))))
theorem t_X2_putAhead {w : Wd} (hw : WOK w) {σ : Mem} {x0 : Int32} : JO w mu_X2_putAhead vV σ [(0, .ref (adr w 35)), (1, .int x0)] [] 0 (f_X2_putAhead σ x0) (fun z => some ((), z)) := by
  unfold f_X2_putAhead
  refine jo_aload_n (pc := 0) 0 rfl dX2_putAhead_0 rfl ?_
  refine jo_getf (pc := 1) ok_2_5 (ik_35 hw) gw_245 dX2_putAhead_1 (fun v1 => ?_)
  refine jo_sipush (pc := 4) dX2_putAhead_4 (ic_s_12076) ?_
  refine jo_icmp_ge (pc := 7) dX2_putAhead_7 (tgt := 30) rfl ?_ ?_
  · exact jo_return (pc := 30) rfl rfl dX2_putAhead_30
  · refine jo_aload_n (pc := 10) 0 rfl dX2_putAhead_10 rfl ?_
    refine jo_getrE (pc := 11) ok_2_4 (ik_35 hw) rf_35_4 gw_244 dX2_putAhead_11 ?_
    refine jo_aload_n (pc := 14) 0 rfl dX2_putAhead_14 rfl ?_
    refine jo_getf (pc := 15) ok_2_5 (ik_35 hw) gw_245 dX2_putAhead_15 (fun v2 => ?_)
    refine jo_iload_n (pc := 18) 1 rfl dX2_putAhead_18 rfl ?_
    refine jo_iast (pc := 19) (ik_38 hw) dX2_putAhead_19 (fun σ3 => ?_)
    refine jo_aload_n (pc := 20) 0 rfl dX2_putAhead_20 rfl ?_
    refine jo_dup (pc := 21) dX2_putAhead_21 rfl ?_
    refine jo_getf (pc := 22) ok_2_5 (ik_35 hw) gw_245 dX2_putAhead_22 (fun v4 => ?_)
    refine jo_iconst (pc := 25) dX2_putAhead_25 (ic_i_1) ?_
    refine jo_iadd (pc := 26) dX2_putAhead_26 ?_
    refine jo_putf (pc := 27) ok_2_5 okp_2_5 (ik_35 hw) gw_245 dX2_putAhead_27 (fun σ5 => ?_)
    exact jo_return (pc := 30) rfl rfl dX2_putAhead_30
theorem c_X2_putAhead {w : Wd} (hw : WOK w) {σ : Mem} {x0 : Int32} : ∀ σ', f_X2_putAhead σ x0 = some σ' → MC w mu_X2_putAhead none [.ref (adr w 35), .int x0] σ σ' := mc_ofV ok_X2_putAhead rfl (Nat.le_of_ble_eq_true rfl) (t_X2_putAhead hw)
abbrev mu_X2_moveOn : MD := (yX2_moveOn, cX2_moveOn, 2, none, 0)
theorem ok_X2_moveOn : MOK mu_X2_moveOn 1 := ⟨gw_585, gw_161, (by decide +kernel : plainFor yX2_moveOn = true), ⟨(by decide +kernel : yX2_moveOn.cls ≠ "java/lang/invoke/MethodHandle"), (by decide +kernel : yX2_moveOn.cls ≠ "java/lang/invoke/VarHandle"), (by decide +kernel : (parseMethodDescriptor yX2_moveOn.desc).map (fun d => d.parameters.length) = some 1)⟩, Nat.le_of_ble_eq_true rfl⟩
noncomputable def f_X2_moveOn (σ : Mem) (x0 : Int32) : Option Mem :=
  gF σ 35 5 (fun (v1 : Int32) => pF σ 35 5 (v1 - 1) (fun (σ2 : Mem) => gF σ2 35 3 (fun (v3 : Int32) => if 12076 ≤ v3 then (some σ2) else (gF σ2 35 3 (fun (v4 : Int32) => pI σ2 37 v4 x0 (fun (σ5 : Mem) => gF σ5 35 3 (fun (v6 : Int32) => pF σ5 35 3 (v6 + 1) (fun (σ7 : Mem) => some σ7))))))))
theorem t_X2_moveOn {w : Wd} (hw : WOK w) {σ : Mem} {x0 : Int32} : JO w mu_X2_moveOn vV σ [(0, .ref (adr w 35)), (1, .int x0)] [] 0 (f_X2_moveOn σ x0) (fun z => some ((), z)) := by
  unfold f_X2_moveOn
  refine jo_aload_n (pc := 0) 0 rfl dX2_moveOn_0 rfl ?_
  refine jo_dup (pc := 1) dX2_moveOn_1 rfl ?_
  refine jo_getf (pc := 2) ok_2_5 (ik_35 hw) gw_245 dX2_moveOn_2 (fun v1 => ?_)
  refine jo_iconst (pc := 5) dX2_moveOn_5 (ic_i_1) ?_
  refine jo_isub (pc := 6) dX2_moveOn_6 ?_
  refine jo_putf (pc := 7) ok_2_5 okp_2_5 (ik_35 hw) gw_245 dX2_moveOn_7 (fun σ2 => ?_)
  refine jo_aload_n (pc := 10) 0 rfl dX2_moveOn_10 rfl ?_
  refine jo_getf (pc := 11) ok_2_3 (ik_35 hw) gw_243 dX2_moveOn_11 (fun v3 => ?_)
  refine jo_sipush (pc := 14) dX2_moveOn_14 (ic_s_12076) ?_
  refine jo_icmp_ge (pc := 17) dX2_moveOn_17 (tgt := 40) rfl ?_ ?_
  · exact jo_return (pc := 40) rfl rfl dX2_moveOn_40
  · refine jo_aload_n (pc := 20) 0 rfl dX2_moveOn_20 rfl ?_
    refine jo_getrE (pc := 21) ok_2_2 (ik_35 hw) rf_35_2 gw_242 dX2_moveOn_21 ?_
    refine jo_aload_n (pc := 24) 0 rfl dX2_moveOn_24 rfl ?_
    refine jo_getf (pc := 25) ok_2_3 (ik_35 hw) gw_243 dX2_moveOn_25 (fun v4 => ?_)
    refine jo_iload_n (pc := 28) 1 rfl dX2_moveOn_28 rfl ?_
    refine jo_iast (pc := 29) (ik_37 hw) dX2_moveOn_29 (fun σ5 => ?_)
    refine jo_aload_n (pc := 30) 0 rfl dX2_moveOn_30 rfl ?_
    refine jo_dup (pc := 31) dX2_moveOn_31 rfl ?_
    refine jo_getf (pc := 32) ok_2_3 (ik_35 hw) gw_243 dX2_moveOn_32 (fun v6 => ?_)
    refine jo_iconst (pc := 35) dX2_moveOn_35 (ic_i_1) ?_
    refine jo_iadd (pc := 36) dX2_moveOn_36 ?_
    refine jo_putf (pc := 37) ok_2_3 okp_2_3 (ik_35 hw) gw_243 dX2_moveOn_37 (fun σ7 => ?_)
    exact jo_return (pc := 40) rfl rfl dX2_moveOn_40
theorem c_X2_moveOn {w : Wd} (hw : WOK w) {σ : Mem} {x0 : Int32} : ∀ σ', f_X2_moveOn σ x0 = some σ' → MC w mu_X2_moveOn none [.ref (adr w 35), .int x0] σ σ' := mc_ofV ok_X2_moveOn rfl (Nat.le_of_ble_eq_true rfl) (t_X2_moveOn hw)
abbrev mu_X2_exchange : MD := (yX2_exchange, cX2_exchange, 6, none, 2)
theorem ok_X2_exchange : MOK mu_X2_exchange 3 := ⟨gw_589, gw_161, (by decide +kernel : plainFor yX2_exchange = true), ⟨(by decide +kernel : yX2_exchange.cls ≠ "java/lang/invoke/MethodHandle"), (by decide +kernel : yX2_exchange.cls ≠ "java/lang/invoke/VarHandle"), (by decide +kernel : (parseMethodDescriptor yX2_exchange.desc).map (fun d => d.parameters.length) = some 3)⟩, Nat.le_of_ble_eq_true rfl⟩
noncomputable def j_X2_exchange_67 (x1 : Int32) (x2 : Int32) (σ7 : Mem) : Option Mem :=
  (f_X2_putAhead σ7 x1).bind (fun (σ8 : Mem) => (f_X2_putAhead σ8 x2).bind (fun (σ9 : Mem) => some σ9))
noncomputable def j_X2_exchange_61 (i11 : Int32) (σ13 : Mem) : Option ((Mem × Int32) ⊕ Mem) :=
  some (Sum.inl (σ13, i11 + (-1)))
noncomputable def l_X2_exchange_44 (i11 : Int32) (σ14 : Mem) (i15 : Int32) : Option ((Mem × Int32) ⊕ Mem) :=
  if i15 ≤ 0 then (some (Sum.inr σ14)) else ((f_X2_putAhead σ14 i11).bind (fun (σ16 : Mem) => some (Sum.inl (σ16, i15 + (-1)))))
noncomputable def l_X2_exchange_28 (x0 : Nat) (x1 : Int32) (x2 : Int32) (σ10 : Mem) (i11 : Int32) : Option ((Mem × Int32) ⊕ Mem) :=
  if i11 ≤ x1 then (some (Sum.inr σ10)) else ((f_X6_read σ10 x0 x1 x2 i11).bind (fun (v12 : Int32) => (loopO (fun (z15 : (Mem × Int32)) => l_X2_exchange_44 i11 z15.1 z15.2) (σ10, v12) : Option Mem).bind (fun (z13 : Mem) => j_X2_exchange_61 i11 z13)))
noncomputable def f_X2_exchange (σ : Mem) (x0 : Nat) (x1 : Int32) (x2 : Int32) : Option Mem :=
  gF σ 35 3 (fun (v1 : Int32) => pF σ 35 3 (v1 - 1) (fun (σ2 : Mem) => gF σ2 35 5 (fun (v3 : Int32) => pF σ2 35 5 (v3 - 1) (fun (σ4 : Mem) => gF σ4 x0 0 (fun (v5 : Int32) => bd (v5 - 1) (fun (v6 : Int32) => (loopO (fun (z11 : (Mem × Int32)) => l_X2_exchange_28 x0 x1 x2 z11.1 z11.2) (σ4, v6) : Option Mem).bind (fun (z7 : Mem) => j_X2_exchange_67 x1 x2 z7)))))))
theorem t_X2_exchange {w : Wd} (hw : WOK w) {σ : Mem} {x0 : Nat} {x1 : Int32} {x2 : Int32} (hx0 : isk w x0 6) : JO w mu_X2_exchange vV σ [(0, .ref (adr w 35)), (1, .ref (adr w x0)), (2, .int x1), (3, .int x2)] [] 0 (f_X2_exchange σ x0 x1 x2) (fun z => some ((), z)) := by
  unfold f_X2_exchange
  refine jo_aload_n (pc := 0) 0 rfl dX2_exchange_0 rfl ?_
  refine jo_dup (pc := 1) dX2_exchange_1 rfl ?_
  refine jo_getf (pc := 2) ok_2_3 (ik_35 hw) gw_243 dX2_exchange_2 (fun v1 => ?_)
  refine jo_iconst (pc := 5) dX2_exchange_5 (ic_i_1) ?_
  refine jo_isub (pc := 6) dX2_exchange_6 ?_
  refine jo_putf (pc := 7) ok_2_3 okp_2_3 (ik_35 hw) gw_243 dX2_exchange_7 (fun σ2 => ?_)
  refine jo_aload_n (pc := 10) 0 rfl dX2_exchange_10 rfl ?_
  refine jo_dup (pc := 11) dX2_exchange_11 rfl ?_
  refine jo_getf (pc := 12) ok_2_5 (ik_35 hw) gw_245 dX2_exchange_12 (fun v3 => ?_)
  refine jo_iconst (pc := 15) dX2_exchange_15 (ic_i_1) ?_
  refine jo_isub (pc := 16) dX2_exchange_16 ?_
  refine jo_putf (pc := 17) ok_2_5 okp_2_5 (ik_35 hw) gw_245 dX2_exchange_17 (fun σ4 => ?_)
  refine jo_aload_n (pc := 20) 1 rfl dX2_exchange_20 rfl ?_
  refine jo_getf (pc := 21) ok_6_0 (hx0) gw_194 dX2_exchange_21 (fun v5 => ?_)
  refine jo_iconst (pc := 24) dX2_exchange_24 (ic_i_1) ?_
  refine jo_isub (pc := 25) dX2_exchange_25 ?_
  refine jo_bd ?_
  refine jo_istore (pc := 26) (lv' := [(4, .int (v5 - 1)), (0, .ref (adr w 35)), (1, .ref (adr w x0)), (2, .int x1), (3, .int x2)]) dX2_exchange_26 (ltb rfl) rfl ?_
  generalize (v5 - 1) = v6
  refine jo_join1 (S := Mem) (fun (z7 : Mem) => z7) (fun (z7 : Mem) => [(0, .ref (adr w 35)), (2, .int x1), (3, .int x2)]) (fun (z7 : Mem) => []) 67 ?_ (fun h67_7 => ?_)
  · intro σ7
    show JO w mu_X2_exchange vV σ7 [(0, .ref (adr w 35)), (2, .int x1), (3, .int x2)] [] 67 (j_X2_exchange_67 x1 x2 σ7) _
    unfold j_X2_exchange_67
    refine jo_aload_n (pc := 67) 0 rfl dX2_exchange_67 rfl ?_
    refine jo_iload_n (pc := 68) 1 rfl dX2_exchange_68 rfl ?_
    refine jo_cV_V_i (pc := 69) (μ' := mu_X2_putAhead) (fx := f_X2_putAhead σ7 x1) (As := [.int x1]) (c_X2_putAhead hw) (ok_X2_putAhead) (ltb rfl) (all3 gw_577 gw_579 gw_2) (ik_35 hw) (by decide) (q := (RX2, TX2, 7)) rfl rfl rfl rfl (Nat.le_of_ble_eq_true rfl) dX2_exchange_69 (fun σ8 => ?_)
    refine jo_aload_n (pc := 72) 0 rfl dX2_exchange_72 rfl ?_
    refine jo_iload_n (pc := 73) 2 rfl dX2_exchange_73 rfl ?_
    refine jo_cV_V_i (pc := 74) (μ' := mu_X2_putAhead) (fx := f_X2_putAhead σ8 x2) (As := [.int x2]) (c_X2_putAhead hw) (ok_X2_putAhead) (ltb rfl) (all3 gw_577 gw_579 gw_2) (ik_35 hw) (by decide) (q := (RX2, TX2, 7)) rfl rfl rfl rfl (Nat.le_of_ble_eq_true rfl) dX2_exchange_74 (fun σ9 => ?_)
    exact jo_return (pc := 77) rfl rfl dX2_exchange_77
  · refine jo_lv (lv' := [(0, .ref (adr w 35)), (1, .ref (adr w x0)), (2, .int x1), (3, .int x2), (4, .int v6)]) [1, 2, 3, 4, 0] rfl ?_
    refine jo_loop (X := Mem) (fun (z11 : (Mem × Int32)) => z11.1) (fun (z11 : (Mem × Int32)) => [(0, .ref (adr w 35)), (1, .ref (adr w x0)), (2, .int x1), (3, .int x2), (4, .int z11.2)]) (body := (fun (z11 : (Mem × Int32)) => l_X2_exchange_28 x0 x1 x2 z11.1 z11.2)) (fun F28_11 hF28_11 s => ?_) (σ4, v6)
    obtain ⟨σ10, i11⟩ := s
    show JO w mu_X2_exchange vV σ10 [(0, .ref (adr w 35)), (1, .ref (adr w x0)), (2, .int x1), (3, .int x2), (4, .int i11)] [] 28 (l_X2_exchange_28 x0 x1 x2 σ10 i11) _
    unfold l_X2_exchange_28
    refine jo_iload (pc := 28) 4 rfl dX2_exchange_28 ?_
    refine jo_iload_n (pc := 30) 2 rfl dX2_exchange_30 rfl ?_
    refine jo_icmp_le (pc := 31) dX2_exchange_31 (tgt := 67) rfl ?_ ?_
    · refine jo_lv (lv' := [(0, .ref (adr w 35)), (2, .int x1), (3, .int x2)]) [0, 2, 3] rfl ?_
      exact jo_leaf (by rfl) (h67_7 σ10)
    · refine jo_aload_n (pc := 34) 1 rfl dX2_exchange_34 rfl ?_
      refine jo_iload_n (pc := 35) 2 rfl dX2_exchange_35 rfl ?_
      refine jo_iload_n (pc := 36) 3 rfl dX2_exchange_36 rfl ?_
      refine jo_iload (pc := 37) 4 rfl dX2_exchange_37 ?_
      refine jo_cV_I_p (pc := 39) (μ' := mu_X6_read) (fx := f_X6_read σ10 x0 x1 x2 i11) (As := [.int x1, .int x2, .int i11]) (c_X6_read hw (hx0)) (ok_X6_read) (ltb rfl) (all3 gw_568 gw_569 gw_570) (hx0) (by decide) (q := (RX6, TX6, 3)) rfl rfl rfl rfl (Nat.le_of_ble_eq_true rfl) dX2_exchange_39 (fun v12 => ?_)
      refine jo_istore (pc := 42) (lv' := [(5, .int v12), (0, .ref (adr w 35)), (1, .ref (adr w x0)), (2, .int x1), (3, .int x2), (4, .int i11)]) dX2_exchange_42 (ltb rfl) rfl ?_
      refine jo_join1 (S := Mem) (fun (z13 : Mem) => z13) (fun (z13 : Mem) => [(0, .ref (adr w 35)), (1, .ref (adr w x0)), (2, .int x1), (3, .int x2), (4, .int i11)]) (fun (z13 : Mem) => []) 61 ?_ (fun h61_13 => ?_)
      · intro σ13
        show JO w mu_X2_exchange vV σ13 [(0, .ref (adr w 35)), (1, .ref (adr w x0)), (2, .int x1), (3, .int x2), (4, .int i11)] [] 61 (j_X2_exchange_61 i11 σ13) _
        unfold j_X2_exchange_61
        refine jo_iinc (pc := 61) (lv' := [(4, .int (i11 + (-1))), (0, .ref (adr w 35)), (1, .ref (adr w x0)), (2, .int x1), (3, .int x2)]) 4 rfl dX2_exchange_61 (congrArg (fun z => i11 + z) (ic_i_m1)) (ltb rfl) rfl ?_
        refine jo_goto (pc := 64) dX2_exchange_64 (tgt := 28) rfl ?_
        refine jo_lv (lv' := [(0, .ref (adr w 35)), (1, .ref (adr w x0)), (2, .int x1), (3, .int x2), (4, .int (i11 + (-1)))]) [1, 2, 3, 4, 0] rfl ?_
        exact jo_leaf (by rfl) (hF28_11 (σ13, i11 + (-1)))
      · refine jo_lv (lv' := [(0, .ref (adr w 35)), (1, .ref (adr w x0)), (2, .int x1), (3, .int x2), (4, .int i11), (5, .int v12)]) [1, 2, 3, 4, 5, 0] rfl ?_
        refine jo_loop (X := Mem) (fun (z15 : (Mem × Int32)) => z15.1) (fun (z15 : (Mem × Int32)) => [(0, .ref (adr w 35)), (1, .ref (adr w x0)), (2, .int x1), (3, .int x2), (4, .int i11), (5, .int z15.2)]) (body := (fun (z15 : (Mem × Int32)) => l_X2_exchange_44 i11 z15.1 z15.2)) (fun F44_15 hF44_15 s => ?_) (σ10, v12)
        obtain ⟨σ14, i15⟩ := s
        show JO w mu_X2_exchange vV σ14 [(0, .ref (adr w 35)), (1, .ref (adr w x0)), (2, .int x1), (3, .int x2), (4, .int i11), (5, .int i15)] [] 44 (l_X2_exchange_44 i11 σ14 i15) _
        unfold l_X2_exchange_44
        refine jo_iload (pc := 44) 5 rfl dX2_exchange_44 ?_
        refine jo_if_le (pc := 46) dX2_exchange_46 (tgt := 61) rfl ?_ ?_
        · refine jo_lv (lv' := [(0, .ref (adr w 35)), (1, .ref (adr w x0)), (2, .int x1), (3, .int x2), (4, .int i11)]) [0, 1, 2, 3, 4] rfl ?_
          exact jo_leaf (by rfl) (h61_13 σ14)
        · refine jo_aload_n (pc := 49) 0 rfl dX2_exchange_49 rfl ?_
          refine jo_iload (pc := 50) 4 rfl dX2_exchange_50 ?_
          refine jo_cV_V_i (pc := 52) (μ' := mu_X2_putAhead) (fx := f_X2_putAhead σ14 i11) (As := [.int i11]) (c_X2_putAhead hw) (ok_X2_putAhead) (ltb rfl) (all3 gw_577 gw_579 gw_2) (ik_35 hw) (by decide) (q := (RX2, TX2, 7)) rfl rfl rfl rfl (Nat.le_of_ble_eq_true rfl) dX2_exchange_52 (fun σ16 => ?_)
          refine jo_iinc (pc := 55) (lv' := [(5, .int (i15 + (-1))), (0, .ref (adr w 35)), (1, .ref (adr w x0)), (2, .int x1), (3, .int x2), (4, .int i11)]) 5 rfl dX2_exchange_55 (congrArg (fun z => i15 + z) (ic_i_m1)) (ltb rfl) rfl ?_
          refine jo_goto (pc := 58) dX2_exchange_58 (tgt := 44) rfl ?_
          refine jo_lv (lv' := [(0, .ref (adr w 35)), (1, .ref (adr w x0)), (2, .int x1), (3, .int x2), (4, .int i11), (5, .int (i15 + (-1)))]) [1, 2, 3, 4, 5, 0] rfl ?_
          exact jo_leaf (by rfl) (hF44_15 (σ16, i15 + (-1)))
theorem c_X2_exchange {w : Wd} (hw : WOK w) {σ : Mem} {x0 : Nat} {x1 : Int32} {x2 : Int32} (hx0 : isk w x0 6) : ∀ σ', f_X2_exchange σ x0 x1 x2 = some σ' → MC w mu_X2_exchange none [.ref (adr w 35), .ref (adr w x0), .int x1, .int x2] σ σ' := mc_ofV ok_X2_exchange rfl (Nat.le_of_ble_eq_true rfl) (t_X2_exchange hw hx0)
abbrev mu_X2_countLetters : MD := (yX2_countLetters, cX2_countLetters, 2, none, 1)
theorem ok_X2_countLetters : MOK mu_X2_countLetters 0 := ⟨gw_593, gw_161, (by decide +kernel : plainFor yX2_countLetters = true), ⟨(by decide +kernel : yX2_countLetters.cls ≠ "java/lang/invoke/MethodHandle"), (by decide +kernel : yX2_countLetters.cls ≠ "java/lang/invoke/VarHandle"), (by decide +kernel : (parseMethodDescriptor yX2_countLetters.desc).map (fun d => d.parameters.length) = some 0)⟩, Nat.le_of_ble_eq_true rfl⟩
noncomputable def l_X2_countLetters_10 (σ2 : Mem) (i3 : Int32) : Option ((Mem × Int32) ⊕ Mem) :=
  gF σ2 35 3 (fun (v4 : Int32) => if v4 ≤ i3 then (some (Sum.inr σ2)) else (gI σ2 37 i3 (fun (v5 : Int32) => gI σ2 39 v5 (fun (v6 : Int32) => pI σ2 39 v5 (v6 + 1) (fun (σ7 : Mem) => some (Sum.inl (σ7, i3 + 1)))))))
noncomputable def f_X2_countLetters (σ : Mem) : Option Mem :=
  (f_J7_fill_53178 σ 39 0).bind (fun (σ1 : Mem) => loopO (fun (z3 : (Mem × Int32)) => l_X2_countLetters_10 z3.1 z3.2) (σ1, 0))
theorem t_X2_countLetters {w : Wd} (hw : WOK w) {σ : Mem} : JO w mu_X2_countLetters vV σ [(0, .ref (adr w 35))] [] 0 (f_X2_countLetters σ) (fun z => some ((), z)) := by
  unfold f_X2_countLetters
  refine jo_aload_n (pc := 0) 0 rfl dX2_countLetters_0 rfl ?_
  refine jo_getrE (pc := 1) ok_2_6 (ik_35 hw) rf_35_6 gw_246 dX2_countLetters_1 ?_
  refine jo_iconst (pc := 4) dX2_countLetters_4 (ic_i_0) ?_
  refine jo_cS_V_i (pc := 5) (μ' := mu_J7_fill_53178) (fx := f_J7_fill_53178 σ 39 0) (As := [.ref (adr w 39), .int 0]) (c_J7_fill_53178 hw (ik_39 hw)) (ok_J7_fill_53178) (ltb rfl) (all2 gw_594 gw_521) rfl rfl (Nat.le_of_ble_eq_true rfl) dX2_countLetters_5 (fun σ1 => ?_)
  refine jo_iconst (pc := 8) dX2_countLetters_8 (ic_i_0) ?_
  refine jo_istore_n (pc := 9) (lv' := [(1, .int 0), (0, .ref (adr w 35))]) dX2_countLetters_9 rfl (ltb rfl) rfl ?_
  refine jo_lv (lv' := [(0, .ref (adr w 35)), (1, .int 0)]) [1, 0] rfl ?_
  refine jo_loop (X := Mem) (fun (z3 : (Mem × Int32)) => z3.1) (fun (z3 : (Mem × Int32)) => [(0, .ref (adr w 35)), (1, .int z3.2)]) (body := (fun (z3 : (Mem × Int32)) => l_X2_countLetters_10 z3.1 z3.2)) (fun F10_3 hF10_3 s => ?_) (σ1, 0)
  obtain ⟨σ2, i3⟩ := s
  show JO w mu_X2_countLetters vV σ2 [(0, .ref (adr w 35)), (1, .int i3)] [] 10 (l_X2_countLetters_10 σ2 i3) _
  unfold l_X2_countLetters_10
  refine jo_iload_n (pc := 10) 1 rfl dX2_countLetters_10 rfl ?_
  refine jo_aload_n (pc := 11) 0 rfl dX2_countLetters_11 rfl ?_
  refine jo_getf (pc := 12) ok_2_3 (ik_35 hw) gw_243 dX2_countLetters_12 (fun v4 => ?_)
  refine jo_icmp_ge (pc := 15) dX2_countLetters_15 (tgt := 39) rfl ?_ ?_
  · exact jo_return (pc := 39) rfl rfl dX2_countLetters_39
  · refine jo_aload_n (pc := 18) 0 rfl dX2_countLetters_18 rfl ?_
    refine jo_getrE (pc := 19) ok_2_6 (ik_35 hw) rf_35_6 gw_246 dX2_countLetters_19 ?_
    refine jo_aload_n (pc := 22) 0 rfl dX2_countLetters_22 rfl ?_
    refine jo_getrE (pc := 23) ok_2_2 (ik_35 hw) rf_35_2 gw_242 dX2_countLetters_23 ?_
    refine jo_iload_n (pc := 26) 1 rfl dX2_countLetters_26 rfl ?_
    refine jo_iald (pc := 27) (ik_37 hw) dX2_countLetters_27 (fun v5 => ?_)
    refine jo_dup2 (pc := 28) dX2_countLetters_28 rfl rfl ?_
    refine jo_iald (pc := 29) (ik_39 hw) dX2_countLetters_29 (fun v6 => ?_)
    refine jo_iconst (pc := 30) dX2_countLetters_30 (ic_i_1) ?_
    refine jo_iadd (pc := 31) dX2_countLetters_31 ?_
    refine jo_iast (pc := 32) (ik_39 hw) dX2_countLetters_32 (fun σ7 => ?_)
    refine jo_iinc (pc := 33) (lv' := [(1, .int (i3 + 1)), (0, .ref (adr w 35))]) 1 rfl dX2_countLetters_33 (congrArg (fun z => i3 + z) (ic_i_1)) (ltb rfl) rfl ?_
    refine jo_goto (pc := 36) dX2_countLetters_36 (tgt := 10) rfl ?_
    refine jo_lv (lv' := [(0, .ref (adr w 35)), (1, .int (i3 + 1))]) [1, 0] rfl ?_
    exact jo_leaf (by rfl) (hF10_3 (σ7, i3 + 1))
theorem c_X2_countLetters {w : Wd} (hw : WOK w) {σ : Mem} : ∀ σ', f_X2_countLetters σ = some σ' → MC w mu_X2_countLetters none [.ref (adr w 35)] σ σ' := mc_ofV ok_X2_countLetters rfl (Nat.le_of_ble_eq_true rfl) (t_X2_countLetters hw)
abbrev mu_X2_run : MD := (yX2_run, cX2_run, 6, some .int, 3)
theorem ok_X2_run : MOK mu_X2_run 2 := ⟨gw_576, gw_161, (by decide +kernel : plainFor yX2_run = true), ⟨(by decide +kernel : yX2_run.cls ≠ "java/lang/invoke/MethodHandle"), (by decide +kernel : yX2_run.cls ≠ "java/lang/invoke/VarHandle"), (by decide +kernel : (parseMethodDescriptor yX2_run.desc).map (fun d => d.parameters.length) = some 2)⟩, Nat.le_of_ble_eq_true rfl⟩
noncomputable def j_X2_run_135 (σ6 : Mem) (i7 : Int32) : Option (Int32 × Mem) :=
  (f_X2_countLetters σ6).bind (fun (σ8 : Mem) => some (i7, σ8))
noncomputable def j_X2_run_129 (i11 : Int32) (σ16 : Mem) (i17 : Int32) : Option ((Mem × Int32 × Int32) ⊕ ((Mem × Int32) ⊕ (Int32 × Mem))) :=
  some (Sum.inl (σ16, i17, i11 + 1))
noncomputable def j_X2_run_92 (σ9 : Mem) (i10 : Int32) (v14 : Int32) : Option ((Mem × Int32) ⊕ ((Mem × Int32 × Int32) ⊕ ((Mem × Int32) ⊕ (Int32 × Mem)))) :=
  (f_X2_moveOn σ9 v14).bind (fun (σ18 : Mem) => some (Sum.inl (σ18, i10)))
noncomputable def l_X2_run_42 (x0 : Nat) (x1 : Int32) (σ9 : Mem) (i10 : Int32) (i11 : Int32) : Option ((Mem × Int32 × Int32) ⊕ ((Mem × Int32) ⊕ (Int32 × Mem))) :=
  if 1000000 ≤ i11 then (some (Sum.inr (Sum.inl (σ9, i10)))) else (gF σ9 35 5 (fun (v12 : Int32) => if v12 ≤ 0 then (some (Sum.inr (Sum.inl (σ9, i10)))) else (gF σ9 35 5 (fun (v13 : Int32) => gI σ9 38 (v13 - 1) (fun (v14 : Int32) => gF σ9 35 3 (fun (v15 : Int32) => ((if v15 = 0 then (some (Sum.inl ())) else (gF σ9 35 3 (fun (v19 : Int32) => gI σ9 37 (v19 - 1) (fun (v20 : Int32) => if v14 < v20 then (if i10 = x1 then (some (Sum.inr (Sum.inr (Sum.inr (Sum.inr ((-1), σ9)))))) else (gF σ9 35 3 (fun (v21 : Int32) => gI σ9 37 (v21 - 1) (fun (v22 : Int32) => (f_X2_exchange σ9 x0 v22 v14).bind (fun (σ23 : Mem) => some (Sum.inr (Sum.inl (σ23, i10 + 1)))))))) else (some (Sum.inl ()))))) : Option (Unit ⊕ ((Mem × Int32) ⊕ ((Mem × Int32 × Int32) ⊕ ((Mem × Int32) ⊕ (Int32 × Mem)))))).bind (Sum.elim (fun (z17 : Unit) => j_X2_run_92 σ9 i10 v14) some) : Option ((Mem × Int32) ⊕ ((Mem × Int32 × Int32) ⊕ ((Mem × Int32) ⊕ (Int32 × Mem))))).bind (Sum.elim (fun (z17 : (Mem × Int32)) => j_X2_run_129 i11 z17.1 z17.2) some)))))))
noncomputable def j_X2_run_37 (x0 : Nat) (x1 : Int32) (σ5 : Mem) : Option (Int32 × Mem) :=
  (loopO (fun (z11 : (Mem × Int32 × Int32)) => l_X2_run_42 x0 x1 z11.1 z11.2.1 z11.2.2) (σ5, 0, 0) : Option ((Mem × Int32) ⊕ (Int32 × Mem))).bind (Sum.elim (fun (z7 : (Mem × Int32)) => j_X2_run_135 z7.1 z7.2) some)
noncomputable def l_X2_run_17 (σ24 : Mem) (i25 : Int32) : Option ((Mem × Int32) ⊕ Mem) :=
  if i25 < 0 then (some (Sum.inr σ24)) else (gI σ24 36 i25 (fun (v26 : Int32) => (f_X2_putAhead σ24 v26).bind (fun (σ27 : Mem) => some (Sum.inl (σ27, i25 + (-1))))))
noncomputable def f_X2_run (σ : Mem) (x0 : Nat) (x1 : Int32) : Option (Int32 × Mem) :=
  pF σ 35 3 0 (fun (σ1 : Mem) => pF σ1 35 5 0 (fun (σ2 : Mem) => gF σ2 35 1 (fun (v3 : Int32) => bd (v3 - 1) (fun (v4 : Int32) => (loopO (fun (z25 : (Mem × Int32)) => l_X2_run_17 z25.1 z25.2) (σ2, v4) : Option Mem).bind (fun (z5 : Mem) => j_X2_run_37 x0 x1 z5)))))
theorem t_X2_run {w : Wd} (hw : WOK w) {σ : Mem} {x0 : Nat} {x1 : Int32} (hx0 : isk w x0 6) : JO w mu_X2_run vI σ [(0, .ref (adr w 35)), (1, .ref (adr w x0)), (2, .int x1)] [] 0 (f_X2_run σ x0 x1) some := by
  unfold f_X2_run
  refine jo_aload_n (pc := 0) 0 rfl dX2_run_0 rfl ?_
  refine jo_iconst (pc := 1) dX2_run_1 (ic_i_0) ?_
  refine jo_putf (pc := 2) ok_2_3 okp_2_3 (ik_35 hw) gw_243 dX2_run_2 (fun σ1 => ?_)
  refine jo_aload_n (pc := 5) 0 rfl dX2_run_5 rfl ?_
  refine jo_iconst (pc := 6) dX2_run_6 (ic_i_0) ?_
  refine jo_putf (pc := 7) ok_2_5 okp_2_5 (ik_35 hw) gw_245 dX2_run_7 (fun σ2 => ?_)
  refine jo_aload_n (pc := 10) 0 rfl dX2_run_10 rfl ?_
  refine jo_getf (pc := 11) ok_2_1 (ik_35 hw) gw_241 dX2_run_11 (fun v3 => ?_)
  refine jo_iconst (pc := 14) dX2_run_14 (ic_i_1) ?_
  refine jo_isub (pc := 15) dX2_run_15 ?_
  refine jo_bd ?_
  refine jo_istore_n (pc := 16) (lv' := [(3, .int (v3 - 1)), (0, .ref (adr w 35)), (1, .ref (adr w x0)), (2, .int x1)]) dX2_run_16 rfl (ltb rfl) rfl ?_
  generalize (v3 - 1) = v4
  refine jo_join1 (S := Mem) (fun (z5 : Mem) => z5) (fun (z5 : Mem) => [(0, .ref (adr w 35)), (1, .ref (adr w x0)), (2, .int x1)]) (fun (z5 : Mem) => []) 37 ?_ (fun h37_5 => ?_)
  · intro σ5
    show JO w mu_X2_run vI σ5 [(0, .ref (adr w 35)), (1, .ref (adr w x0)), (2, .int x1)] [] 37 (j_X2_run_37 x0 x1 σ5) _
    unfold j_X2_run_37
    refine jo_iconst (pc := 37) dX2_run_37 (ic_i_0) ?_
    refine jo_istore_n (pc := 38) (lv' := [(3, .int 0), (0, .ref (adr w 35)), (1, .ref (adr w x0)), (2, .int x1)]) dX2_run_38 rfl (ltb rfl) rfl ?_
    refine jo_iconst (pc := 39) dX2_run_39 (ic_i_0) ?_
    refine jo_istore (pc := 40) (lv' := [(4, .int 0), (3, .int 0), (0, .ref (adr w 35)), (1, .ref (adr w x0)), (2, .int x1)]) dX2_run_40 (ltb rfl) rfl ?_
    refine jo_joinS (S := (Mem × Int32)) (fun (z7 : (Mem × Int32)) => z7.1) (fun (z7 : (Mem × Int32)) => [(0, .ref (adr w 35)), (3, .int z7.2)]) (fun (z7 : (Mem × Int32)) => []) 135 ?_ (fun h135_7 => ?_)
    · intro s
      obtain ⟨σ6, i7⟩ := s
      show JO w mu_X2_run vI σ6 [(0, .ref (adr w 35)), (3, .int i7)] [] 135 (j_X2_run_135 σ6 i7) _
      unfold j_X2_run_135
      refine jo_aload_n (pc := 135) 0 rfl dX2_run_135 rfl ?_
      refine jo_cV_V_i (pc := 136) (μ' := mu_X2_countLetters) (fx := f_X2_countLetters σ6) (As := []) (c_X2_countLetters hw) (ok_X2_countLetters) (ltb rfl) (all3 gw_590 gw_592 gw_5) (ik_35 hw) (by decide) (q := (RX2, TX2, 7)) rfl rfl rfl rfl (Nat.le_of_ble_eq_true rfl) dX2_run_136 (fun σ8 => ?_)
      refine jo_iload_n (pc := 139) 1 rfl dX2_run_139 rfl ?_
      exact jo_ireturn (pc := 140) rfl rfl dX2_run_140
    · refine jo_lv (lv' := [(0, .ref (adr w 35)), (1, .ref (adr w x0)), (2, .int x1), (3, .int 0), (4, .int 0)]) [2, 3, 4, 1, 0] rfl ?_
      refine jo_loop (X := (Mem × Int32) ⊕ (Int32 × Mem)) (fun (z11 : (Mem × Int32 × Int32)) => z11.1) (fun (z11 : (Mem × Int32 × Int32)) => [(0, .ref (adr w 35)), (1, .ref (adr w x0)), (2, .int x1), (3, .int z11.2.1), (4, .int z11.2.2)]) (body := (fun (z11 : (Mem × Int32 × Int32)) => l_X2_run_42 x0 x1 z11.1 z11.2.1 z11.2.2)) (fun F42_11 hF42_11 s => ?_) (σ5, 0, 0)
      obtain ⟨σ9, i10, i11⟩ := s
      show JO w mu_X2_run vI σ9 [(0, .ref (adr w 35)), (1, .ref (adr w x0)), (2, .int x1), (3, .int i10), (4, .int i11)] [] 42 (l_X2_run_42 x0 x1 σ9 i10 i11) _
      unfold l_X2_run_42
      refine jo_iload (pc := 42) 4 rfl dX2_run_42 ?_
      refine jo_ldc (pc := 44) dX2_run_44 gw_581 ?_
      refine jo_icmp_ge (pc := 46) dX2_run_46 (tgt := 135) rfl ?_ ?_
      · refine jo_lv (lv' := [(0, .ref (adr w 35)), (3, .int i10)]) [0, 3] rfl ?_
        exact jo_leaf (by rfl) (h135_7 (σ9, i10))
      · refine jo_aload_n (pc := 49) 0 rfl dX2_run_49 rfl ?_
        refine jo_getf (pc := 50) ok_2_5 (ik_35 hw) gw_245 dX2_run_50 (fun v12 => ?_)
        refine jo_if_le (pc := 53) dX2_run_53 (tgt := 135) rfl ?_ ?_
        · refine jo_lv (lv' := [(0, .ref (adr w 35)), (3, .int i10)]) [0, 3] rfl ?_
          exact jo_leaf (by rfl) (h135_7 (σ9, i10))
        · refine jo_aload_n (pc := 56) 0 rfl dX2_run_56 rfl ?_
          refine jo_getrE (pc := 57) ok_2_4 (ik_35 hw) rf_35_4 gw_244 dX2_run_57 ?_
          refine jo_aload_n (pc := 60) 0 rfl dX2_run_60 rfl ?_
          refine jo_getf (pc := 61) ok_2_5 (ik_35 hw) gw_245 dX2_run_61 (fun v13 => ?_)
          refine jo_iconst (pc := 64) dX2_run_64 (ic_i_1) ?_
          refine jo_isub (pc := 65) dX2_run_65 ?_
          refine jo_iald (pc := 66) (ik_38 hw) dX2_run_66 (fun v14 => ?_)
          refine jo_istore (pc := 67) (lv' := [(5, .int v14), (0, .ref (adr w 35)), (1, .ref (adr w x0)), (2, .int x1), (3, .int i10), (4, .int i11)]) dX2_run_67 (ltb rfl) rfl ?_
          refine jo_aload_n (pc := 69) 1 rfl dX2_run_69 rfl ?_
          refine jo_getf (pc := 70) ok_2_3 (ik_35 hw) gw_243 dX2_run_70 (fun v15 => ?_)
          refine jo_joinS (S := (Mem × Int32)) (fun (z17 : (Mem × Int32)) => z17.1) (fun (z17 : (Mem × Int32)) => [(0, .ref (adr w 35)), (1, .ref (adr w x0)), (2, .int x1), (4, .int i11), (3, .int z17.2)]) (fun (z17 : (Mem × Int32)) => []) 129 ?_ (fun h129_17 => ?_)
          · intro s
            obtain ⟨σ16, i17⟩ := s
            show JO w mu_X2_run vI σ16 [(0, .ref (adr w 35)), (1, .ref (adr w x0)), (2, .int x1), (4, .int i11), (3, .int i17)] [] 129 (j_X2_run_129 i11 σ16 i17) _
            unfold j_X2_run_129
            refine jo_iinc (pc := 129) (lv' := [(4, .int (i11 + 1)), (0, .ref (adr w 35)), (1, .ref (adr w x0)), (2, .int x1), (3, .int i17)]) 3 rfl dX2_run_129 (congrArg (fun z => i11 + z) (ic_i_1)) (ltb rfl) rfl ?_
            refine jo_goto (pc := 132) dX2_run_132 (tgt := 42) rfl ?_
            refine jo_lv (lv' := [(0, .ref (adr w 35)), (1, .ref (adr w x0)), (2, .int x1), (3, .int i17), (4, .int (i11 + 1))]) [1, 2, 3, 4, 0] rfl ?_
            exact jo_leaf (by rfl) (hF42_11 (σ16, i17, i11 + 1))
          · refine jo_joinS (S := Unit) (fun (z17 : Unit) => σ9) (fun (z17 : Unit) => [(5, .int v14), (0, .ref (adr w 35)), (1, .ref (adr w x0)), (2, .int x1), (3, .int i10), (4, .int i11)]) (fun (z17 : Unit) => []) 92 ?_ (fun h92_17 => ?_)
            · intro _
              show JO w mu_X2_run vI σ9 [(5, .int v14), (0, .ref (adr w 35)), (1, .ref (adr w x0)), (2, .int x1), (3, .int i10), (4, .int i11)] [] 92 (j_X2_run_92 σ9 i10 v14) _
              unfold j_X2_run_92
              refine jo_aload_n (pc := 92) 1 rfl dX2_run_92 rfl ?_
              refine jo_iload (pc := 93) 0 rfl dX2_run_93 ?_
              refine jo_cV_V_i (pc := 95) (μ' := mu_X2_moveOn) (fx := f_X2_moveOn σ9 v14) (As := [.int v14]) (c_X2_moveOn hw) (ok_X2_moveOn) (ltb rfl) (all3 gw_582 gw_584 gw_3) (ik_35 hw) (by decide) (q := (RX2, TX2, 7)) rfl rfl rfl rfl (Nat.le_of_ble_eq_true rfl) dX2_run_95 (fun σ18 => ?_)
              refine jo_goto (pc := 98) dX2_run_98 (tgt := 129) rfl ?_
              refine jo_lv (lv' := [(0, .ref (adr w 35)), (1, .ref (adr w x0)), (2, .int x1), (4, .int i11), (3, .int i10)]) [1, 2, 3, 5, 4] rfl ?_
              exact jo_leaf (by rfl) (h129_17 (σ18, i10))
            · refine jo_if_eq (pc := 73) dX2_run_73 (tgt := 92) rfl ?_ ?_
              · exact jo_leaf (by rfl) (h92_17 ())
              · refine jo_aload_n (pc := 76) 1 rfl dX2_run_76 rfl ?_
                refine jo_getrE (pc := 77) ok_2_2 (ik_35 hw) rf_35_2 gw_242 dX2_run_77 ?_
                refine jo_aload_n (pc := 80) 1 rfl dX2_run_80 rfl ?_
                refine jo_getf (pc := 81) ok_2_3 (ik_35 hw) gw_243 dX2_run_81 (fun v19 => ?_)
                refine jo_iconst (pc := 84) dX2_run_84 (ic_i_1) ?_
                refine jo_isub (pc := 85) dX2_run_85 ?_
                refine jo_iald (pc := 86) (ik_37 hw) dX2_run_86 (fun v20 => ?_)
                refine jo_iload (pc := 87) 0 rfl dX2_run_87 ?_
                refine jo_icmp_gt (pc := 89) dX2_run_89 (tgt := 101) rfl ?_ ?_
                · refine jo_iload_n (pc := 101) 4 rfl dX2_run_101 rfl ?_
                  refine jo_iload_n (pc := 102) 3 rfl dX2_run_102 rfl ?_
                  refine jo_icmp_ne (pc := 103) dX2_run_103 (tgt := 108) rfl ?_ ?_
                  · refine jo_iinc (pc := 108) (lv' := [(3, .int (i10 + 1)), (5, .int v14), (0, .ref (adr w 35)), (1, .ref (adr w x0)), (2, .int x1), (4, .int i11)]) 4 rfl dX2_run_108 (congrArg (fun z => i10 + z) (ic_i_1)) (ltb rfl) rfl ?_
                    refine jo_aload_n (pc := 111) 2 rfl dX2_run_111 rfl ?_
                    refine jo_aload_n (pc := 112) 3 rfl dX2_run_112 rfl ?_
                    refine jo_aload_n (pc := 113) 2 rfl dX2_run_113 rfl ?_
                    refine jo_getrE (pc := 114) ok_2_2 (ik_35 hw) rf_35_2 gw_242 dX2_run_114 ?_
                    refine jo_aload_n (pc := 117) 2 rfl dX2_run_117 rfl ?_
                    refine jo_getf (pc := 118) ok_2_3 (ik_35 hw) gw_243 dX2_run_118 (fun v21 => ?_)
                    refine jo_iconst (pc := 121) dX2_run_121 (ic_i_1) ?_
                    refine jo_isub (pc := 122) dX2_run_122 ?_
                    refine jo_iald (pc := 123) (ik_37 hw) dX2_run_123 (fun v22 => ?_)
                    refine jo_iload (pc := 124) 1 rfl dX2_run_124 ?_
                    refine jo_cV_V_i (pc := 126) (μ' := mu_X2_exchange) (fx := f_X2_exchange σ9 x0 v22 v14) (As := [.ref (adr w x0), .int v22, .int v14]) (c_X2_exchange hw (hx0)) (ok_X2_exchange) (ltb rfl) (all3 gw_586 gw_588 gw_4) (ik_35 hw) (by decide) (q := (RX2, TX2, 7)) rfl rfl rfl rfl (Nat.le_of_ble_eq_true rfl) dX2_run_126 (fun σ23 => ?_)
                    refine jo_lv (lv' := [(0, .ref (adr w 35)), (1, .ref (adr w x0)), (2, .int x1), (4, .int i11), (3, .int (i10 + 1))]) [2, 3, 4, 5, 0] rfl ?_
                    exact jo_leaf (by rfl) (h129_17 (σ23, i10 + 1))
                  · refine jo_iconst (pc := 106) dX2_run_106 (ic_i_m1) ?_
                    exact jo_ireturn (pc := 107) rfl rfl dX2_run_107
                · exact jo_leaf (by rfl) (h92_17 ())
  · refine jo_lv (lv' := [(0, .ref (adr w 35)), (1, .ref (adr w x0)), (2, .int x1), (3, .int v4)]) [1, 2, 3, 0] rfl ?_
    refine jo_loop (X := Mem) (fun (z25 : (Mem × Int32)) => z25.1) (fun (z25 : (Mem × Int32)) => [(0, .ref (adr w 35)), (1, .ref (adr w x0)), (2, .int x1), (3, .int z25.2)]) (body := (fun (z25 : (Mem × Int32)) => l_X2_run_17 z25.1 z25.2)) (fun F17_25 hF17_25 s => ?_) (σ2, v4)
    obtain ⟨σ24, i25⟩ := s
    show JO w mu_X2_run vI σ24 [(0, .ref (adr w 35)), (1, .ref (adr w x0)), (2, .int x1), (3, .int i25)] [] 17 (l_X2_run_17 σ24 i25) _
    unfold l_X2_run_17
    refine jo_iload_n (pc := 17) 3 rfl dX2_run_17 rfl ?_
    refine jo_if_lt (pc := 18) dX2_run_18 (tgt := 37) rfl ?_ ?_
    · refine jo_lv (lv' := [(0, .ref (adr w 35)), (1, .ref (adr w x0)), (2, .int x1)]) [0, 1, 2] rfl ?_
      exact jo_leaf (by rfl) (h37_5 σ24)
    · refine jo_aload_n (pc := 21) 0 rfl dX2_run_21 rfl ?_
      refine jo_aload_n (pc := 22) 0 rfl dX2_run_22 rfl ?_
      refine jo_getrE (pc := 23) ok_2_0 (ik_35 hw) rf_35_0 gw_240 dX2_run_23 ?_
      refine jo_iload_n (pc := 26) 3 rfl dX2_run_26 rfl ?_
      refine jo_iald (pc := 27) (ik_36 hw) dX2_run_27 (fun v26 => ?_)
      refine jo_cV_V_i (pc := 28) (μ' := mu_X2_putAhead) (fx := f_X2_putAhead σ24 v26) (As := [.int v26]) (c_X2_putAhead hw) (ok_X2_putAhead) (ltb rfl) (all3 gw_577 gw_579 gw_2) (ik_35 hw) (by decide) (q := (RX2, TX2, 7)) rfl rfl rfl rfl (Nat.le_of_ble_eq_true rfl) dX2_run_28 (fun σ27 => ?_)
      refine jo_iinc (pc := 31) (lv' := [(3, .int (i25 + (-1))), (0, .ref (adr w 35)), (1, .ref (adr w x0)), (2, .int x1)]) 3 rfl dX2_run_31 (congrArg (fun z => i25 + z) (ic_i_m1)) (ltb rfl) rfl ?_
      refine jo_goto (pc := 34) dX2_run_34 (tgt := 17) rfl ?_
      refine jo_lv (lv' := [(0, .ref (adr w 35)), (1, .ref (adr w x0)), (2, .int x1), (3, .int (i25 + (-1)))]) [1, 2, 3, 0] rfl ?_
      exact jo_leaf (by rfl) (hF17_25 (σ27, i25 + (-1)))
theorem c_X2_run {w : Wd} (hw : WOK w) {σ : Mem} {x0 : Nat} {x1 : Int32} (hx0 : isk w x0 6) : ∀ r σ', f_X2_run σ x0 x1 = some (r, σ') → MC w mu_X2_run (vI r) [.ref (adr w 35), .ref (adr w x0), .int x1] σ σ' := mc_of ok_X2_run rfl (Nat.le_of_ble_eq_true rfl) (t_X2_run hw hx0)
abbrev mu_J9_min_7cf53 : MD := (yJ9_min_7cf53, cJ9_min_7cf53, 2, some .int, 0)
theorem ok_J9_min_7cf53 : MOK mu_J9_min_7cf53 2 := ⟨gw_709, gw_172, (by decide +kernel : plainFor yJ9_min_7cf53 = true), ⟨(by decide +kernel : yJ9_min_7cf53.cls ≠ "java/lang/invoke/MethodHandle"), (by decide +kernel : yJ9_min_7cf53.cls ≠ "java/lang/invoke/VarHandle"), (by decide +kernel : (parseMethodDescriptor yJ9_min_7cf53.desc).map (fun d => d.parameters.length) = some 2)⟩, Nat.le_of_ble_eq_true rfl⟩
noncomputable def f_J9_min_7cf53 (σ : Mem) (x0 : Int32) (x1 : Int32) : Option Int32 :=
  if x1 < x0 then (some x1) else (some x0)
theorem t_J9_min_7cf53 {w : Wd} (hw : WOK w) {σ : Mem} {x0 : Int32} {x1 : Int32} : JO w mu_J9_min_7cf53 vI σ [(0, .int x0), (1, .int x1)] [] 0 (f_J9_min_7cf53 σ x0 x1) (fun z => some (z, σ)) := by
  unfold f_J9_min_7cf53
  refine jo_iload_n (pc := 0) 0 rfl dJ9_min_7cf53_0 rfl ?_
  refine jo_iload_n (pc := 1) 1 rfl dJ9_min_7cf53_1 rfl ?_
  refine jo_icmp_gt (pc := 2) dJ9_min_7cf53_2 (tgt := 9) rfl ?_ ?_
  · refine jo_iload_n (pc := 9) 1 rfl dJ9_min_7cf53_9 rfl ?_
    exact jo_ireturn (pc := 10) rfl rfl dJ9_min_7cf53_10
  · refine jo_iload_n (pc := 5) 0 rfl dJ9_min_7cf53_5 rfl ?_
    refine jo_goto (pc := 6) dJ9_min_7cf53_6 (tgt := 10) rfl ?_
    exact jo_ireturn (pc := 10) rfl rfl dJ9_min_7cf53_10
theorem c_J9_min_7cf53 {w : Wd} (hw : WOK w) {σ : Mem} {x0 : Int32} {x1 : Int32} : ∀ r, f_J9_min_7cf53 σ x0 x1 = some r → MC w mu_J9_min_7cf53 (vI r) [.int x0, .int x1] σ σ := mc_ofP ok_J9_min_7cf53 rfl (Nat.le_of_ble_eq_true rfl) (t_J9_min_7cf53 hw)
abbrev mu_J9_max_7cf53 : MD := (yJ9_max_7cf53, cJ9_max_7cf53, 2, some .int, 0)
theorem ok_J9_max_7cf53 : MOK mu_J9_max_7cf53 2 := ⟨gw_753, gw_172, (by decide +kernel : plainFor yJ9_max_7cf53 = true), ⟨(by decide +kernel : yJ9_max_7cf53.cls ≠ "java/lang/invoke/MethodHandle"), (by decide +kernel : yJ9_max_7cf53.cls ≠ "java/lang/invoke/VarHandle"), (by decide +kernel : (parseMethodDescriptor yJ9_max_7cf53.desc).map (fun d => d.parameters.length) = some 2)⟩, Nat.le_of_ble_eq_true rfl⟩
noncomputable def f_J9_max_7cf53 (σ : Mem) (x0 : Int32) (x1 : Int32) : Option Int32 :=
  if x0 < x1 then (some x1) else (some x0)
theorem t_J9_max_7cf53 {w : Wd} (hw : WOK w) {σ : Mem} {x0 : Int32} {x1 : Int32} : JO w mu_J9_max_7cf53 vI σ [(0, .int x0), (1, .int x1)] [] 0 (f_J9_max_7cf53 σ x0 x1) (fun z => some (z, σ)) := by
  unfold f_J9_max_7cf53
  refine jo_iload_n (pc := 0) 0 rfl dJ9_max_7cf53_0 rfl ?_
  refine jo_iload_n (pc := 1) 1 rfl dJ9_max_7cf53_1 rfl ?_
  refine jo_icmp_lt (pc := 2) dJ9_max_7cf53_2 (tgt := 9) rfl ?_ ?_
  · refine jo_iload_n (pc := 9) 1 rfl dJ9_max_7cf53_9 rfl ?_
    exact jo_ireturn (pc := 10) rfl rfl dJ9_max_7cf53_10
  · refine jo_iload_n (pc := 5) 0 rfl dJ9_max_7cf53_5 rfl ?_
    refine jo_goto (pc := 6) dJ9_max_7cf53_6 (tgt := 10) rfl ?_
    exact jo_ireturn (pc := 10) rfl rfl dJ9_max_7cf53_10
theorem c_J9_max_7cf53 {w : Wd} (hw : WOK w) {σ : Mem} {x0 : Int32} {x1 : Int32} : ∀ r, f_J9_max_7cf53 σ x0 x1 = some r → MC w mu_J9_max_7cf53 (vI r) [.int x0, .int x1] σ σ := mc_ofP ok_J9_max_7cf53 rfl (Nat.le_of_ble_eq_true rfl) (t_J9_max_7cf53 hw)
abbrev mu_X3_clear : MD := (yX3_clear, cX3_clear, 3, none, 1)
theorem ok_X3_clear : MOK mu_X3_clear 1 := ⟨gw_1128, gw_166, (by decide +kernel : plainFor yX3_clear = true), ⟨(by decide +kernel : yX3_clear.cls ≠ "java/lang/invoke/MethodHandle"), (by decide +kernel : yX3_clear.cls ≠ "java/lang/invoke/VarHandle"), (by decide +kernel : (parseMethodDescriptor yX3_clear.desc).map (fun d => d.parameters.length) = some 1)⟩, Nat.le_of_ble_eq_true rfl⟩
noncomputable def l_X3_clear_16 (a : Nat) (σ4 : Mem) (i5 : Int32) : Option ((Mem × Int32) ⊕ Mem) :=
  if 6 ≤ i5 then (some (Sum.inr σ4)) else (gR (rf a 1) i5 (fun (p6 : Nat) => (f_J7_fill_d0a16 σ4 p6 0).bind (fun (σ7 : Mem) => some (Sum.inl (σ7, i5 + 1)))))
noncomputable def f_X3_clear (σ : Mem) (a : Nat) (x0 : Int32) : Option Mem :=
  (f_J9_min_7cf53 σ x0 6).bind (fun (v1 : Int32) => (f_J9_max_7cf53 σ 0 v1).bind (fun (v2 : Int32) => pF σ a 0 v2 (fun (σ3 : Mem) => loopO (fun (z5 : (Mem × Int32)) => l_X3_clear_16 a z5.1 z5.2) (σ3, 0))))
theorem t_X3_clear {w : Wd} (hw : WOK w) {σ : Mem} {a : Nat} {x0 : Int32} (ha : isk w a 3) : JO w mu_X3_clear vV σ [(0, .ref (adr w a)), (1, .int x0)] [] 0 (f_X3_clear σ a x0) (fun z => some ((), z)) := by
  unfold f_X3_clear
  refine jo_aload_n (pc := 0) 0 rfl dX3_clear_0 rfl ?_
  refine jo_iconst (pc := 1) dX3_clear_1 (ic_i_0) ?_
  refine jo_iload_n (pc := 2) 1 rfl dX3_clear_2 rfl ?_
  refine jo_bipush (pc := 3) dX3_clear_3 (ic_b_6) ?_
  refine jo_cS_I_p (pc := 5) (μ' := mu_J9_min_7cf53) (fx := f_J9_min_7cf53 σ x0 6) (As := [.int x0, .int 6]) (c_J9_min_7cf53 hw) (ok_J9_min_7cf53) (ltb rfl) (all2 gw_1129 gw_708) rfl rfl (Nat.le_of_ble_eq_true rfl) dX3_clear_5 (fun v1 => ?_)
  refine jo_cS_I_p (pc := 8) (μ' := mu_J9_max_7cf53) (fx := f_J9_max_7cf53 σ 0 v1) (As := [.int 0, .int v1]) (c_J9_max_7cf53 hw) (ok_J9_max_7cf53) (ltb rfl) (all2 gw_1130 gw_752) rfl rfl (Nat.le_of_ble_eq_true rfl) dX3_clear_8 (fun v2 => ?_)
  refine jo_putf (pc := 11) ok_3_0 okp_3_0 (ha) gw_378 dX3_clear_11 (fun σ3 => ?_)
  refine jo_iconst (pc := 14) dX3_clear_14 (ic_i_0) ?_
  refine jo_istore_n (pc := 15) (lv' := [(2, .int 0), (0, .ref (adr w a)), (1, .int x0)]) dX3_clear_15 rfl (ltb rfl) rfl ?_
  refine jo_lv (lv' := [(0, .ref (adr w a)), (2, .int 0)]) [1, 0] rfl ?_
  refine jo_loop (X := Mem) (fun (z5 : (Mem × Int32)) => z5.1) (fun (z5 : (Mem × Int32)) => [(0, .ref (adr w a)), (2, .int z5.2)]) (body := (fun (z5 : (Mem × Int32)) => l_X3_clear_16 a z5.1 z5.2)) (fun F16_5 hF16_5 s => ?_) (σ3, 0)
  obtain ⟨σ4, i5⟩ := s
  show JO w mu_X3_clear vV σ4 [(0, .ref (adr w a)), (2, .int i5)] [] 16 (l_X3_clear_16 a σ4 i5) _
  unfold l_X3_clear_16
  refine jo_iload_n (pc := 16) 1 rfl dX3_clear_16 rfl ?_
  refine jo_bipush (pc := 17) dX3_clear_17 (ic_b_6) ?_
  refine jo_icmp_ge (pc := 19) dX3_clear_19 (tgt := 38) rfl ?_ ?_
  · exact jo_return (pc := 38) rfl rfl dX3_clear_38
  · refine jo_aload_n (pc := 22) 0 rfl dX3_clear_22 rfl ?_
    refine jo_getr (pc := 23) ok_3_1 (ha) gw_379 dX3_clear_23 ?_
    refine jo_iload_n (pc := 26) 1 rfl dX3_clear_26 rfl ?_
    refine jo_aaldG (pc := 27) (z := 13) hw (wf_3_1 hw (ha)) (by decide) (t := 4) rfl rfl (by decide) dX3_clear_27 (fun p6 hp6 => ?_)
    refine jo_lconst (pc := 28) dX3_clear_28 (ic_l_0) ?_
    refine jo_cS_V_i (pc := 29) (μ' := mu_J7_fill_d0a16) (fx := f_J7_fill_d0a16 σ4 p6 0) (As := [.ref (adr w p6), .long 0]) (c_J7_fill_d0a16 hw (hp6)) (ok_J7_fill_d0a16) (ltb rfl) (all2 gw_1131 gw_715) rfl rfl (Nat.le_of_ble_eq_true rfl) dX3_clear_29 (fun σ7 => ?_)
    refine jo_iinc (pc := 32) (lv' := [(2, .int (i5 + 1)), (0, .ref (adr w a))]) 1 rfl dX3_clear_32 (congrArg (fun z => i5 + z) (ic_i_1)) (ltb rfl) rfl ?_
    refine jo_goto (pc := 35) dX3_clear_35 (tgt := 16) rfl ?_
    refine jo_lv (lv' := [(0, .ref (adr w a)), (2, .int (i5 + 1))]) [1, 0] rfl ?_
    exact jo_leaf (by rfl) (hF16_5 (σ7, i5 + 1))
theorem c_X3_clear {w : Wd} (hw : WOK w) {σ : Mem} {a : Nat} {x0 : Int32} (ha : isk w a 3) : ∀ σ', f_X3_clear σ a x0 = some σ' → MC w mu_X3_clear none [.ref (adr w a), .int x0] σ σ' := mc_ofV ok_X3_clear rfl (Nat.le_of_ble_eq_true rfl) (t_X3_clear hw ha)
abbrev mu_X3_hasStep : MD := (yX3_hasStep, cX3_hasStep, 2, some .boolean, 0)
theorem ok_X3_hasStep : MOK mu_X3_hasStep 1 := ⟨gw_1216, gw_166, (by decide +kernel : plainFor yX3_hasStep = true), ⟨(by decide +kernel : yX3_hasStep.cls ≠ "java/lang/invoke/MethodHandle"), (by decide +kernel : yX3_hasStep.cls ≠ "java/lang/invoke/VarHandle"), (by decide +kernel : (parseMethodDescriptor yX3_hasStep.desc).map (fun d => d.parameters.length) = some 1)⟩, Nat.le_of_ble_eq_true rfl⟩
noncomputable def j_X3_hasStep_29  : Option Bool :=
  some false
noncomputable def f_X3_hasStep (σ : Mem) (a : Nat) (x0 : Int32) : Option Bool :=
  (if x0 < 0 then (some (Sum.inl ())) else (gF σ a 0 (fun (v1 : Int32) => if v1 ≤ x0 then (some (Sum.inl ())) else (gR (rf a 1) x0 (fun (p2 : Nat) => gL σ p2 x0 (fun (v3 : Int64) => if v3 = 0 then (some (Sum.inl ())) else (some (Sum.inr true))))))) : Option (Unit ⊕ Bool)).bind (Sum.elim (fun (z0 : Unit) => j_X3_hasStep_29) some)
theorem t_X3_hasStep {w : Wd} (hw : WOK w) {σ : Mem} {a : Nat} {x0 : Int32} (ha : isk w a 3) : JO w mu_X3_hasStep vB σ [(0, .ref (adr w a)), (1, .int x0)] [] 0 (f_X3_hasStep σ a x0) (fun z => some (z, σ)) := by
  unfold f_X3_hasStep
  refine jo_iload_n (pc := 0) 1 rfl dX3_hasStep_0 rfl ?_
  refine jo_joinS (S := Unit) (fun (z0 : Unit) => σ) (fun (z0 : Unit) => []) (fun (z0 : Unit) => []) 29 ?_ (fun h29_0 => ?_)
  · intro _
    show JO w mu_X3_hasStep vB σ [] [] 29 (j_X3_hasStep_29) _
    unfold j_X3_hasStep_29
    refine jo_iconst (pc := 29) dX3_hasStep_29 (ic_i_0) ?_
    exact jo_breturn (pc := 30) (b := false) rfl rfl dX3_hasStep_30
  · refine jo_if_lt (pc := 1) dX3_hasStep_1 (tgt := 29) rfl ?_ ?_
    · refine jo_lv (lv' := []) [] rfl ?_
      exact jo_leaf (by rfl) (h29_0 ())
    · refine jo_iload_n (pc := 4) 1 rfl dX3_hasStep_4 rfl ?_
      refine jo_aload_n (pc := 5) 0 rfl dX3_hasStep_5 rfl ?_
      refine jo_getf (pc := 6) ok_3_0 (ha) gw_378 dX3_hasStep_6 (fun v1 => ?_)
      refine jo_icmp_ge (pc := 9) dX3_hasStep_9 (tgt := 29) rfl ?_ ?_
      · refine jo_lv (lv' := []) [] rfl ?_
        exact jo_leaf (by rfl) (h29_0 ())
      · refine jo_aload_n (pc := 12) 0 rfl dX3_hasStep_12 rfl ?_
        refine jo_getr (pc := 13) ok_3_1 (ha) gw_379 dX3_hasStep_13 ?_
        refine jo_iload_n (pc := 16) 1 rfl dX3_hasStep_16 rfl ?_
        refine jo_aaldG (pc := 17) (z := 13) hw (wf_3_1 hw (ha)) (by decide) (t := 4) rfl rfl (by decide) dX3_hasStep_17 (fun p2 hp2 => ?_)
        refine jo_iload_n (pc := 18) 1 rfl dX3_hasStep_18 rfl ?_
        refine jo_lald (pc := 19) (hp2) dX3_hasStep_19 (fun v3 => ?_)
        refine jo_lconst (pc := 20) dX3_hasStep_20 (ic_l_0) ?_
        refine jo_lcmp_eq (pc := 21) dX3_hasStep_21 dX3_hasStep_22 (tgt := 29) rfl ?_ ?_
        · refine jo_lv (lv' := []) [] rfl ?_
          exact jo_leaf (by rfl) (h29_0 ())
        · refine jo_iconst (pc := 25) dX3_hasStep_25 (ic_i_1) ?_
          refine jo_goto (pc := 26) dX3_hasStep_26 (tgt := 30) rfl ?_
          exact jo_breturn (pc := 30) (b := true) rfl rfl dX3_hasStep_30
theorem c_X3_hasStep {w : Wd} (hw : WOK w) {σ : Mem} {a : Nat} {x0 : Int32} (ha : isk w a 3) : ∀ r, f_X3_hasStep σ a x0 = some r → MC w mu_X3_hasStep (vB r) [.ref (adr w a), .int x0] σ σ := mc_ofP ok_X3_hasStep rfl (Nat.le_of_ble_eq_true rfl) (t_X3_hasStep hw ha)
abbrev mu_J9_floorDiv_f86c9 : MD := (yJ9_floorDiv_f86c9, cJ9_floorDiv_f86c9, 6, some .long, 0)
theorem ok_J9_floorDiv_f86c9 : MOK mu_J9_floorDiv_f86c9 2 := ⟨gw_1147, gw_172, (by decide +kernel : plainFor yJ9_floorDiv_f86c9 = true), ⟨(by decide +kernel : yJ9_floorDiv_f86c9.cls ≠ "java/lang/invoke/MethodHandle"), (by decide +kernel : yJ9_floorDiv_f86c9.cls ≠ "java/lang/invoke/VarHandle"), (by decide +kernel : (parseMethodDescriptor yJ9_floorDiv_f86c9.desc).map (fun d => d.parameters.length) = some 2)⟩, Nat.le_of_ble_eq_true rfl⟩
noncomputable def f_J9_floorDiv_f86c9 (σ : Mem) (x0 : Int64) (x1 : Int64) : Option Int64 :=
  nzL x1 (bd (x0 / x1) (fun (v1 : Int64) => if 0 ≤ (x0 ^^^ x1) then (some v1) else (if (v1 * x1) = x0 then (some v1) else (some (v1 - 1)))))
theorem t_J9_floorDiv_f86c9 {w : Wd} (hw : WOK w) {σ : Mem} {x0 : Int64} {x1 : Int64} : JO w mu_J9_floorDiv_f86c9 vL σ [(0, .long x0), (2, .long x1)] [] 0 (f_J9_floorDiv_f86c9 σ x0 x1) (fun z => some (z, σ)) := by
  unfold f_J9_floorDiv_f86c9
  refine jo_lload_n (pc := 0) 0 rfl dJ9_floorDiv_f86c9_0 rfl ?_
  refine jo_lload_n (pc := 1) 1 rfl dJ9_floorDiv_f86c9_1 rfl ?_
  refine jo_ldiv (pc := 2) dJ9_floorDiv_f86c9_2 ?_
  refine jo_bd ?_
  refine jo_lstore (pc := 3) (lv' := [(4, .long (x0 / x1)), (0, .long x0), (2, .long x1)]) dJ9_floorDiv_f86c9_3 (ltb rfl) rfl ?_
  generalize (x0 / x1) = v1
  refine jo_lload_n (pc := 5) 1 rfl dJ9_floorDiv_f86c9_5 rfl ?_
  refine jo_lload_n (pc := 6) 2 rfl dJ9_floorDiv_f86c9_6 rfl ?_
  refine jo_lxor (pc := 7) dJ9_floorDiv_f86c9_7 ?_
  refine jo_lconst (pc := 8) dJ9_floorDiv_f86c9_8 (ic_l_0) ?_
  refine jo_lcmp_ge (pc := 9) dJ9_floorDiv_f86c9_9 dJ9_floorDiv_f86c9_10 (tgt := 27) rfl ?_ ?_
  · refine jo_lload (pc := 27) 0 rfl dJ9_floorDiv_f86c9_27 ?_
    exact jo_lreturn (pc := 29) rfl rfl dJ9_floorDiv_f86c9_29
  · refine jo_lload (pc := 13) 0 rfl dJ9_floorDiv_f86c9_13 ?_
    refine jo_lload_n (pc := 15) 2 rfl dJ9_floorDiv_f86c9_15 rfl ?_
    refine jo_lmul (pc := 16) dJ9_floorDiv_f86c9_16 ?_
    refine jo_lload_n (pc := 17) 1 rfl dJ9_floorDiv_f86c9_17 rfl ?_
    refine jo_lcmp_eq (pc := 18) dJ9_floorDiv_f86c9_18 dJ9_floorDiv_f86c9_19 (tgt := 27) rfl ?_ ?_
    · refine jo_lload (pc := 27) 0 rfl dJ9_floorDiv_f86c9_27 ?_
      exact jo_lreturn (pc := 29) rfl rfl dJ9_floorDiv_f86c9_29
    · refine jo_lload (pc := 22) 0 rfl dJ9_floorDiv_f86c9_22 ?_
      refine jo_lconst (pc := 24) dJ9_floorDiv_f86c9_24 (ic_l_1) ?_
      refine jo_lsub (pc := 25) dJ9_floorDiv_f86c9_25 ?_
      exact jo_lreturn (pc := 26) rfl rfl dJ9_floorDiv_f86c9_26
theorem c_J9_floorDiv_f86c9 {w : Wd} (hw : WOK w) {σ : Mem} {x0 : Int64} {x1 : Int64} : ∀ r, f_J9_floorDiv_f86c9 σ x0 x1 = some r → MC w mu_J9_floorDiv_f86c9 (vL r) [.long x0, .long x1] σ σ := mc_ofP ok_J9_floorDiv_f86c9 rfl (Nat.le_of_ble_eq_true rfl) (t_J9_floorDiv_f86c9 hw)
abbrev mu_X3_subtract : MD := (yX3_subtract, cX3_subtract, 6, none, 0)
theorem ok_X3_subtract : MOK mu_X3_subtract 3 := ⟨gw_1151, gw_166, (by decide +kernel : plainFor yX3_subtract = true), ⟨(by decide +kernel : yX3_subtract.cls ≠ "java/lang/invoke/MethodHandle"), (by decide +kernel : yX3_subtract.cls ≠ "java/lang/invoke/VarHandle"), (by decide +kernel : (parseMethodDescriptor yX3_subtract.desc).map (fun d => d.parameters.length) = some 3)⟩, Nat.le_of_ble_eq_true rfl⟩
noncomputable def l_X3_subtract_3 (a : Nat) (x0 : Nat) (x1 : Nat) (x2 : Int64) (σ1 : Mem) (i2 : Int32) : Option ((Mem × Int32) ⊕ Mem) :=
  gF σ1 a 0 (fun (v3 : Int32) => if v3 ≤ i2 then (some (Sum.inr σ1)) else (gL σ1 x0 i2 (fun (v4 : Int64) => gL σ1 x1 i2 (fun (v5 : Int64) => pL σ1 x0 i2 (v4 - (x2 * v5)) (fun (σ6 : Mem) => some (Sum.inl (σ6, i2 + 1)))))))
noncomputable def f_X3_subtract (σ : Mem) (a : Nat) (x0 : Nat) (x1 : Nat) (x2 : Int64) : Option Mem :=
  loopO (fun (z2 : (Mem × Int32)) => l_X3_subtract_3 a x0 x1 x2 z2.1 z2.2) (σ, 0)
theorem t_X3_subtract {w : Wd} (hw : WOK w) {σ : Mem} {a : Nat} {x0 : Nat} {x1 : Nat} {x2 : Int64} (ha : isk w a 3) (hx0 : isk w x0 13) (hx1 : isk w x1 13) : JO w mu_X3_subtract vV σ [(0, .ref (adr w a)), (1, .ref (adr w x0)), (2, .ref (adr w x1)), (3, .long x2)] [] 0 (f_X3_subtract σ a x0 x1 x2) (fun z => some ((), z)) := by
  unfold f_X3_subtract
  refine jo_iconst (pc := 0) dX3_subtract_0 (ic_i_0) ?_
  refine jo_istore (pc := 1) (lv' := [(5, .int 0), (0, .ref (adr w a)), (1, .ref (adr w x0)), (2, .ref (adr w x1)), (3, .long x2)]) dX3_subtract_1 (ltb rfl) rfl ?_
  refine jo_lv (lv' := [(0, .ref (adr w a)), (1, .ref (adr w x0)), (2, .ref (adr w x1)), (3, .long x2), (5, .int 0)]) [1, 2, 3, 4, 0] rfl ?_
  refine jo_loop (X := Mem) (fun (z2 : (Mem × Int32)) => z2.1) (fun (z2 : (Mem × Int32)) => [(0, .ref (adr w a)), (1, .ref (adr w x0)), (2, .ref (adr w x1)), (3, .long x2), (5, .int z2.2)]) (body := (fun (z2 : (Mem × Int32)) => l_X3_subtract_3 a x0 x1 x2 z2.1 z2.2)) (fun F3_2 hF3_2 s => ?_) (σ, 0)
  obtain ⟨σ1, i2⟩ := s
  show JO w mu_X3_subtract vV σ1 [(0, .ref (adr w a)), (1, .ref (adr w x0)), (2, .ref (adr w x1)), (3, .long x2), (5, .int i2)] [] 3 (l_X3_subtract_3 a x0 x1 x2 σ1 i2) _
  unfold l_X3_subtract_3
  refine jo_iload (pc := 3) 4 rfl dX3_subtract_3 ?_
  refine jo_aload_n (pc := 5) 0 rfl dX3_subtract_5 rfl ?_
  refine jo_getf (pc := 6) ok_3_0 (ha) gw_378 dX3_subtract_6 (fun v3 => ?_)
  refine jo_icmp_ge (pc := 9) dX3_subtract_9 (tgt := 31) rfl ?_ ?_
  · exact jo_return (pc := 31) rfl rfl dX3_subtract_31
  · refine jo_aload_n (pc := 12) 1 rfl dX3_subtract_12 rfl ?_
    refine jo_iload (pc := 13) 4 rfl dX3_subtract_13 ?_
    refine jo_dup2 (pc := 15) dX3_subtract_15 rfl rfl ?_
    refine jo_lald (pc := 16) (hx0) dX3_subtract_16 (fun v4 => ?_)
    refine jo_lload_n (pc := 17) 3 rfl dX3_subtract_17 rfl ?_
    refine jo_aload_n (pc := 18) 2 rfl dX3_subtract_18 rfl ?_
    refine jo_iload (pc := 19) 4 rfl dX3_subtract_19 ?_
    refine jo_lald (pc := 21) (hx1) dX3_subtract_21 (fun v5 => ?_)
    refine jo_lmul (pc := 22) dX3_subtract_22 ?_
    refine jo_lsub (pc := 23) dX3_subtract_23 ?_
    refine jo_last (pc := 24) (hx0) dX3_subtract_24 (fun σ6 => ?_)
    refine jo_iinc (pc := 25) (lv' := [(5, .int (i2 + 1)), (0, .ref (adr w a)), (1, .ref (adr w x0)), (2, .ref (adr w x1)), (3, .long x2)]) 4 rfl dX3_subtract_25 (congrArg (fun z => i2 + z) (ic_i_1)) (ltb rfl) rfl ?_
    refine jo_goto (pc := 28) dX3_subtract_28 (tgt := 3) rfl ?_
    refine jo_lv (lv' := [(0, .ref (adr w a)), (1, .ref (adr w x0)), (2, .ref (adr w x1)), (3, .long x2), (5, .int (i2 + 1))]) [1, 2, 3, 4, 0] rfl ?_
    exact jo_leaf (by rfl) (hF3_2 (σ6, i2 + 1))
theorem c_X3_subtract {w : Wd} (hw : WOK w) {σ : Mem} {a : Nat} {x0 : Nat} {x1 : Nat} {x2 : Int64} (ha : isk w a 3) (hx0 : isk w x0 13) (hx1 : isk w x1 13) : ∀ σ', f_X3_subtract σ a x0 x1 x2 = some σ' → MC w mu_X3_subtract none [.ref (adr w a), .ref (adr w x0), .ref (adr w x1), .long x2] σ σ' := mc_ofV ok_X3_subtract rfl (Nat.le_of_ble_eq_true rfl) (t_X3_subtract hw ha hx0 hx1)
end
section
abbrev mu_X3_swapWithSpare : MD := (yX3_swapWithSpare, cX3_swapWithSpare, 5, none, 0)
theorem ok_X3_swapWithSpare : MOK mu_X3_swapWithSpare 1 := ⟨gw_1155, gw_166, (by decide +kernel : plainFor yX3_swapWithSpare = true), ⟨(by decide +kernel : yX3_swapWithSpare.cls ≠ "java/lang/invoke/MethodHandle"), (by decide +kernel : yX3_swapWithSpare.cls ≠ "java/lang/invoke/VarHandle"), (by decide +kernel : (parseMethodDescriptor yX3_swapWithSpare.desc).map (fun d => d.parameters.length) = some 1)⟩, Nat.le_of_ble_eq_true rfl⟩
noncomputable def l_X3_swapWithSpare_2 (a : Nat) (x0 : Nat) (σ1 : Mem) (i2 : Int32) : Option ((Mem × Int32) ⊕ Mem) :=
  gF σ1 a 0 (fun (v3 : Int32) => if v3 ≤ i2 then (some (Sum.inr σ1)) else (gL σ1 x0 i2 (fun (v4 : Int64) => gL σ1 (rf a 2) i2 (fun (v5 : Int64) => pL σ1 x0 i2 v5 (fun (σ6 : Mem) => pL σ6 (rf a 2) i2 v4 (fun (σ7 : Mem) => some (Sum.inl (σ7, i2 + 1))))))))
noncomputable def f_X3_swapWithSpare (σ : Mem) (a : Nat) (x0 : Nat) : Option Mem :=
  loopO (fun (z2 : (Mem × Int32)) => l_X3_swapWithSpare_2 a x0 z2.1 z2.2) (σ, 0)
theorem t_X3_swapWithSpare {w : Wd} (hw : WOK w) {σ : Mem} {a : Nat} {x0 : Nat} (ha : isk w a 3) (hx0 : isk w x0 13) : JO w mu_X3_swapWithSpare vV σ [(0, .ref (adr w a)), (1, .ref (adr w x0))] [] 0 (f_X3_swapWithSpare σ a x0) (fun z => some ((), z)) := by
  unfold f_X3_swapWithSpare
  refine jo_iconst (pc := 0) dX3_swapWithSpare_0 (ic_i_0) ?_
  refine jo_istore_n (pc := 1) (lv' := [(2, .int 0), (0, .ref (adr w a)), (1, .ref (adr w x0))]) dX3_swapWithSpare_1 rfl (ltb rfl) rfl ?_
  refine jo_lv (lv' := [(0, .ref (adr w a)), (1, .ref (adr w x0)), (2, .int 0)]) [1, 2, 0] rfl ?_
  refine jo_loop (X := Mem) (fun (z2 : (Mem × Int32)) => z2.1) (fun (z2 : (Mem × Int32)) => [(0, .ref (adr w a)), (1, .ref (adr w x0)), (2, .int z2.2)]) (body := (fun (z2 : (Mem × Int32)) => l_X3_swapWithSpare_2 a x0 z2.1 z2.2)) (fun F2_2 hF2_2 s => ?_) (σ, 0)
  obtain ⟨σ1, i2⟩ := s
  show JO w mu_X3_swapWithSpare vV σ1 [(0, .ref (adr w a)), (1, .ref (adr w x0)), (2, .int i2)] [] 2 (l_X3_swapWithSpare_2 a x0 σ1 i2) _
  unfold l_X3_swapWithSpare_2
  refine jo_iload_n (pc := 2) 2 rfl dX3_swapWithSpare_2 rfl ?_
  refine jo_aload_n (pc := 3) 0 rfl dX3_swapWithSpare_3 rfl ?_
  refine jo_getf (pc := 4) ok_3_0 (ha) gw_378 dX3_swapWithSpare_4 (fun v3 => ?_)
  refine jo_icmp_ge (pc := 7) dX3_swapWithSpare_7 (tgt := 36) rfl ?_ ?_
  · exact jo_return (pc := 36) rfl rfl dX3_swapWithSpare_36
  · refine jo_aload_n (pc := 10) 1 rfl dX3_swapWithSpare_10 rfl ?_
    refine jo_iload_n (pc := 11) 2 rfl dX3_swapWithSpare_11 rfl ?_
    refine jo_lald (pc := 12) (hx0) dX3_swapWithSpare_12 (fun v4 => ?_)
    refine jo_lstore_n (pc := 13) (lv' := [(3, .long v4), (0, .ref (adr w a)), (1, .ref (adr w x0)), (2, .int i2)]) dX3_swapWithSpare_13 rfl (ltb rfl) rfl ?_
    refine jo_aload_n (pc := 14) 2 rfl dX3_swapWithSpare_14 rfl ?_
    refine jo_iload_n (pc := 15) 3 rfl dX3_swapWithSpare_15 rfl ?_
    refine jo_aload_n (pc := 16) 1 rfl dX3_swapWithSpare_16 rfl ?_
    refine jo_getr (pc := 17) ok_3_2 (ha) gw_381 dX3_swapWithSpare_17 ?_
    refine jo_iload_n (pc := 20) 3 rfl dX3_swapWithSpare_20 rfl ?_
    refine jo_lald (pc := 21) (wf_3_2 hw (ha)) dX3_swapWithSpare_21 (fun v5 => ?_)
    refine jo_last (pc := 22) (hx0) dX3_swapWithSpare_22 (fun σ6 => ?_)
    refine jo_aload_n (pc := 23) 1 rfl dX3_swapWithSpare_23 rfl ?_
    refine jo_getr (pc := 24) ok_3_2 (ha) gw_381 dX3_swapWithSpare_24 ?_
    refine jo_iload_n (pc := 27) 3 rfl dX3_swapWithSpare_27 rfl ?_
    refine jo_lload_n (pc := 28) 0 rfl dX3_swapWithSpare_28 rfl ?_
    refine jo_last (pc := 29) (wf_3_2 hw (ha)) dX3_swapWithSpare_29 (fun σ7 => ?_)
    refine jo_iinc (pc := 30) (lv' := [(2, .int (i2 + 1)), (3, .long v4), (0, .ref (adr w a)), (1, .ref (adr w x0))]) 3 rfl dX3_swapWithSpare_30 (congrArg (fun z => i2 + z) (ic_i_1)) (ltb rfl) rfl ?_
    refine jo_goto (pc := 33) dX3_swapWithSpare_33 (tgt := 2) rfl ?_
    refine jo_lv (lv' := [(0, .ref (adr w a)), (1, .ref (adr w x0)), (2, .int (i2 + 1))]) [2, 3, 0] rfl ?_
    exact jo_leaf (by rfl) (hF2_2 (σ7, i2 + 1))
theorem c_X3_swapWithSpare {w : Wd} (hw : WOK w) {σ : Mem} {a : Nat} {x0 : Nat} (ha : isk w a 3) (hx0 : isk w x0 13) : ∀ σ', f_X3_swapWithSpare σ a x0 = some σ' → MC w mu_X3_swapWithSpare none [.ref (adr w a), .ref (adr w x0)] σ σ' := mc_ofV ok_X3_swapWithSpare rfl (Nat.le_of_ble_eq_true rfl) (t_X3_swapWithSpare hw ha hx0)
abbrev mu_X3_meet : MD := (yX3_meet, cX3_meet, 3, none, 1)
theorem ok_X3_meet : MOK mu_X3_meet 1 := ⟨gw_1144, gw_166, (by decide +kernel : plainFor yX3_meet = true), ⟨(by decide +kernel : yX3_meet.cls ≠ "java/lang/invoke/MethodHandle"), (by decide +kernel : yX3_meet.cls ≠ "java/lang/invoke/VarHandle"), (by decide +kernel : (parseMethodDescriptor yX3_meet.desc).map (fun d => d.parameters.length) = some 1)⟩, Nat.le_of_ble_eq_true rfl⟩
noncomputable def l_X3_meet_2 (a : Nat) (x0 : Int32) (σ1 : Mem) (i2 : Int32) : Option ((Mem × Int32) ⊕ Mem) :=
  if 1000 ≤ i2 then (some (Sum.inr σ1)) else (gL σ1 (rf a 2) x0 (fun (v3 : Int64) => if v3 = 0 then (some (Sum.inr σ1)) else (gR (rf a 1) x0 (fun (p4 : Nat) => gR (rf a 1) x0 (fun (p5 : Nat) => gL σ1 p5 x0 (fun (v6 : Int64) => gL σ1 (rf a 2) x0 (fun (v7 : Int64) => (f_J9_floorDiv_f86c9 σ1 v6 v7).bind (fun (v8 : Int64) => (f_X3_subtract σ1 a p4 (rf a 2) v8).bind (fun (σ9 : Mem) => gR (rf a 1) x0 (fun (p10 : Nat) => (f_X3_swapWithSpare σ9 a p10).bind (fun (σ11 : Mem) => some (Sum.inl (σ11, i2 + 1)))))))))))))
noncomputable def f_X3_meet (σ : Mem) (a : Nat) (x0 : Int32) : Option Mem :=
  loopO (fun (z2 : (Mem × Int32)) => l_X3_meet_2 a x0 z2.1 z2.2) (σ, 0)
theorem t_X3_meet {w : Wd} (hw : WOK w) {σ : Mem} {a : Nat} {x0 : Int32} (ha : isk w a 3) : JO w mu_X3_meet vV σ [(0, .ref (adr w a)), (1, .int x0)] [] 0 (f_X3_meet σ a x0) (fun z => some ((), z)) := by
  unfold f_X3_meet
  refine jo_iconst (pc := 0) dX3_meet_0 (ic_i_0) ?_
  refine jo_istore_n (pc := 1) (lv' := [(2, .int 0), (0, .ref (adr w a)), (1, .int x0)]) dX3_meet_1 rfl (ltb rfl) rfl ?_
  refine jo_lv (lv' := [(0, .ref (adr w a)), (1, .int x0), (2, .int 0)]) [1, 2, 0] rfl ?_
  refine jo_loop (X := Mem) (fun (z2 : (Mem × Int32)) => z2.1) (fun (z2 : (Mem × Int32)) => [(0, .ref (adr w a)), (1, .int x0), (2, .int z2.2)]) (body := (fun (z2 : (Mem × Int32)) => l_X3_meet_2 a x0 z2.1 z2.2)) (fun F2_2 hF2_2 s => ?_) (σ, 0)
  obtain ⟨σ1, i2⟩ := s
  show JO w mu_X3_meet vV σ1 [(0, .ref (adr w a)), (1, .int x0), (2, .int i2)] [] 2 (l_X3_meet_2 a x0 σ1 i2) _
  unfold l_X3_meet_2
  refine jo_iload_n (pc := 2) 2 rfl dX3_meet_2 rfl ?_
  refine jo_sipush (pc := 3) dX3_meet_3 (ic_s_1000) ?_
  refine jo_icmp_ge (pc := 6) dX3_meet_6 (tgt := 67) rfl ?_ ?_
  · exact jo_return (pc := 67) rfl rfl dX3_meet_67
  · refine jo_aload_n (pc := 9) 0 rfl dX3_meet_9 rfl ?_
    refine jo_getr (pc := 10) ok_3_2 (ha) gw_381 dX3_meet_10 ?_
    refine jo_iload_n (pc := 13) 1 rfl dX3_meet_13 rfl ?_
    refine jo_lald (pc := 14) (wf_3_2 hw (ha)) dX3_meet_14 (fun v3 => ?_)
    refine jo_lconst (pc := 15) dX3_meet_15 (ic_l_0) ?_
    refine jo_lcmp_eq (pc := 16) dX3_meet_16 dX3_meet_17 (tgt := 67) rfl ?_ ?_
    · exact jo_return (pc := 67) rfl rfl dX3_meet_67
    · refine jo_aload_n (pc := 20) 0 rfl dX3_meet_20 rfl ?_
      refine jo_aload_n (pc := 21) 0 rfl dX3_meet_21 rfl ?_
      refine jo_getr (pc := 22) ok_3_1 (ha) gw_379 dX3_meet_22 ?_
      refine jo_iload_n (pc := 25) 1 rfl dX3_meet_25 rfl ?_
      refine jo_aaldG (pc := 26) (z := 13) hw (wf_3_1 hw (ha)) (by decide) (t := 4) rfl rfl (by decide) dX3_meet_26 (fun p4 hp4 => ?_)
      refine jo_aload_n (pc := 27) 0 rfl dX3_meet_27 rfl ?_
      refine jo_getr (pc := 28) ok_3_2 (ha) gw_381 dX3_meet_28 ?_
      refine jo_aload_n (pc := 31) 0 rfl dX3_meet_31 rfl ?_
      refine jo_getr (pc := 32) ok_3_1 (ha) gw_379 dX3_meet_32 ?_
      refine jo_iload_n (pc := 35) 1 rfl dX3_meet_35 rfl ?_
      refine jo_aaldG (pc := 36) (z := 13) hw (wf_3_1 hw (ha)) (by decide) (t := 4) rfl rfl (by decide) dX3_meet_36 (fun p5 hp5 => ?_)
      refine jo_iload_n (pc := 37) 1 rfl dX3_meet_37 rfl ?_
      refine jo_lald (pc := 38) (hp5) dX3_meet_38 (fun v6 => ?_)
      refine jo_aload_n (pc := 39) 0 rfl dX3_meet_39 rfl ?_
      refine jo_getr (pc := 40) ok_3_2 (ha) gw_381 dX3_meet_40 ?_
      refine jo_iload_n (pc := 43) 1 rfl dX3_meet_43 rfl ?_
      refine jo_lald (pc := 44) (wf_3_2 hw (ha)) dX3_meet_44 (fun v7 => ?_)
      refine jo_cS_J_p (pc := 45) (μ' := mu_J9_floorDiv_f86c9) (fx := f_J9_floorDiv_f86c9 σ1 v6 v7) (As := [.long v6, .long v7]) (c_J9_floorDiv_f86c9 hw) (ok_J9_floorDiv_f86c9) (ltb rfl) (all2 gw_1145 gw_1146) rfl rfl (Nat.le_of_ble_eq_true rfl) dX3_meet_45 (fun v8 => ?_)
      refine jo_cV_V_i (pc := 48) (μ' := mu_X3_subtract) (fx := f_X3_subtract σ1 a p4 (rf a 2) v8) (As := [.ref (adr w p4), .ref (adr w (rf a 2)), .long v8]) (c_X3_subtract hw (ha) (hp4) (wf_3_2 hw (ha))) (ok_X3_subtract) (ltb rfl) (all3 gw_1148 gw_1150 gw_48) (ha) (by decide) (q := (RX3, TX3, 3)) rfl rfl rfl rfl (Nat.le_of_ble_eq_true rfl) dX3_meet_48 (fun σ9 => ?_)
      refine jo_aload_n (pc := 51) 0 rfl dX3_meet_51 rfl ?_
      refine jo_aload_n (pc := 52) 0 rfl dX3_meet_52 rfl ?_
      refine jo_getr (pc := 53) ok_3_1 (ha) gw_379 dX3_meet_53 ?_
      refine jo_iload_n (pc := 56) 1 rfl dX3_meet_56 rfl ?_
      refine jo_aaldG (pc := 57) (z := 13) hw (wf_3_1 hw (ha)) (by decide) (t := 4) rfl rfl (by decide) dX3_meet_57 (fun p10 hp10 => ?_)
      refine jo_cV_V_i (pc := 58) (μ' := mu_X3_swapWithSpare) (fx := f_X3_swapWithSpare σ9 a p10) (As := [.ref (adr w p10)]) (c_X3_swapWithSpare hw (ha) (hp10)) (ok_X3_swapWithSpare) (ltb rfl) (all3 gw_1152 gw_1154 gw_49) (ha) (by decide) (q := (RX3, TX3, 3)) rfl rfl rfl rfl (Nat.le_of_ble_eq_true rfl) dX3_meet_58 (fun σ11 => ?_)
      refine jo_iinc (pc := 61) (lv' := [(2, .int (i2 + 1)), (0, .ref (adr w a)), (1, .int x0)]) 2 rfl dX3_meet_61 (congrArg (fun z => i2 + z) (ic_i_1)) (ltb rfl) rfl ?_
      refine jo_goto (pc := 64) dX3_meet_64 (tgt := 2) rfl ?_
      refine jo_lv (lv' := [(0, .ref (adr w a)), (1, .int x0), (2, .int (i2 + 1))]) [1, 2, 0] rfl ?_
      exact jo_leaf (by rfl) (hF2_2 (σ11, i2 + 1))
theorem c_X3_meet {w : Wd} (hw : WOK w) {σ : Mem} {a : Nat} {x0 : Int32} (ha : isk w a 3) : ∀ σ', f_X3_meet σ a x0 = some σ' → MC w mu_X3_meet none [.ref (adr w a), .int x0] σ σ' := mc_ofV ok_X3_meet rfl (Nat.le_of_ble_eq_true rfl) (t_X3_meet hw ha)
abbrev mu_X3_negate : MD := (yX3_negate, cX3_negate, 3, none, 0)
theorem ok_X3_negate : MOK mu_X3_negate 1 := ⟨gw_1159, gw_166, (by decide +kernel : plainFor yX3_negate = true), ⟨(by decide +kernel : yX3_negate.cls ≠ "java/lang/invoke/MethodHandle"), (by decide +kernel : yX3_negate.cls ≠ "java/lang/invoke/VarHandle"), (by decide +kernel : (parseMethodDescriptor yX3_negate.desc).map (fun d => d.parameters.length) = some 1)⟩, Nat.le_of_ble_eq_true rfl⟩
noncomputable def l_X3_negate_2 (a : Nat) (x0 : Nat) (σ1 : Mem) (i2 : Int32) : Option ((Mem × Int32) ⊕ Mem) :=
  gF σ1 a 0 (fun (v3 : Int32) => if v3 ≤ i2 then (some (Sum.inr σ1)) else (gL σ1 x0 i2 (fun (v4 : Int64) => pL σ1 x0 i2 (-v4) (fun (σ5 : Mem) => some (Sum.inl (σ5, i2 + 1))))))
noncomputable def f_X3_negate (σ : Mem) (a : Nat) (x0 : Nat) : Option Mem :=
  loopO (fun (z2 : (Mem × Int32)) => l_X3_negate_2 a x0 z2.1 z2.2) (σ, 0)
theorem t_X3_negate {w : Wd} (hw : WOK w) {σ : Mem} {a : Nat} {x0 : Nat} (ha : isk w a 3) (hx0 : isk w x0 13) : JO w mu_X3_negate vV σ [(0, .ref (adr w a)), (1, .ref (adr w x0))] [] 0 (f_X3_negate σ a x0) (fun z => some ((), z)) := by
  unfold f_X3_negate
  refine jo_iconst (pc := 0) dX3_negate_0 (ic_i_0) ?_
  refine jo_istore_n (pc := 1) (lv' := [(2, .int 0), (0, .ref (adr w a)), (1, .ref (adr w x0))]) dX3_negate_1 rfl (ltb rfl) rfl ?_
  refine jo_lv (lv' := [(0, .ref (adr w a)), (1, .ref (adr w x0)), (2, .int 0)]) [1, 2, 0] rfl ?_
  refine jo_loop (X := Mem) (fun (z2 : (Mem × Int32)) => z2.1) (fun (z2 : (Mem × Int32)) => [(0, .ref (adr w a)), (1, .ref (adr w x0)), (2, .int z2.2)]) (body := (fun (z2 : (Mem × Int32)) => l_X3_negate_2 a x0 z2.1 z2.2)) (fun F2_2 hF2_2 s => ?_) (σ, 0)
  obtain ⟨σ1, i2⟩ := s
  show JO w mu_X3_negate vV σ1 [(0, .ref (adr w a)), (1, .ref (adr w x0)), (2, .int i2)] [] 2 (l_X3_negate_2 a x0 σ1 i2) _
  unfold l_X3_negate_2
  refine jo_iload_n (pc := 2) 2 rfl dX3_negate_2 rfl ?_
  refine jo_aload_n (pc := 3) 0 rfl dX3_negate_3 rfl ?_
  refine jo_getf (pc := 4) ok_3_0 (ha) gw_378 dX3_negate_4 (fun v3 => ?_)
  refine jo_icmp_ge (pc := 7) dX3_negate_7 (tgt := 23) rfl ?_ ?_
  · exact jo_return (pc := 23) rfl rfl dX3_negate_23
  · refine jo_aload_n (pc := 10) 1 rfl dX3_negate_10 rfl ?_
    refine jo_iload_n (pc := 11) 2 rfl dX3_negate_11 rfl ?_
    refine jo_aload_n (pc := 12) 1 rfl dX3_negate_12 rfl ?_
    refine jo_iload_n (pc := 13) 2 rfl dX3_negate_13 rfl ?_
    refine jo_lald (pc := 14) (hx0) dX3_negate_14 (fun v4 => ?_)
    refine jo_lneg (pc := 15) dX3_negate_15 ?_
    refine jo_last (pc := 16) (hx0) dX3_negate_16 (fun σ5 => ?_)
    refine jo_iinc (pc := 17) (lv' := [(2, .int (i2 + 1)), (0, .ref (adr w a)), (1, .ref (adr w x0))]) 2 rfl dX3_negate_17 (congrArg (fun z => i2 + z) (ic_i_1)) (ltb rfl) rfl ?_
    refine jo_goto (pc := 20) dX3_negate_20 (tgt := 2) rfl ?_
    refine jo_lv (lv' := [(0, .ref (adr w a)), (1, .ref (adr w x0)), (2, .int (i2 + 1))]) [1, 2, 0] rfl ?_
    exact jo_leaf (by rfl) (hF2_2 (σ5, i2 + 1))
theorem c_X3_negate {w : Wd} (hw : WOK w) {σ : Mem} {a : Nat} {x0 : Nat} (ha : isk w a 3) (hx0 : isk w x0 13) : ∀ σ', f_X3_negate σ a x0 = some σ' → MC w mu_X3_negate none [.ref (adr w a), .ref (adr w x0)] σ σ' := mc_ofV ok_X3_negate rfl (Nat.le_of_ble_eq_true rfl) (t_X3_negate hw ha hx0)
abbrev mu_X3_takeStep : MD := (yX3_takeStep, cX3_takeStep, 3, none, 1)
theorem ok_X3_takeStep : MOK mu_X3_takeStep 2 := ⟨gw_1167, gw_166, (by decide +kernel : plainFor yX3_takeStep = true), ⟨(by decide +kernel : yX3_takeStep.cls ≠ "java/lang/invoke/MethodHandle"), (by decide +kernel : yX3_takeStep.cls ≠ "java/lang/invoke/VarHandle"), (by decide +kernel : (parseMethodDescriptor yX3_takeStep.desc).map (fun d => d.parameters.length) = some 2)⟩, Nat.le_of_ble_eq_true rfl⟩
noncomputable def f_X3_takeStep (σ : Mem) (a : Nat) (x0 : Nat) (x1 : Int32) : Option Mem :=
  gR (rf a 1) x1 (fun (p1 : Nat) => gL σ p1 x1 (fun (v2 : Int64) => if v2 = 0 then (some σ) else (gR (rf a 1) x1 (fun (p3 : Nat) => gL σ x0 x1 (fun (v4 : Int64) => gR (rf a 1) x1 (fun (p5 : Nat) => gL σ p5 x1 (fun (v6 : Int64) => (f_J9_floorDiv_f86c9 σ v4 v6).bind (fun (v7 : Int64) => (f_X3_subtract σ a x0 p3 v7).bind (fun (σ8 : Mem) => some σ8)))))))))
theorem t_X3_takeStep {w : Wd} (hw : WOK w) {σ : Mem} {a : Nat} {x0 : Nat} {x1 : Int32} (ha : isk w a 3) (hx0 : isk w x0 13) : JO w mu_X3_takeStep vV σ [(0, .ref (adr w a)), (1, .ref (adr w x0)), (2, .int x1)] [] 0 (f_X3_takeStep σ a x0 x1) (fun z => some ((), z)) := by
  unfold f_X3_takeStep
  refine jo_aload_n (pc := 0) 0 rfl dX3_takeStep_0 rfl ?_
  refine jo_getr (pc := 1) ok_3_1 (ha) gw_379 dX3_takeStep_1 ?_
  refine jo_iload_n (pc := 4) 2 rfl dX3_takeStep_4 rfl ?_
  refine jo_aaldG (pc := 5) (z := 13) hw (wf_3_1 hw (ha)) (by decide) (t := 4) rfl rfl (by decide) dX3_takeStep_5 (fun p1 hp1 => ?_)
  refine jo_iload_n (pc := 6) 2 rfl dX3_takeStep_6 rfl ?_
  refine jo_lald (pc := 7) (hp1) dX3_takeStep_7 (fun v2 => ?_)
  refine jo_lconst (pc := 8) dX3_takeStep_8 (ic_l_0) ?_
  refine jo_lcmp_eq (pc := 9) dX3_takeStep_9 dX3_takeStep_10 (tgt := 38) rfl ?_ ?_
  · exact jo_return (pc := 38) rfl rfl dX3_takeStep_38
  · refine jo_aload_n (pc := 13) 0 rfl dX3_takeStep_13 rfl ?_
    refine jo_aload_n (pc := 14) 1 rfl dX3_takeStep_14 rfl ?_
    refine jo_aload_n (pc := 15) 0 rfl dX3_takeStep_15 rfl ?_
    refine jo_getr (pc := 16) ok_3_1 (ha) gw_379 dX3_takeStep_16 ?_
    refine jo_iload_n (pc := 19) 2 rfl dX3_takeStep_19 rfl ?_
    refine jo_aaldG (pc := 20) (z := 13) hw (wf_3_1 hw (ha)) (by decide) (t := 4) rfl rfl (by decide) dX3_takeStep_20 (fun p3 hp3 => ?_)
    refine jo_aload_n (pc := 21) 1 rfl dX3_takeStep_21 rfl ?_
    refine jo_iload_n (pc := 22) 2 rfl dX3_takeStep_22 rfl ?_
    refine jo_lald (pc := 23) (hx0) dX3_takeStep_23 (fun v4 => ?_)
    refine jo_aload_n (pc := 24) 0 rfl dX3_takeStep_24 rfl ?_
    refine jo_getr (pc := 25) ok_3_1 (ha) gw_379 dX3_takeStep_25 ?_
    refine jo_iload_n (pc := 28) 2 rfl dX3_takeStep_28 rfl ?_
    refine jo_aaldG (pc := 29) (z := 13) hw (wf_3_1 hw (ha)) (by decide) (t := 4) rfl rfl (by decide) dX3_takeStep_29 (fun p5 hp5 => ?_)
    refine jo_iload_n (pc := 30) 2 rfl dX3_takeStep_30 rfl ?_
    refine jo_lald (pc := 31) (hp5) dX3_takeStep_31 (fun v6 => ?_)
    refine jo_cS_J_p (pc := 32) (μ' := mu_J9_floorDiv_f86c9) (fx := f_J9_floorDiv_f86c9 σ v4 v6) (As := [.long v4, .long v6]) (c_J9_floorDiv_f86c9 hw) (ok_J9_floorDiv_f86c9) (ltb rfl) (all2 gw_1145 gw_1146) rfl rfl (Nat.le_of_ble_eq_true rfl) dX3_takeStep_32 (fun v7 => ?_)
    refine jo_cV_V_i (pc := 35) (μ' := mu_X3_subtract) (fx := f_X3_subtract σ a x0 p3 v7) (As := [.ref (adr w x0), .ref (adr w p3), .long v7]) (c_X3_subtract hw (ha) (hx0) (hp3)) (ok_X3_subtract) (ltb rfl) (all3 gw_1148 gw_1150 gw_48) (ha) (by decide) (q := (RX3, TX3, 3)) rfl rfl rfl rfl (Nat.le_of_ble_eq_true rfl) dX3_takeStep_35 (fun σ8 => ?_)
    exact jo_return (pc := 38) rfl rfl dX3_takeStep_38
theorem c_X3_takeStep {w : Wd} (hw : WOK w) {σ : Mem} {a : Nat} {x0 : Nat} {x1 : Int32} (ha : isk w a 3) (hx0 : isk w x0 13) : ∀ σ', f_X3_takeStep σ a x0 x1 = some σ' → MC w mu_X3_takeStep none [.ref (adr w a), .ref (adr w x0), .int x1] σ σ' := mc_ofV ok_X3_takeStep rfl (Nat.le_of_ble_eq_true rfl) (t_X3_takeStep hw ha hx0)
abbrev mu_X3_tidy : MD := (yX3_tidy, cX3_tidy, 3, none, 2)
theorem ok_X3_tidy : MOK mu_X3_tidy 0 := ⟨gw_1163, gw_166, (by decide +kernel : plainFor yX3_tidy = true), ⟨(by decide +kernel : yX3_tidy.cls ≠ "java/lang/invoke/MethodHandle"), (by decide +kernel : yX3_tidy.cls ≠ "java/lang/invoke/VarHandle"), (by decide +kernel : (parseMethodDescriptor yX3_tidy.desc).map (fun d => d.parameters.length) = some 0)⟩, Nat.le_of_ble_eq_true rfl⟩
noncomputable def j_X3_tidy_40 (i4 : Int32) (σ6 : Mem) : Option ((Mem × Int32) ⊕ Mem) :=
  some (Sum.inl (σ6, i4 + (-1)))
noncomputable def l_X3_tidy_15 (a : Nat) (i4 : Int32) (σ7 : Mem) (i8 : Int32) : Option ((Mem × Int32) ⊕ Mem) :=
  gF σ7 a 0 (fun (v9 : Int32) => if v9 ≤ i8 then (some (Sum.inr σ7)) else (gR (rf a 1) i4 (fun (p10 : Nat) => (f_X3_takeStep σ7 a p10 i8).bind (fun (σ11 : Mem) => some (Sum.inl (σ11, i8 + 1))))))
noncomputable def l_X3_tidy_7 (a : Nat) (σ3 : Mem) (i4 : Int32) : Option ((Mem × Int32) ⊕ Mem) :=
  if i4 < 0 then (some (Sum.inr σ3)) else (bd (i4 + 1) (fun (v5 : Int32) => (loopO (fun (z8 : (Mem × Int32)) => l_X3_tidy_15 a i4 z8.1 z8.2) (σ3, v5) : Option Mem).bind (fun (z6 : Mem) => j_X3_tidy_40 i4 z6)))
noncomputable def f_X3_tidy (σ : Mem) (a : Nat) : Option Mem :=
  gF σ a 0 (fun (v1 : Int32) => bd (v1 - 1) (fun (v2 : Int32) => loopO (fun (z4 : (Mem × Int32)) => l_X3_tidy_7 a z4.1 z4.2) (σ, v2)))
theorem t_X3_tidy {w : Wd} (hw : WOK w) {σ : Mem} {a : Nat} (ha : isk w a 3) : JO w mu_X3_tidy vV σ [(0, .ref (adr w a))] [] 0 (f_X3_tidy σ a) (fun z => some ((), z)) := by
  unfold f_X3_tidy
  refine jo_aload_n (pc := 0) 0 rfl dX3_tidy_0 rfl ?_
  refine jo_getf (pc := 1) ok_3_0 (ha) gw_378 dX3_tidy_1 (fun v1 => ?_)
  refine jo_iconst (pc := 4) dX3_tidy_4 (ic_i_1) ?_
  refine jo_isub (pc := 5) dX3_tidy_5 ?_
  refine jo_bd ?_
  refine jo_istore_n (pc := 6) (lv' := [(1, .int (v1 - 1)), (0, .ref (adr w a))]) dX3_tidy_6 rfl (ltb rfl) rfl ?_
  generalize (v1 - 1) = v2
  refine jo_lv (lv' := [(0, .ref (adr w a)), (1, .int v2)]) [1, 0] rfl ?_
  refine jo_loop (X := Mem) (fun (z4 : (Mem × Int32)) => z4.1) (fun (z4 : (Mem × Int32)) => [(0, .ref (adr w a)), (1, .int z4.2)]) (body := (fun (z4 : (Mem × Int32)) => l_X3_tidy_7 a z4.1 z4.2)) (fun F7_4 hF7_4 s => ?_) (σ, v2)
  obtain ⟨σ3, i4⟩ := s
  show JO w mu_X3_tidy vV σ3 [(0, .ref (adr w a)), (1, .int i4)] [] 7 (l_X3_tidy_7 a σ3 i4) _
  unfold l_X3_tidy_7
  refine jo_iload_n (pc := 7) 1 rfl dX3_tidy_7 rfl ?_
  refine jo_if_lt (pc := 8) dX3_tidy_8 (tgt := 46) rfl ?_ ?_
  · exact jo_return (pc := 46) rfl rfl dX3_tidy_46
  · refine jo_iload_n (pc := 11) 1 rfl dX3_tidy_11 rfl ?_
    refine jo_iconst (pc := 12) dX3_tidy_12 (ic_i_1) ?_
    refine jo_iadd (pc := 13) dX3_tidy_13 ?_
    refine jo_bd ?_
    refine jo_istore_n (pc := 14) (lv' := [(2, .int (i4 + 1)), (0, .ref (adr w a)), (1, .int i4)]) dX3_tidy_14 rfl (ltb rfl) rfl ?_
    generalize (i4 + 1) = v5
    refine jo_join1 (S := Mem) (fun (z6 : Mem) => z6) (fun (z6 : Mem) => [(0, .ref (adr w a)), (1, .int i4)]) (fun (z6 : Mem) => []) 40 ?_ (fun h40_6 => ?_)
    · intro σ6
      show JO w mu_X3_tidy vV σ6 [(0, .ref (adr w a)), (1, .int i4)] [] 40 (j_X3_tidy_40 i4 σ6) _
      unfold j_X3_tidy_40
      refine jo_iinc (pc := 40) (lv' := [(1, .int (i4 + (-1))), (0, .ref (adr w a))]) 1 rfl dX3_tidy_40 (congrArg (fun z => i4 + z) (ic_i_m1)) (ltb rfl) rfl ?_
      refine jo_goto (pc := 43) dX3_tidy_43 (tgt := 7) rfl ?_
      refine jo_lv (lv' := [(0, .ref (adr w a)), (1, .int (i4 + (-1)))]) [1, 0] rfl ?_
      exact jo_leaf (by rfl) (hF7_4 (σ6, i4 + (-1)))
    · refine jo_lv (lv' := [(0, .ref (adr w a)), (1, .int i4), (2, .int v5)]) [1, 2, 0] rfl ?_
      refine jo_loop (X := Mem) (fun (z8 : (Mem × Int32)) => z8.1) (fun (z8 : (Mem × Int32)) => [(0, .ref (adr w a)), (1, .int i4), (2, .int z8.2)]) (body := (fun (z8 : (Mem × Int32)) => l_X3_tidy_15 a i4 z8.1 z8.2)) (fun F15_8 hF15_8 s => ?_) (σ3, v5)
      obtain ⟨σ7, i8⟩ := s
      show JO w mu_X3_tidy vV σ7 [(0, .ref (adr w a)), (1, .int i4), (2, .int i8)] [] 15 (l_X3_tidy_15 a i4 σ7 i8) _
      unfold l_X3_tidy_15
      refine jo_iload_n (pc := 15) 2 rfl dX3_tidy_15 rfl ?_
      refine jo_aload_n (pc := 16) 0 rfl dX3_tidy_16 rfl ?_
      refine jo_getf (pc := 17) ok_3_0 (ha) gw_378 dX3_tidy_17 (fun v9 => ?_)
      refine jo_icmp_ge (pc := 20) dX3_tidy_20 (tgt := 40) rfl ?_ ?_
      · refine jo_lv (lv' := [(0, .ref (adr w a)), (1, .int i4)]) [0, 1] rfl ?_
        exact jo_leaf (by rfl) (h40_6 σ7)
      · refine jo_aload_n (pc := 23) 0 rfl dX3_tidy_23 rfl ?_
        refine jo_aload_n (pc := 24) 0 rfl dX3_tidy_24 rfl ?_
        refine jo_getr (pc := 25) ok_3_1 (ha) gw_379 dX3_tidy_25 ?_
        refine jo_iload_n (pc := 28) 1 rfl dX3_tidy_28 rfl ?_
        refine jo_aaldG (pc := 29) (z := 13) hw (wf_3_1 hw (ha)) (by decide) (t := 4) rfl rfl (by decide) dX3_tidy_29 (fun p10 hp10 => ?_)
        refine jo_iload_n (pc := 30) 2 rfl dX3_tidy_30 rfl ?_
        refine jo_cV_V_i (pc := 31) (μ' := mu_X3_takeStep) (fx := f_X3_takeStep σ7 a p10 i8) (As := [.ref (adr w p10), .int i8]) (c_X3_takeStep hw (ha) (hp10)) (ok_X3_takeStep) (ltb rfl) (all3 gw_1164 gw_1166 gw_52) (ha) (by decide) (q := (RX3, TX3, 3)) rfl rfl rfl rfl (Nat.le_of_ble_eq_true rfl) dX3_tidy_31 (fun σ11 => ?_)
        refine jo_iinc (pc := 34) (lv' := [(2, .int (i8 + 1)), (0, .ref (adr w a)), (1, .int i4)]) 2 rfl dX3_tidy_34 (congrArg (fun z => i8 + z) (ic_i_1)) (ltb rfl) rfl ?_
        refine jo_goto (pc := 37) dX3_tidy_37 (tgt := 15) rfl ?_
        refine jo_lv (lv' := [(0, .ref (adr w a)), (1, .int i4), (2, .int (i8 + 1))]) [1, 2, 0] rfl ?_
        exact jo_leaf (by rfl) (hF15_8 (σ11, i8 + 1))
theorem c_X3_tidy {w : Wd} (hw : WOK w) {σ : Mem} {a : Nat} (ha : isk w a 3) : ∀ σ', f_X3_tidy σ a = some σ' → MC w mu_X3_tidy none [.ref (adr w a)] σ σ' := mc_ofV ok_X3_tidy rfl (Nat.le_of_ble_eq_true rfl) (t_X3_tidy hw ha)
abbrev mu_X3_insert : MD := (yX3_insert, cX3_insert, 3, none, 3)
theorem ok_X3_insert : MOK mu_X3_insert 1 := ⟨gw_1139, gw_166, (by decide +kernel : plainFor yX3_insert = true), ⟨(by decide +kernel : yX3_insert.cls ≠ "java/lang/invoke/MethodHandle"), (by decide +kernel : yX3_insert.cls ≠ "java/lang/invoke/VarHandle"), (by decide +kernel : (parseMethodDescriptor yX3_insert.desc).map (fun d => d.parameters.length) = some 1)⟩, Nat.le_of_ble_eq_true rfl⟩
noncomputable def j_X3_insert_52 (a : Nat) (σ2 : Mem) : Option Mem :=
  (f_X3_tidy σ2 a).bind (fun (σ3 : Mem) => some σ3)
noncomputable def j_X3_insert_46 (i5 : Int32) (σ10 : Mem) : Option ((Mem × Int32) ⊕ Mem) :=
  some (Sum.inl (σ10, i5 + 1))
noncomputable def l_X3_insert_10 (a : Nat) (σ4 : Mem) (i5 : Int32) : Option ((Mem × Int32) ⊕ Mem) :=
  gF σ4 a 0 (fun (v6 : Int32) => if v6 ≤ i5 then (some (Sum.inr σ4)) else ((f_X3_meet σ4 a i5).bind (fun (σ7 : Mem) => gR (rf a 1) i5 (fun (p8 : Nat) => gL σ7 p8 i5 (fun (v9 : Int64) => (if 0 ≤ v9 then (some σ7) else (gR (rf a 1) i5 (fun (p11 : Nat) => (f_X3_negate σ7 a p11).bind (fun (σ12 : Mem) => some σ12))) : Option Mem).bind (fun (z10 : Mem) => j_X3_insert_46 i5 z10))))))
noncomputable def f_X3_insert (σ : Mem) (a : Nat) (x0 : Nat) : Option Mem :=
  (f_X0_copy σ x0 (rf a 2)).bind (fun (σ1 : Mem) => (loopO (fun (z5 : (Mem × Int32)) => l_X3_insert_10 a z5.1 z5.2) (σ1, 0) : Option Mem).bind (fun (z2 : Mem) => j_X3_insert_52 a z2))
theorem t_X3_insert {w : Wd} (hw : WOK w) {σ : Mem} {a : Nat} {x0 : Nat} (ha : isk w a 3) (hx0 : isk w x0 13) : JO w mu_X3_insert vV σ [(0, .ref (adr w a)), (1, .ref (adr w x0))] [] 0 (f_X3_insert σ a x0) (fun z => some ((), z)) := by
  unfold f_X3_insert
  refine jo_aload_n (pc := 0) 1 rfl dX3_insert_0 rfl ?_
  refine jo_aload_n (pc := 1) 0 rfl dX3_insert_1 rfl ?_
  refine jo_getr (pc := 2) ok_3_2 (ha) gw_381 dX3_insert_2 ?_
  refine jo_cS_V_i (pc := 5) (μ' := mu_X0_copy) (fx := f_X0_copy σ x0 (rf a 2)) (As := [.ref (adr w x0), .ref (adr w (rf a 2))]) (c_X0_copy hw (hx0) (wf_3_2 hw (ha))) (ok_X0_copy) (ltb rfl) (all2 gw_1140 gw_704) rfl rfl (Nat.le_of_ble_eq_true rfl) dX3_insert_5 (fun σ1 => ?_)
  refine jo_iconst (pc := 8) dX3_insert_8 (ic_i_0) ?_
  refine jo_istore_n (pc := 9) (lv' := [(2, .int 0), (0, .ref (adr w a)), (1, .ref (adr w x0))]) dX3_insert_9 rfl (ltb rfl) rfl ?_
  refine jo_join1 (S := Mem) (fun (z2 : Mem) => z2) (fun (z2 : Mem) => [(0, .ref (adr w a))]) (fun (z2 : Mem) => []) 52 ?_ (fun h52_2 => ?_)
  · intro σ2
    show JO w mu_X3_insert vV σ2 [(0, .ref (adr w a))] [] 52 (j_X3_insert_52 a σ2) _
    unfold j_X3_insert_52
    refine jo_aload_n (pc := 52) 0 rfl dX3_insert_52 rfl ?_
    refine jo_cV_V_i (pc := 53) (μ' := mu_X3_tidy) (fx := f_X3_tidy σ2 a) (As := []) (c_X3_tidy hw (ha)) (ok_X3_tidy) (ltb rfl) (all3 gw_1160 gw_1162 gw_51) (ha) (by decide) (q := (RX3, TX3, 3)) rfl rfl rfl rfl (Nat.le_of_ble_eq_true rfl) dX3_insert_53 (fun σ3 => ?_)
    exact jo_return (pc := 56) rfl rfl dX3_insert_56
  · refine jo_lv (lv' := [(0, .ref (adr w a)), (2, .int 0)]) [1, 0] rfl ?_
    refine jo_loop (X := Mem) (fun (z5 : (Mem × Int32)) => z5.1) (fun (z5 : (Mem × Int32)) => [(0, .ref (adr w a)), (2, .int z5.2)]) (body := (fun (z5 : (Mem × Int32)) => l_X3_insert_10 a z5.1 z5.2)) (fun F10_5 hF10_5 s => ?_) (σ1, 0)
    obtain ⟨σ4, i5⟩ := s
    show JO w mu_X3_insert vV σ4 [(0, .ref (adr w a)), (2, .int i5)] [] 10 (l_X3_insert_10 a σ4 i5) _
    unfold l_X3_insert_10
    refine jo_iload_n (pc := 10) 1 rfl dX3_insert_10 rfl ?_
    refine jo_aload_n (pc := 11) 0 rfl dX3_insert_11 rfl ?_
    refine jo_getf (pc := 12) ok_3_0 (ha) gw_378 dX3_insert_12 (fun v6 => ?_)
    refine jo_icmp_ge (pc := 15) dX3_insert_15 (tgt := 52) rfl ?_ ?_
    · refine jo_lv (lv' := [(0, .ref (adr w a))]) [0] rfl ?_
      exact jo_leaf (by rfl) (h52_2 σ4)
    · refine jo_aload_n (pc := 18) 0 rfl dX3_insert_18 rfl ?_
      refine jo_iload_n (pc := 19) 1 rfl dX3_insert_19 rfl ?_
      refine jo_cV_V_i (pc := 20) (μ' := mu_X3_meet) (fx := f_X3_meet σ4 a i5) (As := [.int i5]) (c_X3_meet hw (ha)) (ok_X3_meet) (ltb rfl) (all3 gw_1141 gw_1143 gw_47) (ha) (by decide) (q := (RX3, TX3, 3)) rfl rfl rfl rfl (Nat.le_of_ble_eq_true rfl) dX3_insert_20 (fun σ7 => ?_)
      refine jo_aload_n (pc := 23) 0 rfl dX3_insert_23 rfl ?_
      refine jo_getr (pc := 24) ok_3_1 (ha) gw_379 dX3_insert_24 ?_
      refine jo_iload_n (pc := 27) 1 rfl dX3_insert_27 rfl ?_
      refine jo_aaldG (pc := 28) (z := 13) hw (wf_3_1 hw (ha)) (by decide) (t := 4) rfl rfl (by decide) dX3_insert_28 (fun p8 hp8 => ?_)
      refine jo_iload_n (pc := 29) 1 rfl dX3_insert_29 rfl ?_
      refine jo_lald (pc := 30) (hp8) dX3_insert_30 (fun v9 => ?_)
      refine jo_lconst (pc := 31) dX3_insert_31 (ic_l_0) ?_
      refine jo_join1 (S := Mem) (fun (z10 : Mem) => z10) (fun (z10 : Mem) => [(0, .ref (adr w a)), (2, .int i5)]) (fun (z10 : Mem) => []) 46 ?_ (fun h46_10 => ?_)
      · intro σ10
        show JO w mu_X3_insert vV σ10 [(0, .ref (adr w a)), (2, .int i5)] [] 46 (j_X3_insert_46 i5 σ10) _
        unfold j_X3_insert_46
        refine jo_iinc (pc := 46) (lv' := [(2, .int (i5 + 1)), (0, .ref (adr w a))]) 1 rfl dX3_insert_46 (congrArg (fun z => i5 + z) (ic_i_1)) (ltb rfl) rfl ?_
        refine jo_goto (pc := 49) dX3_insert_49 (tgt := 10) rfl ?_
        refine jo_lv (lv' := [(0, .ref (adr w a)), (2, .int (i5 + 1))]) [1, 0] rfl ?_
        exact jo_leaf (by rfl) (hF10_5 (σ10, i5 + 1))
      · refine jo_lcmp_ge (pc := 32) dX3_insert_32 dX3_insert_33 (tgt := 46) rfl ?_ ?_
        · exact jo_leaf (by rfl) (h46_10 σ7)
        · refine jo_aload_n (pc := 36) 0 rfl dX3_insert_36 rfl ?_
          refine jo_aload_n (pc := 37) 0 rfl dX3_insert_37 rfl ?_
          refine jo_getr (pc := 38) ok_3_1 (ha) gw_379 dX3_insert_38 ?_
          refine jo_iload_n (pc := 41) 1 rfl dX3_insert_41 rfl ?_
          refine jo_aaldG (pc := 42) (z := 13) hw (wf_3_1 hw (ha)) (by decide) (t := 4) rfl rfl (by decide) dX3_insert_42 (fun p11 hp11 => ?_)
          refine jo_cV_V_i (pc := 43) (μ' := mu_X3_negate) (fx := f_X3_negate σ7 a p11) (As := [.ref (adr w p11)]) (c_X3_negate hw (ha) (hp11)) (ok_X3_negate) (ltb rfl) (all3 gw_1156 gw_1158 gw_50) (ha) (by decide) (q := (RX3, TX3, 3)) rfl rfl rfl rfl (Nat.le_of_ble_eq_true rfl) dX3_insert_43 (fun σ12 => ?_)
          exact jo_leaf (by rfl) (h46_10 σ12)
theorem c_X3_insert {w : Wd} (hw : WOK w) {σ : Mem} {a : Nat} {x0 : Nat} (ha : isk w a 3) (hx0 : isk w x0 13) : ∀ σ', f_X3_insert σ a x0 = some σ' → MC w mu_X3_insert none [.ref (adr w a), .ref (adr w x0)] σ σ' := mc_ofV ok_X3_insert rfl (Nat.le_of_ble_eq_true rfl) (t_X3_insert hw ha hx0)
abbrev mu_X3_reduce : MD := (yX3_reduce, cX3_reduce, 4, some .boolean, 2)
theorem ok_X3_reduce : MOK mu_X3_reduce 1 := ⟨gw_1171, gw_166, (by decide +kernel : plainFor yX3_reduce = true), ⟨(by decide +kernel : yX3_reduce.cls ≠ "java/lang/invoke/MethodHandle"), (by decide +kernel : yX3_reduce.cls ≠ "java/lang/invoke/VarHandle"), (by decide +kernel : (parseMethodDescriptor yX3_reduce.desc).map (fun d => d.parameters.length) = some 1)⟩, Nat.le_of_ble_eq_true rfl⟩
noncomputable def j_X3_reduce_35 (i3 : Int32) (σ6 : Mem) (b7 : Bool) : Option ((Mem × Int32 × Int32) ⊕ (Bool × Mem)) :=
  some (Sum.inl (σ6, b2i b7, i3 + 1))
noncomputable def j_X3_reduce_34  : Option Bool :=
  some false
noncomputable def l_X3_reduce_4 (a : Nat) (x0 : Nat) (σ1 : Mem) (i2 : Int32) (i3 : Int32) : Option ((Mem × Int32 × Int32) ⊕ (Bool × Mem)) :=
  gF σ1 a 0 (fun (v4 : Int32) => if v4 ≤ i3 then (rB i2 (fun (b5 : Bool) => some (Sum.inr (b5, σ1)))) else ((f_X3_takeStep σ1 a x0 i3).bind (fun (σ6 : Mem) => ((if i2 = 0 then (some (Sum.inl ())) else (gL σ6 x0 i3 (fun (v8 : Int64) => if v8 = 0 then (some (Sum.inr true)) else (some (Sum.inl ())))) : Option (Unit ⊕ Bool)).bind (Sum.elim (fun (z7 : Unit) => j_X3_reduce_34) some) : Option Bool).bind (fun (z7 : Bool) => j_X3_reduce_35 i3 σ6 z7))))
noncomputable def f_X3_reduce (σ : Mem) (a : Nat) (x0 : Nat) : Option (Bool × Mem) :=
  loopO (fun (z3 : (Mem × Int32 × Int32)) => l_X3_reduce_4 a x0 z3.1 z3.2.1 z3.2.2) (σ, 1, 0)
theorem t_X3_reduce {w : Wd} (hw : WOK w) {σ : Mem} {a : Nat} {x0 : Nat} (ha : isk w a 3) (hx0 : isk w x0 13) : JO w mu_X3_reduce vB σ [(0, .ref (adr w a)), (1, .ref (adr w x0))] [] 0 (f_X3_reduce σ a x0) some := by
  unfold f_X3_reduce
  refine jo_iconst (pc := 0) dX3_reduce_0 (ic_i_1) ?_
  refine jo_istore_n (pc := 1) (lv' := [(2, .int 1), (0, .ref (adr w a)), (1, .ref (adr w x0))]) dX3_reduce_1 rfl (ltb rfl) rfl ?_
  refine jo_iconst (pc := 2) dX3_reduce_2 (ic_i_0) ?_
  refine jo_istore_n (pc := 3) (lv' := [(3, .int 0), (2, .int 1), (0, .ref (adr w a)), (1, .ref (adr w x0))]) dX3_reduce_3 rfl (ltb rfl) rfl ?_
  refine jo_lv (lv' := [(0, .ref (adr w a)), (1, .ref (adr w x0)), (2, .int 1), (3, .int 0)]) [2, 3, 1, 0] rfl ?_
  refine jo_loop (X := (Bool × Mem)) (fun (z3 : (Mem × Int32 × Int32)) => z3.1) (fun (z3 : (Mem × Int32 × Int32)) => [(0, .ref (adr w a)), (1, .ref (adr w x0)), (2, .int z3.2.1), (3, .int z3.2.2)]) (body := (fun (z3 : (Mem × Int32 × Int32)) => l_X3_reduce_4 a x0 z3.1 z3.2.1 z3.2.2)) (fun F4_3 hF4_3 s => ?_) (σ, 1, 0)
  obtain ⟨σ1, i2, i3⟩ := s
  show JO w mu_X3_reduce vB σ1 [(0, .ref (adr w a)), (1, .ref (adr w x0)), (2, .int i2), (3, .int i3)] [] 4 (l_X3_reduce_4 a x0 σ1 i2 i3) _
  unfold l_X3_reduce_4
  refine jo_iload_n (pc := 4) 3 rfl dX3_reduce_4 rfl ?_
  refine jo_aload_n (pc := 5) 0 rfl dX3_reduce_5 rfl ?_
  refine jo_getf (pc := 6) ok_3_0 (ha) gw_378 dX3_reduce_6 (fun v4 => ?_)
  refine jo_icmp_ge (pc := 9) dX3_reduce_9 (tgt := 42) rfl ?_ ?_
  · refine jo_iload_n (pc := 42) 2 rfl dX3_reduce_42 rfl ?_
    refine jo_rB (fun b5 => ?_)
    exact jo_breturn (pc := 43) (b := b5) rfl rfl dX3_reduce_43
  · refine jo_aload_n (pc := 12) 0 rfl dX3_reduce_12 rfl ?_
    refine jo_aload_n (pc := 13) 1 rfl dX3_reduce_13 rfl ?_
    refine jo_iload_n (pc := 14) 3 rfl dX3_reduce_14 rfl ?_
    refine jo_cV_V_i (pc := 15) (μ' := mu_X3_takeStep) (fx := f_X3_takeStep σ1 a x0 i3) (As := [.ref (adr w x0), .int i3]) (c_X3_takeStep hw (ha) (hx0)) (ok_X3_takeStep) (ltb rfl) (all3 gw_1164 gw_1166 gw_52) (ha) (by decide) (q := (RX3, TX3, 3)) rfl rfl rfl rfl (Nat.le_of_ble_eq_true rfl) dX3_reduce_15 (fun σ6 => ?_)
    refine jo_iload_n (pc := 18) 2 rfl dX3_reduce_18 rfl ?_
    refine jo_join1 (S := Bool) (fun (z7 : Bool) => σ6) (fun (z7 : Bool) => [(0, .ref (adr w a)), (1, .ref (adr w x0)), (3, .int i3)]) (fun (z7 : Bool) => [.int (b2i z7)]) 35 ?_ (fun h35_7 => ?_)
    · intro b7
      show JO w mu_X3_reduce vB σ6 [(0, .ref (adr w a)), (1, .ref (adr w x0)), (3, .int i3)] [.int (b2i b7)] 35 (j_X3_reduce_35 i3 σ6 b7) _
      unfold j_X3_reduce_35
      refine jo_istore_n (pc := 35) (lv' := [(2, .int (b2i b7)), (0, .ref (adr w a)), (1, .ref (adr w x0)), (3, .int i3)]) dX3_reduce_35 rfl (ltb rfl) rfl ?_
      refine jo_iinc (pc := 36) (lv' := [(3, .int (i3 + 1)), (2, .int (b2i b7)), (0, .ref (adr w a)), (1, .ref (adr w x0))]) 3 rfl dX3_reduce_36 (congrArg (fun z => i3 + z) (ic_i_1)) (ltb rfl) rfl ?_
      refine jo_goto (pc := 39) dX3_reduce_39 (tgt := 4) rfl ?_
      refine jo_lv (lv' := [(0, .ref (adr w a)), (1, .ref (adr w x0)), (2, .int (b2i b7)), (3, .int (i3 + 1))]) [2, 3, 1, 0] rfl ?_
      exact jo_leaf (by rfl) (hF4_3 (σ6, b2i b7, i3 + 1))
    · refine jo_joinS (S := Unit) (fun (z7 : Unit) => σ6) (fun (z7 : Unit) => [(0, .ref (adr w a)), (1, .ref (adr w x0)), (3, .int i3)]) (fun (z7 : Unit) => []) 34 ?_ (fun h34_7 => ?_)
      · intro _
        show JO w mu_X3_reduce vB σ6 [(0, .ref (adr w a)), (1, .ref (adr w x0)), (3, .int i3)] [] 34 (j_X3_reduce_34) _
        unfold j_X3_reduce_34
        refine jo_iconst (pc := 34) dX3_reduce_34 (ic_i_0) ?_
        exact jo_leaf (by rfl) (h35_7 false)
      · refine jo_if_eq (pc := 19) dX3_reduce_19 (tgt := 34) rfl ?_ ?_
        · refine jo_lv (lv' := [(0, .ref (adr w a)), (1, .ref (adr w x0)), (3, .int i3)]) [0, 1, 3] rfl ?_
          exact jo_leaf (by rfl) (h34_7 ())
        · refine jo_aload_n (pc := 22) 1 rfl dX3_reduce_22 rfl ?_
          refine jo_iload_n (pc := 23) 3 rfl dX3_reduce_23 rfl ?_
          refine jo_lald (pc := 24) (hx0) dX3_reduce_24 (fun v8 => ?_)
          refine jo_lconst (pc := 25) dX3_reduce_25 (ic_l_0) ?_
          refine jo_lcmp_ne (pc := 26) dX3_reduce_26 dX3_reduce_27 (tgt := 34) rfl ?_ ?_
          · refine jo_lv (lv' := [(0, .ref (adr w a)), (1, .ref (adr w x0)), (3, .int i3)]) [0, 1, 3] rfl ?_
            exact jo_leaf (by rfl) (h34_7 ())
          · refine jo_iconst (pc := 30) dX3_reduce_30 (ic_i_1) ?_
            refine jo_goto (pc := 31) dX3_reduce_31 (tgt := 35) rfl ?_
            refine jo_lv (lv' := [(0, .ref (adr w a)), (1, .ref (adr w x0)), (3, .int i3)]) [0, 1, 3] rfl ?_
            exact jo_leaf (by rfl) (h35_7 true)
theorem c_X3_reduce {w : Wd} (hw : WOK w) {σ : Mem} {a : Nat} {x0 : Nat} (ha : isk w a 3) (hx0 : isk w x0 13) : ∀ r σ', f_X3_reduce σ a x0 = some (r, σ') → MC w mu_X3_reduce (vB r) [.ref (adr w a), .ref (adr w x0)] σ σ' := mc_of ok_X3_reduce rfl (Nat.le_of_ble_eq_true rfl) (t_X3_reduce hw ha hx0)
abbrev mu_X6_isSame : MD := (yX6_isSame, cX6_isSame, 3, some .boolean, 0)
theorem ok_X6_isSame : MOK mu_X6_isSame 1 := ⟨gw_540, gw_160, (by decide +kernel : plainFor yX6_isSame = true), ⟨(by decide +kernel : yX6_isSame.cls ≠ "java/lang/invoke/MethodHandle"), (by decide +kernel : yX6_isSame.cls ≠ "java/lang/invoke/VarHandle"), (by decide +kernel : (parseMethodDescriptor yX6_isSame.desc).map (fun d => d.parameters.length) = some 1)⟩, Nat.le_of_ble_eq_true rfl⟩
noncomputable def l_X6_isSame_49 (σ : Mem) (a : Nat) (x0 : Nat) (i3 : Int32) : Option (Int32 ⊕ Bool) :=
  if (Int32.ofNat (ln (rf a 2))) ≤ i3 then (some (Sum.inr true)) else (gI σ (rf a 2) i3 (fun (v4 : Int32) => gI σ (rf x0 2) i3 (fun (v5 : Int32) => if v4 = v5 then (some (Sum.inl (i3 + 1))) else (some (Sum.inr false)))))
noncomputable def j_X6_isSame_47 (σ : Mem) (a : Nat) (x0 : Nat) : Option Bool :=
  loopO (fun (z3 : Int32) => l_X6_isSame_49 σ a x0 z3) 0
noncomputable def l_X6_isSame_15 (σ : Mem) (a : Nat) (x0 : Nat) (i6 : Int32) : Option (Int32 ⊕ (Unit ⊕ Bool)) :=
  if (Int32.ofNat (ln (rf a 1))) ≤ i6 then (some (Sum.inr (Sum.inl ()))) else (gI σ (rf a 1) i6 (fun (v7 : Int32) => gI σ (rf x0 1) i6 (fun (v8 : Int32) => if v7 = v8 then (some (Sum.inl (i6 + 1))) else (some (Sum.inr (Sum.inr false))))))
noncomputable def f_X6_isSame (σ : Mem) (a : Nat) (x0 : Nat) : Option Bool :=
  gF σ a 0 (fun (v1 : Int32) => gF σ x0 0 (fun (v2 : Int32) => if v1 = v2 then ((loopO (fun (z6 : Int32) => l_X6_isSame_15 σ a x0 z6) 0 : Option (Unit ⊕ Bool)).bind (Sum.elim (fun (z2 : Unit) => j_X6_isSame_47 σ a x0) some)) else (some false)))
theorem t_X6_isSame {w : Wd} (hw : WOK w) {σ : Mem} {a : Nat} {x0 : Nat} (ha : isk w a 6) (hx0 : isk w x0 6) : JO w mu_X6_isSame vB σ [(0, .ref (adr w a)), (1, .ref (adr w x0))] [] 0 (f_X6_isSame σ a x0) (fun z => some (z, σ)) := by
  unfold f_X6_isSame
  refine jo_aload_n (pc := 0) 0 rfl dX6_isSame_0 rfl ?_
  refine jo_getf (pc := 1) ok_6_0 (ha) gw_193 dX6_isSame_1 (fun v1 => ?_)
  refine jo_aload_n (pc := 4) 1 rfl dX6_isSame_4 rfl ?_
  refine jo_getf (pc := 5) ok_6_0 (hx0) gw_193 dX6_isSame_5 (fun v2 => ?_)
  refine jo_icmp_eq (pc := 8) dX6_isSame_8 (tgt := 13) rfl ?_ ?_
  · refine jo_iconst (pc := 13) dX6_isSame_13 (ic_i_0) ?_
    refine jo_istore_n (pc := 14) (lv' := [(2, .int 0), (0, .ref (adr w a)), (1, .ref (adr w x0))]) dX6_isSame_14 rfl (ltb rfl) rfl ?_
    refine jo_joinS (S := Unit) (fun (z2 : Unit) => σ) (fun (z2 : Unit) => [(0, .ref (adr w a)), (1, .ref (adr w x0))]) (fun (z2 : Unit) => []) 47 ?_ (fun h47_2 => ?_)
    · intro _
      show JO w mu_X6_isSame vB σ [(0, .ref (adr w a)), (1, .ref (adr w x0))] [] 47 (j_X6_isSame_47 σ a x0) _
      unfold j_X6_isSame_47
      refine jo_iconst (pc := 47) dX6_isSame_47 (ic_i_0) ?_
      refine jo_istore_n (pc := 48) (lv' := [(2, .int 0), (0, .ref (adr w a)), (1, .ref (adr w x0))]) dX6_isSame_48 rfl (ltb rfl) rfl ?_
      refine jo_lv (lv' := [(0, .ref (adr w a)), (1, .ref (adr w x0)), (2, .int 0)]) [1, 2, 0] rfl ?_
      refine jo_loop (X := Bool) (fun (z3 : Int32) => σ) (fun (z3 : Int32) => [(0, .ref (adr w a)), (1, .ref (adr w x0)), (2, .int z3)]) (body := (fun (z3 : Int32) => l_X6_isSame_49 σ a x0 z3)) (fun F49_3 hF49_3 s => ?_) 0
      revert s; intro i3
      show JO w mu_X6_isSame vB σ [(0, .ref (adr w a)), (1, .ref (adr w x0)), (2, .int i3)] [] 49 (l_X6_isSame_49 σ a x0 i3) _
      unfold l_X6_isSame_49
      refine jo_iload_n (pc := 49) 2 rfl dX6_isSame_49 rfl ?_
      refine jo_aload_n (pc := 50) 0 rfl dX6_isSame_50 rfl ?_
      refine jo_getr (pc := 51) ok_6_2 (ha) gw_206 dX6_isSame_51 ?_
      refine jo_alenI (pc := 54) (wf_6_2 hw (ha)) (by decide) (t := 0) rfl dX6_isSame_54 ?_
      refine jo_icmp_ge (pc := 55) dX6_isSame_55 (tgt := 81) rfl ?_ ?_
      · refine jo_iconst (pc := 81) dX6_isSame_81 (ic_i_1) ?_
        exact jo_breturn (pc := 82) (b := true) rfl rfl dX6_isSame_82
      · refine jo_aload_n (pc := 58) 0 rfl dX6_isSame_58 rfl ?_
        refine jo_getr (pc := 59) ok_6_2 (ha) gw_206 dX6_isSame_59 ?_
        refine jo_iload_n (pc := 62) 2 rfl dX6_isSame_62 rfl ?_
        refine jo_iald (pc := 63) (wf_6_2 hw (ha)) dX6_isSame_63 (fun v4 => ?_)
        refine jo_aload_n (pc := 64) 1 rfl dX6_isSame_64 rfl ?_
        refine jo_getr (pc := 65) ok_6_2 (hx0) gw_206 dX6_isSame_65 ?_
        refine jo_iload_n (pc := 68) 2 rfl dX6_isSame_68 rfl ?_
        refine jo_iald (pc := 69) (wf_6_2 hw (hx0)) dX6_isSame_69 (fun v5 => ?_)
        refine jo_icmp_eq (pc := 70) dX6_isSame_70 (tgt := 75) rfl ?_ ?_
        · refine jo_iinc (pc := 75) (lv' := [(2, .int (i3 + 1)), (0, .ref (adr w a)), (1, .ref (adr w x0))]) 2 rfl dX6_isSame_75 (congrArg (fun z => i3 + z) (ic_i_1)) (ltb rfl) rfl ?_
          refine jo_goto (pc := 78) dX6_isSame_78 (tgt := 49) rfl ?_
          refine jo_lv (lv' := [(0, .ref (adr w a)), (1, .ref (adr w x0)), (2, .int (i3 + 1))]) [1, 2, 0] rfl ?_
          exact jo_leaf (by rfl) (hF49_3 (i3 + 1))
        · refine jo_iconst (pc := 73) dX6_isSame_73 (ic_i_0) ?_
          exact jo_breturn (pc := 74) (b := false) rfl rfl dX6_isSame_74
    · refine jo_lv (lv' := [(0, .ref (adr w a)), (1, .ref (adr w x0)), (2, .int 0)]) [1, 2, 0] rfl ?_
      refine jo_loop (X := Unit ⊕ Bool) (fun (z6 : Int32) => σ) (fun (z6 : Int32) => [(0, .ref (adr w a)), (1, .ref (adr w x0)), (2, .int z6)]) (body := (fun (z6 : Int32) => l_X6_isSame_15 σ a x0 z6)) (fun F15_6 hF15_6 s => ?_) 0
      revert s; intro i6
      show JO w mu_X6_isSame vB σ [(0, .ref (adr w a)), (1, .ref (adr w x0)), (2, .int i6)] [] 15 (l_X6_isSame_15 σ a x0 i6) _
      unfold l_X6_isSame_15
      refine jo_iload_n (pc := 15) 2 rfl dX6_isSame_15 rfl ?_
      refine jo_aload_n (pc := 16) 0 rfl dX6_isSame_16 rfl ?_
      refine jo_getr (pc := 17) ok_6_1 (ha) gw_200 dX6_isSame_17 ?_
      refine jo_alenI (pc := 20) (wf_6_1 hw (ha)) (by decide) (t := 0) rfl dX6_isSame_20 ?_
      refine jo_icmp_ge (pc := 21) dX6_isSame_21 (tgt := 47) rfl ?_ ?_
      · refine jo_lv (lv' := [(0, .ref (adr w a)), (1, .ref (adr w x0))]) [0, 1] rfl ?_
        exact jo_leaf (by rfl) (h47_2 ())
      · refine jo_aload_n (pc := 24) 0 rfl dX6_isSame_24 rfl ?_
        refine jo_getr (pc := 25) ok_6_1 (ha) gw_200 dX6_isSame_25 ?_
        refine jo_iload_n (pc := 28) 2 rfl dX6_isSame_28 rfl ?_
        refine jo_iald (pc := 29) (wf_6_1 hw (ha)) dX6_isSame_29 (fun v7 => ?_)
        refine jo_aload_n (pc := 30) 1 rfl dX6_isSame_30 rfl ?_
        refine jo_getr (pc := 31) ok_6_1 (hx0) gw_200 dX6_isSame_31 ?_
        refine jo_iload_n (pc := 34) 2 rfl dX6_isSame_34 rfl ?_
        refine jo_iald (pc := 35) (wf_6_1 hw (hx0)) dX6_isSame_35 (fun v8 => ?_)
        refine jo_icmp_eq (pc := 36) dX6_isSame_36 (tgt := 41) rfl ?_ ?_
        · refine jo_iinc (pc := 41) (lv' := [(2, .int (i6 + 1)), (0, .ref (adr w a)), (1, .ref (adr w x0))]) 2 rfl dX6_isSame_41 (congrArg (fun z => i6 + z) (ic_i_1)) (ltb rfl) rfl ?_
          refine jo_goto (pc := 44) dX6_isSame_44 (tgt := 15) rfl ?_
          refine jo_lv (lv' := [(0, .ref (adr w a)), (1, .ref (adr w x0)), (2, .int (i6 + 1))]) [1, 2, 0] rfl ?_
          exact jo_leaf (by rfl) (hF15_6 (i6 + 1))
        · refine jo_iconst (pc := 39) dX6_isSame_39 (ic_i_0) ?_
          exact jo_breturn (pc := 40) (b := false) rfl rfl dX6_isSame_40
  · refine jo_iconst (pc := 11) dX6_isSame_11 (ic_i_0) ?_
    exact jo_breturn (pc := 12) (b := false) rfl rfl dX6_isSame_12
theorem c_X6_isSame {w : Wd} (hw : WOK w) {σ : Mem} {a : Nat} {x0 : Nat} (ha : isk w a 6) (hx0 : isk w x0 6) : ∀ r, f_X6_isSame σ a x0 = some r → MC w mu_X6_isSame (vB r) [.ref (adr w a), .ref (adr w x0)] σ σ := mc_ofP ok_X6_isSame rfl (Nat.le_of_ble_eq_true rfl) (t_X6_isSame hw ha hx0)
abbrev mu_X6_takeAll : MD := (yX6_takeAll, cX6_takeAll, 2, none, 1)
theorem ok_X6_takeAll : MOK mu_X6_takeAll 1 := ⟨gw_544, gw_160, (by decide +kernel : plainFor yX6_takeAll = true), ⟨(by decide +kernel : yX6_takeAll.cls ≠ "java/lang/invoke/MethodHandle"), (by decide +kernel : yX6_takeAll.cls ≠ "java/lang/invoke/VarHandle"), (by decide +kernel : (parseMethodDescriptor yX6_takeAll.desc).map (fun d => d.parameters.length) = some 1)⟩, Nat.le_of_ble_eq_true rfl⟩
noncomputable def f_X6_takeAll (σ : Mem) (a : Nat) (x0 : Nat) : Option Mem :=
  gF σ x0 0 (fun (v1 : Int32) => pF σ a 0 v1 (fun (σ2 : Mem) => cI σ2 (rf x0 1) 0 (rf a 1) 0 (Int32.ofNat (ln (rf a 1))) (fun (σ3 : Mem) => cI σ3 (rf x0 2) 0 (rf a 2) 0 (Int32.ofNat (ln (rf a 2))) (fun (σ4 : Mem) => some σ4))))
theorem t_X6_takeAll {w : Wd} (hw : WOK w) {σ : Mem} {a : Nat} {x0 : Nat} (ha : isk w a 6) (hx0 : isk w x0 6) : JO w mu_X6_takeAll vV σ [(0, .ref (adr w a)), (1, .ref (adr w x0))] [] 0 (f_X6_takeAll σ a x0) (fun z => some ((), z)) := by
  unfold f_X6_takeAll
  refine jo_aload_n (pc := 0) 0 rfl dX6_takeAll_0 rfl ?_
  refine jo_aload_n (pc := 1) 1 rfl dX6_takeAll_1 rfl ?_
  refine jo_getf (pc := 2) ok_6_0 (hx0) gw_193 dX6_takeAll_2 (fun v1 => ?_)
  refine jo_putf (pc := 5) ok_6_0 okp_6_0 (ha) gw_193 dX6_takeAll_5 (fun σ2 => ?_)
  refine jo_aload_n (pc := 8) 1 rfl dX6_takeAll_8 rfl ?_
  refine jo_getr (pc := 9) ok_6_1 (hx0) gw_200 dX6_takeAll_9 ?_
  refine jo_iconst (pc := 12) dX6_takeAll_12 (ic_i_0) ?_
  refine jo_aload_n (pc := 13) 0 rfl dX6_takeAll_13 rfl ?_
  refine jo_getr (pc := 14) ok_6_1 (ha) gw_200 dX6_takeAll_14 ?_
  refine jo_iconst (pc := 17) dX6_takeAll_17 (ic_i_0) ?_
  refine jo_aload_n (pc := 18) 0 rfl dX6_takeAll_18 rfl ?_
  refine jo_getr (pc := 19) ok_6_1 (ha) gw_200 dX6_takeAll_19 ?_
  refine jo_alenI (pc := 22) (wf_6_1 hw (ha)) (by decide) (t := 0) rfl dX6_takeAll_22 ?_
  refine jo_acI (pc := 23) (wf_6_1 hw (hx0)) (wf_6_1 hw (ha)) (all4 gw_545 gw_547 gw_546 gw_170) (ltb rfl) (Nat.le_of_ble_eq_true rfl) dX6_takeAll_23 (fun σ3 => ?_)
  refine jo_aload_n (pc := 26) 1 rfl dX6_takeAll_26 rfl ?_
  refine jo_getr (pc := 27) ok_6_2 (hx0) gw_206 dX6_takeAll_27 ?_
  refine jo_iconst (pc := 30) dX6_takeAll_30 (ic_i_0) ?_
  refine jo_aload_n (pc := 31) 0 rfl dX6_takeAll_31 rfl ?_
  refine jo_getr (pc := 32) ok_6_2 (ha) gw_206 dX6_takeAll_32 ?_
  refine jo_iconst (pc := 35) dX6_takeAll_35 (ic_i_0) ?_
  refine jo_aload_n (pc := 36) 0 rfl dX6_takeAll_36 rfl ?_
  refine jo_getr (pc := 37) ok_6_2 (ha) gw_206 dX6_takeAll_37 ?_
  refine jo_alenI (pc := 40) (wf_6_2 hw (ha)) (by decide) (t := 0) rfl dX6_takeAll_40 ?_
  refine jo_acI (pc := 41) (wf_6_2 hw (hx0)) (wf_6_2 hw (ha)) (all4 gw_545 gw_547 gw_546 gw_170) (ltb rfl) (Nat.le_of_ble_eq_true rfl) dX6_takeAll_41 (fun σ4 => ?_)
  exact jo_return (pc := 44) rfl rfl dX6_takeAll_44
theorem c_X6_takeAll {w : Wd} (hw : WOK w) {σ : Mem} {a : Nat} {x0 : Nat} (ha : isk w a 6) (hx0 : isk w x0 6) : ∀ σ', f_X6_takeAll σ a x0 = some σ' → MC w mu_X6_takeAll none [.ref (adr w a), .ref (adr w x0)] σ σ' := mc_ofV ok_X6_takeAll rfl (Nat.le_of_ble_eq_true rfl) (t_X6_takeAll hw ha hx0)
abbrev mu_X4_isOverlapAlike : MD := (yX4_isOverlapAlike, cX4_isOverlapAlike, 5, some .boolean, 4)
theorem ok_X4_isOverlapAlike : MOK mu_X4_isOverlapAlike 3 := ⟨gw_555, gw_162, (by decide +kernel : plainFor yX4_isOverlapAlike = true), ⟨(by decide +kernel : yX4_isOverlapAlike.cls ≠ "java/lang/invoke/MethodHandle"), (by decide +kernel : yX4_isOverlapAlike.cls ≠ "java/lang/invoke/VarHandle"), (by decide +kernel : (parseMethodDescriptor yX4_isOverlapAlike.desc).map (fun d => d.parameters.length) = some 3)⟩, Nat.le_of_ble_eq_true rfl⟩
noncomputable def l_X4_isOverlapAlike_139 (σ15 : Mem) (i16 : Int32) : Option (Int32 ⊕ (Bool × Mem)) :=
  if 6 ≤ i16 then (some (Sum.inr (true, σ15))) else (gI σ15 47 i16 (fun (v17 : Int32) => gI σ15 39 i16 (fun (v18 : Int32) => if v17 = v18 then (some (Sum.inl (i16 + 1))) else (some (Sum.inr (false, σ15))))))
noncomputable def f_X4_isOverlapAlike (σ : Mem) (x0 : Int32) (x1 : Int32) (x2 : Int32) : Option (Bool × Mem) :=
  (f_X2_begin σ).bind (fun (σ1 : Mem) => (f_X2_add σ1 x1).bind (fun (σ2 : Mem) => (f_X2_add σ2 x0).bind (fun (σ3 : Mem) => (f_X2_addTails σ3 41 x0 x1).bind (fun (σ4 : Mem) => (f_X2_add σ4 x2).bind (fun (σ5 : Mem) => bq (f_X2_run σ5 41 1000) (fun (v6 : Int32) (σ7 : Mem) => cI σ7 39 0 47 0 6 (fun (σ8 : Mem) => (f_X2_begin σ8).bind (fun (σ9 : Mem) => (f_X2_add σ9 x0).bind (fun (σ10 : Mem) => (f_X2_add σ10 x2).bind (fun (σ11 : Mem) => (f_X2_add σ11 x1).bind (fun (σ12 : Mem) => (f_X2_addTails σ12 41 x1 x2).bind (fun (σ13 : Mem) => bq (f_X2_run σ13 41 1000) (fun (v14 : Int32) (σ15 : Mem) => loopO (fun (z16 : Int32) => l_X4_isOverlapAlike_139 σ15 z16) 0)))))))))))))
theorem t_X4_isOverlapAlike {w : Wd} (hw : WOK w) {σ : Mem} {x0 : Int32} {x1 : Int32} {x2 : Int32} : JO w mu_X4_isOverlapAlike vB σ [(0, .ref (adr w 40)), (1, .int x0), (2, .int x1), (3, .int x2)] [] 0 (f_X4_isOverlapAlike σ x0 x1 x2) some := by
  unfold f_X4_isOverlapAlike
  refine jo_aload_n (pc := 0) 0 rfl dX4_isOverlapAlike_0 rfl ?_
  refine jo_getrE (pc := 1) ok_4_1 (ik_40 hw) rf_40_1 gw_302 dX4_isOverlapAlike_1 ?_
  refine jo_cV_V_i (pc := 4) (μ' := mu_X2_begin) (fx := f_X2_begin σ) (As := []) (c_X2_begin hw) (ok_X2_begin) (ltb rfl) (all3 gw_556 gw_557 gw_558) (ik_35 hw) (by decide) (q := (RX2, TX2, 7)) rfl rfl rfl rfl (Nat.le_of_ble_eq_true rfl) dX4_isOverlapAlike_4 (fun σ1 => ?_)
  refine jo_aload_n (pc := 7) 0 rfl dX4_isOverlapAlike_7 rfl ?_
  refine jo_getrE (pc := 8) ok_4_1 (ik_40 hw) rf_40_1 gw_302 dX4_isOverlapAlike_8 ?_
  refine jo_iload_n (pc := 11) 2 rfl dX4_isOverlapAlike_11 rfl ?_
  refine jo_cV_V_i (pc := 12) (μ' := mu_X2_add) (fx := f_X2_add σ1 x1) (As := [.int x1]) (c_X2_add hw) (ok_X2_add) (ltb rfl) (all3 gw_560 gw_561 gw_562) (ik_35 hw) (by decide) (q := (RX2, TX2, 7)) rfl rfl rfl rfl (Nat.le_of_ble_eq_true rfl) dX4_isOverlapAlike_12 (fun σ2 => ?_)
  refine jo_aload_n (pc := 15) 0 rfl dX4_isOverlapAlike_15 rfl ?_
  refine jo_getrE (pc := 16) ok_4_1 (ik_40 hw) rf_40_1 gw_302 dX4_isOverlapAlike_16 ?_
  refine jo_iload_n (pc := 19) 1 rfl dX4_isOverlapAlike_19 rfl ?_
  refine jo_cV_V_i (pc := 20) (μ' := mu_X2_add) (fx := f_X2_add σ2 x0) (As := [.int x0]) (c_X2_add hw) (ok_X2_add) (ltb rfl) (all3 gw_560 gw_561 gw_562) (ik_35 hw) (by decide) (q := (RX2, TX2, 7)) rfl rfl rfl rfl (Nat.le_of_ble_eq_true rfl) dX4_isOverlapAlike_20 (fun σ3 => ?_)
  refine jo_aload_n (pc := 23) 0 rfl dX4_isOverlapAlike_23 rfl ?_
  refine jo_getrE (pc := 24) ok_4_1 (ik_40 hw) rf_40_1 gw_302 dX4_isOverlapAlike_24 ?_
  refine jo_aload_n (pc := 27) 0 rfl dX4_isOverlapAlike_27 rfl ?_
  refine jo_getrE (pc := 28) ok_4_0 (ik_40 hw) rf_40_0 gw_299 dX4_isOverlapAlike_28 ?_
  refine jo_iload_n (pc := 31) 1 rfl dX4_isOverlapAlike_31 rfl ?_
  refine jo_iload_n (pc := 32) 2 rfl dX4_isOverlapAlike_32 rfl ?_
  refine jo_cV_V_i (pc := 33) (μ' := mu_X2_addTails) (fx := f_X2_addTails σ3 41 x0 x1) (As := [.ref (adr w 41), .int x0, .int x1]) (c_X2_addTails hw (ik_41 hw)) (ok_X2_addTails) (ltb rfl) (all3 gw_564 gw_565 gw_566) (ik_35 hw) (by decide) (q := (RX2, TX2, 7)) rfl rfl rfl rfl (Nat.le_of_ble_eq_true rfl) dX4_isOverlapAlike_33 (fun σ4 => ?_)
  refine jo_aload_n (pc := 36) 0 rfl dX4_isOverlapAlike_36 rfl ?_
  refine jo_getrE (pc := 37) ok_4_1 (ik_40 hw) rf_40_1 gw_302 dX4_isOverlapAlike_37 ?_
  refine jo_iload_n (pc := 40) 3 rfl dX4_isOverlapAlike_40 rfl ?_
  refine jo_cV_V_i (pc := 41) (μ' := mu_X2_add) (fx := f_X2_add σ4 x2) (As := [.int x2]) (c_X2_add hw) (ok_X2_add) (ltb rfl) (all3 gw_560 gw_561 gw_562) (ik_35 hw) (by decide) (q := (RX2, TX2, 7)) rfl rfl rfl rfl (Nat.le_of_ble_eq_true rfl) dX4_isOverlapAlike_41 (fun σ5 => ?_)
  refine jo_aload_n (pc := 44) 0 rfl dX4_isOverlapAlike_44 rfl ?_
  refine jo_getrE (pc := 45) ok_4_1 (ik_40 hw) rf_40_1 gw_302 dX4_isOverlapAlike_45 ?_
  refine jo_aload_n (pc := 48) 0 rfl dX4_isOverlapAlike_48 rfl ?_
  refine jo_getrE (pc := 49) ok_4_0 (ik_40 hw) rf_40_0 gw_299 dX4_isOverlapAlike_49 ?_
  refine jo_sipush (pc := 52) dX4_isOverlapAlike_52 (ic_s_1000) ?_
  refine jo_cV_I_i (pc := 55) (μ' := mu_X2_run) (fx := f_X2_run σ5 41 1000) (As := [.ref (adr w 41), .int 1000]) (c_X2_run hw (ik_41 hw)) (ok_X2_run) (ltb rfl) (all3 gw_573 gw_574 gw_575) (ik_35 hw) (by decide) (q := (RX2, TX2, 7)) rfl rfl rfl rfl (Nat.le_of_ble_eq_true rfl) dX4_isOverlapAlike_55 (fun v6 σ7 => ?_)
  refine jo_pop (pc := 58) dX4_isOverlapAlike_58 rfl ?_
  refine jo_aload_n (pc := 59) 0 rfl dX4_isOverlapAlike_59 rfl ?_
  refine jo_getrE (pc := 60) ok_4_1 (ik_40 hw) rf_40_1 gw_302 dX4_isOverlapAlike_60 ?_
  refine jo_getrE (pc := 63) ok_2_6 (ik_35 hw) rf_35_6 gw_247 dX4_isOverlapAlike_63 ?_
  refine jo_iconst (pc := 66) dX4_isOverlapAlike_66 (ic_i_0) ?_
  refine jo_aload_n (pc := 67) 0 rfl dX4_isOverlapAlike_67 rfl ?_
  refine jo_getrE (pc := 68) ok_4_8 (ik_40 hw) rf_40_8 gw_314 dX4_isOverlapAlike_68 ?_
  refine jo_iconst (pc := 71) dX4_isOverlapAlike_71 (ic_i_0) ?_
  refine jo_bipush (pc := 72) dX4_isOverlapAlike_72 (ic_b_6) ?_
  refine jo_acI (pc := 74) (ik_39 hw) (ik_47 hw) (all4 gw_595 gw_547 gw_546 gw_170) (ltb rfl) (Nat.le_of_ble_eq_true rfl) dX4_isOverlapAlike_74 (fun σ8 => ?_)
  refine jo_aload_n (pc := 77) 0 rfl dX4_isOverlapAlike_77 rfl ?_
  refine jo_getrE (pc := 78) ok_4_1 (ik_40 hw) rf_40_1 gw_302 dX4_isOverlapAlike_78 ?_
  refine jo_cV_V_i (pc := 81) (μ' := mu_X2_begin) (fx := f_X2_begin σ8) (As := []) (c_X2_begin hw) (ok_X2_begin) (ltb rfl) (all3 gw_556 gw_557 gw_558) (ik_35 hw) (by decide) (q := (RX2, TX2, 7)) rfl rfl rfl rfl (Nat.le_of_ble_eq_true rfl) dX4_isOverlapAlike_81 (fun σ9 => ?_)
  refine jo_aload_n (pc := 84) 0 rfl dX4_isOverlapAlike_84 rfl ?_
  refine jo_getrE (pc := 85) ok_4_1 (ik_40 hw) rf_40_1 gw_302 dX4_isOverlapAlike_85 ?_
  refine jo_iload_n (pc := 88) 1 rfl dX4_isOverlapAlike_88 rfl ?_
  refine jo_cV_V_i (pc := 89) (μ' := mu_X2_add) (fx := f_X2_add σ9 x0) (As := [.int x0]) (c_X2_add hw) (ok_X2_add) (ltb rfl) (all3 gw_560 gw_561 gw_562) (ik_35 hw) (by decide) (q := (RX2, TX2, 7)) rfl rfl rfl rfl (Nat.le_of_ble_eq_true rfl) dX4_isOverlapAlike_89 (fun σ10 => ?_)
  refine jo_aload_n (pc := 92) 0 rfl dX4_isOverlapAlike_92 rfl ?_
  refine jo_getrE (pc := 93) ok_4_1 (ik_40 hw) rf_40_1 gw_302 dX4_isOverlapAlike_93 ?_
  refine jo_iload_n (pc := 96) 3 rfl dX4_isOverlapAlike_96 rfl ?_
  refine jo_cV_V_i (pc := 97) (μ' := mu_X2_add) (fx := f_X2_add σ10 x2) (As := [.int x2]) (c_X2_add hw) (ok_X2_add) (ltb rfl) (all3 gw_560 gw_561 gw_562) (ik_35 hw) (by decide) (q := (RX2, TX2, 7)) rfl rfl rfl rfl (Nat.le_of_ble_eq_true rfl) dX4_isOverlapAlike_97 (fun σ11 => ?_)
  refine jo_aload_n (pc := 100) 0 rfl dX4_isOverlapAlike_100 rfl ?_
  refine jo_getrE (pc := 101) ok_4_1 (ik_40 hw) rf_40_1 gw_302 dX4_isOverlapAlike_101 ?_
  refine jo_iload_n (pc := 104) 2 rfl dX4_isOverlapAlike_104 rfl ?_
  refine jo_cV_V_i (pc := 105) (μ' := mu_X2_add) (fx := f_X2_add σ11 x1) (As := [.int x1]) (c_X2_add hw) (ok_X2_add) (ltb rfl) (all3 gw_560 gw_561 gw_562) (ik_35 hw) (by decide) (q := (RX2, TX2, 7)) rfl rfl rfl rfl (Nat.le_of_ble_eq_true rfl) dX4_isOverlapAlike_105 (fun σ12 => ?_)
  refine jo_aload_n (pc := 108) 0 rfl dX4_isOverlapAlike_108 rfl ?_
  refine jo_getrE (pc := 109) ok_4_1 (ik_40 hw) rf_40_1 gw_302 dX4_isOverlapAlike_109 ?_
  refine jo_aload_n (pc := 112) 0 rfl dX4_isOverlapAlike_112 rfl ?_
  refine jo_getrE (pc := 113) ok_4_0 (ik_40 hw) rf_40_0 gw_299 dX4_isOverlapAlike_113 ?_
  refine jo_iload_n (pc := 116) 2 rfl dX4_isOverlapAlike_116 rfl ?_
  refine jo_iload_n (pc := 117) 3 rfl dX4_isOverlapAlike_117 rfl ?_
  refine jo_cV_V_i (pc := 118) (μ' := mu_X2_addTails) (fx := f_X2_addTails σ12 41 x1 x2) (As := [.ref (adr w 41), .int x1, .int x2]) (c_X2_addTails hw (ik_41 hw)) (ok_X2_addTails) (ltb rfl) (all3 gw_564 gw_565 gw_566) (ik_35 hw) (by decide) (q := (RX2, TX2, 7)) rfl rfl rfl rfl (Nat.le_of_ble_eq_true rfl) dX4_isOverlapAlike_118 (fun σ13 => ?_)
  refine jo_aload_n (pc := 121) 0 rfl dX4_isOverlapAlike_121 rfl ?_
  refine jo_getrE (pc := 122) ok_4_1 (ik_40 hw) rf_40_1 gw_302 dX4_isOverlapAlike_122 ?_
  refine jo_aload_n (pc := 125) 0 rfl dX4_isOverlapAlike_125 rfl ?_
  refine jo_getrE (pc := 126) ok_4_0 (ik_40 hw) rf_40_0 gw_299 dX4_isOverlapAlike_126 ?_
  refine jo_sipush (pc := 129) dX4_isOverlapAlike_129 (ic_s_1000) ?_
  refine jo_cV_I_i (pc := 132) (μ' := mu_X2_run) (fx := f_X2_run σ13 41 1000) (As := [.ref (adr w 41), .int 1000]) (c_X2_run hw (ik_41 hw)) (ok_X2_run) (ltb rfl) (all3 gw_573 gw_574 gw_575) (ik_35 hw) (by decide) (q := (RX2, TX2, 7)) rfl rfl rfl rfl (Nat.le_of_ble_eq_true rfl) dX4_isOverlapAlike_132 (fun v14 σ15 => ?_)
  refine jo_pop (pc := 135) dX4_isOverlapAlike_135 rfl ?_
  refine jo_iconst (pc := 136) dX4_isOverlapAlike_136 (ic_i_0) ?_
  refine jo_istore (pc := 137) (lv' := [(4, .int 0), (0, .ref (adr w 40)), (1, .int x0), (2, .int x1), (3, .int x2)]) dX4_isOverlapAlike_137 (ltb rfl) rfl ?_
  refine jo_lv (lv' := [(0, .ref (adr w 40)), (4, .int 0)]) [1, 0] rfl ?_
  refine jo_loop (X := (Bool × Mem)) (fun (z16 : Int32) => σ15) (fun (z16 : Int32) => [(0, .ref (adr w 40)), (4, .int z16)]) (body := (fun (z16 : Int32) => l_X4_isOverlapAlike_139 σ15 z16)) (fun F139_16 hF139_16 s => ?_) 0
  revert s; intro i16
  show JO w mu_X4_isOverlapAlike vB σ15 [(0, .ref (adr w 40)), (4, .int i16)] [] 139 (l_X4_isOverlapAlike_139 σ15 i16) _
  unfold l_X4_isOverlapAlike_139
  refine jo_iload (pc := 139) 1 rfl dX4_isOverlapAlike_139 ?_
  refine jo_bipush (pc := 141) dX4_isOverlapAlike_141 (ic_b_6) ?_
  refine jo_icmp_ge (pc := 143) dX4_isOverlapAlike_143 (tgt := 174) rfl ?_ ?_
  · refine jo_iconst (pc := 174) dX4_isOverlapAlike_174 (ic_i_1) ?_
    exact jo_breturn (pc := 175) (b := true) rfl rfl dX4_isOverlapAlike_175
  · refine jo_aload_n (pc := 146) 0 rfl dX4_isOverlapAlike_146 rfl ?_
    refine jo_getrE (pc := 147) ok_4_8 (ik_40 hw) rf_40_8 gw_314 dX4_isOverlapAlike_147 ?_
    refine jo_iload (pc := 150) 1 rfl dX4_isOverlapAlike_150 ?_
    refine jo_iald (pc := 152) (ik_47 hw) dX4_isOverlapAlike_152 (fun v17 => ?_)
    refine jo_aload_n (pc := 153) 0 rfl dX4_isOverlapAlike_153 rfl ?_
    refine jo_getrE (pc := 154) ok_4_1 (ik_40 hw) rf_40_1 gw_302 dX4_isOverlapAlike_154 ?_
    refine jo_getrE (pc := 157) ok_2_6 (ik_35 hw) rf_35_6 gw_247 dX4_isOverlapAlike_157 ?_
    refine jo_iload (pc := 160) 1 rfl dX4_isOverlapAlike_160 ?_
    refine jo_iald (pc := 162) (ik_39 hw) dX4_isOverlapAlike_162 (fun v18 => ?_)
    refine jo_icmp_eq (pc := 163) dX4_isOverlapAlike_163 (tgt := 168) rfl ?_ ?_
    · refine jo_iinc (pc := 168) (lv' := [(4, .int (i16 + 1)), (0, .ref (adr w 40))]) 1 rfl dX4_isOverlapAlike_168 (congrArg (fun z => i16 + z) (ic_i_1)) (ltb rfl) rfl ?_
      refine jo_goto (pc := 171) dX4_isOverlapAlike_171 (tgt := 139) rfl ?_
      refine jo_lv (lv' := [(0, .ref (adr w 40)), (4, .int (i16 + 1))]) [1, 0] rfl ?_
      exact jo_leaf (by rfl) (hF139_16 (i16 + 1))
    · refine jo_iconst (pc := 166) dX4_isOverlapAlike_166 (ic_i_0) ?_
      exact jo_breturn (pc := 167) (b := false) rfl rfl dX4_isOverlapAlike_167
theorem c_X4_isOverlapAlike {w : Wd} (hw : WOK w) {σ : Mem} {x0 : Int32} {x1 : Int32} {x2 : Int32} : ∀ r σ', f_X4_isOverlapAlike σ x0 x1 x2 = some (r, σ') → MC w mu_X4_isOverlapAlike (vB r) [.ref (adr w 40), .int x0, .int x1, .int x2] σ σ' := mc_of ok_X4_isOverlapAlike rfl (Nat.le_of_ble_eq_true rfl) (t_X4_isOverlapAlike hw)
abbrev mu_X4_areOverlapsAlike : MD := (yX4_areOverlapsAlike, cX4_areOverlapsAlike, 4, some .boolean, 5)
theorem ok_X4_areOverlapsAlike : MOK mu_X4_areOverlapsAlike 0 := ⟨gw_551, gw_162, (by decide +kernel : plainFor yX4_areOverlapsAlike = true), ⟨(by decide +kernel : yX4_areOverlapsAlike.cls ≠ "java/lang/invoke/MethodHandle"), (by decide +kernel : yX4_areOverlapsAlike.cls ≠ "java/lang/invoke/VarHandle"), (by decide +kernel : (parseMethodDescriptor yX4_areOverlapsAlike.desc).map (fun d => d.parameters.length) = some 0)⟩, Nat.le_of_ble_eq_true rfl⟩
noncomputable def j_X4_areOverlapsAlike_51 (i2 : Int32) (σ4 : Mem) : Option ((Mem × Int32) ⊕ (Bool × Mem)) :=
  some (Sum.inl (σ4, i2 + 1))
noncomputable def j_X4_areOverlapsAlike_45 (i6 : Int32) (σ7 : Mem) : Option ((Mem × Int32) ⊕ (Mem ⊕ ((Mem × Int32) ⊕ (Bool × Mem)))) :=
  some (Sum.inl (σ7, i6 + 1))
noncomputable def l_X4_areOverlapsAlike_22 (i2 : Int32) (i6 : Int32) (σ8 : Mem) (i9 : Int32) : Option ((Mem × Int32) ⊕ (Mem ⊕ ((Mem × Int32) ⊕ (Mem ⊕ ((Mem × Int32) ⊕ (Bool × Mem)))))) :=
  if i6 ≤ i9 then (some (Sum.inr (Sum.inl σ8))) else (bq (f_X4_isOverlapAlike σ8 i2 i6 i9) (fun (b10 : Bool) (σ11 : Mem) => if b10 then some (Sum.inl (σ11, i9 + 1)) else some (Sum.inr (Sum.inr (Sum.inr (Sum.inr (Sum.inr (false, σ11))))))))
noncomputable def l_X4_areOverlapsAlike_15 (i2 : Int32) (σ5 : Mem) (i6 : Int32) : Option ((Mem × Int32) ⊕ (Mem ⊕ ((Mem × Int32) ⊕ (Bool × Mem)))) :=
  if i2 ≤ i6 then (some (Sum.inr (Sum.inl σ5))) else ((loopO (fun (z9 : (Mem × Int32)) => l_X4_areOverlapsAlike_22 i2 i6 z9.1 z9.2) (σ5, 0) : Option (Mem ⊕ ((Mem × Int32) ⊕ (Mem ⊕ ((Mem × Int32) ⊕ (Bool × Mem)))))).bind (Sum.elim (fun (z7 : Mem) => j_X4_areOverlapsAlike_45 i6 z7) some))
noncomputable def l_X4_areOverlapsAlike_2 (σ1 : Mem) (i2 : Int32) : Option ((Mem × Int32) ⊕ (Bool × Mem)) :=
  gF σ1 41 0 (fun (v3 : Int32) => if v3 ≤ i2 then (some (Sum.inr (true, σ1))) else ((loopO (fun (z6 : (Mem × Int32)) => l_X4_areOverlapsAlike_15 i2 z6.1 z6.2) (σ1, 1) : Option (Mem ⊕ ((Mem × Int32) ⊕ (Bool × Mem)))).bind (Sum.elim (fun (z4 : Mem) => j_X4_areOverlapsAlike_51 i2 z4) some)))
noncomputable def f_X4_areOverlapsAlike (σ : Mem) : Option (Bool × Mem) :=
  loopO (fun (z2 : (Mem × Int32)) => l_X4_areOverlapsAlike_2 z2.1 z2.2) (σ, 2)
theorem t_X4_areOverlapsAlike {w : Wd} (hw : WOK w) {σ : Mem} : JO w mu_X4_areOverlapsAlike vB σ [(0, .ref (adr w 40))] [] 0 (f_X4_areOverlapsAlike σ) some := by
  unfold f_X4_areOverlapsAlike
  refine jo_iconst (pc := 0) dX4_areOverlapsAlike_0 (ic_i_2) ?_
  refine jo_istore_n (pc := 1) (lv' := [(1, .int 2), (0, .ref (adr w 40))]) dX4_areOverlapsAlike_1 rfl (ltb rfl) rfl ?_
  refine jo_lv (lv' := [(0, .ref (adr w 40)), (1, .int 2)]) [1, 0] rfl ?_
  refine jo_loop (X := (Bool × Mem)) (fun (z2 : (Mem × Int32)) => z2.1) (fun (z2 : (Mem × Int32)) => [(0, .ref (adr w 40)), (1, .int z2.2)]) (body := (fun (z2 : (Mem × Int32)) => l_X4_areOverlapsAlike_2 z2.1 z2.2)) (fun F2_2 hF2_2 s => ?_) (σ, 2)
  obtain ⟨σ1, i2⟩ := s
  show JO w mu_X4_areOverlapsAlike vB σ1 [(0, .ref (adr w 40)), (1, .int i2)] [] 2 (l_X4_areOverlapsAlike_2 σ1 i2) _
  unfold l_X4_areOverlapsAlike_2
  refine jo_iload_n (pc := 2) 1 rfl dX4_areOverlapsAlike_2 rfl ?_
  refine jo_aload_n (pc := 3) 0 rfl dX4_areOverlapsAlike_3 rfl ?_
  refine jo_getrE (pc := 4) ok_4_0 (ik_40 hw) rf_40_0 gw_299 dX4_areOverlapsAlike_4 ?_
  refine jo_getf (pc := 7) ok_6_0 (ik_41 hw) gw_196 dX4_areOverlapsAlike_7 (fun v3 => ?_)
  refine jo_icmp_ge (pc := 10) dX4_areOverlapsAlike_10 (tgt := 57) rfl ?_ ?_
  · refine jo_iconst (pc := 57) dX4_areOverlapsAlike_57 (ic_i_1) ?_
    exact jo_breturn (pc := 58) (b := true) rfl rfl dX4_areOverlapsAlike_58
  · refine jo_iconst (pc := 13) dX4_areOverlapsAlike_13 (ic_i_1) ?_
    refine jo_istore_n (pc := 14) (lv' := [(2, .int 1), (0, .ref (adr w 40)), (1, .int i2)]) dX4_areOverlapsAlike_14 rfl (ltb rfl) rfl ?_
    refine jo_joinS (S := Mem) (fun (z4 : Mem) => z4) (fun (z4 : Mem) => [(0, .ref (adr w 40)), (1, .int i2)]) (fun (z4 : Mem) => []) 51 ?_ (fun h51_4 => ?_)
    · intro σ4
      show JO w mu_X4_areOverlapsAlike vB σ4 [(0, .ref (adr w 40)), (1, .int i2)] [] 51 (j_X4_areOverlapsAlike_51 i2 σ4) _
      unfold j_X4_areOverlapsAlike_51
      refine jo_iinc (pc := 51) (lv' := [(1, .int (i2 + 1)), (0, .ref (adr w 40))]) 1 rfl dX4_areOverlapsAlike_51 (congrArg (fun z => i2 + z) (ic_i_1)) (ltb rfl) rfl ?_
      refine jo_goto (pc := 54) dX4_areOverlapsAlike_54 (tgt := 2) rfl ?_
      refine jo_lv (lv' := [(0, .ref (adr w 40)), (1, .int (i2 + 1))]) [1, 0] rfl ?_
      exact jo_leaf (by rfl) (hF2_2 (σ4, i2 + 1))
    · refine jo_lv (lv' := [(0, .ref (adr w 40)), (1, .int i2), (2, .int 1)]) [1, 2, 0] rfl ?_
      refine jo_loop (X := Mem ⊕ ((Mem × Int32) ⊕ (Bool × Mem))) (fun (z6 : (Mem × Int32)) => z6.1) (fun (z6 : (Mem × Int32)) => [(0, .ref (adr w 40)), (1, .int i2), (2, .int z6.2)]) (body := (fun (z6 : (Mem × Int32)) => l_X4_areOverlapsAlike_15 i2 z6.1 z6.2)) (fun F15_6 hF15_6 s => ?_) (σ1, 1)
      obtain ⟨σ5, i6⟩ := s
      show JO w mu_X4_areOverlapsAlike vB σ5 [(0, .ref (adr w 40)), (1, .int i2), (2, .int i6)] [] 15 (l_X4_areOverlapsAlike_15 i2 σ5 i6) _
      unfold l_X4_areOverlapsAlike_15
      refine jo_iload_n (pc := 15) 2 rfl dX4_areOverlapsAlike_15 rfl ?_
      refine jo_iload_n (pc := 16) 1 rfl dX4_areOverlapsAlike_16 rfl ?_
      refine jo_icmp_ge (pc := 17) dX4_areOverlapsAlike_17 (tgt := 51) rfl ?_ ?_
      · refine jo_lv (lv' := [(0, .ref (adr w 40)), (1, .int i2)]) [0, 1] rfl ?_
        exact jo_leaf (by rfl) (h51_4 σ5)
      · refine jo_iconst (pc := 20) dX4_areOverlapsAlike_20 (ic_i_0) ?_
        refine jo_istore_n (pc := 21) (lv' := [(3, .int 0), (0, .ref (adr w 40)), (1, .int i2), (2, .int i6)]) dX4_areOverlapsAlike_21 rfl (ltb rfl) rfl ?_
        refine jo_joinS (S := Mem) (fun (z7 : Mem) => z7) (fun (z7 : Mem) => [(0, .ref (adr w 40)), (1, .int i2), (2, .int i6)]) (fun (z7 : Mem) => []) 45 ?_ (fun h45_7 => ?_)
        · intro σ7
          show JO w mu_X4_areOverlapsAlike vB σ7 [(0, .ref (adr w 40)), (1, .int i2), (2, .int i6)] [] 45 (j_X4_areOverlapsAlike_45 i6 σ7) _
          unfold j_X4_areOverlapsAlike_45
          refine jo_iinc (pc := 45) (lv' := [(2, .int (i6 + 1)), (0, .ref (adr w 40)), (1, .int i2)]) 2 rfl dX4_areOverlapsAlike_45 (congrArg (fun z => i6 + z) (ic_i_1)) (ltb rfl) rfl ?_
          refine jo_goto (pc := 48) dX4_areOverlapsAlike_48 (tgt := 15) rfl ?_
          refine jo_lv (lv' := [(0, .ref (adr w 40)), (1, .int i2), (2, .int (i6 + 1))]) [1, 2, 0] rfl ?_
          exact jo_leaf (by rfl) (hF15_6 (σ7, i6 + 1))
        · refine jo_lv (lv' := [(0, .ref (adr w 40)), (1, .int i2), (2, .int i6), (3, .int 0)]) [1, 2, 3, 0] rfl ?_
          refine jo_loop (X := Mem ⊕ ((Mem × Int32) ⊕ (Mem ⊕ ((Mem × Int32) ⊕ (Bool × Mem))))) (fun (z9 : (Mem × Int32)) => z9.1) (fun (z9 : (Mem × Int32)) => [(0, .ref (adr w 40)), (1, .int i2), (2, .int i6), (3, .int z9.2)]) (body := (fun (z9 : (Mem × Int32)) => l_X4_areOverlapsAlike_22 i2 i6 z9.1 z9.2)) (fun F22_9 hF22_9 s => ?_) (σ5, 0)
          obtain ⟨σ8, i9⟩ := s
          show JO w mu_X4_areOverlapsAlike vB σ8 [(0, .ref (adr w 40)), (1, .int i2), (2, .int i6), (3, .int i9)] [] 22 (l_X4_areOverlapsAlike_22 i2 i6 σ8 i9) _
          unfold l_X4_areOverlapsAlike_22
          refine jo_iload_n (pc := 22) 3 rfl dX4_areOverlapsAlike_22 rfl ?_
          refine jo_iload_n (pc := 23) 2 rfl dX4_areOverlapsAlike_23 rfl ?_
          refine jo_icmp_ge (pc := 24) dX4_areOverlapsAlike_24 (tgt := 45) rfl ?_ ?_
          · refine jo_lv (lv' := [(0, .ref (adr w 40)), (1, .int i2), (2, .int i6)]) [0, 1, 2] rfl ?_
            exact jo_leaf (by rfl) (h45_7 σ8)
          · refine jo_aload_n (pc := 27) 0 rfl dX4_areOverlapsAlike_27 rfl ?_
            refine jo_iload_n (pc := 28) 1 rfl dX4_areOverlapsAlike_28 rfl ?_
            refine jo_iload_n (pc := 29) 2 rfl dX4_areOverlapsAlike_29 rfl ?_
            refine jo_iload_n (pc := 30) 3 rfl dX4_areOverlapsAlike_30 rfl ?_
            refine jo_cV_Z_i (pc := 31) (μ' := mu_X4_isOverlapAlike) (fx := f_X4_isOverlapAlike σ8 i2 i6 i9) (As := [.int i2, .int i6, .int i9]) (c_X4_isOverlapAlike hw) (ok_X4_isOverlapAlike) (ltb rfl) (all3 gw_552 gw_554 gw_1) (ik_40 hw) (by decide) (q := (RX4, TX4, 9)) rfl rfl rfl rfl (Nat.le_of_ble_eq_true rfl) dX4_areOverlapsAlike_31 (fun b10 σ11 => ?_)
            refine jo_ifz_ne (pc := 34) dX4_areOverlapsAlike_34 (tgt := 39) rfl ?_ ?_
            · refine jo_iinc (pc := 39) (lv' := [(3, .int (i9 + 1)), (0, .ref (adr w 40)), (1, .int i2), (2, .int i6)]) 3 rfl dX4_areOverlapsAlike_39 (congrArg (fun z => i9 + z) (ic_i_1)) (ltb rfl) rfl ?_
              refine jo_goto (pc := 42) dX4_areOverlapsAlike_42 (tgt := 22) rfl ?_
              refine jo_lv (lv' := [(0, .ref (adr w 40)), (1, .int i2), (2, .int i6), (3, .int (i9 + 1))]) [1, 2, 3, 0] rfl ?_
              exact jo_leaf (by rfl) (hF22_9 (σ11, i9 + 1))
            · refine jo_iconst (pc := 37) dX4_areOverlapsAlike_37 (ic_i_0) ?_
              exact jo_breturn (pc := 38) (b := false) rfl rfl dX4_areOverlapsAlike_38
theorem c_X4_areOverlapsAlike {w : Wd} (hw : WOK w) {σ : Mem} : ∀ r σ', f_X4_areOverlapsAlike σ = some (r, σ') → MC w mu_X4_areOverlapsAlike (vB r) [.ref (adr w 40)] σ σ' := mc_of ok_X4_areOverlapsAlike rfl (Nat.le_of_ble_eq_true rfl) (t_X4_areOverlapsAlike hw)
abbrev mu_X6_top : MD := (yX6_top, cX6_top, 1, some .int, 0)
theorem ok_X6_top : MOK mu_X6_top 0 := ⟨gw_608, gw_160, (by decide +kernel : plainFor yX6_top = true), ⟨(by decide +kernel : yX6_top.cls ≠ "java/lang/invoke/MethodHandle"), (by decide +kernel : yX6_top.cls ≠ "java/lang/invoke/VarHandle"), (by decide +kernel : (parseMethodDescriptor yX6_top.desc).map (fun d => d.parameters.length) = some 0)⟩, Nat.le_of_ble_eq_true rfl⟩
noncomputable def f_X6_top (σ : Mem) (a : Nat) : Option Int32 :=
  gF σ a 0 (fun (v1 : Int32) => if v1 ≤ 0 then (some 0) else (gF σ a 0 (fun (v2 : Int32) => gI σ (rf a 1) (v2 - 1) (fun (v3 : Int32) => some v3))))
theorem t_X6_top {w : Wd} (hw : WOK w) {σ : Mem} {a : Nat} (ha : isk w a 6) : JO w mu_X6_top vI σ [(0, .ref (adr w a))] [] 0 (f_X6_top σ a) (fun z => some (z, σ)) := by
  unfold f_X6_top
  refine jo_aload_n (pc := 0) 0 rfl dX6_top_0 rfl ?_
  refine jo_getf (pc := 1) ok_6_0 (ha) gw_193 dX6_top_1 (fun v1 => ?_)
  refine jo_if_le (pc := 4) dX6_top_4 (tgt := 21) rfl ?_ ?_
  · refine jo_iconst (pc := 21) dX6_top_21 (ic_i_0) ?_
    exact jo_ireturn (pc := 22) rfl rfl dX6_top_22
  · refine jo_aload_n (pc := 7) 0 rfl dX6_top_7 rfl ?_
    refine jo_getr (pc := 8) ok_6_1 (ha) gw_200 dX6_top_8 ?_
    refine jo_aload_n (pc := 11) 0 rfl dX6_top_11 rfl ?_
    refine jo_getf (pc := 12) ok_6_0 (ha) gw_193 dX6_top_12 (fun v2 => ?_)
    refine jo_iconst (pc := 15) dX6_top_15 (ic_i_1) ?_
    refine jo_isub (pc := 16) dX6_top_16 ?_
    refine jo_iald (pc := 17) (wf_6_1 hw (ha)) dX6_top_17 (fun v3 => ?_)
    refine jo_goto (pc := 18) dX6_top_18 (tgt := 22) rfl ?_
    exact jo_ireturn (pc := 22) rfl rfl dX6_top_22
theorem c_X6_top {w : Wd} (hw : WOK w) {σ : Mem} {a : Nat} (ha : isk w a 6) : ∀ r, f_X6_top σ a = some r → MC w mu_X6_top (vI r) [.ref (adr w a)] σ σ := mc_ofP ok_X6_top rfl (Nat.le_of_ble_eq_true rfl) (t_X6_top hw ha)
abbrev mu_X4_goToNextPoint : MD := (yX4_goToNextPoint, cX4_goToNextPoint, 4, some .boolean, 1)
theorem ok_X4_goToNextPoint : MOK mu_X4_goToNextPoint 0 := ⟨gw_604, gw_162, (by decide +kernel : plainFor yX4_goToNextPoint = true), ⟨(by decide +kernel : yX4_goToNextPoint.cls ≠ "java/lang/invoke/MethodHandle"), (by decide +kernel : yX4_goToNextPoint.cls ≠ "java/lang/invoke/VarHandle"), (by decide +kernel : (parseMethodDescriptor yX4_goToNextPoint.desc).map (fun d => d.parameters.length) = some 0)⟩, Nat.le_of_ble_eq_true rfl⟩
noncomputable def j_X4_goToNextPoint_85 (σ3 : Mem) (i4 : Int32) (i5 : Int32) : Option (Bool × Mem) :=
  gI σ3 45 i5 (fun (v6 : Int32) => pI σ3 45 i5 (v6 + 1) (fun (σ7 : Mem) => gF σ7 40 6 (fun (v8 : Int32) => gI σ7 42 i4 (fun (v9 : Int32) => pF σ7 40 6 (v8 + v9) (fun (σ10 : Mem) => some (true, σ10))))))
noncomputable def j_X4_goToNextPoint_60 (σ11 : Mem) (i12 : Int32) (i14 : Int32) (i16 : Int32) : Option ((Mem × Int32) ⊕ ((Mem × Int32 × Int32) ⊕ (Bool × Mem))) :=
  gF σ11 40 6 (fun (v17 : Int32) => gI σ11 42 i14 (fun (v18 : Int32) => (f_X6_top σ11 41).bind (fun (v19 : Int32) => if v19 < (v17 + v18) then (gF σ11 40 6 (fun (v20 : Int32) => gI σ11 45 i16 (fun (v21 : Int32) => gI σ11 42 i14 (fun (v22 : Int32) => pF σ11 40 6 (v20 - (v21 * v22)) (fun (σ23 : Mem) => pI σ23 45 i16 0 (fun (σ24 : Mem) => some (Sum.inl (σ24, i12 + (-1))))))))) else (some (Sum.inr (Sum.inl (σ11, i14, i16)))))))
noncomputable def j_X4_goToNextPoint_40 (σ11 : Mem) (i12 : Int32) (i14 : Int32) : Option ((Mem × Int32) ⊕ ((Mem × Int32 × Int32) ⊕ (Bool × Mem))) :=
  gF σ11 41 0 (fun (v15 : Int32) => (if v15 ≤ i12 then (some (6 + i14)) else (some i14) : Option Int32).bind (fun (z16 : Int32) => j_X4_goToNextPoint_60 σ11 i12 i14 z16))
noncomputable def l_X4_goToNextPoint_12 (σ11 : Mem) (i12 : Int32) : Option ((Mem × Int32) ⊕ ((Mem × Int32 × Int32) ⊕ (Bool × Mem))) :=
  if i12 < 0 then (some (Sum.inr (Sum.inr (false, σ11)))) else (gF σ11 41 0 (fun (v13 : Int32) => (if v13 ≤ i12 then (gF σ11 41 0 (fun (v25 : Int32) => some (i12 - v25))) else (some i12) : Option Int32).bind (fun (z14 : Int32) => j_X4_goToNextPoint_40 σ11 i12 z14)))
noncomputable def f_X4_goToNextPoint (σ : Mem) : Option (Bool × Mem) :=
  gF σ 41 0 (fun (v1 : Int32) => bd ((2 * v1) - 1) (fun (v2 : Int32) => (loopO (fun (z12 : (Mem × Int32)) => l_X4_goToNextPoint_12 z12.1 z12.2) (σ, v2) : Option ((Mem × Int32 × Int32) ⊕ (Bool × Mem))).bind (Sum.elim (fun (z5 : (Mem × Int32 × Int32)) => j_X4_goToNextPoint_85 z5.1 z5.2.1 z5.2.2) some)))
theorem t_X4_goToNextPoint {w : Wd} (hw : WOK w) {σ : Mem} : JO w mu_X4_goToNextPoint vB σ [(0, .ref (adr w 40))] [] 0 (f_X4_goToNextPoint σ) some := by
  unfold f_X4_goToNextPoint
  refine jo_iconst (pc := 0) dX4_goToNextPoint_0 (ic_i_2) ?_
  refine jo_aload_n (pc := 1) 0 rfl dX4_goToNextPoint_1 rfl ?_
  refine jo_getrE (pc := 2) ok_4_0 (ik_40 hw) rf_40_0 gw_299 dX4_goToNextPoint_2 ?_
  refine jo_getf (pc := 5) ok_6_0 (ik_41 hw) gw_196 dX4_goToNextPoint_5 (fun v1 => ?_)
  refine jo_imul (pc := 8) dX4_goToNextPoint_8 ?_
  refine jo_iconst (pc := 9) dX4_goToNextPoint_9 (ic_i_1) ?_
  refine jo_isub (pc := 10) dX4_goToNextPoint_10 ?_
  refine jo_bd ?_
  refine jo_istore_n (pc := 11) (lv' := [(1, .int ((2 * v1) - 1)), (0, .ref (adr w 40))]) dX4_goToNextPoint_11 rfl (ltb rfl) rfl ?_
  generalize ((2 * v1) - 1) = v2
  refine jo_joinS (S := (Mem × Int32 × Int32)) (fun (z5 : (Mem × Int32 × Int32)) => z5.1) (fun (z5 : (Mem × Int32 × Int32)) => [(0, .ref (adr w 40)), (2, .int z5.2.1), (3, .int z5.2.2)]) (fun (z5 : (Mem × Int32 × Int32)) => []) 85 ?_ (fun h85_5 => ?_)
  · intro s
    obtain ⟨σ3, i4, i5⟩ := s
    show JO w mu_X4_goToNextPoint vB σ3 [(0, .ref (adr w 40)), (2, .int i4), (3, .int i5)] [] 85 (j_X4_goToNextPoint_85 σ3 i4 i5) _
    unfold j_X4_goToNextPoint_85
    refine jo_aload_n (pc := 85) 0 rfl dX4_goToNextPoint_85 rfl ?_
    refine jo_getrE (pc := 86) ok_4_5 (ik_40 hw) rf_40_5 gw_311 dX4_goToNextPoint_86 ?_
    refine jo_iload_n (pc := 89) 2 rfl dX4_goToNextPoint_89 rfl ?_
    refine jo_dup2 (pc := 90) dX4_goToNextPoint_90 rfl rfl ?_
    refine jo_iald (pc := 91) (ik_45 hw) dX4_goToNextPoint_91 (fun v6 => ?_)
    refine jo_iconst (pc := 92) dX4_goToNextPoint_92 (ic_i_1) ?_
    refine jo_iadd (pc := 93) dX4_goToNextPoint_93 ?_
    refine jo_iast (pc := 94) (ik_45 hw) dX4_goToNextPoint_94 (fun σ7 => ?_)
    refine jo_aload_n (pc := 95) 0 rfl dX4_goToNextPoint_95 rfl ?_
    refine jo_dup (pc := 96) dX4_goToNextPoint_96 rfl ?_
    refine jo_getf (pc := 97) ok_4_6 (ik_40 hw) gw_312 dX4_goToNextPoint_97 (fun v8 => ?_)
    refine jo_aload_n (pc := 100) 0 rfl dX4_goToNextPoint_100 rfl ?_
    refine jo_getrE (pc := 101) ok_4_0 (ik_40 hw) rf_40_0 gw_299 dX4_goToNextPoint_101 ?_
    refine jo_getrE (pc := 104) ok_6_1 (ik_41 hw) rf_41_1 gw_205 dX4_goToNextPoint_104 ?_
    refine jo_iload_n (pc := 107) 1 rfl dX4_goToNextPoint_107 rfl ?_
    refine jo_iald (pc := 108) (ik_42 hw) dX4_goToNextPoint_108 (fun v9 => ?_)
    refine jo_iadd (pc := 109) dX4_goToNextPoint_109 ?_
    refine jo_putf (pc := 110) ok_4_6 okp_4_6 (ik_40 hw) gw_312 dX4_goToNextPoint_110 (fun σ10 => ?_)
    refine jo_iconst (pc := 113) dX4_goToNextPoint_113 (ic_i_1) ?_
    exact jo_breturn (pc := 114) (b := true) rfl rfl dX4_goToNextPoint_114
  · refine jo_lv (lv' := [(0, .ref (adr w 40)), (1, .int v2)]) [1, 0] rfl ?_
    refine jo_loop (X := (Mem × Int32 × Int32) ⊕ (Bool × Mem)) (fun (z12 : (Mem × Int32)) => z12.1) (fun (z12 : (Mem × Int32)) => [(0, .ref (adr w 40)), (1, .int z12.2)]) (body := (fun (z12 : (Mem × Int32)) => l_X4_goToNextPoint_12 z12.1 z12.2)) (fun F12_12 hF12_12 s => ?_) (σ, v2)
    obtain ⟨σ11, i12⟩ := s
    show JO w mu_X4_goToNextPoint vB σ11 [(0, .ref (adr w 40)), (1, .int i12)] [] 12 (l_X4_goToNextPoint_12 σ11 i12) _
    unfold l_X4_goToNextPoint_12
    refine jo_iload_n (pc := 12) 1 rfl dX4_goToNextPoint_12 rfl ?_
    refine jo_if_lt (pc := 13) dX4_goToNextPoint_13 (tgt := 153) rfl ?_ ?_
    · refine jo_iconst (pc := 153) dX4_goToNextPoint_153 (ic_i_0) ?_
      exact jo_breturn (pc := 154) (b := false) rfl rfl dX4_goToNextPoint_154
    · refine jo_iload_n (pc := 16) 1 rfl dX4_goToNextPoint_16 rfl ?_
      refine jo_aload_n (pc := 17) 0 rfl dX4_goToNextPoint_17 rfl ?_
      refine jo_getrE (pc := 18) ok_4_0 (ik_40 hw) rf_40_0 gw_299 dX4_goToNextPoint_18 ?_
      refine jo_getf (pc := 21) ok_6_0 (ik_41 hw) gw_196 dX4_goToNextPoint_21 (fun v13 => ?_)
      refine jo_join1 (S := Int32) (fun (z14 : Int32) => σ11) (fun (z14 : Int32) => [(0, .ref (adr w 40)), (1, .int i12)]) (fun (z14 : Int32) => [.int z14]) 40 ?_ (fun h40_14 => ?_)
      · intro i14
        show JO w mu_X4_goToNextPoint vB σ11 [(0, .ref (adr w 40)), (1, .int i12)] [.int i14] 40 (j_X4_goToNextPoint_40 σ11 i12 i14) _
        unfold j_X4_goToNextPoint_40
        refine jo_istore_n (pc := 40) (lv' := [(2, .int i14), (0, .ref (adr w 40)), (1, .int i12)]) dX4_goToNextPoint_40 rfl (ltb rfl) rfl ?_
        refine jo_iload_n (pc := 41) 2 rfl dX4_goToNextPoint_41 rfl ?_
        refine jo_aload_n (pc := 42) 1 rfl dX4_goToNextPoint_42 rfl ?_
        refine jo_getrE (pc := 43) ok_4_0 (ik_40 hw) rf_40_0 gw_299 dX4_goToNextPoint_43 ?_
        refine jo_getf (pc := 46) ok_6_0 (ik_41 hw) gw_196 dX4_goToNextPoint_46 (fun v15 => ?_)
        refine jo_join1 (S := Int32) (fun (z16 : Int32) => σ11) (fun (z16 : Int32) => [(2, .int i14), (0, .ref (adr w 40)), (1, .int i12)]) (fun (z16 : Int32) => [.int z16]) 60 ?_ (fun h60_16 => ?_)
        · intro i16
          show JO w mu_X4_goToNextPoint vB σ11 [(2, .int i14), (0, .ref (adr w 40)), (1, .int i12)] [.int i16] 60 (j_X4_goToNextPoint_60 σ11 i12 i14 i16) _
          unfold j_X4_goToNextPoint_60
          refine jo_istore_n (pc := 60) (lv' := [(3, .int i16), (2, .int i14), (0, .ref (adr w 40)), (1, .int i12)]) dX4_goToNextPoint_60 rfl (ltb rfl) rfl ?_
          refine jo_aload_n (pc := 61) 2 rfl dX4_goToNextPoint_61 rfl ?_
          refine jo_getf (pc := 62) ok_4_6 (ik_40 hw) gw_312 dX4_goToNextPoint_62 (fun v17 => ?_)
          refine jo_aload_n (pc := 65) 2 rfl dX4_goToNextPoint_65 rfl ?_
          refine jo_getrE (pc := 66) ok_4_0 (ik_40 hw) rf_40_0 gw_299 dX4_goToNextPoint_66 ?_
          refine jo_getrE (pc := 69) ok_6_1 (ik_41 hw) rf_41_1 gw_205 dX4_goToNextPoint_69 ?_
          refine jo_iload_n (pc := 72) 1 rfl dX4_goToNextPoint_72 rfl ?_
          refine jo_iald (pc := 73) (ik_42 hw) dX4_goToNextPoint_73 (fun v18 => ?_)
          refine jo_iadd (pc := 74) dX4_goToNextPoint_74 ?_
          refine jo_aload_n (pc := 75) 2 rfl dX4_goToNextPoint_75 rfl ?_
          refine jo_getrE (pc := 76) ok_4_0 (ik_40 hw) rf_40_0 gw_299 dX4_goToNextPoint_76 ?_
          refine jo_cV_I_p (pc := 79) (μ' := mu_X6_top) (fx := f_X6_top σ11 41) (As := []) (c_X6_top hw (ik_41 hw)) (ok_X6_top) (ltb rfl) (all3 gw_605 gw_606 gw_607) (ik_41 hw) (by decide) (q := (RX6, TX6, 3)) rfl rfl rfl rfl (Nat.le_of_ble_eq_true rfl) dX4_goToNextPoint_79 (fun v19 => ?_)
          refine jo_icmp_gt (pc := 82) dX4_goToNextPoint_82 (tgt := 115) rfl ?_ ?_
          · refine jo_aload_n (pc := 115) 2 rfl dX4_goToNextPoint_115 rfl ?_
            refine jo_dup (pc := 116) dX4_goToNextPoint_116 rfl ?_
            refine jo_getf (pc := 117) ok_4_6 (ik_40 hw) gw_312 dX4_goToNextPoint_117 (fun v20 => ?_)
            refine jo_aload_n (pc := 120) 2 rfl dX4_goToNextPoint_120 rfl ?_
            refine jo_getrE (pc := 121) ok_4_5 (ik_40 hw) rf_40_5 gw_311 dX4_goToNextPoint_121 ?_
            refine jo_iload_n (pc := 124) 0 rfl dX4_goToNextPoint_124 rfl ?_
            refine jo_iald (pc := 125) (ik_45 hw) dX4_goToNextPoint_125 (fun v21 => ?_)
            refine jo_aload_n (pc := 126) 2 rfl dX4_goToNextPoint_126 rfl ?_
            refine jo_getrE (pc := 127) ok_4_0 (ik_40 hw) rf_40_0 gw_299 dX4_goToNextPoint_127 ?_
            refine jo_getrE (pc := 130) ok_6_1 (ik_41 hw) rf_41_1 gw_205 dX4_goToNextPoint_130 ?_
            refine jo_iload_n (pc := 133) 1 rfl dX4_goToNextPoint_133 rfl ?_
            refine jo_iald (pc := 134) (ik_42 hw) dX4_goToNextPoint_134 (fun v22 => ?_)
            refine jo_imul (pc := 135) dX4_goToNextPoint_135 ?_
            refine jo_isub (pc := 136) dX4_goToNextPoint_136 ?_
            refine jo_putf (pc := 137) ok_4_6 okp_4_6 (ik_40 hw) gw_312 dX4_goToNextPoint_137 (fun σ23 => ?_)
            refine jo_aload_n (pc := 140) 2 rfl dX4_goToNextPoint_140 rfl ?_
            refine jo_getrE (pc := 141) ok_4_5 (ik_40 hw) rf_40_5 gw_311 dX4_goToNextPoint_141 ?_
            refine jo_iload_n (pc := 144) 0 rfl dX4_goToNextPoint_144 rfl ?_
            refine jo_iconst (pc := 145) dX4_goToNextPoint_145 (ic_i_0) ?_
            refine jo_iast (pc := 146) (ik_45 hw) dX4_goToNextPoint_146 (fun σ24 => ?_)
            refine jo_iinc (pc := 147) (lv' := [(1, .int (i12 + (-1))), (3, .int i16), (2, .int i14), (0, .ref (adr w 40))]) 3 rfl dX4_goToNextPoint_147 (congrArg (fun z => i12 + z) (ic_i_m1)) (ltb rfl) rfl ?_
            refine jo_goto (pc := 150) dX4_goToNextPoint_150 (tgt := 12) rfl ?_
            refine jo_lv (lv' := [(0, .ref (adr w 40)), (1, .int (i12 + (-1)))]) [3, 0] rfl ?_
            exact jo_leaf (by rfl) (hF12_12 (σ24, i12 + (-1)))
          · refine jo_lv (lv' := [(0, .ref (adr w 40)), (2, .int i14), (3, .int i16)]) [2, 1, 0] rfl ?_
            exact jo_leaf (by rfl) (h85_5 (σ11, i14, i16))
        · refine jo_icmp_ge (pc := 49) dX4_goToNextPoint_49 (tgt := 56) rfl ?_ ?_
          · refine jo_bipush (pc := 56) dX4_goToNextPoint_56 (ic_b_6) ?_
            refine jo_iload_n (pc := 58) 0 rfl dX4_goToNextPoint_58 rfl ?_
            refine jo_iadd (pc := 59) dX4_goToNextPoint_59 ?_
            exact jo_leaf (by rfl) (h60_16 (6 + i14))
          · refine jo_iload_n (pc := 52) 0 rfl dX4_goToNextPoint_52 rfl ?_
            refine jo_goto (pc := 53) dX4_goToNextPoint_53 (tgt := 60) rfl ?_
            exact jo_leaf (by rfl) (h60_16 i14)
      · refine jo_icmp_ge (pc := 24) dX4_goToNextPoint_24 (tgt := 31) rfl ?_ ?_
        · refine jo_iload_n (pc := 31) 1 rfl dX4_goToNextPoint_31 rfl ?_
          refine jo_aload_n (pc := 32) 0 rfl dX4_goToNextPoint_32 rfl ?_
          refine jo_getrE (pc := 33) ok_4_0 (ik_40 hw) rf_40_0 gw_299 dX4_goToNextPoint_33 ?_
          refine jo_getf (pc := 36) ok_6_0 (ik_41 hw) gw_196 dX4_goToNextPoint_36 (fun v25 => ?_)
          refine jo_isub (pc := 39) dX4_goToNextPoint_39 ?_
          exact jo_leaf (by rfl) (h40_14 (i12 - v25))
        · refine jo_iload_n (pc := 27) 1 rfl dX4_goToNextPoint_27 rfl ?_
          refine jo_goto (pc := 28) dX4_goToNextPoint_28 (tgt := 40) rfl ?_
          exact jo_leaf (by rfl) (h40_14 i12)
theorem c_X4_goToNextPoint {w : Wd} (hw : WOK w) {σ : Mem} : ∀ r σ', f_X4_goToNextPoint σ = some (r, σ') → MC w mu_X4_goToNextPoint (vB r) [.ref (adr w 40)] σ σ' := mc_of ok_X4_goToNextPoint rfl (Nat.le_of_ble_eq_true rfl) (t_X4_goToNextPoint hw)
abbrev mu_X10_degree : MD := (yX10_degree, cX10_degree, 2, some .int, 0)
theorem ok_X10_degree : MOK mu_X10_degree 2 := ⟨gw_630, gw_158, (by decide +kernel : plainFor yX10_degree = true), ⟨(by decide +kernel : yX10_degree.cls ≠ "java/lang/invoke/MethodHandle"), (by decide +kernel : yX10_degree.cls ≠ "java/lang/invoke/VarHandle"), (by decide +kernel : (parseMethodDescriptor yX10_degree.desc).map (fun d => d.parameters.length) = some 2)⟩, Nat.le_of_ble_eq_true rfl⟩
noncomputable def f_X10_degree (σ : Mem) (x0 : Int32) (x1 : Int32) : Option Int32 :=
  some ((x0 >>> ((2 * (11 - x1)) &&& 31)) &&& 3)
theorem t_X10_degree {w : Wd} (hw : WOK w) {σ : Mem} {x0 : Int32} {x1 : Int32} : JO w mu_X10_degree vI σ [(0, .int x0), (1, .int x1)] [] 0 (f_X10_degree σ x0 x1) (fun z => some (z, σ)) := by
  unfold f_X10_degree
  refine jo_iload_n (pc := 0) 0 rfl dX10_degree_0 rfl ?_
  refine jo_iconst (pc := 1) dX10_degree_1 (ic_i_2) ?_
  refine jo_bipush (pc := 2) dX10_degree_2 (ic_b_11) ?_
  refine jo_iload_n (pc := 4) 1 rfl dX10_degree_4 rfl ?_
  refine jo_isub (pc := 5) dX10_degree_5 ?_
  refine jo_imul (pc := 6) dX10_degree_6 ?_
  refine jo_ishr (pc := 7) dX10_degree_7 ?_
  refine jo_iconst (pc := 8) dX10_degree_8 (ic_i_3) ?_
  refine jo_iand (pc := 9) dX10_degree_9 ?_
  exact jo_ireturn (pc := 10) rfl rfl dX10_degree_10
theorem c_X10_degree {w : Wd} (hw : WOK w) {σ : Mem} {x0 : Int32} {x1 : Int32} : ∀ r, f_X10_degree σ x0 x1 = some r → MC w mu_X10_degree (vI r) [.int x0, .int x1] σ σ := mc_ofP ok_X10_degree rfl (Nat.le_of_ble_eq_true rfl) (t_X10_degree hw)
abbrev mu_X9_placesOf : MD := (yX9_placesOf, cX9_placesOf, 4, some .int, 1)
theorem ok_X9_placesOf : MOK mu_X9_placesOf 1 := ⟨gw_627, gw_163, (by decide +kernel : plainFor yX9_placesOf = true), ⟨(by decide +kernel : yX9_placesOf.cls ≠ "java/lang/invoke/MethodHandle"), (by decide +kernel : yX9_placesOf.cls ≠ "java/lang/invoke/VarHandle"), (by decide +kernel : (parseMethodDescriptor yX9_placesOf.desc).map (fun d => d.parameters.length) = some 1)⟩, Nat.le_of_ble_eq_true rfl⟩
noncomputable def j_X9_placesOf_31 (i2 : Int32) (i4 : Int32) : Option ((Int32 × Int32) ⊕ Int32) :=
  some (Sum.inl (i4, i2 + 1))
noncomputable def l_X9_placesOf_4 (σ : Mem) (x0 : Int32) (i1 : Int32) (i2 : Int32) : Option ((Int32 × Int32) ⊕ Int32) :=
  if 12 ≤ i2 then (some (Sum.inr i1)) else ((f_X10_degree σ x0 i2).bind (fun (v3 : Int32) => (if v3 ≤ 0 then (some i1) else (bd ((i1 <<< (6 &&& 31)) ||| ((4 * i2) + v3)) (fun (v5 : Int32) => some v5)) : Option Int32).bind (fun (z4 : Int32) => j_X9_placesOf_31 i2 z4)))
noncomputable def f_X9_placesOf (σ : Mem) (x0 : Int32) : Option Int32 :=
  loopO (fun (z2 : (Int32 × Int32)) => l_X9_placesOf_4 σ x0 z2.1 z2.2) (0, 0)
theorem t_X9_placesOf {w : Wd} (hw : WOK w) {σ : Mem} {x0 : Int32} : JO w mu_X9_placesOf vI σ [(0, .int x0)] [] 0 (f_X9_placesOf σ x0) (fun z => some (z, σ)) := by
  unfold f_X9_placesOf
  refine jo_iconst (pc := 0) dX9_placesOf_0 (ic_i_0) ?_
  refine jo_istore_n (pc := 1) (lv' := [(1, .int 0), (0, .int x0)]) dX9_placesOf_1 rfl (ltb rfl) rfl ?_
  refine jo_iconst (pc := 2) dX9_placesOf_2 (ic_i_0) ?_
  refine jo_istore_n (pc := 3) (lv' := [(2, .int 0), (1, .int 0), (0, .int x0)]) dX9_placesOf_3 rfl (ltb rfl) rfl ?_
  refine jo_lv (lv' := [(0, .int x0), (1, .int 0), (2, .int 0)]) [2, 1, 0] rfl ?_
  refine jo_loop (X := Int32) (fun (z2 : (Int32 × Int32)) => σ) (fun (z2 : (Int32 × Int32)) => [(0, .int x0), (1, .int z2.1), (2, .int z2.2)]) (body := (fun (z2 : (Int32 × Int32)) => l_X9_placesOf_4 σ x0 z2.1 z2.2)) (fun F4_2 hF4_2 s => ?_) (0, 0)
  obtain ⟨i1, i2⟩ := s
  show JO w mu_X9_placesOf vI σ [(0, .int x0), (1, .int i1), (2, .int i2)] [] 4 (l_X9_placesOf_4 σ x0 i1 i2) _
  unfold l_X9_placesOf_4
  refine jo_iload_n (pc := 4) 2 rfl dX9_placesOf_4 rfl ?_
  refine jo_bipush (pc := 5) dX9_placesOf_5 (ic_b_12) ?_
  refine jo_icmp_ge (pc := 7) dX9_placesOf_7 (tgt := 37) rfl ?_ ?_
  · refine jo_iload_n (pc := 37) 1 rfl dX9_placesOf_37 rfl ?_
    exact jo_ireturn (pc := 38) rfl rfl dX9_placesOf_38
  · refine jo_iload_n (pc := 10) 0 rfl dX9_placesOf_10 rfl ?_
    refine jo_iload_n (pc := 11) 2 rfl dX9_placesOf_11 rfl ?_
    refine jo_cSN_I_p (pc := 12) (μ' := mu_X10_degree) (fx := f_X10_degree σ x0 i2) (As := [.int x0, .int i2]) (c_X10_degree hw) (ok_X10_degree) (ltb rfl) (host := "HallRegisters") (by decide +kernel) gw_629 rfl rfl (Nat.le_of_ble_eq_true rfl) dX9_placesOf_12 (fun v3 => ?_)
    refine jo_istore_n (pc := 15) (lv' := [(3, .int v3), (0, .int x0), (1, .int i1), (2, .int i2)]) dX9_placesOf_15 rfl (ltb rfl) rfl ?_
    refine jo_iload_n (pc := 16) 0 rfl dX9_placesOf_16 rfl ?_
    refine jo_join1 (S := Int32) (fun (z4 : Int32) => σ) (fun (z4 : Int32) => [(0, .int x0), (2, .int i2), (1, .int z4)]) (fun (z4 : Int32) => []) 31 ?_ (fun h31_4 => ?_)
    · intro i4
      show JO w mu_X9_placesOf vI σ [(0, .int x0), (2, .int i2), (1, .int i4)] [] 31 (j_X9_placesOf_31 i2 i4) _
      unfold j_X9_placesOf_31
      refine jo_iinc (pc := 31) (lv' := [(2, .int (i2 + 1)), (0, .int x0), (1, .int i4)]) 1 rfl dX9_placesOf_31 (congrArg (fun z => i2 + z) (ic_i_1)) (ltb rfl) rfl ?_
      refine jo_goto (pc := 34) dX9_placesOf_34 (tgt := 4) rfl ?_
      refine jo_lv (lv' := [(0, .int x0), (1, .int i4), (2, .int (i2 + 1))]) [1, 2, 0] rfl ?_
      exact jo_leaf (by rfl) (hF4_2 (i4, i2 + 1))
    · refine jo_if_le (pc := 17) dX9_placesOf_17 (tgt := 31) rfl ?_ ?_
      · refine jo_lv (lv' := [(0, .int x0), (2, .int i2), (1, .int i1)]) [1, 3, 2] rfl ?_
        exact jo_leaf (by rfl) (h31_4 i1)
      · refine jo_iload_n (pc := 20) 2 rfl dX9_placesOf_20 rfl ?_
        refine jo_bipush (pc := 21) dX9_placesOf_21 (ic_b_6) ?_
        refine jo_ishl (pc := 23) dX9_placesOf_23 ?_
        refine jo_iconst (pc := 24) dX9_placesOf_24 (ic_i_4) ?_
        refine jo_iload_n (pc := 25) 3 rfl dX9_placesOf_25 rfl ?_
        refine jo_imul (pc := 26) dX9_placesOf_26 ?_
        refine jo_iload_n (pc := 27) 0 rfl dX9_placesOf_27 rfl ?_
        refine jo_iadd (pc := 28) dX9_placesOf_28 ?_
        refine jo_ior (pc := 29) dX9_placesOf_29 ?_
        refine jo_bd ?_
        refine jo_istore_n (pc := 30) (lv' := [(1, .int ((i1 <<< (6 &&& 31)) ||| ((4 * i2) + v3))), (3, .int v3), (0, .int x0), (2, .int i2)]) dX9_placesOf_30 rfl (ltb rfl) rfl ?_
        generalize ((i1 <<< (6 &&& 31)) ||| ((4 * i2) + v3)) = v5
        refine jo_lv (lv' := [(0, .int x0), (2, .int i2), (1, .int v5)]) [2, 3, 0] rfl ?_
        exact jo_leaf (by rfl) (h31_4 v5)
theorem c_X9_placesOf {w : Wd} (hw : WOK w) {σ : Mem} {x0 : Int32} : ∀ r, f_X9_placesOf σ x0 = some r → MC w mu_X9_placesOf (vI r) [.int x0] σ σ := mc_ofP ok_X9_placesOf rfl (Nat.le_of_ble_eq_true rfl) (t_X9_placesOf hw)
abbrev mu_X9_append : MD := (yX9_append, cX9_append, 4, none, 2)
theorem ok_X9_append : MOK mu_X9_append 2 := ⟨gw_624, gw_163, (by decide +kernel : plainFor yX9_append = true), ⟨(by decide +kernel : yX9_append.cls ≠ "java/lang/invoke/MethodHandle"), (by decide +kernel : yX9_append.cls ≠ "java/lang/invoke/VarHandle"), (by decide +kernel : (parseMethodDescriptor yX9_append.desc).map (fun d => d.parameters.length) = some 2)⟩, Nat.le_of_ble_eq_true rfl⟩
noncomputable def f_X9_append (σ : Mem) (a : Nat) (x0 : Int32) (x1 : Int64) : Option Mem :=
  gF σ a 0 (fun (v1 : Int32) => if 455 ≤ v1 then (some σ) else (gF σ a 0 (fun (v2 : Int32) => pI σ (rf a 1) v2 x0 (fun (σ3 : Mem) => gF σ3 a 0 (fun (v4 : Int32) => pL σ3 (rf a 2) v4 x1 (fun (σ5 : Mem) => gF σ5 a 0 (fun (v6 : Int32) => (f_X9_placesOf σ5 x0).bind (fun (v7 : Int32) => pI σ5 (rf a 3) v6 v7 (fun (σ8 : Mem) => gF σ8 a 0 (fun (v9 : Int32) => pF σ8 a 0 (v9 + 1) (fun (σ10 : Mem) => some σ10)))))))))))
theorem t_X9_append {w : Wd} (hw : WOK w) {σ : Mem} {a : Nat} {x0 : Int32} {x1 : Int64} (ha : isk w a 9) : JO w mu_X9_append vV σ [(0, .ref (adr w a)), (1, .int x0), (2, .long x1)] [] 0 (f_X9_append σ a x0 x1) (fun z => some ((), z)) := by
  unfold f_X9_append
  refine jo_aload_n (pc := 0) 0 rfl dX9_append_0 rfl ?_
  refine jo_getf (pc := 1) ok_9_0 (ha) gw_279 dX9_append_1 (fun v1 => ?_)
  refine jo_sipush (pc := 4) dX9_append_4 (ic_s_455) ?_
  refine jo_icmp_ge (pc := 7) dX9_append_7 (tgt := 53) rfl ?_ ?_
  · exact jo_return (pc := 53) rfl rfl dX9_append_53
  · refine jo_aload_n (pc := 10) 0 rfl dX9_append_10 rfl ?_
    refine jo_getr (pc := 11) ok_9_1 (ha) gw_283 dX9_append_11 ?_
    refine jo_aload_n (pc := 14) 0 rfl dX9_append_14 rfl ?_
    refine jo_getf (pc := 15) ok_9_0 (ha) gw_279 dX9_append_15 (fun v2 => ?_)
    refine jo_iload_n (pc := 18) 1 rfl dX9_append_18 rfl ?_
    refine jo_iast (pc := 19) (wf_9_1 hw (ha)) dX9_append_19 (fun σ3 => ?_)
    refine jo_aload_n (pc := 20) 0 rfl dX9_append_20 rfl ?_
    refine jo_getr (pc := 21) ok_9_2 (ha) gw_286 dX9_append_21 ?_
    refine jo_aload_n (pc := 24) 0 rfl dX9_append_24 rfl ?_
    refine jo_getf (pc := 25) ok_9_0 (ha) gw_279 dX9_append_25 (fun v4 => ?_)
    refine jo_lload_n (pc := 28) 2 rfl dX9_append_28 rfl ?_
    refine jo_last (pc := 29) (wf_9_2 hw (ha)) dX9_append_29 (fun σ5 => ?_)
    refine jo_aload_n (pc := 30) 0 rfl dX9_append_30 rfl ?_
    refine jo_getr (pc := 31) ok_9_3 (ha) gw_289 dX9_append_31 ?_
    refine jo_aload_n (pc := 34) 0 rfl dX9_append_34 rfl ?_
    refine jo_getf (pc := 35) ok_9_0 (ha) gw_279 dX9_append_35 (fun v6 => ?_)
    refine jo_iload_n (pc := 38) 1 rfl dX9_append_38 rfl ?_
    refine jo_cS_I_p (pc := 39) (μ' := mu_X9_placesOf) (fx := f_X9_placesOf σ5 x0) (As := [.int x0]) (c_X9_placesOf hw) (ok_X9_placesOf) (ltb rfl) (all2 gw_625 gw_626) rfl rfl (Nat.le_of_ble_eq_true rfl) dX9_append_39 (fun v7 => ?_)
    refine jo_iast (pc := 42) (wf_9_3 hw (ha)) dX9_append_42 (fun σ8 => ?_)
    refine jo_aload_n (pc := 43) 0 rfl dX9_append_43 rfl ?_
    refine jo_dup (pc := 44) dX9_append_44 rfl ?_
    refine jo_getf (pc := 45) ok_9_0 (ha) gw_279 dX9_append_45 (fun v9 => ?_)
    refine jo_iconst (pc := 48) dX9_append_48 (ic_i_1) ?_
    refine jo_iadd (pc := 49) dX9_append_49 ?_
    refine jo_putf (pc := 50) ok_9_0 okp_9_0 (ha) gw_279 dX9_append_50 (fun σ10 => ?_)
    exact jo_return (pc := 53) rfl rfl dX9_append_53
theorem c_X9_append {w : Wd} (hw : WOK w) {σ : Mem} {a : Nat} {x0 : Int32} {x1 : Int64} (ha : isk w a 9) : ∀ σ', f_X9_append σ a x0 x1 = some σ' → MC w mu_X9_append none [.ref (adr w a), .int x0, .long x1] σ σ' := mc_ofV ok_X9_append rfl (Nat.le_of_ble_eq_true rfl) (t_X9_append hw ha)
abbrev mu_X4_findTermsAtPoint : MD := (yX4_findTermsAtPoint, cX4_findTermsAtPoint, 5, none, 4)
theorem ok_X4_findTermsAtPoint : MOK mu_X4_findTermsAtPoint 0 := ⟨gw_612, gw_162, (by decide +kernel : plainFor yX4_findTermsAtPoint = true), ⟨(by decide +kernel : yX4_findTermsAtPoint.cls ≠ "java/lang/invoke/MethodHandle"), (by decide +kernel : yX4_findTermsAtPoint.cls ≠ "java/lang/invoke/VarHandle"), (by decide +kernel : (parseMethodDescriptor yX4_findTermsAtPoint.desc).map (fun d => d.parameters.length) = some 0)⟩, Nat.le_of_ble_eq_true rfl⟩
noncomputable def j_X4_findTermsAtPoint_169 (i7 : Int32) (σ11 : Mem) : Option ((Mem × Int32) ⊕ Mem) :=
  some (Sum.inl (σ11, i7 + 1))
noncomputable def l_X4_findTermsAtPoint_97 (i3 : Int32) (σ6 : Mem) (i7 : Int32) : Option ((Mem × Int32) ⊕ Mem) :=
  gF σ6 41 0 (fun (v8 : Int32) => if v8 ≤ i7 then (some (Sum.inr σ6)) else (gI σ6 42 i7 (fun (v9 : Int32) => gF σ6 40 6 (fun (v10 : Int32) => (if v10 ≤ v9 then (gI σ6 39 i7 (fun (v12 : Int32) => gR 44 i7 (fun (p13 : Nat) => (f_X9_value σ6 p13 46).bind (fun (v14 : Int64) => bd ((Int32.toInt64 v12) - v14) (fun (v15 : Int64) => if v15 = 0 then (some σ6) else (gR 44 i7 (fun (p16 : Nat) => (f_X9_append σ6 p16 i3 v15).bind (fun (σ17 : Mem) => some σ17)))))))) else (some σ6) : Option Mem).bind (fun (z11 : Mem) => j_X4_findTermsAtPoint_169 i7 z11)))))
noncomputable def j_X4_findTermsAtPoint_80 (σ2 : Mem) (i3 : Int32) : Option Mem :=
  bq (f_X2_run σ2 41 1000) (fun (v4 : Int32) (σ5 : Mem) => loopO (fun (z7 : (Mem × Int32)) => l_X4_findTermsAtPoint_97 i3 z7.1 z7.2) (σ5, 0))
noncomputable def j_X4_findTermsAtPoint_74 (i20 : Int32) (v24 : Int32) (σ25 : Mem) : Option ((Mem × Int32 × Int32) ⊕ (Mem × Int32)) :=
  some (Sum.inl (σ25, v24, i20 + 1))
noncomputable def l_X4_findTermsAtPoint_47 (i20 : Int32) (σ26 : Mem) (i27 : Int32) : Option ((Mem × Int32) ⊕ Mem) :=
  gI σ26 45 i20 (fun (v28 : Int32) => if v28 ≤ i27 then (some (Sum.inr σ26)) else (nzI 6 ((f_X2_add σ26 (i20 - i20 / 6 * 6)).bind (fun (σ29 : Mem) => some (Sum.inl (σ29, i27 + 1))))))
noncomputable def l_X4_findTermsAtPoint_11 (σ18 : Mem) (i19 : Int32) (i20 : Int32) : Option ((Mem × Int32 × Int32) ⊕ (Mem × Int32)) :=
  if 12 ≤ i20 then (some (Sum.inr (σ18, i19))) else (gI σ18 45 i20 (fun (v21 : Int32) => (f_X4_put σ18 46 i20 (Int32.toInt64 v21)).bind (fun (σ22 : Mem) => gI σ22 45 i20 (fun (v23 : Int32) => bd ((i19 <<< (2 &&& 31)) ||| (v23 &&& 3)) (fun (v24 : Int32) => (loopO (fun (z27 : (Mem × Int32)) => l_X4_findTermsAtPoint_47 i20 z27.1 z27.2) (σ22, 0) : Option Mem).bind (fun (z25 : Mem) => j_X4_findTermsAtPoint_74 i20 v24 z25))))))
noncomputable def f_X4_findTermsAtPoint (σ : Mem) : Option Mem :=
  (f_X2_begin σ).bind (fun (σ1 : Mem) => (loopO (fun (z20 : (Mem × Int32 × Int32)) => l_X4_findTermsAtPoint_11 z20.1 z20.2.1 z20.2.2) (σ1, 0, 0) : Option (Mem × Int32)).bind (fun (z3 : (Mem × Int32)) => j_X4_findTermsAtPoint_80 z3.1 z3.2))
theorem t_X4_findTermsAtPoint {w : Wd} (hw : WOK w) {σ : Mem} : JO w mu_X4_findTermsAtPoint vV σ [(0, .ref (adr w 40))] [] 0 (f_X4_findTermsAtPoint σ) (fun z => some ((), z)) := by
  unfold f_X4_findTermsAtPoint
  refine jo_aload_n (pc := 0) 0 rfl dX4_findTermsAtPoint_0 rfl ?_
  refine jo_getrE (pc := 1) ok_4_1 (ik_40 hw) rf_40_1 gw_302 dX4_findTermsAtPoint_1 ?_
  refine jo_cV_V_i (pc := 4) (μ' := mu_X2_begin) (fx := f_X2_begin σ) (As := []) (c_X2_begin hw) (ok_X2_begin) (ltb rfl) (all3 gw_556 gw_557 gw_558) (ik_35 hw) (by decide) (q := (RX2, TX2, 7)) rfl rfl rfl rfl (Nat.le_of_ble_eq_true rfl) dX4_findTermsAtPoint_4 (fun σ1 => ?_)
  refine jo_iconst (pc := 7) dX4_findTermsAtPoint_7 (ic_i_0) ?_
  refine jo_istore_n (pc := 8) (lv' := [(1, .int 0), (0, .ref (adr w 40))]) dX4_findTermsAtPoint_8 rfl (ltb rfl) rfl ?_
  refine jo_iconst (pc := 9) dX4_findTermsAtPoint_9 (ic_i_0) ?_
  refine jo_istore_n (pc := 10) (lv' := [(2, .int 0), (1, .int 0), (0, .ref (adr w 40))]) dX4_findTermsAtPoint_10 rfl (ltb rfl) rfl ?_
  refine jo_join1 (S := (Mem × Int32)) (fun (z3 : (Mem × Int32)) => z3.1) (fun (z3 : (Mem × Int32)) => [(0, .ref (adr w 40)), (1, .int z3.2)]) (fun (z3 : (Mem × Int32)) => []) 80 ?_ (fun h80_3 => ?_)
  · intro s
    obtain ⟨σ2, i3⟩ := s
    show JO w mu_X4_findTermsAtPoint vV σ2 [(0, .ref (adr w 40)), (1, .int i3)] [] 80 (j_X4_findTermsAtPoint_80 σ2 i3) _
    unfold j_X4_findTermsAtPoint_80
    refine jo_aload_n (pc := 80) 0 rfl dX4_findTermsAtPoint_80 rfl ?_
    refine jo_getrE (pc := 81) ok_4_1 (ik_40 hw) rf_40_1 gw_302 dX4_findTermsAtPoint_81 ?_
    refine jo_aload_n (pc := 84) 0 rfl dX4_findTermsAtPoint_84 rfl ?_
    refine jo_getrE (pc := 85) ok_4_0 (ik_40 hw) rf_40_0 gw_299 dX4_findTermsAtPoint_85 ?_
    refine jo_sipush (pc := 88) dX4_findTermsAtPoint_88 (ic_s_1000) ?_
    refine jo_cV_I_i (pc := 91) (μ' := mu_X2_run) (fx := f_X2_run σ2 41 1000) (As := [.ref (adr w 41), .int 1000]) (c_X2_run hw (ik_41 hw)) (ok_X2_run) (ltb rfl) (all3 gw_573 gw_574 gw_575) (ik_35 hw) (by decide) (q := (RX2, TX2, 7)) rfl rfl rfl rfl (Nat.le_of_ble_eq_true rfl) dX4_findTermsAtPoint_91 (fun v4 σ5 => ?_)
    refine jo_pop (pc := 94) dX4_findTermsAtPoint_94 rfl ?_
    refine jo_iconst (pc := 95) dX4_findTermsAtPoint_95 (ic_i_0) ?_
    refine jo_istore_n (pc := 96) (lv' := [(2, .int 0), (0, .ref (adr w 40)), (1, .int i3)]) dX4_findTermsAtPoint_96 rfl (ltb rfl) rfl ?_
    refine jo_lv (lv' := [(0, .ref (adr w 40)), (1, .int i3), (2, .int 0)]) [1, 2, 0] rfl ?_
    refine jo_loop (X := Mem) (fun (z7 : (Mem × Int32)) => z7.1) (fun (z7 : (Mem × Int32)) => [(0, .ref (adr w 40)), (1, .int i3), (2, .int z7.2)]) (body := (fun (z7 : (Mem × Int32)) => l_X4_findTermsAtPoint_97 i3 z7.1 z7.2)) (fun F97_7 hF97_7 s => ?_) (σ5, 0)
    obtain ⟨σ6, i7⟩ := s
    show JO w mu_X4_findTermsAtPoint vV σ6 [(0, .ref (adr w 40)), (1, .int i3), (2, .int i7)] [] 97 (l_X4_findTermsAtPoint_97 i3 σ6 i7) _
    unfold l_X4_findTermsAtPoint_97
    refine jo_iload_n (pc := 97) 2 rfl dX4_findTermsAtPoint_97 rfl ?_
    refine jo_aload_n (pc := 98) 0 rfl dX4_findTermsAtPoint_98 rfl ?_
    refine jo_getrE (pc := 99) ok_4_0 (ik_40 hw) rf_40_0 gw_299 dX4_findTermsAtPoint_99 ?_
    refine jo_getf (pc := 102) ok_6_0 (ik_41 hw) gw_196 dX4_findTermsAtPoint_102 (fun v8 => ?_)
    refine jo_icmp_ge (pc := 105) dX4_findTermsAtPoint_105 (tgt := 175) rfl ?_ ?_
    · exact jo_return (pc := 175) rfl rfl dX4_findTermsAtPoint_175
    · refine jo_aload_n (pc := 108) 0 rfl dX4_findTermsAtPoint_108 rfl ?_
      refine jo_getrE (pc := 109) ok_4_0 (ik_40 hw) rf_40_0 gw_299 dX4_findTermsAtPoint_109 ?_
      refine jo_getrE (pc := 112) ok_6_1 (ik_41 hw) rf_41_1 gw_205 dX4_findTermsAtPoint_112 ?_
      refine jo_iload_n (pc := 115) 2 rfl dX4_findTermsAtPoint_115 rfl ?_
      refine jo_iald (pc := 116) (ik_42 hw) dX4_findTermsAtPoint_116 (fun v9 => ?_)
      refine jo_aload_n (pc := 117) 0 rfl dX4_findTermsAtPoint_117 rfl ?_
      refine jo_getf (pc := 118) ok_4_6 (ik_40 hw) gw_312 dX4_findTermsAtPoint_118 (fun v10 => ?_)
      refine jo_join1 (S := Mem) (fun (z11 : Mem) => z11) (fun (z11 : Mem) => [(0, .ref (adr w 40)), (1, .int i3), (2, .int i7)]) (fun (z11 : Mem) => []) 169 ?_ (fun h169_11 => ?_)
      · intro σ11
        show JO w mu_X4_findTermsAtPoint vV σ11 [(0, .ref (adr w 40)), (1, .int i3), (2, .int i7)] [] 169 (j_X4_findTermsAtPoint_169 i7 σ11) _
        unfold j_X4_findTermsAtPoint_169
        refine jo_iinc (pc := 169) (lv' := [(2, .int (i7 + 1)), (0, .ref (adr w 40)), (1, .int i3)]) 2 rfl dX4_findTermsAtPoint_169 (congrArg (fun z => i7 + z) (ic_i_1)) (ltb rfl) rfl ?_
        refine jo_goto (pc := 172) dX4_findTermsAtPoint_172 (tgt := 97) rfl ?_
        refine jo_lv (lv' := [(0, .ref (adr w 40)), (1, .int i3), (2, .int (i7 + 1))]) [1, 2, 0] rfl ?_
        exact jo_leaf (by rfl) (hF97_7 (σ11, i7 + 1))
      · refine jo_icmp_ge (pc := 121) dX4_findTermsAtPoint_121 (tgt := 127) rfl ?_ ?_
        · refine jo_aload_n (pc := 127) 0 rfl dX4_findTermsAtPoint_127 rfl ?_
          refine jo_getrE (pc := 128) ok_4_1 (ik_40 hw) rf_40_1 gw_302 dX4_findTermsAtPoint_128 ?_
          refine jo_getrE (pc := 131) ok_2_6 (ik_35 hw) rf_35_6 gw_247 dX4_findTermsAtPoint_131 ?_
          refine jo_iload_n (pc := 134) 2 rfl dX4_findTermsAtPoint_134 rfl ?_
          refine jo_iald (pc := 135) (ik_39 hw) dX4_findTermsAtPoint_135 (fun v12 => ?_)
          refine jo_i2l (pc := 136) dX4_findTermsAtPoint_136 ?_
          refine jo_aload_n (pc := 137) 0 rfl dX4_findTermsAtPoint_137 rfl ?_
          refine jo_getrE (pc := 138) ok_4_2 (ik_40 hw) rf_40_2 gw_303 dX4_findTermsAtPoint_138 ?_
          refine jo_iload_n (pc := 141) 2 rfl dX4_findTermsAtPoint_141 rfl ?_
          refine jo_aaldG (pc := 142) (z := 9) hw (ik_44 hw) (by decide) (t := 3) rfl rfl (by decide) dX4_findTermsAtPoint_142 (fun p13 hp13 => ?_)
          refine jo_aload_n (pc := 143) 0 rfl dX4_findTermsAtPoint_143 rfl ?_
          refine jo_getrE (pc := 144) ok_4_7 (ik_40 hw) rf_40_7 gw_313 dX4_findTermsAtPoint_144 ?_
          refine jo_cV_J_p (pc := 147) (μ' := mu_X9_value) (fx := f_X9_value σ6 p13 46) (As := [.ref (adr w 46)]) (c_X9_value hw (hp13) (ik_46 hw)) (ok_X9_value) (ltb rfl) (all3 gw_617 gw_618 gw_619) (hp13) (by decide) (q := (RX9, TX9, 4)) rfl rfl rfl rfl (Nat.le_of_ble_eq_true rfl) dX4_findTermsAtPoint_147 (fun v14 => ?_)
          refine jo_lsub (pc := 150) dX4_findTermsAtPoint_150 ?_
          refine jo_bd ?_
          refine jo_lstore_n (pc := 151) (lv' := [(3, .long ((Int32.toInt64 v12) - v14)), (0, .ref (adr w 40)), (1, .int i3), (2, .int i7)]) dX4_findTermsAtPoint_151 rfl (ltb rfl) rfl ?_
          generalize ((Int32.toInt64 v12) - v14) = v15
          refine jo_lload_n (pc := 152) 0 rfl dX4_findTermsAtPoint_152 rfl ?_
          refine jo_lconst (pc := 153) dX4_findTermsAtPoint_153 (ic_l_0) ?_
          refine jo_lcmp_eq (pc := 154) dX4_findTermsAtPoint_154 dX4_findTermsAtPoint_155 (tgt := 169) rfl ?_ ?_
          · refine jo_lv (lv' := [(0, .ref (adr w 40)), (1, .int i3), (2, .int i7)]) [1, 2, 3] rfl ?_
            exact jo_leaf (by rfl) (h169_11 σ6)
          · refine jo_aload_n (pc := 158) 1 rfl dX4_findTermsAtPoint_158 rfl ?_
            refine jo_getrE (pc := 159) ok_4_2 (ik_40 hw) rf_40_2 gw_303 dX4_findTermsAtPoint_159 ?_
            refine jo_iload_n (pc := 162) 3 rfl dX4_findTermsAtPoint_162 rfl ?_
            refine jo_aaldG (pc := 163) (z := 9) hw (ik_44 hw) (by decide) (t := 3) rfl rfl (by decide) dX4_findTermsAtPoint_163 (fun p16 hp16 => ?_)
            refine jo_iload_n (pc := 164) 2 rfl dX4_findTermsAtPoint_164 rfl ?_
            refine jo_lload_n (pc := 165) 0 rfl dX4_findTermsAtPoint_165 rfl ?_
            refine jo_cV_V_i (pc := 166) (μ' := mu_X9_append) (fx := f_X9_append σ6 p16 i3 v15) (As := [.int i3, .long v15]) (c_X9_append hw (hp16)) (ok_X9_append) (ltb rfl) (all3 gw_621 gw_622 gw_623) (hp16) (by decide) (q := (RX9, TX9, 4)) rfl rfl rfl rfl (Nat.le_of_ble_eq_true rfl) dX4_findTermsAtPoint_166 (fun σ17 => ?_)
            refine jo_lv (lv' := [(0, .ref (adr w 40)), (1, .int i3), (2, .int i7)]) [1, 2, 3] rfl ?_
            exact jo_leaf (by rfl) (h169_11 σ17)
        · refine jo_goto (pc := 124) dX4_findTermsAtPoint_124 (tgt := 169) rfl ?_
          exact jo_leaf (by rfl) (h169_11 σ6)
  · refine jo_lv (lv' := [(0, .ref (adr w 40)), (1, .int 0), (2, .int 0)]) [2, 1, 0] rfl ?_
    refine jo_loop (X := (Mem × Int32)) (fun (z20 : (Mem × Int32 × Int32)) => z20.1) (fun (z20 : (Mem × Int32 × Int32)) => [(0, .ref (adr w 40)), (1, .int z20.2.1), (2, .int z20.2.2)]) (body := (fun (z20 : (Mem × Int32 × Int32)) => l_X4_findTermsAtPoint_11 z20.1 z20.2.1 z20.2.2)) (fun F11_20 hF11_20 s => ?_) (σ1, 0, 0)
    obtain ⟨σ18, i19, i20⟩ := s
    show JO w mu_X4_findTermsAtPoint vV σ18 [(0, .ref (adr w 40)), (1, .int i19), (2, .int i20)] [] 11 (l_X4_findTermsAtPoint_11 σ18 i19 i20) _
    unfold l_X4_findTermsAtPoint_11
    refine jo_iload_n (pc := 11) 2 rfl dX4_findTermsAtPoint_11 rfl ?_
    refine jo_bipush (pc := 12) dX4_findTermsAtPoint_12 (ic_b_12) ?_
    refine jo_icmp_ge (pc := 14) dX4_findTermsAtPoint_14 (tgt := 80) rfl ?_ ?_
    · refine jo_lv (lv' := [(0, .ref (adr w 40)), (1, .int i19)]) [0, 1] rfl ?_
      exact jo_leaf (by rfl) (h80_3 (σ18, i19))
    · refine jo_aload_n (pc := 17) 0 rfl dX4_findTermsAtPoint_17 rfl ?_
      refine jo_getrE (pc := 18) ok_4_7 (ik_40 hw) rf_40_7 gw_313 dX4_findTermsAtPoint_18 ?_
      refine jo_iload_n (pc := 21) 2 rfl dX4_findTermsAtPoint_21 rfl ?_
      refine jo_aload_n (pc := 22) 0 rfl dX4_findTermsAtPoint_22 rfl ?_
      refine jo_getrE (pc := 23) ok_4_5 (ik_40 hw) rf_40_5 gw_311 dX4_findTermsAtPoint_23 ?_
      refine jo_iload_n (pc := 26) 2 rfl dX4_findTermsAtPoint_26 rfl ?_
      refine jo_iald (pc := 27) (ik_45 hw) dX4_findTermsAtPoint_27 (fun v21 => ?_)
      refine jo_i2l (pc := 28) dX4_findTermsAtPoint_28 ?_
      refine jo_cS_V_i (pc := 29) (μ' := mu_X4_put) (fx := f_X4_put σ18 46 i20 (Int32.toInt64 v21)) (As := [.ref (adr w 46), .int i20, .long (Int32.toInt64 v21)]) (c_X4_put hw (ik_46 hw)) (ok_X4_put) (ltb rfl) (all2 gw_613 gw_614) rfl rfl (Nat.le_of_ble_eq_true rfl) dX4_findTermsAtPoint_29 (fun σ22 => ?_)
      refine jo_iload_n (pc := 32) 1 rfl dX4_findTermsAtPoint_32 rfl ?_
      refine jo_iconst (pc := 33) dX4_findTermsAtPoint_33 (ic_i_2) ?_
      refine jo_ishl (pc := 34) dX4_findTermsAtPoint_34 ?_
      refine jo_aload_n (pc := 35) 0 rfl dX4_findTermsAtPoint_35 rfl ?_
      refine jo_getrE (pc := 36) ok_4_5 (ik_40 hw) rf_40_5 gw_311 dX4_findTermsAtPoint_36 ?_
      refine jo_iload_n (pc := 39) 2 rfl dX4_findTermsAtPoint_39 rfl ?_
      refine jo_iald (pc := 40) (ik_45 hw) dX4_findTermsAtPoint_40 (fun v23 => ?_)
      refine jo_iconst (pc := 41) dX4_findTermsAtPoint_41 (ic_i_3) ?_
      refine jo_iand (pc := 42) dX4_findTermsAtPoint_42 ?_
      refine jo_ior (pc := 43) dX4_findTermsAtPoint_43 ?_
      refine jo_bd ?_
      refine jo_istore_n (pc := 44) (lv' := [(1, .int ((i19 <<< (2 &&& 31)) ||| (v23 &&& 3))), (0, .ref (adr w 40)), (2, .int i20)]) dX4_findTermsAtPoint_44 rfl (ltb rfl) rfl ?_
      generalize ((i19 <<< (2 &&& 31)) ||| (v23 &&& 3)) = v24
      refine jo_iconst (pc := 45) dX4_findTermsAtPoint_45 (ic_i_0) ?_
      refine jo_istore_n (pc := 46) (lv' := [(3, .int 0), (1, .int v24), (0, .ref (adr w 40)), (2, .int i20)]) dX4_findTermsAtPoint_46 rfl (ltb rfl) rfl ?_
      refine jo_join1 (S := Mem) (fun (z25 : Mem) => z25) (fun (z25 : Mem) => [(1, .int v24), (0, .ref (adr w 40)), (2, .int i20)]) (fun (z25 : Mem) => []) 74 ?_ (fun h74_25 => ?_)
      · intro σ25
        show JO w mu_X4_findTermsAtPoint vV σ25 [(1, .int v24), (0, .ref (adr w 40)), (2, .int i20)] [] 74 (j_X4_findTermsAtPoint_74 i20 v24 σ25) _
        unfold j_X4_findTermsAtPoint_74
        refine jo_iinc (pc := 74) (lv' := [(2, .int (i20 + 1)), (1, .int v24), (0, .ref (adr w 40))]) 2 rfl dX4_findTermsAtPoint_74 (congrArg (fun z => i20 + z) (ic_i_1)) (ltb rfl) rfl ?_
        refine jo_goto (pc := 77) dX4_findTermsAtPoint_77 (tgt := 11) rfl ?_
        refine jo_lv (lv' := [(0, .ref (adr w 40)), (1, .int v24), (2, .int (i20 + 1))]) [2, 1, 0] rfl ?_
        exact jo_leaf (by rfl) (hF11_20 (σ25, v24, i20 + 1))
      · refine jo_lv (lv' := [(1, .int v24), (0, .ref (adr w 40)), (2, .int i20), (3, .int 0)]) [1, 2, 3, 0] rfl ?_
        refine jo_loop (X := Mem) (fun (z27 : (Mem × Int32)) => z27.1) (fun (z27 : (Mem × Int32)) => [(1, .int v24), (0, .ref (adr w 40)), (2, .int i20), (3, .int z27.2)]) (body := (fun (z27 : (Mem × Int32)) => l_X4_findTermsAtPoint_47 i20 z27.1 z27.2)) (fun F47_27 hF47_27 s => ?_) (σ22, 0)
        obtain ⟨σ26, i27⟩ := s
        show JO w mu_X4_findTermsAtPoint vV σ26 [(1, .int v24), (0, .ref (adr w 40)), (2, .int i20), (3, .int i27)] [] 47 (l_X4_findTermsAtPoint_47 i20 σ26 i27) _
        unfold l_X4_findTermsAtPoint_47
        refine jo_iload_n (pc := 47) 3 rfl dX4_findTermsAtPoint_47 rfl ?_
        refine jo_aload_n (pc := 48) 1 rfl dX4_findTermsAtPoint_48 rfl ?_
        refine jo_getrE (pc := 49) ok_4_5 (ik_40 hw) rf_40_5 gw_311 dX4_findTermsAtPoint_49 ?_
        refine jo_iload_n (pc := 52) 2 rfl dX4_findTermsAtPoint_52 rfl ?_
        refine jo_iald (pc := 53) (ik_45 hw) dX4_findTermsAtPoint_53 (fun v28 => ?_)
        refine jo_icmp_ge (pc := 54) dX4_findTermsAtPoint_54 (tgt := 74) rfl ?_ ?_
        · refine jo_lv (lv' := [(1, .int v24), (0, .ref (adr w 40)), (2, .int i20)]) [0, 1, 2] rfl ?_
          exact jo_leaf (by rfl) (h74_25 σ26)
        · refine jo_aload_n (pc := 57) 1 rfl dX4_findTermsAtPoint_57 rfl ?_
          refine jo_getrE (pc := 58) ok_4_1 (ik_40 hw) rf_40_1 gw_302 dX4_findTermsAtPoint_58 ?_
          refine jo_iload_n (pc := 61) 2 rfl dX4_findTermsAtPoint_61 rfl ?_
          refine jo_bipush (pc := 62) dX4_findTermsAtPoint_62 (ic_b_6) ?_
          refine jo_irem (pc := 64) dX4_findTermsAtPoint_64 ?_
          refine jo_cV_V_i (pc := 65) (μ' := mu_X2_add) (fx := f_X2_add σ26 (i20 - i20 / 6 * 6)) (As := [.int (i20 - i20 / 6 * 6)]) (c_X2_add hw) (ok_X2_add) (ltb rfl) (all3 gw_560 gw_561 gw_562) (ik_35 hw) (by decide) (q := (RX2, TX2, 7)) rfl rfl rfl rfl (Nat.le_of_ble_eq_true rfl) dX4_findTermsAtPoint_65 (fun σ29 => ?_)
          refine jo_iinc (pc := 68) (lv' := [(3, .int (i27 + 1)), (1, .int v24), (0, .ref (adr w 40)), (2, .int i20)]) 3 rfl dX4_findTermsAtPoint_68 (congrArg (fun z => i27 + z) (ic_i_1)) (ltb rfl) rfl ?_
          refine jo_goto (pc := 71) dX4_findTermsAtPoint_71 (tgt := 47) rfl ?_
          refine jo_lv (lv' := [(1, .int v24), (0, .ref (adr w 40)), (2, .int i20), (3, .int (i27 + 1))]) [1, 2, 3, 0] rfl ?_
          exact jo_leaf (by rfl) (hF47_27 (σ29, i27 + 1))
theorem c_X4_findTermsAtPoint {w : Wd} (hw : WOK w) {σ : Mem} : ∀ σ', f_X4_findTermsAtPoint σ = some σ' → MC w mu_X4_findTermsAtPoint none [.ref (adr w 40)] σ σ' := mc_ofV ok_X4_findTermsAtPoint rfl (Nat.le_of_ble_eq_true rfl) (t_X4_findTermsAtPoint hw)
end
section
abbrev mu_X4_findTerms : MD := (yX4_findTerms, cX4_findTerms, 2, none, 5)
theorem ok_X4_findTerms : MOK mu_X4_findTerms 0 := ⟨gw_599, gw_162, (by decide +kernel : plainFor yX4_findTerms = true), ⟨(by decide +kernel : yX4_findTerms.cls ≠ "java/lang/invoke/MethodHandle"), (by decide +kernel : yX4_findTerms.cls ≠ "java/lang/invoke/VarHandle"), (by decide +kernel : (parseMethodDescriptor yX4_findTerms.desc).map (fun d => d.parameters.length) = some 0)⟩, Nat.le_of_ble_eq_true rfl⟩
noncomputable def l_X4_findTerms_15 (σ3 : Mem) (i4 : Int32) : Option ((Mem × Int32) ⊕ Mem) :=
  if 455 ≤ i4 then (some (Sum.inr σ3)) else (bq (f_X4_goToNextPoint σ3) (fun (b5 : Bool) (σ6 : Mem) => if b5 then (f_X4_findTermsAtPoint σ6).bind (fun (σ7 : Mem) => some (Sum.inl (σ7, i4 + 1))) else some (Sum.inr σ6)))
noncomputable def f_X4_findTerms (σ : Mem) : Option Mem :=
  (f_J7_fill_53178 σ 45 0).bind (fun (σ1 : Mem) => pF σ1 40 6 0 (fun (σ2 : Mem) => loopO (fun (z4 : (Mem × Int32)) => l_X4_findTerms_15 z4.1 z4.2) (σ2, 0)))
theorem t_X4_findTerms {w : Wd} (hw : WOK w) {σ : Mem} : JO w mu_X4_findTerms vV σ [(0, .ref (adr w 40))] [] 0 (f_X4_findTerms σ) (fun z => some ((), z)) := by
  unfold f_X4_findTerms
  refine jo_aload_n (pc := 0) 0 rfl dX4_findTerms_0 rfl ?_
  refine jo_getrE (pc := 1) ok_4_5 (ik_40 hw) rf_40_5 gw_311 dX4_findTerms_1 ?_
  refine jo_iconst (pc := 4) dX4_findTerms_4 (ic_i_0) ?_
  refine jo_cS_V_i (pc := 5) (μ' := mu_J7_fill_53178) (fx := f_J7_fill_53178 σ 45 0) (As := [.ref (adr w 45), .int 0]) (c_J7_fill_53178 hw (ik_45 hw)) (ok_J7_fill_53178) (ltb rfl) (all2 gw_600 gw_521) rfl rfl (Nat.le_of_ble_eq_true rfl) dX4_findTerms_5 (fun σ1 => ?_)
  refine jo_aload_n (pc := 8) 0 rfl dX4_findTerms_8 rfl ?_
  refine jo_iconst (pc := 9) dX4_findTerms_9 (ic_i_0) ?_
  refine jo_putf (pc := 10) ok_4_6 okp_4_6 (ik_40 hw) gw_312 dX4_findTerms_10 (fun σ2 => ?_)
  refine jo_iconst (pc := 13) dX4_findTerms_13 (ic_i_0) ?_
  refine jo_istore_n (pc := 14) (lv' := [(1, .int 0), (0, .ref (adr w 40))]) dX4_findTerms_14 rfl (ltb rfl) rfl ?_
  refine jo_lv (lv' := [(0, .ref (adr w 40)), (1, .int 0)]) [1, 0] rfl ?_
  refine jo_loop (X := Mem) (fun (z4 : (Mem × Int32)) => z4.1) (fun (z4 : (Mem × Int32)) => [(0, .ref (adr w 40)), (1, .int z4.2)]) (body := (fun (z4 : (Mem × Int32)) => l_X4_findTerms_15 z4.1 z4.2)) (fun F15_4 hF15_4 s => ?_) (σ2, 0)
  obtain ⟨σ3, i4⟩ := s
  show JO w mu_X4_findTerms vV σ3 [(0, .ref (adr w 40)), (1, .int i4)] [] 15 (l_X4_findTerms_15 σ3 i4) _
  unfold l_X4_findTerms_15
  refine jo_iload_n (pc := 15) 1 rfl dX4_findTerms_15 rfl ?_
  refine jo_sipush (pc := 16) dX4_findTerms_16 (ic_s_455) ?_
  refine jo_icmp_ge (pc := 19) dX4_findTerms_19 (tgt := 39) rfl ?_ ?_
  · exact jo_return (pc := 39) rfl rfl dX4_findTerms_39
  · refine jo_aload_n (pc := 22) 0 rfl dX4_findTerms_22 rfl ?_
    refine jo_cV_Z_i (pc := 23) (μ' := mu_X4_goToNextPoint) (fx := f_X4_goToNextPoint σ3) (As := []) (c_X4_goToNextPoint hw) (ok_X4_goToNextPoint) (ltb rfl) (all3 gw_601 gw_603 gw_7) (ik_40 hw) (by decide) (q := (RX4, TX4, 9)) rfl rfl rfl rfl (Nat.le_of_ble_eq_true rfl) dX4_findTerms_23 (fun b5 σ6 => ?_)
    refine jo_ifz_eq (pc := 26) dX4_findTerms_26 (tgt := 39) rfl ?_ ?_
    · exact jo_return (pc := 39) rfl rfl dX4_findTerms_39
    · refine jo_aload_n (pc := 29) 0 rfl dX4_findTerms_29 rfl ?_
      refine jo_cV_V_i (pc := 30) (μ' := mu_X4_findTermsAtPoint) (fx := f_X4_findTermsAtPoint σ6) (As := []) (c_X4_findTermsAtPoint hw) (ok_X4_findTermsAtPoint) (ltb rfl) (all3 gw_609 gw_611 gw_8) (ik_40 hw) (by decide) (q := (RX4, TX4, 9)) rfl rfl rfl rfl (Nat.le_of_ble_eq_true rfl) dX4_findTerms_30 (fun σ7 => ?_)
      refine jo_iinc (pc := 33) (lv' := [(1, .int (i4 + 1)), (0, .ref (adr w 40))]) 1 rfl dX4_findTerms_33 (congrArg (fun z => i4 + z) (ic_i_1)) (ltb rfl) rfl ?_
      refine jo_goto (pc := 36) dX4_findTerms_36 (tgt := 15) rfl ?_
      refine jo_lv (lv' := [(0, .ref (adr w 40)), (1, .int (i4 + 1))]) [1, 0] rfl ?_
      exact jo_leaf (by rfl) (hF15_4 (σ7, i4 + 1))
theorem c_X4_findTerms {w : Wd} (hw : WOK w) {σ : Mem} : ∀ σ', f_X4_findTerms σ = some σ' → MC w mu_X4_findTerms none [.ref (adr w 40)] σ σ' := mc_ofV ok_X4_findTerms rfl (Nat.le_of_ble_eq_true rfl) (t_X4_findTerms hw)
abbrev mu_X4_follow : MD := (yX4_follow, cX4_follow, 3, none, 6)
theorem ok_X4_follow : MOK mu_X4_follow 1 := ⟨gw_536, gw_162, (by decide +kernel : plainFor yX4_follow = true), ⟨(by decide +kernel : yX4_follow.cls ≠ "java/lang/invoke/MethodHandle"), (by decide +kernel : yX4_follow.cls ≠ "java/lang/invoke/VarHandle"), (by decide +kernel : (parseMethodDescriptor yX4_follow.desc).map (fun d => d.parameters.length) = some 1)⟩, Nat.le_of_ble_eq_true rfl⟩
noncomputable def j_X4_follow_62 (σ8 : Mem) : Option Mem :=
  gZ σ8 40 3 (fun (b9 : Bool) => if b9 then (f_X4_findTerms σ8).bind (fun (σ10 : Mem) => some σ10) else some σ8)
noncomputable def l_X4_follow_40 (σ11 : Mem) (i12 : Int32) : Option ((Mem × Int32) ⊕ Mem) :=
  if 6 ≤ i12 then (some (Sum.inr σ11)) else (gR 44 i12 (fun (p13 : Nat) => pF σ11 p13 0 0 (fun (σ14 : Mem) => some (Sum.inl (σ14, i12 + 1)))))
noncomputable def f_X4_follow (σ : Mem) (x0 : Nat) : Option Mem :=
  (f_X6_isSame σ 41 x0).bind (fun (b1 : Bool) => if b1 then some σ else (f_X6_takeAll σ 41 x0).bind (fun (σ2 : Mem) => gF σ2 40 4 (fun (v3 : Int32) => pF σ2 40 4 (v3 + 1) (fun (σ4 : Mem) => bq (f_X4_areOverlapsAlike σ4) (fun (b5 : Bool) (σ6 : Mem) => pF σ6 40 3 (b2i b5) (fun (σ7 : Mem) => (loopO (fun (z12 : (Mem × Int32)) => l_X4_follow_40 z12.1 z12.2) (σ7, 0) : Option Mem).bind (fun (z8 : Mem) => j_X4_follow_62 z8)))))))
theorem t_X4_follow {w : Wd} (hw : WOK w) {σ : Mem} {x0 : Nat} (hx0 : isk w x0 6) : JO w mu_X4_follow vV σ [(0, .ref (adr w 40)), (1, .ref (adr w x0))] [] 0 (f_X4_follow σ x0) (fun z => some ((), z)) := by
  unfold f_X4_follow
  refine jo_aload_n (pc := 0) 0 rfl dX4_follow_0 rfl ?_
  refine jo_getrE (pc := 1) ok_4_0 (ik_40 hw) rf_40_0 gw_299 dX4_follow_1 ?_
  refine jo_aload_n (pc := 4) 1 rfl dX4_follow_4 rfl ?_
  refine jo_cV_Z_p (pc := 5) (μ' := mu_X6_isSame) (fx := f_X6_isSame σ 41 x0) (As := [.ref (adr w x0)]) (c_X6_isSame hw (ik_41 hw) (hx0)) (ok_X6_isSame) (ltb rfl) (all3 gw_537 gw_538 gw_539) (ik_41 hw) (by decide) (q := (RX6, TX6, 3)) rfl rfl rfl rfl (Nat.le_of_ble_eq_true rfl) dX4_follow_5 (fun b1 => ?_)
  refine jo_ifz_eq (pc := 8) dX4_follow_8 (tgt := 12) rfl ?_ ?_
  · refine jo_aload_n (pc := 12) 0 rfl dX4_follow_12 rfl ?_
    refine jo_getrE (pc := 13) ok_4_0 (ik_40 hw) rf_40_0 gw_299 dX4_follow_13 ?_
    refine jo_aload_n (pc := 16) 1 rfl dX4_follow_16 rfl ?_
    refine jo_cV_V_i (pc := 17) (μ' := mu_X6_takeAll) (fx := f_X6_takeAll σ 41 x0) (As := [.ref (adr w x0)]) (c_X6_takeAll hw (ik_41 hw) (hx0)) (ok_X6_takeAll) (ltb rfl) (all3 gw_541 gw_542 gw_543) (ik_41 hw) (by decide) (q := (RX6, TX6, 3)) rfl rfl rfl rfl (Nat.le_of_ble_eq_true rfl) dX4_follow_17 (fun σ2 => ?_)
    refine jo_aload_n (pc := 20) 0 rfl dX4_follow_20 rfl ?_
    refine jo_dup (pc := 21) dX4_follow_21 rfl ?_
    refine jo_getf (pc := 22) ok_4_4 (ik_40 hw) gw_309 dX4_follow_22 (fun v3 => ?_)
    refine jo_iconst (pc := 25) dX4_follow_25 (ic_i_1) ?_
    refine jo_iadd (pc := 26) dX4_follow_26 ?_
    refine jo_putf (pc := 27) ok_4_4 okp_4_4 (ik_40 hw) gw_309 dX4_follow_27 (fun σ4 => ?_)
    refine jo_aload_n (pc := 30) 0 rfl dX4_follow_30 rfl ?_
    refine jo_aload_n (pc := 31) 0 rfl dX4_follow_31 rfl ?_
    refine jo_cV_Z_i (pc := 32) (μ' := mu_X4_areOverlapsAlike) (fx := f_X4_areOverlapsAlike σ4) (As := []) (c_X4_areOverlapsAlike hw) (ok_X4_areOverlapsAlike) (ltb rfl) (all3 gw_548 gw_550 gw_0) (ik_40 hw) (by decide) (q := (RX4, TX4, 9)) rfl rfl rfl rfl (Nat.le_of_ble_eq_true rfl) dX4_follow_32 (fun b5 σ6 => ?_)
    refine jo_putzB (pc := 35) ok_4_3 okp_4_3 (ik_40 hw) gw_307 dX4_follow_35 (fun σ7 => ?_)
    refine jo_iconst (pc := 38) dX4_follow_38 (ic_i_0) ?_
    refine jo_istore_n (pc := 39) (lv' := [(2, .int 0), (0, .ref (adr w 40)), (1, .ref (adr w x0))]) dX4_follow_39 rfl (ltb rfl) rfl ?_
    refine jo_join1 (S := Mem) (fun (z8 : Mem) => z8) (fun (z8 : Mem) => [(0, .ref (adr w 40))]) (fun (z8 : Mem) => []) 62 ?_ (fun h62_8 => ?_)
    · intro σ8
      show JO w mu_X4_follow vV σ8 [(0, .ref (adr w 40))] [] 62 (j_X4_follow_62 σ8) _
      unfold j_X4_follow_62
      refine jo_aload_n (pc := 62) 0 rfl dX4_follow_62 rfl ?_
      refine jo_getz (pc := 63) ok_4_3 (ik_40 hw) gw_307 dX4_follow_63 (fun b9 => ?_)
      refine jo_ifz_eq (pc := 66) dX4_follow_66 (tgt := 73) rfl ?_ ?_
      · exact jo_return (pc := 73) rfl rfl dX4_follow_73
      · refine jo_aload_n (pc := 69) 0 rfl dX4_follow_69 rfl ?_
        refine jo_cV_V_i (pc := 70) (μ' := mu_X4_findTerms) (fx := f_X4_findTerms σ8) (As := []) (c_X4_findTerms hw) (ok_X4_findTerms) (ltb rfl) (all3 gw_596 gw_598 gw_6) (ik_40 hw) (by decide) (q := (RX4, TX4, 9)) rfl rfl rfl rfl (Nat.le_of_ble_eq_true rfl) dX4_follow_70 (fun σ10 => ?_)
        exact jo_return (pc := 73) rfl rfl dX4_follow_73
    · refine jo_lv (lv' := [(0, .ref (adr w 40)), (2, .int 0)]) [1, 0] rfl ?_
      refine jo_loop (X := Mem) (fun (z12 : (Mem × Int32)) => z12.1) (fun (z12 : (Mem × Int32)) => [(0, .ref (adr w 40)), (2, .int z12.2)]) (body := (fun (z12 : (Mem × Int32)) => l_X4_follow_40 z12.1 z12.2)) (fun F40_12 hF40_12 s => ?_) (σ7, 0)
      obtain ⟨σ11, i12⟩ := s
      show JO w mu_X4_follow vV σ11 [(0, .ref (adr w 40)), (2, .int i12)] [] 40 (l_X4_follow_40 σ11 i12) _
      unfold l_X4_follow_40
      refine jo_iload_n (pc := 40) 1 rfl dX4_follow_40 rfl ?_
      refine jo_bipush (pc := 41) dX4_follow_41 (ic_b_6) ?_
      refine jo_icmp_ge (pc := 43) dX4_follow_43 (tgt := 62) rfl ?_ ?_
      · refine jo_lv (lv' := [(0, .ref (adr w 40))]) [0] rfl ?_
        exact jo_leaf (by rfl) (h62_8 σ11)
      · refine jo_aload_n (pc := 46) 0 rfl dX4_follow_46 rfl ?_
        refine jo_getrE (pc := 47) ok_4_2 (ik_40 hw) rf_40_2 gw_303 dX4_follow_47 ?_
        refine jo_iload_n (pc := 50) 1 rfl dX4_follow_50 rfl ?_
        refine jo_aaldG (pc := 51) (z := 9) hw (ik_44 hw) (by decide) (t := 3) rfl rfl (by decide) dX4_follow_51 (fun p13 hp13 => ?_)
        refine jo_iconst (pc := 52) dX4_follow_52 (ic_i_0) ?_
        refine jo_putf (pc := 53) ok_9_0 okp_9_0 (hp13) gw_280 dX4_follow_53 (fun σ14 => ?_)
        refine jo_iinc (pc := 56) (lv' := [(2, .int (i12 + 1)), (0, .ref (adr w 40))]) 1 rfl dX4_follow_56 (congrArg (fun z => i12 + z) (ic_i_1)) (ltb rfl) rfl ?_
        refine jo_goto (pc := 59) dX4_follow_59 (tgt := 40) rfl ?_
        refine jo_lv (lv' := [(0, .ref (adr w 40)), (2, .int (i12 + 1))]) [1, 0] rfl ?_
        exact jo_leaf (by rfl) (hF40_12 (σ14, i12 + 1))
  · exact jo_return (pc := 11) rfl rfl dX4_follow_11
theorem c_X4_follow {w : Wd} (hw : WOK w) {σ : Mem} {x0 : Nat} (hx0 : isk w x0 6) : ∀ σ', f_X4_follow σ x0 = some σ' → MC w mu_X4_follow none [.ref (adr w 40), .ref (adr w x0)] σ σ' := mc_ofV ok_X4_follow rfl (Nat.le_of_ble_eq_true rfl) (t_X4_follow hw hx0)
abbrev mu_X4_termCount : MD := (yX4_termCount, cX4_termCount, 3, some .int, 0)
theorem ok_X4_termCount : MOK mu_X4_termCount 0 := ⟨gw_1265, gw_162, (by decide +kernel : plainFor yX4_termCount = true), ⟨(by decide +kernel : yX4_termCount.cls ≠ "java/lang/invoke/MethodHandle"), (by decide +kernel : yX4_termCount.cls ≠ "java/lang/invoke/VarHandle"), (by decide +kernel : (parseMethodDescriptor yX4_termCount.desc).map (fun d => d.parameters.length) = some 0)⟩, Nat.le_of_ble_eq_true rfl⟩
noncomputable def l_X4_termCount_4 (σ : Mem) (i1 : Int32) (i2 : Int32) : Option ((Int32 × Int32) ⊕ Int32) :=
  if 6 ≤ i2 then (some (Sum.inr i1)) else (gR 44 i2 (fun (p3 : Nat) => gF σ p3 0 (fun (v4 : Int32) => bd (i1 + v4) (fun (v5 : Int32) => some (Sum.inl (v5, i2 + 1))))))
noncomputable def f_X4_termCount (σ : Mem) : Option Int32 :=
  loopO (fun (z2 : (Int32 × Int32)) => l_X4_termCount_4 σ z2.1 z2.2) (0, 0)
theorem t_X4_termCount {w : Wd} (hw : WOK w) {σ : Mem} : JO w mu_X4_termCount vI σ [(0, .ref (adr w 40))] [] 0 (f_X4_termCount σ) (fun z => some (z, σ)) := by
  unfold f_X4_termCount
  refine jo_iconst (pc := 0) dX4_termCount_0 (ic_i_0) ?_
  refine jo_istore_n (pc := 1) (lv' := [(1, .int 0), (0, .ref (adr w 40))]) dX4_termCount_1 rfl (ltb rfl) rfl ?_
  refine jo_iconst (pc := 2) dX4_termCount_2 (ic_i_0) ?_
  refine jo_istore_n (pc := 3) (lv' := [(2, .int 0), (1, .int 0), (0, .ref (adr w 40))]) dX4_termCount_3 rfl (ltb rfl) rfl ?_
  refine jo_lv (lv' := [(0, .ref (adr w 40)), (1, .int 0), (2, .int 0)]) [2, 1, 0] rfl ?_
  refine jo_loop (X := Int32) (fun (z2 : (Int32 × Int32)) => σ) (fun (z2 : (Int32 × Int32)) => [(0, .ref (adr w 40)), (1, .int z2.1), (2, .int z2.2)]) (body := (fun (z2 : (Int32 × Int32)) => l_X4_termCount_4 σ z2.1 z2.2)) (fun F4_2 hF4_2 s => ?_) (0, 0)
  obtain ⟨i1, i2⟩ := s
  show JO w mu_X4_termCount vI σ [(0, .ref (adr w 40)), (1, .int i1), (2, .int i2)] [] 4 (l_X4_termCount_4 σ i1 i2) _
  unfold l_X4_termCount_4
  refine jo_iload_n (pc := 4) 2 rfl dX4_termCount_4 rfl ?_
  refine jo_bipush (pc := 5) dX4_termCount_5 (ic_b_6) ?_
  refine jo_icmp_ge (pc := 7) dX4_termCount_7 (tgt := 28) rfl ?_ ?_
  · refine jo_iload_n (pc := 28) 1 rfl dX4_termCount_28 rfl ?_
    exact jo_ireturn (pc := 29) rfl rfl dX4_termCount_29
  · refine jo_iload_n (pc := 10) 1 rfl dX4_termCount_10 rfl ?_
    refine jo_aload_n (pc := 11) 0 rfl dX4_termCount_11 rfl ?_
    refine jo_getrE (pc := 12) ok_4_2 (ik_40 hw) rf_40_2 gw_303 dX4_termCount_12 ?_
    refine jo_iload_n (pc := 15) 2 rfl dX4_termCount_15 rfl ?_
    refine jo_aaldG (pc := 16) (z := 9) hw (ik_44 hw) (by decide) (t := 3) rfl rfl (by decide) dX4_termCount_16 (fun p3 hp3 => ?_)
    refine jo_getf (pc := 17) ok_9_0 (hp3) gw_280 dX4_termCount_17 (fun v4 => ?_)
    refine jo_iadd (pc := 20) dX4_termCount_20 ?_
    refine jo_bd ?_
    refine jo_istore_n (pc := 21) (lv' := [(1, .int (i1 + v4)), (0, .ref (adr w 40)), (2, .int i2)]) dX4_termCount_21 rfl (ltb rfl) rfl ?_
    generalize (i1 + v4) = v5
    refine jo_iinc (pc := 22) (lv' := [(2, .int (i2 + 1)), (1, .int v5), (0, .ref (adr w 40))]) 2 rfl dX4_termCount_22 (congrArg (fun z => i2 + z) (ic_i_1)) (ltb rfl) rfl ?_
    refine jo_goto (pc := 25) dX4_termCount_25 (tgt := 4) rfl ?_
    refine jo_lv (lv' := [(0, .ref (adr w 40)), (1, .int v5), (2, .int (i2 + 1))]) [2, 1, 0] rfl ?_
    exact jo_leaf (by rfl) (hF4_2 (v5, i2 + 1))
theorem c_X4_termCount {w : Wd} (hw : WOK w) {σ : Mem} : ∀ r, f_X4_termCount σ = some r → MC w mu_X4_termCount (vI r) [.ref (adr w 40)] σ σ := mc_ofP ok_X4_termCount rfl (Nat.le_of_ble_eq_true rfl) (t_X4_termCount hw)
abbrev mu_X5_forget : MD := (yX5_forget, cX5_forget, 1, none, 0)
theorem ok_X5_forget : MOK mu_X5_forget 0 := ⟨gw_963, gw_168, (by decide +kernel : plainFor yX5_forget = true), ⟨(by decide +kernel : yX5_forget.cls ≠ "java/lang/invoke/MethodHandle"), (by decide +kernel : yX5_forget.cls ≠ "java/lang/invoke/VarHandle"), (by decide +kernel : (parseMethodDescriptor yX5_forget.desc).map (fun d => d.parameters.length) = some 0)⟩, Nat.le_of_ble_eq_true rfl⟩
noncomputable def f_X5_forget (σ : Mem) : Option Mem :=
  pF σ 144 0 0 (fun (σ1 : Mem) => pF σ1 144 1 (-1) (fun (σ2 : Mem) => some σ2))
theorem t_X5_forget {w : Wd} (hw : WOK w) {σ : Mem} : JO w mu_X5_forget vV σ [(0, .ref (adr w 144))] [] 0 (f_X5_forget σ) (fun z => some ((), z)) := by
  unfold f_X5_forget
  refine jo_aload_n (pc := 0) 0 rfl dX5_forget_0 rfl ?_
  refine jo_iconst (pc := 1) dX5_forget_1 (ic_i_0) ?_
  refine jo_putf (pc := 2) ok_5_0 okp_5_0 (ik_144 hw) gw_471 dX5_forget_2 (fun σ1 => ?_)
  refine jo_aload_n (pc := 5) 0 rfl dX5_forget_5 rfl ?_
  refine jo_iconst (pc := 6) dX5_forget_6 (ic_i_m1) ?_
  refine jo_putf (pc := 7) ok_5_1 okp_5_1 (ik_144 hw) gw_473 dX5_forget_7 (fun σ2 => ?_)
  exact jo_return (pc := 10) rfl rfl dX5_forget_10
theorem c_X5_forget {w : Wd} (hw : WOK w) {σ : Mem} : ∀ σ', f_X5_forget σ = some σ' → MC w mu_X5_forget none [.ref (adr w 144)] σ σ' := mc_ofV ok_X5_forget rfl (Nat.le_of_ble_eq_true rfl) (t_X5_forget hw)
abbrev mu_X5_signHere : MD := (yX5_signHere, cX5_signHere, 1, some .int, 0)
theorem ok_X5_signHere : MOK mu_X5_signHere 0 := ⟨gw_983, gw_168, (by decide +kernel : plainFor yX5_signHere = true), ⟨(by decide +kernel : yX5_signHere.cls ≠ "java/lang/invoke/MethodHandle"), (by decide +kernel : yX5_signHere.cls ≠ "java/lang/invoke/VarHandle"), (by decide +kernel : (parseMethodDescriptor yX5_signHere.desc).map (fun d => d.parameters.length) = some 0)⟩, Nat.le_of_ble_eq_true rfl⟩
noncomputable def j_X5_signHere_30  : Option Int32 :=
  some (-1)
noncomputable def f_X5_signHere (σ : Mem) : Option Int32 :=
  gF σ 144 9 (fun (v1 : Int32) => (if v1 < 0 then (some (Sum.inl ())) else (gF σ 144 9 (fun (v2 : Int32) => gF σ 144 8 (fun (v3 : Int32) => if v3 ≤ v2 then (some (Sum.inl ())) else (gF σ 144 9 (fun (v4 : Int32) => gI σ 175 v4 (fun (v5 : Int32) => some (Sum.inr v5))))))) : Option (Unit ⊕ Int32)).bind (Sum.elim (fun (z1 : Unit) => j_X5_signHere_30) some))
theorem t_X5_signHere {w : Wd} (hw : WOK w) {σ : Mem} : JO w mu_X5_signHere vI σ [(0, .ref (adr w 144))] [] 0 (f_X5_signHere σ) (fun z => some (z, σ)) := by
  unfold f_X5_signHere
  refine jo_aload_n (pc := 0) 0 rfl dX5_signHere_0 rfl ?_
  refine jo_getf (pc := 1) ok_5_9 (ik_144 hw) gw_483 dX5_signHere_1 (fun v1 => ?_)
  refine jo_joinS (S := Unit) (fun (z1 : Unit) => σ) (fun (z1 : Unit) => []) (fun (z1 : Unit) => []) 30 ?_ (fun h30_1 => ?_)
  · intro _
    show JO w mu_X5_signHere vI σ [] [] 30 (j_X5_signHere_30) _
    unfold j_X5_signHere_30
    refine jo_iconst (pc := 30) dX5_signHere_30 (ic_i_m1) ?_
    exact jo_ireturn (pc := 31) rfl rfl dX5_signHere_31
  · refine jo_if_lt (pc := 4) dX5_signHere_4 (tgt := 30) rfl ?_ ?_
    · refine jo_lv (lv' := []) [] rfl ?_
      exact jo_leaf (by rfl) (h30_1 ())
    · refine jo_aload_n (pc := 7) 0 rfl dX5_signHere_7 rfl ?_
      refine jo_getf (pc := 8) ok_5_9 (ik_144 hw) gw_483 dX5_signHere_8 (fun v2 => ?_)
      refine jo_aload_n (pc := 11) 0 rfl dX5_signHere_11 rfl ?_
      refine jo_getf (pc := 12) ok_5_8 (ik_144 hw) gw_482 dX5_signHere_12 (fun v3 => ?_)
      refine jo_icmp_ge (pc := 15) dX5_signHere_15 (tgt := 30) rfl ?_ ?_
      · refine jo_lv (lv' := []) [] rfl ?_
        exact jo_leaf (by rfl) (h30_1 ())
      · refine jo_aload_n (pc := 18) 0 rfl dX5_signHere_18 rfl ?_
        refine jo_getrE (pc := 19) ok_5_7 (ik_144 hw) rf_144_7 gw_481 dX5_signHere_19 ?_
        refine jo_aload_n (pc := 22) 0 rfl dX5_signHere_22 rfl ?_
        refine jo_getf (pc := 23) ok_5_9 (ik_144 hw) gw_483 dX5_signHere_23 (fun v4 => ?_)
        refine jo_iald (pc := 26) (ik_175 hw) dX5_signHere_26 (fun v5 => ?_)
        refine jo_goto (pc := 27) dX5_signHere_27 (tgt := 31) rfl ?_
        exact jo_ireturn (pc := 31) rfl rfl dX5_signHere_31
theorem c_X5_signHere {w : Wd} (hw : WOK w) {σ : Mem} : ∀ r, f_X5_signHere σ = some r → MC w mu_X5_signHere (vI r) [.ref (adr w 144)] σ σ := mc_ofP ok_X5_signHere rfl (Nat.le_of_ble_eq_true rfl) (t_X5_signHere hw)
abbrev mu_X5_skipBlanks : MD := (yX5_skipBlanks, cX5_skipBlanks, 2, some .int, 1)
theorem ok_X5_skipBlanks : MOK mu_X5_skipBlanks 0 := ⟨gw_979, gw_168, (by decide +kernel : plainFor yX5_skipBlanks = true), ⟨(by decide +kernel : yX5_skipBlanks.cls ≠ "java/lang/invoke/MethodHandle"), (by decide +kernel : yX5_skipBlanks.cls ≠ "java/lang/invoke/VarHandle"), (by decide +kernel : (parseMethodDescriptor yX5_skipBlanks.desc).map (fun d => d.parameters.length) = some 0)⟩, Nat.le_of_ble_eq_true rfl⟩
noncomputable def j_X5_skipBlanks_34 (σ1 : Mem) : Option (Int32 × Mem) :=
  (f_X5_signHere σ1).bind (fun (v2 : Int32) => some (v2, σ1))
noncomputable def l_X5_skipBlanks_2 (σ3 : Mem) (i4 : Int32) : Option ((Mem × Int32) ⊕ Mem) :=
  if 200 ≤ i4 then (some (Sum.inr σ3)) else ((f_X5_signHere σ3).bind (fun (v5 : Int32) => if v5 = 32 then (gF σ3 144 9 (fun (v6 : Int32) => pF σ3 144 9 (v6 + 1) (fun (σ7 : Mem) => some (Sum.inl (σ7, i4 + 1))))) else (some (Sum.inr σ3))))
noncomputable def f_X5_skipBlanks (σ : Mem) : Option (Int32 × Mem) :=
  (loopO (fun (z4 : (Mem × Int32)) => l_X5_skipBlanks_2 z4.1 z4.2) (σ, 0) : Option Mem).bind (fun (z1 : Mem) => j_X5_skipBlanks_34 z1)
theorem t_X5_skipBlanks {w : Wd} (hw : WOK w) {σ : Mem} : JO w mu_X5_skipBlanks vI σ [(0, .ref (adr w 144))] [] 0 (f_X5_skipBlanks σ) some := by
  unfold f_X5_skipBlanks
  refine jo_iconst (pc := 0) dX5_skipBlanks_0 (ic_i_0) ?_
  refine jo_istore_n (pc := 1) (lv' := [(1, .int 0), (0, .ref (adr w 144))]) dX5_skipBlanks_1 rfl (ltb rfl) rfl ?_
  refine jo_join1 (S := Mem) (fun (z1 : Mem) => z1) (fun (z1 : Mem) => [(0, .ref (adr w 144))]) (fun (z1 : Mem) => []) 34 ?_ (fun h34_1 => ?_)
  · intro σ1
    show JO w mu_X5_skipBlanks vI σ1 [(0, .ref (adr w 144))] [] 34 (j_X5_skipBlanks_34 σ1) _
    unfold j_X5_skipBlanks_34
    refine jo_aload_n (pc := 34) 0 rfl dX5_skipBlanks_34 rfl ?_
    refine jo_cV_I_p (pc := 35) (μ' := mu_X5_signHere) (fx := f_X5_signHere σ1) (As := []) (c_X5_signHere hw) (ok_X5_signHere) (ltb rfl) (all3 gw_980 gw_982 gw_27) (ik_144 hw) (by decide) (q := (RX5, TX5, 11)) rfl rfl rfl rfl (Nat.le_of_ble_eq_true rfl) dX5_skipBlanks_35 (fun v2 => ?_)
    exact jo_ireturn (pc := 38) rfl rfl dX5_skipBlanks_38
  · refine jo_lv (lv' := [(0, .ref (adr w 144)), (1, .int 0)]) [1, 0] rfl ?_
    refine jo_loop (X := Mem) (fun (z4 : (Mem × Int32)) => z4.1) (fun (z4 : (Mem × Int32)) => [(0, .ref (adr w 144)), (1, .int z4.2)]) (body := (fun (z4 : (Mem × Int32)) => l_X5_skipBlanks_2 z4.1 z4.2)) (fun F2_4 hF2_4 s => ?_) (σ, 0)
    obtain ⟨σ3, i4⟩ := s
    show JO w mu_X5_skipBlanks vI σ3 [(0, .ref (adr w 144)), (1, .int i4)] [] 2 (l_X5_skipBlanks_2 σ3 i4) _
    unfold l_X5_skipBlanks_2
    refine jo_iload_n (pc := 2) 1 rfl dX5_skipBlanks_2 rfl ?_
    refine jo_sipush (pc := 3) dX5_skipBlanks_3 (ic_s_200) ?_
    refine jo_icmp_ge (pc := 6) dX5_skipBlanks_6 (tgt := 34) rfl ?_ ?_
    · refine jo_lv (lv' := [(0, .ref (adr w 144))]) [0] rfl ?_
      exact jo_leaf (by rfl) (h34_1 σ3)
    · refine jo_aload_n (pc := 9) 0 rfl dX5_skipBlanks_9 rfl ?_
      refine jo_cV_I_p (pc := 10) (μ' := mu_X5_signHere) (fx := f_X5_signHere σ3) (As := []) (c_X5_signHere hw) (ok_X5_signHere) (ltb rfl) (all3 gw_980 gw_982 gw_27) (ik_144 hw) (by decide) (q := (RX5, TX5, 11)) rfl rfl rfl rfl (Nat.le_of_ble_eq_true rfl) dX5_skipBlanks_10 (fun v5 => ?_)
      refine jo_bipush (pc := 13) dX5_skipBlanks_13 (ic_b_32) ?_
      refine jo_icmp_ne (pc := 15) dX5_skipBlanks_15 (tgt := 34) rfl ?_ ?_
      · refine jo_lv (lv' := [(0, .ref (adr w 144))]) [0] rfl ?_
        exact jo_leaf (by rfl) (h34_1 σ3)
      · refine jo_aload_n (pc := 18) 0 rfl dX5_skipBlanks_18 rfl ?_
        refine jo_dup (pc := 19) dX5_skipBlanks_19 rfl ?_
        refine jo_getf (pc := 20) ok_5_9 (ik_144 hw) gw_483 dX5_skipBlanks_20 (fun v6 => ?_)
        refine jo_iconst (pc := 23) dX5_skipBlanks_23 (ic_i_1) ?_
        refine jo_iadd (pc := 24) dX5_skipBlanks_24 ?_
        refine jo_putf (pc := 25) ok_5_9 okp_5_9 (ik_144 hw) gw_483 dX5_skipBlanks_25 (fun σ7 => ?_)
        refine jo_iinc (pc := 28) (lv' := [(1, .int (i4 + 1)), (0, .ref (adr w 144))]) 1 rfl dX5_skipBlanks_28 (congrArg (fun z => i4 + z) (ic_i_1)) (ltb rfl) rfl ?_
        refine jo_goto (pc := 31) dX5_skipBlanks_31 (tgt := 2) rfl ?_
        refine jo_lv (lv' := [(0, .ref (adr w 144)), (1, .int (i4 + 1))]) [1, 0] rfl ?_
        exact jo_leaf (by rfl) (hF2_4 (σ7, i4 + 1))
theorem c_X5_skipBlanks {w : Wd} (hw : WOK w) {σ : Mem} : ∀ r σ', f_X5_skipBlanks σ = some (r, σ') → MC w mu_X5_skipBlanks (vI r) [.ref (adr w 144)] σ σ' := mc_of ok_X5_skipBlanks rfl (Nat.le_of_ble_eq_true rfl) (t_X5_skipBlanks hw)
abbrev mu_X5_beginsFactor : MD := (yX5_beginsFactor, cX5_beginsFactor, 1, some .boolean, 0)
theorem ok_X5_beginsFactor : MOK mu_X5_beginsFactor 1 := ⟨gw_986, gw_168, (by decide +kernel : plainFor yX5_beginsFactor = true), ⟨(by decide +kernel : yX5_beginsFactor.cls ≠ "java/lang/invoke/MethodHandle"), (by decide +kernel : yX5_beginsFactor.cls ≠ "java/lang/invoke/VarHandle"), (by decide +kernel : (parseMethodDescriptor yX5_beginsFactor.desc).map (fun d => d.parameters.length) = some 1)⟩, Nat.le_of_ble_eq_true rfl⟩
noncomputable def j_X5_beginsFactor_30  : Option Bool :=
  some true
noncomputable def j_X5_beginsFactor_12 (x0 : Int32) : Option (Unit ⊕ Bool) :=
  if x0 = 82 then (some (Sum.inl ())) else (if x0 = 40 then (some (Sum.inl ())) else (if x0 = 91 then (some (Sum.inl ())) else (some (Sum.inr false))))
noncomputable def f_X5_beginsFactor (σ : Mem) (x0 : Int32) : Option Bool :=
  ((if x0 < 97 then (some (Sum.inl ())) else (if x0 ≤ 102 then (some (Sum.inr (Sum.inl ()))) else (some (Sum.inl ()))) : Option (Unit ⊕ (Unit ⊕ Bool))).bind (Sum.elim (fun (z0 : Unit) => j_X5_beginsFactor_12 x0) some) : Option (Unit ⊕ Bool)).bind (Sum.elim (fun (z0 : Unit) => j_X5_beginsFactor_30) some)
theorem t_X5_beginsFactor {w : Wd} (hw : WOK w) {σ : Mem} {x0 : Int32} : JO w mu_X5_beginsFactor vB σ [(0, .int x0)] [] 0 (f_X5_beginsFactor σ x0) (fun z => some (z, σ)) := by
  unfold f_X5_beginsFactor
  refine jo_iload_n (pc := 0) 0 rfl dX5_beginsFactor_0 rfl ?_
  refine jo_bipush (pc := 1) dX5_beginsFactor_1 (ic_b_97) ?_
  refine jo_joinS (S := Unit) (fun (z0 : Unit) => σ) (fun (z0 : Unit) => []) (fun (z0 : Unit) => []) 30 ?_ (fun h30_0 => ?_)
  · intro _
    show JO w mu_X5_beginsFactor vB σ [] [] 30 (j_X5_beginsFactor_30) _
    unfold j_X5_beginsFactor_30
    refine jo_iconst (pc := 30) dX5_beginsFactor_30 (ic_i_1) ?_
    refine jo_goto (pc := 31) dX5_beginsFactor_31 (tgt := 35) rfl ?_
    exact jo_breturn (pc := 35) (b := true) rfl rfl dX5_beginsFactor_35
  · refine jo_joinS (S := Unit) (fun (z0 : Unit) => σ) (fun (z0 : Unit) => [(0, .int x0)]) (fun (z0 : Unit) => []) 12 ?_ (fun h12_0 => ?_)
    · intro _
      show JO w mu_X5_beginsFactor vB σ [(0, .int x0)] [] 12 (j_X5_beginsFactor_12 x0) _
      unfold j_X5_beginsFactor_12
      refine jo_iload_n (pc := 12) 0 rfl dX5_beginsFactor_12 rfl ?_
      refine jo_bipush (pc := 13) dX5_beginsFactor_13 (ic_b_82) ?_
      refine jo_icmp_eq (pc := 15) dX5_beginsFactor_15 (tgt := 30) rfl ?_ ?_
      · refine jo_lv (lv' := []) [] rfl ?_
        exact jo_leaf (by rfl) (h30_0 ())
      · refine jo_iload_n (pc := 18) 0 rfl dX5_beginsFactor_18 rfl ?_
        refine jo_bipush (pc := 19) dX5_beginsFactor_19 (ic_b_40) ?_
        refine jo_icmp_eq (pc := 21) dX5_beginsFactor_21 (tgt := 30) rfl ?_ ?_
        · refine jo_lv (lv' := []) [] rfl ?_
          exact jo_leaf (by rfl) (h30_0 ())
        · refine jo_iload_n (pc := 24) 0 rfl dX5_beginsFactor_24 rfl ?_
          refine jo_bipush (pc := 25) dX5_beginsFactor_25 (ic_b_91) ?_
          refine jo_icmp_ne (pc := 27) dX5_beginsFactor_27 (tgt := 34) rfl ?_ ?_
          · refine jo_iconst (pc := 34) dX5_beginsFactor_34 (ic_i_0) ?_
            exact jo_breturn (pc := 35) (b := false) rfl rfl dX5_beginsFactor_35
          · refine jo_lv (lv' := []) [] rfl ?_
            exact jo_leaf (by rfl) (h30_0 ())
    · refine jo_icmp_lt (pc := 3) dX5_beginsFactor_3 (tgt := 12) rfl ?_ ?_
      · exact jo_leaf (by rfl) (h12_0 ())
      · refine jo_iload_n (pc := 6) 0 rfl dX5_beginsFactor_6 rfl ?_
        refine jo_bipush (pc := 7) dX5_beginsFactor_7 (ic_b_102) ?_
        refine jo_icmp_le (pc := 9) dX5_beginsFactor_9 (tgt := 30) rfl ?_ ?_
        · refine jo_lv (lv' := []) [] rfl ?_
          exact jo_leaf (by rfl) (h30_0 ())
        · exact jo_leaf (by rfl) (h12_0 ())
theorem c_X5_beginsFactor {w : Wd} (hw : WOK w) {σ : Mem} {x0 : Int32} : ∀ r, f_X5_beginsFactor σ x0 = some r → MC w mu_X5_beginsFactor (vB r) [.int x0] σ σ := mc_ofP ok_X5_beginsFactor rfl (Nat.le_of_ble_eq_true rfl) (t_X5_beginsFactor hw)
abbrev mu_X5_isDigit : MD := (yX5_isDigit, cX5_isDigit, 1, some .boolean, 0)
theorem ok_X5_isDigit : MOK mu_X5_isDigit 1 := ⟨gw_1030, gw_168, (by decide +kernel : plainFor yX5_isDigit = true), ⟨(by decide +kernel : yX5_isDigit.cls ≠ "java/lang/invoke/MethodHandle"), (by decide +kernel : yX5_isDigit.cls ≠ "java/lang/invoke/VarHandle"), (by decide +kernel : (parseMethodDescriptor yX5_isDigit.desc).map (fun d => d.parameters.length) = some 1)⟩, Nat.le_of_ble_eq_true rfl⟩
noncomputable def j_X5_isDigit_16  : Option Bool :=
  some false
noncomputable def f_X5_isDigit (σ : Mem) (x0 : Int32) : Option Bool :=
  (if x0 < 48 then (some (Sum.inl ())) else (if 57 < x0 then (some (Sum.inl ())) else (some (Sum.inr true))) : Option (Unit ⊕ Bool)).bind (Sum.elim (fun (z0 : Unit) => j_X5_isDigit_16) some)
theorem t_X5_isDigit {w : Wd} (hw : WOK w) {σ : Mem} {x0 : Int32} : JO w mu_X5_isDigit vB σ [(0, .int x0)] [] 0 (f_X5_isDigit σ x0) (fun z => some (z, σ)) := by
  unfold f_X5_isDigit
  refine jo_iload_n (pc := 0) 0 rfl dX5_isDigit_0 rfl ?_
  refine jo_bipush (pc := 1) dX5_isDigit_1 (ic_b_48) ?_
  refine jo_joinS (S := Unit) (fun (z0 : Unit) => σ) (fun (z0 : Unit) => []) (fun (z0 : Unit) => []) 16 ?_ (fun h16_0 => ?_)
  · intro _
    show JO w mu_X5_isDigit vB σ [] [] 16 (j_X5_isDigit_16) _
    unfold j_X5_isDigit_16
    refine jo_iconst (pc := 16) dX5_isDigit_16 (ic_i_0) ?_
    exact jo_breturn (pc := 17) (b := false) rfl rfl dX5_isDigit_17
  · refine jo_icmp_lt (pc := 3) dX5_isDigit_3 (tgt := 16) rfl ?_ ?_
    · refine jo_lv (lv' := []) [] rfl ?_
      exact jo_leaf (by rfl) (h16_0 ())
    · refine jo_iload_n (pc := 6) 0 rfl dX5_isDigit_6 rfl ?_
      refine jo_bipush (pc := 7) dX5_isDigit_7 (ic_b_57) ?_
      refine jo_icmp_gt (pc := 9) dX5_isDigit_9 (tgt := 16) rfl ?_ ?_
      · refine jo_lv (lv' := []) [] rfl ?_
        exact jo_leaf (by rfl) (h16_0 ())
      · refine jo_iconst (pc := 12) dX5_isDigit_12 (ic_i_1) ?_
        refine jo_goto (pc := 13) dX5_isDigit_13 (tgt := 17) rfl ?_
        exact jo_breturn (pc := 17) (b := true) rfl rfl dX5_isDigit_17
theorem c_X5_isDigit {w : Wd} (hw : WOK w) {σ : Mem} {x0 : Int32} : ∀ r, f_X5_isDigit σ x0 = some r → MC w mu_X5_isDigit (vB r) [.int x0] σ σ := mc_ofP ok_X5_isDigit rfl (Nat.le_of_ble_eq_true rfl) (t_X5_isDigit hw)
abbrev mu_X5_fail : MD := (yX5_fail, cX5_fail, 3, some .boolean, 0)
theorem ok_X5_fail : MOK mu_X5_fail 2 := ⟨gw_999, gw_168, (by decide +kernel : plainFor yX5_fail = true), ⟨(by decide +kernel : yX5_fail.cls ≠ "java/lang/invoke/MethodHandle"), (by decide +kernel : yX5_fail.cls ≠ "java/lang/invoke/VarHandle"), (by decide +kernel : (parseMethodDescriptor yX5_fail.desc).map (fun d => d.parameters.length) = some 2)⟩, Nat.le_of_ble_eq_true rfl⟩
noncomputable def f_X5_fail (σ : Mem) (x0 : Int32) (x1 : Int32) : Option (Bool × Mem) :=
  pF σ 144 0 x0 (fun (σ1 : Mem) => pF σ1 144 1 x1 (fun (σ2 : Mem) => some (false, σ2)))
theorem t_X5_fail {w : Wd} (hw : WOK w) {σ : Mem} {x0 : Int32} {x1 : Int32} : JO w mu_X5_fail vB σ [(0, .ref (adr w 144)), (1, .int x0), (2, .int x1)] [] 0 (f_X5_fail σ x0 x1) some := by
  unfold f_X5_fail
  refine jo_aload_n (pc := 0) 0 rfl dX5_fail_0 rfl ?_
  refine jo_iload_n (pc := 1) 1 rfl dX5_fail_1 rfl ?_
  refine jo_putf (pc := 2) ok_5_0 okp_5_0 (ik_144 hw) gw_471 dX5_fail_2 (fun σ1 => ?_)
  refine jo_aload_n (pc := 5) 0 rfl dX5_fail_5 rfl ?_
  refine jo_iload_n (pc := 6) 2 rfl dX5_fail_6 rfl ?_
  refine jo_putf (pc := 7) ok_5_1 okp_5_1 (ik_144 hw) gw_473 dX5_fail_7 (fun σ2 => ?_)
  refine jo_iconst (pc := 10) dX5_fail_10 (ic_i_0) ?_
  exact jo_breturn (pc := 11) (b := false) rfl rfl dX5_fail_11
theorem c_X5_fail {w : Wd} (hw : WOK w) {σ : Mem} {x0 : Int32} {x1 : Int32} : ∀ r σ', f_X5_fail σ x0 x1 = some (r, σ') → MC w mu_X5_fail (vB r) [.ref (adr w 144), .int x0, .int x1] σ σ' := mc_of ok_X5_fail rfl (Nat.le_of_ble_eq_true rfl) (t_X5_fail hw)
abbrev mu_X5_readPower : MD := (yX5_readPower, cX5_readPower, 6, some .boolean, 4)
theorem ok_X5_readPower : MOK mu_X5_readPower 1 := ⟨gw_1027, gw_168, (by decide +kernel : plainFor yX5_readPower = true), ⟨(by decide +kernel : yX5_readPower.cls ≠ "java/lang/invoke/MethodHandle"), (by decide +kernel : yX5_readPower.cls ≠ "java/lang/invoke/VarHandle"), (by decide +kernel : (parseMethodDescriptor yX5_readPower.desc).map (fun d => d.parameters.length) = some 1)⟩, Nat.le_of_ble_eq_true rfl⟩
noncomputable def j_X5_readPower_202 (σ20 : Mem) : Option (Bool × Mem) :=
  some (true, σ20)
noncomputable def j_X5_readPower_169 (x0 : Nat) (σ13 : Mem) (l15 : Int64) : Option (Bool × Mem) :=
  (f_X0_raise σ13 x0 x0 l15).bind (fun (σ16 : Mem) => gF σ16 144 9 (fun (v17 : Int32) => pF σ16 144 10 v17 (fun (σ18 : Mem) => (f_X0_isWithin σ18 x0 999).bind (fun (b19 : Bool) => (if b19 then some (Sum.inl σ18) else gF σ18 144 9 (fun (v21 : Int32) => bq (f_X5_fail σ18 5 v21) (fun (b22 : Bool) (σ23 : Mem) => if b22 then some (Sum.inl σ23) else some (Sum.inr (false, σ23)))) : Option (Mem ⊕ (Bool × Mem))).bind (Sum.elim (fun (z20 : Mem) => j_X5_readPower_202 z20) some)))))
noncomputable def j_X5_readPower_135 (x0 : Nat) (b7 : Bool) (v12 : Int32) (σ13 : Mem) (i14 : Int32) : Option (Bool × Mem) :=
  if i14 ≤ 99 then ((if b7 then some (Int32.toInt64 (-i14)) else some (Int32.toInt64 i14) : Option Int64).bind (fun (z15 : Int64) => j_X5_readPower_169 x0 σ13 z15)) else (bq (f_X5_fail σ13 2 v12) (fun (b24 : Bool) (σ25 : Mem) => some (b24, σ25)))
noncomputable def l_X5_readPower_81 (σ26 : Mem) (i27 : Int32) (i28 : Int32) : Option ((Mem × Int32 × Int32) ⊕ (Mem × Int32)) :=
  if 200 ≤ i28 then (some (Sum.inr (σ26, i27))) else ((f_X5_signHere σ26).bind (fun (v29 : Int32) => (f_X5_isDigit σ26 v29).bind (fun (b30 : Bool) => if b30 then (f_X5_signHere σ26).bind (fun (v31 : Int32) => (f_J9_min_7cf53 σ26 (((i27 * 10) + v31) - 48) 100).bind (fun (v32 : Int32) => gF σ26 144 9 (fun (v33 : Int32) => pF σ26 144 9 (v33 + 1) (fun (σ34 : Mem) => some (Sum.inl (σ34, v32, i28 + 1)))))) else some (Sum.inr (σ26, i27)))))
noncomputable def j_X5_readPower_50 (x0 : Nat) (b7 : Bool) (σ8 : Mem) : Option (Bool × Mem) :=
  bq (f_X5_skipBlanks σ8) (fun (v9 : Int32) (σ10 : Mem) => (f_X5_isDigit σ10 v9).bind (fun (b11 : Bool) => if b11 then gF σ10 144 9 (fun (v12 : Int32) => (loopO (fun (z28 : (Mem × Int32 × Int32)) => l_X5_readPower_81 z28.1 z28.2.1 z28.2.2) (σ10, 0, 0) : Option (Mem × Int32)).bind (fun (z14 : (Mem × Int32)) => j_X5_readPower_135 x0 b7 v12 z14.1 z14.2)) else gF σ10 144 9 (fun (v35 : Int32) => bq (f_X5_fail σ10 1 v35) (fun (b36 : Bool) (σ37 : Mem) => some (b36, σ37)))))
noncomputable def j_X5_readPower_35 (x0 : Nat) (σ6 : Mem) (b7 : Bool) : Option (Bool × Mem) :=
  (if b7 then gF σ6 144 9 (fun (v38 : Int32) => pF σ6 144 9 (v38 + 1) (fun (σ39 : Mem) => some σ39)) else some σ6 : Option Mem).bind (fun (z8 : Mem) => j_X5_readPower_50 x0 b7 z8)
noncomputable def f_X5_readPower (σ : Mem) (x0 : Nat) : Option (Bool × Mem) :=
  bq (f_X5_skipBlanks σ) (fun (v1 : Int32) (σ2 : Mem) => if v1 = 94 then (gF σ2 144 9 (fun (v3 : Int32) => pF σ2 144 9 (v3 + 1) (fun (σ4 : Mem) => bq (f_X5_skipBlanks σ4) (fun (v5 : Int32) (σ6 : Mem) => (if v5 = 45 then (some true) else (some false) : Option Bool).bind (fun (z7 : Bool) => j_X5_readPower_35 x0 σ6 z7))))) else (some (true, σ2)))
theorem t_X5_readPower {w : Wd} (hw : WOK w) {σ : Mem} {x0 : Nat} (hx0 : isk w x0 13) : JO w mu_X5_readPower vB σ [(0, .ref (adr w 144)), (1, .ref (adr w x0))] [] 0 (f_X5_readPower σ x0) some := by
  unfold f_X5_readPower
  refine jo_aload_n (pc := 0) 0 rfl dX5_readPower_0 rfl ?_
  refine jo_cV_I_i (pc := 1) (μ' := mu_X5_skipBlanks) (fx := f_X5_skipBlanks σ) (As := []) (c_X5_skipBlanks hw) (ok_X5_skipBlanks) (ltb rfl) (all3 gw_976 gw_978 gw_26) (ik_144 hw) (by decide) (q := (RX5, TX5, 11)) rfl rfl rfl rfl (Nat.le_of_ble_eq_true rfl) dX5_readPower_1 (fun v1 σ2 => ?_)
  refine jo_bipush (pc := 4) dX5_readPower_4 (ic_b_94) ?_
  refine jo_icmp_eq (pc := 6) dX5_readPower_6 (tgt := 11) rfl ?_ ?_
  · refine jo_aload_n (pc := 11) 0 rfl dX5_readPower_11 rfl ?_
    refine jo_dup (pc := 12) dX5_readPower_12 rfl ?_
    refine jo_getf (pc := 13) ok_5_9 (ik_144 hw) gw_483 dX5_readPower_13 (fun v3 => ?_)
    refine jo_iconst (pc := 16) dX5_readPower_16 (ic_i_1) ?_
    refine jo_iadd (pc := 17) dX5_readPower_17 ?_
    refine jo_putf (pc := 18) ok_5_9 okp_5_9 (ik_144 hw) gw_483 dX5_readPower_18 (fun σ4 => ?_)
    refine jo_aload_n (pc := 21) 0 rfl dX5_readPower_21 rfl ?_
    refine jo_cV_I_i (pc := 22) (μ' := mu_X5_skipBlanks) (fx := f_X5_skipBlanks σ4) (As := []) (c_X5_skipBlanks hw) (ok_X5_skipBlanks) (ltb rfl) (all3 gw_976 gw_978 gw_26) (ik_144 hw) (by decide) (q := (RX5, TX5, 11)) rfl rfl rfl rfl (Nat.le_of_ble_eq_true rfl) dX5_readPower_22 (fun v5 σ6 => ?_)
    refine jo_bipush (pc := 25) dX5_readPower_25 (ic_b_45) ?_
    refine jo_join1 (S := Bool) (fun (z7 : Bool) => σ6) (fun (z7 : Bool) => [(0, .ref (adr w 144)), (1, .ref (adr w x0))]) (fun (z7 : Bool) => [.int (b2i z7)]) 35 ?_ (fun h35_7 => ?_)
    · intro b7
      show JO w mu_X5_readPower vB σ6 [(0, .ref (adr w 144)), (1, .ref (adr w x0))] [.int (b2i b7)] 35 (j_X5_readPower_35 x0 σ6 b7) _
      unfold j_X5_readPower_35
      refine jo_istore_n (pc := 35) (lv' := [(2, .int (b2i b7)), (0, .ref (adr w 144)), (1, .ref (adr w x0))]) dX5_readPower_35 rfl (ltb rfl) rfl ?_
      refine jo_iload_n (pc := 36) 0 rfl dX5_readPower_36 rfl ?_
      refine jo_join1 (S := Mem) (fun (z8 : Mem) => z8) (fun (z8 : Mem) => [(2, .int (b2i b7)), (0, .ref (adr w 144)), (1, .ref (adr w x0))]) (fun (z8 : Mem) => []) 50 ?_ (fun h50_8 => ?_)
      · intro σ8
        show JO w mu_X5_readPower vB σ8 [(2, .int (b2i b7)), (0, .ref (adr w 144)), (1, .ref (adr w x0))] [] 50 (j_X5_readPower_50 x0 b7 σ8) _
        unfold j_X5_readPower_50
        refine jo_aload_n (pc := 50) 1 rfl dX5_readPower_50 rfl ?_
        refine jo_cV_I_i (pc := 51) (μ' := mu_X5_skipBlanks) (fx := f_X5_skipBlanks σ8) (As := []) (c_X5_skipBlanks hw) (ok_X5_skipBlanks) (ltb rfl) (all3 gw_976 gw_978 gw_26) (ik_144 hw) (by decide) (q := (RX5, TX5, 11)) rfl rfl rfl rfl (Nat.le_of_ble_eq_true rfl) dX5_readPower_51 (fun v9 σ10 => ?_)
        refine jo_cS_Z_p (pc := 54) (μ' := mu_X5_isDigit) (fx := f_X5_isDigit σ10 v9) (As := [.int v9]) (c_X5_isDigit hw) (ok_X5_isDigit) (ltb rfl) (all2 gw_1028 gw_1029) rfl rfl (Nat.le_of_ble_eq_true rfl) dX5_readPower_54 (fun b11 => ?_)
        refine jo_ifz_ne (pc := 57) dX5_readPower_57 (tgt := 70) rfl ?_ ?_
        · refine jo_aload_n (pc := 70) 1 rfl dX5_readPower_70 rfl ?_
          refine jo_getf (pc := 71) ok_5_9 (ik_144 hw) gw_483 dX5_readPower_71 (fun v12 => ?_)
          refine jo_istore_n (pc := 74) (lv' := [(3, .int v12), (2, .int (b2i b7)), (0, .ref (adr w 144)), (1, .ref (adr w x0))]) dX5_readPower_74 rfl (ltb rfl) rfl ?_
          refine jo_iconst (pc := 75) dX5_readPower_75 (ic_i_0) ?_
          refine jo_istore (pc := 76) (lv' := [(4, .int 0), (3, .int v12), (2, .int (b2i b7)), (0, .ref (adr w 144)), (1, .ref (adr w x0))]) dX5_readPower_76 (ltb rfl) rfl ?_
          refine jo_iconst (pc := 78) dX5_readPower_78 (ic_i_0) ?_
          refine jo_istore (pc := 79) (lv' := [(5, .int 0), (4, .int 0), (3, .int v12), (2, .int (b2i b7)), (0, .ref (adr w 144)), (1, .ref (adr w x0))]) dX5_readPower_79 (ltb rfl) rfl ?_
          refine jo_join1 (S := (Mem × Int32)) (fun (z14 : (Mem × Int32)) => z14.1) (fun (z14 : (Mem × Int32)) => [(3, .int v12), (2, .int (b2i b7)), (0, .ref (adr w 144)), (1, .ref (adr w x0)), (4, .int z14.2)]) (fun (z14 : (Mem × Int32)) => []) 135 ?_ (fun h135_14 => ?_)
          · intro s
            obtain ⟨σ13, i14⟩ := s
            show JO w mu_X5_readPower vB σ13 [(3, .int v12), (2, .int (b2i b7)), (0, .ref (adr w 144)), (1, .ref (adr w x0)), (4, .int i14)] [] 135 (j_X5_readPower_135 x0 b7 v12 σ13 i14) _
            unfold j_X5_readPower_135
            refine jo_iload (pc := 135) 4 rfl dX5_readPower_135 ?_
            refine jo_bipush (pc := 137) dX5_readPower_137 (ic_b_99) ?_
            refine jo_icmp_le (pc := 139) dX5_readPower_139 (tgt := 149) rfl ?_ ?_
            · refine jo_aload_n (pc := 149) 2 rfl dX5_readPower_149 rfl ?_
              refine jo_getrE (pc := 150) ok_5_6 (ik_144 hw) rf_144_6 gw_480 dX5_readPower_150 ?_
              refine jo_aload_n (pc := 153) 3 rfl dX5_readPower_153 rfl ?_
              refine jo_aload_n (pc := 154) 3 rfl dX5_readPower_154 rfl ?_
              refine jo_iload_n (pc := 155) 1 rfl dX5_readPower_155 rfl ?_
              refine jo_join1 (S := Int64) (fun (z15 : Int64) => σ13) (fun (z15 : Int64) => [(0, .ref (adr w 144)), (1, .ref (adr w x0))]) (fun (z15 : Int64) => [.long z15, .ref (adr w x0), .ref (adr w x0), .ref (adr w 72)]) 169 ?_ (fun h169_15 => ?_)
              · intro l15
                show JO w mu_X5_readPower vB σ13 [(0, .ref (adr w 144)), (1, .ref (adr w x0))] [.long l15, .ref (adr w x0), .ref (adr w x0), .ref (adr w 72)] 169 (j_X5_readPower_169 x0 σ13 l15) _
                unfold j_X5_readPower_169
                refine jo_cV_V_i (pc := 169) (μ' := mu_X0_raise) (fx := f_X0_raise σ13 x0 x0 l15) (As := [.ref (adr w x0), .ref (adr w x0), .long l15]) (c_X0_raise hw (hx0) (hx0)) (ok_X0_raise) (ltb rfl) (all3 gw_1031 gw_846 gw_847) (ik_72 hw) (by decide) (q := (RX0, TX0, 8)) rfl rfl rfl rfl (Nat.le_of_ble_eq_true rfl) dX5_readPower_169 (fun σ16 => ?_)
                refine jo_aload_n (pc := 172) 0 rfl dX5_readPower_172 rfl ?_
                refine jo_aload_n (pc := 173) 0 rfl dX5_readPower_173 rfl ?_
                refine jo_getf (pc := 174) ok_5_9 (ik_144 hw) gw_483 dX5_readPower_174 (fun v17 => ?_)
                refine jo_putf (pc := 177) ok_5_10 okp_5_10 (ik_144 hw) gw_484 dX5_readPower_177 (fun σ18 => ?_)
                refine jo_aload_n (pc := 180) 1 rfl dX5_readPower_180 rfl ?_
                refine jo_ldc2 (pc := 181) dX5_readPower_181 gw_1022 ?_
                refine jo_cS_Z_p (pc := 184) (μ' := mu_X0_isWithin) (fx := f_X0_isWithin σ18 x0 999) (As := [.ref (adr w x0), .long 999]) (c_X0_isWithin hw (hx0)) (ok_X0_isWithin) (ltb rfl) (all2 gw_1023 gw_826) rfl rfl (Nat.le_of_ble_eq_true rfl) dX5_readPower_184 (fun b19 => ?_)
                refine jo_joinS (S := Mem) (fun (z20 : Mem) => z20) (fun (z20 : Mem) => []) (fun (z20 : Mem) => []) 202 ?_ (fun h202_20 => ?_)
                · intro σ20
                  show JO w mu_X5_readPower vB σ20 [] [] 202 (j_X5_readPower_202 σ20) _
                  unfold j_X5_readPower_202
                  refine jo_iconst (pc := 202) dX5_readPower_202 (ic_i_1) ?_
                  refine jo_goto (pc := 203) dX5_readPower_203 (tgt := 207) rfl ?_
                  exact jo_breturn (pc := 207) (b := true) rfl rfl dX5_readPower_207
                · refine jo_ifz_ne (pc := 187) dX5_readPower_187 (tgt := 202) rfl ?_ ?_
                  · refine jo_lv (lv' := []) [] rfl ?_
                    exact jo_leaf (by rfl) (h202_20 σ18)
                  · refine jo_aload_n (pc := 190) 0 rfl dX5_readPower_190 rfl ?_
                    refine jo_iconst (pc := 191) dX5_readPower_191 (ic_i_5) ?_
                    refine jo_aload_n (pc := 192) 0 rfl dX5_readPower_192 rfl ?_
                    refine jo_getf (pc := 193) ok_5_9 (ik_144 hw) gw_483 dX5_readPower_193 (fun v21 => ?_)
                    refine jo_cV_Z_i (pc := 196) (μ' := mu_X5_fail) (fx := f_X5_fail σ18 5 v21) (As := [.int 5, .int v21]) (c_X5_fail hw) (ok_X5_fail) (ltb rfl) (all3 gw_996 gw_998 gw_30) (ik_144 hw) (by decide) (q := (RX5, TX5, 11)) rfl rfl rfl rfl (Nat.le_of_ble_eq_true rfl) dX5_readPower_196 (fun b22 σ23 => ?_)
                    refine jo_ifz_eq (pc := 199) dX5_readPower_199 (tgt := 206) rfl ?_ ?_
                    · refine jo_iconst (pc := 206) dX5_readPower_206 (ic_i_0) ?_
                      exact jo_breturn (pc := 207) (b := false) rfl rfl dX5_readPower_207
                    · refine jo_lv (lv' := []) [] rfl ?_
                      exact jo_leaf (by rfl) (h202_20 σ23)
              · refine jo_ifz_eq (pc := 156) dX5_readPower_156 (tgt := 166) rfl ?_ ?_
                · refine jo_iload (pc := 166) 4 rfl dX5_readPower_166 ?_
                  refine jo_i2l (pc := 168) dX5_readPower_168 ?_
                  refine jo_lv (lv' := [(0, .ref (adr w 144)), (1, .ref (adr w x0))]) [2, 3] rfl ?_
                  exact jo_leaf (by rfl) (h169_15 (Int32.toInt64 i14))
                · refine jo_iload (pc := 159) 4 rfl dX5_readPower_159 ?_
                  refine jo_ineg (pc := 161) dX5_readPower_161 ?_
                  refine jo_i2l (pc := 162) dX5_readPower_162 ?_
                  refine jo_goto (pc := 163) dX5_readPower_163 (tgt := 169) rfl ?_
                  refine jo_lv (lv' := [(0, .ref (adr w 144)), (1, .ref (adr w x0))]) [2, 3] rfl ?_
                  exact jo_leaf (by rfl) (h169_15 (Int32.toInt64 (-i14)))
            · refine jo_aload_n (pc := 142) 2 rfl dX5_readPower_142 rfl ?_
              refine jo_iconst (pc := 143) dX5_readPower_143 (ic_i_2) ?_
              refine jo_iload_n (pc := 144) 0 rfl dX5_readPower_144 rfl ?_
              refine jo_cV_Z_i (pc := 145) (μ' := mu_X5_fail) (fx := f_X5_fail σ13 2 v12) (As := [.int 2, .int v12]) (c_X5_fail hw) (ok_X5_fail) (ltb rfl) (all3 gw_996 gw_998 gw_30) (ik_144 hw) (by decide) (q := (RX5, TX5, 11)) rfl rfl rfl rfl (Nat.le_of_ble_eq_true rfl) dX5_readPower_145 (fun b24 σ25 => ?_)
              exact jo_breturn (pc := 148) (b := b24) rfl rfl dX5_readPower_148
          · refine jo_lv (lv' := [(3, .int v12), (2, .int (b2i b7)), (0, .ref (adr w 144)), (1, .ref (adr w x0)), (4, .int 0), (5, .int 0)]) [2, 3, 4, 5, 1, 0] rfl ?_
            refine jo_loop (X := (Mem × Int32)) (fun (z28 : (Mem × Int32 × Int32)) => z28.1) (fun (z28 : (Mem × Int32 × Int32)) => [(3, .int v12), (2, .int (b2i b7)), (0, .ref (adr w 144)), (1, .ref (adr w x0)), (4, .int z28.2.1), (5, .int z28.2.2)]) (body := (fun (z28 : (Mem × Int32 × Int32)) => l_X5_readPower_81 z28.1 z28.2.1 z28.2.2)) (fun F81_28 hF81_28 s => ?_) (σ10, 0, 0)
            obtain ⟨σ26, i27, i28⟩ := s
            show JO w mu_X5_readPower vB σ26 [(3, .int v12), (2, .int (b2i b7)), (0, .ref (adr w 144)), (1, .ref (adr w x0)), (4, .int i27), (5, .int i28)] [] 81 (l_X5_readPower_81 σ26 i27 i28) _
            unfold l_X5_readPower_81
            refine jo_iload (pc := 81) 5 rfl dX5_readPower_81 ?_
            refine jo_sipush (pc := 83) dX5_readPower_83 (ic_s_200) ?_
            refine jo_icmp_ge (pc := 86) dX5_readPower_86 (tgt := 135) rfl ?_ ?_
            · refine jo_lv (lv' := [(3, .int v12), (2, .int (b2i b7)), (0, .ref (adr w 144)), (1, .ref (adr w x0)), (4, .int i27)]) [0, 1, 2, 3, 4] rfl ?_
              exact jo_leaf (by rfl) (h135_14 (σ26, i27))
            · refine jo_aload_n (pc := 89) 2 rfl dX5_readPower_89 rfl ?_
              refine jo_cV_I_p (pc := 90) (μ' := mu_X5_signHere) (fx := f_X5_signHere σ26) (As := []) (c_X5_signHere hw) (ok_X5_signHere) (ltb rfl) (all3 gw_980 gw_982 gw_27) (ik_144 hw) (by decide) (q := (RX5, TX5, 11)) rfl rfl rfl rfl (Nat.le_of_ble_eq_true rfl) dX5_readPower_90 (fun v29 => ?_)
              refine jo_cS_Z_p (pc := 93) (μ' := mu_X5_isDigit) (fx := f_X5_isDigit σ26 v29) (As := [.int v29]) (c_X5_isDigit hw) (ok_X5_isDigit) (ltb rfl) (all2 gw_1028 gw_1029) rfl rfl (Nat.le_of_ble_eq_true rfl) dX5_readPower_93 (fun b30 => ?_)
              refine jo_ifz_eq (pc := 96) dX5_readPower_96 (tgt := 135) rfl ?_ ?_
              · refine jo_lv (lv' := [(3, .int v12), (2, .int (b2i b7)), (0, .ref (adr w 144)), (1, .ref (adr w x0)), (4, .int i27)]) [0, 1, 2, 3, 4] rfl ?_
                exact jo_leaf (by rfl) (h135_14 (σ26, i27))
              · refine jo_iload (pc := 99) 4 rfl dX5_readPower_99 ?_
                refine jo_bipush (pc := 101) dX5_readPower_101 (ic_b_10) ?_
                refine jo_imul (pc := 103) dX5_readPower_103 ?_
                refine jo_aload_n (pc := 104) 2 rfl dX5_readPower_104 rfl ?_
                refine jo_cV_I_p (pc := 105) (μ' := mu_X5_signHere) (fx := f_X5_signHere σ26) (As := []) (c_X5_signHere hw) (ok_X5_signHere) (ltb rfl) (all3 gw_980 gw_982 gw_27) (ik_144 hw) (by decide) (q := (RX5, TX5, 11)) rfl rfl rfl rfl (Nat.le_of_ble_eq_true rfl) dX5_readPower_105 (fun v31 => ?_)
                refine jo_iadd (pc := 108) dX5_readPower_108 ?_
                refine jo_bipush (pc := 109) dX5_readPower_109 (ic_b_48) ?_
                refine jo_isub (pc := 111) dX5_readPower_111 ?_
                refine jo_bipush (pc := 112) dX5_readPower_112 (ic_b_100) ?_
                refine jo_cS_I_p (pc := 114) (μ' := mu_J9_min_7cf53) (fx := f_J9_min_7cf53 σ26 (((i27 * 10) + v31) - 48) 100) (As := [.int (((i27 * 10) + v31) - 48), .int 100]) (c_J9_min_7cf53 hw) (ok_J9_min_7cf53) (ltb rfl) (all2 gw_968 gw_708) rfl rfl (Nat.le_of_ble_eq_true rfl) dX5_readPower_114 (fun v32 => ?_)
                refine jo_istore (pc := 117) (lv' := [(4, .int v32), (3, .int v12), (2, .int (b2i b7)), (0, .ref (adr w 144)), (1, .ref (adr w x0)), (5, .int i28)]) dX5_readPower_117 (ltb rfl) rfl ?_
                refine jo_aload_n (pc := 119) 3 rfl dX5_readPower_119 rfl ?_
                refine jo_dup (pc := 120) dX5_readPower_120 rfl ?_
                refine jo_getf (pc := 121) ok_5_9 (ik_144 hw) gw_483 dX5_readPower_121 (fun v33 => ?_)
                refine jo_iconst (pc := 124) dX5_readPower_124 (ic_i_1) ?_
                refine jo_iadd (pc := 125) dX5_readPower_125 ?_
                refine jo_putf (pc := 126) ok_5_9 okp_5_9 (ik_144 hw) gw_483 dX5_readPower_126 (fun σ34 => ?_)
                refine jo_iinc (pc := 129) (lv' := [(5, .int (i28 + 1)), (4, .int v32), (3, .int v12), (2, .int (b2i b7)), (0, .ref (adr w 144)), (1, .ref (adr w x0))]) 5 rfl dX5_readPower_129 (congrArg (fun z => i28 + z) (ic_i_1)) (ltb rfl) rfl ?_
                refine jo_goto (pc := 132) dX5_readPower_132 (tgt := 81) rfl ?_
                refine jo_lv (lv' := [(3, .int v12), (2, .int (b2i b7)), (0, .ref (adr w 144)), (1, .ref (adr w x0)), (4, .int v32), (5, .int (i28 + 1))]) [2, 3, 4, 5, 1, 0] rfl ?_
                exact jo_leaf (by rfl) (hF81_28 (σ34, v32, i28 + 1))
        · refine jo_aload_n (pc := 60) 1 rfl dX5_readPower_60 rfl ?_
          refine jo_iconst (pc := 61) dX5_readPower_61 (ic_i_1) ?_
          refine jo_aload_n (pc := 62) 1 rfl dX5_readPower_62 rfl ?_
          refine jo_getf (pc := 63) ok_5_9 (ik_144 hw) gw_483 dX5_readPower_63 (fun v35 => ?_)
          refine jo_cV_Z_i (pc := 66) (μ' := mu_X5_fail) (fx := f_X5_fail σ10 1 v35) (As := [.int 1, .int v35]) (c_X5_fail hw) (ok_X5_fail) (ltb rfl) (all3 gw_996 gw_998 gw_30) (ik_144 hw) (by decide) (q := (RX5, TX5, 11)) rfl rfl rfl rfl (Nat.le_of_ble_eq_true rfl) dX5_readPower_66 (fun b36 σ37 => ?_)
          exact jo_breturn (pc := 69) (b := b36) rfl rfl dX5_readPower_69
      · refine jo_ifz_eq (pc := 37) dX5_readPower_37 (tgt := 50) rfl ?_ ?_
        · exact jo_leaf (by rfl) (h50_8 σ6)
        · refine jo_aload_n (pc := 40) 1 rfl dX5_readPower_40 rfl ?_
          refine jo_dup (pc := 41) dX5_readPower_41 rfl ?_
          refine jo_getf (pc := 42) ok_5_9 (ik_144 hw) gw_483 dX5_readPower_42 (fun v38 => ?_)
          refine jo_iconst (pc := 45) dX5_readPower_45 (ic_i_1) ?_
          refine jo_iadd (pc := 46) dX5_readPower_46 ?_
          refine jo_putf (pc := 47) ok_5_9 okp_5_9 (ik_144 hw) gw_483 dX5_readPower_47 (fun σ39 => ?_)
          exact jo_leaf (by rfl) (h50_8 σ39)
    · refine jo_icmp_ne (pc := 27) dX5_readPower_27 (tgt := 34) rfl ?_ ?_
      · refine jo_iconst (pc := 34) dX5_readPower_34 (ic_i_0) ?_
        exact jo_leaf (by rfl) (h35_7 false)
      · refine jo_iconst (pc := 30) dX5_readPower_30 (ic_i_1) ?_
        refine jo_goto (pc := 31) dX5_readPower_31 (tgt := 35) rfl ?_
        exact jo_leaf (by rfl) (h35_7 true)
  · refine jo_iconst (pc := 9) dX5_readPower_9 (ic_i_1) ?_
    exact jo_breturn (pc := 10) (b := true) rfl rfl dX5_readPower_10
theorem c_X5_readPower {w : Wd} (hw : WOK w) {σ : Mem} {x0 : Nat} (hx0 : isk w x0 13) : ∀ r σ', f_X5_readPower σ x0 = some (r, σ') → MC w mu_X5_readPower (vB r) [.ref (adr w 144), .ref (adr w x0)] σ σ' := mc_of ok_X5_readPower rfl (Nat.le_of_ble_eq_true rfl) (t_X5_readPower hw hx0)
abbrev mu_X10_isRegister : MD := (yX10_isRegister, cX10_isRegister, 1, some .boolean, 0)
theorem ok_X10_isRegister : MOK mu_X10_isRegister 1 := ⟨gw_805, gw_158, (by decide +kernel : plainFor yX10_isRegister = true), ⟨(by decide +kernel : yX10_isRegister.cls ≠ "java/lang/invoke/MethodHandle"), (by decide +kernel : yX10_isRegister.cls ≠ "java/lang/invoke/VarHandle"), (by decide +kernel : (parseMethodDescriptor yX10_isRegister.desc).map (fun d => d.parameters.length) = some 1)⟩, Nat.le_of_ble_eq_true rfl⟩
noncomputable def j_X10_isRegister_14  : Option Bool :=
  some false
noncomputable def f_X10_isRegister (σ : Mem) (x0 : Int32) : Option Bool :=
  (if x0 < 0 then (some (Sum.inl ())) else (if 10 ≤ x0 then (some (Sum.inl ())) else (some (Sum.inr true))) : Option (Unit ⊕ Bool)).bind (Sum.elim (fun (z0 : Unit) => j_X10_isRegister_14) some)
theorem t_X10_isRegister {w : Wd} (hw : WOK w) {σ : Mem} {x0 : Int32} : JO w mu_X10_isRegister vB σ [(0, .int x0)] [] 0 (f_X10_isRegister σ x0) (fun z => some (z, σ)) := by
  unfold f_X10_isRegister
  refine jo_iload_n (pc := 0) 0 rfl dX10_isRegister_0 rfl ?_
  refine jo_joinS (S := Unit) (fun (z0 : Unit) => σ) (fun (z0 : Unit) => []) (fun (z0 : Unit) => []) 14 ?_ (fun h14_0 => ?_)
  · intro _
    show JO w mu_X10_isRegister vB σ [] [] 14 (j_X10_isRegister_14) _
    unfold j_X10_isRegister_14
    refine jo_iconst (pc := 14) dX10_isRegister_14 (ic_i_0) ?_
    exact jo_breturn (pc := 15) (b := false) rfl rfl dX10_isRegister_15
  · refine jo_if_lt (pc := 1) dX10_isRegister_1 (tgt := 14) rfl ?_ ?_
    · refine jo_lv (lv' := []) [] rfl ?_
      exact jo_leaf (by rfl) (h14_0 ())
    · refine jo_iload_n (pc := 4) 0 rfl dX10_isRegister_4 rfl ?_
      refine jo_bipush (pc := 5) dX10_isRegister_5 (ic_b_10) ?_
      refine jo_icmp_ge (pc := 7) dX10_isRegister_7 (tgt := 14) rfl ?_ ?_
      · refine jo_lv (lv' := []) [] rfl ?_
        exact jo_leaf (by rfl) (h14_0 ())
      · refine jo_iconst (pc := 10) dX10_isRegister_10 (ic_i_1) ?_
        refine jo_goto (pc := 11) dX10_isRegister_11 (tgt := 15) rfl ?_
        exact jo_breturn (pc := 15) (b := true) rfl rfl dX10_isRegister_15
theorem c_X10_isRegister {w : Wd} (hw : WOK w) {σ : Mem} {x0 : Int32} : ∀ r, f_X10_isRegister σ x0 = some r → MC w mu_X10_isRegister (vB r) [.int x0] σ σ := mc_ofP ok_X10_isRegister rfl (Nat.le_of_ble_eq_true rfl) (t_X10_isRegister hw)
abbrev mu_X5_passFactor : MD := (yX5_passFactor, cX5_passFactor, 1, some .boolean, 0)
theorem ok_X5_passFactor : MOK mu_X5_passFactor 0 := ⟨gw_1004, gw_168, (by decide +kernel : plainFor yX5_passFactor = true), ⟨(by decide +kernel : yX5_passFactor.cls ≠ "java/lang/invoke/MethodHandle"), (by decide +kernel : yX5_passFactor.cls ≠ "java/lang/invoke/VarHandle"), (by decide +kernel : (parseMethodDescriptor yX5_passFactor.desc).map (fun d => d.parameters.length) = some 0)⟩, Nat.le_of_ble_eq_true rfl⟩
noncomputable def f_X5_passFactor (σ : Mem) : Option (Bool × Mem) :=
  gF σ 144 9 (fun (v1 : Int32) => pF σ 144 9 (v1 + 1) (fun (σ2 : Mem) => gF σ2 144 9 (fun (v3 : Int32) => pF σ2 144 10 v3 (fun (σ4 : Mem) => some (true, σ4)))))
theorem t_X5_passFactor {w : Wd} (hw : WOK w) {σ : Mem} : JO w mu_X5_passFactor vB σ [(0, .ref (adr w 144))] [] 0 (f_X5_passFactor σ) some := by
  unfold f_X5_passFactor
  refine jo_aload_n (pc := 0) 0 rfl dX5_passFactor_0 rfl ?_
  refine jo_dup (pc := 1) dX5_passFactor_1 rfl ?_
  refine jo_getf (pc := 2) ok_5_9 (ik_144 hw) gw_483 dX5_passFactor_2 (fun v1 => ?_)
  refine jo_iconst (pc := 5) dX5_passFactor_5 (ic_i_1) ?_
  refine jo_iadd (pc := 6) dX5_passFactor_6 ?_
  refine jo_putf (pc := 7) ok_5_9 okp_5_9 (ik_144 hw) gw_483 dX5_passFactor_7 (fun σ2 => ?_)
  refine jo_aload_n (pc := 10) 0 rfl dX5_passFactor_10 rfl ?_
  refine jo_aload_n (pc := 11) 0 rfl dX5_passFactor_11 rfl ?_
  refine jo_getf (pc := 12) ok_5_9 (ik_144 hw) gw_483 dX5_passFactor_12 (fun v3 => ?_)
  refine jo_putf (pc := 15) ok_5_10 okp_5_10 (ik_144 hw) gw_484 dX5_passFactor_15 (fun σ4 => ?_)
  refine jo_iconst (pc := 18) dX5_passFactor_18 (ic_i_1) ?_
  exact jo_breturn (pc := 19) (b := true) rfl rfl dX5_passFactor_19
theorem c_X5_passFactor {w : Wd} (hw : WOK w) {σ : Mem} : ∀ r σ', f_X5_passFactor σ = some (r, σ') → MC w mu_X5_passFactor (vB r) [.ref (adr w 144)] σ σ' := mc_of ok_X5_passFactor rfl (Nat.le_of_ble_eq_true rfl) (t_X5_passFactor hw)
abbrev mu_X5_readRegister : MD := (yX5_readRegister, cX5_readRegister, 3, some .boolean, 2)
theorem ok_X5_readRegister : MOK mu_X5_readRegister 1 := ⟨gw_994, gw_168, (by decide +kernel : plainFor yX5_readRegister = true), ⟨(by decide +kernel : yX5_readRegister.cls ≠ "java/lang/invoke/MethodHandle"), (by decide +kernel : yX5_readRegister.cls ≠ "java/lang/invoke/VarHandle"), (by decide +kernel : (parseMethodDescriptor yX5_readRegister.desc).map (fun d => d.parameters.length) = some 1)⟩, Nat.le_of_ble_eq_true rfl⟩
noncomputable def f_X5_readRegister (σ : Mem) (x0 : Nat) : Option (Bool × Mem) :=
  gF σ 144 9 (fun (v1 : Int32) => pF σ 144 9 (v1 + 1) (fun (σ2 : Mem) => (f_X5_signHere σ2).bind (fun (v3 : Int32) => bd (v3 - 48) (fun (v4 : Int32) => (f_X10_isRegister σ2 v4).bind (fun (b5 : Bool) => if b5 then gR 5 v4 (fun (p6 : Nat) => (f_X0_copy σ2 p6 x0).bind (fun (σ7 : Mem) => bq (f_X5_passFactor σ7) (fun (b8 : Bool) (σ9 : Mem) => some (b8, σ9)))) else gF σ2 144 9 (fun (v10 : Int32) => bq (f_X5_fail σ2 1 v10) (fun (b11 : Bool) (σ12 : Mem) => some (b11, σ12))))))))
theorem t_X5_readRegister {w : Wd} (hw : WOK w) {σ : Mem} {x0 : Nat} (hx0 : isk w x0 13) : JO w mu_X5_readRegister vB σ [(0, .ref (adr w 144)), (1, .ref (adr w x0))] [] 0 (f_X5_readRegister σ x0) some := by
  unfold f_X5_readRegister
  refine jo_aload_n (pc := 0) 0 rfl dX5_readRegister_0 rfl ?_
  refine jo_dup (pc := 1) dX5_readRegister_1 rfl ?_
  refine jo_getf (pc := 2) ok_5_9 (ik_144 hw) gw_483 dX5_readRegister_2 (fun v1 => ?_)
  refine jo_iconst (pc := 5) dX5_readRegister_5 (ic_i_1) ?_
  refine jo_iadd (pc := 6) dX5_readRegister_6 ?_
  refine jo_putf (pc := 7) ok_5_9 okp_5_9 (ik_144 hw) gw_483 dX5_readRegister_7 (fun σ2 => ?_)
  refine jo_aload_n (pc := 10) 0 rfl dX5_readRegister_10 rfl ?_
  refine jo_cV_I_p (pc := 11) (μ' := mu_X5_signHere) (fx := f_X5_signHere σ2) (As := []) (c_X5_signHere hw) (ok_X5_signHere) (ltb rfl) (all3 gw_980 gw_982 gw_27) (ik_144 hw) (by decide) (q := (RX5, TX5, 11)) rfl rfl rfl rfl (Nat.le_of_ble_eq_true rfl) dX5_readRegister_11 (fun v3 => ?_)
  refine jo_bipush (pc := 14) dX5_readRegister_14 (ic_b_48) ?_
  refine jo_isub (pc := 16) dX5_readRegister_16 ?_
  refine jo_bd ?_
  refine jo_istore_n (pc := 17) (lv' := [(2, .int (v3 - 48)), (0, .ref (adr w 144)), (1, .ref (adr w x0))]) dX5_readRegister_17 rfl (ltb rfl) rfl ?_
  generalize (v3 - 48) = v4
  refine jo_iload_n (pc := 18) 0 rfl dX5_readRegister_18 rfl ?_
  refine jo_cSN_Z_p (pc := 19) (μ' := mu_X10_isRegister) (fx := f_X10_isRegister σ2 v4) (As := [.int v4]) (c_X10_isRegister hw) (ok_X10_isRegister) (ltb rfl) (host := "HallRegisters") (by decide +kernel) gw_804 rfl rfl (Nat.le_of_ble_eq_true rfl) dX5_readRegister_19 (fun b5 => ?_)
  refine jo_ifz_ne (pc := 22) dX5_readRegister_22 (tgt := 35) rfl ?_ ?_
  · refine jo_aload_n (pc := 35) 1 rfl dX5_readRegister_35 rfl ?_
    refine jo_getrE (pc := 36) ok_5_5 (ik_144 hw) rf_144_5 gw_479 dX5_readRegister_36 ?_
    refine jo_getrE (pc := 39) ok_8_1 (ik_1 hw) rf_1_1 gw_222 dX5_readRegister_39 ?_
    refine jo_iload_n (pc := 42) 0 rfl dX5_readRegister_42 rfl ?_
    refine jo_aaldG (pc := 43) (z := 13) hw (ik_5 hw) (by decide) (t := 4) rfl rfl (by decide) dX5_readRegister_43 (fun p6 hp6 => ?_)
    refine jo_aload_n (pc := 44) 2 rfl dX5_readRegister_44 rfl ?_
    refine jo_cS_V_i (pc := 45) (μ' := mu_X0_copy) (fx := f_X0_copy σ2 p6 x0) (As := [.ref (adr w p6), .ref (adr w x0)]) (c_X0_copy hw (hp6) (hx0)) (ok_X0_copy) (ltb rfl) (all2 gw_1000 gw_704) rfl rfl (Nat.le_of_ble_eq_true rfl) dX5_readRegister_45 (fun σ7 => ?_)
    refine jo_aload_n (pc := 48) 1 rfl dX5_readRegister_48 rfl ?_
    refine jo_cV_Z_i (pc := 49) (μ' := mu_X5_passFactor) (fx := f_X5_passFactor σ7) (As := []) (c_X5_passFactor hw) (ok_X5_passFactor) (ltb rfl) (all3 gw_1001 gw_1003 gw_31) (ik_144 hw) (by decide) (q := (RX5, TX5, 11)) rfl rfl rfl rfl (Nat.le_of_ble_eq_true rfl) dX5_readRegister_49 (fun b8 σ9 => ?_)
    exact jo_breturn (pc := 52) (b := b8) rfl rfl dX5_readRegister_52
  · refine jo_aload_n (pc := 25) 1 rfl dX5_readRegister_25 rfl ?_
    refine jo_iconst (pc := 26) dX5_readRegister_26 (ic_i_1) ?_
    refine jo_aload_n (pc := 27) 1 rfl dX5_readRegister_27 rfl ?_
    refine jo_getf (pc := 28) ok_5_9 (ik_144 hw) gw_483 dX5_readRegister_28 (fun v10 => ?_)
    refine jo_cV_Z_i (pc := 31) (μ' := mu_X5_fail) (fx := f_X5_fail σ2 1 v10) (As := [.int 1, .int v10]) (c_X5_fail hw) (ok_X5_fail) (ltb rfl) (all3 gw_996 gw_998 gw_30) (ik_144 hw) (by decide) (q := (RX5, TX5, 11)) rfl rfl rfl rfl (Nat.le_of_ble_eq_true rfl) dX5_readRegister_31 (fun b11 σ12 => ?_)
    exact jo_breturn (pc := 34) (b := b11) rfl rfl dX5_readRegister_34
theorem c_X5_readRegister {w : Wd} (hw : WOK w) {σ : Mem} {x0 : Nat} (hx0 : isk w x0 13) : ∀ r σ', f_X5_readRegister σ x0 = some (r, σ') → MC w mu_X5_readRegister (vB r) [.ref (adr w 144), .ref (adr w x0)] σ σ' := mc_of ok_X5_readRegister rfl (Nat.le_of_ble_eq_true rfl) (t_X5_readRegister hw hx0)
abbrev mu_X5_readLetter : MD := (yX5_readLetter, cX5_readLetter, 3, some .boolean, 2)
theorem ok_X5_readLetter : MOK mu_X5_readLetter 2 := ⟨gw_1008, gw_168, (by decide +kernel : plainFor yX5_readLetter = true), ⟨(by decide +kernel : yX5_readLetter.cls ≠ "java/lang/invoke/MethodHandle"), (by decide +kernel : yX5_readLetter.cls ≠ "java/lang/invoke/VarHandle"), (by decide +kernel : (parseMethodDescriptor yX5_readLetter.desc).map (fun d => d.parameters.length) = some 2)⟩, Nat.le_of_ble_eq_true rfl⟩
noncomputable def j_X5_readLetter_18 (σ : Mem) : Option (Bool × Mem) :=
  gF σ 144 9 (fun (v1 : Int32) => bq (f_X5_fail σ 3 v1) (fun (b2 : Bool) (σ3 : Mem) => some (b2, σ3)))
noncomputable def f_X5_readLetter (σ : Mem) (x0 : Int32) (x1 : Nat) : Option (Bool × Mem) :=
  (if x0 < 0 then (some (Sum.inl ())) else (gF σ 2 0 (fun (v4 : Int32) => if x0 < v4 then ((f_X0_makeGenerator σ x1 x0 1).bind (fun (σ5 : Mem) => bq (f_X5_passFactor σ5) (fun (b6 : Bool) (σ7 : Mem) => some (Sum.inr (b6, σ7))))) else (some (Sum.inl ())))) : Option (Unit ⊕ (Bool × Mem))).bind (Sum.elim (fun (z0 : Unit) => j_X5_readLetter_18 σ) some)
theorem t_X5_readLetter {w : Wd} (hw : WOK w) {σ : Mem} {x0 : Int32} {x1 : Nat} (hx1 : isk w x1 13) : JO w mu_X5_readLetter vB σ [(0, .ref (adr w 144)), (1, .int x0), (2, .ref (adr w x1))] [] 0 (f_X5_readLetter σ x0 x1) some := by
  unfold f_X5_readLetter
  refine jo_iload_n (pc := 0) 1 rfl dX5_readLetter_0 rfl ?_
  refine jo_joinS (S := Unit) (fun (z0 : Unit) => σ) (fun (z0 : Unit) => [(0, .ref (adr w 144))]) (fun (z0 : Unit) => []) 18 ?_ (fun h18_0 => ?_)
  · intro _
    show JO w mu_X5_readLetter vB σ [(0, .ref (adr w 144))] [] 18 (j_X5_readLetter_18 σ) _
    unfold j_X5_readLetter_18
    refine jo_aload_n (pc := 18) 0 rfl dX5_readLetter_18 rfl ?_
    refine jo_iconst (pc := 19) dX5_readLetter_19 (ic_i_3) ?_
    refine jo_aload_n (pc := 20) 0 rfl dX5_readLetter_20 rfl ?_
    refine jo_getf (pc := 21) ok_5_9 (ik_144 hw) gw_483 dX5_readLetter_21 (fun v1 => ?_)
    refine jo_cV_Z_i (pc := 24) (μ' := mu_X5_fail) (fx := f_X5_fail σ 3 v1) (As := [.int 3, .int v1]) (c_X5_fail hw) (ok_X5_fail) (ltb rfl) (all3 gw_996 gw_998 gw_30) (ik_144 hw) (by decide) (q := (RX5, TX5, 11)) rfl rfl rfl rfl (Nat.le_of_ble_eq_true rfl) dX5_readLetter_24 (fun b2 σ3 => ?_)
    exact jo_breturn (pc := 27) (b := b2) rfl rfl dX5_readLetter_27
  · refine jo_if_lt (pc := 1) dX5_readLetter_1 (tgt := 18) rfl ?_ ?_
    · refine jo_lv (lv' := [(0, .ref (adr w 144))]) [0] rfl ?_
      exact jo_leaf (by rfl) (h18_0 ())
    · refine jo_iload_n (pc := 4) 1 rfl dX5_readLetter_4 rfl ?_
      refine jo_aload_n (pc := 5) 0 rfl dX5_readLetter_5 rfl ?_
      refine jo_getrE (pc := 6) ok_5_5 (ik_144 hw) rf_144_5 gw_479 dX5_readLetter_6 ?_
      refine jo_getrE (pc := 9) ok_8_0 (ik_1 hw) rf_1_0 gw_219 dX5_readLetter_9 ?_
      refine jo_getf (pc := 12) ok_6_0 (ik_2 hw) gw_199 dX5_readLetter_12 (fun v4 => ?_)
      refine jo_icmp_lt (pc := 15) dX5_readLetter_15 (tgt := 28) rfl ?_ ?_
      · refine jo_aload_n (pc := 28) 2 rfl dX5_readLetter_28 rfl ?_
        refine jo_iload_n (pc := 29) 1 rfl dX5_readLetter_29 rfl ?_
        refine jo_lconst (pc := 30) dX5_readLetter_30 (ic_l_1) ?_
        refine jo_cS_V_i (pc := 31) (μ' := mu_X0_makeGenerator) (fx := f_X0_makeGenerator σ x1 x0 1) (As := [.ref (adr w x1), .int x0, .long 1]) (c_X0_makeGenerator hw (hx1)) (ok_X0_makeGenerator) (ltb rfl) (all2 gw_1009 gw_1010) rfl rfl (Nat.le_of_ble_eq_true rfl) dX5_readLetter_31 (fun σ5 => ?_)
        refine jo_aload_n (pc := 34) 0 rfl dX5_readLetter_34 rfl ?_
        refine jo_cV_Z_i (pc := 35) (μ' := mu_X5_passFactor) (fx := f_X5_passFactor σ5) (As := []) (c_X5_passFactor hw) (ok_X5_passFactor) (ltb rfl) (all3 gw_1001 gw_1003 gw_31) (ik_144 hw) (by decide) (q := (RX5, TX5, 11)) rfl rfl rfl rfl (Nat.le_of_ble_eq_true rfl) dX5_readLetter_35 (fun b6 σ7 => ?_)
        exact jo_breturn (pc := 38) (b := b6) rfl rfl dX5_readLetter_38
      · refine jo_lv (lv' := [(0, .ref (adr w 144))]) [0] rfl ?_
        exact jo_leaf (by rfl) (h18_0 ())
theorem c_X5_readLetter {w : Wd} (hw : WOK w) {σ : Mem} {x0 : Int32} {x1 : Nat} (hx1 : isk w x1 13) : ∀ r σ', f_X5_readLetter σ x0 x1 = some (r, σ') → MC w mu_X5_readLetter (vB r) [.ref (adr w 144), .int x0, .ref (adr w x1)] σ σ' := mc_of ok_X5_readLetter rfl (Nat.le_of_ble_eq_true rfl) (t_X5_readLetter hw hx1)
abbrev mu_X5_readWord (d : Nat) : MD := (yX5_readWord, cX5_readWord, 4, some .boolean, 5 + d)
theorem ok_X5_readWord (d : Nat) : MOK (mu_X5_readWord d) 1 := ⟨gw_974, gw_168, (by decide +kernel : plainFor yX5_readWord = true), ⟨(by decide +kernel : yX5_readWord.cls ≠ "java/lang/invoke/MethodHandle"), (by decide +kernel : yX5_readWord.cls ≠ "java/lang/invoke/VarHandle"), (by decide +kernel : (parseMethodDescriptor yX5_readWord.desc).map (fun d => d.parameters.length) = some 1)⟩, Nat.le_of_ble_eq_true rfl⟩
abbrev mu_X5_readRound (d : Nat) : MD := (yX5_readRound, cX5_readRound, 2, some .boolean, 5 + d + 1)
theorem ok_X5_readRound (d : Nat) : MOK (mu_X5_readRound d) 1 := ⟨gw_1016, gw_168, (by decide +kernel : plainFor yX5_readRound = true), ⟨(by decide +kernel : yX5_readRound.cls ≠ "java/lang/invoke/MethodHandle"), (by decide +kernel : yX5_readRound.cls ≠ "java/lang/invoke/VarHandle"), (by decide +kernel : (parseMethodDescriptor yX5_readRound.desc).map (fun d => d.parameters.length) = some 1)⟩, Nat.le_of_ble_eq_true rfl⟩
noncomputable def o_X5_readRound (rec : Mem → Int32 → Option (Bool × Mem)) (σ : Mem) (x0 : Int32) : Option (Bool × Mem) :=
  bq (rec σ (x0 + 1)) (fun (b1 : Bool) (σ2 : Mem) => if b1 then (f_X5_signHere σ2).bind (fun (v3 : Int32) => if v3 = 41 then (gR 145 (x0 + 1) (fun (p4 : Nat) => gR 155 x0 (fun (p5 : Nat) => (f_X0_copy σ2 p4 p5).bind (fun (σ6 : Mem) => bq (f_X5_passFactor σ6) (fun (b7 : Bool) (σ8 : Mem) => some (b7, σ8)))))) else (gF σ2 144 9 (fun (v9 : Int32) => bq (f_X5_fail σ2 1 v9) (fun (b10 : Bool) (σ11 : Mem) => some (b10, σ11))))) else some (false, σ2))
theorem t_X5_readRound {w : Wd} (hw : WOK w) {d : Nat} {rec : Mem → Int32 → Option (Bool × Mem)} (hrec : ∀ {τ0 : Mem} {y0 : Int32}, ∀ r τ, rec τ0 y0 = some (r, τ) → MC w (mu_X5_readWord d) (vB r) [.ref (adr w 144), .int y0] τ0 τ) {σ : Mem} {x0 : Int32} : JO w (mu_X5_readRound d) vB σ [(0, .ref (adr w 144)), (1, .int x0)] [] 0 (o_X5_readRound rec σ x0) some := by
  unfold o_X5_readRound
  refine jo_aload_n (pc := 0) 0 rfl dX5_readRound_0 rfl ?_
  refine jo_iload_n (pc := 1) 1 rfl dX5_readRound_1 rfl ?_
  refine jo_iconst (pc := 2) dX5_readRound_2 (ic_i_1) ?_
  refine jo_iadd (pc := 3) dX5_readRound_3 ?_
  refine jo_cV_Z_i (pc := 4) (μ' := (mu_X5_readWord d)) (fx := rec σ (x0 + 1)) (As := [.int (x0 + 1)]) (hrec) (ok_X5_readWord _) (by simp only [mu_X5_readRound, mu_X5_readWord]; omega) (all3 gw_971 gw_973 gw_25) (ik_144 hw) (by decide) (q := (RX5, TX5, 11)) rfl rfl rfl rfl (Nat.le_of_ble_eq_true rfl) dX5_readRound_4 (fun b1 σ2 => ?_)
  refine jo_ifz_ne (pc := 7) dX5_readRound_7 (tgt := 12) rfl ?_ ?_
  · refine jo_aload_n (pc := 12) 0 rfl dX5_readRound_12 rfl ?_
    refine jo_cV_I_p (pc := 13) (μ' := mu_X5_signHere) (fx := f_X5_signHere σ2) (As := []) (c_X5_signHere hw) (ok_X5_signHere) (by simp only [mu_X5_readRound, mu_X5_signHere]; omega) (all3 gw_980 gw_982 gw_27) (ik_144 hw) (by decide) (q := (RX5, TX5, 11)) rfl rfl rfl rfl (Nat.le_of_ble_eq_true rfl) dX5_readRound_13 (fun v3 => ?_)
    refine jo_bipush (pc := 16) dX5_readRound_16 (ic_b_41) ?_
    refine jo_icmp_eq (pc := 18) dX5_readRound_18 (tgt := 31) rfl ?_ ?_
    · refine jo_aload_n (pc := 31) 0 rfl dX5_readRound_31 rfl ?_
      refine jo_getrE (pc := 32) ok_5_2 (ik_144 hw) rf_144_2 gw_475 dX5_readRound_32 ?_
      refine jo_iload_n (pc := 35) 1 rfl dX5_readRound_35 rfl ?_
      refine jo_iconst (pc := 36) dX5_readRound_36 (ic_i_1) ?_
      refine jo_iadd (pc := 37) dX5_readRound_37 ?_
      refine jo_aaldG (pc := 38) (z := 13) hw (ik_145 hw) (by decide) (t := 4) rfl rfl (by decide) dX5_readRound_38 (fun p4 hp4 => ?_)
      refine jo_aload_n (pc := 39) 0 rfl dX5_readRound_39 rfl ?_
      refine jo_getrE (pc := 40) ok_5_3 (ik_144 hw) rf_144_3 gw_477 dX5_readRound_40 ?_
      refine jo_iload_n (pc := 43) 1 rfl dX5_readRound_43 rfl ?_
      refine jo_aaldG (pc := 44) (z := 13) hw (ik_155 hw) (by decide) (t := 4) rfl rfl (by decide) dX5_readRound_44 (fun p5 hp5 => ?_)
      refine jo_cS_V_i (pc := 45) (μ' := mu_X0_copy) (fx := f_X0_copy σ2 p4 p5) (As := [.ref (adr w p4), .ref (adr w p5)]) (c_X0_copy hw (hp4) (hp5)) (ok_X0_copy) (by simp only [mu_X5_readRound, mu_X0_copy]; omega) (all2 gw_1000 gw_704) rfl rfl (Nat.le_of_ble_eq_true rfl) dX5_readRound_45 (fun σ6 => ?_)
      refine jo_aload_n (pc := 48) 0 rfl dX5_readRound_48 rfl ?_
      refine jo_cV_Z_i (pc := 49) (μ' := mu_X5_passFactor) (fx := f_X5_passFactor σ6) (As := []) (c_X5_passFactor hw) (ok_X5_passFactor) (by simp only [mu_X5_readRound, mu_X5_passFactor]; omega) (all3 gw_1001 gw_1003 gw_31) (ik_144 hw) (by decide) (q := (RX5, TX5, 11)) rfl rfl rfl rfl (Nat.le_of_ble_eq_true rfl) dX5_readRound_49 (fun b7 σ8 => ?_)
      exact jo_breturn (pc := 52) (b := b7) rfl rfl dX5_readRound_52
    · refine jo_aload_n (pc := 21) 0 rfl dX5_readRound_21 rfl ?_
      refine jo_iconst (pc := 22) dX5_readRound_22 (ic_i_1) ?_
      refine jo_aload_n (pc := 23) 0 rfl dX5_readRound_23 rfl ?_
      refine jo_getf (pc := 24) ok_5_9 (ik_144 hw) gw_483 dX5_readRound_24 (fun v9 => ?_)
      refine jo_cV_Z_i (pc := 27) (μ' := mu_X5_fail) (fx := f_X5_fail σ2 1 v9) (As := [.int 1, .int v9]) (c_X5_fail hw) (ok_X5_fail) (by simp only [mu_X5_readRound, mu_X5_fail]; omega) (all3 gw_996 gw_998 gw_30) (ik_144 hw) (by decide) (q := (RX5, TX5, 11)) rfl rfl rfl rfl (Nat.le_of_ble_eq_true rfl) dX5_readRound_27 (fun b10 σ11 => ?_)
      exact jo_breturn (pc := 30) (b := b10) rfl rfl dX5_readRound_30
  · refine jo_iconst (pc := 10) dX5_readRound_10 (ic_i_0) ?_
    exact jo_breturn (pc := 11) (b := false) rfl rfl dX5_readRound_11
theorem co_X5_readRound {w : Wd} (hw : WOK w) {d : Nat} {rec : Mem → Int32 → Option (Bool × Mem)} (hrec : ∀ {τ0 : Mem} {y0 : Int32}, ∀ r τ, rec τ0 y0 = some (r, τ) → MC w (mu_X5_readWord d) (vB r) [.ref (adr w 144), .int y0] τ0 τ) {σ : Mem} {x0 : Int32} : ∀ r σ', o_X5_readRound rec σ x0 = some (r, σ') → MC w (mu_X5_readRound d) (vB r) [.ref (adr w 144), .int x0] σ σ' := mc_of (ok_X5_readRound _) rfl (Nat.le_of_ble_eq_true rfl) (t_X5_readRound hw hrec)
abbrev mu_X5_readSquare (d : Nat) : MD := (yX5_readSquare, cX5_readSquare, 4, some .boolean, 5 + d + 1)
theorem ok_X5_readSquare (d : Nat) : MOK (mu_X5_readSquare d) 1 := ⟨gw_1020, gw_168, (by decide +kernel : plainFor yX5_readSquare = true), ⟨(by decide +kernel : yX5_readSquare.cls ≠ "java/lang/invoke/MethodHandle"), (by decide +kernel : yX5_readSquare.cls ≠ "java/lang/invoke/VarHandle"), (by decide +kernel : (parseMethodDescriptor yX5_readSquare.desc).map (fun d => d.parameters.length) = some 1)⟩, Nat.le_of_ble_eq_true rfl⟩
noncomputable def j_X5_readSquare_133 (rec : Mem → Int32 → Option (Bool × Mem)) (x0 : Int32) (p1 : Nat) (σ7 : Mem) : Option (Bool × Mem) :=
  (f_X5_signHere σ7).bind (fun (v8 : Int32) => if v8 = 93 then (gR 155 x0 (fun (p9 : Nat) => (f_X0_copy σ7 p1 p9).bind (fun (σ10 : Mem) => bq (f_X5_passFactor σ10) (fun (b11 : Bool) (σ12 : Mem) => some (b11, σ12))))) else (gF σ7 144 9 (fun (v13 : Int32) => bq (f_X5_fail σ7 1 v13) (fun (b14 : Bool) (σ15 : Mem) => some (b14, σ15)))))
noncomputable def j_X5_readSquare_117 (rec : Mem → Int32 → Option (Bool × Mem)) (σ16 : Mem) : Option (Mem ⊕ (Bool × Mem)) :=
  gF σ16 144 10 (fun (v17 : Int32) => bq (f_X5_fail σ16 5 v17) (fun (b18 : Bool) (σ19 : Mem) => some (Sum.inr (b18, σ19))))
noncomputable def l_X5_readSquare_52 (rec : Mem → Int32 → Option (Bool × Mem)) (x0 : Int32) (p1 : Nat) (σ20 : Mem) (i21 : Int32) : Option ((Mem × Int32) ⊕ (Mem ⊕ (Mem ⊕ (Bool × Mem)))) :=
  if 200 ≤ i21 then (some (Sum.inr (Sum.inr (Sum.inl σ20)))) else ((f_X5_signHere σ20).bind (fun (v22 : Int32) => if v22 = 44 then (gF σ20 144 9 (fun (v23 : Int32) => pF σ20 144 9 (v23 + 1) (fun (σ24 : Mem) => bq (rec σ24 (x0 + 1)) (fun (b25 : Bool) (σ26 : Mem) => if b25 then gR 145 (x0 + 1) (fun (p27 : Nat) => (f_X0_commutator σ26 p1 p1 p27).bind (fun (σ28 : Mem) => (f_X0_isWithin σ28 p1 999).bind (fun (b29 : Bool) => if b29 then some (Sum.inl (σ28, i21 + 1)) else some (Sum.inr (Sum.inl σ28))))) else some (Sum.inr (Sum.inr (Sum.inr (false, σ26)))))))) else (some (Sum.inr (Sum.inr (Sum.inl σ20))))))
noncomputable def o_X5_readSquare (rec : Mem → Int32 → Option (Bool × Mem)) (σ : Mem) (x0 : Int32) : Option (Bool × Mem) :=
  gR 165 x0 (fun (p1 : Nat) => bq (rec σ (x0 + 1)) (fun (b2 : Bool) (σ3 : Mem) => if b2 then gR 145 (x0 + 1) (fun (p4 : Nat) => (f_X0_copy σ3 p4 p1).bind (fun (σ5 : Mem) => (f_X5_signHere σ5).bind (fun (v6 : Int32) => if v6 = 44 then (((loopO (fun (z21 : (Mem × Int32)) => l_X5_readSquare_52 rec x0 p1 z21.1 z21.2) (σ5, 0) : Option (Mem ⊕ (Mem ⊕ (Bool × Mem)))).bind (Sum.elim (fun (z16 : Mem) => j_X5_readSquare_117 rec z16) some) : Option (Mem ⊕ (Bool × Mem))).bind (Sum.elim (fun (z7 : Mem) => j_X5_readSquare_133 rec x0 p1 z7) some)) else (gF σ5 144 9 (fun (v30 : Int32) => bq (f_X5_fail σ5 1 v30) (fun (b31 : Bool) (σ32 : Mem) => some (b31, σ32))))))) else some (false, σ3)))
theorem t_X5_readSquare {w : Wd} (hw : WOK w) {d : Nat} {rec : Mem → Int32 → Option (Bool × Mem)} (hrec : ∀ {τ0 : Mem} {y0 : Int32}, ∀ r τ, rec τ0 y0 = some (r, τ) → MC w (mu_X5_readWord d) (vB r) [.ref (adr w 144), .int y0] τ0 τ) {σ : Mem} {x0 : Int32} : JO w (mu_X5_readSquare d) vB σ [(0, .ref (adr w 144)), (1, .int x0)] [] 0 (o_X5_readSquare rec σ x0) some := by
  unfold o_X5_readSquare
  refine jo_aload_n (pc := 0) 0 rfl dX5_readSquare_0 rfl ?_
  refine jo_getrE (pc := 1) ok_5_4 (ik_144 hw) rf_144_4 gw_478 dX5_readSquare_1 ?_
  refine jo_iload_n (pc := 4) 1 rfl dX5_readSquare_4 rfl ?_
  refine jo_aaldG (pc := 5) (z := 13) hw (ik_165 hw) (by decide) (t := 4) rfl rfl (by decide) dX5_readSquare_5 (fun p1 hp1 => ?_)
  refine jo_astore_n (pc := 6) (lv' := [(2, .ref (adr w p1)), (0, .ref (adr w 144)), (1, .int x0)]) dX5_readSquare_6 rfl (ltb rfl) rfl ?_
  refine jo_aload_n (pc := 7) 1 rfl dX5_readSquare_7 rfl ?_
  refine jo_iload_n (pc := 8) 2 rfl dX5_readSquare_8 rfl ?_
  refine jo_iconst (pc := 9) dX5_readSquare_9 (ic_i_1) ?_
  refine jo_iadd (pc := 10) dX5_readSquare_10 ?_
  refine jo_cV_Z_i (pc := 11) (μ' := (mu_X5_readWord d)) (fx := rec σ (x0 + 1)) (As := [.int (x0 + 1)]) (hrec) (ok_X5_readWord _) (by simp only [mu_X5_readSquare, mu_X5_readWord]; omega) (all3 gw_971 gw_973 gw_25) (ik_144 hw) (by decide) (q := (RX5, TX5, 11)) rfl rfl rfl rfl (Nat.le_of_ble_eq_true rfl) dX5_readSquare_11 (fun b2 σ3 => ?_)
  refine jo_ifz_ne (pc := 14) dX5_readSquare_14 (tgt := 19) rfl ?_ ?_
  · refine jo_aload_n (pc := 19) 1 rfl dX5_readSquare_19 rfl ?_
    refine jo_getrE (pc := 20) ok_5_2 (ik_144 hw) rf_144_2 gw_475 dX5_readSquare_20 ?_
    refine jo_iload_n (pc := 23) 2 rfl dX5_readSquare_23 rfl ?_
    refine jo_iconst (pc := 24) dX5_readSquare_24 (ic_i_1) ?_
    refine jo_iadd (pc := 25) dX5_readSquare_25 ?_
    refine jo_aaldG (pc := 26) (z := 13) hw (ik_145 hw) (by decide) (t := 4) rfl rfl (by decide) dX5_readSquare_26 (fun p4 hp4 => ?_)
    refine jo_aload_n (pc := 27) 0 rfl dX5_readSquare_27 rfl ?_
    refine jo_cS_V_i (pc := 28) (μ' := mu_X0_copy) (fx := f_X0_copy σ3 p4 p1) (As := [.ref (adr w p4), .ref (adr w p1)]) (c_X0_copy hw (hp4) (hp1)) (ok_X0_copy) (by simp only [mu_X5_readSquare, mu_X0_copy]; omega) (all2 gw_1000 gw_704) rfl rfl (Nat.le_of_ble_eq_true rfl) dX5_readSquare_28 (fun σ5 => ?_)
    refine jo_aload_n (pc := 31) 1 rfl dX5_readSquare_31 rfl ?_
    refine jo_cV_I_p (pc := 32) (μ' := mu_X5_signHere) (fx := f_X5_signHere σ5) (As := []) (c_X5_signHere hw) (ok_X5_signHere) (by simp only [mu_X5_readSquare, mu_X5_signHere]; omega) (all3 gw_980 gw_982 gw_27) (ik_144 hw) (by decide) (q := (RX5, TX5, 11)) rfl rfl rfl rfl (Nat.le_of_ble_eq_true rfl) dX5_readSquare_32 (fun v6 => ?_)
    refine jo_bipush (pc := 35) dX5_readSquare_35 (ic_b_44) ?_
    refine jo_icmp_eq (pc := 37) dX5_readSquare_37 (tgt := 50) rfl ?_ ?_
    · refine jo_iconst (pc := 50) dX5_readSquare_50 (ic_i_0) ?_
      refine jo_istore_n (pc := 51) (lv' := [(3, .int 0), (2, .ref (adr w p1)), (0, .ref (adr w 144)), (1, .int x0)]) dX5_readSquare_51 rfl (ltb rfl) rfl ?_
      refine jo_joinS (S := Mem) (fun (z7 : Mem) => z7) (fun (z7 : Mem) => [(2, .ref (adr w p1)), (0, .ref (adr w 144)), (1, .int x0)]) (fun (z7 : Mem) => []) 133 ?_ (fun h133_7 => ?_)
      · intro σ7
        show JO w (mu_X5_readSquare d) vB σ7 [(2, .ref (adr w p1)), (0, .ref (adr w 144)), (1, .int x0)] [] 133 (j_X5_readSquare_133 rec x0 p1 σ7) _
        unfold j_X5_readSquare_133
        refine jo_aload_n (pc := 133) 1 rfl dX5_readSquare_133 rfl ?_
        refine jo_cV_I_p (pc := 134) (μ' := mu_X5_signHere) (fx := f_X5_signHere σ7) (As := []) (c_X5_signHere hw) (ok_X5_signHere) (by simp only [mu_X5_readSquare, mu_X5_signHere]; omega) (all3 gw_980 gw_982 gw_27) (ik_144 hw) (by decide) (q := (RX5, TX5, 11)) rfl rfl rfl rfl (Nat.le_of_ble_eq_true rfl) dX5_readSquare_134 (fun v8 => ?_)
        refine jo_bipush (pc := 137) dX5_readSquare_137 (ic_b_93) ?_
        refine jo_icmp_eq (pc := 139) dX5_readSquare_139 (tgt := 152) rfl ?_ ?_
        · refine jo_aload_n (pc := 152) 0 rfl dX5_readSquare_152 rfl ?_
          refine jo_aload_n (pc := 153) 1 rfl dX5_readSquare_153 rfl ?_
          refine jo_getrE (pc := 154) ok_5_3 (ik_144 hw) rf_144_3 gw_477 dX5_readSquare_154 ?_
          refine jo_iload_n (pc := 157) 2 rfl dX5_readSquare_157 rfl ?_
          refine jo_aaldG (pc := 158) (z := 13) hw (ik_155 hw) (by decide) (t := 4) rfl rfl (by decide) dX5_readSquare_158 (fun p9 hp9 => ?_)
          refine jo_cS_V_i (pc := 159) (μ' := mu_X0_copy) (fx := f_X0_copy σ7 p1 p9) (As := [.ref (adr w p1), .ref (adr w p9)]) (c_X0_copy hw (hp1) (hp9)) (ok_X0_copy) (by simp only [mu_X5_readSquare, mu_X0_copy]; omega) (all2 gw_1000 gw_704) rfl rfl (Nat.le_of_ble_eq_true rfl) dX5_readSquare_159 (fun σ10 => ?_)
          refine jo_aload_n (pc := 162) 1 rfl dX5_readSquare_162 rfl ?_
          refine jo_cV_Z_i (pc := 163) (μ' := mu_X5_passFactor) (fx := f_X5_passFactor σ10) (As := []) (c_X5_passFactor hw) (ok_X5_passFactor) (by simp only [mu_X5_readSquare, mu_X5_passFactor]; omega) (all3 gw_1001 gw_1003 gw_31) (ik_144 hw) (by decide) (q := (RX5, TX5, 11)) rfl rfl rfl rfl (Nat.le_of_ble_eq_true rfl) dX5_readSquare_163 (fun b11 σ12 => ?_)
          exact jo_breturn (pc := 166) (b := b11) rfl rfl dX5_readSquare_166
        · refine jo_aload_n (pc := 142) 1 rfl dX5_readSquare_142 rfl ?_
          refine jo_iconst (pc := 143) dX5_readSquare_143 (ic_i_1) ?_
          refine jo_aload_n (pc := 144) 1 rfl dX5_readSquare_144 rfl ?_
          refine jo_getf (pc := 145) ok_5_9 (ik_144 hw) gw_483 dX5_readSquare_145 (fun v13 => ?_)
          refine jo_cV_Z_i (pc := 148) (μ' := mu_X5_fail) (fx := f_X5_fail σ7 1 v13) (As := [.int 1, .int v13]) (c_X5_fail hw) (ok_X5_fail) (by simp only [mu_X5_readSquare, mu_X5_fail]; omega) (all3 gw_996 gw_998 gw_30) (ik_144 hw) (by decide) (q := (RX5, TX5, 11)) rfl rfl rfl rfl (Nat.le_of_ble_eq_true rfl) dX5_readSquare_148 (fun b14 σ15 => ?_)
          exact jo_breturn (pc := 151) (b := b14) rfl rfl dX5_readSquare_151
      · refine jo_joinS (S := Mem) (fun (z16 : Mem) => z16) (fun (z16 : Mem) => [(0, .ref (adr w 144))]) (fun (z16 : Mem) => []) 117 ?_ (fun h117_16 => ?_)
        · intro σ16
          show JO w (mu_X5_readSquare d) vB σ16 [(0, .ref (adr w 144))] [] 117 (j_X5_readSquare_117 rec σ16) _
          unfold j_X5_readSquare_117
          refine jo_aload_n (pc := 117) 0 rfl dX5_readSquare_117 rfl ?_
          refine jo_iconst (pc := 118) dX5_readSquare_118 (ic_i_5) ?_
          refine jo_aload_n (pc := 119) 0 rfl dX5_readSquare_119 rfl ?_
          refine jo_getf (pc := 120) ok_5_10 (ik_144 hw) gw_484 dX5_readSquare_120 (fun v17 => ?_)
          refine jo_cV_Z_i (pc := 123) (μ' := mu_X5_fail) (fx := f_X5_fail σ16 5 v17) (As := [.int 5, .int v17]) (c_X5_fail hw) (ok_X5_fail) (by simp only [mu_X5_readSquare, mu_X5_fail]; omega) (all3 gw_996 gw_998 gw_30) (ik_144 hw) (by decide) (q := (RX5, TX5, 11)) rfl rfl rfl rfl (Nat.le_of_ble_eq_true rfl) dX5_readSquare_123 (fun b18 σ19 => ?_)
          exact jo_breturn (pc := 126) (b := b18) rfl rfl dX5_readSquare_126
        · refine jo_lv (lv' := [(2, .ref (adr w p1)), (0, .ref (adr w 144)), (1, .int x0), (3, .int 0)]) [1, 2, 3, 0] rfl ?_
          refine jo_loop (X := Mem ⊕ (Mem ⊕ (Bool × Mem))) (fun (z21 : (Mem × Int32)) => z21.1) (fun (z21 : (Mem × Int32)) => [(2, .ref (adr w p1)), (0, .ref (adr w 144)), (1, .int x0), (3, .int z21.2)]) (body := (fun (z21 : (Mem × Int32)) => l_X5_readSquare_52 rec x0 p1 z21.1 z21.2)) (fun F52_21 hF52_21 s => ?_) (σ5, 0)
          obtain ⟨σ20, i21⟩ := s
          show JO w (mu_X5_readSquare d) vB σ20 [(2, .ref (adr w p1)), (0, .ref (adr w 144)), (1, .int x0), (3, .int i21)] [] 52 (l_X5_readSquare_52 rec x0 p1 σ20 i21) _
          unfold l_X5_readSquare_52
          refine jo_iload_n (pc := 52) 3 rfl dX5_readSquare_52 rfl ?_
          refine jo_sipush (pc := 53) dX5_readSquare_53 (ic_s_200) ?_
          refine jo_icmp_ge (pc := 56) dX5_readSquare_56 (tgt := 133) rfl ?_ ?_
          · refine jo_lv (lv' := [(2, .ref (adr w p1)), (0, .ref (adr w 144)), (1, .int x0)]) [0, 1, 2] rfl ?_
            exact jo_leaf (by rfl) (h133_7 σ20)
          · refine jo_aload_n (pc := 59) 1 rfl dX5_readSquare_59 rfl ?_
            refine jo_cV_I_p (pc := 60) (μ' := mu_X5_signHere) (fx := f_X5_signHere σ20) (As := []) (c_X5_signHere hw) (ok_X5_signHere) (by simp only [mu_X5_readSquare, mu_X5_signHere]; omega) (all3 gw_980 gw_982 gw_27) (ik_144 hw) (by decide) (q := (RX5, TX5, 11)) rfl rfl rfl rfl (Nat.le_of_ble_eq_true rfl) dX5_readSquare_60 (fun v22 => ?_)
            refine jo_bipush (pc := 63) dX5_readSquare_63 (ic_b_44) ?_
            refine jo_icmp_ne (pc := 65) dX5_readSquare_65 (tgt := 133) rfl ?_ ?_
            · refine jo_lv (lv' := [(2, .ref (adr w p1)), (0, .ref (adr w 144)), (1, .int x0)]) [0, 1, 2] rfl ?_
              exact jo_leaf (by rfl) (h133_7 σ20)
            · refine jo_aload_n (pc := 68) 1 rfl dX5_readSquare_68 rfl ?_
              refine jo_dup (pc := 69) dX5_readSquare_69 rfl ?_
              refine jo_getf (pc := 70) ok_5_9 (ik_144 hw) gw_483 dX5_readSquare_70 (fun v23 => ?_)
              refine jo_iconst (pc := 73) dX5_readSquare_73 (ic_i_1) ?_
              refine jo_iadd (pc := 74) dX5_readSquare_74 ?_
              refine jo_putf (pc := 75) ok_5_9 okp_5_9 (ik_144 hw) gw_483 dX5_readSquare_75 (fun σ24 => ?_)
              refine jo_aload_n (pc := 78) 1 rfl dX5_readSquare_78 rfl ?_
              refine jo_iload_n (pc := 79) 2 rfl dX5_readSquare_79 rfl ?_
              refine jo_iconst (pc := 80) dX5_readSquare_80 (ic_i_1) ?_
              refine jo_iadd (pc := 81) dX5_readSquare_81 ?_
              refine jo_cV_Z_i (pc := 82) (μ' := (mu_X5_readWord d)) (fx := rec σ24 (x0 + 1)) (As := [.int (x0 + 1)]) (hrec) (ok_X5_readWord _) (by simp only [mu_X5_readSquare, mu_X5_readWord]; omega) (all3 gw_971 gw_973 gw_25) (ik_144 hw) (by decide) (q := (RX5, TX5, 11)) rfl rfl rfl rfl (Nat.le_of_ble_eq_true rfl) dX5_readSquare_82 (fun b25 σ26 => ?_)
              refine jo_ifz_ne (pc := 85) dX5_readSquare_85 (tgt := 90) rfl ?_ ?_
              · refine jo_aload_n (pc := 90) 1 rfl dX5_readSquare_90 rfl ?_
                refine jo_getrE (pc := 91) ok_5_6 (ik_144 hw) rf_144_6 gw_480 dX5_readSquare_91 ?_
                refine jo_aload_n (pc := 94) 0 rfl dX5_readSquare_94 rfl ?_
                refine jo_aload_n (pc := 95) 0 rfl dX5_readSquare_95 rfl ?_
                refine jo_aload_n (pc := 96) 1 rfl dX5_readSquare_96 rfl ?_
                refine jo_getrE (pc := 97) ok_5_2 (ik_144 hw) rf_144_2 gw_475 dX5_readSquare_97 ?_
                refine jo_iload_n (pc := 100) 2 rfl dX5_readSquare_100 rfl ?_
                refine jo_iconst (pc := 101) dX5_readSquare_101 (ic_i_1) ?_
                refine jo_iadd (pc := 102) dX5_readSquare_102 ?_
                refine jo_aaldG (pc := 103) (z := 13) hw (ik_145 hw) (by decide) (t := 4) rfl rfl (by decide) dX5_readSquare_103 (fun p27 hp27 => ?_)
                refine jo_cV_V_i (pc := 104) (μ' := mu_X0_commutator) (fx := f_X0_commutator σ26 p1 p1 p27) (As := [.ref (adr w p1), .ref (adr w p1), .ref (adr w p27)]) (c_X0_commutator hw (hp1) (hp1) (hp27)) (ok_X0_commutator) (by simp only [mu_X5_readSquare, mu_X0_commutator]; omega) (all3 gw_1021 gw_871 gw_872) (ik_72 hw) (by decide) (q := (RX0, TX0, 8)) rfl rfl rfl rfl (Nat.le_of_ble_eq_true rfl) dX5_readSquare_104 (fun σ28 => ?_)
                refine jo_aload_n (pc := 107) 0 rfl dX5_readSquare_107 rfl ?_
                refine jo_ldc2 (pc := 108) dX5_readSquare_108 gw_1022 ?_
                refine jo_cS_Z_p (pc := 111) (μ' := mu_X0_isWithin) (fx := f_X0_isWithin σ28 p1 999) (As := [.ref (adr w p1), .long 999]) (c_X0_isWithin hw (hp1)) (ok_X0_isWithin) (by simp only [mu_X5_readSquare, mu_X0_isWithin]; omega) (all2 gw_1023 gw_826) rfl rfl (Nat.le_of_ble_eq_true rfl) dX5_readSquare_111 (fun b29 => ?_)
                refine jo_ifz_ne (pc := 114) dX5_readSquare_114 (tgt := 127) rfl ?_ ?_
                · refine jo_iinc (pc := 127) (lv' := [(3, .int (i21 + 1)), (2, .ref (adr w p1)), (0, .ref (adr w 144)), (1, .int x0)]) 3 rfl dX5_readSquare_127 (congrArg (fun z => i21 + z) (ic_i_1)) (ltb rfl) rfl ?_
                  refine jo_goto (pc := 130) dX5_readSquare_130 (tgt := 52) rfl ?_
                  refine jo_lv (lv' := [(2, .ref (adr w p1)), (0, .ref (adr w 144)), (1, .int x0), (3, .int (i21 + 1))]) [1, 2, 3, 0] rfl ?_
                  exact jo_leaf (by rfl) (hF52_21 (σ28, i21 + 1))
                · refine jo_lv (lv' := [(0, .ref (adr w 144))]) [1] rfl ?_
                  exact jo_leaf (by rfl) (h117_16 σ28)
              · refine jo_iconst (pc := 88) dX5_readSquare_88 (ic_i_0) ?_
                exact jo_breturn (pc := 89) (b := false) rfl rfl dX5_readSquare_89
    · refine jo_aload_n (pc := 40) 1 rfl dX5_readSquare_40 rfl ?_
      refine jo_iconst (pc := 41) dX5_readSquare_41 (ic_i_1) ?_
      refine jo_aload_n (pc := 42) 1 rfl dX5_readSquare_42 rfl ?_
      refine jo_getf (pc := 43) ok_5_9 (ik_144 hw) gw_483 dX5_readSquare_43 (fun v30 => ?_)
      refine jo_cV_Z_i (pc := 46) (μ' := mu_X5_fail) (fx := f_X5_fail σ5 1 v30) (As := [.int 1, .int v30]) (c_X5_fail hw) (ok_X5_fail) (by simp only [mu_X5_readSquare, mu_X5_fail]; omega) (all3 gw_996 gw_998 gw_30) (ik_144 hw) (by decide) (q := (RX5, TX5, 11)) rfl rfl rfl rfl (Nat.le_of_ble_eq_true rfl) dX5_readSquare_46 (fun b31 σ32 => ?_)
      exact jo_breturn (pc := 49) (b := b31) rfl rfl dX5_readSquare_49
  · refine jo_iconst (pc := 17) dX5_readSquare_17 (ic_i_0) ?_
    exact jo_breturn (pc := 18) (b := false) rfl rfl dX5_readSquare_18
theorem co_X5_readSquare {w : Wd} (hw : WOK w) {d : Nat} {rec : Mem → Int32 → Option (Bool × Mem)} (hrec : ∀ {τ0 : Mem} {y0 : Int32}, ∀ r τ, rec τ0 y0 = some (r, τ) → MC w (mu_X5_readWord d) (vB r) [.ref (adr w 144), .int y0] τ0 τ) {σ : Mem} {x0 : Int32} : ∀ r σ', o_X5_readSquare rec σ x0 = some (r, σ') → MC w (mu_X5_readSquare d) (vB r) [.ref (adr w 144), .int x0] σ σ' := mc_of (ok_X5_readSquare _) rfl (Nat.le_of_ble_eq_true rfl) (t_X5_readSquare hw hrec)
abbrev mu_X5_readFactor (d : Nat) : MD := (yX5_readFactor, cX5_readFactor, 3, some .boolean, 5 + d + 2)
theorem ok_X5_readFactor (d : Nat) : MOK (mu_X5_readFactor d) 1 := ⟨gw_990, gw_168, (by decide +kernel : plainFor yX5_readFactor = true), ⟨(by decide +kernel : yX5_readFactor.cls ≠ "java/lang/invoke/MethodHandle"), (by decide +kernel : yX5_readFactor.cls ≠ "java/lang/invoke/VarHandle"), (by decide +kernel : (parseMethodDescriptor yX5_readFactor.desc).map (fun d => d.parameters.length) = some 1)⟩, Nat.le_of_ble_eq_true rfl⟩
noncomputable def j_X5_readFactor_49 (rec : Mem → Int32 → Option (Bool × Mem)) (σ : Mem) (x0 : Int32) (v1 : Int32) : Option (Bool × Mem) :=
  if x0 < 8 then (gF σ 144 9 (fun (v2 : Int32) => pF σ 144 9 (v2 + 1) (fun (σ3 : Mem) => if v1 = 40 then (bq (o_X5_readRound rec σ3 x0) (fun (b6 : Bool) (σ7 : Mem) => some (b6, σ7))) else (bq (o_X5_readSquare rec σ3 x0) (fun (b4 : Bool) (σ5 : Mem) => some (b4, σ5)))))) else (gF σ 144 9 (fun (v8 : Int32) => bq (f_X5_fail σ 4 v8) (fun (b9 : Bool) (σ10 : Mem) => some (b9, σ10))))
noncomputable def o_X5_readFactor (rec : Mem → Int32 → Option (Bool × Mem)) (σ : Mem) (x0 : Int32) : Option (Bool × Mem) :=
  (f_X5_signHere σ).bind (fun (v1 : Int32) => if v1 = 82 then (gR 155 x0 (fun (p14 : Nat) => bq (f_X5_readRegister σ p14) (fun (b15 : Bool) (σ16 : Mem) => some (b15, σ16)))) else ((if v1 = 40 then (some (Sum.inl ())) else (if v1 = 91 then (some (Sum.inl ())) else (gR 155 x0 (fun (p11 : Nat) => bq (f_X5_readLetter σ (v1 - 97) p11) (fun (b12 : Bool) (σ13 : Mem) => some (Sum.inr (b12, σ13)))))) : Option (Unit ⊕ (Bool × Mem))).bind (Sum.elim (fun (z1 : Unit) => j_X5_readFactor_49 rec σ x0 v1) some)))
theorem t_X5_readFactor {w : Wd} (hw : WOK w) {d : Nat} {rec : Mem → Int32 → Option (Bool × Mem)} (hrec : ∀ {τ0 : Mem} {y0 : Int32}, ∀ r τ, rec τ0 y0 = some (r, τ) → MC w (mu_X5_readWord d) (vB r) [.ref (adr w 144), .int y0] τ0 τ) {σ : Mem} {x0 : Int32} : JO w (mu_X5_readFactor d) vB σ [(0, .ref (adr w 144)), (1, .int x0)] [] 0 (o_X5_readFactor rec σ x0) some := by
  unfold o_X5_readFactor
  refine jo_aload_n (pc := 0) 0 rfl dX5_readFactor_0 rfl ?_
  refine jo_cV_I_p (pc := 1) (μ' := mu_X5_signHere) (fx := f_X5_signHere σ) (As := []) (c_X5_signHere hw) (ok_X5_signHere) (by simp only [mu_X5_readFactor, mu_X5_signHere]; omega) (all3 gw_980 gw_982 gw_27) (ik_144 hw) (by decide) (q := (RX5, TX5, 11)) rfl rfl rfl rfl (Nat.le_of_ble_eq_true rfl) dX5_readFactor_1 (fun v1 => ?_)
  refine jo_istore_n (pc := 4) (lv' := [(2, .int v1), (0, .ref (adr w 144)), (1, .int x0)]) dX5_readFactor_4 rfl (ltb rfl) rfl ?_
  refine jo_iload_n (pc := 5) 0 rfl dX5_readFactor_5 rfl ?_
  refine jo_bipush (pc := 6) dX5_readFactor_6 (ic_b_82) ?_
  refine jo_icmp_ne (pc := 8) dX5_readFactor_8 (tgt := 22) rfl ?_ ?_
  · refine jo_iload_n (pc := 22) 0 rfl dX5_readFactor_22 rfl ?_
    refine jo_bipush (pc := 23) dX5_readFactor_23 (ic_b_40) ?_
    refine jo_joinS (S := Unit) (fun (z1 : Unit) => σ) (fun (z1 : Unit) => [(2, .int v1), (0, .ref (adr w 144)), (1, .int x0)]) (fun (z1 : Unit) => []) 49 ?_ (fun h49_1 => ?_)
    · intro _
      show JO w (mu_X5_readFactor d) vB σ [(2, .int v1), (0, .ref (adr w 144)), (1, .int x0)] [] 49 (j_X5_readFactor_49 rec σ x0 v1) _
      unfold j_X5_readFactor_49
      refine jo_iload_n (pc := 49) 2 rfl dX5_readFactor_49 rfl ?_
      refine jo_bipush (pc := 50) dX5_readFactor_50 (ic_b_8) ?_
      refine jo_icmp_lt (pc := 52) dX5_readFactor_52 (tgt := 65) rfl ?_ ?_
      · refine jo_aload_n (pc := 65) 1 rfl dX5_readFactor_65 rfl ?_
        refine jo_dup (pc := 66) dX5_readFactor_66 rfl ?_
        refine jo_getf (pc := 67) ok_5_9 (ik_144 hw) gw_483 dX5_readFactor_67 (fun v2 => ?_)
        refine jo_iconst (pc := 70) dX5_readFactor_70 (ic_i_1) ?_
        refine jo_iadd (pc := 71) dX5_readFactor_71 ?_
        refine jo_putf (pc := 72) ok_5_9 okp_5_9 (ik_144 hw) gw_483 dX5_readFactor_72 (fun σ3 => ?_)
        refine jo_iload_n (pc := 75) 0 rfl dX5_readFactor_75 rfl ?_
        refine jo_bipush (pc := 76) dX5_readFactor_76 (ic_b_40) ?_
        refine jo_icmp_ne (pc := 78) dX5_readFactor_78 (tgt := 89) rfl ?_ ?_
        · refine jo_aload_n (pc := 89) 1 rfl dX5_readFactor_89 rfl ?_
          refine jo_iload_n (pc := 90) 2 rfl dX5_readFactor_90 rfl ?_
          refine jo_cV_Z_i (pc := 91) (μ' := (mu_X5_readSquare d)) (fx := o_X5_readSquare rec σ3 x0) (As := [.int x0]) (co_X5_readSquare hw hrec) (ok_X5_readSquare _) (by simp only [mu_X5_readFactor, mu_X5_readSquare]; omega) (all3 gw_1017 gw_1019 gw_34) (ik_144 hw) (by decide) (q := (RX5, TX5, 11)) rfl rfl rfl rfl (Nat.le_of_ble_eq_true rfl) dX5_readFactor_91 (fun b4 σ5 => ?_)
          exact jo_breturn (pc := 94) (b := b4) rfl rfl dX5_readFactor_94
        · refine jo_aload_n (pc := 81) 1 rfl dX5_readFactor_81 rfl ?_
          refine jo_iload_n (pc := 82) 2 rfl dX5_readFactor_82 rfl ?_
          refine jo_cV_Z_i (pc := 83) (μ' := (mu_X5_readRound d)) (fx := o_X5_readRound rec σ3 x0) (As := [.int x0]) (co_X5_readRound hw hrec) (ok_X5_readRound _) (by simp only [mu_X5_readFactor, mu_X5_readRound]; omega) (all3 gw_1013 gw_1015 gw_33) (ik_144 hw) (by decide) (q := (RX5, TX5, 11)) rfl rfl rfl rfl (Nat.le_of_ble_eq_true rfl) dX5_readFactor_83 (fun b6 σ7 => ?_)
          refine jo_goto (pc := 86) dX5_readFactor_86 (tgt := 94) rfl ?_
          exact jo_breturn (pc := 94) (b := b6) rfl rfl dX5_readFactor_94
      · refine jo_aload_n (pc := 55) 1 rfl dX5_readFactor_55 rfl ?_
        refine jo_iconst (pc := 56) dX5_readFactor_56 (ic_i_4) ?_
        refine jo_aload_n (pc := 57) 1 rfl dX5_readFactor_57 rfl ?_
        refine jo_getf (pc := 58) ok_5_9 (ik_144 hw) gw_483 dX5_readFactor_58 (fun v8 => ?_)
        refine jo_cV_Z_i (pc := 61) (μ' := mu_X5_fail) (fx := f_X5_fail σ 4 v8) (As := [.int 4, .int v8]) (c_X5_fail hw) (ok_X5_fail) (by simp only [mu_X5_readFactor, mu_X5_fail]; omega) (all3 gw_996 gw_998 gw_30) (ik_144 hw) (by decide) (q := (RX5, TX5, 11)) rfl rfl rfl rfl (Nat.le_of_ble_eq_true rfl) dX5_readFactor_61 (fun b9 σ10 => ?_)
        exact jo_breturn (pc := 64) (b := b9) rfl rfl dX5_readFactor_64
    · refine jo_icmp_eq (pc := 25) dX5_readFactor_25 (tgt := 49) rfl ?_ ?_
      · exact jo_leaf (by rfl) (h49_1 ())
      · refine jo_iload_n (pc := 28) 0 rfl dX5_readFactor_28 rfl ?_
        refine jo_bipush (pc := 29) dX5_readFactor_29 (ic_b_91) ?_
        refine jo_icmp_eq (pc := 31) dX5_readFactor_31 (tgt := 49) rfl ?_ ?_
        · exact jo_leaf (by rfl) (h49_1 ())
        · refine jo_aload_n (pc := 34) 1 rfl dX5_readFactor_34 rfl ?_
          refine jo_iload_n (pc := 35) 0 rfl dX5_readFactor_35 rfl ?_
          refine jo_bipush (pc := 36) dX5_readFactor_36 (ic_b_97) ?_
          refine jo_isub (pc := 38) dX5_readFactor_38 ?_
          refine jo_aload_n (pc := 39) 1 rfl dX5_readFactor_39 rfl ?_
          refine jo_getrE (pc := 40) ok_5_3 (ik_144 hw) rf_144_3 gw_477 dX5_readFactor_40 ?_
          refine jo_iload_n (pc := 43) 2 rfl dX5_readFactor_43 rfl ?_
          refine jo_aaldG (pc := 44) (z := 13) hw (ik_155 hw) (by decide) (t := 4) rfl rfl (by decide) dX5_readFactor_44 (fun p11 hp11 => ?_)
          refine jo_cV_Z_i (pc := 45) (μ' := mu_X5_readLetter) (fx := f_X5_readLetter σ (v1 - 97) p11) (As := [.int (v1 - 97), .ref (adr w p11)]) (c_X5_readLetter hw (hp11)) (ok_X5_readLetter) (by simp only [mu_X5_readFactor, mu_X5_readLetter]; omega) (all3 gw_1005 gw_1007 gw_32) (ik_144 hw) (by decide) (q := (RX5, TX5, 11)) rfl rfl rfl rfl (Nat.le_of_ble_eq_true rfl) dX5_readFactor_45 (fun b12 σ13 => ?_)
          exact jo_breturn (pc := 48) (b := b12) rfl rfl dX5_readFactor_48
  · refine jo_aload_n (pc := 11) 1 rfl dX5_readFactor_11 rfl ?_
    refine jo_aload_n (pc := 12) 1 rfl dX5_readFactor_12 rfl ?_
    refine jo_getrE (pc := 13) ok_5_3 (ik_144 hw) rf_144_3 gw_477 dX5_readFactor_13 ?_
    refine jo_iload_n (pc := 16) 2 rfl dX5_readFactor_16 rfl ?_
    refine jo_aaldG (pc := 17) (z := 13) hw (ik_155 hw) (by decide) (t := 4) rfl rfl (by decide) dX5_readFactor_17 (fun p14 hp14 => ?_)
    refine jo_cV_Z_i (pc := 18) (μ' := mu_X5_readRegister) (fx := f_X5_readRegister σ p14) (As := [.ref (adr w p14)]) (c_X5_readRegister hw (hp14)) (ok_X5_readRegister) (by simp only [mu_X5_readFactor, mu_X5_readRegister]; omega) (all3 gw_991 gw_993 gw_29) (ik_144 hw) (by decide) (q := (RX5, TX5, 11)) rfl rfl rfl rfl (Nat.le_of_ble_eq_true rfl) dX5_readFactor_18 (fun b15 σ16 => ?_)
    exact jo_breturn (pc := 21) (b := b15) rfl rfl dX5_readFactor_21
theorem co_X5_readFactor {w : Wd} (hw : WOK w) {d : Nat} {rec : Mem → Int32 → Option (Bool × Mem)} (hrec : ∀ {τ0 : Mem} {y0 : Int32}, ∀ r τ, rec τ0 y0 = some (r, τ) → MC w (mu_X5_readWord d) (vB r) [.ref (adr w 144), .int y0] τ0 τ) {σ : Mem} {x0 : Int32} : ∀ r σ', o_X5_readFactor rec σ x0 = some (r, σ') → MC w (mu_X5_readFactor d) (vB r) [.ref (adr w 144), .int x0] σ σ' := mc_of (ok_X5_readFactor _) rfl (Nat.le_of_ble_eq_true rfl) (t_X5_readFactor hw hrec)
noncomputable def j_X5_readWord_91 (rec : Mem → Int32 → Option (Bool × Mem)) (σ3 : Mem) : Option (Bool × Mem) :=
  gF σ3 144 10 (fun (v4 : Int32) => bq (f_X5_fail σ3 5 v4) (fun (b5 : Bool) (σ6 : Mem) => some (b5, σ6)))
noncomputable def l_X5_readWord_26 (rec : Mem → Int32 → Option (Bool × Mem)) (x0 : Int32) (p1 : Nat) (σ7 : Mem) (i8 : Int32) : Option ((Mem × Int32) ⊕ (Mem ⊕ (Bool × Mem))) :=
  if 200 ≤ i8 then (some (Sum.inr (Sum.inr (true, σ7)))) else (bq (f_X5_skipBlanks σ7) (fun (v9 : Int32) (σ10 : Mem) => (f_X5_beginsFactor σ10 v9).bind (fun (b11 : Bool) => if b11 then bq (o_X5_readFactor rec σ10 x0) (fun (b12 : Bool) (σ13 : Mem) => if b12 then gR 155 x0 (fun (p14 : Nat) => bq (f_X5_readPower σ13 p14) (fun (b15 : Bool) (σ16 : Mem) => if b15 then gR 155 x0 (fun (p17 : Nat) => (f_X0_product σ16 p1 p1 p17).bind (fun (σ18 : Mem) => (f_X0_isWithin σ18 p1 999).bind (fun (b19 : Bool) => if b19 then some (Sum.inl (σ18, i8 + 1)) else some (Sum.inr (Sum.inl σ18))))) else some (Sum.inr (Sum.inr (false, σ16))))) else some (Sum.inr (Sum.inr (false, σ13)))) else some (Sum.inr (Sum.inr (true, σ10))))))
noncomputable def o_X5_readWord (rec : Mem → Int32 → Option (Bool × Mem)) (σ : Mem) (x0 : Int32) : Option (Bool × Mem) :=
  if x0 < 0 then (some (false, σ)) else (if x0 ≤ 8 then (gR 145 x0 (fun (p1 : Nat) => (f_J7_fill_d0a16 σ p1 0).bind (fun (σ2 : Mem) => (loopO (fun (z8 : (Mem × Int32)) => l_X5_readWord_26 rec x0 p1 z8.1 z8.2) (σ2, 0) : Option (Mem ⊕ (Bool × Mem))).bind (Sum.elim (fun (z3 : Mem) => j_X5_readWord_91 rec z3) some)))) else (some (false, σ)))
theorem t_X5_readWord {w : Wd} (hw : WOK w) {d : Nat} {rec : Mem → Int32 → Option (Bool × Mem)} (hrec : ∀ {τ0 : Mem} {y0 : Int32}, ∀ r τ, rec τ0 y0 = some (r, τ) → MC w (mu_X5_readWord d) (vB r) [.ref (adr w 144), .int y0] τ0 τ) {σ : Mem} {x0 : Int32} : JO w (mu_X5_readWord (d + 3)) vB σ [(0, .ref (adr w 144)), (1, .int x0)] [] 0 (o_X5_readWord rec σ x0) some := by
  unfold o_X5_readWord
  refine jo_iload_n (pc := 0) 1 rfl dX5_readWord_0 rfl ?_
  refine jo_if_lt (pc := 1) dX5_readWord_1 (tgt := 10) rfl ?_ ?_
  · refine jo_iconst (pc := 10) dX5_readWord_10 (ic_i_0) ?_
    exact jo_breturn (pc := 11) (b := false) rfl rfl dX5_readWord_11
  · refine jo_iload_n (pc := 4) 1 rfl dX5_readWord_4 rfl ?_
    refine jo_bipush (pc := 5) dX5_readWord_5 (ic_b_8) ?_
    refine jo_icmp_le (pc := 7) dX5_readWord_7 (tgt := 12) rfl ?_ ?_
    · refine jo_aload_n (pc := 12) 0 rfl dX5_readWord_12 rfl ?_
      refine jo_getrE (pc := 13) ok_5_2 (ik_144 hw) rf_144_2 gw_475 dX5_readWord_13 ?_
      refine jo_iload_n (pc := 16) 1 rfl dX5_readWord_16 rfl ?_
      refine jo_aaldG (pc := 17) (z := 13) hw (ik_145 hw) (by decide) (t := 4) rfl rfl (by decide) dX5_readWord_17 (fun p1 hp1 => ?_)
      refine jo_astore_n (pc := 18) (lv' := [(2, .ref (adr w p1)), (0, .ref (adr w 144)), (1, .int x0)]) dX5_readWord_18 rfl (ltb rfl) rfl ?_
      refine jo_aload_n (pc := 19) 0 rfl dX5_readWord_19 rfl ?_
      refine jo_lconst (pc := 20) dX5_readWord_20 (ic_l_0) ?_
      refine jo_cS_V_i (pc := 21) (μ' := mu_J7_fill_d0a16) (fx := f_J7_fill_d0a16 σ p1 0) (As := [.ref (adr w p1), .long 0]) (c_J7_fill_d0a16 hw (hp1)) (ok_J7_fill_d0a16) (by simp only [mu_X5_readWord, mu_J7_fill_d0a16]; omega) (all2 gw_975 gw_715) rfl rfl (Nat.le_of_ble_eq_true rfl) dX5_readWord_21 (fun σ2 => ?_)
      refine jo_iconst (pc := 24) dX5_readWord_24 (ic_i_0) ?_
      refine jo_istore_n (pc := 25) (lv' := [(3, .int 0), (2, .ref (adr w p1)), (0, .ref (adr w 144)), (1, .int x0)]) dX5_readWord_25 rfl (ltb rfl) rfl ?_
      refine jo_joinS (S := Mem) (fun (z3 : Mem) => z3) (fun (z3 : Mem) => [(0, .ref (adr w 144))]) (fun (z3 : Mem) => []) 91 ?_ (fun h91_3 => ?_)
      · intro σ3
        show JO w (mu_X5_readWord (d + 3)) vB σ3 [(0, .ref (adr w 144))] [] 91 (j_X5_readWord_91 rec σ3) _
        unfold j_X5_readWord_91
        refine jo_aload_n (pc := 91) 0 rfl dX5_readWord_91 rfl ?_
        refine jo_iconst (pc := 92) dX5_readWord_92 (ic_i_5) ?_
        refine jo_aload_n (pc := 93) 0 rfl dX5_readWord_93 rfl ?_
        refine jo_getf (pc := 94) ok_5_10 (ik_144 hw) gw_484 dX5_readWord_94 (fun v4 => ?_)
        refine jo_cV_Z_i (pc := 97) (μ' := mu_X5_fail) (fx := f_X5_fail σ3 5 v4) (As := [.int 5, .int v4]) (c_X5_fail hw) (ok_X5_fail) (by simp only [mu_X5_readWord, mu_X5_fail]; omega) (all3 gw_996 gw_998 gw_30) (ik_144 hw) (by decide) (q := (RX5, TX5, 11)) rfl rfl rfl rfl (Nat.le_of_ble_eq_true rfl) dX5_readWord_97 (fun b5 σ6 => ?_)
        exact jo_breturn (pc := 100) (b := b5) rfl rfl dX5_readWord_100
      · refine jo_lv (lv' := [(2, .ref (adr w p1)), (0, .ref (adr w 144)), (1, .int x0), (3, .int 0)]) [1, 2, 3, 0] rfl ?_
        refine jo_loop (X := Mem ⊕ (Bool × Mem)) (fun (z8 : (Mem × Int32)) => z8.1) (fun (z8 : (Mem × Int32)) => [(2, .ref (adr w p1)), (0, .ref (adr w 144)), (1, .int x0), (3, .int z8.2)]) (body := (fun (z8 : (Mem × Int32)) => l_X5_readWord_26 rec x0 p1 z8.1 z8.2)) (fun F26_8 hF26_8 s => ?_) (σ2, 0)
        obtain ⟨σ7, i8⟩ := s
        show JO w (mu_X5_readWord (d + 3)) vB σ7 [(2, .ref (adr w p1)), (0, .ref (adr w 144)), (1, .int x0), (3, .int i8)] [] 26 (l_X5_readWord_26 rec x0 p1 σ7 i8) _
        unfold l_X5_readWord_26
        refine jo_iload_n (pc := 26) 3 rfl dX5_readWord_26 rfl ?_
        refine jo_sipush (pc := 27) dX5_readWord_27 (ic_s_200) ?_
        refine jo_icmp_ge (pc := 30) dX5_readWord_30 (tgt := 107) rfl ?_ ?_
        · refine jo_iconst (pc := 107) dX5_readWord_107 (ic_i_1) ?_
          exact jo_breturn (pc := 108) (b := true) rfl rfl dX5_readWord_108
        · refine jo_aload_n (pc := 33) 1 rfl dX5_readWord_33 rfl ?_
          refine jo_cV_I_i (pc := 34) (μ' := mu_X5_skipBlanks) (fx := f_X5_skipBlanks σ7) (As := []) (c_X5_skipBlanks hw) (ok_X5_skipBlanks) (by simp only [mu_X5_readWord, mu_X5_skipBlanks]; omega) (all3 gw_976 gw_978 gw_26) (ik_144 hw) (by decide) (q := (RX5, TX5, 11)) rfl rfl rfl rfl (Nat.le_of_ble_eq_true rfl) dX5_readWord_34 (fun v9 σ10 => ?_)
          refine jo_cS_Z_p (pc := 37) (μ' := mu_X5_beginsFactor) (fx := f_X5_beginsFactor σ10 v9) (As := [.int v9]) (c_X5_beginsFactor hw) (ok_X5_beginsFactor) (by simp only [mu_X5_readWord, mu_X5_beginsFactor]; omega) (all2 gw_984 gw_985) rfl rfl (Nat.le_of_ble_eq_true rfl) dX5_readWord_37 (fun b11 => ?_)
          refine jo_ifz_eq (pc := 40) dX5_readWord_40 (tgt := 107) rfl ?_ ?_
          · refine jo_iconst (pc := 107) dX5_readWord_107 (ic_i_1) ?_
            exact jo_breturn (pc := 108) (b := true) rfl rfl dX5_readWord_108
          · refine jo_aload_n (pc := 43) 1 rfl dX5_readWord_43 rfl ?_
            refine jo_iload_n (pc := 44) 2 rfl dX5_readWord_44 rfl ?_
            refine jo_cV_Z_i (pc := 45) (μ' := (mu_X5_readFactor d)) (fx := o_X5_readFactor rec σ10 x0) (As := [.int x0]) (co_X5_readFactor hw hrec) (ok_X5_readFactor _) (by simp only [mu_X5_readWord, mu_X5_readFactor]; omega) (all3 gw_987 gw_989 gw_28) (ik_144 hw) (by decide) (q := (RX5, TX5, 11)) rfl rfl rfl rfl (Nat.le_of_ble_eq_true rfl) dX5_readWord_45 (fun b12 σ13 => ?_)
            refine jo_ifz_eq (pc := 48) dX5_readWord_48 (tgt := 64) rfl ?_ ?_
            · refine jo_iconst (pc := 64) dX5_readWord_64 (ic_i_0) ?_
              exact jo_breturn (pc := 65) (b := false) rfl rfl dX5_readWord_65
            · refine jo_aload_n (pc := 51) 1 rfl dX5_readWord_51 rfl ?_
              refine jo_aload_n (pc := 52) 1 rfl dX5_readWord_52 rfl ?_
              refine jo_getrE (pc := 53) ok_5_3 (ik_144 hw) rf_144_3 gw_477 dX5_readWord_53 ?_
              refine jo_iload_n (pc := 56) 2 rfl dX5_readWord_56 rfl ?_
              refine jo_aaldG (pc := 57) (z := 13) hw (ik_155 hw) (by decide) (t := 4) rfl rfl (by decide) dX5_readWord_57 (fun p14 hp14 => ?_)
              refine jo_cV_Z_i (pc := 58) (μ' := mu_X5_readPower) (fx := f_X5_readPower σ13 p14) (As := [.ref (adr w p14)]) (c_X5_readPower hw (hp14)) (ok_X5_readPower) (by simp only [mu_X5_readWord, mu_X5_readPower]; omega) (all3 gw_1024 gw_1026 gw_35) (ik_144 hw) (by decide) (q := (RX5, TX5, 11)) rfl rfl rfl rfl (Nat.le_of_ble_eq_true rfl) dX5_readWord_58 (fun b15 σ16 => ?_)
              refine jo_ifz_ne (pc := 61) dX5_readWord_61 (tgt := 66) rfl ?_ ?_
              · refine jo_aload_n (pc := 66) 1 rfl dX5_readWord_66 rfl ?_
                refine jo_getrE (pc := 67) ok_5_6 (ik_144 hw) rf_144_6 gw_480 dX5_readWord_67 ?_
                refine jo_aload_n (pc := 70) 0 rfl dX5_readWord_70 rfl ?_
                refine jo_aload_n (pc := 71) 0 rfl dX5_readWord_71 rfl ?_
                refine jo_aload_n (pc := 72) 1 rfl dX5_readWord_72 rfl ?_
                refine jo_getrE (pc := 73) ok_5_3 (ik_144 hw) rf_144_3 gw_477 dX5_readWord_73 ?_
                refine jo_iload_n (pc := 76) 2 rfl dX5_readWord_76 rfl ?_
                refine jo_aaldG (pc := 77) (z := 13) hw (ik_155 hw) (by decide) (t := 4) rfl rfl (by decide) dX5_readWord_77 (fun p17 hp17 => ?_)
                refine jo_cV_V_i (pc := 78) (μ' := mu_X0_product) (fx := f_X0_product σ16 p1 p1 p17) (As := [.ref (adr w p1), .ref (adr w p1), .ref (adr w p17)]) (c_X0_product hw (hp1) (hp1) (hp17)) (ok_X0_product) (by simp only [mu_X5_readWord, mu_X0_product]; omega) (all3 gw_1032 gw_815 gw_816) (ik_72 hw) (by decide) (q := (RX0, TX0, 8)) rfl rfl rfl rfl (Nat.le_of_ble_eq_true rfl) dX5_readWord_78 (fun σ18 => ?_)
                refine jo_aload_n (pc := 81) 0 rfl dX5_readWord_81 rfl ?_
                refine jo_ldc2 (pc := 82) dX5_readWord_82 gw_1022 ?_
                refine jo_cS_Z_p (pc := 85) (μ' := mu_X0_isWithin) (fx := f_X0_isWithin σ18 p1 999) (As := [.ref (adr w p1), .long 999]) (c_X0_isWithin hw (hp1)) (ok_X0_isWithin) (by simp only [mu_X5_readWord, mu_X0_isWithin]; omega) (all2 gw_1023 gw_826) rfl rfl (Nat.le_of_ble_eq_true rfl) dX5_readWord_85 (fun b19 => ?_)
                refine jo_ifz_ne (pc := 88) dX5_readWord_88 (tgt := 101) rfl ?_ ?_
                · refine jo_iinc (pc := 101) (lv' := [(3, .int (i8 + 1)), (2, .ref (adr w p1)), (0, .ref (adr w 144)), (1, .int x0)]) 3 rfl dX5_readWord_101 (congrArg (fun z => i8 + z) (ic_i_1)) (ltb rfl) rfl ?_
                  refine jo_goto (pc := 104) dX5_readWord_104 (tgt := 26) rfl ?_
                  refine jo_lv (lv' := [(2, .ref (adr w p1)), (0, .ref (adr w 144)), (1, .int x0), (3, .int (i8 + 1))]) [1, 2, 3, 0] rfl ?_
                  exact jo_leaf (by rfl) (hF26_8 (σ18, i8 + 1))
                · refine jo_lv (lv' := [(0, .ref (adr w 144))]) [1] rfl ?_
                  exact jo_leaf (by rfl) (h91_3 σ18)
              · refine jo_iconst (pc := 64) dX5_readWord_64 (ic_i_0) ?_
                exact jo_breturn (pc := 65) (b := false) rfl rfl dX5_readWord_65
    · refine jo_iconst (pc := 10) dX5_readWord_10 (ic_i_0) ?_
      exact jo_breturn (pc := 11) (b := false) rfl rfl dX5_readWord_11
theorem co_X5_readWord {w : Wd} (hw : WOK w) {d : Nat} {rec : Mem → Int32 → Option (Bool × Mem)} (hrec : ∀ {τ0 : Mem} {y0 : Int32}, ∀ r τ, rec τ0 y0 = some (r, τ) → MC w (mu_X5_readWord d) (vB r) [.ref (adr w 144), .int y0] τ0 τ) {σ : Mem} {x0 : Int32} : ∀ r σ', o_X5_readWord rec σ x0 = some (r, σ') → MC w (mu_X5_readWord (d + 3)) (vB r) [.ref (adr w 144), .int x0] σ σ' := mc_of (ok_X5_readWord _) rfl (Nat.le_of_ble_eq_true rfl) (t_X5_readWord hw hrec)
noncomputable def f_X5_readWord : Nat → Mem → Int32 → Option (Bool × Mem)
  | 0 => fun _ _ => none
  | n + 1 => fun σ x0 => o_X5_readWord (f_X5_readWord n) σ x0
theorem c_X5_readWord (n : Nat) {w : Wd} (hw : WOK w) {σ : Mem} {x0 : Int32} : ∀ r σ', f_X5_readWord n σ x0 = some (r, σ') → MC w (mu_X5_readWord (3 * n)) (vB r) [.ref (adr w 144), .int x0] σ σ' := by
  induction n generalizing σ x0 with
  | zero => intro r σ' h; cases h
  | succ n ih => exact co_X5_readWord hw (rec := f_X5_readWord n) (d := 3 * n) ih
end
section
abbrev mu_X5_read : MD := (yX5_read, cX5_read, 3, some .boolean, 36)
theorem ok_X5_read : MOK mu_X5_read 2 := ⟨gw_967, gw_168, (by decide +kernel : plainFor yX5_read = true), ⟨(by decide +kernel : yX5_read.cls ≠ "java/lang/invoke/MethodHandle"), (by decide +kernel : yX5_read.cls ≠ "java/lang/invoke/VarHandle"), (by decide +kernel : (parseMethodDescriptor yX5_read.desc).map (fun d => d.parameters.length) = some 2)⟩, Nat.le_of_ble_eq_true rfl⟩
noncomputable def j_X5_read_77 (σ13 : Mem) : Option (Bool × Mem) :=
  some (true, σ13)
noncomputable def f_X5_read (σ : Mem) (x0 : Nat) (x1 : Int32) : Option (Bool × Mem) :=
  (f_J9_min_7cf53 σ (Int32.ofNat (ln x0)) 200).bind (fun (v1 : Int32) => (f_J9_min_7cf53 σ x1 v1).bind (fun (v2 : Int32) => (f_J9_max_7cf53 σ 0 v2).bind (fun (v3 : Int32) => pF σ 144 8 v3 (fun (σ4 : Mem) => gF σ4 144 8 (fun (v5 : Int32) => cI σ4 x0 0 175 0 v5 (fun (σ6 : Mem) => pF σ6 144 9 0 (fun (σ7 : Mem) => pF σ7 144 10 0 (fun (σ8 : Mem) => bq (f_X5_readWord 10 σ8 0) (fun (b9 : Bool) (σ10 : Mem) => if b9 then gF σ10 144 9 (fun (v11 : Int32) => gF σ10 144 8 (fun (v12 : Int32) => (if v12 ≤ v11 then (some (Sum.inl σ10)) else (gF σ10 144 9 (fun (v14 : Int32) => bq (f_X5_fail σ10 1 v14) (fun (b15 : Bool) (σ16 : Mem) => if b15 then some (Sum.inl σ16) else some (Sum.inr (false, σ16))))) : Option (Mem ⊕ (Bool × Mem))).bind (Sum.elim (fun (z13 : Mem) => j_X5_read_77 z13) some))) else some (false, σ10))))))))))
theorem t_X5_read {w : Wd} (hw : WOK w) {σ : Mem} {x0 : Nat} {x1 : Int32} (hx0 : isk w x0 12) : JO w mu_X5_read vB σ [(0, .ref (adr w 144)), (1, .ref (adr w x0)), (2, .int x1)] [] 0 (f_X5_read σ x0 x1) some := by
  unfold f_X5_read
  refine jo_aload_n (pc := 0) 0 rfl dX5_read_0 rfl ?_
  refine jo_iconst (pc := 1) dX5_read_1 (ic_i_0) ?_
  refine jo_iload_n (pc := 2) 2 rfl dX5_read_2 rfl ?_
  refine jo_aload_n (pc := 3) 1 rfl dX5_read_3 rfl ?_
  refine jo_alenI (pc := 4) (hx0) (by decide) (t := 0) rfl dX5_read_4 ?_
  refine jo_sipush (pc := 5) dX5_read_5 (ic_s_200) ?_
  refine jo_cS_I_p (pc := 8) (μ' := mu_J9_min_7cf53) (fx := f_J9_min_7cf53 σ (Int32.ofNat (ln x0)) 200) (As := [.int (Int32.ofNat (ln x0)), .int 200]) (c_J9_min_7cf53 hw) (ok_J9_min_7cf53) (ltb rfl) (all2 gw_968 gw_708) rfl rfl (Nat.le_of_ble_eq_true rfl) dX5_read_8 (fun v1 => ?_)
  refine jo_cS_I_p (pc := 11) (μ' := mu_J9_min_7cf53) (fx := f_J9_min_7cf53 σ x1 v1) (As := [.int x1, .int v1]) (c_J9_min_7cf53 hw) (ok_J9_min_7cf53) (ltb rfl) (all2 gw_968 gw_708) rfl rfl (Nat.le_of_ble_eq_true rfl) dX5_read_11 (fun v2 => ?_)
  refine jo_cS_I_p (pc := 14) (μ' := mu_J9_max_7cf53) (fx := f_J9_max_7cf53 σ 0 v2) (As := [.int 0, .int v2]) (c_J9_max_7cf53 hw) (ok_J9_max_7cf53) (ltb rfl) (all2 gw_969 gw_752) rfl rfl (Nat.le_of_ble_eq_true rfl) dX5_read_14 (fun v3 => ?_)
  refine jo_putf (pc := 17) ok_5_8 okp_5_8 (ik_144 hw) gw_482 dX5_read_17 (fun σ4 => ?_)
  refine jo_aload_n (pc := 20) 1 rfl dX5_read_20 rfl ?_
  refine jo_iconst (pc := 21) dX5_read_21 (ic_i_0) ?_
  refine jo_aload_n (pc := 22) 0 rfl dX5_read_22 rfl ?_
  refine jo_getrE (pc := 23) ok_5_7 (ik_144 hw) rf_144_7 gw_481 dX5_read_23 ?_
  refine jo_iconst (pc := 26) dX5_read_26 (ic_i_0) ?_
  refine jo_aload_n (pc := 27) 0 rfl dX5_read_27 rfl ?_
  refine jo_getf (pc := 28) ok_5_8 (ik_144 hw) gw_482 dX5_read_28 (fun v5 => ?_)
  refine jo_acI (pc := 31) (hx0) (ik_175 hw) (all4 gw_970 gw_547 gw_546 gw_170) (ltb rfl) (Nat.le_of_ble_eq_true rfl) dX5_read_31 (fun σ6 => ?_)
  refine jo_aload_n (pc := 34) 0 rfl dX5_read_34 rfl ?_
  refine jo_iconst (pc := 35) dX5_read_35 (ic_i_0) ?_
  refine jo_putf (pc := 36) ok_5_9 okp_5_9 (ik_144 hw) gw_483 dX5_read_36 (fun σ7 => ?_)
  refine jo_aload_n (pc := 39) 0 rfl dX5_read_39 rfl ?_
  refine jo_iconst (pc := 40) dX5_read_40 (ic_i_0) ?_
  refine jo_putf (pc := 41) ok_5_10 okp_5_10 (ik_144 hw) gw_484 dX5_read_41 (fun σ8 => ?_)
  refine jo_aload_n (pc := 44) 0 rfl dX5_read_44 rfl ?_
  refine jo_iconst (pc := 45) dX5_read_45 (ic_i_0) ?_
  refine jo_cV_Z_i (pc := 46) (μ' := (mu_X5_readWord 30)) (fx := f_X5_readWord 10 σ8 0) (As := [.int 0]) (c_X5_readWord 10 hw) (ok_X5_readWord _) (ltb rfl) (all3 gw_971 gw_973 gw_25) (ik_144 hw) (by decide) (q := (RX5, TX5, 11)) rfl rfl rfl rfl (Nat.le_of_ble_eq_true rfl) dX5_read_46 (fun b9 σ10 => ?_)
  refine jo_ifz_ne (pc := 49) dX5_read_49 (tgt := 54) rfl ?_ ?_
  · refine jo_aload_n (pc := 54) 0 rfl dX5_read_54 rfl ?_
    refine jo_getf (pc := 55) ok_5_9 (ik_144 hw) gw_483 dX5_read_55 (fun v11 => ?_)
    refine jo_aload_n (pc := 58) 0 rfl dX5_read_58 rfl ?_
    refine jo_getf (pc := 59) ok_5_8 (ik_144 hw) gw_482 dX5_read_59 (fun v12 => ?_)
    refine jo_joinS (S := Mem) (fun (z13 : Mem) => z13) (fun (z13 : Mem) => []) (fun (z13 : Mem) => []) 77 ?_ (fun h77_13 => ?_)
    · intro σ13
      show JO w mu_X5_read vB σ13 [] [] 77 (j_X5_read_77 σ13) _
      unfold j_X5_read_77
      refine jo_iconst (pc := 77) dX5_read_77 (ic_i_1) ?_
      refine jo_goto (pc := 78) dX5_read_78 (tgt := 82) rfl ?_
      exact jo_breturn (pc := 82) (b := true) rfl rfl dX5_read_82
    · refine jo_icmp_ge (pc := 62) dX5_read_62 (tgt := 77) rfl ?_ ?_
      · refine jo_lv (lv' := []) [] rfl ?_
        exact jo_leaf (by rfl) (h77_13 σ10)
      · refine jo_aload_n (pc := 65) 0 rfl dX5_read_65 rfl ?_
        refine jo_iconst (pc := 66) dX5_read_66 (ic_i_1) ?_
        refine jo_aload_n (pc := 67) 0 rfl dX5_read_67 rfl ?_
        refine jo_getf (pc := 68) ok_5_9 (ik_144 hw) gw_483 dX5_read_68 (fun v14 => ?_)
        refine jo_cV_Z_i (pc := 71) (μ' := mu_X5_fail) (fx := f_X5_fail σ10 1 v14) (As := [.int 1, .int v14]) (c_X5_fail hw) (ok_X5_fail) (ltb rfl) (all3 gw_996 gw_998 gw_30) (ik_144 hw) (by decide) (q := (RX5, TX5, 11)) rfl rfl rfl rfl (Nat.le_of_ble_eq_true rfl) dX5_read_71 (fun b15 σ16 => ?_)
        refine jo_ifz_eq (pc := 74) dX5_read_74 (tgt := 81) rfl ?_ ?_
        · refine jo_iconst (pc := 81) dX5_read_81 (ic_i_0) ?_
          exact jo_breturn (pc := 82) (b := false) rfl rfl dX5_read_82
        · refine jo_lv (lv' := []) [] rfl ?_
          exact jo_leaf (by rfl) (h77_13 σ16)
  · refine jo_iconst (pc := 52) dX5_read_52 (ic_i_0) ?_
    exact jo_breturn (pc := 53) (b := false) rfl rfl dX5_read_53
theorem c_X5_read {w : Wd} (hw : WOK w) {σ : Mem} {x0 : Nat} {x1 : Int32} (hx0 : isk w x0 12) : ∀ r σ', f_X5_read σ x0 x1 = some (r, σ') → MC w mu_X5_read (vB r) [.ref (adr w 144), .ref (adr w x0), .int x1] σ σ' := mc_of ok_X5_read rfl (Nat.le_of_ble_eq_true rfl) (t_X5_read hw hx0)
abbrev mu_X6_areWeights : MD := (yX6_areWeights, cX6_areWeights, 5, some .boolean, 0)
theorem ok_X6_areWeights : MOK mu_X6_areWeights 2 := ⟨gw_689, gw_160, (by decide +kernel : plainFor yX6_areWeights = true), ⟨(by decide +kernel : yX6_areWeights.cls ≠ "java/lang/invoke/MethodHandle"), (by decide +kernel : yX6_areWeights.cls ≠ "java/lang/invoke/VarHandle"), (by decide +kernel : (parseMethodDescriptor yX6_areWeights.desc).map (fun d => d.parameters.length) = some 2)⟩, Nat.le_of_ble_eq_true rfl⟩
noncomputable def l_X6_areWeights_30 (x0 : Int32) (x1 : Int32) (i1 : Int32) (i2 : Int32) : Option ((Int32 × Int32) ⊕ Bool) :=
  if x0 ≤ i2 then (some (Sum.inr true)) else (bd ((x1 >>> ((2 * i2) &&& 31)) &&& 3) (fun (v3 : Int32) => if i1 ≤ v3 then (some (Sum.inl (v3, i2 + 1))) else (some (Sum.inr false))))
noncomputable def f_X6_areWeights (σ : Mem) (x0 : Int32) (x1 : Int32) : Option Bool :=
  if x0 < 1 then (some false) else (if 6 < x0 then (some false) else (if x1 < 0 then (some false) else (if x1 < (1 <<< ((2 * x0) &&& 31)) then (loopO (fun (z2 : (Int32 × Int32)) => l_X6_areWeights_30 x0 x1 z2.1 z2.2) (1, 0)) else (some false))))
theorem t_X6_areWeights {w : Wd} (hw : WOK w) {σ : Mem} {x0 : Int32} {x1 : Int32} : JO w mu_X6_areWeights vB σ [(0, .int x0), (1, .int x1)] [] 0 (f_X6_areWeights σ x0 x1) (fun z => some (z, σ)) := by
  unfold f_X6_areWeights
  refine jo_iload_n (pc := 0) 0 rfl dX6_areWeights_0 rfl ?_
  refine jo_iconst (pc := 1) dX6_areWeights_1 (ic_i_1) ?_
  refine jo_icmp_lt (pc := 2) dX6_areWeights_2 (tgt := 24) rfl ?_ ?_
  · refine jo_iconst (pc := 24) dX6_areWeights_24 (ic_i_0) ?_
    exact jo_breturn (pc := 25) (b := false) rfl rfl dX6_areWeights_25
  · refine jo_iload_n (pc := 5) 0 rfl dX6_areWeights_5 rfl ?_
    refine jo_bipush (pc := 6) dX6_areWeights_6 (ic_b_6) ?_
    refine jo_icmp_gt (pc := 8) dX6_areWeights_8 (tgt := 24) rfl ?_ ?_
    · refine jo_iconst (pc := 24) dX6_areWeights_24 (ic_i_0) ?_
      exact jo_breturn (pc := 25) (b := false) rfl rfl dX6_areWeights_25
    · refine jo_iload_n (pc := 11) 1 rfl dX6_areWeights_11 rfl ?_
      refine jo_if_lt (pc := 12) dX6_areWeights_12 (tgt := 24) rfl ?_ ?_
      · refine jo_iconst (pc := 24) dX6_areWeights_24 (ic_i_0) ?_
        exact jo_breturn (pc := 25) (b := false) rfl rfl dX6_areWeights_25
      · refine jo_iload_n (pc := 15) 1 rfl dX6_areWeights_15 rfl ?_
        refine jo_iconst (pc := 16) dX6_areWeights_16 (ic_i_1) ?_
        refine jo_iconst (pc := 17) dX6_areWeights_17 (ic_i_2) ?_
        refine jo_iload_n (pc := 18) 0 rfl dX6_areWeights_18 rfl ?_
        refine jo_imul (pc := 19) dX6_areWeights_19 ?_
        refine jo_ishl (pc := 20) dX6_areWeights_20 ?_
        refine jo_icmp_lt (pc := 21) dX6_areWeights_21 (tgt := 26) rfl ?_ ?_
        · refine jo_iconst (pc := 26) dX6_areWeights_26 (ic_i_1) ?_
          refine jo_istore_n (pc := 27) (lv' := [(2, .int 1), (0, .int x0), (1, .int x1)]) dX6_areWeights_27 rfl (ltb rfl) rfl ?_
          refine jo_iconst (pc := 28) dX6_areWeights_28 (ic_i_0) ?_
          refine jo_istore_n (pc := 29) (lv' := [(3, .int 0), (2, .int 1), (0, .int x0), (1, .int x1)]) dX6_areWeights_29 rfl (ltb rfl) rfl ?_
          refine jo_lv (lv' := [(0, .int x0), (1, .int x1), (2, .int 1), (3, .int 0)]) [2, 3, 1, 0] rfl ?_
          refine jo_loop (X := Bool) (fun (z2 : (Int32 × Int32)) => σ) (fun (z2 : (Int32 × Int32)) => [(0, .int x0), (1, .int x1), (2, .int z2.1), (3, .int z2.2)]) (body := (fun (z2 : (Int32 × Int32)) => l_X6_areWeights_30 x0 x1 z2.1 z2.2)) (fun F30_2 hF30_2 s => ?_) (1, 0)
          obtain ⟨i1, i2⟩ := s
          show JO w mu_X6_areWeights vB σ [(0, .int x0), (1, .int x1), (2, .int i1), (3, .int i2)] [] 30 (l_X6_areWeights_30 x0 x1 i1 i2) _
          unfold l_X6_areWeights_30
          refine jo_iload_n (pc := 30) 3 rfl dX6_areWeights_30 rfl ?_
          refine jo_iload_n (pc := 31) 0 rfl dX6_areWeights_31 rfl ?_
          refine jo_icmp_ge (pc := 32) dX6_areWeights_32 (tgt := 61) rfl ?_ ?_
          · refine jo_iconst (pc := 61) dX6_areWeights_61 (ic_i_1) ?_
            exact jo_breturn (pc := 62) (b := true) rfl rfl dX6_areWeights_62
          · refine jo_iload_n (pc := 35) 1 rfl dX6_areWeights_35 rfl ?_
            refine jo_iconst (pc := 36) dX6_areWeights_36 (ic_i_2) ?_
            refine jo_iload_n (pc := 37) 3 rfl dX6_areWeights_37 rfl ?_
            refine jo_imul (pc := 38) dX6_areWeights_38 ?_
            refine jo_ishr (pc := 39) dX6_areWeights_39 ?_
            refine jo_iconst (pc := 40) dX6_areWeights_40 (ic_i_3) ?_
            refine jo_iand (pc := 41) dX6_areWeights_41 ?_
            refine jo_bd ?_
            refine jo_istore (pc := 42) (lv' := [(4, .int ((x1 >>> ((2 * i2) &&& 31)) &&& 3)), (0, .int x0), (1, .int x1), (2, .int i1), (3, .int i2)]) dX6_areWeights_42 (ltb rfl) rfl ?_
            generalize ((x1 >>> ((2 * i2) &&& 31)) &&& 3) = v3
            refine jo_iload (pc := 44) 0 rfl dX6_areWeights_44 ?_
            refine jo_iload_n (pc := 46) 3 rfl dX6_areWeights_46 rfl ?_
            refine jo_icmp_ge (pc := 47) dX6_areWeights_47 (tgt := 52) rfl ?_ ?_
            · refine jo_iload (pc := 52) 0 rfl dX6_areWeights_52 ?_
              refine jo_istore_n (pc := 54) (lv' := [(2, .int v3), (4, .int v3), (0, .int x0), (1, .int x1), (3, .int i2)]) dX6_areWeights_54 rfl (ltb rfl) rfl ?_
              refine jo_iinc (pc := 55) (lv' := [(3, .int (i2 + 1)), (2, .int v3), (4, .int v3), (0, .int x0), (1, .int x1)]) 4 rfl dX6_areWeights_55 (congrArg (fun z => i2 + z) (ic_i_1)) (ltb rfl) rfl ?_
              refine jo_goto (pc := 58) dX6_areWeights_58 (tgt := 30) rfl ?_
              refine jo_lv (lv' := [(0, .int x0), (1, .int x1), (2, .int v3), (3, .int (i2 + 1))]) [3, 4, 1, 0] rfl ?_
              exact jo_leaf (by rfl) (hF30_2 (v3, i2 + 1))
            · refine jo_iconst (pc := 50) dX6_areWeights_50 (ic_i_0) ?_
              exact jo_breturn (pc := 51) (b := false) rfl rfl dX6_areWeights_51
        · refine jo_iconst (pc := 24) dX6_areWeights_24 (ic_i_0) ?_
          exact jo_breturn (pc := 25) (b := false) rfl rfl dX6_areWeights_25
theorem c_X6_areWeights {w : Wd} (hw : WOK w) {σ : Mem} {x0 : Int32} {x1 : Int32} : ∀ r, f_X6_areWeights σ x0 x1 = some r → MC w mu_X6_areWeights (vB r) [.int x0, .int x1] σ σ := mc_ofP ok_X6_areWeights rfl (Nat.le_of_ble_eq_true rfl) (t_X6_areWeights hw)
abbrev mu_X6_reset : MD := (yX6_reset, cX6_reset, 4, none, 1)
theorem ok_X6_reset : MOK mu_X6_reset 2 := ⟨gw_519, gw_160, (by decide +kernel : plainFor yX6_reset = true), ⟨(by decide +kernel : yX6_reset.cls ≠ "java/lang/invoke/MethodHandle"), (by decide +kernel : yX6_reset.cls ≠ "java/lang/invoke/VarHandle"), (by decide +kernel : (parseMethodDescriptor yX6_reset.desc).map (fun d => d.parameters.length) = some 2)⟩, Nat.le_of_ble_eq_true rfl⟩
noncomputable def j_X6_reset_32 (a : Nat) (σ2 : Mem) : Option Mem :=
  (f_J7_fill_53178 σ2 (rf a 2) 0).bind (fun (σ3 : Mem) => some σ3)
noncomputable def l_X6_reset_7 (a : Nat) (x1 : Int32) (σ4 : Mem) (i5 : Int32) : Option ((Mem × Int32) ⊕ Mem) :=
  if 6 ≤ i5 then (some (Sum.inr σ4)) else (pI σ4 (rf a 1) i5 ((x1 >>> ((2 * i5) &&& 31)) &&& 3) (fun (σ6 : Mem) => some (Sum.inl (σ6, i5 + 1))))
noncomputable def f_X6_reset (σ : Mem) (a : Nat) (x0 : Int32) (x1 : Int32) : Option Mem :=
  pF σ a 0 x0 (fun (σ1 : Mem) => (loopO (fun (z5 : (Mem × Int32)) => l_X6_reset_7 a x1 z5.1 z5.2) (σ1, 0) : Option Mem).bind (fun (z2 : Mem) => j_X6_reset_32 a z2))
theorem t_X6_reset {w : Wd} (hw : WOK w) {σ : Mem} {a : Nat} {x0 : Int32} {x1 : Int32} (ha : isk w a 6) : JO w mu_X6_reset vV σ [(0, .ref (adr w a)), (1, .int x0), (2, .int x1)] [] 0 (f_X6_reset σ a x0 x1) (fun z => some ((), z)) := by
  unfold f_X6_reset
  refine jo_aload_n (pc := 0) 0 rfl dX6_reset_0 rfl ?_
  refine jo_iload_n (pc := 1) 1 rfl dX6_reset_1 rfl ?_
  refine jo_putf (pc := 2) ok_6_0 okp_6_0 (ha) gw_193 dX6_reset_2 (fun σ1 => ?_)
  refine jo_iconst (pc := 5) dX6_reset_5 (ic_i_0) ?_
  refine jo_istore_n (pc := 6) (lv' := [(3, .int 0), (0, .ref (adr w a)), (1, .int x0), (2, .int x1)]) dX6_reset_6 rfl (ltb rfl) rfl ?_
  refine jo_join1 (S := Mem) (fun (z2 : Mem) => z2) (fun (z2 : Mem) => [(0, .ref (adr w a))]) (fun (z2 : Mem) => []) 32 ?_ (fun h32_2 => ?_)
  · intro σ2
    show JO w mu_X6_reset vV σ2 [(0, .ref (adr w a))] [] 32 (j_X6_reset_32 a σ2) _
    unfold j_X6_reset_32
    refine jo_aload_n (pc := 32) 0 rfl dX6_reset_32 rfl ?_
    refine jo_getr (pc := 33) ok_6_2 (ha) gw_206 dX6_reset_33 ?_
    refine jo_iconst (pc := 36) dX6_reset_36 (ic_i_0) ?_
    refine jo_cS_V_i (pc := 37) (μ' := mu_J7_fill_53178) (fx := f_J7_fill_53178 σ2 (rf a 2) 0) (As := [.ref (adr w (rf a 2)), .int 0]) (c_J7_fill_53178 hw (wf_6_2 hw (ha))) (ok_J7_fill_53178) (ltb rfl) (all2 gw_520 gw_521) rfl rfl (Nat.le_of_ble_eq_true rfl) dX6_reset_37 (fun σ3 => ?_)
    exact jo_return (pc := 40) rfl rfl dX6_reset_40
  · refine jo_lv (lv' := [(0, .ref (adr w a)), (2, .int x1), (3, .int 0)]) [1, 3, 0] rfl ?_
    refine jo_loop (X := Mem) (fun (z5 : (Mem × Int32)) => z5.1) (fun (z5 : (Mem × Int32)) => [(0, .ref (adr w a)), (2, .int x1), (3, .int z5.2)]) (body := (fun (z5 : (Mem × Int32)) => l_X6_reset_7 a x1 z5.1 z5.2)) (fun F7_5 hF7_5 s => ?_) (σ1, 0)
    obtain ⟨σ4, i5⟩ := s
    show JO w mu_X6_reset vV σ4 [(0, .ref (adr w a)), (2, .int x1), (3, .int i5)] [] 7 (l_X6_reset_7 a x1 σ4 i5) _
    unfold l_X6_reset_7
    refine jo_iload_n (pc := 7) 2 rfl dX6_reset_7 rfl ?_
    refine jo_bipush (pc := 8) dX6_reset_8 (ic_b_6) ?_
    refine jo_icmp_ge (pc := 10) dX6_reset_10 (tgt := 32) rfl ?_ ?_
    · refine jo_lv (lv' := [(0, .ref (adr w a))]) [0] rfl ?_
      exact jo_leaf (by rfl) (h32_2 σ4)
    · refine jo_aload_n (pc := 13) 0 rfl dX6_reset_13 rfl ?_
      refine jo_getr (pc := 14) ok_6_1 (ha) gw_200 dX6_reset_14 ?_
      refine jo_iload_n (pc := 17) 2 rfl dX6_reset_17 rfl ?_
      refine jo_iload_n (pc := 18) 1 rfl dX6_reset_18 rfl ?_
      refine jo_iconst (pc := 19) dX6_reset_19 (ic_i_2) ?_
      refine jo_iload_n (pc := 20) 2 rfl dX6_reset_20 rfl ?_
      refine jo_imul (pc := 21) dX6_reset_21 ?_
      refine jo_ishr (pc := 22) dX6_reset_22 ?_
      refine jo_iconst (pc := 23) dX6_reset_23 (ic_i_3) ?_
      refine jo_iand (pc := 24) dX6_reset_24 ?_
      refine jo_iast (pc := 25) (wf_6_1 hw (ha)) dX6_reset_25 (fun σ6 => ?_)
      refine jo_iinc (pc := 26) (lv' := [(3, .int (i5 + 1)), (0, .ref (adr w a)), (2, .int x1)]) 2 rfl dX6_reset_26 (congrArg (fun z => i5 + z) (ic_i_1)) (ltb rfl) rfl ?_
      refine jo_goto (pc := 29) dX6_reset_29 (tgt := 7) rfl ?_
      refine jo_lv (lv' := [(0, .ref (adr w a)), (2, .int x1), (3, .int (i5 + 1))]) [1, 2, 0] rfl ?_
      exact jo_leaf (by rfl) (hF7_5 (σ6, i5 + 1))
theorem c_X6_reset {w : Wd} (hw : WOK w) {σ : Mem} {a : Nat} {x0 : Int32} {x1 : Int32} (ha : isk w a 6) : ∀ σ', f_X6_reset σ a x0 x1 = some σ' → MC w mu_X6_reset none [.ref (adr w a), .int x0, .int x1] σ σ' := mc_ofV ok_X6_reset rfl (Nat.le_of_ble_eq_true rfl) (t_X6_reset hw ha)
abbrev mu_X6_write : MD := (yX6_write, cX6_write, 5, none, 1)
theorem ok_X6_write : MOK mu_X6_write 4 := ⟨gw_528, gw_160, (by decide +kernel : plainFor yX6_write = true), ⟨(by decide +kernel : yX6_write.cls ≠ "java/lang/invoke/MethodHandle"), (by decide +kernel : yX6_write.cls ≠ "java/lang/invoke/VarHandle"), (by decide +kernel : (parseMethodDescriptor yX6_write.desc).map (fun d => d.parameters.length) = some 4)⟩, Nat.le_of_ble_eq_true rfl⟩
noncomputable def f_X6_write (σ : Mem) (a : Nat) (x0 : Int32) (x1 : Int32) (x2 : Int32) (x3 : Int32) : Option Mem :=
  (f_X6_isTail σ a x0 x1 x2).bind (fun (b1 : Bool) => if b1 then pI σ (rf a 2) ((((x0 * 6) + x1) * 6) + x2) x3 (fun (σ2 : Mem) => some σ2) else some σ)
theorem t_X6_write {w : Wd} (hw : WOK w) {σ : Mem} {a : Nat} {x0 : Int32} {x1 : Int32} {x2 : Int32} {x3 : Int32} (ha : isk w a 6) : JO w mu_X6_write vV σ [(0, .ref (adr w a)), (1, .int x0), (2, .int x1), (3, .int x2), (4, .int x3)] [] 0 (f_X6_write σ a x0 x1 x2 x3) (fun z => some ((), z)) := by
  unfold f_X6_write
  refine jo_aload_n (pc := 0) 0 rfl dX6_write_0 rfl ?_
  refine jo_iload_n (pc := 1) 1 rfl dX6_write_1 rfl ?_
  refine jo_iload_n (pc := 2) 2 rfl dX6_write_2 rfl ?_
  refine jo_iload_n (pc := 3) 3 rfl dX6_write_3 rfl ?_
  refine jo_cV_Z_p (pc := 4) (μ' := mu_X6_isTail) (fx := f_X6_isTail σ a x0 x1 x2) (As := [.int x0, .int x1, .int x2]) (c_X6_isTail hw (ha)) (ok_X6_isTail) (ltb rfl) (all3 gw_529 gw_530 gw_531) (ha) (by decide) (q := (RX6, TX6, 3)) rfl rfl rfl rfl (Nat.le_of_ble_eq_true rfl) dX6_write_4 (fun b1 => ?_)
  refine jo_ifz_eq (pc := 7) dX6_write_7 (tgt := 28) rfl ?_ ?_
  · exact jo_return (pc := 28) rfl rfl dX6_write_28
  · refine jo_aload_n (pc := 10) 0 rfl dX6_write_10 rfl ?_
    refine jo_getr (pc := 11) ok_6_2 (ha) gw_206 dX6_write_11 ?_
    refine jo_iload_n (pc := 14) 1 rfl dX6_write_14 rfl ?_
    refine jo_bipush (pc := 15) dX6_write_15 (ic_b_6) ?_
    refine jo_imul (pc := 17) dX6_write_17 ?_
    refine jo_iload_n (pc := 18) 2 rfl dX6_write_18 rfl ?_
    refine jo_iadd (pc := 19) dX6_write_19 ?_
    refine jo_bipush (pc := 20) dX6_write_20 (ic_b_6) ?_
    refine jo_imul (pc := 22) dX6_write_22 ?_
    refine jo_iload_n (pc := 23) 3 rfl dX6_write_23 rfl ?_
    refine jo_iadd (pc := 24) dX6_write_24 ?_
    refine jo_iload (pc := 25) 4 rfl dX6_write_25 ?_
    refine jo_iast (pc := 27) (wf_6_2 hw (ha)) dX6_write_27 (fun σ2 => ?_)
    exact jo_return (pc := 28) rfl rfl dX6_write_28
theorem c_X6_write {w : Wd} (hw : WOK w) {σ : Mem} {a : Nat} {x0 : Int32} {x1 : Int32} {x2 : Int32} {x3 : Int32} (ha : isk w a 6) : ∀ σ', f_X6_write σ a x0 x1 x2 x3 = some σ' → MC w mu_X6_write none [.ref (adr w a), .int x0, .int x1, .int x2, .int x3] σ σ' := mc_ofV ok_X6_write rfl (Nat.le_of_ble_eq_true rfl) (t_X6_write hw ha)
abbrev mu_X6_takeKind : MD := (yX6_takeKind, cX6_takeKind, 3, none, 2)
theorem ok_X6_takeKind : MOK mu_X6_takeKind 1 := ⟨gw_511, gw_160, (by decide +kernel : plainFor yX6_takeKind = true), ⟨(by decide +kernel : yX6_takeKind.cls ≠ "java/lang/invoke/MethodHandle"), (by decide +kernel : yX6_takeKind.cls ≠ "java/lang/invoke/VarHandle"), (by decide +kernel : (parseMethodDescriptor yX6_takeKind.desc).map (fun d => d.parameters.length) = some 1)⟩, Nat.le_of_ble_eq_true rfl⟩
noncomputable def j_X6_takeKind_88 (i5 : Int32) (σ7 : Mem) : Option ((Mem × Int32) ⊕ Mem) :=
  some (Sum.inl (σ7, i5 + 4))
noncomputable def l_X6_takeKind_37 (a : Nat) (x0 : Int32) (σ4 : Mem) (i5 : Int32) : Option ((Mem × Int32) ⊕ Mem) :=
  if (Int32.ofNat (tabL 2)) ≤ (i5 + 3) then (some (Sum.inr σ4)) else (gT 2 i5 (fun (v6 : Int32) => (if v6 = x0 then (gT 2 (i5 + 1) (fun (v8 : Int32) => gT 2 (i5 + 2) (fun (v9 : Int32) => gT 2 (i5 + 3) (fun (v10 : Int32) => (f_X6_write σ4 a (v8 - 1) (v9 - 1) (v10 - 1) 1).bind (fun (σ11 : Mem) => some σ11))))) else (some σ4) : Option Mem).bind (fun (z7 : Mem) => j_X6_takeKind_88 i5 z7)))
noncomputable def f_X6_takeKind (σ : Mem) (a : Nat) (x0 : Int32) : Option Mem :=
  if x0 < 0 then (some σ) else (if (Int32.ofNat (tabL 0)) ≤ x0 then (some σ) else (if x0 < (Int32.ofNat (tabL 1)) then (gT 0 x0 (fun (v1 : Int32) => gT 1 x0 (fun (v2 : Int32) => (f_X6_reset σ a v1 v2).bind (fun (σ3 : Mem) => loopO (fun (z5 : (Mem × Int32)) => l_X6_takeKind_37 a x0 z5.1 z5.2) (σ3, 0))))) else (some σ)))
theorem t_X6_takeKind {w : Wd} (hw : WOK w) {σ : Mem} {a : Nat} {x0 : Int32} (ha : isk w a 6) : JO w mu_X6_takeKind vV σ [(0, .ref (adr w a)), (1, .int x0)] [] 0 (f_X6_takeKind σ a x0) (fun z => some ((), z)) := by
  unfold f_X6_takeKind
  refine jo_iload_n (pc := 0) 1 rfl dX6_takeKind_0 rfl ?_
  refine jo_if_lt (pc := 1) dX6_takeKind_1 (tgt := 20) rfl ?_ ?_
  · exact jo_return (pc := 20) rfl rfl dX6_takeKind_20
  · refine jo_iload_n (pc := 4) 1 rfl dX6_takeKind_4 rfl ?_
    refine jo_getsN (pc := 5) (k := 0) (by decide) (by decide +kernel) dX6_takeKind_5 ?_
    refine jo_tablen (pc := 8) (by decide) dX6_takeKind_8 ?_
    refine jo_icmp_ge (pc := 9) dX6_takeKind_9 (tgt := 20) rfl ?_ ?_
    · exact jo_return (pc := 20) rfl rfl dX6_takeKind_20
    · refine jo_iload_n (pc := 12) 1 rfl dX6_takeKind_12 rfl ?_
      refine jo_getsN (pc := 13) (k := 1) (by decide) (by decide +kernel) dX6_takeKind_13 ?_
      refine jo_tablen (pc := 16) (by decide) dX6_takeKind_16 ?_
      refine jo_icmp_lt (pc := 17) dX6_takeKind_17 (tgt := 21) rfl ?_ ?_
      · refine jo_aload_n (pc := 21) 0 rfl dX6_takeKind_21 rfl ?_
        refine jo_getsN (pc := 22) (k := 0) (by decide) (by decide +kernel) dX6_takeKind_22 ?_
        refine jo_iload_n (pc := 25) 1 rfl dX6_takeKind_25 rfl ?_
        refine jo_tabld (pc := 26) (by decide) dX6_takeKind_26 (fun v1 => ?_)
        refine jo_getsN (pc := 27) (k := 1) (by decide) (by decide +kernel) dX6_takeKind_27 ?_
        refine jo_iload_n (pc := 30) 1 rfl dX6_takeKind_30 rfl ?_
        refine jo_tabld (pc := 31) (by decide) dX6_takeKind_31 (fun v2 => ?_)
        refine jo_cV_V_i (pc := 32) (μ' := mu_X6_reset) (fx := f_X6_reset σ a v1 v2) (As := [.int v1, .int v2]) (c_X6_reset hw (ha)) (ok_X6_reset) (ltb rfl) (all3 gw_516 gw_517 gw_518) (ha) (by decide) (q := (RX6, TX6, 3)) rfl rfl rfl rfl (Nat.le_of_ble_eq_true rfl) dX6_takeKind_32 (fun σ3 => ?_)
        refine jo_iconst (pc := 35) dX6_takeKind_35 (ic_i_0) ?_
        refine jo_istore_n (pc := 36) (lv' := [(2, .int 0), (0, .ref (adr w a)), (1, .int x0)]) dX6_takeKind_36 rfl (ltb rfl) rfl ?_
        refine jo_lv (lv' := [(0, .ref (adr w a)), (1, .int x0), (2, .int 0)]) [1, 2, 0] rfl ?_
        refine jo_loop (X := Mem) (fun (z5 : (Mem × Int32)) => z5.1) (fun (z5 : (Mem × Int32)) => [(0, .ref (adr w a)), (1, .int x0), (2, .int z5.2)]) (body := (fun (z5 : (Mem × Int32)) => l_X6_takeKind_37 a x0 z5.1 z5.2)) (fun F37_5 hF37_5 s => ?_) (σ3, 0)
        obtain ⟨σ4, i5⟩ := s
        show JO w mu_X6_takeKind vV σ4 [(0, .ref (adr w a)), (1, .int x0), (2, .int i5)] [] 37 (l_X6_takeKind_37 a x0 σ4 i5) _
        unfold l_X6_takeKind_37
        refine jo_iload_n (pc := 37) 2 rfl dX6_takeKind_37 rfl ?_
        refine jo_iconst (pc := 38) dX6_takeKind_38 (ic_i_3) ?_
        refine jo_iadd (pc := 39) dX6_takeKind_39 ?_
        refine jo_getsN (pc := 40) (k := 2) (by decide) (by decide +kernel) dX6_takeKind_40 ?_
        refine jo_tablen (pc := 43) (by decide) dX6_takeKind_43 ?_
        refine jo_icmp_ge (pc := 44) dX6_takeKind_44 (tgt := 94) rfl ?_ ?_
        · exact jo_return (pc := 94) rfl rfl dX6_takeKind_94
        · refine jo_getsN (pc := 47) (k := 2) (by decide) (by decide +kernel) dX6_takeKind_47 ?_
          refine jo_iload_n (pc := 50) 2 rfl dX6_takeKind_50 rfl ?_
          refine jo_tabld (pc := 51) (by decide) dX6_takeKind_51 (fun v6 => ?_)
          refine jo_iload_n (pc := 52) 1 rfl dX6_takeKind_52 rfl ?_
          refine jo_join1 (S := Mem) (fun (z7 : Mem) => z7) (fun (z7 : Mem) => [(0, .ref (adr w a)), (1, .int x0), (2, .int i5)]) (fun (z7 : Mem) => []) 88 ?_ (fun h88_7 => ?_)
          · intro σ7
            show JO w mu_X6_takeKind vV σ7 [(0, .ref (adr w a)), (1, .int x0), (2, .int i5)] [] 88 (j_X6_takeKind_88 i5 σ7) _
            unfold j_X6_takeKind_88
            refine jo_iinc (pc := 88) (lv' := [(2, .int (i5 + 4)), (0, .ref (adr w a)), (1, .int x0)]) 2 rfl dX6_takeKind_88 (congrArg (fun z => i5 + z) (ic_i_4)) (ltb rfl) rfl ?_
            refine jo_goto (pc := 91) dX6_takeKind_91 (tgt := 37) rfl ?_
            refine jo_lv (lv' := [(0, .ref (adr w a)), (1, .int x0), (2, .int (i5 + 4))]) [1, 2, 0] rfl ?_
            exact jo_leaf (by rfl) (hF37_5 (σ7, i5 + 4))
          · refine jo_icmp_ne (pc := 53) dX6_takeKind_53 (tgt := 88) rfl ?_ ?_
            · exact jo_leaf (by rfl) (h88_7 σ4)
            · refine jo_aload_n (pc := 56) 0 rfl dX6_takeKind_56 rfl ?_
              refine jo_getsN (pc := 57) (k := 2) (by decide) (by decide +kernel) dX6_takeKind_57 ?_
              refine jo_iload_n (pc := 60) 2 rfl dX6_takeKind_60 rfl ?_
              refine jo_iconst (pc := 61) dX6_takeKind_61 (ic_i_1) ?_
              refine jo_iadd (pc := 62) dX6_takeKind_62 ?_
              refine jo_tabld (pc := 63) (by decide) dX6_takeKind_63 (fun v8 => ?_)
              refine jo_iconst (pc := 64) dX6_takeKind_64 (ic_i_1) ?_
              refine jo_isub (pc := 65) dX6_takeKind_65 ?_
              refine jo_getsN (pc := 66) (k := 2) (by decide) (by decide +kernel) dX6_takeKind_66 ?_
              refine jo_iload_n (pc := 69) 2 rfl dX6_takeKind_69 rfl ?_
              refine jo_iconst (pc := 70) dX6_takeKind_70 (ic_i_2) ?_
              refine jo_iadd (pc := 71) dX6_takeKind_71 ?_
              refine jo_tabld (pc := 72) (by decide) dX6_takeKind_72 (fun v9 => ?_)
              refine jo_iconst (pc := 73) dX6_takeKind_73 (ic_i_1) ?_
              refine jo_isub (pc := 74) dX6_takeKind_74 ?_
              refine jo_getsN (pc := 75) (k := 2) (by decide) (by decide +kernel) dX6_takeKind_75 ?_
              refine jo_iload_n (pc := 78) 2 rfl dX6_takeKind_78 rfl ?_
              refine jo_iconst (pc := 79) dX6_takeKind_79 (ic_i_3) ?_
              refine jo_iadd (pc := 80) dX6_takeKind_80 ?_
              refine jo_tabld (pc := 81) (by decide) dX6_takeKind_81 (fun v10 => ?_)
              refine jo_iconst (pc := 82) dX6_takeKind_82 (ic_i_1) ?_
              refine jo_isub (pc := 83) dX6_takeKind_83 ?_
              refine jo_iconst (pc := 84) dX6_takeKind_84 (ic_i_1) ?_
              refine jo_cV_V_i (pc := 85) (μ' := mu_X6_write) (fx := f_X6_write σ4 a (v8 - 1) (v9 - 1) (v10 - 1) 1) (As := [.int (v8 - 1), .int (v9 - 1), .int (v10 - 1), .int 1]) (c_X6_write hw (ha)) (ok_X6_write) (ltb rfl) (all3 gw_525 gw_526 gw_527) (ha) (by decide) (q := (RX6, TX6, 3)) rfl rfl rfl rfl (Nat.le_of_ble_eq_true rfl) dX6_takeKind_85 (fun σ11 => ?_)
              exact jo_leaf (by rfl) (h88_7 σ11)
      · exact jo_return (pc := 20) rfl rfl dX6_takeKind_20
theorem c_X6_takeKind {w : Wd} (hw : WOK w) {σ : Mem} {a : Nat} {x0 : Int32} (ha : isk w a 6) : ∀ σ', f_X6_takeKind σ a x0 = some σ' → MC w mu_X6_takeKind none [.ref (adr w a), .int x0] σ σ' := mc_ofV ok_X6_takeKind rfl (Nat.le_of_ble_eq_true rfl) (t_X6_takeKind hw ha)
abbrev mu_X6_mayBe : MD := (yX6_mayBe, cX6_mayBe, 5, some .boolean, 1)
theorem ok_X6_mayBe : MOK mu_X6_mayBe 4 := ⟨gw_725, gw_160, (by decide +kernel : plainFor yX6_mayBe = true), ⟨(by decide +kernel : yX6_mayBe.cls ≠ "java/lang/invoke/MethodHandle"), (by decide +kernel : yX6_mayBe.cls ≠ "java/lang/invoke/VarHandle"), (by decide +kernel : (parseMethodDescriptor yX6_mayBe.desc).map (fun d => d.parameters.length) = some 4)⟩, Nat.le_of_ble_eq_true rfl⟩
noncomputable def j_X6_mayBe_50  : Option Bool :=
  some true
noncomputable def f_X6_mayBe (σ : Mem) (a : Nat) (x0 : Int32) (x1 : Int32) (x2 : Int32) (x3 : Int32) : Option Bool :=
  (f_X6_isTail σ a x0 x1 x2).bind (fun (b1 : Bool) => if b1 then if x3 < 0 then (some false) else (if x3 ≤ 3 then ((if x3 = 0 then (some (Sum.inl ())) else (gI σ (rf a 1) x2 (fun (v2 : Int32) => gI σ (rf a 1) x1 (fun (v3 : Int32) => gI σ (rf a 1) x0 (fun (v4 : Int32) => if v2 < (v3 + v4) then (some (Sum.inr false)) else (some (Sum.inl ())))))) : Option (Unit ⊕ Bool)).bind (Sum.elim (fun (z1 : Unit) => j_X6_mayBe_50) some)) else (some false)) else some false)
theorem t_X6_mayBe {w : Wd} (hw : WOK w) {σ : Mem} {a : Nat} {x0 : Int32} {x1 : Int32} {x2 : Int32} {x3 : Int32} (ha : isk w a 6) : JO w mu_X6_mayBe vB σ [(0, .ref (adr w a)), (1, .int x0), (2, .int x1), (3, .int x2), (4, .int x3)] [] 0 (f_X6_mayBe σ a x0 x1 x2 x3) (fun z => some (z, σ)) := by
  unfold f_X6_mayBe
  refine jo_aload_n (pc := 0) 0 rfl dX6_mayBe_0 rfl ?_
  refine jo_iload_n (pc := 1) 1 rfl dX6_mayBe_1 rfl ?_
  refine jo_iload_n (pc := 2) 2 rfl dX6_mayBe_2 rfl ?_
  refine jo_iload_n (pc := 3) 3 rfl dX6_mayBe_3 rfl ?_
  refine jo_cV_Z_p (pc := 4) (μ' := mu_X6_isTail) (fx := f_X6_isTail σ a x0 x1 x2) (As := [.int x0, .int x1, .int x2]) (c_X6_isTail hw (ha)) (ok_X6_isTail) (ltb rfl) (all3 gw_529 gw_530 gw_531) (ha) (by decide) (q := (RX6, TX6, 3)) rfl rfl rfl rfl (Nat.le_of_ble_eq_true rfl) dX6_mayBe_4 (fun b1 => ?_)
  refine jo_ifz_eq (pc := 7) dX6_mayBe_7 (tgt := 21) rfl ?_ ?_
  · refine jo_iconst (pc := 21) dX6_mayBe_21 (ic_i_0) ?_
    exact jo_breturn (pc := 22) (b := false) rfl rfl dX6_mayBe_22
  · refine jo_iload (pc := 10) 4 rfl dX6_mayBe_10 ?_
    refine jo_if_lt (pc := 12) dX6_mayBe_12 (tgt := 21) rfl ?_ ?_
    · refine jo_iconst (pc := 21) dX6_mayBe_21 (ic_i_0) ?_
      exact jo_breturn (pc := 22) (b := false) rfl rfl dX6_mayBe_22
    · refine jo_iload (pc := 15) 4 rfl dX6_mayBe_15 ?_
      refine jo_iconst (pc := 17) dX6_mayBe_17 (ic_i_3) ?_
      refine jo_icmp_le (pc := 18) dX6_mayBe_18 (tgt := 23) rfl ?_ ?_
      · refine jo_iload (pc := 23) 4 rfl dX6_mayBe_23 ?_
        refine jo_joinS (S := Unit) (fun (z1 : Unit) => σ) (fun (z1 : Unit) => []) (fun (z1 : Unit) => []) 50 ?_ (fun h50_1 => ?_)
        · intro _
          show JO w mu_X6_mayBe vB σ [] [] 50 (j_X6_mayBe_50) _
          unfold j_X6_mayBe_50
          refine jo_iconst (pc := 50) dX6_mayBe_50 (ic_i_1) ?_
          refine jo_goto (pc := 51) dX6_mayBe_51 (tgt := 55) rfl ?_
          exact jo_breturn (pc := 55) (b := true) rfl rfl dX6_mayBe_55
        · refine jo_if_eq (pc := 25) dX6_mayBe_25 (tgt := 50) rfl ?_ ?_
          · refine jo_lv (lv' := []) [] rfl ?_
            exact jo_leaf (by rfl) (h50_1 ())
          · refine jo_aload_n (pc := 28) 0 rfl dX6_mayBe_28 rfl ?_
            refine jo_getr (pc := 29) ok_6_1 (ha) gw_200 dX6_mayBe_29 ?_
            refine jo_iload_n (pc := 32) 3 rfl dX6_mayBe_32 rfl ?_
            refine jo_iald (pc := 33) (wf_6_1 hw (ha)) dX6_mayBe_33 (fun v2 => ?_)
            refine jo_aload_n (pc := 34) 0 rfl dX6_mayBe_34 rfl ?_
            refine jo_getr (pc := 35) ok_6_1 (ha) gw_200 dX6_mayBe_35 ?_
            refine jo_iload_n (pc := 38) 2 rfl dX6_mayBe_38 rfl ?_
            refine jo_iald (pc := 39) (wf_6_1 hw (ha)) dX6_mayBe_39 (fun v3 => ?_)
            refine jo_aload_n (pc := 40) 0 rfl dX6_mayBe_40 rfl ?_
            refine jo_getr (pc := 41) ok_6_1 (ha) gw_200 dX6_mayBe_41 ?_
            refine jo_iload_n (pc := 44) 1 rfl dX6_mayBe_44 rfl ?_
            refine jo_iald (pc := 45) (wf_6_1 hw (ha)) dX6_mayBe_45 (fun v4 => ?_)
            refine jo_iadd (pc := 46) dX6_mayBe_46 ?_
            refine jo_icmp_lt (pc := 47) dX6_mayBe_47 (tgt := 54) rfl ?_ ?_
            · refine jo_iconst (pc := 54) dX6_mayBe_54 (ic_i_0) ?_
              exact jo_breturn (pc := 55) (b := false) rfl rfl dX6_mayBe_55
            · refine jo_lv (lv' := []) [] rfl ?_
              exact jo_leaf (by rfl) (h50_1 ())
      · refine jo_iconst (pc := 21) dX6_mayBe_21 (ic_i_0) ?_
        exact jo_breturn (pc := 22) (b := false) rfl rfl dX6_mayBe_22
theorem c_X6_mayBe {w : Wd} (hw : WOK w) {σ : Mem} {a : Nat} {x0 : Int32} {x1 : Int32} {x2 : Int32} {x3 : Int32} (ha : isk w a 6) : ∀ r, f_X6_mayBe σ a x0 x1 x2 x3 = some r → MC w mu_X6_mayBe (vB r) [.ref (adr w a), .int x0, .int x1, .int x2, .int x3] σ σ := mc_ofP ok_X6_mayBe rfl (Nat.le_of_ble_eq_true rfl) (t_X6_mayBe hw ha)
abbrev mu_X6_copyTails : MD := (yX6_copyTails, cX6_copyTails, 5, none, 2)
theorem ok_X6_copyTails : MOK mu_X6_copyTails 3 := ⟨gw_1135, gw_160, (by decide +kernel : plainFor yX6_copyTails = true), ⟨(by decide +kernel : yX6_copyTails.cls ≠ "java/lang/invoke/MethodHandle"), (by decide +kernel : yX6_copyTails.cls ≠ "java/lang/invoke/VarHandle"), (by decide +kernel : (parseMethodDescriptor yX6_copyTails.desc).map (fun d => d.parameters.length) = some 3)⟩, Nat.le_of_ble_eq_true rfl⟩
noncomputable def l_X6_copyTails_3 (a : Nat) (x0 : Int32) (x1 : Int32) (x2 : Nat) (σ1 : Mem) (i2 : Int32) : Option ((Mem × Int32) ⊕ Mem) :=
  if 6 ≤ i2 then (some (Sum.inr σ1)) else ((f_X6_read σ1 a x0 x1 i2).bind (fun (v3 : Int32) => pL σ1 x2 i2 (Int32.toInt64 v3) (fun (σ4 : Mem) => some (Sum.inl (σ4, i2 + 1)))))
noncomputable def f_X6_copyTails (σ : Mem) (a : Nat) (x0 : Int32) (x1 : Int32) (x2 : Nat) : Option Mem :=
  loopO (fun (z2 : (Mem × Int32)) => l_X6_copyTails_3 a x0 x1 x2 z2.1 z2.2) (σ, 0)
theorem t_X6_copyTails {w : Wd} (hw : WOK w) {σ : Mem} {a : Nat} {x0 : Int32} {x1 : Int32} {x2 : Nat} (ha : isk w a 6) (hx2 : isk w x2 13) : JO w mu_X6_copyTails vV σ [(0, .ref (adr w a)), (1, .int x0), (2, .int x1), (3, .ref (adr w x2))] [] 0 (f_X6_copyTails σ a x0 x1 x2) (fun z => some ((), z)) := by
  unfold f_X6_copyTails
  refine jo_iconst (pc := 0) dX6_copyTails_0 (ic_i_0) ?_
  refine jo_istore (pc := 1) (lv' := [(4, .int 0), (0, .ref (adr w a)), (1, .int x0), (2, .int x1), (3, .ref (adr w x2))]) dX6_copyTails_1 (ltb rfl) rfl ?_
  refine jo_lv (lv' := [(0, .ref (adr w a)), (1, .int x0), (2, .int x1), (3, .ref (adr w x2)), (4, .int 0)]) [1, 2, 3, 4, 0] rfl ?_
  refine jo_loop (X := Mem) (fun (z2 : (Mem × Int32)) => z2.1) (fun (z2 : (Mem × Int32)) => [(0, .ref (adr w a)), (1, .int x0), (2, .int x1), (3, .ref (adr w x2)), (4, .int z2.2)]) (body := (fun (z2 : (Mem × Int32)) => l_X6_copyTails_3 a x0 x1 x2 z2.1 z2.2)) (fun F3_2 hF3_2 s => ?_) (σ, 0)
  obtain ⟨σ1, i2⟩ := s
  show JO w mu_X6_copyTails vV σ1 [(0, .ref (adr w a)), (1, .int x0), (2, .int x1), (3, .ref (adr w x2)), (4, .int i2)] [] 3 (l_X6_copyTails_3 a x0 x1 x2 σ1 i2) _
  unfold l_X6_copyTails_3
  refine jo_iload (pc := 3) 4 rfl dX6_copyTails_3 ?_
  refine jo_bipush (pc := 5) dX6_copyTails_5 (ic_b_6) ?_
  refine jo_icmp_ge (pc := 7) dX6_copyTails_7 (tgt := 29) rfl ?_ ?_
  · exact jo_return (pc := 29) rfl rfl dX6_copyTails_29
  · refine jo_aload_n (pc := 10) 3 rfl dX6_copyTails_10 rfl ?_
    refine jo_iload (pc := 11) 4 rfl dX6_copyTails_11 ?_
    refine jo_aload_n (pc := 13) 0 rfl dX6_copyTails_13 rfl ?_
    refine jo_iload_n (pc := 14) 1 rfl dX6_copyTails_14 rfl ?_
    refine jo_iload_n (pc := 15) 2 rfl dX6_copyTails_15 rfl ?_
    refine jo_iload (pc := 16) 4 rfl dX6_copyTails_16 ?_
    refine jo_cV_I_p (pc := 18) (μ' := mu_X6_read) (fx := f_X6_read σ1 a x0 x1 i2) (As := [.int x0, .int x1, .int i2]) (c_X6_read hw (ha)) (ok_X6_read) (ltb rfl) (all3 gw_755 gw_569 gw_570) (ha) (by decide) (q := (RX6, TX6, 3)) rfl rfl rfl rfl (Nat.le_of_ble_eq_true rfl) dX6_copyTails_18 (fun v3 => ?_)
    refine jo_i2l (pc := 21) dX6_copyTails_21 ?_
    refine jo_last (pc := 22) (hx2) dX6_copyTails_22 (fun σ4 => ?_)
    refine jo_iinc (pc := 23) (lv' := [(4, .int (i2 + 1)), (0, .ref (adr w a)), (1, .int x0), (2, .int x1), (3, .ref (adr w x2))]) 4 rfl dX6_copyTails_23 (congrArg (fun z => i2 + z) (ic_i_1)) (ltb rfl) rfl ?_
    refine jo_goto (pc := 26) dX6_copyTails_26 (tgt := 3) rfl ?_
    refine jo_lv (lv' := [(0, .ref (adr w a)), (1, .int x0), (2, .int x1), (3, .ref (adr w x2)), (4, .int (i2 + 1))]) [1, 2, 3, 4, 0] rfl ?_
    exact jo_leaf (by rfl) (hF3_2 (σ4, i2 + 1))
theorem c_X6_copyTails {w : Wd} (hw : WOK w) {σ : Mem} {a : Nat} {x0 : Int32} {x1 : Int32} {x2 : Nat} (ha : isk w a 6) (hx2 : isk w x2 13) : ∀ σ', f_X6_copyTails σ a x0 x1 x2 = some σ' → MC w mu_X6_copyTails none [.ref (adr w a), .int x0, .int x1, .ref (adr w x2)] σ σ' := mc_ofV ok_X6_copyTails rfl (Nat.le_of_ble_eq_true rfl) (t_X6_copyTails hw ha hx2)
abbrev mu_X6_tailsAboveZero : MD := (yX6_tailsAboveZero, cX6_tailsAboveZero, 3, some .int, 0)
theorem ok_X6_tailsAboveZero : MOK mu_X6_tailsAboveZero 0 := ⟨gw_1261, gw_160, (by decide +kernel : plainFor yX6_tailsAboveZero = true), ⟨(by decide +kernel : yX6_tailsAboveZero.cls ≠ "java/lang/invoke/MethodHandle"), (by decide +kernel : yX6_tailsAboveZero.cls ≠ "java/lang/invoke/VarHandle"), (by decide +kernel : (parseMethodDescriptor yX6_tailsAboveZero.desc).map (fun d => d.parameters.length) = some 0)⟩, Nat.le_of_ble_eq_true rfl⟩
noncomputable def j_X6_tailsAboveZero_28 (i1 : Int32) (i2 : Int32) (b4 : Bool) : Option ((Int32 × Int32) ⊕ Int32) :=
  bd (i1 + (b2i b4)) (fun (v5 : Int32) => some (Sum.inl (v5, i2 + 1)))
noncomputable def l_X6_tailsAboveZero_4 (σ : Mem) (a : Nat) (i1 : Int32) (i2 : Int32) : Option ((Int32 × Int32) ⊕ Int32) :=
  if (Int32.ofNat (ln (rf a 2))) ≤ i2 then (some (Sum.inr i1)) else (gI σ (rf a 2) i2 (fun (v3 : Int32) => (if v3 ≤ 0 then (some false) else (some true) : Option Bool).bind (fun (z4 : Bool) => j_X6_tailsAboveZero_28 i1 i2 z4)))
noncomputable def f_X6_tailsAboveZero (σ : Mem) (a : Nat) : Option Int32 :=
  loopO (fun (z2 : (Int32 × Int32)) => l_X6_tailsAboveZero_4 σ a z2.1 z2.2) (0, 0)
theorem t_X6_tailsAboveZero {w : Wd} (hw : WOK w) {σ : Mem} {a : Nat} (ha : isk w a 6) : JO w mu_X6_tailsAboveZero vI σ [(0, .ref (adr w a))] [] 0 (f_X6_tailsAboveZero σ a) (fun z => some (z, σ)) := by
  unfold f_X6_tailsAboveZero
  refine jo_iconst (pc := 0) dX6_tailsAboveZero_0 (ic_i_0) ?_
  refine jo_istore_n (pc := 1) (lv' := [(1, .int 0), (0, .ref (adr w a))]) dX6_tailsAboveZero_1 rfl (ltb rfl) rfl ?_
  refine jo_iconst (pc := 2) dX6_tailsAboveZero_2 (ic_i_0) ?_
  refine jo_istore_n (pc := 3) (lv' := [(2, .int 0), (1, .int 0), (0, .ref (adr w a))]) dX6_tailsAboveZero_3 rfl (ltb rfl) rfl ?_
  refine jo_lv (lv' := [(0, .ref (adr w a)), (1, .int 0), (2, .int 0)]) [2, 1, 0] rfl ?_
  refine jo_loop (X := Int32) (fun (z2 : (Int32 × Int32)) => σ) (fun (z2 : (Int32 × Int32)) => [(0, .ref (adr w a)), (1, .int z2.1), (2, .int z2.2)]) (body := (fun (z2 : (Int32 × Int32)) => l_X6_tailsAboveZero_4 σ a z2.1 z2.2)) (fun F4_2 hF4_2 s => ?_) (0, 0)
  obtain ⟨i1, i2⟩ := s
  show JO w mu_X6_tailsAboveZero vI σ [(0, .ref (adr w a)), (1, .int i1), (2, .int i2)] [] 4 (l_X6_tailsAboveZero_4 σ a i1 i2) _
  unfold l_X6_tailsAboveZero_4
  refine jo_iload_n (pc := 4) 2 rfl dX6_tailsAboveZero_4 rfl ?_
  refine jo_aload_n (pc := 5) 0 rfl dX6_tailsAboveZero_5 rfl ?_
  refine jo_getr (pc := 6) ok_6_2 (ha) gw_206 dX6_tailsAboveZero_6 ?_
  refine jo_alenI (pc := 9) (wf_6_2 hw (ha)) (by decide) (t := 0) rfl dX6_tailsAboveZero_9 ?_
  refine jo_icmp_ge (pc := 10) dX6_tailsAboveZero_10 (tgt := 36) rfl ?_ ?_
  · refine jo_iload_n (pc := 36) 1 rfl dX6_tailsAboveZero_36 rfl ?_
    exact jo_ireturn (pc := 37) rfl rfl dX6_tailsAboveZero_37
  · refine jo_iload_n (pc := 13) 1 rfl dX6_tailsAboveZero_13 rfl ?_
    refine jo_aload_n (pc := 14) 0 rfl dX6_tailsAboveZero_14 rfl ?_
    refine jo_getr (pc := 15) ok_6_2 (ha) gw_206 dX6_tailsAboveZero_15 ?_
    refine jo_iload_n (pc := 18) 2 rfl dX6_tailsAboveZero_18 rfl ?_
    refine jo_iald (pc := 19) (wf_6_2 hw (ha)) dX6_tailsAboveZero_19 (fun v3 => ?_)
    refine jo_join1 (S := Bool) (fun (z4 : Bool) => σ) (fun (z4 : Bool) => [(0, .ref (adr w a)), (2, .int i2)]) (fun (z4 : Bool) => [.int (b2i z4), .int i1]) 28 ?_ (fun h28_4 => ?_)
    · intro b4
      show JO w mu_X6_tailsAboveZero vI σ [(0, .ref (adr w a)), (2, .int i2)] [.int (b2i b4), .int i1] 28 (j_X6_tailsAboveZero_28 i1 i2 b4) _
      unfold j_X6_tailsAboveZero_28
      refine jo_iadd (pc := 28) dX6_tailsAboveZero_28 ?_
      refine jo_bd ?_
      refine jo_istore_n (pc := 29) (lv' := [(1, .int (i1 + (b2i b4))), (0, .ref (adr w a)), (2, .int i2)]) dX6_tailsAboveZero_29 rfl (ltb rfl) rfl ?_
      generalize (i1 + (b2i b4)) = v5
      refine jo_iinc (pc := 30) (lv' := [(2, .int (i2 + 1)), (1, .int v5), (0, .ref (adr w a))]) 2 rfl dX6_tailsAboveZero_30 (congrArg (fun z => i2 + z) (ic_i_1)) (ltb rfl) rfl ?_
      refine jo_goto (pc := 33) dX6_tailsAboveZero_33 (tgt := 4) rfl ?_
      refine jo_lv (lv' := [(0, .ref (adr w a)), (1, .int v5), (2, .int (i2 + 1))]) [2, 1, 0] rfl ?_
      exact jo_leaf (by rfl) (hF4_2 (v5, i2 + 1))
    · refine jo_if_le (pc := 20) dX6_tailsAboveZero_20 (tgt := 27) rfl ?_ ?_
      · refine jo_iconst (pc := 27) dX6_tailsAboveZero_27 (ic_i_0) ?_
        refine jo_lv (lv' := [(0, .ref (adr w a)), (2, .int i2)]) [0, 2] rfl ?_
        exact jo_leaf (by rfl) (h28_4 false)
      · refine jo_iconst (pc := 23) dX6_tailsAboveZero_23 (ic_i_1) ?_
        refine jo_goto (pc := 24) dX6_tailsAboveZero_24 (tgt := 28) rfl ?_
        refine jo_lv (lv' := [(0, .ref (adr w a)), (2, .int i2)]) [0, 2] rfl ?_
        exact jo_leaf (by rfl) (h28_4 true)
theorem c_X6_tailsAboveZero {w : Wd} (hw : WOK w) {σ : Mem} {a : Nat} (ha : isk w a 6) : ∀ r, f_X6_tailsAboveZero σ a = some r → MC w mu_X6_tailsAboveZero (vI r) [.ref (adr w a)] σ σ := mc_ofP ok_X6_tailsAboveZero rfl (Nat.le_of_ble_eq_true rfl) (t_X6_tailsAboveZero hw ha)
abbrev mu_X6_isCentral : MD := (yX6_isCentral, cX6_isCentral, 4, some .boolean, 2)
theorem ok_X6_isCentral : MOK mu_X6_isCentral 1 := ⟨gw_750, gw_160, (by decide +kernel : plainFor yX6_isCentral = true), ⟨(by decide +kernel : yX6_isCentral.cls ≠ "java/lang/invoke/MethodHandle"), (by decide +kernel : yX6_isCentral.cls ≠ "java/lang/invoke/VarHandle"), (by decide +kernel : (parseMethodDescriptor yX6_isCentral.desc).map (fun d => d.parameters.length) = some 1)⟩, Nat.le_of_ble_eq_true rfl⟩
noncomputable def j_X6_isCentral_46 (i1 : Int32) : Option (Int32 ⊕ Bool) :=
  some (Sum.inl (i1 + 1))
noncomputable def l_X6_isCentral_12 (σ : Mem) (a : Nat) (x0 : Int32) (i1 : Int32) (i3 : Int32) : Option (Int32 ⊕ (Unit ⊕ (Int32 ⊕ Bool))) :=
  gF σ a 0 (fun (v4 : Int32) => if v4 ≤ i3 then (some (Sum.inr (Sum.inl ()))) else ((f_J9_max_7cf53 σ i1 x0).bind (fun (v5 : Int32) => (f_J9_min_7cf53 σ i1 x0).bind (fun (v6 : Int32) => (f_X6_read σ a v5 v6 i3).bind (fun (v7 : Int32) => if v7 = 0 then (some (Sum.inl (i3 + 1))) else (some (Sum.inr (Sum.inr (Sum.inr false)))))))))
noncomputable def l_X6_isCentral_2 (σ : Mem) (a : Nat) (x0 : Int32) (i1 : Int32) : Option (Int32 ⊕ Bool) :=
  gF σ a 0 (fun (v2 : Int32) => if v2 ≤ i1 then (some (Sum.inr true)) else ((loopO (fun (z3 : Int32) => l_X6_isCentral_12 σ a x0 i1 z3) 0 : Option (Unit ⊕ (Int32 ⊕ Bool))).bind (Sum.elim (fun (z2 : Unit) => j_X6_isCentral_46 i1) some)))
noncomputable def f_X6_isCentral (σ : Mem) (a : Nat) (x0 : Int32) : Option Bool :=
  loopO (fun (z1 : Int32) => l_X6_isCentral_2 σ a x0 z1) 0
theorem t_X6_isCentral {w : Wd} (hw : WOK w) {σ : Mem} {a : Nat} {x0 : Int32} (ha : isk w a 6) : JO w mu_X6_isCentral vB σ [(0, .ref (adr w a)), (1, .int x0)] [] 0 (f_X6_isCentral σ a x0) (fun z => some (z, σ)) := by
  unfold f_X6_isCentral
  refine jo_iconst (pc := 0) dX6_isCentral_0 (ic_i_0) ?_
  refine jo_istore_n (pc := 1) (lv' := [(2, .int 0), (0, .ref (adr w a)), (1, .int x0)]) dX6_isCentral_1 rfl (ltb rfl) rfl ?_
  refine jo_lv (lv' := [(0, .ref (adr w a)), (1, .int x0), (2, .int 0)]) [1, 2, 0] rfl ?_
  refine jo_loop (X := Bool) (fun (z1 : Int32) => σ) (fun (z1 : Int32) => [(0, .ref (adr w a)), (1, .int x0), (2, .int z1)]) (body := (fun (z1 : Int32) => l_X6_isCentral_2 σ a x0 z1)) (fun F2_1 hF2_1 s => ?_) 0
  revert s; intro i1
  show JO w mu_X6_isCentral vB σ [(0, .ref (adr w a)), (1, .int x0), (2, .int i1)] [] 2 (l_X6_isCentral_2 σ a x0 i1) _
  unfold l_X6_isCentral_2
  refine jo_iload_n (pc := 2) 2 rfl dX6_isCentral_2 rfl ?_
  refine jo_aload_n (pc := 3) 0 rfl dX6_isCentral_3 rfl ?_
  refine jo_getf (pc := 4) ok_6_0 (ha) gw_193 dX6_isCentral_4 (fun v2 => ?_)
  refine jo_icmp_ge (pc := 7) dX6_isCentral_7 (tgt := 52) rfl ?_ ?_
  · refine jo_iconst (pc := 52) dX6_isCentral_52 (ic_i_1) ?_
    exact jo_breturn (pc := 53) (b := true) rfl rfl dX6_isCentral_53
  · refine jo_iconst (pc := 10) dX6_isCentral_10 (ic_i_0) ?_
    refine jo_istore_n (pc := 11) (lv' := [(3, .int 0), (0, .ref (adr w a)), (1, .int x0), (2, .int i1)]) dX6_isCentral_11 rfl (ltb rfl) rfl ?_
    refine jo_joinS (S := Unit) (fun (z2 : Unit) => σ) (fun (z2 : Unit) => [(0, .ref (adr w a)), (1, .int x0), (2, .int i1)]) (fun (z2 : Unit) => []) 46 ?_ (fun h46_2 => ?_)
    · intro _
      show JO w mu_X6_isCentral vB σ [(0, .ref (adr w a)), (1, .int x0), (2, .int i1)] [] 46 (j_X6_isCentral_46 i1) _
      unfold j_X6_isCentral_46
      refine jo_iinc (pc := 46) (lv' := [(2, .int (i1 + 1)), (0, .ref (adr w a)), (1, .int x0)]) 2 rfl dX6_isCentral_46 (congrArg (fun z => i1 + z) (ic_i_1)) (ltb rfl) rfl ?_
      refine jo_goto (pc := 49) dX6_isCentral_49 (tgt := 2) rfl ?_
      refine jo_lv (lv' := [(0, .ref (adr w a)), (1, .int x0), (2, .int (i1 + 1))]) [1, 2, 0] rfl ?_
      exact jo_leaf (by rfl) (hF2_1 (i1 + 1))
    · refine jo_lv (lv' := [(0, .ref (adr w a)), (1, .int x0), (2, .int i1), (3, .int 0)]) [1, 2, 3, 0] rfl ?_
      refine jo_loop (X := Unit ⊕ (Int32 ⊕ Bool)) (fun (z3 : Int32) => σ) (fun (z3 : Int32) => [(0, .ref (adr w a)), (1, .int x0), (2, .int i1), (3, .int z3)]) (body := (fun (z3 : Int32) => l_X6_isCentral_12 σ a x0 i1 z3)) (fun F12_3 hF12_3 s => ?_) 0
      revert s; intro i3
      show JO w mu_X6_isCentral vB σ [(0, .ref (adr w a)), (1, .int x0), (2, .int i1), (3, .int i3)] [] 12 (l_X6_isCentral_12 σ a x0 i1 i3) _
      unfold l_X6_isCentral_12
      refine jo_iload_n (pc := 12) 3 rfl dX6_isCentral_12 rfl ?_
      refine jo_aload_n (pc := 13) 0 rfl dX6_isCentral_13 rfl ?_
      refine jo_getf (pc := 14) ok_6_0 (ha) gw_193 dX6_isCentral_14 (fun v4 => ?_)
      refine jo_icmp_ge (pc := 17) dX6_isCentral_17 (tgt := 46) rfl ?_ ?_
      · refine jo_lv (lv' := [(0, .ref (adr w a)), (1, .int x0), (2, .int i1)]) [0, 1, 2] rfl ?_
        exact jo_leaf (by rfl) (h46_2 ())
      · refine jo_aload_n (pc := 20) 0 rfl dX6_isCentral_20 rfl ?_
        refine jo_iload_n (pc := 21) 2 rfl dX6_isCentral_21 rfl ?_
        refine jo_iload_n (pc := 22) 1 rfl dX6_isCentral_22 rfl ?_
        refine jo_cS_I_p (pc := 23) (μ' := mu_J9_max_7cf53) (fx := f_J9_max_7cf53 σ i1 x0) (As := [.int i1, .int x0]) (c_J9_max_7cf53 hw) (ok_J9_max_7cf53) (ltb rfl) (all2 gw_751 gw_752) rfl rfl (Nat.le_of_ble_eq_true rfl) dX6_isCentral_23 (fun v5 => ?_)
        refine jo_iload_n (pc := 26) 2 rfl dX6_isCentral_26 rfl ?_
        refine jo_iload_n (pc := 27) 1 rfl dX6_isCentral_27 rfl ?_
        refine jo_cS_I_p (pc := 28) (μ' := mu_J9_min_7cf53) (fx := f_J9_min_7cf53 σ i1 x0) (As := [.int i1, .int x0]) (c_J9_min_7cf53 hw) (ok_J9_min_7cf53) (ltb rfl) (all2 gw_754 gw_708) rfl rfl (Nat.le_of_ble_eq_true rfl) dX6_isCentral_28 (fun v6 => ?_)
        refine jo_iload_n (pc := 31) 3 rfl dX6_isCentral_31 rfl ?_
        refine jo_cV_I_p (pc := 32) (μ' := mu_X6_read) (fx := f_X6_read σ a v5 v6 i3) (As := [.int v5, .int v6, .int i3]) (c_X6_read hw (ha)) (ok_X6_read) (ltb rfl) (all3 gw_755 gw_569 gw_570) (ha) (by decide) (q := (RX6, TX6, 3)) rfl rfl rfl rfl (Nat.le_of_ble_eq_true rfl) dX6_isCentral_32 (fun v7 => ?_)
        refine jo_if_eq (pc := 35) dX6_isCentral_35 (tgt := 40) rfl ?_ ?_
        · refine jo_iinc (pc := 40) (lv' := [(3, .int (i3 + 1)), (0, .ref (adr w a)), (1, .int x0), (2, .int i1)]) 3 rfl dX6_isCentral_40 (congrArg (fun z => i3 + z) (ic_i_1)) (ltb rfl) rfl ?_
          refine jo_goto (pc := 43) dX6_isCentral_43 (tgt := 12) rfl ?_
          refine jo_lv (lv' := [(0, .ref (adr w a)), (1, .int x0), (2, .int i1), (3, .int (i3 + 1))]) [1, 2, 3, 0] rfl ?_
          exact jo_leaf (by rfl) (hF12_3 (i3 + 1))
        · refine jo_iconst (pc := 38) dX6_isCentral_38 (ic_i_0) ?_
          exact jo_breturn (pc := 39) (b := false) rfl rfl dX6_isCentral_39
theorem c_X6_isCentral {w : Wd} (hw : WOK w) {σ : Mem} {a : Nat} {x0 : Int32} (ha : isk w a 6) : ∀ r, f_X6_isCentral σ a x0 = some r → MC w mu_X6_isCentral (vB r) [.ref (adr w a), .int x0] σ σ := mc_ofP ok_X6_isCentral rfl (Nat.le_of_ble_eq_true rfl) (t_X6_isCentral hw ha)
abbrev mu_X6_countOf : MD := (yX6_countOf, cX6_countOf, 4, some .int, 0)
theorem ok_X6_countOf : MOK mu_X6_countOf 1 := ⟨gw_1192, gw_160, (by decide +kernel : plainFor yX6_countOf = true), ⟨(by decide +kernel : yX6_countOf.cls ≠ "java/lang/invoke/MethodHandle"), (by decide +kernel : yX6_countOf.cls ≠ "java/lang/invoke/VarHandle"), (by decide +kernel : (parseMethodDescriptor yX6_countOf.desc).map (fun d => d.parameters.length) = some 1)⟩, Nat.le_of_ble_eq_true rfl⟩
noncomputable def j_X6_countOf_28 (i1 : Int32) (i2 : Int32) (b5 : Bool) : Option ((Int32 × Int32) ⊕ Int32) :=
  bd (i1 + (b2i b5)) (fun (v6 : Int32) => some (Sum.inl (v6, i2 + 1)))
noncomputable def l_X6_countOf_4 (σ : Mem) (a : Nat) (x0 : Int32) (i1 : Int32) (i2 : Int32) : Option ((Int32 × Int32) ⊕ Int32) :=
  gF σ a 0 (fun (v3 : Int32) => if v3 ≤ i2 then (some (Sum.inr i1)) else (gI σ (rf a 1) i2 (fun (v4 : Int32) => (if v4 = x0 then (some true) else (some false) : Option Bool).bind (fun (z5 : Bool) => j_X6_countOf_28 i1 i2 z5))))
noncomputable def f_X6_countOf (σ : Mem) (a : Nat) (x0 : Int32) : Option Int32 :=
  loopO (fun (z2 : (Int32 × Int32)) => l_X6_countOf_4 σ a x0 z2.1 z2.2) (0, 0)
theorem t_X6_countOf {w : Wd} (hw : WOK w) {σ : Mem} {a : Nat} {x0 : Int32} (ha : isk w a 6) : JO w mu_X6_countOf vI σ [(0, .ref (adr w a)), (1, .int x0)] [] 0 (f_X6_countOf σ a x0) (fun z => some (z, σ)) := by
  unfold f_X6_countOf
  refine jo_iconst (pc := 0) dX6_countOf_0 (ic_i_0) ?_
  refine jo_istore_n (pc := 1) (lv' := [(2, .int 0), (0, .ref (adr w a)), (1, .int x0)]) dX6_countOf_1 rfl (ltb rfl) rfl ?_
  refine jo_iconst (pc := 2) dX6_countOf_2 (ic_i_0) ?_
  refine jo_istore_n (pc := 3) (lv' := [(3, .int 0), (2, .int 0), (0, .ref (adr w a)), (1, .int x0)]) dX6_countOf_3 rfl (ltb rfl) rfl ?_
  refine jo_lv (lv' := [(0, .ref (adr w a)), (1, .int x0), (2, .int 0), (3, .int 0)]) [2, 3, 1, 0] rfl ?_
  refine jo_loop (X := Int32) (fun (z2 : (Int32 × Int32)) => σ) (fun (z2 : (Int32 × Int32)) => [(0, .ref (adr w a)), (1, .int x0), (2, .int z2.1), (3, .int z2.2)]) (body := (fun (z2 : (Int32 × Int32)) => l_X6_countOf_4 σ a x0 z2.1 z2.2)) (fun F4_2 hF4_2 s => ?_) (0, 0)
  obtain ⟨i1, i2⟩ := s
  show JO w mu_X6_countOf vI σ [(0, .ref (adr w a)), (1, .int x0), (2, .int i1), (3, .int i2)] [] 4 (l_X6_countOf_4 σ a x0 i1 i2) _
  unfold l_X6_countOf_4
  refine jo_iload_n (pc := 4) 3 rfl dX6_countOf_4 rfl ?_
  refine jo_aload_n (pc := 5) 0 rfl dX6_countOf_5 rfl ?_
  refine jo_getf (pc := 6) ok_6_0 (ha) gw_193 dX6_countOf_6 (fun v3 => ?_)
  refine jo_icmp_ge (pc := 9) dX6_countOf_9 (tgt := 36) rfl ?_ ?_
  · refine jo_iload_n (pc := 36) 2 rfl dX6_countOf_36 rfl ?_
    exact jo_ireturn (pc := 37) rfl rfl dX6_countOf_37
  · refine jo_iload_n (pc := 12) 2 rfl dX6_countOf_12 rfl ?_
    refine jo_aload_n (pc := 13) 0 rfl dX6_countOf_13 rfl ?_
    refine jo_getr (pc := 14) ok_6_1 (ha) gw_200 dX6_countOf_14 ?_
    refine jo_iload_n (pc := 17) 3 rfl dX6_countOf_17 rfl ?_
    refine jo_iald (pc := 18) (wf_6_1 hw (ha)) dX6_countOf_18 (fun v4 => ?_)
    refine jo_iload_n (pc := 19) 1 rfl dX6_countOf_19 rfl ?_
    refine jo_join1 (S := Bool) (fun (z5 : Bool) => σ) (fun (z5 : Bool) => [(0, .ref (adr w a)), (1, .int x0), (3, .int i2)]) (fun (z5 : Bool) => [.int (b2i z5), .int i1]) 28 ?_ (fun h28_5 => ?_)
    · intro b5
      show JO w mu_X6_countOf vI σ [(0, .ref (adr w a)), (1, .int x0), (3, .int i2)] [.int (b2i b5), .int i1] 28 (j_X6_countOf_28 i1 i2 b5) _
      unfold j_X6_countOf_28
      refine jo_iadd (pc := 28) dX6_countOf_28 ?_
      refine jo_bd ?_
      refine jo_istore_n (pc := 29) (lv' := [(2, .int (i1 + (b2i b5))), (0, .ref (adr w a)), (1, .int x0), (3, .int i2)]) dX6_countOf_29 rfl (ltb rfl) rfl ?_
      generalize (i1 + (b2i b5)) = v6
      refine jo_iinc (pc := 30) (lv' := [(3, .int (i2 + 1)), (2, .int v6), (0, .ref (adr w a)), (1, .int x0)]) 3 rfl dX6_countOf_30 (congrArg (fun z => i2 + z) (ic_i_1)) (ltb rfl) rfl ?_
      refine jo_goto (pc := 33) dX6_countOf_33 (tgt := 4) rfl ?_
      refine jo_lv (lv' := [(0, .ref (adr w a)), (1, .int x0), (2, .int v6), (3, .int (i2 + 1))]) [2, 3, 1, 0] rfl ?_
      exact jo_leaf (by rfl) (hF4_2 (v6, i2 + 1))
    · refine jo_icmp_ne (pc := 20) dX6_countOf_20 (tgt := 27) rfl ?_ ?_
      · refine jo_iconst (pc := 27) dX6_countOf_27 (ic_i_0) ?_
        refine jo_lv (lv' := [(0, .ref (adr w a)), (1, .int x0), (3, .int i2)]) [0, 1, 3] rfl ?_
        exact jo_leaf (by rfl) (h28_5 false)
      · refine jo_iconst (pc := 23) dX6_countOf_23 (ic_i_1) ?_
        refine jo_goto (pc := 24) dX6_countOf_24 (tgt := 28) rfl ?_
        refine jo_lv (lv' := [(0, .ref (adr w a)), (1, .int x0), (3, .int i2)]) [0, 1, 3] rfl ?_
        exact jo_leaf (by rfl) (h28_5 true)
theorem c_X6_countOf {w : Wd} (hw : WOK w) {σ : Mem} {a : Nat} {x0 : Int32} (ha : isk w a 6) : ∀ r, f_X6_countOf σ a x0 = some r → MC w mu_X6_countOf (vI r) [.ref (adr w a), .int x0] σ σ := mc_ofP ok_X6_countOf rfl (Nat.le_of_ble_eq_true rfl) (t_X6_countOf hw ha)
abbrev mu_X9_factors : MD := (yX9_factors, cX9_factors, 2, some .long, 0)
theorem ok_X9_factors : MOK mu_X9_factors 2 := ⟨gw_918, gw_163, (by decide +kernel : plainFor yX9_factors = true), ⟨(by decide +kernel : yX9_factors.cls ≠ "java/lang/invoke/MethodHandle"), (by decide +kernel : yX9_factors.cls ≠ "java/lang/invoke/VarHandle"), (by decide +kernel : (parseMethodDescriptor yX9_factors.desc).map (fun d => d.parameters.length) = some 2)⟩, Nat.le_of_ble_eq_true rfl⟩
noncomputable def f_X9_factors (σ : Mem) (x0 : Int32) (x1 : Nat) : Option Int64 :=
  gL σ x1 (x0 &&& 63) (fun (v1 : Int64) => gL σ x1 ((x0 >>> (6 &&& 31)) &&& 63) (fun (v2 : Int64) => gL σ x1 ((x0 >>> (12 &&& 31)) &&& 63) (fun (v3 : Int64) => some ((v1 * v2) * v3))))
theorem t_X9_factors {w : Wd} (hw : WOK w) {σ : Mem} {x0 : Int32} {x1 : Nat} (hx1 : isk w x1 13) : JO w mu_X9_factors vL σ [(0, .int x0), (1, .ref (adr w x1))] [] 0 (f_X9_factors σ x0 x1) (fun z => some (z, σ)) := by
  unfold f_X9_factors
  refine jo_aload_n (pc := 0) 1 rfl dX9_factors_0 rfl ?_
  refine jo_iload_n (pc := 1) 0 rfl dX9_factors_1 rfl ?_
  refine jo_bipush (pc := 2) dX9_factors_2 (ic_b_63) ?_
  refine jo_iand (pc := 4) dX9_factors_4 ?_
  refine jo_lald (pc := 5) (hx1) dX9_factors_5 (fun v1 => ?_)
  refine jo_aload_n (pc := 6) 1 rfl dX9_factors_6 rfl ?_
  refine jo_iload_n (pc := 7) 0 rfl dX9_factors_7 rfl ?_
  refine jo_bipush (pc := 8) dX9_factors_8 (ic_b_6) ?_
  refine jo_ishr (pc := 10) dX9_factors_10 ?_
  refine jo_bipush (pc := 11) dX9_factors_11 (ic_b_63) ?_
  refine jo_iand (pc := 13) dX9_factors_13 ?_
  refine jo_lald (pc := 14) (hx1) dX9_factors_14 (fun v2 => ?_)
  refine jo_lmul (pc := 15) dX9_factors_15 ?_
  refine jo_aload_n (pc := 16) 1 rfl dX9_factors_16 rfl ?_
  refine jo_iload_n (pc := 17) 0 rfl dX9_factors_17 rfl ?_
  refine jo_bipush (pc := 18) dX9_factors_18 (ic_b_12) ?_
  refine jo_ishr (pc := 20) dX9_factors_20 ?_
  refine jo_bipush (pc := 21) dX9_factors_21 (ic_b_63) ?_
  refine jo_iand (pc := 23) dX9_factors_23 ?_
  refine jo_lald (pc := 24) (hx1) dX9_factors_24 (fun v3 => ?_)
  refine jo_lmul (pc := 25) dX9_factors_25 ?_
  exact jo_lreturn (pc := 26) rfl rfl dX9_factors_26
theorem c_X9_factors {w : Wd} (hw : WOK w) {σ : Mem} {x0 : Int32} {x1 : Nat} (hx1 : isk w x1 13) : ∀ r, f_X9_factors σ x0 x1 = some r → MC w mu_X9_factors (vL r) [.int x0, .ref (adr w x1)] σ σ := mc_ofP ok_X9_factors rfl (Nat.le_of_ble_eq_true rfl) (t_X9_factors hw hx1)
abbrev mu_X9_merge : MD := (yX9_merge, cX9_merge, 5, none, 3)
theorem ok_X9_merge : MOK mu_X9_merge 2 := ⟨gw_922, gw_163, (by decide +kernel : plainFor yX9_merge = true), ⟨(by decide +kernel : yX9_merge.cls ≠ "java/lang/invoke/MethodHandle"), (by decide +kernel : yX9_merge.cls ≠ "java/lang/invoke/VarHandle"), (by decide +kernel : (parseMethodDescriptor yX9_merge.desc).map (fun d => d.parameters.length) = some 2)⟩, Nat.le_of_ble_eq_true rfl⟩
noncomputable def j_X9_merge_48 (σ : Mem) (a : Nat) (x0 : Int32) (x1 : Int64) : Option Mem :=
  (f_X9_append σ a x0 x1).bind (fun (σ1 : Mem) => some σ1)
noncomputable def j_X9_merge_30 (σ : Mem) (a : Nat) (x1 : Int64) (i2 : Int32) : Option (Unit ⊕ Mem) :=
  gL σ (rf a 2) i2 (fun (v3 : Int64) => pL σ (rf a 2) i2 (v3 + x1) (fun (σ4 : Mem) => some (Sum.inr σ4)))
noncomputable def l_X9_merge_10 (σ : Mem) (a : Nat) (x0 : Int32) (i5 : Int32) : Option (Int32 ⊕ (Int32 ⊕ (Unit ⊕ Mem))) :=
  gF σ a 0 (fun (v6 : Int32) => if v6 ≤ i5 then (some (Sum.inr (Sum.inr (Sum.inl ())))) else (gI σ (rf a 1) i5 (fun (v7 : Int32) => if v7 = x0 then (some (Sum.inr (Sum.inl i5))) else (some (Sum.inl (i5 + 1))))))
noncomputable def f_X9_merge (σ : Mem) (a : Nat) (x0 : Int32) (x1 : Int64) : Option Mem :=
  if x1 = 0 then (some σ) else (((loopO (fun (z5 : Int32) => l_X9_merge_10 σ a x0 z5) 0 : Option (Int32 ⊕ (Unit ⊕ Mem))).bind (Sum.elim (fun (z2 : Int32) => j_X9_merge_30 σ a x1 z2) some) : Option (Unit ⊕ Mem)).bind (Sum.elim (fun (z0 : Unit) => j_X9_merge_48 σ a x0 x1) some))
theorem t_X9_merge {w : Wd} (hw : WOK w) {σ : Mem} {a : Nat} {x0 : Int32} {x1 : Int64} (ha : isk w a 9) : JO w mu_X9_merge vV σ [(0, .ref (adr w a)), (1, .int x0), (2, .long x1)] [] 0 (f_X9_merge σ a x0 x1) (fun z => some ((), z)) := by
  unfold f_X9_merge
  refine jo_lload_n (pc := 0) 2 rfl dX9_merge_0 rfl ?_
  refine jo_lconst (pc := 1) dX9_merge_1 (ic_l_0) ?_
  refine jo_lcmp_ne (pc := 2) dX9_merge_2 dX9_merge_3 (tgt := 7) rfl ?_ ?_
  · refine jo_iconst (pc := 7) dX9_merge_7 (ic_i_0) ?_
    refine jo_istore (pc := 8) (lv' := [(4, .int 0), (0, .ref (adr w a)), (1, .int x0), (2, .long x1)]) dX9_merge_8 (ltb rfl) rfl ?_
    refine jo_joinS (S := Unit) (fun (z0 : Unit) => σ) (fun (z0 : Unit) => [(0, .ref (adr w a)), (1, .int x0), (2, .long x1)]) (fun (z0 : Unit) => []) 48 ?_ (fun h48_0 => ?_)
    · intro _
      show JO w mu_X9_merge vV σ [(0, .ref (adr w a)), (1, .int x0), (2, .long x1)] [] 48 (j_X9_merge_48 σ a x0 x1) _
      unfold j_X9_merge_48
      refine jo_aload_n (pc := 48) 0 rfl dX9_merge_48 rfl ?_
      refine jo_iload_n (pc := 49) 1 rfl dX9_merge_49 rfl ?_
      refine jo_lload_n (pc := 50) 2 rfl dX9_merge_50 rfl ?_
      refine jo_cV_V_i (pc := 51) (μ' := mu_X9_append) (fx := f_X9_append σ a x0 x1) (As := [.int x0, .long x1]) (c_X9_append hw (ha)) (ok_X9_append) (ltb rfl) (all3 gw_923 gw_622 gw_623) (ha) (by decide) (q := (RX9, TX9, 4)) rfl rfl rfl rfl (Nat.le_of_ble_eq_true rfl) dX9_merge_51 (fun σ1 => ?_)
      exact jo_return (pc := 54) rfl rfl dX9_merge_54
    · refine jo_joinS (S := Int32) (fun (z2 : Int32) => σ) (fun (z2 : Int32) => [(0, .ref (adr w a)), (2, .long x1), (4, .int z2)]) (fun (z2 : Int32) => []) 30 ?_ (fun h30_2 => ?_)
      · intro i2
        show JO w mu_X9_merge vV σ [(0, .ref (adr w a)), (2, .long x1), (4, .int i2)] [] 30 (j_X9_merge_30 σ a x1 i2) _
        unfold j_X9_merge_30
        refine jo_aload_n (pc := 30) 0 rfl dX9_merge_30 rfl ?_
        refine jo_getr (pc := 31) ok_9_2 (ha) gw_286 dX9_merge_31 ?_
        refine jo_iload (pc := 34) 2 rfl dX9_merge_34 ?_
        refine jo_dup2 (pc := 36) dX9_merge_36 rfl rfl ?_
        refine jo_lald (pc := 37) (wf_9_2 hw (ha)) dX9_merge_37 (fun v3 => ?_)
        refine jo_lload_n (pc := 38) 1 rfl dX9_merge_38 rfl ?_
        refine jo_ladd (pc := 39) dX9_merge_39 ?_
        refine jo_last (pc := 40) (wf_9_2 hw (ha)) dX9_merge_40 (fun σ4 => ?_)
        exact jo_return (pc := 41) rfl rfl dX9_merge_41
      · refine jo_lv (lv' := [(0, .ref (adr w a)), (1, .int x0), (2, .long x1), (4, .int 0)]) [1, 2, 3, 0] rfl ?_
        refine jo_loop (X := Int32 ⊕ (Unit ⊕ Mem)) (fun (z5 : Int32) => σ) (fun (z5 : Int32) => [(0, .ref (adr w a)), (1, .int x0), (2, .long x1), (4, .int z5)]) (body := (fun (z5 : Int32) => l_X9_merge_10 σ a x0 z5)) (fun F10_5 hF10_5 s => ?_) 0
        revert s; intro i5
        show JO w mu_X9_merge vV σ [(0, .ref (adr w a)), (1, .int x0), (2, .long x1), (4, .int i5)] [] 10 (l_X9_merge_10 σ a x0 i5) _
        unfold l_X9_merge_10
        refine jo_iload (pc := 10) 3 rfl dX9_merge_10 ?_
        refine jo_aload_n (pc := 12) 0 rfl dX9_merge_12 rfl ?_
        refine jo_getf (pc := 13) ok_9_0 (ha) gw_279 dX9_merge_13 (fun v6 => ?_)
        refine jo_icmp_ge (pc := 16) dX9_merge_16 (tgt := 48) rfl ?_ ?_
        · refine jo_lv (lv' := [(0, .ref (adr w a)), (1, .int x0), (2, .long x1)]) [0, 1, 2] rfl ?_
          exact jo_leaf (by rfl) (h48_0 ())
        · refine jo_aload_n (pc := 19) 0 rfl dX9_merge_19 rfl ?_
          refine jo_getr (pc := 20) ok_9_1 (ha) gw_283 dX9_merge_20 ?_
          refine jo_iload (pc := 23) 3 rfl dX9_merge_23 ?_
          refine jo_iald (pc := 25) (wf_9_1 hw (ha)) dX9_merge_25 (fun v7 => ?_)
          refine jo_iload_n (pc := 26) 1 rfl dX9_merge_26 rfl ?_
          refine jo_icmp_ne (pc := 27) dX9_merge_27 (tgt := 42) rfl ?_ ?_
          · refine jo_iinc (pc := 42) (lv' := [(4, .int (i5 + 1)), (0, .ref (adr w a)), (1, .int x0), (2, .long x1)]) 3 rfl dX9_merge_42 (congrArg (fun z => i5 + z) (ic_i_1)) (ltb rfl) rfl ?_
            refine jo_goto (pc := 45) dX9_merge_45 (tgt := 10) rfl ?_
            refine jo_lv (lv' := [(0, .ref (adr w a)), (1, .int x0), (2, .long x1), (4, .int (i5 + 1))]) [1, 2, 3, 0] rfl ?_
            exact jo_leaf (by rfl) (hF10_5 (i5 + 1))
          · refine jo_lv (lv' := [(0, .ref (adr w a)), (2, .long x1), (4, .int i5)]) [0, 2, 3] rfl ?_
            exact jo_leaf (by rfl) (h30_2 i5)
  · exact jo_return (pc := 6) rfl rfl dX9_merge_6
theorem c_X9_merge {w : Wd} (hw : WOK w) {σ : Mem} {a : Nat} {x0 : Int32} {x1 : Int64} (ha : isk w a 9) : ∀ σ', f_X9_merge σ a x0 x1 = some σ' → MC w mu_X9_merge none [.ref (adr w a), .int x0, .long x1] σ σ' := mc_ofV ok_X9_merge rfl (Nat.le_of_ble_eq_true rfl) (t_X9_merge hw ha)
abbrev mu_X7_findGap : MD := (yX7_findGap, cX7_findGap, 6, none, 4)
theorem ok_X7_findGap : MOK mu_X7_findGap 2 := ⟨gw_913, gw_165, (by decide +kernel : plainFor yX7_findGap = true), ⟨(by decide +kernel : yX7_findGap.cls ≠ "java/lang/invoke/MethodHandle"), (by decide +kernel : yX7_findGap.cls ≠ "java/lang/invoke/VarHandle"), (by decide +kernel : (parseMethodDescriptor yX7_findGap.desc).map (fun d => d.parameters.length) = some 2)⟩, Nat.le_of_ble_eq_true rfl⟩
noncomputable def l_X7_findGap_2 (x0 : Nat) (x1 : Nat) (σ1 : Mem) (i2 : Int32) : Option ((Mem × Int32) ⊕ Mem) :=
  gF σ1 x0 0 (fun (v3 : Int32) => if v3 ≤ i2 then (some (Sum.inr σ1)) else (gI σ1 (rf x0 1) i2 (fun (v4 : Int32) => bd (v4 &&& 16773120) (fun (v5 : Int32) => gI σ1 (rf x0 1) i2 (fun (v6 : Int32) => bd (v6 &&& 4095) (fun (v7 : Int32) => gL σ1 (rf x0 2) i2 (fun (v8 : Int64) => (f_X9_placesOf σ1 v5).bind (fun (v9 : Int32) => (f_X9_factors σ1 v9 100).bind (fun (v10 : Int64) => (f_X9_merge σ1 x1 (v7 <<< (12 &&& 31)) (v8 * v10)).bind (fun (σ11 : Mem) => gL σ11 (rf x0 2) i2 (fun (v12 : Int64) => (f_X9_placesOf σ11 v7).bind (fun (v13 : Int32) => (f_X9_factors σ11 v13 100).bind (fun (v14 : Int64) => (f_X9_merge σ11 x1 v5 ((-v12) * v14)).bind (fun (σ15 : Mem) => some (Sum.inl (σ15, i2 + 1))))))))))))))))
noncomputable def f_X7_findGap (σ : Mem) (x0 : Nat) (x1 : Nat) : Option Mem :=
  loopO (fun (z2 : (Mem × Int32)) => l_X7_findGap_2 x0 x1 z2.1 z2.2) (σ, 0)
theorem t_X7_findGap {w : Wd} (hw : WOK w) {σ : Mem} {x0 : Nat} {x1 : Nat} (hx0 : isk w x0 9) (hx1 : isk w x1 9) : JO w mu_X7_findGap vV σ [(0, .ref (adr w 80)), (1, .ref (adr w x0)), (2, .ref (adr w x1))] [] 0 (f_X7_findGap σ x0 x1) (fun z => some ((), z)) := by
  unfold f_X7_findGap
  refine jo_iconst (pc := 0) dX7_findGap_0 (ic_i_0) ?_
  refine jo_istore_n (pc := 1) (lv' := [(3, .int 0), (0, .ref (adr w 80)), (1, .ref (adr w x0)), (2, .ref (adr w x1))]) dX7_findGap_1 rfl (ltb rfl) rfl ?_
  refine jo_lv (lv' := [(0, .ref (adr w 80)), (1, .ref (adr w x0)), (2, .ref (adr w x1)), (3, .int 0)]) [1, 2, 3, 0] rfl ?_
  refine jo_loop (X := Mem) (fun (z2 : (Mem × Int32)) => z2.1) (fun (z2 : (Mem × Int32)) => [(0, .ref (adr w 80)), (1, .ref (adr w x0)), (2, .ref (adr w x1)), (3, .int z2.2)]) (body := (fun (z2 : (Mem × Int32)) => l_X7_findGap_2 x0 x1 z2.1 z2.2)) (fun F2_2 hF2_2 s => ?_) (σ, 0)
  obtain ⟨σ1, i2⟩ := s
  show JO w mu_X7_findGap vV σ1 [(0, .ref (adr w 80)), (1, .ref (adr w x0)), (2, .ref (adr w x1)), (3, .int i2)] [] 2 (l_X7_findGap_2 x0 x1 σ1 i2) _
  unfold l_X7_findGap_2
  refine jo_iload_n (pc := 2) 3 rfl dX7_findGap_2 rfl ?_
  refine jo_aload_n (pc := 3) 1 rfl dX7_findGap_3 rfl ?_
  refine jo_getf (pc := 4) ok_9_0 (hx0) gw_281 dX7_findGap_4 (fun v3 => ?_)
  refine jo_icmp_ge (pc := 7) dX7_findGap_7 (tgt := 93) rfl ?_ ?_
  · exact jo_return (pc := 93) rfl rfl dX7_findGap_93
  · refine jo_aload_n (pc := 10) 1 rfl dX7_findGap_10 rfl ?_
    refine jo_getr (pc := 11) ok_9_1 (hx0) gw_284 dX7_findGap_11 ?_
    refine jo_iload_n (pc := 14) 3 rfl dX7_findGap_14 rfl ?_
    refine jo_iald (pc := 15) (wf_9_1 hw (hx0)) dX7_findGap_15 (fun v4 => ?_)
    refine jo_ldc (pc := 16) dX7_findGap_16 gw_914 ?_
    refine jo_iand (pc := 18) dX7_findGap_18 ?_
    refine jo_bd ?_
    refine jo_istore (pc := 19) (lv' := [(4, .int (v4 &&& 16773120)), (0, .ref (adr w 80)), (1, .ref (adr w x0)), (2, .ref (adr w x1)), (3, .int i2)]) dX7_findGap_19 (ltb rfl) rfl ?_
    generalize (v4 &&& 16773120) = v5
    refine jo_aload_n (pc := 21) 2 rfl dX7_findGap_21 rfl ?_
    refine jo_getr (pc := 22) ok_9_1 (hx0) gw_284 dX7_findGap_22 ?_
    refine jo_iload_n (pc := 25) 4 rfl dX7_findGap_25 rfl ?_
    refine jo_iald (pc := 26) (wf_9_1 hw (hx0)) dX7_findGap_26 (fun v6 => ?_)
    refine jo_sipush (pc := 27) dX7_findGap_27 (ic_s_4095) ?_
    refine jo_iand (pc := 30) dX7_findGap_30 ?_
    refine jo_bd ?_
    refine jo_istore (pc := 31) (lv' := [(5, .int (v6 &&& 4095)), (4, .int v5), (0, .ref (adr w 80)), (1, .ref (adr w x0)), (2, .ref (adr w x1)), (3, .int i2)]) dX7_findGap_31 (ltb rfl) rfl ?_
    generalize (v6 &&& 4095) = v7
    refine jo_aload_n (pc := 33) 4 rfl dX7_findGap_33 rfl ?_
    refine jo_iload (pc := 34) 0 rfl dX7_findGap_34 ?_
    refine jo_bipush (pc := 36) dX7_findGap_36 (ic_b_12) ?_
    refine jo_ishl (pc := 38) dX7_findGap_38 ?_
    refine jo_aload_n (pc := 39) 3 rfl dX7_findGap_39 rfl ?_
    refine jo_getr (pc := 40) ok_9_2 (hx0) gw_287 dX7_findGap_40 ?_
    refine jo_iload_n (pc := 43) 5 rfl dX7_findGap_43 rfl ?_
    refine jo_lald (pc := 44) (wf_9_2 hw (hx0)) dX7_findGap_44 (fun v8 => ?_)
    refine jo_iload (pc := 45) 1 rfl dX7_findGap_45 ?_
    refine jo_cS_I_p (pc := 47) (μ' := mu_X9_placesOf) (fx := f_X9_placesOf σ1 v5) (As := [.int v5]) (c_X9_placesOf hw) (ok_X9_placesOf) (ltb rfl) (all2 gw_915 gw_626) rfl rfl (Nat.le_of_ble_eq_true rfl) dX7_findGap_47 (fun v9 => ?_)
    refine jo_aload_n (pc := 50) 2 rfl dX7_findGap_50 rfl ?_
    refine jo_getrE (pc := 51) ok_7_4 (ik_80 hw) rf_80_4 gw_395 dX7_findGap_51 ?_
    refine jo_cS_J_p (pc := 54) (μ' := mu_X9_factors) (fx := f_X9_factors σ1 v9 100) (As := [.int v9, .ref (adr w 100)]) (c_X9_factors hw (ik_100 hw)) (ok_X9_factors) (ltb rfl) (all2 gw_916 gw_917) rfl rfl (Nat.le_of_ble_eq_true rfl) dX7_findGap_54 (fun v10 => ?_)
    refine jo_lmul (pc := 57) dX7_findGap_57 ?_
    refine jo_cV_V_i (pc := 58) (μ' := mu_X9_merge) (fx := f_X9_merge σ1 x1 (v7 <<< (12 &&& 31)) (v8 * v10)) (As := [.int (v7 <<< (12 &&& 31)), .long (v8 * v10)]) (c_X9_merge hw (hx1)) (ok_X9_merge) (ltb rfl) (all3 gw_919 gw_920 gw_921) (hx1) (by decide) (q := (RX9, TX9, 4)) rfl rfl rfl rfl (Nat.le_of_ble_eq_true rfl) dX7_findGap_58 (fun σ11 => ?_)
    refine jo_aload_n (pc := 61) 4 rfl dX7_findGap_61 rfl ?_
    refine jo_iload (pc := 62) 1 rfl dX7_findGap_62 ?_
    refine jo_aload_n (pc := 64) 3 rfl dX7_findGap_64 rfl ?_
    refine jo_getr (pc := 65) ok_9_2 (hx0) gw_287 dX7_findGap_65 ?_
    refine jo_iload_n (pc := 68) 5 rfl dX7_findGap_68 rfl ?_
    refine jo_lald (pc := 69) (wf_9_2 hw (hx0)) dX7_findGap_69 (fun v12 => ?_)
    refine jo_lneg (pc := 70) dX7_findGap_70 ?_
    refine jo_iload (pc := 71) 0 rfl dX7_findGap_71 ?_
    refine jo_cS_I_p (pc := 73) (μ' := mu_X9_placesOf) (fx := f_X9_placesOf σ11 v7) (As := [.int v7]) (c_X9_placesOf hw) (ok_X9_placesOf) (ltb rfl) (all2 gw_915 gw_626) rfl rfl (Nat.le_of_ble_eq_true rfl) dX7_findGap_73 (fun v13 => ?_)
    refine jo_aload_n (pc := 76) 2 rfl dX7_findGap_76 rfl ?_
    refine jo_getrE (pc := 77) ok_7_4 (ik_80 hw) rf_80_4 gw_395 dX7_findGap_77 ?_
    refine jo_cS_J_p (pc := 80) (μ' := mu_X9_factors) (fx := f_X9_factors σ11 v13 100) (As := [.int v13, .ref (adr w 100)]) (c_X9_factors hw (ik_100 hw)) (ok_X9_factors) (ltb rfl) (all2 gw_916 gw_917) rfl rfl (Nat.le_of_ble_eq_true rfl) dX7_findGap_80 (fun v14 => ?_)
    refine jo_lmul (pc := 83) dX7_findGap_83 ?_
    refine jo_cV_V_i (pc := 84) (μ' := mu_X9_merge) (fx := f_X9_merge σ11 x1 v5 ((-v12) * v14)) (As := [.int v5, .long ((-v12) * v14)]) (c_X9_merge hw (hx1)) (ok_X9_merge) (ltb rfl) (all3 gw_919 gw_920 gw_921) (hx1) (by decide) (q := (RX9, TX9, 4)) rfl rfl rfl rfl (Nat.le_of_ble_eq_true rfl) dX7_findGap_84 (fun σ15 => ?_)
    refine jo_iinc (pc := 87) (lv' := [(3, .int (i2 + 1)), (5, .int v7), (4, .int v5), (0, .ref (adr w 80)), (1, .ref (adr w x0)), (2, .ref (adr w x1))]) 5 rfl dX7_findGap_87 (congrArg (fun z => i2 + z) (ic_i_1)) (ltb rfl) rfl ?_
    refine jo_goto (pc := 90) dX7_findGap_90 (tgt := 2) rfl ?_
    refine jo_lv (lv' := [(0, .ref (adr w 80)), (1, .ref (adr w x0)), (2, .ref (adr w x1)), (3, .int (i2 + 1))]) [3, 4, 5, 0] rfl ?_
    exact jo_leaf (by rfl) (hF2_2 (σ15, i2 + 1))
theorem c_X7_findGap {w : Wd} (hw : WOK w) {σ : Mem} {x0 : Nat} {x1 : Nat} (hx0 : isk w x0 9) (hx1 : isk w x1 9) : ∀ σ', f_X7_findGap σ x0 x1 = some σ' → MC w mu_X7_findGap none [.ref (adr w 80), .ref (adr w x0), .ref (adr w x1)] σ σ' := mc_ofV ok_X7_findGap rfl (Nat.le_of_ble_eq_true rfl) (t_X7_findGap hw hx0 hx1)
abbrev mu_X7_findGaps : MD := (yX7_findGaps, cX7_findGaps, 4, none, 5)
theorem ok_X7_findGaps : MOK mu_X7_findGaps 2 := ⟨gw_908, gw_165, (by decide +kernel : plainFor yX7_findGaps = true), ⟨(by decide +kernel : yX7_findGaps.cls ≠ "java/lang/invoke/MethodHandle"), (by decide +kernel : yX7_findGaps.cls ≠ "java/lang/invoke/VarHandle"), (by decide +kernel : (parseMethodDescriptor yX7_findGaps.desc).map (fun d => d.parameters.length) = some 2)⟩, Nat.le_of_ble_eq_true rfl⟩
noncomputable def l_X7_findGaps_41 (σ2 : Mem) (i3 : Int32) : Option ((Mem × Int32) ⊕ Mem) :=
  if 6 ≤ i3 then (some (Sum.inr σ2)) else (gR 99 i3 (fun (p4 : Nat) => pF σ2 p4 0 0 (fun (σ5 : Mem) => gR 44 i3 (fun (p6 : Nat) => gR 99 i3 (fun (p7 : Nat) => (f_X7_findGap σ5 p6 p7).bind (fun (σ8 : Mem) => some (Sum.inl (σ8, i3 + 1))))))))
noncomputable def j_X7_findGaps_39 (σ1 : Mem) : Option Mem :=
  loopO (fun (z3 : (Mem × Int32)) => l_X7_findGaps_41 z3.1 z3.2) (σ1, 0)
noncomputable def l_X7_findGaps_2 (x0 : Nat) (x1 : Nat) (σ9 : Mem) (i10 : Int32) : Option ((Mem × Int32) ⊕ Mem) :=
  if 6 ≤ i10 then (some (Sum.inr σ9)) else (gL σ9 x0 i10 (fun (v11 : Int64) => (f_X4_put σ9 100 i10 v11).bind (fun (σ12 : Mem) => gL σ12 x1 i10 (fun (v13 : Int64) => (f_X4_put σ12 100 (6 + i10) v13).bind (fun (σ14 : Mem) => some (Sum.inl (σ14, i10 + 1)))))))
noncomputable def f_X7_findGaps (σ : Mem) (x0 : Nat) (x1 : Nat) : Option Mem :=
  (loopO (fun (z10 : (Mem × Int32)) => l_X7_findGaps_2 x0 x1 z10.1 z10.2) (σ, 0) : Option Mem).bind (fun (z1 : Mem) => j_X7_findGaps_39 z1)
theorem t_X7_findGaps {w : Wd} (hw : WOK w) {σ : Mem} {x0 : Nat} {x1 : Nat} (hx0 : isk w x0 13) (hx1 : isk w x1 13) : JO w mu_X7_findGaps vV σ [(0, .ref (adr w 80)), (1, .ref (adr w x0)), (2, .ref (adr w x1))] [] 0 (f_X7_findGaps σ x0 x1) (fun z => some ((), z)) := by
  unfold f_X7_findGaps
  refine jo_iconst (pc := 0) dX7_findGaps_0 (ic_i_0) ?_
  refine jo_istore_n (pc := 1) (lv' := [(3, .int 0), (0, .ref (adr w 80)), (1, .ref (adr w x0)), (2, .ref (adr w x1))]) dX7_findGaps_1 rfl (ltb rfl) rfl ?_
  refine jo_join1 (S := Mem) (fun (z1 : Mem) => z1) (fun (z1 : Mem) => [(0, .ref (adr w 80))]) (fun (z1 : Mem) => []) 39 ?_ (fun h39_1 => ?_)
  · intro σ1
    show JO w mu_X7_findGaps vV σ1 [(0, .ref (adr w 80))] [] 39 (j_X7_findGaps_39 σ1) _
    unfold j_X7_findGaps_39
    refine jo_iconst (pc := 39) dX7_findGaps_39 (ic_i_0) ?_
    refine jo_istore_n (pc := 40) (lv' := [(3, .int 0), (0, .ref (adr w 80))]) dX7_findGaps_40 rfl (ltb rfl) rfl ?_
    refine jo_lv (lv' := [(0, .ref (adr w 80)), (3, .int 0)]) [1, 0] rfl ?_
    refine jo_loop (X := Mem) (fun (z3 : (Mem × Int32)) => z3.1) (fun (z3 : (Mem × Int32)) => [(0, .ref (adr w 80)), (3, .int z3.2)]) (body := (fun (z3 : (Mem × Int32)) => l_X7_findGaps_41 z3.1 z3.2)) (fun F41_3 hF41_3 s => ?_) (σ1, 0)
    obtain ⟨σ2, i3⟩ := s
    show JO w mu_X7_findGaps vV σ2 [(0, .ref (adr w 80)), (3, .int i3)] [] 41 (l_X7_findGaps_41 σ2 i3) _
    unfold l_X7_findGaps_41
    refine jo_iload_n (pc := 41) 1 rfl dX7_findGaps_41 rfl ?_
    refine jo_bipush (pc := 42) dX7_findGaps_42 (ic_b_6) ?_
    refine jo_icmp_ge (pc := 44) dX7_findGaps_44 (tgt := 82) rfl ?_ ?_
    · exact jo_return (pc := 82) rfl rfl dX7_findGaps_82
    · refine jo_aload_n (pc := 47) 0 rfl dX7_findGaps_47 rfl ?_
      refine jo_getrE (pc := 48) ok_7_3 (ik_80 hw) rf_80_3 gw_394 dX7_findGaps_48 ?_
      refine jo_iload_n (pc := 51) 1 rfl dX7_findGaps_51 rfl ?_
      refine jo_aaldG (pc := 52) (z := 9) hw (ik_99 hw) (by decide) (t := 3) rfl rfl (by decide) dX7_findGaps_52 (fun p4 hp4 => ?_)
      refine jo_iconst (pc := 53) dX7_findGaps_53 (ic_i_0) ?_
      refine jo_putf (pc := 54) ok_9_0 okp_9_0 (hp4) gw_281 dX7_findGaps_54 (fun σ5 => ?_)
      refine jo_aload_n (pc := 57) 0 rfl dX7_findGaps_57 rfl ?_
      refine jo_aload_n (pc := 58) 0 rfl dX7_findGaps_58 rfl ?_
      refine jo_getrE (pc := 59) ok_7_0 (ik_80 hw) rf_80_0 gw_391 dX7_findGaps_59 ?_
      refine jo_getrE (pc := 62) ok_4_2 (ik_40 hw) rf_40_2 gw_304 dX7_findGaps_62 ?_
      refine jo_iload_n (pc := 65) 1 rfl dX7_findGaps_65 rfl ?_
      refine jo_aaldG (pc := 66) (z := 9) hw (ik_44 hw) (by decide) (t := 3) rfl rfl (by decide) dX7_findGaps_66 (fun p6 hp6 => ?_)
      refine jo_aload_n (pc := 67) 0 rfl dX7_findGaps_67 rfl ?_
      refine jo_getrE (pc := 68) ok_7_3 (ik_80 hw) rf_80_3 gw_394 dX7_findGaps_68 ?_
      refine jo_iload_n (pc := 71) 1 rfl dX7_findGaps_71 rfl ?_
      refine jo_aaldG (pc := 72) (z := 9) hw (ik_99 hw) (by decide) (t := 3) rfl rfl (by decide) dX7_findGaps_72 (fun p7 hp7 => ?_)
      refine jo_cV_V_i (pc := 73) (μ' := mu_X7_findGap) (fx := f_X7_findGap σ5 p6 p7) (As := [.ref (adr w p6), .ref (adr w p7)]) (c_X7_findGap hw (hp6) (hp7)) (ok_X7_findGap) (ltb rfl) (all3 gw_910 gw_912 gw_19) (ik_80 hw) (by decide) (q := (RX7, TX7, 11)) rfl rfl rfl rfl (Nat.le_of_ble_eq_true rfl) dX7_findGaps_73 (fun σ8 => ?_)
      refine jo_iinc (pc := 76) (lv' := [(3, .int (i3 + 1)), (0, .ref (adr w 80))]) 1 rfl dX7_findGaps_76 (congrArg (fun z => i3 + z) (ic_i_1)) (ltb rfl) rfl ?_
      refine jo_goto (pc := 79) dX7_findGaps_79 (tgt := 41) rfl ?_
      refine jo_lv (lv' := [(0, .ref (adr w 80)), (3, .int (i3 + 1))]) [1, 0] rfl ?_
      exact jo_leaf (by rfl) (hF41_3 (σ8, i3 + 1))
  · refine jo_lv (lv' := [(0, .ref (adr w 80)), (1, .ref (adr w x0)), (2, .ref (adr w x1)), (3, .int 0)]) [1, 2, 3, 0] rfl ?_
    refine jo_loop (X := Mem) (fun (z10 : (Mem × Int32)) => z10.1) (fun (z10 : (Mem × Int32)) => [(0, .ref (adr w 80)), (1, .ref (adr w x0)), (2, .ref (adr w x1)), (3, .int z10.2)]) (body := (fun (z10 : (Mem × Int32)) => l_X7_findGaps_2 x0 x1 z10.1 z10.2)) (fun F2_10 hF2_10 s => ?_) (σ, 0)
    obtain ⟨σ9, i10⟩ := s
    show JO w mu_X7_findGaps vV σ9 [(0, .ref (adr w 80)), (1, .ref (adr w x0)), (2, .ref (adr w x1)), (3, .int i10)] [] 2 (l_X7_findGaps_2 x0 x1 σ9 i10) _
    unfold l_X7_findGaps_2
    refine jo_iload_n (pc := 2) 3 rfl dX7_findGaps_2 rfl ?_
    refine jo_bipush (pc := 3) dX7_findGaps_3 (ic_b_6) ?_
    refine jo_icmp_ge (pc := 5) dX7_findGaps_5 (tgt := 39) rfl ?_ ?_
    · refine jo_lv (lv' := [(0, .ref (adr w 80))]) [0] rfl ?_
      exact jo_leaf (by rfl) (h39_1 σ9)
    · refine jo_aload_n (pc := 8) 0 rfl dX7_findGaps_8 rfl ?_
      refine jo_getrE (pc := 9) ok_7_4 (ik_80 hw) rf_80_4 gw_395 dX7_findGaps_9 ?_
      refine jo_iload_n (pc := 12) 3 rfl dX7_findGaps_12 rfl ?_
      refine jo_aload_n (pc := 13) 1 rfl dX7_findGaps_13 rfl ?_
      refine jo_iload_n (pc := 14) 3 rfl dX7_findGaps_14 rfl ?_
      refine jo_lald (pc := 15) (hx0) dX7_findGaps_15 (fun v11 => ?_)
      refine jo_cS_V_i (pc := 16) (μ' := mu_X4_put) (fx := f_X4_put σ9 100 i10 v11) (As := [.ref (adr w 100), .int i10, .long v11]) (c_X4_put hw (ik_100 hw)) (ok_X4_put) (ltb rfl) (all2 gw_909 gw_614) rfl rfl (Nat.le_of_ble_eq_true rfl) dX7_findGaps_16 (fun σ12 => ?_)
      refine jo_aload_n (pc := 19) 0 rfl dX7_findGaps_19 rfl ?_
      refine jo_getrE (pc := 20) ok_7_4 (ik_80 hw) rf_80_4 gw_395 dX7_findGaps_20 ?_
      refine jo_bipush (pc := 23) dX7_findGaps_23 (ic_b_6) ?_
      refine jo_iload_n (pc := 25) 3 rfl dX7_findGaps_25 rfl ?_
      refine jo_iadd (pc := 26) dX7_findGaps_26 ?_
      refine jo_aload_n (pc := 27) 2 rfl dX7_findGaps_27 rfl ?_
      refine jo_iload_n (pc := 28) 3 rfl dX7_findGaps_28 rfl ?_
      refine jo_lald (pc := 29) (hx1) dX7_findGaps_29 (fun v13 => ?_)
      refine jo_cS_V_i (pc := 30) (μ' := mu_X4_put) (fx := f_X4_put σ12 100 (6 + i10) v13) (As := [.ref (adr w 100), .int (6 + i10), .long v13]) (c_X4_put hw (ik_100 hw)) (ok_X4_put) (ltb rfl) (all2 gw_909 gw_614) rfl rfl (Nat.le_of_ble_eq_true rfl) dX7_findGaps_30 (fun σ14 => ?_)
      refine jo_iinc (pc := 33) (lv' := [(3, .int (i10 + 1)), (0, .ref (adr w 80)), (1, .ref (adr w x0)), (2, .ref (adr w x1))]) 3 rfl dX7_findGaps_33 (congrArg (fun z => i10 + z) (ic_i_1)) (ltb rfl) rfl ?_
      refine jo_goto (pc := 36) dX7_findGaps_36 (tgt := 2) rfl ?_
      refine jo_lv (lv' := [(0, .ref (adr w 80)), (1, .ref (adr w x0)), (2, .ref (adr w x1)), (3, .int (i10 + 1))]) [1, 2, 3, 0] rfl ?_
      exact jo_leaf (by rfl) (hF2_10 (σ14, i10 + 1))
theorem c_X7_findGaps {w : Wd} (hw : WOK w) {σ : Mem} {x0 : Nat} {x1 : Nat} (hx0 : isk w x0 13) (hx1 : isk w x1 13) : ∀ σ', f_X7_findGaps σ x0 x1 = some σ' → MC w mu_X7_findGaps none [.ref (adr w 80), .ref (adr w x0), .ref (adr w x1)] σ σ' := mc_ofV ok_X7_findGaps rfl (Nat.le_of_ble_eq_true rfl) (t_X7_findGaps hw hx0 hx1)
abbrev mu_X7_setU : MD := (yX7_setU, cX7_setU, 4, none, 1)
theorem ok_X7_setU : MOK mu_X7_setU 2 := ⟨gw_931, gw_165, (by decide +kernel : plainFor yX7_setU = true), ⟨(by decide +kernel : yX7_setU.cls ≠ "java/lang/invoke/MethodHandle"), (by decide +kernel : yX7_setU.cls ≠ "java/lang/invoke/VarHandle"), (by decide +kernel : (parseMethodDescriptor yX7_setU.desc).map (fun d => d.parameters.length) = some 2)⟩, Nat.le_of_ble_eq_true rfl⟩
noncomputable def f_X7_setU (σ : Mem) (x0 : Int32) (x1 : Int64) : Option Mem :=
  if x0 < 0 then (some σ) else (if 6 ≤ x0 then (some σ) else (pL σ 103 x0 x1 (fun (σ1 : Mem) => (f_X4_put σ1 100 x0 x1).bind (fun (σ2 : Mem) => some σ2))))
theorem t_X7_setU {w : Wd} (hw : WOK w) {σ : Mem} {x0 : Int32} {x1 : Int64} : JO w mu_X7_setU vV σ [(0, .ref (adr w 80)), (1, .int x0), (2, .long x1)] [] 0 (f_X7_setU σ x0 x1) (fun z => some ((), z)) := by
  unfold f_X7_setU
  refine jo_iload_n (pc := 0) 1 rfl dX7_setU_0 rfl ?_
  refine jo_if_lt (pc := 1) dX7_setU_1 (tgt := 26) rfl ?_ ?_
  · exact jo_return (pc := 26) rfl rfl dX7_setU_26
  · refine jo_iload_n (pc := 4) 1 rfl dX7_setU_4 rfl ?_
    refine jo_bipush (pc := 5) dX7_setU_5 (ic_b_6) ?_
    refine jo_icmp_ge (pc := 7) dX7_setU_7 (tgt := 26) rfl ?_ ?_
    · exact jo_return (pc := 26) rfl rfl dX7_setU_26
    · refine jo_aload_n (pc := 10) 0 rfl dX7_setU_10 rfl ?_
      refine jo_getrE (pc := 11) ok_7_7 (ik_80 hw) rf_80_7 gw_398 dX7_setU_11 ?_
      refine jo_iload_n (pc := 14) 1 rfl dX7_setU_14 rfl ?_
      refine jo_lload_n (pc := 15) 2 rfl dX7_setU_15 rfl ?_
      refine jo_last (pc := 16) (ik_103 hw) dX7_setU_16 (fun σ1 => ?_)
      refine jo_aload_n (pc := 17) 0 rfl dX7_setU_17 rfl ?_
      refine jo_getrE (pc := 18) ok_7_4 (ik_80 hw) rf_80_4 gw_395 dX7_setU_18 ?_
      refine jo_iload_n (pc := 21) 1 rfl dX7_setU_21 rfl ?_
      refine jo_lload_n (pc := 22) 2 rfl dX7_setU_22 rfl ?_
      refine jo_cS_V_i (pc := 23) (μ' := mu_X4_put) (fx := f_X4_put σ1 100 x0 x1) (As := [.ref (adr w 100), .int x0, .long x1]) (c_X4_put hw (ik_100 hw)) (ok_X4_put) (ltb rfl) (all2 gw_909 gw_614) rfl rfl (Nat.le_of_ble_eq_true rfl) dX7_setU_23 (fun σ2 => ?_)
      exact jo_return (pc := 26) rfl rfl dX7_setU_26
theorem c_X7_setU {w : Wd} (hw : WOK w) {σ : Mem} {x0 : Int32} {x1 : Int64} : ∀ σ', f_X7_setU σ x0 x1 = some σ' → MC w mu_X7_setU none [.ref (adr w 80), .int x0, .long x1] σ σ' := mc_ofV ok_X7_setU rfl (Nat.le_of_ble_eq_true rfl) (t_X7_setU hw)
abbrev mu_X7_putU : MD := (yX7_putU, cX7_putU, 4, none, 2)
theorem ok_X7_putU : MOK mu_X7_putU 1 := ⟨gw_927, gw_165, (by decide +kernel : plainFor yX7_putU = true), ⟨(by decide +kernel : yX7_putU.cls ≠ "java/lang/invoke/MethodHandle"), (by decide +kernel : yX7_putU.cls ≠ "java/lang/invoke/VarHandle"), (by decide +kernel : (parseMethodDescriptor yX7_putU.desc).map (fun d => d.parameters.length) = some 1)⟩, Nat.le_of_ble_eq_true rfl⟩
noncomputable def l_X7_putU_2 (x0 : Int64) (σ1 : Mem) (i2 : Int32) : Option ((Mem × Int32) ⊕ Mem) :=
  if 6 ≤ i2 then (some (Sum.inr σ1)) else ((f_X7_setU σ1 i2 x0).bind (fun (σ3 : Mem) => some (Sum.inl (σ3, i2 + 1))))
noncomputable def f_X7_putU (σ : Mem) (x0 : Int64) : Option Mem :=
  loopO (fun (z2 : (Mem × Int32)) => l_X7_putU_2 x0 z2.1 z2.2) (σ, 0)
theorem t_X7_putU {w : Wd} (hw : WOK w) {σ : Mem} {x0 : Int64} : JO w mu_X7_putU vV σ [(0, .ref (adr w 80)), (1, .long x0)] [] 0 (f_X7_putU σ x0) (fun z => some ((), z)) := by
  unfold f_X7_putU
  refine jo_iconst (pc := 0) dX7_putU_0 (ic_i_0) ?_
  refine jo_istore_n (pc := 1) (lv' := [(3, .int 0), (0, .ref (adr w 80)), (1, .long x0)]) dX7_putU_1 rfl (ltb rfl) rfl ?_
  refine jo_lv (lv' := [(0, .ref (adr w 80)), (1, .long x0), (3, .int 0)]) [1, 2, 0] rfl ?_
  refine jo_loop (X := Mem) (fun (z2 : (Mem × Int32)) => z2.1) (fun (z2 : (Mem × Int32)) => [(0, .ref (adr w 80)), (1, .long x0), (3, .int z2.2)]) (body := (fun (z2 : (Mem × Int32)) => l_X7_putU_2 x0 z2.1 z2.2)) (fun F2_2 hF2_2 s => ?_) (σ, 0)
  obtain ⟨σ1, i2⟩ := s
  show JO w mu_X7_putU vV σ1 [(0, .ref (adr w 80)), (1, .long x0), (3, .int i2)] [] 2 (l_X7_putU_2 x0 σ1 i2) _
  unfold l_X7_putU_2
  refine jo_iload_n (pc := 2) 2 rfl dX7_putU_2 rfl ?_
  refine jo_bipush (pc := 3) dX7_putU_3 (ic_b_6) ?_
  refine jo_icmp_ge (pc := 5) dX7_putU_5 (tgt := 20) rfl ?_ ?_
  · exact jo_return (pc := 20) rfl rfl dX7_putU_20
  · refine jo_aload_n (pc := 8) 0 rfl dX7_putU_8 rfl ?_
    refine jo_iload_n (pc := 9) 2 rfl dX7_putU_9 rfl ?_
    refine jo_lload_n (pc := 10) 1 rfl dX7_putU_10 rfl ?_
    refine jo_cV_V_i (pc := 11) (μ' := mu_X7_setU) (fx := f_X7_setU σ1 i2 x0) (As := [.int i2, .long x0]) (c_X7_setU hw) (ok_X7_setU) (ltb rfl) (all3 gw_928 gw_930 gw_21) (ik_80 hw) (by decide) (q := (RX7, TX7, 11)) rfl rfl rfl rfl (Nat.le_of_ble_eq_true rfl) dX7_putU_11 (fun σ3 => ?_)
    refine jo_iinc (pc := 14) (lv' := [(3, .int (i2 + 1)), (0, .ref (adr w 80)), (1, .long x0)]) 2 rfl dX7_putU_14 (congrArg (fun z => i2 + z) (ic_i_1)) (ltb rfl) rfl ?_
    refine jo_goto (pc := 17) dX7_putU_17 (tgt := 2) rfl ?_
    refine jo_lv (lv' := [(0, .ref (adr w 80)), (1, .long x0), (3, .int (i2 + 1))]) [1, 2, 0] rfl ?_
    exact jo_leaf (by rfl) (hF2_2 (σ3, i2 + 1))
theorem c_X7_putU {w : Wd} (hw : WOK w) {σ : Mem} {x0 : Int64} : ∀ σ', f_X7_putU σ x0 = some σ' → MC w mu_X7_putU none [.ref (adr w 80), .long x0] σ σ' := mc_ofV ok_X7_putU rfl (Nat.le_of_ble_eq_true rfl) (t_X7_putU hw)
abbrev mu_X7_areClosed : MD := (yX7_areClosed, cX7_areClosed, 4, some .boolean, 1)
theorem ok_X7_areClosed : MOK mu_X7_areClosed 2 := ⟨gw_936, gw_165, (by decide +kernel : plainFor yX7_areClosed = true), ⟨(by decide +kernel : yX7_areClosed.cls ≠ "java/lang/invoke/MethodHandle"), (by decide +kernel : yX7_areClosed.cls ≠ "java/lang/invoke/VarHandle"), (by decide +kernel : (parseMethodDescriptor yX7_areClosed.desc).map (fun d => d.parameters.length) = some 2)⟩, Nat.le_of_ble_eq_true rfl⟩
noncomputable def l_X7_areClosed_2 (σ : Mem) (x1 : Int32) (i1 : Int32) : Option (Int32 ⊕ Bool) :=
  if x1 ≤ i1 then (some (Sum.inr true)) else (if 6 ≤ i1 then (some (Sum.inr true)) else (gR 99 i1 (fun (p2 : Nat) => (f_X9_value σ p2 100).bind (fun (v3 : Int64) => if v3 = 0 then (some (Sum.inl (i1 + 1))) else (some (Sum.inr false))))))
noncomputable def f_X7_areClosed (σ : Mem) (x0 : Int32) (x1 : Int32) : Option Bool :=
  loopO (fun (z1 : Int32) => l_X7_areClosed_2 σ x1 z1) x0
theorem t_X7_areClosed {w : Wd} (hw : WOK w) {σ : Mem} {x0 : Int32} {x1 : Int32} : JO w mu_X7_areClosed vB σ [(0, .ref (adr w 80)), (1, .int x0), (2, .int x1)] [] 0 (f_X7_areClosed σ x0 x1) (fun z => some (z, σ)) := by
  unfold f_X7_areClosed
  refine jo_iload_n (pc := 0) 1 rfl dX7_areClosed_0 rfl ?_
  refine jo_istore_n (pc := 1) (lv' := [(3, .int x0), (0, .ref (adr w 80)), (1, .int x0), (2, .int x1)]) dX7_areClosed_1 rfl (ltb rfl) rfl ?_
  refine jo_lv (lv' := [(0, .ref (adr w 80)), (2, .int x1), (3, .int x0)]) [1, 3, 0] rfl ?_
  refine jo_loop (X := Bool) (fun (z1 : Int32) => σ) (fun (z1 : Int32) => [(0, .ref (adr w 80)), (2, .int x1), (3, .int z1)]) (body := (fun (z1 : Int32) => l_X7_areClosed_2 σ x1 z1)) (fun F2_1 hF2_1 s => ?_) x0
  revert s; intro i1
  show JO w mu_X7_areClosed vB σ [(0, .ref (adr w 80)), (2, .int x1), (3, .int i1)] [] 2 (l_X7_areClosed_2 σ x1 i1) _
  unfold l_X7_areClosed_2
  refine jo_iload_n (pc := 2) 2 rfl dX7_areClosed_2 rfl ?_
  refine jo_iload_n (pc := 3) 1 rfl dX7_areClosed_3 rfl ?_
  refine jo_icmp_ge (pc := 4) dX7_areClosed_4 (tgt := 39) rfl ?_ ?_
  · refine jo_iconst (pc := 39) dX7_areClosed_39 (ic_i_1) ?_
    exact jo_breturn (pc := 40) (b := true) rfl rfl dX7_areClosed_40
  · refine jo_iload_n (pc := 7) 2 rfl dX7_areClosed_7 rfl ?_
    refine jo_bipush (pc := 8) dX7_areClosed_8 (ic_b_6) ?_
    refine jo_icmp_ge (pc := 10) dX7_areClosed_10 (tgt := 39) rfl ?_ ?_
    · refine jo_iconst (pc := 39) dX7_areClosed_39 (ic_i_1) ?_
      exact jo_breturn (pc := 40) (b := true) rfl rfl dX7_areClosed_40
    · refine jo_aload_n (pc := 13) 0 rfl dX7_areClosed_13 rfl ?_
      refine jo_getrE (pc := 14) ok_7_3 (ik_80 hw) rf_80_3 gw_394 dX7_areClosed_14 ?_
      refine jo_iload_n (pc := 17) 2 rfl dX7_areClosed_17 rfl ?_
      refine jo_aaldG (pc := 18) (z := 9) hw (ik_99 hw) (by decide) (t := 3) rfl rfl (by decide) dX7_areClosed_18 (fun p2 hp2 => ?_)
      refine jo_aload_n (pc := 19) 0 rfl dX7_areClosed_19 rfl ?_
      refine jo_getrE (pc := 20) ok_7_4 (ik_80 hw) rf_80_4 gw_395 dX7_areClosed_20 ?_
      refine jo_cV_J_p (pc := 23) (μ' := mu_X9_value) (fx := f_X9_value σ p2 100) (As := [.ref (adr w 100)]) (c_X9_value hw (hp2) (ik_100 hw)) (ok_X9_value) (ltb rfl) (all3 gw_937 gw_618 gw_619) (hp2) (by decide) (q := (RX9, TX9, 4)) rfl rfl rfl rfl (Nat.le_of_ble_eq_true rfl) dX7_areClosed_23 (fun v3 => ?_)
      refine jo_lconst (pc := 26) dX7_areClosed_26 (ic_l_0) ?_
      refine jo_lcmp_eq (pc := 27) dX7_areClosed_27 dX7_areClosed_28 (tgt := 33) rfl ?_ ?_
      · refine jo_iinc (pc := 33) (lv' := [(3, .int (i1 + 1)), (0, .ref (adr w 80)), (2, .int x1)]) 2 rfl dX7_areClosed_33 (congrArg (fun z => i1 + z) (ic_i_1)) (ltb rfl) rfl ?_
        refine jo_goto (pc := 36) dX7_areClosed_36 (tgt := 2) rfl ?_
        refine jo_lv (lv' := [(0, .ref (adr w 80)), (2, .int x1), (3, .int (i1 + 1))]) [1, 2, 0] rfl ?_
        exact jo_leaf (by rfl) (hF2_1 (i1 + 1))
      · refine jo_iconst (pc := 31) dX7_areClosed_31 (ic_i_0) ?_
        exact jo_breturn (pc := 32) (b := false) rfl rfl dX7_areClosed_32
theorem c_X7_areClosed {w : Wd} (hw : WOK w) {σ : Mem} {x0 : Int32} {x1 : Int32} : ∀ r, f_X7_areClosed σ x0 x1 = some r → MC w mu_X7_areClosed (vB r) [.ref (adr w 80), .int x0, .int x1] σ σ := mc_ofP ok_X7_areClosed rfl (Nat.le_of_ble_eq_true rfl) (t_X7_areClosed hw)
abbrev mu_X7_findWithin : MD := (yX7_findWithin, cX7_findWithin, 5, some .boolean, 2)
theorem ok_X7_findWithin : MOK mu_X7_findWithin 2 := ⟨gw_941, gw_165, (by decide +kernel : plainFor yX7_findWithin = true), ⟨(by decide +kernel : yX7_findWithin.cls ≠ "java/lang/invoke/MethodHandle"), (by decide +kernel : yX7_findWithin.cls ≠ "java/lang/invoke/VarHandle"), (by decide +kernel : (parseMethodDescriptor yX7_findWithin.desc).map (fun d => d.parameters.length) = some 2)⟩, Nat.le_of_ble_eq_true rfl⟩
noncomputable def j_X7_findWithin_133 (x1 : Int32) (σ3 : Mem) (i4 : Int32) : Option (Bool × Mem) :=
  if i4 < x1 then (some (false, σ3)) else (some (true, σ3))
noncomputable def j_X7_findWithin_127 (i7 : Int32) (σ9 : Mem) (i10 : Int32) : Option ((Mem × Int32 × Int32) ⊕ ((Mem × Int32) ⊕ (Bool × Mem))) :=
  some (Sum.inl (σ9, i10, i7 + 1))
noncomputable def j_X7_findWithin_89 (x0 : Int32) (x1 : Int32) (σ5 : Mem) (i6 : Int32) (i11 : Int32) : Option ((Mem × Int32) ⊕ ((Mem × Int32 × Int32) ⊕ ((Mem × Int32) ⊕ (Bool × Mem)))) :=
  (f_X7_areClosed σ5 (i6 + 1) i11).bind (fun (b12 : Bool) => if b12 then if x1 ≤ (i6 + 1) then (some (Sum.inl (σ5, i6 + 1))) else ((f_X7_setU σ5 (i6 + 1) (Int32.toInt64 (-x0))).bind (fun (σ13 : Mem) => some (Sum.inl (σ13, i6 + 1)))) else gL σ5 103 i6 (fun (v14 : Int64) => (f_X7_setU σ5 i6 (v14 + 1)).bind (fun (σ15 : Mem) => some (Sum.inl (σ15, i6)))))
noncomputable def l_X7_findWithin_21 (x0 : Int32) (x1 : Int32) (σ5 : Mem) (i6 : Int32) (i7 : Int32) : Option ((Mem × Int32 × Int32) ⊕ ((Mem × Int32) ⊕ (Bool × Mem))) :=
  if 1000000 ≤ i7 then (some (Sum.inr (Sum.inl (σ5, i6)))) else (if x1 ≤ i6 then (some (Sum.inr (Sum.inl (σ5, i6)))) else (gL σ5 103 i6 (fun (v8 : Int64) => (if v8 ≤ (Int32.toInt64 x0) then ((if (i6 + 1) = x1 then (some 6) else (some (i6 + 2)) : Option Int32).bind (fun (z11 : Int32) => j_X7_findWithin_89 x0 x1 σ5 i6 z11)) else (if 0 ≤ (i6 + (-1)) then (gL σ5 103 (i6 + (-1)) (fun (v16 : Int64) => (f_X7_setU σ5 (i6 + (-1)) (v16 + 1)).bind (fun (σ17 : Mem) => some (Sum.inl (σ17, i6 + (-1)))))) else (some (Sum.inr (Sum.inr (Sum.inr (false, σ5)))))) : Option ((Mem × Int32) ⊕ ((Mem × Int32 × Int32) ⊕ ((Mem × Int32) ⊕ (Bool × Mem))))).bind (Sum.elim (fun (z10 : (Mem × Int32)) => j_X7_findWithin_127 i7 z10.1 z10.2) some))))
noncomputable def j_X7_findWithin_15 (σ : Mem) (x0 : Int32) (x1 : Int32) (l1 : Int64) : Option (Bool × Mem) :=
  (f_X7_setU σ 0 l1).bind (fun (σ2 : Mem) => (loopO (fun (z7 : (Mem × Int32 × Int32)) => l_X7_findWithin_21 x0 x1 z7.1 z7.2.1 z7.2.2) (σ2, 0, 0) : Option ((Mem × Int32) ⊕ (Bool × Mem))).bind (Sum.elim (fun (z4 : (Mem × Int32)) => j_X7_findWithin_133 x1 z4.1 z4.2) some))
noncomputable def f_X7_findWithin (σ : Mem) (x0 : Int32) (x1 : Int32) : Option (Bool × Mem) :=
  (if x1 = 0 then (some 0) else (some (Int32.toInt64 (-x0))) : Option Int64).bind (fun (z1 : Int64) => j_X7_findWithin_15 σ x0 x1 z1)
theorem t_X7_findWithin {w : Wd} (hw : WOK w) {σ : Mem} {x0 : Int32} {x1 : Int32} : JO w mu_X7_findWithin vB σ [(0, .ref (adr w 80)), (1, .int x0), (2, .int x1)] [] 0 (f_X7_findWithin σ x0 x1) some := by
  unfold f_X7_findWithin
  refine jo_iconst (pc := 0) dX7_findWithin_0 (ic_i_0) ?_
  refine jo_istore_n (pc := 1) (lv' := [(3, .int 0), (0, .ref (adr w 80)), (1, .int x0), (2, .int x1)]) dX7_findWithin_1 rfl (ltb rfl) rfl ?_
  refine jo_aload_n (pc := 2) 1 rfl dX7_findWithin_2 rfl ?_
  refine jo_iconst (pc := 3) dX7_findWithin_3 (ic_i_0) ?_
  refine jo_iload_n (pc := 4) 3 rfl dX7_findWithin_4 rfl ?_
  refine jo_join1 (S := Int64) (fun (z1 : Int64) => σ) (fun (z1 : Int64) => [(3, .int 0), (0, .ref (adr w 80)), (1, .int x0), (2, .int x1)]) (fun (z1 : Int64) => [.long z1, .int 0, .ref (adr w 80)]) 15 ?_ (fun h15_1 => ?_)
  · intro l1
    show JO w mu_X7_findWithin vB σ [(3, .int 0), (0, .ref (adr w 80)), (1, .int x0), (2, .int x1)] [.long l1, .int 0, .ref (adr w 80)] 15 (j_X7_findWithin_15 σ x0 x1 l1) _
    unfold j_X7_findWithin_15
    refine jo_cV_V_i (pc := 15) (μ' := mu_X7_setU) (fx := f_X7_setU σ 0 l1) (As := [.int 0, .long l1]) (c_X7_setU hw) (ok_X7_setU) (ltb rfl) (all3 gw_928 gw_930 gw_21) (ik_80 hw) (by decide) (q := (RX7, TX7, 11)) rfl rfl rfl rfl (Nat.le_of_ble_eq_true rfl) dX7_findWithin_15 (fun σ2 => ?_)
    refine jo_iconst (pc := 18) dX7_findWithin_18 (ic_i_0) ?_
    refine jo_istore (pc := 19) (lv' := [(4, .int 0), (3, .int 0), (0, .ref (adr w 80)), (1, .int x0), (2, .int x1)]) dX7_findWithin_19 (ltb rfl) rfl ?_
    refine jo_joinS (S := (Mem × Int32)) (fun (z4 : (Mem × Int32)) => z4.1) (fun (z4 : (Mem × Int32)) => [(2, .int x1), (3, .int z4.2)]) (fun (z4 : (Mem × Int32)) => []) 133 ?_ (fun h133_4 => ?_)
    · intro s
      obtain ⟨σ3, i4⟩ := s
      show JO w mu_X7_findWithin vB σ3 [(2, .int x1), (3, .int i4)] [] 133 (j_X7_findWithin_133 x1 σ3 i4) _
      unfold j_X7_findWithin_133
      refine jo_iload_n (pc := 133) 1 rfl dX7_findWithin_133 rfl ?_
      refine jo_iload_n (pc := 134) 0 rfl dX7_findWithin_134 rfl ?_
      refine jo_icmp_lt (pc := 135) dX7_findWithin_135 (tgt := 142) rfl ?_ ?_
      · refine jo_iconst (pc := 142) dX7_findWithin_142 (ic_i_0) ?_
        exact jo_breturn (pc := 143) (b := false) rfl rfl dX7_findWithin_143
      · refine jo_iconst (pc := 138) dX7_findWithin_138 (ic_i_1) ?_
        refine jo_goto (pc := 139) dX7_findWithin_139 (tgt := 143) rfl ?_
        exact jo_breturn (pc := 143) (b := true) rfl rfl dX7_findWithin_143
    · refine jo_lv (lv' := [(0, .ref (adr w 80)), (1, .int x0), (2, .int x1), (3, .int 0), (4, .int 0)]) [2, 3, 4, 1, 0] rfl ?_
      refine jo_loop (X := (Mem × Int32) ⊕ (Bool × Mem)) (fun (z7 : (Mem × Int32 × Int32)) => z7.1) (fun (z7 : (Mem × Int32 × Int32)) => [(0, .ref (adr w 80)), (1, .int x0), (2, .int x1), (3, .int z7.2.1), (4, .int z7.2.2)]) (body := (fun (z7 : (Mem × Int32 × Int32)) => l_X7_findWithin_21 x0 x1 z7.1 z7.2.1 z7.2.2)) (fun F21_7 hF21_7 s => ?_) (σ2, 0, 0)
      obtain ⟨σ5, i6, i7⟩ := s
      show JO w mu_X7_findWithin vB σ5 [(0, .ref (adr w 80)), (1, .int x0), (2, .int x1), (3, .int i6), (4, .int i7)] [] 21 (l_X7_findWithin_21 x0 x1 σ5 i6 i7) _
      unfold l_X7_findWithin_21
      refine jo_iload (pc := 21) 4 rfl dX7_findWithin_21 ?_
      refine jo_ldc (pc := 23) dX7_findWithin_23 gw_942 ?_
      refine jo_icmp_ge (pc := 25) dX7_findWithin_25 (tgt := 133) rfl ?_ ?_
      · refine jo_lv (lv' := [(2, .int x1), (3, .int i6)]) [2, 3] rfl ?_
        exact jo_leaf (by rfl) (h133_4 (σ5, i6))
      · refine jo_iload_n (pc := 28) 3 rfl dX7_findWithin_28 rfl ?_
        refine jo_iload_n (pc := 29) 2 rfl dX7_findWithin_29 rfl ?_
        refine jo_icmp_ge (pc := 30) dX7_findWithin_30 (tgt := 133) rfl ?_ ?_
        · refine jo_lv (lv' := [(2, .int x1), (3, .int i6)]) [2, 3] rfl ?_
          exact jo_leaf (by rfl) (h133_4 (σ5, i6))
        · refine jo_aload_n (pc := 33) 0 rfl dX7_findWithin_33 rfl ?_
          refine jo_getrE (pc := 34) ok_7_7 (ik_80 hw) rf_80_7 gw_398 dX7_findWithin_34 ?_
          refine jo_iload_n (pc := 37) 3 rfl dX7_findWithin_37 rfl ?_
          refine jo_lald (pc := 38) (ik_103 hw) dX7_findWithin_38 (fun v8 => ?_)
          refine jo_iload_n (pc := 39) 1 rfl dX7_findWithin_39 rfl ?_
          refine jo_i2l (pc := 40) dX7_findWithin_40 ?_
          refine jo_joinS (S := (Mem × Int32)) (fun (z10 : (Mem × Int32)) => z10.1) (fun (z10 : (Mem × Int32)) => [(0, .ref (adr w 80)), (1, .int x0), (2, .int x1), (4, .int i7), (3, .int z10.2)]) (fun (z10 : (Mem × Int32)) => []) 127 ?_ (fun h127_10 => ?_)
          · intro s
            obtain ⟨σ9, i10⟩ := s
            show JO w mu_X7_findWithin vB σ9 [(0, .ref (adr w 80)), (1, .int x0), (2, .int x1), (4, .int i7), (3, .int i10)] [] 127 (j_X7_findWithin_127 i7 σ9 i10) _
            unfold j_X7_findWithin_127
            refine jo_iinc (pc := 127) (lv' := [(4, .int (i7 + 1)), (0, .ref (adr w 80)), (1, .int x0), (2, .int x1), (3, .int i10)]) 3 rfl dX7_findWithin_127 (congrArg (fun z => i7 + z) (ic_i_1)) (ltb rfl) rfl ?_
            refine jo_goto (pc := 130) dX7_findWithin_130 (tgt := 21) rfl ?_
            refine jo_lv (lv' := [(0, .ref (adr w 80)), (1, .int x0), (2, .int x1), (3, .int i10), (4, .int (i7 + 1))]) [1, 2, 3, 4, 0] rfl ?_
            exact jo_leaf (by rfl) (hF21_7 (σ9, i10, i7 + 1))
          · refine jo_lcmp_le (pc := 41) dX7_findWithin_41 dX7_findWithin_42 (tgt := 70) rfl ?_ ?_
            · refine jo_aload_n (pc := 70) 0 rfl dX7_findWithin_70 rfl ?_
              refine jo_iload_n (pc := 71) 3 rfl dX7_findWithin_71 rfl ?_
              refine jo_iconst (pc := 72) dX7_findWithin_72 (ic_i_1) ?_
              refine jo_iadd (pc := 73) dX7_findWithin_73 ?_
              refine jo_iload_n (pc := 74) 3 rfl dX7_findWithin_74 rfl ?_
              refine jo_iconst (pc := 75) dX7_findWithin_75 (ic_i_1) ?_
              refine jo_iadd (pc := 76) dX7_findWithin_76 ?_
              refine jo_iload_n (pc := 77) 2 rfl dX7_findWithin_77 rfl ?_
              refine jo_join1 (S := Int32) (fun (z11 : Int32) => σ5) (fun (z11 : Int32) => [(0, .ref (adr w 80)), (1, .int x0), (2, .int x1), (3, .int i6), (4, .int i7)]) (fun (z11 : Int32) => [.int z11, .int (i6 + 1), .ref (adr w 80)]) 89 ?_ (fun h89_11 => ?_)
              · intro i11
                show JO w mu_X7_findWithin vB σ5 [(0, .ref (adr w 80)), (1, .int x0), (2, .int x1), (3, .int i6), (4, .int i7)] [.int i11, .int (i6 + 1), .ref (adr w 80)] 89 (j_X7_findWithin_89 x0 x1 σ5 i6 i11) _
                unfold j_X7_findWithin_89
                refine jo_cV_Z_p (pc := 89) (μ' := mu_X7_areClosed) (fx := f_X7_areClosed σ5 (i6 + 1) i11) (As := [.int (i6 + 1), .int i11]) (c_X7_areClosed hw) (ok_X7_areClosed) (ltb rfl) (all3 gw_933 gw_935 gw_22) (ik_80 hw) (by decide) (q := (RX7, TX7, 11)) rfl rfl rfl rfl (Nat.le_of_ble_eq_true rfl) dX7_findWithin_89 (fun b12 => ?_)
                refine jo_ifz_ne (pc := 92) dX7_findWithin_92 (tgt := 111) rfl ?_ ?_
                · refine jo_iinc (pc := 111) (lv' := [(3, .int (i6 + 1)), (0, .ref (adr w 80)), (1, .int x0), (2, .int x1), (4, .int i7)]) 3 rfl dX7_findWithin_111 (congrArg (fun z => i6 + z) (ic_i_1)) (ltb rfl) rfl ?_
                  refine jo_iload_n (pc := 114) 0 rfl dX7_findWithin_114 rfl ?_
                  refine jo_iload_n (pc := 115) 3 rfl dX7_findWithin_115 rfl ?_
                  refine jo_icmp_ge (pc := 116) dX7_findWithin_116 (tgt := 127) rfl ?_ ?_
                  · refine jo_lv (lv' := [(0, .ref (adr w 80)), (1, .int x0), (2, .int x1), (4, .int i7), (3, .int (i6 + 1))]) [1, 2, 3, 4, 0] rfl ?_
                    exact jo_leaf (by rfl) (h127_10 (σ5, i6 + 1))
                  · refine jo_aload_n (pc := 119) 1 rfl dX7_findWithin_119 rfl ?_
                    refine jo_iload_n (pc := 120) 0 rfl dX7_findWithin_120 rfl ?_
                    refine jo_iload_n (pc := 121) 2 rfl dX7_findWithin_121 rfl ?_
                    refine jo_ineg (pc := 122) dX7_findWithin_122 ?_
                    refine jo_i2l (pc := 123) dX7_findWithin_123 ?_
                    refine jo_cV_V_i (pc := 124) (μ' := mu_X7_setU) (fx := f_X7_setU σ5 (i6 + 1) (Int32.toInt64 (-x0))) (As := [.int (i6 + 1), .long (Int32.toInt64 (-x0))]) (c_X7_setU hw) (ok_X7_setU) (ltb rfl) (all3 gw_928 gw_930 gw_21) (ik_80 hw) (by decide) (q := (RX7, TX7, 11)) rfl rfl rfl rfl (Nat.le_of_ble_eq_true rfl) dX7_findWithin_124 (fun σ13 => ?_)
                    refine jo_lv (lv' := [(0, .ref (adr w 80)), (1, .int x0), (2, .int x1), (4, .int i7), (3, .int (i6 + 1))]) [1, 2, 3, 4, 0] rfl ?_
                    exact jo_leaf (by rfl) (h127_10 (σ13, i6 + 1))
                · refine jo_aload_n (pc := 95) 0 rfl dX7_findWithin_95 rfl ?_
                  refine jo_iload_n (pc := 96) 3 rfl dX7_findWithin_96 rfl ?_
                  refine jo_aload_n (pc := 97) 0 rfl dX7_findWithin_97 rfl ?_
                  refine jo_getrE (pc := 98) ok_7_7 (ik_80 hw) rf_80_7 gw_398 dX7_findWithin_98 ?_
                  refine jo_iload_n (pc := 101) 3 rfl dX7_findWithin_101 rfl ?_
                  refine jo_lald (pc := 102) (ik_103 hw) dX7_findWithin_102 (fun v14 => ?_)
                  refine jo_lconst (pc := 103) dX7_findWithin_103 (ic_l_1) ?_
                  refine jo_ladd (pc := 104) dX7_findWithin_104 ?_
                  refine jo_cV_V_i (pc := 105) (μ' := mu_X7_setU) (fx := f_X7_setU σ5 i6 (v14 + 1)) (As := [.int i6, .long (v14 + 1)]) (c_X7_setU hw) (ok_X7_setU) (ltb rfl) (all3 gw_928 gw_930 gw_21) (ik_80 hw) (by decide) (q := (RX7, TX7, 11)) rfl rfl rfl rfl (Nat.le_of_ble_eq_true rfl) dX7_findWithin_105 (fun σ15 => ?_)
                  refine jo_goto (pc := 108) dX7_findWithin_108 (tgt := 127) rfl ?_
                  refine jo_lv (lv' := [(0, .ref (adr w 80)), (1, .int x0), (2, .int x1), (4, .int i7), (3, .int i6)]) [0, 1, 2, 4, 3] rfl ?_
                  exact jo_leaf (by rfl) (h127_10 (σ15, i6))
              · refine jo_icmp_ne (pc := 78) dX7_findWithin_78 (tgt := 86) rfl ?_ ?_
                · refine jo_iload_n (pc := 86) 3 rfl dX7_findWithin_86 rfl ?_
                  refine jo_iconst (pc := 87) dX7_findWithin_87 (ic_i_2) ?_
                  refine jo_iadd (pc := 88) dX7_findWithin_88 ?_
                  exact jo_leaf (by rfl) (h89_11 (i6 + 2))
                · refine jo_bipush (pc := 81) dX7_findWithin_81 (ic_b_6) ?_
                  refine jo_goto (pc := 83) dX7_findWithin_83 (tgt := 89) rfl ?_
                  exact jo_leaf (by rfl) (h89_11 6)
            · refine jo_iinc (pc := 45) (lv' := [(3, .int (i6 + (-1))), (0, .ref (adr w 80)), (1, .int x0), (2, .int x1), (4, .int i7)]) 3 rfl dX7_findWithin_45 (congrArg (fun z => i6 + z) (ic_i_m1)) (ltb rfl) rfl ?_
              refine jo_iload_n (pc := 48) 0 rfl dX7_findWithin_48 rfl ?_
              refine jo_if_ge (pc := 49) dX7_findWithin_49 (tgt := 54) rfl ?_ ?_
              · refine jo_aload_n (pc := 54) 1 rfl dX7_findWithin_54 rfl ?_
                refine jo_iload_n (pc := 55) 0 rfl dX7_findWithin_55 rfl ?_
                refine jo_aload_n (pc := 56) 1 rfl dX7_findWithin_56 rfl ?_
                refine jo_getrE (pc := 57) ok_7_7 (ik_80 hw) rf_80_7 gw_398 dX7_findWithin_57 ?_
                refine jo_iload_n (pc := 60) 0 rfl dX7_findWithin_60 rfl ?_
                refine jo_lald (pc := 61) (ik_103 hw) dX7_findWithin_61 (fun v16 => ?_)
                refine jo_lconst (pc := 62) dX7_findWithin_62 (ic_l_1) ?_
                refine jo_ladd (pc := 63) dX7_findWithin_63 ?_
                refine jo_cV_V_i (pc := 64) (μ' := mu_X7_setU) (fx := f_X7_setU σ5 (i6 + (-1)) (v16 + 1)) (As := [.int (i6 + (-1)), .long (v16 + 1)]) (c_X7_setU hw) (ok_X7_setU) (ltb rfl) (all3 gw_928 gw_930 gw_21) (ik_80 hw) (by decide) (q := (RX7, TX7, 11)) rfl rfl rfl rfl (Nat.le_of_ble_eq_true rfl) dX7_findWithin_64 (fun σ17 => ?_)
                refine jo_goto (pc := 67) dX7_findWithin_67 (tgt := 127) rfl ?_
                refine jo_lv (lv' := [(0, .ref (adr w 80)), (1, .int x0), (2, .int x1), (4, .int i7), (3, .int (i6 + (-1)))]) [1, 2, 3, 4, 0] rfl ?_
                exact jo_leaf (by rfl) (h127_10 (σ17, i6 + (-1)))
              · refine jo_iconst (pc := 52) dX7_findWithin_52 (ic_i_0) ?_
                exact jo_breturn (pc := 53) (b := false) rfl rfl dX7_findWithin_53
  · refine jo_if_ne (pc := 5) dX7_findWithin_5 (tgt := 12) rfl ?_ ?_
    · refine jo_iload_n (pc := 12) 2 rfl dX7_findWithin_12 rfl ?_
      refine jo_ineg (pc := 13) dX7_findWithin_13 ?_
      refine jo_i2l (pc := 14) dX7_findWithin_14 ?_
      exact jo_leaf (by rfl) (h15_1 (Int32.toInt64 (-x0)))
    · refine jo_lconst (pc := 8) dX7_findWithin_8 (ic_l_0) ?_
      refine jo_goto (pc := 9) dX7_findWithin_9 (tgt := 15) rfl ?_
      exact jo_leaf (by rfl) (h15_1 0)
theorem c_X7_findWithin {w : Wd} (hw : WOK w) {σ : Mem} {x0 : Int32} {x1 : Int32} : ∀ r σ', f_X7_findWithin σ x0 x1 = some (r, σ') → MC w mu_X7_findWithin (vB r) [.ref (adr w 80), .int x0, .int x1] σ σ' := mc_of ok_X7_findWithin rfl (Nat.le_of_ble_eq_true rfl) (t_X7_findWithin hw)
end
