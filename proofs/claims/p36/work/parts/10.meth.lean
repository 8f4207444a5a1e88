abbrev mu_X0_copy : MD := (yX0_copy, cX0_copy, 2, none, 1)
theorem ok_X0_copy : MOK mu_X0_copy 2 := ⟨gw_566, gw_26, (by decide +kernel : plainFor yX0_copy = true), ⟨(by decide +kernel : yX0_copy.cls ≠ "java/lang/invoke/MethodHandle"), (by decide +kernel : yX0_copy.cls ≠ "java/lang/invoke/VarHandle"), (by decide +kernel : (parseMethodDescriptor yX0_copy.desc).map (fun d => d.parameters.length) = some 2)⟩, Nat.le_of_ble_eq_true rfl⟩
noncomputable def f_X0_copy (σ : Mem) (x0 : Nat) (x1 : Nat) : Option Mem :=
  cL σ x0 0 x1 0 6 (fun (σ1 : Mem) => some σ1)
theorem t_X0_copy {w : Wd} (hw : WOK w) {σ : Mem} {x0 : Nat} {x1 : Nat} (hx0 : isk w x0 13) (hx1 : isk w x1 13) : JO w mu_X0_copy vV σ [(0, .ref (adr w x0)), (1, .ref (adr w x1))] [] 0 (f_X0_copy σ x0 x1) (fun z => some ((), z)) := by
  unfold f_X0_copy
  refine jo_aload_n (pc := 0) 0 rfl dX0_copy_0 rfl ?_
  refine jo_iconst (pc := 1) dX0_copy_1 (ic_i_0) ?_
  refine jo_aload_n (pc := 2) 1 rfl dX0_copy_2 rfl ?_
  refine jo_iconst (pc := 3) dX0_copy_3 (ic_i_0) ?_
  refine jo_bipush (pc := 4) dX0_copy_4 (ic_b_6) ?_
  refine jo_acL (pc := 6) (hx0) (hx1) (all4 gw_567 gw_393 gw_392 gw_32) (ltb rfl) (Nat.le_of_ble_eq_true rfl) dX0_copy_6 (fun σ1 => ?_)
  exact jo_return (pc := 9) rfl rfl dX0_copy_9
theorem c_X0_copy {w : Wd} (hw : WOK w) {σ : Mem} {x0 : Nat} {x1 : Nat} (hx0 : isk w x0 13) (hx1 : isk w x1 13) : ∀ σ', f_X0_copy σ x0 x1 = some σ' → MC w mu_X0_copy none [.ref (adr w x0), .ref (adr w x1)] σ σ' := mc_ofV ok_X0_copy rfl (Nat.le_of_ble_eq_true rfl) (t_X0_copy hw hx0 hx1)
abbrev mu_X0_areSame : MD := (yX0_areSame, cX0_areSame, 3, some .boolean, 0)
theorem ok_X0_areSame : MOK mu_X0_areSame 2 := ⟨gw_620, gw_26, (by decide +kernel : plainFor yX0_areSame = true), ⟨(by decide +kernel : yX0_areSame.cls ≠ "java/lang/invoke/MethodHandle"), (by decide +kernel : yX0_areSame.cls ≠ "java/lang/invoke/VarHandle"), (by decide +kernel : (parseMethodDescriptor yX0_areSame.desc).map (fun d => d.parameters.length) = some 2)⟩, Nat.le_of_ble_eq_true rfl⟩
noncomputable def l_X0_areSame_2 (σ : Mem) (x0 : Nat) (x1 : Nat) (i1 : Int32) : Option (Int32 ⊕ Bool) :=
  if 6 ≤ i1 then (some (Sum.inr true)) else (gL σ x0 i1 (fun (v2 : Int64) => gL σ x1 i1 (fun (v3 : Int64) => if v2 = v3 then (some (Sum.inl (i1 + 1))) else (some (Sum.inr false)))))
noncomputable def f_X0_areSame (σ : Mem) (x0 : Nat) (x1 : Nat) : Option Bool :=
  loopO (fun (z1 : Int32) => l_X0_areSame_2 σ x0 x1 z1) 0
theorem t_X0_areSame {w : Wd} (hw : WOK w) {σ : Mem} {x0 : Nat} {x1 : Nat} (hx0 : isk w x0 13) (hx1 : isk w x1 13) : JO w mu_X0_areSame vB σ [(0, .ref (adr w x0)), (1, .ref (adr w x1))] [] 0 (f_X0_areSame σ x0 x1) (fun z => some (z, σ)) := by
  unfold f_X0_areSame
  refine jo_iconst (pc := 0) dX0_areSame_0 (ic_i_0) ?_
  refine jo_istore_n (pc := 1) (lv' := [(2, .int 0), (0, .ref (adr w x0)), (1, .ref (adr w x1))]) dX0_areSame_1 rfl (ltb rfl) rfl ?_
  refine jo_lv (lv' := [(0, .ref (adr w x0)), (1, .ref (adr w x1)), (2, .int 0)]) [1, 2, 0] rfl ?_
  refine jo_loop (X := Bool) (fun (z1 : Int32) => σ) (fun (z1 : Int32) => [(0, .ref (adr w x0)), (1, .ref (adr w x1)), (2, .int z1)]) (body := (fun (z1 : Int32) => l_X0_areSame_2 σ x0 x1 z1)) (fun F2_1 hF2_1 s => ?_) 0
  revert s; intro i1
  show JO w mu_X0_areSame vB σ [(0, .ref (adr w x0)), (1, .ref (adr w x1)), (2, .int i1)] [] 2 (l_X0_areSame_2 σ x0 x1 i1) _
  unfold l_X0_areSame_2
  refine jo_iload_n (pc := 2) 2 rfl dX0_areSame_2 rfl ?_
  refine jo_bipush (pc := 3) dX0_areSame_3 (ic_b_6) ?_
  refine jo_icmp_ge (pc := 5) dX0_areSame_5 (tgt := 26) rfl ?_ ?_
  · refine jo_iconst (pc := 26) dX0_areSame_26 (ic_i_1) ?_
    exact jo_breturn (pc := 27) (b := true) rfl rfl dX0_areSame_27
  · refine jo_aload_n (pc := 8) 0 rfl dX0_areSame_8 rfl ?_
    refine jo_iload_n (pc := 9) 2 rfl dX0_areSame_9 rfl ?_
    refine jo_lald (pc := 10) (hx0) dX0_areSame_10 (fun v2 => ?_)
    refine jo_aload_n (pc := 11) 1 rfl dX0_areSame_11 rfl ?_
    refine jo_iload_n (pc := 12) 2 rfl dX0_areSame_12 rfl ?_
    refine jo_lald (pc := 13) (hx1) dX0_areSame_13 (fun v3 => ?_)
    refine jo_lcmp_eq (pc := 14) dX0_areSame_14 dX0_areSame_15 (tgt := 20) rfl ?_ ?_
    · refine jo_iinc (pc := 20) (lv' := [(2, .int (i1 + 1)), (0, .ref (adr w x0)), (1, .ref (adr w x1))]) 2 rfl dX0_areSame_20 (congrArg (fun z => i1 + z) (ic_i_1)) (ltb rfl) rfl ?_
      refine jo_goto (pc := 23) dX0_areSame_23 (tgt := 2) rfl ?_
      refine jo_lv (lv' := [(0, .ref (adr w x0)), (1, .ref (adr w x1)), (2, .int (i1 + 1))]) [1, 2, 0] rfl ?_
      exact jo_leaf (by rfl) (hF2_1 (i1 + 1))
    · refine jo_iconst (pc := 18) dX0_areSame_18 (ic_i_0) ?_
      exact jo_breturn (pc := 19) (b := false) rfl rfl dX0_areSame_19
theorem c_X0_areSame {w : Wd} (hw : WOK w) {σ : Mem} {x0 : Nat} {x1 : Nat} (hx0 : isk w x0 13) (hx1 : isk w x1 13) : ∀ r, f_X0_areSame σ x0 x1 = some r → MC w mu_X0_areSame (vB r) [.ref (adr w x0), .ref (adr w x1)] σ σ := mc_ofP ok_X0_areSame rfl (Nat.le_of_ble_eq_true rfl) (t_X0_areSame hw hx0 hx1)
abbrev mu_X0_isWithin : MD := (yX0_isWithin, cX0_isWithin, 4, some .boolean, 0)
theorem ok_X0_isWithin : MOK mu_X0_isWithin 2 := ⟨gw_592, gw_26, (by decide +kernel : plainFor yX0_isWithin = true), ⟨(by decide +kernel : yX0_isWithin.cls ≠ "java/lang/invoke/MethodHandle"), (by decide +kernel : yX0_isWithin.cls ≠ "java/lang/invoke/VarHandle"), (by decide +kernel : (parseMethodDescriptor yX0_isWithin.desc).map (fun d => d.parameters.length) = some 2)⟩, Nat.le_of_ble_eq_true rfl⟩
noncomputable def l_X0_isWithin_2 (σ : Mem) (x0 : Nat) (x1 : Int64) (i1 : Int32) : Option (Int32 ⊕ Bool) :=
  if 6 ≤ i1 then (some (Sum.inr true)) else (gL σ x0 i1 (fun (v2 : Int64) => if v2 < (-x1) then (some (Sum.inr false)) else (gL σ x0 i1 (fun (v3 : Int64) => if v3 ≤ x1 then (some (Sum.inl (i1 + 1))) else (some (Sum.inr false))))))
noncomputable def f_X0_isWithin (σ : Mem) (x0 : Nat) (x1 : Int64) : Option Bool :=
  loopO (fun (z1 : Int32) => l_X0_isWithin_2 σ x0 x1 z1) 0
theorem t_X0_isWithin {w : Wd} (hw : WOK w) {σ : Mem} {x0 : Nat} {x1 : Int64} (hx0 : isk w x0 13) : JO w mu_X0_isWithin vB σ [(0, .ref (adr w x0)), (1, .long x1)] [] 0 (f_X0_isWithin σ x0 x1) (fun z => some (z, σ)) := by
  unfold f_X0_isWithin
  refine jo_iconst (pc := 0) dX0_isWithin_0 (ic_i_0) ?_
  refine jo_istore_n (pc := 1) (lv' := [(3, .int 0), (0, .ref (adr w x0)), (1, .long x1)]) dX0_isWithin_1 rfl (ltb rfl) rfl ?_
  refine jo_lv (lv' := [(0, .ref (adr w x0)), (1, .long x1), (3, .int 0)]) [1, 2, 0] rfl ?_
  refine jo_loop (X := Bool) (fun (z1 : Int32) => σ) (fun (z1 : Int32) => [(0, .ref (adr w x0)), (1, .long x1), (3, .int z1)]) (body := (fun (z1 : Int32) => l_X0_isWithin_2 σ x0 x1 z1)) (fun F2_1 hF2_1 s => ?_) 0
  revert s; intro i1
  show JO w mu_X0_isWithin vB σ [(0, .ref (adr w x0)), (1, .long x1), (3, .int i1)] [] 2 (l_X0_isWithin_2 σ x0 x1 i1) _
  unfold l_X0_isWithin_2
  refine jo_iload_n (pc := 2) 2 rfl dX0_isWithin_2 rfl ?_
  refine jo_bipush (pc := 3) dX0_isWithin_3 (ic_b_6) ?_
  refine jo_icmp_ge (pc := 5) dX0_isWithin_5 (tgt := 33) rfl ?_ ?_
  · refine jo_iconst (pc := 33) dX0_isWithin_33 (ic_i_1) ?_
    exact jo_breturn (pc := 34) (b := true) rfl rfl dX0_isWithin_34
  · refine jo_aload_n (pc := 8) 0 rfl dX0_isWithin_8 rfl ?_
    refine jo_iload_n (pc := 9) 2 rfl dX0_isWithin_9 rfl ?_
    refine jo_lald (pc := 10) (hx0) dX0_isWithin_10 (fun v2 => ?_)
    refine jo_lload_n (pc := 11) 1 rfl dX0_isWithin_11 rfl ?_
    refine jo_lneg (pc := 12) dX0_isWithin_12 ?_
    refine jo_lcmp_lt (pc := 13) dX0_isWithin_13 dX0_isWithin_14 (tgt := 25) rfl ?_ ?_
    · refine jo_iconst (pc := 25) dX0_isWithin_25 (ic_i_0) ?_
      exact jo_breturn (pc := 26) (b := false) rfl rfl dX0_isWithin_26
    · refine jo_aload_n (pc := 17) 0 rfl dX0_isWithin_17 rfl ?_
      refine jo_iload_n (pc := 18) 2 rfl dX0_isWithin_18 rfl ?_
      refine jo_lald (pc := 19) (hx0) dX0_isWithin_19 (fun v3 => ?_)
      refine jo_lload_n (pc := 20) 1 rfl dX0_isWithin_20 rfl ?_
      refine jo_lcmp_le (pc := 21) dX0_isWithin_21 dX0_isWithin_22 (tgt := 27) rfl ?_ ?_
      · refine jo_iinc (pc := 27) (lv' := [(3, .int (i1 + 1)), (0, .ref (adr w x0)), (1, .long x1)]) 2 rfl dX0_isWithin_27 (congrArg (fun z => i1 + z) (ic_i_1)) (ltb rfl) rfl ?_
        refine jo_goto (pc := 30) dX0_isWithin_30 (tgt := 2) rfl ?_
        refine jo_lv (lv' := [(0, .ref (adr w x0)), (1, .long x1), (3, .int (i1 + 1))]) [1, 2, 0] rfl ?_
        exact jo_leaf (by rfl) (hF2_1 (i1 + 1))
      · refine jo_iconst (pc := 25) dX0_isWithin_25 (ic_i_0) ?_
        exact jo_breturn (pc := 26) (b := false) rfl rfl dX0_isWithin_26
theorem c_X0_isWithin {w : Wd} (hw : WOK w) {σ : Mem} {x0 : Nat} {x1 : Int64} (hx0 : isk w x0 13) : ∀ r, f_X0_isWithin σ x0 x1 = some r → MC w mu_X0_isWithin (vB r) [.ref (adr w x0), .long x1] σ σ := mc_ofP ok_X0_isWithin rfl (Nat.le_of_ble_eq_true rfl) (t_X0_isWithin hw hx0)
abbrev mu_X0_isOne : MD := (yX0_isOne, cX0_isOne, 1, some .boolean, 1)
theorem ok_X0_isOne : MOK mu_X0_isOne 1 := ⟨gw_667, gw_26, (by decide +kernel : plainFor yX0_isOne = true), ⟨(by decide +kernel : yX0_isOne.cls ≠ "java/lang/invoke/MethodHandle"), (by decide +kernel : yX0_isOne.cls ≠ "java/lang/invoke/VarHandle"), (by decide +kernel : (parseMethodDescriptor yX0_isOne.desc).map (fun d => d.parameters.length) = some 1)⟩, Nat.le_of_ble_eq_true rfl⟩
noncomputable def f_X0_isOne (σ : Mem) (x0 : Nat) : Option Bool :=
  (f_X0_isWithin σ x0 0).bind (fun (b1 : Bool) => some b1)
theorem t_X0_isOne {w : Wd} (hw : WOK w) {σ : Mem} {x0 : Nat} (hx0 : isk w x0 13) : JO w mu_X0_isOne vB σ [(0, .ref (adr w x0))] [] 0 (f_X0_isOne σ x0) (fun z => some (z, σ)) := by
  unfold f_X0_isOne
  refine jo_aload_n (pc := 0) 0 rfl dX0_isOne_0 rfl ?_
  refine jo_lconst (pc := 1) dX0_isOne_1 (ic_l_0) ?_
  refine jo_cS_Z_p (pc := 2) (μ' := mu_X0_isWithin) (fx := f_X0_isWithin σ x0 0) (As := [.ref (adr w x0), .long 0]) (c_X0_isWithin hw (hx0)) (ok_X0_isWithin) (ltb rfl) (all2 gw_668 gw_591) rfl rfl (Nat.le_of_ble_eq_true rfl) dX0_isOne_2 (fun b1 => ?_)
  exact jo_breturn (pc := 5) (b := b1) rfl rfl dX0_isOne_5
theorem c_X0_isOne {w : Wd} (hw : WOK w) {σ : Mem} {x0 : Nat} (hx0 : isk w x0 13) : ∀ r, f_X0_isOne σ x0 = some r → MC w mu_X0_isOne (vB r) [.ref (adr w x0)] σ σ := mc_ofP ok_X0_isOne rfl (Nat.le_of_ble_eq_true rfl) (t_X0_isOne hw hx0)
abbrev mu_X4_put : MD := (yX4_put, cX4_put, 5, none, 0)
theorem ok_X4_put : MOK mu_X4_put 3 := ⟨gw_461, gw_24, (by decide +kernel : plainFor yX4_put = true), ⟨(by decide +kernel : yX4_put.cls ≠ "java/lang/invoke/MethodHandle"), (by decide +kernel : yX4_put.cls ≠ "java/lang/invoke/VarHandle"), (by decide +kernel : (parseMethodDescriptor yX4_put.desc).map (fun d => d.parameters.length) = some 3)⟩, Nat.le_of_ble_eq_true rfl⟩
noncomputable def f_X4_put (σ : Mem) (x0 : Nat) (x1 : Int32) (x2 : Int64) : Option Mem :=
  bd (4 * x1) (fun (v1 : Int32) => if v1 < 0 then (some σ) else (if (v1 + 2) < (Int32.ofNat (ln x0)) then (pL σ x0 v1 1 (fun (σ2 : Mem) => pL σ2 x0 (v1 + 1) x2 (fun (σ3 : Mem) => nzL 2 (pL σ3 x0 (v1 + 2) ((x2 * (x2 - 1)) / 2) (fun (σ4 : Mem) => some σ4))))) else (some σ)))
theorem t_X4_put {w : Wd} (hw : WOK w) {σ : Mem} {x0 : Nat} {x1 : Int32} {x2 : Int64} (hx0 : isk w x0 13) : JO w mu_X4_put vV σ [(0, .ref (adr w x0)), (1, .int x1), (2, .long x2)] [] 0 (f_X4_put σ x0 x1 x2) (fun z => some ((), z)) := by
  unfold f_X4_put
  refine jo_iconst (pc := 0) dX4_put_0 (ic_i_4) ?_
  refine jo_iload_n (pc := 1) 1 rfl dX4_put_1 rfl ?_
  refine jo_imul (pc := 2) dX4_put_2 ?_
  refine jo_bd ?_
  refine jo_istore (pc := 3) (lv' := [(4, .int (4 * x1)), (0, .ref (adr w x0)), (1, .int x1), (2, .long x2)]) dX4_put_3 (ltb rfl) rfl ?_
  generalize (4 * x1) = v1
  refine jo_iload (pc := 5) 0 rfl dX4_put_5 ?_
  refine jo_if_lt (pc := 7) dX4_put_7 (tgt := 19) rfl ?_ ?_
  · exact jo_return (pc := 19) rfl rfl dX4_put_19
  · refine jo_iload (pc := 10) 0 rfl dX4_put_10 ?_
    refine jo_iconst (pc := 12) dX4_put_12 (ic_i_2) ?_
    refine jo_iadd (pc := 13) dX4_put_13 ?_
    refine jo_aload_n (pc := 14) 1 rfl dX4_put_14 rfl ?_
    refine jo_alenI (pc := 15) (hx0) (by decide) (t := 1) rfl dX4_put_15 ?_
    refine jo_icmp_lt (pc := 16) dX4_put_16 (tgt := 20) rfl ?_ ?_
    · refine jo_aload_n (pc := 20) 1 rfl dX4_put_20 rfl ?_
      refine jo_iload (pc := 21) 0 rfl dX4_put_21 ?_
      refine jo_lconst (pc := 23) dX4_put_23 (ic_l_1) ?_
      refine jo_last (pc := 24) (hx0) dX4_put_24 (fun σ2 => ?_)
      refine jo_aload_n (pc := 25) 1 rfl dX4_put_25 rfl ?_
      refine jo_iload (pc := 26) 0 rfl dX4_put_26 ?_
      refine jo_iconst (pc := 28) dX4_put_28 (ic_i_1) ?_
      refine jo_iadd (pc := 29) dX4_put_29 ?_
      refine jo_lload_n (pc := 30) 3 rfl dX4_put_30 rfl ?_
      refine jo_last (pc := 31) (hx0) dX4_put_31 (fun σ3 => ?_)
      refine jo_aload_n (pc := 32) 1 rfl dX4_put_32 rfl ?_
      refine jo_iload (pc := 33) 0 rfl dX4_put_33 ?_
      refine jo_iconst (pc := 35) dX4_put_35 (ic_i_2) ?_
      refine jo_iadd (pc := 36) dX4_put_36 ?_
      refine jo_lload_n (pc := 37) 3 rfl dX4_put_37 rfl ?_
      refine jo_lload_n (pc := 38) 3 rfl dX4_put_38 rfl ?_
      refine jo_lconst (pc := 39) dX4_put_39 (ic_l_1) ?_
      refine jo_lsub (pc := 40) dX4_put_40 ?_
      refine jo_lmul (pc := 41) dX4_put_41 ?_
      refine jo_ldc2 (pc := 42) dX4_put_42 gw_462 ?_
      refine jo_ldiv (pc := 45) dX4_put_45 ?_
      refine jo_last (pc := 46) (hx0) dX4_put_46 (fun σ4 => ?_)
      exact jo_return (pc := 47) rfl rfl dX4_put_47
    · exact jo_return (pc := 19) rfl rfl dX4_put_19
theorem c_X4_put {w : Wd} (hw : WOK w) {σ : Mem} {x0 : Nat} {x1 : Int32} {x2 : Int64} (hx0 : isk w x0 13) : ∀ σ', f_X4_put σ x0 x1 x2 = some σ' → MC w mu_X4_put none [.ref (adr w x0), .int x1, .long x2] σ σ' := mc_ofV ok_X4_put rfl (Nat.le_of_ble_eq_true rfl) (t_X4_put hw hx0)
abbrev mu_X9_value : MD := (yX9_value, cX9_value, 6, some .long, 0)
theorem ok_X9_value : MOK mu_X9_value 1 := ⟨gw_466, gw_25, (by decide +kernel : plainFor yX9_value = true), ⟨(by decide +kernel : yX9_value.cls ≠ "java/lang/invoke/MethodHandle"), (by decide +kernel : yX9_value.cls ≠ "java/lang/invoke/VarHandle"), (by decide +kernel : (parseMethodDescriptor yX9_value.desc).map (fun d => d.parameters.length) = some 1)⟩, Nat.le_of_ble_eq_true rfl⟩
noncomputable def l_X9_value_5 (σ : Mem) (a : Nat) (x0 : Nat) (l1 : Int64) (i2 : Int32) : Option ((Int64 × Int32) ⊕ Int64) :=
  gF σ a 0 (fun (v3 : Int32) => if v3 ≤ i2 then (some (Sum.inr l1)) else (gI σ (rf a 3) i2 (fun (v4 : Int32) => gL σ (rf a 2) i2 (fun (v5 : Int64) => gL σ x0 (v4 &&& 63) (fun (v6 : Int64) => gL σ x0 ((v4 >>> (6 &&& 31)) &&& 63) (fun (v7 : Int64) => gL σ x0 ((v4 >>> (12 &&& 31)) &&& 63) (fun (v8 : Int64) => bd (l1 + (((v5 * v6) * v7) * v8)) (fun (v9 : Int64) => some (Sum.inl (v9, i2 + 1))))))))))
noncomputable def f_X9_value (σ : Mem) (a : Nat) (x0 : Nat) : Option Int64 :=
  loopO (fun (z2 : (Int64 × Int32)) => l_X9_value_5 σ a x0 z2.1 z2.2) (0, 0)
theorem t_X9_value {w : Wd} (hw : WOK w) {σ : Mem} {a : Nat} {x0 : Nat} (ha : isk w a 9) (hx0 : isk w x0 13) : JO w mu_X9_value vL σ [(0, .ref (adr w a)), (1, .ref (adr w x0))] [] 0 (f_X9_value σ a x0) (fun z => some (z, σ)) := by
  unfold f_X9_value
  refine jo_lconst (pc := 0) dX9_value_0 (ic_l_0) ?_
  refine jo_lstore_n (pc := 1) (lv' := [(2, .long 0), (0, .ref (adr w a)), (1, .ref (adr w x0))]) dX9_value_1 rfl (ltb rfl) rfl ?_
  refine jo_iconst (pc := 2) dX9_value_2 (ic_i_0) ?_
  refine jo_istore (pc := 3) (lv' := [(4, .int 0), (2, .long 0), (0, .ref (adr w a)), (1, .ref (adr w x0))]) dX9_value_3 (ltb rfl) rfl ?_
  refine jo_lv (lv' := [(0, .ref (adr w a)), (1, .ref (adr w x0)), (2, .long 0), (4, .int 0)]) [2, 3, 1, 0] rfl ?_
  refine jo_loop (X := Int64) (fun (z2 : (Int64 × Int32)) => σ) (fun (z2 : (Int64 × Int32)) => [(0, .ref (adr w a)), (1, .ref (adr w x0)), (2, .long z2.1), (4, .int z2.2)]) (body := (fun (z2 : (Int64 × Int32)) => l_X9_value_5 σ a x0 z2.1 z2.2)) (fun F5_2 hF5_2 s => ?_) (0, 0)
  obtain ⟨l1, i2⟩ := s
  show JO w mu_X9_value vL σ [(0, .ref (adr w a)), (1, .ref (adr w x0)), (2, .long l1), (4, .int i2)] [] 5 (l_X9_value_5 σ a x0 l1 i2) _
  unfold l_X9_value_5
  refine jo_iload (pc := 5) 3 rfl dX9_value_5 ?_
  refine jo_aload_n (pc := 7) 0 rfl dX9_value_7 rfl ?_
  refine jo_getf (pc := 8) ok_9_0 (ha) gw_138 dX9_value_8 (fun v3 => ?_)
  refine jo_icmp_ge (pc := 11) dX9_value_11 (tgt := 69) rfl ?_ ?_
  · refine jo_lload_n (pc := 69) 2 rfl dX9_value_69 rfl ?_
    exact jo_lreturn (pc := 70) rfl rfl dX9_value_70
  · refine jo_aload_n (pc := 14) 0 rfl dX9_value_14 rfl ?_
    refine jo_getr (pc := 15) ok_9_3 (ha) gw_143 dX9_value_15 ?_
    refine jo_iload (pc := 18) 3 rfl dX9_value_18 ?_
    refine jo_iald (pc := 20) (wf_9_3 hw (ha)) dX9_value_20 (fun v4 => ?_)
    refine jo_istore (pc := 21) (lv' := [(5, .int v4), (0, .ref (adr w a)), (1, .ref (adr w x0)), (2, .long l1), (4, .int i2)]) dX9_value_21 (ltb rfl) rfl ?_
    refine jo_lload_n (pc := 23) 3 rfl dX9_value_23 rfl ?_
    refine jo_aload_n (pc := 24) 1 rfl dX9_value_24 rfl ?_
    refine jo_getr (pc := 25) ok_9_2 (ha) gw_142 dX9_value_25 ?_
    refine jo_iload (pc := 28) 4 rfl dX9_value_28 ?_
    refine jo_lald (pc := 30) (wf_9_2 hw (ha)) dX9_value_30 (fun v5 => ?_)
    refine jo_aload_n (pc := 31) 2 rfl dX9_value_31 rfl ?_
    refine jo_iload (pc := 32) 0 rfl dX9_value_32 ?_
    refine jo_bipush (pc := 34) dX9_value_34 (ic_b_63) ?_
    refine jo_iand (pc := 36) dX9_value_36 ?_
    refine jo_lald (pc := 37) (hx0) dX9_value_37 (fun v6 => ?_)
    refine jo_lmul (pc := 38) dX9_value_38 ?_
    refine jo_aload_n (pc := 39) 2 rfl dX9_value_39 rfl ?_
    refine jo_iload (pc := 40) 0 rfl dX9_value_40 ?_
    refine jo_bipush (pc := 42) dX9_value_42 (ic_b_6) ?_
    refine jo_ishr (pc := 44) dX9_value_44 ?_
    refine jo_bipush (pc := 45) dX9_value_45 (ic_b_63) ?_
    refine jo_iand (pc := 47) dX9_value_47 ?_
    refine jo_lald (pc := 48) (hx0) dX9_value_48 (fun v7 => ?_)
    refine jo_lmul (pc := 49) dX9_value_49 ?_
    refine jo_aload_n (pc := 50) 2 rfl dX9_value_50 rfl ?_
    refine jo_iload (pc := 51) 0 rfl dX9_value_51 ?_
    refine jo_bipush (pc := 53) dX9_value_53 (ic_b_12) ?_
    refine jo_ishr (pc := 55) dX9_value_55 ?_
    refine jo_bipush (pc := 56) dX9_value_56 (ic_b_63) ?_
    refine jo_iand (pc := 58) dX9_value_58 ?_
    refine jo_lald (pc := 59) (hx0) dX9_value_59 (fun v8 => ?_)
    refine jo_lmul (pc := 60) dX9_value_60 ?_
    refine jo_ladd (pc := 61) dX9_value_61 ?_
    refine jo_bd ?_
    refine jo_lstore_n (pc := 62) (lv' := [(2, .long (l1 + (((v5 * v6) * v7) * v8))), (5, .int v4), (0, .ref (adr w a)), (1, .ref (adr w x0)), (4, .int i2)]) dX9_value_62 rfl (ltb rfl) rfl ?_
    generalize (l1 + (((v5 * v6) * v7) * v8)) = v9
    refine jo_iinc (pc := 63) (lv' := [(4, .int (i2 + 1)), (2, .long v9), (5, .int v4), (0, .ref (adr w a)), (1, .ref (adr w x0))]) 4 rfl dX9_value_63 (congrArg (fun z => i2 + z) (ic_i_1)) (ltb rfl) rfl ?_
    refine jo_goto (pc := 66) dX9_value_66 (tgt := 5) rfl ?_
    refine jo_lv (lv' := [(0, .ref (adr w a)), (1, .ref (adr w x0)), (2, .long v9), (4, .int (i2 + 1))]) [3, 4, 1, 0] rfl ?_
    exact jo_leaf (by rfl) (hF5_2 (v9, i2 + 1))
theorem c_X9_value {w : Wd} (hw : WOK w) {σ : Mem} {a : Nat} {x0 : Nat} (ha : isk w a 9) (hx0 : isk w x0 13) : ∀ r, f_X9_value σ a x0 = some r → MC w mu_X9_value (vL r) [.ref (adr w a), .ref (adr w x0)] σ σ := mc_ofP ok_X9_value rfl (Nat.le_of_ble_eq_true rfl) (t_X9_value hw ha hx0)
abbrev mu_X0_product : MD := (yX0_product, cX0_product, 5, none, 1)
theorem ok_X0_product : MOK mu_X0_product 3 := ⟨gw_582, gw_26, (by decide +kernel : plainFor yX0_product = true), ⟨(by decide +kernel : yX0_product.cls ≠ "java/lang/invoke/MethodHandle"), (by decide +kernel : yX0_product.cls ≠ "java/lang/invoke/VarHandle"), (by decide +kernel : (parseMethodDescriptor yX0_product.desc).map (fun d => d.parameters.length) = some 3)⟩, Nat.le_of_ble_eq_true rfl⟩
noncomputable def l_X0_product_48 (x0 : Nat) (σ2 : Mem) (i3 : Int32) : Option ((Mem × Int32) ⊕ Mem) :=
  if 6 ≤ i3 then (some (Sum.inr σ2)) else (gR 44 i3 (fun (p4 : Nat) => (f_X9_value σ2 p4 73).bind (fun (v5 : Int64) => pL σ2 x0 i3 v5 (fun (σ6 : Mem) => some (Sum.inl (σ6, i3 + 1))))))
noncomputable def j_X0_product_45 (x0 : Nat) (σ1 : Mem) : Option Mem :=
  loopO (fun (z3 : (Mem × Int32)) => l_X0_product_48 x0 z3.1 z3.2) (σ1, 0)
noncomputable def l_X0_product_3 (x1 : Nat) (x2 : Nat) (σ7 : Mem) (i8 : Int32) : Option ((Mem × Int32) ⊕ Mem) :=
  if 6 ≤ i8 then (some (Sum.inr σ7)) else (gL σ7 x1 i8 (fun (v9 : Int64) => (f_X4_put σ7 73 i8 v9).bind (fun (σ10 : Mem) => gL σ10 x2 i8 (fun (v11 : Int64) => (f_X4_put σ10 73 (6 + i8) v11).bind (fun (σ12 : Mem) => some (Sum.inl (σ12, i8 + 1)))))))
noncomputable def f_X0_product (σ : Mem) (x0 : Nat) (x1 : Nat) (x2 : Nat) : Option Mem :=
  (loopO (fun (z8 : (Mem × Int32)) => l_X0_product_3 x1 x2 z8.1 z8.2) (σ, 0) : Option Mem).bind (fun (z1 : Mem) => j_X0_product_45 x0 z1)
theorem t_X0_product {w : Wd} (hw : WOK w) {σ : Mem} {x0 : Nat} {x1 : Nat} {x2 : Nat} (hx0 : isk w x0 13) (hx1 : isk w x1 13) (hx2 : isk w x2 13) : JO w mu_X0_product vV σ [(0, .ref (adr w 72)), (1, .ref (adr w x0)), (2, .ref (adr w x1)), (3, .ref (adr w x2))] [] 0 (f_X0_product σ x0 x1 x2) (fun z => some ((), z)) := by
  unfold f_X0_product
  refine jo_iconst (pc := 0) dX0_product_0 (ic_i_0) ?_
  refine jo_istore (pc := 1) (lv' := [(4, .int 0), (0, .ref (adr w 72)), (1, .ref (adr w x0)), (2, .ref (adr w x1)), (3, .ref (adr w x2))]) dX0_product_1 (ltb rfl) rfl ?_
  refine jo_join1 (S := Mem) (fun (z1 : Mem) => z1) (fun (z1 : Mem) => [(0, .ref (adr w 72)), (1, .ref (adr w x0))]) (fun (z1 : Mem) => []) 45 ?_ (fun h45_1 => ?_)
  · intro σ1
    show JO w mu_X0_product vV σ1 [(0, .ref (adr w 72)), (1, .ref (adr w x0))] [] 45 (j_X0_product_45 x0 σ1) _
    unfold j_X0_product_45
    refine jo_iconst (pc := 45) dX0_product_45 (ic_i_0) ?_
    refine jo_istore (pc := 46) (lv' := [(4, .int 0), (0, .ref (adr w 72)), (1, .ref (adr w x0))]) dX0_product_46 (ltb rfl) rfl ?_
    refine jo_lv (lv' := [(0, .ref (adr w 72)), (1, .ref (adr w x0)), (4, .int 0)]) [1, 2, 0] rfl ?_
    refine jo_loop (X := Mem) (fun (z3 : (Mem × Int32)) => z3.1) (fun (z3 : (Mem × Int32)) => [(0, .ref (adr w 72)), (1, .ref (adr w x0)), (4, .int z3.2)]) (body := (fun (z3 : (Mem × Int32)) => l_X0_product_48 x0 z3.1 z3.2)) (fun F48_3 hF48_3 s => ?_) (σ1, 0)
    obtain ⟨σ2, i3⟩ := s
    show JO w mu_X0_product vV σ2 [(0, .ref (adr w 72)), (1, .ref (adr w x0)), (4, .int i3)] [] 48 (l_X0_product_48 x0 σ2 i3) _
    unfold l_X0_product_48
    refine jo_iload (pc := 48) 2 rfl dX0_product_48 ?_
    refine jo_bipush (pc := 50) dX0_product_50 (ic_b_6) ?_
    refine jo_icmp_ge (pc := 52) dX0_product_52 (tgt := 82) rfl ?_ ?_
    · exact jo_return (pc := 82) rfl rfl dX0_product_82
    · refine jo_aload_n (pc := 55) 1 rfl dX0_product_55 rfl ?_
      refine jo_iload (pc := 56) 2 rfl dX0_product_56 ?_
      refine jo_aload_n (pc := 58) 0 rfl dX0_product_58 rfl ?_
      refine jo_getrE (pc := 59) ok_0_0 (ik_72 hw) rf_72_0 gw_190 dX0_product_59 ?_
      refine jo_getrE (pc := 62) ok_4_2 (ik_40 hw) rf_40_2 gw_156 dX0_product_62 ?_
      refine jo_iload (pc := 65) 2 rfl dX0_product_65 ?_
      refine jo_aaldG (pc := 67) (z := 9) hw (ik_44 hw) (by decide) (t := 3) rfl rfl (by decide) dX0_product_67 (fun p4 hp4 => ?_)
      refine jo_aload_n (pc := 68) 0 rfl dX0_product_68 rfl ?_
      refine jo_getrE (pc := 69) ok_0_1 (ik_72 hw) rf_72_1 gw_191 dX0_product_69 ?_
      refine jo_cV_J_p (pc := 72) (μ' := mu_X9_value) (fx := f_X9_value σ2 p4 73) (As := [.ref (adr w 73)]) (c_X9_value hw (hp4) (ik_73 hw)) (ok_X9_value) (ltb rfl) (all3 gw_584 gw_464 gw_465) (hp4) (by decide) (q := (RX9, TX9, 4)) rfl rfl rfl rfl (Nat.le_of_ble_eq_true rfl) dX0_product_72 (fun v5 => ?_)
      refine jo_last (pc := 75) (hx0) dX0_product_75 (fun σ6 => ?_)
      refine jo_iinc (pc := 76) (lv' := [(4, .int (i3 + 1)), (0, .ref (adr w 72)), (1, .ref (adr w x0))]) 2 rfl dX0_product_76 (congrArg (fun z => i3 + z) (ic_i_1)) (ltb rfl) rfl ?_
      refine jo_goto (pc := 79) dX0_product_79 (tgt := 48) rfl ?_
      refine jo_lv (lv' := [(0, .ref (adr w 72)), (1, .ref (adr w x0)), (4, .int (i3 + 1))]) [1, 2, 0] rfl ?_
      exact jo_leaf (by rfl) (hF48_3 (σ6, i3 + 1))
  · refine jo_lv (lv' := [(0, .ref (adr w 72)), (1, .ref (adr w x0)), (2, .ref (adr w x1)), (3, .ref (adr w x2)), (4, .int 0)]) [1, 2, 3, 4, 0] rfl ?_
    refine jo_loop (X := Mem) (fun (z8 : (Mem × Int32)) => z8.1) (fun (z8 : (Mem × Int32)) => [(0, .ref (adr w 72)), (1, .ref (adr w x0)), (2, .ref (adr w x1)), (3, .ref (adr w x2)), (4, .int z8.2)]) (body := (fun (z8 : (Mem × Int32)) => l_X0_product_3 x1 x2 z8.1 z8.2)) (fun F3_8 hF3_8 s => ?_) (σ, 0)
    obtain ⟨σ7, i8⟩ := s
    show JO w mu_X0_product vV σ7 [(0, .ref (adr w 72)), (1, .ref (adr w x0)), (2, .ref (adr w x1)), (3, .ref (adr w x2)), (4, .int i8)] [] 3 (l_X0_product_3 x1 x2 σ7 i8) _
    unfold l_X0_product_3
    refine jo_iload (pc := 3) 4 rfl dX0_product_3 ?_
    refine jo_bipush (pc := 5) dX0_product_5 (ic_b_6) ?_
    refine jo_icmp_ge (pc := 7) dX0_product_7 (tgt := 45) rfl ?_ ?_
    · refine jo_lv (lv' := [(0, .ref (adr w 72)), (1, .ref (adr w x0))]) [0, 1] rfl ?_
      exact jo_leaf (by rfl) (h45_1 σ7)
    · refine jo_aload_n (pc := 10) 0 rfl dX0_product_10 rfl ?_
      refine jo_getrE (pc := 11) ok_0_1 (ik_72 hw) rf_72_1 gw_191 dX0_product_11 ?_
      refine jo_iload (pc := 14) 4 rfl dX0_product_14 ?_
      refine jo_aload_n (pc := 16) 2 rfl dX0_product_16 rfl ?_
      refine jo_iload (pc := 17) 4 rfl dX0_product_17 ?_
      refine jo_lald (pc := 19) (hx1) dX0_product_19 (fun v9 => ?_)
      refine jo_cS_V_i (pc := 20) (μ' := mu_X4_put) (fx := f_X4_put σ7 73 i8 v9) (As := [.ref (adr w 73), .int i8, .long v9]) (c_X4_put hw (ik_73 hw)) (ok_X4_put) (ltb rfl) (all2 gw_583 gw_460) rfl rfl (Nat.le_of_ble_eq_true rfl) dX0_product_20 (fun σ10 => ?_)
      refine jo_aload_n (pc := 23) 0 rfl dX0_product_23 rfl ?_
      refine jo_getrE (pc := 24) ok_0_1 (ik_72 hw) rf_72_1 gw_191 dX0_product_24 ?_
      refine jo_bipush (pc := 27) dX0_product_27 (ic_b_6) ?_
      refine jo_iload (pc := 29) 4 rfl dX0_product_29 ?_
      refine jo_iadd (pc := 31) dX0_product_31 ?_
      refine jo_aload_n (pc := 32) 3 rfl dX0_product_32 rfl ?_
      refine jo_iload (pc := 33) 4 rfl dX0_product_33 ?_
      refine jo_lald (pc := 35) (hx2) dX0_product_35 (fun v11 => ?_)
      refine jo_cS_V_i (pc := 36) (μ' := mu_X4_put) (fx := f_X4_put σ10 73 (6 + i8) v11) (As := [.ref (adr w 73), .int (6 + i8), .long v11]) (c_X4_put hw (ik_73 hw)) (ok_X4_put) (ltb rfl) (all2 gw_583 gw_460) rfl rfl (Nat.le_of_ble_eq_true rfl) dX0_product_36 (fun σ12 => ?_)
      refine jo_iinc (pc := 39) (lv' := [(4, .int (i8 + 1)), (0, .ref (adr w 72)), (1, .ref (adr w x0)), (2, .ref (adr w x1)), (3, .ref (adr w x2))]) 4 rfl dX0_product_39 (congrArg (fun z => i8 + z) (ic_i_1)) (ltb rfl) rfl ?_
      refine jo_goto (pc := 42) dX0_product_42 (tgt := 3) rfl ?_
      refine jo_lv (lv' := [(0, .ref (adr w 72)), (1, .ref (adr w x0)), (2, .ref (adr w x1)), (3, .ref (adr w x2)), (4, .int (i8 + 1))]) [1, 2, 3, 4, 0] rfl ?_
      exact jo_leaf (by rfl) (hF3_8 (σ12, i8 + 1))
theorem c_X0_product {w : Wd} (hw : WOK w) {σ : Mem} {x0 : Nat} {x1 : Nat} {x2 : Nat} (hx0 : isk w x0 13) (hx1 : isk w x1 13) (hx2 : isk w x2 13) : ∀ σ', f_X0_product σ x0 x1 x2 = some σ' → MC w mu_X0_product none [.ref (adr w 72), .ref (adr w x0), .ref (adr w x1), .ref (adr w x2)] σ σ' := mc_ofV ok_X0_product rfl (Nat.le_of_ble_eq_true rfl) (t_X0_product hw hx0 hx1 hx2)
abbrev mu_X0_inverse : MD := (yX0_inverse, cX0_inverse, 4, none, 1)
theorem ok_X0_inverse : MOK mu_X0_inverse 2 := ⟨gw_784, gw_26, (by decide +kernel : plainFor yX0_inverse = true), ⟨(by decide +kernel : yX0_inverse.cls ≠ "java/lang/invoke/MethodHandle"), (by decide +kernel : yX0_inverse.cls ≠ "java/lang/invoke/VarHandle"), (by decide +kernel : (parseMethodDescriptor yX0_inverse.desc).map (fun d => d.parameters.length) = some 2)⟩, Nat.le_of_ble_eq_true rfl⟩
noncomputable def l_X0_inverse_39 (x0 : Nat) (σ2 : Mem) (i3 : Int32) : Option ((Mem × Int32) ⊕ Mem) :=
  if 6 ≤ i3 then (some (Sum.inr σ2)) else (gR 44 i3 (fun (p4 : Nat) => (f_X9_value σ2 p4 73).bind (fun (v5 : Int64) => pL σ2 x0 i3 (-v5) (fun (σ6 : Mem) => gL σ6 x0 i3 (fun (v7 : Int64) => (f_X4_put σ6 73 (6 + i3) v7).bind (fun (σ8 : Mem) => some (Sum.inl (σ8, i3 + 1))))))))
noncomputable def j_X0_inverse_37 (x0 : Nat) (σ1 : Mem) : Option Mem :=
  loopO (fun (z3 : (Mem × Int32)) => l_X0_inverse_39 x0 z3.1 z3.2) (σ1, 0)
noncomputable def l_X0_inverse_2 (x1 : Nat) (σ9 : Mem) (i10 : Int32) : Option ((Mem × Int32) ⊕ Mem) :=
  if 6 ≤ i10 then (some (Sum.inr σ9)) else (gL σ9 x1 i10 (fun (v11 : Int64) => (f_X4_put σ9 73 i10 v11).bind (fun (σ12 : Mem) => (f_X4_put σ12 73 (6 + i10) 0).bind (fun (σ13 : Mem) => some (Sum.inl (σ13, i10 + 1))))))
noncomputable def f_X0_inverse (σ : Mem) (x0 : Nat) (x1 : Nat) : Option Mem :=
  (loopO (fun (z10 : (Mem × Int32)) => l_X0_inverse_2 x1 z10.1 z10.2) (σ, 0) : Option Mem).bind (fun (z1 : Mem) => j_X0_inverse_37 x0 z1)
theorem t_X0_inverse {w : Wd} (hw : WOK w) {σ : Mem} {x0 : Nat} {x1 : Nat} (hx0 : isk w x0 13) (hx1 : isk w x1 13) : JO w mu_X0_inverse vV σ [(0, .ref (adr w 72)), (1, .ref (adr w x0)), (2, .ref (adr w x1))] [] 0 (f_X0_inverse σ x0 x1) (fun z => some ((), z)) := by
  unfold f_X0_inverse
  refine jo_iconst (pc := 0) dX0_inverse_0 (ic_i_0) ?_
  refine jo_istore_n (pc := 1) (lv' := [(3, .int 0), (0, .ref (adr w 72)), (1, .ref (adr w x0)), (2, .ref (adr w x1))]) dX0_inverse_1 rfl (ltb rfl) rfl ?_
  refine jo_join1 (S := Mem) (fun (z1 : Mem) => z1) (fun (z1 : Mem) => [(0, .ref (adr w 72)), (1, .ref (adr w x0))]) (fun (z1 : Mem) => []) 37 ?_ (fun h37_1 => ?_)
  · intro σ1
    show JO w mu_X0_inverse vV σ1 [(0, .ref (adr w 72)), (1, .ref (adr w x0))] [] 37 (j_X0_inverse_37 x0 σ1) _
    unfold j_X0_inverse_37
    refine jo_iconst (pc := 37) dX0_inverse_37 (ic_i_0) ?_
    refine jo_istore_n (pc := 38) (lv' := [(3, .int 0), (0, .ref (adr w 72)), (1, .ref (adr w x0))]) dX0_inverse_38 rfl (ltb rfl) rfl ?_
    refine jo_lv (lv' := [(0, .ref (adr w 72)), (1, .ref (adr w x0)), (3, .int 0)]) [1, 2, 0] rfl ?_
    refine jo_loop (X := Mem) (fun (z3 : (Mem × Int32)) => z3.1) (fun (z3 : (Mem × Int32)) => [(0, .ref (adr w 72)), (1, .ref (adr w x0)), (3, .int z3.2)]) (body := (fun (z3 : (Mem × Int32)) => l_X0_inverse_39 x0 z3.1 z3.2)) (fun F39_3 hF39_3 s => ?_) (σ1, 0)
    obtain ⟨σ2, i3⟩ := s
    show JO w mu_X0_inverse vV σ2 [(0, .ref (adr w 72)), (1, .ref (adr w x0)), (3, .int i3)] [] 39 (l_X0_inverse_39 x0 σ2 i3) _
    unfold l_X0_inverse_39
    refine jo_iload_n (pc := 39) 2 rfl dX0_inverse_39 rfl ?_
    refine jo_bipush (pc := 40) dX0_inverse_40 (ic_b_6) ?_
    refine jo_icmp_ge (pc := 42) dX0_inverse_42 (tgt := 85) rfl ?_ ?_
    · exact jo_return (pc := 85) rfl rfl dX0_inverse_85
    · refine jo_aload_n (pc := 45) 1 rfl dX0_inverse_45 rfl ?_
      refine jo_iload_n (pc := 46) 2 rfl dX0_inverse_46 rfl ?_
      refine jo_aload_n (pc := 47) 0 rfl dX0_inverse_47 rfl ?_
      refine jo_getrE (pc := 48) ok_0_0 (ik_72 hw) rf_72_0 gw_190 dX0_inverse_48 ?_
      refine jo_getrE (pc := 51) ok_4_2 (ik_40 hw) rf_40_2 gw_156 dX0_inverse_51 ?_
      refine jo_iload_n (pc := 54) 2 rfl dX0_inverse_54 rfl ?_
      refine jo_aaldG (pc := 55) (z := 9) hw (ik_44 hw) (by decide) (t := 3) rfl rfl (by decide) dX0_inverse_55 (fun p4 hp4 => ?_)
      refine jo_aload_n (pc := 56) 0 rfl dX0_inverse_56 rfl ?_
      refine jo_getrE (pc := 57) ok_0_1 (ik_72 hw) rf_72_1 gw_191 dX0_inverse_57 ?_
      refine jo_cV_J_p (pc := 60) (μ' := mu_X9_value) (fx := f_X9_value σ2 p4 73) (As := [.ref (adr w 73)]) (c_X9_value hw (hp4) (ik_73 hw)) (ok_X9_value) (ltb rfl) (all3 gw_584 gw_464 gw_465) (hp4) (by decide) (q := (RX9, TX9, 4)) rfl rfl rfl rfl (Nat.le_of_ble_eq_true rfl) dX0_inverse_60 (fun v5 => ?_)
      refine jo_lneg (pc := 63) dX0_inverse_63 ?_
      refine jo_last (pc := 64) (hx0) dX0_inverse_64 (fun σ6 => ?_)
      refine jo_aload_n (pc := 65) 0 rfl dX0_inverse_65 rfl ?_
      refine jo_getrE (pc := 66) ok_0_1 (ik_72 hw) rf_72_1 gw_191 dX0_inverse_66 ?_
      refine jo_bipush (pc := 69) dX0_inverse_69 (ic_b_6) ?_
      refine jo_iload_n (pc := 71) 2 rfl dX0_inverse_71 rfl ?_
      refine jo_iadd (pc := 72) dX0_inverse_72 ?_
      refine jo_aload_n (pc := 73) 1 rfl dX0_inverse_73 rfl ?_
      refine jo_iload_n (pc := 74) 2 rfl dX0_inverse_74 rfl ?_
      refine jo_lald (pc := 75) (hx0) dX0_inverse_75 (fun v7 => ?_)
      refine jo_cS_V_i (pc := 76) (μ' := mu_X4_put) (fx := f_X4_put σ6 73 (6 + i3) v7) (As := [.ref (adr w 73), .int (6 + i3), .long v7]) (c_X4_put hw (ik_73 hw)) (ok_X4_put) (ltb rfl) (all2 gw_583 gw_460) rfl rfl (Nat.le_of_ble_eq_true rfl) dX0_inverse_76 (fun σ8 => ?_)
      refine jo_iinc (pc := 79) (lv' := [(3, .int (i3 + 1)), (0, .ref (adr w 72)), (1, .ref (adr w x0))]) 2 rfl dX0_inverse_79 (congrArg (fun z => i3 + z) (ic_i_1)) (ltb rfl) rfl ?_
      refine jo_goto (pc := 82) dX0_inverse_82 (tgt := 39) rfl ?_
      refine jo_lv (lv' := [(0, .ref (adr w 72)), (1, .ref (adr w x0)), (3, .int (i3 + 1))]) [1, 2, 0] rfl ?_
      exact jo_leaf (by rfl) (hF39_3 (σ8, i3 + 1))
  · refine jo_lv (lv' := [(0, .ref (adr w 72)), (1, .ref (adr w x0)), (2, .ref (adr w x1)), (3, .int 0)]) [1, 2, 3, 0] rfl ?_
    refine jo_loop (X := Mem) (fun (z10 : (Mem × Int32)) => z10.1) (fun (z10 : (Mem × Int32)) => [(0, .ref (adr w 72)), (1, .ref (adr w x0)), (2, .ref (adr w x1)), (3, .int z10.2)]) (body := (fun (z10 : (Mem × Int32)) => l_X0_inverse_2 x1 z10.1 z10.2)) (fun F2_10 hF2_10 s => ?_) (σ, 0)
    obtain ⟨σ9, i10⟩ := s
    show JO w mu_X0_inverse vV σ9 [(0, .ref (adr w 72)), (1, .ref (adr w x0)), (2, .ref (adr w x1)), (3, .int i10)] [] 2 (l_X0_inverse_2 x1 σ9 i10) _
    unfold l_X0_inverse_2
    refine jo_iload_n (pc := 2) 3 rfl dX0_inverse_2 rfl ?_
    refine jo_bipush (pc := 3) dX0_inverse_3 (ic_b_6) ?_
    refine jo_icmp_ge (pc := 5) dX0_inverse_5 (tgt := 37) rfl ?_ ?_
    · refine jo_lv (lv' := [(0, .ref (adr w 72)), (1, .ref (adr w x0))]) [0, 1] rfl ?_
      exact jo_leaf (by rfl) (h37_1 σ9)
    · refine jo_aload_n (pc := 8) 0 rfl dX0_inverse_8 rfl ?_
      refine jo_getrE (pc := 9) ok_0_1 (ik_72 hw) rf_72_1 gw_191 dX0_inverse_9 ?_
      refine jo_iload_n (pc := 12) 3 rfl dX0_inverse_12 rfl ?_
      refine jo_aload_n (pc := 13) 2 rfl dX0_inverse_13 rfl ?_
      refine jo_iload_n (pc := 14) 3 rfl dX0_inverse_14 rfl ?_
      refine jo_lald (pc := 15) (hx1) dX0_inverse_15 (fun v11 => ?_)
      refine jo_cS_V_i (pc := 16) (μ' := mu_X4_put) (fx := f_X4_put σ9 73 i10 v11) (As := [.ref (adr w 73), .int i10, .long v11]) (c_X4_put hw (ik_73 hw)) (ok_X4_put) (ltb rfl) (all2 gw_583 gw_460) rfl rfl (Nat.le_of_ble_eq_true rfl) dX0_inverse_16 (fun σ12 => ?_)
      refine jo_aload_n (pc := 19) 0 rfl dX0_inverse_19 rfl ?_
      refine jo_getrE (pc := 20) ok_0_1 (ik_72 hw) rf_72_1 gw_191 dX0_inverse_20 ?_
      refine jo_bipush (pc := 23) dX0_inverse_23 (ic_b_6) ?_
      refine jo_iload_n (pc := 25) 3 rfl dX0_inverse_25 rfl ?_
      refine jo_iadd (pc := 26) dX0_inverse_26 ?_
      refine jo_lconst (pc := 27) dX0_inverse_27 (ic_l_0) ?_
      refine jo_cS_V_i (pc := 28) (μ' := mu_X4_put) (fx := f_X4_put σ12 73 (6 + i10) 0) (As := [.ref (adr w 73), .int (6 + i10), .long 0]) (c_X4_put hw (ik_73 hw)) (ok_X4_put) (ltb rfl) (all2 gw_583 gw_460) rfl rfl (Nat.le_of_ble_eq_true rfl) dX0_inverse_28 (fun σ13 => ?_)
      refine jo_iinc (pc := 31) (lv' := [(3, .int (i10 + 1)), (0, .ref (adr w 72)), (1, .ref (adr w x0)), (2, .ref (adr w x1))]) 3 rfl dX0_inverse_31 (congrArg (fun z => i10 + z) (ic_i_1)) (ltb rfl) rfl ?_
      refine jo_goto (pc := 34) dX0_inverse_34 (tgt := 2) rfl ?_
      refine jo_lv (lv' := [(0, .ref (adr w 72)), (1, .ref (adr w x0)), (2, .ref (adr w x1)), (3, .int (i10 + 1))]) [1, 2, 3, 0] rfl ?_
      exact jo_leaf (by rfl) (hF2_10 (σ13, i10 + 1))
theorem c_X0_inverse {w : Wd} (hw : WOK w) {σ : Mem} {x0 : Nat} {x1 : Nat} (hx0 : isk w x0 13) (hx1 : isk w x1 13) : ∀ σ', f_X0_inverse σ x0 x1 = some σ' → MC w mu_X0_inverse none [.ref (adr w 72), .ref (adr w x0), .ref (adr w x1)] σ σ' := mc_ofV ok_X0_inverse rfl (Nat.le_of_ble_eq_true rfl) (t_X0_inverse hw hx0 hx1)
abbrev mu_X2_begin : MD := (yX2_begin, cX2_begin, 1, none, 0)
theorem ok_X2_begin : MOK mu_X2_begin 0 := ⟨gw_405, gw_23, (by decide +kernel : plainFor yX2_begin = true), ⟨(by decide +kernel : yX2_begin.cls ≠ "java/lang/invoke/MethodHandle"), (by decide +kernel : yX2_begin.cls ≠ "java/lang/invoke/VarHandle"), (by decide +kernel : (parseMethodDescriptor yX2_begin.desc).map (fun d => d.parameters.length) = some 0)⟩, Nat.le_of_ble_eq_true rfl⟩
noncomputable def f_X2_begin (σ : Mem) : Option Mem :=
  pF σ 35 1 0 (fun (σ1 : Mem) => some σ1)
theorem t_X2_begin {w : Wd} (hw : WOK w) {σ : Mem} : JO w mu_X2_begin vV σ [(0, .ref (adr w 35))] [] 0 (f_X2_begin σ) (fun z => some ((), z)) := by
  unfold f_X2_begin
  refine jo_aload_n (pc := 0) 0 rfl dX2_begin_0 rfl ?_
  refine jo_iconst (pc := 1) dX2_begin_1 (ic_i_0) ?_
  refine jo_putf (pc := 2) ok_2_1 okp_2_1 (ik_35 hw) gw_100 dX2_begin_2 (fun σ1 => ?_)
  exact jo_return (pc := 5) rfl rfl dX2_begin_5
theorem c_X2_begin {w : Wd} (hw : WOK w) {σ : Mem} : ∀ σ', f_X2_begin σ = some σ' → MC w mu_X2_begin none [.ref (adr w 35)] σ σ' := mc_ofV ok_X2_begin rfl (Nat.le_of_ble_eq_true rfl) (t_X2_begin hw)
abbrev mu_X2_add : MD := (yX2_add, cX2_add, 2, none, 0)
theorem ok_X2_add : MOK mu_X2_add 1 := ⟨gw_409, gw_23, (by decide +kernel : plainFor yX2_add = true), ⟨(by decide +kernel : yX2_add.cls ≠ "java/lang/invoke/MethodHandle"), (by decide +kernel : yX2_add.cls ≠ "java/lang/invoke/VarHandle"), (by decide +kernel : (parseMethodDescriptor yX2_add.desc).map (fun d => d.parameters.length) = some 1)⟩, Nat.le_of_ble_eq_true rfl⟩
noncomputable def f_X2_add (σ : Mem) (x0 : Int32) : Option Mem :=
  gF σ 35 1 (fun (v1 : Int32) => if 64 ≤ v1 then (some σ) else (if x0 < 0 then (some σ) else (if 6 ≤ x0 then (some σ) else (gF σ 35 1 (fun (v2 : Int32) => pI σ 36 v2 x0 (fun (σ3 : Mem) => gF σ3 35 1 (fun (v4 : Int32) => pF σ3 35 1 (v4 + 1) (fun (σ5 : Mem) => some σ5))))))))
theorem t_X2_add {w : Wd} (hw : WOK w) {σ : Mem} {x0 : Int32} : JO w mu_X2_add vV σ [(0, .ref (adr w 35)), (1, .int x0)] [] 0 (f_X2_add σ x0) (fun z => some ((), z)) := by
  unfold f_X2_add
  refine jo_aload_n (pc := 0) 0 rfl dX2_add_0 rfl ?_
  refine jo_getf (pc := 1) ok_2_1 (ik_35 hw) gw_100 dX2_add_1 (fun v1 => ?_)
  refine jo_bipush (pc := 4) dX2_add_4 (ic_b_64) ?_
  refine jo_icmp_ge (pc := 6) dX2_add_6 (tgt := 39) rfl ?_ ?_
  · exact jo_return (pc := 39) rfl rfl dX2_add_39
  · refine jo_iload_n (pc := 9) 1 rfl dX2_add_9 rfl ?_
    refine jo_if_lt (pc := 10) dX2_add_10 (tgt := 39) rfl ?_ ?_
    · exact jo_return (pc := 39) rfl rfl dX2_add_39
    · refine jo_iload_n (pc := 13) 1 rfl dX2_add_13 rfl ?_
      refine jo_bipush (pc := 14) dX2_add_14 (ic_b_6) ?_
      refine jo_icmp_ge (pc := 16) dX2_add_16 (tgt := 39) rfl ?_ ?_
      · exact jo_return (pc := 39) rfl rfl dX2_add_39
      · refine jo_aload_n (pc := 19) 0 rfl dX2_add_19 rfl ?_
        refine jo_getrE (pc := 20) ok_2_0 (ik_35 hw) rf_35_0 gw_99 dX2_add_20 ?_
        refine jo_aload_n (pc := 23) 0 rfl dX2_add_23 rfl ?_
        refine jo_getf (pc := 24) ok_2_1 (ik_35 hw) gw_100 dX2_add_24 (fun v2 => ?_)
        refine jo_iload_n (pc := 27) 1 rfl dX2_add_27 rfl ?_
        refine jo_iast (pc := 28) (ik_36 hw) dX2_add_28 (fun σ3 => ?_)
        refine jo_aload_n (pc := 29) 0 rfl dX2_add_29 rfl ?_
        refine jo_dup (pc := 30) dX2_add_30 rfl ?_
        refine jo_getf (pc := 31) ok_2_1 (ik_35 hw) gw_100 dX2_add_31 (fun v4 => ?_)
        refine jo_iconst (pc := 34) dX2_add_34 (ic_i_1) ?_
        refine jo_iadd (pc := 35) dX2_add_35 ?_
        refine jo_putf (pc := 36) ok_2_1 okp_2_1 (ik_35 hw) gw_100 dX2_add_36 (fun σ5 => ?_)
        exact jo_return (pc := 39) rfl rfl dX2_add_39
theorem c_X2_add {w : Wd} (hw : WOK w) {σ : Mem} {x0 : Int32} : ∀ σ', f_X2_add σ x0 = some σ' → MC w mu_X2_add none [.ref (adr w 35), .int x0] σ σ' := mc_ofV ok_X2_add rfl (Nat.le_of_ble_eq_true rfl) (t_X2_add hw)
abbrev mu_X6_isTail : MD := (yX6_isTail, cX6_isTail, 4, some .boolean, 0)
theorem ok_X6_isTail : MOK mu_X6_isTail 3 := ⟨gw_378, gw_22, (by decide +kernel : plainFor yX6_isTail = true), ⟨(by decide +kernel : yX6_isTail.cls ≠ "java/lang/invoke/MethodHandle"), (by decide +kernel : yX6_isTail.cls ≠ "java/lang/invoke/VarHandle"), (by decide +kernel : (parseMethodDescriptor yX6_isTail.desc).map (fun d => d.parameters.length) = some 3)⟩, Nat.le_of_ble_eq_true rfl⟩
noncomputable def j_X6_isTail_26  : Option Bool :=
  some false
noncomputable def f_X6_isTail (σ : Mem) (a : Nat) (x0 : Int32) (x1 : Int32) (x2 : Int32) : Option Bool :=
  (if x1 < 0 then (some (Sum.inl ())) else (if x0 ≤ x1 then (some (Sum.inl ())) else (if x2 ≤ x0 then (some (Sum.inl ())) else (gF σ a 0 (fun (v1 : Int32) => if v1 ≤ x2 then (some (Sum.inl ())) else (some (Sum.inr true)))))) : Option (Unit ⊕ Bool)).bind (Sum.elim (fun (z0 : Unit) => j_X6_isTail_26) some)
theorem t_X6_isTail {w : Wd} (hw : WOK w) {σ : Mem} {a : Nat} {x0 : Int32} {x1 : Int32} {x2 : Int32} (ha : isk w a 6) : JO w mu_X6_isTail vB σ [(0, .ref (adr w a)), (1, .int x0), (2, .int x1), (3, .int x2)] [] 0 (f_X6_isTail σ a x0 x1 x2) (fun z => some (z, σ)) := by
  unfold f_X6_isTail
  refine jo_iload_n (pc := 0) 2 rfl dX6_isTail_0 rfl ?_
  refine jo_joinS (S := Unit) (fun (z0 : Unit) => σ) (fun (z0 : Unit) => []) (fun (z0 : Unit) => []) 26 ?_ (fun h26_0 => ?_)
  · intro _
    show JO w mu_X6_isTail vB σ [] [] 26 (j_X6_isTail_26) _
    unfold j_X6_isTail_26
    refine jo_iconst (pc := 26) dX6_isTail_26 (ic_i_0) ?_
    exact jo_breturn (pc := 27) (b := false) rfl rfl dX6_isTail_27
  · refine jo_if_lt (pc := 1) dX6_isTail_1 (tgt := 26) rfl ?_ ?_
    · refine jo_lv (lv' := []) [] rfl ?_
      exact jo_leaf (by rfl) (h26_0 ())
    · refine jo_iload_n (pc := 4) 1 rfl dX6_isTail_4 rfl ?_
      refine jo_iload_n (pc := 5) 2 rfl dX6_isTail_5 rfl ?_
      refine jo_icmp_le (pc := 6) dX6_isTail_6 (tgt := 26) rfl ?_ ?_
      · refine jo_lv (lv' := []) [] rfl ?_
        exact jo_leaf (by rfl) (h26_0 ())
      · refine jo_iload_n (pc := 9) 3 rfl dX6_isTail_9 rfl ?_
        refine jo_iload_n (pc := 10) 1 rfl dX6_isTail_10 rfl ?_
        refine jo_icmp_le (pc := 11) dX6_isTail_11 (tgt := 26) rfl ?_ ?_
        · refine jo_lv (lv' := []) [] rfl ?_
          exact jo_leaf (by rfl) (h26_0 ())
        · refine jo_iload_n (pc := 14) 3 rfl dX6_isTail_14 rfl ?_
          refine jo_aload_n (pc := 15) 0 rfl dX6_isTail_15 rfl ?_
          refine jo_getf (pc := 16) ok_6_0 (ha) gw_61 dX6_isTail_16 (fun v1 => ?_)
          refine jo_icmp_ge (pc := 19) dX6_isTail_19 (tgt := 26) rfl ?_ ?_
          · refine jo_lv (lv' := []) [] rfl ?_
            exact jo_leaf (by rfl) (h26_0 ())
          · refine jo_iconst (pc := 22) dX6_isTail_22 (ic_i_1) ?_
            refine jo_goto (pc := 23) dX6_isTail_23 (tgt := 27) rfl ?_
            exact jo_breturn (pc := 27) (b := true) rfl rfl dX6_isTail_27
theorem c_X6_isTail {w : Wd} (hw : WOK w) {σ : Mem} {a : Nat} {x0 : Int32} {x1 : Int32} {x2 : Int32} (ha : isk w a 6) : ∀ r, f_X6_isTail σ a x0 x1 x2 = some r → MC w mu_X6_isTail (vB r) [.ref (adr w a), .int x0, .int x1, .int x2] σ σ := mc_ofP ok_X6_isTail rfl (Nat.le_of_ble_eq_true rfl) (t_X6_isTail hw ha)
abbrev mu_X6_read : MD := (yX6_read, cX6_read, 4, some .int, 1)
theorem ok_X6_read : MOK mu_X6_read 3 := ⟨gw_417, gw_22, (by decide +kernel : plainFor yX6_read = true), ⟨(by decide +kernel : yX6_read.cls ≠ "java/lang/invoke/MethodHandle"), (by decide +kernel : yX6_read.cls ≠ "java/lang/invoke/VarHandle"), (by decide +kernel : (parseMethodDescriptor yX6_read.desc).map (fun d => d.parameters.length) = some 3)⟩, Nat.le_of_ble_eq_true rfl⟩
noncomputable def f_X6_read (σ : Mem) (a : Nat) (x0 : Int32) (x1 : Int32) (x2 : Int32) : Option Int32 :=
  (f_X6_isTail σ a x0 x1 x2).bind (fun (b1 : Bool) => if b1 then gI σ (rf a 2) ((((x0 * 6) + x1) * 6) + x2) (fun (v2 : Int32) => some v2) else some 0)
theorem t_X6_read {w : Wd} (hw : WOK w) {σ : Mem} {a : Nat} {x0 : Int32} {x1 : Int32} {x2 : Int32} (ha : isk w a 6) : JO w mu_X6_read vI σ [(0, .ref (adr w a)), (1, .int x0), (2, .int x1), (3, .int x2)] [] 0 (f_X6_read σ a x0 x1 x2) (fun z => some (z, σ)) := by
  unfold f_X6_read
  refine jo_aload_n (pc := 0) 0 rfl dX6_read_0 rfl ?_
  refine jo_iload_n (pc := 1) 1 rfl dX6_read_1 rfl ?_
  refine jo_iload_n (pc := 2) 2 rfl dX6_read_2 rfl ?_
  refine jo_iload_n (pc := 3) 3 rfl dX6_read_3 rfl ?_
  refine jo_cV_Z_p (pc := 4) (μ' := mu_X6_isTail) (fx := f_X6_isTail σ a x0 x1 x2) (As := [.int x0, .int x1, .int x2]) (c_X6_isTail hw (ha)) (ok_X6_isTail) (ltb rfl) (all3 gw_375 gw_376 gw_377) (ha) (by decide) (q := (RX6, TX6, 3)) rfl rfl rfl rfl (Nat.le_of_ble_eq_true rfl) dX6_read_4 (fun b1 => ?_)
  refine jo_ifz_eq (pc := 7) dX6_read_7 (tgt := 29) rfl ?_ ?_
  · refine jo_iconst (pc := 29) dX6_read_29 (ic_i_0) ?_
    exact jo_ireturn (pc := 30) rfl rfl dX6_read_30
  · refine jo_aload_n (pc := 10) 0 rfl dX6_read_10 rfl ?_
    refine jo_getr (pc := 11) ok_6_2 (ha) gw_67 dX6_read_11 ?_
    refine jo_iload_n (pc := 14) 1 rfl dX6_read_14 rfl ?_
    refine jo_bipush (pc := 15) dX6_read_15 (ic_b_6) ?_
    refine jo_imul (pc := 17) dX6_read_17 ?_
    refine jo_iload_n (pc := 18) 2 rfl dX6_read_18 rfl ?_
    refine jo_iadd (pc := 19) dX6_read_19 ?_
    refine jo_bipush (pc := 20) dX6_read_20 (ic_b_6) ?_
    refine jo_imul (pc := 22) dX6_read_22 ?_
    refine jo_iload_n (pc := 23) 3 rfl dX6_read_23 rfl ?_
    refine jo_iadd (pc := 24) dX6_read_24 ?_
    refine jo_iald (pc := 25) (wf_6_2 hw (ha)) dX6_read_25 (fun v2 => ?_)
    refine jo_goto (pc := 26) dX6_read_26 (tgt := 30) rfl ?_
    exact jo_ireturn (pc := 30) rfl rfl dX6_read_30
theorem c_X6_read {w : Wd} (hw : WOK w) {σ : Mem} {a : Nat} {x0 : Int32} {x1 : Int32} {x2 : Int32} (ha : isk w a 6) : ∀ r, f_X6_read σ a x0 x1 x2 = some r → MC w mu_X6_read (vI r) [.ref (adr w a), .int x0, .int x1, .int x2] σ σ := mc_ofP ok_X6_read rfl (Nat.le_of_ble_eq_true rfl) (t_X6_read hw ha)
abbrev mu_X2_addTails : MD := (yX2_addTails, cX2_addTails, 6, none, 2)
theorem ok_X2_addTails : MOK mu_X2_addTails 3 := ⟨gw_413, gw_23, (by decide +kernel : plainFor yX2_addTails = true), ⟨(by decide +kernel : yX2_addTails.cls ≠ "java/lang/invoke/MethodHandle"), (by decide +kernel : yX2_addTails.cls ≠ "java/lang/invoke/VarHandle"), (by decide +kernel : (parseMethodDescriptor yX2_addTails.desc).map (fun d => d.parameters.length) = some 3)⟩, Nat.le_of_ble_eq_true rfl⟩
noncomputable def j_X2_addTails_41 (i3 : Int32) (σ6 : Mem) : Option ((Mem × Int32) ⊕ Mem) :=
  some (Sum.inl (σ6, i3 + 1))
noncomputable def l_X2_addTails_24 (i3 : Int32) (σ7 : Mem) (i8 : Int32) : Option ((Mem × Int32) ⊕ Mem) :=
  if i8 ≤ 0 then (some (Sum.inr σ7)) else ((f_X2_add σ7 i3).bind (fun (σ9 : Mem) => some (Sum.inl (σ9, i8 + (-1)))))
noncomputable def l_X2_addTails_5 (x0 : Nat) (x1 : Int32) (x2 : Int32) (σ2 : Mem) (i3 : Int32) : Option ((Mem × Int32) ⊕ Mem) :=
  gF σ2 x0 0 (fun (v4 : Int32) => if v4 ≤ i3 then (some (Sum.inr σ2)) else ((f_X6_read σ2 x0 x1 x2 i3).bind (fun (v5 : Int32) => (loopO (fun (z8 : (Mem × Int32)) => l_X2_addTails_24 i3 z8.1 z8.2) (σ2, v5) : Option Mem).bind (fun (z6 : Mem) => j_X2_addTails_41 i3 z6))))
noncomputable def f_X2_addTails (σ : Mem) (x0 : Nat) (x1 : Int32) (x2 : Int32) : Option Mem :=
  bd (x1 + 1) (fun (v1 : Int32) => loopO (fun (z3 : (Mem × Int32)) => l_X2_addTails_5 x0 x1 x2 z3.1 z3.2) (σ, v1))
theorem t_X2_addTails {w : Wd} (hw : WOK w) {σ : Mem} {x0 : Nat} {x1 : Int32} {x2 : Int32} (hx0 : isk w x0 6) : JO w mu_X2_addTails vV σ [(0, .ref (adr w 35)), (1, .ref (adr w x0)), (2, .int x1), (3, .int x2)] [] 0 (f_X2_addTails σ x0 x1 x2) (fun z => some ((), z)) := by
  unfold f_X2_addTails
  refine jo_iload_n (pc := 0) 2 rfl dX2_addTails_0 rfl ?_
  refine jo_iconst (pc := 1) dX2_addTails_1 (ic_i_1) ?_
  refine jo_iadd (pc := 2) dX2_addTails_2 ?_
  refine jo_bd ?_
  refine jo_istore (pc := 3) (lv' := [(4, .int (x1 + 1)), (0, .ref (adr w 35)), (1, .ref (adr w x0)), (2, .int x1), (3, .int x2)]) dX2_addTails_3 (ltb rfl) rfl ?_
  generalize (x1 + 1) = v1
  refine jo_lv (lv' := [(0, .ref (adr w 35)), (1, .ref (adr w x0)), (2, .int x1), (3, .int x2), (4, .int v1)]) [1, 2, 3, 4, 0] rfl ?_
  refine jo_loop (X := Mem) (fun (z3 : (Mem × Int32)) => z3.1) (fun (z3 : (Mem × Int32)) => [(0, .ref (adr w 35)), (1, .ref (adr w x0)), (2, .int x1), (3, .int x2), (4, .int z3.2)]) (body := (fun (z3 : (Mem × Int32)) => l_X2_addTails_5 x0 x1 x2 z3.1 z3.2)) (fun F5_3 hF5_3 s => ?_) (σ, v1)
  obtain ⟨σ2, i3⟩ := s
  show JO w mu_X2_addTails vV σ2 [(0, .ref (adr w 35)), (1, .ref (adr w x0)), (2, .int x1), (3, .int x2), (4, .int i3)] [] 5 (l_X2_addTails_5 x0 x1 x2 σ2 i3) _
  unfold l_X2_addTails_5
  refine jo_iload (pc := 5) 4 rfl dX2_addTails_5 ?_
  refine jo_aload_n (pc := 7) 1 rfl dX2_addTails_7 rfl ?_
  refine jo_getf (pc := 8) ok_6_0 (hx0) gw_62 dX2_addTails_8 (fun v4 => ?_)
  refine jo_icmp_ge (pc := 11) dX2_addTails_11 (tgt := 47) rfl ?_ ?_
  · exact jo_return (pc := 47) rfl rfl dX2_addTails_47
  · refine jo_aload_n (pc := 14) 1 rfl dX2_addTails_14 rfl ?_
    refine jo_iload_n (pc := 15) 2 rfl dX2_addTails_15 rfl ?_
    refine jo_iload_n (pc := 16) 3 rfl dX2_addTails_16 rfl ?_
    refine jo_iload (pc := 17) 4 rfl dX2_addTails_17 ?_
    refine jo_cV_I_p (pc := 19) (μ' := mu_X6_read) (fx := f_X6_read σ2 x0 x1 x2 i3) (As := [.int x1, .int x2, .int i3]) (c_X6_read hw (hx0)) (ok_X6_read) (ltb rfl) (all3 gw_414 gw_415 gw_416) (hx0) (by decide) (q := (RX6, TX6, 3)) rfl rfl rfl rfl (Nat.le_of_ble_eq_true rfl) dX2_addTails_19 (fun v5 => ?_)
    refine jo_istore (pc := 22) (lv' := [(5, .int v5), (0, .ref (adr w 35)), (1, .ref (adr w x0)), (2, .int x1), (3, .int x2), (4, .int i3)]) dX2_addTails_22 (ltb rfl) rfl ?_
    refine jo_join1 (S := Mem) (fun (z6 : Mem) => z6) (fun (z6 : Mem) => [(0, .ref (adr w 35)), (1, .ref (adr w x0)), (2, .int x1), (3, .int x2), (4, .int i3)]) (fun (z6 : Mem) => []) 41 ?_ (fun h41_6 => ?_)
    · intro σ6
      show JO w mu_X2_addTails vV σ6 [(0, .ref (adr w 35)), (1, .ref (adr w x0)), (2, .int x1), (3, .int x2), (4, .int i3)] [] 41 (j_X2_addTails_41 i3 σ6) _
      unfold j_X2_addTails_41
      refine jo_iinc (pc := 41) (lv' := [(4, .int (i3 + 1)), (0, .ref (adr w 35)), (1, .ref (adr w x0)), (2, .int x1), (3, .int x2)]) 4 rfl dX2_addTails_41 (congrArg (fun z => i3 + z) (ic_i_1)) (ltb rfl) rfl ?_
      refine jo_goto (pc := 44) dX2_addTails_44 (tgt := 5) rfl ?_
      refine jo_lv (lv' := [(0, .ref (adr w 35)), (1, .ref (adr w x0)), (2, .int x1), (3, .int x2), (4, .int (i3 + 1))]) [1, 2, 3, 4, 0] rfl ?_
      exact jo_leaf (by rfl) (hF5_3 (σ6, i3 + 1))
    · refine jo_lv (lv' := [(0, .ref (adr w 35)), (1, .ref (adr w x0)), (2, .int x1), (3, .int x2), (4, .int i3), (5, .int v5)]) [1, 2, 3, 4, 5, 0] rfl ?_
      refine jo_loop (X := Mem) (fun (z8 : (Mem × Int32)) => z8.1) (fun (z8 : (Mem × Int32)) => [(0, .ref (adr w 35)), (1, .ref (adr w x0)), (2, .int x1), (3, .int x2), (4, .int i3), (5, .int z8.2)]) (body := (fun (z8 : (Mem × Int32)) => l_X2_addTails_24 i3 z8.1 z8.2)) (fun F24_8 hF24_8 s => ?_) (σ2, v5)
      obtain ⟨σ7, i8⟩ := s
      show JO w mu_X2_addTails vV σ7 [(0, .ref (adr w 35)), (1, .ref (adr w x0)), (2, .int x1), (3, .int x2), (4, .int i3), (5, .int i8)] [] 24 (l_X2_addTails_24 i3 σ7 i8) _
      unfold l_X2_addTails_24
      refine jo_iload (pc := 24) 5 rfl dX2_addTails_24 ?_
      refine jo_if_le (pc := 26) dX2_addTails_26 (tgt := 41) rfl ?_ ?_
      · refine jo_lv (lv' := [(0, .ref (adr w 35)), (1, .ref (adr w x0)), (2, .int x1), (3, .int x2), (4, .int i3)]) [0, 1, 2, 3, 4] rfl ?_
        exact jo_leaf (by rfl) (h41_6 σ7)
      · refine jo_aload_n (pc := 29) 0 rfl dX2_addTails_29 rfl ?_
        refine jo_iload (pc := 30) 4 rfl dX2_addTails_30 ?_
        refine jo_cV_V_i (pc := 32) (μ' := mu_X2_add) (fx := f_X2_add σ7 i3) (As := [.int i3]) (c_X2_add hw) (ok_X2_add) (ltb rfl) (all3 gw_418 gw_407 gw_408) (ik_35 hw) (by decide) (q := (RX2, TX2, 7)) rfl rfl rfl rfl (Nat.le_of_ble_eq_true rfl) dX2_addTails_32 (fun σ9 => ?_)
        refine jo_iinc (pc := 35) (lv' := [(5, .int (i8 + (-1))), (0, .ref (adr w 35)), (1, .ref (adr w x0)), (2, .int x1), (3, .int x2), (4, .int i3)]) 5 rfl dX2_addTails_35 (congrArg (fun z => i8 + z) (ic_i_m1)) (ltb rfl) rfl ?_
        refine jo_goto (pc := 38) dX2_addTails_38 (tgt := 24) rfl ?_
        refine jo_lv (lv' := [(0, .ref (adr w 35)), (1, .ref (adr w x0)), (2, .int x1), (3, .int x2), (4, .int i3), (5, .int (i8 + (-1)))]) [1, 2, 3, 4, 5, 0] rfl ?_
        exact jo_leaf (by rfl) (hF24_8 (σ9, i8 + (-1)))
theorem c_X2_addTails {w : Wd} (hw : WOK w) {σ : Mem} {x0 : Nat} {x1 : Int32} {x2 : Int32} (hx0 : isk w x0 6) : ∀ σ', f_X2_addTails σ x0 x1 x2 = some σ' → MC w mu_X2_addTails none [.ref (adr w 35), .ref (adr w x0), .int x1, .int x2] σ σ' := mc_ofV ok_X2_addTails rfl (Nat.le_of_ble_eq_true rfl) (t_X2_addTails hw hx0)
abbrev mu_X2_putAhead : MD := (yX2_putAhead, cX2_putAhead, 2, none, 0)
theorem ok_X2_putAhead : MOK mu_X2_putAhead 1 := ⟨gw_426, gw_23, (by decide +kernel : plainFor yX2_putAhead = true), ⟨(by decide +kernel : yX2_putAhead.cls ≠ "java/lang/invoke/MethodHandle"), (by decide +kernel : yX2_putAhead.cls ≠ "java/lang/invoke/VarHandle"), (by decide +kernel : (parseMethodDescriptor yX2_putAhead.desc).map (fun d => d.parameters.length) = some 1)⟩, Nat.le_of_ble_eq_true rfl⟩
noncomputable def f_X2_putAhead (σ : Mem) (x0 : Int32) : Option Mem :=
  gF σ 35 5 (fun (v1 : Int32) => if 12076 ≤ v1 then (some σ) else (gF σ 35 5 (fun (v2 : Int32) => pI σ 38 v2 x0 (fun (σ3 : Mem) => gF σ3 35 5 (fun (v4 : Int32) => pF σ3 35 5 (v4 + 1) (fun (σ5 : Mem) => some σ5))))))
theorem t_X2_putAhead {w : Wd} (hw : WOK w) {σ : Mem} {x0 : Int32} : JO w mu_X2_putAhead vV σ [(0, .ref (adr w 35)), (1, .int x0)] [] 0 (f_X2_putAhead σ x0) (fun z => some ((), z)) := by
  unfold f_X2_putAhead
  refine jo_aload_n (pc := 0) 0 rfl dX2_putAhead_0 rfl ?_
  refine jo_getf (pc := 1) ok_2_5 (ik_35 hw) gw_104 dX2_putAhead_1 (fun v1 => ?_)
  refine jo_sipush (pc := 4) dX2_putAhead_4 (ic_s_12076) ?_
  refine jo_icmp_ge (pc := 7) dX2_putAhead_7 (tgt := 30) rfl ?_ ?_
  · exact jo_return (pc := 30) rfl rfl dX2_putAhead_30
  · refine jo_aload_n (pc := 10) 0 rfl dX2_putAhead_10 rfl ?_
    refine jo_getrE (pc := 11) ok_2_4 (ik_35 hw) rf_35_4 gw_103 dX2_putAhead_11 ?_
    refine jo_aload_n (pc := 14) 0 rfl dX2_putAhead_14 rfl ?_
    refine jo_getf (pc := 15) ok_2_5 (ik_35 hw) gw_104 dX2_putAhead_15 (fun v2 => ?_)
    refine jo_iload_n (pc := 18) 1 rfl dX2_putAhead_18 rfl ?_
    refine jo_iast (pc := 19) (ik_38 hw) dX2_putAhead_19 (fun σ3 => ?_)
    refine jo_aload_n (pc := 20) 0 rfl dX2_putAhead_20 rfl ?_
    refine jo_dup (pc := 21) dX2_putAhead_21 rfl ?_
    refine jo_getf (pc := 22) ok_2_5 (ik_35 hw) gw_104 dX2_putAhead_22 (fun v4 => ?_)
    refine jo_iconst (pc := 25) dX2_putAhead_25 (ic_i_1) ?_
    refine jo_iadd (pc := 26) dX2_putAhead_26 ?_
    refine jo_putf (pc := 27) ok_2_5 okp_2_5 (ik_35 hw) gw_104 dX2_putAhead_27 (fun σ5 => ?_)
    exact jo_return (pc := 30) rfl rfl dX2_putAhead_30
theorem c_X2_putAhead {w : Wd} (hw : WOK w) {σ : Mem} {x0 : Int32} : ∀ σ', f_X2_putAhead σ x0 = some σ' → MC w mu_X2_putAhead none [.ref (adr w 35), .int x0] σ σ' := mc_ofV ok_X2_putAhead rfl (Nat.le_of_ble_eq_true rfl) (t_X2_putAhead hw)
abbrev mu_X2_moveOn : MD := (yX2_moveOn, cX2_moveOn, 2, none, 0)
theorem ok_X2_moveOn : MOK mu_X2_moveOn 1 := ⟨gw_431, gw_23, (by decide +kernel : plainFor yX2_moveOn = true), ⟨(by decide +kernel : yX2_moveOn.cls ≠ "java/lang/invoke/MethodHandle"), (by decide +kernel : yX2_moveOn.cls ≠ "java/lang/invoke/VarHandle"), (by decide +kernel : (parseMethodDescriptor yX2_moveOn.desc).map (fun d => d.parameters.length) = some 1)⟩, Nat.le_of_ble_eq_true rfl⟩
noncomputable def f_X2_moveOn (σ : Mem) (x0 : Int32) : Option Mem :=
  gF σ 35 5 (fun (v1 : Int32) => pF σ 35 5 (v1 - 1) (fun (σ2 : Mem) => gF σ2 35 3 (fun (v3 : Int32) => if 12076 ≤ v3 then (some σ2) else (gF σ2 35 3 (fun (v4 : Int32) => pI σ2 37 v4 x0 (fun (σ5 : Mem) => gF σ5 35 3 (fun (v6 : Int32) => pF σ5 35 3 (v6 + 1) (fun (σ7 : Mem) => some σ7))))))))
theorem t_X2_moveOn {w : Wd} (hw : WOK w) {σ : Mem} {x0 : Int32} : JO w mu_X2_moveOn vV σ [(0, .ref (adr w 35)), (1, .int x0)] [] 0 (f_X2_moveOn σ x0) (fun z => some ((), z)) := by
  unfold f_X2_moveOn
  refine jo_aload_n (pc := 0) 0 rfl dX2_moveOn_0 rfl ?_
  refine jo_dup (pc := 1) dX2_moveOn_1 rfl ?_
  refine jo_getf (pc := 2) ok_2_5 (ik_35 hw) gw_104 dX2_moveOn_2 (fun v1 => ?_)
  refine jo_iconst (pc := 5) dX2_moveOn_5 (ic_i_1) ?_
  refine jo_isub (pc := 6) dX2_moveOn_6 ?_
  refine jo_putf (pc := 7) ok_2_5 okp_2_5 (ik_35 hw) gw_104 dX2_moveOn_7 (fun σ2 => ?_)
  refine jo_aload_n (pc := 10) 0 rfl dX2_moveOn_10 rfl ?_
  refine jo_getf (pc := 11) ok_2_3 (ik_35 hw) gw_102 dX2_moveOn_11 (fun v3 => ?_)
  refine jo_sipush (pc := 14) dX2_moveOn_14 (ic_s_12076) ?_
  refine jo_icmp_ge (pc := 17) dX2_moveOn_17 (tgt := 40) rfl ?_ ?_
  · exact jo_return (pc := 40) rfl rfl dX2_moveOn_40
  · refine jo_aload_n (pc := 20) 0 rfl dX2_moveOn_20 rfl ?_
    refine jo_getrE (pc := 21) ok_2_2 (ik_35 hw) rf_35_2 gw_101 dX2_moveOn_21 ?_
    refine jo_aload_n (pc := 24) 0 rfl dX2_moveOn_24 rfl ?_
    refine jo_getf (pc := 25) ok_2_3 (ik_35 hw) gw_102 dX2_moveOn_25 (fun v4 => ?_)
    refine jo_iload_n (pc := 28) 1 rfl dX2_moveOn_28 rfl ?_
    refine jo_iast (pc := 29) (ik_37 hw) dX2_moveOn_29 (fun σ5 => ?_)
    refine jo_aload_n (pc := 30) 0 rfl dX2_moveOn_30 rfl ?_
    refine jo_dup (pc := 31) dX2_moveOn_31 rfl ?_
    refine jo_getf (pc := 32) ok_2_3 (ik_35 hw) gw_102 dX2_moveOn_32 (fun v6 => ?_)
    refine jo_iconst (pc := 35) dX2_moveOn_35 (ic_i_1) ?_
    refine jo_iadd (pc := 36) dX2_moveOn_36 ?_
    refine jo_putf (pc := 37) ok_2_3 okp_2_3 (ik_35 hw) gw_102 dX2_moveOn_37 (fun σ7 => ?_)
    exact jo_return (pc := 40) rfl rfl dX2_moveOn_40
theorem c_X2_moveOn {w : Wd} (hw : WOK w) {σ : Mem} {x0 : Int32} : ∀ σ', f_X2_moveOn σ x0 = some σ' → MC w mu_X2_moveOn none [.ref (adr w 35), .int x0] σ σ' := mc_ofV ok_X2_moveOn rfl (Nat.le_of_ble_eq_true rfl) (t_X2_moveOn hw)
abbrev mu_X2_exchange : MD := (yX2_exchange, cX2_exchange, 6, none, 2)
theorem ok_X2_exchange : MOK mu_X2_exchange 3 := ⟨gw_435, gw_23, (by decide +kernel : plainFor yX2_exchange = true), ⟨(by decide +kernel : yX2_exchange.cls ≠ "java/lang/invoke/MethodHandle"), (by decide +kernel : yX2_exchange.cls ≠ "java/lang/invoke/VarHandle"), (by decide +kernel : (parseMethodDescriptor yX2_exchange.desc).map (fun d => d.parameters.length) = some 3)⟩, Nat.le_of_ble_eq_true rfl⟩
noncomputable def j_X2_exchange_67 (x1 : Int32) (x2 : Int32) (σ7 : Mem) : Option Mem :=
  (f_X2_putAhead σ7 x1).bind (fun (σ8 : Mem) => (f_X2_putAhead σ8 x2).bind (fun (σ9 : Mem) => some σ9))
noncomputable def j_X2_exchange_61 (i11 : Int32) (σ13 : Mem) : Option ((Mem × Int32) ⊕ Mem) :=
  some (Sum.inl (σ13, i11 + (-1)))
noncomputable def l_X2_exchange_44 (i11 : Int32) (σ14 : Mem) (i15 : Int32) : Option ((Mem × Int32) ⊕ Mem) :=
  if i15 ≤ 0 then (some (Sum.inr σ14)) else ((f_X2_putAhead σ14 i11).bind (fun (σ16 : Mem) => some (Sum.inl (σ16, i15 + (-1)))))
noncomputable def l_X2_exchange_28 (x0 : Nat) (x1 : Int32) (x2 : Int32) (σ10 : Mem) (i11 : Int32) : Option ((Mem × Int32) ⊕ Mem) :=
  if i11 ≤ x1 then (some (Sum.inr σ10)) else ((f_X6_read σ10 x0 x1 x2 i11).bind (fun (v12 : Int32) => (loopO (fun (z15 : (Mem × Int32)) => l_X2_exchange_44 i11 z15.1 z15.2) (σ10, v12) : Option Mem).bind (fun (z13 : Mem) => j_X2_exchange_61 i11 z13)))
noncomputable def f_X2_exchange (σ : Mem) (x0 : Nat) (x1 : Int32) (x2 : Int32) : Option Mem :=
  gF σ 35 3 (fun (v1 : Int32) => pF σ 35 3 (v1 - 1) (fun (σ2 : Mem) => gF σ2 35 5 (fun (v3 : Int32) => pF σ2 35 5 (v3 - 1) (fun (σ4 : Mem) => gF σ4 x0 0 (fun (v5 : Int32) => bd (v5 - 1) (fun (v6 : Int32) => (loopO (fun (z11 : (Mem × Int32)) => l_X2_exchange_28 x0 x1 x2 z11.1 z11.2) (σ4, v6) : Option Mem).bind (fun (z7 : Mem) => j_X2_exchange_67 x1 x2 z7)))))))
theorem t_X2_exchange {w : Wd} (hw : WOK w) {σ : Mem} {x0 : Nat} {x1 : Int32} {x2 : Int32} (hx0 : isk w x0 6) : JO w mu_X2_exchange vV σ [(0, .ref (adr w 35)), (1, .ref (adr w x0)), (2, .int x1), (3, .int x2)] [] 0 (f_X2_exchange σ x0 x1 x2) (fun z => some ((), z)) := by
  unfold f_X2_exchange
  refine jo_aload_n (pc := 0) 0 rfl dX2_exchange_0 rfl ?_
  refine jo_dup (pc := 1) dX2_exchange_1 rfl ?_
  refine jo_getf (pc := 2) ok_2_3 (ik_35 hw) gw_102 dX2_exchange_2 (fun v1 => ?_)
  refine jo_iconst (pc := 5) dX2_exchange_5 (ic_i_1) ?_
  refine jo_isub (pc := 6) dX2_exchange_6 ?_
  refine jo_putf (pc := 7) ok_2_3 okp_2_3 (ik_35 hw) gw_102 dX2_exchange_7 (fun σ2 => ?_)
  refine jo_aload_n (pc := 10) 0 rfl dX2_exchange_10 rfl ?_
  refine jo_dup (pc := 11) dX2_exchange_11 rfl ?_
  refine jo_getf (pc := 12) ok_2_5 (ik_35 hw) gw_104 dX2_exchange_12 (fun v3 => ?_)
  refine jo_iconst (pc := 15) dX2_exchange_15 (ic_i_1) ?_
  refine jo_isub (pc := 16) dX2_exchange_16 ?_
  refine jo_putf (pc := 17) ok_2_5 okp_2_5 (ik_35 hw) gw_104 dX2_exchange_17 (fun σ4 => ?_)
  refine jo_aload_n (pc := 20) 1 rfl dX2_exchange_20 rfl ?_
  refine jo_getf (pc := 21) ok_6_0 (hx0) gw_62 dX2_exchange_21 (fun v5 => ?_)
  refine jo_iconst (pc := 24) dX2_exchange_24 (ic_i_1) ?_
  refine jo_isub (pc := 25) dX2_exchange_25 ?_
  refine jo_bd ?_
  refine jo_istore (pc := 26) (lv' := [(4, .int (v5 - 1)), (0, .ref (adr w 35)), (1, .ref (adr w x0)), (2, .int x1), (3, .int x2)]) dX2_exchange_26 (ltb rfl) rfl ?_
  generalize (v5 - 1) = v6
  refine jo_join1 (S := Mem) (fun (z7 : Mem) => z7) (fun (z7 : Mem) => [(0, .ref (adr w 35)), (2, .int x1), (3, .int x2)]) (fun (z7 : Mem) => []) 67 ?_ (fun h67_7 => ?_)
  · intro σ7
    show JO w mu_X2_exchange vV σ7 [(0, .ref (adr w 35)), (2, .int x1), (3, .int x2)] [] 67 (j_X2_exchange_67 x1 x2 σ7) _
    unfold j_X2_exchange_67
    refine jo_aload_n (pc := 67) 0 rfl dX2_exchange_67 rfl ?_
    refine jo_iload_n (pc := 68) 1 rfl dX2_exchange_68 rfl ?_
    refine jo_cV_V_i (pc := 69) (μ' := mu_X2_putAhead) (fx := f_X2_putAhead σ7 x1) (As := [.int x1]) (c_X2_putAhead hw) (ok_X2_putAhead) (ltb rfl) (all3 gw_423 gw_425 gw_2) (ik_35 hw) (by decide) (q := (RX2, TX2, 7)) rfl rfl rfl rfl (Nat.le_of_ble_eq_true rfl) dX2_exchange_69 (fun σ8 => ?_)
    refine jo_aload_n (pc := 72) 0 rfl dX2_exchange_72 rfl ?_
    refine jo_iload_n (pc := 73) 2 rfl dX2_exchange_73 rfl ?_
    refine jo_cV_V_i (pc := 74) (μ' := mu_X2_putAhead) (fx := f_X2_putAhead σ8 x2) (As := [.int x2]) (c_X2_putAhead hw) (ok_X2_putAhead) (ltb rfl) (all3 gw_423 gw_425 gw_2) (ik_35 hw) (by decide) (q := (RX2, TX2, 7)) rfl rfl rfl rfl (Nat.le_of_ble_eq_true rfl) dX2_exchange_74 (fun σ9 => ?_)
    exact jo_return (pc := 77) rfl rfl dX2_exchange_77
  · refine jo_lv (lv' := [(0, .ref (adr w 35)), (1, .ref (adr w x0)), (2, .int x1), (3, .int x2), (4, .int v6)]) [1, 2, 3, 4, 0] rfl ?_
    refine jo_loop (X := Mem) (fun (z11 : (Mem × Int32)) => z11.1) (fun (z11 : (Mem × Int32)) => [(0, .ref (adr w 35)), (1, .ref (adr w x0)), (2, .int x1), (3, .int x2), (4, .int z11.2)]) (body := (fun (z11 : (Mem × Int32)) => l_X2_exchange_28 x0 x1 x2 z11.1 z11.2)) (fun F28_11 hF28_11 s => ?_) (σ4, v6)
    obtain ⟨σ10, i11⟩ := s
    show JO w mu_X2_exchange vV σ10 [(0, .ref (adr w 35)), (1, .ref (adr w x0)), (2, .int x1), (3, .int x2), (4, .int i11)] [] 28 (l_X2_exchange_28 x0 x1 x2 σ10 i11) _
    unfold l_X2_exchange_28
    refine jo_iload (pc := 28) 4 rfl dX2_exchange_28 ?_
    refine jo_iload_n (pc := 30) 2 rfl dX2_exchange_30 rfl ?_
    refine jo_icmp_le (pc := 31) dX2_exchange_31 (tgt := 67) rfl ?_ ?_
    · refine jo_lv (lv' := [(0, .ref (adr w 35)), (2, .int x1), (3, .int x2)]) [0, 2, 3] rfl ?_
      exact jo_leaf (by rfl) (h67_7 σ10)
    · refine jo_aload_n (pc := 34) 1 rfl dX2_exchange_34 rfl ?_
      refine jo_iload_n (pc := 35) 2 rfl dX2_exchange_35 rfl ?_
      refine jo_iload_n (pc := 36) 3 rfl dX2_exchange_36 rfl ?_
      refine jo_iload (pc := 37) 4 rfl dX2_exchange_37 ?_
      refine jo_cV_I_p (pc := 39) (μ' := mu_X6_read) (fx := f_X6_read σ10 x0 x1 x2 i11) (As := [.int x1, .int x2, .int i11]) (c_X6_read hw (hx0)) (ok_X6_read) (ltb rfl) (all3 gw_414 gw_415 gw_416) (hx0) (by decide) (q := (RX6, TX6, 3)) rfl rfl rfl rfl (Nat.le_of_ble_eq_true rfl) dX2_exchange_39 (fun v12 => ?_)
      refine jo_istore (pc := 42) (lv' := [(5, .int v12), (0, .ref (adr w 35)), (1, .ref (adr w x0)), (2, .int x1), (3, .int x2), (4, .int i11)]) dX2_exchange_42 (ltb rfl) rfl ?_
      refine jo_join1 (S := Mem) (fun (z13 : Mem) => z13) (fun (z13 : Mem) => [(0, .ref (adr w 35)), (1, .ref (adr w x0)), (2, .int x1), (3, .int x2), (4, .int i11)]) (fun (z13 : Mem) => []) 61 ?_ (fun h61_13 => ?_)
      · intro σ13
        show JO w mu_X2_exchange vV σ13 [(0, .ref (adr w 35)), (1, .ref (adr w x0)), (2, .int x1), (3, .int x2), (4, .int i11)] [] 61 (j_X2_exchange_61 i11 σ13) _
        unfold j_X2_exchange_61
        refine jo_iinc (pc := 61) (lv' := [(4, .int (i11 + (-1))), (0, .ref (adr w 35)), (1, .ref (adr w x0)), (2, .int x1), (3, .int x2)]) 4 rfl dX2_exchange_61 (congrArg (fun z => i11 + z) (ic_i_m1)) (ltb rfl) rfl ?_
        refine jo_goto (pc := 64) dX2_exchange_64 (tgt := 28) rfl ?_
        refine jo_lv (lv' := [(0, .ref (adr w 35)), (1, .ref (adr w x0)), (2, .int x1), (3, .int x2), (4, .int (i11 + (-1)))]) [1, 2, 3, 4, 0] rfl ?_
        exact jo_leaf (by rfl) (hF28_11 (σ13, i11 + (-1)))
      · refine jo_lv (lv' := [(0, .ref (adr w 35)), (1, .ref (adr w x0)), (2, .int x1), (3, .int x2), (4, .int i11), (5, .int v12)]) [1, 2, 3, 4, 5, 0] rfl ?_
        refine jo_loop (X := Mem) (fun (z15 : (Mem × Int32)) => z15.1) (fun (z15 : (Mem × Int32)) => [(0, .ref (adr w 35)), (1, .ref (adr w x0)), (2, .int x1), (3, .int x2), (4, .int i11), (5, .int z15.2)]) (body := (fun (z15 : (Mem × Int32)) => l_X2_exchange_44 i11 z15.1 z15.2)) (fun F44_15 hF44_15 s => ?_) (σ10, v12)
        obtain ⟨σ14, i15⟩ := s
        show JO w mu_X2_exchange vV σ14 [(0, .ref (adr w 35)), (1, .ref (adr w x0)), (2, .int x1), (3, .int x2), (4, .int i11), (5, .int i15)] [] 44 (l_X2_exchange_44 i11 σ14 i15) _
        unfold l_X2_exchange_44
        refine jo_iload (pc := 44) 5 rfl dX2_exchange_44 ?_
        refine jo_if_le (pc := 46) dX2_exchange_46 (tgt := 61) rfl ?_ ?_
        · refine jo_lv (lv' := [(0, .ref (adr w 35)), (1, .ref (adr w x0)), (2, .int x1), (3, .int x2), (4, .int i11)]) [0, 1, 2, 3, 4] rfl ?_
          exact jo_leaf (by rfl) (h61_13 σ14)
        · refine jo_aload_n (pc := 49) 0 rfl dX2_exchange_49 rfl ?_
          refine jo_iload (pc := 50) 4 rfl dX2_exchange_50 ?_
          refine jo_cV_V_i (pc := 52) (μ' := mu_X2_putAhead) (fx := f_X2_putAhead σ14 i11) (As := [.int i11]) (c_X2_putAhead hw) (ok_X2_putAhead) (ltb rfl) (all3 gw_423 gw_425 gw_2) (ik_35 hw) (by decide) (q := (RX2, TX2, 7)) rfl rfl rfl rfl (Nat.le_of_ble_eq_true rfl) dX2_exchange_52 (fun σ16 => ?_)
          refine jo_iinc (pc := 55) (lv' := [(5, .int (i15 + (-1))), (0, .ref (adr w 35)), (1, .ref (adr w x0)), (2, .int x1), (3, .int x2), (4, .int i11)]) 5 rfl dX2_exchange_55 (congrArg (fun z => i15 + z) (ic_i_m1)) (ltb rfl) rfl ?_
          refine jo_goto (pc := 58) dX2_exchange_58 (tgt := 44) rfl ?_
          refine jo_lv (lv' := [(0, .ref (adr w 35)), (1, .ref (adr w x0)), (2, .int x1), (3, .int x2), (4, .int i11), (5, .int (i15 + (-1)))]) [1, 2, 3, 4, 5, 0] rfl ?_
          exact jo_leaf (by rfl) (hF44_15 (σ16, i15 + (-1)))
theorem c_X2_exchange {w : Wd} (hw : WOK w) {σ : Mem} {x0 : Nat} {x1 : Int32} {x2 : Int32} (hx0 : isk w x0 6) : ∀ σ', f_X2_exchange σ x0 x1 x2 = some σ' → MC w mu_X2_exchange none [.ref (adr w 35), .ref (adr w x0), .int x1, .int x2] σ σ' := mc_ofV ok_X2_exchange rfl (Nat.le_of_ble_eq_true rfl) (t_X2_exchange hw hx0)
abbrev mu_J7_fill_53178 : MD := (yJ7_fill_53178, cJ7_fill_53178, 4, none, 0)
theorem ok_J7_fill_53178 : MOK mu_J7_fill_53178 2 := ⟨gw_368, gw_31, (by decide +kernel : plainFor yJ7_fill_53178 = true), ⟨(by decide +kernel : yJ7_fill_53178.cls ≠ "java/lang/invoke/MethodHandle"), (by decide +kernel : yJ7_fill_53178.cls ≠ "java/lang/invoke/VarHandle"), (by decide +kernel : (parseMethodDescriptor yJ7_fill_53178.desc).map (fun d => d.parameters.length) = some 2)⟩, Nat.le_of_ble_eq_true rfl⟩
noncomputable def l_J7_fill_53178_5 (x0 : Nat) (x1 : Int32) (v1 : Int32) (σ2 : Mem) (i3 : Int32) : Option ((Mem × Int32) ⊕ Mem) :=
  if v1 ≤ i3 then (some (Sum.inr σ2)) else (pI σ2 x0 i3 x1 (fun (σ4 : Mem) => some (Sum.inl (σ4, i3 + 1))))
noncomputable def f_J7_fill_53178 (σ : Mem) (x0 : Nat) (x1 : Int32) : Option Mem :=
  bd (Int32.ofNat (ln x0)) (fun (v1 : Int32) => loopO (fun (z3 : (Mem × Int32)) => l_J7_fill_53178_5 x0 x1 v1 z3.1 z3.2) (σ, 0))
theorem t_J7_fill_53178 {w : Wd} (hw : WOK w) {σ : Mem} {x0 : Nat} {x1 : Int32} (hx0 : isk w x0 12) : JO w mu_J7_fill_53178 vV σ [(0, .ref (adr w x0)), (1, .int x1)] [] 0 (f_J7_fill_53178 σ x0 x1) (fun z => some ((), z)) := by
  unfold f_J7_fill_53178
  refine jo_iconst (pc := 0) dJ7_fill_53178_0 (ic_i_0) ?_
  refine jo_istore_n (pc := 1) (lv' := [(2, .int 0), (0, .ref (adr w x0)), (1, .int x1)]) dJ7_fill_53178_1 rfl (ltb rfl) rfl ?_
  refine jo_aload_n (pc := 2) 1 rfl dJ7_fill_53178_2 rfl ?_
  refine jo_alenI (pc := 3) (hx0) (by decide) (t := 0) rfl dJ7_fill_53178_3 ?_
  refine jo_bd ?_
  refine jo_istore_n (pc := 4) (lv' := [(3, .int (Int32.ofNat (ln x0))), (2, .int 0), (0, .ref (adr w x0)), (1, .int x1)]) dJ7_fill_53178_4 rfl (ltb rfl) rfl ?_
  generalize (Int32.ofNat (ln x0)) = v1
  refine jo_lv (lv' := [(3, .int v1), (0, .ref (adr w x0)), (1, .int x1), (2, .int 0)]) [0, 2, 3, 1] rfl ?_
  refine jo_loop (X := Mem) (fun (z3 : (Mem × Int32)) => z3.1) (fun (z3 : (Mem × Int32)) => [(3, .int v1), (0, .ref (adr w x0)), (1, .int x1), (2, .int z3.2)]) (body := (fun (z3 : (Mem × Int32)) => l_J7_fill_53178_5 x0 x1 v1 z3.1 z3.2)) (fun F5_3 hF5_3 s => ?_) (σ, 0)
  obtain ⟨σ2, i3⟩ := s
  show JO w mu_J7_fill_53178 vV σ2 [(3, .int v1), (0, .ref (adr w x0)), (1, .int x1), (2, .int i3)] [] 5 (l_J7_fill_53178_5 x0 x1 v1 σ2 i3) _
  unfold l_J7_fill_53178_5
  refine jo_iload_n (pc := 5) 3 rfl dJ7_fill_53178_5 rfl ?_
  refine jo_iload_n (pc := 6) 0 rfl dJ7_fill_53178_6 rfl ?_
  refine jo_icmp_ge (pc := 7) dJ7_fill_53178_7 (tgt := 20) rfl ?_ ?_
  · exact jo_return (pc := 20) rfl rfl dJ7_fill_53178_20
  · refine jo_aload_n (pc := 10) 1 rfl dJ7_fill_53178_10 rfl ?_
    refine jo_iload_n (pc := 11) 3 rfl dJ7_fill_53178_11 rfl ?_
    refine jo_iload_n (pc := 12) 2 rfl dJ7_fill_53178_12 rfl ?_
    refine jo_iast (pc := 13) (hx0) dJ7_fill_53178_13 (fun σ4 => ?_)
    refine jo_iinc (pc := 14) (lv' := [(2, .int (i3 + 1)), (3, .int v1), (0, .ref (adr w x0)), (1, .int x1)]) 3 rfl dJ7_fill_53178_14 (congrArg (fun z => i3 + z) (ic_i_1)) (ltb rfl) rfl ?_
    refine jo_goto (pc := 17) dJ7_fill_53178_17 (tgt := 5) rfl ?_
    refine jo_lv (lv' := [(3, .int v1), (0, .ref (adr w x0)), (1, .int x1), (2, .int (i3 + 1))]) [1, 2, 3, 0] rfl ?_
    exact jo_leaf (by rfl) (hF5_3 (σ4, i3 + 1))
theorem c_J7_fill_53178 {w : Wd} (hw : WOK w) {σ : Mem} {x0 : Nat} {x1 : Int32} (hx0 : isk w x0 12) : ∀ σ', f_J7_fill_53178 σ x0 x1 = some σ' → MC w mu_J7_fill_53178 none [.ref (adr w x0), .int x1] σ σ' := mc_ofV ok_J7_fill_53178 rfl (Nat.le_of_ble_eq_true rfl) (t_J7_fill_53178 hw hx0)
abbrev mu_X2_countLetters : MD := (yX2_countLetters, cX2_countLetters, 2, none, 1)
theorem ok_X2_countLetters : MOK mu_X2_countLetters 0 := ⟨gw_439, gw_23, (by decide +kernel : plainFor yX2_countLetters = true), ⟨(by decide +kernel : yX2_countLetters.cls ≠ "java/lang/invoke/MethodHandle"), (by decide +kernel : yX2_countLetters.cls ≠ "java/lang/invoke/VarHandle"), (by decide +kernel : (parseMethodDescriptor yX2_countLetters.desc).map (fun d => d.parameters.length) = some 0)⟩, Nat.le_of_ble_eq_true rfl⟩
noncomputable def l_X2_countLetters_10 (σ2 : Mem) (i3 : Int32) : Option ((Mem × Int32) ⊕ Mem) :=
  gF σ2 35 3 (fun (v4 : Int32) => if v4 ≤ i3 then (some (Sum.inr σ2)) else (gI σ2 37 i3 (fun (v5 : Int32) => gI σ2 39 v5 (fun (v6 : Int32) => pI σ2 39 v5 (v6 + 1) (fun (σ7 : Mem) => some (Sum.inl (σ7, i3 + 1)))))))
noncomputable def f_X2_countLetters (σ : Mem) : Option Mem :=
  (f_J7_fill_53178 σ 39 0).bind (fun (σ1 : Mem) => loopO (fun (z3 : (Mem × Int32)) => l_X2_countLetters_10 z3.1 z3.2) (σ1, 0))
theorem t_X2_countLetters {w : Wd} (hw : WOK w) {σ : Mem} : JO w mu_X2_countLetters vV σ [(0, .ref (adr w 35))] [] 0 (f_X2_countLetters σ) (fun z => some ((), z)) := by
  unfold f_X2_countLetters
  refine jo_aload_n (pc := 0) 0 rfl dX2_countLetters_0 rfl ?_
  refine jo_getrE (pc := 1) ok_2_6 (ik_35 hw) rf_35_6 gw_105 dX2_countLetters_1 ?_
  refine jo_iconst (pc := 4) dX2_countLetters_4 (ic_i_0) ?_
  refine jo_cS_V_i (pc := 5) (μ' := mu_J7_fill_53178) (fx := f_J7_fill_53178 σ 39 0) (As := [.ref (adr w 39), .int 0]) (c_J7_fill_53178 hw (ik_39 hw)) (ok_J7_fill_53178) (ltb rfl) (all2 gw_440 gw_367) rfl rfl (Nat.le_of_ble_eq_true rfl) dX2_countLetters_5 (fun σ1 => ?_)
  refine jo_iconst (pc := 8) dX2_countLetters_8 (ic_i_0) ?_
  refine jo_istore_n (pc := 9) (lv' := [(1, .int 0), (0, .ref (adr w 35))]) dX2_countLetters_9 rfl (ltb rfl) rfl ?_
  refine jo_lv (lv' := [(0, .ref (adr w 35)), (1, .int 0)]) [1, 0] rfl ?_
  refine jo_loop (X := Mem) (fun (z3 : (Mem × Int32)) => z3.1) (fun (z3 : (Mem × Int32)) => [(0, .ref (adr w 35)), (1, .int z3.2)]) (body := (fun (z3 : (Mem × Int32)) => l_X2_countLetters_10 z3.1 z3.2)) (fun F10_3 hF10_3 s => ?_) (σ1, 0)
  obtain ⟨σ2, i3⟩ := s
  show JO w mu_X2_countLetters vV σ2 [(0, .ref (adr w 35)), (1, .int i3)] [] 10 (l_X2_countLetters_10 σ2 i3) _
  unfold l_X2_countLetters_10
  refine jo_iload_n (pc := 10) 1 rfl dX2_countLetters_10 rfl ?_
  refine jo_aload_n (pc := 11) 0 rfl dX2_countLetters_11 rfl ?_
  refine jo_getf (pc := 12) ok_2_3 (ik_35 hw) gw_102 dX2_countLetters_12 (fun v4 => ?_)
  refine jo_icmp_ge (pc := 15) dX2_countLetters_15 (tgt := 39) rfl ?_ ?_
  · exact jo_return (pc := 39) rfl rfl dX2_countLetters_39
  · refine jo_aload_n (pc := 18) 0 rfl dX2_countLetters_18 rfl ?_
    refine jo_getrE (pc := 19) ok_2_6 (ik_35 hw) rf_35_6 gw_105 dX2_countLetters_19 ?_
    refine jo_aload_n (pc := 22) 0 rfl dX2_countLetters_22 rfl ?_
    refine jo_getrE (pc := 23) ok_2_2 (ik_35 hw) rf_35_2 gw_101 dX2_countLetters_23 ?_
    refine jo_iload_n (pc := 26) 1 rfl dX2_countLetters_26 rfl ?_
    refine jo_iald (pc := 27) (ik_37 hw) dX2_countLetters_27 (fun v5 => ?_)
    refine jo_dup2 (pc := 28) dX2_countLetters_28 rfl rfl ?_
    refine jo_iald (pc := 29) (ik_39 hw) dX2_countLetters_29 (fun v6 => ?_)
    refine jo_iconst (pc := 30) dX2_countLetters_30 (ic_i_1) ?_
    refine jo_iadd (pc := 31) dX2_countLetters_31 ?_
    refine jo_iast (pc := 32) (ik_39 hw) dX2_countLetters_32 (fun σ7 => ?_)
    refine jo_iinc (pc := 33) (lv' := [(1, .int (i3 + 1)), (0, .ref (adr w 35))]) 1 rfl dX2_countLetters_33 (congrArg (fun z => i3 + z) (ic_i_1)) (ltb rfl) rfl ?_
    refine jo_goto (pc := 36) dX2_countLetters_36 (tgt := 10) rfl ?_
    refine jo_lv (lv' := [(0, .ref (adr w 35)), (1, .int (i3 + 1))]) [1, 0] rfl ?_
    exact jo_leaf (by rfl) (hF10_3 (σ7, i3 + 1))
theorem c_X2_countLetters {w : Wd} (hw : WOK w) {σ : Mem} : ∀ σ', f_X2_countLetters σ = some σ' → MC w mu_X2_countLetters none [.ref (adr w 35)] σ σ' := mc_ofV ok_X2_countLetters rfl (Nat.le_of_ble_eq_true rfl) (t_X2_countLetters hw)
abbrev mu_X2_run : MD := (yX2_run, cX2_run, 6, some .int, 3)
theorem ok_X2_run : MOK mu_X2_run 2 := ⟨gw_422, gw_23, (by decide +kernel : plainFor yX2_run = true), ⟨(by decide +kernel : yX2_run.cls ≠ "java/lang/invoke/MethodHandle"), (by decide +kernel : yX2_run.cls ≠ "java/lang/invoke/VarHandle"), (by decide +kernel : (parseMethodDescriptor yX2_run.desc).map (fun d => d.parameters.length) = some 2)⟩, Nat.le_of_ble_eq_true rfl⟩
noncomputable def j_X2_run_135 (σ6 : Mem) (i7 : Int32) : Option (Int32 × Mem) :=
  (f_X2_countLetters σ6).bind (fun (σ8 : Mem) => some (i7, σ8))
noncomputable def j_X2_run_129 (i11 : Int32) (σ16 : Mem) (i17 : Int32) : Option ((Mem × Int32 × Int32) ⊕ ((Mem × Int32) ⊕ (Int32 × Mem))) :=
  some (Sum.inl (σ16, i17, i11 + 1))
noncomputable def j_X2_run_92 (σ9 : Mem) (i10 : Int32) (v14 : Int32) : Option ((Mem × Int32) ⊕ ((Mem × Int32 × Int32) ⊕ ((Mem × Int32) ⊕ (Int32 × Mem)))) :=
  (f_X2_moveOn σ9 v14).bind (fun (σ18 : Mem) => some (Sum.inl (σ18, i10)))
noncomputable def l_X2_run_42 (x0 : Nat) (x1 : Int32) (σ9 : Mem) (i10 : Int32) (i11 : Int32) : Option ((Mem × Int32 × Int32) ⊕ ((Mem × Int32) ⊕ (Int32 × Mem))) :=
  if 1000000 ≤ i11 then (some (Sum.inr (Sum.inl (σ9, i10)))) else (gF σ9 35 5 (fun (v12 : Int32) => if v12 ≤ 0 then (some (Sum.inr (Sum.inl (σ9, i10)))) else (gF σ9 35 5 (fun (v13 : Int32) => gI σ9 38 (v13 - 1) (fun (v14 : Int32) => gF σ9 35 3 (fun (v15 : Int32) => ((if v15 = 0 then (some (Sum.inl ())) else (gF σ9 35 3 (fun (v19 : Int32) => gI σ9 37 (v19 - 1) (fun (v20 : Int32) => if v14 < v20 then (if i10 = x1 then (some (Sum.inr (Sum.inr (Sum.inr (Sum.inr ((-1), σ9)))))) else (gF σ9 35 3 (fun (v21 : Int32) => gI σ9 37 (v21 - 1) (fun (v22 : Int32) => (f_X2_exchange σ9 x0 v22 v14).bind (fun (σ23 : Mem) => some (Sum.inr (Sum.inl (σ23, i10 + 1)))))))) else (some (Sum.inl ()))))) : Option (Unit ⊕ ((Mem × Int32) ⊕ ((Mem × Int32 × Int32) ⊕ ((Mem × Int32) ⊕ (Int32 × Mem)))))).bind (Sum.elim (fun (z17 : Unit) => j_X2_run_92 σ9 i10 v14) some) : Option ((Mem × Int32) ⊕ ((Mem × Int32 × Int32) ⊕ ((Mem × Int32) ⊕ (Int32 × Mem))))).bind (Sum.elim (fun (z17 : (Mem × Int32)) => j_X2_run_129 i11 z17.1 z17.2) some)))))))
noncomputable def j_X2_run_37 (x0 : Nat) (x1 : Int32) (σ5 : Mem) : Option (Int32 × Mem) :=
  (loopO (fun (z11 : (Mem × Int32 × Int32)) => l_X2_run_42 x0 x1 z11.1 z11.2.1 z11.2.2) (σ5, 0, 0) : Option ((Mem × Int32) ⊕ (Int32 × Mem))).bind (Sum.elim (fun (z7 : (Mem × Int32)) => j_X2_run_135 z7.1 z7.2) some)
noncomputable def l_X2_run_17 (σ24 : Mem) (i25 : Int32) : Option ((Mem × Int32) ⊕ Mem) :=
  if i25 < 0 then (some (Sum.inr σ24)) else (gI σ24 36 i25 (fun (v26 : Int32) => (f_X2_putAhead σ24 v26).bind (fun (σ27 : Mem) => some (Sum.inl (σ27, i25 + (-1))))))
noncomputable def f_X2_run (σ : Mem) (x0 : Nat) (x1 : Int32) : Option (Int32 × Mem) :=
  pF σ 35 3 0 (fun (σ1 : Mem) => pF σ1 35 5 0 (fun (σ2 : Mem) => gF σ2 35 1 (fun (v3 : Int32) => bd (v3 - 1) (fun (v4 : Int32) => (loopO (fun (z25 : (Mem × Int32)) => l_X2_run_17 z25.1 z25.2) (σ2, v4) : Option Mem).bind (fun (z5 : Mem) => j_X2_run_37 x0 x1 z5)))))
theorem t_X2_run {w : Wd} (hw : WOK w) {σ : Mem} {x0 : Nat} {x1 : Int32} (hx0 : isk w x0 6) : JO w mu_X2_run vI σ [(0, .ref (adr w 35)), (1, .ref (adr w x0)), (2, .int x1)] [] 0 (f_X2_run σ x0 x1) some := by
  unfold f_X2_run
  refine jo_aload_n (pc := 0) 0 rfl dX2_run_0 rfl ?_
  refine jo_iconst (pc := 1) dX2_run_1 (ic_i_0) ?_
  refine jo_putf (pc := 2) ok_2_3 okp_2_3 (ik_35 hw) gw_102 dX2_run_2 (fun σ1 => ?_)
  refine jo_aload_n (pc := 5) 0 rfl dX2_run_5 rfl ?_
  refine jo_iconst (pc := 6) dX2_run_6 (ic_i_0) ?_
  refine jo_putf (pc := 7) ok_2_5 okp_2_5 (ik_35 hw) gw_104 dX2_run_7 (fun σ2 => ?_)
  refine jo_aload_n (pc := 10) 0 rfl dX2_run_10 rfl ?_
  refine jo_getf (pc := 11) ok_2_1 (ik_35 hw) gw_100 dX2_run_11 (fun v3 => ?_)
  refine jo_iconst (pc := 14) dX2_run_14 (ic_i_1) ?_
  refine jo_isub (pc := 15) dX2_run_15 ?_
  refine jo_bd ?_
  refine jo_istore_n (pc := 16) (lv' := [(3, .int (v3 - 1)), (0, .ref (adr w 35)), (1, .ref (adr w x0)), (2, .int x1)]) dX2_run_16 rfl (ltb rfl) rfl ?_
  generalize (v3 - 1) = v4
  refine jo_join1 (S := Mem) (fun (z5 : Mem) => z5) (fun (z5 : Mem) => [(0, .ref (adr w 35)), (1, .ref (adr w x0)), (2, .int x1)]) (fun (z5 : Mem) => []) 37 ?_ (fun h37_5 => ?_)
  · intro σ5
    show JO w mu_X2_run vI σ5 [(0, .ref (adr w 35)), (1, .ref (adr w x0)), (2, .int x1)] [] 37 (j_X2_run_37 x0 x1 σ5) _
    unfold j_X2_run_37
    refine jo_iconst (pc := 37) dX2_run_37 (ic_i_0) ?_
    refine jo_istore_n (pc := 38) (lv' := [(3, .int 0), (0, .ref (adr w 35)), (1, .ref (adr w x0)), (2, .int x1)]) dX2_run_38 rfl (ltb rfl) rfl ?_
    refine jo_iconst (pc := 39) dX2_run_39 (ic_i_0) ?_
    refine jo_istore (pc := 40) (lv' := [(4, .int 0), (3, .int 0), (0, .ref (adr w 35)), (1, .ref (adr w x0)), (2, .int x1)]) dX2_run_40 (ltb rfl) rfl ?_
    refine jo_joinS (S := (Mem × Int32)) (fun (z7 : (Mem × Int32)) => z7.1) (fun (z7 : (Mem × Int32)) => [(0, .ref (adr w 35)), (3, .int z7.2)]) (fun (z7 : (Mem × Int32)) => []) 135 ?_ (fun h135_7 => ?_)
    · intro s
      obtain ⟨σ6, i7⟩ := s
      show JO w mu_X2_run vI σ6 [(0, .ref (adr w 35)), (3, .int i7)] [] 135 (j_X2_run_135 σ6 i7) _
      unfold j_X2_run_135
      refine jo_aload_n (pc := 135) 0 rfl dX2_run_135 rfl ?_
      refine jo_cV_V_i (pc := 136) (μ' := mu_X2_countLetters) (fx := f_X2_countLetters σ6) (As := []) (c_X2_countLetters hw) (ok_X2_countLetters) (ltb rfl) (all3 gw_436 gw_438 gw_5) (ik_35 hw) (by decide) (q := (RX2, TX2, 7)) rfl rfl rfl rfl (Nat.le_of_ble_eq_true rfl) dX2_run_136 (fun σ8 => ?_)
      refine jo_iload_n (pc := 139) 1 rfl dX2_run_139 rfl ?_
      exact jo_ireturn (pc := 140) rfl rfl dX2_run_140
    · refine jo_lv (lv' := [(0, .ref (adr w 35)), (1, .ref (adr w x0)), (2, .int x1), (3, .int 0), (4, .int 0)]) [2, 3, 4, 1, 0] rfl ?_
      refine jo_loop (X := (Mem × Int32) ⊕ (Int32 × Mem)) (fun (z11 : (Mem × Int32 × Int32)) => z11.1) (fun (z11 : (Mem × Int32 × Int32)) => [(0, .ref (adr w 35)), (1, .ref (adr w x0)), (2, .int x1), (3, .int z11.2.1), (4, .int z11.2.2)]) (body := (fun (z11 : (Mem × Int32 × Int32)) => l_X2_run_42 x0 x1 z11.1 z11.2.1 z11.2.2)) (fun F42_11 hF42_11 s => ?_) (σ5, 0, 0)
      obtain ⟨σ9, i10, i11⟩ := s
      show JO w mu_X2_run vI σ9 [(0, .ref (adr w 35)), (1, .ref (adr w x0)), (2, .int x1), (3, .int i10), (4, .int i11)] [] 42 (l_X2_run_42 x0 x1 σ9 i10 i11) _
      unfold l_X2_run_42
      refine jo_iload (pc := 42) 4 rfl dX2_run_42 ?_
      refine jo_ldc (pc := 44) dX2_run_44 gw_427 ?_
      refine jo_icmp_ge (pc := 46) dX2_run_46 (tgt := 135) rfl ?_ ?_
      · refine jo_lv (lv' := [(0, .ref (adr w 35)), (3, .int i10)]) [0, 3] rfl ?_
        exact jo_leaf (by rfl) (h135_7 (σ9, i10))
      · refine jo_aload_n (pc := 49) 0 rfl dX2_run_49 rfl ?_
        refine jo_getf (pc := 50) ok_2_5 (ik_35 hw) gw_104 dX2_run_50 (fun v12 => ?_)
        refine jo_if_le (pc := 53) dX2_run_53 (tgt := 135) rfl ?_ ?_
        · refine jo_lv (lv' := [(0, .ref (adr w 35)), (3, .int i10)]) [0, 3] rfl ?_
          exact jo_leaf (by rfl) (h135_7 (σ9, i10))
        · refine jo_aload_n (pc := 56) 0 rfl dX2_run_56 rfl ?_
          refine jo_getrE (pc := 57) ok_2_4 (ik_35 hw) rf_35_4 gw_103 dX2_run_57 ?_
          refine jo_aload_n (pc := 60) 0 rfl dX2_run_60 rfl ?_
          refine jo_getf (pc := 61) ok_2_5 (ik_35 hw) gw_104 dX2_run_61 (fun v13 => ?_)
          refine jo_iconst (pc := 64) dX2_run_64 (ic_i_1) ?_
          refine jo_isub (pc := 65) dX2_run_65 ?_
          refine jo_iald (pc := 66) (ik_38 hw) dX2_run_66 (fun v14 => ?_)
          refine jo_istore (pc := 67) (lv' := [(5, .int v14), (0, .ref (adr w 35)), (1, .ref (adr w x0)), (2, .int x1), (3, .int i10), (4, .int i11)]) dX2_run_67 (ltb rfl) rfl ?_
          refine jo_aload_n (pc := 69) 1 rfl dX2_run_69 rfl ?_
          refine jo_getf (pc := 70) ok_2_3 (ik_35 hw) gw_102 dX2_run_70 (fun v15 => ?_)
          refine jo_joinS (S := (Mem × Int32)) (fun (z17 : (Mem × Int32)) => z17.1) (fun (z17 : (Mem × Int32)) => [(0, .ref (adr w 35)), (1, .ref (adr w x0)), (2, .int x1), (4, .int i11), (3, .int z17.2)]) (fun (z17 : (Mem × Int32)) => []) 129 ?_ (fun h129_17 => ?_)
          · intro s
            obtain ⟨σ16, i17⟩ := s
            show JO w mu_X2_run vI σ16 [(0, .ref (adr w 35)), (1, .ref (adr w x0)), (2, .int x1), (4, .int i11), (3, .int i17)] [] 129 (j_X2_run_129 i11 σ16 i17) _
            unfold j_X2_run_129
            refine jo_iinc (pc := 129) (lv' := [(4, .int (i11 + 1)), (0, .ref (adr w 35)), (1, .ref (adr w x0)), (2, .int x1), (3, .int i17)]) 3 rfl dX2_run_129 (congrArg (fun z => i11 + z) (ic_i_1)) (ltb rfl) rfl ?_
            refine jo_goto (pc := 132) dX2_run_132 (tgt := 42) rfl ?_
            refine jo_lv (lv' := [(0, .ref (adr w 35)), (1, .ref (adr w x0)), (2, .int x1), (3, .int i17), (4, .int (i11 + 1))]) [1, 2, 3, 4, 0] rfl ?_
            exact jo_leaf (by rfl) (hF42_11 (σ16, i17, i11 + 1))
          · refine jo_joinS (S := Unit) (fun (z17 : Unit) => σ9) (fun (z17 : Unit) => [(5, .int v14), (0, .ref (adr w 35)), (1, .ref (adr w x0)), (2, .int x1), (3, .int i10), (4, .int i11)]) (fun (z17 : Unit) => []) 92 ?_ (fun h92_17 => ?_)
            · intro _
              show JO w mu_X2_run vI σ9 [(5, .int v14), (0, .ref (adr w 35)), (1, .ref (adr w x0)), (2, .int x1), (3, .int i10), (4, .int i11)] [] 92 (j_X2_run_92 σ9 i10 v14) _
              unfold j_X2_run_92
              refine jo_aload_n (pc := 92) 1 rfl dX2_run_92 rfl ?_
              refine jo_iload (pc := 93) 0 rfl dX2_run_93 ?_
              refine jo_cV_V_i (pc := 95) (μ' := mu_X2_moveOn) (fx := f_X2_moveOn σ9 v14) (As := [.int v14]) (c_X2_moveOn hw) (ok_X2_moveOn) (ltb rfl) (all3 gw_428 gw_430 gw_3) (ik_35 hw) (by decide) (q := (RX2, TX2, 7)) rfl rfl rfl rfl (Nat.le_of_ble_eq_true rfl) dX2_run_95 (fun σ18 => ?_)
              refine jo_goto (pc := 98) dX2_run_98 (tgt := 129) rfl ?_
              refine jo_lv (lv' := [(0, .ref (adr w 35)), (1, .ref (adr w x0)), (2, .int x1), (4, .int i11), (3, .int i10)]) [1, 2, 3, 5, 4] rfl ?_
              exact jo_leaf (by rfl) (h129_17 (σ18, i10))
            · refine jo_if_eq (pc := 73) dX2_run_73 (tgt := 92) rfl ?_ ?_
              · exact jo_leaf (by rfl) (h92_17 ())
              · refine jo_aload_n (pc := 76) 1 rfl dX2_run_76 rfl ?_
                refine jo_getrE (pc := 77) ok_2_2 (ik_35 hw) rf_35_2 gw_101 dX2_run_77 ?_
                refine jo_aload_n (pc := 80) 1 rfl dX2_run_80 rfl ?_
                refine jo_getf (pc := 81) ok_2_3 (ik_35 hw) gw_102 dX2_run_81 (fun v19 => ?_)
                refine jo_iconst (pc := 84) dX2_run_84 (ic_i_1) ?_
                refine jo_isub (pc := 85) dX2_run_85 ?_
                refine jo_iald (pc := 86) (ik_37 hw) dX2_run_86 (fun v20 => ?_)
                refine jo_iload (pc := 87) 0 rfl dX2_run_87 ?_
                refine jo_icmp_gt (pc := 89) dX2_run_89 (tgt := 101) rfl ?_ ?_
                · refine jo_iload_n (pc := 101) 4 rfl dX2_run_101 rfl ?_
                  refine jo_iload_n (pc := 102) 3 rfl dX2_run_102 rfl ?_
                  refine jo_icmp_ne (pc := 103) dX2_run_103 (tgt := 108) rfl ?_ ?_
                  · refine jo_iinc (pc := 108) (lv' := [(3, .int (i10 + 1)), (5, .int v14), (0, .ref (adr w 35)), (1, .ref (adr w x0)), (2, .int x1), (4, .int i11)]) 4 rfl dX2_run_108 (congrArg (fun z => i10 + z) (ic_i_1)) (ltb rfl) rfl ?_
                    refine jo_aload_n (pc := 111) 2 rfl dX2_run_111 rfl ?_
                    refine jo_aload_n (pc := 112) 3 rfl dX2_run_112 rfl ?_
                    refine jo_aload_n (pc := 113) 2 rfl dX2_run_113 rfl ?_
                    refine jo_getrE (pc := 114) ok_2_2 (ik_35 hw) rf_35_2 gw_101 dX2_run_114 ?_
                    refine jo_aload_n (pc := 117) 2 rfl dX2_run_117 rfl ?_
                    refine jo_getf (pc := 118) ok_2_3 (ik_35 hw) gw_102 dX2_run_118 (fun v21 => ?_)
                    refine jo_iconst (pc := 121) dX2_run_121 (ic_i_1) ?_
                    refine jo_isub (pc := 122) dX2_run_122 ?_
                    refine jo_iald (pc := 123) (ik_37 hw) dX2_run_123 (fun v22 => ?_)
                    refine jo_iload (pc := 124) 1 rfl dX2_run_124 ?_
                    refine jo_cV_V_i (pc := 126) (μ' := mu_X2_exchange) (fx := f_X2_exchange σ9 x0 v22 v14) (As := [.ref (adr w x0), .int v22, .int v14]) (c_X2_exchange hw (hx0)) (ok_X2_exchange) (ltb rfl) (all3 gw_432 gw_434 gw_4) (ik_35 hw) (by decide) (q := (RX2, TX2, 7)) rfl rfl rfl rfl (Nat.le_of_ble_eq_true rfl) dX2_run_126 (fun σ23 => ?_)
                    refine jo_lv (lv' := [(0, .ref (adr w 35)), (1, .ref (adr w x0)), (2, .int x1), (4, .int i11), (3, .int (i10 + 1))]) [2, 3, 4, 5, 0] rfl ?_
                    exact jo_leaf (by rfl) (h129_17 (σ23, i10 + 1))
                  · refine jo_iconst (pc := 106) dX2_run_106 (ic_i_m1) ?_
                    exact jo_ireturn (pc := 107) rfl rfl dX2_run_107
                · exact jo_leaf (by rfl) (h92_17 ())
  · refine jo_lv (lv' := [(0, .ref (adr w 35)), (1, .ref (adr w x0)), (2, .int x1), (3, .int v4)]) [1, 2, 3, 0] rfl ?_
    refine jo_loop (X := Mem) (fun (z25 : (Mem × Int32)) => z25.1) (fun (z25 : (Mem × Int32)) => [(0, .ref (adr w 35)), (1, .ref (adr w x0)), (2, .int x1), (3, .int z25.2)]) (body := (fun (z25 : (Mem × Int32)) => l_X2_run_17 z25.1 z25.2)) (fun F17_25 hF17_25 s => ?_) (σ2, v4)
    obtain ⟨σ24, i25⟩ := s
    show JO w mu_X2_run vI σ24 [(0, .ref (adr w 35)), (1, .ref (adr w x0)), (2, .int x1), (3, .int i25)] [] 17 (l_X2_run_17 σ24 i25) _
    unfold l_X2_run_17
    refine jo_iload_n (pc := 17) 3 rfl dX2_run_17 rfl ?_
    refine jo_if_lt (pc := 18) dX2_run_18 (tgt := 37) rfl ?_ ?_
    · refine jo_lv (lv' := [(0, .ref (adr w 35)), (1, .ref (adr w x0)), (2, .int x1)]) [0, 1, 2] rfl ?_
      exact jo_leaf (by rfl) (h37_5 σ24)
    · refine jo_aload_n (pc := 21) 0 rfl dX2_run_21 rfl ?_
      refine jo_aload_n (pc := 22) 0 rfl dX2_run_22 rfl ?_
      refine jo_getrE (pc := 23) ok_2_0 (ik_35 hw) rf_35_0 gw_99 dX2_run_23 ?_
      refine jo_iload_n (pc := 26) 3 rfl dX2_run_26 rfl ?_
      refine jo_iald (pc := 27) (ik_36 hw) dX2_run_27 (fun v26 => ?_)
      refine jo_cV_V_i (pc := 28) (μ' := mu_X2_putAhead) (fx := f_X2_putAhead σ24 v26) (As := [.int v26]) (c_X2_putAhead hw) (ok_X2_putAhead) (ltb rfl) (all3 gw_423 gw_425 gw_2) (ik_35 hw) (by decide) (q := (RX2, TX2, 7)) rfl rfl rfl rfl (Nat.le_of_ble_eq_true rfl) dX2_run_28 (fun σ27 => ?_)
      refine jo_iinc (pc := 31) (lv' := [(3, .int (i25 + (-1))), (0, .ref (adr w 35)), (1, .ref (adr w x0)), (2, .int x1)]) 3 rfl dX2_run_31 (congrArg (fun z => i25 + z) (ic_i_m1)) (ltb rfl) rfl ?_
      refine jo_goto (pc := 34) dX2_run_34 (tgt := 17) rfl ?_
      refine jo_lv (lv' := [(0, .ref (adr w 35)), (1, .ref (adr w x0)), (2, .int x1), (3, .int (i25 + (-1)))]) [1, 2, 3, 0] rfl ?_
      exact jo_leaf (by rfl) (hF17_25 (σ27, i25 + (-1)))
theorem c_X2_run {w : Wd} (hw : WOK w) {σ : Mem} {x0 : Nat} {x1 : Int32} (hx0 : isk w x0 6) : ∀ r σ', f_X2_run σ x0 x1 = some (r, σ') → MC w mu_X2_run (vI r) [.ref (adr w 35), .ref (adr w x0), .int x1] σ σ' := mc_of ok_X2_run rfl (Nat.le_of_ble_eq_true rfl) (t_X2_run hw hx0)
abbrev mu_X6_isSame : MD := (yX6_isSame, cX6_isSame, 3, some .boolean, 0)
theorem ok_X6_isSame : MOK mu_X6_isSame 1 := ⟨gw_386, gw_22, (by decide +kernel : plainFor yX6_isSame = true), ⟨(by decide +kernel : yX6_isSame.cls ≠ "java/lang/invoke/MethodHandle"), (by decide +kernel : yX6_isSame.cls ≠ "java/lang/invoke/VarHandle"), (by decide +kernel : (parseMethodDescriptor yX6_isSame.desc).map (fun d => d.parameters.length) = some 1)⟩, Nat.le_of_ble_eq_true rfl⟩
noncomputable def l_X6_isSame_49 (σ : Mem) (a : Nat) (x0 : Nat) (i3 : Int32) : Option (Int32 ⊕ Bool) :=
  if (Int32.ofNat (ln (rf a 2))) ≤ i3 then (some (Sum.inr true)) else (gI σ (rf a 2) i3 (fun (v4 : Int32) => gI σ (rf x0 2) i3 (fun (v5 : Int32) => if v4 = v5 then (some (Sum.inl (i3 + 1))) else (some (Sum.inr false)))))
noncomputable def j_X6_isSame_47 (σ : Mem) (a : Nat) (x0 : Nat) : Option Bool :=
  loopO (fun (z3 : Int32) => l_X6_isSame_49 σ a x0 z3) 0
noncomputable def l_X6_isSame_15 (σ : Mem) (a : Nat) (x0 : Nat) (i6 : Int32) : Option (Int32 ⊕ (Unit ⊕ Bool)) :=
  if (Int32.ofNat (ln (rf a 1))) ≤ i6 then (some (Sum.inr (Sum.inl ()))) else (gI σ (rf a 1) i6 (fun (v7 : Int32) => gI σ (rf x0 1) i6 (fun (v8 : Int32) => if v7 = v8 then (some (Sum.inl (i6 + 1))) else (some (Sum.inr (Sum.inr false))))))
noncomputable def f_X6_isSame (σ : Mem) (a : Nat) (x0 : Nat) : Option Bool :=
  gF σ a 0 (fun (v1 : Int32) => gF σ x0 0 (fun (v2 : Int32) => if v1 = v2 then ((loopO (fun (z6 : Int32) => l_X6_isSame_15 σ a x0 z6) 0 : Option (Unit ⊕ Bool)).bind (Sum.elim (fun (z2 : Unit) => j_X6_isSame_47 σ a x0) some)) else (some false)))
theorem t_X6_isSame {w : Wd} (hw : WOK w) {σ : Mem} {a : Nat} {x0 : Nat} (ha : isk w a 6) (hx0 : isk w x0 6) : JO w mu_X6_isSame vB σ [(0, .ref (adr w a)), (1, .ref (adr w x0))] [] 0 (f_X6_isSame σ a x0) (fun z => some (z, σ)) := by
  unfold f_X6_isSame
  refine jo_aload_n (pc := 0) 0 rfl dX6_isSame_0 rfl ?_
  refine jo_getf (pc := 1) ok_6_0 (ha) gw_61 dX6_isSame_1 (fun v1 => ?_)
  refine jo_aload_n (pc := 4) 1 rfl dX6_isSame_4 rfl ?_
  refine jo_getf (pc := 5) ok_6_0 (hx0) gw_61 dX6_isSame_5 (fun v2 => ?_)
  refine jo_icmp_eq (pc := 8) dX6_isSame_8 (tgt := 13) rfl ?_ ?_
  · refine jo_iconst (pc := 13) dX6_isSame_13 (ic_i_0) ?_
    refine jo_istore_n (pc := 14) (lv' := [(2, .int 0), (0, .ref (adr w a)), (1, .ref (adr w x0))]) dX6_isSame_14 rfl (ltb rfl) rfl ?_
    refine jo_joinS (S := Unit) (fun (z2 : Unit) => σ) (fun (z2 : Unit) => [(0, .ref (adr w a)), (1, .ref (adr w x0))]) (fun (z2 : Unit) => []) 47 ?_ (fun h47_2 => ?_)
    · intro _
      show JO w mu_X6_isSame vB σ [(0, .ref (adr w a)), (1, .ref (adr w x0))] [] 47 (j_X6_isSame_47 σ a x0) _
      unfold j_X6_isSame_47
      refine jo_iconst (pc := 47) dX6_isSame_47 (ic_i_0) ?_
      refine jo_istore_n (pc := 48) (lv' := [(2, .int 0), (0, .ref (adr w a)), (1, .ref (adr w x0))]) dX6_isSame_48 rfl (ltb rfl) rfl ?_
      refine jo_lv (lv' := [(0, .ref (adr w a)), (1, .ref (adr w x0)), (2, .int 0)]) [1, 2, 0] rfl ?_
      refine jo_loop (X := Bool) (fun (z3 : Int32) => σ) (fun (z3 : Int32) => [(0, .ref (adr w a)), (1, .ref (adr w x0)), (2, .int z3)]) (body := (fun (z3 : Int32) => l_X6_isSame_49 σ a x0 z3)) (fun F49_3 hF49_3 s => ?_) 0
      revert s; intro i3
      show JO w mu_X6_isSame vB σ [(0, .ref (adr w a)), (1, .ref (adr w x0)), (2, .int i3)] [] 49 (l_X6_isSame_49 σ a x0 i3) _
      unfold l_X6_isSame_49
      refine jo_iload_n (pc := 49) 2 rfl dX6_isSame_49 rfl ?_
      refine jo_aload_n (pc := 50) 0 rfl dX6_isSame_50 rfl ?_
      refine jo_getr (pc := 51) ok_6_2 (ha) gw_67 dX6_isSame_51 ?_
      refine jo_alenI (pc := 54) (wf_6_2 hw (ha)) (by decide) (t := 0) rfl dX6_isSame_54 ?_
      refine jo_icmp_ge (pc := 55) dX6_isSame_55 (tgt := 81) rfl ?_ ?_
      · refine jo_iconst (pc := 81) dX6_isSame_81 (ic_i_1) ?_
        exact jo_breturn (pc := 82) (b := true) rfl rfl dX6_isSame_82
      · refine jo_aload_n (pc := 58) 0 rfl dX6_isSame_58 rfl ?_
        refine jo_getr (pc := 59) ok_6_2 (ha) gw_67 dX6_isSame_59 ?_
        refine jo_iload_n (pc := 62) 2 rfl dX6_isSame_62 rfl ?_
        refine jo_iald (pc := 63) (wf_6_2 hw (ha)) dX6_isSame_63 (fun v4 => ?_)
        refine jo_aload_n (pc := 64) 1 rfl dX6_isSame_64 rfl ?_
        refine jo_getr (pc := 65) ok_6_2 (hx0) gw_67 dX6_isSame_65 ?_
        refine jo_iload_n (pc := 68) 2 rfl dX6_isSame_68 rfl ?_
        refine jo_iald (pc := 69) (wf_6_2 hw (hx0)) dX6_isSame_69 (fun v5 => ?_)
        refine jo_icmp_eq (pc := 70) dX6_isSame_70 (tgt := 75) rfl ?_ ?_
        · refine jo_iinc (pc := 75) (lv' := [(2, .int (i3 + 1)), (0, .ref (adr w a)), (1, .ref (adr w x0))]) 2 rfl dX6_isSame_75 (congrArg (fun z => i3 + z) (ic_i_1)) (ltb rfl) rfl ?_
          refine jo_goto (pc := 78) dX6_isSame_78 (tgt := 49) rfl ?_
          refine jo_lv (lv' := [(0, .ref (adr w a)), (1, .ref (adr w x0)), (2, .int (i3 + 1))]) [1, 2, 0] rfl ?_
          exact jo_leaf (by rfl) (hF49_3 (i3 + 1))
        · refine jo_iconst (pc := 73) dX6_isSame_73 (ic_i_0) ?_
          exact jo_breturn (pc := 74) (b := false) rfl rfl dX6_isSame_74
    · refine jo_lv (lv' := [(0, .ref (adr w a)), (1, .ref (adr w x0)), (2, .int 0)]) [1, 2, 0] rfl ?_
      refine jo_loop (X := Unit ⊕ Bool) (fun (z6 : Int32) => σ) (fun (z6 : Int32) => [(0, .ref (adr w a)), (1, .ref (adr w x0)), (2, .int z6)]) (body := (fun (z6 : Int32) => l_X6_isSame_15 σ a x0 z6)) (fun F15_6 hF15_6 s => ?_) 0
      revert s; intro i6
      show JO w mu_X6_isSame vB σ [(0, .ref (adr w a)), (1, .ref (adr w x0)), (2, .int i6)] [] 15 (l_X6_isSame_15 σ a x0 i6) _
      unfold l_X6_isSame_15
      refine jo_iload_n (pc := 15) 2 rfl dX6_isSame_15 rfl ?_
      refine jo_aload_n (pc := 16) 0 rfl dX6_isSame_16 rfl ?_
      refine jo_getr (pc := 17) ok_6_1 (ha) gw_65 dX6_isSame_17 ?_
      refine jo_alenI (pc := 20) (wf_6_1 hw (ha)) (by decide) (t := 0) rfl dX6_isSame_20 ?_
      refine jo_icmp_ge (pc := 21) dX6_isSame_21 (tgt := 47) rfl ?_ ?_
      · refine jo_lv (lv' := [(0, .ref (adr w a)), (1, .ref (adr w x0))]) [0, 1] rfl ?_
        exact jo_leaf (by rfl) (h47_2 ())
      · refine jo_aload_n (pc := 24) 0 rfl dX6_isSame_24 rfl ?_
        refine jo_getr (pc := 25) ok_6_1 (ha) gw_65 dX6_isSame_25 ?_
        refine jo_iload_n (pc := 28) 2 rfl dX6_isSame_28 rfl ?_
        refine jo_iald (pc := 29) (wf_6_1 hw (ha)) dX6_isSame_29 (fun v7 => ?_)
        refine jo_aload_n (pc := 30) 1 rfl dX6_isSame_30 rfl ?_
        refine jo_getr (pc := 31) ok_6_1 (hx0) gw_65 dX6_isSame_31 ?_
        refine jo_iload_n (pc := 34) 2 rfl dX6_isSame_34 rfl ?_
        refine jo_iald (pc := 35) (wf_6_1 hw (hx0)) dX6_isSame_35 (fun v8 => ?_)
        refine jo_icmp_eq (pc := 36) dX6_isSame_36 (tgt := 41) rfl ?_ ?_
        · refine jo_iinc (pc := 41) (lv' := [(2, .int (i6 + 1)), (0, .ref (adr w a)), (1, .ref (adr w x0))]) 2 rfl dX6_isSame_41 (congrArg (fun z => i6 + z) (ic_i_1)) (ltb rfl) rfl ?_
          refine jo_goto (pc := 44) dX6_isSame_44 (tgt := 15) rfl ?_
          refine jo_lv (lv' := [(0, .ref (adr w a)), (1, .ref (adr w x0)), (2, .int (i6 + 1))]) [1, 2, 0] rfl ?_
          exact jo_leaf (by rfl) (hF15_6 (i6 + 1))
        · refine jo_iconst (pc := 39) dX6_isSame_39 (ic_i_0) ?_
          exact jo_breturn (pc := 40) (b := false) rfl rfl dX6_isSame_40
  · refine jo_iconst (pc := 11) dX6_isSame_11 (ic_i_0) ?_
    exact jo_breturn (pc := 12) (b := false) rfl rfl dX6_isSame_12
theorem c_X6_isSame {w : Wd} (hw : WOK w) {σ : Mem} {a : Nat} {x0 : Nat} (ha : isk w a 6) (hx0 : isk w x0 6) : ∀ r, f_X6_isSame σ a x0 = some r → MC w mu_X6_isSame (vB r) [.ref (adr w a), .ref (adr w x0)] σ σ := mc_ofP ok_X6_isSame rfl (Nat.le_of_ble_eq_true rfl) (t_X6_isSame hw ha hx0)
abbrev mu_X6_takeAll : MD := (yX6_takeAll, cX6_takeAll, 2, none, 1)
theorem ok_X6_takeAll : MOK mu_X6_takeAll 1 := ⟨gw_390, gw_22, (by decide +kernel : plainFor yX6_takeAll = true), ⟨(by decide +kernel : yX6_takeAll.cls ≠ "java/lang/invoke/MethodHandle"), (by decide +kernel : yX6_takeAll.cls ≠ "java/lang/invoke/VarHandle"), (by decide +kernel : (parseMethodDescriptor yX6_takeAll.desc).map (fun d => d.parameters.length) = some 1)⟩, Nat.le_of_ble_eq_true rfl⟩
noncomputable def f_X6_takeAll (σ : Mem) (a : Nat) (x0 : Nat) : Option Mem :=
  gF σ x0 0 (fun (v1 : Int32) => pF σ a 0 v1 (fun (σ2 : Mem) => cI σ2 (rf x0 1) 0 (rf a 1) 0 (Int32.ofNat (ln (rf a 1))) (fun (σ3 : Mem) => cI σ3 (rf x0 2) 0 (rf a 2) 0 (Int32.ofNat (ln (rf a 2))) (fun (σ4 : Mem) => some σ4))))
theorem t_X6_takeAll {w : Wd} (hw : WOK w) {σ : Mem} {a : Nat} {x0 : Nat} (ha : isk w a 6) (hx0 : isk w x0 6) : JO w mu_X6_takeAll vV σ [(0, .ref (adr w a)), (1, .ref (adr w x0))] [] 0 (f_X6_takeAll σ a x0) (fun z => some ((), z)) := by
  unfold f_X6_takeAll
  refine jo_aload_n (pc := 0) 0 rfl dX6_takeAll_0 rfl ?_
  refine jo_aload_n (pc := 1) 1 rfl dX6_takeAll_1 rfl ?_
  refine jo_getf (pc := 2) ok_6_0 (hx0) gw_61 dX6_takeAll_2 (fun v1 => ?_)
  refine jo_putf (pc := 5) ok_6_0 okp_6_0 (ha) gw_61 dX6_takeAll_5 (fun σ2 => ?_)
  refine jo_aload_n (pc := 8) 1 rfl dX6_takeAll_8 rfl ?_
  refine jo_getr (pc := 9) ok_6_1 (hx0) gw_65 dX6_takeAll_9 ?_
  refine jo_iconst (pc := 12) dX6_takeAll_12 (ic_i_0) ?_
  refine jo_aload_n (pc := 13) 0 rfl dX6_takeAll_13 rfl ?_
  refine jo_getr (pc := 14) ok_6_1 (ha) gw_65 dX6_takeAll_14 ?_
  refine jo_iconst (pc := 17) dX6_takeAll_17 (ic_i_0) ?_
  refine jo_aload_n (pc := 18) 0 rfl dX6_takeAll_18 rfl ?_
  refine jo_getr (pc := 19) ok_6_1 (ha) gw_65 dX6_takeAll_19 ?_
  refine jo_alenI (pc := 22) (wf_6_1 hw (ha)) (by decide) (t := 0) rfl dX6_takeAll_22 ?_
  refine jo_acI (pc := 23) (wf_6_1 hw (hx0)) (wf_6_1 hw (ha)) (all4 gw_391 gw_393 gw_392 gw_32) (ltb rfl) (Nat.le_of_ble_eq_true rfl) dX6_takeAll_23 (fun σ3 => ?_)
  refine jo_aload_n (pc := 26) 1 rfl dX6_takeAll_26 rfl ?_
  refine jo_getr (pc := 27) ok_6_2 (hx0) gw_67 dX6_takeAll_27 ?_
  refine jo_iconst (pc := 30) dX6_takeAll_30 (ic_i_0) ?_
  refine jo_aload_n (pc := 31) 0 rfl dX6_takeAll_31 rfl ?_
  refine jo_getr (pc := 32) ok_6_2 (ha) gw_67 dX6_takeAll_32 ?_
  refine jo_iconst (pc := 35) dX6_takeAll_35 (ic_i_0) ?_
  refine jo_aload_n (pc := 36) 0 rfl dX6_takeAll_36 rfl ?_
  refine jo_getr (pc := 37) ok_6_2 (ha) gw_67 dX6_takeAll_37 ?_
  refine jo_alenI (pc := 40) (wf_6_2 hw (ha)) (by decide) (t := 0) rfl dX6_takeAll_40 ?_
  refine jo_acI (pc := 41) (wf_6_2 hw (hx0)) (wf_6_2 hw (ha)) (all4 gw_391 gw_393 gw_392 gw_32) (ltb rfl) (Nat.le_of_ble_eq_true rfl) dX6_takeAll_41 (fun σ4 => ?_)
  exact jo_return (pc := 44) rfl rfl dX6_takeAll_44
theorem c_X6_takeAll {w : Wd} (hw : WOK w) {σ : Mem} {a : Nat} {x0 : Nat} (ha : isk w a 6) (hx0 : isk w x0 6) : ∀ σ', f_X6_takeAll σ a x0 = some σ' → MC w mu_X6_takeAll none [.ref (adr w a), .ref (adr w x0)] σ σ' := mc_ofV ok_X6_takeAll rfl (Nat.le_of_ble_eq_true rfl) (t_X6_takeAll hw ha hx0)
