abbrev mu_X9_sumOfNumbers : MD := (yX9_sumOfNumbers, cX9_sumOfNumbers, 4, some .long, 0)
theorem ok_X9_sumOfNumbers : MOK mu_X9_sumOfNumbers 0 := ⟨gw_798, gw_163, (by decide +kernel : plainFor yX9_sumOfNumbers = true), ⟨(by decide +kernel : yX9_sumOfNumbers.cls ≠ "java/lang/invoke/MethodHandle"), (by decide +kernel : yX9_sumOfNumbers.cls ≠ "java/lang/invoke/VarHandle"), (by decide +kernel : (parseMethodDescriptor yX9_sumOfNumbers.desc).map (fun d => d.parameters.length) = some 0)⟩, Nat.le_of_ble_eq_true rfl⟩
noncomputable def l_X9_sumOfNumbers_4 (σ : Mem) (a : Nat) (l1 : Int64) (i2 : Int32) : Option ((Int64 × Int32) ⊕ Int64) :=
  gF σ a 0 (fun (v3 : Int32) => if v3 ≤ i2 then (some (Sum.inr l1)) else (gL σ (rf a 2) i2 (fun (v4 : Int64) => bd (l1 + v4) (fun (v5 : Int64) => some (Sum.inl (v5, i2 + 1))))))
noncomputable def f_X9_sumOfNumbers (σ : Mem) (a : Nat) : Option Int64 :=
  loopO (fun (z2 : (Int64 × Int32)) => l_X9_sumOfNumbers_4 σ a z2.1 z2.2) (0, 0)
theorem t_X9_sumOfNumbers {w : Wd} (hw : WOK w) {σ : Mem} {a : Nat} (ha : isk w a 9) : JO w mu_X9_sumOfNumbers vL σ [(0, .ref (adr w a))] [] 0 (f_X9_sumOfNumbers σ a) (fun z => some (z, σ)) := by
  unfold f_X9_sumOfNumbers
  refine jo_lconst (pc := 0) dX9_sumOfNumbers_0 (ic_l_0) ?_
  refine jo_lstore_n (pc := 1) (lv' := [(1, .long 0), (0, .ref (adr w a))]) dX9_sumOfNumbers_1 rfl (ltb rfl) rfl ?_
  refine jo_iconst (pc := 2) dX9_sumOfNumbers_2 (ic_i_0) ?_
  refine jo_istore_n (pc := 3) (lv' := [(3, .int 0), (1, .long 0), (0, .ref (adr w a))]) dX9_sumOfNumbers_3 rfl (ltb rfl) rfl ?_
  refine jo_lv (lv' := [(0, .ref (adr w a)), (1, .long 0), (3, .int 0)]) [2, 1, 0] rfl ?_
  refine jo_loop (X := Int64) (fun (z2 : (Int64 × Int32)) => σ) (fun (z2 : (Int64 × Int32)) => [(0, .ref (adr w a)), (1, .long z2.1), (3, .int z2.2)]) (body := (fun (z2 : (Int64 × Int32)) => l_X9_sumOfNumbers_4 σ a z2.1 z2.2)) (fun F4_2 hF4_2 s => ?_) (0, 0)
  obtain ⟨l1, i2⟩ := s
  show JO w mu_X9_sumOfNumbers vL σ [(0, .ref (adr w a)), (1, .long l1), (3, .int i2)] [] 4 (l_X9_sumOfNumbers_4 σ a l1 i2) _
  unfold l_X9_sumOfNumbers_4
  refine jo_iload_n (pc := 4) 2 rfl dX9_sumOfNumbers_4 rfl ?_
  refine jo_aload_n (pc := 5) 0 rfl dX9_sumOfNumbers_5 rfl ?_
  refine jo_getf (pc := 6) ok_9_0 (ha) gw_279 dX9_sumOfNumbers_6 (fun v3 => ?_)
  refine jo_icmp_ge (pc := 9) dX9_sumOfNumbers_9 (tgt := 27) rfl ?_ ?_
  · refine jo_lload_n (pc := 27) 1 rfl dX9_sumOfNumbers_27 rfl ?_
    exact jo_lreturn (pc := 28) rfl rfl dX9_sumOfNumbers_28
  · refine jo_lload_n (pc := 12) 1 rfl dX9_sumOfNumbers_12 rfl ?_
    refine jo_aload_n (pc := 13) 0 rfl dX9_sumOfNumbers_13 rfl ?_
    refine jo_getr (pc := 14) ok_9_2 (ha) gw_286 dX9_sumOfNumbers_14 ?_
    refine jo_iload_n (pc := 17) 2 rfl dX9_sumOfNumbers_17 rfl ?_
    refine jo_lald (pc := 18) (wf_9_2 hw (ha)) dX9_sumOfNumbers_18 (fun v4 => ?_)
    refine jo_ladd (pc := 19) dX9_sumOfNumbers_19 ?_
    refine jo_bd ?_
    refine jo_lstore_n (pc := 20) (lv' := [(1, .long (l1 + v4)), (0, .ref (adr w a)), (3, .int i2)]) dX9_sumOfNumbers_20 rfl (ltb rfl) rfl ?_
    generalize (l1 + v4) = v5
    refine jo_iinc (pc := 21) (lv' := [(3, .int (i2 + 1)), (1, .long v5), (0, .ref (adr w a))]) 2 rfl dX9_sumOfNumbers_21 (congrArg (fun z => i2 + z) (ic_i_1)) (ltb rfl) rfl ?_
    refine jo_goto (pc := 24) dX9_sumOfNumbers_24 (tgt := 4) rfl ?_
    refine jo_lv (lv' := [(0, .ref (adr w a)), (1, .long v5), (3, .int (i2 + 1))]) [2, 1, 0] rfl ?_
    exact jo_leaf (by rfl) (hF4_2 (v5, i2 + 1))
theorem c_X9_sumOfNumbers {w : Wd} (hw : WOK w) {σ : Mem} {a : Nat} (ha : isk w a 9) : ∀ r, f_X9_sumOfNumbers σ a = some r → MC w mu_X9_sumOfNumbers (vL r) [.ref (adr w a)] σ σ := mc_ofP ok_X9_sumOfNumbers rfl (Nat.le_of_ble_eq_true rfl) (t_X9_sumOfNumbers hw ha)
abbrev mu_X10_beginAct : MD := (yX10_beginAct, cX10_beginAct, 1, none, 3)
theorem ok_X10_beginAct : MOK mu_X10_beginAct 0 := ⟨gw_697, gw_158, (by decide +kernel : plainFor yX10_beginAct = true), ⟨(by decide +kernel : yX10_beginAct.cls ≠ "java/lang/invoke/MethodHandle"), (by decide +kernel : yX10_beginAct.cls ≠ "java/lang/invoke/VarHandle"), (by decide +kernel : (parseMethodDescriptor yX10_beginAct.desc).map (fun d => d.parameters.length) = some 0)⟩, Nat.le_of_ble_eq_true rfl⟩
noncomputable def f_X10_beginAct (σ : Mem) : Option Mem :=
  gF σ 0 5 (fun (v1 : Int32) => gR 33 v1 (fun (p2 : Nat) => (f_X8_takeActed σ p2 1).bind (fun (σ3 : Mem) => gF σ3 0 5 (fun (v4 : Int32) => nzI 8 (pF σ3 0 5 ((v4 + 1) - (v4 + 1) / 8 * 8) (fun (σ5 : Mem) => gF σ5 0 4 (fun (v6 : Int32) => (f_J9_min_7cf53 σ5 (v6 + 1) 8).bind (fun (v7 : Int32) => pF σ5 0 4 v7 (fun (σ8 : Mem) => some σ8)))))))))
theorem t_X10_beginAct {w : Wd} (hw : WOK w) {σ : Mem} : JO w mu_X10_beginAct vV σ [(0, .ref (adr w 0))] [] 0 (f_X10_beginAct σ) (fun z => some ((), z)) := by
  unfold f_X10_beginAct
  refine jo_aload_n (pc := 0) 0 rfl dX10_beginAct_0 rfl ?_
  refine jo_getrE (pc := 1) ok_10_3 (ik_0 hw) rf_0_3 gw_634 dX10_beginAct_1 ?_
  refine jo_aload_n (pc := 4) 0 rfl dX10_beginAct_4 rfl ?_
  refine jo_getf (pc := 5) ok_10_5 (ik_0 hw) gw_636 dX10_beginAct_5 (fun v1 => ?_)
  refine jo_aaldG (pc := 8) (z := 8) hw (ik_33 hw) (by decide) (t := 2) rfl rfl (by decide) dX10_beginAct_8 (fun p2 hp2 => ?_)
  refine jo_aload_n (pc := 9) 0 rfl dX10_beginAct_9 rfl ?_
  refine jo_getrE (pc := 10) ok_10_0 (ik_0 hw) rf_0_0 gw_631 dX10_beginAct_10 ?_
  refine jo_cV_V_i (pc := 13) (μ' := mu_X8_takeActed) (fx := f_X8_takeActed σ p2 1) (As := [.ref (adr w 1)]) (c_X8_takeActed hw (hp2) (ik_1 hw)) (ok_X8_takeActed) (ltb rfl) (all3 gw_698 gw_699 gw_700) (hp2) (by decide) (q := (RX8, TX8, 3)) rfl rfl rfl rfl (Nat.le_of_ble_eq_true rfl) dX10_beginAct_13 (fun σ3 => ?_)
  refine jo_aload_n (pc := 16) 0 rfl dX10_beginAct_16 rfl ?_
  refine jo_aload_n (pc := 17) 0 rfl dX10_beginAct_17 rfl ?_
  refine jo_getf (pc := 18) ok_10_5 (ik_0 hw) gw_636 dX10_beginAct_18 (fun v4 => ?_)
  refine jo_iconst (pc := 21) dX10_beginAct_21 (ic_i_1) ?_
  refine jo_iadd (pc := 22) dX10_beginAct_22 ?_
  refine jo_bipush (pc := 23) dX10_beginAct_23 (ic_b_8) ?_
  refine jo_irem (pc := 25) dX10_beginAct_25 ?_
  refine jo_putf (pc := 26) ok_10_5 okp_10_5 (ik_0 hw) gw_636 dX10_beginAct_26 (fun σ5 => ?_)
  refine jo_aload_n (pc := 29) 0 rfl dX10_beginAct_29 rfl ?_
  refine jo_aload_n (pc := 30) 0 rfl dX10_beginAct_30 rfl ?_
  refine jo_getf (pc := 31) ok_10_4 (ik_0 hw) gw_635 dX10_beginAct_31 (fun v6 => ?_)
  refine jo_iconst (pc := 34) dX10_beginAct_34 (ic_i_1) ?_
  refine jo_iadd (pc := 35) dX10_beginAct_35 ?_
  refine jo_bipush (pc := 36) dX10_beginAct_36 (ic_b_8) ?_
  refine jo_cS_I_p (pc := 38) (μ' := mu_J9_min_7cf53) (fx := f_J9_min_7cf53 σ5 (v6 + 1) 8) (As := [.int (v6 + 1), .int 8]) (c_J9_min_7cf53 hw) (ok_J9_min_7cf53) (ltb rfl) (all2 gw_707 gw_708) rfl rfl (Nat.le_of_ble_eq_true rfl) dX10_beginAct_38 (fun v7 => ?_)
  refine jo_putf (pc := 41) ok_10_4 okp_10_4 (ik_0 hw) gw_635 dX10_beginAct_41 (fun σ8 => ?_)
  exact jo_return (pc := 44) rfl rfl dX10_beginAct_44
theorem c_X10_beginAct {w : Wd} (hw : WOK w) {σ : Mem} : ∀ σ', f_X10_beginAct σ = some σ' → MC w mu_X10_beginAct none [.ref (adr w 0)] σ σ' := mc_ofV ok_X10_beginAct rfl (Nat.le_of_ble_eq_true rfl) (t_X10_beginAct hw)
abbrev mu_X10_beginGroupAct : MD := (yX10_beginGroupAct, cX10_beginGroupAct, 1, none, 4)
theorem ok_X10_beginGroupAct : MOK mu_X10_beginGroupAct 0 := ⟨gw_693, gw_158, (by decide +kernel : plainFor yX10_beginGroupAct = true), ⟨(by decide +kernel : yX10_beginGroupAct.cls ≠ "java/lang/invoke/MethodHandle"), (by decide +kernel : yX10_beginGroupAct.cls ≠ "java/lang/invoke/VarHandle"), (by decide +kernel : (parseMethodDescriptor yX10_beginGroupAct.desc).map (fun d => d.parameters.length) = some 0)⟩, Nat.le_of_ble_eq_true rfl⟩
noncomputable def f_X10_beginGroupAct (σ : Mem) : Option Mem :=
  (f_X10_beginAct σ).bind (fun (σ1 : Mem) => (f_X8_clearRegisters σ1 1).bind (fun (σ2 : Mem) => some σ2))
theorem t_X10_beginGroupAct {w : Wd} (hw : WOK w) {σ : Mem} : JO w mu_X10_beginGroupAct vV σ [(0, .ref (adr w 0))] [] 0 (f_X10_beginGroupAct σ) (fun z => some ((), z)) := by
  unfold f_X10_beginGroupAct
  refine jo_aload_n (pc := 0) 0 rfl dX10_beginGroupAct_0 rfl ?_
  refine jo_cV_V_i (pc := 1) (μ' := mu_X10_beginAct) (fx := f_X10_beginAct σ) (As := []) (c_X10_beginAct hw) (ok_X10_beginAct) (ltb rfl) (all3 gw_694 gw_696 gw_10) (ik_0 hw) (by decide) (q := (RX10, TX10, 17)) rfl rfl rfl rfl (Nat.le_of_ble_eq_true rfl) dX10_beginGroupAct_1 (fun σ1 => ?_)
  refine jo_aload_n (pc := 4) 0 rfl dX10_beginGroupAct_4 rfl ?_
  refine jo_getrE (pc := 5) ok_10_0 (ik_0 hw) rf_0_0 gw_631 dX10_beginGroupAct_5 ?_
  refine jo_cV_V_i (pc := 8) (μ' := mu_X8_clearRegisters) (fx := f_X8_clearRegisters σ1 1) (As := []) (c_X8_clearRegisters hw (ik_1 hw)) (ok_X8_clearRegisters) (ltb rfl) (all3 gw_710 gw_711 gw_712) (ik_1 hw) (by decide) (q := (RX8, TX8, 3)) rfl rfl rfl rfl (Nat.le_of_ble_eq_true rfl) dX10_beginGroupAct_8 (fun σ2 => ?_)
  exact jo_return (pc := 11) rfl rfl dX10_beginGroupAct_11
theorem c_X10_beginGroupAct {w : Wd} (hw : WOK w) {σ : Mem} : ∀ σ', f_X10_beginGroupAct σ = some σ' → MC w mu_X10_beginGroupAct none [.ref (adr w 0)] σ σ' := mc_ofV ok_X10_beginGroupAct rfl (Nat.le_of_ble_eq_true rfl) (t_X10_beginGroupAct hw)
abbrev mu_X10_group : MD := (yX10_group, cX10_group, 3, some .boolean, 7)
theorem ok_X10_group : MOK mu_X10_group 2 := ⟨gw_686, gw_158, (by decide +kernel : plainFor yX10_group = true), ⟨(by decide +kernel : yX10_group.cls ≠ "java/lang/invoke/MethodHandle"), (by decide +kernel : yX10_group.cls ≠ "java/lang/invoke/VarHandle"), (by decide +kernel : (parseMethodDescriptor yX10_group.desc).map (fun d => d.parameters.length) = some 2)⟩, Nat.le_of_ble_eq_true rfl⟩
noncomputable def f_X10_group (σ : Mem) (x0 : Int32) (x1 : Int32) : Option (Bool × Mem) :=
  (f_X6_areWeights σ x0 x1).bind (fun (b1 : Bool) => if b1 then (f_X10_beginGroupAct σ).bind (fun (σ2 : Mem) => (f_X6_reset σ2 2 x0 x1).bind (fun (σ3 : Mem) => (f_X4_follow σ3 2).bind (fun (σ4 : Mem) => some (true, σ4)))) else some (false, σ))
theorem t_X10_group {w : Wd} (hw : WOK w) {σ : Mem} {x0 : Int32} {x1 : Int32} : JO w mu_X10_group vB σ [(0, .ref (adr w 0)), (1, .int x0), (2, .int x1)] [] 0 (f_X10_group σ x0 x1) some := by
  unfold f_X10_group
  refine jo_iload_n (pc := 0) 1 rfl dX10_group_0 rfl ?_
  refine jo_iload_n (pc := 1) 2 rfl dX10_group_1 rfl ?_
  refine jo_cS_Z_p (pc := 2) (μ' := mu_X6_areWeights) (fx := f_X6_areWeights σ x0 x1) (As := [.int x0, .int x1]) (c_X6_areWeights hw) (ok_X6_areWeights) (ltb rfl) (all2 gw_687 gw_688) rfl rfl (Nat.le_of_ble_eq_true rfl) dX10_group_2 (fun b1 => ?_)
  refine jo_ifz_ne (pc := 5) dX10_group_5 (tgt := 10) rfl ?_ ?_
  · refine jo_aload_n (pc := 10) 0 rfl dX10_group_10 rfl ?_
    refine jo_cV_V_i (pc := 11) (μ' := mu_X10_beginGroupAct) (fx := f_X10_beginGroupAct σ) (As := []) (c_X10_beginGroupAct hw) (ok_X10_beginGroupAct) (ltb rfl) (all3 gw_690 gw_692 gw_9) (ik_0 hw) (by decide) (q := (RX10, TX10, 17)) rfl rfl rfl rfl (Nat.le_of_ble_eq_true rfl) dX10_group_11 (fun σ2 => ?_)
    refine jo_aload_n (pc := 14) 0 rfl dX10_group_14 rfl ?_
    refine jo_getrE (pc := 15) ok_10_0 (ik_0 hw) rf_0_0 gw_631 dX10_group_15 ?_
    refine jo_getrE (pc := 18) ok_8_0 (ik_1 hw) rf_1_0 gw_218 dX10_group_18 ?_
    refine jo_iload_n (pc := 21) 1 rfl dX10_group_21 rfl ?_
    refine jo_iload_n (pc := 22) 2 rfl dX10_group_22 rfl ?_
    refine jo_cV_V_i (pc := 23) (μ' := mu_X6_reset) (fx := f_X6_reset σ2 2 x0 x1) (As := [.int x0, .int x1]) (c_X6_reset hw (ik_2 hw)) (ok_X6_reset) (ltb rfl) (all3 gw_717 gw_517 gw_518) (ik_2 hw) (by decide) (q := (RX6, TX6, 3)) rfl rfl rfl rfl (Nat.le_of_ble_eq_true rfl) dX10_group_23 (fun σ3 => ?_)
    refine jo_aload_n (pc := 26) 0 rfl dX10_group_26 rfl ?_
    refine jo_getrE (pc := 27) ok_10_9 (ik_0 hw) rf_0_9 gw_640 dX10_group_27 ?_
    refine jo_aload_n (pc := 30) 0 rfl dX10_group_30 rfl ?_
    refine jo_getrE (pc := 31) ok_10_0 (ik_0 hw) rf_0_0 gw_631 dX10_group_31 ?_
    refine jo_getrE (pc := 34) ok_8_0 (ik_1 hw) rf_1_0 gw_218 dX10_group_34 ?_
    refine jo_cV_V_i (pc := 37) (μ' := mu_X4_follow) (fx := f_X4_follow σ3 2) (As := [.ref (adr w 2)]) (c_X4_follow hw (ik_2 hw)) (ok_X4_follow) (ltb rfl) (all3 gw_533 gw_534 gw_535) (ik_40 hw) (by decide) (q := (RX4, TX4, 9)) rfl rfl rfl rfl (Nat.le_of_ble_eq_true rfl) dX10_group_37 (fun σ4 => ?_)
    refine jo_iconst (pc := 40) dX10_group_40 (ic_i_1) ?_
    exact jo_breturn (pc := 41) (b := true) rfl rfl dX10_group_41
  · refine jo_iconst (pc := 8) dX10_group_8 (ic_i_0) ?_
    exact jo_breturn (pc := 9) (b := false) rfl rfl dX10_group_9
theorem c_X10_group {w : Wd} (hw : WOK w) {σ : Mem} {x0 : Int32} {x1 : Int32} : ∀ r σ', f_X10_group σ x0 x1 = some (r, σ') → MC w mu_X10_group (vB r) [.ref (adr w 0), .int x0, .int x1] σ σ' := mc_of ok_X10_group rfl (Nat.le_of_ble_eq_true rfl) (t_X10_group hw)
abbrev mu_X10_tail : MD := (yX10_tail, cX10_tail, 5, some .boolean, 7)
theorem ok_X10_tail : MOK mu_X10_tail 4 := ⟨gw_721, gw_158, (by decide +kernel : plainFor yX10_tail = true), ⟨(by decide +kernel : yX10_tail.cls ≠ "java/lang/invoke/MethodHandle"), (by decide +kernel : yX10_tail.cls ≠ "java/lang/invoke/VarHandle"), (by decide +kernel : (parseMethodDescriptor yX10_tail.desc).map (fun d => d.parameters.length) = some 4)⟩, Nat.le_of_ble_eq_true rfl⟩
noncomputable def f_X10_tail (σ : Mem) (x0 : Int32) (x1 : Int32) (x2 : Int32) (x3 : Int32) : Option (Bool × Mem) :=
  (f_X6_mayBe σ 2 (x0 - 1) (x1 - 1) (x2 - 1) x3).bind (fun (b1 : Bool) => if b1 then (f_X10_beginGroupAct σ).bind (fun (σ2 : Mem) => (f_X6_write σ2 2 (x0 - 1) (x1 - 1) (x2 - 1) x3).bind (fun (σ3 : Mem) => (f_X4_follow σ3 2).bind (fun (σ4 : Mem) => some (true, σ4)))) else some (false, σ))
theorem t_X10_tail {w : Wd} (hw : WOK w) {σ : Mem} {x0 : Int32} {x1 : Int32} {x2 : Int32} {x3 : Int32} : JO w mu_X10_tail vB σ [(0, .ref (adr w 0)), (1, .int x0), (2, .int x1), (3, .int x2), (4, .int x3)] [] 0 (f_X10_tail σ x0 x1 x2 x3) some := by
  unfold f_X10_tail
  refine jo_aload_n (pc := 0) 0 rfl dX10_tail_0 rfl ?_
  refine jo_getrE (pc := 1) ok_10_0 (ik_0 hw) rf_0_0 gw_631 dX10_tail_1 ?_
  refine jo_getrE (pc := 4) ok_8_0 (ik_1 hw) rf_1_0 gw_218 dX10_tail_4 ?_
  refine jo_iload_n (pc := 7) 1 rfl dX10_tail_7 rfl ?_
  refine jo_iconst (pc := 8) dX10_tail_8 (ic_i_1) ?_
  refine jo_isub (pc := 9) dX10_tail_9 ?_
  refine jo_iload_n (pc := 10) 2 rfl dX10_tail_10 rfl ?_
  refine jo_iconst (pc := 11) dX10_tail_11 (ic_i_1) ?_
  refine jo_isub (pc := 12) dX10_tail_12 ?_
  refine jo_iload_n (pc := 13) 3 rfl dX10_tail_13 rfl ?_
  refine jo_iconst (pc := 14) dX10_tail_14 (ic_i_1) ?_
  refine jo_isub (pc := 15) dX10_tail_15 ?_
  refine jo_iload (pc := 16) 4 rfl dX10_tail_16 ?_
  refine jo_cV_Z_p (pc := 18) (μ' := mu_X6_mayBe) (fx := f_X6_mayBe σ 2 (x0 - 1) (x1 - 1) (x2 - 1) x3) (As := [.int (x0 - 1), .int (x1 - 1), .int (x2 - 1), .int x3]) (c_X6_mayBe hw (ik_2 hw)) (ok_X6_mayBe) (ltb rfl) (all3 gw_722 gw_723 gw_724) (ik_2 hw) (by decide) (q := (RX6, TX6, 3)) rfl rfl rfl rfl (Nat.le_of_ble_eq_true rfl) dX10_tail_18 (fun b1 => ?_)
  refine jo_ifz_ne (pc := 21) dX10_tail_21 (tgt := 26) rfl ?_ ?_
  · refine jo_aload_n (pc := 26) 0 rfl dX10_tail_26 rfl ?_
    refine jo_cV_V_i (pc := 27) (μ' := mu_X10_beginGroupAct) (fx := f_X10_beginGroupAct σ) (As := []) (c_X10_beginGroupAct hw) (ok_X10_beginGroupAct) (ltb rfl) (all3 gw_690 gw_692 gw_9) (ik_0 hw) (by decide) (q := (RX10, TX10, 17)) rfl rfl rfl rfl (Nat.le_of_ble_eq_true rfl) dX10_tail_27 (fun σ2 => ?_)
    refine jo_aload_n (pc := 30) 0 rfl dX10_tail_30 rfl ?_
    refine jo_getrE (pc := 31) ok_10_0 (ik_0 hw) rf_0_0 gw_631 dX10_tail_31 ?_
    refine jo_getrE (pc := 34) ok_8_0 (ik_1 hw) rf_1_0 gw_218 dX10_tail_34 ?_
    refine jo_iload_n (pc := 37) 1 rfl dX10_tail_37 rfl ?_
    refine jo_iconst (pc := 38) dX10_tail_38 (ic_i_1) ?_
    refine jo_isub (pc := 39) dX10_tail_39 ?_
    refine jo_iload_n (pc := 40) 2 rfl dX10_tail_40 rfl ?_
    refine jo_iconst (pc := 41) dX10_tail_41 (ic_i_1) ?_
    refine jo_isub (pc := 42) dX10_tail_42 ?_
    refine jo_iload_n (pc := 43) 3 rfl dX10_tail_43 rfl ?_
    refine jo_iconst (pc := 44) dX10_tail_44 (ic_i_1) ?_
    refine jo_isub (pc := 45) dX10_tail_45 ?_
    refine jo_iload (pc := 46) 4 rfl dX10_tail_46 ?_
    refine jo_cV_V_i (pc := 48) (μ' := mu_X6_write) (fx := f_X6_write σ2 2 (x0 - 1) (x1 - 1) (x2 - 1) x3) (As := [.int (x0 - 1), .int (x1 - 1), .int (x2 - 1), .int x3]) (c_X6_write hw (ik_2 hw)) (ok_X6_write) (ltb rfl) (all3 gw_726 gw_526 gw_527) (ik_2 hw) (by decide) (q := (RX6, TX6, 3)) rfl rfl rfl rfl (Nat.le_of_ble_eq_true rfl) dX10_tail_48 (fun σ3 => ?_)
    refine jo_aload_n (pc := 51) 0 rfl dX10_tail_51 rfl ?_
    refine jo_getrE (pc := 52) ok_10_9 (ik_0 hw) rf_0_9 gw_640 dX10_tail_52 ?_
    refine jo_aload_n (pc := 55) 0 rfl dX10_tail_55 rfl ?_
    refine jo_getrE (pc := 56) ok_10_0 (ik_0 hw) rf_0_0 gw_631 dX10_tail_56 ?_
    refine jo_getrE (pc := 59) ok_8_0 (ik_1 hw) rf_1_0 gw_218 dX10_tail_59 ?_
    refine jo_cV_V_i (pc := 62) (μ' := mu_X4_follow) (fx := f_X4_follow σ3 2) (As := [.ref (adr w 2)]) (c_X4_follow hw (ik_2 hw)) (ok_X4_follow) (ltb rfl) (all3 gw_533 gw_534 gw_535) (ik_40 hw) (by decide) (q := (RX4, TX4, 9)) rfl rfl rfl rfl (Nat.le_of_ble_eq_true rfl) dX10_tail_62 (fun σ4 => ?_)
    refine jo_iconst (pc := 65) dX10_tail_65 (ic_i_1) ?_
    exact jo_breturn (pc := 66) (b := true) rfl rfl dX10_tail_66
  · refine jo_iconst (pc := 24) dX10_tail_24 (ic_i_0) ?_
    exact jo_breturn (pc := 25) (b := false) rfl rfl dX10_tail_25
theorem c_X10_tail {w : Wd} (hw : WOK w) {σ : Mem} {x0 : Int32} {x1 : Int32} {x2 : Int32} {x3 : Int32} : ∀ r σ', f_X10_tail σ x0 x1 x2 x3 = some (r, σ') → MC w mu_X10_tail (vB r) [.ref (adr w 0), .int x0, .int x1, .int x2, .int x3] σ σ' := mc_of ok_X10_tail rfl (Nat.le_of_ble_eq_true rfl) (t_X10_tail hw)
abbrev mu_X10_kind : MD := (yX10_kind, cX10_kind, 2, some .boolean, 7)
theorem ok_X10_kind : MOK mu_X10_kind 1 := ⟨gw_730, gw_158, (by decide +kernel : plainFor yX10_kind = true), ⟨(by decide +kernel : yX10_kind.cls ≠ "java/lang/invoke/MethodHandle"), (by decide +kernel : yX10_kind.cls ≠ "java/lang/invoke/VarHandle"), (by decide +kernel : (parseMethodDescriptor yX10_kind.desc).map (fun d => d.parameters.length) = some 1)⟩, Nat.le_of_ble_eq_true rfl⟩
noncomputable def f_X10_kind (σ : Mem) (x0 : Int32) : Option (Bool × Mem) :=
  if x0 < 0 then (some (false, σ)) else (if x0 < (Int32.ofNat (tabL 0)) then ((f_X10_beginGroupAct σ).bind (fun (σ1 : Mem) => (f_X6_takeKind σ1 2 x0).bind (fun (σ2 : Mem) => (f_X4_follow σ2 2).bind (fun (σ3 : Mem) => some (true, σ3))))) else (some (false, σ)))
theorem t_X10_kind {w : Wd} (hw : WOK w) {σ : Mem} {x0 : Int32} : JO w mu_X10_kind vB σ [(0, .ref (adr w 0)), (1, .int x0)] [] 0 (f_X10_kind σ x0) some := by
  unfold f_X10_kind
  refine jo_iload_n (pc := 0) 1 rfl dX10_kind_0 rfl ?_
  refine jo_if_lt (pc := 1) dX10_kind_1 (tgt := 12) rfl ?_ ?_
  · refine jo_iconst (pc := 12) dX10_kind_12 (ic_i_0) ?_
    exact jo_breturn (pc := 13) (b := false) rfl rfl dX10_kind_13
  · refine jo_iload_n (pc := 4) 1 rfl dX10_kind_4 rfl ?_
    refine jo_gets (pc := 5) (k := 0) (by decide) gw_731 dX10_kind_5 ?_
    refine jo_tablen (pc := 8) (by decide) dX10_kind_8 ?_
    refine jo_icmp_lt (pc := 9) dX10_kind_9 (tgt := 14) rfl ?_ ?_
    · refine jo_aload_n (pc := 14) 0 rfl dX10_kind_14 rfl ?_
      refine jo_cV_V_i (pc := 15) (μ' := mu_X10_beginGroupAct) (fx := f_X10_beginGroupAct σ) (As := []) (c_X10_beginGroupAct hw) (ok_X10_beginGroupAct) (ltb rfl) (all3 gw_690 gw_692 gw_9) (ik_0 hw) (by decide) (q := (RX10, TX10, 17)) rfl rfl rfl rfl (Nat.le_of_ble_eq_true rfl) dX10_kind_15 (fun σ1 => ?_)
      refine jo_aload_n (pc := 18) 0 rfl dX10_kind_18 rfl ?_
      refine jo_getrE (pc := 19) ok_10_0 (ik_0 hw) rf_0_0 gw_631 dX10_kind_19 ?_
      refine jo_getrE (pc := 22) ok_8_0 (ik_1 hw) rf_1_0 gw_218 dX10_kind_22 ?_
      refine jo_iload_n (pc := 25) 1 rfl dX10_kind_25 rfl ?_
      refine jo_cV_V_i (pc := 26) (μ' := mu_X6_takeKind) (fx := f_X6_takeKind σ1 2 x0) (As := [.int x0]) (c_X6_takeKind hw (ik_2 hw)) (ok_X6_takeKind) (ltb rfl) (all3 gw_508 gw_509 gw_510) (ik_2 hw) (by decide) (q := (RX6, TX6, 3)) rfl rfl rfl rfl (Nat.le_of_ble_eq_true rfl) dX10_kind_26 (fun σ2 => ?_)
      refine jo_aload_n (pc := 29) 0 rfl dX10_kind_29 rfl ?_
      refine jo_getrE (pc := 30) ok_10_9 (ik_0 hw) rf_0_9 gw_640 dX10_kind_30 ?_
      refine jo_aload_n (pc := 33) 0 rfl dX10_kind_33 rfl ?_
      refine jo_getrE (pc := 34) ok_10_0 (ik_0 hw) rf_0_0 gw_631 dX10_kind_34 ?_
      refine jo_getrE (pc := 37) ok_8_0 (ik_1 hw) rf_1_0 gw_218 dX10_kind_37 ?_
      refine jo_cV_V_i (pc := 40) (μ' := mu_X4_follow) (fx := f_X4_follow σ2 2) (As := [.ref (adr w 2)]) (c_X4_follow hw (ik_2 hw)) (ok_X4_follow) (ltb rfl) (all3 gw_533 gw_534 gw_535) (ik_40 hw) (by decide) (q := (RX4, TX4, 9)) rfl rfl rfl rfl (Nat.le_of_ble_eq_true rfl) dX10_kind_40 (fun σ3 => ?_)
      refine jo_iconst (pc := 43) dX10_kind_43 (ic_i_1) ?_
      exact jo_breturn (pc := 44) (b := true) rfl rfl dX10_kind_44
    · refine jo_iconst (pc := 12) dX10_kind_12 (ic_i_0) ?_
      exact jo_breturn (pc := 13) (b := false) rfl rfl dX10_kind_13
theorem c_X10_kind {w : Wd} (hw : WOK w) {σ : Mem} {x0 : Int32} : ∀ r σ', f_X10_kind σ x0 = some (r, σ') → MC w mu_X10_kind (vB r) [.ref (adr w 0), .int x0] σ σ' := mc_of ok_X10_kind rfl (Nat.le_of_ble_eq_true rfl) (t_X10_kind hw)
abbrev mu_X10_bit : MD := (yX10_bit, cX10_bit, 1, some .int, 0)
theorem ok_X10_bit : MOK mu_X10_bit 1 := ⟨gw_738, gw_158, (by decide +kernel : plainFor yX10_bit = true), ⟨(by decide +kernel : yX10_bit.cls ≠ "java/lang/invoke/MethodHandle"), (by decide +kernel : yX10_bit.cls ≠ "java/lang/invoke/VarHandle"), (by decide +kernel : (parseMethodDescriptor yX10_bit.desc).map (fun d => d.parameters.length) = some 1)⟩, Nat.le_of_ble_eq_true rfl⟩
noncomputable def f_X10_bit (σ : Mem) (x0 : Bool) : Option Int32 :=
  if x0 then some 1 else some 0
theorem t_X10_bit {w : Wd} (hw : WOK w) {σ : Mem} {x0 : Bool} : JO w mu_X10_bit vI σ [(0, .int (b2i x0))] [] 0 (f_X10_bit σ x0) (fun z => some (z, σ)) := by
  unfold f_X10_bit
  refine jo_iload_n (pc := 0) 0 rfl dX10_bit_0 rfl ?_
  refine jo_ifz_eq (pc := 1) dX10_bit_1 (tgt := 8) rfl ?_ ?_
  · refine jo_iconst (pc := 8) dX10_bit_8 (ic_i_0) ?_
    exact jo_ireturn (pc := 9) rfl rfl dX10_bit_9
  · refine jo_iconst (pc := 4) dX10_bit_4 (ic_i_1) ?_
    refine jo_goto (pc := 5) dX10_bit_5 (tgt := 9) rfl ?_
    exact jo_ireturn (pc := 9) rfl rfl dX10_bit_9
theorem c_X10_bit {w : Wd} (hw : WOK w) {σ : Mem} {x0 : Bool} : ∀ r, f_X10_bit σ x0 = some r → MC w mu_X10_bit (vI r) [.int (b2i x0)] σ σ := mc_ofP ok_X10_bit rfl (Nat.le_of_ble_eq_true rfl) (t_X10_bit hw)
abbrev mu_X10_consistent : MD := (yX10_consistent, cX10_consistent, 1, some .int, 1)
theorem ok_X10_consistent : MOK mu_X10_consistent 0 := ⟨gw_735, gw_158, (by decide +kernel : plainFor yX10_consistent = true), ⟨(by decide +kernel : yX10_consistent.cls ≠ "java/lang/invoke/MethodHandle"), (by decide +kernel : yX10_consistent.cls ≠ "java/lang/invoke/VarHandle"), (by decide +kernel : (parseMethodDescriptor yX10_consistent.desc).map (fun d => d.parameters.length) = some 0)⟩, Nat.le_of_ble_eq_true rfl⟩
noncomputable def f_X10_consistent (σ : Mem) : Option Int32 :=
  gZ σ 40 3 (fun (b1 : Bool) => (f_X10_bit σ b1).bind (fun (v2 : Int32) => some v2))
theorem t_X10_consistent {w : Wd} (hw : WOK w) {σ : Mem} : JO w mu_X10_consistent vI σ [(0, .ref (adr w 0))] [] 0 (f_X10_consistent σ) (fun z => some (z, σ)) := by
  unfold f_X10_consistent
  refine jo_aload_n (pc := 0) 0 rfl dX10_consistent_0 rfl ?_
  refine jo_getrE (pc := 1) ok_10_9 (ik_0 hw) rf_0_9 gw_640 dX10_consistent_1 ?_
  refine jo_getz (pc := 4) ok_4_3 (ik_40 hw) gw_308 dX10_consistent_4 (fun b1 => ?_)
  refine jo_cS_I_p (pc := 7) (μ' := mu_X10_bit) (fx := f_X10_bit σ b1) (As := [.int (b2i b1)]) (c_X10_bit hw) (ok_X10_bit) (ltb rfl) (all2 gw_736 gw_737) rfl rfl (Nat.le_of_ble_eq_true rfl) dX10_consistent_7 (fun v2 => ?_)
  exact jo_ireturn (pc := 10) rfl rfl dX10_consistent_10
theorem c_X10_consistent {w : Wd} (hw : WOK w) {σ : Mem} : ∀ r, f_X10_consistent σ = some r → MC w mu_X10_consistent (vI r) [.ref (adr w 0)] σ σ := mc_ofP ok_X10_consistent rfl (Nat.le_of_ble_eq_true rfl) (t_X10_consistent hw)
abbrev mu_X10_isGenerator : MD := (yX10_isGenerator, cX10_isGenerator, 2, some .boolean, 0)
theorem ok_X10_isGenerator : MOK mu_X10_isGenerator 1 := ⟨gw_746, gw_158, (by decide +kernel : plainFor yX10_isGenerator = true), ⟨(by decide +kernel : yX10_isGenerator.cls ≠ "java/lang/invoke/MethodHandle"), (by decide +kernel : yX10_isGenerator.cls ≠ "java/lang/invoke/VarHandle"), (by decide +kernel : (parseMethodDescriptor yX10_isGenerator.desc).map (fun d => d.parameters.length) = some 1)⟩, Nat.le_of_ble_eq_true rfl⟩
noncomputable def j_X10_isGenerator_23  : Option Bool :=
  some false
noncomputable def f_X10_isGenerator (σ : Mem) (x0 : Int32) : Option Bool :=
  (if x0 < 1 then (some (Sum.inl ())) else (gF σ 2 0 (fun (v1 : Int32) => if v1 < x0 then (some (Sum.inl ())) else (some (Sum.inr true)))) : Option (Unit ⊕ Bool)).bind (Sum.elim (fun (z0 : Unit) => j_X10_isGenerator_23) some)
theorem t_X10_isGenerator {w : Wd} (hw : WOK w) {σ : Mem} {x0 : Int32} : JO w mu_X10_isGenerator vB σ [(0, .ref (adr w 0)), (1, .int x0)] [] 0 (f_X10_isGenerator σ x0) (fun z => some (z, σ)) := by
  unfold f_X10_isGenerator
  refine jo_iload_n (pc := 0) 1 rfl dX10_isGenerator_0 rfl ?_
  refine jo_iconst (pc := 1) dX10_isGenerator_1 (ic_i_1) ?_
  refine jo_joinS (S := Unit) (fun (z0 : Unit) => σ) (fun (z0 : Unit) => []) (fun (z0 : Unit) => []) 23 ?_ (fun h23_0 => ?_)
  · intro _
    show JO w mu_X10_isGenerator vB σ [] [] 23 (j_X10_isGenerator_23) _
    unfold j_X10_isGenerator_23
    refine jo_iconst (pc := 23) dX10_isGenerator_23 (ic_i_0) ?_
    exact jo_breturn (pc := 24) (b := false) rfl rfl dX10_isGenerator_24
  · refine jo_icmp_lt (pc := 2) dX10_isGenerator_2 (tgt := 23) rfl ?_ ?_
    · refine jo_lv (lv' := []) [] rfl ?_
      exact jo_leaf (by rfl) (h23_0 ())
    · refine jo_iload_n (pc := 5) 1 rfl dX10_isGenerator_5 rfl ?_
      refine jo_aload_n (pc := 6) 0 rfl dX10_isGenerator_6 rfl ?_
      refine jo_getrE (pc := 7) ok_10_0 (ik_0 hw) rf_0_0 gw_631 dX10_isGenerator_7 ?_
      refine jo_getrE (pc := 10) ok_8_0 (ik_1 hw) rf_1_0 gw_218 dX10_isGenerator_10 ?_
      refine jo_getf (pc := 13) ok_6_0 (ik_2 hw) gw_198 dX10_isGenerator_13 (fun v1 => ?_)
      refine jo_icmp_gt (pc := 16) dX10_isGenerator_16 (tgt := 23) rfl ?_ ?_
      · refine jo_lv (lv' := []) [] rfl ?_
        exact jo_leaf (by rfl) (h23_0 ())
      · refine jo_iconst (pc := 19) dX10_isGenerator_19 (ic_i_1) ?_
        refine jo_goto (pc := 20) dX10_isGenerator_20 (tgt := 24) rfl ?_
        exact jo_breturn (pc := 24) (b := true) rfl rfl dX10_isGenerator_24
theorem c_X10_isGenerator {w : Wd} (hw : WOK w) {σ : Mem} {x0 : Int32} : ∀ r, f_X10_isGenerator σ x0 = some r → MC w mu_X10_isGenerator (vB r) [.ref (adr w 0), .int x0] σ σ := mc_ofP ok_X10_isGenerator rfl (Nat.le_of_ble_eq_true rfl) (t_X10_isGenerator hw)
abbrev mu_X10_generator : MD := (yX10_generator, cX10_generator, 3, some .int, 3)
theorem ok_X10_generator : MOK mu_X10_generator 2 := ⟨gw_742, gw_158, (by decide +kernel : plainFor yX10_generator = true), ⟨(by decide +kernel : yX10_generator.cls ≠ "java/lang/invoke/MethodHandle"), (by decide +kernel : yX10_generator.cls ≠ "java/lang/invoke/VarHandle"), (by decide +kernel : (parseMethodDescriptor yX10_generator.desc).map (fun d => d.parameters.length) = some 2)⟩, Nat.le_of_ble_eq_true rfl⟩
noncomputable def f_X10_generator (σ : Mem) (x0 : Int32) (x1 : Int32) : Option Int32 :=
  (f_X10_isGenerator σ x0).bind (fun (b1 : Bool) => if b1 then if x1 < 0 then (some (-1)) else (if x1 ≤ 1 then (if x1 = 0 then (gI σ 3 (x0 - 1) (fun (v5 : Int32) => some v5)) else (gZ σ 40 3 (fun (b2 : Bool) => if b2 then (f_X6_isCentral σ 2 (x0 - 1)).bind (fun (b3 : Bool) => (f_X10_bit σ b3).bind (fun (v4 : Int32) => some v4)) else some (-1)))) else (some (-1))) else some (-1))
theorem t_X10_generator {w : Wd} (hw : WOK w) {σ : Mem} {x0 : Int32} {x1 : Int32} : JO w mu_X10_generator vI σ [(0, .ref (adr w 0)), (1, .int x0), (2, .int x1)] [] 0 (f_X10_generator σ x0 x1) (fun z => some (z, σ)) := by
  unfold f_X10_generator
  refine jo_aload_n (pc := 0) 0 rfl dX10_generator_0 rfl ?_
  refine jo_iload_n (pc := 1) 1 rfl dX10_generator_1 rfl ?_
  refine jo_cV_Z_p (pc := 2) (μ' := mu_X10_isGenerator) (fx := f_X10_isGenerator σ x0) (As := [.int x0]) (c_X10_isGenerator hw) (ok_X10_isGenerator) (ltb rfl) (all3 gw_743 gw_745 gw_11) (ik_0 hw) (by decide) (q := (RX10, TX10, 17)) rfl rfl rfl rfl (Nat.le_of_ble_eq_true rfl) dX10_generator_2 (fun b1 => ?_)
  refine jo_ifz_eq (pc := 5) dX10_generator_5 (tgt := 17) rfl ?_ ?_
  · refine jo_iconst (pc := 17) dX10_generator_17 (ic_i_m1) ?_
    exact jo_ireturn (pc := 18) rfl rfl dX10_generator_18
  · refine jo_iload_n (pc := 8) 2 rfl dX10_generator_8 rfl ?_
    refine jo_if_lt (pc := 9) dX10_generator_9 (tgt := 17) rfl ?_ ?_
    · refine jo_iconst (pc := 17) dX10_generator_17 (ic_i_m1) ?_
      exact jo_ireturn (pc := 18) rfl rfl dX10_generator_18
    · refine jo_iload_n (pc := 12) 2 rfl dX10_generator_12 rfl ?_
      refine jo_iconst (pc := 13) dX10_generator_13 (ic_i_1) ?_
      refine jo_icmp_le (pc := 14) dX10_generator_14 (tgt := 19) rfl ?_ ?_
      · refine jo_iload_n (pc := 19) 2 rfl dX10_generator_19 rfl ?_
        refine jo_if_ne (pc := 20) dX10_generator_20 (tgt := 38) rfl ?_ ?_
        · refine jo_aload_n (pc := 38) 0 rfl dX10_generator_38 rfl ?_
          refine jo_getrE (pc := 39) ok_10_9 (ik_0 hw) rf_0_9 gw_640 dX10_generator_39 ?_
          refine jo_getz (pc := 42) ok_4_3 (ik_40 hw) gw_308 dX10_generator_42 (fun b2 => ?_)
          refine jo_ifz_eq (pc := 45) dX10_generator_45 (tgt := 67) rfl ?_ ?_
          · refine jo_iconst (pc := 67) dX10_generator_67 (ic_i_m1) ?_
            exact jo_ireturn (pc := 68) rfl rfl dX10_generator_68
          · refine jo_aload_n (pc := 48) 0 rfl dX10_generator_48 rfl ?_
            refine jo_getrE (pc := 49) ok_10_0 (ik_0 hw) rf_0_0 gw_631 dX10_generator_49 ?_
            refine jo_getrE (pc := 52) ok_8_0 (ik_1 hw) rf_1_0 gw_218 dX10_generator_52 ?_
            refine jo_iload_n (pc := 55) 1 rfl dX10_generator_55 rfl ?_
            refine jo_iconst (pc := 56) dX10_generator_56 (ic_i_1) ?_
            refine jo_isub (pc := 57) dX10_generator_57 ?_
            refine jo_cV_Z_p (pc := 58) (μ' := mu_X6_isCentral) (fx := f_X6_isCentral σ 2 (x0 - 1)) (As := [.int (x0 - 1)]) (c_X6_isCentral hw (ik_2 hw)) (ok_X6_isCentral) (ltb rfl) (all3 gw_747 gw_748 gw_749) (ik_2 hw) (by decide) (q := (RX6, TX6, 3)) rfl rfl rfl rfl (Nat.le_of_ble_eq_true rfl) dX10_generator_58 (fun b3 => ?_)
            refine jo_cS_I_p (pc := 61) (μ' := mu_X10_bit) (fx := f_X10_bit σ b3) (As := [.int (b2i b3)]) (c_X10_bit hw) (ok_X10_bit) (ltb rfl) (all2 gw_736 gw_737) rfl rfl (Nat.le_of_ble_eq_true rfl) dX10_generator_61 (fun v4 => ?_)
            refine jo_goto (pc := 64) dX10_generator_64 (tgt := 68) rfl ?_
            exact jo_ireturn (pc := 68) rfl rfl dX10_generator_68
        · refine jo_aload_n (pc := 23) 0 rfl dX10_generator_23 rfl ?_
          refine jo_getrE (pc := 24) ok_10_0 (ik_0 hw) rf_0_0 gw_631 dX10_generator_24 ?_
          refine jo_getrE (pc := 27) ok_8_0 (ik_1 hw) rf_1_0 gw_218 dX10_generator_27 ?_
          refine jo_getrE (pc := 30) ok_6_1 (ik_2 hw) rf_2_1 gw_203 dX10_generator_30 ?_
          refine jo_iload_n (pc := 33) 1 rfl dX10_generator_33 rfl ?_
          refine jo_iconst (pc := 34) dX10_generator_34 (ic_i_1) ?_
          refine jo_isub (pc := 35) dX10_generator_35 ?_
          refine jo_iald (pc := 36) (ik_3 hw) dX10_generator_36 (fun v5 => ?_)
          exact jo_ireturn (pc := 37) rfl rfl dX10_generator_37
      · refine jo_iconst (pc := 17) dX10_generator_17 (ic_i_m1) ?_
        exact jo_ireturn (pc := 18) rfl rfl dX10_generator_18
theorem c_X10_generator {w : Wd} (hw : WOK w) {σ : Mem} {x0 : Int32} {x1 : Int32} : ∀ r, f_X10_generator σ x0 x1 = some r → MC w mu_X10_generator (vI r) [.ref (adr w 0), .int x0, .int x1] σ σ := mc_ofP ok_X10_generator rfl (Nat.le_of_ble_eq_true rfl) (t_X10_generator hw)
abbrev mu_X10_tailOf : MD := (yX10_tailOf, cX10_tailOf, 4, some .int, 2)
theorem ok_X10_tailOf : MOK mu_X10_tailOf 3 := ⟨gw_759, gw_158, (by decide +kernel : plainFor yX10_tailOf = true), ⟨(by decide +kernel : yX10_tailOf.cls ≠ "java/lang/invoke/MethodHandle"), (by decide +kernel : yX10_tailOf.cls ≠ "java/lang/invoke/VarHandle"), (by decide +kernel : (parseMethodDescriptor yX10_tailOf.desc).map (fun d => d.parameters.length) = some 3)⟩, Nat.le_of_ble_eq_true rfl⟩
noncomputable def f_X10_tailOf (σ : Mem) (x0 : Int32) (x1 : Int32) (x2 : Int32) : Option Int32 :=
  (f_X6_isTail σ 2 (x0 - 1) (x1 - 1) (x2 - 1)).bind (fun (b1 : Bool) => if b1 then (f_X6_read σ 2 (x0 - 1) (x1 - 1) (x2 - 1)).bind (fun (v2 : Int32) => some v2) else some (-1))
theorem t_X10_tailOf {w : Wd} (hw : WOK w) {σ : Mem} {x0 : Int32} {x1 : Int32} {x2 : Int32} : JO w mu_X10_tailOf vI σ [(0, .ref (adr w 0)), (1, .int x0), (2, .int x1), (3, .int x2)] [] 0 (f_X10_tailOf σ x0 x1 x2) (fun z => some (z, σ)) := by
  unfold f_X10_tailOf
  refine jo_aload_n (pc := 0) 0 rfl dX10_tailOf_0 rfl ?_
  refine jo_getrE (pc := 1) ok_10_0 (ik_0 hw) rf_0_0 gw_631 dX10_tailOf_1 ?_
  refine jo_getrE (pc := 4) ok_8_0 (ik_1 hw) rf_1_0 gw_218 dX10_tailOf_4 ?_
  refine jo_iload_n (pc := 7) 1 rfl dX10_tailOf_7 rfl ?_
  refine jo_iconst (pc := 8) dX10_tailOf_8 (ic_i_1) ?_
  refine jo_isub (pc := 9) dX10_tailOf_9 ?_
  refine jo_iload_n (pc := 10) 2 rfl dX10_tailOf_10 rfl ?_
  refine jo_iconst (pc := 11) dX10_tailOf_11 (ic_i_1) ?_
  refine jo_isub (pc := 12) dX10_tailOf_12 ?_
  refine jo_iload_n (pc := 13) 3 rfl dX10_tailOf_13 rfl ?_
  refine jo_iconst (pc := 14) dX10_tailOf_14 (ic_i_1) ?_
  refine jo_isub (pc := 15) dX10_tailOf_15 ?_
  refine jo_cV_Z_p (pc := 16) (μ' := mu_X6_isTail) (fx := f_X6_isTail σ 2 (x0 - 1) (x1 - 1) (x2 - 1)) (As := [.int (x0 - 1), .int (x1 - 1), .int (x2 - 1)]) (c_X6_isTail hw (ik_2 hw)) (ok_X6_isTail) (ltb rfl) (all3 gw_760 gw_530 gw_531) (ik_2 hw) (by decide) (q := (RX6, TX6, 3)) rfl rfl rfl rfl (Nat.le_of_ble_eq_true rfl) dX10_tailOf_16 (fun b1 => ?_)
  refine jo_ifz_eq (pc := 19) dX10_tailOf_19 (tgt := 44) rfl ?_ ?_
  · refine jo_iconst (pc := 44) dX10_tailOf_44 (ic_i_m1) ?_
    exact jo_ireturn (pc := 45) rfl rfl dX10_tailOf_45
  · refine jo_aload_n (pc := 22) 0 rfl dX10_tailOf_22 rfl ?_
    refine jo_getrE (pc := 23) ok_10_0 (ik_0 hw) rf_0_0 gw_631 dX10_tailOf_23 ?_
    refine jo_getrE (pc := 26) ok_8_0 (ik_1 hw) rf_1_0 gw_218 dX10_tailOf_26 ?_
    refine jo_iload_n (pc := 29) 1 rfl dX10_tailOf_29 rfl ?_
    refine jo_iconst (pc := 30) dX10_tailOf_30 (ic_i_1) ?_
    refine jo_isub (pc := 31) dX10_tailOf_31 ?_
    refine jo_iload_n (pc := 32) 2 rfl dX10_tailOf_32 rfl ?_
    refine jo_iconst (pc := 33) dX10_tailOf_33 (ic_i_1) ?_
    refine jo_isub (pc := 34) dX10_tailOf_34 ?_
    refine jo_iload_n (pc := 35) 3 rfl dX10_tailOf_35 rfl ?_
    refine jo_iconst (pc := 36) dX10_tailOf_36 (ic_i_1) ?_
    refine jo_isub (pc := 37) dX10_tailOf_37 ?_
    refine jo_cV_I_p (pc := 38) (μ' := mu_X6_read) (fx := f_X6_read σ 2 (x0 - 1) (x1 - 1) (x2 - 1)) (As := [.int (x0 - 1), .int (x1 - 1), .int (x2 - 1)]) (c_X6_read hw (ik_2 hw)) (ok_X6_read) (ltb rfl) (all3 gw_761 gw_569 gw_570) (ik_2 hw) (by decide) (q := (RX6, TX6, 3)) rfl rfl rfl rfl (Nat.le_of_ble_eq_true rfl) dX10_tailOf_38 (fun v2 => ?_)
    refine jo_goto (pc := 41) dX10_tailOf_41 (tgt := 45) rfl ?_
    exact jo_ireturn (pc := 45) rfl rfl dX10_tailOf_45
theorem c_X10_tailOf {w : Wd} (hw : WOK w) {σ : Mem} {x0 : Int32} {x1 : Int32} {x2 : Int32} : ∀ r, f_X10_tailOf σ x0 x1 x2 = some r → MC w mu_X10_tailOf (vI r) [.ref (adr w 0), .int x0, .int x1, .int x2] σ σ := mc_ofP ok_X10_tailOf rfl (Nat.le_of_ble_eq_true rfl) (t_X10_tailOf hw)
abbrev mu_X10_hasPolynomial : MD := (yX10_hasPolynomial, cX10_hasPolynomial, 2, some .boolean, 1)
theorem ok_X10_hasPolynomial : MOK mu_X10_hasPolynomial 1 := ⟨gw_769, gw_158, (by decide +kernel : plainFor yX10_hasPolynomial = true), ⟨(by decide +kernel : yX10_hasPolynomial.cls ≠ "java/lang/invoke/MethodHandle"), (by decide +kernel : yX10_hasPolynomial.cls ≠ "java/lang/invoke/VarHandle"), (by decide +kernel : (parseMethodDescriptor yX10_hasPolynomial.desc).map (fun d => d.parameters.length) = some 1)⟩, Nat.le_of_ble_eq_true rfl⟩
noncomputable def j_X10_hasPolynomial_22  : Option Bool :=
  some false
noncomputable def f_X10_hasPolynomial (σ : Mem) (x0 : Int32) : Option Bool :=
  (f_X10_isGenerator σ x0).bind (fun (b1 : Bool) => (if b1 then gZ σ 40 3 (fun (b2 : Bool) => if b2 then some (Sum.inr true) else some (Sum.inl ())) else some (Sum.inl ()) : Option (Unit ⊕ Bool)).bind (Sum.elim (fun (z1 : Unit) => j_X10_hasPolynomial_22) some))
theorem t_X10_hasPolynomial {w : Wd} (hw : WOK w) {σ : Mem} {x0 : Int32} : JO w mu_X10_hasPolynomial vB σ [(0, .ref (adr w 0)), (1, .int x0)] [] 0 (f_X10_hasPolynomial σ x0) (fun z => some (z, σ)) := by
  unfold f_X10_hasPolynomial
  refine jo_aload_n (pc := 0) 0 rfl dX10_hasPolynomial_0 rfl ?_
  refine jo_iload_n (pc := 1) 1 rfl dX10_hasPolynomial_1 rfl ?_
  refine jo_cV_Z_p (pc := 2) (μ' := mu_X10_isGenerator) (fx := f_X10_isGenerator σ x0) (As := [.int x0]) (c_X10_isGenerator hw) (ok_X10_isGenerator) (ltb rfl) (all3 gw_743 gw_745 gw_11) (ik_0 hw) (by decide) (q := (RX10, TX10, 17)) rfl rfl rfl rfl (Nat.le_of_ble_eq_true rfl) dX10_hasPolynomial_2 (fun b1 => ?_)
  refine jo_joinS (S := Unit) (fun (z1 : Unit) => σ) (fun (z1 : Unit) => []) (fun (z1 : Unit) => []) 22 ?_ (fun h22_1 => ?_)
  · intro _
    show JO w mu_X10_hasPolynomial vB σ [] [] 22 (j_X10_hasPolynomial_22) _
    unfold j_X10_hasPolynomial_22
    refine jo_iconst (pc := 22) dX10_hasPolynomial_22 (ic_i_0) ?_
    exact jo_breturn (pc := 23) (b := false) rfl rfl dX10_hasPolynomial_23
  · refine jo_ifz_eq (pc := 5) dX10_hasPolynomial_5 (tgt := 22) rfl ?_ ?_
    · refine jo_lv (lv' := []) [] rfl ?_
      exact jo_leaf (by rfl) (h22_1 ())
    · refine jo_aload_n (pc := 8) 0 rfl dX10_hasPolynomial_8 rfl ?_
      refine jo_getrE (pc := 9) ok_10_9 (ik_0 hw) rf_0_9 gw_640 dX10_hasPolynomial_9 ?_
      refine jo_getz (pc := 12) ok_4_3 (ik_40 hw) gw_308 dX10_hasPolynomial_12 (fun b2 => ?_)
      refine jo_ifz_eq (pc := 15) dX10_hasPolynomial_15 (tgt := 22) rfl ?_ ?_
      · refine jo_lv (lv' := []) [] rfl ?_
        exact jo_leaf (by rfl) (h22_1 ())
      · refine jo_iconst (pc := 18) dX10_hasPolynomial_18 (ic_i_1) ?_
        refine jo_goto (pc := 19) dX10_hasPolynomial_19 (tgt := 23) rfl ?_
        exact jo_breturn (pc := 23) (b := true) rfl rfl dX10_hasPolynomial_23
theorem c_X10_hasPolynomial {w : Wd} (hw : WOK w) {σ : Mem} {x0 : Int32} : ∀ r, f_X10_hasPolynomial σ x0 = some r → MC w mu_X10_hasPolynomial (vB r) [.ref (adr w 0), .int x0] σ σ := mc_ofP ok_X10_hasPolynomial rfl (Nat.le_of_ble_eq_true rfl) (t_X10_hasPolynomial hw)
abbrev mu_X10_terms : MD := (yX10_terms, cX10_terms, 2, some .int, 2)
theorem ok_X10_terms : MOK mu_X10_terms 1 := ⟨gw_765, gw_158, (by decide +kernel : plainFor yX10_terms = true), ⟨(by decide +kernel : yX10_terms.cls ≠ "java/lang/invoke/MethodHandle"), (by decide +kernel : yX10_terms.cls ≠ "java/lang/invoke/VarHandle"), (by decide +kernel : (parseMethodDescriptor yX10_terms.desc).map (fun d => d.parameters.length) = some 1)⟩, Nat.le_of_ble_eq_true rfl⟩
noncomputable def f_X10_terms (σ : Mem) (x0 : Int32) : Option Int32 :=
  (f_X10_hasPolynomial σ x0).bind (fun (b1 : Bool) => if b1 then gR 44 (x0 - 1) (fun (p2 : Nat) => gF σ p2 0 (fun (v3 : Int32) => some v3)) else some (-1))
theorem t_X10_terms {w : Wd} (hw : WOK w) {σ : Mem} {x0 : Int32} : JO w mu_X10_terms vI σ [(0, .ref (adr w 0)), (1, .int x0)] [] 0 (f_X10_terms σ x0) (fun z => some (z, σ)) := by
  unfold f_X10_terms
  refine jo_aload_n (pc := 0) 0 rfl dX10_terms_0 rfl ?_
  refine jo_iload_n (pc := 1) 1 rfl dX10_terms_1 rfl ?_
  refine jo_cV_Z_p (pc := 2) (μ' := mu_X10_hasPolynomial) (fx := f_X10_hasPolynomial σ x0) (As := [.int x0]) (c_X10_hasPolynomial hw) (ok_X10_hasPolynomial) (ltb rfl) (all3 gw_766 gw_768 gw_12) (ik_0 hw) (by decide) (q := (RX10, TX10, 17)) rfl rfl rfl rfl (Nat.le_of_ble_eq_true rfl) dX10_terms_2 (fun b1 => ?_)
  refine jo_ifz_eq (pc := 5) dX10_terms_5 (tgt := 25) rfl ?_ ?_
  · refine jo_iconst (pc := 25) dX10_terms_25 (ic_i_m1) ?_
    exact jo_ireturn (pc := 26) rfl rfl dX10_terms_26
  · refine jo_aload_n (pc := 8) 0 rfl dX10_terms_8 rfl ?_
    refine jo_getrE (pc := 9) ok_10_9 (ik_0 hw) rf_0_9 gw_640 dX10_terms_9 ?_
    refine jo_getrE (pc := 12) ok_4_2 (ik_40 hw) rf_40_2 gw_306 dX10_terms_12 ?_
    refine jo_iload_n (pc := 15) 1 rfl dX10_terms_15 rfl ?_
    refine jo_iconst (pc := 16) dX10_terms_16 (ic_i_1) ?_
    refine jo_isub (pc := 17) dX10_terms_17 ?_
    refine jo_aaldG (pc := 18) (z := 9) hw (ik_44 hw) (by decide) (t := 3) rfl rfl (by decide) dX10_terms_18 (fun p2 hp2 => ?_)
    refine jo_getf (pc := 19) ok_9_0 (hp2) gw_282 dX10_terms_19 (fun v3 => ?_)
    refine jo_goto (pc := 22) dX10_terms_22 (tgt := 26) rfl ?_
    exact jo_ireturn (pc := 26) rfl rfl dX10_terms_26
theorem c_X10_terms {w : Wd} (hw : WOK w) {σ : Mem} {x0 : Int32} : ∀ r, f_X10_terms σ x0 = some r → MC w mu_X10_terms (vI r) [.ref (adr w 0), .int x0] σ σ := mc_ofP ok_X10_terms rfl (Nat.le_of_ble_eq_true rfl) (t_X10_terms hw)
abbrev mu_X10_term : MD := (yX10_term, cX10_term, 7, some .int, 2)
theorem ok_X10_term : MOK mu_X10_term 3 := ⟨gw_773, gw_158, (by decide +kernel : plainFor yX10_term = true), ⟨(by decide +kernel : yX10_term.cls ≠ "java/lang/invoke/MethodHandle"), (by decide +kernel : yX10_term.cls ≠ "java/lang/invoke/VarHandle"), (by decide +kernel : (parseMethodDescriptor yX10_term.desc).map (fun d => d.parameters.length) = some 3)⟩, Nat.le_of_ble_eq_true rfl⟩
noncomputable def j_X10_term_100 (σ : Mem) (x1 : Int32) (p3 : Nat) (i5 : Int32) : Option Int32 :=
  gI σ (rf p3 1) x1 (fun (v6 : Int32) => (f_X10_degree σ v6 i5).bind (fun (v7 : Int32) => some v7))
noncomputable def f_X10_term (σ : Mem) (x0 : Int32) (x1 : Int32) (x2 : Int32) : Option Int32 :=
  gF σ 2 0 (fun (v1 : Int32) => (f_X10_hasPolynomial σ x0).bind (fun (b2 : Bool) => if b2 then if x2 < 0 then (some (-10000)) else (if x2 ≤ (2 * v1) then (gR 44 (x0 - 1) (fun (p3 : Nat) => if x1 < 0 then (some (-10000)) else (gF σ p3 0 (fun (v4 : Int32) => if x1 < v4 then (if x2 = 0 then (gL σ (rf p3 2) x1 (fun (v8 : Int64) => some (Int64.toInt32 v8))) else ((if v1 < x2 then (some (((6 + x2) - v1) - 1)) else (some (x2 - 1)) : Option Int32).bind (fun (z5 : Int32) => j_X10_term_100 σ x1 p3 z5))) else (some (-10000)))))) else (some (-10000))) else some (-10000)))
theorem t_X10_term {w : Wd} (hw : WOK w) {σ : Mem} {x0 : Int32} {x1 : Int32} {x2 : Int32} : JO w mu_X10_term vI σ [(0, .ref (adr w 0)), (1, .int x0), (2, .int x1), (3, .int x2)] [] 0 (f_X10_term σ x0 x1 x2) (fun z => some (z, σ)) := by
  unfold f_X10_term
  refine jo_aload_n (pc := 0) 0 rfl dX10_term_0 rfl ?_
  refine jo_getrE (pc := 1) ok_10_0 (ik_0 hw) rf_0_0 gw_631 dX10_term_1 ?_
  refine jo_getrE (pc := 4) ok_8_0 (ik_1 hw) rf_1_0 gw_218 dX10_term_4 ?_
  refine jo_getf (pc := 7) ok_6_0 (ik_2 hw) gw_198 dX10_term_7 (fun v1 => ?_)
  refine jo_istore (pc := 10) (lv' := [(4, .int v1), (0, .ref (adr w 0)), (1, .int x0), (2, .int x1), (3, .int x2)]) dX10_term_10 (ltb rfl) rfl ?_
  refine jo_aload_n (pc := 12) 1 rfl dX10_term_12 rfl ?_
  refine jo_iload_n (pc := 13) 2 rfl dX10_term_13 rfl ?_
  refine jo_cV_Z_p (pc := 14) (μ' := mu_X10_hasPolynomial) (fx := f_X10_hasPolynomial σ x0) (As := [.int x0]) (c_X10_hasPolynomial hw) (ok_X10_hasPolynomial) (ltb rfl) (all3 gw_766 gw_768 gw_12) (ik_0 hw) (by decide) (q := (RX10, TX10, 17)) rfl rfl rfl rfl (Nat.le_of_ble_eq_true rfl) dX10_term_14 (fun b2 => ?_)
  refine jo_ifz_eq (pc := 17) dX10_term_17 (tgt := 32) rfl ?_ ?_
  · refine jo_sipush (pc := 32) dX10_term_32 (ic_s_m10000) ?_
    exact jo_ireturn (pc := 35) rfl rfl dX10_term_35
  · refine jo_iload_n (pc := 20) 4 rfl dX10_term_20 rfl ?_
    refine jo_if_lt (pc := 21) dX10_term_21 (tgt := 32) rfl ?_ ?_
    · refine jo_sipush (pc := 32) dX10_term_32 (ic_s_m10000) ?_
      exact jo_ireturn (pc := 35) rfl rfl dX10_term_35
    · refine jo_iload_n (pc := 24) 4 rfl dX10_term_24 rfl ?_
      refine jo_iconst (pc := 25) dX10_term_25 (ic_i_2) ?_
      refine jo_iload (pc := 26) 0 rfl dX10_term_26 ?_
      refine jo_imul (pc := 28) dX10_term_28 ?_
      refine jo_icmp_le (pc := 29) dX10_term_29 (tgt := 36) rfl ?_ ?_
      · refine jo_aload_n (pc := 36) 1 rfl dX10_term_36 rfl ?_
        refine jo_getrE (pc := 37) ok_10_9 (ik_0 hw) rf_0_9 gw_640 dX10_term_37 ?_
        refine jo_getrE (pc := 40) ok_4_2 (ik_40 hw) rf_40_2 gw_306 dX10_term_40 ?_
        refine jo_iload_n (pc := 43) 2 rfl dX10_term_43 rfl ?_
        refine jo_iconst (pc := 44) dX10_term_44 (ic_i_1) ?_
        refine jo_isub (pc := 45) dX10_term_45 ?_
        refine jo_aaldG (pc := 46) (z := 9) hw (ik_44 hw) (by decide) (t := 3) rfl rfl (by decide) dX10_term_46 (fun p3 hp3 => ?_)
        refine jo_astore (pc := 47) (lv' := [(5, .ref (adr w p3)), (4, .int v1), (0, .ref (adr w 0)), (1, .int x0), (2, .int x1), (3, .int x2)]) dX10_term_47 (ltb rfl) rfl ?_
        refine jo_iload_n (pc := 49) 4 rfl dX10_term_49 rfl ?_
        refine jo_if_lt (pc := 50) dX10_term_50 (tgt := 62) rfl ?_ ?_
        · refine jo_sipush (pc := 62) dX10_term_62 (ic_s_m10000) ?_
          exact jo_ireturn (pc := 65) rfl rfl dX10_term_65
        · refine jo_iload_n (pc := 53) 4 rfl dX10_term_53 rfl ?_
          refine jo_aload (pc := 54) 0 rfl dX10_term_54 ?_
          refine jo_getf (pc := 56) ok_9_0 (hp3) gw_282 dX10_term_56 (fun v4 => ?_)
          refine jo_icmp_lt (pc := 59) dX10_term_59 (tgt := 66) rfl ?_ ?_
          · refine jo_iload_n (pc := 66) 5 rfl dX10_term_66 rfl ?_
            refine jo_if_ne (pc := 67) dX10_term_67 (tgt := 79) rfl ?_ ?_
            · refine jo_iload_n (pc := 79) 5 rfl dX10_term_79 rfl ?_
              refine jo_iload (pc := 80) 1 rfl dX10_term_80 ?_
              refine jo_join1 (S := Int32) (fun (z5 : Int32) => σ) (fun (z5 : Int32) => [(5, .ref (adr w p3)), (2, .int x1)]) (fun (z5 : Int32) => [.int z5]) 100 ?_ (fun h100_5 => ?_)
              · intro i5
                show JO w mu_X10_term vI σ [(5, .ref (adr w p3)), (2, .int x1)] [.int i5] 100 (j_X10_term_100 σ x1 p3 i5) _
                unfold j_X10_term_100
                refine jo_istore (pc := 100) (lv' := [(6, .int i5), (5, .ref (adr w p3)), (2, .int x1)]) dX10_term_100 (ltb rfl) rfl ?_
                refine jo_aload (pc := 102) 1 rfl dX10_term_102 ?_
                refine jo_getr (pc := 104) ok_9_1 (hp3) gw_285 dX10_term_104 ?_
                refine jo_iload_n (pc := 107) 2 rfl dX10_term_107 rfl ?_
                refine jo_iald (pc := 108) (wf_9_1 hw (hp3)) dX10_term_108 (fun v6 => ?_)
                refine jo_iload (pc := 109) 0 rfl dX10_term_109 ?_
                refine jo_cS_I_p (pc := 111) (μ' := mu_X10_degree) (fx := f_X10_degree σ v6 i5) (As := [.int v6, .int i5]) (c_X10_degree hw) (ok_X10_degree) (ltb rfl) (all2 gw_774 gw_629) rfl rfl (Nat.le_of_ble_eq_true rfl) dX10_term_111 (fun v7 => ?_)
                exact jo_ireturn (pc := 114) rfl rfl dX10_term_114
              · refine jo_icmp_gt (pc := 82) dX10_term_82 (tgt := 91) rfl ?_ ?_
                · refine jo_bipush (pc := 91) dX10_term_91 (ic_b_6) ?_
                  refine jo_iload_n (pc := 93) 5 rfl dX10_term_93 rfl ?_
                  refine jo_iadd (pc := 94) dX10_term_94 ?_
                  refine jo_iload (pc := 95) 1 rfl dX10_term_95 ?_
                  refine jo_isub (pc := 97) dX10_term_97 ?_
                  refine jo_iconst (pc := 98) dX10_term_98 (ic_i_1) ?_
                  refine jo_isub (pc := 99) dX10_term_99 ?_
                  refine jo_lv (lv' := [(5, .ref (adr w p3)), (2, .int x1)]) [0, 4] rfl ?_
                  exact jo_leaf (by rfl) (h100_5 (((6 + x2) - v1) - 1))
                · refine jo_iload_n (pc := 85) 5 rfl dX10_term_85 rfl ?_
                  refine jo_iconst (pc := 86) dX10_term_86 (ic_i_1) ?_
                  refine jo_isub (pc := 87) dX10_term_87 ?_
                  refine jo_goto (pc := 88) dX10_term_88 (tgt := 100) rfl ?_
                  refine jo_lv (lv' := [(5, .ref (adr w p3)), (2, .int x1)]) [0, 4] rfl ?_
                  exact jo_leaf (by rfl) (h100_5 (x2 - 1))
            · refine jo_aload (pc := 70) 0 rfl dX10_term_70 ?_
              refine jo_getr (pc := 72) ok_9_2 (hp3) gw_288 dX10_term_72 ?_
              refine jo_iload_n (pc := 75) 4 rfl dX10_term_75 rfl ?_
              refine jo_lald (pc := 76) (wf_9_2 hw (hp3)) dX10_term_76 (fun v8 => ?_)
              refine jo_l2i (pc := 77) dX10_term_77 ?_
              exact jo_ireturn (pc := 78) rfl rfl dX10_term_78
          · refine jo_sipush (pc := 62) dX10_term_62 (ic_s_m10000) ?_
            exact jo_ireturn (pc := 65) rfl rfl dX10_term_65
      · refine jo_sipush (pc := 32) dX10_term_32 (ic_s_m10000) ?_
        exact jo_ireturn (pc := 35) rfl rfl dX10_term_35
theorem c_X10_term {w : Wd} (hw : WOK w) {σ : Mem} {x0 : Int32} {x1 : Int32} {x2 : Int32} : ∀ r, f_X10_term σ x0 x1 x2 = some r → MC w mu_X10_term (vI r) [.ref (adr w 0), .int x0, .int x1, .int x2] σ σ := mc_ofP ok_X10_term rfl (Nat.le_of_ble_eq_true rfl) (t_X10_term hw)
abbrev mu_X10_shape : MD := (yX10_shape, cX10_shape, 4, some .int, 3)
theorem ok_X10_shape : MOK mu_X10_shape 2 := ⟨gw_778, gw_158, (by decide +kernel : plainFor yX10_shape = true), ⟨(by decide +kernel : yX10_shape.cls ≠ "java/lang/invoke/MethodHandle"), (by decide +kernel : yX10_shape.cls ≠ "java/lang/invoke/VarHandle"), (by decide +kernel : (parseMethodDescriptor yX10_shape.desc).map (fun d => d.parameters.length) = some 2)⟩, Nat.le_of_ble_eq_true rfl⟩
noncomputable def f_X10_shape (σ : Mem) (x0 : Int32) (x1 : Int32) : Option Int32 :=
  (f_X10_hasPolynomial σ x0).bind (fun (b1 : Bool) => if b1 then gR 44 (x0 - 1) (fun (p2 : Nat) => if x1 = 0 then ((f_X9_greatestDegree σ p2).bind (fun (v4 : Int32) => some v4)) else if x1 = 1 then ((f_X9_greatestWeight σ p2 2).bind (fun (v6 : Int32) => some v6)) else if x1 = 2 then ((f_X9_termsInBothRows σ p2).bind (fun (v8 : Int32) => some v8)) else if x1 = 3 then ((f_X9_sumOfNumbers σ p2).bind (fun (v10 : Int64) => some (Int64.toInt32 v10))) else (some (-10000))) else some (-10000))
theorem t_X10_shape {w : Wd} (hw : WOK w) {σ : Mem} {x0 : Int32} {x1 : Int32} : JO w mu_X10_shape vI σ [(0, .ref (adr w 0)), (1, .int x0), (2, .int x1)] [] 0 (f_X10_shape σ x0 x1) (fun z => some (z, σ)) := by
  unfold f_X10_shape
  refine jo_aload_n (pc := 0) 0 rfl dX10_shape_0 rfl ?_
  refine jo_iload_n (pc := 1) 1 rfl dX10_shape_1 rfl ?_
  refine jo_cV_Z_p (pc := 2) (μ' := mu_X10_hasPolynomial) (fx := f_X10_hasPolynomial σ x0) (As := [.int x0]) (c_X10_hasPolynomial hw) (ok_X10_hasPolynomial) (ltb rfl) (all3 gw_766 gw_768 gw_12) (ik_0 hw) (by decide) (q := (RX10, TX10, 17)) rfl rfl rfl rfl (Nat.le_of_ble_eq_true rfl) dX10_shape_2 (fun b1 => ?_)
  refine jo_ifz_ne (pc := 5) dX10_shape_5 (tgt := 12) rfl ?_ ?_
  · refine jo_aload_n (pc := 12) 0 rfl dX10_shape_12 rfl ?_
    refine jo_getrE (pc := 13) ok_10_9 (ik_0 hw) rf_0_9 gw_640 dX10_shape_13 ?_
    refine jo_getrE (pc := 16) ok_4_2 (ik_40 hw) rf_40_2 gw_306 dX10_shape_16 ?_
    refine jo_iload_n (pc := 19) 1 rfl dX10_shape_19 rfl ?_
    refine jo_iconst (pc := 20) dX10_shape_20 (ic_i_1) ?_
    refine jo_isub (pc := 21) dX10_shape_21 ?_
    refine jo_aaldG (pc := 22) (z := 9) hw (ik_44 hw) (by decide) (t := 3) rfl rfl (by decide) dX10_shape_22 (fun p2 hp2 => ?_)
    refine jo_astore_n (pc := 23) (lv' := [(3, .ref (adr w p2)), (0, .ref (adr w 0)), (1, .int x0), (2, .int x1)]) dX10_shape_23 rfl (ltb rfl) rfl ?_
    refine jo_iload_n (pc := 24) 3 rfl dX10_shape_24 rfl ?_
    refine jo_case (v := 0) (fun h3 => ?_) (fun h3 => ?_)
    · refine jo_tswHit (pc := 25) dX10_shape_25 h3 (by decide) (by decide) (off := 31) (by rfl) (tgt := 56) rfl ?_
      refine jo_aload_n (pc := 56) 0 rfl dX10_shape_56 rfl ?_
      refine jo_cV_I_p (pc := 57) (μ' := mu_X9_greatestDegree) (fx := f_X9_greatestDegree σ p2) (As := []) (c_X9_greatestDegree hw (hp2)) (ok_X9_greatestDegree) (ltb rfl) (all3 gw_779 gw_780 gw_781) (hp2) (by decide) (q := (RX9, TX9, 4)) rfl rfl rfl rfl (Nat.le_of_ble_eq_true rfl) dX10_shape_57 (fun v4 => ?_)
      exact jo_ireturn (pc := 60) rfl rfl dX10_shape_60
    refine jo_case (v := 1) (fun h5 => ?_) (fun h5 => ?_)
    · refine jo_tswHit (pc := 25) dX10_shape_25 h5 (by decide) (by decide) (off := 36) (by rfl) (tgt := 61) rfl ?_
      refine jo_aload_n (pc := 61) 0 rfl dX10_shape_61 rfl ?_
      refine jo_aload_n (pc := 62) 1 rfl dX10_shape_62 rfl ?_
      refine jo_getrE (pc := 63) ok_10_0 (ik_0 hw) rf_0_0 gw_631 dX10_shape_63 ?_
      refine jo_getrE (pc := 66) ok_8_0 (ik_1 hw) rf_1_0 gw_218 dX10_shape_66 ?_
      refine jo_cV_I_p (pc := 69) (μ' := mu_X9_greatestWeight) (fx := f_X9_greatestWeight σ p2 2) (As := [.ref (adr w 2)]) (c_X9_greatestWeight hw (hp2) (ik_2 hw)) (ok_X9_greatestWeight) (ltb rfl) (all3 gw_784 gw_785 gw_786) (hp2) (by decide) (q := (RX9, TX9, 4)) rfl rfl rfl rfl (Nat.le_of_ble_eq_true rfl) dX10_shape_69 (fun v6 => ?_)
      exact jo_ireturn (pc := 72) rfl rfl dX10_shape_72
    refine jo_case (v := 2) (fun h7 => ?_) (fun h7 => ?_)
    · refine jo_tswHit (pc := 25) dX10_shape_25 h7 (by decide) (by decide) (off := 48) (by rfl) (tgt := 73) rfl ?_
      refine jo_aload_n (pc := 73) 0 rfl dX10_shape_73 rfl ?_
      refine jo_cV_I_p (pc := 74) (μ' := mu_X9_termsInBothRows) (fx := f_X9_termsInBothRows σ p2) (As := []) (c_X9_termsInBothRows hw (hp2)) (ok_X9_termsInBothRows) (ltb rfl) (all3 gw_788 gw_789 gw_790) (hp2) (by decide) (q := (RX9, TX9, 4)) rfl rfl rfl rfl (Nat.le_of_ble_eq_true rfl) dX10_shape_74 (fun v8 => ?_)
      exact jo_ireturn (pc := 77) rfl rfl dX10_shape_77
    refine jo_case (v := 3) (fun h9 => ?_) (fun h9 => ?_)
    · refine jo_tswHit (pc := 25) dX10_shape_25 h9 (by decide) (by decide) (off := 53) (by rfl) (tgt := 78) rfl ?_
      refine jo_aload_n (pc := 78) 0 rfl dX10_shape_78 rfl ?_
      refine jo_cV_J_p (pc := 79) (μ' := mu_X9_sumOfNumbers) (fx := f_X9_sumOfNumbers σ p2) (As := []) (c_X9_sumOfNumbers hw (hp2)) (ok_X9_sumOfNumbers) (ltb rfl) (all3 gw_795 gw_796 gw_797) (hp2) (by decide) (q := (RX9, TX9, 4)) rfl rfl rfl rfl (Nat.le_of_ble_eq_true rfl) dX10_shape_79 (fun v10 => ?_)
      refine jo_l2i (pc := 82) dX10_shape_82 ?_
      exact jo_ireturn (pc := 83) rfl rfl dX10_shape_83
    have qh3 : (x1).toInt ≠ 0 := fun e => h3 (Int32.toInt_inj.mp (e.trans (by decide)))
    have qh5 : (x1).toInt ≠ 1 := fun e => h5 (Int32.toInt_inj.mp (e.trans (by decide)))
    have qh7 : (x1).toInt ≠ 2 := fun e => h7 (Int32.toInt_inj.mp (e.trans (by decide)))
    have qh9 : (x1).toInt ≠ 3 := fun e => h9 (Int32.toInt_inj.mp (e.trans (by decide)))
    refine jo_tableOut (pc := 25) dX10_shape_25 (by omega) (tgt := 84) rfl ?_
    refine jo_sipush (pc := 84) dX10_shape_84 (ic_s_m10000) ?_
    exact jo_ireturn (pc := 87) rfl rfl dX10_shape_87
  · refine jo_sipush (pc := 8) dX10_shape_8 (ic_s_m10000) ?_
    exact jo_ireturn (pc := 11) rfl rfl dX10_shape_11
theorem c_X10_shape {w : Wd} (hw : WOK w) {σ : Mem} {x0 : Int32} {x1 : Int32} : ∀ r, f_X10_shape σ x0 x1 = some r → MC w mu_X10_shape (vI r) [.ref (adr w 0), .int x0, .int x1] σ σ := mc_ofP ok_X10_shape rfl (Nat.le_of_ble_eq_true rfl) (t_X10_shape hw)
abbrev mu_X10_set : MD := (yX10_set, cX10_set, 4, some .boolean, 4)
theorem ok_X10_set : MOK mu_X10_set 3 := ⟨gw_802, gw_158, (by decide +kernel : plainFor yX10_set = true), ⟨(by decide +kernel : yX10_set.cls ≠ "java/lang/invoke/MethodHandle"), (by decide +kernel : yX10_set.cls ≠ "java/lang/invoke/VarHandle"), (by decide +kernel : (parseMethodDescriptor yX10_set.desc).map (fun d => d.parameters.length) = some 3)⟩, Nat.le_of_ble_eq_true rfl⟩
noncomputable def f_X10_set (σ : Mem) (x0 : Int32) (x1 : Int32) (x2 : Int32) : Option (Bool × Mem) :=
  (f_X10_isRegister σ x0).bind (fun (b1 : Bool) => if b1 then (f_X10_isGenerator σ x1).bind (fun (b2 : Bool) => if b2 then gZ σ 40 3 (fun (b3 : Bool) => if b3 then if x2 < (-999) then (some (false, σ)) else (if x2 ≤ 999 then ((f_X10_beginAct σ).bind (fun (σ4 : Mem) => gR 5 x0 (fun (p5 : Nat) => pL σ4 p5 (x1 - 1) (Int32.toInt64 x2) (fun (σ6 : Mem) => some (true, σ6))))) else (some (false, σ))) else some (false, σ)) else some (false, σ)) else some (false, σ))
theorem t_X10_set {w : Wd} (hw : WOK w) {σ : Mem} {x0 : Int32} {x1 : Int32} {x2 : Int32} : JO w mu_X10_set vB σ [(0, .ref (adr w 0)), (1, .int x0), (2, .int x1), (3, .int x2)] [] 0 (f_X10_set σ x0 x1 x2) some := by
  unfold f_X10_set
  refine jo_iload_n (pc := 0) 1 rfl dX10_set_0 rfl ?_
  refine jo_cS_Z_p (pc := 1) (μ' := mu_X10_isRegister) (fx := f_X10_isRegister σ x0) (As := [.int x0]) (c_X10_isRegister hw) (ok_X10_isRegister) (ltb rfl) (all2 gw_803 gw_804) rfl rfl (Nat.le_of_ble_eq_true rfl) dX10_set_1 (fun b1 => ?_)
  refine jo_ifz_eq (pc := 4) dX10_set_4 (tgt := 25) rfl ?_ ?_
  · refine jo_iconst (pc := 25) dX10_set_25 (ic_i_0) ?_
    exact jo_breturn (pc := 26) (b := false) rfl rfl dX10_set_26
  · refine jo_aload_n (pc := 7) 0 rfl dX10_set_7 rfl ?_
    refine jo_iload_n (pc := 8) 2 rfl dX10_set_8 rfl ?_
    refine jo_cV_Z_p (pc := 9) (μ' := mu_X10_isGenerator) (fx := f_X10_isGenerator σ x1) (As := [.int x1]) (c_X10_isGenerator hw) (ok_X10_isGenerator) (ltb rfl) (all3 gw_743 gw_745 gw_11) (ik_0 hw) (by decide) (q := (RX10, TX10, 17)) rfl rfl rfl rfl (Nat.le_of_ble_eq_true rfl) dX10_set_9 (fun b2 => ?_)
    refine jo_ifz_eq (pc := 12) dX10_set_12 (tgt := 25) rfl ?_ ?_
    · refine jo_iconst (pc := 25) dX10_set_25 (ic_i_0) ?_
      exact jo_breturn (pc := 26) (b := false) rfl rfl dX10_set_26
    · refine jo_aload_n (pc := 15) 0 rfl dX10_set_15 rfl ?_
      refine jo_getrE (pc := 16) ok_10_9 (ik_0 hw) rf_0_9 gw_640 dX10_set_16 ?_
      refine jo_getz (pc := 19) ok_4_3 (ik_40 hw) gw_308 dX10_set_19 (fun b3 => ?_)
      refine jo_ifz_ne (pc := 22) dX10_set_22 (tgt := 27) rfl ?_ ?_
      · refine jo_iload_n (pc := 27) 3 rfl dX10_set_27 rfl ?_
        refine jo_sipush (pc := 28) dX10_set_28 (ic_s_m999) ?_
        refine jo_icmp_lt (pc := 31) dX10_set_31 (tgt := 41) rfl ?_ ?_
        · refine jo_iconst (pc := 41) dX10_set_41 (ic_i_0) ?_
          exact jo_breturn (pc := 42) (b := false) rfl rfl dX10_set_42
        · refine jo_iload_n (pc := 34) 3 rfl dX10_set_34 rfl ?_
          refine jo_sipush (pc := 35) dX10_set_35 (ic_s_999) ?_
          refine jo_icmp_le (pc := 38) dX10_set_38 (tgt := 43) rfl ?_ ?_
          · refine jo_aload_n (pc := 43) 0 rfl dX10_set_43 rfl ?_
            refine jo_cV_V_i (pc := 44) (μ' := mu_X10_beginAct) (fx := f_X10_beginAct σ) (As := []) (c_X10_beginAct hw) (ok_X10_beginAct) (ltb rfl) (all3 gw_694 gw_696 gw_10) (ik_0 hw) (by decide) (q := (RX10, TX10, 17)) rfl rfl rfl rfl (Nat.le_of_ble_eq_true rfl) dX10_set_44 (fun σ4 => ?_)
            refine jo_aload_n (pc := 47) 0 rfl dX10_set_47 rfl ?_
            refine jo_getrE (pc := 48) ok_10_0 (ik_0 hw) rf_0_0 gw_631 dX10_set_48 ?_
            refine jo_getrE (pc := 51) ok_8_1 (ik_1 hw) rf_1_1 gw_221 dX10_set_51 ?_
            refine jo_iload_n (pc := 54) 1 rfl dX10_set_54 rfl ?_
            refine jo_aaldG (pc := 55) (z := 13) hw (ik_5 hw) (by decide) (t := 4) rfl rfl (by decide) dX10_set_55 (fun p5 hp5 => ?_)
            refine jo_iload_n (pc := 56) 2 rfl dX10_set_56 rfl ?_
            refine jo_iconst (pc := 57) dX10_set_57 (ic_i_1) ?_
            refine jo_isub (pc := 58) dX10_set_58 ?_
            refine jo_iload_n (pc := 59) 3 rfl dX10_set_59 rfl ?_
            refine jo_i2l (pc := 60) dX10_set_60 ?_
            refine jo_last (pc := 61) (hp5) dX10_set_61 (fun σ6 => ?_)
            refine jo_iconst (pc := 62) dX10_set_62 (ic_i_1) ?_
            exact jo_breturn (pc := 63) (b := true) rfl rfl dX10_set_63
          · refine jo_iconst (pc := 41) dX10_set_41 (ic_i_0) ?_
            exact jo_breturn (pc := 42) (b := false) rfl rfl dX10_set_42
      · refine jo_iconst (pc := 25) dX10_set_25 (ic_i_0) ?_
        exact jo_breturn (pc := 26) (b := false) rfl rfl dX10_set_26
theorem c_X10_set {w : Wd} (hw : WOK w) {σ : Mem} {x0 : Int32} {x1 : Int32} {x2 : Int32} : ∀ r σ', f_X10_set σ x0 x1 x2 = some (r, σ') → MC w mu_X10_set (vB r) [.ref (adr w 0), .int x0, .int x1, .int x2] σ σ' := mc_of ok_X10_set rfl (Nat.le_of_ble_eq_true rfl) (t_X10_set hw)
abbrev mu_X10_areUsable : MD := (yX10_areUsable, cX10_areUsable, 3, some .boolean, 1)
theorem ok_X10_areUsable : MOK mu_X10_areUsable 2 := ⟨gw_813, gw_158, (by decide +kernel : plainFor yX10_areUsable = true), ⟨(by decide +kernel : yX10_areUsable.cls ≠ "java/lang/invoke/MethodHandle"), (by decide +kernel : yX10_areUsable.cls ≠ "java/lang/invoke/VarHandle"), (by decide +kernel : (parseMethodDescriptor yX10_areUsable.desc).map (fun d => d.parameters.length) = some 2)⟩, Nat.le_of_ble_eq_true rfl⟩
noncomputable def j_X10_areUsable_28  : Option Bool :=
  some false
noncomputable def f_X10_areUsable (σ : Mem) (x0 : Int32) (x1 : Int32) : Option Bool :=
  (f_X10_isRegister σ x0).bind (fun (b1 : Bool) => (if b1 then (f_X10_isRegister σ x1).bind (fun (b2 : Bool) => if b2 then gZ σ 40 3 (fun (b3 : Bool) => if b3 then some (Sum.inr true) else some (Sum.inl ())) else some (Sum.inl ())) else some (Sum.inl ()) : Option (Unit ⊕ Bool)).bind (Sum.elim (fun (z1 : Unit) => j_X10_areUsable_28) some))
theorem t_X10_areUsable {w : Wd} (hw : WOK w) {σ : Mem} {x0 : Int32} {x1 : Int32} : JO w mu_X10_areUsable vB σ [(0, .ref (adr w 0)), (1, .int x0), (2, .int x1)] [] 0 (f_X10_areUsable σ x0 x1) (fun z => some (z, σ)) := by
  unfold f_X10_areUsable
  refine jo_iload_n (pc := 0) 1 rfl dX10_areUsable_0 rfl ?_
  refine jo_cS_Z_p (pc := 1) (μ' := mu_X10_isRegister) (fx := f_X10_isRegister σ x0) (As := [.int x0]) (c_X10_isRegister hw) (ok_X10_isRegister) (ltb rfl) (all2 gw_803 gw_804) rfl rfl (Nat.le_of_ble_eq_true rfl) dX10_areUsable_1 (fun b1 => ?_)
  refine jo_joinS (S := Unit) (fun (z1 : Unit) => σ) (fun (z1 : Unit) => []) (fun (z1 : Unit) => []) 28 ?_ (fun h28_1 => ?_)
  · intro _
    show JO w mu_X10_areUsable vB σ [] [] 28 (j_X10_areUsable_28) _
    unfold j_X10_areUsable_28
    refine jo_iconst (pc := 28) dX10_areUsable_28 (ic_i_0) ?_
    exact jo_breturn (pc := 29) (b := false) rfl rfl dX10_areUsable_29
  · refine jo_ifz_eq (pc := 4) dX10_areUsable_4 (tgt := 28) rfl ?_ ?_
    · refine jo_lv (lv' := []) [] rfl ?_
      exact jo_leaf (by rfl) (h28_1 ())
    · refine jo_iload_n (pc := 7) 2 rfl dX10_areUsable_7 rfl ?_
      refine jo_cS_Z_p (pc := 8) (μ' := mu_X10_isRegister) (fx := f_X10_isRegister σ x1) (As := [.int x1]) (c_X10_isRegister hw) (ok_X10_isRegister) (ltb rfl) (all2 gw_803 gw_804) rfl rfl (Nat.le_of_ble_eq_true rfl) dX10_areUsable_8 (fun b2 => ?_)
      refine jo_ifz_eq (pc := 11) dX10_areUsable_11 (tgt := 28) rfl ?_ ?_
      · refine jo_lv (lv' := []) [] rfl ?_
        exact jo_leaf (by rfl) (h28_1 ())
      · refine jo_aload_n (pc := 14) 0 rfl dX10_areUsable_14 rfl ?_
        refine jo_getrE (pc := 15) ok_10_9 (ik_0 hw) rf_0_9 gw_640 dX10_areUsable_15 ?_
        refine jo_getz (pc := 18) ok_4_3 (ik_40 hw) gw_308 dX10_areUsable_18 (fun b3 => ?_)
        refine jo_ifz_eq (pc := 21) dX10_areUsable_21 (tgt := 28) rfl ?_ ?_
        · refine jo_lv (lv' := []) [] rfl ?_
          exact jo_leaf (by rfl) (h28_1 ())
        · refine jo_iconst (pc := 24) dX10_areUsable_24 (ic_i_1) ?_
          refine jo_goto (pc := 25) dX10_areUsable_25 (tgt := 29) rfl ?_
          exact jo_breturn (pc := 29) (b := true) rfl rfl dX10_areUsable_29
theorem c_X10_areUsable {w : Wd} (hw : WOK w) {σ : Mem} {x0 : Int32} {x1 : Int32} : ∀ r, f_X10_areUsable σ x0 x1 = some r → MC w mu_X10_areUsable (vB r) [.ref (adr w 0), .int x0, .int x1] σ σ := mc_ofP ok_X10_areUsable rfl (Nat.le_of_ble_eq_true rfl) (t_X10_areUsable hw)
abbrev mu_X10_keep : MD := (yX10_keep, cX10_keep, 2, some .boolean, 4)
theorem ok_X10_keep : MOK mu_X10_keep 1 := ⟨gw_831, gw_158, (by decide +kernel : plainFor yX10_keep = true), ⟨(by decide +kernel : yX10_keep.cls ≠ "java/lang/invoke/MethodHandle"), (by decide +kernel : yX10_keep.cls ≠ "java/lang/invoke/VarHandle"), (by decide +kernel : (parseMethodDescriptor yX10_keep.desc).map (fun d => d.parameters.length) = some 1)⟩, Nat.le_of_ble_eq_true rfl⟩
noncomputable def f_X10_keep (σ : Mem) (x0 : Int32) : Option (Bool × Mem) :=
  (f_X10_isRegister σ x0).bind (fun (b1 : Bool) => if b1 then (f_X0_isWithin σ 176 999).bind (fun (b2 : Bool) => if b2 then (f_X10_beginAct σ).bind (fun (σ3 : Mem) => gR 5 x0 (fun (p4 : Nat) => (f_X0_copy σ3 176 p4).bind (fun (σ5 : Mem) => some (true, σ5)))) else some (false, σ)) else some (false, σ))
theorem t_X10_keep {w : Wd} (hw : WOK w) {σ : Mem} {x0 : Int32} : JO w mu_X10_keep vB σ [(0, .ref (adr w 0)), (1, .int x0)] [] 0 (f_X10_keep σ x0) some := by
  unfold f_X10_keep
  refine jo_iload_n (pc := 0) 1 rfl dX10_keep_0 rfl ?_
  refine jo_cS_Z_p (pc := 1) (μ' := mu_X10_isRegister) (fx := f_X10_isRegister σ x0) (As := [.int x0]) (c_X10_isRegister hw) (ok_X10_isRegister) (ltb rfl) (all2 gw_803 gw_804) rfl rfl (Nat.le_of_ble_eq_true rfl) dX10_keep_1 (fun b1 => ?_)
  refine jo_ifz_eq (pc := 4) dX10_keep_4 (tgt := 20) rfl ?_ ?_
  · refine jo_iconst (pc := 20) dX10_keep_20 (ic_i_0) ?_
    exact jo_breturn (pc := 21) (b := false) rfl rfl dX10_keep_21
  · refine jo_aload_n (pc := 7) 0 rfl dX10_keep_7 rfl ?_
    refine jo_getrE (pc := 8) ok_10_15 (ik_0 hw) rf_0_15 gw_646 dX10_keep_8 ?_
    refine jo_ldc2 (pc := 11) dX10_keep_11 gw_824 ?_
    refine jo_cS_Z_p (pc := 14) (μ' := mu_X0_isWithin) (fx := f_X0_isWithin σ 176 999) (As := [.ref (adr w 176), .long 999]) (c_X0_isWithin hw (ik_176 hw)) (ok_X0_isWithin) (ltb rfl) (all2 gw_825 gw_826) rfl rfl (Nat.le_of_ble_eq_true rfl) dX10_keep_14 (fun b2 => ?_)
    refine jo_ifz_ne (pc := 17) dX10_keep_17 (tgt := 22) rfl ?_ ?_
    · refine jo_aload_n (pc := 22) 0 rfl dX10_keep_22 rfl ?_
      refine jo_cV_V_i (pc := 23) (μ' := mu_X10_beginAct) (fx := f_X10_beginAct σ) (As := []) (c_X10_beginAct hw) (ok_X10_beginAct) (ltb rfl) (all3 gw_694 gw_696 gw_10) (ik_0 hw) (by decide) (q := (RX10, TX10, 17)) rfl rfl rfl rfl (Nat.le_of_ble_eq_true rfl) dX10_keep_23 (fun σ3 => ?_)
      refine jo_aload_n (pc := 26) 0 rfl dX10_keep_26 rfl ?_
      refine jo_getrE (pc := 27) ok_10_15 (ik_0 hw) rf_0_15 gw_646 dX10_keep_27 ?_
      refine jo_aload_n (pc := 30) 0 rfl dX10_keep_30 rfl ?_
      refine jo_getrE (pc := 31) ok_10_0 (ik_0 hw) rf_0_0 gw_631 dX10_keep_31 ?_
      refine jo_getrE (pc := 34) ok_8_1 (ik_1 hw) rf_1_1 gw_221 dX10_keep_34 ?_
      refine jo_iload_n (pc := 37) 1 rfl dX10_keep_37 rfl ?_
      refine jo_aaldG (pc := 38) (z := 13) hw (ik_5 hw) (by decide) (t := 4) rfl rfl (by decide) dX10_keep_38 (fun p4 hp4 => ?_)
      refine jo_cS_V_i (pc := 39) (μ' := mu_X0_copy) (fx := f_X0_copy σ3 176 p4) (As := [.ref (adr w 176), .ref (adr w p4)]) (c_X0_copy hw (ik_176 hw) (hp4)) (ok_X0_copy) (ltb rfl) (all2 gw_832 gw_704) rfl rfl (Nat.le_of_ble_eq_true rfl) dX10_keep_39 (fun σ5 => ?_)
      refine jo_iconst (pc := 42) dX10_keep_42 (ic_i_1) ?_
      exact jo_breturn (pc := 43) (b := true) rfl rfl dX10_keep_43
    · refine jo_iconst (pc := 20) dX10_keep_20 (ic_i_0) ?_
      exact jo_breturn (pc := 21) (b := false) rfl rfl dX10_keep_21
theorem c_X10_keep {w : Wd} (hw : WOK w) {σ : Mem} {x0 : Int32} : ∀ r σ', f_X10_keep σ x0 = some (r, σ') → MC w mu_X10_keep (vB r) [.ref (adr w 0), .int x0] σ σ' := mc_of ok_X10_keep rfl (Nat.le_of_ble_eq_true rfl) (t_X10_keep hw)
abbrev mu_X10_keepCounted : MD := (yX10_keepCounted, cX10_keepCounted, 2, some .boolean, 5)
theorem ok_X10_keepCounted : MOK mu_X10_keepCounted 1 := ⟨gw_823, gw_158, (by decide +kernel : plainFor yX10_keepCounted = true), ⟨(by decide +kernel : yX10_keepCounted.cls ≠ "java/lang/invoke/MethodHandle"), (by decide +kernel : yX10_keepCounted.cls ≠ "java/lang/invoke/VarHandle"), (by decide +kernel : (parseMethodDescriptor yX10_keepCounted.desc).map (fun d => d.parameters.length) = some 1)⟩, Nat.le_of_ble_eq_true rfl⟩
noncomputable def f_X10_keepCounted (σ : Mem) (x0 : Int32) : Option (Bool × Mem) :=
  (f_X0_isWithin σ 176 999).bind (fun (b1 : Bool) => if b1 then bq (f_X10_keep σ x0) (fun (b2 : Bool) (σ3 : Mem) => some (b2, σ3)) else gI σ 16 0 (fun (v4 : Int32) => pI σ 16 0 (v4 + 1) (fun (σ5 : Mem) => some (false, σ5))))
theorem t_X10_keepCounted {w : Wd} (hw : WOK w) {σ : Mem} {x0 : Int32} : JO w mu_X10_keepCounted vB σ [(0, .ref (adr w 0)), (1, .int x0)] [] 0 (f_X10_keepCounted σ x0) some := by
  unfold f_X10_keepCounted
  refine jo_aload_n (pc := 0) 0 rfl dX10_keepCounted_0 rfl ?_
  refine jo_getrE (pc := 1) ok_10_15 (ik_0 hw) rf_0_15 gw_646 dX10_keepCounted_1 ?_
  refine jo_ldc2 (pc := 4) dX10_keepCounted_4 gw_824 ?_
  refine jo_cS_Z_p (pc := 7) (μ' := mu_X0_isWithin) (fx := f_X0_isWithin σ 176 999) (As := [.ref (adr w 176), .long 999]) (c_X0_isWithin hw (ik_176 hw)) (ok_X0_isWithin) (ltb rfl) (all2 gw_825 gw_826) rfl rfl (Nat.le_of_ble_eq_true rfl) dX10_keepCounted_7 (fun b1 => ?_)
  refine jo_ifz_ne (pc := 10) dX10_keepCounted_10 (tgt := 28) rfl ?_ ?_
  · refine jo_aload_n (pc := 28) 0 rfl dX10_keepCounted_28 rfl ?_
    refine jo_iload_n (pc := 29) 1 rfl dX10_keepCounted_29 rfl ?_
    refine jo_cV_Z_i (pc := 30) (μ' := mu_X10_keep) (fx := f_X10_keep σ x0) (As := [.int x0]) (c_X10_keep hw) (ok_X10_keep) (ltb rfl) (all3 gw_828 gw_830 gw_15) (ik_0 hw) (by decide) (q := (RX10, TX10, 17)) rfl rfl rfl rfl (Nat.le_of_ble_eq_true rfl) dX10_keepCounted_30 (fun b2 σ3 => ?_)
    exact jo_breturn (pc := 33) (b := b2) rfl rfl dX10_keepCounted_33
  · refine jo_aload_n (pc := 13) 0 rfl dX10_keepCounted_13 rfl ?_
    refine jo_getrE (pc := 14) ok_10_0 (ik_0 hw) rf_0_0 gw_631 dX10_keepCounted_14 ?_
    refine jo_getrE (pc := 17) ok_8_2 (ik_1 hw) rf_1_2 gw_224 dX10_keepCounted_17 ?_
    refine jo_iconst (pc := 20) dX10_keepCounted_20 (ic_i_0) ?_
    refine jo_dup2 (pc := 21) dX10_keepCounted_21 rfl rfl ?_
    refine jo_iald (pc := 22) (ik_16 hw) dX10_keepCounted_22 (fun v4 => ?_)
    refine jo_iconst (pc := 23) dX10_keepCounted_23 (ic_i_1) ?_
    refine jo_iadd (pc := 24) dX10_keepCounted_24 ?_
    refine jo_iast (pc := 25) (ik_16 hw) dX10_keepCounted_25 (fun σ5 => ?_)
    refine jo_iconst (pc := 26) dX10_keepCounted_26 (ic_i_0) ?_
    exact jo_breturn (pc := 27) (b := false) rfl rfl dX10_keepCounted_27
theorem c_X10_keepCounted {w : Wd} (hw : WOK w) {σ : Mem} {x0 : Int32} : ∀ r σ', f_X10_keepCounted σ x0 = some (r, σ') → MC w mu_X10_keepCounted (vB r) [.ref (adr w 0), .int x0] σ σ' := mc_of ok_X10_keepCounted rfl (Nat.le_of_ble_eq_true rfl) (t_X10_keepCounted hw)
abbrev mu_X10_multiply : MD := (yX10_multiply, cX10_multiply, 4, some .boolean, 6)
theorem ok_X10_multiply : MOK mu_X10_multiply 3 := ⟨gw_809, gw_158, (by decide +kernel : plainFor yX10_multiply = true), ⟨(by decide +kernel : yX10_multiply.cls ≠ "java/lang/invoke/MethodHandle"), (by decide +kernel : yX10_multiply.cls ≠ "java/lang/invoke/VarHandle"), (by decide +kernel : (parseMethodDescriptor yX10_multiply.desc).map (fun d => d.parameters.length) = some 3)⟩, Nat.le_of_ble_eq_true rfl⟩
noncomputable def f_X10_multiply (σ : Mem) (x0 : Int32) (x1 : Int32) (x2 : Int32) : Option (Bool × Mem) :=
  (f_X10_areUsable σ x0 x1).bind (fun (b1 : Bool) => if b1 then (f_X10_isRegister σ x2).bind (fun (b2 : Bool) => if b2 then gR 5 x1 (fun (p3 : Nat) => gR 5 x2 (fun (p4 : Nat) => (f_X0_product σ 176 p3 p4).bind (fun (σ5 : Mem) => bq (f_X10_keepCounted σ5 x0) (fun (b6 : Bool) (σ7 : Mem) => some (b6, σ7))))) else some (false, σ)) else some (false, σ))
theorem t_X10_multiply {w : Wd} (hw : WOK w) {σ : Mem} {x0 : Int32} {x1 : Int32} {x2 : Int32} : JO w mu_X10_multiply vB σ [(0, .ref (adr w 0)), (1, .int x0), (2, .int x1), (3, .int x2)] [] 0 (f_X10_multiply σ x0 x1 x2) some := by
  unfold f_X10_multiply
  refine jo_aload_n (pc := 0) 0 rfl dX10_multiply_0 rfl ?_
  refine jo_iload_n (pc := 1) 1 rfl dX10_multiply_1 rfl ?_
  refine jo_iload_n (pc := 2) 2 rfl dX10_multiply_2 rfl ?_
  refine jo_cV_Z_p (pc := 3) (μ' := mu_X10_areUsable) (fx := f_X10_areUsable σ x0 x1) (As := [.int x0, .int x1]) (c_X10_areUsable hw) (ok_X10_areUsable) (ltb rfl) (all3 gw_810 gw_812 gw_13) (ik_0 hw) (by decide) (q := (RX10, TX10, 17)) rfl rfl rfl rfl (Nat.le_of_ble_eq_true rfl) dX10_multiply_3 (fun b1 => ?_)
  refine jo_ifz_eq (pc := 6) dX10_multiply_6 (tgt := 16) rfl ?_ ?_
  · refine jo_iconst (pc := 16) dX10_multiply_16 (ic_i_0) ?_
    exact jo_breturn (pc := 17) (b := false) rfl rfl dX10_multiply_17
  · refine jo_iload_n (pc := 9) 3 rfl dX10_multiply_9 rfl ?_
    refine jo_cS_Z_p (pc := 10) (μ' := mu_X10_isRegister) (fx := f_X10_isRegister σ x2) (As := [.int x2]) (c_X10_isRegister hw) (ok_X10_isRegister) (ltb rfl) (all2 gw_803 gw_804) rfl rfl (Nat.le_of_ble_eq_true rfl) dX10_multiply_10 (fun b2 => ?_)
    refine jo_ifz_ne (pc := 13) dX10_multiply_13 (tgt := 18) rfl ?_ ?_
    · refine jo_aload_n (pc := 18) 0 rfl dX10_multiply_18 rfl ?_
      refine jo_getrE (pc := 19) ok_10_10 (ik_0 hw) rf_0_10 gw_641 dX10_multiply_19 ?_
      refine jo_aload_n (pc := 22) 0 rfl dX10_multiply_22 rfl ?_
      refine jo_getrE (pc := 23) ok_10_15 (ik_0 hw) rf_0_15 gw_646 dX10_multiply_23 ?_
      refine jo_aload_n (pc := 26) 0 rfl dX10_multiply_26 rfl ?_
      refine jo_getrE (pc := 27) ok_10_0 (ik_0 hw) rf_0_0 gw_631 dX10_multiply_27 ?_
      refine jo_getrE (pc := 30) ok_8_1 (ik_1 hw) rf_1_1 gw_221 dX10_multiply_30 ?_
      refine jo_iload_n (pc := 33) 2 rfl dX10_multiply_33 rfl ?_
      refine jo_aaldG (pc := 34) (z := 13) hw (ik_5 hw) (by decide) (t := 4) rfl rfl (by decide) dX10_multiply_34 (fun p3 hp3 => ?_)
      refine jo_aload_n (pc := 35) 0 rfl dX10_multiply_35 rfl ?_
      refine jo_getrE (pc := 36) ok_10_0 (ik_0 hw) rf_0_0 gw_631 dX10_multiply_36 ?_
      refine jo_getrE (pc := 39) ok_8_1 (ik_1 hw) rf_1_1 gw_221 dX10_multiply_39 ?_
      refine jo_iload_n (pc := 42) 3 rfl dX10_multiply_42 rfl ?_
      refine jo_aaldG (pc := 43) (z := 13) hw (ik_5 hw) (by decide) (t := 4) rfl rfl (by decide) dX10_multiply_43 (fun p4 hp4 => ?_)
      refine jo_cV_V_i (pc := 44) (μ' := mu_X0_product) (fx := f_X0_product σ 176 p3 p4) (As := [.ref (adr w 176), .ref (adr w p3), .ref (adr w p4)]) (c_X0_product hw (ik_176 hw) (hp3) (hp4)) (ok_X0_product) (ltb rfl) (all3 gw_814 gw_815 gw_816) (ik_72 hw) (by decide) (q := (RX0, TX0, 8)) rfl rfl rfl rfl (Nat.le_of_ble_eq_true rfl) dX10_multiply_44 (fun σ5 => ?_)
      refine jo_aload_n (pc := 47) 0 rfl dX10_multiply_47 rfl ?_
      refine jo_iload_n (pc := 48) 1 rfl dX10_multiply_48 rfl ?_
      refine jo_cV_Z_i (pc := 49) (μ' := mu_X10_keepCounted) (fx := f_X10_keepCounted σ5 x0) (As := [.int x0]) (c_X10_keepCounted hw) (ok_X10_keepCounted) (ltb rfl) (all3 gw_820 gw_822 gw_14) (ik_0 hw) (by decide) (q := (RX10, TX10, 17)) rfl rfl rfl rfl (Nat.le_of_ble_eq_true rfl) dX10_multiply_49 (fun b6 σ7 => ?_)
      exact jo_breturn (pc := 52) (b := b6) rfl rfl dX10_multiply_52
    · refine jo_iconst (pc := 16) dX10_multiply_16 (ic_i_0) ?_
      exact jo_breturn (pc := 17) (b := false) rfl rfl dX10_multiply_17
theorem c_X10_multiply {w : Wd} (hw : WOK w) {σ : Mem} {x0 : Int32} {x1 : Int32} {x2 : Int32} : ∀ r σ', f_X10_multiply σ x0 x1 x2 = some (r, σ') → MC w mu_X10_multiply (vB r) [.ref (adr w 0), .int x0, .int x1, .int x2] σ σ' := mc_of ok_X10_multiply rfl (Nat.le_of_ble_eq_true rfl) (t_X10_multiply hw)
abbrev mu_X10_invert : MD := (yX10_invert, cX10_invert, 3, some .boolean, 6)
theorem ok_X10_invert : MOK mu_X10_invert 2 := ⟨gw_836, gw_158, (by decide +kernel : plainFor yX10_invert = true), ⟨(by decide +kernel : yX10_invert.cls ≠ "java/lang/invoke/MethodHandle"), (by decide +kernel : yX10_invert.cls ≠ "java/lang/invoke/VarHandle"), (by decide +kernel : (parseMethodDescriptor yX10_invert.desc).map (fun d => d.parameters.length) = some 2)⟩, Nat.le_of_ble_eq_true rfl⟩
noncomputable def f_X10_invert (σ : Mem) (x0 : Int32) (x1 : Int32) : Option (Bool × Mem) :=
  (f_X10_areUsable σ x0 x1).bind (fun (b1 : Bool) => if b1 then gR 5 x1 (fun (p2 : Nat) => (f_X0_inverse σ 176 p2).bind (fun (σ3 : Mem) => bq (f_X10_keepCounted σ3 x0) (fun (b4 : Bool) (σ5 : Mem) => some (b4, σ5)))) else some (false, σ))
theorem t_X10_invert {w : Wd} (hw : WOK w) {σ : Mem} {x0 : Int32} {x1 : Int32} : JO w mu_X10_invert vB σ [(0, .ref (adr w 0)), (1, .int x0), (2, .int x1)] [] 0 (f_X10_invert σ x0 x1) some := by
  unfold f_X10_invert
  refine jo_aload_n (pc := 0) 0 rfl dX10_invert_0 rfl ?_
  refine jo_iload_n (pc := 1) 1 rfl dX10_invert_1 rfl ?_
  refine jo_iload_n (pc := 2) 2 rfl dX10_invert_2 rfl ?_
  refine jo_cV_Z_p (pc := 3) (μ' := mu_X10_areUsable) (fx := f_X10_areUsable σ x0 x1) (As := [.int x0, .int x1]) (c_X10_areUsable hw) (ok_X10_areUsable) (ltb rfl) (all3 gw_810 gw_812 gw_13) (ik_0 hw) (by decide) (q := (RX10, TX10, 17)) rfl rfl rfl rfl (Nat.le_of_ble_eq_true rfl) dX10_invert_3 (fun b1 => ?_)
  refine jo_ifz_ne (pc := 6) dX10_invert_6 (tgt := 11) rfl ?_ ?_
  · refine jo_aload_n (pc := 11) 0 rfl dX10_invert_11 rfl ?_
    refine jo_getrE (pc := 12) ok_10_10 (ik_0 hw) rf_0_10 gw_641 dX10_invert_12 ?_
    refine jo_aload_n (pc := 15) 0 rfl dX10_invert_15 rfl ?_
    refine jo_getrE (pc := 16) ok_10_15 (ik_0 hw) rf_0_15 gw_646 dX10_invert_16 ?_
    refine jo_aload_n (pc := 19) 0 rfl dX10_invert_19 rfl ?_
    refine jo_getrE (pc := 20) ok_10_0 (ik_0 hw) rf_0_0 gw_631 dX10_invert_20 ?_
    refine jo_getrE (pc := 23) ok_8_1 (ik_1 hw) rf_1_1 gw_221 dX10_invert_23 ?_
    refine jo_iload_n (pc := 26) 2 rfl dX10_invert_26 rfl ?_
    refine jo_aaldG (pc := 27) (z := 13) hw (ik_5 hw) (by decide) (t := 4) rfl rfl (by decide) dX10_invert_27 (fun p2 hp2 => ?_)
    refine jo_cV_V_i (pc := 28) (μ' := mu_X0_inverse) (fx := f_X0_inverse σ 176 p2) (As := [.ref (adr w 176), .ref (adr w p2)]) (c_X0_inverse hw (ik_176 hw) (hp2)) (ok_X0_inverse) (ltb rfl) (all3 gw_837 gw_838 gw_839) (ik_72 hw) (by decide) (q := (RX0, TX0, 8)) rfl rfl rfl rfl (Nat.le_of_ble_eq_true rfl) dX10_invert_28 (fun σ3 => ?_)
    refine jo_aload_n (pc := 31) 0 rfl dX10_invert_31 rfl ?_
    refine jo_iload_n (pc := 32) 1 rfl dX10_invert_32 rfl ?_
    refine jo_cV_Z_i (pc := 33) (μ' := mu_X10_keepCounted) (fx := f_X10_keepCounted σ3 x0) (As := [.int x0]) (c_X10_keepCounted hw) (ok_X10_keepCounted) (ltb rfl) (all3 gw_820 gw_822 gw_14) (ik_0 hw) (by decide) (q := (RX10, TX10, 17)) rfl rfl rfl rfl (Nat.le_of_ble_eq_true rfl) dX10_invert_33 (fun b4 σ5 => ?_)
    exact jo_breturn (pc := 36) (b := b4) rfl rfl dX10_invert_36
  · refine jo_iconst (pc := 9) dX10_invert_9 (ic_i_0) ?_
    exact jo_breturn (pc := 10) (b := false) rfl rfl dX10_invert_10
theorem c_X10_invert {w : Wd} (hw : WOK w) {σ : Mem} {x0 : Int32} {x1 : Int32} : ∀ r σ', f_X10_invert σ x0 x1 = some (r, σ') → MC w mu_X10_invert (vB r) [.ref (adr w 0), .int x0, .int x1] σ σ' := mc_of ok_X10_invert rfl (Nat.le_of_ble_eq_true rfl) (t_X10_invert hw)
abbrev mu_X10_power : MD := (yX10_power, cX10_power, 4, some .boolean, 6)
theorem ok_X10_power : MOK mu_X10_power 3 := ⟨gw_844, gw_158, (by decide +kernel : plainFor yX10_power = true), ⟨(by decide +kernel : yX10_power.cls ≠ "java/lang/invoke/MethodHandle"), (by decide +kernel : yX10_power.cls ≠ "java/lang/invoke/VarHandle"), (by decide +kernel : (parseMethodDescriptor yX10_power.desc).map (fun d => d.parameters.length) = some 3)⟩, Nat.le_of_ble_eq_true rfl⟩
noncomputable def f_X10_power (σ : Mem) (x0 : Int32) (x1 : Int32) (x2 : Int32) : Option (Bool × Mem) :=
  (f_X10_areUsable σ x0 x1).bind (fun (b1 : Bool) => if b1 then if x2 < (-99) then (some (false, σ)) else (if x2 ≤ 99 then (gR 5 x1 (fun (p2 : Nat) => (f_X0_raise σ 176 p2 (Int32.toInt64 x2)).bind (fun (σ3 : Mem) => bq (f_X10_keepCounted σ3 x0) (fun (b4 : Bool) (σ5 : Mem) => some (b4, σ5))))) else (some (false, σ))) else some (false, σ))
theorem t_X10_power {w : Wd} (hw : WOK w) {σ : Mem} {x0 : Int32} {x1 : Int32} {x2 : Int32} : JO w mu_X10_power vB σ [(0, .ref (adr w 0)), (1, .int x0), (2, .int x1), (3, .int x2)] [] 0 (f_X10_power σ x0 x1 x2) some := by
  unfold f_X10_power
  refine jo_aload_n (pc := 0) 0 rfl dX10_power_0 rfl ?_
  refine jo_iload_n (pc := 1) 1 rfl dX10_power_1 rfl ?_
  refine jo_iload_n (pc := 2) 2 rfl dX10_power_2 rfl ?_
  refine jo_cV_Z_p (pc := 3) (μ' := mu_X10_areUsable) (fx := f_X10_areUsable σ x0 x1) (As := [.int x0, .int x1]) (c_X10_areUsable hw) (ok_X10_areUsable) (ltb rfl) (all3 gw_810 gw_812 gw_13) (ik_0 hw) (by decide) (q := (RX10, TX10, 17)) rfl rfl rfl rfl (Nat.le_of_ble_eq_true rfl) dX10_power_3 (fun b1 => ?_)
  refine jo_ifz_eq (pc := 6) dX10_power_6 (tgt := 21) rfl ?_ ?_
  · refine jo_iconst (pc := 21) dX10_power_21 (ic_i_0) ?_
    exact jo_breturn (pc := 22) (b := false) rfl rfl dX10_power_22
  · refine jo_iload_n (pc := 9) 3 rfl dX10_power_9 rfl ?_
    refine jo_bipush (pc := 10) dX10_power_10 (ic_b_m99) ?_
    refine jo_icmp_lt (pc := 12) dX10_power_12 (tgt := 21) rfl ?_ ?_
    · refine jo_iconst (pc := 21) dX10_power_21 (ic_i_0) ?_
      exact jo_breturn (pc := 22) (b := false) rfl rfl dX10_power_22
    · refine jo_iload_n (pc := 15) 3 rfl dX10_power_15 rfl ?_
      refine jo_bipush (pc := 16) dX10_power_16 (ic_b_99) ?_
      refine jo_icmp_le (pc := 18) dX10_power_18 (tgt := 23) rfl ?_ ?_
      · refine jo_aload_n (pc := 23) 0 rfl dX10_power_23 rfl ?_
        refine jo_getrE (pc := 24) ok_10_10 (ik_0 hw) rf_0_10 gw_641 dX10_power_24 ?_
        refine jo_aload_n (pc := 27) 0 rfl dX10_power_27 rfl ?_
        refine jo_getrE (pc := 28) ok_10_15 (ik_0 hw) rf_0_15 gw_646 dX10_power_28 ?_
        refine jo_aload_n (pc := 31) 0 rfl dX10_power_31 rfl ?_
        refine jo_getrE (pc := 32) ok_10_0 (ik_0 hw) rf_0_0 gw_631 dX10_power_32 ?_
        refine jo_getrE (pc := 35) ok_8_1 (ik_1 hw) rf_1_1 gw_221 dX10_power_35 ?_
        refine jo_iload_n (pc := 38) 2 rfl dX10_power_38 rfl ?_
        refine jo_aaldG (pc := 39) (z := 13) hw (ik_5 hw) (by decide) (t := 4) rfl rfl (by decide) dX10_power_39 (fun p2 hp2 => ?_)
        refine jo_iload_n (pc := 40) 3 rfl dX10_power_40 rfl ?_
        refine jo_i2l (pc := 41) dX10_power_41 ?_
        refine jo_cV_V_i (pc := 42) (μ' := mu_X0_raise) (fx := f_X0_raise σ 176 p2 (Int32.toInt64 x2)) (As := [.ref (adr w 176), .ref (adr w p2), .long (Int32.toInt64 x2)]) (c_X0_raise hw (ik_176 hw) (hp2)) (ok_X0_raise) (ltb rfl) (all3 gw_845 gw_846 gw_847) (ik_72 hw) (by decide) (q := (RX0, TX0, 8)) rfl rfl rfl rfl (Nat.le_of_ble_eq_true rfl) dX10_power_42 (fun σ3 => ?_)
        refine jo_aload_n (pc := 45) 0 rfl dX10_power_45 rfl ?_
        refine jo_iload_n (pc := 46) 1 rfl dX10_power_46 rfl ?_
        refine jo_cV_Z_i (pc := 47) (μ' := mu_X10_keepCounted) (fx := f_X10_keepCounted σ3 x0) (As := [.int x0]) (c_X10_keepCounted hw) (ok_X10_keepCounted) (ltb rfl) (all3 gw_820 gw_822 gw_14) (ik_0 hw) (by decide) (q := (RX10, TX10, 17)) rfl rfl rfl rfl (Nat.le_of_ble_eq_true rfl) dX10_power_47 (fun b4 σ5 => ?_)
        exact jo_breturn (pc := 50) (b := b4) rfl rfl dX10_power_50
      · refine jo_iconst (pc := 21) dX10_power_21 (ic_i_0) ?_
        exact jo_breturn (pc := 22) (b := false) rfl rfl dX10_power_22
theorem c_X10_power {w : Wd} (hw : WOK w) {σ : Mem} {x0 : Int32} {x1 : Int32} {x2 : Int32} : ∀ r σ', f_X10_power σ x0 x1 x2 = some (r, σ') → MC w mu_X10_power (vB r) [.ref (adr w 0), .int x0, .int x1, .int x2] σ σ' := mc_of ok_X10_power rfl (Nat.le_of_ble_eq_true rfl) (t_X10_power hw)
abbrev mu_X10_commute : MD := (yX10_commute, cX10_commute, 4, some .boolean, 6)
theorem ok_X10_commute : MOK mu_X10_commute 3 := ⟨gw_869, gw_158, (by decide +kernel : plainFor yX10_commute = true), ⟨(by decide +kernel : yX10_commute.cls ≠ "java/lang/invoke/MethodHandle"), (by decide +kernel : yX10_commute.cls ≠ "java/lang/invoke/VarHandle"), (by decide +kernel : (parseMethodDescriptor yX10_commute.desc).map (fun d => d.parameters.length) = some 3)⟩, Nat.le_of_ble_eq_true rfl⟩
noncomputable def f_X10_commute (σ : Mem) (x0 : Int32) (x1 : Int32) (x2 : Int32) : Option (Bool × Mem) :=
  (f_X10_areUsable σ x0 x1).bind (fun (b1 : Bool) => if b1 then (f_X10_isRegister σ x2).bind (fun (b2 : Bool) => if b2 then gR 5 x1 (fun (p3 : Nat) => gR 5 x2 (fun (p4 : Nat) => (f_X0_commutator σ 176 p3 p4).bind (fun (σ5 : Mem) => bq (f_X10_keepCounted σ5 x0) (fun (b6 : Bool) (σ7 : Mem) => some (b6, σ7))))) else some (false, σ)) else some (false, σ))
theorem t_X10_commute {w : Wd} (hw : WOK w) {σ : Mem} {x0 : Int32} {x1 : Int32} {x2 : Int32} : JO w mu_X10_commute vB σ [(0, .ref (adr w 0)), (1, .int x0), (2, .int x1), (3, .int x2)] [] 0 (f_X10_commute σ x0 x1 x2) some := by
  unfold f_X10_commute
  refine jo_aload_n (pc := 0) 0 rfl dX10_commute_0 rfl ?_
  refine jo_iload_n (pc := 1) 1 rfl dX10_commute_1 rfl ?_
  refine jo_iload_n (pc := 2) 2 rfl dX10_commute_2 rfl ?_
  refine jo_cV_Z_p (pc := 3) (μ' := mu_X10_areUsable) (fx := f_X10_areUsable σ x0 x1) (As := [.int x0, .int x1]) (c_X10_areUsable hw) (ok_X10_areUsable) (ltb rfl) (all3 gw_810 gw_812 gw_13) (ik_0 hw) (by decide) (q := (RX10, TX10, 17)) rfl rfl rfl rfl (Nat.le_of_ble_eq_true rfl) dX10_commute_3 (fun b1 => ?_)
  refine jo_ifz_eq (pc := 6) dX10_commute_6 (tgt := 16) rfl ?_ ?_
  · refine jo_iconst (pc := 16) dX10_commute_16 (ic_i_0) ?_
    exact jo_breturn (pc := 17) (b := false) rfl rfl dX10_commute_17
  · refine jo_iload_n (pc := 9) 3 rfl dX10_commute_9 rfl ?_
    refine jo_cS_Z_p (pc := 10) (μ' := mu_X10_isRegister) (fx := f_X10_isRegister σ x2) (As := [.int x2]) (c_X10_isRegister hw) (ok_X10_isRegister) (ltb rfl) (all2 gw_803 gw_804) rfl rfl (Nat.le_of_ble_eq_true rfl) dX10_commute_10 (fun b2 => ?_)
    refine jo_ifz_ne (pc := 13) dX10_commute_13 (tgt := 18) rfl ?_ ?_
    · refine jo_aload_n (pc := 18) 0 rfl dX10_commute_18 rfl ?_
      refine jo_getrE (pc := 19) ok_10_10 (ik_0 hw) rf_0_10 gw_641 dX10_commute_19 ?_
      refine jo_aload_n (pc := 22) 0 rfl dX10_commute_22 rfl ?_
      refine jo_getrE (pc := 23) ok_10_15 (ik_0 hw) rf_0_15 gw_646 dX10_commute_23 ?_
      refine jo_aload_n (pc := 26) 0 rfl dX10_commute_26 rfl ?_
      refine jo_getrE (pc := 27) ok_10_0 (ik_0 hw) rf_0_0 gw_631 dX10_commute_27 ?_
      refine jo_getrE (pc := 30) ok_8_1 (ik_1 hw) rf_1_1 gw_221 dX10_commute_30 ?_
      refine jo_iload_n (pc := 33) 2 rfl dX10_commute_33 rfl ?_
      refine jo_aaldG (pc := 34) (z := 13) hw (ik_5 hw) (by decide) (t := 4) rfl rfl (by decide) dX10_commute_34 (fun p3 hp3 => ?_)
      refine jo_aload_n (pc := 35) 0 rfl dX10_commute_35 rfl ?_
      refine jo_getrE (pc := 36) ok_10_0 (ik_0 hw) rf_0_0 gw_631 dX10_commute_36 ?_
      refine jo_getrE (pc := 39) ok_8_1 (ik_1 hw) rf_1_1 gw_221 dX10_commute_39 ?_
      refine jo_iload_n (pc := 42) 3 rfl dX10_commute_42 rfl ?_
      refine jo_aaldG (pc := 43) (z := 13) hw (ik_5 hw) (by decide) (t := 4) rfl rfl (by decide) dX10_commute_43 (fun p4 hp4 => ?_)
      refine jo_cV_V_i (pc := 44) (μ' := mu_X0_commutator) (fx := f_X0_commutator σ 176 p3 p4) (As := [.ref (adr w 176), .ref (adr w p3), .ref (adr w p4)]) (c_X0_commutator hw (ik_176 hw) (hp3) (hp4)) (ok_X0_commutator) (ltb rfl) (all3 gw_870 gw_871 gw_872) (ik_72 hw) (by decide) (q := (RX0, TX0, 8)) rfl rfl rfl rfl (Nat.le_of_ble_eq_true rfl) dX10_commute_44 (fun σ5 => ?_)
      refine jo_aload_n (pc := 47) 0 rfl dX10_commute_47 rfl ?_
      refine jo_iload_n (pc := 48) 1 rfl dX10_commute_48 rfl ?_
      refine jo_cV_Z_i (pc := 49) (μ' := mu_X10_keepCounted) (fx := f_X10_keepCounted σ5 x0) (As := [.int x0]) (c_X10_keepCounted hw) (ok_X10_keepCounted) (ltb rfl) (all3 gw_820 gw_822 gw_14) (ik_0 hw) (by decide) (q := (RX10, TX10, 17)) rfl rfl rfl rfl (Nat.le_of_ble_eq_true rfl) dX10_commute_49 (fun b6 σ7 => ?_)
      exact jo_breturn (pc := 52) (b := b6) rfl rfl dX10_commute_52
    · refine jo_iconst (pc := 16) dX10_commute_16 (ic_i_0) ?_
      exact jo_breturn (pc := 17) (b := false) rfl rfl dX10_commute_17
theorem c_X10_commute {w : Wd} (hw : WOK w) {σ : Mem} {x0 : Int32} {x1 : Int32} {x2 : Int32} : ∀ r σ', f_X10_commute σ x0 x1 x2 = some (r, σ') → MC w mu_X10_commute (vB r) [.ref (adr w 0), .int x0, .int x1, .int x2] σ σ' := mc_of ok_X10_commute rfl (Nat.le_of_ble_eq_true rfl) (t_X10_commute hw)
abbrev mu_X10_conjugate : MD := (yX10_conjugate, cX10_conjugate, 4, some .boolean, 6)
theorem ok_X10_conjugate : MOK mu_X10_conjugate 3 := ⟨gw_878, gw_158, (by decide +kernel : plainFor yX10_conjugate = true), ⟨(by decide +kernel : yX10_conjugate.cls ≠ "java/lang/invoke/MethodHandle"), (by decide +kernel : yX10_conjugate.cls ≠ "java/lang/invoke/VarHandle"), (by decide +kernel : (parseMethodDescriptor yX10_conjugate.desc).map (fun d => d.parameters.length) = some 3)⟩, Nat.le_of_ble_eq_true rfl⟩
noncomputable def f_X10_conjugate (σ : Mem) (x0 : Int32) (x1 : Int32) (x2 : Int32) : Option (Bool × Mem) :=
  (f_X10_areUsable σ x0 x1).bind (fun (b1 : Bool) => if b1 then (f_X10_isRegister σ x2).bind (fun (b2 : Bool) => if b2 then gR 5 x1 (fun (p3 : Nat) => gR 5 x2 (fun (p4 : Nat) => (f_X0_conjugated σ 176 p3 p4).bind (fun (σ5 : Mem) => bq (f_X10_keepCounted σ5 x0) (fun (b6 : Bool) (σ7 : Mem) => some (b6, σ7))))) else some (false, σ)) else some (false, σ))
theorem t_X10_conjugate {w : Wd} (hw : WOK w) {σ : Mem} {x0 : Int32} {x1 : Int32} {x2 : Int32} : JO w mu_X10_conjugate vB σ [(0, .ref (adr w 0)), (1, .int x0), (2, .int x1), (3, .int x2)] [] 0 (f_X10_conjugate σ x0 x1 x2) some := by
  unfold f_X10_conjugate
  refine jo_aload_n (pc := 0) 0 rfl dX10_conjugate_0 rfl ?_
  refine jo_iload_n (pc := 1) 1 rfl dX10_conjugate_1 rfl ?_
  refine jo_iload_n (pc := 2) 2 rfl dX10_conjugate_2 rfl ?_
  refine jo_cV_Z_p (pc := 3) (μ' := mu_X10_areUsable) (fx := f_X10_areUsable σ x0 x1) (As := [.int x0, .int x1]) (c_X10_areUsable hw) (ok_X10_areUsable) (ltb rfl) (all3 gw_810 gw_812 gw_13) (ik_0 hw) (by decide) (q := (RX10, TX10, 17)) rfl rfl rfl rfl (Nat.le_of_ble_eq_true rfl) dX10_conjugate_3 (fun b1 => ?_)
  refine jo_ifz_eq (pc := 6) dX10_conjugate_6 (tgt := 16) rfl ?_ ?_
  · refine jo_iconst (pc := 16) dX10_conjugate_16 (ic_i_0) ?_
    exact jo_breturn (pc := 17) (b := false) rfl rfl dX10_conjugate_17
  · refine jo_iload_n (pc := 9) 3 rfl dX10_conjugate_9 rfl ?_
    refine jo_cS_Z_p (pc := 10) (μ' := mu_X10_isRegister) (fx := f_X10_isRegister σ x2) (As := [.int x2]) (c_X10_isRegister hw) (ok_X10_isRegister) (ltb rfl) (all2 gw_803 gw_804) rfl rfl (Nat.le_of_ble_eq_true rfl) dX10_conjugate_10 (fun b2 => ?_)
    refine jo_ifz_ne (pc := 13) dX10_conjugate_13 (tgt := 18) rfl ?_ ?_
    · refine jo_aload_n (pc := 18) 0 rfl dX10_conjugate_18 rfl ?_
      refine jo_getrE (pc := 19) ok_10_10 (ik_0 hw) rf_0_10 gw_641 dX10_conjugate_19 ?_
      refine jo_aload_n (pc := 22) 0 rfl dX10_conjugate_22 rfl ?_
      refine jo_getrE (pc := 23) ok_10_15 (ik_0 hw) rf_0_15 gw_646 dX10_conjugate_23 ?_
      refine jo_aload_n (pc := 26) 0 rfl dX10_conjugate_26 rfl ?_
      refine jo_getrE (pc := 27) ok_10_0 (ik_0 hw) rf_0_0 gw_631 dX10_conjugate_27 ?_
      refine jo_getrE (pc := 30) ok_8_1 (ik_1 hw) rf_1_1 gw_221 dX10_conjugate_30 ?_
      refine jo_iload_n (pc := 33) 2 rfl dX10_conjugate_33 rfl ?_
      refine jo_aaldG (pc := 34) (z := 13) hw (ik_5 hw) (by decide) (t := 4) rfl rfl (by decide) dX10_conjugate_34 (fun p3 hp3 => ?_)
      refine jo_aload_n (pc := 35) 0 rfl dX10_conjugate_35 rfl ?_
      refine jo_getrE (pc := 36) ok_10_0 (ik_0 hw) rf_0_0 gw_631 dX10_conjugate_36 ?_
      refine jo_getrE (pc := 39) ok_8_1 (ik_1 hw) rf_1_1 gw_221 dX10_conjugate_39 ?_
      refine jo_iload_n (pc := 42) 3 rfl dX10_conjugate_42 rfl ?_
      refine jo_aaldG (pc := 43) (z := 13) hw (ik_5 hw) (by decide) (t := 4) rfl rfl (by decide) dX10_conjugate_43 (fun p4 hp4 => ?_)
      refine jo_cV_V_i (pc := 44) (μ' := mu_X0_conjugated) (fx := f_X0_conjugated σ 176 p3 p4) (As := [.ref (adr w 176), .ref (adr w p3), .ref (adr w p4)]) (c_X0_conjugated hw (ik_176 hw) (hp3) (hp4)) (ok_X0_conjugated) (ltb rfl) (all3 gw_879 gw_880 gw_881) (ik_72 hw) (by decide) (q := (RX0, TX0, 8)) rfl rfl rfl rfl (Nat.le_of_ble_eq_true rfl) dX10_conjugate_44 (fun σ5 => ?_)
      refine jo_aload_n (pc := 47) 0 rfl dX10_conjugate_47 rfl ?_
      refine jo_iload_n (pc := 48) 1 rfl dX10_conjugate_48 rfl ?_
      refine jo_cV_Z_i (pc := 49) (μ' := mu_X10_keepCounted) (fx := f_X10_keepCounted σ5 x0) (As := [.int x0]) (c_X10_keepCounted hw) (ok_X10_keepCounted) (ltb rfl) (all3 gw_820 gw_822 gw_14) (ik_0 hw) (by decide) (q := (RX10, TX10, 17)) rfl rfl rfl rfl (Nat.le_of_ble_eq_true rfl) dX10_conjugate_49 (fun b6 σ7 => ?_)
      exact jo_breturn (pc := 52) (b := b6) rfl rfl dX10_conjugate_52
    · refine jo_iconst (pc := 16) dX10_conjugate_16 (ic_i_0) ?_
      exact jo_breturn (pc := 17) (b := false) rfl rfl dX10_conjugate_17
theorem c_X10_conjugate {w : Wd} (hw : WOK w) {σ : Mem} {x0 : Int32} {x1 : Int32} {x2 : Int32} : ∀ r σ', f_X10_conjugate σ x0 x1 x2 = some (r, σ') → MC w mu_X10_conjugate (vB r) [.ref (adr w 0), .int x0, .int x1, .int x2] σ σ' := mc_of ok_X10_conjugate rfl (Nat.le_of_ble_eq_true rfl) (t_X10_conjugate hw)
abbrev mu_X10_root : MD := (yX10_root, cX10_root, 4, some .boolean, 5)
theorem ok_X10_root : MOK mu_X10_root 3 := ⟨gw_886, gw_158, (by decide +kernel : plainFor yX10_root = true), ⟨(by decide +kernel : yX10_root.cls ≠ "java/lang/invoke/MethodHandle"), (by decide +kernel : yX10_root.cls ≠ "java/lang/invoke/VarHandle"), (by decide +kernel : (parseMethodDescriptor yX10_root.desc).map (fun d => d.parameters.length) = some 3)⟩, Nat.le_of_ble_eq_true rfl⟩
noncomputable def j_X10_root_59 (σ5 : Mem) : Option (Bool × Mem) :=
  some (false, σ5)
noncomputable def f_X10_root (σ : Mem) (x0 : Int32) (x1 : Int32) (x2 : Int32) : Option (Bool × Mem) :=
  (f_X10_areUsable σ x0 x1).bind (fun (b1 : Bool) => if b1 then if x2 < 1 then (some (false, σ)) else (if x2 ≤ 99 then (gR 5 x1 (fun (p2 : Nat) => bq (f_X0_extract σ 176 p2 (Int32.toInt64 x2)) (fun (b3 : Bool) (σ4 : Mem) => (if b3 then bq (f_X10_keep σ4 x0) (fun (b6 : Bool) (σ7 : Mem) => if b6 then some (Sum.inr (true, σ7)) else some (Sum.inl σ7)) else some (Sum.inl σ4) : Option (Mem ⊕ (Bool × Mem))).bind (Sum.elim (fun (z5 : Mem) => j_X10_root_59 z5) some)))) else (some (false, σ))) else some (false, σ))
theorem t_X10_root {w : Wd} (hw : WOK w) {σ : Mem} {x0 : Int32} {x1 : Int32} {x2 : Int32} : JO w mu_X10_root vB σ [(0, .ref (adr w 0)), (1, .int x0), (2, .int x1), (3, .int x2)] [] 0 (f_X10_root σ x0 x1 x2) some := by
  unfold f_X10_root
  refine jo_aload_n (pc := 0) 0 rfl dX10_root_0 rfl ?_
  refine jo_iload_n (pc := 1) 1 rfl dX10_root_1 rfl ?_
  refine jo_iload_n (pc := 2) 2 rfl dX10_root_2 rfl ?_
  refine jo_cV_Z_p (pc := 3) (μ' := mu_X10_areUsable) (fx := f_X10_areUsable σ x0 x1) (As := [.int x0, .int x1]) (c_X10_areUsable hw) (ok_X10_areUsable) (ltb rfl) (all3 gw_810 gw_812 gw_13) (ik_0 hw) (by decide) (q := (RX10, TX10, 17)) rfl rfl rfl rfl (Nat.le_of_ble_eq_true rfl) dX10_root_3 (fun b1 => ?_)
  refine jo_ifz_eq (pc := 6) dX10_root_6 (tgt := 20) rfl ?_ ?_
  · refine jo_iconst (pc := 20) dX10_root_20 (ic_i_0) ?_
    exact jo_breturn (pc := 21) (b := false) rfl rfl dX10_root_21
  · refine jo_iload_n (pc := 9) 3 rfl dX10_root_9 rfl ?_
    refine jo_iconst (pc := 10) dX10_root_10 (ic_i_1) ?_
    refine jo_icmp_lt (pc := 11) dX10_root_11 (tgt := 20) rfl ?_ ?_
    · refine jo_iconst (pc := 20) dX10_root_20 (ic_i_0) ?_
      exact jo_breturn (pc := 21) (b := false) rfl rfl dX10_root_21
    · refine jo_iload_n (pc := 14) 3 rfl dX10_root_14 rfl ?_
      refine jo_bipush (pc := 15) dX10_root_15 (ic_b_99) ?_
      refine jo_icmp_le (pc := 17) dX10_root_17 (tgt := 22) rfl ?_ ?_
      · refine jo_aload_n (pc := 22) 0 rfl dX10_root_22 rfl ?_
        refine jo_getrE (pc := 23) ok_10_10 (ik_0 hw) rf_0_10 gw_641 dX10_root_23 ?_
        refine jo_aload_n (pc := 26) 0 rfl dX10_root_26 rfl ?_
        refine jo_getrE (pc := 27) ok_10_15 (ik_0 hw) rf_0_15 gw_646 dX10_root_27 ?_
        refine jo_aload_n (pc := 30) 0 rfl dX10_root_30 rfl ?_
        refine jo_getrE (pc := 31) ok_10_0 (ik_0 hw) rf_0_0 gw_631 dX10_root_31 ?_
        refine jo_getrE (pc := 34) ok_8_1 (ik_1 hw) rf_1_1 gw_221 dX10_root_34 ?_
        refine jo_iload_n (pc := 37) 2 rfl dX10_root_37 rfl ?_
        refine jo_aaldG (pc := 38) (z := 13) hw (ik_5 hw) (by decide) (t := 4) rfl rfl (by decide) dX10_root_38 (fun p2 hp2 => ?_)
        refine jo_iload_n (pc := 39) 3 rfl dX10_root_39 rfl ?_
        refine jo_i2l (pc := 40) dX10_root_40 ?_
        refine jo_cV_Z_i (pc := 41) (μ' := mu_X0_extract) (fx := f_X0_extract σ 176 p2 (Int32.toInt64 x2)) (As := [.ref (adr w 176), .ref (adr w p2), .long (Int32.toInt64 x2)]) (c_X0_extract hw (ik_176 hw) (hp2)) (ok_X0_extract) (ltb rfl) (all3 gw_887 gw_888 gw_889) (ik_72 hw) (by decide) (q := (RX0, TX0, 8)) rfl rfl rfl rfl (Nat.le_of_ble_eq_true rfl) dX10_root_41 (fun b3 σ4 => ?_)
        refine jo_joinS (S := Mem) (fun (z5 : Mem) => z5) (fun (z5 : Mem) => []) (fun (z5 : Mem) => []) 59 ?_ (fun h59_5 => ?_)
        · intro σ5
          show JO w mu_X10_root vB σ5 [] [] 59 (j_X10_root_59 σ5) _
          unfold j_X10_root_59
          refine jo_iconst (pc := 59) dX10_root_59 (ic_i_0) ?_
          exact jo_breturn (pc := 60) (b := false) rfl rfl dX10_root_60
        · refine jo_ifz_eq (pc := 44) dX10_root_44 (tgt := 59) rfl ?_ ?_
          · refine jo_lv (lv' := []) [] rfl ?_
            exact jo_leaf (by rfl) (h59_5 σ4)
          · refine jo_aload_n (pc := 47) 0 rfl dX10_root_47 rfl ?_
            refine jo_iload_n (pc := 48) 1 rfl dX10_root_48 rfl ?_
            refine jo_cV_Z_i (pc := 49) (μ' := mu_X10_keep) (fx := f_X10_keep σ4 x0) (As := [.int x0]) (c_X10_keep hw) (ok_X10_keep) (ltb rfl) (all3 gw_828 gw_830 gw_15) (ik_0 hw) (by decide) (q := (RX10, TX10, 17)) rfl rfl rfl rfl (Nat.le_of_ble_eq_true rfl) dX10_root_49 (fun b6 σ7 => ?_)
            refine jo_ifz_eq (pc := 52) dX10_root_52 (tgt := 59) rfl ?_ ?_
            · refine jo_lv (lv' := []) [] rfl ?_
              exact jo_leaf (by rfl) (h59_5 σ7)
            · refine jo_iconst (pc := 55) dX10_root_55 (ic_i_1) ?_
              refine jo_goto (pc := 56) dX10_root_56 (tgt := 60) rfl ?_
              exact jo_breturn (pc := 60) (b := true) rfl rfl dX10_root_60
      · refine jo_iconst (pc := 20) dX10_root_20 (ic_i_0) ?_
        exact jo_breturn (pc := 21) (b := false) rfl rfl dX10_root_21
theorem c_X10_root {w : Wd} (hw : WOK w) {σ : Mem} {x0 : Int32} {x1 : Int32} {x2 : Int32} : ∀ r σ', f_X10_root σ x0 x1 x2 = some (r, σ') → MC w mu_X10_root (vB r) [.ref (adr w 0), .int x0, .int x1, .int x2] σ σ' := mc_of ok_X10_root rfl (Nat.le_of_ble_eq_true rfl) (t_X10_root hw)
abbrev mu_X10_seek : MD := (yX10_seek, cX10_seek, 5, some .boolean, 7)
theorem ok_X10_seek : MOK mu_X10_seek 4 := ⟨gw_900, gw_158, (by decide +kernel : plainFor yX10_seek = true), ⟨(by decide +kernel : yX10_seek.cls ≠ "java/lang/invoke/MethodHandle"), (by decide +kernel : yX10_seek.cls ≠ "java/lang/invoke/VarHandle"), (by decide +kernel : (parseMethodDescriptor yX10_seek.desc).map (fun d => d.parameters.length) = some 4)⟩, Nat.le_of_ble_eq_true rfl⟩
noncomputable def j_X10_seek_76 (σ7 : Mem) : Option (Bool × Mem) :=
  some (false, σ7)
noncomputable def f_X10_seek (σ : Mem) (x0 : Int32) (x1 : Int32) (x2 : Int32) (x3 : Int32) : Option (Bool × Mem) :=
  (f_X10_areUsable σ x0 x1).bind (fun (b1 : Bool) => if b1 then (f_X10_isRegister σ x2).bind (fun (b2 : Bool) => if b2 then if x3 < 1 then (some (false, σ)) else (if x3 ≤ 3 then (gR 5 x1 (fun (p3 : Nat) => gR 5 x2 (fun (p4 : Nat) => bq (f_X7_conjugator σ 176 p3 p4 x3) (fun (b5 : Bool) (σ6 : Mem) => (if b5 then bq (f_X10_keep σ6 x0) (fun (b8 : Bool) (σ9 : Mem) => if b8 then some (Sum.inr (true, σ9)) else some (Sum.inl σ9)) else some (Sum.inl σ6) : Option (Mem ⊕ (Bool × Mem))).bind (Sum.elim (fun (z7 : Mem) => j_X10_seek_76 z7) some))))) else (some (false, σ))) else some (false, σ)) else some (false, σ))
theorem t_X10_seek {w : Wd} (hw : WOK w) {σ : Mem} {x0 : Int32} {x1 : Int32} {x2 : Int32} {x3 : Int32} : JO w mu_X10_seek vB σ [(0, .ref (adr w 0)), (1, .int x0), (2, .int x1), (3, .int x2), (4, .int x3)] [] 0 (f_X10_seek σ x0 x1 x2 x3) some := by
  unfold f_X10_seek
  refine jo_aload_n (pc := 0) 0 rfl dX10_seek_0 rfl ?_
  refine jo_iload_n (pc := 1) 1 rfl dX10_seek_1 rfl ?_
  refine jo_iload_n (pc := 2) 2 rfl dX10_seek_2 rfl ?_
  refine jo_cV_Z_p (pc := 3) (μ' := mu_X10_areUsable) (fx := f_X10_areUsable σ x0 x1) (As := [.int x0, .int x1]) (c_X10_areUsable hw) (ok_X10_areUsable) (ltb rfl) (all3 gw_810 gw_812 gw_13) (ik_0 hw) (by decide) (q := (RX10, TX10, 17)) rfl rfl rfl rfl (Nat.le_of_ble_eq_true rfl) dX10_seek_3 (fun b1 => ?_)
  refine jo_ifz_eq (pc := 6) dX10_seek_6 (tgt := 28) rfl ?_ ?_
  · refine jo_iconst (pc := 28) dX10_seek_28 (ic_i_0) ?_
    exact jo_breturn (pc := 29) (b := false) rfl rfl dX10_seek_29
  · refine jo_iload_n (pc := 9) 3 rfl dX10_seek_9 rfl ?_
    refine jo_cS_Z_p (pc := 10) (μ' := mu_X10_isRegister) (fx := f_X10_isRegister σ x2) (As := [.int x2]) (c_X10_isRegister hw) (ok_X10_isRegister) (ltb rfl) (all2 gw_803 gw_804) rfl rfl (Nat.le_of_ble_eq_true rfl) dX10_seek_10 (fun b2 => ?_)
    refine jo_ifz_eq (pc := 13) dX10_seek_13 (tgt := 28) rfl ?_ ?_
    · refine jo_iconst (pc := 28) dX10_seek_28 (ic_i_0) ?_
      exact jo_breturn (pc := 29) (b := false) rfl rfl dX10_seek_29
    · refine jo_iload (pc := 16) 4 rfl dX10_seek_16 ?_
      refine jo_iconst (pc := 18) dX10_seek_18 (ic_i_1) ?_
      refine jo_icmp_lt (pc := 19) dX10_seek_19 (tgt := 28) rfl ?_ ?_
      · refine jo_iconst (pc := 28) dX10_seek_28 (ic_i_0) ?_
        exact jo_breturn (pc := 29) (b := false) rfl rfl dX10_seek_29
      · refine jo_iload (pc := 22) 4 rfl dX10_seek_22 ?_
        refine jo_iconst (pc := 24) dX10_seek_24 (ic_i_3) ?_
        refine jo_icmp_le (pc := 25) dX10_seek_25 (tgt := 30) rfl ?_ ?_
        · refine jo_aload_n (pc := 30) 0 rfl dX10_seek_30 rfl ?_
          refine jo_getrE (pc := 31) ok_10_11 (ik_0 hw) rf_0_11 gw_642 dX10_seek_31 ?_
          refine jo_aload_n (pc := 34) 0 rfl dX10_seek_34 rfl ?_
          refine jo_getrE (pc := 35) ok_10_15 (ik_0 hw) rf_0_15 gw_646 dX10_seek_35 ?_
          refine jo_aload_n (pc := 38) 0 rfl dX10_seek_38 rfl ?_
          refine jo_getrE (pc := 39) ok_10_0 (ik_0 hw) rf_0_0 gw_631 dX10_seek_39 ?_
          refine jo_getrE (pc := 42) ok_8_1 (ik_1 hw) rf_1_1 gw_221 dX10_seek_42 ?_
          refine jo_iload_n (pc := 45) 2 rfl dX10_seek_45 rfl ?_
          refine jo_aaldG (pc := 46) (z := 13) hw (ik_5 hw) (by decide) (t := 4) rfl rfl (by decide) dX10_seek_46 (fun p3 hp3 => ?_)
          refine jo_aload_n (pc := 47) 0 rfl dX10_seek_47 rfl ?_
          refine jo_getrE (pc := 48) ok_10_0 (ik_0 hw) rf_0_0 gw_631 dX10_seek_48 ?_
          refine jo_getrE (pc := 51) ok_8_1 (ik_1 hw) rf_1_1 gw_221 dX10_seek_51 ?_
          refine jo_iload_n (pc := 54) 3 rfl dX10_seek_54 rfl ?_
          refine jo_aaldG (pc := 55) (z := 13) hw (ik_5 hw) (by decide) (t := 4) rfl rfl (by decide) dX10_seek_55 (fun p4 hp4 => ?_)
          refine jo_iload (pc := 56) 4 rfl dX10_seek_56 ?_
          refine jo_cV_Z_i (pc := 58) (μ' := mu_X7_conjugator) (fx := f_X7_conjugator σ 176 p3 p4 x3) (As := [.ref (adr w 176), .ref (adr w p3), .ref (adr w p4), .int x3]) (c_X7_conjugator hw (ik_176 hw) (hp3) (hp4)) (ok_X7_conjugator) (ltb rfl) (all3 gw_901 gw_902 gw_903) (ik_80 hw) (by decide) (q := (RX7, TX7, 11)) rfl rfl rfl rfl (Nat.le_of_ble_eq_true rfl) dX10_seek_58 (fun b5 σ6 => ?_)
          refine jo_joinS (S := Mem) (fun (z7 : Mem) => z7) (fun (z7 : Mem) => []) (fun (z7 : Mem) => []) 76 ?_ (fun h76_7 => ?_)
          · intro σ7
            show JO w mu_X10_seek vB σ7 [] [] 76 (j_X10_seek_76 σ7) _
            unfold j_X10_seek_76
            refine jo_iconst (pc := 76) dX10_seek_76 (ic_i_0) ?_
            exact jo_breturn (pc := 77) (b := false) rfl rfl dX10_seek_77
          · refine jo_ifz_eq (pc := 61) dX10_seek_61 (tgt := 76) rfl ?_ ?_
            · refine jo_lv (lv' := []) [] rfl ?_
              exact jo_leaf (by rfl) (h76_7 σ6)
            · refine jo_aload_n (pc := 64) 0 rfl dX10_seek_64 rfl ?_
              refine jo_iload_n (pc := 65) 1 rfl dX10_seek_65 rfl ?_
              refine jo_cV_Z_i (pc := 66) (μ' := mu_X10_keep) (fx := f_X10_keep σ6 x0) (As := [.int x0]) (c_X10_keep hw) (ok_X10_keep) (ltb rfl) (all3 gw_828 gw_830 gw_15) (ik_0 hw) (by decide) (q := (RX10, TX10, 17)) rfl rfl rfl rfl (Nat.le_of_ble_eq_true rfl) dX10_seek_66 (fun b8 σ9 => ?_)
              refine jo_ifz_eq (pc := 69) dX10_seek_69 (tgt := 76) rfl ?_ ?_
              · refine jo_lv (lv' := []) [] rfl ?_
                exact jo_leaf (by rfl) (h76_7 σ9)
              · refine jo_iconst (pc := 72) dX10_seek_72 (ic_i_1) ?_
                refine jo_goto (pc := 73) dX10_seek_73 (tgt := 77) rfl ?_
                exact jo_breturn (pc := 77) (b := true) rfl rfl dX10_seek_77
        · refine jo_iconst (pc := 28) dX10_seek_28 (ic_i_0) ?_
          exact jo_breturn (pc := 29) (b := false) rfl rfl dX10_seek_29
theorem c_X10_seek {w : Wd} (hw : WOK w) {σ : Mem} {x0 : Int32} {x1 : Int32} {x2 : Int32} {x3 : Int32} : ∀ r σ', f_X10_seek σ x0 x1 x2 x3 = some (r, σ') → MC w mu_X10_seek (vB r) [.ref (adr w 0), .int x0, .int x1, .int x2, .int x3] σ σ' := mc_of ok_X10_seek rfl (Nat.le_of_ble_eq_true rfl) (t_X10_seek hw)
